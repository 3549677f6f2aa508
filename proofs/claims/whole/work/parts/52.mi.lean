section
variable {w : Mm} {m z : Nat} {g : Nat → Int32} {A : Nat → Nat → Int32} {Q : Int32 → Mm → Nat → Prop} {R : Mm → Nat → Prop} {T : Mm → Prop}
theorem R_debt_20 {p : Int32} (h4 : vp_in (A 1 4) 21) : ∀ (n : Nat) (x c : Int32), (A 1 4).toInt = c.toInt + n → 0 ≤ c.toInt → Q (debtR (A 1) p n x c) (rwd w m g A) z → B_X6_debt_20 m p Q (n + 1) x c (rwd w m g A) z := by
  have hb := vp_in_iff.mp h4
  intro n
  induction n with
  | zero =>
    intro x c h1 h2 hq
    unfold B_X6_debt_20
    simp only [cl4]
    exact ⟨_, R_r0, _, _, R_a1, vl4, fun _ => hq, fun hc => absurd (ile.mpr (by omega)) hc⟩
  | succ n ih =>
    intro x c h1 h2 hq
    unfold B_X6_debt_20 B_X6_debt_48
    simp only [cl4]
    have hv : vp_in c 20 := vp_in_iff.mpr (by omega)
    have h5 := cl_succ hv (by omega)
    rw [debtR] at hq
    refine ⟨_, R_r0, _, _, R_a1, vl4, fun hc => absurd (ile.mp hc) (by omega), fun hc => ⟨R_i, L_ofC0 hv ⟨fun h6 => ?_, fun h6 => ⟨R_i, L_due hv ?_⟩⟩⟩⟩
    · rw [if_neg h6] at hq
      exact ih _ _ (by omega) (by omega) hq
    · rw [if_pos h6] at hq
      rintro _ rfl
      exact ih _ _ (by omega) (by omega) hq
theorem G_debt {p : Int32} (hI : Inv (A 1)) (h1 : vp_in p (cl (A 1 2)) → Q (debtR (A 1) p (cl (A 1 4)) 0 0) (rwd w m (upd g 6 0) A) z) (h0 : ¬ vp_in p (cl (A 1 2)) → Q 0 (rwd w m (upd g 6 1) A) z) : F_X6_debt m p (rwd w m g A) z Q := by
  have hB := clI hI.2.1.2.2.2
  exact ⟨R_i, R_noPassenger hI.2.1.2.1 (fun hp => ⟨R_i, R_fails0 ⟨fun _ => ⟨cl (A 1 4) + 1, R_debt_20 hI.2.1.2.2.2 _ _ _ (by rw [i_0]; omega) (by rw [i_0]; omega) (h1 hp)⟩, fun h => absurd rfl h⟩⟩) (fun hp => ⟨R_i, R_fails1 ⟨fun h => absurd h (by decide), fun _ => h0 hp⟩⟩)⟩
theorem R_unp_20 {p : Int32} (h4 : vp_in (A 1 4) 21) : ∀ (n : Nat) (x c : Int32), (A 1 4).toInt = c.toInt + n → 0 ≤ c.toInt → Q (unpR (A 1) p n x c) (rwd w m g A) z → B_X6_unpaidCases_20 m p Q (n + 1) x c (rwd w m g A) z := by
  have hb := vp_in_iff.mp h4
  intro n
  induction n with
  | zero =>
    intro x c h1 h2 hq
    unfold B_X6_unpaidCases_20
    simp only [cl4]
    exact ⟨_, R_r0, _, _, R_a1, vl4, fun _ => hq, fun hc => absurd (ile.mpr (by omega)) hc⟩
  | succ n ih =>
    intro x c h1 h2 hq
    unfold B_X6_unpaidCases_20 B_X6_unpaidCases_53
    simp only [cl4]
    have hv : vp_in c 20 := vp_in_iff.mpr (by omega)
    have h5 := cl_succ hv (by omega)
    rw [unpR] at hq
    refine ⟨_, R_r0, _, _, R_a1, vl4, fun hc => absurd (ile.mp hc) (by omega), fun hc => ⟨R_i, L_ofC0 hv ⟨fun h6 => ?_, fun h6 => ⟨R_i, L_ofC2 hv ⟨fun h7 => ?_, fun h7 => ?_⟩⟩⟩⟩⟩
    · rw [if_neg (fun h => h6 h.1)] at hq
      exact ih _ _ (by omega) (by omega) hq
    · rw [if_neg (fun h => h.2 h7)] at hq
      exact ih _ _ (by omega) (by omega) hq
    · rw [if_pos ⟨h6, h7⟩] at hq
      exact ih _ _ (by omega) (by omega) hq
theorem G_unpaidCases {p : Int32} (hI : Inv (A 1)) (h1 : vp_in p (cl (A 1 2)) → Q (unpR (A 1) p (cl (A 1 4)) 0 0) (rwd w m (upd g 6 0) A) z) (h0 : ¬ vp_in p (cl (A 1 2)) → Q 0 (rwd w m (upd g 6 1) A) z) : F_X6_unpaidCases m p (rwd w m g A) z Q := by
  have hB := clI hI.2.1.2.2.2
  exact ⟨R_i, R_noPassenger hI.2.1.2.1 (fun hp => ⟨R_i, R_fails0 ⟨fun _ => ⟨cl (A 1 4) + 1, R_unp_20 hI.2.1.2.2.2 _ _ _ (by rw [i_0]; omega) (by rw [i_0]; omega) (h1 hp)⟩, fun h => absurd rfl h⟩⟩) (fun hp => ⟨R_i, R_fails1 ⟨fun h => absurd h (by decide), fun _ => h0 hp⟩⟩)⟩
/-! the consistency check -/
def subR (f : Nat → Int32) : Nat → Int32 → Int32 → Int32
  | 0, x, _ => x
  | n + 1, x, t => subR f n (x - f (21 + 13 * cl t)) (t + 1)
theorem subR_mon (f : Nat → Int32) : ∀ (n : Nat) (x y t : Int32), subR f n x t + monR f n y t = x + y := by
  intro n
  induction n with
  | zero => intros; rfl
  | succ n ih =>
    intro x y t
    rw [subR, monR, ih, Int32.add_comm y, ← Int32.add_assoc, Int32.sub_add_cancel]
theorem subR_eq (f : Nat → Int32) (n : Nat) (x t : Int32) : subR f n x t = x - monR f n 0 t := by
  have h := subR_mon f n x 0 t
  rw [Int32.add_zero] at h
  have e := Int32.add_sub_cancel (subR f n x t) (monR f n 0 t)
  rw [h] at e
  exact e.symm
def oddM (f : Nat → Int32) : Nat → Int32 → Int32 → Int32
  | 0, x, _ => x
  | n + 1, x, t => oddM f n (if (f (125 + 6 * cl t + 3) = -1) = (f (125 + 6 * cl t + 5) = 0) then x else x + 1) (t + 1)
theorem oddR_shift (f : Nat → Int32) : ∀ (n : Nat) (x y t : Int32), oddR f n (x + y) t = x + oddR f n y t := by
  intro n
  induction n with
  | zero => intros; rfl
  | succ n ih =>
    intro x y t
    rw [oddR, oddR, ← ih]
    congr 1
    by_cases h : (f (125 + 6 * cl t + 3) = -1) = (f (125 + 6 * cl t + 5) ≤ 0)
    · rw [if_pos h, if_pos h]
    · rw [if_neg h, if_neg h, Int32.add_assoc]
theorem oddM_R {f : Nat → Int32} : ∀ (n : Nat) (x t : Int32), 0 ≤ t.toInt → t.toInt + n ≤ 30 → (∀ k, k < cl t + n → 0 ≤ (f (125 + 6 * k + 5)).toInt) → oddM f n x t = oddR f n x t := by
  intro n
  induction n with
  | zero => intros; rfl
  | succ n ih =>
    intro x t h1 h2 h3
    have hv : vp_in t 30 := vp_in_iff.mpr (by omega)
    have h5 := cl_succ hv (by omega)
    have h6 := h3 (cl t) (by omega)
    have e : (f (125 + 6 * cl t + 5) ≤ 0) = (f (125 + 6 * cl t + 5) = 0) := by
      refine propext ⟨fun h => ?_, fun h => ?_⟩
      · have := ile.mp h
        rw [i_0] at this
        exact ieq.mpr (by rw [i_0]; omega)
      · rw [h]
        exact ile.mpr (Int.le_refl _)
    rw [oddM, oddR]
    have e2 : (if (f (125 + 6 * cl t + 3) = -1) = (f (125 + 6 * cl t + 5) = 0) then x else x + 1) = (if (f (125 + 6 * cl t + 3) = -1) = (f (125 + 6 * cl t + 5) ≤ 0) then x else x + 1) := by
      by_cases hc : (f (125 + 6 * cl t + 3) = -1) = (f (125 + 6 * cl t + 5) = 0)
      · rw [if_pos hc, if_pos (hc.trans e.symm)]
      · rw [if_neg hc, if_neg (fun hh => hc (hh.trans e))]
    rw [e2]
    exact ih _ _ (by omega) (by omega) (fun k hk => h3 k (by omega))
theorem Inv.rides0 {f : Nat → Int32} (h : Inv f) {k : Nat} (hk : k < cl (f 3)) : 0 ≤ (f (125 + 6 * k + 5)).toInt := by
  rcases (h.2.2.2.2.1 k hk).2.2 with h1 | h1
  · rw [h1.2]
    decide
  · omega
def incF (f : Nat → Int32) : Int32 := jabs (f 8 - f 5 - f 6 - monR f (cl (f 2)) 0 0) + oddR f (cl (f 3)) 0 0
theorem R_inc_62 (h3 : vp_in (A 1 3) 31) : ∀ (n : Nat) (x t : Int32), (A 1 3).toInt = t.toInt + n → 0 ≤ t.toInt → Q (oddM (A 1) n x t) (rwd w m g A) z → B_X6_inconsistencies_62 m Q (n + 1) x t (rwd w m g A) z := by
  have hb := vp_in_iff.mp h3
  intro n
  induction n with
  | zero =>
    intro x c h1 h2 hq
    unfold B_X6_inconsistencies_62
    simp only [cl3]
    exact ⟨_, R_r0, _, _, R_a1, vl3, fun _ => hq, fun hc => absurd (ile.mpr (by omega)) hc⟩
  | succ n ih =>
    intro x c h1 h2 hq
    unfold B_X6_inconsistencies_62 B_X6_inconsistencies_87 B_X6_inconsistencies_101 B_X6_inconsistencies_107
    simp only [cl3]
    have hv : vp_in c 30 := vp_in_iff.mpr (by omega)
    have h5 := cl_succ hv (by omega)
    rw [oddM] at hq
    refine ⟨_, R_r0, _, _, R_a1, vl3, fun hc => absurd (ile.mp hc) (by omega), fun hc => ⟨R_i, L_ofT3 hv ⟨fun h6 => ⟨R_i, L_ofT5 hv ⟨fun h7 => ⟨fun _ => ?_, fun h => absurd trivial h⟩, fun h7 => ⟨fun h => absurd h (by decide), fun _ => ?_⟩⟩⟩, fun h6 => ⟨R_i, L_ofT5 hv ⟨fun h7 => ⟨fun h => absurd h (by decide), fun _ => ?_⟩, fun h7 => ⟨fun _ => ?_, fun h => absurd trivial h⟩⟩⟩⟩⟩⟩
    · rw [if_pos (by rw [eq_false h6, eq_false h7])] at hq
      exact ih _ _ (by omega) (by omega) hq
    · rw [if_neg (by rw [eq_false h6, eq_true h7]; exact fun h => (by rw [h]; trivial : False))] at hq
      exact ih _ _ (by omega) (by omega) hq
    · rw [if_neg (by rw [eq_true h6, eq_false h7]; exact fun h => (by rw [← h]; trivial : False))] at hq
      exact ih _ _ (by omega) (by omega) hq
    · rw [if_pos (by rw [eq_true h6, eq_true h7])] at hq
      exact ih _ _ (by omega) (by omega) hq
theorem R_inc_30 (hI : Inv (A 1)) : ∀ (n : Nat) (x t : Int32), (A 1 2).toInt = t.toInt + n → 0 ≤ t.toInt → Q (oddM (A 1) (cl (A 1 3)) (jabs (subR (A 1) n x t)) 0) (rwd w m g A) z → B_X6_inconsistencies_30 m Q (n + 1) x t (rwd w m g A) z := by
  have hb := vp_in_iff.mp hI.2.1.2.1
  have hB3 := clI hI.2.1.2.2.1
  intro n
  induction n with
  | zero =>
    intro x c h1 h2 hq
    unfold B_X6_inconsistencies_30
    simp only [cl2]
    refine ⟨_, R_r0, _, _, R_a1, vl2, fun _ => ?_, fun hc => absurd (ile.mpr (by omega)) hc⟩
    rintro _ rfl
    exact ⟨cl (A 1 3) + 1, R_inc_62 hI.2.1.2.2.1 _ _ _ (by rw [i_0]; omega) (by rw [i_0]; omega) hq⟩
  | succ n ih =>
    intro x c h1 h2 hq
    unfold B_X6_inconsistencies_30
    simp only [cl2]
    have hv : vp_in c 8 := vp_in_iff.mpr (by omega)
    have h5 := cl_succ hv (by omega)
    rw [subR] at hq
    refine ⟨_, R_r0, _, _, R_a1, vl2, fun hc => absurd (ile.mp hc) (by omega), fun hc => ⟨R_i, L_ofP0 hv ?_⟩⟩
    rintro _ rfl
    exact ih _ _ (by omega) (by omega) hq
theorem G_inconsistencies (hI : Inv (A 1)) (hq : Q (incF (A 1)) (rwd w m (upd g 6 0) A) z) : F_X6_inconsistencies m (rwd w m g A) z Q := by
  have hB2 := clI hI.2.1.2.1
  have hB3 := clI hI.2.1.2.2.1
  refine R_p6 ⟨_, R_r0, _, _, R_a1, vl8, _, R_r0, _, _, R_a1, vl5, _, R_r0, _, _, R_a1, vl6, ?_⟩
  simp only [cl8, cl5, cl6]
  rintro _ rfl
  refine ⟨cl (A 1 2) + 1, R_inc_30 hI _ _ _ (by rw [i_0]; omega) (by rw [i_0]; omega) ?_⟩
  rw [subR_eq, oddM_R _ _ _ (by rw [i_0]; omega) (by rw [i_0]; omega) (fun k hk => hI.rides0 (by rw [show cl 0 = 0 from cl0] at hk; omega))]
  have e := oddR_shift (A 1) (cl (A 1 3)) (jabs (A 1 8 - A 1 5 - A 1 6 - monR (A 1) (cl (A 1 2)) 0 0)) 0 0
  rw [Int32.add_zero] at e
  rw [e]
  exact hq
end
section
variable {w w' w'' : Mm} {x z mc ms b : Nat} {Q : Int32 → Mm → Nat → Prop} {R : Mm → Nat → Prop} {X : String → Mm → Nat → Prop} {T : Mm → Prop} {f f' : Nat → Int32} {Fz Fz' : Nat → Prop} {g g' : Nat → Int32} {A A' : Nat → Nat → Int32}
theorem X_inconsistencies (h : CS w x Fz g A) (hq : Q (incF (A 1)) w z) : F_X5_inconsistencies x w z Q := by
  have e := h.I1.2.2.2.2.2.2
  refine ⟨_, h.f0, _, h.F1.g8, _, h.f0, h.is1, h.F1.prices h.I1 ⟨_, h.f0, _, h.F1.g6, _, h.f0, h.is1, h.F1.moneys h.I1 ?_⟩⟩
  rintro _ rfl
  refine ⟨_, h.f0, h.is1, h.F1.odds h.I1 ?_⟩
  rw [← e]
  exact hq
theorem bitc_I (a : Int32) : 0 ≤ (bitc a).toInt ∧ (bitc a).toInt < 64 := by
  have h := vp_in_iff.mp (show vp_in (bitc a) (2 ^ 6) from pk_andIn _ (m := 63) 6 (by decide) (by decide))
  exact ⟨h.1, by omega⟩
theorem price_01 (a : Int32) : priceI 0 a ≤ priceI 1 a := by
  have h := bitc_I a
  have i2 : (200 : Int32).toInt = 200 := by decide
  have i5 : (500 : Int32).toInt = 500 := by decide
  unfold priceI
  rw [if_neg (by decide), if_neg (by decide), if_neg (by decide), if_pos rfl]
  exact ile.mpr (by rw [im _ _ (by rw [i2]; omega) (by rw [i2]; omega), im _ _ (by rw [i5]; omega) (by rw [i5]; omega), i2, i5]; omega)
theorem X_cheapestKind {a b : Int32} (h : CS w x Fz g A) (hm : 10 ≤ mc) (hs : 100 ≤ ms) (hok : vp_in a (cl (A 1 1)) → vp_in b (cl (A 1 1)) → Q (cheapF (A 1) a b) w z) (hx : ¬ (vp_in a (cl (A 1 1)) ∧ vp_in b (cl (A 1 1))) → ∀ z1, z ≤ z1 → X "java/lang/IndexOutOfBoundsException" w z1) : F_X5_cheapestKind x a b w z mc ms Q X := by
  refine ⟨h.is0, 1, 6, by omega, by omega, h.reqStop (by omega) (by omega) (fun ha => ⟨h.is0, 1, 6, by omega, by omega, h.reqStop (by omega) (by omega) (fun hb => ⟨_, h.f0, h.is1, h.F1.zones h.I1 ha hb ⟨3, ?_⟩⟩) (fun hn => hx (fun hh => hn hh.2))⟩) (fun hn => hx (fun hh => hn hh.1))⟩
  have hq := hok ha hb
  unfold cheapF at hq
  unfold B_X5_cheapestKind_26 B_X5_cheapestKind_48 B_X5_cheapestKind_53 B_X5_cheapestKind_79
  refine ⟨fun h => absurd h (by decide), fun _ => ⟨fun _ => ⟨fun h => absurd h (by decide), fun _ => c_price (c_price ⟨fun _ => ?_, fun h => absurd (price_01 _) h⟩)⟩, fun h => absurd h (by decide)⟩⟩
  unfold B_X5_cheapestKind_26 B_X5_cheapestKind_48 B_X5_cheapestKind_53 B_X5_cheapestKind_79
  refine ⟨fun h => absurd h (by decide), fun _ => ⟨fun h => absurd (by decide) h, fun _ => ⟨fun h4 => ⟨fun _ => ?_, fun h => absurd rfl h⟩, fun h4 => ⟨fun h => absurd h (by decide), fun _ => c_price (c_price ⟨fun h5 => ?_, fun h5 => ?_⟩)⟩⟩⟩⟩
  · unfold B_X5_cheapestKind_26
    rw [if_pos h4] at hq
    exact ⟨fun _ => hq, fun h => absurd (by decide) h⟩
  · unfold B_X5_cheapestKind_26
    rw [show (1 + 1 : Int32) = 2 by decide] at h5
    rw [if_neg h4, if_pos h5] at hq
    exact ⟨fun _ => hq, fun h => absurd (by decide) h⟩
  · unfold B_X5_cheapestKind_26
    rw [show (1 + 1 : Int32) = 2 by decide] at h5 ⊢
    rw [if_neg h4, if_neg h5] at hq
    exact ⟨fun _ => hq, fun h => absurd (by decide) h⟩
end
