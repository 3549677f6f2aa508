/-! what the law's isSound asks of the row, beyond Inv -/
def SP (f : Nat → Int32) (p nt : Nat) : Prop := 0 ≤ (f (21 + 13 * p)).toInt ∧ (f (21 + 13 * p + 4) = -1 ∨ (vp_in (f (21 + 13 * p + 4)) nt ∧ f (125 + 6 * cl (f (21 + 13 * p + 4))) = nI p))
def ST (f : Nat → Int32) (t : Nat) : Prop := vp_in (f (125 + 6 * t + 2)) 16 ∧ (f (125 + 6 * t + 4) = -1 ↔ f (125 + 6 * t + 3) = -1)
def amI (s : Int32) : Int32 := if s = 2 then 700 else if s = 3 then 6500 else 6000
def SC (f : Nat → Int32) (c : Nat) : Prop := (1 ≤ (f (305 + 7 * c + 1)).toInt ∧ (f (305 + 7 * c + 1)).toInt ≤ 5) ∧ (¬ f (305 + 7 * c + 2) = 4 → f (305 + 7 * c + 4) = amI (f (305 + 7 * c + 2))) ∧ (f (305 + 7 * c + 2) = 1 ∨ f (305 + 7 * c + 2) = 2 ∨ f (305 + 7 * c + 2) = 3 → 0 ≤ (f (305 + 7 * c + 5)).toInt)
def balF (f : Nat → Int32) : Int32 := f 8 - f 5 - f 6 - monR f (cl (f 2)) 0 0
def Sd (k : Nat) (f : Nat → Int32) : Prop :=
  (1 ≤ (f 1).toInt ∧ 1 ≤ (f 2).toInt) ∧ (∀ p, p < cl (f 2) → SP f p (cl (f 3))) ∧ (∀ t, t < cl (f 3) → ST f t) ∧ (∀ c, c < cl (f 4) → SC f c) ∧ ((f 4).toInt ≤ (f 7).toInt ∧ (f 7).toInt ≤ k) ∧ balF f = 0
section
variable {f f' : Nat → Int32}
theorem vp_cl8 {f : Nat → Int32} (hI : Inv f) {p : Int32} (hp : vp_in p (cl (f 2))) : cl p < 8 := by
  have h1 := clI hI.2.1.2.1
  have h2 := clI hp
  omega
theorem ride_ans {f : Nat → Int32} {p a c t : Int32} (hp : cl p < 8) : beginF f p a c t (21 + 13 * cl p + 3) = f 0 + 2 * jabs (c - a) := by
  have e : rideG f p a c t (21 + 13 * cl p + 3) = f 0 + 2 * jabs (c - a) := by
    unfold rideG
    simp (disch := omega) only [upd_ne, upd_eq]
  by_cases ht : t = -1
  · rw [ht] at e ⊢
    rw [beginF_n]
    exact e
  · rw [beginF_t hp ht]
    split
    · rw [upd_ne (by omega), upd_ne (by omega), upd_ne (by omega)]
      exact e
    · rw [upd_ne (by omega)]
      exact e
theorem nI_vp {p : Int32} {n : Nat} (h : vp_in p n) : nI (cl p) = p := ieq.mpr (by
  have h1 := vp_in_iff.mp h
  have h2 := clI h
  have h3 := ihi p
  rw [nI_toInt (by omega)]
  omega)
theorem SP.to {p nt nt' : Nat} (h : SP f p nt) (h0 : f' (21 + 13 * p) = f (21 + 13 * p)) (h4 : f' (21 + 13 * p + 4) = f (21 + 13 * p + 4)) (hT : ∀ t, t < nt → f' (125 + 6 * t) = f (125 + 6 * t)) (hn : nt ≤ nt') : SP f' p nt' := by
  obtain ⟨a, b⟩ := h
  unfold SP
  rw [h0, h4]
  refine ⟨a, b.imp id (fun u => ⟨vp_le u.1 hn, ?_⟩)⟩
  rw [hT _ (clI u.1).2]
  exact u.2
theorem ST.to {t : Nat} (h : ST f t) (hf : ∀ k, 2 ≤ k → k < 5 → f' (125 + 6 * t + k) = f (125 + 6 * t + k)) : ST f' t := by
  unfold ST
  rw [hf 2 (by omega) (by omega), hf 3 (by omega) (by omega), hf 4 (by omega) (by omega)]
  exact h
theorem SC.to {c : Nat} (h : SC f c) (hf : ∀ k, 1 ≤ k → k < 6 → f' (305 + 7 * c + k) = f (305 + 7 * c + k)) : SC f' c := by
  unfold SC
  rw [hf 1 (by omega) (by omega), hf 2 (by omega) (by omega), hf 4 (by omega) (by omega), hf 5 (by omega) (by omega)]
  exact h
theorem monR_ext : ∀ (n : Nat) (x t : Int32), 0 ≤ t.toInt → t.toInt + n ≤ 8 → (∀ k, cl t ≤ k → k < cl t + n → f' (21 + 13 * k) = f (21 + 13 * k)) → monR f' n x t = monR f n x t := by
  intro n
  induction n with
  | zero => intros; rfl
  | succ n ih =>
    intro x t h1 h2 h
    have hv : vp_in t 8 := vp_in_iff.mpr (by omega)
    have h5 := cl_succ hv (by omega)
    rw [monR, monR, h (cl t) (by omega) (by omega), ih _ _ (by omega) (by omega) (fun k h3 h4 => h k (by omega) (by omega))]
theorem monR_shift (f : Nat → Int32) : ∀ (n : Nat) (x y t : Int32), monR f n (x + y) t = x + monR f n y t := by
  intro n
  induction n with
  | zero => intros; rfl
  | succ n ih =>
    intro x y t
    rw [monR, monR, ← ih, Int32.add_assoc]
theorem monR_at {p : Nat} {v : Int32} : ∀ (n : Nat) (x t : Int32), 0 ≤ t.toInt → t.toInt + n ≤ 8 → cl t ≤ p → p < cl t + n → (∀ k, k < 8 → k ≠ p → f' (21 + 13 * k) = f (21 + 13 * k)) → f' (21 + 13 * p) = f (21 + 13 * p) - v → monR f' n x t = monR f n x t - v := by
  intro n
  induction n with
  | zero => intro x t _ _ h3 h4; omega
  | succ n ih =>
    intro x t h1 h2 h3 h4 h hv
    have hv8 : vp_in t 8 := vp_in_iff.mpr (by omega)
    have h5 := cl_succ hv8 (by omega)
    have c5 := clI hv8
    rw [monR, monR]
    by_cases e : cl t = p
    · rw [e, hv, monR_ext n _ _ (by omega) (by omega) (fun k h6 h7 => h k (by omega) (by omega))]
      have e2 : x + (f (21 + 13 * p) - v) = -v + (x + f (21 + 13 * p)) := by
        rw [Int32.sub_eq_add_neg, ← Int32.add_assoc, Int32.add_comm]
      rw [e2, monR_shift, Int32.sub_eq_add_neg, Int32.add_comm]
    · rw [h (cl t) (by omega) e]
      exact ih _ _ (by omega) (by omega) (by omega) (by omega) h hv
theorem bal_a (a b c m v : Int32) : a - (b + v) - c - (m - v) = a - b - c - m := by
  grind
theorem bal_b (a b c m v : Int32) : a - b - (c + v) - (m - v) = a - b - c - m := by
  grind
theorem Sd.ext {k : Nat} (h : Sd k f) (hI : Inv f) (he : ∀ j, j < 445 → f' j = f j) : Sd k f' := by
  obtain ⟨h1, hP, hT, hC, h7, hb⟩ := h
  have hB2 := clI hI.2.1.2.1
  have hB3 := clI hI.2.1.2.2.1
  have hB4 := clI hI.2.1.2.2.2
  have i0 : cl (0 : Int32) = 0 := cl0
  unfold Sd balF
  rw [he 1 (by omega), he 2 (by omega), he 3 (by omega), he 4 (by omega), he 5 (by omega), he 6 (by omega), he 7 (by omega), he 8 (by omega)]
  refine ⟨h1, fun p hp => (hP p hp).to (he _ (by omega)) (he _ (by omega)) (fun t ht => he _ (by omega)) (Nat.le_refl _), fun t ht => (hT t ht).to (fun k _ _ => he _ (by omega)), fun c hc => (hC c hc).to (fun k _ _ => he _ (by omega)), h7, ?_⟩
  rw [monR_ext _ _ _ (by rw [i_0]; omega) (by rw [i_0]; omega) (fun j _ _ => he _ (by omega))]
  exact hb
theorem Sd.le {k k' : Nat} (h : Sd k f) (hk : k ≤ k') : Sd k' f := by
  obtain ⟨h1, hP, hT, hC, h7, hb⟩ := h
  exact ⟨h1, hP, hT, hC, ⟨h7.1, by omega⟩, hb⟩
theorem price_nn (k x : Int32) : 0 ≤ (priceI k x).toInt ∧ (priceI k x).toInt ≤ 31500 := by
  have h := bitc_I x
  have i2 : (200 : Int32).toInt = 200 := by decide
  have i5 : (500 : Int32).toInt = 500 := by decide
  unfold priceI
  split
  · decide
  · split
    · rw [im _ _ (by rw [i5]; omega) (by rw [i5]; omega), i5]
      omega
    · rw [im _ _ (by rw [i2]; omega) (by rw [i2]; omega), i2]
      omega
theorem due_nn {c : Int32} (hI : Inv f) (hc : vp_in c (cl (f 4))) : 0 ≤ (dueF f c).toInt ∧ (dueF f c).toInt ≤ 8000 := by
  obtain ⟨a, b, d, g1, g2, g3⟩ := hI.2.2.2.2.2.1 _ (clI hc).2
  have i2 : (1500 : Int32).toInt = 1500 := by decide
  unfold dueF
  split
  · decide
  · split
    · omega
    · rw [ia _ _ (by rw [i2]; omega) (by rw [i2]; omega), i2]
      omega
theorem fault_r (f : Nat → Int32) (p : Int32) : 0 ≤ (faultF f p).toInt ∧ (faultF f p).toInt ≤ 5 := by
  unfold faultF
  simp only
  repeat' split
  all_goals decide
theorem mayBuy_1 {p k x : Int32} (h : ¬ mayBuyF f p k x = 0) : ¬ 30 ≤ f 3 ∧ ¬ f (21 + 13 * cl p) < priceI k x := by
  unfold mayBuyF at h
  by_cases h1 : 30 ≤ f 3
  · rw [if_pos h1] at h
    exact absurd rfl h
  · rw [if_neg h1] at h
    refine ⟨h1, fun h2 => ?_⟩
    rw [if_pos h2] at h
    exact absurd rfl h
theorem Sd.buy {k : Nat} {p kd x : Int32} (h : Sd k f) (hI : Inv f) (hp : vp_in p (cl (f 2))) (hx : 1 ≤ x.toInt ∧ x.toInt ≤ 15) (hb : ¬ mayBuyF f p kd x = 0) : Sd k (buyF f p kd x) := by
  obtain ⟨h1, hP, hT, hC, h7, hbal⟩ := h
  obtain ⟨b1, b2⟩ := mayBuy_1 hb
  have hB := hI.2.1
  have hB1 := clI hB.1
  have hB2 := clI hB.2.1
  have hB3 := clI hB.2.2.1
  have hB4 := clI hB.2.2.2
  have p1 := clI hp
  have ht : vp_in (f 3) 30 := by
    have hB3 := vp_in_iff.mp hB.2.2.1
    have i30 : (30 : Int32).toInt = 30 := by decide
    have : ¬ (30 : Int32).toInt ≤ (f 3).toInt := fun h => b1 (ile.mpr h)
    exact vp_in_iff.mpr (by omega)
  have t1 := clI ht
  have t2 := cl_succ ht (by omega)
  have pr := price_nn kd x
  have f3 : buyF f p kd x 3 = f 3 + 1 := by simp (disch := omega) only [buyF, upd_ne, upd_eq]
  have f5 : buyF f p kd x 5 = f 5 + priceI kd x := by simp (disch := omega) only [buyF, upd_ne, upd_eq]
  have fm : buyF f p kd x (21 + 13 * cl p) = f (21 + 13 * cl p) - priceI kd x := by simp (disch := omega) only [buyF, upd_ne, upd_eq]
  have fH : ∀ j, j < 21 → j ≠ 3 → j ≠ 5 → buyF f p kd x j = f j := fun j _ _ _ => by simp (disch := omega) only [buyF, upd_ne]
  have fC : ∀ j, 305 ≤ j → buyF f p kd x j = f j := fun j _ => by simp (disch := omega) only [buyF, upd_ne]
  have fT : ∀ j, 125 ≤ j → j < 125 + 6 * cl (f 3) → buyF f p kd x j = f j := fun j _ _ => by simp (disch := omega) only [buyF, upd_ne]
  have fP : ∀ j, 21 ≤ j → j < 125 → j ≠ 21 + 13 * cl p → buyF f p kd x j = f j := fun j _ _ _ => by simp (disch := omega) only [buyF, upd_ne]
  unfold Sd balF
  rw [fH 1 (by omega) (by omega) (by omega), fH 2 (by omega) (by omega) (by omega), fH 4 (by omega) (by omega) (by omega), fH 6 (by omega) (by omega) (by omega), fH 7 (by omega) (by omega) (by omega), fH 8 (by omega) (by omega) (by omega), f3, f5, t2.1]
  refine ⟨h1, fun q hq => ?_, fun t ht => ?_, fun c hc => (hC c hc).to (fun k _ _ => fC _ (by omega)), h7, ?_⟩
  · by_cases e : q = cl p
    · subst e
      obtain ⟨a1, a2⟩ := hP _ hq
      have b3 : ¬ (f (21 + 13 * cl p)).toInt < (priceI kd x).toInt := fun h => b2 (ilt.mpr h)
      refine ⟨?_, ?_⟩
      · rw [fm, isb _ _ (by omega) (by have := ihi (f (21 + 13 * cl p)); omega)]
        omega
      · rw [fP _ (by omega) (by omega) (by omega)]
        exact a2.imp id (fun u => ⟨vp_le u.1 (by omega), by
          have := (clI u.1).2
          rw [fT _ (by omega) (by omega)]
          exact u.2⟩)
    · exact (hP q hq).to (fP _ (by omega) (by omega) (by omega)) (fP _ (by omega) (by omega) (by omega)) (fun t ht => fT _ (by omega) (by omega)) (by omega)
  · by_cases e : t = cl (f 3)
    · subst e
      unfold ST
      simp (disch := omega) only [buyF, upd_ne, upd_eq]
      exact ⟨vp_in_iff.mpr (by omega), trivial⟩
    · exact (hT t (by omega)).to (fun k _ _ => fT _ (by omega) (by omega))
  · rw [monR_at (f := f) (p := cl p) (v := priceI kd x) _ _ _ (by rw [i_0]; omega) (by rw [i_0]; omega) (by rw [show cl (0 : Int32) = 0 from cl0]; omega) (by rw [show cl (0 : Int32) = 0 from cl0]; omega) (fun k h8 hk => fP _ (by omega) (by omega) (by omega)) fm, bal_a]
    exact hbal
theorem Sd.wait {k : Nat} {n : Int32} (h : Sd k f) (hI : Inv f) : Sd k (waitF f n) := by
  obtain ⟨h1, hP, hT, hC, h7, hbal⟩ := h
  have hB2 := clI hI.2.1.2.1
  have e : ∀ j, 0 < j → waitF f n j = f j := fun j hj => upd_ne (by omega)
  unfold Sd balF
  rw [e 1 (by omega), e 2 (by omega), e 3 (by omega), e 4 (by omega), e 5 (by omega), e 6 (by omega), e 7 (by omega), e 8 (by omega)]
  refine ⟨h1, fun q hq => (hP q hq).to (e _ (by omega)) (e _ (by omega)) (fun t ht => e _ (by omega)) (Nat.le_refl _), fun t ht => (hT t ht).to (fun k _ _ => e _ (by omega)), fun c hc => (hC c hc).to (fun k _ _ => e _ (by omega)), h7, ?_⟩
  rw [monR_ext _ _ _ (by rw [i_0]; omega) (by rw [i_0]; omega) (fun j _ _ => e _ (by omega))]
  exact hbal
theorem Sd.appeal {k : Nat} {c t : Int32} (h : Sd k f) (hI : Inv f) (hc : vp_in c (cl (f 4))) (ht : vp_in t (cl (f 3))) (ho : f (305 + 7 * cl c + 2) = 0) : Sd k (appealF f c t) := by
  obtain ⟨h1, hP, hT, hC, h7, hbal⟩ := h
  have hB2 := clI hI.2.1.2.1
  have hB3 := clI hI.2.1.2.2.1
  have hB4 := clI hI.2.1.2.2.2
  have c1 := clI hc
  have t1 := vp_in_iff.mp ht
  have e : ∀ j, j < 305 → appealF f c t j = f j := fun j hj => appealF_out hj
  unfold Sd balF
  rw [e 1 (by omega), e 2 (by omega), e 3 (by omega), e 4 (by omega), e 5 (by omega), e 6 (by omega), e 7 (by omega), e 8 (by omega)]
  refine ⟨h1, fun q hq => (hP q hq).to (e _ (by omega)) (e _ (by omega)) (fun t ht => e _ (by omega)) (Nat.le_refl _), fun t ht => (hT t ht).to (fun k _ _ => e _ (by omega)), fun q hq => ?_, h7, ?_⟩
  · by_cases hqc : q = cl c
    · subst hqc
      obtain ⟨a1, a2, a3⟩ := hC _ hq
      have a4 := a2 (by rw [ho]; decide)
      rw [ho] at a4
      unfold SC
      simp (disch := omega) only [appealF, upd_ne, upd_eq]
      exact ⟨a1, fun _ => a4, fun _ => t1.1⟩
    · exact (hC q hq).to (fun k _ _ => by simp (disch := omega) only [appealF, upd_ne])
  · rw [monR_ext _ _ _ (by rw [i_0]; omega) (by rw [i_0]; omega) (fun j _ _ => e _ (by rw [show cl (0 : Int32) = 0 from cl0] at *; omega))]
    exact hbal
theorem Sd.decide {k : Nat} {c : Int32} (h : Sd k f) (hI : Inv f) (hc : vp_in c (cl (f 4))) (ho : f (305 + 7 * cl c + 2) = 1) : Sd k (decideF f c) := by
  obtain ⟨h1, hP, hT, hC, h7, hbal⟩ := h
  have hB2 := clI hI.2.1.2.1
  have hB3 := clI hI.2.1.2.2.1
  have hB4 := clI hI.2.1.2.2.2
  have c1 := clI hc
  have e : ∀ j, j < 305 → decideF f c j = f j := fun j hj => decideF_out (by omega)
  unfold Sd balF
  rw [e 1 (by omega), e 2 (by omega), e 3 (by omega), e 4 (by omega), e 5 (by omega), e 6 (by omega), e 7 (by omega), e 8 (by omega)]
  refine ⟨h1, fun q hq => (hP q hq).to (e _ (by omega)) (e _ (by omega)) (fun t ht => e _ (by omega)) (Nat.le_refl _), fun t ht => (hT t ht).to (fun k _ _ => e _ (by omega)), fun q hq => ?_, h7, ?_⟩
  · by_cases hqc : q = cl c
    · subst hqc
      obtain ⟨a1, a2, a3⟩ := hC _ hq
      have a4 := a2 (by rw [ho]; decide)
      rw [ho] at a4
      have a5 := a3 (Or.inl ho)
      unfold SC
      rcases judged_or (f := f) (c := c) (t := f (305 + 7 * cl c + 5)) with hj | hj
      · unfold decideF
        simp only [hj, if_true]
        simp (disch := omega) only [upd_ne, upd_eq]
        exact ⟨a1, fun _ => rfl, fun _ => a5⟩
      · unfold decideF
        simp only [hj, n32, if_false]
        simp (disch := omega) only [upd_ne, upd_eq, a4]
        exact ⟨a1, fun _ => rfl, fun _ => a5⟩
    · exact (hC q hq).to (fun k _ _ => decideF_out (by omega))
  · rw [monR_ext _ _ _ (by rw [i_0]; omega) (by rw [i_0]; omega) (fun j _ _ => e _ (by rw [show cl (0 : Int32) = 0 from cl0] at *; omega))]
    exact hbal
theorem mayPay_1 {c : Int32} (h : ¬ mayPayF f c = 0) : ¬ f (305 + 7 * cl c + 2) = 1 ∧ ¬ f (305 + 7 * cl c + 2) = 4 ∧ ¬ f (21 + 13 * cl (f (305 + 7 * cl c))) < dueF f c := by
  unfold mayPayF at h
  by_cases h1 : f (305 + 7 * cl c + 2) = 1
  · rw [if_pos h1] at h
    exact absurd rfl h
  · rw [if_neg h1] at h
    by_cases h2 : f (305 + 7 * cl c + 2) = 4
    · rw [if_pos h2] at h
      exact absurd rfl h
    · rw [if_neg h2] at h
      refine ⟨h1, h2, fun h3 => ?_⟩
      rw [if_pos h3] at h
      exact absurd rfl h
theorem Sd.pay {k : Nat} {c : Int32} (h : Sd k f) (hI : Inv f) (hc : vp_in c (cl (f 4))) (hb : ¬ mayPayF f c = 0) : Sd k (payF f c) := by
  obtain ⟨h1, hP, hT, hC, h7, hbal⟩ := h
  obtain ⟨m1, m2, m3⟩ := mayPay_1 hb
  have hB1 := clI hI.2.1.1
  have hB2 := clI hI.2.1.2.1
  have hB3 := clI hI.2.1.2.2.1
  have hB4 := clI hI.2.1.2.2.2
  have c1 := clI hc
  have w1 := clI (hI.2.2.2.2.2.1 _ c1.2).1
  have dn := due_nn hI hc
  have e : ∀ j, j ≠ 21 + 13 * cl (f (305 + 7 * cl c)) → j ≠ 305 + 7 * cl c + 2 → j ≠ 6 → payF f c j = f j := fun j h1 h2 h3 => payF_out h1 h2 h3
  have e6 : payF f c 6 = f 6 + dueF f c := by simp (disch := omega) only [payF, upd_ne, upd_eq]
  have em : payF f c (21 + 13 * cl (f (305 + 7 * cl c))) = f (21 + 13 * cl (f (305 + 7 * cl c))) - dueF f c := by simp (disch := omega) only [payF, upd_ne, upd_eq]
  unfold Sd balF
  rw [e 1 (by omega) (by omega) (by omega), e 2 (by omega) (by omega) (by omega), e 3 (by omega) (by omega) (by omega), e 4 (by omega) (by omega) (by omega), e 5 (by omega) (by omega) (by omega), e6, e 7 (by omega) (by omega) (by omega), e 8 (by omega) (by omega) (by omega)]
  refine ⟨h1, fun q hq => ?_, fun t ht => (hT t ht).to (fun k _ _ => e _ (by omega) (by omega) (by omega)), fun q hq => ?_, h7, ?_⟩
  · by_cases hqp : q = cl (f (305 + 7 * cl c))
    · subst hqp
      obtain ⟨a1, a2⟩ := hP _ hq
      have b3 : ¬ (f (21 + 13 * cl (f (305 + 7 * cl c)))).toInt < (dueF f c).toInt := fun h => m3 (ilt.mpr h)
      refine ⟨?_, ?_⟩
      · rw [em, isb _ _ (by omega) (by have := ihi (f (21 + 13 * cl (f (305 + 7 * cl c)))); omega)]
        omega
      · rw [e _ (by omega) (by omega) (by omega)]
        exact a2.imp id (fun u => ⟨u.1, by
          have := (clI u.1).2
          rw [e _ (by omega) (by omega) (by omega)]
          exact u.2⟩)
    · exact (hP q hq).to (e _ (by omega) (by omega) (by omega)) (e _ (by omega) (by omega) (by omega)) (fun t ht => e _ (by omega) (by omega) (by omega)) (Nat.le_refl _)
  · by_cases hqc : q = cl c
    · subst hqc
      obtain ⟨a1, a2, a3⟩ := hC _ hq
      unfold SC
      rw [show payF f c (305 + 7 * cl c + 2) = 4 by simp (disch := omega) only [payF, upd_ne, upd_eq], e _ (by omega : 305 + 7 * cl c + 1 ≠ _) (by omega) (by omega)]
      exact ⟨a1, fun h => absurd rfl h, fun h => absurd h (by decide)⟩
    · exact (hC q hq).to (fun k _ _ => e _ (by omega) (by omega) (by omega))
  · rw [monR_at (f := f) (p := cl (f (305 + 7 * cl c))) (v := dueF f c) _ _ _ (by rw [i_0]; omega) (by rw [i_0]; omega) (by rw [show cl (0 : Int32) = 0 from cl0]; omega) (by rw [show cl (0 : Int32) = 0 from cl0]; omega) (fun k h8 hk => e _ (by omega) (by omega) (by omega)) em, bal_b]
    exact hbal
theorem Sd.insp {k : Nat} {p : Int32} (h : Sd k f) (hI : Inv f) (hp : vp_in p (cl (f 2))) (hc : vp_in (f 4) 20) (hk : k < 100000) : Sd (k + 1) (inspectF f p) := by
  obtain ⟨h1, hP, hT, hC, h7, hbal⟩ := h
  have hB1 := clI hI.2.1.1
  have hB2 := clI hI.2.1.2.1
  have hB3 := clI hI.2.1.2.2.1
  have hB4 := clI hI.2.1.2.2.2
  have p1 := clI hp
  have c1 := clI hc
  have c2 := cl_succ hc (by omega)
  have e7 : (f 7 + 1).toInt = (f 7).toInt + 1 := by
    rw [ia _ _ (by rw [i_1]; omega) (by rw [i_1]; omega), i_1]
  have g : ∀ j, j ≠ 7 → j ≠ 21 + 13 * cl p + 5 → inspG f p j = f j := fun j h1 h2 => inspG_out h1 h2
  have g7 : inspG f p 7 = f 7 + 1 := by
    unfold inspG
    rw [upd_ne (by omega), upd_eq]
  by_cases hr : faultF f p = 0
  · rw [inspectF_0 hr]
    unfold Sd balF
    rw [g 1 (by omega) (by omega), g 2 (by omega) (by omega), g 3 (by omega) (by omega), g 4 (by omega) (by omega), g 5 (by omega) (by omega), g 6 (by omega) (by omega), g7, g 8 (by omega) (by omega)]
    refine ⟨h1, fun q hq => (hP q hq).to (g _ (by omega) (by omega)) (g _ (by omega) (by omega)) (fun t ht => g _ (by omega) (by omega)) (Nat.le_refl _), fun t ht => (hT t ht).to (fun k _ _ => g _ (by omega) (by omega)), fun q hq => (hC q hq).to (fun k _ _ => g _ (by omega) (by omega)), ⟨by omega, by omega⟩, ?_⟩
    rw [monR_ext _ _ _ (by rw [i_0]; omega) (by rw [i_0]; omega) (fun j _ _ => g _ (by omega) (by omega))]
    exact hbal
  · have g4 : inspG f p 4 = f 4 := g _ (by omega) (by omega)
    obtain ⟨v, hv⟩ := inspectF_1 hr g4 hc (by omega)
    have fr := fault_r f p
    have hr' : ¬ (faultF f p).toInt = 0 := fun e => hr (ieq.mpr (by rw [e, i_0]))
    rw [hv]
    generalize hf' : upd (upd (upd (upd (upd (upd (upd (upd (inspG f p) (305 + 7 * cl (f 4)) p) (305 + 7 * cl (f 4) + 1) (faultF f p)) (305 + 7 * cl (f 4) + 2) 0) (305 + 7 * cl (f 4) + 3) (f 0)) (305 + 7 * cl (f 4) + 4) 6000) (305 + 7 * cl (f 4) + 5) (-1)) (305 + 7 * cl (f 4) + 6) v) 4 (f 4 + 1) = f'
    have e : ∀ j, j ≠ 4 → (j < 305 + 7 * cl (f 4) ∨ 305 + 7 * cl (f 4) + 7 ≤ j) → f' j = inspG f p j := fun j h1 h2 => by
      rw [← hf']
      simp (disch := omega) only [upd_ne]
    have e4 : f' 4 = f 4 + 1 := by
      rw [← hf', upd_eq]
    have e' : ∀ j, j ≠ 4 → (j < 305 + 7 * cl (f 4) ∨ 305 + 7 * cl (f 4) + 7 ≤ j) → j ≠ 7 → j ≠ 21 + 13 * cl p + 5 → f' j = f j := fun j h1 h2 h3 h4 => (e j h1 h2).trans (g j h3 h4)
    unfold Sd balF
    rw [e4, c2.1, e' 1 (by omega) (by omega) (by omega) (by omega), e' 2 (by omega) (by omega) (by omega) (by omega), e' 3 (by omega) (by omega) (by omega) (by omega), e' 5 (by omega) (by omega) (by omega) (by omega), e' 6 (by omega) (by omega) (by omega) (by omega), e 7 (by omega) (by omega), g7, e' 8 (by omega) (by omega) (by omega) (by omega)]
    refine ⟨h1, fun q hq => (hP q hq).to (e' _ (by omega) (by omega) (by omega) (by omega)) (e' _ (by omega) (by omega) (by omega) (by omega)) (fun t ht => e' _ (by omega) (by omega) (by omega) (by omega)) (Nat.le_refl _), fun t ht => (hT t ht).to (fun k _ _ => e' _ (by omega) (by omega) (by omega) (by omega)), fun q hq => ?_, ⟨by omega, by omega⟩, ?_⟩
    · by_cases hqc : q = cl (f 4)
      · subst hqc
        unfold SC
        rw [← hf']
        simp (disch := omega) only [upd_ne, upd_eq]
        exact ⟨⟨by omega, fr.2⟩, fun _ => rfl, fun h => absurd h (by decide)⟩
      · exact (hC q (by omega)).to (fun k _ _ => e' _ (by omega) (by omega) (by omega) (by omega))
    · rw [monR_ext _ _ _ (by rw [i_0]; omega) (by rw [i_0]; omega) (fun j _ _ => e' _ (by omega) (by rw [show cl (0 : Int32) = 0 from cl0] at *; omega) (by omega) (by omega))]
      exact hbal
theorem Sd.begin {k : Nat} {p a c t : Int32} (h : Sd k f) (hI : Inv f) (hp : vp_in p (cl (f 2))) (ha : vp_in a (cl (f 1))) (ht : t = -1 ∨ (vp_in t (cl (f 3)) ∧ f (125 + 6 * cl t) = p)) : Sd k (beginF f p a c t) := by
  obtain ⟨h1, hP, hT, hC, h7, hbal⟩ := h
  have hB1 := clI hI.2.1.1
  have hB2 := clI hI.2.1.2.1
  have hB3 := clI hI.2.1.2.2.1
  have hB4 := clI hI.2.1.2.2.2
  have p1 := clI hp
  have np := nI_vp hp
  have g : ∀ j, (j < 21 + 13 * cl p + 1 ∨ 21 + 13 * cl p + 6 ≤ j) → rideG f p a c t j = f j := fun j h1 => rideG_out h1
  have gt : rideG f p a c t (21 + 13 * cl p + 4) = t := by simp (disch := omega) only [rideG, upd_ne, upd_eq]
  have key : ∀ f' : Nat → Int32, (∀ j, (j < 125 ∨ ¬ t = -1 → (j < 125 + 6 * cl t + 3 ∨ 125 + 6 * cl t + 6 ≤ j)) → f' j = rideG f p a c t j) → (∀ q, q < cl (f 3) → ST f' q) → Sd k f' := by
    intro f' o hT'
    have e : ∀ j, (j < 21 + 13 * cl p + 1 ∨ 21 + 13 * cl p + 6 ≤ j) → (j < 125 ∨ 305 ≤ j ∨ (j - 125) % 6 = 0) → f' j = f j := fun j h1 h2 => by
      rw [o j (fun h => ?_), g j h1]
      by_cases h3 : j < 125
      · omega
      · have ht' : vp_in t (cl (f 3)) := by
          rcases h with h | h
          · exact absurd h h3
          · exact (ht.resolve_left h).1
        have := clI ht'
        omega
    have o4 : f' (21 + 13 * cl p + 4) = t := by
      rw [o _ (fun h => by omega), gt]
    unfold Sd balF
    rw [e 1 (by omega) (by omega), e 2 (by omega) (by omega), e 3 (by omega) (by omega), e 4 (by omega) (by omega), e 5 (by omega) (by omega), e 6 (by omega) (by omega), e 7 (by omega) (by omega), e 8 (by omega) (by omega)]
    refine ⟨h1, fun q hq => ?_, hT', fun q hq => (hC q hq).to (fun k _ _ => e _ (by omega) (by omega)), h7, ?_⟩
    · by_cases hqp : q = cl p
      · subst hqp
        obtain ⟨a1, a2⟩ := hP _ hq
        refine ⟨by rw [e _ (by omega) (by omega)]; exact a1, ?_⟩
        rw [o4]
        refine ht.imp id (fun u => ⟨u.1, ?_⟩)
        have := clI u.1
        rw [e _ (by omega) (by omega), np]
        exact u.2
      · exact (hP q hq).to (e _ (by omega) (by omega)) (e _ (by omega) (by omega)) (fun t ht => e _ (by omega) (by omega)) (Nat.le_refl _)
    · rw [monR_ext _ _ _ (by rw [i_0]; omega) (by rw [i_0]; omega) (fun j _ _ => e _ (by rw [show cl (0 : Int32) = 0 from cl0] at *; omega) (by rw [show cl (0 : Int32) = 0 from cl0] at *; omega))]
      exact hbal
  rcases ht with rfl | ⟨ht, hh⟩
  · rw [beginF_n]
    exact key _ (fun j _ => rfl) (fun q hq => (hT q hq).to (fun k _ _ => g _ (by omega)))
  · have t1 := clI ht
    have tm := vp_m1 ht
    have am := vp_m1 ha
    have cm : ¬ f 0 = -1 := fun e => by
      have := hI.1.1
      rw [e, i_m1] at this
      omega
    rw [beginF_t (by omega) tm]
    split
    · refine key _ (fun j hj => ?_) (fun q hq => ?_)
      · by_cases h3 : j < 125
        · simp (disch := omega) only [upd_ne]
        · have := hj (Or.inr tm)
          simp (disch := omega) only [upd_ne]
      · by_cases hqt : q = cl t
        · subst hqt
          unfold ST
          simp (disch := omega) only [upd_ne, upd_eq]
          rw [g _ (by omega)]
          exact ⟨(hT _ hq).1, fun h => absurd h am, fun h => absurd h cm⟩
        · exact (hT q hq).to (fun k _ _ => by
            simp (disch := omega) only [upd_ne]
            exact g _ (by omega))
    · refine key _ (fun j hj => ?_) (fun q hq => ?_)
      · by_cases h3 : j < 125
        · simp (disch := omega) only [upd_ne]
        · have := hj (Or.inr tm)
          simp (disch := omega) only [upd_ne]
      · exact (hT q hq).to (fun k _ _ => by
          simp (disch := omega) only [upd_ne]
          exact g _ (by omega))
theorem odd0 : ∀ (n : Nat) (x t : Int32), 0 ≤ t.toInt → t.toInt + n ≤ 30 → (∀ k, k < cl t + n → ((f (125 + 6 * k + 3) = -1 ∧ f (125 + 6 * k + 5) = 0) ∨ (0 ≤ (f (125 + 6 * k + 3)).toInt ∧ 0 < (f (125 + 6 * k + 5)).toInt))) → oddR f n x t = x := by
  intro n
  induction n with
  | zero => intros; rfl
  | succ n ih =>
    intro x t h1 h2 h
    have hv : vp_in t 30 := vp_in_iff.mpr (by omega)
    have h5 := cl_succ hv (by omega)
    rw [oddR, if_pos, ih _ _ (by omega) (by omega) (fun k hk => h k (by omega))]
    rcases h (cl t) (by omega) with ⟨a, b⟩ | ⟨a, b⟩
    · rw [a, b]
      exact propext ⟨fun _ => by decide, fun _ => rfl⟩
    · refine propext ⟨fun e => ?_, fun e => ?_⟩
      · rw [e, i_m1] at a
        omega
      · have := ile.mp e
        rw [i_0] at this
        omega
theorem Sd.inc0 {k : Nat} (h : Sd k f) (hI : Inv f) : incF f = 0 := by
  have hB3 := clI hI.2.1.2.2.1
  unfold incF
  have e : f 8 - f 5 - f 6 - monR f (cl (f 2)) 0 0 = 0 := h.2.2.2.2.2
  rw [e, odd0 _ _ _ (by rw [i_0]; omega) (by rw [i_0]; omega) (fun j hj => by
    have := (hI.2.2.2.2.1 j (by rw [show cl (0 : Int32) = 0 from cl0] at hj; omega)).2.2
    exact this.imp id (fun u => ⟨u.1, u.2.1⟩))]
  decide
end
