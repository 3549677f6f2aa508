/-! the law's acts -/
theorem vp_r {r n : Int32} (h0 : 0 ≤ r.toInt) (h1 : r.toInt < n.toInt) : vp_in r (cl n) := vp_in_iff.mpr (by
  have h2 : cl n = n.toInt.toNat := rfl
  omega)
section
variable {w w' : Mm} {x z d b k mc ms : Nat} {Q : Int32 → Mm → Nat → Prop} {Fz : Nat → Prop} {g g' : Nat → Int32} {A A' : Nat → Nat → Int32} {c0 : Bool × Ce} {p a c t n kd y : Int32}
theorem AW.buy (h : AW b c0 d x Fz g A k w) (hp : vp_in p (cl (A 1 2))) (hk : vp_in kd 3) (hx : 1 ≤ y.toInt ∧ y.toInt ≤ 15)
    (hok : ¬ mayBuyF (A 1) p kd y = 0 → ∀ g' A' w', AW b c0 d x Fz g' A' k w' → A' 1 = buyF (A 1) p kd y → Q (A 1 3) w' z)
    (hno : mayBuyF (A 1) p kd y = 0 → ∀ z1, Q (-19) w z1) : F_L_buy x p kd y w z 10 100 Q :=
  ⟨h.cs.is0, 10, 100, Nat.le_refl _, Nat.le_refl _, h.cs.buy h.2.1 (Nat.le_refl _) (Nat.le_refl _) (fun _ _ _ hb w' hC' hF => hok hb _ _ w' (h.chg hC' hF (by rw [updA_eq]; exact h.sd.buy h.cs.I1 hp hx hb)) (updA_eq _ _ _)) (fun hn => absurd hp hn) (fun _ hn => absurd ⟨hk, hx⟩ hn) (fun _ _ _ hb z1 _ => t189 (hno hb z1))⟩
theorem AW.ride (h : AW b c0 d x Fz g A k w) (hp : vp_in p (cl (A 1 2))) (ha : vp_in a (cl (A 1 1))) (hc : vp_in c (cl (A 1 1))) (ht : ¬ t = -1 → vp_in t (cl (A 1 3)))
    (hok : ¬ a = c → ¬ mayRideF (A 1) p t = 0 → ∀ g' A' w', AW b c0 d x Fz g' A' k w' → A' 1 = beginF (A 1) p a c t → Q (A 1 0 + 2 * jabs (c - a)) w' z)
    (h18 : a = c → ∀ z1, Q (-18) w z1) (h19 : ¬ a = c → mayRideF (A 1) p t = 0 → ∀ z1, Q (-19) w z1) : F_L_ride x p a c t w z 10 100 Q := by
  refine ⟨h.cs.is0, 10, 100, Nat.le_refl _, Nat.le_refl _, h.cs.ride h.2.1 (Nat.le_refl _) (Nat.le_refl _) (fun _ _ _ _ hac hb w' hC' hF => hok hac hb _ _ w' (h.chg hC' hF ?_) (updA_eq _ _ _)) (fun hn => absurd ⟨hp, ha, hc, ht⟩ hn) (fun _ _ _ _ hac z1 _ => t18 (h18 hac z1)) (fun _ _ _ _ hac hb z1 _ => t189 (h19 hac hb z1))⟩
  rw [updA_eq]
  refine h.sd.begin h.cs.I1 hp ha ?_
  by_cases e : t = -1
  · exact Or.inl e
  · exact Or.inr ⟨ht e, (mayRide_1 hb).2 e⟩
theorem mayInsp_1 {f : Nat → Int32} (h : ¬ mayInspectF f p = 0) : ¬ f (21 + 13 * cl p + 3) ≤ f 0 ∧ f (21 + 13 * cl p + 5) = 0 ∧ ¬ 20 ≤ f 4 := by
  unfold mayInspectF at h
  by_cases h1 : f (21 + 13 * cl p + 3) ≤ f 0
  · rw [if_pos h1] at h
    exact absurd rfl h
  · rw [if_neg h1] at h
    by_cases h2 : f (21 + 13 * cl p + 5) = 0
    · rw [if_pos h2] at h
      refine ⟨h1, h2, fun h3 => ?_⟩
      rw [if_pos h3] at h
      exact absurd rfl h
    · rw [if_neg h2] at h
      exact absurd rfl h
theorem i_20 : (20 : Int32).toInt = 20 := by decide
theorem AW.inspect (h : AW b c0 d x Fz g A k w) (hk : k < 100000) (hp : vp_in p (cl (A 1 2)))
    (hok : ¬ mayInspectF (A 1) p = 0 → ∀ g' A' w', AW b c0 d x Fz g' A' (k + 1) w' → A' 1 = inspectF (A 1) p → Q (faultF (A 1) p) w' z)
    (h19 : mayInspectF (A 1) p = 0 → ∀ z1, Q (-19) w z1) : F_L_inspect x p w z 10 100 Q := by
  refine ⟨h.cs.is0, 10, 100, Nat.le_refl _, Nat.le_refl _, h.cs.inspect h.2.1 (Nat.le_refl _) (Nat.le_refl _) (fun _ hb w' hC' hF => hok hb _ _ w' (h.chg hC' hF ?_) (updA_eq _ _ _)) (fun hn => absurd hp hn) (fun _ hb z1 _ => t19 (h19 hb z1))⟩
  rw [updA_eq]
  refine h.sd.insp h.cs.I1 hp ?_ hk
  have h4 := vp_in_iff.mp h.cs.I1.2.1.2.2.2
  have h5 : ¬ (20 : Int32).toInt ≤ (A 1 4).toInt := fun e => (mayInsp_1 hb).2.2 (ile.mpr e)
  rw [i_20] at h5
  exact vp_in_iff.mpr (by omega)
theorem mayApp_1 {f : Nat → Int32} (h : ¬ mayAppealF f c = 0) : f (305 + 7 * cl c + 2) = 0 ∧ isLateF f c = 0 := by
  unfold mayAppealF at h
  by_cases h1 : f (305 + 7 * cl c + 2) = 0
  · rw [if_pos h1] at h
    refine ⟨h1, ?_⟩
    by_cases h2 : isLateF f c = 0
    · exact h2
    · rw [if_neg h2] at h
      exact absurd rfl h
  · rw [if_neg h1] at h
    exact absurd rfl h
theorem AW.appeal (h : AW b c0 d x Fz g A k w) (hc : vp_in c (cl (A 1 4))) (ht : vp_in t (cl (A 1 3)))
    (hok : ¬ mayAppealF (A 1) c = 0 → ∀ g' A' w', AW b c0 d x Fz g' A' k w' → A' 1 = appealF (A 1) c t → Q (cntA (appealF (A 1) c t) (cl (A 1 4)) 0 0) w' z)
    (h19 : mayAppealF (A 1) c = 0 → ∀ z1, Q (-19) w z1) : F_L_appeal x c t w z 10 100 Q :=
  ⟨h.cs.is0, 10, 100, Nat.le_refl _, Nat.le_refl _, h.cs.appeal h.2.1 (Nat.le_refl _) (Nat.le_refl _) (fun _ _ hb w' hC' hF => hok hb _ _ w' (h.chg hC' hF (by rw [updA_eq]; exact h.sd.appeal h.cs.I1 hc ht (mayApp_1 hb).1)) (updA_eq _ _ _)) (fun hn => absurd ⟨hc, ht⟩ hn) (fun _ _ hb z1 _ => t19 (h19 hb z1))⟩
theorem AW.appeal17 (h : AW b c0 d x Fz g A k w) (hn : ¬ vp_in c (cl (A 1 4))) (hq : ∀ z1, Q (-17) w z1) : F_L_appeal x c t w z 10 100 Q :=
  ⟨h.cs.is0, 10, 100, Nat.le_refl _, Nat.le_refl _, h.cs.appeal h.2.1 (Nat.le_refl _) (Nat.le_refl _) (fun hc => absurd hc hn) (fun _ z1 _ => t17' (hq z1)) (fun hc => absurd hc hn)⟩
theorem AW.decide (h : AW b c0 d x Fz g A k w) (hc : vp_in c (cl (A 1 4)))
    (hok : A 1 (305 + 7 * cl c + 2) = 1 → ∀ g' A' w', AW b c0 d x Fz g' A' k w' → A' 1 = decideF (A 1) c → Q (judgedF (A 1) c (A 1 (305 + 7 * cl c + 5))) w' z)
    (h19 : ¬ A 1 (305 + 7 * cl c + 2) = 1 → ∀ z1, Q (-19) w z1) : F_L_decide x c w z 10 100 Q :=
  ⟨h.cs.is0, 10, 100, Nat.le_refl _, Nat.le_refl _, h.cs.decide h.2.1 (Nat.le_refl _) (Nat.le_refl _) (fun _ hb w' hC' hF => hok hb _ _ w' (h.chg hC' hF (by rw [updA_eq]; exact h.sd.decide h.cs.I1 hc hb)) (updA_eq _ _ _)) (fun hn => absurd hc hn) (fun _ hb z1 _ => t19 (h19 hb z1))⟩
theorem AW.pay (h : AW b c0 d x Fz g A k w) (hc : vp_in c (cl (A 1 4)))
    (hok : ¬ mayPayF (A 1) c = 0 → ∀ g' A' w', AW b c0 d x Fz g' A' k w' → A' 1 = payF (A 1) c → Q (dueF (A 1) c) w' z)
    (h19 : mayPayF (A 1) c = 0 → ∀ z1, Q (-19) w z1) : F_L_pay x c w z 10 100 Q :=
  ⟨h.cs.is0, 10, 100, Nat.le_refl _, Nat.le_refl _, h.cs.pay h.2.1 (Nat.le_refl _) (Nat.le_refl _) (fun _ hb w' hC' hF => hok hb _ _ w' (h.chg hC' hF (by rw [updA_eq]; exact h.sd.pay h.cs.I1 hc hb)) (updA_eq _ _ _)) (fun hn => absurd hc hn) (fun _ hb z1 _ => t19 (h19 hb z1))⟩
theorem AW.pay17 (h : AW b c0 d x Fz g A k w) (hn : ¬ vp_in c (cl (A 1 4))) (hq : ∀ z1, Q (-17) w z1) : F_L_pay x c w z 10 100 Q :=
  ⟨h.cs.is0, 10, 100, Nat.le_refl _, Nat.le_refl _, h.cs.pay h.2.1 (Nat.le_refl _) (Nat.le_refl _) (fun hc => absurd hc hn) (fun _ z1 _ => t17' (hq z1)) (fun hc => absurd hc hn)⟩
theorem AW.wait (h : AW b c0 d x Fz g A k w) (hn : 1 ≤ n.toInt ∧ n.toInt ≤ 9999)
    (hok : (A 1 0).toInt + n.toInt ≤ 99999 → ∀ w', CS w' x Fz (remG g) (updA (remA g A (A 1)) 1 (waitF (A 1) n)) → AW b c0 d x Fz (remG g) (updA (remA g A (A 1)) 1 (waitF (A 1) n)) k w' → FrS x w w' → Q (A 1 0 + n) w' z)
    (h19 : ¬ (A 1 0).toInt + n.toInt ≤ 99999 → ∀ z1, Q (-19) w z1) : F_L_waitFor x n w z 10 100 Q :=
  ⟨h.cs.is0, 10, 100, Nat.le_refl _, Nat.le_refl _, h.cs.wait h.2.1 (Nat.le_refl _) (Nat.le_refl _) (fun _ _ hb w' hC' hF => hok hb w' hC' (h.chg hC' hF (by rw [updA_eq]; exact h.sd.wait h.cs.I1)) hF) (fun hx => absurd hn hx) (fun _ _ hb z1 _ => t9w (h19 hb z1))⟩
/-! waiting -/
theorem i_99 : (99999 : Int32).toInt = 99999 := by decide
theorem ac_1009 (h : AW b c0 d x Fz g A k w) (hn : 1 ≤ n.toInt ∧ n.toInt ≤ 9999) (hB : BD 1 mc ms) (hq : ∀ g' A' w' z', AW b c0 d x Fz g' A' (k + 1) w' → Q 1 w' z') : B_L_acts_1009 x d Q n w z mc ms := by
  have hc := h.cs.I1.1
  have e1 : (A 1 0 + n).toInt = (A 1 0).toInt + n.toInt := ia _ _ (by omega) (by omega)
  refine ⟨h.cs.is0, X_clock h.cs ⟨10, 100, hB.a, hB.b, h.wait hn (fun hle w' _ h' _ => ⟨fun _ => ⟨fun hh => absurd rfl hh, fun _ => hq _ _ _ _ (h'.le (by omega))⟩, fun hh => absurd (ile.mpr ?_) hh⟩) (fun hgt z1 => ⟨fun hh => absurd (ile.mp hh) ?_, fun _ => ⟨fun hh => absurd rfl hh, fun _ => hq _ _ _ _ (h.le (by omega))⟩⟩)⟩⟩
  · rw [e1, i_99]
    exact hle
  · rw [e1, i_99]
    exact hgt
theorem ac_986 (h : AW b c0 d x Fz g A k w) (hB : BD 1 mc ms) (hq : ∀ g' A' w' z', AW b c0 d x Fz g' A' (k + 1) w' → Q 1 w' z') : B_L_acts_986 x d Q w z mc ms := by
  refine h.draw (by decide) (fun r w1 r0 r6 h1 => ⟨fun _ => h1.draw (by decide) (fun s w2 s0 s40 h2 => ac_1009 h2 ?_ hB hq), fun _ => ac_1009 h1 (by decide) hB hq⟩)
  rw [show (40 : Int32).toInt = 40 by decide] at s40
  rw [ia _ _ (by rw [i_1]; omega) (by rw [i_1]; omega), i_1]
  omega
/-! paying -/
theorem ac_901 {y0 : Int32} (h : AW b c0 d x Fz g A k w) (hc : vp_in c (cl (A 1 4))) (hy : y0 = 0 ↔ mayPayF (A 1) c = 0) (hB : BD 2 mc ms) (hq : ∀ g' A' w' z', AW b c0 d x Fz g' A' (k + 1) w' → Q 1 w' z') : B_L_acts_901 x d Q c (A 1 (305 + 7 * cl c)) (dueF (A 1) c) (A 1 (21 + 13 * cl (A 1 (305 + 7 * cl c)))) y0 w z mc ms := by
  have hI := h.cs.I1
  have hB1 := clI hI.2.1.1
  have hB2 := clI hI.2.1.2.1
  have c1 := clI hc
  have ho := (hI.2.2.2.2.2.1 _ c1.2).1
  have o1 := clI ho
  refine ⟨h.cs.is0, X_finesPaid h.cs ⟨10, 100, hB.a, hB.b, h.pay hc (fun hb g' A' w' h' e => ?_) (fun hb z1 => ?_)⟩⟩
  · have e6 : A' 1 6 = A 1 6 + dueF (A 1) c := by
      rw [e]
      simp (disch := omega) only [payF, upd_ne, upd_eq]
    have e2 : A' 1 2 = A 1 2 := by
      rw [e]
      exact payF_out (by omega) (by omega) (by omega)
    have em : A' 1 (21 + 13 * cl (A 1 (305 + 7 * cl c))) = A 1 (21 + 13 * cl (A 1 (305 + 7 * cl c))) - dueF (A 1) c := by
      rw [e]
      simp (disch := omega) only [payF, upd_ne, upd_eq]
    refine ⟨fun h0 => absurd (hy.mp h0) hb, fun h0 => ⟨fun hh => absurd rfl hh, fun _ => ⟨h'.cs.is0, X_finesPaid h'.cs ⟨fun hh => absurd hh h0, fun _ => ⟨fun hh => absurd e6 hh, fun _ => ⟨10, 100, hB.n.a, hB.n.b, W_money h'.cs (by rw [e2]; exact ho) ⟨fun hh => absurd hh h0, fun _ => ⟨fun hh => absurd em hh, fun _ => hq _ _ _ _ (h'.le (by omega))⟩⟩⟩⟩⟩⟩⟩⟩
  · exact ⟨fun h0 => ⟨fun hh => absurd rfl hh, fun _ => ⟨h.cs.is0, X_finesPaid h.cs ⟨fun _ => ⟨fun hh => absurd rfl hh, fun _ => ⟨10, 100, hB.n.a, hB.n.b, W_money h.cs ho ⟨fun _ => ⟨fun hh => absurd rfl hh, fun _ => hq _ _ _ _ (h.le (by omega))⟩, fun hh => absurd h0 hh⟩⟩⟩, fun hh => absurd h0 hh⟩⟩⟩, fun h0 => absurd (hy.mpr hb) h0⟩
theorem ac_816 (h : AW b c0 d x Fz g A k w) (hB : BD 8 mc ms) (hq : ∀ g' A' w' z', AW b c0 d x Fz g' A' (k + 1) w' → Q 1 w' z') : B_L_acts_816 x d Q (A 1 4) w z mc ms := by
  have hI := h.cs.I1
  have h4 := vp_in_iff.mp hI.2.1.2.2.2
  refine ⟨fun hn => h.draw ?_ (fun c w1 c1 c2 h1 => ?_), fun h0 => ⟨10, 100, hB.a, hB.b, h.pay17 (fun hv => ?_) (fun z1 => ⟨fun hh => absurd rfl hh, fun _ => hq _ _ _ _ (h.le (by omega))⟩)⟩⟩
  · have : ¬ (A 1 4).toInt = 0 := fun e => hn (ieq.mpr (by rw [e, i_0]))
    omega
  · have hc := vp_r c1 c2
    have ho := (hI.2.2.2.2.2.1 _ (clI hc).2).1
    have hC := h1.cs
    have hn0 : (0 : Int32) = 0 ↔ True := ⟨fun _ => trivial, fun _ => rfl⟩
    refine ⟨10, 100, hB.a, hB.b, W_casePassenger hC hc ⟨10, 100, hB.n.a, hB.n.b, W_amountDue hC hc ⟨10, 100, hB.n.n.a, hB.n.n.b, W_money hC ho ⟨10, 100, hB.n.n.n.a, hB.n.n.n.b, W_caseState hC hc ⟨fun e1 => ac_901 h1 hc ⟨fun _ => ?_, fun _ => rfl⟩ (hB.n.n.n.n.le (by omega)) hq, fun e1 => ⟨10, 100, hB.n.n.n.n.a, hB.n.n.n.n.b, W_caseState hC hc ⟨fun e4 => ac_901 h1 hc ⟨fun _ => ?_, fun _ => rfl⟩ (hB.n.n.n.n.n.le (by omega)) hq, fun e4 => ⟨fun hl => ac_901 h1 hc ⟨fun _ => ?_, fun _ => rfl⟩ (hB.n.n.n.n.n.le (by omega)) hq, fun hl => ac_901 h1 hc ⟨fun hh => absurd hh (by decide), fun hh => ?_⟩ (hB.n.n.n.n.n.le (by omega)) hq⟩⟩⟩⟩⟩⟩⟩⟩
    · unfold mayPayF
      rw [if_pos e1]
    · unfold mayPayF
      rw [if_neg e1, if_pos e4]
    · unfold mayPayF
      rw [if_neg e1, if_neg e4, if_pos hl]
    · unfold mayPayF at hh
      rw [if_neg e1, if_neg e4, if_neg hl] at hh
      exact absurd hh (by decide)
  · have := (clI hv).2
    have e : cl (A 1 4) = 0 := by
      rw [h0]
      exact cl0
    omega
/-! appeals -/
theorem cntA_mono (f : Nat → Int32) : ∀ (n : Nat) (v c : Int32), 0 ≤ v.toInt → v.toInt + n ≤ 1000 → v.toInt ≤ (cntA f n v c).toInt := by
  intro n
  induction n with
  | zero => intro v c _ _; exact Int.le_refl _
  | succ n ih =>
    intro v c h0 h1
    rw [cntA]
    have e : (v + 1).toInt = v.toInt + 1 := by
      rw [ia _ _ (by rw [i_1]; omega) (by rw [i_1]; omega), i_1]
    split
    · have := ih (v + 1) (c + 1) (by omega) (by omega)
      omega
    · exact ih v (c + 1) (by omega) (by omega)
theorem cntA_pos (f : Nat → Int32) {q : Nat} (hq : f (305 + 7 * q + 2) = 1) : ∀ (n : Nat) (v c : Int32), 0 ≤ v.toInt → v.toInt + n ≤ 1000 → 0 ≤ c.toInt → c.toInt + n ≤ 20 → cl c ≤ q → q < cl c + n → 1 ≤ (cntA f n v c).toInt := by
  intro n
  induction n with
  | zero => intro v c _ _ _ _ h3 h4; omega
  | succ n ih =>
    intro v c h0 h1 h2 h3 h4 h5
    have hv : vp_in c 20 := vp_in_iff.mpr (by omega)
    have h6 := cl_succ hv (by omega)
    have e : (v + 1).toInt = v.toInt + 1 := by
      rw [ia _ _ (by rw [i_1]; omega) (by rw [i_1]; omega), i_1]
    rw [cntA]
    by_cases hc : cl c = q
    · rw [hc, if_pos hq]
      have := cntA_mono f n (v + 1) (c + 1) (by omega) (by omega)
      omega
    · split
      · exact ih (v + 1) (c + 1) (by omega) (by omega) (by omega) (by omega) (by omega) (by omega)
      · exact ih v (c + 1) (by omega) (by omega) (by omega) (by omega) (by omega) (by omega)
theorem judged_app {f : Nat → Int32} (hc : cl c < 20) (ht : cl t < 30) : judgedF (appealF f c t) c t = judgedF f c t := by
  unfold judgedF
  simp (disch := omega) only [appealF, upd_ne]
theorem ac_713 {y0 : Int32} (h : AW b c0 d x Fz g A k w) (hc : vp_in c (cl (A 1 4))) (ht : vp_in t (cl (A 1 3))) (hy : y0 = 0 ↔ mayAppealF (A 1) c = 0) (hB : BD 7 mc ms) (hq : ∀ g' A' w' z', AW b c0 d x Fz g' A' (k + 1) w' → Q 1 w' z') : B_L_acts_713 x d Q c t y0 w z mc ms := by
  have hI := h.cs.I1
  have hB3 := clI hI.2.1.2.2.1
  have hB4 := clI hI.2.1.2.2.2
  have c1 := clI hc
  have t1 := clI ht
  refine ⟨10, 100, hB.a, hB.b, W_outlook h.cs hc ht ⟨10, 100, hB.n.a, hB.n.b, h.appeal hc ht (fun hb g' A' w' h' e => ⟨fun h0 => ?_, fun h0 => absurd (hy.mp h0) hb⟩) (fun hb z1 => ⟨fun h0 => absurd (hy.mpr hb) h0, fun _ => ⟨fun hh => absurd rfl hh, fun _ => hq _ _ _ _ (h.le (by omega))⟩⟩)⟩⟩
  have e2 : A' 1 (305 + 7 * cl c + 2) = 1 := by
    rw [e]
    simp (disch := omega) only [appealF, upd_ne, upd_eq]
  have e5 : A' 1 (305 + 7 * cl c + 5) = t := by
    rw [e]
    simp (disch := omega) only [appealF, upd_ne, upd_eq]
  have e4 : A' 1 4 = A 1 4 := by
    rw [e]
    exact appealF_out (by omega)
  have hc' : vp_in c (cl (A' 1 4)) := by
    rw [e4]
    exact hc
  have j1 : judgedF (A' 1) c (A' 1 (305 + 7 * cl c + 5)) = judgedF (A 1) c t := by
    rw [e5, e]
    exact judged_app (by omega) (by omega)
  have hcnt : ¬ cntA (appealF (A 1) c t) (cl (A 1 4)) 0 0 < 1 := fun hh => by
    have := ilt.mp hh
    have h2 := cntA_pos (appealF (A 1) c t) (q := cl c) (by rw [← e]; exact e2) (cl (A 1 4)) 0 0 (by rw [i_0]; omega) (by rw [i_0]; omega) (by rw [i_0]; omega) (by rw [i_0]; omega) (by rw [show cl (0 : Int32) = 0 from cl0]; omega) (by rw [show cl (0 : Int32) = 0 from cl0]; omega)
    rw [i_1] at this
    omega
  have hC' := h'.cs
  refine ⟨fun hh => absurd hh hcnt, fun _ => ⟨10, 100, hB.n.n.a, hB.n.n.b, W_caseState hC' hc' ⟨fun hh => absurd e2 hh, fun _ => ⟨10, 100, hB.n.n.n.a, hB.n.n.n.b, h'.pay hc' (fun hb2 => absurd e2 (mayPay_1 hb2).1) (fun _ z1 => ⟨fun hh => absurd rfl hh, fun _ => h'.draw (by decide) (fun r w2 r0 r3 h2 => ⟨fun _ => hq _ _ _ _ (h2.le (by omega)), fun _ => ⟨10, 100, hB.n.n.n.n.a, hB.n.n.n.n.b, h2.decide hc' (fun _ g3 A3 w3 h3 e3 => ⟨fun hh => absurd j1 hh, fun _ => ⟨10, 100, hB.n.n.n.n.n.a, hB.n.n.n.n.n.b, h3.decide ?_ (fun hb3 => absurd hb3 ?_) (fun _ z2 => ⟨fun hh => absurd rfl hh, fun _ => hq _ _ _ _ (h3.le (by omega))⟩)⟩⟩) (fun hb3 => absurd e2 hb3)⟩⟩)⟩)⟩⟩⟩⟩
  · rw [e3, decideF_out (by omega)]
    exact hc'
  · rw [e3]
    unfold decideF
    rcases judged_or (f := A' 1) (c := c) (t := A' 1 (305 + 7 * cl c + 5)) with hj | hj
    · simp only [hj, if_true]
      simp (disch := omega) only [upd_ne, upd_eq]
      decide
    · simp only [hj, n32, if_false]
      simp (disch := omega) only [upd_ne, upd_eq]
      decide
theorem ac_657 (h : AW b c0 d x Fz g A k w) (hB : BD 1 mc ms) (hq : ∀ g' A' w' z', AW b c0 d x Fz g' A' (k + 1) w' → Q 1 w' z') : B_L_acts_657 x d Q (A 1 4) w z mc ms :=
  ⟨10, 100, hB.a, hB.b, h.appeal17 (fun hv => by
    have := clI hv
    omega) (fun z1 => ⟨fun hh => absurd rfl hh, fun _ => hq _ _ _ _ (h.le (by omega))⟩)⟩
theorem ac_648 (h : AW b c0 d x Fz g A k w) (hB : BD 10 mc ms) (hq : ∀ g' A' w' z', AW b c0 d x Fz g' A' (k + 1) w' → Q 1 w' z') : B_L_acts_648 x d Q (A 1 3) (A 1 4) w z mc ms := by
  have hI := h.cs.I1
  have h3 := vp_in_iff.mp hI.2.1.2.2.1
  have h4 := vp_in_iff.mp hI.2.1.2.2.2
  refine ⟨fun _ => ac_657 h (hB.le (by omega)) hq, fun n4 => ⟨fun n3 => h.draw ?_ (fun c w1 c1 c2 h1 => h1.draw ?_ (fun t w2 t1 t2 h2 => ?_)), fun _ => ac_657 h (hB.le (by omega)) hq⟩⟩
  · have : ¬ (A 1 4).toInt = 0 := fun e => n4 (ieq.mpr (by rw [e, i_0]))
    omega
  · have : ¬ (A 1 3).toInt = 0 := fun e => n3 (ieq.mpr (by rw [e, i_0]))
    omega
  · have hc := vp_r c1 c2
    have ht := vp_r t1 t2
    have hC := h2.cs
    refine ⟨10, 100, hB.a, hB.b, W_caseState hC hc ⟨fun e0 => ac_713 h2 hc ht ⟨fun _ => ?_, fun _ => rfl⟩ (hB.n.le (by omega)) hq, fun e0 => ⟨10, 100, hB.n.a, hB.n.b, W_isOverdue hC hc ⟨fun e1 => ac_713 h2 hc ht ⟨fun _ => ?_, fun _ => rfl⟩ (hB.n.n.le (by omega)) hq, fun e1 => ac_713 h2 hc ht ⟨fun hh => absurd hh (by decide), fun hh => ?_⟩ (hB.n.n.le (by omega)) hq⟩⟩⟩⟩
    · unfold mayAppealF
      rw [if_neg e0]
    · unfold mayAppealF
      rw [if_pos e0, if_neg e1]
    · unfold mayAppealF at hh
      rw [if_pos e0, if_pos e1] at hh
      exact absurd hh (by decide)
/-! inspections -/
theorem ac_632 (h : AW b c0 d x Fz g A k w) (hk : k < 100000) (hp : vp_in p (cl (A 1 2))) (h5 : ¬ A 1 (21 + 13 * cl p + 5) = 0) (hB : BD 1 mc ms) (hq : ∀ g' A' w' z', AW b c0 d x Fz g' A' k w' → Q 1 w' z') : B_L_acts_632 x d Q p w z mc ms :=
  ⟨10, 100, hB.a, hB.b, h.inspect hk hp (fun hb => absurd (mayInsp_1 hb).2.1 h5) (fun _ z1 => ⟨fun hh => absurd rfl hh, fun _ => hq _ _ _ _ h⟩)⟩
theorem ac_497 {y0 : Int32} (h : AW b c0 d x Fz g A k w) (hk : k < 90000) (hp : vp_in p (cl (A 1 2))) (hy : ¬ mayInspectF (A 1) p = 0 → ¬ y0 = 0) (hB : BD 6 mc ms) (hq : ∀ g' A' w' z', AW b c0 d x Fz g' A' (k + 1) w' → Q 1 w' z') : B_L_acts_497 x d Q p (A 1 4) y0 w z mc ms := by
  have hI := h.cs.I1
  have hC := h.cs
  have hB1 := clI hI.2.1.1
  have hB2 := clI hI.2.1.2.1
  have p1 := clI hp
  have fr := fault_r (A 1) p
  refine ⟨10, 100, hB.a, hB.b, W_faultNow hC hp ⟨hC.is0, X_inspections hC ⟨10, 100, hB.n.a, hB.n.b, h.inspect (by omega) hp (fun hb g' A' w' h' e => ⟨fun _ => ⟨fun h0 => absurd h0 (hy hb), fun _ => ⟨fun hh => absurd rfl hh, fun _ => ?_⟩⟩, fun hh => ?_⟩) (fun hb z1 => ⟨fun hh => absurd rfl hh, fun _ => ⟨hC.is0, X_inspections hC ⟨fun hh => absurd rfl hh, fun _ => ⟨hC.is0, X_caseCount hC ⟨fun hh => absurd rfl hh, fun _ => hq _ _ _ _ (h.le (by omega))⟩⟩⟩⟩⟩)⟩⟩⟩
  · have hC' := h'.cs
    obtain ⟨m1, m2, m3⟩ := mayInsp_1 hb
    have hc : vp_in (A 1 4) 20 := by
      have h4 := vp_in_iff.mp hI.2.1.2.2.2
      have h5 : ¬ (20 : Int32).toInt ≤ (A 1 4).toInt := fun e => m3 (ile.mpr e)
      rw [i_20] at h5
      exact vp_in_iff.mpr (by omega)
    have c1 := clI hc
    have c2 := cl_succ hc (by omega)
    have gi : ∀ j, j ≠ 7 → j ≠ 21 + 13 * cl p + 5 → inspG (A 1) p j = A 1 j := fun j h1 h2 => inspG_out h1 h2
    have g7 : inspG (A 1) p 7 = A 1 7 + 1 := by
      unfold inspG
      rw [upd_ne (by omega), upd_eq]
    have g5 : inspG (A 1) p (21 + 13 * cl p + 5) = 1 := upd_eq _ _ _
    by_cases hr : faultF (A 1) p = 0
    · rw [inspectF_0 hr] at e
      have e7 : A' 1 7 = A 1 7 + 1 := by rw [e, g7]
      have e4 : A' 1 4 = A 1 4 := by rw [e, gi _ (by omega) (by omega)]
      have e2 : A' 1 2 = A 1 2 := by rw [e, gi _ (by omega) (by omega)]
      have e5 : ¬ A' 1 (21 + 13 * cl p + 5) = 0 := by
        rw [e, g5]
        decide
      exact ⟨hC'.is0, X_inspections hC' ⟨fun hh => absurd e7 hh, fun _ => ⟨hC'.is0, X_caseCount hC' ⟨fun hh => absurd hr hh, fun _ => ⟨fun hh => absurd e4 hh, fun _ => ⟨fun _ => ac_632 h' (by omega) (by rw [e2]; exact hp) e5 (hB.n.n.le (by omega)) hq, fun hh => absurd hr hh⟩⟩⟩⟩⟩⟩
    · obtain ⟨v, hv⟩ := inspectF_1 hr (gi 4 (by omega) (by omega)) hc (by omega)
      rw [hv] at e
      have e7 : A' 1 7 = A 1 7 + 1 := by
        rw [e]
        simp (disch := omega) only [upd_ne, g7]
      have e4 : A' 1 4 = A 1 4 + 1 := by
        rw [e, upd_eq]
      have e2 : A' 1 2 = A 1 2 := by
        rw [e]
        simp (disch := omega) only [upd_ne, gi]
      have e0 : A' 1 0 = A 1 0 := by
        rw [e]
        simp (disch := omega) only [upd_ne, gi]
      have e5 : ¬ A' 1 (21 + 13 * cl p + 5) = 0 := by
        rw [e]
        simp (disch := omega) only [upd_ne]
        rw [g5]
        decide
      have ef : A' 1 (305 + 7 * cl (A 1 4) + 1) = faultF (A 1) p := by
        rw [e]
        simp (disch := omega) only [upd_ne, upd_eq]
      have et : A' 1 (305 + 7 * cl (A 1 4) + 3) = A' 1 0 := by
        rw [e0, e]
        simp (disch := omega) only [upd_ne, upd_eq]
      have es : A' 1 (305 + 7 * cl (A 1 4) + 2) = 0 := by
        rw [e]
        simp (disch := omega) only [upd_ne, upd_eq]
      have hc' : vp_in (A 1 4) (cl (A' 1 4)) := by
        rw [e4, c2.1]
        exact vp_in_iff.mpr (by omega)
      exact ⟨hC'.is0, X_inspections hC' ⟨fun hh => absurd e7 hh, fun _ => ⟨hC'.is0, X_caseCount hC' ⟨fun _ => ⟨fun hh => absurd e4 hh, fun _ => ⟨fun hh => absurd hh hr, fun _ => ⟨10, 100, hB.n.n.a, hB.n.n.b, W_caseFault hC' hc' ⟨fun hh => absurd ef hh, fun _ => ⟨10, 100, hB.n.n.n.a, hB.n.n.n.b, W_caseTime hC' hc' ⟨hC'.is0, X_clock hC' ⟨fun hh => absurd et hh, fun _ => ⟨10, 100, hB.n.n.n.n.a, hB.n.n.n.n.b, W_caseState hC' hc' ⟨fun hh => absurd es hh, fun _ => ac_632 h' (by omega) (by rw [e2]; exact hp) e5 (hB.n.n.n.n.n.le (by omega)) hq⟩⟩⟩⟩⟩⟩⟩⟩⟩, fun hh => absurd hh hr⟩⟩⟩⟩
  · rw [hh, show (-19 : Int32).toInt = -19 by decide] at fr
    omega
theorem ac_476 (h : AW b c0 d x Fz g A k w) (hk : k < 90000) (hp : vp_in p (cl (A 1 2))) (hB : BD 7 mc ms) (hq : ∀ g' A' w' z', AW b c0 d x Fz g' A' (k + 1) w' → Q 1 w' z') : B_L_acts_476 x d Q p (A 1 4) w z mc ms := by
  refine ⟨10, 100, hB.a, hB.b, W_isRiding h.cs hp ⟨fun e1 => ac_497 h hk hp (fun hb => absurd ?_ e1) hB.n hq, fun e1 => ⟨fun e2 => ac_497 h hk hp (fun hb => absurd e2 (mayInsp_1 hb).2.2) hB.n hq, fun _ => ac_497 h hk hp (fun _ => by decide) hB.n hq⟩⟩⟩
  unfold ridesF
  rw [if_neg (mayInsp_1 hb).1]
/-! rides -/
theorem fault_1 {f : Nat → Int32} (h3 : ¬ f (21 + 13 * cl p + 3) = -1) (h4 : f (21 + 13 * cl p + 4) = -1) : faultF f p = 1 := by
  unfold faultF
  simp only
  rw [if_neg h3, if_pos h4]
theorem fault_0 {f : Nat → Int32} (h3 : ¬ f (21 + 13 * cl p + 3) = -1) (h4 : ¬ f (21 + 13 * cl p + 4) = -1) (h : faultF f p = 0) : inTimeF f (f (21 + 13 * cl p + 4)) = 1 ∧ zonesF f (f (21 + 13 * cl p + 1)) (f (21 + 13 * cl p + 2)) &&& (f (125 + 6 * cl (f (21 + 13 * cl p + 4)) + 2) ^^^ -1) = 0 := by
  unfold faultF at h
  simp only at h
  rw [if_neg h3, if_neg h4] at h
  by_cases h5 : inTimeF f (f (21 + 13 * cl p + 4)) = 0
  · rw [if_pos h5] at h
    exact absurd h (by decide)
  · rw [if_neg h5] at h
    refine ⟨(inTimeF_01 (f := f) (p := f (21 + 13 * cl p + 4))).resolve_left h5, ?_⟩
    by_cases h6 : coversI (f (125 + 6 * cl (f (21 + 13 * cl p + 4)) + 2)) (zonesF f (f (21 + 13 * cl p + 1)) (f (21 + 13 * cl p + 2))) = 0
    · rw [if_pos h6] at h
      exact absurd h (by decide)
    · unfold coversI at h6
      by_cases h7 : zonesF f (f (21 + 13 * cl p + 1)) (f (21 + 13 * cl p + 2)) &&& (f (125 + 6 * cl (f (21 + 13 * cl p + 4)) + 2) ^^^ -1) = 0
      · exact h7
      · rw [if_neg h7] at h6
        exact absurd rfl h6
theorem beg_out {f : Nat → Int32} {j : Nat} (hp : cl p < 8) (ht : cl t < 30) (h1 : j < 21 + 13 * cl p + 1 ∨ 21 + 13 * cl p + 6 ≤ j) (h2 : j < 125 ∨ (j - 125) % 6 < 3) (h3 : j < 305) : beginF f p a c t j = f j := by
  by_cases e : t = -1
  · rw [e, beginF_n]
    exact rideG_out h1
  · rw [beginF_t hp e]
    split
    · rw [upd_ne (by omega), upd_ne (by omega), upd_ne (by omega)]
      exact rideG_out h1
    · rw [upd_ne (by omega)]
      exact rideG_out h1
theorem beg_in {f : Nat → Int32} {i : Nat} (hp : cl p < 8) (ht : cl t < 30) (h1 : 1 ≤ i) (h2 : i < 6) : beginF f p a c t (21 + 13 * cl p + i) = rideG f p a c t (21 + 13 * cl p + i) := by
  by_cases e : t = -1
  · rw [e, beginF_n]
  · rw [beginF_t hp e]
    split
    · rw [upd_ne (by omega), upd_ne (by omega), upd_ne (by omega)]
    · rw [upd_ne (by omega)]
theorem beg_5 {f : Nat → Int32} (hp : cl p < 8) (ht : cl t < 30) (e : ¬ t = -1) : beginF f p a c t (125 + 6 * cl t + 5) = f (125 + 6 * cl t + 5) + 1 := by
  rw [beginF_t hp e]
  split
  · rw [upd_ne (by omega), upd_ne (by omega), upd_eq, rideG_out (by omega)]
  · rw [upd_eq, rideG_out (by omega)]
theorem beg_3 {f : Nat → Int32} (hp : cl p < 8) (ht : cl t < 30) (e : ¬ t = -1) : beginF f p a c t (125 + 6 * cl t + 3) = if f (125 + 6 * cl t + 3) = -1 then f 0 else f (125 + 6 * cl t + 3) := by
  rw [beginF_t hp e]
  split
  · rw [upd_ne (by omega), upd_eq]
  · rw [upd_ne (by omega), rideG_out (by omega)]
theorem ac_287 {x8 x9 y0 : Int32} (h : AW b c0 d x Fz g A k w) (hp : vp_in p (cl (A 1 2))) (ha : vp_in a (cl (A 1 1))) (hc : vp_in c (cl (A 1 1))) (ht : ¬ t = -1 → vp_in t (cl (A 1 3))) (hy : x8 = 0 ↔ mayRideF (A 1) p t = 0) (h9 : ¬ t = -1 → x9 = A 1 (125 + 6 * cl t + 5)) (h0 : ¬ t = -1 → y0 = A 1 (125 + 6 * cl t + 3)) (hB : BD 8 mc ms) (hq : ∀ g' A' w' z', AW b c0 d x Fz g' A' (k + 1) w' → Q 1 w' z') : B_L_acts_287 x d Q p a c t x8 x9 y0 w z mc ms := by
  have hI := h.cs.I1
  have hB1 := clI hI.2.1.1
  have hB2 := clI hI.2.1.2.1
  have hB3 := clI hI.2.1.2.2.1
  have p1 := clI hp
  refine ⟨10, 100, hB.a, hB.b, h.ride hp ha hc ht (fun hac hb g' A' w' h' e => ⟨fun _ => ⟨fun _ => ?_, fun h8 => absurd (hy.mp h8) hb⟩, fun hh => absurd hh hac⟩) (fun hac z1 => ⟨fun hh => absurd hac hh, fun _ => ⟨fun hh => absurd rfl hh, fun _ => hq _ _ _ _ (h.le (by omega))⟩⟩) (fun hac hb z1 => ⟨fun _ => ⟨fun h8 => absurd (hy.mpr hb) h8, fun _ => ⟨fun hh => absurd rfl hh, fun _ => hq _ _ _ _ (h.le (by omega))⟩⟩, fun hh => absurd hh hac⟩)⟩
  have t30 : cl t < 30 := by
    by_cases e : t = -1
    · rw [e]
      decide
    · have := clI (ht e)
      omega
  have hC' := h'.cs
  have q0 : A' 1 0 = A 1 0 := by rw [e, beg_out (by omega) t30 (by omega) (by omega) (by omega)]
  have q1 : A' 1 1 = A 1 1 := by rw [e, beg_out (by omega) t30 (by omega) (by omega) (by omega)]
  have q2 : A' 1 2 = A 1 2 := by rw [e, beg_out (by omega) t30 (by omega) (by omega) (by omega)]
  have q3 : A' 1 3 = A 1 3 := by rw [e, beg_out (by omega) t30 (by omega) (by omega) (by omega)]
  have r1 : A' 1 (21 + 13 * cl p + 1) = a := by
    rw [e, beg_in (by omega) t30 (by omega) (by omega)]
    simp (disch := omega) only [rideG, upd_ne, upd_eq]
  have r2 : A' 1 (21 + 13 * cl p + 2) = c := by
    rw [e, beg_in (by omega) t30 (by omega) (by omega)]
    simp (disch := omega) only [rideG, upd_ne, upd_eq]
  have r4 : A' 1 (21 + 13 * cl p + 4) = t := by
    rw [e, beg_in (by omega) t30 (by omega) (by omega)]
    simp (disch := omega) only [rideG, upd_ne, upd_eq]
  have r3 : ¬ A' 1 (21 + 13 * cl p + 3) = -1 := by
    have hr := ride_end hI.1 (by omega) ha hc hac
    have h1 := hI.1
    rw [e, ride_ans (by omega)]
    intro hh
    rw [hh, i_m1] at hr
    omega
  have hp' : vp_in p (cl (A' 1 2)) := by
    rw [q2]
    exact hp
  refine ⟨hC'.is0, X_clock hC' ⟨fun hh => absurd (by rw [q0]) hh, fun _ => ⟨10, 100, hB.n.a, hB.n.b, W_rideTicket hC' hp' ⟨fun _ => ⟨fun tm => ?_, fun tm => ⟨10, 100, hB.n.n.a, hB.n.n.b, W_faultNow hC' hp' ⟨fun hh => absurd (fault_1 r3 (by rw [r4, tm])) hh, fun _ => hq _ _ _ _ (h'.le (by omega))⟩⟩⟩, fun hh => absurd r4 hh⟩⟩⟩⟩
  have ht' : vp_in t (cl (A' 1 3)) := by
    rw [q3]
    exact ht tm
  have s5 : A' 1 (125 + 6 * cl t + 5) = x9 + 1 := by
    rw [e, beg_5 (by omega) t30 tm, h9 tm]
  have s3 : A' 1 (125 + 6 * cl t + 3) = if y0 = -1 then A' 1 0 else y0 := by
    rw [q0, h0 tm, e, beg_3 (by omega) t30 tm]
  have f0 := fault_0 (f := A' 1) (p := p) r3 (by rw [r4]; exact tm)
  rw [r4, r1, r2] at f0
  have k429 : ∀ (v : Int32) mc' ms', A' 1 (125 + 6 * cl t + 3) = v → BD 4 mc' ms' → B_L_acts_429 x d Q p a c t v (A' 1 (125 + 6 * cl t + 3)) w' z mc' ms' := fun v mc' ms' ev hb' => by
    refine ⟨fun hh => absurd ev hh, fun _ => ⟨10, 100, hb'.a, hb'.b, W_faultNow hC' hp' ⟨fun _ => hq _ _ _ _ (h'.le (by omega)), fun hf => ⟨10, 100, hb'.n.a, hb'.n.b, W_zonesBetween hC' (by rw [q1]; exact ha) (by rw [q1]; exact hc) ⟨10, 100, hb'.n.n.a, hb'.n.n.b, W_ticketZones hC' ht' ⟨fun hh => absurd (f0 hf).2 hh, fun _ => ⟨10, 100, hb'.n.n.n.a, hb'.n.n.n.b, W_isInTime hC' ht' ⟨fun hh => absurd (f0 hf).1 hh, fun _ => hq _ _ _ _ (h'.le (by omega))⟩⟩⟩⟩⟩⟩⟩⟩
  exact ⟨10, 100, hB.n.n.a, hB.n.n.b, W_ticketRides hC' ht' ⟨fun hh => absurd s5 hh, fun _ => ⟨10, 100, hB.n.n.n.a, hB.n.n.n.b, W_stampTime hC' ht' ⟨fun hy0 => k429 _ _ _ (by rw [s3, if_neg hy0]) (hB.n.n.n.n), fun hy0 => ⟨hC'.is0, X_clock hC' (k429 _ _ _ (by rw [s3, if_pos hy0]) (hB.n.n.n.n))⟩⟩⟩⟩⟩
theorem ac_251 {y0 : Int32} (h : AW b c0 d x Fz g A k w) (hp : vp_in p (cl (A 1 2))) (ha : vp_in a (cl (A 1 1))) (hc : vp_in c (cl (A 1 1))) (ht : ¬ t = -1 → vp_in t (cl (A 1 3))) (hy : y0 = 0 ↔ mayRideF (A 1) p t = 0) (hB : BD 10 mc ms) (hq : ∀ g' A' w' z', AW b c0 d x Fz g' A' (k + 1) w' → Q 1 w' z') : B_L_acts_251 x d Q p a c t y0 w z mc ms :=
  ⟨fun tm => ⟨10, 100, hB.a, hB.b, W_ticketRides h.cs (ht tm) ⟨fun _ => ⟨10, 100, hB.n.a, hB.n.b, W_stampTime h.cs (ht tm) (ac_287 h hp ha hc ht hy (fun _ => rfl) (fun _ => rfl) hB.n.n hq)⟩, fun hh => absurd hh tm⟩⟩, fun tm => ⟨fun hh => absurd tm hh, fun _ => ac_287 h hp ha hc ht hy (fun hh => absurd tm hh) (fun hh => absurd tm hh) (hB.le (by omega)) hq⟩⟩
theorem ac_220 (h : AW b c0 d x Fz g A k w) (hp : vp_in p (cl (A 1 2))) (ha : vp_in a (cl (A 1 1))) (hc : vp_in c (cl (A 1 1))) (ht : ¬ t = -1 → vp_in t (cl (A 1 3))) (hB : BD 12 mc ms) (hq : ∀ g' A' w' z', AW b c0 d x Fz g' A' (k + 1) w' → Q 1 w' z') : B_L_acts_220 x d Q p a c t w z mc ms := by
  have hm : mayRideF (A 1) p t = if ¬ ridesF (A 1) p = 0 then 0 else if t = -1 then 1 else if A 1 (125 + 6 * cl t) = p then 1 else 0 := by
    unfold mayRideF ridesF
    by_cases e : A 1 (21 + 13 * cl p + 3) ≤ A 1 0
    · have e0 : ¬ ¬ (0 : Int32) = 0 := fun hh => hh rfl
      rw [if_neg (fun hh => hh e), if_pos e, if_neg e0]
    · have e1 : ¬ (1 : Int32) = 0 := by decide
      rw [if_pos e, if_neg e, if_pos e1]
  refine ⟨10, 100, hB.a, hB.b, W_isRiding h.cs hp ⟨fun e0 => ac_251 h hp ha hc ht ⟨fun _ => by rw [hm, if_pos e0], fun _ => rfl⟩ (hB.n.le (by omega)) hq, fun e0 => ⟨fun tm => ac_251 h hp ha hc ht ⟨fun hh => absurd hh (by decide), fun hh => ?_⟩ (hB.n.le (by omega)) hq, fun tm => ⟨10, 100, hB.n.a, hB.n.b, W_ticketHolder h.cs (ht tm) ⟨fun ho => ac_251 h hp ha hc ht ⟨fun _ => ?_, fun _ => rfl⟩ hB.n.n hq, fun ho => ac_251 h hp ha hc ht ⟨fun hh => absurd hh (by decide), fun hh => ?_⟩ hB.n.n hq⟩⟩⟩⟩⟩
  · rw [hm, if_neg (fun hn => hn e0), if_pos tm] at hh
    exact absurd hh (by decide)
  · rw [hm, if_neg (fun hn => hn e0), if_neg tm, if_neg ho]
  · rw [hm, if_neg (fun hn => hn e0), if_neg tm, if_pos ho] at hh
    exact absurd hh (by decide)
theorem ac_179 (h : AW b c0 d x Fz g A k w) (hp : vp_in p (cl (A 1 2))) (hB : BD 12 mc ms) (hq : ∀ g' A' w' z', AW b c0 d x Fz g' A' (k + 1) w' → Q 1 w' z') : B_L_acts_179 x d Q p (A 1 3) w z mc ms := by
  have hI := h.cs.I1
  have h3 := vp_in_iff.mp hI.2.1.2.2.1
  have s1 := h.sd.1.1
  refine ⟨h.cs.is0, X_stopCount h.cs (h.draw (by omega) (fun a w1 a1 a2 h1 => ⟨h1.cs.is0, X_stopCount h1.cs (h1.draw (by omega) (fun c w2 c1 c2 h2 => ⟨fun _ => ac_220 h2 hp (vp_r a1 a2) (vp_r c1 c2) (fun hh => absurd rfl hh) hB hq, fun n3 => h2.draw (by decide) (fun r w3 _ _ h3' => ⟨fun _ => h3'.draw ?_ (fun t w4 t1 t2 h4 => ac_220 h4 hp (vp_r a1 a2) (vp_r c1 c2) (fun _ => vp_r t1 t2) hB hq), fun _ => ac_220 h3' hp (vp_r a1 a2) (vp_r c1 c2) (fun hh => absurd rfl hh) hB hq⟩)⟩))⟩))⟩
  have : ¬ (A 1 3).toInt = 0 := fun e => n3 (ieq.mpr (by rw [e, i_0]))
  omega
/-! buying -/
theorem ac_72 (h : AW b c0 d x Fz g A k w) (hp : vp_in p (cl (A 1 2))) (hB : BD 6 mc ms) (hq : ∀ g' A' w' z', AW b c0 d x Fz g' A' (k + 1) w' → Q 1 w' z') : B_L_acts_72 x d Q p (A 1 3) w z mc ms := by
  have hI := h.cs.I1
  have hB2 := clI hI.2.1.2.1
  have h3 := vp_in_iff.mp hI.2.1.2.2.1
  have p1 := clI hp
  refine h.draw (by decide) (fun r w1 r0 r3 h1 => h1.draw (by decide) (fun s w2 s0 s15 h2 i hi => ?_))
  rw [show (3 : Int32).toInt = 3 by decide] at r3
  rw [show (15 : Int32).toInt = 15 by decide] at s15
  have hk : vp_in r 3 := vp_in_iff.mpr ⟨r0, r3⟩
  have hx : 1 ≤ i.toInt ∧ i.toInt ≤ 15 := by
    rw [hi, ia _ _ (by rw [i_1]; omega) (by rw [i_1]; omega), i_1]
    omega
  have hC := h2.cs
  refine ⟨10, 100, hB.a, hB.b, W_money hC hp ⟨10, 100, hB.n.a, hB.n.b, h2.buy hp hk hx (fun hb g' A' w' h' e => ⟨fun _ => ⟨fun hh => absurd rfl hh, fun _ => ?_⟩, fun hh => ?_⟩) (fun hb z1 => ⟨fun hh => absurd rfl hh, fun _ => ⟨hC.is0, X_ticketCount hC ⟨fun hh => absurd rfl hh, fun _ => hq _ _ _ _ (h2.le (by omega))⟩⟩⟩)⟩⟩
  · have b1 : ¬ (30 : Int32).toInt ≤ (A 1 3).toInt := fun hh => (mayBuy_1 hb).1 (ile.mpr hh)
    rw [show (30 : Int32).toInt = 30 by decide] at b1
    have ht : vp_in (A 1 3) 30 := vp_in_iff.mpr (by omega)
    have t1 := clI ht
    have t2 := cl_succ ht (by omega)
    have e2 : A' 1 2 = A 1 2 := by
      rw [e]
      simp (disch := omega) only [buyF, upd_ne]
    have e3 : A' 1 3 = A 1 3 + 1 := by
      rw [e]
      simp (disch := omega) only [buyF, upd_ne, upd_eq]
    have em : A' 1 (21 + 13 * cl p) = A 1 (21 + 13 * cl p) - priceI r i := by
      rw [e]
      simp (disch := omega) only [buyF, upd_ne, upd_eq]
    have u0 : A' 1 (125 + 6 * cl (A 1 3)) = p := by
      rw [e]
      simp (disch := omega) only [buyF, upd_ne, upd_eq]
    have u1 : A' 1 (125 + 6 * cl (A 1 3) + 1) = r := by
      rw [e]
      simp (disch := omega) only [buyF, upd_ne, upd_eq]
    have u2 : A' 1 (125 + 6 * cl (A 1 3) + 2) = i := by
      rw [e]
      simp (disch := omega) only [buyF, upd_ne, upd_eq]
    have u3 : A' 1 (125 + 6 * cl (A 1 3) + 3) = -1 := by
      rw [e]
      simp (disch := omega) only [buyF, upd_ne, upd_eq]
    have hC' := h'.cs
    have ht' : vp_in (A 1 3) (cl (A' 1 3)) := by
      rw [e3, t2.1]
      exact vp_in_iff.mpr (by omega)
    exact ⟨10, 100, hB.n.n.a, hB.n.n.b, W_money hC' (by rw [e2]; exact hp) ⟨10, 100, hB.n.n.n.a, hB.n.n.n.b, W_ticketPrice hC' ht' ⟨fun hh => absurd (by rw [em, u1, u2]) hh, fun _ => ⟨10, 100, hB.n.n.n.n.a, hB.n.n.n.n.b, W_stampTime hC' ht' ⟨fun hh => absurd u3 hh, fun _ => ⟨10, 100, hB.n.n.n.n.n.a, hB.n.n.n.n.n.b, W_ticketHolder hC' ht' ⟨fun hh => absurd u0 hh, fun _ => hq _ _ _ _ (h'.le (by omega))⟩⟩⟩⟩⟩⟩⟩
  · rw [hh, show (-19 : Int32).toInt = -19 by decide] at h3
    omega
theorem AW.acts (h : AW b c0 d x Fz g A k w) (hk : k < 90000) (hB : BD 60 mc ms) (hq : ∀ g' A' w' z', AW b c0 d x Fz g' A' (k + 1) w' → Q 1 w' z') : F_L_acts x d w z mc ms Q := by
  have s2 := h.sd.1.2
  refine ⟨h.cs.is0, X_passengerCount h.cs (h.draw (by omega) (fun p w1 p1 p2 h1 => ⟨h1.cs.is0, X_ticketCount h1.cs ⟨h1.cs.is0, X_caseCount h1.cs (h1.draw (by decide) (fun r w2 r0 r9 h2 i _ => ?_))⟩⟩))⟩
  have hp := vp_r p1 p2
  exact ⟨fun _ => ac_72 h2 hp (hB.le (by omega)) hq, fun _ => ac_179 h2 hp (hB.le (by omega)) hq, fun _ => ac_179 h2 hp (hB.le (by omega)) hq, fun _ => ac_179 h2 hp (hB.le (by omega)) hq, fun _ => ac_476 h2 hk hp (hB.le (by omega)) hq, fun _ => ac_476 h2 hk hp (hB.le (by omega)) hq, fun _ => ac_648 h2 (hB.le (by omega)) hq, fun _ => ac_816 h2 (hB.le (by omega)) hq, fun _ => ac_986 h2 (hB.le (by omega)) hq⟩
end
