section
variable {w : Mm} {b z : Nat} {hd zn : Nat → Int32} {nm : Nat → Nat} {pa tk cs : Nat → Nat → Int32} {Q : Int32 → Mm → Nat → Prop} {R : Mm → Nat → Prop} {T : Mm → Prop} {f : Nat → Int32}
set_option maxRecDepth 100000 in
set_option maxHeartbeats 4000000 in
theorem c_canInspect {p : Int32} (hB : Bd f) (hR : Rl hd zn pa tk cs f) (hp : vp_in p (cl (f 2))) (hq : Q (mayInspectF f p) (sw w b hd zn nm pa tk cs) z) : F_X3_canInspect b p (sw w b hd zn nm pa tk cs) z Q := by
  have hB1 := clI hB.1
  have hB2 := clI hB.2.1
  have hB3 := clI hB.2.2.1
  have hB4 := clI hB.2.2.2
  have p1 := clI hp
  have p2 := vp_le (m := 8) hp (by omega)
  unfold F_X3_canInspect F_X2_isOnTram
  repeat' with_reducible (first
    | (refine ⟨s_iH, ?_⟩)
    | (refine ⟨s_iP (by first | assumption | omega | solve_by_elim), ?_⟩)
    | (refine ⟨s_iT (by first | assumption | omega | solve_by_elim), ?_⟩)
    | (refine ⟨s_iC (by first | assumption | omega | solve_by_elim), ?_⟩)
    | (refine ⟨_, s_r8, ?_⟩)
    | (refine ⟨_, s_r9, ?_⟩)
    | (refine ⟨_, s_r10, ?_⟩)
    | (refine ⟨_, s_r11, ?_⟩)
    | (refine s_aP (by first | assumption | omega | solve_by_elim) ?_)
    | (refine s_aT (by first | assumption | omega | solve_by_elim) ?_)
    | (refine s_aC (by first | assumption | omega | solve_by_elim) ?_)
    | (refine ⟨_, gH0 hR, ?_⟩)
    | (refine ⟨_, gH1 hR, ?_⟩)
    | (refine ⟨_, gH2 hR, ?_⟩)
    | (refine ⟨_, gH3 hR, ?_⟩)
    | (refine ⟨_, gH4 hR, ?_⟩)
    | (refine ⟨_, gH5 hR, ?_⟩)
    | (refine ⟨_, gH6 hR, ?_⟩)
    | (refine ⟨_, gH7 hR, ?_⟩)
    | (refine ⟨_, gP1 hR (by first | assumption | omega | solve_by_elim) (by first | assumption | omega | solve_by_elim), ?_⟩)
    | (refine ⟨_, gP4 hR (by first | assumption | omega | solve_by_elim) (by first | assumption | omega | solve_by_elim), ?_⟩)
    | (refine ⟨_, gP5 hR (by first | assumption | omega | solve_by_elim) (by first | assumption | omega | solve_by_elim), ?_⟩)
    | (refine ⟨_, gP6 hR (by first | assumption | omega | solve_by_elim) (by first | assumption | omega | solve_by_elim), ?_⟩)
    | (refine ⟨_, gP2n hR (by first | assumption | omega | solve_by_elim) (by first | assumption | omega | solve_by_elim) (by first | assumption | omega | solve_by_elim), ?_⟩)
    | (refine ⟨_, gP2 hR (by first | assumption | omega | solve_by_elim) (by first | assumption | omega | solve_by_elim) (by first | assumption | omega | solve_by_elim), ?_⟩)
    | (refine ⟨_, gP3 hR (by first | assumption | omega | solve_by_elim) (by first | assumption | omega | solve_by_elim) (by first | assumption | omega | solve_by_elim), ?_⟩)
    | (refine ⟨_, gT0 hR (by first | assumption | omega | solve_by_elim) (by first | assumption | omega | solve_by_elim), ?_⟩)
    | (refine ⟨_, gT1 hR (by first | assumption | omega | solve_by_elim) (by first | assumption | omega | solve_by_elim), ?_⟩)
    | (refine ⟨_, gT2 hR (by first | assumption | omega | solve_by_elim) (by first | assumption | omega | solve_by_elim), ?_⟩)
    | (refine ⟨_, gT3 hR (by first | assumption | omega | solve_by_elim) (by first | assumption | omega | solve_by_elim), ?_⟩)
    | (refine ⟨_, gT4 hR (by first | assumption | omega | solve_by_elim) (by first | assumption | omega | solve_by_elim), ?_⟩)
    | (refine ⟨_, gT5 hR (by first | assumption | omega | solve_by_elim) (by first | assumption | omega | solve_by_elim), ?_⟩)
    | (refine ⟨_, gC0 hR (by first | assumption | omega | solve_by_elim) (by first | assumption | omega | solve_by_elim), ?_⟩)
    | (refine ⟨_, gC1 hR (by first | assumption | omega | solve_by_elim) (by first | assumption | omega | solve_by_elim), ?_⟩)
    | (refine ⟨_, gC2 hR (by first | assumption | omega | solve_by_elim) (by first | assumption | omega | solve_by_elim), ?_⟩)
    | (refine ⟨_, gC3 hR (by first | assumption | omega | solve_by_elim) (by first | assumption | omega | solve_by_elim), ?_⟩)
    | (refine ⟨_, gC4 hR (by first | assumption | omega | solve_by_elim) (by first | assumption | omega | solve_by_elim), ?_⟩)
    | (refine ⟨_, gC5 hR (by first | assumption | omega | solve_by_elim) (by first | assumption | omega | solve_by_elim), ?_⟩)
    | (refine ⟨_, gC6 hR (by first | assumption | omega | solve_by_elim) (by first | assumption | omega | solve_by_elim), ?_⟩)
    | (rintro _ rfl)
    | (refine ⟨fun hc => ?_, fun hc => ?_⟩ <;> try first | contradiction | exact absurd hc one0)
    | fail)
  all_goals first
    | with_reducible exact hq
    | (simp only [mayInspectF, *, n01, n02, n03, n04, n05, n10, n12, n13, n14, n15, n20, n21, n23, n24, n25, n30, n31, n32, n34, n35, n40, n41, n42, n43, n45, n50, n51, n52, n53, n54, if_true, if_false, ite_true, ite_false, not_true_eq_false, not_false_eq_true, true_and, and_true, and_false, false_and, Nat.add_zero] at hq; with_reducible exact hq)
    | (simp only [mayInspectF, *, n01, n02, n03, n04, n05, n10, n12, n13, n14, n15, n20, n21, n23, n24, n25, n30, n31, n32, n34, n35, n40, n41, n42, n43, n45, n50, n51, n52, n53, n54, if_true, if_false, ite_true, ite_false, not_true_eq_false, not_false_eq_true, true_and, and_true, and_false, false_and, Nat.add_zero] at hq ⊢; try with_reducible exact hq)
theorem c_overdueAt {c : Int32} (hB : Bd f) (hR : Rl hd zn pa tk cs f) (hc0 : vp_in c (cl (f 4))) (hq : Q (isLateF f c) (sw w b hd zn nm pa tk cs) z) : F_X0_overdueAt (b + 43 + cl c) (f 0) (sw w b hd zn nm pa tk cs) z Q := by
  have hB1 := clI hB.1
  have hB2 := clI hB.2.1
  have hB3 := clI hB.2.2.1
  have hB4 := clI hB.2.2.2
  have c1 := clI hc0
  have c2 := vp_le (m := 20) hc0 (by omega)
  have c3 : cl c < 20 := by omega
  unfold F_X0_overdueAt
  refine ⟨_, gC4 hR c3 c1.2, fun h1 => ?_, fun h1 => ⟨_, gC2 hR c3 c1.2, fun h2 => ?_, fun h2 => ?_⟩⟩
  · rw [isLateF, if_pos h1] at hq
    exact hq
  · rw [isLateF, if_neg h1, if_pos h2] at hq
    exact hq
  · rw [isLateF, if_neg h1, if_neg h2] at hq
    exact hq
theorem c_costAt {c : Int32} (hB : Bd f) (hR : Rl hd zn pa tk cs f) (hc0 : vp_in c (cl (f 4))) (hq : Q (dueF f c) (sw w b hd zn nm pa tk cs) z) : F_X0_costAt (b + 43 + cl c) (f 0) (sw w b hd zn nm pa tk cs) z Q := by
  have hB1 := clI hB.1
  have hB2 := clI hB.2.1
  have hB3 := clI hB.2.2.1
  have hB4 := clI hB.2.2.2
  have c1 := clI hc0
  have c2 := vp_le (m := 20) hc0 (by omega)
  have c3 : cl c < 20 := by omega
  unfold F_X0_costAt
  refine ⟨_, gC4 hR c3 c1.2, fun h1 => ⟨s_iC c3, c_overdueAt hB hR hc0 ⟨fun h2 => ⟨_, gC5 hR c3 c1.2, ?_⟩, fun h2 => ⟨_, gC5 hR c3 c1.2, ?_⟩⟩⟩, fun h1 => ?_⟩
  · rw [dueF, if_neg h1, if_pos h2] at hq
    exact hq
  · rw [dueF, if_neg h1, if_neg h2] at hq
    exact hq
  · rw [dueF, if_pos h1] at hq
    exact hq
theorem c_canAppeal {c : Int32} (hB : Bd f) (hR : Rl hd zn pa tk cs f) (hc0 : vp_in c (cl (f 4))) (hq : Q (mayAppealF f c) (sw w b hd zn nm pa tk cs) z) : F_X3_canAppeal b c (sw w b hd zn nm pa tk cs) z Q := by
  have hB1 := clI hB.1
  have hB2 := clI hB.2.1
  have hB3 := clI hB.2.2.1
  have hB4 := clI hB.2.2.2
  have c1 := clI hc0
  have c2 := vp_le (m := 20) hc0 (by omega)
  have c3 : cl c < 20 := by omega
  unfold F_X3_canAppeal
  refine ⟨_, s_r11, s_aC c2 ⟨_, gC4 hR c3 c1.2, fun h1 => ?_, fun h1 => ⟨_, s_r11, s_aC c2 ⟨_, gH0 hR, s_iC c3, c_overdueAt hB hR hc0 ⟨fun h2 => ?_, fun h2 => ?_⟩⟩⟩⟩⟩
  · rw [mayAppealF, if_neg h1] at hq
    exact hq
  · rw [mayAppealF, if_pos h1, if_neg h2] at hq
    exact hq
  · rw [mayAppealF, if_pos h1, if_pos h2] at hq
    exact hq
set_option maxRecDepth 100000 in
set_option maxHeartbeats 4000000 in
theorem c_canDecide {c : Int32} (hB : Bd f) (hR : Rl hd zn pa tk cs f) (hc0 : vp_in c (cl (f 4))) (hq : Q (if f (305 + 7 * cl c + 2) = 1 then 1 else 0) (sw w b hd zn nm pa tk cs) z) : F_X3_canDecide b c (sw w b hd zn nm pa tk cs) z Q := by
  have hB1 := clI hB.1
  have hB2 := clI hB.2.1
  have hB3 := clI hB.2.2.1
  have hB4 := clI hB.2.2.2
  have c1 := clI hc0
  have c2 := vp_le (m := 20) hc0 (by omega)
  unfold F_X3_canDecide
  repeat' with_reducible (first
    | (refine ⟨s_iH, ?_⟩)
    | (refine ⟨s_iP (by first | assumption | omega | solve_by_elim), ?_⟩)
    | (refine ⟨s_iT (by first | assumption | omega | solve_by_elim), ?_⟩)
    | (refine ⟨s_iC (by first | assumption | omega | solve_by_elim), ?_⟩)
    | (refine ⟨_, s_r8, ?_⟩)
    | (refine ⟨_, s_r9, ?_⟩)
    | (refine ⟨_, s_r10, ?_⟩)
    | (refine ⟨_, s_r11, ?_⟩)
    | (refine s_aP (by first | assumption | omega | solve_by_elim) ?_)
    | (refine s_aT (by first | assumption | omega | solve_by_elim) ?_)
    | (refine s_aC (by first | assumption | omega | solve_by_elim) ?_)
    | (refine ⟨_, gH0 hR, ?_⟩)
    | (refine ⟨_, gH1 hR, ?_⟩)
    | (refine ⟨_, gH2 hR, ?_⟩)
    | (refine ⟨_, gH3 hR, ?_⟩)
    | (refine ⟨_, gH4 hR, ?_⟩)
    | (refine ⟨_, gH5 hR, ?_⟩)
    | (refine ⟨_, gH6 hR, ?_⟩)
    | (refine ⟨_, gH7 hR, ?_⟩)
    | (refine ⟨_, gP1 hR (by first | assumption | omega | solve_by_elim) (by first | assumption | omega | solve_by_elim), ?_⟩)
    | (refine ⟨_, gP4 hR (by first | assumption | omega | solve_by_elim) (by first | assumption | omega | solve_by_elim), ?_⟩)
    | (refine ⟨_, gP5 hR (by first | assumption | omega | solve_by_elim) (by first | assumption | omega | solve_by_elim), ?_⟩)
    | (refine ⟨_, gP6 hR (by first | assumption | omega | solve_by_elim) (by first | assumption | omega | solve_by_elim), ?_⟩)
    | (refine ⟨_, gP2n hR (by first | assumption | omega | solve_by_elim) (by first | assumption | omega | solve_by_elim) (by first | assumption | omega | solve_by_elim), ?_⟩)
    | (refine ⟨_, gP2 hR (by first | assumption | omega | solve_by_elim) (by first | assumption | omega | solve_by_elim) (by first | assumption | omega | solve_by_elim), ?_⟩)
    | (refine ⟨_, gP3 hR (by first | assumption | omega | solve_by_elim) (by first | assumption | omega | solve_by_elim) (by first | assumption | omega | solve_by_elim), ?_⟩)
    | (refine ⟨_, gT0 hR (by first | assumption | omega | solve_by_elim) (by first | assumption | omega | solve_by_elim), ?_⟩)
    | (refine ⟨_, gT1 hR (by first | assumption | omega | solve_by_elim) (by first | assumption | omega | solve_by_elim), ?_⟩)
    | (refine ⟨_, gT2 hR (by first | assumption | omega | solve_by_elim) (by first | assumption | omega | solve_by_elim), ?_⟩)
    | (refine ⟨_, gT3 hR (by first | assumption | omega | solve_by_elim) (by first | assumption | omega | solve_by_elim), ?_⟩)
    | (refine ⟨_, gT4 hR (by first | assumption | omega | solve_by_elim) (by first | assumption | omega | solve_by_elim), ?_⟩)
    | (refine ⟨_, gT5 hR (by first | assumption | omega | solve_by_elim) (by first | assumption | omega | solve_by_elim), ?_⟩)
    | (refine ⟨_, gC0 hR (by first | assumption | omega | solve_by_elim) (by first | assumption | omega | solve_by_elim), ?_⟩)
    | (refine ⟨_, gC1 hR (by first | assumption | omega | solve_by_elim) (by first | assumption | omega | solve_by_elim), ?_⟩)
    | (refine ⟨_, gC2 hR (by first | assumption | omega | solve_by_elim) (by first | assumption | omega | solve_by_elim), ?_⟩)
    | (refine ⟨_, gC3 hR (by first | assumption | omega | solve_by_elim) (by first | assumption | omega | solve_by_elim), ?_⟩)
    | (refine ⟨_, gC4 hR (by first | assumption | omega | solve_by_elim) (by first | assumption | omega | solve_by_elim), ?_⟩)
    | (refine ⟨_, gC5 hR (by first | assumption | omega | solve_by_elim) (by first | assumption | omega | solve_by_elim), ?_⟩)
    | (refine ⟨_, gC6 hR (by first | assumption | omega | solve_by_elim) (by first | assumption | omega | solve_by_elim), ?_⟩)
    | (rintro _ rfl)
    | (refine ⟨fun hc => ?_, fun hc => ?_⟩ <;> try first | contradiction | exact absurd hc one0)
    | fail)
  all_goals first
    | with_reducible exact hq
    | (simp only [if_pos, *, n01, n02, n03, n04, n05, n10, n12, n13, n14, n15, n20, n21, n23, n24, n25, n30, n31, n32, n34, n35, n40, n41, n42, n43, n45, n50, n51, n52, n53, n54, if_true, if_false, ite_true, ite_false, not_true_eq_false, not_false_eq_true, true_and, and_true, and_false, false_and, Nat.add_zero] at hq; with_reducible exact hq)
    | (simp only [if_pos, *, n01, n02, n03, n04, n05, n10, n12, n13, n14, n15, n20, n21, n23, n24, n25, n30, n31, n32, n34, n35, n40, n41, n42, n43, n45, n50, n51, n52, n53, n54, if_true, if_false, ite_true, ite_false, not_true_eq_false, not_false_eq_true, true_and, and_true, and_false, false_and, Nat.add_zero] at hq ⊢; try with_reducible exact hq)
set_option maxRecDepth 100000 in
set_option maxHeartbeats 4000000 in
theorem c_isExcusedBy {c t : Int32} (hB : Bd f) (hR : Rl hd zn pa tk cs f) (hc0 : vp_in c (cl (f 4))) (ht : vp_in t (cl (f 3))) (hq : Q (if judgedF f c t = 2 then 1 else 0) (sw w b hd zn nm pa tk cs) z) : F_X0_isExcusedBy (b + 43 + cl c) (b + 13 + cl t) (sw w b hd zn nm pa tk cs) z Q := by
  have hB1 := clI hB.1
  have hB2 := clI hB.2.1
  have hB3 := clI hB.2.2.1
  have hB4 := clI hB.2.2.2
  have c1 := clI hc0
  have c2 := vp_le (m := 20) hc0 (by omega)
  have t1 := clI ht
  have t2 := vp_le (m := 30) ht (by omega)
  unfold F_X0_isExcusedBy F_X4_isStamped
  repeat' with_reducible (first
    | (refine ⟨s_iH, ?_⟩)
    | (refine ⟨s_iP (by first | assumption | omega | solve_by_elim), ?_⟩)
    | (refine ⟨s_iT (by first | assumption | omega | solve_by_elim), ?_⟩)
    | (refine ⟨s_iC (by first | assumption | omega | solve_by_elim), ?_⟩)
    | (refine ⟨_, s_r8, ?_⟩)
    | (refine ⟨_, s_r9, ?_⟩)
    | (refine ⟨_, s_r10, ?_⟩)
    | (refine ⟨_, s_r11, ?_⟩)
    | (refine s_aP (by first | assumption | omega | solve_by_elim) ?_)
    | (refine s_aT (by first | assumption | omega | solve_by_elim) ?_)
    | (refine s_aC (by first | assumption | omega | solve_by_elim) ?_)
    | (refine ⟨_, gH0 hR, ?_⟩)
    | (refine ⟨_, gH1 hR, ?_⟩)
    | (refine ⟨_, gH2 hR, ?_⟩)
    | (refine ⟨_, gH3 hR, ?_⟩)
    | (refine ⟨_, gH4 hR, ?_⟩)
    | (refine ⟨_, gH5 hR, ?_⟩)
    | (refine ⟨_, gH6 hR, ?_⟩)
    | (refine ⟨_, gH7 hR, ?_⟩)
    | (refine ⟨_, gP1 hR (by first | assumption | omega | solve_by_elim) (by first | assumption | omega | solve_by_elim), ?_⟩)
    | (refine ⟨_, gP4 hR (by first | assumption | omega | solve_by_elim) (by first | assumption | omega | solve_by_elim), ?_⟩)
    | (refine ⟨_, gP5 hR (by first | assumption | omega | solve_by_elim) (by first | assumption | omega | solve_by_elim), ?_⟩)
    | (refine ⟨_, gP6 hR (by first | assumption | omega | solve_by_elim) (by first | assumption | omega | solve_by_elim), ?_⟩)
    | (refine ⟨_, gP2n hR (by first | assumption | omega | solve_by_elim) (by first | assumption | omega | solve_by_elim) (by first | assumption | omega | solve_by_elim), ?_⟩)
    | (refine ⟨_, gP2 hR (by first | assumption | omega | solve_by_elim) (by first | assumption | omega | solve_by_elim) (by first | assumption | omega | solve_by_elim), ?_⟩)
    | (refine ⟨_, gP3 hR (by first | assumption | omega | solve_by_elim) (by first | assumption | omega | solve_by_elim) (by first | assumption | omega | solve_by_elim), ?_⟩)
    | (refine ⟨_, gT0 hR (by first | assumption | omega | solve_by_elim) (by first | assumption | omega | solve_by_elim), ?_⟩)
    | (refine ⟨_, gT1 hR (by first | assumption | omega | solve_by_elim) (by first | assumption | omega | solve_by_elim), ?_⟩)
    | (refine ⟨_, gT2 hR (by first | assumption | omega | solve_by_elim) (by first | assumption | omega | solve_by_elim), ?_⟩)
    | (refine ⟨_, gT3 hR (by first | assumption | omega | solve_by_elim) (by first | assumption | omega | solve_by_elim), ?_⟩)
    | (refine ⟨_, gT4 hR (by first | assumption | omega | solve_by_elim) (by first | assumption | omega | solve_by_elim), ?_⟩)
    | (refine ⟨_, gT5 hR (by first | assumption | omega | solve_by_elim) (by first | assumption | omega | solve_by_elim), ?_⟩)
    | (refine ⟨_, gC0 hR (by first | assumption | omega | solve_by_elim) (by first | assumption | omega | solve_by_elim), ?_⟩)
    | (refine ⟨_, gC1 hR (by first | assumption | omega | solve_by_elim) (by first | assumption | omega | solve_by_elim), ?_⟩)
    | (refine ⟨_, gC2 hR (by first | assumption | omega | solve_by_elim) (by first | assumption | omega | solve_by_elim), ?_⟩)
    | (refine ⟨_, gC3 hR (by first | assumption | omega | solve_by_elim) (by first | assumption | omega | solve_by_elim), ?_⟩)
    | (refine ⟨_, gC4 hR (by first | assumption | omega | solve_by_elim) (by first | assumption | omega | solve_by_elim), ?_⟩)
    | (refine ⟨_, gC5 hR (by first | assumption | omega | solve_by_elim) (by first | assumption | omega | solve_by_elim), ?_⟩)
    | (refine ⟨_, gC6 hR (by first | assumption | omega | solve_by_elim) (by first | assumption | omega | solve_by_elim), ?_⟩)
    | (refine c_dayOf ?_)
    | (refine c_hasZones hB hR ht ?_)
    | (rintro _ rfl)
    | (refine ⟨fun hc => ?_, fun hc => ?_⟩ <;> try first | contradiction | exact absurd hc one0)
    | fail)
  all_goals first
    | with_reducible exact hq
    | (simp_all [judgedF])
theorem judged_or {c t : Int32} : judgedF f c t = 2 ∨ judgedF f c t = 3 := by
  unfold judgedF
  simp only
  split
  · exact Or.inl rfl
  · exact Or.inr rfl
theorem c_decisionFor {c t : Int32} (hB : Bd f) (hR : Rl hd zn pa tk cs f) (hc0 : vp_in c (cl (f 4))) (ht : vp_in t (cl (f 3))) (hq : Q (judgedF f c t) (sw w b hd zn nm pa tk cs) z) : F_X3_decisionFor b c t (sw w b hd zn nm pa tk cs) z Q := by
  have hB1 := clI hB.1
  have hB2 := clI hB.2.1
  have hB3 := clI hB.2.2.1
  have hB4 := clI hB.2.2.2
  have c1 := clI hc0
  have c2 := vp_le (m := 20) hc0 (by omega)
  have t1 := clI ht
  have t2 := vp_le (m := 30) ht (by omega)
  have c3 : cl c < 20 := by omega
  unfold F_X3_decisionFor
  refine ⟨_, s_r11, s_aC c2 ⟨_, s_r10, s_aT t2 ⟨s_iC c3, c_isExcusedBy hB hR hc0 ht ?_⟩⟩⟩
  rcases judged_or (f := f) (c := c) (t := t) with e | e
  · rw [e] at hq
    rw [if_pos e]
    exact ⟨fun h => absurd h one0, fun _ => hq⟩
  · rw [e] at hq
    rw [if_neg (by rw [e]; decide)]
    exact ⟨fun _ => hq, fun h => absurd rfl h⟩
set_option maxRecDepth 100000 in
set_option maxHeartbeats 4000000 in
theorem c_canPay {c : Int32} (hB : Bd f) (hR : Rl hd zn pa tk cs f) (hc0 : vp_in c (cl (f 4))) (hw : vp_in (f (305 + 7 * cl c)) (cl (f 2))) (hw1 : vp_in (f (305 + 7 * cl c)) 8) (hw2 : cl (f (305 + 7 * cl c)) < cl (f 2)) (hw3 : cl (f (305 + 7 * cl c)) < 8) (hq : Q (mayPayF f c) (sw w b hd zn nm pa tk cs) z) : F_X3_canPay b c (sw w b hd zn nm pa tk cs) z Q := by
  have hB1 := clI hB.1
  have hB2 := clI hB.2.1
  have hB3 := clI hB.2.2.1
  have hB4 := clI hB.2.2.2
  have c1 := clI hc0
  have c2 := vp_le (m := 20) hc0 (by omega)
  unfold F_X3_canPay
  repeat' with_reducible (first
    | (refine ⟨s_iH, ?_⟩)
    | (refine ⟨s_iP (by first | assumption | omega | solve_by_elim), ?_⟩)
    | (refine ⟨s_iT (by first | assumption | omega | solve_by_elim), ?_⟩)
    | (refine ⟨s_iC (by first | assumption | omega | solve_by_elim), ?_⟩)
    | (refine ⟨_, s_r8, ?_⟩)
    | (refine ⟨_, s_r9, ?_⟩)
    | (refine ⟨_, s_r10, ?_⟩)
    | (refine ⟨_, s_r11, ?_⟩)
    | (refine s_aP (by first | assumption | omega | solve_by_elim) ?_)
    | (refine s_aT (by first | assumption | omega | solve_by_elim) ?_)
    | (refine s_aC (by first | assumption | omega | solve_by_elim) ?_)
    | (refine ⟨_, gH0 hR, ?_⟩)
    | (refine ⟨_, gH1 hR, ?_⟩)
    | (refine ⟨_, gH2 hR, ?_⟩)
    | (refine ⟨_, gH3 hR, ?_⟩)
    | (refine ⟨_, gH4 hR, ?_⟩)
    | (refine ⟨_, gH5 hR, ?_⟩)
    | (refine ⟨_, gH6 hR, ?_⟩)
    | (refine ⟨_, gH7 hR, ?_⟩)
    | (refine ⟨_, gP1 hR (by first | assumption | omega | solve_by_elim) (by first | assumption | omega | solve_by_elim), ?_⟩)
    | (refine ⟨_, gP4 hR (by first | assumption | omega | solve_by_elim) (by first | assumption | omega | solve_by_elim), ?_⟩)
    | (refine ⟨_, gP5 hR (by first | assumption | omega | solve_by_elim) (by first | assumption | omega | solve_by_elim), ?_⟩)
    | (refine ⟨_, gP6 hR (by first | assumption | omega | solve_by_elim) (by first | assumption | omega | solve_by_elim), ?_⟩)
    | (refine ⟨_, gP2n hR (by first | assumption | omega | solve_by_elim) (by first | assumption | omega | solve_by_elim) (by first | assumption | omega | solve_by_elim), ?_⟩)
    | (refine ⟨_, gP2 hR (by first | assumption | omega | solve_by_elim) (by first | assumption | omega | solve_by_elim) (by first | assumption | omega | solve_by_elim), ?_⟩)
    | (refine ⟨_, gP3 hR (by first | assumption | omega | solve_by_elim) (by first | assumption | omega | solve_by_elim) (by first | assumption | omega | solve_by_elim), ?_⟩)
    | (refine ⟨_, gT0 hR (by first | assumption | omega | solve_by_elim) (by first | assumption | omega | solve_by_elim), ?_⟩)
    | (refine ⟨_, gT1 hR (by first | assumption | omega | solve_by_elim) (by first | assumption | omega | solve_by_elim), ?_⟩)
    | (refine ⟨_, gT2 hR (by first | assumption | omega | solve_by_elim) (by first | assumption | omega | solve_by_elim), ?_⟩)
    | (refine ⟨_, gT3 hR (by first | assumption | omega | solve_by_elim) (by first | assumption | omega | solve_by_elim), ?_⟩)
    | (refine ⟨_, gT4 hR (by first | assumption | omega | solve_by_elim) (by first | assumption | omega | solve_by_elim), ?_⟩)
    | (refine ⟨_, gT5 hR (by first | assumption | omega | solve_by_elim) (by first | assumption | omega | solve_by_elim), ?_⟩)
    | (refine ⟨_, gC0 hR (by first | assumption | omega | solve_by_elim) (by first | assumption | omega | solve_by_elim), ?_⟩)
    | (refine ⟨_, gC1 hR (by first | assumption | omega | solve_by_elim) (by first | assumption | omega | solve_by_elim), ?_⟩)
    | (refine ⟨_, gC2 hR (by first | assumption | omega | solve_by_elim) (by first | assumption | omega | solve_by_elim), ?_⟩)
    | (refine ⟨_, gC3 hR (by first | assumption | omega | solve_by_elim) (by first | assumption | omega | solve_by_elim), ?_⟩)
    | (refine ⟨_, gC4 hR (by first | assumption | omega | solve_by_elim) (by first | assumption | omega | solve_by_elim), ?_⟩)
    | (refine ⟨_, gC5 hR (by first | assumption | omega | solve_by_elim) (by first | assumption | omega | solve_by_elim), ?_⟩)
    | (refine ⟨_, gC6 hR (by first | assumption | omega | solve_by_elim) (by first | assumption | omega | solve_by_elim), ?_⟩)
    | (refine c_costAt hB hR hc0 ?_)
    | (rintro _ rfl)
    | (refine ⟨fun hc => ?_, fun hc => ?_⟩ <;> try first | contradiction | exact absurd hc one0)
    | fail)
  all_goals first
    | with_reducible exact hq
    | (simp only [mayPayF, *, n01, n02, n03, n04, n05, n10, n12, n13, n14, n15, n20, n21, n23, n24, n25, n30, n31, n32, n34, n35, n40, n41, n42, n43, n45, n50, n51, n52, n53, n54, if_true, if_false, ite_true, ite_false, not_true_eq_false, not_false_eq_true, true_and, and_true, and_false, false_and, Nat.add_zero] at hq; with_reducible exact hq)
    | (simp only [mayPayF, *, n01, n02, n03, n04, n05, n10, n12, n13, n14, n15, n20, n21, n23, n24, n25, n30, n31, n32, n34, n35, n40, n41, n42, n43, n45, n50, n51, n52, n53, n54, if_true, if_false, ite_true, ite_false, not_true_eq_false, not_false_eq_true, true_and, and_true, and_false, false_and, Nat.add_zero] at hq ⊢; try with_reducible exact hq)
end
