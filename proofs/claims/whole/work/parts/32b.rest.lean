section
variable {w : Mm} {m s z : Nat} {f : Nat → Int32} {Q : Int32 → Mm → Nat → Prop} {R : Mm → Nat → Prop}
set_option maxRecDepth 100000 in
set_option maxHeartbeats 4000000 in
theorem r_fault {p : Int32} (h : Ok w m s) (hp : vp_in p 8) (ha : ¬ f (21 + 13 * cl p + 3) = -1 → vp_in (f (21 + 13 * cl p + 1)) 12) (hb : ¬ f (21 + 13 * cl p + 3) = -1 → vp_in (f (21 + 13 * cl p + 2)) 12) (hk : ¬ f (21 + 13 * cl p + 3) = -1 → ¬ f (21 + 13 * cl p + 4) = -1 → vp_in (f (21 + 13 * cl p + 4)) 30) (hq : Q (faultF f p) (mw w s f) z) : F_X6_fault m p (mw w s f) z Q := by
  unfold F_X6_fault
  unfold faultF at hq
  refine ⟨h.is _, r_ofP3 h hp ⟨fun h1 => ?_, fun h1 => ?_⟩⟩
  · simp only [if_neg h1] at hq
    refine ⟨h.is _, r_ofP4 h hp ⟨fun h2 => ?_, fun h2 => ?_⟩⟩
    · have hk := hk h1 h2
      simp only [if_neg h2] at hq
      refine ⟨h.is _, r_inTime h hk ⟨fun h3 => ?_, fun h3 => ?_⟩⟩
      · rw [if_neg h3] at hq
        refine ⟨h.is _, r_ofT2 h hk ⟨h.is _, r_rideZones h hp (ha h1) (hb h1) (r_covers ⟨fun h4 => ?_, fun h4 => ?_⟩)⟩⟩
        · rw [if_neg h4] at hq
          have k76 : ∀ hq : Q (if f (125 + 6 * cl (f (21 + 13 * cl p + 4)) + 1) = 2 ∧ ¬ jabs (f (21 + 13 * cl p + 2) - f (125 + 6 * cl (f (21 + 13 * cl p + 4)) + 4)) ≤ 4 then 5 else 0) (mw w s f) z, B_X6_fault_76 m p Q (f (21 + 13 * cl p + 4)) (mw w s f) z := by
            intro hq
            refine ⟨h.is _, r_ofT1 h hk ⟨fun h5 => ?_, fun h5 => ?_⟩⟩
            · rw [if_neg (fun x => h5 x.1)] at hq
              exact hq
            · refine ⟨h.is _, r_ofP2 h hp ⟨h.is _, r_ofT4 h hk ⟨fun h6 => ?_, fun h6 => ?_⟩⟩⟩
              · rw [if_neg (fun x => x.2 h6)] at hq
                exact hq
              · rw [if_pos ⟨h5, h6⟩] at hq
                exact hq
          refine ⟨h.is _, r_ofT1 h hk ⟨fun h5 => ?_, fun h5 => ?_⟩⟩
          · rw [if_neg (fun x => h5 x.1)] at hq
            exact k76 hq
          · refine ⟨h.is _, r_ofT5 h hk ⟨fun h6 => ?_, fun h6 => ?_⟩⟩
            · rw [if_neg (fun x => x.2 h6)] at hq
              exact k76 hq
            · rw [if_pos ⟨h5, h6⟩] at hq
              exact hq
        · rw [if_pos h4] at hq
          exact hq
      · rw [if_pos h3] at hq
        exact hq
    · simp only [if_pos h2] at hq
      exact hq
  · simp only [if_pos h1] at hq
    exact hq
theorem r_isLate {c : Int32} (h : Ok w m s) (hc : vp_in c 20) (hq : Q (isLateF f c) (mw w s f) z) : F_X6_isLate m c (mw w s f) z Q := by
  unfold F_X6_isLate
  simp only [cl0]
  refine ⟨h.is _, r_ofC2 h hc ⟨fun h1 => ?_, fun h1 => ?_⟩⟩
  · rw [isLateF, if_pos h1] at hq
    exact hq
  · refine ⟨_, h.fl _, _, _, mw_r _ _ _, vl0, h.is _, r_ofC3 h hc ⟨fun h2 => ?_, fun h2 => ?_⟩⟩
    · rw [isLateF, if_neg h1, if_pos h2] at hq
      exact hq
    · rw [isLateF, if_neg h1, if_neg h2] at hq
      exact hq
set_option maxRecDepth 100000 in
set_option maxHeartbeats 4000000 in
theorem r_due {c : Int32} (h : Ok w m s) (hc : vp_in c 20) (hq : Q (dueF f c) (mw w s f) z) : F_X6_due m c (mw w s f) z Q := by
  unfold F_X6_due
  try simp only [cl0, cl1, cl2, cl3, cl4, cl5, cl6, cl7, cl8]
  repeat' with_reducible (first
    | (refine r_isLate h (by first | assumption | solve_by_elim) ?_)
    | (refine r_ofP0 h (by first | assumption | solve_by_elim) ?_)
    | (refine r_ofP1 h (by first | assumption | solve_by_elim) ?_)
    | (refine r_ofP2 h (by first | assumption | solve_by_elim) ?_)
    | (refine r_ofP3 h (by first | assumption | solve_by_elim) ?_)
    | (refine r_ofP4 h (by first | assumption | solve_by_elim) ?_)
    | (refine r_ofP5 h (by first | assumption | solve_by_elim) ?_)
    | (refine r_ofP6 h (by first | assumption | solve_by_elim) ?_)
    | (refine r_ofT0 h (by first | assumption | solve_by_elim) ?_)
    | (refine r_ofT1 h (by first | assumption | solve_by_elim) ?_)
    | (refine r_ofT2 h (by first | assumption | solve_by_elim) ?_)
    | (refine r_ofT3 h (by first | assumption | solve_by_elim) ?_)
    | (refine r_ofT4 h (by first | assumption | solve_by_elim) ?_)
    | (refine r_ofT5 h (by first | assumption | solve_by_elim) ?_)
    | (refine r_ofC0 h (by first | assumption | solve_by_elim) ?_)
    | (refine r_ofC1 h (by first | assumption | solve_by_elim) ?_)
    | (refine r_ofC2 h (by first | assumption | solve_by_elim) ?_)
    | (refine r_ofC3 h (by first | assumption | solve_by_elim) ?_)
    | (refine r_ofC4 h (by first | assumption | solve_by_elim) ?_)
    | (refine r_ofC5 h (by first | assumption | solve_by_elim) ?_)
    | (refine r_ofC6 h (by first | assumption | solve_by_elim) ?_)
    | (refine r_putP0 h (by first | assumption | solve_by_elim) ?_)
    | (refine r_putP1 h (by first | assumption | solve_by_elim) ?_)
    | (refine r_putP2 h (by first | assumption | solve_by_elim) ?_)
    | (refine r_putP3 h (by first | assumption | solve_by_elim) ?_)
    | (refine r_putP4 h (by first | assumption | solve_by_elim) ?_)
    | (refine r_putP5 h (by first | assumption | solve_by_elim) ?_)
    | (refine r_putP6 h (by first | assumption | solve_by_elim) ?_)
    | (refine r_putT0 h (by first | assumption | solve_by_elim) ?_)
    | (refine r_putT1 h (by first | assumption | solve_by_elim) ?_)
    | (refine r_putT2 h (by first | assumption | solve_by_elim) ?_)
    | (refine r_putT3 h (by first | assumption | solve_by_elim) ?_)
    | (refine r_putT4 h (by first | assumption | solve_by_elim) ?_)
    | (refine r_putT5 h (by first | assumption | solve_by_elim) ?_)
    | (refine r_putC0 h (by first | assumption | solve_by_elim) ?_)
    | (refine r_putC1 h (by first | assumption | solve_by_elim) ?_)
    | (refine r_putC2 h (by first | assumption | solve_by_elim) ?_)
    | (refine r_putC3 h (by first | assumption | solve_by_elim) ?_)
    | (refine r_putC4 h (by first | assumption | solve_by_elim) ?_)
    | (refine r_putC5 h (by first | assumption | solve_by_elim) ?_)
    | (refine r_putC6 h (by first | assumption | solve_by_elim) ?_)
    | (refine ⟨h.is _, ?_⟩)
    | (refine ⟨_, h.fl _, ?_⟩)
    | (refine ⟨_, _, mw_r _ _ _, (by first | exact vl0 | exact vl1 | exact vl2 | exact vl3 | exact vl4 | exact vl5 | exact vl6 | exact vl7 | exact vl8), ?_⟩)
    | (refine ⟨_, _, mw_w _ _ _, (by first | exact vl0 | exact vl1 | exact vl2 | exact vl3 | exact vl4 | exact vl5 | exact vl6 | exact vl7 | exact vl8), ?_⟩)
    | (rintro _ rfl; try rw [mw_set])
    | (refine ⟨fun hc => ?_, fun hc => ?_⟩ <;> try first | contradiction | exact absurd hc one0)
    | fail
    )
  all_goals first
    | with_reducible exact hq
    | (simp only [dueF, Int32.add_zero, *, n01, n02, n03, n04, n05, n10, n12, n13, n14, n15, n20, n21, n23, n24, n25, n30, n31, n32, n34, n35, n40, n41, n42, n43, n45, n50, n51, n52, n53, n54, if_true, if_false, ite_true, ite_false, not_true_eq_false, not_false_eq_true, true_and, and_true, and_false, false_and, Nat.add_zero] at hq; with_reducible exact hq)
    | (simp only [dueF, Int32.add_zero, *, n01, n02, n03, n04, n05, n10, n12, n13, n14, n15, n20, n21, n23, n24, n25, n30, n31, n32, n34, n35, n40, n41, n42, n43, n45, n50, n51, n52, n53, n54, if_true, if_false, ite_true, ite_false, not_true_eq_false, not_false_eq_true, true_and, and_true, and_false, false_and, Nat.add_zero] at hq ⊢; try with_reducible exact hq)
set_option maxRecDepth 100000 in
set_option maxHeartbeats 4000000 in
theorem r_mayAppeal {c : Int32} (h : Ok w m s) (hc : vp_in c 20) (hq : Q (mayAppealF f c) (mw w s f) z) : F_X6_mayAppeal m c (mw w s f) z Q := by
  unfold F_X6_mayAppeal
  try simp only [cl0, cl1, cl2, cl3, cl4, cl5, cl6, cl7, cl8]
  repeat' with_reducible (first
    | (refine r_isLate h (by first | assumption | solve_by_elim) ?_)
    | (refine r_ofP0 h (by first | assumption | solve_by_elim) ?_)
    | (refine r_ofP1 h (by first | assumption | solve_by_elim) ?_)
    | (refine r_ofP2 h (by first | assumption | solve_by_elim) ?_)
    | (refine r_ofP3 h (by first | assumption | solve_by_elim) ?_)
    | (refine r_ofP4 h (by first | assumption | solve_by_elim) ?_)
    | (refine r_ofP5 h (by first | assumption | solve_by_elim) ?_)
    | (refine r_ofP6 h (by first | assumption | solve_by_elim) ?_)
    | (refine r_ofT0 h (by first | assumption | solve_by_elim) ?_)
    | (refine r_ofT1 h (by first | assumption | solve_by_elim) ?_)
    | (refine r_ofT2 h (by first | assumption | solve_by_elim) ?_)
    | (refine r_ofT3 h (by first | assumption | solve_by_elim) ?_)
    | (refine r_ofT4 h (by first | assumption | solve_by_elim) ?_)
    | (refine r_ofT5 h (by first | assumption | solve_by_elim) ?_)
    | (refine r_ofC0 h (by first | assumption | solve_by_elim) ?_)
    | (refine r_ofC1 h (by first | assumption | solve_by_elim) ?_)
    | (refine r_ofC2 h (by first | assumption | solve_by_elim) ?_)
    | (refine r_ofC3 h (by first | assumption | solve_by_elim) ?_)
    | (refine r_ofC4 h (by first | assumption | solve_by_elim) ?_)
    | (refine r_ofC5 h (by first | assumption | solve_by_elim) ?_)
    | (refine r_ofC6 h (by first | assumption | solve_by_elim) ?_)
    | (refine r_putP0 h (by first | assumption | solve_by_elim) ?_)
    | (refine r_putP1 h (by first | assumption | solve_by_elim) ?_)
    | (refine r_putP2 h (by first | assumption | solve_by_elim) ?_)
    | (refine r_putP3 h (by first | assumption | solve_by_elim) ?_)
    | (refine r_putP4 h (by first | assumption | solve_by_elim) ?_)
    | (refine r_putP5 h (by first | assumption | solve_by_elim) ?_)
    | (refine r_putP6 h (by first | assumption | solve_by_elim) ?_)
    | (refine r_putT0 h (by first | assumption | solve_by_elim) ?_)
    | (refine r_putT1 h (by first | assumption | solve_by_elim) ?_)
    | (refine r_putT2 h (by first | assumption | solve_by_elim) ?_)
    | (refine r_putT3 h (by first | assumption | solve_by_elim) ?_)
    | (refine r_putT4 h (by first | assumption | solve_by_elim) ?_)
    | (refine r_putT5 h (by first | assumption | solve_by_elim) ?_)
    | (refine r_putC0 h (by first | assumption | solve_by_elim) ?_)
    | (refine r_putC1 h (by first | assumption | solve_by_elim) ?_)
    | (refine r_putC2 h (by first | assumption | solve_by_elim) ?_)
    | (refine r_putC3 h (by first | assumption | solve_by_elim) ?_)
    | (refine r_putC4 h (by first | assumption | solve_by_elim) ?_)
    | (refine r_putC5 h (by first | assumption | solve_by_elim) ?_)
    | (refine r_putC6 h (by first | assumption | solve_by_elim) ?_)
    | (refine ⟨h.is _, ?_⟩)
    | (refine ⟨_, h.fl _, ?_⟩)
    | (refine ⟨_, _, mw_r _ _ _, (by first | exact vl0 | exact vl1 | exact vl2 | exact vl3 | exact vl4 | exact vl5 | exact vl6 | exact vl7 | exact vl8), ?_⟩)
    | (refine ⟨_, _, mw_w _ _ _, (by first | exact vl0 | exact vl1 | exact vl2 | exact vl3 | exact vl4 | exact vl5 | exact vl6 | exact vl7 | exact vl8), ?_⟩)
    | (rintro _ rfl; try rw [mw_set])
    | (refine ⟨fun hc => ?_, fun hc => ?_⟩ <;> try first | contradiction | exact absurd hc one0)
    | fail
    )
  all_goals first
    | with_reducible exact hq
    | (simp only [mayAppealF, *, n01, n02, n03, n04, n05, n10, n12, n13, n14, n15, n20, n21, n23, n24, n25, n30, n31, n32, n34, n35, n40, n41, n42, n43, n45, n50, n51, n52, n53, n54, if_true, if_false, ite_true, ite_false, not_true_eq_false, not_false_eq_true, true_and, and_true, and_false, false_and, Nat.add_zero] at hq; with_reducible exact hq)
    | (simp only [mayAppealF, *, n01, n02, n03, n04, n05, n10, n12, n13, n14, n15, n20, n21, n23, n24, n25, n30, n31, n32, n34, n35, n40, n41, n42, n43, n45, n50, n51, n52, n53, n54, if_true, if_false, ite_true, ite_false, not_true_eq_false, not_false_eq_true, true_and, and_true, and_false, false_and, Nat.add_zero] at hq ⊢; try with_reducible exact hq)
set_option maxRecDepth 100000 in
set_option maxHeartbeats 4000000 in
theorem r_mayPay {c : Int32} (h : Ok w m s) (hc : vp_in c 20) (hp : vp_in (f (305 + 7 * cl c)) 8) (hq : Q (mayPayF f c) (mw w s f) z) : F_X6_mayPay m c (mw w s f) z Q := by
  unfold F_X6_mayPay
  try simp only [cl0, cl1, cl2, cl3, cl4, cl5, cl6, cl7, cl8]
  repeat' with_reducible (first
    | (refine r_due h (by first | assumption | solve_by_elim) ?_)
    | (refine r_ofP0 h (by first | assumption | solve_by_elim) ?_)
    | (refine r_ofP1 h (by first | assumption | solve_by_elim) ?_)
    | (refine r_ofP2 h (by first | assumption | solve_by_elim) ?_)
    | (refine r_ofP3 h (by first | assumption | solve_by_elim) ?_)
    | (refine r_ofP4 h (by first | assumption | solve_by_elim) ?_)
    | (refine r_ofP5 h (by first | assumption | solve_by_elim) ?_)
    | (refine r_ofP6 h (by first | assumption | solve_by_elim) ?_)
    | (refine r_ofT0 h (by first | assumption | solve_by_elim) ?_)
    | (refine r_ofT1 h (by first | assumption | solve_by_elim) ?_)
    | (refine r_ofT2 h (by first | assumption | solve_by_elim) ?_)
    | (refine r_ofT3 h (by first | assumption | solve_by_elim) ?_)
    | (refine r_ofT4 h (by first | assumption | solve_by_elim) ?_)
    | (refine r_ofT5 h (by first | assumption | solve_by_elim) ?_)
    | (refine r_ofC0 h (by first | assumption | solve_by_elim) ?_)
    | (refine r_ofC1 h (by first | assumption | solve_by_elim) ?_)
    | (refine r_ofC2 h (by first | assumption | solve_by_elim) ?_)
    | (refine r_ofC3 h (by first | assumption | solve_by_elim) ?_)
    | (refine r_ofC4 h (by first | assumption | solve_by_elim) ?_)
    | (refine r_ofC5 h (by first | assumption | solve_by_elim) ?_)
    | (refine r_ofC6 h (by first | assumption | solve_by_elim) ?_)
    | (refine r_putP0 h (by first | assumption | solve_by_elim) ?_)
    | (refine r_putP1 h (by first | assumption | solve_by_elim) ?_)
    | (refine r_putP2 h (by first | assumption | solve_by_elim) ?_)
    | (refine r_putP3 h (by first | assumption | solve_by_elim) ?_)
    | (refine r_putP4 h (by first | assumption | solve_by_elim) ?_)
    | (refine r_putP5 h (by first | assumption | solve_by_elim) ?_)
    | (refine r_putP6 h (by first | assumption | solve_by_elim) ?_)
    | (refine r_putT0 h (by first | assumption | solve_by_elim) ?_)
    | (refine r_putT1 h (by first | assumption | solve_by_elim) ?_)
    | (refine r_putT2 h (by first | assumption | solve_by_elim) ?_)
    | (refine r_putT3 h (by first | assumption | solve_by_elim) ?_)
    | (refine r_putT4 h (by first | assumption | solve_by_elim) ?_)
    | (refine r_putT5 h (by first | assumption | solve_by_elim) ?_)
    | (refine r_putC0 h (by first | assumption | solve_by_elim) ?_)
    | (refine r_putC1 h (by first | assumption | solve_by_elim) ?_)
    | (refine r_putC2 h (by first | assumption | solve_by_elim) ?_)
    | (refine r_putC3 h (by first | assumption | solve_by_elim) ?_)
    | (refine r_putC4 h (by first | assumption | solve_by_elim) ?_)
    | (refine r_putC5 h (by first | assumption | solve_by_elim) ?_)
    | (refine r_putC6 h (by first | assumption | solve_by_elim) ?_)
    | (refine ⟨h.is _, ?_⟩)
    | (refine ⟨_, h.fl _, ?_⟩)
    | (refine ⟨_, _, mw_r _ _ _, (by first | exact vl0 | exact vl1 | exact vl2 | exact vl3 | exact vl4 | exact vl5 | exact vl6 | exact vl7 | exact vl8), ?_⟩)
    | (refine ⟨_, _, mw_w _ _ _, (by first | exact vl0 | exact vl1 | exact vl2 | exact vl3 | exact vl4 | exact vl5 | exact vl6 | exact vl7 | exact vl8), ?_⟩)
    | (rintro _ rfl; try rw [mw_set])
    | (refine ⟨fun hc => ?_, fun hc => ?_⟩ <;> try first | contradiction | exact absurd hc one0)
    | fail
    )
  all_goals first
    | with_reducible exact hq
    | (simp only [mayPayF, *, n01, n02, n03, n04, n05, n10, n12, n13, n14, n15, n20, n21, n23, n24, n25, n30, n31, n32, n34, n35, n40, n41, n42, n43, n45, n50, n51, n52, n53, n54, if_true, if_false, ite_true, ite_false, not_true_eq_false, not_false_eq_true, true_and, and_true, and_false, false_and, Nat.add_zero] at hq; with_reducible exact hq)
    | (simp only [mayPayF, *, n01, n02, n03, n04, n05, n10, n12, n13, n14, n15, n20, n21, n23, n24, n25, n30, n31, n32, n34, n35, n40, n41, n42, n43, n45, n50, n51, n52, n53, n54, if_true, if_false, ite_true, ite_false, not_true_eq_false, not_false_eq_true, true_and, and_true, and_false, false_and, Nat.add_zero] at hq ⊢; try with_reducible exact hq)
set_option maxRecDepth 100000 in
set_option maxHeartbeats 4000000 in
theorem r_pays {c : Int32} (h : Ok w m s) (hc : vp_in c 20) (hp : vp_in (f (305 + 7 * cl c)) 8) (hq : Q (dueF f c) (mw w s (payF f c)) z) : F_X6_pays m c (mw w s f) z Q := by
  unfold F_X6_pays
  try simp only [cl0, cl1, cl2, cl3, cl4, cl5, cl6, cl7, cl8]
  repeat' with_reducible (first
    | (refine r_due h (by first | assumption | solve_by_elim) ?_)
    | (refine r_ofP0 h (by first | assumption | solve_by_elim) ?_)
    | (refine r_ofP1 h (by first | assumption | solve_by_elim) ?_)
    | (refine r_ofP2 h (by first | assumption | solve_by_elim) ?_)
    | (refine r_ofP3 h (by first | assumption | solve_by_elim) ?_)
    | (refine r_ofP4 h (by first | assumption | solve_by_elim) ?_)
    | (refine r_ofP5 h (by first | assumption | solve_by_elim) ?_)
    | (refine r_ofP6 h (by first | assumption | solve_by_elim) ?_)
    | (refine r_ofT0 h (by first | assumption | solve_by_elim) ?_)
    | (refine r_ofT1 h (by first | assumption | solve_by_elim) ?_)
    | (refine r_ofT2 h (by first | assumption | solve_by_elim) ?_)
    | (refine r_ofT3 h (by first | assumption | solve_by_elim) ?_)
    | (refine r_ofT4 h (by first | assumption | solve_by_elim) ?_)
    | (refine r_ofT5 h (by first | assumption | solve_by_elim) ?_)
    | (refine r_ofC0 h (by first | assumption | solve_by_elim) ?_)
    | (refine r_ofC1 h (by first | assumption | solve_by_elim) ?_)
    | (refine r_ofC2 h (by first | assumption | solve_by_elim) ?_)
    | (refine r_ofC3 h (by first | assumption | solve_by_elim) ?_)
    | (refine r_ofC4 h (by first | assumption | solve_by_elim) ?_)
    | (refine r_ofC5 h (by first | assumption | solve_by_elim) ?_)
    | (refine r_ofC6 h (by first | assumption | solve_by_elim) ?_)
    | (refine r_putP0 h (by first | assumption | solve_by_elim) ?_)
    | (refine r_putP1 h (by first | assumption | solve_by_elim) ?_)
    | (refine r_putP2 h (by first | assumption | solve_by_elim) ?_)
    | (refine r_putP3 h (by first | assumption | solve_by_elim) ?_)
    | (refine r_putP4 h (by first | assumption | solve_by_elim) ?_)
    | (refine r_putP5 h (by first | assumption | solve_by_elim) ?_)
    | (refine r_putP6 h (by first | assumption | solve_by_elim) ?_)
    | (refine r_putT0 h (by first | assumption | solve_by_elim) ?_)
    | (refine r_putT1 h (by first | assumption | solve_by_elim) ?_)
    | (refine r_putT2 h (by first | assumption | solve_by_elim) ?_)
    | (refine r_putT3 h (by first | assumption | solve_by_elim) ?_)
    | (refine r_putT4 h (by first | assumption | solve_by_elim) ?_)
    | (refine r_putT5 h (by first | assumption | solve_by_elim) ?_)
    | (refine r_putC0 h (by first | assumption | solve_by_elim) ?_)
    | (refine r_putC1 h (by first | assumption | solve_by_elim) ?_)
    | (refine r_putC2 h (by first | assumption | solve_by_elim) ?_)
    | (refine r_putC3 h (by first | assumption | solve_by_elim) ?_)
    | (refine r_putC4 h (by first | assumption | solve_by_elim) ?_)
    | (refine r_putC5 h (by first | assumption | solve_by_elim) ?_)
    | (refine r_putC6 h (by first | assumption | solve_by_elim) ?_)
    | (refine ⟨h.is _, ?_⟩)
    | (refine ⟨_, h.fl _, ?_⟩)
    | (refine ⟨_, _, mw_r _ _ _, (by first | exact vl0 | exact vl1 | exact vl2 | exact vl3 | exact vl4 | exact vl5 | exact vl6 | exact vl7 | exact vl8), ?_⟩)
    | (refine ⟨_, _, mw_w _ _ _, (by first | exact vl0 | exact vl1 | exact vl2 | exact vl3 | exact vl4 | exact vl5 | exact vl6 | exact vl7 | exact vl8), ?_⟩)
    | (rintro _ rfl; try rw [mw_set])
    | (refine ⟨fun hc => ?_, fun hc => ?_⟩ <;> try first | contradiction | exact absurd hc one0)
    | fail
    )
  all_goals first
    | with_reducible exact hq
    | (simp only [payF, *, n01, n02, n03, n04, n05, n10, n12, n13, n14, n15, n20, n21, n23, n24, n25, n30, n31, n32, n34, n35, n40, n41, n42, n43, n45, n50, n51, n52, n53, n54, if_true, if_false, ite_true, ite_false, not_true_eq_false, not_false_eq_true, true_and, and_true, and_false, false_and, Nat.add_zero] at hq; with_reducible exact hq)
    | (simp only [payF, *, n01, n02, n03, n04, n05, n10, n12, n13, n14, n15, n20, n21, n23, n24, n25, n30, n31, n32, n34, n35, n40, n41, n42, n43, n45, n50, n51, n52, n53, n54, if_true, if_false, ite_true, ite_false, not_true_eq_false, not_false_eq_true, true_and, and_true, and_false, false_and, Nat.add_zero] at hq ⊢; try with_reducible exact hq)
end
