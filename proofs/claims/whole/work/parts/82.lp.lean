/-! the law's yes and no cases, and its loop -/
section
variable {b n x z L t cap k : Nat} {sc : Nat → Int32} {w w1 w2 : Mm} {l : List Int32} {h tx : Nat → Int32} {Fz : Nat → Prop} {g g2 : Nat → Int32} {A A2 : Nat → Nat → Int32} {K23 : Nat → Nat → Nat → Int32 → Mm → Nat → Nat → Nat → Prop} {Q : Int32 → Mm → Nat → Prop} {x4 : Int32} {mc ms : Nat}
theorem Tb_ok {m o : Nat} {BE QE : Mm → Nat → Prop} {B2 : Int64 → Int64 → Mm → Nat → Prop} {v : Int64} {rr : Int32} {fo : Nat → Int64} (h6 : g 6 = 0) (ho : rwd w m g A o = some (true, .inr (3, 1, .inr (.inl fo)))) (hv : fo 0 = v) (h0 : rr = 0 → B2 0 v (rwd w m g A) z) (h1 : ¬ rr = 0 → B2 1 v (rwd w m g A) z) : isO (rwd w m g A) m 10 ∧ F_X6_thrown m (rwd w m g A) z (fun t w z => (t = (0 : Int32) → (¬ (0 : Int32) = 0 → BE w z) ∧ ((0 : Int32) = 0 → ∃ n f, arL w o = some (n, f) ∧ vp_in 0 n ∧ (rr = 0 → B2 0 (f (0 : Int32).toNatClampNeg) w z) ∧ (¬ rr = 0 → B2 1 (f (0 : Int32).toNatClampNeg) w z))) ∧ (¬ t = (0 : Int32) → QE w z)) := by
  refine ⟨R_i, _, R_g6, fun _ => ⟨fun hh => absurd rfl hh, fun _ => ⟨_, _, arL_c ho rfl, in_nI (k := 0) (by decide) (by decide), ?_⟩⟩, fun hh => absurd h6 hh⟩
  rw [cl0, hv]
  exact ⟨h0, h1⟩
theorem law_isRiding (hW : LW b n sc x Fz g A h tx t cap l L w z) (hB : BG mc ms cap (k + 1)) (h1 : vp_in (x4 + 1) n) (hK : ∀ cap' w' z' mc' ms', LX b n sc x cap' w' z' → BG mc' ms' cap' k → K23 x (x + 764) (x + 773) (x4 + 6) w' z' mc' ms') : B_L_law_1360 b K23 Q x (x + 764) (x + 773) x4 w z mc ms := by
  have hC := hW.1
  have hI := hC.I1
  have hfo := hW.2.2.2.2.2.2.2.1
  have hb1 := hB.1
  have hb2 := hB.2.1
  exact ⟨_, _, hW.scr0, h1, 10, 100, by omega, by omega, hC.is0, 10, 100, Nat.le_refl _, Nat.le_refl _, X_isRiding hC (Nat.le_refl _) (Nat.le_refl _)
    (fun c_pa => ⟨fun e0 => okW hW FrS.rfl hC _ (fun w2 fo hF2 ho hv hC2 => ⟨_, _, hW.scr hF2, h1, by
      rw [hW.rw hF2]
      exact ⟨R_i, G_isRiding hI (fun c_pb => Tb_ok (BE := fun w z => B_L_law_1420 b K23 Q x (x + 764) (x + 773) x4 w z (mc - 10) (ms - 100)) (QE := fun w z => Q 0 w z) (B2 := fun y0 y1 w z => B_L_law_1414 b K23 Q x (x + 764) (x + 773) x4 y0 y1 w z (mc - 10) (ms - 100)) (upd_eq _ _ _) ((rwd_o (by omega)).trans ho) hv (fun hr => ⟨fun _ => hW.go0 hB hK (Nat.le_refl _) hF2 ⟨fo, ho⟩ hC2, fun hh => absurd (cmp_self _) hh⟩) (fun hr => absurd e0 hr)) (fun c_pb => absurd c_pa c_pb)⟩⟩), fun e0 => okW hW FrS.rfl hC _ (fun w2 fo hF2 ho hv hC2 => ⟨_, _, hW.scr hF2, h1, by
      rw [hW.rw hF2]
      exact ⟨R_i, G_isRiding hI (fun c_pb => Tb_ok (BE := fun w z => B_L_law_1420 b K23 Q x (x + 764) (x + 773) x4 w z (mc - 10) (ms - 100)) (QE := fun w z => Q 0 w z) (B2 := fun y0 y1 w z => B_L_law_1414 b K23 Q x (x + 764) (x + 773) x4 y0 y1 w z (mc - 10) (ms - 100)) (upd_eq _ _ _) ((rwd_o (by omega)).trans ho) hv (fun hr => absurd hr e0) (fun hr => ⟨fun _ => hW.go0 hB hK (Nat.le_refl _) hF2 ⟨fo, ho⟩ hC2, fun hh => absurd (cmp_self _) hh⟩)) (fun c_pb => absurd c_pa c_pb)⟩⟩)⟩)
    (fun c_pa z1 hz1 => ⟨fun _ => ⟨_, _, hW.scr0, h1, by
    rw [hW.rw FrO.rfl']
    exact ⟨R_i, G_isRiding hI (fun c_pb => absurd c_pb c_pa) (fun c_pb => ⟨R_i, _, R_g6, fun _ => ⟨fun _ => hW.go0 hB hK hz1 FrO.rfl' hfo hC, fun hh => absurd hh (by decide)⟩, fun hh => absurd (upd_eq _ _ _) hh⟩)⟩⟩, fun hh => absurd rfl hh⟩)⟩
theorem law_isInTime (hW : LW b n sc x Fz g A h tx t cap l L w z) (hB : BG mc ms cap (k + 1)) (h1 : vp_in (x4 + 1) n) (hK : ∀ cap' w' z' mc' ms', LX b n sc x cap' w' z' → BG mc' ms' cap' k → K23 x (x + 764) (x + 773) (x4 + 6) w' z' mc' ms') : B_L_law_2231 b K23 Q x (x + 764) (x + 773) x4 w z mc ms := by
  have hC := hW.1
  have hI := hC.I1
  have hfo := hW.2.2.2.2.2.2.2.1
  have hb1 := hB.1
  have hb2 := hB.2.1
  exact ⟨_, _, hW.scr0, h1, 10, 100, by omega, by omega, hC.is0, 10, 100, Nat.le_refl _, Nat.le_refl _, X_isInTime hC (Nat.le_refl _) (Nat.le_refl _)
    (fun c_pa => ⟨fun e0 => okW hW FrS.rfl hC _ (fun w2 fo hF2 ho hv hC2 => ⟨_, _, hW.scr hF2, h1, by
      rw [hW.rw hF2]
      exact ⟨R_i, G_isInTime hI (fun c_pb => Tb_ok (BE := fun w z => B_L_law_2291 b K23 Q x (x + 764) (x + 773) x4 w z (mc - 10) (ms - 100)) (QE := fun w z => Q 0 w z) (B2 := fun y0 y1 w z => B_L_law_2285 b K23 Q x (x + 764) (x + 773) x4 y0 y1 w z (mc - 10) (ms - 100)) (upd_eq _ _ _) ((rwd_o (by omega)).trans ho) hv (fun hr => ⟨fun _ => hW.go0 hB hK (Nat.le_refl _) hF2 ⟨fo, ho⟩ hC2, fun hh => absurd (cmp_self _) hh⟩) (fun hr => absurd e0 hr)) (fun c_pb => absurd c_pa c_pb)⟩⟩), fun e0 => okW hW FrS.rfl hC _ (fun w2 fo hF2 ho hv hC2 => ⟨_, _, hW.scr hF2, h1, by
      rw [hW.rw hF2]
      exact ⟨R_i, G_isInTime hI (fun c_pb => Tb_ok (BE := fun w z => B_L_law_2291 b K23 Q x (x + 764) (x + 773) x4 w z (mc - 10) (ms - 100)) (QE := fun w z => Q 0 w z) (B2 := fun y0 y1 w z => B_L_law_2285 b K23 Q x (x + 764) (x + 773) x4 y0 y1 w z (mc - 10) (ms - 100)) (upd_eq _ _ _) ((rwd_o (by omega)).trans ho) hv (fun hr => absurd hr e0) (fun hr => ⟨fun _ => hW.go0 hB hK (Nat.le_refl _) hF2 ⟨fo, ho⟩ hC2, fun hh => absurd (cmp_self _) hh⟩)) (fun c_pb => absurd c_pa c_pb)⟩⟩)⟩)
    (fun c_pa z1 hz1 => ⟨fun _ => ⟨_, _, hW.scr0, h1, by
    rw [hW.rw FrO.rfl']
    exact ⟨R_i, G_isInTime hI (fun c_pb => absurd c_pb c_pa) (fun c_pb => ⟨R_i, _, R_g6, fun _ => ⟨fun _ => hW.go0 hB hK hz1 FrO.rfl' hfo hC, fun hh => absurd hh (by decide)⟩, fun hh => absurd (upd_eq _ _ _) hh⟩)⟩⟩, fun hh => absurd rfl hh⟩)⟩
theorem law_isOverdue (hW : LW b n sc x Fz g A h tx t cap l L w z) (hB : BG mc ms cap (k + 1)) (h1 : vp_in (x4 + 1) n) (hK : ∀ cap' w' z' mc' ms', LX b n sc x cap' w' z' → BG mc' ms' cap' k → K23 x (x + 764) (x + 773) (x4 + 6) w' z' mc' ms') : B_L_law_2630 b K23 Q x (x + 764) (x + 773) x4 w z mc ms := by
  have hC := hW.1
  have hI := hC.I1
  have hfo := hW.2.2.2.2.2.2.2.1
  have hb1 := hB.1
  have hb2 := hB.2.1
  exact ⟨_, _, hW.scr0, h1, 10, 100, by omega, by omega, hC.is0, 10, 100, Nat.le_refl _, Nat.le_refl _, X_isOverdue hC (Nat.le_refl _) (Nat.le_refl _)
    (fun c_pa => ⟨fun e0 => okW hW FrS.rfl hC _ (fun w2 fo hF2 ho hv hC2 => ⟨_, _, hW.scr hF2, h1, by
      rw [hW.rw hF2]
      exact ⟨R_i, G_isOverdue hI (fun c_pb => Tb_ok (BE := fun w z => B_L_law_2690 b K23 Q x (x + 764) (x + 773) x4 w z (mc - 10) (ms - 100)) (QE := fun w z => Q 0 w z) (B2 := fun y0 y1 w z => B_L_law_2684 b K23 Q x (x + 764) (x + 773) x4 y0 y1 w z (mc - 10) (ms - 100)) (upd_eq _ _ _) ((rwd_o (by omega)).trans ho) hv (fun hr => ⟨fun _ => hW.go0 hB hK (Nat.le_refl _) hF2 ⟨fo, ho⟩ hC2, fun hh => absurd (cmp_self _) hh⟩) (fun hr => absurd e0 hr)) (fun c_pb => absurd c_pa c_pb)⟩⟩), fun e0 => okW hW FrS.rfl hC _ (fun w2 fo hF2 ho hv hC2 => ⟨_, _, hW.scr hF2, h1, by
      rw [hW.rw hF2]
      exact ⟨R_i, G_isOverdue hI (fun c_pb => Tb_ok (BE := fun w z => B_L_law_2690 b K23 Q x (x + 764) (x + 773) x4 w z (mc - 10) (ms - 100)) (QE := fun w z => Q 0 w z) (B2 := fun y0 y1 w z => B_L_law_2684 b K23 Q x (x + 764) (x + 773) x4 y0 y1 w z (mc - 10) (ms - 100)) (upd_eq _ _ _) ((rwd_o (by omega)).trans ho) hv (fun hr => absurd hr e0) (fun hr => ⟨fun _ => hW.go0 hB hK (Nat.le_refl _) hF2 ⟨fo, ho⟩ hC2, fun hh => absurd (cmp_self _) hh⟩)) (fun c_pb => absurd c_pa c_pb)⟩⟩)⟩)
    (fun c_pa z1 hz1 => ⟨fun _ => ⟨_, _, hW.scr0, h1, by
    rw [hW.rw FrO.rfl']
    exact ⟨R_i, G_isOverdue hI (fun c_pb => absurd c_pb c_pa) (fun c_pb => ⟨R_i, _, R_g6, fun _ => ⟨fun _ => hW.go0 hB hK hz1 FrO.rfl' hfo hC, fun hh => absurd hh (by decide)⟩, fun hh => absurd (upd_eq _ _ _) hh⟩)⟩⟩, fun hh => absurd rfl hh⟩)⟩
/-- the law's loop -/
theorem law_loop (hn : n ≤ 3072) (hQ : ∀ w z, Q 1 w z) : ∀ (k i cap : Nat) (w : Mm) (z mc ms : Nat), n ≤ i + 6 * k + 5 → i ≤ 3078 → LX b n sc x cap w z → BG mc ms cap k → B_L_law_23 b Q (k + 1) x (x + 764) (x + 773) (nI i) w z mc ms := by
  have e6 : (nI n - 6 : Int32).toInt = n - 6 := by
    have h1 : (nI n).toInt = n := nI_toInt (by omega)
    rw [isb _ _ (by rw [h1, show (6 : Int32).toInt = 6 by decide]; omega) (by rw [h1, show (6 : Int32).toInt = 6 by decide]; omega), h1, show (6 : Int32).toInt = 6 by decide]
  intro k
  induction k with
  | zero =>
    intro i cap w z mc ms h1 h2 hX hB
    obtain ⟨Fz, g, A, h, tx, t, l, L, hW⟩ := hX
    unfold B_L_law_23
    refine ⟨_, _, hW.scr0, fun _ => hQ _ _, fun hh => absurd (ilt.mpr ?_) hh⟩
    rw [e6, nI_toInt (by omega)]
    omega
  | succ k ih =>
    intro i cap w z mc ms h1 h2 hX hB
    obtain ⟨Fz, g, A, h, tx, t, l, L, hW⟩ := hX
    unfold B_L_law_23
    refine ⟨_, _, hW.scr0, fun _ => hQ _ _, fun hh => ?_⟩
    have h3 : i + 6 ≤ n := by
      have h3 : ¬ (nI n - 6 : Int32).toInt < (nI i).toInt := fun h => hh (ilt.mpr h)
      rw [e6, nI_toInt (by omega)] at h3
      omega
    have ei : ∀ j : Nat, j ≤ 6 → nI i + nI j = nI (i + j) := fun j hj => by
      refine ieq.mpr ?_
      have a1 : (nI i).toInt = i := nI_toInt (by omega)
      have a2 : (nI j).toInt = j := nI_toInt (by omega)
      rw [ia _ _ (by omega) (by omega), a1, a2, nI_toInt (by omega)]
      omega
    have vN : ∀ {j : Nat}, j < n → vp_in (nI j) n := fun {j} hj => vp_in_iff.mpr (by have a1 : (nI j).toInt = j := nI_toInt (by omega); omega)
    have hv : ∀ j : Nat, j ≤ 5 → vp_in (nI i + nI j) n := fun j hj => by
      rw [ei j (by omega)]
      exact vN (by omega)
    have v1 : vp_in (nI i + 1) n := hv 1 (by omega)
    have v2 : vp_in (nI i + 2) n := hv 2 (by omega)
    have v3 : vp_in (nI i + 3) n := hv 3 (by omega)
    have v4 : vp_in (nI i + 4) n := hv 4 (by omega)
    have v5 : vp_in (nI i + 5) n := hv 5 (by omega)
    have hK : ∀ cap' w' z' mc' ms', LX b n sc x cap' w' z' → BG mc' ms' cap' k → B_L_law_23 b Q (k + 1) x (x + 764) (x + 773) (nI i + 6) w' z' mc' ms' := fun cap' w' z' mc' ms' a1 a2 => by
      have e := ei 6 (by omega)
      have e' : nI i + 6 = nI (i + 6) := e
      rw [e']
      exact ih _ _ _ _ _ _ (by omega) (by omega) a1 a2
    refine ⟨_, _, hW.scr0, vN (by omega), fun j _ => ?_⟩
    exact ⟨fun _ => law_append hW hB v1 v2 v3 v4 v5 hK,
      fun _ => law_truncateInput hW hB v1 hK,
      fun _ => law_load hW hB hK,
      fun _ => law_play hW hB hK,
      fun _ => law_errorCode hW hB hK,
      fun _ => law_errorOffset hW hB hK,
      fun _ => law_buy hW hB v1 v2 v3 hK,
      fun _ => law_ride hW hB v1 v2 v3 v4 hK,
      fun _ => law_inspect hW hB v1 hK,
      fun _ => law_waitFor hW hB v1 hK,
      fun _ => law_appeal hW hB v1 v2 hK,
      fun _ => law_decide hW hB v1 hK,
      fun _ => law_pay hW hB v1 hK,
      fun _ => law_undo hW hB hK,
      fun _ => law_save hW hB v1 hK,
      fun _ => law_restore hW hB v1 hK,
      fun _ => law_clock hW hB hK,
      fun _ => law_day hW hB hK,
      fun _ => law_stopCount hW hB hK,
      fun _ => law_passengerCount hW hB hK,
      fun _ => law_ticketCount hW hB hK,
      fun _ => law_caseCount hW hB hK,
      fun _ => law_undoableChanges hW hB hK,
      fun _ => law_zone hW hB v1 hK,
      fun _ => law_zonesBetween hW hB v1 v2 hK,
      fun _ => law_money hW hB v1 hK,
      fun _ => law_isRiding hW hB v1 hK,
      fun _ => law_rideEnd hW hB v1 hK,
      fun _ => law_rideTicket hW hB v1 hK,
      fun _ => law_faultNow hW hB v1 hK,
      fun _ => law_debt hW hB v1 hK,
      fun _ => law_unpaidCases hW hB v1 hK,
      fun _ => law_nameByte hW hB v1 v2 hK,
      fun _ => law_cheapestKind hW hB v1 v2 hK,
      fun _ => law_ticketHolder hW hB v1 hK,
      fun _ => law_ticketKind hW hB v1 hK,
      fun _ => law_ticketZones hW hB v1 hK,
      fun _ => law_ticketPrice hW hB v1 hK,
      fun _ => law_stampTime hW hB v1 hK,
      fun _ => law_stampStop hW hB v1 hK,
      fun _ => law_ticketRides hW hB v1 hK,
      fun _ => law_isInTime hW hB v1 hK,
      fun _ => law_casePassenger hW hB v1 hK,
      fun _ => law_caseFault hW hB v1 hK,
      fun _ => law_caseState hW hB v1 hK,
      fun _ => law_caseTime hW hB v1 hK,
      fun _ => law_amountDue hW hB v1 hK,
      fun _ => law_caseTicket hW hB v1 hK,
      fun _ => law_isOverdue hW hB v1 hK,
      fun _ => law_outlook hW hB v1 v2 hK,
      fun _ => law_ticketSales hW hB hK,
      fun _ => law_finesPaid hW hB hK,
      fun _ => law_inspections hW hB hK,
      fun _ => law_inconsistencies hW hB hK,
      fun _ => law_faultShare hW hB hK,
      fun _ => law_meanPrice hW hB hK,
      fun _ => law_writeCases hW hB hK,
      fun _ => law_outputByte hW hB v1 hK, fun _ => hK _ _ _ _ _ ⟨Fz, g, A, h, tx, t, l, L, hW⟩ hB.same⟩
end
