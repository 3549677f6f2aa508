/-! the law's own look at everything: isSound -/
theorem i_4 : (4 : Int32).toInt = 4 := by decide
theorem i_5 : (5 : Int32).toInt = 5 := by decide
theorem bits_all : ∀ j : Fin 16, (0 + ((nI j.val >>> ((0 : Int32) &&& 31)) &&& 1) + ((nI j.val >>> ((0 + 1 : Int32) &&& 31)) &&& 1) + ((nI j.val >>> ((0 + 1 + 1 : Int32) &&& 31)) &&& 1) + ((nI j.val >>> ((0 + 1 + 1 + 1 : Int32) &&& 31)) &&& 1)) = bitc (nI j.val) := by decide +kernel
theorem bits4 {v : Int32} (h : vp_in v 16) : (0 + ((v >>> ((0 : Int32) &&& 31)) &&& 1) + ((v >>> ((0 + 1 : Int32) &&& 31)) &&& 1) + ((v >>> ((0 + 1 + 1 : Int32) &&& 31)) &&& 1) + ((v >>> ((0 + 1 + 1 + 1 : Int32) &&& 31)) &&& 1)) = bitc v := by
  have h1 := bits_all ⟨cl v, (clI h).2⟩
  simp only [nI_vp h] at h1
  exact h1
section
variable {w : Mm} {x z k m mc ms : Nat} {Q : Int32 → Mm → Nat → Prop} {Fz : Nat → Prop} {g : Nat → Int32} {A : Nat → Nat → Int32} {K : Int32 → Int32 → Mm → Nat → Nat → Nat → Prop} {p x1 : Int32}
theorem so_519 {x4 x5 y0 : Int32} (hC : CS w x Fz g A) (hS : Sd k (A 1)) (hp : vp_in p (cl (A 1 4))) (hy : y0 = x4) (ha : dueF (A 1) p = x5) (hB : BD (m + 4) mc ms) (hK : ∀ mc' ms', BD m mc' ms' → K x1 (p + 1) w z mc' ms') : B_L_isSound_519 x K Q x1 p (A 1 (305 + 7 * cl p + 2)) x4 x5 y0 w z mc ms := by
  obtain ⟨⟨s1, s2⟩, -, s3⟩ := hS.2.2.2.1 _ (clI hp).2
  have hv := vp_in_iff.mp (hC.I1.2.2.2.2.2.1 _ (clI hp).2).2.1
  refine ⟨fun h => absurd hy h, fun _ => ⟨10, 100, hB.a, hB.b, W_amountDue hC hp ⟨fun h => absurd ha h, fun _ => ⟨10, 100, hB.n.a, hB.n.b, W_caseFault hC hp ⟨fun h => absurd (ilt.mp h) ?_, fun _ => ⟨10, 100, hB.n.n.a, hB.n.n.b, W_caseFault hC hp ⟨fun h => absurd (ilt.mp h) ?_, fun _ => ⟨fun _ => hK _ _ (hB.n.n.n.le (by omega)), fun h0 => ⟨fun _ => hK _ _ (hB.n.n.n.le (by omega)), fun h4 => ⟨10, 100, hB.n.n.n.a, hB.n.n.n.b, W_caseTicket hC hp ⟨fun _ => hK _ _ hB.n.n.n.n, fun h => absurd (ile.mpr ?_) h⟩⟩⟩⟩⟩⟩⟩⟩⟩⟩⟩
  · rw [i_1]
    omega
  · rw [i_5]
    omega
  · have a0 : ¬ (A 1 (305 + 7 * cl p + 2)).toInt ≤ (0 : Int32).toInt := fun h => h0 (ile.mpr h)
    have a4 : ¬ (4 : Int32).toInt ≤ (A 1 (305 + 7 * cl p + 2)).toInt := fun h => h4 (ile.mpr h)
    rw [i_0] at a0 ⊢
    rw [i_4] at a4
    refine s3 ?_
    rw [ieq, ieq, ieq, i_1, show (2 : Int32).toInt = 2 by decide, show (3 : Int32).toInt = 3 by decide]
    omega
theorem so_503 {y0 : Int32} (hC : CS w x Fz g A) (hS : Sd k (A 1)) (hp : vp_in p (cl (A 1 4))) (ha : dueF (A 1) p = y0) (hB : BD (m + 5) mc ms) (hK : ∀ mc' ms', BD m mc' ms' → K x1 (p + 1) w z mc' ms') : B_L_isSound_503 x K Q x1 p (A 1 (305 + 7 * cl p + 2)) (isLateF (A 1) p) y0 w z mc ms := by
  refine ⟨10, 100, hB.a, hB.b, W_isOverdue hC hp ⟨fun h => so_519 hC hS hp ?_ ha hB.n hK, fun h => so_519 hC hS hp h.symm ha hB.n hK⟩⟩
  rcases isLateF_01 (f := A 1) (p := p) with e | e
  · exact e.symm
  · exact absurd e h
theorem so_490 {y0 : Int32} (hC : CS w x Fz g A) (hS : Sd k (A 1)) (hp : vp_in p (cl (A 1 4))) (h4 : ¬ A 1 (305 + 7 * cl p + 2) = 4) (ha : A 1 (305 + 7 * cl p + 4) = y0) (hB : BD (m + 5) mc ms) (hK : ∀ mc' ms', BD m mc' ms' → K x1 (p + 1) w z mc' ms') : B_L_isSound_490 x K Q x1 p (A 1 (305 + 7 * cl p + 2)) (isLateF (A 1) p) y0 w z mc ms := by
  refine ⟨fun h => so_503 hC hS hp ?_ hB hK, fun h => so_503 hC hS hp ?_ hB hK⟩
  · unfold dueF
    rw [if_neg h4, if_pos h, ha, Int32.add_zero]
  · unfold dueF
    rw [if_neg h4, if_neg h, ha]
theorem so_454 {y0 : Int32} (hC : CS w x Fz g A) (hS : Sd k (A 1)) (hp : vp_in p (cl (A 1 4))) (hy : y0 = isLateF (A 1) p) (hB : BD (m + 5) mc ms) (hK : ∀ mc' ms', BD m mc' ms' → K x1 (p + 1) w z mc' ms') : B_L_isSound_454 x K Q x1 p (A 1 (305 + 7 * cl p + 2)) y0 w z mc ms := by
  have s2 := (hS.2.2.2.1 _ (clI hp).2).2.1
  rw [hy]
  refine ⟨fun h4 => ⟨fun h2 => ⟨fun h3 => so_490 hC hS hp h4 ?_ hB hK, fun h3 => so_490 hC hS hp h4 ?_ hB hK⟩, fun h2 => so_490 hC hS hp h4 ?_ hB hK⟩, fun h4 => so_503 hC hS hp ?_ hB hK⟩
  · rw [s2 h4]
    unfold amI
    rw [if_neg h2, if_neg h3]
  · rw [s2 h4]
    unfold amI
    rw [if_neg h2, if_pos h3]
  · rw [s2 h4]
    unfold amI
    rw [if_pos h2]
  · unfold dueF
    rw [if_pos h4]
theorem so_414 (hC : CS w x Fz g A) (hS : Sd k (A 1)) (hq : Q 1 w z) (h5 : x1 = A 1 5) : ∀ (n c mc ms : Nat), c + n = cl (A 1 4) → BD (7 * n) mc ms → B_L_isSound_414 x Q (n + 1) x1 (nI c) w z mc ms := by
  have hI := hC.I1
  have hB4 := clI hI.2.1.2.2.2
  intro n
  induction n with
  | zero =>
    intro c mc ms hc hB
    unfold B_L_isSound_414
    refine ⟨hC.is0, X_caseCount hC ⟨fun _ => ⟨hC.is0, X_ticketSales hC ⟨fun h => absurd h5 h, fun _ => ⟨hC.is0, X_caseCount hC ⟨hC.is0, X_inspections hC ⟨fun h => absurd (ilt.mp h) ?_, fun _ => ⟨hC.is0, X_inconsistencies hC ⟨fun h => absurd (hS.inc0 hI) h, fun _ => hq⟩⟩⟩⟩⟩⟩⟩, fun h => absurd (ile.mpr ?_) h⟩⟩
    · have := hS.2.2.2.2.1.1
      omega
    · rw [nI_toInt (by omega)]
      omega
  | succ n ih =>
    intro c mc ms hc hB
    have hv : vp_in (nI c) (cl (A 1 4)) := nIin (by omega) (by omega)
    have hB' : BD (7 * n + 5 + 2) mc ms := hB.le (by omega)
    have hK : ∀ mc' ms', BD (7 * n) mc' ms' → B_L_isSound_414 x Q (n + 1) x1 (nI c + 1) w z mc' ms' := fun mc' ms' h => by
      rw [nIs (by omega)]
      exact ih (c + 1) mc' ms' (by omega) h
    unfold B_L_isSound_414
    refine ⟨hC.is0, X_caseCount hC ⟨fun h => absurd (ile.mp h) ?_, fun _ => ⟨10, 100, hB'.a, hB'.b, W_caseState hC hv ⟨fun h4 => so_454 hC hS hv ?_ (hB'.n.le (by omega)) hK, fun h4 => ⟨hC.is0, X_clock hC ⟨10, 100, hB'.n.a, hB'.n.b, W_caseTime hC hv ⟨fun h => so_454 hC hS hv ?_ hB'.n.n hK, fun h => so_454 hC hS hv ?_ hB'.n.n hK⟩⟩⟩⟩⟩⟩⟩
    · rw [nI_toInt (by omega)]
      omega
    · unfold isLateF
      rw [if_pos h4]
    · unfold isLateF
      rw [if_neg h4, if_pos h]
    · unfold isLateF
      rw [if_neg h4, if_neg h]
/-! the passengers -/
theorem so_380 {y0 y1 : Int32} (hC : CS w x Fz g A) (hS : Sd k (A 1)) (hp : vp_in p (cl (A 1 2))) (hy : y1 = y0) (hB : BD (m + 3) mc ms) (hK : ∀ mc' ms', BD m mc' ms' → K x1 (p + 1) w z mc' ms') : B_L_isSound_380 x K Q x1 p y0 y1 w z mc ms := by
  obtain ⟨s1, s2⟩ := hS.2.1 _ (clI hp).2
  rw [nI_vp hp] at s2
  refine ⟨fun h => absurd hy h, fun _ => ⟨10, 100, hB.a, hB.b, W_rideTicket hC hp ⟨fun _ => hK _ _ (hB.n.le (by omega)), fun h => ?_⟩⟩⟩
  rcases s2 with s2 | ⟨s2, s3⟩
  · exact absurd (ilt.mpr (by rw [s2, i_m1, i_0]; omega)) h
  · exact ⟨10, 100, hB.n.a, hB.n.b, W_rideTicket hC hp ⟨10, 100, hB.n.n.a, hB.n.n.b, W_ticketHolder hC s2 ⟨fun _ => hK _ _ hB.n.n.n, fun h => absurd s3 h⟩⟩⟩
theorem so_363 {y0 : Int32} (hC : CS w x Fz g A) (hS : Sd k (A 1)) (hp : vp_in p (cl (A 1 2))) (hy : y0 = ridesF (A 1) p) (hB : BD (m + 4) mc ms) (hK : ∀ mc' ms', BD m mc' ms' → K x1 (p + 1) w z mc' ms') : B_L_isSound_363 x K Q x1 p y0 w z mc ms := by
  refine ⟨10, 100, hB.a, hB.b, W_rideEnd hC hp ⟨hC.is0, X_clock hC ⟨fun h => so_380 hC hS hp ?_ hB.n hK, fun h => so_380 hC hS hp ?_ hB.n hK⟩⟩⟩
  · rw [hy]
    unfold ridesF
    rw [if_pos h]
  · rw [hy]
    unfold ridesF
    rw [if_neg h]
theorem so_272 (hC : CS w x Fz g A) (hS : Sd k (A 1)) (hp : vp_in p (cl (A 1 2))) (hK : ∀ mc' ms', BD m mc' ms' → K x1 (p + 1) w z mc' ms') : ∀ (n c : Nat) (x3 x4 : Int32) (mc ms : Nat), c + n = cl (A 1 4) → debtR (A 1) p n x3 (nI c) = debtR (A 1) p (cl (A 1 4)) 0 0 → unpR (A 1) p n x4 (nI c) = unpR (A 1) p (cl (A 1 4)) 0 0 → BD (3 * n + (m + 8)) mc ms → B_L_isSound_272 x K Q (n + 1) x1 p x3 x4 (nI c) w z mc ms := by
  have hI := hC.I1
  have hB4 := clI hI.2.1.2.2.2
  intro n
  induction n with
  | zero =>
    intro c x3 x4 mc ms hc hd hu hB
    have hB' : BD (m + 4 + 4) mc ms := hB.le (by omega)
    have s1 := (hS.2.1 _ (clI hp).2).1
    unfold B_L_isSound_272
    refine ⟨hC.is0, X_caseCount hC ⟨fun _ => ⟨10, 100, hB'.a, hB'.b, W_money hC hp ⟨fun h => absurd (ilt.mp h) ?_, fun _ => ⟨10, 100, hB'.n.a, hB'.n.b, W_debt hC hp ⟨fun h => absurd hd.symm h, fun _ => ⟨10, 100, hB'.n.n.a, hB'.n.n.b, W_unpaidCases hC hp ⟨fun h => absurd hu.symm h, fun _ => ⟨10, 100, hB'.n.n.n.a, hB'.n.n.n.b, W_isRiding hC hp ⟨fun h => so_363 hC hS hp ?_ hB'.n.n.n.n hK, fun h => so_363 hC hS hp h.symm hB'.n.n.n.n hK⟩⟩⟩⟩⟩⟩⟩⟩, fun h => absurd (ile.mpr ?_) h⟩⟩
    · rw [i_0]
      omega
    · rcases ridesF_01 (f := A 1) (p := p) with e | e
      · exact e.symm
      · exact absurd e h
    · rw [nI_toInt (by omega)]
      omega
  | succ n ih =>
    intro c x3 x4 mc ms hc hd hu hB
    have hv : vp_in (nI c) (cl (A 1 4)) := nIin (by omega) (by omega)
    have hB' : BD (3 * n + (m + 8) + 3) mc ms := hB.le (by omega)
    rw [debtR, nIs (by omega)] at hd
    rw [unpR, nIs (by omega)] at hu
    have hN : ∀ (y3 y4 : Int32) mc' ms', debtR (A 1) p n y3 (nI (c + 1)) = debtR (A 1) p (cl (A 1 4)) 0 0 → unpR (A 1) p n y4 (nI (c + 1)) = unpR (A 1) p (cl (A 1 4)) 0 0 → BD (3 * n + (m + 8)) mc' ms' → B_L_isSound_316 x (B_L_isSound_272 x K Q (n + 1)) Q x1 p y3 y4 (nI c) w z mc' ms' := fun y3 y4 mc' ms' h1 h2 h3 => by
      unfold B_L_isSound_316
      rw [nIs (by omega)]
      exact ih (c + 1) y3 y4 mc' ms' (by omega) h1 h2 h3
    unfold B_L_isSound_272
    refine ⟨hC.is0, X_caseCount hC ⟨fun h => absurd (ile.mp h) ?_, fun _ => ⟨10, 100, hB'.a, hB'.b, W_casePassenger hC hv ⟨fun e => ⟨10, 100, hB'.n.a, hB'.n.b, W_amountDue hC hv (fun i hi => ⟨10, 100, hB'.n.n.a, hB'.n.n.b, W_caseState hC hv ⟨fun h4 => hN _ _ _ _ ?_ ?_ hB'.n.n.n, fun h4 => hN _ _ _ _ ?_ ?_ hB'.n.n.n⟩⟩)⟩, fun e => hN _ _ _ _ ?_ ?_ (hB'.n.le (by omega))⟩⟩⟩⟩
    · rw [nI_toInt (by omega)]
      omega
    · rw [if_pos e] at hd
      rw [hi]
      exact hd
    · rw [if_neg (fun h => h.2 h4)] at hu
      exact hu
    · rw [if_pos e] at hd
      rw [hi]
      exact hd
    · rw [if_pos ⟨e, h4⟩] at hu
      exact hu
    · rw [if_neg e] at hd
      exact hd
    · rw [if_neg (fun h => e h.1)] at hu
      exact hu
theorem so_256 (hC : CS w x Fz g A) (hS : Sd k (A 1)) (hq : Q 1 w z) (h5 : x1 = A 1 5) : ∀ (n c mc ms : Nat), c + n = cl (A 1 2) → BD (70 * n + 140) mc ms → B_L_isSound_256 x Q (n + 1) x1 (nI c) w z mc ms := by
  have hI := hC.I1
  have hB2 := clI hI.2.1.2.1
  have hB4 := clI hI.2.1.2.2.2
  intro n
  induction n with
  | zero =>
    intro c mc ms hc hB
    unfold B_L_isSound_256
    refine ⟨hC.is0, X_passengerCount hC ⟨fun _ => ⟨cl (A 1 4) + 1, so_414 hC hS hq h5 (cl (A 1 4)) 0 mc ms (by omega) (hB.le (by omega))⟩, fun h => absurd (ile.mpr ?_) h⟩⟩
    rw [nI_toInt (by omega)]
    omega
  | succ n ih =>
    intro c mc ms hc hB
    have hv : vp_in (nI c) (cl (A 1 2)) := nIin (by omega) (by omega)
    unfold B_L_isSound_256
    refine ⟨hC.is0, X_passengerCount hC ⟨fun h => absurd (ile.mp h) ?_, fun _ => ⟨cl (A 1 4) + 1, so_272 (m := 70 * n + 140) hC hS hv (fun mc' ms' h => ?_) (cl (A 1 4)) 0 0 0 mc ms (by omega) rfl rfl (hB.le (by omega))⟩⟩⟩
    · rw [nI_toInt (by omega)]
      omega
    · rw [nIs (by omega)]
      exact ih (c + 1) mc' ms' (by omega) h
/-! the tickets -/
theorem so_155 {x4 y0 : Int32} (hC : CS w x Fz g A) (hS : Sd k (A 1)) (hp : vp_in p (cl (A 1 3))) (h4 : x4 = priceI (A 1 (125 + 6 * cl p + 1)) (A 1 (125 + 6 * cl p + 2))) (hy : y0 = inTimeF (A 1) p) (hB : BD (m + 4) mc ms) (hK : ∀ mc' ms', BD m mc' ms' → K (x1 + priceI (A 1 (125 + 6 * cl p + 1)) (A 1 (125 + 6 * cl p + 2))) (p + 1) w z mc' ms') : B_L_isSound_155 x K Q x1 p x4 (A 1 (125 + 6 * cl p + 3)) y0 w z mc ms := by
  obtain ⟨s1, s2⟩ := hS.2.2.1 _ (clI hp).2
  have i3 := (hC.I1.2.2.2.2.1 _ (clI hp).2).2.2
  subst h4
  have k238 : ∀ (y0 y1 : Int32) mc' ms', y1 = y0 → BD m mc' ms' → B_L_isSound_238 x K Q x1 p (priceI (A 1 (125 + 6 * cl p + 1)) (A 1 (125 + 6 * cl p + 2))) y0 y1 w z mc' ms' := fun y0 y1 mc' ms' e h => ⟨fun _ i hi => by rw [hi]; exact hK _ _ h, fun hn => absurd e hn⟩
  have k227 : ∀ (y0 : Int32) mc' ms', y0 = (if A 1 (125 + 6 * cl p + 3) = -1 then 1 else 0) → BD m mc' ms' → B_L_isSound_227 x K Q x1 p (priceI (A 1 (125 + 6 * cl p + 1)) (A 1 (125 + 6 * cl p + 2))) (A 1 (125 + 6 * cl p + 3)) y0 w z mc' ms' := fun y0 mc' ms' e h => ⟨fun hn => k238 _ _ _ _ (by rw [e, if_neg hn]) h, fun hn => k238 _ _ _ _ (by rw [e, if_pos hn]) h⟩
  have k210 : ∀ (y0 y1 : Int32) mc' ms', y1 = y0 → BD (m + 1) mc' ms' → B_L_isSound_210 x K Q x1 p (priceI (A 1 (125 + 6 * cl p + 1)) (A 1 (125 + 6 * cl p + 2))) (A 1 (125 + 6 * cl p + 3)) y0 y1 w z mc' ms' := fun y0 y1 mc' ms' e h => ⟨fun hn => absurd e hn, fun _ => ⟨10, 100, h.a, h.b, W_stampStop hC hp ⟨fun hn => k227 _ _ _ (by rw [if_neg (fun hh => hn (s2.mpr hh))]) h.n, fun hn => k227 _ _ _ (by rw [if_pos (s2.mp hn)]) h.n⟩⟩⟩
  have k197 : ∀ (y0 : Int32) mc' ms', y0 = (if A 1 (125 + 6 * cl p + 3) = -1 then 1 else 0) → BD (m + 2) mc' ms' → B_L_isSound_197 x K Q x1 p (priceI (A 1 (125 + 6 * cl p + 1)) (A 1 (125 + 6 * cl p + 2))) (A 1 (125 + 6 * cl p + 3)) y0 w z mc' ms' := fun y0 mc' ms' e h => ⟨10, 100, h.a, h.b, W_ticketRides hC hp ⟨fun hn => k210 _ _ _ _ (by
    rw [e, if_neg (fun hh => ?_)]
    rcases i3 with i3 | i3
    · exact hn i3.2
    · have := i3.1
      rw [hh, i_m1] at this
      omega) h.n, fun hn => k210 _ _ _ _ (by
    rw [e, if_pos]
    rcases i3 with i3 | i3
    · exact i3.1
    · have := i3.2.1
      rw [hn, i_0] at this
      omega) h.n⟩⟩
  have k181 : ∀ (y1 : Int32) mc' ms', y1 = y0 → BD (m + 2) mc' ms' → B_L_isSound_181 x K Q x1 p (priceI (A 1 (125 + 6 * cl p + 1)) (A 1 (125 + 6 * cl p + 2))) (A 1 (125 + 6 * cl p + 3)) y0 y1 w z mc' ms' := fun y1 mc' ms' e h => ⟨fun hn => absurd e hn, fun _ => ⟨fun hn => k197 _ _ _ (by rw [if_neg hn]) h, fun hn => k197 _ _ _ (by rw [if_pos hn]) h⟩⟩
  refine ⟨10, 100, hB.a, hB.b, W_ticketPrice hC hp ⟨fun hn => absurd rfl hn, fun _ => ⟨10, 100, hB.n.a, hB.n.b, W_isInTime hC hp ⟨fun hn => k181 _ _ _ ?_ hB.n.n, fun hn => k181 _ _ _ (by rw [hy, hn]) hB.n.n⟩⟩⟩⟩
  rw [hy]
  rcases inTimeF_01 (f := A 1) (p := p) with e | e
  · exact e.symm
  · exact absurd e hn
theorem so_77 {x4 : Int32} (hC : CS w x Fz g A) (hS : Sd k (A 1)) (hp : vp_in p (cl (A 1 3))) (h4 : x4 = priceI (A 1 (125 + 6 * cl p + 1)) (A 1 (125 + 6 * cl p + 2))) (hB : BD (m + 7) mc ms) (hK : ∀ mc' ms', BD m mc' ms' → K (x1 + priceI (A 1 (125 + 6 * cl p + 1)) (A 1 (125 + 6 * cl p + 2))) (p + 1) w z mc' ms') : B_L_isSound_77 x K Q x1 p x4 w z mc ms := by
  have g : ∀ (y0 : Int32) mc' ms', y0 = inTimeF (A 1) p → BD (m + 4) mc' ms' → B_L_isSound_155 x K Q x1 p x4 (A 1 (125 + 6 * cl p + 3)) y0 w z mc' ms' := fun y0 mc' ms' e h => so_155 hC hS hp h4 e h hK
  refine ⟨10, 100, hB.a, hB.b, W_stampTime hC hp ⟨hC.is0, X_clock hC (fun i hi => ⟨fun h1 => g 1 _ _ ?_ (hB.n.le (by omega)), fun h1 => ⟨10, 100, hB.n.a, hB.n.b, W_ticketKind hC hp ⟨fun hk1 => ⟨10, 100, hB.n.n.a, hB.n.n.b, W_ticketKind hC hp ⟨fun hk0 => ⟨fun hl => g 0 _ _ ?_ hB.n.n.n, fun hl => g 1 _ _ ?_ hB.n.n.n⟩, fun hk0 => ⟨fun hl => g 0 _ _ ?_ hB.n.n.n, fun hl => g 1 _ _ ?_ hB.n.n.n⟩⟩⟩, fun hk1 => ⟨hC.is0, X_clock hC ⟨fun hl => g 0 _ _ ?_ (hB.n.n.le (by omega)), fun hl => g 1 _ _ ?_ (hB.n.n.le (by omega))⟩⟩⟩⟩⟩)⟩⟩
  · unfold inTimeF
    simp only
    rw [if_pos h1]
  · unfold inTimeF
    simp only
    rw [hi] at hl
    rw [if_neg h1, if_neg hk1, if_neg hk0, if_pos hl]
  · unfold inTimeF
    simp only
    rw [hi] at hl
    rw [if_neg h1, if_neg hk1, if_neg hk0, if_neg hl]
  · unfold inTimeF
    simp only
    rw [hi] at hl
    rw [if_neg h1, if_neg hk1, if_pos hk0, if_pos hl]
  · unfold inTimeF
    simp only
    rw [hi] at hl
    rw [if_neg h1, if_neg hk1, if_pos hk0, if_neg hl]
  · unfold inTimeF
    simp only
    rw [if_neg h1, if_pos hk1, if_neg hl]
  · unfold inTimeF
    simp only
    rw [if_neg h1, if_pos hk1, if_pos hl]
theorem so_17e {n : Nat} {x3 x4 : Int32} (hC : CS w x Fz g A) (hS : Sd k (A 1)) (hp : vp_in p (cl (A 1 3))) (h4 : 4 ≤ x4) (h3 : x3 = bitc (A 1 (125 + 6 * cl p + 2))) (hB : BD (m + 9) mc ms) (hK : ∀ mc' ms', BD m mc' ms' → K (x1 + priceI (A 1 (125 + 6 * cl p + 1)) (A 1 (125 + 6 * cl p + 2))) (p + 1) w z mc' ms') : B_L_isSound_17 x K Q (n + 1) x1 p x3 x4 w z mc ms := by
  unfold B_L_isSound_17
  refine ⟨fun _ => ⟨10, 100, hB.a, hB.b, W_ticketKind hC hp ⟨fun k2 => ⟨10, 100, hB.n.a, hB.n.b, W_ticketKind hC hp ⟨fun k1 => so_77 hC hS hp ?_ hB.n.n hK, fun k1 => so_77 hC hS hp ?_ hB.n.n hK⟩⟩, fun k2 => so_77 hC hS hp ?_ (hB.n.le (by omega)) hK⟩⟩, fun h => absurd h4 h⟩
  · unfold priceI
    rw [if_neg k2, if_neg k1, h3, Int32.mul_comm]
  · unfold priceI
    rw [if_neg k2, if_pos k1, h3, Int32.mul_comm]
  · unfold priceI
    rw [if_pos k2]
theorem so_17s {n : Nat} {x3 x4 : Int32} (hC : CS w x Fz g A) (hp : vp_in p (cl (A 1 3))) (h4 : ¬ 4 ≤ x4) (hB : BD (m + 1) mc ms) (hK : BD m (mc - 10) (ms - 100) → B_L_isSound_17 x K Q n x1 p (x3 + ((A 1 (125 + 6 * cl p + 2) >>> (x4 &&& 31)) &&& 1)) (x4 + 1) w z (mc - 10) (ms - 100)) : B_L_isSound_17 x K Q (n + 1) x1 p x3 x4 w z mc ms := by
  unfold B_L_isSound_17
  refine ⟨fun h => absurd h h4, fun _ => ⟨10, 100, hB.a, hB.b, W_ticketZones hC hp (fun i hi => ?_)⟩⟩
  rw [hi]
  exact hK hB.n
theorem so_17 (hC : CS w x Fz g A) (hS : Sd k (A 1)) (hp : vp_in p (cl (A 1 3))) (hB : BD (m + 13) mc ms) (hK : ∀ mc' ms', BD m mc' ms' → K (x1 + priceI (A 1 (125 + 6 * cl p + 1)) (A 1 (125 + 6 * cl p + 2))) (p + 1) w z mc' ms') : B_L_isSound_17 x K Q 5 x1 p 0 0 w z mc ms := by
  refine so_17s hC hp (by decide) hB (fun h1 => so_17s hC hp (by decide) h1 (fun h2 => so_17s hC hp (by decide) h2 (fun h3 => so_17s hC hp (by decide) h3 (fun h4 => so_17e hC hS hp (by decide) ?_ h4 hK))))
  exact bits4 (hS.2.2.1 _ (clI hp).2).1
theorem so_4 (hC : CS w x Fz g A) (hS : Sd k (A 1)) (hq : Q 1 w z) : ∀ (n c : Nat) (x1 : Int32) (mc ms : Nat), c + n = cl (A 1 3) → prR (A 1) n x1 (nI c) = A 1 5 → BD (13 * n + 700) mc ms → B_L_isSound_4 x Q (n + 1) x1 (nI c) w z mc ms := by
  have hI := hC.I1
  have hB2 := clI hI.2.1.2.1
  have hB3 := clI hI.2.1.2.2.1
  intro n
  induction n with
  | zero =>
    intro c x1 mc ms hc hx hB
    unfold B_L_isSound_4
    refine ⟨hC.is0, X_ticketCount hC ⟨fun _ => ⟨cl (A 1 2) + 1, so_256 hC hS hq hx (cl (A 1 2)) 0 mc ms (by omega) (hB.le (by omega))⟩, fun h => absurd (ile.mpr ?_) h⟩⟩
    rw [nI_toInt (by omega)]
    omega
  | succ n ih =>
    intro c x1 mc ms hc hx hB
    have hv : vp_in (nI c) (cl (A 1 3)) := nIin (by omega) (by omega)
    rw [prR, nIs (by omega)] at hx
    unfold B_L_isSound_4
    refine ⟨hC.is0, X_ticketCount hC ⟨fun h => absurd (ile.mp h) ?_, fun _ => ⟨5, so_17 (m := 13 * n + 700) hC hS hv (hB.le (by omega)) (fun mc' ms' h => ?_)⟩⟩⟩
    · rw [nI_toInt (by omega)]
      omega
    · rw [nIs (by omega)]
      exact ih (c + 1) _ mc' ms' (by omega) hx h
theorem W_isSound (hC : CS w x Fz g A) (hS : Sd k (A 1)) (hB : BD 1200 mc ms) (hq : Q 1 w z) : F_L_isSound x w z mc ms Q := by
  have hB3 := clI hC.I1.2.1.2.2.1
  exact ⟨cl (A 1 3) + 1, so_4 hC hS hq (cl (A 1 3)) 0 0 mc ms (by omega) hC.I1.2.2.2.2.2.2.symm (hB.le (by omega))⟩
end
