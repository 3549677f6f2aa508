section
variable {w w' w'' : Mm} {x z mc ms b : Nat} {Q : Int32 → Mm → Nat → Prop} {R : Mm → Nat → Prop} {X : String → Mm → Nat → Prop} {T : Mm → Prop} {f f' : Nat → Int32} {Fz Fz' : Nat → Prop} {g g' : Nat → Int32} {A A' : Nat → Nat → Int32}
theorem X_clock (h : CS w x Fz g A) (hq : Q (A 1 0) w z) : F_X5_clock x w z Q := ⟨_, h.f0, _, h.F1.g0, hq⟩
theorem X_stopCount (h : CS w x Fz g A) (hq : Q (A 1 1) w z) : F_X5_stopCount x w z Q := ⟨_, h.f0, _, h.F1.g1, hq⟩
theorem X_passengerCount (h : CS w x Fz g A) (hq : Q (A 1 2) w z) : F_X5_passengerCount x w z Q := ⟨_, h.f0, _, h.F1.g2, hq⟩
theorem X_ticketCount (h : CS w x Fz g A) (hq : Q (A 1 3) w z) : F_X5_ticketCount x w z Q := ⟨_, h.f0, _, h.F1.g3, hq⟩
theorem X_caseCount (h : CS w x Fz g A) (hq : Q (A 1 4) w z) : F_X5_caseCount x w z Q := ⟨_, h.f0, _, h.F1.g4, hq⟩
theorem X_finesPaid (h : CS w x Fz g A) (hq : Q (A 1 6) w z) : F_X5_finesPaid x w z Q := ⟨_, h.f0, _, h.F1.g6, hq⟩
theorem X_inspections (h : CS w x Fz g A) (hq : Q (A 1 7) w z) : F_X5_inspections x w z Q := ⟨_, h.f0, _, h.F1.g7, hq⟩
theorem X_undoableChanges (h : CS w x Fz g A) (hq : Q (g 5) w z) : F_X5_undoableChanges x w z Q := ⟨_, fld_c h.1 3, hq⟩
theorem X_ticketSales (h : CS w x Fz g A) (hq : Q (A 1 5) w z) : F_X5_ticketSales x w z Q := ⟨_, h.f0, h.is1, h.F1.prices h.I1 (by
  have e := h.I1.2.2.2.2.2.2
  rw [← e]
  exact hq)⟩
theorem X_money {p : Int32} (h : CS w x Fz g A) (hm : 10 ≤ mc) (hs : 100 ≤ ms) (hok : vp_in p (cl (A 1 2)) → Q (A 1 (21 + 13 * cl p)) w z) (hx : ¬ vp_in p (cl (A 1 2)) → ∀ z1, z ≤ z1 → X "java/lang/IndexOutOfBoundsException" w z1) : F_X5_money x p w z mc ms Q X := by
  have hB := clI h.I1.2.1.2.1
  refine ⟨h.is0, 1, 6, by omega, by omega, h.reqPassenger (by omega) (by omega) (fun hp => ?_) hx⟩
  have c := clI hp
  have hv : vp_in p 8 := vp_le hp (by omega)
  have h1 := hok hp
  obtain ⟨hd, zn, nm, pa, tk, cs, e1, e2, e3⟩ := h.F1
  rw [← (e2.2.2.1 _ c.2).1] at h1
  exact ⟨_, h.f0, _, e1.r9, e1.aP hv ⟨_, e1.gP (k := 0) (by omega) (by omega), h1⟩⟩
theorem X_rideEnd {p : Int32} (h : CS w x Fz g A) (hm : 10 ≤ mc) (hs : 100 ≤ ms) (hok : vp_in p (cl (A 1 2)) → Q (A 1 (21 + 13 * cl p + 3)) w z) (hx : ¬ vp_in p (cl (A 1 2)) → ∀ z1, z ≤ z1 → X "java/lang/IndexOutOfBoundsException" w z1) : F_X5_rideEnd x p w z mc ms Q X := by
  have hB := clI h.I1.2.1.2.1
  refine ⟨h.is0, 1, 6, by omega, by omega, h.reqPassenger (by omega) (by omega) (fun hp => ?_) hx⟩
  have c := clI hp
  have hv : vp_in p 8 := vp_le hp (by omega)
  have h1 := hok hp
  obtain ⟨hd, zn, nm, pa, tk, cs, e1, e2, e3⟩ := h.F1
  rw [← (e2.2.2.1 _ c.2).2.1] at h1
  exact ⟨_, h.f0, _, e1.r9, e1.aP hv ⟨_, e1.gP (k := 3) (by omega) (by omega), h1⟩⟩
theorem X_rideTicket {p : Int32} (h : CS w x Fz g A) (hm : 10 ≤ mc) (hs : 100 ≤ ms) (hok : vp_in p (cl (A 1 2)) → Q (A 1 (21 + 13 * cl p + 4)) w z) (hx : ¬ vp_in p (cl (A 1 2)) → ∀ z1, z ≤ z1 → X "java/lang/IndexOutOfBoundsException" w z1) : F_X5_rideTicket x p w z mc ms Q X := by
  have hB := clI h.I1.2.1.2.1
  refine ⟨h.is0, 1, 6, by omega, by omega, h.reqPassenger (by omega) (by omega) (fun hp => ?_) hx⟩
  have c := clI hp
  have hv : vp_in p 8 := vp_le hp (by omega)
  have h1 := hok hp
  obtain ⟨hd, zn, nm, pa, tk, cs, e1, e2, e3⟩ := h.F1
  rw [← (e2.2.2.1 _ c.2).2.2.1] at h1
  exact ⟨_, h.f0, _, e1.r9, e1.aP hv ⟨_, e1.gP (k := 4) (by omega) (by omega), h1⟩⟩
theorem X_ticketHolder {p : Int32} (h : CS w x Fz g A) (hm : 10 ≤ mc) (hs : 100 ≤ ms) (hok : vp_in p (cl (A 1 3)) → Q (A 1 (125 + 6 * cl p)) w z) (hx : ¬ vp_in p (cl (A 1 3)) → ∀ z1, z ≤ z1 → X "java/lang/IndexOutOfBoundsException" w z1) : F_X5_ticketHolder x p w z mc ms Q X := by
  have hB := clI h.I1.2.1.2.2.1
  refine ⟨h.is0, 1, 6, by omega, by omega, h.reqTicket (by omega) (by omega) (fun hp => ?_) hx⟩
  have c := clI hp
  have hv : vp_in p 30 := vp_le hp (by omega)
  have h1 := hok hp
  obtain ⟨hd, zn, nm, pa, tk, cs, e1, e2, e3⟩ := h.F1
  rw [← (e2.2.2.2.1 _ c.2).1] at h1
  exact ⟨_, h.f0, _, e1.r10, e1.aT hv ⟨_, e1.gT (by omega) (by omega), h1⟩⟩
theorem X_ticketKind {p : Int32} (h : CS w x Fz g A) (hm : 10 ≤ mc) (hs : 100 ≤ ms) (hok : vp_in p (cl (A 1 3)) → Q (A 1 (125 + 6 * cl p + 1)) w z) (hx : ¬ vp_in p (cl (A 1 3)) → ∀ z1, z ≤ z1 → X "java/lang/IndexOutOfBoundsException" w z1) : F_X5_ticketKind x p w z mc ms Q X := by
  have hB := clI h.I1.2.1.2.2.1
  refine ⟨h.is0, 1, 6, by omega, by omega, h.reqTicket (by omega) (by omega) (fun hp => ?_) hx⟩
  have c := clI hp
  have hv : vp_in p 30 := vp_le hp (by omega)
  have h1 := hok hp
  obtain ⟨hd, zn, nm, pa, tk, cs, e1, e2, e3⟩ := h.F1
  rw [← (e2.2.2.2.1 _ c.2).2.1] at h1
  exact ⟨_, h.f0, _, e1.r10, e1.aT hv ⟨_, e1.gT (by omega) (by omega), h1⟩⟩
theorem X_ticketZones {p : Int32} (h : CS w x Fz g A) (hm : 10 ≤ mc) (hs : 100 ≤ ms) (hok : vp_in p (cl (A 1 3)) → Q (A 1 (125 + 6 * cl p + 2)) w z) (hx : ¬ vp_in p (cl (A 1 3)) → ∀ z1, z ≤ z1 → X "java/lang/IndexOutOfBoundsException" w z1) : F_X5_ticketZones x p w z mc ms Q X := by
  have hB := clI h.I1.2.1.2.2.1
  refine ⟨h.is0, 1, 6, by omega, by omega, h.reqTicket (by omega) (by omega) (fun hp => ?_) hx⟩
  have c := clI hp
  have hv : vp_in p 30 := vp_le hp (by omega)
  have h1 := hok hp
  obtain ⟨hd, zn, nm, pa, tk, cs, e1, e2, e3⟩ := h.F1
  rw [← (e2.2.2.2.1 _ c.2).2.2.1] at h1
  exact ⟨_, h.f0, _, e1.r10, e1.aT hv ⟨_, e1.gT (by omega) (by omega), h1⟩⟩
theorem X_stampTime {p : Int32} (h : CS w x Fz g A) (hm : 10 ≤ mc) (hs : 100 ≤ ms) (hok : vp_in p (cl (A 1 3)) → Q (A 1 (125 + 6 * cl p + 3)) w z) (hx : ¬ vp_in p (cl (A 1 3)) → ∀ z1, z ≤ z1 → X "java/lang/IndexOutOfBoundsException" w z1) : F_X5_stampTime x p w z mc ms Q X := by
  have hB := clI h.I1.2.1.2.2.1
  refine ⟨h.is0, 1, 6, by omega, by omega, h.reqTicket (by omega) (by omega) (fun hp => ?_) hx⟩
  have c := clI hp
  have hv : vp_in p 30 := vp_le hp (by omega)
  have h1 := hok hp
  obtain ⟨hd, zn, nm, pa, tk, cs, e1, e2, e3⟩ := h.F1
  rw [← (e2.2.2.2.1 _ c.2).2.2.2.1] at h1
  exact ⟨_, h.f0, _, e1.r10, e1.aT hv ⟨_, e1.gT (by omega) (by omega), h1⟩⟩
theorem X_stampStop {p : Int32} (h : CS w x Fz g A) (hm : 10 ≤ mc) (hs : 100 ≤ ms) (hok : vp_in p (cl (A 1 3)) → Q (A 1 (125 + 6 * cl p + 4)) w z) (hx : ¬ vp_in p (cl (A 1 3)) → ∀ z1, z ≤ z1 → X "java/lang/IndexOutOfBoundsException" w z1) : F_X5_stampStop x p w z mc ms Q X := by
  have hB := clI h.I1.2.1.2.2.1
  refine ⟨h.is0, 1, 6, by omega, by omega, h.reqTicket (by omega) (by omega) (fun hp => ?_) hx⟩
  have c := clI hp
  have hv : vp_in p 30 := vp_le hp (by omega)
  have h1 := hok hp
  obtain ⟨hd, zn, nm, pa, tk, cs, e1, e2, e3⟩ := h.F1
  rw [← (e2.2.2.2.1 _ c.2).2.2.2.2.1] at h1
  exact ⟨_, h.f0, _, e1.r10, e1.aT hv ⟨_, e1.gT (by omega) (by omega), h1⟩⟩
theorem X_ticketRides {p : Int32} (h : CS w x Fz g A) (hm : 10 ≤ mc) (hs : 100 ≤ ms) (hok : vp_in p (cl (A 1 3)) → Q (A 1 (125 + 6 * cl p + 5)) w z) (hx : ¬ vp_in p (cl (A 1 3)) → ∀ z1, z ≤ z1 → X "java/lang/IndexOutOfBoundsException" w z1) : F_X5_ticketRides x p w z mc ms Q X := by
  have hB := clI h.I1.2.1.2.2.1
  refine ⟨h.is0, 1, 6, by omega, by omega, h.reqTicket (by omega) (by omega) (fun hp => ?_) hx⟩
  have c := clI hp
  have hv : vp_in p 30 := vp_le hp (by omega)
  have h1 := hok hp
  obtain ⟨hd, zn, nm, pa, tk, cs, e1, e2, e3⟩ := h.F1
  rw [← (e2.2.2.2.1 _ c.2).2.2.2.2.2] at h1
  exact ⟨_, h.f0, _, e1.r10, e1.aT hv ⟨_, e1.gT (by omega) (by omega), h1⟩⟩
theorem X_casePassenger {p : Int32} (h : CS w x Fz g A) (hm : 10 ≤ mc) (hs : 100 ≤ ms) (hok : vp_in p (cl (A 1 4)) → Q (A 1 (305 + 7 * cl p)) w z) (hx : ¬ vp_in p (cl (A 1 4)) → ∀ z1, z ≤ z1 → X "java/lang/IndexOutOfBoundsException" w z1) : F_X5_casePassenger x p w z mc ms Q X := by
  have hB := clI h.I1.2.1.2.2.2
  refine ⟨h.is0, 1, 6, by omega, by omega, h.reqCase (by omega) (by omega) (fun hp => ?_) hx⟩
  have c := clI hp
  have hv : vp_in p 20 := vp_le hp (by omega)
  have h1 := hok hp
  obtain ⟨hd, zn, nm, pa, tk, cs, e1, e2, e3⟩ := h.F1
  rw [← (e2.2.2.2.2 _ c.2).1] at h1
  exact ⟨_, h.f0, _, e1.r11, e1.aC hv ⟨_, e1.gC (by omega) (by omega), h1⟩⟩
theorem X_caseFault {p : Int32} (h : CS w x Fz g A) (hm : 10 ≤ mc) (hs : 100 ≤ ms) (hok : vp_in p (cl (A 1 4)) → Q (A 1 (305 + 7 * cl p + 1)) w z) (hx : ¬ vp_in p (cl (A 1 4)) → ∀ z1, z ≤ z1 → X "java/lang/IndexOutOfBoundsException" w z1) : F_X5_caseFault x p w z mc ms Q X := by
  have hB := clI h.I1.2.1.2.2.2
  refine ⟨h.is0, 1, 6, by omega, by omega, h.reqCase (by omega) (by omega) (fun hp => ?_) hx⟩
  have c := clI hp
  have hv : vp_in p 20 := vp_le hp (by omega)
  have h1 := hok hp
  obtain ⟨hd, zn, nm, pa, tk, cs, e1, e2, e3⟩ := h.F1
  rw [← (e2.2.2.2.2 _ c.2).2.1] at h1
  exact ⟨_, h.f0, _, e1.r11, e1.aC hv ⟨_, e1.gC (by omega) (by omega), h1⟩⟩
theorem X_caseTime {p : Int32} (h : CS w x Fz g A) (hm : 10 ≤ mc) (hs : 100 ≤ ms) (hok : vp_in p (cl (A 1 4)) → Q (A 1 (305 + 7 * cl p + 3)) w z) (hx : ¬ vp_in p (cl (A 1 4)) → ∀ z1, z ≤ z1 → X "java/lang/IndexOutOfBoundsException" w z1) : F_X5_caseTime x p w z mc ms Q X := by
  have hB := clI h.I1.2.1.2.2.2
  refine ⟨h.is0, 1, 6, by omega, by omega, h.reqCase (by omega) (by omega) (fun hp => ?_) hx⟩
  have c := clI hp
  have hv : vp_in p 20 := vp_le hp (by omega)
  have h1 := hok hp
  obtain ⟨hd, zn, nm, pa, tk, cs, e1, e2, e3⟩ := h.F1
  rw [← (e2.2.2.2.2 _ c.2).2.2.1] at h1
  exact ⟨_, h.f0, _, e1.r11, e1.aC hv ⟨_, e1.gC (by omega) (by omega), h1⟩⟩
theorem X_caseState {p : Int32} (h : CS w x Fz g A) (hm : 10 ≤ mc) (hs : 100 ≤ ms) (hok : vp_in p (cl (A 1 4)) → Q (A 1 (305 + 7 * cl p + 2)) w z) (hx : ¬ vp_in p (cl (A 1 4)) → ∀ z1, z ≤ z1 → X "java/lang/IndexOutOfBoundsException" w z1) : F_X5_caseState x p w z mc ms Q X := by
  have hB := clI h.I1.2.1.2.2.2
  refine ⟨h.is0, 1, 6, by omega, by omega, h.reqCase (by omega) (by omega) (fun hp => ?_) hx⟩
  have c := clI hp
  have hv : vp_in p 20 := vp_le hp (by omega)
  have h1 := hok hp
  obtain ⟨hd, zn, nm, pa, tk, cs, e1, e2, e3⟩ := h.F1
  rw [← (e2.2.2.2.2 _ c.2).2.2.2.2.1] at h1
  exact ⟨_, h.f0, _, e1.r11, e1.aC hv ⟨_, e1.gC (by omega) (by omega), h1⟩⟩
theorem X_caseTicket {p : Int32} (h : CS w x Fz g A) (hm : 10 ≤ mc) (hs : 100 ≤ ms) (hok : vp_in p (cl (A 1 4)) → Q (A 1 (305 + 7 * cl p + 5)) w z) (hx : ¬ vp_in p (cl (A 1 4)) → ∀ z1, z ≤ z1 → X "java/lang/IndexOutOfBoundsException" w z1) : F_X5_caseTicket x p w z mc ms Q X := by
  have hB := clI h.I1.2.1.2.2.2
  refine ⟨h.is0, 1, 6, by omega, by omega, h.reqCase (by omega) (by omega) (fun hp => ?_) hx⟩
  have c := clI hp
  have hv : vp_in p 20 := vp_le hp (by omega)
  have h1 := hok hp
  obtain ⟨hd, zn, nm, pa, tk, cs, e1, e2, e3⟩ := h.F1
  rw [← (e2.2.2.2.2 _ c.2).2.2.2.2.2.2] at h1
  exact ⟨_, h.f0, _, e1.r11, e1.aC hv ⟨_, e1.gC (by omega) (by omega), h1⟩⟩
theorem X_faultNow {p : Int32} (h : CS w x Fz g A) (hm : 10 ≤ mc) (hs : 100 ≤ ms) (hok : vp_in p (cl (A 1 2)) → Q (faultF (A 1) p) w z) (hx : ¬ vp_in p (cl (A 1 2)) → ∀ z1, z ≤ z1 → X "java/lang/IndexOutOfBoundsException" w z1) : F_X5_faultNow x p w z mc ms Q X := by
  have hB := clI h.I1.2.1.2.1
  refine ⟨h.is0, 1, 6, by omega, by omega, h.reqPassenger (by omega) (by omega) (fun hp => ?_) hx⟩
  have c := clI hp
  have hv : vp_in p 8 := vp_le hp (by omega)
  exact ⟨_, h.f0, h.is1, h.F1.fault h.I1 hp (hok hp)⟩
theorem X_debt {p : Int32} (h : CS w x Fz g A) (hm : 10 ≤ mc) (hs : 100 ≤ ms) (hok : vp_in p (cl (A 1 2)) → Q (debtR (A 1) p (cl (A 1 4)) 0 0) w z) (hx : ¬ vp_in p (cl (A 1 2)) → ∀ z1, z ≤ z1 → X "java/lang/IndexOutOfBoundsException" w z1) : F_X5_debt x p w z mc ms Q X := by
  have hB := clI h.I1.2.1.2.1
  refine ⟨h.is0, 1, 6, by omega, by omega, h.reqPassenger (by omega) (by omega) (fun hp => ?_) hx⟩
  have c := clI hp
  have hv : vp_in p 8 := vp_le hp (by omega)
  exact ⟨_, h.f0, h.is1, h.F1.debts h.I1 (hok hp)⟩
theorem X_unpaidCases {p : Int32} (h : CS w x Fz g A) (hm : 10 ≤ mc) (hs : 100 ≤ ms) (hok : vp_in p (cl (A 1 2)) → Q (unpR (A 1) p (cl (A 1 4)) 0 0) w z) (hx : ¬ vp_in p (cl (A 1 2)) → ∀ z1, z ≤ z1 → X "java/lang/IndexOutOfBoundsException" w z1) : F_X5_unpaidCases x p w z mc ms Q X := by
  have hB := clI h.I1.2.1.2.1
  refine ⟨h.is0, 1, 6, by omega, by omega, h.reqPassenger (by omega) (by omega) (fun hp => ?_) hx⟩
  have c := clI hp
  have hv : vp_in p 8 := vp_le hp (by omega)
  exact ⟨_, h.f0, h.is1, h.F1.unpaid h.I1 (hok hp)⟩
theorem X_ticketPrice {p : Int32} (h : CS w x Fz g A) (hm : 10 ≤ mc) (hs : 100 ≤ ms) (hok : vp_in p (cl (A 1 3)) → Q (priceI (A 1 (125 + 6 * cl p + 1)) (A 1 (125 + 6 * cl p + 2))) w z) (hx : ¬ vp_in p (cl (A 1 3)) → ∀ z1, z ≤ z1 → X "java/lang/IndexOutOfBoundsException" w z1) : F_X5_ticketPrice x p w z mc ms Q X := by
  have hB := clI h.I1.2.1.2.2.1
  refine ⟨h.is0, 1, 6, by omega, by omega, h.reqTicket (by omega) (by omega) (fun hp => ?_) hx⟩
  have c := clI hp
  have hv : vp_in p 30 := vp_le hp (by omega)
  have h1 := hok hp
  have hI := h.I1
  have h0 := h.f0
  obtain ⟨hd, zn, nm, pa, tk, cs, e1, e2, e3⟩ := h.F1
  have e := e1.self
  rw [e] at h1 h0 ⊢
  exact ⟨_, h0, _, s_r10, s_aT hv ⟨s_iT (by omega), c_price_t e2 (by omega) c.2 h1⟩⟩
theorem X_amountDue {p : Int32} (h : CS w x Fz g A) (hm : 10 ≤ mc) (hs : 100 ≤ ms) (hok : vp_in p (cl (A 1 4)) → Q (dueF (A 1) p) w z) (hx : ¬ vp_in p (cl (A 1 4)) → ∀ z1, z ≤ z1 → X "java/lang/IndexOutOfBoundsException" w z1) : F_X5_amountDue x p w z mc ms Q X := by
  have hB := clI h.I1.2.1.2.2.2
  refine ⟨h.is0, 1, 6, by omega, by omega, h.reqCase (by omega) (by omega) (fun hp => ?_) hx⟩
  have c := clI hp
  have hv : vp_in p 20 := vp_le hp (by omega)
  have h1 := hok hp
  have hI := h.I1
  have h0 := h.f0
  obtain ⟨hd, zn, nm, pa, tk, cs, e1, e2, e3⟩ := h.F1
  have e := e1.self
  rw [e] at h1 h0 ⊢
  exact ⟨_, h0, _, s_r11, s_aC hv ⟨_, h0, _, gH0 e2, s_iC (by omega), c_costAt hI.2.1 e2 hp h1⟩⟩
theorem X_isRiding {p : Int32} (h : CS w x Fz g A) (hm : 10 ≤ mc) (hs : 100 ≤ ms) (hok : vp_in p (cl (A 1 2)) → Q (ridesF (A 1) p) w z) (hx : ¬ vp_in p (cl (A 1 2)) → ∀ z1, z ≤ z1 → X "java/lang/IndexOutOfBoundsException" w z1) : F_X5_isRiding x p w z mc ms Q X := by
  have hB := clI h.I1.2.1.2.1
  refine ⟨h.is0, 1, 6, by omega, by omega, h.reqPassenger (by omega) (by omega) (fun hp => ?_) hx⟩
  have c := clI hp
  have hv : vp_in p 8 := vp_le hp (by omega)
  have h1 := hok hp
  have hI := h.I1
  have h0 := h.f0
  obtain ⟨hd, zn, nm, pa, tk, cs, e1, e2, e3⟩ := h.F1
  have e := e1.self
  rw [e] at h1 h0 ⊢
  refine ⟨_, h0, _, s_r9, s_aP hv ⟨_, h0, _, gH0 e2, s_iP (by omega), c_isOnTram (by omega) ?_⟩⟩
  have e5 : (if pa (cl p) 4 ≤ A 1 0 then (0 : Int32) else 1) = ridesF (A 1) p := by
    rw [(e2.2.2.1 _ c.2).2.1]
    rfl
  rw [e5]
  exact ⟨nar_b ridesF_01, h1⟩
theorem X_isInTime {p : Int32} (h : CS w x Fz g A) (hm : 10 ≤ mc) (hs : 100 ≤ ms) (hok : vp_in p (cl (A 1 3)) → Q (inTimeF (A 1) p) w z) (hx : ¬ vp_in p (cl (A 1 3)) → ∀ z1, z ≤ z1 → X "java/lang/IndexOutOfBoundsException" w z1) : F_X5_isInTime x p w z mc ms Q X := by
  have hB := clI h.I1.2.1.2.2.1
  refine ⟨h.is0, 1, 6, by omega, by omega, h.reqTicket (by omega) (by omega) (fun hp => ?_) hx⟩
  have c := clI hp
  have hv : vp_in p 30 := vp_le hp (by omega)
  have h1 := hok hp
  have hI := h.I1
  have h0 := h.f0
  obtain ⟨hd, zn, nm, pa, tk, cs, e1, e2, e3⟩ := h.F1
  have e := e1.self
  rw [e] at h1 h0 ⊢
  exact ⟨_, h0, _, s_r10, s_aT hv ⟨_, h0, _, gH0 e2, s_iT (by omega), c_inTimeAt hI.2.1 e2 hp (hI.rd.1 _ c.2) ⟨nar_b inTimeF_01, h1⟩⟩⟩
theorem X_isOverdue {p : Int32} (h : CS w x Fz g A) (hm : 10 ≤ mc) (hs : 100 ≤ ms) (hok : vp_in p (cl (A 1 4)) → Q (isLateF (A 1) p) w z) (hx : ¬ vp_in p (cl (A 1 4)) → ∀ z1, z ≤ z1 → X "java/lang/IndexOutOfBoundsException" w z1) : F_X5_isOverdue x p w z mc ms Q X := by
  have hB := clI h.I1.2.1.2.2.2
  refine ⟨h.is0, 1, 6, by omega, by omega, h.reqCase (by omega) (by omega) (fun hp => ?_) hx⟩
  have c := clI hp
  have hv : vp_in p 20 := vp_le hp (by omega)
  have h1 := hok hp
  have hI := h.I1
  have h0 := h.f0
  obtain ⟨hd, zn, nm, pa, tk, cs, e1, e2, e3⟩ := h.F1
  have e := e1.self
  rw [e] at h1 h0 ⊢
  exact ⟨_, h0, _, s_r11, s_aC hv ⟨_, h0, _, gH0 e2, s_iC (by omega), c_overdueAt hI.2.1 e2 hp ⟨nar_b isLateF_01, h1⟩⟩⟩
theorem X_zonesBetween {a b : Int32} (h : CS w x Fz g A) (hm : 10 ≤ mc) (hs : 100 ≤ ms) (hok : vp_in a (cl (A 1 1)) → vp_in b (cl (A 1 1)) → Q (zonesF (A 1) a b) w z) (hx : ¬ (vp_in a (cl (A 1 1)) ∧ vp_in b (cl (A 1 1))) → ∀ z1, z ≤ z1 → X "java/lang/IndexOutOfBoundsException" w z1) : F_X5_zonesBetween x a b w z mc ms Q X :=
  ⟨h.is0, 1, 6, by omega, by omega, h.reqStop (by omega) (by omega) (fun ha => ⟨h.is0, 1, 6, by omega, by omega, h.reqStop (by omega) (by omega) (fun hb => ⟨_, h.f0, h.is1, h.F1.zones h.I1 ha hb (hok ha hb)⟩) (fun hn => hx (fun hh => hn hh.2))⟩) (fun hn => hx (fun hh => hn hh.1))⟩
theorem X_outlook {a b : Int32} (h : CS w x Fz g A) (hm : 10 ≤ mc) (hs : 100 ≤ ms) (hok : vp_in a (cl (A 1 4)) → vp_in b (cl (A 1 3)) → Q (judgedF (A 1) a b) w z) (hx : ¬ (vp_in a (cl (A 1 4)) ∧ vp_in b (cl (A 1 3))) → ∀ z1, z ≤ z1 → X "java/lang/IndexOutOfBoundsException" w z1) : F_X5_outlook x a b w z mc ms Q X :=
  ⟨h.is0, 1, 6, by omega, by omega, h.reqCase (by omega) (by omega) (fun ha => ⟨h.is0, 1, 6, by omega, by omega, h.reqTicket (by omega) (by omega) (fun hb => ⟨_, h.f0, h.is1, h.F1.outlook h.I1 ha hb (hok ha hb)⟩) (fun hn => hx (fun hh => hn hh.2))⟩) (fun hn => hx (fun hh => hn hh.1))⟩
end
