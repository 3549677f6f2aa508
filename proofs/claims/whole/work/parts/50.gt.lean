section
variable {w : Mm} {m z : Nat} {g : Nat → Int32} {A : Nat → Nat → Int32} {Q : Int32 → Mm → Nat → Prop} {R : Mm → Nat → Prop} {T : Mm → Prop}
theorem G_clock (hq : Q (A 1 0) (rwd w m (upd g 6 0) A) z) : F_X6_clock m (rwd w m g A) z Q := ⟨_, R_r0, _, _, R_a1, vl0, R_i, R_told (by
  rw [show (0 : Int32).toNatClampNeg = 0 from cl0]
  exact hq)⟩
theorem G_stopCount (hq : Q (A 1 1) (rwd w m (upd g 6 0) A) z) : F_X6_stopCount m (rwd w m g A) z Q := ⟨_, R_r0, _, _, R_a1, vl1, R_i, R_told (by
  rw [show (1 : Int32).toNatClampNeg = 1 from cl1]
  exact hq)⟩
theorem G_passengerCount (hq : Q (A 1 2) (rwd w m (upd g 6 0) A) z) : F_X6_passengerCount m (rwd w m g A) z Q := ⟨_, R_r0, _, _, R_a1, vl2, R_i, R_told (by
  rw [show (2 : Int32).toNatClampNeg = 2 from cl2]
  exact hq)⟩
theorem G_ticketCount (hq : Q (A 1 3) (rwd w m (upd g 6 0) A) z) : F_X6_ticketCount m (rwd w m g A) z Q := ⟨_, R_r0, _, _, R_a1, vl3, R_i, R_told (by
  rw [show (3 : Int32).toNatClampNeg = 3 from cl3]
  exact hq)⟩
theorem G_caseCount (hq : Q (A 1 4) (rwd w m (upd g 6 0) A) z) : F_X6_caseCount m (rwd w m g A) z Q := ⟨_, R_r0, _, _, R_a1, vl4, R_i, R_told (by
  rw [show (4 : Int32).toNatClampNeg = 4 from cl4]
  exact hq)⟩
theorem G_ticketSales (hq : Q (A 1 5) (rwd w m (upd g 6 0) A) z) : F_X6_ticketSales m (rwd w m g A) z Q := ⟨_, R_r0, _, _, R_a1, vl5, R_i, R_told (by
  rw [show (5 : Int32).toNatClampNeg = 5 from cl5]
  exact hq)⟩
theorem G_finesPaid (hq : Q (A 1 6) (rwd w m (upd g 6 0) A) z) : F_X6_finesPaid m (rwd w m g A) z Q := ⟨_, R_r0, _, _, R_a1, vl6, R_i, R_told (by
  rw [show (6 : Int32).toNatClampNeg = 6 from cl6]
  exact hq)⟩
theorem G_inspections (hq : Q (A 1 7) (rwd w m (upd g 6 0) A) z) : F_X6_inspections m (rwd w m g A) z Q := ⟨_, R_r0, _, _, R_a1, vl7, R_i, R_told (by
  rw [show (7 : Int32).toNatClampNeg = 7 from cl7]
  exact hq)⟩
theorem G_day (hq : Q (A 1 0 / 1440) (rwd w m (upd g 6 0) A) z) : F_X6_day m (rwd w m g A) z Q := ⟨_, R_r0, _, _, R_a1, vl0, R_i, R_told (by
  rw [show (0 : Int32).toNatClampNeg = 0 from cl0]
  exact hq)⟩
theorem G_undoableChanges (hq : Q (g 5) (rwd w m (upd g 6 0) A) z) : F_X6_undoableChanges m (rwd w m g A) z Q := ⟨_, R_g5, R_i, R_told hq⟩
theorem G_errorCode (hq : Q (g 11) (rwd w m (upd g 6 0) A) z) : F_X6_errorCode m (rwd w m g A) z Q := ⟨_, R_g11, R_i, R_told hq⟩
theorem G_errorOffset (hq : Q (g 12) (rwd w m (upd g 6 0) A) z) : F_X6_errorOffset m (rwd w m g A) z Q := ⟨_, R_g12, R_i, R_told hq⟩
theorem G_money {p : Int32} (hI : Inv (A 1)) (h1 : vp_in p (cl (A 1 2)) → Q (A 1 (21 + 13 * cl p)) (rwd w m (upd g 6 0) A) z) (h0 : ¬ vp_in p (cl (A 1 2)) → Q 0 (rwd w m (upd g 6 1) A) z) : F_X6_money m p (rwd w m g A) z Q := by
  have hB := clI hI.2.1.2.1
  exact ⟨R_i, R_i, R_noPassenger hI.2.1.2.1 (fun hp => ⟨R_i, R_fails0 ⟨fun _ => ⟨R_i, L_ofP0 (vp_le hp (by omega)) (h1 hp)⟩, fun h => absurd rfl h⟩⟩) (fun hp => ⟨R_i, R_fails1 ⟨fun h => absurd h (by decide), fun _ => h0 hp⟩⟩)⟩
theorem G_rideEnd {p : Int32} (hI : Inv (A 1)) (h1 : vp_in p (cl (A 1 2)) → Q (A 1 (21 + 13 * cl p + 3)) (rwd w m (upd g 6 0) A) z) (h0 : ¬ vp_in p (cl (A 1 2)) → Q 0 (rwd w m (upd g 6 1) A) z) : F_X6_rideEnd m p (rwd w m g A) z Q := by
  have hB := clI hI.2.1.2.1
  exact ⟨R_i, R_i, R_noPassenger hI.2.1.2.1 (fun hp => ⟨R_i, R_fails0 ⟨fun _ => ⟨R_i, L_ofP3 (vp_le hp (by omega)) (h1 hp)⟩, fun h => absurd rfl h⟩⟩) (fun hp => ⟨R_i, R_fails1 ⟨fun h => absurd h (by decide), fun _ => h0 hp⟩⟩)⟩
theorem G_rideTicket {p : Int32} (hI : Inv (A 1)) (h1 : vp_in p (cl (A 1 2)) → Q (A 1 (21 + 13 * cl p + 4)) (rwd w m (upd g 6 0) A) z) (h0 : ¬ vp_in p (cl (A 1 2)) → Q 0 (rwd w m (upd g 6 1) A) z) : F_X6_rideTicket m p (rwd w m g A) z Q := by
  have hB := clI hI.2.1.2.1
  exact ⟨R_i, R_i, R_noPassenger hI.2.1.2.1 (fun hp => ⟨R_i, R_fails0 ⟨fun _ => ⟨R_i, L_ofP4 (vp_le hp (by omega)) (h1 hp)⟩, fun h => absurd rfl h⟩⟩) (fun hp => ⟨R_i, R_fails1 ⟨fun h => absurd h (by decide), fun _ => h0 hp⟩⟩)⟩
theorem G_ticketHolder {p : Int32} (hI : Inv (A 1)) (h1 : vp_in p (cl (A 1 3)) → Q (A 1 (125 + 6 * cl p)) (rwd w m (upd g 6 0) A) z) (h0 : ¬ vp_in p (cl (A 1 3)) → Q 0 (rwd w m (upd g 6 1) A) z) : F_X6_ticketHolder m p (rwd w m g A) z Q := by
  have hB := clI hI.2.1.2.2.1
  exact ⟨R_i, R_i, R_noTicket hI.2.1.2.2.1 (fun hp => ⟨R_i, R_fails0 ⟨fun _ => ⟨R_i, L_ofT0 (vp_le hp (by omega)) (h1 hp)⟩, fun h => absurd rfl h⟩⟩) (fun hp => ⟨R_i, R_fails1 ⟨fun h => absurd h (by decide), fun _ => h0 hp⟩⟩)⟩
theorem G_ticketKind {p : Int32} (hI : Inv (A 1)) (h1 : vp_in p (cl (A 1 3)) → Q (A 1 (125 + 6 * cl p + 1)) (rwd w m (upd g 6 0) A) z) (h0 : ¬ vp_in p (cl (A 1 3)) → Q 0 (rwd w m (upd g 6 1) A) z) : F_X6_ticketKind m p (rwd w m g A) z Q := by
  have hB := clI hI.2.1.2.2.1
  exact ⟨R_i, R_i, R_noTicket hI.2.1.2.2.1 (fun hp => ⟨R_i, R_fails0 ⟨fun _ => ⟨R_i, L_ofT1 (vp_le hp (by omega)) (h1 hp)⟩, fun h => absurd rfl h⟩⟩) (fun hp => ⟨R_i, R_fails1 ⟨fun h => absurd h (by decide), fun _ => h0 hp⟩⟩)⟩
theorem G_ticketZones {p : Int32} (hI : Inv (A 1)) (h1 : vp_in p (cl (A 1 3)) → Q (A 1 (125 + 6 * cl p + 2)) (rwd w m (upd g 6 0) A) z) (h0 : ¬ vp_in p (cl (A 1 3)) → Q 0 (rwd w m (upd g 6 1) A) z) : F_X6_ticketZones m p (rwd w m g A) z Q := by
  have hB := clI hI.2.1.2.2.1
  exact ⟨R_i, R_i, R_noTicket hI.2.1.2.2.1 (fun hp => ⟨R_i, R_fails0 ⟨fun _ => ⟨R_i, L_ofT2 (vp_le hp (by omega)) (h1 hp)⟩, fun h => absurd rfl h⟩⟩) (fun hp => ⟨R_i, R_fails1 ⟨fun h => absurd h (by decide), fun _ => h0 hp⟩⟩)⟩
theorem G_stampTime {p : Int32} (hI : Inv (A 1)) (h1 : vp_in p (cl (A 1 3)) → Q (A 1 (125 + 6 * cl p + 3)) (rwd w m (upd g 6 0) A) z) (h0 : ¬ vp_in p (cl (A 1 3)) → Q 0 (rwd w m (upd g 6 1) A) z) : F_X6_stampTime m p (rwd w m g A) z Q := by
  have hB := clI hI.2.1.2.2.1
  exact ⟨R_i, R_i, R_noTicket hI.2.1.2.2.1 (fun hp => ⟨R_i, R_fails0 ⟨fun _ => ⟨R_i, L_ofT3 (vp_le hp (by omega)) (h1 hp)⟩, fun h => absurd rfl h⟩⟩) (fun hp => ⟨R_i, R_fails1 ⟨fun h => absurd h (by decide), fun _ => h0 hp⟩⟩)⟩
theorem G_stampStop {p : Int32} (hI : Inv (A 1)) (h1 : vp_in p (cl (A 1 3)) → Q (A 1 (125 + 6 * cl p + 4)) (rwd w m (upd g 6 0) A) z) (h0 : ¬ vp_in p (cl (A 1 3)) → Q 0 (rwd w m (upd g 6 1) A) z) : F_X6_stampStop m p (rwd w m g A) z Q := by
  have hB := clI hI.2.1.2.2.1
  exact ⟨R_i, R_i, R_noTicket hI.2.1.2.2.1 (fun hp => ⟨R_i, R_fails0 ⟨fun _ => ⟨R_i, L_ofT4 (vp_le hp (by omega)) (h1 hp)⟩, fun h => absurd rfl h⟩⟩) (fun hp => ⟨R_i, R_fails1 ⟨fun h => absurd h (by decide), fun _ => h0 hp⟩⟩)⟩
theorem G_ticketRides {p : Int32} (hI : Inv (A 1)) (h1 : vp_in p (cl (A 1 3)) → Q (A 1 (125 + 6 * cl p + 5)) (rwd w m (upd g 6 0) A) z) (h0 : ¬ vp_in p (cl (A 1 3)) → Q 0 (rwd w m (upd g 6 1) A) z) : F_X6_ticketRides m p (rwd w m g A) z Q := by
  have hB := clI hI.2.1.2.2.1
  exact ⟨R_i, R_i, R_noTicket hI.2.1.2.2.1 (fun hp => ⟨R_i, R_fails0 ⟨fun _ => ⟨R_i, L_ofT5 (vp_le hp (by omega)) (h1 hp)⟩, fun h => absurd rfl h⟩⟩) (fun hp => ⟨R_i, R_fails1 ⟨fun h => absurd h (by decide), fun _ => h0 hp⟩⟩)⟩
theorem G_casePassenger {p : Int32} (hI : Inv (A 1)) (h1 : vp_in p (cl (A 1 4)) → Q (A 1 (305 + 7 * cl p)) (rwd w m (upd g 6 0) A) z) (h0 : ¬ vp_in p (cl (A 1 4)) → Q 0 (rwd w m (upd g 6 1) A) z) : F_X6_casePassenger m p (rwd w m g A) z Q := by
  have hB := clI hI.2.1.2.2.2
  exact ⟨R_i, R_i, R_noCase hI.2.1.2.2.2 (fun hp => ⟨R_i, R_fails0 ⟨fun _ => ⟨R_i, L_ofC0 (vp_le hp (by omega)) (h1 hp)⟩, fun h => absurd rfl h⟩⟩) (fun hp => ⟨R_i, R_fails1 ⟨fun h => absurd h (by decide), fun _ => h0 hp⟩⟩)⟩
theorem G_caseFault {p : Int32} (hI : Inv (A 1)) (h1 : vp_in p (cl (A 1 4)) → Q (A 1 (305 + 7 * cl p + 1)) (rwd w m (upd g 6 0) A) z) (h0 : ¬ vp_in p (cl (A 1 4)) → Q 0 (rwd w m (upd g 6 1) A) z) : F_X6_caseFault m p (rwd w m g A) z Q := by
  have hB := clI hI.2.1.2.2.2
  exact ⟨R_i, R_i, R_noCase hI.2.1.2.2.2 (fun hp => ⟨R_i, R_fails0 ⟨fun _ => ⟨R_i, L_ofC1 (vp_le hp (by omega)) (h1 hp)⟩, fun h => absurd rfl h⟩⟩) (fun hp => ⟨R_i, R_fails1 ⟨fun h => absurd h (by decide), fun _ => h0 hp⟩⟩)⟩
theorem G_caseState {p : Int32} (hI : Inv (A 1)) (h1 : vp_in p (cl (A 1 4)) → Q (A 1 (305 + 7 * cl p + 2)) (rwd w m (upd g 6 0) A) z) (h0 : ¬ vp_in p (cl (A 1 4)) → Q 0 (rwd w m (upd g 6 1) A) z) : F_X6_caseState m p (rwd w m g A) z Q := by
  have hB := clI hI.2.1.2.2.2
  exact ⟨R_i, R_i, R_noCase hI.2.1.2.2.2 (fun hp => ⟨R_i, R_fails0 ⟨fun _ => ⟨R_i, L_ofC2 (vp_le hp (by omega)) (h1 hp)⟩, fun h => absurd rfl h⟩⟩) (fun hp => ⟨R_i, R_fails1 ⟨fun h => absurd h (by decide), fun _ => h0 hp⟩⟩)⟩
theorem G_caseTime {p : Int32} (hI : Inv (A 1)) (h1 : vp_in p (cl (A 1 4)) → Q (A 1 (305 + 7 * cl p + 3)) (rwd w m (upd g 6 0) A) z) (h0 : ¬ vp_in p (cl (A 1 4)) → Q 0 (rwd w m (upd g 6 1) A) z) : F_X6_caseTime m p (rwd w m g A) z Q := by
  have hB := clI hI.2.1.2.2.2
  exact ⟨R_i, R_i, R_noCase hI.2.1.2.2.2 (fun hp => ⟨R_i, R_fails0 ⟨fun _ => ⟨R_i, L_ofC3 (vp_le hp (by omega)) (h1 hp)⟩, fun h => absurd rfl h⟩⟩) (fun hp => ⟨R_i, R_fails1 ⟨fun h => absurd h (by decide), fun _ => h0 hp⟩⟩)⟩
theorem G_caseTicket {p : Int32} (hI : Inv (A 1)) (h1 : vp_in p (cl (A 1 4)) → Q (A 1 (305 + 7 * cl p + 5)) (rwd w m (upd g 6 0) A) z) (h0 : ¬ vp_in p (cl (A 1 4)) → Q 0 (rwd w m (upd g 6 1) A) z) : F_X6_caseTicket m p (rwd w m g A) z Q := by
  have hB := clI hI.2.1.2.2.2
  exact ⟨R_i, R_i, R_noCase hI.2.1.2.2.2 (fun hp => ⟨R_i, R_fails0 ⟨fun _ => ⟨R_i, L_ofC5 (vp_le hp (by omega)) (h1 hp)⟩, fun h => absurd rfl h⟩⟩) (fun hp => ⟨R_i, R_fails1 ⟨fun h => absurd h (by decide), fun _ => h0 hp⟩⟩)⟩
theorem G_faultNow {p : Int32} (hI : Inv (A 1)) (h1 : vp_in p (cl (A 1 2)) → Q (faultF (A 1) p) (rwd w m (upd g 6 0) A) z) (h0 : ¬ vp_in p (cl (A 1 2)) → Q 0 (rwd w m (upd g 6 1) A) z) : F_X6_faultNow m p (rwd w m g A) z Q := by
  have hB := clI hI.2.1.2.1
  have hB1 := clI hI.2.1.1
  have hB3 := clI hI.2.1.2.2.1
  exact ⟨R_i, R_noPassenger hI.2.1.2.1 (fun hp => ⟨R_i, R_fails0 ⟨fun _ => ⟨R_i, L_fault (vp_le hp (by omega)) (fun he => vp_le (hI.rd.2 _ (clI hp).2 he).1 (by omega)) (fun he => vp_le (hI.rd.2 _ (clI hp).2 he).2.1 (by omega)) (fun he hk => vp_le ((hI.rd.2 _ (clI hp).2 he).2.2 hk) (by omega)) (h1 hp)⟩, fun h => absurd rfl h⟩⟩) (fun hp => ⟨R_i, R_fails1 ⟨fun h => absurd h (by decide), fun _ => h0 hp⟩⟩)⟩
theorem G_amountDue {p : Int32} (hI : Inv (A 1)) (h1 : vp_in p (cl (A 1 4)) → Q (dueF (A 1) p) (rwd w m (upd g 6 0) A) z) (h0 : ¬ vp_in p (cl (A 1 4)) → Q 0 (rwd w m (upd g 6 1) A) z) : F_X6_amountDue m p (rwd w m g A) z Q := by
  have hB := clI hI.2.1.2.2.2
  exact ⟨R_i, R_noCase hI.2.1.2.2.2 (fun hp => ⟨R_i, R_fails0 ⟨fun _ => ⟨R_i, L_due (vp_le hp (by omega)) (h1 hp)⟩, fun h => absurd rfl h⟩⟩) (fun hp => ⟨R_i, R_fails1 ⟨fun h => absurd h (by decide), fun _ => h0 hp⟩⟩)⟩
theorem G_ticketPrice {p : Int32} (hI : Inv (A 1)) (h1 : vp_in p (cl (A 1 3)) → Q (priceI (A 1 (125 + 6 * cl p + 1)) (A 1 (125 + 6 * cl p + 2))) (rwd w m (upd g 6 0) A) z) (h0 : ¬ vp_in p (cl (A 1 3)) → Q 0 (rwd w m (upd g 6 1) A) z) : F_X6_ticketPrice m p (rwd w m g A) z Q := by
  have hB := clI hI.2.1.2.2.1
  exact ⟨R_i, R_noTicket hI.2.1.2.2.1 (fun hp => ⟨R_i, R_fails0 ⟨fun _ => ⟨R_i, L_ofT1 (vp_le hp (by omega)) ⟨R_i, L_ofT2 (vp_le hp (by omega)) (r_price (h1 hp))⟩⟩, fun h => absurd rfl h⟩⟩) (fun hp => ⟨R_i, R_fails1 ⟨fun h => absurd h (by decide), fun _ => h0 hp⟩⟩)⟩
theorem ridesF_01 {f : Nat → Int32} {p : Int32} : ridesF f p = 0 ∨ ridesF f p = 1 := by
  unfold ridesF
  split
  · exact Or.inl rfl
  · exact Or.inr rfl
theorem inTimeF_01 {f : Nat → Int32} {p : Int32} : inTimeF f p = 0 ∨ inTimeF f p = 1 := by
  unfold inTimeF
  try simp only
  repeat' split
  all_goals first
    | exact Or.inl rfl
    | exact Or.inr rfl
theorem isLateF_01 {f : Nat → Int32} {p : Int32} : isLateF f p = 0 ∨ isLateF f p = 1 := by
  unfold isLateF
  split
  · exact Or.inl rfl
  · split
    · exact Or.inl rfl
    · exact Or.inr rfl
theorem G_isRiding {p : Int32} (hI : Inv (A 1)) (h1 : vp_in p (cl (A 1 2)) → Q (ridesF (A 1) p) (rwd w m (upd g 6 0) A) z) (h0 : ¬ vp_in p (cl (A 1 2)) → Q 0 (rwd w m (upd g 6 1) A) z) : F_X6_isRiding m p (rwd w m g A) z Q := by
  have hB := clI hI.2.1.2.1
  exact ⟨R_i, R_noPassenger hI.2.1.2.1 (fun hp => ⟨R_i, R_fails0 ⟨fun h => absurd rfl h, fun _ => ⟨R_i, L_rides (vp_le hp (by omega)) ⟨fun hb => by have h := h1 hp; rw [hb] at h; exact h, fun hb => by have h := h1 hp; rw [(ridesF_01).resolve_left hb] at h; exact h⟩⟩⟩⟩) (fun hp => ⟨R_i, R_fails1 ⟨fun _ => h0 hp, fun h => absurd h (by decide)⟩⟩)⟩
theorem G_isInTime {p : Int32} (hI : Inv (A 1)) (h1 : vp_in p (cl (A 1 3)) → Q (inTimeF (A 1) p) (rwd w m (upd g 6 0) A) z) (h0 : ¬ vp_in p (cl (A 1 3)) → Q 0 (rwd w m (upd g 6 1) A) z) : F_X6_isInTime m p (rwd w m g A) z Q := by
  have hB := clI hI.2.1.2.2.1
  exact ⟨R_i, R_noTicket hI.2.1.2.2.1 (fun hp => ⟨R_i, R_fails0 ⟨fun h => absurd rfl h, fun _ => ⟨R_i, L_inTime (vp_le hp (by omega)) ⟨fun hb => by have h := h1 hp; rw [hb] at h; exact h, fun hb => by have h := h1 hp; rw [(inTimeF_01).resolve_left hb] at h; exact h⟩⟩⟩⟩) (fun hp => ⟨R_i, R_fails1 ⟨fun _ => h0 hp, fun h => absurd h (by decide)⟩⟩)⟩
theorem G_isOverdue {p : Int32} (hI : Inv (A 1)) (h1 : vp_in p (cl (A 1 4)) → Q (isLateF (A 1) p) (rwd w m (upd g 6 0) A) z) (h0 : ¬ vp_in p (cl (A 1 4)) → Q 0 (rwd w m (upd g 6 1) A) z) : F_X6_isOverdue m p (rwd w m g A) z Q := by
  have hB := clI hI.2.1.2.2.2
  exact ⟨R_i, R_noCase hI.2.1.2.2.2 (fun hp => ⟨R_i, R_fails0 ⟨fun h => absurd rfl h, fun _ => ⟨R_i, L_isLate (vp_le hp (by omega)) ⟨fun hb => by have h := h1 hp; rw [hb] at h; exact h, fun hb => by have h := h1 hp; rw [(isLateF_01).resolve_left hb] at h; exact h⟩⟩⟩⟩) (fun hp => ⟨R_i, R_fails1 ⟨fun _ => h0 hp, fun h => absurd h (by decide)⟩⟩)⟩
theorem G_zonesBetween {a b : Int32} (hI : Inv (A 1)) (h1 : vp_in a (cl (A 1 1)) → vp_in b (cl (A 1 1)) → Q (zonesF (A 1) a b) (rwd w m (upd g 6 0) A) z) (h0 : ¬ (vp_in a (cl (A 1 1)) ∧ vp_in b (cl (A 1 1))) → Q 0 (rwd w m (upd g 6 1) A) z) : F_X6_zonesBetween m a b (rwd w m g A) z Q := by
  have hB := clI hI.2.1.1
  have k1 : ¬ (vp_in a (cl (A 1 1)) ∧ vp_in b (cl (A 1 1))) → B_X6_zonesBetween_22 m a b Q 1 m (rwd w m g A) z := fun hn => ⟨R_i, R_fails1 ⟨fun h => absurd h (by decide), fun _ => h0 hn⟩⟩
  exact ⟨R_i, R_noStop hI.2.1.1 (fun ha => ⟨fun h => absurd rfl h, fun _ => ⟨R_i, R_noStop hI.2.1.1 (fun hb => ⟨fun _ => ⟨R_i, R_fails0 ⟨fun _ => ⟨R_i, L_zones (vp_le ha (by omega)) (vp_le hb (by omega)) (h1 ha hb)⟩, fun h => absurd rfl h⟩⟩, fun h => absurd rfl h⟩) (fun hb => ⟨fun h => absurd h (by decide), fun _ => k1 (fun h => hb h.2)⟩)⟩⟩) (fun ha => ⟨fun _ => k1 (fun h => ha h.1), fun h => absurd h (by decide)⟩)⟩
theorem G_outlook {a b : Int32} (hI : Inv (A 1)) (h1 : vp_in a (cl (A 1 4)) → vp_in b (cl (A 1 3)) → Q (judgedF (A 1) a b) (rwd w m (upd g 6 0) A) z) (h0 : ¬ (vp_in a (cl (A 1 4)) ∧ vp_in b (cl (A 1 3))) → Q 0 (rwd w m (upd g 6 1) A) z) : F_X6_outlook m a b (rwd w m g A) z Q := by
  have hB := clI hI.2.1.2.2.2
  have hB3 := clI hI.2.1.2.2.1
  have k1 : ¬ (vp_in a (cl (A 1 4)) ∧ vp_in b (cl (A 1 3))) → B_X6_outlook_22 m a b Q 1 m (rwd w m g A) z := fun hn => ⟨R_i, R_fails1 ⟨fun h => absurd h (by decide), fun _ => h0 hn⟩⟩
  exact ⟨R_i, R_noCase hI.2.1.2.2.2 (fun ha => ⟨fun h => absurd rfl h, fun _ => ⟨R_i, R_noTicket hI.2.1.2.2.1 (fun hb => ⟨fun _ => ⟨R_i, R_fails0 ⟨fun _ => ⟨R_i, L_judged (vp_le ha (by omega)) (vp_le hb (by omega)) (h1 ha hb)⟩, fun h => absurd rfl h⟩⟩, fun h => absurd rfl h⟩) (fun hb => ⟨fun h => absurd h (by decide), fun _ => k1 (fun h => hb h.2)⟩)⟩⟩) (fun ha => ⟨fun _ => k1 (fun h => ha h.1), fun h => absurd h (by decide)⟩)⟩
def cheapF (f : Nat → Int32) (a b : Int32) : Int32 := if 4 < jabs (b - a) then 0 else if priceI 0 (zonesF f a b) ≤ priceI 2 (zonesF f a b) then 0 else 2
theorem G_cheapestKind {a b : Int32} (hI : Inv (A 1)) (h1 : vp_in a (cl (A 1 1)) → vp_in b (cl (A 1 1)) → Q (cheapF (A 1) a b) (rwd w m (upd g 6 0) A) z) (h0 : ¬ (vp_in a (cl (A 1 1)) ∧ vp_in b (cl (A 1 1))) → Q 0 (rwd w m (upd g 6 1) A) z) : F_X6_cheapestKind m a b (rwd w m g A) z Q := by
  have hB := clI hI.2.1.1
  have k1 : ¬ (vp_in a (cl (A 1 1)) ∧ vp_in b (cl (A 1 1))) → B_X6_cheapestKind_22 m a b Q 1 m (rwd w m g A) z := fun hn => ⟨R_i, R_fails1 ⟨fun h => absurd h (by decide), fun _ => h0 hn⟩⟩
  exact ⟨R_i, R_noStop hI.2.1.1 (fun ha => ⟨fun h => absurd rfl h, fun _ => ⟨R_i, R_noStop hI.2.1.1 (fun hb => ⟨fun _ => ⟨R_i, R_fails0 ⟨fun _ => ⟨R_i, L_zones (vp_le ha (by omega)) (vp_le hb (by omega)) ⟨fun h4 => by have h := h1 ha hb; rw [cheapF, if_pos h4] at h; exact h, fun h4 => r_price (r_price ⟨fun h5 => by have h := h1 ha hb; rw [cheapF, if_neg h4, if_pos h5] at h; exact h, fun h5 => by have h := h1 ha hb; rw [cheapF, if_neg h4, if_neg h5] at h; exact h⟩)⟩⟩, fun h => absurd rfl h⟩⟩, fun h => absurd rfl h⟩) (fun hb => ⟨fun h => absurd h (by decide), fun _ => k1 (fun h => hb h.2)⟩)⟩⟩) (fun ha => ⟨fun _ => k1 (fun h => ha h.1), fun h => absurd h (by decide)⟩)⟩
theorem G_zone {p : Int32} (hI : Inv (A 1)) (h1 : vp_in p (cl (A 1 1)) → Q (A 1 (9 + cl p)) (rwd w m (upd g 6 0) A) z) (h0 : ¬ vp_in p (cl (A 1 1)) → Q 0 (rwd w m (upd g 6 1) A) z) : F_X6_zone m p (rwd w m g A) z Q := by
  have hB := clI hI.2.1.1
  refine ⟨R_i, R_noStop hI.2.1.1 (fun hp => ⟨R_i, R_fails0 ⟨fun _ => ⟨_, R_r0, _, _, R_a1, (ixZ (vp_le hp (by omega))).1, ?_⟩, fun h => absurd rfl h⟩⟩) (fun hp => ⟨R_i, R_fails1 ⟨fun h => absurd h (by decide), fun _ => h0 hp⟩⟩)⟩
  rw [show (9 + p : Int32).toNatClampNeg = _ from (ixZ (vp_le hp (by omega))).2]
  exact h1 hp
theorem G_undo (h9 : vp_in (g 5) 9) (h1 : 1 ≤ (g 5).toInt → Q (g 5 - 1) (rwd w m (undoG (upd g 6 0)) (undoA (upd g 6 0) A)) z) (h0 : g 5 = 0 → Q 0 (rwd w m (upd g 6 1) A) z) : F_X6_undo m (rwd w m g A) z Q := by
  have h9' := vp_in_iff.mp h9
  have e5 : upd g 6 0 5 = g 5 := upd_ne (by omega)
  refine ⟨_, R_g5, fun hn => ⟨R_i, R_fails0 ⟨fun _ => ⟨_, R_g5, R_p5 ?_⟩, fun h => absurd rfl h⟩⟩, fun h => ⟨R_i, R_fails1 ⟨fun h => absurd h (by decide), fun _ => h0 h⟩⟩⟩
  have hne : ¬ (g 5).toInt = 0 := fun e => hn (ieq.mpr (by rw [i_0]; exact e))
  have e1 := i_pred h9
  have hv : vp_in (g 5 - 1) 8 := vp_in_iff.mpr (by omega)
  have hc := clI hv
  have h4 := i445 hv (by omega)
  have hq := h1 (by omega)
  unfold undoG undoA at hq
  rw [e5] at hq ⊢
  refine ⟨_, R_r1, _, R_g5, _, R_r0, R_copy1 R_a2 (by rw [upd_eq]; exact h4.2) (by decide) (by rw [upd_eq, h4.1]; omega) (by rw [show cl 0 = 0 from cl0]; omega) ⟨_, R_g5, ?_⟩⟩
  rw [upd_eq, h4.1, show cl 0 = 0 from cl0]
  exact hq
theorem G_save {s : Int32} (h1 : vp_in s 2 → Q (A 1 0) (rwd w m (upd g 6 0) (saveA A s)) z) (h0 : ¬ vp_in s 2 → Q 0 (rwd w m (upd g 6 1) A) z) : F_X6_save m s (rwd w m g A) z Q := by
  refine R_isIn (fun a b => ⟨fun _ => ⟨R_i, R_fails0 ⟨fun _ => ?_, fun h => absurd rfl h⟩⟩, fun h => absurd h (by decide)⟩) (fun a => ⟨fun h => absurd rfl h, fun _ => ⟨R_i, R_fails1 ⟨fun h => absurd h (by decide), fun _ => h0 (fun hv => ?_)⟩⟩⟩)
  · rw [i_0] at a
    rw [i_1] at b
    have hv : vp_in s 2 := vp_in_iff.mpr (by omega)
    have hc := clI hv
    have h4 := i445 hv (by omega)
    have hq := h1 hv
    unfold saveA at hq
    refine ⟨_, R_r0, _, R_r2, R_copy3 R_a1 (by decide) h4.2 (by rw [show cl 0 = 0 from cl0]; omega) (by rw [h4.1]; omega) ⟨_, R_r4, _, _, R_w5, hv, ?_⟩⟩
    rw [show vp_nar .boolean 1 = 1 from by decide, h4.1, show cl 0 = 0 from cl0]
    rintro _ rfl
    rw [R_s5]
    refine ⟨_, R_r0, _, _, R_a1, vl0, ?_⟩
    rw [show (0 : Int32).toNatClampNeg = 0 from cl0, updA_ne (by omega), updA_ne (by omega), updA_ne (by omega)]
    exact hq
  · have := vp_in_iff.mp hv
    rw [i_0, i_1] at a
    omega
theorem G_restore {s : Int32} (h9 : vp_in (g 5) 9) (h1 : vp_in s 2 → ¬ A 5 (cl s) = 0 → Q (A 3 (cl s * 445)) (rwd w m (remG (upd g 6 0)) (restA (upd g 6 0) A s)) z) (h0 : ¬ vp_in s 2 → Q 0 (rwd w m (upd g 6 1) A) z) (h2 : vp_in s 2 → A 5 (cl s) = 0 → Q 0 (rwd w m (upd g 6 2) A) z) : F_X6_restore m s (rwd w m g A) z Q := by
  have k14 : ¬ vp_in s 2 → B_X6_restore_14 m s Q 1 (rwd w m g A) z := fun hn => ⟨fun _ => ⟨R_i, R_fails1 ⟨fun h => absurd h (by decide), fun _ => h0 hn⟩⟩, fun h => absurd h (by decide)⟩
  refine R_isIn (fun a b => ⟨fun _ => ?_, fun h => absurd h (by decide)⟩) (fun a => ⟨fun h => absurd rfl h, fun _ => k14 (fun hv => ?_)⟩)
  · rw [i_0] at a
    rw [i_1] at b
    have hv : vp_in s 2 := vp_in_iff.mpr (by omega)
    have hc := clI hv
    have h4 := i445 hv (by omega)
    refine ⟨fun h => absurd rfl h, fun _ => ⟨_, R_r4, _, _, R_a5, hv, fun hn => ⟨R_i, R_fails0 ⟨fun _ => ⟨_, R_r0, R_i, R_rem1 (by rw [upd_ne (by omega)]; exact h9) ⟨_, R_r2, _, R_r0, R_copy1 R_a3 h4.2 (by decide) (by rw [h4.1]; omega) (by rw [show cl 0 = 0 from cl0]; omega) ⟨_, R_r0, _, _, R_a1, vl0, ?_⟩⟩⟩, fun h => absurd rfl h⟩⟩, fun hn => ⟨R_i, R_fails2 ⟨fun h => absurd h (by decide), fun _ => h2 hv hn⟩⟩⟩⟩
    have hq := h1 hv hn
    unfold restA at hq
    rw [h4.1, show cl 0 = 0 from cl0, show (0 : Int32).toNatClampNeg = 0 from cl0, updA_eq, va_cpy_in (by omega) (by omega), remA_k (by omega), remA_1, show cl s * 445 + (0 - 0) = cl s * 445 by omega]
    exact hq
  · have := vp_in_iff.mp hv
    rw [i_0, i_1] at a
    omega
end
