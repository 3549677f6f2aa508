/-! the law's wrappers; the world of its acts -/
def BD (k mc ms : Nat) : Prop := 10 * k ≤ mc ∧ 100 * k ≤ ms
section
variable {k k' mc ms : Nat}
theorem BD.a (h : BD (k + 1) mc ms) : 10 ≤ mc := by
  unfold BD at h
  omega
theorem BD.b (h : BD (k + 1) mc ms) : 100 ≤ ms := by
  unfold BD at h
  omega
theorem BD.n (h : BD (k + 1) mc ms) : BD k (mc - 10) (ms - 100) := by
  unfold BD at h ⊢
  omega
theorem BD.le (h : BD k mc ms) (hk : k' ≤ k) : BD k' mc ms := by
  unfold BD at h ⊢
  omega
end
theorem b01 {v : Int32} {w : Mm} {z : Nat} {Q : Int32 → Mm → Nat → Prop} (h : v = 0 ∨ v = 1) (hq : Q v w z) : (v = 0 → Q 0 w z) ∧ (¬ v = 0 → Q 1 w z) := by
  rcases h with rfl | rfl
  · exact ⟨fun _ => hq, fun e => absurd rfl e⟩
  · exact ⟨fun e => absurd e (by decide), fun _ => hq⟩
section
variable {w w' : Mm} {x z d b k : Nat} {Q : Int32 → Mm → Nat → Prop} {Fz : Nat → Prop} {g g' : Nat → Int32} {A A' : Nat → Nat → Int32} {c0 : Bool × Ce}
theorem W_money {p : Int32} (h : CS w x Fz g A) (hp : vp_in p (cl (A 1 2))) (hq : Q (A 1 (21 + 13 * cl p)) w z) : F_L_money x p w z 10 100 Q := ⟨h.is0, 10, 100, Nat.le_refl _, Nat.le_refl _, X_money h (Nat.le_refl _) (Nat.le_refl _) (fun _ => hq) (fun hn => absurd hp hn)⟩
theorem W_rideEnd {p : Int32} (h : CS w x Fz g A) (hp : vp_in p (cl (A 1 2))) (hq : Q (A 1 (21 + 13 * cl p + 3)) w z) : F_L_rideEnd x p w z 10 100 Q := ⟨h.is0, 10, 100, Nat.le_refl _, Nat.le_refl _, X_rideEnd h (Nat.le_refl _) (Nat.le_refl _) (fun _ => hq) (fun hn => absurd hp hn)⟩
theorem W_rideTicket {p : Int32} (h : CS w x Fz g A) (hp : vp_in p (cl (A 1 2))) (hq : Q (A 1 (21 + 13 * cl p + 4)) w z) : F_L_rideTicket x p w z 10 100 Q := ⟨h.is0, 10, 100, Nat.le_refl _, Nat.le_refl _, X_rideTicket h (Nat.le_refl _) (Nat.le_refl _) (fun _ => hq) (fun hn => absurd hp hn)⟩
theorem W_faultNow {p : Int32} (h : CS w x Fz g A) (hp : vp_in p (cl (A 1 2))) (hq : Q (faultF (A 1) p) w z) : F_L_faultNow x p w z 10 100 Q := ⟨h.is0, 10, 100, Nat.le_refl _, Nat.le_refl _, X_faultNow h (Nat.le_refl _) (Nat.le_refl _) (fun _ => hq) (fun hn => absurd hp hn)⟩
theorem W_debt {p : Int32} (h : CS w x Fz g A) (hp : vp_in p (cl (A 1 2))) (hq : Q (debtR (A 1) p (cl (A 1 4)) 0 0) w z) : F_L_debt x p w z 10 100 Q := ⟨h.is0, 10, 100, Nat.le_refl _, Nat.le_refl _, X_debt h (Nat.le_refl _) (Nat.le_refl _) (fun _ => hq) (fun hn => absurd hp hn)⟩
theorem W_unpaidCases {p : Int32} (h : CS w x Fz g A) (hp : vp_in p (cl (A 1 2))) (hq : Q (unpR (A 1) p (cl (A 1 4)) 0 0) w z) : F_L_unpaidCases x p w z 10 100 Q := ⟨h.is0, 10, 100, Nat.le_refl _, Nat.le_refl _, X_unpaidCases h (Nat.le_refl _) (Nat.le_refl _) (fun _ => hq) (fun hn => absurd hp hn)⟩
theorem W_ticketHolder {p : Int32} (h : CS w x Fz g A) (hp : vp_in p (cl (A 1 3))) (hq : Q (A 1 (125 + 6 * cl p)) w z) : F_L_ticketHolder x p w z 10 100 Q := ⟨h.is0, 10, 100, Nat.le_refl _, Nat.le_refl _, X_ticketHolder h (Nat.le_refl _) (Nat.le_refl _) (fun _ => hq) (fun hn => absurd hp hn)⟩
theorem W_ticketKind {p : Int32} (h : CS w x Fz g A) (hp : vp_in p (cl (A 1 3))) (hq : Q (A 1 (125 + 6 * cl p + 1)) w z) : F_L_ticketKind x p w z 10 100 Q := ⟨h.is0, 10, 100, Nat.le_refl _, Nat.le_refl _, X_ticketKind h (Nat.le_refl _) (Nat.le_refl _) (fun _ => hq) (fun hn => absurd hp hn)⟩
theorem W_ticketZones {p : Int32} (h : CS w x Fz g A) (hp : vp_in p (cl (A 1 3))) (hq : Q (A 1 (125 + 6 * cl p + 2)) w z) : F_L_ticketZones x p w z 10 100 Q := ⟨h.is0, 10, 100, Nat.le_refl _, Nat.le_refl _, X_ticketZones h (Nat.le_refl _) (Nat.le_refl _) (fun _ => hq) (fun hn => absurd hp hn)⟩
theorem W_ticketPrice {p : Int32} (h : CS w x Fz g A) (hp : vp_in p (cl (A 1 3))) (hq : Q (priceI (A 1 (125 + 6 * cl p + 1)) (A 1 (125 + 6 * cl p + 2))) w z) : F_L_ticketPrice x p w z 10 100 Q := ⟨h.is0, 10, 100, Nat.le_refl _, Nat.le_refl _, X_ticketPrice h (Nat.le_refl _) (Nat.le_refl _) (fun _ => hq) (fun hn => absurd hp hn)⟩
theorem W_stampTime {p : Int32} (h : CS w x Fz g A) (hp : vp_in p (cl (A 1 3))) (hq : Q (A 1 (125 + 6 * cl p + 3)) w z) : F_L_stampTime x p w z 10 100 Q := ⟨h.is0, 10, 100, Nat.le_refl _, Nat.le_refl _, X_stampTime h (Nat.le_refl _) (Nat.le_refl _) (fun _ => hq) (fun hn => absurd hp hn)⟩
theorem W_stampStop {p : Int32} (h : CS w x Fz g A) (hp : vp_in p (cl (A 1 3))) (hq : Q (A 1 (125 + 6 * cl p + 4)) w z) : F_L_stampStop x p w z 10 100 Q := ⟨h.is0, 10, 100, Nat.le_refl _, Nat.le_refl _, X_stampStop h (Nat.le_refl _) (Nat.le_refl _) (fun _ => hq) (fun hn => absurd hp hn)⟩
theorem W_ticketRides {p : Int32} (h : CS w x Fz g A) (hp : vp_in p (cl (A 1 3))) (hq : Q (A 1 (125 + 6 * cl p + 5)) w z) : F_L_ticketRides x p w z 10 100 Q := ⟨h.is0, 10, 100, Nat.le_refl _, Nat.le_refl _, X_ticketRides h (Nat.le_refl _) (Nat.le_refl _) (fun _ => hq) (fun hn => absurd hp hn)⟩
theorem W_casePassenger {p : Int32} (h : CS w x Fz g A) (hp : vp_in p (cl (A 1 4))) (hq : Q (A 1 (305 + 7 * cl p)) w z) : F_L_casePassenger x p w z 10 100 Q := ⟨h.is0, 10, 100, Nat.le_refl _, Nat.le_refl _, X_casePassenger h (Nat.le_refl _) (Nat.le_refl _) (fun _ => hq) (fun hn => absurd hp hn)⟩
theorem W_caseFault {p : Int32} (h : CS w x Fz g A) (hp : vp_in p (cl (A 1 4))) (hq : Q (A 1 (305 + 7 * cl p + 1)) w z) : F_L_caseFault x p w z 10 100 Q := ⟨h.is0, 10, 100, Nat.le_refl _, Nat.le_refl _, X_caseFault h (Nat.le_refl _) (Nat.le_refl _) (fun _ => hq) (fun hn => absurd hp hn)⟩
theorem W_caseState {p : Int32} (h : CS w x Fz g A) (hp : vp_in p (cl (A 1 4))) (hq : Q (A 1 (305 + 7 * cl p + 2)) w z) : F_L_caseState x p w z 10 100 Q := ⟨h.is0, 10, 100, Nat.le_refl _, Nat.le_refl _, X_caseState h (Nat.le_refl _) (Nat.le_refl _) (fun _ => hq) (fun hn => absurd hp hn)⟩
theorem W_caseTime {p : Int32} (h : CS w x Fz g A) (hp : vp_in p (cl (A 1 4))) (hq : Q (A 1 (305 + 7 * cl p + 3)) w z) : F_L_caseTime x p w z 10 100 Q := ⟨h.is0, 10, 100, Nat.le_refl _, Nat.le_refl _, X_caseTime h (Nat.le_refl _) (Nat.le_refl _) (fun _ => hq) (fun hn => absurd hp hn)⟩
theorem W_amountDue {p : Int32} (h : CS w x Fz g A) (hp : vp_in p (cl (A 1 4))) (hq : Q (dueF (A 1) p) w z) : F_L_amountDue x p w z 10 100 Q := ⟨h.is0, 10, 100, Nat.le_refl _, Nat.le_refl _, X_amountDue h (Nat.le_refl _) (Nat.le_refl _) (fun _ => hq) (fun hn => absurd hp hn)⟩
theorem W_caseTicket {p : Int32} (h : CS w x Fz g A) (hp : vp_in p (cl (A 1 4))) (hq : Q (A 1 (305 + 7 * cl p + 5)) w z) : F_L_caseTicket x p w z 10 100 Q := ⟨h.is0, 10, 100, Nat.le_refl _, Nat.le_refl _, X_caseTicket h (Nat.le_refl _) (Nat.le_refl _) (fun _ => hq) (fun hn => absurd hp hn)⟩
theorem W_isRiding {p : Int32} (h : CS w x Fz g A) (hp : vp_in p (cl (A 1 2))) (hq : Q (ridesF (A 1) p) w z) : F_L_isRiding x p w z 10 100 Q := ⟨h.is0, 10, 100, Nat.le_refl _, Nat.le_refl _, X_isRiding h (Nat.le_refl _) (Nat.le_refl _) (fun _ => b01 ridesF_01 hq) (fun hn => absurd hp hn)⟩
theorem W_isInTime {p : Int32} (h : CS w x Fz g A) (hp : vp_in p (cl (A 1 3))) (hq : Q (inTimeF (A 1) p) w z) : F_L_isInTime x p w z 10 100 Q := ⟨h.is0, 10, 100, Nat.le_refl _, Nat.le_refl _, X_isInTime h (Nat.le_refl _) (Nat.le_refl _) (fun _ => b01 inTimeF_01 hq) (fun hn => absurd hp hn)⟩
theorem W_isOverdue {p : Int32} (h : CS w x Fz g A) (hp : vp_in p (cl (A 1 4))) (hq : Q (isLateF (A 1) p) w z) : F_L_isOverdue x p w z 10 100 Q := ⟨h.is0, 10, 100, Nat.le_refl _, Nat.le_refl _, X_isOverdue h (Nat.le_refl _) (Nat.le_refl _) (fun _ => b01 isLateF_01 hq) (fun hn => absurd hp hn)⟩
theorem W_zonesBetween {a c : Int32} (h : CS w x Fz g A) (ha : vp_in a (cl (A 1 1))) (hc : vp_in c (cl (A 1 1))) (hq : Q (zonesF (A 1) a c) w z) : F_L_zonesBetween x a c w z 10 100 Q := ⟨h.is0, 10, 100, Nat.le_refl _, Nat.le_refl _, X_zonesBetween h (Nat.le_refl _) (Nat.le_refl _) (fun _ _ => hq) (fun hn => absurd ⟨ha, hc⟩ hn)⟩
theorem W_outlook {a c : Int32} (h : CS w x Fz g A) (ha : vp_in a (cl (A 1 4))) (hc : vp_in c (cl (A 1 3))) (hq : Q (judgedF (A 1) a c) w z) : F_L_outlook x a c w z 10 100 Q := ⟨h.is0, 10, 100, Nat.le_refl _, Nat.le_refl _, X_outlook h (Nat.le_refl _) (Nat.le_refl _) (fun _ _ => hq) (fun hn => absurd ⟨ha, hc⟩ hn)⟩
/-- what was thrown, of the three, and what the law makes of it -/
theorem t17 {P : Prop} (hq : P) : ("java/lang/IndexOutOfBoundsException" = "java/lang/IndexOutOfBoundsException" → P) ∧ (¬ "java/lang/IndexOutOfBoundsException" = "java/lang/IndexOutOfBoundsException" → False) := ⟨fun _ => hq, fun h => h rfl⟩
theorem t17' {P R : Prop} (hq : P) : ("java/lang/IndexOutOfBoundsException" = "java/lang/IndexOutOfBoundsException" → P) ∧ (¬ "java/lang/IndexOutOfBoundsException" = "java/lang/IndexOutOfBoundsException" → R) := ⟨fun _ => hq, fun h => absurd rfl h⟩
theorem t19 {P R : Prop} (hq : P) : ("java/lang/IllegalStateException" = "java/lang/IndexOutOfBoundsException" → R) ∧ (¬ "java/lang/IllegalStateException" = "java/lang/IndexOutOfBoundsException" → ("java/lang/IllegalStateException" = "java/lang/IllegalStateException" → P) ∧ (¬ "java/lang/IllegalStateException" = "java/lang/IllegalStateException" → False)) := ⟨fun h => absurd h (by decide), fun _ => ⟨fun _ => hq, fun h => h rfl⟩⟩
theorem t189 {P R S : Prop} (hq : P) : ("java/lang/IllegalStateException" = "java/lang/IndexOutOfBoundsException" → R) ∧ (¬ "java/lang/IllegalStateException" = "java/lang/IndexOutOfBoundsException" → ("java/lang/IllegalStateException" = "java/lang/IllegalArgumentException" → S) ∧ (¬ "java/lang/IllegalStateException" = "java/lang/IllegalArgumentException" → ("java/lang/IllegalStateException" = "java/lang/IllegalStateException" → P) ∧ (¬ "java/lang/IllegalStateException" = "java/lang/IllegalStateException" → False))) := ⟨fun h => absurd h (by decide), fun _ => ⟨fun h => absurd h (by decide), fun _ => ⟨fun _ => hq, fun h => h rfl⟩⟩⟩
theorem t18 {P R S : Prop} (hq : P) : ("java/lang/IllegalArgumentException" = "java/lang/IndexOutOfBoundsException" → R) ∧ (¬ "java/lang/IllegalArgumentException" = "java/lang/IndexOutOfBoundsException" → ("java/lang/IllegalArgumentException" = "java/lang/IllegalArgumentException" → P) ∧ (¬ "java/lang/IllegalArgumentException" = "java/lang/IllegalArgumentException" → S)) := ⟨fun h => absurd h (by decide), fun _ => ⟨fun _ => hq, fun h => absurd rfl h⟩⟩
theorem t9w {P S : Prop} (hq : P) : ("java/lang/IllegalStateException" = "java/lang/IllegalArgumentException" → S) ∧ (¬ "java/lang/IllegalStateException" = "java/lang/IllegalArgumentException" → ("java/lang/IllegalStateException" = "java/lang/IllegalStateException" → P) ∧ (¬ "java/lang/IllegalStateException" = "java/lang/IllegalStateException" → False)) := ⟨fun h => absurd h (by decide), fun _ => ⟨fun _ => hq, fun h => h rfl⟩⟩
theorem t9u {P : Prop} (hq : P) : ("java/lang/IllegalStateException" = "java/lang/IllegalStateException" → P) ∧ (¬ "java/lang/IllegalStateException" = "java/lang/IllegalStateException" → False) := ⟨fun _ => hq, fun h => h rfl⟩
def AW (b : Nat) (c0 : Bool × Ce) (d x : Nat) (Fz : Nat → Prop) (g : Nat → Int32) (A : Nat → Nat → Int32) (k : Nat) (w : Mm) : Prop :=
  CS w x Fz g A ∧ FzO x Fz ∧ (∃ fd, w d = some (true, .inr (0, 1, .inl fd))) ∧ (d < x ∧ ¬ Fz d ∧ b ≠ d) ∧ (w b = some c0 ∧ b < x) ∧ Sd k (A 1)
theorem AW.cs (h : AW b c0 d x Fz g A k w) : CS w x Fz g A := h.1
theorem AW.sd (h : AW b c0 d x Fz g A k w) : Sd k (A 1) := h.2.2.2.2.2
theorem AW.chg {k' : Nat} (h : AW b c0 d x Fz g A k w) (hC : CS w' x Fz g' A') (hF : FrS x w w') (hS : Sd k' (A' 1)) : AW b c0 d x Fz g' A' k' w' := by
  obtain ⟨-, h2, ⟨fd, h3⟩, h4, h5, -⟩ := h
  exact ⟨hC, h2, ⟨fd, by rw [hF _ (by omega)]; exact h3⟩, h4, ⟨by rw [hF _ (by omega)]; exact h5.1, h5.2⟩, hS⟩
theorem AW.le {k' : Nat} (h : AW b c0 d x Fz g A k w) (hk : k ≤ k') : AW b c0 d x Fz g A k' w := ⟨h.1, h.2.1, h.2.2.1, h.2.2.2.1, h.2.2.2.2.1, h.2.2.2.2.2.le hk⟩
theorem ushr_nn (v : Int32) : 0 ≤ ((v.toUInt32 >>> ((8 : Int32).toUInt32 &&& Int32.toUInt32 31)).toInt32).toInt := by
  have h := pk_ushr v 8 8 (by decide)
  generalize ((v.toUInt32 >>> ((8 : Int32).toUInt32 &&& Int32.toUInt32 31)).toInt32) = y at h
  have h2 : v.toBitVec.toNat < 2 ^ 32 := v.toBitVec.isLt
  have h3 : y.toInt = y.toBitVec.toInt := rfl
  rw [h3, BitVec.toInt_eq_toNat_cond]
  omega
theorem rem_rng {a n : Int32} (ha : 0 ≤ a.toInt) (hn : 0 < n.toInt) : 0 ≤ (a - a / n * n).toInt ∧ (a - a / n * n).toInt < n.toInt := by
  have h1 := ihi a
  have e1 : (a / n).toInt = a.toInt.tdiv n.toInt := Int32.toInt_div_of_ne_right _ _ (fun hh => by
    rw [hh, i_m1] at hn
    omega)
  have e2 : a.toInt.tdiv n.toInt = a.toInt / n.toInt := Int.tdiv_eq_ediv_of_nonneg ha
  have e3 : n.toInt * (a.toInt / n.toInt) + a.toInt % n.toInt = a.toInt := Int.mul_ediv_add_emod _ _
  have e4 := Int.emod_nonneg a.toInt (by omega : n.toInt ≠ 0)
  have e5 := Int.emod_lt_of_pos a.toInt hn
  have e7 : 0 ≤ n.toInt * (a.toInt / n.toInt) := Int.mul_nonneg (by omega) (Int.ediv_nonneg ha (by omega))
  have e6 : (a / n * n).toInt = a.toInt - a.toInt % n.toInt := by
    rw [im _ _ (by rw [e1, e2, Int.mul_comm]; omega) (by rw [e1, e2, Int.mul_comm]; omega), e1, e2, Int.mul_comm]
    omega
  rw [isb _ _ (by omega) (by omega), e6]
  omega
/-- the next number of the row that the law draws from -/
theorem AW.draw {n : Int32} (h : AW b c0 d x Fz g A k w) (hn : 0 < n.toInt) (hq : ∀ r w', 0 ≤ r.toInt → r.toInt < n.toInt → AW b c0 d x Fz g A k w' → Q r w' z) : F_L_draw d n w z Q := by
  obtain ⟨hC, hz, ⟨fd, hd⟩, ⟨h1, h2, h3⟩, ⟨h4, h5⟩, hS⟩ := h
  have v1 : vp_in (0 : Int32) 1 := in_nI (k := 0) (by decide) (by decide)
  refine ⟨1, fd, arI_c hd, v1, 1, fd, arW_c hd, v1, ?_⟩
  rintro _ rfl
  refine ⟨1, _, arI_c (mset_eq _ _ _), v1, fun e => ?_, hq _ _ (rem_rng (ushr_nn _) hn).1 (rem_rng (ushr_nn _) hn).2 ⟨hC.to (fun q hq9 => mset_ne (fun e => ?_)), hz, ⟨_, mset_eq _ _ _⟩, ⟨h1, h2, h3⟩, ⟨by rw [mset_ne h3]; exact h4, h5⟩, hS⟩⟩
  · rw [e, i_0] at hn
    omega
  · subst e
    rcases hq9 with hq9 | hq9 | hq9
    · omega
    · omega
    · exact h2 hq9
/-- any world, drawn from: only the state's cell changes -/
theorem draw0 {n : Int32} {fd : Nat → Int32} (hd : w d = some (true, .inr (0, 1, .inl fd))) (hn : 0 < n.toInt) (hq : ∀ r w' fd', 0 ≤ r.toInt → r.toInt < n.toInt → w' d = some (true, .inr (0, 1, .inl fd')) → (∀ q, q ≠ d → w' q = w q) → Q r w' z) : F_L_draw d n w z Q := by
  have v1 : vp_in (0 : Int32) 1 := in_nI (k := 0) (by decide) (by decide)
  refine ⟨1, fd, arI_c hd, v1, 1, fd, arW_c hd, v1, ?_⟩
  rintro _ rfl
  refine ⟨1, _, arI_c (mset_eq _ _ _), v1, fun e => ?_, hq _ _ _ (rem_rng (ushr_nn _) hn).1 (rem_rng (ushr_nn _) hn).2 (mset_eq _ _ _) (fun q hq => mset_ne hq)⟩
  rw [e, i_0] at hn
  omega
end
