section
variable {w : Mm} {m s z : Nat} {f : Nat → Int32} {Q : Int32 → Mm → Nat → Prop} {R : Mm → Nat → Prop}
theorem r_inspects {p : Int32} (h : Ok w m s) (hp : vp_in p 8) (ha : ¬ f (21 + 13 * cl p + 3) = -1 → vp_in (f (21 + 13 * cl p + 1)) 12) (hb : ¬ f (21 + 13 * cl p + 3) = -1 → vp_in (f (21 + 13 * cl p + 2)) 12) (hk : ¬ f (21 + 13 * cl p + 3) = -1 → ¬ f (21 + 13 * cl p + 4) = -1 → vp_in (f (21 + 13 * cl p + 4)) 30) (hc : vp_in (f 4) 20) (hq : Q (faultF f p) (mw w s (inspectF f p)) z) : F_X6_inspects m p (mw w s f) z Q := by
  have p1 := clI hp
  have c1 := clI hc
  unfold F_X6_inspects
  simp only [cl0, cl4, cl7]
  refine ⟨h.is _, r_fault h hp ha hb hk ⟨_, h.fl _, _, _, mw_r _ _ _, vl7, _, _, mw_w _ _ _, vl7, ?_⟩⟩
  rintro _ rfl
  rw [mw_set]
  refine ⟨h.is _, r_putP5 h hp ⟨fun hr => ⟨_, h.fl _, _, _, mw_r _ _ _, vl4, ?_⟩, fun hr => ?_⟩⟩
  · rintro _ rfl
    have e4 : upd (upd f 7 (f 7 + 1)) (21 + 13 * cl p + 5) 1 4 = f 4 := by rw [upd_ne (by omega), upd_ne (by omega)]
    have hc' : vp_in (upd (upd f 7 (f 7 + 1)) (21 + 13 * cl p + 5) 1 4) 20 := by
      rw [e4]
      exact hc
    have he : ¬ f (21 + 13 * cl p + 3) = -1 := fun he => hr (by
      unfold faultF
      simp only [he, if_true])
    refine ⟨h.is _, r_putC0 h hc' ⟨h.is _, r_putC1 h hc' ⟨h.is _, r_putC2 h hc' ⟨_, h.fl _, _, _, mw_r _ _ _, vl0, h.is _, r_putC3 h hc' ⟨h.is _, r_putC4 h hc' ⟨h.is _, r_putC5 h hc' ⟨h.is _, r_rideZones h hp ?_ ?_ ⟨h.is _, r_putC6 h hc' ⟨_, h.fl _, _, _, mw_r _ _ _, vl4, _, _, mw_w _ _ _, vl4, ?_⟩⟩⟩⟩⟩⟩⟩⟩⟩
    · simp (disch := omega) only [upd_ne]
      exact ha he
    · simp (disch := omega) only [upd_ne]
      exact hb he
    · rintro _ rfl
      rw [mw_set]
      unfold inspectF at hq
      simp only [if_neg hr] at hq
      exact hq
  · rw [inspectF_0 hr, hr] at hq
    exact hq
theorem r_appeals {c t : Int32} (h : Ok w m s) (hc : vp_in c 20) (h4 : vp_in (f 4) 21) (hq : Q (cntA (appealF f c t) (cl (f 4)) 0 0) (mw w s (appealF f c t)) z) : F_X6_appeals m c t (mw w s f) z Q := by
  have e4 : appealF f c t 4 = f 4 := appealF_out (by omega)
  have c4 := clI h4
  unfold F_X6_appeals
  refine ⟨h.is _, r_putC2 h hc ⟨h.is _, r_putC5 h hc ⟨cl (f 4) + 1, r_appeals_19 h (by
    show vp_in (appealF f c t 4) 21
    rw [e4]
    exact h4) _ _ _ ?_ (by rw [i_0]; omega) hq⟩⟩⟩
  show (appealF f c t 4).toInt = _
  rw [e4, i_0]
  omega
end
section
variable {w : Mm} {m z : Nat} {g : Nat → Int32} {A : Nat → Nat → Int32} {Q : Int32 → Mm → Nat → Prop} {R : Mm → Nat → Prop} {T : Mm → Prop}
theorem L_inspects {p : Int32} (hp : vp_in p 8) (ha : ¬ A 1 (21 + 13 * cl p + 3) = -1 → vp_in (A 1 (21 + 13 * cl p + 1)) 12) (hb : ¬ A 1 (21 + 13 * cl p + 3) = -1 → vp_in (A 1 (21 + 13 * cl p + 2)) 12) (hk : ¬ A 1 (21 + 13 * cl p + 3) = -1 → ¬ A 1 (21 + 13 * cl p + 4) = -1 → vp_in (A 1 (21 + 13 * cl p + 4)) 30) (hc : vp_in (A 1 4) 20) (hq : Q (faultF (A 1) p) (rwd w m g (updA A 1 (inspectF (A 1) p))) z) : F_X6_inspects m p (rwd w m g A) z Q := by
  have h : F_X6_inspects m p (mw (rwd w m g A) (m + 1) (A 1)) z Q := r_inspects rwd_ok hp ha hb hk hc (by
    rw [rwd_s]
    exact hq)
  rwa [rwd_self] at h
theorem L_appeals {c t : Int32} (hc : vp_in c 20) (h4 : vp_in (A 1 4) 21) (hq : Q (cntA (appealF (A 1) c t) (cl (A 1 4)) 0 0) (rwd w m g (updA A 1 (appealF (A 1) c t))) z) : F_X6_appeals m c t (rwd w m g A) z Q := by
  have h : F_X6_appeals m c t (mw (rwd w m g A) (m + 1) (A 1)) z Q := r_appeals rwd_ok hc h4 (by
    rw [rwd_s]
    exact hq)
  rwa [rwd_self] at h
theorem R_inspect {p : Int32} (hI : Inv (A 1)) (h9 : vp_in (g 5) 9)
    (hok : vp_in p (cl (A 1 2)) → ¬ mayInspectF (A 1) p = 0 → Q (faultF (A 1) p) (rwd w m (remG (upd g 6 0)) (updA (remA (upd g 6 0) A (A 1)) 1 (inspectF (A 1) p))) z)
    (h1 : ¬ vp_in p (cl (A 1 2)) → Q 0 (rwd w m (upd g 6 1) A) z)
    (h2 : vp_in p (cl (A 1 2)) → mayInspectF (A 1) p = 0 → Q 0 (rwd w m (upd g 6 2) A) z) : F_X6_inspect m p (rwd w m g A) z Q := by
  have hB1 := clI hI.2.1.1
  have hB2 := clI hI.2.1.2.1
  have hB3 := clI hI.2.1.2.2.1
  refine ⟨R_i, R_noPassenger hI.2.1.2.1 (fun hp => ⟨fun h => absurd rfl h, fun _ => ⟨R_i, L_mayInspect (vp_le hp (by omega)) ⟨fun hb => ⟨R_i, R_fails0 ⟨fun _ => ⟨_, R_r0, R_i, R_rem1 (by rw [upd_ne (by omega)]; exact h9) ⟨R_i, ?_⟩⟩, fun h => absurd rfl h⟩⟩, fun hb => ⟨R_i, R_fails2 ⟨fun h => absurd h (by decide), fun _ => h2 hp hb⟩⟩⟩⟩⟩) (fun hp => ⟨fun _ => ⟨R_i, R_fails1 ⟨fun h => absurd h (by decide), fun _ => h1 hp⟩⟩, fun h => absurd h (by decide)⟩)⟩
  have hR := hI.rd.2 (cl p) (clI hp).2
  have hc : vp_in (A 1 4) 20 := by
    have hB3 := vp_in_iff.mp hI.2.1.2.2.2
    have i30 : (20 : Int32).toInt = 20 := by decide
    have : ¬ 20 ≤ A 1 4 := fun h => hb (by
      unfold mayInspectF
      rw [if_pos h]
      split
      · rfl
      · split <;> rfl)
    have : ¬ (20 : Int32).toInt ≤ (A 1 4).toInt := fun h => this (ile.mpr h)
    exact vp_in_iff.mpr (by omega)
  refine L_inspects (vp_le hp (by omega)) ?_ ?_ ?_ ?_ ?_
  · rw [remA_1]
    exact fun he => vp_le (hR he).1 (by omega)
  · rw [remA_1]
    exact fun he => vp_le (hR he).2.1 (by omega)
  · rw [remA_1]
    exact fun he hk => vp_le ((hR he).2.2 hk) (by omega)
  · rw [remA_1]
    exact hc
  · rw [remA_1]
    exact hok hp hb
theorem R_decide {c : Int32} (hI : Inv (A 1)) (h9 : vp_in (g 5) 9)
    (hok : vp_in c (cl (A 1 4)) → A 1 (305 + 7 * cl c + 2) = 1 → Q (judgedF (A 1) c (A 1 (305 + 7 * cl c + 5))) (rwd w m (remG (upd g 6 0)) (updA (remA (upd g 6 0) A (A 1)) 1 (decideF (A 1) c))) z)
    (h1 : ¬ vp_in c (cl (A 1 4)) → Q 0 (rwd w m (upd g 6 1) A) z)
    (h2 : vp_in c (cl (A 1 4)) → ¬ A 1 (305 + 7 * cl c + 2) = 1 → Q 0 (rwd w m (upd g 6 2) A) z) : F_X6_decide m c (rwd w m g A) z Q := by
  have hB3 := clI hI.2.1.2.2.1
  have hB4 := clI hI.2.1.2.2.2
  refine ⟨R_i, R_noCase hI.2.1.2.2.2 (fun hp => ⟨fun h => absurd rfl h, fun _ => ⟨R_i, L_ofC2 (vp_le hp (by omega)) ⟨fun hb => ⟨R_i, R_fails0 ⟨fun _ => ⟨_, R_r0, R_i, R_rem1 (by rw [upd_ne (by omega)]; exact h9) ⟨R_i, ?_⟩⟩, fun h => absurd rfl h⟩⟩, fun hb => ⟨R_i, R_fails2 ⟨fun h => absurd h (by decide), fun _ => h2 hp hb⟩⟩⟩⟩⟩) (fun hp => ⟨fun _ => ⟨R_i, R_fails1 ⟨fun h => absurd h (by decide), fun _ => h1 hp⟩⟩, fun h => absurd h (by decide)⟩)⟩
  have ht := (hI.2.2.2.2.2.1 _ (clI hp).2).2.2.1 hb
  refine L_decides (vp_le hp (by omega)) ?_ ?_
  · rw [remA_1]
    exact vp_le ht (by omega)
  · rw [remA_1]
    exact hok hp hb
theorem R_pay {c : Int32} (hI : Inv (A 1)) (h9 : vp_in (g 5) 9)
    (hok : vp_in c (cl (A 1 4)) → ¬ mayPayF (A 1) c = 0 → Q (dueF (A 1) c) (rwd w m (remG (upd g 6 0)) (updA (remA (upd g 6 0) A (A 1)) 1 (payF (A 1) c))) z)
    (h1 : ¬ vp_in c (cl (A 1 4)) → Q 0 (rwd w m (upd g 6 1) A) z)
    (h2 : vp_in c (cl (A 1 4)) → mayPayF (A 1) c = 0 → Q 0 (rwd w m (upd g 6 2) A) z) : F_X6_pay m c (rwd w m g A) z Q := by
  have hB2 := clI hI.2.1.2.1
  have hB4 := clI hI.2.1.2.2.2
  refine ⟨R_i, R_noCase hI.2.1.2.2.2 (fun hp => ⟨fun h => absurd rfl h, fun _ => ⟨R_i, ?_⟩⟩) (fun hp => ⟨fun _ => ⟨R_i, R_fails1 ⟨fun h => absurd h (by decide), fun _ => h1 hp⟩⟩, fun h => absurd h (by decide)⟩)⟩
  have hw := vp_le (m := 8) (hI.2.2.2.2.2.1 _ (clI hp).2).1 (by omega)
  refine L_mayPay (vp_le hp (by omega)) hw ⟨fun hb => ⟨R_i, R_fails0 ⟨fun _ => ⟨_, R_r0, R_i, R_rem1 (by rw [upd_ne (by omega)]; exact h9) ⟨R_i, L_pays (vp_le hp (by omega)) ?_ ?_⟩⟩, fun h => absurd rfl h⟩⟩, fun hb => ⟨R_i, R_fails2 ⟨fun h => absurd h (by decide), fun _ => h2 hp hb⟩⟩⟩
  · rw [remA_1]
    exact hw
  · rw [remA_1]
    exact hok hp hb
theorem R_appeal {c t : Int32} (hI : Inv (A 1)) (h9 : vp_in (g 5) 9)
    (hok : vp_in c (cl (A 1 4)) → vp_in t (cl (A 1 3)) → ¬ mayAppealF (A 1) c = 0 → Q (cntA (appealF (A 1) c t) (cl (A 1 4)) 0 0) (rwd w m (remG (upd g 6 0)) (updA (remA (upd g 6 0) A (A 1)) 1 (appealF (A 1) c t))) z)
    (h1 : ¬ (vp_in c (cl (A 1 4)) ∧ vp_in t (cl (A 1 3))) → Q 0 (rwd w m (upd g 6 1) A) z)
    (h2 : vp_in c (cl (A 1 4)) → vp_in t (cl (A 1 3)) → mayAppealF (A 1) c = 0 → Q 0 (rwd w m (upd g 6 2) A) z) : F_X6_appeal m c t (rwd w m g A) z Q := by
  have hB4 := clI hI.2.1.2.2.2
  have k21 : ¬ (vp_in c (cl (A 1 4)) ∧ vp_in t (cl (A 1 3))) → B_X6_appeal_21 m c t Q 1 (rwd w m g A) z := fun hn => ⟨fun _ => ⟨R_i, R_fails1 ⟨fun h => absurd h (by decide), fun _ => h1 hn⟩⟩, fun h => absurd h (by decide)⟩
  refine ⟨R_i, R_noCase hI.2.1.2.2.2 (fun hp => ⟨fun h => absurd rfl h, fun _ => ⟨R_i, R_noTicket hI.2.1.2.2.1 (fun ht => ⟨fun _ => ⟨fun h => absurd rfl h, fun _ => ⟨R_i, L_mayAppeal (vp_le hp (by omega)) ⟨fun hb => ⟨R_i, R_fails0 ⟨fun _ => ⟨_, R_r0, R_i, R_rem1 (by rw [upd_ne (by omega)]; exact h9) ⟨R_i, L_appeals (vp_le hp (by omega)) ?_ ?_⟩⟩, fun h => absurd rfl h⟩⟩, fun hb => ⟨R_i, R_fails2 ⟨fun h => absurd h (by decide), fun _ => h2 hp ht hb⟩⟩⟩⟩⟩, fun h => absurd rfl h⟩) (fun ht => ⟨fun h => absurd h (by decide), fun _ => k21 (fun h => ht h.2)⟩)⟩⟩) (fun hp => ⟨fun _ => k21 (fun h => hp h.1), fun h => absurd h (by decide)⟩)⟩
  · rw [remA_1]
    exact hI.2.1.2.2.2
  · rw [remA_1]
    exact hok hp ht hb
theorem R_wait {n : Int32} (hI : Inv (A 1)) (h9 : vp_in (g 5) 9)
    (hok : 1 ≤ n.toInt → n.toInt ≤ 9999 → (A 1 0).toInt + n.toInt ≤ 99999 → Q (A 1 0 + n) (rwd w m (remG (upd g 6 0)) (updA (remA (upd g 6 0) A (A 1)) 1 (waitF (A 1) n))) z)
    (h1 : ¬ (1 ≤ n.toInt ∧ n.toInt ≤ 9999) → Q 0 (rwd w m (upd g 6 1) A) z)
    (h2 : 1 ≤ n.toInt → n.toInt ≤ 9999 → ¬ (A 1 0).toInt + n.toInt ≤ 99999 → Q 0 (rwd w m (upd g 6 2) A) z) : F_X6_waitFor m n (rwd w m g A) z Q := by
  have i9 : (9999 : Int32).toInt = 9999 := by decide
  have i99 : (99999 : Int32).toInt = 99999 := by decide
  have hc := hI.1
  refine R_isIn (fun a b => ⟨fun _ => ⟨fun h => absurd rfl h, fun _ => ⟨_, R_r0, _, _, R_a1, vl0, fun hb => ⟨R_i, R_fails0 ⟨fun _ => ⟨_, R_r0, R_i, R_rem1 (by rw [upd_ne (by omega)]; exact h9) ⟨R_i, L_waits ?_⟩⟩, fun h => absurd rfl h⟩⟩, fun hb => ⟨R_i, R_fails2 ⟨fun h => absurd h (by decide), fun _ => ?_⟩⟩⟩⟩, fun h => absurd h (by decide)⟩) (fun a => ⟨fun h => absurd rfl h, fun _ => ⟨fun _ => ⟨R_i, R_fails1 ⟨fun h => absurd h (by decide), fun _ => h1 ?_⟩⟩, fun h => absurd h (by decide)⟩⟩)
  · rw [i_1] at a
    rw [i9] at b
    have c := ile.mp hb
    rw [show (0 : Int32).toNatClampNeg = 0 from cl0, i99, ia _ _ (by omega) (by omega)] at c
    rw [remA_1]
    exact hok (by omega) (by omega) c
  · rw [i_1] at a
    rw [i9] at b
    refine h2 (by omega) (by omega) (fun c => hb (ile.mpr ?_))
    rw [show (0 : Int32).toNatClampNeg = 0 from cl0, i99, ia _ _ (by omega) (by omega)]
    exact c
  · rw [i_1, i9] at a
    exact a
theorem R_ride {p a c t : Int32} (hI : Inv (A 1)) (h9 : vp_in (g 5) 9)
    (hok : vp_in p (cl (A 1 2)) → vp_in a (cl (A 1 1)) → vp_in c (cl (A 1 1)) → (¬ t = -1 → vp_in t (cl (A 1 3))) → ¬ a = c → ¬ mayRideF (A 1) p t = 0 → Q (beginF (A 1) p a c t (21 + 13 * cl p + 3)) (rwd w m (remG (upd g 6 0)) (updA (remA (upd g 6 0) A (A 1)) 1 (beginF (A 1) p a c t))) z)
    (h1 : ¬ (vp_in p (cl (A 1 2)) ∧ vp_in a (cl (A 1 1)) ∧ vp_in c (cl (A 1 1)) ∧ (¬ t = -1 → vp_in t (cl (A 1 3)))) → Q 0 (rwd w m (upd g 6 1) A) z)
    (h2 : vp_in p (cl (A 1 2)) → vp_in a (cl (A 1 1)) → vp_in c (cl (A 1 1)) → (¬ t = -1 → vp_in t (cl (A 1 3))) → a = c → Q 0 (rwd w m (upd g 6 2) A) z)
    (h3 : vp_in p (cl (A 1 2)) → vp_in a (cl (A 1 1)) → vp_in c (cl (A 1 1)) → (¬ t = -1 → vp_in t (cl (A 1 3))) → ¬ a = c → mayRideF (A 1) p t = 0 → Q 0 (rwd w m (upd g 6 3) A) z) : F_X6_ride m p a c t (rwd w m g A) z Q := by
  have hB2 := clI hI.2.1.2.1
  have hB3 := clI hI.2.1.2.2.1
  have k39 : ¬ (vp_in p (cl (A 1 2)) ∧ vp_in a (cl (A 1 1)) ∧ vp_in c (cl (A 1 1)) ∧ (¬ t = -1 → vp_in t (cl (A 1 3)))) → B_X6_ride_39 m p a c t Q (rwd w m g A) z := fun hn =>
    ⟨fun _ => ⟨fun _ => ⟨R_i, R_fails1 ⟨fun h => absurd h (by decide), fun _ => h1 hn⟩⟩, fun h => absurd h (by decide)⟩, fun _ => ⟨fun _ => ⟨R_i, R_fails1 ⟨fun h => absurd h (by decide), fun _ => h1 hn⟩⟩, fun h => absurd h (by decide)⟩⟩
  have k43 : vp_in p (cl (A 1 2)) → vp_in a (cl (A 1 1)) → vp_in c (cl (A 1 1)) → (¬ t = -1 → vp_in t (cl (A 1 3))) → B_X6_ride_43 m p a c t Q (rwd w m g A) z := by
    intro hp ha hc ht
    have ht' : ¬ t = -1 → vp_in t 30 := fun h => vp_le (ht h) (by omega)
    refine ⟨fun hac => ⟨fun h => absurd rfl h, fun _ => ⟨R_i, L_mayRide (vp_le hp (by omega)) ht' ⟨fun hb => ⟨R_i, R_fails0 ⟨fun _ => ⟨_, R_r0, R_i, R_rem1 (by rw [upd_ne (by omega)]; exact h9) ⟨R_i, L_begins (vp_le hp (by omega)) ht' ?_⟩⟩, fun h => absurd rfl h⟩⟩, fun hb => ⟨R_i, R_fails3 ⟨fun h => absurd h (by decide), fun _ => h3 hp ha hc ht hac hb⟩⟩⟩⟩⟩, fun hac => ⟨fun h => absurd rfl h, fun _ => ⟨R_i, L_mayRide (vp_le hp (by omega)) ht' ⟨fun hb => ⟨R_i, R_fails2 ⟨fun h => absurd h (by decide), fun _ => h2 hp ha hc ht hac⟩⟩, fun hb => ⟨R_i, R_fails2 ⟨fun h => absurd h (by decide), fun _ => h2 hp ha hc ht hac⟩⟩⟩⟩⟩⟩
    rw [remA_1]
    exact hok hp ha hc ht hac hb
  refine ⟨R_i, R_noPassenger hI.2.1.2.1 (fun hp => ⟨fun h => absurd rfl h, fun _ => ⟨R_i, R_noStop hI.2.1.1 (fun ha => ⟨fun h => absurd rfl h, fun _ => ⟨R_i, R_noStop hI.2.1.1 (fun hc => ⟨fun h => absurd rfl h, fun _ => ⟨fun ht => k43 hp ha hc (fun e => absurd ht e), fun ht => ⟨R_i, R_noTicket hI.2.1.2.2.1 (fun hv => ⟨fun _ => k43 hp ha hc (fun _ => hv), fun h => absurd rfl h⟩) (fun hv => ⟨fun h => absurd h (by decide), fun _ => k39 (fun hh => hv (hh.2.2.2 ht))⟩)⟩⟩⟩) (fun hc => ⟨fun _ => k39 (fun hh => hc hh.2.2.1), fun h => absurd h (by decide)⟩)⟩⟩) (fun ha => ⟨fun _ => k39 (fun hh => ha hh.2.1), fun h => absurd h (by decide)⟩)⟩⟩) (fun hp => ⟨fun _ => k39 (fun hh => hp hh.1), fun h => absurd h (by decide)⟩)⟩
end
