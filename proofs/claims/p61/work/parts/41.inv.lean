section
variable {f f' : Nat → Int32}
theorem jabs_I {x : Int32} (h : -1000 ≤ x.toInt) (h2 : x.toInt ≤ 1000) : ((jabs x).toInt = x.toInt ∨ (jabs x).toInt = -x.toInt) ∧ 0 ≤ (jabs x).toInt := by
  unfold jabs
  by_cases hx : 0 ≤ x
  · rw [if_pos hx]
    have := ile.mp hx
    rw [i_0] at this
    omega
  · rw [if_neg hx]
    have : ¬ (0 : Int32).toInt ≤ x.toInt := fun h => hx (ile.mpr h)
    rw [i_0] at this
    rw [isb _ _ (by rw [i_0]; omega) (by rw [i_0]; omega), i_0]
    omega
/-- where a ride ends -/
theorem ride_end {a c : Int32} {n : Nat} (hcl : 0 ≤ (f 0).toInt ∧ (f 0).toInt ≤ 99999) (hn : n ≤ 12) (ha : vp_in a n) (hc : vp_in c n) (hac : ¬ a = c) : (f 0).toInt + 2 ≤ (f 0 + 2 * jabs (c - a)).toInt ∧ (f 0 + 2 * jabs (c - a)).toInt ≤ 100100 := by
  have h1 := vp_in_iff.mp ha
  have h2 := vp_in_iff.mp hc
  have h3 : ¬ a.toInt = c.toInt := fun h => hac (ieq.mpr h)
  have e1 : (c - a).toInt = c.toInt - a.toInt := isb _ _ (by omega) (by omega)
  have h4 := jabs_I (x := c - a) (by omega) (by omega)
  have i2 : (2 : Int32).toInt = 2 := by decide
  have e2 : (2 * jabs (c - a)).toInt = 2 * (jabs (c - a)).toInt := by
    rw [im _ _ (by rw [i2]; omega) (by rw [i2]; omega), i2]
  rw [ia _ _ (by omega) (by omega), e2]
  omega
theorem Inv.rideg {p a c t : Int32} (h : Inv f) (hp : vp_in p (cl (f 2))) (ha : vp_in a (cl (f 1))) (hc : vp_in c (cl (f 1))) (hac : ¬ a = c) (ht : t = -1 ∨ vp_in t (cl (f 3))) (hE : (f (21 + 13 * cl p + 3)).toInt ≤ (f 0).toInt) : Inv (rideG f p a c t) := by
  obtain ⟨hcl, hB, hz, hP, hT, hC, hs⟩ := h
  have hB1 := clI hB.1
  have hB2 := clI hB.2.1
  have hB3 := clI hB.2.2.1
  have hB4 := clI hB.2.2.2
  have p1 := clI hp
  have hr := ride_end hcl (by omega) ha hc hac
  have e : ∀ j, (j < 21 + 13 * cl p + 1 ∨ 21 + 13 * cl p + 6 ≤ j) → rideG f p a c t j = f j := fun j h1 => rideG_out h1
  have e3 : rideG f p a c t (21 + 13 * cl p + 3) = f 0 + 2 * jabs (c - a) := by
    unfold rideG
    simp (disch := omega) only [upd_ne, upd_eq]
  unfold Inv Bd
  rw [e 0 (by omega), e 1 (by omega), e 2 (by omega), e 3 (by omega), e 4 (by omega), e 5 (by omega)]
  refine ⟨hcl, hB, fun i hi => by rw [e _ (by omega)]; exact hz i hi, fun q hq => ?_, fun t ht => (hT t ht).to (fun k _ => e _ (by omega)) (Nat.le_refl _) (fun q hq => ?_), fun q hq => (hC q hq).to (fun k _ => e _ (by omega)) (Nat.le_refl _) (Nat.le_refl _), ?_⟩
  · by_cases hqp : q = cl p
    · obtain ⟨-, -, d, g⟩ := hP q hq
      have d' := clI d
      subst hqp
      unfold IP
      rw [e3, show rideG f p a c t (21 + 13 * cl p + 5) = 0 by simp (disch := omega) only [rideG, upd_ne, upd_eq], show rideG f p a c t (21 + 13 * cl p + 4) = t by simp (disch := omega) only [rideG, upd_ne, upd_eq], show rideG f p a c t (21 + 13 * cl p + 1) = a by simp (disch := omega) only [rideG, upd_ne, upd_eq], show rideG f p a c t (21 + 13 * cl p + 2) = c by simp (disch := omega) only [rideG, upd_ne, upd_eq], e _ (by omega : 21 + 13 * cl p + 6 < _ ∨ _)]
      exact ⟨Or.inr ⟨by omega, by omega, ha, hc, ht⟩, Or.inl rfl, d, fun k hk => by rw [e _ (by omega)]; exact g k hk⟩
    · exact (hP q hq).to (fun k _ => e _ (by omega)) (Nat.le_refl _) (Nat.le_refl _)
  · by_cases hqp : q = cl p
    · subst hqp
      rw [e3]
      omega
    · rw [e _ (by omega)]
      exact Int.le_refl _
  · rw [hs]
    exact (prR_ext _ _ _ (by rw [i_0]; omega) (by rw [i_0]; omega) (fun j h3 h4 _ => e _ (by omega))).symm
theorem beginF_t {p a c t : Int32} (hp : cl p < 8) (tm : ¬ t = -1) : beginF f p a c t = if f (125 + 6 * cl t + 3) = -1 then upd (upd (upd (rideG f p a c t) (125 + 6 * cl t + 5) (rideG f p a c t (125 + 6 * cl t + 5) + 1)) (125 + 6 * cl t + 3) (f 0)) (125 + 6 * cl t + 4) a else upd (rideG f p a c t) (125 + 6 * cl t + 5) (rideG f p a c t (125 + 6 * cl t + 5) + 1) := by
  show (if t = -1 then _ else if upd (rideG f p a c t) (125 + 6 * cl t + 5) (rideG f p a c t (125 + 6 * cl t + 5) + 1) (125 + 6 * cl t + 3) = -1 then upd (upd (upd (rideG f p a c t) (125 + 6 * cl t + 5) (rideG f p a c t (125 + 6 * cl t + 5) + 1)) (125 + 6 * cl t + 3) (upd (rideG f p a c t) (125 + 6 * cl t + 5) (rideG f p a c t (125 + 6 * cl t + 5) + 1) 0)) (125 + 6 * cl t + 4) a else upd (rideG f p a c t) (125 + 6 * cl t + 5) (rideG f p a c t (125 + 6 * cl t + 5) + 1)) = _
  rw [if_neg tm, upd_ne (by omega), upd_ne (by omega), rideG_out (j := 125 + 6 * cl t + 3) (by omega), rideG_out (j := 0) (by omega)]
theorem Inv.begin {p a c t : Int32} (h : Inv f) (hp : vp_in p (cl (f 2))) (ha : vp_in a (cl (f 1))) (hc : vp_in c (cl (f 1))) (hac : ¬ a = c) (ht : t = -1 ∨ (vp_in t (cl (f 3)) ∧ f (125 + 6 * cl t) = p)) (hE : (f (21 + 13 * cl p + 3)).toInt ≤ (f 0).toInt) : Inv (beginF f p a c t) := by
  have h0 := h.rideg hp ha hc hac (ht.imp id And.left) hE
  rcases ht with rfl | ⟨ht, hh⟩
  · exact h0
  · obtain ⟨hcl, hB, hz, hP, hT, hC, hs⟩ := h
    have hB1 := clI hB.1
    have hB2 := clI hB.2.1
    have hB3 := clI hB.2.2.1
    have hB4 := clI hB.2.2.2
    have p1 := clI hp
    have t1 := clI ht
    have tm := vp_m1 ht
    have hp1 : cl p < 8 := by omega
    have ht1 : cl t < 30 := by omega
    have hr := ride_end hcl (by omega) ha hc hac
    have e : ∀ j, (j < 21 + 13 * cl p + 1 ∨ 21 + 13 * cl p + 6 ≤ j) → rideG f p a c t j = f j := fun j h1 => rideG_out h1
    have e3 : rideG f p a c t (21 + 13 * cl p + 3) = f 0 + 2 * jabs (c - a) := by
      unfold rideG
      simp (disch := omega) only [upd_ne, upd_eq]
    obtain ⟨a1, a2, a3⟩ := hT (cl t) t1.2
    have e1 : (f (125 + 6 * cl t + 5) + 1).toInt = (f (125 + 6 * cl t + 5)).toInt + 1 ∧ 0 ≤ (f (125 + 6 * cl t + 5)).toInt ∧ 2 * (f (125 + 6 * cl t + 5)).toInt ≤ (f 0).toInt := by
      rw [hh] at a3
      have : 0 ≤ (f (125 + 6 * cl t + 5)).toInt ∧ 2 * (f (125 + 6 * cl t + 5)).toInt ≤ (f 0).toInt := by
        rcases a3 with a3 | a3
        · rw [a3.2, i_0]
          omega
        · omega
      exact ⟨by rw [ia _ _ (by rw [i_1]; omega) (by rw [i_1]; omega), i_1], this⟩
    have key : ∀ f' : Nat → Int32, (∀ j, (j < 125 + 6 * cl t + 3 ∨ 125 + 6 * cl t + 6 ≤ j) → f' j = rideG f p a c t j) → f' (125 + 6 * cl t + 5) = f (125 + 6 * cl t + 5) + 1 → 0 ≤ (f' (125 + 6 * cl t + 3)).toInt → Inv f' := by
      intro f' o5 g5 g3
      obtain ⟨hcl', hB', hz', hP', hT', hC', hs'⟩ := h0
      rw [e 2 (by omega)] at hP'
      rw [e 3 (by omega), e 2 (by omega)] at hT'
      rw [e 4 (by omega)] at hC'
      rw [e 1 (by omega)] at hz'
      rw [e 3 (by omega)] at hs'
      unfold Inv Bd
      rw [o5 0 (by omega), o5 1 (by omega), o5 2 (by omega), o5 3 (by omega), o5 4 (by omega), o5 5 (by omega), e 0 (by omega), e 1 (by omega), e 2 (by omega), e 3 (by omega), e 4 (by omega), e 5 (by omega)]
      refine ⟨hcl, hB, fun i hi => by rw [o5 _ (by omega)]; exact hz' i hi, fun q hq => by
        have := (hP' q hq).to (f' := f') (fun k _ => o5 _ (by omega)) (Nat.le_refl _) (Nat.le_refl _)
        rwa [e 1 (by omega), e 3 (by omega)] at this, fun q hq => ?_, fun q hq => by
        have := (hC' q hq).to (f' := f') (fun k _ => o5 _ (by omega)) (Nat.le_refl _) (Nat.le_refl _)
        rwa [e 2 (by omega), e 3 (by omega)] at this, ?_⟩
      · by_cases hqt : q = cl t
        · subst hqt
          unfold IT
          rw [o5 (125 + 6 * cl t) (by omega), o5 (125 + 6 * cl t + 1) (by omega), g5, e (125 + 6 * cl t) (by omega), e (125 + 6 * cl t + 1) (by omega), hh, o5 (21 + 13 * cl p + 3) (by omega), e3]
          exact ⟨by rw [← hh]; exact a1, a2, Or.inr ⟨g3, by omega, by omega⟩⟩
        · exact (hT' q hq).to (fun k _ => o5 _ (by omega)) (Nat.le_refl _) (fun q hq => by rw [o5 _ (by omega)]; exact Int.le_refl _)
      · rw [e 5 (by omega)] at hs'
        rw [hs']
        exact (prR_ext _ _ _ (by rw [i_0]; omega) (by rw [i_0]; omega) (fun j h3 h4 h5 => by
          rw [show cl 0 = 0 from cl0] at h4
          by_cases hj : j < 125 + 6 * cl t + 3 ∨ 125 + 6 * cl t + 6 ≤ j
          · exact o5 _ hj
          · omega)).symm
    rw [beginF_t hp1 tm]
    split
    · refine key _ (fun j hj => by simp (disch := omega) only [upd_ne]) (by rw [upd_ne (by omega), upd_ne (by omega), upd_eq, e _ (by omega)]) ?_
      rw [upd_ne (by omega), upd_eq]
      exact hcl.1
    · rename_i hns
      refine key _ (fun j hj => by simp (disch := omega) only [upd_ne]) (by rw [upd_eq, e _ (by omega)]) ?_
      rw [upd_ne (by omega), e _ (by omega)]
      rcases a3 with a3 | a3
      · exact absurd a3.1 hns
      · exact a3.1
end
