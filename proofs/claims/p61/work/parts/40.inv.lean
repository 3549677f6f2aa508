section
variable {f f' : Nat → Int32}
theorem prR_snoc : ∀ (n : Nat) (x t : Int32), 0 ≤ t.toInt → t.toInt + n < 30 → prR f (n + 1) x t = prR f n x t + priceI (f (125 + 6 * (cl t + n) + 1)) (f (125 + 6 * (cl t + n) + 2)) := by
  intro n
  induction n with
  | zero => intros; rfl
  | succ n ih =>
    intro x t h1 h2
    have hv : vp_in t 30 := vp_in_iff.mpr (by omega)
    have h5 := cl_succ hv (by omega)
    rw [prR, ih _ _ (by omega) (by omega), prR, h5.1, show cl t + 1 + n = cl t + (n + 1) by omega]
theorem Inv.wait {n : Int32} (h : Inv f) (h1 : 0 ≤ (f 0 + n).toInt) (h2 : (f 0 + n).toInt ≤ 99999) : Inv (waitF f n) := by
  obtain ⟨hc, hB, hz, hP, hT, hC, hs⟩ := h
  have hB1 := clI hB.1
  have hB2 := clI hB.2.1
  have hB3 := clI hB.2.2.1
  have hB4 := clI hB.2.2.2
  have e : ∀ j, 0 < j → waitF f n j = f j := fun j hj => upd_ne (by omega)
  unfold Inv Bd
  rw [e 1 (by omega), e 2 (by omega), e 3 (by omega), e 4 (by omega), e 5 (by omega), show waitF f n 0 = f 0 + n from upd_eq _ _ _]
  refine ⟨⟨h1, h2⟩, hB, fun i hi => by rw [e _ (by omega)]; exact hz i hi, fun p hp => (hP p hp).to (fun k _ => e _ (by omega)) (Nat.le_refl _) (Nat.le_refl _), fun t ht => (hT t ht).to (fun k _ => e _ (by omega)) (Nat.le_refl _) (fun p _ => by rw [e _ (by omega)]; exact Int.le_refl _), fun c hc => (hC c hc).to (fun k _ => e _ (by omega)) (Nat.le_refl _) (Nat.le_refl _), ?_⟩
  rw [hs]
  exact (prR_ext _ _ _ (by rw [i_0]; omega) (by rw [i_0]; omega) (fun j h3 h4 _ => e _ (by omega))).symm
theorem Inv.buy {p k x : Int32} (h : Inv f) (hp : vp_in p (cl (f 2))) (hk : vp_in k 3) (ht : vp_in (f 3) 30) : Inv (buyF f p k x) := by
  obtain ⟨hc, hB, hz, hP, hT, hC, hs⟩ := h
  have hB1 := clI hB.1
  have hB2 := clI hB.2.1
  have hB3 := clI hB.2.2.1
  have hB4 := clI hB.2.2.2
  have p1 := clI hp
  have t1 := clI ht
  have t2 := cl_succ ht (by omega)
  have f3 : buyF f p k x 3 = f 3 + 1 := by simp (disch := omega) only [buyF, upd_ne, upd_eq]
  have f5 : buyF f p k x 5 = f 5 + priceI k x := by simp (disch := omega) only [buyF, upd_ne, upd_eq]
  have fH : ∀ j, j < 21 → j ≠ 3 → j ≠ 5 → buyF f p k x j = f j := fun j _ _ _ => by simp (disch := omega) only [buyF, upd_ne]
  have fC : ∀ j, 305 ≤ j → buyF f p k x j = f j := fun j _ => by simp (disch := omega) only [buyF, upd_ne]
  have fT : ∀ j, 125 ≤ j → j < 125 + 6 * cl (f 3) → buyF f p k x j = f j := fun j _ _ => by simp (disch := omega) only [buyF, upd_ne]
  have fP : ∀ j, 21 ≤ j → j < 125 → j ≠ 21 + 13 * cl p → buyF f p k x j = f j := fun j _ _ _ => by simp (disch := omega) only [buyF, upd_ne]
  unfold Inv Bd
  rw [fH 0 (by omega) (by omega) (by omega), fH 1 (by omega) (by omega) (by omega), fH 2 (by omega) (by omega) (by omega), fH 4 (by omega) (by omega) (by omega), f3, f5, t2.1]
  refine ⟨hc, ⟨hB.1, hB.2.1, vp_in_iff.mpr (by omega), hB.2.2.2⟩, fun i hi => by rw [fH _ (by omega) (by omega) (by omega)]; exact hz i hi, fun q hq => ?_, fun t ht => ?_, fun c hc => (hC c hc).to (fun k _ => fC _ (by omega)) (Nat.le_refl _) (by omega), ?_⟩
  · obtain ⟨a, b, c, d⟩ := hP q hq
    have c' := clI c
    unfold IP
    rw [fP _ (by omega) (by omega) (by omega : 21 + 13 * q + 1 ≠ _), fP _ (by omega) (by omega) (by omega : 21 + 13 * q + 2 ≠ _), fP _ (by omega) (by omega) (by omega : 21 + 13 * q + 3 ≠ _), fP _ (by omega) (by omega) (by omega : 21 + 13 * q + 4 ≠ _), fP _ (by omega) (by omega) (by omega : 21 + 13 * q + 5 ≠ _), fP _ (by omega) (by omega) (by omega : 21 + 13 * q + 6 ≠ _)]
    refine ⟨a.imp id (fun y => ⟨y.1, y.2.1, y.2.2.1, y.2.2.2.1, y.2.2.2.2.imp id (fun u => vp_le u (by omega))⟩), b, c, fun k hk => ?_⟩
    rw [fP _ (by omega) (by omega) (by omega)]
    exact d k hk
  · by_cases h : t = cl (f 3)
    · subst h
      unfold IT
      simp (disch := omega) only [buyF, upd_ne, upd_eq]
      exact ⟨hp, hk, Or.inl ⟨trivial, trivial⟩⟩
    · exact (hT t (by omega)).to (fun k _ => fT _ (by omega) (by omega)) (Nat.le_refl _) (fun p _ => by rw [fP _ (by omega) (by omega) (by omega)]; exact Int.le_refl _)
  · rw [prR_snoc _ _ _ (by rw [i_0]; omega) (by rw [i_0]; omega), show cl 0 = 0 from cl0, Nat.zero_add, prR_ext _ _ _ (by rw [i_0]; omega) (by rw [i_0]; omega) (fun j h3 h4 _ => fT j h3 (by rw [show cl 0 = 0 from cl0] at h4; omega)), hs]
    simp (disch := omega) only [buyF, upd_ne, upd_eq]
theorem Inv.appeal {c t : Int32} (h : Inv f) (hc : vp_in c (cl (f 4))) (ht : vp_in t (cl (f 3))) (ho : f (305 + 7 * cl c + 2) = 0) : Inv (appealF f c t) := by
  obtain ⟨hcl, hB, hz, hP, hT, hC, hs⟩ := h
  have hB1 := clI hB.1
  have hB2 := clI hB.2.1
  have hB3 := clI hB.2.2.1
  have hB4 := clI hB.2.2.2
  have c1 := clI hc
  have e : ∀ j, j < 305 → appealF f c t j = f j := fun j hj => appealF_out hj
  unfold Inv Bd
  rw [e 0 (by omega), e 1 (by omega), e 2 (by omega), e 3 (by omega), e 4 (by omega), e 5 (by omega)]
  refine ⟨hcl, hB, fun i hi => by rw [e _ (by omega)]; exact hz i hi, fun p hp => (hP p hp).to (fun k _ => e _ (by omega)) (Nat.le_refl _) (Nat.le_refl _), fun t ht => (hT t ht).to (fun k _ => e _ (by omega)) (Nat.le_refl _) (fun p _ => by rw [e _ (by omega)]; exact Int.le_refl _), fun q hq => ?_, ?_⟩
  · by_cases hqc : q = cl c
    · subst hqc
      obtain ⟨a, b, d, g1, g2, g3⟩ := hC _ hq
      unfold IC
      simp (disch := omega) only [appealF, upd_ne, upd_eq]
      exact ⟨a, in_nI (k := 1) (by decide) (by decide), fun _ => ht, fun _ => g1 (Or.inl ho), g2, g3⟩
    · exact (hC q hq).to (fun k _ => by simp (disch := omega) only [appealF, upd_ne]) (Nat.le_refl _) (Nat.le_refl _)
  · rw [hs]
    exact (prR_ext _ _ _ (by rw [i_0]; omega) (by rw [i_0]; omega) (fun j h3 h4 _ => e _ (by rw [show cl 0 = 0 from cl0] at h4; omega))).symm
theorem Inv.decide {c : Int32} (h : Inv f) (hc : vp_in c (cl (f 4))) (ho : f (305 + 7 * cl c + 2) = 1) : Inv (decideF f c) := by
  obtain ⟨hcl, hB, hz, hP, hT, hC, hs⟩ := h
  have hB1 := clI hB.1
  have hB2 := clI hB.2.1
  have hB3 := clI hB.2.2.1
  have hB4 := clI hB.2.2.2
  have c1 := clI hc
  have e : ∀ j, j < 305 → decideF f c j = f j := fun j hj => decideF_out (by omega)
  unfold Inv Bd
  rw [e 0 (by omega), e 1 (by omega), e 2 (by omega), e 3 (by omega), e 4 (by omega), e 5 (by omega)]
  refine ⟨hcl, hB, fun i hi => by rw [e _ (by omega)]; exact hz i hi, fun p hp => (hP p hp).to (fun k _ => e _ (by omega)) (Nat.le_refl _) (Nat.le_refl _), fun t ht => (hT t ht).to (fun k _ => e _ (by omega)) (Nat.le_refl _) (fun p _ => by rw [e _ (by omega)]; exact Int.le_refl _), fun q hq => ?_, ?_⟩
  · by_cases hqc : q = cl c
    · subst hqc
      obtain ⟨a, b, d, g1, g2, g3⟩ := hC _ hq
      have g := g1 (Or.inr ho)
      unfold IC
      rcases judged_or (f := f) (c := c) (t := f (305 + 7 * cl c + 5)) with hj | hj
      · unfold decideF
        simp only [hj, if_true]
        simp (disch := omega) only [upd_ne, upd_eq]
        exact ⟨a, in_nI (k := 2) (by decide) (by decide), fun h => absurd h (by decide), fun h => absurd h (by decide), by decide, by decide⟩
      · unfold decideF
        simp only [hj, n32, if_false]
        simp (disch := omega) only [upd_ne, upd_eq, g]
        exact ⟨a, in_nI (k := 3) (by decide) (by decide), fun h => absurd h (by decide), fun h => absurd h (by decide), by decide, by decide⟩
    · exact (hC q hq).to (fun k _ => decideF_out (by omega)) (Nat.le_refl _) (Nat.le_refl _)
  · rw [hs]
    exact (prR_ext _ _ _ (by rw [i_0]; omega) (by rw [i_0]; omega) (fun j h3 h4 _ => e _ (by rw [show cl 0 = 0 from cl0] at h4; omega))).symm
theorem Inv.pay {c : Int32} (h : Inv f) (hc : vp_in c (cl (f 4))) : Inv (payF f c) := by
  obtain ⟨hcl, hB, hz, hP, hT, hC, hs⟩ := h
  have hB1 := clI hB.1
  have hB2 := clI hB.2.1
  have hB3 := clI hB.2.2.1
  have hB4 := clI hB.2.2.2
  have c1 := clI hc
  have w1 := clI (hC _ c1.2).1
  have e : ∀ j, j ≠ 21 + 13 * cl (f (305 + 7 * cl c)) → j ≠ 305 + 7 * cl c + 2 → j ≠ 6 → payF f c j = f j := fun j h1 h2 h3 => payF_out h1 h2 h3
  unfold Inv Bd
  rw [e 0 (by omega) (by omega) (by omega), e 1 (by omega) (by omega) (by omega), e 2 (by omega) (by omega) (by omega), e 3 (by omega) (by omega) (by omega), e 4 (by omega) (by omega) (by omega), e 5 (by omega) (by omega) (by omega)]
  refine ⟨hcl, hB, fun i hi => by rw [e _ (by omega) (by omega) (by omega)]; exact hz i hi, fun q hq => ?_, fun t ht => (hT t ht).to (fun k _ => e _ (by omega) (by omega) (by omega)) (Nat.le_refl _) (fun p _ => by rw [e _ (by omega) (by omega) (by omega)]; exact Int.le_refl _), fun q hq => ?_, ?_⟩
  · obtain ⟨a, b, d, g⟩ := hP q hq
    have d' := clI d
    unfold IP
    rw [e _ (by omega : 21 + 13 * q + 1 ≠ _) (by omega) (by omega), e _ (by omega : 21 + 13 * q + 2 ≠ _) (by omega) (by omega), e _ (by omega : 21 + 13 * q + 3 ≠ _) (by omega) (by omega), e _ (by omega : 21 + 13 * q + 4 ≠ _) (by omega) (by omega), e _ (by omega : 21 + 13 * q + 5 ≠ _) (by omega) (by omega), e _ (by omega : 21 + 13 * q + 6 ≠ _) (by omega) (by omega)]
    exact ⟨a, b, d, fun k hk => by rw [e _ (by omega) (by omega) (by omega)]; exact g k hk⟩
  · by_cases hqc : q = cl c
    · subst hqc
      obtain ⟨a, b, d, g1, g2, g3⟩ := hC _ hq
      unfold IC
      rw [show payF f c (305 + 7 * cl c + 2) = 4 by simp (disch := omega) only [payF, upd_ne, upd_eq], e _ (by omega : 305 + 7 * cl c + 4 ≠ _) (by omega) (by omega), e (305 + 7 * cl c) (by omega) (by omega) (by omega)]
      exact ⟨a, in_nI (k := 4) (by decide) (by decide), fun h => absurd h (by decide), fun h => absurd h (by decide), g2, g3⟩
    · exact (hC q hq).to (fun k _ => e _ (by omega) (by omega) (by omega)) (Nat.le_refl _) (Nat.le_refl _)
  · rw [hs]
    exact (prR_ext _ _ _ (by rw [i_0]; omega) (by rw [i_0]; omega) (fun j h3 h4 _ => e _ (by omega) (by rw [show cl 0 = 0 from cl0] at h4; omega) (by omega))).symm
theorem Inv.insp0 {p : Int32} (h : Inv f) (hp : vp_in p (cl (f 2))) : Inv (inspG f p) := by
  obtain ⟨hcl, hB, hz, hP, hT, hC, hs⟩ := h
  have hB1 := clI hB.1
  have hB2 := clI hB.2.1
  have hB3 := clI hB.2.2.1
  have hB4 := clI hB.2.2.2
  have p1 := clI hp
  have e : ∀ j, j ≠ 7 → j ≠ 21 + 13 * cl p + 5 → inspG f p j = f j := fun j h1 h2 => inspG_out h1 h2
  unfold Inv Bd
  rw [e 0 (by omega) (by omega), e 1 (by omega) (by omega), e 2 (by omega) (by omega), e 3 (by omega) (by omega), e 4 (by omega) (by omega), e 5 (by omega) (by omega)]
  refine ⟨hcl, hB, fun i hi => by rw [e _ (by omega) (by omega)]; exact hz i hi, fun q hq => ?_, fun t ht => (hT t ht).to (fun k _ => e _ (by omega) (by omega)) (Nat.le_refl _) (fun p _ => by rw [e _ (by omega) (by omega)]; exact Int.le_refl _), fun q hq => (hC q hq).to (fun k _ => e _ (by omega) (by omega)) (Nat.le_refl _) (Nat.le_refl _), ?_⟩
  · obtain ⟨a, b, d, g⟩ := hP q hq
    have d' := clI d
    unfold IP
    rw [e _ (by omega : 21 + 13 * q + 1 ≠ _) (by omega), e _ (by omega : 21 + 13 * q + 2 ≠ _) (by omega), e _ (by omega : 21 + 13 * q + 3 ≠ _) (by omega), e _ (by omega : 21 + 13 * q + 4 ≠ _) (by omega), e _ (by omega : 21 + 13 * q + 6 ≠ _) (by omega)]
    refine ⟨a, ?_, d, fun k hk => by rw [e _ (by omega) (by omega)]; exact g k hk⟩
    by_cases hqp : q = cl p
    · rw [hqp, show inspG f p (21 + 13 * cl p + 5) = 1 from upd_eq _ _ _]
      exact Or.inr rfl
    · rw [e _ (by omega) (by omega)]
      exact b
  · rw [hs]
    exact (prR_ext _ _ _ (by rw [i_0]; omega) (by rw [i_0]; omega) (fun j h3 h4 _ => e _ (by omega) (by omega))).symm
theorem inspectF_1 {p : Int32} (hr : ¬ faultF f p = 0) (h4 : inspG f p 4 = f 4) (hB : vp_in (f 4) 20) (hp : cl p < 8) : ∃ v, inspectF f p = upd (upd (upd (upd (upd (upd (upd (upd (inspG f p) (305 + 7 * cl (f 4)) p) (305 + 7 * cl (f 4) + 1) (faultF f p)) (305 + 7 * cl (f 4) + 2) 0) (305 + 7 * cl (f 4) + 3) (f 0)) (305 + 7 * cl (f 4) + 4) 6000) (305 + 7 * cl (f 4) + 5) (-1)) (305 + 7 * cl (f 4) + 6) v) 4 (f 4 + 1) := by
  have c1 := clI hB
  refine ⟨zonesF (upd (upd (upd (upd (upd (upd (inspG f p) (305 + 7 * cl (f 4)) p) (305 + 7 * cl (f 4) + 1) (faultF f p)) (305 + 7 * cl (f 4) + 2) 0) (305 + 7 * cl (f 4) + 3) (f 0)) (305 + 7 * cl (f 4) + 4) 6000) (305 + 7 * cl (f 4) + 5) (-1)) (f (21 + 13 * cl p + 1)) (f (21 + 13 * cl p + 2)), ?_⟩
  unfold inspectF
  simp only [if_neg hr]
  simp (disch := omega) only [inspG, upd_ne, upd_eq]
theorem Inv.insp {p : Int32} (h : Inv f) (hp : vp_in p (cl (f 2))) (hc : vp_in (f 4) 20) : Inv (inspectF f p) := by
  by_cases hr : faultF f p = 0
  · rw [inspectF_0 hr]
    exact h.insp0 hp
  · have hB2' := clI h.2.1.2.1
    have p1 := clI hp
    have h0 := h.insp0 hp
    have g4 : inspG f p 4 = f 4 := inspG_out (by omega) (by omega)
    have g0 : inspG f p 0 = f 0 := inspG_out (by omega) (by omega)
    have g2 : inspG f p 2 = f 2 := inspG_out (by omega) (by omega)
    obtain ⟨v, hv⟩ := inspectF_1 hr g4 hc (by omega)
    rw [hv]
    generalize hg : inspG f p = u at *
    obtain ⟨hcl, hB, hz, hP, hT, hC, hs⟩ := h0
    rw [g4] at hC
    have hB1 := clI hB.1
    have hB2 := clI hB.2.1
    have hB3 := clI hB.2.2.1
    have hB4 := clI hB.2.2.2
    have c1 := clI hc
    have c2 := cl_succ hc (by omega)
    generalize hf' : upd (upd (upd (upd (upd (upd (upd (upd u (305 + 7 * cl (f 4)) p) (305 + 7 * cl (f 4) + 1) (faultF f p)) (305 + 7 * cl (f 4) + 2) 0) (305 + 7 * cl (f 4) + 3) (f 0)) (305 + 7 * cl (f 4) + 4) 6000) (305 + 7 * cl (f 4) + 5) (-1)) (305 + 7 * cl (f 4) + 6) v) 4 (f 4 + 1) = f'
    have e : ∀ j, j ≠ 4 → (j < 305 + 7 * cl (f 4) ∨ 305 + 7 * cl (f 4) + 7 ≤ j) → f' j = u j := fun j h1 h2 => by
      rw [← hf']
      simp (disch := omega) only [upd_ne]
    have e4 : f' 4 = f 4 + 1 := by
      rw [← hf', upd_eq]
    unfold Inv Bd
    rw [e4, c2.1, e 0 (by omega) (by omega), e 1 (by omega) (by omega), e 2 (by omega) (by omega), e 3 (by omega) (by omega), e 5 (by omega) (by omega)]
    refine ⟨hcl, ⟨hB.1, hB.2.1, hB.2.2.1, vp_in_iff.mpr (by omega)⟩, fun i hi => by rw [e _ (by omega) (by omega)]; exact hz i hi, fun q hq => (hP q hq).to (fun k _ => e _ (by omega) (by omega)) (Nat.le_refl _) (Nat.le_refl _), fun t ht => (hT t ht).to (fun k _ => e _ (by omega) (by omega)) (Nat.le_refl _) (fun p _ => by rw [e _ (by omega) (by omega)]; exact Int.le_refl _), fun q hq => ?_, ?_⟩
    · by_cases hqc : q = cl (f 4)
      · subst hqc
        unfold IC
        rw [← hf']
        simp (disch := omega) only [upd_ne, upd_eq]
        exact ⟨by rw [g2]; exact hp, in_nI (k := 0) (by decide) (by decide), fun h => absurd h (by decide), fun _ => trivial, by decide, by decide⟩
      · exact (hC q (by omega)).to (fun k _ => e _ (by omega) (by omega)) (Nat.le_refl _) (Nat.le_refl _)
    · rw [hs]
      exact (prR_ext _ _ _ (by rw [i_0]; omega) (by rw [i_0]; omega) (fun j h3 h4 _ => e _ (by omega) (by rw [show cl 0 = 0 from cl0] at h4; omega))).symm
end
