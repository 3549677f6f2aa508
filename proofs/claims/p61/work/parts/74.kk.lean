/-! keeping for undo, with the narrower frame -/
def FrK (x : Nat) (w w' : Mm) : Prop := ∀ q, ¬ (q = x ∨ q = x + 127 ∨ (x + 134 ≤ q ∧ q < x + 638)) → w' q = w q
section
variable {w w' w'' : Mm} {x z : Nat} {Q : Int32 → Mm → Nat → Prop} {R : Mm → Nat → Prop} {T : Mm → Prop} {f f' : Nat → Int32} {Fz Fz' : Nat → Prop} {g g' : Nat → Int32} {A A' : Nat → Nat → Int32}
theorem FrK.trans (h : FrK x w w') (h' : FrK x w' w'') : FrK x w w'' := fun q hq => (h' q hq).trans (h q hq)
theorem CS.keepK13 (h : CS w x Fz g A) (hz : FzO x Fz) (h8 : vp_in (g 5) 8) (hq : ∀ w', CS w' x Fz (upd g 5 (g 5 + 1)) (updA A 2 (va_cpy (A 1) (A 2) 0 (cl (g 5) * 445) 445)) → FrK x w w' → R w' z) : B_X5_keepForUndo_13 x R w z := by
  obtain ⟨a1, a2, ⟨σ, hr, h1, h2, h3, h4⟩, a4, ⟨a5, a5'⟩, a6⟩ := h
  have c8 := clI h8
  have n8 := cl_succ h8 (by omega)
  obtain ⟨b1, b2, b3⟩ := h2 (cl (g 5)) c8.2
  refine ⟨_, fld_c a1 2, _, fld_c a1 3, _, _, _, arR_c h1, h8, b1, _, fld_c a1 0, b3.is, HasF.copy (by omega) (fun q hq => by have := hz q hq; omega) a5' b3 a5 (fun w' h5 h6 => ?_)⟩
  have hx : XO w' x (g 5) := by
    unfold XO
    rw [h6 _ (by omega)]
    exact a1
  have hf : ∀ q, Fz q → w' q = w q := fun q hq => h6 q (by have := hz q hq; omega)
  refine ⟨_, fld_c hx 3, hx.put (hq _ ⟨?_, ?_, ?_, ?_, ?_, ?_⟩ ?_)⟩
  · unfold XO
    rw [mset_eq, upd_eq]
  · rw [upd_eq]
    exact vp_in_iff.mpr (by omega)
  · rw [upd_eq, n8.1, updA_eq]
    refine ⟨σ, hr, by rw [mset_ne (by omega), h6 _ (by omega)]; exact h1, fun i hi => ?_, h3, fun i hi => ?_⟩
    · obtain ⟨d1, d2, d3⟩ := h2 i hi
      refine ⟨d1, d2, ?_⟩
      by_cases hi2 : i = cl (g 5)
      · rw [hi2]
        exact h5.any.to (fun q h7 h9 => mset_ne (by omega))
      · have hne : ¬ σ i = σ (cl (g 5)) := fun e => hi2 (h3 _ _ hi c8.2 e)
        exact d3.to (fun q h7 h9 => by rw [mset_ne (by omega), h6 _ (by omega)])
    · by_cases hi2 : i = cl (g 5)
      · have he : ∀ j, j < 445 → slc (va_cpy (A 1) (A 2) 0 (cl (g 5) * 445) 445) i j = A 1 j := fun j hj => by
          show va_cpy (A 1) (A 2) 0 (cl (g 5) * 445) 445 (445 * i + j) = A 1 j
          rw [va_cpy_in (by omega) (by omega)]
          congr 1
          omega
        rw [← hi2] at h5
        exact ⟨(h5.to (fun q hq => mset_ne (by rcases hq with hq | hq; omega; have := hz q hq; omega)) (fun _ h => h)).ext a5' he, a5'.ext he⟩
      · have hi3 : i < cl (g 5) := by omega
        obtain ⟨d1, d2, d3⟩ := h2 i (by omega)
        obtain ⟨e1, e2⟩ := h4 i hi3
        have hne : ¬ σ i = σ (cl (g 5)) := fun e => hi2 (h3 _ _ (by omega) c8.2 e)
        have he : ∀ j, j < 445 → slc (va_cpy (A 1) (A 2) 0 (cl (g 5) * 445) 445) i j = slc (A 2) i j := fun j hj => va_cpy_out (by omega)
        exact ⟨(e1.to (fun q hq => by
          rcases hq with hq | hq
          · rw [mset_ne (by omega), h6 _ (by omega)]
          · rw [mset_ne (by have := hz q hq; omega), hf q hq]) (fun _ h => h)).ext e2 he, e2.ext he⟩
  · rw [updA_ne (by omega), updA_ne (by omega)]
    exact a4.to (fun q hq => by
      rcases hq with hq | hq | hq | hq
      · rw [mset_ne (by omega), h6 _ (by omega)]
      · rw [mset_ne (by omega), h6 _ (by omega)]
      · rw [mset_ne (by omega), h6 _ (by omega)]
      · rw [mset_ne (by have := hz q hq; omega), hf q hq]) (fun _ h => h)
  · rw [updA_ne (by omega)]
    exact ⟨a5.to (fun q hq => by
      rcases hq with hq | hq
      · rw [mset_ne (by omega), h6 _ (by omega)]
      · rw [mset_ne (by have := hz q hq; omega), hf q hq]) (fun _ h => h), a5'⟩
  · exact a6.to (fun q h7 h9 => by rw [mset_ne (by omega), h6 _ (by omega)])
  · intro q hq
    rw [mset_ne (by omega), h6 _ (by omega)]
theorem CS.discK (h : CS w x Fz g A) (hz : FzO x Fz) (h8 : g 5 = 8) (hq : ∀ w', CS w' x Fz (upd g 5 7) (updA A 2 (va_cpy (A 2) (A 2) 445 0 3115)) → FrK x w w' → R w' z) : F_X5_discardOldestChange x w z R := by
  obtain ⟨a1, a2, ⟨σ, hr, h1, h2, h3, h4⟩, a4, ⟨a5, a5'⟩, a6⟩ := h
  obtain ⟨b1, b2, b3⟩ := h2 0 (by omega)
  have n8 : cl (g 5) = 8 := by
    rw [h8]
    rfl
  refine ⟨_, fld_c a1 2, _, _, _, arR_c h1, in_nI (k := 0) (by decide) (by decide), b1, 8, ?_⟩
  have key := c_disc_9 (R := R) (z := z) (hr := hr) (q0 := x + 134 + 63 * σ 0) (ad := fun i => x + 134 + 63 * σ i) a1 (fun i hi => ⟨(h2 i hi).1, (h2 i hi).2.2.cell, by omega⟩) b3.cell (by omega) 7 1 hr (by decide) (by decide) (fun j hj => absurd hj (by rw [show cl 1 = 1 from cl1]; omega)) (fun _ _ _ => rfl)
  rw [mset_self h1] at key
  refine key (fun h'' e1 e2 => ?_)
  have hw : ∀ q, q ≠ x → q ≠ x + 127 → mset (mset w (x + 127) (.inr (4, 8, .inr (.inr h'')))) x (.inl (9, [.ref (x + 1), .ref (x + 64), .ref (x + 127), .int 7, .ref (x + 128), .ref (x + 129), .ref (x + 130), .ref (x + 132)])) q = w q := fun q q1 q2 => by rw [mset_ne q1, mset_ne q2]
  generalize hw' : mset (mset w (x + 127) (.inr (4, 8, .inr (.inr h'')))) x (.inl (9, [.ref (x + 1), .ref (x + 64), .ref (x + 127), .int 7, .ref (x + 128), .ref (x + 129), .ref (x + 130), .ref (x + 132)])) = w' at *
  have hf : ∀ q, Fz q → w' q = w q := fun q hq => hw q (by have := hz q hq; omega) (by have := hz q hq; omega)
  refine hq w' ⟨?_, ?_, ?_, ?_, ?_, ?_⟩ (fun q hq => hw q (by omega) (by omega))
  · unfold XO
    rw [← hw', mset_eq, upd_eq]
  · rw [upd_eq]
    exact in_nI (k := 7) (by decide) (by decide)
  · rw [upd_eq, updA_eq, show cl 7 = 7 from cl7]
    refine ⟨fun i => if i < 7 then σ (i + 1) else σ 0, h'', by rw [← hw', mset_ne (by omega), mset_eq], fun i hi => ?_, fun i j hi hj hij => ?_, fun i hi => ?_⟩
    · by_cases h7 : i < 7
      · simp only [h7, if_true]
        obtain ⟨d1, d2, d3⟩ := h2 (i + 1) (by omega)
        exact ⟨by rw [e1 i h7]; exact d1, d2, d3.to (fun q k1 k2 => hw q (by omega) (by omega))⟩
      · simp only [h7, if_false]
        have : i = 7 := by omega
        subst this
        exact ⟨e2, b2, b3.to (fun q k1 k2 => hw q (by omega) (by omega))⟩
    · by_cases hi7 : i < 7
      · by_cases hj7 : j < 7
        · simp only [hi7, hj7, if_true] at hij
          have := h3 _ _ (by omega) (by omega) hij
          omega
        · simp only [hi7, hj7, if_true, if_false] at hij
          have := h3 _ _ (by omega) (by omega) hij
          omega
      · by_cases hj7 : j < 7
        · simp only [hi7, hj7, if_true, if_false] at hij
          have := h3 _ _ (by omega) (by omega) hij
          omega
        · omega
    · simp only [hi, if_true]
      obtain ⟨d1, d2⟩ := h4 (i + 1) (by omega)
      obtain ⟨d3, d4, d5⟩ := h2 (i + 1) (by omega)
      have he : ∀ j, j < 445 → slc (va_cpy (A 2) (A 2) 445 0 3115) i j = slc (A 2) (i + 1) j := fun j hj => by
        show va_cpy (A 2) (A 2) 445 0 3115 (445 * i + j) = A 2 (445 * (i + 1) + j)
        rw [va_cpy_in (by omega) (by omega)]
        congr 1
        omega
      exact ⟨(d1.to (fun q hq => by
        rcases hq with hq | hq
        · exact hw q (by omega) (by omega)
        · exact hf q hq) (fun _ h => h)).ext d2 he, d2.ext he⟩
  · rw [updA_ne (by omega), updA_ne (by omega)]
    exact a4.to (fun q hq => by
      rcases hq with hq | hq | hq | hq
      · exact hw q (by omega) (by omega)
      · exact hw q (by omega) (by omega)
      · exact hw q (by omega) (by omega)
      · exact hf q hq) (fun _ h => h)
  · rw [updA_ne (by omega)]
    exact ⟨a5.to (fun q hq => by
      rcases hq with hq | hq
      · exact hw q (by omega) (by omega)
      · exact hf q hq) (fun _ h => h), a5'⟩
  · exact a6.to (fun q k1 k2 => hw q (by omega) (by omega))
theorem CS.keepK (h : CS w x Fz g A) (hz : FzO x Fz) (hq : ∀ w', CS w' x Fz (remG g) (remA g A (A 1)) → FrK x w w' → R w' z) : F_X5_keepForUndo x w z R := by
  have h9 := clI h.2.1
  refine ⟨_, fld_c h.1 3, fun h8 => ?_, fun h8 => ⟨isO_c h.1, h.discK hz h8 (fun w' h' hf => ?_)⟩⟩
  · have hne : ¬ (g 5).toInt = 8 := fun e => h8 (ieq.mpr e)
    unfold remG remA at hq
    rw [if_neg h8, if_neg h8] at hq
    exact h.keepK13 hz (vp_in_iff.mpr (by omega)) hq
  · unfold remG remA at hq
    rw [if_pos h8, if_pos h8] at hq
    refine h'.keepK13 hz (by rw [upd_eq]; exact in_nI (k := 7) (by decide) (by decide)) (fun w'' h2 hf2 => hq w'' ?_ (hf.trans hf2))
    rw [upd_eq, updA_eq, updA_ne (by omega), show cl 7 = 7 from cl7] at h2
    exact h2
end
