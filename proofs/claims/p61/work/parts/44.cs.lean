section
variable {w w' w'' : Mm} {x z : Nat} {Q : Int32 → Mm → Nat → Prop} {R : Mm → Nat → Prop} {T : Mm → Prop} {f f' : Nat → Int32} {Fz Fz' : Nat → Prop} {g g' : Nat → Int32} {A A' : Nat → Nat → Int32}
theorem c_disc_9 {ch : Int32} {hr : Nat → Option Nat} {q0 : Nat} {ad : Nat → Nat} (hX : XO w x ch) (hh : ∀ i, i < 8 → hr i = some (ad i) ∧ (∃ l, w (ad i) = some (true, .inl (7, l))) ∧ ad i ≠ x + 127) (h0 : ∃ l, w q0 = some (true, .inl (7, l))) (h0' : q0 ≠ x + 127) : ∀ (n : Nat) (i : Int32) (h' : Nat → Option Nat), i.toInt + n = 8 → 1 ≤ i.toInt → (∀ j, j + 1 < cl i → h' j = hr (j + 1)) → (∀ j, cl i ≤ j + 1 → j < 8 → h' j = hr j) → (∀ h'', (∀ j, j < 7 → h'' j = hr (j + 1)) → h'' 7 = some q0 → R (mset (mset w (x + 127) (.inr (4, 8, .inr (.inr h'')))) x (.inl (9, [.ref (x + 1), .ref (x + 64), .ref (x + 127), .int 7, .ref (x + 128), .ref (x + 129), .ref (x + 130), .ref (x + 132)]))) z) → B_X5_discardOldestChange_9 x R (n + 1) q0 i (mset w (x + 127) (.inr (4, 8, .inr (.inr h')))) z := by
  have i8 : (8 : Int32).toInt = 8 := by decide
  have hx : ∀ h', XO (mset w (x + 127) (.inr (4, 8, .inr (.inr h')))) x ch := fun h' => by
    unfold XO
    rw [mset_ne (by omega)]
    exact hX
  intro n
  induction n with
  | zero =>
    intro i h' h1 h2 h3 h4 hq
    have hi : cl i = 8 := by
      have : cl i = i.toInt.toNat := rfl
      omega
    unfold B_X5_discardOldestChange_9
    refine ⟨fun _ => ?_, fun h => absurd (ile.mpr (by omega)) h⟩
    obtain ⟨l, hl⟩ := h0
    refine ⟨_, fld_c (hx _) 2, _, _, l, arR_c (mset_eq _ _ _), in_nI (k := 7) (by decide) (by decide), by rw [mset_ne h0']; exact hl, ?_⟩
    rintro _ rfl
    rw [mset_mset]
    refine (hx _).put (hq _ (fun j hj => ?_) ?_)
    · rw [show (7 : Int32).toNatClampNeg = 7 from cl7, va_up_ne _ _ (by omega)]
      exact h3 j (by omega)
    · rw [show (7 : Int32).toNatClampNeg = 7 from cl7, va_up_self]
  | succ n ih =>
    intro i h' h1 h2 h3 h4 hq
    have hv : vp_in i 8 := vp_in_iff.mpr (by omega)
    have hi := clI hv
    have hs := cl_succ hv (by omega)
    have hp := i_pred hv
    have hp2 : cl (i - 1) + 1 = cl i := by
      have : cl (i - 1) = (i - 1).toInt.toNat := rfl
      omega
    unfold B_X5_discardOldestChange_9
    refine ⟨fun h => absurd (ile.mp h) (by omega), fun _ => ?_⟩
    obtain ⟨e1, ⟨l, e2⟩, e3⟩ := hh (cl i) hi.2
    refine ⟨_, fld_c (hx _) 2, _, fld_c (hx _) 2, _, _, ad (cl i), arR_c (mset_eq _ _ _), hv, (h4 (cl i) (by omega) hi.2).trans e1, _, _, l, arR_c (mset_eq _ _ _), vp_in_iff.mpr (by omega), by rw [mset_ne e3]; exact e2, ?_⟩
    rintro _ rfl
    rw [mset_mset]
    refine ih _ _ (by omega) (by omega) (fun j hj => ?_) (fun j hj hj8 => ?_) hq
    · by_cases h : j = cl (i - 1)
      · rw [h, show ((i - 1).toNatClampNeg) = cl (i - 1) from rfl, va_up_self, ← e1, hp2]
      · rw [show ((i - 1).toNatClampNeg) = cl (i - 1) from rfl, va_up_ne _ _ h]
        exact h3 j (by omega)
    · rw [show ((i - 1).toNatClampNeg) = cl (i - 1) from rfl, va_up_ne _ _ (by omega)]
      exact h4 j (by omega) hj8
theorem CS.disc (h : CS w x Fz g A) (hz : FzO x Fz) (h8 : g 5 = 8) (hq : ∀ w', CS w' x Fz (upd g 5 7) (updA A 2 (va_cpy (A 2) (A 2) 445 0 3115)) → FrS x w w' → R w' z) : F_X5_discardOldestChange x w z R := by
  obtain ⟨a1, a2, ⟨σ, hr, h1, h2, h3, h4⟩, a4, ⟨a5, a5'⟩, a6⟩ := h
  obtain ⟨b1, b2, b3⟩ := h2 0 (by omega)
  have n8 : cl (g 5) = 8 := by
    rw [h8]
    rfl
  refine ⟨_, fld_c a1 2, _, _, _, arR_c h1, in_nI (k := 0) (by decide) (by decide), b1, 8, ?_⟩
  have key := c_disc_9 (R := R) (z := z) (hr := hr) (q0 := x + 134 + 63 * σ 0) (ad := fun i => x + 134 + 63 * σ i) a1 (fun i hi => ⟨(h2 i hi).1, (h2 i hi).2.2.cell, by omega⟩) b3.cell (by omega) 7 1 hr (by decide) (by decide) (fun j hj => absurd hj (by rw [show cl 1 = 1 from cl1]; omega)) (fun _ _ _ => rfl)
  rw [mset_self h1] at key
  refine key (fun h'' e1 e2 => ?_)
  have hw : ∀ q, q ≠ x → q ≠ x + 127 → mset (mset w (x + 127) (.inr (4, 8, .inr (.inr h'')))) x (.inl (9, [.ref (x + 1), .ref (x + 64), .ref (x + 127), .int 7, .ref (x + 128), .ref (x + 129), .ref (x + 130), .ref (x + 132)])) q = w q := fun q q1 q2 => by rw [mset_ne q1, mset_ne q2]
  generalize hw' : mset (mset w (x + 127) (.inr (4, 8, .inr (.inr h'')))) x (.inl (9, [.ref (x + 1), .ref (x + 64), .ref (x + 127), .int 7, .ref (x + 128), .ref (x + 129), .ref (x + 130), .ref (x + 132)])) = w' at *
  have hf : ∀ q, Fz q → w' q = w q := fun q hq => hw q (by have := hz q hq; omega) (by have := hz q hq; omega)
  refine hq w' ⟨?_, ?_, ?_, ?_, ?_, ?_⟩ (fun q hq => hw q (by omega) (by omega))
  · unfold XO
    rw [← hw', mset_eq, upd_eq]
  · rw [upd_eq]
    exact in_nI (k := 7) (by decide) (by decide)
  · rw [upd_eq, updA_eq, show cl 7 = 7 from cl7]
    refine ⟨fun i => if i < 7 then σ (i + 1) else σ 0, h'', by rw [← hw', mset_ne (by omega), mset_eq], fun i hi => ?_, fun i j hi hj hij => ?_, fun i hi => ?_⟩
    · by_cases h7 : i < 7
      · simp only [h7, if_true]
        obtain ⟨d1, d2, d3⟩ := h2 (i + 1) (by omega)
        exact ⟨by rw [e1 i h7]; exact d1, d2, d3.to (fun q k1 k2 => hw q (by omega) (by omega))⟩
      · simp only [h7, if_false]
        have : i = 7 := by omega
        subst this
        exact ⟨e2, b2, b3.to (fun q k1 k2 => hw q (by omega) (by omega))⟩
    · by_cases hi7 : i < 7
      · by_cases hj7 : j < 7
        · simp only [hi7, hj7, if_true] at hij
          have := h3 _ _ (by omega) (by omega) hij
          omega
        · simp only [hi7, hj7, if_true, if_false] at hij
          have := h3 _ _ (by omega) (by omega) hij
          omega
      · by_cases hj7 : j < 7
        · simp only [hi7, hj7, if_true, if_false] at hij
          have := h3 _ _ (by omega) (by omega) hij
          omega
        · omega
    · simp only [hi, if_true]
      obtain ⟨d1, d2⟩ := h4 (i + 1) (by omega)
      obtain ⟨d3, d4, d5⟩ := h2 (i + 1) (by omega)
      have he : ∀ j, j < 445 → slc (va_cpy (A 2) (A 2) 445 0 3115) i j = slc (A 2) (i + 1) j := fun j hj => by
        show va_cpy (A 2) (A 2) 445 0 3115 (445 * i + j) = A 2 (445 * (i + 1) + j)
        rw [va_cpy_in (by omega) (by omega)]
        congr 1
        omega
      exact ⟨(d1.to (fun q hq => by
        rcases hq with hq | hq
        · exact hw q (by omega) (by omega)
        · exact hf q hq) (fun _ h => h)).ext d2 he, d2.ext he⟩
  · rw [updA_ne (by omega), updA_ne (by omega)]
    exact a4.to (fun q hq => by
      rcases hq with hq | hq | hq | hq
      · exact hw q (by omega) (by omega)
      · exact hw q (by omega) (by omega)
      · exact hw q (by omega) (by omega)
      · exact hf q hq) (fun _ h => h)
  · rw [updA_ne (by omega)]
    exact ⟨a5.to (fun q hq => by
      rcases hq with hq | hq
      · exact hw q (by omega) (by omega)
      · exact hf q hq) (fun _ h => h), a5'⟩
  · exact a6.to (fun q k1 k2 => hw q (by omega) (by omega))
/-- what the reference remembers -/
def remG (g : Nat → Int32) : Nat → Int32 := if g 5 = 8 then upd (upd g 5 7) 5 8 else upd g 5 (g 5 + 1)
def remA (g : Nat → Int32) (A : Nat → Nat → Int32) (f : Nat → Int32) : Nat → Nat → Int32 :=
  if g 5 = 8 then updA (updA A 2 (va_cpy (A 2) (A 2) 445 0 3115)) 2 (va_cpy f (va_cpy (A 2) (A 2) 445 0 3115) 0 (7 * 445) 445) else updA A 2 (va_cpy f (A 2) 0 (cl (g 5) * 445) 445)
theorem CS.keep (h : CS w x Fz g A) (hz : FzO x Fz) (hq : ∀ w', CS w' x Fz (remG g) (remA g A (A 1)) → FrS x w w' → R w' z) : F_X5_keepForUndo x w z R := by
  have h9 := clI h.2.1
  refine ⟨_, fld_c h.1 3, fun h8 => ?_, fun h8 => ⟨isO_c h.1, h.disc hz h8 (fun w' h' hf => ?_)⟩⟩
  · have hne : ¬ (g 5).toInt = 8 := fun e => h8 (ieq.mpr e)
    unfold remG remA at hq
    rw [if_neg h8, if_neg h8] at hq
    exact h.keep13 hz (vp_in_iff.mpr (by omega)) hq
  · unfold remG remA at hq
    rw [if_pos h8, if_pos h8] at hq
    refine h'.keep13 hz (by rw [upd_eq]; exact in_nI (k := 7) (by decide) (by decide)) (fun w'' h2 hf2 => hq w'' ?_ (hf.trans hf2))
    rw [upd_eq, updA_eq, updA_ne (by omega), show cl 7 = 7 from cl7] at h2
    exact h2
end
