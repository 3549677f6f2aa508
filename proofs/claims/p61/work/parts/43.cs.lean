/-! the class's states: present, history, saved -/
def slc (a : Nat → Int32) (i : Nat) : Nat → Int32 := fun j => a (445 * i + j)
def XO (w : Mm) (x : Nat) (ch : Int32) : Prop := w x = some (true, .inl (9, [.ref (x + 1), .ref (x + 64), .ref (x + 127), .int ch, .ref (x + 128), .ref (x + 129), .ref (x + 130), .ref (x + 132)]))
def XH (w : Mm) (x : Nat) (Fz : Nat → Prop) (n : Nat) (a : Nat → Int32) : Prop := ∃ (σ : Nat → Nat) (hr : Nat → Option Nat), w (x + 127) = some (true, .inr (4, 8, .inr (.inr hr))) ∧ (∀ i, i < 8 → hr i = some (x + 134 + 63 * σ i) ∧ σ i < 8 ∧ HasA w (x + 134 + 63 * σ i)) ∧ (∀ i j, i < 8 → j < 8 → σ i = σ j → i = j) ∧ (∀ i, i < n → HasF w (x + 134 + 63 * σ i) Fz (slc a i) ∧ Inv (slc a i))
def XV (w : Mm) (x : Nat) (Fz : Nat → Prop) (is a : Nat → Int32) : Prop := ∃ (vr : Nat → Option Nat) (iv : Nat → Int32), w (x + 128) = some (true, .inr (4, 2, .inr (.inr vr))) ∧ w (x + 129) = some (true, .inr (2, 2, .inl iv)) ∧ ∀ i, i < 2 → vr i = some (x + 638 + 63 * i) ∧ HasA w (x + 638 + 63 * i) ∧ iv i = is i ∧ (¬ is i = 0 → HasF w (x + 638 + 63 * i) Fz (slc a i) ∧ Inv (slc a i))
def CS (w : Mm) (x : Nat) (Fz : Nat → Prop) (g : Nat → Int32) (A : Nat → Nat → Int32) : Prop :=
  XO w x (g 5) ∧ vp_in (g 5) 9 ∧ XH w x Fz (cl (g 5)) (A 2) ∧ XV w x Fz (A 5) (A 3) ∧ (HasF w (x + 1) Fz (A 1) ∧ Inv (A 1)) ∧ HasA w (x + 64)
def FzO (x : Nat) (Fz : Nat → Prop) : Prop := ∀ q, Fz q → q < x ∨ x + 764 ≤ q
def FrS (x : Nat) (w w' : Mm) : Prop := ∀ q, ¬ ((x ≤ q ∧ q < x + 130) ∨ (x + 134 ≤ q ∧ q < x + 764)) → w' q = w q
section
variable {w w' w'' : Mm} {x z : Nat} {Q : Int32 → Mm → Nat → Prop} {R : Mm → Nat → Prop} {T : Mm → Prop} {f f' : Nat → Int32} {Fz Fz' : Nat → Prop} {g g' : Nat → Int32} {A A' : Nat → Nat → Int32}
theorem FrS.rfl : FrS x w w := fun _ _ => Eq.refl _
theorem FrS.trans (h : FrS x w w') (h' : FrS x w' w'') : FrS x w w'' := fun q hq => (h' q hq).trans (h q hq)
theorem XH.to {n : Nat} {a a' : Nat → Int32} (h : XH w x Fz n a) (hn : n ≤ 8) (hw : ∀ q, (q = x + 127 ∨ (x + 134 ≤ q ∧ q < x + 638) ∨ Fz q) → w' q = w q) (hF : ∀ q, Fz q → Fz' q) (ha : ∀ j, j < 445 * n → a' j = a j) : XH w' x Fz' n a := by
  obtain ⟨σ, hr, h1, h2, h3, h4⟩ := h
  refine ⟨σ, hr, by rw [hw _ (Or.inl _root_.rfl)]; exact h1, fun i hi => ?_, h3, fun i hi => ?_⟩
  · obtain ⟨a1, a2, a3⟩ := h2 i hi
    exact ⟨a1, a2, a3.to (fun q h5 h6 => hw q (Or.inr (Or.inl (by omega))))⟩
  · obtain ⟨a1, a2, a3⟩ := h2 i (by omega)
    obtain ⟨b1, b2⟩ := h4 i hi
    exact ⟨b1.to (fun q h5 => hw q (h5.elim (fun h5 => Or.inr (Or.inl (by omega))) (fun h5 => Or.inr (Or.inr h5)))) hF, b2⟩
theorem XV.to {is a : Nat → Int32} (h : XV w x Fz is a) (hw : ∀ q, (q = x + 128 ∨ q = x + 129 ∨ (x + 638 ≤ q ∧ q < x + 764) ∨ Fz q) → w' q = w q) (hF : ∀ q, Fz q → Fz' q) : XV w' x Fz' is a := by
  obtain ⟨vr, iv, h1, h2, h3⟩ := h
  refine ⟨vr, iv, by rw [hw _ (Or.inl _root_.rfl)]; exact h1, by rw [hw _ (Or.inr (Or.inl _root_.rfl))]; exact h2, fun i hi => ?_⟩
  obtain ⟨a1, a2, a3, a4⟩ := h3 i hi
  refine ⟨a1, a2.to (fun q h5 h6 => hw q (Or.inr (Or.inr (Or.inl (by omega))))), a3, fun h => ?_⟩
  obtain ⟨b1, b2⟩ := a4 h
  exact ⟨b1.to (fun q h5 => hw q (h5.elim (fun h5 => Or.inr (Or.inr (Or.inl (by omega)))) (fun h5 => Or.inr (Or.inr (Or.inr h5))))) hF, b2⟩
theorem XO.put {ch v : Int32} (h : XO w x ch) (hq : T (mset w x (.inl (9, [.ref (x + 1), .ref (x + 64), .ref (x + 127), .int v, .ref (x + 128), .ref (x + 129), .ref (x + 130), .ref (x + 132)])))) : ∃ f1, obj w x 9 = some f1 ∧ 3 < f1.length ∧ ∀ w2, w2 = mset w x (.inl (9, f1.set 3 (.int v))) → T w2 := by
  refine ⟨_, obj_c h, by simp only [List.length_cons, List.length_nil]; omega, ?_⟩
  rintro _ rfl
  exact hq
/-- the present state changes -/
theorem CS.pr (h : CS w x Fz g A) (hz : FzO x Fz) (h1 : HasF w' (x + 1) Fz f') (h2 : Inv f') (hw : ∀ q, ¬ (x + 1 ≤ q ∧ q < x + 1 + 63) → w' q = w q) : CS w' x Fz g (updA A 1 f') ∧ FrS x w w' := by
  obtain ⟨a1, a2, a3, a4, a5, a6⟩ := h
  have c2 := clI a2
  have hf : ∀ q, Fz q → w' q = w q := fun q hq => hw q (by have := hz q hq; omega)
  refine ⟨⟨by unfold XO; rw [hw _ (by omega)]; exact a1, a2, ?_, ?_, ?_, a6.to (fun q h5 h6 => hw q (by omega))⟩, fun q hq => hw q (by omega)⟩
  · rw [updA_ne (by omega)]
    exact a3.to (a' := A 2) (by omega) (fun q hq => hq.elim (fun hq => hw q (by omega)) (fun hq => hq.elim (fun hq => hw q (by omega)) (hf q))) (fun _ h => h) (fun _ _ => _root_.rfl)
  · rw [updA_ne (by omega), updA_ne (by omega)]
    exact a4.to (fun q hq => hq.elim (fun hq => hw q (by omega)) (fun hq => hq.elim (fun hq => hw q (by omega)) (fun hq => hq.elim (fun hq => hw q (by omega)) (hf q)))) (fun _ h => h)
  · rw [updA_eq]
    exact ⟨h1, h2⟩
theorem CS.g5 (h : CS w x Fz g A) (hg : g' 5 = g 5) : CS w x Fz g' A := by
  unfold CS
  rw [hg]
  exact h
theorem va_cpy_in {f g : Nat → Int32} {sp dp n j : Nat} (h : dp ≤ j) (h' : j < dp + n) : va_cpy f g sp dp n j = f (sp + (j - dp)) := if_pos ⟨h, h'⟩
theorem va_cpy_out {f g : Nat → Int32} {sp dp n j : Nat} (h : ¬ (dp ≤ j ∧ j < dp + n)) : va_cpy f g sp dp n j = g j := if_neg h
/-! only the first 445 numbers count -/
theorem Rl.ext {hd zn : Nat → Int32} {pa tk cs : Nat → Nat → Int32} (h : Rl hd zn pa tk cs f) (hB : Bd f) (he : ∀ j, j < 445 → f' j = f j) : Rl hd zn pa tk cs f' := by
  have hB1 := clI hB.1
  have hB2 := clI hB.2.1
  have hB3 := clI hB.2.2.1
  have hB4 := clI hB.2.2.2
  obtain ⟨hh, hz, hP, hT, hC⟩ := h
  unfold Rl
  rw [he 0 (by omega), he 1 (by omega), he 2 (by omega), he 3 (by omega), he 4 (by omega), he 6 (by omega), he 7 (by omega), he 8 (by omega)]
  exact ⟨hh, fun i hi => by rw [he _ (by omega), hz i hi], fun p hp => (hP p hp).to _root_.rfl (fun k _ => he _ (by omega)), fun p hp => (hT p hp).to _root_.rfl (fun k _ => he _ (by omega)), fun p hp => (hC p hp).to _root_.rfl (fun k _ => he _ (by omega))⟩
theorem Inv.ext (h : Inv f) (he : ∀ j, j < 445 → f' j = f j) : Inv f' := by
  obtain ⟨hcl, hB, hz, hP, hT, hC, hs⟩ := h
  have hB1 := clI hB.1
  have hB2 := clI hB.2.1
  have hB3 := clI hB.2.2.1
  have hB4 := clI hB.2.2.2
  unfold Inv Bd
  rw [he 0 (by omega), he 1 (by omega), he 2 (by omega), he 3 (by omega), he 4 (by omega), he 5 (by omega)]
  refine ⟨hcl, hB, fun i hi => by rw [he _ (by omega)]; exact hz i hi, fun p hp => (hP p hp).to (fun k _ => he _ (by omega)) (Nat.le_refl _) (Nat.le_refl _), fun t ht => (hT t ht).to (fun k _ => he _ (by omega)) (Nat.le_refl _) (fun p _ => by rw [he _ (by omega)]; exact Int.le_refl _), fun q hq => (hC q hq).to (fun k _ => he _ (by omega)) (Nat.le_refl _) (Nat.le_refl _), ?_⟩
  rw [hs]
  exact (prR_ext _ _ _ (by rw [i_0]; omega) (by rw [i_0]; omega) (fun j h3 h4 _ => he _ (by rw [show cl 0 = 0 from cl0] at h4; omega))).symm
theorem HasF.ext {b : Nat} (h : HasF w b Fz f) (hI : Inv f) (he : ∀ j, j < 445 → f' j = f j) : HasF w b Fz f' := by
  have hB2 := clI hI.2.1.2.1
  obtain ⟨hd, zn, nm, pa, tk, cs, h1, h2, h3⟩ := h
  exact ⟨_, _, _, _, _, _, h1, h2.ext hI.2.1 he, h3.to (fun _ _ => _root_.rfl) (fun _ h => h) (he 2 (by omega)) (fun p hp => ⟨_root_.rfl, fun k h6 h7 => he _ (by have := Nm.len hI hp; omega)⟩)⟩
/-- a change is kept for undo: there is room -/
theorem CS.keep13 (h : CS w x Fz g A) (hz : FzO x Fz) (h8 : vp_in (g 5) 8) (hq : ∀ w', CS w' x Fz (upd g 5 (g 5 + 1)) (updA A 2 (va_cpy (A 1) (A 2) 0 (cl (g 5) * 445) 445)) → FrS x w w' → R w' z) : B_X5_keepForUndo_13 x R w z := by
  obtain ⟨a1, a2, ⟨σ, hr, h1, h2, h3, h4⟩, a4, ⟨a5, a5'⟩, a6⟩ := h
  have c8 := clI h8
  have n8 := cl_succ h8 (by omega)
  obtain ⟨b1, b2, b3⟩ := h2 (cl (g 5)) c8.2
  refine ⟨_, fld_c a1 2, _, fld_c a1 3, _, _, _, arR_c h1, h8, b1, _, fld_c a1 0, b3.is, HasF.copy (by omega) (fun q hq => by have := hz q hq; omega) a5' b3 a5 (fun w' h5 h6 => ?_)⟩
  have hx : XO w' x (g 5) := by
    unfold XO
    rw [h6 _ (by omega)]
    exact a1
  have hf : ∀ q, Fz q → w' q = w q := fun q hq => h6 q (by have := hz q hq; omega)
  refine ⟨_, fld_c hx 3, hx.put (hq _ ⟨?_, ?_, ?_, ?_, ?_, ?_⟩ ?_)⟩
  · unfold XO
    rw [mset_eq, upd_eq]
  · rw [upd_eq]
    exact vp_in_iff.mpr (by omega)
  · rw [upd_eq, n8.1, updA_eq]
    refine ⟨σ, hr, by rw [mset_ne (by omega), h6 _ (by omega)]; exact h1, fun i hi => ?_, h3, fun i hi => ?_⟩
    · obtain ⟨d1, d2, d3⟩ := h2 i hi
      refine ⟨d1, d2, ?_⟩
      by_cases hi2 : i = cl (g 5)
      · rw [hi2]
        exact h5.any.to (fun q h7 h9 => mset_ne (by omega))
      · have hne : ¬ σ i = σ (cl (g 5)) := fun e => hi2 (h3 _ _ hi c8.2 e)
        exact d3.to (fun q h7 h9 => by rw [mset_ne (by omega), h6 _ (by omega)])
    · by_cases hi2 : i = cl (g 5)
      · have he : ∀ j, j < 445 → slc (va_cpy (A 1) (A 2) 0 (cl (g 5) * 445) 445) i j = A 1 j := fun j hj => by
          show va_cpy (A 1) (A 2) 0 (cl (g 5) * 445) 445 (445 * i + j) = A 1 j
          rw [va_cpy_in (by omega) (by omega)]
          congr 1
          omega
        rw [← hi2] at h5
        exact ⟨(h5.to (fun q hq => mset_ne (by rcases hq with hq | hq; omega; have := hz q hq; omega)) (fun _ h => h)).ext a5' he, a5'.ext he⟩
      · have hi3 : i < cl (g 5) := by omega
        obtain ⟨d1, d2, d3⟩ := h2 i (by omega)
        obtain ⟨e1, e2⟩ := h4 i hi3
        have hne : ¬ σ i = σ (cl (g 5)) := fun e => hi2 (h3 _ _ (by omega) c8.2 e)
        have he : ∀ j, j < 445 → slc (va_cpy (A 1) (A 2) 0 (cl (g 5) * 445) 445) i j = slc (A 2) i j := fun j hj => va_cpy_out (by omega)
        exact ⟨(e1.to (fun q hq => by
          rcases hq with hq | hq
          · rw [mset_ne (by omega), h6 _ (by omega)]
          · rw [mset_ne (by have := hz q hq; omega), hf q hq]) (fun _ h => h)).ext e2 he, e2.ext he⟩
  · rw [updA_ne (by omega), updA_ne (by omega)]
    exact a4.to (fun q hq => by
      rcases hq with hq | hq | hq | hq
      · rw [mset_ne (by omega), h6 _ (by omega)]
      · rw [mset_ne (by omega), h6 _ (by omega)]
      · rw [mset_ne (by omega), h6 _ (by omega)]
      · rw [mset_ne (by have := hz q hq; omega), hf q hq]) (fun _ h => h)
  · rw [updA_ne (by omega)]
    exact ⟨a5.to (fun q hq => by
      rcases hq with hq | hq
      · rw [mset_ne (by omega), h6 _ (by omega)]
      · rw [mset_ne (by have := hz q hq; omega), hf q hq]) (fun _ h => h), a5'⟩
  · exact a6.to (fun q h7 h9 => by rw [mset_ne (by omega), h6 _ (by omega)])
  · intro q hq
    rw [mset_ne (by omega), h6 _ (by omega)]
end
