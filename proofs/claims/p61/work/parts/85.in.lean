/-! the class comes into being: its line, its passengers -/
def stF : Nat → Nat → Int32
  | 0 => fun _ => 0
  | i + 1 => addStopF (stF i) (nI (i / 3))
def txL : List Int32 := [108, 105, 110, 101, 32, 48, 32, 48, 32, 48, 32, 49, 32, 49, 32, 49, 32, 50, 32, 50, 59, 32, 112, 97, 115, 115, 101, 110, 103, 101, 114, 32, 97, 110, 110, 32, 57, 48, 48, 48, 59, 32, 112, 97, 115, 115, 101, 110, 103, 101, 114, 32, 98, 111, 98, 32, 49, 50, 48, 48, 59, 32, 112, 97, 115, 115, 101, 110, 103, 101, 114, 32, 99, 121, 32, 50, 48, 48, 48, 48, 59]
def txA : Nat → Int32 := fun i => txL.getD i 0
def fA : Nat → Int32 := addPasF txA 72 2 (addPasF txA 52 3 (addPasF txA 32 3 (stF 8) 9000) 1200) 20000
def NF (w : Mm) (x : Nat) : Prop := ∀ q c, w q = some (false, c) → q < x
theorem stF_1 : ∀ i, i ≤ 8 → stF i 1 = nI i ∧ Inv (stF i) ∧ Zr (stF i) ∧ stF i 2 = 0 := by
  intro i
  induction i with
  | zero => exact fun _ => ⟨rfl, Inv0, ⟨rfl, rfl, rfl, fun _ _ _ => rfl⟩, rfl⟩
  | succ i ih =>
    intro hi
    obtain ⟨h1, h2, h3, h4⟩ := ih (by omega)
    have h12 : vp_in (stF i 1) 12 := by
      rw [h1]
      exact nIin (by omega) (by omega)
    refine ⟨?_, h2.stop h12 (nIin (by omega) (by omega)), h3.stop h12, ?_⟩
    · show addStopF (stF i) (nI (i / 3)) 1 = nI (i + 1)
      unfold addStopF
      rw [upd_eq, h1, nIs (by omega)]
    · show addStopF (stF i) (nI (i / 3)) 2 = 0
      unfold addStopF
      rw [upd_ne (by omega), upd_ne (by omega), h4]
theorem div3 : ∀ k : Fin 8, (nI k.val / 3 : Int32) = nI (k.val / 3) := by decide
theorem nm_ann : ∀ t, t < 3 → lit_1.getD t 0 = txA (32 + t) := by
  intro t ht
  rcases (by omega : t = 0 ∨ t = 1 ∨ t = 2) with rfl | rfl | rfl <;> rfl
theorem nm_bob : ∀ t, t < 3 → lit_2.getD t 0 = txA (52 + t) := by
  intro t ht
  rcases (by omega : t = 0 ∨ t = 1 ∨ t = 2) with rfl | rfl | rfl <;> rfl
theorem nm_cy : ∀ t, t < 2 → lit_3.getD t 0 = txA (72 + t) := by
  intro t ht
  rcases (by omega : t = 0 ∨ t = 1) with rfl | rfl <;> rfl
theorem le_ann : ∀ t, t < 3 → leB (txA (32 + t)) = true := by
  intro t ht
  rcases (by omega : t = 0 ∨ t = 1 ∨ t = 2) with rfl | rfl | rfl <;> decide
theorem le_bob : ∀ t, t < 3 → leB (txA (52 + t)) = true := by
  intro t ht
  rcases (by omega : t = 0 ∨ t = 1 ∨ t = 2) with rfl | rfl | rfl <;> decide
theorem le_cy : ∀ t, t < 2 → leB (txA (72 + t)) = true := by
  intro t ht
  rcases (by omega : t = 0 ∨ t = 1) with rfl | rfl <;> decide
section
variable {w0 w w1 w9 : Mm} {x z j : Nat} {Q : Mm → Nat → Prop} {f : Nat → Int32} {Fz : Nat → Prop}
theorem D0.tru (h : D0 w0 w x 10) {q : Nat} (h1 : x ≤ q) (h2 : q < x + 764) : ∃ c, w q = some (true, c) := by
  obtain ⟨a1, a2, a3, a4, a5, a6, a7, a8, a9, a10⟩ := h
  have hS : ∀ b, hSz w b → b ≤ q → q < b + 63 → ∃ c, w q = some (true, c) := fun b ⟨nm, hb⟩ h3 h4 => ⟨_, (by
    have := hb (q - b) (by omega)
    rw [show b + (q - b) = q by omega] at this
    exact this)⟩
  by_cases e0 : q = x
  · exact e0 ▸ ⟨_, a1⟩
  by_cases e1 : q < x + 64
  · exact hS _ a2 (by omega) (by omega)
  by_cases e2 : q < x + 127
  · exact hS _ a3 (by omega) (by omega)
  by_cases e3 : x + 134 ≤ q
  · exact hS _ (a9 ((q - (x + 134)) / 63) (by omega)) (by omega) (by omega)
  rcases (by omega : q = x + 127 ∨ q = x + 128 ∨ q = x + 129 ∨ q = x + 130 ∨ q = x + 131 ∨ q = x + 132 ∨ q = x + 133) with rfl | rfl | rfl | rfl | rfl | rfl | rfl
  · exact ⟨_, a4⟩
  · exact ⟨_, a5⟩
  · exact ⟨_, a6⟩
  · exact ⟨_, a7.1⟩
  · exact ⟨_, a7.2⟩
  · exact ⟨_, a8.1⟩
  · exact ⟨_, a8.2⟩
theorem D0.nf (h : D0 w0 w x 10) (hN : NF w0 x) : NF w x := by
  intro q c hq
  by_cases h1 : x ≤ q ∧ q < x + 764
  · obtain ⟨c', hc⟩ := h.tru h1.1 h1.2
    rw [hc] at hq
    exact absurd hq (by intro hh; injection hh with hh; injection hh with hh; exact absurd hh (by decide))
  · rw [h.2.2.2.2.2.2.2.2.2 q (by omega)] at hq
    exact hN q c hq
theorem NF.has (hN : NF w x) {b : Nat} (h : HasA w1 b) (hb : x ≤ b) (hf : ∀ q, ¬ (b ≤ q ∧ q < b + 63) → w1 q = w q) : NF w1 x := by
  intro q c hq
  by_cases h1 : b ≤ q ∧ q < b + 63
  · obtain ⟨hd, zn, nm, pa, tk, cs, h⟩ := h
    have := h (q - b) (by omega)
    rw [show b + (q - b) = q by omega] at this
    rw [this] at hq
    exact absurd hq (by intro hh; injection hh with hh; injection hh with hh; exact absurd hh (by decide))
  · rw [hf q h1] at hq
    exact hN q c hq
/-- what the present state's changes leave -/
def PW (w9 w : Mm) (x : Nat) (Fz : Nat → Prop) (f : Nat → Int32) : Prop := HasF w (x + 1) Fz f ∧ NF w x ∧ ∀ q, ¬ (x + 1 ≤ q ∧ q < x + 64) → w q = w9 q
theorem PW.to (h : PW w9 w x Fz f) {f' : Nat → Int32} (h1 : HasF w1 (x + 1) Fz f') (h2 : ∀ q, ¬ (x + 1 ≤ q ∧ q < x + 1 + 63) → w1 q = w q) : PW w9 w1 x Fz f' := ⟨h1, h.2.1.has h1.any (by omega) h2, fun q hq => (h2 q (by omega)).trans (h.2.2 q hq)⟩
theorem PW.str (h : PW w9 w x Fz f) (hFz : ∀ q c, q < x → w9 q = some (false, c) → Fz q) {q n : Nat} {t : List Int32} (hl : isLit w q t) (hn : t.length = n) : Str w Fz q n (fun i => t.getD i 0) := by
  obtain ⟨v, f, h1, h2, h3⟩ := hl
  have q1 := h.2.1 q _ h1
  have q2 := h.2.1 v _ h2
  subst hn
  exact ⟨false, false, v, [], f, hFz q _ q1 (by rw [← h.2.2 q (by omega)]; exact h1), hFz v _ q2 (by rw [← h.2.2 v (by omega)]; exact h2), h1, h2, h3⟩
theorem X5_131 (hD : D0 w0 w9 x 10) (hFz : ∀ q c, q < x → w9 q = some (false, c) → Fz q) (hF : ∀ q, Fz q → q < x) (hq : ∀ w', PW w9 w' x Fz fA → Inv fA → Q w' z) : ∀ (n i : Nat) (w : Mm) (mc ms : Nat), n + i = 8 → PW w9 w x Fz (stF i) → B_X5_init_131 x Q (n + 1) (nI i) w z mc ms := by
  have hx : ∀ {w f}, PW w9 w x Fz f → fld w x 9 0 = some (.ref (x + 1)) := fun {w f} h => by
    have : w x = _ := (h.2.2 x (by omega)).trans hD.1
    exact fld_c this 0
  have hz : ∀ q, Fz q → ¬ (x + 1 ≤ q ∧ q < x + 1 + 63) := fun q h1 => by have := hF q h1; omega
  intro n
  induction n with
  | zero =>
    intro i w mc ms h1 h
    have e : i = 8 := by omega
    subst e
    obtain ⟨s1, s2, s3, s4⟩ := stF_1 8 (by omega)
    unfold B_X5_init_131
    refine ⟨fun _ => ⟨_, hx h, fun q3 l3 => ⟨h.1.any.is, ?_⟩⟩, fun hh => absurd ((nIle (a := 8) (b := 8) (by omega) (by omega)).mpr (by omega)) hh⟩
    have v8 : vp_in (stF 8 2) 8 := by rw [s4]; exact nIin (a := 0) (by omega) (by omega)
    have I1 := s2.pas (v := 9000) s3 v8 (n := 3) (by omega) le_ann
    have Z1 := s3.pas (a := txA) (fr := 32) (v := 9000) v8 (n := 3) (by omega)
    have e1 : addPasF txA 32 3 (stF 8) 9000 2 = 1 := by rw [aP_2, s4]; decide
    have v81 : vp_in (addPasF txA 32 3 (stF 8) 9000 2) 8 := by rw [e1]; exact nIin (a := 1) (by omega) (by omega)
    refine HasF.pas (fr := 32) (n := 3) (a := txA) hz s2 s3 h.1 v8 (by omega) (h.str hFz l3 rfl) nm_ann (fun w1 k1 k2 => ?_)
    have h1 := h.to k1 k2
    refine ⟨_, hx h1, fun q9 l9 => ⟨h1.1.any.is, ?_⟩⟩
    have I2 := I1.pas (v := 1200) Z1 v81 (n := 3) (by omega) le_bob
    have Z2 := Z1.pas (a := txA) (fr := 52) (v := 1200) v81 (n := 3) (by omega)
    have e2 : addPasF txA 52 3 (addPasF txA 32 3 (stF 8) 9000) 1200 2 = 2 := by rw [aP_2, e1]; decide
    have v82 : vp_in (addPasF txA 52 3 (addPasF txA 32 3 (stF 8) 9000) 1200 2) 8 := by rw [e2]; exact nIin (a := 2) (by omega) (by omega)
    refine HasF.pas (fr := 52) (n := 3) (a := txA) hz I1 Z1 h1.1 v81 (by omega) (h1.str hFz l9 rfl) nm_bob (fun w2 k3 k4 => ?_)
    have h2 := h1.to k3 k4
    refine ⟨_, hx h2, fun q15 l15 => ⟨h2.1.any.is, ?_⟩⟩
    refine HasF.pas (fr := 72) (n := 2) (a := txA) hz I2 Z2 h2.1 v82 (by omega) (h2.str hFz l15 rfl) nm_cy (fun w3 k5 k6 => ?_)
    exact hq w3 (h2.to k5 k6) (I2.pas Z2 v82 (by omega) le_cy)
  | succ n ih =>
    intro i w mc ms h1 h
    obtain ⟨s1, s2, s3, s4⟩ := stF_1 i (by omega)
    unfold B_X5_init_131
    refine ⟨fun hh => absurd ((nIle (a := 8) (by omega) (by omega)).mp hh) (by omega), fun _ => ⟨_, hx h, h.1.any.is, ?_⟩⟩
    rw [div3 ⟨i, by omega⟩, nIs (by omega)]
    refine HasF.stop hz s2 h.1 (by rw [s1]; exact nIin (by omega) (by omega)) (fun w1 k1 k2 => ?_)
    exact ih (i + 1) w1 mc ms (by omega) (h.to k1 k2)
theorem D0.PW0 (hD : D0 w0 w x 10) (hN : NF w0 x) : PW w w x Fz (stF 0) := by
  refine ⟨?_, hD.nf hN, fun _ _ => rfl⟩
  obtain ⟨nm, h⟩ := hD.2.1
  have e0 : cl ((0 : Int32)) = 0 := cl0
  refine ⟨_, _, nm, _, _, _, h, ⟨⟨rfl, rfl, rfl, rfl, rfl, rfl, rfl, rfl⟩, fun i hi => rfl, fun p hp => ?_, fun p hp => ?_, fun p hp => ?_⟩, fun p hp => ?_⟩ <;> exact absurd hp (by show ¬ p < cl (0 : Int32); rw [e0]; omega)
theorem hSz.any {b : Nat} (h : hSz w b) : HasA w b := by
  obtain ⟨nm, h⟩ := h
  exact ⟨_, _, _, _, _, _, h⟩
/-- the class stands -/
theorem D0.cs (hD : D0 w0 w9 x 10) (h : PW w9 w x Fz fA) (hI : Inv fA) {g : Nat → Int32} {A : Nat → Nat → Int32} (g5 : g 5 = 0) (hA : ∀ j, j < 445 → A 1 j = fA j) (h5 : A 5 = z1f) : CS w x Fz g A ∧ HP w x h0f z1f ∧ SB w (x + 132) (x + 133) 16 [] := by
  obtain ⟨p1, p2, p3⟩ := h
  obtain ⟨a1, a2, a3, a4, a5, a6, a7, a8, a9, a10⟩ := hD
  have hs : ∀ i, i < 10 → HasA w (x + 134 + 63 * i) := fun i hi => ((a9 i hi).to (fun q _ _ => p3 q (by omega))).any
  have e0 : cl (0 : Int32) = 0 := cl0
  refine ⟨⟨?_, ?_, ⟨fun i => i, _, (p3 _ (by omega)).trans a4, fun i hi => ⟨if_pos (by omega), hi, hs i (by omega)⟩, fun i j _ _ e => e, fun i hi => absurd hi (by rw [g5, e0]; omega)⟩, ⟨_, z1f, (p3 _ (by omega)).trans a5, (p3 _ (by omega)).trans a6, fun i hi => ⟨if_pos (by omega), ?_, by rw [h5], fun hh => absurd (by rw [h5]; rfl) hh⟩⟩, ⟨p1.ext hI hA, hI.ext hA⟩, (a3.to (fun q _ _ => p3 q (by omega))).any⟩, a7.to (p3 _ (by omega)) (p3 _ (by omega)), 0, z1f, ?_, ?_, by omega, Nat.zero_le _, by omega, fun _ => (by decide : fits .byte (.int 0) = true), fun i hi => absurd hi (by simp only [List.length_nil]; omega)⟩
  · rw [g5]
    exact (p3 x (by omega)).trans a1
  · rw [g5]
    exact nIin (a := 0) (by omega) (by omega)
  · have := hs (8 + i) (by omega)
    rw [show x + 638 + 63 * i = x + 134 + 63 * (8 + i) by omega]
    exact this
  · rw [p3 _ (by omega), a8.1]
    rfl
  · rw [p3 _ (by omega), a8.2]
end
