/-! the class comes into being: its cells -/
def rowZ (N o j c : Nat) : Nat → Option Nat := fun i => if i < N ∧ o + i < j then some (c + 63 * i) else none
def h0f : Nat → Int32 := fun k => if k = 4 then -1 else 0
def D0 (w0 w : Mm) (x j : Nat) : Prop :=
  XO w x 0 ∧ hSz w (x + 1) ∧ hSz w (x + 64) ∧ w (x + 127) = some (true, .inr (4, 8, .inr (.inr (rowZ 8 0 j (x + 134))))) ∧ w (x + 128) = some (true, .inr (4, 2, .inr (.inr (rowZ 2 8 j (x + 638))))) ∧ w (x + 129) = some (true, .inr (2, 2, .inl z1f)) ∧
  HP w x h0f z1f ∧ (w (x + 132) = some (true, .inl (1, [.ref (x + 133), .int 0, .int 0, .int 0])) ∧ w (x + 133) = some (true, .inr (1, 16, .inl z1f))) ∧
  (∀ i, i < j → hSz w (x + 134 + 63 * i)) ∧ ∀ q, ¬ (x ≤ q ∧ q < x + 134 + 63 * j) → w q = w0 q
theorem va_rowZ {N o j c i0 : Nat} (h : i0 < N) (hj : j = o + i0) : va_up (rowZ N o j c) i0 (some (c + 63 * i0)) = rowZ N o (j + 1) c := by
  funext i
  unfold va_up rowZ
  by_cases e : i = i0
  · rw [if_pos e, if_pos (by omega), e]
  · rw [if_neg e]
    by_cases h2 : i < N ∧ o + i < j
    · rw [if_pos h2, if_pos (by omega)]
    · rw [if_neg h2, if_neg (by omega)]
theorem rowZ_same {N o j j' c : Nat} (h : ∀ i, i < N → (o + i < j ↔ o + i < j')) : rowZ N o j c = rowZ N o j' c := by
  funext i
  unfold rowZ
  by_cases h2 : i < N
  · have := h i h2
    by_cases h3 : o + i < j
    · rw [if_pos ⟨h2, h3⟩, if_pos ⟨h2, this.mp h3⟩]
    · rw [if_neg (fun hh => h3 hh.2), if_neg (fun hh => h3 (this.mpr hh.2))]
  · rw [if_neg (fun hh => h2 hh.1), if_neg (fun hh => h2 hh.1)]
theorem rowZ_none {N o j c : Nat} (h : j ≤ o) : rowZ N o j c = fun _ => none := by
  funext i
  unfold rowZ
  rw [if_neg (by omega)]
section
variable {w0 w w1 : Mm} {x j : Nat} {Q : Mm → Nat → Prop}
theorem hSz.to {b : Nat} (h : hSz w b) (hw : ∀ q, b ≤ q → q < b + 63 → w1 q = w q) : hSz w1 b := by
  obtain ⟨nm, h⟩ := h
  exact ⟨nm, h.to hw⟩
theorem hSz.hd {b : Nat} (h : hSz w b) : w b = some (true, .inl (7, hdz b)) := by
  obtain ⟨nm, h⟩ := h
  exact h 0 (by omega)
theorem D0.nextA (h : D0 w0 w x j) (hj : j < 8) {e : Ce} (hs : hSz w1 (x + 134 + 63 * j)) (hf : ∀ q, ¬ (x + 134 + 63 * j ≤ q ∧ q < x + 134 + 63 * j + 63) → w1 q = mset w (x + 134 + 63 * j) e q) : D0 w0 (mset w1 (x + 127) (.inr (4, 8, .inr (.inr (va_up (rowZ 8 0 j (x + 134)) j (some (x + 134 + 63 * j))))))) x (j + 1) := by
  obtain ⟨a1, a2, a3, a4, a5, a6, a7, a8, a9, a10⟩ := h
  have hw : ∀ q, q < x + 134 + 63 * j → q ≠ x + 127 → mset w1 (x + 127) (.inr (4, 8, .inr (.inr (va_up (rowZ 8 0 j (x + 134)) j (some (x + 134 + 63 * j)))))) q = w q := fun q hq hn => by
    rw [mset_ne hn, hf q (by omega), mset_ne (by omega)]
  refine ⟨(hw x (by omega) (by omega)).trans a1, a2.to (fun q _ _ => hw q (by omega) (by omega)), a3.to (fun q _ _ => hw q (by omega) (by omega)), ?_, ?_, (hw _ (by omega) (by omega)).trans a6, a7.to (hw _ (by omega) (by omega)) (hw _ (by omega) (by omega)), ⟨(hw _ (by omega) (by omega)).trans a8.1, (hw _ (by omega) (by omega)).trans a8.2⟩, fun i hi => ?_, fun q hq => ?_⟩
  · rw [mset_eq, va_rowZ hj (Nat.zero_add _).symm]
  · rw [hw _ (by omega) (by omega), a5, rowZ_same (j := j + 1) (j' := j) (fun i hi => by omega)]
  · by_cases e : i = j
    · rw [e]
      exact hs.to (fun q _ _ => mset_ne (by omega))
    · exact (a9 i (by omega)).to (fun q _ _ => hw q (by omega) (by omega))
  · rw [mset_ne (by omega), hf q (by omega), mset_ne (by omega)]
    exact a10 q (by omega)
theorem D0.nextB {i0 : Nat} (h : D0 w0 w x (8 + i0)) (hj : i0 < 2) {e : Ce} (hs : hSz w1 (x + 638 + 63 * i0)) (hf : ∀ q, ¬ (x + 638 + 63 * i0 ≤ q ∧ q < x + 638 + 63 * i0 + 63) → w1 q = mset w (x + 638 + 63 * i0) e q) : D0 w0 (mset w1 (x + 128) (.inr (4, 2, .inr (.inr (va_up (rowZ 2 8 (8 + i0) (x + 638)) i0 (some (x + 638 + 63 * i0))))))) x (8 + (i0 + 1)) := by
  obtain ⟨a1, a2, a3, a4, a5, a6, a7, a8, a9, a10⟩ := h
  have hw : ∀ q, q < x + 638 + 63 * i0 → q ≠ x + 128 → mset w1 (x + 128) (.inr (4, 2, .inr (.inr (va_up (rowZ 2 8 (8 + i0) (x + 638)) i0 (some (x + 638 + 63 * i0)))))) q = w q := fun q hq hn => by
    rw [mset_ne hn, hf q (by omega), mset_ne (by omega)]
  refine ⟨(hw x (by omega) (by omega)).trans a1, a2.to (fun q _ _ => hw q (by omega) (by omega)), a3.to (fun q _ _ => hw q (by omega) (by omega)), ?_, ?_, (hw _ (by omega) (by omega)).trans a6, a7.to (hw _ (by omega) (by omega)) (hw _ (by omega) (by omega)), ⟨(hw _ (by omega) (by omega)).trans a8.1, (hw _ (by omega) (by omega)).trans a8.2⟩, fun i hi => ?_, fun q hq => ?_⟩
  · rw [hw _ (by omega) (by omega), a4, rowZ_same (j := 8 + (i0 + 1)) (j' := 8 + i0) (fun i hi => by omega)]
  · rw [mset_eq, va_rowZ hj rfl]
    rfl
  · by_cases e : i = 8 + i0
    · rw [e]
      exact (show hSz w1 (x + 134 + 63 * (8 + i0)) by rw [show x + 134 + 63 * (8 + i0) = x + 638 + 63 * i0 by omega]; exact hs).to (fun q _ _ => mset_ne (by omega))
    · exact (a9 i (by omega)).to (fun q _ _ => hw q (by omega) (by omega))
  · rw [mset_ne (by omega), hf q (by omega), mset_ne (by omega)]
    exact a10 q (by omega)
theorem X5_105 (hq : ∀ w' mc ms, D0 w0 w' x 10 → ∃ n, B_X5_init_131 x Q n 0 w' (x + 764) mc ms) : ∀ (n i : Nat) (w : Mm) (mc ms : Nat), n + i = 2 → D0 w0 w x (8 + i) → 63 * n ≤ mc → 458 * n ≤ ms → B_X5_init_105 x Q (n + 1) (nI i) w (x + 638 + 63 * i) mc ms := by
  intro n
  induction n with
  | zero =>
    intro i w mc ms h1 h hm hs
    have e : i = 2 := by omega
    subst e
    unfold B_X5_init_105
    exact ⟨fun _ => hq w mc ms h, fun hh => absurd ((nIle (a := 2) (b := 2) (by omega) (by omega)).mpr (by omega)) hh⟩
  | succ n ih =>
    intro i w mc ms h1 h hm hs
    unfold B_X5_init_105
    refine ⟨fun hh => absurd ((nIle (a := 2) (by omega) (by omega)).mp hh) (by omega), fun _ => ⟨_, fld_c h.1 4, by omega, by omega, ?_⟩⟩
    rintro _ rfl
    refine ⟨62, 446, by omega, by omega, X3_init (mset_eq _ _ _) (Nat.le_refl _) (Nat.le_refl _) (fun w1 hs1 hf1 => ?_)⟩
    refine ⟨_, _, _, arR_c ((hf1 _ (by omega)).trans ((mset_ne (by omega)).trans h.2.2.2.2.1)), nIin (by omega) (by omega), hs1.hd, ?_⟩
    rintro _ rfl
    rw [nI_cl (by omega), nIs (by omega)]
    have := ih (i + 1) _ (mc - 1 - 62) (ms - 12 - 446) (by omega) (h.nextB (by omega) hs1 hf1) (by omega) (by omega)
    rwa [show x + 638 + 63 * (i + 1) = x + 638 + 63 * i + 63 by omega] at this
theorem X5_78 (hq : ∀ w' mc ms, D0 w0 w' x 10 → ∃ n, B_X5_init_131 x Q n 0 w' (x + 764) mc ms) : ∀ (n i : Nat) (w : Mm) (mc ms : Nat), n + i = 8 → D0 w0 w x i → 63 * n + 126 ≤ mc → 458 * n + 916 ≤ ms → B_X5_init_78 x Q (n + 1) (nI i) w (x + 134 + 63 * i) mc ms := by
  intro n
  induction n with
  | zero =>
    intro i w mc ms h1 h hm hs
    have e : i = 8 := by omega
    subst e
    unfold B_X5_init_78
    exact ⟨fun _ => ⟨3, X5_105 hq 2 0 w mc ms rfl h (by omega) (by omega)⟩, fun hh => absurd ((nIle (a := 8) (b := 8) (by omega) (by omega)).mpr (by omega)) hh⟩
  | succ n ih =>
    intro i w mc ms h1 h hm hs
    unfold B_X5_init_78
    refine ⟨fun hh => absurd ((nIle (a := 8) (by omega) (by omega)).mp hh) (by omega), fun _ => ⟨_, fld_c h.1 2, by omega, by omega, ?_⟩⟩
    rintro _ rfl
    refine ⟨62, 446, by omega, by omega, X3_init (mset_eq _ _ _) (Nat.le_refl _) (Nat.le_refl _) (fun w1 hs1 hf1 => ?_)⟩
    refine ⟨_, _, _, arR_c ((hf1 _ (by omega)).trans ((mset_ne (by omega)).trans h.2.2.2.1)), nIin (by omega) (by omega), hs1.hd, ?_⟩
    rintro _ rfl
    rw [nI_cl (by omega), nIs (by omega)]
    have := ih (i + 1) _ (mc - 1 - 62) (ms - 12 - 446) (by omega) (h.nextA (by omega) hs1 hf1) (by omega) (by omega)
    rwa [show x + 134 + 63 * (i + 1) = x + 134 + 63 * i + 63 by omega] at this
theorem X5_init {mc ms : Nat} (hx : w x = some (true, .inl (9, [.null, .null, .null, .int 0, .null, .null, .null, .null]))) (hm : 763 ≤ mc) (hs : 6237 ≤ ms) (hq : ∀ w' mc ms, D0 w w' x 10 → ∃ n, B_X5_init_131 x Q n 0 w' (x + 764) mc ms) : F_X5_init x w (x + 1) mc ms Q := by
  refine ⟨by omega, by omega, ?_⟩
  rintro _ rfl
  refine ⟨62, 446, by omega, by omega, X3_init (mset_eq _ _ _) (Nat.le_refl _) (Nat.le_refl _) (fun w1 s1 f1 => ?_)⟩
  rw [show x + 1 + 63 = x + 64 by omega]
  refine ⟨_, obj_c ((f1 x (by omega)).trans ((mset_ne (by omega)).trans hx)), by simp only [List.length_set, List.length_cons, List.length_nil]; omega, ?_⟩
  rintro _ rfl
  refine ⟨by omega, by omega, ?_⟩
  rintro _ rfl
  refine ⟨62, 446, by omega, by omega, X3_init (mset_eq _ _ _) (Nat.le_refl _) (Nat.le_refl _) (fun w2 s2 f2 => ?_)⟩
  rw [show x + 64 + 63 = x + 127 by omega]
  refine ⟨_, obj_c ((f2 x (by omega)).trans ((mset_ne (by omega)).trans (mset_eq _ _ _))), by simp only [List.length_set, List.length_cons, List.length_nil]; omega, ?_⟩
  rintro _ rfl
  refine ⟨by decide, 8, by decide, by decide, by omega, by omega, ?_⟩
  rintro _ rfl
  refine ⟨_, obj_c ((mset_ne (by omega)).trans (mset_eq _ _ _)), by simp only [List.length_set, List.length_cons, List.length_nil]; omega, ?_⟩
  rintro _ rfl
  refine ⟨by decide, 2, by decide, by decide, by omega, by omega, ?_⟩
  rintro _ rfl
  refine ⟨_, obj_c ((mset_ne (by omega)).trans (mset_eq _ _ _)), by simp only [List.length_set, List.length_cons, List.length_nil]; omega, ?_⟩
  rintro _ rfl
  refine ⟨by decide, 2, by decide, by decide, by omega, by omega, ?_⟩
  rintro _ rfl
  refine ⟨_, obj_c ((mset_ne (by omega)).trans (mset_eq _ _ _)), by simp only [List.length_set, List.length_cons, List.length_nil]; omega, ?_⟩
  rintro _ rfl
  refine ⟨by omega, by omega, ?_⟩
  rintro _ rfl
  refine ⟨_, fld_c ((mset_ne (by omega)).trans (mset_eq _ _ _)) 1, 1, 700, by omega, by omega, ?_⟩
  refine ⟨by decide, 700, by decide, by decide, by omega, by omega, ?_⟩
  rintro _ rfl
  refine ⟨_, obj_c ((mset_ne (by omega)).trans (mset_eq _ _ _)), by simp only [List.length_set, List.length_cons, List.length_nil]; omega, ?_⟩
  rintro _ rfl
  refine ⟨_, obj_c (mset_eq _ _ _), by simp only [List.length_set, List.length_cons, List.length_nil]; omega, ?_⟩
  rintro _ rfl
  refine ⟨_, obj_c (mset_eq _ _ _), by simp only [List.length_set, List.length_cons, List.length_nil]; omega, ?_⟩
  rintro _ rfl
  refine ⟨_, obj_c ((mset_ne (by omega)).trans ((mset_ne (by omega)).trans ((mset_ne (by omega)).trans ((mset_ne (by omega)).trans ((mset_ne (by omega)).trans (mset_eq _ _ _)))))), by simp only [List.length_set, List.length_cons, List.length_nil]; omega, ?_⟩
  rintro _ rfl
  refine ⟨by omega, by omega, ?_⟩
  rintro _ rfl
  refine ⟨1, 16, by omega, by omega, 1, 16, Nat.le_refl _, Nat.le_refl _, by decide, 16, by decide, by decide, by omega, by omega, ?_⟩
  rintro _ rfl
  refine ⟨_, obj_c ((mset_ne (by omega)).trans (mset_eq _ _ _)), by simp only [List.length_set, List.length_cons, List.length_nil]; omega, ?_⟩
  rintro _ rfl
  refine ⟨_, obj_c (mset_eq _ _ _), by simp only [List.length_set, List.length_cons, List.length_nil]; omega, ?_⟩
  rintro _ rfl
  refine ⟨_, obj_c ((mset_ne (by omega)).trans ((mset_ne (by omega)).trans ((mset_ne (by omega)).trans ((mset_ne (by omega)).trans (mset_eq _ _ _))))), by simp only [List.length_set, List.length_cons, List.length_nil]; omega, ?_⟩
  rintro _ rfl
  refine ⟨9, X5_78 (w0 := w) hq 8 0 _ _ _ rfl ⟨mset_eq _ _ _, s1.to (fun q h1 h2 => ?_), s2.to (fun q h1 h2 => ?_), ?_, ?_, ?_, ⟨?_, ?_⟩, ⟨?_, ?_⟩, fun i hi => absurd hi (by omega), fun q hq => ?_⟩ (by omega) (by omega)⟩
  · repeat rw [mset_ne (by omega)]
    rw [f2 q (by omega), mset_ne (by omega), mset_ne (by omega)]
  · repeat rw [mset_ne (by omega)]
  · repeat rw [mset_ne (by omega)]
    rw [mset_eq, rowZ_none (by omega)]
  · repeat rw [mset_ne (by omega)]
    rw [mset_eq, rowZ_none (by omega)]
  · repeat rw [mset_ne (by omega)]
    rw [mset_eq]
    rfl
  · repeat rw [mset_ne (by omega)]
    rw [mset_eq]
    rfl
  · repeat rw [mset_ne (by omega)]
    rw [mset_eq]
    rfl
  · repeat rw [mset_ne (by omega)]
    rw [mset_eq]
    rfl
  · repeat rw [mset_ne (by omega)]
    rw [mset_eq]
    rfl
  · repeat rw [mset_ne (by omega)]
    rw [f2 q (by omega), mset_ne (by omega), mset_ne (by omega), f1 q (by omega), mset_ne (by omega)]
end
