/-! a state of the class comes into being -/
def pa0 : Nat → Nat → Int32 := fun _ k => if 2 ≤ k ∧ k < 6 then -1 else 0
def z1f : Nat → Int32 := fun _ => 0
def z2f : Nat → Nat → Int32 := fun _ _ => 0
def rowF (N o j c : Nat) : Nat → Option Nat := fun i => if i < N ∧ o + i < j then some (c + i) else none
def shJ (b : Nat) (nm : Nat → Nat) (j k : Nat) : Ce :=
  if k = 2 then .inr (5, 8, .inr (.inr (rowF 8 0 j (b + 5))))
  else if k = 3 then .inr (6, 30, .inr (.inr (rowF 30 8 j (b + 13))))
  else if k = 4 then .inr (7, 20, .inr (.inr (rowF 20 38 j (b + 43))))
  else sh b z1f z1f nm pa0 z2f z2f k
def IS (w0 w : Mm) (b j : Nat) : Prop := (∃ nm, ∀ k, k < 5 + j → w (b + k) = some (true, shJ b nm j k)) ∧ ∀ q, ¬ (b ≤ q ∧ q < b + 63) → w q = w0 q
def hSz (w : Mm) (b : Nat) : Prop := ∃ nm, hS w b z1f z1f nm pa0 z2f z2f
def hdz (b : Nat) : List Value := [.int 0, .int 0, .int 0, .int 0, .int 0, .int 0, .int 0, .int 0, .ref (b + 1), .ref (b + 2), .ref (b + 3), .ref (b + 4)]
theorem va_row {N o j c i0 : Nat} (h : i0 < N) (hj : j = o + i0) : va_up (rowF N o j c) i0 (some (c + i0)) = rowF N o (j + 1) c := by
  funext i
  unfold va_up rowF
  by_cases e : i = i0
  · rw [if_pos e, if_pos (by omega), e]
  · rw [if_neg e]
    by_cases h2 : i < N ∧ o + i < j
    · rw [if_pos h2, if_pos (by omega)]
    · rw [if_neg h2, if_neg (by omega)]
theorem row_all {N o j c : Nat} (h : o + N ≤ j) : rowF N o j c = fun i => if i < N then some (c + i) else none := by
  funext i
  unfold rowF
  by_cases h2 : i < N
  · rw [if_pos h2, if_pos (by omega)]
  · rw [if_neg h2, if_neg (by omega)]
theorem row_none {N o j c : Nat} (h : j ≤ o) : rowF N o j c = fun _ => none := by
  funext i
  unfold rowF
  rw [if_neg (by omega)]
theorem row_same {N o j j' c : Nat} (h : ∀ i, i < N → (o + i < j ↔ o + i < j')) : rowF N o j c = rowF N o j' c := by
  funext i
  unfold rowF
  by_cases h2 : i < N
  · have := h i h2
    by_cases h3 : o + i < j
    · rw [if_pos ⟨h2, h3⟩, if_pos ⟨h2, this.mp h3⟩]
    · rw [if_neg (fun hh => h3 hh.2), if_neg (fun hh => h3 (this.mpr hh.2))]
  · rw [if_neg (fun hh => h2 hh.1), if_neg (fun hh => h2 hh.1)]
section
variable {w0 w : Mm} {b j : Nat} {nm : Nat → Nat}
theorem shJ_next {k0 k q : Nat} (h : (k0 = 2 ∧ j < 8) ∨ (k0 = 3 ∧ 8 ≤ j ∧ j < 38) ∨ (k0 = 4 ∧ 38 ≤ j ∧ j < 58)) (hk : k ≠ k0) (hk2 : k < 5 + j) : shJ b (updN nm j q) (j + 1) k = shJ b nm j k := by
  unfold shJ
  by_cases e2 : k = 2
  · rw [if_pos e2, if_pos e2, row_same (j := j + 1) (j' := j) (fun i hi => by omega)]
  · rw [if_neg e2, if_neg e2]
    by_cases e3 : k = 3
    · rw [if_pos e3, if_pos e3, row_same (j := j + 1) (j' := j) (fun i hi => by omega)]
    · rw [if_neg e3, if_neg e3]
      by_cases e4 : k = 4
      · rw [if_pos e4, if_pos e4, row_same (j := j + 1) (j' := j) (fun i hi => by omega)]
      · rw [if_neg e4, if_neg e4]
        unfold sh
        by_cases e0 : k = 0
        · rw [if_pos e0, if_pos e0]
        · by_cases e1 : k = 1
          · rw [if_neg e0, if_pos e1, if_neg e0, if_pos e1]
          · rw [updN_ne (g := nm) (i := j) (x := q) (j := k - 5) (by omega)]
theorem shJ_all {k : Nat} (hk : k < 63) : shJ b nm 58 k = sh b z1f z1f nm pa0 z2f z2f k := by
  unfold shJ sh
  by_cases e2 : k = 2
  · rw [if_pos e2, if_neg (by omega), if_neg (by omega), if_pos e2, row_all (by omega)]
  · rw [if_neg e2]
    by_cases e3 : k = 3
    · rw [if_pos e3, if_neg (by omega), if_neg (by omega), if_neg (by omega), if_pos e3, row_all (by omega)]
    · rw [if_neg e3]
      by_cases e4 : k = 4
      · rw [if_pos e4, if_neg (by omega), if_neg (by omega), if_neg (by omega), if_neg (by omega), if_pos e4, row_all (by omega)]
      · rw [if_neg e4]
theorem IS.hd (h : IS w0 w b j) : w b = some (true, .inl (7, hdz b)) := by
  obtain ⟨nm, h1⟩ := h.1
  exact h1 0 (by omega)
theorem IS.a2 (h : IS w0 w b j) : w (b + 2) = some (true, .inr (5, 8, .inr (.inr (rowF 8 0 j (b + 5))))) := by
  obtain ⟨nm, h1⟩ := h.1
  exact h1 2 (by omega)
theorem IS.a3 (h : IS w0 w b j) : w (b + 3) = some (true, .inr (6, 30, .inr (.inr (rowF 30 8 j (b + 13))))) := by
  obtain ⟨nm, h1⟩ := h.1
  exact h1 3 (by omega)
theorem IS.a4 (h : IS w0 w b j) : w (b + 4) = some (true, .inr (7, 20, .inr (.inr (rowF 20 38 j (b + 43))))) := by
  obtain ⟨nm, h1⟩ := h.1
  exact h1 4 (by omega)
theorem IS.next (h : IS w0 w b j) {k0 q a : Nat} (hk : (k0 = 2 ∧ j < 8) ∨ (k0 = 3 ∧ 8 ≤ j ∧ j < 38) ∨ (k0 = 4 ∧ 38 ≤ j ∧ j < 58)) {e e0 : Ce} (he : ∀ nm, nm j = q → shJ b nm (j + 1) (5 + j) = e) (he0 : ∀ nm, shJ b nm (j + 1) k0 = e0) (ha : a = b + 5 + j) : IS w0 (mset (mset w a e) (b + k0) e0) b (j + 1) := by
  obtain ⟨⟨nm, h1⟩, h2⟩ := h
  subst ha
  refine ⟨⟨updN nm j q, fun k hk3 => ?_⟩, fun q hq => ?_⟩
  · by_cases e1 : k = k0
    · rw [e1, mset_eq, he0]
    · rw [mset_ne (by omega)]
      by_cases e2 : k = 5 + j
      · rw [e2, show b + (5 + j) = b + 5 + j by omega, mset_eq, he _ (updN_eq _ _ _)]
      · rw [mset_ne (by omega), h1 k (by omega), shJ_next hk e1 (by omega)]
  · rw [mset_ne (by omega), mset_ne (by omega)]
    exact h2 q hq
end
section
variable {w0 : Mm} {b : Nat} {Q : Mm → Nat → Prop}
theorem X3_95 (hq : ∀ w', IS w0 w' b 58 → Q w' (b + 63)) : ∀ (n i : Nat) (w : Mm) (mc ms : Nat), n + i = 20 → IS w0 w b (38 + i) → n ≤ mc → 7 * n ≤ ms → B_X3_init_95 b Q (n + 1) (nI i) w (b + 43 + i) mc ms := by
  intro n
  induction n with
  | zero =>
    intro i w mc ms h1 h hm hs
    have e : i = 20 := by omega
    subst e
    unfold B_X3_init_95
    exact ⟨fun _ => hq w h, fun hh => absurd ((nIle (a := 20) (b := 20) (by omega) (by omega)).mpr (by omega)) hh⟩
  | succ n ih =>
    intro i w mc ms h1 h hm hs
    unfold B_X3_init_95
    refine ⟨fun hh => absurd ((nIle (a := 20) (by omega) (by omega)).mp hh) (by omega), fun _ => ⟨_, fld_c h.hd 11, by omega, by omega, ?_⟩⟩
    rintro _ rfl
    refine ⟨_, _, _, arR_c ((mset_ne (by omega)).trans h.a4), nIin (by omega) (by omega), mset_eq _ _ _, ?_⟩
    rintro _ rfl
    rw [nI_cl (by omega), nIs (by omega), va_row (by omega) rfl]
    exact ih (i + 1) _ _ _ (by omega) (h.next (k0 := 4) (q := 0) (by omega) (fun nm _ => by
      unfold shJ sh
      rw [if_neg (by omega), if_neg (by omega), if_neg (by omega), if_neg (by omega), if_neg (by omega), if_neg (by omega), if_neg (by omega), if_neg (by omega), if_neg (by omega), if_neg (by omega)]
      rfl) (fun _ => rfl) (by omega)) (by omega) (by omega)
theorem X3_68 (hq : ∀ w', IS w0 w' b 58 → Q w' (b + 63)) : ∀ (n i : Nat) (w : Mm) (mc ms : Nat), n + i = 30 → IS w0 w b (8 + i) → n + 20 ≤ mc → 6 * n + 140 ≤ ms → B_X3_init_68 b Q (n + 1) (nI i) w (b + 13 + i) mc ms := by
  intro n
  induction n with
  | zero =>
    intro i w mc ms h1 h hm hs
    have e : i = 30 := by omega
    subst e
    unfold B_X3_init_68
    exact ⟨fun _ => ⟨21, X3_95 hq 20 0 w mc ms rfl h (by omega) (by omega)⟩, fun hh => absurd ((nIle (a := 30) (b := 30) (by omega) (by omega)).mpr (by omega)) hh⟩
  | succ n ih =>
    intro i w mc ms h1 h hm hs
    unfold B_X3_init_68
    refine ⟨fun hh => absurd ((nIle (a := 30) (by omega) (by omega)).mp hh) (by omega), fun _ => ⟨_, fld_c h.hd 10, by omega, by omega, ?_⟩⟩
    rintro _ rfl
    refine ⟨_, _, _, arR_c ((mset_ne (by omega)).trans h.a3), nIin (by omega) (by omega), mset_eq _ _ _, ?_⟩
    rintro _ rfl
    rw [nI_cl (by omega), nIs (by omega), va_row (by omega) rfl]
    exact ih (i + 1) _ _ _ (by omega) (h.next (k0 := 3) (q := 0) (by omega) (fun nm _ => by
      unfold shJ sh
      rw [if_neg (by omega), if_neg (by omega), if_neg (by omega), if_neg (by omega), if_neg (by omega), if_neg (by omega), if_neg (by omega), if_neg (by omega), if_neg (by omega), if_pos (by omega)]
      rfl) (fun _ => rfl) (by omega)) (by omega) (by omega)
theorem X2_init {w : Mm} {a z : Nat} (h : w a = some (true, .inl (6, [.null, .int 0, .int 0, .int 0, .int 0, .int 0, .int 0]))) (hq : ∀ q, Q (mset w a (.inl (6, [.ref q, .int 0, .int (-1), .int (-1), .int (-1), .int (-1), .int 0]))) z) : F_X2_init a w z Q := by
  intro q _
  refine ⟨_, obj_c h, by decide, ?_⟩
  rintro _ rfl
  refine ⟨_, obj_c (mset_eq _ _ _), by simp only [List.length_set, List.length_cons, List.length_nil]; omega, ?_⟩
  rintro _ rfl
  refine ⟨_, obj_c (mset_eq _ _ _), by simp only [List.length_set, List.length_cons, List.length_nil]; omega, ?_⟩
  rintro _ rfl
  refine ⟨_, obj_c (mset_eq _ _ _), by simp only [List.length_set, List.length_cons, List.length_nil]; omega, ?_⟩
  rintro _ rfl
  refine ⟨_, obj_c (mset_eq _ _ _), by simp only [List.length_set, List.length_cons, List.length_nil]; omega, ?_⟩
  rintro _ rfl
  rw [mset_mset, mset_mset, mset_mset, mset_mset]
  exact hq q
theorem X3_41 (hq : ∀ w', IS w0 w' b 58 → Q w' (b + 63)) : ∀ (n i : Nat) (w : Mm) (mc ms : Nat), n + i = 8 → IS w0 w b i → n + 50 ≤ mc → 7 * n + 320 ≤ ms → B_X3_init_41 b Q (n + 1) (nI i) w (b + 5 + i) mc ms := by
  intro n
  induction n with
  | zero =>
    intro i w mc ms h1 h hm hs
    have e : i = 8 := by omega
    subst e
    unfold B_X3_init_41
    exact ⟨fun _ => ⟨31, X3_68 hq 30 0 w mc ms rfl h (by omega) (by omega)⟩, fun hh => absurd ((nIle (a := 8) (b := 8) (by omega) (by omega)).mpr (by omega)) hh⟩
  | succ n ih =>
    intro i w mc ms h1 h hm hs
    unfold B_X3_init_41
    refine ⟨fun hh => absurd ((nIle (a := 8) (by omega) (by omega)).mp hh) (by omega), fun _ => ⟨_, fld_c h.hd 9, by omega, by omega, ?_⟩⟩
    rintro _ rfl
    refine X2_init (mset_eq _ _ _) (fun q => ?_)
    rw [mset_mset]
    refine ⟨_, _, _, arR_c ((mset_ne (by omega)).trans h.a2), nIin (by omega) (by omega), mset_eq _ _ _, ?_⟩
    rintro _ rfl
    rw [nI_cl (by omega), nIs (by omega), va_row (by omega) (Nat.zero_add _).symm]
    exact ih (i + 1) _ _ _ (by omega) (h.next (k0 := 2) (q := q) (by omega) (fun nm hn => by
      unfold shJ sh
      rw [if_neg (by omega), if_neg (by omega), if_neg (by omega), if_neg (by omega), if_neg (by omega), if_neg (by omega), if_neg (by omega), if_neg (by omega), if_pos (by omega), show 5 + i - 5 = i by omega, hn]
      rfl) (fun _ => rfl) (by omega)) (by omega) (by omega)
theorem X3_init {w : Mm} {mc ms : Nat} (h : w b = some (true, .inl (7, [.int 0, .int 0, .int 0, .int 0, .int 0, .int 0, .int 0, .int 0, .null, .null, .null, .null]))) (hm : 62 ≤ mc) (hs : 446 ≤ ms) (hq : ∀ w', hSz w' b → (∀ q, ¬ (b ≤ q ∧ q < b + 63) → w' q = w q) → Q w' (b + 63)) : F_X3_init b w (b + 1) mc ms Q := by
  refine ⟨by decide, 12, by decide, by decide, by omega, by omega, ?_⟩
  rintro _ rfl
  refine ⟨_, obj_c ((mset_ne (by omega)).trans h), by decide, ?_⟩
  rintro _ rfl
  refine ⟨by decide, 8, by decide, by decide, by omega, by omega, ?_⟩
  rintro _ rfl
  refine ⟨_, obj_c ((mset_ne (by omega)).trans (mset_eq _ _ _)), by simp only [List.length_set, List.length_cons, List.length_nil]; omega, ?_⟩
  rintro _ rfl
  refine ⟨by decide, 30, by decide, by decide, by omega, by omega, ?_⟩
  rintro _ rfl
  refine ⟨_, obj_c ((mset_ne (by omega)).trans (mset_eq _ _ _)), by simp only [List.length_set, List.length_cons, List.length_nil]; omega, ?_⟩
  rintro _ rfl
  refine ⟨by decide, 20, by decide, by decide, by omega, by omega, ?_⟩
  rintro _ rfl
  refine ⟨_, obj_c ((mset_ne (by omega)).trans (mset_eq _ _ _)), by simp only [List.length_set, List.length_cons, List.length_nil]; omega, ?_⟩
  rintro _ rfl
  refine ⟨9, X3_41 (w0 := w) (fun w' hI => hq w' ?_ hI.2) 8 0 _ _ _ rfl ⟨⟨fun _ => 0, fun k hk => ?_⟩, fun q hq => ?_⟩ (by omega) (by omega)⟩
  · obtain ⟨nm, h1⟩ := hI.1
    exact ⟨nm, fun k hk => by rw [h1 k (by omega), shJ_all hk]⟩
  · rcases (by omega : k = 0 ∨ k = 1 ∨ k = 2 ∨ k = 3 ∨ k = 4) with rfl | rfl | rfl | rfl | rfl
    · exact mset_eq _ _ _
    · rw [mset_ne (by omega), mset_ne (by omega), mset_ne (by omega), mset_ne (by omega), mset_ne (by omega), mset_ne (by omega), mset_ne (by omega), mset_eq]
      rfl
    · rw [mset_ne (by omega), mset_ne (by omega), mset_ne (by omega), mset_ne (by omega), mset_ne (by omega), show b + 2 = b + 1 + 1 by omega, mset_eq]
      unfold shJ
      rw [if_pos rfl]
      rw [row_none (by omega)]
    · rw [mset_ne (by omega), mset_ne (by omega), mset_ne (by omega), show b + 3 = b + 1 + 1 + 1 by omega, mset_eq]
      unfold shJ
      rw [if_neg (by decide), if_pos rfl]
      rw [row_none (by omega)]
    · rw [mset_ne (by omega), show b + 4 = b + 1 + 1 + 1 + 1 by omega, mset_eq]
      unfold shJ
      rw [if_neg (by decide), if_neg (by decide), if_pos rfl]
      rw [row_none (by omega)]
  · rw [mset_ne (by omega), mset_ne (by omega), mset_ne (by omega), mset_ne (by omega), mset_ne (by omega), mset_ne (by omega), mset_ne (by omega), mset_ne (by omega)]
end
