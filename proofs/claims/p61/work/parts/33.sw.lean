/-! one state of the class: the 63 cells from b on -/
def sh (b : Nat) (hd zn : Nat → Int32) (nm : Nat → Nat) (pa tk cs : Nat → Nat → Int32) (k : Nat) : Ce :=
  if k = 0 then .inl (7, [.int (hd 0), .int (hd 1), .int (hd 2), .int (hd 3), .int (hd 4), .int (hd 5), .int (hd 6), .int (hd 7), .ref (b + 1), .ref (b + 2), .ref (b + 3), .ref (b + 4)])
  else if k = 1 then .inr (0, 12, .inl zn)
  else if k = 2 then .inr (5, 8, .inr (.inr (fun i => if i < 8 then some (b + 5 + i) else none)))
  else if k = 3 then .inr (6, 30, .inr (.inr (fun i => if i < 30 then some (b + 13 + i) else none)))
  else if k = 4 then .inr (7, 20, .inr (.inr (fun i => if i < 20 then some (b + 43 + i) else none)))
  else if k < 13 then .inl (6, [.ref (nm (k - 5)), .int (pa (k - 5) 1), .int (pa (k - 5) 2), .int (pa (k - 5) 3), .int (pa (k - 5) 4), .int (pa (k - 5) 5), .int (pa (k - 5) 6)])
  else if k < 43 then .inl (8, [.int (tk (k - 13) 0), .int (tk (k - 13) 1), .int (tk (k - 13) 2), .int (tk (k - 13) 3), .int (tk (k - 13) 4), .int (tk (k - 13) 5)])
  else .inl (4, [.int (cs (k - 43) 0), .int (cs (k - 43) 1), .int (cs (k - 43) 2), .int (cs (k - 43) 3), .int (cs (k - 43) 4), .int (cs (k - 43) 5), .int (cs (k - 43) 6)])
def sw (w : Mm) (b : Nat) (hd zn : Nat → Int32) (nm : Nat → Nat) (pa tk cs : Nat → Nat → Int32) : Mm := fun q => if b ≤ q ∧ q < b + 63 then some (true, sh b hd zn nm pa tk cs (q - b)) else w q
def upd2 (g : Nat → Nat → Int32) (i k : Nat) (x : Int32) : Nat → Nat → Int32 := fun j => if j = i then upd (g j) k x else g j
theorem upd2_ne {g : Nat → Nat → Int32} {i k j : Nat} {x : Int32} (h : j ≠ i) : upd2 g i k x j = g j := if_neg h
theorem upd2_eq (g : Nat → Nat → Int32) (i k : Nat) (x : Int32) : upd2 g i k x i = upd (g i) k x := if_pos rfl
def updN (g : Nat → Nat) (i x : Nat) : Nat → Nat := fun j => if j = i then x else g j
theorem updN_ne {g : Nat → Nat} {i j x : Nat} (h : j ≠ i) : updN g i x j = g j := if_neg h
theorem updN_eq (g : Nat → Nat) (i x : Nat) : updN g i x i = x := if_pos rfl
section
variable {w : Mm} {b z : Nat} {hd zn : Nat → Int32} {nm : Nat → Nat} {pa tk cs : Nat → Nat → Int32} {Q : Int32 → Mm → Nat → Prop} {R : Mm → Nat → Prop} {T : Mm → Prop}
theorem sw_at {k : Nat} (hk : k < 63) : sw w b hd zn nm pa tk cs (b + k) = some (true, sh b hd zn nm pa tk cs k) := by
  unfold sw
  rw [if_pos (by omega), Nat.add_sub_cancel_left]
theorem sw_o {q : Nat} (h : ¬ (b ≤ q ∧ q < b + 63)) : sw w b hd zn nm pa tk cs q = w q := if_neg h
theorem sw_0 : sw w b hd zn nm pa tk cs b = some (true, .inl (7, [.int (hd 0), .int (hd 1), .int (hd 2), .int (hd 3), .int (hd 4), .int (hd 5), .int (hd 6), .int (hd 7), .ref (b + 1), .ref (b + 2), .ref (b + 3), .ref (b + 4)])) := sw_at (k := 0) (by omega)
theorem sw_1 : sw w b hd zn nm pa tk cs (b + 1) = some (true, .inr (0, 12, .inl zn)) := sw_at (k := 1) (by omega)
theorem sw_2 : sw w b hd zn nm pa tk cs (b + 2) = some (true, .inr (5, 8, .inr (.inr (fun i => if i < 8 then some (b + 5 + i) else none)))) := sw_at (k := 2) (by omega)
theorem sw_3 : sw w b hd zn nm pa tk cs (b + 3) = some (true, .inr (6, 30, .inr (.inr (fun i => if i < 30 then some (b + 13 + i) else none)))) := sw_at (k := 3) (by omega)
theorem sw_4 : sw w b hd zn nm pa tk cs (b + 4) = some (true, .inr (7, 20, .inr (.inr (fun i => if i < 20 then some (b + 43 + i) else none)))) := sw_at (k := 4) (by omega)
theorem sw_p {i : Nat} (hi : i < 8) : sw w b hd zn nm pa tk cs (b + 5 + i) = some (true, .inl (6, [.ref (nm i), .int (pa i 1), .int (pa i 2), .int (pa i 3), .int (pa i 4), .int (pa i 5), .int (pa i 6)])) := by
  rw [Nat.add_assoc, sw_at (by omega), sh, if_neg (by omega), if_neg (by omega), if_neg (by omega), if_neg (by omega), if_neg (by omega), if_pos (by omega), Nat.add_sub_cancel_left]
theorem sw_t {i : Nat} (hi : i < 30) : sw w b hd zn nm pa tk cs (b + 13 + i) = some (true, .inl (8, [.int (tk i 0), .int (tk i 1), .int (tk i 2), .int (tk i 3), .int (tk i 4), .int (tk i 5)])) := by
  rw [Nat.add_assoc, sw_at (by omega), sh, if_neg (by omega), if_neg (by omega), if_neg (by omega), if_neg (by omega), if_neg (by omega), if_neg (by omega), if_pos (by omega), Nat.add_sub_cancel_left]
theorem sw_c {i : Nat} (hi : i < 20) : sw w b hd zn nm pa tk cs (b + 43 + i) = some (true, .inl (4, [.int (cs i 0), .int (cs i 1), .int (cs i 2), .int (cs i 3), .int (cs i 4), .int (cs i 5), .int (cs i 6)])) := by
  rw [Nat.add_assoc, sw_at (by omega), sh, if_neg (by omega), if_neg (by omega), if_neg (by omega), if_neg (by omega), if_neg (by omega), if_neg (by omega), if_neg (by omega), Nat.add_sub_cancel_left]
/-- a cell is written -/
theorem sw_put {hd' zn' : Nat → Int32} {nm' : Nat → Nat} {pa' tk' cs' : Nat → Nat → Int32} {a k : Nat} {e : Ce} (ha : a = b + k) (hk : k < 63) (he : sh b hd' zn' nm' pa' tk' cs' k = e) (hs : ∀ j, j < 63 → j ≠ k → sh b hd' zn' nm' pa' tk' cs' j = sh b hd zn nm pa tk cs j) : mset (sw w b hd zn nm pa tk cs) a e = sw w b hd' zn' nm' pa' tk' cs' := by
  subst ha
  funext q
  by_cases hq : q = b + k
  · rw [hq, mset_eq, sw_at hk, he]
  · rw [mset_ne hq]
    unfold sw
    by_cases h : b ≤ q ∧ q < b + 63
    · rw [if_pos h, if_pos h, hs _ (by omega) (by omega)]
    · rw [if_neg h, if_neg h]
theorem s_getH {k : Nat} (hk : k < 8) : fld (sw w b hd zn nm pa tk cs) b 7 k = some (.int (hd k)) := by
  rw [fld_c sw_0]
  match k, hk with
  | 0, _ => rfl
  | 1, _ => rfl
  | 2, _ => rfl
  | 3, _ => rfl
  | 4, _ => rfl
  | 5, _ => rfl
  | 6, _ => rfl
  | 7, _ => rfl
theorem s_r8 : fld (sw w b hd zn nm pa tk cs) b 7 8 = some (.ref (b + 1)) := fld_c sw_0 8
theorem s_r9 : fld (sw w b hd zn nm pa tk cs) b 7 9 = some (.ref (b + 2)) := fld_c sw_0 9
theorem s_r10 : fld (sw w b hd zn nm pa tk cs) b 7 10 = some (.ref (b + 3)) := fld_c sw_0 10
theorem s_r11 : fld (sw w b hd zn nm pa tk cs) b 7 11 = some (.ref (b + 4)) := fld_c sw_0 11
theorem s_zn : arI (sw w b hd zn nm pa tk cs) (b + 1) 0 = some (12, zn) := arI_c sw_1
theorem s_aP {p : Int32} (hp : vp_in p 8) {P : Nat → Prop} (h : P (b + 5 + cl p)) : ∃ n f q, arR (sw w b hd zn nm pa tk cs) (b + 2) 5 = some (n, f) ∧ vp_in p n ∧ f p.toNatClampNeg = some q ∧ P q := ⟨_, _, _, arR_c sw_2, hp, if_pos (clI hp).2, h⟩
theorem s_aT {p : Int32} (hp : vp_in p 30) {P : Nat → Prop} (h : P (b + 13 + cl p)) : ∃ n f q, arR (sw w b hd zn nm pa tk cs) (b + 3) 6 = some (n, f) ∧ vp_in p n ∧ f p.toNatClampNeg = some q ∧ P q := ⟨_, _, _, arR_c sw_3, hp, if_pos (clI hp).2, h⟩
theorem s_aC {p : Int32} (hp : vp_in p 20) {P : Nat → Prop} (h : P (b + 43 + cl p)) : ∃ n f q, arR (sw w b hd zn nm pa tk cs) (b + 4) 7 = some (n, f) ∧ vp_in p n ∧ f p.toNatClampNeg = some q ∧ P q := ⟨_, _, _, arR_c sw_4, hp, if_pos (clI hp).2, h⟩
theorem s_nm {i : Nat} (hi : i < 8) : fld (sw w b hd zn nm pa tk cs) (b + 5 + i) 6 0 = some (.ref (nm i)) := fld_c (sw_p hi) 0
theorem s_getP {i k : Nat} (hi : i < 8) (hk : k < 6) : fld (sw w b hd zn nm pa tk cs) (b + 5 + i) 6 (k + 1) = some (.int (pa i (k + 1))) := by
  rw [fld_c (sw_p hi)]
  match k, hk with
  | 0, _ => rfl
  | 1, _ => rfl
  | 2, _ => rfl
  | 3, _ => rfl
  | 4, _ => rfl
  | 5, _ => rfl
theorem s_getT {i k : Nat} (hi : i < 30) (hk : k < 6) : fld (sw w b hd zn nm pa tk cs) (b + 13 + i) 8 k = some (.int (tk i k)) := by
  rw [fld_c (sw_t hi)]
  match k, hk with
  | 0, _ => rfl
  | 1, _ => rfl
  | 2, _ => rfl
  | 3, _ => rfl
  | 4, _ => rfl
  | 5, _ => rfl
theorem s_getC {i k : Nat} (hi : i < 20) (hk : k < 7) : fld (sw w b hd zn nm pa tk cs) (b + 43 + i) 4 k = some (.int (cs i k)) := by
  rw [fld_c (sw_c hi)]
  match k, hk with
  | 0, _ => rfl
  | 1, _ => rfl
  | 2, _ => rfl
  | 3, _ => rfl
  | 4, _ => rfl
  | 5, _ => rfl
  | 6, _ => rfl
theorem s_iH : isO (sw w b hd zn nm pa tk cs) b 7 := isO_c sw_0
theorem s_iP {i : Nat} (hi : i < 8) : isO (sw w b hd zn nm pa tk cs) (b + 5 + i) 6 := isO_c (sw_p hi)
theorem s_iT {i : Nat} (hi : i < 30) : isO (sw w b hd zn nm pa tk cs) (b + 13 + i) 8 := isO_c (sw_t hi)
theorem s_iC {i : Nat} (hi : i < 20) : isO (sw w b hd zn nm pa tk cs) (b + 43 + i) 4 := isO_c (sw_c hi)
theorem s_putH {k : Nat} {v : Int32} (hk : k < 8) (h : T (sw w b (upd hd k v) zn nm pa tk cs)) : ∃ f1, obj (sw w b hd zn nm pa tk cs) b 7 = some f1 ∧ k < f1.length ∧ ∀ w2, w2 = mset (sw w b hd zn nm pa tk cs) b (.inl (7, f1.set k (.int v))) → T w2 := by
  refine ⟨_, obj_c sw_0, by simp only [List.length_cons, List.length_nil]; omega, ?_⟩
  rintro _ rfl
  rw [sw_put (w := w) (b := b) (hd := hd) (zn := zn) (nm := nm) (pa := pa) (tk := tk) (cs := cs) (a := b) (k := 0) (hd' := upd hd k v) (zn' := zn) (nm' := nm) (pa' := pa) (tk' := tk) (cs' := cs) rfl (by omega) _ _]
  · exact h
  · match k, hk with
    | 0, _ => rfl
    | 1, _ => rfl
    | 2, _ => rfl
    | 3, _ => rfl
    | 4, _ => rfl
    | 5, _ => rfl
    | 6, _ => rfl
    | 7, _ => rfl
  · intro j hj0 hj
    unfold sh
    rw [if_neg hj, if_neg hj]
theorem s_putZ {i v : Int32} (hi : vp_in i 12) (h : T (sw w b hd (upd zn (cl i) v) nm pa tk cs)) : ∃ n f, arW (sw w b hd zn nm pa tk cs) (b + 1) 0 = some (n, f) ∧ vp_in i n ∧ ∀ w2, w2 = mset (sw w b hd zn nm pa tk cs) (b + 1) (.inr (0, n, .inl (upd f i.toNatClampNeg v))) → T w2 := by
  refine ⟨_, _, arW_c sw_1, hi, ?_⟩
  rintro _ rfl
  rw [sw_put (w := w) (b := b) (hd := hd) (zn := zn) (nm := nm) (pa := pa) (tk := tk) (cs := cs) (a := b + 1) (e := .inr (0, 12, .inl (upd zn (cl i) v))) (k := 1) (hd' := hd) (zn' := upd zn (cl i) v) (nm' := nm) (pa' := pa) (tk' := tk) (cs' := cs) rfl (by omega) rfl _]
  · exact h
  · intro j hj0 hj
    unfold sh
    rw [if_neg hj, if_neg hj]
theorem s_putN {i q : Nat} (hi : i < 8) (h : T (sw w b hd zn (updN nm i q) pa tk cs)) : ∃ f1, obj (sw w b hd zn nm pa tk cs) (b + 5 + i) 6 = some f1 ∧ 0 < f1.length ∧ ∀ w2, w2 = mset (sw w b hd zn nm pa tk cs) (b + 5 + i) (.inl (6, f1.set 0 (.ref q))) → T w2 := by
  refine ⟨_, obj_c (sw_p hi), by simp only [List.length_cons, List.length_nil]; omega, ?_⟩
  rintro _ rfl
  rw [sw_put (k := 5 + i) (hd' := hd) (zn' := zn) (nm' := updN nm i q) (pa' := pa) (tk' := tk) (cs' := cs) (Nat.add_assoc _ _ _) (by omega) _ _]
  · exact h
  · rw [sh, if_neg (by omega), if_neg (by omega), if_neg (by omega), if_neg (by omega), if_neg (by omega), if_pos (by omega), Nat.add_sub_cancel_left, updN_eq]
    rfl
  · intro j hj0 hj
    unfold sh
    by_cases h5 : j < 5 ∨ 13 ≤ j
    · rcases h5 with h5 | h5
      · rcases (by omega : j = 0 ∨ j = 1 ∨ j = 2 ∨ j = 3 ∨ j = 4) with rfl | rfl | rfl | rfl | rfl <;> rfl
      · rw [if_neg (show ¬ j < 13 by omega), if_neg (show ¬ j < 13 by omega)]
    · rw [updN_ne (show j - 5 ≠ i by omega)]
theorem s_putP {i k : Nat} {v : Int32} (hi : i < 8) (hk : k < 6) (h : T (sw w b hd zn nm (upd2 pa i (k + 1) v) tk cs)) : ∃ f1, obj (sw w b hd zn nm pa tk cs) (b + 5 + i) 6 = some f1 ∧ (k + 1) < f1.length ∧ ∀ w2, w2 = mset (sw w b hd zn nm pa tk cs) (b + 5 + i) (.inl (6, f1.set (k + 1) (.int v))) → T w2 := by
  refine ⟨_, obj_c (sw_p hi), by simp only [List.length_cons, List.length_nil]; omega, ?_⟩
  rintro _ rfl
  rw [sw_put (k := 5 + i) (hd' := hd) (zn' := zn) (nm' := nm) (pa' := upd2 pa i (k + 1) v) (tk' := tk) (cs' := cs) (Nat.add_assoc _ _ _) (by omega) _ _]
  · exact h
  · rw [sh, if_neg (by omega), if_neg (by omega), if_neg (by omega), if_neg (by omega), if_neg (by omega), if_pos (by omega), Nat.add_sub_cancel_left, upd2_eq]
    match k, hk with
    | 0, _ =>
      rfl
    | 1, _ =>
      rfl
    | 2, _ =>
      rfl
    | 3, _ =>
      rfl
    | 4, _ =>
      rfl
    | 5, _ =>
      rfl
  · intro j hj0 hj
    unfold sh
    by_cases h5 : j < 5 ∨ 13 ≤ j
    · rcases h5 with h5 | h5
      · repeat' split
        all_goals first | rfl | omega
      · repeat' split
        all_goals first | rfl | omega
    · rw [upd2_ne (show j - 5 ≠ i by omega)]
theorem s_putT {i k : Nat} {v : Int32} (hi : i < 30) (hk : k < 6) (h : T (sw w b hd zn nm pa (upd2 tk i k v) cs)) : ∃ f1, obj (sw w b hd zn nm pa tk cs) (b + 13 + i) 8 = some f1 ∧ k < f1.length ∧ ∀ w2, w2 = mset (sw w b hd zn nm pa tk cs) (b + 13 + i) (.inl (8, f1.set k (.int v))) → T w2 := by
  refine ⟨_, obj_c (sw_t hi), by simp only [List.length_cons, List.length_nil]; omega, ?_⟩
  rintro _ rfl
  rw [sw_put (k := 13 + i) (hd' := hd) (zn' := zn) (nm' := nm) (pa' := pa) (tk' := upd2 tk i k v) (cs' := cs) (Nat.add_assoc _ _ _) (by omega) _ _]
  · exact h
  · rw [sh, if_neg (by omega), if_neg (by omega), if_neg (by omega), if_neg (by omega), if_neg (by omega), if_neg (by omega), if_pos (by omega), Nat.add_sub_cancel_left, upd2_eq]
    match k, hk with
    | 0, _ =>
      rfl
    | 1, _ =>
      rfl
    | 2, _ =>
      rfl
    | 3, _ =>
      rfl
    | 4, _ =>
      rfl
    | 5, _ =>
      rfl
  · intro j hj0 hj
    unfold sh
    by_cases h5 : j < 13 ∨ 43 ≤ j
    · rcases h5 with h5 | h5
      · repeat' split
        all_goals first | rfl | omega
      · repeat' split
        all_goals first | rfl | omega
    · rw [upd2_ne (show j - 13 ≠ i by omega)]
theorem s_putC {i k : Nat} {v : Int32} (hi : i < 20) (hk : k < 7) (h : T (sw w b hd zn nm pa tk (upd2 cs i k v))) : ∃ f1, obj (sw w b hd zn nm pa tk cs) (b + 43 + i) 4 = some f1 ∧ k < f1.length ∧ ∀ w2, w2 = mset (sw w b hd zn nm pa tk cs) (b + 43 + i) (.inl (4, f1.set k (.int v))) → T w2 := by
  refine ⟨_, obj_c (sw_c hi), by simp only [List.length_cons, List.length_nil]; omega, ?_⟩
  rintro _ rfl
  rw [sw_put (k := 43 + i) (hd' := hd) (zn' := zn) (nm' := nm) (pa' := pa) (tk' := tk) (cs' := upd2 cs i k v) (Nat.add_assoc _ _ _) (by omega) _ _]
  · exact h
  · rw [sh, if_neg (by omega), if_neg (by omega), if_neg (by omega), if_neg (by omega), if_neg (by omega), if_neg (by omega), if_neg (by omega), Nat.add_sub_cancel_left, upd2_eq]
    match k, hk with
    | 0, _ =>
      rfl
    | 1, _ =>
      rfl
    | 2, _ =>
      rfl
    | 3, _ =>
      rfl
    | 4, _ =>
      rfl
    | 5, _ =>
      rfl
    | 6, _ =>
      rfl
  · intro j hj0 hj
    unfold sh
    by_cases h5 : j < 43 ∨ 63 ≤ j
    · rcases h5 with h5 | h5
      · repeat' split
        all_goals first | rfl | omega
      · repeat' split
        all_goals first | rfl | omega
    · rw [upd2_ne (show j - 43 ≠ i by omega)]
end
