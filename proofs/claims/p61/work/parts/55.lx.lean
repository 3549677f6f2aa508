/-! the class's parser: two cells from p on -/
def ph (p d : Nat) (h tx : Nat → Int32) (k : Nat) : Ce := if k = 0 then .inl (5, [.ref d, .ref (p + 1), .int (h 2), .int (h 3), .int (h 4), .int (h 5), .int (h 6), .int (h 7), .int (h 8)]) else .inr (1, 700, .inl tx)
def pw (w : Mm) (p d : Nat) (h tx : Nat → Int32) : Mm := fun q => if p ≤ q ∧ q < p + 2 then some (true, ph p d h tx (q - p)) else w q
section
variable {w : Mm} {p d z : Nat} {h tx : Nat → Int32} {Q : Int32 → Mm → Nat → Prop} {R : Mm → Nat → Prop} {T : Mm → Prop}
theorem pw_at {k : Nat} (hk : k < 2) : pw w p d h tx (p + k) = some (true, ph p d h tx k) := by
  unfold pw
  rw [if_pos (by omega), Nat.add_sub_cancel_left]
theorem pw_o {q : Nat} (hq : ¬ (p ≤ q ∧ q < p + 2)) : pw w p d h tx q = w q := if_neg hq
theorem pw_0 : pw w p d h tx p = some (true, .inl (5, [.ref d, .ref (p + 1), .int (h 2), .int (h 3), .int (h 4), .int (h 5), .int (h 6), .int (h 7), .int (h 8)])) := pw_at (k := 0) (by omega)
theorem pw_1 : pw w p d h tx (p + 1) = some (true, .inr (1, 700, .inl tx)) := pw_at (k := 1) (by omega)
theorem pw_put {h' tx' : Nat → Int32} {a k : Nat} {e : Ce} (ha : a = p + k) (hk : k < 2) (he : ph p d h' tx' k = e) (hs : ∀ j, j < 2 → j ≠ k → ph p d h' tx' j = ph p d h tx j) : mset (pw w p d h tx) a e = pw w p d h' tx' := by
  subst ha
  funext q
  by_cases hq : q = p + k
  · rw [hq, mset_eq, pw_at hk, he]
  · rw [mset_ne hq]
    unfold pw
    by_cases hh : p ≤ q ∧ q < p + 2
    · rw [if_pos hh, if_pos hh, hs _ (by omega) (by omega)]
    · rw [if_neg hh, if_neg hh]
theorem pw_st {f : Nat → Int32} : mset (pw w p d h tx) (p + 1) (.inr (1, 700, .inl f)) = pw w p d h f := pw_put (k := 1) rfl (by omega) rfl (fun j hj hk => by
  unfold ph
  rw [if_pos (by omega), if_pos (by omega)])
theorem P_i : isO (pw w p d h tx) p 5 := isO_c pw_0
theorem P_r0 : fld (pw w p d h tx) p 5 0 = some (.ref d) := fld_c pw_0 0
theorem P_r1 : fld (pw w p d h tx) p 5 1 = some (.ref (p + 1)) := fld_c pw_0 1
theorem P_a : arI (pw w p d h tx) (p + 1) 1 = some (700, tx) := arI_c pw_1
theorem P_w : arW (pw w p d h tx) (p + 1) 1 = some (700, tx) := arW_c pw_1
theorem P_g2 : fld (pw w p d h tx) p 5 2 = some (.int (h 2)) := fld_c pw_0 2
theorem P_p2 {v : Int32} (hh : T (pw w p d (upd h 2 v) tx)) : ∃ f1, obj (pw w p d h tx) p 5 = some f1 ∧ 2 < f1.length ∧ ∀ w2, w2 = mset (pw w p d h tx) p (.inl (5, f1.set 2 (.int v))) → T w2 := by
  refine ⟨_, obj_c pw_0, by simp only [List.length_cons, List.length_nil]; omega, ?_⟩
  rintro _ rfl
  have e : mset (pw w p d h tx) p (.inl (5, ([.ref d, .ref (p + 1), .int (h 2), .int (h 3), .int (h 4), .int (h 5), .int (h 6), .int (h 7), .int (h 8)] : List Value).set 2 (.int v))) = pw w p d (upd h 2 v) tx := pw_put (k := 0) rfl (by omega) rfl (fun j hj hk => by
    unfold ph
    rw [if_neg hk, if_neg hk])
  rw [e]
  exact hh
theorem P_g3 : fld (pw w p d h tx) p 5 3 = some (.int (h 3)) := fld_c pw_0 3
theorem P_p3 {v : Int32} (hh : T (pw w p d (upd h 3 v) tx)) : ∃ f1, obj (pw w p d h tx) p 5 = some f1 ∧ 3 < f1.length ∧ ∀ w2, w2 = mset (pw w p d h tx) p (.inl (5, f1.set 3 (.int v))) → T w2 := by
  refine ⟨_, obj_c pw_0, by simp only [List.length_cons, List.length_nil]; omega, ?_⟩
  rintro _ rfl
  have e : mset (pw w p d h tx) p (.inl (5, ([.ref d, .ref (p + 1), .int (h 2), .int (h 3), .int (h 4), .int (h 5), .int (h 6), .int (h 7), .int (h 8)] : List Value).set 3 (.int v))) = pw w p d (upd h 3 v) tx := pw_put (k := 0) rfl (by omega) rfl (fun j hj hk => by
    unfold ph
    rw [if_neg hk, if_neg hk])
  rw [e]
  exact hh
theorem P_g4 : fld (pw w p d h tx) p 5 4 = some (.int (h 4)) := fld_c pw_0 4
theorem P_p4 {v : Int32} (hh : T (pw w p d (upd h 4 v) tx)) : ∃ f1, obj (pw w p d h tx) p 5 = some f1 ∧ 4 < f1.length ∧ ∀ w2, w2 = mset (pw w p d h tx) p (.inl (5, f1.set 4 (.int v))) → T w2 := by
  refine ⟨_, obj_c pw_0, by simp only [List.length_cons, List.length_nil]; omega, ?_⟩
  rintro _ rfl
  have e : mset (pw w p d h tx) p (.inl (5, ([.ref d, .ref (p + 1), .int (h 2), .int (h 3), .int (h 4), .int (h 5), .int (h 6), .int (h 7), .int (h 8)] : List Value).set 4 (.int v))) = pw w p d (upd h 4 v) tx := pw_put (k := 0) rfl (by omega) rfl (fun j hj hk => by
    unfold ph
    rw [if_neg hk, if_neg hk])
  rw [e]
  exact hh
theorem P_g5 : fld (pw w p d h tx) p 5 5 = some (.int (h 5)) := fld_c pw_0 5
theorem P_p5 {v : Int32} (hh : T (pw w p d (upd h 5 v) tx)) : ∃ f1, obj (pw w p d h tx) p 5 = some f1 ∧ 5 < f1.length ∧ ∀ w2, w2 = mset (pw w p d h tx) p (.inl (5, f1.set 5 (.int v))) → T w2 := by
  refine ⟨_, obj_c pw_0, by simp only [List.length_cons, List.length_nil]; omega, ?_⟩
  rintro _ rfl
  have e : mset (pw w p d h tx) p (.inl (5, ([.ref d, .ref (p + 1), .int (h 2), .int (h 3), .int (h 4), .int (h 5), .int (h 6), .int (h 7), .int (h 8)] : List Value).set 5 (.int v))) = pw w p d (upd h 5 v) tx := pw_put (k := 0) rfl (by omega) rfl (fun j hj hk => by
    unfold ph
    rw [if_neg hk, if_neg hk])
  rw [e]
  exact hh
theorem P_g6 : fld (pw w p d h tx) p 5 6 = some (.int (h 6)) := fld_c pw_0 6
theorem P_p6 {v : Int32} (hh : T (pw w p d (upd h 6 v) tx)) : ∃ f1, obj (pw w p d h tx) p 5 = some f1 ∧ 6 < f1.length ∧ ∀ w2, w2 = mset (pw w p d h tx) p (.inl (5, f1.set 6 (.int v))) → T w2 := by
  refine ⟨_, obj_c pw_0, by simp only [List.length_cons, List.length_nil]; omega, ?_⟩
  rintro _ rfl
  have e : mset (pw w p d h tx) p (.inl (5, ([.ref d, .ref (p + 1), .int (h 2), .int (h 3), .int (h 4), .int (h 5), .int (h 6), .int (h 7), .int (h 8)] : List Value).set 6 (.int v))) = pw w p d (upd h 6 v) tx := pw_put (k := 0) rfl (by omega) rfl (fun j hj hk => by
    unfold ph
    rw [if_neg hk, if_neg hk])
  rw [e]
  exact hh
theorem P_g7 : fld (pw w p d h tx) p 5 7 = some (.int (h 7)) := fld_c pw_0 7
theorem P_p7 {v : Int32} (hh : T (pw w p d (upd h 7 v) tx)) : ∃ f1, obj (pw w p d h tx) p 5 = some f1 ∧ 7 < f1.length ∧ ∀ w2, w2 = mset (pw w p d h tx) p (.inl (5, f1.set 7 (.int v))) → T w2 := by
  refine ⟨_, obj_c pw_0, by simp only [List.length_cons, List.length_nil]; omega, ?_⟩
  rintro _ rfl
  have e : mset (pw w p d h tx) p (.inl (5, ([.ref d, .ref (p + 1), .int (h 2), .int (h 3), .int (h 4), .int (h 5), .int (h 6), .int (h 7), .int (h 8)] : List Value).set 7 (.int v))) = pw w p d (upd h 7 v) tx := pw_put (k := 0) rfl (by omega) rfl (fun j hj hk => by
    unfold ph
    rw [if_neg hk, if_neg hk])
  rw [e]
  exact hh
theorem P_g8 : fld (pw w p d h tx) p 5 8 = some (.int (h 8)) := fld_c pw_0 8
theorem P_p8 {v : Int32} (hh : T (pw w p d (upd h 8 v) tx)) : ∃ f1, obj (pw w p d h tx) p 5 = some f1 ∧ 8 < f1.length ∧ ∀ w2, w2 = mset (pw w p d h tx) p (.inl (5, f1.set 8 (.int v))) → T w2 := by
  refine ⟨_, obj_c pw_0, by simp only [List.length_cons, List.length_nil]; omega, ?_⟩
  rintro _ rfl
  have e : mset (pw w p d h tx) p (.inl (5, ([.ref d, .ref (p + 1), .int (h 2), .int (h 3), .int (h 4), .int (h 5), .int (h 6), .int (h 7), .int (h 8)] : List Value).set 8 (.int v))) = pw w p d (upd h 8 v) tx := pw_put (k := 0) rfl (by omega) rfl (fun j hj hk => by
    unfold ph
    rw [if_neg hk, if_neg hk])
  rw [e]
  exact hh
theorem P_isLetter {v : Int32} {w : Mm} (hq : Q (if leB v = true then 1 else 0) w z) : F_X1_isLetter v w z Q := by
  have j97 : (97 : Int32).toInt = 97 := by decide
  have j122 : (122 : Int32).toInt = 122 := by decide
  refine ⟨fun a => ?_, fun a => ⟨fun b => ?_, fun b => ?_⟩⟩
  · have a := ilt.mp a
    rw [if_neg (fun h => by have := leB_t.mp h; omega)] at hq
    exact hq
  · have b := ilt.mp b
    rw [if_neg (fun h => by have := leB_t.mp h; omega)] at hq
    exact hq
  · have a : ¬ v.toInt < (97 : Int32).toInt := fun h => a (ilt.mpr h)
    have b : ¬ (122 : Int32).toInt < v.toInt := fun h => b (ilt.mpr h)
    rw [if_pos (leB_t.mpr (by omega))] at hq
    exact hq
theorem P_isDigit {v : Int32} {w : Mm} (hq : Q (if diB v = true then 1 else 0) w z) : F_X1_isDigit v w z Q := by
  have j97 : (48 : Int32).toInt = 48 := by decide
  have j122 : (57 : Int32).toInt = 57 := by decide
  refine ⟨fun a => ?_, fun a => ⟨fun b => ?_, fun b => ?_⟩⟩
  · have a := ilt.mp a
    rw [if_neg (fun h => by have := diB_t.mp h; omega)] at hq
    exact hq
  · have b := ilt.mp b
    rw [if_neg (fun h => by have := diB_t.mp h; omega)] at hq
    exact hq
  · have a : ¬ v.toInt < (48 : Int32).toInt := fun h => a (ilt.mpr h)
    have b : ¬ (57 : Int32).toInt < v.toInt := fun h => b (ilt.mpr h)
    rw [if_pos (diB_t.mpr (by omega))] at hq
    exact hq
def numC (a : Nat → Int32) : Nat → Nat → Int32 → Int32
  | 0, _, v => v
  | n + 1, i, v => if diB (a i) then numC a n (i + 1) (jmin 100000 (v * 10 + a i - 48)) else v
/-- what stays of the parser's numbers -/
def sP (g g' : Nat → Int32) : Prop := ∀ k, k ≠ 5 → k ≠ 6 → k ≠ 7 → k ≠ 8 → g' k = g k
theorem P_word {L : Nat} (hL : L ≤ 700) : ∀ (n i : Nat) (h : Nat → Int32), i + n = L → h 2 = nI L → h 7 = nI i → (∀ h', sP h h' → h' 5 = h 5 → h' 6 = h 6 → h' 7 = nI (runB leB tx n i) → R (pw w p d h' tx) z) → B_X1_advance_101 p R (n + 1) (pw w p d h tx) z := by
  intro n
  induction n with
  | zero =>
    intro i h h1 h9 h17 hq
    unfold B_X1_advance_101
    exact ⟨_, P_g7, _, P_g2, fun _ => hq h (fun _ _ _ _ _ => rfl) rfl rfl h17, fun hh => absurd (by rw [h9, h17, nIle (by omega) (by omega)]; omega) hh⟩
  | succ n ih =>
    intro i h h1 h9 h17 hq
    unfold B_X1_advance_101
    refine ⟨_, P_g7, _, P_g2, fun hh => ?_, fun _ => ⟨_, P_r1, _, P_g7, _, _, P_a, ?_, P_isLetter ?_⟩⟩
    · rw [h9, h17, nIle (by omega) (by omega)] at hh
      omega
    · rw [h17]
      exact nIin (by omega) (by omega)
    · rw [h17, nI_cl (by omega)]
      by_cases hl : leB (tx i) = true
      · rw [if_pos hl]
        refine ⟨fun hh => absurd hh (by decide), fun _ => ⟨_, P_g7, P_p7 (ih (i + 1) _ (by omega) ((upd_ne (by omega)).trans h9) (by rw [upd_eq, h17, nIs (by omega)]) (fun g' e1 e2 e3 e4 => hq g' ?_ ?_ ?_ ?_))⟩⟩
        · exact fun k a b c d => (e1 k a b c d).trans (upd_ne c)
        · rw [e2, upd_ne (by omega)]
        · rw [e3, upd_ne (by omega)]
        · rw [e4, runB, if_pos hl]
      · rw [if_neg hl]
        refine ⟨fun _ => hq h (fun _ _ _ _ _ => rfl) rfl rfl ?_, fun hh => absurd rfl hh⟩
        rw [runB, if_neg hl]
        exact h17
theorem P_numb {L : Nat} (hL : L ≤ 700) : ∀ (n i : Nat) (h : Nat → Int32), i + n = L → h 2 = nI L → h 7 = nI i → (∀ h', sP h h' → h' 5 = h 5 → h' 6 = h 6 → h' 7 = nI (runB diB tx n i) → h' 8 = numC tx n i (h 8) → R (pw w p d h' tx) z) → B_X1_advance_165 p R (n + 1) (pw w p d h tx) z := by
  intro n
  induction n with
  | zero =>
    intro i h h1 h9 h17 hq
    unfold B_X1_advance_165
    exact ⟨_, P_g7, _, P_g2, fun _ => hq h (fun _ _ _ _ _ => rfl) rfl rfl h17 rfl, fun hh => absurd (by rw [h9, h17, nIle (by omega) (by omega)]; omega) hh⟩
  | succ n ih =>
    intro i h h1 h9 h17 hq
    unfold B_X1_advance_165
    have hin : vp_in (h 7) 700 := by
      rw [h17]
      exact nIin (by omega) (by omega)
    refine ⟨_, P_g7, _, P_g2, fun hh => ?_, fun _ => ⟨_, P_r1, _, P_g7, _, _, P_a, hin, P_isDigit ?_⟩⟩
    · rw [h9, h17, nIle (by omega) (by omega)] at hh
      omega
    · rw [h17, nI_cl (by omega)]
      by_cases hl : diB (tx i) = true
      · rw [if_pos hl]
        refine ⟨fun hh => absurd hh (by decide), fun _ => ⟨_, P_g8, _, P_r1, _, P_g7, _, _, P_a, hin, ?_⟩⟩
        rw [h17, nI_cl (by omega)]
        refine P_p8 ⟨_, P_g7, P_p7 (ih (i + 1) _ (by omega) ((upd_ne (by omega)).trans ((upd_ne (by omega)).trans h9)) (by rw [upd_eq, upd_ne (by omega), h17, nIs (by omega)]) (fun g' e1 e2 e3 e4 e5 => hq g' ?_ ?_ ?_ ?_ ?_))⟩
        · exact fun k a b c d => (e1 k a b c d).trans ((upd_ne c).trans (upd_ne d))
        · rw [e2, upd_ne (by omega), upd_ne (by omega)]
        · rw [e3, upd_ne (by omega), upd_ne (by omega)]
        · rw [e4, runB, if_pos hl]
        · rw [e5, upd_ne (by omega), upd_eq, numC, if_pos hl]
      · rw [if_neg hl]
        refine ⟨fun _ => hq h (fun _ _ _ _ _ => rfl) rfl rfl ?_ ?_, fun hh => absurd rfl hh⟩
        · rw [runB, if_neg hl]
          exact h17
        · rw [numC, if_neg hl]
def tValC (a : Nat → Int32) (L i : Nat) : Int32 := numC a (L - tFrom a L i) (tFrom a L i) 0
theorem P_adv54 {L i : Nat} (hL : L ≤ 700) (hi : tFrom tx L i ≤ L) (h9 : h 2 = nI L) (h17 : h 6 = nI (tFrom tx L i)) (hq : ∀ h', sP h h' → h' 5 = tTok tx L i → h' 6 = nI (tFrom tx L i) → h' 7 = nI (tTo tx L i) → (tTok tx L i = 2 → h' 8 = tValC tx L i) → R (pw w p d h' tx) z) : B_X1_advance_54 p R (pw w p d h tx) z := by
  generalize hf : tFrom tx L i = fr at *
  have tk : tTok tx L i = if L ≤ fr then 0 else if leB (tx fr) then 1 else if diB (tx fr) then 2 else if tx fr = 59 then 3 else 4 := by
    rw [← hf]
    rfl
  have tt : tTo tx L i = if L ≤ fr then fr else if leB (tx fr) then runB leB tx (L - fr) fr else if diB (tx fr) then runB diB tx (L - fr) fr else fr + 1 := by
    rw [← hf]
    rfl
  have tv : tValC tx L i = numC tx (L - fr) fr 0 := by
    rw [← hf]
    rfl
  refine ⟨_, P_g6, P_p7 ⟨_, P_g6, _, P_g2, fun hn => ?_, fun he => P_p5 (hq _ ?_ ?_ ?_ ?_ ?_)⟩⟩
  · rw [upd_ne (by omega), upd_ne (by omega), h17, h9, nIlt (by omega) (by omega)] at hn
    rw [if_neg (by omega)] at tk tt
    have g9 : upd h 7 (h 6) 2 = nI L := (upd_ne (by omega)).trans h9
    have g6 : upd h 7 (h 6) 6 = nI fr := (upd_ne (by omega)).trans h17
    have g7 : upd h 7 (h 6) 7 = nI fr := (upd_eq _ _ _).trans h17
    have hin : vp_in (upd h 7 (h 6) 6) 700 := by
      rw [g6]
      exact nIin (by omega) (by omega)
    refine ⟨_, P_r1, _, P_g6, _, _, P_a, hin, P_isLetter ?_⟩
    rw [g6, nI_cl (by omega)]
    by_cases hl : leB (tx fr) = true
    · rw [if_pos hl]
      rw [if_pos hl] at tk tt
      refine ⟨fun hh => absurd hh (by decide), fun _ => P_p5 ⟨L - fr + 1, P_word hL _ fr _ (by omega) ((upd_ne (by omega)).trans g9) ((upd_ne (by omega)).trans g7) (fun g' e1 e2 e3 e4 => hq g' ?_ ?_ ?_ ?_ ?_)⟩⟩
      · exact fun k a b c d => (e1 k a b c d).trans ((upd_ne a).trans (upd_ne c))
      · rw [e2, upd_eq, tk]
      · rw [e3, upd_ne (by omega), g6]
      · rw [e4, tt]
      · rw [tk]
        exact fun h => absurd h (by decide)
    · rw [if_neg hl]
      rw [if_neg hl] at tk tt
      refine ⟨fun _ => ⟨_, P_r1, _, P_g6, _, _, P_a, hin, P_isDigit ?_⟩, fun hh => absurd rfl hh⟩
      rw [g6, nI_cl (by omega)]
      by_cases hd : diB (tx fr) = true
      · rw [if_pos hd]
        rw [if_pos hd] at tk tt
        refine ⟨fun hh => absurd hh (by decide), fun _ => P_p5 (P_p8 ⟨L - fr + 1, P_numb hL _ fr _ (by omega) ((upd_ne (by omega)).trans ((upd_ne (by omega)).trans g9)) ((upd_ne (by omega)).trans ((upd_ne (by omega)).trans g7)) (fun g' e1 e2 e3 e4 e5 => hq g' ?_ ?_ ?_ ?_ ?_)⟩)⟩
        · exact fun k a b c d => (e1 k a b c d).trans ((upd_ne d).trans ((upd_ne a).trans (upd_ne c)))
        · rw [e2, upd_ne (by omega), upd_eq, tk]
        · rw [e3, upd_ne (by omega), upd_ne (by omega), g6]
        · rw [e4, tt]
        · rw [e5, upd_eq, tv]
          exact fun _ => rfl
      · rw [if_neg hd]
        rw [if_neg hd] at tk tt
        have k199 : ∀ v, v = tTok tx L i → ¬ v = 2 → B_X1_advance_253 p R v p (pw w p d (upd h 7 (h 6)) tx) z := fun v hv hv2 => P_p5 ⟨_, P_g6, P_p7 (hq _ (fun k a b c d => (upd_ne c).trans ((upd_ne a).trans (upd_ne c))) (by rw [upd_ne (by omega), upd_eq, hv]) (by rw [upd_ne (by omega), upd_ne (by omega), g6]) (by rw [upd_eq, upd_ne (by omega), g6, nIs (by omega), tt]) (fun h => absurd (hv.trans h) hv2))⟩
        refine ⟨fun _ => ⟨_, P_r1, _, P_g6, _, _, P_a, hin, fun h59 => k199 4 ?_ (by decide), fun h59 => k199 3 ?_ (by decide)⟩, fun hh => absurd rfl hh⟩
        · rw [g6, nI_cl (by omega)] at h59
          rw [tk, if_neg h59]
        · rw [g6, nI_cl (by omega)] at h59
          rw [tk, if_pos h59]
  · exact fun k a b c d => (upd_ne a).trans (upd_ne c)
  · rw [upd_ne (by omega), upd_ne (by omega), h17, h9, nIlt (by omega) (by omega)] at he
    rw [upd_eq, tk, if_pos (by omega)]
  · rw [upd_ne (by omega), upd_ne (by omega), h17]
  · rw [upd_ne (by omega), upd_ne (by omega), h17, h9, nIlt (by omega) (by omega)] at he
    rw [upd_ne (by omega), upd_eq, h17, tt, if_pos (by omega)]
  · rw [upd_ne (by omega), upd_ne (by omega), h17, h9, nIlt (by omega) (by omega)] at he
    rw [tk, if_pos (by omega)]
    exact fun h => absurd h (by decide)
theorem P_adv16 {L i0 : Nat} (hL : L ≤ 700) : ∀ (n i : Nat) (h : Nat → Int32), i + n = L → tFrom tx L i0 = runB spB tx n i → h 2 = nI L → h 6 = nI i → (∀ h', sP h h' → h' 5 = tTok tx L i0 → h' 6 = nI (tFrom tx L i0) → h' 7 = nI (tTo tx L i0) → (tTok tx L i0 = 2 → h' 8 = tValC tx L i0) → R (pw w p d h' tx) z) → B_X1_advance_16 p R (n + 1) (pw w p d h tx) z := by
  intro n
  induction n with
  | zero =>
    intro i h h1 hf h9 h17 hq
    unfold B_X1_advance_16
    rw [runB] at hf
    exact ⟨_, P_g6, _, P_g2, fun _ => P_adv54 hL (by omega) h9 (by rw [hf]; exact h17) hq, fun hh => absurd (by rw [h9, h17, nIle (by omega) (by omega)]; omega) hh⟩
  | succ n ih =>
    intro i h h1 hf h9 h17 hq
    unfold B_X1_advance_16
    refine ⟨_, P_g6, _, P_g2, fun hh => ?_, fun _ => ⟨_, P_r1, _, P_g6, _, _, P_a, ?_, fun hh => ?_, fun hh => ⟨_, P_g6, P_p6 (ih (i + 1) _ (by omega) ?_ ((upd_ne (by omega)).trans h9) (by rw [upd_eq, h17, nIs (by omega)]) (fun g' e1 => hq g' (fun k a b c d => (e1 k a b c d).trans (upd_ne b))))⟩⟩⟩
    · rw [h9, h17, nIle (by omega) (by omega)] at hh
      omega
    · rw [h17]
      exact nIin (by omega) (by omega)
    · rw [h17, nI_cl (by omega)] at hh
      rw [runB, if_neg (by unfold spB; rw [beq_iff_eq]; exact hh)] at hf
      exact P_adv54 hL (by omega) h9 (by rw [hf]; exact h17) hq
    · rw [h17, nI_cl (by omega)] at hh
      rw [runB, if_pos (by unfold spB; rw [beq_iff_eq]; exact hh)] at hf
      exact hf
theorem P_advance {L i : Nat} (hL : L ≤ 700) (hi : i ≤ L) (h3 : h 3 = 0) (h9 : h 2 = nI L) (h17 : h 7 = nI i) (hq : ∀ h', sP h h' → h' 5 = tTok tx L i → h' 6 = nI (tFrom tx L i) → h' 7 = nI (tTo tx L i) → (tTok tx L i = 2 → h' 8 = tValC tx L i) → R (pw w p d h' tx) z) : F_X1_advance p (pw w p d h tx) z R :=
  ⟨P_i, _, P_g3, fun _ => ⟨fun _ => ⟨_, P_g7, P_p6 ⟨L - i + 1, P_adv16 hL _ i _ (by omega) rfl ((upd_ne (by omega)).trans h9) (by rw [upd_eq]; exact h17) (fun g' e1 => hq g' (fun k a b c d => (e1 k a b c d).trans (upd_ne b)))⟩⟩, fun h => absurd rfl h⟩, fun h => absurd h3 h⟩
/-- after an error nothing moves -/
theorem P_advanceE (h3 : ¬ h 3 = 0) (hq : R (pw w p d h tx) z) : F_X1_advance p (pw w p d h tx) z R :=
  ⟨P_i, _, P_g3, fun h => absurd h h3, fun _ => ⟨fun h => absurd h (by decide), fun _ => hq⟩⟩
theorem P_fail {c : Int32} (h3 : h 3 = 0) (hq : Q (-1) (pw w p d (upd (upd h 3 c) 4 (h 6)) tx) z) : F_X1_fail p c (pw w p d h tx) z Q :=
  ⟨P_i, _, P_g3, fun _ => ⟨fun h => absurd rfl h, fun _ => P_p3 ⟨_, P_g6, P_p4 (by rw [upd_ne (by omega)]; exact hq)⟩⟩, fun h => absurd h3 h⟩
theorem P_failE {c : Int32} (h3 : ¬ h 3 = 0) (hq : Q (-1) (pw w p d h tx) z) : F_X1_fail p c (pw w p d h tx) z Q :=
  ⟨P_i, _, P_g3, fun h => absurd h h3, fun _ => ⟨fun _ => hq, fun h => absurd h (by decide)⟩⟩
end
/-! bytes and numbers -/
def TX (tx a : Nat → Int32) (L : Nat) : Prop := ∀ i, i < L → 0 ≤ (a i).toInt ∧ (a i).toInt ≤ 255 ∧ ((a i).toInt < 128 → tx i = a i) ∧ (128 ≤ (a i).toInt → (tx i).toInt < 0)
section
variable {tx a : Nat → Int32} {L : Nat}
theorem TX.sp (h : TX tx a L) {i : Nat} (hi : i < L) : spB (tx i) = spB (a i) := by
  obtain ⟨h1, h2, h3, h4⟩ := h i hi
  have j : (32 : Int32).toInt = 32 := by decide
  rcases (by omega : (a i).toInt < 128 ∨ 128 ≤ (a i).toInt) with hh | hh
  · rw [h3 hh]
  · have := h4 hh
    unfold spB
    rw [Bool.eq_iff_iff, beq_iff_eq, beq_iff_eq, ieq, ieq, j]
    omega
theorem TX.le (h : TX tx a L) {i : Nat} (hi : i < L) : leB (tx i) = leB (a i) := by
  obtain ⟨h1, h2, h3, h4⟩ := h i hi
  rcases (by omega : (a i).toInt < 128 ∨ 128 ≤ (a i).toInt) with hh | hh
  · rw [h3 hh]
  · have := h4 hh
    rw [Bool.eq_iff_iff, leB_t, leB_t]
    omega
theorem TX.di (h : TX tx a L) {i : Nat} (hi : i < L) : diB (tx i) = diB (a i) := by
  obtain ⟨h1, h2, h3, h4⟩ := h i hi
  rcases (by omega : (a i).toInt < 128 ∨ 128 ≤ (a i).toInt) with hh | hh
  · rw [h3 hh]
  · have := h4 hh
    rw [Bool.eq_iff_iff, diB_t, diB_t]
    omega
theorem TX.semi (h : TX tx a L) {i : Nat} (hi : i < L) : (tx i = 59) = (a i = 59) := by
  obtain ⟨h1, h2, h3, h4⟩ := h i hi
  have j : (59 : Int32).toInt = 59 := by decide
  rcases (by omega : (a i).toInt < 128 ∨ 128 ≤ (a i).toInt) with hh | hh
  · rw [h3 hh]
  · have := h4 hh
    rw [ieq, ieq, j]
    exact propext (by omega)
theorem runB_ext {P : Int32 → Bool} (h : ∀ i, i < L → P (tx i) = P (a i)) : ∀ (n i : Nat), i + n ≤ L → runB P tx n i = runB P a n i := by
  intro n
  induction n with
  | zero => intros; rfl
  | succ n ih =>
    intro i hi
    rw [runB, runB, h i (by omega), ih _ (by omega)]
theorem TX.from (h : TX tx a L) (i : Nat) (hi : i ≤ L) : tFrom tx L i = tFrom a L i := runB_ext (fun i hi => h.sp hi) _ _ (by omega)
theorem tFrom_le (a : Nat → Int32) {i : Nat} (hi : i ≤ L) : i ≤ tFrom a L i ∧ tFrom a L i ≤ L := by
  have := runB_le spB a (L - i) i
  unfold tFrom
  omega
theorem TX.tok (h : TX tx a L) (i : Nat) (hi : i ≤ L) : tTok tx L i = tTok a L i := by
  have h1 := tFrom_le (L := L) a hi
  unfold tTok
  rw [h.from i hi]
  by_cases hl : L ≤ tFrom a L i
  · rw [if_pos hl, if_pos hl]
  · rw [if_neg hl, if_neg hl, h.le (by omega), h.di (by omega)]
    have e := h.semi (i := tFrom a L i) (by omega)
    by_cases h5 : a (tFrom a L i) = 59
    · rw [if_pos h5, if_pos (e.mpr h5)]
    · rw [if_neg h5, if_neg (fun hh => h5 (e.mp hh))]
theorem TX.to (h : TX tx a L) (i : Nat) (hi : i ≤ L) : tTo tx L i = tTo a L i := by
  have h1 := tFrom_le (L := L) a hi
  unfold tTo
  rw [h.from i hi]
  by_cases hl : L ≤ tFrom a L i
  · rw [if_pos hl, if_pos hl]
  · rw [if_neg hl, if_neg hl, h.le (by omega), h.di (by omega), runB_ext (fun i hi => h.le hi) _ _ (by omega), runB_ext (fun i hi => h.di hi) _ _ (by omega)]
theorem jmin_toI (x y : Int32) : (jmin x y).toInt = if y.toInt < x.toInt then y.toInt else x.toInt := by
  unfold jmin
  by_cases hc : y < x
  · rw [if_pos hc, if_pos (ilt.mp hc)]
  · rw [if_neg hc, if_neg (fun hh => hc (ilt.mpr hh))]
theorem num_step {v u c : Int32} (hc : 48 ≤ c.toInt ∧ c.toInt ≤ 57) (hv : 0 ≤ v.toInt ∧ v.toInt ≤ 1000000) (hu : u = jmin 100000 v) : jmin 100000 (u * 10 + c - 48) = jmin 100000 (jmin 1000000 (v * 10 + c - 48)) ∧ 0 ≤ (jmin 1000000 (v * 10 + c - 48)).toInt ∧ (jmin 1000000 (v * 10 + c - 48)).toInt ≤ 1000000 := by
  have j1 : (100000 : Int32).toInt = 100000 := by decide
  have j2 : (1000000 : Int32).toInt = 1000000 := by decide
  have j3 : (10 : Int32).toInt = 10 := by decide
  have j4 : (48 : Int32).toInt = 48 := by decide
  have hu' : u.toInt = if v.toInt < 100000 then v.toInt else 100000 := by rw [hu, jmin_toI, j1]
  have hub : 0 ≤ u.toInt ∧ u.toInt ≤ 100000 := by
    rw [hu']
    split <;> omega
  have e1 : (u * 10 + c - 48).toInt = u.toInt * 10 + c.toInt - 48 := by
    have m1 : (u * 10).toInt = u.toInt * 10 := by rw [im _ _ (by rw [j3]; omega) (by rw [j3]; omega), j3]
    have m2 : (u * 10 + c).toInt = u.toInt * 10 + c.toInt := by rw [ia _ _ (by omega) (by omega), m1]
    rw [isb _ _ (by rw [m2, j4]; omega) (by rw [m2, j4]; omega), m2, j4]
  have e2 : (v * 10 + c - 48).toInt = v.toInt * 10 + c.toInt - 48 := by
    have m1 : (v * 10).toInt = v.toInt * 10 := by rw [im _ _ (by rw [j3]; omega) (by rw [j3]; omega), j3]
    have m2 : (v * 10 + c).toInt = v.toInt * 10 + c.toInt := by rw [ia _ _ (by omega) (by omega), m1]
    rw [isb _ _ (by rw [m2, j4]; omega) (by rw [m2, j4]; omega), m2, j4]
  have e3 : (jmin 1000000 (v * 10 + c - 48)).toInt = if v.toInt * 10 + c.toInt - 48 < 1000000 then v.toInt * 10 + c.toInt - 48 else 1000000 := by rw [jmin_toI, e2, j2]
  refine ⟨ieq.mpr ?_, ?_⟩
  · rw [jmin_toI, jmin_toI, e1, j1, e3]
    split at hu' <;> (repeat' split) <;> omega
  · rw [e3]
    split <;> omega
theorem num_rel (h : TX tx a L) : ∀ (n i : Nat) (v u : Int32), i + n ≤ L → 0 ≤ v.toInt ∧ v.toInt ≤ 1000000 → u = jmin 100000 v → numC tx n i u = jmin 100000 (numV a n i v) := by
  intro n
  induction n with
  | zero => intro i v u _ _ hu; exact hu
  | succ n ih =>
    intro i v u hi hv hu
    rw [numC, numV, h.di (by omega)]
    by_cases hd : diB (a i) = true
    · rw [if_pos hd, if_pos hd]
      have hdd := diB_t.mp hd
      obtain ⟨-, -, h3, -⟩ := h i (by omega)
      rw [h3 (by omega)]
      have s := num_step (u := u) hdd hv hu
      exact ih _ _ _ (by omega) s.2 s.1
    · rw [if_neg hd, if_neg hd]
      exact hu
theorem TX.val (h : TX tx a L) (i : Nat) (hi : i ≤ L) : tValC tx L i = jmin 100000 (tVal a L i) := by
  have h1 := tFrom_le (L := L) a hi
  unfold tValC tVal
  rw [h.from i hi]
  exact num_rel h _ _ _ _ (by omega) (by decide) (by decide)
end
