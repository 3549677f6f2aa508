/-! tokens -/
def spB (v : Int32) : Bool := v == 32
def leB (v : Int32) : Bool := decide (97 ≤ v) && decide (v ≤ 122)
def diB (v : Int32) : Bool := decide (48 ≤ v) && decide (v ≤ 57)
def runB (P : Int32 → Bool) (a : Nat → Int32) : Nat → Nat → Nat
  | 0, i => i
  | n + 1, i => if P (a i) then runB P a n (i + 1) else i
def numV (a : Nat → Int32) : Nat → Nat → Int32 → Int32
  | 0, _, v => v
  | n + 1, i, v => if diB (a i) then numV a n (i + 1) (jmin 1000000 (v * 10 + a i - 48)) else v
theorem runB_le (P : Int32 → Bool) (a : Nat → Int32) : ∀ (n i : Nat), i ≤ runB P a n i ∧ runB P a n i ≤ i + n := by
  intro n
  induction n with
  | zero => intro i; exact ⟨Nat.le_refl _, Nat.le_refl _⟩
  | succ n ih =>
    intro i
    rw [runB]
    split
    · have := ih (i + 1)
      omega
    · omega
/-- where the token that follows i begins -/
def tFrom (a : Nat → Int32) (L i : Nat) : Nat := runB spB a (L - i) i
def tTok (a : Nat → Int32) (L i : Nat) : Int32 :=
  if L ≤ tFrom a L i then 0 else if leB (a (tFrom a L i)) then 1 else if diB (a (tFrom a L i)) then 2 else if a (tFrom a L i) = 59 then 3 else 4
def tTo (a : Nat → Int32) (L i : Nat) : Nat :=
  if L ≤ tFrom a L i then tFrom a L i else if leB (a (tFrom a L i)) then runB leB a (L - tFrom a L i) (tFrom a L i) else if diB (a (tFrom a L i)) then runB diB a (L - tFrom a L i) (tFrom a L i) else tFrom a L i + 1
def tVal (a : Nat → Int32) (L i : Nat) : Int32 := numV a (L - tFrom a L i) (tFrom a L i) 0
theorem nIs {n : Nat} (h : n < 100000) : nI n + 1 = nI (n + 1) := ieq.mpr (by
  rw [ia _ _ (by rw [nI_toInt (by omega), i_1]; omega) (by rw [nI_toInt (by omega), i_1]; omega), nI_toInt (by omega), nI_toInt (by omega), i_1]
  omega)
theorem nI_cl {n : Nat} (h : n < 1000) : (nI n).toNatClampNeg = n := clnI h
theorem nIle {a b : Nat} (ha : a < 100000) (hb : b < 100000) : nI a ≤ nI b ↔ a ≤ b := by
  rw [ile, nI_toInt (by omega), nI_toInt (by omega)]
  omega
theorem nIlt {a b : Nat} (ha : a < 100000) (hb : b < 100000) : nI a < nI b ↔ a < b := by
  rw [ilt, nI_toInt (by omega), nI_toInt (by omega)]
  omega
theorem nIin {a n : Nat} (ha : a < n) (hn : n < 100000) : vp_in (nI a) n := vp_in_iff.mpr (by rw [nI_toInt (by omega)]; omega)
theorem leB_t {v : Int32} : leB v = true ↔ 97 ≤ v.toInt ∧ v.toInt ≤ 122 := by
  unfold leB
  rw [Bool.and_eq_true, decide_eq_true_eq, decide_eq_true_eq, ile, ile]
  exact Iff.rfl
theorem diB_t {v : Int32} : diB v = true ↔ 48 ≤ v.toInt ∧ v.toInt ≤ 57 := by
  unfold diB
  rw [Bool.and_eq_true, decide_eq_true_eq, decide_eq_true_eq, ile, ile]
  exact Iff.rfl
section
variable {w : Mm} {m z : Nat} {g : Nat → Int32} {A : Nat → Nat → Int32} {Q : Int32 → Mm → Nat → Prop} {R : Mm → Nat → Prop} {T : Mm → Prop}
theorem R_isLetter {i L : Nat} (hg : g 9 = nI L) (hL : L ≤ 700) (hi : i ≤ L) (hq : Q (if i < L ∧ leB (A 6 i) = true then 1 else 0) (rwd w m g A) z) : F_X6_isLetter m (nI i) (rwd w m g A) z Q := by
  have j97 : (97 : Int32).toInt = 97 := by decide
  have j122 : (122 : Int32).toInt = 122 := by decide
  refine ⟨_, R_g9, fun h => ?_, fun h => ⟨_, R_r7, _, _, R_a6, ?_, ?_⟩⟩
  · rw [hg, nIle (by omega) (by omega)] at h
    rw [if_neg (by omega)] at hq
    exact hq
  · rw [hg, nIle (by omega) (by omega)] at h
    exact nIin (by omega) (by omega)
  · rw [hg, nIle (by omega) (by omega)] at h
    rw [nI_cl (by omega)]
    refine R_isIn (fun a b => ⟨fun h => absurd h (by decide), fun _ => ?_⟩) (fun a => ⟨fun _ => ?_, fun h => absurd rfl h⟩)
    · rw [j97] at a
      rw [j122] at b
      rw [if_pos ⟨by omega, leB_t.mpr ⟨a, b⟩⟩] at hq
      exact hq
    · rw [j97, j122] at a
      rw [if_neg (fun h => a (leB_t.mp h.2))] at hq
      exact hq
theorem R_isDigit {i L : Nat} (hg : g 9 = nI L) (hL : L ≤ 700) (hi : i ≤ L) (hq : Q (if i < L ∧ diB (A 6 i) = true then 1 else 0) (rwd w m g A) z) : F_X6_isDigit m (nI i) (rwd w m g A) z Q := by
  have j97 : (48 : Int32).toInt = 48 := by decide
  have j122 : (57 : Int32).toInt = 57 := by decide
  refine ⟨_, R_g9, fun h => ?_, fun h => ⟨_, R_r7, _, _, R_a6, ?_, ?_⟩⟩
  · rw [hg, nIle (by omega) (by omega)] at h
    rw [if_neg (by omega)] at hq
    exact hq
  · rw [hg, nIle (by omega) (by omega)] at h
    exact nIin (by omega) (by omega)
  · rw [hg, nIle (by omega) (by omega)] at h
    rw [nI_cl (by omega)]
    refine R_isIn (fun a b => ⟨fun h => absurd h (by decide), fun _ => ?_⟩) (fun a => ⟨fun _ => ?_, fun h => absurd rfl h⟩)
    · rw [j97] at a
      rw [j122] at b
      rw [if_pos ⟨by omega, diB_t.mpr ⟨a, b⟩⟩] at hq
      exact hq
    · rw [j97, j122] at a
      rw [if_neg (fun h => a (diB_t.mp h.2))] at hq
      exact hq
/-- what stays of the reference's numbers -/
def sG (g g' : Nat → Int32) : Prop := ∀ k, k ≠ 15 → k ≠ 16 → k ≠ 17 → k ≠ 18 → g' k = g k
theorem sG.up {g g' : Nat → Int32} (h : sG g g') {k : Nat} {v : Int32} (hk : k = 15 ∨ k = 16 ∨ k = 17 ∨ k = 18) : sG g (upd g' k v) := fun j h1 h2 h3 h4 => by
  rw [upd_ne (by omega)]
  exact h j h1 h2 h3 h4
theorem R_word {L : Nat} (hL : L ≤ 700) : ∀ (n i : Nat) (g : Nat → Int32), i + n = L → g 9 = nI L → g 17 = nI i → (∀ g', sG g g' → g' 15 = g 15 → g' 16 = g 16 → g' 17 = nI (runB leB (A 6) n i) → R (rwd w m g' A) z) → B_X6_next_81 m R (n + 1) (rwd w m g A) z := by
  intro n
  induction n with
  | zero =>
    intro i g h1 h9 h17 hq
    unfold B_X6_next_81
    refine ⟨_, R_g17, R_i, ?_⟩
    rw [h17]
    refine R_isLetter h9 hL (by omega) ?_
    rw [if_neg (by omega)]
    exact ⟨fun _ => hq g (fun _ _ _ _ _ => rfl) rfl rfl h17, fun h => absurd rfl h⟩
  | succ n ih =>
    intro i g h1 h9 h17 hq
    unfold B_X6_next_81
    refine ⟨_, R_g17, R_i, ?_⟩
    rw [h17]
    refine R_isLetter h9 hL (by omega) ?_
    by_cases hl : leB (A 6 i) = true
    · rw [if_pos ⟨by omega, hl⟩]
      refine ⟨fun h => absurd h (by decide), fun _ => ⟨_, R_g17, R_p17 (ih (i + 1) _ (by omega) (by rw [upd_ne (by omega)]; exact h9) (by rw [upd_eq, h17, nIs (by omega)]) (fun g' e1 e2 e3 e4 => hq g' ?_ ?_ ?_ ?_))⟩⟩
      · exact fun k a b c d => (e1 k a b c d).trans (upd_ne c)
      · rw [e2, upd_ne (by omega)]
      · rw [e3, upd_ne (by omega)]
      · rw [e4, runB, if_pos hl]
    · rw [if_neg (fun h => hl h.2)]
      refine ⟨fun _ => hq g (fun _ _ _ _ _ => rfl) rfl rfl ?_, fun h => absurd rfl h⟩
      rw [runB, if_neg hl]
      exact h17
theorem R_numb {L : Nat} (hL : L ≤ 700) : ∀ (n i : Nat) (g : Nat → Int32), i + n = L → g 9 = nI L → g 17 = nI i → (∀ g', sG g g' → g' 15 = g 15 → g' 16 = g 16 → g' 17 = nI (runB diB (A 6) n i) → g' 18 = numV (A 6) n i (g 18) → R (rwd w m g' A) z) → B_X6_next_126 m R (n + 1) (rwd w m g A) z := by
  intro n
  induction n with
  | zero =>
    intro i g h1 h9 h17 hq
    unfold B_X6_next_126
    refine ⟨_, R_g17, R_i, ?_⟩
    rw [h17]
    refine R_isDigit h9 hL (by omega) ?_
    rw [if_neg (by omega)]
    exact ⟨fun _ => hq g (fun _ _ _ _ _ => rfl) rfl rfl h17 rfl, fun h => absurd rfl h⟩
  | succ n ih =>
    intro i g h1 h9 h17 hq
    unfold B_X6_next_126
    refine ⟨_, R_g17, R_i, ?_⟩
    rw [h17]
    refine R_isDigit h9 hL (by omega) ?_
    by_cases hl : diB (A 6 i) = true
    · rw [if_pos ⟨by omega, hl⟩]
      refine ⟨fun h => absurd h (by decide), fun _ => ⟨_, R_g18, _, R_r7, _, R_g17, _, _, R_a6, ?_, ?_⟩⟩
      · rw [h17]
        exact nIin (by omega) (by omega)
      · rw [h17, nI_cl (by omega)]
        refine R_p18 ⟨_, R_g17, R_p17 (ih (i + 1) _ (by omega) (by rw [upd_ne (by omega), upd_ne (by omega)]; exact h9) (by rw [upd_eq, upd_ne (by omega), h17, nIs (by omega)]) (fun g' e1 e2 e3 e4 e5 => hq g' ?_ ?_ ?_ ?_ ?_))⟩
        · exact fun k a b c d => (e1 k a b c d).trans ((upd_ne c).trans (upd_ne d))
        · rw [e2, upd_ne (by omega), upd_ne (by omega)]
        · rw [e3, upd_ne (by omega), upd_ne (by omega)]
        · rw [e4, runB, if_pos hl]
        · rw [e5, upd_ne (by omega), upd_eq, numV, if_pos hl]
    · rw [if_neg (fun h => hl h.2)]
      refine ⟨fun _ => hq g (fun _ _ _ _ _ => rfl) rfl rfl ?_ ?_, fun h => absurd rfl h⟩
      · rw [runB, if_neg hl]
        exact h17
      · rw [numV, if_neg hl]
theorem R_next38 {L i : Nat} (hL : L ≤ 700) (hi : tFrom (A 6) L i ≤ L) (h9 : g 9 = nI L) (h17 : g 17 = nI (tFrom (A 6) L i)) (hq : ∀ g', sG g g' → g' 15 = tTok (A 6) L i → g' 16 = nI (tFrom (A 6) L i) → g' 17 = nI (tTo (A 6) L i) → (tTok (A 6) L i = 2 → g' 18 = tVal (A 6) L i) → R (rwd w m g' A) z) : B_X6_next_38 m R (rwd w m g A) z := by
  generalize hf : tFrom (A 6) L i = fr at *
  have tk : tTok (A 6) L i = if L ≤ fr then 0 else if leB (A 6 fr) then 1 else if diB (A 6 fr) then 2 else if A 6 fr = 59 then 3 else 4 := by
    rw [← hf]
    rfl
  have tt : tTo (A 6) L i = if L ≤ fr then fr else if leB (A 6 fr) then runB leB (A 6) (L - fr) fr else if diB (A 6 fr) then runB diB (A 6) (L - fr) fr else fr + 1 := by
    rw [← hf]
    rfl
  have tv : tVal (A 6) L i = numV (A 6) (L - fr) fr 0 := by
    rw [← hf]
    rfl
  refine ⟨_, R_g17, R_p16 ⟨_, R_g17, _, R_g9, fun hn => ?_, fun he => R_p15 (hq _ ?_ ?_ ?_ ?_ ?_)⟩⟩
  · rw [upd_ne (by omega), upd_ne (by omega), h17, h9] at hn
    have hlt : fr < L := by
      rcases Nat.lt_or_ge fr L with h | h
      · exact h
      · exact absurd (by rw [show fr = L by omega]) hn
    rw [if_neg (by omega)] at tk tt
    have g9 : upd g 16 (g 17) 9 = nI L := (upd_ne (by omega)).trans h9
    have g17 : upd g 16 (g 17) 17 = nI fr := (upd_ne (by omega)).trans h17
    refine ⟨_, R_g17, R_i, ?_⟩
    rw [g17]
    refine R_isLetter g9 hL hi ?_
    by_cases hl : leB (A 6 fr) = true
    · rw [if_pos ⟨hlt, hl⟩]
      rw [if_pos hl] at tk tt
      refine ⟨fun h => absurd h (by decide), fun _ => R_p15 ⟨L - fr + 1, R_word hL _ fr _ (by omega) ((upd_ne (by omega)).trans g9) ((upd_ne (by omega)).trans g17) (fun g' e1 e2 e3 e4 => hq g' ?_ ?_ ?_ ?_ ?_)⟩⟩
      · exact fun k a b c d => (e1 k a b c d).trans ((upd_ne a).trans (upd_ne b))
      · rw [e2, upd_eq, tk]
      · rw [e3, upd_ne (by omega), upd_eq, h17]
      · rw [e4, tt]
      · rw [tk]
        exact fun h => absurd h (by decide)
    · rw [if_neg (fun h => hl h.2)]
      rw [if_neg hl] at tk tt
      refine ⟨fun _ => ⟨_, R_g17, R_i, ?_⟩, fun h => absurd rfl h⟩
      rw [g17]
      refine R_isDigit g9 hL hi ?_
      by_cases hd : diB (A 6 fr) = true
      · rw [if_pos ⟨hlt, hd⟩]
        rw [if_pos hd] at tk tt
        refine ⟨fun h => absurd h (by decide), fun _ => R_p15 (R_p18 ⟨L - fr + 1, R_numb hL _ fr _ (by omega) ((upd_ne (by omega)).trans ((upd_ne (by omega)).trans g9)) ((upd_ne (by omega)).trans ((upd_ne (by omega)).trans g17)) (fun g' e1 e2 e3 e4 e5 => hq g' ?_ ?_ ?_ ?_ ?_)⟩)⟩
        · exact fun k a b c d => (e1 k a b c d).trans ((upd_ne d).trans ((upd_ne a).trans (upd_ne b)))
        · rw [e2, upd_ne (by omega), upd_eq, tk]
        · rw [e3, upd_ne (by omega), upd_ne (by omega), upd_eq, h17]
        · rw [e4, tt]
        · rw [e5, upd_eq, tv]
          exact fun _ => rfl
      · rw [if_neg (fun h => hd h.2)]
        rw [if_neg hd] at tk tt
        have k199 : ∀ v, v = tTok (A 6) L i → ¬ v = 2 → B_X6_next_199 m R v m (rwd w m (upd g 16 (g 17)) A) z := fun v hv hv2 => R_p15 ⟨_, R_g17, R_p17 (hq _ (fun k a b c d => (upd_ne c).trans ((upd_ne a).trans (upd_ne b))) (by rw [upd_ne (by omega), upd_eq, hv]) (by rw [upd_ne (by omega), upd_ne (by omega), upd_eq, h17]) (by rw [upd_eq, upd_ne (by omega), g17, nIs (by omega), tt]) (fun h => absurd (hv.trans h) hv2))⟩
        refine ⟨fun _ => ⟨_, R_r7, _, R_g17, _, _, R_a6, ?_, fun h59 => k199 4 ?_ (by decide), fun h59 => k199 3 ?_ (by decide)⟩, fun h => absurd rfl h⟩
        · rw [g17]
          exact nIin (by omega) (by omega)
        · rw [g17, nI_cl (by omega)] at h59
          rw [tk, if_neg h59]
        · rw [g17, nI_cl (by omega)] at h59
          rw [tk, if_pos h59]
  · exact fun k a b c d => (upd_ne a).trans (upd_ne b)
  · rw [upd_ne (by omega), upd_ne (by omega), h17, h9] at he
    have : fr = L := by
      have h1 := ieq.mp he
      rw [nI_toInt (by omega), nI_toInt (by omega)] at h1
      omega
    rw [upd_eq, tk, if_pos (by omega)]
  · rw [upd_ne (by omega), upd_eq, h17]
  · rw [upd_ne (by omega), upd_ne (by omega), h17, h9] at he
    have : fr = L := by
      have h1 := ieq.mp he
      rw [nI_toInt (by omega), nI_toInt (by omega)] at h1
      omega
    rw [upd_ne (by omega), upd_ne (by omega), h17, tt, if_pos (by omega)]
  · rw [upd_ne (by omega), upd_ne (by omega), h17, h9] at he
    have : fr = L := by
      have h1 := ieq.mp he
      rw [nI_toInt (by omega), nI_toInt (by omega)] at h1
      omega
    rw [tk, if_pos (by omega)]
    exact fun h => absurd h (by decide)
theorem R_next0 {L i0 : Nat} (hL : L ≤ 700) : ∀ (n i : Nat) (g : Nat → Int32), i + n = L → tFrom (A 6) L i0 = runB spB (A 6) n i → g 9 = nI L → g 17 = nI i → (∀ g', sG g g' → g' 15 = tTok (A 6) L i0 → g' 16 = nI (tFrom (A 6) L i0) → g' 17 = nI (tTo (A 6) L i0) → (tTok (A 6) L i0 = 2 → g' 18 = tVal (A 6) L i0) → R (rwd w m g' A) z) → B_X6_next_0 m R (n + 1) (rwd w m g A) z := by
  intro n
  induction n with
  | zero =>
    intro i g h1 hf h9 h17 hq
    unfold B_X6_next_0
    rw [runB] at hf
    exact ⟨_, R_g17, _, R_g9, fun _ => R_next38 hL (by omega) h9 (by rw [hf]; exact h17) hq, fun h => absurd (by rw [h9, h17, nIle (by omega) (by omega)]; omega) h⟩
  | succ n ih =>
    intro i g h1 hf h9 h17 hq
    unfold B_X6_next_0
    refine ⟨_, R_g17, _, R_g9, fun h => ?_, fun _ => ⟨_, R_r7, _, R_g17, _, _, R_a6, ?_, fun h => ?_, fun h => ⟨_, R_g17, R_p17 (ih (i + 1) _ (by omega) ?_ ((upd_ne (by omega)).trans h9) (by rw [upd_eq, h17, nIs (by omega)]) (fun g' e1 => hq g' (fun k a b c d => (e1 k a b c d).trans (upd_ne c))))⟩⟩⟩
    · rw [h9, h17, nIle (by omega) (by omega)] at h
      omega
    · rw [h17]
      exact nIin (by omega) (by omega)
    · rw [h17, nI_cl (by omega)] at h
      rw [runB, if_neg (by unfold spB; rw [beq_iff_eq]; exact h)] at hf
      exact R_next38 hL (by omega) h9 (by rw [hf]; exact h17) hq
    · rw [h17, nI_cl (by omega)] at h
      rw [runB, if_pos (by unfold spB; rw [beq_iff_eq]; exact h)] at hf
      exact hf
theorem R_next {L i : Nat} (hL : L ≤ 700) (hi : i ≤ L) (h9 : g 9 = nI L) (h17 : g 17 = nI i) (hq : ∀ g', sG g g' → g' 15 = tTok (A 6) L i → g' 16 = nI (tFrom (A 6) L i) → g' 17 = nI (tTo (A 6) L i) → (tTok (A 6) L i = 2 → g' 18 = tVal (A 6) L i) → R (rwd w m g' A) z) : F_X6_next m (rwd w m g A) z R :=
  ⟨L - i + 1, R_next0 hL _ i g (by omega) rfl h9 h17 hq⟩
end
