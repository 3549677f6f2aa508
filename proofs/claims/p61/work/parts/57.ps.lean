/-! the grammar's small rows, as both parsers read them -/
theorem tTo_le (a : Nat → Int32) {L i : Nat} (hi : i ≤ L) : tFrom a L i ≤ tTo a L i ∧ tTo a L i ≤ L := by
  have h1 := tFrom_le (L := L) a hi
  unfold tTo
  split
  · omega
  · split
    · have := runB_le leB a (L - tFrom a L i) (tFrom a L i)
      omega
    · split
      · have := runB_le diB a (L - tFrom a L i) (tFrom a L i)
        omega
      · omega
theorem tTo_lt (a : Nat → Int32) {L i : Nat} (hi : i ≤ L) (h : ¬ tTok a L i = 0) : i < tTo a L i := by
  have h1 := tFrom_le (L := L) a hi
  have hl : ¬ L ≤ tFrom a L i := fun hh => h (by
    unfold tTok
    rw [if_pos hh])
  unfold tTo
  rw [if_neg hl]
  have hn : ∃ n, L - tFrom a L i = n + 1 := ⟨L - tFrom a L i - 1, by omega⟩
  obtain ⟨n, hn⟩ := hn
  split
  · rename_i hb
    rw [hn, runB, if_pos hb]
    have := runB_le leB a n (tFrom a L i + 1)
    omega
  · split
    · rename_i hb
      rw [hn, runB, if_pos hb]
      have := runB_le diB a n (tFrom a L i + 1)
      omega
    · omega
abbrev ER (α : Type) : Type := Except (Int32 × Int32) (α × Nat)
def oF (a : Nat → Int32) (L i : Nat) : Int32 := nI (tFrom a L i)
def sNum (a : Nat → Int32) (L : Nat) (lo hi : Int32) (i : Nat) : ER Int32 :=
  if tTok a L i = 2 then (if lo ≤ tVal a L i ∧ tVal a L i ≤ hi then .ok (tVal a L i, tTo a L i) else .error (2, oF a L i)) else .error (1, oF a L i)
/-- the letters of the token are those of h, from k on -/
def eqF (a : Nat → Int32) (fr : Nat) (h : Nat → Int32) : Nat → Nat → Bool
  | 0, _ => true
  | m + 1, k => if a (fr + k) = h k then eqF a fr h m (k + 1) else false
def wIs (a : Nat → Int32) (L i n : Nat) (h : Nat → Int32) : Bool := (tTok a L i == 1) && (tTo a L i == tFrom a L i + n) && eqF a (tFrom a L i) h n 0
def PK (h a : Nat → Int32) (L i : Nat) : Prop := i ≤ L ∧ h 2 = nI L ∧ h 3 = 0 ∧ h 4 = -1 ∧ h 5 = tTok a L i ∧ h 6 = nI (tFrom a L i) ∧ h 7 = nI (tTo a L i) ∧ (tTok a L i = 2 → h 8 = jmin 100000 (tVal a L i))
def PE (h : Nat → Int32) (L : Nat) (c o : Int32) : Prop := h 2 = nI L ∧ h 3 = c ∧ ¬ c = 0 ∧ h 4 = o ∧ ∃ fr to, fr ≤ to ∧ to ≤ L ∧ h 6 = nI fr ∧ h 7 = nI to
section
variable {w : Mm} {p d z L i : Nat} {h tx a : Nat → Int32} {Q : Int32 → Mm → Nat → Prop} {R : Mm → Nat → Prop} {T : Mm → Prop} {c o : Int32}
theorem PE.ne (hE : PE h L c o) : ¬ h 3 = 0 := fun hh => hE.2.2.1 (hE.2.1.symm.trans hh)
theorem P_adv (hL : L ≤ 700) (hT : TX tx a L) (hK : PK h a L i) (hq : ∀ h', PK h' a L (tTo a L i) → R (pw w p d h' tx) z) : F_X1_advance p (pw w p d h tx) z R := by
  obtain ⟨k1, k2, k3, k4, k5, k6, k7, k8⟩ := hK
  have ht := tTo_le a k1
  refine P_advance hL ht.2 k3 k2 k7 (fun h' e1 e2 e3 e4 e5 => hq h' ⟨ht.2, ?_, ?_, ?_, ?_, ?_, ?_, ?_⟩)
  · rw [e1 2 (by omega) (by omega) (by omega) (by omega), k2]
  · rw [e1 3 (by omega) (by omega) (by omega) (by omega), k3]
  · rw [e1 4 (by omega) (by omega) (by omega) (by omega), k4]
  · rw [e2, hT.tok _ ht.2]
  · rw [e3, hT.from _ ht.2]
  · rw [e4, hT.to _ ht.2]
  · intro h2
    rw [e5 (by rw [hT.tok _ ht.2]; exact h2), hT.val _ ht.2]
theorem P_failK (hK : PK h a L i) (hc : ¬ c = 0) (hq : ∀ h', PE h' L c (oF a L i) → Q (-1) (pw w p d h' tx) z) : F_X1_fail p c (pw w p d h tx) z Q := by
  obtain ⟨k1, k2, k3, k4, k5, k6, k7, k8⟩ := hK
  have ht := tTo_le a k1
  refine P_fail k3 (hq _ ⟨?_, ?_, hc, ?_, tFrom a L i, tTo a L i, ht.1, ht.2, ?_, ?_⟩)
  · rw [upd_ne (by omega), upd_ne (by omega), k2]
  · rw [upd_ne (by omega), upd_eq]
  · rw [upd_eq, k6]
    rfl
  · rw [upd_ne (by omega), upd_ne (by omega), k6]
  · rw [upd_ne (by omega), upd_ne (by omega), k7]
theorem jmin_rng {v lo hi : Int32} (hv : 0 ≤ v.toInt) (hh : hi.toInt < 100000) (hl : lo.toInt < 100000) : (jmin 100000 v < lo ↔ v.toInt < lo.toInt) ∧ (jmin 100000 v ≤ hi ↔ v.toInt ≤ hi.toInt) ∧ (v.toInt ≤ hi.toInt → jmin 100000 v = v) := by
  have j1 : (100000 : Int32).toInt = 100000 := by decide
  have e := jmin_toI 100000 v
  rw [j1] at e
  refine ⟨?_, ?_, fun hx => ieq.mpr ?_⟩
  · rw [ilt, e]
    split <;> omega
  · rw [ile, e]
    split <;> omega
  · rw [e]
    split <;> omega
theorem numV_nn (a : Nat → Int32) : ∀ (n i : Nat) (v : Int32), 0 ≤ v.toInt ∧ v.toInt ≤ 1000000 → 0 ≤ (numV a n i v).toInt ∧ (numV a n i v).toInt ≤ 1000000 := by
  intro n
  induction n with
  | zero => intro i v hv; exact hv
  | succ n ih =>
    intro i v hv
    rw [numV]
    by_cases hd : diB (a i) = true
    · rw [if_pos hd]
      exact ih _ _ (num_step (u := jmin 100000 v) (diB_t.mp hd) hv rfl).2
    · rw [if_neg hd]
      exact hv
theorem tVal_nn (a : Nat → Int32) (L i : Nat) : 0 ≤ (tVal a L i).toInt ∧ (tVal a L i).toInt ≤ 1000000 := numV_nn a _ _ _ (by decide)
theorem P_number {lo hi : Int32} (hL : L ≤ 700) (hT : TX tx a L) (hK : PK h a L i) (hlo : lo.toInt < 100000) (hhi : hi.toInt < 100000)
    (hok : ∀ v j, sNum a L lo hi i = .ok (v, j) → ∀ h', PK h' a L j → Q v (pw w p d h' tx) z)
    (her : ∀ c o, sNum a L lo hi i = .error (c, o) → ∀ h' v, PE h' L c o → Q v (pw w p d h' tx) z) : F_X1_readNumber p lo hi (pw w p d h tx) z Q := by
  have k5 := hK.2.2.2.2.1
  have k8 := hK.2.2.2.2.2.2.2
  have hj := jmin_rng (lo := lo) (hi := hi) (tVal_nn a L i).1 hhi hlo
  unfold sNum at hok her
  refine ⟨_, P_g5, fun h2 => ?_, fun h2 => ⟨P_i, P_failK hK (by decide) (fun h' hE => her 1 (oF a L i) ?_ h' _ hE)⟩⟩
  · rw [k5] at h2
    rw [if_pos h2] at hok her
    have e8 := k8 h2
    refine ⟨_, P_g8, fun h3 => ⟨P_i, P_failK hK (by decide) (fun h' hE => her 2 (oF a L i) ?_ h' _ hE)⟩, fun h3 => ⟨_, P_g8, fun h4 => ⟨_, P_g8, P_i, P_adv hL hT hK (fun h' hk => ?_)⟩, fun h4 => ⟨P_i, P_failK hK (by decide) (fun h' hE => her 2 (oF a L i) ?_ h' _ hE)⟩⟩⟩
    · rw [e8, hj.1] at h3
      rw [if_neg (fun hh => by have := ile.mp hh.1; omega)]
    · rw [e8, hj.1] at h3
      rw [e8, hj.2.1] at h4
      rw [e8, hj.2.2 h4]
      exact hok _ _ (by rw [if_pos ⟨ile.mpr (by omega), ile.mpr h4⟩]) h' hk
    · rw [e8, hj.2.1] at h4
      rw [if_neg (fun hh => by have := ile.mp hh.2; omega)]
  · rw [k5] at h2
    rw [if_neg h2]
theorem P_numberE {lo hi : Int32} (hE : PE h L c o) (hq : ∀ v, Q v (pw w p d h tx) z) : F_X1_readNumber p lo hi (pw w p d h tx) z Q :=
  ⟨_, P_g5, fun _ => ⟨_, P_g8, fun _ => ⟨P_i, P_failE hE.ne (hq _)⟩, fun _ => ⟨_, P_g8, fun _ => ⟨_, P_g8, P_i, P_advanceE hE.ne (hq _)⟩, fun _ => ⟨P_i, P_failE hE.ne (hq _)⟩⟩⟩, fun _ => ⟨P_i, P_failE hE.ne (hq _)⟩⟩
def sSemi (a : Nat → Int32) (L : Nat) (ok : Bool) (i : Nat) : Except (Int32 × Int32) Nat :=
  if tTok a L i = 3 then (if ok then .ok (tTo a L i) else .error (6, oF a L i)) else .error (1, oF a L i)
theorem P_failedK (hK : PK h a L i) (hq : Q 0 (pw w p d h tx) z) : F_X1_failed p (pw w p d h tx) z Q := ⟨_, P_g3, fun _ => hq, fun hh => absurd hK.2.2.1 hh⟩
theorem P_failedE (hE : PE h L c o) (hq : Q 1 (pw w p d h tx) z) : F_X1_failed p (pw w p d h tx) z Q := ⟨_, P_g3, fun hh => absurd hh hE.ne, fun _ => hq⟩
theorem P_semi {y : Int32} (hL : L ≤ 700) (hT : TX tx a L) (hK : PK h a L i)
    (hok : ∀ j, sSemi a L (!(y == 0)) i = .ok j → ∀ h', PK h' a L j → Q 1 (pw w p d h' tx) z)
    (her : ∀ c o, sSemi a L (!(y == 0)) i = .error (c, o) → ∀ h', PE h' L c o → Q 0 (pw w p d h' tx) z) : F_X1_readSemicolon p y (pw w p d h tx) z Q := by
  have k5 := hK.2.2.2.2.1
  unfold sSemi at hok her
  refine ⟨_, P_g5, fun h3 => ⟨fun hy => ⟨P_i, P_adv hL hT hK (fun h' hk => ⟨P_i, P_failedK hk ⟨fun h => absurd rfl h, fun _ => hok _ ?_ h' hk⟩⟩)⟩, fun hy => ⟨P_i, P_failK hK (by decide) (fun h' hE => ⟨P_i, P_failedE hE ⟨fun _ => her 6 (oF a L i) ?_ h' hE, fun h => absurd h (by decide)⟩⟩)⟩⟩, fun h3 => ⟨P_i, P_failK hK (by decide) (fun h' hE => ⟨P_i, P_failedE hE ⟨fun _ => her 1 (oF a L i) ?_ h' hE, fun h => absurd h (by decide)⟩⟩)⟩⟩
  · rw [k5] at h3
    have : (y == 0) = false := beq_eq_false_iff_ne.mpr hy
    rw [if_pos h3, this]
    rfl
  · rw [k5] at h3
    rw [if_pos h3, hy]
    rfl
  · rw [k5] at h3
    rw [if_neg h3]
theorem P_semiE {y : Int32} (hE : PE h L c o) (hq : Q 0 (pw w p d h tx) z) : F_X1_readSemicolon p y (pw w p d h tx) z Q := by
  have k : B_X1_readSemicolon_35 p y Q (pw w p d h tx) z := ⟨P_i, P_failedE hE ⟨fun _ => hq, fun h => absurd h (by decide)⟩⟩
  exact ⟨_, P_g5, fun _ => ⟨fun _ => ⟨P_i, P_advanceE hE.ne k⟩, fun _ => ⟨P_i, P_failE hE.ne k⟩⟩, fun _ => ⟨P_i, P_failE hE.ne k⟩⟩
/-! a token against a string -/
theorem isLit.str {w : Mm} {q : Nat} {t : List Int32} (hl : isLit w q t) : Str w (fun _ => True) q t.length (fun j => t.getD j 0) := by
  obtain ⟨v, f, h1, h2, h3⟩ := hl
  exact ⟨_, _, v, [], f, trivial, trivial, h1, h2, h3⟩
def chr (n : Nat) (hh : Nat → Int32) : Prop := ∀ k, k < n → 0 ≤ (hh k).toInt ∧ (hh k).toInt < 128
theorem runB_all {P : Int32 → Bool} (a : Nat → Int32) : ∀ (n i k : Nat), i ≤ k → k < runB P a n i → P (a k) = true := by
  intro n
  induction n with
  | zero =>
    intro i k h1 h2
    rw [runB] at h2
    omega
  | succ n ih =>
    intro i k h1 h2
    rw [runB] at h2
    by_cases hp : P (a i) = true
    · rw [if_pos hp] at h2
      by_cases hk : k = i
      · rw [hk]
        exact hp
      · exact ih _ _ (by omega) h2
    · rw [if_neg hp] at h2
      omega
/-- the letters of a word -/
theorem word_le (a : Nat → Int32) {L i k : Nat} (h1 : tTok a L i = 1) (h2 : tFrom a L i ≤ k) (h3 : k < tTo a L i) : leB (a k) = true := by
  have hl : ¬ L ≤ tFrom a L i := fun hh => by
    unfold tTok at h1
    rw [if_pos hh] at h1
    exact absurd h1 (by decide)
  have hb : leB (a (tFrom a L i)) = true := by
    unfold tTok at h1
    rw [if_neg hl] at h1
    by_cases hb : leB (a (tFrom a L i)) = true
    · exact hb
    · rw [if_neg hb] at h1
      split at h1
      · exact absurd h1 (by decide)
      · split at h1
        · exact absurd h1 (by decide)
        · exact absurd h1 (by decide)
  unfold tTo at h3
  rw [if_neg hl, if_pos hb] at h3
  exact runB_all a _ _ _ h2 h3
theorem P_tok28 {q n fr : Nat} {hh : Nat → Int32} {Fz : Nat → Prop} (hn : n ≤ 20) (hfr : fr + n ≤ L) (hL : L ≤ 700) (h6 : h 6 = nI fr) (hw : ∀ k, k < n → tx (fr + k) = a (fr + k)) (hs : Str (pw w p d h tx) Fz q n hh) (hc : chr n hh) : ∀ (m k : Nat), k + m = n → Q (if eqF a fr hh m k = true then 1 else 0) (pw w p d h tx) z → B_X1_tokenIs_28 p q Q (m + 1) (nI k) (pw w p d h tx) z := by
  have hi : isO (pw w p d h tx) q 0 := by
    obtain ⟨b, b', t, l, fb, h1, h2, h3, h4, h5⟩ := hs
    exact isO_c h3
  intro m
  induction m with
  | zero =>
    intro k hk hq
    unfold B_X1_tokenIs_28
    exact ⟨hi, j_length hs ⟨fun _ => hq, fun hx => absurd (by rw [nIle (by omega) (by omega)]; omega) hx⟩⟩
  | succ m ih =>
    intro k hk hq
    unfold B_X1_tokenIs_28
    have e : (nI fr + nI k : Int32) = nI (fr + k) := ieq.mpr (by rw [ia _ _ (by rw [nI_toInt (by omega), nI_toInt (by omega)]; omega) (by rw [nI_toInt (by omega), nI_toInt (by omega)]; omega), nI_toInt (by omega), nI_toInt (by omega), nI_toInt (by omega)]; omega)
    have hck := hc k (by omega)
    refine ⟨hi, j_length hs ⟨fun hx => absurd ((nIle (by omega) (by omega)).mp hx) (by omega), fun _ => ⟨_, P_r1, _, P_g6, _, _, P_a, ?_, hi, j_charAt hs (nIin (by omega) (by omega)) (by omega) ?_ ?_ ?_⟩⟩⟩
    · rw [h6, e]
      exact nIin (by omega) (by omega)
    · rw [show cl (nI k) = k from nI_cl (by omega)]
      exact hck.1
    · rw [show cl (nI k) = k from nI_cl (by omega)]
      exact hck.2
    · rw [h6, e, nI_cl (by omega), show cl (nI k) = k from nI_cl (by omega), hw k (by omega), nIs (by omega)]
      rw [eqF] at hq
      refine ⟨fun he => ih (k + 1) (by omega) ?_, fun he => ?_⟩
      · rw [if_pos he] at hq
        exact hq
      · rw [if_neg he] at hq
        exact hq
theorem P_tokenIs {q n : Nat} {hh : Nat → Int32} {Fz : Nat → Prop} (hn : n ≤ 20) (hL : L ≤ 700) (hT : TX tx a L) (hK : PK h a L i) (hs : Str (pw w p d h tx) Fz q n hh) (hc : chr n hh) (hq : Q (if wIs a L i n hh = true then 1 else 0) (pw w p d h tx) z) : F_X1_tokenIs p q (pw w p d h tx) z Q := by
  obtain ⟨k1, k2, k3, k4, k5, k6, k7, k8⟩ := hK
  have ht := tTo_le a k1
  have hf := tFrom_le (L := L) a k1
  have hi : isO (pw w p d h tx) q 0 := by
    obtain ⟨b, b', t, l, fb, h1, h2, h3, h4, h5⟩ := hs
    exact isO_c h3
  unfold wIs at hq
  refine ⟨_, P_g5, fun h1 => ?_, fun h1 => ⟨_, P_g7, _, P_g6, hi, j_length hs ⟨fun h2 => ⟨n + 1, ?_⟩, fun h2 => ?_⟩⟩⟩
  · rw [k5] at h1
    rw [beq_eq_false_iff_ne.mpr h1, Bool.false_and, Bool.false_and, if_neg (by decide)] at hq
    exact hq
  · rw [k5] at h1
    have e : (h 7 - h 6 : Int32).toInt = tTo a L i - tFrom a L i := by
      rw [k6, k7, isb _ _ (by rw [nI_toInt (by omega), nI_toInt (by omega)]; omega) (by rw [nI_toInt (by omega), nI_toInt (by omega)]; omega), nI_toInt (by omega), nI_toInt (by omega)]
    have e2 := ieq.mp h2
    rw [e, nI_toInt (by omega)] at e2
    have e3 : tTo a L i = tFrom a L i + n := by omega
    rw [h1, e3, beq_self_eq_true, beq_self_eq_true, Bool.true_and, Bool.true_and] at hq
    refine P_tok28 hn (by omega) hL k6 (fun k hk => ?_) hs hc n 0 (by omega) hq
    have hl := word_le a (k := tFrom a L i + k) h1 (by omega) (by omega)
    exact (hT _ (by omega)).2.2.1 (by have := leB_t.mp hl; omega)
  · rw [k5] at h1
    have e : (h 7 - h 6 : Int32).toInt = tTo a L i - tFrom a L i := by
      rw [k6, k7, isb _ _ (by rw [nI_toInt (by omega), nI_toInt (by omega)]; omega) (by rw [nI_toInt (by omega), nI_toInt (by omega)]; omega), nI_toInt (by omega), nI_toInt (by omega)]
    have e2 : ¬ tTo a L i = tFrom a L i + n := fun hh => h2 (ieq.mpr (by rw [e, nI_toInt (by omega)]; omega))
    rw [beq_eq_false_iff_ne.mpr e2, Bool.and_false, Bool.false_and, if_neg (by decide)] at hq
    exact hq
/-- after an error: some answer, nothing changed -/
theorem P_tok28E {q n fr : Nat} {hh : Nat → Int32} {Fz : Nat → Prop} (hn : n ≤ 20) (hfr : fr + n ≤ 700) (h6 : h 6 = nI fr) (hs : Str (pw w p d h tx) Fz q n hh) (hc : chr n hh) (hq : ∀ v, v = 0 ∨ v = 1 → Q v (pw w p d h tx) z) : ∀ (m k : Nat), k + m = n → B_X1_tokenIs_28 p q Q (m + 1) (nI k) (pw w p d h tx) z := by
  have hi : isO (pw w p d h tx) q 0 := by
    obtain ⟨b, b', t, l, fb, h1, h2, h3, h4, h5⟩ := hs
    exact isO_c h3
  intro m
  induction m with
  | zero =>
    intro k hk
    unfold B_X1_tokenIs_28
    exact ⟨hi, j_length hs ⟨fun _ => hq _ (Or.inr rfl), fun hx => absurd (by rw [nIle (by omega) (by omega)]; omega) hx⟩⟩
  | succ m ih =>
    intro k hk
    unfold B_X1_tokenIs_28
    have e : (nI fr + nI k : Int32) = nI (fr + k) := ieq.mpr (by rw [ia _ _ (by rw [nI_toInt (by omega), nI_toInt (by omega)]; omega) (by rw [nI_toInt (by omega), nI_toInt (by omega)]; omega), nI_toInt (by omega), nI_toInt (by omega), nI_toInt (by omega)]; omega)
    have hck := hc k (by omega)
    refine ⟨hi, j_length hs ⟨fun hx => absurd ((nIle (by omega) (by omega)).mp hx) (by omega), fun _ => ⟨_, P_r1, _, P_g6, _, _, P_a, ?_, hi, j_charAt hs (nIin (by omega) (by omega)) (by omega) ?_ ?_ ?_⟩⟩⟩
    · rw [h6, e]
      exact nIin (by omega) (by omega)
    · rw [show cl (nI k) = k from nI_cl (by omega)]
      exact hck.1
    · rw [show cl (nI k) = k from nI_cl (by omega)]
      exact hck.2
    · rw [nIs (by omega)]
      exact ⟨fun _ => ih (k + 1) (by omega), fun _ => hq _ (Or.inl rfl)⟩
theorem P_tokenIsE {q n : Nat} {hh : Nat → Int32} {Fz : Nat → Prop} (hn : n ≤ 20) (hL : L ≤ 700) (hE : PE h L c o) (hs : Str (pw w p d h tx) Fz q n hh) (hc : chr n hh) (hq : ∀ v, v = 0 ∨ v = 1 → Q v (pw w p d h tx) z) : F_X1_tokenIs p q (pw w p d h tx) z Q := by
  obtain ⟨k1, k2, k3, k4, fr, to, k5, k6, k7, k8⟩ := hE
  have hi : isO (pw w p d h tx) q 0 := by
    obtain ⟨b, b', t, l, fb, h1, h2, h3, h4, h5⟩ := hs
    exact isO_c h3
  refine ⟨_, P_g5, fun h1 => hq _ (Or.inl rfl), fun h1 => ⟨_, P_g7, _, P_g6, hi, j_length hs ⟨fun h2 => ⟨n + 1, ?_⟩, fun h2 => hq _ (Or.inl rfl)⟩⟩⟩
  have e : (h 7 - h 6 : Int32).toInt = to - fr := by
    rw [k7, k8, isb _ _ (by rw [nI_toInt (by omega), nI_toInt (by omega)]; omega) (by rw [nI_toInt (by omega), nI_toInt (by omega)]; omega), nI_toInt (by omega), nI_toInt (by omega)]
  have e2 := ieq.mp h2
  rw [e, nI_toInt (by omega)] at e2
  exact P_tok28E hn (by omega) k7 hs hc hq n 0 (by omega)
def sKey (a : Nat → Int32) (L : Nat) (t : List Int32) (i : Nat) : Except (Int32 × Int32) Nat := if wIs a L i t.length (fun j => t.getD j 0) = true then .ok (tTo a L i) else .error (1, oF a L i)
theorem P_key {q : Nat} {t : List Int32} (hl : isLit (pw w p d h tx) q t) (hn : t.length ≤ 20) (hc : chr t.length (fun j => t.getD j 0)) (hL : L ≤ 700) (hT : TX tx a L) (hK : PK h a L i)
    (hok : ∀ j, sKey a L t i = .ok j → ∀ h', PK h' a L j → R (pw w p d h' tx) z)
    (her : ∀ c o, sKey a L t i = .error (c, o) → ∀ h', PE h' L c o → R (pw w p d h' tx) z) : F_X1_readKeyword p q (pw w p d h tx) z R := by
  unfold sKey at hok her
  refine ⟨P_i, P_tokenIs hn hL hT hK hl.str hc ?_⟩
  by_cases hw : wIs a L i t.length (fun j => t.getD j 0) = true
  · rw [if_pos hw] at hok ⊢
    exact ⟨fun _ => ⟨P_i, P_adv hL hT hK (fun h' hk => hok _ rfl h' hk)⟩, fun hx => absurd hx (by decide)⟩
  · rw [if_neg hw] at her ⊢
    exact ⟨fun hx => absurd rfl hx, fun _ => ⟨P_i, P_failK hK (by decide) (fun h' hE => her _ _ rfl h' hE)⟩⟩
theorem P_keyE {q : Nat} {t : List Int32} (hl : isLit (pw w p d h tx) q t) (hn : t.length ≤ 20) (hc : chr t.length (fun j => t.getD j 0)) (hL : L ≤ 700) (hE : PE h L c o) (hq : R (pw w p d h tx) z) : F_X1_readKeyword p q (pw w p d h tx) z R :=
  ⟨P_i, P_tokenIsE hn hL hE hl.str hc (fun v _ => ⟨fun _ => ⟨P_i, P_advanceE hE.ne hq⟩, fun _ => ⟨P_i, P_failE hE.ne hq⟩⟩)⟩
end
