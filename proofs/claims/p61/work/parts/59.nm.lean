/-! names and kinds -/
def fndF (a : Nat → Int32) (L i : Nat) (f : Nat → Int32) : Nat → Nat → Int32
  | 0, _ => -1
  | n + 1, p => if wIs a L i (cl (f (21 + 13 * p + 6))) (fun k => f (21 + 13 * p + 7 + k)) = true then nI p else fndF a L i f n (p + 1)
def fnd (a : Nat → Int32) (L i : Nat) (f : Nat → Int32) : Int32 := fndF a L i f (cl (f 2)) 0
def isNm (a : Nat → Int32) (L i : Nat) : Bool := (tTok a L i == 1) && decide (tTo a L i ≤ tFrom a L i + 6)
def sKnown (a : Nat → Int32) (L : Nat) (f : Nat → Int32) (i : Nat) : ER Int32 :=
  if isNm a L i = true then (if fnd a L i f = -1 then .error (3, oF a L i) else .ok (fnd a L i f, tTo a L i)) else .error (1, oF a L i)
def sKind (a : Nat → Int32) (L i : Nat) : ER Int32 :=
  if wIs a L i lit_7.length (fun j => lit_7.getD j 0) = true then .ok (1, tTo a L i)
  else if wIs a L i lit_8.length (fun j => lit_8.getD j 0) = true then .ok (2, tTo a L i)
  else if wIs a L i lit_9.length (fun j => lit_9.getD j 0) = true then .ok (0, tTo a L i) else .error (1, oF a L i)
theorem fndF_rng (a : Nat → Int32) (L i : Nat) (f : Nat → Int32) : ∀ (n p : Nat), p + n ≤ 8 → fndF a L i f n p = -1 ∨ vp_in (fndF a L i f n p) (p + n) := by
  intro n
  induction n with
  | zero => intro p _; exact Or.inl rfl
  | succ n ih =>
    intro p hp
    rw [fndF]
    split
    · exact Or.inr (nIin (by omega) (by omega))
    · have := ih (p + 1) (by omega)
      rw [show p + 1 + n = p + (n + 1) by omega] at this
      exact this
theorem fnd_in {a : Nat → Int32} {L i : Nat} {f : Nat → Int32} (h8 : cl (f 2) ≤ 8) (h : ¬ fnd a L i f = -1) : vp_in (fnd a L i f) (cl (f 2)) := by
  have := (fndF_rng a L i f (cl (f 2)) 0 (by omega)).resolve_left h
  rwa [Nat.zero_add] at this
theorem chr_lit (t : List Int32) (h : t.all (fun v => decide (0 ≤ v) && decide (v < 128)) = true) : chr t.length (fun j => t.getD j 0) := by
  intro k hk
  have h1 := List.all_eq_true.mp h (t.getD k 0) (by
    rw [List.getD_eq_getElem?_getD, List.getElem?_eq_getElem hk]
    exact List.getElem_mem hk)
  rw [Bool.and_eq_true, decide_eq_true_eq, decide_eq_true_eq] at h1
  have h2 := ile.mp h1.1
  have h3 := ilt.mp h1.2
  rw [i_0] at h2
  rw [show (128 : Int32).toInt = 128 by decide] at h3
  exact ⟨h2, h3⟩
section
variable {w : Mm} {p d z L i : Nat} {h tx a f : Nat → Int32} {Fz : Nat → Prop} {Q : Int32 → Mm → Nat → Prop} {R : Mm → Nat → Prop} {T : Mm → Prop} {c o : Int32}
theorem HasF.pw (hd : d + 63 ≤ p ∨ p + 2 ≤ d) (hz : ∀ q, Fz q → ¬ (p ≤ q ∧ q < p + 2)) (hF : HasF w d Fz f) : HasF (pw w p d h tx) d Fz f :=
  hF.to (fun q hq => by
    rcases hq with hq | hq
    · exact pw_o (by omega)
    · exact pw_o (hz q hq)) (fun _ h => h)
theorem Inv.ltr (hI : Inv f) {k : Nat} (hk : k < cl (f 2)) : chr (cl (f (21 + 13 * k + 6))) (fun j => f (21 + 13 * k + 7 + j)) := by
  intro j hj
  have := (hI.2.2.2.1 k hk).2.2.2 j hj
  show 0 ≤ (f (21 + 13 * k + 7 + j)).toInt ∧ (f (21 + 13 * k + 7 + j)).toInt < 128
  omega
theorem P_isName (hL : L ≤ 700) (hK : PK h a L i) (hq : Q (if isNm a L i = true then 1 else 0) (pw w p d h tx) z) : F_X1_isName p (pw w p d h tx) z Q := by
  obtain ⟨k1, k2, k3, k4, k5, k6, k7, k8⟩ := hK
  have ht := tTo_le a k1
  have j6 : (6 : Int32).toInt = 6 := by decide
  have e : (h 7 - h 6 : Int32).toInt = tTo a L i - tFrom a L i := by
    rw [k6, k7, isb _ _ (by rw [nI_toInt (by omega), nI_toInt (by omega)]; omega) (by rw [nI_toInt (by omega), nI_toInt (by omega)]; omega), nI_toInt (by omega), nI_toInt (by omega)]
  unfold isNm at hq
  refine ⟨_, P_g5, fun h1 => ?_, fun h1 => ⟨_, P_g7, _, P_g6, fun h2 => ?_, fun h2 => ?_⟩⟩
  · rw [k5] at h1
    rw [beq_eq_false_iff_ne.mpr h1, Bool.false_and, if_neg (by decide)] at hq
    exact hq
  · have h3 := ilt.mp h2
    rw [e, j6] at h3
    rw [decide_eq_false (by omega), Bool.and_false, if_neg (by decide)] at hq
    exact hq
  · have h3 : ¬ (6 : Int32).toInt < (h 7 - h 6 : Int32).toInt := fun hh => h2 (ilt.mpr hh)
    rw [e, j6] at h3
    rw [k5] at h1
    rw [h1, decide_eq_true (by omega), beq_self_eq_true, Bool.and_self, if_pos rfl] at hq
    exact hq
theorem P_isNameE (hq : ∀ v, v = 0 ∨ v = 1 → Q v (pw w p d h tx) z) : F_X1_isName p (pw w p d h tx) z Q :=
  ⟨_, P_g5, fun _ => hq _ (Or.inl rfl), fun _ => ⟨_, P_g7, _, P_g6, fun _ => hq _ (Or.inl rfl), fun _ => hq _ (Or.inr rfl)⟩⟩
theorem P_find2 (hL : L ≤ 700) (hT : TX tx a L) (hK : PK h a L i) (hI : Inv f) (hF : HasF (pw w p d h tx) d Fz f) : ∀ (n k : Nat), k + n = cl (f 2) → Q (fndF a L i f n k) (pw w p d h tx) z → B_X1_findPassenger_2 p Q (n + 1) (nI k) (pw w p d h tx) z := by
  have hB2 := clI hI.2.1.2.1
  have e2 : f 2 = nI (cl (f 2)) := ieq.mpr (by rw [nI_toInt (by omega)]; omega)
  intro n
  induction n with
  | zero =>
    intro k hk hq
    unfold B_X1_findPassenger_2
    exact ⟨_, P_r0, _, hF.g2, fun _ => hq, fun hh => absurd (by rw [e2, nIle (by omega) (by omega)]; omega) hh⟩
  | succ n ih =>
    intro k hk hq
    unfold B_X1_findPassenger_2
    obtain ⟨q, q1, q2⟩ := hF.name hI (p := k) (by omega)
    have hN := clI (hI.2.2.2.1 k (by omega)).2.2.1
    obtain ⟨hd, zn, nm, pa, tk, cs, e1, e3, e4⟩ := id hF
    have hk8 : vp_in (nI k) 8 := nIin (by omega) (by omega)
    have ek : cl (nI k) = k := nI_cl (by omega)
    rw [← ek] at q1
    refine ⟨_, P_r0, _, hF.g2, fun hh => absurd hh (by rw [e2, nIle (by omega) (by omega)]; omega), fun _ => ⟨_, P_r0, _, e1.r9, e1.aP hk8 ⟨_, q1, P_i, P_tokenIs (by omega) hL hT hK q2 (hI.ltr (by omega)) ?_⟩⟩⟩
    rw [fndF] at hq
    by_cases hw : wIs a L i (cl (f (21 + 13 * k + 6))) (fun j => f (21 + 13 * k + 7 + j)) = true
    · rw [if_pos hw] at hq ⊢
      exact ⟨fun hh => absurd hh (by decide), fun _ => hq⟩
    · rw [if_neg hw] at hq ⊢
      exact ⟨fun _ => by rw [nIs (by omega)]; exact ih (k + 1) (by omega) hq, fun hh => absurd rfl hh⟩
theorem P_find2E (hL : L ≤ 700) (hE : PE h L c o) (hI : Inv f) (hF : HasF (pw w p d h tx) d Fz f) (hq : ∀ v, v = -1 ∨ vp_in v (cl (f 2)) → Q v (pw w p d h tx) z) : ∀ (n k : Nat), k + n = cl (f 2) → B_X1_findPassenger_2 p Q (n + 1) (nI k) (pw w p d h tx) z := by
  have hB2 := clI hI.2.1.2.1
  have e2 : f 2 = nI (cl (f 2)) := ieq.mpr (by rw [nI_toInt (by omega)]; omega)
  intro n
  induction n with
  | zero =>
    intro k hk
    unfold B_X1_findPassenger_2
    exact ⟨_, P_r0, _, hF.g2, fun _ => hq _ (Or.inl rfl), fun hh => absurd (by rw [e2, nIle (by omega) (by omega)]; omega) hh⟩
  | succ n ih =>
    intro k hk
    unfold B_X1_findPassenger_2
    obtain ⟨q, q1, q2⟩ := hF.name hI (p := k) (by omega)
    have hN := clI (hI.2.2.2.1 k (by omega)).2.2.1
    obtain ⟨hd, zn, nm, pa, tk, cs, e1, e3, e4⟩ := id hF
    have hk8 : vp_in (nI k) 8 := nIin (by omega) (by omega)
    have ek : cl (nI k) = k := nI_cl (by omega)
    rw [← ek] at q1
    exact ⟨_, P_r0, _, hF.g2, fun hh => absurd hh (by rw [e2, nIle (by omega) (by omega)]; omega), fun _ => ⟨_, P_r0, _, e1.r9, e1.aP hk8 ⟨_, q1, P_i, P_tokenIsE (by omega) hL hE q2 (hI.ltr (by omega)) (fun v _ => ⟨fun _ => by rw [nIs (by omega)]; exact ih (k + 1) (by omega), fun _ => hq _ (Or.inr (nIin (by omega) (by omega)))⟩)⟩⟩⟩
theorem P_known (hd : d + 63 ≤ p ∨ p + 2 ≤ d) (hz : ∀ q, Fz q → ¬ (p ≤ q ∧ q < p + 2)) (hL : L ≤ 700) (hT : TX tx a L) (hK : PK h a L i) (hI : Inv f) (hF : HasF w d Fz f)
    (hok : ∀ v j, sKnown a L f i = .ok (v, j) → ∀ h', PK h' a L j → Q v (pw w p d h' tx) z)
    (her : ∀ c o, sKnown a L f i = .error (c, o) → ∀ h', PE h' L c o → ∀ v, v = -1 → Q v (pw w p d h' tx) z) : F_X1_readKnownName p (pw w p d h tx) z Q := by
  unfold sKnown at hok her
  refine ⟨P_i, P_isName hL hK ?_⟩
  by_cases hn : isNm a L i = true
  · rw [if_pos hn] at hok her ⊢
    refine ⟨fun _ => ⟨P_i, cl (f 2) + 1, P_find2 hL hT hK hI (hF.pw hd hz) _ 0 (by omega) ?_⟩, fun hh => absurd hh (by decide)⟩
    show (¬ fnd a L i f = -1 → _) ∧ (fnd a L i f = -1 → _)
    refine ⟨fun h1 => ?_, fun h1 => ?_⟩
    · rw [if_neg h1] at hok
      exact ⟨P_i, P_adv hL hT hK (fun h' hk => hok _ _ rfl h' hk)⟩
    · rw [if_pos h1] at her
      exact ⟨P_i, P_failK hK (by decide) (fun h' hE => her _ _ rfl h' hE _ rfl)⟩
  · rw [if_neg hn] at her ⊢
    exact ⟨fun hh => absurd rfl hh, fun _ => ⟨P_i, P_failK hK (by decide) (fun h' hE => her _ _ rfl h' hE _ rfl)⟩⟩
theorem P_knownE (hd : d + 63 ≤ p ∨ p + 2 ≤ d) (hz : ∀ q, Fz q → ¬ (p ≤ q ∧ q < p + 2)) (hL : L ≤ 700) (hE : PE h L c o) (hI : Inv f) (hF : HasF w d Fz f) (hq : ∀ v, Q v (pw w p d h tx) z) : F_X1_readKnownName p (pw w p d h tx) z Q :=
  ⟨P_i, P_isNameE (fun v _ => ⟨fun _ => ⟨P_i, cl (f 2) + 1, P_find2E hL hE hI (hF.pw hd hz) (fun v _ => ⟨fun _ => ⟨P_i, P_advanceE hE.ne (hq _)⟩, fun _ => ⟨P_i, P_failE hE.ne (hq _)⟩⟩) _ 0 (by omega)⟩, fun _ => ⟨P_i, P_failE hE.ne (hq _)⟩⟩)⟩
theorem P_kind (hL : L ≤ 700) (hT : TX tx a L) (hK : PK h a L i)
    (hok : ∀ v j, sKind a L i = .ok (v, j) → ∀ h', PK h' a L j → Q v (pw w p d h' tx) z)
    (her : ∀ c o, sKind a L i = .error (c, o) → ∀ h', PE h' L c o → ∀ v, v = -1 → Q v (pw w p d h' tx) z) : F_X1_readKind p (pw w p d h tx) z Q := by
  unfold sKind at hok her
  intro q1 l1
  refine ⟨P_i, P_tokenIs (by decide) hL hT hK l1.str (chr_lit _ (by decide)) ?_⟩
  by_cases h1 : wIs a L i lit_7.length (fun j => lit_7.getD j 0) = true
  · rw [if_pos h1] at hok ⊢
    exact ⟨fun hh => absurd hh (by decide), fun _ => ⟨P_i, P_adv hL hT hK (fun h' hk => hok _ _ rfl h' hk)⟩⟩
  · rw [if_neg h1] at hok her ⊢
    refine ⟨fun _ => fun q2 l2 => ⟨P_i, P_tokenIs (by decide) hL hT hK l2.str (chr_lit _ (by decide)) ?_⟩, fun hh => absurd rfl hh⟩
    by_cases h2 : wIs a L i lit_8.length (fun j => lit_8.getD j 0) = true
    · rw [if_pos h2] at hok ⊢
      exact ⟨fun hh => absurd hh (by decide), fun _ => ⟨P_i, P_adv hL hT hK (fun h' hk => hok _ _ rfl h' hk)⟩⟩
    · rw [if_neg h2] at hok her ⊢
      refine ⟨fun _ => fun q3 l3 => ⟨P_i, P_tokenIs (by decide) hL hT hK l3.str (chr_lit _ (by decide)) ?_⟩, fun hh => absurd rfl hh⟩
      by_cases h3 : wIs a L i lit_9.length (fun j => lit_9.getD j 0) = true
      · rw [if_pos h3] at hok ⊢
        exact ⟨fun _ => ⟨P_i, P_adv hL hT hK (fun h' hk => hok _ _ rfl h' hk)⟩, fun hh => absurd hh (by decide)⟩
      · rw [if_neg h3] at her ⊢
        exact ⟨fun hh => absurd rfl hh, fun _ => ⟨P_i, P_failK hK (by decide) (fun h' hE => her _ _ rfl h' hE _ rfl)⟩⟩
theorem P_kindE (hL : L ≤ 700) (hE : PE h L c o) (hq : ∀ v, Q v (pw w p d h tx) z) : F_X1_readKind p (pw w p d h tx) z Q := by
  intro q1 l1
  exact ⟨P_i, P_tokenIsE (by decide) hL hE l1.str (chr_lit _ (by decide)) (fun _ _ => ⟨fun _ => fun q2 l2 => ⟨P_i, P_tokenIsE (by decide) hL hE l2.str (chr_lit _ (by decide)) (fun _ _ => ⟨fun _ => fun q3 l3 => ⟨P_i, P_tokenIsE (by decide) hL hE l3.str (chr_lit _ (by decide)) (fun _ _ => ⟨fun _ => ⟨P_i, P_advanceE hE.ne (hq _)⟩, fun _ => ⟨P_i, P_failE hE.ne (hq _)⟩⟩)⟩, fun _ => ⟨P_i, P_advanceE hE.ne (hq _)⟩⟩)⟩, fun _ => ⟨P_i, P_advanceE hE.ne (hq _)⟩⟩)⟩
end
