/-! the same rows, as the reference reads them -/
def RK (g a : Nat → Int32) (L i : Nat) : Prop := i ≤ L ∧ g 9 = nI L ∧ g 19 = 0 ∧ g 11 = 0 ∧ g 12 = -1 ∧ g 15 = tTok a L i ∧ g 16 = nI (tFrom a L i) ∧ g 17 = nI (tTo a L i) ∧ (tTok a L i = 2 → g 18 = tVal a L i)
def RE (g : Nat → Int32) (L : Nat) (c o : Int32) : Prop := g 9 = nI L ∧ g 19 = 1 ∧ g 11 = c ∧ g 12 = o ∧ ∃ fr to, fr ≤ to ∧ to ≤ L ∧ g 16 = nI fr ∧ g 17 = nI to
/-- changes, thrown, the input's and the output's length stay -/
def sQ (g g' : Nat → Int32) : Prop := g' 5 = g 5 ∧ g' 6 = g 6 ∧ g' 9 = g 9 ∧ g' 10 = g 10
theorem sQ.rfl {g : Nat → Int32} : sQ g g := ⟨Eq.refl _, Eq.refl _, Eq.refl _, Eq.refl _⟩
theorem sQ.trans {g g' g'' : Nat → Int32} (h : sQ g g') (h' : sQ g' g'') : sQ g g'' := ⟨h'.1.trans h.1, h'.2.1.trans h.2.1, h'.2.2.1.trans h.2.2.1, h'.2.2.2.trans h.2.2.2⟩
section
variable {w : Mm} {m z L i : Nat} {g : Nat → Int32} {A : Nat → Nat → Int32} {Q : Int32 → Mm → Nat → Prop} {R : Mm → Nat → Prop} {T : Mm → Prop} {c o : Int32}
theorem RE.ne (hE : RE g L c o) : ¬ g 19 = 0 := fun hh => absurd (hE.2.1.symm.trans hh) (by decide)
theorem R_wrong0 (hq : R (rwd w m g A) z) : F_X6_wrong m 0 c (rwd w m g A) z R :=
  ⟨_, R_g19, fun _ => hq, fun _ => ⟨fun h => absurd rfl h, fun _ => hq⟩⟩
theorem R_wrongE {b : Int32} (hE : ¬ g 19 = 0) (hq : R (rwd w m g A) z) : F_X6_wrong m b c (rwd w m g A) z R :=
  ⟨_, R_g19, fun _ => hq, fun h => absurd h hE⟩
theorem R_wrong1 (hK : RK g (A 6) L i) (hq : ∀ g', sQ g g' → RE g' L c (oF (A 6) L i) → R (rwd w m g' A) z) : F_X6_wrong m 1 c (rwd w m g A) z R := by
  obtain ⟨k1, k2, k3, k4, k5, k6, k7, k8, k9⟩ := hK
  have ht := tTo_le (A 6) k1
  refine ⟨_, R_g19, fun h => absurd k3 h, fun _ => ⟨fun _ => R_p19 (R_p11 ⟨_, R_g16, R_p12 (hq _ ⟨?_, ?_, ?_, ?_⟩ ⟨?_, ?_, ?_, ?_, tFrom (A 6) L i, tTo (A 6) L i, ht.1, ht.2, ?_, ?_⟩)⟩), fun h => absurd h (by decide)⟩⟩
  · rw [upd_ne (by omega), upd_ne (by omega), upd_ne (by omega)]
  · rw [upd_ne (by omega), upd_ne (by omega), upd_ne (by omega)]
  · rw [upd_ne (by omega), upd_ne (by omega), upd_ne (by omega)]
  · rw [upd_ne (by omega), upd_ne (by omega), upd_ne (by omega)]
  · rw [upd_ne (by omega), upd_ne (by omega), upd_ne (by omega), k2]
  · rw [upd_ne (by omega), upd_ne (by omega), upd_eq]
  · rw [upd_ne (by omega), upd_eq]
  · rw [upd_eq, upd_ne (by omega), upd_ne (by omega), k7]
    rfl
  · rw [upd_ne (by omega), upd_ne (by omega), upd_ne (by omega), k7]
  · rw [upd_ne (by omega), upd_ne (by omega), upd_ne (by omega), k8]
theorem R_go (hL : L ≤ 700) (hK : RK g (A 6) L i) (hq : ∀ g', sQ g g' → RK g' (A 6) L (tTo (A 6) L i) → R (rwd w m g' A) z) : F_X6_go m (rwd w m g A) z R := by
  obtain ⟨k1, k2, k3, k4, k5, k6, k7, k8, k9⟩ := hK
  have ht := tTo_le (A 6) k1
  refine ⟨_, R_g19, fun h => absurd k3 h, fun _ => ⟨R_i, R_next hL ht.2 k2 k8 (fun g' e1 e2 e3 e4 e5 => hq g' ⟨?_, ?_, ?_, ?_⟩ ⟨ht.2, ?_, ?_, ?_, ?_, e2, e3, e4, e5⟩)⟩⟩
  · exact e1 5 (by omega) (by omega) (by omega) (by omega)
  · exact e1 6 (by omega) (by omega) (by omega) (by omega)
  · exact e1 9 (by omega) (by omega) (by omega) (by omega)
  · exact e1 10 (by omega) (by omega) (by omega) (by omega)
  · rw [e1 9 (by omega) (by omega) (by omega) (by omega), k2]
  · rw [e1 19 (by omega) (by omega) (by omega) (by omega), k3]
  · rw [e1 11 (by omega) (by omega) (by omega) (by omega), k4]
  · rw [e1 12 (by omega) (by omega) (by omega) (by omega), k5]
theorem R_goE (hE : RE g L c o) (hq : R (rwd w m g A) z) : F_X6_go m (rwd w m g A) z R := ⟨_, R_g19, fun _ => hq, fun h => absurd h hE.ne⟩
/-- the number here; the token stays -/
theorem R_here {lo hi : Int32} (hK : RK g (A 6) L i)
    (hok : ∀ v j, sNum (A 6) L lo hi i = .ok (v, j) → Q v (rwd w m g A) z)
    (her : ∀ c o, sNum (A 6) L lo hi i = .error (c, o) → ∀ g', sQ g g' → RE g' L c o → Q lo (rwd w m g' A) z) : F_X6_here m lo hi (rwd w m g A) z Q := by
  have k3 := hK.2.2.1
  have k6 := hK.2.2.2.2.2.1
  have k9 := hK.2.2.2.2.2.2.2.2
  unfold sNum at hok her
  refine ⟨_, R_g15, fun h2 => ⟨R_i, R_wrong0 ⟨_, R_g19, fun h => absurd k3 h, fun _ => ⟨_, R_g18, R_isIn (fun a b => ⟨fun _ => ⟨R_i, R_wrong0 ⟨_, R_g19, fun _ => ⟨_, R_g18, ?_⟩, fun h => absurd k3 h⟩⟩, fun h => absurd h (by decide)⟩) (fun a => ⟨fun h => absurd rfl h, fun _ => ⟨R_i, R_wrong1 hK (fun g' hs hE => ⟨_, R_g19, fun h => absurd h hE.ne, fun _ => her 2 (oF (A 6) L i) ?_ g' hs hE⟩)⟩⟩)⟩⟩⟩, fun h2 => ⟨R_i, R_wrong1 hK (fun g' hs hE => ⟨_, R_g19, fun _ => ⟨R_i, R_wrong0 ⟨_, R_g19, fun h => absurd h hE.ne, fun _ => her 1 (oF (A 6) L i) ?_ g' hs hE⟩⟩, fun h => absurd h hE.ne⟩)⟩⟩
  · rw [k6] at h2
    rw [k9 h2] at a b ⊢
    exact hok _ _ (by rw [if_pos h2, if_pos ⟨ile.mpr a, ile.mpr b⟩])
  · rw [k6] at h2
    rw [k9 h2] at a
    rw [if_pos h2, if_neg (fun hh => a ⟨ile.mp hh.1, ile.mp hh.2⟩)]
  · rw [k6] at h2
    rw [if_neg h2]
theorem R_hereE {lo hi : Int32} (hE : RE g L c o) (hq : Q lo (rwd w m g A) z) : F_X6_here m lo hi (rwd w m g A) z Q := by
  have k42 : B_X6_here_42 m lo hi Q m (rwd w m g A) z := ⟨R_i, R_wrong0 ⟨_, R_g19, fun h => absurd h hE.ne, fun _ => hq⟩⟩
  have k14 : ∀ y, B_X6_here_14 m lo hi Q y m (rwd w m g A) z := fun y => ⟨R_i, R_wrongE hE.ne ⟨_, R_g19, fun _ => k42, fun h => absurd h hE.ne⟩⟩
  exact ⟨_, R_g15, fun _ => k14 _, fun _ => k14 _⟩
theorem sNum_to {a : Nat → Int32} {lo hi v : Int32} {j : Nat} (h : sNum a L lo hi i = .ok (v, j)) : j = tTo a L i := by
  unfold sNum at h
  split at h
  · split at h
    · injection h with h
      injection h with h1 h2
      exact h2.symm
    · exact absurd h (by intro hh; injection hh)
  · exact absurd h (by intro hh; injection hh)
theorem R_number {lo hi : Int32} (hL : L ≤ 700) (hK : RK g (A 6) L i)
    (hok : ∀ v j, sNum (A 6) L lo hi i = .ok (v, j) → ∀ g', sQ g g' → RK g' (A 6) L j → Q v (rwd w m g' A) z)
    (her : ∀ c o, sNum (A 6) L lo hi i = .error (c, o) → ∀ g', sQ g g' → RE g' L c o → Q lo (rwd w m g' A) z) : F_X6_number m lo hi (rwd w m g A) z Q :=
  ⟨R_i, R_here hK (fun v j hr => ⟨R_i, R_go hL hK (fun g' hs hk => hok v j hr g' hs (by rw [sNum_to hr]; exact hk))⟩) (fun c o hr g' hs hE => ⟨R_i, R_goE hE (her c o hr g' hs hE)⟩)⟩
theorem R_numberE {lo hi : Int32} (hE : RE g L c o) (hq : Q lo (rwd w m g A) z) : F_X6_number m lo hi (rwd w m g A) z Q :=
  ⟨R_i, R_hereE hE ⟨R_i, R_goE hE hq⟩⟩
theorem R_ends {y : Int32} (hK : RK g (A 6) L i)
    (hok : ∀ j, sSemi (A 6) L (!(y == 0)) i = .ok j → Q 1 (rwd w m g A) z)
    (her : ∀ c o, sSemi (A 6) L (!(y == 0)) i = .error (c, o) → ∀ g', sQ g g' → RE g' L c o → Q 0 (rwd w m g' A) z) : F_X6_ends m y (rwd w m g A) z Q := by
  have k3 := hK.2.2.1
  have k6 := hK.2.2.2.2.2.1
  unfold sSemi at hok her
  refine ⟨_, R_g15, fun h3 => ⟨R_i, R_wrong0 ⟨_, R_g19, fun h => absurd k3 h, fun _ => ⟨fun hy => ⟨R_i, R_wrong0 ⟨_, R_g19, fun h => absurd k3 h, fun _ => hok (tTo (A 6) L i) ?_⟩⟩, fun hy => ⟨R_i, R_wrong1 hK (fun g' hs hE => ⟨_, R_g19, fun _ => her 6 (oF (A 6) L i) ?_ g' hs hE, fun h => absurd h hE.ne⟩)⟩⟩⟩⟩, fun h3 => ⟨R_i, R_wrong1 hK (fun g' hs hE => ⟨_, R_g19, fun _ => ⟨R_i, R_wrong0 ⟨_, R_g19, fun _ => her 1 (oF (A 6) L i) ?_ g' hs hE, fun h => absurd h hE.ne⟩⟩, fun h => absurd h hE.ne⟩)⟩⟩
  · rw [k6] at h3
    have : (y == 0) = false := beq_eq_false_iff_ne.mpr hy
    rw [if_pos h3, this]
    rfl
  · rw [k6] at h3
    rw [if_pos h3, hy]
    rfl
  · rw [k6] at h3
    rw [if_neg h3]
theorem R_endsE {y : Int32} (hE : RE g L c o) (hq : Q 0 (rwd w m g A) z) : F_X6_ends m y (rwd w m g A) z Q := by
  have k34 : B_X6_ends_34 m y Q m (rwd w m g A) z := ⟨R_i, R_wrong0 ⟨_, R_g19, fun _ => hq, fun h => absurd h hE.ne⟩⟩
  have k14 : ∀ v, B_X6_ends_14 m y Q v m (rwd w m g A) z := fun v => ⟨R_i, R_wrongE hE.ne ⟨_, R_g19, fun _ => k34, fun h => absurd h hE.ne⟩⟩
  exact ⟨_, R_g15, fun _ => k14 _, fun _ => k14 _⟩
theorem R_is28 {q n fr : Nat} {hh : Nat → Int32} {Fz : Nat → Prop} (hn : n ≤ 20) (hfr : fr + n ≤ 700) (h6 : g 16 = nI fr) (hs : Str (rwd w m g A) Fz q n hh) (hc : chr n hh) : ∀ (k1 k : Nat), k + k1 = n → Q (if eqF (A 6) fr hh k1 k = true then 1 else 0) (rwd w m g A) z → B_X6_is_28 m q Q (k1 + 1) (nI k) (rwd w m g A) z := by
  have hi : isO (rwd w m g A) q 0 := by
    obtain ⟨b, b', t, l, fb, h1, h2, h3, h4, h5⟩ := hs
    exact isO_c h3
  intro k1
  induction k1 with
  | zero =>
    intro k hk hq
    unfold B_X6_is_28
    exact ⟨hi, j_length hs ⟨fun _ => hq, fun hx => absurd (by rw [nIle (by omega) (by omega)]; omega) hx⟩⟩
  | succ k1 ih =>
    intro k hk hq
    unfold B_X6_is_28
    have e : (nI fr + nI k : Int32) = nI (fr + k) := ieq.mpr (by rw [ia _ _ (by rw [nI_toInt (by omega), nI_toInt (by omega)]; omega) (by rw [nI_toInt (by omega), nI_toInt (by omega)]; omega), nI_toInt (by omega), nI_toInt (by omega), nI_toInt (by omega)]; omega)
    have hck := hc k (by omega)
    refine ⟨hi, j_length hs ⟨fun hx => absurd ((nIle (by omega) (by omega)).mp hx) (by omega), fun _ => ⟨_, R_r7, _, R_g16, _, _, R_a6, ?_, hi, j_charAt hs (nIin (by omega) (by omega)) (by omega) ?_ ?_ ?_⟩⟩⟩
    · rw [h6, e]
      exact nIin (by omega) (by omega)
    · rw [show cl (nI k) = k from nI_cl (by omega)]
      exact hck.1
    · rw [show cl (nI k) = k from nI_cl (by omega)]
      exact hck.2
    · rw [h6, e, nI_cl (by omega), show cl (nI k) = k from nI_cl (by omega), nIs (by omega)]
      rw [eqF] at hq
      refine ⟨fun he => ih (k + 1) (by omega) ?_, fun he => ?_⟩
      · rw [if_pos he] at hq
        exact hq
      · rw [if_neg he] at hq
        exact hq
theorem R_is {q n : Nat} {hh : Nat → Int32} {Fz : Nat → Prop} (hn : n ≤ 20) (hL : L ≤ 700) (hK : RK g (A 6) L i) (hs : Str (rwd w m g A) Fz q n hh) (hc : chr n hh) (hq : Q (if wIs (A 6) L i n hh = true then 1 else 0) (rwd w m g A) z) : F_X6_is m q (rwd w m g A) z Q := by
  obtain ⟨k1, k2, k3, k4, k5, k6, k7, k8, k9⟩ := hK
  have ht := tTo_le (A 6) k1
  have hf := tFrom_le (L := L) (A 6) k1
  have hi : isO (rwd w m g A) q 0 := by
    obtain ⟨b, b', t, l, fb, h1, h2, h3, h4, h5⟩ := hs
    exact isO_c h3
  have e : (g 17 - g 16 : Int32).toInt = tTo (A 6) L i - tFrom (A 6) L i := by
    rw [k7, k8, isb _ _ (by rw [nI_toInt (by omega), nI_toInt (by omega)]; omega) (by rw [nI_toInt (by omega), nI_toInt (by omega)]; omega), nI_toInt (by omega), nI_toInt (by omega)]
  unfold wIs at hq
  refine ⟨_, R_g15, fun h1 => ?_, fun h1 => ⟨_, R_g17, _, R_g16, hi, j_length hs ⟨fun h2 => ⟨n + 1, ?_⟩, fun h2 => ?_⟩⟩⟩
  · rw [k6] at h1
    rw [beq_eq_false_iff_ne.mpr h1, Bool.false_and, Bool.false_and, if_neg (by decide)] at hq
    exact hq
  · rw [k6] at h1
    have e2 := ieq.mp h2
    rw [e, nI_toInt (by omega)] at e2
    have e3 : tTo (A 6) L i = tFrom (A 6) L i + n := by omega
    rw [h1, e3, beq_self_eq_true, beq_self_eq_true, Bool.true_and, Bool.true_and] at hq
    exact R_is28 hn (by omega) k7 hs hc n 0 (by omega) hq
  · rw [k6] at h1
    have e2 : ¬ tTo (A 6) L i = tFrom (A 6) L i + n := fun hh => h2 (ieq.mpr (by rw [e, nI_toInt (by omega)]; omega))
    rw [beq_eq_false_iff_ne.mpr e2, Bool.and_false, Bool.false_and, if_neg (by decide)] at hq
    exact hq
theorem R_isE {q n : Nat} {hh : Nat → Int32} {Fz : Nat → Prop} (hn : n ≤ 20) (hL : L ≤ 700) (hE : RE g L c o) (hs : Str (rwd w m g A) Fz q n hh) (hc : chr n hh) (hq : ∀ v, v = 0 ∨ v = 1 → Q v (rwd w m g A) z) : F_X6_is m q (rwd w m g A) z Q := by
  obtain ⟨k1, k2, k3, k4, fr, to, k5, k6, k7, k8⟩ := hE
  have hi : isO (rwd w m g A) q 0 := by
    obtain ⟨b, b', t, l, fb, h1, h2, h3, h4, h5⟩ := hs
    exact isO_c h3
  refine ⟨_, R_g15, fun h1 => hq _ (Or.inl rfl), fun h1 => ⟨_, R_g17, _, R_g16, hi, j_length hs ⟨fun h2 => ⟨n + 1, ?_⟩, fun h2 => hq _ (Or.inl rfl)⟩⟩⟩
  have e : (g 17 - g 16 : Int32).toInt = to - fr := by
    rw [k7, k8, isb _ _ (by rw [nI_toInt (by omega), nI_toInt (by omega)]; omega) (by rw [nI_toInt (by omega), nI_toInt (by omega)]; omega), nI_toInt (by omega), nI_toInt (by omega)]
  have e2 := ieq.mp h2
  rw [e, nI_toInt (by omega)] at e2
  refine R_is28 hn (by omega) k7 hs hc n 0 (by omega) (hq _ ?_)
  split
  · exact Or.inr rfl
  · exact Or.inl rfl
end
