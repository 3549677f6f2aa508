section
variable {w : Mm} {m z L i : Nat} {g : Nat → Int32} {A : Nat → Nat → Int32} {Q : Int32 → Mm → Nat → Prop} {R : Mm → Nat → Prop} {T : Mm → Prop} {c o : Int32}
theorem nIad {a b : Nat} (h : a + b < 1000) : nI a + nI b = nI (a + b) := ieq.mpr (by rw [ia _ _ (by rw [nI_toInt (by omega), nI_toInt (by omega)]; omega) (by rw [nI_toInt (by omega), nI_toInt (by omega)]; omega), nI_toInt (by omega), nI_toInt (by omega), nI_toInt (by omega)]; omega)
theorem R_n45 {K : Int32 → Mm → Nat → Prop} {x1 : Int32} {fr n row : Nat} (hn : n ≤ 6) (hr : row + 7 < 445) (hLT : LT g A fr n) : ∀ (j k : Nat), k + j = n → (eqF (A 6) fr (fun t => A 1 (row + 1 + t)) j k = true → Q x1 (rwd w m g A) z) → (¬ eqF (A 6) fr (fun t => A 1 (row + 1 + t)) j k = true → K (x1 + 1) (rwd w m g A) z) → B_X6_named_45 m K Q (j + 2) x1 (nI row) 1 (nI k) (rwd w m g A) z := by
  intro j
  induction j with
  | zero =>
    intro k hk h1 h0
    unfold B_X6_named_45 B_X6_named_91
    exact ⟨fun hh => absurd hh (by decide), fun _ => ⟨_, R_g14, fun _ => ⟨fun hh => absurd hh (by decide), fun _ => h1 rfl⟩, fun hh => absurd (by rw [hLT.1, nIle (by omega) (by omega)]; omega) hh⟩⟩
  | succ j ih =>
    intro k hk h1 h0
    unfold B_X6_named_45
    have e1 : (nI row + 1 : Int32) + nI k = nI (row + 1 + k) := by
      rw [nIs (by omega), nIad (by omega)]
    refine ⟨fun hh => absurd hh (by decide), fun _ => ⟨_, R_g14, fun hh => absurd hh (by rw [hLT.1, nIle (by omega) (by omega)]; omega), fun _ => ⟨_, R_r0, _, _, R_a1, by rw [e1]; exact nIin (by omega) (by omega), _, R_r13, _, _, R_a8, nIin (by omega) (by omega), fun hh => ?_, fun hh => ?_⟩⟩⟩
    · rw [e1, nI_cl (by omega), nI_cl (by omega), hLT.2 k (by omega)] at hh
      have hf : ¬ eqF (A 6) fr (fun t => A 1 (row + 1 + t)) (j + 1) k = true := by
        rw [eqF, if_neg (fun h => hh h.symm)]
        exact fun h => absurd h (by decide)
      unfold B_X6_named_84 B_X6_named_45 B_X6_named_91
      exact ⟨fun _ => ⟨fun _ => h0 hf, fun h => absurd rfl h⟩, fun h => absurd rfl h⟩
    · rw [e1, nI_cl (by omega), nI_cl (by omega), hLT.2 k (by omega)] at hh
      have hf : eqF (A 6) fr (fun t => A 1 (row + 1 + t)) (j + 1) k = eqF (A 6) fr (fun t => A 1 (row + 1 + t)) j (k + 1) := by
        rw [eqF, if_pos hh.symm]
      unfold B_X6_named_84
      rw [nIs (by omega)]
      exact ih (k + 1) (by omega) (fun h => h1 (hf.trans h)) (fun h => h0 (fun h' => h (hf.symm.trans h')))
theorem R_named2 (hL : L ≤ 700) (hN : isNm (A 6) L i = true) (hi : i ≤ L) (hLT : LT g A (tFrom (A 6) L i) (tTo (A 6) L i - tFrom (A 6) L i)) (hI : Inv (A 1)) : ∀ (n k : Nat), k + n = cl (A 1 2) → Q (fndF (A 6) L i (A 1) n k) (rwd w m g A) z → B_X6_named_2 m Q (n + 1) (nI k) (rwd w m g A) z := by
  have hB2 := clI hI.2.1.2.1
  have e2 : A 1 2 = nI (cl (A 1 2)) := ieq.mpr (by rw [nI_toInt (by omega)]; omega)
  have ht := tTo_le (A 6) hi
  unfold isNm at hN
  rw [Bool.and_eq_true, beq_iff_eq, decide_eq_true_eq] at hN
  intro n
  induction n with
  | zero =>
    intro k hk hq
    unfold B_X6_named_2
    simp only [cl2]
    exact ⟨_, R_r0, _, _, R_a1, vl2, fun _ => hq, fun hh => absurd (by rw [e2, nIle (by omega) (by omega)]; omega) hh⟩
  | succ n ih =>
    intro k hk hq
    unfold B_X6_named_2
    simp only [cl2]
    refine ⟨_, R_r0, _, _, R_a1, vl2, fun hh => absurd hh (by rw [e2, nIle (by omega) (by omega)]; omega), fun _ => ?_⟩
    have hix := ixPn (a := nI k) (k := 6) (nIin (by omega) (by omega)) (by omega)
    have er : (21 + 13 * nI k + 6 : Int32) = nI (21 + 13 * k + 6) := ieq.mpr (by
      have h1 := vp_in_iff.mp hix.1
      have h2 := clI hix.1
      rw [show cl (nI k) = k from nI_cl (by omega)] at hix
      rw [nI_toInt (by omega)]
      have h3 : (21 + 13 * nI k + 6 : Int32).toInt = (cl (21 + 13 * nI k + Int32.ofNat 6) : Nat) := h2.1.symm
      rw [h3, hix.2])
    have hNk := (hI.2.2.2.1 k (by omega)).2.2.1
    have hNc := clI hNk
    rintro _ rfl
    rw [er]
    rw [fndF] at hq
    have hw : wIs (A 6) L i (cl (A 1 (21 + 13 * k + 6))) (fun t => A 1 (21 + 13 * k + 7 + t)) = ((tTo (A 6) L i == tFrom (A 6) L i + cl (A 1 (21 + 13 * k + 6))) && eqF (A 6) (tFrom (A 6) L i) (fun t => A 1 (21 + 13 * k + 7 + t)) (cl (A 1 (21 + 13 * k + 6))) 0) := by
      unfold wIs
      rw [hN.1, beq_self_eq_true, Bool.true_and]
    rw [hw] at hq
    refine ⟨_, R_r0, _, _, R_a1, nIin (by omega) (by omega), _, R_g14, fun hh => ?_, fun hh => ?_⟩
    · rw [nI_cl (by omega), hLT.1] at hh
      have hne : ¬ tTo (A 6) L i = tFrom (A 6) L i + cl (A 1 (21 + 13 * k + 6)) := fun h => hh (ieq.mpr (by rw [nI_toInt (by omega)]; omega))
      rw [beq_eq_false_iff_ne.mpr hne, Bool.false_and, if_neg (by decide)] at hq
      refine ⟨1, ?_⟩
      unfold B_X6_named_45 B_X6_named_91
      exact ⟨fun _ => ⟨fun _ => by rw [nIs (by omega)]; exact ih (k + 1) (by omega) hq, fun h => absurd rfl h⟩, fun h => absurd rfl h⟩
    · rw [nI_cl (by omega), hLT.1] at hh
      have h1 := ieq.mp hh
      rw [nI_toInt (by omega)] at h1
      have hlen : tTo (A 6) L i - tFrom (A 6) L i = cl (A 1 (21 + 13 * k + 6)) := by omega
      rw [show tTo (A 6) L i = tFrom (A 6) L i + cl (A 1 (21 + 13 * k + 6)) by omega, beq_self_eq_true, Bool.true_and] at hq
      refine ⟨cl (A 1 (21 + 13 * k + 6)) + 2, ?_⟩
      refine R_n45 (fr := tFrom (A 6) L i) (n := cl (A 1 (21 + 13 * k + 6))) (row := 21 + 13 * k + 6) (by omega) (by omega) (by rw [← hlen]; exact hLT) _ 0 (by omega) (fun h => ?_) (fun h => ?_)
      · rw [if_pos h] at hq
        exact hq
      · rw [if_neg h] at hq
        rw [nIs (by omega)]
        exact ih (k + 1) (by omega) hq
theorem R_named (hL : L ≤ 700) (hN : isNm (A 6) L i = true) (hi : i ≤ L) (hLT : LT g A (tFrom (A 6) L i) (tTo (A 6) L i - tFrom (A 6) L i)) (hI : Inv (A 1)) (hq : Q (fnd (A 6) L i (A 1)) (rwd w m g A) z) : F_X6_named m (rwd w m g A) z Q :=
  ⟨cl (A 1 2) + 1, R_named2 hL hN hi hLT hI _ 0 (by omega) hq⟩
theorem sKnown_to {a f : Nat → Int32} {v : Int32} {j : Nat} (h : sKnown a L f i = .ok (v, j)) : j = tTo a L i := by
  unfold sKnown at h
  split at h
  · split at h
    · exact absurd h (by intro hh; injection hh)
    · injection h with h
      injection h with h1 h2
      exact h2.symm
  · exact absurd h (by intro hh; injection hh)
theorem R_known (hL : L ≤ 700) (hK : RK g (A 6) L i) (hI : Inv (A 1))
    (hok : ∀ v j, sKnown (A 6) L (A 1) i = .ok (v, j) → ∀ g' A', sQ g g' → sL A A' → RK g' (A 6) L j → Q v (rwd w m g' A') z)
    (her : ∀ c o, sKnown (A 6) L (A 1) i = .error (c, o) → ∀ g' A' v, sQ g g' → sL A A' → RE g' L c o → Q v (rwd w m g' A') z) : F_X6_passengerHere m (rwd w m g A) z Q := by
  unfold sKnown at hok her
  refine ⟨R_i, R_nameHere hL hK (fun hn g' A' hs hk hl hlt => ?_) (fun hn g' hs hE => ?_)⟩
  · have e1 : A' 1 = A 1 := hl 1 (by omega)
    have e6 : A' 6 = A 6 := hl 6 (by omega)
    rw [if_pos hn] at hok her
    refine ⟨_, R_g19, fun _ => ⟨R_i, R_named (L := L) (i := i) hL (by rw [e6]; exact hn) hK.1 (by rw [e6]; exact hlt) (by rw [e1]; exact hI) ?_⟩, fun h => absurd hk.2.2.1 h⟩
    rw [e1, e6]
    refine ⟨_, R_g19, fun h => absurd hk.2.2.1 h, fun _ => ⟨fun h1 => ⟨R_i, R_wrong0 ⟨R_i, R_go hL (by rw [e6]; exact hk) (fun g2 hs2 hk2 => ?_)⟩⟩, fun h1 => ⟨R_i, R_wrong1 (i := i) (L := L) (by rw [e6]; exact hk) (fun g2 hs2 hE2 => ⟨R_i, R_goE hE2 ?_⟩)⟩⟩⟩
    · rw [e6] at hk2
      rw [if_neg h1] at hok
      exact hok _ _ rfl _ _ (hs.trans hs2) hl hk2
    · rw [e6] at hE2
      rw [if_pos h1] at her
      exact her _ _ rfl _ _ _ (hs.trans hs2) hl hE2
  · rw [if_neg hn] at her
    exact ⟨_, R_g19, fun h => absurd h hE.ne, fun _ => ⟨_, R_g19, fun _ => ⟨R_i, R_wrong0 ⟨R_i, R_goE hE (her _ _ rfl _ _ _ hs (fun _ _ => rfl) hE)⟩⟩, fun h => absurd h hE.ne⟩⟩
theorem R_knownE (hE : RE g L c o) (hq : ∀ v, Q v (rwd w m g A) z) : F_X6_passengerHere m (rwd w m g A) z Q :=
  ⟨R_i, R_nameHereE hE ⟨_, R_g19, fun h => absurd h hE.ne, fun _ => ⟨_, R_g19, fun _ => ⟨R_i, R_wrong0 ⟨R_i, R_goE hE (hq _)⟩⟩, fun h => absurd h hE.ne⟩⟩⟩
end
