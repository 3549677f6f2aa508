/-! the cases are written: the reference -/
def RW (g0 : Nat → Int32) (A0 : Nat → Nat → Int32) (l : List Int32) (g : Nat → Int32) (A : Nat → Nat → Int32) : Prop := (g 10 = nI l.length ∧ ∀ i, i < l.length → A 7 i = l.getD i 0) ∧ (∀ k, k ≠ 10 → g k = g0 k) ∧ ∀ k, k ≠ 7 → A k = A0 k
theorem nI_mod10 {k : Nat} (h : k < 100000) : (48 + (nI k - nI k / 10 * 10) : Int32) = nI (48 + k % 10) := by
  have e0 : (10 : Int32) = nI 10 := rfl
  have e1 : (nI k / 10 : Int32) = nI (k / 10) := by
    rw [e0]
    exact nI_div h (by omega) (by omega)
  have e2 : (nI (k / 10) * 10 : Int32).toInt = ((k / 10 : Nat) : Int) * 10 := by
    rw [im _ _ (by rw [nI_toInt (by omega), i10]; omega) (by rw [nI_toInt (by omega), i10]; omega), nI_toInt (by omega), i10]
  have e3 : (nI k - nI (k / 10) * 10 : Int32).toInt = (k % 10 : Nat) := by
    rw [isb _ _ (by rw [e2, nI_toInt (by omega)]; omega) (by rw [e2, nI_toInt (by omega)]; omega), e2, nI_toInt (by omega)]
    omega
  rw [e1]
  refine ieq.mpr ?_
  rw [ia _ _ (by rw [e3, show (48 : Int32).toInt = 48 by decide]; omega) (by rw [e3, show (48 : Int32).toInt = 48 by decide]; omega), e3, nI_toInt (by omega), show (48 : Int32).toInt = 48 by decide]
  omega
section
variable {w : Mm} {m z : Nat} {g g0 f : Nat → Int32} {A A0 : Nat → Nat → Int32} {l : List Int32} {Q : Int32 → Mm → Nat → Prop} {R : Mm → Nat → Prop}
theorem RW.a1 (h : RW g0 A0 l g A) : A 1 = A0 1 := h.2.2 1 (by omega)
theorem M_out {v : Int32} (h : RW g0 A0 l g A) (hl : l.length + 1 ≤ 300) (hq : ∀ g' A', RW g0 A0 (l ++ [v]) g' A' → R (rwd w m g' A') z) : F_X6_out m v (rwd w m g A) z R := by
  obtain ⟨⟨h1, h2⟩, h3, h4⟩ := h
  refine ⟨_, R_r8, _, R_g10, _, _, R_w7, by rw [h1]; exact nIin (by omega) (by omega), ?_⟩
  rintro _ rfl
  rw [R_s7, h1, nI_cl (by omega)]
  refine ⟨_, R_g10, R_p10 (hq _ _ ⟨⟨?_, fun i hi => ?_⟩, fun k hk => ?_, fun k hk => ?_⟩)⟩
  · rw [upd_eq, h1, nIs (by omega), List.length_append]
    rfl
  · rw [List.length_append, List.length_singleton] at hi
    rw [updA_eq]
    by_cases hil : i = l.length
    · rw [hil, upd_eq, getD_app2 (Nat.le_refl _), Nat.sub_self]
      rfl
    · rw [upd_ne hil, getD_app1 (by omega)]
      exact h2 i (by omega)
  · rw [upd_ne hk]
    exact h3 k hk
  · rw [updA_ne hk]
    exact h4 k hk
theorem M_digit {k u u' n : Nat} {a1 : Int32} (ha : a1 = nI k) (hk : k ≤ 9999) (hu : u ≤ 1000) (hu0 : 0 < u) (hu' : u / 10 = u') (h : RW g0 A0 l g A) (hl : l.length + 1 ≤ 300) (hq : ∀ g' A', RW g0 A0 (l ++ [nI (48 + k / u % 10)]) g' A' → B_X6_outNumber_18 m a1 R n (nI u') (rwd w m g' A') z) : B_X6_outNumber_18 m a1 R (n + 1) (nI u) (rwd w m g A) z := by
  have hle : k / u ≤ k := Nat.div_le_self k u
  unfold B_X6_outNumber_18
  refine ⟨fun hh => absurd (ile.mp hh) (by rw [nI_toInt (by omega), i_0]; omega), fun _ => ⟨fun hh => absurd (ieq.mp hh) (by rw [nI_toInt (by omega), i_0]; omega), R_i, ?_⟩⟩
  rw [ha, nI_div (by omega) (by omega) (by omega), nI_mod10 (by omega)]
  refine M_out h hl (fun g' A' h' => ?_)
  rintro _ rfl
  have e : (nI u / 10 : Int32) = nI u' := by
    rw [show (10 : Int32) = nI 10 from rfl, nI_div (by omega) (by omega) (by omega), hu']
  rw [e, ← ha]
  exact hq g' A' h'
theorem M_digit0 {n : Nat} {a1 : Int32} (hq : R (rwd w m g A) z) : B_X6_outNumber_18 m a1 R (n + 1) (nI 0) (rwd w m g A) z := by
  unfold B_X6_outNumber_18
  exact ⟨fun _ => hq, fun hh => absurd (ile.mpr (by rw [nI_toInt (by omega), i_0]; omega)) hh⟩
theorem M_unit {k u n : Nat} (hk : k ≤ 9999) (hu : u ≤ 1000) (hu0 : 0 < u) (h1 : k / u ≤ 9 → ∃ n, B_X6_outNumber_18 m (nI k) R n (nI u) (rwd w m g A) z) (h2 : ¬ k / u ≤ 9 → B_X6_outNumber_2 m (nI k) R n (nI (u * 10)) (rwd w m g A) z) : B_X6_outNumber_2 m (nI k) R (n + 1) (nI u) (rwd w m g A) z := by
  have hle : k / u ≤ k := Nat.div_le_self k u
  unfold B_X6_outNumber_2
  rw [nI_div (by omega) (by omega) (by omega)]
  refine ⟨fun hh => absurd (ieq.mp hh) (by rw [nI_toInt (by omega), i_0]; omega), fun hh => h1 ((nIle (b := 9) (by omega) (by omega)).mp hh), fun hh => ?_⟩
  rintro _ rfl
  have e : (nI u * 10 : Int32) = nI (u * 10) := ieq.mpr (by
    rw [im _ _ (by rw [nI_toInt (by omega), i10]; omega) (by rw [nI_toInt (by omega), i10]; omega), nI_toInt (by omega), nI_toInt (by omega), i10]
    omega)
  rw [e]
  exact h2 (fun h => hh ((nIle (b := 9) (by omega) (by omega)).mpr h))
theorem M_outNumber {k : Nat} (hk : k ≤ 9999) (h : RW g0 A0 l g A) (hl : l.length + 4 ≤ 300) (hq : ∀ g' A', RW g0 A0 (l ++ dgs k) g' A' → R (rwd w m g' A') z) : F_X6_outNumber m (nI k) (rwd w m g A) z R := by
  have L1 : ∀ (v : Int32), (l ++ [v]).length = l.length + 1 := fun v => List.length_append
  have L2 : ∀ (v u : Int32), ((l ++ [v]) ++ [u]).length = l.length + 2 := fun v u => by rw [List.length_append, L1]; rfl
  have L3 : ∀ (v u t : Int32), (((l ++ [v]) ++ [u]) ++ [t]).length = l.length + 3 := fun v u t => by rw [List.length_append, L2]; rfl
  refine ⟨4, ?_⟩
  refine M_unit (u := 1) hk (by omega) (by omega) (fun h1 => ⟨2, ?_⟩) (fun h1 => M_unit (u := 10) hk (by omega) (by omega) (fun h2 => ⟨3, ?_⟩) (fun h2 => M_unit (u := 100) hk (by omega) (by omega) (fun h3 => ⟨4, ?_⟩) (fun h3 => M_unit (u := 1000) hk (by omega) (by omega) (fun h4 => ⟨5, ?_⟩) (fun h4 => ?_))))
  · refine M_digit (u' := 0) rfl hk (by omega) (by omega) rfl h (by omega) (fun g1 A1 h1' => M_digit0 (hq g1 A1 ?_))
    have : dgs k = [nI (48 + k / 1 % 10)] := by
      unfold dgs
      rw [if_pos (by omega), show k / 1 % 10 = k by omega]
    rw [this]
    exact h1'
  · refine M_digit (u' := 1) rfl hk (by omega) (by omega) rfl h (by omega) (fun g1 A1 k1 => M_digit (u' := 0) rfl hk (by omega) (by omega) rfl k1 (by rw [L1]; omega) (fun g2 A2 k2 => M_digit0 (hq g2 A2 ?_)))
    have : dgs k = [nI (48 + k / 10 % 10)] ++ [nI (48 + k / 1 % 10)] := by
      unfold dgs
      rw [if_neg (by omega), if_pos (by omega), show k / 10 % 10 = k / 10 by omega, Nat.div_one]
      rfl
    rw [this, ← List.append_assoc]
    exact k2
  · refine M_digit (u' := 10) rfl hk (by omega) (by omega) rfl h (by omega) (fun g1 A1 k1 => M_digit (u' := 1) rfl hk (by omega) (by omega) rfl k1 (by rw [L1]; omega) (fun g2 A2 k2 => M_digit (u' := 0) rfl hk (by omega) (by omega) rfl k2 (by rw [L2]; omega) (fun g3 A3 k3 => M_digit0 (hq g3 A3 ?_))))
    have : dgs k = ([nI (48 + k / 100 % 10)] ++ [nI (48 + k / 10 % 10)]) ++ [nI (48 + k / 1 % 10)] := by
      unfold dgs
      rw [if_neg (by omega), if_neg (by omega), if_pos (by omega), show k / 100 % 10 = k / 100 by omega, Nat.div_one]
      rfl
    rw [this, ← List.append_assoc, ← List.append_assoc]
    exact k3
  · refine M_digit (u' := 100) rfl hk (by omega) (by omega) rfl h (by omega) (fun g1 A1 k1 => M_digit (u' := 10) rfl hk (by omega) (by omega) rfl k1 (by rw [L1]; omega) (fun g2 A2 k2 => M_digit (u' := 1) rfl hk (by omega) (by omega) rfl k2 (by rw [L2]; omega) (fun g3 A3 k3 => M_digit (u' := 0) rfl hk (by omega) (by omega) rfl k3 (by rw [L3]; omega) (fun g4 A4 k4 => M_digit0 (hq g4 A4 ?_)))))
    have : dgs k = (([nI (48 + k / 1000 % 10)] ++ [nI (48 + k / 100 % 10)]) ++ [nI (48 + k / 10 % 10)]) ++ [nI (48 + k / 1 % 10)] := by
      unfold dgs
      rw [if_neg (by omega), if_neg (by omega), if_neg (by omega), show k / 1000 % 10 = k / 1000 by omega, Nat.div_one]
      rfl
    rw [this, ← List.append_assoc, ← List.append_assoc, ← List.append_assoc]
    exact k4
  · omega
theorem nm_snoc (f : Nat → Int32) (row k : Nat) : (List.range (k + 1)).map (fun i => f (row + i)) = (List.range k).map (fun i => f (row + i)) ++ [f (row + k)] := by
  rw [List.range_succ, List.map_append]
  rfl
theorem M_case66 {K12 : Int32 → Mm → Nat → Prop} {c : Int32} {p : Nat} (hI : Inv (A0 1)) (hp : p < cl (A0 1 2)) (hc : vp_in c (cl (A0 1 4))) (hl : l.length + 12 ≤ 290)
    (hq : ∀ g' A', RW g0 A0 (wc4 (A0 1) c (((l ++ nmL (A0 1) p) ++ [58]) ++ dgs (cl (dueF (A0 1) c)))) g' A' → K12 (c + 1) (rwd w m g' A') z) : ∀ (n k : Nat) (g : Nat → Int32) (A : Nat → Nat → Int32), k + n = cl (A0 1 (21 + 13 * p + 6)) → RW g0 A0 (l ++ (List.range k).map (fun i => A0 1 (21 + 13 * p + 7 + i))) g A → B_X6_writeCases_66 m K12 Q (n + 1) c (nI (21 + 13 * p + 6)) (nI k) (rwd w m g A) z := by
  have hB2 := clI hI.2.1.2.1
  have hB4 := clI hI.2.1.2.2.2
  have hN := (hI.2.2.2.1 p hp).2.2.1
  have hNc := clI hN
  have hv : vp_in c 20 := vp_le hc (by omega)
  have hd := due_k hI hc
  have hd4 := dgn_4 (cl (dueF (A0 1) c))
  have eN : A0 1 (21 + 13 * p + 6) = nI (cl (A0 1 (21 + 13 * p + 6))) := ieq.mpr (by rw [nI_toInt (by omega)]; omega)
  intro n
  induction n with
  | zero =>
    intro k g A hk hR
    unfold B_X6_writeCases_66
    have ek : (List.range k).map (fun i => A0 1 (21 + 13 * p + 7 + i)) = nmL (A0 1) p := by
      unfold nmL
      rw [show k = cl (A0 1 (21 + 13 * p + 6)) by omega]
    have hlen : (l ++ (List.range k).map (fun i => A0 1 (21 + 13 * p + 7 + i))).length = l.length + k := by
      rw [List.length_append, List.length_map, List.length_range]
    have hlen2 : ((l ++ (List.range k).map (fun i => A0 1 (21 + 13 * p + 7 + i))) ++ [58]).length = l.length + k + 1 := by
      rw [List.length_append, hlen]
      rfl
    refine ⟨_, R_r0, _, _, R_a1, nIin (by omega) (by omega), fun _ => ⟨R_i, M_out hR (by omega) (fun g1 A1 h1 => ⟨R_i, L_due hv ?_⟩)⟩, fun hh => absurd (by rw [nI_cl (by omega), hR.a1, eN, nIle (by omega) (by omega)]; omega) hh⟩
    rw [h1.a1, hd.1]
    refine ⟨R_i, M_outNumber hd.2 h1 (by omega) (fun g2 A2 h2 => ⟨R_i, L_isLate hv ?_⟩)⟩
    rw [h2.a1]
    rw [ek] at h2
    unfold wc4 at hq
    refine ⟨fun h0 => ?_, fun h0 => ⟨R_i, M_out h2 ?_ (fun g3 A3 h3 => ?_)⟩⟩
    · rw [if_pos h0] at hq
      exact hq g2 A2 h2
    · rw [List.length_append, List.length_append, List.length_append, dgs_len, ← ek, List.length_map, List.length_range, List.length_singleton]
      omega
    · rw [if_neg h0] at hq
      exact hq g3 A3 h3
  | succ n ih =>
    intro k g A hk hR
    unfold B_X6_writeCases_66
    have e1 : (nI (21 + 13 * p + 6) + 1 : Int32) + nI k = nI (21 + 13 * p + 7 + k) := by
      rw [nIs (by omega), nIad (by omega)]
    have hlen : (l ++ (List.range k).map (fun i => A0 1 (21 + 13 * p + 7 + i))).length = l.length + k := by
      rw [List.length_append, List.length_map, List.length_range]
    refine ⟨_, R_r0, _, _, R_a1, nIin (by omega) (by omega), fun hh => absurd hh (by rw [nI_cl (by omega), hR.a1, eN, nIle (by omega) (by omega)]; omega), fun _ => ⟨_, R_r0, _, _, R_a1, by rw [e1]; exact nIin (by omega) (by omega), R_i, M_out hR (by omega) (fun g1 A1 h1 => ?_)⟩⟩
    rw [nIs (by omega)]
    refine ih (k + 1) g1 A1 (by omega) ?_
    rw [e1, nI_cl (by omega), hR.a1, List.append_assoc] at h1
    rw [nm_snoc]
    exact h1
theorem M_wcs (hI : Inv (A0 1)) : ∀ (n : Nat) (c : Int32) (l : List Int32) (g : Nat → Int32) (A : Nat → Nat → Int32), (A0 1 4).toInt = c.toInt + n → 0 ≤ c.toInt → RW g0 A0 l g A → l.length + 13 * n ≤ 277 →
    (∀ g' A', RW g0 A0 (wcs (A0 1) n c l) g' A' → Q (nI (wcs (A0 1) n c l).length) (rwd w m g' A') z) → B_X6_writeCases_12 m Q (n + 1) c (rwd w m g A) z := by
  have hB2 := clI hI.2.1.2.1
  have hB4 := clI hI.2.1.2.2.2
  intro n
  induction n with
  | zero =>
    intro c l g A h1 h2 hR hl hq
    unfold B_X6_writeCases_12
    simp only [cl4]
    refine ⟨_, R_r0, _, _, R_a1, vl4, fun _ => ⟨_, R_g10, ?_⟩, fun hh => absurd (ile.mpr (by rw [hR.a1]; omega)) hh⟩
    rw [hR.1.1]
    exact hq g A hR
  | succ n ih =>
    intro c l g A h1 h2 hR hl hq
    have hc : vp_in c (cl (A0 1 4)) := vp_in_iff.mpr (by omega)
    have hv : vp_in c 20 := vp_le hc (by omega)
    have h5 := cl_succ hv (by omega)
    have hp := (hI.2.2.2.2.2.1 _ (clI hc).2).1
    have cp := clI hp
    have hNc := clI (hI.2.2.2.1 _ cp.2).2.2.1
    unfold B_X6_writeCases_12
    simp only [cl4]
    refine ⟨_, R_r0, _, _, R_a1, vl4, fun hh => absurd (ile.mp hh) (by rw [hR.a1]; omega), fun _ => ⟨R_i, L_ofC2 hv ?_⟩⟩
    rw [hR.a1]
    refine ⟨fun h4 => ⟨_, R_g10, fun h0 => ?_, fun h0 => ?_⟩, fun h4 => ?_⟩
    · rw [hR.1.1] at h0
      have h0' := ile.mp h0
      rw [nI_toInt (by omega), i_0] at h0'
      rw [wcs, if_neg h4] at hq
      refine ⟨R_i, L_ofC0 hv ?_⟩
      rw [hR.a1]
      rintro _ rfl
      have g3 := wc_len hI hc l
      have ew : wc (A0 1) c l = wc4 (A0 1) c (((l ++ nmL (A0 1) (cl (A0 1 (305 + 7 * cl c)))) ++ [58]) ++ dgs (cl (dueF (A0 1) c))) := by
        unfold wc wc2 wc1
        rw [if_pos (by omega)]
      have er : (21 + 13 * A0 1 (305 + 7 * cl c) + 6 : Int32) = nI (21 + 13 * cl (A0 1 (305 + 7 * cl c)) + 6) := by
        have hx := ixPn (a := A0 1 (305 + 7 * cl c)) (k := 6) (vp_le hp (by omega)) (by omega)
        have hx1 := clI hx.1
        refine ieq.mpr ?_
        have hx2 : (21 + 13 * A0 1 (305 + 7 * cl c) + 6 : Int32).toInt = (cl (21 + 13 * A0 1 (305 + 7 * cl c) + Int32.ofNat 6) : Nat) := hx1.1.symm
        rw [hx2, hx.2, nI_toInt (by omega)]
      rw [er]
      refine ⟨cl (A0 1 (21 + 13 * cl (A0 1 (305 + 7 * cl c)) + 6)) + 1, M_case66 (g0 := g0) (l := l) hI cp.2 hc (by omega) (fun g' A' h' => ?_) _ 0 g A (by omega) ?_⟩
      · rw [← ew] at h'
        exact ih (c + 1) _ g' A' (by omega) (by omega) h' (by omega) hq
      · simp only [List.range_zero, List.map_nil, List.append_nil]
        exact hR
    · rw [hR.1.1] at h0
      have h0' : ¬ (nI l.length).toInt ≤ (0 : Int32).toInt := fun h => h0 (ile.mpr h)
      rw [nI_toInt (by omega), i_0] at h0'
      rw [wcs, if_neg h4] at hq
      refine ⟨R_i, M_out hR (by omega) (fun g1 A1 h1' => ⟨R_i, L_ofC0 hv ?_⟩)⟩
      rw [h1'.a1]
      rintro _ rfl
      have g3 := wc_len hI hc l
      have ew : wc (A0 1) c l = wc4 (A0 1) c ((((l ++ [32]) ++ nmL (A0 1) (cl (A0 1 (305 + 7 * cl c)))) ++ [58]) ++ dgs (cl (dueF (A0 1) c))) := by
        unfold wc wc2 wc1
        rw [if_neg (by omega)]
      have er : (21 + 13 * A0 1 (305 + 7 * cl c) + 6 : Int32) = nI (21 + 13 * cl (A0 1 (305 + 7 * cl c)) + 6) := by
        have hx := ixPn (a := A0 1 (305 + 7 * cl c)) (k := 6) (vp_le hp (by omega)) (by omega)
        have hx1 := clI hx.1
        refine ieq.mpr ?_
        have hx2 : (21 + 13 * A0 1 (305 + 7 * cl c) + 6 : Int32).toInt = (cl (21 + 13 * A0 1 (305 + 7 * cl c) + Int32.ofNat 6) : Nat) := hx1.1.symm
        rw [hx2, hx.2, nI_toInt (by omega)]
      rw [er]
      have hlen1 : (l ++ [32]).length = l.length + 1 := List.length_append
      refine ⟨cl (A0 1 (21 + 13 * cl (A0 1 (305 + 7 * cl c)) + 6)) + 1, M_case66 (g0 := g0) (l := l ++ [32]) hI cp.2 hc (by omega) (fun g' A' h' => ?_) _ 0 g1 A1 (by omega) ?_⟩
      · rw [← ew] at h'
        exact ih (c + 1) _ g' A' (by omega) (by omega) h' (by omega) hq
      · simp only [List.range_zero, List.map_nil, List.append_nil]
        exact h1'
    · rw [wcs, if_pos h4] at hq
      exact ih (c + 1) l g A (by omega) (by omega) hR (by omega) hq
theorem M_writeCases (hI : Inv (A 1)) (hq : ∀ g' A', RW (upd (upd g 6 0) 10 0) A (wcA (A 1)) g' A' → Q (nI (wcA (A 1)).length) (rwd w m g' A') z) : F_X6_writeCases m (rwd w m g A) z Q := by
  have hB4 := clI hI.2.1.2.2.2
  exact R_p6 (R_p10 ⟨cl (A 1 4) + 1, M_wcs (A0 := A) hI _ 0 [] _ A (by rw [i_0]; omega) (by rw [i_0]; omega) ⟨⟨upd_eq _ _ _, fun i hi => absurd hi (by simp)⟩, fun _ _ => rfl, fun _ _ => rfl⟩ (by simp only [List.length_nil]; omega) hq⟩)
theorem M_outputByte {i : Int32} (h : g 10 = nI l.length ∧ ∀ i, i < l.length → A 7 i = l.getD i 0) (hl : l.length ≤ 300) (h1 : vp_in i l.length → Q (l.getD (cl i) 0) (rwd w m (upd g 6 0) A) z) (h0 : ¬ vp_in i l.length → Q (-1) (rwd w m (upd g 6 0) A) z) : F_X6_outputByte m i (rwd w m g A) z Q := by
  refine R_p6 ⟨_, R_g10, ?_⟩
  rw [upd_ne (by omega), h.1]
  have e : (nI l.length - 1 : Int32).toInt = l.length - 1 := by
    rw [isb _ _ (by rw [nI_toInt (by omega), i_1]; omega) (by rw [nI_toInt (by omega), i_1]; omega), nI_toInt (by omega), i_1]
  refine R_isIn (fun a b => ⟨fun hh => absurd hh (by decide), fun _ => ?_⟩) (fun a => ⟨fun _ => h0 (fun hv => ?_), fun hh => absurd rfl hh⟩)
  · rw [e] at b
    rw [i_0] at a
    have hv : vp_in i l.length := vp_in_iff.mpr (by omega)
    refine ⟨_, R_r8, _, _, R_a7, vp_le hv hl, ?_⟩
    rw [show A 7 i.toNatClampNeg = l.getD (cl i) 0 from h.2 _ (clI hv).2]
    exact h1 hv
  · rw [e, i_0] at a
    have := vp_in_iff.mp hv
    omega
end
