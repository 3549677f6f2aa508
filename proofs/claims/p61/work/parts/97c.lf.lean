/-! the law's predicate holds of every script -/
section
variable {w : Mm} {Q : Int32 → Mm → Nat → Prop}
theorem NF.ms {x a : Nat} {e : Ce} (h : NF w x) : NF (mset w a e) x := by
  intro q c hq
  by_cases h1 : q = a
  · rw [h1, mset_eq] at hq
    exact absurd hq (by intro hh; injection hh with hh; injection hh with hh; exact absurd hh (by decide))
  · rw [mset_ne h1] at hq
    exact h q c hq
theorem NF.up {x y : Nat} (h : NF w x) (hy : x ≤ y) : NF w y := fun q c hq => by
  have := h q c hq
  omega
theorem not_false {c : Ce} {e : Ce} (hh : some (true, e) = some (false, c)) : False := by
  injection hh with hh
  injection hh with hh
  exact absurd hh (by decide)
set_option maxRecDepth 16384 in
theorem law_F {b n z mc ms : Nat} {sc : Nat → Int32} (hb : w b = some (false, .inr (0, n, .inl sc))) (hn : n ≤ 260) (hN : NF w z) (hFit : ∀ q n f, w q = some (false, .inr (1, n, .inl f)) → sb_Fit f) (hQ : ∀ w z, Q 1 w z) (hm : 600086 ≤ mc) (hs : 7301442 ≤ ms) : F_L_law b w z mc ms Q := by
  have hbz : b < z := hN b _ hb
  refine ⟨2, ?_⟩
  unfold B_L_law_2
  refine ⟨_, _, arI_c hb, fun _ => hQ _ _, fun hn0 => ⟨fun hh => absurd hh (by decide), fun _ => ⟨by decide, 1, by decide, by decide, by omega, by omega, ?_⟩⟩⟩
  have hn1 : 1 ≤ n := by
    apply Classical.byContradiction
    intro h
    exact hn0 ((nIle (b := 0) (by omega) (by omega)).mpr (by omega))
  rintro _ rfl
  refine ⟨_, _, arI_c ((mset_ne (by omega)).trans hb), nIin (a := 0) (by omega) (by omega), _, _, arW_c (mset_eq _ _ _), in_nI (k := 0) (by decide) (by decide), ?_⟩
  rintro _ rfl
  rw [mset_mset]
  generalize hw1 : mset w z (.inr (0, 1, .inl (upd (fun _ => 0) (0 : Int32).toNatClampNeg (sc (0 : Int32).toNatClampNeg)))) = w1
  have w1d : w1 z = some (true, .inr (0, 1, .inl (upd (fun _ => 0) (0 : Int32).toNatClampNeg (sc (0 : Int32).toNatClampNeg)))) := by rw [← hw1, mset_eq]
  have w1o : ∀ q, q ≠ z → w1 q = w q := fun q hq => by rw [← hw1, mset_ne hq]
  have N1 : NF w1 (z + 1) := by
    rw [← hw1]
    exact (hN.up (by omega)).ms
  refine ⟨by omega, by omega, ?_⟩
  rintro _ rfl
  have hFz : ∀ q, (∃ c, w q = some (false, c)) → q < z := fun q ⟨c, h1⟩ => hN q c h1
  refine ⟨763, 6237, by omega, by omega, X5_init (mset_eq _ _ _) (Nat.le_refl _) (Nat.le_refl _) (fun w9 mc' ms' hD => ⟨9, X5_131 (z := z + 1 + 764) (Fz := fun q => ∃ c, w q = some (false, c)) hD (fun q c h1 h2 => ?_) (fun q h1 => by have := hFz q h1; omega) (fun w3 hP hI => ?_) 8 0 w9 mc' ms' rfl (hD.PW0 N1.ms)⟩)⟩
  · rw [hD.2.2.2.2.2.2.2.2.2 q (by omega), mset_ne (by omega)] at h2
    by_cases e : q = z
    · rw [e, w1d] at h2
      exact (not_false h2).elim
    · rw [w1o q e] at h2
      exact ⟨c, h2⟩
  have hlow : ∀ q, q < z + 1 → w3 q = w1 q := fun q hq => by
    rw [hP.2.2 q (by omega), hD.2.2.2.2.2.2.2.2.2 q (by omega), mset_ne (by omega)]
  obtain ⟨c1, c2, -⟩ := hD.cs hP hI (g := fun _ => 0) (A := fun j => if j = 1 then fA else z1f) rfl (fun j _ => rfl) rfl
  have hL3 : LB b (false, .inr (0, n, .inl sc)) z (z + 1) (fun q => ∃ c, w q = some (false, c)) (fun _ => 0) (fun j => if j = 1 then fA else z1f) h0f z1f w3 := by
    refine ⟨c1, fun q hq => Or.inl (by have := hFz q hq; omega), c2, ⟨_, (hlow z (by omega)).trans w1d⟩, ⟨by omega, fun hh => absurd (hFz _ hh) (by omega), by omega⟩, ⟨by rw [hlow b (by omega), w1o b (by omega)]; exact hb, by omega⟩, fun a ha bb n f he => ?_, fun q hq => by have := hFz q hq; omega⟩
    have h1 := hFz a ha
    rw [hlow a (by omega), w1o a (by omega)] at he
    obtain ⟨c, hc⟩ := ha
    have hbb : bb = false := by
      rw [hc] at he
      injection he with he
      injection he with he1 he2
      exact he1.symm
    rw [hbb] at he
    exact hFit a n f he
  have hNF : ∀ q c, w3 q = some (false, c) → ∃ c, w q = some (false, c) := fun q c hq => by
    have h1 := hP.2.1 q c hq
    rw [hlow q h1] at hq
    by_cases e : q = z
    · rw [e, w1d] at hq
      exact (not_false hq).elim
    · rw [w1o q e] at hq
      exact ⟨c, hq⟩
  refine draw0 ((hlow z (by omega)).trans w1d) (by decide) (fun r w4 fd r0 r1 d1 d2 => ?_)
  rintro _ rfl
  rw [show (10 : Int32).toInt = 10 by decide] at r1
  have hv : vp_in r 10 := vp_in_iff.mpr ⟨r0, r1⟩
  have hv2 := (clI hv).2
  have er := (nI_vp hv).symm
  generalize hvv : cl r = v at *
  rw [er, show (2 : Int32) = nI 2 from rfl, nIad (by omega)]
  refine ⟨by omega, by omega, ?_⟩
  rintro _ rfl
  intro q hl
  have hL5 : LB b (false, .inr (0, n, .inl sc)) z (z + 1) (fun q => ∃ c, w q = some (false, c)) (fun _ => 0) (fun j => if j = 1 then fA else z1f) h0f z1f (mset w4 (z + 1 + 764) (.inl (1, [.null, .int 0, .int 0, .int 0]))) := by
    refine hL3.to (fun q h1 h2 => ?_) ⟨fd, by rw [mset_ne (by omega)]; exact d1⟩
    rw [mset_ne (by omega), d2 q h2]
  have hN5 : ∀ q c, mset w4 (z + 1 + 764) (.inl (1, [.null, .int 0, .int 0, .int 0])) q = some (false, c) → ∃ c, w q = some (false, c) := fun q c hq => by
    by_cases e : q = z + 1 + 764
    · rw [e, mset_eq] at hq
      exact (not_false hq).elim
    · rw [mset_ne e] at hq
      by_cases e2 : q = z
      · rw [e2, d1] at hq
        exact (not_false hq).elim
      · rw [d2 q e2] at hq
        exact hNF q c hq
  obtain ⟨v4, f4, l1, l2, l3⟩ := hl
  have hs4 : Str (mset w4 (z + 1 + 764) (.inl (1, [.null, .int 0, .int 0, .int 0]))) (fun q => ∃ c, w q = some (false, c)) q lit_4.length (fun i => lit_4.getD i 0) := ⟨false, false, v4, [], f4, hN5 _ _ l1, hN5 _ _ l2, l1, l2, l3⟩
  refine ⟨1, lit_4.length + 16, by omega, by rw [show lit_4.length = 4 from rfl]; omega, SB.initS (by omega) (mset_eq _ _ _) hs4 (fun a f bb n ha he => hL5.2.2.2.2.2.2.1 a ha bb n f he) (fun a ha => by have := hFz a ha; omega) (by decide) (fun w6 t6 z6 s6 k1 k2 k3 k4 => ?_)⟩
  rw [lit4_map] at s6
  have hL6 : LB b (false, .inr (0, n, .inl sc)) z (z + 1) (fun q => ∃ c, w q = some (false, c)) (fun _ => 0) (fun j => if j = 1 then fA else z1f) h0f z1f w6 := by
    obtain ⟨fd5, hd5⟩ := hL5.2.2.2.1
    exact hL5.to (fun q h1 h2 => k3 q (by omega) (by omega)) ⟨fd5, by rw [k3 z (by omega) (by omega)]; exact hd5⟩
  have hS6 : LWs b (false, .inr (0, n, .inl sc)) z (z + 1) (fun q => ∃ c, w q = some (false, c)) (fun _ => 0) (fun j => if j = 1 then fA else z1f) h0f z1f (z + 1 + 764) t6 (lit_4.length + 16) (lit_4 ++ zT []) w6 z6 := by
    refine ⟨hL6, fun q c hq => hN5 q c (k4 q c hq), ?_, ⟨Nat.le_refl _, by omega⟩, ⟨by omega, by omega⟩⟩
    rw [show lit_4 ++ zT [] = lit_4 from List.append_nil _]
    exact s6
  obtain ⟨cp, hcp, hcp2⟩ : ∃ cp, lit_4.length + 16 = cp ∧ cp = 20 := ⟨_, rfl, rfl⟩
  simp only [hcp] at hS6 ⊢
  refine ⟨2 + v + 1, lw_55 (N := 2 + v) (by omega) (by omega) rfl (fun w' z' mc' ms' hw' => ?_) (2 + v) [] w6 z6 t6 _ _ _ (by simp) (fun u hu => absurd hu List.not_mem_nil) hS6 (by unfold BQ; omega)⟩
  unfold B_L_law_2
  exact ⟨_, _, arI_c hw', fun _ => hQ _ _, fun _ => ⟨fun _ => hQ _ _, fun hh => absurd (by decide) hh⟩⟩
end
