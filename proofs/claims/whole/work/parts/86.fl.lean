/-! the reference comes into being; the law -/
def gI : Nat → Int32 := fun k => if k = 12 then -1 else 0
section
variable {w : Mm} {m z q : Nat} {g : Nat → Int32} {A : Nat → Nat → Int32} {Q : Int32 → Mm → Nat → Prop} {R : Mm → Nat → Prop} {Fz : Nat → Prop}
theorem tx_b : ∀ k : Fin 81, 0 ≤ (txA k.val).toInt ∧ (txA k.val).toInt < 128 := by decide +kernel
theorem tx_o {j : Nat} (h : 81 ≤ j) : txA j = 0 := by
  unfold txA
  rw [List.getD_eq_getElem?_getD, List.getElem?_eq_none h]
  rfl
theorem Str.is {n : Nat} {h : Nat → Int32} (hs : Str w Fz q n h) : isO w q 0 := by
  obtain ⟨b, b', t, l, fb, h1, h2, h3, h4, h5⟩ := hs
  exact isO_c h3
theorem M_lays10 (hs : ∀ g A, Str (rwd w m g A) Fz q 81 txA) (g9 : g 9 = nI 81)
    (hq : ∀ A', A' 6 = txA → (∀ k, k ≠ 6 → A' k = A k) → F_X6_load m (rwd w m g A') z (fun _ w5 z6 => ∃ f7, obj w5 m 10 = some f7 ∧ 5 < f7.length ∧ ∀ w8, w8 = mset w5 m (.inl (10, f7.set 5 (.int (0)))) → R w8 z6)) : ∀ (n i : Nat) (A' : Nat → Nat → Int32), n + i = 81 → A' 6 = (fun j => if j < i then txA j else 0) → (∀ k, k ≠ 6 → A' k = A k) → B_X6_lays_10 m q R (n + 1) (nI i) (rwd w m g A') z := by
  intro n
  induction n with
  | zero =>
    intro i A' h1 h6 h
    have e : i = 81 := by omega
    subst e
    unfold B_X6_lays_10
    refine ⟨_, R_g9, fun _ => ⟨R_i, hq A' ?_ h⟩, fun hh => absurd (by rw [g9]; exact (nIle (by omega) (by omega)).mpr (Nat.le_refl _)) hh⟩
    rw [h6]
    funext j
    by_cases hj : j < 81
    · rw [if_pos hj]
    · rw [if_neg hj, tx_o (by omega)]
  | succ n ih =>
    intro i A' h1 h6 h
    unfold B_X6_lays_10
    have hv : vp_in (nI i) 81 := nIin (by omega) (by omega)
    have hb := tx_b ⟨i, by omega⟩
    have hc : cl (nI i) = i := nI_cl (by omega)
    refine ⟨_, R_g9, fun hh => absurd hh (by rw [g9, nIle (by omega) (by omega)]; omega), fun _ => ⟨_, R_r7, (hs g A').is, j_charAt (hs g A') hv (by omega) (by rw [hc]; exact hb.1) (by rw [hc]; exact hb.2) ⟨_, _, R_w6, nIin (by omega) (by omega), ?_⟩⟩⟩
    rintro _ rfl
    rw [R_s6, nIs (by omega)]
    refine ih (i + 1) _ (by omega) ?_ (fun k hk => (updA_ne hk).trans (h k hk))
    rw [updA_eq, h6]
    funext j
    show upd _ (cl (nI i)) (txA (cl (nI i))) j = _
    rw [hc]
    unfold upd
    by_cases e : j = i
    · rw [if_pos e, if_pos (by omega), e]
    · rw [if_neg e]
      show (if j < i then txA j else 0) = _
      by_cases h2 : j < i
      · rw [if_pos h2, if_pos (by omega)]
      · rw [if_neg h2, if_neg (by omega)]
theorem M_lays (hs : ∀ g A, Str (rwd w m g A) Fz q 81 txA)
    (hq : ∀ g' A', g' 5 = 0 → g' 9 = 0 → g' 10 = 0 → g' 11 = 0 → g' 12 = -1 → (∀ j, j < 445 → A' 1 j = fA j) → A' 5 = z1f → R (rwd w m g' A') z) : F_X6_lays m q (rwd w m gI z2f) z R := by
  refine ⟨(hs _ _).is, j_length (hs _ _) (R_p9 ⟨82, M_lays10 (A := z2f) hs (upd_eq _ _ _) (fun A' h6 hA => ?_) 81 0 z2f rfl (by funext j; rfl) (fun _ _ => rfl)⟩)⟩
  obtain ⟨m0, f0, h0, h1⟩ := lay_ok
  have hc : clr (A' 1) 445 = fun _ => 0 := by
    rw [hA 1 (by omega)]
    funext j
    unfold clr
    split <;> rfl
  have H : Out (sLoad (A' 6) 81 (clr (A' 1) 445)) (fun r => r = (m0, f0)) (fun _ => False) := by
    rw [h6, hc, h0]
    exact rfl
  refine M_load (by omega) (upd_eq _ _ _) (nIin (a := 0) (by omega) (by omega)) H (fun n f' hK g' A2 hM => ?_) (fun c o hE => absurd hE id)
  injection hK with e1 e2
  obtain ⟨k5, k9, k10, k11, k12, a1, a2, a3, a5, a7⟩ := hM
  refine R_p5 (hq _ _ (upd_eq _ _ _) ((upd_ne (by omega)).trans k9) ((upd_ne (by omega)).trans k10) ((upd_ne (by omega)).trans k11) ((upd_ne (by omega)).trans k12) (fun j hj => ?_) (a5.trans (hA 5 (by omega))))
  rw [a1, e2]
  exact h1 j hj
theorem R_ini {mc ms : Nat} (h : w m = some (true, .inl (10, [.null, .null, .null, .null, .null, .int 0, .int 0, .null, .null, .int 0, .int 0, .int 0, .int 0, .null, .int 0, .int 0, .int 0, .int 0, .int 0, .int 0, .int 0]))) (hm : 8 ≤ mc) (hs : 6348 ≤ ms) (hq : ∀ q, isLit (rwd w m gI z2f) q lit_17 → F_X6_lays m q (rwd w m gI z2f) (m + 9) R) : F_X6_init m w (m + 1) mc ms R := by
  have L : ∀ {l : List Value} {k : Nat}, l.length = 21 → k < 21 → k < l.length := fun h1 h2 => h1 ▸ h2
  refine ⟨by decide, 445, by decide, by decide, by omega, by omega, ?_⟩
  rintro _ rfl
  refine ⟨_, obj_c ((mset_ne (by omega)).trans h), L rfl (by omega), ?_⟩
  rintro _ rfl
  refine ⟨by decide, 3560, by decide, by decide, by omega, by omega, ?_⟩
  rintro _ rfl
  refine ⟨_, obj_c ((mset_ne (by omega)).trans (mset_eq _ _ _)), L rfl (by omega), ?_⟩
  rintro _ rfl
  refine ⟨by decide, 890, by decide, by decide, by omega, by omega, ?_⟩
  rintro _ rfl
  refine ⟨_, obj_c ((mset_ne (by omega)).trans (mset_eq _ _ _)), L rfl (by omega), ?_⟩
  rintro _ rfl
  refine ⟨by decide, 445, by decide, by decide, by omega, by omega, ?_⟩
  rintro _ rfl
  refine ⟨_, obj_c ((mset_ne (by omega)).trans (mset_eq _ _ _)), L rfl (by omega), ?_⟩
  rintro _ rfl
  refine ⟨by decide, 2, by decide, by decide, by omega, by omega, ?_⟩
  rintro _ rfl
  refine ⟨_, obj_c ((mset_ne (by omega)).trans (mset_eq _ _ _)), L rfl (by omega), ?_⟩
  rintro _ rfl
  refine ⟨by decide, 700, by decide, by decide, by omega, by omega, ?_⟩
  rintro _ rfl
  refine ⟨_, obj_c ((mset_ne (by omega)).trans (mset_eq _ _ _)), L rfl (by omega), ?_⟩
  rintro _ rfl
  refine ⟨by decide, 300, by decide, by decide, by omega, by omega, ?_⟩
  rintro _ rfl
  refine ⟨_, obj_c ((mset_ne (by omega)).trans (mset_eq _ _ _)), L rfl (by omega), ?_⟩
  rintro _ rfl
  refine ⟨_, obj_c (mset_eq _ _ _), L rfl (by omega), ?_⟩
  rintro _ rfl
  refine ⟨by decide, 6, by decide, by decide, by omega, by omega, ?_⟩
  rintro _ rfl
  refine ⟨_, obj_c ((mset_ne (by omega)).trans (mset_eq _ _ _)), L rfl (by omega), ?_⟩
  rintro _ rfl
  refine (fun (W W' : Mm) (e : W = W') (hh : ∀ q, isLit W' q lit_17 → isO W' m 10 ∧ F_X6_lays m q W' (m + 9) R) => ?_ : ∀ W W' : Mm, W = W' → (∀ q, isLit W' q lit_17 → isO W' m 10 ∧ F_X6_lays m q W' (m + 9) R) → ∀ q, isLit W q lit_17 → isO W m 10 ∧ F_X6_lays m q W (m + 9) R) _ (rwd w m gI z2f) ?_ (fun q hl => ⟨R_i, hq q hl⟩)
  · subst e
    exact hh
  funext q
  by_cases hq : m ≤ q ∧ q < m + 9
  · rcases (by omega : q = m ∨ q = m + 1 ∨ q = m + 2 ∨ q = m + 3 ∨ q = m + 4 ∨ q = m + 5 ∨ q = m + 6 ∨ q = m + 7 ∨ q = m + 8) with rfl | rfl | rfl | rfl | rfl | rfl | rfl | rfl | rfl
    · rw [mset_eq, rwd_0]
      rfl
    · rw [rwd_k (k := 1) (by omega) (by omega)]
      repeat rw [mset_ne (by omega)]
      exact mset_eq _ _ _
    · rw [rwd_k (k := 2) (by omega) (by omega)]
      repeat rw [mset_ne (by omega)]
      exact mset_eq _ _ _
    · rw [rwd_k (k := 3) (by omega) (by omega)]
      repeat rw [mset_ne (by omega)]
      exact mset_eq _ _ _
    · rw [rwd_k (k := 4) (by omega) (by omega)]
      repeat rw [mset_ne (by omega)]
      exact mset_eq _ _ _
    · rw [rwd_k (k := 5) (by omega) (by omega)]
      repeat rw [mset_ne (by omega)]
      exact mset_eq _ _ _
    · rw [rwd_k (k := 6) (by omega) (by omega)]
      repeat rw [mset_ne (by omega)]
      exact mset_eq _ _ _
    · rw [rwd_k (k := 7) (by omega) (by omega)]
      repeat rw [mset_ne (by omega)]
      exact mset_eq _ _ _
    · rw [rwd_k (k := 8) (by omega) (by omega)]
      repeat rw [mset_ne (by omega)]
      exact mset_eq _ _ _
  · rw [rwd_o hq]
    repeat rw [mset_ne (by omega)]
theorem NF.ms {x a : Nat} {e : Ce} (h : NF w x) : NF (mset w a e) x := by
  intro q c hq
  by_cases h1 : q = a
  · rw [h1, mset_eq] at hq
    exact absurd hq (by intro hh; injection hh with hh; injection hh with hh; exact absurd hh (by decide))
  · rw [mset_ne h1] at hq
    exact h q c hq
theorem NF.rw {x : Nat} (h : NF w x) : NF (rwd w m g A) x := by
  intro q c hq
  by_cases h1 : m ≤ q ∧ q < m + 9
  · unfold rwd at hq
    rw [if_pos h1] at hq
    exact absurd hq (by intro hh; injection hh with hh; injection hh with hh; exact absurd hh (by decide))
  · rw [rwd_o h1] at hq
    exact h q c hq
theorem mset_rwd {a : Nat} {e : Ce} (ha : ¬ (m ≤ a ∧ a < m + 9)) : mset (rwd w m g A) a e = rwd (mset w a e) m g A := by
  funext q
  by_cases h : q = a
  · rw [h, mset_eq, rwd_o ha, mset_eq]
  · rw [mset_ne h]
    unfold rwd
    rw [mset_ne h]
theorem law_F {b n x mc ms : Nat} {sc : Nat → Int32} (hb : w b = some (false, .inr (0, n, .inl sc))) (hn : n ≤ 3072) (hN : NF w x) (hFit : ∀ q n f, w q = some (false, .inr (1, n, .inl f)) → sb_Fit f) (hQ : ∀ w z, Q 1 w z) (hm : 601024 ≤ mc) (hs : 7293034 ≤ ms) : F_L_law b w x mc ms Q := by
  have hbx : b < x := hN b _ hb
  refine ⟨by omega, by omega, ?_⟩
  rintro _ rfl
  refine ⟨763, 6237, by omega, by omega, X5_init (mset_eq _ _ _) (Nat.le_refl _) (Nat.le_refl _) (fun w9 mc' ms' hD => ⟨9, X5_131 (z := x + 764) (Fz := fun q => ∃ c, w q = some (false, c)) hD (fun q c h1 h2 => ⟨c, ?_⟩) (fun q h1 => ?_) (fun w3 hP hI => ?_) 8 0 w9 mc' ms' rfl (hD.PW0 hN.ms)⟩)⟩
  · rw [hD.2.2.2.2.2.2.2.2.2 q (by omega), mset_ne (by omega)] at h2
    exact h2
  · obtain ⟨c, h1⟩ := h1
    exact hN q c h1
  have hlow : ∀ q, q < x → w3 q = w q := fun q hq => by
    rw [hP.2.2 q (by omega), hD.2.2.2.2.2.2.2.2.2 q (by omega), mset_ne (by omega)]
  refine ⟨by omega, by omega, ?_⟩
  rintro _ rfl
  refine ⟨8, 6348, by omega, by omega, R_ini (mset_eq _ _ _) (Nat.le_refl _) (Nat.le_refl _) (fun q hl => M_lays (Fz := fun q => ∃ c, w q = some (false, c)) (fun g A => ?_) (fun g A g5 g9 g10 g11 g12 a1 a5 => ?_))⟩
  · obtain ⟨v, f, h1, h2, h3⟩ := hl
    have N1 : NF (rwd (mset w3 (x + 764) (.inl (10, [.null, .null, .null, .null, .null, .int 0, .int 0, .null, .null, .int 0, .int 0, .int 0, .int 0, .null, .int 0, .int 0, .int 0, .int 0, .int 0, .int 0, .int 0]))) (x + 764) gI z2f) x := hP.2.1.ms.rw
    have q1 := N1 q _ h1
    have q2 := N1 v _ h2
    have e : ∀ g A k, k < x → rwd (mset w3 (x + 764) (.inl (10, [.null, .null, .null, .null, .null, .int 0, .int 0, .null, .null, .int 0, .int 0, .int 0, .int 0, .null, .int 0, .int 0, .int 0, .int 0, .int 0, .int 0, .int 0]))) (x + 764) g A k = w k := fun g A k hk => by
      rw [rwd_o (by omega), mset_ne (by omega), hlow k hk]
    rw [e _ _ q q1] at h1
    rw [e _ _ v q2] at h2
    exact ⟨false, false, v, [], f, ⟨_, h1⟩, ⟨_, h2⟩, (e _ _ q q1).trans h1, (e _ _ v q2).trans h2, h3⟩
  refine ⟨by decide, 1, by decide, by decide, by omega, by omega, ?_⟩
  rintro _ rfl
  rw [show x + 764 + 9 = x + 773 by omega, mset_rwd (by omega)]
  obtain ⟨c1, c2, c3⟩ := hD.cs hP hI (g := g) (A := A) g5 a1 a5
  have hu : ∀ q, ¬ q = x + 764 → ¬ q = x + 773 → mset (mset w3 (x + 764) (.inl (10, [.null, .null, .null, .null, .null, .int 0, .int 0, .null, .null, .int 0, .int 0, .int 0, .int 0, .null, .int 0, .int 0, .int 0, .int 0, .int 0, .int 0, .int 0]))) (x + 773) (.inr (3, 1, .inr (.inl (fun _ => 0)))) q = w3 q := fun q h1 h2 => by
    rw [mset_ne h2, mset_ne h1]
  have hF : ∀ q, (∃ c, w q = some (false, c)) → q < x := fun q ⟨c, h1⟩ => hN q c h1
  have hne : ∀ q, (x ≤ q ∧ q < x + 130) ∨ (x + 134 ≤ q ∧ q < x + 764) ∨ (∃ c, w q = some (false, c)) → q < x + 764 := fun q hq => by
    rcases hq with hq | hq | hq
    · omega
    · omega
    · have := hF q hq
      omega
  have key := law_loop (b := b) (n := n) (x := x) (sc := sc) (Q := Q) hn hQ 512 0 16 _ (x + 774) (mc - 1 - 763 - 1 - 8 - 1) (ms - 8 - 6237 - 21 - 6348 - 1) (by omega) (by omega) (LX.mk' (Fz := fun q => ∃ c, w q = some (false, c)) (h := h0f) (tx := z1f) (t := x + 133) (l := []) (L := 0) (z1 := x + 774) (c1.to (w' := mset (mset w3 (x + 764) (.inl (10, [.null, .null, .null, .null, .null, .int 0, .int 0, .null, .null, .int 0, .int 0, .int 0, .int 0, .null, .int 0, .int 0, .int 0, .int 0, .int 0, .int 0, .int 0]))) (x + 773) (.inr (3, 1, .inr (.inl (fun _ => 0))))) (fun q hq => hu q (by have := hne q hq; omega) (by have := hne q hq; omega))) (fun q hq => Or.inl (hF q hq)) (c2.to (hu _ (by omega) (by omega)) (hu _ (by omega) (by omega))) ⟨c3.to (hu _ (by omega) (by omega)) (hu _ (by omega) (by omega)), fun v hv => absurd hv List.not_mem_nil, Or.inl rfl, fun hh => absurd (hF _ hh) (by omega), by omega, by omega, fun q hq => by have := hF q hq; omega, fun a ha bb n f he => ?_⟩ ⟨by omega, rfl, g9, fun i hi => absurd hi (by omega), g11.symm, g12.symm⟩ ⟨g10, fun i hi => absurd hi (by simp only [List.length_nil]; omega), by simp only [List.length_nil]; omega⟩ ⟨_, mset_eq _ _ _⟩ ((hu b (by omega) (by omega)).trans ((hlow b hbx).trans hb)) hbx (Nat.le_refl _) (by omega) (fun hh => absurd (hF _ hh) (by omega))) ⟨by omega, by omega, by omega⟩
  · exact ⟨513, key⟩
  · have h1 := hF a ha
    rw [hu a (by omega) (by omega), hlow a h1] at he
    obtain ⟨c, hc⟩ := ha
    have hbb : bb = false := by
      rw [hc] at he
      injection he with he
      injection he with he1 he2
      exact he1.symm
    rw [hbb] at he
    exact hFit a n f he
end
