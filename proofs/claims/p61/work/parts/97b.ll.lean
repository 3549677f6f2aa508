/-! the law's loops: its acts; the passengers; the stops -/
theorem BD.m {k j mc ms : Nat} (h : BD (k + j) mc ms) : BD k (mc - 10 * j) (ms - 100 * j) := by
  unfold BD at h ⊢
  omega
section
variable {g : Nat → Int32} {A : Nat → Nat → Int32} {f' : Nat → Int32}
theorem remG5 (h9 : vp_in (g 5) 9) : remG g 5 = jmin 8 (g 5 + 1) ∧ 1 ≤ (remG g 5).toInt := by
  have h := vp_in_iff.mp h9
  have i8 : (8 : Int32).toInt = 8 := by decide
  unfold remG
  by_cases e : g 5 = 8
  · rw [if_pos e, upd_eq, e]
    decide
  · have ne : ¬ (g 5).toInt = 8 := fun hh => e (ieq.mpr (by rw [hh, i8]))
    have e1 : (g 5 + 1).toInt = (g 5).toInt + 1 := by
      rw [ia _ _ (by rw [i_1]; omega) (by rw [i_1]; omega), i_1]
    rw [if_neg e, upd_eq]
    refine ⟨ieq.mpr ?_, by omega⟩
    rw [jmin_toI, e1, i8]
    split <;> omega
set_option maxRecDepth 16384 in
theorem undo_A (h9 : vp_in (g 5) 9) {j : Nat} (hj : j < 445) : undoA (remG g) (updA (remA g A (A 1)) 1 f') 1 j = A 1 j := by
  have h := vp_in_iff.mp h9
  have c9 := clI h9
  have i8 : (8 : Int32).toInt = 8 := by decide
  unfold undoA
  rw [updA_eq, updA_ne (by omega)]
  unfold remG remA
  by_cases e : g 5 = 8
  · rw [if_pos e, if_pos e, upd_eq, updA_eq, show cl ((8 : Int32) - 1) = 7 by decide, va_cpy_in (by omega) (by omega), va_cpy_in (by omega) (by omega)]
    exact congrArg (A 1) (by omega)
  · have ne : ¬ (g 5).toInt = 8 := fun hh => e (ieq.mpr (by rw [hh, i8]))
    rw [if_neg e, if_neg e, upd_eq, updA_eq, Int32.add_sub_cancel, va_cpy_in (by omega) (by omega), va_cpy_in (by omega) (by omega)]
    exact congrArg (A 1) (by omega)
end
section
variable {w : Mm} {b d x z bb t cap mc ms : Nat} {c0 : Bool × Ce} {Fz : Nat → Prop} {g : Nat → Int32} {A : Nat → Nat → Int32} {h tx : Nat → Int32} {Q : Int32 → Mm → Nat → Prop} {K2 : Int32 → Mm → Nat → Nat → Nat → Prop} {x1 : Int32}
set_option maxRecDepth 16384 in
theorem lw_190 (hK2 : ∀ w' z' mc' ms', w' b = some c0 → K2 (x1 + 1) w' z' mc' ms') : ∀ (r i : Nat) (g : Nat → Int32) (A : Nat → Nat → Int32) (w : Mm) (z mc ms : Nat), i + r = 36 → AW b c0 d x Fz g A i w → BD (1300 * r + 2700) mc ms → B_L_law_190 b K2 Q (r + 1) x1 d x (nI i) w z mc ms := by
  intro r
  induction r with
  | zero =>
    intro i g A w z mc ms hi h hB
    have hb1 := hB.1
    have hb2 := hB.2
    have h9 := h.cs.2.1
    have r5 := remG5 h9
    have hbx := h.2.2.2.2.1
    unfold B_L_law_190
    refine ⟨fun _ => ⟨12000, 120000, by omega, by omega, W_isSound h.cs h.sd ⟨by omega, by omega⟩ ⟨fun _ => ⟨h.cs.is0, X_undoableChanges h.cs ⟨h.cs.is0, X_clock h.cs ⟨h.cs.is0, X_ticketSales h.cs ⟨10, 100, by omega, by omega, h.wait (n := 77) (by decide) (fun hle w' hC' h' hF => ⟨fun _ => ⟨fun hh => absurd rfl hh, fun _ => ⟨10, 100, by omega, by omega, hC'.is0, 10, 100, Nat.le_refl _, Nat.le_refl _, hC'.undo h.2.1 (Nat.le_refl _) (Nat.le_refl _) (fun _ w2 hC2 hF2 => ⟨fun hh => absurd (by rw [r5.1]) hh, fun _ => ⟨hC2.is0, X_clock hC2 ⟨fun hh => absurd (undo_A h9 (by omega)) hh, fun _ => ⟨hC2.is0, X_ticketSales hC2 ⟨fun hh => absurd (undo_A h9 (by omega)) hh, fun _ => ⟨12000, 120000, by omega, by omega, W_isSound hC2 (h.sd.ext h.cs.I1 (fun j hj => undo_A h9 hj)) ⟨by omega, by omega⟩ ⟨fun _ => hK2 _ _ _ _ (by rw [hF2 b (by omega), hF b (by omega)]; exact hbx.1), fun hh => absurd hh (by decide)⟩⟩⟩⟩⟩⟩⟩) (fun e0 => absurd (ieq.mp e0) (by rw [i_0]; omega))⟩⟩, fun hh => absurd (ile.mpr ?_) hh⟩) (fun _ z1 => ⟨fun hh => absurd hh (by decide), fun _ => hK2 _ _ _ _ hbx.1⟩)⟩⟩⟩⟩, fun hh => absurd hh (by decide)⟩⟩, fun hh => absurd ((nIle (a := 36) (by omega) (by omega)).mpr (by omega)) hh⟩
    have hc := h.cs.I1.1
    rw [i_0, ia _ _ (by rw [show (77 : Int32).toInt = 77 by decide]; omega) (by rw [show (77 : Int32).toInt = 77 by decide]; omega), show (77 : Int32).toInt = 77 by decide]
    omega
  | succ r ih =>
    intro i g A w z mc ms hi h hB
    have hb1 := hB.1
    have hb2 := hB.2
    have hB1 : BD (1300 * r + 2700 + 1200 + 60) mc ms := hB.le (by omega)
    unfold B_L_law_190
    refine ⟨fun hh => absurd ((nIle (a := 36) (by omega) (by omega)).mp hh) (by omega), fun _ => ⟨600, 6000, by omega, by omega, h.acts (by omega) ⟨by omega, by omega⟩ (fun g' A' w' z' h' => ?_)⟩⟩
    have K : ∀ mc' ms', BD (1300 * r + 2700) mc' ms' → B_L_law_224 b (B_L_law_190 b K2 Q (r + 1)) Q x1 d x (nI i) w' z' mc' ms' := fun mc' ms' hb => by
      unfold B_L_law_224
      rw [nIs (by omega)]
      exact ih (i + 1) g' A' w' z' mc' ms' (by omega) h' hb
    exact ⟨fun _ => ⟨fun _ => K _ _ (hB1.m.le (by omega)), fun _ => ⟨12000, 120000, by omega, by omega, W_isSound h'.cs h'.sd ⟨by omega, by omega⟩ ⟨fun _ => K _ _ hB1.m.m, fun hh => absurd hh (by decide)⟩⟩⟩, fun hh => absurd hh (by decide)⟩
/-! the text's length and letters -/
theorem zT_len : ∀ (zs : List Nat), (∀ v, v ∈ zs → v < 4) → (zT zs).length = 2 * zs.length := by
  intro zs
  induction zs with
  | nil => intro _; rfl
  | cons v zs ih =>
    intro hv
    have h4 := hv v List.mem_cons_self
    have e : dn v = 1 := by
      unfold dn dgn
      rw [if_pos (by omega), if_pos (by omega)]
    show (32 :: (ds v ++ zT zs)).length = _
    rw [List.length_cons, List.length_append, ds_len, e, ih (fun u hu => hv u (List.mem_cons_of_mem _ hu)), List.length_cons]
    omega
theorem pT_le : ∀ (ps : List Nat) (j : Nat), (pT j ps).length ≤ 19 * ps.length := by
  intro ps
  induction ps with
  | nil => intro j; exact Nat.le_refl _
  | cons v ps ih =>
    intro j
    have h1 := (dn_5 v).2
    have h2 := ih (j + 1)
    rw [pT_len, List.length_cons]
    omega
theorem tT_le {zs ps : List Nat} (hz : ∀ v, v ∈ zs → v < 4) : (tT zs ps).length ≤ 5 + 2 * zs.length + 19 * ps.length := by
  have h1 := zT_len zs hz
  have h2 := pT_le ps 0
  unfold tT
  rw [List.length_append, List.length_append, List.length_cons, show lit_4.length = 4 from rfl]
  omega
theorem zT_snoc : ∀ (zs : List Nat) (v : Nat), zT (zs ++ [v]) = zT zs ++ (32 :: ds v) := by
  intro zs
  induction zs with
  | nil => intro v; show 32 :: (ds v ++ []) = _; rw [List.append_nil]; rfl
  | cons u zs ih =>
    intro v
    show 32 :: (ds u ++ zT (zs ++ [v])) = (32 :: (ds u ++ zT zs)) ++ _
    rw [ih, List.cons_append, List.append_assoc]
theorem pT_snoc : ∀ (ps : List Nat) (j v : Nat), pT j (ps ++ [v]) = pT j ps ++ (lit_17 ++ (nI (97 + (j + ps.length)) :: 32 :: (ds v ++ [59]))) := by
  intro ps
  induction ps with
  | nil => intro j v; rfl
  | cons u ps ih =>
    intro j v
    show lit_17 ++ (nI (97 + j) :: 32 :: (ds u ++ (59 :: pT (j + 1) (ps ++ [v])))) = (lit_17 ++ (nI (97 + j) :: 32 :: (ds u ++ (59 :: pT (j + 1) ps)))) ++ _
    rw [ih, List.length_cons, show j + 1 + ps.length = j + (ps.length + 1) by omega]
    simp only [List.append_assoc, List.cons_append]
theorem ch7_ds {k : Nat} (h : k ≤ 99999) : ch7 (ds k) := fun v hv => by
  have := diB_t.mp (ds_di h v hv)
  omega
theorem ch7_cons {c : Int32} {l : List Int32} (h1 : 0 ≤ c.toInt) (h2 : c.toInt < 128) (h : ch7 l) : ch7 (c :: l) := fun v hv => by
  rcases List.mem_cons.mp hv with rfl | hv
  · exact ⟨h1, h2⟩
  · exact h v hv
theorem ch7_zT : ∀ (zs : List Nat), (∀ v, v ∈ zs → v ≤ 99999) → ch7 (zT zs) := by
  intro zs
  induction zs with
  | nil => intro _ v hv; exact absurd hv List.not_mem_nil
  | cons u zs ih =>
    intro h
    exact ch7_cons (by decide) (by decide) (ch7_app (ch7_ds (h u List.mem_cons_self)) (ih (fun v hv => h v (List.mem_cons_of_mem _ hv))))
theorem ch7_lit : ch7 lit_4 ∧ ch7 lit_17 := by
  constructor
  · intro v hv
    have h : ∀ v, v ∈ lit_4 → 0 ≤ v.toInt ∧ v.toInt < 128 := by decide
    exact h v hv
  · intro v hv
    have h : ∀ v, v ∈ lit_17 → 0 ≤ v.toInt ∧ v.toInt < 128 := by decide
    exact h v hv
theorem ch7_pT : ∀ (ps : List Nat) (j : Nat), (∀ v, v ∈ ps → v ≤ 99999) → j + ps.length ≤ 8 → ch7 (pT j ps) := by
  intro ps
  induction ps with
  | nil => intro j _ _ v hv; exact absurd hv List.not_mem_nil
  | cons u ps ih =>
    intro j h h8
    rw [List.length_cons] at h8
    exact ch7_app ch7_lit.2 (ch7_cons (by rw [nI_toInt (by omega)]; omega) (by rw [nI_toInt (by omega)]; omega) (ch7_cons (by decide) (by decide) (ch7_app (ch7_ds (h u List.mem_cons_self)) (ch7_cons (by decide) (by decide) (ih (j + 1) (fun v hv => h v (List.mem_cons_of_mem _ hv)) (by omega))))))
theorem ch7_tT {zs ps : List Nat} (hz : ∀ v, v ∈ zs → v < 4) (hp : ∀ v, v ∈ ps → v ≤ 99999) (h8 : ps.length ≤ 8) : ch7 (tT zs ps) :=
  ch7_app ch7_lit.1 (ch7_app (ch7_zT zs (fun v hv => by have := hz v hv; omega)) (ch7_cons (by decide) (by decide) (ch7_pT ps 0 hp (by omega))))
theorem chr97 : ∀ j : Fin 8, (((97 + nI j.val) : Int32).toUInt32 % 65536).toInt32 = nI (97 + j.val) := by decide
theorem lit17_map : (List.range lit_17.length).map (fun i => lit_17.getD i 0) = lit_17 := by decide
theorem lit4_map : (List.range lit_4.length).map (fun i => lit_4.getD i 0) = lit_4 := by decide
/-! the text is complete: it is written, read; the acts begin -/
theorem lw_end {zs ps : List Nat} (hz : ∀ v, v ∈ zs → v < 4) (h2 : 2 ≤ zs.length) (h11 : zs.length ≤ 11) (hp : ∀ v, v ∈ ps → v ≤ 99999) (h1 : 1 ≤ ps.length) (h4 : ps.length ≤ 4) (hh2 : h 2 = nI 0) (hK2 : ∀ w' z' mc' ms', w' b = some c0 → K2 (x1 + 1) w' z' mc' ms') (h0 : LWs b c0 d x Fz g A h tx bb t cap (tT zs ps) w z) (hB : BQ cap 496000 4960000 mc ms) :
    isO w bb 1 ∧ ∃ k67 k68, k67 ≤ mc ∧ k68 ≤ ms ∧ F_J4_toString_0e30d bb w z k67 k68 (fun r64 w65 z66 => ∃ k72 k73, k72 ≤ (mc - k67) ∧ k73 ≤ (ms - k68) ∧ F_L_write x r64 w65 z66 k72 k73 (fun r69 w70 z71 => (r69 = 0 → Q 0 w70 z71) ∧
  (¬ r69 = 0 → isO w70 x 9 ∧ ∃ k79 k80, k79 ≤ ((mc - k67) - k72) ∧ k80 ≤ ((ms - k68) - k73) ∧ F_X5_load x w70 z71 k79 k80 (fun r76 w77 z78 => (¬ r76 = nI ps.length → Q 0 w77 z78) ∧
  (r76 = nI ps.length → isO w77 x 9 ∧ F_X5_stopCount x w77 z78 (fun r83 w84 z85 => (r83 = nI zs.length → ∃ nn, B_L_law_190 b K2 Q nn x1 d x 0 w84 z85 ((((mc - k67) - k72) - k79)) ((((ms - k68) - k73) - k80))) ∧
  (¬ r83 = nI zs.length → Q 0 w84 z85))))))) := by
  have hlen := tT_le (ps := ps) hz
  have h7 := ch7_tT hz hp (by omega)
  obtain ⟨hL, -, hS, ⟨hb1, hb2⟩, ⟨ht1, ht2⟩⟩ := h0
  obtain ⟨q1, q2, q3⟩ := hB
  have hcap : (tT zs ps).length ≤ cap := by
    obtain ⟨fl, fb, e1, e2, e3, e4, e5⟩ := hS
    exact e4
  refine ⟨hS.is, 2, 4 + (tT zs ps).length, by omega, by omega, hS.str h7 hb2 ht2 hcap (Nat.le_refl _) (Nat.le_refl _) (fun w1 fb e1 e2 e3 e4 e5 => ?_)⟩
  obtain ⟨fd, hd⟩ := hL.2.2.2.1
  have hdx := hL.2.2.2.2.1.1
  have hL1 : LB b c0 d x Fz g A h tx w1 := hL.to (fun q hq _ => e5 q (by omega)) ⟨fd, by rw [e5 d (by omega)]; exact hd⟩
  have hs1 : Str w1 (fun k => k = z ∨ k = z + 1) z (tT zs ps).length (fun i => (tT zs ps).getD i 0) := ⟨true, true, z + 1, _, fb, Or.inl rfl, Or.inr rfl, e1, e2, e4⟩
  refine ⟨20, 200, by omega, by omega, lw_write h7 rfl (by omega) (by omega) (by omega) hL1 hs1 hh2 (fun w2 h3 tx3 k1 k2 k3 => ⟨fun hh => absurd hh (by decide), fun _ => ⟨k1.1.is0, 40, 300, by omega, by omega, ?_⟩⟩)⟩
  obtain ⟨m0, F, t1, t2⟩ := tx_load (f := clr (A 1) 445) hz h2 h11 hp h1 h4 (fun k hk => by rw [Nat.zero_add]) rfl (fun j hj => clr_lt hj)
  have H : Out (sLoad (fun i => (tT zs ps).getD i 0) (tT zs ps).length (clr (A 1) 445)) (fun r => r = (m0, F)) (fun _ => False) := by
    rw [t1]
    exact rfl
  obtain ⟨l1, l2, l3, ⟨fd2, l4⟩, ⟨l5, l6, l7⟩, ⟨l8, l9⟩, l10, l11⟩ := k1
  refine X_load (by omega) k3 k2 l1 l2 l3 (fun q hq => by have := l11 q hq; omega) (by omega) l10 (Nat.le_refl _) (Nat.le_refl _) H (fun n f' hK Fz' w3 h4' z3 hE hC3 _ _ _ _ _ hFr => ?_) (fun c o hE => absurd hE id)
  injection hK with e9 e10
  subst e10
  have hA : AW b c0 d x Fz' (remG g) (updA (remA g A (A 1)) 1 f') 0 w3 := by
    refine ⟨hC3, FzE.fo l2 hE (by omega), ⟨fd2, by rw [hFr d (by omega) (by omega) (by omega)]; exact l4⟩, ⟨l5, fun hh => ?_, l7⟩, ⟨by rw [hFr b (by omega) (by omega) (by omega)]; exact l8, l9⟩, ?_⟩
    · rcases (hE.2.2 d hh).1 with h5 | h5
      · exact l6 h5
      · omega
    · rw [updA_eq]
      exact t2.sd h2 (by omega) h1 (by omega)
  refine ⟨fun hh => absurd t2.2.1 hh, fun _ => ⟨hC3.is0, X_stopCount hC3 ⟨fun _ => ⟨37, lw_190 hK2 36 0 _ _ _ _ _ _ (by omega) hA ⟨by omega, by omega⟩⟩, fun hh => absurd ?_ hh⟩⟩⟩
  rw [updA_eq]
  exact t2.1
/-! the passengers' loop -/
theorem lw_104 {zs : List Nat} {P : Nat} (hz : ∀ v, v ∈ zs → v < 4) (h2 : 2 ≤ zs.length) (h11 : zs.length ≤ 11) (h1 : 1 ≤ P) (h4 : P ≤ 4) (hh2 : h 2 = nI 0) (hK2 : ∀ w' z' mc' ms', w' b = some c0 → K2 (x1 + 1) w' z' mc' ms') : ∀ (m : Nat) (ps : List Nat) (w : Mm) (z t cap mc ms : Nat), ps.length + m = P → (∀ v, v ∈ ps → v ≤ 99999) → LWs b c0 d x Fz g A h tx bb t cap (tT zs ps) w z → BQ cap 496000 4960000 mc ms → B_L_law_104 b K2 Q (m + 1) x1 d x (nI zs.length) bb (nI P) (nI ps.length) w z mc ms := by
  intro m
  induction m with
  | zero =>
    intro ps w z t cap mc ms hm hp h0 hB
    have e : P = ps.length := by omega
    subst e
    unfold B_L_law_104
    exact ⟨fun _ => lw_end hz h2 h11 hp h1 h4 hh2 hK2 h0 hB, fun hh => absurd ((nIle (by omega) (by omega)).mpr (Nat.le_refl _)) hh⟩
  | succ m ih =>
    intro ps w z t cap mc ms hm hp h0 hB
    have hlen := tT_le (ps := ps) hz
    unfold B_L_law_104
    refine ⟨fun hh => absurd ((nIle (by omega) (by omega)).mp hh) (by omega), fun _ q hl => ?_⟩
    have ec : (((97 + nI ps.length) : Int32).toUInt32 % 65536).toInt32 = nI (97 + ps.length) := chr97 ⟨ps.length, by omega⟩
    rw [ec]
    have g1 := gr_702 (need := (tT zs ps).length + lit_17.length) hB.2.2 (by rw [show lit_17.length = 11 from rfl]; omega)
    have hB1 := hB.nx gr_le g1
    refine ⟨h0.2.2.1.is, _, _, hB.ma g1, hB.mb g1, h0.lit hl (by rw [show lit_17.length = 11 from rfl]; omega) (fun w1 t1 z1 s1 => ?_)⟩
    rw [lit17_map] at s1
    have n1 : (tT zs ps ++ lit_17).length = (tT zs ps).length + 11 := by rw [List.length_append]; rfl
    have g2 := gr_702 (need := (tT zs ps ++ lit_17).length + 1) hB1.2.2 (by omega)
    have hB2 := hB1.nx gr_le g2
    refine ⟨s1.2.2.1.is, _, _, hB1.ma g2, hB1.mb g2, s1.app (by rw [nI_toInt (by omega)]; omega) (by rw [nI_toInt (by omega)]; omega) (by omega) (fun w2 t2 z2 s2 => ?_)⟩
    have n2 : (tT zs ps ++ lit_17 ++ [nI (97 + ps.length)]).length = (tT zs ps).length + 12 := by rw [List.length_append, n1]; rfl
    have g3 := gr_702 (need := (tT zs ps ++ lit_17 ++ [nI (97 + ps.length)]).length + 1) hB2.2.2 (by omega)
    have hB3 := hB2.nx gr_le g3
    refine ⟨s2.2.2.1.is, _, _, hB2.ma g3, hB2.mb g3, s2.app (by decide) (by decide) (by omega) (fun w3 t3 z3 s3 => ?_)⟩
    have n3 : (tT zs ps ++ lit_17 ++ [nI (97 + ps.length)] ++ [32]).length = (tT zs ps).length + 13 := by rw [List.length_append, n2]; rfl
    refine s3.draw (by decide) (fun r w4 r0 r1 s4 => ?_)
    rw [show (40000 : Int32).toInt = 40000 by decide] at r1
    have hv : vp_in r 40000 := vp_in_iff.mpr ⟨r0, r1⟩
    have hv2 := (clI hv).2
    have er := (nI_vp hv).symm
    generalize hvv : cl r = v at *
    rw [er]
    have dv := dn_5 v
    have g4 := gr_702 (need := (tT zs ps ++ lit_17 ++ [nI (97 + ps.length)] ++ [32]).length + dn v) hB3.2.2 (by omega)
    have hB4 := hB3.nx gr_le g4
    refine ⟨s4.2.2.1.is, _, _, hB3.ma g4, hB3.mb g4, s4.appI (by omega) (by omega) (by omega) (fun w5 t5 z5 s5 => ?_)⟩
    have n5 : (tT zs ps ++ lit_17 ++ [nI (97 + ps.length)] ++ [32] ++ ds v).length = (tT zs ps).length + 13 + dn v := by rw [List.length_append, n3, ds_len]
    have g5 := gr_702 (need := (tT zs ps ++ lit_17 ++ [nI (97 + ps.length)] ++ [32] ++ ds v).length + 1) hB4.2.2 (by omega)
    have hB5 := hB4.nx gr_le g5
    refine ⟨s5.2.2.1.is, _, _, hB4.ma g5, hB4.mb g5, s5.app (by decide) (by decide) (by omega) (fun w6 t6 z6 s6 => ?_)⟩
    have eT : tT zs ps ++ lit_17 ++ [nI (97 + ps.length)] ++ [32] ++ ds v ++ [59] = tT zs (ps ++ [v]) := by
      unfold tT
      rw [pT_snoc, Nat.zero_add]
      simp only [List.append_assoc, List.cons_append, List.nil_append]
    rw [eT] at s6
    rw [nIs (by omega)]
    have e2 : (ps ++ [v]).length = ps.length + 1 := by rw [List.length_append]; rfl
    have := ih (ps ++ [v]) w6 z6 t6 _ _ _ (by omega) (fun u hu => by
      rcases List.mem_append.mp hu with hu | hu
      · exact hp u hu
      · rw [List.mem_singleton.mp hu]
        omega) s6 hB5
    rw [e2] at this
    exact this
/-! the stops' loop -/
theorem lw_55 {N : Nat} (h2 : 2 ≤ N) (h11 : N ≤ 11) (hh2 : h 2 = nI 0) (hK2 : ∀ w' z' mc' ms', w' b = some c0 → K2 (x1 + 1) w' z' mc' ms') : ∀ (m : Nat) (zs : List Nat) (w : Mm) (z t cap mc ms : Nat), zs.length + m = N → (∀ v, v ∈ zs → v < 4) → LWs b c0 d x Fz g A h tx bb t cap (lit_4 ++ zT zs) w z → BQ cap 496000 4960000 mc ms → B_L_law_55 b K2 Q (m + 1) x1 d x (nI N) bb (nI zs.length) w z mc ms := by
  intro m
  induction m with
  | zero =>
    intro zs w z t cap mc ms hm hz h0 hB
    have e : N = zs.length := by omega
    subst e
    have hlen := zT_len zs hz
    have n0 : (lit_4 ++ zT zs).length = 4 + 2 * zs.length := by rw [List.length_append, hlen]; rfl
    unfold B_L_law_55
    have g1 := gr_702 (need := (lit_4 ++ zT zs).length + 1) hB.2.2 (by omega)
    have hB1 := hB.nx gr_le g1
    refine ⟨fun _ => ⟨h0.2.2.1.is, _, _, hB.ma g1, hB.mb g1, h0.app (by decide) (by decide) (by omega) (fun w1 t1 z1 s1 => s1.draw (by decide) (fun r w2 r0 r1 s2 => ?_))⟩, fun hh => absurd ((nIle (by omega) (by omega)).mpr (Nat.le_refl _)) hh⟩
    rintro _ rfl
    rw [i_4] at r1
    have hv : vp_in r 4 := vp_in_iff.mpr ⟨r0, r1⟩
    have hv2 := (clI hv).2
    have er := (nI_vp hv).symm
    generalize hvv : cl r = v at *
    rw [er, show (1 : Int32) = nI 1 from rfl, nIad (by omega)]
    have eT : lit_4 ++ zT zs ++ [59] = tT zs [] := by
      unfold tT
      rw [List.append_assoc]
      rfl
    rw [eT] at s2
    exact ⟨1 + v + 1, lw_104 hz h2 h11 (by omega) (by omega) hh2 hK2 (1 + v) [] w2 z1 t1 _ _ _ (by simp) (fun u hu => absurd hu List.not_mem_nil) s2 hB1⟩
  | succ m ih =>
    intro zs w z t cap mc ms hm hz h0 hB
    have hlen := zT_len zs hz
    have n0 : (lit_4 ++ zT zs).length = 4 + 2 * zs.length := by rw [List.length_append, hlen]; rfl
    unfold B_L_law_55
    have g1 := gr_702 (need := (lit_4 ++ zT zs).length + 1) hB.2.2 (by omega)
    have hB1 := hB.nx gr_le g1
    refine ⟨fun hh => absurd ((nIle (by omega) (by omega)).mp hh) (by omega), fun _ => ⟨h0.2.2.1.is, _, _, hB.ma g1, hB.mb g1, h0.app (by decide) (by decide) (by omega) (fun w1 t1 z1 s1 => s1.draw (by decide) (fun r w2 r0 r1 s2 => ?_))⟩⟩
    rw [i_4] at r1
    have hv : vp_in r 4 := vp_in_iff.mpr ⟨r0, r1⟩
    have hv2 := (clI hv).2
    have er := (nI_vp hv).symm
    generalize hvv : cl r = v at *
    rw [er]
    have n1 : (lit_4 ++ zT zs ++ [32]).length = 5 + 2 * zs.length := by rw [List.length_append, n0, List.length_singleton]; omega
    have dv := dn_5 v
    have g2 := gr_702 (need := (lit_4 ++ zT zs ++ [32]).length + dn v) hB1.2.2 (by omega)
    have hB2 := hB1.nx gr_le g2
    refine ⟨s2.2.2.1.is, _, _, hB1.ma g2, hB1.mb g2, s2.appI (by omega) (by omega) (by omega) (fun w3 t3 z3 s3 => ?_)⟩
    have eT : lit_4 ++ zT zs ++ [32] ++ ds v = lit_4 ++ zT (zs ++ [v]) := by
      rw [zT_snoc]
      simp only [List.append_assoc, List.cons_append, List.nil_append]
    rw [eT] at s3
    rw [nIs (by omega)]
    have e2 : (zs ++ [v]).length = zs.length + 1 := by rw [List.length_append]; rfl
    have := ih (zs ++ [v]) w3 z3 t3 _ _ _ (by omega) (fun u hu => by
      rcases List.mem_append.mp hu with hu | hu
      · exact hz u hu
      · rw [List.mem_singleton.mp hu]
        exact hv2) s3 hB2
    rw [e2] at this
    exact this
end
