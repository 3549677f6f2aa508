section
variable {b n x z L t cap k : Nat} {sc : Nat → Int32} {w w1 w2 : Mm} {l : List Int32} {h tx : Nat → Int32} {Fz : Nat → Prop} {g g2 : Nat → Int32} {A A2 : Nat → Nat → Int32} {K23 : Nat → Nat → Nat → Int32 → Mm → Nat → Nat → Nat → Prop} {Q : Int32 → Mm → Nat → Prop} {x4 : Int32} {mc ms : Nat}
/-- the world behind a parse: parser, states and names have changed -/
theorem LW.par (hW : LW b n sc x Fz g A h tx t cap l L w z) {Fz' : Nat → Prop} {h' tx' : Nat → Int32} {z' L' : Nat} (hE : FzE Fz z Fz' z') (hF : FrL x z w w2) (hFF : FF w2 Fz') (hP : HP w2 x h' tx') (hC : CS w2 x Fz' g2 A2) (hL : L' ≤ 700 ∧ h' 2 = nI L' ∧ g2 9 = nI L' ∧ TX tx' (A2 6) L' ∧ h' 3 = g2 11 ∧ h' 4 = g2 12) (k10 : g2 10 = g 10) (a7 : A2 7 = A 7) : LX b n sc x cap (rwd w2 (x + 764) g2 A2) z' := by
  obtain ⟨c1, c2, c3, c4, c5, c6, c7, c8, c9, c10⟩ := hW
  have o3 := c4.2.2.1
  have o5 := c4.2.2.2.2.1
  refine LX.mk' (L := L') hC (FzE.fo c2 hE (by omega)) hP (c4.load hF hE hFF) hL ?_ ?_ (by rw [hF b (by omega) (by omega) (by omega)]; exact c9.1) c9.2 (by have := hE.1; omega) c10.2.1 (fun hh => ?_)
  · rw [k10, a7]
    exact c6
  · obtain ⟨fo, hfo⟩ := c8
    exact ⟨fo, by rw [hF _ (by omega) (by omega) (by omega)]; exact hfo⟩
  · rcases (hE.2.2 _ hh).1 with h1 | h1
    · exact c10.2.2 h1
    · omega
theorem LW.rwL (hW : LW b n sc x Fz g A h tx t cap l L w z) (hF : FrL x z w w2) : w2 = rwd w2 (x + 764) g A := rwd_fr hW.2.2.2.2.2.2.1 (fun q h1 h2 => hF q (by have := hW.2.2.2.2.2.2.2.2.2.1; omega) (by omega) (by omega))
theorem LW.scrL (hW : LW b n sc x Fz g A h tx t cap l L w z) (hF : FrL x z w w2) : arI w2 b 0 = some (n, sc) := arI_c (by
  have h1 := hW.2.2.2.2.2.2.2.2.1.2
  have h2 := hW.2.2.2.2.2.2.2.2.2.1
  rw [hF b (by omega) (by omega) (by omega)]
  exact hW.2.2.2.2.2.2.2.2.1.1)
theorem BG.same {mc ms cap k : Nat} (h : BG mc ms cap (k + 1)) : BG mc ms cap k := by
  have := h.less (a := 0) (c := 0) (by omega) (by omega)
  rwa [Nat.sub_zero, Nat.sub_zero] at this
theorem LW.FFz (hW : LW b n sc x Fz g A h tx t cap l L w z) : ∀ q, Fz q → q < z := hW.2.2.2.1.2.2.2.2.2.2.1
theorem LW.FFf (hW : LW b n sc x Fz g A h tx t cap l L w z) : FF w Fz := hW.2.2.2.1.2.2.2.2.2.2.2
theorem law_append (hW : LW b n sc x Fz g A h tx t cap l L w z) (hB : BG mc ms cap (k + 1)) (h1 : vp_in (x4 + 1) n) (h2 : vp_in (x4 + 2) n) (h3 : vp_in (x4 + 3) n) (h4 : vp_in (x4 + 4) n) (h5 : vp_in (x4 + 5) n) (hK : ∀ cap' w' z' mc' ms', LX b n sc x cap' w' z' → BG mc' ms' cap' k → K23 x (x + 764) (x + 773) (x4 + 6) w' z' mc' ms') : B_L_law_288 b K23 Q x (x + 764) (x + 773) x4 w z mc ms := by
  have hC := hW.1
  obtain ⟨p1, p2, p3, p4, p5, p6⟩ := hW.2.2.2.2.1
  have s0 := hW.scr0
  refine ⟨_, _, s0, h1, _, _, s0, h2, _, _, s0, h3, _, _, s0, h4, _, _, s0, h5, hC.is0, X_append p1 p2 hC hW.2.1 hW.2.2.1 (fun hl w1 h' tx' a1 a2 a3 a4 a5 a6 => ?_) (fun hl => ?_)⟩
  · have s1 := hW.scrL a6
    refine ⟨_, _, s1, h1, _, _, s1, h2, _, _, s1, h3, _, _, s1, h4, _, _, s1, h5, ?_⟩
    rw [hW.rwL a6]
    refine ⟨R_i, M_append p1 p3 (fun _ g' k9 kk => ⟨fun _ => hK _ _ _ _ _ (hW.par (L' := L + 20) (FzE.rfl hW.FFz) a6 (fun q hq bb n f he => hW.FFf q hq bb n f ?_) a2 (a1.cong (kk 5 (by omega) (by omega)) (fun _ _ => rfl) rfl rfl rfl) ⟨hl, a3, k9, ?_, ?_, ?_⟩ (kk 10 (by omega) (by omega)) (updA_ne (by omega))) hB.same, fun hh => absurd rfl hh⟩) (fun hn => absurd hl hn)⟩
    · have := hW.2.1 q hq
      have := hW.2.2.2.2.2.2.2.2.2.1
      rw [← he, a6 q (hW.FFz q hq) (by omega) (by omega)]
    · rw [updA_eq, a5]
      exact p4.add20 _ _ _ _ _
    · rw [a4 3 (by omega), p5, kk 11 (by omega) (by omega)]
    · rw [a4 4 (by omega), p6, kk 12 (by omega) (by omega)]
  · refine ⟨_, _, s0, h1, _, _, s0, h2, _, _, s0, h3, _, _, s0, h4, _, _, s0, h5, ?_⟩
    rw [hW.rw FrO.rfl']
    exact ⟨R_i, M_append p1 p3 (fun hy => absurd hy hl) (fun _ => ⟨fun _ => hW.go0' hB hK (Nat.le_refl _) FrO.rfl' hW.2.2.2.2.2.2.2.1 hC, fun hh => absurd rfl hh⟩)⟩
theorem okL {REST : Mm → Prop} (hW : LW b n sc x Fz g A h tx t cap l L w z) (hF : FrL x z w w1) (v : Int64) (hq : ∀ w12 fo, (∀ q, ¬ q = x + 773 → w12 q = w1 q) → w12 (x + 773) = some (true, .inr (3, 1, .inr (.inl fo))) → fo 0 = v → REST w12) : ∃ n11 f10, arL w1 (x + 773) = some (n11, f10) ∧ vp_in 0 n11 ∧ ∀ w12, w12 = mset w1 (x + 773) (.inr (3, n11, .inr (.inl (vp_updL f10 (0 : Int32).toNatClampNeg v)))) → REST w12 := by
  obtain ⟨fo, hfo⟩ := hW.2.2.2.2.2.2.2.1
  have hz := hW.2.2.2.2.2.2.2.2.2.1
  have e : w1 (x + 773) = some (true, .inr (3, 1, .inr (.inl fo))) := (hF _ (by omega) (by omega) (by omega)).trans hfo
  refine ⟨_, _, arL_c e rfl, in_nI (k := 0) (by decide) (by decide), ?_⟩
  rintro _ rfl
  refine hq _ _ (fun q hq => mset_ne hq) (mset_eq _ _ _) ?_
  rw [cl0]
  exact if_pos rfl
theorem law_truncateInput (hW : LW b n sc x Fz g A h tx t cap l L w z) (hB : BG mc ms cap (k + 1)) (h1 : vp_in (x4 + 1) n) (hK : ∀ cap' w' z' mc' ms', LX b n sc x cap' w' z' → BG mc' ms' cap' k → K23 x (x + 764) (x + 773) (x4 + 6) w' z' mc' ms') : B_L_law_361 b K23 Q x (x + 764) (x + 773) x4 w z mc ms := by
  have hC := hW.1
  obtain ⟨p1, p2, p3, p4, p5, p6⟩ := hW.2.2.2.2.1
  have s0 := hW.scr0
  have hb1 := hB.1
  have hb2 := hB.2.1
  have hfo := hW.2.2.2.2.2.2.2.1
  have hzz := hW.2.2.2.2.2.2.2.2.2.1
  have hbx := hW.2.2.2.2.2.2.2.2.1.2
  refine ⟨_, _, s0, h1, 10, 100, by omega, by omega, hC.is0, 10, 100, Nat.le_refl _, Nat.le_refl _, X_trunc p1 p2 hC hW.2.1 hW.2.2.1 (Nat.le_refl _) (Nat.le_refl _) (fun hp w1 h' a1 a2 a3 a4 a6 => okL hW a6 _ (fun w2 fo e2 ho hv => ?_)) (fun hp z1 hz1 => ⟨fun _ => ⟨_, _, s0, h1, ?_⟩, fun hh => absurd rfl hh⟩)⟩
  · have hb : w2 b = some (false, .inr (0, n, .inl sc)) := by
      rw [e2 b (by omega), a6 b (by omega) (by omega) (by omega)]
      exact hW.2.2.2.2.2.2.2.2.1.1
    refine ⟨_, _, arI_c hb, h1, ?_⟩
    have er : w2 = rwd w2 (x + 764) g A := rwd_fr hW.2.2.2.2.2.2.1 (fun q q1 q2 => by rw [e2 q (by omega), a6 q (by omega) (by omega) (by omega)])
    rw [er]
    have hq2 : ∀ q, Fz q → w2 q = w q := fun q hq => by
      have h3 := hW.2.1 q hq
      have h4 : q ≠ x + 773 := fun e => hW.2.2.2.2.2.2.2.2.2.2.2 (e ▸ hq)
      rw [e2 q h4, a6 q (hW.FFz q hq) (by omega) (by omega)]
    have hv2 := hp
    refine ⟨R_i, M_trunc p1 p3 (fun _ => Tl_ok (BE := fun w z => B_L_law_414 b K23 Q x (x + 764) (x + 773) x4 w z (mc - 10) (ms - 100)) (QE := fun w z => Q 0 w z) ((upd_ne (by omega)).trans (upd_eq _ _ _)) ((rwd_o (by omega)).trans ho) hv (hK _ _ _ _ _ (LX.mk' (L := (sc (x4 + 1).toNatClampNeg).toInt.toNat) (h := h') (tx := tx) (t := t) (l := l) (Fz := Fz) ?_ hW.2.1 ?_ ?_ ?_ ?_ ⟨fo, ho⟩ hb hbx (by omega) hW.2.2.2.2.2.2.2.2.2.2.1 hW.2.2.2.2.2.2.2.2.2.2.2) (hB.less (by omega) (by omega)))) (fun hn => absurd hp hn)⟩
    · refine (CS.to (w' := w2) a1 (fun q hq => e2 q ?_)).cong ((upd_ne (by omega)).trans (upd_ne (by omega))) (fun _ _ => rfl) rfl rfl rfl
      rcases hq with hq | hq | hq
      · omega
      · omega
      · exact fun e => hW.2.2.2.2.2.2.2.2.2.2.2 (e ▸ hq)
    · exact a2.to (e2 _ (by omega)) (e2 _ (by omega))
    · have c4 := hW.2.2.2.1
      have c10 := hW.2.2.2.2.2.2.2.2.2
      have o3 := c4.2.2.1
      have o5 := c4.2.2.2.2.1
      exact ⟨c4.1.to (by rw [e2 _ (by omega), a6 _ (by omega) (by omega) (by omega)]) (by rw [e2 _ c10.2.1, a6 _ o5 (by omega) (by omega)]), c4.2.1, o3, c4.2.2.2.1, o5, by omega, hW.FFz, fun a ha bb n f he => hW.FFf a ha bb n f (by rw [← he, hq2 a ha])⟩
    · have e9 : sc (x4 + 1).toNatClampNeg = nI (sc (x4 + 1).toNatClampNeg).toInt.toNat := ieq.mpr (by rw [nI_toInt (by omega)]; omega)
      refine ⟨by omega, a3.trans e9, (upd_eq _ _ _).trans e9, p4.less (by omega), ?_, ?_⟩
      · rw [a4 3 (by omega), p5, upd_ne (by omega), upd_ne (by omega)]
      · rw [a4 4 (by omega), p6, upd_ne (by omega), upd_ne (by omega)]
    · rw [upd_ne (by omega), upd_ne (by omega)]
      exact hW.2.2.2.2.2.1
  · rw [hW.rw FrO.rfl']
    exact ⟨R_i, M_trunc p1 p3 (fun hn => absurd hn hp) (fun _ => Tl_ex (BE := fun w z => B_L_law_414 b K23 Q x (x + 764) (x + 773) x4 w z (mc - 10) (ms - 100)) (QE := fun w z => Q 0 w z) (upd_eq _ _ _) (by decide) (hW.go0 hB hK hz1 FrO.rfl' hfo hC))⟩
theorem MOk_CS {f' : Nat → Int32} (hM : MOk g A f' g2 A2) (hC : CS w x Fz (remG g) (updA (remA g A (A 1)) 1 f')) : CS w x Fz g2 A2 := by
  obtain ⟨k5, k9, k10, k11, k12, a1, a2, a3, a5, a7⟩ := hM
  refine hC.cong k5 (fun j _ => ?_) ?_ ?_ ?_
  · rw [updA_eq, a1]
  · rw [updA_ne (by omega), a2]
  · rw [updA_ne (by omega), remA_k (by omega), a3]
  · rw [updA_ne (by omega), remA_k (by omega), a5]
theorem MEr_CS {c o : Int32} (hM : MEr g A c o g2 A2) (hC : CS w x Fz g A) : CS w x Fz g2 A2 := by
  obtain ⟨k5, k9, k10, k11, k12, a1, a2, a3, a5, a7⟩ := hM
  exact hC.cong k5 a1 a2 a3 a5
theorem law_play (hW : LW b n sc x Fz g A h tx t cap l L w z) (hB : BG mc ms cap (k + 1)) (hK : ∀ cap' w' z' mc' ms', LX b n sc x cap' w' z' → BG mc' ms' cap' k → K23 x (x + 764) (x + 773) (x4 + 6) w' z' mc' ms') : B_L_law_430 b K23 Q x (x + 764) (x + 773) x4 w z mc ms := by
  have hC := hW.1
  obtain ⟨p1, p2, p3, p4, p5, p6⟩ := hW.2.2.2.2.1
  have hff : ∀ w1, FrL x z w w1 → FF w1 Fz := fun w1 hF q hq bb n f he => hW.FFf q hq bb n f (by
    have := hW.2.1 q hq
    have := hW.2.2.2.2.2.2.2.2.2.1
    rw [← he, hF q (hW.FFz q hq) (by omega) (by omega)])
  have hE := FzE.rfl hW.FFz
  refine ⟨hC.is0, X_play p1 p4 p2 hC hW.2.1 hW.2.2.1 (Out.refl _) (fun m f' hr w1 h' a1 a2 a3 a4 a5 a6 => ?_) (fun c o hr w1 h' a1 a2 a3 a4 a5 a6 => ?_)⟩
  · rw [hW.rwL a6]
    refine ⟨R_i, M_play p1 p3 hC.v9 hC.I1 (Out.refl _) (fun m2 f2 hr2 g2 A2 hM => ?_) (fun c o hr2 => absurd (hr.symm.trans hr2) (by intro hh; injection hh))⟩
    rw [hr] at hr2
    injection hr2 with hr2
    injection hr2 with e1 e2
    subst e1
    subst e2
    exact ⟨fun _ => hK _ _ _ _ _ (hW.par (L' := 0) hE a6 (hff w1 a6) a2 (MOk_CS hM a1) ⟨by omega, a3, hM.2.1, fun i hi => absurd hi (by omega), a4.trans hM.2.2.2.1.symm, a5.trans hM.2.2.2.2.1.symm⟩ hM.2.2.1 hM.2.2.2.2.2.2.2.2.2) hB.same, fun hh => absurd rfl hh⟩
  · rw [hW.rwL a6]
    refine ⟨R_i, M_play p1 p3 hC.v9 hC.I1 (Out.refl _) (fun m2 f2 hr2 => absurd (hr.symm.trans hr2) (by intro hh; injection hh)) (fun c2 o2 hr2 g2 A2 hM => ?_)⟩
    rw [hr] at hr2
    injection hr2 with hr2
    injection hr2 with e1 e2
    subst e1
    subst e2
    exact ⟨fun _ => hK _ _ _ _ _ (hW.par (L' := 0) hE a6 (hff w1 a6) a2 (MEr_CS hM a1) ⟨by omega, a3, hM.2.1, fun i hi => absurd hi (by omega), a4.trans hM.2.2.2.1.symm, a5.trans hM.2.2.2.2.1.symm⟩ hM.2.2.1 hM.2.2.2.2.2.2.2.2.2) hB.same, fun hh => absurd rfl hh⟩
theorem law_load (hW : LW b n sc x Fz g A h tx t cap l L w z) (hB : BG mc ms cap (k + 1)) (hK : ∀ cap' w' z' mc' ms', LX b n sc x cap' w' z' → BG mc' ms' cap' k → K23 x (x + 764) (x + 773) (x4 + 6) w' z' mc' ms') : B_L_law_417 b K23 Q x (x + 764) (x + 773) x4 w z mc ms := by
  have hC := hW.1
  obtain ⟨p1, p2, p3, p4, p5, p6⟩ := hW.2.2.2.2.1
  have hb1 := hB.1
  have hb2 := hB.2.1
  have hzz := hW.2.2.2.2.2.2.2.2.2.1
  refine ⟨hC.is0, 40, 300, by omega, by omega, X_load p1 p4 p2 hC hW.2.1 hW.2.2.1 hW.FFz (by omega) hW.FFf (Nat.le_refl _) (Nat.le_refl _) (Out.refl _) (fun m f' hr Fz' w1 h' z1 hE a1 a2 a3 a4 a5 aF a6 => ?_) (fun c o hr Fz' w1 h' z1 hE a1 a2 a3 a4 a5 aF a6 => ?_)⟩
  · rw [hW.rwL a6]
    refine ⟨R_i, M_load p1 p3 hC.v9 (Out.refl _) (fun m2 f2 hr2 g2 A2 hM => ?_) (fun c o hr2 => absurd (hr.symm.trans hr2) (by intro hh; injection hh))⟩
    rw [hr] at hr2
    injection hr2 with hr2
    injection hr2 with e1 e2
    subst e1
    subst e2
    exact ⟨fun _ => hK _ _ _ _ _ (hW.par (L' := 0) hE a6 aF a2 (MOk_CS hM a1) ⟨by omega, a3, hM.2.1, fun i hi => absurd hi (by omega), a4.trans hM.2.2.2.1.symm, a5.trans hM.2.2.2.2.1.symm⟩ hM.2.2.1 hM.2.2.2.2.2.2.2.2.2) (hB.less (by omega) (by omega)), fun hh => absurd rfl hh⟩
  · rw [hW.rwL a6]
    refine ⟨R_i, M_load p1 p3 hC.v9 (Out.refl _) (fun m2 f2 hr2 => absurd (hr.symm.trans hr2) (by intro hh; injection hh)) (fun c2 o2 hr2 g2 A2 hM => ?_)⟩
    rw [hr] at hr2
    injection hr2 with hr2
    injection hr2 with e1 e2
    subst e1
    subst e2
    exact ⟨fun _ => hK _ _ _ _ _ (hW.par (L' := 0) hE a6 aF a2 (MEr_CS hM a1) ⟨by omega, a3, hM.2.1, fun i hi => absurd hi (by omega), a4.trans hM.2.2.2.1.symm, a5.trans hM.2.2.2.2.1.symm⟩ hM.2.2.1 hM.2.2.2.2.2.2.2.2.2) (hB.less (by omega) (by omega)), fun hh => absurd rfl hh⟩
theorem wcA_len {f : Nat → Int32} (hI : Inv f) : (wcA f).length ≤ 300 := by
  have hB4 := clI hI.2.1.2.2.2
  have key : ∀ (n : Nat) (c : Int32) (l : List Int32), (f 4).toInt = c.toInt + n → 0 ≤ c.toInt → (wcs f n c l).length ≤ l.length + 13 * n := by
    intro n
    induction n with
    | zero => intro c l _ _; rw [wcs]; omega
    | succ n ih =>
      intro c l h1 h2
      have hc : vp_in c (cl (f 4)) := vp_in_iff.mpr (by omega)
      have h5 := cl_succ (vp_le hc (m := 20) (by omega)) (by omega)
      rw [wcs]
      split
      · have := ih (c + 1) l (by omega) (by omega)
        omega
      · have h6 := ih (c + 1) (wc f c l) (by omega) (by omega)
        have h7 := wc_len hI hc l
        omega
  have := key (cl (f 4)) 0 [] (by rw [i_0]; omega) (by rw [i_0]; omega)
  unfold wcA
  simp only [List.length_nil] at this
  omega
theorem cpc_702 {f : Nat → Int32} (hI : Inv f) {c : Int32} (hc : vp_in c (cl (f 4))) {cap : Nat} {l : List Int32} (hl : l.length + 12 ≤ 290) (h : cap ≤ 702) : cpc f c cap l ≤ 702 := by
  have hp := (hI.2.2.2.2.2.1 _ (clI hc).2).1
  have hnm := (ch7_nm hI (clI hp).2).2
  have hd4 := dgn_4 (cl (dueF f c))
  have hnl : (nmL f (cl (f (305 + 7 * cl c)))).length = cl (f (21 + 13 * cl (f (305 + 7 * cl c)) + 6)) := by
    unfold nmL
    rw [List.length_map, List.length_range]
  have hlen2 : (wc2 f c l).length = l.length + (nmL f (cl (f (305 + 7 * cl c)))).length := List.length_append
  have hlen3 : (wc2 f c l ++ [58]).length = (wc2 f c l).length + 1 := List.length_append
  have hlen4 : ((wc2 f c l ++ [58]) ++ dgs (cl (dueF f c))).length = (wc2 f c l).length + 1 + dgn (cl (dueF f c)) := by
    rw [List.length_append, hlen3, dgs_len]
  have e3 : gr (gr (gr cap (l.length + cl (f (21 + 13 * cl (f (305 + 7 * cl c)) + 6)))) ((wc2 f c l).length + 1)) ((wc2 f c l ++ [58]).length + dgn (cl (dueF f c))) ≤ 702 := gr_702 (gr_702 (gr_702 h (by omega)) (by omega)) (by omega)
  unfold cpc
  split
  · exact e3
  · exact gr_702 e3 (by omega)
theorem cps_702 {f : Nat → Int32} (hI : Inv f) : ∀ (n : Nat) (c : Int32) (cap : Nat) (l : List Int32), (f 4).toInt = c.toInt + n → 0 ≤ c.toInt → l.length + 13 * n ≤ 277 → cap ≤ 702 → cps f n c cap l ≤ 702 := by
  have hB4 := clI hI.2.1.2.2.2
  intro n
  induction n with
  | zero => intro c cap l _ _ _ h; rw [cps]; exact h
  | succ n ih =>
    intro c cap l h1 h2 h3 h4
    have hc : vp_in c (cl (f 4)) := vp_in_iff.mpr (by omega)
    have hv : vp_in c 20 := vp_le hc (by omega)
    have h5 := cl_succ hv (by omega)
    rw [cps]
    split
    · exact ih _ _ _ (by omega) (by omega) (by omega) h4
    · refine ih _ _ _ (by omega) (by omega) ?_ ?_
      · have := wc_len hI hc l
        omega
      · unfold cpw
        split
        · exact cpc_702 hI hc (by omega) h4
        · refine cpc_702 hI hc ?_ (gr_702 h4 (by omega))
          rw [List.length_append, List.length_singleton]
          omega
theorem cpA_702 {f : Nat → Int32} (hI : Inv f) {cap : Nat} (h : cap ≤ 702) : cpA f cap ≤ 702 := by
  have hB4 := clI hI.2.1.2.2.2
  exact cps_702 hI _ 0 cap [] (by rw [i_0]; omega) (by rw [i_0]; omega) (by simp only [List.length_nil]; omega) h
theorem law_writeCases (hW : LW b n sc x Fz g A h tx t cap l L w z) (hB : BG mc ms cap (k + 1)) (hK : ∀ cap' w' z' mc' ms', LX b n sc x cap' w' z' → BG mc' ms' cap' k → K23 x (x + 764) (x + 773) (x4 + 6) w' z' mc' ms') : B_L_law_2897 b K23 Q x (x + 764) (x + 773) x4 w z mc ms := by
  have hC := hW.1
  have hI := hC.I1
  have hb1 := hB.1
  have hb2 := hB.2.1
  have hzz := hW.2.2.2.2.2.2.2.2.2.1
  have hO := hW.2.2.2.1
  have hcap : cap ≤ cpA (A 1) cap := cps_le _ _ _ _ _
  have hc7 : cpA (A 1) cap ≤ 702 := cpA_702 hI hB.2.2
  refine ⟨hC.is0, cpA (A 1) cap - cap, 2 * (cpA (A 1) cap - cap), by omega, by omega, X_writeCases hC hW.2.1 hO (fun w1 t1 z1 a1 a2 a3 a4 a5 => ?_)⟩
  have hF : ∀ q, q < z → ¬ q = x + 132 → ¬ q = t → w1 q = w q := a4
  have ht := hW.2.2.2.2.2.2.2.2.2.2.1
  have o3 := hO.2.2.1
  have er : w1 = rwd w1 (x + 764) g A := rwd_fr hW.2.2.2.2.2.2.1 (fun q q1 q2 => hF q (by omega) (by omega) (by omega))
  rw [er]
  refine ⟨R_i, M_writeCases hI (fun g' A' hR => ⟨fun _ => hK _ _ _ _ _ (LX.mk' (L := L) (h := h) (tx := tx) (t := t1) (l := wcA (A 1)) (Fz := Fz) (z1 := z1) (cap := cpA (A 1) cap) ?_ hW.2.1 ?_ a2 ?_ ⟨hR.1.1, hR.1.2, wcA_len hI⟩ ?_ ?_ hW.2.2.2.2.2.2.2.2.1.2 (by omega) (by omega) hW.2.2.2.2.2.2.2.2.2.2.2) ?_, fun hh => absurd rfl hh⟩)⟩
  · refine a1.cong ?_ (fun j _ => ?_) (hR.2.2 2 (by omega)) (hR.2.2 3 (by omega)) (hR.2.2 5 (by omega))
    · rw [hR.2.1 5 (by omega), upd_ne (by omega), upd_ne (by omega)]
    · rw [hR.2.2 1 (by omega)]
  · exact hW.2.2.1.to (hF _ (by omega) (by omega) (by omega)) (hF _ (by omega) (by omega) (by omega))
  · obtain ⟨p1, p2, p3, p4, p5, p6⟩ := hW.2.2.2.2.1
    refine ⟨p1, p2, ?_, ?_, ?_, ?_⟩
    · rw [hR.2.1 9 (by omega), upd_ne (by omega), upd_ne (by omega), p3]
    · rw [hR.2.2 6 (by omega)]
      exact p4
    · rw [hR.2.1 11 (by omega), upd_ne (by omega), upd_ne (by omega), p5]
    · rw [hR.2.1 12 (by omega), upd_ne (by omega), upd_ne (by omega), p6]
  · obtain ⟨fo, hfo⟩ := hW.2.2.2.2.2.2.2.1
    exact ⟨fo, by rw [hF _ (by omega) (by omega) (Ne.symm ht)]; exact hfo⟩
  · have hbx := hW.2.2.2.2.2.2.2.2.1
    rw [hF b (by omega) (by omega) (by omega)]
    exact hbx.1
  · obtain ⟨q1, q2, q3⟩ := hB
    refine ⟨?_, ?_, hc7⟩ <;> omega
theorem law_outputByte (hW : LW b n sc x Fz g A h tx t cap l L w z) (hB : BG mc ms cap (k + 1)) (h1 : vp_in (x4 + 1) n) (hK : ∀ cap' w' z' mc' ms', LX b n sc x cap' w' z' → BG mc' ms' cap' k → K23 x (x + 764) (x + 773) (x4 + 6) w' z' mc' ms') : B_L_law_2910 b K23 Q x (x + 764) (x + 773) x4 w z mc ms := by
  have hC := hW.1
  have s0 := hW.scr0
  have hR := hW.2.2.2.2.2.1
  refine ⟨_, _, s0, h1, hC.is0, X_outputByte hC hW.2.2.2.1 (fun hv => ⟨_, _, s0, h1, ?_⟩) (fun hv => ⟨_, _, s0, h1, ?_⟩)⟩
  · rw [hW.rw FrO.rfl']
    exact ⟨R_i, M_outputByte ⟨hR.1, hR.2.1⟩ hR.2.2 (fun _ => ⟨fun _ => hW.go0' hB hK (Nat.le_refl _) FrO.rfl' hW.2.2.2.2.2.2.2.1 hC, fun hh => absurd rfl hh⟩) (fun hn => absurd hv hn)⟩
  · rw [hW.rw FrO.rfl']
    exact ⟨R_i, M_outputByte ⟨hR.1, hR.2.1⟩ hR.2.2 (fun hn => absurd hn hv) (fun _ => ⟨fun _ => hW.go0' hB hK (Nat.le_refl _) FrO.rfl' hW.2.2.2.2.2.2.2.1 hC, fun hh => absurd rfl hh⟩)⟩
theorem law_faultShare (hW : LW b n sc x Fz g A h tx t cap l L w z) (hB : BG mc ms cap (k + 1)) (hK : ∀ cap' w' z' mc' ms', LX b n sc x cap' w' z' → BG mc' ms' cap' k → K23 x (x + 764) (x + 773) (x4 + 6) w' z' mc' ms') : B_L_law_2813 b K23 Q x (x + 764) (x + 773) x4 w z mc ms := by
  have hC := hW.1
  have fin : ∀ v, B_L_law_2851 b K23 Q x (x + 764) (x + 773) x4 (rwd w (x + 764) (upd g 6 v) A) z mc ms := fun v => hW.go0' hB hK (Nat.le_refl _) FrO.rfl' hW.2.2.2.2.2.2.2.1 hC
  refine ⟨hC.is0, X_faultShare hC (fun hn => ?_) (fun hn => ?_)⟩
  · rw [hW.rw FrO.rfl']
    exact ⟨R_i, G_faultShare (fun _ => ⟨fun _ => fin 0, fun hc => ⟨fun h0 => absurd h0 hc, fun _ => ⟨fun _ => fin 0, fun h0 => absurd h0 hc⟩⟩⟩) (fun h0 => absurd h0 hn)⟩
  · rw [hW.rw FrO.rfl']
    exact ⟨R_i, G_faultShare (fun h0 => absurd hn h0) (fun _ => ⟨fun _ => fin 0, fun hc => ⟨fun h0 => absurd h0 hc, fun _ => ⟨fun _ => fin 0, fun h0 => absurd h0 hc⟩⟩⟩)⟩
theorem law_meanPrice (hW : LW b n sc x Fz g A h tx t cap l L w z) (hB : BG mc ms cap (k + 1)) (hK : ∀ cap' w' z' mc' ms', LX b n sc x cap' w' z' → BG mc' ms' cap' k → K23 x (x + 764) (x + 773) (x4 + 6) w' z' mc' ms') : B_L_law_2854 b K23 Q x (x + 764) (x + 773) x4 w z mc ms := by
  have hC := hW.1
  have fin : ∀ v, B_L_law_2894 b K23 Q x (x + 764) (x + 773) x4 (rwd w (x + 764) (upd g 6 v) A) z mc ms := fun v => hW.go0' hB hK (Nat.le_refl _) FrO.rfl' hW.2.2.2.2.2.2.2.1 hC
  refine ⟨hC.is0, X_meanPrice hC (fun hn => ⟨nnf2d (nnq hn), ?_⟩) (fun hn => ⟨nnf2d (by decide), ?_⟩)⟩
  · rw [hW.rw FrO.rfl']
    exact ⟨R_i, G_meanPrice (fun _ => ⟨nnf2d (nnq hn), fun _ => fin 0, fun hc => ⟨fun h0 => absurd h0 hc, fun _ => ⟨fun _ => fin 0, fun h0 => absurd h0 hc⟩⟩⟩) (fun h0 => absurd h0 hn)⟩
  · rw [hW.rw FrO.rfl']
    exact ⟨R_i, G_meanPrice (fun h0 => absurd hn h0) (fun _ => ⟨nnf2d (by decide), fun _ => fin 0, fun hc => ⟨fun h0 => absurd h0 hc, fun _ => ⟨fun _ => fin 0, fun h0 => absurd h0 hc⟩⟩⟩)⟩
end
