section
variable {w : Mm} {m z L i : Nat} {g g0 a f f' : Nat → Int32} {A A0 : Nat → Nat → Int32} {Q : Int32 → Mm → Nat → Prop} {R : Mm → Nat → Prop} {T : Mm → Prop} {c o : Int32}
theorem L_insp {p : Int32} (hI : Inv (A 1)) (hp : vp_in p (cl (A 1 2))) (hc : vp_in (A 1 4) 20) (hq : ∀ v, Q v (rwd w m g (updA A 1 (inspectF (A 1) p))) z) : F_X6_inspects m p (rwd w m g A) z Q := by
  have hB1 := clI hI.2.1.1
  have hB2 := clI hI.2.1.2.1
  have hB3 := clI hI.2.1.2.2.1
  have hR : ¬ A 1 (21 + 13 * cl p + 3) = -1 → _ := hI.rd.2 (cl p) (clI hp).2
  exact L_inspects (vp_le hp (by omega)) (fun he => vp_le (hR he).1 (by omega)) (fun he => vp_le (hR he).2.1 (by omega)) (fun he hk => vp_le ((hR he).2.2 hk) (by omega)) hc (hq _)
theorem M_ride {K : Nat × (Nat → Int32) → Prop} {E : Int32 × Int32 → Prop} (hL : L ≤ 700) (h : RM g0 A0 a f L i g A) (hI : Inv f) (H : Out (sRide a L f i) K E)
    (hok : ∀ j f', K (j, f') → ∀ g' A', RM g0 A0 a f' L j g' A' → R (rwd w m g' A') z)
    (her : ∀ c o, E (c, o) → ∀ g' A', RX g0 A0 L c o g' A' → R (rwd w m g' A') z) : F_X6_rideTold m (rwd w m g A) z (Go m R) := by
  have hB1 := clI hI.2.1.1
  have hB2 := clI hI.2.1.2.1
  have hB3 := clI hI.2.1.2.2.1
  have H1 := H.eb
  have e101 : ∀ (v s t k : Int32) c o g' A', RX g0 A0 L c o g' A' → R (rwd w m g' A') z → B_X6_rideTold_101 m (Go m R) v s t k (rwd w m g' A') z := fun v s t k c o g' A' hE hq => Rt_er (Can := fun w z Q => F_X6_mayRide m v k w z Q) (Act := fun w z Q => F_X6_begins m v s t k w z Q) hE hq
  have e55 : ∀ (v s t y : Int32) c o g' A', RX g0 A0 L c o g' A' → R (rwd w m g' A') z → B_X6_rideTold_55 m (Go m R) v s t y m (rwd w m g' A') z := fun v s t y c o g' A' hE hq => ⟨R_i, R_wrongE hE.ne ⟨R_i, M_goE hE ⟨_, R_g19, fun _ => e101 _ _ _ _ c o g' A' hE hq, fun hh => absurd hh hE.ne⟩⟩⟩
  have k101 : ∀ v s t k j g4 A4, vp_in v (cl (f 2)) → (k = -1 ∨ vp_in k (cl (f 3))) → RM g0 A0 a f L j g4 A4 → Out (sAct a L (mayRideF f v k) (beginF f v s t k) j) K E → B_X6_rideTold_101 m (Go m R) v s t k (rwd w m g4 A4) z := fun v s t k j g4 A4 hv hk hM H3 =>
    Rt_ok (Can := fun w z Q => F_X6_mayRide m v k w z Q) (Act := fun w z Q => F_X6_begins m v s t k w z Q) (cv := mayRideF f v k) (f' := beginF f v s t k) hL hM
      (fun Q hq => L_mayRide (vp_le hv (by omega)) (fun hn => vp_le (hk.resolve_left hn) (by omega)) (by rw [hM.2.2.2.2]; exact hq))
      (fun hb Q hq => L_begins (vp_le hv (by omega)) (fun hn => vp_le (hk.resolve_left hn) (by omega)) (by rw [hM.2.2.2.2]; exact hq _))
      H3 (fun j hj hb g' A' hm => hok _ _ hj g' A' hm) her
  refine ⟨R_i, M_go hL h (fun g1 h1 => ⟨R_i, M_known hL h1 hI (fun v j hr g2 A2 h2 => ?_) (fun c o hr g2 A2 v hE => ⟨_, R_r0, _, _, R_a1, vl1, R_i, M_numberE hE ⟨_, R_r0, _, _, R_a1, vl1, R_i, R_hereE hE.1 ⟨_, R_g19, fun _ => e55 _ _ _ _ c o g2 A2 hE (her c o (H1.er hr) g2 A2 hE), fun hh => absurd hh hE.ne⟩⟩⟩)⟩)⟩
  have hv := sKnown_in (by omega) hr
  have H2 := (H1.ok hr).eb
  have e1 : A2 1 (1 : Int32).toNatClampNeg = f 1 := by rw [cl1, h2.2.2.2.2]
  refine ⟨_, R_r0, _, _, R_a1, vl1, R_i, ?_⟩
  rw [e1]
  refine M_number hL h2 (fun s j2 hr2 g3 h3 => ⟨_, R_r0, _, _, R_a1, vl1, R_i, ?_⟩) (fun c o hr2 g3 hE => ⟨_, R_r0, _, _, R_a1, vl1, R_i, R_hereE hE.1 ⟨_, R_g19, fun _ => e55 _ _ _ _ c o g3 A2 hE (her c o (H2.er (by unfold sStop; rw [hr2]; rfl)) g3 A2 hE), fun hh => absurd hh hE.ne⟩⟩)
  have hs := sNum_in hI.2.1.1 hr2
  have H3 := (H2.ok (r := (s, j2)) (by
    unfold sStop
    rw [hr2]
    exact if_neg (vp_m1 hs))).eb.eb
  rw [e1]
  refine M_here h3 (fun t j3 hr3 => ⟨_, R_g19, fun hh => absurd h3.n19 hh, fun _ => ⟨fun hst => ⟨R_i, R_wrong0 ⟨R_i, M_go hL h3 (fun g4 h4 => ⟨_, R_g19, fun hh => absurd h4.n19 hh, fun _ => fun q l => ⟨R_i, M_is (by decide) (chr_lit _ (by decide)) hL h4 l ?_⟩⟩)⟩⟩, fun hst => ⟨R_i, M_wrong1 h3 (fun g4 hE => ⟨R_i, M_goE hE ⟨_, R_g19, fun _ => e101 _ _ _ _ _ _ g4 A2 hE (her _ _ ((H3.ok hr3).if1 hst.symm) g4 A2 hE), fun hh => absurd hh hE.ne⟩⟩)⟩⟩⟩) (fun c o hr3 g4 hE => ⟨_, R_g19, fun _ => e55 _ _ _ _ c o g4 A2 hE (her c o (H3.er hr3) g4 A2 hE), fun hh => absurd hh hE.ne⟩)
  have H4 := (H3.ok hr3).if0 (fun hh => hst hh.symm)
  have hj3 := sNum_to hr3
  by_cases hw : wIs a L j3 lit_11.length (fun j => lit_11.getD j 0) = true
  · have H5 := (H4.if1 hw).eb
    rw [← hj3, if_pos hw]
    have e3 : A2 1 (3 : Int32).toNatClampNeg = f 3 := by rw [cl3, h2.2.2.2.2]
    rw [← hj3] at h4
    refine ⟨fun hh => absurd hh (by decide), fun _ => ⟨R_i, M_go hL h4 (fun g5 h5 => ⟨_, R_r0, _, _, R_a1, vl3, R_i, ?_⟩)⟩⟩
    rw [e3]
    exact M_number hL h5 (fun k j4 hr4 g6 h6 => k101 v s t k j4 g6 A2 hv (Or.inr (sNum_in hI.2.1.2.2.1 hr4)) h6 (H5.ok hr4 :)) (fun c o hr4 g6 hE => e101 _ _ _ _ c o g6 A2 hE (her c o (H5.er hr4) g6 A2 hE))
  · have H5 := H4.if0 hw
    rw [← hj3, if_neg hw]
    rw [← hj3] at h4
    exact ⟨fun _ => k101 v s t (-1) j3 g4 A2 hv (Or.inl rfl) h4 H5, fun hh => absurd rfl hh⟩
theorem M_appeal {K : Nat × (Nat → Int32) → Prop} {E : Int32 × Int32 → Prop} (hL : L ≤ 700) (h : RM g0 A0 a f L i g A) (hI : Inv f) (H : Out (sAppeal a L f i) K E)
    (hok : ∀ j f', K (j, f') → ∀ g' A', RM g0 A0 a f' L j g' A' → R (rwd w m g' A') z)
    (her : ∀ c o, E (c, o) → ∀ g' A', RX g0 A0 L c o g' A' → R (rwd w m g' A') z) : F_X6_appealTold m (rwd w m g A) z (Go m R) := by
  have hB4 := clI hI.2.1.2.2.2
  have H1 := H.eb
  have eE : ∀ (v k : Int32) c o g' A', RX g0 A0 L c o g' A' → R (rwd w m g' A') z → Rt m (fun w z Q => F_X6_mayAppeal m v w z Q) (fun w z Q => F_X6_appeals m v k w z Q) (Go m R) (rwd w m g' A') z := fun v k c o g' A' hE hq => Rt_er hE hq
  have e4 : ∀ A2 : Nat → Nat → Int32, A2 1 = f → A2 1 (4 : Int32).toNatClampNeg = f 4 := fun A2 h => by rw [cl4, h]
  have e3 : ∀ A2 : Nat → Nat → Int32, A2 1 = f → A2 1 (3 : Int32).toNatClampNeg = f 3 := fun A2 h => by rw [cl3, h]
  refine ⟨R_i, M_go hL h (fun g1 h1 => ⟨_, R_r0, _, _, R_a1, vl4, R_i, ?_⟩)⟩
  rw [e4 _ h1.2.2.2.2]
  refine M_number hL h1 (fun v j hr g2 h2 => ⟨_, R_r0, _, _, R_a1, vl3, R_i, ?_⟩) (fun c o hr g2 hE => ⟨_, R_r0, _, _, R_a1, vl3, R_i, M_numberE hE (eE _ _ c o g2 A hE (her c o (H1.er hr) g2 A hE))⟩)
  have hv := sNum_in hI.2.1.2.2.2 hr
  rw [e3 _ h2.2.2.2.2]
  exact M_number hL h2 (fun t j2 hr2 g3 h3 => Rt_ok (Can := fun w z Q => F_X6_mayAppeal m v w z Q) (Act := fun w z Q => F_X6_appeals m v t w z Q) (cv := mayAppealF f v) (f' := appealF f v t) hL h3
      (fun Q hq => L_mayAppeal (vp_le hv (by omega)) (by rw [h3.2.2.2.2]; exact hq))
      (fun hb Q hq => L_appeals (vp_le hv (by omega)) (by rw [h3.2.2.2.2]; exact hI.2.1.2.2.2) (by rw [h3.2.2.2.2]; exact hq _))
      ((H1.ok hr).eb.ok hr2 :) (fun j hj hb g' A' hm => hok _ _ hj g' A' hm) her)
    (fun c o hr2 g3 hE => eE _ _ c o g3 A hE (her c o ((H1.ok hr).eb.er hr2) g3 A hE))
def sCmd (a : Nat → Int32) (L : Nat) (f : Nat → Int32) (i : Nat) : EC :=
  if wIs a L i lit_6.length (fun j => lit_6.getD j 0) = true then sBuy a L f i
  else if wIs a L i lit_10.length (fun j => lit_10.getD j 0) = true then sRide a L f i
  else if wIs a L i lit_12.length (fun j => lit_12.getD j 0) = true then sInsp a L f i
  else if wIs a L i lit_13.length (fun j => lit_13.getD j 0) = true then sWait a L f i
  else if wIs a L i lit_14.length (fun j => lit_14.getD j 0) = true then sAppeal a L f i
  else if wIs a L i lit_15.length (fun j => lit_15.getD j 0) = true then sDecide a L f i
  else if wIs a L i lit_16.length (fun j => lit_16.getD j 0) = true then sPay a L f i
  else .error (1, oF a L i)
theorem M_command {K : Nat × (Nat → Int32) → Prop} {E : Int32 × Int32 → Prop} (hL : L ≤ 700) (h : RM g0 A0 a f L i g A) (hI : Inv f) (H : Out (sCmd a L f i) K E)
    (hok : ∀ j f', K (j, f') → ∀ g' A', RM g0 A0 a f' L j g' A' → R (rwd w m g' A') z)
    (her : ∀ c o, E (c, o) → ∀ g' A', RX g0 A0 L c o g' A' → R (rwd w m g' A') z) : F_X6_command m (rwd w m g A) z R := by
  have hB2 := clI hI.2.1.2.1
  have hB4 := clI hI.2.1.2.2.2
  have e4 : ∀ A2 : Nat → Nat → Int32, A2 1 = f → A2 1 (4 : Int32).toNatClampNeg = f 4 := fun A2 h => by rw [cl4, h]
  have e0 : ∀ A2 : Nat → Nat → Int32, A2 1 = f → A2 1 (0 : Int32).toNatClampNeg = f 0 := fun A2 h => by rw [cl0, h]
  intro q6 l6
  refine ⟨R_i, M_is (by decide) (chr_lit _ (by decide)) hL h l6 ?_⟩
  by_cases w6 : wIs a L i lit_6.length (fun j => lit_6.getD j 0) = true
  · rw [if_pos w6]
    exact ⟨fun hh => absurd hh (by decide), fun _ => ⟨R_i, M_buy hL h hI (H.if1 w6) hok her⟩⟩
  have H := H.if0 w6
  rw [if_neg w6]
  refine ⟨fun _ => fun q10 l10 => ⟨R_i, M_is (by decide) (chr_lit _ (by decide)) hL h l10 ?_⟩, fun hh => absurd rfl hh⟩
  by_cases w10 : wIs a L i lit_10.length (fun j => lit_10.getD j 0) = true
  · rw [if_pos w10]
    exact ⟨fun hh => absurd hh (by decide), fun _ => ⟨R_i, M_ride hL h hI (H.if1 w10) hok her⟩⟩
  have H := H.if0 w10
  rw [if_neg w10]
  refine ⟨fun _ => fun q14 l14 => ⟨R_i, M_is (by decide) (chr_lit _ (by decide)) hL h l14 ?_⟩, fun hh => absurd rfl hh⟩
  by_cases w14 : wIs a L i lit_14.length (fun j => lit_14.getD j 0) = true
  · rw [if_pos w14]
    exact ⟨fun hh => absurd hh (by decide), fun _ => ⟨R_i, M_appeal hL h hI (((H.if0 (wIs_x w14 (by decide))).if0 (wIs_x w14 (by decide))).if1 w14) hok her⟩⟩
  rw [if_neg w14]
  refine ⟨fun _ => fun q12 l12 => ⟨R_i, M_is (by decide) (chr_lit _ (by decide)) hL h l12 ?_⟩, fun hh => absurd rfl hh⟩
  by_cases w12 : wIs a L i lit_12.length (fun j => lit_12.getD j 0) = true
  · rw [if_pos w12]
    have H1 := (H.if1 w12).eb
    exact ⟨fun hh => absurd hh (by decide), fun _ => ⟨R_i, M_go hL h (fun g1 h1 => ⟨R_i, M_known hL h1 hI
      (fun v j hr g2 A2 h2 => Rt_ok (R := R) (Can := fun w z Q => F_X6_mayInspect m v w z Q) (Act := fun w z Q => F_X6_inspects m v w z Q) (cv := mayInspectF f v) (f' := inspectF f v) hL h2
        (fun Q hq => L_mayInspect (vp_le (sKnown_in (by omega) hr) (by omega)) (by rw [h2.2.2.2.2]; exact hq))
        (fun hb Q hq => L_insp (by rw [h2.2.2.2.2]; exact hI) (by rw [h2.2.2.2.2]; exact sKnown_in (by omega) hr) (by rw [h2.2.2.2.2]; exact mayInsp_20 hI hb) (by rw [h2.2.2.2.2]; exact hq))
        (H1.ok hr :) (fun j hj hb g' A' hm => hok _ _ hj g' A' hm) her)
      (fun c o hr g2 A2 v hE => Rt_er (R := R) (Can := fun w z Q => F_X6_mayInspect m v w z Q) (Act := fun w z Q => F_X6_inspects m v w z Q) hE (her c o (H1.er hr) g2 A2 hE))⟩)⟩⟩
  have H := H.if0 w12
  rw [if_neg w12]
  refine ⟨fun _ => fun q13 l13 => ⟨R_i, M_is (by decide) (chr_lit _ (by decide)) hL h l13 ?_⟩, fun hh => absurd rfl hh⟩
  by_cases w13 : wIs a L i lit_13.length (fun j => lit_13.getD j 0) = true
  · rw [if_pos w13]
    have H1 := (H.if1 w13).eb
    refine ⟨fun hh => absurd hh (by decide), fun _ => ⟨R_i, M_go hL h (fun g1 h1 => ⟨_, R_r0, _, _, R_a1, vl0, R_i, ?_⟩)⟩⟩
    rw [e0 _ h1.2.2.2.2]
    exact M_number hL h1
      (fun v j hr g2 h2 => Bn_ok (R := R) (Act := fun w z Q => F_X6_waits m v w z Q) (cv := 1) (f' := waitF f v) hL h2
        (fun hb Q hq => L_waits (by rw [h2.2.2.2.2]; exact hq _))
        (H1.ok hr :) (fun j hj hb g' A' hm => hok _ _ hj g' A' hm) (fun c o hE g' hX => her c o hE g' _ hX) 1 (Or.inr ⟨rfl, by decide⟩))
      (fun c o hr g2 hE => Bn_er (R := R) (Act := fun w z Q => F_X6_waits m _ w z Q) hE (her c o (H1.er hr) g2 A hE))
  have H := (H.if0 w13).if0 w14
  rw [if_neg w13]
  refine ⟨fun _ => fun q15 l15 => ⟨R_i, M_is (by decide) (chr_lit _ (by decide)) hL h l15 ?_⟩, fun hh => absurd rfl hh⟩
  by_cases w15 : wIs a L i lit_15.length (fun j => lit_15.getD j 0) = true
  · rw [if_pos w15]
    have H1 := (H.if1 w15).eb
    refine ⟨fun hh => absurd hh (by decide), fun _ => ⟨R_i, M_go hL h (fun g1 h1 => ⟨_, R_r0, _, _, R_a1, vl4, R_i, ?_⟩)⟩⟩
    rw [e4 _ h1.2.2.2.2]
    refine M_number hL h1
      (fun v j hr g2 h2 => ⟨_, R_g19, fun hh => absurd h2.n19 hh, fun _ => ⟨R_i, L_ofC2 (vp_le (sNum_in hI.2.1.2.2.2 hr) (by omega)) ?_⟩⟩)
      (fun c o hr g2 hE => ⟨_, R_g19, fun _ => Bn_er (R := R) (Act := fun w z Q => F_X6_decides m _ w z Q) hE (her c o (H1.er hr) g2 A hE), fun hh => absurd hh hE.ne⟩)
    rw [h2.2.2.2.2]
    have hv := sNum_in hI.2.1.2.2.2 hr
    have kB : ∀ y, ((y = 0 ∧ mayDecF f v = 0) ∨ (y = 1 ∧ ¬ mayDecF f v = 0)) → Bn m (fun w z Q => F_X6_decides m v w z Q) (Go m R) y (rwd w m g2 A) z := fun y hy => Bn_ok (R := R) (Act := fun w z Q => F_X6_decides m v w z Q) (cv := mayDecF f v) (f' := decideF f v) hL h2
        (fun hb Q hq => L_decides (vp_le hv (by omega)) (by rw [h2.2.2.2.2]; exact vp_le ((hI.2.2.2.2.2.1 _ (clI hv).2).2.2.1 (mayDec_1 hb)) (by have := clI hI.2.1.2.2.1; omega)) (by rw [h2.2.2.2.2]; exact hq _))
        (H1.ok hr :) (fun j hj hb g' A' hm => hok _ _ hj g' A' hm) (fun c o hE g' hX => her c o hE g' _ hX) y hy
    exact ⟨fun hn => kB 0 (Or.inl ⟨rfl, by unfold mayDecF; rw [if_neg hn]⟩), fun hy => kB 1 (Or.inr ⟨rfl, by unfold mayDecF; rw [if_pos hy]; decide⟩)⟩
  have H := H.if0 w15
  rw [if_neg w15]
  refine ⟨fun _ => fun q16 l16 => ⟨R_i, M_is (by decide) (chr_lit _ (by decide)) hL h l16 ?_⟩, fun hh => absurd rfl hh⟩
  have eP : ∀ (v : Int32) c o g' A', RX g0 A0 L c o g' A' → R (rwd w m g' A') z → Rt m (fun w z Q => F_X6_mayPay m v w z Q) (fun w z Q => F_X6_pays m v w z Q) (Go m R) (rwd w m g' A') z := fun v c o g' A' hE hq => Rt_er hE hq
  by_cases w16 : wIs a L i lit_16.length (fun j => lit_16.getD j 0) = true
  · rw [if_pos w16]
    have H1 := (H.if1 w16).eb
    refine ⟨fun _ => ⟨R_i, R_wrong0 ⟨R_i, M_go hL h (fun g1 h1 => ⟨_, R_r0, _, _, R_a1, vl4, R_i, ?_⟩)⟩⟩, fun hh => absurd hh (by decide)⟩
    rw [e4 _ h1.2.2.2.2]
    exact M_number hL h1
      (fun v j hr g2 h2 => Rt_ok (R := R) (Can := fun w z Q => F_X6_mayPay m v w z Q) (Act := fun w z Q => F_X6_pays m v w z Q) (cv := mayPayF f v) (f' := payF f v) hL h2
        (fun Q hq => L_mayPay (vp_le (sNum_in hI.2.1.2.2.2 hr) (by omega)) (by rw [h2.2.2.2.2]; exact vp_le (hI.2.2.2.2.2.1 _ (clI (sNum_in hI.2.1.2.2.2 hr)).2).1 (by omega)) (by rw [h2.2.2.2.2]; exact hq))
        (fun hb Q hq => L_pays (vp_le (sNum_in hI.2.1.2.2.2 hr) (by omega)) (by rw [h2.2.2.2.2]; exact vp_le (hI.2.2.2.2.2.1 _ (clI (sNum_in hI.2.1.2.2.2 hr)).2).1 (by omega)) (by rw [h2.2.2.2.2]; exact hq _))
        (H1.ok hr :) (fun j hj hb g' A' hm => hok _ _ hj g' A' hm) her)
      (fun c o hr g2 hE => eP _ c o g2 A hE (her c o (H1.er hr) g2 A hE))
  · rw [if_neg w16]
    exact ⟨fun hh => absurd rfl hh, fun _ => ⟨R_i, M_wrong1 h (fun g1 hE => ⟨R_i, M_goE hE ⟨_, R_r0, _, _, R_a1, vl4, R_i, M_numberE hE (eP _ _ _ g1 A hE (her _ _ (H.if0 w16) g1 A hE))⟩⟩)⟩⟩
end
