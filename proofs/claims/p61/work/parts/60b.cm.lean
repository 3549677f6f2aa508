section
variable {w w' : Mm} {p d z L i : Nat} {h tx a f f' : Nat → Int32} {Fz : Nat → Prop} {Q : Int32 → Mm → Nat → Prop} {R : Mm → Nat → Prop} {T : Mm → Prop} {c o : Int32}
theorem P_stop {K : Int32 × Nat → Prop} {E : Int32 × Int32 → Prop} {other : Int32} (hd : d + 63 ≤ p ∨ p + 2 ≤ d) (hz : ∀ q, Fz q → ¬ (p ≤ q ∧ q < p + 2)) (hL : L ≤ 700) (hT : TX tx a L) (hK : PK h a L i) (hI : Inv f) (hF : HasF w d Fz f)
    (ho : other = -1 ∨ vp_in other (cl (f 1))) (H : Out (sStop a L f other i) K E)
    (hok : ∀ v j, K (v, j) → vp_in v (cl (f 1)) → ¬ v = other → ∀ h', PK h' a L j → Q v (pw w p d h' tx) z)
    (her : ∀ c o, E (c, o) → ∀ h' v, PE h' L c o → Q v (pw w p d h' tx) z) : F_X1_readStop p other (pw w p d h tx) z Q := by
  have hB1 := hI.2.1.1
  have c1 := clI hB1
  have H1 := H.eb
  have k5 := hK.2.2.2.2.1
  have k8 := hK.2.2.2.2.2.2.2
  have e22 : ∀ (h' : Nat → Int32) (c o : Int32), PE h' L c o → (∀ v, Q v (pw w p d h' tx) z) → B_X1_readStop_22 p other Q (pw w p d h' tx) z := fun h' c o hE hq => ⟨_, P_r0, _, (hF.pw hd hz).g1, P_i, P_numberE hE hq⟩
  have k22 : (tTok a L i = 2 → ¬ tVal a L i = other) → B_X1_readStop_22 p other Q (pw w p d h tx) z := fun hne => ⟨_, P_r0, _, (hF.pw hd hz).g1, P_i, P_number hL hT hK (by decide) (pred_lt hB1 (by omega)) (fun v j hr h' hk => by
    have hv := sNum_rng hr
    have hn : ¬ v = other := fun hh => hne hv.2.2.1 (hv.2.2.2.symm.trans hh)
    have H2 := (H1.ok hr).if0 hn
    exact hok v j H2 (sNum_in hB1 hr) hn h' hk) (fun c o hr h' v hE => her c o (H1.er hr) h' v hE)⟩
  refine ⟨_, P_g5, fun h2 => k22 (fun hh => absurd (k5.trans hh) h2), fun h2 => ⟨_, P_g8, fun h3 => k22 (fun _ hv => h3 ?_), fun h3 => ⟨P_i, P_failK hK (by decide) (fun h' hE => e22 h' _ _ hE (fun v => her _ _ ?_ h' v hE))⟩⟩⟩
  · rw [k8 (k5.symm.trans h2), hv]
    rcases ho with ho | ho
    · exfalso
      have := (tVal_nn a L i).1
      rw [hv, ho, i_m1] at this
      omega
    · have hc := clI ho
      exact (jmin_rng (lo := 0) (hi := 99999) (by omega) (by decide) (by decide)).2.2 (by rw [show (99999 : Int32).toInt = 99999 by decide]; omega)
  · have h2' := k5.symm.trans h2
    rw [k8 h2'] at h3
    have hn := tVal_nn a L i
    have hj := jmin_toI 100000 (tVal a L i)
    rw [show (100000 : Int32).toInt = 100000 by decide, h3] at hj
    rcases ho with ho | ho
    · exfalso
      rw [ho, i_m1] at hj
      split at hj <;> omega
    · have hc := clI ho
      have hp := i_pred hB1
      have hv : tVal a L i = other := ieq.mpr (by
        split at hj <;> omega)
      have hr : sNum a L 0 (f 1 - 1) i = .ok (other, tTo a L i) := by
        unfold sNum
        rw [if_pos h2', hv, if_pos ⟨ile.mpr (by rw [i_0]; omega), ile.mpr (by omega)⟩]
      exact (H1.ok hr).if1 rfl
theorem P_stopE {other : Int32} (hd : d + 63 ≤ p ∨ p + 2 ≤ d) (hz : ∀ q, Fz q → ¬ (p ≤ q ∧ q < p + 2)) (hE : PE h L c o) (hF : HasF w d Fz f) (hq : ∀ v, Q v (pw w p d h tx) z) : F_X1_readStop p other (pw w p d h tx) z Q := by
  have e22 : B_X1_readStop_22 p other Q (pw w p d h tx) z := ⟨_, P_r0, _, (hF.pw hd hz).g1, P_i, P_numberE hE hq⟩
  exact ⟨_, P_g5, fun _ => e22, fun _ => ⟨_, P_g8, fun _ => e22, fun _ => ⟨P_i, P_failE hE.ne e22⟩⟩⟩
theorem P_ticketE (hd : d + 63 ≤ p ∨ p + 2 ≤ d) (hz : ∀ q, Fz q → ¬ (p ≤ q ∧ q < p + 2)) (hE : PE h L c o) (hF : HasF w d Fz f) (hq : ∀ v, Q v (pw w p d h tx) z) : F_X1_readTicket p (pw w p d h tx) z Q := ⟨_, P_r0, _, (hF.pw hd hz).g3, P_i, P_numberE hE hq⟩
theorem P_caseE (hd : d + 63 ≤ p ∨ p + 2 ≤ d) (hz : ∀ q, Fz q → ¬ (p ≤ q ∧ q < p + 2)) (hE : PE h L c o) (hF : HasF w d Fz f) (hq : ∀ v, Q v (pw w p d h tx) z) : F_X1_readCase p (pw w p d h tx) z Q := ⟨_, P_r0, _, (hF.pw hd hz).g4, P_i, P_numberE hE hq⟩
theorem P_ticket (hd : d + 63 ≤ p ∨ p + 2 ≤ d) (hz : ∀ q, Fz q → ¬ (p ≤ q ∧ q < p + 2)) (hL : L ≤ 700) (hT : TX tx a L) (hK : PK h a L i) (hI : Inv f) (hF : HasF w d Fz f)
    (hok : ∀ v j, sNum a L 0 (f 3 - 1) i = .ok (v, j) → ∀ h', PK h' a L j → Q v (pw w p d h' tx) z)
    (her : ∀ c o, sNum a L 0 (f 3 - 1) i = .error (c, o) → ∀ h' v, PE h' L c o → Q v (pw w p d h' tx) z) : F_X1_readTicket p (pw w p d h tx) z Q :=
  ⟨_, P_r0, _, (hF.pw hd hz).g3, P_i, P_number hL hT hK (by decide) (pred_lt hI.2.1.2.2.1 (by omega)) hok her⟩
theorem P_case (hd : d + 63 ≤ p ∨ p + 2 ≤ d) (hz : ∀ q, Fz q → ¬ (p ≤ q ∧ q < p + 2)) (hL : L ≤ 700) (hT : TX tx a L) (hK : PK h a L i) (hI : Inv f) (hF : HasF w d Fz f)
    (hok : ∀ v j, sNum a L 0 (f 4 - 1) i = .ok (v, j) → ∀ h', PK h' a L j → Q v (pw w p d h' tx) z)
    (her : ∀ c o, sNum a L 0 (f 4 - 1) i = .error (c, o) → ∀ h' v, PE h' L c o → Q v (pw w p d h' tx) z) : F_X1_readCase p (pw w p d h tx) z Q :=
  ⟨_, P_r0, _, (hF.pw hd hz).g4, P_i, P_number hL hT hK (by decide) (pred_lt hI.2.1.2.2.2 (by omega)) hok her⟩
theorem P_insp {K : Nat × (Nat → Int32) → Prop} {E : Int32 × Int32 → Prop} (hd : d + 63 ≤ p ∨ p + 2 ≤ d) (hz : ∀ q, Fz q → ¬ (p ≤ q ∧ q < p + 2)) (hzd : ∀ q, Fz q → ¬ (d ≤ q ∧ q < d + 63)) (hL : L ≤ 700) (hT : TX tx a L) (hK : PK h a L i) (hI : Inv f) (hF : HasF w d Fz f)
    (H : Out (sInsp a L f i) K E)
    (hok : ∀ j f', K (j, f') → ∀ w' h', PK h' a L j → HasF w' d Fz f' → Inv f' → FrP d p w w' → R (pw w' p d h' tx) z)
    (her : ∀ c o, E (c, o) → ∀ h', PE h' L c o → R (pw w p d h' tx) z) : F_X1_readInspect p (pw w p d h tx) z R := by
  have hB2 := clI hI.2.1.2.1
  have H1 := H.eb
  exact ⟨P_i, P_adv hL hT hK (fun h1 hk1 => ⟨P_i, P_known hd hz hL hT hk1 hI hF
    (fun v j hr h2 hk2 => Pt_ok (Can := fun q w z Q => F_X3_canInspect q v w z Q) (Act := fun q w z Q => F_X3_inspectRide q v w z Q) (cv := mayInspectF f v) (f' := inspectF f v) hd hz hL hT hk2 hF
      (fun Q hq => (hF.pw hd hz).canInspect hI (sKnown_in (by omega) hr) hq)
      (fun hb h Q hq => (hF.pw hd hz).insp hzd hI (sKnown_in (by omega) hr) (mayInsp_20 hI hb) (fun w' a b => hq _ w' a b))
      (H1.ok hr :)
      (fun j hj hb w' h' a b c => hok _ _ hj w' h' a b (hI.insp (sKnown_in (by omega) hr) (mayInsp_20 hI hb)) c) her)
    (fun c o hr h2 hE v _ => Pt_er (Can := fun q w z Q => F_X3_canInspect q v w z Q) (Act := fun q w z Q => F_X3_inspectRide q v w z Q) hE (her c o (H1.er hr) h2 hE))⟩)⟩
theorem P_appeal {K : Nat × (Nat → Int32) → Prop} {E : Int32 × Int32 → Prop} (hd : d + 63 ≤ p ∨ p + 2 ≤ d) (hz : ∀ q, Fz q → ¬ (p ≤ q ∧ q < p + 2)) (hzd : ∀ q, Fz q → ¬ (d ≤ q ∧ q < d + 63)) (hL : L ≤ 700) (hT : TX tx a L) (hK : PK h a L i) (hI : Inv f) (hF : HasF w d Fz f)
    (H : Out (sAppeal a L f i) K E)
    (hok : ∀ j f', K (j, f') → ∀ w' h', PK h' a L j → HasF w' d Fz f' → Inv f' → FrP d p w w' → R (pw w' p d h' tx) z)
    (her : ∀ c o, E (c, o) → ∀ h', PE h' L c o → R (pw w p d h' tx) z) : F_X1_readAppeal p (pw w p d h tx) z R := by
  have H1 := H.eb
  exact ⟨P_i, P_adv hL hT hK (fun h1 hk1 => ⟨P_i, P_case hd hz hL hT hk1 hI hF
    (fun v j hr h2 hk2 => ⟨P_i, P_ticket hd hz hL hT hk2 hI hF (fun t j2 hr2 h3 hk3 => Pt_ok (Can := fun q w z Q => F_X3_canAppeal q v w z Q) (Act := fun q w z Q => F_X3_beginAppeal q v t w z Q) (cv := mayAppealF f v) (f' := appealF f v t) hd hz hL hT hk3 hF
      (fun Q hq => (hF.pw hd hz).canAppeal hI (sNum_in hI.2.1.2.2.2 hr) hq)
      (fun hb h Q hq => (hF.pw hd hz).appeal hzd hI (sNum_in hI.2.1.2.2.2 hr) (fun w' a b => hq _ w' a b))
      ((H1.ok hr).eb.ok hr2 :)
      (fun j hj hb w' h' a b c => hok _ _ hj w' h' a b (hI.appeal (sNum_in hI.2.1.2.2.2 hr) (sNum_in hI.2.1.2.2.1 hr2) (mayAppeal_0 hb)) c) her)
      (fun c o hr2 h3 t hE => Pt_er (Can := fun q w z Q => F_X3_canAppeal q v w z Q) (Act := fun q w z Q => F_X3_beginAppeal q v t w z Q) hE (her c o ((H1.ok hr).eb.er hr2) h3 hE))⟩)
    (fun c o hr h2 v hE => ⟨P_i, P_ticketE hd hz hE hF (fun t => Pt_er (Can := fun q w z Q => F_X3_canAppeal q v w z Q) (Act := fun q w z Q => F_X3_beginAppeal q v t w z Q) hE (her c o (H1.er hr) h2 hE))⟩)⟩)⟩
theorem P_decide {K : Nat × (Nat → Int32) → Prop} {E : Int32 × Int32 → Prop} (hd : d + 63 ≤ p ∨ p + 2 ≤ d) (hz : ∀ q, Fz q → ¬ (p ≤ q ∧ q < p + 2)) (hzd : ∀ q, Fz q → ¬ (d ≤ q ∧ q < d + 63)) (hL : L ≤ 700) (hT : TX tx a L) (hK : PK h a L i) (hI : Inv f) (hF : HasF w d Fz f)
    (H : Out (sDecide a L f i) K E)
    (hok : ∀ j f', K (j, f') → ∀ w' h', PK h' a L j → HasF w' d Fz f' → Inv f' → FrP d p w w' → R (pw w' p d h' tx) z)
    (her : ∀ c o, E (c, o) → ∀ h', PE h' L c o → R (pw w p d h' tx) z) : F_X1_readDecide p (pw w p d h tx) z R := by
  have H1 := H.eb
  exact ⟨P_i, P_adv hL hT hK (fun h1 hk1 => ⟨P_i, P_case hd hz hL hT hk1 hI hF
    (fun v j hr h2 hk2 => Pt_ok (Can := fun q w z Q => F_X3_canDecide q v w z Q) (Act := fun q w z Q => F_X3_decideAppeal q v w z Q) (cv := mayDecF f v) (f' := decideF f v) hd hz hL hT hk2 hF
      (fun Q hq => (hF.pw hd hz).canDecide hI (sNum_in hI.2.1.2.2.2 hr) hq)
      (fun hb h Q hq => (hF.pw hd hz).decide hzd hI (sNum_in hI.2.1.2.2.2 hr) ((hI.2.2.2.2.2.1 _ (clI (sNum_in hI.2.1.2.2.2 hr)).2).2.2.1 (mayDec_1 hb)) (fun w' a b => hq _ w' a b))
      (H1.ok hr :)
      (fun j hj hb w' h' a b c => hok _ _ hj w' h' a b (hI.decide (sNum_in hI.2.1.2.2.2 hr) (mayDec_1 hb)) c) her)
    (fun c o hr h2 v hE => Pt_er (Can := fun q w z Q => F_X3_canDecide q v w z Q) (Act := fun q w z Q => F_X3_decideAppeal q v w z Q) hE (her c o (H1.er hr) h2 hE))⟩)⟩
theorem P_pay {K : Nat × (Nat → Int32) → Prop} {E : Int32 × Int32 → Prop} (hd : d + 63 ≤ p ∨ p + 2 ≤ d) (hz : ∀ q, Fz q → ¬ (p ≤ q ∧ q < p + 2)) (hzd : ∀ q, Fz q → ¬ (d ≤ q ∧ q < d + 63)) (hL : L ≤ 700) (hT : TX tx a L) (hK : PK h a L i) (hI : Inv f) (hF : HasF w d Fz f)
    (H : Out (sPay a L f i) K E)
    (hok : ∀ j f', K (j, f') → ∀ w' h', PK h' a L j → HasF w' d Fz f' → Inv f' → FrP d p w w' → R (pw w' p d h' tx) z)
    (her : ∀ c o, E (c, o) → ∀ h', PE h' L c o → R (pw w p d h' tx) z) : F_X1_readPay p (pw w p d h tx) z R := by
  have H1 := H.eb
  exact ⟨P_i, P_adv hL hT hK (fun h1 hk1 => ⟨P_i, P_case hd hz hL hT hk1 hI hF
    (fun v j hr h2 hk2 => Pt_ok (Can := fun q w z Q => F_X3_canPay q v w z Q) (Act := fun q w z Q => F_X3_payCase q v w z Q) (cv := mayPayF f v) (f' := payF f v) hd hz hL hT hk2 hF
      (fun Q hq => (hF.pw hd hz).canPay hI (sNum_in hI.2.1.2.2.2 hr) hq)
      (fun hb h Q hq => (hF.pw hd hz).pay hzd hI (sNum_in hI.2.1.2.2.2 hr) (fun w' a b => hq _ w' a b))
      (H1.ok hr :)
      (fun j hj hb w' h' a b c => hok _ _ hj w' h' a b (hI.pay (sNum_in hI.2.1.2.2.2 hr)) c) her)
    (fun c o hr h2 v hE => Pt_er (Can := fun q w z Q => F_X3_canPay q v w z Q) (Act := fun q w z Q => F_X3_payCase q v w z Q) hE (her c o (H1.er hr) h2 hE))⟩)⟩
theorem wait_hi (hI : Inv f) : (jmin 9999 (99999 - f 0)).toInt < 100000 ∧ (jmin 9999 (99999 - f 0)).toInt ≤ 99999 - (f 0).toInt := by
  have h0 := hI.1
  have e : (99999 - f 0 : Int32).toInt = 99999 - (f 0).toInt := by
    rw [isb _ _ (by rw [show (99999 : Int32).toInt = 99999 by decide]; omega) (by rw [show (99999 : Int32).toInt = 99999 by decide]; omega), show (99999 : Int32).toInt = 99999 by decide]
  rw [jmin_toI, e, show (9999 : Int32).toInt = 9999 by decide]
  split <;> omega
theorem P_wait {K : Nat × (Nat → Int32) → Prop} {E : Int32 × Int32 → Prop} (hd : d + 63 ≤ p ∨ p + 2 ≤ d) (hz : ∀ q, Fz q → ¬ (p ≤ q ∧ q < p + 2)) (hzd : ∀ q, Fz q → ¬ (d ≤ q ∧ q < d + 63)) (hL : L ≤ 700) (hT : TX tx a L) (hK : PK h a L i) (hI : Inv f) (hF : HasF w d Fz f)
    (H : Out (sWait a L f i) K E)
    (hok : ∀ j f', K (j, f') → ∀ w' h', PK h' a L j → HasF w' d Fz f' → Inv f' → FrP d p w w' → R (pw w' p d h' tx) z)
    (her : ∀ c o, E (c, o) → ∀ h', PE h' L c o → R (pw w p d h' tx) z) : F_X1_readWait p (pw w p d h tx) z R := by
  have H1 := H.eb
  have hh := wait_hi hI
  refine ⟨P_i, P_adv hL hT hK (fun h1 hk1 => ⟨_, P_r0, _, (hF.pw hd hz).g0, P_i, P_number hL hT hk1 (by decide) hh.1
    (fun v j hr h2 hk2 => ⟨P_i, P_semi hL hT hk2 (fun j2 hr2 h3 hk3 => ⟨fun hh => absurd hh (by decide), fun _ => ⟨_, P_r0, (hF.pw hd hz).clk hzd hI (fun w' a1 a2 _ => ?_)⟩⟩) (fun c o hr2 h3 hE => ⟨fun _ => her c o ((H1.ok hr).eb.er hr2) h3 hE, fun hh => absurd rfl hh⟩)⟩)
    (fun c o hr h2 v hE => ⟨P_i, P_semiE hE ⟨fun _ => her c o (H1.er hr) h2 hE, fun hh => absurd rfl hh⟩⟩)⟩)⟩
  have hv := sNum_rng hr
  rw [i_1] at hv
  have e : (f 0 + v).toInt = (f 0).toInt + v.toInt := ia _ _ (by have := hI.1; omega) (by have := hI.1; omega)
  rw [pw_self hd a2]
  exact hok j2 (waitF f v) ((H1.ok hr).eb.ok hr2 :) _ _ hk3 a1 (hI.wait (by have := hI.1; omega) (by omega)) (FrP.of a2)
theorem P_ride {K : Nat × (Nat → Int32) → Prop} {E : Int32 × Int32 → Prop} (hd : d + 63 ≤ p ∨ p + 2 ≤ d) (hz : ∀ q, Fz q → ¬ (p ≤ q ∧ q < p + 2)) (hzd : ∀ q, Fz q → ¬ (d ≤ q ∧ q < d + 63)) (hL : L ≤ 700) (hT : TX tx a L) (hK : PK h a L i) (hI : Inv f) (hF : HasF w d Fz f)
    (H : Out (sRide a L f i) K E)
    (hok : ∀ j f', K (j, f') → ∀ w' h', PK h' a L j → HasF w' d Fz f' → Inv f' → FrP d p w w' → R (pw w' p d h' tx) z)
    (her : ∀ c o, E (c, o) → ∀ h', PE h' L c o → R (pw w p d h' tx) z) : F_X1_readRide p (pw w p d h tx) z R := by
  have hB2 := clI hI.2.1.2.1
  have hB1 := clI hI.2.1.1
  have H1 := H.eb
  have e43 : ∀ (h' : Nat → Int32) (c o : Int32), PE h' L c o → R (pw w p d h' tx) z → ∀ x1 x2 x3 x4, B_X1_readRide_43 p R x1 x2 x3 x4 (pw w p d h' tx) z := fun h' c o hE hq x1 x2 x3 x4 => Pt_er (Can := fun q w z Q => F_X3_canBeginRide q x1 x4 w z Q) (Act := fun q w z Q => F_X3_beginRide q x1 x2 x3 x4 w z Q) hE hq
  have eW : ∀ (h' : Nat → Int32) (c o : Int32), PE h' L c o → R (pw w p d h' tx) z → ∀ x1 x2 x3, ∀ q17, isLit (pw w p d h' tx) q17 lit_11 → isO (pw w p d h' tx) p 5 ∧ F_X1_tokenIs p q17 (pw w p d h' tx) z (fun r19 w20 z21 => (r19 = 0 → B_X1_readRide_43 p R x1 x2 x3 (-1) w20 z21) ∧ (¬ r19 = 0 → isO w20 p 5 ∧ F_X1_advance p w20 z21 (fun w25 z26 => isO w25 p 5 ∧ F_X1_readTicket p w25 z26 (fun r28 w29 z30 => B_X1_readRide_43 p R x1 x2 x3 r28 w29 z30)))) := fun h' c o hE hq x1 x2 x3 q17 l => ⟨P_i, P_tokenIsE (by decide) hL hE l.str (chr_lit _ (by decide)) (fun _ _ => ⟨fun _ => e43 _ _ _ hE hq _ _ _ _, fun _ => ⟨P_i, P_advanceE hE.ne ⟨P_i, P_ticketE hd hz hE hF (fun _ => e43 _ _ _ hE hq _ _ _ _)⟩⟩⟩)⟩
  have k43 : ∀ v s t k j h4, vp_in v (cl (f 2)) → vp_in s (cl (f 1)) → vp_in t (cl (f 1)) → ¬ t = s → (k = -1 ∨ vp_in k (cl (f 3))) → PK h4 a L j → Out (sAct a L (mayRideF f v k) (beginF f v s t k) j) K E → B_X1_readRide_43 p R v s t k (pw w p d h4 tx) z := fun v s t k j h4 hv hs ht hst hk hk4 H3 =>
    Pt_ok (Can := fun q w z Q => F_X3_canBeginRide q v k w z Q) (Act := fun q w z Q => F_X3_beginRide q v s t k w z Q) (cv := mayRideF f v k) (f' := beginF f v s t k) hd hz hL hT hk4 hF
      (fun Q hq => (hF.pw hd hz).canRide hI hv (fun hn => hk.resolve_left hn) hq)
      (fun hb h Q hq => (hF.pw hd hz).ride hzd hI hv hk (fun hh => by
        have := ride_end hI.1 (by omega) hs ht (fun e => hst e.symm)
        have h0 := hI.1
        rw [hh, i_m1] at this
        omega) (fun w' a b => hq _ w' a b))
      H3
      (fun j hj hb w' h' a b c => hok _ _ hj w' h' a b (hI.begin hv hs ht (fun e => hst e.symm) (hk.imp id (fun hk => ⟨hk, (mayRide_1 hb).2 (vp_m1 hk)⟩)) (mayRide_1 hb).1) c) her
  exact ⟨P_i, P_adv hL hT hK (fun h1 hk1 => ⟨P_i, P_known hd hz hL hT hk1 hI hF
    (fun v j hr h2 hk2 => ⟨P_i, P_stop hd hz hL hT hk2 hI hF (Or.inl rfl) (H1.ok hr).eb
      (fun s j2 H2 hs _ h3 hk3 => ⟨P_i, P_stop hd hz hL hT hk3 hI hF (Or.inr hs) H2.eb
        (fun t j3 H3 ht hne h4 hk4 => fun q17 l => ⟨P_i, P_tokenIs (by decide) hL hT hk4 l.str (chr_lit _ (by decide)) (by
          by_cases hw : wIs a L j3 lit_11.length (fun j => lit_11.getD j 0) = true
          · rw [if_pos hw]
            have H4 := (H3.if1 hw).eb
            exact ⟨fun hh => absurd hh (by decide), fun _ => ⟨P_i, P_adv hL hT hk4 (fun h5 hk5 => ⟨P_i, P_ticket hd hz hL hT hk5 hI hF (fun k j4 hr4 h6 hk6 => k43 v s t k j4 h6 (sKnown_in (by omega) hr) hs ht hne (Or.inr (sNum_in hI.2.1.2.2.1 hr4)) hk6 (H4.ok hr4 :)) (fun c o hr4 h6 k hE => e43 h6 c o hE (her c o (H4.er hr4) h6 hE) _ _ _ _)⟩)⟩⟩
          · rw [if_neg hw]
            exact ⟨fun _ => k43 v s t (-1) j3 h4 (sKnown_in (by omega) hr) hs ht hne (Or.inl rfl) hk4 (H3.if0 hw), fun hh => absurd rfl hh⟩)⟩)
        (fun c o He h4 t hE => eW h4 c o hE (her c o He h4 hE) _ _ _)⟩)
      (fun c o He h3 s hE => ⟨P_i, P_stopE hd hz hE hF (fun t => eW h3 c o hE (her c o He h3 hE) _ _ _)⟩)⟩)
    (fun c o hr h2 hE v _ => ⟨P_i, P_stopE hd hz hE hF (fun s => ⟨P_i, P_stopE hd hz hE hF (fun t => eW h2 c o hE (her c o (H1.er hr) h2 hE) _ _ _)⟩)⟩)⟩)⟩
end
