/-! the line of a setup -/
def addStopF (f : Nat → Int32) (v : Int32) : Nat → Int32 := upd (upd f (9 + cl (f 1)) v) 1 (f 1 + 1)
def sZone (a : Nat → Int32) (L : Nat) (f : Nat → Int32) (i : Nat) : EC :=
  eb (sNum a L 0 3 i) fun r => if f 1 = 12 then .error (5, oF a L i) else .ok (r.2, addStopF f r.1)
def sZones (a : Nat → Int32) (L : Nat) : Nat → (Nat → Int32) → Nat → EC
  | 0, f, i => .ok (i, f)
  | n + 1, f, i => if f 1 < 2 ∨ tTok a L i = 2 then eb (sZone a L f i) fun r => sZones a L n r.2 r.1 else .ok (i, f)
def sLine (a : Nat → Int32) (L : Nat) (f : Nat → Int32) (i : Nat) : EC :=
  eb (sKey a L lit_4 i) fun j => eb (sZones a L 14 f j) fun r => eb (sSemi a L true r.1) fun j => .ok (j, r.2)
/-- nothing but stops and passengers -/
def Zr (f : Nat → Int32) : Prop := f 3 = 0 ∧ f 4 = 0 ∧ f 5 = 0 ∧ ∀ j, 21 + 13 * cl (f 2) ≤ j → j < 125 → f j = 0
section
variable {w w' : Mm} {p d z L i : Nat} {h tx a f f' : Nat → Int32} {Fz : Nat → Prop} {Q : Int32 → Mm → Nat → Prop} {R : Mm → Nat → Prop} {T : Mm → Prop} {c o : Int32}
theorem not12 (hI : Inv f) (h : ¬ f 1 = 12) : vp_in (f 1) 12 := by
  have h1 := vp_in_iff.mp hI.2.1.1
  have h2 : ¬ (f 1).toInt = (12 : Int32).toInt := fun hh => h (ieq.mpr hh)
  rw [show (12 : Int32).toInt = 12 by decide] at h2
  exact vp_in_iff.mpr (by omega)
theorem Inv.stop (hI : Inv f) (h12 : vp_in (f 1) 12) {v : Int32} (hv : vp_in v 4) : Inv (addStopF f v) := by
  obtain ⟨hcl, hB, hz, hP, hT, hC, hs⟩ := hI
  have c1 := clI h12
  have c2 := cl_succ h12 (by omega)
  have h1' := vp_in_iff.mp h12
  have hB2 := clI hB.2.1
  have hB3 := clI hB.2.2.1
  have hB4 := clI hB.2.2.2
  have ho : ∀ j, j ≠ 1 → ¬ (9 ≤ j ∧ j < 21) → addStopF f v j = f j := fun j h1 h2 => by
    unfold addStopF
    rw [upd_ne h1, upd_ne (by omega)]
  have e1 : addStopF f v 1 = f 1 + 1 := upd_eq _ _ _
  unfold Inv Bd
  rw [ho 0 (by omega) (by omega), ho 2 (by omega) (by omega), ho 3 (by omega) (by omega), ho 4 (by omega) (by omega), ho 5 (by omega) (by omega), e1, c2.1]
  refine ⟨hcl, ⟨vp_in_iff.mpr (by omega), hB.2⟩, fun i hi => ?_, fun p hp => (hP p hp).to (fun k hk => ho _ (by omega) (by omega)) (by omega) (Nat.le_refl _), fun t ht => (hT t ht).to (fun k _ => ho _ (by omega) (by omega)) (Nat.le_refl _) (fun p _ => by rw [ho _ (by omega) (by omega)]; exact Int.le_refl _), fun q hq => (hC q hq).to (fun k _ => ho _ (by omega) (by omega)) (Nat.le_refl _) (Nat.le_refl _), ?_⟩
  · unfold addStopF
    rw [upd_ne (by omega)]
    by_cases h : i = cl (f 1)
    · rw [h, upd_eq]
      exact hv
    · rw [upd_ne (by omega)]
      exact hz i (by omega)
  · rw [hs]
    exact (prR_ext _ _ _ (by rw [i_0]; omega) (by rw [i_0]; omega) (fun j h3 h4 _ => ho j (by omega) (by omega))).symm
theorem Zr.stop (hZ : Zr f) (h12 : vp_in (f 1) 12) {v : Int32} : Zr (addStopF f v) := by
  have c1 := clI h12
  have ho : ∀ j, j ≠ 1 → ¬ (9 ≤ j ∧ j < 21) → addStopF f v j = f j := fun j h1 h2 => by
    unfold addStopF
    rw [upd_ne h1, upd_ne (by omega)]
  unfold Zr
  rw [ho 2 (by omega) (by omega), ho 3 (by omega) (by omega), ho 4 (by omega) (by omega), ho 5 (by omega) (by omega)]
  exact ⟨hZ.1, hZ.2.1, hZ.2.2.1, fun j h1 h2 => by rw [ho j (by omega) (by omega)]; exact hZ.2.2.2 j h1 h2⟩
theorem HasF.stop {b : Nat} {v : Int32} (hz : ∀ q, Fz q → ¬ (b ≤ q ∧ q < b + 63)) (hI : Inv f) (h : HasF w b Fz f) (h12 : vp_in (f 1) 12) (hq : ∀ w', HasF w' b Fz (addStopF f v) → (∀ q, ¬ (b ≤ q ∧ q < b + 63) → w' q = w q) → R w' z) : F_X3_addStop b v w z R := by
  have c1 := clI h12
  obtain ⟨hd, zn, nm, pa, tk, cs, h1, h2, h3⟩ := h
  rw [h1.self]
  exact c_addStop hI.2.1 h2 h12 (fun hd1 zn1 h5 => hq _ (HasF.sw hz hI h3 ⟨by unfold addStopF; rw [upd_ne (by omega), upd_ne (by omega)], fun q hq k h6 h13 => by unfold addStopF; rw [upd_ne (by omega), upd_ne (by omega)]⟩ h5) (fun q hq => sw_o hq))
theorem P_zone {K : Nat × (Nat → Int32) → Prop} {E : Int32 × Int32 → Prop} (hd : d + 63 ≤ p ∨ p + 2 ≤ d) (hz : ∀ q, Fz q → ¬ (p ≤ q ∧ q < p + 2)) (hzd : ∀ q, Fz q → ¬ (d ≤ q ∧ q < d + 63)) (hL : L ≤ 700) (hT : TX tx a L) (hK : PK h a L i) (hI : Inv f) (hF : HasF w d Fz f)
    (H : Out (sZone a L f i) K E)
    (hok : ∀ j f', K (j, f') → ∀ w' h', PK h' a L j → HasF w' d Fz f' → Inv f' → (Zr f → Zr f') → f' 1 = f 1 + 1 → vp_in (f 1) 12 → FrP d p w w' → R (pw w' p d h' tx) z)
    (her : ∀ c o, E (c, o) → ∀ h', PE h' L c o → R (pw w p d h' tx) z) : F_X1_readZone p (pw w p d h tx) z R := by
  have H1 := H.eb
  have k5 := hK.2.2.2.2.1
  have k8 := hK.2.2.2.2.2.2.2
  have i3 : (3 : Int32).toInt = 3 := by decide
  have e34 : ∀ h' c o, PE h' L c o → R (pw w p d h' tx) z → B_X1_readZone_34 p R (pw w p d h' tx) z := fun h' c o hE hq => ⟨P_i, P_numberE hE (fun v => ⟨P_i, P_failedE hE ⟨fun _ => hq, fun hh => absurd hh (by decide)⟩⟩)⟩
  have k34 : (∀ v j, sNum a L 0 3 i = .ok (v, j) → ¬ f 1 = 12) → B_X1_readZone_34 p R (pw w p d h tx) z := fun hne => ⟨P_i, P_number hL hT hK (by decide) (by decide) (fun v j hr h' hk => by
    have h12 := not12 hI (hne v j hr)
    have hv := sNum_rng hr
    rw [i_0, i3] at hv
    exact ⟨P_i, P_failedK hk ⟨fun hh => absurd rfl hh, fun _ => ⟨_, P_r0, (hF.pw hd hz).any.is, (hF.pw hd hz).stop hzd hI h12 (fun w' a1 a2 => by
      rw [pw_self hd a2]
      exact hok j (addStopF f v) ((H1.ok hr).if0 (hne v j hr)) _ _ hk a1 (hI.stop h12 (vp_in_iff.mpr (by omega))) (fun hZ => hZ.stop h12) (upd_eq _ _ _) h12 (FrP.of a2))⟩⟩⟩) (fun c o hr h' v hE => ⟨P_i, P_failedE hE ⟨fun _ => her c o (H1.er hr) h' hE, fun hh => absurd hh (by decide)⟩⟩)⟩
  refine ⟨_, P_r0, _, (hF.pw hd hz).g1, fun h12 => k34 (fun _ _ _ => h12), fun h12 => ⟨_, P_g5, fun h2 => k34 (fun v j hr => ?_), fun h2 => ⟨_, P_g8, fun h3 => k34 (fun v j hr => ?_), fun h3 => ⟨P_i, P_failK hK (by decide) (fun h' hE => e34 h' _ _ hE (her _ _ ?_ h' hE))⟩⟩⟩⟩
  · exact absurd (k5.trans (sNum_rng hr).2.2.1) h2
  · exfalso
    have hv := sNum_rng hr
    rw [k8 hv.2.2.1] at h3
    have hj := jmin_rng (lo := 0) (hi := 3) (tVal_nn a L i).1 (by decide) (by decide)
    rw [← hv.2.2.2] at hj h3
    have := ilt.mp h3
    rw [hj.2.2 hv.2.1] at this
    omega
  · have h2' := k5.symm.trans h2
    rw [k8 h2'] at h3
    have hj := jmin_rng (lo := 0) (hi := 3) (tVal_nn a L i).1 (by decide) (by decide)
    have h4 : (tVal a L i).toInt ≤ (3 : Int32).toInt := hj.2.1.mp (ile.mpr (by
      have : ¬ (3 : Int32).toInt < (jmin 100000 (tVal a L i)).toInt := fun hh => h3 (ilt.mpr hh)
      omega))
    have hr : sNum a L 0 3 i = .ok (tVal a L i, tTo a L i) := by
      unfold sNum
      rw [if_pos h2', if_pos ⟨ile.mpr (by rw [i_0]; exact (tVal_nn a L i).1), ile.mpr h4⟩]
    exact (H1.ok hr).if1 h12
theorem P_zoneE (hd : d + 63 ≤ p ∨ p + 2 ≤ d) (hz : ∀ q, Fz q → ¬ (p ≤ q ∧ q < p + 2)) (hE : PE h L c o) (hF : HasF w d Fz f) (hq : R (pw w p d h tx) z) : F_X1_readZone p (pw w p d h tx) z R := by
  have e34 : B_X1_readZone_34 p R (pw w p d h tx) z := ⟨P_i, P_numberE hE (fun v => ⟨P_i, P_failedE hE ⟨fun _ => hq, fun hh => absurd hh (by decide)⟩⟩)⟩
  exact ⟨_, P_r0, _, (hF.pw hd hz).g1, fun _ => e34, fun _ => ⟨_, P_g5, fun _ => e34, fun _ => ⟨_, P_g8, fun _ => e34, fun _ => ⟨P_i, P_failE hE.ne e34⟩⟩⟩⟩
theorem P_line25E (hd : d + 63 ≤ p ∨ p + 2 ≤ d) (hz : ∀ q, Fz q → ¬ (p ≤ q ∧ q < p + 2)) (hE : PE h L c o) (hF : HasF w d Fz f) (hq : R (pw w p d h tx) z) : ∀ (n k : Nat), k + n = 13 → B_X1_readLine_25 p R (n + 1) (nI k) (pw w p d h tx) z := by
  have e49 : B_X1_readLine_49 p R (pw w p d h tx) z := ⟨P_i, P_semiE hE hq⟩
  have i12 : (12 : Int32) = nI 12 := rfl
  intro n
  induction n with
  | zero =>
    intro k hk
    unfold B_X1_readLine_25
    exact ⟨fun _ => e49, fun hh => absurd (by rw [i12, nIlt (by omega) (by omega)]; omega) hh⟩
  | succ n ih =>
    intro k hk
    unfold B_X1_readLine_25
    exact ⟨fun _ => e49, fun _ => ⟨_, P_g5, fun _ => e49, fun _ => ⟨P_i, P_zoneE hd hz hE hF (by rw [nIs (by omega)]; exact ih (k + 1) (by omega))⟩⟩⟩
theorem P_line8E (hd : d + 63 ≤ p ∨ p + 2 ≤ d) (hz : ∀ q, Fz q → ¬ (p ≤ q ∧ q < p + 2)) (hE : PE h L c o) (hF : HasF w d Fz f) (hq : R (pw w p d h tx) z) : ∀ (n k : Nat), k + n = 2 → B_X1_readLine_8 p R (n + 1) (nI k) (pw w p d h tx) z := by
  have i2 : (2 : Int32) = nI 2 := rfl
  intro n
  induction n with
  | zero =>
    intro k hk
    unfold B_X1_readLine_8
    exact ⟨fun _ => ⟨12, P_line25E hd hz hE hF hq 11 2 (by omega)⟩, fun hh => absurd (by rw [i2, nIle (by omega) (by omega)]; omega) hh⟩
  | succ n ih =>
    intro k hk
    unfold B_X1_readLine_8
    exact ⟨fun hh => absurd hh (by rw [i2, nIle (by omega) (by omega)]; omega), fun _ => ⟨P_i, P_zoneE hd hz hE hF (by rw [nIs (by omega)]; exact ih (k + 1) (by omega))⟩⟩
theorem P_line25 {w0 : Mm} {K : Nat × (Nat → Int32) → Prop} {E : Int32 × Int32 → Prop} (hd : d + 63 ≤ p ∨ p + 2 ≤ d) (hz : ∀ q, Fz q → ¬ (p ≤ q ∧ q < p + 2)) (hzd : ∀ q, Fz q → ¬ (d ≤ q ∧ q < d + 63)) (hL : L ≤ 700) (hT : TX tx a L)
    (hok : ∀ j f', K (j, f') → ∀ w' h', PK h' a L j → HasF w' d Fz f' → Inv f' → Zr f' → FrP d p w0 w' → R (pw w' p d h' tx) z)
    (her : ∀ c o, E (c, o) → ∀ w' h' f', PE h' L c o → HasF w' d Fz f' → Inv f' → FrP d p w0 w' → R (pw w' p d h' tx) z) : ∀ (n k i : Nat) (f h : Nat → Int32) (w : Mm), k + n = 14 → 2 ≤ k → f 1 = nI k → PK h a L i → HasF w d Fz f → Inv f → Zr f → FrP d p w0 w → Out (eb (sZones a L n f i) fun r => eb (sSemi a L true r.1) fun j => .ok (j, r.2)) K E → B_X1_readLine_25 p R n (nI k) (pw w p d h tx) z := by
  have i12 : (12 : Int32) = nI 12 := rfl
  intro n
  induction n with
  | zero =>
    intro k i f h w hk h2 h1 hK hF hI hZ hw H
    have hB1 := clI hI.2.1.1
    rw [h1, show cl (nI k) = k from nI_cl (by omega)] at hB1
    omega
  | succ n ih =>
    intro k i f h w hk h2 h1 hK hF hI hZ hw H
    have hB1 := clI hI.2.1.1
    rw [h1, show cl (nI k) = k from nI_cl (by omega)] at hB1
    have H0 := H.eb
    rw [sZones] at H0
    unfold B_X1_readLine_25
    refine ⟨fun hh => absurd hh (by rw [i12, nIlt (by omega) (by omega)]; omega), fun _ => ⟨_, P_g5, fun ht => ?_, fun ht => ?_⟩⟩
    · rw [hK.2.2.2.2.1] at ht
      have H1 := (H0.if0 (fun hh => hh.elim (fun hh => absurd hh (by rw [h1, show (2 : Int32) = nI 2 from rfl, nIlt (by omega) (by omega)]; omega)) ht)).eb
      exact ⟨P_i, P_semi hL hT hK (fun j hr h' hk => hok j f (H1.ok hr :) w h' hk hF hI hZ hw) (fun c o hr h' hE => her c o (H1.er hr) w h' f hE hF hI hw)⟩
    · rw [hK.2.2.2.2.1] at ht
      have H1 := (H0.if1 (Or.inr ht)).eb
      refine ⟨P_i, P_zone hd hz hzd hL hT hK hI hF H1 (fun j f' hj w' h' a1 a2 a3 a4 a5 a6 a7 => ?_) (fun c o hE h' hP => ?_)⟩
      · rw [nIs (by omega)]
        refine ih (k + 1) j f' h' w' (by omega) (by omega) (by rw [a5, h1, nIs (by omega)]) a1 a2 a3 (a4 hZ) (hw.trans a7) ?_
        cases hs : sZones a L n f' j with
        | ok x =>
          rw [hs] at hj
          exact hj
        | error x =>
          rw [hs] at hj
          exact hj
      · have hn : n = (n - 1) + 1 ∨ n = 0 := by omega
        rcases hn with hn | hn
        · rw [hn, nIs (by omega)]
          exact P_line25E hd hz hP hF (her c o hE w h' f hP hF hI hw) (n - 1) (k + 1) (by omega)
        · exfalso
          omega
theorem P_line8 {w0 : Mm} {K : Nat × (Nat → Int32) → Prop} {E : Int32 × Int32 → Prop} (hd : d + 63 ≤ p ∨ p + 2 ≤ d) (hz : ∀ q, Fz q → ¬ (p ≤ q ∧ q < p + 2)) (hzd : ∀ q, Fz q → ¬ (d ≤ q ∧ q < d + 63)) (hL : L ≤ 700) (hT : TX tx a L)
    (hok : ∀ j f', K (j, f') → ∀ w' h', PK h' a L j → HasF w' d Fz f' → Inv f' → Zr f' → FrP d p w0 w' → R (pw w' p d h' tx) z)
    (her : ∀ c o, E (c, o) → ∀ w' h' f', PE h' L c o → HasF w' d Fz f' → Inv f' → FrP d p w0 w' → R (pw w' p d h' tx) z) : ∀ (n k i : Nat) (f h : Nat → Int32) (w : Mm), k + n = 2 → f 1 = nI k → PK h a L i → HasF w d Fz f → Inv f → Zr f → FrP d p w0 w → Out (eb (sZones a L (12 + n) f i) fun r => eb (sSemi a L true r.1) fun j => .ok (j, r.2)) K E → B_X1_readLine_8 p R (n + 1) (nI k) (pw w p d h tx) z := by
  have i2 : (2 : Int32) = nI 2 := rfl
  intro n
  induction n with
  | zero =>
    intro k i f h w hk h1 hK hF hI hZ hw H
    unfold B_X1_readLine_8
    have e : (2 : Int32) = nI k := by rw [show k = 2 by omega]; rfl
    exact ⟨fun _ => ⟨12, by rw [e]; exact P_line25 hd hz hzd hL hT hok her 12 k i f h w (by omega) (by omega) h1 hK hF hI hZ hw H⟩, fun hh => absurd (by rw [i2, nIle (by omega) (by omega)]; omega) hh⟩
  | succ n ih =>
    intro k i f h w hk h1 hK hF hI hZ hw H
    have H0 := H.eb
    rw [show 12 + (n + 1) = (12 + n) + 1 by omega, sZones] at H0
    have H1 := (H0.if1 (Or.inl (by rw [h1, i2, nIlt (by omega) (by omega)]; omega))).eb
    unfold B_X1_readLine_8
    refine ⟨fun hh => absurd hh (by rw [i2, nIle (by omega) (by omega)]; omega), fun _ => ⟨P_i, P_zone hd hz hzd hL hT hK hI hF H1 (fun j f' hj w' h' a1 a2 a3 a4 a5 a6 a7 => ?_) (fun c o hE h' hP => ?_)⟩⟩
    · rw [nIs (by omega)]
      refine ih (k + 1) j f' h' w' (by omega) (by rw [a5, h1, nIs (by omega)]) a1 a2 a3 (a4 hZ) (hw.trans a7) ?_
      cases hs : sZones a L (12 + n) f' j with
      | ok x =>
        rw [hs] at hj
        exact hj
      | error x =>
        rw [hs] at hj
        exact hj
    · rw [nIs (by omega)]
      exact P_line8E hd hz hP hF (her c o hE w h' f hP hF hI hw) n (k + 1) (by omega)
theorem P_line {K : Nat × (Nat → Int32) → Prop} {E : Int32 × Int32 → Prop} (hd : d + 63 ≤ p ∨ p + 2 ≤ d) (hz : ∀ q, Fz q → ¬ (p ≤ q ∧ q < p + 2)) (hzd : ∀ q, Fz q → ¬ (d ≤ q ∧ q < d + 63)) (hL : L ≤ 700) (hT : TX tx a L) (hK : PK h a L i) (hI : Inv f) (hF : HasF w d Fz f) (hZ : Zr f) (h1 : f 1 = 0)
    (H : Out (sLine a L f i) K E)
    (hok : ∀ j f', K (j, f') → ∀ w' h', PK h' a L j → HasF w' d Fz f' → Inv f' → Zr f' → FrP d p w w' → R (pw w' p d h' tx) z)
    (her : ∀ c o, E (c, o) → ∀ w' h' f', PE h' L c o → HasF w' d Fz f' → Inv f' → FrP d p w w' → R (pw w' p d h' tx) z) : F_X1_readLine p (pw w p d h tx) z R := by
  have H1 := H.eb
  intro q l
  exact ⟨P_i, P_key l (by decide) (chr_lit _ (by decide)) hL hT hK (fun j hr h' hk => ⟨3, P_line8 hd hz hzd hL hT hok her 2 0 j f h' w (by omega) (by rw [h1]; rfl) hk hF hI hZ FrP.rfl (H1.ok hr :)⟩) (fun c o hr h' hE => ⟨3, P_line8E hd hz hE hF (her c o (H1.er hr) w h' f hE hF hI FrP.rfl) 2 0 (by omega)⟩)⟩
end
section
variable {w : Mm} {m z L i : Nat} {g g0 a f f' : Nat → Int32} {A A0 : Nat → Nat → Int32} {Q : Int32 → Mm → Nat → Prop} {R : Mm → Nat → Prop} {T : Mm → Prop} {c o : Int32}
end
