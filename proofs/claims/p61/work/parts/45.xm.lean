section
variable {w w' w'' : Mm} {x z mc ms b : Nat} {Q : Int32 → Mm → Nat → Prop} {R : Mm → Nat → Prop} {X : String → Mm → Nat → Prop} {T : Mm → Prop} {f f' : Nat → Int32} {Fz Fz' : Nat → Prop} {g g' : Nat → Int32} {A A' : Nat → Nat → Int32}
theorem HasF.canSell {p k y : Int32} (hI : Inv f) (h : HasF w b Fz f) (hp : vp_in p (cl (f 2))) (hq : Q (mayBuyF f p k y) w z) : F_X3_canSell b p k y w z Q := by
  obtain ⟨hd, zn, nm, pa, tk, cs, h1, h2, h3⟩ := h
  have e := h1.self
  rw [e] at hq ⊢
  exact c_canSell hI.2.1 h2 hp hq
theorem HasF.canRide {p t : Int32} (hI : Inv f) (h : HasF w b Fz f) (hp : vp_in p (cl (f 2))) (ht : ¬ t = -1 → vp_in t (cl (f 3))) (hq : Q (mayRideF f p t) w z) : F_X3_canBeginRide b p t w z Q := by
  have hB3 := clI hI.2.1.2.2.1
  obtain ⟨hd, zn, nm, pa, tk, cs, h1, h2, h3⟩ := h
  have e := h1.self
  rw [e] at hq ⊢
  exact c_canBeginRide hI.2.1 h2 hp ht (fun h => vp_le (ht h) (by omega)) (fun h => (clI (ht h)).2) (fun h => by have := (clI (ht h)).2; omega) hq
theorem HasF.canInspect {p : Int32} (hI : Inv f) (h : HasF w b Fz f) (hp : vp_in p (cl (f 2))) (hq : Q (mayInspectF f p) w z) : F_X3_canInspect b p w z Q := by
  obtain ⟨hd, zn, nm, pa, tk, cs, h1, h2, h3⟩ := h
  have e := h1.self
  rw [e] at hq ⊢
  exact c_canInspect hI.2.1 h2 hp hq
theorem HasF.canAppeal {c : Int32} (hI : Inv f) (h : HasF w b Fz f) (hp : vp_in c (cl (f 4))) (hq : Q (mayAppealF f c) w z) : F_X3_canAppeal b c w z Q := by
  obtain ⟨hd, zn, nm, pa, tk, cs, h1, h2, h3⟩ := h
  have e := h1.self
  rw [e] at hq ⊢
  exact c_canAppeal hI.2.1 h2 hp hq
theorem HasF.canDecide {c : Int32} (hI : Inv f) (h : HasF w b Fz f) (hp : vp_in c (cl (f 4))) (hq : Q (if f (305 + 7 * cl c + 2) = 1 then 1 else 0) w z) : F_X3_canDecide b c w z Q := by
  obtain ⟨hd, zn, nm, pa, tk, cs, h1, h2, h3⟩ := h
  have e := h1.self
  rw [e] at hq ⊢
  exact c_canDecide hI.2.1 h2 hp hq
theorem HasF.canPay {c : Int32} (hI : Inv f) (h : HasF w b Fz f) (hp : vp_in c (cl (f 4))) (hq : Q (mayPayF f c) w z) : F_X3_canPay b c w z Q := by
  have hB2 := clI hI.2.1.2.1
  have hw := (hI.2.2.2.2.2.1 _ (clI hp).2).1
  obtain ⟨hd, zn, nm, pa, tk, cs, h1, h2, h3⟩ := h
  have e := h1.self
  rw [e] at hq ⊢
  exact c_canPay hI.2.1 h2 hp hw (vp_le hw (by omega)) (clI hw).2 (by have := (clI hw).2; omega) hq
theorem HasF.fault {p : Int32} (hI : Inv f) (h : HasF w b Fz f) (hp : vp_in p (cl (f 2))) (hq : Q (faultF f p) w z) : F_X3_findFault b p w z Q := by
  obtain ⟨hd, zn, nm, pa, tk, cs, h1, h2, h3⟩ := h
  have e := h1.self
  rw [e] at hq ⊢
  exact c_findFault hI.2.1 h2 hp hI.rd hq
theorem HasF.debts {p : Int32} (hI : Inv f) (h : HasF w b Fz f)  (hq : Q (debtR f p (cl (f 4)) 0 0) w z) : F_X3_sumOfDebts b p w z Q := by
  obtain ⟨hd, zn, nm, pa, tk, cs, h1, h2, h3⟩ := h
  have e := h1.self
  rw [e] at hq ⊢
  exact c_sumOfDebts hI.2.1 h2 hq
theorem HasF.unpaid {p : Int32} (hI : Inv f) (h : HasF w b Fz f)  (hq : Q (unpR f p (cl (f 4)) 0 0) w z) : F_X3_countUnpaid b p w z Q := by
  obtain ⟨hd, zn, nm, pa, tk, cs, h1, h2, h3⟩ := h
  have e := h1.self
  rw [e] at hq ⊢
  exact c_countUnpaid hI.2.1 h2 hq
theorem HasF.prices  (hI : Inv f) (h : HasF w b Fz f)  (hq : Q (prR f (cl (f 3)) 0 0) w z) : F_X3_sumOfPrices b w z Q := by
  obtain ⟨hd, zn, nm, pa, tk, cs, h1, h2, h3⟩ := h
  have e := h1.self
  rw [e] at hq ⊢
  exact c_sumOfPrices hI.2.1 h2 hq
theorem HasF.moneys  (hI : Inv f) (h : HasF w b Fz f)  (hq : Q (monR f (cl (f 2)) 0 0) w z) : F_X3_sumOfMoney b w z Q := by
  obtain ⟨hd, zn, nm, pa, tk, cs, h1, h2, h3⟩ := h
  have e := h1.self
  rw [e] at hq ⊢
  exact c_sumOfMoney hI.2.1 h2 hq
theorem HasF.odds  (hI : Inv f) (h : HasF w b Fz f)  (hq : Q (oddR f (cl (f 3)) 0 0) w z) : F_X3_countOddStamps b w z Q := by
  obtain ⟨hd, zn, nm, pa, tk, cs, h1, h2, h3⟩ := h
  have e := h1.self
  rw [e] at hq ⊢
  exact c_countOdd hI.2.1 h2 hq
theorem HasF.zones {a c : Int32} (hI : Inv f) (h : HasF w b Fz f) (ha : vp_in a (cl (f 1))) (hc : vp_in c (cl (f 1))) (hq : Q (zonesF f a c) w z) : F_X3_rideZones b a c w z Q := by
  obtain ⟨hd, zn, nm, pa, tk, cs, h1, h2, h3⟩ := h
  have e := h1.self
  rw [e] at hq ⊢
  exact c_zones h2.2.1 (by have := clI hI.2.1.1; omega) ha hc hq
theorem HasF.outlook {c t : Int32} (hI : Inv f) (h : HasF w b Fz f) (hp : vp_in c (cl (f 4))) (ht : vp_in t (cl (f 3))) (hq : Q (judgedF f c t) w z) : F_X3_decisionFor b c t w z Q := by
  obtain ⟨hd, zn, nm, pa, tk, cs, h1, h2, h3⟩ := h
  have e := h1.self
  rw [e] at hq ⊢
  exact c_decisionFor hI.2.1 h2 hp ht hq
theorem CS.reqPassenger {p : Int32} (h : CS w x Fz g A) (hm : 1 ≤ mc) (hs : 6 ≤ ms) (hok : vp_in p (cl (A 1 2)) → R w z) (hx : ¬ vp_in p (cl (A 1 2)) → ∀ z1, z ≤ z1 → X "java/lang/IndexOutOfBoundsException" w z1) : F_X5_requirePassenger x p w z mc ms R X := by
  have hB := h.2.2.2.2.1.2.2.1
  have hn : ∃ n, vp_in (A 1 2) n := ⟨_, hB.2.1⟩
  obtain ⟨n, hn⟩ := hn
  have hn1 := clI hn
  refine ⟨fun h0 => ⟨hm, hs, hx (fun hv => ?_)⟩, fun h0 => ⟨_, fld_c h.1 0, _, h.2.2.2.2.1.1.g2, fun h1 => hok ?_, fun h1 => ⟨hm, hs, hx (fun hv => h1 ?_)⟩⟩⟩
  · have h3 := vp_in_iff.mp hv
    have h2 := ilt.mp h0
    rw [i_0] at h2
    omega
  · have h2 := ilt.mp h1
    have h3 : ¬ p.toInt < (0 : Int32).toInt := fun h => h0 (ilt.mpr h)
    rw [i_0] at h3
    exact vp_in_iff.mpr (by omega)
  · have h3 := vp_in_iff.mp hv
    exact ilt.mpr (by omega)
theorem CS.reqStop {p : Int32} (h : CS w x Fz g A) (hm : 1 ≤ mc) (hs : 6 ≤ ms) (hok : vp_in p (cl (A 1 1)) → R w z) (hx : ¬ vp_in p (cl (A 1 1)) → ∀ z1, z ≤ z1 → X "java/lang/IndexOutOfBoundsException" w z1) : F_X5_requireStop x p w z mc ms R X := by
  have hB := h.2.2.2.2.1.2.2.1
  have hn : ∃ n, vp_in (A 1 1) n := ⟨_, hB.1⟩
  obtain ⟨n, hn⟩ := hn
  have hn1 := clI hn
  refine ⟨fun h0 => ⟨hm, hs, hx (fun hv => ?_)⟩, fun h0 => ⟨_, fld_c h.1 0, _, h.2.2.2.2.1.1.g1, fun h1 => hok ?_, fun h1 => ⟨hm, hs, hx (fun hv => h1 ?_)⟩⟩⟩
  · have h3 := vp_in_iff.mp hv
    have h2 := ilt.mp h0
    rw [i_0] at h2
    omega
  · have h2 := ilt.mp h1
    have h3 : ¬ p.toInt < (0 : Int32).toInt := fun h => h0 (ilt.mpr h)
    rw [i_0] at h3
    exact vp_in_iff.mpr (by omega)
  · have h3 := vp_in_iff.mp hv
    exact ilt.mpr (by omega)
theorem CS.reqTicket {p : Int32} (h : CS w x Fz g A) (hm : 1 ≤ mc) (hs : 6 ≤ ms) (hok : vp_in p (cl (A 1 3)) → R w z) (hx : ¬ vp_in p (cl (A 1 3)) → ∀ z1, z ≤ z1 → X "java/lang/IndexOutOfBoundsException" w z1) : F_X5_requireTicket x p w z mc ms R X := by
  have hB := h.2.2.2.2.1.2.2.1
  have hn : ∃ n, vp_in (A 1 3) n := ⟨_, hB.2.2.1⟩
  obtain ⟨n, hn⟩ := hn
  have hn1 := clI hn
  refine ⟨fun h0 => ⟨hm, hs, hx (fun hv => ?_)⟩, fun h0 => ⟨_, fld_c h.1 0, _, h.2.2.2.2.1.1.g3, fun h1 => hok ?_, fun h1 => ⟨hm, hs, hx (fun hv => h1 ?_)⟩⟩⟩
  · have h3 := vp_in_iff.mp hv
    have h2 := ilt.mp h0
    rw [i_0] at h2
    omega
  · have h2 := ilt.mp h1
    have h3 : ¬ p.toInt < (0 : Int32).toInt := fun h => h0 (ilt.mpr h)
    rw [i_0] at h3
    exact vp_in_iff.mpr (by omega)
  · have h3 := vp_in_iff.mp hv
    exact ilt.mpr (by omega)
theorem CS.reqCase {p : Int32} (h : CS w x Fz g A) (hm : 1 ≤ mc) (hs : 6 ≤ ms) (hok : vp_in p (cl (A 1 4)) → R w z) (hx : ¬ vp_in p (cl (A 1 4)) → ∀ z1, z ≤ z1 → X "java/lang/IndexOutOfBoundsException" w z1) : F_X5_requireCase x p w z mc ms R X := by
  have hB := h.2.2.2.2.1.2.2.1
  have hn : ∃ n, vp_in (A 1 4) n := ⟨_, hB.2.2.2⟩
  obtain ⟨n, hn⟩ := hn
  have hn1 := clI hn
  refine ⟨fun h0 => ⟨hm, hs, hx (fun hv => ?_)⟩, fun h0 => ⟨_, fld_c h.1 0, _, h.2.2.2.2.1.1.g4, fun h1 => hok ?_, fun h1 => ⟨hm, hs, hx (fun hv => h1 ?_)⟩⟩⟩
  · have h3 := vp_in_iff.mp hv
    have h2 := ilt.mp h0
    rw [i_0] at h2
    omega
  · have h2 := ilt.mp h1
    have h3 : ¬ p.toInt < (0 : Int32).toInt := fun h => h0 (ilt.mpr h)
    rw [i_0] at h3
    exact vp_in_iff.mpr (by omega)
  · have h3 := vp_in_iff.mp hv
    exact ilt.mpr (by omega)
theorem CS.is0 (h : CS w x Fz g A) : isO w x 9 := isO_c h.1
theorem CS.f0 (h : CS w x Fz g A) : fld w x 9 0 = some (.ref (x + 1)) := fld_c h.1 0
theorem CS.is1 (h : CS w x Fz g A) : isO w (x + 1) 7 := h.2.2.2.2.1.1.any.is
theorem CS.F1 (h : CS w x Fz g A) : HasF w (x + 1) Fz (A 1) := h.2.2.2.2.1.1
theorem CS.I1 (h : CS w x Fz g A) : Inv (A 1) := h.2.2.2.2.1.2
theorem FzO.p (hz : FzO x Fz) : ∀ q, Fz q → ¬ (x + 1 ≤ q ∧ q < x + 1 + 63) := fun q hq => by
  have := hz q hq
  omega
theorem CS.rem1 (h : CS w x Fz (remG g) (remA g A (A 1))) : remA g A (A 1) 1 = A 1 := by
  unfold remA
  split
  · rw [updA_ne (by omega), updA_ne (by omega)]
  · rw [updA_ne (by omega)]
theorem remA_1 {r : Nat → Int32} : remA g A r 1 = A 1 := by
  unfold remA
  split
  · rw [updA_ne (by omega), updA_ne (by omega)]
  · rw [updA_ne (by omega)]
theorem CS.buy {p k y : Int32} (h : CS w x Fz g A) (hz : FzO x Fz) (hm : 10 ≤ mc) (hs : 100 ≤ ms)
    (hok : vp_in p (cl (A 1 2)) → vp_in k 3 → 1 ≤ y.toInt ∧ y.toInt ≤ 15 → ¬ mayBuyF (A 1) p k y = 0 → ∀ w', CS w' x Fz (remG g) (updA (remA g A (A 1)) 1 (buyF (A 1) p k y)) → FrS x w w' → Q (A 1 3) w' z)
    (h1 : ¬ vp_in p (cl (A 1 2)) → ∀ z1, z ≤ z1 → X "java/lang/IndexOutOfBoundsException" w z1)
    (h2 : vp_in p (cl (A 1 2)) → ¬ (vp_in k 3 ∧ 1 ≤ y.toInt ∧ y.toInt ≤ 15) → ∀ z1, z ≤ z1 → X "java/lang/IllegalArgumentException" w z1)
    (h3 : vp_in p (cl (A 1 2)) → vp_in k 3 → 1 ≤ y.toInt ∧ y.toInt ≤ 15 → mayBuyF (A 1) p k y = 0 → ∀ z1, z ≤ z1 → X "java/lang/IllegalStateException" w z1) : F_X5_buy x p k y w z mc ms Q X := by
  have i2 : (2 : Int32).toInt = 2 := by decide
  have i15 : (15 : Int32).toInt = 15 := by decide
  refine ⟨h.is0, 1, 6, by omega, by omega, h.reqPassenger (by omega) (by omega) (fun hp => ⟨fun hk => ⟨by omega, by omega, h2 hp ?_⟩, fun hk => ⟨fun hk2 => ⟨fun hy => ⟨by omega, by omega, h2 hp ?_⟩, fun hy => ⟨fun hy2 => ?_, fun hy2 => ⟨by omega, by omega, h2 hp ?_⟩⟩⟩, fun hk2 => ⟨by omega, by omega, h2 hp ?_⟩⟩⟩) h1⟩
  · rintro ⟨h4, -⟩
    have h5 := ilt.mp hk
    have h6 := vp_in_iff.mp h4
    rw [i_0] at h5
    omega
  · rintro ⟨-, h4, -⟩
    have h5 := ilt.mp hy
    rw [i_1] at h5
    omega
  · have k1 : ¬ k.toInt < (0 : Int32).toInt := fun h => hk (ilt.mpr h)
    have k2 := ile.mp hk2
    have y1 : ¬ y.toInt < (1 : Int32).toInt := fun h => hy (ilt.mpr h)
    have y2 := ile.mp hy2
    rw [i_0] at k1
    rw [i2] at k2
    rw [i_1] at y1
    rw [i15] at y2
    have hk3 : vp_in k 3 := vp_in_iff.mpr (by omega)
    have hy3 : 1 ≤ y.toInt ∧ y.toInt ≤ 15 := by omega
    refine ⟨_, h.f0, h.is1, h.F1.canSell h.I1 hp ⟨fun hb => ⟨h.is0, h.keep hz (fun w' h' hf => ?_)⟩, fun hb => ⟨by omega, by omega, h3 hp hk3 hy3 hb⟩⟩⟩
    have hF := h'.F1
    have hI := h'.I1
    rw [remA_1] at hF hI
    have ht : vp_in (A 1 3) 30 := by
      have hB3 := vp_in_iff.mp hI.2.1.2.2.1
      have i30 : (30 : Int32).toInt = 30 := by decide
      have : ¬ 30 ≤ A 1 3 := fun h => hb (by
        unfold mayBuyF
        rw [if_pos h])
      have : ¬ (30 : Int32).toInt ≤ (A 1 3).toInt := fun h => this (ile.mpr h)
      exact vp_in_iff.mpr (by omega)
    refine ⟨_, h'.f0, h'.is1, hF.sell hz.p hI hp ht (fun w'' h5 h6 => ?_)⟩
    obtain ⟨h7, h8⟩ := h'.pr hz h5 (hI.buy hp hk3 ht) h6
    exact hok hp hk3 hy3 hb w'' h7 (hf.trans h8)
  · rintro ⟨-, -, h4⟩
    have h5 : ¬ y.toInt ≤ (15 : Int32).toInt := fun h => hy2 (ile.mpr h)
    rw [i15] at h5
    omega
  · rintro ⟨h4, -⟩
    have h5 : ¬ k.toInt ≤ (2 : Int32).toInt := fun h => hk2 (ile.mpr h)
    have h6 := vp_in_iff.mp h4
    rw [i2] at h5
    omega
theorem CS.wait {n : Int32} (h : CS w x Fz g A) (hz : FzO x Fz) (hm : 10 ≤ mc) (hs : 100 ≤ ms)
    (hok : 1 ≤ n.toInt → n.toInt ≤ 9999 → (A 1 0).toInt + n.toInt ≤ 99999 → ∀ w', CS w' x Fz (remG g) (updA (remA g A (A 1)) 1 (waitF (A 1) n)) → FrS x w w' → Q (A 1 0 + n) w' z)
    (h1 : ¬ (1 ≤ n.toInt ∧ n.toInt ≤ 9999) → ∀ z1, z ≤ z1 → X "java/lang/IllegalArgumentException" w z1)
    (h2 : 1 ≤ n.toInt → n.toInt ≤ 9999 → ¬ (A 1 0).toInt + n.toInt ≤ 99999 → ∀ z1, z ≤ z1 → X "java/lang/IllegalStateException" w z1) : F_X5_waitFor x n w z mc ms Q X := by
  have i9 : (9999 : Int32).toInt = 9999 := by decide
  have i99 : (99999 : Int32).toInt = 99999 := by decide
  have hc := h.I1.1
  have e1 : ((99999 : Int32) - A 1 0).toInt = 99999 - (A 1 0).toInt := by
    rw [isb _ _ (by rw [i99]; omega) (by rw [i99]; omega), i99]
  refine ⟨fun a => ⟨by omega, by omega, h1 ?_⟩, fun a => ⟨fun b => ⟨_, h.f0, _, h.F1.g0, fun c => ⟨h.is0, h.keep hz (fun w' h' hf => ?_)⟩, fun c => ⟨by omega, by omega, h2 ?_ ?_ ?_⟩⟩, fun b => ⟨by omega, by omega, h1 ?_⟩⟩⟩
  · have := ilt.mp a
    rw [i_1] at this
    omega
  · have a1 : ¬ n.toInt < (1 : Int32).toInt := fun h => a (ilt.mpr h)
    have b1 := ile.mp b
    have c1 := ile.mp c
    rw [i_1] at a1
    have hF := h'.F1
    have hI := h'.I1
    rw [remA_1] at hF hI
    have e2 : (A 1 0 + n).toInt = (A 1 0).toInt + n.toInt := ia _ _ (by omega) (by omega)
    refine ⟨_, h'.f0, hF.clk hz.p hI (fun w'' h5 h6 h9 => ?_)⟩
    obtain ⟨h7, h8⟩ := h'.pr hz h5 (hI.wait (by omega) (by omega)) h6
    exact ⟨_, h7.f0, _, h9, hok (by omega) (by omega) (by omega) w'' h7 (hf.trans h8)⟩
  · have a1 : ¬ n.toInt < (1 : Int32).toInt := fun h => a (ilt.mpr h)
    rw [i_1] at a1
    omega
  · have b1 := ile.mp b
    omega
  · have c1 : ¬ n.toInt ≤ (99999 - A 1 0).toInt := fun h => c (ile.mpr h)
    omega
  · have b1 : ¬ n.toInt ≤ (9999 : Int32).toInt := fun h => b (ile.mpr h)
    omega
end
