section
variable {w w' w0 : Mm} {p d z z0 L i : Nat} {h tx a f f' : Nat → Int32} {Fz Fz' : Nat → Prop} {Q : Int32 → Mm → Nat → Prop} {R : Mm → Nat → Prop} {T : Mm → Prop} {c o : Int32}
theorem FrZ.trans {w'' : Mm} (h : FrZ d p z w w') (hz : z ≤ z0) (h' : FrZ d p z0 w' w'') : FrZ d p z w w'' := fun q q1 q2 q3 => (h' q (by omega) q2 q3).trans (h q q1 q2 q3)
theorem FzE.off {Fz Fz' : Nat → Prop} {z z' b n : Nat} (h : FzE Fz z Fz' z') (hb : b + n ≤ z) (hz : ∀ q, Fz q → ¬ (b ≤ q ∧ q < b + n)) : ∀ q, Fz' q → ¬ (b ≤ q ∧ q < b + n) := fun q hq => by
  rcases (h.2.2 q hq).1 with h1 | h1
  · exact hz q h1
  · omega
theorem P_pas6E {c o : Int32} (hd : d + 63 ≤ p ∨ p + 2 ≤ d) (hz : ∀ q, Fz q → ¬ (p ≤ q ∧ q < p + 2)) (hL : L ≤ 700) (hE : PE h L c o) (hI : Inv f) (hF : HasF w d Fz f) (hq : R (pw w p d h tx) z) : ∀ (n k mc ms : Nat), k + n = 9 → B_X1_readPassengers_6 p R (n + 1) (nI k) (pw w p d h tx) z mc ms := by
  have i8 : (8 : Int32) = nI 8 := rfl
  intro n
  induction n with
  | zero =>
    intro k mc ms hk
    unfold B_X1_readPassengers_6
    exact ⟨fun _ => hq, fun hh => absurd (by rw [i8, nIlt (by omega) (by omega)]; omega) hh⟩
  | succ n ih =>
    intro k mc ms hk
    unfold B_X1_readPassengers_6
    exact ⟨fun _ => hq, fun _ => fun q l => ⟨P_i, P_tokenIsE (by decide) hL hE l.str (chr_lit _ (by decide)) (fun v _ => ⟨fun _ => hq, fun _ => ⟨P_i, 0, 0, Nat.zero_le _, Nat.zero_le _, P_passengerE hd hz hL hE hI hF (by rw [nIs (by omega)]; exact ih (k + 1) _ _ (by omega))⟩⟩)⟩⟩
theorem P_pas6 {K : Nat × (Nat → Int32) → Prop} {E : Int32 × Int32 → Prop} {Fz0 : Nat → Prop} (hd : d + 63 ≤ p ∨ p + 2 ≤ d) (hL : L ≤ 700) (hT : TX tx a L)
    (hok : ∀ j f', K (j, f') → ∀ Fz' w' h' z', FzE Fz0 z0 Fz' z' → PK h' a L j → HasF w' d Fz' f' → Inv f' → FF w' Fz' → FrZ d p z0 w0 w' → R (pw w' p d h' tx) z')
    (her : ∀ c o, E (c, o) → ∀ Fz' w' h' z' f'', FzE Fz0 z0 Fz' z' → PE h' L c o → HasF w' d Fz' f'' → Inv f'' → FF w' Fz' → FrZ d p z0 w0 w' → R (pw w' p d h' tx) z') : ∀ (n k i z mc ms : Nat) (f h : Nat → Int32) (w : Mm) (Fz : Nat → Prop), k + n = 9 → f 2 = nI k → FzE Fz0 z0 Fz z → (∀ q, Fz q → ¬ (p ≤ q ∧ q < p + 2)) → (∀ q, Fz q → ¬ (d ≤ q ∧ q < d + 63)) → p + 2 ≤ z → d + 63 ≤ z → 4 * n ≤ mc → 30 * n ≤ ms →
    PK h a L i → HasF w d Fz f → Inv f → Zr f → FF w Fz → FrZ d p z0 w0 w → Out (sPs a L n f i) K E → B_X1_readPassengers_6 p R (n + 1) (nI k) (pw w p d h tx) z mc ms := by
  have i8 : (8 : Int32) = nI 8 := rfl
  intro n
  induction n with
  | zero =>
    intro k i z mc ms f h w Fz hk h2 _ _ _ _ _ _ _ _ _ hI
    have hB := clI hI.2.1.2.1
    rw [h2, show cl (nI k) = k from nI_cl (by omega)] at hB
    omega
  | succ n ih =>
    intro k i z mc ms f h w Fz hk h2 hFe hz hzd hpz hdz hm hs hK hF hI hZ hFF hFr H
    unfold B_X1_readPassengers_6
    rw [sPs] at H
    refine ⟨fun hh => absurd hh (by rw [i8, nIlt (by omega) (by omega)]; omega), fun _ => fun q l => ⟨P_i, P_tokenIs (by decide) hL hT hK l.str (chr_lit _ (by decide)) ?_⟩⟩
    by_cases hw : wIs a L i lit_5.length (fun j => lit_5.getD j 0) = true
    · rw [if_pos hw]
      have H := (H.if1 hw).eb
      refine ⟨fun hh => absurd hh (by decide), fun _ => ⟨P_i, 4, 30, by omega, by omega, P_passenger hd hz hzd (fun q hq => (hFe.2.2 q hq).2) hpz hdz (Nat.le_refl _) (Nat.le_refl _) hL hT hK hI hF hZ hFF H (fun j f' hj Fz' w' h' b1 b2 b3 b4 b5 b6 b7 b8 b9 => ?_) (fun c o he Fz' w' h' z' b1 b2 b3 b4 b5 => ?_)⟩⟩
      · rw [nIs (by omega)]
        exact ih (k + 1) j (z + 4) _ _ f' h' w' Fz' (by omega) (by rw [b6, h2, nIs (by omega)]) (hFe.trans b1) (b1.off hpz hz) (b1.off hdz hzd) (by omega) (by omega) (by omega) (by omega) b2 b3 b4 b5 b8 (hFr.trans hFe.1 b9) hj
      · rw [nIs (by omega)]
        exact P_pas6E hd (b1.off hpz hz) hL b2 hI b3 (her c o he Fz' w' h' z' f (hFe.trans b1) b2 b3 hI b4 (hFr.trans hFe.1 b5)) n (k + 1) _ _ (by omega)
    · rw [if_neg hw]
      exact ⟨fun _ => hok i f (H.if0 hw) Fz w h z hFe hK hF hI hFF hFr, fun hh => absurd rfl hh⟩
theorem P_passengers {K : Nat × (Nat → Int32) → Prop} {E : Int32 × Int32 → Prop} {mc ms : Nat} (hd : d + 63 ≤ p ∨ p + 2 ≤ d) (hz : ∀ q, Fz q → ¬ (p ≤ q ∧ q < p + 2)) (hzd : ∀ q, Fz q → ¬ (d ≤ q ∧ q < d + 63)) (hFz : ∀ q, Fz q → q < z) (hpz : p + 2 ≤ z) (hdz : d + 63 ≤ z) (hm : 40 ≤ mc) (hs : 300 ≤ ms)
    (hL : L ≤ 700) (hT : TX tx a L) (hK : PK h a L i) (hI : Inv f) (hF : HasF w d Fz f) (hZ : Zr f) (h2 : f 2 = 0) (hFF : FF w Fz) (H : Out (eb (sPass a L f i) fun r => sPs a L 8 r.2 r.1) K E)
    (hok : ∀ j f', K (j, f') → ∀ Fz' w' h' z', FzE Fz z Fz' z' → PK h' a L j → HasF w' d Fz' f' → Inv f' → FF w' Fz' → FrZ d p z w w' → R (pw w' p d h' tx) z')
    (her : ∀ c o, E (c, o) → ∀ Fz' w' h' z' f'', FzE Fz z Fz' z' → PE h' L c o → HasF w' d Fz' f'' → Inv f'' → FF w' Fz' → FrZ d p z w w' → R (pw w' p d h' tx) z') : F_X1_readPassengers p (pw w p d h tx) z mc ms R := by
  have i1 : (1 : Int32) = nI 1 := rfl
  refine ⟨P_i, 4, 30, by omega, by omega, P_passenger hd hz hzd hFz hpz hdz (Nat.le_refl _) (Nat.le_refl _) hL hT hK hI hF hZ hFF H.eb (fun j f' hj Fz' w' h' b1 b2 b3 b4 b5 b6 b7 b8 b9 => ⟨9, ?_⟩) (fun c o he Fz' w' h' z' b1 b2 b3 b4 b5 => ⟨9, ?_⟩)⟩
  · rw [i1]
    exact P_pas6 hd hL hT hok her 8 1 j (z + 4) _ _ f' h' w' Fz' (by omega) (by rw [b6, h2]; rfl) b1 (b1.off hpz hz) (b1.off hdz hzd) (by omega) (by omega) (by omega) (by omega) b2 b3 b4 b5 b8 b9 hj
  · rw [i1]
    exact P_pas6E hd (b1.off hpz hz) hL b2 hI b3 (her c o he Fz' w' h' z' f b1 b2 b3 hI b4 b5) 8 1 _ _ (by omega)
theorem P_passengersE {mc ms : Nat} (hd : d + 63 ≤ p ∨ p + 2 ≤ d) (hz : ∀ q, Fz q → ¬ (p ≤ q ∧ q < p + 2)) (hL : L ≤ 700) (hE : PE h L c o) (hI : Inv f) (hF : HasF w d Fz f) (hq : R (pw w p d h tx) z) : F_X1_readPassengers p (pw w p d h tx) z mc ms R :=
  ⟨P_i, 0, 0, Nat.zero_le _, Nat.zero_le _, P_passengerE hd hz hL hE hI hF ⟨9, P_pas6E hd hz hL hE hI hF hq 8 1 _ _ (by omega)⟩⟩
end
section
variable {w : Mm} {m z L i : Nat} {g g0 a f f' : Nat → Int32} {A A0 : Nat → Nat → Int32} {Q : Int32 → Mm → Nat → Prop} {R : Mm → Nat → Prop} {T : Mm → Prop} {c o : Int32}
theorem M_nameHere (hL : L ≤ 700) (h : RM g0 A0 a f L i g A)
    (hok : isNm a L i = true → ∀ g' A', RM g0 A0 a f L i g' A' → LT g' A' (tFrom a L i) (tTo a L i - tFrom a L i) → R (rwd w m g' A') z)
    (her : ¬ isNm a L i = true → ∀ g', RX g0 A0 L 1 (oF a L i) g' A → R (rwd w m g' A) z) : F_X6_nameHere m (rwd w m g A) z R := by
  obtain ⟨hk, hs, ha, rfl, rfl⟩ := h
  exact R_nameHere hL hk (fun hn g' A' s k l lt => hok hn g' A' ⟨k, hs.trans s, fun q h1 h8 => (l q h8).trans (ha q h1 h8), l 6 (by omega), l 1 (by omega)⟩ lt) (fun hn g' s hE => her hn g' ⟨hE, hs.trans s, ha⟩)
theorem M_named (hL : L ≤ 700) (h : RM g0 A0 a f L i g A) (hN : isNm a L i = true) (hLT : LT g A (tFrom a L i) (tTo a L i - tFrom a L i)) (hI : Inv f) (hq : Q (fnd a L i f) (rwd w m g A) z) : F_X6_named m (rwd w m g A) z Q := by
  obtain ⟨hk, hs, ha, rfl, rfl⟩ := h
  exact R_named hL hN hk.1 hLT hI hq
theorem RM.row (h : RM g0 A0 a f L i g A) {f2 : Nat → Int32} : RM g0 A0 a f2 L i g (updA A 1 f2) := ⟨h.1, h.2.1, fun k h1 h8 => (updA_ne h1).trans (h.2.2.1 k h1 h8), (updA_ne (by omega)).trans h.2.2.2.1, updA_eq _ _ _⟩
theorem RX.row (h : RX g0 A0 L c o g A) {f2 : Nat → Int32} : RX g0 A0 L c o g (updA A 1 f2) := ⟨h.1, h.2.1, fun k h1 h8 => (updA_ne h1).trans (h.2.2 k h1 h8)⟩
theorem M_p193E {x1 y : Int32} (hE : RX g0 A0 L c o g A) (hq : R (rwd w m g A) z) : B_X6_passengerTold_193 m R x1 y m (rwd w m g A) z :=
  ⟨R_i, R_wrongE hE.ne ⟨_, R_g19, fun hh => absurd hh hE.ne, fun _ => hq⟩⟩
/-- from the letters on -/
theorem M_p109 {K : Nat × (Nat → Int32) → Prop} {E : Int32 × Int32 → Prop} {fr N row : Nat} (hL : L ≤ 700) (hN6 : N ≤ 6) (h8 : vp_in (f 2) 8) (hrow : row = 21 + 13 * cl (f 2))
    (H : Out (eb (sNum a L 0 99999 (tTo a L i)) fun r => eb (sSemi a L true r.2) fun j => .ok (j, addPasF a fr N f r.1)) K E)
    (hok : ∀ j v, K (j, addPasF a fr N f v) → ∀ g' A', RM g0 A0 a (addPasF a fr N f v) L j g' A' → R (rwd w m g' A') z)
    (her : ∀ c o, E (c, o) → ∀ g' A', RX g0 A0 L c o g' A' → R (rwd w m g' A') z) : ∀ (n k : Nat) (g : Nat → Int32) (A : Nat → Nat → Int32), k + n = N → LT g A fr N → RM g0 A0 a (putL a fr row k (upd f (row + 6) (nI N))) L i g A → B_X6_passengerTold_109 m R (n + 1) (nI row) (nI k) (rwd w m g A) z := by
  have c8 := clI h8
  have e0 : (nI row + 0 : Int32) = nI row := by
    rw [show (0 : Int32) = nI 0 from rfl, nIad (by omega)]
    rfl
  have e3 : (nI row + 3 : Int32) = nI (row + 3) := by
    rw [show (3 : Int32) = nI 3 from rfl, nIad (by omega)]
  have e4 : (nI row + 4 : Int32) = nI (row + 4) := by
    rw [show (4 : Int32) = nI 4 from rfl, nIad (by omega)]
  intro n
  induction n with
  | zero =>
    intro k g A hk hLT hM
    unfold B_X6_passengerTold_109
    have H1 := H.eb
    refine ⟨_, R_g14, fun _ => ⟨R_i, M_go hL hM (fun g1 h1 => ⟨_, R_r0, R_i, M_number hL h1 (fun v j hr g2 h2 => ?_) (fun c o hr g2 hE => ?_)⟩)⟩, fun hh => absurd (by rw [hLT.1, nIle (by omega) (by omega)]; omega) hh⟩
    · rw [e0, e3, e4]
      refine ⟨_, _, R_w1, nIin (by omega) (by omega), ?_⟩
      rintro _ rfl
      rw [nI_cl (by omega), R_s1]
      refine ⟨_, R_r0, _, _, R_w1, nIin (by omega) (by omega), ?_⟩
      rintro _ rfl
      rw [nI_cl (by omega), R_s1, updA_eq, updA_updA]
      refine ⟨_, R_r0, _, _, R_w1, nIin (by omega) (by omega), ?_⟩
      rintro _ rfl
      rw [nI_cl (by omega), R_s1, updA_eq, updA_updA, h2.2.2.2.2]
      have h3 := h2.row (f2 := upd (upd (upd (putL a fr row k (upd f (row + 6) (nI N))) row v) (row + 3) (-1)) (row + 4) (-1))
      have hk15 := h3.1.2.2.2.2.2.1
      refine ⟨_, R_g15, fun ht => ⟨R_i, R_wrong0 ⟨_, R_g19, fun _ => ⟨_, R_r0, _, _, R_a1, vl8, _, R_r0, _, _, R_a1, by rw [e0]; exact nIin (by omega) (by omega), _, _, R_w1, vl8, ?_⟩, fun hh => absurd h3.n19 hh⟩⟩, fun ht => ⟨R_i, M_wrong1 h3 (fun g3 hE => ⟨_, R_g19, fun hh => absurd hh hE.ne, fun _ => her _ _ (((H1.ok hr).eb).er ?_) g3 _ hE⟩)⟩⟩
      · rintro _ rfl
        rw [e0, nI_cl (by omega), cl8, R_s1]
        refine ⟨_, R_r0, _, _, R_a1, vl2, _, _, R_w1, vl2, ?_⟩
        rintro _ rfl
        rw [cl2, R_s1, updA_updA, updA_eq, updA_updA, updA_eq]
        rw [hk15] at ht
        have hF : upd (upd (upd (upd (upd (putL a fr row k (upd f (row + 6) (nI N))) row v) (row + 3) (-1)) (row + 4) (-1)) 8 (upd (upd (upd (putL a fr row k (upd f (row + 6) (nI N))) row v) (row + 3) (-1)) (row + 4) (-1) 8 + upd (upd (upd (putL a fr row k (upd f (row + 6) (nI N))) row v) (row + 3) (-1)) (row + 4) (-1) row)) 2 (upd (upd (upd (upd (putL a fr row k (upd f (row + 6) (nI N))) row v) (row + 3) (-1)) (row + 4) (-1)) 8 (upd (upd (upd (putL a fr row k (upd f (row + 6) (nI N))) row v) (row + 3) (-1)) (row + 4) (-1) 8 + upd (upd (upd (putL a fr row k (upd f (row + 6) (nI N))) row v) (row + 3) (-1)) (row + 4) (-1) row) 2 + 1) = addPasF a fr N f v := by
          unfold addPasF
          rw [← hrow, show k = N by omega]
          have p8 : upd (upd (upd (putL a fr row N (upd f (row + 6) (nI N))) row v) (row + 3) (-1)) (row + 4) (-1) 8 = f 8 := by
            rw [upd_ne (by omega), upd_ne (by omega), upd_ne (by omega), putL_out N (by omega), upd_ne (by omega)]
          have pr : upd (upd (upd (putL a fr row N (upd f (row + 6) (nI N))) row v) (row + 3) (-1)) (row + 4) (-1) row = v := by
            rw [upd_ne (by omega), upd_ne (by omega), upd_eq]
          have p2 : upd (upd (upd (upd (putL a fr row N (upd f (row + 6) (nI N))) row v) (row + 3) (-1)) (row + 4) (-1)) 8 (f 8 + v) 2 = f 2 := by
            rw [upd_ne (by omega), upd_ne (by omega), upd_ne (by omega), upd_ne (by omega), putL_out N (by omega), upd_ne (by omega)]
          rw [p8, pr, p2]
        rw [hF]
        have h4 := h2.row (f2 := addPasF a fr N f v)
        have hr3 : sSemi a L true j = .ok (tTo a L j) := by
          unfold sSemi
          rw [if_pos ht]
          rfl
        exact ⟨R_i, M_go hL h4 (fun g4 h5 => hok _ v ((H1.ok hr).eb.ok hr3 :) g4 _ h5)⟩
      · rw [hk15] at ht
        unfold sSemi
        rw [if_neg ht]
    · rw [e0, e3, e4]
      refine ⟨_, _, R_w1, nIin (by omega) (by omega), ?_⟩
      rintro _ rfl
      rw [nI_cl (by omega), R_s1]
      refine ⟨_, R_r0, _, _, R_w1, nIin (by omega) (by omega), ?_⟩
      rintro _ rfl
      rw [nI_cl (by omega), R_s1, updA_eq, updA_updA]
      refine ⟨_, R_r0, _, _, R_w1, nIin (by omega) (by omega), ?_⟩
      rintro _ rfl
      rw [nI_cl (by omega), R_s1, updA_eq, updA_updA]
      exact ⟨_, R_g15, fun _ => M_p193E hE.row (her c o (H1.er hr) _ _ hE.row), fun _ => M_p193E hE.row (her c o (H1.er hr) _ _ hE.row)⟩
  | succ n ih =>
    intro k g A hk hLT hM
    unfold B_X6_passengerTold_109
    have e7 : (nI row + 6 + 1 : Int32) + nI k = nI (row + 7 + k) := by
      rw [show (6 : Int32) = nI 6 from rfl, nIad (by omega), nIs (by omega), nIad (by omega)]
    refine ⟨_, R_g14, fun hh => absurd hh (by rw [hLT.1, nIle (by omega) (by omega)]; omega), fun _ => ⟨_, R_r0, _, R_r13, _, _, R_a8, nIin (by omega) (by omega), _, _, R_w1, by rw [e7]; exact nIin (by omega) (by omega), ?_⟩⟩
    rintro _ rfl
    rw [e7, nI_cl (by omega), nI_cl (by omega), R_s1, nIs (by omega), hLT.2 k (by omega), hM.2.2.2.1, hM.2.2.2.2]
    exact ih (k + 1) g _ (by omega) ⟨hLT.1, fun t ht => by rw [updA_ne (by omega), updA_ne (by omega)]; exact hLT.2 t ht⟩ hM.row
theorem M_p69E {y : Int32} (hE : RX g0 A0 L c o g A) (hq : R (rwd w m g A) z) : B_X6_passengerTold_69 m R y m (rwd w m g A) z :=
  ⟨R_i, R_wrongE hE.ne ⟨_, R_g19, fun hh => absurd hh hE.ne, fun _ => hq⟩⟩
theorem M_pass {K : Nat × (Nat → Int32) → Prop} {E : Int32 × Int32 → Prop} (hL : L ≤ 700) (hM : RM g0 A0 a f L i g A) (hI : Inv f) (hZ : Zr f) (H : Out (sPass a L f i) K E)
    (hok : ∀ j f', K (j, f') → Inv f' → Zr f' → f' 2 = f 2 + 1 → vp_in (f 2) 8 → ∀ g' A', RM g0 A0 a f' L j g' A' → R (rwd w m g' A') z)
    (her : ∀ c o, E (c, o) → ∀ g' A', RX g0 A0 L c o g' A' → R (rwd w m g' A') z) : F_X6_passengerTold m (rwd w m g A) z R := by
  have e2 : ∀ {f : Nat → Int32} {A : Nat → Nat → Int32}, A 1 = f → A 1 (2 : Int32).toNatClampNeg = f 2 := fun h => by rw [cl2, h]
  have e36 : ∀ (y : Int32) c o g', RX g0 A0 L c o g' A → R (rwd w m g' A) z → B_X6_passengerTold_36 m R y m (rwd w m g' A) z := fun y c o g' hE hq => ⟨R_i, R_wrongE hE.ne ⟨R_i, M_goE hE ⟨R_i, R_nameHereE hE.1 ⟨_, R_g19, fun _ => M_p69E hE hq, fun hh => absurd hh hE.ne⟩⟩⟩⟩
  unfold sPass at H
  intro q l
  refine ⟨R_i, M_is (by decide) (chr_lit _ (by decide)) hL hM l ?_⟩
  by_cases hw : wIs a L i lit_5.length (fun j => lit_5.getD j 0) = true
  · have H := H.if1 hw
    rw [if_pos hw]
    refine ⟨fun _ => ⟨R_i, R_wrong0 ⟨_, R_r0, _, _, R_a1, vl2, fun h8 => ?_, fun h8 => ⟨R_i, M_wrong1 hM (fun g1 hE => ⟨R_i, M_goE hE ⟨R_i, R_nameHereE hE.1 ⟨_, R_g19, fun _ => M_p69E hE (her _ _ (H.if1 ((e2 hM.2.2.2.2).symm.trans h8)) g1 A hE), fun hh => absurd hh hE.ne⟩⟩⟩)⟩⟩⟩, fun hh => absurd hh (by decide)⟩
    rw [e2 hM.2.2.2.2] at h8
    have H := H.if0 h8
    have v8 := not8 hI h8
    have c8 := clI v8
    refine ⟨R_i, R_wrong0 ⟨R_i, M_go hL hM (fun g1 h1 => ⟨R_i, M_nameHere hL h1 (fun hN g2 A2 h2 hLT => ?_) (fun hN g2 hE => ⟨_, R_g19, fun _ => M_p69E hE (her _ _ (H.if0 hN) g2 A hE), fun hh => absurd hh hE.ne⟩)⟩)⟩⟩
    have H := H.if1 hN
    have hNt := isNm_t hN
    have hft := tTo_le a h2.1.1
    refine ⟨_, R_g19, fun hh => absurd h2.n19 hh, fun _ => ⟨R_i, M_named hL h2 hN hLT hI ⟨fun hf => ?_, fun hf => ⟨R_i, M_wrong1 h2 (fun g3 hE => ⟨_, R_g19, fun hh => absurd hh hE.ne, fun _ => her _ _ (H.if0 hf) g3 A2 hE⟩)⟩⟩⟩⟩
    have H := H.if1 hf
    refine ⟨R_i, R_wrong0 ⟨_, R_g19, fun _ => ⟨_, R_r0, _, _, R_a1, vl2, ?_⟩, fun hh => absurd h2.n19 hh⟩⟩
    rw [e2 h2.2.2.2.2]
    rintro _ rfl
    have er : (21 + f 2 * 13 : Int32) = nI (21 + 13 * cl (f 2)) := ieq.mpr (by
      have hv := vp_in_iff.mp v8
      have m1 : (f 2 * 13 : Int32).toInt = (f 2).toInt * 13 := by
        rw [im _ _ (by rw [show (13 : Int32).toInt = 13 by decide]; omega) (by rw [show (13 : Int32).toInt = 13 by decide]; omega), show (13 : Int32).toInt = 13 by decide]
      rw [ia _ _ (by rw [m1, show (21 : Int32).toInt = 21 by decide]; omega) (by rw [m1, show (21 : Int32).toInt = 21 by decide]; omega), m1, show (21 : Int32).toInt = 21 by decide, nI_toInt (by omega)]
      omega)
    rw [er]
    have e6 : (nI (21 + 13 * cl (f 2)) + 6 : Int32) = nI (21 + 13 * cl (f 2) + 6) := by
      rw [show (6 : Int32) = nI 6 from rfl, nIad (by omega)]
    refine ⟨_, R_r0, _, R_g14, _, _, R_w1, by rw [e6]; exact nIin (by omega) (by omega), ?_⟩
    rintro _ rfl
    rw [e6, nI_cl (by omega), R_s1, hLT.1, h2.2.2.2.2]
    refine ⟨tTo a L (tTo a L i) - tFrom a L (tTo a L i) + 1, M_p109 hL (by omega) v8 rfl H (fun j v hj g' A' hM' => hok j _ hj (hI.pas hZ v8 (by omega) (fun t ht => word_le a hNt.1 (by omega) (by omega))) (hZ.pas v8 (by omega)) aP_2 v8 g' A' hM') her _ 0 g2 _ (by omega) ⟨hLT.1, fun t ht => by rw [updA_ne (by omega), updA_ne (by omega)]; exact hLT.2 t ht⟩ h2.row⟩
  · rw [if_neg hw]
    exact ⟨fun hh => absurd rfl hh, fun _ => ⟨R_i, M_wrong1 hM (fun g1 hE => ⟨_, R_r0, _, _, R_a1, vl2, fun _ => e36 _ _ _ g1 hE (her _ _ (H.if0 hw) g1 A hE), fun _ => e36 _ _ _ g1 hE (her _ _ (H.if0 hw) g1 A hE)⟩)⟩⟩
end
