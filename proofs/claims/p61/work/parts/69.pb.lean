section
variable {w w' w0 : Mm} {p d z z0 L i : Nat} {h tx a f f' : Nat → Int32} {Fz Fz' : Nat → Prop} {Q : Int32 → Mm → Nat → Prop} {R : Mm → Nat → Prop} {T : Mm → Prop} {c o : Int32}
theorem FrZ.trans {w'' : Mm} (h : FrZ d p z w w') (hz : z ≤ z0) (h' : FrZ d p z0 w' w'') : FrZ d p z w w'' := fun q q1 q2 q3 => (h' q (by omega) q2 q3).trans (h q q1 q2 q3)
theorem FzE.off {Fz Fz' : Nat → Prop} {z z' b n : Nat} (h : FzE Fz z Fz' z') (hb : b + n ≤ z) (hz : ∀ q, Fz q → ¬ (b ≤ q ∧ q < b + n)) : ∀ q, Fz' q → ¬ (b ≤ q ∧ q < b + n) := fun q hq => by
  rcases (h.2.2 q hq).1 with h1 | h1
  · exact hz q h1
  · omega
theorem P_pas6E {c o : Int32} (hd : d + 63 ≤ p ∨ p + 2 ≤ d) (hz : ∀ q, Fz q → ¬ (p ≤ q ∧ q < p + 2)) (hL : L ≤ 700) (hE : PE h L c o) (hI : Inv f) (hF : HasF w d Fz f) (hq : R (pw w p d h tx) z) : ∀ (n k mc ms : Nat), k + n = 9 → B_X1_readPassengers_6 p R (n + 1) (nI k) (pw w p d h tx) z mc ms := by
  have i8 : (8 : Int32) = nI 8 := rfl
  intro n
  induction n with
  | zero =>
    intro k mc ms hk
    unfold B_X1_readPassengers_6
    exact ⟨fun _ => hq, fun hh => absurd (by rw [i8, nIlt (by omega) (by omega)]; omega) hh⟩
  | succ n ih =>
    intro k mc ms hk
    unfold B_X1_readPassengers_6
    exact ⟨fun _ => hq, fun _ => fun q l => ⟨P_i, P_tokenIsE (by decide) hL hE l.str (chr_lit _ (by decide)) (fun v _ => ⟨fun _ => hq, fun _ => ⟨P_i, 0, 0, Nat.zero_le _, Nat.zero_le _, P_passengerE hd hz hL hE hI hF (by rw [nIs (by omega)]; exact ih (k + 1) _ _ (by omega))⟩⟩)⟩⟩
theorem P_pas6 {K : Nat × (Nat → Int32) → Prop} {E : Int32 × Int32 → Prop} {Fz0 : Nat → Prop} (hd : d + 63 ≤ p ∨ p + 2 ≤ d) (hL : L ≤ 700) (hT : TX tx a L)
    (hok : ∀ j f', K (j, f') → ∀ Fz' w' h' z', FzE Fz0 z0 Fz' z' → PK h' a L j → HasF w' d Fz' f' → Inv f' → FF w' Fz' → FrZ d p z0 w0 w' → R (pw w' p d h' tx) z')
    (her : ∀ c o, E (c, o) → ∀ Fz' w' h' z' f'', FzE Fz0 z0 Fz' z' → PE h' L c o → HasF w' d Fz' f'' → Inv f'' → FF w' Fz' → FrZ d p z0 w0 w' → R (pw w' p d h' tx) z') : ∀ (n k i z mc ms : Nat) (f h : Nat → Int32) (w : Mm) (Fz : Nat → Prop), k + n = 9 → f 2 = nI k → FzE Fz0 z0 Fz z → (∀ q, Fz q → ¬ (p ≤ q ∧ q < p + 2)) → (∀ q, Fz q → ¬ (d ≤ q ∧ q < d + 63)) → p + 2 ≤ z → d + 63 ≤ z → 4 * n ≤ mc → 30 * n ≤ ms →
    PK h a L i → HasF w d Fz f → Inv f → Zr f → FF w Fz → FrZ d p z0 w0 w → Out (sPs a L n f i) K E → B_X1_readPassengers_6 p R (n + 1) (nI k) (pw w p d h tx) z mc ms := by
  have i8 : (8 : Int32) = nI 8 := rfl
  intro n
  induction n with
  | zero =>
    intro k i z mc ms f h w Fz hk h2 _ _ _ _ _ _ _ _ _ hI
    have hB := clI hI.2.1.2.1
    rw [h2, show cl (nI k) = k from nI_cl (by omega)] at hB
    omega
  | succ n ih =>
    intro k i z mc ms f h w Fz hk h2 hFe hz hzd hpz hdz hm hs hK hF hI hZ hFF hFr H
    unfold B_X1_readPassengers_6
    rw [sPs] at H
    refine ⟨fun hh => absurd hh (by rw [i8, nIlt (by omega) (by omega)]; omega), fun _ => fun q l => ⟨P_i, P_tokenIs (by decide) hL hT hK l.str (chr_lit _ (by decide)) ?_⟩⟩
    by_cases hw : wIs a L i lit_5.length (fun j => lit_5.getD j 0) = true
    · rw [if_pos hw]
      have H := (H.if1 hw).eb
      refine ⟨fun hh => absurd hh (by decide), fun _ => ⟨P_i, 4, 30, by omega, by omega, P_passenger hd hz hzd (fun q hq => (hFe.2.2 q hq).2) hpz hdz (Nat.le_refl _) (Nat.le_refl _) hL hT hK hI hF hZ hFF H (fun j f' hj Fz' w' h' b1 b2 b3 b4 b5 b6 b7 b8 b9 => ?_) (fun c o he Fz' w' h' z' b1 b2 b3 b4 b5 => ?_)⟩⟩
      · rw [nIs (by omega)]
        exact ih (k + 1) j (z + 4) _ _ f' h' w' Fz' (by omega) (by rw [b6, h2, nIs (by omega)]) (hFe.trans b1) (b1.off hpz hz) (b1.off hdz hzd) (by omega) (by omega) (by omega) (by omega) b2 b3 b4 b5 b8 (hFr.trans hFe.1 b9) hj
      · rw [nIs (by omega)]
        exact P_pas6E hd (b1.off hpz hz) hL b2 hI b3 (her c o he Fz' w' h' z' f (hFe.trans b1) b2 b3 hI b4 (hFr.trans hFe.1 b5)) n (k + 1) _ _ (by omega)
    · rw [if_neg hw]
      exact ⟨fun _ => hok i f (H.if0 hw) Fz w h z hFe hK hF hI hFF hFr, fun hh => absurd rfl hh⟩
theorem P_passengers {K : Nat × (Nat → Int32) → Prop} {E : Int32 × Int32 → Prop} {mc ms : Nat} (hd : d + 63 ≤ p ∨ p + 2 ≤ d) (hz : ∀ q, Fz q → ¬ (p ≤ q ∧ q < p + 2)) (hzd : ∀ q, Fz q → ¬ (d ≤ q ∧ q < d + 63)) (hFz : ∀ q, Fz q → q < z) (hpz : p + 2 ≤ z) (hdz : d + 63 ≤ z) (hm : 40 ≤ mc) (hs : 300 ≤ ms)
    (hL : L ≤ 700) (hT : TX tx a L) (hK : PK h a L i) (hI : Inv f) (hF : HasF w d Fz f) (hZ : Zr f) (h2 : f 2 = 0) (hFF : FF w Fz) (H : Out (eb (sPass a L f i) fun r => sPs a L 8 r.2 r.1) K E)
    (hok : ∀ j f', K (j, f') → ∀ Fz' w' h' z', FzE Fz z Fz' z' → PK h' a L j → HasF w' d Fz' f' → Inv f' → FF w' Fz' → FrZ d p z w w' → R (pw w' p d h' tx) z')
    (her : ∀ c o, E (c, o) → ∀ Fz' w' h' z' f'', FzE Fz z Fz' z' → PE h' L c o → HasF w' d Fz' f'' → Inv f'' → FF w' Fz' → FrZ d p z w w' → R (pw w' p d h' tx) z') : F_X1_readPassengers p (pw w p d h tx) z mc ms R := by
  have i1 : (1 : Int32) = nI 1 := rfl
  refine ⟨P_i, 4, 30, by omega, by omega, P_passenger hd hz hzd hFz hpz hdz (Nat.le_refl _) (Nat.le_refl _) hL hT hK hI hF hZ hFF H.eb (fun j f' hj Fz' w' h' b1 b2 b3 b4 b5 b6 b7 b8 b9 => ⟨9, ?_⟩) (fun c o he Fz' w' h' z' b1 b2 b3 b4 b5 => ⟨9, ?_⟩)⟩
  · rw [i1]
    exact P_pas6 hd hL hT hok her 8 1 j (z + 4) _ _ f' h' w' Fz' (by omega) (by rw [b6, h2]; rfl) b1 (b1.off hpz hz) (b1.off hdz hzd) (by omega) (by omega) (by omega) (by omega) b2 b3 b4 b5 b8 b9 hj
  · rw [i1]
    exact P_pas6E hd (b1.off hpz hz) hL b2 hI b3 (her c o he Fz' w' h' z' f b1 b2 b3 hI b4 b5) 8 1 _ _ (by omega)
theorem P_passengersE {mc ms : Nat} (hd : d + 63 ≤ p ∨ p + 2 ≤ d) (hz : ∀ q, Fz q → ¬ (p ≤ q ∧ q < p + 2)) (hL : L ≤ 700) (hE : PE h L c o) (hI : Inv f) (hF : HasF w d Fz f) (hq : R (pw w p d h tx) z) : F_X1_readPassengers p (pw w p d h tx) z mc ms R :=
  ⟨P_i, 0, 0, Nat.zero_le _, Nat.zero_le _, P_passengerE hd hz hL hE hI hF ⟨9, P_pas6E hd hz hL hE hI hF hq 8 1 _ _ (by omega)⟩⟩
end
section
variable {w : Mm} {m z L i : Nat} {g g0 a f f' : Nat → Int32} {A A0 : Nat → Nat → Int32} {Q : Int32 → Mm → Nat → Prop} {R : Mm → Nat → Prop} {T : Mm → Prop} {c o : Int32}
theorem RM.row (h : RM g0 A0 a f L i g A) {f2 : Nat → Int32} : RM g0 A0 a f2 L i g (updA A 1 f2) := ⟨h.1, h.2.1, fun k h1 h8 => (updA_ne h1).trans (h.2.2.1 k h1 h8), (updA_ne (by omega)).trans h.2.2.2.1, updA_eq _ _ _⟩
theorem RX.row (h : RX g0 A0 L c o g A) {f2 : Nat → Int32} : RX g0 A0 L c o g (updA A 1 f2) := ⟨h.1, h.2.1, fun k h1 h8 => (updA_ne h1).trans (h.2.2 k h1 h8)⟩
end
