/-! the commands, as the reference reads them -/
def sA (A A' : Nat → Nat → Int32) : Prop := ∀ k, k ≠ 1 → k ≠ 8 → A' k = A k
def RM (g0 : Nat → Int32) (A0 : Nat → Nat → Int32) (a f : Nat → Int32) (L i : Nat) (g : Nat → Int32) (A : Nat → Nat → Int32) : Prop := RK g a L i ∧ sQ g0 g ∧ sA A0 A ∧ A 6 = a ∧ A 1 = f
def RX (g0 : Nat → Int32) (A0 : Nat → Nat → Int32) (L : Nat) (c o : Int32) (g : Nat → Int32) (A : Nat → Nat → Int32) : Prop := RE g L c o ∧ sQ g0 g ∧ sA A0 A
section
variable {w : Mm} {m z L i : Nat} {g g0 a f f' : Nat → Int32} {A A0 : Nat → Nat → Int32} {Q : Int32 → Mm → Nat → Prop} {R : Mm → Nat → Prop} {T : Mm → Prop} {c o : Int32}
theorem sSemi_to {b : Bool} {j : Nat} (h : sSemi a L b i = .ok j) : j = tTo a L i := by
  unfold sSemi at h
  split at h
  · split at h
    · injection h with h
      exact h.symm
    · exact absurd h (by intro hh; injection hh)
  · exact absurd h (by intro hh; injection hh)
theorem wIs_x {n n' : Nat} {hh hh' : Nat → Int32} (h : wIs a L i n hh = true) (hn : n ≠ n') : ¬ wIs a L i n' hh' = true := by
  unfold wIs at h ⊢
  intro h'
  rw [Bool.and_eq_true, Bool.and_eq_true, beq_iff_eq, beq_iff_eq] at h h'
  have h1 := h.1.2
  have h2 := h'.1.2
  omega
theorem RK.up20 {v : Int32} (hK : RK g a L i) : RK (upd g 20 v) a L i := by
  obtain ⟨k1, k2, k3, k4, k5, k6, k7, k8, k9⟩ := hK
  refine ⟨k1, ?_, ?_, ?_, ?_, ?_, ?_, ?_, fun h => ?_⟩ <;> rw [upd_ne (by omega)] <;> first | assumption | exact k9 h
theorem RM.n19 (h : RM g0 A0 a f L i g A) : g 19 = 0 := h.1.2.2.1
theorem RX.ne (h : RX g0 A0 L c o g A) : ¬ g 19 = 0 := h.1.ne
theorem M_go (hL : L ≤ 700) (h : RM g0 A0 a f L i g A) (hq : ∀ g', RM g0 A0 a f L (tTo a L i) g' A → R (rwd w m g' A) z) : F_X6_go m (rwd w m g A) z R := by
  obtain ⟨hk, hs, ha, rfl, rfl⟩ := h
  exact R_go hL hk (fun g' s k => hq g' ⟨k, hs.trans s, ha, rfl, rfl⟩)
theorem M_goE (hE : RX g0 A0 L c o g A) (hq : R (rwd w m g A) z) : F_X6_go m (rwd w m g A) z R := R_goE hE.1 hq
theorem M_wrong1 (h : RM g0 A0 a f L i g A) (hq : ∀ g', RX g0 A0 L c (oF a L i) g' A → R (rwd w m g' A) z) : F_X6_wrong m 1 c (rwd w m g A) z R := by
  obtain ⟨hk, hs, ha, rfl, rfl⟩ := h
  exact R_wrong1 hk (fun g' s hE => hq g' ⟨hE, hs.trans s, ha⟩)
theorem M_here {lo hi : Int32} (h : RM g0 A0 a f L i g A)
    (hok : ∀ v j, sNum a L lo hi i = .ok (v, j) → Q v (rwd w m g A) z)
    (her : ∀ c o, sNum a L lo hi i = .error (c, o) → ∀ g', RX g0 A0 L c o g' A → Q lo (rwd w m g' A) z) : F_X6_here m lo hi (rwd w m g A) z Q := by
  obtain ⟨hk, hs, ha, rfl, rfl⟩ := h
  exact R_here hk hok (fun c o hr g' s hE => her c o hr g' ⟨hE, hs.trans s, ha⟩)
theorem M_number {lo hi : Int32} (hL : L ≤ 700) (h : RM g0 A0 a f L i g A)
    (hok : ∀ v j, sNum a L lo hi i = .ok (v, j) → ∀ g', RM g0 A0 a f L j g' A → Q v (rwd w m g' A) z)
    (her : ∀ c o, sNum a L lo hi i = .error (c, o) → ∀ g', RX g0 A0 L c o g' A → Q lo (rwd w m g' A) z) : F_X6_number m lo hi (rwd w m g A) z Q := by
  obtain ⟨hk, hs, ha, rfl, rfl⟩ := h
  exact R_number hL hk (fun v j hr g' s k => hok v j hr g' ⟨k, hs.trans s, ha, rfl, rfl⟩) (fun c o hr g' s hE => her c o hr g' ⟨hE, hs.trans s, ha⟩)
theorem M_numberE {lo hi : Int32} (hE : RX g0 A0 L c o g A) (hq : Q lo (rwd w m g A) z) : F_X6_number m lo hi (rwd w m g A) z Q := R_numberE hE.1 hq
theorem M_known (hL : L ≤ 700) (h : RM g0 A0 a f L i g A) (hI : Inv f)
    (hok : ∀ v j, sKnown a L f i = .ok (v, j) → ∀ g' A', RM g0 A0 a f L j g' A' → Q v (rwd w m g' A') z)
    (her : ∀ c o, sKnown a L f i = .error (c, o) → ∀ g' A' v, RX g0 A0 L c o g' A' → Q v (rwd w m g' A') z) : F_X6_passengerHere m (rwd w m g A) z Q := by
  obtain ⟨hk, hs, ha, rfl, rfl⟩ := h
  have hl : ∀ A' : Nat → Nat → Int32, sL A A' → sA A0 A' := fun A' h k h1 h8 => (h k h8).trans (ha k h1 h8)
  exact R_known hL hk hI (fun v j hr g' A' s l k => hok v j hr g' A' ⟨k, hs.trans s, hl A' l, l 6 (by omega), l 1 (by omega)⟩) (fun c o hr g' A' v s l hE => her c o hr g' A' v ⟨hE, hs.trans s, hl A' l⟩)
theorem M_knownE (hE : RX g0 A0 L c o g A) (hq : ∀ v, Q v (rwd w m g A) z) : F_X6_passengerHere m (rwd w m g A) z Q := R_knownE hE.1 hq
theorem M_is {q : Nat} {t : List Int32} (hn : t.length ≤ 20) (hc : chr t.length (fun j => t.getD j 0)) (hL : L ≤ 700) (h : RM g0 A0 a f L i g A) (hl : isLit (rwd w m g A) q t) (hq : Q (if wIs a L i t.length (fun j => t.getD j 0) = true then 1 else 0) (rwd w m g A) z) : F_X6_is m q (rwd w m g A) z Q := by
  obtain ⟨hk, hs, ha, rfl, rfl⟩ := h
  exact R_is hn hL hk hl.str hc hq
theorem M_isE {q : Nat} {t : List Int32} (hn : t.length ≤ 20) (hc : chr t.length (fun j => t.getD j 0)) (hL : L ≤ 700) (hE : RX g0 A0 L c o g A) (hl : isLit (rwd w m g A) q t) (hq : ∀ v, Q v (rwd w m g A) z) : F_X6_is m q (rwd w m g A) z Q := R_isE hn hL hE.1 hl.str hc (fun v _ => hq v)
/-- the end of a command: its semicolon, its act, the next token -/
def Bn (m : Nat) (Act : Mm → Nat → (Int32 → Mm → Nat → Prop) → Prop) (R : Mm → Nat → Prop) (y : Int32) (w : Mm) (z : Nat) : Prop :=
  isO w m 10 ∧ F_X6_ends m y w z (fun r2 w3 z4 => (r2 = 0 → R w3 z4) ∧ (¬ r2 = 0 → isO w3 m 10 ∧ Act w3 z4 (fun r7 w8 z9 => ∃ f10, obj w8 m 10 = some f10 ∧ 20 < f10.length ∧ ∀ w11, w11 = mset w8 m (.inl (10, f10.set 20 (.int (r7)))) → R w11 z9)))
def Rt (m : Nat) (Can Act : Mm → Nat → (Int32 → Mm → Nat → Prop) → Prop) (R : Mm → Nat → Prop) (w : Mm) (z : Nat) : Prop :=
  ∃ v, fld w m 10 19 = some (.int (v)) ∧ (¬ v = 0 → Bn m Act R 1 w z) ∧ (v = 0 → isO w m 10 ∧ Can w z (fun r w1 z1 => (r = 0 → Bn m Act R 0 w1 z1) ∧ (¬ r = 0 → Bn m Act R 1 w1 z1)))
def Go (m : Nat) (R : Mm → Nat → Prop) : Mm → Nat → Prop := fun w z => isO w m 10 ∧ F_X6_go m w z (fun w z => R w z)
theorem Bn_ok {Act : Mm → Nat → (Int32 → Mm → Nat → Prop) → Prop} {cv : Int32} {K : Nat × (Nat → Int32) → Prop} {E : Int32 × Int32 → Prop} (hL : L ≤ 700) (h : RM g0 A0 a f L i g A)
    (hact : ¬ cv = 0 → ∀ (Q : Int32 → Mm → Nat → Prop), (∀ v, Q v (rwd w m g (updA A 1 f')) z) → Act (rwd w m g A) z Q)
    (H : Out (sAct a L cv f' i) K E)
    (hok : ∀ j, K (j, f') → ¬ cv = 0 → ∀ g' A', RM g0 A0 a f' L j g' A' → R (rwd w m g' A') z)
    (her : ∀ c o, E (c, o) → ∀ g', RX g0 A0 L c o g' A → R (rwd w m g' A) z) (y : Int32) (hy : (y = 0 ∧ cv = 0) ∨ (y = 1 ∧ ¬ cv = 0)) : Bn m Act (Go m R) y (rwd w m g A) z := by
  obtain ⟨hk, hs, ha, rfl, rfl⟩ := h
  have H1 := H.eb
  have e : (!(y == 0)) = (!(cv == 0)) := by
    rcases hy with ⟨rfl, h⟩ | ⟨rfl, h⟩
    · rw [h]
    · rw [nz h]
      rfl
  refine ⟨R_i, R_ends hk (fun j hr => ⟨fun hh => absurd hh (by decide), fun _ => ⟨R_i, ?_⟩⟩) (fun c o hr g' s hE => ⟨fun _ => ⟨R_i, R_goE hE (her c o (H1.er (by rw [← e]; exact hr)) g' ⟨hE, hs.trans s, ha⟩)⟩, fun hh => absurd rfl hh⟩)⟩
  have hc : ¬ cv = 0 := by
    rcases hy with ⟨rfl, h⟩ | ⟨rfl, h⟩
    · exact (sSemi_f (a := A 6) (L := L) (i := i) (j := j) hr).elim
    · exact h
  refine hact hc _ (fun v => R_p20 ⟨R_i, R_go hL (i := i) ?_ (fun g' s k => hok j (H1.ok (by rw [← e]; exact hr)) hc g' _ ⟨?_, hs.trans (sQ.trans ⟨upd_ne (by omega), upd_ne (by omega), upd_ne (by omega), upd_ne (by omega)⟩ s), fun k h1 h8 => (updA_ne h1).trans (ha k h1 h8), updA_ne (by omega), updA_eq _ _ _⟩)⟩)
  · rw [updA_ne (by omega)]
    exact hk.up20
  · rw [updA_ne (by omega)] at k
    rw [sSemi_to hr]
    exact k
theorem Bn_er {Act : Mm → Nat → (Int32 → Mm → Nat → Prop) → Prop} {y : Int32} (hE : RX g0 A0 L c o g A) (hq : R (rwd w m g A) z) : Bn m Act (Go m R) y (rwd w m g A) z :=
  ⟨R_i, R_endsE hE.1 ⟨fun _ => ⟨R_i, R_goE hE.1 hq⟩, fun hh => absurd rfl hh⟩⟩
theorem Rt_ok {Can Act : Mm → Nat → (Int32 → Mm → Nat → Prop) → Prop} {cv : Int32} {K : Nat × (Nat → Int32) → Prop} {E : Int32 × Int32 → Prop} (hL : L ≤ 700) (h : RM g0 A0 a f L i g A)
    (hcan : ∀ (Q : Int32 → Mm → Nat → Prop), Q cv (rwd w m g A) z → Can (rwd w m g A) z Q)
    (hact : ¬ cv = 0 → ∀ (Q : Int32 → Mm → Nat → Prop), (∀ v, Q v (rwd w m g (updA A 1 f')) z) → Act (rwd w m g A) z Q)
    (H : Out (sAct a L cv f' i) K E)
    (hok : ∀ j, K (j, f') → ¬ cv = 0 → ∀ g' A', RM g0 A0 a f' L j g' A' → R (rwd w m g' A') z)
    (her : ∀ c o, E (c, o) → ∀ g' A', RX g0 A0 L c o g' A' → R (rwd w m g' A') z) : Rt m Can Act (Go m R) (rwd w m g A) z :=
  ⟨_, R_g19, fun hh => absurd h.n19 hh, fun _ => ⟨R_i, hcan _ ⟨fun h0 => Bn_ok hL h hact H hok (fun c o hE g' hX => her c o hE g' _ hX) 0 (Or.inl ⟨rfl, h0⟩), fun h0 => Bn_ok hL h hact H hok (fun c o hE g' hX => her c o hE g' _ hX) 1 (Or.inr ⟨rfl, h0⟩)⟩⟩⟩
theorem Rt_er {Can Act : Mm → Nat → (Int32 → Mm → Nat → Prop) → Prop} (hE : RX g0 A0 L c o g A) (hq : R (rwd w m g A) z) : Rt m Can Act (Go m R) (rwd w m g A) z :=
  ⟨_, R_g19, fun _ => Bn_er hE hq, fun hh => absurd hh hE.ne⟩
theorem M_buy {K : Nat × (Nat → Int32) → Prop} {E : Int32 × Int32 → Prop} (hL : L ≤ 700) (h : RM g0 A0 a f L i g A) (hI : Inv f) (H : Out (sBuy a L f i) K E)
    (hok : ∀ j f', K (j, f') → ∀ g' A', RM g0 A0 a f' L j g' A' → R (rwd w m g' A') z)
    (her : ∀ c o, E (c, o) → ∀ g' A', RX g0 A0 L c o g' A' → R (rwd w m g' A') z) : F_X6_buyTold m (rwd w m g A) z (Go m R) := by
  have hB2 := clI hI.2.1.2.1
  have H1 := H.eb
  have eE : ∀ (v k y : Int32) c o g' A', RX g0 A0 L c o g' A' → R (rwd w m g' A') z → Rt m (fun w z Q => F_X6_mayBuy m v k y w z Q) (fun w z Q => F_X6_buys m v k y w z Q) (Go m R) (rwd w m g' A') z := fun v k y c o g' A' hE hq => Rt_er hE hq
  have e72 : ∀ v k y0 c o g' A', RX g0 A0 L c o g' A' → R (rwd w m g' A') z → B_X6_buyTold_72 m (Go m R) v k y0 m (rwd w m g' A') z := fun v k y0 c o g' A' hE hq => ⟨R_i, R_wrongE hE.ne ⟨R_i, M_goE hE ⟨R_i, M_numberE hE (eE v k _ c o g' A' hE hq)⟩⟩⟩
  have k60 : ∀ v j g' A' k, vp_in v (cl (f 2)) → RM g0 A0 a f L j g' A' → sKind a L j = .ok (k, tTo a L j) → Out (eb (sKind a L j) fun k => eb (sNum a L 1 15 k.2) fun y => sAct a L (mayBuyF f v k.1 y.1) (buyF f v k.1 y.1) y.2) K E → ¬ k = -1 → B_X6_buyTold_60 m (Go m R) v k (rwd w m g' A') z := fun v j g' A' k hv hM hr2 H2 hk => ⟨fun _ => ⟨R_i, R_wrong0 ⟨R_i, M_go hL hM (fun g2 hM2 => ⟨R_i, M_number hL hM2
    (fun y j3 hr3 g3 hM3 => Rt_ok (Can := fun w z Q => F_X6_mayBuy m v k y w z Q) (Act := fun w z Q => F_X6_buys m v k y w z Q) (cv := mayBuyF f v k y) (f' := buyF f v k y) hL hM3
      (fun Q hq => L_mayBuy (vp_le hv (by omega)) (by rw [hM3.2.2.2.2]; exact hq))
      (fun hb Q hq => L_buys (vp_le hv (by omega)) (by rw [hM3.2.2.2.2]; exact mayBuy_30 hI hb) (by rw [hM3.2.2.2.2]; exact hq _))
      ((H2.eb.ok hr2).eb.ok hr3 :) (fun j hj hb g' A' hm => hok _ _ hj g' A' hm) her)
    (fun c o hr3 g3 hE => eE v k _ c o g3 A' hE (her c o ((H2.eb.ok hr2).eb.er hr3) g3 A' hE))⟩)⟩⟩, fun hh => absurd hh hk⟩
  refine ⟨R_i, M_go hL h (fun g1 h1 => ⟨R_i, M_known hL h1 hI (fun v j hr g2 A2 h2 => ⟨_, R_g19, fun _ => fun q9 l9 => ⟨R_i, M_is (by decide) (chr_lit _ (by decide)) hL h2 l9 ?_⟩, fun hh => absurd h2.n19 hh⟩) (fun c o hr g2 A2 v hE => ⟨_, R_g19, fun hh => absurd hh hE.ne, fun _ => ⟨fun _ => e72 _ _ _ c o g2 A2 hE (her c o (H1.er hr) g2 A2 hE), fun hh => absurd hh (by decide)⟩⟩)⟩)⟩
  have hv := sKnown_in (by omega) hr
  have H2 := H1.ok hr
  by_cases w9 : wIs a L j lit_9.length (fun j => lit_9.getD j 0) = true
  · rw [if_pos w9]
    exact ⟨fun hh => absurd hh (by decide), fun _ => k60 v j g2 A2 0 hv h2 (by
      unfold sKind
      rw [if_neg (wIs_x w9 (by decide)), if_neg (wIs_x w9 (by decide)), if_pos w9]) H2 (by decide)⟩
  · rw [if_neg w9]
    refine ⟨fun _ => fun q7 l7 => ⟨R_i, M_is (by decide) (chr_lit _ (by decide)) hL h2 l7 ?_⟩, fun hh => absurd rfl hh⟩
    by_cases w7 : wIs a L j lit_7.length (fun j => lit_7.getD j 0) = true
    · rw [if_pos w7]
      exact ⟨fun hh => absurd hh (by decide), fun _ => k60 v j g2 A2 1 hv h2 (by
        unfold sKind
        rw [if_pos w7]) H2 (by decide)⟩
    · rw [if_neg w7]
      refine ⟨fun _ => fun q8 l8 => ⟨R_i, M_is (by decide) (chr_lit _ (by decide)) hL h2 l8 ?_⟩, fun hh => absurd rfl hh⟩
      by_cases w8 : wIs a L j lit_8.length (fun j => lit_8.getD j 0) = true
      · rw [if_pos w8]
        exact ⟨fun hh => absurd hh (by decide), fun _ => k60 v j g2 A2 2 hv h2 (by
          unfold sKind
          rw [if_neg w7, if_pos w8]) H2 (by decide)⟩
      · rw [if_neg w8]
        have hre : sKind a L j = .error (1, oF a L j) := by
          unfold sKind
          rw [if_neg w7, if_neg w8, if_neg w9]
        exact ⟨fun _ => ⟨fun hh => absurd rfl hh, fun _ => ⟨R_i, M_wrong1 h2 (fun g3 hE => ⟨R_i, M_goE hE ⟨R_i, M_numberE hE (eE v (-1) _ _ _ g3 A2 hE (her _ _ (H2.eb.er hre) g3 A2 hE))⟩⟩)⟩⟩, fun hh => absurd rfl hh⟩
end
