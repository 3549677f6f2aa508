/-! the law's text is built and handed over -/
/- (fa_or, fa_or_sum: kit/laws/NUMBERS) -/
theorem fa_or (a b : Nat) : nI a ||| nI b = nI (a ||| b) := by
  apply Int32.toBitVec_inj.1
  show BitVec.ofNat 32 a ||| BitVec.ofNat 32 b = BitVec.ofNat 32 (a ||| b)
  apply BitVec.eq_of_getLsbD_eq
  intro i hi
  simp [hi]
theorem fa_or_sum {a k : Nat} (b : Nat) (h : a < 2 ^ k) : nI (2 ^ k * b) ||| nI a = nI (2 ^ k * b + a) := by rw [fa_or, Nat.two_pow_add_eq_or_of_lt h]
theorem sh_or {v c : Nat} (hv : v < 2 ^ 23) (hc : c < 256) : (nI v <<< ((8 : Int32) &&& 31)) ||| nI c = nI (v * 256 + c) := by
  rw [pk_shlN (n := v) ((8 : Int32) &&& 31) 8 (by decide) (by omega), show v * 2 ^ 8 = 2 ^ 8 * v by omega, fa_or_sum v (by omega)]
def wN (c0 c1 c2 c3 : Nat) : Nat := ((c0 * 256 + c1) * 256 + c2) * 256 + c3
theorem byR_N {n : Nat} (h : n < 2 ^ 31) (s : Int32) (k : Nat) (hs : ((s &&& 31).toBitVec.smod 32).toNat = k) : byR (nI n) s = nI (n / 2 ^ k % 256) := by
  unfold byR
  rw [pk_shrN h (s &&& 31) k hs, pk_andN (by have := Nat.div_le_self n (2 ^ k); omega) 8 (by decide)]
theorem put4_w {a : Nat → Int32} {l c0 c1 c2 c3 : Nat} (h0 : c0 < 128) (h1 : c1 < 128) (h2 : c2 < 128) (h3 : c3 < 128) (e0 : a l = nI c0) (e1 : a (l + 1) = nI c1) (e2 : a (l + 2) = nI c2) (e3 : a (l + 3) = nI c3) : put4 byR a l (nI (wN c0 c1 c2 c3)) = a := by
  have hw : wN c0 c1 c2 c3 < 2 ^ 31 := by
    unfold wN
    omega
  unfold put4
  rw [byR_N hw 24 24 (by decide), byR_N hw (24 + -8) 16 (by decide), byR_N hw (24 + -8 + -8) 8 (by decide), byR_N hw (24 + -8 + -8 + -8) 0 (by decide)]
  rw [show wN c0 c1 c2 c3 / 2 ^ 24 % 256 = c0 by unfold wN; omega, show wN c0 c1 c2 c3 / 2 ^ 16 % 256 = c1 by unfold wN; omega, show wN c0 c1 c2 c3 / 2 ^ 8 % 256 = c2 by unfold wN; omega, show wN c0 c1 c2 c3 / 2 ^ 0 % 256 = c3 by unfold wN; omega]
  rw [← e0, upd_self, ← e1, upd_self, ← e2, upd_self, ← e3, upd_self]
/-- the letters of a text, 0 behind it -/
def tc (T : List Int32) (k : Nat) : Nat := cl (T.getD k 0)
theorem tc_lt {T : List Int32} (h : ch7 T) (k : Nat) : tc T k < 128 ∧ T.getD k 0 = nI (tc T k) := by
  by_cases hk : k < T.length
  · have hm : T.getD k 0 ∈ T := by
      rw [List.getD_eq_getElem?_getD, List.getElem?_eq_getElem hk]
      exact List.getElem_mem hk
    obtain ⟨h1, h2⟩ := h _ hm
    have hv : vp_in (T.getD k 0) 128 := vp_in_iff.mpr ⟨h1, h2⟩
    exact ⟨(clI hv).2, (nI_vp hv).symm⟩
  · have e : T.getD k 0 = 0 := by
      rw [List.getD_eq_getElem?_getD, List.getElem?_eq_none (by omega)]
      rfl
    unfold tc
    rw [e]
    exact ⟨by decide, rfl⟩
theorem put4_T {T : List Int32} (h : ch7 T) (l : Nat) : put4 byR (fun i => T.getD i 0) l (nI (wN (tc T l) (tc T (l + 1)) (tc T (l + 2)) (tc T (l + 3)))) = fun i => T.getD i 0 :=
  put4_w (tc_lt h l).1 (tc_lt h _).1 (tc_lt h _).1 (tc_lt h _).1 (tc_lt h l).2 (tc_lt h _).2 (tc_lt h _).2 (tc_lt h _).2
def wT (T : List Int32) (p : Nat) : Int32 := nI (wN (tc T p) (tc T (p + 1)) (tc T (p + 2)) (tc T (p + 3)))
theorem put20_T {T : List Int32} (h : ch7 T) (l : Nat) : put20 byR (fun i => T.getD i 0) l (wT T l) (wT T (l + 4)) (wT T (l + 8)) (wT T (l + 12)) (wT T (l + 16)) = fun i => T.getD i 0 := by
  unfold put20 wT
  rw [put4_T h, put4_T h, put4_T h, put4_T h, put4_T h]
def LB (b : Nat) (c0 : Bool × Ce) (d x : Nat) (Fz : Nat → Prop) (g : Nat → Int32) (A : Nat → Nat → Int32) (h tx : Nat → Int32) (w : Mm) : Prop :=
  CS w x Fz g A ∧ FzO x Fz ∧ HP w x h tx ∧ (∃ fd, w d = some (true, .inr (0, 1, .inl fd))) ∧ (d < x ∧ ¬ Fz d ∧ b ≠ d) ∧ (w b = some c0 ∧ b < x) ∧ FF w Fz ∧ ∀ q, Fz q → q < x
section
variable {w w' : Mm} {b d x z z' q n bb t t' cap cap' mc ms R S : Nat} {c0 : Bool × Ce} {Fz : Nat → Prop} {g g' : Nat → Int32} {A A' : Nat → Nat → Int32} {h h' tx tx' : Nat → Int32} {l l' T : List Int32} {Q : Int32 → Mm → Nat → Prop}
theorem LB.to (h0 : LB b c0 d x Fz g A h tx w) (hw : ∀ q, q < x + 764 → q ≠ d → w' q = w q) (hd : ∃ fd, w' d = some (true, .inr (0, 1, .inl fd))) : LB b c0 d x Fz g A h tx w' := by
  obtain ⟨h1, h2, h3, h4, ⟨h5, h6, h7⟩, ⟨h8, h9⟩, h10, h11⟩ := h0
  have hF : ∀ q, Fz q → w' q = w q := fun q hq => hw q (by have := h11 q hq; omega) (fun e => h6 (e ▸ hq))
  refine ⟨h1.to (fun q hq => ?_), h2, h3.to (hw _ (by omega) (by omega)) (hw _ (by omega) (by omega)), hd, ⟨h5, h6, h7⟩, ⟨(hw b (by omega) h7).trans h8, h9⟩, fun q hq bb n f he => h10 q hq bb n f (by rw [← he]; exact (hF q hq).symm), h11⟩
  rcases hq with hq | hq | hq
  · exact hw q (by omega) (by omega)
  · exact hw q (by omega) (by omega)
  · exact hF q hq
/-- a call of the class -/
theorem LB.ch (h0 : LB b c0 d x Fz g A h tx w) (hz : x + 764 ≤ z) (hC : CS w' x Fz g' A') (hP : HP w' x h' tx') (hF : FrL x z w w') : LB b c0 d x Fz g' A' h' tx' w' := by
  obtain ⟨h1, h2, h3, ⟨fd, h4⟩, ⟨h5, h6, h7⟩, ⟨h8, h9⟩, h10, h11⟩ := h0
  exact ⟨hC, h2, hP, ⟨fd, by rw [hF d (by omega) (by omega) (by omega)]; exact h4⟩, ⟨h5, h6, h7⟩, ⟨(hF b (by omega) (by omega) (by omega)).trans h8, h9⟩, fun q hq bb n f he => h10 q hq bb n f (by rw [← he]; exact (hF q (by have := h11 q hq; omega) (by have := h11 q hq; omega) (by have := h11 q hq; omega)).symm), h11⟩
theorem FrL.str (hs : Str w (fun k => k = q ∨ k = q + 1) q n h) (hq : x + 764 ≤ q) (hz : q + 2 ≤ z) (hF : FrL x z w w') : Str w' (fun k => k = q ∨ k = q + 1) q n h :=
  hs.to (fun k hk => hF k (by omega) (by omega) (by omega)) (fun _ h => h) (fun _ _ => rfl)
theorem Str.o {Fs : Nat → Prop} (hs : Str w Fs q n h) : isO w q 0 := by
  obtain ⟨b, b', t, l, fb, h1, h2, h3, h4, h5⟩ := hs
  exact isO_c h3
/-! four letters as one word -/
theorem wd_4 {p : Nat} (hT : ch7 T) (hn : T.length = n) (hn2 : n ≤ 200) (hp : p ≤ 300) {Fs : Nat → Prop} (hs : Str w Fs q n (fun i => T.getD i 0)) (hq : Q (nI ((((0 * 256 + tc T (p + 0)) * 256 + tc T (p + 1)) * 256 + tc T (p + 2)) * 256 + tc T (p + 3))) w z) : B_L_word_4 q (nI p) Q 5 (nI 0) (nI (p + 0)) w z := by
  have i4 : (4 : Int32) = nI 4 := rfl
  have key : ∀ (m j v : Nat), j + (m + 1) = 4 → v < 2 ^ 23 → B_L_word_4 q (nI p) Q (m + 1) (nI (v * 256 + tc T (p + j))) (nI (p + (j + 1))) w z → B_L_word_4 q (nI p) Q (m + 1 + 1) (nI v) (nI (p + j)) w z := by
    intro m j v hj hv hB
    have hc := (tc_lt hT (p + j)).1
    have e1 : nI (p + j) + 1 = nI (p + (j + 1)) := by rw [nIs (by omega), Nat.add_assoc]
    rw [B_L_word_4, i4, nIad (by omega)]
    refine ⟨fun hh => absurd ((nIle (by omega) (by omega)).mp hh) (by omega), fun _ => ⟨hs.o, j_length hs ⟨fun hle => ?_, fun hgt => ⟨hs.o, ?_⟩⟩⟩⟩
    · have hle' := (nIle (by omega) (by omega)).mp hle
      have e0 : tc T (p + j) = 0 := by
        unfold tc
        rw [List.getD_eq_getElem?_getD, List.getElem?_eq_none (by omega)]
        rfl
      unfold B_L_word_32
      rintro _ rfl
      rw [show (0 : Int32) = nI 0 from rfl, sh_or hv (by omega), e1]
      rw [e0] at hB
      exact hB
    · have hgt' : ¬ n ≤ p + j := fun hh => hgt ((nIle (by omega) (by omega)).mpr hh)
      have hcl : cl (nI (p + j)) = p + j := nI_cl (by omega)
      have hb := tc_lt hT (p + j)
      refine j_charAt hs (nIin (by omega) (by omega)) (by omega) (by rw [hcl, hb.2, nI_toInt (by omega)]; omega) (by rw [hcl, hb.2, nI_toInt (by omega)]; omega) ?_
      rw [hcl]
      unfold B_L_word_32
      rintro _ rfl
      show B_L_word_4 q (nI p) Q (m + 1) ((nI v <<< ((8 : Int32) &&& 31)) ||| (T.getD (p + j) 0)) _ _ _
      rw [hb.2, sh_or hv (by omega), e1]
      exact hB
  have fin : ∀ v, Q (nI v) w z → B_L_word_4 q (nI p) Q 1 (nI v) (nI (p + 4)) w z := fun v hq => by
    rw [B_L_word_4, i4, nIad (by omega)]
    exact ⟨fun _ => hq, fun hh => absurd ((nIle (by omega) (by omega)).mpr (by omega)) hh⟩
  have a0 : tc T (p + 0) < 128 := (tc_lt hT p).1
  have a1 := (tc_lt hT (p + 1)).1
  have a2 := (tc_lt hT (p + 2)).1
  have a3 := (tc_lt hT (p + 3)).1
  exact key 3 0 0 (by omega) (by omega) (key 2 1 _ (by omega) (by omega) (key 1 2 _ (by omega) (by omega) (key 0 3 _ (by omega) (by omega) (fin _ hq))))
theorem W_word {p : Nat} (hT : ch7 T) (hn : T.length = n) (hn2 : n ≤ 200) (hp : p ≤ 300) {Fs : Nat → Prop} (hs : Str w Fs q n (fun i => T.getD i 0)) (hq : Q (wT T p) w z) : F_L_word q (nI p) w z Q :=
  ⟨5, wd_4 hT hn hn2 hp hs (by
    have e : (((0 * 256 + tc T (p + 0)) * 256 + tc T (p + 1)) * 256 + tc T (p + 2)) * 256 + tc T (p + 3) = wN (tc T p) (tc T (p + 1)) (tc T (p + 2)) (tc T (p + 3)) := by
      unfold wN
      simp
    rw [e]
    exact hq)⟩
theorem TXz {tx : Nat → Int32} : TX tx (fun i => T.getD i 0) 0 := fun i hi => absurd hi (by omega)
theorem W_trunc {p L : Nat} (h0 : LB b c0 d x Fz g A h tx w) (hz : x + 764 ≤ z) (hL : L ≤ 700) (h2 : h 2 = nI L) (hp : p ≤ L) (hq : ∀ w' h', LB b c0 d x Fz g A h' tx w' → FrL x z w w' → h' 2 = nI p → Q (nI p) w' z) : F_L_truncateInput x (nI p) w z 10 100 Q :=
  ⟨h0.1.is0, 10, 100, Nat.le_refl _, Nat.le_refl _, X_trunc hL h2 h0.1 h0.2.1 h0.2.2.1 (Nat.le_refl _) (Nat.le_refl _) (fun _ w' h' k1 k2 k3 _ k5 => hq w' h' (h0.ch hz k1 k2 k5) k5 k3) (fun hn => absurd ⟨by rw [nI_toInt (by omega)]; omega, by rw [nI_toInt (by omega)]; omega⟩ hn)⟩
theorem lw_write12 (hT : ch7 T) (hn : T.length = n) (hn2 : n ≤ 200) (hq0 : x + 764 ≤ q) (hqz : q + 2 ≤ z) (hmc : 10 ≤ mc) (hms : 100 ≤ ms) (hq : ∀ w' h' tx', LB b c0 d x Fz g A h' tx' w' → h' 2 = nI n → TX tx' (fun i => T.getD i 0) n → Q 1 w' z) : ∀ (m p : Nat) (w : Mm) (h tx : Nat → Int32), p < n + 20 → n ≤ p + 20 * m → LB b c0 d x Fz g A h tx w → Str w (fun k => k = q ∨ k = q + 1) q n (fun i => T.getD i 0) → h 2 = nI p → TX tx (fun i => T.getD i 0) p → B_L_write_12 x q Q (m + 1) (nI p) w z mc ms := by
  intro m
  induction m with
  | zero =>
    intro p w h tx h1 h2 h0 hs h3 h4
    unfold B_L_write_12
    refine ⟨hs.o, j_length hs ⟨fun _ => ⟨hs.o, j_length hs ⟨10, 100, hmc, hms, W_trunc h0 (by omega) (L := p) (by omega) h3 (by omega) (fun w' h' k1 k2 k3 => ⟨(FrL.str hs hq0 hqz k2).o, j_length (FrL.str hs hq0 hqz k2) ⟨fun hh => absurd rfl hh, fun _ => hq w' h' tx k1 k3 (h4.less (by omega))⟩⟩)⟩⟩, fun hh => absurd ((nIle (by omega) (by omega)).mpr (by omega)) hh⟩⟩
  | succ m ih =>
    intro p w h tx h1 h2 h0 hs h3 h4
    unfold B_L_write_12
    refine ⟨hs.o, j_length hs ⟨fun hle => ?_, fun hgt => ?_⟩⟩
    · have hle' := (nIle (by omega) (by omega)).mp hle
      exact ⟨hs.o, j_length hs ⟨10, 100, hmc, hms, W_trunc h0 (by omega) (L := p) (by omega) h3 (by omega) (fun w' h' k1 k2 k3 => ⟨(FrL.str hs hq0 hqz k2).o, j_length (FrL.str hs hq0 hqz k2) ⟨fun hh => absurd rfl hh, fun _ => hq w' h' tx k1 k3 (h4.less (by omega))⟩⟩)⟩⟩
    · have hgt' : ¬ n ≤ p := fun hh => hgt ((nIle (by omega) (by omega)).mpr hh)
      have e4 : nI p + 4 = nI (p + 4) := nIad (a := p) (b := 4) (by omega)
      have e8 : nI p + 8 = nI (p + 8) := nIad (a := p) (b := 8) (by omega)
      have e12 : nI p + 12 = nI (p + 12) := nIad (a := p) (b := 12) (by omega)
      have e16 : nI p + 16 = nI (p + 16) := nIad (a := p) (b := 16) (by omega)
      have e20 : nI p + 20 = nI (p + 20) := nIad (a := p) (b := 20) (by omega)
      rw [e4, e8, e12, e16, e20]
      refine W_word hT hn hn2 (by omega) hs (W_word hT hn hn2 (by omega) hs (W_word hT hn hn2 (by omega) hs (W_word hT hn hn2 (by omega) hs (W_word hT hn hn2 (by omega) hs ⟨h0.1.is0, X_append (L := p) (by omega) h3 h0.1 h0.2.1 h0.2.2.1 (fun _ w' h' tx' k1 k2 k3 k4 k5 k6 => ⟨fun _ => ?_, fun hh => absurd rfl hh⟩) (fun hh => absurd (by omega) hh)⟩))))
      refine ih (p + 20) w' h' tx' (by omega) (by omega) (h0.ch (by omega) k1 k2 k6) (FrL.str hs hq0 hqz k6) k3 ?_
      have := h4.add20 (wT T p) (wT T (p + 4)) (wT T (p + 8)) (wT T (p + 12)) (wT T (p + 16))
      rw [put20_T hT, ← k5] at this
      exact this
theorem lw_write (hT : ch7 T) (hn : T.length = n) (hn2 : n ≤ 200) (hq0 : x + 764 ≤ q) (hqz : q + 2 ≤ z) (h0 : LB b c0 d x Fz g A h tx w) (hs : Str w (fun k => k = q ∨ k = q + 1) q n (fun i => T.getD i 0)) (h2 : h 2 = nI 0) (hq : ∀ w' h' tx', LB b c0 d x Fz g A h' tx' w' → h' 2 = nI n → TX tx' (fun i => T.getD i 0) n → Q 1 w' z) : F_L_write x q w z 20 200 Q :=
  ⟨10, 100, by omega, by omega, W_trunc (p := 0) (L := 0) h0 (by omega) (by omega) h2 (Nat.le_refl _) (fun w' h' k1 k2 k3 => ⟨fun _ => ⟨12, lw_write12 hT hn hn2 hq0 hqz (by omega) (by omega) hq 11 0 w' h' tx (by omega) (by omega) k1 (FrL.str hs hq0 hqz k2) k3 TXz⟩, fun hh => absurd rfl hh⟩)⟩
/-! the string builder -/
def BQ (cap R S mc ms : Nat) : Prop := 702 - cap + R ≤ mc ∧ 2 * (702 - cap) + S ≤ ms ∧ cap ≤ 702
theorem BQ.ma (h : BQ cap R S mc ms) (hc : cap' ≤ 702) : cap' - cap ≤ mc := by
  unfold BQ at h
  omega
theorem BQ.mb (h : BQ cap R S mc ms) (hc : cap' ≤ 702) : 2 * (cap' - cap) ≤ ms := by
  unfold BQ at h
  omega
theorem BQ.nx (h : BQ cap R S mc ms) (hc : cap ≤ cap') (h7 : cap' ≤ 702) : BQ cap' R S (mc - (cap' - cap)) (ms - 2 * (cap' - cap)) := by
  unfold BQ at h ⊢
  omega
def LWs (b : Nat) (c0 : Bool × Ce) (d x : Nat) (Fz : Nat → Prop) (g : Nat → Int32) (A : Nat → Nat → Int32) (h tx : Nat → Int32) (bb t cap : Nat) (l : List Int32) (w : Mm) (z : Nat) : Prop :=
  LB b c0 d x Fz g A h tx w ∧ (∀ q c, w q = some (false, c) → Fz q) ∧ SB w bb t cap l ∧ (x + 764 ≤ bb ∧ bb < z) ∧ (x + 764 ≤ t ∧ t < z)
theorem LWs.fr (h0 : LWs b c0 d x Fz g A h tx bb t cap l w z) (k1 : SB w' bb t' cap' l') (k2 : t' = t ∨ z ≤ t') (k3 : t' < z') (k4 : z ≤ z') (k5 : FrB bb t z w w') : LWs b c0 d x Fz g A h tx bb t' cap' l' w' z' := by
  obtain ⟨h1, h2, h3, ⟨h4, h5⟩, ⟨h6, h7⟩⟩ := h0
  obtain ⟨fd, hd⟩ := h1.2.2.2.1
  have hdx := h1.2.2.2.2.1.1
  have hw : ∀ q, q < x + 764 → w' q = w q := fun q hq => k5.1 q (by omega) (by omega) (by omega)
  exact ⟨h1.to (fun q hq _ => hw q hq) ⟨fd, by rw [hw d (by omega)]; exact hd⟩, fun q c hq => h2 q c (k5.2 q c hq), k1, ⟨h4, by omega⟩, ⟨by omega, k3⟩⟩
theorem LWs.draw {n : Int32} (h0 : LWs b c0 d x Fz g A h tx bb t cap l w z) (hn : 0 < n.toInt) (hq : ∀ r w', 0 ≤ r.toInt → r.toInt < n.toInt → LWs b c0 d x Fz g A h tx bb t cap l w' z → Q r w' z) : F_L_draw d n w z Q := by
  obtain ⟨h1, h2, h3, ⟨h4, h5⟩, ⟨h6, h7⟩⟩ := h0
  obtain ⟨fd, hd⟩ := h1.2.2.2.1
  have hdx := h1.2.2.2.2.1.1
  refine draw0 hd hn (fun r w' fd' r0 r1 k1 k2 => hq r w' r0 r1 ⟨h1.to (fun q _ hq => k2 q hq) ⟨fd', k1⟩, fun q c hq => ?_, h3.to (k2 _ (by omega)) (k2 _ (by omega)), ⟨h4, h5⟩, ⟨h6, h7⟩⟩)
  by_cases e : q = d
  · rw [e, k1] at hq
    exact absurd hq (by intro hh; injection hh with hh; injection hh with hh; exact absurd hh (by decide))
  · rw [k2 q e] at hq
    exact h2 q c hq
theorem LWs.app {c : Int32} (h0 : LWs b c0 d x Fz g A h tx bb t cap l w z) (hc : 0 ≤ c.toInt) (hc2 : c.toInt < 128) (hn : l.length + 1 ≤ 300) {Q : Nat → Mm → Nat → Prop}
    (hq : ∀ w' t' z', LWs b c0 d x Fz g A h tx bb t' (gr cap (l.length + 1)) (l ++ [c]) w' z' → Q bb w' z') : F_J4_append_cf468 bb c w z (gr cap (l.length + 1) - cap) (2 * (gr cap (l.length + 1) - cap)) Q :=
  h0.2.2.1.app hc hc2 hn h0.2.2.2.1.2 h0.2.2.2.2.2 (fun w' t' z' k1 k2 k3 k4 k5 => hq w' t' z' (h0.fr k1 k2 k3 k4 k5))
theorem LWs.appI {k : Nat} (h0 : LWs b c0 d x Fz g A h tx bb t cap l w z) (hk : k ≤ 99999) (hl : 1 ≤ l.length) (hn : l.length + 5 ≤ 300) {Q : Nat → Mm → Nat → Prop}
    (hq : ∀ w' t' z', LWs b c0 d x Fz g A h tx bb t' (gr cap (l.length + dn k)) (l ++ ds k) w' z' → Q bb w' z') : F_J4_append_bf812 bb (nI k) w z (gr cap (l.length + dn k) - cap) (2 * (gr cap (l.length + dn k) - cap)) Q :=
  h0.2.2.1.appI5 hk hl hn h0.2.2.2.1.2 h0.2.2.2.2.2 (fun w' t' z' k1 k2 k3 k4 k5 => hq w' t' z' (h0.fr k1 k2 k3 k4 k5))
theorem LWs.lit {s : List Int32} (h0 : LWs b c0 d x Fz g A h tx bb t cap l w z) (hl : isLit w q s) (hn : l.length + s.length ≤ 300) {Q : Nat → Mm → Nat → Prop}
    (hq : ∀ w' t' z', LWs b c0 d x Fz g A h tx bb t' (gr cap (l.length + s.length)) (l ++ (List.range s.length).map (fun i => s.getD i 0)) w' z' → Q bb w' z') : F_J4_append_15ec4 bb q w z (gr cap (l.length + s.length) - cap) (2 * (gr cap (l.length + s.length) - cap)) Q := by
  obtain ⟨v, f, e1, e2, e3⟩ := hl
  have hs : Str w Fz q s.length (fun i => s.getD i 0) := ⟨false, false, v, [], f, h0.2.1 _ _ e1, h0.2.1 _ _ e2, e1, e2, e3⟩
  refine h0.2.2.1.appS hs (fun a f bb n ha he => h0.1.2.2.2.2.2.2.1 a ha bb n f he) (fun a ha => ?_) hn h0.2.2.2.1.2 h0.2.2.2.2.2 (fun w' t' z' k1 k2 k3 k4 k5 => hq w' t' z' (h0.fr k1 k2 k3 k4 k5))
  have a1 := h0.1.2.2.2.2.2.2.2 a ha
  have a2 := h0.2.2.2.1
  have a3 := h0.2.2.2.2
  omega
end
