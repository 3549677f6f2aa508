/-! a string's letters; a state with its names -/
def Str (w : Mm) (Fz : Nat → Prop) (q n : Nat) (h : Nat → Int32) : Prop := ∃ (b b' : Bool) (t : Nat) (l : List Value) (fb : Nat → Int32), Fz q ∧ Fz t ∧ w q = some (b, .inl (0, .ref t :: .int 0 :: l)) ∧ w t = some (b', .inr (1, n, .inl fb)) ∧ ∀ i, i < n → fb i = h i
theorem Str.to {w w' : Mm} {Fz Fz' : Nat → Prop} {q n : Nat} {h h' : Nat → Int32} (hs : Str w Fz q n h) (hw : ∀ q, Fz q → w' q = w q) (hF : ∀ q, Fz q → Fz' q) (hh : ∀ i, i < n → h' i = h i) : Str w' Fz' q n h' := by
  obtain ⟨b, b', t, l, fb, h1, h2, h3, h4, h5⟩ := hs
  exact ⟨b, b', t, l, fb, hF _ h1, hF _ h2, by rw [hw _ h1]; exact h3, by rw [hw _ h2]; exact h4, fun i hi => by rw [h5 i hi, hh i hi]⟩
def Nm (w : Mm) (Fz : Nat → Prop) (nm : Nat → Nat) (f : Nat → Int32) : Prop := ∀ p, p < cl (f 2) → Str w Fz (nm p) (cl (f (21 + 13 * p + 6))) (fun i => f (21 + 13 * p + 7 + i))
/-- the names stay -/
def sN (f f' : Nat → Int32) : Prop := f' 2 = f 2 ∧ ∀ p, p < 8 → ∀ k, 6 ≤ k → k < 13 → f' (21 + 13 * p + k) = f (21 + 13 * p + k)
def HasA (w : Mm) (b : Nat) : Prop := ∃ hd zn nm pa tk cs, hS w b hd zn nm pa tk cs
def HasF (w : Mm) (b : Nat) (Fz : Nat → Prop) (f : Nat → Int32) : Prop := ∃ hd zn nm pa tk cs, hS w b hd zn nm pa tk cs ∧ Rl hd zn pa tk cs f ∧ Nm w Fz nm f
section
variable {w w' : Mm} {b c z : Nat} {hd zn : Nat → Int32} {nm : Nat → Nat} {pa tk cs : Nat → Nat → Int32} {Q : Int32 → Mm → Nat → Prop} {R : Mm → Nat → Prop} {f f' : Nat → Int32} {Fz Fz' : Nat → Prop}
theorem Nm.to (h : Nm w Fz nm f) (hw : ∀ q, Fz q → w' q = w q) (hF : ∀ q, Fz q → Fz' q) {nm' : Nat → Nat} (h2 : f' 2 = f 2) (hf : ∀ p, p < cl (f 2) → nm' p = nm p ∧ ∀ k, 6 ≤ k → k < 7 + cl (f (21 + 13 * p + 6)) → f' (21 + 13 * p + k) = f (21 + 13 * p + k)) : Nm w' Fz' nm' f' := by
  intro p hp
  rw [h2] at hp
  obtain ⟨h3, h4⟩ := hf p hp
  rw [h3, h4 6 (by omega) (by omega)]
  exact (h p hp).to hw hF (fun i hi => by
    show f' (21 + 13 * p + 7 + i) = f (21 + 13 * p + 7 + i)
    rw [Nat.add_assoc, h4 (7 + i) (by omega) (by omega)])
theorem HasF.any (h : HasF w b Fz f) : HasA w b := by
  obtain ⟨hd, zn, nm, pa, tk, cs, h, -⟩ := h
  exact ⟨_, _, _, _, _, _, h⟩
theorem HasA.to (h : HasA w b) (hw : ∀ q, b ≤ q → q < b + 63 → w' q = w q) : HasA w' b := by
  obtain ⟨hd, zn, nm, pa, tk, cs, h⟩ := h
  exact ⟨_, _, _, _, _, _, h.to hw⟩
theorem HasF.to (h : HasF w b Fz f) (hw : ∀ q, (b ≤ q ∧ q < b + 63) ∨ Fz q → w' q = w q) (hF : ∀ q, Fz q → Fz' q) : HasF w' b Fz' f := by
  obtain ⟨hd, zn, nm, pa, tk, cs, h1, h2, h3⟩ := h
  exact ⟨_, _, _, _, _, _, h1.to (fun q a b => hw q (Or.inl ⟨a, b⟩)), h2, h3.to (fun q h => hw q (Or.inr h)) hF rfl (fun p hp => ⟨rfl, fun _ _ _ => rfl⟩)⟩
theorem sN.rfl : sN f f := ⟨Eq.refl _, fun _ _ _ _ _ => Eq.refl _⟩
/-- a method has written one state -/
theorem HasF.sw (hz : ∀ q, Fz q → ¬ (b ≤ q ∧ q < b + 63)) (hB : Inv f) (hn : Nm w Fz nm f) (hs : sN f f') (hR : Rl hd zn pa tk cs f') : HasF (sw w b hd zn nm pa tk cs) b Fz f' := by
  have hB2 := clI hB.2.1.2.1
  refine ⟨_, _, _, _, _, _, hS_sw, hR, hn.to (fun q hq => sw_o (hz q hq)) (fun _ h => h) hs.1 (fun p hp => ⟨_root_.rfl, fun k h6 hk => hs.2 p (by omega) k h6 ?_⟩)⟩
  have := clI (hB.2.2.2.1 p hp).2.2.1
  omega
theorem Nm.len (hB : Inv f) {p : Nat} (hp : p < cl (f 2)) : 7 + cl (f (21 + 13 * p + 6)) ≤ 13 := by
  have := clI (hB.2.2.2.1 p hp).2.2.1
  omega
theorem HasF.copy (hbc : b + 63 ≤ c ∨ c + 63 ≤ b) (hz : ∀ q, Fz q → ¬ (b ≤ q ∧ q < b + 63)) (hI : Inv f) (ha : HasA w b) (hc : HasF w c Fz f) (hq : ∀ w', HasF w' b Fz f → (∀ q, ¬ (b ≤ q ∧ q < b + 63) → w' q = w q) → R w' z) : F_X3_copyFrom b c w z R := by
  obtain ⟨hd, zn, nm, pa, tk, cs, h1⟩ := ha
  obtain ⟨hd', zn', nm', pa', tk', cs', h2, h3, h4⟩ := hc
  have e := h1.self
  rw [e]
  refine c_copyFrom hbc hI.2.1 hI.fg h3 (by rw [← e]; exact h2) (fun hd1 zn1 nm1 pa1 tk1 cs1 h5 h6 => hq _ ⟨_, _, _, _, _, _, hS_sw, h5, h4.to (fun q hq => sw_o (hz q hq)) (fun _ h => h) _root_.rfl (fun p hp => ⟨h6 p hp, fun _ _ _ => _root_.rfl⟩)⟩ (fun q hq => sw_o hq))
theorem HasF.sell {p k x : Int32} (hz : ∀ q, Fz q → ¬ (b ≤ q ∧ q < b + 63)) (hI : Inv f) (h : HasF w b Fz f) (hp : vp_in p (cl (f 2))) (ht : vp_in (f 3) 30) (hq : ∀ w', HasF w' b Fz (buyF f p k x) → (∀ q, ¬ (b ≤ q ∧ q < b + 63) → w' q = w q) → Q (f 3) w' z) : F_X3_sell b p k x w z Q := by
  have hB2 := clI hI.2.1.2.1
  have p1 := clI hp
  have t1 := clI ht
  obtain ⟨hd, zn, nm, pa, tk, cs, h1, h2, h3⟩ := h
  rw [h1.self]
  exact c_sell hI.2.1 h2 hp ht (fun hd' pa' tk' h5 => hq _ (HasF.sw hz hI h3 ⟨by simp (disch := omega) only [buyF, upd_ne], fun q hq k h6 h13 => by simp (disch := omega) only [buyF, upd_ne]⟩ h5) (fun q hq => sw_o hq))
theorem sN_ride {p a t : Int32} {c : Int32} (hp : cl p < 8) : sN f (beginF f p a c t) := by
  by_cases ht : t = -1
  · rw [ht, beginF_n]
    exact ⟨rideG_out (by omega), fun q hq k h6 h13 => rideG_out (by omega)⟩
  · rw [beginF_t hp ht]
    split
    · exact ⟨by rw [upd_ne (by omega), upd_ne (by omega), upd_ne (by omega), rideG_out (by omega)], fun q hq k h6 h13 => by rw [upd_ne (by omega), upd_ne (by omega), upd_ne (by omega), rideG_out (by omega)]⟩
    · exact ⟨by rw [upd_ne (by omega), rideG_out (by omega)], fun q hq k h6 h13 => by rw [upd_ne (by omega), rideG_out (by omega)]⟩
theorem HasF.ride {p a t : Int32} {d : Int32} (hz : ∀ q, Fz q → ¬ (b ≤ q ∧ q < b + 63)) (hI : Inv f) (h : HasF w b Fz f) (hp : vp_in p (cl (f 2))) (ht : t = -1 ∨ vp_in t (cl (f 3))) (hE : ¬ f 0 + 2 * jabs (d - a) = -1) (hq : ∀ w', HasF w' b Fz (beginF f p a d t) → (∀ q, ¬ (b ≤ q ∧ q < b + 63) → w' q = w q) → Q (f 0 + 2 * jabs (d - a)) w' z) : F_X3_beginRide b p a d t w z Q := by
  have hB2 := clI hI.2.1.2.1
  have p1 := clI hp
  obtain ⟨hd, zn, nm, pa, tk, cs, h1, h2, h3⟩ := h
  rw [h1.self]
  exact c_beginRide hI.2.1 h2 hp ht hE (fun pa' tk' h5 => hq _ (HasF.sw hz hI h3 (sN_ride (by omega)) h5) (fun q hq => sw_o hq))
theorem sN_insp {p : Int32} (hI : Inv f) (hp : vp_in p (cl (f 2))) (hc : vp_in (f 4) 20) : sN f (inspectF f p) := by
  have hB2 := clI hI.2.1.2.1
  have p1 := clI hp
  have c1 := clI hc
  by_cases hr : faultF f p = 0
  · rw [inspectF_0 hr]
    exact ⟨inspG_out (by omega) (by omega), fun q hq k h6 h13 => inspG_out (by omega) (by omega)⟩
  · obtain ⟨v, hv⟩ := inspectF_1 (p := p) hr (inspG_out (by omega) (by omega)) hc (by omega)
    rw [hv]
    exact ⟨by simp (disch := omega) only [inspG, upd_ne], fun q hq k h6 h13 => by simp (disch := omega) only [inspG, upd_ne]⟩
theorem HasF.insp {p : Int32} (hz : ∀ q, Fz q → ¬ (b ≤ q ∧ q < b + 63)) (hI : Inv f) (h : HasF w b Fz f) (hp : vp_in p (cl (f 2))) (hc : vp_in (f 4) 20) (hq : ∀ w', HasF w' b Fz (inspectF f p) → (∀ q, ¬ (b ≤ q ∧ q < b + 63) → w' q = w q) → Q (faultF f p) w' z) : F_X3_inspectRide b p w z Q := by
  obtain ⟨hd, zn, nm, pa, tk, cs, h1, h2, h3⟩ := h
  rw [h1.self]
  exact c_inspectRide hI.2.1 h2 hI.rd hp hc (fun hd' pa' cs' h5 => hq _ (HasF.sw hz hI h3 (sN_insp hI hp hc) h5) (fun q hq => sw_o hq))
theorem HasF.appeal {p t : Int32} (hz : ∀ q, Fz q → ¬ (b ≤ q ∧ q < b + 63)) (hI : Inv f) (h : HasF w b Fz f) (hp : vp_in p (cl (f 4))) (hq : ∀ w', HasF w' b Fz (appealF f p t) → (∀ q, ¬ (b ≤ q ∧ q < b + 63) → w' q = w q) → Q (cntA (appealF f p t) (cl (f 4)) 0 0) w' z) : F_X3_beginAppeal b p t w z Q := by
  obtain ⟨hd, zn, nm, pa, tk, cs, h1, h2, h3⟩ := h
  rw [h1.self]
  exact c_beginAppeal hI.2.1 h2 hp (fun cs' h5 => hq _ (HasF.sw hz hI h3 ⟨appealF_out (by omega), fun q hq k h6 h13 => appealF_out (by omega)⟩ h5) (fun q hq => sw_o hq))
theorem HasF.decide {p : Int32} (hz : ∀ q, Fz q → ¬ (b ≤ q ∧ q < b + 63)) (hI : Inv f) (h : HasF w b Fz f) (hp : vp_in p (cl (f 4))) (ht : vp_in (f (305 + 7 * cl p + 5)) (cl (f 3))) (hq : ∀ w', HasF w' b Fz (decideF f p) → (∀ q, ¬ (b ≤ q ∧ q < b + 63) → w' q = w q) → Q (judgedF f p (f (305 + 7 * cl p + 5))) w' z) : F_X3_decideAppeal b p w z Q := by
  obtain ⟨hd, zn, nm, pa, tk, cs, h1, h2, h3⟩ := h
  rw [h1.self]
  exact c_decideAppeal hI.2.1 h2 hp ht (fun cs' h5 => hq _ (HasF.sw hz hI h3 ⟨decideF_out (by omega), fun q hq k h6 h13 => decideF_out (by omega)⟩ h5) (fun q hq => sw_o hq))
theorem HasF.pay {p : Int32} (hz : ∀ q, Fz q → ¬ (b ≤ q ∧ q < b + 63)) (hI : Inv f) (h : HasF w b Fz f) (hp : vp_in p (cl (f 4))) (hq : ∀ w', HasF w' b Fz (payF f p) → (∀ q, ¬ (b ≤ q ∧ q < b + 63) → w' q = w q) → Q (dueF f p) w' z) : F_X3_payCase b p w z Q := by
  have hB2 := clI hI.2.1.2.1
  have c1 := clI hp
  have hw := (hI.2.2.2.2.2.1 _ c1.2).1
  have w1 := clI hw
  obtain ⟨hd, zn, nm, pa, tk, cs, h1, h2, h3⟩ := h
  rw [h1.self]
  exact c_payCase hI.2.1 h2 hp hw (fun hd' pa' cs' h5 => hq _ (HasF.sw hz hI h3 ⟨payF_out (by omega) (by omega) (by omega), fun q hq k h6 h13 => payF_out (by omega) (by omega) (by omega)⟩ h5) (fun q hq => sw_o hq))
theorem HasF.clk {n : Int32} (hz : ∀ q, Fz q → ¬ (b ≤ q ∧ q < b + 63)) (hI : Inv f) (h : HasF w b Fz f) {T : Mm → Prop} (hq : ∀ w', HasF w' b Fz (waitF f n) → (∀ q, ¬ (b ≤ q ∧ q < b + 63) → w' q = w q) → fld w' b 7 0 = some (.int (f 0 + n)) → T w') : ∃ v11, fld w b 7 0 = some (.int v11) ∧ ∃ f12, obj w b 7 = some f12 ∧ 0 < f12.length ∧ ∀ w13, w13 = mset w b (.inl (7, f12.set 0 (.int (v11 + n)))) → T w13 := by
  obtain ⟨hd, zn, nm, pa, tk, cs, h1, h2, h3⟩ := h
  rw [h1.self]
  have h5 : Rl (upd hd 0 (hd 0 + n)) zn pa tk cs (waitF f n) := by
    obtain ⟨e0, e1, e2, e3, e4, e5, e6, e7⟩ := h2.1
    refine h2.hr (fun j _ => upd_ne (by omega)) (upd_ne (by omega)) (upd_ne (by omega)) (upd_ne (by omega)) (upd_ne (by omega)) ?_
    unfold waitF
    simp (disch := omega) only [upd_ne, upd_eq]
    exact ⟨by rw [e0], e1, e2, e3, e4, e5, e6, e7⟩
  refine ⟨_, s_getH (by omega), s_putH (by omega) (hq _ (HasF.sw hz hI h3 ⟨upd_ne (by omega), fun q hq k h6 h13 => upd_ne (by omega)⟩ h5) (fun q hq => sw_o hq) ?_)⟩
  rw [s_getH (by omega), upd_eq, h2.1.1]
theorem HasF.g0 (h : HasF w b Fz f) : fld w b 7 0 = some (.int (f 0)) := by
  obtain ⟨hd, zn, nm, pa, tk, cs, h1, h2, h3⟩ := h
  rw [h1.self]
  exact gH0 h2
theorem HasF.g1 (h : HasF w b Fz f) : fld w b 7 4 = some (.int (f 1)) := by
  obtain ⟨hd, zn, nm, pa, tk, cs, h1, h2, h3⟩ := h
  rw [h1.self]
  exact gH4 h2
theorem HasF.g2 (h : HasF w b Fz f) : fld w b 7 5 = some (.int (f 2)) := by
  obtain ⟨hd, zn, nm, pa, tk, cs, h1, h2, h3⟩ := h
  rw [h1.self]
  exact gH5 h2
theorem HasF.g3 (h : HasF w b Fz f) : fld w b 7 6 = some (.int (f 3)) := by
  obtain ⟨hd, zn, nm, pa, tk, cs, h1, h2, h3⟩ := h
  rw [h1.self]
  exact gH6 h2
theorem HasF.g4 (h : HasF w b Fz f) : fld w b 7 7 = some (.int (f 4)) := by
  obtain ⟨hd, zn, nm, pa, tk, cs, h1, h2, h3⟩ := h
  rw [h1.self]
  exact gH7 h2
theorem HasF.g6 (h : HasF w b Fz f) : fld w b 7 1 = some (.int (f 6)) := by
  obtain ⟨hd, zn, nm, pa, tk, cs, h1, h2, h3⟩ := h
  rw [h1.self]
  exact gH1 h2
theorem HasF.g7 (h : HasF w b Fz f) : fld w b 7 2 = some (.int (f 7)) := by
  obtain ⟨hd, zn, nm, pa, tk, cs, h1, h2, h3⟩ := h
  rw [h1.self]
  exact gH2 h2
theorem HasF.g8 (h : HasF w b Fz f) : fld w b 7 3 = some (.int (f 8)) := by
  obtain ⟨hd, zn, nm, pa, tk, cs, h1, h2, h3⟩ := h
  rw [h1.self]
  exact gH3 h2
theorem HasA.is (h : HasA w b) : isO w b 7 := by
  obtain ⟨hd, zn, nm, pa, tk, cs, h1⟩ := h
  rw [h1.self]
  exact s_iH
theorem HasA.cell (h : HasA w b) : ∃ l, w b = some (true, .inl (7, l)) := by
  obtain ⟨hd, zn, nm, pa, tk, cs, h1⟩ := h
  exact ⟨_, h1 0 (by omega)⟩
end
