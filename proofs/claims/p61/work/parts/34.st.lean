/-! the live part of a class's state, as the reference's row has it -/
def RP (r f : Nat → Int32) (i : Nat) : Prop := r 1 = f i ∧ r 4 = f (i + 3) ∧ r 5 = f (i + 4) ∧ r 6 = f (i + 5) ∧ (f (i + 3) = -1 → r 2 = -1) ∧ (¬ f (i + 3) = -1 → r 2 = f (i + 1) ∧ r 3 = f (i + 2))
def RT (r f : Nat → Int32) (i : Nat) : Prop := r 0 = f i ∧ r 1 = f (i + 1) ∧ r 2 = f (i + 2) ∧ r 3 = f (i + 3) ∧ r 4 = f (i + 4) ∧ r 5 = f (i + 5)
def RC (r f : Nat → Int32) (i : Nat) : Prop := r 0 = f i ∧ r 1 = f (i + 1) ∧ r 2 = f (i + 3) ∧ r 3 = f (i + 6) ∧ r 4 = f (i + 2) ∧ r 5 = f (i + 4) ∧ r 6 = f (i + 5)
theorem RP.to {r f r' f' : Nat → Int32} {i : Nat} (h : RP r f i) (hr : r' = r) (hf : ∀ k, k < 6 → f' (i + k) = f (i + k)) : RP r' f' i := by
  subst hr
  have h0 := hf 0 (by omega)
  rw [Nat.add_zero] at h0
  unfold RP
  rw [h0, hf 1 (by omega), hf 2 (by omega), hf 3 (by omega), hf 4 (by omega), hf 5 (by omega)]
  exact h
theorem RT.to {r f r' f' : Nat → Int32} {i : Nat} (h : RT r f i) (hr : r' = r) (hf : ∀ k, k < 6 → f' (i + k) = f (i + k)) : RT r' f' i := by
  subst hr
  have h0 := hf 0 (by omega)
  rw [Nat.add_zero] at h0
  unfold RT
  rw [h0, hf 1 (by omega), hf 2 (by omega), hf 3 (by omega), hf 4 (by omega), hf 5 (by omega)]
  exact h
theorem RC.to {r f r' f' : Nat → Int32} {i : Nat} (h : RC r f i) (hr : r' = r) (hf : ∀ k, k < 7 → f' (i + k) = f (i + k)) : RC r' f' i := by
  subst hr
  have h0 := hf 0 (by omega)
  rw [Nat.add_zero] at h0
  unfold RC
  rw [h0, hf 1 (by omega), hf 2 (by omega), hf 3 (by omega), hf 4 (by omega), hf 5 (by omega), hf 6 (by omega)]
  exact h
def Rl (hd zn : Nat → Int32) (pa tk cs : Nat → Nat → Int32) (f : Nat → Int32) : Prop :=
  (hd 0 = f 0 ∧ hd 1 = f 6 ∧ hd 2 = f 7 ∧ hd 3 = f 8 ∧ hd 4 = f 1 ∧ hd 5 = f 2 ∧ hd 6 = f 3 ∧ hd 7 = f 4) ∧
  (∀ i, i < cl (f 1) → zn i = f (9 + i)) ∧
  (∀ p, p < cl (f 2) → RP (pa p) f (21 + 13 * p)) ∧ (∀ t, t < cl (f 3) → RT (tk t) f (125 + 6 * t)) ∧ (∀ c, c < cl (f 4) → RC (cs c) f (305 + 7 * c))
/-- the counts' bounds -/
def Bd (f : Nat → Int32) : Prop := vp_in (f 1) 13 ∧ vp_in (f 2) 9 ∧ vp_in (f 3) 31 ∧ vp_in (f 4) 21
section
variable {w : Mm} {b z : Nat} {hd zn : Nat → Int32} {nm : Nat → Nat} {pa tk cs : Nat → Nat → Int32} {Q : Int32 → Mm → Nat → Prop} {R : Mm → Nat → Prop} {T : Mm → Prop} {f : Nat → Int32}
theorem c_price {k x : Int32} {w : Mm} (hq : Q (priceI k x) w z) : F_X5_priceOf k x w z Q := by
  unfold F_X5_priceOf
  refine ⟨fun h2 => j_bitCount ⟨fun h1 => ?_, fun h1 => ?_⟩, fun h2 => ?_⟩
  · rw [priceI, if_neg h2, if_neg h1] at hq
    exact hq
  · rw [priceI, if_neg h2, if_pos h1] at hq
    exact hq
  · rw [priceI, if_pos h2] at hq
    exact hq
theorem c_isOnTram {i : Nat} {x : Int32} (hi : i < 8) (hq : Q (if pa i 4 ≤ x then 0 else 1) (sw w b hd zn nm pa tk cs) z) : F_X2_isOnTram (b + 5 + i) x (sw w b hd zn nm pa tk cs) z Q := by
  refine ⟨_, s_getP (k := 3) hi (by omega), fun hc => ?_, fun hc => ?_⟩
  · rw [if_pos hc] at hq
    exact hq
  · rw [if_neg hc] at hq
    with_reducible exact hq
theorem gH0 (hR : Rl hd zn pa tk cs f) : fld (sw w b hd zn nm pa tk cs) b 7 0 = some (.int (f 0)) := by
  rw [s_getH (by omega), hR.1.1]
theorem gH1 (hR : Rl hd zn pa tk cs f) : fld (sw w b hd zn nm pa tk cs) b 7 1 = some (.int (f 6)) := by
  rw [s_getH (by omega), hR.1.2.1]
theorem gH2 (hR : Rl hd zn pa tk cs f) : fld (sw w b hd zn nm pa tk cs) b 7 2 = some (.int (f 7)) := by
  rw [s_getH (by omega), hR.1.2.2.1]
theorem gH3 (hR : Rl hd zn pa tk cs f) : fld (sw w b hd zn nm pa tk cs) b 7 3 = some (.int (f 8)) := by
  rw [s_getH (by omega), hR.1.2.2.2.1]
theorem gH4 (hR : Rl hd zn pa tk cs f) : fld (sw w b hd zn nm pa tk cs) b 7 4 = some (.int (f 1)) := by
  rw [s_getH (by omega), hR.1.2.2.2.2.1]
theorem gH5 (hR : Rl hd zn pa tk cs f) : fld (sw w b hd zn nm pa tk cs) b 7 5 = some (.int (f 2)) := by
  rw [s_getH (by omega), hR.1.2.2.2.2.2.1]
theorem gH6 (hR : Rl hd zn pa tk cs f) : fld (sw w b hd zn nm pa tk cs) b 7 6 = some (.int (f 3)) := by
  rw [s_getH (by omega), hR.1.2.2.2.2.2.2.1]
theorem gH7 (hR : Rl hd zn pa tk cs f) : fld (sw w b hd zn nm pa tk cs) b 7 7 = some (.int (f 4)) := by
  rw [s_getH (by omega), hR.1.2.2.2.2.2.2.2]
theorem gP1 (hR : Rl hd zn pa tk cs f) {p : Nat} (h8 : p < 8) (hp : p < cl (f 2)) : fld (sw w b hd zn nm pa tk cs) (b + 5 + p) 6 1 = some (.int (f (21 + 13 * p))) := by
  rw [s_getP (k := 0) h8 (by omega), (hR.2.2.1 p hp).1]
theorem gP4 (hR : Rl hd zn pa tk cs f) {p : Nat} (h8 : p < 8) (hp : p < cl (f 2)) : fld (sw w b hd zn nm pa tk cs) (b + 5 + p) 6 4 = some (.int (f (21 + 13 * p + 3))) := by
  rw [s_getP (k := 3) h8 (by omega), (hR.2.2.1 p hp).2.1]
theorem gP5 (hR : Rl hd zn pa tk cs f) {p : Nat} (h8 : p < 8) (hp : p < cl (f 2)) : fld (sw w b hd zn nm pa tk cs) (b + 5 + p) 6 5 = some (.int (f (21 + 13 * p + 4))) := by
  rw [s_getP (k := 4) h8 (by omega), (hR.2.2.1 p hp).2.2.1]
theorem gP6 (hR : Rl hd zn pa tk cs f) {p : Nat} (h8 : p < 8) (hp : p < cl (f 2)) : fld (sw w b hd zn nm pa tk cs) (b + 5 + p) 6 6 = some (.int (f (21 + 13 * p + 5))) := by
  rw [s_getP (k := 5) h8 (by omega), (hR.2.2.1 p hp).2.2.2.1]
theorem gP2n (hR : Rl hd zn pa tk cs f) {p : Nat} (h8 : p < 8) (hp : p < cl (f 2)) (he : f (21 + 13 * p + 3) = -1) : fld (sw w b hd zn nm pa tk cs) (b + 5 + p) 6 2 = some (.int (-1)) := by
  rw [s_getP (k := 1) h8 (by omega), (hR.2.2.1 p hp).2.2.2.2.1 he]
theorem gP2 (hR : Rl hd zn pa tk cs f) {p : Nat} (h8 : p < 8) (hp : p < cl (f 2)) (he : ¬ f (21 + 13 * p + 3) = -1) : fld (sw w b hd zn nm pa tk cs) (b + 5 + p) 6 2 = some (.int (f (21 + 13 * p + 1))) := by
  rw [s_getP (k := 1) h8 (by omega), ((hR.2.2.1 p hp).2.2.2.2.2 he).1]
theorem gP3 (hR : Rl hd zn pa tk cs f) {p : Nat} (h8 : p < 8) (hp : p < cl (f 2)) (he : ¬ f (21 + 13 * p + 3) = -1) : fld (sw w b hd zn nm pa tk cs) (b + 5 + p) 6 3 = some (.int (f (21 + 13 * p + 2))) := by
  rw [s_getP (k := 2) h8 (by omega), ((hR.2.2.1 p hp).2.2.2.2.2 he).2]
theorem gT0 (hR : Rl hd zn pa tk cs f) {t : Nat} (h8 : t < 30) (ht : t < cl (f 3)) : fld (sw w b hd zn nm pa tk cs) (b + 13 + t) 8 0 = some (.int (f (125 + 6 * t))) := by
  rw [s_getT h8 (by omega), (hR.2.2.2.1 t ht).1]
theorem gT1 (hR : Rl hd zn pa tk cs f) {t : Nat} (h8 : t < 30) (ht : t < cl (f 3)) : fld (sw w b hd zn nm pa tk cs) (b + 13 + t) 8 1 = some (.int (f (125 + 6 * t + 1))) := by
  rw [s_getT h8 (by omega), (hR.2.2.2.1 t ht).2.1]
theorem gT2 (hR : Rl hd zn pa tk cs f) {t : Nat} (h8 : t < 30) (ht : t < cl (f 3)) : fld (sw w b hd zn nm pa tk cs) (b + 13 + t) 8 2 = some (.int (f (125 + 6 * t + 2))) := by
  rw [s_getT h8 (by omega), (hR.2.2.2.1 t ht).2.2.1]
theorem gT3 (hR : Rl hd zn pa tk cs f) {t : Nat} (h8 : t < 30) (ht : t < cl (f 3)) : fld (sw w b hd zn nm pa tk cs) (b + 13 + t) 8 3 = some (.int (f (125 + 6 * t + 3))) := by
  rw [s_getT h8 (by omega), (hR.2.2.2.1 t ht).2.2.2.1]
theorem gT4 (hR : Rl hd zn pa tk cs f) {t : Nat} (h8 : t < 30) (ht : t < cl (f 3)) : fld (sw w b hd zn nm pa tk cs) (b + 13 + t) 8 4 = some (.int (f (125 + 6 * t + 4))) := by
  rw [s_getT h8 (by omega), (hR.2.2.2.1 t ht).2.2.2.2.1]
theorem gT5 (hR : Rl hd zn pa tk cs f) {t : Nat} (h8 : t < 30) (ht : t < cl (f 3)) : fld (sw w b hd zn nm pa tk cs) (b + 13 + t) 8 5 = some (.int (f (125 + 6 * t + 5))) := by
  rw [s_getT h8 (by omega), (hR.2.2.2.1 t ht).2.2.2.2.2]
theorem gC0 (hR : Rl hd zn pa tk cs f) {c : Nat} (h8 : c < 20) (hc : c < cl (f 4)) : fld (sw w b hd zn nm pa tk cs) (b + 43 + c) 4 0 = some (.int (f (305 + 7 * c))) := by
  rw [s_getC h8 (by omega), (hR.2.2.2.2 c hc).1]
theorem gC1 (hR : Rl hd zn pa tk cs f) {c : Nat} (h8 : c < 20) (hc : c < cl (f 4)) : fld (sw w b hd zn nm pa tk cs) (b + 43 + c) 4 1 = some (.int (f (305 + 7 * c + 1))) := by
  rw [s_getC h8 (by omega), (hR.2.2.2.2 c hc).2.1]
theorem gC2 (hR : Rl hd zn pa tk cs f) {c : Nat} (h8 : c < 20) (hc : c < cl (f 4)) : fld (sw w b hd zn nm pa tk cs) (b + 43 + c) 4 2 = some (.int (f (305 + 7 * c + 3))) := by
  rw [s_getC h8 (by omega), (hR.2.2.2.2 c hc).2.2.1]
theorem gC3 (hR : Rl hd zn pa tk cs f) {c : Nat} (h8 : c < 20) (hc : c < cl (f 4)) : fld (sw w b hd zn nm pa tk cs) (b + 43 + c) 4 3 = some (.int (f (305 + 7 * c + 6))) := by
  rw [s_getC h8 (by omega), (hR.2.2.2.2 c hc).2.2.2.1]
theorem gC4 (hR : Rl hd zn pa tk cs f) {c : Nat} (h8 : c < 20) (hc : c < cl (f 4)) : fld (sw w b hd zn nm pa tk cs) (b + 43 + c) 4 4 = some (.int (f (305 + 7 * c + 2))) := by
  rw [s_getC h8 (by omega), (hR.2.2.2.2 c hc).2.2.2.2.1]
theorem gC5 (hR : Rl hd zn pa tk cs f) {c : Nat} (h8 : c < 20) (hc : c < cl (f 4)) : fld (sw w b hd zn nm pa tk cs) (b + 43 + c) 4 5 = some (.int (f (305 + 7 * c + 4))) := by
  rw [s_getC h8 (by omega), (hR.2.2.2.2 c hc).2.2.2.2.2.1]
theorem gC6 (hR : Rl hd zn pa tk cs f) {c : Nat} (h8 : c < 20) (hc : c < cl (f 4)) : fld (sw w b hd zn nm pa tk cs) (b + 43 + c) 4 6 = some (.int (f (305 + 7 * c + 5))) := by
  rw [s_getC h8 (by omega), (hR.2.2.2.2 c hc).2.2.2.2.2.2]
set_option maxRecDepth 100000 in
set_option maxHeartbeats 4000000 in
theorem c_canSell {p k x : Int32} (hB : Bd f) (hR : Rl hd zn pa tk cs f) (hp : vp_in p (cl (f 2))) (hq : Q (mayBuyF f p k x) (sw w b hd zn nm pa tk cs) z) : F_X3_canSell b p k x (sw w b hd zn nm pa tk cs) z Q := by
  have hB1 := clI hB.1
  have hB2 := clI hB.2.1
  have hB3 := clI hB.2.2.1
  have hB4 := clI hB.2.2.2
  have p1 := clI hp
  have p2 := vp_le (m := 8) hp (by omega)
  unfold F_X3_canSell
  repeat' with_reducible (first
    | (refine ⟨s_iH, ?_⟩)
    | (refine ⟨s_iP (by first | assumption | omega | solve_by_elim), ?_⟩)
    | (refine ⟨s_iT (by first | assumption | omega | solve_by_elim), ?_⟩)
    | (refine ⟨s_iC (by first | assumption | omega | solve_by_elim), ?_⟩)
    | (refine ⟨_, s_r8, ?_⟩)
    | (refine ⟨_, s_r9, ?_⟩)
    | (refine ⟨_, s_r10, ?_⟩)
    | (refine ⟨_, s_r11, ?_⟩)
    | (refine s_aP (by first | assumption | omega | solve_by_elim) ?_)
    | (refine s_aT (by first | assumption | omega | solve_by_elim) ?_)
    | (refine s_aC (by first | assumption | omega | solve_by_elim) ?_)
    | (refine ⟨_, gH0 hR, ?_⟩)
    | (refine ⟨_, gH1 hR, ?_⟩)
    | (refine ⟨_, gH2 hR, ?_⟩)
    | (refine ⟨_, gH3 hR, ?_⟩)
    | (refine ⟨_, gH4 hR, ?_⟩)
    | (refine ⟨_, gH5 hR, ?_⟩)
    | (refine ⟨_, gH6 hR, ?_⟩)
    | (refine ⟨_, gH7 hR, ?_⟩)
    | (refine ⟨_, gP1 hR (by first | assumption | omega | solve_by_elim) (by first | assumption | omega | solve_by_elim), ?_⟩)
    | (refine ⟨_, gP4 hR (by first | assumption | omega | solve_by_elim) (by first | assumption | omega | solve_by_elim), ?_⟩)
    | (refine ⟨_, gP5 hR (by first | assumption | omega | solve_by_elim) (by first | assumption | omega | solve_by_elim), ?_⟩)
    | (refine ⟨_, gP6 hR (by first | assumption | omega | solve_by_elim) (by first | assumption | omega | solve_by_elim), ?_⟩)
    | (refine ⟨_, gP2n hR (by first | assumption | omega | solve_by_elim) (by first | assumption | omega | solve_by_elim) (by first | assumption | omega | solve_by_elim), ?_⟩)
    | (refine ⟨_, gP2 hR (by first | assumption | omega | solve_by_elim) (by first | assumption | omega | solve_by_elim) (by first | assumption | omega | solve_by_elim), ?_⟩)
    | (refine ⟨_, gP3 hR (by first | assumption | omega | solve_by_elim) (by first | assumption | omega | solve_by_elim) (by first | assumption | omega | solve_by_elim), ?_⟩)
    | (refine ⟨_, gT0 hR (by first | assumption | omega | solve_by_elim) (by first | assumption | omega | solve_by_elim), ?_⟩)
    | (refine ⟨_, gT1 hR (by first | assumption | omega | solve_by_elim) (by first | assumption | omega | solve_by_elim), ?_⟩)
    | (refine ⟨_, gT2 hR (by first | assumption | omega | solve_by_elim) (by first | assumption | omega | solve_by_elim), ?_⟩)
    | (refine ⟨_, gT3 hR (by first | assumption | omega | solve_by_elim) (by first | assumption | omega | solve_by_elim), ?_⟩)
    | (refine ⟨_, gT4 hR (by first | assumption | omega | solve_by_elim) (by first | assumption | omega | solve_by_elim), ?_⟩)
    | (refine ⟨_, gT5 hR (by first | assumption | omega | solve_by_elim) (by first | assumption | omega | solve_by_elim), ?_⟩)
    | (refine ⟨_, gC0 hR (by first | assumption | omega | solve_by_elim) (by first | assumption | omega | solve_by_elim), ?_⟩)
    | (refine ⟨_, gC1 hR (by first | assumption | omega | solve_by_elim) (by first | assumption | omega | solve_by_elim), ?_⟩)
    | (refine ⟨_, gC2 hR (by first | assumption | omega | solve_by_elim) (by first | assumption | omega | solve_by_elim), ?_⟩)
    | (refine ⟨_, gC3 hR (by first | assumption | omega | solve_by_elim) (by first | assumption | omega | solve_by_elim), ?_⟩)
    | (refine ⟨_, gC4 hR (by first | assumption | omega | solve_by_elim) (by first | assumption | omega | solve_by_elim), ?_⟩)
    | (refine ⟨_, gC5 hR (by first | assumption | omega | solve_by_elim) (by first | assumption | omega | solve_by_elim), ?_⟩)
    | (refine ⟨_, gC6 hR (by first | assumption | omega | solve_by_elim) (by first | assumption | omega | solve_by_elim), ?_⟩)
    | (refine c_price ?_)
    | (rintro _ rfl)
    | (refine ⟨fun hc => ?_, fun hc => ?_⟩ <;> try first | contradiction | exact absurd hc one0)
    | fail)
  all_goals first
    | with_reducible exact hq
    | (simp only [mayBuyF, *, n01, n02, n03, n04, n05, n10, n12, n13, n14, n15, n20, n21, n23, n24, n25, n30, n31, n32, n34, n35, n40, n41, n42, n43, n45, n50, n51, n52, n53, n54, if_true, if_false, ite_true, ite_false, not_true_eq_false, not_false_eq_true, true_and, and_true, and_false, false_and, Nat.add_zero] at hq; with_reducible exact hq)
    | (simp only [mayBuyF, *, n01, n02, n03, n04, n05, n10, n12, n13, n14, n15, n20, n21, n23, n24, n25, n30, n31, n32, n34, n35, n40, n41, n42, n43, n45, n50, n51, n52, n53, n54, if_true, if_false, ite_true, ite_false, not_true_eq_false, not_false_eq_true, true_and, and_true, and_false, false_and, Nat.add_zero] at hq ⊢; try with_reducible exact hq)
set_option maxRecDepth 100000 in
set_option maxHeartbeats 4000000 in
theorem c_canBeginRide {p t : Int32} (hB : Bd f) (hR : Rl hd zn pa tk cs f) (hp : vp_in p (cl (f 2))) (ht : ¬ t = -1 → vp_in t (cl (f 3))) (ht1 : ¬ t = -1 → vp_in t 30) (ht2 : ¬ t = -1 → cl t < cl (f 3)) (ht3 : ¬ t = -1 → cl t < 30) (hq : Q (mayRideF f p t) (sw w b hd zn nm pa tk cs) z) : F_X3_canBeginRide b p t (sw w b hd zn nm pa tk cs) z Q := by
  have hB1 := clI hB.1
  have hB2 := clI hB.2.1
  have hB3 := clI hB.2.2.1
  have hB4 := clI hB.2.2.2
  have p1 := clI hp
  have p2 := vp_le (m := 8) hp (by omega)
  unfold F_X3_canBeginRide F_X2_isOnTram
  repeat' with_reducible (first
    | (refine ⟨s_iH, ?_⟩)
    | (refine ⟨s_iP (by first | assumption | omega | solve_by_elim), ?_⟩)
    | (refine ⟨s_iT (by first | assumption | omega | solve_by_elim), ?_⟩)
    | (refine ⟨s_iC (by first | assumption | omega | solve_by_elim), ?_⟩)
    | (refine ⟨_, s_r8, ?_⟩)
    | (refine ⟨_, s_r9, ?_⟩)
    | (refine ⟨_, s_r10, ?_⟩)
    | (refine ⟨_, s_r11, ?_⟩)
    | (refine s_aP (by first | assumption | omega | solve_by_elim) ?_)
    | (refine s_aT (by first | assumption | omega | solve_by_elim) ?_)
    | (refine s_aC (by first | assumption | omega | solve_by_elim) ?_)
    | (refine ⟨_, gH0 hR, ?_⟩)
    | (refine ⟨_, gH1 hR, ?_⟩)
    | (refine ⟨_, gH2 hR, ?_⟩)
    | (refine ⟨_, gH3 hR, ?_⟩)
    | (refine ⟨_, gH4 hR, ?_⟩)
    | (refine ⟨_, gH5 hR, ?_⟩)
    | (refine ⟨_, gH6 hR, ?_⟩)
    | (refine ⟨_, gH7 hR, ?_⟩)
    | (refine ⟨_, gP1 hR (by first | assumption | omega | solve_by_elim) (by first | assumption | omega | solve_by_elim), ?_⟩)
    | (refine ⟨_, gP4 hR (by first | assumption | omega | solve_by_elim) (by first | assumption | omega | solve_by_elim), ?_⟩)
    | (refine ⟨_, gP5 hR (by first | assumption | omega | solve_by_elim) (by first | assumption | omega | solve_by_elim), ?_⟩)
    | (refine ⟨_, gP6 hR (by first | assumption | omega | solve_by_elim) (by first | assumption | omega | solve_by_elim), ?_⟩)
    | (refine ⟨_, gP2n hR (by first | assumption | omega | solve_by_elim) (by first | assumption | omega | solve_by_elim) (by first | assumption | omega | solve_by_elim), ?_⟩)
    | (refine ⟨_, gP2 hR (by first | assumption | omega | solve_by_elim) (by first | assumption | omega | solve_by_elim) (by first | assumption | omega | solve_by_elim), ?_⟩)
    | (refine ⟨_, gP3 hR (by first | assumption | omega | solve_by_elim) (by first | assumption | omega | solve_by_elim) (by first | assumption | omega | solve_by_elim), ?_⟩)
    | (refine ⟨_, gT0 hR (by first | assumption | omega | solve_by_elim) (by first | assumption | omega | solve_by_elim), ?_⟩)
    | (refine ⟨_, gT1 hR (by first | assumption | omega | solve_by_elim) (by first | assumption | omega | solve_by_elim), ?_⟩)
    | (refine ⟨_, gT2 hR (by first | assumption | omega | solve_by_elim) (by first | assumption | omega | solve_by_elim), ?_⟩)
    | (refine ⟨_, gT3 hR (by first | assumption | omega | solve_by_elim) (by first | assumption | omega | solve_by_elim), ?_⟩)
    | (refine ⟨_, gT4 hR (by first | assumption | omega | solve_by_elim) (by first | assumption | omega | solve_by_elim), ?_⟩)
    | (refine ⟨_, gT5 hR (by first | assumption | omega | solve_by_elim) (by first | assumption | omega | solve_by_elim), ?_⟩)
    | (refine ⟨_, gC0 hR (by first | assumption | omega | solve_by_elim) (by first | assumption | omega | solve_by_elim), ?_⟩)
    | (refine ⟨_, gC1 hR (by first | assumption | omega | solve_by_elim) (by first | assumption | omega | solve_by_elim), ?_⟩)
    | (refine ⟨_, gC2 hR (by first | assumption | omega | solve_by_elim) (by first | assumption | omega | solve_by_elim), ?_⟩)
    | (refine ⟨_, gC3 hR (by first | assumption | omega | solve_by_elim) (by first | assumption | omega | solve_by_elim), ?_⟩)
    | (refine ⟨_, gC4 hR (by first | assumption | omega | solve_by_elim) (by first | assumption | omega | solve_by_elim), ?_⟩)
    | (refine ⟨_, gC5 hR (by first | assumption | omega | solve_by_elim) (by first | assumption | omega | solve_by_elim), ?_⟩)
    | (refine ⟨_, gC6 hR (by first | assumption | omega | solve_by_elim) (by first | assumption | omega | solve_by_elim), ?_⟩)
    | (rintro _ rfl)
    | (refine ⟨fun hc => ?_, fun hc => ?_⟩ <;> try first | contradiction | exact absurd hc one0)
    | fail)
  all_goals first
    | with_reducible exact hq
    | (simp only [mayRideF, *, n01, n02, n03, n04, n05, n10, n12, n13, n14, n15, n20, n21, n23, n24, n25, n30, n31, n32, n34, n35, n40, n41, n42, n43, n45, n50, n51, n52, n53, n54, if_true, if_false, ite_true, ite_false, not_true_eq_false, not_false_eq_true, true_and, and_true, and_false, false_and, Nat.add_zero] at hq; with_reducible exact hq)
    | (simp only [mayRideF, *, n01, n02, n03, n04, n05, n10, n12, n13, n14, n15, n20, n21, n23, n24, n25, n30, n31, n32, n34, n35, n40, n41, n42, n43, n45, n50, n51, n52, n53, n54, if_true, if_false, ite_true, ite_false, not_true_eq_false, not_false_eq_true, true_and, and_true, and_false, false_and, Nat.add_zero] at hq ⊢; try with_reducible exact hq)
theorem c_isStamped {i : Nat} (hi : i < 30) (hq : Q (if tk i 3 = -1 then 0 else 1) (sw w b hd zn nm pa tk cs) z) : F_X4_isStamped (b + 13 + i) (sw w b hd zn nm pa tk cs) z Q := by
  refine ⟨_, s_getT (k := 3) hi (by omega), fun hc => ?_, fun hc => ?_⟩
  · rw [if_pos hc] at hq
    exact hq
  · rw [if_neg hc] at hq
    exact hq
theorem c_dayOf {x : Int32} {w : Mm} (hq : Q (x / 1440) w z) : F_X5_dayOf x w z Q := hq

set_option maxRecDepth 100000 in
set_option maxHeartbeats 4000000 in
theorem c_inTimeAt {t : Int32} (hB : Bd f) (hR : Rl hd zn pa tk cs f) (ht : vp_in t (cl (f 3))) (hk : f (125 + 6 * cl t + 1) = 0 ∨ f (125 + 6 * cl t + 1) = 1 ∨ f (125 + 6 * cl t + 1) = 2) (hq : Q (inTimeF f t) (sw w b hd zn nm pa tk cs) z) : F_X4_inTimeAt (b + 13 + cl t) (f 0) (sw w b hd zn nm pa tk cs) z Q := by
  have hB1 := clI hB.1
  have hB2 := clI hB.2.1
  have hB3 := clI hB.2.2.1
  have hB4 := clI hB.2.2.2
  have t1 := clI ht
  have t2 := vp_le (m := 30) ht (by omega)
  unfold F_X4_inTimeAt F_X4_isStamped B_X4_inTimeAt_58
  repeat' with_reducible (first
    | (refine ⟨s_iH, ?_⟩)
    | (refine ⟨s_iP (by first | assumption | omega | solve_by_elim), ?_⟩)
    | (refine ⟨s_iT (by first | assumption | omega | solve_by_elim), ?_⟩)
    | (refine ⟨s_iC (by first | assumption | omega | solve_by_elim), ?_⟩)
    | (refine ⟨_, s_r8, ?_⟩)
    | (refine ⟨_, s_r9, ?_⟩)
    | (refine ⟨_, s_r10, ?_⟩)
    | (refine ⟨_, s_r11, ?_⟩)
    | (refine s_aP (by first | assumption | omega | solve_by_elim) ?_)
    | (refine s_aT (by first | assumption | omega | solve_by_elim) ?_)
    | (refine s_aC (by first | assumption | omega | solve_by_elim) ?_)
    | (refine ⟨_, gH0 hR, ?_⟩)
    | (refine ⟨_, gH1 hR, ?_⟩)
    | (refine ⟨_, gH2 hR, ?_⟩)
    | (refine ⟨_, gH3 hR, ?_⟩)
    | (refine ⟨_, gH4 hR, ?_⟩)
    | (refine ⟨_, gH5 hR, ?_⟩)
    | (refine ⟨_, gH6 hR, ?_⟩)
    | (refine ⟨_, gH7 hR, ?_⟩)
    | (refine ⟨_, gP1 hR (by first | assumption | omega | solve_by_elim) (by first | assumption | omega | solve_by_elim), ?_⟩)
    | (refine ⟨_, gP4 hR (by first | assumption | omega | solve_by_elim) (by first | assumption | omega | solve_by_elim), ?_⟩)
    | (refine ⟨_, gP5 hR (by first | assumption | omega | solve_by_elim) (by first | assumption | omega | solve_by_elim), ?_⟩)
    | (refine ⟨_, gP6 hR (by first | assumption | omega | solve_by_elim) (by first | assumption | omega | solve_by_elim), ?_⟩)
    | (refine ⟨_, gP2n hR (by first | assumption | omega | solve_by_elim) (by first | assumption | omega | solve_by_elim) (by first | assumption | omega | solve_by_elim), ?_⟩)
    | (refine ⟨_, gP2 hR (by first | assumption | omega | solve_by_elim) (by first | assumption | omega | solve_by_elim) (by first | assumption | omega | solve_by_elim), ?_⟩)
    | (refine ⟨_, gP3 hR (by first | assumption | omega | solve_by_elim) (by first | assumption | omega | solve_by_elim) (by first | assumption | omega | solve_by_elim), ?_⟩)
    | (refine ⟨_, gT0 hR (by first | assumption | omega | solve_by_elim) (by first | assumption | omega | solve_by_elim), ?_⟩)
    | (refine ⟨_, gT1 hR (by first | assumption | omega | solve_by_elim) (by first | assumption | omega | solve_by_elim), ?_⟩)
    | (refine ⟨_, gT2 hR (by first | assumption | omega | solve_by_elim) (by first | assumption | omega | solve_by_elim), ?_⟩)
    | (refine ⟨_, gT3 hR (by first | assumption | omega | solve_by_elim) (by first | assumption | omega | solve_by_elim), ?_⟩)
    | (refine ⟨_, gT4 hR (by first | assumption | omega | solve_by_elim) (by first | assumption | omega | solve_by_elim), ?_⟩)
    | (refine ⟨_, gT5 hR (by first | assumption | omega | solve_by_elim) (by first | assumption | omega | solve_by_elim), ?_⟩)
    | (refine ⟨_, gC0 hR (by first | assumption | omega | solve_by_elim) (by first | assumption | omega | solve_by_elim), ?_⟩)
    | (refine ⟨_, gC1 hR (by first | assumption | omega | solve_by_elim) (by first | assumption | omega | solve_by_elim), ?_⟩)
    | (refine ⟨_, gC2 hR (by first | assumption | omega | solve_by_elim) (by first | assumption | omega | solve_by_elim), ?_⟩)
    | (refine ⟨_, gC3 hR (by first | assumption | omega | solve_by_elim) (by first | assumption | omega | solve_by_elim), ?_⟩)
    | (refine ⟨_, gC4 hR (by first | assumption | omega | solve_by_elim) (by first | assumption | omega | solve_by_elim), ?_⟩)
    | (refine ⟨_, gC5 hR (by first | assumption | omega | solve_by_elim) (by first | assumption | omega | solve_by_elim), ?_⟩)
    | (refine ⟨_, gC6 hR (by first | assumption | omega | solve_by_elim) (by first | assumption | omega | solve_by_elim), ?_⟩)
    | (refine c_dayOf ?_)
    | (rintro _ rfl)
    | (refine ⟨fun hc => ?_, fun hc => ?_⟩ <;> try first | contradiction | exact absurd hc one0)
    | fail)
  all_goals first
    | with_reducible exact hq
    | (rcases hk with hk | hk | hk <;> simp_all [inTimeF])
set_option maxRecDepth 100000 in
set_option maxHeartbeats 4000000 in
theorem c_hasZones {t m : Int32} (hB : Bd f) (hR : Rl hd zn pa tk cs f) (ht : vp_in t (cl (f 3))) (hq : Q (coversI (f (125 + 6 * cl t + 2)) m) (sw w b hd zn nm pa tk cs) z) : F_X4_hasZones (b + 13 + cl t) m (sw w b hd zn nm pa tk cs) z Q := by
  have hB1 := clI hB.1
  have hB2 := clI hB.2.1
  have hB3 := clI hB.2.2.1
  have hB4 := clI hB.2.2.2
  have t1 := clI ht
  have t2 := vp_le (m := 30) ht (by omega)
  unfold F_X4_hasZones
  repeat' with_reducible (first
    | (refine ⟨s_iH, ?_⟩)
    | (refine ⟨s_iP (by first | assumption | omega | solve_by_elim), ?_⟩)
    | (refine ⟨s_iT (by first | assumption | omega | solve_by_elim), ?_⟩)
    | (refine ⟨s_iC (by first | assumption | omega | solve_by_elim), ?_⟩)
    | (refine ⟨_, s_r8, ?_⟩)
    | (refine ⟨_, s_r9, ?_⟩)
    | (refine ⟨_, s_r10, ?_⟩)
    | (refine ⟨_, s_r11, ?_⟩)
    | (refine s_aP (by first | assumption | omega | solve_by_elim) ?_)
    | (refine s_aT (by first | assumption | omega | solve_by_elim) ?_)
    | (refine s_aC (by first | assumption | omega | solve_by_elim) ?_)
    | (refine ⟨_, gH0 hR, ?_⟩)
    | (refine ⟨_, gH1 hR, ?_⟩)
    | (refine ⟨_, gH2 hR, ?_⟩)
    | (refine ⟨_, gH3 hR, ?_⟩)
    | (refine ⟨_, gH4 hR, ?_⟩)
    | (refine ⟨_, gH5 hR, ?_⟩)
    | (refine ⟨_, gH6 hR, ?_⟩)
    | (refine ⟨_, gH7 hR, ?_⟩)
    | (refine ⟨_, gP1 hR (by first | assumption | omega | solve_by_elim) (by first | assumption | omega | solve_by_elim), ?_⟩)
    | (refine ⟨_, gP4 hR (by first | assumption | omega | solve_by_elim) (by first | assumption | omega | solve_by_elim), ?_⟩)
    | (refine ⟨_, gP5 hR (by first | assumption | omega | solve_by_elim) (by first | assumption | omega | solve_by_elim), ?_⟩)
    | (refine ⟨_, gP6 hR (by first | assumption | omega | solve_by_elim) (by first | assumption | omega | solve_by_elim), ?_⟩)
    | (refine ⟨_, gP2n hR (by first | assumption | omega | solve_by_elim) (by first | assumption | omega | solve_by_elim) (by first | assumption | omega | solve_by_elim), ?_⟩)
    | (refine ⟨_, gP2 hR (by first | assumption | omega | solve_by_elim) (by first | assumption | omega | solve_by_elim) (by first | assumption | omega | solve_by_elim), ?_⟩)
    | (refine ⟨_, gP3 hR (by first | assumption | omega | solve_by_elim) (by first | assumption | omega | solve_by_elim) (by first | assumption | omega | solve_by_elim), ?_⟩)
    | (refine ⟨_, gT0 hR (by first | assumption | omega | solve_by_elim) (by first | assumption | omega | solve_by_elim), ?_⟩)
    | (refine ⟨_, gT1 hR (by first | assumption | omega | solve_by_elim) (by first | assumption | omega | solve_by_elim), ?_⟩)
    | (refine ⟨_, gT2 hR (by first | assumption | omega | solve_by_elim) (by first | assumption | omega | solve_by_elim), ?_⟩)
    | (refine ⟨_, gT3 hR (by first | assumption | omega | solve_by_elim) (by first | assumption | omega | solve_by_elim), ?_⟩)
    | (refine ⟨_, gT4 hR (by first | assumption | omega | solve_by_elim) (by first | assumption | omega | solve_by_elim), ?_⟩)
    | (refine ⟨_, gT5 hR (by first | assumption | omega | solve_by_elim) (by first | assumption | omega | solve_by_elim), ?_⟩)
    | (refine ⟨_, gC0 hR (by first | assumption | omega | solve_by_elim) (by first | assumption | omega | solve_by_elim), ?_⟩)
    | (refine ⟨_, gC1 hR (by first | assumption | omega | solve_by_elim) (by first | assumption | omega | solve_by_elim), ?_⟩)
    | (refine ⟨_, gC2 hR (by first | assumption | omega | solve_by_elim) (by first | assumption | omega | solve_by_elim), ?_⟩)
    | (refine ⟨_, gC3 hR (by first | assumption | omega | solve_by_elim) (by first | assumption | omega | solve_by_elim), ?_⟩)
    | (refine ⟨_, gC4 hR (by first | assumption | omega | solve_by_elim) (by first | assumption | omega | solve_by_elim), ?_⟩)
    | (refine ⟨_, gC5 hR (by first | assumption | omega | solve_by_elim) (by first | assumption | omega | solve_by_elim), ?_⟩)
    | (refine ⟨_, gC6 hR (by first | assumption | omega | solve_by_elim) (by first | assumption | omega | solve_by_elim), ?_⟩)
    | (rintro _ rfl)
    | (refine ⟨fun hc => ?_, fun hc => ?_⟩ <;> try first | contradiction | exact absurd hc one0)
    | fail)
  all_goals first
    | with_reducible exact hq
    | (simp only [coversI, *, n01, n02, n03, n04, n05, n10, n12, n13, n14, n15, n20, n21, n23, n24, n25, n30, n31, n32, n34, n35, n40, n41, n42, n43, n45, n50, n51, n52, n53, n54, if_true, if_false, ite_true, ite_false, not_true_eq_false, not_false_eq_true, true_and, and_true, and_false, false_and, Nat.add_zero] at hq; with_reducible exact hq)
    | (simp only [coversI, *, n01, n02, n03, n04, n05, n10, n12, n13, n14, n15, n20, n21, n23, n24, n25, n30, n31, n32, n34, n35, n40, n41, n42, n43, n45, n50, n51, n52, n53, n54, if_true, if_false, ite_true, ite_false, not_true_eq_false, not_false_eq_true, true_and, and_true, and_false, false_and, Nat.add_zero] at hq ⊢; try with_reducible exact hq)
theorem c_zones_16 {a1 a2 mx : Int32} {n1 : Nat} (hz : ∀ i, i < n1 → zn i = f (9 + i)) (hn : n1 ≤ 12) (hb : mx.toInt < n1) : ∀ (n : Nat) (x st : Int32), mx.toInt + 1 = st.toInt + n → 0 ≤ st.toInt → Q (zonesR f n x st) (sw w b hd zn nm pa tk cs) z → B_X3_rideZones_16 b a1 a2 Q (n + 1) x mx st (sw w b hd zn nm pa tk cs) z := by
  intro n
  induction n with
  | zero =>
    intro x st h1 h2 hq
    unfold B_X3_rideZones_16
    exact ⟨fun _ => hq, fun hc => absurd (ilt.mpr (by omega)) hc⟩
  | succ n ih =>
    intro x st h1 h2 hq
    unfold B_X3_rideZones_16
    refine ⟨fun hc => absurd (ilt.mp hc) (by omega), fun hc => ?_⟩
    have hv : vp_in st 12 := vp_in_iff.mpr (by omega)
    have hi := clI hv
    refine ⟨_, s_r8, _, _, s_zn, hv, ?_⟩
    rintro _ rfl
    have e1 : (st + 1).toInt = st.toInt + 1 := by
      rw [ia _ _ (by rw [i_1]; omega) (by rw [i_1]; omega), i_1]
    rw [show zn st.toNatClampNeg = _ from hz (cl st) (by omega)]
    exact ih _ _ (by omega) (by omega) hq
theorem c_zones {a c : Int32} {n1 : Nat} (hz : ∀ i, i < n1 → zn i = f (9 + i)) (hn : n1 ≤ 12) (ha : vp_in a n1) (hb : vp_in c n1) (hq : Q (zonesF f a c) (sw w b hd zn nm pa tk cs) z) : F_X3_rideZones b a c (sw w b hd zn nm pa tk cs) z Q := by
  have h1 := vp_in_iff.mp ha
  have h2 := vp_in_iff.mp hb
  have h3 := jmax_I a c
  have h4 := jmin_I a c
  unfold F_X3_rideZones
  rintro _ rfl _ rfl
  refine ⟨cl (jmax a c) + 1 - cl (jmin a c) + 1, c_zones_16 hz hn (by omega) _ _ _ ?_ (by omega) hq⟩
  rw [cl_eq, cl_eq]
  omega
/-- the tickets' kinds, and what a ride names -/
def Rd (f : Nat → Int32) : Prop := (∀ t, t < cl (f 3) → f (125 + 6 * t + 1) = 0 ∨ f (125 + 6 * t + 1) = 1 ∨ f (125 + 6 * t + 1) = 2) ∧
  (∀ p, p < cl (f 2) → ¬ f (21 + 13 * p + 3) = -1 → vp_in (f (21 + 13 * p + 1)) (cl (f 1)) ∧ vp_in (f (21 + 13 * p + 2)) (cl (f 1)) ∧ (¬ f (21 + 13 * p + 4) = -1 → vp_in (f (21 + 13 * p + 4)) (cl (f 3))))
theorem vp_m1 {x : Int32} {n : Nat} (h : vp_in x n) : ¬ x = -1 := by
  rintro rfl
  have := (vp_in_iff.mp h).1
  rw [i_m1] at this
  omega

set_option maxRecDepth 100000 in
set_option maxHeartbeats 4000000 in
theorem c_findFault {p : Int32} (hB : Bd f) (hR : Rl hd zn pa tk cs f) (hp : vp_in p (cl (f 2))) (hD : Rd f) (hq : Q (faultF f p) (sw w b hd zn nm pa tk cs) z) : F_X3_findFault b p (sw w b hd zn nm pa tk cs) z Q := by
  have hB1 := clI hB.1
  have hB2 := clI hB.2.1
  have hB3 := clI hB.2.2.1
  have hB4 := clI hB.2.2.2
  have p1 := clI hp
  have p2 := vp_le (m := 8) hp (by omega)
  unfold F_X3_findFault
  unfold faultF at hq
  have p3 : cl p < 8 := by omega
  refine ⟨_, s_r9, s_aP p2 ?_⟩
  by_cases he : f (21 + 13 * cl p + 3) = -1
  · simp only [if_pos he] at hq
    exact ⟨_, gP2n hR p3 p1.2 he, fun h => absurd rfl h, fun _ => hq⟩
  · simp only [if_neg he] at hq
    have hd1 := hD.2 (cl p) p1.2 he
    have hm := vp_m1 hd1.1
    refine ⟨_, gP2 hR p3 p1.2 he, fun _ => ⟨_, gP5 hR p3 p1.2, fun h2 => ?_, fun h2 => ?_⟩, fun h => absurd h hm⟩
    · simp only [if_neg h2] at hq
      have hd2 := hd1.2.2 h2
      have hd3 := clI hd2
      have hd4 := vp_le (m := 30) hd2 (by omega)
      have hd5 : cl (f (21 + 13 * cl p + 4)) < 30 := by omega
      have hkk := hD.1 _ hd3.2
      refine ⟨_, s_r10, _, gP5 hR p3 p1.2, s_aT hd4 ⟨_, gH0 hR, s_iT hd5, c_inTimeAt hB hR hd2 hkk ⟨fun h3 => ?_, fun h3 => ?_⟩⟩⟩
      · rw [if_neg h3] at hq
        refine ⟨_, gP2 hR p3 p1.2 he, _, gP3 hR p3 p1.2 he, s_iH, c_zones hR.2.1 (by omega) hd1.1 hd1.2.1 ⟨s_iT hd5, c_hasZones hB hR hd2 ⟨fun h4 => ?_, fun h4 => ?_⟩⟩⟩
        · rw [if_neg h4] at hq
          have k88 : ∀ hq : Q (if f (125 + 6 * cl (f (21 + 13 * cl p + 4)) + 1) = 2 ∧ ¬ jabs (f (21 + 13 * cl p + 2) - f (125 + 6 * cl (f (21 + 13 * cl p + 4)) + 4)) ≤ 4 then 5 else 0) (sw w b hd zn nm pa tk cs) z, B_X3_findFault_88 b p Q (b + 5 + cl p) (b + 13 + cl (f (21 + 13 * cl p + 4))) (sw w b hd zn nm pa tk cs) z := by
            intro hq
            refine ⟨_, gT1 hR hd5 hd3.2, fun h5 => ?_, fun h5 => ⟨_, gP3 hR p3 p1.2 he, _, gT4 hR hd5 hd3.2, fun h6 => ?_, fun h6 => ?_⟩⟩
            · rw [if_neg (fun x => h5 x.1)] at hq
              exact hq
            · rw [if_neg (fun x => x.2 h6)] at hq
              exact hq
            · rw [if_pos ⟨h5, h6⟩] at hq
              exact hq
          refine ⟨_, gT1 hR hd5 hd3.2, fun h5 => ?_, fun h5 => ⟨_, gT5 hR hd5 hd3.2, fun h6 => ?_, fun h6 => ?_⟩⟩
          · rw [if_neg (fun x => h5 x.1)] at hq
            exact k88 hq
          · rw [if_neg (fun x => x.2 h6)] at hq
            exact k88 hq
          · rw [if_pos ⟨h5, h6⟩] at hq
            exact hq
        · rw [if_pos h4] at hq
          exact hq
      · rw [if_pos h3] at hq
        exact hq
    · simp only [if_pos h2] at hq
      exact hq
end
