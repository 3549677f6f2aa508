def F_L_truncateInput (a0 : Nat) (a1 : Int32) (a2 : Nat) (w : Mm) (z : Nat) (mc ms : Nat) (Q : Int32 → Mm → Nat → Prop) : Prop :=
  isO w a0 9 ∧ ∃ k5 k6, k5 ≤ mc ∧ k6 ≤ ms ∧ F_X5_truncateInput a0 a1 w z k5 k6 (fun r2 w3 z4 => ∃ n11 f10, arL w3 a2 = some (n11, f10) ∧ vp_in 0 n11 ∧ ∀ w12, w12 = mset w3 a2 (.inr (3, n11, .inr (.inl (vp_updL f10 (0 : Int32).toNatClampNeg ((r2 : Int32).toInt64))))) → Q 0 w12 z4) (fun E7 w8 z9 => (E7 = "java/lang/IllegalArgumentException" → Q 1 w8 z9) ∧ (¬ E7 = "java/lang/IllegalArgumentException" → False))
set_option maxRecDepth 100000 in
set_option maxHeartbeats 4000000 in
theorem ct_L_truncateInput {l : Launch} {g : Gp} {d : Nat} (hst : l.stackTraces = false) {a0 : Nat} {a1 : Int32} {a2 : Nat} {w : Mm} {z mc ms : Nat} {Q : Int32 → Mm → Nat → Prop} {X : String → Mm → Nat → Prop} (h : F_L_truncateInput a0 a1 a2 w z mc ms Q) : Ct l g yL_truncateInput (.codeWith yL_truncateInput cL_truncateInput 4 (some .int) [(0, 9, 12, 13)]) (d + 7) mc ms [.ref (a0), .int (a1), .ref (a2)] w z (rI Q) X := by
  refine Ct.ofH hst (by decide) (Nat.le_of_ble_eq_true rfl) (fun C hX hE hg hl hNm => ?_)
  subst hg
  subst hl
  unfold F_L_truncateInput at h
  show VW C 0 [(0, .ref (a0)), (1, .int (a1)), (2, .ref (a2))] [] w z mc ms
  refine vw_aload_n hX 2 dL_truncateInput_0 rfl ?_
  refine vw_iconst hX (v := 0) dL_truncateInput_1 (by decide) ?_
  refine vw_aload_n hX 0 dL_truncateInput_2 rfl ?_
  refine vw_iload_n hX 1 dL_truncateInput_3 rfl ?_
  obtain ⟨hr1, h⟩ := h
  obtain ⟨k5, k6, hm1, hm2, h⟩ := h
  refine s_L_7 hX hr1 dL_truncateInput_4 (Nat.le_of_ble_eq_true rfl) hm1 hm2 (ct_X5_truncateInput (d := d + 0) (lst hX) h) (fun r2 w3 z4 h => ?_) (fun E7 w8 z9 h => ?_)
  · skip
    refine vw_i2l hX dL_truncateInput_7 ?_
    obtain ⟨n11, f10, hf10, hif10, h⟩ := h
    refine vw_last hX hf10 hif10 dL_truncateInput_8 ?_
    refine vw_nmW (fun w12 ew12 => ?_)
    have h := h w12 ew12
    refine vw_goto hX (tgt := 15) dL_truncateInput_9 (by decide) ?_
    refine vw_iconst hX (v := 0) dL_truncateInput_15 (by decide) ?_
    exact vw_iret hX hE dL_truncateInput_16 ⟨_, rfl, h⟩
  · skip
    by_cases c0 : E7 = "java/lang/IllegalArgumentException"
    · have h9 := h.1 c0
      clear h
      have h := h9
      clear h9
      subst c0
      refine vw_catch hX [] [] rfl (fun _ hq => absurd hq List.not_mem_nil) ⟨by decide, by decide⟩ (by decide) kw_1203 (by decide +kernel) (fun u => ?_)
      refine vw_astore_n hX dL_truncateInput_12 (by decide) rfl ?_
      refine vw_iconst hX (v := 1) dL_truncateInput_13 (by decide) ?_
      exact vw_iret hX hE dL_truncateInput_14 ⟨_, rfl, h⟩
    replace h := h.2 c0
    exact h.elim
def F_L_buy (a0 : Nat) (a1 : Int32) (a2 : Int32) (a3 : Int32) (a4 : Nat) (w : Mm) (z : Nat) (mc ms : Nat) (Q : Int32 → Mm → Nat → Prop) : Prop :=
  isO w a0 9 ∧ ∃ k5 k6, k5 ≤ mc ∧ k6 ≤ ms ∧ F_X5_buy a0 a1 a2 a3 w z k5 k6 (fun r2 w3 z4 => ∃ n11 f10, arL w3 a4 = some (n11, f10) ∧ vp_in 0 n11 ∧ ∀ w12, w12 = mset w3 a4 (.inr (3, n11, .inr (.inl (vp_updL f10 (0 : Int32).toNatClampNeg ((r2 : Int32).toInt64))))) → Q 0 w12 z4) (fun E7 w8 z9 => (E7 = "java/lang/IndexOutOfBoundsException" → Q 1 w8 z9) ∧ (¬ E7 = "java/lang/IndexOutOfBoundsException" → (E7 = "java/lang/IllegalArgumentException" → Q 2 w8 z9) ∧ (¬ E7 = "java/lang/IllegalArgumentException" → (E7 = "java/lang/IllegalStateException" → Q 3 w8 z9) ∧ (¬ E7 = "java/lang/IllegalStateException" → False))))
set_option maxRecDepth 100000 in
set_option maxHeartbeats 4000000 in
theorem ct_L_buy {l : Launch} {g : Gp} {d : Nat} (hst : l.stackTraces = false) {a0 : Nat} {a1 : Int32} {a2 : Int32} {a3 : Int32} {a4 : Nat} {w : Mm} {z mc ms : Nat} {Q : Int32 → Mm → Nat → Prop} {X : String → Mm → Nat → Prop} (h : F_L_buy a0 a1 a2 a3 a4 w z mc ms Q) : Ct l g yL_buy (.codeWith yL_buy cL_buy 6 (some .int) [(0, 12, 15, 19), (0, 12, 19, 13), (0, 12, 23, 21)]) (d + 8) mc ms [.ref (a0), .int (a1), .int (a2), .int (a3), .ref (a4)] w z (rI Q) X := by
  refine Ct.ofH hst (by decide) (Nat.le_of_ble_eq_true rfl) (fun C hX hE hg hl hNm => ?_)
  subst hg
  subst hl
  unfold F_L_buy at h
  show VW C 0 [(0, .ref (a0)), (1, .int (a1)), (2, .int (a2)), (3, .int (a3)), (4, .ref (a4))] [] w z mc ms
  refine vw_aload hX 4 dL_buy_0 rfl ?_
  refine vw_iconst hX (v := 0) dL_buy_2 (by decide) ?_
  refine vw_aload_n hX 0 dL_buy_3 rfl ?_
  refine vw_iload_n hX 1 dL_buy_4 rfl ?_
  refine vw_iload_n hX 2 dL_buy_5 rfl ?_
  refine vw_iload_n hX 3 dL_buy_6 rfl ?_
  obtain ⟨hr1, h⟩ := h
  obtain ⟨k5, k6, hm1, hm2, h⟩ := h
  refine s_L_15 hX hr1 dL_buy_7 (Nat.le_of_ble_eq_true rfl) hm1 hm2 (ct_X5_buy (d := d + 0) (lst hX) h) (fun r2 w3 z4 h => ?_) (fun E7 w8 z9 h => ?_)
  · skip
    refine vw_i2l hX dL_buy_10 ?_
    obtain ⟨n11, f10, hf10, hif10, h⟩ := h
    refine vw_last hX hf10 hif10 dL_buy_11 ?_
    refine vw_nmW (fun w12 ew12 => ?_)
    have h := h w12 ew12
    refine vw_goto hX (tgt := 27) dL_buy_12 (by decide) ?_
    refine vw_iconst hX (v := 0) dL_buy_27 (by decide) ?_
    exact vw_iret hX hE dL_buy_28 ⟨_, rfl, h⟩
  · skip
    by_cases c0 : E7 = "java/lang/IndexOutOfBoundsException"
    · have h9 := h.1 c0
      clear h
      have h := h9
      clear h9
      subst c0
      refine vw_catch hX [] [(0, 12, 19, 13), (0, 12, 23, 21)] rfl (fun _ hq => absurd hq List.not_mem_nil) ⟨by decide, by decide⟩ (by decide) kw_1214 (by decide +kernel) (fun u => ?_)
      refine vw_astore hX dL_buy_15 (by decide) rfl ?_
      refine vw_iconst hX (v := 1) dL_buy_17 (by decide) ?_
      exact vw_iret hX hE dL_buy_18 ⟨_, rfl, h⟩
    replace h := h.2 c0
    by_cases c1 : E7 = "java/lang/IllegalArgumentException"
    · have h9 := h.1 c1
      clear h
      have h := h9
      clear h9
      subst c1
      refine vw_catch hX [(0, 12, 15, 19)] [(0, 12, 23, 21)] rfl (fun q hq => by obtain rfl := List.mem_singleton.mp hq; exact ⟨by decide, "java/lang/IndexOutOfBoundsException", kw_1214, by decide +kernel⟩) ⟨by decide, by decide⟩ (by decide) kw_1203 (by decide +kernel) (fun u => ?_)
      refine vw_astore hX dL_buy_19 (by decide) rfl ?_
      refine vw_iconst hX (v := 2) dL_buy_21 (by decide) ?_
      exact vw_iret hX hE dL_buy_22 ⟨_, rfl, h⟩
    replace h := h.2 c1
    by_cases c2 : E7 = "java/lang/IllegalStateException"
    · have h9 := h.1 c2
      clear h
      have h := h9
      clear h9
      subst c2
      refine vw_catch hX [(0, 12, 15, 19), (0, 12, 19, 13)] [] rfl (fun q hq => by rcases List.mem_cons.mp hq with rfl | hq; exact ⟨by decide, "java/lang/IndexOutOfBoundsException", kw_1214, by decide +kernel⟩; obtain rfl := List.mem_singleton.mp hq; exact ⟨by decide, "java/lang/IllegalArgumentException", kw_1203, by decide +kernel⟩) ⟨by decide, by decide⟩ (by decide) kw_1215 (by decide +kernel) (fun u => ?_)
      refine vw_astore hX dL_buy_23 (by decide) rfl ?_
      refine vw_iconst hX (v := 3) dL_buy_25 (by decide) ?_
      exact vw_iret hX hE dL_buy_26 ⟨_, rfl, h⟩
    replace h := h.2 c2
    exact h.elim
def F_L_ride (a0 : Nat) (a1 : Int32) (a2 : Int32) (a3 : Int32) (a4 : Int32) (a5 : Nat) (w : Mm) (z : Nat) (mc ms : Nat) (Q : Int32 → Mm → Nat → Prop) : Prop :=
  isO w a0 9 ∧ ∃ k5 k6, k5 ≤ mc ∧ k6 ≤ ms ∧ F_X5_ride a0 a1 a2 a3 a4 w z k5 k6 (fun r2 w3 z4 => ∃ n11 f10, arL w3 a5 = some (n11, f10) ∧ vp_in 0 n11 ∧ ∀ w12, w12 = mset w3 a5 (.inr (3, n11, .inr (.inl (vp_updL f10 (0 : Int32).toNatClampNeg ((r2 : Int32).toInt64))))) → Q 0 w12 z4) (fun E7 w8 z9 => (E7 = "java/lang/IndexOutOfBoundsException" → Q 1 w8 z9) ∧ (¬ E7 = "java/lang/IndexOutOfBoundsException" → (E7 = "java/lang/IllegalArgumentException" → Q 2 w8 z9) ∧ (¬ E7 = "java/lang/IllegalArgumentException" → (E7 = "java/lang/IllegalStateException" → Q 3 w8 z9) ∧ (¬ E7 = "java/lang/IllegalStateException" → False))))
set_option maxRecDepth 100000 in
set_option maxHeartbeats 4000000 in
theorem ct_L_ride {l : Launch} {g : Gp} {d : Nat} (hst : l.stackTraces = false) {a0 : Nat} {a1 : Int32} {a2 : Int32} {a3 : Int32} {a4 : Int32} {a5 : Nat} {w : Mm} {z mc ms : Nat} {Q : Int32 → Mm → Nat → Prop} {X : String → Mm → Nat → Prop} (h : F_L_ride a0 a1 a2 a3 a4 a5 w z mc ms Q) : Ct l g yL_ride (.codeWith yL_ride cL_ride 7 (some .int) [(0, 14, 17, 19), (0, 14, 21, 13), (0, 14, 25, 21)]) (d + 8) mc ms [.ref (a0), .int (a1), .int (a2), .int (a3), .int (a4), .ref (a5)] w z (rI Q) X := by
  refine Ct.ofH hst (by decide) (Nat.le_of_ble_eq_true rfl) (fun C hX hE hg hl hNm => ?_)
  subst hg
  subst hl
  unfold F_L_ride at h
  show VW C 0 [(0, .ref (a0)), (1, .int (a1)), (2, .int (a2)), (3, .int (a3)), (4, .int (a4)), (5, .ref (a5))] [] w z mc ms
  refine vw_aload hX 5 dL_ride_0 rfl ?_
  refine vw_iconst hX (v := 0) dL_ride_2 (by decide) ?_
  refine vw_aload_n hX 0 dL_ride_3 rfl ?_
  refine vw_iload_n hX 1 dL_ride_4 rfl ?_
  refine vw_iload_n hX 2 dL_ride_5 rfl ?_
  refine vw_iload_n hX 3 dL_ride_6 rfl ?_
  refine vw_iload hX 4 dL_ride_7 rfl ?_
  obtain ⟨hr1, h⟩ := h
  obtain ⟨k5, k6, hm1, hm2, h⟩ := h
  refine s_L_23 hX hr1 dL_ride_9 (Nat.le_of_ble_eq_true rfl) hm1 hm2 (ct_X5_ride (d := d + 0) (lst hX) h) (fun r2 w3 z4 h => ?_) (fun E7 w8 z9 h => ?_)
  · skip
    refine vw_i2l hX dL_ride_12 ?_
    obtain ⟨n11, f10, hf10, hif10, h⟩ := h
    refine vw_last hX hf10 hif10 dL_ride_13 ?_
    refine vw_nmW (fun w12 ew12 => ?_)
    have h := h w12 ew12
    refine vw_goto hX (tgt := 29) dL_ride_14 (by decide) ?_
    refine vw_iconst hX (v := 0) dL_ride_29 (by decide) ?_
    exact vw_iret hX hE dL_ride_30 ⟨_, rfl, h⟩
  · skip
    by_cases c0 : E7 = "java/lang/IndexOutOfBoundsException"
    · have h9 := h.1 c0
      clear h
      have h := h9
      clear h9
      subst c0
      refine vw_catch hX [] [(0, 14, 21, 13), (0, 14, 25, 21)] rfl (fun _ hq => absurd hq List.not_mem_nil) ⟨by decide, by decide⟩ (by decide) kw_1214 (by decide +kernel) (fun u => ?_)
      refine vw_astore hX dL_ride_17 (by decide) rfl ?_
      refine vw_iconst hX (v := 1) dL_ride_19 (by decide) ?_
      exact vw_iret hX hE dL_ride_20 ⟨_, rfl, h⟩
    replace h := h.2 c0
    by_cases c1 : E7 = "java/lang/IllegalArgumentException"
    · have h9 := h.1 c1
      clear h
      have h := h9
      clear h9
      subst c1
      refine vw_catch hX [(0, 14, 17, 19)] [(0, 14, 25, 21)] rfl (fun q hq => by obtain rfl := List.mem_singleton.mp hq; exact ⟨by decide, "java/lang/IndexOutOfBoundsException", kw_1214, by decide +kernel⟩) ⟨by decide, by decide⟩ (by decide) kw_1203 (by decide +kernel) (fun u => ?_)
      refine vw_astore hX dL_ride_21 (by decide) rfl ?_
      refine vw_iconst hX (v := 2) dL_ride_23 (by decide) ?_
      exact vw_iret hX hE dL_ride_24 ⟨_, rfl, h⟩
    replace h := h.2 c1
    by_cases c2 : E7 = "java/lang/IllegalStateException"
    · have h9 := h.1 c2
      clear h
      have h := h9
      clear h9
      subst c2
      refine vw_catch hX [(0, 14, 17, 19), (0, 14, 21, 13)] [] rfl (fun q hq => by rcases List.mem_cons.mp hq with rfl | hq; exact ⟨by decide, "java/lang/IndexOutOfBoundsException", kw_1214, by decide +kernel⟩; obtain rfl := List.mem_singleton.mp hq; exact ⟨by decide, "java/lang/IllegalArgumentException", kw_1203, by decide +kernel⟩) ⟨by decide, by decide⟩ (by decide) kw_1215 (by decide +kernel) (fun u => ?_)
      refine vw_astore hX dL_ride_25 (by decide) rfl ?_
      refine vw_iconst hX (v := 3) dL_ride_27 (by decide) ?_
      exact vw_iret hX hE dL_ride_28 ⟨_, rfl, h⟩
    replace h := h.2 c2
    exact h.elim
def F_L_inspect (a0 : Nat) (a1 : Int32) (a2 : Nat) (w : Mm) (z : Nat) (mc ms : Nat) (Q : Int32 → Mm → Nat → Prop) : Prop :=
  isO w a0 9 ∧ ∃ k5 k6, k5 ≤ mc ∧ k6 ≤ ms ∧ F_X5_inspect a0 a1 w z k5 k6 (fun r2 w3 z4 => ∃ n11 f10, arL w3 a2 = some (n11, f10) ∧ vp_in 0 n11 ∧ ∀ w12, w12 = mset w3 a2 (.inr (3, n11, .inr (.inl (vp_updL f10 (0 : Int32).toNatClampNeg ((r2 : Int32).toInt64))))) → Q 0 w12 z4) (fun E7 w8 z9 => (E7 = "java/lang/IndexOutOfBoundsException" → Q 1 w8 z9) ∧ (¬ E7 = "java/lang/IndexOutOfBoundsException" → (E7 = "java/lang/IllegalStateException" → Q 2 w8 z9) ∧ (¬ E7 = "java/lang/IllegalStateException" → False)))
set_option maxRecDepth 100000 in
set_option maxHeartbeats 4000000 in
theorem ct_L_inspect {l : Launch} {g : Gp} {d : Nat} (hst : l.stackTraces = false) {a0 : Nat} {a1 : Int32} {a2 : Nat} {w : Mm} {z mc ms : Nat} {Q : Int32 → Mm → Nat → Prop} {X : String → Mm → Nat → Prop} (h : F_L_inspect a0 a1 a2 w z mc ms Q) : Ct l g yL_inspect (.codeWith yL_inspect cL_inspect 4 (some .int) [(0, 9, 12, 19), (0, 9, 15, 21)]) (d + 8) mc ms [.ref (a0), .int (a1), .ref (a2)] w z (rI Q) X := by
  refine Ct.ofH hst (by decide) (Nat.le_of_ble_eq_true rfl) (fun C hX hE hg hl hNm => ?_)
  subst hg
  subst hl
  unfold F_L_inspect at h
  show VW C 0 [(0, .ref (a0)), (1, .int (a1)), (2, .ref (a2))] [] w z mc ms
  refine vw_aload_n hX 2 dL_inspect_0 rfl ?_
  refine vw_iconst hX (v := 0) dL_inspect_1 (by decide) ?_
  refine vw_aload_n hX 0 dL_inspect_2 rfl ?_
  refine vw_iload_n hX 1 dL_inspect_3 rfl ?_
  obtain ⟨hr1, h⟩ := h
  obtain ⟨k5, k6, hm1, hm2, h⟩ := h
  refine s_L_27 hX hr1 dL_inspect_4 (Nat.le_of_ble_eq_true rfl) hm1 hm2 (ct_X5_inspect (d := d + 0) (lst hX) h) (fun r2 w3 z4 h => ?_) (fun E7 w8 z9 h => ?_)
  · skip
    refine vw_i2l hX dL_inspect_7 ?_
    obtain ⟨n11, f10, hf10, hif10, h⟩ := h
    refine vw_last hX hf10 hif10 dL_inspect_8 ?_
    refine vw_nmW (fun w12 ew12 => ?_)
    have h := h w12 ew12
    refine vw_goto hX (tgt := 18) dL_inspect_9 (by decide) ?_
    refine vw_iconst hX (v := 0) dL_inspect_18 (by decide) ?_
    exact vw_iret hX hE dL_inspect_19 ⟨_, rfl, h⟩
  · skip
    by_cases c0 : E7 = "java/lang/IndexOutOfBoundsException"
    · have h9 := h.1 c0
      clear h
      have h := h9
      clear h9
      subst c0
      refine vw_catch hX [] [(0, 9, 15, 21)] rfl (fun _ hq => absurd hq List.not_mem_nil) ⟨by decide, by decide⟩ (by decide) kw_1214 (by decide +kernel) (fun u => ?_)
      refine vw_astore_n hX dL_inspect_12 (by decide) rfl ?_
      refine vw_iconst hX (v := 1) dL_inspect_13 (by decide) ?_
      exact vw_iret hX hE dL_inspect_14 ⟨_, rfl, h⟩
    replace h := h.2 c0
    by_cases c1 : E7 = "java/lang/IllegalStateException"
    · have h9 := h.1 c1
      clear h
      have h := h9
      clear h9
      subst c1
      refine vw_catch hX [(0, 9, 12, 19)] [] rfl (fun q hq => by obtain rfl := List.mem_singleton.mp hq; exact ⟨by decide, "java/lang/IndexOutOfBoundsException", kw_1214, by decide +kernel⟩) ⟨by decide, by decide⟩ (by decide) kw_1215 (by decide +kernel) (fun u => ?_)
      refine vw_astore_n hX dL_inspect_15 (by decide) rfl ?_
      refine vw_iconst hX (v := 2) dL_inspect_16 (by decide) ?_
      exact vw_iret hX hE dL_inspect_17 ⟨_, rfl, h⟩
    replace h := h.2 c1
    exact h.elim
def F_L_waitFor (a0 : Nat) (a1 : Int32) (a2 : Nat) (w : Mm) (z : Nat) (mc ms : Nat) (Q : Int32 → Mm → Nat → Prop) : Prop :=
  isO w a0 9 ∧ ∃ k5 k6, k5 ≤ mc ∧ k6 ≤ ms ∧ F_X5_waitFor a0 a1 w z k5 k6 (fun r2 w3 z4 => ∃ n11 f10, arL w3 a2 = some (n11, f10) ∧ vp_in 0 n11 ∧ ∀ w12, w12 = mset w3 a2 (.inr (3, n11, .inr (.inl (vp_updL f10 (0 : Int32).toNatClampNeg ((r2 : Int32).toInt64))))) → Q 0 w12 z4) (fun E7 w8 z9 => (E7 = "java/lang/IllegalArgumentException" → Q 1 w8 z9) ∧ (¬ E7 = "java/lang/IllegalArgumentException" → (E7 = "java/lang/IllegalStateException" → Q 2 w8 z9) ∧ (¬ E7 = "java/lang/IllegalStateException" → False)))
set_option maxRecDepth 100000 in
set_option maxHeartbeats 4000000 in
theorem ct_L_waitFor {l : Launch} {g : Gp} {d : Nat} (hst : l.stackTraces = false) {a0 : Nat} {a1 : Int32} {a2 : Nat} {w : Mm} {z mc ms : Nat} {Q : Int32 → Mm → Nat → Prop} {X : String → Mm → Nat → Prop} (h : F_L_waitFor a0 a1 a2 w z mc ms Q) : Ct l g yL_waitFor (.codeWith yL_waitFor cL_waitFor 4 (some .int) [(0, 9, 12, 13), (0, 9, 15, 21)]) (d + 7) mc ms [.ref (a0), .int (a1), .ref (a2)] w z (rI Q) X := by
  refine Ct.ofH hst (by decide) (Nat.le_of_ble_eq_true rfl) (fun C hX hE hg hl hNm => ?_)
  subst hg
  subst hl
  unfold F_L_waitFor at h
  show VW C 0 [(0, .ref (a0)), (1, .int (a1)), (2, .ref (a2))] [] w z mc ms
  refine vw_aload_n hX 2 dL_waitFor_0 rfl ?_
  refine vw_iconst hX (v := 0) dL_waitFor_1 (by decide) ?_
  refine vw_aload_n hX 0 dL_waitFor_2 rfl ?_
  refine vw_iload_n hX 1 dL_waitFor_3 rfl ?_
  obtain ⟨hr1, h⟩ := h
  obtain ⟨k5, k6, hm1, hm2, h⟩ := h
  refine s_L_30 hX hr1 dL_waitFor_4 (Nat.le_of_ble_eq_true rfl) hm1 hm2 (ct_X5_waitFor (d := d + 0) (lst hX) h) (fun r2 w3 z4 h => ?_) (fun E7 w8 z9 h => ?_)
  · skip
    refine vw_i2l hX dL_waitFor_7 ?_
    obtain ⟨n11, f10, hf10, hif10, h⟩ := h
    refine vw_last hX hf10 hif10 dL_waitFor_8 ?_
    refine vw_nmW (fun w12 ew12 => ?_)
    have h := h w12 ew12
    refine vw_goto hX (tgt := 18) dL_waitFor_9 (by decide) ?_
    refine vw_iconst hX (v := 0) dL_waitFor_18 (by decide) ?_
    exact vw_iret hX hE dL_waitFor_19 ⟨_, rfl, h⟩
  · skip
    by_cases c0 : E7 = "java/lang/IllegalArgumentException"
    · have h9 := h.1 c0
      clear h
      have h := h9
      clear h9
      subst c0
      refine vw_catch hX [] [(0, 9, 15, 21)] rfl (fun _ hq => absurd hq List.not_mem_nil) ⟨by decide, by decide⟩ (by decide) kw_1203 (by decide +kernel) (fun u => ?_)
      refine vw_astore_n hX dL_waitFor_12 (by decide) rfl ?_
      refine vw_iconst hX (v := 1) dL_waitFor_13 (by decide) ?_
      exact vw_iret hX hE dL_waitFor_14 ⟨_, rfl, h⟩
    replace h := h.2 c0
    by_cases c1 : E7 = "java/lang/IllegalStateException"
    · have h9 := h.1 c1
      clear h
      have h := h9
      clear h9
      subst c1
      refine vw_catch hX [(0, 9, 12, 13)] [] rfl (fun q hq => by obtain rfl := List.mem_singleton.mp hq; exact ⟨by decide, "java/lang/IllegalArgumentException", kw_1203, by decide +kernel⟩) ⟨by decide, by decide⟩ (by decide) kw_1215 (by decide +kernel) (fun u => ?_)
      refine vw_astore_n hX dL_waitFor_15 (by decide) rfl ?_
      refine vw_iconst hX (v := 2) dL_waitFor_16 (by decide) ?_
      exact vw_iret hX hE dL_waitFor_17 ⟨_, rfl, h⟩
    replace h := h.2 c1
    exact h.elim
def F_L_appeal (a0 : Nat) (a1 : Int32) (a2 : Int32) (a3 : Nat) (w : Mm) (z : Nat) (mc ms : Nat) (Q : Int32 → Mm → Nat → Prop) : Prop :=
  isO w a0 9 ∧ ∃ k5 k6, k5 ≤ mc ∧ k6 ≤ ms ∧ F_X5_appeal a0 a1 a2 w z k5 k6 (fun r2 w3 z4 => ∃ n11 f10, arL w3 a3 = some (n11, f10) ∧ vp_in 0 n11 ∧ ∀ w12, w12 = mset w3 a3 (.inr (3, n11, .inr (.inl (vp_updL f10 (0 : Int32).toNatClampNeg ((r2 : Int32).toInt64))))) → Q 0 w12 z4) (fun E7 w8 z9 => (E7 = "java/lang/IndexOutOfBoundsException" → Q 1 w8 z9) ∧ (¬ E7 = "java/lang/IndexOutOfBoundsException" → (E7 = "java/lang/IllegalStateException" → Q 2 w8 z9) ∧ (¬ E7 = "java/lang/IllegalStateException" → False)))
set_option maxRecDepth 100000 in
set_option maxHeartbeats 4000000 in
theorem ct_L_appeal {l : Launch} {g : Gp} {d : Nat} (hst : l.stackTraces = false) {a0 : Nat} {a1 : Int32} {a2 : Int32} {a3 : Nat} {w : Mm} {z mc ms : Nat} {Q : Int32 → Mm → Nat → Prop} {X : String → Mm → Nat → Prop} (h : F_L_appeal a0 a1 a2 a3 w z mc ms Q) : Ct l g yL_appeal (.codeWith yL_appeal cL_appeal 5 (some .int) [(0, 10, 13, 19), (0, 10, 17, 21)]) (d + 8) mc ms [.ref (a0), .int (a1), .int (a2), .ref (a3)] w z (rI Q) X := by
  refine Ct.ofH hst (by decide) (Nat.le_of_ble_eq_true rfl) (fun C hX hE hg hl hNm => ?_)
  subst hg
  subst hl
  unfold F_L_appeal at h
  show VW C 0 [(0, .ref (a0)), (1, .int (a1)), (2, .int (a2)), (3, .ref (a3))] [] w z mc ms
  refine vw_aload_n hX 3 dL_appeal_0 rfl ?_
  refine vw_iconst hX (v := 0) dL_appeal_1 (by decide) ?_
  refine vw_aload_n hX 0 dL_appeal_2 rfl ?_
  refine vw_iload_n hX 1 dL_appeal_3 rfl ?_
  refine vw_iload_n hX 2 dL_appeal_4 rfl ?_
  obtain ⟨hr1, h⟩ := h
  obtain ⟨k5, k6, hm1, hm2, h⟩ := h
  refine s_L_33 hX hr1 dL_appeal_5 (Nat.le_of_ble_eq_true rfl) hm1 hm2 (ct_X5_appeal (d := d + 0) (lst hX) h) (fun r2 w3 z4 h => ?_) (fun E7 w8 z9 h => ?_)
  · skip
    refine vw_i2l hX dL_appeal_8 ?_
    obtain ⟨n11, f10, hf10, hif10, h⟩ := h
    refine vw_last hX hf10 hif10 dL_appeal_9 ?_
    refine vw_nmW (fun w12 ew12 => ?_)
    have h := h w12 ew12
    refine vw_goto hX (tgt := 21) dL_appeal_10 (by decide) ?_
    refine vw_iconst hX (v := 0) dL_appeal_21 (by decide) ?_
    exact vw_iret hX hE dL_appeal_22 ⟨_, rfl, h⟩
  · skip
    by_cases c0 : E7 = "java/lang/IndexOutOfBoundsException"
    · have h9 := h.1 c0
      clear h
      have h := h9
      clear h9
      subst c0
      refine vw_catch hX [] [(0, 10, 17, 21)] rfl (fun _ hq => absurd hq List.not_mem_nil) ⟨by decide, by decide⟩ (by decide) kw_1214 (by decide +kernel) (fun u => ?_)
      refine vw_astore hX dL_appeal_13 (by decide) rfl ?_
      refine vw_iconst hX (v := 1) dL_appeal_15 (by decide) ?_
      exact vw_iret hX hE dL_appeal_16 ⟨_, rfl, h⟩
    replace h := h.2 c0
    by_cases c1 : E7 = "java/lang/IllegalStateException"
    · have h9 := h.1 c1
      clear h
      have h := h9
      clear h9
      subst c1
      refine vw_catch hX [(0, 10, 13, 19)] [] rfl (fun q hq => by obtain rfl := List.mem_singleton.mp hq; exact ⟨by decide, "java/lang/IndexOutOfBoundsException", kw_1214, by decide +kernel⟩) ⟨by decide, by decide⟩ (by decide) kw_1215 (by decide +kernel) (fun u => ?_)
      refine vw_astore hX dL_appeal_17 (by decide) rfl ?_
      refine vw_iconst hX (v := 2) dL_appeal_19 (by decide) ?_
      exact vw_iret hX hE dL_appeal_20 ⟨_, rfl, h⟩
    replace h := h.2 c1
    exact h.elim
def F_L_decide (a0 : Nat) (a1 : Int32) (a2 : Nat) (w : Mm) (z : Nat) (mc ms : Nat) (Q : Int32 → Mm → Nat → Prop) : Prop :=
  isO w a0 9 ∧ ∃ k5 k6, k5 ≤ mc ∧ k6 ≤ ms ∧ F_X5_decide a0 a1 w z k5 k6 (fun r2 w3 z4 => ∃ n11 f10, arL w3 a2 = some (n11, f10) ∧ vp_in 0 n11 ∧ ∀ w12, w12 = mset w3 a2 (.inr (3, n11, .inr (.inl (vp_updL f10 (0 : Int32).toNatClampNeg ((r2 : Int32).toInt64))))) → Q 0 w12 z4) (fun E7 w8 z9 => (E7 = "java/lang/IndexOutOfBoundsException" → Q 1 w8 z9) ∧ (¬ E7 = "java/lang/IndexOutOfBoundsException" → (E7 = "java/lang/IllegalStateException" → Q 2 w8 z9) ∧ (¬ E7 = "java/lang/IllegalStateException" → False)))
set_option maxRecDepth 100000 in
set_option maxHeartbeats 4000000 in
theorem ct_L_decide {l : Launch} {g : Gp} {d : Nat} (hst : l.stackTraces = false) {a0 : Nat} {a1 : Int32} {a2 : Nat} {w : Mm} {z mc ms : Nat} {Q : Int32 → Mm → Nat → Prop} {X : String → Mm → Nat → Prop} (h : F_L_decide a0 a1 a2 w z mc ms Q) : Ct l g yL_decide (.codeWith yL_decide cL_decide 4 (some .int) [(0, 9, 12, 19), (0, 9, 15, 21)]) (d + 8) mc ms [.ref (a0), .int (a1), .ref (a2)] w z (rI Q) X := by
  refine Ct.ofH hst (by decide) (Nat.le_of_ble_eq_true rfl) (fun C hX hE hg hl hNm => ?_)
  subst hg
  subst hl
  unfold F_L_decide at h
  show VW C 0 [(0, .ref (a0)), (1, .int (a1)), (2, .ref (a2))] [] w z mc ms
  refine vw_aload_n hX 2 dL_decide_0 rfl ?_
  refine vw_iconst hX (v := 0) dL_decide_1 (by decide) ?_
  refine vw_aload_n hX 0 dL_decide_2 rfl ?_
  refine vw_iload_n hX 1 dL_decide_3 rfl ?_
  obtain ⟨hr1, h⟩ := h
  obtain ⟨k5, k6, hm1, hm2, h⟩ := h
  refine s_L_37 hX hr1 dL_decide_4 (Nat.le_of_ble_eq_true rfl) hm1 hm2 (ct_X5_decide (d := d + 0) (lst hX) h) (fun r2 w3 z4 h => ?_) (fun E7 w8 z9 h => ?_)
  · skip
    refine vw_i2l hX dL_decide_7 ?_
    obtain ⟨n11, f10, hf10, hif10, h⟩ := h
    refine vw_last hX hf10 hif10 dL_decide_8 ?_
    refine vw_nmW (fun w12 ew12 => ?_)
    have h := h w12 ew12
    refine vw_goto hX (tgt := 18) dL_decide_9 (by decide) ?_
    refine vw_iconst hX (v := 0) dL_decide_18 (by decide) ?_
    exact vw_iret hX hE dL_decide_19 ⟨_, rfl, h⟩
  · skip
    by_cases c0 : E7 = "java/lang/IndexOutOfBoundsException"
    · have h9 := h.1 c0
      clear h
      have h := h9
      clear h9
      subst c0
      refine vw_catch hX [] [(0, 9, 15, 21)] rfl (fun _ hq => absurd hq List.not_mem_nil) ⟨by decide, by decide⟩ (by decide) kw_1214 (by decide +kernel) (fun u => ?_)
      refine vw_astore_n hX dL_decide_12 (by decide) rfl ?_
      refine vw_iconst hX (v := 1) dL_decide_13 (by decide) ?_
      exact vw_iret hX hE dL_decide_14 ⟨_, rfl, h⟩
    replace h := h.2 c0
    by_cases c1 : E7 = "java/lang/IllegalStateException"
    · have h9 := h.1 c1
      clear h
      have h := h9
      clear h9
      subst c1
      refine vw_catch hX [(0, 9, 12, 19)] [] rfl (fun q hq => by obtain rfl := List.mem_singleton.mp hq; exact ⟨by decide, "java/lang/IndexOutOfBoundsException", kw_1214, by decide +kernel⟩) ⟨by decide, by decide⟩ (by decide) kw_1215 (by decide +kernel) (fun u => ?_)
      refine vw_astore_n hX dL_decide_15 (by decide) rfl ?_
      refine vw_iconst hX (v := 2) dL_decide_16 (by decide) ?_
      exact vw_iret hX hE dL_decide_17 ⟨_, rfl, h⟩
    replace h := h.2 c1
    exact h.elim
def F_L_pay (a0 : Nat) (a1 : Int32) (a2 : Nat) (w : Mm) (z : Nat) (mc ms : Nat) (Q : Int32 → Mm → Nat → Prop) : Prop :=
  isO w a0 9 ∧ ∃ k5 k6, k5 ≤ mc ∧ k6 ≤ ms ∧ F_X5_pay a0 a1 w z k5 k6 (fun r2 w3 z4 => ∃ n11 f10, arL w3 a2 = some (n11, f10) ∧ vp_in 0 n11 ∧ ∀ w12, w12 = mset w3 a2 (.inr (3, n11, .inr (.inl (vp_updL f10 (0 : Int32).toNatClampNeg ((r2 : Int32).toInt64))))) → Q 0 w12 z4) (fun E7 w8 z9 => (E7 = "java/lang/IndexOutOfBoundsException" → Q 1 w8 z9) ∧ (¬ E7 = "java/lang/IndexOutOfBoundsException" → (E7 = "java/lang/IllegalStateException" → Q 2 w8 z9) ∧ (¬ E7 = "java/lang/IllegalStateException" → False)))
set_option maxRecDepth 100000 in
set_option maxHeartbeats 4000000 in
theorem ct_L_pay {l : Launch} {g : Gp} {d : Nat} (hst : l.stackTraces = false) {a0 : Nat} {a1 : Int32} {a2 : Nat} {w : Mm} {z mc ms : Nat} {Q : Int32 → Mm → Nat → Prop} {X : String → Mm → Nat → Prop} (h : F_L_pay a0 a1 a2 w z mc ms Q) : Ct l g yL_pay (.codeWith yL_pay cL_pay 4 (some .int) [(0, 9, 12, 19), (0, 9, 15, 21)]) (d + 8) mc ms [.ref (a0), .int (a1), .ref (a2)] w z (rI Q) X := by
  refine Ct.ofH hst (by decide) (Nat.le_of_ble_eq_true rfl) (fun C hX hE hg hl hNm => ?_)
  subst hg
  subst hl
  unfold F_L_pay at h
  show VW C 0 [(0, .ref (a0)), (1, .int (a1)), (2, .ref (a2))] [] w z mc ms
  refine vw_aload_n hX 2 dL_pay_0 rfl ?_
  refine vw_iconst hX (v := 0) dL_pay_1 (by decide) ?_
  refine vw_aload_n hX 0 dL_pay_2 rfl ?_
  refine vw_iload_n hX 1 dL_pay_3 rfl ?_
  obtain ⟨hr1, h⟩ := h
  obtain ⟨k5, k6, hm1, hm2, h⟩ := h
  refine s_L_40 hX hr1 dL_pay_4 (Nat.le_of_ble_eq_true rfl) hm1 hm2 (ct_X5_pay (d := d + 0) (lst hX) h) (fun r2 w3 z4 h => ?_) (fun E7 w8 z9 h => ?_)
  · skip
    refine vw_i2l hX dL_pay_7 ?_
    obtain ⟨n11, f10, hf10, hif10, h⟩ := h
    refine vw_last hX hf10 hif10 dL_pay_8 ?_
    refine vw_nmW (fun w12 ew12 => ?_)
    have h := h w12 ew12
    refine vw_goto hX (tgt := 18) dL_pay_9 (by decide) ?_
    refine vw_iconst hX (v := 0) dL_pay_18 (by decide) ?_
    exact vw_iret hX hE dL_pay_19 ⟨_, rfl, h⟩
  · skip
    by_cases c0 : E7 = "java/lang/IndexOutOfBoundsException"
    · have h9 := h.1 c0
      clear h
      have h := h9
      clear h9
      subst c0
      refine vw_catch hX [] [(0, 9, 15, 21)] rfl (fun _ hq => absurd hq List.not_mem_nil) ⟨by decide, by decide⟩ (by decide) kw_1214 (by decide +kernel) (fun u => ?_)
      refine vw_astore_n hX dL_pay_12 (by decide) rfl ?_
      refine vw_iconst hX (v := 1) dL_pay_13 (by decide) ?_
      exact vw_iret hX hE dL_pay_14 ⟨_, rfl, h⟩
    replace h := h.2 c0
    by_cases c1 : E7 = "java/lang/IllegalStateException"
    · have h9 := h.1 c1
      clear h
      have h := h9
      clear h9
      subst c1
      refine vw_catch hX [(0, 9, 12, 19)] [] rfl (fun q hq => by obtain rfl := List.mem_singleton.mp hq; exact ⟨by decide, "java/lang/IndexOutOfBoundsException", kw_1214, by decide +kernel⟩) ⟨by decide, by decide⟩ (by decide) kw_1215 (by decide +kernel) (fun u => ?_)
      refine vw_astore_n hX dL_pay_15 (by decide) rfl ?_
      refine vw_iconst hX (v := 2) dL_pay_16 (by decide) ?_
      exact vw_iret hX hE dL_pay_17 ⟨_, rfl, h⟩
    replace h := h.2 c1
    exact h.elim
def F_L_undo (a0 : Nat) (a1 : Nat) (w : Mm) (z : Nat) (mc ms : Nat) (Q : Int32 → Mm → Nat → Prop) : Prop :=
  isO w a0 9 ∧ ∃ k5 k6, k5 ≤ mc ∧ k6 ≤ ms ∧ F_X5_undo a0 w z k5 k6 (fun r2 w3 z4 => ∃ n11 f10, arL w3 a1 = some (n11, f10) ∧ vp_in 0 n11 ∧ ∀ w12, w12 = mset w3 a1 (.inr (3, n11, .inr (.inl (vp_updL f10 (0 : Int32).toNatClampNeg ((r2 : Int32).toInt64))))) → Q 0 w12 z4) (fun E7 w8 z9 => (E7 = "java/lang/IllegalStateException" → Q 1 w8 z9) ∧ (¬ E7 = "java/lang/IllegalStateException" → False))
set_option maxRecDepth 100000 in
set_option maxHeartbeats 4000000 in
theorem ct_L_undo {l : Launch} {g : Gp} {d : Nat} (hst : l.stackTraces = false) {a0 : Nat} {a1 : Nat} {w : Mm} {z mc ms : Nat} {Q : Int32 → Mm → Nat → Prop} {X : String → Mm → Nat → Prop} (h : F_L_undo a0 a1 w z mc ms Q) : Ct l g yL_undo (.codeWith yL_undo cL_undo 3 (some .int) [(0, 8, 11, 21)]) (d + 7) mc ms [.ref (a0), .ref (a1)] w z (rI Q) X := by
  refine Ct.ofH hst (by decide) (Nat.le_of_ble_eq_true rfl) (fun C hX hE hg hl hNm => ?_)
  subst hg
  subst hl
  unfold F_L_undo at h
  show VW C 0 [(0, .ref (a0)), (1, .ref (a1))] [] w z mc ms
  refine vw_aload_n hX 1 dL_undo_0 rfl ?_
  refine vw_iconst hX (v := 0) dL_undo_1 (by decide) ?_
  refine vw_aload_n hX 0 dL_undo_2 rfl ?_
  obtain ⟨hr1, h⟩ := h
  obtain ⟨k5, k6, hm1, hm2, h⟩ := h
  refine s_L_43 hX hr1 dL_undo_3 (Nat.le_of_ble_eq_true rfl) hm1 hm2 (ct_X5_undo (d := d + 0) (lst hX) h) (fun r2 w3 z4 h => ?_) (fun E7 w8 z9 h => ?_)
  · skip
    refine vw_i2l hX dL_undo_6 ?_
    obtain ⟨n11, f10, hf10, hif10, h⟩ := h
    refine vw_last hX hf10 hif10 dL_undo_7 ?_
    refine vw_nmW (fun w12 ew12 => ?_)
    have h := h w12 ew12
    refine vw_goto hX (tgt := 14) dL_undo_8 (by decide) ?_
    refine vw_iconst hX (v := 0) dL_undo_14 (by decide) ?_
    exact vw_iret hX hE dL_undo_15 ⟨_, rfl, h⟩
  · skip
    by_cases c0 : E7 = "java/lang/IllegalStateException"
    · have h9 := h.1 c0
      clear h
      have h := h9
      clear h9
      subst c0
      refine vw_catch hX [] [] rfl (fun _ hq => absurd hq List.not_mem_nil) ⟨by decide, by decide⟩ (by decide) kw_1215 (by decide +kernel) (fun u => ?_)
      refine vw_astore_n hX dL_undo_11 (by decide) rfl ?_
      refine vw_iconst hX (v := 1) dL_undo_12 (by decide) ?_
      exact vw_iret hX hE dL_undo_13 ⟨_, rfl, h⟩
    replace h := h.2 c0
    exact h.elim
def F_L_save (a0 : Nat) (a1 : Int32) (a2 : Nat) (w : Mm) (z : Nat) (mc ms : Nat) (Q : Int32 → Mm → Nat → Prop) : Prop :=
  isO w a0 9 ∧ ∃ k5 k6, k5 ≤ mc ∧ k6 ≤ ms ∧ F_X5_save a0 a1 w z k5 k6 (fun r2 w3 z4 => ∃ n11 f10, arL w3 a2 = some (n11, f10) ∧ vp_in 0 n11 ∧ ∀ w12, w12 = mset w3 a2 (.inr (3, n11, .inr (.inl (vp_updL f10 (0 : Int32).toNatClampNeg ((r2 : Int32).toInt64))))) → Q 0 w12 z4) (fun E7 w8 z9 => (E7 = "java/lang/IllegalArgumentException" → Q 1 w8 z9) ∧ (¬ E7 = "java/lang/IllegalArgumentException" → False))
set_option maxRecDepth 100000 in
set_option maxHeartbeats 4000000 in
theorem ct_L_save {l : Launch} {g : Gp} {d : Nat} (hst : l.stackTraces = false) {a0 : Nat} {a1 : Int32} {a2 : Nat} {w : Mm} {z mc ms : Nat} {Q : Int32 → Mm → Nat → Prop} {X : String → Mm → Nat → Prop} (h : F_L_save a0 a1 a2 w z mc ms Q) : Ct l g yL_save (.codeWith yL_save cL_save 4 (some .int) [(0, 9, 12, 13)]) (d + 8) mc ms [.ref (a0), .int (a1), .ref (a2)] w z (rI Q) X := by
  refine Ct.ofH hst (by decide) (Nat.le_of_ble_eq_true rfl) (fun C hX hE hg hl hNm => ?_)
  subst hg
  subst hl
  unfold F_L_save at h
  show VW C 0 [(0, .ref (a0)), (1, .int (a1)), (2, .ref (a2))] [] w z mc ms
  refine vw_aload_n hX 2 dL_save_0 rfl ?_
  refine vw_iconst hX (v := 0) dL_save_1 (by decide) ?_
  refine vw_aload_n hX 0 dL_save_2 rfl ?_
  refine vw_iload_n hX 1 dL_save_3 rfl ?_
  obtain ⟨hr1, h⟩ := h
  obtain ⟨k5, k6, hm1, hm2, h⟩ := h
  refine s_L_47 hX hr1 dL_save_4 (Nat.le_of_ble_eq_true rfl) hm1 hm2 (ct_X5_save (d := d + 0) (lst hX) h) (fun r2 w3 z4 h => ?_) (fun E7 w8 z9 h => ?_)
  · skip
    refine vw_i2l hX dL_save_7 ?_
    obtain ⟨n11, f10, hf10, hif10, h⟩ := h
    refine vw_last hX hf10 hif10 dL_save_8 ?_
    refine vw_nmW (fun w12 ew12 => ?_)
    have h := h w12 ew12
    refine vw_goto hX (tgt := 15) dL_save_9 (by decide) ?_
    refine vw_iconst hX (v := 0) dL_save_15 (by decide) ?_
    exact vw_iret hX hE dL_save_16 ⟨_, rfl, h⟩
  · skip
    by_cases c0 : E7 = "java/lang/IllegalArgumentException"
    · have h9 := h.1 c0
      clear h
      have h := h9
      clear h9
      subst c0
      refine vw_catch hX [] [] rfl (fun _ hq => absurd hq List.not_mem_nil) ⟨by decide, by decide⟩ (by decide) kw_1203 (by decide +kernel) (fun u => ?_)
      refine vw_astore_n hX dL_save_12 (by decide) rfl ?_
      refine vw_iconst hX (v := 1) dL_save_13 (by decide) ?_
      exact vw_iret hX hE dL_save_14 ⟨_, rfl, h⟩
    replace h := h.2 c0
    exact h.elim
def F_L_restore (a0 : Nat) (a1 : Int32) (a2 : Nat) (w : Mm) (z : Nat) (mc ms : Nat) (Q : Int32 → Mm → Nat → Prop) : Prop :=
  isO w a0 9 ∧ ∃ k5 k6, k5 ≤ mc ∧ k6 ≤ ms ∧ F_X5_restore a0 a1 w z k5 k6 (fun r2 w3 z4 => ∃ n11 f10, arL w3 a2 = some (n11, f10) ∧ vp_in 0 n11 ∧ ∀ w12, w12 = mset w3 a2 (.inr (3, n11, .inr (.inl (vp_updL f10 (0 : Int32).toNatClampNeg ((r2 : Int32).toInt64))))) → Q 0 w12 z4) (fun E7 w8 z9 => (E7 = "java/lang/IllegalArgumentException" → Q 1 w8 z9) ∧ (¬ E7 = "java/lang/IllegalArgumentException" → (E7 = "java/lang/IllegalStateException" → Q 2 w8 z9) ∧ (¬ E7 = "java/lang/IllegalStateException" → False)))
set_option maxRecDepth 100000 in
set_option maxHeartbeats 4000000 in
theorem ct_L_restore {l : Launch} {g : Gp} {d : Nat} (hst : l.stackTraces = false) {a0 : Nat} {a1 : Int32} {a2 : Nat} {w : Mm} {z mc ms : Nat} {Q : Int32 → Mm → Nat → Prop} {X : String → Mm → Nat → Prop} (h : F_L_restore a0 a1 a2 w z mc ms Q) : Ct l g yL_restore (.codeWith yL_restore cL_restore 4 (some .int) [(0, 9, 12, 13), (0, 9, 15, 21)]) (d + 8) mc ms [.ref (a0), .int (a1), .ref (a2)] w z (rI Q) X := by
  refine Ct.ofH hst (by decide) (Nat.le_of_ble_eq_true rfl) (fun C hX hE hg hl hNm => ?_)
  subst hg
  subst hl
  unfold F_L_restore at h
  show VW C 0 [(0, .ref (a0)), (1, .int (a1)), (2, .ref (a2))] [] w z mc ms
  refine vw_aload_n hX 2 dL_restore_0 rfl ?_
  refine vw_iconst hX (v := 0) dL_restore_1 (by decide) ?_
  refine vw_aload_n hX 0 dL_restore_2 rfl ?_
  refine vw_iload_n hX 1 dL_restore_3 rfl ?_
  obtain ⟨hr1, h⟩ := h
  obtain ⟨k5, k6, hm1, hm2, h⟩ := h
  refine s_L_50 hX hr1 dL_restore_4 (Nat.le_of_ble_eq_true rfl) hm1 hm2 (ct_X5_restore (d := d + 0) (lst hX) h) (fun r2 w3 z4 h => ?_) (fun E7 w8 z9 h => ?_)
  · skip
    refine vw_i2l hX dL_restore_7 ?_
    obtain ⟨n11, f10, hf10, hif10, h⟩ := h
    refine vw_last hX hf10 hif10 dL_restore_8 ?_
    refine vw_nmW (fun w12 ew12 => ?_)
    have h := h w12 ew12
    refine vw_goto hX (tgt := 18) dL_restore_9 (by decide) ?_
    refine vw_iconst hX (v := 0) dL_restore_18 (by decide) ?_
    exact vw_iret hX hE dL_restore_19 ⟨_, rfl, h⟩
  · skip
    by_cases c0 : E7 = "java/lang/IllegalArgumentException"
    · have h9 := h.1 c0
      clear h
      have h := h9
      clear h9
      subst c0
      refine vw_catch hX [] [(0, 9, 15, 21)] rfl (fun _ hq => absurd hq List.not_mem_nil) ⟨by decide, by decide⟩ (by decide) kw_1203 (by decide +kernel) (fun u => ?_)
      refine vw_astore_n hX dL_restore_12 (by decide) rfl ?_
      refine vw_iconst hX (v := 1) dL_restore_13 (by decide) ?_
      exact vw_iret hX hE dL_restore_14 ⟨_, rfl, h⟩
    replace h := h.2 c0
    by_cases c1 : E7 = "java/lang/IllegalStateException"
    · have h9 := h.1 c1
      clear h
      have h := h9
      clear h9
      subst c1
      refine vw_catch hX [(0, 9, 12, 13)] [] rfl (fun q hq => by obtain rfl := List.mem_singleton.mp hq; exact ⟨by decide, "java/lang/IllegalArgumentException", kw_1203, by decide +kernel⟩) ⟨by decide, by decide⟩ (by decide) kw_1215 (by decide +kernel) (fun u => ?_)
      refine vw_astore_n hX dL_restore_15 (by decide) rfl ?_
      refine vw_iconst hX (v := 2) dL_restore_16 (by decide) ?_
      exact vw_iret hX hE dL_restore_17 ⟨_, rfl, h⟩
    replace h := h.2 c1
    exact h.elim
def F_L_zone (a0 : Nat) (a1 : Int32) (a2 : Nat) (w : Mm) (z : Nat) (mc ms : Nat) (Q : Int32 → Mm → Nat → Prop) : Prop :=
  isO w a0 9 ∧ ∃ k5 k6, k5 ≤ mc ∧ k6 ≤ ms ∧ F_X5_zone a0 a1 w z k5 k6 (fun r2 w3 z4 => ∃ n11 f10, arL w3 a2 = some (n11, f10) ∧ vp_in 0 n11 ∧ ∀ w12, w12 = mset w3 a2 (.inr (3, n11, .inr (.inl (vp_updL f10 (0 : Int32).toNatClampNeg ((r2 : Int32).toInt64))))) → Q 0 w12 z4) (fun E7 w8 z9 => (E7 = "java/lang/IndexOutOfBoundsException" → Q 1 w8 z9) ∧ (¬ E7 = "java/lang/IndexOutOfBoundsException" → False))
set_option maxRecDepth 100000 in
set_option maxHeartbeats 4000000 in
theorem ct_L_zone {l : Launch} {g : Gp} {d : Nat} (hst : l.stackTraces = false) {a0 : Nat} {a1 : Int32} {a2 : Nat} {w : Mm} {z mc ms : Nat} {Q : Int32 → Mm → Nat → Prop} {X : String → Mm → Nat → Prop} (h : F_L_zone a0 a1 a2 w z mc ms Q) : Ct l g yL_zone (.codeWith yL_zone cL_zone 4 (some .int) [(0, 9, 12, 19)]) (d + 8) mc ms [.ref (a0), .int (a1), .ref (a2)] w z (rI Q) X := by
  refine Ct.ofH hst (by decide) (Nat.le_of_ble_eq_true rfl) (fun C hX hE hg hl hNm => ?_)
  subst hg
  subst hl
  unfold F_L_zone at h
  show VW C 0 [(0, .ref (a0)), (1, .int (a1)), (2, .ref (a2))] [] w z mc ms
  refine vw_aload_n hX 2 dL_zone_0 rfl ?_
  refine vw_iconst hX (v := 0) dL_zone_1 (by decide) ?_
  refine vw_aload_n hX 0 dL_zone_2 rfl ?_
  refine vw_iload_n hX 1 dL_zone_3 rfl ?_
  obtain ⟨hr1, h⟩ := h
  obtain ⟨k5, k6, hm1, hm2, h⟩ := h
  refine s_L_53 hX hr1 dL_zone_4 (Nat.le_of_ble_eq_true rfl) hm1 hm2 (ct_X5_zone (d := d + 0) (lst hX) h) (fun r2 w3 z4 h => ?_) (fun E7 w8 z9 h => ?_)
  · skip
    refine vw_i2l hX dL_zone_7 ?_
    obtain ⟨n11, f10, hf10, hif10, h⟩ := h
    refine vw_last hX hf10 hif10 dL_zone_8 ?_
    refine vw_nmW (fun w12 ew12 => ?_)
    have h := h w12 ew12
    refine vw_goto hX (tgt := 15) dL_zone_9 (by decide) ?_
    refine vw_iconst hX (v := 0) dL_zone_15 (by decide) ?_
    exact vw_iret hX hE dL_zone_16 ⟨_, rfl, h⟩
  · skip
    by_cases c0 : E7 = "java/lang/IndexOutOfBoundsException"
    · have h9 := h.1 c0
      clear h
      have h := h9
      clear h9
      subst c0
      refine vw_catch hX [] [] rfl (fun _ hq => absurd hq List.not_mem_nil) ⟨by decide, by decide⟩ (by decide) kw_1214 (by decide +kernel) (fun u => ?_)
      refine vw_astore_n hX dL_zone_12 (by decide) rfl ?_
      refine vw_iconst hX (v := 1) dL_zone_13 (by decide) ?_
      exact vw_iret hX hE dL_zone_14 ⟨_, rfl, h⟩
    replace h := h.2 c0
    exact h.elim
def F_L_zonesBetween (a0 : Nat) (a1 : Int32) (a2 : Int32) (a3 : Nat) (w : Mm) (z : Nat) (mc ms : Nat) (Q : Int32 → Mm → Nat → Prop) : Prop :=
  isO w a0 9 ∧ ∃ k5 k6, k5 ≤ mc ∧ k6 ≤ ms ∧ F_X5_zonesBetween a0 a1 a2 w z k5 k6 (fun r2 w3 z4 => ∃ n11 f10, arL w3 a3 = some (n11, f10) ∧ vp_in 0 n11 ∧ ∀ w12, w12 = mset w3 a3 (.inr (3, n11, .inr (.inl (vp_updL f10 (0 : Int32).toNatClampNeg ((r2 : Int32).toInt64))))) → Q 0 w12 z4) (fun E7 w8 z9 => (E7 = "java/lang/IndexOutOfBoundsException" → Q 1 w8 z9) ∧ (¬ E7 = "java/lang/IndexOutOfBoundsException" → False))
set_option maxRecDepth 100000 in
set_option maxHeartbeats 4000000 in
theorem ct_L_zonesBetween {l : Launch} {g : Gp} {d : Nat} (hst : l.stackTraces = false) {a0 : Nat} {a1 : Int32} {a2 : Int32} {a3 : Nat} {w : Mm} {z mc ms : Nat} {Q : Int32 → Mm → Nat → Prop} {X : String → Mm → Nat → Prop} (h : F_L_zonesBetween a0 a1 a2 a3 w z mc ms Q) : Ct l g yL_zonesBetween (.codeWith yL_zonesBetween cL_zonesBetween 5 (some .int) [(0, 10, 13, 19)]) (d + 8) mc ms [.ref (a0), .int (a1), .int (a2), .ref (a3)] w z (rI Q) X := by
  refine Ct.ofH hst (by decide) (Nat.le_of_ble_eq_true rfl) (fun C hX hE hg hl hNm => ?_)
  subst hg
  subst hl
  unfold F_L_zonesBetween at h
  show VW C 0 [(0, .ref (a0)), (1, .int (a1)), (2, .int (a2)), (3, .ref (a3))] [] w z mc ms
  refine vw_aload_n hX 3 dL_zonesBetween_0 rfl ?_
  refine vw_iconst hX (v := 0) dL_zonesBetween_1 (by decide) ?_
  refine vw_aload_n hX 0 dL_zonesBetween_2 rfl ?_
  refine vw_iload_n hX 1 dL_zonesBetween_3 rfl ?_
  refine vw_iload_n hX 2 dL_zonesBetween_4 rfl ?_
  obtain ⟨hr1, h⟩ := h
  obtain ⟨k5, k6, hm1, hm2, h⟩ := h
  refine s_L_56 hX hr1 dL_zonesBetween_5 (Nat.le_of_ble_eq_true rfl) hm1 hm2 (ct_X5_zonesBetween (d := d + 0) (lst hX) h) (fun r2 w3 z4 h => ?_) (fun E7 w8 z9 h => ?_)
  · skip
    refine vw_i2l hX dL_zonesBetween_8 ?_
    obtain ⟨n11, f10, hf10, hif10, h⟩ := h
    refine vw_last hX hf10 hif10 dL_zonesBetween_9 ?_
    refine vw_nmW (fun w12 ew12 => ?_)
    have h := h w12 ew12
    refine vw_goto hX (tgt := 17) dL_zonesBetween_10 (by decide) ?_
    refine vw_iconst hX (v := 0) dL_zonesBetween_17 (by decide) ?_
    exact vw_iret hX hE dL_zonesBetween_18 ⟨_, rfl, h⟩
  · skip
    by_cases c0 : E7 = "java/lang/IndexOutOfBoundsException"
    · have h9 := h.1 c0
      clear h
      have h := h9
      clear h9
      subst c0
      refine vw_catch hX [] [] rfl (fun _ hq => absurd hq List.not_mem_nil) ⟨by decide, by decide⟩ (by decide) kw_1214 (by decide +kernel) (fun u => ?_)
      refine vw_astore hX dL_zonesBetween_13 (by decide) rfl ?_
      refine vw_iconst hX (v := 1) dL_zonesBetween_15 (by decide) ?_
      exact vw_iret hX hE dL_zonesBetween_16 ⟨_, rfl, h⟩
    replace h := h.2 c0
    exact h.elim
def F_L_money (a0 : Nat) (a1 : Int32) (a2 : Nat) (w : Mm) (z : Nat) (mc ms : Nat) (Q : Int32 → Mm → Nat → Prop) : Prop :=
  isO w a0 9 ∧ ∃ k5 k6, k5 ≤ mc ∧ k6 ≤ ms ∧ F_X5_money a0 a1 w z k5 k6 (fun r2 w3 z4 => ∃ n11 f10, arL w3 a2 = some (n11, f10) ∧ vp_in 0 n11 ∧ ∀ w12, w12 = mset w3 a2 (.inr (3, n11, .inr (.inl (vp_updL f10 (0 : Int32).toNatClampNeg ((r2 : Int32).toInt64))))) → Q 0 w12 z4) (fun E7 w8 z9 => (E7 = "java/lang/IndexOutOfBoundsException" → Q 1 w8 z9) ∧ (¬ E7 = "java/lang/IndexOutOfBoundsException" → False))
set_option maxRecDepth 100000 in
set_option maxHeartbeats 4000000 in
theorem ct_L_money {l : Launch} {g : Gp} {d : Nat} (hst : l.stackTraces = false) {a0 : Nat} {a1 : Int32} {a2 : Nat} {w : Mm} {z mc ms : Nat} {Q : Int32 → Mm → Nat → Prop} {X : String → Mm → Nat → Prop} (h : F_L_money a0 a1 a2 w z mc ms Q) : Ct l g yL_money (.codeWith yL_money cL_money 4 (some .int) [(0, 9, 12, 19)]) (d + 8) mc ms [.ref (a0), .int (a1), .ref (a2)] w z (rI Q) X := by
  refine Ct.ofH hst (by decide) (Nat.le_of_ble_eq_true rfl) (fun C hX hE hg hl hNm => ?_)
  subst hg
  subst hl
  unfold F_L_money at h
  show VW C 0 [(0, .ref (a0)), (1, .int (a1)), (2, .ref (a2))] [] w z mc ms
  refine vw_aload_n hX 2 dL_money_0 rfl ?_
  refine vw_iconst hX (v := 0) dL_money_1 (by decide) ?_
  refine vw_aload_n hX 0 dL_money_2 rfl ?_
  refine vw_iload_n hX 1 dL_money_3 rfl ?_
  obtain ⟨hr1, h⟩ := h
  obtain ⟨k5, k6, hm1, hm2, h⟩ := h
  refine s_L_59 hX hr1 dL_money_4 (Nat.le_of_ble_eq_true rfl) hm1 hm2 (ct_X5_money (d := d + 0) (lst hX) h) (fun r2 w3 z4 h => ?_) (fun E7 w8 z9 h => ?_)
  · skip
    refine vw_i2l hX dL_money_7 ?_
    obtain ⟨n11, f10, hf10, hif10, h⟩ := h
    refine vw_last hX hf10 hif10 dL_money_8 ?_
    refine vw_nmW (fun w12 ew12 => ?_)
    have h := h w12 ew12
    refine vw_goto hX (tgt := 15) dL_money_9 (by decide) ?_
    refine vw_iconst hX (v := 0) dL_money_15 (by decide) ?_
    exact vw_iret hX hE dL_money_16 ⟨_, rfl, h⟩
  · skip
    by_cases c0 : E7 = "java/lang/IndexOutOfBoundsException"
    · have h9 := h.1 c0
      clear h
      have h := h9
      clear h9
      subst c0
      refine vw_catch hX [] [] rfl (fun _ hq => absurd hq List.not_mem_nil) ⟨by decide, by decide⟩ (by decide) kw_1214 (by decide +kernel) (fun u => ?_)
      refine vw_astore_n hX dL_money_12 (by decide) rfl ?_
      refine vw_iconst hX (v := 1) dL_money_13 (by decide) ?_
      exact vw_iret hX hE dL_money_14 ⟨_, rfl, h⟩
    replace h := h.2 c0
    exact h.elim
def F_L_isRiding (a0 : Nat) (a1 : Int32) (a2 : Nat) (w : Mm) (z : Nat) (mc ms : Nat) (Q : Int32 → Mm → Nat → Prop) : Prop :=
  isO w a0 9 ∧ ∃ k5 k6, k5 ≤ mc ∧ k6 ≤ ms ∧ F_X5_isRiding a0 a1 w z k5 k6 (fun r2 w3 z4 => (r2 = 0 → ∃ n12 f11, arL w3 a2 = some (n12, f11) ∧ vp_in 0 n12 ∧ ∀ w13, w13 = mset w3 a2 (.inr (3, n12, .inr (.inl (vp_updL f11 (0 : Int32).toNatClampNeg 0)))) → Q 0 w13 z4) ∧
  (¬ r2 = 0 → ∃ n15 f14, arL w3 a2 = some (n15, f14) ∧ vp_in 0 n15 ∧ ∀ w16, w16 = mset w3 a2 (.inr (3, n15, .inr (.inl (vp_updL f14 (0 : Int32).toNatClampNeg 1)))) → Q 0 w16 z4)) (fun E7 w8 z9 => (E7 = "java/lang/IndexOutOfBoundsException" → Q 1 w8 z9) ∧ (¬ E7 = "java/lang/IndexOutOfBoundsException" → False))
set_option maxRecDepth 100000 in
set_option maxHeartbeats 4000000 in
theorem ct_L_isRiding {l : Launch} {g : Gp} {d : Nat} (hst : l.stackTraces = false) {a0 : Nat} {a1 : Int32} {a2 : Nat} {w : Mm} {z mc ms : Nat} {Q : Int32 → Mm → Nat → Prop} {X : String → Mm → Nat → Prop} (h : F_L_isRiding a0 a1 a2 w z mc ms Q) : Ct l g yL_isRiding (.codeWith yL_isRiding cL_isRiding 4 (some .int) [(0, 16, 19, 19)]) (d + 8) mc ms [.ref (a0), .int (a1), .ref (a2)] w z (rI Q) X := by
  refine Ct.ofH hst (by decide) (Nat.le_of_ble_eq_true rfl) (fun C hX hE hg hl hNm => ?_)
  subst hg
  subst hl
  unfold F_L_isRiding at h
  show VW C 0 [(0, .ref (a0)), (1, .int (a1)), (2, .ref (a2))] [] w z mc ms
  refine vw_aload_n hX 2 dL_isRiding_0 rfl ?_
  refine vw_iconst hX (v := 0) dL_isRiding_1 (by decide) ?_
  refine vw_aload_n hX 0 dL_isRiding_2 rfl ?_
  refine vw_iload_n hX 1 dL_isRiding_3 rfl ?_
  obtain ⟨hr1, h⟩ := h
  obtain ⟨k5, k6, hm1, hm2, h⟩ := h
  refine s_L_62 hX hr1 dL_isRiding_4 (Nat.le_of_ble_eq_true rfl) hm1 hm2 (ct_X5_isRiding (d := d + 0) (lst hX) h) (fun r2 w3 z4 h => ?_) (fun E7 w8 z9 h => ?_)
  · skip
    refine vw_if_eq hX (tgt := 14) dL_isRiding_7 (by decide) (fun c10 => ?_) (fun c10 => ?_)
    · have h := h.1 c10
      refine vw_lconst hX (v := 0) dL_isRiding_14 (by decide) ?_
      obtain ⟨n12, f11, hf11, hif11, h⟩ := h
      refine vw_last hX hf11 hif11 dL_isRiding_15 ?_
      refine vw_nmW (fun w13 ew13 => ?_)
      have h := h w13 ew13
      refine vw_goto hX (tgt := 22) dL_isRiding_16 (by decide) ?_
      refine vw_iconst hX (v := 0) dL_isRiding_22 (by decide) ?_
      exact vw_iret hX hE dL_isRiding_23 ⟨_, rfl, h⟩
    · have h := h.2 c10
      refine vw_lconst hX (v := 1) dL_isRiding_10 (by decide) ?_
      refine vw_goto hX (tgt := 15) dL_isRiding_11 (by decide) ?_
      obtain ⟨n15, f14, hf14, hif14, h⟩ := h
      refine vw_last hX hf14 hif14 dL_isRiding_15 ?_
      refine vw_nmW (fun w16 ew16 => ?_)
      have h := h w16 ew16
      refine vw_goto hX (tgt := 22) dL_isRiding_16 (by decide) ?_
      refine vw_iconst hX (v := 0) dL_isRiding_22 (by decide) ?_
      exact vw_iret hX hE dL_isRiding_23 ⟨_, rfl, h⟩
  · skip
    by_cases c0 : E7 = "java/lang/IndexOutOfBoundsException"
    · have h9 := h.1 c0
      clear h
      have h := h9
      clear h9
      subst c0
      refine vw_catch hX [] [] rfl (fun _ hq => absurd hq List.not_mem_nil) ⟨by decide, by decide⟩ (by decide) kw_1214 (by decide +kernel) (fun u => ?_)
      refine vw_astore_n hX dL_isRiding_19 (by decide) rfl ?_
      refine vw_iconst hX (v := 1) dL_isRiding_20 (by decide) ?_
      exact vw_iret hX hE dL_isRiding_21 ⟨_, rfl, h⟩
    replace h := h.2 c0
    exact h.elim
def F_L_rideEnd (a0 : Nat) (a1 : Int32) (a2 : Nat) (w : Mm) (z : Nat) (mc ms : Nat) (Q : Int32 → Mm → Nat → Prop) : Prop :=
  isO w a0 9 ∧ ∃ k5 k6, k5 ≤ mc ∧ k6 ≤ ms ∧ F_X5_rideEnd a0 a1 w z k5 k6 (fun r2 w3 z4 => ∃ n11 f10, arL w3 a2 = some (n11, f10) ∧ vp_in 0 n11 ∧ ∀ w12, w12 = mset w3 a2 (.inr (3, n11, .inr (.inl (vp_updL f10 (0 : Int32).toNatClampNeg ((r2 : Int32).toInt64))))) → Q 0 w12 z4) (fun E7 w8 z9 => (E7 = "java/lang/IndexOutOfBoundsException" → Q 1 w8 z9) ∧ (¬ E7 = "java/lang/IndexOutOfBoundsException" → False))
set_option maxRecDepth 100000 in
set_option maxHeartbeats 4000000 in
theorem ct_L_rideEnd {l : Launch} {g : Gp} {d : Nat} (hst : l.stackTraces = false) {a0 : Nat} {a1 : Int32} {a2 : Nat} {w : Mm} {z mc ms : Nat} {Q : Int32 → Mm → Nat → Prop} {X : String → Mm → Nat → Prop} (h : F_L_rideEnd a0 a1 a2 w z mc ms Q) : Ct l g yL_rideEnd (.codeWith yL_rideEnd cL_rideEnd 4 (some .int) [(0, 9, 12, 19)]) (d + 8) mc ms [.ref (a0), .int (a1), .ref (a2)] w z (rI Q) X := by
  refine Ct.ofH hst (by decide) (Nat.le_of_ble_eq_true rfl) (fun C hX hE hg hl hNm => ?_)
  subst hg
  subst hl
  unfold F_L_rideEnd at h
  show VW C 0 [(0, .ref (a0)), (1, .int (a1)), (2, .ref (a2))] [] w z mc ms
  refine vw_aload_n hX 2 dL_rideEnd_0 rfl ?_
  refine vw_iconst hX (v := 0) dL_rideEnd_1 (by decide) ?_
  refine vw_aload_n hX 0 dL_rideEnd_2 rfl ?_
  refine vw_iload_n hX 1 dL_rideEnd_3 rfl ?_
  obtain ⟨hr1, h⟩ := h
  obtain ⟨k5, k6, hm1, hm2, h⟩ := h
  refine s_L_66 hX hr1 dL_rideEnd_4 (Nat.le_of_ble_eq_true rfl) hm1 hm2 (ct_X5_rideEnd (d := d + 0) (lst hX) h) (fun r2 w3 z4 h => ?_) (fun E7 w8 z9 h => ?_)
  · skip
    refine vw_i2l hX dL_rideEnd_7 ?_
    obtain ⟨n11, f10, hf10, hif10, h⟩ := h
    refine vw_last hX hf10 hif10 dL_rideEnd_8 ?_
    refine vw_nmW (fun w12 ew12 => ?_)
    have h := h w12 ew12
    refine vw_goto hX (tgt := 15) dL_rideEnd_9 (by decide) ?_
    refine vw_iconst hX (v := 0) dL_rideEnd_15 (by decide) ?_
    exact vw_iret hX hE dL_rideEnd_16 ⟨_, rfl, h⟩
  · skip
    by_cases c0 : E7 = "java/lang/IndexOutOfBoundsException"
    · have h9 := h.1 c0
      clear h
      have h := h9
      clear h9
      subst c0
      refine vw_catch hX [] [] rfl (fun _ hq => absurd hq List.not_mem_nil) ⟨by decide, by decide⟩ (by decide) kw_1214 (by decide +kernel) (fun u => ?_)
      refine vw_astore_n hX dL_rideEnd_12 (by decide) rfl ?_
      refine vw_iconst hX (v := 1) dL_rideEnd_13 (by decide) ?_
      exact vw_iret hX hE dL_rideEnd_14 ⟨_, rfl, h⟩
    replace h := h.2 c0
    exact h.elim
def F_L_rideTicket (a0 : Nat) (a1 : Int32) (a2 : Nat) (w : Mm) (z : Nat) (mc ms : Nat) (Q : Int32 → Mm → Nat → Prop) : Prop :=
  isO w a0 9 ∧ ∃ k5 k6, k5 ≤ mc ∧ k6 ≤ ms ∧ F_X5_rideTicket a0 a1 w z k5 k6 (fun r2 w3 z4 => ∃ n11 f10, arL w3 a2 = some (n11, f10) ∧ vp_in 0 n11 ∧ ∀ w12, w12 = mset w3 a2 (.inr (3, n11, .inr (.inl (vp_updL f10 (0 : Int32).toNatClampNeg ((r2 : Int32).toInt64))))) → Q 0 w12 z4) (fun E7 w8 z9 => (E7 = "java/lang/IndexOutOfBoundsException" → Q 1 w8 z9) ∧ (¬ E7 = "java/lang/IndexOutOfBoundsException" → False))
set_option maxRecDepth 100000 in
set_option maxHeartbeats 4000000 in
theorem ct_L_rideTicket {l : Launch} {g : Gp} {d : Nat} (hst : l.stackTraces = false) {a0 : Nat} {a1 : Int32} {a2 : Nat} {w : Mm} {z mc ms : Nat} {Q : Int32 → Mm → Nat → Prop} {X : String → Mm → Nat → Prop} (h : F_L_rideTicket a0 a1 a2 w z mc ms Q) : Ct l g yL_rideTicket (.codeWith yL_rideTicket cL_rideTicket 4 (some .int) [(0, 9, 12, 19)]) (d + 8) mc ms [.ref (a0), .int (a1), .ref (a2)] w z (rI Q) X := by
  refine Ct.ofH hst (by decide) (Nat.le_of_ble_eq_true rfl) (fun C hX hE hg hl hNm => ?_)
  subst hg
  subst hl
  unfold F_L_rideTicket at h
  show VW C 0 [(0, .ref (a0)), (1, .int (a1)), (2, .ref (a2))] [] w z mc ms
  refine vw_aload_n hX 2 dL_rideTicket_0 rfl ?_
  refine vw_iconst hX (v := 0) dL_rideTicket_1 (by decide) ?_
  refine vw_aload_n hX 0 dL_rideTicket_2 rfl ?_
  refine vw_iload_n hX 1 dL_rideTicket_3 rfl ?_
  obtain ⟨hr1, h⟩ := h
  obtain ⟨k5, k6, hm1, hm2, h⟩ := h
  refine s_L_69 hX hr1 dL_rideTicket_4 (Nat.le_of_ble_eq_true rfl) hm1 hm2 (ct_X5_rideTicket (d := d + 0) (lst hX) h) (fun r2 w3 z4 h => ?_) (fun E7 w8 z9 h => ?_)
  · skip
    refine vw_i2l hX dL_rideTicket_7 ?_
    obtain ⟨n11, f10, hf10, hif10, h⟩ := h
    refine vw_last hX hf10 hif10 dL_rideTicket_8 ?_
    refine vw_nmW (fun w12 ew12 => ?_)
    have h := h w12 ew12
    refine vw_goto hX (tgt := 15) dL_rideTicket_9 (by decide) ?_
    refine vw_iconst hX (v := 0) dL_rideTicket_15 (by decide) ?_
    exact vw_iret hX hE dL_rideTicket_16 ⟨_, rfl, h⟩
  · skip
    by_cases c0 : E7 = "java/lang/IndexOutOfBoundsException"
    · have h9 := h.1 c0
      clear h
      have h := h9
      clear h9
      subst c0
      refine vw_catch hX [] [] rfl (fun _ hq => absurd hq List.not_mem_nil) ⟨by decide, by decide⟩ (by decide) kw_1214 (by decide +kernel) (fun u => ?_)
      refine vw_astore_n hX dL_rideTicket_12 (by decide) rfl ?_
      refine vw_iconst hX (v := 1) dL_rideTicket_13 (by decide) ?_
      exact vw_iret hX hE dL_rideTicket_14 ⟨_, rfl, h⟩
    replace h := h.2 c0
    exact h.elim
def F_L_faultNow (a0 : Nat) (a1 : Int32) (a2 : Nat) (w : Mm) (z : Nat) (mc ms : Nat) (Q : Int32 → Mm → Nat → Prop) : Prop :=
  isO w a0 9 ∧ ∃ k5 k6, k5 ≤ mc ∧ k6 ≤ ms ∧ F_X5_faultNow a0 a1 w z k5 k6 (fun r2 w3 z4 => ∃ n11 f10, arL w3 a2 = some (n11, f10) ∧ vp_in 0 n11 ∧ ∀ w12, w12 = mset w3 a2 (.inr (3, n11, .inr (.inl (vp_updL f10 (0 : Int32).toNatClampNeg ((r2 : Int32).toInt64))))) → Q 0 w12 z4) (fun E7 w8 z9 => (E7 = "java/lang/IndexOutOfBoundsException" → Q 1 w8 z9) ∧ (¬ E7 = "java/lang/IndexOutOfBoundsException" → False))
set_option maxRecDepth 100000 in
set_option maxHeartbeats 4000000 in
theorem ct_L_faultNow {l : Launch} {g : Gp} {d : Nat} (hst : l.stackTraces = false) {a0 : Nat} {a1 : Int32} {a2 : Nat} {w : Mm} {z mc ms : Nat} {Q : Int32 → Mm → Nat → Prop} {X : String → Mm → Nat → Prop} (h : F_L_faultNow a0 a1 a2 w z mc ms Q) : Ct l g yL_faultNow (.codeWith yL_faultNow cL_faultNow 4 (some .int) [(0, 9, 12, 19)]) (d + 8) mc ms [.ref (a0), .int (a1), .ref (a2)] w z (rI Q) X := by
  refine Ct.ofH hst (by decide) (Nat.le_of_ble_eq_true rfl) (fun C hX hE hg hl hNm => ?_)
  subst hg
  subst hl
  unfold F_L_faultNow at h
  show VW C 0 [(0, .ref (a0)), (1, .int (a1)), (2, .ref (a2))] [] w z mc ms
  refine vw_aload_n hX 2 dL_faultNow_0 rfl ?_
  refine vw_iconst hX (v := 0) dL_faultNow_1 (by decide) ?_
  refine vw_aload_n hX 0 dL_faultNow_2 rfl ?_
  refine vw_iload_n hX 1 dL_faultNow_3 rfl ?_
  obtain ⟨hr1, h⟩ := h
  obtain ⟨k5, k6, hm1, hm2, h⟩ := h
  refine s_L_72 hX hr1 dL_faultNow_4 (Nat.le_of_ble_eq_true rfl) hm1 hm2 (ct_X5_faultNow (d := d + 0) (lst hX) h) (fun r2 w3 z4 h => ?_) (fun E7 w8 z9 h => ?_)
  · skip
    refine vw_i2l hX dL_faultNow_7 ?_
    obtain ⟨n11, f10, hf10, hif10, h⟩ := h
    refine vw_last hX hf10 hif10 dL_faultNow_8 ?_
    refine vw_nmW (fun w12 ew12 => ?_)
    have h := h w12 ew12
    refine vw_goto hX (tgt := 15) dL_faultNow_9 (by decide) ?_
    refine vw_iconst hX (v := 0) dL_faultNow_15 (by decide) ?_
    exact vw_iret hX hE dL_faultNow_16 ⟨_, rfl, h⟩
  · skip
    by_cases c0 : E7 = "java/lang/IndexOutOfBoundsException"
    · have h9 := h.1 c0
      clear h
      have h := h9
      clear h9
      subst c0
      refine vw_catch hX [] [] rfl (fun _ hq => absurd hq List.not_mem_nil) ⟨by decide, by decide⟩ (by decide) kw_1214 (by decide +kernel) (fun u => ?_)
      refine vw_astore_n hX dL_faultNow_12 (by decide) rfl ?_
      refine vw_iconst hX (v := 1) dL_faultNow_13 (by decide) ?_
      exact vw_iret hX hE dL_faultNow_14 ⟨_, rfl, h⟩
    replace h := h.2 c0
    exact h.elim
def F_L_debt (a0 : Nat) (a1 : Int32) (a2 : Nat) (w : Mm) (z : Nat) (mc ms : Nat) (Q : Int32 → Mm → Nat → Prop) : Prop :=
  isO w a0 9 ∧ ∃ k5 k6, k5 ≤ mc ∧ k6 ≤ ms ∧ F_X5_debt a0 a1 w z k5 k6 (fun r2 w3 z4 => ∃ n11 f10, arL w3 a2 = some (n11, f10) ∧ vp_in 0 n11 ∧ ∀ w12, w12 = mset w3 a2 (.inr (3, n11, .inr (.inl (vp_updL f10 (0 : Int32).toNatClampNeg ((r2 : Int32).toInt64))))) → Q 0 w12 z4) (fun E7 w8 z9 => (E7 = "java/lang/IndexOutOfBoundsException" → Q 1 w8 z9) ∧ (¬ E7 = "java/lang/IndexOutOfBoundsException" → False))
set_option maxRecDepth 100000 in
set_option maxHeartbeats 4000000 in
theorem ct_L_debt {l : Launch} {g : Gp} {d : Nat} (hst : l.stackTraces = false) {a0 : Nat} {a1 : Int32} {a2 : Nat} {w : Mm} {z mc ms : Nat} {Q : Int32 → Mm → Nat → Prop} {X : String → Mm → Nat → Prop} (h : F_L_debt a0 a1 a2 w z mc ms Q) : Ct l g yL_debt (.codeWith yL_debt cL_debt 4 (some .int) [(0, 9, 12, 19)]) (d + 8) mc ms [.ref (a0), .int (a1), .ref (a2)] w z (rI Q) X := by
  refine Ct.ofH hst (by decide) (Nat.le_of_ble_eq_true rfl) (fun C hX hE hg hl hNm => ?_)
  subst hg
  subst hl
  unfold F_L_debt at h
  show VW C 0 [(0, .ref (a0)), (1, .int (a1)), (2, .ref (a2))] [] w z mc ms
  refine vw_aload_n hX 2 dL_debt_0 rfl ?_
  refine vw_iconst hX (v := 0) dL_debt_1 (by decide) ?_
  refine vw_aload_n hX 0 dL_debt_2 rfl ?_
  refine vw_iload_n hX 1 dL_debt_3 rfl ?_
  obtain ⟨hr1, h⟩ := h
  obtain ⟨k5, k6, hm1, hm2, h⟩ := h
  refine s_L_75 hX hr1 dL_debt_4 (Nat.le_of_ble_eq_true rfl) hm1 hm2 (ct_X5_debt (d := d + 0) (lst hX) h) (fun r2 w3 z4 h => ?_) (fun E7 w8 z9 h => ?_)
  · skip
    refine vw_i2l hX dL_debt_7 ?_
    obtain ⟨n11, f10, hf10, hif10, h⟩ := h
    refine vw_last hX hf10 hif10 dL_debt_8 ?_
    refine vw_nmW (fun w12 ew12 => ?_)
    have h := h w12 ew12
    refine vw_goto hX (tgt := 15) dL_debt_9 (by decide) ?_
    refine vw_iconst hX (v := 0) dL_debt_15 (by decide) ?_
    exact vw_iret hX hE dL_debt_16 ⟨_, rfl, h⟩
  · skip
    by_cases c0 : E7 = "java/lang/IndexOutOfBoundsException"
    · have h9 := h.1 c0
      clear h
      have h := h9
      clear h9
      subst c0
      refine vw_catch hX [] [] rfl (fun _ hq => absurd hq List.not_mem_nil) ⟨by decide, by decide⟩ (by decide) kw_1214 (by decide +kernel) (fun u => ?_)
      refine vw_astore_n hX dL_debt_12 (by decide) rfl ?_
      refine vw_iconst hX (v := 1) dL_debt_13 (by decide) ?_
      exact vw_iret hX hE dL_debt_14 ⟨_, rfl, h⟩
    replace h := h.2 c0
    exact h.elim
def F_L_unpaidCases (a0 : Nat) (a1 : Int32) (a2 : Nat) (w : Mm) (z : Nat) (mc ms : Nat) (Q : Int32 → Mm → Nat → Prop) : Prop :=
  isO w a0 9 ∧ ∃ k5 k6, k5 ≤ mc ∧ k6 ≤ ms ∧ F_X5_unpaidCases a0 a1 w z k5 k6 (fun r2 w3 z4 => ∃ n11 f10, arL w3 a2 = some (n11, f10) ∧ vp_in 0 n11 ∧ ∀ w12, w12 = mset w3 a2 (.inr (3, n11, .inr (.inl (vp_updL f10 (0 : Int32).toNatClampNeg ((r2 : Int32).toInt64))))) → Q 0 w12 z4) (fun E7 w8 z9 => (E7 = "java/lang/IndexOutOfBoundsException" → Q 1 w8 z9) ∧ (¬ E7 = "java/lang/IndexOutOfBoundsException" → False))
set_option maxRecDepth 100000 in
set_option maxHeartbeats 4000000 in
theorem ct_L_unpaidCases {l : Launch} {g : Gp} {d : Nat} (hst : l.stackTraces = false) {a0 : Nat} {a1 : Int32} {a2 : Nat} {w : Mm} {z mc ms : Nat} {Q : Int32 → Mm → Nat → Prop} {X : String → Mm → Nat → Prop} (h : F_L_unpaidCases a0 a1 a2 w z mc ms Q) : Ct l g yL_unpaidCases (.codeWith yL_unpaidCases cL_unpaidCases 4 (some .int) [(0, 9, 12, 19)]) (d + 8) mc ms [.ref (a0), .int (a1), .ref (a2)] w z (rI Q) X := by
  refine Ct.ofH hst (by decide) (Nat.le_of_ble_eq_true rfl) (fun C hX hE hg hl hNm => ?_)
  subst hg
  subst hl
  unfold F_L_unpaidCases at h
  show VW C 0 [(0, .ref (a0)), (1, .int (a1)), (2, .ref (a2))] [] w z mc ms
  refine vw_aload_n hX 2 dL_unpaidCases_0 rfl ?_
  refine vw_iconst hX (v := 0) dL_unpaidCases_1 (by decide) ?_
  refine vw_aload_n hX 0 dL_unpaidCases_2 rfl ?_
  refine vw_iload_n hX 1 dL_unpaidCases_3 rfl ?_
  obtain ⟨hr1, h⟩ := h
  obtain ⟨k5, k6, hm1, hm2, h⟩ := h
  refine s_L_78 hX hr1 dL_unpaidCases_4 (Nat.le_of_ble_eq_true rfl) hm1 hm2 (ct_X5_unpaidCases (d := d + 0) (lst hX) h) (fun r2 w3 z4 h => ?_) (fun E7 w8 z9 h => ?_)
  · skip
    refine vw_i2l hX dL_unpaidCases_7 ?_
    obtain ⟨n11, f10, hf10, hif10, h⟩ := h
    refine vw_last hX hf10 hif10 dL_unpaidCases_8 ?_
    refine vw_nmW (fun w12 ew12 => ?_)
    have h := h w12 ew12
    refine vw_goto hX (tgt := 15) dL_unpaidCases_9 (by decide) ?_
    refine vw_iconst hX (v := 0) dL_unpaidCases_15 (by decide) ?_
    exact vw_iret hX hE dL_unpaidCases_16 ⟨_, rfl, h⟩
  · skip
    by_cases c0 : E7 = "java/lang/IndexOutOfBoundsException"
    · have h9 := h.1 c0
      clear h
      have h := h9
      clear h9
      subst c0
      refine vw_catch hX [] [] rfl (fun _ hq => absurd hq List.not_mem_nil) ⟨by decide, by decide⟩ (by decide) kw_1214 (by decide +kernel) (fun u => ?_)
      refine vw_astore_n hX dL_unpaidCases_12 (by decide) rfl ?_
      refine vw_iconst hX (v := 1) dL_unpaidCases_13 (by decide) ?_
      exact vw_iret hX hE dL_unpaidCases_14 ⟨_, rfl, h⟩
    replace h := h.2 c0
    exact h.elim
def F_L_nameByte (a0 : Nat) (a1 : Int32) (a2 : Int32) (a3 : Nat) (w : Mm) (z : Nat) (mc ms : Nat) (Q : Int32 → Mm → Nat → Prop) : Prop :=
  isO w a0 9 ∧ ∃ k5 k6, k5 ≤ mc ∧ k6 ≤ ms ∧ F_X5_nameByte a0 a1 a2 w z k5 k6 (fun r2 w3 z4 => ∃ n11 f10, arL w3 a3 = some (n11, f10) ∧ vp_in 0 n11 ∧ ∀ w12, w12 = mset w3 a3 (.inr (3, n11, .inr (.inl (vp_updL f10 (0 : Int32).toNatClampNeg ((r2 : Int32).toInt64))))) → Q 0 w12 z4) (fun E7 w8 z9 => (E7 = "java/lang/IndexOutOfBoundsException" → Q 1 w8 z9) ∧ (¬ E7 = "java/lang/IndexOutOfBoundsException" → False))
set_option maxRecDepth 100000 in
set_option maxHeartbeats 4000000 in
theorem ct_L_nameByte {l : Launch} {g : Gp} {d : Nat} (hst : l.stackTraces = false) {a0 : Nat} {a1 : Int32} {a2 : Int32} {a3 : Nat} {w : Mm} {z mc ms : Nat} {Q : Int32 → Mm → Nat → Prop} {X : String → Mm → Nat → Prop} (h : F_L_nameByte a0 a1 a2 a3 w z mc ms Q) : Ct l g yL_nameByte (.codeWith yL_nameByte cL_nameByte 5 (some .int) [(0, 10, 13, 19)]) (d + 8) mc ms [.ref (a0), .int (a1), .int (a2), .ref (a3)] w z (rI Q) X := by
  refine Ct.ofH hst (by decide) (Nat.le_of_ble_eq_true rfl) (fun C hX hE hg hl hNm => ?_)
  subst hg
  subst hl
  unfold F_L_nameByte at h
  show VW C 0 [(0, .ref (a0)), (1, .int (a1)), (2, .int (a2)), (3, .ref (a3))] [] w z mc ms
  refine vw_aload_n hX 3 dL_nameByte_0 rfl ?_
  refine vw_iconst hX (v := 0) dL_nameByte_1 (by decide) ?_
  refine vw_aload_n hX 0 dL_nameByte_2 rfl ?_
  refine vw_iload_n hX 1 dL_nameByte_3 rfl ?_
  refine vw_iload_n hX 2 dL_nameByte_4 rfl ?_
  obtain ⟨hr1, h⟩ := h
  obtain ⟨k5, k6, hm1, hm2, h⟩ := h
  refine s_L_81 hX hr1 dL_nameByte_5 (Nat.le_of_ble_eq_true rfl) hm1 hm2 (ct_X5_nameByte (d := d + 0) (lst hX) h) (fun r2 w3 z4 h => ?_) (fun E7 w8 z9 h => ?_)
  · skip
    refine vw_i2l hX dL_nameByte_8 ?_
    obtain ⟨n11, f10, hf10, hif10, h⟩ := h
    refine vw_last hX hf10 hif10 dL_nameByte_9 ?_
    refine vw_nmW (fun w12 ew12 => ?_)
    have h := h w12 ew12
    refine vw_goto hX (tgt := 17) dL_nameByte_10 (by decide) ?_
    refine vw_iconst hX (v := 0) dL_nameByte_17 (by decide) ?_
    exact vw_iret hX hE dL_nameByte_18 ⟨_, rfl, h⟩
  · skip
    by_cases c0 : E7 = "java/lang/IndexOutOfBoundsException"
    · have h9 := h.1 c0
      clear h
      have h := h9
      clear h9
      subst c0
      refine vw_catch hX [] [] rfl (fun _ hq => absurd hq List.not_mem_nil) ⟨by decide, by decide⟩ (by decide) kw_1214 (by decide +kernel) (fun u => ?_)
      refine vw_astore hX dL_nameByte_13 (by decide) rfl ?_
      refine vw_iconst hX (v := 1) dL_nameByte_15 (by decide) ?_
      exact vw_iret hX hE dL_nameByte_16 ⟨_, rfl, h⟩
    replace h := h.2 c0
    exact h.elim
def F_L_cheapestKind (a0 : Nat) (a1 : Int32) (a2 : Int32) (a3 : Nat) (w : Mm) (z : Nat) (mc ms : Nat) (Q : Int32 → Mm → Nat → Prop) : Prop :=
  isO w a0 9 ∧ ∃ k5 k6, k5 ≤ mc ∧ k6 ≤ ms ∧ F_X5_cheapestKind a0 a1 a2 w z k5 k6 (fun r2 w3 z4 => ∃ n11 f10, arL w3 a3 = some (n11, f10) ∧ vp_in 0 n11 ∧ ∀ w12, w12 = mset w3 a3 (.inr (3, n11, .inr (.inl (vp_updL f10 (0 : Int32).toNatClampNeg ((r2 : Int32).toInt64))))) → Q 0 w12 z4) (fun E7 w8 z9 => (E7 = "java/lang/IndexOutOfBoundsException" → Q 1 w8 z9) ∧ (¬ E7 = "java/lang/IndexOutOfBoundsException" → False))
set_option maxRecDepth 100000 in
set_option maxHeartbeats 4000000 in
theorem ct_L_cheapestKind {l : Launch} {g : Gp} {d : Nat} (hst : l.stackTraces = false) {a0 : Nat} {a1 : Int32} {a2 : Int32} {a3 : Nat} {w : Mm} {z mc ms : Nat} {Q : Int32 → Mm → Nat → Prop} {X : String → Mm → Nat → Prop} (h : F_L_cheapestKind a0 a1 a2 a3 w z mc ms Q) : Ct l g yL_cheapestKind (.codeWith yL_cheapestKind cL_cheapestKind 5 (some .int) [(0, 10, 13, 19)]) (d + 8) mc ms [.ref (a0), .int (a1), .int (a2), .ref (a3)] w z (rI Q) X := by
  refine Ct.ofH hst (by decide) (Nat.le_of_ble_eq_true rfl) (fun C hX hE hg hl hNm => ?_)
  subst hg
  subst hl
  unfold F_L_cheapestKind at h
  show VW C 0 [(0, .ref (a0)), (1, .int (a1)), (2, .int (a2)), (3, .ref (a3))] [] w z mc ms
  refine vw_aload_n hX 3 dL_cheapestKind_0 rfl ?_
  refine vw_iconst hX (v := 0) dL_cheapestKind_1 (by decide) ?_
  refine vw_aload_n hX 0 dL_cheapestKind_2 rfl ?_
  refine vw_iload_n hX 1 dL_cheapestKind_3 rfl ?_
  refine vw_iload_n hX 2 dL_cheapestKind_4 rfl ?_
  obtain ⟨hr1, h⟩ := h
  obtain ⟨k5, k6, hm1, hm2, h⟩ := h
  refine s_L_84 hX hr1 dL_cheapestKind_5 (Nat.le_of_ble_eq_true rfl) hm1 hm2 (ct_X5_cheapestKind (d := d + 0) (lst hX) h) (fun r2 w3 z4 h => ?_) (fun E7 w8 z9 h => ?_)
  · skip
    refine vw_i2l hX dL_cheapestKind_8 ?_
    obtain ⟨n11, f10, hf10, hif10, h⟩ := h
    refine vw_last hX hf10 hif10 dL_cheapestKind_9 ?_
    refine vw_nmW (fun w12 ew12 => ?_)
    have h := h w12 ew12
    refine vw_goto hX (tgt := 17) dL_cheapestKind_10 (by decide) ?_
    refine vw_iconst hX (v := 0) dL_cheapestKind_17 (by decide) ?_
    exact vw_iret hX hE dL_cheapestKind_18 ⟨_, rfl, h⟩
  · skip
    by_cases c0 : E7 = "java/lang/IndexOutOfBoundsException"
    · have h9 := h.1 c0
      clear h
      have h := h9
      clear h9
      subst c0
      refine vw_catch hX [] [] rfl (fun _ hq => absurd hq List.not_mem_nil) ⟨by decide, by decide⟩ (by decide) kw_1214 (by decide +kernel) (fun u => ?_)
      refine vw_astore hX dL_cheapestKind_13 (by decide) rfl ?_
      refine vw_iconst hX (v := 1) dL_cheapestKind_15 (by decide) ?_
      exact vw_iret hX hE dL_cheapestKind_16 ⟨_, rfl, h⟩
    replace h := h.2 c0
    exact h.elim
def F_L_ticketHolder (a0 : Nat) (a1 : Int32) (a2 : Nat) (w : Mm) (z : Nat) (mc ms : Nat) (Q : Int32 → Mm → Nat → Prop) : Prop :=
  isO w a0 9 ∧ ∃ k5 k6, k5 ≤ mc ∧ k6 ≤ ms ∧ F_X5_ticketHolder a0 a1 w z k5 k6 (fun r2 w3 z4 => ∃ n11 f10, arL w3 a2 = some (n11, f10) ∧ vp_in 0 n11 ∧ ∀ w12, w12 = mset w3 a2 (.inr (3, n11, .inr (.inl (vp_updL f10 (0 : Int32).toNatClampNeg ((r2 : Int32).toInt64))))) → Q 0 w12 z4) (fun E7 w8 z9 => (E7 = "java/lang/IndexOutOfBoundsException" → Q 1 w8 z9) ∧ (¬ E7 = "java/lang/IndexOutOfBoundsException" → False))
set_option maxRecDepth 100000 in
set_option maxHeartbeats 4000000 in
theorem ct_L_ticketHolder {l : Launch} {g : Gp} {d : Nat} (hst : l.stackTraces = false) {a0 : Nat} {a1 : Int32} {a2 : Nat} {w : Mm} {z mc ms : Nat} {Q : Int32 → Mm → Nat → Prop} {X : String → Mm → Nat → Prop} (h : F_L_ticketHolder a0 a1 a2 w z mc ms Q) : Ct l g yL_ticketHolder (.codeWith yL_ticketHolder cL_ticketHolder 4 (some .int) [(0, 9, 12, 19)]) (d + 8) mc ms [.ref (a0), .int (a1), .ref (a2)] w z (rI Q) X := by
  refine Ct.ofH hst (by decide) (Nat.le_of_ble_eq_true rfl) (fun C hX hE hg hl hNm => ?_)
  subst hg
  subst hl
  unfold F_L_ticketHolder at h
  show VW C 0 [(0, .ref (a0)), (1, .int (a1)), (2, .ref (a2))] [] w z mc ms
  refine vw_aload_n hX 2 dL_ticketHolder_0 rfl ?_
  refine vw_iconst hX (v := 0) dL_ticketHolder_1 (by decide) ?_
  refine vw_aload_n hX 0 dL_ticketHolder_2 rfl ?_
  refine vw_iload_n hX 1 dL_ticketHolder_3 rfl ?_
  obtain ⟨hr1, h⟩ := h
  obtain ⟨k5, k6, hm1, hm2, h⟩ := h
  refine s_L_87 hX hr1 dL_ticketHolder_4 (Nat.le_of_ble_eq_true rfl) hm1 hm2 (ct_X5_ticketHolder (d := d + 0) (lst hX) h) (fun r2 w3 z4 h => ?_) (fun E7 w8 z9 h => ?_)
  · skip
    refine vw_i2l hX dL_ticketHolder_7 ?_
    obtain ⟨n11, f10, hf10, hif10, h⟩ := h
    refine vw_last hX hf10 hif10 dL_ticketHolder_8 ?_
    refine vw_nmW (fun w12 ew12 => ?_)
    have h := h w12 ew12
    refine vw_goto hX (tgt := 15) dL_ticketHolder_9 (by decide) ?_
    refine vw_iconst hX (v := 0) dL_ticketHolder_15 (by decide) ?_
    exact vw_iret hX hE dL_ticketHolder_16 ⟨_, rfl, h⟩
  · skip
    by_cases c0 : E7 = "java/lang/IndexOutOfBoundsException"
    · have h9 := h.1 c0
      clear h
      have h := h9
      clear h9
      subst c0
      refine vw_catch hX [] [] rfl (fun _ hq => absurd hq List.not_mem_nil) ⟨by decide, by decide⟩ (by decide) kw_1214 (by decide +kernel) (fun u => ?_)
      refine vw_astore_n hX dL_ticketHolder_12 (by decide) rfl ?_
      refine vw_iconst hX (v := 1) dL_ticketHolder_13 (by decide) ?_
      exact vw_iret hX hE dL_ticketHolder_14 ⟨_, rfl, h⟩
    replace h := h.2 c0
    exact h.elim
def F_L_ticketKind (a0 : Nat) (a1 : Int32) (a2 : Nat) (w : Mm) (z : Nat) (mc ms : Nat) (Q : Int32 → Mm → Nat → Prop) : Prop :=
  isO w a0 9 ∧ ∃ k5 k6, k5 ≤ mc ∧ k6 ≤ ms ∧ F_X5_ticketKind a0 a1 w z k5 k6 (fun r2 w3 z4 => ∃ n11 f10, arL w3 a2 = some (n11, f10) ∧ vp_in 0 n11 ∧ ∀ w12, w12 = mset w3 a2 (.inr (3, n11, .inr (.inl (vp_updL f10 (0 : Int32).toNatClampNeg ((r2 : Int32).toInt64))))) → Q 0 w12 z4) (fun E7 w8 z9 => (E7 = "java/lang/IndexOutOfBoundsException" → Q 1 w8 z9) ∧ (¬ E7 = "java/lang/IndexOutOfBoundsException" → False))
set_option maxRecDepth 100000 in
set_option maxHeartbeats 4000000 in
theorem ct_L_ticketKind {l : Launch} {g : Gp} {d : Nat} (hst : l.stackTraces = false) {a0 : Nat} {a1 : Int32} {a2 : Nat} {w : Mm} {z mc ms : Nat} {Q : Int32 → Mm → Nat → Prop} {X : String → Mm → Nat → Prop} (h : F_L_ticketKind a0 a1 a2 w z mc ms Q) : Ct l g yL_ticketKind (.codeWith yL_ticketKind cL_ticketKind 4 (some .int) [(0, 9, 12, 19)]) (d + 8) mc ms [.ref (a0), .int (a1), .ref (a2)] w z (rI Q) X := by
  refine Ct.ofH hst (by decide) (Nat.le_of_ble_eq_true rfl) (fun C hX hE hg hl hNm => ?_)
  subst hg
  subst hl
  unfold F_L_ticketKind at h
  show VW C 0 [(0, .ref (a0)), (1, .int (a1)), (2, .ref (a2))] [] w z mc ms
  refine vw_aload_n hX 2 dL_ticketKind_0 rfl ?_
  refine vw_iconst hX (v := 0) dL_ticketKind_1 (by decide) ?_
  refine vw_aload_n hX 0 dL_ticketKind_2 rfl ?_
  refine vw_iload_n hX 1 dL_ticketKind_3 rfl ?_
  obtain ⟨hr1, h⟩ := h
  obtain ⟨k5, k6, hm1, hm2, h⟩ := h
  refine s_L_90 hX hr1 dL_ticketKind_4 (Nat.le_of_ble_eq_true rfl) hm1 hm2 (ct_X5_ticketKind (d := d + 0) (lst hX) h) (fun r2 w3 z4 h => ?_) (fun E7 w8 z9 h => ?_)
  · skip
    refine vw_i2l hX dL_ticketKind_7 ?_
    obtain ⟨n11, f10, hf10, hif10, h⟩ := h
    refine vw_last hX hf10 hif10 dL_ticketKind_8 ?_
    refine vw_nmW (fun w12 ew12 => ?_)
    have h := h w12 ew12
    refine vw_goto hX (tgt := 15) dL_ticketKind_9 (by decide) ?_
    refine vw_iconst hX (v := 0) dL_ticketKind_15 (by decide) ?_
    exact vw_iret hX hE dL_ticketKind_16 ⟨_, rfl, h⟩
  · skip
    by_cases c0 : E7 = "java/lang/IndexOutOfBoundsException"
    · have h9 := h.1 c0
      clear h
      have h := h9
      clear h9
      subst c0
      refine vw_catch hX [] [] rfl (fun _ hq => absurd hq List.not_mem_nil) ⟨by decide, by decide⟩ (by decide) kw_1214 (by decide +kernel) (fun u => ?_)
      refine vw_astore_n hX dL_ticketKind_12 (by decide) rfl ?_
      refine vw_iconst hX (v := 1) dL_ticketKind_13 (by decide) ?_
      exact vw_iret hX hE dL_ticketKind_14 ⟨_, rfl, h⟩
    replace h := h.2 c0
    exact h.elim
def F_L_ticketZones (a0 : Nat) (a1 : Int32) (a2 : Nat) (w : Mm) (z : Nat) (mc ms : Nat) (Q : Int32 → Mm → Nat → Prop) : Prop :=
  isO w a0 9 ∧ ∃ k5 k6, k5 ≤ mc ∧ k6 ≤ ms ∧ F_X5_ticketZones a0 a1 w z k5 k6 (fun r2 w3 z4 => ∃ n11 f10, arL w3 a2 = some (n11, f10) ∧ vp_in 0 n11 ∧ ∀ w12, w12 = mset w3 a2 (.inr (3, n11, .inr (.inl (vp_updL f10 (0 : Int32).toNatClampNeg ((r2 : Int32).toInt64))))) → Q 0 w12 z4) (fun E7 w8 z9 => (E7 = "java/lang/IndexOutOfBoundsException" → Q 1 w8 z9) ∧ (¬ E7 = "java/lang/IndexOutOfBoundsException" → False))
set_option maxRecDepth 100000 in
set_option maxHeartbeats 4000000 in
theorem ct_L_ticketZones {l : Launch} {g : Gp} {d : Nat} (hst : l.stackTraces = false) {a0 : Nat} {a1 : Int32} {a2 : Nat} {w : Mm} {z mc ms : Nat} {Q : Int32 → Mm → Nat → Prop} {X : String → Mm → Nat → Prop} (h : F_L_ticketZones a0 a1 a2 w z mc ms Q) : Ct l g yL_ticketZones (.codeWith yL_ticketZones cL_ticketZones 4 (some .int) [(0, 9, 12, 19)]) (d + 8) mc ms [.ref (a0), .int (a1), .ref (a2)] w z (rI Q) X := by
  refine Ct.ofH hst (by decide) (Nat.le_of_ble_eq_true rfl) (fun C hX hE hg hl hNm => ?_)
  subst hg
  subst hl
  unfold F_L_ticketZones at h
  show VW C 0 [(0, .ref (a0)), (1, .int (a1)), (2, .ref (a2))] [] w z mc ms
  refine vw_aload_n hX 2 dL_ticketZones_0 rfl ?_
  refine vw_iconst hX (v := 0) dL_ticketZones_1 (by decide) ?_
  refine vw_aload_n hX 0 dL_ticketZones_2 rfl ?_
  refine vw_iload_n hX 1 dL_ticketZones_3 rfl ?_
  obtain ⟨hr1, h⟩ := h
  obtain ⟨k5, k6, hm1, hm2, h⟩ := h
  refine s_L_93 hX hr1 dL_ticketZones_4 (Nat.le_of_ble_eq_true rfl) hm1 hm2 (ct_X5_ticketZones (d := d + 0) (lst hX) h) (fun r2 w3 z4 h => ?_) (fun E7 w8 z9 h => ?_)
  · skip
    refine vw_i2l hX dL_ticketZones_7 ?_
    obtain ⟨n11, f10, hf10, hif10, h⟩ := h
    refine vw_last hX hf10 hif10 dL_ticketZones_8 ?_
    refine vw_nmW (fun w12 ew12 => ?_)
    have h := h w12 ew12
    refine vw_goto hX (tgt := 15) dL_ticketZones_9 (by decide) ?_
    refine vw_iconst hX (v := 0) dL_ticketZones_15 (by decide) ?_
    exact vw_iret hX hE dL_ticketZones_16 ⟨_, rfl, h⟩
  · skip
    by_cases c0 : E7 = "java/lang/IndexOutOfBoundsException"
    · have h9 := h.1 c0
      clear h
      have h := h9
      clear h9
      subst c0
      refine vw_catch hX [] [] rfl (fun _ hq => absurd hq List.not_mem_nil) ⟨by decide, by decide⟩ (by decide) kw_1214 (by decide +kernel) (fun u => ?_)
      refine vw_astore_n hX dL_ticketZones_12 (by decide) rfl ?_
      refine vw_iconst hX (v := 1) dL_ticketZones_13 (by decide) ?_
      exact vw_iret hX hE dL_ticketZones_14 ⟨_, rfl, h⟩
    replace h := h.2 c0
    exact h.elim
def F_L_ticketPrice (a0 : Nat) (a1 : Int32) (a2 : Nat) (w : Mm) (z : Nat) (mc ms : Nat) (Q : Int32 → Mm → Nat → Prop) : Prop :=
  isO w a0 9 ∧ ∃ k5 k6, k5 ≤ mc ∧ k6 ≤ ms ∧ F_X5_ticketPrice a0 a1 w z k5 k6 (fun r2 w3 z4 => ∃ n11 f10, arL w3 a2 = some (n11, f10) ∧ vp_in 0 n11 ∧ ∀ w12, w12 = mset w3 a2 (.inr (3, n11, .inr (.inl (vp_updL f10 (0 : Int32).toNatClampNeg ((r2 : Int32).toInt64))))) → Q 0 w12 z4) (fun E7 w8 z9 => (E7 = "java/lang/IndexOutOfBoundsException" → Q 1 w8 z9) ∧ (¬ E7 = "java/lang/IndexOutOfBoundsException" → False))
set_option maxRecDepth 100000 in
set_option maxHeartbeats 4000000 in
theorem ct_L_ticketPrice {l : Launch} {g : Gp} {d : Nat} (hst : l.stackTraces = false) {a0 : Nat} {a1 : Int32} {a2 : Nat} {w : Mm} {z mc ms : Nat} {Q : Int32 → Mm → Nat → Prop} {X : String → Mm → Nat → Prop} (h : F_L_ticketPrice a0 a1 a2 w z mc ms Q) : Ct l g yL_ticketPrice (.codeWith yL_ticketPrice cL_ticketPrice 4 (some .int) [(0, 9, 12, 19)]) (d + 8) mc ms [.ref (a0), .int (a1), .ref (a2)] w z (rI Q) X := by
  refine Ct.ofH hst (by decide) (Nat.le_of_ble_eq_true rfl) (fun C hX hE hg hl hNm => ?_)
  subst hg
  subst hl
  unfold F_L_ticketPrice at h
  show VW C 0 [(0, .ref (a0)), (1, .int (a1)), (2, .ref (a2))] [] w z mc ms
  refine vw_aload_n hX 2 dL_ticketPrice_0 rfl ?_
  refine vw_iconst hX (v := 0) dL_ticketPrice_1 (by decide) ?_
  refine vw_aload_n hX 0 dL_ticketPrice_2 rfl ?_
  refine vw_iload_n hX 1 dL_ticketPrice_3 rfl ?_
  obtain ⟨hr1, h⟩ := h
  obtain ⟨k5, k6, hm1, hm2, h⟩ := h
  refine s_L_96 hX hr1 dL_ticketPrice_4 (Nat.le_of_ble_eq_true rfl) hm1 hm2 (ct_X5_ticketPrice (d := d + 0) (lst hX) h) (fun r2 w3 z4 h => ?_) (fun E7 w8 z9 h => ?_)
  · skip
    refine vw_i2l hX dL_ticketPrice_7 ?_
    obtain ⟨n11, f10, hf10, hif10, h⟩ := h
    refine vw_last hX hf10 hif10 dL_ticketPrice_8 ?_
    refine vw_nmW (fun w12 ew12 => ?_)
    have h := h w12 ew12
    refine vw_goto hX (tgt := 15) dL_ticketPrice_9 (by decide) ?_
    refine vw_iconst hX (v := 0) dL_ticketPrice_15 (by decide) ?_
    exact vw_iret hX hE dL_ticketPrice_16 ⟨_, rfl, h⟩
  · skip
    by_cases c0 : E7 = "java/lang/IndexOutOfBoundsException"
    · have h9 := h.1 c0
      clear h
      have h := h9
      clear h9
      subst c0
      refine vw_catch hX [] [] rfl (fun _ hq => absurd hq List.not_mem_nil) ⟨by decide, by decide⟩ (by decide) kw_1214 (by decide +kernel) (fun u => ?_)
      refine vw_astore_n hX dL_ticketPrice_12 (by decide) rfl ?_
      refine vw_iconst hX (v := 1) dL_ticketPrice_13 (by decide) ?_
      exact vw_iret hX hE dL_ticketPrice_14 ⟨_, rfl, h⟩
    replace h := h.2 c0
    exact h.elim
def F_L_stampTime (a0 : Nat) (a1 : Int32) (a2 : Nat) (w : Mm) (z : Nat) (mc ms : Nat) (Q : Int32 → Mm → Nat → Prop) : Prop :=
  isO w a0 9 ∧ ∃ k5 k6, k5 ≤ mc ∧ k6 ≤ ms ∧ F_X5_stampTime a0 a1 w z k5 k6 (fun r2 w3 z4 => ∃ n11 f10, arL w3 a2 = some (n11, f10) ∧ vp_in 0 n11 ∧ ∀ w12, w12 = mset w3 a2 (.inr (3, n11, .inr (.inl (vp_updL f10 (0 : Int32).toNatClampNeg ((r2 : Int32).toInt64))))) → Q 0 w12 z4) (fun E7 w8 z9 => (E7 = "java/lang/IndexOutOfBoundsException" → Q 1 w8 z9) ∧ (¬ E7 = "java/lang/IndexOutOfBoundsException" → False))
set_option maxRecDepth 100000 in
set_option maxHeartbeats 4000000 in
theorem ct_L_stampTime {l : Launch} {g : Gp} {d : Nat} (hst : l.stackTraces = false) {a0 : Nat} {a1 : Int32} {a2 : Nat} {w : Mm} {z mc ms : Nat} {Q : Int32 → Mm → Nat → Prop} {X : String → Mm → Nat → Prop} (h : F_L_stampTime a0 a1 a2 w z mc ms Q) : Ct l g yL_stampTime (.codeWith yL_stampTime cL_stampTime 4 (some .int) [(0, 9, 12, 19)]) (d + 8) mc ms [.ref (a0), .int (a1), .ref (a2)] w z (rI Q) X := by
  refine Ct.ofH hst (by decide) (Nat.le_of_ble_eq_true rfl) (fun C hX hE hg hl hNm => ?_)
  subst hg
  subst hl
  unfold F_L_stampTime at h
  show VW C 0 [(0, .ref (a0)), (1, .int (a1)), (2, .ref (a2))] [] w z mc ms
  refine vw_aload_n hX 2 dL_stampTime_0 rfl ?_
  refine vw_iconst hX (v := 0) dL_stampTime_1 (by decide) ?_
  refine vw_aload_n hX 0 dL_stampTime_2 rfl ?_
  refine vw_iload_n hX 1 dL_stampTime_3 rfl ?_
  obtain ⟨hr1, h⟩ := h
  obtain ⟨k5, k6, hm1, hm2, h⟩ := h
  refine s_L_99 hX hr1 dL_stampTime_4 (Nat.le_of_ble_eq_true rfl) hm1 hm2 (ct_X5_stampTime (d := d + 0) (lst hX) h) (fun r2 w3 z4 h => ?_) (fun E7 w8 z9 h => ?_)
  · skip
    refine vw_i2l hX dL_stampTime_7 ?_
    obtain ⟨n11, f10, hf10, hif10, h⟩ := h
    refine vw_last hX hf10 hif10 dL_stampTime_8 ?_
    refine vw_nmW (fun w12 ew12 => ?_)
    have h := h w12 ew12
    refine vw_goto hX (tgt := 15) dL_stampTime_9 (by decide) ?_
    refine vw_iconst hX (v := 0) dL_stampTime_15 (by decide) ?_
    exact vw_iret hX hE dL_stampTime_16 ⟨_, rfl, h⟩
  · skip
    by_cases c0 : E7 = "java/lang/IndexOutOfBoundsException"
    · have h9 := h.1 c0
      clear h
      have h := h9
      clear h9
      subst c0
      refine vw_catch hX [] [] rfl (fun _ hq => absurd hq List.not_mem_nil) ⟨by decide, by decide⟩ (by decide) kw_1214 (by decide +kernel) (fun u => ?_)
      refine vw_astore_n hX dL_stampTime_12 (by decide) rfl ?_
      refine vw_iconst hX (v := 1) dL_stampTime_13 (by decide) ?_
      exact vw_iret hX hE dL_stampTime_14 ⟨_, rfl, h⟩
    replace h := h.2 c0
    exact h.elim
def F_L_stampStop (a0 : Nat) (a1 : Int32) (a2 : Nat) (w : Mm) (z : Nat) (mc ms : Nat) (Q : Int32 → Mm → Nat → Prop) : Prop :=
  isO w a0 9 ∧ ∃ k5 k6, k5 ≤ mc ∧ k6 ≤ ms ∧ F_X5_stampStop a0 a1 w z k5 k6 (fun r2 w3 z4 => ∃ n11 f10, arL w3 a2 = some (n11, f10) ∧ vp_in 0 n11 ∧ ∀ w12, w12 = mset w3 a2 (.inr (3, n11, .inr (.inl (vp_updL f10 (0 : Int32).toNatClampNeg ((r2 : Int32).toInt64))))) → Q 0 w12 z4) (fun E7 w8 z9 => (E7 = "java/lang/IndexOutOfBoundsException" → Q 1 w8 z9) ∧ (¬ E7 = "java/lang/IndexOutOfBoundsException" → False))
set_option maxRecDepth 100000 in
set_option maxHeartbeats 4000000 in
theorem ct_L_stampStop {l : Launch} {g : Gp} {d : Nat} (hst : l.stackTraces = false) {a0 : Nat} {a1 : Int32} {a2 : Nat} {w : Mm} {z mc ms : Nat} {Q : Int32 → Mm → Nat → Prop} {X : String → Mm → Nat → Prop} (h : F_L_stampStop a0 a1 a2 w z mc ms Q) : Ct l g yL_stampStop (.codeWith yL_stampStop cL_stampStop 4 (some .int) [(0, 9, 12, 19)]) (d + 8) mc ms [.ref (a0), .int (a1), .ref (a2)] w z (rI Q) X := by
  refine Ct.ofH hst (by decide) (Nat.le_of_ble_eq_true rfl) (fun C hX hE hg hl hNm => ?_)
  subst hg
  subst hl
  unfold F_L_stampStop at h
  show VW C 0 [(0, .ref (a0)), (1, .int (a1)), (2, .ref (a2))] [] w z mc ms
  refine vw_aload_n hX 2 dL_stampStop_0 rfl ?_
  refine vw_iconst hX (v := 0) dL_stampStop_1 (by decide) ?_
  refine vw_aload_n hX 0 dL_stampStop_2 rfl ?_
  refine vw_iload_n hX 1 dL_stampStop_3 rfl ?_
  obtain ⟨hr1, h⟩ := h
  obtain ⟨k5, k6, hm1, hm2, h⟩ := h
  refine s_L_102 hX hr1 dL_stampStop_4 (Nat.le_of_ble_eq_true rfl) hm1 hm2 (ct_X5_stampStop (d := d + 0) (lst hX) h) (fun r2 w3 z4 h => ?_) (fun E7 w8 z9 h => ?_)
  · skip
    refine vw_i2l hX dL_stampStop_7 ?_
    obtain ⟨n11, f10, hf10, hif10, h⟩ := h
    refine vw_last hX hf10 hif10 dL_stampStop_8 ?_
    refine vw_nmW (fun w12 ew12 => ?_)
    have h := h w12 ew12
    refine vw_goto hX (tgt := 15) dL_stampStop_9 (by decide) ?_
    refine vw_iconst hX (v := 0) dL_stampStop_15 (by decide) ?_
    exact vw_iret hX hE dL_stampStop_16 ⟨_, rfl, h⟩
  · skip
    by_cases c0 : E7 = "java/lang/IndexOutOfBoundsException"
    · have h9 := h.1 c0
      clear h
      have h := h9
      clear h9
      subst c0
      refine vw_catch hX [] [] rfl (fun _ hq => absurd hq List.not_mem_nil) ⟨by decide, by decide⟩ (by decide) kw_1214 (by decide +kernel) (fun u => ?_)
      refine vw_astore_n hX dL_stampStop_12 (by decide) rfl ?_
      refine vw_iconst hX (v := 1) dL_stampStop_13 (by decide) ?_
      exact vw_iret hX hE dL_stampStop_14 ⟨_, rfl, h⟩
    replace h := h.2 c0
    exact h.elim
def F_L_ticketRides (a0 : Nat) (a1 : Int32) (a2 : Nat) (w : Mm) (z : Nat) (mc ms : Nat) (Q : Int32 → Mm → Nat → Prop) : Prop :=
  isO w a0 9 ∧ ∃ k5 k6, k5 ≤ mc ∧ k6 ≤ ms ∧ F_X5_ticketRides a0 a1 w z k5 k6 (fun r2 w3 z4 => ∃ n11 f10, arL w3 a2 = some (n11, f10) ∧ vp_in 0 n11 ∧ ∀ w12, w12 = mset w3 a2 (.inr (3, n11, .inr (.inl (vp_updL f10 (0 : Int32).toNatClampNeg ((r2 : Int32).toInt64))))) → Q 0 w12 z4) (fun E7 w8 z9 => (E7 = "java/lang/IndexOutOfBoundsException" → Q 1 w8 z9) ∧ (¬ E7 = "java/lang/IndexOutOfBoundsException" → False))
set_option maxRecDepth 100000 in
set_option maxHeartbeats 4000000 in
theorem ct_L_ticketRides {l : Launch} {g : Gp} {d : Nat} (hst : l.stackTraces = false) {a0 : Nat} {a1 : Int32} {a2 : Nat} {w : Mm} {z mc ms : Nat} {Q : Int32 → Mm → Nat → Prop} {X : String → Mm → Nat → Prop} (h : F_L_ticketRides a0 a1 a2 w z mc ms Q) : Ct l g yL_ticketRides (.codeWith yL_ticketRides cL_ticketRides 4 (some .int) [(0, 9, 12, 19)]) (d + 8) mc ms [.ref (a0), .int (a1), .ref (a2)] w z (rI Q) X := by
  refine Ct.ofH hst (by decide) (Nat.le_of_ble_eq_true rfl) (fun C hX hE hg hl hNm => ?_)
  subst hg
  subst hl
  unfold F_L_ticketRides at h
  show VW C 0 [(0, .ref (a0)), (1, .int (a1)), (2, .ref (a2))] [] w z mc ms
  refine vw_aload_n hX 2 dL_ticketRides_0 rfl ?_
  refine vw_iconst hX (v := 0) dL_ticketRides_1 (by decide) ?_
  refine vw_aload_n hX 0 dL_ticketRides_2 rfl ?_
  refine vw_iload_n hX 1 dL_ticketRides_3 rfl ?_
  obtain ⟨hr1, h⟩ := h
  obtain ⟨k5, k6, hm1, hm2, h⟩ := h
  refine s_L_105 hX hr1 dL_ticketRides_4 (Nat.le_of_ble_eq_true rfl) hm1 hm2 (ct_X5_ticketRides (d := d + 0) (lst hX) h) (fun r2 w3 z4 h => ?_) (fun E7 w8 z9 h => ?_)
  · skip
    refine vw_i2l hX dL_ticketRides_7 ?_
    obtain ⟨n11, f10, hf10, hif10, h⟩ := h
    refine vw_last hX hf10 hif10 dL_ticketRides_8 ?_
    refine vw_nmW (fun w12 ew12 => ?_)
    have h := h w12 ew12
    refine vw_goto hX (tgt := 15) dL_ticketRides_9 (by decide) ?_
    refine vw_iconst hX (v := 0) dL_ticketRides_15 (by decide) ?_
    exact vw_iret hX hE dL_ticketRides_16 ⟨_, rfl, h⟩
  · skip
    by_cases c0 : E7 = "java/lang/IndexOutOfBoundsException"
    · have h9 := h.1 c0
      clear h
      have h := h9
      clear h9
      subst c0
      refine vw_catch hX [] [] rfl (fun _ hq => absurd hq List.not_mem_nil) ⟨by decide, by decide⟩ (by decide) kw_1214 (by decide +kernel) (fun u => ?_)
      refine vw_astore_n hX dL_ticketRides_12 (by decide) rfl ?_
      refine vw_iconst hX (v := 1) dL_ticketRides_13 (by decide) ?_
      exact vw_iret hX hE dL_ticketRides_14 ⟨_, rfl, h⟩
    replace h := h.2 c0
    exact h.elim
def F_L_isInTime (a0 : Nat) (a1 : Int32) (a2 : Nat) (w : Mm) (z : Nat) (mc ms : Nat) (Q : Int32 → Mm → Nat → Prop) : Prop :=
  isO w a0 9 ∧ ∃ k5 k6, k5 ≤ mc ∧ k6 ≤ ms ∧ F_X5_isInTime a0 a1 w z k5 k6 (fun r2 w3 z4 => (r2 = 0 → ∃ n12 f11, arL w3 a2 = some (n12, f11) ∧ vp_in 0 n12 ∧ ∀ w13, w13 = mset w3 a2 (.inr (3, n12, .inr (.inl (vp_updL f11 (0 : Int32).toNatClampNeg 0)))) → Q 0 w13 z4) ∧
  (¬ r2 = 0 → ∃ n15 f14, arL w3 a2 = some (n15, f14) ∧ vp_in 0 n15 ∧ ∀ w16, w16 = mset w3 a2 (.inr (3, n15, .inr (.inl (vp_updL f14 (0 : Int32).toNatClampNeg 1)))) → Q 0 w16 z4)) (fun E7 w8 z9 => (E7 = "java/lang/IndexOutOfBoundsException" → Q 1 w8 z9) ∧ (¬ E7 = "java/lang/IndexOutOfBoundsException" → False))
set_option maxRecDepth 100000 in
set_option maxHeartbeats 4000000 in
theorem ct_L_isInTime {l : Launch} {g : Gp} {d : Nat} (hst : l.stackTraces = false) {a0 : Nat} {a1 : Int32} {a2 : Nat} {w : Mm} {z mc ms : Nat} {Q : Int32 → Mm → Nat → Prop} {X : String → Mm → Nat → Prop} (h : F_L_isInTime a0 a1 a2 w z mc ms Q) : Ct l g yL_isInTime (.codeWith yL_isInTime cL_isInTime 4 (some .int) [(0, 16, 19, 19)]) (d + 8) mc ms [.ref (a0), .int (a1), .ref (a2)] w z (rI Q) X := by
  refine Ct.ofH hst (by decide) (Nat.le_of_ble_eq_true rfl) (fun C hX hE hg hl hNm => ?_)
  subst hg
  subst hl
  unfold F_L_isInTime at h
  show VW C 0 [(0, .ref (a0)), (1, .int (a1)), (2, .ref (a2))] [] w z mc ms
  refine vw_aload_n hX 2 dL_isInTime_0 rfl ?_
  refine vw_iconst hX (v := 0) dL_isInTime_1 (by decide) ?_
  refine vw_aload_n hX 0 dL_isInTime_2 rfl ?_
  refine vw_iload_n hX 1 dL_isInTime_3 rfl ?_
  obtain ⟨hr1, h⟩ := h
  obtain ⟨k5, k6, hm1, hm2, h⟩ := h
  refine s_L_108 hX hr1 dL_isInTime_4 (Nat.le_of_ble_eq_true rfl) hm1 hm2 (ct_X5_isInTime (d := d + 0) (lst hX) h) (fun r2 w3 z4 h => ?_) (fun E7 w8 z9 h => ?_)
  · skip
    refine vw_if_eq hX (tgt := 14) dL_isInTime_7 (by decide) (fun c10 => ?_) (fun c10 => ?_)
    · have h := h.1 c10
      refine vw_lconst hX (v := 0) dL_isInTime_14 (by decide) ?_
      obtain ⟨n12, f11, hf11, hif11, h⟩ := h
      refine vw_last hX hf11 hif11 dL_isInTime_15 ?_
      refine vw_nmW (fun w13 ew13 => ?_)
      have h := h w13 ew13
      refine vw_goto hX (tgt := 22) dL_isInTime_16 (by decide) ?_
      refine vw_iconst hX (v := 0) dL_isInTime_22 (by decide) ?_
      exact vw_iret hX hE dL_isInTime_23 ⟨_, rfl, h⟩
    · have h := h.2 c10
      refine vw_lconst hX (v := 1) dL_isInTime_10 (by decide) ?_
      refine vw_goto hX (tgt := 15) dL_isInTime_11 (by decide) ?_
      obtain ⟨n15, f14, hf14, hif14, h⟩ := h
      refine vw_last hX hf14 hif14 dL_isInTime_15 ?_
      refine vw_nmW (fun w16 ew16 => ?_)
      have h := h w16 ew16
      refine vw_goto hX (tgt := 22) dL_isInTime_16 (by decide) ?_
      refine vw_iconst hX (v := 0) dL_isInTime_22 (by decide) ?_
      exact vw_iret hX hE dL_isInTime_23 ⟨_, rfl, h⟩
  · skip
    by_cases c0 : E7 = "java/lang/IndexOutOfBoundsException"
    · have h9 := h.1 c0
      clear h
      have h := h9
      clear h9
      subst c0
      refine vw_catch hX [] [] rfl (fun _ hq => absurd hq List.not_mem_nil) ⟨by decide, by decide⟩ (by decide) kw_1214 (by decide +kernel) (fun u => ?_)
      refine vw_astore_n hX dL_isInTime_19 (by decide) rfl ?_
      refine vw_iconst hX (v := 1) dL_isInTime_20 (by decide) ?_
      exact vw_iret hX hE dL_isInTime_21 ⟨_, rfl, h⟩
    replace h := h.2 c0
    exact h.elim
def F_L_casePassenger (a0 : Nat) (a1 : Int32) (a2 : Nat) (w : Mm) (z : Nat) (mc ms : Nat) (Q : Int32 → Mm → Nat → Prop) : Prop :=
  isO w a0 9 ∧ ∃ k5 k6, k5 ≤ mc ∧ k6 ≤ ms ∧ F_X5_casePassenger a0 a1 w z k5 k6 (fun r2 w3 z4 => ∃ n11 f10, arL w3 a2 = some (n11, f10) ∧ vp_in 0 n11 ∧ ∀ w12, w12 = mset w3 a2 (.inr (3, n11, .inr (.inl (vp_updL f10 (0 : Int32).toNatClampNeg ((r2 : Int32).toInt64))))) → Q 0 w12 z4) (fun E7 w8 z9 => (E7 = "java/lang/IndexOutOfBoundsException" → Q 1 w8 z9) ∧ (¬ E7 = "java/lang/IndexOutOfBoundsException" → False))
set_option maxRecDepth 100000 in
set_option maxHeartbeats 4000000 in
theorem ct_L_casePassenger {l : Launch} {g : Gp} {d : Nat} (hst : l.stackTraces = false) {a0 : Nat} {a1 : Int32} {a2 : Nat} {w : Mm} {z mc ms : Nat} {Q : Int32 → Mm → Nat → Prop} {X : String → Mm → Nat → Prop} (h : F_L_casePassenger a0 a1 a2 w z mc ms Q) : Ct l g yL_casePassenger (.codeWith yL_casePassenger cL_casePassenger 4 (some .int) [(0, 9, 12, 19)]) (d + 8) mc ms [.ref (a0), .int (a1), .ref (a2)] w z (rI Q) X := by
  refine Ct.ofH hst (by decide) (Nat.le_of_ble_eq_true rfl) (fun C hX hE hg hl hNm => ?_)
  subst hg
  subst hl
  unfold F_L_casePassenger at h
  show VW C 0 [(0, .ref (a0)), (1, .int (a1)), (2, .ref (a2))] [] w z mc ms
  refine vw_aload_n hX 2 dL_casePassenger_0 rfl ?_
  refine vw_iconst hX (v := 0) dL_casePassenger_1 (by decide) ?_
  refine vw_aload_n hX 0 dL_casePassenger_2 rfl ?_
  refine vw_iload_n hX 1 dL_casePassenger_3 rfl ?_
  obtain ⟨hr1, h⟩ := h
  obtain ⟨k5, k6, hm1, hm2, h⟩ := h
  refine s_L_111 hX hr1 dL_casePassenger_4 (Nat.le_of_ble_eq_true rfl) hm1 hm2 (ct_X5_casePassenger (d := d + 0) (lst hX) h) (fun r2 w3 z4 h => ?_) (fun E7 w8 z9 h => ?_)
  · skip
    refine vw_i2l hX dL_casePassenger_7 ?_
    obtain ⟨n11, f10, hf10, hif10, h⟩ := h
    refine vw_last hX hf10 hif10 dL_casePassenger_8 ?_
    refine vw_nmW (fun w12 ew12 => ?_)
    have h := h w12 ew12
    refine vw_goto hX (tgt := 15) dL_casePassenger_9 (by decide) ?_
    refine vw_iconst hX (v := 0) dL_casePassenger_15 (by decide) ?_
    exact vw_iret hX hE dL_casePassenger_16 ⟨_, rfl, h⟩
  · skip
    by_cases c0 : E7 = "java/lang/IndexOutOfBoundsException"
    · have h9 := h.1 c0
      clear h
      have h := h9
      clear h9
      subst c0
      refine vw_catch hX [] [] rfl (fun _ hq => absurd hq List.not_mem_nil) ⟨by decide, by decide⟩ (by decide) kw_1214 (by decide +kernel) (fun u => ?_)
      refine vw_astore_n hX dL_casePassenger_12 (by decide) rfl ?_
      refine vw_iconst hX (v := 1) dL_casePassenger_13 (by decide) ?_
      exact vw_iret hX hE dL_casePassenger_14 ⟨_, rfl, h⟩
    replace h := h.2 c0
    exact h.elim
def F_L_caseFault (a0 : Nat) (a1 : Int32) (a2 : Nat) (w : Mm) (z : Nat) (mc ms : Nat) (Q : Int32 → Mm → Nat → Prop) : Prop :=
  isO w a0 9 ∧ ∃ k5 k6, k5 ≤ mc ∧ k6 ≤ ms ∧ F_X5_caseFault a0 a1 w z k5 k6 (fun r2 w3 z4 => ∃ n11 f10, arL w3 a2 = some (n11, f10) ∧ vp_in 0 n11 ∧ ∀ w12, w12 = mset w3 a2 (.inr (3, n11, .inr (.inl (vp_updL f10 (0 : Int32).toNatClampNeg ((r2 : Int32).toInt64))))) → Q 0 w12 z4) (fun E7 w8 z9 => (E7 = "java/lang/IndexOutOfBoundsException" → Q 1 w8 z9) ∧ (¬ E7 = "java/lang/IndexOutOfBoundsException" → False))
set_option maxRecDepth 100000 in
set_option maxHeartbeats 4000000 in
theorem ct_L_caseFault {l : Launch} {g : Gp} {d : Nat} (hst : l.stackTraces = false) {a0 : Nat} {a1 : Int32} {a2 : Nat} {w : Mm} {z mc ms : Nat} {Q : Int32 → Mm → Nat → Prop} {X : String → Mm → Nat → Prop} (h : F_L_caseFault a0 a1 a2 w z mc ms Q) : Ct l g yL_caseFault (.codeWith yL_caseFault cL_caseFault 4 (some .int) [(0, 9, 12, 19)]) (d + 8) mc ms [.ref (a0), .int (a1), .ref (a2)] w z (rI Q) X := by
  refine Ct.ofH hst (by decide) (Nat.le_of_ble_eq_true rfl) (fun C hX hE hg hl hNm => ?_)
  subst hg
  subst hl
  unfold F_L_caseFault at h
  show VW C 0 [(0, .ref (a0)), (1, .int (a1)), (2, .ref (a2))] [] w z mc ms
  refine vw_aload_n hX 2 dL_caseFault_0 rfl ?_
  refine vw_iconst hX (v := 0) dL_caseFault_1 (by decide) ?_
  refine vw_aload_n hX 0 dL_caseFault_2 rfl ?_
  refine vw_iload_n hX 1 dL_caseFault_3 rfl ?_
  obtain ⟨hr1, h⟩ := h
  obtain ⟨k5, k6, hm1, hm2, h⟩ := h
  refine s_L_114 hX hr1 dL_caseFault_4 (Nat.le_of_ble_eq_true rfl) hm1 hm2 (ct_X5_caseFault (d := d + 0) (lst hX) h) (fun r2 w3 z4 h => ?_) (fun E7 w8 z9 h => ?_)
  · skip
    refine vw_i2l hX dL_caseFault_7 ?_
    obtain ⟨n11, f10, hf10, hif10, h⟩ := h
    refine vw_last hX hf10 hif10 dL_caseFault_8 ?_
    refine vw_nmW (fun w12 ew12 => ?_)
    have h := h w12 ew12
    refine vw_goto hX (tgt := 15) dL_caseFault_9 (by decide) ?_
    refine vw_iconst hX (v := 0) dL_caseFault_15 (by decide) ?_
    exact vw_iret hX hE dL_caseFault_16 ⟨_, rfl, h⟩
  · skip
    by_cases c0 : E7 = "java/lang/IndexOutOfBoundsException"
    · have h9 := h.1 c0
      clear h
      have h := h9
      clear h9
      subst c0
      refine vw_catch hX [] [] rfl (fun _ hq => absurd hq List.not_mem_nil) ⟨by decide, by decide⟩ (by decide) kw_1214 (by decide +kernel) (fun u => ?_)
      refine vw_astore_n hX dL_caseFault_12 (by decide) rfl ?_
      refine vw_iconst hX (v := 1) dL_caseFault_13 (by decide) ?_
      exact vw_iret hX hE dL_caseFault_14 ⟨_, rfl, h⟩
    replace h := h.2 c0
    exact h.elim
def F_L_caseState (a0 : Nat) (a1 : Int32) (a2 : Nat) (w : Mm) (z : Nat) (mc ms : Nat) (Q : Int32 → Mm → Nat → Prop) : Prop :=
  isO w a0 9 ∧ ∃ k5 k6, k5 ≤ mc ∧ k6 ≤ ms ∧ F_X5_caseState a0 a1 w z k5 k6 (fun r2 w3 z4 => ∃ n11 f10, arL w3 a2 = some (n11, f10) ∧ vp_in 0 n11 ∧ ∀ w12, w12 = mset w3 a2 (.inr (3, n11, .inr (.inl (vp_updL f10 (0 : Int32).toNatClampNeg ((r2 : Int32).toInt64))))) → Q 0 w12 z4) (fun E7 w8 z9 => (E7 = "java/lang/IndexOutOfBoundsException" → Q 1 w8 z9) ∧ (¬ E7 = "java/lang/IndexOutOfBoundsException" → False))
set_option maxRecDepth 100000 in
set_option maxHeartbeats 4000000 in
theorem ct_L_caseState {l : Launch} {g : Gp} {d : Nat} (hst : l.stackTraces = false) {a0 : Nat} {a1 : Int32} {a2 : Nat} {w : Mm} {z mc ms : Nat} {Q : Int32 → Mm → Nat → Prop} {X : String → Mm → Nat → Prop} (h : F_L_caseState a0 a1 a2 w z mc ms Q) : Ct l g yL_caseState (.codeWith yL_caseState cL_caseState 4 (some .int) [(0, 9, 12, 19)]) (d + 8) mc ms [.ref (a0), .int (a1), .ref (a2)] w z (rI Q) X := by
  refine Ct.ofH hst (by decide) (Nat.le_of_ble_eq_true rfl) (fun C hX hE hg hl hNm => ?_)
  subst hg
  subst hl
  unfold F_L_caseState at h
  show VW C 0 [(0, .ref (a0)), (1, .int (a1)), (2, .ref (a2))] [] w z mc ms
  refine vw_aload_n hX 2 dL_caseState_0 rfl ?_
  refine vw_iconst hX (v := 0) dL_caseState_1 (by decide) ?_
  refine vw_aload_n hX 0 dL_caseState_2 rfl ?_
  refine vw_iload_n hX 1 dL_caseState_3 rfl ?_
  obtain ⟨hr1, h⟩ := h
  obtain ⟨k5, k6, hm1, hm2, h⟩ := h
  refine s_L_117 hX hr1 dL_caseState_4 (Nat.le_of_ble_eq_true rfl) hm1 hm2 (ct_X5_caseState (d := d + 0) (lst hX) h) (fun r2 w3 z4 h => ?_) (fun E7 w8 z9 h => ?_)
  · skip
    refine vw_i2l hX dL_caseState_7 ?_
    obtain ⟨n11, f10, hf10, hif10, h⟩ := h
    refine vw_last hX hf10 hif10 dL_caseState_8 ?_
    refine vw_nmW (fun w12 ew12 => ?_)
    have h := h w12 ew12
    refine vw_goto hX (tgt := 15) dL_caseState_9 (by decide) ?_
    refine vw_iconst hX (v := 0) dL_caseState_15 (by decide) ?_
    exact vw_iret hX hE dL_caseState_16 ⟨_, rfl, h⟩
  · skip
    by_cases c0 : E7 = "java/lang/IndexOutOfBoundsException"
    · have h9 := h.1 c0
      clear h
      have h := h9
      clear h9
      subst c0
      refine vw_catch hX [] [] rfl (fun _ hq => absurd hq List.not_mem_nil) ⟨by decide, by decide⟩ (by decide) kw_1214 (by decide +kernel) (fun u => ?_)
      refine vw_astore_n hX dL_caseState_12 (by decide) rfl ?_
      refine vw_iconst hX (v := 1) dL_caseState_13 (by decide) ?_
      exact vw_iret hX hE dL_caseState_14 ⟨_, rfl, h⟩
    replace h := h.2 c0
    exact h.elim
def F_L_caseTime (a0 : Nat) (a1 : Int32) (a2 : Nat) (w : Mm) (z : Nat) (mc ms : Nat) (Q : Int32 → Mm → Nat → Prop) : Prop :=
  isO w a0 9 ∧ ∃ k5 k6, k5 ≤ mc ∧ k6 ≤ ms ∧ F_X5_caseTime a0 a1 w z k5 k6 (fun r2 w3 z4 => ∃ n11 f10, arL w3 a2 = some (n11, f10) ∧ vp_in 0 n11 ∧ ∀ w12, w12 = mset w3 a2 (.inr (3, n11, .inr (.inl (vp_updL f10 (0 : Int32).toNatClampNeg ((r2 : Int32).toInt64))))) → Q 0 w12 z4) (fun E7 w8 z9 => (E7 = "java/lang/IndexOutOfBoundsException" → Q 1 w8 z9) ∧ (¬ E7 = "java/lang/IndexOutOfBoundsException" → False))
set_option maxRecDepth 100000 in
set_option maxHeartbeats 4000000 in
theorem ct_L_caseTime {l : Launch} {g : Gp} {d : Nat} (hst : l.stackTraces = false) {a0 : Nat} {a1 : Int32} {a2 : Nat} {w : Mm} {z mc ms : Nat} {Q : Int32 → Mm → Nat → Prop} {X : String → Mm → Nat → Prop} (h : F_L_caseTime a0 a1 a2 w z mc ms Q) : Ct l g yL_caseTime (.codeWith yL_caseTime cL_caseTime 4 (some .int) [(0, 9, 12, 19)]) (d + 8) mc ms [.ref (a0), .int (a1), .ref (a2)] w z (rI Q) X := by
  refine Ct.ofH hst (by decide) (Nat.le_of_ble_eq_true rfl) (fun C hX hE hg hl hNm => ?_)
  subst hg
  subst hl
  unfold F_L_caseTime at h
  show VW C 0 [(0, .ref (a0)), (1, .int (a1)), (2, .ref (a2))] [] w z mc ms
  refine vw_aload_n hX 2 dL_caseTime_0 rfl ?_
  refine vw_iconst hX (v := 0) dL_caseTime_1 (by decide) ?_
  refine vw_aload_n hX 0 dL_caseTime_2 rfl ?_
  refine vw_iload_n hX 1 dL_caseTime_3 rfl ?_
  obtain ⟨hr1, h⟩ := h
  obtain ⟨k5, k6, hm1, hm2, h⟩ := h
  refine s_L_120 hX hr1 dL_caseTime_4 (Nat.le_of_ble_eq_true rfl) hm1 hm2 (ct_X5_caseTime (d := d + 0) (lst hX) h) (fun r2 w3 z4 h => ?_) (fun E7 w8 z9 h => ?_)
  · skip
    refine vw_i2l hX dL_caseTime_7 ?_
    obtain ⟨n11, f10, hf10, hif10, h⟩ := h
    refine vw_last hX hf10 hif10 dL_caseTime_8 ?_
    refine vw_nmW (fun w12 ew12 => ?_)
    have h := h w12 ew12
    refine vw_goto hX (tgt := 15) dL_caseTime_9 (by decide) ?_
    refine vw_iconst hX (v := 0) dL_caseTime_15 (by decide) ?_
    exact vw_iret hX hE dL_caseTime_16 ⟨_, rfl, h⟩
  · skip
    by_cases c0 : E7 = "java/lang/IndexOutOfBoundsException"
    · have h9 := h.1 c0
      clear h
      have h := h9
      clear h9
      subst c0
      refine vw_catch hX [] [] rfl (fun _ hq => absurd hq List.not_mem_nil) ⟨by decide, by decide⟩ (by decide) kw_1214 (by decide +kernel) (fun u => ?_)
      refine vw_astore_n hX dL_caseTime_12 (by decide) rfl ?_
      refine vw_iconst hX (v := 1) dL_caseTime_13 (by decide) ?_
      exact vw_iret hX hE dL_caseTime_14 ⟨_, rfl, h⟩
    replace h := h.2 c0
    exact h.elim
def F_L_amountDue (a0 : Nat) (a1 : Int32) (a2 : Nat) (w : Mm) (z : Nat) (mc ms : Nat) (Q : Int32 → Mm → Nat → Prop) : Prop :=
  isO w a0 9 ∧ ∃ k5 k6, k5 ≤ mc ∧ k6 ≤ ms ∧ F_X5_amountDue a0 a1 w z k5 k6 (fun r2 w3 z4 => ∃ n11 f10, arL w3 a2 = some (n11, f10) ∧ vp_in 0 n11 ∧ ∀ w12, w12 = mset w3 a2 (.inr (3, n11, .inr (.inl (vp_updL f10 (0 : Int32).toNatClampNeg ((r2 : Int32).toInt64))))) → Q 0 w12 z4) (fun E7 w8 z9 => (E7 = "java/lang/IndexOutOfBoundsException" → Q 1 w8 z9) ∧ (¬ E7 = "java/lang/IndexOutOfBoundsException" → False))
set_option maxRecDepth 100000 in
set_option maxHeartbeats 4000000 in
theorem ct_L_amountDue {l : Launch} {g : Gp} {d : Nat} (hst : l.stackTraces = false) {a0 : Nat} {a1 : Int32} {a2 : Nat} {w : Mm} {z mc ms : Nat} {Q : Int32 → Mm → Nat → Prop} {X : String → Mm → Nat → Prop} (h : F_L_amountDue a0 a1 a2 w z mc ms Q) : Ct l g yL_amountDue (.codeWith yL_amountDue cL_amountDue 4 (some .int) [(0, 9, 12, 19)]) (d + 8) mc ms [.ref (a0), .int (a1), .ref (a2)] w z (rI Q) X := by
  refine Ct.ofH hst (by decide) (Nat.le_of_ble_eq_true rfl) (fun C hX hE hg hl hNm => ?_)
  subst hg
  subst hl
  unfold F_L_amountDue at h
  show VW C 0 [(0, .ref (a0)), (1, .int (a1)), (2, .ref (a2))] [] w z mc ms
  refine vw_aload_n hX 2 dL_amountDue_0 rfl ?_
  refine vw_iconst hX (v := 0) dL_amountDue_1 (by decide) ?_
  refine vw_aload_n hX 0 dL_amountDue_2 rfl ?_
  refine vw_iload_n hX 1 dL_amountDue_3 rfl ?_
  obtain ⟨hr1, h⟩ := h
  obtain ⟨k5, k6, hm1, hm2, h⟩ := h
  refine s_L_123 hX hr1 dL_amountDue_4 (Nat.le_of_ble_eq_true rfl) hm1 hm2 (ct_X5_amountDue (d := d + 0) (lst hX) h) (fun r2 w3 z4 h => ?_) (fun E7 w8 z9 h => ?_)
  · skip
    refine vw_i2l hX dL_amountDue_7 ?_
    obtain ⟨n11, f10, hf10, hif10, h⟩ := h
    refine vw_last hX hf10 hif10 dL_amountDue_8 ?_
    refine vw_nmW (fun w12 ew12 => ?_)
    have h := h w12 ew12
    refine vw_goto hX (tgt := 15) dL_amountDue_9 (by decide) ?_
    refine vw_iconst hX (v := 0) dL_amountDue_15 (by decide) ?_
    exact vw_iret hX hE dL_amountDue_16 ⟨_, rfl, h⟩
  · skip
    by_cases c0 : E7 = "java/lang/IndexOutOfBoundsException"
    · have h9 := h.1 c0
      clear h
      have h := h9
      clear h9
      subst c0
      refine vw_catch hX [] [] rfl (fun _ hq => absurd hq List.not_mem_nil) ⟨by decide, by decide⟩ (by decide) kw_1214 (by decide +kernel) (fun u => ?_)
      refine vw_astore_n hX dL_amountDue_12 (by decide) rfl ?_
      refine vw_iconst hX (v := 1) dL_amountDue_13 (by decide) ?_
      exact vw_iret hX hE dL_amountDue_14 ⟨_, rfl, h⟩
    replace h := h.2 c0
    exact h.elim
def F_L_caseTicket (a0 : Nat) (a1 : Int32) (a2 : Nat) (w : Mm) (z : Nat) (mc ms : Nat) (Q : Int32 → Mm → Nat → Prop) : Prop :=
  isO w a0 9 ∧ ∃ k5 k6, k5 ≤ mc ∧ k6 ≤ ms ∧ F_X5_caseTicket a0 a1 w z k5 k6 (fun r2 w3 z4 => ∃ n11 f10, arL w3 a2 = some (n11, f10) ∧ vp_in 0 n11 ∧ ∀ w12, w12 = mset w3 a2 (.inr (3, n11, .inr (.inl (vp_updL f10 (0 : Int32).toNatClampNeg ((r2 : Int32).toInt64))))) → Q 0 w12 z4) (fun E7 w8 z9 => (E7 = "java/lang/IndexOutOfBoundsException" → Q 1 w8 z9) ∧ (¬ E7 = "java/lang/IndexOutOfBoundsException" → False))
set_option maxRecDepth 100000 in
set_option maxHeartbeats 4000000 in
theorem ct_L_caseTicket {l : Launch} {g : Gp} {d : Nat} (hst : l.stackTraces = false) {a0 : Nat} {a1 : Int32} {a2 : Nat} {w : Mm} {z mc ms : Nat} {Q : Int32 → Mm → Nat → Prop} {X : String → Mm → Nat → Prop} (h : F_L_caseTicket a0 a1 a2 w z mc ms Q) : Ct l g yL_caseTicket (.codeWith yL_caseTicket cL_caseTicket 4 (some .int) [(0, 9, 12, 19)]) (d + 8) mc ms [.ref (a0), .int (a1), .ref (a2)] w z (rI Q) X := by
  refine Ct.ofH hst (by decide) (Nat.le_of_ble_eq_true rfl) (fun C hX hE hg hl hNm => ?_)
  subst hg
  subst hl
  unfold F_L_caseTicket at h
  show VW C 0 [(0, .ref (a0)), (1, .int (a1)), (2, .ref (a2))] [] w z mc ms
  refine vw_aload_n hX 2 dL_caseTicket_0 rfl ?_
  refine vw_iconst hX (v := 0) dL_caseTicket_1 (by decide) ?_
  refine vw_aload_n hX 0 dL_caseTicket_2 rfl ?_
  refine vw_iload_n hX 1 dL_caseTicket_3 rfl ?_
  obtain ⟨hr1, h⟩ := h
  obtain ⟨k5, k6, hm1, hm2, h⟩ := h
  refine s_L_126 hX hr1 dL_caseTicket_4 (Nat.le_of_ble_eq_true rfl) hm1 hm2 (ct_X5_caseTicket (d := d + 0) (lst hX) h) (fun r2 w3 z4 h => ?_) (fun E7 w8 z9 h => ?_)
  · skip
    refine vw_i2l hX dL_caseTicket_7 ?_
    obtain ⟨n11, f10, hf10, hif10, h⟩ := h
    refine vw_last hX hf10 hif10 dL_caseTicket_8 ?_
    refine vw_nmW (fun w12 ew12 => ?_)
    have h := h w12 ew12
    refine vw_goto hX (tgt := 15) dL_caseTicket_9 (by decide) ?_
    refine vw_iconst hX (v := 0) dL_caseTicket_15 (by decide) ?_
    exact vw_iret hX hE dL_caseTicket_16 ⟨_, rfl, h⟩
  · skip
    by_cases c0 : E7 = "java/lang/IndexOutOfBoundsException"
    · have h9 := h.1 c0
      clear h
      have h := h9
      clear h9
      subst c0
      refine vw_catch hX [] [] rfl (fun _ hq => absurd hq List.not_mem_nil) ⟨by decide, by decide⟩ (by decide) kw_1214 (by decide +kernel) (fun u => ?_)
      refine vw_astore_n hX dL_caseTicket_12 (by decide) rfl ?_
      refine vw_iconst hX (v := 1) dL_caseTicket_13 (by decide) ?_
      exact vw_iret hX hE dL_caseTicket_14 ⟨_, rfl, h⟩
    replace h := h.2 c0
    exact h.elim
def F_L_isOverdue (a0 : Nat) (a1 : Int32) (a2 : Nat) (w : Mm) (z : Nat) (mc ms : Nat) (Q : Int32 → Mm → Nat → Prop) : Prop :=
  isO w a0 9 ∧ ∃ k5 k6, k5 ≤ mc ∧ k6 ≤ ms ∧ F_X5_isOverdue a0 a1 w z k5 k6 (fun r2 w3 z4 => (r2 = 0 → ∃ n12 f11, arL w3 a2 = some (n12, f11) ∧ vp_in 0 n12 ∧ ∀ w13, w13 = mset w3 a2 (.inr (3, n12, .inr (.inl (vp_updL f11 (0 : Int32).toNatClampNeg 0)))) → Q 0 w13 z4) ∧
  (¬ r2 = 0 → ∃ n15 f14, arL w3 a2 = some (n15, f14) ∧ vp_in 0 n15 ∧ ∀ w16, w16 = mset w3 a2 (.inr (3, n15, .inr (.inl (vp_updL f14 (0 : Int32).toNatClampNeg 1)))) → Q 0 w16 z4)) (fun E7 w8 z9 => (E7 = "java/lang/IndexOutOfBoundsException" → Q 1 w8 z9) ∧ (¬ E7 = "java/lang/IndexOutOfBoundsException" → False))
set_option maxRecDepth 100000 in
set_option maxHeartbeats 4000000 in
theorem ct_L_isOverdue {l : Launch} {g : Gp} {d : Nat} (hst : l.stackTraces = false) {a0 : Nat} {a1 : Int32} {a2 : Nat} {w : Mm} {z mc ms : Nat} {Q : Int32 → Mm → Nat → Prop} {X : String → Mm → Nat → Prop} (h : F_L_isOverdue a0 a1 a2 w z mc ms Q) : Ct l g yL_isOverdue (.codeWith yL_isOverdue cL_isOverdue 4 (some .int) [(0, 16, 19, 19)]) (d + 8) mc ms [.ref (a0), .int (a1), .ref (a2)] w z (rI Q) X := by
  refine Ct.ofH hst (by decide) (Nat.le_of_ble_eq_true rfl) (fun C hX hE hg hl hNm => ?_)
  subst hg
  subst hl
  unfold F_L_isOverdue at h
  show VW C 0 [(0, .ref (a0)), (1, .int (a1)), (2, .ref (a2))] [] w z mc ms
  refine vw_aload_n hX 2 dL_isOverdue_0 rfl ?_
  refine vw_iconst hX (v := 0) dL_isOverdue_1 (by decide) ?_
  refine vw_aload_n hX 0 dL_isOverdue_2 rfl ?_
  refine vw_iload_n hX 1 dL_isOverdue_3 rfl ?_
  obtain ⟨hr1, h⟩ := h
  obtain ⟨k5, k6, hm1, hm2, h⟩ := h
  refine s_L_129 hX hr1 dL_isOverdue_4 (Nat.le_of_ble_eq_true rfl) hm1 hm2 (ct_X5_isOverdue (d := d + 0) (lst hX) h) (fun r2 w3 z4 h => ?_) (fun E7 w8 z9 h => ?_)
  · skip
    refine vw_if_eq hX (tgt := 14) dL_isOverdue_7 (by decide) (fun c10 => ?_) (fun c10 => ?_)
    · have h := h.1 c10
      refine vw_lconst hX (v := 0) dL_isOverdue_14 (by decide) ?_
      obtain ⟨n12, f11, hf11, hif11, h⟩ := h
      refine vw_last hX hf11 hif11 dL_isOverdue_15 ?_
      refine vw_nmW (fun w13 ew13 => ?_)
      have h := h w13 ew13
      refine vw_goto hX (tgt := 22) dL_isOverdue_16 (by decide) ?_
      refine vw_iconst hX (v := 0) dL_isOverdue_22 (by decide) ?_
      exact vw_iret hX hE dL_isOverdue_23 ⟨_, rfl, h⟩
    · have h := h.2 c10
      refine vw_lconst hX (v := 1) dL_isOverdue_10 (by decide) ?_
      refine vw_goto hX (tgt := 15) dL_isOverdue_11 (by decide) ?_
      obtain ⟨n15, f14, hf14, hif14, h⟩ := h
      refine vw_last hX hf14 hif14 dL_isOverdue_15 ?_
      refine vw_nmW (fun w16 ew16 => ?_)
      have h := h w16 ew16
      refine vw_goto hX (tgt := 22) dL_isOverdue_16 (by decide) ?_
      refine vw_iconst hX (v := 0) dL_isOverdue_22 (by decide) ?_
      exact vw_iret hX hE dL_isOverdue_23 ⟨_, rfl, h⟩
  · skip
    by_cases c0 : E7 = "java/lang/IndexOutOfBoundsException"
    · have h9 := h.1 c0
      clear h
      have h := h9
      clear h9
      subst c0
      refine vw_catch hX [] [] rfl (fun _ hq => absurd hq List.not_mem_nil) ⟨by decide, by decide⟩ (by decide) kw_1214 (by decide +kernel) (fun u => ?_)
      refine vw_astore_n hX dL_isOverdue_19 (by decide) rfl ?_
      refine vw_iconst hX (v := 1) dL_isOverdue_20 (by decide) ?_
      exact vw_iret hX hE dL_isOverdue_21 ⟨_, rfl, h⟩
    replace h := h.2 c0
    exact h.elim
def F_L_outlook (a0 : Nat) (a1 : Int32) (a2 : Int32) (a3 : Nat) (w : Mm) (z : Nat) (mc ms : Nat) (Q : Int32 → Mm → Nat → Prop) : Prop :=
  isO w a0 9 ∧ ∃ k5 k6, k5 ≤ mc ∧ k6 ≤ ms ∧ F_X5_outlook a0 a1 a2 w z k5 k6 (fun r2 w3 z4 => ∃ n11 f10, arL w3 a3 = some (n11, f10) ∧ vp_in 0 n11 ∧ ∀ w12, w12 = mset w3 a3 (.inr (3, n11, .inr (.inl (vp_updL f10 (0 : Int32).toNatClampNeg ((r2 : Int32).toInt64))))) → Q 0 w12 z4) (fun E7 w8 z9 => (E7 = "java/lang/IndexOutOfBoundsException" → Q 1 w8 z9) ∧ (¬ E7 = "java/lang/IndexOutOfBoundsException" → False))
set_option maxRecDepth 100000 in
set_option maxHeartbeats 4000000 in
theorem ct_L_outlook {l : Launch} {g : Gp} {d : Nat} (hst : l.stackTraces = false) {a0 : Nat} {a1 : Int32} {a2 : Int32} {a3 : Nat} {w : Mm} {z mc ms : Nat} {Q : Int32 → Mm → Nat → Prop} {X : String → Mm → Nat → Prop} (h : F_L_outlook a0 a1 a2 a3 w z mc ms Q) : Ct l g yL_outlook (.codeWith yL_outlook cL_outlook 5 (some .int) [(0, 10, 13, 19)]) (d + 8) mc ms [.ref (a0), .int (a1), .int (a2), .ref (a3)] w z (rI Q) X := by
  refine Ct.ofH hst (by decide) (Nat.le_of_ble_eq_true rfl) (fun C hX hE hg hl hNm => ?_)
  subst hg
  subst hl
  unfold F_L_outlook at h
  show VW C 0 [(0, .ref (a0)), (1, .int (a1)), (2, .int (a2)), (3, .ref (a3))] [] w z mc ms
  refine vw_aload_n hX 3 dL_outlook_0 rfl ?_
  refine vw_iconst hX (v := 0) dL_outlook_1 (by decide) ?_
  refine vw_aload_n hX 0 dL_outlook_2 rfl ?_
  refine vw_iload_n hX 1 dL_outlook_3 rfl ?_
  refine vw_iload_n hX 2 dL_outlook_4 rfl ?_
  obtain ⟨hr1, h⟩ := h
  obtain ⟨k5, k6, hm1, hm2, h⟩ := h
  refine s_L_132 hX hr1 dL_outlook_5 (Nat.le_of_ble_eq_true rfl) hm1 hm2 (ct_X5_outlook (d := d + 0) (lst hX) h) (fun r2 w3 z4 h => ?_) (fun E7 w8 z9 h => ?_)
  · skip
    refine vw_i2l hX dL_outlook_8 ?_
    obtain ⟨n11, f10, hf10, hif10, h⟩ := h
    refine vw_last hX hf10 hif10 dL_outlook_9 ?_
    refine vw_nmW (fun w12 ew12 => ?_)
    have h := h w12 ew12
    refine vw_goto hX (tgt := 17) dL_outlook_10 (by decide) ?_
    refine vw_iconst hX (v := 0) dL_outlook_17 (by decide) ?_
    exact vw_iret hX hE dL_outlook_18 ⟨_, rfl, h⟩
  · skip
    by_cases c0 : E7 = "java/lang/IndexOutOfBoundsException"
    · have h9 := h.1 c0
      clear h
      have h := h9
      clear h9
      subst c0
      refine vw_catch hX [] [] rfl (fun _ hq => absurd hq List.not_mem_nil) ⟨by decide, by decide⟩ (by decide) kw_1214 (by decide +kernel) (fun u => ?_)
      refine vw_astore hX dL_outlook_13 (by decide) rfl ?_
      refine vw_iconst hX (v := 1) dL_outlook_15 (by decide) ?_
      exact vw_iret hX hE dL_outlook_16 ⟨_, rfl, h⟩
    replace h := h.2 c0
    exact h.elim
def B_L_law_2935 (a0 : Nat) (K23 : Nat → Nat → Nat → Int32 → Mm → Nat → Nat → Nat → Prop) (Q : Int32 → Mm → Nat → Prop) (x1 : Nat) (x2 : Nat) (x3 : Nat) (x4 : Int32) (w : Mm) (z : Nat) (mc : Nat) (ms : Nat) : Prop :=
  K23 x1 x2 x3 ((x4 + 6)) w z mc ms
set_option maxRecDepth 100000 in
set_option maxHeartbeats 4000000 in
theorem pB_L_law_2935 {C : Cx} {d : Nat} {a0 : Nat} {K23 : Nat → Nat → Nat → Int32 → Mm → Nat → Nat → Nat → Prop} (hX : CX C cL_law RL 9 (some .boolean) [] (d + 11)) (hE : EL C) (hK23 : ∀ (x1 : Nat) (x2 : Nat) (x3 : Nat) (x4 : Int32) (w : Mm) (z mc ms : Nat), K23 x1 x2 x3 x4 w z mc ms → VW C 23 [(0, .ref (a0)), (1, .ref (x1)), (2, .ref (x2)), (3, .ref (x3)), (4, .int (x4))] [] w z mc ms) : ∀ (x1 : Nat) (x2 : Nat) (x3 : Nat) (x4 : Int32) (w : Mm) (z mc ms : Nat), B_L_law_2935 a0 K23 lawQ x1 x2 x3 x4 w z mc ms → VW C 2935 [(0, .ref (a0)), (1, .ref (x1)), (2, .ref (x2)), (3, .ref (x3)), (4, .int (x4))] [] w z mc ms := by
  intro x1 x2 x3 x4 w z mc ms h
  unfold B_L_law_2935 at h
  refine vw_iinc hX 4 (v := x4 + 6) dL_law_2935 rfl rfl (by decide) rfl ?_
  refine vw_goto hX (tgt := 23) dL_law_2938 (by decide) ?_
  exact vw_sub [1, 2, 3, 4, 0] rfl (hK23 _ _ _ _ _ _ _ _ h)
def B_L_law_2910 (a0 : Nat) (K23 : Nat → Nat → Nat → Int32 → Mm → Nat → Nat → Nat → Prop) (Q : Int32 → Mm → Nat → Prop) (x1 : Nat) (x2 : Nat) (x3 : Nat) (x4 : Int32) (w : Mm) (z : Nat) (mc : Nat) (ms : Nat) : Prop :=
  ∃ n2 f1, arI w a0 0 = some (n2, f1) ∧ vp_in ((x4 + 1)) n2 ∧ isO w x1 9 ∧ F_X5_outputByte x1 ((f1 ((x4 + 1) : Int32).toNatClampNeg)) w z (fun r4 w5 z6 => ∃ n8 f7, arI w5 a0 0 = some (n8, f7) ∧ vp_in ((x4 + 1)) n8 ∧ isO w5 x2 10 ∧ F_X6_outputByte x2 ((f7 ((x4 + 1) : Int32).toNatClampNeg)) w5 z6 (fun r10 w11 z12 => (r4 = r10 → B_L_law_2935 a0 K23 Q x1 x2 x3 x4 w11 z12 mc ms) ∧
  (¬ r4 = r10 → Q 0 w11 z12)))
set_option maxRecDepth 100000 in
set_option maxHeartbeats 4000000 in
theorem pB_L_law_2910 {C : Cx} {d : Nat} {a0 : Nat} {K23 : Nat → Nat → Nat → Int32 → Mm → Nat → Nat → Nat → Prop} (hX : CX C cL_law RL 9 (some .boolean) [] (d + 11)) (hE : EL C) (hK23 : ∀ (x1 : Nat) (x2 : Nat) (x3 : Nat) (x4 : Int32) (w : Mm) (z mc ms : Nat), K23 x1 x2 x3 x4 w z mc ms → VW C 23 [(0, .ref (a0)), (1, .ref (x1)), (2, .ref (x2)), (3, .ref (x3)), (4, .int (x4))] [] w z mc ms) : ∀ (x1 : Nat) (x2 : Nat) (x3 : Nat) (x4 : Int32) (w : Mm) (z mc ms : Nat), B_L_law_2910 a0 K23 lawQ x1 x2 x3 x4 w z mc ms → VW C 2910 [(0, .ref (a0)), (1, .ref (x1)), (2, .ref (x2)), (3, .ref (x3)), (4, .int (x4))] [] w z mc ms := by
  intro x1 x2 x3 x4 w z mc ms h
  unfold B_L_law_2910 at h
  refine vw_aload_n hX 1 dL_law_2910 rfl ?_
  refine vw_aload_n hX 0 dL_law_2911 rfl ?_
  refine vw_iload hX 4 dL_law_2912 rfl ?_
  refine vw_iconst hX (v := 1) dL_law_2914 (by decide) ?_
  refine vw_iadd hX dL_law_2915 ?_
  obtain ⟨n2, f1, hf1, hif1, h⟩ := h
  refine vw_iald hX hf1 hif1 dL_law_2916 ?_
  obtain ⟨hr3, h⟩ := h
  refine s_L_342 hX hr3 dL_law_2917 (Nat.le_of_ble_eq_true rfl) (ct_X5_outputByte (d := d + 6) (lst hX) h) (fun r4 w5 z6 h => ?_)
  refine vw_aload_n hX 2 dL_law_2920 rfl ?_
  refine vw_aload_n hX 0 dL_law_2921 rfl ?_
  refine vw_iload hX 4 dL_law_2922 rfl ?_
  refine vw_iconst hX (v := 1) dL_law_2924 (by decide) ?_
  refine vw_iadd hX dL_law_2925 ?_
  obtain ⟨n8, f7, hf7, hif7, h⟩ := h
  refine vw_iald hX hf7 hif7 dL_law_2926 ?_
  obtain ⟨hr9, h⟩ := h
  refine s_L_345 hX hr9 dL_law_2927 (Nat.le_of_ble_eq_true rfl) (ct_X6_outputByte (d := d + 9) (lst hX) h) (fun r10 w11 z12 h => ?_)
  refine vw_icmp_eq hX (tgt := 2935) dL_law_2930 (by decide) (fun c13 => ?_) (fun c13 => ?_)
  · have h := h.1 c13
    exact pB_L_law_2935 hX hE hK23 _ _ _ _ _ _ _ _ h
  · have h := h.2 c13
    refine vw_iconst hX (v := 0) dL_law_2933 (by decide) ?_
    exact vw_lawret hX hE dL_law_2934 h
def B_L_law_2897 (a0 : Nat) (K23 : Nat → Nat → Nat → Int32 → Mm → Nat → Nat → Nat → Prop) (Q : Int32 → Mm → Nat → Prop) (x1 : Nat) (x2 : Nat) (x3 : Nat) (x4 : Int32) (w : Mm) (z : Nat) (mc : Nat) (ms : Nat) : Prop :=
  isO w x1 9 ∧ ∃ k18 k19, k18 ≤ mc ∧ k19 ≤ ms ∧ F_X5_writeCases x1 w z k18 k19 (fun r15 w16 z17 => isO w16 x2 10 ∧ F_X6_writeCases x2 w16 z17 (fun r21 w22 z23 => (r15 = r21 → B_L_law_2935 a0 K23 Q x1 x2 x3 x4 w22 z23 ((mc - k18)) ((ms - k19))) ∧
  (¬ r15 = r21 → Q 0 w22 z23)))
set_option maxRecDepth 100000 in
set_option maxHeartbeats 4000000 in
theorem pB_L_law_2897 {C : Cx} {d : Nat} {a0 : Nat} {K23 : Nat → Nat → Nat → Int32 → Mm → Nat → Nat → Nat → Prop} (hX : CX C cL_law RL 9 (some .boolean) [] (d + 11)) (hE : EL C) (hK23 : ∀ (x1 : Nat) (x2 : Nat) (x3 : Nat) (x4 : Int32) (w : Mm) (z mc ms : Nat), K23 x1 x2 x3 x4 w z mc ms → VW C 23 [(0, .ref (a0)), (1, .ref (x1)), (2, .ref (x2)), (3, .ref (x3)), (4, .int (x4))] [] w z mc ms) : ∀ (x1 : Nat) (x2 : Nat) (x3 : Nat) (x4 : Int32) (w : Mm) (z mc ms : Nat), B_L_law_2897 a0 K23 lawQ x1 x2 x3 x4 w z mc ms → VW C 2897 [(0, .ref (a0)), (1, .ref (x1)), (2, .ref (x2)), (3, .ref (x3)), (4, .int (x4))] [] w z mc ms := by
  intro x1 x2 x3 x4 w z mc ms h
  unfold B_L_law_2897 at h
  refine vw_aload_n hX 1 dL_law_2897 rfl ?_
  obtain ⟨hr14, h⟩ := h
  obtain ⟨k18, k19, hm1, hm2, h⟩ := h
  refine s_L_338 hX hr14 dL_law_2898 (Nat.le_of_ble_eq_true rfl) hm1 hm2 (ct_X5_writeCases (d := d + 3) (lst hX) h) (fun r15 w16 z17 h => ?_)
  refine vw_aload_n hX 2 dL_law_2901 rfl ?_
  obtain ⟨hr20, h⟩ := h
  refine s_L_341 hX hr20 dL_law_2902 (Nat.le_of_ble_eq_true rfl) (ct_X6_writeCases (d := d + 7) (lst hX) h) (fun r21 w22 z23 h => ?_)
  refine vw_icmp_eq hX (tgt := 2935) dL_law_2905 (by decide) (fun c24 => ?_) (fun c24 => ?_)
  · have h := h.1 c24
    exact pB_L_law_2935 hX hE hK23 _ _ _ _ _ _ _ _ h
  · have h := h.2 c24
    refine vw_iconst hX (v := 0) dL_law_2908 (by decide) ?_
    exact vw_lawret hX hE dL_law_2909 h
def B_L_law_2894 (a0 : Nat) (K23 : Nat → Nat → Nat → Int32 → Mm → Nat → Nat → Nat → Prop) (Q : Int32 → Mm → Nat → Prop) (x1 : Nat) (x2 : Nat) (x3 : Nat) (x4 : Int32) (w : Mm) (z : Nat) (mc : Nat) (ms : Nat) : Prop :=
  B_L_law_2935 a0 K23 Q x1 x2 x3 x4 w z mc ms
set_option maxRecDepth 100000 in
set_option maxHeartbeats 4000000 in
theorem pB_L_law_2894 {C : Cx} {d : Nat} {a0 : Nat} {K23 : Nat → Nat → Nat → Int32 → Mm → Nat → Nat → Nat → Prop} (hX : CX C cL_law RL 9 (some .boolean) [] (d + 11)) (hE : EL C) (hK23 : ∀ (x1 : Nat) (x2 : Nat) (x3 : Nat) (x4 : Int32) (w : Mm) (z mc ms : Nat), K23 x1 x2 x3 x4 w z mc ms → VW C 23 [(0, .ref (a0)), (1, .ref (x1)), (2, .ref (x2)), (3, .ref (x3)), (4, .int (x4))] [] w z mc ms) : ∀ (x1 : Nat) (x2 : Nat) (x3 : Nat) (x4 : Int32) (w : Mm) (z mc ms : Nat), B_L_law_2894 a0 K23 lawQ x1 x2 x3 x4 w z mc ms → VW C 2894 [(0, .ref (a0)), (1, .ref (x1)), (2, .ref (x2)), (3, .ref (x3)), (4, .int (x4))] [] w z mc ms := by
  intro x1 x2 x3 x4 w z mc ms h
  unfold B_L_law_2894 at h
  refine vw_goto hX (tgt := 2935) dL_law_2894 (by decide) ?_
  exact pB_L_law_2935 hX hE hK23 _ _ _ _ _ _ _ _ h
def B_L_law_2854 (a0 : Nat) (K23 : Nat → Nat → Nat → Int32 → Mm → Nat → Nat → Nat → Prop) (Q : Int32 → Mm → Nat → Prop) (x1 : Nat) (x2 : Nat) (x3 : Nat) (x4 : Int32) (w : Mm) (z : Nat) (mc : Nat) (ms : Nat) : Prop :=
  isO w x1 9 ∧ F_X5_meanPrice x1 w z (fun r26 w27 z28 => vf_n64 (FP.f2d r26) ∧ isO w27 x2 10 ∧ F_X6_meanPrice x2 w27 z28 (fun r31 w32 z33 => vf_n64 (FP.f2d r31) ∧ (((Op.cmpValue (FP.dcmp ((FP.f2d r26)) ((FP.f2d r31))) .l)) = 0 → B_L_law_2894 a0 K23 Q x1 x2 x3 x4 w32 z33 mc ms) ∧
  (¬ ((Op.cmpValue (FP.dcmp ((FP.f2d r26)) ((FP.f2d r31))) .l)) = 0 → (((Op.cmpValue (FP.dcmp ((FP.f2d r26)) ((FP.f2d r26))) .l)) = 0 → Q 0 w32 z33) ∧
  (¬ ((Op.cmpValue (FP.dcmp ((FP.f2d r26)) ((FP.f2d r26))) .l)) = 0 → (¬ ((Op.cmpValue (FP.dcmp ((FP.f2d r31)) ((FP.f2d r31))) .l)) = 0 → B_L_law_2894 a0 K23 Q x1 x2 x3 x4 w32 z33 mc ms) ∧
  (((Op.cmpValue (FP.dcmp ((FP.f2d r31)) ((FP.f2d r31))) .l)) = 0 → Q 0 w32 z33)))))
set_option maxRecDepth 100000 in
set_option maxHeartbeats 4000000 in
theorem pB_L_law_2854 {C : Cx} {d : Nat} {a0 : Nat} {K23 : Nat → Nat → Nat → Int32 → Mm → Nat → Nat → Nat → Prop} (hX : CX C cL_law RL 9 (some .boolean) [] (d + 11)) (hE : EL C) (hK23 : ∀ (x1 : Nat) (x2 : Nat) (x3 : Nat) (x4 : Int32) (w : Mm) (z mc ms : Nat), K23 x1 x2 x3 x4 w z mc ms → VW C 23 [(0, .ref (a0)), (1, .ref (x1)), (2, .ref (x2)), (3, .ref (x3)), (4, .int (x4))] [] w z mc ms) : ∀ (x1 : Nat) (x2 : Nat) (x3 : Nat) (x4 : Int32) (w : Mm) (z mc ms : Nat), B_L_law_2854 a0 K23 lawQ x1 x2 x3 x4 w z mc ms → VW C 2854 [(0, .ref (a0)), (1, .ref (x1)), (2, .ref (x2)), (3, .ref (x3)), (4, .int (x4))] [] w z mc ms := by
  intro x1 x2 x3 x4 w z mc ms h
  unfold B_L_law_2854 at h
  refine vw_aload_n hX 1 dL_law_2854 rfl ?_
  obtain ⟨hr25, h⟩ := h
  refine s_L_333 hX hr25 dL_law_2855 (Nat.le_of_ble_eq_true rfl) (ct_X5_meanPrice (d := d + 6) (lst hX) h) (fun r26 w27 z28 h => ?_)
  obtain ⟨hn29, h⟩ := h
  refine vw_f2d hX dL_law_2858 hn29 ?_
  refine vw_dstore hX dL_law_2859 (by decide) rfl ?_
  refine vw_aload_n hX 3 dL_law_2861 rfl ?_
  obtain ⟨hr30, h⟩ := h
  refine s_L_337 hX hr30 dL_law_2862 (Nat.le_of_ble_eq_true rfl) (ct_X6_meanPrice (d := d + 10) (lst hX) h) (fun r31 w32 z33 h => ?_)
  obtain ⟨hn34, h⟩ := h
  refine vw_f2d hX dL_law_2865 hn34 ?_
  refine vw_dstore hX dL_law_2866 (by decide) rfl ?_
  refine vw_dload hX 1 dL_law_2868 rfl ?_
  refine vw_dload hX 0 dL_law_2870 rfl ?_
  refine vw_dcmp hX dL_law_2872 ?_
  refine vw_if_eq hX (tgt := 2894) dL_law_2873 (by decide) (fun c35 => ?_) (fun c35 => ?_)
  · have h := h.1 c35
    exact vw_sub [2, 3, 4, 5, 6] rfl (pB_L_law_2894 hX hE hK23 _ _ _ _ _ _ _ _ h)
  · have h := h.2 c35
    refine vw_dload hX 1 dL_law_2876 rfl ?_
    refine vw_dload hX 1 dL_law_2878 rfl ?_
    refine vw_dcmp hX dL_law_2880 ?_
    refine vw_if_eq hX (tgt := 2892) dL_law_2881 (by decide) (fun c36 => ?_) (fun c36 => ?_)
    · have h := h.1 c36
      refine vw_iconst hX (v := 0) dL_law_2892 (by decide) ?_
      exact vw_lawret hX hE dL_law_2893 h
    · have h := h.2 c36
      refine vw_dload hX 0 dL_law_2884 rfl ?_
      refine vw_dload hX 0 dL_law_2886 rfl ?_
      refine vw_dcmp hX dL_law_2888 ?_
      refine vw_if_ne hX (tgt := 2894) dL_law_2889 (by decide) (fun c37 => ?_) (fun c37 => ?_)
      · have h := h.1 c37
        exact vw_sub [2, 3, 4, 5, 6] rfl (pB_L_law_2894 hX hE hK23 _ _ _ _ _ _ _ _ h)
      · have h := h.2 c37
        refine vw_iconst hX (v := 0) dL_law_2892 (by decide) ?_
        exact vw_lawret hX hE dL_law_2893 h
def B_L_law_2851 (a0 : Nat) (K23 : Nat → Nat → Nat → Int32 → Mm → Nat → Nat → Nat → Prop) (Q : Int32 → Mm → Nat → Prop) (x1 : Nat) (x2 : Nat) (x3 : Nat) (x4 : Int32) (w : Mm) (z : Nat) (mc : Nat) (ms : Nat) : Prop :=
  B_L_law_2935 a0 K23 Q x1 x2 x3 x4 w z mc ms
set_option maxRecDepth 100000 in
set_option maxHeartbeats 4000000 in
theorem pB_L_law_2851 {C : Cx} {d : Nat} {a0 : Nat} {K23 : Nat → Nat → Nat → Int32 → Mm → Nat → Nat → Nat → Prop} (hX : CX C cL_law RL 9 (some .boolean) [] (d + 11)) (hE : EL C) (hK23 : ∀ (x1 : Nat) (x2 : Nat) (x3 : Nat) (x4 : Int32) (w : Mm) (z mc ms : Nat), K23 x1 x2 x3 x4 w z mc ms → VW C 23 [(0, .ref (a0)), (1, .ref (x1)), (2, .ref (x2)), (3, .ref (x3)), (4, .int (x4))] [] w z mc ms) : ∀ (x1 : Nat) (x2 : Nat) (x3 : Nat) (x4 : Int32) (w : Mm) (z mc ms : Nat), B_L_law_2851 a0 K23 lawQ x1 x2 x3 x4 w z mc ms → VW C 2851 [(0, .ref (a0)), (1, .ref (x1)), (2, .ref (x2)), (3, .ref (x3)), (4, .int (x4))] [] w z mc ms := by
  intro x1 x2 x3 x4 w z mc ms h
  unfold B_L_law_2851 at h
  refine vw_goto hX (tgt := 2935) dL_law_2851 (by decide) ?_
  exact pB_L_law_2935 hX hE hK23 _ _ _ _ _ _ _ _ h
def B_L_law_2813 (a0 : Nat) (K23 : Nat → Nat → Nat → Int32 → Mm → Nat → Nat → Nat → Prop) (Q : Int32 → Mm → Nat → Prop) (x1 : Nat) (x2 : Nat) (x3 : Nat) (x4 : Int32) (w : Mm) (z : Nat) (mc : Nat) (ms : Nat) : Prop :=
  isO w x1 9 ∧ F_X5_faultShare x1 w z (fun r39 w40 z41 => isO w40 x2 10 ∧ F_X6_faultShare x2 w40 z41 (fun r43 w44 z45 => (((Op.cmpValue (FP.dcmp r39 r43) .l)) = 0 → B_L_law_2851 a0 K23 Q x1 x2 x3 x4 w44 z45 mc ms) ∧
  (¬ ((Op.cmpValue (FP.dcmp r39 r43) .l)) = 0 → (((Op.cmpValue (FP.dcmp r39 r39) .l)) = 0 → Q 0 w44 z45) ∧
  (¬ ((Op.cmpValue (FP.dcmp r39 r39) .l)) = 0 → (¬ ((Op.cmpValue (FP.dcmp r43 r43) .l)) = 0 → B_L_law_2851 a0 K23 Q x1 x2 x3 x4 w44 z45 mc ms) ∧
  (((Op.cmpValue (FP.dcmp r43 r43) .l)) = 0 → Q 0 w44 z45)))))
set_option maxRecDepth 100000 in
set_option maxHeartbeats 4000000 in
theorem pB_L_law_2813 {C : Cx} {d : Nat} {a0 : Nat} {K23 : Nat → Nat → Nat → Int32 → Mm → Nat → Nat → Nat → Prop} (hX : CX C cL_law RL 9 (some .boolean) [] (d + 11)) (hE : EL C) (hK23 : ∀ (x1 : Nat) (x2 : Nat) (x3 : Nat) (x4 : Int32) (w : Mm) (z mc ms : Nat), K23 x1 x2 x3 x4 w z mc ms → VW C 23 [(0, .ref (a0)), (1, .ref (x1)), (2, .ref (x2)), (3, .ref (x3)), (4, .int (x4))] [] w z mc ms) : ∀ (x1 : Nat) (x2 : Nat) (x3 : Nat) (x4 : Int32) (w : Mm) (z mc ms : Nat), B_L_law_2813 a0 K23 lawQ x1 x2 x3 x4 w z mc ms → VW C 2813 [(0, .ref (a0)), (1, .ref (x1)), (2, .ref (x2)), (3, .ref (x3)), (4, .int (x4))] [] w z mc ms := by
  intro x1 x2 x3 x4 w z mc ms h
  unfold B_L_law_2813 at h
  refine vw_aload_n hX 1 dL_law_2813 rfl ?_
  obtain ⟨hr38, h⟩ := h
  refine s_L_328 hX hr38 dL_law_2814 (Nat.le_of_ble_eq_true rfl) (ct_X5_faultShare (d := d + 10) (lst hX) h) (fun r39 w40 z41 h => ?_)
  refine vw_dstore hX dL_law_2817 (by decide) rfl ?_
  refine vw_aload_n hX 3 dL_law_2819 rfl ?_
  obtain ⟨hr42, h⟩ := h
  refine s_L_332 hX hr42 dL_law_2820 (Nat.le_of_ble_eq_true rfl) (ct_X6_faultShare (d := d + 10) (lst hX) h) (fun r43 w44 z45 h => ?_)
  refine vw_dstore hX dL_law_2823 (by decide) rfl ?_
  refine vw_dload hX 1 dL_law_2825 rfl ?_
  refine vw_dload hX 0 dL_law_2827 rfl ?_
  refine vw_dcmp hX dL_law_2829 ?_
  refine vw_if_eq hX (tgt := 2851) dL_law_2830 (by decide) (fun c46 => ?_) (fun c46 => ?_)
  · have h := h.1 c46
    exact vw_sub [2, 3, 4, 5, 6] rfl (pB_L_law_2851 hX hE hK23 _ _ _ _ _ _ _ _ h)
  · have h := h.2 c46
    refine vw_dload hX 1 dL_law_2833 rfl ?_
    refine vw_dload hX 1 dL_law_2835 rfl ?_
    refine vw_dcmp hX dL_law_2837 ?_
    refine vw_if_eq hX (tgt := 2849) dL_law_2838 (by decide) (fun c47 => ?_) (fun c47 => ?_)
    · have h := h.1 c47
      refine vw_iconst hX (v := 0) dL_law_2849 (by decide) ?_
      exact vw_lawret hX hE dL_law_2850 h
    · have h := h.2 c47
      refine vw_dload hX 0 dL_law_2841 rfl ?_
      refine vw_dload hX 0 dL_law_2843 rfl ?_
      refine vw_dcmp hX dL_law_2845 ?_
      refine vw_if_ne hX (tgt := 2851) dL_law_2846 (by decide) (fun c48 => ?_) (fun c48 => ?_)
      · have h := h.1 c48
        exact vw_sub [2, 3, 4, 5, 6] rfl (pB_L_law_2851 hX hE hK23 _ _ _ _ _ _ _ _ h)
      · have h := h.2 c48
        refine vw_iconst hX (v := 0) dL_law_2849 (by decide) ?_
        exact vw_lawret hX hE dL_law_2850 h
def B_L_law_2800 (a0 : Nat) (K23 : Nat → Nat → Nat → Int32 → Mm → Nat → Nat → Nat → Prop) (Q : Int32 → Mm → Nat → Prop) (x1 : Nat) (x2 : Nat) (x3 : Nat) (x4 : Int32) (w : Mm) (z : Nat) (mc : Nat) (ms : Nat) : Prop :=
  isO w x1 9 ∧ F_X5_inconsistencies x1 w z (fun r50 w51 z52 => isO w51 x2 10 ∧ F_X6_inconsistencies x2 w51 z52 (fun r54 w55 z56 => (r50 = r54 → B_L_law_2935 a0 K23 Q x1 x2 x3 x4 w55 z56 mc ms) ∧
  (¬ r50 = r54 → Q 0 w55 z56)))
set_option maxRecDepth 100000 in
set_option maxHeartbeats 4000000 in
theorem pB_L_law_2800 {C : Cx} {d : Nat} {a0 : Nat} {K23 : Nat → Nat → Nat → Int32 → Mm → Nat → Nat → Nat → Prop} (hX : CX C cL_law RL 9 (some .boolean) [] (d + 11)) (hE : EL C) (hK23 : ∀ (x1 : Nat) (x2 : Nat) (x3 : Nat) (x4 : Int32) (w : Mm) (z mc ms : Nat), K23 x1 x2 x3 x4 w z mc ms → VW C 23 [(0, .ref (a0)), (1, .ref (x1)), (2, .ref (x2)), (3, .ref (x3)), (4, .int (x4))] [] w z mc ms) : ∀ (x1 : Nat) (x2 : Nat) (x3 : Nat) (x4 : Int32) (w : Mm) (z mc ms : Nat), B_L_law_2800 a0 K23 lawQ x1 x2 x3 x4 w z mc ms → VW C 2800 [(0, .ref (a0)), (1, .ref (x1)), (2, .ref (x2)), (3, .ref (x3)), (4, .int (x4))] [] w z mc ms := by
  intro x1 x2 x3 x4 w z mc ms h
  unfold B_L_law_2800 at h
  refine vw_aload_n hX 1 dL_law_2800 rfl ?_
  obtain ⟨hr49, h⟩ := h
  refine s_L_324 hX hr49 dL_law_2801 (Nat.le_of_ble_eq_true rfl) (ct_X5_inconsistencies (d := d + 6) (lst hX) h) (fun r50 w51 z52 h => ?_)
  refine vw_aload_n hX 2 dL_law_2804 rfl ?_
  obtain ⟨hr53, h⟩ := h
  refine s_L_327 hX hr53 dL_law_2805 (Nat.le_of_ble_eq_true rfl) (ct_X6_inconsistencies (d := d + 9) (lst hX) h) (fun r54 w55 z56 h => ?_)
  refine vw_icmp_eq hX (tgt := 2935) dL_law_2808 (by decide) (fun c57 => ?_) (fun c57 => ?_)
  · have h := h.1 c57
    exact pB_L_law_2935 hX hE hK23 _ _ _ _ _ _ _ _ h
  · have h := h.2 c57
    refine vw_iconst hX (v := 0) dL_law_2811 (by decide) ?_
    exact vw_lawret hX hE dL_law_2812 h
def B_L_law_2787 (a0 : Nat) (K23 : Nat → Nat → Nat → Int32 → Mm → Nat → Nat → Nat → Prop) (Q : Int32 → Mm → Nat → Prop) (x1 : Nat) (x2 : Nat) (x3 : Nat) (x4 : Int32) (w : Mm) (z : Nat) (mc : Nat) (ms : Nat) : Prop :=
  isO w x1 9 ∧ F_X5_inspections x1 w z (fun r59 w60 z61 => isO w60 x2 10 ∧ F_X6_inspections x2 w60 z61 (fun r63 w64 z65 => (r59 = r63 → B_L_law_2935 a0 K23 Q x1 x2 x3 x4 w64 z65 mc ms) ∧
  (¬ r59 = r63 → Q 0 w64 z65)))
set_option maxRecDepth 100000 in
set_option maxHeartbeats 4000000 in
theorem pB_L_law_2787 {C : Cx} {d : Nat} {a0 : Nat} {K23 : Nat → Nat → Nat → Int32 → Mm → Nat → Nat → Nat → Prop} (hX : CX C cL_law RL 9 (some .boolean) [] (d + 11)) (hE : EL C) (hK23 : ∀ (x1 : Nat) (x2 : Nat) (x3 : Nat) (x4 : Int32) (w : Mm) (z mc ms : Nat), K23 x1 x2 x3 x4 w z mc ms → VW C 23 [(0, .ref (a0)), (1, .ref (x1)), (2, .ref (x2)), (3, .ref (x3)), (4, .int (x4))] [] w z mc ms) : ∀ (x1 : Nat) (x2 : Nat) (x3 : Nat) (x4 : Int32) (w : Mm) (z mc ms : Nat), B_L_law_2787 a0 K23 lawQ x1 x2 x3 x4 w z mc ms → VW C 2787 [(0, .ref (a0)), (1, .ref (x1)), (2, .ref (x2)), (3, .ref (x3)), (4, .int (x4))] [] w z mc ms := by
  intro x1 x2 x3 x4 w z mc ms h
  unfold B_L_law_2787 at h
  refine vw_aload_n hX 1 dL_law_2787 rfl ?_
  obtain ⟨hr58, h⟩ := h
  refine s_L_320 hX hr58 dL_law_2788 (Nat.le_of_ble_eq_true rfl) (ct_X5_inspections (d := d + 10) (lst hX) h) (fun r59 w60 z61 h => ?_)
  refine vw_aload_n hX 2 dL_law_2791 rfl ?_
  obtain ⟨hr62, h⟩ := h
  refine s_L_323 hX hr62 dL_law_2792 (Nat.le_of_ble_eq_true rfl) (ct_X6_inspections (d := d + 9) (lst hX) h) (fun r63 w64 z65 h => ?_)
  refine vw_icmp_eq hX (tgt := 2935) dL_law_2795 (by decide) (fun c66 => ?_) (fun c66 => ?_)
  · have h := h.1 c66
    exact pB_L_law_2935 hX hE hK23 _ _ _ _ _ _ _ _ h
  · have h := h.2 c66
    refine vw_iconst hX (v := 0) dL_law_2798 (by decide) ?_
    exact vw_lawret hX hE dL_law_2799 h
def B_L_law_2774 (a0 : Nat) (K23 : Nat → Nat → Nat → Int32 → Mm → Nat → Nat → Nat → Prop) (Q : Int32 → Mm → Nat → Prop) (x1 : Nat) (x2 : Nat) (x3 : Nat) (x4 : Int32) (w : Mm) (z : Nat) (mc : Nat) (ms : Nat) : Prop :=
  isO w x1 9 ∧ F_X5_finesPaid x1 w z (fun r68 w69 z70 => isO w69 x2 10 ∧ F_X6_finesPaid x2 w69 z70 (fun r72 w73 z74 => (r68 = r72 → B_L_law_2935 a0 K23 Q x1 x2 x3 x4 w73 z74 mc ms) ∧
  (¬ r68 = r72 → Q 0 w73 z74)))
set_option maxRecDepth 100000 in
set_option maxHeartbeats 4000000 in
theorem pB_L_law_2774 {C : Cx} {d : Nat} {a0 : Nat} {K23 : Nat → Nat → Nat → Int32 → Mm → Nat → Nat → Nat → Prop} (hX : CX C cL_law RL 9 (some .boolean) [] (d + 11)) (hE : EL C) (hK23 : ∀ (x1 : Nat) (x2 : Nat) (x3 : Nat) (x4 : Int32) (w : Mm) (z mc ms : Nat), K23 x1 x2 x3 x4 w z mc ms → VW C 23 [(0, .ref (a0)), (1, .ref (x1)), (2, .ref (x2)), (3, .ref (x3)), (4, .int (x4))] [] w z mc ms) : ∀ (x1 : Nat) (x2 : Nat) (x3 : Nat) (x4 : Int32) (w : Mm) (z mc ms : Nat), B_L_law_2774 a0 K23 lawQ x1 x2 x3 x4 w z mc ms → VW C 2774 [(0, .ref (a0)), (1, .ref (x1)), (2, .ref (x2)), (3, .ref (x3)), (4, .int (x4))] [] w z mc ms := by
  intro x1 x2 x3 x4 w z mc ms h
  unfold B_L_law_2774 at h
  refine vw_aload_n hX 1 dL_law_2774 rfl ?_
  obtain ⟨hr67, h⟩ := h
  refine s_L_316 hX hr67 dL_law_2775 (Nat.le_of_ble_eq_true rfl) (ct_X5_finesPaid (d := d + 10) (lst hX) h) (fun r68 w69 z70 h => ?_)
  refine vw_aload_n hX 2 dL_law_2778 rfl ?_
  obtain ⟨hr71, h⟩ := h
  refine s_L_319 hX hr71 dL_law_2779 (Nat.le_of_ble_eq_true rfl) (ct_X6_finesPaid (d := d + 9) (lst hX) h) (fun r72 w73 z74 h => ?_)
  refine vw_icmp_eq hX (tgt := 2935) dL_law_2782 (by decide) (fun c75 => ?_) (fun c75 => ?_)
  · have h := h.1 c75
    exact pB_L_law_2935 hX hE hK23 _ _ _ _ _ _ _ _ h
  · have h := h.2 c75
    refine vw_iconst hX (v := 0) dL_law_2785 (by decide) ?_
    exact vw_lawret hX hE dL_law_2786 h
def B_L_law_2761 (a0 : Nat) (K23 : Nat → Nat → Nat → Int32 → Mm → Nat → Nat → Nat → Prop) (Q : Int32 → Mm → Nat → Prop) (x1 : Nat) (x2 : Nat) (x3 : Nat) (x4 : Int32) (w : Mm) (z : Nat) (mc : Nat) (ms : Nat) : Prop :=
  isO w x1 9 ∧ F_X5_ticketSales x1 w z (fun r77 w78 z79 => isO w78 x2 10 ∧ F_X6_ticketSales x2 w78 z79 (fun r81 w82 z83 => (r77 = r81 → B_L_law_2935 a0 K23 Q x1 x2 x3 x4 w82 z83 mc ms) ∧
  (¬ r77 = r81 → Q 0 w82 z83)))
set_option maxRecDepth 100000 in
set_option maxHeartbeats 4000000 in
theorem pB_L_law_2761 {C : Cx} {d : Nat} {a0 : Nat} {K23 : Nat → Nat → Nat → Int32 → Mm → Nat → Nat → Nat → Prop} (hX : CX C cL_law RL 9 (some .boolean) [] (d + 11)) (hE : EL C) (hK23 : ∀ (x1 : Nat) (x2 : Nat) (x3 : Nat) (x4 : Int32) (w : Mm) (z mc ms : Nat), K23 x1 x2 x3 x4 w z mc ms → VW C 23 [(0, .ref (a0)), (1, .ref (x1)), (2, .ref (x2)), (3, .ref (x3)), (4, .int (x4))] [] w z mc ms) : ∀ (x1 : Nat) (x2 : Nat) (x3 : Nat) (x4 : Int32) (w : Mm) (z mc ms : Nat), B_L_law_2761 a0 K23 lawQ x1 x2 x3 x4 w z mc ms → VW C 2761 [(0, .ref (a0)), (1, .ref (x1)), (2, .ref (x2)), (3, .ref (x3)), (4, .int (x4))] [] w z mc ms := by
  intro x1 x2 x3 x4 w z mc ms h
  unfold B_L_law_2761 at h
  refine vw_aload_n hX 1 dL_law_2761 rfl ?_
  obtain ⟨hr76, h⟩ := h
  refine s_L_312 hX hr76 dL_law_2762 (Nat.le_of_ble_eq_true rfl) (ct_X5_ticketSales (d := d + 6) (lst hX) h) (fun r77 w78 z79 h => ?_)
  refine vw_aload_n hX 2 dL_law_2765 rfl ?_
  obtain ⟨hr80, h⟩ := h
  refine s_L_315 hX hr80 dL_law_2766 (Nat.le_of_ble_eq_true rfl) (ct_X6_ticketSales (d := d + 9) (lst hX) h) (fun r81 w82 z83 h => ?_)
  refine vw_icmp_eq hX (tgt := 2935) dL_law_2769 (by decide) (fun c84 => ?_) (fun c84 => ?_)
  · have h := h.1 c84
    exact pB_L_law_2935 hX hE hK23 _ _ _ _ _ _ _ _ h
  · have h := h.2 c84
    refine vw_iconst hX (v := 0) dL_law_2772 (by decide) ?_
    exact vw_lawret hX hE dL_law_2773 h
def B_L_law_2758 (a0 : Nat) (K23 : Nat → Nat → Nat → Int32 → Mm → Nat → Nat → Nat → Prop) (Q : Int32 → Mm → Nat → Prop) (x1 : Nat) (x2 : Nat) (x3 : Nat) (x4 : Int32) (w : Mm) (z : Nat) (mc : Nat) (ms : Nat) : Prop :=
  B_L_law_2935 a0 K23 Q x1 x2 x3 x4 w z mc ms
set_option maxRecDepth 100000 in
set_option maxHeartbeats 4000000 in
theorem pB_L_law_2758 {C : Cx} {d : Nat} {a0 : Nat} {K23 : Nat → Nat → Nat → Int32 → Mm → Nat → Nat → Nat → Prop} (hX : CX C cL_law RL 9 (some .boolean) [] (d + 11)) (hE : EL C) (hK23 : ∀ (x1 : Nat) (x2 : Nat) (x3 : Nat) (x4 : Int32) (w : Mm) (z mc ms : Nat), K23 x1 x2 x3 x4 w z mc ms → VW C 23 [(0, .ref (a0)), (1, .ref (x1)), (2, .ref (x2)), (3, .ref (x3)), (4, .int (x4))] [] w z mc ms) : ∀ (x1 : Nat) (x2 : Nat) (x3 : Nat) (x4 : Int32) (w : Mm) (z mc ms : Nat), B_L_law_2758 a0 K23 lawQ x1 x2 x3 x4 w z mc ms → VW C 2758 [(0, .ref (a0)), (1, .ref (x1)), (2, .ref (x2)), (3, .ref (x3)), (4, .int (x4))] [] w z mc ms := by
  intro x1 x2 x3 x4 w z mc ms h
  unfold B_L_law_2758 at h
  refine vw_goto hX (tgt := 2935) dL_law_2758 (by decide) ?_
  exact pB_L_law_2935 hX hE hK23 _ _ _ _ _ _ _ _ h
def B_L_law_2693 (a0 : Nat) (K23 : Nat → Nat → Nat → Int32 → Mm → Nat → Nat → Nat → Prop) (Q : Int32 → Mm → Nat → Prop) (x1 : Nat) (x2 : Nat) (x3 : Nat) (x4 : Int32) (w : Mm) (z : Nat) (mc : Nat) (ms : Nat) : Prop :=
  ∃ n86 f85, arI w a0 0 = some (n86, f85) ∧ vp_in ((x4 + 1)) n86 ∧ ∃ n88 f87, arI w a0 0 = some (n88, f87) ∧ vp_in ((x4 + 2)) n88 ∧ ∃ k92 k93, k92 ≤ mc ∧ k93 ≤ ms ∧ F_L_outlook x1 ((f85 ((x4 + 1) : Int32).toNatClampNeg)) ((f87 ((x4 + 2) : Int32).toNatClampNeg)) x3 w z k92 k93 (fun r89 w90 z91 => ∃ n95 f94, arI w90 a0 0 = some (n95, f94) ∧ vp_in ((x4 + 1)) n95 ∧ ∃ n97 f96, arI w90 a0 0 = some (n97, f96) ∧ vp_in ((x4 + 2)) n97 ∧ isO w90 x2 10 ∧ F_X6_outlook x2 ((f94 ((x4 + 1) : Int32).toNatClampNeg)) ((f96 ((x4 + 2) : Int32).toNatClampNeg)) w90 z91 (fun r99 w100 z101 => isO w100 x2 10 ∧ F_X6_thrown x2 w100 z101 (fun r103 w104 z105 => (r103 = r89 → (¬ r89 = 0 → B_L_law_2758 a0 K23 Q x1 x2 x3 x4 w104 z105 ((mc - k92)) ((ms - k93))) ∧
  (r89 = 0 → ∃ n109 f108, arL w104 x3 = some (n109, f108) ∧ vp_in 0 n109 ∧ (((lg_cmp ((f108 (0 : Int32).toNatClampNeg)) ((r99 : Int32).toInt64))) = 0 → B_L_law_2758 a0 K23 Q x1 x2 x3 x4 w104 z105 ((mc - k92)) ((ms - k93))) ∧
  (¬ ((lg_cmp ((f108 (0 : Int32).toNatClampNeg)) ((r99 : Int32).toInt64))) = 0 → Q 0 w104 z105))) ∧
  (¬ r103 = r89 → Q 0 w104 z105))))
set_option maxRecDepth 100000 in
set_option maxHeartbeats 4000000 in
theorem pB_L_law_2693 {C : Cx} {d : Nat} {a0 : Nat} {K23 : Nat → Nat → Nat → Int32 → Mm → Nat → Nat → Nat → Prop} (hX : CX C cL_law RL 9 (some .boolean) [] (d + 11)) (hE : EL C) (hK23 : ∀ (x1 : Nat) (x2 : Nat) (x3 : Nat) (x4 : Int32) (w : Mm) (z mc ms : Nat), K23 x1 x2 x3 x4 w z mc ms → VW C 23 [(0, .ref (a0)), (1, .ref (x1)), (2, .ref (x2)), (3, .ref (x3)), (4, .int (x4))] [] w z mc ms) : ∀ (x1 : Nat) (x2 : Nat) (x3 : Nat) (x4 : Int32) (w : Mm) (z mc ms : Nat), B_L_law_2693 a0 K23 lawQ x1 x2 x3 x4 w z mc ms → VW C 2693 [(0, .ref (a0)), (1, .ref (x1)), (2, .ref (x2)), (3, .ref (x3)), (4, .int (x4))] [] w z mc ms := by
  intro x1 x2 x3 x4 w z mc ms h
  unfold B_L_law_2693 at h
  refine vw_aload_n hX 1 dL_law_2693 rfl ?_
  refine vw_aload_n hX 0 dL_law_2694 rfl ?_
  refine vw_iload hX 4 dL_law_2695 rfl ?_
  refine vw_iconst hX (v := 1) dL_law_2697 (by decide) ?_
  refine vw_iadd hX dL_law_2698 ?_
  obtain ⟨n86, f85, hf85, hif85, h⟩ := h
  refine vw_iald hX hf85 hif85 dL_law_2699 ?_
  refine vw_aload_n hX 0 dL_law_2700 rfl ?_
  refine vw_iload hX 4 dL_law_2701 rfl ?_
  refine vw_iconst hX (v := 2) dL_law_2703 (by decide) ?_
  refine vw_iadd hX dL_law_2704 ?_
  obtain ⟨n88, f87, hf87, hif87, h⟩ := h
  refine vw_iald hX hf87 hif87 dL_law_2705 ?_
  refine vw_aload_n hX 3 dL_law_2706 rfl ?_
  obtain ⟨k92, k93, hm1, hm2, h⟩ := h
  refine s_L_309 hX dL_law_2707 (Nat.le_of_ble_eq_true rfl) hm1 hm2 (ct_L_outlook (d := d + 2) (lst hX) h) (fun r89 w90 z91 h => ?_)
  refine vw_istore hX dL_law_2710 (by decide) rfl ?_
  refine vw_aload_n hX 3 dL_law_2712 rfl ?_
  refine vw_aload_n hX 1 dL_law_2713 rfl ?_
  refine vw_iload hX 5 dL_law_2714 rfl ?_
  refine vw_iconst hX (v := 1) dL_law_2716 (by decide) ?_
  refine vw_iadd hX dL_law_2717 ?_
  obtain ⟨n95, f94, hf94, hif94, h⟩ := h
  refine vw_iald hX hf94 hif94 dL_law_2718 ?_
  refine vw_aload_n hX 1 dL_law_2719 rfl ?_
  refine vw_iload hX 5 dL_law_2720 rfl ?_
  refine vw_iconst hX (v := 2) dL_law_2722 (by decide) ?_
  refine vw_iadd hX dL_law_2723 ?_
  obtain ⟨n97, f96, hf96, hif96, h⟩ := h
  refine vw_iald hX hf96 hif96 dL_law_2724 ?_
  obtain ⟨hr98, h⟩ := h
  refine s_L_311 hX hr98 dL_law_2725 (Nat.le_of_ble_eq_true rfl) (ct_X6_outlook (d := d + 8) (lst hX) h) (fun r99 w100 z101 h => ?_)
  refine vw_istore hX dL_law_2728 (by decide) rfl ?_
  refine vw_aload_n hX 4 dL_law_2730 rfl ?_
  obtain ⟨hr102, h⟩ := h
  refine s_L_150 hX hr102 dL_law_2731 (Nat.le_of_ble_eq_true rfl) (ct_X6_thrown (d := d + 10) (lst hX) h) (fun r103 w104 z105 h => ?_)
  refine vw_iload hX 1 dL_law_2734 rfl ?_
  refine vw_icmp_eq hX (tgt := 2741) dL_law_2736 (by decide) (fun c106 => ?_) (fun c106 => ?_)
  · have h := h.1 c106
    refine vw_iload hX 1 dL_law_2741 rfl ?_
    refine vw_if_ne hX (tgt := 2758) dL_law_2743 (by decide) (fun c107 => ?_) (fun c107 => ?_)
    · have h := h.1 c107
      exact vw_sub [2, 3, 4, 5, 6] rfl (pB_L_law_2758 hX hE hK23 _ _ _ _ _ _ _ _ h)
    · have h := h.2 c107
      refine vw_aload_n hX 5 dL_law_2746 rfl ?_
      refine vw_iconst hX (v := 0) dL_law_2747 (by decide) ?_
      obtain ⟨n109, f108, hf108, hif108, h⟩ := h
      refine vw_lald hX hf108 hif108 dL_law_2748 ?_
      refine vw_iload hX 0 dL_law_2749 rfl ?_
      refine vw_i2l hX dL_law_2751 ?_
      refine vw_lcmp hX dL_law_2752 ?_
      refine vw_if_eq hX (tgt := 2758) dL_law_2753 (by decide) (fun c110 => ?_) (fun c110 => ?_)
      · have h := h.1 c110
        exact vw_sub [2, 3, 4, 5, 6] rfl (pB_L_law_2758 hX hE hK23 _ _ _ _ _ _ _ _ h)
      · have h := h.2 c110
        refine vw_iconst hX (v := 0) dL_law_2756 (by decide) ?_
        exact vw_lawret hX hE dL_law_2757 h
  · have h := h.2 c106
    refine vw_iconst hX (v := 0) dL_law_2739 (by decide) ?_
    exact vw_lawret hX hE dL_law_2740 h
def B_L_law_2690 (a0 : Nat) (K23 : Nat → Nat → Nat → Int32 → Mm → Nat → Nat → Nat → Prop) (Q : Int32 → Mm → Nat → Prop) (x1 : Nat) (x2 : Nat) (x3 : Nat) (x4 : Int32) (w : Mm) (z : Nat) (mc : Nat) (ms : Nat) : Prop :=
  B_L_law_2935 a0 K23 Q x1 x2 x3 x4 w z mc ms
set_option maxRecDepth 100000 in
set_option maxHeartbeats 4000000 in
theorem pB_L_law_2690 {C : Cx} {d : Nat} {a0 : Nat} {K23 : Nat → Nat → Nat → Int32 → Mm → Nat → Nat → Nat → Prop} (hX : CX C cL_law RL 9 (some .boolean) [] (d + 11)) (hE : EL C) (hK23 : ∀ (x1 : Nat) (x2 : Nat) (x3 : Nat) (x4 : Int32) (w : Mm) (z mc ms : Nat), K23 x1 x2 x3 x4 w z mc ms → VW C 23 [(0, .ref (a0)), (1, .ref (x1)), (2, .ref (x2)), (3, .ref (x3)), (4, .int (x4))] [] w z mc ms) : ∀ (x1 : Nat) (x2 : Nat) (x3 : Nat) (x4 : Int32) (w : Mm) (z mc ms : Nat), B_L_law_2690 a0 K23 lawQ x1 x2 x3 x4 w z mc ms → VW C 2690 [(0, .ref (a0)), (1, .ref (x1)), (2, .ref (x2)), (3, .ref (x3)), (4, .int (x4))] [] w z mc ms := by
  intro x1 x2 x3 x4 w z mc ms h
  unfold B_L_law_2690 at h
  refine vw_goto hX (tgt := 2935) dL_law_2690 (by decide) ?_
  exact pB_L_law_2935 hX hE hK23 _ _ _ _ _ _ _ _ h
def B_L_law_2684 (a0 : Nat) (K23 : Nat → Nat → Nat → Int32 → Mm → Nat → Nat → Nat → Prop) (Q : Int32 → Mm → Nat → Prop) (x1 : Nat) (x2 : Nat) (x3 : Nat) (x4 : Int32) (y0 : Int64) (y1 : Int64) (w : Mm) (z : Nat) (mc : Nat) (ms : Nat) : Prop :=
  (((lg_cmp y1 y0)) = 0 → B_L_law_2690 a0 K23 Q x1 x2 x3 x4 w z mc ms) ∧
  (¬ ((lg_cmp y1 y0)) = 0 → Q 0 w z)
set_option maxRecDepth 100000 in
set_option maxHeartbeats 4000000 in
theorem pB_L_law_2684 {C : Cx} {d : Nat} {a0 : Nat} {K23 : Nat → Nat → Nat → Int32 → Mm → Nat → Nat → Nat → Prop} (hX : CX C cL_law RL 9 (some .boolean) [] (d + 11)) (hE : EL C) (hK23 : ∀ (x1 : Nat) (x2 : Nat) (x3 : Nat) (x4 : Int32) (w : Mm) (z mc ms : Nat), K23 x1 x2 x3 x4 w z mc ms → VW C 23 [(0, .ref (a0)), (1, .ref (x1)), (2, .ref (x2)), (3, .ref (x3)), (4, .int (x4))] [] w z mc ms) : ∀ (x1 : Nat) (x2 : Nat) (x3 : Nat) (x4 : Int32) (y0 : Int64) (y1 : Int64) (w : Mm) (z mc ms : Nat), B_L_law_2684 a0 K23 lawQ x1 x2 x3 x4 y0 y1 w z mc ms → VW C 2684 [(0, .ref (a0)), (1, .ref (x1)), (2, .ref (x2)), (3, .ref (x3)), (4, .int (x4))] [.long (y0), .long (y1)] w z mc ms := by
  intro x1 x2 x3 x4 y0 y1 w z mc ms h
  unfold B_L_law_2684 at h
  refine vw_lcmp hX dL_law_2684 ?_
  refine vw_if_eq hX (tgt := 2690) dL_law_2685 (by decide) (fun c111 => ?_) (fun c111 => ?_)
  · have h := h.1 c111
    exact pB_L_law_2690 hX hE hK23 _ _ _ _ _ _ _ _ h
  · have h := h.2 c111
    refine vw_iconst hX (v := 0) dL_law_2688 (by decide) ?_
    exact vw_lawret hX hE dL_law_2689 h
def B_L_law_2630 (a0 : Nat) (K23 : Nat → Nat → Nat → Int32 → Mm → Nat → Nat → Nat → Prop) (Q : Int32 → Mm → Nat → Prop) (x1 : Nat) (x2 : Nat) (x3 : Nat) (x4 : Int32) (w : Mm) (z : Nat) (mc : Nat) (ms : Nat) : Prop :=
  ∃ n113 f112, arI w a0 0 = some (n113, f112) ∧ vp_in ((x4 + 1)) n113 ∧ ∃ k117 k118, k117 ≤ mc ∧ k118 ≤ ms ∧ F_L_isOverdue x1 ((f112 ((x4 + 1) : Int32).toNatClampNeg)) x3 w z k117 k118 (fun r114 w115 z116 => ∃ n120 f119, arI w115 a0 0 = some (n120, f119) ∧ vp_in ((x4 + 1)) n120 ∧ isO w115 x2 10 ∧ F_X6_isOverdue x2 ((f119 ((x4 + 1) : Int32).toNatClampNeg)) w115 z116 (fun r122 w123 z124 => isO w123 x2 10 ∧ F_X6_thrown x2 w123 z124 (fun r126 w127 z128 => (r126 = r114 → (¬ r114 = 0 → B_L_law_2690 a0 K23 Q x1 x2 x3 x4 w127 z128 ((mc - k117)) ((ms - k118))) ∧
  (r114 = 0 → ∃ n132 f131, arL w127 x3 = some (n132, f131) ∧ vp_in 0 n132 ∧ (r122 = 0 → B_L_law_2684 a0 K23 Q x1 x2 x3 x4 0 ((f131 (0 : Int32).toNatClampNeg)) w127 z128 ((mc - k117)) ((ms - k118))) ∧
  (¬ r122 = 0 → B_L_law_2684 a0 K23 Q x1 x2 x3 x4 1 ((f131 (0 : Int32).toNatClampNeg)) w127 z128 ((mc - k117)) ((ms - k118))))) ∧
  (¬ r126 = r114 → Q 0 w127 z128))))
set_option maxRecDepth 100000 in
set_option maxHeartbeats 4000000 in
theorem pB_L_law_2630 {C : Cx} {d : Nat} {a0 : Nat} {K23 : Nat → Nat → Nat → Int32 → Mm → Nat → Nat → Nat → Prop} (hX : CX C cL_law RL 9 (some .boolean) [] (d + 11)) (hE : EL C) (hK23 : ∀ (x1 : Nat) (x2 : Nat) (x3 : Nat) (x4 : Int32) (w : Mm) (z mc ms : Nat), K23 x1 x2 x3 x4 w z mc ms → VW C 23 [(0, .ref (a0)), (1, .ref (x1)), (2, .ref (x2)), (3, .ref (x3)), (4, .int (x4))] [] w z mc ms) : ∀ (x1 : Nat) (x2 : Nat) (x3 : Nat) (x4 : Int32) (w : Mm) (z mc ms : Nat), B_L_law_2630 a0 K23 lawQ x1 x2 x3 x4 w z mc ms → VW C 2630 [(0, .ref (a0)), (1, .ref (x1)), (2, .ref (x2)), (3, .ref (x3)), (4, .int (x4))] [] w z mc ms := by
  intro x1 x2 x3 x4 w z mc ms h
  unfold B_L_law_2630 at h
  refine vw_aload_n hX 1 dL_law_2630 rfl ?_
  refine vw_aload_n hX 0 dL_law_2631 rfl ?_
  refine vw_iload hX 4 dL_law_2632 rfl ?_
  refine vw_iconst hX (v := 1) dL_law_2634 (by decide) ?_
  refine vw_iadd hX dL_law_2635 ?_
  obtain ⟨n113, f112, hf112, hif112, h⟩ := h
  refine vw_iald hX hf112 hif112 dL_law_2636 ?_
  refine vw_aload_n hX 3 dL_law_2637 rfl ?_
  obtain ⟨k117, k118, hm1, hm2, h⟩ := h
  refine s_L_306 hX dL_law_2638 (Nat.le_of_ble_eq_true rfl) hm1 hm2 (ct_L_isOverdue (d := d + 2) (lst hX) h) (fun r114 w115 z116 h => ?_)
  refine vw_istore hX dL_law_2641 (by decide) rfl ?_
  refine vw_aload_n hX 3 dL_law_2643 rfl ?_
  refine vw_aload_n hX 1 dL_law_2644 rfl ?_
  refine vw_iload hX 5 dL_law_2645 rfl ?_
  refine vw_iconst hX (v := 1) dL_law_2647 (by decide) ?_
  refine vw_iadd hX dL_law_2648 ?_
  obtain ⟨n120, f119, hf119, hif119, h⟩ := h
  refine vw_iald hX hf119 hif119 dL_law_2649 ?_
  obtain ⟨hr121, h⟩ := h
  refine s_L_308 hX hr121 dL_law_2650 (Nat.le_of_ble_eq_true rfl) (ct_X6_isOverdue (d := d + 8) (lst hX) h) (fun r122 w123 z124 h => ?_)
  refine vw_istore hX dL_law_2653 (by decide) rfl ?_
  refine vw_aload_n hX 4 dL_law_2655 rfl ?_
  obtain ⟨hr125, h⟩ := h
  refine s_L_150 hX hr125 dL_law_2656 (Nat.le_of_ble_eq_true rfl) (ct_X6_thrown (d := d + 10) (lst hX) h) (fun r126 w127 z128 h => ?_)
  refine vw_iload hX 1 dL_law_2659 rfl ?_
  refine vw_icmp_eq hX (tgt := 2666) dL_law_2661 (by decide) (fun c129 => ?_) (fun c129 => ?_)
  · have h := h.1 c129
    refine vw_iload hX 1 dL_law_2666 rfl ?_
    refine vw_if_ne hX (tgt := 2690) dL_law_2668 (by decide) (fun c130 => ?_) (fun c130 => ?_)
    · have h := h.1 c130
      exact vw_sub [2, 3, 4, 5, 6] rfl (pB_L_law_2690 hX hE hK23 _ _ _ _ _ _ _ _ h)
    · have h := h.2 c130
      refine vw_aload_n hX 5 dL_law_2671 rfl ?_
      refine vw_iconst hX (v := 0) dL_law_2672 (by decide) ?_
      obtain ⟨n132, f131, hf131, hif131, h⟩ := h
      refine vw_lald hX hf131 hif131 dL_law_2673 ?_
      refine vw_iload hX 0 dL_law_2674 rfl ?_
      refine vw_if_eq hX (tgt := 2683) dL_law_2676 (by decide) (fun c133 => ?_) (fun c133 => ?_)
      · have h := h.1 c133
        refine vw_lconst hX (v := 0) dL_law_2683 (by decide) ?_
        exact vw_sub [2, 3, 4, 5, 6] rfl (pB_L_law_2684 hX hE hK23 _ _ _ _ _ _ _ _ _ _ h)
      · have h := h.2 c133
        refine vw_lconst hX (v := 1) dL_law_2679 (by decide) ?_
        refine vw_goto hX (tgt := 2684) dL_law_2680 (by decide) ?_
        exact vw_sub [2, 3, 4, 5, 6] rfl (pB_L_law_2684 hX hE hK23 _ _ _ _ _ _ _ _ _ _ h)
  · have h := h.2 c129
    refine vw_iconst hX (v := 0) dL_law_2664 (by decide) ?_
    exact vw_lawret hX hE dL_law_2665 h
def B_L_law_2627 (a0 : Nat) (K23 : Nat → Nat → Nat → Int32 → Mm → Nat → Nat → Nat → Prop) (Q : Int32 → Mm → Nat → Prop) (x1 : Nat) (x2 : Nat) (x3 : Nat) (x4 : Int32) (w : Mm) (z : Nat) (mc : Nat) (ms : Nat) : Prop :=
  B_L_law_2935 a0 K23 Q x1 x2 x3 x4 w z mc ms
set_option maxRecDepth 100000 in
set_option maxHeartbeats 4000000 in
theorem pB_L_law_2627 {C : Cx} {d : Nat} {a0 : Nat} {K23 : Nat → Nat → Nat → Int32 → Mm → Nat → Nat → Nat → Prop} (hX : CX C cL_law RL 9 (some .boolean) [] (d + 11)) (hE : EL C) (hK23 : ∀ (x1 : Nat) (x2 : Nat) (x3 : Nat) (x4 : Int32) (w : Mm) (z mc ms : Nat), K23 x1 x2 x3 x4 w z mc ms → VW C 23 [(0, .ref (a0)), (1, .ref (x1)), (2, .ref (x2)), (3, .ref (x3)), (4, .int (x4))] [] w z mc ms) : ∀ (x1 : Nat) (x2 : Nat) (x3 : Nat) (x4 : Int32) (w : Mm) (z mc ms : Nat), B_L_law_2627 a0 K23 lawQ x1 x2 x3 x4 w z mc ms → VW C 2627 [(0, .ref (a0)), (1, .ref (x1)), (2, .ref (x2)), (3, .ref (x3)), (4, .int (x4))] [] w z mc ms := by
  intro x1 x2 x3 x4 w z mc ms h
  unfold B_L_law_2627 at h
  refine vw_goto hX (tgt := 2935) dL_law_2627 (by decide) ?_
  exact pB_L_law_2935 hX hE hK23 _ _ _ _ _ _ _ _ h
def B_L_law_2574 (a0 : Nat) (K23 : Nat → Nat → Nat → Int32 → Mm → Nat → Nat → Nat → Prop) (Q : Int32 → Mm → Nat → Prop) (x1 : Nat) (x2 : Nat) (x3 : Nat) (x4 : Int32) (w : Mm) (z : Nat) (mc : Nat) (ms : Nat) : Prop :=
  ∃ n135 f134, arI w a0 0 = some (n135, f134) ∧ vp_in ((x4 + 1)) n135 ∧ ∃ k139 k140, k139 ≤ mc ∧ k140 ≤ ms ∧ F_L_caseTicket x1 ((f134 ((x4 + 1) : Int32).toNatClampNeg)) x3 w z k139 k140 (fun r136 w137 z138 => ∃ n142 f141, arI w137 a0 0 = some (n142, f141) ∧ vp_in ((x4 + 1)) n142 ∧ isO w137 x2 10 ∧ F_X6_caseTicket x2 ((f141 ((x4 + 1) : Int32).toNatClampNeg)) w137 z138 (fun r144 w145 z146 => isO w145 x2 10 ∧ F_X6_thrown x2 w145 z146 (fun r148 w149 z150 => (r148 = r136 → (¬ r136 = 0 → B_L_law_2627 a0 K23 Q x1 x2 x3 x4 w149 z150 ((mc - k139)) ((ms - k140))) ∧
  (r136 = 0 → ∃ n154 f153, arL w149 x3 = some (n154, f153) ∧ vp_in 0 n154 ∧ (((lg_cmp ((f153 (0 : Int32).toNatClampNeg)) ((r144 : Int32).toInt64))) = 0 → B_L_law_2627 a0 K23 Q x1 x2 x3 x4 w149 z150 ((mc - k139)) ((ms - k140))) ∧
  (¬ ((lg_cmp ((f153 (0 : Int32).toNatClampNeg)) ((r144 : Int32).toInt64))) = 0 → Q 0 w149 z150))) ∧
  (¬ r148 = r136 → Q 0 w149 z150))))
set_option maxRecDepth 100000 in
set_option maxHeartbeats 4000000 in
theorem pB_L_law_2574 {C : Cx} {d : Nat} {a0 : Nat} {K23 : Nat → Nat → Nat → Int32 → Mm → Nat → Nat → Nat → Prop} (hX : CX C cL_law RL 9 (some .boolean) [] (d + 11)) (hE : EL C) (hK23 : ∀ (x1 : Nat) (x2 : Nat) (x3 : Nat) (x4 : Int32) (w : Mm) (z mc ms : Nat), K23 x1 x2 x3 x4 w z mc ms → VW C 23 [(0, .ref (a0)), (1, .ref (x1)), (2, .ref (x2)), (3, .ref (x3)), (4, .int (x4))] [] w z mc ms) : ∀ (x1 : Nat) (x2 : Nat) (x3 : Nat) (x4 : Int32) (w : Mm) (z mc ms : Nat), B_L_law_2574 a0 K23 lawQ x1 x2 x3 x4 w z mc ms → VW C 2574 [(0, .ref (a0)), (1, .ref (x1)), (2, .ref (x2)), (3, .ref (x3)), (4, .int (x4))] [] w z mc ms := by
  intro x1 x2 x3 x4 w z mc ms h
  unfold B_L_law_2574 at h
  refine vw_aload_n hX 1 dL_law_2574 rfl ?_
  refine vw_aload_n hX 0 dL_law_2575 rfl ?_
  refine vw_iload hX 4 dL_law_2576 rfl ?_
  refine vw_iconst hX (v := 1) dL_law_2578 (by decide) ?_
  refine vw_iadd hX dL_law_2579 ?_
  obtain ⟨n135, f134, hf134, hif134, h⟩ := h
  refine vw_iald hX hf134 hif134 dL_law_2580 ?_
  refine vw_aload_n hX 3 dL_law_2581 rfl ?_
  obtain ⟨k139, k140, hm1, hm2, h⟩ := h
  refine s_L_303 hX dL_law_2582 (Nat.le_of_ble_eq_true rfl) hm1 hm2 (ct_L_caseTicket (d := d + 2) (lst hX) h) (fun r136 w137 z138 h => ?_)
  refine vw_istore hX dL_law_2585 (by decide) rfl ?_
  refine vw_aload_n hX 3 dL_law_2587 rfl ?_
  refine vw_aload_n hX 1 dL_law_2588 rfl ?_
  refine vw_iload hX 5 dL_law_2589 rfl ?_
  refine vw_iconst hX (v := 1) dL_law_2591 (by decide) ?_
  refine vw_iadd hX dL_law_2592 ?_
  obtain ⟨n142, f141, hf141, hif141, h⟩ := h
  refine vw_iald hX hf141 hif141 dL_law_2593 ?_
  obtain ⟨hr143, h⟩ := h
  refine s_L_305 hX hr143 dL_law_2594 (Nat.le_of_ble_eq_true rfl) (ct_X6_caseTicket (d := d + 7) (lst hX) h) (fun r144 w145 z146 h => ?_)
  refine vw_istore hX dL_law_2597 (by decide) rfl ?_
  refine vw_aload_n hX 4 dL_law_2599 rfl ?_
  obtain ⟨hr147, h⟩ := h
  refine s_L_150 hX hr147 dL_law_2600 (Nat.le_of_ble_eq_true rfl) (ct_X6_thrown (d := d + 10) (lst hX) h) (fun r148 w149 z150 h => ?_)
  refine vw_iload hX 1 dL_law_2603 rfl ?_
  refine vw_icmp_eq hX (tgt := 2610) dL_law_2605 (by decide) (fun c151 => ?_) (fun c151 => ?_)
  · have h := h.1 c151
    refine vw_iload hX 1 dL_law_2610 rfl ?_
    refine vw_if_ne hX (tgt := 2627) dL_law_2612 (by decide) (fun c152 => ?_) (fun c152 => ?_)
    · have h := h.1 c152
      exact vw_sub [2, 3, 4, 5, 6] rfl (pB_L_law_2627 hX hE hK23 _ _ _ _ _ _ _ _ h)
    · have h := h.2 c152
      refine vw_aload_n hX 5 dL_law_2615 rfl ?_
      refine vw_iconst hX (v := 0) dL_law_2616 (by decide) ?_
      obtain ⟨n154, f153, hf153, hif153, h⟩ := h
      refine vw_lald hX hf153 hif153 dL_law_2617 ?_
      refine vw_iload hX 0 dL_law_2618 rfl ?_
      refine vw_i2l hX dL_law_2620 ?_
      refine vw_lcmp hX dL_law_2621 ?_
      refine vw_if_eq hX (tgt := 2627) dL_law_2622 (by decide) (fun c155 => ?_) (fun c155 => ?_)
      · have h := h.1 c155
        exact vw_sub [2, 3, 4, 5, 6] rfl (pB_L_law_2627 hX hE hK23 _ _ _ _ _ _ _ _ h)
      · have h := h.2 c155
        refine vw_iconst hX (v := 0) dL_law_2625 (by decide) ?_
        exact vw_lawret hX hE dL_law_2626 h
  · have h := h.2 c151
    refine vw_iconst hX (v := 0) dL_law_2608 (by decide) ?_
    exact vw_lawret hX hE dL_law_2609 h
def B_L_law_2571 (a0 : Nat) (K23 : Nat → Nat → Nat → Int32 → Mm → Nat → Nat → Nat → Prop) (Q : Int32 → Mm → Nat → Prop) (x1 : Nat) (x2 : Nat) (x3 : Nat) (x4 : Int32) (w : Mm) (z : Nat) (mc : Nat) (ms : Nat) : Prop :=
  B_L_law_2935 a0 K23 Q x1 x2 x3 x4 w z mc ms
set_option maxRecDepth 100000 in
set_option maxHeartbeats 4000000 in
theorem pB_L_law_2571 {C : Cx} {d : Nat} {a0 : Nat} {K23 : Nat → Nat → Nat → Int32 → Mm → Nat → Nat → Nat → Prop} (hX : CX C cL_law RL 9 (some .boolean) [] (d + 11)) (hE : EL C) (hK23 : ∀ (x1 : Nat) (x2 : Nat) (x3 : Nat) (x4 : Int32) (w : Mm) (z mc ms : Nat), K23 x1 x2 x3 x4 w z mc ms → VW C 23 [(0, .ref (a0)), (1, .ref (x1)), (2, .ref (x2)), (3, .ref (x3)), (4, .int (x4))] [] w z mc ms) : ∀ (x1 : Nat) (x2 : Nat) (x3 : Nat) (x4 : Int32) (w : Mm) (z mc ms : Nat), B_L_law_2571 a0 K23 lawQ x1 x2 x3 x4 w z mc ms → VW C 2571 [(0, .ref (a0)), (1, .ref (x1)), (2, .ref (x2)), (3, .ref (x3)), (4, .int (x4))] [] w z mc ms := by
  intro x1 x2 x3 x4 w z mc ms h
  unfold B_L_law_2571 at h
  refine vw_goto hX (tgt := 2935) dL_law_2571 (by decide) ?_
  exact pB_L_law_2935 hX hE hK23 _ _ _ _ _ _ _ _ h
def B_L_law_2518 (a0 : Nat) (K23 : Nat → Nat → Nat → Int32 → Mm → Nat → Nat → Nat → Prop) (Q : Int32 → Mm → Nat → Prop) (x1 : Nat) (x2 : Nat) (x3 : Nat) (x4 : Int32) (w : Mm) (z : Nat) (mc : Nat) (ms : Nat) : Prop :=
  ∃ n157 f156, arI w a0 0 = some (n157, f156) ∧ vp_in ((x4 + 1)) n157 ∧ ∃ k161 k162, k161 ≤ mc ∧ k162 ≤ ms ∧ F_L_amountDue x1 ((f156 ((x4 + 1) : Int32).toNatClampNeg)) x3 w z k161 k162 (fun r158 w159 z160 => ∃ n164 f163, arI w159 a0 0 = some (n164, f163) ∧ vp_in ((x4 + 1)) n164 ∧ isO w159 x2 10 ∧ F_X6_amountDue x2 ((f163 ((x4 + 1) : Int32).toNatClampNeg)) w159 z160 (fun r166 w167 z168 => isO w167 x2 10 ∧ F_X6_thrown x2 w167 z168 (fun r170 w171 z172 => (r170 = r158 → (¬ r158 = 0 → B_L_law_2571 a0 K23 Q x1 x2 x3 x4 w171 z172 ((mc - k161)) ((ms - k162))) ∧
  (r158 = 0 → ∃ n176 f175, arL w171 x3 = some (n176, f175) ∧ vp_in 0 n176 ∧ (((lg_cmp ((f175 (0 : Int32).toNatClampNeg)) ((r166 : Int32).toInt64))) = 0 → B_L_law_2571 a0 K23 Q x1 x2 x3 x4 w171 z172 ((mc - k161)) ((ms - k162))) ∧
  (¬ ((lg_cmp ((f175 (0 : Int32).toNatClampNeg)) ((r166 : Int32).toInt64))) = 0 → Q 0 w171 z172))) ∧
  (¬ r170 = r158 → Q 0 w171 z172))))
set_option maxRecDepth 100000 in
set_option maxHeartbeats 4000000 in
theorem pB_L_law_2518 {C : Cx} {d : Nat} {a0 : Nat} {K23 : Nat → Nat → Nat → Int32 → Mm → Nat → Nat → Nat → Prop} (hX : CX C cL_law RL 9 (some .boolean) [] (d + 11)) (hE : EL C) (hK23 : ∀ (x1 : Nat) (x2 : Nat) (x3 : Nat) (x4 : Int32) (w : Mm) (z mc ms : Nat), K23 x1 x2 x3 x4 w z mc ms → VW C 23 [(0, .ref (a0)), (1, .ref (x1)), (2, .ref (x2)), (3, .ref (x3)), (4, .int (x4))] [] w z mc ms) : ∀ (x1 : Nat) (x2 : Nat) (x3 : Nat) (x4 : Int32) (w : Mm) (z mc ms : Nat), B_L_law_2518 a0 K23 lawQ x1 x2 x3 x4 w z mc ms → VW C 2518 [(0, .ref (a0)), (1, .ref (x1)), (2, .ref (x2)), (3, .ref (x3)), (4, .int (x4))] [] w z mc ms := by
  intro x1 x2 x3 x4 w z mc ms h
  unfold B_L_law_2518 at h
  refine vw_aload_n hX 1 dL_law_2518 rfl ?_
  refine vw_aload_n hX 0 dL_law_2519 rfl ?_
  refine vw_iload hX 4 dL_law_2520 rfl ?_
  refine vw_iconst hX (v := 1) dL_law_2522 (by decide) ?_
  refine vw_iadd hX dL_law_2523 ?_
  obtain ⟨n157, f156, hf156, hif156, h⟩ := h
  refine vw_iald hX hf156 hif156 dL_law_2524 ?_
  refine vw_aload_n hX 3 dL_law_2525 rfl ?_
  obtain ⟨k161, k162, hm1, hm2, h⟩ := h
  refine s_L_300 hX dL_law_2526 (Nat.le_of_ble_eq_true rfl) hm1 hm2 (ct_L_amountDue (d := d + 2) (lst hX) h) (fun r158 w159 z160 h => ?_)
  refine vw_istore hX dL_law_2529 (by decide) rfl ?_
  refine vw_aload_n hX 3 dL_law_2531 rfl ?_
  refine vw_aload_n hX 1 dL_law_2532 rfl ?_
  refine vw_iload hX 5 dL_law_2533 rfl ?_
  refine vw_iconst hX (v := 1) dL_law_2535 (by decide) ?_
  refine vw_iadd hX dL_law_2536 ?_
  obtain ⟨n164, f163, hf163, hif163, h⟩ := h
  refine vw_iald hX hf163 hif163 dL_law_2537 ?_
  obtain ⟨hr165, h⟩ := h
  refine s_L_302 hX hr165 dL_law_2538 (Nat.le_of_ble_eq_true rfl) (ct_X6_amountDue (d := d + 7) (lst hX) h) (fun r166 w167 z168 h => ?_)
  refine vw_istore hX dL_law_2541 (by decide) rfl ?_
  refine vw_aload_n hX 4 dL_law_2543 rfl ?_
  obtain ⟨hr169, h⟩ := h
  refine s_L_150 hX hr169 dL_law_2544 (Nat.le_of_ble_eq_true rfl) (ct_X6_thrown (d := d + 10) (lst hX) h) (fun r170 w171 z172 h => ?_)
  refine vw_iload hX 1 dL_law_2547 rfl ?_
  refine vw_icmp_eq hX (tgt := 2554) dL_law_2549 (by decide) (fun c173 => ?_) (fun c173 => ?_)
  · have h := h.1 c173
    refine vw_iload hX 1 dL_law_2554 rfl ?_
    refine vw_if_ne hX (tgt := 2571) dL_law_2556 (by decide) (fun c174 => ?_) (fun c174 => ?_)
    · have h := h.1 c174
      exact vw_sub [2, 3, 4, 5, 6] rfl (pB_L_law_2571 hX hE hK23 _ _ _ _ _ _ _ _ h)
    · have h := h.2 c174
      refine vw_aload_n hX 5 dL_law_2559 rfl ?_
      refine vw_iconst hX (v := 0) dL_law_2560 (by decide) ?_
      obtain ⟨n176, f175, hf175, hif175, h⟩ := h
      refine vw_lald hX hf175 hif175 dL_law_2561 ?_
      refine vw_iload hX 0 dL_law_2562 rfl ?_
      refine vw_i2l hX dL_law_2564 ?_
      refine vw_lcmp hX dL_law_2565 ?_
      refine vw_if_eq hX (tgt := 2571) dL_law_2566 (by decide) (fun c177 => ?_) (fun c177 => ?_)
      · have h := h.1 c177
        exact vw_sub [2, 3, 4, 5, 6] rfl (pB_L_law_2571 hX hE hK23 _ _ _ _ _ _ _ _ h)
      · have h := h.2 c177
        refine vw_iconst hX (v := 0) dL_law_2569 (by decide) ?_
        exact vw_lawret hX hE dL_law_2570 h
  · have h := h.2 c173
    refine vw_iconst hX (v := 0) dL_law_2552 (by decide) ?_
    exact vw_lawret hX hE dL_law_2553 h
def B_L_law_2515 (a0 : Nat) (K23 : Nat → Nat → Nat → Int32 → Mm → Nat → Nat → Nat → Prop) (Q : Int32 → Mm → Nat → Prop) (x1 : Nat) (x2 : Nat) (x3 : Nat) (x4 : Int32) (w : Mm) (z : Nat) (mc : Nat) (ms : Nat) : Prop :=
  B_L_law_2935 a0 K23 Q x1 x2 x3 x4 w z mc ms
set_option maxRecDepth 100000 in
set_option maxHeartbeats 4000000 in
theorem pB_L_law_2515 {C : Cx} {d : Nat} {a0 : Nat} {K23 : Nat → Nat → Nat → Int32 → Mm → Nat → Nat → Nat → Prop} (hX : CX C cL_law RL 9 (some .boolean) [] (d + 11)) (hE : EL C) (hK23 : ∀ (x1 : Nat) (x2 : Nat) (x3 : Nat) (x4 : Int32) (w : Mm) (z mc ms : Nat), K23 x1 x2 x3 x4 w z mc ms → VW C 23 [(0, .ref (a0)), (1, .ref (x1)), (2, .ref (x2)), (3, .ref (x3)), (4, .int (x4))] [] w z mc ms) : ∀ (x1 : Nat) (x2 : Nat) (x3 : Nat) (x4 : Int32) (w : Mm) (z mc ms : Nat), B_L_law_2515 a0 K23 lawQ x1 x2 x3 x4 w z mc ms → VW C 2515 [(0, .ref (a0)), (1, .ref (x1)), (2, .ref (x2)), (3, .ref (x3)), (4, .int (x4))] [] w z mc ms := by
  intro x1 x2 x3 x4 w z mc ms h
  unfold B_L_law_2515 at h
  refine vw_goto hX (tgt := 2935) dL_law_2515 (by decide) ?_
  exact pB_L_law_2935 hX hE hK23 _ _ _ _ _ _ _ _ h
def B_L_law_2462 (a0 : Nat) (K23 : Nat → Nat → Nat → Int32 → Mm → Nat → Nat → Nat → Prop) (Q : Int32 → Mm → Nat → Prop) (x1 : Nat) (x2 : Nat) (x3 : Nat) (x4 : Int32) (w : Mm) (z : Nat) (mc : Nat) (ms : Nat) : Prop :=
  ∃ n179 f178, arI w a0 0 = some (n179, f178) ∧ vp_in ((x4 + 1)) n179 ∧ ∃ k183 k184, k183 ≤ mc ∧ k184 ≤ ms ∧ F_L_caseTime x1 ((f178 ((x4 + 1) : Int32).toNatClampNeg)) x3 w z k183 k184 (fun r180 w181 z182 => ∃ n186 f185, arI w181 a0 0 = some (n186, f185) ∧ vp_in ((x4 + 1)) n186 ∧ isO w181 x2 10 ∧ F_X6_caseTime x2 ((f185 ((x4 + 1) : Int32).toNatClampNeg)) w181 z182 (fun r188 w189 z190 => isO w189 x2 10 ∧ F_X6_thrown x2 w189 z190 (fun r192 w193 z194 => (r192 = r180 → (¬ r180 = 0 → B_L_law_2515 a0 K23 Q x1 x2 x3 x4 w193 z194 ((mc - k183)) ((ms - k184))) ∧
  (r180 = 0 → ∃ n198 f197, arL w193 x3 = some (n198, f197) ∧ vp_in 0 n198 ∧ (((lg_cmp ((f197 (0 : Int32).toNatClampNeg)) ((r188 : Int32).toInt64))) = 0 → B_L_law_2515 a0 K23 Q x1 x2 x3 x4 w193 z194 ((mc - k183)) ((ms - k184))) ∧
  (¬ ((lg_cmp ((f197 (0 : Int32).toNatClampNeg)) ((r188 : Int32).toInt64))) = 0 → Q 0 w193 z194))) ∧
  (¬ r192 = r180 → Q 0 w193 z194))))
set_option maxRecDepth 100000 in
set_option maxHeartbeats 4000000 in
theorem pB_L_law_2462 {C : Cx} {d : Nat} {a0 : Nat} {K23 : Nat → Nat → Nat → Int32 → Mm → Nat → Nat → Nat → Prop} (hX : CX C cL_law RL 9 (some .boolean) [] (d + 11)) (hE : EL C) (hK23 : ∀ (x1 : Nat) (x2 : Nat) (x3 : Nat) (x4 : Int32) (w : Mm) (z mc ms : Nat), K23 x1 x2 x3 x4 w z mc ms → VW C 23 [(0, .ref (a0)), (1, .ref (x1)), (2, .ref (x2)), (3, .ref (x3)), (4, .int (x4))] [] w z mc ms) : ∀ (x1 : Nat) (x2 : Nat) (x3 : Nat) (x4 : Int32) (w : Mm) (z mc ms : Nat), B_L_law_2462 a0 K23 lawQ x1 x2 x3 x4 w z mc ms → VW C 2462 [(0, .ref (a0)), (1, .ref (x1)), (2, .ref (x2)), (3, .ref (x3)), (4, .int (x4))] [] w z mc ms := by
  intro x1 x2 x3 x4 w z mc ms h
  unfold B_L_law_2462 at h
  refine vw_aload_n hX 1 dL_law_2462 rfl ?_
  refine vw_aload_n hX 0 dL_law_2463 rfl ?_
  refine vw_iload hX 4 dL_law_2464 rfl ?_
  refine vw_iconst hX (v := 1) dL_law_2466 (by decide) ?_
  refine vw_iadd hX dL_law_2467 ?_
  obtain ⟨n179, f178, hf178, hif178, h⟩ := h
  refine vw_iald hX hf178 hif178 dL_law_2468 ?_
  refine vw_aload_n hX 3 dL_law_2469 rfl ?_
  obtain ⟨k183, k184, hm1, hm2, h⟩ := h
  refine s_L_297 hX dL_law_2470 (Nat.le_of_ble_eq_true rfl) hm1 hm2 (ct_L_caseTime (d := d + 2) (lst hX) h) (fun r180 w181 z182 h => ?_)
  refine vw_istore hX dL_law_2473 (by decide) rfl ?_
  refine vw_aload_n hX 3 dL_law_2475 rfl ?_
  refine vw_aload_n hX 1 dL_law_2476 rfl ?_
  refine vw_iload hX 5 dL_law_2477 rfl ?_
  refine vw_iconst hX (v := 1) dL_law_2479 (by decide) ?_
  refine vw_iadd hX dL_law_2480 ?_
  obtain ⟨n186, f185, hf185, hif185, h⟩ := h
  refine vw_iald hX hf185 hif185 dL_law_2481 ?_
  obtain ⟨hr187, h⟩ := h
  refine s_L_299 hX hr187 dL_law_2482 (Nat.le_of_ble_eq_true rfl) (ct_X6_caseTime (d := d + 7) (lst hX) h) (fun r188 w189 z190 h => ?_)
  refine vw_istore hX dL_law_2485 (by decide) rfl ?_
  refine vw_aload_n hX 4 dL_law_2487 rfl ?_
  obtain ⟨hr191, h⟩ := h
  refine s_L_150 hX hr191 dL_law_2488 (Nat.le_of_ble_eq_true rfl) (ct_X6_thrown (d := d + 10) (lst hX) h) (fun r192 w193 z194 h => ?_)
  refine vw_iload hX 1 dL_law_2491 rfl ?_
  refine vw_icmp_eq hX (tgt := 2498) dL_law_2493 (by decide) (fun c195 => ?_) (fun c195 => ?_)
  · have h := h.1 c195
    refine vw_iload hX 1 dL_law_2498 rfl ?_
    refine vw_if_ne hX (tgt := 2515) dL_law_2500 (by decide) (fun c196 => ?_) (fun c196 => ?_)
    · have h := h.1 c196
      exact vw_sub [2, 3, 4, 5, 6] rfl (pB_L_law_2515 hX hE hK23 _ _ _ _ _ _ _ _ h)
    · have h := h.2 c196
      refine vw_aload_n hX 5 dL_law_2503 rfl ?_
      refine vw_iconst hX (v := 0) dL_law_2504 (by decide) ?_
      obtain ⟨n198, f197, hf197, hif197, h⟩ := h
      refine vw_lald hX hf197 hif197 dL_law_2505 ?_
      refine vw_iload hX 0 dL_law_2506 rfl ?_
      refine vw_i2l hX dL_law_2508 ?_
      refine vw_lcmp hX dL_law_2509 ?_
      refine vw_if_eq hX (tgt := 2515) dL_law_2510 (by decide) (fun c199 => ?_) (fun c199 => ?_)
      · have h := h.1 c199
        exact vw_sub [2, 3, 4, 5, 6] rfl (pB_L_law_2515 hX hE hK23 _ _ _ _ _ _ _ _ h)
      · have h := h.2 c199
        refine vw_iconst hX (v := 0) dL_law_2513 (by decide) ?_
        exact vw_lawret hX hE dL_law_2514 h
  · have h := h.2 c195
    refine vw_iconst hX (v := 0) dL_law_2496 (by decide) ?_
    exact vw_lawret hX hE dL_law_2497 h
def B_L_law_2459 (a0 : Nat) (K23 : Nat → Nat → Nat → Int32 → Mm → Nat → Nat → Nat → Prop) (Q : Int32 → Mm → Nat → Prop) (x1 : Nat) (x2 : Nat) (x3 : Nat) (x4 : Int32) (w : Mm) (z : Nat) (mc : Nat) (ms : Nat) : Prop :=
  B_L_law_2935 a0 K23 Q x1 x2 x3 x4 w z mc ms
set_option maxRecDepth 100000 in
set_option maxHeartbeats 4000000 in
theorem pB_L_law_2459 {C : Cx} {d : Nat} {a0 : Nat} {K23 : Nat → Nat → Nat → Int32 → Mm → Nat → Nat → Nat → Prop} (hX : CX C cL_law RL 9 (some .boolean) [] (d + 11)) (hE : EL C) (hK23 : ∀ (x1 : Nat) (x2 : Nat) (x3 : Nat) (x4 : Int32) (w : Mm) (z mc ms : Nat), K23 x1 x2 x3 x4 w z mc ms → VW C 23 [(0, .ref (a0)), (1, .ref (x1)), (2, .ref (x2)), (3, .ref (x3)), (4, .int (x4))] [] w z mc ms) : ∀ (x1 : Nat) (x2 : Nat) (x3 : Nat) (x4 : Int32) (w : Mm) (z mc ms : Nat), B_L_law_2459 a0 K23 lawQ x1 x2 x3 x4 w z mc ms → VW C 2459 [(0, .ref (a0)), (1, .ref (x1)), (2, .ref (x2)), (3, .ref (x3)), (4, .int (x4))] [] w z mc ms := by
  intro x1 x2 x3 x4 w z mc ms h
  unfold B_L_law_2459 at h
  refine vw_goto hX (tgt := 2935) dL_law_2459 (by decide) ?_
  exact pB_L_law_2935 hX hE hK23 _ _ _ _ _ _ _ _ h
def B_L_law_2406 (a0 : Nat) (K23 : Nat → Nat → Nat → Int32 → Mm → Nat → Nat → Nat → Prop) (Q : Int32 → Mm → Nat → Prop) (x1 : Nat) (x2 : Nat) (x3 : Nat) (x4 : Int32) (w : Mm) (z : Nat) (mc : Nat) (ms : Nat) : Prop :=
  ∃ n201 f200, arI w a0 0 = some (n201, f200) ∧ vp_in ((x4 + 1)) n201 ∧ ∃ k205 k206, k205 ≤ mc ∧ k206 ≤ ms ∧ F_L_caseState x1 ((f200 ((x4 + 1) : Int32).toNatClampNeg)) x3 w z k205 k206 (fun r202 w203 z204 => ∃ n208 f207, arI w203 a0 0 = some (n208, f207) ∧ vp_in ((x4 + 1)) n208 ∧ isO w203 x2 10 ∧ F_X6_caseState x2 ((f207 ((x4 + 1) : Int32).toNatClampNeg)) w203 z204 (fun r210 w211 z212 => isO w211 x2 10 ∧ F_X6_thrown x2 w211 z212 (fun r214 w215 z216 => (r214 = r202 → (¬ r202 = 0 → B_L_law_2459 a0 K23 Q x1 x2 x3 x4 w215 z216 ((mc - k205)) ((ms - k206))) ∧
  (r202 = 0 → ∃ n220 f219, arL w215 x3 = some (n220, f219) ∧ vp_in 0 n220 ∧ (((lg_cmp ((f219 (0 : Int32).toNatClampNeg)) ((r210 : Int32).toInt64))) = 0 → B_L_law_2459 a0 K23 Q x1 x2 x3 x4 w215 z216 ((mc - k205)) ((ms - k206))) ∧
  (¬ ((lg_cmp ((f219 (0 : Int32).toNatClampNeg)) ((r210 : Int32).toInt64))) = 0 → Q 0 w215 z216))) ∧
  (¬ r214 = r202 → Q 0 w215 z216))))
set_option maxRecDepth 100000 in
set_option maxHeartbeats 4000000 in
theorem pB_L_law_2406 {C : Cx} {d : Nat} {a0 : Nat} {K23 : Nat → Nat → Nat → Int32 → Mm → Nat → Nat → Nat → Prop} (hX : CX C cL_law RL 9 (some .boolean) [] (d + 11)) (hE : EL C) (hK23 : ∀ (x1 : Nat) (x2 : Nat) (x3 : Nat) (x4 : Int32) (w : Mm) (z mc ms : Nat), K23 x1 x2 x3 x4 w z mc ms → VW C 23 [(0, .ref (a0)), (1, .ref (x1)), (2, .ref (x2)), (3, .ref (x3)), (4, .int (x4))] [] w z mc ms) : ∀ (x1 : Nat) (x2 : Nat) (x3 : Nat) (x4 : Int32) (w : Mm) (z mc ms : Nat), B_L_law_2406 a0 K23 lawQ x1 x2 x3 x4 w z mc ms → VW C 2406 [(0, .ref (a0)), (1, .ref (x1)), (2, .ref (x2)), (3, .ref (x3)), (4, .int (x4))] [] w z mc ms := by
  intro x1 x2 x3 x4 w z mc ms h
  unfold B_L_law_2406 at h
  refine vw_aload_n hX 1 dL_law_2406 rfl ?_
  refine vw_aload_n hX 0 dL_law_2407 rfl ?_
  refine vw_iload hX 4 dL_law_2408 rfl ?_
  refine vw_iconst hX (v := 1) dL_law_2410 (by decide) ?_
  refine vw_iadd hX dL_law_2411 ?_
  obtain ⟨n201, f200, hf200, hif200, h⟩ := h
  refine vw_iald hX hf200 hif200 dL_law_2412 ?_
  refine vw_aload_n hX 3 dL_law_2413 rfl ?_
  obtain ⟨k205, k206, hm1, hm2, h⟩ := h
  refine s_L_294 hX dL_law_2414 (Nat.le_of_ble_eq_true rfl) hm1 hm2 (ct_L_caseState (d := d + 2) (lst hX) h) (fun r202 w203 z204 h => ?_)
  refine vw_istore hX dL_law_2417 (by decide) rfl ?_
  refine vw_aload_n hX 3 dL_law_2419 rfl ?_
  refine vw_aload_n hX 1 dL_law_2420 rfl ?_
  refine vw_iload hX 5 dL_law_2421 rfl ?_
  refine vw_iconst hX (v := 1) dL_law_2423 (by decide) ?_
  refine vw_iadd hX dL_law_2424 ?_
  obtain ⟨n208, f207, hf207, hif207, h⟩ := h
  refine vw_iald hX hf207 hif207 dL_law_2425 ?_
  obtain ⟨hr209, h⟩ := h
  refine s_L_296 hX hr209 dL_law_2426 (Nat.le_of_ble_eq_true rfl) (ct_X6_caseState (d := d + 7) (lst hX) h) (fun r210 w211 z212 h => ?_)
  refine vw_istore hX dL_law_2429 (by decide) rfl ?_
  refine vw_aload_n hX 4 dL_law_2431 rfl ?_
  obtain ⟨hr213, h⟩ := h
  refine s_L_150 hX hr213 dL_law_2432 (Nat.le_of_ble_eq_true rfl) (ct_X6_thrown (d := d + 10) (lst hX) h) (fun r214 w215 z216 h => ?_)
  refine vw_iload hX 1 dL_law_2435 rfl ?_
  refine vw_icmp_eq hX (tgt := 2442) dL_law_2437 (by decide) (fun c217 => ?_) (fun c217 => ?_)
  · have h := h.1 c217
    refine vw_iload hX 1 dL_law_2442 rfl ?_
    refine vw_if_ne hX (tgt := 2459) dL_law_2444 (by decide) (fun c218 => ?_) (fun c218 => ?_)
    · have h := h.1 c218
      exact vw_sub [2, 3, 4, 5, 6] rfl (pB_L_law_2459 hX hE hK23 _ _ _ _ _ _ _ _ h)
    · have h := h.2 c218
      refine vw_aload_n hX 5 dL_law_2447 rfl ?_
      refine vw_iconst hX (v := 0) dL_law_2448 (by decide) ?_
      obtain ⟨n220, f219, hf219, hif219, h⟩ := h
      refine vw_lald hX hf219 hif219 dL_law_2449 ?_
      refine vw_iload hX 0 dL_law_2450 rfl ?_
      refine vw_i2l hX dL_law_2452 ?_
      refine vw_lcmp hX dL_law_2453 ?_
      refine vw_if_eq hX (tgt := 2459) dL_law_2454 (by decide) (fun c221 => ?_) (fun c221 => ?_)
      · have h := h.1 c221
        exact vw_sub [2, 3, 4, 5, 6] rfl (pB_L_law_2459 hX hE hK23 _ _ _ _ _ _ _ _ h)
      · have h := h.2 c221
        refine vw_iconst hX (v := 0) dL_law_2457 (by decide) ?_
        exact vw_lawret hX hE dL_law_2458 h
  · have h := h.2 c217
    refine vw_iconst hX (v := 0) dL_law_2440 (by decide) ?_
    exact vw_lawret hX hE dL_law_2441 h
def B_L_law_2403 (a0 : Nat) (K23 : Nat → Nat → Nat → Int32 → Mm → Nat → Nat → Nat → Prop) (Q : Int32 → Mm → Nat → Prop) (x1 : Nat) (x2 : Nat) (x3 : Nat) (x4 : Int32) (w : Mm) (z : Nat) (mc : Nat) (ms : Nat) : Prop :=
  B_L_law_2935 a0 K23 Q x1 x2 x3 x4 w z mc ms
set_option maxRecDepth 100000 in
set_option maxHeartbeats 4000000 in
theorem pB_L_law_2403 {C : Cx} {d : Nat} {a0 : Nat} {K23 : Nat → Nat → Nat → Int32 → Mm → Nat → Nat → Nat → Prop} (hX : CX C cL_law RL 9 (some .boolean) [] (d + 11)) (hE : EL C) (hK23 : ∀ (x1 : Nat) (x2 : Nat) (x3 : Nat) (x4 : Int32) (w : Mm) (z mc ms : Nat), K23 x1 x2 x3 x4 w z mc ms → VW C 23 [(0, .ref (a0)), (1, .ref (x1)), (2, .ref (x2)), (3, .ref (x3)), (4, .int (x4))] [] w z mc ms) : ∀ (x1 : Nat) (x2 : Nat) (x3 : Nat) (x4 : Int32) (w : Mm) (z mc ms : Nat), B_L_law_2403 a0 K23 lawQ x1 x2 x3 x4 w z mc ms → VW C 2403 [(0, .ref (a0)), (1, .ref (x1)), (2, .ref (x2)), (3, .ref (x3)), (4, .int (x4))] [] w z mc ms := by
  intro x1 x2 x3 x4 w z mc ms h
  unfold B_L_law_2403 at h
  refine vw_goto hX (tgt := 2935) dL_law_2403 (by decide) ?_
  exact pB_L_law_2935 hX hE hK23 _ _ _ _ _ _ _ _ h
def B_L_law_2350 (a0 : Nat) (K23 : Nat → Nat → Nat → Int32 → Mm → Nat → Nat → Nat → Prop) (Q : Int32 → Mm → Nat → Prop) (x1 : Nat) (x2 : Nat) (x3 : Nat) (x4 : Int32) (w : Mm) (z : Nat) (mc : Nat) (ms : Nat) : Prop :=
  ∃ n223 f222, arI w a0 0 = some (n223, f222) ∧ vp_in ((x4 + 1)) n223 ∧ ∃ k227 k228, k227 ≤ mc ∧ k228 ≤ ms ∧ F_L_caseFault x1 ((f222 ((x4 + 1) : Int32).toNatClampNeg)) x3 w z k227 k228 (fun r224 w225 z226 => ∃ n230 f229, arI w225 a0 0 = some (n230, f229) ∧ vp_in ((x4 + 1)) n230 ∧ isO w225 x2 10 ∧ F_X6_caseFault x2 ((f229 ((x4 + 1) : Int32).toNatClampNeg)) w225 z226 (fun r232 w233 z234 => isO w233 x2 10 ∧ F_X6_thrown x2 w233 z234 (fun r236 w237 z238 => (r236 = r224 → (¬ r224 = 0 → B_L_law_2403 a0 K23 Q x1 x2 x3 x4 w237 z238 ((mc - k227)) ((ms - k228))) ∧
  (r224 = 0 → ∃ n242 f241, arL w237 x3 = some (n242, f241) ∧ vp_in 0 n242 ∧ (((lg_cmp ((f241 (0 : Int32).toNatClampNeg)) ((r232 : Int32).toInt64))) = 0 → B_L_law_2403 a0 K23 Q x1 x2 x3 x4 w237 z238 ((mc - k227)) ((ms - k228))) ∧
  (¬ ((lg_cmp ((f241 (0 : Int32).toNatClampNeg)) ((r232 : Int32).toInt64))) = 0 → Q 0 w237 z238))) ∧
  (¬ r236 = r224 → Q 0 w237 z238))))
set_option maxRecDepth 100000 in
set_option maxHeartbeats 4000000 in
theorem pB_L_law_2350 {C : Cx} {d : Nat} {a0 : Nat} {K23 : Nat → Nat → Nat → Int32 → Mm → Nat → Nat → Nat → Prop} (hX : CX C cL_law RL 9 (some .boolean) [] (d + 11)) (hE : EL C) (hK23 : ∀ (x1 : Nat) (x2 : Nat) (x3 : Nat) (x4 : Int32) (w : Mm) (z mc ms : Nat), K23 x1 x2 x3 x4 w z mc ms → VW C 23 [(0, .ref (a0)), (1, .ref (x1)), (2, .ref (x2)), (3, .ref (x3)), (4, .int (x4))] [] w z mc ms) : ∀ (x1 : Nat) (x2 : Nat) (x3 : Nat) (x4 : Int32) (w : Mm) (z mc ms : Nat), B_L_law_2350 a0 K23 lawQ x1 x2 x3 x4 w z mc ms → VW C 2350 [(0, .ref (a0)), (1, .ref (x1)), (2, .ref (x2)), (3, .ref (x3)), (4, .int (x4))] [] w z mc ms := by
  intro x1 x2 x3 x4 w z mc ms h
  unfold B_L_law_2350 at h
  refine vw_aload_n hX 1 dL_law_2350 rfl ?_
  refine vw_aload_n hX 0 dL_law_2351 rfl ?_
  refine vw_iload hX 4 dL_law_2352 rfl ?_
  refine vw_iconst hX (v := 1) dL_law_2354 (by decide) ?_
  refine vw_iadd hX dL_law_2355 ?_
  obtain ⟨n223, f222, hf222, hif222, h⟩ := h
  refine vw_iald hX hf222 hif222 dL_law_2356 ?_
  refine vw_aload_n hX 3 dL_law_2357 rfl ?_
  obtain ⟨k227, k228, hm1, hm2, h⟩ := h
  refine s_L_291 hX dL_law_2358 (Nat.le_of_ble_eq_true rfl) hm1 hm2 (ct_L_caseFault (d := d + 2) (lst hX) h) (fun r224 w225 z226 h => ?_)
  refine vw_istore hX dL_law_2361 (by decide) rfl ?_
  refine vw_aload_n hX 3 dL_law_2363 rfl ?_
  refine vw_aload_n hX 1 dL_law_2364 rfl ?_
  refine vw_iload hX 5 dL_law_2365 rfl ?_
  refine vw_iconst hX (v := 1) dL_law_2367 (by decide) ?_
  refine vw_iadd hX dL_law_2368 ?_
  obtain ⟨n230, f229, hf229, hif229, h⟩ := h
  refine vw_iald hX hf229 hif229 dL_law_2369 ?_
  obtain ⟨hr231, h⟩ := h
  refine s_L_293 hX hr231 dL_law_2370 (Nat.le_of_ble_eq_true rfl) (ct_X6_caseFault (d := d + 7) (lst hX) h) (fun r232 w233 z234 h => ?_)
  refine vw_istore hX dL_law_2373 (by decide) rfl ?_
  refine vw_aload_n hX 4 dL_law_2375 rfl ?_
  obtain ⟨hr235, h⟩ := h
  refine s_L_150 hX hr235 dL_law_2376 (Nat.le_of_ble_eq_true rfl) (ct_X6_thrown (d := d + 10) (lst hX) h) (fun r236 w237 z238 h => ?_)
  refine vw_iload hX 1 dL_law_2379 rfl ?_
  refine vw_icmp_eq hX (tgt := 2386) dL_law_2381 (by decide) (fun c239 => ?_) (fun c239 => ?_)
  · have h := h.1 c239
    refine vw_iload hX 1 dL_law_2386 rfl ?_
    refine vw_if_ne hX (tgt := 2403) dL_law_2388 (by decide) (fun c240 => ?_) (fun c240 => ?_)
    · have h := h.1 c240
      exact vw_sub [2, 3, 4, 5, 6] rfl (pB_L_law_2403 hX hE hK23 _ _ _ _ _ _ _ _ h)
    · have h := h.2 c240
      refine vw_aload_n hX 5 dL_law_2391 rfl ?_
      refine vw_iconst hX (v := 0) dL_law_2392 (by decide) ?_
      obtain ⟨n242, f241, hf241, hif241, h⟩ := h
      refine vw_lald hX hf241 hif241 dL_law_2393 ?_
      refine vw_iload hX 0 dL_law_2394 rfl ?_
      refine vw_i2l hX dL_law_2396 ?_
      refine vw_lcmp hX dL_law_2397 ?_
      refine vw_if_eq hX (tgt := 2403) dL_law_2398 (by decide) (fun c243 => ?_) (fun c243 => ?_)
      · have h := h.1 c243
        exact vw_sub [2, 3, 4, 5, 6] rfl (pB_L_law_2403 hX hE hK23 _ _ _ _ _ _ _ _ h)
      · have h := h.2 c243
        refine vw_iconst hX (v := 0) dL_law_2401 (by decide) ?_
        exact vw_lawret hX hE dL_law_2402 h
  · have h := h.2 c239
    refine vw_iconst hX (v := 0) dL_law_2384 (by decide) ?_
    exact vw_lawret hX hE dL_law_2385 h
def B_L_law_2347 (a0 : Nat) (K23 : Nat → Nat → Nat → Int32 → Mm → Nat → Nat → Nat → Prop) (Q : Int32 → Mm → Nat → Prop) (x1 : Nat) (x2 : Nat) (x3 : Nat) (x4 : Int32) (w : Mm) (z : Nat) (mc : Nat) (ms : Nat) : Prop :=
  B_L_law_2935 a0 K23 Q x1 x2 x3 x4 w z mc ms
set_option maxRecDepth 100000 in
set_option maxHeartbeats 4000000 in
theorem pB_L_law_2347 {C : Cx} {d : Nat} {a0 : Nat} {K23 : Nat → Nat → Nat → Int32 → Mm → Nat → Nat → Nat → Prop} (hX : CX C cL_law RL 9 (some .boolean) [] (d + 11)) (hE : EL C) (hK23 : ∀ (x1 : Nat) (x2 : Nat) (x3 : Nat) (x4 : Int32) (w : Mm) (z mc ms : Nat), K23 x1 x2 x3 x4 w z mc ms → VW C 23 [(0, .ref (a0)), (1, .ref (x1)), (2, .ref (x2)), (3, .ref (x3)), (4, .int (x4))] [] w z mc ms) : ∀ (x1 : Nat) (x2 : Nat) (x3 : Nat) (x4 : Int32) (w : Mm) (z mc ms : Nat), B_L_law_2347 a0 K23 lawQ x1 x2 x3 x4 w z mc ms → VW C 2347 [(0, .ref (a0)), (1, .ref (x1)), (2, .ref (x2)), (3, .ref (x3)), (4, .int (x4))] [] w z mc ms := by
  intro x1 x2 x3 x4 w z mc ms h
  unfold B_L_law_2347 at h
  refine vw_goto hX (tgt := 2935) dL_law_2347 (by decide) ?_
  exact pB_L_law_2935 hX hE hK23 _ _ _ _ _ _ _ _ h
def B_L_law_2294 (a0 : Nat) (K23 : Nat → Nat → Nat → Int32 → Mm → Nat → Nat → Nat → Prop) (Q : Int32 → Mm → Nat → Prop) (x1 : Nat) (x2 : Nat) (x3 : Nat) (x4 : Int32) (w : Mm) (z : Nat) (mc : Nat) (ms : Nat) : Prop :=
  ∃ n245 f244, arI w a0 0 = some (n245, f244) ∧ vp_in ((x4 + 1)) n245 ∧ ∃ k249 k250, k249 ≤ mc ∧ k250 ≤ ms ∧ F_L_casePassenger x1 ((f244 ((x4 + 1) : Int32).toNatClampNeg)) x3 w z k249 k250 (fun r246 w247 z248 => ∃ n252 f251, arI w247 a0 0 = some (n252, f251) ∧ vp_in ((x4 + 1)) n252 ∧ isO w247 x2 10 ∧ F_X6_casePassenger x2 ((f251 ((x4 + 1) : Int32).toNatClampNeg)) w247 z248 (fun r254 w255 z256 => isO w255 x2 10 ∧ F_X6_thrown x2 w255 z256 (fun r258 w259 z260 => (r258 = r246 → (¬ r246 = 0 → B_L_law_2347 a0 K23 Q x1 x2 x3 x4 w259 z260 ((mc - k249)) ((ms - k250))) ∧
  (r246 = 0 → ∃ n264 f263, arL w259 x3 = some (n264, f263) ∧ vp_in 0 n264 ∧ (((lg_cmp ((f263 (0 : Int32).toNatClampNeg)) ((r254 : Int32).toInt64))) = 0 → B_L_law_2347 a0 K23 Q x1 x2 x3 x4 w259 z260 ((mc - k249)) ((ms - k250))) ∧
  (¬ ((lg_cmp ((f263 (0 : Int32).toNatClampNeg)) ((r254 : Int32).toInt64))) = 0 → Q 0 w259 z260))) ∧
  (¬ r258 = r246 → Q 0 w259 z260))))
set_option maxRecDepth 100000 in
set_option maxHeartbeats 4000000 in
theorem pB_L_law_2294 {C : Cx} {d : Nat} {a0 : Nat} {K23 : Nat → Nat → Nat → Int32 → Mm → Nat → Nat → Nat → Prop} (hX : CX C cL_law RL 9 (some .boolean) [] (d + 11)) (hE : EL C) (hK23 : ∀ (x1 : Nat) (x2 : Nat) (x3 : Nat) (x4 : Int32) (w : Mm) (z mc ms : Nat), K23 x1 x2 x3 x4 w z mc ms → VW C 23 [(0, .ref (a0)), (1, .ref (x1)), (2, .ref (x2)), (3, .ref (x3)), (4, .int (x4))] [] w z mc ms) : ∀ (x1 : Nat) (x2 : Nat) (x3 : Nat) (x4 : Int32) (w : Mm) (z mc ms : Nat), B_L_law_2294 a0 K23 lawQ x1 x2 x3 x4 w z mc ms → VW C 2294 [(0, .ref (a0)), (1, .ref (x1)), (2, .ref (x2)), (3, .ref (x3)), (4, .int (x4))] [] w z mc ms := by
  intro x1 x2 x3 x4 w z mc ms h
  unfold B_L_law_2294 at h
  refine vw_aload_n hX 1 dL_law_2294 rfl ?_
  refine vw_aload_n hX 0 dL_law_2295 rfl ?_
  refine vw_iload hX 4 dL_law_2296 rfl ?_
  refine vw_iconst hX (v := 1) dL_law_2298 (by decide) ?_
  refine vw_iadd hX dL_law_2299 ?_
  obtain ⟨n245, f244, hf244, hif244, h⟩ := h
  refine vw_iald hX hf244 hif244 dL_law_2300 ?_
  refine vw_aload_n hX 3 dL_law_2301 rfl ?_
  obtain ⟨k249, k250, hm1, hm2, h⟩ := h
  refine s_L_288 hX dL_law_2302 (Nat.le_of_ble_eq_true rfl) hm1 hm2 (ct_L_casePassenger (d := d + 2) (lst hX) h) (fun r246 w247 z248 h => ?_)
  refine vw_istore hX dL_law_2305 (by decide) rfl ?_
  refine vw_aload_n hX 3 dL_law_2307 rfl ?_
  refine vw_aload_n hX 1 dL_law_2308 rfl ?_
  refine vw_iload hX 5 dL_law_2309 rfl ?_
  refine vw_iconst hX (v := 1) dL_law_2311 (by decide) ?_
  refine vw_iadd hX dL_law_2312 ?_
  obtain ⟨n252, f251, hf251, hif251, h⟩ := h
  refine vw_iald hX hf251 hif251 dL_law_2313 ?_
  obtain ⟨hr253, h⟩ := h
  refine s_L_290 hX hr253 dL_law_2314 (Nat.le_of_ble_eq_true rfl) (ct_X6_casePassenger (d := d + 7) (lst hX) h) (fun r254 w255 z256 h => ?_)
  refine vw_istore hX dL_law_2317 (by decide) rfl ?_
  refine vw_aload_n hX 4 dL_law_2319 rfl ?_
  obtain ⟨hr257, h⟩ := h
  refine s_L_150 hX hr257 dL_law_2320 (Nat.le_of_ble_eq_true rfl) (ct_X6_thrown (d := d + 10) (lst hX) h) (fun r258 w259 z260 h => ?_)
  refine vw_iload hX 1 dL_law_2323 rfl ?_
  refine vw_icmp_eq hX (tgt := 2330) dL_law_2325 (by decide) (fun c261 => ?_) (fun c261 => ?_)
  · have h := h.1 c261
    refine vw_iload hX 1 dL_law_2330 rfl ?_
    refine vw_if_ne hX (tgt := 2347) dL_law_2332 (by decide) (fun c262 => ?_) (fun c262 => ?_)
    · have h := h.1 c262
      exact vw_sub [2, 3, 4, 5, 6] rfl (pB_L_law_2347 hX hE hK23 _ _ _ _ _ _ _ _ h)
    · have h := h.2 c262
      refine vw_aload_n hX 5 dL_law_2335 rfl ?_
      refine vw_iconst hX (v := 0) dL_law_2336 (by decide) ?_
      obtain ⟨n264, f263, hf263, hif263, h⟩ := h
      refine vw_lald hX hf263 hif263 dL_law_2337 ?_
      refine vw_iload hX 0 dL_law_2338 rfl ?_
      refine vw_i2l hX dL_law_2340 ?_
      refine vw_lcmp hX dL_law_2341 ?_
      refine vw_if_eq hX (tgt := 2347) dL_law_2342 (by decide) (fun c265 => ?_) (fun c265 => ?_)
      · have h := h.1 c265
        exact vw_sub [2, 3, 4, 5, 6] rfl (pB_L_law_2347 hX hE hK23 _ _ _ _ _ _ _ _ h)
      · have h := h.2 c265
        refine vw_iconst hX (v := 0) dL_law_2345 (by decide) ?_
        exact vw_lawret hX hE dL_law_2346 h
  · have h := h.2 c261
    refine vw_iconst hX (v := 0) dL_law_2328 (by decide) ?_
    exact vw_lawret hX hE dL_law_2329 h
def B_L_law_2291 (a0 : Nat) (K23 : Nat → Nat → Nat → Int32 → Mm → Nat → Nat → Nat → Prop) (Q : Int32 → Mm → Nat → Prop) (x1 : Nat) (x2 : Nat) (x3 : Nat) (x4 : Int32) (w : Mm) (z : Nat) (mc : Nat) (ms : Nat) : Prop :=
  B_L_law_2935 a0 K23 Q x1 x2 x3 x4 w z mc ms
set_option maxRecDepth 100000 in
set_option maxHeartbeats 4000000 in
theorem pB_L_law_2291 {C : Cx} {d : Nat} {a0 : Nat} {K23 : Nat → Nat → Nat → Int32 → Mm → Nat → Nat → Nat → Prop} (hX : CX C cL_law RL 9 (some .boolean) [] (d + 11)) (hE : EL C) (hK23 : ∀ (x1 : Nat) (x2 : Nat) (x3 : Nat) (x4 : Int32) (w : Mm) (z mc ms : Nat), K23 x1 x2 x3 x4 w z mc ms → VW C 23 [(0, .ref (a0)), (1, .ref (x1)), (2, .ref (x2)), (3, .ref (x3)), (4, .int (x4))] [] w z mc ms) : ∀ (x1 : Nat) (x2 : Nat) (x3 : Nat) (x4 : Int32) (w : Mm) (z mc ms : Nat), B_L_law_2291 a0 K23 lawQ x1 x2 x3 x4 w z mc ms → VW C 2291 [(0, .ref (a0)), (1, .ref (x1)), (2, .ref (x2)), (3, .ref (x3)), (4, .int (x4))] [] w z mc ms := by
  intro x1 x2 x3 x4 w z mc ms h
  unfold B_L_law_2291 at h
  refine vw_goto hX (tgt := 2935) dL_law_2291 (by decide) ?_
  exact pB_L_law_2935 hX hE hK23 _ _ _ _ _ _ _ _ h
def B_L_law_2285 (a0 : Nat) (K23 : Nat → Nat → Nat → Int32 → Mm → Nat → Nat → Nat → Prop) (Q : Int32 → Mm → Nat → Prop) (x1 : Nat) (x2 : Nat) (x3 : Nat) (x4 : Int32) (y0 : Int64) (y1 : Int64) (w : Mm) (z : Nat) (mc : Nat) (ms : Nat) : Prop :=
  (((lg_cmp y1 y0)) = 0 → B_L_law_2291 a0 K23 Q x1 x2 x3 x4 w z mc ms) ∧
  (¬ ((lg_cmp y1 y0)) = 0 → Q 0 w z)
set_option maxRecDepth 100000 in
set_option maxHeartbeats 4000000 in
theorem pB_L_law_2285 {C : Cx} {d : Nat} {a0 : Nat} {K23 : Nat → Nat → Nat → Int32 → Mm → Nat → Nat → Nat → Prop} (hX : CX C cL_law RL 9 (some .boolean) [] (d + 11)) (hE : EL C) (hK23 : ∀ (x1 : Nat) (x2 : Nat) (x3 : Nat) (x4 : Int32) (w : Mm) (z mc ms : Nat), K23 x1 x2 x3 x4 w z mc ms → VW C 23 [(0, .ref (a0)), (1, .ref (x1)), (2, .ref (x2)), (3, .ref (x3)), (4, .int (x4))] [] w z mc ms) : ∀ (x1 : Nat) (x2 : Nat) (x3 : Nat) (x4 : Int32) (y0 : Int64) (y1 : Int64) (w : Mm) (z mc ms : Nat), B_L_law_2285 a0 K23 lawQ x1 x2 x3 x4 y0 y1 w z mc ms → VW C 2285 [(0, .ref (a0)), (1, .ref (x1)), (2, .ref (x2)), (3, .ref (x3)), (4, .int (x4))] [.long (y0), .long (y1)] w z mc ms := by
  intro x1 x2 x3 x4 y0 y1 w z mc ms h
  unfold B_L_law_2285 at h
  refine vw_lcmp hX dL_law_2285 ?_
  refine vw_if_eq hX (tgt := 2291) dL_law_2286 (by decide) (fun c266 => ?_) (fun c266 => ?_)
  · have h := h.1 c266
    exact pB_L_law_2291 hX hE hK23 _ _ _ _ _ _ _ _ h
  · have h := h.2 c266
    refine vw_iconst hX (v := 0) dL_law_2289 (by decide) ?_
    exact vw_lawret hX hE dL_law_2290 h
def B_L_law_2231 (a0 : Nat) (K23 : Nat → Nat → Nat → Int32 → Mm → Nat → Nat → Nat → Prop) (Q : Int32 → Mm → Nat → Prop) (x1 : Nat) (x2 : Nat) (x3 : Nat) (x4 : Int32) (w : Mm) (z : Nat) (mc : Nat) (ms : Nat) : Prop :=
  ∃ n268 f267, arI w a0 0 = some (n268, f267) ∧ vp_in ((x4 + 1)) n268 ∧ ∃ k272 k273, k272 ≤ mc ∧ k273 ≤ ms ∧ F_L_isInTime x1 ((f267 ((x4 + 1) : Int32).toNatClampNeg)) x3 w z k272 k273 (fun r269 w270 z271 => ∃ n275 f274, arI w270 a0 0 = some (n275, f274) ∧ vp_in ((x4 + 1)) n275 ∧ isO w270 x2 10 ∧ F_X6_isInTime x2 ((f274 ((x4 + 1) : Int32).toNatClampNeg)) w270 z271 (fun r277 w278 z279 => isO w278 x2 10 ∧ F_X6_thrown x2 w278 z279 (fun r281 w282 z283 => (r281 = r269 → (¬ r269 = 0 → B_L_law_2291 a0 K23 Q x1 x2 x3 x4 w282 z283 ((mc - k272)) ((ms - k273))) ∧
  (r269 = 0 → ∃ n287 f286, arL w282 x3 = some (n287, f286) ∧ vp_in 0 n287 ∧ (r277 = 0 → B_L_law_2285 a0 K23 Q x1 x2 x3 x4 0 ((f286 (0 : Int32).toNatClampNeg)) w282 z283 ((mc - k272)) ((ms - k273))) ∧
  (¬ r277 = 0 → B_L_law_2285 a0 K23 Q x1 x2 x3 x4 1 ((f286 (0 : Int32).toNatClampNeg)) w282 z283 ((mc - k272)) ((ms - k273))))) ∧
  (¬ r281 = r269 → Q 0 w282 z283))))
set_option maxRecDepth 100000 in
set_option maxHeartbeats 4000000 in
theorem pB_L_law_2231 {C : Cx} {d : Nat} {a0 : Nat} {K23 : Nat → Nat → Nat → Int32 → Mm → Nat → Nat → Nat → Prop} (hX : CX C cL_law RL 9 (some .boolean) [] (d + 11)) (hE : EL C) (hK23 : ∀ (x1 : Nat) (x2 : Nat) (x3 : Nat) (x4 : Int32) (w : Mm) (z mc ms : Nat), K23 x1 x2 x3 x4 w z mc ms → VW C 23 [(0, .ref (a0)), (1, .ref (x1)), (2, .ref (x2)), (3, .ref (x3)), (4, .int (x4))] [] w z mc ms) : ∀ (x1 : Nat) (x2 : Nat) (x3 : Nat) (x4 : Int32) (w : Mm) (z mc ms : Nat), B_L_law_2231 a0 K23 lawQ x1 x2 x3 x4 w z mc ms → VW C 2231 [(0, .ref (a0)), (1, .ref (x1)), (2, .ref (x2)), (3, .ref (x3)), (4, .int (x4))] [] w z mc ms := by
  intro x1 x2 x3 x4 w z mc ms h
  unfold B_L_law_2231 at h
  refine vw_aload_n hX 1 dL_law_2231 rfl ?_
  refine vw_aload_n hX 0 dL_law_2232 rfl ?_
  refine vw_iload hX 4 dL_law_2233 rfl ?_
  refine vw_iconst hX (v := 1) dL_law_2235 (by decide) ?_
  refine vw_iadd hX dL_law_2236 ?_
  obtain ⟨n268, f267, hf267, hif267, h⟩ := h
  refine vw_iald hX hf267 hif267 dL_law_2237 ?_
  refine vw_aload_n hX 3 dL_law_2238 rfl ?_
  obtain ⟨k272, k273, hm1, hm2, h⟩ := h
  refine s_L_285 hX dL_law_2239 (Nat.le_of_ble_eq_true rfl) hm1 hm2 (ct_L_isInTime (d := d + 2) (lst hX) h) (fun r269 w270 z271 h => ?_)
  refine vw_istore hX dL_law_2242 (by decide) rfl ?_
  refine vw_aload_n hX 3 dL_law_2244 rfl ?_
  refine vw_aload_n hX 1 dL_law_2245 rfl ?_
  refine vw_iload hX 5 dL_law_2246 rfl ?_
  refine vw_iconst hX (v := 1) dL_law_2248 (by decide) ?_
  refine vw_iadd hX dL_law_2249 ?_
  obtain ⟨n275, f274, hf274, hif274, h⟩ := h
  refine vw_iald hX hf274 hif274 dL_law_2250 ?_
  obtain ⟨hr276, h⟩ := h
  refine s_L_287 hX hr276 dL_law_2251 (Nat.le_of_ble_eq_true rfl) (ct_X6_isInTime (d := d + 8) (lst hX) h) (fun r277 w278 z279 h => ?_)
  refine vw_istore hX dL_law_2254 (by decide) rfl ?_
  refine vw_aload_n hX 4 dL_law_2256 rfl ?_
  obtain ⟨hr280, h⟩ := h
  refine s_L_150 hX hr280 dL_law_2257 (Nat.le_of_ble_eq_true rfl) (ct_X6_thrown (d := d + 10) (lst hX) h) (fun r281 w282 z283 h => ?_)
  refine vw_iload hX 1 dL_law_2260 rfl ?_
  refine vw_icmp_eq hX (tgt := 2267) dL_law_2262 (by decide) (fun c284 => ?_) (fun c284 => ?_)
  · have h := h.1 c284
    refine vw_iload hX 1 dL_law_2267 rfl ?_
    refine vw_if_ne hX (tgt := 2291) dL_law_2269 (by decide) (fun c285 => ?_) (fun c285 => ?_)
    · have h := h.1 c285
      exact vw_sub [2, 3, 4, 5, 6] rfl (pB_L_law_2291 hX hE hK23 _ _ _ _ _ _ _ _ h)
    · have h := h.2 c285
      refine vw_aload_n hX 5 dL_law_2272 rfl ?_
      refine vw_iconst hX (v := 0) dL_law_2273 (by decide) ?_
      obtain ⟨n287, f286, hf286, hif286, h⟩ := h
      refine vw_lald hX hf286 hif286 dL_law_2274 ?_
      refine vw_iload hX 0 dL_law_2275 rfl ?_
      refine vw_if_eq hX (tgt := 2284) dL_law_2277 (by decide) (fun c288 => ?_) (fun c288 => ?_)
      · have h := h.1 c288
        refine vw_lconst hX (v := 0) dL_law_2284 (by decide) ?_
        exact vw_sub [2, 3, 4, 5, 6] rfl (pB_L_law_2285 hX hE hK23 _ _ _ _ _ _ _ _ _ _ h)
      · have h := h.2 c288
        refine vw_lconst hX (v := 1) dL_law_2280 (by decide) ?_
        refine vw_goto hX (tgt := 2285) dL_law_2281 (by decide) ?_
        exact vw_sub [2, 3, 4, 5, 6] rfl (pB_L_law_2285 hX hE hK23 _ _ _ _ _ _ _ _ _ _ h)
  · have h := h.2 c284
    refine vw_iconst hX (v := 0) dL_law_2265 (by decide) ?_
    exact vw_lawret hX hE dL_law_2266 h
def B_L_law_2228 (a0 : Nat) (K23 : Nat → Nat → Nat → Int32 → Mm → Nat → Nat → Nat → Prop) (Q : Int32 → Mm → Nat → Prop) (x1 : Nat) (x2 : Nat) (x3 : Nat) (x4 : Int32) (w : Mm) (z : Nat) (mc : Nat) (ms : Nat) : Prop :=
  B_L_law_2935 a0 K23 Q x1 x2 x3 x4 w z mc ms
set_option maxRecDepth 100000 in
set_option maxHeartbeats 4000000 in
theorem pB_L_law_2228 {C : Cx} {d : Nat} {a0 : Nat} {K23 : Nat → Nat → Nat → Int32 → Mm → Nat → Nat → Nat → Prop} (hX : CX C cL_law RL 9 (some .boolean) [] (d + 11)) (hE : EL C) (hK23 : ∀ (x1 : Nat) (x2 : Nat) (x3 : Nat) (x4 : Int32) (w : Mm) (z mc ms : Nat), K23 x1 x2 x3 x4 w z mc ms → VW C 23 [(0, .ref (a0)), (1, .ref (x1)), (2, .ref (x2)), (3, .ref (x3)), (4, .int (x4))] [] w z mc ms) : ∀ (x1 : Nat) (x2 : Nat) (x3 : Nat) (x4 : Int32) (w : Mm) (z mc ms : Nat), B_L_law_2228 a0 K23 lawQ x1 x2 x3 x4 w z mc ms → VW C 2228 [(0, .ref (a0)), (1, .ref (x1)), (2, .ref (x2)), (3, .ref (x3)), (4, .int (x4))] [] w z mc ms := by
  intro x1 x2 x3 x4 w z mc ms h
  unfold B_L_law_2228 at h
  refine vw_goto hX (tgt := 2935) dL_law_2228 (by decide) ?_
  exact pB_L_law_2935 hX hE hK23 _ _ _ _ _ _ _ _ h
def B_L_law_2175 (a0 : Nat) (K23 : Nat → Nat → Nat → Int32 → Mm → Nat → Nat → Nat → Prop) (Q : Int32 → Mm → Nat → Prop) (x1 : Nat) (x2 : Nat) (x3 : Nat) (x4 : Int32) (w : Mm) (z : Nat) (mc : Nat) (ms : Nat) : Prop :=
  ∃ n290 f289, arI w a0 0 = some (n290, f289) ∧ vp_in ((x4 + 1)) n290 ∧ ∃ k294 k295, k294 ≤ mc ∧ k295 ≤ ms ∧ F_L_ticketRides x1 ((f289 ((x4 + 1) : Int32).toNatClampNeg)) x3 w z k294 k295 (fun r291 w292 z293 => ∃ n297 f296, arI w292 a0 0 = some (n297, f296) ∧ vp_in ((x4 + 1)) n297 ∧ isO w292 x2 10 ∧ F_X6_ticketRides x2 ((f296 ((x4 + 1) : Int32).toNatClampNeg)) w292 z293 (fun r299 w300 z301 => isO w300 x2 10 ∧ F_X6_thrown x2 w300 z301 (fun r303 w304 z305 => (r303 = r291 → (¬ r291 = 0 → B_L_law_2228 a0 K23 Q x1 x2 x3 x4 w304 z305 ((mc - k294)) ((ms - k295))) ∧
  (r291 = 0 → ∃ n309 f308, arL w304 x3 = some (n309, f308) ∧ vp_in 0 n309 ∧ (((lg_cmp ((f308 (0 : Int32).toNatClampNeg)) ((r299 : Int32).toInt64))) = 0 → B_L_law_2228 a0 K23 Q x1 x2 x3 x4 w304 z305 ((mc - k294)) ((ms - k295))) ∧
  (¬ ((lg_cmp ((f308 (0 : Int32).toNatClampNeg)) ((r299 : Int32).toInt64))) = 0 → Q 0 w304 z305))) ∧
  (¬ r303 = r291 → Q 0 w304 z305))))
set_option maxRecDepth 100000 in
set_option maxHeartbeats 4000000 in
theorem pB_L_law_2175 {C : Cx} {d : Nat} {a0 : Nat} {K23 : Nat → Nat → Nat → Int32 → Mm → Nat → Nat → Nat → Prop} (hX : CX C cL_law RL 9 (some .boolean) [] (d + 11)) (hE : EL C) (hK23 : ∀ (x1 : Nat) (x2 : Nat) (x3 : Nat) (x4 : Int32) (w : Mm) (z mc ms : Nat), K23 x1 x2 x3 x4 w z mc ms → VW C 23 [(0, .ref (a0)), (1, .ref (x1)), (2, .ref (x2)), (3, .ref (x3)), (4, .int (x4))] [] w z mc ms) : ∀ (x1 : Nat) (x2 : Nat) (x3 : Nat) (x4 : Int32) (w : Mm) (z mc ms : Nat), B_L_law_2175 a0 K23 lawQ x1 x2 x3 x4 w z mc ms → VW C 2175 [(0, .ref (a0)), (1, .ref (x1)), (2, .ref (x2)), (3, .ref (x3)), (4, .int (x4))] [] w z mc ms := by
  intro x1 x2 x3 x4 w z mc ms h
  unfold B_L_law_2175 at h
  refine vw_aload_n hX 1 dL_law_2175 rfl ?_
  refine vw_aload_n hX 0 dL_law_2176 rfl ?_
  refine vw_iload hX 4 dL_law_2177 rfl ?_
  refine vw_iconst hX (v := 1) dL_law_2179 (by decide) ?_
  refine vw_iadd hX dL_law_2180 ?_
  obtain ⟨n290, f289, hf289, hif289, h⟩ := h
  refine vw_iald hX hf289 hif289 dL_law_2181 ?_
  refine vw_aload_n hX 3 dL_law_2182 rfl ?_
  obtain ⟨k294, k295, hm1, hm2, h⟩ := h
  refine s_L_282 hX dL_law_2183 (Nat.le_of_ble_eq_true rfl) hm1 hm2 (ct_L_ticketRides (d := d + 2) (lst hX) h) (fun r291 w292 z293 h => ?_)
  refine vw_istore hX dL_law_2186 (by decide) rfl ?_
  refine vw_aload_n hX 3 dL_law_2188 rfl ?_
  refine vw_aload_n hX 1 dL_law_2189 rfl ?_
  refine vw_iload hX 5 dL_law_2190 rfl ?_
  refine vw_iconst hX (v := 1) dL_law_2192 (by decide) ?_
  refine vw_iadd hX dL_law_2193 ?_
  obtain ⟨n297, f296, hf296, hif296, h⟩ := h
  refine vw_iald hX hf296 hif296 dL_law_2194 ?_
  obtain ⟨hr298, h⟩ := h
  refine s_L_284 hX hr298 dL_law_2195 (Nat.le_of_ble_eq_true rfl) (ct_X6_ticketRides (d := d + 7) (lst hX) h) (fun r299 w300 z301 h => ?_)
  refine vw_istore hX dL_law_2198 (by decide) rfl ?_
  refine vw_aload_n hX 4 dL_law_2200 rfl ?_
  obtain ⟨hr302, h⟩ := h
  refine s_L_150 hX hr302 dL_law_2201 (Nat.le_of_ble_eq_true rfl) (ct_X6_thrown (d := d + 10) (lst hX) h) (fun r303 w304 z305 h => ?_)
  refine vw_iload hX 1 dL_law_2204 rfl ?_
  refine vw_icmp_eq hX (tgt := 2211) dL_law_2206 (by decide) (fun c306 => ?_) (fun c306 => ?_)
  · have h := h.1 c306
    refine vw_iload hX 1 dL_law_2211 rfl ?_
    refine vw_if_ne hX (tgt := 2228) dL_law_2213 (by decide) (fun c307 => ?_) (fun c307 => ?_)
    · have h := h.1 c307
      exact vw_sub [2, 3, 4, 5, 6] rfl (pB_L_law_2228 hX hE hK23 _ _ _ _ _ _ _ _ h)
    · have h := h.2 c307
      refine vw_aload_n hX 5 dL_law_2216 rfl ?_
      refine vw_iconst hX (v := 0) dL_law_2217 (by decide) ?_
      obtain ⟨n309, f308, hf308, hif308, h⟩ := h
      refine vw_lald hX hf308 hif308 dL_law_2218 ?_
      refine vw_iload hX 0 dL_law_2219 rfl ?_
      refine vw_i2l hX dL_law_2221 ?_
      refine vw_lcmp hX dL_law_2222 ?_
      refine vw_if_eq hX (tgt := 2228) dL_law_2223 (by decide) (fun c310 => ?_) (fun c310 => ?_)
      · have h := h.1 c310
        exact vw_sub [2, 3, 4, 5, 6] rfl (pB_L_law_2228 hX hE hK23 _ _ _ _ _ _ _ _ h)
      · have h := h.2 c310
        refine vw_iconst hX (v := 0) dL_law_2226 (by decide) ?_
        exact vw_lawret hX hE dL_law_2227 h
  · have h := h.2 c306
    refine vw_iconst hX (v := 0) dL_law_2209 (by decide) ?_
    exact vw_lawret hX hE dL_law_2210 h
def B_L_law_2172 (a0 : Nat) (K23 : Nat → Nat → Nat → Int32 → Mm → Nat → Nat → Nat → Prop) (Q : Int32 → Mm → Nat → Prop) (x1 : Nat) (x2 : Nat) (x3 : Nat) (x4 : Int32) (w : Mm) (z : Nat) (mc : Nat) (ms : Nat) : Prop :=
  B_L_law_2935 a0 K23 Q x1 x2 x3 x4 w z mc ms
set_option maxRecDepth 100000 in
set_option maxHeartbeats 4000000 in
theorem pB_L_law_2172 {C : Cx} {d : Nat} {a0 : Nat} {K23 : Nat → Nat → Nat → Int32 → Mm → Nat → Nat → Nat → Prop} (hX : CX C cL_law RL 9 (some .boolean) [] (d + 11)) (hE : EL C) (hK23 : ∀ (x1 : Nat) (x2 : Nat) (x3 : Nat) (x4 : Int32) (w : Mm) (z mc ms : Nat), K23 x1 x2 x3 x4 w z mc ms → VW C 23 [(0, .ref (a0)), (1, .ref (x1)), (2, .ref (x2)), (3, .ref (x3)), (4, .int (x4))] [] w z mc ms) : ∀ (x1 : Nat) (x2 : Nat) (x3 : Nat) (x4 : Int32) (w : Mm) (z mc ms : Nat), B_L_law_2172 a0 K23 lawQ x1 x2 x3 x4 w z mc ms → VW C 2172 [(0, .ref (a0)), (1, .ref (x1)), (2, .ref (x2)), (3, .ref (x3)), (4, .int (x4))] [] w z mc ms := by
  intro x1 x2 x3 x4 w z mc ms h
  unfold B_L_law_2172 at h
  refine vw_goto hX (tgt := 2935) dL_law_2172 (by decide) ?_
  exact pB_L_law_2935 hX hE hK23 _ _ _ _ _ _ _ _ h
def B_L_law_2119 (a0 : Nat) (K23 : Nat → Nat → Nat → Int32 → Mm → Nat → Nat → Nat → Prop) (Q : Int32 → Mm → Nat → Prop) (x1 : Nat) (x2 : Nat) (x3 : Nat) (x4 : Int32) (w : Mm) (z : Nat) (mc : Nat) (ms : Nat) : Prop :=
  ∃ n312 f311, arI w a0 0 = some (n312, f311) ∧ vp_in ((x4 + 1)) n312 ∧ ∃ k316 k317, k316 ≤ mc ∧ k317 ≤ ms ∧ F_L_stampStop x1 ((f311 ((x4 + 1) : Int32).toNatClampNeg)) x3 w z k316 k317 (fun r313 w314 z315 => ∃ n319 f318, arI w314 a0 0 = some (n319, f318) ∧ vp_in ((x4 + 1)) n319 ∧ isO w314 x2 10 ∧ F_X6_stampStop x2 ((f318 ((x4 + 1) : Int32).toNatClampNeg)) w314 z315 (fun r321 w322 z323 => isO w322 x2 10 ∧ F_X6_thrown x2 w322 z323 (fun r325 w326 z327 => (r325 = r313 → (¬ r313 = 0 → B_L_law_2172 a0 K23 Q x1 x2 x3 x4 w326 z327 ((mc - k316)) ((ms - k317))) ∧
  (r313 = 0 → ∃ n331 f330, arL w326 x3 = some (n331, f330) ∧ vp_in 0 n331 ∧ (((lg_cmp ((f330 (0 : Int32).toNatClampNeg)) ((r321 : Int32).toInt64))) = 0 → B_L_law_2172 a0 K23 Q x1 x2 x3 x4 w326 z327 ((mc - k316)) ((ms - k317))) ∧
  (¬ ((lg_cmp ((f330 (0 : Int32).toNatClampNeg)) ((r321 : Int32).toInt64))) = 0 → Q 0 w326 z327))) ∧
  (¬ r325 = r313 → Q 0 w326 z327))))
set_option maxRecDepth 100000 in
set_option maxHeartbeats 4000000 in
theorem pB_L_law_2119 {C : Cx} {d : Nat} {a0 : Nat} {K23 : Nat → Nat → Nat → Int32 → Mm → Nat → Nat → Nat → Prop} (hX : CX C cL_law RL 9 (some .boolean) [] (d + 11)) (hE : EL C) (hK23 : ∀ (x1 : Nat) (x2 : Nat) (x3 : Nat) (x4 : Int32) (w : Mm) (z mc ms : Nat), K23 x1 x2 x3 x4 w z mc ms → VW C 23 [(0, .ref (a0)), (1, .ref (x1)), (2, .ref (x2)), (3, .ref (x3)), (4, .int (x4))] [] w z mc ms) : ∀ (x1 : Nat) (x2 : Nat) (x3 : Nat) (x4 : Int32) (w : Mm) (z mc ms : Nat), B_L_law_2119 a0 K23 lawQ x1 x2 x3 x4 w z mc ms → VW C 2119 [(0, .ref (a0)), (1, .ref (x1)), (2, .ref (x2)), (3, .ref (x3)), (4, .int (x4))] [] w z mc ms := by
  intro x1 x2 x3 x4 w z mc ms h
  unfold B_L_law_2119 at h
  refine vw_aload_n hX 1 dL_law_2119 rfl ?_
  refine vw_aload_n hX 0 dL_law_2120 rfl ?_
  refine vw_iload hX 4 dL_law_2121 rfl ?_
  refine vw_iconst hX (v := 1) dL_law_2123 (by decide) ?_
  refine vw_iadd hX dL_law_2124 ?_
  obtain ⟨n312, f311, hf311, hif311, h⟩ := h
  refine vw_iald hX hf311 hif311 dL_law_2125 ?_
  refine vw_aload_n hX 3 dL_law_2126 rfl ?_
  obtain ⟨k316, k317, hm1, hm2, h⟩ := h
  refine s_L_279 hX dL_law_2127 (Nat.le_of_ble_eq_true rfl) hm1 hm2 (ct_L_stampStop (d := d + 2) (lst hX) h) (fun r313 w314 z315 h => ?_)
  refine vw_istore hX dL_law_2130 (by decide) rfl ?_
  refine vw_aload_n hX 3 dL_law_2132 rfl ?_
  refine vw_aload_n hX 1 dL_law_2133 rfl ?_
  refine vw_iload hX 5 dL_law_2134 rfl ?_
  refine vw_iconst hX (v := 1) dL_law_2136 (by decide) ?_
  refine vw_iadd hX dL_law_2137 ?_
  obtain ⟨n319, f318, hf318, hif318, h⟩ := h
  refine vw_iald hX hf318 hif318 dL_law_2138 ?_
  obtain ⟨hr320, h⟩ := h
  refine s_L_281 hX hr320 dL_law_2139 (Nat.le_of_ble_eq_true rfl) (ct_X6_stampStop (d := d + 7) (lst hX) h) (fun r321 w322 z323 h => ?_)
  refine vw_istore hX dL_law_2142 (by decide) rfl ?_
  refine vw_aload_n hX 4 dL_law_2144 rfl ?_
  obtain ⟨hr324, h⟩ := h
  refine s_L_150 hX hr324 dL_law_2145 (Nat.le_of_ble_eq_true rfl) (ct_X6_thrown (d := d + 10) (lst hX) h) (fun r325 w326 z327 h => ?_)
  refine vw_iload hX 1 dL_law_2148 rfl ?_
  refine vw_icmp_eq hX (tgt := 2155) dL_law_2150 (by decide) (fun c328 => ?_) (fun c328 => ?_)
  · have h := h.1 c328
    refine vw_iload hX 1 dL_law_2155 rfl ?_
    refine vw_if_ne hX (tgt := 2172) dL_law_2157 (by decide) (fun c329 => ?_) (fun c329 => ?_)
    · have h := h.1 c329
      exact vw_sub [2, 3, 4, 5, 6] rfl (pB_L_law_2172 hX hE hK23 _ _ _ _ _ _ _ _ h)
    · have h := h.2 c329
      refine vw_aload_n hX 5 dL_law_2160 rfl ?_
      refine vw_iconst hX (v := 0) dL_law_2161 (by decide) ?_
      obtain ⟨n331, f330, hf330, hif330, h⟩ := h
      refine vw_lald hX hf330 hif330 dL_law_2162 ?_
      refine vw_iload hX 0 dL_law_2163 rfl ?_
      refine vw_i2l hX dL_law_2165 ?_
      refine vw_lcmp hX dL_law_2166 ?_
      refine vw_if_eq hX (tgt := 2172) dL_law_2167 (by decide) (fun c332 => ?_) (fun c332 => ?_)
      · have h := h.1 c332
        exact vw_sub [2, 3, 4, 5, 6] rfl (pB_L_law_2172 hX hE hK23 _ _ _ _ _ _ _ _ h)
      · have h := h.2 c332
        refine vw_iconst hX (v := 0) dL_law_2170 (by decide) ?_
        exact vw_lawret hX hE dL_law_2171 h
  · have h := h.2 c328
    refine vw_iconst hX (v := 0) dL_law_2153 (by decide) ?_
    exact vw_lawret hX hE dL_law_2154 h
def B_L_law_2116 (a0 : Nat) (K23 : Nat → Nat → Nat → Int32 → Mm → Nat → Nat → Nat → Prop) (Q : Int32 → Mm → Nat → Prop) (x1 : Nat) (x2 : Nat) (x3 : Nat) (x4 : Int32) (w : Mm) (z : Nat) (mc : Nat) (ms : Nat) : Prop :=
  B_L_law_2935 a0 K23 Q x1 x2 x3 x4 w z mc ms
set_option maxRecDepth 100000 in
set_option maxHeartbeats 4000000 in
theorem pB_L_law_2116 {C : Cx} {d : Nat} {a0 : Nat} {K23 : Nat → Nat → Nat → Int32 → Mm → Nat → Nat → Nat → Prop} (hX : CX C cL_law RL 9 (some .boolean) [] (d + 11)) (hE : EL C) (hK23 : ∀ (x1 : Nat) (x2 : Nat) (x3 : Nat) (x4 : Int32) (w : Mm) (z mc ms : Nat), K23 x1 x2 x3 x4 w z mc ms → VW C 23 [(0, .ref (a0)), (1, .ref (x1)), (2, .ref (x2)), (3, .ref (x3)), (4, .int (x4))] [] w z mc ms) : ∀ (x1 : Nat) (x2 : Nat) (x3 : Nat) (x4 : Int32) (w : Mm) (z mc ms : Nat), B_L_law_2116 a0 K23 lawQ x1 x2 x3 x4 w z mc ms → VW C 2116 [(0, .ref (a0)), (1, .ref (x1)), (2, .ref (x2)), (3, .ref (x3)), (4, .int (x4))] [] w z mc ms := by
  intro x1 x2 x3 x4 w z mc ms h
  unfold B_L_law_2116 at h
  refine vw_goto hX (tgt := 2935) dL_law_2116 (by decide) ?_
  exact pB_L_law_2935 hX hE hK23 _ _ _ _ _ _ _ _ h
def B_L_law_2063 (a0 : Nat) (K23 : Nat → Nat → Nat → Int32 → Mm → Nat → Nat → Nat → Prop) (Q : Int32 → Mm → Nat → Prop) (x1 : Nat) (x2 : Nat) (x3 : Nat) (x4 : Int32) (w : Mm) (z : Nat) (mc : Nat) (ms : Nat) : Prop :=
  ∃ n334 f333, arI w a0 0 = some (n334, f333) ∧ vp_in ((x4 + 1)) n334 ∧ ∃ k338 k339, k338 ≤ mc ∧ k339 ≤ ms ∧ F_L_stampTime x1 ((f333 ((x4 + 1) : Int32).toNatClampNeg)) x3 w z k338 k339 (fun r335 w336 z337 => ∃ n341 f340, arI w336 a0 0 = some (n341, f340) ∧ vp_in ((x4 + 1)) n341 ∧ isO w336 x2 10 ∧ F_X6_stampTime x2 ((f340 ((x4 + 1) : Int32).toNatClampNeg)) w336 z337 (fun r343 w344 z345 => isO w344 x2 10 ∧ F_X6_thrown x2 w344 z345 (fun r347 w348 z349 => (r347 = r335 → (¬ r335 = 0 → B_L_law_2116 a0 K23 Q x1 x2 x3 x4 w348 z349 ((mc - k338)) ((ms - k339))) ∧
  (r335 = 0 → ∃ n353 f352, arL w348 x3 = some (n353, f352) ∧ vp_in 0 n353 ∧ (((lg_cmp ((f352 (0 : Int32).toNatClampNeg)) ((r343 : Int32).toInt64))) = 0 → B_L_law_2116 a0 K23 Q x1 x2 x3 x4 w348 z349 ((mc - k338)) ((ms - k339))) ∧
  (¬ ((lg_cmp ((f352 (0 : Int32).toNatClampNeg)) ((r343 : Int32).toInt64))) = 0 → Q 0 w348 z349))) ∧
  (¬ r347 = r335 → Q 0 w348 z349))))
set_option maxRecDepth 100000 in
set_option maxHeartbeats 4000000 in
theorem pB_L_law_2063 {C : Cx} {d : Nat} {a0 : Nat} {K23 : Nat → Nat → Nat → Int32 → Mm → Nat → Nat → Nat → Prop} (hX : CX C cL_law RL 9 (some .boolean) [] (d + 11)) (hE : EL C) (hK23 : ∀ (x1 : Nat) (x2 : Nat) (x3 : Nat) (x4 : Int32) (w : Mm) (z mc ms : Nat), K23 x1 x2 x3 x4 w z mc ms → VW C 23 [(0, .ref (a0)), (1, .ref (x1)), (2, .ref (x2)), (3, .ref (x3)), (4, .int (x4))] [] w z mc ms) : ∀ (x1 : Nat) (x2 : Nat) (x3 : Nat) (x4 : Int32) (w : Mm) (z mc ms : Nat), B_L_law_2063 a0 K23 lawQ x1 x2 x3 x4 w z mc ms → VW C 2063 [(0, .ref (a0)), (1, .ref (x1)), (2, .ref (x2)), (3, .ref (x3)), (4, .int (x4))] [] w z mc ms := by
  intro x1 x2 x3 x4 w z mc ms h
  unfold B_L_law_2063 at h
  refine vw_aload_n hX 1 dL_law_2063 rfl ?_
  refine vw_aload_n hX 0 dL_law_2064 rfl ?_
  refine vw_iload hX 4 dL_law_2065 rfl ?_
  refine vw_iconst hX (v := 1) dL_law_2067 (by decide) ?_
  refine vw_iadd hX dL_law_2068 ?_
  obtain ⟨n334, f333, hf333, hif333, h⟩ := h
  refine vw_iald hX hf333 hif333 dL_law_2069 ?_
  refine vw_aload_n hX 3 dL_law_2070 rfl ?_
  obtain ⟨k338, k339, hm1, hm2, h⟩ := h
  refine s_L_276 hX dL_law_2071 (Nat.le_of_ble_eq_true rfl) hm1 hm2 (ct_L_stampTime (d := d + 2) (lst hX) h) (fun r335 w336 z337 h => ?_)
  refine vw_istore hX dL_law_2074 (by decide) rfl ?_
  refine vw_aload_n hX 3 dL_law_2076 rfl ?_
  refine vw_aload_n hX 1 dL_law_2077 rfl ?_
  refine vw_iload hX 5 dL_law_2078 rfl ?_
  refine vw_iconst hX (v := 1) dL_law_2080 (by decide) ?_
  refine vw_iadd hX dL_law_2081 ?_
  obtain ⟨n341, f340, hf340, hif340, h⟩ := h
  refine vw_iald hX hf340 hif340 dL_law_2082 ?_
  obtain ⟨hr342, h⟩ := h
  refine s_L_278 hX hr342 dL_law_2083 (Nat.le_of_ble_eq_true rfl) (ct_X6_stampTime (d := d + 7) (lst hX) h) (fun r343 w344 z345 h => ?_)
  refine vw_istore hX dL_law_2086 (by decide) rfl ?_
  refine vw_aload_n hX 4 dL_law_2088 rfl ?_
  obtain ⟨hr346, h⟩ := h
  refine s_L_150 hX hr346 dL_law_2089 (Nat.le_of_ble_eq_true rfl) (ct_X6_thrown (d := d + 10) (lst hX) h) (fun r347 w348 z349 h => ?_)
  refine vw_iload hX 1 dL_law_2092 rfl ?_
  refine vw_icmp_eq hX (tgt := 2099) dL_law_2094 (by decide) (fun c350 => ?_) (fun c350 => ?_)
  · have h := h.1 c350
    refine vw_iload hX 1 dL_law_2099 rfl ?_
    refine vw_if_ne hX (tgt := 2116) dL_law_2101 (by decide) (fun c351 => ?_) (fun c351 => ?_)
    · have h := h.1 c351
      exact vw_sub [2, 3, 4, 5, 6] rfl (pB_L_law_2116 hX hE hK23 _ _ _ _ _ _ _ _ h)
    · have h := h.2 c351
      refine vw_aload_n hX 5 dL_law_2104 rfl ?_
      refine vw_iconst hX (v := 0) dL_law_2105 (by decide) ?_
      obtain ⟨n353, f352, hf352, hif352, h⟩ := h
      refine vw_lald hX hf352 hif352 dL_law_2106 ?_
      refine vw_iload hX 0 dL_law_2107 rfl ?_
      refine vw_i2l hX dL_law_2109 ?_
      refine vw_lcmp hX dL_law_2110 ?_
      refine vw_if_eq hX (tgt := 2116) dL_law_2111 (by decide) (fun c354 => ?_) (fun c354 => ?_)
      · have h := h.1 c354
        exact vw_sub [2, 3, 4, 5, 6] rfl (pB_L_law_2116 hX hE hK23 _ _ _ _ _ _ _ _ h)
      · have h := h.2 c354
        refine vw_iconst hX (v := 0) dL_law_2114 (by decide) ?_
        exact vw_lawret hX hE dL_law_2115 h
  · have h := h.2 c350
    refine vw_iconst hX (v := 0) dL_law_2097 (by decide) ?_
    exact vw_lawret hX hE dL_law_2098 h
def B_L_law_2060 (a0 : Nat) (K23 : Nat → Nat → Nat → Int32 → Mm → Nat → Nat → Nat → Prop) (Q : Int32 → Mm → Nat → Prop) (x1 : Nat) (x2 : Nat) (x3 : Nat) (x4 : Int32) (w : Mm) (z : Nat) (mc : Nat) (ms : Nat) : Prop :=
  B_L_law_2935 a0 K23 Q x1 x2 x3 x4 w z mc ms
set_option maxRecDepth 100000 in
set_option maxHeartbeats 4000000 in
theorem pB_L_law_2060 {C : Cx} {d : Nat} {a0 : Nat} {K23 : Nat → Nat → Nat → Int32 → Mm → Nat → Nat → Nat → Prop} (hX : CX C cL_law RL 9 (some .boolean) [] (d + 11)) (hE : EL C) (hK23 : ∀ (x1 : Nat) (x2 : Nat) (x3 : Nat) (x4 : Int32) (w : Mm) (z mc ms : Nat), K23 x1 x2 x3 x4 w z mc ms → VW C 23 [(0, .ref (a0)), (1, .ref (x1)), (2, .ref (x2)), (3, .ref (x3)), (4, .int (x4))] [] w z mc ms) : ∀ (x1 : Nat) (x2 : Nat) (x3 : Nat) (x4 : Int32) (w : Mm) (z mc ms : Nat), B_L_law_2060 a0 K23 lawQ x1 x2 x3 x4 w z mc ms → VW C 2060 [(0, .ref (a0)), (1, .ref (x1)), (2, .ref (x2)), (3, .ref (x3)), (4, .int (x4))] [] w z mc ms := by
  intro x1 x2 x3 x4 w z mc ms h
  unfold B_L_law_2060 at h
  refine vw_goto hX (tgt := 2935) dL_law_2060 (by decide) ?_
  exact pB_L_law_2935 hX hE hK23 _ _ _ _ _ _ _ _ h
def B_L_law_2007 (a0 : Nat) (K23 : Nat → Nat → Nat → Int32 → Mm → Nat → Nat → Nat → Prop) (Q : Int32 → Mm → Nat → Prop) (x1 : Nat) (x2 : Nat) (x3 : Nat) (x4 : Int32) (w : Mm) (z : Nat) (mc : Nat) (ms : Nat) : Prop :=
  ∃ n356 f355, arI w a0 0 = some (n356, f355) ∧ vp_in ((x4 + 1)) n356 ∧ ∃ k360 k361, k360 ≤ mc ∧ k361 ≤ ms ∧ F_L_ticketPrice x1 ((f355 ((x4 + 1) : Int32).toNatClampNeg)) x3 w z k360 k361 (fun r357 w358 z359 => ∃ n363 f362, arI w358 a0 0 = some (n363, f362) ∧ vp_in ((x4 + 1)) n363 ∧ isO w358 x2 10 ∧ F_X6_ticketPrice x2 ((f362 ((x4 + 1) : Int32).toNatClampNeg)) w358 z359 (fun r365 w366 z367 => isO w366 x2 10 ∧ F_X6_thrown x2 w366 z367 (fun r369 w370 z371 => (r369 = r357 → (¬ r357 = 0 → B_L_law_2060 a0 K23 Q x1 x2 x3 x4 w370 z371 ((mc - k360)) ((ms - k361))) ∧
  (r357 = 0 → ∃ n375 f374, arL w370 x3 = some (n375, f374) ∧ vp_in 0 n375 ∧ (((lg_cmp ((f374 (0 : Int32).toNatClampNeg)) ((r365 : Int32).toInt64))) = 0 → B_L_law_2060 a0 K23 Q x1 x2 x3 x4 w370 z371 ((mc - k360)) ((ms - k361))) ∧
  (¬ ((lg_cmp ((f374 (0 : Int32).toNatClampNeg)) ((r365 : Int32).toInt64))) = 0 → Q 0 w370 z371))) ∧
  (¬ r369 = r357 → Q 0 w370 z371))))
set_option maxRecDepth 100000 in
set_option maxHeartbeats 4000000 in
theorem pB_L_law_2007 {C : Cx} {d : Nat} {a0 : Nat} {K23 : Nat → Nat → Nat → Int32 → Mm → Nat → Nat → Nat → Prop} (hX : CX C cL_law RL 9 (some .boolean) [] (d + 11)) (hE : EL C) (hK23 : ∀ (x1 : Nat) (x2 : Nat) (x3 : Nat) (x4 : Int32) (w : Mm) (z mc ms : Nat), K23 x1 x2 x3 x4 w z mc ms → VW C 23 [(0, .ref (a0)), (1, .ref (x1)), (2, .ref (x2)), (3, .ref (x3)), (4, .int (x4))] [] w z mc ms) : ∀ (x1 : Nat) (x2 : Nat) (x3 : Nat) (x4 : Int32) (w : Mm) (z mc ms : Nat), B_L_law_2007 a0 K23 lawQ x1 x2 x3 x4 w z mc ms → VW C 2007 [(0, .ref (a0)), (1, .ref (x1)), (2, .ref (x2)), (3, .ref (x3)), (4, .int (x4))] [] w z mc ms := by
  intro x1 x2 x3 x4 w z mc ms h
  unfold B_L_law_2007 at h
  refine vw_aload_n hX 1 dL_law_2007 rfl ?_
  refine vw_aload_n hX 0 dL_law_2008 rfl ?_
  refine vw_iload hX 4 dL_law_2009 rfl ?_
  refine vw_iconst hX (v := 1) dL_law_2011 (by decide) ?_
  refine vw_iadd hX dL_law_2012 ?_
  obtain ⟨n356, f355, hf355, hif355, h⟩ := h
  refine vw_iald hX hf355 hif355 dL_law_2013 ?_
  refine vw_aload_n hX 3 dL_law_2014 rfl ?_
  obtain ⟨k360, k361, hm1, hm2, h⟩ := h
  refine s_L_273 hX dL_law_2015 (Nat.le_of_ble_eq_true rfl) hm1 hm2 (ct_L_ticketPrice (d := d + 2) (lst hX) h) (fun r357 w358 z359 h => ?_)
  refine vw_istore hX dL_law_2018 (by decide) rfl ?_
  refine vw_aload_n hX 3 dL_law_2020 rfl ?_
  refine vw_aload_n hX 1 dL_law_2021 rfl ?_
  refine vw_iload hX 5 dL_law_2022 rfl ?_
  refine vw_iconst hX (v := 1) dL_law_2024 (by decide) ?_
  refine vw_iadd hX dL_law_2025 ?_
  obtain ⟨n363, f362, hf362, hif362, h⟩ := h
  refine vw_iald hX hf362 hif362 dL_law_2026 ?_
  obtain ⟨hr364, h⟩ := h
  refine s_L_275 hX hr364 dL_law_2027 (Nat.le_of_ble_eq_true rfl) (ct_X6_ticketPrice (d := d + 8) (lst hX) h) (fun r365 w366 z367 h => ?_)
  refine vw_istore hX dL_law_2030 (by decide) rfl ?_
  refine vw_aload_n hX 4 dL_law_2032 rfl ?_
  obtain ⟨hr368, h⟩ := h
  refine s_L_150 hX hr368 dL_law_2033 (Nat.le_of_ble_eq_true rfl) (ct_X6_thrown (d := d + 10) (lst hX) h) (fun r369 w370 z371 h => ?_)
  refine vw_iload hX 1 dL_law_2036 rfl ?_
  refine vw_icmp_eq hX (tgt := 2043) dL_law_2038 (by decide) (fun c372 => ?_) (fun c372 => ?_)
  · have h := h.1 c372
    refine vw_iload hX 1 dL_law_2043 rfl ?_
    refine vw_if_ne hX (tgt := 2060) dL_law_2045 (by decide) (fun c373 => ?_) (fun c373 => ?_)
    · have h := h.1 c373
      exact vw_sub [2, 3, 4, 5, 6] rfl (pB_L_law_2060 hX hE hK23 _ _ _ _ _ _ _ _ h)
    · have h := h.2 c373
      refine vw_aload_n hX 5 dL_law_2048 rfl ?_
      refine vw_iconst hX (v := 0) dL_law_2049 (by decide) ?_
      obtain ⟨n375, f374, hf374, hif374, h⟩ := h
      refine vw_lald hX hf374 hif374 dL_law_2050 ?_
      refine vw_iload hX 0 dL_law_2051 rfl ?_
      refine vw_i2l hX dL_law_2053 ?_
      refine vw_lcmp hX dL_law_2054 ?_
      refine vw_if_eq hX (tgt := 2060) dL_law_2055 (by decide) (fun c376 => ?_) (fun c376 => ?_)
      · have h := h.1 c376
        exact vw_sub [2, 3, 4, 5, 6] rfl (pB_L_law_2060 hX hE hK23 _ _ _ _ _ _ _ _ h)
      · have h := h.2 c376
        refine vw_iconst hX (v := 0) dL_law_2058 (by decide) ?_
        exact vw_lawret hX hE dL_law_2059 h
  · have h := h.2 c372
    refine vw_iconst hX (v := 0) dL_law_2041 (by decide) ?_
    exact vw_lawret hX hE dL_law_2042 h
def B_L_law_2004 (a0 : Nat) (K23 : Nat → Nat → Nat → Int32 → Mm → Nat → Nat → Nat → Prop) (Q : Int32 → Mm → Nat → Prop) (x1 : Nat) (x2 : Nat) (x3 : Nat) (x4 : Int32) (w : Mm) (z : Nat) (mc : Nat) (ms : Nat) : Prop :=
  B_L_law_2935 a0 K23 Q x1 x2 x3 x4 w z mc ms
set_option maxRecDepth 100000 in
set_option maxHeartbeats 4000000 in
theorem pB_L_law_2004 {C : Cx} {d : Nat} {a0 : Nat} {K23 : Nat → Nat → Nat → Int32 → Mm → Nat → Nat → Nat → Prop} (hX : CX C cL_law RL 9 (some .boolean) [] (d + 11)) (hE : EL C) (hK23 : ∀ (x1 : Nat) (x2 : Nat) (x3 : Nat) (x4 : Int32) (w : Mm) (z mc ms : Nat), K23 x1 x2 x3 x4 w z mc ms → VW C 23 [(0, .ref (a0)), (1, .ref (x1)), (2, .ref (x2)), (3, .ref (x3)), (4, .int (x4))] [] w z mc ms) : ∀ (x1 : Nat) (x2 : Nat) (x3 : Nat) (x4 : Int32) (w : Mm) (z mc ms : Nat), B_L_law_2004 a0 K23 lawQ x1 x2 x3 x4 w z mc ms → VW C 2004 [(0, .ref (a0)), (1, .ref (x1)), (2, .ref (x2)), (3, .ref (x3)), (4, .int (x4))] [] w z mc ms := by
  intro x1 x2 x3 x4 w z mc ms h
  unfold B_L_law_2004 at h
  refine vw_goto hX (tgt := 2935) dL_law_2004 (by decide) ?_
  exact pB_L_law_2935 hX hE hK23 _ _ _ _ _ _ _ _ h
def B_L_law_1951 (a0 : Nat) (K23 : Nat → Nat → Nat → Int32 → Mm → Nat → Nat → Nat → Prop) (Q : Int32 → Mm → Nat → Prop) (x1 : Nat) (x2 : Nat) (x3 : Nat) (x4 : Int32) (w : Mm) (z : Nat) (mc : Nat) (ms : Nat) : Prop :=
  ∃ n378 f377, arI w a0 0 = some (n378, f377) ∧ vp_in ((x4 + 1)) n378 ∧ ∃ k382 k383, k382 ≤ mc ∧ k383 ≤ ms ∧ F_L_ticketZones x1 ((f377 ((x4 + 1) : Int32).toNatClampNeg)) x3 w z k382 k383 (fun r379 w380 z381 => ∃ n385 f384, arI w380 a0 0 = some (n385, f384) ∧ vp_in ((x4 + 1)) n385 ∧ isO w380 x2 10 ∧ F_X6_ticketZones x2 ((f384 ((x4 + 1) : Int32).toNatClampNeg)) w380 z381 (fun r387 w388 z389 => isO w388 x2 10 ∧ F_X6_thrown x2 w388 z389 (fun r391 w392 z393 => (r391 = r379 → (¬ r379 = 0 → B_L_law_2004 a0 K23 Q x1 x2 x3 x4 w392 z393 ((mc - k382)) ((ms - k383))) ∧
  (r379 = 0 → ∃ n397 f396, arL w392 x3 = some (n397, f396) ∧ vp_in 0 n397 ∧ (((lg_cmp ((f396 (0 : Int32).toNatClampNeg)) ((r387 : Int32).toInt64))) = 0 → B_L_law_2004 a0 K23 Q x1 x2 x3 x4 w392 z393 ((mc - k382)) ((ms - k383))) ∧
  (¬ ((lg_cmp ((f396 (0 : Int32).toNatClampNeg)) ((r387 : Int32).toInt64))) = 0 → Q 0 w392 z393))) ∧
  (¬ r391 = r379 → Q 0 w392 z393))))
set_option maxRecDepth 100000 in
set_option maxHeartbeats 4000000 in
theorem pB_L_law_1951 {C : Cx} {d : Nat} {a0 : Nat} {K23 : Nat → Nat → Nat → Int32 → Mm → Nat → Nat → Nat → Prop} (hX : CX C cL_law RL 9 (some .boolean) [] (d + 11)) (hE : EL C) (hK23 : ∀ (x1 : Nat) (x2 : Nat) (x3 : Nat) (x4 : Int32) (w : Mm) (z mc ms : Nat), K23 x1 x2 x3 x4 w z mc ms → VW C 23 [(0, .ref (a0)), (1, .ref (x1)), (2, .ref (x2)), (3, .ref (x3)), (4, .int (x4))] [] w z mc ms) : ∀ (x1 : Nat) (x2 : Nat) (x3 : Nat) (x4 : Int32) (w : Mm) (z mc ms : Nat), B_L_law_1951 a0 K23 lawQ x1 x2 x3 x4 w z mc ms → VW C 1951 [(0, .ref (a0)), (1, .ref (x1)), (2, .ref (x2)), (3, .ref (x3)), (4, .int (x4))] [] w z mc ms := by
  intro x1 x2 x3 x4 w z mc ms h
  unfold B_L_law_1951 at h
  refine vw_aload_n hX 1 dL_law_1951 rfl ?_
  refine vw_aload_n hX 0 dL_law_1952 rfl ?_
  refine vw_iload hX 4 dL_law_1953 rfl ?_
  refine vw_iconst hX (v := 1) dL_law_1955 (by decide) ?_
  refine vw_iadd hX dL_law_1956 ?_
  obtain ⟨n378, f377, hf377, hif377, h⟩ := h
  refine vw_iald hX hf377 hif377 dL_law_1957 ?_
  refine vw_aload_n hX 3 dL_law_1958 rfl ?_
  obtain ⟨k382, k383, hm1, hm2, h⟩ := h
  refine s_L_270 hX dL_law_1959 (Nat.le_of_ble_eq_true rfl) hm1 hm2 (ct_L_ticketZones (d := d + 2) (lst hX) h) (fun r379 w380 z381 h => ?_)
  refine vw_istore hX dL_law_1962 (by decide) rfl ?_
  refine vw_aload_n hX 3 dL_law_1964 rfl ?_
  refine vw_aload_n hX 1 dL_law_1965 rfl ?_
  refine vw_iload hX 5 dL_law_1966 rfl ?_
  refine vw_iconst hX (v := 1) dL_law_1968 (by decide) ?_
  refine vw_iadd hX dL_law_1969 ?_
  obtain ⟨n385, f384, hf384, hif384, h⟩ := h
  refine vw_iald hX hf384 hif384 dL_law_1970 ?_
  obtain ⟨hr386, h⟩ := h
  refine s_L_272 hX hr386 dL_law_1971 (Nat.le_of_ble_eq_true rfl) (ct_X6_ticketZones (d := d + 7) (lst hX) h) (fun r387 w388 z389 h => ?_)
  refine vw_istore hX dL_law_1974 (by decide) rfl ?_
  refine vw_aload_n hX 4 dL_law_1976 rfl ?_
  obtain ⟨hr390, h⟩ := h
  refine s_L_150 hX hr390 dL_law_1977 (Nat.le_of_ble_eq_true rfl) (ct_X6_thrown (d := d + 10) (lst hX) h) (fun r391 w392 z393 h => ?_)
  refine vw_iload hX 1 dL_law_1980 rfl ?_
  refine vw_icmp_eq hX (tgt := 1987) dL_law_1982 (by decide) (fun c394 => ?_) (fun c394 => ?_)
  · have h := h.1 c394
    refine vw_iload hX 1 dL_law_1987 rfl ?_
    refine vw_if_ne hX (tgt := 2004) dL_law_1989 (by decide) (fun c395 => ?_) (fun c395 => ?_)
    · have h := h.1 c395
      exact vw_sub [2, 3, 4, 5, 6] rfl (pB_L_law_2004 hX hE hK23 _ _ _ _ _ _ _ _ h)
    · have h := h.2 c395
      refine vw_aload_n hX 5 dL_law_1992 rfl ?_
      refine vw_iconst hX (v := 0) dL_law_1993 (by decide) ?_
      obtain ⟨n397, f396, hf396, hif396, h⟩ := h
      refine vw_lald hX hf396 hif396 dL_law_1994 ?_
      refine vw_iload hX 0 dL_law_1995 rfl ?_
      refine vw_i2l hX dL_law_1997 ?_
      refine vw_lcmp hX dL_law_1998 ?_
      refine vw_if_eq hX (tgt := 2004) dL_law_1999 (by decide) (fun c398 => ?_) (fun c398 => ?_)
      · have h := h.1 c398
        exact vw_sub [2, 3, 4, 5, 6] rfl (pB_L_law_2004 hX hE hK23 _ _ _ _ _ _ _ _ h)
      · have h := h.2 c398
        refine vw_iconst hX (v := 0) dL_law_2002 (by decide) ?_
        exact vw_lawret hX hE dL_law_2003 h
  · have h := h.2 c394
    refine vw_iconst hX (v := 0) dL_law_1985 (by decide) ?_
    exact vw_lawret hX hE dL_law_1986 h
def B_L_law_1948 (a0 : Nat) (K23 : Nat → Nat → Nat → Int32 → Mm → Nat → Nat → Nat → Prop) (Q : Int32 → Mm → Nat → Prop) (x1 : Nat) (x2 : Nat) (x3 : Nat) (x4 : Int32) (w : Mm) (z : Nat) (mc : Nat) (ms : Nat) : Prop :=
  B_L_law_2935 a0 K23 Q x1 x2 x3 x4 w z mc ms
set_option maxRecDepth 100000 in
set_option maxHeartbeats 4000000 in
theorem pB_L_law_1948 {C : Cx} {d : Nat} {a0 : Nat} {K23 : Nat → Nat → Nat → Int32 → Mm → Nat → Nat → Nat → Prop} (hX : CX C cL_law RL 9 (some .boolean) [] (d + 11)) (hE : EL C) (hK23 : ∀ (x1 : Nat) (x2 : Nat) (x3 : Nat) (x4 : Int32) (w : Mm) (z mc ms : Nat), K23 x1 x2 x3 x4 w z mc ms → VW C 23 [(0, .ref (a0)), (1, .ref (x1)), (2, .ref (x2)), (3, .ref (x3)), (4, .int (x4))] [] w z mc ms) : ∀ (x1 : Nat) (x2 : Nat) (x3 : Nat) (x4 : Int32) (w : Mm) (z mc ms : Nat), B_L_law_1948 a0 K23 lawQ x1 x2 x3 x4 w z mc ms → VW C 1948 [(0, .ref (a0)), (1, .ref (x1)), (2, .ref (x2)), (3, .ref (x3)), (4, .int (x4))] [] w z mc ms := by
  intro x1 x2 x3 x4 w z mc ms h
  unfold B_L_law_1948 at h
  refine vw_goto hX (tgt := 2935) dL_law_1948 (by decide) ?_
  exact pB_L_law_2935 hX hE hK23 _ _ _ _ _ _ _ _ h
def B_L_law_1895 (a0 : Nat) (K23 : Nat → Nat → Nat → Int32 → Mm → Nat → Nat → Nat → Prop) (Q : Int32 → Mm → Nat → Prop) (x1 : Nat) (x2 : Nat) (x3 : Nat) (x4 : Int32) (w : Mm) (z : Nat) (mc : Nat) (ms : Nat) : Prop :=
  ∃ n400 f399, arI w a0 0 = some (n400, f399) ∧ vp_in ((x4 + 1)) n400 ∧ ∃ k404 k405, k404 ≤ mc ∧ k405 ≤ ms ∧ F_L_ticketKind x1 ((f399 ((x4 + 1) : Int32).toNatClampNeg)) x3 w z k404 k405 (fun r401 w402 z403 => ∃ n407 f406, arI w402 a0 0 = some (n407, f406) ∧ vp_in ((x4 + 1)) n407 ∧ isO w402 x2 10 ∧ F_X6_ticketKind x2 ((f406 ((x4 + 1) : Int32).toNatClampNeg)) w402 z403 (fun r409 w410 z411 => isO w410 x2 10 ∧ F_X6_thrown x2 w410 z411 (fun r413 w414 z415 => (r413 = r401 → (¬ r401 = 0 → B_L_law_1948 a0 K23 Q x1 x2 x3 x4 w414 z415 ((mc - k404)) ((ms - k405))) ∧
  (r401 = 0 → ∃ n419 f418, arL w414 x3 = some (n419, f418) ∧ vp_in 0 n419 ∧ (((lg_cmp ((f418 (0 : Int32).toNatClampNeg)) ((r409 : Int32).toInt64))) = 0 → B_L_law_1948 a0 K23 Q x1 x2 x3 x4 w414 z415 ((mc - k404)) ((ms - k405))) ∧
  (¬ ((lg_cmp ((f418 (0 : Int32).toNatClampNeg)) ((r409 : Int32).toInt64))) = 0 → Q 0 w414 z415))) ∧
  (¬ r413 = r401 → Q 0 w414 z415))))
set_option maxRecDepth 100000 in
set_option maxHeartbeats 4000000 in
theorem pB_L_law_1895 {C : Cx} {d : Nat} {a0 : Nat} {K23 : Nat → Nat → Nat → Int32 → Mm → Nat → Nat → Nat → Prop} (hX : CX C cL_law RL 9 (some .boolean) [] (d + 11)) (hE : EL C) (hK23 : ∀ (x1 : Nat) (x2 : Nat) (x3 : Nat) (x4 : Int32) (w : Mm) (z mc ms : Nat), K23 x1 x2 x3 x4 w z mc ms → VW C 23 [(0, .ref (a0)), (1, .ref (x1)), (2, .ref (x2)), (3, .ref (x3)), (4, .int (x4))] [] w z mc ms) : ∀ (x1 : Nat) (x2 : Nat) (x3 : Nat) (x4 : Int32) (w : Mm) (z mc ms : Nat), B_L_law_1895 a0 K23 lawQ x1 x2 x3 x4 w z mc ms → VW C 1895 [(0, .ref (a0)), (1, .ref (x1)), (2, .ref (x2)), (3, .ref (x3)), (4, .int (x4))] [] w z mc ms := by
  intro x1 x2 x3 x4 w z mc ms h
  unfold B_L_law_1895 at h
  refine vw_aload_n hX 1 dL_law_1895 rfl ?_
  refine vw_aload_n hX 0 dL_law_1896 rfl ?_
  refine vw_iload hX 4 dL_law_1897 rfl ?_
  refine vw_iconst hX (v := 1) dL_law_1899 (by decide) ?_
  refine vw_iadd hX dL_law_1900 ?_
  obtain ⟨n400, f399, hf399, hif399, h⟩ := h
  refine vw_iald hX hf399 hif399 dL_law_1901 ?_
  refine vw_aload_n hX 3 dL_law_1902 rfl ?_
  obtain ⟨k404, k405, hm1, hm2, h⟩ := h
  refine s_L_267 hX dL_law_1903 (Nat.le_of_ble_eq_true rfl) hm1 hm2 (ct_L_ticketKind (d := d + 2) (lst hX) h) (fun r401 w402 z403 h => ?_)
  refine vw_istore hX dL_law_1906 (by decide) rfl ?_
  refine vw_aload_n hX 3 dL_law_1908 rfl ?_
  refine vw_aload_n hX 1 dL_law_1909 rfl ?_
  refine vw_iload hX 5 dL_law_1910 rfl ?_
  refine vw_iconst hX (v := 1) dL_law_1912 (by decide) ?_
  refine vw_iadd hX dL_law_1913 ?_
  obtain ⟨n407, f406, hf406, hif406, h⟩ := h
  refine vw_iald hX hf406 hif406 dL_law_1914 ?_
  obtain ⟨hr408, h⟩ := h
  refine s_L_269 hX hr408 dL_law_1915 (Nat.le_of_ble_eq_true rfl) (ct_X6_ticketKind (d := d + 7) (lst hX) h) (fun r409 w410 z411 h => ?_)
  refine vw_istore hX dL_law_1918 (by decide) rfl ?_
  refine vw_aload_n hX 4 dL_law_1920 rfl ?_
  obtain ⟨hr412, h⟩ := h
  refine s_L_150 hX hr412 dL_law_1921 (Nat.le_of_ble_eq_true rfl) (ct_X6_thrown (d := d + 10) (lst hX) h) (fun r413 w414 z415 h => ?_)
  refine vw_iload hX 1 dL_law_1924 rfl ?_
  refine vw_icmp_eq hX (tgt := 1931) dL_law_1926 (by decide) (fun c416 => ?_) (fun c416 => ?_)
  · have h := h.1 c416
    refine vw_iload hX 1 dL_law_1931 rfl ?_
    refine vw_if_ne hX (tgt := 1948) dL_law_1933 (by decide) (fun c417 => ?_) (fun c417 => ?_)
    · have h := h.1 c417
      exact vw_sub [2, 3, 4, 5, 6] rfl (pB_L_law_1948 hX hE hK23 _ _ _ _ _ _ _ _ h)
    · have h := h.2 c417
      refine vw_aload_n hX 5 dL_law_1936 rfl ?_
      refine vw_iconst hX (v := 0) dL_law_1937 (by decide) ?_
      obtain ⟨n419, f418, hf418, hif418, h⟩ := h
      refine vw_lald hX hf418 hif418 dL_law_1938 ?_
      refine vw_iload hX 0 dL_law_1939 rfl ?_
      refine vw_i2l hX dL_law_1941 ?_
      refine vw_lcmp hX dL_law_1942 ?_
      refine vw_if_eq hX (tgt := 1948) dL_law_1943 (by decide) (fun c420 => ?_) (fun c420 => ?_)
      · have h := h.1 c420
        exact vw_sub [2, 3, 4, 5, 6] rfl (pB_L_law_1948 hX hE hK23 _ _ _ _ _ _ _ _ h)
      · have h := h.2 c420
        refine vw_iconst hX (v := 0) dL_law_1946 (by decide) ?_
        exact vw_lawret hX hE dL_law_1947 h
  · have h := h.2 c416
    refine vw_iconst hX (v := 0) dL_law_1929 (by decide) ?_
    exact vw_lawret hX hE dL_law_1930 h
def B_L_law_1892 (a0 : Nat) (K23 : Nat → Nat → Nat → Int32 → Mm → Nat → Nat → Nat → Prop) (Q : Int32 → Mm → Nat → Prop) (x1 : Nat) (x2 : Nat) (x3 : Nat) (x4 : Int32) (w : Mm) (z : Nat) (mc : Nat) (ms : Nat) : Prop :=
  B_L_law_2935 a0 K23 Q x1 x2 x3 x4 w z mc ms
set_option maxRecDepth 100000 in
set_option maxHeartbeats 4000000 in
theorem pB_L_law_1892 {C : Cx} {d : Nat} {a0 : Nat} {K23 : Nat → Nat → Nat → Int32 → Mm → Nat → Nat → Nat → Prop} (hX : CX C cL_law RL 9 (some .boolean) [] (d + 11)) (hE : EL C) (hK23 : ∀ (x1 : Nat) (x2 : Nat) (x3 : Nat) (x4 : Int32) (w : Mm) (z mc ms : Nat), K23 x1 x2 x3 x4 w z mc ms → VW C 23 [(0, .ref (a0)), (1, .ref (x1)), (2, .ref (x2)), (3, .ref (x3)), (4, .int (x4))] [] w z mc ms) : ∀ (x1 : Nat) (x2 : Nat) (x3 : Nat) (x4 : Int32) (w : Mm) (z mc ms : Nat), B_L_law_1892 a0 K23 lawQ x1 x2 x3 x4 w z mc ms → VW C 1892 [(0, .ref (a0)), (1, .ref (x1)), (2, .ref (x2)), (3, .ref (x3)), (4, .int (x4))] [] w z mc ms := by
  intro x1 x2 x3 x4 w z mc ms h
  unfold B_L_law_1892 at h
  refine vw_goto hX (tgt := 2935) dL_law_1892 (by decide) ?_
  exact pB_L_law_2935 hX hE hK23 _ _ _ _ _ _ _ _ h
def B_L_law_1839 (a0 : Nat) (K23 : Nat → Nat → Nat → Int32 → Mm → Nat → Nat → Nat → Prop) (Q : Int32 → Mm → Nat → Prop) (x1 : Nat) (x2 : Nat) (x3 : Nat) (x4 : Int32) (w : Mm) (z : Nat) (mc : Nat) (ms : Nat) : Prop :=
  ∃ n422 f421, arI w a0 0 = some (n422, f421) ∧ vp_in ((x4 + 1)) n422 ∧ ∃ k426 k427, k426 ≤ mc ∧ k427 ≤ ms ∧ F_L_ticketHolder x1 ((f421 ((x4 + 1) : Int32).toNatClampNeg)) x3 w z k426 k427 (fun r423 w424 z425 => ∃ n429 f428, arI w424 a0 0 = some (n429, f428) ∧ vp_in ((x4 + 1)) n429 ∧ isO w424 x2 10 ∧ F_X6_ticketHolder x2 ((f428 ((x4 + 1) : Int32).toNatClampNeg)) w424 z425 (fun r431 w432 z433 => isO w432 x2 10 ∧ F_X6_thrown x2 w432 z433 (fun r435 w436 z437 => (r435 = r423 → (¬ r423 = 0 → B_L_law_1892 a0 K23 Q x1 x2 x3 x4 w436 z437 ((mc - k426)) ((ms - k427))) ∧
  (r423 = 0 → ∃ n441 f440, arL w436 x3 = some (n441, f440) ∧ vp_in 0 n441 ∧ (((lg_cmp ((f440 (0 : Int32).toNatClampNeg)) ((r431 : Int32).toInt64))) = 0 → B_L_law_1892 a0 K23 Q x1 x2 x3 x4 w436 z437 ((mc - k426)) ((ms - k427))) ∧
  (¬ ((lg_cmp ((f440 (0 : Int32).toNatClampNeg)) ((r431 : Int32).toInt64))) = 0 → Q 0 w436 z437))) ∧
  (¬ r435 = r423 → Q 0 w436 z437))))
set_option maxRecDepth 100000 in
set_option maxHeartbeats 4000000 in
theorem pB_L_law_1839 {C : Cx} {d : Nat} {a0 : Nat} {K23 : Nat → Nat → Nat → Int32 → Mm → Nat → Nat → Nat → Prop} (hX : CX C cL_law RL 9 (some .boolean) [] (d + 11)) (hE : EL C) (hK23 : ∀ (x1 : Nat) (x2 : Nat) (x3 : Nat) (x4 : Int32) (w : Mm) (z mc ms : Nat), K23 x1 x2 x3 x4 w z mc ms → VW C 23 [(0, .ref (a0)), (1, .ref (x1)), (2, .ref (x2)), (3, .ref (x3)), (4, .int (x4))] [] w z mc ms) : ∀ (x1 : Nat) (x2 : Nat) (x3 : Nat) (x4 : Int32) (w : Mm) (z mc ms : Nat), B_L_law_1839 a0 K23 lawQ x1 x2 x3 x4 w z mc ms → VW C 1839 [(0, .ref (a0)), (1, .ref (x1)), (2, .ref (x2)), (3, .ref (x3)), (4, .int (x4))] [] w z mc ms := by
  intro x1 x2 x3 x4 w z mc ms h
  unfold B_L_law_1839 at h
  refine vw_aload_n hX 1 dL_law_1839 rfl ?_
  refine vw_aload_n hX 0 dL_law_1840 rfl ?_
  refine vw_iload hX 4 dL_law_1841 rfl ?_
  refine vw_iconst hX (v := 1) dL_law_1843 (by decide) ?_
  refine vw_iadd hX dL_law_1844 ?_
  obtain ⟨n422, f421, hf421, hif421, h⟩ := h
  refine vw_iald hX hf421 hif421 dL_law_1845 ?_
  refine vw_aload_n hX 3 dL_law_1846 rfl ?_
  obtain ⟨k426, k427, hm1, hm2, h⟩ := h
  refine s_L_264 hX dL_law_1847 (Nat.le_of_ble_eq_true rfl) hm1 hm2 (ct_L_ticketHolder (d := d + 2) (lst hX) h) (fun r423 w424 z425 h => ?_)
  refine vw_istore hX dL_law_1850 (by decide) rfl ?_
  refine vw_aload_n hX 3 dL_law_1852 rfl ?_
  refine vw_aload_n hX 1 dL_law_1853 rfl ?_
  refine vw_iload hX 5 dL_law_1854 rfl ?_
  refine vw_iconst hX (v := 1) dL_law_1856 (by decide) ?_
  refine vw_iadd hX dL_law_1857 ?_
  obtain ⟨n429, f428, hf428, hif428, h⟩ := h
  refine vw_iald hX hf428 hif428 dL_law_1858 ?_
  obtain ⟨hr430, h⟩ := h
  refine s_L_266 hX hr430 dL_law_1859 (Nat.le_of_ble_eq_true rfl) (ct_X6_ticketHolder (d := d + 7) (lst hX) h) (fun r431 w432 z433 h => ?_)
  refine vw_istore hX dL_law_1862 (by decide) rfl ?_
  refine vw_aload_n hX 4 dL_law_1864 rfl ?_
  obtain ⟨hr434, h⟩ := h
  refine s_L_150 hX hr434 dL_law_1865 (Nat.le_of_ble_eq_true rfl) (ct_X6_thrown (d := d + 10) (lst hX) h) (fun r435 w436 z437 h => ?_)
  refine vw_iload hX 1 dL_law_1868 rfl ?_
  refine vw_icmp_eq hX (tgt := 1875) dL_law_1870 (by decide) (fun c438 => ?_) (fun c438 => ?_)
  · have h := h.1 c438
    refine vw_iload hX 1 dL_law_1875 rfl ?_
    refine vw_if_ne hX (tgt := 1892) dL_law_1877 (by decide) (fun c439 => ?_) (fun c439 => ?_)
    · have h := h.1 c439
      exact vw_sub [2, 3, 4, 5, 6] rfl (pB_L_law_1892 hX hE hK23 _ _ _ _ _ _ _ _ h)
    · have h := h.2 c439
      refine vw_aload_n hX 5 dL_law_1880 rfl ?_
      refine vw_iconst hX (v := 0) dL_law_1881 (by decide) ?_
      obtain ⟨n441, f440, hf440, hif440, h⟩ := h
      refine vw_lald hX hf440 hif440 dL_law_1882 ?_
      refine vw_iload hX 0 dL_law_1883 rfl ?_
      refine vw_i2l hX dL_law_1885 ?_
      refine vw_lcmp hX dL_law_1886 ?_
      refine vw_if_eq hX (tgt := 1892) dL_law_1887 (by decide) (fun c442 => ?_) (fun c442 => ?_)
      · have h := h.1 c442
        exact vw_sub [2, 3, 4, 5, 6] rfl (pB_L_law_1892 hX hE hK23 _ _ _ _ _ _ _ _ h)
      · have h := h.2 c442
        refine vw_iconst hX (v := 0) dL_law_1890 (by decide) ?_
        exact vw_lawret hX hE dL_law_1891 h
  · have h := h.2 c438
    refine vw_iconst hX (v := 0) dL_law_1873 (by decide) ?_
    exact vw_lawret hX hE dL_law_1874 h
def B_L_law_1836 (a0 : Nat) (K23 : Nat → Nat → Nat → Int32 → Mm → Nat → Nat → Nat → Prop) (Q : Int32 → Mm → Nat → Prop) (x1 : Nat) (x2 : Nat) (x3 : Nat) (x4 : Int32) (w : Mm) (z : Nat) (mc : Nat) (ms : Nat) : Prop :=
  B_L_law_2935 a0 K23 Q x1 x2 x3 x4 w z mc ms
set_option maxRecDepth 100000 in
set_option maxHeartbeats 4000000 in
theorem pB_L_law_1836 {C : Cx} {d : Nat} {a0 : Nat} {K23 : Nat → Nat → Nat → Int32 → Mm → Nat → Nat → Nat → Prop} (hX : CX C cL_law RL 9 (some .boolean) [] (d + 11)) (hE : EL C) (hK23 : ∀ (x1 : Nat) (x2 : Nat) (x3 : Nat) (x4 : Int32) (w : Mm) (z mc ms : Nat), K23 x1 x2 x3 x4 w z mc ms → VW C 23 [(0, .ref (a0)), (1, .ref (x1)), (2, .ref (x2)), (3, .ref (x3)), (4, .int (x4))] [] w z mc ms) : ∀ (x1 : Nat) (x2 : Nat) (x3 : Nat) (x4 : Int32) (w : Mm) (z mc ms : Nat), B_L_law_1836 a0 K23 lawQ x1 x2 x3 x4 w z mc ms → VW C 1836 [(0, .ref (a0)), (1, .ref (x1)), (2, .ref (x2)), (3, .ref (x3)), (4, .int (x4))] [] w z mc ms := by
  intro x1 x2 x3 x4 w z mc ms h
  unfold B_L_law_1836 at h
  refine vw_goto hX (tgt := 2935) dL_law_1836 (by decide) ?_
  exact pB_L_law_2935 hX hE hK23 _ _ _ _ _ _ _ _ h
def B_L_law_1771 (a0 : Nat) (K23 : Nat → Nat → Nat → Int32 → Mm → Nat → Nat → Nat → Prop) (Q : Int32 → Mm → Nat → Prop) (x1 : Nat) (x2 : Nat) (x3 : Nat) (x4 : Int32) (w : Mm) (z : Nat) (mc : Nat) (ms : Nat) : Prop :=
  ∃ n444 f443, arI w a0 0 = some (n444, f443) ∧ vp_in ((x4 + 1)) n444 ∧ ∃ n446 f445, arI w a0 0 = some (n446, f445) ∧ vp_in ((x4 + 2)) n446 ∧ ∃ k450 k451, k450 ≤ mc ∧ k451 ≤ ms ∧ F_L_cheapestKind x1 ((f443 ((x4 + 1) : Int32).toNatClampNeg)) ((f445 ((x4 + 2) : Int32).toNatClampNeg)) x3 w z k450 k451 (fun r447 w448 z449 => ∃ n453 f452, arI w448 a0 0 = some (n453, f452) ∧ vp_in ((x4 + 1)) n453 ∧ ∃ n455 f454, arI w448 a0 0 = some (n455, f454) ∧ vp_in ((x4 + 2)) n455 ∧ isO w448 x2 10 ∧ F_X6_cheapestKind x2 ((f452 ((x4 + 1) : Int32).toNatClampNeg)) ((f454 ((x4 + 2) : Int32).toNatClampNeg)) w448 z449 (fun r457 w458 z459 => isO w458 x2 10 ∧ F_X6_thrown x2 w458 z459 (fun r461 w462 z463 => (r461 = r447 → (¬ r447 = 0 → B_L_law_1836 a0 K23 Q x1 x2 x3 x4 w462 z463 ((mc - k450)) ((ms - k451))) ∧
  (r447 = 0 → ∃ n467 f466, arL w462 x3 = some (n467, f466) ∧ vp_in 0 n467 ∧ (((lg_cmp ((f466 (0 : Int32).toNatClampNeg)) ((r457 : Int32).toInt64))) = 0 → B_L_law_1836 a0 K23 Q x1 x2 x3 x4 w462 z463 ((mc - k450)) ((ms - k451))) ∧
  (¬ ((lg_cmp ((f466 (0 : Int32).toNatClampNeg)) ((r457 : Int32).toInt64))) = 0 → Q 0 w462 z463))) ∧
  (¬ r461 = r447 → Q 0 w462 z463))))
set_option maxRecDepth 100000 in
set_option maxHeartbeats 4000000 in
theorem pB_L_law_1771 {C : Cx} {d : Nat} {a0 : Nat} {K23 : Nat → Nat → Nat → Int32 → Mm → Nat → Nat → Nat → Prop} (hX : CX C cL_law RL 9 (some .boolean) [] (d + 11)) (hE : EL C) (hK23 : ∀ (x1 : Nat) (x2 : Nat) (x3 : Nat) (x4 : Int32) (w : Mm) (z mc ms : Nat), K23 x1 x2 x3 x4 w z mc ms → VW C 23 [(0, .ref (a0)), (1, .ref (x1)), (2, .ref (x2)), (3, .ref (x3)), (4, .int (x4))] [] w z mc ms) : ∀ (x1 : Nat) (x2 : Nat) (x3 : Nat) (x4 : Int32) (w : Mm) (z mc ms : Nat), B_L_law_1771 a0 K23 lawQ x1 x2 x3 x4 w z mc ms → VW C 1771 [(0, .ref (a0)), (1, .ref (x1)), (2, .ref (x2)), (3, .ref (x3)), (4, .int (x4))] [] w z mc ms := by
  intro x1 x2 x3 x4 w z mc ms h
  unfold B_L_law_1771 at h
  refine vw_aload_n hX 1 dL_law_1771 rfl ?_
  refine vw_aload_n hX 0 dL_law_1772 rfl ?_
  refine vw_iload hX 4 dL_law_1773 rfl ?_
  refine vw_iconst hX (v := 1) dL_law_1775 (by decide) ?_
  refine vw_iadd hX dL_law_1776 ?_
  obtain ⟨n444, f443, hf443, hif443, h⟩ := h
  refine vw_iald hX hf443 hif443 dL_law_1777 ?_
  refine vw_aload_n hX 0 dL_law_1778 rfl ?_
  refine vw_iload hX 4 dL_law_1779 rfl ?_
  refine vw_iconst hX (v := 2) dL_law_1781 (by decide) ?_
  refine vw_iadd hX dL_law_1782 ?_
  obtain ⟨n446, f445, hf445, hif445, h⟩ := h
  refine vw_iald hX hf445 hif445 dL_law_1783 ?_
  refine vw_aload_n hX 3 dL_law_1784 rfl ?_
  obtain ⟨k450, k451, hm1, hm2, h⟩ := h
  refine s_L_261 hX dL_law_1785 (Nat.le_of_ble_eq_true rfl) hm1 hm2 (ct_L_cheapestKind (d := d + 2) (lst hX) h) (fun r447 w448 z449 h => ?_)
  refine vw_istore hX dL_law_1788 (by decide) rfl ?_
  refine vw_aload_n hX 3 dL_law_1790 rfl ?_
  refine vw_aload_n hX 1 dL_law_1791 rfl ?_
  refine vw_iload hX 5 dL_law_1792 rfl ?_
  refine vw_iconst hX (v := 1) dL_law_1794 (by decide) ?_
  refine vw_iadd hX dL_law_1795 ?_
  obtain ⟨n453, f452, hf452, hif452, h⟩ := h
  refine vw_iald hX hf452 hif452 dL_law_1796 ?_
  refine vw_aload_n hX 1 dL_law_1797 rfl ?_
  refine vw_iload hX 5 dL_law_1798 rfl ?_
  refine vw_iconst hX (v := 2) dL_law_1800 (by decide) ?_
  refine vw_iadd hX dL_law_1801 ?_
  obtain ⟨n455, f454, hf454, hif454, h⟩ := h
  refine vw_iald hX hf454 hif454 dL_law_1802 ?_
  obtain ⟨hr456, h⟩ := h
  refine s_L_263 hX hr456 dL_law_1803 (Nat.le_of_ble_eq_true rfl) (ct_X6_cheapestKind (d := d + 8) (lst hX) h) (fun r457 w458 z459 h => ?_)
  refine vw_istore hX dL_law_1806 (by decide) rfl ?_
  refine vw_aload_n hX 4 dL_law_1808 rfl ?_
  obtain ⟨hr460, h⟩ := h
  refine s_L_150 hX hr460 dL_law_1809 (Nat.le_of_ble_eq_true rfl) (ct_X6_thrown (d := d + 10) (lst hX) h) (fun r461 w462 z463 h => ?_)
  refine vw_iload hX 1 dL_law_1812 rfl ?_
  refine vw_icmp_eq hX (tgt := 1819) dL_law_1814 (by decide) (fun c464 => ?_) (fun c464 => ?_)
  · have h := h.1 c464
    refine vw_iload hX 1 dL_law_1819 rfl ?_
    refine vw_if_ne hX (tgt := 1836) dL_law_1821 (by decide) (fun c465 => ?_) (fun c465 => ?_)
    · have h := h.1 c465
      exact vw_sub [2, 3, 4, 5, 6] rfl (pB_L_law_1836 hX hE hK23 _ _ _ _ _ _ _ _ h)
    · have h := h.2 c465
      refine vw_aload_n hX 5 dL_law_1824 rfl ?_
      refine vw_iconst hX (v := 0) dL_law_1825 (by decide) ?_
      obtain ⟨n467, f466, hf466, hif466, h⟩ := h
      refine vw_lald hX hf466 hif466 dL_law_1826 ?_
      refine vw_iload hX 0 dL_law_1827 rfl ?_
      refine vw_i2l hX dL_law_1829 ?_
      refine vw_lcmp hX dL_law_1830 ?_
      refine vw_if_eq hX (tgt := 1836) dL_law_1831 (by decide) (fun c468 => ?_) (fun c468 => ?_)
      · have h := h.1 c468
        exact vw_sub [2, 3, 4, 5, 6] rfl (pB_L_law_1836 hX hE hK23 _ _ _ _ _ _ _ _ h)
      · have h := h.2 c468
        refine vw_iconst hX (v := 0) dL_law_1834 (by decide) ?_
        exact vw_lawret hX hE dL_law_1835 h
  · have h := h.2 c464
    refine vw_iconst hX (v := 0) dL_law_1817 (by decide) ?_
    exact vw_lawret hX hE dL_law_1818 h
def B_L_law_1768 (a0 : Nat) (K23 : Nat → Nat → Nat → Int32 → Mm → Nat → Nat → Nat → Prop) (Q : Int32 → Mm → Nat → Prop) (x1 : Nat) (x2 : Nat) (x3 : Nat) (x4 : Int32) (w : Mm) (z : Nat) (mc : Nat) (ms : Nat) : Prop :=
  B_L_law_2935 a0 K23 Q x1 x2 x3 x4 w z mc ms
set_option maxRecDepth 100000 in
set_option maxHeartbeats 4000000 in
theorem pB_L_law_1768 {C : Cx} {d : Nat} {a0 : Nat} {K23 : Nat → Nat → Nat → Int32 → Mm → Nat → Nat → Nat → Prop} (hX : CX C cL_law RL 9 (some .boolean) [] (d + 11)) (hE : EL C) (hK23 : ∀ (x1 : Nat) (x2 : Nat) (x3 : Nat) (x4 : Int32) (w : Mm) (z mc ms : Nat), K23 x1 x2 x3 x4 w z mc ms → VW C 23 [(0, .ref (a0)), (1, .ref (x1)), (2, .ref (x2)), (3, .ref (x3)), (4, .int (x4))] [] w z mc ms) : ∀ (x1 : Nat) (x2 : Nat) (x3 : Nat) (x4 : Int32) (w : Mm) (z mc ms : Nat), B_L_law_1768 a0 K23 lawQ x1 x2 x3 x4 w z mc ms → VW C 1768 [(0, .ref (a0)), (1, .ref (x1)), (2, .ref (x2)), (3, .ref (x3)), (4, .int (x4))] [] w z mc ms := by
  intro x1 x2 x3 x4 w z mc ms h
  unfold B_L_law_1768 at h
  refine vw_goto hX (tgt := 2935) dL_law_1768 (by decide) ?_
  exact pB_L_law_2935 hX hE hK23 _ _ _ _ _ _ _ _ h
def B_L_law_1703 (a0 : Nat) (K23 : Nat → Nat → Nat → Int32 → Mm → Nat → Nat → Nat → Prop) (Q : Int32 → Mm → Nat → Prop) (x1 : Nat) (x2 : Nat) (x3 : Nat) (x4 : Int32) (w : Mm) (z : Nat) (mc : Nat) (ms : Nat) : Prop :=
  ∃ n470 f469, arI w a0 0 = some (n470, f469) ∧ vp_in ((x4 + 1)) n470 ∧ ∃ n472 f471, arI w a0 0 = some (n472, f471) ∧ vp_in ((x4 + 2)) n472 ∧ ∃ k476 k477, k476 ≤ mc ∧ k477 ≤ ms ∧ F_L_nameByte x1 ((f469 ((x4 + 1) : Int32).toNatClampNeg)) ((f471 ((x4 + 2) : Int32).toNatClampNeg)) x3 w z k476 k477 (fun r473 w474 z475 => ∃ n479 f478, arI w474 a0 0 = some (n479, f478) ∧ vp_in ((x4 + 1)) n479 ∧ ∃ n481 f480, arI w474 a0 0 = some (n481, f480) ∧ vp_in ((x4 + 2)) n481 ∧ isO w474 x2 10 ∧ F_X6_nameByte x2 ((f478 ((x4 + 1) : Int32).toNatClampNeg)) ((f480 ((x4 + 2) : Int32).toNatClampNeg)) w474 z475 (fun r483 w484 z485 => isO w484 x2 10 ∧ F_X6_thrown x2 w484 z485 (fun r487 w488 z489 => (r487 = r473 → (¬ r473 = 0 → B_L_law_1768 a0 K23 Q x1 x2 x3 x4 w488 z489 ((mc - k476)) ((ms - k477))) ∧
  (r473 = 0 → ∃ n493 f492, arL w488 x3 = some (n493, f492) ∧ vp_in 0 n493 ∧ (((lg_cmp ((f492 (0 : Int32).toNatClampNeg)) ((r483 : Int32).toInt64))) = 0 → B_L_law_1768 a0 K23 Q x1 x2 x3 x4 w488 z489 ((mc - k476)) ((ms - k477))) ∧
  (¬ ((lg_cmp ((f492 (0 : Int32).toNatClampNeg)) ((r483 : Int32).toInt64))) = 0 → Q 0 w488 z489))) ∧
  (¬ r487 = r473 → Q 0 w488 z489))))
set_option maxRecDepth 100000 in
set_option maxHeartbeats 4000000 in
theorem pB_L_law_1703 {C : Cx} {d : Nat} {a0 : Nat} {K23 : Nat → Nat → Nat → Int32 → Mm → Nat → Nat → Nat → Prop} (hX : CX C cL_law RL 9 (some .boolean) [] (d + 11)) (hE : EL C) (hK23 : ∀ (x1 : Nat) (x2 : Nat) (x3 : Nat) (x4 : Int32) (w : Mm) (z mc ms : Nat), K23 x1 x2 x3 x4 w z mc ms → VW C 23 [(0, .ref (a0)), (1, .ref (x1)), (2, .ref (x2)), (3, .ref (x3)), (4, .int (x4))] [] w z mc ms) : ∀ (x1 : Nat) (x2 : Nat) (x3 : Nat) (x4 : Int32) (w : Mm) (z mc ms : Nat), B_L_law_1703 a0 K23 lawQ x1 x2 x3 x4 w z mc ms → VW C 1703 [(0, .ref (a0)), (1, .ref (x1)), (2, .ref (x2)), (3, .ref (x3)), (4, .int (x4))] [] w z mc ms := by
  intro x1 x2 x3 x4 w z mc ms h
  unfold B_L_law_1703 at h
  refine vw_aload_n hX 1 dL_law_1703 rfl ?_
  refine vw_aload_n hX 0 dL_law_1704 rfl ?_
  refine vw_iload hX 4 dL_law_1705 rfl ?_
  refine vw_iconst hX (v := 1) dL_law_1707 (by decide) ?_
  refine vw_iadd hX dL_law_1708 ?_
  obtain ⟨n470, f469, hf469, hif469, h⟩ := h
  refine vw_iald hX hf469 hif469 dL_law_1709 ?_
  refine vw_aload_n hX 0 dL_law_1710 rfl ?_
  refine vw_iload hX 4 dL_law_1711 rfl ?_
  refine vw_iconst hX (v := 2) dL_law_1713 (by decide) ?_
  refine vw_iadd hX dL_law_1714 ?_
  obtain ⟨n472, f471, hf471, hif471, h⟩ := h
  refine vw_iald hX hf471 hif471 dL_law_1715 ?_
  refine vw_aload_n hX 3 dL_law_1716 rfl ?_
  obtain ⟨k476, k477, hm1, hm2, h⟩ := h
  refine s_L_258 hX dL_law_1717 (Nat.le_of_ble_eq_true rfl) hm1 hm2 (ct_L_nameByte (d := d + 2) (lst hX) h) (fun r473 w474 z475 h => ?_)
  refine vw_istore hX dL_law_1720 (by decide) rfl ?_
  refine vw_aload_n hX 3 dL_law_1722 rfl ?_
  refine vw_aload_n hX 1 dL_law_1723 rfl ?_
  refine vw_iload hX 5 dL_law_1724 rfl ?_
  refine vw_iconst hX (v := 1) dL_law_1726 (by decide) ?_
  refine vw_iadd hX dL_law_1727 ?_
  obtain ⟨n479, f478, hf478, hif478, h⟩ := h
  refine vw_iald hX hf478 hif478 dL_law_1728 ?_
  refine vw_aload_n hX 1 dL_law_1729 rfl ?_
  refine vw_iload hX 5 dL_law_1730 rfl ?_
  refine vw_iconst hX (v := 2) dL_law_1732 (by decide) ?_
  refine vw_iadd hX dL_law_1733 ?_
  obtain ⟨n481, f480, hf480, hif480, h⟩ := h
  refine vw_iald hX hf480 hif480 dL_law_1734 ?_
  obtain ⟨hr482, h⟩ := h
  refine s_L_260 hX hr482 dL_law_1735 (Nat.le_of_ble_eq_true rfl) (ct_X6_nameByte (d := d + 8) (lst hX) h) (fun r483 w484 z485 h => ?_)
  refine vw_istore hX dL_law_1738 (by decide) rfl ?_
  refine vw_aload_n hX 4 dL_law_1740 rfl ?_
  obtain ⟨hr486, h⟩ := h
  refine s_L_150 hX hr486 dL_law_1741 (Nat.le_of_ble_eq_true rfl) (ct_X6_thrown (d := d + 10) (lst hX) h) (fun r487 w488 z489 h => ?_)
  refine vw_iload hX 1 dL_law_1744 rfl ?_
  refine vw_icmp_eq hX (tgt := 1751) dL_law_1746 (by decide) (fun c490 => ?_) (fun c490 => ?_)
  · have h := h.1 c490
    refine vw_iload hX 1 dL_law_1751 rfl ?_
    refine vw_if_ne hX (tgt := 1768) dL_law_1753 (by decide) (fun c491 => ?_) (fun c491 => ?_)
    · have h := h.1 c491
      exact vw_sub [2, 3, 4, 5, 6] rfl (pB_L_law_1768 hX hE hK23 _ _ _ _ _ _ _ _ h)
    · have h := h.2 c491
      refine vw_aload_n hX 5 dL_law_1756 rfl ?_
      refine vw_iconst hX (v := 0) dL_law_1757 (by decide) ?_
      obtain ⟨n493, f492, hf492, hif492, h⟩ := h
      refine vw_lald hX hf492 hif492 dL_law_1758 ?_
      refine vw_iload hX 0 dL_law_1759 rfl ?_
      refine vw_i2l hX dL_law_1761 ?_
      refine vw_lcmp hX dL_law_1762 ?_
      refine vw_if_eq hX (tgt := 1768) dL_law_1763 (by decide) (fun c494 => ?_) (fun c494 => ?_)
      · have h := h.1 c494
        exact vw_sub [2, 3, 4, 5, 6] rfl (pB_L_law_1768 hX hE hK23 _ _ _ _ _ _ _ _ h)
      · have h := h.2 c494
        refine vw_iconst hX (v := 0) dL_law_1766 (by decide) ?_
        exact vw_lawret hX hE dL_law_1767 h
  · have h := h.2 c490
    refine vw_iconst hX (v := 0) dL_law_1749 (by decide) ?_
    exact vw_lawret hX hE dL_law_1750 h
def B_L_law_1700 (a0 : Nat) (K23 : Nat → Nat → Nat → Int32 → Mm → Nat → Nat → Nat → Prop) (Q : Int32 → Mm → Nat → Prop) (x1 : Nat) (x2 : Nat) (x3 : Nat) (x4 : Int32) (w : Mm) (z : Nat) (mc : Nat) (ms : Nat) : Prop :=
  B_L_law_2935 a0 K23 Q x1 x2 x3 x4 w z mc ms
set_option maxRecDepth 100000 in
set_option maxHeartbeats 4000000 in
theorem pB_L_law_1700 {C : Cx} {d : Nat} {a0 : Nat} {K23 : Nat → Nat → Nat → Int32 → Mm → Nat → Nat → Nat → Prop} (hX : CX C cL_law RL 9 (some .boolean) [] (d + 11)) (hE : EL C) (hK23 : ∀ (x1 : Nat) (x2 : Nat) (x3 : Nat) (x4 : Int32) (w : Mm) (z mc ms : Nat), K23 x1 x2 x3 x4 w z mc ms → VW C 23 [(0, .ref (a0)), (1, .ref (x1)), (2, .ref (x2)), (3, .ref (x3)), (4, .int (x4))] [] w z mc ms) : ∀ (x1 : Nat) (x2 : Nat) (x3 : Nat) (x4 : Int32) (w : Mm) (z mc ms : Nat), B_L_law_1700 a0 K23 lawQ x1 x2 x3 x4 w z mc ms → VW C 1700 [(0, .ref (a0)), (1, .ref (x1)), (2, .ref (x2)), (3, .ref (x3)), (4, .int (x4))] [] w z mc ms := by
  intro x1 x2 x3 x4 w z mc ms h
  unfold B_L_law_1700 at h
  refine vw_goto hX (tgt := 2935) dL_law_1700 (by decide) ?_
  exact pB_L_law_2935 hX hE hK23 _ _ _ _ _ _ _ _ h
def B_L_law_1647 (a0 : Nat) (K23 : Nat → Nat → Nat → Int32 → Mm → Nat → Nat → Nat → Prop) (Q : Int32 → Mm → Nat → Prop) (x1 : Nat) (x2 : Nat) (x3 : Nat) (x4 : Int32) (w : Mm) (z : Nat) (mc : Nat) (ms : Nat) : Prop :=
  ∃ n496 f495, arI w a0 0 = some (n496, f495) ∧ vp_in ((x4 + 1)) n496 ∧ ∃ k500 k501, k500 ≤ mc ∧ k501 ≤ ms ∧ F_L_unpaidCases x1 ((f495 ((x4 + 1) : Int32).toNatClampNeg)) x3 w z k500 k501 (fun r497 w498 z499 => ∃ n503 f502, arI w498 a0 0 = some (n503, f502) ∧ vp_in ((x4 + 1)) n503 ∧ isO w498 x2 10 ∧ F_X6_unpaidCases x2 ((f502 ((x4 + 1) : Int32).toNatClampNeg)) w498 z499 (fun r505 w506 z507 => isO w506 x2 10 ∧ F_X6_thrown x2 w506 z507 (fun r509 w510 z511 => (r509 = r497 → (¬ r497 = 0 → B_L_law_1700 a0 K23 Q x1 x2 x3 x4 w510 z511 ((mc - k500)) ((ms - k501))) ∧
  (r497 = 0 → ∃ n515 f514, arL w510 x3 = some (n515, f514) ∧ vp_in 0 n515 ∧ (((lg_cmp ((f514 (0 : Int32).toNatClampNeg)) ((r505 : Int32).toInt64))) = 0 → B_L_law_1700 a0 K23 Q x1 x2 x3 x4 w510 z511 ((mc - k500)) ((ms - k501))) ∧
  (¬ ((lg_cmp ((f514 (0 : Int32).toNatClampNeg)) ((r505 : Int32).toInt64))) = 0 → Q 0 w510 z511))) ∧
  (¬ r509 = r497 → Q 0 w510 z511))))
set_option maxRecDepth 100000 in
set_option maxHeartbeats 4000000 in
theorem pB_L_law_1647 {C : Cx} {d : Nat} {a0 : Nat} {K23 : Nat → Nat → Nat → Int32 → Mm → Nat → Nat → Nat → Prop} (hX : CX C cL_law RL 9 (some .boolean) [] (d + 11)) (hE : EL C) (hK23 : ∀ (x1 : Nat) (x2 : Nat) (x3 : Nat) (x4 : Int32) (w : Mm) (z mc ms : Nat), K23 x1 x2 x3 x4 w z mc ms → VW C 23 [(0, .ref (a0)), (1, .ref (x1)), (2, .ref (x2)), (3, .ref (x3)), (4, .int (x4))] [] w z mc ms) : ∀ (x1 : Nat) (x2 : Nat) (x3 : Nat) (x4 : Int32) (w : Mm) (z mc ms : Nat), B_L_law_1647 a0 K23 lawQ x1 x2 x3 x4 w z mc ms → VW C 1647 [(0, .ref (a0)), (1, .ref (x1)), (2, .ref (x2)), (3, .ref (x3)), (4, .int (x4))] [] w z mc ms := by
  intro x1 x2 x3 x4 w z mc ms h
  unfold B_L_law_1647 at h
  refine vw_aload_n hX 1 dL_law_1647 rfl ?_
  refine vw_aload_n hX 0 dL_law_1648 rfl ?_
  refine vw_iload hX 4 dL_law_1649 rfl ?_
  refine vw_iconst hX (v := 1) dL_law_1651 (by decide) ?_
  refine vw_iadd hX dL_law_1652 ?_
  obtain ⟨n496, f495, hf495, hif495, h⟩ := h
  refine vw_iald hX hf495 hif495 dL_law_1653 ?_
  refine vw_aload_n hX 3 dL_law_1654 rfl ?_
  obtain ⟨k500, k501, hm1, hm2, h⟩ := h
  refine s_L_255 hX dL_law_1655 (Nat.le_of_ble_eq_true rfl) hm1 hm2 (ct_L_unpaidCases (d := d + 2) (lst hX) h) (fun r497 w498 z499 h => ?_)
  refine vw_istore hX dL_law_1658 (by decide) rfl ?_
  refine vw_aload_n hX 3 dL_law_1660 rfl ?_
  refine vw_aload_n hX 1 dL_law_1661 rfl ?_
  refine vw_iload hX 5 dL_law_1662 rfl ?_
  refine vw_iconst hX (v := 1) dL_law_1664 (by decide) ?_
  refine vw_iadd hX dL_law_1665 ?_
  obtain ⟨n503, f502, hf502, hif502, h⟩ := h
  refine vw_iald hX hf502 hif502 dL_law_1666 ?_
  obtain ⟨hr504, h⟩ := h
  refine s_L_257 hX hr504 dL_law_1667 (Nat.le_of_ble_eq_true rfl) (ct_X6_unpaidCases (d := d + 8) (lst hX) h) (fun r505 w506 z507 h => ?_)
  refine vw_istore hX dL_law_1670 (by decide) rfl ?_
  refine vw_aload_n hX 4 dL_law_1672 rfl ?_
  obtain ⟨hr508, h⟩ := h
  refine s_L_150 hX hr508 dL_law_1673 (Nat.le_of_ble_eq_true rfl) (ct_X6_thrown (d := d + 10) (lst hX) h) (fun r509 w510 z511 h => ?_)
  refine vw_iload hX 1 dL_law_1676 rfl ?_
  refine vw_icmp_eq hX (tgt := 1683) dL_law_1678 (by decide) (fun c512 => ?_) (fun c512 => ?_)
  · have h := h.1 c512
    refine vw_iload hX 1 dL_law_1683 rfl ?_
    refine vw_if_ne hX (tgt := 1700) dL_law_1685 (by decide) (fun c513 => ?_) (fun c513 => ?_)
    · have h := h.1 c513
      exact vw_sub [2, 3, 4, 5, 6] rfl (pB_L_law_1700 hX hE hK23 _ _ _ _ _ _ _ _ h)
    · have h := h.2 c513
      refine vw_aload_n hX 5 dL_law_1688 rfl ?_
      refine vw_iconst hX (v := 0) dL_law_1689 (by decide) ?_
      obtain ⟨n515, f514, hf514, hif514, h⟩ := h
      refine vw_lald hX hf514 hif514 dL_law_1690 ?_
      refine vw_iload hX 0 dL_law_1691 rfl ?_
      refine vw_i2l hX dL_law_1693 ?_
      refine vw_lcmp hX dL_law_1694 ?_
      refine vw_if_eq hX (tgt := 1700) dL_law_1695 (by decide) (fun c516 => ?_) (fun c516 => ?_)
      · have h := h.1 c516
        exact vw_sub [2, 3, 4, 5, 6] rfl (pB_L_law_1700 hX hE hK23 _ _ _ _ _ _ _ _ h)
      · have h := h.2 c516
        refine vw_iconst hX (v := 0) dL_law_1698 (by decide) ?_
        exact vw_lawret hX hE dL_law_1699 h
  · have h := h.2 c512
    refine vw_iconst hX (v := 0) dL_law_1681 (by decide) ?_
    exact vw_lawret hX hE dL_law_1682 h
def B_L_law_1644 (a0 : Nat) (K23 : Nat → Nat → Nat → Int32 → Mm → Nat → Nat → Nat → Prop) (Q : Int32 → Mm → Nat → Prop) (x1 : Nat) (x2 : Nat) (x3 : Nat) (x4 : Int32) (w : Mm) (z : Nat) (mc : Nat) (ms : Nat) : Prop :=
  B_L_law_2935 a0 K23 Q x1 x2 x3 x4 w z mc ms
set_option maxRecDepth 100000 in
set_option maxHeartbeats 4000000 in
theorem pB_L_law_1644 {C : Cx} {d : Nat} {a0 : Nat} {K23 : Nat → Nat → Nat → Int32 → Mm → Nat → Nat → Nat → Prop} (hX : CX C cL_law RL 9 (some .boolean) [] (d + 11)) (hE : EL C) (hK23 : ∀ (x1 : Nat) (x2 : Nat) (x3 : Nat) (x4 : Int32) (w : Mm) (z mc ms : Nat), K23 x1 x2 x3 x4 w z mc ms → VW C 23 [(0, .ref (a0)), (1, .ref (x1)), (2, .ref (x2)), (3, .ref (x3)), (4, .int (x4))] [] w z mc ms) : ∀ (x1 : Nat) (x2 : Nat) (x3 : Nat) (x4 : Int32) (w : Mm) (z mc ms : Nat), B_L_law_1644 a0 K23 lawQ x1 x2 x3 x4 w z mc ms → VW C 1644 [(0, .ref (a0)), (1, .ref (x1)), (2, .ref (x2)), (3, .ref (x3)), (4, .int (x4))] [] w z mc ms := by
  intro x1 x2 x3 x4 w z mc ms h
  unfold B_L_law_1644 at h
  refine vw_goto hX (tgt := 2935) dL_law_1644 (by decide) ?_
  exact pB_L_law_2935 hX hE hK23 _ _ _ _ _ _ _ _ h
def B_L_law_1591 (a0 : Nat) (K23 : Nat → Nat → Nat → Int32 → Mm → Nat → Nat → Nat → Prop) (Q : Int32 → Mm → Nat → Prop) (x1 : Nat) (x2 : Nat) (x3 : Nat) (x4 : Int32) (w : Mm) (z : Nat) (mc : Nat) (ms : Nat) : Prop :=
  ∃ n518 f517, arI w a0 0 = some (n518, f517) ∧ vp_in ((x4 + 1)) n518 ∧ ∃ k522 k523, k522 ≤ mc ∧ k523 ≤ ms ∧ F_L_debt x1 ((f517 ((x4 + 1) : Int32).toNatClampNeg)) x3 w z k522 k523 (fun r519 w520 z521 => ∃ n525 f524, arI w520 a0 0 = some (n525, f524) ∧ vp_in ((x4 + 1)) n525 ∧ isO w520 x2 10 ∧ F_X6_debt x2 ((f524 ((x4 + 1) : Int32).toNatClampNeg)) w520 z521 (fun r527 w528 z529 => isO w528 x2 10 ∧ F_X6_thrown x2 w528 z529 (fun r531 w532 z533 => (r531 = r519 → (¬ r519 = 0 → B_L_law_1644 a0 K23 Q x1 x2 x3 x4 w532 z533 ((mc - k522)) ((ms - k523))) ∧
  (r519 = 0 → ∃ n537 f536, arL w532 x3 = some (n537, f536) ∧ vp_in 0 n537 ∧ (((lg_cmp ((f536 (0 : Int32).toNatClampNeg)) ((r527 : Int32).toInt64))) = 0 → B_L_law_1644 a0 K23 Q x1 x2 x3 x4 w532 z533 ((mc - k522)) ((ms - k523))) ∧
  (¬ ((lg_cmp ((f536 (0 : Int32).toNatClampNeg)) ((r527 : Int32).toInt64))) = 0 → Q 0 w532 z533))) ∧
  (¬ r531 = r519 → Q 0 w532 z533))))
set_option maxRecDepth 100000 in
set_option maxHeartbeats 4000000 in
theorem pB_L_law_1591 {C : Cx} {d : Nat} {a0 : Nat} {K23 : Nat → Nat → Nat → Int32 → Mm → Nat → Nat → Nat → Prop} (hX : CX C cL_law RL 9 (some .boolean) [] (d + 11)) (hE : EL C) (hK23 : ∀ (x1 : Nat) (x2 : Nat) (x3 : Nat) (x4 : Int32) (w : Mm) (z mc ms : Nat), K23 x1 x2 x3 x4 w z mc ms → VW C 23 [(0, .ref (a0)), (1, .ref (x1)), (2, .ref (x2)), (3, .ref (x3)), (4, .int (x4))] [] w z mc ms) : ∀ (x1 : Nat) (x2 : Nat) (x3 : Nat) (x4 : Int32) (w : Mm) (z mc ms : Nat), B_L_law_1591 a0 K23 lawQ x1 x2 x3 x4 w z mc ms → VW C 1591 [(0, .ref (a0)), (1, .ref (x1)), (2, .ref (x2)), (3, .ref (x3)), (4, .int (x4))] [] w z mc ms := by
  intro x1 x2 x3 x4 w z mc ms h
  unfold B_L_law_1591 at h
  refine vw_aload_n hX 1 dL_law_1591 rfl ?_
  refine vw_aload_n hX 0 dL_law_1592 rfl ?_
  refine vw_iload hX 4 dL_law_1593 rfl ?_
  refine vw_iconst hX (v := 1) dL_law_1595 (by decide) ?_
  refine vw_iadd hX dL_law_1596 ?_
  obtain ⟨n518, f517, hf517, hif517, h⟩ := h
  refine vw_iald hX hf517 hif517 dL_law_1597 ?_
  refine vw_aload_n hX 3 dL_law_1598 rfl ?_
  obtain ⟨k522, k523, hm1, hm2, h⟩ := h
  refine s_L_252 hX dL_law_1599 (Nat.le_of_ble_eq_true rfl) hm1 hm2 (ct_L_debt (d := d + 2) (lst hX) h) (fun r519 w520 z521 h => ?_)
  refine vw_istore hX dL_law_1602 (by decide) rfl ?_
  refine vw_aload_n hX 3 dL_law_1604 rfl ?_
  refine vw_aload_n hX 1 dL_law_1605 rfl ?_
  refine vw_iload hX 5 dL_law_1606 rfl ?_
  refine vw_iconst hX (v := 1) dL_law_1608 (by decide) ?_
  refine vw_iadd hX dL_law_1609 ?_
  obtain ⟨n525, f524, hf524, hif524, h⟩ := h
  refine vw_iald hX hf524 hif524 dL_law_1610 ?_
  obtain ⟨hr526, h⟩ := h
  refine s_L_254 hX hr526 dL_law_1611 (Nat.le_of_ble_eq_true rfl) (ct_X6_debt (d := d + 7) (lst hX) h) (fun r527 w528 z529 h => ?_)
  refine vw_istore hX dL_law_1614 (by decide) rfl ?_
  refine vw_aload_n hX 4 dL_law_1616 rfl ?_
  obtain ⟨hr530, h⟩ := h
  refine s_L_150 hX hr530 dL_law_1617 (Nat.le_of_ble_eq_true rfl) (ct_X6_thrown (d := d + 10) (lst hX) h) (fun r531 w532 z533 h => ?_)
  refine vw_iload hX 1 dL_law_1620 rfl ?_
  refine vw_icmp_eq hX (tgt := 1627) dL_law_1622 (by decide) (fun c534 => ?_) (fun c534 => ?_)
  · have h := h.1 c534
    refine vw_iload hX 1 dL_law_1627 rfl ?_
    refine vw_if_ne hX (tgt := 1644) dL_law_1629 (by decide) (fun c535 => ?_) (fun c535 => ?_)
    · have h := h.1 c535
      exact vw_sub [2, 3, 4, 5, 6] rfl (pB_L_law_1644 hX hE hK23 _ _ _ _ _ _ _ _ h)
    · have h := h.2 c535
      refine vw_aload_n hX 5 dL_law_1632 rfl ?_
      refine vw_iconst hX (v := 0) dL_law_1633 (by decide) ?_
      obtain ⟨n537, f536, hf536, hif536, h⟩ := h
      refine vw_lald hX hf536 hif536 dL_law_1634 ?_
      refine vw_iload hX 0 dL_law_1635 rfl ?_
      refine vw_i2l hX dL_law_1637 ?_
      refine vw_lcmp hX dL_law_1638 ?_
      refine vw_if_eq hX (tgt := 1644) dL_law_1639 (by decide) (fun c538 => ?_) (fun c538 => ?_)
      · have h := h.1 c538
        exact vw_sub [2, 3, 4, 5, 6] rfl (pB_L_law_1644 hX hE hK23 _ _ _ _ _ _ _ _ h)
      · have h := h.2 c538
        refine vw_iconst hX (v := 0) dL_law_1642 (by decide) ?_
        exact vw_lawret hX hE dL_law_1643 h
  · have h := h.2 c534
    refine vw_iconst hX (v := 0) dL_law_1625 (by decide) ?_
    exact vw_lawret hX hE dL_law_1626 h
def B_L_law_1588 (a0 : Nat) (K23 : Nat → Nat → Nat → Int32 → Mm → Nat → Nat → Nat → Prop) (Q : Int32 → Mm → Nat → Prop) (x1 : Nat) (x2 : Nat) (x3 : Nat) (x4 : Int32) (w : Mm) (z : Nat) (mc : Nat) (ms : Nat) : Prop :=
  B_L_law_2935 a0 K23 Q x1 x2 x3 x4 w z mc ms
set_option maxRecDepth 100000 in
set_option maxHeartbeats 4000000 in
theorem pB_L_law_1588 {C : Cx} {d : Nat} {a0 : Nat} {K23 : Nat → Nat → Nat → Int32 → Mm → Nat → Nat → Nat → Prop} (hX : CX C cL_law RL 9 (some .boolean) [] (d + 11)) (hE : EL C) (hK23 : ∀ (x1 : Nat) (x2 : Nat) (x3 : Nat) (x4 : Int32) (w : Mm) (z mc ms : Nat), K23 x1 x2 x3 x4 w z mc ms → VW C 23 [(0, .ref (a0)), (1, .ref (x1)), (2, .ref (x2)), (3, .ref (x3)), (4, .int (x4))] [] w z mc ms) : ∀ (x1 : Nat) (x2 : Nat) (x3 : Nat) (x4 : Int32) (w : Mm) (z mc ms : Nat), B_L_law_1588 a0 K23 lawQ x1 x2 x3 x4 w z mc ms → VW C 1588 [(0, .ref (a0)), (1, .ref (x1)), (2, .ref (x2)), (3, .ref (x3)), (4, .int (x4))] [] w z mc ms := by
  intro x1 x2 x3 x4 w z mc ms h
  unfold B_L_law_1588 at h
  refine vw_goto hX (tgt := 2935) dL_law_1588 (by decide) ?_
  exact pB_L_law_2935 hX hE hK23 _ _ _ _ _ _ _ _ h
def B_L_law_1535 (a0 : Nat) (K23 : Nat → Nat → Nat → Int32 → Mm → Nat → Nat → Nat → Prop) (Q : Int32 → Mm → Nat → Prop) (x1 : Nat) (x2 : Nat) (x3 : Nat) (x4 : Int32) (w : Mm) (z : Nat) (mc : Nat) (ms : Nat) : Prop :=
  ∃ n540 f539, arI w a0 0 = some (n540, f539) ∧ vp_in ((x4 + 1)) n540 ∧ ∃ k544 k545, k544 ≤ mc ∧ k545 ≤ ms ∧ F_L_faultNow x1 ((f539 ((x4 + 1) : Int32).toNatClampNeg)) x3 w z k544 k545 (fun r541 w542 z543 => ∃ n547 f546, arI w542 a0 0 = some (n547, f546) ∧ vp_in ((x4 + 1)) n547 ∧ isO w542 x2 10 ∧ F_X6_faultNow x2 ((f546 ((x4 + 1) : Int32).toNatClampNeg)) w542 z543 (fun r549 w550 z551 => isO w550 x2 10 ∧ F_X6_thrown x2 w550 z551 (fun r553 w554 z555 => (r553 = r541 → (¬ r541 = 0 → B_L_law_1588 a0 K23 Q x1 x2 x3 x4 w554 z555 ((mc - k544)) ((ms - k545))) ∧
  (r541 = 0 → ∃ n559 f558, arL w554 x3 = some (n559, f558) ∧ vp_in 0 n559 ∧ (((lg_cmp ((f558 (0 : Int32).toNatClampNeg)) ((r549 : Int32).toInt64))) = 0 → B_L_law_1588 a0 K23 Q x1 x2 x3 x4 w554 z555 ((mc - k544)) ((ms - k545))) ∧
  (¬ ((lg_cmp ((f558 (0 : Int32).toNatClampNeg)) ((r549 : Int32).toInt64))) = 0 → Q 0 w554 z555))) ∧
  (¬ r553 = r541 → Q 0 w554 z555))))
set_option maxRecDepth 100000 in
set_option maxHeartbeats 4000000 in
theorem pB_L_law_1535 {C : Cx} {d : Nat} {a0 : Nat} {K23 : Nat → Nat → Nat → Int32 → Mm → Nat → Nat → Nat → Prop} (hX : CX C cL_law RL 9 (some .boolean) [] (d + 11)) (hE : EL C) (hK23 : ∀ (x1 : Nat) (x2 : Nat) (x3 : Nat) (x4 : Int32) (w : Mm) (z mc ms : Nat), K23 x1 x2 x3 x4 w z mc ms → VW C 23 [(0, .ref (a0)), (1, .ref (x1)), (2, .ref (x2)), (3, .ref (x3)), (4, .int (x4))] [] w z mc ms) : ∀ (x1 : Nat) (x2 : Nat) (x3 : Nat) (x4 : Int32) (w : Mm) (z mc ms : Nat), B_L_law_1535 a0 K23 lawQ x1 x2 x3 x4 w z mc ms → VW C 1535 [(0, .ref (a0)), (1, .ref (x1)), (2, .ref (x2)), (3, .ref (x3)), (4, .int (x4))] [] w z mc ms := by
  intro x1 x2 x3 x4 w z mc ms h
  unfold B_L_law_1535 at h
  refine vw_aload_n hX 1 dL_law_1535 rfl ?_
  refine vw_aload_n hX 0 dL_law_1536 rfl ?_
  refine vw_iload hX 4 dL_law_1537 rfl ?_
  refine vw_iconst hX (v := 1) dL_law_1539 (by decide) ?_
  refine vw_iadd hX dL_law_1540 ?_
  obtain ⟨n540, f539, hf539, hif539, h⟩ := h
  refine vw_iald hX hf539 hif539 dL_law_1541 ?_
  refine vw_aload_n hX 3 dL_law_1542 rfl ?_
  obtain ⟨k544, k545, hm1, hm2, h⟩ := h
  refine s_L_249 hX dL_law_1543 (Nat.le_of_ble_eq_true rfl) hm1 hm2 (ct_L_faultNow (d := d + 2) (lst hX) h) (fun r541 w542 z543 h => ?_)
  refine vw_istore hX dL_law_1546 (by decide) rfl ?_
  refine vw_aload_n hX 3 dL_law_1548 rfl ?_
  refine vw_aload_n hX 1 dL_law_1549 rfl ?_
  refine vw_iload hX 5 dL_law_1550 rfl ?_
  refine vw_iconst hX (v := 1) dL_law_1552 (by decide) ?_
  refine vw_iadd hX dL_law_1553 ?_
  obtain ⟨n547, f546, hf546, hif546, h⟩ := h
  refine vw_iald hX hf546 hif546 dL_law_1554 ?_
  obtain ⟨hr548, h⟩ := h
  refine s_L_251 hX hr548 dL_law_1555 (Nat.le_of_ble_eq_true rfl) (ct_X6_faultNow (d := d + 6) (lst hX) h) (fun r549 w550 z551 h => ?_)
  refine vw_istore hX dL_law_1558 (by decide) rfl ?_
  refine vw_aload_n hX 4 dL_law_1560 rfl ?_
  obtain ⟨hr552, h⟩ := h
  refine s_L_150 hX hr552 dL_law_1561 (Nat.le_of_ble_eq_true rfl) (ct_X6_thrown (d := d + 10) (lst hX) h) (fun r553 w554 z555 h => ?_)
  refine vw_iload hX 1 dL_law_1564 rfl ?_
  refine vw_icmp_eq hX (tgt := 1571) dL_law_1566 (by decide) (fun c556 => ?_) (fun c556 => ?_)
  · have h := h.1 c556
    refine vw_iload hX 1 dL_law_1571 rfl ?_
    refine vw_if_ne hX (tgt := 1588) dL_law_1573 (by decide) (fun c557 => ?_) (fun c557 => ?_)
    · have h := h.1 c557
      exact vw_sub [2, 3, 4, 5, 6] rfl (pB_L_law_1588 hX hE hK23 _ _ _ _ _ _ _ _ h)
    · have h := h.2 c557
      refine vw_aload_n hX 5 dL_law_1576 rfl ?_
      refine vw_iconst hX (v := 0) dL_law_1577 (by decide) ?_
      obtain ⟨n559, f558, hf558, hif558, h⟩ := h
      refine vw_lald hX hf558 hif558 dL_law_1578 ?_
      refine vw_iload hX 0 dL_law_1579 rfl ?_
      refine vw_i2l hX dL_law_1581 ?_
      refine vw_lcmp hX dL_law_1582 ?_
      refine vw_if_eq hX (tgt := 1588) dL_law_1583 (by decide) (fun c560 => ?_) (fun c560 => ?_)
      · have h := h.1 c560
        exact vw_sub [2, 3, 4, 5, 6] rfl (pB_L_law_1588 hX hE hK23 _ _ _ _ _ _ _ _ h)
      · have h := h.2 c560
        refine vw_iconst hX (v := 0) dL_law_1586 (by decide) ?_
        exact vw_lawret hX hE dL_law_1587 h
  · have h := h.2 c556
    refine vw_iconst hX (v := 0) dL_law_1569 (by decide) ?_
    exact vw_lawret hX hE dL_law_1570 h
def B_L_law_1532 (a0 : Nat) (K23 : Nat → Nat → Nat → Int32 → Mm → Nat → Nat → Nat → Prop) (Q : Int32 → Mm → Nat → Prop) (x1 : Nat) (x2 : Nat) (x3 : Nat) (x4 : Int32) (w : Mm) (z : Nat) (mc : Nat) (ms : Nat) : Prop :=
  B_L_law_2935 a0 K23 Q x1 x2 x3 x4 w z mc ms
set_option maxRecDepth 100000 in
set_option maxHeartbeats 4000000 in
theorem pB_L_law_1532 {C : Cx} {d : Nat} {a0 : Nat} {K23 : Nat → Nat → Nat → Int32 → Mm → Nat → Nat → Nat → Prop} (hX : CX C cL_law RL 9 (some .boolean) [] (d + 11)) (hE : EL C) (hK23 : ∀ (x1 : Nat) (x2 : Nat) (x3 : Nat) (x4 : Int32) (w : Mm) (z mc ms : Nat), K23 x1 x2 x3 x4 w z mc ms → VW C 23 [(0, .ref (a0)), (1, .ref (x1)), (2, .ref (x2)), (3, .ref (x3)), (4, .int (x4))] [] w z mc ms) : ∀ (x1 : Nat) (x2 : Nat) (x3 : Nat) (x4 : Int32) (w : Mm) (z mc ms : Nat), B_L_law_1532 a0 K23 lawQ x1 x2 x3 x4 w z mc ms → VW C 1532 [(0, .ref (a0)), (1, .ref (x1)), (2, .ref (x2)), (3, .ref (x3)), (4, .int (x4))] [] w z mc ms := by
  intro x1 x2 x3 x4 w z mc ms h
  unfold B_L_law_1532 at h
  refine vw_goto hX (tgt := 2935) dL_law_1532 (by decide) ?_
  exact pB_L_law_2935 hX hE hK23 _ _ _ _ _ _ _ _ h
def B_L_law_1479 (a0 : Nat) (K23 : Nat → Nat → Nat → Int32 → Mm → Nat → Nat → Nat → Prop) (Q : Int32 → Mm → Nat → Prop) (x1 : Nat) (x2 : Nat) (x3 : Nat) (x4 : Int32) (w : Mm) (z : Nat) (mc : Nat) (ms : Nat) : Prop :=
  ∃ n562 f561, arI w a0 0 = some (n562, f561) ∧ vp_in ((x4 + 1)) n562 ∧ ∃ k566 k567, k566 ≤ mc ∧ k567 ≤ ms ∧ F_L_rideTicket x1 ((f561 ((x4 + 1) : Int32).toNatClampNeg)) x3 w z k566 k567 (fun r563 w564 z565 => ∃ n569 f568, arI w564 a0 0 = some (n569, f568) ∧ vp_in ((x4 + 1)) n569 ∧ isO w564 x2 10 ∧ F_X6_rideTicket x2 ((f568 ((x4 + 1) : Int32).toNatClampNeg)) w564 z565 (fun r571 w572 z573 => isO w572 x2 10 ∧ F_X6_thrown x2 w572 z573 (fun r575 w576 z577 => (r575 = r563 → (¬ r563 = 0 → B_L_law_1532 a0 K23 Q x1 x2 x3 x4 w576 z577 ((mc - k566)) ((ms - k567))) ∧
  (r563 = 0 → ∃ n581 f580, arL w576 x3 = some (n581, f580) ∧ vp_in 0 n581 ∧ (((lg_cmp ((f580 (0 : Int32).toNatClampNeg)) ((r571 : Int32).toInt64))) = 0 → B_L_law_1532 a0 K23 Q x1 x2 x3 x4 w576 z577 ((mc - k566)) ((ms - k567))) ∧
  (¬ ((lg_cmp ((f580 (0 : Int32).toNatClampNeg)) ((r571 : Int32).toInt64))) = 0 → Q 0 w576 z577))) ∧
  (¬ r575 = r563 → Q 0 w576 z577))))
set_option maxRecDepth 100000 in
set_option maxHeartbeats 4000000 in
theorem pB_L_law_1479 {C : Cx} {d : Nat} {a0 : Nat} {K23 : Nat → Nat → Nat → Int32 → Mm → Nat → Nat → Nat → Prop} (hX : CX C cL_law RL 9 (some .boolean) [] (d + 11)) (hE : EL C) (hK23 : ∀ (x1 : Nat) (x2 : Nat) (x3 : Nat) (x4 : Int32) (w : Mm) (z mc ms : Nat), K23 x1 x2 x3 x4 w z mc ms → VW C 23 [(0, .ref (a0)), (1, .ref (x1)), (2, .ref (x2)), (3, .ref (x3)), (4, .int (x4))] [] w z mc ms) : ∀ (x1 : Nat) (x2 : Nat) (x3 : Nat) (x4 : Int32) (w : Mm) (z mc ms : Nat), B_L_law_1479 a0 K23 lawQ x1 x2 x3 x4 w z mc ms → VW C 1479 [(0, .ref (a0)), (1, .ref (x1)), (2, .ref (x2)), (3, .ref (x3)), (4, .int (x4))] [] w z mc ms := by
  intro x1 x2 x3 x4 w z mc ms h
  unfold B_L_law_1479 at h
  refine vw_aload_n hX 1 dL_law_1479 rfl ?_
  refine vw_aload_n hX 0 dL_law_1480 rfl ?_
  refine vw_iload hX 4 dL_law_1481 rfl ?_
  refine vw_iconst hX (v := 1) dL_law_1483 (by decide) ?_
  refine vw_iadd hX dL_law_1484 ?_
  obtain ⟨n562, f561, hf561, hif561, h⟩ := h
  refine vw_iald hX hf561 hif561 dL_law_1485 ?_
  refine vw_aload_n hX 3 dL_law_1486 rfl ?_
  obtain ⟨k566, k567, hm1, hm2, h⟩ := h
  refine s_L_246 hX dL_law_1487 (Nat.le_of_ble_eq_true rfl) hm1 hm2 (ct_L_rideTicket (d := d + 2) (lst hX) h) (fun r563 w564 z565 h => ?_)
  refine vw_istore hX dL_law_1490 (by decide) rfl ?_
  refine vw_aload_n hX 3 dL_law_1492 rfl ?_
  refine vw_aload_n hX 1 dL_law_1493 rfl ?_
  refine vw_iload hX 5 dL_law_1494 rfl ?_
  refine vw_iconst hX (v := 1) dL_law_1496 (by decide) ?_
  refine vw_iadd hX dL_law_1497 ?_
  obtain ⟨n569, f568, hf568, hif568, h⟩ := h
  refine vw_iald hX hf568 hif568 dL_law_1498 ?_
  obtain ⟨hr570, h⟩ := h
  refine s_L_248 hX hr570 dL_law_1499 (Nat.le_of_ble_eq_true rfl) (ct_X6_rideTicket (d := d + 7) (lst hX) h) (fun r571 w572 z573 h => ?_)
  refine vw_istore hX dL_law_1502 (by decide) rfl ?_
  refine vw_aload_n hX 4 dL_law_1504 rfl ?_
  obtain ⟨hr574, h⟩ := h
  refine s_L_150 hX hr574 dL_law_1505 (Nat.le_of_ble_eq_true rfl) (ct_X6_thrown (d := d + 10) (lst hX) h) (fun r575 w576 z577 h => ?_)
  refine vw_iload hX 1 dL_law_1508 rfl ?_
  refine vw_icmp_eq hX (tgt := 1515) dL_law_1510 (by decide) (fun c578 => ?_) (fun c578 => ?_)
  · have h := h.1 c578
    refine vw_iload hX 1 dL_law_1515 rfl ?_
    refine vw_if_ne hX (tgt := 1532) dL_law_1517 (by decide) (fun c579 => ?_) (fun c579 => ?_)
    · have h := h.1 c579
      exact vw_sub [2, 3, 4, 5, 6] rfl (pB_L_law_1532 hX hE hK23 _ _ _ _ _ _ _ _ h)
    · have h := h.2 c579
      refine vw_aload_n hX 5 dL_law_1520 rfl ?_
      refine vw_iconst hX (v := 0) dL_law_1521 (by decide) ?_
      obtain ⟨n581, f580, hf580, hif580, h⟩ := h
      refine vw_lald hX hf580 hif580 dL_law_1522 ?_
      refine vw_iload hX 0 dL_law_1523 rfl ?_
      refine vw_i2l hX dL_law_1525 ?_
      refine vw_lcmp hX dL_law_1526 ?_
      refine vw_if_eq hX (tgt := 1532) dL_law_1527 (by decide) (fun c582 => ?_) (fun c582 => ?_)
      · have h := h.1 c582
        exact vw_sub [2, 3, 4, 5, 6] rfl (pB_L_law_1532 hX hE hK23 _ _ _ _ _ _ _ _ h)
      · have h := h.2 c582
        refine vw_iconst hX (v := 0) dL_law_1530 (by decide) ?_
        exact vw_lawret hX hE dL_law_1531 h
  · have h := h.2 c578
    refine vw_iconst hX (v := 0) dL_law_1513 (by decide) ?_
    exact vw_lawret hX hE dL_law_1514 h
def B_L_law_1476 (a0 : Nat) (K23 : Nat → Nat → Nat → Int32 → Mm → Nat → Nat → Nat → Prop) (Q : Int32 → Mm → Nat → Prop) (x1 : Nat) (x2 : Nat) (x3 : Nat) (x4 : Int32) (w : Mm) (z : Nat) (mc : Nat) (ms : Nat) : Prop :=
  B_L_law_2935 a0 K23 Q x1 x2 x3 x4 w z mc ms
set_option maxRecDepth 100000 in
set_option maxHeartbeats 4000000 in
theorem pB_L_law_1476 {C : Cx} {d : Nat} {a0 : Nat} {K23 : Nat → Nat → Nat → Int32 → Mm → Nat → Nat → Nat → Prop} (hX : CX C cL_law RL 9 (some .boolean) [] (d + 11)) (hE : EL C) (hK23 : ∀ (x1 : Nat) (x2 : Nat) (x3 : Nat) (x4 : Int32) (w : Mm) (z mc ms : Nat), K23 x1 x2 x3 x4 w z mc ms → VW C 23 [(0, .ref (a0)), (1, .ref (x1)), (2, .ref (x2)), (3, .ref (x3)), (4, .int (x4))] [] w z mc ms) : ∀ (x1 : Nat) (x2 : Nat) (x3 : Nat) (x4 : Int32) (w : Mm) (z mc ms : Nat), B_L_law_1476 a0 K23 lawQ x1 x2 x3 x4 w z mc ms → VW C 1476 [(0, .ref (a0)), (1, .ref (x1)), (2, .ref (x2)), (3, .ref (x3)), (4, .int (x4))] [] w z mc ms := by
  intro x1 x2 x3 x4 w z mc ms h
  unfold B_L_law_1476 at h
  refine vw_goto hX (tgt := 2935) dL_law_1476 (by decide) ?_
  exact pB_L_law_2935 hX hE hK23 _ _ _ _ _ _ _ _ h
def B_L_law_1423 (a0 : Nat) (K23 : Nat → Nat → Nat → Int32 → Mm → Nat → Nat → Nat → Prop) (Q : Int32 → Mm → Nat → Prop) (x1 : Nat) (x2 : Nat) (x3 : Nat) (x4 : Int32) (w : Mm) (z : Nat) (mc : Nat) (ms : Nat) : Prop :=
  ∃ n584 f583, arI w a0 0 = some (n584, f583) ∧ vp_in ((x4 + 1)) n584 ∧ ∃ k588 k589, k588 ≤ mc ∧ k589 ≤ ms ∧ F_L_rideEnd x1 ((f583 ((x4 + 1) : Int32).toNatClampNeg)) x3 w z k588 k589 (fun r585 w586 z587 => ∃ n591 f590, arI w586 a0 0 = some (n591, f590) ∧ vp_in ((x4 + 1)) n591 ∧ isO w586 x2 10 ∧ F_X6_rideEnd x2 ((f590 ((x4 + 1) : Int32).toNatClampNeg)) w586 z587 (fun r593 w594 z595 => isO w594 x2 10 ∧ F_X6_thrown x2 w594 z595 (fun r597 w598 z599 => (r597 = r585 → (¬ r585 = 0 → B_L_law_1476 a0 K23 Q x1 x2 x3 x4 w598 z599 ((mc - k588)) ((ms - k589))) ∧
  (r585 = 0 → ∃ n603 f602, arL w598 x3 = some (n603, f602) ∧ vp_in 0 n603 ∧ (((lg_cmp ((f602 (0 : Int32).toNatClampNeg)) ((r593 : Int32).toInt64))) = 0 → B_L_law_1476 a0 K23 Q x1 x2 x3 x4 w598 z599 ((mc - k588)) ((ms - k589))) ∧
  (¬ ((lg_cmp ((f602 (0 : Int32).toNatClampNeg)) ((r593 : Int32).toInt64))) = 0 → Q 0 w598 z599))) ∧
  (¬ r597 = r585 → Q 0 w598 z599))))
set_option maxRecDepth 100000 in
set_option maxHeartbeats 4000000 in
theorem pB_L_law_1423 {C : Cx} {d : Nat} {a0 : Nat} {K23 : Nat → Nat → Nat → Int32 → Mm → Nat → Nat → Nat → Prop} (hX : CX C cL_law RL 9 (some .boolean) [] (d + 11)) (hE : EL C) (hK23 : ∀ (x1 : Nat) (x2 : Nat) (x3 : Nat) (x4 : Int32) (w : Mm) (z mc ms : Nat), K23 x1 x2 x3 x4 w z mc ms → VW C 23 [(0, .ref (a0)), (1, .ref (x1)), (2, .ref (x2)), (3, .ref (x3)), (4, .int (x4))] [] w z mc ms) : ∀ (x1 : Nat) (x2 : Nat) (x3 : Nat) (x4 : Int32) (w : Mm) (z mc ms : Nat), B_L_law_1423 a0 K23 lawQ x1 x2 x3 x4 w z mc ms → VW C 1423 [(0, .ref (a0)), (1, .ref (x1)), (2, .ref (x2)), (3, .ref (x3)), (4, .int (x4))] [] w z mc ms := by
  intro x1 x2 x3 x4 w z mc ms h
  unfold B_L_law_1423 at h
  refine vw_aload_n hX 1 dL_law_1423 rfl ?_
  refine vw_aload_n hX 0 dL_law_1424 rfl ?_
  refine vw_iload hX 4 dL_law_1425 rfl ?_
  refine vw_iconst hX (v := 1) dL_law_1427 (by decide) ?_
  refine vw_iadd hX dL_law_1428 ?_
  obtain ⟨n584, f583, hf583, hif583, h⟩ := h
  refine vw_iald hX hf583 hif583 dL_law_1429 ?_
  refine vw_aload_n hX 3 dL_law_1430 rfl ?_
  obtain ⟨k588, k589, hm1, hm2, h⟩ := h
  refine s_L_243 hX dL_law_1431 (Nat.le_of_ble_eq_true rfl) hm1 hm2 (ct_L_rideEnd (d := d + 2) (lst hX) h) (fun r585 w586 z587 h => ?_)
  refine vw_istore hX dL_law_1434 (by decide) rfl ?_
  refine vw_aload_n hX 3 dL_law_1436 rfl ?_
  refine vw_aload_n hX 1 dL_law_1437 rfl ?_
  refine vw_iload hX 5 dL_law_1438 rfl ?_
  refine vw_iconst hX (v := 1) dL_law_1440 (by decide) ?_
  refine vw_iadd hX dL_law_1441 ?_
  obtain ⟨n591, f590, hf590, hif590, h⟩ := h
  refine vw_iald hX hf590 hif590 dL_law_1442 ?_
  obtain ⟨hr592, h⟩ := h
  refine s_L_245 hX hr592 dL_law_1443 (Nat.le_of_ble_eq_true rfl) (ct_X6_rideEnd (d := d + 7) (lst hX) h) (fun r593 w594 z595 h => ?_)
  refine vw_istore hX dL_law_1446 (by decide) rfl ?_
  refine vw_aload_n hX 4 dL_law_1448 rfl ?_
  obtain ⟨hr596, h⟩ := h
  refine s_L_150 hX hr596 dL_law_1449 (Nat.le_of_ble_eq_true rfl) (ct_X6_thrown (d := d + 10) (lst hX) h) (fun r597 w598 z599 h => ?_)
  refine vw_iload hX 1 dL_law_1452 rfl ?_
  refine vw_icmp_eq hX (tgt := 1459) dL_law_1454 (by decide) (fun c600 => ?_) (fun c600 => ?_)
  · have h := h.1 c600
    refine vw_iload hX 1 dL_law_1459 rfl ?_
    refine vw_if_ne hX (tgt := 1476) dL_law_1461 (by decide) (fun c601 => ?_) (fun c601 => ?_)
    · have h := h.1 c601
      exact vw_sub [2, 3, 4, 5, 6] rfl (pB_L_law_1476 hX hE hK23 _ _ _ _ _ _ _ _ h)
    · have h := h.2 c601
      refine vw_aload_n hX 5 dL_law_1464 rfl ?_
      refine vw_iconst hX (v := 0) dL_law_1465 (by decide) ?_
      obtain ⟨n603, f602, hf602, hif602, h⟩ := h
      refine vw_lald hX hf602 hif602 dL_law_1466 ?_
      refine vw_iload hX 0 dL_law_1467 rfl ?_
      refine vw_i2l hX dL_law_1469 ?_
      refine vw_lcmp hX dL_law_1470 ?_
      refine vw_if_eq hX (tgt := 1476) dL_law_1471 (by decide) (fun c604 => ?_) (fun c604 => ?_)
      · have h := h.1 c604
        exact vw_sub [2, 3, 4, 5, 6] rfl (pB_L_law_1476 hX hE hK23 _ _ _ _ _ _ _ _ h)
      · have h := h.2 c604
        refine vw_iconst hX (v := 0) dL_law_1474 (by decide) ?_
        exact vw_lawret hX hE dL_law_1475 h
  · have h := h.2 c600
    refine vw_iconst hX (v := 0) dL_law_1457 (by decide) ?_
    exact vw_lawret hX hE dL_law_1458 h
def B_L_law_1420 (a0 : Nat) (K23 : Nat → Nat → Nat → Int32 → Mm → Nat → Nat → Nat → Prop) (Q : Int32 → Mm → Nat → Prop) (x1 : Nat) (x2 : Nat) (x3 : Nat) (x4 : Int32) (w : Mm) (z : Nat) (mc : Nat) (ms : Nat) : Prop :=
  B_L_law_2935 a0 K23 Q x1 x2 x3 x4 w z mc ms
set_option maxRecDepth 100000 in
set_option maxHeartbeats 4000000 in
theorem pB_L_law_1420 {C : Cx} {d : Nat} {a0 : Nat} {K23 : Nat → Nat → Nat → Int32 → Mm → Nat → Nat → Nat → Prop} (hX : CX C cL_law RL 9 (some .boolean) [] (d + 11)) (hE : EL C) (hK23 : ∀ (x1 : Nat) (x2 : Nat) (x3 : Nat) (x4 : Int32) (w : Mm) (z mc ms : Nat), K23 x1 x2 x3 x4 w z mc ms → VW C 23 [(0, .ref (a0)), (1, .ref (x1)), (2, .ref (x2)), (3, .ref (x3)), (4, .int (x4))] [] w z mc ms) : ∀ (x1 : Nat) (x2 : Nat) (x3 : Nat) (x4 : Int32) (w : Mm) (z mc ms : Nat), B_L_law_1420 a0 K23 lawQ x1 x2 x3 x4 w z mc ms → VW C 1420 [(0, .ref (a0)), (1, .ref (x1)), (2, .ref (x2)), (3, .ref (x3)), (4, .int (x4))] [] w z mc ms := by
  intro x1 x2 x3 x4 w z mc ms h
  unfold B_L_law_1420 at h
  refine vw_goto hX (tgt := 2935) dL_law_1420 (by decide) ?_
  exact pB_L_law_2935 hX hE hK23 _ _ _ _ _ _ _ _ h
def B_L_law_1414 (a0 : Nat) (K23 : Nat → Nat → Nat → Int32 → Mm → Nat → Nat → Nat → Prop) (Q : Int32 → Mm → Nat → Prop) (x1 : Nat) (x2 : Nat) (x3 : Nat) (x4 : Int32) (y0 : Int64) (y1 : Int64) (w : Mm) (z : Nat) (mc : Nat) (ms : Nat) : Prop :=
  (((lg_cmp y1 y0)) = 0 → B_L_law_1420 a0 K23 Q x1 x2 x3 x4 w z mc ms) ∧
  (¬ ((lg_cmp y1 y0)) = 0 → Q 0 w z)
set_option maxRecDepth 100000 in
set_option maxHeartbeats 4000000 in
theorem pB_L_law_1414 {C : Cx} {d : Nat} {a0 : Nat} {K23 : Nat → Nat → Nat → Int32 → Mm → Nat → Nat → Nat → Prop} (hX : CX C cL_law RL 9 (some .boolean) [] (d + 11)) (hE : EL C) (hK23 : ∀ (x1 : Nat) (x2 : Nat) (x3 : Nat) (x4 : Int32) (w : Mm) (z mc ms : Nat), K23 x1 x2 x3 x4 w z mc ms → VW C 23 [(0, .ref (a0)), (1, .ref (x1)), (2, .ref (x2)), (3, .ref (x3)), (4, .int (x4))] [] w z mc ms) : ∀ (x1 : Nat) (x2 : Nat) (x3 : Nat) (x4 : Int32) (y0 : Int64) (y1 : Int64) (w : Mm) (z mc ms : Nat), B_L_law_1414 a0 K23 lawQ x1 x2 x3 x4 y0 y1 w z mc ms → VW C 1414 [(0, .ref (a0)), (1, .ref (x1)), (2, .ref (x2)), (3, .ref (x3)), (4, .int (x4))] [.long (y0), .long (y1)] w z mc ms := by
  intro x1 x2 x3 x4 y0 y1 w z mc ms h
  unfold B_L_law_1414 at h
  refine vw_lcmp hX dL_law_1414 ?_
  refine vw_if_eq hX (tgt := 1420) dL_law_1415 (by decide) (fun c605 => ?_) (fun c605 => ?_)
  · have h := h.1 c605
    exact pB_L_law_1420 hX hE hK23 _ _ _ _ _ _ _ _ h
  · have h := h.2 c605
    refine vw_iconst hX (v := 0) dL_law_1418 (by decide) ?_
    exact vw_lawret hX hE dL_law_1419 h
def B_L_law_1360 (a0 : Nat) (K23 : Nat → Nat → Nat → Int32 → Mm → Nat → Nat → Nat → Prop) (Q : Int32 → Mm → Nat → Prop) (x1 : Nat) (x2 : Nat) (x3 : Nat) (x4 : Int32) (w : Mm) (z : Nat) (mc : Nat) (ms : Nat) : Prop :=
  ∃ n607 f606, arI w a0 0 = some (n607, f606) ∧ vp_in ((x4 + 1)) n607 ∧ ∃ k611 k612, k611 ≤ mc ∧ k612 ≤ ms ∧ F_L_isRiding x1 ((f606 ((x4 + 1) : Int32).toNatClampNeg)) x3 w z k611 k612 (fun r608 w609 z610 => ∃ n614 f613, arI w609 a0 0 = some (n614, f613) ∧ vp_in ((x4 + 1)) n614 ∧ isO w609 x2 10 ∧ F_X6_isRiding x2 ((f613 ((x4 + 1) : Int32).toNatClampNeg)) w609 z610 (fun r616 w617 z618 => isO w617 x2 10 ∧ F_X6_thrown x2 w617 z618 (fun r620 w621 z622 => (r620 = r608 → (¬ r608 = 0 → B_L_law_1420 a0 K23 Q x1 x2 x3 x4 w621 z622 ((mc - k611)) ((ms - k612))) ∧
  (r608 = 0 → ∃ n626 f625, arL w621 x3 = some (n626, f625) ∧ vp_in 0 n626 ∧ (r616 = 0 → B_L_law_1414 a0 K23 Q x1 x2 x3 x4 0 ((f625 (0 : Int32).toNatClampNeg)) w621 z622 ((mc - k611)) ((ms - k612))) ∧
  (¬ r616 = 0 → B_L_law_1414 a0 K23 Q x1 x2 x3 x4 1 ((f625 (0 : Int32).toNatClampNeg)) w621 z622 ((mc - k611)) ((ms - k612))))) ∧
  (¬ r620 = r608 → Q 0 w621 z622))))
set_option maxRecDepth 100000 in
set_option maxHeartbeats 4000000 in
theorem pB_L_law_1360 {C : Cx} {d : Nat} {a0 : Nat} {K23 : Nat → Nat → Nat → Int32 → Mm → Nat → Nat → Nat → Prop} (hX : CX C cL_law RL 9 (some .boolean) [] (d + 11)) (hE : EL C) (hK23 : ∀ (x1 : Nat) (x2 : Nat) (x3 : Nat) (x4 : Int32) (w : Mm) (z mc ms : Nat), K23 x1 x2 x3 x4 w z mc ms → VW C 23 [(0, .ref (a0)), (1, .ref (x1)), (2, .ref (x2)), (3, .ref (x3)), (4, .int (x4))] [] w z mc ms) : ∀ (x1 : Nat) (x2 : Nat) (x3 : Nat) (x4 : Int32) (w : Mm) (z mc ms : Nat), B_L_law_1360 a0 K23 lawQ x1 x2 x3 x4 w z mc ms → VW C 1360 [(0, .ref (a0)), (1, .ref (x1)), (2, .ref (x2)), (3, .ref (x3)), (4, .int (x4))] [] w z mc ms := by
  intro x1 x2 x3 x4 w z mc ms h
  unfold B_L_law_1360 at h
  refine vw_aload_n hX 1 dL_law_1360 rfl ?_
  refine vw_aload_n hX 0 dL_law_1361 rfl ?_
  refine vw_iload hX 4 dL_law_1362 rfl ?_
  refine vw_iconst hX (v := 1) dL_law_1364 (by decide) ?_
  refine vw_iadd hX dL_law_1365 ?_
  obtain ⟨n607, f606, hf606, hif606, h⟩ := h
  refine vw_iald hX hf606 hif606 dL_law_1366 ?_
  refine vw_aload_n hX 3 dL_law_1367 rfl ?_
  obtain ⟨k611, k612, hm1, hm2, h⟩ := h
  refine s_L_240 hX dL_law_1368 (Nat.le_of_ble_eq_true rfl) hm1 hm2 (ct_L_isRiding (d := d + 2) (lst hX) h) (fun r608 w609 z610 h => ?_)
  refine vw_istore hX dL_law_1371 (by decide) rfl ?_
  refine vw_aload_n hX 3 dL_law_1373 rfl ?_
  refine vw_aload_n hX 1 dL_law_1374 rfl ?_
  refine vw_iload hX 5 dL_law_1375 rfl ?_
  refine vw_iconst hX (v := 1) dL_law_1377 (by decide) ?_
  refine vw_iadd hX dL_law_1378 ?_
  obtain ⟨n614, f613, hf613, hif613, h⟩ := h
  refine vw_iald hX hf613 hif613 dL_law_1379 ?_
  obtain ⟨hr615, h⟩ := h
  refine s_L_242 hX hr615 dL_law_1380 (Nat.le_of_ble_eq_true rfl) (ct_X6_isRiding (d := d + 8) (lst hX) h) (fun r616 w617 z618 h => ?_)
  refine vw_istore hX dL_law_1383 (by decide) rfl ?_
  refine vw_aload_n hX 4 dL_law_1385 rfl ?_
  obtain ⟨hr619, h⟩ := h
  refine s_L_150 hX hr619 dL_law_1386 (Nat.le_of_ble_eq_true rfl) (ct_X6_thrown (d := d + 10) (lst hX) h) (fun r620 w621 z622 h => ?_)
  refine vw_iload hX 1 dL_law_1389 rfl ?_
  refine vw_icmp_eq hX (tgt := 1396) dL_law_1391 (by decide) (fun c623 => ?_) (fun c623 => ?_)
  · have h := h.1 c623
    refine vw_iload hX 1 dL_law_1396 rfl ?_
    refine vw_if_ne hX (tgt := 1420) dL_law_1398 (by decide) (fun c624 => ?_) (fun c624 => ?_)
    · have h := h.1 c624
      exact vw_sub [2, 3, 4, 5, 6] rfl (pB_L_law_1420 hX hE hK23 _ _ _ _ _ _ _ _ h)
    · have h := h.2 c624
      refine vw_aload_n hX 5 dL_law_1401 rfl ?_
      refine vw_iconst hX (v := 0) dL_law_1402 (by decide) ?_
      obtain ⟨n626, f625, hf625, hif625, h⟩ := h
      refine vw_lald hX hf625 hif625 dL_law_1403 ?_
      refine vw_iload hX 0 dL_law_1404 rfl ?_
      refine vw_if_eq hX (tgt := 1413) dL_law_1406 (by decide) (fun c627 => ?_) (fun c627 => ?_)
      · have h := h.1 c627
        refine vw_lconst hX (v := 0) dL_law_1413 (by decide) ?_
        exact vw_sub [2, 3, 4, 5, 6] rfl (pB_L_law_1414 hX hE hK23 _ _ _ _ _ _ _ _ _ _ h)
      · have h := h.2 c627
        refine vw_lconst hX (v := 1) dL_law_1409 (by decide) ?_
        refine vw_goto hX (tgt := 1414) dL_law_1410 (by decide) ?_
        exact vw_sub [2, 3, 4, 5, 6] rfl (pB_L_law_1414 hX hE hK23 _ _ _ _ _ _ _ _ _ _ h)
  · have h := h.2 c623
    refine vw_iconst hX (v := 0) dL_law_1394 (by decide) ?_
    exact vw_lawret hX hE dL_law_1395 h
def B_L_law_1357 (a0 : Nat) (K23 : Nat → Nat → Nat → Int32 → Mm → Nat → Nat → Nat → Prop) (Q : Int32 → Mm → Nat → Prop) (x1 : Nat) (x2 : Nat) (x3 : Nat) (x4 : Int32) (w : Mm) (z : Nat) (mc : Nat) (ms : Nat) : Prop :=
  B_L_law_2935 a0 K23 Q x1 x2 x3 x4 w z mc ms
set_option maxRecDepth 100000 in
set_option maxHeartbeats 4000000 in
theorem pB_L_law_1357 {C : Cx} {d : Nat} {a0 : Nat} {K23 : Nat → Nat → Nat → Int32 → Mm → Nat → Nat → Nat → Prop} (hX : CX C cL_law RL 9 (some .boolean) [] (d + 11)) (hE : EL C) (hK23 : ∀ (x1 : Nat) (x2 : Nat) (x3 : Nat) (x4 : Int32) (w : Mm) (z mc ms : Nat), K23 x1 x2 x3 x4 w z mc ms → VW C 23 [(0, .ref (a0)), (1, .ref (x1)), (2, .ref (x2)), (3, .ref (x3)), (4, .int (x4))] [] w z mc ms) : ∀ (x1 : Nat) (x2 : Nat) (x3 : Nat) (x4 : Int32) (w : Mm) (z mc ms : Nat), B_L_law_1357 a0 K23 lawQ x1 x2 x3 x4 w z mc ms → VW C 1357 [(0, .ref (a0)), (1, .ref (x1)), (2, .ref (x2)), (3, .ref (x3)), (4, .int (x4))] [] w z mc ms := by
  intro x1 x2 x3 x4 w z mc ms h
  unfold B_L_law_1357 at h
  refine vw_goto hX (tgt := 2935) dL_law_1357 (by decide) ?_
  exact pB_L_law_2935 hX hE hK23 _ _ _ _ _ _ _ _ h
def B_L_law_1304 (a0 : Nat) (K23 : Nat → Nat → Nat → Int32 → Mm → Nat → Nat → Nat → Prop) (Q : Int32 → Mm → Nat → Prop) (x1 : Nat) (x2 : Nat) (x3 : Nat) (x4 : Int32) (w : Mm) (z : Nat) (mc : Nat) (ms : Nat) : Prop :=
  ∃ n629 f628, arI w a0 0 = some (n629, f628) ∧ vp_in ((x4 + 1)) n629 ∧ ∃ k633 k634, k633 ≤ mc ∧ k634 ≤ ms ∧ F_L_money x1 ((f628 ((x4 + 1) : Int32).toNatClampNeg)) x3 w z k633 k634 (fun r630 w631 z632 => ∃ n636 f635, arI w631 a0 0 = some (n636, f635) ∧ vp_in ((x4 + 1)) n636 ∧ isO w631 x2 10 ∧ F_X6_money x2 ((f635 ((x4 + 1) : Int32).toNatClampNeg)) w631 z632 (fun r638 w639 z640 => isO w639 x2 10 ∧ F_X6_thrown x2 w639 z640 (fun r642 w643 z644 => (r642 = r630 → (¬ r630 = 0 → B_L_law_1357 a0 K23 Q x1 x2 x3 x4 w643 z644 ((mc - k633)) ((ms - k634))) ∧
  (r630 = 0 → ∃ n648 f647, arL w643 x3 = some (n648, f647) ∧ vp_in 0 n648 ∧ (((lg_cmp ((f647 (0 : Int32).toNatClampNeg)) ((r638 : Int32).toInt64))) = 0 → B_L_law_1357 a0 K23 Q x1 x2 x3 x4 w643 z644 ((mc - k633)) ((ms - k634))) ∧
  (¬ ((lg_cmp ((f647 (0 : Int32).toNatClampNeg)) ((r638 : Int32).toInt64))) = 0 → Q 0 w643 z644))) ∧
  (¬ r642 = r630 → Q 0 w643 z644))))
set_option maxRecDepth 100000 in
set_option maxHeartbeats 4000000 in
theorem pB_L_law_1304 {C : Cx} {d : Nat} {a0 : Nat} {K23 : Nat → Nat → Nat → Int32 → Mm → Nat → Nat → Nat → Prop} (hX : CX C cL_law RL 9 (some .boolean) [] (d + 11)) (hE : EL C) (hK23 : ∀ (x1 : Nat) (x2 : Nat) (x3 : Nat) (x4 : Int32) (w : Mm) (z mc ms : Nat), K23 x1 x2 x3 x4 w z mc ms → VW C 23 [(0, .ref (a0)), (1, .ref (x1)), (2, .ref (x2)), (3, .ref (x3)), (4, .int (x4))] [] w z mc ms) : ∀ (x1 : Nat) (x2 : Nat) (x3 : Nat) (x4 : Int32) (w : Mm) (z mc ms : Nat), B_L_law_1304 a0 K23 lawQ x1 x2 x3 x4 w z mc ms → VW C 1304 [(0, .ref (a0)), (1, .ref (x1)), (2, .ref (x2)), (3, .ref (x3)), (4, .int (x4))] [] w z mc ms := by
  intro x1 x2 x3 x4 w z mc ms h
  unfold B_L_law_1304 at h
  refine vw_aload_n hX 1 dL_law_1304 rfl ?_
  refine vw_aload_n hX 0 dL_law_1305 rfl ?_
  refine vw_iload hX 4 dL_law_1306 rfl ?_
  refine vw_iconst hX (v := 1) dL_law_1308 (by decide) ?_
  refine vw_iadd hX dL_law_1309 ?_
  obtain ⟨n629, f628, hf628, hif628, h⟩ := h
  refine vw_iald hX hf628 hif628 dL_law_1310 ?_
  refine vw_aload_n hX 3 dL_law_1311 rfl ?_
  obtain ⟨k633, k634, hm1, hm2, h⟩ := h
  refine s_L_237 hX dL_law_1312 (Nat.le_of_ble_eq_true rfl) hm1 hm2 (ct_L_money (d := d + 2) (lst hX) h) (fun r630 w631 z632 h => ?_)
  refine vw_istore hX dL_law_1315 (by decide) rfl ?_
  refine vw_aload_n hX 3 dL_law_1317 rfl ?_
  refine vw_aload_n hX 1 dL_law_1318 rfl ?_
  refine vw_iload hX 5 dL_law_1319 rfl ?_
  refine vw_iconst hX (v := 1) dL_law_1321 (by decide) ?_
  refine vw_iadd hX dL_law_1322 ?_
  obtain ⟨n636, f635, hf635, hif635, h⟩ := h
  refine vw_iald hX hf635 hif635 dL_law_1323 ?_
  obtain ⟨hr637, h⟩ := h
  refine s_L_239 hX hr637 dL_law_1324 (Nat.le_of_ble_eq_true rfl) (ct_X6_money (d := d + 7) (lst hX) h) (fun r638 w639 z640 h => ?_)
  refine vw_istore hX dL_law_1327 (by decide) rfl ?_
  refine vw_aload_n hX 4 dL_law_1329 rfl ?_
  obtain ⟨hr641, h⟩ := h
  refine s_L_150 hX hr641 dL_law_1330 (Nat.le_of_ble_eq_true rfl) (ct_X6_thrown (d := d + 10) (lst hX) h) (fun r642 w643 z644 h => ?_)
  refine vw_iload hX 1 dL_law_1333 rfl ?_
  refine vw_icmp_eq hX (tgt := 1340) dL_law_1335 (by decide) (fun c645 => ?_) (fun c645 => ?_)
  · have h := h.1 c645
    refine vw_iload hX 1 dL_law_1340 rfl ?_
    refine vw_if_ne hX (tgt := 1357) dL_law_1342 (by decide) (fun c646 => ?_) (fun c646 => ?_)
    · have h := h.1 c646
      exact vw_sub [2, 3, 4, 5, 6] rfl (pB_L_law_1357 hX hE hK23 _ _ _ _ _ _ _ _ h)
    · have h := h.2 c646
      refine vw_aload_n hX 5 dL_law_1345 rfl ?_
      refine vw_iconst hX (v := 0) dL_law_1346 (by decide) ?_
      obtain ⟨n648, f647, hf647, hif647, h⟩ := h
      refine vw_lald hX hf647 hif647 dL_law_1347 ?_
      refine vw_iload hX 0 dL_law_1348 rfl ?_
      refine vw_i2l hX dL_law_1350 ?_
      refine vw_lcmp hX dL_law_1351 ?_
      refine vw_if_eq hX (tgt := 1357) dL_law_1352 (by decide) (fun c649 => ?_) (fun c649 => ?_)
      · have h := h.1 c649
        exact vw_sub [2, 3, 4, 5, 6] rfl (pB_L_law_1357 hX hE hK23 _ _ _ _ _ _ _ _ h)
      · have h := h.2 c649
        refine vw_iconst hX (v := 0) dL_law_1355 (by decide) ?_
        exact vw_lawret hX hE dL_law_1356 h
  · have h := h.2 c645
    refine vw_iconst hX (v := 0) dL_law_1338 (by decide) ?_
    exact vw_lawret hX hE dL_law_1339 h
def B_L_law_1301 (a0 : Nat) (K23 : Nat → Nat → Nat → Int32 → Mm → Nat → Nat → Nat → Prop) (Q : Int32 → Mm → Nat → Prop) (x1 : Nat) (x2 : Nat) (x3 : Nat) (x4 : Int32) (w : Mm) (z : Nat) (mc : Nat) (ms : Nat) : Prop :=
  B_L_law_2935 a0 K23 Q x1 x2 x3 x4 w z mc ms
set_option maxRecDepth 100000 in
set_option maxHeartbeats 4000000 in
theorem pB_L_law_1301 {C : Cx} {d : Nat} {a0 : Nat} {K23 : Nat → Nat → Nat → Int32 → Mm → Nat → Nat → Nat → Prop} (hX : CX C cL_law RL 9 (some .boolean) [] (d + 11)) (hE : EL C) (hK23 : ∀ (x1 : Nat) (x2 : Nat) (x3 : Nat) (x4 : Int32) (w : Mm) (z mc ms : Nat), K23 x1 x2 x3 x4 w z mc ms → VW C 23 [(0, .ref (a0)), (1, .ref (x1)), (2, .ref (x2)), (3, .ref (x3)), (4, .int (x4))] [] w z mc ms) : ∀ (x1 : Nat) (x2 : Nat) (x3 : Nat) (x4 : Int32) (w : Mm) (z mc ms : Nat), B_L_law_1301 a0 K23 lawQ x1 x2 x3 x4 w z mc ms → VW C 1301 [(0, .ref (a0)), (1, .ref (x1)), (2, .ref (x2)), (3, .ref (x3)), (4, .int (x4))] [] w z mc ms := by
  intro x1 x2 x3 x4 w z mc ms h
  unfold B_L_law_1301 at h
  refine vw_goto hX (tgt := 2935) dL_law_1301 (by decide) ?_
  exact pB_L_law_2935 hX hE hK23 _ _ _ _ _ _ _ _ h
def B_L_law_1236 (a0 : Nat) (K23 : Nat → Nat → Nat → Int32 → Mm → Nat → Nat → Nat → Prop) (Q : Int32 → Mm → Nat → Prop) (x1 : Nat) (x2 : Nat) (x3 : Nat) (x4 : Int32) (w : Mm) (z : Nat) (mc : Nat) (ms : Nat) : Prop :=
  ∃ n651 f650, arI w a0 0 = some (n651, f650) ∧ vp_in ((x4 + 1)) n651 ∧ ∃ n653 f652, arI w a0 0 = some (n653, f652) ∧ vp_in ((x4 + 2)) n653 ∧ ∃ k657 k658, k657 ≤ mc ∧ k658 ≤ ms ∧ F_L_zonesBetween x1 ((f650 ((x4 + 1) : Int32).toNatClampNeg)) ((f652 ((x4 + 2) : Int32).toNatClampNeg)) x3 w z k657 k658 (fun r654 w655 z656 => ∃ n660 f659, arI w655 a0 0 = some (n660, f659) ∧ vp_in ((x4 + 1)) n660 ∧ ∃ n662 f661, arI w655 a0 0 = some (n662, f661) ∧ vp_in ((x4 + 2)) n662 ∧ isO w655 x2 10 ∧ F_X6_zonesBetween x2 ((f659 ((x4 + 1) : Int32).toNatClampNeg)) ((f661 ((x4 + 2) : Int32).toNatClampNeg)) w655 z656 (fun r664 w665 z666 => isO w665 x2 10 ∧ F_X6_thrown x2 w665 z666 (fun r668 w669 z670 => (r668 = r654 → (¬ r654 = 0 → B_L_law_1301 a0 K23 Q x1 x2 x3 x4 w669 z670 ((mc - k657)) ((ms - k658))) ∧
  (r654 = 0 → ∃ n674 f673, arL w669 x3 = some (n674, f673) ∧ vp_in 0 n674 ∧ (((lg_cmp ((f673 (0 : Int32).toNatClampNeg)) ((r664 : Int32).toInt64))) = 0 → B_L_law_1301 a0 K23 Q x1 x2 x3 x4 w669 z670 ((mc - k657)) ((ms - k658))) ∧
  (¬ ((lg_cmp ((f673 (0 : Int32).toNatClampNeg)) ((r664 : Int32).toInt64))) = 0 → Q 0 w669 z670))) ∧
  (¬ r668 = r654 → Q 0 w669 z670))))
set_option maxRecDepth 100000 in
set_option maxHeartbeats 4000000 in
theorem pB_L_law_1236 {C : Cx} {d : Nat} {a0 : Nat} {K23 : Nat → Nat → Nat → Int32 → Mm → Nat → Nat → Nat → Prop} (hX : CX C cL_law RL 9 (some .boolean) [] (d + 11)) (hE : EL C) (hK23 : ∀ (x1 : Nat) (x2 : Nat) (x3 : Nat) (x4 : Int32) (w : Mm) (z mc ms : Nat), K23 x1 x2 x3 x4 w z mc ms → VW C 23 [(0, .ref (a0)), (1, .ref (x1)), (2, .ref (x2)), (3, .ref (x3)), (4, .int (x4))] [] w z mc ms) : ∀ (x1 : Nat) (x2 : Nat) (x3 : Nat) (x4 : Int32) (w : Mm) (z mc ms : Nat), B_L_law_1236 a0 K23 lawQ x1 x2 x3 x4 w z mc ms → VW C 1236 [(0, .ref (a0)), (1, .ref (x1)), (2, .ref (x2)), (3, .ref (x3)), (4, .int (x4))] [] w z mc ms := by
  intro x1 x2 x3 x4 w z mc ms h
  unfold B_L_law_1236 at h
  refine vw_aload_n hX 1 dL_law_1236 rfl ?_
  refine vw_aload_n hX 0 dL_law_1237 rfl ?_
  refine vw_iload hX 4 dL_law_1238 rfl ?_
  refine vw_iconst hX (v := 1) dL_law_1240 (by decide) ?_
  refine vw_iadd hX dL_law_1241 ?_
  obtain ⟨n651, f650, hf650, hif650, h⟩ := h
  refine vw_iald hX hf650 hif650 dL_law_1242 ?_
  refine vw_aload_n hX 0 dL_law_1243 rfl ?_
  refine vw_iload hX 4 dL_law_1244 rfl ?_
  refine vw_iconst hX (v := 2) dL_law_1246 (by decide) ?_
  refine vw_iadd hX dL_law_1247 ?_
  obtain ⟨n653, f652, hf652, hif652, h⟩ := h
  refine vw_iald hX hf652 hif652 dL_law_1248 ?_
  refine vw_aload_n hX 3 dL_law_1249 rfl ?_
  obtain ⟨k657, k658, hm1, hm2, h⟩ := h
  refine s_L_234 hX dL_law_1250 (Nat.le_of_ble_eq_true rfl) hm1 hm2 (ct_L_zonesBetween (d := d + 2) (lst hX) h) (fun r654 w655 z656 h => ?_)
  refine vw_istore hX dL_law_1253 (by decide) rfl ?_
  refine vw_aload_n hX 3 dL_law_1255 rfl ?_
  refine vw_aload_n hX 1 dL_law_1256 rfl ?_
  refine vw_iload hX 5 dL_law_1257 rfl ?_
  refine vw_iconst hX (v := 1) dL_law_1259 (by decide) ?_
  refine vw_iadd hX dL_law_1260 ?_
  obtain ⟨n660, f659, hf659, hif659, h⟩ := h
  refine vw_iald hX hf659 hif659 dL_law_1261 ?_
  refine vw_aload_n hX 1 dL_law_1262 rfl ?_
  refine vw_iload hX 5 dL_law_1263 rfl ?_
  refine vw_iconst hX (v := 2) dL_law_1265 (by decide) ?_
  refine vw_iadd hX dL_law_1266 ?_
  obtain ⟨n662, f661, hf661, hif661, h⟩ := h
  refine vw_iald hX hf661 hif661 dL_law_1267 ?_
  obtain ⟨hr663, h⟩ := h
  refine s_L_236 hX hr663 dL_law_1268 (Nat.le_of_ble_eq_true rfl) (ct_X6_zonesBetween (d := d + 8) (lst hX) h) (fun r664 w665 z666 h => ?_)
  refine vw_istore hX dL_law_1271 (by decide) rfl ?_
  refine vw_aload_n hX 4 dL_law_1273 rfl ?_
  obtain ⟨hr667, h⟩ := h
  refine s_L_150 hX hr667 dL_law_1274 (Nat.le_of_ble_eq_true rfl) (ct_X6_thrown (d := d + 10) (lst hX) h) (fun r668 w669 z670 h => ?_)
  refine vw_iload hX 1 dL_law_1277 rfl ?_
  refine vw_icmp_eq hX (tgt := 1284) dL_law_1279 (by decide) (fun c671 => ?_) (fun c671 => ?_)
  · have h := h.1 c671
    refine vw_iload hX 1 dL_law_1284 rfl ?_
    refine vw_if_ne hX (tgt := 1301) dL_law_1286 (by decide) (fun c672 => ?_) (fun c672 => ?_)
    · have h := h.1 c672
      exact vw_sub [2, 3, 4, 5, 6] rfl (pB_L_law_1301 hX hE hK23 _ _ _ _ _ _ _ _ h)
    · have h := h.2 c672
      refine vw_aload_n hX 5 dL_law_1289 rfl ?_
      refine vw_iconst hX (v := 0) dL_law_1290 (by decide) ?_
      obtain ⟨n674, f673, hf673, hif673, h⟩ := h
      refine vw_lald hX hf673 hif673 dL_law_1291 ?_
      refine vw_iload hX 0 dL_law_1292 rfl ?_
      refine vw_i2l hX dL_law_1294 ?_
      refine vw_lcmp hX dL_law_1295 ?_
      refine vw_if_eq hX (tgt := 1301) dL_law_1296 (by decide) (fun c675 => ?_) (fun c675 => ?_)
      · have h := h.1 c675
        exact vw_sub [2, 3, 4, 5, 6] rfl (pB_L_law_1301 hX hE hK23 _ _ _ _ _ _ _ _ h)
      · have h := h.2 c675
        refine vw_iconst hX (v := 0) dL_law_1299 (by decide) ?_
        exact vw_lawret hX hE dL_law_1300 h
  · have h := h.2 c671
    refine vw_iconst hX (v := 0) dL_law_1282 (by decide) ?_
    exact vw_lawret hX hE dL_law_1283 h
def B_L_law_1233 (a0 : Nat) (K23 : Nat → Nat → Nat → Int32 → Mm → Nat → Nat → Nat → Prop) (Q : Int32 → Mm → Nat → Prop) (x1 : Nat) (x2 : Nat) (x3 : Nat) (x4 : Int32) (w : Mm) (z : Nat) (mc : Nat) (ms : Nat) : Prop :=
  B_L_law_2935 a0 K23 Q x1 x2 x3 x4 w z mc ms
set_option maxRecDepth 100000 in
set_option maxHeartbeats 4000000 in
theorem pB_L_law_1233 {C : Cx} {d : Nat} {a0 : Nat} {K23 : Nat → Nat → Nat → Int32 → Mm → Nat → Nat → Nat → Prop} (hX : CX C cL_law RL 9 (some .boolean) [] (d + 11)) (hE : EL C) (hK23 : ∀ (x1 : Nat) (x2 : Nat) (x3 : Nat) (x4 : Int32) (w : Mm) (z mc ms : Nat), K23 x1 x2 x3 x4 w z mc ms → VW C 23 [(0, .ref (a0)), (1, .ref (x1)), (2, .ref (x2)), (3, .ref (x3)), (4, .int (x4))] [] w z mc ms) : ∀ (x1 : Nat) (x2 : Nat) (x3 : Nat) (x4 : Int32) (w : Mm) (z mc ms : Nat), B_L_law_1233 a0 K23 lawQ x1 x2 x3 x4 w z mc ms → VW C 1233 [(0, .ref (a0)), (1, .ref (x1)), (2, .ref (x2)), (3, .ref (x3)), (4, .int (x4))] [] w z mc ms := by
  intro x1 x2 x3 x4 w z mc ms h
  unfold B_L_law_1233 at h
  refine vw_goto hX (tgt := 2935) dL_law_1233 (by decide) ?_
  exact pB_L_law_2935 hX hE hK23 _ _ _ _ _ _ _ _ h
def B_L_law_1180 (a0 : Nat) (K23 : Nat → Nat → Nat → Int32 → Mm → Nat → Nat → Nat → Prop) (Q : Int32 → Mm → Nat → Prop) (x1 : Nat) (x2 : Nat) (x3 : Nat) (x4 : Int32) (w : Mm) (z : Nat) (mc : Nat) (ms : Nat) : Prop :=
  ∃ n677 f676, arI w a0 0 = some (n677, f676) ∧ vp_in ((x4 + 1)) n677 ∧ ∃ k681 k682, k681 ≤ mc ∧ k682 ≤ ms ∧ F_L_zone x1 ((f676 ((x4 + 1) : Int32).toNatClampNeg)) x3 w z k681 k682 (fun r678 w679 z680 => ∃ n684 f683, arI w679 a0 0 = some (n684, f683) ∧ vp_in ((x4 + 1)) n684 ∧ isO w679 x2 10 ∧ F_X6_zone x2 ((f683 ((x4 + 1) : Int32).toNatClampNeg)) w679 z680 (fun r686 w687 z688 => isO w687 x2 10 ∧ F_X6_thrown x2 w687 z688 (fun r690 w691 z692 => (r690 = r678 → (¬ r678 = 0 → B_L_law_1233 a0 K23 Q x1 x2 x3 x4 w691 z692 ((mc - k681)) ((ms - k682))) ∧
  (r678 = 0 → ∃ n696 f695, arL w691 x3 = some (n696, f695) ∧ vp_in 0 n696 ∧ (((lg_cmp ((f695 (0 : Int32).toNatClampNeg)) ((r686 : Int32).toInt64))) = 0 → B_L_law_1233 a0 K23 Q x1 x2 x3 x4 w691 z692 ((mc - k681)) ((ms - k682))) ∧
  (¬ ((lg_cmp ((f695 (0 : Int32).toNatClampNeg)) ((r686 : Int32).toInt64))) = 0 → Q 0 w691 z692))) ∧
  (¬ r690 = r678 → Q 0 w691 z692))))
set_option maxRecDepth 100000 in
set_option maxHeartbeats 4000000 in
theorem pB_L_law_1180 {C : Cx} {d : Nat} {a0 : Nat} {K23 : Nat → Nat → Nat → Int32 → Mm → Nat → Nat → Nat → Prop} (hX : CX C cL_law RL 9 (some .boolean) [] (d + 11)) (hE : EL C) (hK23 : ∀ (x1 : Nat) (x2 : Nat) (x3 : Nat) (x4 : Int32) (w : Mm) (z mc ms : Nat), K23 x1 x2 x3 x4 w z mc ms → VW C 23 [(0, .ref (a0)), (1, .ref (x1)), (2, .ref (x2)), (3, .ref (x3)), (4, .int (x4))] [] w z mc ms) : ∀ (x1 : Nat) (x2 : Nat) (x3 : Nat) (x4 : Int32) (w : Mm) (z mc ms : Nat), B_L_law_1180 a0 K23 lawQ x1 x2 x3 x4 w z mc ms → VW C 1180 [(0, .ref (a0)), (1, .ref (x1)), (2, .ref (x2)), (3, .ref (x3)), (4, .int (x4))] [] w z mc ms := by
  intro x1 x2 x3 x4 w z mc ms h
  unfold B_L_law_1180 at h
  refine vw_aload_n hX 1 dL_law_1180 rfl ?_
  refine vw_aload_n hX 0 dL_law_1181 rfl ?_
  refine vw_iload hX 4 dL_law_1182 rfl ?_
  refine vw_iconst hX (v := 1) dL_law_1184 (by decide) ?_
  refine vw_iadd hX dL_law_1185 ?_
  obtain ⟨n677, f676, hf676, hif676, h⟩ := h
  refine vw_iald hX hf676 hif676 dL_law_1186 ?_
  refine vw_aload_n hX 3 dL_law_1187 rfl ?_
  obtain ⟨k681, k682, hm1, hm2, h⟩ := h
  refine s_L_231 hX dL_law_1188 (Nat.le_of_ble_eq_true rfl) hm1 hm2 (ct_L_zone (d := d + 2) (lst hX) h) (fun r678 w679 z680 h => ?_)
  refine vw_istore hX dL_law_1191 (by decide) rfl ?_
  refine vw_aload_n hX 3 dL_law_1193 rfl ?_
  refine vw_aload_n hX 1 dL_law_1194 rfl ?_
  refine vw_iload hX 5 dL_law_1195 rfl ?_
  refine vw_iconst hX (v := 1) dL_law_1197 (by decide) ?_
  refine vw_iadd hX dL_law_1198 ?_
  obtain ⟨n684, f683, hf683, hif683, h⟩ := h
  refine vw_iald hX hf683 hif683 dL_law_1199 ?_
  obtain ⟨hr685, h⟩ := h
  refine s_L_233 hX hr685 dL_law_1200 (Nat.le_of_ble_eq_true rfl) (ct_X6_zone (d := d + 8) (lst hX) h) (fun r686 w687 z688 h => ?_)
  refine vw_istore hX dL_law_1203 (by decide) rfl ?_
  refine vw_aload_n hX 4 dL_law_1205 rfl ?_
  obtain ⟨hr689, h⟩ := h
  refine s_L_150 hX hr689 dL_law_1206 (Nat.le_of_ble_eq_true rfl) (ct_X6_thrown (d := d + 10) (lst hX) h) (fun r690 w691 z692 h => ?_)
  refine vw_iload hX 1 dL_law_1209 rfl ?_
  refine vw_icmp_eq hX (tgt := 1216) dL_law_1211 (by decide) (fun c693 => ?_) (fun c693 => ?_)
  · have h := h.1 c693
    refine vw_iload hX 1 dL_law_1216 rfl ?_
    refine vw_if_ne hX (tgt := 1233) dL_law_1218 (by decide) (fun c694 => ?_) (fun c694 => ?_)
    · have h := h.1 c694
      exact vw_sub [2, 3, 4, 5, 6] rfl (pB_L_law_1233 hX hE hK23 _ _ _ _ _ _ _ _ h)
    · have h := h.2 c694
      refine vw_aload_n hX 5 dL_law_1221 rfl ?_
      refine vw_iconst hX (v := 0) dL_law_1222 (by decide) ?_
      obtain ⟨n696, f695, hf695, hif695, h⟩ := h
      refine vw_lald hX hf695 hif695 dL_law_1223 ?_
      refine vw_iload hX 0 dL_law_1224 rfl ?_
      refine vw_i2l hX dL_law_1226 ?_
      refine vw_lcmp hX dL_law_1227 ?_
      refine vw_if_eq hX (tgt := 1233) dL_law_1228 (by decide) (fun c697 => ?_) (fun c697 => ?_)
      · have h := h.1 c697
        exact vw_sub [2, 3, 4, 5, 6] rfl (pB_L_law_1233 hX hE hK23 _ _ _ _ _ _ _ _ h)
      · have h := h.2 c697
        refine vw_iconst hX (v := 0) dL_law_1231 (by decide) ?_
        exact vw_lawret hX hE dL_law_1232 h
  · have h := h.2 c693
    refine vw_iconst hX (v := 0) dL_law_1214 (by decide) ?_
    exact vw_lawret hX hE dL_law_1215 h
def B_L_law_1167 (a0 : Nat) (K23 : Nat → Nat → Nat → Int32 → Mm → Nat → Nat → Nat → Prop) (Q : Int32 → Mm → Nat → Prop) (x1 : Nat) (x2 : Nat) (x3 : Nat) (x4 : Int32) (w : Mm) (z : Nat) (mc : Nat) (ms : Nat) : Prop :=
  isO w x1 9 ∧ F_X5_undoableChanges x1 w z (fun r699 w700 z701 => isO w700 x2 10 ∧ F_X6_undoableChanges x2 w700 z701 (fun r703 w704 z705 => (r699 = r703 → B_L_law_2935 a0 K23 Q x1 x2 x3 x4 w704 z705 mc ms) ∧
  (¬ r699 = r703 → Q 0 w704 z705)))
set_option maxRecDepth 100000 in
set_option maxHeartbeats 4000000 in
theorem pB_L_law_1167 {C : Cx} {d : Nat} {a0 : Nat} {K23 : Nat → Nat → Nat → Int32 → Mm → Nat → Nat → Nat → Prop} (hX : CX C cL_law RL 9 (some .boolean) [] (d + 11)) (hE : EL C) (hK23 : ∀ (x1 : Nat) (x2 : Nat) (x3 : Nat) (x4 : Int32) (w : Mm) (z mc ms : Nat), K23 x1 x2 x3 x4 w z mc ms → VW C 23 [(0, .ref (a0)), (1, .ref (x1)), (2, .ref (x2)), (3, .ref (x3)), (4, .int (x4))] [] w z mc ms) : ∀ (x1 : Nat) (x2 : Nat) (x3 : Nat) (x4 : Int32) (w : Mm) (z mc ms : Nat), B_L_law_1167 a0 K23 lawQ x1 x2 x3 x4 w z mc ms → VW C 1167 [(0, .ref (a0)), (1, .ref (x1)), (2, .ref (x2)), (3, .ref (x3)), (4, .int (x4))] [] w z mc ms := by
  intro x1 x2 x3 x4 w z mc ms h
  unfold B_L_law_1167 at h
  refine vw_aload_n hX 1 dL_law_1167 rfl ?_
  obtain ⟨hr698, h⟩ := h
  refine s_L_227 hX hr698 dL_law_1168 (Nat.le_of_ble_eq_true rfl) (ct_X5_undoableChanges (d := d + 10) (lst hX) h) (fun r699 w700 z701 h => ?_)
  refine vw_aload_n hX 2 dL_law_1171 rfl ?_
  obtain ⟨hr702, h⟩ := h
  refine s_L_230 hX hr702 dL_law_1172 (Nat.le_of_ble_eq_true rfl) (ct_X6_undoableChanges (d := d + 9) (lst hX) h) (fun r703 w704 z705 h => ?_)
  refine vw_icmp_eq hX (tgt := 2935) dL_law_1175 (by decide) (fun c706 => ?_) (fun c706 => ?_)
  · have h := h.1 c706
    exact pB_L_law_2935 hX hE hK23 _ _ _ _ _ _ _ _ h
  · have h := h.2 c706
    refine vw_iconst hX (v := 0) dL_law_1178 (by decide) ?_
    exact vw_lawret hX hE dL_law_1179 h
def B_L_law_1154 (a0 : Nat) (K23 : Nat → Nat → Nat → Int32 → Mm → Nat → Nat → Nat → Prop) (Q : Int32 → Mm → Nat → Prop) (x1 : Nat) (x2 : Nat) (x3 : Nat) (x4 : Int32) (w : Mm) (z : Nat) (mc : Nat) (ms : Nat) : Prop :=
  isO w x1 9 ∧ F_X5_caseCount x1 w z (fun r708 w709 z710 => isO w709 x2 10 ∧ F_X6_caseCount x2 w709 z710 (fun r712 w713 z714 => (r708 = r712 → B_L_law_2935 a0 K23 Q x1 x2 x3 x4 w713 z714 mc ms) ∧
  (¬ r708 = r712 → Q 0 w713 z714)))
set_option maxRecDepth 100000 in
set_option maxHeartbeats 4000000 in
theorem pB_L_law_1154 {C : Cx} {d : Nat} {a0 : Nat} {K23 : Nat → Nat → Nat → Int32 → Mm → Nat → Nat → Nat → Prop} (hX : CX C cL_law RL 9 (some .boolean) [] (d + 11)) (hE : EL C) (hK23 : ∀ (x1 : Nat) (x2 : Nat) (x3 : Nat) (x4 : Int32) (w : Mm) (z mc ms : Nat), K23 x1 x2 x3 x4 w z mc ms → VW C 23 [(0, .ref (a0)), (1, .ref (x1)), (2, .ref (x2)), (3, .ref (x3)), (4, .int (x4))] [] w z mc ms) : ∀ (x1 : Nat) (x2 : Nat) (x3 : Nat) (x4 : Int32) (w : Mm) (z mc ms : Nat), B_L_law_1154 a0 K23 lawQ x1 x2 x3 x4 w z mc ms → VW C 1154 [(0, .ref (a0)), (1, .ref (x1)), (2, .ref (x2)), (3, .ref (x3)), (4, .int (x4))] [] w z mc ms := by
  intro x1 x2 x3 x4 w z mc ms h
  unfold B_L_law_1154 at h
  refine vw_aload_n hX 1 dL_law_1154 rfl ?_
  obtain ⟨hr707, h⟩ := h
  refine s_L_223 hX hr707 dL_law_1155 (Nat.le_of_ble_eq_true rfl) (ct_X5_caseCount (d := d + 10) (lst hX) h) (fun r708 w709 z710 h => ?_)
  refine vw_aload_n hX 2 dL_law_1158 rfl ?_
  obtain ⟨hr711, h⟩ := h
  refine s_L_226 hX hr711 dL_law_1159 (Nat.le_of_ble_eq_true rfl) (ct_X6_caseCount (d := d + 9) (lst hX) h) (fun r712 w713 z714 h => ?_)
  refine vw_icmp_eq hX (tgt := 2935) dL_law_1162 (by decide) (fun c715 => ?_) (fun c715 => ?_)
  · have h := h.1 c715
    exact pB_L_law_2935 hX hE hK23 _ _ _ _ _ _ _ _ h
  · have h := h.2 c715
    refine vw_iconst hX (v := 0) dL_law_1165 (by decide) ?_
    exact vw_lawret hX hE dL_law_1166 h
def B_L_law_1141 (a0 : Nat) (K23 : Nat → Nat → Nat → Int32 → Mm → Nat → Nat → Nat → Prop) (Q : Int32 → Mm → Nat → Prop) (x1 : Nat) (x2 : Nat) (x3 : Nat) (x4 : Int32) (w : Mm) (z : Nat) (mc : Nat) (ms : Nat) : Prop :=
  isO w x1 9 ∧ F_X5_ticketCount x1 w z (fun r717 w718 z719 => isO w718 x2 10 ∧ F_X6_ticketCount x2 w718 z719 (fun r721 w722 z723 => (r717 = r721 → B_L_law_2935 a0 K23 Q x1 x2 x3 x4 w722 z723 mc ms) ∧
  (¬ r717 = r721 → Q 0 w722 z723)))
set_option maxRecDepth 100000 in
set_option maxHeartbeats 4000000 in
theorem pB_L_law_1141 {C : Cx} {d : Nat} {a0 : Nat} {K23 : Nat → Nat → Nat → Int32 → Mm → Nat → Nat → Nat → Prop} (hX : CX C cL_law RL 9 (some .boolean) [] (d + 11)) (hE : EL C) (hK23 : ∀ (x1 : Nat) (x2 : Nat) (x3 : Nat) (x4 : Int32) (w : Mm) (z mc ms : Nat), K23 x1 x2 x3 x4 w z mc ms → VW C 23 [(0, .ref (a0)), (1, .ref (x1)), (2, .ref (x2)), (3, .ref (x3)), (4, .int (x4))] [] w z mc ms) : ∀ (x1 : Nat) (x2 : Nat) (x3 : Nat) (x4 : Int32) (w : Mm) (z mc ms : Nat), B_L_law_1141 a0 K23 lawQ x1 x2 x3 x4 w z mc ms → VW C 1141 [(0, .ref (a0)), (1, .ref (x1)), (2, .ref (x2)), (3, .ref (x3)), (4, .int (x4))] [] w z mc ms := by
  intro x1 x2 x3 x4 w z mc ms h
  unfold B_L_law_1141 at h
  refine vw_aload_n hX 1 dL_law_1141 rfl ?_
  obtain ⟨hr716, h⟩ := h
  refine s_L_219 hX hr716 dL_law_1142 (Nat.le_of_ble_eq_true rfl) (ct_X5_ticketCount (d := d + 10) (lst hX) h) (fun r717 w718 z719 h => ?_)
  refine vw_aload_n hX 2 dL_law_1145 rfl ?_
  obtain ⟨hr720, h⟩ := h
  refine s_L_222 hX hr720 dL_law_1146 (Nat.le_of_ble_eq_true rfl) (ct_X6_ticketCount (d := d + 9) (lst hX) h) (fun r721 w722 z723 h => ?_)
  refine vw_icmp_eq hX (tgt := 2935) dL_law_1149 (by decide) (fun c724 => ?_) (fun c724 => ?_)
  · have h := h.1 c724
    exact pB_L_law_2935 hX hE hK23 _ _ _ _ _ _ _ _ h
  · have h := h.2 c724
    refine vw_iconst hX (v := 0) dL_law_1152 (by decide) ?_
    exact vw_lawret hX hE dL_law_1153 h
def B_L_law_1128 (a0 : Nat) (K23 : Nat → Nat → Nat → Int32 → Mm → Nat → Nat → Nat → Prop) (Q : Int32 → Mm → Nat → Prop) (x1 : Nat) (x2 : Nat) (x3 : Nat) (x4 : Int32) (w : Mm) (z : Nat) (mc : Nat) (ms : Nat) : Prop :=
  isO w x1 9 ∧ F_X5_passengerCount x1 w z (fun r726 w727 z728 => isO w727 x2 10 ∧ F_X6_passengerCount x2 w727 z728 (fun r730 w731 z732 => (r726 = r730 → B_L_law_2935 a0 K23 Q x1 x2 x3 x4 w731 z732 mc ms) ∧
  (¬ r726 = r730 → Q 0 w731 z732)))
set_option maxRecDepth 100000 in
set_option maxHeartbeats 4000000 in
theorem pB_L_law_1128 {C : Cx} {d : Nat} {a0 : Nat} {K23 : Nat → Nat → Nat → Int32 → Mm → Nat → Nat → Nat → Prop} (hX : CX C cL_law RL 9 (some .boolean) [] (d + 11)) (hE : EL C) (hK23 : ∀ (x1 : Nat) (x2 : Nat) (x3 : Nat) (x4 : Int32) (w : Mm) (z mc ms : Nat), K23 x1 x2 x3 x4 w z mc ms → VW C 23 [(0, .ref (a0)), (1, .ref (x1)), (2, .ref (x2)), (3, .ref (x3)), (4, .int (x4))] [] w z mc ms) : ∀ (x1 : Nat) (x2 : Nat) (x3 : Nat) (x4 : Int32) (w : Mm) (z mc ms : Nat), B_L_law_1128 a0 K23 lawQ x1 x2 x3 x4 w z mc ms → VW C 1128 [(0, .ref (a0)), (1, .ref (x1)), (2, .ref (x2)), (3, .ref (x3)), (4, .int (x4))] [] w z mc ms := by
  intro x1 x2 x3 x4 w z mc ms h
  unfold B_L_law_1128 at h
  refine vw_aload_n hX 1 dL_law_1128 rfl ?_
  obtain ⟨hr725, h⟩ := h
  refine s_L_215 hX hr725 dL_law_1129 (Nat.le_of_ble_eq_true rfl) (ct_X5_passengerCount (d := d + 10) (lst hX) h) (fun r726 w727 z728 h => ?_)
  refine vw_aload_n hX 2 dL_law_1132 rfl ?_
  obtain ⟨hr729, h⟩ := h
  refine s_L_218 hX hr729 dL_law_1133 (Nat.le_of_ble_eq_true rfl) (ct_X6_passengerCount (d := d + 9) (lst hX) h) (fun r730 w731 z732 h => ?_)
  refine vw_icmp_eq hX (tgt := 2935) dL_law_1136 (by decide) (fun c733 => ?_) (fun c733 => ?_)
  · have h := h.1 c733
    exact pB_L_law_2935 hX hE hK23 _ _ _ _ _ _ _ _ h
  · have h := h.2 c733
    refine vw_iconst hX (v := 0) dL_law_1139 (by decide) ?_
    exact vw_lawret hX hE dL_law_1140 h
def B_L_law_1115 (a0 : Nat) (K23 : Nat → Nat → Nat → Int32 → Mm → Nat → Nat → Nat → Prop) (Q : Int32 → Mm → Nat → Prop) (x1 : Nat) (x2 : Nat) (x3 : Nat) (x4 : Int32) (w : Mm) (z : Nat) (mc : Nat) (ms : Nat) : Prop :=
  isO w x1 9 ∧ F_X5_stopCount x1 w z (fun r735 w736 z737 => isO w736 x2 10 ∧ F_X6_stopCount x2 w736 z737 (fun r739 w740 z741 => (r735 = r739 → B_L_law_2935 a0 K23 Q x1 x2 x3 x4 w740 z741 mc ms) ∧
  (¬ r735 = r739 → Q 0 w740 z741)))
set_option maxRecDepth 100000 in
set_option maxHeartbeats 4000000 in
theorem pB_L_law_1115 {C : Cx} {d : Nat} {a0 : Nat} {K23 : Nat → Nat → Nat → Int32 → Mm → Nat → Nat → Nat → Prop} (hX : CX C cL_law RL 9 (some .boolean) [] (d + 11)) (hE : EL C) (hK23 : ∀ (x1 : Nat) (x2 : Nat) (x3 : Nat) (x4 : Int32) (w : Mm) (z mc ms : Nat), K23 x1 x2 x3 x4 w z mc ms → VW C 23 [(0, .ref (a0)), (1, .ref (x1)), (2, .ref (x2)), (3, .ref (x3)), (4, .int (x4))] [] w z mc ms) : ∀ (x1 : Nat) (x2 : Nat) (x3 : Nat) (x4 : Int32) (w : Mm) (z mc ms : Nat), B_L_law_1115 a0 K23 lawQ x1 x2 x3 x4 w z mc ms → VW C 1115 [(0, .ref (a0)), (1, .ref (x1)), (2, .ref (x2)), (3, .ref (x3)), (4, .int (x4))] [] w z mc ms := by
  intro x1 x2 x3 x4 w z mc ms h
  unfold B_L_law_1115 at h
  refine vw_aload_n hX 1 dL_law_1115 rfl ?_
  obtain ⟨hr734, h⟩ := h
  refine s_L_211 hX hr734 dL_law_1116 (Nat.le_of_ble_eq_true rfl) (ct_X5_stopCount (d := d + 10) (lst hX) h) (fun r735 w736 z737 h => ?_)
  refine vw_aload_n hX 2 dL_law_1119 rfl ?_
  obtain ⟨hr738, h⟩ := h
  refine s_L_214 hX hr738 dL_law_1120 (Nat.le_of_ble_eq_true rfl) (ct_X6_stopCount (d := d + 9) (lst hX) h) (fun r739 w740 z741 h => ?_)
  refine vw_icmp_eq hX (tgt := 2935) dL_law_1123 (by decide) (fun c742 => ?_) (fun c742 => ?_)
  · have h := h.1 c742
    exact pB_L_law_2935 hX hE hK23 _ _ _ _ _ _ _ _ h
  · have h := h.2 c742
    refine vw_iconst hX (v := 0) dL_law_1126 (by decide) ?_
    exact vw_lawret hX hE dL_law_1127 h
def B_L_law_1102 (a0 : Nat) (K23 : Nat → Nat → Nat → Int32 → Mm → Nat → Nat → Nat → Prop) (Q : Int32 → Mm → Nat → Prop) (x1 : Nat) (x2 : Nat) (x3 : Nat) (x4 : Int32) (w : Mm) (z : Nat) (mc : Nat) (ms : Nat) : Prop :=
  isO w x1 9 ∧ F_X5_day x1 w z (fun r744 w745 z746 => isO w745 x2 10 ∧ F_X6_day x2 w745 z746 (fun r748 w749 z750 => (r744 = r748 → B_L_law_2935 a0 K23 Q x1 x2 x3 x4 w749 z750 mc ms) ∧
  (¬ r744 = r748 → Q 0 w749 z750)))
set_option maxRecDepth 100000 in
set_option maxHeartbeats 4000000 in
theorem pB_L_law_1102 {C : Cx} {d : Nat} {a0 : Nat} {K23 : Nat → Nat → Nat → Int32 → Mm → Nat → Nat → Nat → Prop} (hX : CX C cL_law RL 9 (some .boolean) [] (d + 11)) (hE : EL C) (hK23 : ∀ (x1 : Nat) (x2 : Nat) (x3 : Nat) (x4 : Int32) (w : Mm) (z mc ms : Nat), K23 x1 x2 x3 x4 w z mc ms → VW C 23 [(0, .ref (a0)), (1, .ref (x1)), (2, .ref (x2)), (3, .ref (x3)), (4, .int (x4))] [] w z mc ms) : ∀ (x1 : Nat) (x2 : Nat) (x3 : Nat) (x4 : Int32) (w : Mm) (z mc ms : Nat), B_L_law_1102 a0 K23 lawQ x1 x2 x3 x4 w z mc ms → VW C 1102 [(0, .ref (a0)), (1, .ref (x1)), (2, .ref (x2)), (3, .ref (x3)), (4, .int (x4))] [] w z mc ms := by
  intro x1 x2 x3 x4 w z mc ms h
  unfold B_L_law_1102 at h
  refine vw_aload_n hX 1 dL_law_1102 rfl ?_
  obtain ⟨hr743, h⟩ := h
  refine s_L_207 hX hr743 dL_law_1103 (Nat.le_of_ble_eq_true rfl) (ct_X5_day (d := d + 9) (lst hX) h) (fun r744 w745 z746 h => ?_)
  refine vw_aload_n hX 2 dL_law_1106 rfl ?_
  obtain ⟨hr747, h⟩ := h
  refine s_L_210 hX hr747 dL_law_1107 (Nat.le_of_ble_eq_true rfl) (ct_X6_day (d := d + 9) (lst hX) h) (fun r748 w749 z750 h => ?_)
  refine vw_icmp_eq hX (tgt := 2935) dL_law_1110 (by decide) (fun c751 => ?_) (fun c751 => ?_)
  · have h := h.1 c751
    exact pB_L_law_2935 hX hE hK23 _ _ _ _ _ _ _ _ h
  · have h := h.2 c751
    refine vw_iconst hX (v := 0) dL_law_1113 (by decide) ?_
    exact vw_lawret hX hE dL_law_1114 h
def B_L_law_1089 (a0 : Nat) (K23 : Nat → Nat → Nat → Int32 → Mm → Nat → Nat → Nat → Prop) (Q : Int32 → Mm → Nat → Prop) (x1 : Nat) (x2 : Nat) (x3 : Nat) (x4 : Int32) (w : Mm) (z : Nat) (mc : Nat) (ms : Nat) : Prop :=
  isO w x1 9 ∧ F_X5_clock x1 w z (fun r753 w754 z755 => isO w754 x2 10 ∧ F_X6_clock x2 w754 z755 (fun r757 w758 z759 => (r753 = r757 → B_L_law_2935 a0 K23 Q x1 x2 x3 x4 w758 z759 mc ms) ∧
  (¬ r753 = r757 → Q 0 w758 z759)))
set_option maxRecDepth 100000 in
set_option maxHeartbeats 4000000 in
theorem pB_L_law_1089 {C : Cx} {d : Nat} {a0 : Nat} {K23 : Nat → Nat → Nat → Int32 → Mm → Nat → Nat → Nat → Prop} (hX : CX C cL_law RL 9 (some .boolean) [] (d + 11)) (hE : EL C) (hK23 : ∀ (x1 : Nat) (x2 : Nat) (x3 : Nat) (x4 : Int32) (w : Mm) (z mc ms : Nat), K23 x1 x2 x3 x4 w z mc ms → VW C 23 [(0, .ref (a0)), (1, .ref (x1)), (2, .ref (x2)), (3, .ref (x3)), (4, .int (x4))] [] w z mc ms) : ∀ (x1 : Nat) (x2 : Nat) (x3 : Nat) (x4 : Int32) (w : Mm) (z mc ms : Nat), B_L_law_1089 a0 K23 lawQ x1 x2 x3 x4 w z mc ms → VW C 1089 [(0, .ref (a0)), (1, .ref (x1)), (2, .ref (x2)), (3, .ref (x3)), (4, .int (x4))] [] w z mc ms := by
  intro x1 x2 x3 x4 w z mc ms h
  unfold B_L_law_1089 at h
  refine vw_aload_n hX 1 dL_law_1089 rfl ?_
  obtain ⟨hr752, h⟩ := h
  refine s_L_203 hX hr752 dL_law_1090 (Nat.le_of_ble_eq_true rfl) (ct_X5_clock (d := d + 10) (lst hX) h) (fun r753 w754 z755 h => ?_)
  refine vw_aload_n hX 2 dL_law_1093 rfl ?_
  obtain ⟨hr756, h⟩ := h
  refine s_L_206 hX hr756 dL_law_1094 (Nat.le_of_ble_eq_true rfl) (ct_X6_clock (d := d + 9) (lst hX) h) (fun r757 w758 z759 h => ?_)
  refine vw_icmp_eq hX (tgt := 2935) dL_law_1097 (by decide) (fun c760 => ?_) (fun c760 => ?_)
  · have h := h.1 c760
    exact pB_L_law_2935 hX hE hK23 _ _ _ _ _ _ _ _ h
  · have h := h.2 c760
    refine vw_iconst hX (v := 0) dL_law_1100 (by decide) ?_
    exact vw_lawret hX hE dL_law_1101 h
def B_L_law_1086 (a0 : Nat) (K23 : Nat → Nat → Nat → Int32 → Mm → Nat → Nat → Nat → Prop) (Q : Int32 → Mm → Nat → Prop) (x1 : Nat) (x2 : Nat) (x3 : Nat) (x4 : Int32) (w : Mm) (z : Nat) (mc : Nat) (ms : Nat) : Prop :=
  B_L_law_2935 a0 K23 Q x1 x2 x3 x4 w z mc ms
set_option maxRecDepth 100000 in
set_option maxHeartbeats 4000000 in
theorem pB_L_law_1086 {C : Cx} {d : Nat} {a0 : Nat} {K23 : Nat → Nat → Nat → Int32 → Mm → Nat → Nat → Nat → Prop} (hX : CX C cL_law RL 9 (some .boolean) [] (d + 11)) (hE : EL C) (hK23 : ∀ (x1 : Nat) (x2 : Nat) (x3 : Nat) (x4 : Int32) (w : Mm) (z mc ms : Nat), K23 x1 x2 x3 x4 w z mc ms → VW C 23 [(0, .ref (a0)), (1, .ref (x1)), (2, .ref (x2)), (3, .ref (x3)), (4, .int (x4))] [] w z mc ms) : ∀ (x1 : Nat) (x2 : Nat) (x3 : Nat) (x4 : Int32) (w : Mm) (z mc ms : Nat), B_L_law_1086 a0 K23 lawQ x1 x2 x3 x4 w z mc ms → VW C 1086 [(0, .ref (a0)), (1, .ref (x1)), (2, .ref (x2)), (3, .ref (x3)), (4, .int (x4))] [] w z mc ms := by
  intro x1 x2 x3 x4 w z mc ms h
  unfold B_L_law_1086 at h
  refine vw_goto hX (tgt := 2935) dL_law_1086 (by decide) ?_
  exact pB_L_law_2935 hX hE hK23 _ _ _ _ _ _ _ _ h
def B_L_law_1033 (a0 : Nat) (K23 : Nat → Nat → Nat → Int32 → Mm → Nat → Nat → Nat → Prop) (Q : Int32 → Mm → Nat → Prop) (x1 : Nat) (x2 : Nat) (x3 : Nat) (x4 : Int32) (w : Mm) (z : Nat) (mc : Nat) (ms : Nat) : Prop :=
  ∃ n762 f761, arI w a0 0 = some (n762, f761) ∧ vp_in ((x4 + 1)) n762 ∧ ∃ k766 k767, k766 ≤ mc ∧ k767 ≤ ms ∧ F_L_restore x1 ((f761 ((x4 + 1) : Int32).toNatClampNeg)) x3 w z k766 k767 (fun r763 w764 z765 => ∃ n769 f768, arI w764 a0 0 = some (n769, f768) ∧ vp_in ((x4 + 1)) n769 ∧ isO w764 x2 10 ∧ F_X6_restore x2 ((f768 ((x4 + 1) : Int32).toNatClampNeg)) w764 z765 (fun r771 w772 z773 => isO w772 x2 10 ∧ F_X6_thrown x2 w772 z773 (fun r775 w776 z777 => (r775 = r763 → (¬ r763 = 0 → B_L_law_1086 a0 K23 Q x1 x2 x3 x4 w776 z777 ((mc - k766)) ((ms - k767))) ∧
  (r763 = 0 → ∃ n781 f780, arL w776 x3 = some (n781, f780) ∧ vp_in 0 n781 ∧ (((lg_cmp ((f780 (0 : Int32).toNatClampNeg)) ((r771 : Int32).toInt64))) = 0 → B_L_law_1086 a0 K23 Q x1 x2 x3 x4 w776 z777 ((mc - k766)) ((ms - k767))) ∧
  (¬ ((lg_cmp ((f780 (0 : Int32).toNatClampNeg)) ((r771 : Int32).toInt64))) = 0 → Q 0 w776 z777))) ∧
  (¬ r775 = r763 → Q 0 w776 z777))))
set_option maxRecDepth 100000 in
set_option maxHeartbeats 4000000 in
theorem pB_L_law_1033 {C : Cx} {d : Nat} {a0 : Nat} {K23 : Nat → Nat → Nat → Int32 → Mm → Nat → Nat → Nat → Prop} (hX : CX C cL_law RL 9 (some .boolean) [] (d + 11)) (hE : EL C) (hK23 : ∀ (x1 : Nat) (x2 : Nat) (x3 : Nat) (x4 : Int32) (w : Mm) (z mc ms : Nat), K23 x1 x2 x3 x4 w z mc ms → VW C 23 [(0, .ref (a0)), (1, .ref (x1)), (2, .ref (x2)), (3, .ref (x3)), (4, .int (x4))] [] w z mc ms) : ∀ (x1 : Nat) (x2 : Nat) (x3 : Nat) (x4 : Int32) (w : Mm) (z mc ms : Nat), B_L_law_1033 a0 K23 lawQ x1 x2 x3 x4 w z mc ms → VW C 1033 [(0, .ref (a0)), (1, .ref (x1)), (2, .ref (x2)), (3, .ref (x3)), (4, .int (x4))] [] w z mc ms := by
  intro x1 x2 x3 x4 w z mc ms h
  unfold B_L_law_1033 at h
  refine vw_aload_n hX 1 dL_law_1033 rfl ?_
  refine vw_aload_n hX 0 dL_law_1034 rfl ?_
  refine vw_iload hX 4 dL_law_1035 rfl ?_
  refine vw_iconst hX (v := 1) dL_law_1037 (by decide) ?_
  refine vw_iadd hX dL_law_1038 ?_
  obtain ⟨n762, f761, hf761, hif761, h⟩ := h
  refine vw_iald hX hf761 hif761 dL_law_1039 ?_
  refine vw_aload_n hX 3 dL_law_1040 rfl ?_
  obtain ⟨k766, k767, hm1, hm2, h⟩ := h
  refine s_L_200 hX dL_law_1041 (Nat.le_of_ble_eq_true rfl) hm1 hm2 (ct_L_restore (d := d + 2) (lst hX) h) (fun r763 w764 z765 h => ?_)
  refine vw_istore hX dL_law_1044 (by decide) rfl ?_
  refine vw_aload_n hX 3 dL_law_1046 rfl ?_
  refine vw_aload_n hX 1 dL_law_1047 rfl ?_
  refine vw_iload hX 5 dL_law_1048 rfl ?_
  refine vw_iconst hX (v := 1) dL_law_1050 (by decide) ?_
  refine vw_iadd hX dL_law_1051 ?_
  obtain ⟨n769, f768, hf768, hif768, h⟩ := h
  refine vw_iald hX hf768 hif768 dL_law_1052 ?_
  obtain ⟨hr770, h⟩ := h
  refine s_L_202 hX hr770 dL_law_1053 (Nat.le_of_ble_eq_true rfl) (ct_X6_restore (d := d + 6) (lst hX) h) (fun r771 w772 z773 h => ?_)
  refine vw_istore hX dL_law_1056 (by decide) rfl ?_
  refine vw_aload_n hX 4 dL_law_1058 rfl ?_
  obtain ⟨hr774, h⟩ := h
  refine s_L_150 hX hr774 dL_law_1059 (Nat.le_of_ble_eq_true rfl) (ct_X6_thrown (d := d + 10) (lst hX) h) (fun r775 w776 z777 h => ?_)
  refine vw_iload hX 1 dL_law_1062 rfl ?_
  refine vw_icmp_eq hX (tgt := 1069) dL_law_1064 (by decide) (fun c778 => ?_) (fun c778 => ?_)
  · have h := h.1 c778
    refine vw_iload hX 1 dL_law_1069 rfl ?_
    refine vw_if_ne hX (tgt := 1086) dL_law_1071 (by decide) (fun c779 => ?_) (fun c779 => ?_)
    · have h := h.1 c779
      exact vw_sub [2, 3, 4, 5, 6] rfl (pB_L_law_1086 hX hE hK23 _ _ _ _ _ _ _ _ h)
    · have h := h.2 c779
      refine vw_aload_n hX 5 dL_law_1074 rfl ?_
      refine vw_iconst hX (v := 0) dL_law_1075 (by decide) ?_
      obtain ⟨n781, f780, hf780, hif780, h⟩ := h
      refine vw_lald hX hf780 hif780 dL_law_1076 ?_
      refine vw_iload hX 0 dL_law_1077 rfl ?_
      refine vw_i2l hX dL_law_1079 ?_
      refine vw_lcmp hX dL_law_1080 ?_
      refine vw_if_eq hX (tgt := 1086) dL_law_1081 (by decide) (fun c782 => ?_) (fun c782 => ?_)
      · have h := h.1 c782
        exact vw_sub [2, 3, 4, 5, 6] rfl (pB_L_law_1086 hX hE hK23 _ _ _ _ _ _ _ _ h)
      · have h := h.2 c782
        refine vw_iconst hX (v := 0) dL_law_1084 (by decide) ?_
        exact vw_lawret hX hE dL_law_1085 h
  · have h := h.2 c778
    refine vw_iconst hX (v := 0) dL_law_1067 (by decide) ?_
    exact vw_lawret hX hE dL_law_1068 h
def B_L_law_1030 (a0 : Nat) (K23 : Nat → Nat → Nat → Int32 → Mm → Nat → Nat → Nat → Prop) (Q : Int32 → Mm → Nat → Prop) (x1 : Nat) (x2 : Nat) (x3 : Nat) (x4 : Int32) (w : Mm) (z : Nat) (mc : Nat) (ms : Nat) : Prop :=
  B_L_law_2935 a0 K23 Q x1 x2 x3 x4 w z mc ms
set_option maxRecDepth 100000 in
set_option maxHeartbeats 4000000 in
theorem pB_L_law_1030 {C : Cx} {d : Nat} {a0 : Nat} {K23 : Nat → Nat → Nat → Int32 → Mm → Nat → Nat → Nat → Prop} (hX : CX C cL_law RL 9 (some .boolean) [] (d + 11)) (hE : EL C) (hK23 : ∀ (x1 : Nat) (x2 : Nat) (x3 : Nat) (x4 : Int32) (w : Mm) (z mc ms : Nat), K23 x1 x2 x3 x4 w z mc ms → VW C 23 [(0, .ref (a0)), (1, .ref (x1)), (2, .ref (x2)), (3, .ref (x3)), (4, .int (x4))] [] w z mc ms) : ∀ (x1 : Nat) (x2 : Nat) (x3 : Nat) (x4 : Int32) (w : Mm) (z mc ms : Nat), B_L_law_1030 a0 K23 lawQ x1 x2 x3 x4 w z mc ms → VW C 1030 [(0, .ref (a0)), (1, .ref (x1)), (2, .ref (x2)), (3, .ref (x3)), (4, .int (x4))] [] w z mc ms := by
  intro x1 x2 x3 x4 w z mc ms h
  unfold B_L_law_1030 at h
  refine vw_goto hX (tgt := 2935) dL_law_1030 (by decide) ?_
  exact pB_L_law_2935 hX hE hK23 _ _ _ _ _ _ _ _ h
def B_L_law_977 (a0 : Nat) (K23 : Nat → Nat → Nat → Int32 → Mm → Nat → Nat → Nat → Prop) (Q : Int32 → Mm → Nat → Prop) (x1 : Nat) (x2 : Nat) (x3 : Nat) (x4 : Int32) (w : Mm) (z : Nat) (mc : Nat) (ms : Nat) : Prop :=
  ∃ n784 f783, arI w a0 0 = some (n784, f783) ∧ vp_in ((x4 + 1)) n784 ∧ ∃ k788 k789, k788 ≤ mc ∧ k789 ≤ ms ∧ F_L_save x1 ((f783 ((x4 + 1) : Int32).toNatClampNeg)) x3 w z k788 k789 (fun r785 w786 z787 => ∃ n791 f790, arI w786 a0 0 = some (n791, f790) ∧ vp_in ((x4 + 1)) n791 ∧ isO w786 x2 10 ∧ F_X6_save x2 ((f790 ((x4 + 1) : Int32).toNatClampNeg)) w786 z787 (fun r793 w794 z795 => isO w794 x2 10 ∧ F_X6_thrown x2 w794 z795 (fun r797 w798 z799 => (r797 = r785 → (¬ r785 = 0 → B_L_law_1030 a0 K23 Q x1 x2 x3 x4 w798 z799 ((mc - k788)) ((ms - k789))) ∧
  (r785 = 0 → ∃ n803 f802, arL w798 x3 = some (n803, f802) ∧ vp_in 0 n803 ∧ (((lg_cmp ((f802 (0 : Int32).toNatClampNeg)) ((r793 : Int32).toInt64))) = 0 → B_L_law_1030 a0 K23 Q x1 x2 x3 x4 w798 z799 ((mc - k788)) ((ms - k789))) ∧
  (¬ ((lg_cmp ((f802 (0 : Int32).toNatClampNeg)) ((r793 : Int32).toInt64))) = 0 → Q 0 w798 z799))) ∧
  (¬ r797 = r785 → Q 0 w798 z799))))
set_option maxRecDepth 100000 in
set_option maxHeartbeats 4000000 in
theorem pB_L_law_977 {C : Cx} {d : Nat} {a0 : Nat} {K23 : Nat → Nat → Nat → Int32 → Mm → Nat → Nat → Nat → Prop} (hX : CX C cL_law RL 9 (some .boolean) [] (d + 11)) (hE : EL C) (hK23 : ∀ (x1 : Nat) (x2 : Nat) (x3 : Nat) (x4 : Int32) (w : Mm) (z mc ms : Nat), K23 x1 x2 x3 x4 w z mc ms → VW C 23 [(0, .ref (a0)), (1, .ref (x1)), (2, .ref (x2)), (3, .ref (x3)), (4, .int (x4))] [] w z mc ms) : ∀ (x1 : Nat) (x2 : Nat) (x3 : Nat) (x4 : Int32) (w : Mm) (z mc ms : Nat), B_L_law_977 a0 K23 lawQ x1 x2 x3 x4 w z mc ms → VW C 977 [(0, .ref (a0)), (1, .ref (x1)), (2, .ref (x2)), (3, .ref (x3)), (4, .int (x4))] [] w z mc ms := by
  intro x1 x2 x3 x4 w z mc ms h
  unfold B_L_law_977 at h
  refine vw_aload_n hX 1 dL_law_977 rfl ?_
  refine vw_aload_n hX 0 dL_law_978 rfl ?_
  refine vw_iload hX 4 dL_law_979 rfl ?_
  refine vw_iconst hX (v := 1) dL_law_981 (by decide) ?_
  refine vw_iadd hX dL_law_982 ?_
  obtain ⟨n784, f783, hf783, hif783, h⟩ := h
  refine vw_iald hX hf783 hif783 dL_law_983 ?_
  refine vw_aload_n hX 3 dL_law_984 rfl ?_
  obtain ⟨k788, k789, hm1, hm2, h⟩ := h
  refine s_L_197 hX dL_law_985 (Nat.le_of_ble_eq_true rfl) hm1 hm2 (ct_L_save (d := d + 2) (lst hX) h) (fun r785 w786 z787 h => ?_)
  refine vw_istore hX dL_law_988 (by decide) rfl ?_
  refine vw_aload_n hX 3 dL_law_990 rfl ?_
  refine vw_aload_n hX 1 dL_law_991 rfl ?_
  refine vw_iload hX 5 dL_law_992 rfl ?_
  refine vw_iconst hX (v := 1) dL_law_994 (by decide) ?_
  refine vw_iadd hX dL_law_995 ?_
  obtain ⟨n791, f790, hf790, hif790, h⟩ := h
  refine vw_iald hX hf790 hif790 dL_law_996 ?_
  obtain ⟨hr792, h⟩ := h
  refine s_L_199 hX hr792 dL_law_997 (Nat.le_of_ble_eq_true rfl) (ct_X6_save (d := d + 7) (lst hX) h) (fun r793 w794 z795 h => ?_)
  refine vw_istore hX dL_law_1000 (by decide) rfl ?_
  refine vw_aload_n hX 4 dL_law_1002 rfl ?_
  obtain ⟨hr796, h⟩ := h
  refine s_L_150 hX hr796 dL_law_1003 (Nat.le_of_ble_eq_true rfl) (ct_X6_thrown (d := d + 10) (lst hX) h) (fun r797 w798 z799 h => ?_)
  refine vw_iload hX 1 dL_law_1006 rfl ?_
  refine vw_icmp_eq hX (tgt := 1013) dL_law_1008 (by decide) (fun c800 => ?_) (fun c800 => ?_)
  · have h := h.1 c800
    refine vw_iload hX 1 dL_law_1013 rfl ?_
    refine vw_if_ne hX (tgt := 1030) dL_law_1015 (by decide) (fun c801 => ?_) (fun c801 => ?_)
    · have h := h.1 c801
      exact vw_sub [2, 3, 4, 5, 6] rfl (pB_L_law_1030 hX hE hK23 _ _ _ _ _ _ _ _ h)
    · have h := h.2 c801
      refine vw_aload_n hX 5 dL_law_1018 rfl ?_
      refine vw_iconst hX (v := 0) dL_law_1019 (by decide) ?_
      obtain ⟨n803, f802, hf802, hif802, h⟩ := h
      refine vw_lald hX hf802 hif802 dL_law_1020 ?_
      refine vw_iload hX 0 dL_law_1021 rfl ?_
      refine vw_i2l hX dL_law_1023 ?_
      refine vw_lcmp hX dL_law_1024 ?_
      refine vw_if_eq hX (tgt := 1030) dL_law_1025 (by decide) (fun c804 => ?_) (fun c804 => ?_)
      · have h := h.1 c804
        exact vw_sub [2, 3, 4, 5, 6] rfl (pB_L_law_1030 hX hE hK23 _ _ _ _ _ _ _ _ h)
      · have h := h.2 c804
        refine vw_iconst hX (v := 0) dL_law_1028 (by decide) ?_
        exact vw_lawret hX hE dL_law_1029 h
  · have h := h.2 c800
    refine vw_iconst hX (v := 0) dL_law_1011 (by decide) ?_
    exact vw_lawret hX hE dL_law_1012 h
def B_L_law_974 (a0 : Nat) (K23 : Nat → Nat → Nat → Int32 → Mm → Nat → Nat → Nat → Prop) (Q : Int32 → Mm → Nat → Prop) (x1 : Nat) (x2 : Nat) (x3 : Nat) (x4 : Int32) (w : Mm) (z : Nat) (mc : Nat) (ms : Nat) : Prop :=
  B_L_law_2935 a0 K23 Q x1 x2 x3 x4 w z mc ms
set_option maxRecDepth 100000 in
set_option maxHeartbeats 4000000 in
theorem pB_L_law_974 {C : Cx} {d : Nat} {a0 : Nat} {K23 : Nat → Nat → Nat → Int32 → Mm → Nat → Nat → Nat → Prop} (hX : CX C cL_law RL 9 (some .boolean) [] (d + 11)) (hE : EL C) (hK23 : ∀ (x1 : Nat) (x2 : Nat) (x3 : Nat) (x4 : Int32) (w : Mm) (z mc ms : Nat), K23 x1 x2 x3 x4 w z mc ms → VW C 23 [(0, .ref (a0)), (1, .ref (x1)), (2, .ref (x2)), (3, .ref (x3)), (4, .int (x4))] [] w z mc ms) : ∀ (x1 : Nat) (x2 : Nat) (x3 : Nat) (x4 : Int32) (w : Mm) (z mc ms : Nat), B_L_law_974 a0 K23 lawQ x1 x2 x3 x4 w z mc ms → VW C 974 [(0, .ref (a0)), (1, .ref (x1)), (2, .ref (x2)), (3, .ref (x3)), (4, .int (x4))] [] w z mc ms := by
  intro x1 x2 x3 x4 w z mc ms h
  unfold B_L_law_974 at h
  refine vw_goto hX (tgt := 2935) dL_law_974 (by decide) ?_
  exact pB_L_law_2935 hX hE hK23 _ _ _ _ _ _ _ _ h
def B_L_law_933 (a0 : Nat) (K23 : Nat → Nat → Nat → Int32 → Mm → Nat → Nat → Nat → Prop) (Q : Int32 → Mm → Nat → Prop) (x1 : Nat) (x2 : Nat) (x3 : Nat) (x4 : Int32) (w : Mm) (z : Nat) (mc : Nat) (ms : Nat) : Prop :=
  ∃ k808 k809, k808 ≤ mc ∧ k809 ≤ ms ∧ F_L_undo x1 x3 w z k808 k809 (fun r805 w806 z807 => isO w806 x2 10 ∧ F_X6_undo x2 w806 z807 (fun r811 w812 z813 => isO w812 x2 10 ∧ F_X6_thrown x2 w812 z813 (fun r815 w816 z817 => (r815 = r805 → (¬ r805 = 0 → B_L_law_974 a0 K23 Q x1 x2 x3 x4 w816 z817 ((mc - k808)) ((ms - k809))) ∧
  (r805 = 0 → ∃ n821 f820, arL w816 x3 = some (n821, f820) ∧ vp_in 0 n821 ∧ (((lg_cmp ((f820 (0 : Int32).toNatClampNeg)) ((r811 : Int32).toInt64))) = 0 → B_L_law_974 a0 K23 Q x1 x2 x3 x4 w816 z817 ((mc - k808)) ((ms - k809))) ∧
  (¬ ((lg_cmp ((f820 (0 : Int32).toNatClampNeg)) ((r811 : Int32).toInt64))) = 0 → Q 0 w816 z817))) ∧
  (¬ r815 = r805 → Q 0 w816 z817))))
set_option maxRecDepth 100000 in
set_option maxHeartbeats 4000000 in
theorem pB_L_law_933 {C : Cx} {d : Nat} {a0 : Nat} {K23 : Nat → Nat → Nat → Int32 → Mm → Nat → Nat → Nat → Prop} (hX : CX C cL_law RL 9 (some .boolean) [] (d + 11)) (hE : EL C) (hK23 : ∀ (x1 : Nat) (x2 : Nat) (x3 : Nat) (x4 : Int32) (w : Mm) (z mc ms : Nat), K23 x1 x2 x3 x4 w z mc ms → VW C 23 [(0, .ref (a0)), (1, .ref (x1)), (2, .ref (x2)), (3, .ref (x3)), (4, .int (x4))] [] w z mc ms) : ∀ (x1 : Nat) (x2 : Nat) (x3 : Nat) (x4 : Int32) (w : Mm) (z mc ms : Nat), B_L_law_933 a0 K23 lawQ x1 x2 x3 x4 w z mc ms → VW C 933 [(0, .ref (a0)), (1, .ref (x1)), (2, .ref (x2)), (3, .ref (x3)), (4, .int (x4))] [] w z mc ms := by
  intro x1 x2 x3 x4 w z mc ms h
  unfold B_L_law_933 at h
  refine vw_aload_n hX 1 dL_law_933 rfl ?_
  refine vw_aload_n hX 3 dL_law_934 rfl ?_
  obtain ⟨k808, k809, hm1, hm2, h⟩ := h
  refine s_L_193 hX dL_law_935 (Nat.le_of_ble_eq_true rfl) hm1 hm2 (ct_L_undo (d := d + 3) (lst hX) h) (fun r805 w806 z807 h => ?_)
  refine vw_istore hX dL_law_938 (by decide) rfl ?_
  refine vw_aload_n hX 3 dL_law_940 rfl ?_
  obtain ⟨hr810, h⟩ := h
  refine s_L_196 hX hr810 dL_law_941 (Nat.le_of_ble_eq_true rfl) (ct_X6_undo (d := d + 7) (lst hX) h) (fun r811 w812 z813 h => ?_)
  refine vw_istore hX dL_law_944 (by decide) rfl ?_
  refine vw_aload_n hX 4 dL_law_946 rfl ?_
  obtain ⟨hr814, h⟩ := h
  refine s_L_150 hX hr814 dL_law_947 (Nat.le_of_ble_eq_true rfl) (ct_X6_thrown (d := d + 10) (lst hX) h) (fun r815 w816 z817 h => ?_)
  refine vw_iload hX 1 dL_law_950 rfl ?_
  refine vw_icmp_eq hX (tgt := 957) dL_law_952 (by decide) (fun c818 => ?_) (fun c818 => ?_)
  · have h := h.1 c818
    refine vw_iload hX 1 dL_law_957 rfl ?_
    refine vw_if_ne hX (tgt := 974) dL_law_959 (by decide) (fun c819 => ?_) (fun c819 => ?_)
    · have h := h.1 c819
      exact vw_sub [2, 3, 4, 5, 6] rfl (pB_L_law_974 hX hE hK23 _ _ _ _ _ _ _ _ h)
    · have h := h.2 c819
      refine vw_aload_n hX 5 dL_law_962 rfl ?_
      refine vw_iconst hX (v := 0) dL_law_963 (by decide) ?_
      obtain ⟨n821, f820, hf820, hif820, h⟩ := h
      refine vw_lald hX hf820 hif820 dL_law_964 ?_
      refine vw_iload hX 0 dL_law_965 rfl ?_
      refine vw_i2l hX dL_law_967 ?_
      refine vw_lcmp hX dL_law_968 ?_
      refine vw_if_eq hX (tgt := 974) dL_law_969 (by decide) (fun c822 => ?_) (fun c822 => ?_)
      · have h := h.1 c822
        exact vw_sub [2, 3, 4, 5, 6] rfl (pB_L_law_974 hX hE hK23 _ _ _ _ _ _ _ _ h)
      · have h := h.2 c822
        refine vw_iconst hX (v := 0) dL_law_972 (by decide) ?_
        exact vw_lawret hX hE dL_law_973 h
  · have h := h.2 c818
    refine vw_iconst hX (v := 0) dL_law_955 (by decide) ?_
    exact vw_lawret hX hE dL_law_956 h
def B_L_law_930 (a0 : Nat) (K23 : Nat → Nat → Nat → Int32 → Mm → Nat → Nat → Nat → Prop) (Q : Int32 → Mm → Nat → Prop) (x1 : Nat) (x2 : Nat) (x3 : Nat) (x4 : Int32) (w : Mm) (z : Nat) (mc : Nat) (ms : Nat) : Prop :=
  B_L_law_2935 a0 K23 Q x1 x2 x3 x4 w z mc ms
set_option maxRecDepth 100000 in
set_option maxHeartbeats 4000000 in
theorem pB_L_law_930 {C : Cx} {d : Nat} {a0 : Nat} {K23 : Nat → Nat → Nat → Int32 → Mm → Nat → Nat → Nat → Prop} (hX : CX C cL_law RL 9 (some .boolean) [] (d + 11)) (hE : EL C) (hK23 : ∀ (x1 : Nat) (x2 : Nat) (x3 : Nat) (x4 : Int32) (w : Mm) (z mc ms : Nat), K23 x1 x2 x3 x4 w z mc ms → VW C 23 [(0, .ref (a0)), (1, .ref (x1)), (2, .ref (x2)), (3, .ref (x3)), (4, .int (x4))] [] w z mc ms) : ∀ (x1 : Nat) (x2 : Nat) (x3 : Nat) (x4 : Int32) (w : Mm) (z mc ms : Nat), B_L_law_930 a0 K23 lawQ x1 x2 x3 x4 w z mc ms → VW C 930 [(0, .ref (a0)), (1, .ref (x1)), (2, .ref (x2)), (3, .ref (x3)), (4, .int (x4))] [] w z mc ms := by
  intro x1 x2 x3 x4 w z mc ms h
  unfold B_L_law_930 at h
  refine vw_goto hX (tgt := 2935) dL_law_930 (by decide) ?_
  exact pB_L_law_2935 hX hE hK23 _ _ _ _ _ _ _ _ h
def B_L_law_877 (a0 : Nat) (K23 : Nat → Nat → Nat → Int32 → Mm → Nat → Nat → Nat → Prop) (Q : Int32 → Mm → Nat → Prop) (x1 : Nat) (x2 : Nat) (x3 : Nat) (x4 : Int32) (w : Mm) (z : Nat) (mc : Nat) (ms : Nat) : Prop :=
  ∃ n824 f823, arI w a0 0 = some (n824, f823) ∧ vp_in ((x4 + 1)) n824 ∧ ∃ k828 k829, k828 ≤ mc ∧ k829 ≤ ms ∧ F_L_pay x1 ((f823 ((x4 + 1) : Int32).toNatClampNeg)) x3 w z k828 k829 (fun r825 w826 z827 => ∃ n831 f830, arI w826 a0 0 = some (n831, f830) ∧ vp_in ((x4 + 1)) n831 ∧ isO w826 x2 10 ∧ F_X6_pay x2 ((f830 ((x4 + 1) : Int32).toNatClampNeg)) w826 z827 (fun r833 w834 z835 => isO w834 x2 10 ∧ F_X6_thrown x2 w834 z835 (fun r837 w838 z839 => (r837 = r825 → (¬ r825 = 0 → B_L_law_930 a0 K23 Q x1 x2 x3 x4 w838 z839 ((mc - k828)) ((ms - k829))) ∧
  (r825 = 0 → ∃ n843 f842, arL w838 x3 = some (n843, f842) ∧ vp_in 0 n843 ∧ (((lg_cmp ((f842 (0 : Int32).toNatClampNeg)) ((r833 : Int32).toInt64))) = 0 → B_L_law_930 a0 K23 Q x1 x2 x3 x4 w838 z839 ((mc - k828)) ((ms - k829))) ∧
  (¬ ((lg_cmp ((f842 (0 : Int32).toNatClampNeg)) ((r833 : Int32).toInt64))) = 0 → Q 0 w838 z839))) ∧
  (¬ r837 = r825 → Q 0 w838 z839))))
set_option maxRecDepth 100000 in
set_option maxHeartbeats 4000000 in
theorem pB_L_law_877 {C : Cx} {d : Nat} {a0 : Nat} {K23 : Nat → Nat → Nat → Int32 → Mm → Nat → Nat → Nat → Prop} (hX : CX C cL_law RL 9 (some .boolean) [] (d + 11)) (hE : EL C) (hK23 : ∀ (x1 : Nat) (x2 : Nat) (x3 : Nat) (x4 : Int32) (w : Mm) (z mc ms : Nat), K23 x1 x2 x3 x4 w z mc ms → VW C 23 [(0, .ref (a0)), (1, .ref (x1)), (2, .ref (x2)), (3, .ref (x3)), (4, .int (x4))] [] w z mc ms) : ∀ (x1 : Nat) (x2 : Nat) (x3 : Nat) (x4 : Int32) (w : Mm) (z mc ms : Nat), B_L_law_877 a0 K23 lawQ x1 x2 x3 x4 w z mc ms → VW C 877 [(0, .ref (a0)), (1, .ref (x1)), (2, .ref (x2)), (3, .ref (x3)), (4, .int (x4))] [] w z mc ms := by
  intro x1 x2 x3 x4 w z mc ms h
  unfold B_L_law_877 at h
  refine vw_aload_n hX 1 dL_law_877 rfl ?_
  refine vw_aload_n hX 0 dL_law_878 rfl ?_
  refine vw_iload hX 4 dL_law_879 rfl ?_
  refine vw_iconst hX (v := 1) dL_law_881 (by decide) ?_
  refine vw_iadd hX dL_law_882 ?_
  obtain ⟨n824, f823, hf823, hif823, h⟩ := h
  refine vw_iald hX hf823 hif823 dL_law_883 ?_
  refine vw_aload_n hX 3 dL_law_884 rfl ?_
  obtain ⟨k828, k829, hm1, hm2, h⟩ := h
  refine s_L_190 hX dL_law_885 (Nat.le_of_ble_eq_true rfl) hm1 hm2 (ct_L_pay (d := d + 2) (lst hX) h) (fun r825 w826 z827 h => ?_)
  refine vw_istore hX dL_law_888 (by decide) rfl ?_
  refine vw_aload_n hX 3 dL_law_890 rfl ?_
  refine vw_aload_n hX 1 dL_law_891 rfl ?_
  refine vw_iload hX 5 dL_law_892 rfl ?_
  refine vw_iconst hX (v := 1) dL_law_894 (by decide) ?_
  refine vw_iadd hX dL_law_895 ?_
  obtain ⟨n831, f830, hf830, hif830, h⟩ := h
  refine vw_iald hX hf830 hif830 dL_law_896 ?_
  obtain ⟨hr832, h⟩ := h
  refine s_L_192 hX hr832 dL_law_897 (Nat.le_of_ble_eq_true rfl) (ct_X6_pay (d := d + 6) (lst hX) h) (fun r833 w834 z835 h => ?_)
  refine vw_istore hX dL_law_900 (by decide) rfl ?_
  refine vw_aload_n hX 4 dL_law_902 rfl ?_
  obtain ⟨hr836, h⟩ := h
  refine s_L_150 hX hr836 dL_law_903 (Nat.le_of_ble_eq_true rfl) (ct_X6_thrown (d := d + 10) (lst hX) h) (fun r837 w838 z839 h => ?_)
  refine vw_iload hX 1 dL_law_906 rfl ?_
  refine vw_icmp_eq hX (tgt := 913) dL_law_908 (by decide) (fun c840 => ?_) (fun c840 => ?_)
  · have h := h.1 c840
    refine vw_iload hX 1 dL_law_913 rfl ?_
    refine vw_if_ne hX (tgt := 930) dL_law_915 (by decide) (fun c841 => ?_) (fun c841 => ?_)
    · have h := h.1 c841
      exact vw_sub [2, 3, 4, 5, 6] rfl (pB_L_law_930 hX hE hK23 _ _ _ _ _ _ _ _ h)
    · have h := h.2 c841
      refine vw_aload_n hX 5 dL_law_918 rfl ?_
      refine vw_iconst hX (v := 0) dL_law_919 (by decide) ?_
      obtain ⟨n843, f842, hf842, hif842, h⟩ := h
      refine vw_lald hX hf842 hif842 dL_law_920 ?_
      refine vw_iload hX 0 dL_law_921 rfl ?_
      refine vw_i2l hX dL_law_923 ?_
      refine vw_lcmp hX dL_law_924 ?_
      refine vw_if_eq hX (tgt := 930) dL_law_925 (by decide) (fun c844 => ?_) (fun c844 => ?_)
      · have h := h.1 c844
        exact vw_sub [2, 3, 4, 5, 6] rfl (pB_L_law_930 hX hE hK23 _ _ _ _ _ _ _ _ h)
      · have h := h.2 c844
        refine vw_iconst hX (v := 0) dL_law_928 (by decide) ?_
        exact vw_lawret hX hE dL_law_929 h
  · have h := h.2 c840
    refine vw_iconst hX (v := 0) dL_law_911 (by decide) ?_
    exact vw_lawret hX hE dL_law_912 h
def B_L_law_874 (a0 : Nat) (K23 : Nat → Nat → Nat → Int32 → Mm → Nat → Nat → Nat → Prop) (Q : Int32 → Mm → Nat → Prop) (x1 : Nat) (x2 : Nat) (x3 : Nat) (x4 : Int32) (w : Mm) (z : Nat) (mc : Nat) (ms : Nat) : Prop :=
  B_L_law_2935 a0 K23 Q x1 x2 x3 x4 w z mc ms
set_option maxRecDepth 100000 in
set_option maxHeartbeats 4000000 in
theorem pB_L_law_874 {C : Cx} {d : Nat} {a0 : Nat} {K23 : Nat → Nat → Nat → Int32 → Mm → Nat → Nat → Nat → Prop} (hX : CX C cL_law RL 9 (some .boolean) [] (d + 11)) (hE : EL C) (hK23 : ∀ (x1 : Nat) (x2 : Nat) (x3 : Nat) (x4 : Int32) (w : Mm) (z mc ms : Nat), K23 x1 x2 x3 x4 w z mc ms → VW C 23 [(0, .ref (a0)), (1, .ref (x1)), (2, .ref (x2)), (3, .ref (x3)), (4, .int (x4))] [] w z mc ms) : ∀ (x1 : Nat) (x2 : Nat) (x3 : Nat) (x4 : Int32) (w : Mm) (z mc ms : Nat), B_L_law_874 a0 K23 lawQ x1 x2 x3 x4 w z mc ms → VW C 874 [(0, .ref (a0)), (1, .ref (x1)), (2, .ref (x2)), (3, .ref (x3)), (4, .int (x4))] [] w z mc ms := by
  intro x1 x2 x3 x4 w z mc ms h
  unfold B_L_law_874 at h
  refine vw_goto hX (tgt := 2935) dL_law_874 (by decide) ?_
  exact pB_L_law_2935 hX hE hK23 _ _ _ _ _ _ _ _ h
def B_L_law_821 (a0 : Nat) (K23 : Nat → Nat → Nat → Int32 → Mm → Nat → Nat → Nat → Prop) (Q : Int32 → Mm → Nat → Prop) (x1 : Nat) (x2 : Nat) (x3 : Nat) (x4 : Int32) (w : Mm) (z : Nat) (mc : Nat) (ms : Nat) : Prop :=
  ∃ n846 f845, arI w a0 0 = some (n846, f845) ∧ vp_in ((x4 + 1)) n846 ∧ ∃ k850 k851, k850 ≤ mc ∧ k851 ≤ ms ∧ F_L_decide x1 ((f845 ((x4 + 1) : Int32).toNatClampNeg)) x3 w z k850 k851 (fun r847 w848 z849 => ∃ n853 f852, arI w848 a0 0 = some (n853, f852) ∧ vp_in ((x4 + 1)) n853 ∧ isO w848 x2 10 ∧ F_X6_decide x2 ((f852 ((x4 + 1) : Int32).toNatClampNeg)) w848 z849 (fun r855 w856 z857 => isO w856 x2 10 ∧ F_X6_thrown x2 w856 z857 (fun r859 w860 z861 => (r859 = r847 → (¬ r847 = 0 → B_L_law_874 a0 K23 Q x1 x2 x3 x4 w860 z861 ((mc - k850)) ((ms - k851))) ∧
  (r847 = 0 → ∃ n865 f864, arL w860 x3 = some (n865, f864) ∧ vp_in 0 n865 ∧ (((lg_cmp ((f864 (0 : Int32).toNatClampNeg)) ((r855 : Int32).toInt64))) = 0 → B_L_law_874 a0 K23 Q x1 x2 x3 x4 w860 z861 ((mc - k850)) ((ms - k851))) ∧
  (¬ ((lg_cmp ((f864 (0 : Int32).toNatClampNeg)) ((r855 : Int32).toInt64))) = 0 → Q 0 w860 z861))) ∧
  (¬ r859 = r847 → Q 0 w860 z861))))
set_option maxRecDepth 100000 in
set_option maxHeartbeats 4000000 in
theorem pB_L_law_821 {C : Cx} {d : Nat} {a0 : Nat} {K23 : Nat → Nat → Nat → Int32 → Mm → Nat → Nat → Nat → Prop} (hX : CX C cL_law RL 9 (some .boolean) [] (d + 11)) (hE : EL C) (hK23 : ∀ (x1 : Nat) (x2 : Nat) (x3 : Nat) (x4 : Int32) (w : Mm) (z mc ms : Nat), K23 x1 x2 x3 x4 w z mc ms → VW C 23 [(0, .ref (a0)), (1, .ref (x1)), (2, .ref (x2)), (3, .ref (x3)), (4, .int (x4))] [] w z mc ms) : ∀ (x1 : Nat) (x2 : Nat) (x3 : Nat) (x4 : Int32) (w : Mm) (z mc ms : Nat), B_L_law_821 a0 K23 lawQ x1 x2 x3 x4 w z mc ms → VW C 821 [(0, .ref (a0)), (1, .ref (x1)), (2, .ref (x2)), (3, .ref (x3)), (4, .int (x4))] [] w z mc ms := by
  intro x1 x2 x3 x4 w z mc ms h
  unfold B_L_law_821 at h
  refine vw_aload_n hX 1 dL_law_821 rfl ?_
  refine vw_aload_n hX 0 dL_law_822 rfl ?_
  refine vw_iload hX 4 dL_law_823 rfl ?_
  refine vw_iconst hX (v := 1) dL_law_825 (by decide) ?_
  refine vw_iadd hX dL_law_826 ?_
  obtain ⟨n846, f845, hf845, hif845, h⟩ := h
  refine vw_iald hX hf845 hif845 dL_law_827 ?_
  refine vw_aload_n hX 3 dL_law_828 rfl ?_
  obtain ⟨k850, k851, hm1, hm2, h⟩ := h
  refine s_L_187 hX dL_law_829 (Nat.le_of_ble_eq_true rfl) hm1 hm2 (ct_L_decide (d := d + 2) (lst hX) h) (fun r847 w848 z849 h => ?_)
  refine vw_istore hX dL_law_832 (by decide) rfl ?_
  refine vw_aload_n hX 3 dL_law_834 rfl ?_
  refine vw_aload_n hX 1 dL_law_835 rfl ?_
  refine vw_iload hX 5 dL_law_836 rfl ?_
  refine vw_iconst hX (v := 1) dL_law_838 (by decide) ?_
  refine vw_iadd hX dL_law_839 ?_
  obtain ⟨n853, f852, hf852, hif852, h⟩ := h
  refine vw_iald hX hf852 hif852 dL_law_840 ?_
  obtain ⟨hr854, h⟩ := h
  refine s_L_189 hX hr854 dL_law_841 (Nat.le_of_ble_eq_true rfl) (ct_X6_decide (d := d + 6) (lst hX) h) (fun r855 w856 z857 h => ?_)
  refine vw_istore hX dL_law_844 (by decide) rfl ?_
  refine vw_aload_n hX 4 dL_law_846 rfl ?_
  obtain ⟨hr858, h⟩ := h
  refine s_L_150 hX hr858 dL_law_847 (Nat.le_of_ble_eq_true rfl) (ct_X6_thrown (d := d + 10) (lst hX) h) (fun r859 w860 z861 h => ?_)
  refine vw_iload hX 1 dL_law_850 rfl ?_
  refine vw_icmp_eq hX (tgt := 857) dL_law_852 (by decide) (fun c862 => ?_) (fun c862 => ?_)
  · have h := h.1 c862
    refine vw_iload hX 1 dL_law_857 rfl ?_
    refine vw_if_ne hX (tgt := 874) dL_law_859 (by decide) (fun c863 => ?_) (fun c863 => ?_)
    · have h := h.1 c863
      exact vw_sub [2, 3, 4, 5, 6] rfl (pB_L_law_874 hX hE hK23 _ _ _ _ _ _ _ _ h)
    · have h := h.2 c863
      refine vw_aload_n hX 5 dL_law_862 rfl ?_
      refine vw_iconst hX (v := 0) dL_law_863 (by decide) ?_
      obtain ⟨n865, f864, hf864, hif864, h⟩ := h
      refine vw_lald hX hf864 hif864 dL_law_864 ?_
      refine vw_iload hX 0 dL_law_865 rfl ?_
      refine vw_i2l hX dL_law_867 ?_
      refine vw_lcmp hX dL_law_868 ?_
      refine vw_if_eq hX (tgt := 874) dL_law_869 (by decide) (fun c866 => ?_) (fun c866 => ?_)
      · have h := h.1 c866
        exact vw_sub [2, 3, 4, 5, 6] rfl (pB_L_law_874 hX hE hK23 _ _ _ _ _ _ _ _ h)
      · have h := h.2 c866
        refine vw_iconst hX (v := 0) dL_law_872 (by decide) ?_
        exact vw_lawret hX hE dL_law_873 h
  · have h := h.2 c862
    refine vw_iconst hX (v := 0) dL_law_855 (by decide) ?_
    exact vw_lawret hX hE dL_law_856 h
def B_L_law_818 (a0 : Nat) (K23 : Nat → Nat → Nat → Int32 → Mm → Nat → Nat → Nat → Prop) (Q : Int32 → Mm → Nat → Prop) (x1 : Nat) (x2 : Nat) (x3 : Nat) (x4 : Int32) (w : Mm) (z : Nat) (mc : Nat) (ms : Nat) : Prop :=
  B_L_law_2935 a0 K23 Q x1 x2 x3 x4 w z mc ms
set_option maxRecDepth 100000 in
set_option maxHeartbeats 4000000 in
theorem pB_L_law_818 {C : Cx} {d : Nat} {a0 : Nat} {K23 : Nat → Nat → Nat → Int32 → Mm → Nat → Nat → Nat → Prop} (hX : CX C cL_law RL 9 (some .boolean) [] (d + 11)) (hE : EL C) (hK23 : ∀ (x1 : Nat) (x2 : Nat) (x3 : Nat) (x4 : Int32) (w : Mm) (z mc ms : Nat), K23 x1 x2 x3 x4 w z mc ms → VW C 23 [(0, .ref (a0)), (1, .ref (x1)), (2, .ref (x2)), (3, .ref (x3)), (4, .int (x4))] [] w z mc ms) : ∀ (x1 : Nat) (x2 : Nat) (x3 : Nat) (x4 : Int32) (w : Mm) (z mc ms : Nat), B_L_law_818 a0 K23 lawQ x1 x2 x3 x4 w z mc ms → VW C 818 [(0, .ref (a0)), (1, .ref (x1)), (2, .ref (x2)), (3, .ref (x3)), (4, .int (x4))] [] w z mc ms := by
  intro x1 x2 x3 x4 w z mc ms h
  unfold B_L_law_818 at h
  refine vw_goto hX (tgt := 2935) dL_law_818 (by decide) ?_
  exact pB_L_law_2935 hX hE hK23 _ _ _ _ _ _ _ _ h
def B_L_law_753 (a0 : Nat) (K23 : Nat → Nat → Nat → Int32 → Mm → Nat → Nat → Nat → Prop) (Q : Int32 → Mm → Nat → Prop) (x1 : Nat) (x2 : Nat) (x3 : Nat) (x4 : Int32) (w : Mm) (z : Nat) (mc : Nat) (ms : Nat) : Prop :=
  ∃ n868 f867, arI w a0 0 = some (n868, f867) ∧ vp_in ((x4 + 1)) n868 ∧ ∃ n870 f869, arI w a0 0 = some (n870, f869) ∧ vp_in ((x4 + 2)) n870 ∧ ∃ k874 k875, k874 ≤ mc ∧ k875 ≤ ms ∧ F_L_appeal x1 ((f867 ((x4 + 1) : Int32).toNatClampNeg)) ((f869 ((x4 + 2) : Int32).toNatClampNeg)) x3 w z k874 k875 (fun r871 w872 z873 => ∃ n877 f876, arI w872 a0 0 = some (n877, f876) ∧ vp_in ((x4 + 1)) n877 ∧ ∃ n879 f878, arI w872 a0 0 = some (n879, f878) ∧ vp_in ((x4 + 2)) n879 ∧ isO w872 x2 10 ∧ F_X6_appeal x2 ((f876 ((x4 + 1) : Int32).toNatClampNeg)) ((f878 ((x4 + 2) : Int32).toNatClampNeg)) w872 z873 (fun r881 w882 z883 => isO w882 x2 10 ∧ F_X6_thrown x2 w882 z883 (fun r885 w886 z887 => (r885 = r871 → (¬ r871 = 0 → B_L_law_818 a0 K23 Q x1 x2 x3 x4 w886 z887 ((mc - k874)) ((ms - k875))) ∧
  (r871 = 0 → ∃ n891 f890, arL w886 x3 = some (n891, f890) ∧ vp_in 0 n891 ∧ (((lg_cmp ((f890 (0 : Int32).toNatClampNeg)) ((r881 : Int32).toInt64))) = 0 → B_L_law_818 a0 K23 Q x1 x2 x3 x4 w886 z887 ((mc - k874)) ((ms - k875))) ∧
  (¬ ((lg_cmp ((f890 (0 : Int32).toNatClampNeg)) ((r881 : Int32).toInt64))) = 0 → Q 0 w886 z887))) ∧
  (¬ r885 = r871 → Q 0 w886 z887))))
set_option maxRecDepth 100000 in
set_option maxHeartbeats 4000000 in
theorem pB_L_law_753 {C : Cx} {d : Nat} {a0 : Nat} {K23 : Nat → Nat → Nat → Int32 → Mm → Nat → Nat → Nat → Prop} (hX : CX C cL_law RL 9 (some .boolean) [] (d + 11)) (hE : EL C) (hK23 : ∀ (x1 : Nat) (x2 : Nat) (x3 : Nat) (x4 : Int32) (w : Mm) (z mc ms : Nat), K23 x1 x2 x3 x4 w z mc ms → VW C 23 [(0, .ref (a0)), (1, .ref (x1)), (2, .ref (x2)), (3, .ref (x3)), (4, .int (x4))] [] w z mc ms) : ∀ (x1 : Nat) (x2 : Nat) (x3 : Nat) (x4 : Int32) (w : Mm) (z mc ms : Nat), B_L_law_753 a0 K23 lawQ x1 x2 x3 x4 w z mc ms → VW C 753 [(0, .ref (a0)), (1, .ref (x1)), (2, .ref (x2)), (3, .ref (x3)), (4, .int (x4))] [] w z mc ms := by
  intro x1 x2 x3 x4 w z mc ms h
  unfold B_L_law_753 at h
  refine vw_aload_n hX 1 dL_law_753 rfl ?_
  refine vw_aload_n hX 0 dL_law_754 rfl ?_
  refine vw_iload hX 4 dL_law_755 rfl ?_
  refine vw_iconst hX (v := 1) dL_law_757 (by decide) ?_
  refine vw_iadd hX dL_law_758 ?_
  obtain ⟨n868, f867, hf867, hif867, h⟩ := h
  refine vw_iald hX hf867 hif867 dL_law_759 ?_
  refine vw_aload_n hX 0 dL_law_760 rfl ?_
  refine vw_iload hX 4 dL_law_761 rfl ?_
  refine vw_iconst hX (v := 2) dL_law_763 (by decide) ?_
  refine vw_iadd hX dL_law_764 ?_
  obtain ⟨n870, f869, hf869, hif869, h⟩ := h
  refine vw_iald hX hf869 hif869 dL_law_765 ?_
  refine vw_aload_n hX 3 dL_law_766 rfl ?_
  obtain ⟨k874, k875, hm1, hm2, h⟩ := h
  refine s_L_183 hX dL_law_767 (Nat.le_of_ble_eq_true rfl) hm1 hm2 (ct_L_appeal (d := d + 2) (lst hX) h) (fun r871 w872 z873 h => ?_)
  refine vw_istore hX dL_law_770 (by decide) rfl ?_
  refine vw_aload_n hX 3 dL_law_772 rfl ?_
  refine vw_aload_n hX 1 dL_law_773 rfl ?_
  refine vw_iload hX 5 dL_law_774 rfl ?_
  refine vw_iconst hX (v := 1) dL_law_776 (by decide) ?_
  refine vw_iadd hX dL_law_777 ?_
  obtain ⟨n877, f876, hf876, hif876, h⟩ := h
  refine vw_iald hX hf876 hif876 dL_law_778 ?_
  refine vw_aload_n hX 1 dL_law_779 rfl ?_
  refine vw_iload hX 5 dL_law_780 rfl ?_
  refine vw_iconst hX (v := 2) dL_law_782 (by decide) ?_
  refine vw_iadd hX dL_law_783 ?_
  obtain ⟨n879, f878, hf878, hif878, h⟩ := h
  refine vw_iald hX hf878 hif878 dL_law_784 ?_
  obtain ⟨hr880, h⟩ := h
  refine s_L_186 hX hr880 dL_law_785 (Nat.le_of_ble_eq_true rfl) (ct_X6_appeal (d := d + 6) (lst hX) h) (fun r881 w882 z883 h => ?_)
  refine vw_istore hX dL_law_788 (by decide) rfl ?_
  refine vw_aload_n hX 4 dL_law_790 rfl ?_
  obtain ⟨hr884, h⟩ := h
  refine s_L_150 hX hr884 dL_law_791 (Nat.le_of_ble_eq_true rfl) (ct_X6_thrown (d := d + 10) (lst hX) h) (fun r885 w886 z887 h => ?_)
  refine vw_iload hX 1 dL_law_794 rfl ?_
  refine vw_icmp_eq hX (tgt := 801) dL_law_796 (by decide) (fun c888 => ?_) (fun c888 => ?_)
  · have h := h.1 c888
    refine vw_iload hX 1 dL_law_801 rfl ?_
    refine vw_if_ne hX (tgt := 818) dL_law_803 (by decide) (fun c889 => ?_) (fun c889 => ?_)
    · have h := h.1 c889
      exact vw_sub [2, 3, 4, 5, 6] rfl (pB_L_law_818 hX hE hK23 _ _ _ _ _ _ _ _ h)
    · have h := h.2 c889
      refine vw_aload_n hX 5 dL_law_806 rfl ?_
      refine vw_iconst hX (v := 0) dL_law_807 (by decide) ?_
      obtain ⟨n891, f890, hf890, hif890, h⟩ := h
      refine vw_lald hX hf890 hif890 dL_law_808 ?_
      refine vw_iload hX 0 dL_law_809 rfl ?_
      refine vw_i2l hX dL_law_811 ?_
      refine vw_lcmp hX dL_law_812 ?_
      refine vw_if_eq hX (tgt := 818) dL_law_813 (by decide) (fun c892 => ?_) (fun c892 => ?_)
      · have h := h.1 c892
        exact vw_sub [2, 3, 4, 5, 6] rfl (pB_L_law_818 hX hE hK23 _ _ _ _ _ _ _ _ h)
      · have h := h.2 c892
        refine vw_iconst hX (v := 0) dL_law_816 (by decide) ?_
        exact vw_lawret hX hE dL_law_817 h
  · have h := h.2 c888
    refine vw_iconst hX (v := 0) dL_law_799 (by decide) ?_
    exact vw_lawret hX hE dL_law_800 h
def B_L_law_750 (a0 : Nat) (K23 : Nat → Nat → Nat → Int32 → Mm → Nat → Nat → Nat → Prop) (Q : Int32 → Mm → Nat → Prop) (x1 : Nat) (x2 : Nat) (x3 : Nat) (x4 : Int32) (w : Mm) (z : Nat) (mc : Nat) (ms : Nat) : Prop :=
  B_L_law_2935 a0 K23 Q x1 x2 x3 x4 w z mc ms
set_option maxRecDepth 100000 in
set_option maxHeartbeats 4000000 in
theorem pB_L_law_750 {C : Cx} {d : Nat} {a0 : Nat} {K23 : Nat → Nat → Nat → Int32 → Mm → Nat → Nat → Nat → Prop} (hX : CX C cL_law RL 9 (some .boolean) [] (d + 11)) (hE : EL C) (hK23 : ∀ (x1 : Nat) (x2 : Nat) (x3 : Nat) (x4 : Int32) (w : Mm) (z mc ms : Nat), K23 x1 x2 x3 x4 w z mc ms → VW C 23 [(0, .ref (a0)), (1, .ref (x1)), (2, .ref (x2)), (3, .ref (x3)), (4, .int (x4))] [] w z mc ms) : ∀ (x1 : Nat) (x2 : Nat) (x3 : Nat) (x4 : Int32) (w : Mm) (z mc ms : Nat), B_L_law_750 a0 K23 lawQ x1 x2 x3 x4 w z mc ms → VW C 750 [(0, .ref (a0)), (1, .ref (x1)), (2, .ref (x2)), (3, .ref (x3)), (4, .int (x4))] [] w z mc ms := by
  intro x1 x2 x3 x4 w z mc ms h
  unfold B_L_law_750 at h
  refine vw_goto hX (tgt := 2935) dL_law_750 (by decide) ?_
  exact pB_L_law_2935 hX hE hK23 _ _ _ _ _ _ _ _ h
def B_L_law_697 (a0 : Nat) (K23 : Nat → Nat → Nat → Int32 → Mm → Nat → Nat → Nat → Prop) (Q : Int32 → Mm → Nat → Prop) (x1 : Nat) (x2 : Nat) (x3 : Nat) (x4 : Int32) (w : Mm) (z : Nat) (mc : Nat) (ms : Nat) : Prop :=
  ∃ n894 f893, arI w a0 0 = some (n894, f893) ∧ vp_in ((x4 + 1)) n894 ∧ ∃ k898 k899, k898 ≤ mc ∧ k899 ≤ ms ∧ F_L_waitFor x1 ((f893 ((x4 + 1) : Int32).toNatClampNeg)) x3 w z k898 k899 (fun r895 w896 z897 => ∃ n901 f900, arI w896 a0 0 = some (n901, f900) ∧ vp_in ((x4 + 1)) n901 ∧ isO w896 x2 10 ∧ F_X6_waitFor x2 ((f900 ((x4 + 1) : Int32).toNatClampNeg)) w896 z897 (fun r903 w904 z905 => isO w904 x2 10 ∧ F_X6_thrown x2 w904 z905 (fun r907 w908 z909 => (r907 = r895 → (¬ r895 = 0 → B_L_law_750 a0 K23 Q x1 x2 x3 x4 w908 z909 ((mc - k898)) ((ms - k899))) ∧
  (r895 = 0 → ∃ n913 f912, arL w908 x3 = some (n913, f912) ∧ vp_in 0 n913 ∧ (((lg_cmp ((f912 (0 : Int32).toNatClampNeg)) ((r903 : Int32).toInt64))) = 0 → B_L_law_750 a0 K23 Q x1 x2 x3 x4 w908 z909 ((mc - k898)) ((ms - k899))) ∧
  (¬ ((lg_cmp ((f912 (0 : Int32).toNatClampNeg)) ((r903 : Int32).toInt64))) = 0 → Q 0 w908 z909))) ∧
  (¬ r907 = r895 → Q 0 w908 z909))))
set_option maxRecDepth 100000 in
set_option maxHeartbeats 4000000 in
theorem pB_L_law_697 {C : Cx} {d : Nat} {a0 : Nat} {K23 : Nat → Nat → Nat → Int32 → Mm → Nat → Nat → Nat → Prop} (hX : CX C cL_law RL 9 (some .boolean) [] (d + 11)) (hE : EL C) (hK23 : ∀ (x1 : Nat) (x2 : Nat) (x3 : Nat) (x4 : Int32) (w : Mm) (z mc ms : Nat), K23 x1 x2 x3 x4 w z mc ms → VW C 23 [(0, .ref (a0)), (1, .ref (x1)), (2, .ref (x2)), (3, .ref (x3)), (4, .int (x4))] [] w z mc ms) : ∀ (x1 : Nat) (x2 : Nat) (x3 : Nat) (x4 : Int32) (w : Mm) (z mc ms : Nat), B_L_law_697 a0 K23 lawQ x1 x2 x3 x4 w z mc ms → VW C 697 [(0, .ref (a0)), (1, .ref (x1)), (2, .ref (x2)), (3, .ref (x3)), (4, .int (x4))] [] w z mc ms := by
  intro x1 x2 x3 x4 w z mc ms h
  unfold B_L_law_697 at h
  refine vw_aload_n hX 1 dL_law_697 rfl ?_
  refine vw_aload_n hX 0 dL_law_698 rfl ?_
  refine vw_iload hX 4 dL_law_699 rfl ?_
  refine vw_iconst hX (v := 1) dL_law_701 (by decide) ?_
  refine vw_iadd hX dL_law_702 ?_
  obtain ⟨n894, f893, hf893, hif893, h⟩ := h
  refine vw_iald hX hf893 hif893 dL_law_703 ?_
  refine vw_aload_n hX 3 dL_law_704 rfl ?_
  obtain ⟨k898, k899, hm1, hm2, h⟩ := h
  refine s_L_180 hX dL_law_705 (Nat.le_of_ble_eq_true rfl) hm1 hm2 (ct_L_waitFor (d := d + 3) (lst hX) h) (fun r895 w896 z897 h => ?_)
  refine vw_istore hX dL_law_708 (by decide) rfl ?_
  refine vw_aload_n hX 3 dL_law_710 rfl ?_
  refine vw_aload_n hX 1 dL_law_711 rfl ?_
  refine vw_iload hX 5 dL_law_712 rfl ?_
  refine vw_iconst hX (v := 1) dL_law_714 (by decide) ?_
  refine vw_iadd hX dL_law_715 ?_
  obtain ⟨n901, f900, hf900, hif900, h⟩ := h
  refine vw_iald hX hf900 hif900 dL_law_716 ?_
  obtain ⟨hr902, h⟩ := h
  refine s_L_182 hX hr902 dL_law_717 (Nat.le_of_ble_eq_true rfl) (ct_X6_waitFor (d := d + 6) (lst hX) h) (fun r903 w904 z905 h => ?_)
  refine vw_istore hX dL_law_720 (by decide) rfl ?_
  refine vw_aload_n hX 4 dL_law_722 rfl ?_
  obtain ⟨hr906, h⟩ := h
  refine s_L_150 hX hr906 dL_law_723 (Nat.le_of_ble_eq_true rfl) (ct_X6_thrown (d := d + 10) (lst hX) h) (fun r907 w908 z909 h => ?_)
  refine vw_iload hX 1 dL_law_726 rfl ?_
  refine vw_icmp_eq hX (tgt := 733) dL_law_728 (by decide) (fun c910 => ?_) (fun c910 => ?_)
  · have h := h.1 c910
    refine vw_iload hX 1 dL_law_733 rfl ?_
    refine vw_if_ne hX (tgt := 750) dL_law_735 (by decide) (fun c911 => ?_) (fun c911 => ?_)
    · have h := h.1 c911
      exact vw_sub [2, 3, 4, 5, 6] rfl (pB_L_law_750 hX hE hK23 _ _ _ _ _ _ _ _ h)
    · have h := h.2 c911
      refine vw_aload_n hX 5 dL_law_738 rfl ?_
      refine vw_iconst hX (v := 0) dL_law_739 (by decide) ?_
      obtain ⟨n913, f912, hf912, hif912, h⟩ := h
      refine vw_lald hX hf912 hif912 dL_law_740 ?_
      refine vw_iload hX 0 dL_law_741 rfl ?_
      refine vw_i2l hX dL_law_743 ?_
      refine vw_lcmp hX dL_law_744 ?_
      refine vw_if_eq hX (tgt := 750) dL_law_745 (by decide) (fun c914 => ?_) (fun c914 => ?_)
      · have h := h.1 c914
        exact vw_sub [2, 3, 4, 5, 6] rfl (pB_L_law_750 hX hE hK23 _ _ _ _ _ _ _ _ h)
      · have h := h.2 c914
        refine vw_iconst hX (v := 0) dL_law_748 (by decide) ?_
        exact vw_lawret hX hE dL_law_749 h
  · have h := h.2 c910
    refine vw_iconst hX (v := 0) dL_law_731 (by decide) ?_
    exact vw_lawret hX hE dL_law_732 h
def B_L_law_694 (a0 : Nat) (K23 : Nat → Nat → Nat → Int32 → Mm → Nat → Nat → Nat → Prop) (Q : Int32 → Mm → Nat → Prop) (x1 : Nat) (x2 : Nat) (x3 : Nat) (x4 : Int32) (w : Mm) (z : Nat) (mc : Nat) (ms : Nat) : Prop :=
  B_L_law_2935 a0 K23 Q x1 x2 x3 x4 w z mc ms
set_option maxRecDepth 100000 in
set_option maxHeartbeats 4000000 in
theorem pB_L_law_694 {C : Cx} {d : Nat} {a0 : Nat} {K23 : Nat → Nat → Nat → Int32 → Mm → Nat → Nat → Nat → Prop} (hX : CX C cL_law RL 9 (some .boolean) [] (d + 11)) (hE : EL C) (hK23 : ∀ (x1 : Nat) (x2 : Nat) (x3 : Nat) (x4 : Int32) (w : Mm) (z mc ms : Nat), K23 x1 x2 x3 x4 w z mc ms → VW C 23 [(0, .ref (a0)), (1, .ref (x1)), (2, .ref (x2)), (3, .ref (x3)), (4, .int (x4))] [] w z mc ms) : ∀ (x1 : Nat) (x2 : Nat) (x3 : Nat) (x4 : Int32) (w : Mm) (z mc ms : Nat), B_L_law_694 a0 K23 lawQ x1 x2 x3 x4 w z mc ms → VW C 694 [(0, .ref (a0)), (1, .ref (x1)), (2, .ref (x2)), (3, .ref (x3)), (4, .int (x4))] [] w z mc ms := by
  intro x1 x2 x3 x4 w z mc ms h
  unfold B_L_law_694 at h
  refine vw_goto hX (tgt := 2935) dL_law_694 (by decide) ?_
  exact pB_L_law_2935 hX hE hK23 _ _ _ _ _ _ _ _ h
def B_L_law_641 (a0 : Nat) (K23 : Nat → Nat → Nat → Int32 → Mm → Nat → Nat → Nat → Prop) (Q : Int32 → Mm → Nat → Prop) (x1 : Nat) (x2 : Nat) (x3 : Nat) (x4 : Int32) (w : Mm) (z : Nat) (mc : Nat) (ms : Nat) : Prop :=
  ∃ n916 f915, arI w a0 0 = some (n916, f915) ∧ vp_in ((x4 + 1)) n916 ∧ ∃ k920 k921, k920 ≤ mc ∧ k921 ≤ ms ∧ F_L_inspect x1 ((f915 ((x4 + 1) : Int32).toNatClampNeg)) x3 w z k920 k921 (fun r917 w918 z919 => ∃ n923 f922, arI w918 a0 0 = some (n923, f922) ∧ vp_in ((x4 + 1)) n923 ∧ isO w918 x2 10 ∧ F_X6_inspect x2 ((f922 ((x4 + 1) : Int32).toNatClampNeg)) w918 z919 (fun r925 w926 z927 => isO w926 x2 10 ∧ F_X6_thrown x2 w926 z927 (fun r929 w930 z931 => (r929 = r917 → (¬ r917 = 0 → B_L_law_694 a0 K23 Q x1 x2 x3 x4 w930 z931 ((mc - k920)) ((ms - k921))) ∧
  (r917 = 0 → ∃ n935 f934, arL w930 x3 = some (n935, f934) ∧ vp_in 0 n935 ∧ (((lg_cmp ((f934 (0 : Int32).toNatClampNeg)) ((r925 : Int32).toInt64))) = 0 → B_L_law_694 a0 K23 Q x1 x2 x3 x4 w930 z931 ((mc - k920)) ((ms - k921))) ∧
  (¬ ((lg_cmp ((f934 (0 : Int32).toNatClampNeg)) ((r925 : Int32).toInt64))) = 0 → Q 0 w930 z931))) ∧
  (¬ r929 = r917 → Q 0 w930 z931))))
set_option maxRecDepth 100000 in
set_option maxHeartbeats 4000000 in
theorem pB_L_law_641 {C : Cx} {d : Nat} {a0 : Nat} {K23 : Nat → Nat → Nat → Int32 → Mm → Nat → Nat → Nat → Prop} (hX : CX C cL_law RL 9 (some .boolean) [] (d + 11)) (hE : EL C) (hK23 : ∀ (x1 : Nat) (x2 : Nat) (x3 : Nat) (x4 : Int32) (w : Mm) (z mc ms : Nat), K23 x1 x2 x3 x4 w z mc ms → VW C 23 [(0, .ref (a0)), (1, .ref (x1)), (2, .ref (x2)), (3, .ref (x3)), (4, .int (x4))] [] w z mc ms) : ∀ (x1 : Nat) (x2 : Nat) (x3 : Nat) (x4 : Int32) (w : Mm) (z mc ms : Nat), B_L_law_641 a0 K23 lawQ x1 x2 x3 x4 w z mc ms → VW C 641 [(0, .ref (a0)), (1, .ref (x1)), (2, .ref (x2)), (3, .ref (x3)), (4, .int (x4))] [] w z mc ms := by
  intro x1 x2 x3 x4 w z mc ms h
  unfold B_L_law_641 at h
  refine vw_aload_n hX 1 dL_law_641 rfl ?_
  refine vw_aload_n hX 0 dL_law_642 rfl ?_
  refine vw_iload hX 4 dL_law_643 rfl ?_
  refine vw_iconst hX (v := 1) dL_law_645 (by decide) ?_
  refine vw_iadd hX dL_law_646 ?_
  obtain ⟨n916, f915, hf915, hif915, h⟩ := h
  refine vw_iald hX hf915 hif915 dL_law_647 ?_
  refine vw_aload_n hX 3 dL_law_648 rfl ?_
  obtain ⟨k920, k921, hm1, hm2, h⟩ := h
  refine s_L_177 hX dL_law_649 (Nat.le_of_ble_eq_true rfl) hm1 hm2 (ct_L_inspect (d := d + 2) (lst hX) h) (fun r917 w918 z919 h => ?_)
  refine vw_istore hX dL_law_652 (by decide) rfl ?_
  refine vw_aload_n hX 3 dL_law_654 rfl ?_
  refine vw_aload_n hX 1 dL_law_655 rfl ?_
  refine vw_iload hX 5 dL_law_656 rfl ?_
  refine vw_iconst hX (v := 1) dL_law_658 (by decide) ?_
  refine vw_iadd hX dL_law_659 ?_
  obtain ⟨n923, f922, hf922, hif922, h⟩ := h
  refine vw_iald hX hf922 hif922 dL_law_660 ?_
  obtain ⟨hr924, h⟩ := h
  refine s_L_179 hX hr924 dL_law_661 (Nat.le_of_ble_eq_true rfl) (ct_X6_inspect (d := d + 5) (lst hX) h) (fun r925 w926 z927 h => ?_)
  refine vw_istore hX dL_law_664 (by decide) rfl ?_
  refine vw_aload_n hX 4 dL_law_666 rfl ?_
  obtain ⟨hr928, h⟩ := h
  refine s_L_150 hX hr928 dL_law_667 (Nat.le_of_ble_eq_true rfl) (ct_X6_thrown (d := d + 10) (lst hX) h) (fun r929 w930 z931 h => ?_)
  refine vw_iload hX 1 dL_law_670 rfl ?_
  refine vw_icmp_eq hX (tgt := 677) dL_law_672 (by decide) (fun c932 => ?_) (fun c932 => ?_)
  · have h := h.1 c932
    refine vw_iload hX 1 dL_law_677 rfl ?_
    refine vw_if_ne hX (tgt := 694) dL_law_679 (by decide) (fun c933 => ?_) (fun c933 => ?_)
    · have h := h.1 c933
      exact vw_sub [2, 3, 4, 5, 6] rfl (pB_L_law_694 hX hE hK23 _ _ _ _ _ _ _ _ h)
    · have h := h.2 c933
      refine vw_aload_n hX 5 dL_law_682 rfl ?_
      refine vw_iconst hX (v := 0) dL_law_683 (by decide) ?_
      obtain ⟨n935, f934, hf934, hif934, h⟩ := h
      refine vw_lald hX hf934 hif934 dL_law_684 ?_
      refine vw_iload hX 0 dL_law_685 rfl ?_
      refine vw_i2l hX dL_law_687 ?_
      refine vw_lcmp hX dL_law_688 ?_
      refine vw_if_eq hX (tgt := 694) dL_law_689 (by decide) (fun c936 => ?_) (fun c936 => ?_)
      · have h := h.1 c936
        exact vw_sub [2, 3, 4, 5, 6] rfl (pB_L_law_694 hX hE hK23 _ _ _ _ _ _ _ _ h)
      · have h := h.2 c936
        refine vw_iconst hX (v := 0) dL_law_692 (by decide) ?_
        exact vw_lawret hX hE dL_law_693 h
  · have h := h.2 c932
    refine vw_iconst hX (v := 0) dL_law_675 (by decide) ?_
    exact vw_lawret hX hE dL_law_676 h
def B_L_law_638 (a0 : Nat) (K23 : Nat → Nat → Nat → Int32 → Mm → Nat → Nat → Nat → Prop) (Q : Int32 → Mm → Nat → Prop) (x1 : Nat) (x2 : Nat) (x3 : Nat) (x4 : Int32) (w : Mm) (z : Nat) (mc : Nat) (ms : Nat) : Prop :=
  B_L_law_2935 a0 K23 Q x1 x2 x3 x4 w z mc ms
set_option maxRecDepth 100000 in
set_option maxHeartbeats 4000000 in
theorem pB_L_law_638 {C : Cx} {d : Nat} {a0 : Nat} {K23 : Nat → Nat → Nat → Int32 → Mm → Nat → Nat → Nat → Prop} (hX : CX C cL_law RL 9 (some .boolean) [] (d + 11)) (hE : EL C) (hK23 : ∀ (x1 : Nat) (x2 : Nat) (x3 : Nat) (x4 : Int32) (w : Mm) (z mc ms : Nat), K23 x1 x2 x3 x4 w z mc ms → VW C 23 [(0, .ref (a0)), (1, .ref (x1)), (2, .ref (x2)), (3, .ref (x3)), (4, .int (x4))] [] w z mc ms) : ∀ (x1 : Nat) (x2 : Nat) (x3 : Nat) (x4 : Int32) (w : Mm) (z mc ms : Nat), B_L_law_638 a0 K23 lawQ x1 x2 x3 x4 w z mc ms → VW C 638 [(0, .ref (a0)), (1, .ref (x1)), (2, .ref (x2)), (3, .ref (x3)), (4, .int (x4))] [] w z mc ms := by
  intro x1 x2 x3 x4 w z mc ms h
  unfold B_L_law_638 at h
  refine vw_goto hX (tgt := 2935) dL_law_638 (by decide) ?_
  exact pB_L_law_2935 hX hE hK23 _ _ _ _ _ _ _ _ h
def B_L_law_549 (a0 : Nat) (K23 : Nat → Nat → Nat → Int32 → Mm → Nat → Nat → Nat → Prop) (Q : Int32 → Mm → Nat → Prop) (x1 : Nat) (x2 : Nat) (x3 : Nat) (x4 : Int32) (w : Mm) (z : Nat) (mc : Nat) (ms : Nat) : Prop :=
  ∃ n938 f937, arI w a0 0 = some (n938, f937) ∧ vp_in ((x4 + 1)) n938 ∧ ∃ n940 f939, arI w a0 0 = some (n940, f939) ∧ vp_in ((x4 + 2)) n940 ∧ ∃ n942 f941, arI w a0 0 = some (n942, f941) ∧ vp_in ((x4 + 3)) n942 ∧ ∃ n944 f943, arI w a0 0 = some (n944, f943) ∧ vp_in ((x4 + 4)) n944 ∧ ∃ k948 k949, k948 ≤ mc ∧ k949 ≤ ms ∧ F_L_ride x1 ((f937 ((x4 + 1) : Int32).toNatClampNeg)) ((f939 ((x4 + 2) : Int32).toNatClampNeg)) ((f941 ((x4 + 3) : Int32).toNatClampNeg)) ((f943 ((x4 + 4) : Int32).toNatClampNeg)) x3 w z k948 k949 (fun r945 w946 z947 => ∃ n951 f950, arI w946 a0 0 = some (n951, f950) ∧ vp_in ((x4 + 1)) n951 ∧ ∃ n953 f952, arI w946 a0 0 = some (n953, f952) ∧ vp_in ((x4 + 2)) n953 ∧ ∃ n955 f954, arI w946 a0 0 = some (n955, f954) ∧ vp_in ((x4 + 3)) n955 ∧ ∃ n957 f956, arI w946 a0 0 = some (n957, f956) ∧ vp_in ((x4 + 4)) n957 ∧ isO w946 x2 10 ∧ F_X6_ride x2 ((f950 ((x4 + 1) : Int32).toNatClampNeg)) ((f952 ((x4 + 2) : Int32).toNatClampNeg)) ((f954 ((x4 + 3) : Int32).toNatClampNeg)) ((f956 ((x4 + 4) : Int32).toNatClampNeg)) w946 z947 (fun r959 w960 z961 => isO w960 x2 10 ∧ F_X6_thrown x2 w960 z961 (fun r963 w964 z965 => (r963 = r945 → (¬ r945 = 0 → B_L_law_638 a0 K23 Q x1 x2 x3 x4 w964 z965 ((mc - k948)) ((ms - k949))) ∧
  (r945 = 0 → ∃ n969 f968, arL w964 x3 = some (n969, f968) ∧ vp_in 0 n969 ∧ (((lg_cmp ((f968 (0 : Int32).toNatClampNeg)) ((r959 : Int32).toInt64))) = 0 → B_L_law_638 a0 K23 Q x1 x2 x3 x4 w964 z965 ((mc - k948)) ((ms - k949))) ∧
  (¬ ((lg_cmp ((f968 (0 : Int32).toNatClampNeg)) ((r959 : Int32).toInt64))) = 0 → Q 0 w964 z965))) ∧
  (¬ r963 = r945 → Q 0 w964 z965))))
set_option maxRecDepth 100000 in
set_option maxHeartbeats 4000000 in
theorem pB_L_law_549 {C : Cx} {d : Nat} {a0 : Nat} {K23 : Nat → Nat → Nat → Int32 → Mm → Nat → Nat → Nat → Prop} (hX : CX C cL_law RL 9 (some .boolean) [] (d + 11)) (hE : EL C) (hK23 : ∀ (x1 : Nat) (x2 : Nat) (x3 : Nat) (x4 : Int32) (w : Mm) (z mc ms : Nat), K23 x1 x2 x3 x4 w z mc ms → VW C 23 [(0, .ref (a0)), (1, .ref (x1)), (2, .ref (x2)), (3, .ref (x3)), (4, .int (x4))] [] w z mc ms) : ∀ (x1 : Nat) (x2 : Nat) (x3 : Nat) (x4 : Int32) (w : Mm) (z mc ms : Nat), B_L_law_549 a0 K23 lawQ x1 x2 x3 x4 w z mc ms → VW C 549 [(0, .ref (a0)), (1, .ref (x1)), (2, .ref (x2)), (3, .ref (x3)), (4, .int (x4))] [] w z mc ms := by
  intro x1 x2 x3 x4 w z mc ms h
  unfold B_L_law_549 at h
  refine vw_aload_n hX 1 dL_law_549 rfl ?_
  refine vw_aload_n hX 0 dL_law_550 rfl ?_
  refine vw_iload hX 4 dL_law_551 rfl ?_
  refine vw_iconst hX (v := 1) dL_law_553 (by decide) ?_
  refine vw_iadd hX dL_law_554 ?_
  obtain ⟨n938, f937, hf937, hif937, h⟩ := h
  refine vw_iald hX hf937 hif937 dL_law_555 ?_
  refine vw_aload_n hX 0 dL_law_556 rfl ?_
  refine vw_iload hX 4 dL_law_557 rfl ?_
  refine vw_iconst hX (v := 2) dL_law_559 (by decide) ?_
  refine vw_iadd hX dL_law_560 ?_
  obtain ⟨n940, f939, hf939, hif939, h⟩ := h
  refine vw_iald hX hf939 hif939 dL_law_561 ?_
  refine vw_aload_n hX 0 dL_law_562 rfl ?_
  refine vw_iload hX 4 dL_law_563 rfl ?_
  refine vw_iconst hX (v := 3) dL_law_565 (by decide) ?_
  refine vw_iadd hX dL_law_566 ?_
  obtain ⟨n942, f941, hf941, hif941, h⟩ := h
  refine vw_iald hX hf941 hif941 dL_law_567 ?_
  refine vw_aload_n hX 0 dL_law_568 rfl ?_
  refine vw_iload hX 4 dL_law_569 rfl ?_
  refine vw_iconst hX (v := 4) dL_law_571 (by decide) ?_
  refine vw_iadd hX dL_law_572 ?_
  obtain ⟨n944, f943, hf943, hif943, h⟩ := h
  refine vw_iald hX hf943 hif943 dL_law_573 ?_
  refine vw_aload_n hX 3 dL_law_574 rfl ?_
  obtain ⟨k948, k949, hm1, hm2, h⟩ := h
  refine s_L_173 hX dL_law_575 (Nat.le_of_ble_eq_true rfl) hm1 hm2 (ct_L_ride (d := d + 2) (lst hX) h) (fun r945 w946 z947 h => ?_)
  refine vw_istore hX dL_law_578 (by decide) rfl ?_
  refine vw_aload_n hX 3 dL_law_580 rfl ?_
  refine vw_aload_n hX 1 dL_law_581 rfl ?_
  refine vw_iload hX 5 dL_law_582 rfl ?_
  refine vw_iconst hX (v := 1) dL_law_584 (by decide) ?_
  refine vw_iadd hX dL_law_585 ?_
  obtain ⟨n951, f950, hf950, hif950, h⟩ := h
  refine vw_iald hX hf950 hif950 dL_law_586 ?_
  refine vw_aload_n hX 1 dL_law_587 rfl ?_
  refine vw_iload hX 5 dL_law_588 rfl ?_
  refine vw_iconst hX (v := 2) dL_law_590 (by decide) ?_
  refine vw_iadd hX dL_law_591 ?_
  obtain ⟨n953, f952, hf952, hif952, h⟩ := h
  refine vw_iald hX hf952 hif952 dL_law_592 ?_
  refine vw_aload_n hX 1 dL_law_593 rfl ?_
  refine vw_iload hX 5 dL_law_594 rfl ?_
  refine vw_iconst hX (v := 3) dL_law_596 (by decide) ?_
  refine vw_iadd hX dL_law_597 ?_
  obtain ⟨n955, f954, hf954, hif954, h⟩ := h
  refine vw_iald hX hf954 hif954 dL_law_598 ?_
  refine vw_aload_n hX 1 dL_law_599 rfl ?_
  refine vw_iload hX 5 dL_law_600 rfl ?_
  refine vw_iconst hX (v := 4) dL_law_602 (by decide) ?_
  refine vw_iadd hX dL_law_603 ?_
  obtain ⟨n957, f956, hf956, hif956, h⟩ := h
  refine vw_iald hX hf956 hif956 dL_law_604 ?_
  obtain ⟨hr958, h⟩ := h
  refine s_L_176 hX hr958 dL_law_605 (Nat.le_of_ble_eq_true rfl) (ct_X6_ride (d := d + 6) (lst hX) h) (fun r959 w960 z961 h => ?_)
  refine vw_istore hX dL_law_608 (by decide) rfl ?_
  refine vw_aload_n hX 4 dL_law_610 rfl ?_
  obtain ⟨hr962, h⟩ := h
  refine s_L_150 hX hr962 dL_law_611 (Nat.le_of_ble_eq_true rfl) (ct_X6_thrown (d := d + 10) (lst hX) h) (fun r963 w964 z965 h => ?_)
  refine vw_iload hX 1 dL_law_614 rfl ?_
  refine vw_icmp_eq hX (tgt := 621) dL_law_616 (by decide) (fun c966 => ?_) (fun c966 => ?_)
  · have h := h.1 c966
    refine vw_iload hX 1 dL_law_621 rfl ?_
    refine vw_if_ne hX (tgt := 638) dL_law_623 (by decide) (fun c967 => ?_) (fun c967 => ?_)
    · have h := h.1 c967
      exact vw_sub [2, 3, 4, 5, 6] rfl (pB_L_law_638 hX hE hK23 _ _ _ _ _ _ _ _ h)
    · have h := h.2 c967
      refine vw_aload_n hX 5 dL_law_626 rfl ?_
      refine vw_iconst hX (v := 0) dL_law_627 (by decide) ?_
      obtain ⟨n969, f968, hf968, hif968, h⟩ := h
      refine vw_lald hX hf968 hif968 dL_law_628 ?_
      refine vw_iload hX 0 dL_law_629 rfl ?_
      refine vw_i2l hX dL_law_631 ?_
      refine vw_lcmp hX dL_law_632 ?_
      refine vw_if_eq hX (tgt := 638) dL_law_633 (by decide) (fun c970 => ?_) (fun c970 => ?_)
      · have h := h.1 c970
        exact vw_sub [2, 3, 4, 5, 6] rfl (pB_L_law_638 hX hE hK23 _ _ _ _ _ _ _ _ h)
      · have h := h.2 c970
        refine vw_iconst hX (v := 0) dL_law_636 (by decide) ?_
        exact vw_lawret hX hE dL_law_637 h
  · have h := h.2 c966
    refine vw_iconst hX (v := 0) dL_law_619 (by decide) ?_
    exact vw_lawret hX hE dL_law_620 h
def B_L_law_546 (a0 : Nat) (K23 : Nat → Nat → Nat → Int32 → Mm → Nat → Nat → Nat → Prop) (Q : Int32 → Mm → Nat → Prop) (x1 : Nat) (x2 : Nat) (x3 : Nat) (x4 : Int32) (w : Mm) (z : Nat) (mc : Nat) (ms : Nat) : Prop :=
  B_L_law_2935 a0 K23 Q x1 x2 x3 x4 w z mc ms
set_option maxRecDepth 100000 in
set_option maxHeartbeats 4000000 in
theorem pB_L_law_546 {C : Cx} {d : Nat} {a0 : Nat} {K23 : Nat → Nat → Nat → Int32 → Mm → Nat → Nat → Nat → Prop} (hX : CX C cL_law RL 9 (some .boolean) [] (d + 11)) (hE : EL C) (hK23 : ∀ (x1 : Nat) (x2 : Nat) (x3 : Nat) (x4 : Int32) (w : Mm) (z mc ms : Nat), K23 x1 x2 x3 x4 w z mc ms → VW C 23 [(0, .ref (a0)), (1, .ref (x1)), (2, .ref (x2)), (3, .ref (x3)), (4, .int (x4))] [] w z mc ms) : ∀ (x1 : Nat) (x2 : Nat) (x3 : Nat) (x4 : Int32) (w : Mm) (z mc ms : Nat), B_L_law_546 a0 K23 lawQ x1 x2 x3 x4 w z mc ms → VW C 546 [(0, .ref (a0)), (1, .ref (x1)), (2, .ref (x2)), (3, .ref (x3)), (4, .int (x4))] [] w z mc ms := by
  intro x1 x2 x3 x4 w z mc ms h
  unfold B_L_law_546 at h
  refine vw_goto hX (tgt := 2935) dL_law_546 (by decide) ?_
  exact pB_L_law_2935 hX hE hK23 _ _ _ _ _ _ _ _ h
def B_L_law_469 (a0 : Nat) (K23 : Nat → Nat → Nat → Int32 → Mm → Nat → Nat → Nat → Prop) (Q : Int32 → Mm → Nat → Prop) (x1 : Nat) (x2 : Nat) (x3 : Nat) (x4 : Int32) (w : Mm) (z : Nat) (mc : Nat) (ms : Nat) : Prop :=
  ∃ n972 f971, arI w a0 0 = some (n972, f971) ∧ vp_in ((x4 + 1)) n972 ∧ ∃ n974 f973, arI w a0 0 = some (n974, f973) ∧ vp_in ((x4 + 2)) n974 ∧ ∃ n976 f975, arI w a0 0 = some (n976, f975) ∧ vp_in ((x4 + 3)) n976 ∧ ∃ k980 k981, k980 ≤ mc ∧ k981 ≤ ms ∧ F_L_buy x1 ((f971 ((x4 + 1) : Int32).toNatClampNeg)) ((f973 ((x4 + 2) : Int32).toNatClampNeg)) ((f975 ((x4 + 3) : Int32).toNatClampNeg)) x3 w z k980 k981 (fun r977 w978 z979 => ∃ n983 f982, arI w978 a0 0 = some (n983, f982) ∧ vp_in ((x4 + 1)) n983 ∧ ∃ n985 f984, arI w978 a0 0 = some (n985, f984) ∧ vp_in ((x4 + 2)) n985 ∧ ∃ n987 f986, arI w978 a0 0 = some (n987, f986) ∧ vp_in ((x4 + 3)) n987 ∧ isO w978 x2 10 ∧ F_X6_buy x2 ((f982 ((x4 + 1) : Int32).toNatClampNeg)) ((f984 ((x4 + 2) : Int32).toNatClampNeg)) ((f986 ((x4 + 3) : Int32).toNatClampNeg)) w978 z979 (fun r989 w990 z991 => isO w990 x2 10 ∧ F_X6_thrown x2 w990 z991 (fun r993 w994 z995 => (r993 = r977 → (¬ r977 = 0 → B_L_law_546 a0 K23 Q x1 x2 x3 x4 w994 z995 ((mc - k980)) ((ms - k981))) ∧
  (r977 = 0 → ∃ n999 f998, arL w994 x3 = some (n999, f998) ∧ vp_in 0 n999 ∧ (((lg_cmp ((f998 (0 : Int32).toNatClampNeg)) ((r989 : Int32).toInt64))) = 0 → B_L_law_546 a0 K23 Q x1 x2 x3 x4 w994 z995 ((mc - k980)) ((ms - k981))) ∧
  (¬ ((lg_cmp ((f998 (0 : Int32).toNatClampNeg)) ((r989 : Int32).toInt64))) = 0 → Q 0 w994 z995))) ∧
  (¬ r993 = r977 → Q 0 w994 z995))))
set_option maxRecDepth 100000 in
set_option maxHeartbeats 4000000 in
theorem pB_L_law_469 {C : Cx} {d : Nat} {a0 : Nat} {K23 : Nat → Nat → Nat → Int32 → Mm → Nat → Nat → Nat → Prop} (hX : CX C cL_law RL 9 (some .boolean) [] (d + 11)) (hE : EL C) (hK23 : ∀ (x1 : Nat) (x2 : Nat) (x3 : Nat) (x4 : Int32) (w : Mm) (z mc ms : Nat), K23 x1 x2 x3 x4 w z mc ms → VW C 23 [(0, .ref (a0)), (1, .ref (x1)), (2, .ref (x2)), (3, .ref (x3)), (4, .int (x4))] [] w z mc ms) : ∀ (x1 : Nat) (x2 : Nat) (x3 : Nat) (x4 : Int32) (w : Mm) (z mc ms : Nat), B_L_law_469 a0 K23 lawQ x1 x2 x3 x4 w z mc ms → VW C 469 [(0, .ref (a0)), (1, .ref (x1)), (2, .ref (x2)), (3, .ref (x3)), (4, .int (x4))] [] w z mc ms := by
  intro x1 x2 x3 x4 w z mc ms h
  unfold B_L_law_469 at h
  refine vw_aload_n hX 1 dL_law_469 rfl ?_
  refine vw_aload_n hX 0 dL_law_470 rfl ?_
  refine vw_iload hX 4 dL_law_471 rfl ?_
  refine vw_iconst hX (v := 1) dL_law_473 (by decide) ?_
  refine vw_iadd hX dL_law_474 ?_
  obtain ⟨n972, f971, hf971, hif971, h⟩ := h
  refine vw_iald hX hf971 hif971 dL_law_475 ?_
  refine vw_aload_n hX 0 dL_law_476 rfl ?_
  refine vw_iload hX 4 dL_law_477 rfl ?_
  refine vw_iconst hX (v := 2) dL_law_479 (by decide) ?_
  refine vw_iadd hX dL_law_480 ?_
  obtain ⟨n974, f973, hf973, hif973, h⟩ := h
  refine vw_iald hX hf973 hif973 dL_law_481 ?_
  refine vw_aload_n hX 0 dL_law_482 rfl ?_
  refine vw_iload hX 4 dL_law_483 rfl ?_
  refine vw_iconst hX (v := 3) dL_law_485 (by decide) ?_
  refine vw_iadd hX dL_law_486 ?_
  obtain ⟨n976, f975, hf975, hif975, h⟩ := h
  refine vw_iald hX hf975 hif975 dL_law_487 ?_
  refine vw_aload_n hX 3 dL_law_488 rfl ?_
  obtain ⟨k980, k981, hm1, hm2, h⟩ := h
  refine s_L_169 hX dL_law_489 (Nat.le_of_ble_eq_true rfl) hm1 hm2 (ct_L_buy (d := d + 2) (lst hX) h) (fun r977 w978 z979 h => ?_)
  refine vw_istore hX dL_law_492 (by decide) rfl ?_
  refine vw_aload_n hX 3 dL_law_494 rfl ?_
  refine vw_aload_n hX 1 dL_law_495 rfl ?_
  refine vw_iload hX 5 dL_law_496 rfl ?_
  refine vw_iconst hX (v := 1) dL_law_498 (by decide) ?_
  refine vw_iadd hX dL_law_499 ?_
  obtain ⟨n983, f982, hf982, hif982, h⟩ := h
  refine vw_iald hX hf982 hif982 dL_law_500 ?_
  refine vw_aload_n hX 1 dL_law_501 rfl ?_
  refine vw_iload hX 5 dL_law_502 rfl ?_
  refine vw_iconst hX (v := 2) dL_law_504 (by decide) ?_
  refine vw_iadd hX dL_law_505 ?_
  obtain ⟨n985, f984, hf984, hif984, h⟩ := h
  refine vw_iald hX hf984 hif984 dL_law_506 ?_
  refine vw_aload_n hX 1 dL_law_507 rfl ?_
  refine vw_iload hX 5 dL_law_508 rfl ?_
  refine vw_iconst hX (v := 3) dL_law_510 (by decide) ?_
  refine vw_iadd hX dL_law_511 ?_
  obtain ⟨n987, f986, hf986, hif986, h⟩ := h
  refine vw_iald hX hf986 hif986 dL_law_512 ?_
  obtain ⟨hr988, h⟩ := h
  refine s_L_172 hX hr988 dL_law_513 (Nat.le_of_ble_eq_true rfl) (ct_X6_buy (d := d + 6) (lst hX) h) (fun r989 w990 z991 h => ?_)
  refine vw_istore hX dL_law_516 (by decide) rfl ?_
  refine vw_aload_n hX 4 dL_law_518 rfl ?_
  obtain ⟨hr992, h⟩ := h
  refine s_L_150 hX hr992 dL_law_519 (Nat.le_of_ble_eq_true rfl) (ct_X6_thrown (d := d + 10) (lst hX) h) (fun r993 w994 z995 h => ?_)
  refine vw_iload hX 1 dL_law_522 rfl ?_
  refine vw_icmp_eq hX (tgt := 529) dL_law_524 (by decide) (fun c996 => ?_) (fun c996 => ?_)
  · have h := h.1 c996
    refine vw_iload hX 1 dL_law_529 rfl ?_
    refine vw_if_ne hX (tgt := 546) dL_law_531 (by decide) (fun c997 => ?_) (fun c997 => ?_)
    · have h := h.1 c997
      exact vw_sub [2, 3, 4, 5, 6] rfl (pB_L_law_546 hX hE hK23 _ _ _ _ _ _ _ _ h)
    · have h := h.2 c997
      refine vw_aload_n hX 5 dL_law_534 rfl ?_
      refine vw_iconst hX (v := 0) dL_law_535 (by decide) ?_
      obtain ⟨n999, f998, hf998, hif998, h⟩ := h
      refine vw_lald hX hf998 hif998 dL_law_536 ?_
      refine vw_iload hX 0 dL_law_537 rfl ?_
      refine vw_i2l hX dL_law_539 ?_
      refine vw_lcmp hX dL_law_540 ?_
      refine vw_if_eq hX (tgt := 546) dL_law_541 (by decide) (fun c1000 => ?_) (fun c1000 => ?_)
      · have h := h.1 c1000
        exact vw_sub [2, 3, 4, 5, 6] rfl (pB_L_law_546 hX hE hK23 _ _ _ _ _ _ _ _ h)
      · have h := h.2 c1000
        refine vw_iconst hX (v := 0) dL_law_544 (by decide) ?_
        exact vw_lawret hX hE dL_law_545 h
  · have h := h.2 c996
    refine vw_iconst hX (v := 0) dL_law_527 (by decide) ?_
    exact vw_lawret hX hE dL_law_528 h
def B_L_law_456 (a0 : Nat) (K23 : Nat → Nat → Nat → Int32 → Mm → Nat → Nat → Nat → Prop) (Q : Int32 → Mm → Nat → Prop) (x1 : Nat) (x2 : Nat) (x3 : Nat) (x4 : Int32) (w : Mm) (z : Nat) (mc : Nat) (ms : Nat) : Prop :=
  isO w x1 9 ∧ F_X5_errorOffset x1 w z (fun r1002 w1003 z1004 => isO w1003 x2 10 ∧ F_X6_errorOffset x2 w1003 z1004 (fun r1006 w1007 z1008 => (r1002 = r1006 → B_L_law_2935 a0 K23 Q x1 x2 x3 x4 w1007 z1008 mc ms) ∧
  (¬ r1002 = r1006 → Q 0 w1007 z1008)))
set_option maxRecDepth 100000 in
set_option maxHeartbeats 4000000 in
theorem pB_L_law_456 {C : Cx} {d : Nat} {a0 : Nat} {K23 : Nat → Nat → Nat → Int32 → Mm → Nat → Nat → Nat → Prop} (hX : CX C cL_law RL 9 (some .boolean) [] (d + 11)) (hE : EL C) (hK23 : ∀ (x1 : Nat) (x2 : Nat) (x3 : Nat) (x4 : Int32) (w : Mm) (z mc ms : Nat), K23 x1 x2 x3 x4 w z mc ms → VW C 23 [(0, .ref (a0)), (1, .ref (x1)), (2, .ref (x2)), (3, .ref (x3)), (4, .int (x4))] [] w z mc ms) : ∀ (x1 : Nat) (x2 : Nat) (x3 : Nat) (x4 : Int32) (w : Mm) (z mc ms : Nat), B_L_law_456 a0 K23 lawQ x1 x2 x3 x4 w z mc ms → VW C 456 [(0, .ref (a0)), (1, .ref (x1)), (2, .ref (x2)), (3, .ref (x3)), (4, .int (x4))] [] w z mc ms := by
  intro x1 x2 x3 x4 w z mc ms h
  unfold B_L_law_456 at h
  refine vw_aload_n hX 1 dL_law_456 rfl ?_
  obtain ⟨hr1001, h⟩ := h
  refine s_L_165 hX hr1001 dL_law_457 (Nat.le_of_ble_eq_true rfl) (ct_X5_errorOffset (d := d + 10) (lst hX) h) (fun r1002 w1003 z1004 h => ?_)
  refine vw_aload_n hX 2 dL_law_460 rfl ?_
  obtain ⟨hr1005, h⟩ := h
  refine s_L_168 hX hr1005 dL_law_461 (Nat.le_of_ble_eq_true rfl) (ct_X6_errorOffset (d := d + 9) (lst hX) h) (fun r1006 w1007 z1008 h => ?_)
  refine vw_icmp_eq hX (tgt := 2935) dL_law_464 (by decide) (fun c1009 => ?_) (fun c1009 => ?_)
  · have h := h.1 c1009
    exact pB_L_law_2935 hX hE hK23 _ _ _ _ _ _ _ _ h
  · have h := h.2 c1009
    refine vw_iconst hX (v := 0) dL_law_467 (by decide) ?_
    exact vw_lawret hX hE dL_law_468 h
def B_L_law_443 (a0 : Nat) (K23 : Nat → Nat → Nat → Int32 → Mm → Nat → Nat → Nat → Prop) (Q : Int32 → Mm → Nat → Prop) (x1 : Nat) (x2 : Nat) (x3 : Nat) (x4 : Int32) (w : Mm) (z : Nat) (mc : Nat) (ms : Nat) : Prop :=
  isO w x1 9 ∧ F_X5_errorCode x1 w z (fun r1011 w1012 z1013 => isO w1012 x2 10 ∧ F_X6_errorCode x2 w1012 z1013 (fun r1015 w1016 z1017 => (r1011 = r1015 → B_L_law_2935 a0 K23 Q x1 x2 x3 x4 w1016 z1017 mc ms) ∧
  (¬ r1011 = r1015 → Q 0 w1016 z1017)))
set_option maxRecDepth 100000 in
set_option maxHeartbeats 4000000 in
theorem pB_L_law_443 {C : Cx} {d : Nat} {a0 : Nat} {K23 : Nat → Nat → Nat → Int32 → Mm → Nat → Nat → Nat → Prop} (hX : CX C cL_law RL 9 (some .boolean) [] (d + 11)) (hE : EL C) (hK23 : ∀ (x1 : Nat) (x2 : Nat) (x3 : Nat) (x4 : Int32) (w : Mm) (z mc ms : Nat), K23 x1 x2 x3 x4 w z mc ms → VW C 23 [(0, .ref (a0)), (1, .ref (x1)), (2, .ref (x2)), (3, .ref (x3)), (4, .int (x4))] [] w z mc ms) : ∀ (x1 : Nat) (x2 : Nat) (x3 : Nat) (x4 : Int32) (w : Mm) (z mc ms : Nat), B_L_law_443 a0 K23 lawQ x1 x2 x3 x4 w z mc ms → VW C 443 [(0, .ref (a0)), (1, .ref (x1)), (2, .ref (x2)), (3, .ref (x3)), (4, .int (x4))] [] w z mc ms := by
  intro x1 x2 x3 x4 w z mc ms h
  unfold B_L_law_443 at h
  refine vw_aload_n hX 1 dL_law_443 rfl ?_
  obtain ⟨hr1010, h⟩ := h
  refine s_L_161 hX hr1010 dL_law_444 (Nat.le_of_ble_eq_true rfl) (ct_X5_errorCode (d := d + 10) (lst hX) h) (fun r1011 w1012 z1013 h => ?_)
  refine vw_aload_n hX 2 dL_law_447 rfl ?_
  obtain ⟨hr1014, h⟩ := h
  refine s_L_164 hX hr1014 dL_law_448 (Nat.le_of_ble_eq_true rfl) (ct_X6_errorCode (d := d + 9) (lst hX) h) (fun r1015 w1016 z1017 h => ?_)
  refine vw_icmp_eq hX (tgt := 2935) dL_law_451 (by decide) (fun c1018 => ?_) (fun c1018 => ?_)
  · have h := h.1 c1018
    exact pB_L_law_2935 hX hE hK23 _ _ _ _ _ _ _ _ h
  · have h := h.2 c1018
    refine vw_iconst hX (v := 0) dL_law_454 (by decide) ?_
    exact vw_lawret hX hE dL_law_455 h
def B_L_law_430 (a0 : Nat) (K23 : Nat → Nat → Nat → Int32 → Mm → Nat → Nat → Nat → Prop) (Q : Int32 → Mm → Nat → Prop) (x1 : Nat) (x2 : Nat) (x3 : Nat) (x4 : Int32) (w : Mm) (z : Nat) (mc : Nat) (ms : Nat) : Prop :=
  isO w x1 9 ∧ F_X5_play x1 w z (fun r1020 w1021 z1022 => isO w1021 x2 10 ∧ F_X6_play x2 w1021 z1022 (fun r1024 w1025 z1026 => (r1020 = r1024 → B_L_law_2935 a0 K23 Q x1 x2 x3 x4 w1025 z1026 mc ms) ∧
  (¬ r1020 = r1024 → Q 0 w1025 z1026)))
set_option maxRecDepth 100000 in
set_option maxHeartbeats 4000000 in
theorem pB_L_law_430 {C : Cx} {d : Nat} {a0 : Nat} {K23 : Nat → Nat → Nat → Int32 → Mm → Nat → Nat → Nat → Prop} (hX : CX C cL_law RL 9 (some .boolean) [] (d + 11)) (hE : EL C) (hK23 : ∀ (x1 : Nat) (x2 : Nat) (x3 : Nat) (x4 : Int32) (w : Mm) (z mc ms : Nat), K23 x1 x2 x3 x4 w z mc ms → VW C 23 [(0, .ref (a0)), (1, .ref (x1)), (2, .ref (x2)), (3, .ref (x3)), (4, .int (x4))] [] w z mc ms) : ∀ (x1 : Nat) (x2 : Nat) (x3 : Nat) (x4 : Int32) (w : Mm) (z mc ms : Nat), B_L_law_430 a0 K23 lawQ x1 x2 x3 x4 w z mc ms → VW C 430 [(0, .ref (a0)), (1, .ref (x1)), (2, .ref (x2)), (3, .ref (x3)), (4, .int (x4))] [] w z mc ms := by
  intro x1 x2 x3 x4 w z mc ms h
  unfold B_L_law_430 at h
  refine vw_aload_n hX 1 dL_law_430 rfl ?_
  obtain ⟨hr1019, h⟩ := h
  refine s_L_157 hX hr1019 dL_law_431 (Nat.le_of_ble_eq_true rfl) (ct_X5_play (d := d + 1) (lst hX) h) (fun r1020 w1021 z1022 h => ?_)
  refine vw_aload_n hX 2 dL_law_434 rfl ?_
  obtain ⟨hr1023, h⟩ := h
  refine s_L_160 hX hr1023 dL_law_435 (Nat.le_of_ble_eq_true rfl) (ct_X6_play (d := d + 2) (lst hX) h) (fun r1024 w1025 z1026 h => ?_)
  refine vw_icmp_eq hX (tgt := 2935) dL_law_438 (by decide) (fun c1027 => ?_) (fun c1027 => ?_)
  · have h := h.1 c1027
    exact pB_L_law_2935 hX hE hK23 _ _ _ _ _ _ _ _ h
  · have h := h.2 c1027
    refine vw_iconst hX (v := 0) dL_law_441 (by decide) ?_
    exact vw_lawret hX hE dL_law_442 h
def B_L_law_417 (a0 : Nat) (K23 : Nat → Nat → Nat → Int32 → Mm → Nat → Nat → Nat → Prop) (Q : Int32 → Mm → Nat → Prop) (x1 : Nat) (x2 : Nat) (x3 : Nat) (x4 : Int32) (w : Mm) (z : Nat) (mc : Nat) (ms : Nat) : Prop :=
  isO w x1 9 ∧ ∃ k1032 k1033, k1032 ≤ mc ∧ k1033 ≤ ms ∧ F_X5_load x1 w z k1032 k1033 (fun r1029 w1030 z1031 => isO w1030 x2 10 ∧ F_X6_load x2 w1030 z1031 (fun r1035 w1036 z1037 => (r1029 = r1035 → B_L_law_2935 a0 K23 Q x1 x2 x3 x4 w1036 z1037 ((mc - k1032)) ((ms - k1033))) ∧
  (¬ r1029 = r1035 → Q 0 w1036 z1037)))
set_option maxRecDepth 100000 in
set_option maxHeartbeats 4000000 in
theorem pB_L_law_417 {C : Cx} {d : Nat} {a0 : Nat} {K23 : Nat → Nat → Nat → Int32 → Mm → Nat → Nat → Nat → Prop} (hX : CX C cL_law RL 9 (some .boolean) [] (d + 11)) (hE : EL C) (hK23 : ∀ (x1 : Nat) (x2 : Nat) (x3 : Nat) (x4 : Int32) (w : Mm) (z mc ms : Nat), K23 x1 x2 x3 x4 w z mc ms → VW C 23 [(0, .ref (a0)), (1, .ref (x1)), (2, .ref (x2)), (3, .ref (x3)), (4, .int (x4))] [] w z mc ms) : ∀ (x1 : Nat) (x2 : Nat) (x3 : Nat) (x4 : Int32) (w : Mm) (z mc ms : Nat), B_L_law_417 a0 K23 lawQ x1 x2 x3 x4 w z mc ms → VW C 417 [(0, .ref (a0)), (1, .ref (x1)), (2, .ref (x2)), (3, .ref (x3)), (4, .int (x4))] [] w z mc ms := by
  intro x1 x2 x3 x4 w z mc ms h
  unfold B_L_law_417 at h
  refine vw_aload_n hX 1 dL_law_417 rfl ?_
  obtain ⟨hr1028, h⟩ := h
  obtain ⟨k1032, k1033, hm1, hm2, h⟩ := h
  refine s_L_153 hX hr1028 dL_law_418 (Nat.le_of_ble_eq_true rfl) hm1 hm2 (ct_X5_load (d := d + 0) (lst hX) h) (fun r1029 w1030 z1031 h => ?_)
  refine vw_aload_n hX 2 dL_law_421 rfl ?_
  obtain ⟨hr1034, h⟩ := h
  refine s_L_156 hX hr1034 dL_law_422 (Nat.le_of_ble_eq_true rfl) (ct_X6_load (d := d + 2) (lst hX) h) (fun r1035 w1036 z1037 h => ?_)
  refine vw_icmp_eq hX (tgt := 2935) dL_law_425 (by decide) (fun c1038 => ?_) (fun c1038 => ?_)
  · have h := h.1 c1038
    exact pB_L_law_2935 hX hE hK23 _ _ _ _ _ _ _ _ h
  · have h := h.2 c1038
    refine vw_iconst hX (v := 0) dL_law_428 (by decide) ?_
    exact vw_lawret hX hE dL_law_429 h
def B_L_law_414 (a0 : Nat) (K23 : Nat → Nat → Nat → Int32 → Mm → Nat → Nat → Nat → Prop) (Q : Int32 → Mm → Nat → Prop) (x1 : Nat) (x2 : Nat) (x3 : Nat) (x4 : Int32) (w : Mm) (z : Nat) (mc : Nat) (ms : Nat) : Prop :=
  B_L_law_2935 a0 K23 Q x1 x2 x3 x4 w z mc ms
set_option maxRecDepth 100000 in
set_option maxHeartbeats 4000000 in
theorem pB_L_law_414 {C : Cx} {d : Nat} {a0 : Nat} {K23 : Nat → Nat → Nat → Int32 → Mm → Nat → Nat → Nat → Prop} (hX : CX C cL_law RL 9 (some .boolean) [] (d + 11)) (hE : EL C) (hK23 : ∀ (x1 : Nat) (x2 : Nat) (x3 : Nat) (x4 : Int32) (w : Mm) (z mc ms : Nat), K23 x1 x2 x3 x4 w z mc ms → VW C 23 [(0, .ref (a0)), (1, .ref (x1)), (2, .ref (x2)), (3, .ref (x3)), (4, .int (x4))] [] w z mc ms) : ∀ (x1 : Nat) (x2 : Nat) (x3 : Nat) (x4 : Int32) (w : Mm) (z mc ms : Nat), B_L_law_414 a0 K23 lawQ x1 x2 x3 x4 w z mc ms → VW C 414 [(0, .ref (a0)), (1, .ref (x1)), (2, .ref (x2)), (3, .ref (x3)), (4, .int (x4))] [] w z mc ms := by
  intro x1 x2 x3 x4 w z mc ms h
  unfold B_L_law_414 at h
  refine vw_goto hX (tgt := 2935) dL_law_414 (by decide) ?_
  exact pB_L_law_2935 hX hE hK23 _ _ _ _ _ _ _ _ h
def B_L_law_361 (a0 : Nat) (K23 : Nat → Nat → Nat → Int32 → Mm → Nat → Nat → Nat → Prop) (Q : Int32 → Mm → Nat → Prop) (x1 : Nat) (x2 : Nat) (x3 : Nat) (x4 : Int32) (w : Mm) (z : Nat) (mc : Nat) (ms : Nat) : Prop :=
  ∃ n1040 f1039, arI w a0 0 = some (n1040, f1039) ∧ vp_in ((x4 + 1)) n1040 ∧ ∃ k1044 k1045, k1044 ≤ mc ∧ k1045 ≤ ms ∧ F_L_truncateInput x1 ((f1039 ((x4 + 1) : Int32).toNatClampNeg)) x3 w z k1044 k1045 (fun r1041 w1042 z1043 => ∃ n1047 f1046, arI w1042 a0 0 = some (n1047, f1046) ∧ vp_in ((x4 + 1)) n1047 ∧ isO w1042 x2 10 ∧ F_X6_truncateInput x2 ((f1046 ((x4 + 1) : Int32).toNatClampNeg)) w1042 z1043 (fun r1049 w1050 z1051 => isO w1050 x2 10 ∧ F_X6_thrown x2 w1050 z1051 (fun r1053 w1054 z1055 => (r1053 = r1041 → (¬ r1041 = 0 → B_L_law_414 a0 K23 Q x1 x2 x3 x4 w1054 z1055 ((mc - k1044)) ((ms - k1045))) ∧
  (r1041 = 0 → ∃ n1059 f1058, arL w1054 x3 = some (n1059, f1058) ∧ vp_in 0 n1059 ∧ (((lg_cmp ((f1058 (0 : Int32).toNatClampNeg)) ((r1049 : Int32).toInt64))) = 0 → B_L_law_414 a0 K23 Q x1 x2 x3 x4 w1054 z1055 ((mc - k1044)) ((ms - k1045))) ∧
  (¬ ((lg_cmp ((f1058 (0 : Int32).toNatClampNeg)) ((r1049 : Int32).toInt64))) = 0 → Q 0 w1054 z1055))) ∧
  (¬ r1053 = r1041 → Q 0 w1054 z1055))))
set_option maxRecDepth 100000 in
set_option maxHeartbeats 4000000 in
theorem pB_L_law_361 {C : Cx} {d : Nat} {a0 : Nat} {K23 : Nat → Nat → Nat → Int32 → Mm → Nat → Nat → Nat → Prop} (hX : CX C cL_law RL 9 (some .boolean) [] (d + 11)) (hE : EL C) (hK23 : ∀ (x1 : Nat) (x2 : Nat) (x3 : Nat) (x4 : Int32) (w : Mm) (z mc ms : Nat), K23 x1 x2 x3 x4 w z mc ms → VW C 23 [(0, .ref (a0)), (1, .ref (x1)), (2, .ref (x2)), (3, .ref (x3)), (4, .int (x4))] [] w z mc ms) : ∀ (x1 : Nat) (x2 : Nat) (x3 : Nat) (x4 : Int32) (w : Mm) (z mc ms : Nat), B_L_law_361 a0 K23 lawQ x1 x2 x3 x4 w z mc ms → VW C 361 [(0, .ref (a0)), (1, .ref (x1)), (2, .ref (x2)), (3, .ref (x3)), (4, .int (x4))] [] w z mc ms := by
  intro x1 x2 x3 x4 w z mc ms h
  unfold B_L_law_361 at h
  refine vw_aload_n hX 1 dL_law_361 rfl ?_
  refine vw_aload_n hX 0 dL_law_362 rfl ?_
  refine vw_iload hX 4 dL_law_363 rfl ?_
  refine vw_iconst hX (v := 1) dL_law_365 (by decide) ?_
  refine vw_iadd hX dL_law_366 ?_
  obtain ⟨n1040, f1039, hf1039, hif1039, h⟩ := h
  refine vw_iald hX hf1039 hif1039 dL_law_367 ?_
  refine vw_aload_n hX 3 dL_law_368 rfl ?_
  obtain ⟨k1044, k1045, hm1, hm2, h⟩ := h
  refine s_L_144 hX dL_law_369 (Nat.le_of_ble_eq_true rfl) hm1 hm2 (ct_L_truncateInput (d := d + 3) (lst hX) h) (fun r1041 w1042 z1043 h => ?_)
  refine vw_istore hX dL_law_372 (by decide) rfl ?_
  refine vw_aload_n hX 3 dL_law_374 rfl ?_
  refine vw_aload_n hX 1 dL_law_375 rfl ?_
  refine vw_iload hX 5 dL_law_376 rfl ?_
  refine vw_iconst hX (v := 1) dL_law_378 (by decide) ?_
  refine vw_iadd hX dL_law_379 ?_
  obtain ⟨n1047, f1046, hf1046, hif1046, h⟩ := h
  refine vw_iald hX hf1046 hif1046 dL_law_380 ?_
  obtain ⟨hr1048, h⟩ := h
  refine s_L_149 hX hr1048 dL_law_381 (Nat.le_of_ble_eq_true rfl) (ct_X6_truncateInput (d := d + 9) (lst hX) h) (fun r1049 w1050 z1051 h => ?_)
  refine vw_istore hX dL_law_384 (by decide) rfl ?_
  refine vw_aload_n hX 4 dL_law_386 rfl ?_
  obtain ⟨hr1052, h⟩ := h
  refine s_L_150 hX hr1052 dL_law_387 (Nat.le_of_ble_eq_true rfl) (ct_X6_thrown (d := d + 10) (lst hX) h) (fun r1053 w1054 z1055 h => ?_)
  refine vw_iload hX 1 dL_law_390 rfl ?_
  refine vw_icmp_eq hX (tgt := 397) dL_law_392 (by decide) (fun c1056 => ?_) (fun c1056 => ?_)
  · have h := h.1 c1056
    refine vw_iload hX 1 dL_law_397 rfl ?_
    refine vw_if_ne hX (tgt := 414) dL_law_399 (by decide) (fun c1057 => ?_) (fun c1057 => ?_)
    · have h := h.1 c1057
      exact vw_sub [2, 3, 4, 5, 6] rfl (pB_L_law_414 hX hE hK23 _ _ _ _ _ _ _ _ h)
    · have h := h.2 c1057
      refine vw_aload_n hX 5 dL_law_402 rfl ?_
      refine vw_iconst hX (v := 0) dL_law_403 (by decide) ?_
      obtain ⟨n1059, f1058, hf1058, hif1058, h⟩ := h
      refine vw_lald hX hf1058 hif1058 dL_law_404 ?_
      refine vw_iload hX 0 dL_law_405 rfl ?_
      refine vw_i2l hX dL_law_407 ?_
      refine vw_lcmp hX dL_law_408 ?_
      refine vw_if_eq hX (tgt := 414) dL_law_409 (by decide) (fun c1060 => ?_) (fun c1060 => ?_)
      · have h := h.1 c1060
        exact vw_sub [2, 3, 4, 5, 6] rfl (pB_L_law_414 hX hE hK23 _ _ _ _ _ _ _ _ h)
      · have h := h.2 c1060
        refine vw_iconst hX (v := 0) dL_law_412 (by decide) ?_
        exact vw_lawret hX hE dL_law_413 h
  · have h := h.2 c1056
    refine vw_iconst hX (v := 0) dL_law_395 (by decide) ?_
    exact vw_lawret hX hE dL_law_396 h
def B_L_law_288 (a0 : Nat) (K23 : Nat → Nat → Nat → Int32 → Mm → Nat → Nat → Nat → Prop) (Q : Int32 → Mm → Nat → Prop) (x1 : Nat) (x2 : Nat) (x3 : Nat) (x4 : Int32) (w : Mm) (z : Nat) (mc : Nat) (ms : Nat) : Prop :=
  ∃ n1062 f1061, arI w a0 0 = some (n1062, f1061) ∧ vp_in ((x4 + 1)) n1062 ∧ ∃ n1064 f1063, arI w a0 0 = some (n1064, f1063) ∧ vp_in ((x4 + 2)) n1064 ∧ ∃ n1066 f1065, arI w a0 0 = some (n1066, f1065) ∧ vp_in ((x4 + 3)) n1066 ∧ ∃ n1068 f1067, arI w a0 0 = some (n1068, f1067) ∧ vp_in ((x4 + 4)) n1068 ∧ ∃ n1070 f1069, arI w a0 0 = some (n1070, f1069) ∧ vp_in ((x4 + 5)) n1070 ∧ isO w x1 9 ∧ F_X5_append x1 ((f1061 ((x4 + 1) : Int32).toNatClampNeg)) ((f1063 ((x4 + 2) : Int32).toNatClampNeg)) ((f1065 ((x4 + 3) : Int32).toNatClampNeg)) ((f1067 ((x4 + 4) : Int32).toNatClampNeg)) ((f1069 ((x4 + 5) : Int32).toNatClampNeg)) w z (fun r1072 w1073 z1074 => ∃ n1076 f1075, arI w1073 a0 0 = some (n1076, f1075) ∧ vp_in ((x4 + 1)) n1076 ∧ ∃ n1078 f1077, arI w1073 a0 0 = some (n1078, f1077) ∧ vp_in ((x4 + 2)) n1078 ∧ ∃ n1080 f1079, arI w1073 a0 0 = some (n1080, f1079) ∧ vp_in ((x4 + 3)) n1080 ∧ ∃ n1082 f1081, arI w1073 a0 0 = some (n1082, f1081) ∧ vp_in ((x4 + 4)) n1082 ∧ ∃ n1084 f1083, arI w1073 a0 0 = some (n1084, f1083) ∧ vp_in ((x4 + 5)) n1084 ∧ isO w1073 x2 10 ∧ F_X6_append x2 ((f1075 ((x4 + 1) : Int32).toNatClampNeg)) ((f1077 ((x4 + 2) : Int32).toNatClampNeg)) ((f1079 ((x4 + 3) : Int32).toNatClampNeg)) ((f1081 ((x4 + 4) : Int32).toNatClampNeg)) ((f1083 ((x4 + 5) : Int32).toNatClampNeg)) w1073 z1074 (fun r1086 w1087 z1088 => (r1072 = r1086 → B_L_law_2935 a0 K23 Q x1 x2 x3 x4 w1087 z1088 mc ms) ∧
  (¬ r1072 = r1086 → Q 0 w1087 z1088)))
set_option maxRecDepth 100000 in
set_option maxHeartbeats 4000000 in
theorem pB_L_law_288 {C : Cx} {d : Nat} {a0 : Nat} {K23 : Nat → Nat → Nat → Int32 → Mm → Nat → Nat → Nat → Prop} (hX : CX C cL_law RL 9 (some .boolean) [] (d + 11)) (hE : EL C) (hK23 : ∀ (x1 : Nat) (x2 : Nat) (x3 : Nat) (x4 : Int32) (w : Mm) (z mc ms : Nat), K23 x1 x2 x3 x4 w z mc ms → VW C 23 [(0, .ref (a0)), (1, .ref (x1)), (2, .ref (x2)), (3, .ref (x3)), (4, .int (x4))] [] w z mc ms) : ∀ (x1 : Nat) (x2 : Nat) (x3 : Nat) (x4 : Int32) (w : Mm) (z mc ms : Nat), B_L_law_288 a0 K23 lawQ x1 x2 x3 x4 w z mc ms → VW C 288 [(0, .ref (a0)), (1, .ref (x1)), (2, .ref (x2)), (3, .ref (x3)), (4, .int (x4))] [] w z mc ms := by
  intro x1 x2 x3 x4 w z mc ms h
  unfold B_L_law_288 at h
  refine vw_aload_n hX 1 dL_law_288 rfl ?_
  refine vw_aload_n hX 0 dL_law_289 rfl ?_
  refine vw_iload hX 4 dL_law_290 rfl ?_
  refine vw_iconst hX (v := 1) dL_law_292 (by decide) ?_
  refine vw_iadd hX dL_law_293 ?_
  obtain ⟨n1062, f1061, hf1061, hif1061, h⟩ := h
  refine vw_iald hX hf1061 hif1061 dL_law_294 ?_
  refine vw_aload_n hX 0 dL_law_295 rfl ?_
  refine vw_iload hX 4 dL_law_296 rfl ?_
  refine vw_iconst hX (v := 2) dL_law_298 (by decide) ?_
  refine vw_iadd hX dL_law_299 ?_
  obtain ⟨n1064, f1063, hf1063, hif1063, h⟩ := h
  refine vw_iald hX hf1063 hif1063 dL_law_300 ?_
  refine vw_aload_n hX 0 dL_law_301 rfl ?_
  refine vw_iload hX 4 dL_law_302 rfl ?_
  refine vw_iconst hX (v := 3) dL_law_304 (by decide) ?_
  refine vw_iadd hX dL_law_305 ?_
  obtain ⟨n1066, f1065, hf1065, hif1065, h⟩ := h
  refine vw_iald hX hf1065 hif1065 dL_law_306 ?_
  refine vw_aload_n hX 0 dL_law_307 rfl ?_
  refine vw_iload hX 4 dL_law_308 rfl ?_
  refine vw_iconst hX (v := 4) dL_law_310 (by decide) ?_
  refine vw_iadd hX dL_law_311 ?_
  obtain ⟨n1068, f1067, hf1067, hif1067, h⟩ := h
  refine vw_iald hX hf1067 hif1067 dL_law_312 ?_
  refine vw_aload_n hX 0 dL_law_313 rfl ?_
  refine vw_iload hX 4 dL_law_314 rfl ?_
  refine vw_iconst hX (v := 5) dL_law_316 (by decide) ?_
  refine vw_iadd hX dL_law_317 ?_
  obtain ⟨n1070, f1069, hf1069, hif1069, h⟩ := h
  refine vw_iald hX hf1069 hif1069 dL_law_318 ?_
  obtain ⟨hr1071, h⟩ := h
  refine s_L_139 hX hr1071 dL_law_319 (Nat.le_of_ble_eq_true rfl) (ct_X5_append (d := d + 9) (lst hX) h) (fun r1072 w1073 z1074 h => ?_)
  refine vw_aload_n hX 2 dL_law_322 rfl ?_
  refine vw_aload_n hX 0 dL_law_323 rfl ?_
  refine vw_iload hX 4 dL_law_324 rfl ?_
  refine vw_iconst hX (v := 1) dL_law_326 (by decide) ?_
  refine vw_iadd hX dL_law_327 ?_
  obtain ⟨n1076, f1075, hf1075, hif1075, h⟩ := h
  refine vw_iald hX hf1075 hif1075 dL_law_328 ?_
  refine vw_aload_n hX 0 dL_law_329 rfl ?_
  refine vw_iload hX 4 dL_law_330 rfl ?_
  refine vw_iconst hX (v := 2) dL_law_332 (by decide) ?_
  refine vw_iadd hX dL_law_333 ?_
  obtain ⟨n1078, f1077, hf1077, hif1077, h⟩ := h
  refine vw_iald hX hf1077 hif1077 dL_law_334 ?_
  refine vw_aload_n hX 0 dL_law_335 rfl ?_
  refine vw_iload hX 4 dL_law_336 rfl ?_
  refine vw_iconst hX (v := 3) dL_law_338 (by decide) ?_
  refine vw_iadd hX dL_law_339 ?_
  obtain ⟨n1080, f1079, hf1079, hif1079, h⟩ := h
  refine vw_iald hX hf1079 hif1079 dL_law_340 ?_
  refine vw_aload_n hX 0 dL_law_341 rfl ?_
  refine vw_iload hX 4 dL_law_342 rfl ?_
  refine vw_iconst hX (v := 4) dL_law_344 (by decide) ?_
  refine vw_iadd hX dL_law_345 ?_
  obtain ⟨n1082, f1081, hf1081, hif1081, h⟩ := h
  refine vw_iald hX hf1081 hif1081 dL_law_346 ?_
  refine vw_aload_n hX 0 dL_law_347 rfl ?_
  refine vw_iload hX 4 dL_law_348 rfl ?_
  refine vw_iconst hX (v := 5) dL_law_350 (by decide) ?_
  refine vw_iadd hX dL_law_351 ?_
  obtain ⟨n1084, f1083, hf1083, hif1083, h⟩ := h
  refine vw_iald hX hf1083 hif1083 dL_law_352 ?_
  obtain ⟨hr1085, h⟩ := h
  refine s_L_143 hX hr1085 dL_law_353 (Nat.le_of_ble_eq_true rfl) (ct_X6_append (d := d + 9) (lst hX) h) (fun r1086 w1087 z1088 h => ?_)
  refine vw_icmp_eq hX (tgt := 2935) dL_law_356 (by decide) (fun c1089 => ?_) (fun c1089 => ?_)
  · have h := h.1 c1089
    exact pB_L_law_2935 hX hE hK23 _ _ _ _ _ _ _ _ h
  · have h := h.2 c1089
    refine vw_iconst hX (v := 0) dL_law_359 (by decide) ?_
    exact vw_lawret hX hE dL_law_360 h
def B_L_law_23 (a0 : Nat) (Q : Int32 → Mm → Nat → Prop) : Nat → Nat → Nat → Nat → Int32 → Mm → Nat → Nat → Nat → Prop
  | 0, _, _, _, _, _, _, _, _ => False
  | n + 1, x1, x2, x3, x4, w, z, mc, ms => ∃ n1091 f1090, arI w a0 0 = some (n1091, f1090) ∧ (((((nI n1091)) - 6)) < x4 → Q 1 w z) ∧
  (¬ ((((nI n1091)) - 6)) < x4 → ∃ n1094 f1093, arI w a0 0 = some (n1094, f1093) ∧ vp_in x4 n1094 ∧ ∀ i1095 : Int32, i1095 = (((f1093 (x4 : Int32).toNatClampNeg)) &&& 63) → (i1095 = 0 → B_L_law_288 a0 (B_L_law_23 a0 Q n) Q x1 x2 x3 x4 w z mc ms) ∧
  (i1095 = 1 → B_L_law_361 a0 (B_L_law_23 a0 Q n) Q x1 x2 x3 x4 w z mc ms) ∧
  (i1095 = 2 → B_L_law_417 a0 (B_L_law_23 a0 Q n) Q x1 x2 x3 x4 w z mc ms) ∧
  (i1095 = 3 → B_L_law_430 a0 (B_L_law_23 a0 Q n) Q x1 x2 x3 x4 w z mc ms) ∧
  (i1095 = 4 → B_L_law_443 a0 (B_L_law_23 a0 Q n) Q x1 x2 x3 x4 w z mc ms) ∧
  (i1095 = 5 → B_L_law_456 a0 (B_L_law_23 a0 Q n) Q x1 x2 x3 x4 w z mc ms) ∧
  (i1095 = 6 → B_L_law_469 a0 (B_L_law_23 a0 Q n) Q x1 x2 x3 x4 w z mc ms) ∧
  (i1095 = 7 → B_L_law_549 a0 (B_L_law_23 a0 Q n) Q x1 x2 x3 x4 w z mc ms) ∧
  (i1095 = 8 → B_L_law_641 a0 (B_L_law_23 a0 Q n) Q x1 x2 x3 x4 w z mc ms) ∧
  (i1095 = 9 → B_L_law_697 a0 (B_L_law_23 a0 Q n) Q x1 x2 x3 x4 w z mc ms) ∧
  (i1095 = 10 → B_L_law_753 a0 (B_L_law_23 a0 Q n) Q x1 x2 x3 x4 w z mc ms) ∧
  (i1095 = 11 → B_L_law_821 a0 (B_L_law_23 a0 Q n) Q x1 x2 x3 x4 w z mc ms) ∧
  (i1095 = 12 → B_L_law_877 a0 (B_L_law_23 a0 Q n) Q x1 x2 x3 x4 w z mc ms) ∧
  (i1095 = 13 → B_L_law_933 a0 (B_L_law_23 a0 Q n) Q x1 x2 x3 x4 w z mc ms) ∧
  (i1095 = 14 → B_L_law_977 a0 (B_L_law_23 a0 Q n) Q x1 x2 x3 x4 w z mc ms) ∧
  (i1095 = 15 → B_L_law_1033 a0 (B_L_law_23 a0 Q n) Q x1 x2 x3 x4 w z mc ms) ∧
  (i1095 = 16 → B_L_law_1089 a0 (B_L_law_23 a0 Q n) Q x1 x2 x3 x4 w z mc ms) ∧
  (i1095 = 17 → B_L_law_1102 a0 (B_L_law_23 a0 Q n) Q x1 x2 x3 x4 w z mc ms) ∧
  (i1095 = 18 → B_L_law_1115 a0 (B_L_law_23 a0 Q n) Q x1 x2 x3 x4 w z mc ms) ∧
  (i1095 = 19 → B_L_law_1128 a0 (B_L_law_23 a0 Q n) Q x1 x2 x3 x4 w z mc ms) ∧
  (i1095 = 20 → B_L_law_1141 a0 (B_L_law_23 a0 Q n) Q x1 x2 x3 x4 w z mc ms) ∧
  (i1095 = 21 → B_L_law_1154 a0 (B_L_law_23 a0 Q n) Q x1 x2 x3 x4 w z mc ms) ∧
  (i1095 = 22 → B_L_law_1167 a0 (B_L_law_23 a0 Q n) Q x1 x2 x3 x4 w z mc ms) ∧
  (i1095 = 23 → B_L_law_1180 a0 (B_L_law_23 a0 Q n) Q x1 x2 x3 x4 w z mc ms) ∧
  (i1095 = 24 → B_L_law_1236 a0 (B_L_law_23 a0 Q n) Q x1 x2 x3 x4 w z mc ms) ∧
  (i1095 = 25 → B_L_law_1304 a0 (B_L_law_23 a0 Q n) Q x1 x2 x3 x4 w z mc ms) ∧
  (i1095 = 26 → B_L_law_1360 a0 (B_L_law_23 a0 Q n) Q x1 x2 x3 x4 w z mc ms) ∧
  (i1095 = 27 → B_L_law_1423 a0 (B_L_law_23 a0 Q n) Q x1 x2 x3 x4 w z mc ms) ∧
  (i1095 = 28 → B_L_law_1479 a0 (B_L_law_23 a0 Q n) Q x1 x2 x3 x4 w z mc ms) ∧
  (i1095 = 29 → B_L_law_1535 a0 (B_L_law_23 a0 Q n) Q x1 x2 x3 x4 w z mc ms) ∧
  (i1095 = 30 → B_L_law_1591 a0 (B_L_law_23 a0 Q n) Q x1 x2 x3 x4 w z mc ms) ∧
  (i1095 = 31 → B_L_law_1647 a0 (B_L_law_23 a0 Q n) Q x1 x2 x3 x4 w z mc ms) ∧
  (i1095 = 32 → B_L_law_1703 a0 (B_L_law_23 a0 Q n) Q x1 x2 x3 x4 w z mc ms) ∧
  (i1095 = 33 → B_L_law_1771 a0 (B_L_law_23 a0 Q n) Q x1 x2 x3 x4 w z mc ms) ∧
  (i1095 = 34 → B_L_law_1839 a0 (B_L_law_23 a0 Q n) Q x1 x2 x3 x4 w z mc ms) ∧
  (i1095 = 35 → B_L_law_1895 a0 (B_L_law_23 a0 Q n) Q x1 x2 x3 x4 w z mc ms) ∧
  (i1095 = 36 → B_L_law_1951 a0 (B_L_law_23 a0 Q n) Q x1 x2 x3 x4 w z mc ms) ∧
  (i1095 = 37 → B_L_law_2007 a0 (B_L_law_23 a0 Q n) Q x1 x2 x3 x4 w z mc ms) ∧
  (i1095 = 38 → B_L_law_2063 a0 (B_L_law_23 a0 Q n) Q x1 x2 x3 x4 w z mc ms) ∧
  (i1095 = 39 → B_L_law_2119 a0 (B_L_law_23 a0 Q n) Q x1 x2 x3 x4 w z mc ms) ∧
  (i1095 = 40 → B_L_law_2175 a0 (B_L_law_23 a0 Q n) Q x1 x2 x3 x4 w z mc ms) ∧
  (i1095 = 41 → B_L_law_2231 a0 (B_L_law_23 a0 Q n) Q x1 x2 x3 x4 w z mc ms) ∧
  (i1095 = 42 → B_L_law_2294 a0 (B_L_law_23 a0 Q n) Q x1 x2 x3 x4 w z mc ms) ∧
  (i1095 = 43 → B_L_law_2350 a0 (B_L_law_23 a0 Q n) Q x1 x2 x3 x4 w z mc ms) ∧
  (i1095 = 44 → B_L_law_2406 a0 (B_L_law_23 a0 Q n) Q x1 x2 x3 x4 w z mc ms) ∧
  (i1095 = 45 → B_L_law_2462 a0 (B_L_law_23 a0 Q n) Q x1 x2 x3 x4 w z mc ms) ∧
  (i1095 = 46 → B_L_law_2518 a0 (B_L_law_23 a0 Q n) Q x1 x2 x3 x4 w z mc ms) ∧
  (i1095 = 47 → B_L_law_2574 a0 (B_L_law_23 a0 Q n) Q x1 x2 x3 x4 w z mc ms) ∧
  (i1095 = 48 → B_L_law_2630 a0 (B_L_law_23 a0 Q n) Q x1 x2 x3 x4 w z mc ms) ∧
  (i1095 = 49 → B_L_law_2693 a0 (B_L_law_23 a0 Q n) Q x1 x2 x3 x4 w z mc ms) ∧
  (i1095 = 50 → B_L_law_2761 a0 (B_L_law_23 a0 Q n) Q x1 x2 x3 x4 w z mc ms) ∧
  (i1095 = 51 → B_L_law_2774 a0 (B_L_law_23 a0 Q n) Q x1 x2 x3 x4 w z mc ms) ∧
  (i1095 = 52 → B_L_law_2787 a0 (B_L_law_23 a0 Q n) Q x1 x2 x3 x4 w z mc ms) ∧
  (i1095 = 53 → B_L_law_2800 a0 (B_L_law_23 a0 Q n) Q x1 x2 x3 x4 w z mc ms) ∧
  (i1095 = 54 → B_L_law_2813 a0 (B_L_law_23 a0 Q n) Q x1 x2 x3 x4 w z mc ms) ∧
  (i1095 = 55 → B_L_law_2854 a0 (B_L_law_23 a0 Q n) Q x1 x2 x3 x4 w z mc ms) ∧
  (i1095 = 56 → B_L_law_2897 a0 (B_L_law_23 a0 Q n) Q x1 x2 x3 x4 w z mc ms) ∧
  (i1095 = 57 → B_L_law_2910 a0 (B_L_law_23 a0 Q n) Q x1 x2 x3 x4 w z mc ms) ∧
  ((∀ k : Nat, k ≤ 57 → ¬ i1095 = nI k) → B_L_law_2935 a0 (B_L_law_23 a0 Q n) Q x1 x2 x3 x4 w z mc ms))
set_option maxRecDepth 100000 in
set_option maxHeartbeats 4000000 in
theorem pB_L_law_23 {C : Cx} {d : Nat} {a0 : Nat} (hX : CX C cL_law RL 9 (some .boolean) [] (d + 11)) (hE : EL C) : ∀ (n : Nat) (x1 : Nat) (x2 : Nat) (x3 : Nat) (x4 : Int32) (w : Mm) (z mc ms : Nat), B_L_law_23 a0 lawQ n x1 x2 x3 x4 w z mc ms → VW C 23 [(0, .ref (a0)), (1, .ref (x1)), (2, .ref (x2)), (3, .ref (x3)), (4, .int (x4))] [] w z mc ms := by
  intro n
  induction n with
  | zero => intro x1 x2 x3 x4 w z mc ms h; exact False.elim h
  | succ n ih =>
    intro x1 x2 x3 x4 w z mc ms h
    unfold B_L_law_23 at h
    refine vw_iload hX 4 dL_law_23 rfl ?_
    refine vw_aload_n hX 0 dL_law_25 rfl ?_
    obtain ⟨n1091, f1090, hf1090, h⟩ := h
    refine vw_alen hX 0 (by decide) hf1090 dL_law_26 ?_
    refine vw_bipush hX (v := 6) dL_law_27 (by decide) ?_
    refine vw_isub hX dL_law_29 ?_
    refine vw_icmp_gt hX (tgt := 2941) dL_law_30 (by decide) (fun c1092 => ?_) (fun c1092 => ?_)
    · have h := h.1 c1092
      refine vw_iconst hX (v := 1) dL_law_2941 (by decide) ?_
      exact vw_lawret hX hE dL_law_2942 h
    · have h := h.2 c1092
      refine vw_aload_n hX 0 dL_law_33 rfl ?_
      refine vw_iload hX 4 dL_law_34 rfl ?_
      obtain ⟨n1094, f1093, hf1093, hif1093, h⟩ := h
      refine vw_iald hX hf1093 hif1093 dL_law_36 ?_
      refine vw_bipush hX (v := 63) dL_law_37 (by decide) ?_
      refine vw_iand hX dL_law_39 ?_
      refine vw_nmI (fun i1095 ei1095 => ?_)
      have h := h i1095 ei1095
      by_cases c0 : i1095 = 0
      · have h9 := h.1 c0
        clear h
        have h := h9
        clear h9
        subst c0
        refine vw_swIn hX (tgt := 288) dL_law_40 (by decide) (by decide) rfl (by decide) ?_
        exact pB_L_law_288 hX hE ih _ _ _ _ _ _ _ _ h
      replace h := h.2
      by_cases c1 : i1095 = 1
      · have h9 := h.1 c1
        clear h
        have h := h9
        clear h9
        subst c1
        refine vw_swIn hX (tgt := 361) dL_law_40 (by decide) (by decide) rfl (by decide) ?_
        exact pB_L_law_361 hX hE ih _ _ _ _ _ _ _ _ h
      replace h := h.2
      by_cases c2 : i1095 = 2
      · have h9 := h.1 c2
        clear h
        have h := h9
        clear h9
        subst c2
        refine vw_swIn hX (tgt := 417) dL_law_40 (by decide) (by decide) rfl (by decide) ?_
        exact pB_L_law_417 hX hE ih _ _ _ _ _ _ _ _ h
      replace h := h.2
      by_cases c3 : i1095 = 3
      · have h9 := h.1 c3
        clear h
        have h := h9
        clear h9
        subst c3
        refine vw_swIn hX (tgt := 430) dL_law_40 (by decide) (by decide) rfl (by decide) ?_
        exact pB_L_law_430 hX hE ih _ _ _ _ _ _ _ _ h
      replace h := h.2
      by_cases c4 : i1095 = 4
      · have h9 := h.1 c4
        clear h
        have h := h9
        clear h9
        subst c4
        refine vw_swIn hX (tgt := 443) dL_law_40 (by decide) (by decide) rfl (by decide) ?_
        exact pB_L_law_443 hX hE ih _ _ _ _ _ _ _ _ h
      replace h := h.2
      by_cases c5 : i1095 = 5
      · have h9 := h.1 c5
        clear h
        have h := h9
        clear h9
        subst c5
        refine vw_swIn hX (tgt := 456) dL_law_40 (by decide) (by decide) rfl (by decide) ?_
        exact pB_L_law_456 hX hE ih _ _ _ _ _ _ _ _ h
      replace h := h.2
      by_cases c6 : i1095 = 6
      · have h9 := h.1 c6
        clear h
        have h := h9
        clear h9
        subst c6
        refine vw_swIn hX (tgt := 469) dL_law_40 (by decide) (by decide) rfl (by decide) ?_
        exact pB_L_law_469 hX hE ih _ _ _ _ _ _ _ _ h
      replace h := h.2
      by_cases c7 : i1095 = 7
      · have h9 := h.1 c7
        clear h
        have h := h9
        clear h9
        subst c7
        refine vw_swIn hX (tgt := 549) dL_law_40 (by decide) (by decide) rfl (by decide) ?_
        exact pB_L_law_549 hX hE ih _ _ _ _ _ _ _ _ h
      replace h := h.2
      by_cases c8 : i1095 = 8
      · have h9 := h.1 c8
        clear h
        have h := h9
        clear h9
        subst c8
        refine vw_swIn hX (tgt := 641) dL_law_40 (by decide) (by decide) rfl (by decide) ?_
        exact pB_L_law_641 hX hE ih _ _ _ _ _ _ _ _ h
      replace h := h.2
      by_cases c9 : i1095 = 9
      · have h9 := h.1 c9
        clear h
        have h := h9
        clear h9
        subst c9
        refine vw_swIn hX (tgt := 697) dL_law_40 (by decide) (by decide) rfl (by decide) ?_
        exact pB_L_law_697 hX hE ih _ _ _ _ _ _ _ _ h
      replace h := h.2
      by_cases c10 : i1095 = 10
      · have h9 := h.1 c10
        clear h
        have h := h9
        clear h9
        subst c10
        refine vw_swIn hX (tgt := 753) dL_law_40 (by decide) (by decide) rfl (by decide) ?_
        exact pB_L_law_753 hX hE ih _ _ _ _ _ _ _ _ h
      replace h := h.2
      by_cases c11 : i1095 = 11
      · have h9 := h.1 c11
        clear h
        have h := h9
        clear h9
        subst c11
        refine vw_swIn hX (tgt := 821) dL_law_40 (by decide) (by decide) rfl (by decide) ?_
        exact pB_L_law_821 hX hE ih _ _ _ _ _ _ _ _ h
      replace h := h.2
      by_cases c12 : i1095 = 12
      · have h9 := h.1 c12
        clear h
        have h := h9
        clear h9
        subst c12
        refine vw_swIn hX (tgt := 877) dL_law_40 (by decide) (by decide) rfl (by decide) ?_
        exact pB_L_law_877 hX hE ih _ _ _ _ _ _ _ _ h
      replace h := h.2
      by_cases c13 : i1095 = 13
      · have h9 := h.1 c13
        clear h
        have h := h9
        clear h9
        subst c13
        refine vw_swIn hX (tgt := 933) dL_law_40 (by decide) (by decide) rfl (by decide) ?_
        exact pB_L_law_933 hX hE ih _ _ _ _ _ _ _ _ h
      replace h := h.2
      by_cases c14 : i1095 = 14
      · have h9 := h.1 c14
        clear h
        have h := h9
        clear h9
        subst c14
        refine vw_swIn hX (tgt := 977) dL_law_40 (by decide) (by decide) rfl (by decide) ?_
        exact pB_L_law_977 hX hE ih _ _ _ _ _ _ _ _ h
      replace h := h.2
      by_cases c15 : i1095 = 15
      · have h9 := h.1 c15
        clear h
        have h := h9
        clear h9
        subst c15
        refine vw_swIn hX (tgt := 1033) dL_law_40 (by decide) (by decide) rfl (by decide) ?_
        exact pB_L_law_1033 hX hE ih _ _ _ _ _ _ _ _ h
      replace h := h.2
      by_cases c16 : i1095 = 16
      · have h9 := h.1 c16
        clear h
        have h := h9
        clear h9
        subst c16
        refine vw_swIn hX (tgt := 1089) dL_law_40 (by decide) (by decide) rfl (by decide) ?_
        exact pB_L_law_1089 hX hE ih _ _ _ _ _ _ _ _ h
      replace h := h.2
      by_cases c17 : i1095 = 17
      · have h9 := h.1 c17
        clear h
        have h := h9
        clear h9
        subst c17
        refine vw_swIn hX (tgt := 1102) dL_law_40 (by decide) (by decide) rfl (by decide) ?_
        exact pB_L_law_1102 hX hE ih _ _ _ _ _ _ _ _ h
      replace h := h.2
      by_cases c18 : i1095 = 18
      · have h9 := h.1 c18
        clear h
        have h := h9
        clear h9
        subst c18
        refine vw_swIn hX (tgt := 1115) dL_law_40 (by decide) (by decide) rfl (by decide) ?_
        exact pB_L_law_1115 hX hE ih _ _ _ _ _ _ _ _ h
      replace h := h.2
      by_cases c19 : i1095 = 19
      · have h9 := h.1 c19
        clear h
        have h := h9
        clear h9
        subst c19
        refine vw_swIn hX (tgt := 1128) dL_law_40 (by decide) (by decide) rfl (by decide) ?_
        exact pB_L_law_1128 hX hE ih _ _ _ _ _ _ _ _ h
      replace h := h.2
      by_cases c20 : i1095 = 20
      · have h9 := h.1 c20
        clear h
        have h := h9
        clear h9
        subst c20
        refine vw_swIn hX (tgt := 1141) dL_law_40 (by decide) (by decide) rfl (by decide) ?_
        exact pB_L_law_1141 hX hE ih _ _ _ _ _ _ _ _ h
      replace h := h.2
      by_cases c21 : i1095 = 21
      · have h9 := h.1 c21
        clear h
        have h := h9
        clear h9
        subst c21
        refine vw_swIn hX (tgt := 1154) dL_law_40 (by decide) (by decide) rfl (by decide) ?_
        exact pB_L_law_1154 hX hE ih _ _ _ _ _ _ _ _ h
      replace h := h.2
      by_cases c22 : i1095 = 22
      · have h9 := h.1 c22
        clear h
        have h := h9
        clear h9
        subst c22
        refine vw_swIn hX (tgt := 1167) dL_law_40 (by decide) (by decide) rfl (by decide) ?_
        exact pB_L_law_1167 hX hE ih _ _ _ _ _ _ _ _ h
      replace h := h.2
      by_cases c23 : i1095 = 23
      · have h9 := h.1 c23
        clear h
        have h := h9
        clear h9
        subst c23
        refine vw_swIn hX (tgt := 1180) dL_law_40 (by decide) (by decide) rfl (by decide) ?_
        exact pB_L_law_1180 hX hE ih _ _ _ _ _ _ _ _ h
      replace h := h.2
      by_cases c24 : i1095 = 24
      · have h9 := h.1 c24
        clear h
        have h := h9
        clear h9
        subst c24
        refine vw_swIn hX (tgt := 1236) dL_law_40 (by decide) (by decide) rfl (by decide) ?_
        exact pB_L_law_1236 hX hE ih _ _ _ _ _ _ _ _ h
      replace h := h.2
      by_cases c25 : i1095 = 25
      · have h9 := h.1 c25
        clear h
        have h := h9
        clear h9
        subst c25
        refine vw_swIn hX (tgt := 1304) dL_law_40 (by decide) (by decide) rfl (by decide) ?_
        exact pB_L_law_1304 hX hE ih _ _ _ _ _ _ _ _ h
      replace h := h.2
      by_cases c26 : i1095 = 26
      · have h9 := h.1 c26
        clear h
        have h := h9
        clear h9
        subst c26
        refine vw_swIn hX (tgt := 1360) dL_law_40 (by decide) (by decide) rfl (by decide) ?_
        exact pB_L_law_1360 hX hE ih _ _ _ _ _ _ _ _ h
      replace h := h.2
      by_cases c27 : i1095 = 27
      · have h9 := h.1 c27
        clear h
        have h := h9
        clear h9
        subst c27
        refine vw_swIn hX (tgt := 1423) dL_law_40 (by decide) (by decide) rfl (by decide) ?_
        exact pB_L_law_1423 hX hE ih _ _ _ _ _ _ _ _ h
      replace h := h.2
      by_cases c28 : i1095 = 28
      · have h9 := h.1 c28
        clear h
        have h := h9
        clear h9
        subst c28
        refine vw_swIn hX (tgt := 1479) dL_law_40 (by decide) (by decide) rfl (by decide) ?_
        exact pB_L_law_1479 hX hE ih _ _ _ _ _ _ _ _ h
      replace h := h.2
      by_cases c29 : i1095 = 29
      · have h9 := h.1 c29
        clear h
        have h := h9
        clear h9
        subst c29
        refine vw_swIn hX (tgt := 1535) dL_law_40 (by decide) (by decide) rfl (by decide) ?_
        exact pB_L_law_1535 hX hE ih _ _ _ _ _ _ _ _ h
      replace h := h.2
      by_cases c30 : i1095 = 30
      · have h9 := h.1 c30
        clear h
        have h := h9
        clear h9
        subst c30
        refine vw_swIn hX (tgt := 1591) dL_law_40 (by decide) (by decide) rfl (by decide) ?_
        exact pB_L_law_1591 hX hE ih _ _ _ _ _ _ _ _ h
      replace h := h.2
      by_cases c31 : i1095 = 31
      · have h9 := h.1 c31
        clear h
        have h := h9
        clear h9
        subst c31
        refine vw_swIn hX (tgt := 1647) dL_law_40 (by decide) (by decide) rfl (by decide) ?_
        exact pB_L_law_1647 hX hE ih _ _ _ _ _ _ _ _ h
      replace h := h.2
      by_cases c32 : i1095 = 32
      · have h9 := h.1 c32
        clear h
        have h := h9
        clear h9
        subst c32
        refine vw_swIn hX (tgt := 1703) dL_law_40 (by decide) (by decide) rfl (by decide) ?_
        exact pB_L_law_1703 hX hE ih _ _ _ _ _ _ _ _ h
      replace h := h.2
      by_cases c33 : i1095 = 33
      · have h9 := h.1 c33
        clear h
        have h := h9
        clear h9
        subst c33
        refine vw_swIn hX (tgt := 1771) dL_law_40 (by decide) (by decide) rfl (by decide) ?_
        exact pB_L_law_1771 hX hE ih _ _ _ _ _ _ _ _ h
      replace h := h.2
      by_cases c34 : i1095 = 34
      · have h9 := h.1 c34
        clear h
        have h := h9
        clear h9
        subst c34
        refine vw_swIn hX (tgt := 1839) dL_law_40 (by decide) (by decide) rfl (by decide) ?_
        exact pB_L_law_1839 hX hE ih _ _ _ _ _ _ _ _ h
      replace h := h.2
      by_cases c35 : i1095 = 35
      · have h9 := h.1 c35
        clear h
        have h := h9
        clear h9
        subst c35
        refine vw_swIn hX (tgt := 1895) dL_law_40 (by decide) (by decide) rfl (by decide) ?_
        exact pB_L_law_1895 hX hE ih _ _ _ _ _ _ _ _ h
      replace h := h.2
      by_cases c36 : i1095 = 36
      · have h9 := h.1 c36
        clear h
        have h := h9
        clear h9
        subst c36
        refine vw_swIn hX (tgt := 1951) dL_law_40 (by decide) (by decide) rfl (by decide) ?_
        exact pB_L_law_1951 hX hE ih _ _ _ _ _ _ _ _ h
      replace h := h.2
      by_cases c37 : i1095 = 37
      · have h9 := h.1 c37
        clear h
        have h := h9
        clear h9
        subst c37
        refine vw_swIn hX (tgt := 2007) dL_law_40 (by decide) (by decide) rfl (by decide) ?_
        exact pB_L_law_2007 hX hE ih _ _ _ _ _ _ _ _ h
      replace h := h.2
      by_cases c38 : i1095 = 38
      · have h9 := h.1 c38
        clear h
        have h := h9
        clear h9
        subst c38
        refine vw_swIn hX (tgt := 2063) dL_law_40 (by decide) (by decide) rfl (by decide) ?_
        exact pB_L_law_2063 hX hE ih _ _ _ _ _ _ _ _ h
      replace h := h.2
      by_cases c39 : i1095 = 39
      · have h9 := h.1 c39
        clear h
        have h := h9
        clear h9
        subst c39
        refine vw_swIn hX (tgt := 2119) dL_law_40 (by decide) (by decide) rfl (by decide) ?_
        exact pB_L_law_2119 hX hE ih _ _ _ _ _ _ _ _ h
      replace h := h.2
      by_cases c40 : i1095 = 40
      · have h9 := h.1 c40
        clear h
        have h := h9
        clear h9
        subst c40
        refine vw_swIn hX (tgt := 2175) dL_law_40 (by decide) (by decide) rfl (by decide) ?_
        exact pB_L_law_2175 hX hE ih _ _ _ _ _ _ _ _ h
      replace h := h.2
      by_cases c41 : i1095 = 41
      · have h9 := h.1 c41
        clear h
        have h := h9
        clear h9
        subst c41
        refine vw_swIn hX (tgt := 2231) dL_law_40 (by decide) (by decide) rfl (by decide) ?_
        exact pB_L_law_2231 hX hE ih _ _ _ _ _ _ _ _ h
      replace h := h.2
      by_cases c42 : i1095 = 42
      · have h9 := h.1 c42
        clear h
        have h := h9
        clear h9
        subst c42
        refine vw_swIn hX (tgt := 2294) dL_law_40 (by decide) (by decide) rfl (by decide) ?_
        exact pB_L_law_2294 hX hE ih _ _ _ _ _ _ _ _ h
      replace h := h.2
      by_cases c43 : i1095 = 43
      · have h9 := h.1 c43
        clear h
        have h := h9
        clear h9
        subst c43
        refine vw_swIn hX (tgt := 2350) dL_law_40 (by decide) (by decide) rfl (by decide) ?_
        exact pB_L_law_2350 hX hE ih _ _ _ _ _ _ _ _ h
      replace h := h.2
      by_cases c44 : i1095 = 44
      · have h9 := h.1 c44
        clear h
        have h := h9
        clear h9
        subst c44
        refine vw_swIn hX (tgt := 2406) dL_law_40 (by decide) (by decide) rfl (by decide) ?_
        exact pB_L_law_2406 hX hE ih _ _ _ _ _ _ _ _ h
      replace h := h.2
      by_cases c45 : i1095 = 45
      · have h9 := h.1 c45
        clear h
        have h := h9
        clear h9
        subst c45
        refine vw_swIn hX (tgt := 2462) dL_law_40 (by decide) (by decide) rfl (by decide) ?_
        exact pB_L_law_2462 hX hE ih _ _ _ _ _ _ _ _ h
      replace h := h.2
      by_cases c46 : i1095 = 46
      · have h9 := h.1 c46
        clear h
        have h := h9
        clear h9
        subst c46
        refine vw_swIn hX (tgt := 2518) dL_law_40 (by decide) (by decide) rfl (by decide) ?_
        exact pB_L_law_2518 hX hE ih _ _ _ _ _ _ _ _ h
      replace h := h.2
      by_cases c47 : i1095 = 47
      · have h9 := h.1 c47
        clear h
        have h := h9
        clear h9
        subst c47
        refine vw_swIn hX (tgt := 2574) dL_law_40 (by decide) (by decide) rfl (by decide) ?_
        exact pB_L_law_2574 hX hE ih _ _ _ _ _ _ _ _ h
      replace h := h.2
      by_cases c48 : i1095 = 48
      · have h9 := h.1 c48
        clear h
        have h := h9
        clear h9
        subst c48
        refine vw_swIn hX (tgt := 2630) dL_law_40 (by decide) (by decide) rfl (by decide) ?_
        exact pB_L_law_2630 hX hE ih _ _ _ _ _ _ _ _ h
      replace h := h.2
      by_cases c49 : i1095 = 49
      · have h9 := h.1 c49
        clear h
        have h := h9
        clear h9
        subst c49
        refine vw_swIn hX (tgt := 2693) dL_law_40 (by decide) (by decide) rfl (by decide) ?_
        exact pB_L_law_2693 hX hE ih _ _ _ _ _ _ _ _ h
      replace h := h.2
      by_cases c50 : i1095 = 50
      · have h9 := h.1 c50
        clear h
        have h := h9
        clear h9
        subst c50
        refine vw_swIn hX (tgt := 2761) dL_law_40 (by decide) (by decide) rfl (by decide) ?_
        exact pB_L_law_2761 hX hE ih _ _ _ _ _ _ _ _ h
      replace h := h.2
      by_cases c51 : i1095 = 51
      · have h9 := h.1 c51
        clear h
        have h := h9
        clear h9
        subst c51
        refine vw_swIn hX (tgt := 2774) dL_law_40 (by decide) (by decide) rfl (by decide) ?_
        exact pB_L_law_2774 hX hE ih _ _ _ _ _ _ _ _ h
      replace h := h.2
      by_cases c52 : i1095 = 52
      · have h9 := h.1 c52
        clear h
        have h := h9
        clear h9
        subst c52
        refine vw_swIn hX (tgt := 2787) dL_law_40 (by decide) (by decide) rfl (by decide) ?_
        exact pB_L_law_2787 hX hE ih _ _ _ _ _ _ _ _ h
      replace h := h.2
      by_cases c53 : i1095 = 53
      · have h9 := h.1 c53
        clear h
        have h := h9
        clear h9
        subst c53
        refine vw_swIn hX (tgt := 2800) dL_law_40 (by decide) (by decide) rfl (by decide) ?_
        exact pB_L_law_2800 hX hE ih _ _ _ _ _ _ _ _ h
      replace h := h.2
      by_cases c54 : i1095 = 54
      · have h9 := h.1 c54
        clear h
        have h := h9
        clear h9
        subst c54
        refine vw_swIn hX (tgt := 2813) dL_law_40 (by decide) (by decide) rfl (by decide) ?_
        exact pB_L_law_2813 hX hE ih _ _ _ _ _ _ _ _ h
      replace h := h.2
      by_cases c55 : i1095 = 55
      · have h9 := h.1 c55
        clear h
        have h := h9
        clear h9
        subst c55
        refine vw_swIn hX (tgt := 2854) dL_law_40 (by decide) (by decide) rfl (by decide) ?_
        exact pB_L_law_2854 hX hE ih _ _ _ _ _ _ _ _ h
      replace h := h.2
      by_cases c56 : i1095 = 56
      · have h9 := h.1 c56
        clear h
        have h := h9
        clear h9
        subst c56
        refine vw_swIn hX (tgt := 2897) dL_law_40 (by decide) (by decide) rfl (by decide) ?_
        exact pB_L_law_2897 hX hE ih _ _ _ _ _ _ _ _ h
      replace h := h.2
      by_cases c57 : i1095 = 57
      · have h9 := h.1 c57
        clear h
        have h := h9
        clear h9
        subst c57
        refine vw_swIn hX (tgt := 2910) dL_law_40 (by decide) (by decide) rfl (by decide) ?_
        exact pB_L_law_2910 hX hE ih _ _ _ _ _ _ _ _ h
      replace h := h.2
      have hout : ∀ k : Nat, k ≤ 57 → ¬ i1095 = nI k := fun k hk => match k, hk with | 0, _ => c0 | 1, _ => c1 | 2, _ => c2 | 3, _ => c3 | 4, _ => c4 | 5, _ => c5 | 6, _ => c6 | 7, _ => c7 | 8, _ => c8 | 9, _ => c9 | 10, _ => c10 | 11, _ => c11 | 12, _ => c12 | 13, _ => c13 | 14, _ => c14 | 15, _ => c15 | 16, _ => c16 | 17, _ => c17 | 18, _ => c18 | 19, _ => c19 | 20, _ => c20 | 21, _ => c21 | 22, _ => c22 | 23, _ => c23 | 24, _ => c24 | 25, _ => c25 | 26, _ => c26 | 27, _ => c27 | 28, _ => c28 | 29, _ => c29 | 30, _ => c30 | 31, _ => c31 | 32, _ => c32 | 33, _ => c33 | 34, _ => c34 | 35, _ => c35 | 36, _ => c36 | 37, _ => c37 | 38, _ => c38 | 39, _ => c39 | 40, _ => c40 | 41, _ => c41 | 42, _ => c42 | 43, _ => c43 | 44, _ => c44 | 45, _ => c45 | 46, _ => c46 | 47, _ => c47 | 48, _ => c48 | 49, _ => c49 | 50, _ => c50 | 51, _ => c51 | 52, _ => c52 | 53, _ => c53 | 54, _ => c54 | 55, _ => c55 | 56, _ => c56 | 57, _ => c57 | k + 58, hk => absurd hk (by omega)
      have h := h hout
      refine vw_swOut hX (tgt := 2935) dL_law_40 (sw_out 57 (by decide) hout) (by decide) ?_
      exact pB_L_law_2935 hX hE ih _ _ _ _ _ _ _ _ h
def F_L_law (a0 : Nat) (w : Mm) (z : Nat) (mc ms : Nat) (Q : Int32 → Mm → Nat → Prop) : Prop :=
  1 ≤ mc ∧ 8 ≤ ms ∧ ∀ w1, w1 = mset w z (.inl (9, [.null, .null, .null, .int 0, .null, .null, .null, .null])) → ∃ k5 k6, k5 ≤ (mc - 1) ∧ k6 ≤ (ms - 8) ∧ F_X5_init z w1 ((z + 1)) k5 k6 (fun w3 z4 => 1 ≤ (((mc - 1) - k5)) ∧ 21 ≤ (((ms - 8) - k6)) ∧ ∀ w7, w7 = mset w3 z4 (.inl (10, [.null, .null, .null, .null, .null, .int 0, .int 0, .null, .null, .int 0, .int 0, .int 0, .int 0, .null, .int 0, .int 0, .int 0, .int 0, .int 0, .int 0, .int 0])) → ∃ k11 k12, k11 ≤ (((mc - 1) - k5) - 1) ∧ k12 ≤ (((ms - 8) - k6) - 21) ∧ F_X6_init z4 w7 ((z4 + 1)) k11 k12 (fun w9 z10 => ¬ (1 : Int32) < 0 ∧ ∃ n14, (1 : Int32).toNatClampNeg = n14 ∧ n14 ≤ 10000000 ∧ 1 ≤ (((((mc - 1) - k5) - 1) - k11)) ∧ n14 ≤ (((((ms - 8) - k6) - 21) - k12)) ∧ ∀ w13, w13 = mset w9 z10 (.inr (3, n14, .inr (.inl (fun _ => 0)))) → ∃ n, B_L_law_23 a0 Q n z z4 z10 0 w13 ((z10 + 1)) ((((((mc - 1) - k5) - 1) - k11) - 1)) ((((((ms - 8) - k6) - 21) - k12) - n14))))
set_option maxRecDepth 100000 in
set_option maxHeartbeats 4000000 in
theorem ct_L_law {C : Cx} {d : Nat} {a0 : Nat} {w : Mm} {z mc ms : Nat} (hX : CX C cL_law RL 9 (some .boolean) [] (d + 11)) (hE : EL C) (h : F_L_law a0 w z mc ms lawQ) : VW C 0 [(0, .ref (a0))] [] w z mc ms := by
  unfold F_L_law at h
  obtain ⟨hm1, hm2, h⟩ := h
  refine n_L_8 hX hm1 hm2 dL_law_0 ?_
  refine vw_nmW (fun w1 ew1 => ?_)
  have h := h w1 ew1
  refine vw_dup hX dL_law_3 rfl ?_
  obtain ⟨k5, k6, hm1, hm2, h⟩ := h
  refine s_L_135 hX dL_law_4 (Nat.le_of_ble_eq_true rfl) hm1 hm2 (ct_X5_init (d := d + 7) (lst hX) h) (fun w3 z4 h => ?_)
  refine vw_astore_n hX dL_law_7 (by decide) rfl ?_
  obtain ⟨hm1, hm2, h⟩ := h
  refine n_L_136 hX hm1 hm2 dL_law_8 ?_
  refine vw_nmW (fun w7 ew7 => ?_)
  have h := h w7 ew7
  refine vw_dup hX dL_law_11 rfl ?_
  obtain ⟨k11, k12, hm1, hm2, h⟩ := h
  refine s_L_138 hX dL_law_12 (Nat.le_of_ble_eq_true rfl) hm1 hm2 (ct_X6_init (d := d + 0) (lst hX) h) (fun w9 z10 h => ?_)
  refine vw_astore_n hX dL_law_15 (by decide) rfl ?_
  refine vw_iconst hX (v := 1) dL_law_16 (by decide) ?_
  obtain ⟨hn0, n14, hN, hb, hm1, hm2, h⟩ := h
  refine vw_newL hX kw_2148 hn0 hN hb hm1 hm2 dL_law_17 ?_
  refine vw_nmW (fun w13 ew13 => ?_)
  have h := h w13 ew13
  refine vw_astore_n hX dL_law_19 (by decide) rfl ?_
  refine vw_iconst hX (v := 0) dL_law_20 (by decide) ?_
  refine vw_istore hX dL_law_21 (by decide) rfl ?_
  obtain ⟨n, h⟩ := h
  exact vw_sub [4, 3, 2, 1, 0] rfl (pB_L_law_23 hX hE n _ _ _ _ _ _ _ _ h)
