def F_L_truncateInput (a0 : Nat) (a1 : Int32) (w : Mm) (z : Nat) (mc ms : Nat) (Q : Int32 → Mm → Nat → Prop) : Prop :=
  isO w a0 9 ∧ ∃ k5 k6, k5 ≤ mc ∧ k6 ≤ ms ∧ F_X5_truncateInput a0 a1 w z k5 k6 (fun r2 w3 z4 => Q r2 w3 z4) (fun E7 w8 z9 => (E7 = "java/lang/IllegalArgumentException" → Q (-18) w8 z9) ∧ (¬ E7 = "java/lang/IllegalArgumentException" → False))
set_option maxRecDepth 100000 in
set_option maxHeartbeats 4000000 in
theorem ct_L_truncateInput {l : Launch} {g : Gp} {d : Nat} (hst : l.stackTraces = false) {a0 : Nat} {a1 : Int32} {w : Mm} {z mc ms : Nat} {Q : Int32 → Mm → Nat → Prop} {X : String → Mm → Nat → Prop} (h : F_L_truncateInput a0 a1 w z mc ms Q) : Ct l g yL_truncateInput (.codeWith yL_truncateInput cL_truncateInput 3 (some .int) [(0, 5, 6, 13)]) (d + 7) mc ms [.ref (a0), .int (a1)] w z (rI Q) X := by
  refine Ct.ofH hst (by decide) (Nat.le_of_ble_eq_true rfl) (fun C hX hE hg hl hNm => ?_)
  subst hg
  subst hl
  unfold F_L_truncateInput at h
  show VW C 0 [(0, .ref (a0)), (1, .int (a1))] [] w z mc ms
  refine vw_aload_n hX 0 dL_truncateInput_0 rfl ?_
  refine vw_iload_n hX 1 dL_truncateInput_1 rfl ?_
  obtain ⟨hr1, h⟩ := h
  obtain ⟨k5, k6, hm1, hm2, h⟩ := h
  refine s_L_7 hX hr1 dL_truncateInput_2 (Nat.le_of_ble_eq_true rfl) hm1 hm2 (ct_X5_truncateInput (d := d + 0) (lst hX) h) (fun r2 w3 z4 h => ?_) (fun E7 w8 z9 h => ?_)
  · skip
    exact vw_iret hX hE dL_truncateInput_5 ⟨_, rfl, h⟩
  · skip
    by_cases c0 : E7 = "java/lang/IllegalArgumentException"
    · have h9 := h.1 c0
      clear h
      have h := h9
      clear h9
      subst c0
      refine vw_catch hX [] [] rfl (fun _ hq => absurd hq List.not_mem_nil) ⟨by decide, by decide⟩ (by decide) kw_970 (by decide +kernel) (fun u => ?_)
      refine vw_astore_n hX dL_truncateInput_6 (by decide) rfl ?_
      refine vw_bipush hX (v := (-18)) dL_truncateInput_7 (by decide) ?_
      exact vw_iret hX hE dL_truncateInput_9 ⟨_, rfl, h⟩
    replace h := h.2 c0
    exact h.elim
def F_L_buy (a0 : Nat) (a1 : Int32) (a2 : Int32) (a3 : Int32) (w : Mm) (z : Nat) (mc ms : Nat) (Q : Int32 → Mm → Nat → Prop) : Prop :=
  isO w a0 9 ∧ ∃ k5 k6, k5 ≤ mc ∧ k6 ≤ ms ∧ F_X5_buy a0 a1 a2 a3 w z k5 k6 (fun r2 w3 z4 => Q r2 w3 z4) (fun E7 w8 z9 => (E7 = "java/lang/IndexOutOfBoundsException" → Q (-17) w8 z9) ∧ (¬ E7 = "java/lang/IndexOutOfBoundsException" → (E7 = "java/lang/IllegalArgumentException" → Q (-18) w8 z9) ∧ (¬ E7 = "java/lang/IllegalArgumentException" → (E7 = "java/lang/IllegalStateException" → Q (-19) w8 z9) ∧ (¬ E7 = "java/lang/IllegalStateException" → False))))
set_option maxRecDepth 100000 in
set_option maxHeartbeats 4000000 in
theorem ct_L_buy {l : Launch} {g : Gp} {d : Nat} (hst : l.stackTraces = false) {a0 : Nat} {a1 : Int32} {a2 : Int32} {a3 : Int32} {w : Mm} {z mc ms : Nat} {Q : Int32 → Mm → Nat → Prop} {X : String → Mm → Nat → Prop} (h : F_L_buy a0 a1 a2 a3 w z mc ms Q) : Ct l g yL_buy (.codeWith yL_buy cL_buy 5 (some .int) [(0, 7, 8, 19), (0, 7, 13, 13), (0, 7, 18, 21)]) (d + 8) mc ms [.ref (a0), .int (a1), .int (a2), .int (a3)] w z (rI Q) X := by
  refine Ct.ofH hst (by decide) (Nat.le_of_ble_eq_true rfl) (fun C hX hE hg hl hNm => ?_)
  subst hg
  subst hl
  unfold F_L_buy at h
  show VW C 0 [(0, .ref (a0)), (1, .int (a1)), (2, .int (a2)), (3, .int (a3))] [] w z mc ms
  refine vw_aload_n hX 0 dL_buy_0 rfl ?_
  refine vw_iload_n hX 1 dL_buy_1 rfl ?_
  refine vw_iload_n hX 2 dL_buy_2 rfl ?_
  refine vw_iload_n hX 3 dL_buy_3 rfl ?_
  obtain ⟨hr1, h⟩ := h
  obtain ⟨k5, k6, hm1, hm2, h⟩ := h
  refine s_L_15 hX hr1 dL_buy_4 (Nat.le_of_ble_eq_true rfl) hm1 hm2 (ct_X5_buy (d := d + 0) (lst hX) h) (fun r2 w3 z4 h => ?_) (fun E7 w8 z9 h => ?_)
  · skip
    exact vw_iret hX hE dL_buy_7 ⟨_, rfl, h⟩
  · skip
    by_cases c0 : E7 = "java/lang/IndexOutOfBoundsException"
    · have h9 := h.1 c0
      clear h
      have h := h9
      clear h9
      subst c0
      refine vw_catch hX [] [(0, 7, 13, 13), (0, 7, 18, 21)] rfl (fun _ hq => absurd hq List.not_mem_nil) ⟨by decide, by decide⟩ (by decide) kw_1042 (by decide +kernel) (fun u => ?_)
      refine vw_astore hX dL_buy_8 (by decide) rfl ?_
      refine vw_bipush hX (v := (-17)) dL_buy_10 (by decide) ?_
      exact vw_iret hX hE dL_buy_12 ⟨_, rfl, h⟩
    replace h := h.2 c0
    by_cases c1 : E7 = "java/lang/IllegalArgumentException"
    · have h9 := h.1 c1
      clear h
      have h := h9
      clear h9
      subst c1
      refine vw_catch hX [(0, 7, 8, 19)] [(0, 7, 18, 21)] rfl (fun q hq => by obtain rfl := List.mem_singleton.mp hq; exact ⟨by decide, "java/lang/IndexOutOfBoundsException", kw_1042, by decide +kernel⟩) ⟨by decide, by decide⟩ (by decide) kw_970 (by decide +kernel) (fun u => ?_)
      refine vw_astore hX dL_buy_13 (by decide) rfl ?_
      refine vw_bipush hX (v := (-18)) dL_buy_15 (by decide) ?_
      exact vw_iret hX hE dL_buy_17 ⟨_, rfl, h⟩
    replace h := h.2 c1
    by_cases c2 : E7 = "java/lang/IllegalStateException"
    · have h9 := h.1 c2
      clear h
      have h := h9
      clear h9
      subst c2
      refine vw_catch hX [(0, 7, 8, 19), (0, 7, 13, 13)] [] rfl (fun q hq => by rcases List.mem_cons.mp hq with rfl | hq; exact ⟨by decide, "java/lang/IndexOutOfBoundsException", kw_1042, by decide +kernel⟩; obtain rfl := List.mem_singleton.mp hq; exact ⟨by decide, "java/lang/IllegalArgumentException", kw_970, by decide +kernel⟩) ⟨by decide, by decide⟩ (by decide) kw_971 (by decide +kernel) (fun u => ?_)
      refine vw_astore hX dL_buy_18 (by decide) rfl ?_
      refine vw_bipush hX (v := (-19)) dL_buy_20 (by decide) ?_
      exact vw_iret hX hE dL_buy_22 ⟨_, rfl, h⟩
    replace h := h.2 c2
    exact h.elim
def F_L_ride (a0 : Nat) (a1 : Int32) (a2 : Int32) (a3 : Int32) (a4 : Int32) (w : Mm) (z : Nat) (mc ms : Nat) (Q : Int32 → Mm → Nat → Prop) : Prop :=
  isO w a0 9 ∧ ∃ k5 k6, k5 ≤ mc ∧ k6 ≤ ms ∧ F_X5_ride a0 a1 a2 a3 a4 w z k5 k6 (fun r2 w3 z4 => Q r2 w3 z4) (fun E7 w8 z9 => (E7 = "java/lang/IndexOutOfBoundsException" → Q (-17) w8 z9) ∧ (¬ E7 = "java/lang/IndexOutOfBoundsException" → (E7 = "java/lang/IllegalArgumentException" → Q (-18) w8 z9) ∧ (¬ E7 = "java/lang/IllegalArgumentException" → (E7 = "java/lang/IllegalStateException" → Q (-19) w8 z9) ∧ (¬ E7 = "java/lang/IllegalStateException" → False))))
set_option maxRecDepth 100000 in
set_option maxHeartbeats 4000000 in
theorem ct_L_ride {l : Launch} {g : Gp} {d : Nat} (hst : l.stackTraces = false) {a0 : Nat} {a1 : Int32} {a2 : Int32} {a3 : Int32} {a4 : Int32} {w : Mm} {z mc ms : Nat} {Q : Int32 → Mm → Nat → Prop} {X : String → Mm → Nat → Prop} (h : F_L_ride a0 a1 a2 a3 a4 w z mc ms Q) : Ct l g yL_ride (.codeWith yL_ride cL_ride 6 (some .int) [(0, 9, 10, 19), (0, 9, 15, 13), (0, 9, 20, 21)]) (d + 8) mc ms [.ref (a0), .int (a1), .int (a2), .int (a3), .int (a4)] w z (rI Q) X := by
  refine Ct.ofH hst (by decide) (Nat.le_of_ble_eq_true rfl) (fun C hX hE hg hl hNm => ?_)
  subst hg
  subst hl
  unfold F_L_ride at h
  show VW C 0 [(0, .ref (a0)), (1, .int (a1)), (2, .int (a2)), (3, .int (a3)), (4, .int (a4))] [] w z mc ms
  refine vw_aload_n hX 0 dL_ride_0 rfl ?_
  refine vw_iload_n hX 1 dL_ride_1 rfl ?_
  refine vw_iload_n hX 2 dL_ride_2 rfl ?_
  refine vw_iload_n hX 3 dL_ride_3 rfl ?_
  refine vw_iload hX 4 dL_ride_4 rfl ?_
  obtain ⟨hr1, h⟩ := h
  obtain ⟨k5, k6, hm1, hm2, h⟩ := h
  refine s_L_23 hX hr1 dL_ride_6 (Nat.le_of_ble_eq_true rfl) hm1 hm2 (ct_X5_ride (d := d + 0) (lst hX) h) (fun r2 w3 z4 h => ?_) (fun E7 w8 z9 h => ?_)
  · skip
    exact vw_iret hX hE dL_ride_9 ⟨_, rfl, h⟩
  · skip
    by_cases c0 : E7 = "java/lang/IndexOutOfBoundsException"
    · have h9 := h.1 c0
      clear h
      have h := h9
      clear h9
      subst c0
      refine vw_catch hX [] [(0, 9, 15, 13), (0, 9, 20, 21)] rfl (fun _ hq => absurd hq List.not_mem_nil) ⟨by decide, by decide⟩ (by decide) kw_1042 (by decide +kernel) (fun u => ?_)
      refine vw_astore hX dL_ride_10 (by decide) rfl ?_
      refine vw_bipush hX (v := (-17)) dL_ride_12 (by decide) ?_
      exact vw_iret hX hE dL_ride_14 ⟨_, rfl, h⟩
    replace h := h.2 c0
    by_cases c1 : E7 = "java/lang/IllegalArgumentException"
    · have h9 := h.1 c1
      clear h
      have h := h9
      clear h9
      subst c1
      refine vw_catch hX [(0, 9, 10, 19)] [(0, 9, 20, 21)] rfl (fun q hq => by obtain rfl := List.mem_singleton.mp hq; exact ⟨by decide, "java/lang/IndexOutOfBoundsException", kw_1042, by decide +kernel⟩) ⟨by decide, by decide⟩ (by decide) kw_970 (by decide +kernel) (fun u => ?_)
      refine vw_astore hX dL_ride_15 (by decide) rfl ?_
      refine vw_bipush hX (v := (-18)) dL_ride_17 (by decide) ?_
      exact vw_iret hX hE dL_ride_19 ⟨_, rfl, h⟩
    replace h := h.2 c1
    by_cases c2 : E7 = "java/lang/IllegalStateException"
    · have h9 := h.1 c2
      clear h
      have h := h9
      clear h9
      subst c2
      refine vw_catch hX [(0, 9, 10, 19), (0, 9, 15, 13)] [] rfl (fun q hq => by rcases List.mem_cons.mp hq with rfl | hq; exact ⟨by decide, "java/lang/IndexOutOfBoundsException", kw_1042, by decide +kernel⟩; obtain rfl := List.mem_singleton.mp hq; exact ⟨by decide, "java/lang/IllegalArgumentException", kw_970, by decide +kernel⟩) ⟨by decide, by decide⟩ (by decide) kw_971 (by decide +kernel) (fun u => ?_)
      refine vw_astore hX dL_ride_20 (by decide) rfl ?_
      refine vw_bipush hX (v := (-19)) dL_ride_22 (by decide) ?_
      exact vw_iret hX hE dL_ride_24 ⟨_, rfl, h⟩
    replace h := h.2 c2
    exact h.elim
def F_L_inspect (a0 : Nat) (a1 : Int32) (w : Mm) (z : Nat) (mc ms : Nat) (Q : Int32 → Mm → Nat → Prop) : Prop :=
  isO w a0 9 ∧ ∃ k5 k6, k5 ≤ mc ∧ k6 ≤ ms ∧ F_X5_inspect a0 a1 w z k5 k6 (fun r2 w3 z4 => Q r2 w3 z4) (fun E7 w8 z9 => (E7 = "java/lang/IndexOutOfBoundsException" → Q (-17) w8 z9) ∧ (¬ E7 = "java/lang/IndexOutOfBoundsException" → (E7 = "java/lang/IllegalStateException" → Q (-19) w8 z9) ∧ (¬ E7 = "java/lang/IllegalStateException" → False)))
set_option maxRecDepth 100000 in
set_option maxHeartbeats 4000000 in
theorem ct_L_inspect {l : Launch} {g : Gp} {d : Nat} (hst : l.stackTraces = false) {a0 : Nat} {a1 : Int32} {w : Mm} {z mc ms : Nat} {Q : Int32 → Mm → Nat → Prop} {X : String → Mm → Nat → Prop} (h : F_L_inspect a0 a1 w z mc ms Q) : Ct l g yL_inspect (.codeWith yL_inspect cL_inspect 3 (some .int) [(0, 5, 6, 19), (0, 5, 10, 21)]) (d + 8) mc ms [.ref (a0), .int (a1)] w z (rI Q) X := by
  refine Ct.ofH hst (by decide) (Nat.le_of_ble_eq_true rfl) (fun C hX hE hg hl hNm => ?_)
  subst hg
  subst hl
  unfold F_L_inspect at h
  show VW C 0 [(0, .ref (a0)), (1, .int (a1))] [] w z mc ms
  refine vw_aload_n hX 0 dL_inspect_0 rfl ?_
  refine vw_iload_n hX 1 dL_inspect_1 rfl ?_
  obtain ⟨hr1, h⟩ := h
  obtain ⟨k5, k6, hm1, hm2, h⟩ := h
  refine s_L_27 hX hr1 dL_inspect_2 (Nat.le_of_ble_eq_true rfl) hm1 hm2 (ct_X5_inspect (d := d + 0) (lst hX) h) (fun r2 w3 z4 h => ?_) (fun E7 w8 z9 h => ?_)
  · skip
    exact vw_iret hX hE dL_inspect_5 ⟨_, rfl, h⟩
  · skip
    by_cases c0 : E7 = "java/lang/IndexOutOfBoundsException"
    · have h9 := h.1 c0
      clear h
      have h := h9
      clear h9
      subst c0
      refine vw_catch hX [] [(0, 5, 10, 21)] rfl (fun _ hq => absurd hq List.not_mem_nil) ⟨by decide, by decide⟩ (by decide) kw_1042 (by decide +kernel) (fun u => ?_)
      refine vw_astore_n hX dL_inspect_6 (by decide) rfl ?_
      refine vw_bipush hX (v := (-17)) dL_inspect_7 (by decide) ?_
      exact vw_iret hX hE dL_inspect_9 ⟨_, rfl, h⟩
    replace h := h.2 c0
    by_cases c1 : E7 = "java/lang/IllegalStateException"
    · have h9 := h.1 c1
      clear h
      have h := h9
      clear h9
      subst c1
      refine vw_catch hX [(0, 5, 6, 19)] [] rfl (fun q hq => by obtain rfl := List.mem_singleton.mp hq; exact ⟨by decide, "java/lang/IndexOutOfBoundsException", kw_1042, by decide +kernel⟩) ⟨by decide, by decide⟩ (by decide) kw_971 (by decide +kernel) (fun u => ?_)
      refine vw_astore_n hX dL_inspect_10 (by decide) rfl ?_
      refine vw_bipush hX (v := (-19)) dL_inspect_11 (by decide) ?_
      exact vw_iret hX hE dL_inspect_13 ⟨_, rfl, h⟩
    replace h := h.2 c1
    exact h.elim
def F_L_waitFor (a0 : Nat) (a1 : Int32) (w : Mm) (z : Nat) (mc ms : Nat) (Q : Int32 → Mm → Nat → Prop) : Prop :=
  isO w a0 9 ∧ ∃ k5 k6, k5 ≤ mc ∧ k6 ≤ ms ∧ F_X5_waitFor a0 a1 w z k5 k6 (fun r2 w3 z4 => Q r2 w3 z4) (fun E7 w8 z9 => (E7 = "java/lang/IllegalArgumentException" → Q (-18) w8 z9) ∧ (¬ E7 = "java/lang/IllegalArgumentException" → (E7 = "java/lang/IllegalStateException" → Q (-19) w8 z9) ∧ (¬ E7 = "java/lang/IllegalStateException" → False)))
set_option maxRecDepth 100000 in
set_option maxHeartbeats 4000000 in
theorem ct_L_waitFor {l : Launch} {g : Gp} {d : Nat} (hst : l.stackTraces = false) {a0 : Nat} {a1 : Int32} {w : Mm} {z mc ms : Nat} {Q : Int32 → Mm → Nat → Prop} {X : String → Mm → Nat → Prop} (h : F_L_waitFor a0 a1 w z mc ms Q) : Ct l g yL_waitFor (.codeWith yL_waitFor cL_waitFor 3 (some .int) [(0, 5, 6, 13), (0, 5, 10, 21)]) (d + 7) mc ms [.ref (a0), .int (a1)] w z (rI Q) X := by
  refine Ct.ofH hst (by decide) (Nat.le_of_ble_eq_true rfl) (fun C hX hE hg hl hNm => ?_)
  subst hg
  subst hl
  unfold F_L_waitFor at h
  show VW C 0 [(0, .ref (a0)), (1, .int (a1))] [] w z mc ms
  refine vw_aload_n hX 0 dL_waitFor_0 rfl ?_
  refine vw_iload_n hX 1 dL_waitFor_1 rfl ?_
  obtain ⟨hr1, h⟩ := h
  obtain ⟨k5, k6, hm1, hm2, h⟩ := h
  refine s_L_30 hX hr1 dL_waitFor_2 (Nat.le_of_ble_eq_true rfl) hm1 hm2 (ct_X5_waitFor (d := d + 0) (lst hX) h) (fun r2 w3 z4 h => ?_) (fun E7 w8 z9 h => ?_)
  · skip
    exact vw_iret hX hE dL_waitFor_5 ⟨_, rfl, h⟩
  · skip
    by_cases c0 : E7 = "java/lang/IllegalArgumentException"
    · have h9 := h.1 c0
      clear h
      have h := h9
      clear h9
      subst c0
      refine vw_catch hX [] [(0, 5, 10, 21)] rfl (fun _ hq => absurd hq List.not_mem_nil) ⟨by decide, by decide⟩ (by decide) kw_970 (by decide +kernel) (fun u => ?_)
      refine vw_astore_n hX dL_waitFor_6 (by decide) rfl ?_
      refine vw_bipush hX (v := (-18)) dL_waitFor_7 (by decide) ?_
      exact vw_iret hX hE dL_waitFor_9 ⟨_, rfl, h⟩
    replace h := h.2 c0
    by_cases c1 : E7 = "java/lang/IllegalStateException"
    · have h9 := h.1 c1
      clear h
      have h := h9
      clear h9
      subst c1
      refine vw_catch hX [(0, 5, 6, 13)] [] rfl (fun q hq => by obtain rfl := List.mem_singleton.mp hq; exact ⟨by decide, "java/lang/IllegalArgumentException", kw_970, by decide +kernel⟩) ⟨by decide, by decide⟩ (by decide) kw_971 (by decide +kernel) (fun u => ?_)
      refine vw_astore_n hX dL_waitFor_10 (by decide) rfl ?_
      refine vw_bipush hX (v := (-19)) dL_waitFor_11 (by decide) ?_
      exact vw_iret hX hE dL_waitFor_13 ⟨_, rfl, h⟩
    replace h := h.2 c1
    exact h.elim
def F_L_appeal (a0 : Nat) (a1 : Int32) (a2 : Int32) (w : Mm) (z : Nat) (mc ms : Nat) (Q : Int32 → Mm → Nat → Prop) : Prop :=
  isO w a0 9 ∧ ∃ k5 k6, k5 ≤ mc ∧ k6 ≤ ms ∧ F_X5_appeal a0 a1 a2 w z k5 k6 (fun r2 w3 z4 => Q r2 w3 z4) (fun E7 w8 z9 => (E7 = "java/lang/IndexOutOfBoundsException" → Q (-17) w8 z9) ∧ (¬ E7 = "java/lang/IndexOutOfBoundsException" → (E7 = "java/lang/IllegalStateException" → Q (-19) w8 z9) ∧ (¬ E7 = "java/lang/IllegalStateException" → False)))
set_option maxRecDepth 100000 in
set_option maxHeartbeats 4000000 in
theorem ct_L_appeal {l : Launch} {g : Gp} {d : Nat} (hst : l.stackTraces = false) {a0 : Nat} {a1 : Int32} {a2 : Int32} {w : Mm} {z mc ms : Nat} {Q : Int32 → Mm → Nat → Prop} {X : String → Mm → Nat → Prop} (h : F_L_appeal a0 a1 a2 w z mc ms Q) : Ct l g yL_appeal (.codeWith yL_appeal cL_appeal 4 (some .int) [(0, 6, 7, 19), (0, 6, 11, 21)]) (d + 8) mc ms [.ref (a0), .int (a1), .int (a2)] w z (rI Q) X := by
  refine Ct.ofH hst (by decide) (Nat.le_of_ble_eq_true rfl) (fun C hX hE hg hl hNm => ?_)
  subst hg
  subst hl
  unfold F_L_appeal at h
  show VW C 0 [(0, .ref (a0)), (1, .int (a1)), (2, .int (a2))] [] w z mc ms
  refine vw_aload_n hX 0 dL_appeal_0 rfl ?_
  refine vw_iload_n hX 1 dL_appeal_1 rfl ?_
  refine vw_iload_n hX 2 dL_appeal_2 rfl ?_
  obtain ⟨hr1, h⟩ := h
  obtain ⟨k5, k6, hm1, hm2, h⟩ := h
  refine s_L_33 hX hr1 dL_appeal_3 (Nat.le_of_ble_eq_true rfl) hm1 hm2 (ct_X5_appeal (d := d + 0) (lst hX) h) (fun r2 w3 z4 h => ?_) (fun E7 w8 z9 h => ?_)
  · skip
    exact vw_iret hX hE dL_appeal_6 ⟨_, rfl, h⟩
  · skip
    by_cases c0 : E7 = "java/lang/IndexOutOfBoundsException"
    · have h9 := h.1 c0
      clear h
      have h := h9
      clear h9
      subst c0
      refine vw_catch hX [] [(0, 6, 11, 21)] rfl (fun _ hq => absurd hq List.not_mem_nil) ⟨by decide, by decide⟩ (by decide) kw_1042 (by decide +kernel) (fun u => ?_)
      refine vw_astore_n hX dL_appeal_7 (by decide) rfl ?_
      refine vw_bipush hX (v := (-17)) dL_appeal_8 (by decide) ?_
      exact vw_iret hX hE dL_appeal_10 ⟨_, rfl, h⟩
    replace h := h.2 c0
    by_cases c1 : E7 = "java/lang/IllegalStateException"
    · have h9 := h.1 c1
      clear h
      have h := h9
      clear h9
      subst c1
      refine vw_catch hX [(0, 6, 7, 19)] [] rfl (fun q hq => by obtain rfl := List.mem_singleton.mp hq; exact ⟨by decide, "java/lang/IndexOutOfBoundsException", kw_1042, by decide +kernel⟩) ⟨by decide, by decide⟩ (by decide) kw_971 (by decide +kernel) (fun u => ?_)
      refine vw_astore_n hX dL_appeal_11 (by decide) rfl ?_
      refine vw_bipush hX (v := (-19)) dL_appeal_12 (by decide) ?_
      exact vw_iret hX hE dL_appeal_14 ⟨_, rfl, h⟩
    replace h := h.2 c1
    exact h.elim
def F_L_decide (a0 : Nat) (a1 : Int32) (w : Mm) (z : Nat) (mc ms : Nat) (Q : Int32 → Mm → Nat → Prop) : Prop :=
  isO w a0 9 ∧ ∃ k5 k6, k5 ≤ mc ∧ k6 ≤ ms ∧ F_X5_decide a0 a1 w z k5 k6 (fun r2 w3 z4 => Q r2 w3 z4) (fun E7 w8 z9 => (E7 = "java/lang/IndexOutOfBoundsException" → Q (-17) w8 z9) ∧ (¬ E7 = "java/lang/IndexOutOfBoundsException" → (E7 = "java/lang/IllegalStateException" → Q (-19) w8 z9) ∧ (¬ E7 = "java/lang/IllegalStateException" → False)))
set_option maxRecDepth 100000 in
set_option maxHeartbeats 4000000 in
theorem ct_L_decide {l : Launch} {g : Gp} {d : Nat} (hst : l.stackTraces = false) {a0 : Nat} {a1 : Int32} {w : Mm} {z mc ms : Nat} {Q : Int32 → Mm → Nat → Prop} {X : String → Mm → Nat → Prop} (h : F_L_decide a0 a1 w z mc ms Q) : Ct l g yL_decide (.codeWith yL_decide cL_decide 3 (some .int) [(0, 5, 6, 19), (0, 5, 10, 21)]) (d + 8) mc ms [.ref (a0), .int (a1)] w z (rI Q) X := by
  refine Ct.ofH hst (by decide) (Nat.le_of_ble_eq_true rfl) (fun C hX hE hg hl hNm => ?_)
  subst hg
  subst hl
  unfold F_L_decide at h
  show VW C 0 [(0, .ref (a0)), (1, .int (a1))] [] w z mc ms
  refine vw_aload_n hX 0 dL_decide_0 rfl ?_
  refine vw_iload_n hX 1 dL_decide_1 rfl ?_
  obtain ⟨hr1, h⟩ := h
  obtain ⟨k5, k6, hm1, hm2, h⟩ := h
  refine s_L_37 hX hr1 dL_decide_2 (Nat.le_of_ble_eq_true rfl) hm1 hm2 (ct_X5_decide (d := d + 0) (lst hX) h) (fun r2 w3 z4 h => ?_) (fun E7 w8 z9 h => ?_)
  · skip
    exact vw_iret hX hE dL_decide_5 ⟨_, rfl, h⟩
  · skip
    by_cases c0 : E7 = "java/lang/IndexOutOfBoundsException"
    · have h9 := h.1 c0
      clear h
      have h := h9
      clear h9
      subst c0
      refine vw_catch hX [] [(0, 5, 10, 21)] rfl (fun _ hq => absurd hq List.not_mem_nil) ⟨by decide, by decide⟩ (by decide) kw_1042 (by decide +kernel) (fun u => ?_)
      refine vw_astore_n hX dL_decide_6 (by decide) rfl ?_
      refine vw_bipush hX (v := (-17)) dL_decide_7 (by decide) ?_
      exact vw_iret hX hE dL_decide_9 ⟨_, rfl, h⟩
    replace h := h.2 c0
    by_cases c1 : E7 = "java/lang/IllegalStateException"
    · have h9 := h.1 c1
      clear h
      have h := h9
      clear h9
      subst c1
      refine vw_catch hX [(0, 5, 6, 19)] [] rfl (fun q hq => by obtain rfl := List.mem_singleton.mp hq; exact ⟨by decide, "java/lang/IndexOutOfBoundsException", kw_1042, by decide +kernel⟩) ⟨by decide, by decide⟩ (by decide) kw_971 (by decide +kernel) (fun u => ?_)
      refine vw_astore_n hX dL_decide_10 (by decide) rfl ?_
      refine vw_bipush hX (v := (-19)) dL_decide_11 (by decide) ?_
      exact vw_iret hX hE dL_decide_13 ⟨_, rfl, h⟩
    replace h := h.2 c1
    exact h.elim
def F_L_pay (a0 : Nat) (a1 : Int32) (w : Mm) (z : Nat) (mc ms : Nat) (Q : Int32 → Mm → Nat → Prop) : Prop :=
  isO w a0 9 ∧ ∃ k5 k6, k5 ≤ mc ∧ k6 ≤ ms ∧ F_X5_pay a0 a1 w z k5 k6 (fun r2 w3 z4 => Q r2 w3 z4) (fun E7 w8 z9 => (E7 = "java/lang/IndexOutOfBoundsException" → Q (-17) w8 z9) ∧ (¬ E7 = "java/lang/IndexOutOfBoundsException" → (E7 = "java/lang/IllegalStateException" → Q (-19) w8 z9) ∧ (¬ E7 = "java/lang/IllegalStateException" → False)))
set_option maxRecDepth 100000 in
set_option maxHeartbeats 4000000 in
theorem ct_L_pay {l : Launch} {g : Gp} {d : Nat} (hst : l.stackTraces = false) {a0 : Nat} {a1 : Int32} {w : Mm} {z mc ms : Nat} {Q : Int32 → Mm → Nat → Prop} {X : String → Mm → Nat → Prop} (h : F_L_pay a0 a1 w z mc ms Q) : Ct l g yL_pay (.codeWith yL_pay cL_pay 3 (some .int) [(0, 5, 6, 19), (0, 5, 10, 21)]) (d + 8) mc ms [.ref (a0), .int (a1)] w z (rI Q) X := by
  refine Ct.ofH hst (by decide) (Nat.le_of_ble_eq_true rfl) (fun C hX hE hg hl hNm => ?_)
  subst hg
  subst hl
  unfold F_L_pay at h
  show VW C 0 [(0, .ref (a0)), (1, .int (a1))] [] w z mc ms
  refine vw_aload_n hX 0 dL_pay_0 rfl ?_
  refine vw_iload_n hX 1 dL_pay_1 rfl ?_
  obtain ⟨hr1, h⟩ := h
  obtain ⟨k5, k6, hm1, hm2, h⟩ := h
  refine s_L_40 hX hr1 dL_pay_2 (Nat.le_of_ble_eq_true rfl) hm1 hm2 (ct_X5_pay (d := d + 0) (lst hX) h) (fun r2 w3 z4 h => ?_) (fun E7 w8 z9 h => ?_)
  · skip
    exact vw_iret hX hE dL_pay_5 ⟨_, rfl, h⟩
  · skip
    by_cases c0 : E7 = "java/lang/IndexOutOfBoundsException"
    · have h9 := h.1 c0
      clear h
      have h := h9
      clear h9
      subst c0
      refine vw_catch hX [] [(0, 5, 10, 21)] rfl (fun _ hq => absurd hq List.not_mem_nil) ⟨by decide, by decide⟩ (by decide) kw_1042 (by decide +kernel) (fun u => ?_)
      refine vw_astore_n hX dL_pay_6 (by decide) rfl ?_
      refine vw_bipush hX (v := (-17)) dL_pay_7 (by decide) ?_
      exact vw_iret hX hE dL_pay_9 ⟨_, rfl, h⟩
    replace h := h.2 c0
    by_cases c1 : E7 = "java/lang/IllegalStateException"
    · have h9 := h.1 c1
      clear h
      have h := h9
      clear h9
      subst c1
      refine vw_catch hX [(0, 5, 6, 19)] [] rfl (fun q hq => by obtain rfl := List.mem_singleton.mp hq; exact ⟨by decide, "java/lang/IndexOutOfBoundsException", kw_1042, by decide +kernel⟩) ⟨by decide, by decide⟩ (by decide) kw_971 (by decide +kernel) (fun u => ?_)
      refine vw_astore_n hX dL_pay_10 (by decide) rfl ?_
      refine vw_bipush hX (v := (-19)) dL_pay_11 (by decide) ?_
      exact vw_iret hX hE dL_pay_13 ⟨_, rfl, h⟩
    replace h := h.2 c1
    exact h.elim
def F_L_undo (a0 : Nat) (w : Mm) (z : Nat) (mc ms : Nat) (Q : Int32 → Mm → Nat → Prop) : Prop :=
  isO w a0 9 ∧ ∃ k5 k6, k5 ≤ mc ∧ k6 ≤ ms ∧ F_X5_undo a0 w z k5 k6 (fun r2 w3 z4 => Q r2 w3 z4) (fun E7 w8 z9 => (E7 = "java/lang/IllegalStateException" → Q (-19) w8 z9) ∧ (¬ E7 = "java/lang/IllegalStateException" → False))
set_option maxRecDepth 100000 in
set_option maxHeartbeats 4000000 in
theorem ct_L_undo {l : Launch} {g : Gp} {d : Nat} (hst : l.stackTraces = false) {a0 : Nat} {w : Mm} {z mc ms : Nat} {Q : Int32 → Mm → Nat → Prop} {X : String → Mm → Nat → Prop} (h : F_L_undo a0 w z mc ms Q) : Ct l g yL_undo (.codeWith yL_undo cL_undo 2 (some .int) [(0, 4, 5, 21)]) (d + 7) mc ms [.ref (a0)] w z (rI Q) X := by
  refine Ct.ofH hst (by decide) (Nat.le_of_ble_eq_true rfl) (fun C hX hE hg hl hNm => ?_)
  subst hg
  subst hl
  unfold F_L_undo at h
  show VW C 0 [(0, .ref (a0))] [] w z mc ms
  refine vw_aload_n hX 0 dL_undo_0 rfl ?_
  obtain ⟨hr1, h⟩ := h
  obtain ⟨k5, k6, hm1, hm2, h⟩ := h
  refine s_L_43 hX hr1 dL_undo_1 (Nat.le_of_ble_eq_true rfl) hm1 hm2 (ct_X5_undo (d := d + 0) (lst hX) h) (fun r2 w3 z4 h => ?_) (fun E7 w8 z9 h => ?_)
  · skip
    exact vw_iret hX hE dL_undo_4 ⟨_, rfl, h⟩
  · skip
    by_cases c0 : E7 = "java/lang/IllegalStateException"
    · have h9 := h.1 c0
      clear h
      have h := h9
      clear h9
      subst c0
      refine vw_catch hX [] [] rfl (fun _ hq => absurd hq List.not_mem_nil) ⟨by decide, by decide⟩ (by decide) kw_971 (by decide +kernel) (fun u => ?_)
      refine vw_astore_n hX dL_undo_5 (by decide) rfl ?_
      refine vw_bipush hX (v := (-19)) dL_undo_6 (by decide) ?_
      exact vw_iret hX hE dL_undo_8 ⟨_, rfl, h⟩
    replace h := h.2 c0
    exact h.elim
def F_L_zonesBetween (a0 : Nat) (a1 : Int32) (a2 : Int32) (w : Mm) (z : Nat) (mc ms : Nat) (Q : Int32 → Mm → Nat → Prop) : Prop :=
  isO w a0 9 ∧ ∃ k5 k6, k5 ≤ mc ∧ k6 ≤ ms ∧ F_X5_zonesBetween a0 a1 a2 w z k5 k6 (fun r2 w3 z4 => Q r2 w3 z4) (fun E7 w8 z9 => (E7 = "java/lang/IndexOutOfBoundsException" → Q (-17) w8 z9) ∧ (¬ E7 = "java/lang/IndexOutOfBoundsException" → False))
set_option maxRecDepth 100000 in
set_option maxHeartbeats 4000000 in
theorem ct_L_zonesBetween {l : Launch} {g : Gp} {d : Nat} (hst : l.stackTraces = false) {a0 : Nat} {a1 : Int32} {a2 : Int32} {w : Mm} {z mc ms : Nat} {Q : Int32 → Mm → Nat → Prop} {X : String → Mm → Nat → Prop} (h : F_L_zonesBetween a0 a1 a2 w z mc ms Q) : Ct l g yL_zonesBetween (.codeWith yL_zonesBetween cL_zonesBetween 4 (some .int) [(0, 6, 7, 19)]) (d + 8) mc ms [.ref (a0), .int (a1), .int (a2)] w z (rI Q) X := by
  refine Ct.ofH hst (by decide) (Nat.le_of_ble_eq_true rfl) (fun C hX hE hg hl hNm => ?_)
  subst hg
  subst hl
  unfold F_L_zonesBetween at h
  show VW C 0 [(0, .ref (a0)), (1, .int (a1)), (2, .int (a2))] [] w z mc ms
  refine vw_aload_n hX 0 dL_zonesBetween_0 rfl ?_
  refine vw_iload_n hX 1 dL_zonesBetween_1 rfl ?_
  refine vw_iload_n hX 2 dL_zonesBetween_2 rfl ?_
  obtain ⟨hr1, h⟩ := h
  obtain ⟨k5, k6, hm1, hm2, h⟩ := h
  refine s_L_47 hX hr1 dL_zonesBetween_3 (Nat.le_of_ble_eq_true rfl) hm1 hm2 (ct_X5_zonesBetween (d := d + 0) (lst hX) h) (fun r2 w3 z4 h => ?_) (fun E7 w8 z9 h => ?_)
  · skip
    exact vw_iret hX hE dL_zonesBetween_6 ⟨_, rfl, h⟩
  · skip
    by_cases c0 : E7 = "java/lang/IndexOutOfBoundsException"
    · have h9 := h.1 c0
      clear h
      have h := h9
      clear h9
      subst c0
      refine vw_catch hX [] [] rfl (fun _ hq => absurd hq List.not_mem_nil) ⟨by decide, by decide⟩ (by decide) kw_1042 (by decide +kernel) (fun u => ?_)
      refine vw_astore_n hX dL_zonesBetween_7 (by decide) rfl ?_
      refine vw_bipush hX (v := (-17)) dL_zonesBetween_8 (by decide) ?_
      exact vw_iret hX hE dL_zonesBetween_10 ⟨_, rfl, h⟩
    replace h := h.2 c0
    exact h.elim
def F_L_money (a0 : Nat) (a1 : Int32) (w : Mm) (z : Nat) (mc ms : Nat) (Q : Int32 → Mm → Nat → Prop) : Prop :=
  isO w a0 9 ∧ ∃ k5 k6, k5 ≤ mc ∧ k6 ≤ ms ∧ F_X5_money a0 a1 w z k5 k6 (fun r2 w3 z4 => Q r2 w3 z4) (fun E7 w8 z9 => (E7 = "java/lang/IndexOutOfBoundsException" → Q (-17) w8 z9) ∧ (¬ E7 = "java/lang/IndexOutOfBoundsException" → False))
set_option maxRecDepth 100000 in
set_option maxHeartbeats 4000000 in
theorem ct_L_money {l : Launch} {g : Gp} {d : Nat} (hst : l.stackTraces = false) {a0 : Nat} {a1 : Int32} {w : Mm} {z mc ms : Nat} {Q : Int32 → Mm → Nat → Prop} {X : String → Mm → Nat → Prop} (h : F_L_money a0 a1 w z mc ms Q) : Ct l g yL_money (.codeWith yL_money cL_money 3 (some .int) [(0, 5, 6, 19)]) (d + 8) mc ms [.ref (a0), .int (a1)] w z (rI Q) X := by
  refine Ct.ofH hst (by decide) (Nat.le_of_ble_eq_true rfl) (fun C hX hE hg hl hNm => ?_)
  subst hg
  subst hl
  unfold F_L_money at h
  show VW C 0 [(0, .ref (a0)), (1, .int (a1))] [] w z mc ms
  refine vw_aload_n hX 0 dL_money_0 rfl ?_
  refine vw_iload_n hX 1 dL_money_1 rfl ?_
  obtain ⟨hr1, h⟩ := h
  obtain ⟨k5, k6, hm1, hm2, h⟩ := h
  refine s_L_50 hX hr1 dL_money_2 (Nat.le_of_ble_eq_true rfl) hm1 hm2 (ct_X5_money (d := d + 0) (lst hX) h) (fun r2 w3 z4 h => ?_) (fun E7 w8 z9 h => ?_)
  · skip
    exact vw_iret hX hE dL_money_5 ⟨_, rfl, h⟩
  · skip
    by_cases c0 : E7 = "java/lang/IndexOutOfBoundsException"
    · have h9 := h.1 c0
      clear h
      have h := h9
      clear h9
      subst c0
      refine vw_catch hX [] [] rfl (fun _ hq => absurd hq List.not_mem_nil) ⟨by decide, by decide⟩ (by decide) kw_1042 (by decide +kernel) (fun u => ?_)
      refine vw_astore_n hX dL_money_6 (by decide) rfl ?_
      refine vw_bipush hX (v := (-17)) dL_money_7 (by decide) ?_
      exact vw_iret hX hE dL_money_9 ⟨_, rfl, h⟩
    replace h := h.2 c0
    exact h.elim
def F_L_rideEnd (a0 : Nat) (a1 : Int32) (w : Mm) (z : Nat) (mc ms : Nat) (Q : Int32 → Mm → Nat → Prop) : Prop :=
  isO w a0 9 ∧ ∃ k5 k6, k5 ≤ mc ∧ k6 ≤ ms ∧ F_X5_rideEnd a0 a1 w z k5 k6 (fun r2 w3 z4 => Q r2 w3 z4) (fun E7 w8 z9 => (E7 = "java/lang/IndexOutOfBoundsException" → Q (-17) w8 z9) ∧ (¬ E7 = "java/lang/IndexOutOfBoundsException" → False))
set_option maxRecDepth 100000 in
set_option maxHeartbeats 4000000 in
theorem ct_L_rideEnd {l : Launch} {g : Gp} {d : Nat} (hst : l.stackTraces = false) {a0 : Nat} {a1 : Int32} {w : Mm} {z mc ms : Nat} {Q : Int32 → Mm → Nat → Prop} {X : String → Mm → Nat → Prop} (h : F_L_rideEnd a0 a1 w z mc ms Q) : Ct l g yL_rideEnd (.codeWith yL_rideEnd cL_rideEnd 3 (some .int) [(0, 5, 6, 19)]) (d + 8) mc ms [.ref (a0), .int (a1)] w z (rI Q) X := by
  refine Ct.ofH hst (by decide) (Nat.le_of_ble_eq_true rfl) (fun C hX hE hg hl hNm => ?_)
  subst hg
  subst hl
  unfold F_L_rideEnd at h
  show VW C 0 [(0, .ref (a0)), (1, .int (a1))] [] w z mc ms
  refine vw_aload_n hX 0 dL_rideEnd_0 rfl ?_
  refine vw_iload_n hX 1 dL_rideEnd_1 rfl ?_
  obtain ⟨hr1, h⟩ := h
  obtain ⟨k5, k6, hm1, hm2, h⟩ := h
  refine s_L_53 hX hr1 dL_rideEnd_2 (Nat.le_of_ble_eq_true rfl) hm1 hm2 (ct_X5_rideEnd (d := d + 0) (lst hX) h) (fun r2 w3 z4 h => ?_) (fun E7 w8 z9 h => ?_)
  · skip
    exact vw_iret hX hE dL_rideEnd_5 ⟨_, rfl, h⟩
  · skip
    by_cases c0 : E7 = "java/lang/IndexOutOfBoundsException"
    · have h9 := h.1 c0
      clear h
      have h := h9
      clear h9
      subst c0
      refine vw_catch hX [] [] rfl (fun _ hq => absurd hq List.not_mem_nil) ⟨by decide, by decide⟩ (by decide) kw_1042 (by decide +kernel) (fun u => ?_)
      refine vw_astore_n hX dL_rideEnd_6 (by decide) rfl ?_
      refine vw_bipush hX (v := (-17)) dL_rideEnd_7 (by decide) ?_
      exact vw_iret hX hE dL_rideEnd_9 ⟨_, rfl, h⟩
    replace h := h.2 c0
    exact h.elim
def F_L_rideTicket (a0 : Nat) (a1 : Int32) (w : Mm) (z : Nat) (mc ms : Nat) (Q : Int32 → Mm → Nat → Prop) : Prop :=
  isO w a0 9 ∧ ∃ k5 k6, k5 ≤ mc ∧ k6 ≤ ms ∧ F_X5_rideTicket a0 a1 w z k5 k6 (fun r2 w3 z4 => Q r2 w3 z4) (fun E7 w8 z9 => (E7 = "java/lang/IndexOutOfBoundsException" → Q (-17) w8 z9) ∧ (¬ E7 = "java/lang/IndexOutOfBoundsException" → False))
set_option maxRecDepth 100000 in
set_option maxHeartbeats 4000000 in
theorem ct_L_rideTicket {l : Launch} {g : Gp} {d : Nat} (hst : l.stackTraces = false) {a0 : Nat} {a1 : Int32} {w : Mm} {z mc ms : Nat} {Q : Int32 → Mm → Nat → Prop} {X : String → Mm → Nat → Prop} (h : F_L_rideTicket a0 a1 w z mc ms Q) : Ct l g yL_rideTicket (.codeWith yL_rideTicket cL_rideTicket 3 (some .int) [(0, 5, 6, 19)]) (d + 8) mc ms [.ref (a0), .int (a1)] w z (rI Q) X := by
  refine Ct.ofH hst (by decide) (Nat.le_of_ble_eq_true rfl) (fun C hX hE hg hl hNm => ?_)
  subst hg
  subst hl
  unfold F_L_rideTicket at h
  show VW C 0 [(0, .ref (a0)), (1, .int (a1))] [] w z mc ms
  refine vw_aload_n hX 0 dL_rideTicket_0 rfl ?_
  refine vw_iload_n hX 1 dL_rideTicket_1 rfl ?_
  obtain ⟨hr1, h⟩ := h
  obtain ⟨k5, k6, hm1, hm2, h⟩ := h
  refine s_L_56 hX hr1 dL_rideTicket_2 (Nat.le_of_ble_eq_true rfl) hm1 hm2 (ct_X5_rideTicket (d := d + 0) (lst hX) h) (fun r2 w3 z4 h => ?_) (fun E7 w8 z9 h => ?_)
  · skip
    exact vw_iret hX hE dL_rideTicket_5 ⟨_, rfl, h⟩
  · skip
    by_cases c0 : E7 = "java/lang/IndexOutOfBoundsException"
    · have h9 := h.1 c0
      clear h
      have h := h9
      clear h9
      subst c0
      refine vw_catch hX [] [] rfl (fun _ hq => absurd hq List.not_mem_nil) ⟨by decide, by decide⟩ (by decide) kw_1042 (by decide +kernel) (fun u => ?_)
      refine vw_astore_n hX dL_rideTicket_6 (by decide) rfl ?_
      refine vw_bipush hX (v := (-17)) dL_rideTicket_7 (by decide) ?_
      exact vw_iret hX hE dL_rideTicket_9 ⟨_, rfl, h⟩
    replace h := h.2 c0
    exact h.elim
def F_L_faultNow (a0 : Nat) (a1 : Int32) (w : Mm) (z : Nat) (mc ms : Nat) (Q : Int32 → Mm → Nat → Prop) : Prop :=
  isO w a0 9 ∧ ∃ k5 k6, k5 ≤ mc ∧ k6 ≤ ms ∧ F_X5_faultNow a0 a1 w z k5 k6 (fun r2 w3 z4 => Q r2 w3 z4) (fun E7 w8 z9 => (E7 = "java/lang/IndexOutOfBoundsException" → Q (-17) w8 z9) ∧ (¬ E7 = "java/lang/IndexOutOfBoundsException" → False))
set_option maxRecDepth 100000 in
set_option maxHeartbeats 4000000 in
theorem ct_L_faultNow {l : Launch} {g : Gp} {d : Nat} (hst : l.stackTraces = false) {a0 : Nat} {a1 : Int32} {w : Mm} {z mc ms : Nat} {Q : Int32 → Mm → Nat → Prop} {X : String → Mm → Nat → Prop} (h : F_L_faultNow a0 a1 w z mc ms Q) : Ct l g yL_faultNow (.codeWith yL_faultNow cL_faultNow 3 (some .int) [(0, 5, 6, 19)]) (d + 8) mc ms [.ref (a0), .int (a1)] w z (rI Q) X := by
  refine Ct.ofH hst (by decide) (Nat.le_of_ble_eq_true rfl) (fun C hX hE hg hl hNm => ?_)
  subst hg
  subst hl
  unfold F_L_faultNow at h
  show VW C 0 [(0, .ref (a0)), (1, .int (a1))] [] w z mc ms
  refine vw_aload_n hX 0 dL_faultNow_0 rfl ?_
  refine vw_iload_n hX 1 dL_faultNow_1 rfl ?_
  obtain ⟨hr1, h⟩ := h
  obtain ⟨k5, k6, hm1, hm2, h⟩ := h
  refine s_L_59 hX hr1 dL_faultNow_2 (Nat.le_of_ble_eq_true rfl) hm1 hm2 (ct_X5_faultNow (d := d + 0) (lst hX) h) (fun r2 w3 z4 h => ?_) (fun E7 w8 z9 h => ?_)
  · skip
    exact vw_iret hX hE dL_faultNow_5 ⟨_, rfl, h⟩
  · skip
    by_cases c0 : E7 = "java/lang/IndexOutOfBoundsException"
    · have h9 := h.1 c0
      clear h
      have h := h9
      clear h9
      subst c0
      refine vw_catch hX [] [] rfl (fun _ hq => absurd hq List.not_mem_nil) ⟨by decide, by decide⟩ (by decide) kw_1042 (by decide +kernel) (fun u => ?_)
      refine vw_astore_n hX dL_faultNow_6 (by decide) rfl ?_
      refine vw_bipush hX (v := (-17)) dL_faultNow_7 (by decide) ?_
      exact vw_iret hX hE dL_faultNow_9 ⟨_, rfl, h⟩
    replace h := h.2 c0
    exact h.elim
def F_L_debt (a0 : Nat) (a1 : Int32) (w : Mm) (z : Nat) (mc ms : Nat) (Q : Int32 → Mm → Nat → Prop) : Prop :=
  isO w a0 9 ∧ ∃ k5 k6, k5 ≤ mc ∧ k6 ≤ ms ∧ F_X5_debt a0 a1 w z k5 k6 (fun r2 w3 z4 => Q r2 w3 z4) (fun E7 w8 z9 => (E7 = "java/lang/IndexOutOfBoundsException" → Q (-17) w8 z9) ∧ (¬ E7 = "java/lang/IndexOutOfBoundsException" → False))
set_option maxRecDepth 100000 in
set_option maxHeartbeats 4000000 in
theorem ct_L_debt {l : Launch} {g : Gp} {d : Nat} (hst : l.stackTraces = false) {a0 : Nat} {a1 : Int32} {w : Mm} {z mc ms : Nat} {Q : Int32 → Mm → Nat → Prop} {X : String → Mm → Nat → Prop} (h : F_L_debt a0 a1 w z mc ms Q) : Ct l g yL_debt (.codeWith yL_debt cL_debt 3 (some .int) [(0, 5, 6, 19)]) (d + 8) mc ms [.ref (a0), .int (a1)] w z (rI Q) X := by
  refine Ct.ofH hst (by decide) (Nat.le_of_ble_eq_true rfl) (fun C hX hE hg hl hNm => ?_)
  subst hg
  subst hl
  unfold F_L_debt at h
  show VW C 0 [(0, .ref (a0)), (1, .int (a1))] [] w z mc ms
  refine vw_aload_n hX 0 dL_debt_0 rfl ?_
  refine vw_iload_n hX 1 dL_debt_1 rfl ?_
  obtain ⟨hr1, h⟩ := h
  obtain ⟨k5, k6, hm1, hm2, h⟩ := h
  refine s_L_62 hX hr1 dL_debt_2 (Nat.le_of_ble_eq_true rfl) hm1 hm2 (ct_X5_debt (d := d + 0) (lst hX) h) (fun r2 w3 z4 h => ?_) (fun E7 w8 z9 h => ?_)
  · skip
    exact vw_iret hX hE dL_debt_5 ⟨_, rfl, h⟩
  · skip
    by_cases c0 : E7 = "java/lang/IndexOutOfBoundsException"
    · have h9 := h.1 c0
      clear h
      have h := h9
      clear h9
      subst c0
      refine vw_catch hX [] [] rfl (fun _ hq => absurd hq List.not_mem_nil) ⟨by decide, by decide⟩ (by decide) kw_1042 (by decide +kernel) (fun u => ?_)
      refine vw_astore_n hX dL_debt_6 (by decide) rfl ?_
      refine vw_bipush hX (v := (-17)) dL_debt_7 (by decide) ?_
      exact vw_iret hX hE dL_debt_9 ⟨_, rfl, h⟩
    replace h := h.2 c0
    exact h.elim
def F_L_unpaidCases (a0 : Nat) (a1 : Int32) (w : Mm) (z : Nat) (mc ms : Nat) (Q : Int32 → Mm → Nat → Prop) : Prop :=
  isO w a0 9 ∧ ∃ k5 k6, k5 ≤ mc ∧ k6 ≤ ms ∧ F_X5_unpaidCases a0 a1 w z k5 k6 (fun r2 w3 z4 => Q r2 w3 z4) (fun E7 w8 z9 => (E7 = "java/lang/IndexOutOfBoundsException" → Q (-17) w8 z9) ∧ (¬ E7 = "java/lang/IndexOutOfBoundsException" → False))
set_option maxRecDepth 100000 in
set_option maxHeartbeats 4000000 in
theorem ct_L_unpaidCases {l : Launch} {g : Gp} {d : Nat} (hst : l.stackTraces = false) {a0 : Nat} {a1 : Int32} {w : Mm} {z mc ms : Nat} {Q : Int32 → Mm → Nat → Prop} {X : String → Mm → Nat → Prop} (h : F_L_unpaidCases a0 a1 w z mc ms Q) : Ct l g yL_unpaidCases (.codeWith yL_unpaidCases cL_unpaidCases 3 (some .int) [(0, 5, 6, 19)]) (d + 8) mc ms [.ref (a0), .int (a1)] w z (rI Q) X := by
  refine Ct.ofH hst (by decide) (Nat.le_of_ble_eq_true rfl) (fun C hX hE hg hl hNm => ?_)
  subst hg
  subst hl
  unfold F_L_unpaidCases at h
  show VW C 0 [(0, .ref (a0)), (1, .int (a1))] [] w z mc ms
  refine vw_aload_n hX 0 dL_unpaidCases_0 rfl ?_
  refine vw_iload_n hX 1 dL_unpaidCases_1 rfl ?_
  obtain ⟨hr1, h⟩ := h
  obtain ⟨k5, k6, hm1, hm2, h⟩ := h
  refine s_L_65 hX hr1 dL_unpaidCases_2 (Nat.le_of_ble_eq_true rfl) hm1 hm2 (ct_X5_unpaidCases (d := d + 0) (lst hX) h) (fun r2 w3 z4 h => ?_) (fun E7 w8 z9 h => ?_)
  · skip
    exact vw_iret hX hE dL_unpaidCases_5 ⟨_, rfl, h⟩
  · skip
    by_cases c0 : E7 = "java/lang/IndexOutOfBoundsException"
    · have h9 := h.1 c0
      clear h
      have h := h9
      clear h9
      subst c0
      refine vw_catch hX [] [] rfl (fun _ hq => absurd hq List.not_mem_nil) ⟨by decide, by decide⟩ (by decide) kw_1042 (by decide +kernel) (fun u => ?_)
      refine vw_astore_n hX dL_unpaidCases_6 (by decide) rfl ?_
      refine vw_bipush hX (v := (-17)) dL_unpaidCases_7 (by decide) ?_
      exact vw_iret hX hE dL_unpaidCases_9 ⟨_, rfl, h⟩
    replace h := h.2 c0
    exact h.elim
def F_L_isRiding (a0 : Nat) (a1 : Int32) (w : Mm) (z : Nat) (mc ms : Nat) (Q : Int32 → Mm → Nat → Prop) : Prop :=
  isO w a0 9 ∧ ∃ k5 k6, k5 ≤ mc ∧ k6 ≤ ms ∧ F_X5_isRiding a0 a1 w z k5 k6 (fun r2 w3 z4 => (r2 = 0 → Q 0 w3 z4) ∧
  (¬ r2 = 0 → Q 1 w3 z4)) (fun E7 w8 z9 => (E7 = "java/lang/IndexOutOfBoundsException" → Q (-17) w8 z9) ∧ (¬ E7 = "java/lang/IndexOutOfBoundsException" → False))
set_option maxRecDepth 100000 in
set_option maxHeartbeats 4000000 in
theorem ct_L_isRiding {l : Launch} {g : Gp} {d : Nat} (hst : l.stackTraces = false) {a0 : Nat} {a1 : Int32} {w : Mm} {z mc ms : Nat} {Q : Int32 → Mm → Nat → Prop} {X : String → Mm → Nat → Prop} (h : F_L_isRiding a0 a1 w z mc ms Q) : Ct l g yL_isRiding (.codeWith yL_isRiding cL_isRiding 3 (some .int) [(0, 13, 14, 19)]) (d + 8) mc ms [.ref (a0), .int (a1)] w z (rI Q) X := by
  refine Ct.ofH hst (by decide) (Nat.le_of_ble_eq_true rfl) (fun C hX hE hg hl hNm => ?_)
  subst hg
  subst hl
  unfold F_L_isRiding at h
  show VW C 0 [(0, .ref (a0)), (1, .int (a1))] [] w z mc ms
  refine vw_aload_n hX 0 dL_isRiding_0 rfl ?_
  refine vw_iload_n hX 1 dL_isRiding_1 rfl ?_
  obtain ⟨hr1, h⟩ := h
  obtain ⟨k5, k6, hm1, hm2, h⟩ := h
  refine s_L_68 hX hr1 dL_isRiding_2 (Nat.le_of_ble_eq_true rfl) hm1 hm2 (ct_X5_isRiding (d := d + 0) (lst hX) h) (fun r2 w3 z4 h => ?_) (fun E7 w8 z9 h => ?_)
  · skip
    refine vw_if_eq hX (tgt := 12) dL_isRiding_5 (by decide) (fun c10 => ?_) (fun c10 => ?_)
    · have h := h.1 c10
      refine vw_iconst hX (v := 0) dL_isRiding_12 (by decide) ?_
      exact vw_iret hX hE dL_isRiding_13 ⟨_, rfl, h⟩
    · have h := h.2 c10
      refine vw_iconst hX (v := 1) dL_isRiding_8 (by decide) ?_
      refine vw_goto hX (tgt := 13) dL_isRiding_9 (by decide) ?_
      exact vw_iret hX hE dL_isRiding_13 ⟨_, rfl, h⟩
  · skip
    by_cases c0 : E7 = "java/lang/IndexOutOfBoundsException"
    · have h9 := h.1 c0
      clear h
      have h := h9
      clear h9
      subst c0
      refine vw_catch hX [] [] rfl (fun _ hq => absurd hq List.not_mem_nil) ⟨by decide, by decide⟩ (by decide) kw_1042 (by decide +kernel) (fun u => ?_)
      refine vw_astore_n hX dL_isRiding_14 (by decide) rfl ?_
      refine vw_bipush hX (v := (-17)) dL_isRiding_15 (by decide) ?_
      exact vw_iret hX hE dL_isRiding_17 ⟨_, rfl, h⟩
    replace h := h.2 c0
    exact h.elim
def F_L_ticketHolder (a0 : Nat) (a1 : Int32) (w : Mm) (z : Nat) (mc ms : Nat) (Q : Int32 → Mm → Nat → Prop) : Prop :=
  isO w a0 9 ∧ ∃ k5 k6, k5 ≤ mc ∧ k6 ≤ ms ∧ F_X5_ticketHolder a0 a1 w z k5 k6 (fun r2 w3 z4 => Q r2 w3 z4) (fun E7 w8 z9 => (E7 = "java/lang/IndexOutOfBoundsException" → Q (-17) w8 z9) ∧ (¬ E7 = "java/lang/IndexOutOfBoundsException" → False))
set_option maxRecDepth 100000 in
set_option maxHeartbeats 4000000 in
theorem ct_L_ticketHolder {l : Launch} {g : Gp} {d : Nat} (hst : l.stackTraces = false) {a0 : Nat} {a1 : Int32} {w : Mm} {z mc ms : Nat} {Q : Int32 → Mm → Nat → Prop} {X : String → Mm → Nat → Prop} (h : F_L_ticketHolder a0 a1 w z mc ms Q) : Ct l g yL_ticketHolder (.codeWith yL_ticketHolder cL_ticketHolder 3 (some .int) [(0, 5, 6, 19)]) (d + 8) mc ms [.ref (a0), .int (a1)] w z (rI Q) X := by
  refine Ct.ofH hst (by decide) (Nat.le_of_ble_eq_true rfl) (fun C hX hE hg hl hNm => ?_)
  subst hg
  subst hl
  unfold F_L_ticketHolder at h
  show VW C 0 [(0, .ref (a0)), (1, .int (a1))] [] w z mc ms
  refine vw_aload_n hX 0 dL_ticketHolder_0 rfl ?_
  refine vw_iload_n hX 1 dL_ticketHolder_1 rfl ?_
  obtain ⟨hr1, h⟩ := h
  obtain ⟨k5, k6, hm1, hm2, h⟩ := h
  refine s_L_72 hX hr1 dL_ticketHolder_2 (Nat.le_of_ble_eq_true rfl) hm1 hm2 (ct_X5_ticketHolder (d := d + 0) (lst hX) h) (fun r2 w3 z4 h => ?_) (fun E7 w8 z9 h => ?_)
  · skip
    exact vw_iret hX hE dL_ticketHolder_5 ⟨_, rfl, h⟩
  · skip
    by_cases c0 : E7 = "java/lang/IndexOutOfBoundsException"
    · have h9 := h.1 c0
      clear h
      have h := h9
      clear h9
      subst c0
      refine vw_catch hX [] [] rfl (fun _ hq => absurd hq List.not_mem_nil) ⟨by decide, by decide⟩ (by decide) kw_1042 (by decide +kernel) (fun u => ?_)
      refine vw_astore_n hX dL_ticketHolder_6 (by decide) rfl ?_
      refine vw_bipush hX (v := (-17)) dL_ticketHolder_7 (by decide) ?_
      exact vw_iret hX hE dL_ticketHolder_9 ⟨_, rfl, h⟩
    replace h := h.2 c0
    exact h.elim
def F_L_ticketKind (a0 : Nat) (a1 : Int32) (w : Mm) (z : Nat) (mc ms : Nat) (Q : Int32 → Mm → Nat → Prop) : Prop :=
  isO w a0 9 ∧ ∃ k5 k6, k5 ≤ mc ∧ k6 ≤ ms ∧ F_X5_ticketKind a0 a1 w z k5 k6 (fun r2 w3 z4 => Q r2 w3 z4) (fun E7 w8 z9 => (E7 = "java/lang/IndexOutOfBoundsException" → Q (-17) w8 z9) ∧ (¬ E7 = "java/lang/IndexOutOfBoundsException" → False))
set_option maxRecDepth 100000 in
set_option maxHeartbeats 4000000 in
theorem ct_L_ticketKind {l : Launch} {g : Gp} {d : Nat} (hst : l.stackTraces = false) {a0 : Nat} {a1 : Int32} {w : Mm} {z mc ms : Nat} {Q : Int32 → Mm → Nat → Prop} {X : String → Mm → Nat → Prop} (h : F_L_ticketKind a0 a1 w z mc ms Q) : Ct l g yL_ticketKind (.codeWith yL_ticketKind cL_ticketKind 3 (some .int) [(0, 5, 6, 19)]) (d + 8) mc ms [.ref (a0), .int (a1)] w z (rI Q) X := by
  refine Ct.ofH hst (by decide) (Nat.le_of_ble_eq_true rfl) (fun C hX hE hg hl hNm => ?_)
  subst hg
  subst hl
  unfold F_L_ticketKind at h
  show VW C 0 [(0, .ref (a0)), (1, .int (a1))] [] w z mc ms
  refine vw_aload_n hX 0 dL_ticketKind_0 rfl ?_
  refine vw_iload_n hX 1 dL_ticketKind_1 rfl ?_
  obtain ⟨hr1, h⟩ := h
  obtain ⟨k5, k6, hm1, hm2, h⟩ := h
  refine s_L_75 hX hr1 dL_ticketKind_2 (Nat.le_of_ble_eq_true rfl) hm1 hm2 (ct_X5_ticketKind (d := d + 0) (lst hX) h) (fun r2 w3 z4 h => ?_) (fun E7 w8 z9 h => ?_)
  · skip
    exact vw_iret hX hE dL_ticketKind_5 ⟨_, rfl, h⟩
  · skip
    by_cases c0 : E7 = "java/lang/IndexOutOfBoundsException"
    · have h9 := h.1 c0
      clear h
      have h := h9
      clear h9
      subst c0
      refine vw_catch hX [] [] rfl (fun _ hq => absurd hq List.not_mem_nil) ⟨by decide, by decide⟩ (by decide) kw_1042 (by decide +kernel) (fun u => ?_)
      refine vw_astore_n hX dL_ticketKind_6 (by decide) rfl ?_
      refine vw_bipush hX (v := (-17)) dL_ticketKind_7 (by decide) ?_
      exact vw_iret hX hE dL_ticketKind_9 ⟨_, rfl, h⟩
    replace h := h.2 c0
    exact h.elim
def F_L_ticketZones (a0 : Nat) (a1 : Int32) (w : Mm) (z : Nat) (mc ms : Nat) (Q : Int32 → Mm → Nat → Prop) : Prop :=
  isO w a0 9 ∧ ∃ k5 k6, k5 ≤ mc ∧ k6 ≤ ms ∧ F_X5_ticketZones a0 a1 w z k5 k6 (fun r2 w3 z4 => Q r2 w3 z4) (fun E7 w8 z9 => (E7 = "java/lang/IndexOutOfBoundsException" → Q (-17) w8 z9) ∧ (¬ E7 = "java/lang/IndexOutOfBoundsException" → False))
set_option maxRecDepth 100000 in
set_option maxHeartbeats 4000000 in
theorem ct_L_ticketZones {l : Launch} {g : Gp} {d : Nat} (hst : l.stackTraces = false) {a0 : Nat} {a1 : Int32} {w : Mm} {z mc ms : Nat} {Q : Int32 → Mm → Nat → Prop} {X : String → Mm → Nat → Prop} (h : F_L_ticketZones a0 a1 w z mc ms Q) : Ct l g yL_ticketZones (.codeWith yL_ticketZones cL_ticketZones 3 (some .int) [(0, 5, 6, 19)]) (d + 8) mc ms [.ref (a0), .int (a1)] w z (rI Q) X := by
  refine Ct.ofH hst (by decide) (Nat.le_of_ble_eq_true rfl) (fun C hX hE hg hl hNm => ?_)
  subst hg
  subst hl
  unfold F_L_ticketZones at h
  show VW C 0 [(0, .ref (a0)), (1, .int (a1))] [] w z mc ms
  refine vw_aload_n hX 0 dL_ticketZones_0 rfl ?_
  refine vw_iload_n hX 1 dL_ticketZones_1 rfl ?_
  obtain ⟨hr1, h⟩ := h
  obtain ⟨k5, k6, hm1, hm2, h⟩ := h
  refine s_L_78 hX hr1 dL_ticketZones_2 (Nat.le_of_ble_eq_true rfl) hm1 hm2 (ct_X5_ticketZones (d := d + 0) (lst hX) h) (fun r2 w3 z4 h => ?_) (fun E7 w8 z9 h => ?_)
  · skip
    exact vw_iret hX hE dL_ticketZones_5 ⟨_, rfl, h⟩
  · skip
    by_cases c0 : E7 = "java/lang/IndexOutOfBoundsException"
    · have h9 := h.1 c0
      clear h
      have h := h9
      clear h9
      subst c0
      refine vw_catch hX [] [] rfl (fun _ hq => absurd hq List.not_mem_nil) ⟨by decide, by decide⟩ (by decide) kw_1042 (by decide +kernel) (fun u => ?_)
      refine vw_astore_n hX dL_ticketZones_6 (by decide) rfl ?_
      refine vw_bipush hX (v := (-17)) dL_ticketZones_7 (by decide) ?_
      exact vw_iret hX hE dL_ticketZones_9 ⟨_, rfl, h⟩
    replace h := h.2 c0
    exact h.elim
def F_L_ticketPrice (a0 : Nat) (a1 : Int32) (w : Mm) (z : Nat) (mc ms : Nat) (Q : Int32 → Mm → Nat → Prop) : Prop :=
  isO w a0 9 ∧ ∃ k5 k6, k5 ≤ mc ∧ k6 ≤ ms ∧ F_X5_ticketPrice a0 a1 w z k5 k6 (fun r2 w3 z4 => Q r2 w3 z4) (fun E7 w8 z9 => (E7 = "java/lang/IndexOutOfBoundsException" → Q (-17) w8 z9) ∧ (¬ E7 = "java/lang/IndexOutOfBoundsException" → False))
set_option maxRecDepth 100000 in
set_option maxHeartbeats 4000000 in
theorem ct_L_ticketPrice {l : Launch} {g : Gp} {d : Nat} (hst : l.stackTraces = false) {a0 : Nat} {a1 : Int32} {w : Mm} {z mc ms : Nat} {Q : Int32 → Mm → Nat → Prop} {X : String → Mm → Nat → Prop} (h : F_L_ticketPrice a0 a1 w z mc ms Q) : Ct l g yL_ticketPrice (.codeWith yL_ticketPrice cL_ticketPrice 3 (some .int) [(0, 5, 6, 19)]) (d + 8) mc ms [.ref (a0), .int (a1)] w z (rI Q) X := by
  refine Ct.ofH hst (by decide) (Nat.le_of_ble_eq_true rfl) (fun C hX hE hg hl hNm => ?_)
  subst hg
  subst hl
  unfold F_L_ticketPrice at h
  show VW C 0 [(0, .ref (a0)), (1, .int (a1))] [] w z mc ms
  refine vw_aload_n hX 0 dL_ticketPrice_0 rfl ?_
  refine vw_iload_n hX 1 dL_ticketPrice_1 rfl ?_
  obtain ⟨hr1, h⟩ := h
  obtain ⟨k5, k6, hm1, hm2, h⟩ := h
  refine s_L_81 hX hr1 dL_ticketPrice_2 (Nat.le_of_ble_eq_true rfl) hm1 hm2 (ct_X5_ticketPrice (d := d + 0) (lst hX) h) (fun r2 w3 z4 h => ?_) (fun E7 w8 z9 h => ?_)
  · skip
    exact vw_iret hX hE dL_ticketPrice_5 ⟨_, rfl, h⟩
  · skip
    by_cases c0 : E7 = "java/lang/IndexOutOfBoundsException"
    · have h9 := h.1 c0
      clear h
      have h := h9
      clear h9
      subst c0
      refine vw_catch hX [] [] rfl (fun _ hq => absurd hq List.not_mem_nil) ⟨by decide, by decide⟩ (by decide) kw_1042 (by decide +kernel) (fun u => ?_)
      refine vw_astore_n hX dL_ticketPrice_6 (by decide) rfl ?_
      refine vw_bipush hX (v := (-17)) dL_ticketPrice_7 (by decide) ?_
      exact vw_iret hX hE dL_ticketPrice_9 ⟨_, rfl, h⟩
    replace h := h.2 c0
    exact h.elim
def F_L_stampTime (a0 : Nat) (a1 : Int32) (w : Mm) (z : Nat) (mc ms : Nat) (Q : Int32 → Mm → Nat → Prop) : Prop :=
  isO w a0 9 ∧ ∃ k5 k6, k5 ≤ mc ∧ k6 ≤ ms ∧ F_X5_stampTime a0 a1 w z k5 k6 (fun r2 w3 z4 => Q r2 w3 z4) (fun E7 w8 z9 => (E7 = "java/lang/IndexOutOfBoundsException" → Q (-17) w8 z9) ∧ (¬ E7 = "java/lang/IndexOutOfBoundsException" → False))
set_option maxRecDepth 100000 in
set_option maxHeartbeats 4000000 in
theorem ct_L_stampTime {l : Launch} {g : Gp} {d : Nat} (hst : l.stackTraces = false) {a0 : Nat} {a1 : Int32} {w : Mm} {z mc ms : Nat} {Q : Int32 → Mm → Nat → Prop} {X : String → Mm → Nat → Prop} (h : F_L_stampTime a0 a1 w z mc ms Q) : Ct l g yL_stampTime (.codeWith yL_stampTime cL_stampTime 3 (some .int) [(0, 5, 6, 19)]) (d + 8) mc ms [.ref (a0), .int (a1)] w z (rI Q) X := by
  refine Ct.ofH hst (by decide) (Nat.le_of_ble_eq_true rfl) (fun C hX hE hg hl hNm => ?_)
  subst hg
  subst hl
  unfold F_L_stampTime at h
  show VW C 0 [(0, .ref (a0)), (1, .int (a1))] [] w z mc ms
  refine vw_aload_n hX 0 dL_stampTime_0 rfl ?_
  refine vw_iload_n hX 1 dL_stampTime_1 rfl ?_
  obtain ⟨hr1, h⟩ := h
  obtain ⟨k5, k6, hm1, hm2, h⟩ := h
  refine s_L_84 hX hr1 dL_stampTime_2 (Nat.le_of_ble_eq_true rfl) hm1 hm2 (ct_X5_stampTime (d := d + 0) (lst hX) h) (fun r2 w3 z4 h => ?_) (fun E7 w8 z9 h => ?_)
  · skip
    exact vw_iret hX hE dL_stampTime_5 ⟨_, rfl, h⟩
  · skip
    by_cases c0 : E7 = "java/lang/IndexOutOfBoundsException"
    · have h9 := h.1 c0
      clear h
      have h := h9
      clear h9
      subst c0
      refine vw_catch hX [] [] rfl (fun _ hq => absurd hq List.not_mem_nil) ⟨by decide, by decide⟩ (by decide) kw_1042 (by decide +kernel) (fun u => ?_)
      refine vw_astore_n hX dL_stampTime_6 (by decide) rfl ?_
      refine vw_bipush hX (v := (-17)) dL_stampTime_7 (by decide) ?_
      exact vw_iret hX hE dL_stampTime_9 ⟨_, rfl, h⟩
    replace h := h.2 c0
    exact h.elim
def F_L_stampStop (a0 : Nat) (a1 : Int32) (w : Mm) (z : Nat) (mc ms : Nat) (Q : Int32 → Mm → Nat → Prop) : Prop :=
  isO w a0 9 ∧ ∃ k5 k6, k5 ≤ mc ∧ k6 ≤ ms ∧ F_X5_stampStop a0 a1 w z k5 k6 (fun r2 w3 z4 => Q r2 w3 z4) (fun E7 w8 z9 => (E7 = "java/lang/IndexOutOfBoundsException" → Q (-17) w8 z9) ∧ (¬ E7 = "java/lang/IndexOutOfBoundsException" → False))
set_option maxRecDepth 100000 in
set_option maxHeartbeats 4000000 in
theorem ct_L_stampStop {l : Launch} {g : Gp} {d : Nat} (hst : l.stackTraces = false) {a0 : Nat} {a1 : Int32} {w : Mm} {z mc ms : Nat} {Q : Int32 → Mm → Nat → Prop} {X : String → Mm → Nat → Prop} (h : F_L_stampStop a0 a1 w z mc ms Q) : Ct l g yL_stampStop (.codeWith yL_stampStop cL_stampStop 3 (some .int) [(0, 5, 6, 19)]) (d + 8) mc ms [.ref (a0), .int (a1)] w z (rI Q) X := by
  refine Ct.ofH hst (by decide) (Nat.le_of_ble_eq_true rfl) (fun C hX hE hg hl hNm => ?_)
  subst hg
  subst hl
  unfold F_L_stampStop at h
  show VW C 0 [(0, .ref (a0)), (1, .int (a1))] [] w z mc ms
  refine vw_aload_n hX 0 dL_stampStop_0 rfl ?_
  refine vw_iload_n hX 1 dL_stampStop_1 rfl ?_
  obtain ⟨hr1, h⟩ := h
  obtain ⟨k5, k6, hm1, hm2, h⟩ := h
  refine s_L_87 hX hr1 dL_stampStop_2 (Nat.le_of_ble_eq_true rfl) hm1 hm2 (ct_X5_stampStop (d := d + 0) (lst hX) h) (fun r2 w3 z4 h => ?_) (fun E7 w8 z9 h => ?_)
  · skip
    exact vw_iret hX hE dL_stampStop_5 ⟨_, rfl, h⟩
  · skip
    by_cases c0 : E7 = "java/lang/IndexOutOfBoundsException"
    · have h9 := h.1 c0
      clear h
      have h := h9
      clear h9
      subst c0
      refine vw_catch hX [] [] rfl (fun _ hq => absurd hq List.not_mem_nil) ⟨by decide, by decide⟩ (by decide) kw_1042 (by decide +kernel) (fun u => ?_)
      refine vw_astore_n hX dL_stampStop_6 (by decide) rfl ?_
      refine vw_bipush hX (v := (-17)) dL_stampStop_7 (by decide) ?_
      exact vw_iret hX hE dL_stampStop_9 ⟨_, rfl, h⟩
    replace h := h.2 c0
    exact h.elim
def F_L_ticketRides (a0 : Nat) (a1 : Int32) (w : Mm) (z : Nat) (mc ms : Nat) (Q : Int32 → Mm → Nat → Prop) : Prop :=
  isO w a0 9 ∧ ∃ k5 k6, k5 ≤ mc ∧ k6 ≤ ms ∧ F_X5_ticketRides a0 a1 w z k5 k6 (fun r2 w3 z4 => Q r2 w3 z4) (fun E7 w8 z9 => (E7 = "java/lang/IndexOutOfBoundsException" → Q (-17) w8 z9) ∧ (¬ E7 = "java/lang/IndexOutOfBoundsException" → False))
set_option maxRecDepth 100000 in
set_option maxHeartbeats 4000000 in
theorem ct_L_ticketRides {l : Launch} {g : Gp} {d : Nat} (hst : l.stackTraces = false) {a0 : Nat} {a1 : Int32} {w : Mm} {z mc ms : Nat} {Q : Int32 → Mm → Nat → Prop} {X : String → Mm → Nat → Prop} (h : F_L_ticketRides a0 a1 w z mc ms Q) : Ct l g yL_ticketRides (.codeWith yL_ticketRides cL_ticketRides 3 (some .int) [(0, 5, 6, 19)]) (d + 8) mc ms [.ref (a0), .int (a1)] w z (rI Q) X := by
  refine Ct.ofH hst (by decide) (Nat.le_of_ble_eq_true rfl) (fun C hX hE hg hl hNm => ?_)
  subst hg
  subst hl
  unfold F_L_ticketRides at h
  show VW C 0 [(0, .ref (a0)), (1, .int (a1))] [] w z mc ms
  refine vw_aload_n hX 0 dL_ticketRides_0 rfl ?_
  refine vw_iload_n hX 1 dL_ticketRides_1 rfl ?_
  obtain ⟨hr1, h⟩ := h
  obtain ⟨k5, k6, hm1, hm2, h⟩ := h
  refine s_L_90 hX hr1 dL_ticketRides_2 (Nat.le_of_ble_eq_true rfl) hm1 hm2 (ct_X5_ticketRides (d := d + 0) (lst hX) h) (fun r2 w3 z4 h => ?_) (fun E7 w8 z9 h => ?_)
  · skip
    exact vw_iret hX hE dL_ticketRides_5 ⟨_, rfl, h⟩
  · skip
    by_cases c0 : E7 = "java/lang/IndexOutOfBoundsException"
    · have h9 := h.1 c0
      clear h
      have h := h9
      clear h9
      subst c0
      refine vw_catch hX [] [] rfl (fun _ hq => absurd hq List.not_mem_nil) ⟨by decide, by decide⟩ (by decide) kw_1042 (by decide +kernel) (fun u => ?_)
      refine vw_astore_n hX dL_ticketRides_6 (by decide) rfl ?_
      refine vw_bipush hX (v := (-17)) dL_ticketRides_7 (by decide) ?_
      exact vw_iret hX hE dL_ticketRides_9 ⟨_, rfl, h⟩
    replace h := h.2 c0
    exact h.elim
def F_L_isInTime (a0 : Nat) (a1 : Int32) (w : Mm) (z : Nat) (mc ms : Nat) (Q : Int32 → Mm → Nat → Prop) : Prop :=
  isO w a0 9 ∧ ∃ k5 k6, k5 ≤ mc ∧ k6 ≤ ms ∧ F_X5_isInTime a0 a1 w z k5 k6 (fun r2 w3 z4 => (r2 = 0 → Q 0 w3 z4) ∧
  (¬ r2 = 0 → Q 1 w3 z4)) (fun E7 w8 z9 => (E7 = "java/lang/IndexOutOfBoundsException" → Q (-17) w8 z9) ∧ (¬ E7 = "java/lang/IndexOutOfBoundsException" → False))
set_option maxRecDepth 100000 in
set_option maxHeartbeats 4000000 in
theorem ct_L_isInTime {l : Launch} {g : Gp} {d : Nat} (hst : l.stackTraces = false) {a0 : Nat} {a1 : Int32} {w : Mm} {z mc ms : Nat} {Q : Int32 → Mm → Nat → Prop} {X : String → Mm → Nat → Prop} (h : F_L_isInTime a0 a1 w z mc ms Q) : Ct l g yL_isInTime (.codeWith yL_isInTime cL_isInTime 3 (some .int) [(0, 13, 14, 19)]) (d + 8) mc ms [.ref (a0), .int (a1)] w z (rI Q) X := by
  refine Ct.ofH hst (by decide) (Nat.le_of_ble_eq_true rfl) (fun C hX hE hg hl hNm => ?_)
  subst hg
  subst hl
  unfold F_L_isInTime at h
  show VW C 0 [(0, .ref (a0)), (1, .int (a1))] [] w z mc ms
  refine vw_aload_n hX 0 dL_isInTime_0 rfl ?_
  refine vw_iload_n hX 1 dL_isInTime_1 rfl ?_
  obtain ⟨hr1, h⟩ := h
  obtain ⟨k5, k6, hm1, hm2, h⟩ := h
  refine s_L_93 hX hr1 dL_isInTime_2 (Nat.le_of_ble_eq_true rfl) hm1 hm2 (ct_X5_isInTime (d := d + 0) (lst hX) h) (fun r2 w3 z4 h => ?_) (fun E7 w8 z9 h => ?_)
  · skip
    refine vw_if_eq hX (tgt := 12) dL_isInTime_5 (by decide) (fun c10 => ?_) (fun c10 => ?_)
    · have h := h.1 c10
      refine vw_iconst hX (v := 0) dL_isInTime_12 (by decide) ?_
      exact vw_iret hX hE dL_isInTime_13 ⟨_, rfl, h⟩
    · have h := h.2 c10
      refine vw_iconst hX (v := 1) dL_isInTime_8 (by decide) ?_
      refine vw_goto hX (tgt := 13) dL_isInTime_9 (by decide) ?_
      exact vw_iret hX hE dL_isInTime_13 ⟨_, rfl, h⟩
  · skip
    by_cases c0 : E7 = "java/lang/IndexOutOfBoundsException"
    · have h9 := h.1 c0
      clear h
      have h := h9
      clear h9
      subst c0
      refine vw_catch hX [] [] rfl (fun _ hq => absurd hq List.not_mem_nil) ⟨by decide, by decide⟩ (by decide) kw_1042 (by decide +kernel) (fun u => ?_)
      refine vw_astore_n hX dL_isInTime_14 (by decide) rfl ?_
      refine vw_bipush hX (v := (-17)) dL_isInTime_15 (by decide) ?_
      exact vw_iret hX hE dL_isInTime_17 ⟨_, rfl, h⟩
    replace h := h.2 c0
    exact h.elim
def F_L_casePassenger (a0 : Nat) (a1 : Int32) (w : Mm) (z : Nat) (mc ms : Nat) (Q : Int32 → Mm → Nat → Prop) : Prop :=
  isO w a0 9 ∧ ∃ k5 k6, k5 ≤ mc ∧ k6 ≤ ms ∧ F_X5_casePassenger a0 a1 w z k5 k6 (fun r2 w3 z4 => Q r2 w3 z4) (fun E7 w8 z9 => (E7 = "java/lang/IndexOutOfBoundsException" → Q (-17) w8 z9) ∧ (¬ E7 = "java/lang/IndexOutOfBoundsException" → False))
set_option maxRecDepth 100000 in
set_option maxHeartbeats 4000000 in
theorem ct_L_casePassenger {l : Launch} {g : Gp} {d : Nat} (hst : l.stackTraces = false) {a0 : Nat} {a1 : Int32} {w : Mm} {z mc ms : Nat} {Q : Int32 → Mm → Nat → Prop} {X : String → Mm → Nat → Prop} (h : F_L_casePassenger a0 a1 w z mc ms Q) : Ct l g yL_casePassenger (.codeWith yL_casePassenger cL_casePassenger 3 (some .int) [(0, 5, 6, 19)]) (d + 8) mc ms [.ref (a0), .int (a1)] w z (rI Q) X := by
  refine Ct.ofH hst (by decide) (Nat.le_of_ble_eq_true rfl) (fun C hX hE hg hl hNm => ?_)
  subst hg
  subst hl
  unfold F_L_casePassenger at h
  show VW C 0 [(0, .ref (a0)), (1, .int (a1))] [] w z mc ms
  refine vw_aload_n hX 0 dL_casePassenger_0 rfl ?_
  refine vw_iload_n hX 1 dL_casePassenger_1 rfl ?_
  obtain ⟨hr1, h⟩ := h
  obtain ⟨k5, k6, hm1, hm2, h⟩ := h
  refine s_L_96 hX hr1 dL_casePassenger_2 (Nat.le_of_ble_eq_true rfl) hm1 hm2 (ct_X5_casePassenger (d := d + 0) (lst hX) h) (fun r2 w3 z4 h => ?_) (fun E7 w8 z9 h => ?_)
  · skip
    exact vw_iret hX hE dL_casePassenger_5 ⟨_, rfl, h⟩
  · skip
    by_cases c0 : E7 = "java/lang/IndexOutOfBoundsException"
    · have h9 := h.1 c0
      clear h
      have h := h9
      clear h9
      subst c0
      refine vw_catch hX [] [] rfl (fun _ hq => absurd hq List.not_mem_nil) ⟨by decide, by decide⟩ (by decide) kw_1042 (by decide +kernel) (fun u => ?_)
      refine vw_astore_n hX dL_casePassenger_6 (by decide) rfl ?_
      refine vw_bipush hX (v := (-17)) dL_casePassenger_7 (by decide) ?_
      exact vw_iret hX hE dL_casePassenger_9 ⟨_, rfl, h⟩
    replace h := h.2 c0
    exact h.elim
def F_L_caseFault (a0 : Nat) (a1 : Int32) (w : Mm) (z : Nat) (mc ms : Nat) (Q : Int32 → Mm → Nat → Prop) : Prop :=
  isO w a0 9 ∧ ∃ k5 k6, k5 ≤ mc ∧ k6 ≤ ms ∧ F_X5_caseFault a0 a1 w z k5 k6 (fun r2 w3 z4 => Q r2 w3 z4) (fun E7 w8 z9 => (E7 = "java/lang/IndexOutOfBoundsException" → Q (-17) w8 z9) ∧ (¬ E7 = "java/lang/IndexOutOfBoundsException" → False))
set_option maxRecDepth 100000 in
set_option maxHeartbeats 4000000 in
theorem ct_L_caseFault {l : Launch} {g : Gp} {d : Nat} (hst : l.stackTraces = false) {a0 : Nat} {a1 : Int32} {w : Mm} {z mc ms : Nat} {Q : Int32 → Mm → Nat → Prop} {X : String → Mm → Nat → Prop} (h : F_L_caseFault a0 a1 w z mc ms Q) : Ct l g yL_caseFault (.codeWith yL_caseFault cL_caseFault 3 (some .int) [(0, 5, 6, 19)]) (d + 8) mc ms [.ref (a0), .int (a1)] w z (rI Q) X := by
  refine Ct.ofH hst (by decide) (Nat.le_of_ble_eq_true rfl) (fun C hX hE hg hl hNm => ?_)
  subst hg
  subst hl
  unfold F_L_caseFault at h
  show VW C 0 [(0, .ref (a0)), (1, .int (a1))] [] w z mc ms
  refine vw_aload_n hX 0 dL_caseFault_0 rfl ?_
  refine vw_iload_n hX 1 dL_caseFault_1 rfl ?_
  obtain ⟨hr1, h⟩ := h
  obtain ⟨k5, k6, hm1, hm2, h⟩ := h
  refine s_L_99 hX hr1 dL_caseFault_2 (Nat.le_of_ble_eq_true rfl) hm1 hm2 (ct_X5_caseFault (d := d + 0) (lst hX) h) (fun r2 w3 z4 h => ?_) (fun E7 w8 z9 h => ?_)
  · skip
    exact vw_iret hX hE dL_caseFault_5 ⟨_, rfl, h⟩
  · skip
    by_cases c0 : E7 = "java/lang/IndexOutOfBoundsException"
    · have h9 := h.1 c0
      clear h
      have h := h9
      clear h9
      subst c0
      refine vw_catch hX [] [] rfl (fun _ hq => absurd hq List.not_mem_nil) ⟨by decide, by decide⟩ (by decide) kw_1042 (by decide +kernel) (fun u => ?_)
      refine vw_astore_n hX dL_caseFault_6 (by decide) rfl ?_
      refine vw_bipush hX (v := (-17)) dL_caseFault_7 (by decide) ?_
      exact vw_iret hX hE dL_caseFault_9 ⟨_, rfl, h⟩
    replace h := h.2 c0
    exact h.elim
def F_L_caseState (a0 : Nat) (a1 : Int32) (w : Mm) (z : Nat) (mc ms : Nat) (Q : Int32 → Mm → Nat → Prop) : Prop :=
  isO w a0 9 ∧ ∃ k5 k6, k5 ≤ mc ∧ k6 ≤ ms ∧ F_X5_caseState a0 a1 w z k5 k6 (fun r2 w3 z4 => Q r2 w3 z4) (fun E7 w8 z9 => (E7 = "java/lang/IndexOutOfBoundsException" → Q (-17) w8 z9) ∧ (¬ E7 = "java/lang/IndexOutOfBoundsException" → False))
set_option maxRecDepth 100000 in
set_option maxHeartbeats 4000000 in
theorem ct_L_caseState {l : Launch} {g : Gp} {d : Nat} (hst : l.stackTraces = false) {a0 : Nat} {a1 : Int32} {w : Mm} {z mc ms : Nat} {Q : Int32 → Mm → Nat → Prop} {X : String → Mm → Nat → Prop} (h : F_L_caseState a0 a1 w z mc ms Q) : Ct l g yL_caseState (.codeWith yL_caseState cL_caseState 3 (some .int) [(0, 5, 6, 19)]) (d + 8) mc ms [.ref (a0), .int (a1)] w z (rI Q) X := by
  refine Ct.ofH hst (by decide) (Nat.le_of_ble_eq_true rfl) (fun C hX hE hg hl hNm => ?_)
  subst hg
  subst hl
  unfold F_L_caseState at h
  show VW C 0 [(0, .ref (a0)), (1, .int (a1))] [] w z mc ms
  refine vw_aload_n hX 0 dL_caseState_0 rfl ?_
  refine vw_iload_n hX 1 dL_caseState_1 rfl ?_
  obtain ⟨hr1, h⟩ := h
  obtain ⟨k5, k6, hm1, hm2, h⟩ := h
  refine s_L_102 hX hr1 dL_caseState_2 (Nat.le_of_ble_eq_true rfl) hm1 hm2 (ct_X5_caseState (d := d + 0) (lst hX) h) (fun r2 w3 z4 h => ?_) (fun E7 w8 z9 h => ?_)
  · skip
    exact vw_iret hX hE dL_caseState_5 ⟨_, rfl, h⟩
  · skip
    by_cases c0 : E7 = "java/lang/IndexOutOfBoundsException"
    · have h9 := h.1 c0
      clear h
      have h := h9
      clear h9
      subst c0
      refine vw_catch hX [] [] rfl (fun _ hq => absurd hq List.not_mem_nil) ⟨by decide, by decide⟩ (by decide) kw_1042 (by decide +kernel) (fun u => ?_)
      refine vw_astore_n hX dL_caseState_6 (by decide) rfl ?_
      refine vw_bipush hX (v := (-17)) dL_caseState_7 (by decide) ?_
      exact vw_iret hX hE dL_caseState_9 ⟨_, rfl, h⟩
    replace h := h.2 c0
    exact h.elim
def F_L_caseTime (a0 : Nat) (a1 : Int32) (w : Mm) (z : Nat) (mc ms : Nat) (Q : Int32 → Mm → Nat → Prop) : Prop :=
  isO w a0 9 ∧ ∃ k5 k6, k5 ≤ mc ∧ k6 ≤ ms ∧ F_X5_caseTime a0 a1 w z k5 k6 (fun r2 w3 z4 => Q r2 w3 z4) (fun E7 w8 z9 => (E7 = "java/lang/IndexOutOfBoundsException" → Q (-17) w8 z9) ∧ (¬ E7 = "java/lang/IndexOutOfBoundsException" → False))
set_option maxRecDepth 100000 in
set_option maxHeartbeats 4000000 in
theorem ct_L_caseTime {l : Launch} {g : Gp} {d : Nat} (hst : l.stackTraces = false) {a0 : Nat} {a1 : Int32} {w : Mm} {z mc ms : Nat} {Q : Int32 → Mm → Nat → Prop} {X : String → Mm → Nat → Prop} (h : F_L_caseTime a0 a1 w z mc ms Q) : Ct l g yL_caseTime (.codeWith yL_caseTime cL_caseTime 3 (some .int) [(0, 5, 6, 19)]) (d + 8) mc ms [.ref (a0), .int (a1)] w z (rI Q) X := by
  refine Ct.ofH hst (by decide) (Nat.le_of_ble_eq_true rfl) (fun C hX hE hg hl hNm => ?_)
  subst hg
  subst hl
  unfold F_L_caseTime at h
  show VW C 0 [(0, .ref (a0)), (1, .int (a1))] [] w z mc ms
  refine vw_aload_n hX 0 dL_caseTime_0 rfl ?_
  refine vw_iload_n hX 1 dL_caseTime_1 rfl ?_
  obtain ⟨hr1, h⟩ := h
  obtain ⟨k5, k6, hm1, hm2, h⟩ := h
  refine s_L_105 hX hr1 dL_caseTime_2 (Nat.le_of_ble_eq_true rfl) hm1 hm2 (ct_X5_caseTime (d := d + 0) (lst hX) h) (fun r2 w3 z4 h => ?_) (fun E7 w8 z9 h => ?_)
  · skip
    exact vw_iret hX hE dL_caseTime_5 ⟨_, rfl, h⟩
  · skip
    by_cases c0 : E7 = "java/lang/IndexOutOfBoundsException"
    · have h9 := h.1 c0
      clear h
      have h := h9
      clear h9
      subst c0
      refine vw_catch hX [] [] rfl (fun _ hq => absurd hq List.not_mem_nil) ⟨by decide, by decide⟩ (by decide) kw_1042 (by decide +kernel) (fun u => ?_)
      refine vw_astore_n hX dL_caseTime_6 (by decide) rfl ?_
      refine vw_bipush hX (v := (-17)) dL_caseTime_7 (by decide) ?_
      exact vw_iret hX hE dL_caseTime_9 ⟨_, rfl, h⟩
    replace h := h.2 c0
    exact h.elim
def F_L_amountDue (a0 : Nat) (a1 : Int32) (w : Mm) (z : Nat) (mc ms : Nat) (Q : Int32 → Mm → Nat → Prop) : Prop :=
  isO w a0 9 ∧ ∃ k5 k6, k5 ≤ mc ∧ k6 ≤ ms ∧ F_X5_amountDue a0 a1 w z k5 k6 (fun r2 w3 z4 => Q r2 w3 z4) (fun E7 w8 z9 => (E7 = "java/lang/IndexOutOfBoundsException" → Q (-17) w8 z9) ∧ (¬ E7 = "java/lang/IndexOutOfBoundsException" → False))
set_option maxRecDepth 100000 in
set_option maxHeartbeats 4000000 in
theorem ct_L_amountDue {l : Launch} {g : Gp} {d : Nat} (hst : l.stackTraces = false) {a0 : Nat} {a1 : Int32} {w : Mm} {z mc ms : Nat} {Q : Int32 → Mm → Nat → Prop} {X : String → Mm → Nat → Prop} (h : F_L_amountDue a0 a1 w z mc ms Q) : Ct l g yL_amountDue (.codeWith yL_amountDue cL_amountDue 3 (some .int) [(0, 5, 6, 19)]) (d + 8) mc ms [.ref (a0), .int (a1)] w z (rI Q) X := by
  refine Ct.ofH hst (by decide) (Nat.le_of_ble_eq_true rfl) (fun C hX hE hg hl hNm => ?_)
  subst hg
  subst hl
  unfold F_L_amountDue at h
  show VW C 0 [(0, .ref (a0)), (1, .int (a1))] [] w z mc ms
  refine vw_aload_n hX 0 dL_amountDue_0 rfl ?_
  refine vw_iload_n hX 1 dL_amountDue_1 rfl ?_
  obtain ⟨hr1, h⟩ := h
  obtain ⟨k5, k6, hm1, hm2, h⟩ := h
  refine s_L_108 hX hr1 dL_amountDue_2 (Nat.le_of_ble_eq_true rfl) hm1 hm2 (ct_X5_amountDue (d := d + 0) (lst hX) h) (fun r2 w3 z4 h => ?_) (fun E7 w8 z9 h => ?_)
  · skip
    exact vw_iret hX hE dL_amountDue_5 ⟨_, rfl, h⟩
  · skip
    by_cases c0 : E7 = "java/lang/IndexOutOfBoundsException"
    · have h9 := h.1 c0
      clear h
      have h := h9
      clear h9
      subst c0
      refine vw_catch hX [] [] rfl (fun _ hq => absurd hq List.not_mem_nil) ⟨by decide, by decide⟩ (by decide) kw_1042 (by decide +kernel) (fun u => ?_)
      refine vw_astore_n hX dL_amountDue_6 (by decide) rfl ?_
      refine vw_bipush hX (v := (-17)) dL_amountDue_7 (by decide) ?_
      exact vw_iret hX hE dL_amountDue_9 ⟨_, rfl, h⟩
    replace h := h.2 c0
    exact h.elim
def F_L_caseTicket (a0 : Nat) (a1 : Int32) (w : Mm) (z : Nat) (mc ms : Nat) (Q : Int32 → Mm → Nat → Prop) : Prop :=
  isO w a0 9 ∧ ∃ k5 k6, k5 ≤ mc ∧ k6 ≤ ms ∧ F_X5_caseTicket a0 a1 w z k5 k6 (fun r2 w3 z4 => Q r2 w3 z4) (fun E7 w8 z9 => (E7 = "java/lang/IndexOutOfBoundsException" → Q (-17) w8 z9) ∧ (¬ E7 = "java/lang/IndexOutOfBoundsException" → False))
set_option maxRecDepth 100000 in
set_option maxHeartbeats 4000000 in
theorem ct_L_caseTicket {l : Launch} {g : Gp} {d : Nat} (hst : l.stackTraces = false) {a0 : Nat} {a1 : Int32} {w : Mm} {z mc ms : Nat} {Q : Int32 → Mm → Nat → Prop} {X : String → Mm → Nat → Prop} (h : F_L_caseTicket a0 a1 w z mc ms Q) : Ct l g yL_caseTicket (.codeWith yL_caseTicket cL_caseTicket 3 (some .int) [(0, 5, 6, 19)]) (d + 8) mc ms [.ref (a0), .int (a1)] w z (rI Q) X := by
  refine Ct.ofH hst (by decide) (Nat.le_of_ble_eq_true rfl) (fun C hX hE hg hl hNm => ?_)
  subst hg
  subst hl
  unfold F_L_caseTicket at h
  show VW C 0 [(0, .ref (a0)), (1, .int (a1))] [] w z mc ms
  refine vw_aload_n hX 0 dL_caseTicket_0 rfl ?_
  refine vw_iload_n hX 1 dL_caseTicket_1 rfl ?_
  obtain ⟨hr1, h⟩ := h
  obtain ⟨k5, k6, hm1, hm2, h⟩ := h
  refine s_L_111 hX hr1 dL_caseTicket_2 (Nat.le_of_ble_eq_true rfl) hm1 hm2 (ct_X5_caseTicket (d := d + 0) (lst hX) h) (fun r2 w3 z4 h => ?_) (fun E7 w8 z9 h => ?_)
  · skip
    exact vw_iret hX hE dL_caseTicket_5 ⟨_, rfl, h⟩
  · skip
    by_cases c0 : E7 = "java/lang/IndexOutOfBoundsException"
    · have h9 := h.1 c0
      clear h
      have h := h9
      clear h9
      subst c0
      refine vw_catch hX [] [] rfl (fun _ hq => absurd hq List.not_mem_nil) ⟨by decide, by decide⟩ (by decide) kw_1042 (by decide +kernel) (fun u => ?_)
      refine vw_astore_n hX dL_caseTicket_6 (by decide) rfl ?_
      refine vw_bipush hX (v := (-17)) dL_caseTicket_7 (by decide) ?_
      exact vw_iret hX hE dL_caseTicket_9 ⟨_, rfl, h⟩
    replace h := h.2 c0
    exact h.elim
def F_L_isOverdue (a0 : Nat) (a1 : Int32) (w : Mm) (z : Nat) (mc ms : Nat) (Q : Int32 → Mm → Nat → Prop) : Prop :=
  isO w a0 9 ∧ ∃ k5 k6, k5 ≤ mc ∧ k6 ≤ ms ∧ F_X5_isOverdue a0 a1 w z k5 k6 (fun r2 w3 z4 => (r2 = 0 → Q 0 w3 z4) ∧
  (¬ r2 = 0 → Q 1 w3 z4)) (fun E7 w8 z9 => (E7 = "java/lang/IndexOutOfBoundsException" → Q (-17) w8 z9) ∧ (¬ E7 = "java/lang/IndexOutOfBoundsException" → False))
set_option maxRecDepth 100000 in
set_option maxHeartbeats 4000000 in
theorem ct_L_isOverdue {l : Launch} {g : Gp} {d : Nat} (hst : l.stackTraces = false) {a0 : Nat} {a1 : Int32} {w : Mm} {z mc ms : Nat} {Q : Int32 → Mm → Nat → Prop} {X : String → Mm → Nat → Prop} (h : F_L_isOverdue a0 a1 w z mc ms Q) : Ct l g yL_isOverdue (.codeWith yL_isOverdue cL_isOverdue 3 (some .int) [(0, 13, 14, 19)]) (d + 8) mc ms [.ref (a0), .int (a1)] w z (rI Q) X := by
  refine Ct.ofH hst (by decide) (Nat.le_of_ble_eq_true rfl) (fun C hX hE hg hl hNm => ?_)
  subst hg
  subst hl
  unfold F_L_isOverdue at h
  show VW C 0 [(0, .ref (a0)), (1, .int (a1))] [] w z mc ms
  refine vw_aload_n hX 0 dL_isOverdue_0 rfl ?_
  refine vw_iload_n hX 1 dL_isOverdue_1 rfl ?_
  obtain ⟨hr1, h⟩ := h
  obtain ⟨k5, k6, hm1, hm2, h⟩ := h
  refine s_L_114 hX hr1 dL_isOverdue_2 (Nat.le_of_ble_eq_true rfl) hm1 hm2 (ct_X5_isOverdue (d := d + 0) (lst hX) h) (fun r2 w3 z4 h => ?_) (fun E7 w8 z9 h => ?_)
  · skip
    refine vw_if_eq hX (tgt := 12) dL_isOverdue_5 (by decide) (fun c10 => ?_) (fun c10 => ?_)
    · have h := h.1 c10
      refine vw_iconst hX (v := 0) dL_isOverdue_12 (by decide) ?_
      exact vw_iret hX hE dL_isOverdue_13 ⟨_, rfl, h⟩
    · have h := h.2 c10
      refine vw_iconst hX (v := 1) dL_isOverdue_8 (by decide) ?_
      refine vw_goto hX (tgt := 13) dL_isOverdue_9 (by decide) ?_
      exact vw_iret hX hE dL_isOverdue_13 ⟨_, rfl, h⟩
  · skip
    by_cases c0 : E7 = "java/lang/IndexOutOfBoundsException"
    · have h9 := h.1 c0
      clear h
      have h := h9
      clear h9
      subst c0
      refine vw_catch hX [] [] rfl (fun _ hq => absurd hq List.not_mem_nil) ⟨by decide, by decide⟩ (by decide) kw_1042 (by decide +kernel) (fun u => ?_)
      refine vw_astore_n hX dL_isOverdue_14 (by decide) rfl ?_
      refine vw_bipush hX (v := (-17)) dL_isOverdue_15 (by decide) ?_
      exact vw_iret hX hE dL_isOverdue_17 ⟨_, rfl, h⟩
    replace h := h.2 c0
    exact h.elim
def F_L_outlook (a0 : Nat) (a1 : Int32) (a2 : Int32) (w : Mm) (z : Nat) (mc ms : Nat) (Q : Int32 → Mm → Nat → Prop) : Prop :=
  isO w a0 9 ∧ ∃ k5 k6, k5 ≤ mc ∧ k6 ≤ ms ∧ F_X5_outlook a0 a1 a2 w z k5 k6 (fun r2 w3 z4 => Q r2 w3 z4) (fun E7 w8 z9 => (E7 = "java/lang/IndexOutOfBoundsException" → Q (-17) w8 z9) ∧ (¬ E7 = "java/lang/IndexOutOfBoundsException" → False))
set_option maxRecDepth 100000 in
set_option maxHeartbeats 4000000 in
theorem ct_L_outlook {l : Launch} {g : Gp} {d : Nat} (hst : l.stackTraces = false) {a0 : Nat} {a1 : Int32} {a2 : Int32} {w : Mm} {z mc ms : Nat} {Q : Int32 → Mm → Nat → Prop} {X : String → Mm → Nat → Prop} (h : F_L_outlook a0 a1 a2 w z mc ms Q) : Ct l g yL_outlook (.codeWith yL_outlook cL_outlook 4 (some .int) [(0, 6, 7, 19)]) (d + 8) mc ms [.ref (a0), .int (a1), .int (a2)] w z (rI Q) X := by
  refine Ct.ofH hst (by decide) (Nat.le_of_ble_eq_true rfl) (fun C hX hE hg hl hNm => ?_)
  subst hg
  subst hl
  unfold F_L_outlook at h
  show VW C 0 [(0, .ref (a0)), (1, .int (a1)), (2, .int (a2))] [] w z mc ms
  refine vw_aload_n hX 0 dL_outlook_0 rfl ?_
  refine vw_iload_n hX 1 dL_outlook_1 rfl ?_
  refine vw_iload_n hX 2 dL_outlook_2 rfl ?_
  obtain ⟨hr1, h⟩ := h
  obtain ⟨k5, k6, hm1, hm2, h⟩ := h
  refine s_L_117 hX hr1 dL_outlook_3 (Nat.le_of_ble_eq_true rfl) hm1 hm2 (ct_X5_outlook (d := d + 0) (lst hX) h) (fun r2 w3 z4 h => ?_) (fun E7 w8 z9 h => ?_)
  · skip
    exact vw_iret hX hE dL_outlook_6 ⟨_, rfl, h⟩
  · skip
    by_cases c0 : E7 = "java/lang/IndexOutOfBoundsException"
    · have h9 := h.1 c0
      clear h
      have h := h9
      clear h9
      subst c0
      refine vw_catch hX [] [] rfl (fun _ hq => absurd hq List.not_mem_nil) ⟨by decide, by decide⟩ (by decide) kw_1042 (by decide +kernel) (fun u => ?_)
      refine vw_astore_n hX dL_outlook_7 (by decide) rfl ?_
      refine vw_bipush hX (v := (-17)) dL_outlook_8 (by decide) ?_
      exact vw_iret hX hE dL_outlook_10 ⟨_, rfl, h⟩
    replace h := h.2 c0
    exact h.elim
def B_L_word_32 (a0 : Nat) (a1 : Int32) (K4 : Int32 → Int32 → Mm → Nat → Prop) (Q : Int32 → Mm → Nat → Prop) (x3 : Int32) (y0 : Int32) (y1 : Int32) (w : Mm) (z : Nat) : Prop :=
  ∀ i1 : Int32, i1 = (y1 ||| y0) → K4 i1 ((x3 + 1)) w z
set_option maxRecDepth 100000 in
set_option maxHeartbeats 4000000 in
theorem pB_L_word_32 {C : Cx} {d : Nat} {a0 : Nat} {a1 : Int32} {K4 : Int32 → Int32 → Mm → Nat → Prop} {Q : Int32 → Mm → Nat → Prop} {X : String → Mm → Nat → Prop} (hX : CX C cL_word RL 4 (some .int) [] (d + 4)) (hE : EQ C (rI Q) X) (hK4 : ∀ (x2 : Int32) (x3 : Int32) (w : Mm) (z mc ms : Nat), K4 x2 x3 w z → VW C 4 [(0, .ref (a0)), (1, .int (a1)), (2, .int (x2)), (3, .int (x3))] [] w z mc ms) : ∀ (x3 : Int32) (y0 : Int32) (y1 : Int32) (w : Mm) (z mc ms : Nat), B_L_word_32 a0 a1 K4 Q x3 y0 y1 w z → VW C 32 [(0, .ref (a0)), (1, .int (a1)), (3, .int (x3))] [.int (y0), .int (y1)] w z mc ms := by
  intro x3 y0 y1 w z mc ms h
  unfold B_L_word_32 at h
  refine vw_ior hX dL_word_32 ?_
  refine vw_nmI (fun i1 ei1 => ?_)
  have h := h i1 ei1
  refine vw_istore_n hX dL_word_33 (by decide) rfl ?_
  refine vw_iinc hX 3 (v := x3 + 1) dL_word_34 rfl rfl (by decide) rfl ?_
  refine vw_goto hX (tgt := 4) dL_word_37 (by decide) ?_
  exact vw_sub [2, 3, 1, 0] rfl (hK4 _ _ _ _ _ _ h)
def B_L_word_4 (a0 : Nat) (a1 : Int32) (Q : Int32 → Mm → Nat → Prop) : Nat → Int32 → Int32 → Mm → Nat → Prop
  | 0, _, _, _, _ => False
  | n + 1, x2, x3, w, z => (((a1 + 4)) ≤ x3 → Q x2 w z) ∧
  (¬ ((a1 + 4)) ≤ x3 → isO w a0 0 ∧ F_J0_length_8abf5 a0 w z (fun r4 w5 z6 => (r4 ≤ x3 → B_L_word_32 a0 a1 (B_L_word_4 a0 a1 Q n) Q x3 0 ((x2 <<< (8 &&& 31))) w5 z6) ∧
  (¬ r4 ≤ x3 → isO w5 a0 0 ∧ F_J0_charAt_5068e a0 x3 w5 z6 (fun r9 w10 z11 => B_L_word_32 a0 a1 (B_L_word_4 a0 a1 Q n) Q x3 r9 ((x2 <<< (8 &&& 31))) w10 z11))))
set_option maxRecDepth 100000 in
set_option maxHeartbeats 4000000 in
theorem pB_L_word_4 {C : Cx} {d : Nat} {a0 : Nat} {a1 : Int32} {Q : Int32 → Mm → Nat → Prop} {X : String → Mm → Nat → Prop} (hX : CX C cL_word RL 4 (some .int) [] (d + 4)) (hE : EQ C (rI Q) X) : ∀ (n : Nat) (x2 : Int32) (x3 : Int32) (w : Mm) (z mc ms : Nat), B_L_word_4 a0 a1 Q n x2 x3 w z → VW C 4 [(0, .ref (a0)), (1, .int (a1)), (2, .int (x2)), (3, .int (x3))] [] w z mc ms := by
  intro n
  induction n with
  | zero => intro x2 x3 w z mc ms h; exact False.elim h
  | succ n ih =>
    intro x2 x3 w z mc ms h
    unfold B_L_word_4 at h
    refine vw_iload_n hX 3 dL_word_4 rfl ?_
    refine vw_iload_n hX 1 dL_word_5 rfl ?_
    refine vw_iconst hX (v := 4) dL_word_6 (by decide) ?_
    refine vw_iadd hX dL_word_7 ?_
    refine vw_icmp_ge hX (tgt := 40) dL_word_8 (by decide) (fun c2 => ?_) (fun c2 => ?_)
    · have h := h.1 c2
      refine vw_iload_n hX 2 dL_word_40 rfl ?_
      exact vw_iret hX hE dL_word_41 ⟨_, rfl, h⟩
    · have h := h.2 c2
      refine vw_iload_n hX 2 dL_word_11 rfl ?_
      refine vw_bipush hX (v := 8) dL_word_12 (by decide) ?_
      refine vw_ishl hX dL_word_14 ?_
      refine vw_iload_n hX 3 dL_word_15 rfl ?_
      refine vw_aload_n hX 0 dL_word_16 rfl ?_
      obtain ⟨hr3, h⟩ := h
      refine s_L_120 hX hr3 dL_word_17 (Nat.le_of_ble_eq_true rfl) (ct_J0_length_8abf5 (d := d + 2) (lst hX) h) (fun r4 w5 z6 h => ?_)
      refine vw_icmp_ge hX (tgt := 31) dL_word_20 (by decide) (fun c7 => ?_) (fun c7 => ?_)
      · have h := h.1 c7
        refine vw_iconst hX (v := 0) dL_word_31 (by decide) ?_
        exact vw_sub [0, 1, 3] rfl (pB_L_word_32 hX hE ih _ _ _ _ _ _ _ h)
      · have h := h.2 c7
        refine vw_aload_n hX 0 dL_word_23 rfl ?_
        refine vw_iload_n hX 3 dL_word_24 rfl ?_
        obtain ⟨hr8, h⟩ := h
        refine s_L_125 hX hr8 dL_word_25 (Nat.le_of_ble_eq_true rfl) (ct_J0_charAt_5068e (d := d + 0) (lst hX) h) (fun r9 w10 z11 h => ?_)
        refine vw_goto hX (tgt := 32) dL_word_28 (by decide) ?_
        exact vw_sub [0, 1, 3] rfl (pB_L_word_32 hX hE ih _ _ _ _ _ _ _ h)
def F_L_word (a0 : Nat) (a1 : Int32) (w : Mm) (z : Nat) (Q : Int32 → Mm → Nat → Prop) : Prop :=
  ∃ nn, B_L_word_4 a0 a1 Q nn 0 a1 w z
set_option maxRecDepth 100000 in
set_option maxHeartbeats 4000000 in
theorem ct_L_word {l : Launch} {g : Gp} {d : Nat} (hst : l.stackTraces = false) {a0 : Nat} {a1 : Int32} {w : Mm} {z mc ms : Nat} {Q : Int32 → Mm → Nat → Prop} {X : String → Mm → Nat → Prop} (h : F_L_word a0 a1 w z Q) : Ct l g yL_word (.code yL_word cL_word 4 (some .int)) (d + 4) mc ms [.ref (a0), .int (a1)] w z (rI Q) X := by
  refine Ct.of hst (by decide) (Nat.le_of_ble_eq_true rfl) (fun C hX hE hg hl hNm => ?_)
  subst hg
  subst hl
  unfold F_L_word at h
  show VW C 0 [(0, .ref (a0)), (1, .int (a1))] [] w z mc ms
  refine vw_iconst hX (v := 0) dL_word_0 (by decide) ?_
  refine vw_istore_n hX dL_word_1 (by decide) rfl ?_
  refine vw_iload_n hX 2 dL_word_2 rfl ?_
  refine vw_istore_n hX dL_word_3 (by decide) rfl ?_
  obtain ⟨nn, h⟩ := h
  exact vw_sub [2, 3, 1, 0] rfl (pB_L_word_4 hX hE nn _ _ _ _ _ _ h)
def B_L_write_12 (a0 : Nat) (a1 : Nat) (Q : Int32 → Mm → Nat → Prop) : Nat → Int32 → Mm → Nat → Nat → Nat → Prop
  | 0, _, _, _, _, _ => False
  | n + 1, x2, w, z, mc, ms => isO w a1 0 ∧ F_J0_length_8abf5 a1 w z (fun r2 w3 z4 => (r2 ≤ x2 → isO w3 a1 0 ∧ F_J0_length_8abf5 a1 w3 z4 (fun r7 w8 z9 => ∃ k13 k14, k13 ≤ mc ∧ k14 ≤ ms ∧ F_L_truncateInput a0 r7 w8 z9 k13 k14 (fun r10 w11 z12 => isO w11 a1 0 ∧ F_J0_length_8abf5 a1 w11 z12 (fun r16 w17 z18 => (¬ r10 = r16 → Q 0 w17 z18) ∧
  (r10 = r16 → Q 1 w17 z18))))) ∧
  (¬ r2 ≤ x2 → F_L_word a1 x2 w3 z4 (fun r20 w21 z22 => F_L_word a1 ((x2 + 4)) w21 z22 (fun r23 w24 z25 => F_L_word a1 ((x2 + 8)) w24 z25 (fun r26 w27 z28 => F_L_word a1 ((x2 + 12)) w27 z28 (fun r29 w30 z31 => F_L_word a1 ((x2 + 16)) w30 z31 (fun r32 w33 z34 => isO w33 a0 9 ∧ F_X5_append a0 r20 r23 r26 r29 r32 w33 z34 (fun r36 w37 z38 => (r36 = ((x2 + 20)) → B_L_write_12 a0 a1 Q n ((x2 + 20)) w37 z38 mc ms) ∧
  (¬ r36 = ((x2 + 20)) → Q 0 w37 z38)))))))))
set_option maxRecDepth 100000 in
set_option maxHeartbeats 4000000 in
theorem pB_L_write_12 {C : Cx} {d : Nat} {a0 : Nat} {a1 : Nat} {Q : Int32 → Mm → Nat → Prop} {X : String → Mm → Nat → Prop} (hX : CX C cL_write RL 3 (some .boolean) [] (d + 8)) (hE : EQ C (rI Q) X) : ∀ (n : Nat) (x2 : Int32) (w : Mm) (z mc ms : Nat), B_L_write_12 a0 a1 Q n x2 w z mc ms → VW C 12 [(0, .ref (a0)), (1, .ref (a1)), (2, .int (x2))] [] w z mc ms := by
  intro n
  induction n with
  | zero => intro x2 w z mc ms h; exact False.elim h
  | succ n ih =>
    intro x2 w z mc ms h
    unfold B_L_write_12 at h
    refine vw_iload_n hX 2 dL_write_12 rfl ?_
    refine vw_aload_n hX 1 dL_write_13 rfl ?_
    obtain ⟨hr1, h⟩ := h
    refine s_L_120 hX hr1 dL_write_14 (Nat.le_of_ble_eq_true rfl) (ct_J0_length_8abf5 (d := d + 6) (lst hX) h) (fun r2 w3 z4 h => ?_)
    refine vw_icmp_ge hX (tgt := 75) dL_write_17 (by decide) (fun c5 => ?_) (fun c5 => ?_)
    · have h := h.1 c5
      refine vw_aload_n hX 0 dL_write_75 rfl ?_
      refine vw_aload_n hX 1 dL_write_76 rfl ?_
      obtain ⟨hr6, h⟩ := h
      refine s_L_120 hX hr6 dL_write_77 (Nat.le_of_ble_eq_true rfl) (ct_J0_length_8abf5 (d := d + 6) (lst hX) h) (fun r7 w8 z9 h => ?_)
      obtain ⟨k13, k14, hm1, hm2, h⟩ := h
      refine s_L_129 hX dL_write_80 (Nat.le_of_ble_eq_true rfl) hm1 hm2 (ct_L_truncateInput (d := d + 0) (lst hX) h) (fun r10 w11 z12 h => ?_)
      refine vw_aload_n hX 1 dL_write_83 rfl ?_
      obtain ⟨hr15, h⟩ := h
      refine s_L_120 hX hr15 dL_write_84 (Nat.le_of_ble_eq_true rfl) (ct_J0_length_8abf5 (d := d + 6) (lst hX) h) (fun r16 w17 z18 h => ?_)
      refine vw_icmp_ne hX (tgt := 94) dL_write_87 (by decide) (fun c19 => ?_) (fun c19 => ?_)
      · have h := h.1 c19
        refine vw_iconst hX (v := 0) dL_write_94 (by decide) ?_
        exact vw_zret hX hE dL_write_95 rfl ⟨_, rfl, h⟩
      · have h := h.2 c19
        refine vw_iconst hX (v := 1) dL_write_90 (by decide) ?_
        refine vw_goto hX (tgt := 95) dL_write_91 (by decide) ?_
        exact vw_zret hX hE dL_write_95 rfl ⟨_, rfl, h⟩
    · have h := h.2 c5
      refine vw_aload_n hX 0 dL_write_20 rfl ?_
      refine vw_aload_n hX 1 dL_write_21 rfl ?_
      refine vw_iload_n hX 2 dL_write_22 rfl ?_
      refine s_L_134 hX dL_write_23 (Nat.le_of_ble_eq_true rfl) (ct_L_word (d := d + 3) (lst hX) h) (fun r20 w21 z22 h => ?_)
      refine vw_aload_n hX 1 dL_write_26 rfl ?_
      refine vw_iload_n hX 2 dL_write_27 rfl ?_
      refine vw_iconst hX (v := 4) dL_write_28 (by decide) ?_
      refine vw_iadd hX dL_write_29 ?_
      refine s_L_134 hX dL_write_30 (Nat.le_of_ble_eq_true rfl) (ct_L_word (d := d + 3) (lst hX) h) (fun r23 w24 z25 h => ?_)
      refine vw_aload_n hX 1 dL_write_33 rfl ?_
      refine vw_iload_n hX 2 dL_write_34 rfl ?_
      refine vw_bipush hX (v := 8) dL_write_35 (by decide) ?_
      refine vw_iadd hX dL_write_37 ?_
      refine s_L_134 hX dL_write_38 (Nat.le_of_ble_eq_true rfl) (ct_L_word (d := d + 3) (lst hX) h) (fun r26 w27 z28 h => ?_)
      refine vw_aload_n hX 1 dL_write_41 rfl ?_
      refine vw_iload_n hX 2 dL_write_42 rfl ?_
      refine vw_bipush hX (v := 12) dL_write_43 (by decide) ?_
      refine vw_iadd hX dL_write_45 ?_
      refine s_L_134 hX dL_write_46 (Nat.le_of_ble_eq_true rfl) (ct_L_word (d := d + 3) (lst hX) h) (fun r29 w30 z31 h => ?_)
      refine vw_aload_n hX 1 dL_write_49 rfl ?_
      refine vw_iload_n hX 2 dL_write_50 rfl ?_
      refine vw_bipush hX (v := 16) dL_write_51 (by decide) ?_
      refine vw_iadd hX dL_write_53 ?_
      refine s_L_134 hX dL_write_54 (Nat.le_of_ble_eq_true rfl) (ct_L_word (d := d + 3) (lst hX) h) (fun r32 w33 z34 h => ?_)
      obtain ⟨hr35, h⟩ := h
      refine s_L_138 hX hr35 dL_write_57 (Nat.le_of_ble_eq_true rfl) (ct_X5_append (d := d + 6) (lst hX) h) (fun r36 w37 z38 h => ?_)
      refine vw_iload_n hX 2 dL_write_60 rfl ?_
      refine vw_bipush hX (v := 20) dL_write_61 (by decide) ?_
      refine vw_iadd hX dL_write_63 ?_
      refine vw_icmp_eq hX (tgt := 69) dL_write_64 (by decide) (fun c39 => ?_) (fun c39 => ?_)
      · have h := h.1 c39
        refine vw_iinc hX 2 (v := x2 + 20) dL_write_69 rfl rfl (by decide) rfl ?_
        refine vw_goto hX (tgt := 12) dL_write_72 (by decide) ?_
        exact vw_sub [1, 2, 0] rfl (ih _ _ _ _ _ h)
      · have h := h.2 c39
        refine vw_iconst hX (v := 0) dL_write_67 (by decide) ?_
        exact vw_zret hX hE dL_write_68 rfl ⟨_, rfl, h⟩
def F_L_write (a0 : Nat) (a1 : Nat) (w : Mm) (z : Nat) (mc ms : Nat) (Q : Int32 → Mm → Nat → Prop) : Prop :=
  ∃ k4 k5, k4 ≤ mc ∧ k5 ≤ ms ∧ F_L_truncateInput a0 0 w z k4 k5 (fun r1 w2 z3 => (r1 = 0 → ∃ nn, B_L_write_12 a0 a1 Q nn 0 w2 z3 ((mc - k4)) ((ms - k5))) ∧
  (¬ r1 = 0 → Q 0 w2 z3))
set_option maxRecDepth 100000 in
set_option maxHeartbeats 4000000 in
theorem ct_L_write {l : Launch} {g : Gp} {d : Nat} (hst : l.stackTraces = false) {a0 : Nat} {a1 : Nat} {w : Mm} {z mc ms : Nat} {Q : Int32 → Mm → Nat → Prop} {X : String → Mm → Nat → Prop} (h : F_L_write a0 a1 w z mc ms Q) : Ct l g yL_write (.code yL_write cL_write 3 (some .boolean)) (d + 8) mc ms [.ref (a0), .ref (a1)] w z (rI Q) X := by
  refine Ct.of hst (by decide) (Nat.le_of_ble_eq_true rfl) (fun C hX hE hg hl hNm => ?_)
  subst hg
  subst hl
  unfold F_L_write at h
  show VW C 0 [(0, .ref (a0)), (1, .ref (a1))] [] w z mc ms
  refine vw_aload_n hX 0 dL_write_0 rfl ?_
  refine vw_iconst hX (v := 0) dL_write_1 (by decide) ?_
  obtain ⟨k4, k5, hm1, hm2, h⟩ := h
  refine s_L_129 hX dL_write_2 (Nat.le_of_ble_eq_true rfl) hm1 hm2 (ct_L_truncateInput (d := d + 0) (lst hX) h) (fun r1 w2 z3 h => ?_)
  refine vw_if_eq hX (tgt := 10) dL_write_5 (by decide) (fun c6 => ?_) (fun c6 => ?_)
  · have h := h.1 c6
    refine vw_iconst hX (v := 0) dL_write_10 (by decide) ?_
    refine vw_istore_n hX dL_write_11 (by decide) rfl ?_
    obtain ⟨nn, h⟩ := h
    exact vw_sub [1, 2, 0] rfl (pB_L_write_12 hX hE nn _ _ _ _ _ h)
  · have h := h.2 c6
    refine vw_iconst hX (v := 0) dL_write_8 (by decide) ?_
    exact vw_zret hX hE dL_write_9 rfl ⟨_, rfl, h⟩
def F_L_draw (a0 : Nat) (a1 : Int32) (w : Mm) (z : Nat) (Q : Int32 → Mm → Nat → Prop) : Prop :=
  ∃ n2 f1, arI w a0 0 = some (n2, f1) ∧ vp_in 0 n2 ∧ ∃ n4 f3, arW w a0 0 = some (n4, f3) ∧ vp_in 0 n4 ∧ ∀ w5, w5 = mset w a0 (.inr (0, n4, .inl (upd f3 (0 : Int32).toNatClampNeg ((((((f1 (0 : Int32).toNatClampNeg)) * 1103515245)) + 12345))))) → ∃ n7 f6, arI w5 a0 0 = some (n7, f6) ∧ vp_in 0 n7 ∧ ¬ a1 = 0 ∧ Q ((((((f6 (0 : Int32).toNatClampNeg)).toUInt32 >>> ((8 : Int32).toUInt32 &&& Int32.toUInt32 31)).toInt32) - ((((f6 (0 : Int32).toNatClampNeg)).toUInt32 >>> ((8 : Int32).toUInt32 &&& Int32.toUInt32 31)).toInt32) / a1 * a1)) w5 z
set_option maxRecDepth 100000 in
set_option maxHeartbeats 4000000 in
theorem ct_L_draw {l : Launch} {g : Gp} {d : Nat} (hst : l.stackTraces = false) {a0 : Nat} {a1 : Int32} {w : Mm} {z mc ms : Nat} {Q : Int32 → Mm → Nat → Prop} {X : String → Mm → Nat → Prop} (h : F_L_draw a0 a1 w z Q) : Ct l g yL_draw (.code yL_draw cL_draw 2 (some .int)) (d + 0) mc ms [.ref (a0), .int (a1)] w z (rI Q) X := by
  refine Ct.of hst (by decide) (Nat.le_of_ble_eq_true rfl) (fun C hX hE hg hl hNm => ?_)
  subst hg
  subst hl
  unfold F_L_draw at h
  show VW C 0 [(0, .ref (a0)), (1, .int (a1))] [] w z mc ms
  refine vw_aload_n hX 0 dL_draw_0 rfl ?_
  refine vw_iconst hX (v := 0) dL_draw_1 (by decide) ?_
  refine vw_aload_n hX 0 dL_draw_2 rfl ?_
  refine vw_iconst hX (v := 0) dL_draw_3 (by decide) ?_
  obtain ⟨n2, f1, hf1, hif1, h⟩ := h
  refine vw_iald hX hf1 hif1 dL_draw_4 ?_
  refine vw_ldcI hX kw_1031 dL_draw_5 ?_
  refine vw_imul hX dL_draw_7 ?_
  refine vw_sipush hX (v := 12345) dL_draw_8 (by decide) ?_
  refine vw_iadd hX dL_draw_11 ?_
  obtain ⟨n4, f3, hf3, hif3, h⟩ := h
  refine vw_iast hX hf3 hif3 dL_draw_12 ?_
  refine vw_nmW (fun w5 ew5 => ?_)
  have h := h w5 ew5
  refine vw_aload_n hX 0 dL_draw_13 rfl ?_
  refine vw_iconst hX (v := 0) dL_draw_14 (by decide) ?_
  obtain ⟨n7, f6, hf6, hif6, h⟩ := h
  refine vw_iald hX hf6 hif6 dL_draw_15 ?_
  refine vw_bipush hX (v := 8) dL_draw_16 (by decide) ?_
  refine vw_iushr hX dL_draw_18 ?_
  refine vw_iload_n hX 1 dL_draw_19 rfl ?_
  obtain ⟨hz0, h⟩ := h
  refine vw_irem hX dL_draw_20 hz0 ?_
  exact vw_iret hX hE dL_draw_21 ⟨_, rfl, h⟩
def B_L_isSound_571 (a0 : Nat) (K414 : Int32 → Int32 → Mm → Nat → Nat → Nat → Prop) (Q : Int32 → Mm → Nat → Prop) (x1 : Int32) (x2 : Int32) (w : Mm) (z : Nat) (mc : Nat) (ms : Nat) : Prop :=
  K414 x1 ((x2 + 1)) w z mc ms
set_option maxRecDepth 100000 in
set_option maxHeartbeats 4000000 in
theorem pB_L_isSound_571 {C : Cx} {d : Nat} {a0 : Nat} {K414 : Int32 → Int32 → Mm → Nat → Nat → Nat → Prop} {Q : Int32 → Mm → Nat → Prop} {X : String → Mm → Nat → Prop} (hX : CX C cL_isSound RL 8 (some .boolean) [] (d + 9)) (hE : EQ C (rI Q) X) (hK414 : ∀ (x1 : Int32) (x2 : Int32) (w : Mm) (z mc ms : Nat), K414 x1 x2 w z mc ms → VW C 414 [(0, .ref (a0)), (1, .int (x1)), (2, .int (x2))] [] w z mc ms) : ∀ (x1 : Int32) (x2 : Int32) (w : Mm) (z mc ms : Nat), B_L_isSound_571 a0 K414 Q x1 x2 w z mc ms → VW C 571 [(0, .ref (a0)), (1, .int (x1)), (2, .int (x2))] [] w z mc ms := by
  intro x1 x2 w z mc ms h
  unfold B_L_isSound_571 at h
  refine vw_iinc hX 2 (v := x2 + 1) dL_isSound_571 rfl rfl (by decide) rfl ?_
  refine vw_goto hX (tgt := 414) dL_isSound_574 (by decide) ?_
  exact vw_sub [1, 2, 0] rfl (hK414 _ _ _ _ _ _ h)
def B_L_isSound_519 (a0 : Nat) (K414 : Int32 → Int32 → Mm → Nat → Nat → Nat → Prop) (Q : Int32 → Mm → Nat → Prop) (x1 : Int32) (x2 : Int32) (x3 : Int32) (x4 : Int32) (x5 : Int32) (y0 : Int32) (w : Mm) (z : Nat) (mc : Nat) (ms : Nat) : Prop :=
  (¬ y0 = x4 → Q 0 w z) ∧
  (y0 = x4 → ∃ k5 k6, k5 ≤ mc ∧ k6 ≤ ms ∧ F_L_amountDue a0 x2 w z k5 k6 (fun r2 w3 z4 => (¬ r2 = x5 → Q 0 w3 z4) ∧
  (r2 = x5 → ∃ k11 k12, k11 ≤ (mc - k5) ∧ k12 ≤ (ms - k6) ∧ F_L_caseFault a0 x2 w3 z4 k11 k12 (fun r8 w9 z10 => (r8 < 1 → Q 0 w9 z10) ∧
  (¬ r8 < 1 → ∃ k17 k18, k17 ≤ ((mc - k5) - k11) ∧ k18 ≤ ((ms - k6) - k12) ∧ F_L_caseFault a0 x2 w9 z10 k17 k18 (fun r14 w15 z16 => (5 < r14 → Q 0 w15 z16) ∧
  (¬ 5 < r14 → (x3 ≤ 0 → B_L_isSound_571 a0 K414 Q x1 x2 w15 z16 ((((mc - k5) - k11) - k17)) ((((ms - k6) - k12) - k18))) ∧
  (¬ x3 ≤ 0 → (4 ≤ x3 → B_L_isSound_571 a0 K414 Q x1 x2 w15 z16 ((((mc - k5) - k11) - k17)) ((((ms - k6) - k12) - k18))) ∧
  (¬ 4 ≤ x3 → ∃ k25 k26, k25 ≤ (((mc - k5) - k11) - k17) ∧ k26 ≤ (((ms - k6) - k12) - k18) ∧ F_L_caseTicket a0 x2 w15 z16 k25 k26 (fun r22 w23 z24 => (0 ≤ r22 → B_L_isSound_571 a0 K414 Q x1 x2 w23 z24 (((((mc - k5) - k11) - k17) - k25)) (((((ms - k6) - k12) - k18) - k26))) ∧
  (¬ 0 ≤ r22 → Q 0 w23 z24)))))))))))
set_option maxRecDepth 100000 in
set_option maxHeartbeats 4000000 in
theorem pB_L_isSound_519 {C : Cx} {d : Nat} {a0 : Nat} {K414 : Int32 → Int32 → Mm → Nat → Nat → Nat → Prop} {Q : Int32 → Mm → Nat → Prop} {X : String → Mm → Nat → Prop} (hX : CX C cL_isSound RL 8 (some .boolean) [] (d + 9)) (hE : EQ C (rI Q) X) (hK414 : ∀ (x1 : Int32) (x2 : Int32) (w : Mm) (z mc ms : Nat), K414 x1 x2 w z mc ms → VW C 414 [(0, .ref (a0)), (1, .int (x1)), (2, .int (x2))] [] w z mc ms) : ∀ (x1 : Int32) (x2 : Int32) (x3 : Int32) (x4 : Int32) (x5 : Int32) (y0 : Int32) (w : Mm) (z mc ms : Nat), B_L_isSound_519 a0 K414 Q x1 x2 x3 x4 x5 y0 w z mc ms → VW C 519 [(0, .ref (a0)), (1, .int (x1)), (2, .int (x2)), (3, .int (x3)), (4, .int (x4)), (5, .int (x5))] [.int (y0)] w z mc ms := by
  intro x1 x2 x3 x4 x5 y0 w z mc ms h
  unfold B_L_isSound_519 at h
  refine vw_iload hX 4 dL_isSound_519 rfl ?_
  refine vw_icmp_ne hX (tgt := 569) dL_isSound_521 (by decide) (fun c1 => ?_) (fun c1 => ?_)
  · have h := h.1 c1
    refine vw_iconst hX (v := 0) dL_isSound_569 (by decide) ?_
    exact vw_zret hX hE dL_isSound_570 rfl ⟨_, rfl, h⟩
  · have h := h.2 c1
    refine vw_aload_n hX 0 dL_isSound_524 rfl ?_
    refine vw_iload_n hX 2 dL_isSound_525 rfl ?_
    obtain ⟨k5, k6, hm1, hm2, h⟩ := h
    refine s_L_171 hX dL_isSound_526 (Nat.le_of_ble_eq_true rfl) hm1 hm2 (ct_L_amountDue (d := d + 0) (lst hX) h) (fun r2 w3 z4 h => ?_)
    refine vw_iload hX 5 dL_isSound_529 rfl ?_
    refine vw_icmp_ne hX (tgt := 569) dL_isSound_531 (by decide) (fun c7 => ?_) (fun c7 => ?_)
    · have h := h.1 c7
      refine vw_iconst hX (v := 0) dL_isSound_569 (by decide) ?_
      exact vw_zret hX hE dL_isSound_570 rfl ⟨_, rfl, h⟩
    · have h := h.2 c7
      refine vw_aload_n hX 0 dL_isSound_534 rfl ?_
      refine vw_iload_n hX 2 dL_isSound_535 rfl ?_
      obtain ⟨k11, k12, hm1, hm2, h⟩ := h
      refine s_L_193 hX dL_isSound_536 (Nat.le_of_ble_eq_true rfl) hm1 hm2 (ct_L_caseFault (d := d + 0) (lst hX) h) (fun r8 w9 z10 h => ?_)
      refine vw_iconst hX (v := 1) dL_isSound_539 (by decide) ?_
      refine vw_icmp_lt hX (tgt := 569) dL_isSound_540 (by decide) (fun c13 => ?_) (fun c13 => ?_)
      · have h := h.1 c13
        refine vw_iconst hX (v := 0) dL_isSound_569 (by decide) ?_
        exact vw_zret hX hE dL_isSound_570 rfl ⟨_, rfl, h⟩
      · have h := h.2 c13
        refine vw_aload_n hX 0 dL_isSound_543 rfl ?_
        refine vw_iload_n hX 2 dL_isSound_544 rfl ?_
        obtain ⟨k17, k18, hm1, hm2, h⟩ := h
        refine s_L_193 hX dL_isSound_545 (Nat.le_of_ble_eq_true rfl) hm1 hm2 (ct_L_caseFault (d := d + 0) (lst hX) h) (fun r14 w15 z16 h => ?_)
        refine vw_iconst hX (v := 5) dL_isSound_548 (by decide) ?_
        refine vw_icmp_gt hX (tgt := 569) dL_isSound_549 (by decide) (fun c19 => ?_) (fun c19 => ?_)
        · have h := h.1 c19
          refine vw_iconst hX (v := 0) dL_isSound_569 (by decide) ?_
          exact vw_zret hX hE dL_isSound_570 rfl ⟨_, rfl, h⟩
        · have h := h.2 c19
          refine vw_iload_n hX 3 dL_isSound_552 rfl ?_
          refine vw_if_le hX (tgt := 571) dL_isSound_553 (by decide) (fun c20 => ?_) (fun c20 => ?_)
          · have h := h.1 c20
            exact vw_sub [0, 1, 2] rfl (pB_L_isSound_571 hX hE hK414 _ _ _ _ _ _ h)
          · have h := h.2 c20
            refine vw_iload_n hX 3 dL_isSound_556 rfl ?_
            refine vw_iconst hX (v := 4) dL_isSound_557 (by decide) ?_
            refine vw_icmp_ge hX (tgt := 571) dL_isSound_558 (by decide) (fun c21 => ?_) (fun c21 => ?_)
            · have h := h.1 c21
              exact vw_sub [0, 1, 2] rfl (pB_L_isSound_571 hX hE hK414 _ _ _ _ _ _ h)
            · have h := h.2 c21
              refine vw_aload_n hX 0 dL_isSound_561 rfl ?_
              refine vw_iload_n hX 2 dL_isSound_562 rfl ?_
              obtain ⟨k25, k26, hm1, hm2, h⟩ := h
              refine s_L_195 hX dL_isSound_563 (Nat.le_of_ble_eq_true rfl) hm1 hm2 (ct_L_caseTicket (d := d + 0) (lst hX) h) (fun r22 w23 z24 h => ?_)
              refine vw_if_ge hX (tgt := 571) dL_isSound_566 (by decide) (fun c27 => ?_) (fun c27 => ?_)
              · have h := h.1 c27
                exact vw_sub [0, 1, 2] rfl (pB_L_isSound_571 hX hE hK414 _ _ _ _ _ _ h)
              · have h := h.2 c27
                refine vw_iconst hX (v := 0) dL_isSound_569 (by decide) ?_
                exact vw_zret hX hE dL_isSound_570 rfl ⟨_, rfl, h⟩
def B_L_isSound_503 (a0 : Nat) (K414 : Int32 → Int32 → Mm → Nat → Nat → Nat → Prop) (Q : Int32 → Mm → Nat → Prop) (x1 : Int32) (x2 : Int32) (x3 : Int32) (x4 : Int32) (y0 : Int32) (w : Mm) (z : Nat) (mc : Nat) (ms : Nat) : Prop :=
  ∃ k31 k32, k31 ≤ mc ∧ k32 ≤ ms ∧ F_L_isOverdue a0 x2 w z k31 k32 (fun r28 w29 z30 => (¬ r28 = 1 → B_L_isSound_519 a0 K414 Q x1 x2 x3 x4 y0 0 w29 z30 ((mc - k31)) ((ms - k32))) ∧
  (r28 = 1 → B_L_isSound_519 a0 K414 Q x1 x2 x3 x4 y0 1 w29 z30 ((mc - k31)) ((ms - k32))))
set_option maxRecDepth 100000 in
set_option maxHeartbeats 4000000 in
theorem pB_L_isSound_503 {C : Cx} {d : Nat} {a0 : Nat} {K414 : Int32 → Int32 → Mm → Nat → Nat → Nat → Prop} {Q : Int32 → Mm → Nat → Prop} {X : String → Mm → Nat → Prop} (hX : CX C cL_isSound RL 8 (some .boolean) [] (d + 9)) (hE : EQ C (rI Q) X) (hK414 : ∀ (x1 : Int32) (x2 : Int32) (w : Mm) (z mc ms : Nat), K414 x1 x2 w z mc ms → VW C 414 [(0, .ref (a0)), (1, .int (x1)), (2, .int (x2))] [] w z mc ms) : ∀ (x1 : Int32) (x2 : Int32) (x3 : Int32) (x4 : Int32) (y0 : Int32) (w : Mm) (z mc ms : Nat), B_L_isSound_503 a0 K414 Q x1 x2 x3 x4 y0 w z mc ms → VW C 503 [(0, .ref (a0)), (1, .int (x1)), (2, .int (x2)), (3, .int (x3)), (4, .int (x4))] [.int (y0)] w z mc ms := by
  intro x1 x2 x3 x4 y0 w z mc ms h
  unfold B_L_isSound_503 at h
  refine vw_istore hX dL_isSound_503 (by decide) rfl ?_
  refine vw_aload_n hX 1 dL_isSound_505 rfl ?_
  refine vw_iload_n hX 3 dL_isSound_506 rfl ?_
  obtain ⟨k31, k32, hm1, hm2, h⟩ := h
  refine s_L_191 hX dL_isSound_507 (Nat.le_of_ble_eq_true rfl) hm1 hm2 (ct_L_isOverdue (d := d + 0) (lst hX) h) (fun r28 w29 z30 h => ?_)
  refine vw_iconst hX (v := 1) dL_isSound_510 (by decide) ?_
  refine vw_icmp_ne hX (tgt := 518) dL_isSound_511 (by decide) (fun c33 => ?_) (fun c33 => ?_)
  · have h := h.1 c33
    refine vw_iconst hX (v := 0) dL_isSound_518 (by decide) ?_
    exact vw_sub [1, 2, 3, 4, 5, 0] rfl (pB_L_isSound_519 hX hE hK414 _ _ _ _ _ _ _ _ _ _ h)
  · have h := h.2 c33
    refine vw_iconst hX (v := 1) dL_isSound_514 (by decide) ?_
    refine vw_goto hX (tgt := 519) dL_isSound_515 (by decide) ?_
    exact vw_sub [1, 2, 3, 4, 5, 0] rfl (pB_L_isSound_519 hX hE hK414 _ _ _ _ _ _ _ _ _ _ h)
def B_L_isSound_502 (a0 : Nat) (K414 : Int32 → Int32 → Mm → Nat → Nat → Nat → Prop) (Q : Int32 → Mm → Nat → Prop) (x1 : Int32) (x2 : Int32) (x3 : Int32) (x4 : Int32) (y0 : Int32) (y1 : Int32) (w : Mm) (z : Nat) (mc : Nat) (ms : Nat) : Prop :=
  B_L_isSound_503 a0 K414 Q x1 x2 x3 x4 ((y1 + y0)) w z mc ms
set_option maxRecDepth 100000 in
set_option maxHeartbeats 4000000 in
theorem pB_L_isSound_502 {C : Cx} {d : Nat} {a0 : Nat} {K414 : Int32 → Int32 → Mm → Nat → Nat → Nat → Prop} {Q : Int32 → Mm → Nat → Prop} {X : String → Mm → Nat → Prop} (hX : CX C cL_isSound RL 8 (some .boolean) [] (d + 9)) (hE : EQ C (rI Q) X) (hK414 : ∀ (x1 : Int32) (x2 : Int32) (w : Mm) (z mc ms : Nat), K414 x1 x2 w z mc ms → VW C 414 [(0, .ref (a0)), (1, .int (x1)), (2, .int (x2))] [] w z mc ms) : ∀ (x1 : Int32) (x2 : Int32) (x3 : Int32) (x4 : Int32) (y0 : Int32) (y1 : Int32) (w : Mm) (z mc ms : Nat), B_L_isSound_502 a0 K414 Q x1 x2 x3 x4 y0 y1 w z mc ms → VW C 502 [(0, .ref (a0)), (1, .int (x1)), (2, .int (x2)), (3, .int (x3)), (4, .int (x4))] [.int (y0), .int (y1)] w z mc ms := by
  intro x1 x2 x3 x4 y0 y1 w z mc ms h
  unfold B_L_isSound_502 at h
  refine vw_iadd hX dL_isSound_502 ?_
  exact pB_L_isSound_503 hX hE hK414 _ _ _ _ _ _ _ _ _ h
def B_L_isSound_490 (a0 : Nat) (K414 : Int32 → Int32 → Mm → Nat → Nat → Nat → Prop) (Q : Int32 → Mm → Nat → Prop) (x1 : Int32) (x2 : Int32) (x3 : Int32) (x4 : Int32) (y0 : Int32) (w : Mm) (z : Nat) (mc : Nat) (ms : Nat) : Prop :=
  (x4 = 0 → B_L_isSound_502 a0 K414 Q x1 x2 x3 x4 0 y0 w z mc ms) ∧
  (¬ x4 = 0 → B_L_isSound_502 a0 K414 Q x1 x2 x3 x4 1500 y0 w z mc ms)
set_option maxRecDepth 100000 in
set_option maxHeartbeats 4000000 in
theorem pB_L_isSound_490 {C : Cx} {d : Nat} {a0 : Nat} {K414 : Int32 → Int32 → Mm → Nat → Nat → Nat → Prop} {Q : Int32 → Mm → Nat → Prop} {X : String → Mm → Nat → Prop} (hX : CX C cL_isSound RL 8 (some .boolean) [] (d + 9)) (hE : EQ C (rI Q) X) (hK414 : ∀ (x1 : Int32) (x2 : Int32) (w : Mm) (z mc ms : Nat), K414 x1 x2 w z mc ms → VW C 414 [(0, .ref (a0)), (1, .int (x1)), (2, .int (x2))] [] w z mc ms) : ∀ (x1 : Int32) (x2 : Int32) (x3 : Int32) (x4 : Int32) (y0 : Int32) (w : Mm) (z mc ms : Nat), B_L_isSound_490 a0 K414 Q x1 x2 x3 x4 y0 w z mc ms → VW C 490 [(0, .ref (a0)), (1, .int (x1)), (2, .int (x2)), (3, .int (x3)), (4, .int (x4))] [.int (y0)] w z mc ms := by
  intro x1 x2 x3 x4 y0 w z mc ms h
  unfold B_L_isSound_490 at h
  refine vw_iload hX 4 dL_isSound_490 rfl ?_
  refine vw_if_eq hX (tgt := 501) dL_isSound_492 (by decide) (fun c34 => ?_) (fun c34 => ?_)
  · have h := h.1 c34
    refine vw_iconst hX (v := 0) dL_isSound_501 (by decide) ?_
    exact pB_L_isSound_502 hX hE hK414 _ _ _ _ _ _ _ _ _ _ h
  · have h := h.2 c34
    refine vw_sipush hX (v := 1500) dL_isSound_495 (by decide) ?_
    refine vw_goto hX (tgt := 502) dL_isSound_498 (by decide) ?_
    exact pB_L_isSound_502 hX hE hK414 _ _ _ _ _ _ _ _ _ _ h
def B_L_isSound_454 (a0 : Nat) (K414 : Int32 → Int32 → Mm → Nat → Nat → Nat → Prop) (Q : Int32 → Mm → Nat → Prop) (x1 : Int32) (x2 : Int32) (x3 : Int32) (y0 : Int32) (w : Mm) (z : Nat) (mc : Nat) (ms : Nat) : Prop :=
  (¬ x3 = 4 → (¬ x3 = 2 → (¬ x3 = 3 → B_L_isSound_490 a0 K414 Q x1 x2 x3 y0 6000 w z mc ms) ∧
  (x3 = 3 → B_L_isSound_490 a0 K414 Q x1 x2 x3 y0 6500 w z mc ms)) ∧
  (x3 = 2 → B_L_isSound_490 a0 K414 Q x1 x2 x3 y0 700 w z mc ms)) ∧
  (x3 = 4 → B_L_isSound_503 a0 K414 Q x1 x2 x3 y0 0 w z mc ms)
set_option maxRecDepth 100000 in
set_option maxHeartbeats 4000000 in
theorem pB_L_isSound_454 {C : Cx} {d : Nat} {a0 : Nat} {K414 : Int32 → Int32 → Mm → Nat → Nat → Nat → Prop} {Q : Int32 → Mm → Nat → Prop} {X : String → Mm → Nat → Prop} (hX : CX C cL_isSound RL 8 (some .boolean) [] (d + 9)) (hE : EQ C (rI Q) X) (hK414 : ∀ (x1 : Int32) (x2 : Int32) (w : Mm) (z mc ms : Nat), K414 x1 x2 w z mc ms → VW C 414 [(0, .ref (a0)), (1, .int (x1)), (2, .int (x2))] [] w z mc ms) : ∀ (x1 : Int32) (x2 : Int32) (x3 : Int32) (y0 : Int32) (w : Mm) (z mc ms : Nat), B_L_isSound_454 a0 K414 Q x1 x2 x3 y0 w z mc ms → VW C 454 [(0, .ref (a0)), (1, .int (x1)), (2, .int (x2)), (3, .int (x3))] [.int (y0)] w z mc ms := by
  intro x1 x2 x3 y0 w z mc ms h
  unfold B_L_isSound_454 at h
  refine vw_istore hX dL_isSound_454 (by decide) rfl ?_
  refine vw_iload_n hX 4 dL_isSound_456 rfl ?_
  refine vw_iconst hX (v := 4) dL_isSound_457 (by decide) ?_
  refine vw_icmp_ne hX (tgt := 465) dL_isSound_458 (by decide) (fun c35 => ?_) (fun c35 => ?_)
  · have h := h.1 c35
    refine vw_iload_n hX 4 dL_isSound_465 rfl ?_
    refine vw_iconst hX (v := 2) dL_isSound_466 (by decide) ?_
    refine vw_icmp_ne hX (tgt := 476) dL_isSound_467 (by decide) (fun c36 => ?_) (fun c36 => ?_)
    · have h := h.1 c36
      refine vw_iload_n hX 4 dL_isSound_476 rfl ?_
      refine vw_iconst hX (v := 3) dL_isSound_477 (by decide) ?_
      refine vw_icmp_ne hX (tgt := 487) dL_isSound_478 (by decide) (fun c37 => ?_) (fun c37 => ?_)
      · have h := h.1 c37
        refine vw_sipush hX (v := 6000) dL_isSound_487 (by decide) ?_
        exact vw_sub [1, 2, 3, 4, 0] rfl (pB_L_isSound_490 hX hE hK414 _ _ _ _ _ _ _ _ _ h)
      · have h := h.2 c37
        refine vw_sipush hX (v := 6500) dL_isSound_481 (by decide) ?_
        refine vw_goto hX (tgt := 490) dL_isSound_484 (by decide) ?_
        exact vw_sub [1, 2, 3, 4, 0] rfl (pB_L_isSound_490 hX hE hK414 _ _ _ _ _ _ _ _ _ h)
    · have h := h.2 c36
      refine vw_sipush hX (v := 700) dL_isSound_470 (by decide) ?_
      refine vw_goto hX (tgt := 490) dL_isSound_473 (by decide) ?_
      exact vw_sub [1, 2, 3, 4, 0] rfl (pB_L_isSound_490 hX hE hK414 _ _ _ _ _ _ _ _ _ h)
  · have h := h.2 c35
    refine vw_iconst hX (v := 0) dL_isSound_461 (by decide) ?_
    refine vw_goto hX (tgt := 503) dL_isSound_462 (by decide) ?_
    exact vw_sub [1, 2, 3, 4, 0] rfl (pB_L_isSound_503 hX hE hK414 _ _ _ _ _ _ _ _ _ h)
def B_L_isSound_453 (a0 : Nat) (K414 : Int32 → Int32 → Mm → Nat → Nat → Nat → Prop) (Q : Int32 → Mm → Nat → Prop) (x1 : Int32) (x2 : Int32) (x3 : Int32) (w : Mm) (z : Nat) (mc : Nat) (ms : Nat) : Prop :=
  B_L_isSound_454 a0 K414 Q x1 x2 x3 0 w z mc ms
set_option maxRecDepth 100000 in
set_option maxHeartbeats 4000000 in
theorem pB_L_isSound_453 {C : Cx} {d : Nat} {a0 : Nat} {K414 : Int32 → Int32 → Mm → Nat → Nat → Nat → Prop} {Q : Int32 → Mm → Nat → Prop} {X : String → Mm → Nat → Prop} (hX : CX C cL_isSound RL 8 (some .boolean) [] (d + 9)) (hE : EQ C (rI Q) X) (hK414 : ∀ (x1 : Int32) (x2 : Int32) (w : Mm) (z mc ms : Nat), K414 x1 x2 w z mc ms → VW C 414 [(0, .ref (a0)), (1, .int (x1)), (2, .int (x2))] [] w z mc ms) : ∀ (x1 : Int32) (x2 : Int32) (x3 : Int32) (w : Mm) (z mc ms : Nat), B_L_isSound_453 a0 K414 Q x1 x2 x3 w z mc ms → VW C 453 [(0, .ref (a0)), (1, .int (x1)), (2, .int (x2)), (3, .int (x3))] [] w z mc ms := by
  intro x1 x2 x3 w z mc ms h
  unfold B_L_isSound_453 at h
  refine vw_iconst hX (v := 0) dL_isSound_453 (by decide) ?_
  exact pB_L_isSound_454 hX hE hK414 _ _ _ _ _ _ _ _ h
def B_L_isSound_414 (a0 : Nat) (Q : Int32 → Mm → Nat → Prop) : Nat → Int32 → Int32 → Mm → Nat → Nat → Nat → Prop
  | 0, _, _, _, _, _, _ => False
  | n + 1, x1, x2, w, z, mc, ms => isO w a0 9 ∧ F_X5_caseCount a0 w z (fun r39 w40 z41 => (r39 ≤ x2 → isO w40 a0 9 ∧ F_X5_ticketSales a0 w40 z41 (fun r44 w45 z46 => (¬ x1 = r44 → Q 0 w45 z46) ∧
  (x1 = r44 → isO w45 a0 9 ∧ F_X5_caseCount a0 w45 z46 (fun r49 w50 z51 => isO w50 a0 9 ∧ F_X5_inspections a0 w50 z51 (fun r53 w54 z55 => (r53 < r49 → Q 0 w54 z55) ∧
  (¬ r53 < r49 → isO w54 a0 9 ∧ F_X5_inconsistencies a0 w54 z55 (fun r58 w59 z60 => (¬ r58 = 0 → Q 0 w59 z60) ∧
  (r58 = 0 → Q 1 w59 z60)))))))) ∧
  (¬ r39 ≤ x2 → ∃ k65 k66, k65 ≤ mc ∧ k66 ≤ ms ∧ F_L_caseState a0 x2 w40 z41 k65 k66 (fun r62 w63 z64 => (r62 = 4 → B_L_isSound_453 a0 (B_L_isSound_414 a0 Q n) Q x1 x2 r62 w63 z64 ((mc - k65)) ((ms - k66))) ∧
  (¬ r62 = 4 → isO w63 a0 9 ∧ F_X5_clock a0 w63 z64 (fun r69 w70 z71 => ∃ k75 k76, k75 ≤ (mc - k65) ∧ k76 ≤ (ms - k66) ∧ F_L_caseTime a0 x2 w70 z71 k75 k76 (fun r72 w73 z74 => (r69 ≤ ((r72 + 20160)) → B_L_isSound_453 a0 (B_L_isSound_414 a0 Q n) Q x1 x2 r62 w73 z74 (((mc - k65) - k75)) (((ms - k66) - k76))) ∧
  (¬ r69 ≤ ((r72 + 20160)) → B_L_isSound_454 a0 (B_L_isSound_414 a0 Q n) Q x1 x2 r62 1 w73 z74 (((mc - k65) - k75)) (((ms - k66) - k76)))))))))
set_option maxRecDepth 100000 in
set_option maxHeartbeats 4000000 in
theorem pB_L_isSound_414 {C : Cx} {d : Nat} {a0 : Nat} {Q : Int32 → Mm → Nat → Prop} {X : String → Mm → Nat → Prop} (hX : CX C cL_isSound RL 8 (some .boolean) [] (d + 9)) (hE : EQ C (rI Q) X) : ∀ (n : Nat) (x1 : Int32) (x2 : Int32) (w : Mm) (z mc ms : Nat), B_L_isSound_414 a0 Q n x1 x2 w z mc ms → VW C 414 [(0, .ref (a0)), (1, .int (x1)), (2, .int (x2))] [] w z mc ms := by
  intro n
  induction n with
  | zero => intro x1 x2 w z mc ms h; exact False.elim h
  | succ n ih =>
    intro x1 x2 w z mc ms h
    unfold B_L_isSound_414 at h
    refine vw_iload_n hX 2 dL_isSound_414 rfl ?_
    refine vw_aload_n hX 0 dL_isSound_415 rfl ?_
    obtain ⟨hr38, h⟩ := h
    refine s_L_166 hX hr38 dL_isSound_416 (Nat.le_of_ble_eq_true rfl) (ct_X5_caseCount (d := d + 8) (lst hX) h) (fun r39 w40 z41 h => ?_)
    refine vw_icmp_ge hX (tgt := 577) dL_isSound_419 (by decide) (fun c42 => ?_) (fun c42 => ?_)
    · have h := h.1 c42
      refine vw_iload_n hX 1 dL_isSound_577 rfl ?_
      refine vw_aload_n hX 0 dL_isSound_578 rfl ?_
      obtain ⟨hr43, h⟩ := h
      refine s_L_197 hX hr43 dL_isSound_579 (Nat.le_of_ble_eq_true rfl) (ct_X5_ticketSales (d := d + 4) (lst hX) h) (fun r44 w45 z46 h => ?_)
      refine vw_icmp_ne hX (tgt := 607) dL_isSound_582 (by decide) (fun c47 => ?_) (fun c47 => ?_)
      · have h := h.1 c47
        refine vw_iconst hX (v := 0) dL_isSound_607 (by decide) ?_
        exact vw_zret hX hE dL_isSound_608 rfl ⟨_, rfl, h⟩
      · have h := h.2 c47
        refine vw_aload_n hX 0 dL_isSound_585 rfl ?_
        obtain ⟨hr48, h⟩ := h
        refine s_L_166 hX hr48 dL_isSound_586 (Nat.le_of_ble_eq_true rfl) (ct_X5_caseCount (d := d + 8) (lst hX) h) (fun r49 w50 z51 h => ?_)
        refine vw_aload_n hX 0 dL_isSound_589 rfl ?_
        obtain ⟨hr52, h⟩ := h
        refine s_L_200 hX hr52 dL_isSound_590 (Nat.le_of_ble_eq_true rfl) (ct_X5_inspections (d := d + 8) (lst hX) h) (fun r53 w54 z55 h => ?_)
        refine vw_icmp_gt hX (tgt := 607) dL_isSound_593 (by decide) (fun c56 => ?_) (fun c56 => ?_)
        · have h := h.1 c56
          refine vw_iconst hX (v := 0) dL_isSound_607 (by decide) ?_
          exact vw_zret hX hE dL_isSound_608 rfl ⟨_, rfl, h⟩
        · have h := h.2 c56
          refine vw_aload_n hX 0 dL_isSound_596 rfl ?_
          obtain ⟨hr57, h⟩ := h
          refine s_L_203 hX hr57 dL_isSound_597 (Nat.le_of_ble_eq_true rfl) (ct_X5_inconsistencies (d := d + 4) (lst hX) h) (fun r58 w59 z60 h => ?_)
          refine vw_if_ne hX (tgt := 607) dL_isSound_600 (by decide) (fun c61 => ?_) (fun c61 => ?_)
          · have h := h.1 c61
            refine vw_iconst hX (v := 0) dL_isSound_607 (by decide) ?_
            exact vw_zret hX hE dL_isSound_608 rfl ⟨_, rfl, h⟩
          · have h := h.2 c61
            refine vw_iconst hX (v := 1) dL_isSound_603 (by decide) ?_
            refine vw_goto hX (tgt := 608) dL_isSound_604 (by decide) ?_
            exact vw_zret hX hE dL_isSound_608 rfl ⟨_, rfl, h⟩
    · have h := h.2 c42
      refine vw_aload_n hX 0 dL_isSound_422 rfl ?_
      refine vw_iload_n hX 2 dL_isSound_423 rfl ?_
      obtain ⟨k65, k66, hm1, hm2, h⟩ := h
      refine s_L_173 hX dL_isSound_424 (Nat.le_of_ble_eq_true rfl) hm1 hm2 (ct_L_caseState (d := d + 0) (lst hX) h) (fun r62 w63 z64 h => ?_)
      refine vw_istore_n hX dL_isSound_427 (by decide) rfl ?_
      refine vw_iload_n hX 0 dL_isSound_428 rfl ?_
      refine vw_iconst hX (v := 4) dL_isSound_429 (by decide) ?_
      refine vw_icmp_eq hX (tgt := 453) dL_isSound_430 (by decide) (fun c67 => ?_) (fun c67 => ?_)
      · have h := h.1 c67
        exact vw_sub [1, 2, 3, 0] rfl (pB_L_isSound_453 hX hE ih _ _ _ _ _ _ _ h)
      · have h := h.2 c67
        refine vw_aload_n hX 1 dL_isSound_433 rfl ?_
        obtain ⟨hr68, h⟩ := h
        refine s_L_152 hX hr68 dL_isSound_434 (Nat.le_of_ble_eq_true rfl) (ct_X5_clock (d := d + 8) (lst hX) h) (fun r69 w70 z71 h => ?_)
        refine vw_aload_n hX 1 dL_isSound_437 rfl ?_
        refine vw_iload_n hX 3 dL_isSound_438 rfl ?_
        obtain ⟨k75, k76, hm1, hm2, h⟩ := h
        refine s_L_189 hX dL_isSound_439 (Nat.le_of_ble_eq_true rfl) hm1 hm2 (ct_L_caseTime (d := d + 0) (lst hX) h) (fun r72 w73 z74 h => ?_)
        refine vw_sipush hX (v := 20160) dL_isSound_442 (by decide) ?_
        refine vw_iadd hX dL_isSound_445 ?_
        refine vw_icmp_le hX (tgt := 453) dL_isSound_446 (by decide) (fun c77 => ?_) (fun c77 => ?_)
        · have h := h.1 c77
          exact vw_sub [1, 2, 3, 0] rfl (pB_L_isSound_453 hX hE ih _ _ _ _ _ _ _ h)
        · have h := h.2 c77
          refine vw_iconst hX (v := 1) dL_isSound_449 (by decide) ?_
          refine vw_goto hX (tgt := 454) dL_isSound_450 (by decide) ?_
          exact vw_sub [1, 2, 3, 0] rfl (pB_L_isSound_454 hX hE ih _ _ _ _ _ _ _ _ h)
def B_L_isSound_406 (a0 : Nat) (K256 : Int32 → Int32 → Mm → Nat → Nat → Nat → Prop) (Q : Int32 → Mm → Nat → Prop) (x1 : Int32) (x2 : Int32) (w : Mm) (z : Nat) (mc : Nat) (ms : Nat) : Prop :=
  K256 x1 ((x2 + 1)) w z mc ms
set_option maxRecDepth 100000 in
set_option maxHeartbeats 4000000 in
theorem pB_L_isSound_406 {C : Cx} {d : Nat} {a0 : Nat} {K256 : Int32 → Int32 → Mm → Nat → Nat → Nat → Prop} {Q : Int32 → Mm → Nat → Prop} {X : String → Mm → Nat → Prop} (hX : CX C cL_isSound RL 8 (some .boolean) [] (d + 9)) (hE : EQ C (rI Q) X) (hK256 : ∀ (x1 : Int32) (x2 : Int32) (w : Mm) (z mc ms : Nat), K256 x1 x2 w z mc ms → VW C 256 [(0, .ref (a0)), (1, .int (x1)), (2, .int (x2))] [] w z mc ms) : ∀ (x1 : Int32) (x2 : Int32) (w : Mm) (z mc ms : Nat), B_L_isSound_406 a0 K256 Q x1 x2 w z mc ms → VW C 406 [(0, .ref (a0)), (1, .int (x1)), (2, .int (x2))] [] w z mc ms := by
  intro x1 x2 w z mc ms h
  unfold B_L_isSound_406 at h
  refine vw_iinc hX 2 (v := x2 + 1) dL_isSound_406 rfl rfl (by decide) rfl ?_
  refine vw_goto hX (tgt := 256) dL_isSound_409 (by decide) ?_
  exact vw_sub [1, 2, 0] rfl (hK256 _ _ _ _ _ _ h)
def B_L_isSound_380 (a0 : Nat) (K256 : Int32 → Int32 → Mm → Nat → Nat → Nat → Prop) (Q : Int32 → Mm → Nat → Prop) (x1 : Int32) (x2 : Int32) (y0 : Int32) (y1 : Int32) (w : Mm) (z : Nat) (mc : Nat) (ms : Nat) : Prop :=
  (¬ y1 = y0 → Q 0 w z) ∧
  (y1 = y0 → ∃ k82 k83, k82 ≤ mc ∧ k83 ≤ ms ∧ F_L_rideTicket a0 x2 w z k82 k83 (fun r79 w80 z81 => (r79 < 0 → B_L_isSound_406 a0 K256 Q x1 x2 w80 z81 ((mc - k82)) ((ms - k83))) ∧
  (¬ r79 < 0 → ∃ k88 k89, k88 ≤ (mc - k82) ∧ k89 ≤ (ms - k83) ∧ F_L_rideTicket a0 x2 w80 z81 k88 k89 (fun r85 w86 z87 => ∃ k93 k94, k93 ≤ ((mc - k82) - k88) ∧ k94 ≤ ((ms - k83) - k89) ∧ F_L_ticketHolder a0 r85 w86 z87 k93 k94 (fun r90 w91 z92 => (r90 = x2 → B_L_isSound_406 a0 K256 Q x1 x2 w91 z92 ((((mc - k82) - k88) - k93)) ((((ms - k83) - k89) - k94))) ∧
  (¬ r90 = x2 → Q 0 w91 z92))))))
set_option maxRecDepth 100000 in
set_option maxHeartbeats 4000000 in
theorem pB_L_isSound_380 {C : Cx} {d : Nat} {a0 : Nat} {K256 : Int32 → Int32 → Mm → Nat → Nat → Nat → Prop} {Q : Int32 → Mm → Nat → Prop} {X : String → Mm → Nat → Prop} (hX : CX C cL_isSound RL 8 (some .boolean) [] (d + 9)) (hE : EQ C (rI Q) X) (hK256 : ∀ (x1 : Int32) (x2 : Int32) (w : Mm) (z mc ms : Nat), K256 x1 x2 w z mc ms → VW C 256 [(0, .ref (a0)), (1, .int (x1)), (2, .int (x2))] [] w z mc ms) : ∀ (x1 : Int32) (x2 : Int32) (y0 : Int32) (y1 : Int32) (w : Mm) (z mc ms : Nat), B_L_isSound_380 a0 K256 Q x1 x2 y0 y1 w z mc ms → VW C 380 [(0, .ref (a0)), (1, .int (x1)), (2, .int (x2))] [.int (y0), .int (y1)] w z mc ms := by
  intro x1 x2 y0 y1 w z mc ms h
  unfold B_L_isSound_380 at h
  refine vw_icmp_ne hX (tgt := 404) dL_isSound_380 (by decide) (fun c78 => ?_) (fun c78 => ?_)
  · have h := h.1 c78
    refine vw_iconst hX (v := 0) dL_isSound_404 (by decide) ?_
    exact vw_zret hX hE dL_isSound_405 rfl ⟨_, rfl, h⟩
  · have h := h.2 c78
    refine vw_aload_n hX 0 dL_isSound_383 rfl ?_
    refine vw_iload_n hX 2 dL_isSound_384 rfl ?_
    obtain ⟨k82, k83, hm1, hm2, h⟩ := h
    refine s_L_185 hX dL_isSound_385 (Nat.le_of_ble_eq_true rfl) hm1 hm2 (ct_L_rideTicket (d := d + 0) (lst hX) h) (fun r79 w80 z81 h => ?_)
    refine vw_if_lt hX (tgt := 406) dL_isSound_388 (by decide) (fun c84 => ?_) (fun c84 => ?_)
    · have h := h.1 c84
      exact pB_L_isSound_406 hX hE hK256 _ _ _ _ _ _ h
    · have h := h.2 c84
      refine vw_aload_n hX 0 dL_isSound_391 rfl ?_
      refine vw_aload_n hX 0 dL_isSound_392 rfl ?_
      refine vw_iload_n hX 2 dL_isSound_393 rfl ?_
      obtain ⟨k88, k89, hm1, hm2, h⟩ := h
      refine s_L_185 hX dL_isSound_394 (Nat.le_of_ble_eq_true rfl) hm1 hm2 (ct_L_rideTicket (d := d + 0) (lst hX) h) (fun r85 w86 z87 h => ?_)
      obtain ⟨k93, k94, hm1, hm2, h⟩ := h
      refine s_L_187 hX dL_isSound_397 (Nat.le_of_ble_eq_true rfl) hm1 hm2 (ct_L_ticketHolder (d := d + 0) (lst hX) h) (fun r90 w91 z92 h => ?_)
      refine vw_iload_n hX 2 dL_isSound_400 rfl ?_
      refine vw_icmp_eq hX (tgt := 406) dL_isSound_401 (by decide) (fun c95 => ?_) (fun c95 => ?_)
      · have h := h.1 c95
        exact pB_L_isSound_406 hX hE hK256 _ _ _ _ _ _ h
      · have h := h.2 c95
        refine vw_iconst hX (v := 0) dL_isSound_404 (by decide) ?_
        exact vw_zret hX hE dL_isSound_405 rfl ⟨_, rfl, h⟩
def B_L_isSound_363 (a0 : Nat) (K256 : Int32 → Int32 → Mm → Nat → Nat → Nat → Prop) (Q : Int32 → Mm → Nat → Prop) (x1 : Int32) (x2 : Int32) (y0 : Int32) (w : Mm) (z : Nat) (mc : Nat) (ms : Nat) : Prop :=
  ∃ k99 k100, k99 ≤ mc ∧ k100 ≤ ms ∧ F_L_rideEnd a0 x2 w z k99 k100 (fun r96 w97 z98 => isO w97 a0 9 ∧ F_X5_clock a0 w97 z98 (fun r102 w103 z104 => (r96 ≤ r102 → B_L_isSound_380 a0 K256 Q x1 x2 0 y0 w103 z104 ((mc - k99)) ((ms - k100))) ∧
  (¬ r96 ≤ r102 → B_L_isSound_380 a0 K256 Q x1 x2 1 y0 w103 z104 ((mc - k99)) ((ms - k100)))))
set_option maxRecDepth 100000 in
set_option maxHeartbeats 4000000 in
theorem pB_L_isSound_363 {C : Cx} {d : Nat} {a0 : Nat} {K256 : Int32 → Int32 → Mm → Nat → Nat → Nat → Prop} {Q : Int32 → Mm → Nat → Prop} {X : String → Mm → Nat → Prop} (hX : CX C cL_isSound RL 8 (some .boolean) [] (d + 9)) (hE : EQ C (rI Q) X) (hK256 : ∀ (x1 : Int32) (x2 : Int32) (w : Mm) (z mc ms : Nat), K256 x1 x2 w z mc ms → VW C 256 [(0, .ref (a0)), (1, .int (x1)), (2, .int (x2))] [] w z mc ms) : ∀ (x1 : Int32) (x2 : Int32) (y0 : Int32) (w : Mm) (z mc ms : Nat), B_L_isSound_363 a0 K256 Q x1 x2 y0 w z mc ms → VW C 363 [(0, .ref (a0)), (1, .int (x1)), (2, .int (x2))] [.int (y0)] w z mc ms := by
  intro x1 x2 y0 w z mc ms h
  unfold B_L_isSound_363 at h
  refine vw_aload_n hX 0 dL_isSound_363 rfl ?_
  refine vw_iload_n hX 2 dL_isSound_364 rfl ?_
  obtain ⟨k99, k100, hm1, hm2, h⟩ := h
  refine s_L_183 hX dL_isSound_365 (Nat.le_of_ble_eq_true rfl) hm1 hm2 (ct_L_rideEnd (d := d + 0) (lst hX) h) (fun r96 w97 z98 h => ?_)
  refine vw_aload_n hX 0 dL_isSound_368 rfl ?_
  obtain ⟨hr101, h⟩ := h
  refine s_L_152 hX hr101 dL_isSound_369 (Nat.le_of_ble_eq_true rfl) (ct_X5_clock (d := d + 8) (lst hX) h) (fun r102 w103 z104 h => ?_)
  refine vw_icmp_le hX (tgt := 379) dL_isSound_372 (by decide) (fun c105 => ?_) (fun c105 => ?_)
  · have h := h.1 c105
    refine vw_iconst hX (v := 0) dL_isSound_379 (by decide) ?_
    exact pB_L_isSound_380 hX hE hK256 _ _ _ _ _ _ _ _ h
  · have h := h.2 c105
    refine vw_iconst hX (v := 1) dL_isSound_375 (by decide) ?_
    refine vw_goto hX (tgt := 380) dL_isSound_376 (by decide) ?_
    exact pB_L_isSound_380 hX hE hK256 _ _ _ _ _ _ _ _ h
def B_L_isSound_316 (a0 : Nat) (K272 : Int32 → Int32 → Int32 → Int32 → Int32 → Mm → Nat → Nat → Nat → Prop) (Q : Int32 → Mm → Nat → Prop) (x1 : Int32) (x2 : Int32) (x3 : Int32) (x4 : Int32) (x5 : Int32) (w : Mm) (z : Nat) (mc : Nat) (ms : Nat) : Prop :=
  K272 x1 x2 x3 x4 ((x5 + 1)) w z mc ms
set_option maxRecDepth 100000 in
set_option maxHeartbeats 4000000 in
theorem pB_L_isSound_316 {C : Cx} {d : Nat} {a0 : Nat} {K272 : Int32 → Int32 → Int32 → Int32 → Int32 → Mm → Nat → Nat → Nat → Prop} {Q : Int32 → Mm → Nat → Prop} {X : String → Mm → Nat → Prop} (hX : CX C cL_isSound RL 8 (some .boolean) [] (d + 9)) (hE : EQ C (rI Q) X) (hK272 : ∀ (x1 : Int32) (x2 : Int32) (x3 : Int32) (x4 : Int32) (x5 : Int32) (w : Mm) (z mc ms : Nat), K272 x1 x2 x3 x4 x5 w z mc ms → VW C 272 [(0, .ref (a0)), (1, .int (x1)), (2, .int (x2)), (3, .int (x3)), (4, .int (x4)), (5, .int (x5))] [] w z mc ms) : ∀ (x1 : Int32) (x2 : Int32) (x3 : Int32) (x4 : Int32) (x5 : Int32) (w : Mm) (z mc ms : Nat), B_L_isSound_316 a0 K272 Q x1 x2 x3 x4 x5 w z mc ms → VW C 316 [(0, .ref (a0)), (1, .int (x1)), (2, .int (x2)), (3, .int (x3)), (4, .int (x4)), (5, .int (x5))] [] w z mc ms := by
  intro x1 x2 x3 x4 x5 w z mc ms h
  unfold B_L_isSound_316 at h
  refine vw_iinc hX 5 (v := x5 + 1) dL_isSound_316 rfl rfl (by decide) rfl ?_
  refine vw_goto hX (tgt := 272) dL_isSound_319 (by decide) ?_
  exact vw_sub [1, 2, 3, 4, 5, 0] rfl (hK272 _ _ _ _ _ _ _ _ _ h)
def B_L_isSound_272 (a0 : Nat) (K256 : Int32 → Int32 → Mm → Nat → Nat → Nat → Prop) (Q : Int32 → Mm → Nat → Prop) : Nat → Int32 → Int32 → Int32 → Int32 → Int32 → Mm → Nat → Nat → Nat → Prop
  | 0, _, _, _, _, _, _, _, _, _ => False
  | n + 1, x1, x2, x3, x4, x5, w, z, mc, ms => isO w a0 9 ∧ F_X5_caseCount a0 w z (fun r107 w108 z109 => (r107 ≤ x5 → ∃ k114 k115, k114 ≤ mc ∧ k115 ≤ ms ∧ F_L_money a0 x2 w108 z109 k114 k115 (fun r111 w112 z113 => (r111 < 0 → Q 0 w112 z113) ∧
  (¬ r111 < 0 → ∃ k120 k121, k120 ≤ (mc - k114) ∧ k121 ≤ (ms - k115) ∧ F_L_debt a0 x2 w112 z113 k120 k121 (fun r117 w118 z119 => (¬ r117 = x3 → Q 0 w118 z119) ∧
  (r117 = x3 → ∃ k126 k127, k126 ≤ ((mc - k114) - k120) ∧ k127 ≤ ((ms - k115) - k121) ∧ F_L_unpaidCases a0 x2 w118 z119 k126 k127 (fun r123 w124 z125 => (¬ r123 = x4 → Q 0 w124 z125) ∧
  (r123 = x4 → ∃ k132 k133, k132 ≤ (((mc - k114) - k120) - k126) ∧ k133 ≤ (((ms - k115) - k121) - k127) ∧ F_L_isRiding a0 x2 w124 z125 k132 k133 (fun r129 w130 z131 => (¬ r129 = 1 → B_L_isSound_363 a0 K256 Q x1 x2 0 w130 z131 (((((mc - k114) - k120) - k126) - k132)) (((((ms - k115) - k121) - k127) - k133))) ∧
  (r129 = 1 → B_L_isSound_363 a0 K256 Q x1 x2 1 w130 z131 (((((mc - k114) - k120) - k126) - k132)) (((((ms - k115) - k121) - k127) - k133))))))))))) ∧
  (¬ r107 ≤ x5 → ∃ k138 k139, k138 ≤ mc ∧ k139 ≤ ms ∧ F_L_casePassenger a0 x5 w108 z109 k138 k139 (fun r135 w136 z137 => (r135 = x2 → ∃ k144 k145, k144 ≤ (mc - k138) ∧ k145 ≤ (ms - k139) ∧ F_L_amountDue a0 x5 w136 z137 k144 k145 (fun r141 w142 z143 => ∀ i146 : Int32, i146 = (x3 + r141) → ∃ k150 k151, k150 ≤ ((mc - k138) - k144) ∧ k151 ≤ ((ms - k139) - k145) ∧ F_L_caseState a0 x5 w142 z143 k150 k151 (fun r147 w148 z149 => (r147 = 4 → B_L_isSound_316 a0 (B_L_isSound_272 a0 K256 Q n) Q x1 x2 i146 x4 x5 w148 z149 ((((mc - k138) - k144) - k150)) ((((ms - k139) - k145) - k151))) ∧
  (¬ r147 = 4 → B_L_isSound_316 a0 (B_L_isSound_272 a0 K256 Q n) Q x1 x2 i146 ((x4 + 1)) x5 w148 z149 ((((mc - k138) - k144) - k150)) ((((ms - k139) - k145) - k151)))))) ∧
  (¬ r135 = x2 → B_L_isSound_316 a0 (B_L_isSound_272 a0 K256 Q n) Q x1 x2 x3 x4 x5 w136 z137 ((mc - k138)) ((ms - k139))))))
set_option maxRecDepth 100000 in
set_option maxHeartbeats 4000000 in
theorem pB_L_isSound_272 {C : Cx} {d : Nat} {a0 : Nat} {K256 : Int32 → Int32 → Mm → Nat → Nat → Nat → Prop} {Q : Int32 → Mm → Nat → Prop} {X : String → Mm → Nat → Prop} (hX : CX C cL_isSound RL 8 (some .boolean) [] (d + 9)) (hE : EQ C (rI Q) X) (hK256 : ∀ (x1 : Int32) (x2 : Int32) (w : Mm) (z mc ms : Nat), K256 x1 x2 w z mc ms → VW C 256 [(0, .ref (a0)), (1, .int (x1)), (2, .int (x2))] [] w z mc ms) : ∀ (n : Nat) (x1 : Int32) (x2 : Int32) (x3 : Int32) (x4 : Int32) (x5 : Int32) (w : Mm) (z mc ms : Nat), B_L_isSound_272 a0 K256 Q n x1 x2 x3 x4 x5 w z mc ms → VW C 272 [(0, .ref (a0)), (1, .int (x1)), (2, .int (x2)), (3, .int (x3)), (4, .int (x4)), (5, .int (x5))] [] w z mc ms := by
  intro n
  induction n with
  | zero => intro x1 x2 x3 x4 x5 w z mc ms h; exact False.elim h
  | succ n ih =>
    intro x1 x2 x3 x4 x5 w z mc ms h
    unfold B_L_isSound_272 at h
    refine vw_iload hX 5 dL_isSound_272 rfl ?_
    refine vw_aload_n hX 0 dL_isSound_274 rfl ?_
    obtain ⟨hr106, h⟩ := h
    refine s_L_166 hX hr106 dL_isSound_275 (Nat.le_of_ble_eq_true rfl) (ct_X5_caseCount (d := d + 8) (lst hX) h) (fun r107 w108 z109 h => ?_)
    refine vw_icmp_ge hX (tgt := 322) dL_isSound_278 (by decide) (fun c110 => ?_) (fun c110 => ?_)
    · have h := h.1 c110
      refine vw_aload_n hX 0 dL_isSound_322 rfl ?_
      refine vw_iload_n hX 2 dL_isSound_323 rfl ?_
      obtain ⟨k114, k115, hm1, hm2, h⟩ := h
      refine s_L_175 hX dL_isSound_324 (Nat.le_of_ble_eq_true rfl) hm1 hm2 (ct_L_money (d := d + 0) (lst hX) h) (fun r111 w112 z113 h => ?_)
      refine vw_if_lt hX (tgt := 404) dL_isSound_327 (by decide) (fun c116 => ?_) (fun c116 => ?_)
      · have h := h.1 c116
        refine vw_iconst hX (v := 0) dL_isSound_404 (by decide) ?_
        exact vw_zret hX hE dL_isSound_405 rfl ⟨_, rfl, h⟩
      · have h := h.2 c116
        refine vw_aload_n hX 0 dL_isSound_330 rfl ?_
        refine vw_iload_n hX 2 dL_isSound_331 rfl ?_
        obtain ⟨k120, k121, hm1, hm2, h⟩ := h
        refine s_L_177 hX dL_isSound_332 (Nat.le_of_ble_eq_true rfl) hm1 hm2 (ct_L_debt (d := d + 0) (lst hX) h) (fun r117 w118 z119 h => ?_)
        refine vw_iload_n hX 3 dL_isSound_335 rfl ?_
        refine vw_icmp_ne hX (tgt := 404) dL_isSound_336 (by decide) (fun c122 => ?_) (fun c122 => ?_)
        · have h := h.1 c122
          refine vw_iconst hX (v := 0) dL_isSound_404 (by decide) ?_
          exact vw_zret hX hE dL_isSound_405 rfl ⟨_, rfl, h⟩
        · have h := h.2 c122
          refine vw_aload_n hX 0 dL_isSound_339 rfl ?_
          refine vw_iload_n hX 2 dL_isSound_340 rfl ?_
          obtain ⟨k126, k127, hm1, hm2, h⟩ := h
          refine s_L_179 hX dL_isSound_341 (Nat.le_of_ble_eq_true rfl) hm1 hm2 (ct_L_unpaidCases (d := d + 0) (lst hX) h) (fun r123 w124 z125 h => ?_)
          refine vw_iload hX 4 dL_isSound_344 rfl ?_
          refine vw_icmp_ne hX (tgt := 404) dL_isSound_346 (by decide) (fun c128 => ?_) (fun c128 => ?_)
          · have h := h.1 c128
            refine vw_iconst hX (v := 0) dL_isSound_404 (by decide) ?_
            exact vw_zret hX hE dL_isSound_405 rfl ⟨_, rfl, h⟩
          · have h := h.2 c128
            refine vw_aload_n hX 0 dL_isSound_349 rfl ?_
            refine vw_iload_n hX 2 dL_isSound_350 rfl ?_
            obtain ⟨k132, k133, hm1, hm2, h⟩ := h
            refine s_L_181 hX dL_isSound_351 (Nat.le_of_ble_eq_true rfl) hm1 hm2 (ct_L_isRiding (d := d + 0) (lst hX) h) (fun r129 w130 z131 h => ?_)
            refine vw_iconst hX (v := 1) dL_isSound_354 (by decide) ?_
            refine vw_icmp_ne hX (tgt := 362) dL_isSound_355 (by decide) (fun c134 => ?_) (fun c134 => ?_)
            · have h := h.1 c134
              refine vw_iconst hX (v := 0) dL_isSound_362 (by decide) ?_
              exact vw_sub [0, 1, 2] rfl (pB_L_isSound_363 hX hE hK256 _ _ _ _ _ _ _ h)
            · have h := h.2 c134
              refine vw_iconst hX (v := 1) dL_isSound_358 (by decide) ?_
              refine vw_goto hX (tgt := 363) dL_isSound_359 (by decide) ?_
              exact vw_sub [0, 1, 2] rfl (pB_L_isSound_363 hX hE hK256 _ _ _ _ _ _ _ h)
    · have h := h.2 c110
      refine vw_aload_n hX 0 dL_isSound_281 rfl ?_
      refine vw_iload hX 5 dL_isSound_282 rfl ?_
      obtain ⟨k138, k139, hm1, hm2, h⟩ := h
      refine s_L_169 hX dL_isSound_284 (Nat.le_of_ble_eq_true rfl) hm1 hm2 (ct_L_casePassenger (d := d + 0) (lst hX) h) (fun r135 w136 z137 h => ?_)
      refine vw_iload_n hX 2 dL_isSound_287 rfl ?_
      refine vw_icmp_eq hX (tgt := 294) dL_isSound_288 (by decide) (fun c140 => ?_) (fun c140 => ?_)
      · have h := h.1 c140
        refine vw_iload_n hX 3 dL_isSound_294 rfl ?_
        refine vw_aload_n hX 0 dL_isSound_295 rfl ?_
        refine vw_iload hX 5 dL_isSound_296 rfl ?_
        obtain ⟨k144, k145, hm1, hm2, h⟩ := h
        refine s_L_171 hX dL_isSound_298 (Nat.le_of_ble_eq_true rfl) hm1 hm2 (ct_L_amountDue (d := d + 0) (lst hX) h) (fun r141 w142 z143 h => ?_)
        refine vw_iadd hX dL_isSound_301 ?_
        refine vw_nmI (fun i146 ei146 => ?_)
        have h := h i146 ei146
        refine vw_istore_n hX dL_isSound_302 (by decide) rfl ?_
        refine vw_aload_n hX 1 dL_isSound_303 rfl ?_
        refine vw_iload hX 5 dL_isSound_304 rfl ?_
        obtain ⟨k150, k151, hm1, hm2, h⟩ := h
        refine s_L_173 hX dL_isSound_306 (Nat.le_of_ble_eq_true rfl) hm1 hm2 (ct_L_caseState (d := d + 0) (lst hX) h) (fun r147 w148 z149 h => ?_)
        refine vw_iconst hX (v := 4) dL_isSound_309 (by decide) ?_
        refine vw_icmp_eq hX (tgt := 316) dL_isSound_310 (by decide) (fun c152 => ?_) (fun c152 => ?_)
        · have h := h.1 c152
          exact vw_sub [1, 2, 3, 0, 4, 5] rfl (pB_L_isSound_316 hX hE ih _ _ _ _ _ _ _ _ _ h)
        · have h := h.2 c152
          refine vw_iinc hX 4 (v := x4 + 1) dL_isSound_313 rfl rfl (by decide) rfl ?_
          exact vw_sub [2, 3, 4, 1, 0, 5] rfl (pB_L_isSound_316 hX hE ih _ _ _ _ _ _ _ _ _ h)
      · have h := h.2 c140
        refine vw_goto hX (tgt := 316) dL_isSound_291 (by decide) ?_
        exact pB_L_isSound_316 hX hE ih _ _ _ _ _ _ _ _ _ h
def B_L_isSound_256 (a0 : Nat) (Q : Int32 → Mm → Nat → Prop) : Nat → Int32 → Int32 → Mm → Nat → Nat → Nat → Prop
  | 0, _, _, _, _, _, _ => False
  | n + 1, x1, x2, w, z, mc, ms => isO w a0 9 ∧ F_X5_passengerCount a0 w z (fun r154 w155 z156 => (r154 ≤ x2 → ∃ nn, B_L_isSound_414 a0 Q nn x1 0 w155 z156 mc ms) ∧
  (¬ r154 ≤ x2 → ∃ nn, B_L_isSound_272 a0 (B_L_isSound_256 a0 Q n) Q nn x1 x2 0 0 0 w155 z156 mc ms))
set_option maxRecDepth 100000 in
set_option maxHeartbeats 4000000 in
theorem pB_L_isSound_256 {C : Cx} {d : Nat} {a0 : Nat} {Q : Int32 → Mm → Nat → Prop} {X : String → Mm → Nat → Prop} (hX : CX C cL_isSound RL 8 (some .boolean) [] (d + 9)) (hE : EQ C (rI Q) X) : ∀ (n : Nat) (x1 : Int32) (x2 : Int32) (w : Mm) (z mc ms : Nat), B_L_isSound_256 a0 Q n x1 x2 w z mc ms → VW C 256 [(0, .ref (a0)), (1, .int (x1)), (2, .int (x2))] [] w z mc ms := by
  intro n
  induction n with
  | zero => intro x1 x2 w z mc ms h; exact False.elim h
  | succ n ih =>
    intro x1 x2 w z mc ms h
    unfold B_L_isSound_256 at h
    refine vw_iload_n hX 2 dL_isSound_256 rfl ?_
    refine vw_aload_n hX 0 dL_isSound_257 rfl ?_
    obtain ⟨hr153, h⟩ := h
    refine s_L_163 hX hr153 dL_isSound_258 (Nat.le_of_ble_eq_true rfl) (ct_X5_passengerCount (d := d + 8) (lst hX) h) (fun r154 w155 z156 h => ?_)
    refine vw_icmp_ge hX (tgt := 412) dL_isSound_261 (by decide) (fun c157 => ?_) (fun c157 => ?_)
    · have h := h.1 c157
      refine vw_iconst hX (v := 0) dL_isSound_412 (by decide) ?_
      refine vw_istore_n hX dL_isSound_413 (by decide) rfl ?_
      obtain ⟨nn, h⟩ := h
      exact vw_sub [1, 2, 0] rfl (pB_L_isSound_414 hX hE nn _ _ _ _ _ _ h)
    · have h := h.2 c157
      refine vw_iconst hX (v := 0) dL_isSound_264 (by decide) ?_
      refine vw_istore_n hX dL_isSound_265 (by decide) rfl ?_
      refine vw_iconst hX (v := 0) dL_isSound_266 (by decide) ?_
      refine vw_istore hX dL_isSound_267 (by decide) rfl ?_
      refine vw_iconst hX (v := 0) dL_isSound_269 (by decide) ?_
      refine vw_istore hX dL_isSound_270 (by decide) rfl ?_
      obtain ⟨nn, h⟩ := h
      exact vw_sub [3, 4, 5, 2, 1, 0] rfl (pB_L_isSound_272 hX hE ih nn _ _ _ _ _ _ _ _ _ h)
def B_L_isSound_238 (a0 : Nat) (K4 : Int32 → Int32 → Mm → Nat → Nat → Nat → Prop) (Q : Int32 → Mm → Nat → Prop) (x1 : Int32) (x2 : Int32) (x4 : Int32) (y0 : Int32) (y1 : Int32) (w : Mm) (z : Nat) (mc : Nat) (ms : Nat) : Prop :=
  (y1 = y0 → ∀ i159 : Int32, i159 = (x1 + x4) → K4 i159 ((x2 + 1)) w z mc ms) ∧
  (¬ y1 = y0 → Q 0 w z)
set_option maxRecDepth 100000 in
set_option maxHeartbeats 4000000 in
theorem pB_L_isSound_238 {C : Cx} {d : Nat} {a0 : Nat} {K4 : Int32 → Int32 → Mm → Nat → Nat → Nat → Prop} {Q : Int32 → Mm → Nat → Prop} {X : String → Mm → Nat → Prop} (hX : CX C cL_isSound RL 8 (some .boolean) [] (d + 9)) (hE : EQ C (rI Q) X) (hK4 : ∀ (x1 : Int32) (x2 : Int32) (w : Mm) (z mc ms : Nat), K4 x1 x2 w z mc ms → VW C 4 [(0, .ref (a0)), (1, .int (x1)), (2, .int (x2))] [] w z mc ms) : ∀ (x1 : Int32) (x2 : Int32) (x4 : Int32) (y0 : Int32) (y1 : Int32) (w : Mm) (z mc ms : Nat), B_L_isSound_238 a0 K4 Q x1 x2 x4 y0 y1 w z mc ms → VW C 238 [(0, .ref (a0)), (1, .int (x1)), (2, .int (x2)), (4, .int (x4))] [.int (y0), .int (y1)] w z mc ms := by
  intro x1 x2 x4 y0 y1 w z mc ms h
  unfold B_L_isSound_238 at h
  refine vw_icmp_eq hX (tgt := 243) dL_isSound_238 (by decide) (fun c158 => ?_) (fun c158 => ?_)
  · have h := h.1 c158
    refine vw_iload_n hX 1 dL_isSound_243 rfl ?_
    refine vw_iload hX 3 dL_isSound_244 rfl ?_
    refine vw_iadd hX dL_isSound_246 ?_
    refine vw_nmI (fun i159 ei159 => ?_)
    have h := h i159 ei159
    refine vw_istore_n hX dL_isSound_247 (by decide) rfl ?_
    refine vw_iinc hX 2 (v := x2 + 1) dL_isSound_248 rfl rfl (by decide) rfl ?_
    refine vw_goto hX (tgt := 4) dL_isSound_251 (by decide) ?_
    exact vw_sub [2, 1, 0] rfl (hK4 _ _ _ _ _ _ h)
  · have h := h.2 c158
    refine vw_iconst hX (v := 0) dL_isSound_241 (by decide) ?_
    exact vw_zret hX hE dL_isSound_242 rfl ⟨_, rfl, h⟩
def B_L_isSound_227 (a0 : Nat) (K4 : Int32 → Int32 → Mm → Nat → Nat → Nat → Prop) (Q : Int32 → Mm → Nat → Prop) (x1 : Int32) (x2 : Int32) (x4 : Int32) (x5 : Int32) (y0 : Int32) (w : Mm) (z : Nat) (mc : Nat) (ms : Nat) : Prop :=
  (¬ x5 = (-1) → B_L_isSound_238 a0 K4 Q x1 x2 x4 0 y0 w z mc ms) ∧
  (x5 = (-1) → B_L_isSound_238 a0 K4 Q x1 x2 x4 1 y0 w z mc ms)
set_option maxRecDepth 100000 in
set_option maxHeartbeats 4000000 in
theorem pB_L_isSound_227 {C : Cx} {d : Nat} {a0 : Nat} {K4 : Int32 → Int32 → Mm → Nat → Nat → Nat → Prop} {Q : Int32 → Mm → Nat → Prop} {X : String → Mm → Nat → Prop} (hX : CX C cL_isSound RL 8 (some .boolean) [] (d + 9)) (hE : EQ C (rI Q) X) (hK4 : ∀ (x1 : Int32) (x2 : Int32) (w : Mm) (z mc ms : Nat), K4 x1 x2 w z mc ms → VW C 4 [(0, .ref (a0)), (1, .int (x1)), (2, .int (x2))] [] w z mc ms) : ∀ (x1 : Int32) (x2 : Int32) (x4 : Int32) (x5 : Int32) (y0 : Int32) (w : Mm) (z mc ms : Nat), B_L_isSound_227 a0 K4 Q x1 x2 x4 x5 y0 w z mc ms → VW C 227 [(0, .ref (a0)), (1, .int (x1)), (2, .int (x2)), (4, .int (x4)), (5, .int (x5))] [.int (y0)] w z mc ms := by
  intro x1 x2 x4 x5 y0 w z mc ms h
  unfold B_L_isSound_227 at h
  refine vw_iload hX 4 dL_isSound_227 rfl ?_
  refine vw_iconst hX (v := (-1)) dL_isSound_229 (by decide) ?_
  refine vw_icmp_ne hX (tgt := 237) dL_isSound_230 (by decide) (fun c160 => ?_) (fun c160 => ?_)
  · have h := h.1 c160
    refine vw_iconst hX (v := 0) dL_isSound_237 (by decide) ?_
    exact vw_sub [0, 1, 2, 3] rfl (pB_L_isSound_238 hX hE hK4 _ _ _ _ _ _ _ _ _ h)
  · have h := h.2 c160
    refine vw_iconst hX (v := 1) dL_isSound_233 (by decide) ?_
    refine vw_goto hX (tgt := 238) dL_isSound_234 (by decide) ?_
    exact vw_sub [0, 1, 2, 3] rfl (pB_L_isSound_238 hX hE hK4 _ _ _ _ _ _ _ _ _ h)
def B_L_isSound_210 (a0 : Nat) (K4 : Int32 → Int32 → Mm → Nat → Nat → Nat → Prop) (Q : Int32 → Mm → Nat → Prop) (x1 : Int32) (x2 : Int32) (x4 : Int32) (x5 : Int32) (y0 : Int32) (y1 : Int32) (w : Mm) (z : Nat) (mc : Nat) (ms : Nat) : Prop :=
  (¬ y1 = y0 → Q 0 w z) ∧
  (y1 = y0 → ∃ k165 k166, k165 ≤ mc ∧ k166 ≤ ms ∧ F_L_stampStop a0 x2 w z k165 k166 (fun r162 w163 z164 => (¬ r162 = (-1) → B_L_isSound_227 a0 K4 Q x1 x2 x4 x5 0 w163 z164 ((mc - k165)) ((ms - k166))) ∧
  (r162 = (-1) → B_L_isSound_227 a0 K4 Q x1 x2 x4 x5 1 w163 z164 ((mc - k165)) ((ms - k166)))))
set_option maxRecDepth 100000 in
set_option maxHeartbeats 4000000 in
theorem pB_L_isSound_210 {C : Cx} {d : Nat} {a0 : Nat} {K4 : Int32 → Int32 → Mm → Nat → Nat → Nat → Prop} {Q : Int32 → Mm → Nat → Prop} {X : String → Mm → Nat → Prop} (hX : CX C cL_isSound RL 8 (some .boolean) [] (d + 9)) (hE : EQ C (rI Q) X) (hK4 : ∀ (x1 : Int32) (x2 : Int32) (w : Mm) (z mc ms : Nat), K4 x1 x2 w z mc ms → VW C 4 [(0, .ref (a0)), (1, .int (x1)), (2, .int (x2))] [] w z mc ms) : ∀ (x1 : Int32) (x2 : Int32) (x4 : Int32) (x5 : Int32) (y0 : Int32) (y1 : Int32) (w : Mm) (z mc ms : Nat), B_L_isSound_210 a0 K4 Q x1 x2 x4 x5 y0 y1 w z mc ms → VW C 210 [(0, .ref (a0)), (1, .int (x1)), (2, .int (x2)), (4, .int (x4)), (5, .int (x5))] [.int (y0), .int (y1)] w z mc ms := by
  intro x1 x2 x4 x5 y0 y1 w z mc ms h
  unfold B_L_isSound_210 at h
  refine vw_icmp_ne hX (tgt := 241) dL_isSound_210 (by decide) (fun c161 => ?_) (fun c161 => ?_)
  · have h := h.1 c161
    refine vw_iconst hX (v := 0) dL_isSound_241 (by decide) ?_
    exact vw_zret hX hE dL_isSound_242 rfl ⟨_, rfl, h⟩
  · have h := h.2 c161
    refine vw_aload_n hX 0 dL_isSound_213 rfl ?_
    refine vw_iload_n hX 2 dL_isSound_214 rfl ?_
    obtain ⟨k165, k166, hm1, hm2, h⟩ := h
    refine s_L_161 hX dL_isSound_215 (Nat.le_of_ble_eq_true rfl) hm1 hm2 (ct_L_stampStop (d := d + 0) (lst hX) h) (fun r162 w163 z164 h => ?_)
    refine vw_iconst hX (v := (-1)) dL_isSound_218 (by decide) ?_
    refine vw_icmp_ne hX (tgt := 226) dL_isSound_219 (by decide) (fun c167 => ?_) (fun c167 => ?_)
    · have h := h.1 c167
      refine vw_iconst hX (v := 0) dL_isSound_226 (by decide) ?_
      exact pB_L_isSound_227 hX hE hK4 _ _ _ _ _ _ _ _ _ h
    · have h := h.2 c167
      refine vw_iconst hX (v := 1) dL_isSound_222 (by decide) ?_
      refine vw_goto hX (tgt := 227) dL_isSound_223 (by decide) ?_
      exact pB_L_isSound_227 hX hE hK4 _ _ _ _ _ _ _ _ _ h
def B_L_isSound_197 (a0 : Nat) (K4 : Int32 → Int32 → Mm → Nat → Nat → Nat → Prop) (Q : Int32 → Mm → Nat → Prop) (x1 : Int32) (x2 : Int32) (x4 : Int32) (x5 : Int32) (y0 : Int32) (w : Mm) (z : Nat) (mc : Nat) (ms : Nat) : Prop :=
  ∃ k171 k172, k171 ≤ mc ∧ k172 ≤ ms ∧ F_L_ticketRides a0 x2 w z k171 k172 (fun r168 w169 z170 => (¬ r168 = 0 → B_L_isSound_210 a0 K4 Q x1 x2 x4 x5 0 y0 w169 z170 ((mc - k171)) ((ms - k172))) ∧
  (r168 = 0 → B_L_isSound_210 a0 K4 Q x1 x2 x4 x5 1 y0 w169 z170 ((mc - k171)) ((ms - k172))))
set_option maxRecDepth 100000 in
set_option maxHeartbeats 4000000 in
theorem pB_L_isSound_197 {C : Cx} {d : Nat} {a0 : Nat} {K4 : Int32 → Int32 → Mm → Nat → Nat → Nat → Prop} {Q : Int32 → Mm → Nat → Prop} {X : String → Mm → Nat → Prop} (hX : CX C cL_isSound RL 8 (some .boolean) [] (d + 9)) (hE : EQ C (rI Q) X) (hK4 : ∀ (x1 : Int32) (x2 : Int32) (w : Mm) (z mc ms : Nat), K4 x1 x2 w z mc ms → VW C 4 [(0, .ref (a0)), (1, .int (x1)), (2, .int (x2))] [] w z mc ms) : ∀ (x1 : Int32) (x2 : Int32) (x4 : Int32) (x5 : Int32) (y0 : Int32) (w : Mm) (z mc ms : Nat), B_L_isSound_197 a0 K4 Q x1 x2 x4 x5 y0 w z mc ms → VW C 197 [(0, .ref (a0)), (1, .int (x1)), (2, .int (x2)), (4, .int (x4)), (5, .int (x5))] [.int (y0)] w z mc ms := by
  intro x1 x2 x4 x5 y0 w z mc ms h
  unfold B_L_isSound_197 at h
  refine vw_aload_n hX 0 dL_isSound_197 rfl ?_
  refine vw_iload_n hX 2 dL_isSound_198 rfl ?_
  obtain ⟨k171, k172, hm1, hm2, h⟩ := h
  refine s_L_159 hX dL_isSound_199 (Nat.le_of_ble_eq_true rfl) hm1 hm2 (ct_L_ticketRides (d := d + 0) (lst hX) h) (fun r168 w169 z170 h => ?_)
  refine vw_if_ne hX (tgt := 209) dL_isSound_202 (by decide) (fun c173 => ?_) (fun c173 => ?_)
  · have h := h.1 c173
    refine vw_iconst hX (v := 0) dL_isSound_209 (by decide) ?_
    exact pB_L_isSound_210 hX hE hK4 _ _ _ _ _ _ _ _ _ _ h
  · have h := h.2 c173
    refine vw_iconst hX (v := 1) dL_isSound_205 (by decide) ?_
    refine vw_goto hX (tgt := 210) dL_isSound_206 (by decide) ?_
    exact pB_L_isSound_210 hX hE hK4 _ _ _ _ _ _ _ _ _ _ h
def B_L_isSound_181 (a0 : Nat) (K4 : Int32 → Int32 → Mm → Nat → Nat → Nat → Prop) (Q : Int32 → Mm → Nat → Prop) (x1 : Int32) (x2 : Int32) (x4 : Int32) (x5 : Int32) (x7 : Int32) (y0 : Int32) (w : Mm) (z : Nat) (mc : Nat) (ms : Nat) : Prop :=
  (¬ y0 = x7 → Q 0 w z) ∧
  (y0 = x7 → (¬ x5 = (-1) → B_L_isSound_197 a0 K4 Q x1 x2 x4 x5 0 w z mc ms) ∧
  (x5 = (-1) → B_L_isSound_197 a0 K4 Q x1 x2 x4 x5 1 w z mc ms))
set_option maxRecDepth 100000 in
set_option maxHeartbeats 4000000 in
theorem pB_L_isSound_181 {C : Cx} {d : Nat} {a0 : Nat} {K4 : Int32 → Int32 → Mm → Nat → Nat → Nat → Prop} {Q : Int32 → Mm → Nat → Prop} {X : String → Mm → Nat → Prop} (hX : CX C cL_isSound RL 8 (some .boolean) [] (d + 9)) (hE : EQ C (rI Q) X) (hK4 : ∀ (x1 : Int32) (x2 : Int32) (w : Mm) (z mc ms : Nat), K4 x1 x2 w z mc ms → VW C 4 [(0, .ref (a0)), (1, .int (x1)), (2, .int (x2))] [] w z mc ms) : ∀ (x1 : Int32) (x2 : Int32) (x4 : Int32) (x5 : Int32) (x7 : Int32) (y0 : Int32) (w : Mm) (z mc ms : Nat), B_L_isSound_181 a0 K4 Q x1 x2 x4 x5 x7 y0 w z mc ms → VW C 181 [(0, .ref (a0)), (1, .int (x1)), (2, .int (x2)), (4, .int (x4)), (5, .int (x5)), (7, .int (x7))] [.int (y0)] w z mc ms := by
  intro x1 x2 x4 x5 x7 y0 w z mc ms h
  unfold B_L_isSound_181 at h
  refine vw_iload hX 5 dL_isSound_181 rfl ?_
  refine vw_icmp_ne hX (tgt := 241) dL_isSound_183 (by decide) (fun c174 => ?_) (fun c174 => ?_)
  · have h := h.1 c174
    refine vw_iconst hX (v := 0) dL_isSound_241 (by decide) ?_
    exact vw_zret hX hE dL_isSound_242 rfl ⟨_, rfl, h⟩
  · have h := h.2 c174
    refine vw_iload hX 4 dL_isSound_186 rfl ?_
    refine vw_iconst hX (v := (-1)) dL_isSound_188 (by decide) ?_
    refine vw_icmp_ne hX (tgt := 196) dL_isSound_189 (by decide) (fun c175 => ?_) (fun c175 => ?_)
    · have h := h.1 c175
      refine vw_iconst hX (v := 0) dL_isSound_196 (by decide) ?_
      exact vw_sub [0, 1, 2, 3, 4] rfl (pB_L_isSound_197 hX hE hK4 _ _ _ _ _ _ _ _ _ h)
    · have h := h.2 c175
      refine vw_iconst hX (v := 1) dL_isSound_192 (by decide) ?_
      refine vw_goto hX (tgt := 197) dL_isSound_193 (by decide) ?_
      exact vw_sub [0, 1, 2, 3, 4] rfl (pB_L_isSound_197 hX hE hK4 _ _ _ _ _ _ _ _ _ h)
def B_L_isSound_155 (a0 : Nat) (K4 : Int32 → Int32 → Mm → Nat → Nat → Nat → Prop) (Q : Int32 → Mm → Nat → Prop) (x1 : Int32) (x2 : Int32) (x4 : Int32) (x5 : Int32) (y0 : Int32) (w : Mm) (z : Nat) (mc : Nat) (ms : Nat) : Prop :=
  ∃ k179 k180, k179 ≤ mc ∧ k180 ≤ ms ∧ F_L_ticketPrice a0 x2 w z k179 k180 (fun r176 w177 z178 => (¬ r176 = x4 → Q 0 w177 z178) ∧
  (r176 = x4 → ∃ k185 k186, k185 ≤ (mc - k179) ∧ k186 ≤ (ms - k180) ∧ F_L_isInTime a0 x2 w177 z178 k185 k186 (fun r182 w183 z184 => (¬ r182 = 1 → B_L_isSound_181 a0 K4 Q x1 x2 x4 x5 y0 0 w183 z184 (((mc - k179) - k185)) (((ms - k180) - k186))) ∧
  (r182 = 1 → B_L_isSound_181 a0 K4 Q x1 x2 x4 x5 y0 1 w183 z184 (((mc - k179) - k185)) (((ms - k180) - k186))))))
set_option maxRecDepth 100000 in
set_option maxHeartbeats 4000000 in
theorem pB_L_isSound_155 {C : Cx} {d : Nat} {a0 : Nat} {K4 : Int32 → Int32 → Mm → Nat → Nat → Nat → Prop} {Q : Int32 → Mm → Nat → Prop} {X : String → Mm → Nat → Prop} (hX : CX C cL_isSound RL 8 (some .boolean) [] (d + 9)) (hE : EQ C (rI Q) X) (hK4 : ∀ (x1 : Int32) (x2 : Int32) (w : Mm) (z mc ms : Nat), K4 x1 x2 w z mc ms → VW C 4 [(0, .ref (a0)), (1, .int (x1)), (2, .int (x2))] [] w z mc ms) : ∀ (x1 : Int32) (x2 : Int32) (x4 : Int32) (x5 : Int32) (y0 : Int32) (w : Mm) (z mc ms : Nat), B_L_isSound_155 a0 K4 Q x1 x2 x4 x5 y0 w z mc ms → VW C 155 [(0, .ref (a0)), (1, .int (x1)), (2, .int (x2)), (4, .int (x4)), (5, .int (x5))] [.int (y0)] w z mc ms := by
  intro x1 x2 x4 x5 y0 w z mc ms h
  unfold B_L_isSound_155 at h
  refine vw_istore hX dL_isSound_155 (by decide) rfl ?_
  refine vw_aload_n hX 1 dL_isSound_157 rfl ?_
  refine vw_iload_n hX 3 dL_isSound_158 rfl ?_
  obtain ⟨k179, k180, hm1, hm2, h⟩ := h
  refine s_L_155 hX dL_isSound_159 (Nat.le_of_ble_eq_true rfl) hm1 hm2 (ct_L_ticketPrice (d := d + 0) (lst hX) h) (fun r176 w177 z178 h => ?_)
  refine vw_iload hX 4 dL_isSound_162 rfl ?_
  refine vw_icmp_ne hX (tgt := 241) dL_isSound_164 (by decide) (fun c181 => ?_) (fun c181 => ?_)
  · have h := h.1 c181
    refine vw_iconst hX (v := 0) dL_isSound_241 (by decide) ?_
    exact vw_zret hX hE dL_isSound_242 rfl ⟨_, rfl, h⟩
  · have h := h.2 c181
    refine vw_aload_n hX 1 dL_isSound_167 rfl ?_
    refine vw_iload_n hX 3 dL_isSound_168 rfl ?_
    obtain ⟨k185, k186, hm1, hm2, h⟩ := h
    refine s_L_157 hX dL_isSound_169 (Nat.le_of_ble_eq_true rfl) hm1 hm2 (ct_L_isInTime (d := d + 0) (lst hX) h) (fun r182 w183 z184 h => ?_)
    refine vw_iconst hX (v := 1) dL_isSound_172 (by decide) ?_
    refine vw_icmp_ne hX (tgt := 180) dL_isSound_173 (by decide) (fun c187 => ?_) (fun c187 => ?_)
    · have h := h.1 c187
      refine vw_iconst hX (v := 0) dL_isSound_180 (by decide) ?_
      exact vw_sub [1, 2, 3, 4, 5, 0] rfl (pB_L_isSound_181 hX hE hK4 _ _ _ _ _ _ _ _ _ _ h)
    · have h := h.2 c187
      refine vw_iconst hX (v := 1) dL_isSound_176 (by decide) ?_
      refine vw_goto hX (tgt := 181) dL_isSound_177 (by decide) ?_
      exact vw_sub [1, 2, 3, 4, 5, 0] rfl (pB_L_isSound_181 hX hE hK4 _ _ _ _ _ _ _ _ _ _ h)
def B_L_isSound_154 (a0 : Nat) (K4 : Int32 → Int32 → Mm → Nat → Nat → Nat → Prop) (Q : Int32 → Mm → Nat → Prop) (x1 : Int32) (x2 : Int32) (x4 : Int32) (x5 : Int32) (w : Mm) (z : Nat) (mc : Nat) (ms : Nat) : Prop :=
  B_L_isSound_155 a0 K4 Q x1 x2 x4 x5 0 w z mc ms
set_option maxRecDepth 100000 in
set_option maxHeartbeats 4000000 in
theorem pB_L_isSound_154 {C : Cx} {d : Nat} {a0 : Nat} {K4 : Int32 → Int32 → Mm → Nat → Nat → Nat → Prop} {Q : Int32 → Mm → Nat → Prop} {X : String → Mm → Nat → Prop} (hX : CX C cL_isSound RL 8 (some .boolean) [] (d + 9)) (hE : EQ C (rI Q) X) (hK4 : ∀ (x1 : Int32) (x2 : Int32) (w : Mm) (z mc ms : Nat), K4 x1 x2 w z mc ms → VW C 4 [(0, .ref (a0)), (1, .int (x1)), (2, .int (x2))] [] w z mc ms) : ∀ (x1 : Int32) (x2 : Int32) (x4 : Int32) (x5 : Int32) (w : Mm) (z mc ms : Nat), B_L_isSound_154 a0 K4 Q x1 x2 x4 x5 w z mc ms → VW C 154 [(0, .ref (a0)), (1, .int (x1)), (2, .int (x2)), (4, .int (x4)), (5, .int (x5))] [] w z mc ms := by
  intro x1 x2 x4 x5 w z mc ms h
  unfold B_L_isSound_154 at h
  refine vw_iconst hX (v := 0) dL_isSound_154 (by decide) ?_
  exact pB_L_isSound_155 hX hE hK4 _ _ _ _ _ _ _ _ _ h
def B_L_isSound_150 (a0 : Nat) (K4 : Int32 → Int32 → Mm → Nat → Nat → Nat → Prop) (Q : Int32 → Mm → Nat → Prop) (x1 : Int32) (x2 : Int32) (x4 : Int32) (x5 : Int32) (w : Mm) (z : Nat) (mc : Nat) (ms : Nat) : Prop :=
  B_L_isSound_155 a0 K4 Q x1 x2 x4 x5 1 w z mc ms
set_option maxRecDepth 100000 in
set_option maxHeartbeats 4000000 in
theorem pB_L_isSound_150 {C : Cx} {d : Nat} {a0 : Nat} {K4 : Int32 → Int32 → Mm → Nat → Nat → Nat → Prop} {Q : Int32 → Mm → Nat → Prop} {X : String → Mm → Nat → Prop} (hX : CX C cL_isSound RL 8 (some .boolean) [] (d + 9)) (hE : EQ C (rI Q) X) (hK4 : ∀ (x1 : Int32) (x2 : Int32) (w : Mm) (z mc ms : Nat), K4 x1 x2 w z mc ms → VW C 4 [(0, .ref (a0)), (1, .int (x1)), (2, .int (x2))] [] w z mc ms) : ∀ (x1 : Int32) (x2 : Int32) (x4 : Int32) (x5 : Int32) (w : Mm) (z mc ms : Nat), B_L_isSound_150 a0 K4 Q x1 x2 x4 x5 w z mc ms → VW C 150 [(0, .ref (a0)), (1, .int (x1)), (2, .int (x2)), (4, .int (x4)), (5, .int (x5))] [] w z mc ms := by
  intro x1 x2 x4 x5 w z mc ms h
  unfold B_L_isSound_150 at h
  refine vw_iconst hX (v := 1) dL_isSound_150 (by decide) ?_
  refine vw_goto hX (tgt := 155) dL_isSound_151 (by decide) ?_
  exact pB_L_isSound_155 hX hE hK4 _ _ _ _ _ _ _ _ _ h
def B_L_isSound_147 (a0 : Nat) (K4 : Int32 → Int32 → Mm → Nat → Nat → Nat → Prop) (Q : Int32 → Mm → Nat → Prop) (x1 : Int32) (x2 : Int32) (x4 : Int32) (x5 : Int32) (y0 : Int32) (y1 : Int32) (w : Mm) (z : Nat) (mc : Nat) (ms : Nat) : Prop :=
  (y0 ≤ y1 → B_L_isSound_154 a0 K4 Q x1 x2 x4 x5 w z mc ms) ∧
  (¬ y0 ≤ y1 → B_L_isSound_150 a0 K4 Q x1 x2 x4 x5 w z mc ms)
set_option maxRecDepth 100000 in
set_option maxHeartbeats 4000000 in
theorem pB_L_isSound_147 {C : Cx} {d : Nat} {a0 : Nat} {K4 : Int32 → Int32 → Mm → Nat → Nat → Nat → Prop} {Q : Int32 → Mm → Nat → Prop} {X : String → Mm → Nat → Prop} (hX : CX C cL_isSound RL 8 (some .boolean) [] (d + 9)) (hE : EQ C (rI Q) X) (hK4 : ∀ (x1 : Int32) (x2 : Int32) (w : Mm) (z mc ms : Nat), K4 x1 x2 w z mc ms → VW C 4 [(0, .ref (a0)), (1, .int (x1)), (2, .int (x2))] [] w z mc ms) : ∀ (x1 : Int32) (x2 : Int32) (x4 : Int32) (x5 : Int32) (y0 : Int32) (y1 : Int32) (w : Mm) (z mc ms : Nat), B_L_isSound_147 a0 K4 Q x1 x2 x4 x5 y0 y1 w z mc ms → VW C 147 [(0, .ref (a0)), (1, .int (x1)), (2, .int (x2)), (4, .int (x4)), (5, .int (x5))] [.int (y0), .int (y1)] w z mc ms := by
  intro x1 x2 x4 x5 y0 y1 w z mc ms h
  unfold B_L_isSound_147 at h
  refine vw_icmp_ge hX (tgt := 154) dL_isSound_147 (by decide) (fun c188 => ?_) (fun c188 => ?_)
  · have h := h.1 c188
    exact pB_L_isSound_154 hX hE hK4 _ _ _ _ _ _ _ _ h
  · have h := h.2 c188
    exact pB_L_isSound_150 hX hE hK4 _ _ _ _ _ _ _ _ h
def B_L_isSound_77 (a0 : Nat) (K4 : Int32 → Int32 → Mm → Nat → Nat → Nat → Prop) (Q : Int32 → Mm → Nat → Prop) (x1 : Int32) (x2 : Int32) (y0 : Int32) (w : Mm) (z : Nat) (mc : Nat) (ms : Nat) : Prop :=
  ∃ k192 k193, k192 ≤ mc ∧ k193 ≤ ms ∧ F_L_stampTime a0 x2 w z k192 k193 (fun r189 w190 z191 => isO w190 a0 9 ∧ F_X5_clock a0 w190 z191 (fun r195 w196 z197 => ∀ i198 : Int32, i198 = (r195 - r189) → (r189 = (-1) → B_L_isSound_150 a0 K4 Q x1 x2 y0 r189 w196 z197 ((mc - k192)) ((ms - k193))) ∧
  (¬ r189 = (-1) → ∃ k203 k204, k203 ≤ (mc - k192) ∧ k204 ≤ (ms - k193) ∧ F_L_ticketKind a0 x2 w196 z197 k203 k204 (fun r200 w201 z202 => (¬ r200 = 1 → ∃ k209 k210, k209 ≤ ((mc - k192) - k203) ∧ k210 ≤ ((ms - k193) - k204) ∧ F_L_ticketKind a0 x2 w201 z202 k209 k210 (fun r206 w207 z208 => (¬ r206 = 0 → B_L_isSound_147 a0 K4 Q x1 x2 y0 r189 30 i198 w207 z208 ((((mc - k192) - k203) - k209)) ((((ms - k193) - k204) - k210))) ∧
  (r206 = 0 → B_L_isSound_147 a0 K4 Q x1 x2 y0 r189 60 i198 w207 z208 ((((mc - k192) - k203) - k209)) ((((ms - k193) - k204) - k210))))) ∧
  (r200 = 1 → isO w201 a0 9 ∧ F_X5_clock a0 w201 z202 (fun r213 w214 z215 => (¬ ((r213 / 1440)) = ((r189 / 1440)) → B_L_isSound_154 a0 K4 Q x1 x2 y0 r189 w214 z215 (((mc - k192) - k203)) (((ms - k193) - k204))) ∧
  (((r213 / 1440)) = ((r189 / 1440)) → B_L_isSound_150 a0 K4 Q x1 x2 y0 r189 w214 z215 (((mc - k192) - k203)) (((ms - k193) - k204)))))))))
set_option maxRecDepth 100000 in
set_option maxHeartbeats 4000000 in
theorem pB_L_isSound_77 {C : Cx} {d : Nat} {a0 : Nat} {K4 : Int32 → Int32 → Mm → Nat → Nat → Nat → Prop} {Q : Int32 → Mm → Nat → Prop} {X : String → Mm → Nat → Prop} (hX : CX C cL_isSound RL 8 (some .boolean) [] (d + 9)) (hE : EQ C (rI Q) X) (hK4 : ∀ (x1 : Int32) (x2 : Int32) (w : Mm) (z mc ms : Nat), K4 x1 x2 w z mc ms → VW C 4 [(0, .ref (a0)), (1, .int (x1)), (2, .int (x2))] [] w z mc ms) : ∀ (x1 : Int32) (x2 : Int32) (y0 : Int32) (w : Mm) (z mc ms : Nat), B_L_isSound_77 a0 K4 Q x1 x2 y0 w z mc ms → VW C 77 [(0, .ref (a0)), (1, .int (x1)), (2, .int (x2))] [.int (y0)] w z mc ms := by
  intro x1 x2 y0 w z mc ms h
  unfold B_L_isSound_77 at h
  refine vw_istore hX dL_isSound_77 (by decide) rfl ?_
  refine vw_aload_n hX 1 dL_isSound_79 rfl ?_
  refine vw_iload_n hX 3 dL_isSound_80 rfl ?_
  obtain ⟨k192, k193, hm1, hm2, h⟩ := h
  refine s_L_150 hX dL_isSound_81 (Nat.le_of_ble_eq_true rfl) hm1 hm2 (ct_L_stampTime (d := d + 0) (lst hX) h) (fun r189 w190 z191 h => ?_)
  refine vw_istore hX dL_isSound_84 (by decide) rfl ?_
  refine vw_aload_n hX 2 dL_isSound_86 rfl ?_
  obtain ⟨hr194, h⟩ := h
  refine s_L_152 hX hr194 dL_isSound_87 (Nat.le_of_ble_eq_true rfl) (ct_X5_clock (d := d + 8) (lst hX) h) (fun r195 w196 z197 h => ?_)
  refine vw_iload hX 0 dL_isSound_90 rfl ?_
  refine vw_isub hX dL_isSound_92 ?_
  refine vw_nmI (fun i198 ei198 => ?_)
  have h := h i198 ei198
  refine vw_istore hX dL_isSound_93 (by decide) rfl ?_
  refine vw_iload hX 1 dL_isSound_95 rfl ?_
  refine vw_iconst hX (v := (-1)) dL_isSound_97 (by decide) ?_
  refine vw_icmp_eq hX (tgt := 150) dL_isSound_98 (by decide) (fun c199 => ?_) (fun c199 => ?_)
  · have h := h.1 c199
    exact vw_sub [3, 4, 5, 2, 1] rfl (pB_L_isSound_150 hX hE hK4 _ _ _ _ _ _ _ _ h)
  · have h := h.2 c199
    refine vw_aload_n hX 3 dL_isSound_101 rfl ?_
    refine vw_iload_n hX 5 dL_isSound_102 rfl ?_
    obtain ⟨k203, k204, hm1, hm2, h⟩ := h
    refine s_L_148 hX dL_isSound_103 (Nat.le_of_ble_eq_true rfl) hm1 hm2 (ct_L_ticketKind (d := d + 0) (lst hX) h) (fun r200 w201 z202 h => ?_)
    refine vw_iconst hX (v := 1) dL_isSound_106 (by decide) ?_
    refine vw_icmp_ne hX (tgt := 130) dL_isSound_107 (by decide) (fun c205 => ?_) (fun c205 => ?_)
    · have h := h.1 c205
      refine vw_iload hX 0 dL_isSound_130 rfl ?_
      refine vw_aload_n hX 3 dL_isSound_132 rfl ?_
      refine vw_iload_n hX 5 dL_isSound_133 rfl ?_
      obtain ⟨k209, k210, hm1, hm2, h⟩ := h
      refine s_L_148 hX dL_isSound_134 (Nat.le_of_ble_eq_true rfl) hm1 hm2 (ct_L_ticketKind (d := d + 0) (lst hX) h) (fun r206 w207 z208 h => ?_)
      refine vw_if_ne hX (tgt := 145) dL_isSound_137 (by decide) (fun c211 => ?_) (fun c211 => ?_)
      · have h := h.1 c211
        refine vw_bipush hX (v := 30) dL_isSound_145 (by decide) ?_
        exact vw_sub [3, 4, 5, 2, 1] rfl (pB_L_isSound_147 hX hE hK4 _ _ _ _ _ _ _ _ _ _ h)
      · have h := h.2 c211
        refine vw_bipush hX (v := 60) dL_isSound_140 (by decide) ?_
        refine vw_goto hX (tgt := 147) dL_isSound_142 (by decide) ?_
        exact vw_sub [3, 4, 5, 2, 1] rfl (pB_L_isSound_147 hX hE hK4 _ _ _ _ _ _ _ _ _ _ h)
    · have h := h.2 c205
      refine vw_aload_n hX 3 dL_isSound_110 rfl ?_
      obtain ⟨hr212, h⟩ := h
      refine s_L_152 hX hr212 dL_isSound_111 (Nat.le_of_ble_eq_true rfl) (ct_X5_clock (d := d + 8) (lst hX) h) (fun r213 w214 z215 h => ?_)
      refine vw_sipush hX (v := 1440) dL_isSound_114 (by decide) ?_
      refine vw_idiv hX dL_isSound_117 (by decide) ?_
      refine vw_iload hX 1 dL_isSound_118 rfl ?_
      refine vw_sipush hX (v := 1440) dL_isSound_120 (by decide) ?_
      refine vw_idiv hX dL_isSound_123 (by decide) ?_
      refine vw_icmp_ne hX (tgt := 154) dL_isSound_124 (by decide) (fun c216 => ?_) (fun c216 => ?_)
      · have h := h.1 c216
        exact vw_sub [3, 4, 5, 2, 1] rfl (pB_L_isSound_154 hX hE hK4 _ _ _ _ _ _ _ _ h)
      · have h := h.2 c216
        refine vw_goto hX (tgt := 150) dL_isSound_127 (by decide) ?_
        exact vw_sub [3, 4, 5, 2, 1] rfl (pB_L_isSound_150 hX hE hK4 _ _ _ _ _ _ _ _ h)
def B_L_isSound_75 (a0 : Nat) (K4 : Int32 → Int32 → Mm → Nat → Nat → Nat → Prop) (Q : Int32 → Mm → Nat → Prop) (x1 : Int32) (x2 : Int32) (x3 : Int32) (y0 : Int32) (w : Mm) (z : Nat) (mc : Nat) (ms : Nat) : Prop :=
  B_L_isSound_77 a0 K4 Q x1 x2 ((y0 * x3)) w z mc ms
set_option maxRecDepth 100000 in
set_option maxHeartbeats 4000000 in
theorem pB_L_isSound_75 {C : Cx} {d : Nat} {a0 : Nat} {K4 : Int32 → Int32 → Mm → Nat → Nat → Nat → Prop} {Q : Int32 → Mm → Nat → Prop} {X : String → Mm → Nat → Prop} (hX : CX C cL_isSound RL 8 (some .boolean) [] (d + 9)) (hE : EQ C (rI Q) X) (hK4 : ∀ (x1 : Int32) (x2 : Int32) (w : Mm) (z mc ms : Nat), K4 x1 x2 w z mc ms → VW C 4 [(0, .ref (a0)), (1, .int (x1)), (2, .int (x2))] [] w z mc ms) : ∀ (x1 : Int32) (x2 : Int32) (x3 : Int32) (y0 : Int32) (w : Mm) (z mc ms : Nat), B_L_isSound_75 a0 K4 Q x1 x2 x3 y0 w z mc ms → VW C 75 [(0, .ref (a0)), (1, .int (x1)), (2, .int (x2)), (3, .int (x3))] [.int (y0)] w z mc ms := by
  intro x1 x2 x3 y0 w z mc ms h
  unfold B_L_isSound_75 at h
  refine vw_iload_n hX 3 dL_isSound_75 rfl ?_
  refine vw_imul hX dL_isSound_76 ?_
  exact vw_sub [0, 1, 2] rfl (pB_L_isSound_77 hX hE hK4 _ _ _ _ _ _ _ h)
def B_L_isSound_17 (a0 : Nat) (K4 : Int32 → Int32 → Mm → Nat → Nat → Nat → Prop) (Q : Int32 → Mm → Nat → Prop) : Nat → Int32 → Int32 → Int32 → Int32 → Mm → Nat → Nat → Nat → Prop
  | 0, _, _, _, _, _, _, _, _ => False
  | n + 1, x1, x2, x3, x4, w, z, mc, ms => (4 ≤ x4 → ∃ k221 k222, k221 ≤ mc ∧ k222 ≤ ms ∧ F_L_ticketKind a0 x2 w z k221 k222 (fun r218 w219 z220 => (¬ r218 = 2 → ∃ k227 k228, k227 ≤ (mc - k221) ∧ k228 ≤ (ms - k222) ∧ F_L_ticketKind a0 x2 w219 z220 k227 k228 (fun r224 w225 z226 => (¬ r224 = 1 → B_L_isSound_75 a0 K4 Q x1 x2 x3 200 w225 z226 (((mc - k221) - k227)) (((ms - k222) - k228))) ∧
  (r224 = 1 → B_L_isSound_75 a0 K4 Q x1 x2 x3 500 w225 z226 (((mc - k221) - k227)) (((ms - k222) - k228))))) ∧
  (r218 = 2 → B_L_isSound_77 a0 K4 Q x1 x2 150 w219 z220 ((mc - k221)) ((ms - k222))))) ∧
  (¬ 4 ≤ x4 → ∃ k233 k234, k233 ≤ mc ∧ k234 ≤ ms ∧ F_L_ticketZones a0 x2 w z k233 k234 (fun r230 w231 z232 => ∀ i235 : Int32, i235 = (x3 + ((((r230 >>> (x4 &&& 31))) &&& 1))) → B_L_isSound_17 a0 K4 Q n x1 x2 i235 ((x4 + 1)) w231 z232 ((mc - k233)) ((ms - k234))))
set_option maxRecDepth 100000 in
set_option maxHeartbeats 4000000 in
theorem pB_L_isSound_17 {C : Cx} {d : Nat} {a0 : Nat} {K4 : Int32 → Int32 → Mm → Nat → Nat → Nat → Prop} {Q : Int32 → Mm → Nat → Prop} {X : String → Mm → Nat → Prop} (hX : CX C cL_isSound RL 8 (some .boolean) [] (d + 9)) (hE : EQ C (rI Q) X) (hK4 : ∀ (x1 : Int32) (x2 : Int32) (w : Mm) (z mc ms : Nat), K4 x1 x2 w z mc ms → VW C 4 [(0, .ref (a0)), (1, .int (x1)), (2, .int (x2))] [] w z mc ms) : ∀ (n : Nat) (x1 : Int32) (x2 : Int32) (x3 : Int32) (x4 : Int32) (w : Mm) (z mc ms : Nat), B_L_isSound_17 a0 K4 Q n x1 x2 x3 x4 w z mc ms → VW C 17 [(0, .ref (a0)), (1, .int (x1)), (2, .int (x2)), (3, .int (x3)), (4, .int (x4))] [] w z mc ms := by
  intro n
  induction n with
  | zero => intro x1 x2 x3 x4 w z mc ms h; exact False.elim h
  | succ n ih =>
    intro x1 x2 x3 x4 w z mc ms h
    unfold B_L_isSound_17 at h
    refine vw_iload hX 4 dL_isSound_17 rfl ?_
    refine vw_iconst hX (v := 4) dL_isSound_19 (by decide) ?_
    refine vw_icmp_ge hX (tgt := 42) dL_isSound_20 (by decide) (fun c217 => ?_) (fun c217 => ?_)
    · have h := h.1 c217
      refine vw_aload_n hX 0 dL_isSound_42 rfl ?_
      refine vw_iload_n hX 2 dL_isSound_43 rfl ?_
      obtain ⟨k221, k222, hm1, hm2, h⟩ := h
      refine s_L_148 hX dL_isSound_44 (Nat.le_of_ble_eq_true rfl) hm1 hm2 (ct_L_ticketKind (d := d + 0) (lst hX) h) (fun r218 w219 z220 h => ?_)
      refine vw_iconst hX (v := 2) dL_isSound_47 (by decide) ?_
      refine vw_icmp_ne hX (tgt := 57) dL_isSound_48 (by decide) (fun c223 => ?_) (fun c223 => ?_)
      · have h := h.1 c223
        refine vw_aload_n hX 0 dL_isSound_57 rfl ?_
        refine vw_iload_n hX 2 dL_isSound_58 rfl ?_
        obtain ⟨k227, k228, hm1, hm2, h⟩ := h
        refine s_L_148 hX dL_isSound_59 (Nat.le_of_ble_eq_true rfl) hm1 hm2 (ct_L_ticketKind (d := d + 0) (lst hX) h) (fun r224 w225 z226 h => ?_)
        refine vw_iconst hX (v := 1) dL_isSound_62 (by decide) ?_
        refine vw_icmp_ne hX (tgt := 72) dL_isSound_63 (by decide) (fun c229 => ?_) (fun c229 => ?_)
        · have h := h.1 c229
          refine vw_sipush hX (v := 200) dL_isSound_72 (by decide) ?_
          exact vw_sub [0, 1, 2, 3] rfl (pB_L_isSound_75 hX hE hK4 _ _ _ _ _ _ _ _ h)
        · have h := h.2 c229
          refine vw_sipush hX (v := 500) dL_isSound_66 (by decide) ?_
          refine vw_goto hX (tgt := 75) dL_isSound_69 (by decide) ?_
          exact vw_sub [0, 1, 2, 3] rfl (pB_L_isSound_75 hX hE hK4 _ _ _ _ _ _ _ _ h)
      · have h := h.2 c223
        refine vw_sipush hX (v := 150) dL_isSound_51 (by decide) ?_
        refine vw_goto hX (tgt := 77) dL_isSound_54 (by decide) ?_
        exact vw_sub [0, 1, 2] rfl (pB_L_isSound_77 hX hE hK4 _ _ _ _ _ _ _ h)
    · have h := h.2 c217
      refine vw_iload_n hX 3 dL_isSound_23 rfl ?_
      refine vw_aload_n hX 0 dL_isSound_24 rfl ?_
      refine vw_iload_n hX 2 dL_isSound_25 rfl ?_
      obtain ⟨k233, k234, hm1, hm2, h⟩ := h
      refine s_L_146 hX dL_isSound_26 (Nat.le_of_ble_eq_true rfl) hm1 hm2 (ct_L_ticketZones (d := d + 0) (lst hX) h) (fun r230 w231 z232 h => ?_)
      refine vw_iload hX 4 dL_isSound_29 rfl ?_
      refine vw_ishr hX dL_isSound_31 ?_
      refine vw_iconst hX (v := 1) dL_isSound_32 (by decide) ?_
      refine vw_iand hX dL_isSound_33 ?_
      refine vw_iadd hX dL_isSound_34 ?_
      refine vw_nmI (fun i235 ei235 => ?_)
      have h := h i235 ei235
      refine vw_istore_n hX dL_isSound_35 (by decide) rfl ?_
      refine vw_iinc hX 4 (v := x4 + 1) dL_isSound_36 rfl rfl (by decide) rfl ?_
      refine vw_goto hX (tgt := 17) dL_isSound_39 (by decide) ?_
      exact vw_sub [2, 3, 4, 1, 0] rfl (ih _ _ _ _ _ _ _ _ h)
def B_L_isSound_4 (a0 : Nat) (Q : Int32 → Mm → Nat → Prop) : Nat → Int32 → Int32 → Mm → Nat → Nat → Nat → Prop
  | 0, _, _, _, _, _, _ => False
  | n + 1, x1, x2, w, z, mc, ms => isO w a0 9 ∧ F_X5_ticketCount a0 w z (fun r237 w238 z239 => (r237 ≤ x2 → ∃ nn, B_L_isSound_256 a0 Q nn x1 0 w238 z239 mc ms) ∧
  (¬ r237 ≤ x2 → ∃ nn, B_L_isSound_17 a0 (B_L_isSound_4 a0 Q n) Q nn x1 x2 0 0 w238 z239 mc ms))
set_option maxRecDepth 100000 in
set_option maxHeartbeats 4000000 in
theorem pB_L_isSound_4 {C : Cx} {d : Nat} {a0 : Nat} {Q : Int32 → Mm → Nat → Prop} {X : String → Mm → Nat → Prop} (hX : CX C cL_isSound RL 8 (some .boolean) [] (d + 9)) (hE : EQ C (rI Q) X) : ∀ (n : Nat) (x1 : Int32) (x2 : Int32) (w : Mm) (z mc ms : Nat), B_L_isSound_4 a0 Q n x1 x2 w z mc ms → VW C 4 [(0, .ref (a0)), (1, .int (x1)), (2, .int (x2))] [] w z mc ms := by
  intro n
  induction n with
  | zero => intro x1 x2 w z mc ms h; exact False.elim h
  | succ n ih =>
    intro x1 x2 w z mc ms h
    unfold B_L_isSound_4 at h
    refine vw_iload_n hX 2 dL_isSound_4 rfl ?_
    refine vw_aload_n hX 0 dL_isSound_5 rfl ?_
    obtain ⟨hr236, h⟩ := h
    refine s_L_143 hX hr236 dL_isSound_6 (Nat.le_of_ble_eq_true rfl) (ct_X5_ticketCount (d := d + 8) (lst hX) h) (fun r237 w238 z239 h => ?_)
    refine vw_icmp_ge hX (tgt := 254) dL_isSound_9 (by decide) (fun c240 => ?_) (fun c240 => ?_)
    · have h := h.1 c240
      refine vw_iconst hX (v := 0) dL_isSound_254 (by decide) ?_
      refine vw_istore_n hX dL_isSound_255 (by decide) rfl ?_
      obtain ⟨nn, h⟩ := h
      exact vw_sub [1, 2, 0] rfl (pB_L_isSound_256 hX hE nn _ _ _ _ _ _ h)
    · have h := h.2 c240
      refine vw_iconst hX (v := 0) dL_isSound_12 (by decide) ?_
      refine vw_istore_n hX dL_isSound_13 (by decide) rfl ?_
      refine vw_iconst hX (v := 0) dL_isSound_14 (by decide) ?_
      refine vw_istore hX dL_isSound_15 (by decide) rfl ?_
      obtain ⟨nn, h⟩ := h
      exact vw_sub [2, 3, 4, 1, 0] rfl (pB_L_isSound_17 hX hE ih nn _ _ _ _ _ _ _ _ h)
def F_L_isSound (a0 : Nat) (w : Mm) (z : Nat) (mc ms : Nat) (Q : Int32 → Mm → Nat → Prop) : Prop :=
  ∃ nn, B_L_isSound_4 a0 Q nn 0 0 w z mc ms
set_option maxRecDepth 100000 in
set_option maxHeartbeats 4000000 in
theorem ct_L_isSound {l : Launch} {g : Gp} {d : Nat} (hst : l.stackTraces = false) {a0 : Nat} {w : Mm} {z mc ms : Nat} {Q : Int32 → Mm → Nat → Prop} {X : String → Mm → Nat → Prop} (h : F_L_isSound a0 w z mc ms Q) : Ct l g yL_isSound (.code yL_isSound cL_isSound 8 (some .boolean)) (d + 9) mc ms [.ref (a0)] w z (rI Q) X := by
  refine Ct.of hst (by decide) (Nat.le_of_ble_eq_true rfl) (fun C hX hE hg hl hNm => ?_)
  subst hg
  subst hl
  unfold F_L_isSound at h
  show VW C 0 [(0, .ref (a0))] [] w z mc ms
  refine vw_iconst hX (v := 0) dL_isSound_0 (by decide) ?_
  refine vw_istore_n hX dL_isSound_1 (by decide) rfl ?_
  refine vw_iconst hX (v := 0) dL_isSound_2 (by decide) ?_
  refine vw_istore_n hX dL_isSound_3 (by decide) rfl ?_
  obtain ⟨nn, h⟩ := h
  exact vw_sub [2, 1, 0] rfl (pB_L_isSound_4 hX hE nn _ _ _ _ _ _ h)
def B_L_acts_1043 (a0 : Nat) (a1 : Nat) (Q : Int32 → Mm → Nat → Prop) (y0 : Int32) (y1 : Int32) (w : Mm) (z : Nat) (mc : Nat) (ms : Nat) : Prop :=
  (¬ y1 = y0 → Q 0 w z) ∧
  (y1 = y0 → Q 1 w z)
set_option maxRecDepth 100000 in
set_option maxHeartbeats 4000000 in
theorem pB_L_acts_1043 {C : Cx} {d : Nat} {a0 : Nat} {a1 : Nat} {Q : Int32 → Mm → Nat → Prop} {X : String → Mm → Nat → Prop} (hX : CX C cL_acts RL 12 (some .boolean) [] (d + 9)) (hE : EQ C (rI Q) X) : ∀ (y0 : Int32) (y1 : Int32) (w : Mm) (z mc ms : Nat), B_L_acts_1043 a0 a1 Q y0 y1 w z mc ms → VW C 1043 [(0, .ref (a0)), (1, .ref (a1))] [.int (y0), .int (y1)] w z mc ms := by
  intro y0 y1 w z mc ms h
  unfold B_L_acts_1043 at h
  refine vw_icmp_ne hX (tgt := 1050) dL_acts_1043 (by decide) (fun c1 => ?_) (fun c1 => ?_)
  · have h := h.1 c1
    refine vw_iconst hX (v := 0) dL_acts_1050 (by decide) ?_
    exact vw_zret hX hE dL_acts_1051 rfl ⟨_, rfl, h⟩
  · have h := h.2 c1
    refine vw_iconst hX (v := 1) dL_acts_1046 (by decide) ?_
    refine vw_goto hX (tgt := 1051) dL_acts_1047 (by decide) ?_
    exact vw_zret hX hE dL_acts_1051 rfl ⟨_, rfl, h⟩
def B_L_acts_1009 (a0 : Nat) (a1 : Nat) (Q : Int32 → Mm → Nat → Prop) (y0 : Int32) (w : Mm) (z : Nat) (mc : Nat) (ms : Nat) : Prop :=
  isO w a0 9 ∧ F_X5_clock a0 w z (fun r3 w4 z5 => ∃ k9 k10, k9 ≤ mc ∧ k10 ≤ ms ∧ F_L_waitFor a0 y0 w4 z5 k9 k10 (fun r6 w7 z8 => (((r3 + y0)) ≤ 99999 → B_L_acts_1043 a0 a1 Q ((r3 + y0)) r6 w7 z8 ((mc - k9)) ((ms - k10))) ∧
  (¬ ((r3 + y0)) ≤ 99999 → B_L_acts_1043 a0 a1 Q (-19) r6 w7 z8 ((mc - k9)) ((ms - k10)))))
set_option maxRecDepth 100000 in
set_option maxHeartbeats 4000000 in
theorem pB_L_acts_1009 {C : Cx} {d : Nat} {a0 : Nat} {a1 : Nat} {Q : Int32 → Mm → Nat → Prop} {X : String → Mm → Nat → Prop} (hX : CX C cL_acts RL 12 (some .boolean) [] (d + 9)) (hE : EQ C (rI Q) X) : ∀ (y0 : Int32) (w : Mm) (z mc ms : Nat), B_L_acts_1009 a0 a1 Q y0 w z mc ms → VW C 1009 [(0, .ref (a0)), (1, .ref (a1))] [.int (y0)] w z mc ms := by
  intro y0 w z mc ms h
  unfold B_L_acts_1009 at h
  refine vw_istore hX dL_acts_1009 (by decide) rfl ?_
  refine vw_aload_n hX 1 dL_acts_1011 rfl ?_
  obtain ⟨hr2, h⟩ := h
  refine s_L_152 hX hr2 dL_acts_1012 (Nat.le_of_ble_eq_true rfl) (ct_X5_clock (d := d + 8) (lst hX) h) (fun r3 w4 z5 h => ?_)
  refine vw_istore hX dL_acts_1015 (by decide) rfl ?_
  refine vw_aload_n hX 2 dL_acts_1017 rfl ?_
  refine vw_iload hX 1 dL_acts_1018 rfl ?_
  obtain ⟨k9, k10, hm1, hm2, h⟩ := h
  refine s_L_242 hX dL_acts_1020 (Nat.le_of_ble_eq_true rfl) hm1 hm2 (ct_L_waitFor (d := d + 1) (lst hX) h) (fun r6 w7 z8 h => ?_)
  refine vw_iload hX 0 dL_acts_1023 rfl ?_
  refine vw_iload hX 1 dL_acts_1025 rfl ?_
  refine vw_iadd hX dL_acts_1027 ?_
  refine vw_ldcI hX kw_1356 dL_acts_1028 ?_
  refine vw_icmp_le hX (tgt := 1038) dL_acts_1030 (by decide) (fun c11 => ?_) (fun c11 => ?_)
  · have h := h.1 c11
    refine vw_iload hX 0 dL_acts_1038 rfl ?_
    refine vw_iload hX 1 dL_acts_1040 rfl ?_
    refine vw_iadd hX dL_acts_1042 ?_
    exact vw_sub [2, 3] rfl (pB_L_acts_1043 hX hE _ _ _ _ _ _ h)
  · have h := h.2 c11
    refine vw_bipush hX (v := (-19)) dL_acts_1033 (by decide) ?_
    refine vw_goto hX (tgt := 1043) dL_acts_1035 (by decide) ?_
    exact vw_sub [2, 3] rfl (pB_L_acts_1043 hX hE _ _ _ _ _ _ h)
def B_L_acts_986 (a0 : Nat) (a1 : Nat) (Q : Int32 → Mm → Nat → Prop) (w : Mm) (z : Nat) (mc : Nat) (ms : Nat) : Prop :=
  F_L_draw a1 6 w z (fun r12 w13 z14 => (¬ r12 = 0 → F_L_draw a1 40 w13 z14 (fun r16 w17 z18 => B_L_acts_1009 a0 a1 Q ((1 + r16)) w17 z18 mc ms)) ∧
  (r12 = 0 → B_L_acts_1009 a0 a1 Q 9999 w13 z14 mc ms))
set_option maxRecDepth 100000 in
set_option maxHeartbeats 4000000 in
theorem pB_L_acts_986 {C : Cx} {d : Nat} {a0 : Nat} {a1 : Nat} {Q : Int32 → Mm → Nat → Prop} {X : String → Mm → Nat → Prop} (hX : CX C cL_acts RL 12 (some .boolean) [] (d + 9)) (hE : EQ C (rI Q) X) : ∀  (w : Mm) (z mc ms : Nat), B_L_acts_986 a0 a1 Q  w z mc ms → VW C 986 [(0, .ref (a0)), (1, .ref (a1))] [] w z mc ms := by
  intro  w z mc ms h
  unfold B_L_acts_986 at h
  refine vw_aload_n hX 1 dL_acts_986 rfl ?_
  refine vw_bipush hX (v := 6) dL_acts_987 (by decide) ?_
  refine s_L_206 hX dL_acts_989 (Nat.le_of_ble_eq_true rfl) (ct_L_draw (d := d + 8) (lst hX) h) (fun r12 w13 z14 h => ?_)
  refine vw_if_ne hX (tgt := 1001) dL_acts_992 (by decide) (fun c15 => ?_) (fun c15 => ?_)
  · have h := h.1 c15
    refine vw_iconst hX (v := 1) dL_acts_1001 (by decide) ?_
    refine vw_aload_n hX 1 dL_acts_1002 rfl ?_
    refine vw_bipush hX (v := 40) dL_acts_1003 (by decide) ?_
    refine s_L_206 hX dL_acts_1005 (Nat.le_of_ble_eq_true rfl) (ct_L_draw (d := d + 8) (lst hX) h) (fun r16 w17 z18 h => ?_)
    refine vw_iadd hX dL_acts_1008 ?_
    exact pB_L_acts_1009 hX hE _ _ _ _ _ h
  · have h := h.2 c15
    refine vw_sipush hX (v := 9999) dL_acts_995 (by decide) ?_
    refine vw_goto hX (tgt := 1009) dL_acts_998 (by decide) ?_
    exact pB_L_acts_1009 hX hE _ _ _ _ _ h
def B_L_acts_977 (a0 : Nat) (a1 : Nat) (Q : Int32 → Mm → Nat → Prop) (y0 : Int32) (y1 : Int32) (w : Mm) (z : Nat) (mc : Nat) (ms : Nat) : Prop :=
  (¬ y1 = y0 → Q 0 w z) ∧
  (y1 = y0 → Q 1 w z)
set_option maxRecDepth 100000 in
set_option maxHeartbeats 4000000 in
theorem pB_L_acts_977 {C : Cx} {d : Nat} {a0 : Nat} {a1 : Nat} {Q : Int32 → Mm → Nat → Prop} {X : String → Mm → Nat → Prop} (hX : CX C cL_acts RL 12 (some .boolean) [] (d + 9)) (hE : EQ C (rI Q) X) : ∀ (y0 : Int32) (y1 : Int32) (w : Mm) (z mc ms : Nat), B_L_acts_977 a0 a1 Q y0 y1 w z mc ms → VW C 977 [(0, .ref (a0)), (1, .ref (a1))] [.int (y0), .int (y1)] w z mc ms := by
  intro y0 y1 w z mc ms h
  unfold B_L_acts_977 at h
  refine vw_icmp_ne hX (tgt := 984) dL_acts_977 (by decide) (fun c19 => ?_) (fun c19 => ?_)
  · have h := h.1 c19
    refine vw_iconst hX (v := 0) dL_acts_984 (by decide) ?_
    exact vw_zret hX hE dL_acts_985 rfl ⟨_, rfl, h⟩
  · have h := h.2 c19
    refine vw_iconst hX (v := 1) dL_acts_980 (by decide) ?_
    refine vw_goto hX (tgt := 985) dL_acts_981 (by decide) ?_
    exact vw_zret hX hE dL_acts_985 rfl ⟨_, rfl, h⟩
def B_L_acts_953 (a0 : Nat) (a1 : Nat) (Q : Int32 → Mm → Nat → Prop) (x6 : Int32) (x7 : Int32) (x8 : Int32) (x9 : Int32) (y0 : Int32) (y1 : Int32) (w : Mm) (z : Nat) (mc : Nat) (ms : Nat) : Prop :=
  (¬ y1 = y0 → Q 0 w z) ∧
  (y1 = y0 → ∃ k24 k25, k24 ≤ mc ∧ k25 ≤ ms ∧ F_L_money a0 x6 w z k24 k25 (fun r21 w22 z23 => (x9 = 0 → B_L_acts_977 a0 a1 Q x8 r21 w22 z23 ((mc - k24)) ((ms - k25))) ∧
  (¬ x9 = 0 → B_L_acts_977 a0 a1 Q ((x8 - x7)) r21 w22 z23 ((mc - k24)) ((ms - k25)))))
set_option maxRecDepth 100000 in
set_option maxHeartbeats 4000000 in
theorem pB_L_acts_953 {C : Cx} {d : Nat} {a0 : Nat} {a1 : Nat} {Q : Int32 → Mm → Nat → Prop} {X : String → Mm → Nat → Prop} (hX : CX C cL_acts RL 12 (some .boolean) [] (d + 9)) (hE : EQ C (rI Q) X) : ∀ (x6 : Int32) (x7 : Int32) (x8 : Int32) (x9 : Int32) (y0 : Int32) (y1 : Int32) (w : Mm) (z mc ms : Nat), B_L_acts_953 a0 a1 Q x6 x7 x8 x9 y0 y1 w z mc ms → VW C 953 [(0, .ref (a0)), (1, .ref (a1)), (6, .int (x6)), (7, .int (x7)), (8, .int (x8)), (9, .int (x9))] [.int (y0), .int (y1)] w z mc ms := by
  intro x6 x7 x8 x9 y0 y1 w z mc ms h
  unfold B_L_acts_953 at h
  refine vw_icmp_ne hX (tgt := 984) dL_acts_953 (by decide) (fun c20 => ?_) (fun c20 => ?_)
  · have h := h.1 c20
    refine vw_iconst hX (v := 0) dL_acts_984 (by decide) ?_
    exact vw_zret hX hE dL_acts_985 rfl ⟨_, rfl, h⟩
  · have h := h.2 c20
    refine vw_aload_n hX 0 dL_acts_956 rfl ?_
    refine vw_iload hX 2 dL_acts_957 rfl ?_
    obtain ⟨k24, k25, hm1, hm2, h⟩ := h
    refine s_L_175 hX dL_acts_959 (Nat.le_of_ble_eq_true rfl) hm1 hm2 (ct_L_money (d := d + 0) (lst hX) h) (fun r21 w22 z23 h => ?_)
    refine vw_iload hX 5 dL_acts_962 rfl ?_
    refine vw_if_eq hX (tgt := 975) dL_acts_964 (by decide) (fun c26 => ?_) (fun c26 => ?_)
    · have h := h.1 c26
      refine vw_iload hX 4 dL_acts_975 rfl ?_
      exact vw_sub [0, 1] rfl (pB_L_acts_977 hX hE _ _ _ _ _ _ h)
    · have h := h.2 c26
      refine vw_iload hX 4 dL_acts_967 rfl ?_
      refine vw_iload hX 3 dL_acts_969 rfl ?_
      refine vw_isub hX dL_acts_971 ?_
      refine vw_goto hX (tgt := 977) dL_acts_972 (by decide) ?_
      exact vw_sub [0, 1] rfl (pB_L_acts_977 hX hE _ _ _ _ _ _ h)
def B_L_acts_931 (a0 : Nat) (a1 : Nat) (Q : Int32 → Mm → Nat → Prop) (x6 : Int32) (x7 : Int32) (x8 : Int32) (x9 : Int32) (x10 : Int32) (y0 : Int32) (y1 : Int32) (w : Mm) (z : Nat) (mc : Nat) (ms : Nat) : Prop :=
  (¬ y1 = y0 → Q 0 w z) ∧
  (y1 = y0 → isO w a0 9 ∧ F_X5_finesPaid a0 w z (fun r29 w30 z31 => (x9 = 0 → B_L_acts_953 a0 a1 Q x6 x7 x8 x9 x10 r29 w30 z31 mc ms) ∧
  (¬ x9 = 0 → B_L_acts_953 a0 a1 Q x6 x7 x8 x9 ((x10 + x7)) r29 w30 z31 mc ms)))
set_option maxRecDepth 100000 in
set_option maxHeartbeats 4000000 in
theorem pB_L_acts_931 {C : Cx} {d : Nat} {a0 : Nat} {a1 : Nat} {Q : Int32 → Mm → Nat → Prop} {X : String → Mm → Nat → Prop} (hX : CX C cL_acts RL 12 (some .boolean) [] (d + 9)) (hE : EQ C (rI Q) X) : ∀ (x6 : Int32) (x7 : Int32) (x8 : Int32) (x9 : Int32) (x10 : Int32) (y0 : Int32) (y1 : Int32) (w : Mm) (z mc ms : Nat), B_L_acts_931 a0 a1 Q x6 x7 x8 x9 x10 y0 y1 w z mc ms → VW C 931 [(0, .ref (a0)), (1, .ref (a1)), (6, .int (x6)), (7, .int (x7)), (8, .int (x8)), (9, .int (x9)), (10, .int (x10))] [.int (y0), .int (y1)] w z mc ms := by
  intro x6 x7 x8 x9 x10 y0 y1 w z mc ms h
  unfold B_L_acts_931 at h
  refine vw_icmp_ne hX (tgt := 984) dL_acts_931 (by decide) (fun c27 => ?_) (fun c27 => ?_)
  · have h := h.1 c27
    refine vw_iconst hX (v := 0) dL_acts_984 (by decide) ?_
    exact vw_zret hX hE dL_acts_985 rfl ⟨_, rfl, h⟩
  · have h := h.2 c27
    refine vw_aload_n hX 0 dL_acts_934 rfl ?_
    obtain ⟨hr28, h⟩ := h
    refine s_L_239 hX hr28 dL_acts_935 (Nat.le_of_ble_eq_true rfl) (ct_X5_finesPaid (d := d + 8) (lst hX) h) (fun r29 w30 z31 h => ?_)
    refine vw_iload hX 5 dL_acts_938 rfl ?_
    refine vw_if_eq hX (tgt := 951) dL_acts_940 (by decide) (fun c32 => ?_) (fun c32 => ?_)
    · have h := h.1 c32
      refine vw_iload hX 6 dL_acts_951 rfl ?_
      exact vw_sub [0, 1, 2, 3, 4, 5] rfl (pB_L_acts_953 hX hE _ _ _ _ _ _ _ _ _ _ h)
    · have h := h.2 c32
      refine vw_iload hX 6 dL_acts_943 rfl ?_
      refine vw_iload hX 3 dL_acts_945 rfl ?_
      refine vw_iadd hX dL_acts_947 ?_
      refine vw_goto hX (tgt := 953) dL_acts_948 (by decide) ?_
      exact vw_sub [0, 1, 2, 3, 4, 5] rfl (pB_L_acts_953 hX hE _ _ _ _ _ _ _ _ _ _ h)
def B_L_acts_901 (a0 : Nat) (a1 : Nat) (Q : Int32 → Mm → Nat → Prop) (x5 : Int32) (x6 : Int32) (x7 : Int32) (x8 : Int32) (y0 : Int32) (w : Mm) (z : Nat) (mc : Nat) (ms : Nat) : Prop :=
  isO w a0 9 ∧ F_X5_finesPaid a0 w z (fun r34 w35 z36 => ∃ k40 k41, k40 ≤ mc ∧ k41 ≤ ms ∧ F_L_pay a0 x5 w35 z36 k40 k41 (fun r37 w38 z39 => (y0 = 0 → B_L_acts_931 a0 a1 Q x6 x7 x8 y0 r34 (-19) r37 w38 z39 ((mc - k40)) ((ms - k41))) ∧
  (¬ y0 = 0 → B_L_acts_931 a0 a1 Q x6 x7 x8 y0 r34 x7 r37 w38 z39 ((mc - k40)) ((ms - k41)))))
set_option maxRecDepth 100000 in
set_option maxHeartbeats 4000000 in
theorem pB_L_acts_901 {C : Cx} {d : Nat} {a0 : Nat} {a1 : Nat} {Q : Int32 → Mm → Nat → Prop} {X : String → Mm → Nat → Prop} (hX : CX C cL_acts RL 12 (some .boolean) [] (d + 9)) (hE : EQ C (rI Q) X) : ∀ (x5 : Int32) (x6 : Int32) (x7 : Int32) (x8 : Int32) (y0 : Int32) (w : Mm) (z mc ms : Nat), B_L_acts_901 a0 a1 Q x5 x6 x7 x8 y0 w z mc ms → VW C 901 [(0, .ref (a0)), (1, .ref (a1)), (5, .int (x5)), (6, .int (x6)), (7, .int (x7)), (8, .int (x8))] [.int (y0)] w z mc ms := by
  intro x5 x6 x7 x8 y0 w z mc ms h
  unfold B_L_acts_901 at h
  refine vw_istore hX dL_acts_901 (by decide) rfl ?_
  refine vw_aload_n hX 1 dL_acts_903 rfl ?_
  obtain ⟨hr33, h⟩ := h
  refine s_L_239 hX hr33 dL_acts_904 (Nat.le_of_ble_eq_true rfl) (ct_X5_finesPaid (d := d + 8) (lst hX) h) (fun r34 w35 z36 h => ?_)
  refine vw_istore hX dL_acts_907 (by decide) rfl ?_
  refine vw_aload_n hX 2 dL_acts_909 rfl ?_
  refine vw_iload hX 4 dL_acts_910 rfl ?_
  obtain ⟨k40, k41, hm1, hm2, h⟩ := h
  refine s_L_235 hX dL_acts_912 (Nat.le_of_ble_eq_true rfl) hm1 hm2 (ct_L_pay (d := d + 0) (lst hX) h) (fun r37 w38 z39 h => ?_)
  refine vw_istore hX dL_acts_915 (by decide) rfl ?_
  refine vw_iload hX 0 dL_acts_917 rfl ?_
  refine vw_iload hX 2 dL_acts_919 rfl ?_
  refine vw_if_eq hX (tgt := 929) dL_acts_921 (by decide) (fun c42 => ?_) (fun c42 => ?_)
  · have h := h.1 c42
    refine vw_bipush hX (v := (-19)) dL_acts_929 (by decide) ?_
    exact vw_sub [3, 4, 6, 7, 8, 2, 1] rfl (pB_L_acts_931 hX hE _ _ _ _ _ _ _ _ _ _ _ h)
  · have h := h.2 c42
    refine vw_iload hX 7 dL_acts_924 rfl ?_
    refine vw_goto hX (tgt := 931) dL_acts_926 (by decide) ?_
    exact vw_sub [3, 4, 6, 7, 8, 2, 1] rfl (pB_L_acts_931 hX hE _ _ _ _ _ _ _ _ _ _ _ h)
def B_L_acts_900 (a0 : Nat) (a1 : Nat) (Q : Int32 → Mm → Nat → Prop) (x5 : Int32) (x6 : Int32) (x7 : Int32) (x8 : Int32) (w : Mm) (z : Nat) (mc : Nat) (ms : Nat) : Prop :=
  B_L_acts_901 a0 a1 Q x5 x6 x7 x8 0 w z mc ms
set_option maxRecDepth 100000 in
set_option maxHeartbeats 4000000 in
theorem pB_L_acts_900 {C : Cx} {d : Nat} {a0 : Nat} {a1 : Nat} {Q : Int32 → Mm → Nat → Prop} {X : String → Mm → Nat → Prop} (hX : CX C cL_acts RL 12 (some .boolean) [] (d + 9)) (hE : EQ C (rI Q) X) : ∀ (x5 : Int32) (x6 : Int32) (x7 : Int32) (x8 : Int32) (w : Mm) (z mc ms : Nat), B_L_acts_900 a0 a1 Q x5 x6 x7 x8 w z mc ms → VW C 900 [(0, .ref (a0)), (1, .ref (a1)), (5, .int (x5)), (6, .int (x6)), (7, .int (x7)), (8, .int (x8))] [] w z mc ms := by
  intro x5 x6 x7 x8 w z mc ms h
  unfold B_L_acts_900 at h
  refine vw_iconst hX (v := 0) dL_acts_900 (by decide) ?_
  exact pB_L_acts_901 hX hE _ _ _ _ _ _ _ _ _ h
def B_L_acts_816 (a0 : Nat) (a1 : Nat) (Q : Int32 → Mm → Nat → Prop) (x4 : Int32) (w : Mm) (z : Nat) (mc : Nat) (ms : Nat) : Prop :=
  (¬ x4 = 0 → F_L_draw a1 x4 w z (fun r44 w45 z46 => ∃ k50 k51, k50 ≤ mc ∧ k51 ≤ ms ∧ F_L_casePassenger a0 r44 w45 z46 k50 k51 (fun r47 w48 z49 => ∃ k55 k56, k55 ≤ (mc - k50) ∧ k56 ≤ (ms - k51) ∧ F_L_amountDue a0 r44 w48 z49 k55 k56 (fun r52 w53 z54 => ∃ k60 k61, k60 ≤ ((mc - k50) - k55) ∧ k61 ≤ ((ms - k51) - k56) ∧ F_L_money a0 r47 w53 z54 k60 k61 (fun r57 w58 z59 => ∃ k65 k66, k65 ≤ (((mc - k50) - k55) - k60) ∧ k66 ≤ (((ms - k51) - k56) - k61) ∧ F_L_caseState a0 r44 w58 z59 k65 k66 (fun r62 w63 z64 => (r62 = 1 → B_L_acts_900 a0 a1 Q r44 r47 r52 r57 w63 z64 (((((mc - k50) - k55) - k60) - k65)) (((((ms - k51) - k56) - k61) - k66))) ∧
  (¬ r62 = 1 → ∃ k71 k72, k71 ≤ ((((mc - k50) - k55) - k60) - k65) ∧ k72 ≤ ((((ms - k51) - k56) - k61) - k66) ∧ F_L_caseState a0 r44 w63 z64 k71 k72 (fun r68 w69 z70 => (r68 = 4 → B_L_acts_900 a0 a1 Q r44 r47 r52 r57 w69 z70 ((((((mc - k50) - k55) - k60) - k65) - k71)) ((((((ms - k51) - k56) - k61) - k66) - k72))) ∧
  (¬ r68 = 4 → (r57 < r52 → B_L_acts_900 a0 a1 Q r44 r47 r52 r57 w69 z70 ((((((mc - k50) - k55) - k60) - k65) - k71)) ((((((ms - k51) - k56) - k61) - k66) - k72))) ∧
  (¬ r57 < r52 → B_L_acts_901 a0 a1 Q r44 r47 r52 r57 1 w69 z70 ((((((mc - k50) - k55) - k60) - k65) - k71)) ((((((ms - k51) - k56) - k61) - k66) - k72)))))))))))) ∧
  (x4 = 0 → ∃ k78 k79, k78 ≤ mc ∧ k79 ≤ ms ∧ F_L_pay a0 0 w z k78 k79 (fun r75 w76 z77 => (¬ r75 = (-17) → Q 0 w76 z77) ∧
  (r75 = (-17) → Q 1 w76 z77)))
set_option maxRecDepth 100000 in
set_option maxHeartbeats 4000000 in
theorem pB_L_acts_816 {C : Cx} {d : Nat} {a0 : Nat} {a1 : Nat} {Q : Int32 → Mm → Nat → Prop} {X : String → Mm → Nat → Prop} (hX : CX C cL_acts RL 12 (some .boolean) [] (d + 9)) (hE : EQ C (rI Q) X) : ∀ (x4 : Int32) (w : Mm) (z mc ms : Nat), B_L_acts_816 a0 a1 Q x4 w z mc ms → VW C 816 [(0, .ref (a0)), (1, .ref (a1)), (4, .int (x4))] [] w z mc ms := by
  intro x4 w z mc ms h
  unfold B_L_acts_816 at h
  refine vw_iload hX 2 dL_acts_816 rfl ?_
  refine vw_if_ne hX (tgt := 837) dL_acts_818 (by decide) (fun c43 => ?_) (fun c43 => ?_)
  · have h := h.1 c43
    refine vw_aload_n hX 1 dL_acts_837 rfl ?_
    refine vw_iload hX 2 dL_acts_838 rfl ?_
    refine s_L_206 hX dL_acts_840 (Nat.le_of_ble_eq_true rfl) (ct_L_draw (d := d + 8) (lst hX) h) (fun r44 w45 z46 h => ?_)
    refine vw_istore hX dL_acts_843 (by decide) rfl ?_
    refine vw_aload_n hX 1 dL_acts_845 rfl ?_
    refine vw_iload hX 0 dL_acts_846 rfl ?_
    obtain ⟨k50, k51, hm1, hm2, h⟩ := h
    refine s_L_169 hX dL_acts_848 (Nat.le_of_ble_eq_true rfl) hm1 hm2 (ct_L_casePassenger (d := d + 0) (lst hX) h) (fun r47 w48 z49 h => ?_)
    refine vw_istore hX dL_acts_851 (by decide) rfl ?_
    refine vw_aload_n hX 2 dL_acts_853 rfl ?_
    refine vw_iload hX 1 dL_acts_854 rfl ?_
    obtain ⟨k55, k56, hm1, hm2, h⟩ := h
    refine s_L_171 hX dL_acts_856 (Nat.le_of_ble_eq_true rfl) hm1 hm2 (ct_L_amountDue (d := d + 0) (lst hX) h) (fun r52 w53 z54 h => ?_)
    refine vw_istore hX dL_acts_859 (by decide) rfl ?_
    refine vw_aload_n hX 3 dL_acts_861 rfl ?_
    refine vw_iload hX 1 dL_acts_862 rfl ?_
    obtain ⟨k60, k61, hm1, hm2, h⟩ := h
    refine s_L_175 hX dL_acts_864 (Nat.le_of_ble_eq_true rfl) hm1 hm2 (ct_L_money (d := d + 0) (lst hX) h) (fun r57 w58 z59 h => ?_)
    refine vw_istore hX dL_acts_867 (by decide) rfl ?_
    refine vw_aload_n hX 4 dL_acts_869 rfl ?_
    refine vw_iload hX 3 dL_acts_870 rfl ?_
    obtain ⟨k65, k66, hm1, hm2, h⟩ := h
    refine s_L_173 hX dL_acts_872 (Nat.le_of_ble_eq_true rfl) hm1 hm2 (ct_L_caseState (d := d + 0) (lst hX) h) (fun r62 w63 z64 h => ?_)
    refine vw_iconst hX (v := 1) dL_acts_875 (by decide) ?_
    refine vw_icmp_eq hX (tgt := 900) dL_acts_876 (by decide) (fun c67 => ?_) (fun c67 => ?_)
    · have h := h.1 c67
      exact vw_sub [4, 5, 3, 2, 1, 0] rfl (pB_L_acts_900 hX hE _ _ _ _ _ _ _ _ h)
    · have h := h.2 c67
      refine vw_aload_n hX 4 dL_acts_879 rfl ?_
      refine vw_iload hX 3 dL_acts_880 rfl ?_
      obtain ⟨k71, k72, hm1, hm2, h⟩ := h
      refine s_L_173 hX dL_acts_882 (Nat.le_of_ble_eq_true rfl) hm1 hm2 (ct_L_caseState (d := d + 0) (lst hX) h) (fun r68 w69 z70 h => ?_)
      refine vw_iconst hX (v := 4) dL_acts_885 (by decide) ?_
      refine vw_icmp_eq hX (tgt := 900) dL_acts_886 (by decide) (fun c73 => ?_) (fun c73 => ?_)
      · have h := h.1 c73
        exact vw_sub [4, 5, 3, 2, 1, 0] rfl (pB_L_acts_900 hX hE _ _ _ _ _ _ _ _ h)
      · have h := h.2 c73
        refine vw_iload hX 1 dL_acts_889 rfl ?_
        refine vw_iload hX 0 dL_acts_891 rfl ?_
        refine vw_icmp_gt hX (tgt := 900) dL_acts_893 (by decide) (fun c74 => ?_) (fun c74 => ?_)
        · have h := h.1 c74
          exact vw_sub [4, 5, 3, 2, 1, 0] rfl (pB_L_acts_900 hX hE _ _ _ _ _ _ _ _ h)
        · have h := h.2 c74
          refine vw_iconst hX (v := 1) dL_acts_896 (by decide) ?_
          refine vw_goto hX (tgt := 901) dL_acts_897 (by decide) ?_
          exact vw_sub [4, 5, 3, 2, 1, 0] rfl (pB_L_acts_901 hX hE _ _ _ _ _ _ _ _ _ h)
  · have h := h.2 c43
    refine vw_aload_n hX 0 dL_acts_821 rfl ?_
    refine vw_iconst hX (v := 0) dL_acts_822 (by decide) ?_
    obtain ⟨k78, k79, hm1, hm2, h⟩ := h
    refine s_L_235 hX dL_acts_823 (Nat.le_of_ble_eq_true rfl) hm1 hm2 (ct_L_pay (d := d + 0) (lst hX) h) (fun r75 w76 z77 h => ?_)
    refine vw_bipush hX (v := (-17)) dL_acts_826 (by decide) ?_
    refine vw_icmp_ne hX (tgt := 835) dL_acts_828 (by decide) (fun c80 => ?_) (fun c80 => ?_)
    · have h := h.1 c80
      refine vw_iconst hX (v := 0) dL_acts_835 (by decide) ?_
      exact vw_zret hX hE dL_acts_836 rfl ⟨_, rfl, h⟩
    · have h := h.2 c80
      refine vw_iconst hX (v := 1) dL_acts_831 (by decide) ?_
      refine vw_goto hX (tgt := 836) dL_acts_832 (by decide) ?_
      exact vw_zret hX hE dL_acts_836 rfl ⟨_, rfl, h⟩
def B_L_acts_713 (a0 : Nat) (a1 : Nat) (Q : Int32 → Mm → Nat → Prop) (x5 : Int32) (x6 : Int32) (y0 : Int32) (w : Mm) (z : Nat) (mc : Nat) (ms : Nat) : Prop :=
  ∃ k84 k85, k84 ≤ mc ∧ k85 ≤ ms ∧ F_L_outlook a0 x5 x6 w z k84 k85 (fun r81 w82 z83 => ∃ k89 k90, k89 ≤ (mc - k84) ∧ k90 ≤ (ms - k85) ∧ F_L_appeal a0 x5 x6 w82 z83 k89 k90 (fun r86 w87 z88 => (¬ y0 = 0 → (r86 < 1 → Q 0 w87 z88) ∧
  (¬ r86 < 1 → ∃ k96 k97, k96 ≤ ((mc - k84) - k89) ∧ k97 ≤ ((ms - k85) - k90) ∧ F_L_caseState a0 x5 w87 z88 k96 k97 (fun r93 w94 z95 => (¬ r93 = 1 → Q 0 w94 z95) ∧
  (r93 = 1 → ∃ k102 k103, k102 ≤ (((mc - k84) - k89) - k96) ∧ k103 ≤ (((ms - k85) - k90) - k97) ∧ F_L_pay a0 x5 w94 z95 k102 k103 (fun r99 w100 z101 => (¬ r99 = (-19) → Q 0 w100 z101) ∧
  (r99 = (-19) → F_L_draw a1 3 w100 z101 (fun r105 w106 z107 => (r105 = 0 → Q 1 w106 z107) ∧
  (¬ r105 = 0 → ∃ k112 k113, k112 ≤ ((((mc - k84) - k89) - k96) - k102) ∧ k113 ≤ ((((ms - k85) - k90) - k97) - k103) ∧ F_L_decide a0 x5 w106 z107 k112 k113 (fun r109 w110 z111 => (¬ r109 = r81 → Q 0 w110 z111) ∧
  (r109 = r81 → ∃ k118 k119, k118 ≤ (((((mc - k84) - k89) - k96) - k102) - k112) ∧ k119 ≤ (((((ms - k85) - k90) - k97) - k103) - k113) ∧ F_L_decide a0 x5 w110 z111 k118 k119 (fun r115 w116 z117 => (¬ r115 = (-19) → Q 0 w116 z117) ∧
  (r115 = (-19) → Q 1 w116 z117)))))))))))) ∧
  (y0 = 0 → (¬ r86 = (-19) → Q 0 w87 z88) ∧
  (r86 = (-19) → Q 1 w87 z88))))
set_option maxRecDepth 100000 in
set_option maxHeartbeats 4000000 in
theorem pB_L_acts_713 {C : Cx} {d : Nat} {a0 : Nat} {a1 : Nat} {Q : Int32 → Mm → Nat → Prop} {X : String → Mm → Nat → Prop} (hX : CX C cL_acts RL 12 (some .boolean) [] (d + 9)) (hE : EQ C (rI Q) X) : ∀ (x5 : Int32) (x6 : Int32) (y0 : Int32) (w : Mm) (z mc ms : Nat), B_L_acts_713 a0 a1 Q x5 x6 y0 w z mc ms → VW C 713 [(0, .ref (a0)), (1, .ref (a1)), (5, .int (x5)), (6, .int (x6))] [.int (y0)] w z mc ms := by
  intro x5 x6 y0 w z mc ms h
  unfold B_L_acts_713 at h
  refine vw_istore hX dL_acts_713 (by decide) rfl ?_
  refine vw_aload_n hX 1 dL_acts_715 rfl ?_
  refine vw_iload hX 3 dL_acts_716 rfl ?_
  refine vw_iload hX 4 dL_acts_718 rfl ?_
  obtain ⟨k84, k85, hm1, hm2, h⟩ := h
  refine s_L_233 hX dL_acts_720 (Nat.le_of_ble_eq_true rfl) hm1 hm2 (ct_L_outlook (d := d + 0) (lst hX) h) (fun r81 w82 z83 h => ?_)
  refine vw_istore hX dL_acts_723 (by decide) rfl ?_
  refine vw_aload_n hX 2 dL_acts_725 rfl ?_
  refine vw_iload hX 4 dL_acts_726 rfl ?_
  refine vw_iload hX 5 dL_acts_728 rfl ?_
  obtain ⟨k89, k90, hm1, hm2, h⟩ := h
  refine s_L_231 hX dL_acts_730 (Nat.le_of_ble_eq_true rfl) hm1 hm2 (ct_L_appeal (d := d + 0) (lst hX) h) (fun r86 w87 z88 h => ?_)
  refine vw_istore hX dL_acts_733 (by decide) rfl ?_
  refine vw_iload hX 2 dL_acts_735 rfl ?_
  refine vw_if_ne hX (tgt := 753) dL_acts_737 (by decide) (fun c91 => ?_) (fun c91 => ?_)
  · have h := h.1 c91
    refine vw_iload hX 0 dL_acts_753 rfl ?_
    refine vw_iconst hX (v := 1) dL_acts_755 (by decide) ?_
    refine vw_icmp_lt hX (tgt := 814) dL_acts_756 (by decide) (fun c92 => ?_) (fun c92 => ?_)
    · have h := h.1 c92
      refine vw_iconst hX (v := 0) dL_acts_814 (by decide) ?_
      exact vw_zret hX hE dL_acts_815 rfl ⟨_, rfl, h⟩
    · have h := h.2 c92
      refine vw_aload_n hX 3 dL_acts_759 rfl ?_
      refine vw_iload hX 5 dL_acts_760 rfl ?_
      obtain ⟨k96, k97, hm1, hm2, h⟩ := h
      refine s_L_173 hX dL_acts_762 (Nat.le_of_ble_eq_true rfl) hm1 hm2 (ct_L_caseState (d := d + 0) (lst hX) h) (fun r93 w94 z95 h => ?_)
      refine vw_iconst hX (v := 1) dL_acts_765 (by decide) ?_
      refine vw_icmp_ne hX (tgt := 814) dL_acts_766 (by decide) (fun c98 => ?_) (fun c98 => ?_)
      · have h := h.1 c98
        refine vw_iconst hX (v := 0) dL_acts_814 (by decide) ?_
        exact vw_zret hX hE dL_acts_815 rfl ⟨_, rfl, h⟩
      · have h := h.2 c98
        refine vw_aload_n hX 3 dL_acts_769 rfl ?_
        refine vw_iload hX 5 dL_acts_770 rfl ?_
        obtain ⟨k102, k103, hm1, hm2, h⟩ := h
        refine s_L_235 hX dL_acts_772 (Nat.le_of_ble_eq_true rfl) hm1 hm2 (ct_L_pay (d := d + 0) (lst hX) h) (fun r99 w100 z101 h => ?_)
        refine vw_bipush hX (v := (-19)) dL_acts_775 (by decide) ?_
        refine vw_icmp_ne hX (tgt := 814) dL_acts_777 (by decide) (fun c104 => ?_) (fun c104 => ?_)
        · have h := h.1 c104
          refine vw_iconst hX (v := 0) dL_acts_814 (by decide) ?_
          exact vw_zret hX hE dL_acts_815 rfl ⟨_, rfl, h⟩
        · have h := h.2 c104
          refine vw_aload_n hX 4 dL_acts_780 rfl ?_
          refine vw_iconst hX (v := 3) dL_acts_781 (by decide) ?_
          refine s_L_206 hX dL_acts_782 (Nat.le_of_ble_eq_true rfl) (ct_L_draw (d := d + 8) (lst hX) h) (fun r105 w106 z107 h => ?_)
          refine vw_if_eq hX (tgt := 810) dL_acts_785 (by decide) (fun c108 => ?_) (fun c108 => ?_)
          · have h := h.1 c108
            refine vw_iconst hX (v := 1) dL_acts_810 (by decide) ?_
            refine vw_goto hX (tgt := 815) dL_acts_811 (by decide) ?_
            exact vw_zret hX hE dL_acts_815 rfl ⟨_, rfl, h⟩
          · have h := h.2 c108
            refine vw_aload_n hX 3 dL_acts_788 rfl ?_
            refine vw_iload hX 5 dL_acts_789 rfl ?_
            obtain ⟨k112, k113, hm1, hm2, h⟩ := h
            refine s_L_237 hX dL_acts_791 (Nat.le_of_ble_eq_true rfl) hm1 hm2 (ct_L_decide (d := d + 0) (lst hX) h) (fun r109 w110 z111 h => ?_)
            refine vw_iload hX 1 dL_acts_794 rfl ?_
            refine vw_icmp_ne hX (tgt := 814) dL_acts_796 (by decide) (fun c114 => ?_) (fun c114 => ?_)
            · have h := h.1 c114
              refine vw_iconst hX (v := 0) dL_acts_814 (by decide) ?_
              exact vw_zret hX hE dL_acts_815 rfl ⟨_, rfl, h⟩
            · have h := h.2 c114
              refine vw_aload_n hX 3 dL_acts_799 rfl ?_
              refine vw_iload hX 5 dL_acts_800 rfl ?_
              obtain ⟨k118, k119, hm1, hm2, h⟩ := h
              refine s_L_237 hX dL_acts_802 (Nat.le_of_ble_eq_true rfl) hm1 hm2 (ct_L_decide (d := d + 0) (lst hX) h) (fun r115 w116 z117 h => ?_)
              refine vw_bipush hX (v := (-19)) dL_acts_805 (by decide) ?_
              refine vw_icmp_ne hX (tgt := 814) dL_acts_807 (by decide) (fun c120 => ?_) (fun c120 => ?_)
              · have h := h.1 c120
                refine vw_iconst hX (v := 0) dL_acts_814 (by decide) ?_
                exact vw_zret hX hE dL_acts_815 rfl ⟨_, rfl, h⟩
              · have h := h.2 c120
                refine vw_iconst hX (v := 1) dL_acts_810 (by decide) ?_
                refine vw_goto hX (tgt := 815) dL_acts_811 (by decide) ?_
                exact vw_zret hX hE dL_acts_815 rfl ⟨_, rfl, h⟩
  · have h := h.2 c91
    refine vw_iload hX 0 dL_acts_740 rfl ?_
    refine vw_bipush hX (v := (-19)) dL_acts_742 (by decide) ?_
    refine vw_icmp_ne hX (tgt := 751) dL_acts_744 (by decide) (fun c121 => ?_) (fun c121 => ?_)
    · have h := h.1 c121
      refine vw_iconst hX (v := 0) dL_acts_751 (by decide) ?_
      exact vw_zret hX hE dL_acts_752 rfl ⟨_, rfl, h⟩
    · have h := h.2 c121
      refine vw_iconst hX (v := 1) dL_acts_747 (by decide) ?_
      refine vw_goto hX (tgt := 752) dL_acts_748 (by decide) ?_
      exact vw_zret hX hE dL_acts_752 rfl ⟨_, rfl, h⟩
def B_L_acts_712 (a0 : Nat) (a1 : Nat) (Q : Int32 → Mm → Nat → Prop) (x5 : Int32) (x6 : Int32) (w : Mm) (z : Nat) (mc : Nat) (ms : Nat) : Prop :=
  B_L_acts_713 a0 a1 Q x5 x6 0 w z mc ms
set_option maxRecDepth 100000 in
set_option maxHeartbeats 4000000 in
theorem pB_L_acts_712 {C : Cx} {d : Nat} {a0 : Nat} {a1 : Nat} {Q : Int32 → Mm → Nat → Prop} {X : String → Mm → Nat → Prop} (hX : CX C cL_acts RL 12 (some .boolean) [] (d + 9)) (hE : EQ C (rI Q) X) : ∀ (x5 : Int32) (x6 : Int32) (w : Mm) (z mc ms : Nat), B_L_acts_712 a0 a1 Q x5 x6 w z mc ms → VW C 712 [(0, .ref (a0)), (1, .ref (a1)), (5, .int (x5)), (6, .int (x6))] [] w z mc ms := by
  intro x5 x6 w z mc ms h
  unfold B_L_acts_712 at h
  refine vw_iconst hX (v := 0) dL_acts_712 (by decide) ?_
  exact pB_L_acts_713 hX hE _ _ _ _ _ _ _ h
def B_L_acts_657 (a0 : Nat) (a1 : Nat) (Q : Int32 → Mm → Nat → Prop) (x4 : Int32) (w : Mm) (z : Nat) (mc : Nat) (ms : Nat) : Prop :=
  ∃ k125 k126, k125 ≤ mc ∧ k126 ≤ ms ∧ F_L_appeal a0 x4 0 w z k125 k126 (fun r122 w123 z124 => (¬ r122 = (-17) → Q 0 w123 z124) ∧
  (r122 = (-17) → Q 1 w123 z124))
set_option maxRecDepth 100000 in
set_option maxHeartbeats 4000000 in
theorem pB_L_acts_657 {C : Cx} {d : Nat} {a0 : Nat} {a1 : Nat} {Q : Int32 → Mm → Nat → Prop} {X : String → Mm → Nat → Prop} (hX : CX C cL_acts RL 12 (some .boolean) [] (d + 9)) (hE : EQ C (rI Q) X) : ∀ (x4 : Int32) (w : Mm) (z mc ms : Nat), B_L_acts_657 a0 a1 Q x4 w z mc ms → VW C 657 [(0, .ref (a0)), (1, .ref (a1)), (4, .int (x4))] [] w z mc ms := by
  intro x4 w z mc ms h
  unfold B_L_acts_657 at h
  refine vw_aload_n hX 0 dL_acts_657 rfl ?_
  refine vw_iload hX 2 dL_acts_658 rfl ?_
  refine vw_iconst hX (v := 0) dL_acts_660 (by decide) ?_
  obtain ⟨k125, k126, hm1, hm2, h⟩ := h
  refine s_L_231 hX dL_acts_661 (Nat.le_of_ble_eq_true rfl) hm1 hm2 (ct_L_appeal (d := d + 0) (lst hX) h) (fun r122 w123 z124 h => ?_)
  refine vw_bipush hX (v := (-17)) dL_acts_664 (by decide) ?_
  refine vw_icmp_ne hX (tgt := 673) dL_acts_666 (by decide) (fun c127 => ?_) (fun c127 => ?_)
  · have h := h.1 c127
    refine vw_iconst hX (v := 0) dL_acts_673 (by decide) ?_
    exact vw_zret hX hE dL_acts_674 rfl ⟨_, rfl, h⟩
  · have h := h.2 c127
    refine vw_iconst hX (v := 1) dL_acts_669 (by decide) ?_
    refine vw_goto hX (tgt := 674) dL_acts_670 (by decide) ?_
    exact vw_zret hX hE dL_acts_674 rfl ⟨_, rfl, h⟩
def B_L_acts_648 (a0 : Nat) (a1 : Nat) (Q : Int32 → Mm → Nat → Prop) (x3 : Int32) (x4 : Int32) (w : Mm) (z : Nat) (mc : Nat) (ms : Nat) : Prop :=
  (x4 = 0 → B_L_acts_657 a0 a1 Q x4 w z mc ms) ∧
  (¬ x4 = 0 → (¬ x3 = 0 → F_L_draw a1 x4 w z (fun r130 w131 z132 => F_L_draw a1 x3 w131 z132 (fun r133 w134 z135 => ∃ k139 k140, k139 ≤ mc ∧ k140 ≤ ms ∧ F_L_caseState a0 r130 w134 z135 k139 k140 (fun r136 w137 z138 => (¬ r136 = 0 → B_L_acts_712 a0 a1 Q r130 r133 w137 z138 ((mc - k139)) ((ms - k140))) ∧
  (r136 = 0 → ∃ k145 k146, k145 ≤ (mc - k139) ∧ k146 ≤ (ms - k140) ∧ F_L_isOverdue a0 r130 w137 z138 k145 k146 (fun r142 w143 z144 => (¬ r142 = 0 → B_L_acts_712 a0 a1 Q r130 r133 w143 z144 (((mc - k139) - k145)) (((ms - k140) - k146))) ∧
  (r142 = 0 → B_L_acts_713 a0 a1 Q r130 r133 1 w143 z144 (((mc - k139) - k145)) (((ms - k140) - k146))))))))) ∧
  (x3 = 0 → B_L_acts_657 a0 a1 Q x4 w z mc ms))
set_option maxRecDepth 100000 in
set_option maxHeartbeats 4000000 in
theorem pB_L_acts_648 {C : Cx} {d : Nat} {a0 : Nat} {a1 : Nat} {Q : Int32 → Mm → Nat → Prop} {X : String → Mm → Nat → Prop} (hX : CX C cL_acts RL 12 (some .boolean) [] (d + 9)) (hE : EQ C (rI Q) X) : ∀ (x3 : Int32) (x4 : Int32) (w : Mm) (z mc ms : Nat), B_L_acts_648 a0 a1 Q x3 x4 w z mc ms → VW C 648 [(0, .ref (a0)), (1, .ref (a1)), (3, .int (x3)), (4, .int (x4))] [] w z mc ms := by
  intro x3 x4 w z mc ms h
  unfold B_L_acts_648 at h
  refine vw_iload hX 3 dL_acts_648 rfl ?_
  refine vw_if_eq hX (tgt := 657) dL_acts_650 (by decide) (fun c128 => ?_) (fun c128 => ?_)
  · have h := h.1 c128
    exact vw_sub [0, 1, 3] rfl (pB_L_acts_657 hX hE _ _ _ _ _ h)
  · have h := h.2 c128
    refine vw_iload_n hX 2 dL_acts_653 rfl ?_
    refine vw_if_ne hX (tgt := 675) dL_acts_654 (by decide) (fun c129 => ?_) (fun c129 => ?_)
    · have h := h.1 c129
      refine vw_aload_n hX 1 dL_acts_675 rfl ?_
      refine vw_iload hX 3 dL_acts_676 rfl ?_
      refine s_L_206 hX dL_acts_678 (Nat.le_of_ble_eq_true rfl) (ct_L_draw (d := d + 8) (lst hX) h) (fun r130 w131 z132 h => ?_)
      refine vw_istore hX dL_acts_681 (by decide) rfl ?_
      refine vw_aload_n hX 2 dL_acts_683 rfl ?_
      refine vw_iload_n hX 3 dL_acts_684 rfl ?_
      refine s_L_206 hX dL_acts_685 (Nat.le_of_ble_eq_true rfl) (ct_L_draw (d := d + 8) (lst hX) h) (fun r133 w134 z135 h => ?_)
      refine vw_istore hX dL_acts_688 (by decide) rfl ?_
      refine vw_aload_n hX 2 dL_acts_690 rfl ?_
      refine vw_iload hX 1 dL_acts_691 rfl ?_
      obtain ⟨k139, k140, hm1, hm2, h⟩ := h
      refine s_L_173 hX dL_acts_693 (Nat.le_of_ble_eq_true rfl) hm1 hm2 (ct_L_caseState (d := d + 0) (lst hX) h) (fun r136 w137 z138 h => ?_)
      refine vw_if_ne hX (tgt := 712) dL_acts_696 (by decide) (fun c141 => ?_) (fun c141 => ?_)
      · have h := h.1 c141
        exact vw_sub [2, 3, 1, 0] rfl (pB_L_acts_712 hX hE _ _ _ _ _ _ h)
      · have h := h.2 c141
        refine vw_aload_n hX 2 dL_acts_699 rfl ?_
        refine vw_iload hX 1 dL_acts_700 rfl ?_
        obtain ⟨k145, k146, hm1, hm2, h⟩ := h
        refine s_L_191 hX dL_acts_702 (Nat.le_of_ble_eq_true rfl) hm1 hm2 (ct_L_isOverdue (d := d + 0) (lst hX) h) (fun r142 w143 z144 h => ?_)
        refine vw_if_ne hX (tgt := 712) dL_acts_705 (by decide) (fun c147 => ?_) (fun c147 => ?_)
        · have h := h.1 c147
          exact vw_sub [2, 3, 1, 0] rfl (pB_L_acts_712 hX hE _ _ _ _ _ _ h)
        · have h := h.2 c147
          refine vw_iconst hX (v := 1) dL_acts_708 (by decide) ?_
          refine vw_goto hX (tgt := 713) dL_acts_709 (by decide) ?_
          exact vw_sub [2, 3, 1, 0] rfl (pB_L_acts_713 hX hE _ _ _ _ _ _ _ h)
    · have h := h.2 c129
      exact vw_sub [0, 1, 3] rfl (pB_L_acts_657 hX hE _ _ _ _ _ h)
def B_L_acts_632 (a0 : Nat) (a1 : Nat) (Q : Int32 → Mm → Nat → Prop) (x2 : Int32) (w : Mm) (z : Nat) (mc : Nat) (ms : Nat) : Prop :=
  ∃ k151 k152, k151 ≤ mc ∧ k152 ≤ ms ∧ F_L_inspect a0 x2 w z k151 k152 (fun r148 w149 z150 => (¬ r148 = (-19) → Q 0 w149 z150) ∧
  (r148 = (-19) → Q 1 w149 z150))
set_option maxRecDepth 100000 in
set_option maxHeartbeats 4000000 in
theorem pB_L_acts_632 {C : Cx} {d : Nat} {a0 : Nat} {a1 : Nat} {Q : Int32 → Mm → Nat → Prop} {X : String → Mm → Nat → Prop} (hX : CX C cL_acts RL 12 (some .boolean) [] (d + 9)) (hE : EQ C (rI Q) X) : ∀ (x2 : Int32) (w : Mm) (z mc ms : Nat), B_L_acts_632 a0 a1 Q x2 w z mc ms → VW C 632 [(0, .ref (a0)), (1, .ref (a1)), (2, .int (x2))] [] w z mc ms := by
  intro x2 w z mc ms h
  unfold B_L_acts_632 at h
  refine vw_aload_n hX 0 dL_acts_632 rfl ?_
  refine vw_iload_n hX 2 dL_acts_633 rfl ?_
  obtain ⟨k151, k152, hm1, hm2, h⟩ := h
  refine s_L_229 hX dL_acts_634 (Nat.le_of_ble_eq_true rfl) hm1 hm2 (ct_L_inspect (d := d + 0) (lst hX) h) (fun r148 w149 z150 h => ?_)
  refine vw_bipush hX (v := (-19)) dL_acts_637 (by decide) ?_
  refine vw_icmp_ne hX (tgt := 646) dL_acts_639 (by decide) (fun c153 => ?_) (fun c153 => ?_)
  · have h := h.1 c153
    refine vw_iconst hX (v := 0) dL_acts_646 (by decide) ?_
    exact vw_zret hX hE dL_acts_647 rfl ⟨_, rfl, h⟩
  · have h := h.2 c153
    refine vw_iconst hX (v := 1) dL_acts_642 (by decide) ?_
    refine vw_goto hX (tgt := 647) dL_acts_643 (by decide) ?_
    exact vw_zret hX hE dL_acts_647 rfl ⟨_, rfl, h⟩
def B_L_acts_591 (a0 : Nat) (a1 : Nat) (Q : Int32 → Mm → Nat → Prop) (x2 : Int32) (x4 : Int32) (x6 : Int32) (y0 : Int32) (y1 : Int32) (w : Mm) (z : Nat) (mc : Nat) (ms : Nat) : Prop :=
  (¬ y1 = y0 → Q 0 w z) ∧
  (y1 = y0 → (x6 = 0 → B_L_acts_632 a0 a1 Q x2 w z mc ms) ∧
  (¬ x6 = 0 → ∃ k159 k160, k159 ≤ mc ∧ k160 ≤ ms ∧ F_L_caseFault a0 x4 w z k159 k160 (fun r156 w157 z158 => (¬ r156 = x6 → Q 0 w157 z158) ∧
  (r156 = x6 → ∃ k165 k166, k165 ≤ (mc - k159) ∧ k166 ≤ (ms - k160) ∧ F_L_caseTime a0 x4 w157 z158 k165 k166 (fun r162 w163 z164 => isO w163 a0 9 ∧ F_X5_clock a0 w163 z164 (fun r168 w169 z170 => (¬ r162 = r168 → Q 0 w169 z170) ∧
  (r162 = r168 → ∃ k175 k176, k175 ≤ ((mc - k159) - k165) ∧ k176 ≤ ((ms - k160) - k166) ∧ F_L_caseState a0 x4 w169 z170 k175 k176 (fun r172 w173 z174 => (¬ r172 = 0 → Q 0 w173 z174) ∧
  (r172 = 0 → B_L_acts_632 a0 a1 Q x2 w173 z174 ((((mc - k159) - k165) - k175)) ((((ms - k160) - k166) - k176)))))))))))
set_option maxRecDepth 100000 in
set_option maxHeartbeats 4000000 in
theorem pB_L_acts_591 {C : Cx} {d : Nat} {a0 : Nat} {a1 : Nat} {Q : Int32 → Mm → Nat → Prop} {X : String → Mm → Nat → Prop} (hX : CX C cL_acts RL 12 (some .boolean) [] (d + 9)) (hE : EQ C (rI Q) X) : ∀ (x2 : Int32) (x4 : Int32) (x6 : Int32) (y0 : Int32) (y1 : Int32) (w : Mm) (z mc ms : Nat), B_L_acts_591 a0 a1 Q x2 x4 x6 y0 y1 w z mc ms → VW C 591 [(0, .ref (a0)), (1, .ref (a1)), (2, .int (x2)), (4, .int (x4)), (6, .int (x6))] [.int (y0), .int (y1)] w z mc ms := by
  intro x2 x4 x6 y0 y1 w z mc ms h
  unfold B_L_acts_591 at h
  refine vw_icmp_ne hX (tgt := 646) dL_acts_591 (by decide) (fun c154 => ?_) (fun c154 => ?_)
  · have h := h.1 c154
    refine vw_iconst hX (v := 0) dL_acts_646 (by decide) ?_
    exact vw_zret hX hE dL_acts_647 rfl ⟨_, rfl, h⟩
  · have h := h.2 c154
    refine vw_iload hX 4 dL_acts_594 rfl ?_
    refine vw_if_eq hX (tgt := 632) dL_acts_596 (by decide) (fun c155 => ?_) (fun c155 => ?_)
    · have h := h.1 c155
      exact vw_sub [0, 1, 2] rfl (pB_L_acts_632 hX hE _ _ _ _ _ h)
    · have h := h.2 c155
      refine vw_aload_n hX 0 dL_acts_599 rfl ?_
      refine vw_iload hX 3 dL_acts_600 rfl ?_
      obtain ⟨k159, k160, hm1, hm2, h⟩ := h
      refine s_L_193 hX dL_acts_602 (Nat.le_of_ble_eq_true rfl) hm1 hm2 (ct_L_caseFault (d := d + 0) (lst hX) h) (fun r156 w157 z158 h => ?_)
      refine vw_iload hX 4 dL_acts_605 rfl ?_
      refine vw_icmp_ne hX (tgt := 646) dL_acts_607 (by decide) (fun c161 => ?_) (fun c161 => ?_)
      · have h := h.1 c161
        refine vw_iconst hX (v := 0) dL_acts_646 (by decide) ?_
        exact vw_zret hX hE dL_acts_647 rfl ⟨_, rfl, h⟩
      · have h := h.2 c161
        refine vw_aload_n hX 0 dL_acts_610 rfl ?_
        refine vw_iload hX 3 dL_acts_611 rfl ?_
        obtain ⟨k165, k166, hm1, hm2, h⟩ := h
        refine s_L_189 hX dL_acts_613 (Nat.le_of_ble_eq_true rfl) hm1 hm2 (ct_L_caseTime (d := d + 0) (lst hX) h) (fun r162 w163 z164 h => ?_)
        refine vw_aload_n hX 0 dL_acts_616 rfl ?_
        obtain ⟨hr167, h⟩ := h
        refine s_L_152 hX hr167 dL_acts_617 (Nat.le_of_ble_eq_true rfl) (ct_X5_clock (d := d + 8) (lst hX) h) (fun r168 w169 z170 h => ?_)
        refine vw_icmp_ne hX (tgt := 646) dL_acts_620 (by decide) (fun c171 => ?_) (fun c171 => ?_)
        · have h := h.1 c171
          refine vw_iconst hX (v := 0) dL_acts_646 (by decide) ?_
          exact vw_zret hX hE dL_acts_647 rfl ⟨_, rfl, h⟩
        · have h := h.2 c171
          refine vw_aload_n hX 0 dL_acts_623 rfl ?_
          refine vw_iload hX 3 dL_acts_624 rfl ?_
          obtain ⟨k175, k176, hm1, hm2, h⟩ := h
          refine s_L_173 hX dL_acts_626 (Nat.le_of_ble_eq_true rfl) hm1 hm2 (ct_L_caseState (d := d + 0) (lst hX) h) (fun r172 w173 z174 h => ?_)
          refine vw_if_ne hX (tgt := 646) dL_acts_629 (by decide) (fun c177 => ?_) (fun c177 => ?_)
          · have h := h.1 c177
            refine vw_iconst hX (v := 0) dL_acts_646 (by decide) ?_
            exact vw_zret hX hE dL_acts_647 rfl ⟨_, rfl, h⟩
          · have h := h.2 c177
            exact vw_sub [0, 1, 2] rfl (pB_L_acts_632 hX hE _ _ _ _ _ h)
def B_L_acts_497 (a0 : Nat) (a1 : Nat) (Q : Int32 → Mm → Nat → Prop) (x2 : Int32) (x4 : Int32) (y0 : Int32) (w : Mm) (z : Nat) (mc : Nat) (ms : Nat) : Prop :=
  ∃ k181 k182, k181 ≤ mc ∧ k182 ≤ ms ∧ F_L_faultNow a0 x2 w z k181 k182 (fun r178 w179 z180 => isO w179 a0 9 ∧ F_X5_inspections a0 w179 z180 (fun r184 w185 z186 => ∃ k190 k191, k190 ≤ (mc - k181) ∧ k191 ≤ (ms - k182) ∧ F_L_inspect a0 x2 w185 z186 k190 k191 (fun r187 w188 z189 => (¬ r187 = (-19) → (y0 = 0 → Q 0 w188 z189) ∧
  (¬ y0 = 0 → (¬ r187 = r178 → Q 0 w188 z189) ∧
  (r187 = r178 → isO w188 a0 9 ∧ F_X5_inspections a0 w188 z189 (fun r196 w197 z198 => (¬ r196 = ((r184 + 1)) → Q 0 w197 z198) ∧
  (r196 = ((r184 + 1)) → isO w197 a0 9 ∧ F_X5_caseCount a0 w197 z198 (fun r201 w202 z203 => (¬ r178 = 0 → B_L_acts_591 a0 a1 Q x2 x4 r178 ((x4 + 1)) r201 w202 z203 (((mc - k181) - k190)) (((ms - k182) - k191))) ∧
  (r178 = 0 → B_L_acts_591 a0 a1 Q x2 x4 r178 x4 r201 w202 z203 (((mc - k181) - k190)) (((ms - k182) - k191))))))))) ∧
  (r187 = (-19) → isO w188 a0 9 ∧ F_X5_inspections a0 w188 z189 (fun r206 w207 z208 => (¬ r206 = r184 → Q 0 w207 z208) ∧
  (r206 = r184 → isO w207 a0 9 ∧ F_X5_caseCount a0 w207 z208 (fun r211 w212 z213 => (¬ r211 = x4 → Q 0 w212 z213) ∧
  (r211 = x4 → Q 1 w212 z213))))))))
set_option maxRecDepth 100000 in
set_option maxHeartbeats 4000000 in
theorem pB_L_acts_497 {C : Cx} {d : Nat} {a0 : Nat} {a1 : Nat} {Q : Int32 → Mm → Nat → Prop} {X : String → Mm → Nat → Prop} (hX : CX C cL_acts RL 12 (some .boolean) [] (d + 9)) (hE : EQ C (rI Q) X) : ∀ (x2 : Int32) (x4 : Int32) (y0 : Int32) (w : Mm) (z mc ms : Nat), B_L_acts_497 a0 a1 Q x2 x4 y0 w z mc ms → VW C 497 [(0, .ref (a0)), (1, .ref (a1)), (2, .int (x2)), (4, .int (x4))] [.int (y0)] w z mc ms := by
  intro x2 x4 y0 w z mc ms h
  unfold B_L_acts_497 at h
  refine vw_istore hX dL_acts_497 (by decide) rfl ?_
  refine vw_aload_n hX 1 dL_acts_499 rfl ?_
  refine vw_iload_n hX 3 dL_acts_500 rfl ?_
  obtain ⟨k181, k182, hm1, hm2, h⟩ := h
  refine s_L_224 hX dL_acts_501 (Nat.le_of_ble_eq_true rfl) hm1 hm2 (ct_L_faultNow (d := d + 0) (lst hX) h) (fun r178 w179 z180 h => ?_)
  refine vw_istore hX dL_acts_504 (by decide) rfl ?_
  refine vw_aload_n hX 2 dL_acts_506 rfl ?_
  obtain ⟨hr183, h⟩ := h
  refine s_L_200 hX hr183 dL_acts_507 (Nat.le_of_ble_eq_true rfl) (ct_X5_inspections (d := d + 8) (lst hX) h) (fun r184 w185 z186 h => ?_)
  refine vw_istore hX dL_acts_510 (by decide) rfl ?_
  refine vw_aload_n hX 3 dL_acts_512 rfl ?_
  refine vw_iload_n hX 5 dL_acts_513 rfl ?_
  obtain ⟨k190, k191, hm1, hm2, h⟩ := h
  refine s_L_229 hX dL_acts_514 (Nat.le_of_ble_eq_true rfl) hm1 hm2 (ct_L_inspect (d := d + 0) (lst hX) h) (fun r187 w188 z189 h => ?_)
  refine vw_istore hX dL_acts_517 (by decide) rfl ?_
  refine vw_iload hX 0 dL_acts_519 rfl ?_
  refine vw_bipush hX (v := (-19)) dL_acts_521 (by decide) ?_
  refine vw_icmp_ne hX (tgt := 550) dL_acts_523 (by decide) (fun c192 => ?_) (fun c192 => ?_)
  · have h := h.1 c192
    refine vw_iload hX 3 dL_acts_550 rfl ?_
    refine vw_if_eq hX (tgt := 646) dL_acts_552 (by decide) (fun c193 => ?_) (fun c193 => ?_)
    · have h := h.1 c193
      refine vw_iconst hX (v := 0) dL_acts_646 (by decide) ?_
      exact vw_zret hX hE dL_acts_647 rfl ⟨_, rfl, h⟩
    · have h := h.2 c193
      refine vw_iload hX 0 dL_acts_555 rfl ?_
      refine vw_iload hX 2 dL_acts_557 rfl ?_
      refine vw_icmp_ne hX (tgt := 646) dL_acts_559 (by decide) (fun c194 => ?_) (fun c194 => ?_)
      · have h := h.1 c194
        refine vw_iconst hX (v := 0) dL_acts_646 (by decide) ?_
        exact vw_zret hX hE dL_acts_647 rfl ⟨_, rfl, h⟩
      · have h := h.2 c194
        refine vw_aload_n hX 4 dL_acts_562 rfl ?_
        obtain ⟨hr195, h⟩ := h
        refine s_L_200 hX hr195 dL_acts_563 (Nat.le_of_ble_eq_true rfl) (ct_X5_inspections (d := d + 8) (lst hX) h) (fun r196 w197 z198 h => ?_)
        refine vw_iload hX 1 dL_acts_566 rfl ?_
        refine vw_iconst hX (v := 1) dL_acts_568 (by decide) ?_
        refine vw_iadd hX dL_acts_569 ?_
        refine vw_icmp_ne hX (tgt := 646) dL_acts_570 (by decide) (fun c199 => ?_) (fun c199 => ?_)
        · have h := h.1 c199
          refine vw_iconst hX (v := 0) dL_acts_646 (by decide) ?_
          exact vw_zret hX hE dL_acts_647 rfl ⟨_, rfl, h⟩
        · have h := h.2 c199
          refine vw_aload_n hX 4 dL_acts_573 rfl ?_
          obtain ⟨hr200, h⟩ := h
          refine s_L_166 hX hr200 dL_acts_574 (Nat.le_of_ble_eq_true rfl) (ct_X5_caseCount (d := d + 8) (lst hX) h) (fun r201 w202 z203 h => ?_)
          refine vw_iload hX 2 dL_acts_577 rfl ?_
          refine vw_if_ne hX (tgt := 587) dL_acts_579 (by decide) (fun c204 => ?_) (fun c204 => ?_)
          · have h := h.1 c204
            refine vw_iload hX 7 dL_acts_587 rfl ?_
            refine vw_iconst hX (v := 1) dL_acts_589 (by decide) ?_
            refine vw_iadd hX dL_acts_590 ?_
            exact vw_sub [4, 5, 6, 7, 2] rfl (pB_L_acts_591 hX hE _ _ _ _ _ _ _ _ _ h)
          · have h := h.2 c204
            refine vw_iload hX 7 dL_acts_582 rfl ?_
            refine vw_goto hX (tgt := 591) dL_acts_584 (by decide) ?_
            exact vw_sub [4, 5, 6, 7, 2] rfl (pB_L_acts_591 hX hE _ _ _ _ _ _ _ _ _ h)
  · have h := h.2 c192
    refine vw_aload_n hX 4 dL_acts_526 rfl ?_
    obtain ⟨hr205, h⟩ := h
    refine s_L_200 hX hr205 dL_acts_527 (Nat.le_of_ble_eq_true rfl) (ct_X5_inspections (d := d + 8) (lst hX) h) (fun r206 w207 z208 h => ?_)
    refine vw_iload hX 1 dL_acts_530 rfl ?_
    refine vw_icmp_ne hX (tgt := 548) dL_acts_532 (by decide) (fun c209 => ?_) (fun c209 => ?_)
    · have h := h.1 c209
      refine vw_iconst hX (v := 0) dL_acts_548 (by decide) ?_
      exact vw_zret hX hE dL_acts_549 rfl ⟨_, rfl, h⟩
    · have h := h.2 c209
      refine vw_aload_n hX 4 dL_acts_535 rfl ?_
      obtain ⟨hr210, h⟩ := h
      refine s_L_166 hX hr210 dL_acts_536 (Nat.le_of_ble_eq_true rfl) (ct_X5_caseCount (d := d + 8) (lst hX) h) (fun r211 w212 z213 h => ?_)
      refine vw_iload hX 7 dL_acts_539 rfl ?_
      refine vw_icmp_ne hX (tgt := 548) dL_acts_541 (by decide) (fun c214 => ?_) (fun c214 => ?_)
      · have h := h.1 c214
        refine vw_iconst hX (v := 0) dL_acts_548 (by decide) ?_
        exact vw_zret hX hE dL_acts_549 rfl ⟨_, rfl, h⟩
      · have h := h.2 c214
        refine vw_iconst hX (v := 1) dL_acts_544 (by decide) ?_
        refine vw_goto hX (tgt := 549) dL_acts_545 (by decide) ?_
        exact vw_zret hX hE dL_acts_549 rfl ⟨_, rfl, h⟩
def B_L_acts_496 (a0 : Nat) (a1 : Nat) (Q : Int32 → Mm → Nat → Prop) (x2 : Int32) (x4 : Int32) (w : Mm) (z : Nat) (mc : Nat) (ms : Nat) : Prop :=
  B_L_acts_497 a0 a1 Q x2 x4 0 w z mc ms
set_option maxRecDepth 100000 in
set_option maxHeartbeats 4000000 in
theorem pB_L_acts_496 {C : Cx} {d : Nat} {a0 : Nat} {a1 : Nat} {Q : Int32 → Mm → Nat → Prop} {X : String → Mm → Nat → Prop} (hX : CX C cL_acts RL 12 (some .boolean) [] (d + 9)) (hE : EQ C (rI Q) X) : ∀ (x2 : Int32) (x4 : Int32) (w : Mm) (z mc ms : Nat), B_L_acts_496 a0 a1 Q x2 x4 w z mc ms → VW C 496 [(0, .ref (a0)), (1, .ref (a1)), (2, .int (x2)), (4, .int (x4))] [] w z mc ms := by
  intro x2 x4 w z mc ms h
  unfold B_L_acts_496 at h
  refine vw_iconst hX (v := 0) dL_acts_496 (by decide) ?_
  exact pB_L_acts_497 hX hE _ _ _ _ _ _ _ h
def B_L_acts_476 (a0 : Nat) (a1 : Nat) (Q : Int32 → Mm → Nat → Prop) (x2 : Int32) (x4 : Int32) (w : Mm) (z : Nat) (mc : Nat) (ms : Nat) : Prop :=
  ∃ k218 k219, k218 ≤ mc ∧ k219 ≤ ms ∧ F_L_isRiding a0 x2 w z k218 k219 (fun r215 w216 z217 => (¬ r215 = 1 → B_L_acts_496 a0 a1 Q x2 x4 w216 z217 ((mc - k218)) ((ms - k219))) ∧
  (r215 = 1 → (20 ≤ x4 → B_L_acts_496 a0 a1 Q x2 x4 w216 z217 ((mc - k218)) ((ms - k219))) ∧
  (¬ 20 ≤ x4 → B_L_acts_497 a0 a1 Q x2 x4 1 w216 z217 ((mc - k218)) ((ms - k219)))))
set_option maxRecDepth 100000 in
set_option maxHeartbeats 4000000 in
theorem pB_L_acts_476 {C : Cx} {d : Nat} {a0 : Nat} {a1 : Nat} {Q : Int32 → Mm → Nat → Prop} {X : String → Mm → Nat → Prop} (hX : CX C cL_acts RL 12 (some .boolean) [] (d + 9)) (hE : EQ C (rI Q) X) : ∀ (x2 : Int32) (x4 : Int32) (w : Mm) (z mc ms : Nat), B_L_acts_476 a0 a1 Q x2 x4 w z mc ms → VW C 476 [(0, .ref (a0)), (1, .ref (a1)), (2, .int (x2)), (4, .int (x4))] [] w z mc ms := by
  intro x2 x4 w z mc ms h
  unfold B_L_acts_476 at h
  refine vw_aload_n hX 0 dL_acts_476 rfl ?_
  refine vw_iload_n hX 2 dL_acts_477 rfl ?_
  obtain ⟨k218, k219, hm1, hm2, h⟩ := h
  refine s_L_181 hX dL_acts_478 (Nat.le_of_ble_eq_true rfl) hm1 hm2 (ct_L_isRiding (d := d + 0) (lst hX) h) (fun r215 w216 z217 h => ?_)
  refine vw_iconst hX (v := 1) dL_acts_481 (by decide) ?_
  refine vw_icmp_ne hX (tgt := 496) dL_acts_482 (by decide) (fun c220 => ?_) (fun c220 => ?_)
  · have h := h.1 c220
    exact pB_L_acts_496 hX hE _ _ _ _ _ _ h
  · have h := h.2 c220
    refine vw_iload hX 3 dL_acts_485 rfl ?_
    refine vw_bipush hX (v := 20) dL_acts_487 (by decide) ?_
    refine vw_icmp_ge hX (tgt := 496) dL_acts_489 (by decide) (fun c221 => ?_) (fun c221 => ?_)
    · have h := h.1 c221
      exact pB_L_acts_496 hX hE _ _ _ _ _ _ h
    · have h := h.2 c221
      refine vw_iconst hX (v := 1) dL_acts_492 (by decide) ?_
      refine vw_goto hX (tgt := 497) dL_acts_493 (by decide) ?_
      exact pB_L_acts_497 hX hE _ _ _ _ _ _ _ h
def B_L_acts_429 (a0 : Nat) (a1 : Nat) (Q : Int32 → Mm → Nat → Prop) (x2 : Int32) (x5 : Int32) (x6 : Int32) (x7 : Int32) (y0 : Int32) (y1 : Int32) (w : Mm) (z : Nat) (mc : Nat) (ms : Nat) : Prop :=
  (¬ y1 = y0 → Q 0 w z) ∧
  (y1 = y0 → ∃ k226 k227, k226 ≤ mc ∧ k227 ≤ ms ∧ F_L_faultNow a0 x2 w z k226 k227 (fun r223 w224 z225 => (¬ r223 = 0 → Q 1 w224 z225) ∧
  (r223 = 0 → ∃ k232 k233, k232 ≤ (mc - k226) ∧ k233 ≤ (ms - k227) ∧ F_L_zonesBetween a0 x5 x6 w224 z225 k232 k233 (fun r229 w230 z231 => ∃ k237 k238, k237 ≤ ((mc - k226) - k232) ∧ k238 ≤ ((ms - k227) - k233) ∧ F_L_ticketZones a0 x7 w230 z231 k237 k238 (fun r234 w235 z236 => (¬ ((r229 &&& ((r234 ^^^ (-1))))) = 0 → Q 0 w235 z236) ∧
  (((r229 &&& ((r234 ^^^ (-1))))) = 0 → ∃ k243 k244, k243 ≤ (((mc - k226) - k232) - k237) ∧ k244 ≤ (((ms - k227) - k233) - k238) ∧ F_L_isInTime a0 x7 w235 z236 k243 k244 (fun r240 w241 z242 => (¬ r240 = 1 → Q 0 w241 z242) ∧
  (r240 = 1 → Q 1 w241 z242))))))))
set_option maxRecDepth 100000 in
set_option maxHeartbeats 4000000 in
theorem pB_L_acts_429 {C : Cx} {d : Nat} {a0 : Nat} {a1 : Nat} {Q : Int32 → Mm → Nat → Prop} {X : String → Mm → Nat → Prop} (hX : CX C cL_acts RL 12 (some .boolean) [] (d + 9)) (hE : EQ C (rI Q) X) : ∀ (x2 : Int32) (x5 : Int32) (x6 : Int32) (x7 : Int32) (y0 : Int32) (y1 : Int32) (w : Mm) (z mc ms : Nat), B_L_acts_429 a0 a1 Q x2 x5 x6 x7 y0 y1 w z mc ms → VW C 429 [(0, .ref (a0)), (1, .ref (a1)), (2, .int (x2)), (5, .int (x5)), (6, .int (x6)), (7, .int (x7))] [.int (y0), .int (y1)] w z mc ms := by
  intro x2 x5 x6 x7 y0 y1 w z mc ms h
  unfold B_L_acts_429 at h
  refine vw_icmp_ne hX (tgt := 474) dL_acts_429 (by decide) (fun c222 => ?_) (fun c222 => ?_)
  · have h := h.1 c222
    refine vw_iconst hX (v := 0) dL_acts_474 (by decide) ?_
    exact vw_zret hX hE dL_acts_475 rfl ⟨_, rfl, h⟩
  · have h := h.2 c222
    refine vw_aload_n hX 0 dL_acts_432 rfl ?_
    refine vw_iload_n hX 2 dL_acts_433 rfl ?_
    obtain ⟨k226, k227, hm1, hm2, h⟩ := h
    refine s_L_224 hX dL_acts_434 (Nat.le_of_ble_eq_true rfl) hm1 hm2 (ct_L_faultNow (d := d + 0) (lst hX) h) (fun r223 w224 z225 h => ?_)
    refine vw_if_ne hX (tgt := 470) dL_acts_437 (by decide) (fun c228 => ?_) (fun c228 => ?_)
    · have h := h.1 c228
      refine vw_iconst hX (v := 1) dL_acts_470 (by decide) ?_
      refine vw_goto hX (tgt := 475) dL_acts_471 (by decide) ?_
      exact vw_zret hX hE dL_acts_475 rfl ⟨_, rfl, h⟩
    · have h := h.2 c228
      refine vw_aload_n hX 0 dL_acts_440 rfl ?_
      refine vw_iload hX 3 dL_acts_441 rfl ?_
      refine vw_iload hX 4 dL_acts_443 rfl ?_
      obtain ⟨k232, k233, hm1, hm2, h⟩ := h
      refine s_L_226 hX dL_acts_445 (Nat.le_of_ble_eq_true rfl) hm1 hm2 (ct_L_zonesBetween (d := d + 0) (lst hX) h) (fun r229 w230 z231 h => ?_)
      refine vw_aload_n hX 0 dL_acts_448 rfl ?_
      refine vw_iload hX 5 dL_acts_449 rfl ?_
      obtain ⟨k237, k238, hm1, hm2, h⟩ := h
      refine s_L_146 hX dL_acts_451 (Nat.le_of_ble_eq_true rfl) hm1 hm2 (ct_L_ticketZones (d := d + 0) (lst hX) h) (fun r234 w235 z236 h => ?_)
      refine vw_iconst hX (v := (-1)) dL_acts_454 (by decide) ?_
      refine vw_ixor hX dL_acts_455 ?_
      refine vw_iand hX dL_acts_456 ?_
      refine vw_if_ne hX (tgt := 474) dL_acts_457 (by decide) (fun c239 => ?_) (fun c239 => ?_)
      · have h := h.1 c239
        refine vw_iconst hX (v := 0) dL_acts_474 (by decide) ?_
        exact vw_zret hX hE dL_acts_475 rfl ⟨_, rfl, h⟩
      · have h := h.2 c239
        refine vw_aload_n hX 0 dL_acts_460 rfl ?_
        refine vw_iload hX 5 dL_acts_461 rfl ?_
        obtain ⟨k243, k244, hm1, hm2, h⟩ := h
        refine s_L_157 hX dL_acts_463 (Nat.le_of_ble_eq_true rfl) hm1 hm2 (ct_L_isInTime (d := d + 0) (lst hX) h) (fun r240 w241 z242 h => ?_)
        refine vw_iconst hX (v := 1) dL_acts_466 (by decide) ?_
        refine vw_icmp_ne hX (tgt := 474) dL_acts_467 (by decide) (fun c245 => ?_) (fun c245 => ?_)
        · have h := h.1 c245
          refine vw_iconst hX (v := 0) dL_acts_474 (by decide) ?_
          exact vw_zret hX hE dL_acts_475 rfl ⟨_, rfl, h⟩
        · have h := h.2 c245
          refine vw_iconst hX (v := 1) dL_acts_470 (by decide) ?_
          refine vw_goto hX (tgt := 475) dL_acts_471 (by decide) ?_
          exact vw_zret hX hE dL_acts_475 rfl ⟨_, rfl, h⟩
def B_L_acts_287 (a0 : Nat) (a1 : Nat) (Q : Int32 → Mm → Nat → Prop) (x2 : Int32) (x5 : Int32) (x6 : Int32) (x7 : Int32) (x8 : Int32) (x9 : Int32) (y0 : Int32) (w : Mm) (z : Nat) (mc : Nat) (ms : Nat) : Prop :=
  ∃ k249 k250, k249 ≤ mc ∧ k250 ≤ ms ∧ F_L_ride a0 x2 x5 x6 x7 w z k249 k250 (fun r246 w247 z248 => (¬ x5 = x6 → (¬ x8 = 0 → isO w247 a0 9 ∧ F_X5_clock a0 w247 z248 (fun r254 w255 z256 => (¬ r246 = ((r254 + ((2 * ((jabs ((x6 - x5)))))))) → Q 0 w255 z256) ∧
  (r246 = ((r254 + ((2 * ((jabs ((x6 - x5)))))))) → ∃ k261 k262, k261 ≤ (mc - k249) ∧ k262 ≤ (ms - k250) ∧ F_L_rideTicket a0 x2 w255 z256 k261 k262 (fun r258 w259 z260 => (r258 = x7 → (¬ x7 = (-1) → ∃ k268 k269, k268 ≤ ((mc - k249) - k261) ∧ k269 ≤ ((ms - k250) - k262) ∧ F_L_ticketRides a0 x7 w259 z260 k268 k269 (fun r265 w266 z267 => (¬ r265 = ((x9 + 1)) → Q 0 w266 z267) ∧
  (r265 = ((x9 + 1)) → ∃ k274 k275, k274 ≤ (((mc - k249) - k261) - k268) ∧ k275 ≤ (((ms - k250) - k262) - k269) ∧ F_L_stampTime a0 x7 w266 z267 k274 k275 (fun r271 w272 z273 => (¬ y0 = (-1) → B_L_acts_429 a0 a1 Q x2 x5 x6 x7 y0 r271 w272 z273 (((((mc - k249) - k261) - k268) - k274)) (((((ms - k250) - k262) - k269) - k275))) ∧
  (y0 = (-1) → isO w272 a0 9 ∧ F_X5_clock a0 w272 z273 (fun r278 w279 z280 => B_L_acts_429 a0 a1 Q x2 x5 x6 x7 r278 r271 w279 z280 (((((mc - k249) - k261) - k268) - k274)) (((((ms - k250) - k262) - k269) - k275)))))))) ∧
  (x7 = (-1) → ∃ k284 k285, k284 ≤ ((mc - k249) - k261) ∧ k285 ≤ ((ms - k250) - k262) ∧ F_L_faultNow a0 x2 w259 z260 k284 k285 (fun r281 w282 z283 => (¬ r281 = 1 → Q 0 w282 z283) ∧
  (r281 = 1 → Q 1 w282 z283)))) ∧
  (¬ r258 = x7 → Q 0 w259 z260))))) ∧
  (x8 = 0 → (¬ r246 = (-19) → Q 0 w247 z248) ∧
  (r246 = (-19) → Q 1 w247 z248))) ∧
  (x5 = x6 → (¬ r246 = (-18) → Q 0 w247 z248) ∧
  (r246 = (-18) → Q 1 w247 z248)))
set_option maxRecDepth 100000 in
set_option maxHeartbeats 4000000 in
theorem pB_L_acts_287 {C : Cx} {d : Nat} {a0 : Nat} {a1 : Nat} {Q : Int32 → Mm → Nat → Prop} {X : String → Mm → Nat → Prop} (hX : CX C cL_acts RL 12 (some .boolean) [] (d + 9)) (hE : EQ C (rI Q) X) : ∀ (x2 : Int32) (x5 : Int32) (x6 : Int32) (x7 : Int32) (x8 : Int32) (x9 : Int32) (y0 : Int32) (w : Mm) (z mc ms : Nat), B_L_acts_287 a0 a1 Q x2 x5 x6 x7 x8 x9 y0 w z mc ms → VW C 287 [(0, .ref (a0)), (1, .ref (a1)), (2, .int (x2)), (5, .int (x5)), (6, .int (x6)), (7, .int (x7)), (8, .int (x8)), (9, .int (x9))] [.int (y0)] w z mc ms := by
  intro x2 x5 x6 x7 x8 x9 y0 w z mc ms h
  unfold B_L_acts_287 at h
  refine vw_istore hX dL_acts_287 (by decide) rfl ?_
  refine vw_aload_n hX 1 dL_acts_289 rfl ?_
  refine vw_iload_n hX 3 dL_acts_290 rfl ?_
  refine vw_iload hX 4 dL_acts_291 rfl ?_
  refine vw_iload hX 5 dL_acts_293 rfl ?_
  refine vw_iload hX 6 dL_acts_295 rfl ?_
  obtain ⟨k249, k250, hm1, hm2, h⟩ := h
  refine s_L_216 hX dL_acts_297 (Nat.le_of_ble_eq_true rfl) hm1 hm2 (ct_L_ride (d := d + 0) (lst hX) h) (fun r246 w247 z248 h => ?_)
  refine vw_istore hX dL_acts_300 (by decide) rfl ?_
  refine vw_iload hX 5 dL_acts_302 rfl ?_
  refine vw_iload hX 6 dL_acts_304 rfl ?_
  refine vw_icmp_ne hX (tgt := 322) dL_acts_306 (by decide) (fun c251 => ?_) (fun c251 => ?_)
  · have h := h.1 c251
    refine vw_iload hX 8 dL_acts_322 rfl ?_
    refine vw_if_ne hX (tgt := 340) dL_acts_324 (by decide) (fun c252 => ?_) (fun c252 => ?_)
    · have h := h.1 c252
      refine vw_iload hX 0 dL_acts_340 rfl ?_
      refine vw_aload_n hX 2 dL_acts_342 rfl ?_
      obtain ⟨hr253, h⟩ := h
      refine s_L_152 hX hr253 dL_acts_343 (Nat.le_of_ble_eq_true rfl) (ct_X5_clock (d := d + 8) (lst hX) h) (fun r254 w255 z256 h => ?_)
      refine vw_iconst hX (v := 2) dL_acts_346 (by decide) ?_
      refine vw_iload hX 6 dL_acts_347 rfl ?_
      refine vw_iload hX 5 dL_acts_349 rfl ?_
      refine vw_isub hX dL_acts_351 ?_
      refine vw_mabs hX kw_1287 (Nat.le_of_ble_eq_true rfl) dL_acts_352 ?_
      refine vw_imul hX dL_acts_355 ?_
      refine vw_iadd hX dL_acts_356 ?_
      refine vw_icmp_ne hX (tgt := 370) dL_acts_357 (by decide) (fun c257 => ?_) (fun c257 => ?_)
      · have h := h.1 c257
        refine vw_iconst hX (v := 0) dL_acts_370 (by decide) ?_
        exact vw_zret hX hE dL_acts_371 rfl ⟨_, rfl, h⟩
      · have h := h.2 c257
        refine vw_aload_n hX 2 dL_acts_360 rfl ?_
        refine vw_iload_n hX 4 dL_acts_361 rfl ?_
        obtain ⟨k261, k262, hm1, hm2, h⟩ := h
        refine s_L_185 hX dL_acts_362 (Nat.le_of_ble_eq_true rfl) hm1 hm2 (ct_L_rideTicket (d := d + 0) (lst hX) h) (fun r258 w259 z260 h => ?_)
        refine vw_iload hX 7 dL_acts_365 rfl ?_
        refine vw_icmp_eq hX (tgt := 372) dL_acts_367 (by decide) (fun c263 => ?_) (fun c263 => ?_)
        · have h := h.1 c263
          refine vw_iload hX 7 dL_acts_372 rfl ?_
          refine vw_iconst hX (v := (-1)) dL_acts_374 (by decide) ?_
          refine vw_icmp_ne hX (tgt := 395) dL_acts_375 (by decide) (fun c264 => ?_) (fun c264 => ?_)
          · have h := h.1 c264
            refine vw_aload_n hX 2 dL_acts_395 rfl ?_
            refine vw_iload hX 7 dL_acts_396 rfl ?_
            obtain ⟨k268, k269, hm1, hm2, h⟩ := h
            refine s_L_159 hX dL_acts_398 (Nat.le_of_ble_eq_true rfl) hm1 hm2 (ct_L_ticketRides (d := d + 0) (lst hX) h) (fun r265 w266 z267 h => ?_)
            refine vw_iload hX 9 dL_acts_401 rfl ?_
            refine vw_iconst hX (v := 1) dL_acts_403 (by decide) ?_
            refine vw_iadd hX dL_acts_404 ?_
            refine vw_icmp_ne hX (tgt := 474) dL_acts_405 (by decide) (fun c270 => ?_) (fun c270 => ?_)
            · have h := h.1 c270
              refine vw_iconst hX (v := 0) dL_acts_474 (by decide) ?_
              exact vw_zret hX hE dL_acts_475 rfl ⟨_, rfl, h⟩
            · have h := h.2 c270
              refine vw_aload_n hX 2 dL_acts_408 rfl ?_
              refine vw_iload hX 7 dL_acts_409 rfl ?_
              obtain ⟨k274, k275, hm1, hm2, h⟩ := h
              refine s_L_150 hX dL_acts_411 (Nat.le_of_ble_eq_true rfl) hm1 hm2 (ct_L_stampTime (d := d + 0) (lst hX) h) (fun r271 w272 z273 h => ?_)
              refine vw_iload hX 1 dL_acts_414 rfl ?_
              refine vw_iconst hX (v := (-1)) dL_acts_416 (by decide) ?_
              refine vw_icmp_ne hX (tgt := 427) dL_acts_417 (by decide) (fun c276 => ?_) (fun c276 => ?_)
              · have h := h.1 c276
                refine vw_iload hX 1 dL_acts_427 rfl ?_
                exact vw_sub [2, 3, 4, 5, 6, 7] rfl (pB_L_acts_429 hX hE _ _ _ _ _ _ _ _ _ _ h)
              · have h := h.2 c276
                refine vw_aload_n hX 2 dL_acts_420 rfl ?_
                obtain ⟨hr277, h⟩ := h
                refine s_L_152 hX hr277 dL_acts_421 (Nat.le_of_ble_eq_true rfl) (ct_X5_clock (d := d + 8) (lst hX) h) (fun r278 w279 z280 h => ?_)
                refine vw_goto hX (tgt := 429) dL_acts_424 (by decide) ?_
                exact vw_sub [2, 3, 4, 5, 6, 7] rfl (pB_L_acts_429 hX hE _ _ _ _ _ _ _ _ _ _ h)
          · have h := h.2 c264
            refine vw_aload_n hX 2 dL_acts_378 rfl ?_
            refine vw_iload_n hX 4 dL_acts_379 rfl ?_
            obtain ⟨k284, k285, hm1, hm2, h⟩ := h
            refine s_L_224 hX dL_acts_380 (Nat.le_of_ble_eq_true rfl) hm1 hm2 (ct_L_faultNow (d := d + 0) (lst hX) h) (fun r281 w282 z283 h => ?_)
            refine vw_iconst hX (v := 1) dL_acts_383 (by decide) ?_
            refine vw_icmp_ne hX (tgt := 391) dL_acts_384 (by decide) (fun c286 => ?_) (fun c286 => ?_)
            · have h := h.1 c286
              refine vw_iconst hX (v := 0) dL_acts_391 (by decide) ?_
              refine vw_goto hX (tgt := 475) dL_acts_392 (by decide) ?_
              exact vw_zret hX hE dL_acts_475 rfl ⟨_, rfl, h⟩
            · have h := h.2 c286
              refine vw_iconst hX (v := 1) dL_acts_387 (by decide) ?_
              refine vw_goto hX (tgt := 475) dL_acts_388 (by decide) ?_
              exact vw_zret hX hE dL_acts_475 rfl ⟨_, rfl, h⟩
        · have h := h.2 c263
          refine vw_iconst hX (v := 0) dL_acts_370 (by decide) ?_
          exact vw_zret hX hE dL_acts_371 rfl ⟨_, rfl, h⟩
    · have h := h.2 c252
      refine vw_iload hX 0 dL_acts_327 rfl ?_
      refine vw_bipush hX (v := (-19)) dL_acts_329 (by decide) ?_
      refine vw_icmp_ne hX (tgt := 338) dL_acts_331 (by decide) (fun c287 => ?_) (fun c287 => ?_)
      · have h := h.1 c287
        refine vw_iconst hX (v := 0) dL_acts_338 (by decide) ?_
        exact vw_zret hX hE dL_acts_339 rfl ⟨_, rfl, h⟩
      · have h := h.2 c287
        refine vw_iconst hX (v := 1) dL_acts_334 (by decide) ?_
        refine vw_goto hX (tgt := 339) dL_acts_335 (by decide) ?_
        exact vw_zret hX hE dL_acts_339 rfl ⟨_, rfl, h⟩
  · have h := h.2 c251
    refine vw_iload hX 0 dL_acts_309 rfl ?_
    refine vw_bipush hX (v := (-18)) dL_acts_311 (by decide) ?_
    refine vw_icmp_ne hX (tgt := 320) dL_acts_313 (by decide) (fun c288 => ?_) (fun c288 => ?_)
    · have h := h.1 c288
      refine vw_iconst hX (v := 0) dL_acts_320 (by decide) ?_
      exact vw_zret hX hE dL_acts_321 rfl ⟨_, rfl, h⟩
    · have h := h.2 c288
      refine vw_iconst hX (v := 1) dL_acts_316 (by decide) ?_
      refine vw_goto hX (tgt := 321) dL_acts_317 (by decide) ?_
      exact vw_zret hX hE dL_acts_321 rfl ⟨_, rfl, h⟩
def B_L_acts_269 (a0 : Nat) (a1 : Nat) (Q : Int32 → Mm → Nat → Prop) (x2 : Int32) (x5 : Int32) (x6 : Int32) (x7 : Int32) (x8 : Int32) (y0 : Int32) (w : Mm) (z : Nat) (mc : Nat) (ms : Nat) : Prop :=
  (¬ x7 = (-1) → ∃ k293 k294, k293 ≤ mc ∧ k294 ≤ ms ∧ F_L_stampTime a0 x7 w z k293 k294 (fun r290 w291 z292 => B_L_acts_287 a0 a1 Q x2 x5 x6 x7 x8 y0 r290 w291 z292 ((mc - k293)) ((ms - k294)))) ∧
  (x7 = (-1) → B_L_acts_287 a0 a1 Q x2 x5 x6 x7 x8 y0 0 w z mc ms)
set_option maxRecDepth 100000 in
set_option maxHeartbeats 4000000 in
theorem pB_L_acts_269 {C : Cx} {d : Nat} {a0 : Nat} {a1 : Nat} {Q : Int32 → Mm → Nat → Prop} {X : String → Mm → Nat → Prop} (hX : CX C cL_acts RL 12 (some .boolean) [] (d + 9)) (hE : EQ C (rI Q) X) : ∀ (x2 : Int32) (x5 : Int32) (x6 : Int32) (x7 : Int32) (x8 : Int32) (y0 : Int32) (w : Mm) (z mc ms : Nat), B_L_acts_269 a0 a1 Q x2 x5 x6 x7 x8 y0 w z mc ms → VW C 269 [(0, .ref (a0)), (1, .ref (a1)), (2, .int (x2)), (5, .int (x5)), (6, .int (x6)), (7, .int (x7)), (8, .int (x8))] [.int (y0)] w z mc ms := by
  intro x2 x5 x6 x7 x8 y0 w z mc ms h
  unfold B_L_acts_269 at h
  refine vw_istore hX dL_acts_269 (by decide) rfl ?_
  refine vw_iload hX 6 dL_acts_271 rfl ?_
  refine vw_iconst hX (v := (-1)) dL_acts_273 (by decide) ?_
  refine vw_icmp_ne hX (tgt := 281) dL_acts_274 (by decide) (fun c289 => ?_) (fun c289 => ?_)
  · have h := h.1 c289
    refine vw_aload_n hX 1 dL_acts_281 rfl ?_
    refine vw_iload hX 6 dL_acts_282 rfl ?_
    obtain ⟨k293, k294, hm1, hm2, h⟩ := h
    refine s_L_150 hX dL_acts_284 (Nat.le_of_ble_eq_true rfl) hm1 hm2 (ct_L_stampTime (d := d + 0) (lst hX) h) (fun r290 w291 z292 h => ?_)
    exact vw_sub [1, 2, 3, 4, 5, 6, 7, 0] rfl (pB_L_acts_287 hX hE _ _ _ _ _ _ _ _ _ _ _ h)
  · have h := h.2 c289
    refine vw_iconst hX (v := 0) dL_acts_277 (by decide) ?_
    refine vw_goto hX (tgt := 287) dL_acts_278 (by decide) ?_
    exact vw_sub [1, 2, 3, 4, 5, 6, 7, 0] rfl (pB_L_acts_287 hX hE _ _ _ _ _ _ _ _ _ _ _ h)
def B_L_acts_251 (a0 : Nat) (a1 : Nat) (Q : Int32 → Mm → Nat → Prop) (x2 : Int32) (x5 : Int32) (x6 : Int32) (x7 : Int32) (y0 : Int32) (w : Mm) (z : Nat) (mc : Nat) (ms : Nat) : Prop :=
  (¬ x7 = (-1) → ∃ k299 k300, k299 ≤ mc ∧ k300 ≤ ms ∧ F_L_ticketRides a0 x7 w z k299 k300 (fun r296 w297 z298 => B_L_acts_269 a0 a1 Q x2 x5 x6 x7 y0 r296 w297 z298 ((mc - k299)) ((ms - k300)))) ∧
  (x7 = (-1) → B_L_acts_269 a0 a1 Q x2 x5 x6 x7 y0 0 w z mc ms)
set_option maxRecDepth 100000 in
set_option maxHeartbeats 4000000 in
theorem pB_L_acts_251 {C : Cx} {d : Nat} {a0 : Nat} {a1 : Nat} {Q : Int32 → Mm → Nat → Prop} {X : String → Mm → Nat → Prop} (hX : CX C cL_acts RL 12 (some .boolean) [] (d + 9)) (hE : EQ C (rI Q) X) : ∀ (x2 : Int32) (x5 : Int32) (x6 : Int32) (x7 : Int32) (y0 : Int32) (w : Mm) (z mc ms : Nat), B_L_acts_251 a0 a1 Q x2 x5 x6 x7 y0 w z mc ms → VW C 251 [(0, .ref (a0)), (1, .ref (a1)), (2, .int (x2)), (5, .int (x5)), (6, .int (x6)), (7, .int (x7))] [.int (y0)] w z mc ms := by
  intro x2 x5 x6 x7 y0 w z mc ms h
  unfold B_L_acts_251 at h
  refine vw_istore hX dL_acts_251 (by decide) rfl ?_
  refine vw_iload hX 6 dL_acts_253 rfl ?_
  refine vw_iconst hX (v := (-1)) dL_acts_255 (by decide) ?_
  refine vw_icmp_ne hX (tgt := 263) dL_acts_256 (by decide) (fun c295 => ?_) (fun c295 => ?_)
  · have h := h.1 c295
    refine vw_aload_n hX 1 dL_acts_263 rfl ?_
    refine vw_iload hX 6 dL_acts_264 rfl ?_
    obtain ⟨k299, k300, hm1, hm2, h⟩ := h
    refine s_L_159 hX dL_acts_266 (Nat.le_of_ble_eq_true rfl) hm1 hm2 (ct_L_ticketRides (d := d + 0) (lst hX) h) (fun r296 w297 z298 h => ?_)
    exact vw_sub [1, 2, 3, 4, 5, 6, 0] rfl (pB_L_acts_269 hX hE _ _ _ _ _ _ _ _ _ _ h)
  · have h := h.2 c295
    refine vw_iconst hX (v := 0) dL_acts_259 (by decide) ?_
    refine vw_goto hX (tgt := 269) dL_acts_260 (by decide) ?_
    exact vw_sub [1, 2, 3, 4, 5, 6, 0] rfl (pB_L_acts_269 hX hE _ _ _ _ _ _ _ _ _ _ h)
def B_L_acts_250 (a0 : Nat) (a1 : Nat) (Q : Int32 → Mm → Nat → Prop) (x2 : Int32) (x5 : Int32) (x6 : Int32) (x7 : Int32) (w : Mm) (z : Nat) (mc : Nat) (ms : Nat) : Prop :=
  B_L_acts_251 a0 a1 Q x2 x5 x6 x7 0 w z mc ms
set_option maxRecDepth 100000 in
set_option maxHeartbeats 4000000 in
theorem pB_L_acts_250 {C : Cx} {d : Nat} {a0 : Nat} {a1 : Nat} {Q : Int32 → Mm → Nat → Prop} {X : String → Mm → Nat → Prop} (hX : CX C cL_acts RL 12 (some .boolean) [] (d + 9)) (hE : EQ C (rI Q) X) : ∀ (x2 : Int32) (x5 : Int32) (x6 : Int32) (x7 : Int32) (w : Mm) (z mc ms : Nat), B_L_acts_250 a0 a1 Q x2 x5 x6 x7 w z mc ms → VW C 250 [(0, .ref (a0)), (1, .ref (a1)), (2, .int (x2)), (5, .int (x5)), (6, .int (x6)), (7, .int (x7))] [] w z mc ms := by
  intro x2 x5 x6 x7 w z mc ms h
  unfold B_L_acts_250 at h
  refine vw_iconst hX (v := 0) dL_acts_250 (by decide) ?_
  exact pB_L_acts_251 hX hE _ _ _ _ _ _ _ _ _ h
def B_L_acts_246 (a0 : Nat) (a1 : Nat) (Q : Int32 → Mm → Nat → Prop) (x2 : Int32) (x5 : Int32) (x6 : Int32) (x7 : Int32) (w : Mm) (z : Nat) (mc : Nat) (ms : Nat) : Prop :=
  B_L_acts_251 a0 a1 Q x2 x5 x6 x7 1 w z mc ms
set_option maxRecDepth 100000 in
set_option maxHeartbeats 4000000 in
theorem pB_L_acts_246 {C : Cx} {d : Nat} {a0 : Nat} {a1 : Nat} {Q : Int32 → Mm → Nat → Prop} {X : String → Mm → Nat → Prop} (hX : CX C cL_acts RL 12 (some .boolean) [] (d + 9)) (hE : EQ C (rI Q) X) : ∀ (x2 : Int32) (x5 : Int32) (x6 : Int32) (x7 : Int32) (w : Mm) (z mc ms : Nat), B_L_acts_246 a0 a1 Q x2 x5 x6 x7 w z mc ms → VW C 246 [(0, .ref (a0)), (1, .ref (a1)), (2, .int (x2)), (5, .int (x5)), (6, .int (x6)), (7, .int (x7))] [] w z mc ms := by
  intro x2 x5 x6 x7 w z mc ms h
  unfold B_L_acts_246 at h
  refine vw_iconst hX (v := 1) dL_acts_246 (by decide) ?_
  refine vw_goto hX (tgt := 251) dL_acts_247 (by decide) ?_
  exact pB_L_acts_251 hX hE _ _ _ _ _ _ _ _ _ h
def B_L_acts_220 (a0 : Nat) (a1 : Nat) (Q : Int32 → Mm → Nat → Prop) (x2 : Int32) (x5 : Int32) (x6 : Int32) (y0 : Int32) (w : Mm) (z : Nat) (mc : Nat) (ms : Nat) : Prop :=
  ∃ k304 k305, k304 ≤ mc ∧ k305 ≤ ms ∧ F_L_isRiding a0 x2 w z k304 k305 (fun r301 w302 z303 => (¬ r301 = 0 → B_L_acts_250 a0 a1 Q x2 x5 x6 y0 w302 z303 ((mc - k304)) ((ms - k305))) ∧
  (r301 = 0 → (y0 = (-1) → B_L_acts_246 a0 a1 Q x2 x5 x6 y0 w302 z303 ((mc - k304)) ((ms - k305))) ∧
  (¬ y0 = (-1) → ∃ k311 k312, k311 ≤ (mc - k304) ∧ k312 ≤ (ms - k305) ∧ F_L_ticketHolder a0 y0 w302 z303 k311 k312 (fun r308 w309 z310 => (¬ r308 = x2 → B_L_acts_250 a0 a1 Q x2 x5 x6 y0 w309 z310 (((mc - k304) - k311)) (((ms - k305) - k312))) ∧
  (r308 = x2 → B_L_acts_246 a0 a1 Q x2 x5 x6 y0 w309 z310 (((mc - k304) - k311)) (((ms - k305) - k312)))))))
set_option maxRecDepth 100000 in
set_option maxHeartbeats 4000000 in
theorem pB_L_acts_220 {C : Cx} {d : Nat} {a0 : Nat} {a1 : Nat} {Q : Int32 → Mm → Nat → Prop} {X : String → Mm → Nat → Prop} (hX : CX C cL_acts RL 12 (some .boolean) [] (d + 9)) (hE : EQ C (rI Q) X) : ∀ (x2 : Int32) (x5 : Int32) (x6 : Int32) (y0 : Int32) (w : Mm) (z mc ms : Nat), B_L_acts_220 a0 a1 Q x2 x5 x6 y0 w z mc ms → VW C 220 [(0, .ref (a0)), (1, .ref (a1)), (2, .int (x2)), (5, .int (x5)), (6, .int (x6))] [.int (y0)] w z mc ms := by
  intro x2 x5 x6 y0 w z mc ms h
  unfold B_L_acts_220 at h
  refine vw_istore hX dL_acts_220 (by decide) rfl ?_
  refine vw_aload_n hX 1 dL_acts_222 rfl ?_
  refine vw_iload_n hX 3 dL_acts_223 rfl ?_
  obtain ⟨k304, k305, hm1, hm2, h⟩ := h
  refine s_L_181 hX dL_acts_224 (Nat.le_of_ble_eq_true rfl) hm1 hm2 (ct_L_isRiding (d := d + 0) (lst hX) h) (fun r301 w302 z303 h => ?_)
  refine vw_if_ne hX (tgt := 250) dL_acts_227 (by decide) (fun c306 => ?_) (fun c306 => ?_)
  · have h := h.1 c306
    exact vw_sub [1, 2, 3, 4, 5, 0] rfl (pB_L_acts_250 hX hE _ _ _ _ _ _ _ _ h)
  · have h := h.2 c306
    refine vw_iload hX 0 dL_acts_230 rfl ?_
    refine vw_iconst hX (v := (-1)) dL_acts_232 (by decide) ?_
    refine vw_icmp_eq hX (tgt := 246) dL_acts_233 (by decide) (fun c307 => ?_) (fun c307 => ?_)
    · have h := h.1 c307
      exact vw_sub [1, 2, 3, 4, 5, 0] rfl (pB_L_acts_246 hX hE _ _ _ _ _ _ _ _ h)
    · have h := h.2 c307
      refine vw_aload_n hX 1 dL_acts_236 rfl ?_
      refine vw_iload hX 0 dL_acts_237 rfl ?_
      obtain ⟨k311, k312, hm1, hm2, h⟩ := h
      refine s_L_187 hX dL_acts_239 (Nat.le_of_ble_eq_true rfl) hm1 hm2 (ct_L_ticketHolder (d := d + 0) (lst hX) h) (fun r308 w309 z310 h => ?_)
      refine vw_iload_n hX 3 dL_acts_242 rfl ?_
      refine vw_icmp_ne hX (tgt := 250) dL_acts_243 (by decide) (fun c313 => ?_) (fun c313 => ?_)
      · have h := h.1 c313
        exact vw_sub [1, 2, 3, 4, 5, 0] rfl (pB_L_acts_250 hX hE _ _ _ _ _ _ _ _ h)
      · have h := h.2 c313
        exact vw_sub [1, 2, 3, 4, 5, 0] rfl (pB_L_acts_246 hX hE _ _ _ _ _ _ _ _ h)
def B_L_acts_211 (a0 : Nat) (a1 : Nat) (Q : Int32 → Mm → Nat → Prop) (x2 : Int32) (x5 : Int32) (x6 : Int32) (w : Mm) (z : Nat) (mc : Nat) (ms : Nat) : Prop :=
  B_L_acts_220 a0 a1 Q x2 x5 x6 (-1) w z mc ms
set_option maxRecDepth 100000 in
set_option maxHeartbeats 4000000 in
theorem pB_L_acts_211 {C : Cx} {d : Nat} {a0 : Nat} {a1 : Nat} {Q : Int32 → Mm → Nat → Prop} {X : String → Mm → Nat → Prop} (hX : CX C cL_acts RL 12 (some .boolean) [] (d + 9)) (hE : EQ C (rI Q) X) : ∀ (x2 : Int32) (x5 : Int32) (x6 : Int32) (w : Mm) (z mc ms : Nat), B_L_acts_211 a0 a1 Q x2 x5 x6 w z mc ms → VW C 211 [(0, .ref (a0)), (1, .ref (a1)), (2, .int (x2)), (5, .int (x5)), (6, .int (x6))] [] w z mc ms := by
  intro x2 x5 x6 w z mc ms h
  unfold B_L_acts_211 at h
  refine vw_iconst hX (v := (-1)) dL_acts_211 (by decide) ?_
  refine vw_goto hX (tgt := 220) dL_acts_212 (by decide) ?_
  exact pB_L_acts_220 hX hE _ _ _ _ _ _ _ _ h
def B_L_acts_179 (a0 : Nat) (a1 : Nat) (Q : Int32 → Mm → Nat → Prop) (x2 : Int32) (x3 : Int32) (w : Mm) (z : Nat) (mc : Nat) (ms : Nat) : Prop :=
  isO w a0 9 ∧ F_X5_stopCount a0 w z (fun r315 w316 z317 => F_L_draw a1 r315 w316 z317 (fun r318 w319 z320 => isO w319 a0 9 ∧ F_X5_stopCount a0 w319 z320 (fun r322 w323 z324 => F_L_draw a1 r322 w323 z324 (fun r325 w326 z327 => (x3 = 0 → B_L_acts_211 a0 a1 Q x2 r318 r325 w326 z327 mc ms) ∧
  (¬ x3 = 0 → F_L_draw a1 4 w326 z327 (fun r329 w330 z331 => (¬ r329 = 0 → F_L_draw a1 x3 w330 z331 (fun r333 w334 z335 => B_L_acts_220 a0 a1 Q x2 r318 r325 r333 w334 z335 mc ms)) ∧
  (r329 = 0 → B_L_acts_211 a0 a1 Q x2 r318 r325 w330 z331 mc ms)))))))
set_option maxRecDepth 100000 in
set_option maxHeartbeats 4000000 in
theorem pB_L_acts_179 {C : Cx} {d : Nat} {a0 : Nat} {a1 : Nat} {Q : Int32 → Mm → Nat → Prop} {X : String → Mm → Nat → Prop} (hX : CX C cL_acts RL 12 (some .boolean) [] (d + 9)) (hE : EQ C (rI Q) X) : ∀ (x2 : Int32) (x3 : Int32) (w : Mm) (z mc ms : Nat), B_L_acts_179 a0 a1 Q x2 x3 w z mc ms → VW C 179 [(0, .ref (a0)), (1, .ref (a1)), (2, .int (x2)), (3, .int (x3))] [] w z mc ms := by
  intro x2 x3 w z mc ms h
  unfold B_L_acts_179 at h
  refine vw_aload_n hX 1 dL_acts_179 rfl ?_
  refine vw_aload_n hX 0 dL_acts_180 rfl ?_
  obtain ⟨hr314, h⟩ := h
  refine s_L_213 hX hr314 dL_acts_181 (Nat.le_of_ble_eq_true rfl) (ct_X5_stopCount (d := d + 8) (lst hX) h) (fun r315 w316 z317 h => ?_)
  refine s_L_206 hX dL_acts_184 (Nat.le_of_ble_eq_true rfl) (ct_L_draw (d := d + 8) (lst hX) h) (fun r318 w319 z320 h => ?_)
  refine vw_istore hX dL_acts_187 (by decide) rfl ?_
  refine vw_aload_n hX 2 dL_acts_189 rfl ?_
  refine vw_aload_n hX 1 dL_acts_190 rfl ?_
  obtain ⟨hr321, h⟩ := h
  refine s_L_213 hX hr321 dL_acts_191 (Nat.le_of_ble_eq_true rfl) (ct_X5_stopCount (d := d + 8) (lst hX) h) (fun r322 w323 z324 h => ?_)
  refine s_L_206 hX dL_acts_194 (Nat.le_of_ble_eq_true rfl) (ct_L_draw (d := d + 8) (lst hX) h) (fun r325 w326 z327 h => ?_)
  refine vw_istore hX dL_acts_197 (by decide) rfl ?_
  refine vw_iload_n hX 5 dL_acts_199 rfl ?_
  refine vw_if_eq hX (tgt := 211) dL_acts_200 (by decide) (fun c328 => ?_) (fun c328 => ?_)
  · have h := h.1 c328
    exact vw_sub [2, 3, 4, 1, 0] rfl (pB_L_acts_211 hX hE _ _ _ _ _ _ _ h)
  · have h := h.2 c328
    refine vw_aload_n hX 3 dL_acts_203 rfl ?_
    refine vw_iconst hX (v := 4) dL_acts_204 (by decide) ?_
    refine s_L_206 hX dL_acts_205 (Nat.le_of_ble_eq_true rfl) (ct_L_draw (d := d + 8) (lst hX) h) (fun r329 w330 z331 h => ?_)
    refine vw_if_ne hX (tgt := 215) dL_acts_208 (by decide) (fun c332 => ?_) (fun c332 => ?_)
    · have h := h.1 c332
      refine vw_aload_n hX 3 dL_acts_215 rfl ?_
      refine vw_iload_n hX 5 dL_acts_216 rfl ?_
      refine s_L_206 hX dL_acts_217 (Nat.le_of_ble_eq_true rfl) (ct_L_draw (d := d + 8) (lst hX) h) (fun r333 w334 z335 h => ?_)
      exact vw_sub [2, 3, 4, 1, 0] rfl (pB_L_acts_220 hX hE _ _ _ _ _ _ _ _ h)
    · have h := h.2 c332
      exact vw_sub [2, 3, 4, 1, 0] rfl (pB_L_acts_211 hX hE _ _ _ _ _ _ _ h)
def B_L_acts_72 (a0 : Nat) (a1 : Nat) (Q : Int32 → Mm → Nat → Prop) (x2 : Int32) (x3 : Int32) (w : Mm) (z : Nat) (mc : Nat) (ms : Nat) : Prop :=
  F_L_draw a1 3 w z (fun r336 w337 z338 => F_L_draw a1 15 w337 z338 (fun r339 w340 z341 => ∀ i342 : Int32, i342 = (1 + r339) → ∃ k346 k347, k346 ≤ mc ∧ k347 ≤ ms ∧ F_L_money a0 x2 w340 z341 k346 k347 (fun r343 w344 z345 => ∃ k351 k352, k351 ≤ (mc - k346) ∧ k352 ≤ (ms - k347) ∧ F_L_buy a0 x2 r336 i342 w344 z345 k351 k352 (fun r348 w349 z350 => (¬ r348 = (-19) → (¬ r348 = x3 → Q 0 w349 z350) ∧
  (r348 = x3 → ∃ k358 k359, k358 ≤ ((mc - k346) - k351) ∧ k359 ≤ ((ms - k347) - k352) ∧ F_L_money a0 x2 w349 z350 k358 k359 (fun r355 w356 z357 => ∃ k363 k364, k363 ≤ (((mc - k346) - k351) - k358) ∧ k364 ≤ (((ms - k347) - k352) - k359) ∧ F_L_ticketPrice a0 r348 w356 z357 k363 k364 (fun r360 w361 z362 => (¬ r355 = ((r343 - r360)) → Q 0 w361 z362) ∧
  (r355 = ((r343 - r360)) → ∃ k369 k370, k369 ≤ ((((mc - k346) - k351) - k358) - k363) ∧ k370 ≤ ((((ms - k347) - k352) - k359) - k364) ∧ F_L_stampTime a0 r348 w361 z362 k369 k370 (fun r366 w367 z368 => (¬ r366 = (-1) → Q 0 w367 z368) ∧
  (r366 = (-1) → ∃ k375 k376, k375 ≤ (((((mc - k346) - k351) - k358) - k363) - k369) ∧ k376 ≤ (((((ms - k347) - k352) - k359) - k364) - k370) ∧ F_L_ticketHolder a0 r348 w367 z368 k375 k376 (fun r372 w373 z374 => (¬ r372 = x2 → Q 0 w373 z374) ∧
  (r372 = x2 → Q 1 w373 z374))))))))) ∧
  (r348 = (-19) → isO w349 a0 9 ∧ F_X5_ticketCount a0 w349 z350 (fun r379 w380 z381 => (¬ r379 = x3 → Q 0 w380 z381) ∧
  (r379 = x3 → Q 1 w380 z381)))))))
set_option maxRecDepth 100000 in
set_option maxHeartbeats 4000000 in
theorem pB_L_acts_72 {C : Cx} {d : Nat} {a0 : Nat} {a1 : Nat} {Q : Int32 → Mm → Nat → Prop} {X : String → Mm → Nat → Prop} (hX : CX C cL_acts RL 12 (some .boolean) [] (d + 9)) (hE : EQ C (rI Q) X) : ∀ (x2 : Int32) (x3 : Int32) (w : Mm) (z mc ms : Nat), B_L_acts_72 a0 a1 Q x2 x3 w z mc ms → VW C 72 [(0, .ref (a0)), (1, .ref (a1)), (2, .int (x2)), (3, .int (x3))] [] w z mc ms := by
  intro x2 x3 w z mc ms h
  unfold B_L_acts_72 at h
  refine vw_aload_n hX 1 dL_acts_72 rfl ?_
  refine vw_iconst hX (v := 3) dL_acts_73 (by decide) ?_
  refine s_L_206 hX dL_acts_74 (Nat.le_of_ble_eq_true rfl) (ct_L_draw (d := d + 8) (lst hX) h) (fun r336 w337 z338 h => ?_)
  refine vw_istore hX dL_acts_77 (by decide) rfl ?_
  refine vw_iconst hX (v := 1) dL_acts_79 (by decide) ?_
  refine vw_aload_n hX 2 dL_acts_80 rfl ?_
  refine vw_bipush hX (v := 15) dL_acts_81 (by decide) ?_
  refine s_L_206 hX dL_acts_83 (Nat.le_of_ble_eq_true rfl) (ct_L_draw (d := d + 8) (lst hX) h) (fun r339 w340 z341 h => ?_)
  refine vw_iadd hX dL_acts_86 ?_
  refine vw_nmI (fun i342 ei342 => ?_)
  have h := h i342 ei342
  refine vw_istore hX dL_acts_87 (by decide) rfl ?_
  refine vw_aload_n hX 2 dL_acts_89 rfl ?_
  refine vw_iload_n hX 4 dL_acts_90 rfl ?_
  obtain ⟨k346, k347, hm1, hm2, h⟩ := h
  refine s_L_175 hX dL_acts_91 (Nat.le_of_ble_eq_true rfl) hm1 hm2 (ct_L_money (d := d + 0) (lst hX) h) (fun r343 w344 z345 h => ?_)
  refine vw_istore hX dL_acts_94 (by decide) rfl ?_
  refine vw_aload_n hX 3 dL_acts_96 rfl ?_
  refine vw_iload_n hX 5 dL_acts_97 rfl ?_
  refine vw_iload hX 2 dL_acts_98 rfl ?_
  refine vw_iload hX 1 dL_acts_100 rfl ?_
  obtain ⟨k351, k352, hm1, hm2, h⟩ := h
  refine s_L_210 hX dL_acts_102 (Nat.le_of_ble_eq_true rfl) hm1 hm2 (ct_L_buy (d := d + 0) (lst hX) h) (fun r348 w349 z350 h => ?_)
  refine vw_istore hX dL_acts_105 (by decide) rfl ?_
  refine vw_iload hX 0 dL_acts_107 rfl ?_
  refine vw_bipush hX (v := (-19)) dL_acts_109 (by decide) ?_
  refine vw_icmp_ne hX (tgt := 130) dL_acts_111 (by decide) (fun c353 => ?_) (fun c353 => ?_)
  · have h := h.1 c353
    refine vw_iload hX 0 dL_acts_130 rfl ?_
    refine vw_iload_n hX 7 dL_acts_132 rfl ?_
    refine vw_icmp_ne hX (tgt := 177) dL_acts_133 (by decide) (fun c354 => ?_) (fun c354 => ?_)
    · have h := h.1 c354
      refine vw_iconst hX (v := 0) dL_acts_177 (by decide) ?_
      exact vw_zret hX hE dL_acts_178 rfl ⟨_, rfl, h⟩
    · have h := h.2 c354
      refine vw_aload_n hX 4 dL_acts_136 rfl ?_
      refine vw_iload_n hX 6 dL_acts_137 rfl ?_
      obtain ⟨k358, k359, hm1, hm2, h⟩ := h
      refine s_L_175 hX dL_acts_138 (Nat.le_of_ble_eq_true rfl) hm1 hm2 (ct_L_money (d := d + 0) (lst hX) h) (fun r355 w356 z357 h => ?_)
      refine vw_iload hX 1 dL_acts_141 rfl ?_
      refine vw_aload_n hX 4 dL_acts_143 rfl ?_
      refine vw_iload hX 0 dL_acts_144 rfl ?_
      obtain ⟨k363, k364, hm1, hm2, h⟩ := h
      refine s_L_155 hX dL_acts_146 (Nat.le_of_ble_eq_true rfl) hm1 hm2 (ct_L_ticketPrice (d := d + 0) (lst hX) h) (fun r360 w361 z362 h => ?_)
      refine vw_isub hX dL_acts_149 ?_
      refine vw_icmp_ne hX (tgt := 177) dL_acts_150 (by decide) (fun c365 => ?_) (fun c365 => ?_)
      · have h := h.1 c365
        refine vw_iconst hX (v := 0) dL_acts_177 (by decide) ?_
        exact vw_zret hX hE dL_acts_178 rfl ⟨_, rfl, h⟩
      · have h := h.2 c365
        refine vw_aload_n hX 4 dL_acts_153 rfl ?_
        refine vw_iload hX 0 dL_acts_154 rfl ?_
        obtain ⟨k369, k370, hm1, hm2, h⟩ := h
        refine s_L_150 hX dL_acts_156 (Nat.le_of_ble_eq_true rfl) hm1 hm2 (ct_L_stampTime (d := d + 0) (lst hX) h) (fun r366 w367 z368 h => ?_)
        refine vw_iconst hX (v := (-1)) dL_acts_159 (by decide) ?_
        refine vw_icmp_ne hX (tgt := 177) dL_acts_160 (by decide) (fun c371 => ?_) (fun c371 => ?_)
        · have h := h.1 c371
          refine vw_iconst hX (v := 0) dL_acts_177 (by decide) ?_
          exact vw_zret hX hE dL_acts_178 rfl ⟨_, rfl, h⟩
        · have h := h.2 c371
          refine vw_aload_n hX 4 dL_acts_163 rfl ?_
          refine vw_iload hX 0 dL_acts_164 rfl ?_
          obtain ⟨k375, k376, hm1, hm2, h⟩ := h
          refine s_L_187 hX dL_acts_166 (Nat.le_of_ble_eq_true rfl) hm1 hm2 (ct_L_ticketHolder (d := d + 0) (lst hX) h) (fun r372 w373 z374 h => ?_)
          refine vw_iload_n hX 6 dL_acts_169 rfl ?_
          refine vw_icmp_ne hX (tgt := 177) dL_acts_170 (by decide) (fun c377 => ?_) (fun c377 => ?_)
          · have h := h.1 c377
            refine vw_iconst hX (v := 0) dL_acts_177 (by decide) ?_
            exact vw_zret hX hE dL_acts_178 rfl ⟨_, rfl, h⟩
          · have h := h.2 c377
            refine vw_iconst hX (v := 1) dL_acts_173 (by decide) ?_
            refine vw_goto hX (tgt := 178) dL_acts_174 (by decide) ?_
            exact vw_zret hX hE dL_acts_178 rfl ⟨_, rfl, h⟩
  · have h := h.2 c353
    refine vw_aload_n hX 4 dL_acts_114 rfl ?_
    obtain ⟨hr378, h⟩ := h
    refine s_L_143 hX hr378 dL_acts_115 (Nat.le_of_ble_eq_true rfl) (ct_X5_ticketCount (d := d + 8) (lst hX) h) (fun r379 w380 z381 h => ?_)
    refine vw_iload_n hX 7 dL_acts_118 rfl ?_
    refine vw_icmp_ne hX (tgt := 126) dL_acts_119 (by decide) (fun c382 => ?_) (fun c382 => ?_)
    · have h := h.1 c382
      refine vw_iconst hX (v := 0) dL_acts_126 (by decide) ?_
      refine vw_goto hX (tgt := 178) dL_acts_127 (by decide) ?_
      exact vw_zret hX hE dL_acts_178 rfl ⟨_, rfl, h⟩
    · have h := h.2 c382
      refine vw_iconst hX (v := 1) dL_acts_122 (by decide) ?_
      refine vw_goto hX (tgt := 178) dL_acts_123 (by decide) ?_
      exact vw_zret hX hE dL_acts_178 rfl ⟨_, rfl, h⟩
def F_L_acts (a0 : Nat) (a1 : Nat) (w : Mm) (z : Nat) (mc ms : Nat) (Q : Int32 → Mm → Nat → Prop) : Prop :=
  isO w a0 9 ∧ F_X5_passengerCount a0 w z (fun r2 w3 z4 => F_L_draw a1 r2 w3 z4 (fun r5 w6 z7 => isO w6 a0 9 ∧ F_X5_ticketCount a0 w6 z7 (fun r9 w10 z11 => isO w10 a0 9 ∧ F_X5_caseCount a0 w10 z11 (fun r13 w14 z15 => F_L_draw a1 9 w14 z15 (fun r16 w17 z18 => ∀ i19 : Int32, i19 = r16 → (i19 = 0 → B_L_acts_72 a0 a1 Q r5 r9 w17 z18 mc ms) ∧
  (i19 = 1 → B_L_acts_179 a0 a1 Q r5 r9 w17 z18 mc ms) ∧
  (i19 = 2 → B_L_acts_179 a0 a1 Q r5 r9 w17 z18 mc ms) ∧
  (i19 = 3 → B_L_acts_179 a0 a1 Q r5 r9 w17 z18 mc ms) ∧
  (i19 = 4 → B_L_acts_476 a0 a1 Q r5 r13 w17 z18 mc ms) ∧
  (i19 = 5 → B_L_acts_476 a0 a1 Q r5 r13 w17 z18 mc ms) ∧
  (i19 = 6 → B_L_acts_648 a0 a1 Q r9 r13 w17 z18 mc ms) ∧
  (i19 = 7 → B_L_acts_816 a0 a1 Q r13 w17 z18 mc ms) ∧
  ((∀ k : Nat, k ≤ 7 → ¬ i19 = nI k) → B_L_acts_986 a0 a1 Q w17 z18 mc ms))))))
set_option maxRecDepth 100000 in
set_option maxHeartbeats 4000000 in
theorem ct_L_acts {l : Launch} {g : Gp} {d : Nat} (hst : l.stackTraces = false) {a0 : Nat} {a1 : Nat} {w : Mm} {z mc ms : Nat} {Q : Int32 → Mm → Nat → Prop} {X : String → Mm → Nat → Prop} (h : F_L_acts a0 a1 w z mc ms Q) : Ct l g yL_acts (.code yL_acts cL_acts 12 (some .boolean)) (d + 9) mc ms [.ref (a0), .ref (a1)] w z (rI Q) X := by
  refine Ct.of hst (by decide) (Nat.le_of_ble_eq_true rfl) (fun C hX hE hg hl hNm => ?_)
  subst hg
  subst hl
  unfold F_L_acts at h
  show VW C 0 [(0, .ref (a0)), (1, .ref (a1))] [] w z mc ms
  refine vw_aload_n hX 1 dL_acts_0 rfl ?_
  refine vw_aload_n hX 0 dL_acts_1 rfl ?_
  obtain ⟨hr1, h⟩ := h
  refine s_L_163 hX hr1 dL_acts_2 (Nat.le_of_ble_eq_true rfl) (ct_X5_passengerCount (d := d + 8) (lst hX) h) (fun r2 w3 z4 h => ?_)
  refine s_L_206 hX dL_acts_5 (Nat.le_of_ble_eq_true rfl) (ct_L_draw (d := d + 8) (lst hX) h) (fun r5 w6 z7 h => ?_)
  refine vw_istore_n hX dL_acts_8 (by decide) rfl ?_
  refine vw_aload_n hX 1 dL_acts_9 rfl ?_
  obtain ⟨hr8, h⟩ := h
  refine s_L_143 hX hr8 dL_acts_10 (Nat.le_of_ble_eq_true rfl) (ct_X5_ticketCount (d := d + 8) (lst hX) h) (fun r9 w10 z11 h => ?_)
  refine vw_istore_n hX dL_acts_13 (by decide) rfl ?_
  refine vw_aload_n hX 2 dL_acts_14 rfl ?_
  obtain ⟨hr12, h⟩ := h
  refine s_L_166 hX hr12 dL_acts_15 (Nat.le_of_ble_eq_true rfl) (ct_X5_caseCount (d := d + 8) (lst hX) h) (fun r13 w14 z15 h => ?_)
  refine vw_istore hX dL_acts_18 (by decide) rfl ?_
  refine vw_aload_n hX 4 dL_acts_20 rfl ?_
  refine vw_bipush hX (v := 9) dL_acts_21 (by decide) ?_
  refine s_L_206 hX dL_acts_23 (Nat.le_of_ble_eq_true rfl) (ct_L_draw (d := d + 8) (lst hX) h) (fun r16 w17 z18 h => ?_)
  refine vw_nmI (fun i19 ei19 => ?_)
  have h := h i19 ei19
  by_cases c0 : i19 = 0
  · have h9 := h.1 c0
    clear h
    have h := h9
    clear h9
    subst c0
    refine vw_swIn hX (tgt := 72) dL_acts_26 (by decide) (by decide) rfl (by decide) ?_
    exact vw_sub [3, 4, 2, 1] rfl (pB_L_acts_72 hX hE _ _ _ _ _ _ h)
  replace h := h.2
  by_cases c1 : i19 = 1
  · have h9 := h.1 c1
    clear h
    have h := h9
    clear h9
    subst c1
    refine vw_swIn hX (tgt := 179) dL_acts_26 (by decide) (by decide) rfl (by decide) ?_
    exact vw_sub [3, 4, 2, 1] rfl (pB_L_acts_179 hX hE _ _ _ _ _ _ h)
  replace h := h.2
  by_cases c2 : i19 = 2
  · have h9 := h.1 c2
    clear h
    have h := h9
    clear h9
    subst c2
    refine vw_swIn hX (tgt := 179) dL_acts_26 (by decide) (by decide) rfl (by decide) ?_
    exact vw_sub [3, 4, 2, 1] rfl (pB_L_acts_179 hX hE _ _ _ _ _ _ h)
  replace h := h.2
  by_cases c3 : i19 = 3
  · have h9 := h.1 c3
    clear h
    have h := h9
    clear h9
    subst c3
    refine vw_swIn hX (tgt := 179) dL_acts_26 (by decide) (by decide) rfl (by decide) ?_
    exact vw_sub [3, 4, 2, 1] rfl (pB_L_acts_179 hX hE _ _ _ _ _ _ h)
  replace h := h.2
  by_cases c4 : i19 = 4
  · have h9 := h.1 c4
    clear h
    have h := h9
    clear h9
    subst c4
    refine vw_swIn hX (tgt := 476) dL_acts_26 (by decide) (by decide) rfl (by decide) ?_
    exact vw_sub [3, 4, 2, 0] rfl (pB_L_acts_476 hX hE _ _ _ _ _ _ h)
  replace h := h.2
  by_cases c5 : i19 = 5
  · have h9 := h.1 c5
    clear h
    have h := h9
    clear h9
    subst c5
    refine vw_swIn hX (tgt := 476) dL_acts_26 (by decide) (by decide) rfl (by decide) ?_
    exact vw_sub [3, 4, 2, 0] rfl (pB_L_acts_476 hX hE _ _ _ _ _ _ h)
  replace h := h.2
  by_cases c6 : i19 = 6
  · have h9 := h.1 c6
    clear h
    have h := h9
    clear h9
    subst c6
    refine vw_swIn hX (tgt := 648) dL_acts_26 (by decide) (by decide) rfl (by decide) ?_
    exact vw_sub [3, 4, 1, 0] rfl (pB_L_acts_648 hX hE _ _ _ _ _ _ h)
  replace h := h.2
  by_cases c7 : i19 = 7
  · have h9 := h.1 c7
    clear h
    have h := h9
    clear h9
    subst c7
    refine vw_swIn hX (tgt := 816) dL_acts_26 (by decide) (by decide) rfl (by decide) ?_
    exact vw_sub [3, 4, 0] rfl (pB_L_acts_816 hX hE _ _ _ _ _ h)
  replace h := h.2
  have hout : ∀ k : Nat, k ≤ 7 → ¬ i19 = nI k := fun k hk => match k, hk with | 0, _ => c0 | 1, _ => c1 | 2, _ => c2 | 3, _ => c3 | 4, _ => c4 | 5, _ => c5 | 6, _ => c6 | 7, _ => c7 | k + 8, hk => absurd hk (by omega)
  have h := h hout
  refine vw_swOut hX (tgt := 986) dL_acts_26 (sw_out 7 (by decide) hout) (by decide) ?_
  exact vw_sub [3, 4] rfl (pB_L_acts_986 hX hE _ _ _ _ h)
def F_J5_inflateIfNeededFor_a7421 (a0 : Nat) (a1 : Nat) (w : Mm) (z : Nat) (Q : Mm → Nat → Prop) : Prop :=
  ∃ v1, fld w a0 1 1 = some (.int (v1)) ∧ isO w a1 0 ∧ F_J0_coder_7d493 a1 w z (fun r3 w4 z5 => (v1 = r3 → Q w4 z5) ∧
  (¬ v1 = r3 → False))
set_option maxRecDepth 100000 in
set_option maxHeartbeats 4000000 in
theorem ct_J5_inflateIfNeededFor_a7421 {l : Launch} {g : Gp} {d : Nat} (hst : l.stackTraces = false) {a0 : Nat} {a1 : Nat} {w : Mm} {z mc ms : Nat} {Q : Mm → Nat → Prop} {X : String → Mm → Nat → Prop} (h : F_J5_inflateIfNeededFor_a7421 a0 a1 w z Q) : Ct l g yJ5_inflateIfNeededFor_a7421 (.code yJ5_inflateIfNeededFor_a7421 cJ5_inflateIfNeededFor_a7421 2 none) (d + 1) mc ms [.ref (a0), .ref (a1)] w z (rV Q) X := by
  refine Ct.of hst (by decide) (Nat.le_of_ble_eq_true rfl) (fun C hX hE hg hl hNm => ?_)
  subst hg
  subst hl
  unfold F_J5_inflateIfNeededFor_a7421 at h
  show VW C 0 [(0, .ref (a0)), (1, .ref (a1))] [] w z mc ms
  refine vw_gets hX (v := .int 1) (by decide) kw_265 dJ5_inflateIfNeededFor_a7421_0 ?_
  refine vw_if_eq hX (tgt := 21) dJ5_inflateIfNeededFor_a7421_3 (by decide) (fun c => absurd c (by decide)) (fun c => ?_)
  refine vw_aload_n hX 0 dJ5_inflateIfNeededFor_a7421_6 rfl ?_
  obtain ⟨v1, hv1, h⟩ := h
  refine g_J5_22 hX hv1 dJ5_inflateIfNeededFor_a7421_7 ?_
  refine vw_aload_n hX 1 dJ5_inflateIfNeededFor_a7421_10 rfl ?_
  obtain ⟨hr2, h⟩ := h
  refine s_J5_40 hX hr2 dJ5_inflateIfNeededFor_a7421_11 (Nat.le_of_ble_eq_true rfl) (ct_J0_coder_7d493 (d := d + 0) (lst hX) h) (fun r3 w4 z5 h => ?_)
  refine vw_icmp_eq hX (tgt := 21) dJ5_inflateIfNeededFor_a7421_14 (by decide) (fun c6 => ?_) (fun c6 => ?_)
  · have h := h.1 c6
    exact vw_vret hX hE dJ5_inflateIfNeededFor_a7421_21 ⟨rfl, h⟩
  · exact (h.2 c6).elim
def F_J0_getBytes_840e7 (a0 : Nat) (a1 : Nat) (a2 : Int32) (a3 : Int32) (w : Mm) (z : Nat) (Q : Mm → Nat → Prop) : Prop :=
  isO w a0 0 ∧ F_J0_coder_7d493 a0 w z (fun r2 w3 z4 => (¬ r2 = a3 → False) ∧
  (r2 = a3 → ∃ q6, fld w3 a0 0 0 = some (.ref (q6)) ∧ ∃ q7, fld w3 a0 0 0 = some (.ref (q7)) ∧ ∃ n9 f8, arI w3 q7 1 = some (n9, f8) ∧ ∃ n11 f10 n13 f12, arI w3 q6 1 = some (n11, f10) ∧ arW w3 a1 1 = some (n13, f12) ∧ ¬ (0 : Int32) < 0 ∧ ¬ ((a2 <<< (a3 &&& 31)) : Int32) < 0 ∧ ¬ ((nI n9) : Int32) < 0 ∧ (0 : Int32).toNatClampNeg + ((nI n9) : Int32).toNatClampNeg ≤ n11 ∧ ((a2 <<< (a3 &&& 31)) : Int32).toNatClampNeg + ((nI n9) : Int32).toNatClampNeg ≤ n13 ∧ sb_Fit f10 ∧ ∀ w14, w14 = mset w3 a1 (.inr (1, n13, .inl (va_cpy f10 f12 (0 : Int32).toNatClampNeg ((a2 <<< (a3 &&& 31)) : Int32).toNatClampNeg ((nI n9) : Int32).toNatClampNeg))) → Q w14 z4))
set_option maxRecDepth 100000 in
set_option maxHeartbeats 4000000 in
theorem ct_J0_getBytes_840e7 {l : Launch} {g : Gp} {d : Nat} (hst : l.stackTraces = false) {a0 : Nat} {a1 : Nat} {a2 : Int32} {a3 : Int32} {w : Mm} {z mc ms : Nat} {Q : Mm → Nat → Prop} {X : String → Mm → Nat → Prop} (h : F_J0_getBytes_840e7 a0 a1 a2 a3 w z Q) : Ct l g yJ0_getBytes_840e7 (.code yJ0_getBytes_840e7 cJ0_getBytes_840e7 4 none) (d + 2) mc ms [.ref (a0), .ref (a1), .int (a2), .int (a3)] w z (rV Q) X := by
  refine Ct.of hst (by decide) (Nat.le_of_ble_eq_true rfl) (fun C hX hE hg hl hNm => ?_)
  subst hg
  subst hl
  unfold F_J0_getBytes_840e7 at h
  show VW C 0 [(0, .ref (a0)), (1, .ref (a1)), (2, .int (a2)), (3, .int (a3))] [] w z mc ms
  refine vw_aload_n hX 0 dJ0_getBytes_840e7_0 rfl ?_
  obtain ⟨hr1, h⟩ := h
  refine s_J0_335 hX hr1 dJ0_getBytes_840e7_1 (Nat.le_of_ble_eq_true rfl) (ct_J0_coder_7d493 (d := d + 1) (lst hX) h) (fun r2 w3 z4 h => ?_)
  refine vw_iload_n hX 3 dJ0_getBytes_840e7_4 rfl ?_
  refine vw_icmp_ne hX (tgt := 28) dJ0_getBytes_840e7_5 (by decide) (fun c5 => ?_) (fun c5 => ?_)
  · exact (h.1 c5).elim
  · have h := h.2 c5
    refine vw_aload_n hX 0 dJ0_getBytes_840e7_8 rfl ?_
    obtain ⟨q6, hq6, h⟩ := h
    refine g_J0_9 hX hq6 dJ0_getBytes_840e7_9 ?_
    refine vw_iconst hX (v := 0) dJ0_getBytes_840e7_12 (by decide) ?_
    refine vw_aload_n hX 1 dJ0_getBytes_840e7_13 rfl ?_
    refine vw_iload_n hX 2 dJ0_getBytes_840e7_14 rfl ?_
    refine vw_iload_n hX 3 dJ0_getBytes_840e7_15 rfl ?_
    refine vw_ishl hX dJ0_getBytes_840e7_16 ?_
    refine vw_aload_n hX 0 dJ0_getBytes_840e7_17 rfl ?_
    obtain ⟨q7, hq7, h⟩ := h
    refine g_J0_9 hX hq7 dJ0_getBytes_840e7_18 ?_
    obtain ⟨n9, f8, hf8, h⟩ := h
    refine vw_alen hX 1 (by decide) hf8 dJ0_getBytes_840e7_21 ?_
    obtain ⟨n11, f10, n13, f12, hc1, hc2, hc3, hc4, hc5, hc6, hc7, hft, h⟩ := h
    refine vw_copy hX 1 (by decide) kw_677 rfl hc1 hc2 hc3 hc4 hc5 hc6 hc7 (fun i _ => hft _) (Nat.le_of_ble_eq_true rfl) dJ0_getBytes_840e7_22 ?_
    refine vw_nmW (fun w14 ew14 => ?_)
    have h := h w14 ew14
    refine vw_goto hX (tgt := 43) dJ0_getBytes_840e7_25 (by decide) ?_
    exact vw_vret hX hE dJ0_getBytes_840e7_43 ⟨rfl, h⟩
def F_J5_putStringAt_47b60 (a0 : Nat) (a1 : Int32) (a2 : Nat) (w : Mm) (z : Nat) (Q : Mm → Nat → Prop) : Prop :=
  isO w a0 1 ∧ F_J5_inflateIfNeededFor_a7421 a0 a2 w z (fun w3 z4 => ∃ q5, fld w3 a0 1 0 = some (.ref (q5)) ∧ ∃ v6, fld w3 a0 1 1 = some (.int (v6)) ∧ isO w3 a2 0 ∧ F_J0_getBytes_840e7 a2 q5 a1 v6 w3 z4 (fun w9 z10 => Q w9 z10))
set_option maxRecDepth 100000 in
set_option maxHeartbeats 4000000 in
theorem ct_J5_putStringAt_47b60 {l : Launch} {g : Gp} {d : Nat} (hst : l.stackTraces = false) {a0 : Nat} {a1 : Int32} {a2 : Nat} {w : Mm} {z mc ms : Nat} {Q : Mm → Nat → Prop} {X : String → Mm → Nat → Prop} (h : F_J5_putStringAt_47b60 a0 a1 a2 w z Q) : Ct l g yJ5_putStringAt_47b60 (.code yJ5_putStringAt_47b60 cJ5_putStringAt_47b60 3 none) (d + 3) mc ms [.ref (a0), .int (a1), .ref (a2)] w z (rV Q) X := by
  refine Ct.of hst (by decide) (Nat.le_of_ble_eq_true rfl) (fun C hX hE hg hl hNm => ?_)
  subst hg
  subst hl
  unfold F_J5_putStringAt_47b60 at h
  show VW C 0 [(0, .ref (a0)), (1, .int (a1)), (2, .ref (a2))] [] w z mc ms
  refine vw_aload_n hX 0 dJ5_putStringAt_47b60_0 rfl ?_
  refine vw_aload_n hX 2 dJ5_putStringAt_47b60_1 rfl ?_
  obtain ⟨hr1, h⟩ := h
  refine s_J5_397 hX hr1 dJ5_putStringAt_47b60_2 (Nat.le_of_ble_eq_true rfl) (ct_J5_inflateIfNeededFor_a7421 (d := d + 1) (lst hX) h) (fun w3 z4 h => ?_)
  refine vw_aload_n hX 2 dJ5_putStringAt_47b60_5 rfl ?_
  refine vw_aload_n hX 0 dJ5_putStringAt_47b60_6 rfl ?_
  obtain ⟨q5, hq5, h⟩ := h
  refine g_J5_15 hX hq5 dJ5_putStringAt_47b60_7 ?_
  refine vw_iload_n hX 1 dJ5_putStringAt_47b60_10 rfl ?_
  refine vw_aload_n hX 0 dJ5_putStringAt_47b60_11 rfl ?_
  obtain ⟨v6, hv6, h⟩ := h
  refine g_J5_22 hX hv6 dJ5_putStringAt_47b60_12 ?_
  obtain ⟨hr7, h⟩ := h
  refine s_J5_399 hX hr7 dJ5_putStringAt_47b60_15 (Nat.le_of_ble_eq_true rfl) (ct_J0_getBytes_840e7 (d := d + 0) (lst hX) h) (fun w9 z10 h => ?_)
  exact vw_vret hX hE dJ5_putStringAt_47b60_18 ⟨rfl, h⟩
def F_J5_append_cf1ce (a0 : Nat) (a1 : Nat) (w : Mm) (z : Nat) (mc ms : Nat) (Q : Nat → Mm → Nat → Prop) : Prop :=
  isO w a1 0 ∧ F_J0_length_8abf5 a1 w z (fun r2 w3 z4 => ∃ v5, fld w3 a0 1 3 = some (.int (v5)) ∧ isO w3 a0 1 ∧ ∃ k10 k11, k10 ≤ mc ∧ k11 ≤ ms ∧ F_J5_ensureCapacityInternal_d00df a0 ((v5 + r2)) w3 z4 k10 k11 (fun w8 z9 => ∃ v12, fld w8 a0 1 3 = some (.int (v12)) ∧ isO w8 a0 1 ∧ F_J5_putStringAt_47b60 a0 v12 a1 w8 z9 (fun w15 z16 => ∃ v17, fld w15 a0 1 3 = some (.int (v17)) ∧ ∃ f18, obj w15 a0 1 = some f18 ∧ 3 < f18.length ∧ ∀ w19, w19 = mset w15 a0 (.inl (1, f18.set 3 (.int ((v17 + r2))))) → Q a0 w19 z16)))
set_option maxRecDepth 100000 in
set_option maxHeartbeats 4000000 in
theorem ct_J5_append_cf1ce {l : Launch} {g : Gp} {d : Nat} (hst : l.stackTraces = false) {a0 : Nat} {a1 : Nat} {w : Mm} {z mc ms : Nat} {Q : Nat → Mm → Nat → Prop} {X : String → Mm → Nat → Prop} (h : F_J5_append_cf1ce a0 a1 w z mc ms Q) : Ct l g yJ5_append_cf1ce (.code yJ5_append_cf1ce cJ5_append_cf1ce 3 (some (.object "java/lang/AbstractStringBuilder"))) (d + 4) mc ms [.ref (a0), .ref (a1)] w z (rR Q) X := by
  refine Ct.of hst (by decide) (Nat.le_of_ble_eq_true rfl) (fun C hX hE hg hl hNm => ?_)
  subst hg
  subst hl
  unfold F_J5_append_cf1ce at h
  show VW C 0 [(0, .ref (a0)), (1, .ref (a1))] [] w z mc ms
  refine vw_aload_n hX 1 dJ5_append_cf1ce_0 rfl ?_
  refine vw_ifnonnull hX (tgt := 9) dJ5_append_cf1ce_1 (by decide) ?_
  refine vw_aload_n hX 1 dJ5_append_cf1ce_9 rfl ?_
  obtain ⟨hr1, h⟩ := h
  refine s_J5_32 hX hr1 dJ5_append_cf1ce_10 (Nat.le_of_ble_eq_true rfl) (ct_J0_length_8abf5 (d := d + 2) (lst hX) h) (fun r2 w3 z4 h => ?_)
  refine vw_istore_n hX dJ5_append_cf1ce_13 (by decide) rfl ?_
  refine vw_aload_n hX 1 dJ5_append_cf1ce_14 rfl ?_
  refine vw_aload_n hX 1 dJ5_append_cf1ce_15 rfl ?_
  obtain ⟨v5, hv5, h⟩ := h
  refine g_J5_79 hX hv5 dJ5_append_cf1ce_16 ?_
  refine vw_iload_n hX 0 dJ5_append_cf1ce_19 rfl ?_
  refine vw_iadd hX dJ5_append_cf1ce_20 ?_
  obtain ⟨hr6, h⟩ := h
  obtain ⟨k10, k11, hm1, hm2, h⟩ := h
  refine s_J5_100 hX hr6 dJ5_append_cf1ce_21 (Nat.le_of_ble_eq_true rfl) hm1 hm2 (ct_J5_ensureCapacityInternal_d00df (d := d + 0) (lst hX) h) (fun w8 z9 h => ?_)
  refine vw_aload_n hX 1 dJ5_append_cf1ce_24 rfl ?_
  refine vw_aload_n hX 1 dJ5_append_cf1ce_25 rfl ?_
  obtain ⟨v12, hv12, h⟩ := h
  refine g_J5_79 hX hv12 dJ5_append_cf1ce_26 ?_
  refine vw_aload_n hX 2 dJ5_append_cf1ce_29 rfl ?_
  obtain ⟨hr13, h⟩ := h
  refine s_J5_208 hX hr13 dJ5_append_cf1ce_30 (Nat.le_of_ble_eq_true rfl) (ct_J5_putStringAt_47b60 (d := d + 0) (lst hX) h) (fun w15 z16 h => ?_)
  refine vw_aload_n hX 1 dJ5_append_cf1ce_33 rfl ?_
  refine vw_dup hX dJ5_append_cf1ce_34 rfl ?_
  obtain ⟨v17, hv17, h⟩ := h
  refine g_J5_79 hX hv17 dJ5_append_cf1ce_35 ?_
  refine vw_iload_n hX 0 dJ5_append_cf1ce_38 rfl ?_
  refine vw_iadd hX dJ5_append_cf1ce_39 ?_
  obtain ⟨f18, hf18, hlf18, h⟩ := h
  refine p_J5_79 hX hf18 hlf18 dJ5_append_cf1ce_40 ?_
  refine vw_nmW (fun w19 ew19 => ?_)
  have h := h w19 ew19
  refine vw_aload_n hX 1 dJ5_append_cf1ce_43 rfl ?_
  exact vw_aret hX hE (Or.inl ⟨_, rfl⟩) dJ5_append_cf1ce_44 ⟨_, rfl, h⟩
def F_J4_append_15ec4 (a0 : Nat) (a1 : Nat) (w : Mm) (z : Nat) (mc ms : Nat) (Q : Nat → Mm → Nat → Prop) : Prop :=
  isO w a0 1 ∧ ∃ k5 k6, k5 ≤ mc ∧ k6 ≤ ms ∧ F_J5_append_cf1ce a0 a1 w z k5 k6 (fun r2 w3 z4 => Q a0 w3 z4)
set_option maxRecDepth 100000 in
set_option maxHeartbeats 4000000 in
theorem ct_J4_append_15ec4 {l : Launch} {g : Gp} {d : Nat} (hst : l.stackTraces = false) {a0 : Nat} {a1 : Nat} {w : Mm} {z mc ms : Nat} {Q : Nat → Mm → Nat → Prop} {X : String → Mm → Nat → Prop} (h : F_J4_append_15ec4 a0 a1 w z mc ms Q) : Ct l g yJ4_append_15ec4 (.code yJ4_append_15ec4 cJ4_append_15ec4 2 (some (.object "java/lang/StringBuilder"))) (d + 5) mc ms [.ref (a0), .ref (a1)] w z (rR Q) X := by
  refine Ct.of hst (by decide) (Nat.le_of_ble_eq_true rfl) (fun C hX hE hg hl hNm => ?_)
  subst hg
  subst hl
  unfold F_J4_append_15ec4 at h
  show VW C 0 [(0, .ref (a0)), (1, .ref (a1))] [] w z mc ms
  refine vw_aload_n hX 0 dJ4_append_15ec4_0 rfl ?_
  refine vw_aload_n hX 1 dJ4_append_15ec4_1 rfl ?_
  obtain ⟨hr1, h⟩ := h
  obtain ⟨k5, k6, hm1, hm2, h⟩ := h
  refine s_J4_29 hX hr1 dJ4_append_15ec4_2 (Nat.le_of_ble_eq_true rfl) hm1 hm2 (ct_J5_append_cf1ce (d := d + 0) (lst hX) h) (fun r2 w3 z4 h => ?_)
  refine vw_pop hX dJ4_append_15ec4_5 rfl ?_
  refine vw_aload_n hX 0 dJ4_append_15ec4_6 rfl ?_
  exact vw_aret hX hE (Or.inl ⟨_, rfl⟩) dJ4_append_15ec4_7 ⟨_, rfl, h⟩
def F_J4_append_cf1ce (a0 : Nat) (a1 : Nat) (w : Mm) (z : Nat) (mc ms : Nat) (Q : Nat → Mm → Nat → Prop) : Prop :=
  isO w a0 1 ∧ ∃ k5 k6, k5 ≤ mc ∧ k6 ≤ ms ∧ F_J4_append_15ec4 a0 a1 w z k5 k6 (fun r2 w3 z4 => Q r2 w3 z4)
set_option maxRecDepth 100000 in
set_option maxHeartbeats 4000000 in
theorem ct_J4_append_cf1ce {l : Launch} {g : Gp} {d : Nat} (hst : l.stackTraces = false) {a0 : Nat} {a1 : Nat} {w : Mm} {z mc ms : Nat} {Q : Nat → Mm → Nat → Prop} {X : String → Mm → Nat → Prop} (h : F_J4_append_cf1ce a0 a1 w z mc ms Q) : Ct l g yJ4_append_cf1ce (.code yJ4_append_cf1ce cJ4_append_cf1ce 2 (some (.object "java/lang/AbstractStringBuilder"))) (d + 6) mc ms [.ref (a0), .ref (a1)] w z (rR Q) X := by
  refine Ct.of hst (by decide) (Nat.le_of_ble_eq_true rfl) (fun C hX hE hg hl hNm => ?_)
  subst hg
  subst hl
  unfold F_J4_append_cf1ce at h
  show VW C 0 [(0, .ref (a0)), (1, .ref (a1))] [] w z mc ms
  refine vw_aload_n hX 0 dJ4_append_cf1ce_0 rfl ?_
  refine vw_aload_n hX 1 dJ4_append_cf1ce_1 rfl ?_
  obtain ⟨hr1, h⟩ := h
  obtain ⟨k5, k6, hm1, hm2, h⟩ := h
  refine s_J4_23 hX hr1 dJ4_append_cf1ce_2 (Nat.le_of_ble_eq_true rfl) hm1 hm2 (ct_J4_append_15ec4 (d := d + 0) (lst hX) h) (fun r2 w3 z4 h => ?_)
  exact vw_aret hX hE (Or.inl ⟨_, rfl⟩) dJ4_append_cf1ce_5 ⟨_, rfl, h⟩
def F_J5_init_a7421 (a0 : Nat) (a1 : Nat) (w : Mm) (z : Nat) (mc ms : Nat) (Q : Mm → Nat → Prop) : Prop :=
  isO w a1 0 ∧ F_J0_length_8abf5 a1 w z (fun r2 w3 z4 => (2147483631 ≤ r2 → False) ∧
  (¬ 2147483631 ≤ r2 → ∀ i6 : Int32, i6 = (r2 + 16) → isO w3 a1 0 ∧ F_J0_coder_7d493 a1 w3 z4 (fun r8 w9 z10 => narrow .byte (.int r8) = .int r8 ∧ ∃ f11, obj w9 a0 1 = some f11 ∧ 1 < f11.length ∧ ∀ w13, w13 = mset w9 a0 (.inl (1, f11.set 1 (.int (r8)))) → (¬ r8 = 0 → False) ∧
  (r8 = 0 → ¬ (i6 : Int32) < 0 ∧ ∃ n16, (i6 : Int32).toNatClampNeg = n16 ∧ n16 ≤ 10000000 ∧ 1 ≤ mc ∧ n16 ≤ ms ∧ ∀ w15, w15 = mset w13 z10 (.inr (1, n16, .inl (fun _ => 0))) → ∃ f17, obj w15 a0 1 = some f17 ∧ 0 < f17.length ∧ ∀ w18, w18 = mset w15 a0 (.inl (1, f17.set 0 (.ref (z10)))) → isO w18 a0 1 ∧ ∃ k23 k24, k23 ≤ (mc - 1) ∧ k24 ≤ (ms - n16) ∧ F_J4_append_cf1ce a0 a1 w18 ((z10 + 1)) k23 k24 (fun r20 w21 z22 => Q w21 z22)))))
set_option maxRecDepth 100000 in
set_option maxHeartbeats 4000000 in
theorem ct_J5_init_a7421 {l : Launch} {g : Gp} {d : Nat} (hst : l.stackTraces = false) {a0 : Nat} {a1 : Nat} {w : Mm} {z mc ms : Nat} {Q : Mm → Nat → Prop} {X : String → Mm → Nat → Prop} (h : F_J5_init_a7421 a0 a1 w z mc ms Q) : Ct l g yJ5_init_a7421 (.code yJ5_init_a7421 cJ5_init_a7421 5 none) (d + 7) mc ms [.ref (a0), .ref (a1)] w z (rV Q) X := by
  refine Ct.of hst (by decide) (Nat.le_of_ble_eq_true rfl) (fun C hX hE hg hl hNm => ?_)
  subst hg
  subst hl
  unfold F_J5_init_a7421 at h
  show VW C 0 [(0, .ref (a0)), (1, .ref (a1))] [] w z mc ms
  refine vw_aload_n hX 0 dJ5_init_a7421_0 rfl ?_
  refine vw_objInit hX kw_264 kw_38 kw_39 (Nat.le_of_ble_eq_true rfl) dJ5_init_a7421_1 ?_
  refine vw_aload_n hX 1 dJ5_init_a7421_4 rfl ?_
  obtain ⟨hr1, h⟩ := h
  refine s_J5_32 hX hr1 dJ5_init_a7421_5 (Nat.le_of_ble_eq_true rfl) (ct_J0_length_8abf5 (d := d + 5) (lst hX) h) (fun r2 w3 z4 h => ?_)
  refine vw_istore_n hX dJ5_init_a7421_8 (by decide) rfl ?_
  refine vw_iload_n hX 0 dJ5_init_a7421_9 rfl ?_
  refine vw_ldcI hX kw_1365 dJ5_init_a7421_10 ?_
  refine vw_icmp_ge hX (tgt := 22) dJ5_init_a7421_12 (by decide) (fun c5 => ?_) (fun c5 => ?_)
  · exact (h.1 c5).elim
  · have h := h.2 c5
    refine vw_iload_n hX 0 dJ5_init_a7421_15 rfl ?_
    refine vw_bipush hX (v := 16) dJ5_init_a7421_16 (by decide) ?_
    refine vw_iadd hX dJ5_init_a7421_18 ?_
    refine vw_goto hX (tgt := 24) dJ5_init_a7421_19 (by decide) ?_
    refine vw_nmI (fun i6 ei6 => ?_)
    have h := h i6 ei6
    refine vw_istore_n hX dJ5_init_a7421_24 (by decide) rfl ?_
    refine vw_aload_n hX 3 dJ5_init_a7421_25 rfl ?_
    obtain ⟨hr7, h⟩ := h
    refine s_J5_40 hX hr7 dJ5_init_a7421_26 (Nat.le_of_ble_eq_true rfl) (ct_J0_coder_7d493 (d := d + 6) (lst hX) h) (fun r8 w9 z10 h => ?_)
    refine vw_istore hX dJ5_init_a7421_29 (by decide) rfl ?_
    refine vw_aload_n hX 3 dJ5_init_a7421_31 rfl ?_
    refine vw_iload hX 0 dJ5_init_a7421_32 rfl ?_
    obtain ⟨hb12, h⟩ := h
    obtain ⟨f11, hf11, hlf11, h⟩ := h
    refine p_J5_22 hX hf11 hlf11 hb12 (fit_byte hb12) dJ5_init_a7421_34 ?_
    refine vw_nmW (fun w13 ew13 => ?_)
    have h := h w13 ew13
    refine vw_aload_n hX 3 dJ5_init_a7421_37 rfl ?_
    refine vw_iload hX 0 dJ5_init_a7421_38 rfl ?_
    refine vw_if_ne hX (tgt := 49) dJ5_init_a7421_40 (by decide) (fun c14 => ?_) (fun c14 => ?_)
    · exact (h.1 c14).elim
    · have h := h.2 c14
      refine vw_iload_n hX 1 dJ5_init_a7421_43 rfl ?_
      obtain ⟨hn0, n16, hN, hb, hm1, hm2, h⟩ := h
      refine vw_newB hX kw_90 hn0 hN hb hm1 hm2 dJ5_init_a7421_44 ?_
      refine vw_nmW (fun w15 ew15 => ?_)
      have h := h w15 ew15
      refine vw_goto hX (tgt := 53) dJ5_init_a7421_46 (by decide) ?_
      obtain ⟨f17, hf17, hlf17, h⟩ := h
      refine p_J5_15 hX hf17 hlf17 dJ5_init_a7421_53 ?_
      refine vw_nmW (fun w18 ew18 => ?_)
      have h := h w18 ew18
      refine vw_aload_n hX 3 dJ5_init_a7421_56 rfl ?_
      refine vw_aload_n hX 4 dJ5_init_a7421_57 rfl ?_
      obtain ⟨hr19, h⟩ := h
      obtain ⟨k23, k24, hm1, hm2, h⟩ := h
      refine s_J5_43 hX hr19 dJ5_init_a7421_58 (Nat.le_of_ble_eq_true rfl) hm1 hm2 (ct_J4_append_cf1ce (d := d + 0) (lst hX) h) (fun r20 w21 z22 h => ?_)
      refine vw_pop hX dJ5_init_a7421_61 rfl ?_
      exact vw_vret hX hE dJ5_init_a7421_62 ⟨rfl, h⟩
def F_J4_init_a7421 (a0 : Nat) (a1 : Nat) (w : Mm) (z : Nat) (mc ms : Nat) (Q : Mm → Nat → Prop) : Prop :=
  ∃ k4 k5, k4 ≤ mc ∧ k5 ≤ ms ∧ F_J5_init_a7421 a0 a1 w z k4 k5 (fun w2 z3 => Q w2 z3)
set_option maxRecDepth 100000 in
set_option maxHeartbeats 4000000 in
theorem ct_J4_init_a7421 {l : Launch} {g : Gp} {d : Nat} (hst : l.stackTraces = false) {a0 : Nat} {a1 : Nat} {w : Mm} {z mc ms : Nat} {Q : Mm → Nat → Prop} {X : String → Mm → Nat → Prop} (h : F_J4_init_a7421 a0 a1 w z mc ms Q) : Ct l g yJ4_init_a7421 (.code yJ4_init_a7421 cJ4_init_a7421 2 none) (d + 8) mc ms [.ref (a0), .ref (a1)] w z (rV Q) X := by
  refine Ct.of hst (by decide) (Nat.le_of_ble_eq_true rfl) (fun C hX hE hg hl hNm => ?_)
  subst hg
  subst hl
  unfold F_J4_init_a7421 at h
  show VW C 0 [(0, .ref (a0)), (1, .ref (a1))] [] w z mc ms
  refine vw_aload_n hX 0 dJ4_init_a7421_0 rfl ?_
  refine vw_aload_n hX 1 dJ4_init_a7421_1 rfl ?_
  obtain ⟨k4, k5, hm1, hm2, h⟩ := h
  refine s_J4_7 hX dJ4_init_a7421_2 (Nat.le_of_ble_eq_true rfl) hm1 hm2 (ct_J5_init_a7421 (d := d + 0) (lst hX) h) (fun w2 z3 h => ?_)
  exact vw_vret hX hE dJ4_init_a7421_5 ⟨rfl, h⟩
def B_J6_stringSize_0f7a4_16  (Q : Int32 → Mm → Nat → Prop) : Nat → Int32 → Int32 → Int32 → Int32 → Mm → Nat → Prop
  | 0, _, _, _, _, _, _ => False
  | n + 1, x0, x1, x2, x3, w, z => (10 ≤ x3 → Q ((10 + x1)) w z) ∧
  (¬ 10 ≤ x3 → (x0 ≤ x2 → ∀ i3 : Int32, i3 = (10 * x2) → B_J6_stringSize_0f7a4_16 Q n x0 x1 i3 ((x3 + 1)) w z) ∧
  (¬ x0 ≤ x2 → Q ((x3 + x1)) w z))
set_option maxRecDepth 100000 in
set_option maxHeartbeats 4000000 in
theorem pB_J6_stringSize_0f7a4_16 {C : Cx} {d : Nat}  {Q : Int32 → Mm → Nat → Prop} {X : String → Mm → Nat → Prop} (hX : CX C cJ6_stringSize_0f7a4 RJ6 4 (some .int) [] (d + 0)) (hE : EQ C (rI Q) X) : ∀ (n : Nat) (x0 : Int32) (x1 : Int32) (x2 : Int32) (x3 : Int32) (w : Mm) (z mc ms : Nat), B_J6_stringSize_0f7a4_16 Q n x0 x1 x2 x3 w z → VW C 16 [(0, .int (x0)), (1, .int (x1)), (2, .int (x2)), (3, .int (x3))] [] w z mc ms := by
  intro n
  induction n with
  | zero => intro x0 x1 x2 x3 w z mc ms h; exact False.elim h
  | succ n ih =>
    intro x0 x1 x2 x3 w z mc ms h
    unfold B_J6_stringSize_0f7a4_16 at h
    refine vw_iload_n hX 3 dJ6_stringSize_0f7a4_16 rfl ?_
    refine vw_bipush hX (v := 10) dJ6_stringSize_0f7a4_17 (by decide) ?_
    refine vw_icmp_ge hX (tgt := 42) dJ6_stringSize_0f7a4_19 (by decide) (fun c1 => ?_) (fun c1 => ?_)
    · have h := h.1 c1
      refine vw_bipush hX (v := 10) dJ6_stringSize_0f7a4_42 (by decide) ?_
      refine vw_iload_n hX 1 dJ6_stringSize_0f7a4_44 rfl ?_
      refine vw_iadd hX dJ6_stringSize_0f7a4_45 ?_
      exact vw_iret hX hE dJ6_stringSize_0f7a4_46 ⟨_, rfl, h⟩
    · have h := h.2 c1
      refine vw_iload_n hX 0 dJ6_stringSize_0f7a4_22 rfl ?_
      refine vw_iload_n hX 2 dJ6_stringSize_0f7a4_23 rfl ?_
      refine vw_icmp_le hX (tgt := 31) dJ6_stringSize_0f7a4_24 (by decide) (fun c2 => ?_) (fun c2 => ?_)
      · have h := h.1 c2
        refine vw_bipush hX (v := 10) dJ6_stringSize_0f7a4_31 (by decide) ?_
        refine vw_iload_n hX 2 dJ6_stringSize_0f7a4_33 rfl ?_
        refine vw_imul hX dJ6_stringSize_0f7a4_34 ?_
        refine vw_nmI (fun i3 ei3 => ?_)
        have h := h i3 ei3
        refine vw_istore_n hX dJ6_stringSize_0f7a4_35 (by decide) rfl ?_
        refine vw_iinc hX 3 (v := x3 + 1) dJ6_stringSize_0f7a4_36 rfl rfl (by decide) rfl ?_
        refine vw_goto hX (tgt := 16) dJ6_stringSize_0f7a4_39 (by decide) ?_
        exact vw_sub [2, 3, 1, 0] rfl (ih _ _ _ _ _ _ _ _ h)
      · have h := h.2 c2
        refine vw_iload_n hX 3 dJ6_stringSize_0f7a4_27 rfl ?_
        refine vw_iload_n hX 1 dJ6_stringSize_0f7a4_28 rfl ?_
        refine vw_iadd hX dJ6_stringSize_0f7a4_29 ?_
        exact vw_iret hX hE dJ6_stringSize_0f7a4_30 ⟨_, rfl, h⟩
def B_J6_stringSize_0f7a4_11  (Q : Int32 → Mm → Nat → Prop) (x0 : Int32) (x1 : Int32) (w : Mm) (z : Nat) : Prop :=
  ∃ nn, B_J6_stringSize_0f7a4_16 Q nn x0 x1 (-10) 1 w z
set_option maxRecDepth 100000 in
set_option maxHeartbeats 4000000 in
theorem pB_J6_stringSize_0f7a4_11 {C : Cx} {d : Nat}  {Q : Int32 → Mm → Nat → Prop} {X : String → Mm → Nat → Prop} (hX : CX C cJ6_stringSize_0f7a4 RJ6 4 (some .int) [] (d + 0)) (hE : EQ C (rI Q) X) : ∀ (x0 : Int32) (x1 : Int32) (w : Mm) (z mc ms : Nat), B_J6_stringSize_0f7a4_11 Q x0 x1 w z → VW C 11 [(0, .int (x0)), (1, .int (x1))] [] w z mc ms := by
  intro x0 x1 w z mc ms h
  unfold B_J6_stringSize_0f7a4_11 at h
  refine vw_bipush hX (v := (-10)) dJ6_stringSize_0f7a4_11 (by decide) ?_
  refine vw_istore_n hX dJ6_stringSize_0f7a4_13 (by decide) rfl ?_
  refine vw_iconst hX (v := 1) dJ6_stringSize_0f7a4_14 (by decide) ?_
  refine vw_istore_n hX dJ6_stringSize_0f7a4_15 (by decide) rfl ?_
  obtain ⟨nn, h⟩ := h
  exact vw_sub [2, 3, 1, 0] rfl (pB_J6_stringSize_0f7a4_16 hX hE nn _ _ _ _ _ _ _ _ h)
def F_J6_stringSize_0f7a4 (a0 : Int32) (w : Mm) (z : Nat) (Q : Int32 → Mm → Nat → Prop) : Prop :=
  (a0 < 0 → B_J6_stringSize_0f7a4_11 Q a0 1 w z) ∧
  (¬ a0 < 0 → ∀ i2 : Int32, i2 = (-a0) → B_J6_stringSize_0f7a4_11 Q i2 0 w z)
set_option maxRecDepth 100000 in
set_option maxHeartbeats 4000000 in
theorem ct_J6_stringSize_0f7a4 {l : Launch} {g : Gp} {d : Nat} (hst : l.stackTraces = false) {a0 : Int32} {w : Mm} {z mc ms : Nat} {Q : Int32 → Mm → Nat → Prop} {X : String → Mm → Nat → Prop} (h : F_J6_stringSize_0f7a4 a0 w z Q) : Ct l g yJ6_stringSize_0f7a4 (.code yJ6_stringSize_0f7a4 cJ6_stringSize_0f7a4 4 (some .int)) (d + 0) mc ms [.int (a0)] w z (rI Q) X := by
  refine Ct.of hst (by decide) (Nat.le_of_ble_eq_true rfl) (fun C hX hE hg hl hNm => ?_)
  subst hg
  subst hl
  unfold F_J6_stringSize_0f7a4 at h
  show VW C 0 [(0, .int (a0))] [] w z mc ms
  refine vw_iconst hX (v := 1) dJ6_stringSize_0f7a4_0 (by decide) ?_
  refine vw_istore_n hX dJ6_stringSize_0f7a4_1 (by decide) rfl ?_
  refine vw_iload_n hX 1 dJ6_stringSize_0f7a4_2 rfl ?_
  refine vw_if_lt hX (tgt := 11) dJ6_stringSize_0f7a4_3 (by decide) (fun c1 => ?_) (fun c1 => ?_)
  · have h := h.1 c1
    exact vw_sub [1, 0] rfl (pB_J6_stringSize_0f7a4_11 hX hE _ _ _ _ _ _ h)
  · have h := h.2 c1
    refine vw_iconst hX (v := 0) dJ6_stringSize_0f7a4_6 (by decide) ?_
    refine vw_istore_n hX dJ6_stringSize_0f7a4_7 (by decide) rfl ?_
    refine vw_iload_n hX 1 dJ6_stringSize_0f7a4_8 rfl ?_
    refine vw_ineg hX dJ6_stringSize_0f7a4_9 ?_
    refine vw_nmI (fun i2 ei2 => ?_)
    have h := h i2 ei2
    refine vw_istore_n hX dJ6_stringSize_0f7a4_10 (by decide) rfl ?_
    exact pB_J6_stringSize_0f7a4_11 hX hE _ _ _ _ _ _ h
def B_J6_getChars_ba4f3_104 (a1 : Int32) (a2 : Nat) (Q : Int32 → Mm → Nat → Prop) (x5 : Int32) (x6 : Int32) (w : Mm) (z : Nat) : Prop :=
  (x6 = 0 → Q x5 w z) ∧
  (¬ x6 = 0 → ∃ n3 f2, arW w a2 1 = some (n3, f2) ∧ vp_in ((x5 + (-1))) n3 ∧ ∀ w4, w4 = mset w a2 (.inr (1, n3, .inl (upd f2 ((x5 + (-1)) : Int32).toNatClampNeg (vp_nar .byte 45)))) → Q ((x5 + (-1))) w4 z)
set_option maxRecDepth 100000 in
set_option maxHeartbeats 4000000 in
theorem pB_J6_getChars_ba4f3_104 {C : Cx} {d : Nat} {a1 : Int32} {a2 : Nat} {Q : Int32 → Mm → Nat → Prop} {X : String → Mm → Nat → Prop} (hX : CX C cJ6_getChars_ba4f3 RJ6 7 (some .int) [] (d + 0)) (hE : EQ C (rI Q) X) : ∀ (x5 : Int32) (x6 : Int32) (w : Mm) (z mc ms : Nat), B_J6_getChars_ba4f3_104 a1 a2 Q x5 x6 w z → VW C 104 [(1, .int (a1)), (2, .ref (a2)), (5, .int (x5)), (6, .int (x6))] [] w z mc ms := by
  intro x5 x6 w z mc ms h
  unfold B_J6_getChars_ba4f3_104 at h
  refine vw_iload hX 3 dJ6_getChars_ba4f3_104 rfl ?_
  refine vw_if_eq hX (tgt := 118) dJ6_getChars_ba4f3_106 (by decide) (fun c1 => ?_) (fun c1 => ?_)
  · have h := h.1 c1
    refine vw_iload hX 2 dJ6_getChars_ba4f3_118 rfl ?_
    exact vw_iret hX hE dJ6_getChars_ba4f3_120 ⟨_, rfl, h⟩
  · have h := h.2 c1
    refine vw_aload_n hX 1 dJ6_getChars_ba4f3_109 rfl ?_
    refine vw_iinc hX 2 (v := x5 + (-1)) dJ6_getChars_ba4f3_110 rfl rfl (by decide) rfl ?_
    refine vw_iload hX 0 dJ6_getChars_ba4f3_113 rfl ?_
    refine vw_bipush hX (v := 45) dJ6_getChars_ba4f3_115 (by decide) ?_
    obtain ⟨n3, f2, hf2, hif2, h⟩ := h
    refine vw_bast hX hf2 hif2 dJ6_getChars_ba4f3_117 ?_
    refine vw_nmW (fun w4 ew4 => ?_)
    have h := h w4 ew4
    refine vw_iload hX 0 dJ6_getChars_ba4f3_118 rfl ?_
    exact vw_iret hX hE dJ6_getChars_ba4f3_120 ⟨_, rfl, h⟩
def B_J6_getChars_ba4f3_22 (a1 : Int32) (a2 : Nat) (Q : Int32 → Mm → Nat → Prop) : Nat → Int32 → Int32 → Int32 → Mm → Nat → Prop
  | 0, _, _, _, _, _ => False
  | n + 1, x0, x5, x6, w, z => ((-100) < x0 → ∀ q6, isTab w q6 digO → ∃ n8 f7, arI w q6 1 = some (n8, f7) ∧ vp_in ((-x0)) n8 ∧ ∃ n10 f9, arW w a2 1 = some (n10, f9) ∧ vp_in ((x5 + (-1))) n10 ∧ ∀ w11, w11 = mset w a2 (.inr (1, n10, .inl (upd f9 ((x5 + (-1)) : Int32).toNatClampNeg (vp_nar .byte ((f7 ((-x0) : Int32).toNatClampNeg)))))) → ((-9) ≤ x0 → B_J6_getChars_ba4f3_104 a1 a2 Q ((x5 + (-1))) x6 w11 z) ∧
  (¬ (-9) ≤ x0 → ∀ q13, isTab w11 q13 digT → ∃ n15 f14, arI w11 q13 1 = some (n15, f14) ∧ vp_in ((-x0)) n15 ∧ ∃ n17 f16, arW w11 a2 1 = some (n17, f16) ∧ vp_in ((((x5 + (-1))) + (-1))) n17 ∧ ∀ w18, w18 = mset w11 a2 (.inr (1, n17, .inl (upd f16 ((((x5 + (-1))) + (-1)) : Int32).toNatClampNeg (vp_nar .byte ((f14 ((-x0) : Int32).toNatClampNeg)))))) → B_J6_getChars_ba4f3_104 a1 a2 Q ((((x5 + (-1))) + (-1))) x6 w18 z)) ∧
  (¬ (-100) < x0 → ∀ i19 : Int32, i19 = (x0 / 100) → ∀ i20 : Int32, i20 = (((i19 * 100)) - x0) → ∀ q21, isTab w q21 digO → ∃ n23 f22, arI w q21 1 = some (n23, f22) ∧ vp_in i20 n23 ∧ ∃ n25 f24, arW w a2 1 = some (n25, f24) ∧ vp_in ((x5 + (-1))) n25 ∧ ∀ w26, w26 = mset w a2 (.inr (1, n25, .inl (upd f24 ((x5 + (-1)) : Int32).toNatClampNeg (vp_nar .byte ((f22 (i20 : Int32).toNatClampNeg)))))) → ∀ q27, isTab w26 q27 digT → ∃ n29 f28, arI w26 q27 1 = some (n29, f28) ∧ vp_in i20 n29 ∧ ∃ n31 f30, arW w26 a2 1 = some (n31, f30) ∧ vp_in ((((x5 + (-1))) + (-1))) n31 ∧ ∀ w32, w32 = mset w26 a2 (.inr (1, n31, .inl (upd f30 ((((x5 + (-1))) + (-1)) : Int32).toNatClampNeg (vp_nar .byte ((f28 (i20 : Int32).toNatClampNeg)))))) → B_J6_getChars_ba4f3_22 a1 a2 Q n i19 ((((x5 + (-1))) + (-1))) x6 w32 z)
set_option maxRecDepth 100000 in
set_option maxHeartbeats 4000000 in
theorem pB_J6_getChars_ba4f3_22 {C : Cx} {d : Nat} {a1 : Int32} {a2 : Nat} {Q : Int32 → Mm → Nat → Prop} {X : String → Mm → Nat → Prop} (hX : CX C cJ6_getChars_ba4f3 RJ6 7 (some .int) [] (d + 0)) (hE : EQ C (rI Q) X) : ∀ (n : Nat) (x0 : Int32) (x5 : Int32) (x6 : Int32) (w : Mm) (z mc ms : Nat), B_J6_getChars_ba4f3_22 a1 a2 Q n x0 x5 x6 w z → VW C 22 [(0, .int (x0)), (1, .int (a1)), (2, .ref (a2)), (5, .int (x5)), (6, .int (x6))] [] w z mc ms := by
  intro n
  induction n with
  | zero => intro x0 x5 x6 w z mc ms h; exact False.elim h
  | succ n ih =>
    intro x0 x5 x6 w z mc ms h
    unfold B_J6_getChars_ba4f3_22 at h
    refine vw_iload_n hX 0 dJ6_getChars_ba4f3_22 rfl ?_
    refine vw_bipush hX (v := (-100)) dJ6_getChars_ba4f3_23 (by decide) ?_
    refine vw_icmp_gt hX (tgt := 72) dJ6_getChars_ba4f3_25 (by decide) (fun c5 => ?_) (fun c5 => ?_)
    · have h := h.1 c5
      refine vw_aload_n hX 2 dJ6_getChars_ba4f3_72 rfl ?_
      refine vw_iinc hX 3 (v := x5 + (-1)) dJ6_getChars_ba4f3_73 rfl rfl (by decide) rfl ?_
      refine vw_iload hX 0 dJ6_getChars_ba4f3_76 rfl ?_
      refine vw_getsO hX kw_627 dJ6_getChars_ba4f3_78 (fun q6 hq6 => ?_)
      have h := h q6 hq6
      refine vw_iload_n hX 1 dJ6_getChars_ba4f3_81 rfl ?_
      refine vw_ineg hX dJ6_getChars_ba4f3_82 ?_
      obtain ⟨n8, f7, hf7, hif7, h⟩ := h
      refine vw_bald hX hf7 hif7 dJ6_getChars_ba4f3_83 ?_
      obtain ⟨n10, f9, hf9, hif9, h⟩ := h
      refine vw_bast hX hf9 hif9 dJ6_getChars_ba4f3_84 ?_
      refine vw_nmW (fun w11 ew11 => ?_)
      have h := h w11 ew11
      refine vw_iload_n hX 1 dJ6_getChars_ba4f3_85 rfl ?_
      refine vw_bipush hX (v := (-9)) dJ6_getChars_ba4f3_86 (by decide) ?_
      refine vw_icmp_ge hX (tgt := 104) dJ6_getChars_ba4f3_88 (by decide) (fun c12 => ?_) (fun c12 => ?_)
      · have h := h.1 c12
        exact vw_sub [2, 3, 0, 4] rfl (pB_J6_getChars_ba4f3_104 hX hE _ _ _ _ _ _ h)
      · have h := h.2 c12
        refine vw_aload_n hX 3 dJ6_getChars_ba4f3_91 rfl ?_
        refine vw_iinc hX 0 (v := ((x5 + (-1))) + (-1)) dJ6_getChars_ba4f3_92 rfl rfl (by decide) rfl ?_
        refine vw_iload hX 0 dJ6_getChars_ba4f3_95 rfl ?_
        refine vw_getsT hX kw_629 dJ6_getChars_ba4f3_97 (fun q13 hq13 => ?_)
        have h := h q13 hq13
        refine vw_iload_n hX 1 dJ6_getChars_ba4f3_100 rfl ?_
        refine vw_ineg hX dJ6_getChars_ba4f3_101 ?_
        obtain ⟨n15, f14, hf14, hif14, h⟩ := h
        refine vw_bald hX hf14 hif14 dJ6_getChars_ba4f3_102 ?_
        obtain ⟨n17, f16, hf16, hif16, h⟩ := h
        refine vw_bast hX hf16 hif16 dJ6_getChars_ba4f3_103 ?_
        refine vw_nmW (fun w18 ew18 => ?_)
        have h := h w18 ew18
        exact vw_sub [2, 3, 0, 4] rfl (pB_J6_getChars_ba4f3_104 hX hE _ _ _ _ _ _ h)
    · have h := h.2 c5
      refine vw_iload_n hX 0 dJ6_getChars_ba4f3_28 rfl ?_
      refine vw_bipush hX (v := 100) dJ6_getChars_ba4f3_29 (by decide) ?_
      refine vw_idiv hX dJ6_getChars_ba4f3_31 (by decide) ?_
      refine vw_nmI (fun i19 ei19 => ?_)
      have h := h i19 ei19
      refine vw_istore_n hX dJ6_getChars_ba4f3_32 (by decide) rfl ?_
      refine vw_iload_n hX 0 dJ6_getChars_ba4f3_33 rfl ?_
      refine vw_bipush hX (v := 100) dJ6_getChars_ba4f3_34 (by decide) ?_
      refine vw_imul hX dJ6_getChars_ba4f3_36 ?_
      refine vw_iload_n hX 1 dJ6_getChars_ba4f3_37 rfl ?_
      refine vw_isub hX dJ6_getChars_ba4f3_38 ?_
      refine vw_nmI (fun i20 ei20 => ?_)
      have h := h i20 ei20
      refine vw_istore hX dJ6_getChars_ba4f3_39 (by decide) rfl ?_
      refine vw_iload_n hX 1 dJ6_getChars_ba4f3_41 rfl ?_
      refine vw_istore_n hX dJ6_getChars_ba4f3_42 (by decide) rfl ?_
      refine vw_aload_n hX 4 dJ6_getChars_ba4f3_43 rfl ?_
      refine vw_iinc hX 5 (v := x5 + (-1)) dJ6_getChars_ba4f3_44 rfl rfl (by decide) rfl ?_
      refine vw_iload hX 0 dJ6_getChars_ba4f3_47 rfl ?_
      refine vw_getsO hX kw_627 dJ6_getChars_ba4f3_49 (fun q21 hq21 => ?_)
      have h := h q21 hq21
      refine vw_iload hX 2 dJ6_getChars_ba4f3_52 rfl ?_
      obtain ⟨n23, f22, hf22, hif22, h⟩ := h
      refine vw_bald hX hf22 hif22 dJ6_getChars_ba4f3_54 ?_
      obtain ⟨n25, f24, hf24, hif24, h⟩ := h
      refine vw_bast hX hf24 hif24 dJ6_getChars_ba4f3_55 ?_
      refine vw_nmW (fun w26 ew26 => ?_)
      have h := h w26 ew26
      refine vw_aload_n hX 5 dJ6_getChars_ba4f3_56 rfl ?_
      refine vw_iinc hX 0 (v := ((x5 + (-1))) + (-1)) dJ6_getChars_ba4f3_57 rfl rfl (by decide) rfl ?_
      refine vw_iload hX 0 dJ6_getChars_ba4f3_60 rfl ?_
      refine vw_getsT hX kw_629 dJ6_getChars_ba4f3_62 (fun q27 hq27 => ?_)
      have h := h q27 hq27
      refine vw_iload hX 2 dJ6_getChars_ba4f3_65 rfl ?_
      obtain ⟨n29, f28, hf28, hif28, h⟩ := h
      refine vw_bald hX hf28 hif28 dJ6_getChars_ba4f3_67 ?_
      obtain ⟨n31, f30, hf30, hif30, h⟩ := h
      refine vw_bast hX hf30 hif30 dJ6_getChars_ba4f3_68 ?_
      refine vw_nmW (fun w32 ew32 => ?_)
      have h := h w32 ew32
      refine vw_goto hX (tgt := 22) dJ6_getChars_ba4f3_69 (by decide) ?_
      exact vw_sub [1, 4, 5, 0, 6] rfl (ih _ _ _ _ _ _ _ h)
def B_J6_getChars_ba4f3_12 (a1 : Int32) (a2 : Nat) (Q : Int32 → Mm → Nat → Prop) (x0 : Int32) (x5 : Int32) (y0 : Int32) (w : Mm) (z : Nat) : Prop :=
  (¬ y0 = 0 → ∃ nn, B_J6_getChars_ba4f3_22 a1 a2 Q nn x0 x5 y0 w z) ∧
  (y0 = 0 → ∀ i34 : Int32, i34 = (-x0) → ∃ nn, B_J6_getChars_ba4f3_22 a1 a2 Q nn i34 x5 y0 w z)
set_option maxRecDepth 100000 in
set_option maxHeartbeats 4000000 in
theorem pB_J6_getChars_ba4f3_12 {C : Cx} {d : Nat} {a1 : Int32} {a2 : Nat} {Q : Int32 → Mm → Nat → Prop} {X : String → Mm → Nat → Prop} (hX : CX C cJ6_getChars_ba4f3 RJ6 7 (some .int) [] (d + 0)) (hE : EQ C (rI Q) X) : ∀ (x0 : Int32) (x5 : Int32) (y0 : Int32) (w : Mm) (z mc ms : Nat), B_J6_getChars_ba4f3_12 a1 a2 Q x0 x5 y0 w z → VW C 12 [(0, .int (x0)), (1, .int (a1)), (2, .ref (a2)), (5, .int (x5))] [.int (y0)] w z mc ms := by
  intro x0 x5 y0 w z mc ms h
  unfold B_J6_getChars_ba4f3_12 at h
  refine vw_istore hX dJ6_getChars_ba4f3_12 (by decide) rfl ?_
  refine vw_iload hX 0 dJ6_getChars_ba4f3_14 rfl ?_
  refine vw_if_ne hX (tgt := 22) dJ6_getChars_ba4f3_16 (by decide) (fun c33 => ?_) (fun c33 => ?_)
  · have h := h.1 c33
    obtain ⟨nn, h⟩ := h
    exact vw_sub [1, 2, 3, 4, 0] rfl (pB_J6_getChars_ba4f3_22 hX hE nn _ _ _ _ _ _ _ h)
  · have h := h.2 c33
    refine vw_iload_n hX 1 dJ6_getChars_ba4f3_19 rfl ?_
    refine vw_ineg hX dJ6_getChars_ba4f3_20 ?_
    refine vw_nmI (fun i34 ei34 => ?_)
    have h := h i34 ei34
    refine vw_istore_n hX dJ6_getChars_ba4f3_21 (by decide) rfl ?_
    obtain ⟨nn, h⟩ := h
    exact vw_sub [0, 2, 3, 4, 1] rfl (pB_J6_getChars_ba4f3_22 hX hE nn _ _ _ _ _ _ _ h)
def F_J6_getChars_ba4f3 (a0 : Int32) (a1 : Int32) (a2 : Nat) (w : Mm) (z : Nat) (Q : Int32 → Mm → Nat → Prop) : Prop :=
  (0 ≤ a0 → B_J6_getChars_ba4f3_12 a1 a2 Q a0 a1 0 w z) ∧
  (¬ 0 ≤ a0 → B_J6_getChars_ba4f3_12 a1 a2 Q a0 a1 1 w z)
set_option maxRecDepth 100000 in
set_option maxHeartbeats 4000000 in
theorem ct_J6_getChars_ba4f3 {l : Launch} {g : Gp} {d : Nat} (hst : l.stackTraces = false) {a0 : Int32} {a1 : Int32} {a2 : Nat} {w : Mm} {z mc ms : Nat} {Q : Int32 → Mm → Nat → Prop} {X : String → Mm → Nat → Prop} (h : F_J6_getChars_ba4f3 a0 a1 a2 w z Q) : Ct l g yJ6_getChars_ba4f3 (.code yJ6_getChars_ba4f3 cJ6_getChars_ba4f3 7 (some .int)) (d + 0) mc ms [.int (a0), .int (a1), .ref (a2)] w z (rI Q) X := by
  refine Ct.of hst (by decide) (Nat.le_of_ble_eq_true rfl) (fun C hX hE hg hl hNm => ?_)
  subst hg
  subst hl
  unfold F_J6_getChars_ba4f3 at h
  show VW C 0 [(0, .int (a0)), (1, .int (a1)), (2, .ref (a2))] [] w z mc ms
  refine vw_iload_n hX 1 dJ6_getChars_ba4f3_0 rfl ?_
  refine vw_istore hX dJ6_getChars_ba4f3_1 (by decide) rfl ?_
  refine vw_iload_n hX 1 dJ6_getChars_ba4f3_3 rfl ?_
  refine vw_if_ge hX (tgt := 11) dJ6_getChars_ba4f3_4 (by decide) (fun c1 => ?_) (fun c1 => ?_)
  · have h := h.1 c1
    refine vw_iconst hX (v := 0) dJ6_getChars_ba4f3_11 (by decide) ?_
    exact vw_sub [1, 2, 3, 0] rfl (pB_J6_getChars_ba4f3_12 hX hE _ _ _ _ _ _ _ h)
  · have h := h.2 c1
    refine vw_iconst hX (v := 1) dJ6_getChars_ba4f3_7 (by decide) ?_
    refine vw_goto hX (tgt := 12) dJ6_getChars_ba4f3_8 (by decide) ?_
    exact vw_sub [1, 2, 3, 0] rfl (pB_J6_getChars_ba4f3_12 hX hE _ _ _ _ _ _ _ h)
def F_J5_append_c97b9 (a0 : Nat) (a1 : Int32) (w : Mm) (z : Nat) (mc ms : Nat) (Q : Nat → Mm → Nat → Prop) : Prop :=
  ∃ v1, fld w a0 1 3 = some (.int (v1)) ∧ F_J6_stringSize_0f7a4 a1 w z (fun r2 w3 z4 => ∀ i5 : Int32, i5 = (v1 + r2) → isO w3 a0 1 ∧ ∃ k10 k11, k10 ≤ mc ∧ k11 ≤ ms ∧ F_J5_ensureCapacityInternal_d00df a0 i5 w3 z4 k10 k11 (fun w8 z9 => isO w8 a0 1 ∧ F_J5_isLatin1_aae02 a0 w8 z9 (fun r13 w14 z15 => (r13 = 0 → False) ∧
  (¬ r13 = 0 → ∃ q17, fld w14 a0 1 0 = some (.ref (q17)) ∧ F_J6_getChars_ba4f3 a1 i5 q17 w14 z15 (fun r18 w19 z20 => ∃ f21, obj w19 a0 1 = some f21 ∧ 3 < f21.length ∧ ∀ w22, w22 = mset w19 a0 (.inl (1, f21.set 3 (.int (i5)))) → Q a0 w22 z20)))))
set_option maxRecDepth 100000 in
set_option maxHeartbeats 4000000 in
theorem ct_J5_append_c97b9 {l : Launch} {g : Gp} {d : Nat} (hst : l.stackTraces = false) {a0 : Nat} {a1 : Int32} {w : Mm} {z mc ms : Nat} {Q : Nat → Mm → Nat → Prop} {X : String → Mm → Nat → Prop} (h : F_J5_append_c97b9 a0 a1 w z mc ms Q) : Ct l g yJ5_append_c97b9 (.code yJ5_append_c97b9 cJ5_append_c97b9 4 (some (.object "java/lang/AbstractStringBuilder"))) (d + 4) mc ms [.ref (a0), .int (a1)] w z (rR Q) X := by
  refine Ct.of hst (by decide) (Nat.le_of_ble_eq_true rfl) (fun C hX hE hg hl hNm => ?_)
  subst hg
  subst hl
  unfold F_J5_append_c97b9 at h
  show VW C 0 [(0, .ref (a0)), (1, .int (a1))] [] w z mc ms
  refine vw_aload_n hX 0 dJ5_append_c97b9_0 rfl ?_
  obtain ⟨v1, hv1, h⟩ := h
  refine g_J5_79 hX hv1 dJ5_append_c97b9_1 ?_
  refine vw_istore_n hX dJ5_append_c97b9_4 (by decide) rfl ?_
  refine vw_iload_n hX 0 dJ5_append_c97b9_5 rfl ?_
  refine vw_iload_n hX 2 dJ5_append_c97b9_6 rfl ?_
  refine s_J5_245 hX dJ5_append_c97b9_7 (Nat.le_of_ble_eq_true rfl) (ct_J6_stringSize_0f7a4 (d := d + 3) (lst hX) h) (fun r2 w3 z4 h => ?_)
  refine vw_iadd hX dJ5_append_c97b9_10 ?_
  refine vw_nmI (fun i5 ei5 => ?_)
  have h := h i5 ei5
  refine vw_istore_n hX dJ5_append_c97b9_11 (by decide) rfl ?_
  refine vw_aload_n hX 2 dJ5_append_c97b9_12 rfl ?_
  refine vw_iload_n hX 0 dJ5_append_c97b9_13 rfl ?_
  obtain ⟨hr6, h⟩ := h
  obtain ⟨k10, k11, hm1, hm2, h⟩ := h
  refine s_J5_100 hX hr6 dJ5_append_c97b9_14 (Nat.le_of_ble_eq_true rfl) hm1 hm2 (ct_J5_ensureCapacityInternal_d00df (d := d + 0) (lst hX) h) (fun w8 z9 h => ?_)
  refine vw_aload_n hX 2 dJ5_append_c97b9_17 rfl ?_
  obtain ⟨hr12, h⟩ := h
  refine s_J5_83 hX hr12 dJ5_append_c97b9_18 (Nat.le_of_ble_eq_true rfl) (ct_J5_isLatin1_aae02 (d := d + 3) (lst hX) h) (fun r13 w14 z15 h => ?_)
  refine vw_if_eq hX (tgt := 37) dJ5_append_c97b9_21 (by decide) (fun c16 => ?_) (fun c16 => ?_)
  · exact (h.1 c16).elim
  · have h := h.2 c16
    refine vw_iload_n hX 3 dJ5_append_c97b9_24 rfl ?_
    refine vw_iload_n hX 0 dJ5_append_c97b9_25 rfl ?_
    refine vw_aload_n hX 2 dJ5_append_c97b9_26 rfl ?_
    obtain ⟨q17, hq17, h⟩ := h
    refine g_J5_15 hX hq17 dJ5_append_c97b9_27 ?_
    refine s_J5_248 hX dJ5_append_c97b9_30 (Nat.le_of_ble_eq_true rfl) (ct_J6_getChars_ba4f3 (d := d + 3) (lst hX) h) (fun r18 w19 z20 h => ?_)
    refine vw_pop hX dJ5_append_c97b9_33 rfl ?_
    refine vw_goto hX (tgt := 48) dJ5_append_c97b9_34 (by decide) ?_
    refine vw_aload_n hX 2 dJ5_append_c97b9_48 rfl ?_
    refine vw_iload_n hX 0 dJ5_append_c97b9_49 rfl ?_
    obtain ⟨f21, hf21, hlf21, h⟩ := h
    refine p_J5_79 hX hf21 hlf21 dJ5_append_c97b9_50 ?_
    refine vw_nmW (fun w22 ew22 => ?_)
    have h := h w22 ew22
    refine vw_aload_n hX 2 dJ5_append_c97b9_53 rfl ?_
    exact vw_aret hX hE (Or.inl ⟨_, rfl⟩) dJ5_append_c97b9_54 ⟨_, rfl, h⟩
def F_J4_append_bf812 (a0 : Nat) (a1 : Int32) (w : Mm) (z : Nat) (mc ms : Nat) (Q : Nat → Mm → Nat → Prop) : Prop :=
  isO w a0 1 ∧ ∃ k5 k6, k5 ≤ mc ∧ k6 ≤ ms ∧ F_J5_append_c97b9 a0 a1 w z k5 k6 (fun r2 w3 z4 => Q a0 w3 z4)
set_option maxRecDepth 100000 in
set_option maxHeartbeats 4000000 in
theorem ct_J4_append_bf812 {l : Launch} {g : Gp} {d : Nat} (hst : l.stackTraces = false) {a0 : Nat} {a1 : Int32} {w : Mm} {z mc ms : Nat} {Q : Nat → Mm → Nat → Prop} {X : String → Mm → Nat → Prop} (h : F_J4_append_bf812 a0 a1 w z mc ms Q) : Ct l g yJ4_append_bf812 (.code yJ4_append_bf812 cJ4_append_bf812 2 (some (.object "java/lang/StringBuilder"))) (d + 5) mc ms [.ref (a0), .int (a1)] w z (rR Q) X := by
  refine Ct.of hst (by decide) (Nat.le_of_ble_eq_true rfl) (fun C hX hE hg hl hNm => ?_)
  subst hg
  subst hl
  unfold F_J4_append_bf812 at h
  show VW C 0 [(0, .ref (a0)), (1, .int (a1))] [] w z mc ms
  refine vw_aload_n hX 0 dJ4_append_bf812_0 rfl ?_
  refine vw_iload_n hX 1 dJ4_append_bf812_1 rfl ?_
  obtain ⟨hr1, h⟩ := h
  obtain ⟨k5, k6, hm1, hm2, h⟩ := h
  refine s_J4_53 hX hr1 dJ4_append_bf812_2 (Nat.le_of_ble_eq_true rfl) hm1 hm2 (ct_J5_append_c97b9 (d := d + 0) (lst hX) h) (fun r2 w3 z4 h => ?_)
  refine vw_pop hX dJ4_append_bf812_5 rfl ?_
  refine vw_aload_n hX 0 dJ4_append_bf812_6 rfl ?_
  exact vw_aret hX hE (Or.inl ⟨_, rfl⟩) dJ4_append_bf812_7 ⟨_, rfl, h⟩
def B_L_law_328 (a0 : Nat) (K2 : Int32 → Mm → Nat → Nat → Nat → Prop) (Q : Int32 → Mm → Nat → Prop) (x1 : Int32) (w : Mm) (z : Nat) (mc : Nat) (ms : Nat) : Prop :=
  K2 ((x1 + 1)) w z mc ms
set_option maxRecDepth 100000 in
set_option maxHeartbeats 4000000 in
theorem pB_L_law_328 {C : Cx} {d : Nat} {a0 : Nat} {K2 : Int32 → Mm → Nat → Nat → Nat → Prop} (hX : CX C cL_law RL 11 (some .boolean) [] (d + 11)) (hE : EL C) (hK2 : ∀ (x1 : Int32) (w : Mm) (z mc ms : Nat), K2 x1 w z mc ms → VW C 2 [(0, .ref (a0)), (1, .int (x1))] [] w z mc ms) : ∀ (x1 : Int32) (w : Mm) (z mc ms : Nat), B_L_law_328 a0 K2 lawQ x1 w z mc ms → VW C 328 [(0, .ref (a0)), (1, .int (x1))] [] w z mc ms := by
  intro x1 w z mc ms h
  unfold B_L_law_328 at h
  refine vw_iinc hX 1 (v := x1 + 1) dL_law_328 rfl rfl (by decide) rfl ?_
  refine vw_goto hX (tgt := 2) dL_law_331 (by decide) ?_
  exact vw_sub [1, 0] rfl (hK2 _ _ _ _ _ h)
def B_L_law_224 (a0 : Nat) (K190 : Int32 → Nat → Nat → Int32 → Mm → Nat → Nat → Nat → Prop) (Q : Int32 → Mm → Nat → Prop) (x1 : Int32) (x2 : Nat) (x3 : Nat) (x7 : Int32) (w : Mm) (z : Nat) (mc : Nat) (ms : Nat) : Prop :=
  K190 x1 x2 x3 ((x7 + 1)) w z mc ms
set_option maxRecDepth 100000 in
set_option maxHeartbeats 4000000 in
theorem pB_L_law_224 {C : Cx} {d : Nat} {a0 : Nat} {K190 : Int32 → Nat → Nat → Int32 → Mm → Nat → Nat → Nat → Prop} (hX : CX C cL_law RL 11 (some .boolean) [] (d + 11)) (hE : EL C) (hK190 : ∀ (x1 : Int32) (x2 : Nat) (x3 : Nat) (x7 : Int32) (w : Mm) (z mc ms : Nat), K190 x1 x2 x3 x7 w z mc ms → VW C 190 [(0, .ref (a0)), (1, .int (x1)), (2, .ref (x2)), (3, .ref (x3)), (7, .int (x7))] [] w z mc ms) : ∀ (x1 : Int32) (x2 : Nat) (x3 : Nat) (x7 : Int32) (w : Mm) (z mc ms : Nat), B_L_law_224 a0 K190 lawQ x1 x2 x3 x7 w z mc ms → VW C 224 [(0, .ref (a0)), (1, .int (x1)), (2, .ref (x2)), (3, .ref (x3)), (7, .int (x7))] [] w z mc ms := by
  intro x1 x2 x3 x7 w z mc ms h
  unfold B_L_law_224 at h
  refine vw_iinc hX 4 (v := x7 + 1) dL_law_224 rfl rfl (by decide) rfl ?_
  refine vw_goto hX (tgt := 190) dL_law_227 (by decide) ?_
  exact vw_sub [1, 2, 3, 4, 0] rfl (hK190 _ _ _ _ _ _ _ _ h)
def B_L_law_190 (a0 : Nat) (K2 : Int32 → Mm → Nat → Nat → Nat → Prop) (Q : Int32 → Mm → Nat → Prop) : Nat → Int32 → Nat → Nat → Int32 → Mm → Nat → Nat → Nat → Prop
  | 0, _, _, _, _, _, _, _, _ => False
  | n + 1, x1, x2, x3, x7, w, z, mc, ms => (36 ≤ x7 → ∃ k5 k6, k5 ≤ mc ∧ k6 ≤ ms ∧ F_L_isSound x3 w z k5 k6 (fun r2 w3 z4 => (¬ r2 = 0 → isO w3 x3 9 ∧ F_X5_undoableChanges x3 w3 z4 (fun r9 w10 z11 => isO w10 x3 9 ∧ F_X5_clock x3 w10 z11 (fun r13 w14 z15 => isO w14 x3 9 ∧ F_X5_ticketSales x3 w14 z15 (fun r17 w18 z19 => ∃ k23 k24, k23 ≤ (mc - k5) ∧ k24 ≤ (ms - k6) ∧ F_L_waitFor x3 77 w18 z19 k23 k24 (fun r20 w21 z22 => (0 ≤ r20 → (¬ r20 = ((r13 + 77)) → Q 0 w21 z22) ∧
  (r20 = ((r13 + 77)) → ∃ k30 k31, k30 ≤ ((mc - k5) - k23) ∧ k31 ≤ ((ms - k6) - k24) ∧ F_L_undo x3 w21 z22 k30 k31 (fun r27 w28 z29 => (¬ r27 = ((((jmin 8 ((r9 + 1)))) - 1)) → Q 0 w28 z29) ∧
  (r27 = ((((jmin 8 ((r9 + 1)))) - 1)) → isO w28 x3 9 ∧ F_X5_clock x3 w28 z29 (fun r34 w35 z36 => (¬ r34 = r13 → Q 0 w35 z36) ∧
  (r34 = r13 → isO w35 x3 9 ∧ F_X5_ticketSales x3 w35 z36 (fun r39 w40 z41 => (¬ r39 = r17 → Q 0 w40 z41) ∧
  (r39 = r17 → ∃ k46 k47, k46 ≤ (((mc - k5) - k23) - k30) ∧ k47 ≤ (((ms - k6) - k24) - k31) ∧ F_L_isSound x3 w40 z41 k46 k47 (fun r43 w44 z45 => (¬ r43 = 0 → B_L_law_328 a0 K2 Q x1 w44 z45 (((((mc - k5) - k23) - k30) - k46)) (((((ms - k6) - k24) - k31) - k47))) ∧
  (r43 = 0 → Q 0 w44 z45)))))))))) ∧
  (¬ 0 ≤ r20 → B_L_law_328 a0 K2 Q x1 w21 z22 (((mc - k5) - k23)) (((ms - k6) - k24)))))))) ∧
  (r2 = 0 → Q 0 w3 z4))) ∧
  (¬ 36 ≤ x7 → ∃ k52 k53, k52 ≤ mc ∧ k53 ≤ ms ∧ F_L_acts x3 x2 w z k52 k53 (fun r49 w50 z51 => (¬ r49 = 0 → (¬ ((x7 - x7 / 6 * 6)) = 0 → B_L_law_224 a0 (B_L_law_190 a0 K2 Q n) Q x1 x2 x3 x7 w50 z51 ((mc - k52)) ((ms - k53))) ∧
  (((x7 - x7 / 6 * 6)) = 0 → ∃ k59 k60, k59 ≤ (mc - k52) ∧ k60 ≤ (ms - k53) ∧ F_L_isSound x3 w50 z51 k59 k60 (fun r56 w57 z58 => (¬ r56 = 0 → B_L_law_224 a0 (B_L_law_190 a0 K2 Q n) Q x1 x2 x3 x7 w57 z58 (((mc - k52) - k59)) (((ms - k53) - k60))) ∧
  (r56 = 0 → Q 0 w57 z58)))) ∧
  (r49 = 0 → Q 0 w50 z51)))
set_option maxRecDepth 100000 in
set_option maxHeartbeats 4000000 in
theorem pB_L_law_190 {C : Cx} {d : Nat} {a0 : Nat} {K2 : Int32 → Mm → Nat → Nat → Nat → Prop} (hX : CX C cL_law RL 11 (some .boolean) [] (d + 11)) (hE : EL C) (hK2 : ∀ (x1 : Int32) (w : Mm) (z mc ms : Nat), K2 x1 w z mc ms → VW C 2 [(0, .ref (a0)), (1, .int (x1))] [] w z mc ms) : ∀ (n : Nat) (x1 : Int32) (x2 : Nat) (x3 : Nat) (x7 : Int32) (w : Mm) (z mc ms : Nat), B_L_law_190 a0 K2 lawQ n x1 x2 x3 x7 w z mc ms → VW C 190 [(0, .ref (a0)), (1, .int (x1)), (2, .ref (x2)), (3, .ref (x3)), (7, .int (x7))] [] w z mc ms := by
  intro n
  induction n with
  | zero => intro x1 x2 x3 x7 w z mc ms h; exact False.elim h
  | succ n ih =>
    intro x1 x2 x3 x7 w z mc ms h
    unfold B_L_law_190 at h
    refine vw_iload hX 4 dL_law_190 rfl ?_
    refine vw_bipush hX (v := 36) dL_law_192 (by decide) ?_
    refine vw_icmp_ge hX (tgt := 230) dL_law_194 (by decide) (fun c1 => ?_) (fun c1 => ?_)
    · have h := h.1 c1
      refine vw_aload_n hX 3 dL_law_230 rfl ?_
      obtain ⟨k5, k6, hm1, hm2, h⟩ := h
      refine s_L_280 hX dL_law_231 (Nat.le_of_ble_eq_true rfl) hm1 hm2 (ct_L_isSound (d := d + 1) (lst hX) h) (fun r2 w3 z4 h => ?_)
      refine vw_if_ne hX (tgt := 239) dL_law_234 (by decide) (fun c7 => ?_) (fun c7 => ?_)
      · have h := h.1 c7
        refine vw_aload_n hX 3 dL_law_239 rfl ?_
        obtain ⟨hr8, h⟩ := h
        refine s_L_284 hX hr8 dL_law_240 (Nat.le_of_ble_eq_true rfl) (ct_X5_undoableChanges (d := d + 10) (lst hX) h) (fun r9 w10 z11 h => ?_)
        refine vw_istore hX dL_law_243 (by decide) rfl ?_
        refine vw_aload_n hX 4 dL_law_245 rfl ?_
        obtain ⟨hr12, h⟩ := h
        refine s_L_152 hX hr12 dL_law_246 (Nat.le_of_ble_eq_true rfl) (ct_X5_clock (d := d + 10) (lst hX) h) (fun r13 w14 z15 h => ?_)
        refine vw_istore hX dL_law_249 (by decide) rfl ?_
        refine vw_aload_n hX 5 dL_law_251 rfl ?_
        obtain ⟨hr16, h⟩ := h
        refine s_L_197 hX hr16 dL_law_252 (Nat.le_of_ble_eq_true rfl) (ct_X5_ticketSales (d := d + 6) (lst hX) h) (fun r17 w18 z19 h => ?_)
        refine vw_istore hX dL_law_255 (by decide) rfl ?_
        refine vw_aload_n hX 6 dL_law_257 rfl ?_
        refine vw_bipush hX (v := 77) dL_law_258 (by decide) ?_
        obtain ⟨k23, k24, hm1, hm2, h⟩ := h
        refine s_L_242 hX dL_law_260 (Nat.le_of_ble_eq_true rfl) hm1 hm2 (ct_L_waitFor (d := d + 3) (lst hX) h) (fun r20 w21 z22 h => ?_)
        refine vw_istore hX dL_law_263 (by decide) rfl ?_
        refine vw_iload hX 0 dL_law_265 rfl ?_
        refine vw_if_ge hX (tgt := 273) dL_law_267 (by decide) (fun c25 => ?_) (fun c25 => ?_)
        · have h := h.1 c25
          refine vw_iload hX 0 dL_law_273 rfl ?_
          refine vw_iload hX 2 dL_law_275 rfl ?_
          refine vw_bipush hX (v := 77) dL_law_277 (by decide) ?_
          refine vw_iadd hX dL_law_279 ?_
          refine vw_icmp_ne hX (tgt := 326) dL_law_280 (by decide) (fun c26 => ?_) (fun c26 => ?_)
          · have h := h.1 c26
            refine vw_iconst hX (v := 0) dL_law_326 (by decide) ?_
            exact vw_lawret hX hE dL_law_327 h
          · have h := h.2 c26
            refine vw_aload_n hX 7 dL_law_283 rfl ?_
            obtain ⟨k30, k31, hm1, hm2, h⟩ := h
            refine s_L_287 hX dL_law_284 (Nat.le_of_ble_eq_true rfl) hm1 hm2 (ct_L_undo (d := d + 3) (lst hX) h) (fun r27 w28 z29 h => ?_)
            refine vw_bipush hX (v := 8) dL_law_287 (by decide) ?_
            refine vw_iload hX 3 dL_law_289 rfl ?_
            refine vw_iconst hX (v := 1) dL_law_291 (by decide) ?_
            refine vw_iadd hX dL_law_292 ?_
            refine vw_mmin hX kw_1357 (Nat.le_of_ble_eq_true rfl) dL_law_293 ?_
            refine vw_iconst hX (v := 1) dL_law_296 (by decide) ?_
            refine vw_isub hX dL_law_297 ?_
            refine vw_icmp_ne hX (tgt := 326) dL_law_298 (by decide) (fun c32 => ?_) (fun c32 => ?_)
            · have h := h.1 c32
              refine vw_iconst hX (v := 0) dL_law_326 (by decide) ?_
              exact vw_lawret hX hE dL_law_327 h
            · have h := h.2 c32
              refine vw_aload_n hX 7 dL_law_301 rfl ?_
              obtain ⟨hr33, h⟩ := h
              refine s_L_152 hX hr33 dL_law_302 (Nat.le_of_ble_eq_true rfl) (ct_X5_clock (d := d + 10) (lst hX) h) (fun r34 w35 z36 h => ?_)
              refine vw_iload hX 2 dL_law_305 rfl ?_
              refine vw_icmp_ne hX (tgt := 326) dL_law_307 (by decide) (fun c37 => ?_) (fun c37 => ?_)
              · have h := h.1 c37
                refine vw_iconst hX (v := 0) dL_law_326 (by decide) ?_
                exact vw_lawret hX hE dL_law_327 h
              · have h := h.2 c37
                refine vw_aload_n hX 7 dL_law_310 rfl ?_
                obtain ⟨hr38, h⟩ := h
                refine s_L_197 hX hr38 dL_law_311 (Nat.le_of_ble_eq_true rfl) (ct_X5_ticketSales (d := d + 6) (lst hX) h) (fun r39 w40 z41 h => ?_)
                refine vw_iload hX 1 dL_law_314 rfl ?_
                refine vw_icmp_ne hX (tgt := 326) dL_law_316 (by decide) (fun c42 => ?_) (fun c42 => ?_)
                · have h := h.1 c42
                  refine vw_iconst hX (v := 0) dL_law_326 (by decide) ?_
                  exact vw_lawret hX hE dL_law_327 h
                · have h := h.2 c42
                  refine vw_aload_n hX 7 dL_law_319 rfl ?_
                  obtain ⟨k46, k47, hm1, hm2, h⟩ := h
                  refine s_L_280 hX dL_law_320 (Nat.le_of_ble_eq_true rfl) hm1 hm2 (ct_L_isSound (d := d + 1) (lst hX) h) (fun r43 w44 z45 h => ?_)
                  refine vw_if_ne hX (tgt := 328) dL_law_323 (by decide) (fun c48 => ?_) (fun c48 => ?_)
                  · have h := h.1 c48
                    exact vw_sub [4, 5] rfl (pB_L_law_328 hX hE hK2 _ _ _ _ _ h)
                  · have h := h.2 c48
                    refine vw_iconst hX (v := 0) dL_law_326 (by decide) ?_
                    exact vw_lawret hX hE dL_law_327 h
        · have h := h.2 c25
          refine vw_goto hX (tgt := 328) dL_law_270 (by decide) ?_
          exact vw_sub [4, 5] rfl (pB_L_law_328 hX hE hK2 _ _ _ _ _ h)
      · have h := h.2 c7
        refine vw_iconst hX (v := 0) dL_law_237 (by decide) ?_
        exact vw_lawret hX hE dL_law_238 h
    · have h := h.2 c1
      refine vw_aload_n hX 3 dL_law_197 rfl ?_
      refine vw_aload_n hX 2 dL_law_198 rfl ?_
      obtain ⟨k52, k53, hm1, hm2, h⟩ := h
      refine s_L_276 hX dL_law_199 (Nat.le_of_ble_eq_true rfl) hm1 hm2 (ct_L_acts (d := d + 1) (lst hX) h) (fun r49 w50 z51 h => ?_)
      refine vw_if_ne hX (tgt := 207) dL_law_202 (by decide) (fun c54 => ?_) (fun c54 => ?_)
      · have h := h.1 c54
        refine vw_iload hX 4 dL_law_207 rfl ?_
        refine vw_bipush hX (v := 6) dL_law_209 (by decide) ?_
        refine vw_irem hX dL_law_211 (by decide) ?_
        refine vw_if_ne hX (tgt := 224) dL_law_212 (by decide) (fun c55 => ?_) (fun c55 => ?_)
        · have h := h.1 c55
          exact pB_L_law_224 hX hE ih _ _ _ _ _ _ _ _ h
        · have h := h.2 c55
          refine vw_aload_n hX 3 dL_law_215 rfl ?_
          obtain ⟨k59, k60, hm1, hm2, h⟩ := h
          refine s_L_280 hX dL_law_216 (Nat.le_of_ble_eq_true rfl) hm1 hm2 (ct_L_isSound (d := d + 1) (lst hX) h) (fun r56 w57 z58 h => ?_)
          refine vw_if_ne hX (tgt := 224) dL_law_219 (by decide) (fun c61 => ?_) (fun c61 => ?_)
          · have h := h.1 c61
            exact pB_L_law_224 hX hE ih _ _ _ _ _ _ _ _ h
          · have h := h.2 c61
            refine vw_iconst hX (v := 0) dL_law_222 (by decide) ?_
            exact vw_lawret hX hE dL_law_223 h
      · have h := h.2 c54
        refine vw_iconst hX (v := 0) dL_law_205 (by decide) ?_
        exact vw_lawret hX hE dL_law_206 h
def B_L_law_104 (a0 : Nat) (K2 : Int32 → Mm → Nat → Nat → Nat → Prop) (Q : Int32 → Mm → Nat → Prop) : Nat → Int32 → Nat → Nat → Int32 → Nat → Int32 → Int32 → Mm → Nat → Nat → Nat → Prop
  | 0, _, _, _, _, _, _, _, _, _, _, _ => False
  | n + 1, x1, x2, x3, x4, x5, x6, x7, w, z, mc, ms => (x6 ≤ x7 → isO w x5 1 ∧ ∃ k67 k68, k67 ≤ mc ∧ k68 ≤ ms ∧ F_J4_toString_0e30d x5 w z k67 k68 (fun r64 w65 z66 => ∃ k72 k73, k72 ≤ (mc - k67) ∧ k73 ≤ (ms - k68) ∧ F_L_write x3 r64 w65 z66 k72 k73 (fun r69 w70 z71 => (r69 = 0 → Q 0 w70 z71) ∧
  (¬ r69 = 0 → isO w70 x3 9 ∧ ∃ k79 k80, k79 ≤ ((mc - k67) - k72) ∧ k80 ≤ ((ms - k68) - k73) ∧ F_X5_load x3 w70 z71 k79 k80 (fun r76 w77 z78 => (¬ r76 = x6 → Q 0 w77 z78) ∧
  (r76 = x6 → isO w77 x3 9 ∧ F_X5_stopCount x3 w77 z78 (fun r83 w84 z85 => (r83 = x4 → ∃ nn, B_L_law_190 a0 K2 Q nn x1 x2 x3 0 w84 z85 ((((mc - k67) - k72) - k79)) ((((ms - k68) - k73) - k80))) ∧
  (¬ r83 = x4 → Q 0 w84 z85)))))))) ∧
  (¬ x6 ≤ x7 → ∀ q87, isLit w q87 lit_17 → isO w x5 1 ∧ ∃ k92 k93, k92 ≤ mc ∧ k93 ≤ ms ∧ F_J4_append_15ec4 x5 q87 w z k92 k93 (fun r89 w90 z91 => isO w90 r89 1 ∧ ∃ k98 k99, k98 ≤ (mc - k92) ∧ k99 ≤ (ms - k93) ∧ F_J4_append_cf468 r89 ((((97 + x7) : Int32).toUInt32 % 65536).toInt32) w90 z91 k98 k99 (fun r95 w96 z97 => isO w96 r95 1 ∧ ∃ k104 k105, k104 ≤ ((mc - k92) - k98) ∧ k105 ≤ ((ms - k93) - k99) ∧ F_J4_append_cf468 r95 32 w96 z97 k104 k105 (fun r101 w102 z103 => F_L_draw x2 40000 w102 z103 (fun r106 w107 z108 => isO w107 r101 1 ∧ ∃ k113 k114, k113 ≤ (((mc - k92) - k98) - k104) ∧ k114 ≤ (((ms - k93) - k99) - k105) ∧ F_J4_append_bf812 r101 r106 w107 z108 k113 k114 (fun r110 w111 z112 => isO w111 r110 1 ∧ ∃ k119 k120, k119 ≤ ((((mc - k92) - k98) - k104) - k113) ∧ k120 ≤ ((((ms - k93) - k99) - k105) - k114) ∧ F_J4_append_cf468 r110 59 w111 z112 k119 k120 (fun r116 w117 z118 => B_L_law_104 a0 K2 Q n x1 x2 x3 x4 x5 x6 ((x7 + 1)) w117 z118 ((((((mc - k92) - k98) - k104) - k113) - k119)) ((((((ms - k93) - k99) - k105) - k114) - k120)))))))))
set_option maxRecDepth 100000 in
set_option maxHeartbeats 4000000 in
theorem pB_L_law_104 {C : Cx} {d : Nat} {a0 : Nat} {K2 : Int32 → Mm → Nat → Nat → Nat → Prop} (hX : CX C cL_law RL 11 (some .boolean) [] (d + 11)) (hE : EL C) (hK2 : ∀ (x1 : Int32) (w : Mm) (z mc ms : Nat), K2 x1 w z mc ms → VW C 2 [(0, .ref (a0)), (1, .int (x1))] [] w z mc ms) : ∀ (n : Nat) (x1 : Int32) (x2 : Nat) (x3 : Nat) (x4 : Int32) (x5 : Nat) (x6 : Int32) (x7 : Int32) (w : Mm) (z mc ms : Nat), B_L_law_104 a0 K2 lawQ n x1 x2 x3 x4 x5 x6 x7 w z mc ms → VW C 104 [(0, .ref (a0)), (1, .int (x1)), (2, .ref (x2)), (3, .ref (x3)), (4, .int (x4)), (5, .ref (x5)), (6, .int (x6)), (7, .int (x7))] [] w z mc ms := by
  intro n
  induction n with
  | zero => intro x1 x2 x3 x4 x5 x6 x7 w z mc ms h; exact False.elim h
  | succ n ih =>
    intro x1 x2 x3 x4 x5 x6 x7 w z mc ms h
    unfold B_L_law_104 at h
    refine vw_iload hX 7 dL_law_104 rfl ?_
    refine vw_iload hX 6 dL_law_106 rfl ?_
    refine vw_icmp_ge hX (tgt := 155) dL_law_108 (by decide) (fun c62 => ?_) (fun c62 => ?_)
    · have h := h.1 c62
      refine vw_aload_n hX 3 dL_law_155 rfl ?_
      refine vw_aload hX 5 dL_law_156 rfl ?_
      obtain ⟨hr63, h⟩ := h
      obtain ⟨k67, k68, hm1, hm2, h⟩ := h
      refine s_L_265 hX hr63 dL_law_158 (Nat.le_of_ble_eq_true rfl) hm1 hm2 (ct_J4_toString_0e30d (d := d + 4) (lst hX) h) (fun r64 w65 z66 h => ?_)
      obtain ⟨k72, k73, hm1, hm2, h⟩ := h
      refine s_L_269 hX dL_law_161 (Nat.le_of_ble_eq_true rfl) hm1 hm2 (ct_L_write (d := d + 2) (lst hX) h) (fun r69 w70 z71 h => ?_)
      refine vw_if_eq hX (tgt := 185) dL_law_164 (by decide) (fun c74 => ?_) (fun c74 => ?_)
      · have h := h.1 c74
        refine vw_iconst hX (v := 0) dL_law_185 (by decide) ?_
        exact vw_lawret hX hE dL_law_186 h
      · have h := h.2 c74
        refine vw_aload_n hX 3 dL_law_167 rfl ?_
        obtain ⟨hr75, h⟩ := h
        obtain ⟨k79, k80, hm1, hm2, h⟩ := h
        refine s_L_273 hX hr75 dL_law_168 (Nat.le_of_ble_eq_true rfl) hm1 hm2 (ct_X5_load (d := d + 0) (lst hX) h) (fun r76 w77 z78 h => ?_)
        refine vw_iload hX 6 dL_law_171 rfl ?_
        refine vw_icmp_ne hX (tgt := 185) dL_law_173 (by decide) (fun c81 => ?_) (fun c81 => ?_)
        · have h := h.1 c81
          refine vw_iconst hX (v := 0) dL_law_185 (by decide) ?_
          exact vw_lawret hX hE dL_law_186 h
        · have h := h.2 c81
          refine vw_aload_n hX 3 dL_law_176 rfl ?_
          obtain ⟨hr82, h⟩ := h
          refine s_L_213 hX hr82 dL_law_177 (Nat.le_of_ble_eq_true rfl) (ct_X5_stopCount (d := d + 10) (lst hX) h) (fun r83 w84 z85 h => ?_)
          refine vw_iload hX 4 dL_law_180 rfl ?_
          refine vw_icmp_eq hX (tgt := 187) dL_law_182 (by decide) (fun c86 => ?_) (fun c86 => ?_)
          · have h := h.1 c86
            refine vw_iconst hX (v := 0) dL_law_187 (by decide) ?_
            refine vw_istore hX dL_law_188 (by decide) rfl ?_
            obtain ⟨nn, h⟩ := h
            exact vw_sub [1, 2, 3, 4, 0] rfl (pB_L_law_190 hX hE hK2 nn _ _ _ _ _ _ _ _ h)
          · have h := h.2 c86
            refine vw_iconst hX (v := 0) dL_law_185 (by decide) ?_
            exact vw_lawret hX hE dL_law_186 h
    · have h := h.2 c62
      refine vw_aload hX 5 dL_law_111 rfl ?_
      refine l_L_259 hX dL_law_113 (fun q87 hq87 => ?_)
      have h := h q87 hq87
      obtain ⟨hr88, h⟩ := h
      obtain ⟨k92, k93, hm1, hm2, h⟩ := h
      refine s_L_261 hX hr88 dL_law_116 (Nat.le_of_ble_eq_true rfl) hm1 hm2 (ct_J4_append_15ec4 (d := d + 5) (lst hX) h) (fun r89 w90 z91 h => ?_)
      refine vw_bipush hX (v := 97) dL_law_119 (by decide) ?_
      refine vw_iload hX 7 dL_law_121 rfl ?_
      refine vw_iadd hX dL_law_123 ?_
      refine vw_i2c hX dL_law_124 ?_
      obtain ⟨hr94, h⟩ := h
      obtain ⟨k98, k99, hm1, hm2, h⟩ := h
      refine s_L_253 hX hr94 dL_law_125 (Nat.le_of_ble_eq_true rfl) hm1 hm2 (ct_J4_append_cf468 (d := d + 5) (lst hX) h) (fun r95 w96 z97 h => ?_)
      refine vw_bipush hX (v := 32) dL_law_128 (by decide) ?_
      obtain ⟨hr100, h⟩ := h
      obtain ⟨k104, k105, hm1, hm2, h⟩ := h
      refine s_L_253 hX hr100 dL_law_130 (Nat.le_of_ble_eq_true rfl) hm1 hm2 (ct_J4_append_cf468 (d := d + 5) (lst hX) h) (fun r101 w102 z103 h => ?_)
      refine vw_aload_n hX 2 dL_law_133 rfl ?_
      refine vw_ldcwI hX kw_1376 dL_law_134 ?_
      refine s_L_206 hX dL_law_137 (Nat.le_of_ble_eq_true rfl) (ct_L_draw (d := d + 10) (lst hX) h) (fun r106 w107 z108 h => ?_)
      obtain ⟨hr109, h⟩ := h
      obtain ⟨k113, k114, hm1, hm2, h⟩ := h
      refine s_L_256 hX hr109 dL_law_140 (Nat.le_of_ble_eq_true rfl) hm1 hm2 (ct_J4_append_bf812 (d := d + 5) (lst hX) h) (fun r110 w111 z112 h => ?_)
      refine vw_bipush hX (v := 59) dL_law_143 (by decide) ?_
      obtain ⟨hr115, h⟩ := h
      obtain ⟨k119, k120, hm1, hm2, h⟩ := h
      refine s_L_253 hX hr115 dL_law_145 (Nat.le_of_ble_eq_true rfl) hm1 hm2 (ct_J4_append_cf468 (d := d + 5) (lst hX) h) (fun r116 w117 z118 h => ?_)
      refine vw_pop hX dL_law_148 rfl ?_
      refine vw_iinc hX 7 (v := x7 + 1) dL_law_149 rfl rfl (by decide) rfl ?_
      refine vw_goto hX (tgt := 104) dL_law_152 (by decide) ?_
      exact vw_sub [1, 2, 3, 4, 5, 6, 7, 0] rfl (ih _ _ _ _ _ _ _ _ _ _ _ h)
def B_L_law_55 (a0 : Nat) (K2 : Int32 → Mm → Nat → Nat → Nat → Prop) (Q : Int32 → Mm → Nat → Prop) : Nat → Int32 → Nat → Nat → Int32 → Nat → Int32 → Mm → Nat → Nat → Nat → Prop
  | 0, _, _, _, _, _, _, _, _, _, _ => False
  | n + 1, x1, x2, x3, x4, x5, x6, w, z, mc, ms => (x4 ≤ x6 → isO w x5 1 ∧ ∃ k126 k127, k126 ≤ mc ∧ k127 ≤ ms ∧ F_J4_append_cf468 x5 59 w z k126 k127 (fun r123 w124 z125 => F_L_draw x2 4 w124 z125 (fun r128 w129 z130 => ∀ i131 : Int32, i131 = (1 + r128) → ∃ nn, B_L_law_104 a0 K2 Q nn x1 x2 x3 x4 x5 i131 0 w129 z130 ((mc - k126)) ((ms - k127))))) ∧
  (¬ x4 ≤ x6 → isO w x5 1 ∧ ∃ k136 k137, k136 ≤ mc ∧ k137 ≤ ms ∧ F_J4_append_cf468 x5 32 w z k136 k137 (fun r133 w134 z135 => F_L_draw x2 4 w134 z135 (fun r138 w139 z140 => isO w139 r133 1 ∧ ∃ k145 k146, k145 ≤ (mc - k136) ∧ k146 ≤ (ms - k137) ∧ F_J4_append_bf812 r133 r138 w139 z140 k145 k146 (fun r142 w143 z144 => B_L_law_55 a0 K2 Q n x1 x2 x3 x4 x5 ((x6 + 1)) w143 z144 (((mc - k136) - k145)) (((ms - k137) - k146))))))
set_option maxRecDepth 100000 in
set_option maxHeartbeats 4000000 in
theorem pB_L_law_55 {C : Cx} {d : Nat} {a0 : Nat} {K2 : Int32 → Mm → Nat → Nat → Nat → Prop} (hX : CX C cL_law RL 11 (some .boolean) [] (d + 11)) (hE : EL C) (hK2 : ∀ (x1 : Int32) (w : Mm) (z mc ms : Nat), K2 x1 w z mc ms → VW C 2 [(0, .ref (a0)), (1, .int (x1))] [] w z mc ms) : ∀ (n : Nat) (x1 : Int32) (x2 : Nat) (x3 : Nat) (x4 : Int32) (x5 : Nat) (x6 : Int32) (w : Mm) (z mc ms : Nat), B_L_law_55 a0 K2 lawQ n x1 x2 x3 x4 x5 x6 w z mc ms → VW C 55 [(0, .ref (a0)), (1, .int (x1)), (2, .ref (x2)), (3, .ref (x3)), (4, .int (x4)), (5, .ref (x5)), (6, .int (x6))] [] w z mc ms := by
  intro n
  induction n with
  | zero => intro x1 x2 x3 x4 x5 x6 w z mc ms h; exact False.elim h
  | succ n ih =>
    intro x1 x2 x3 x4 x5 x6 w z mc ms h
    unfold B_L_law_55 at h
    refine vw_iload hX 6 dL_law_55 rfl ?_
    refine vw_iload hX 4 dL_law_57 rfl ?_
    refine vw_icmp_ge hX (tgt := 84) dL_law_59 (by decide) (fun c121 => ?_) (fun c121 => ?_)
    · have h := h.1 c121
      refine vw_aload hX 5 dL_law_84 rfl ?_
      refine vw_bipush hX (v := 59) dL_law_86 (by decide) ?_
      obtain ⟨hr122, h⟩ := h
      obtain ⟨k126, k127, hm1, hm2, h⟩ := h
      refine s_L_253 hX hr122 dL_law_88 (Nat.le_of_ble_eq_true rfl) hm1 hm2 (ct_J4_append_cf468 (d := d + 5) (lst hX) h) (fun r123 w124 z125 h => ?_)
      refine vw_pop hX dL_law_91 rfl ?_
      refine vw_iconst hX (v := 1) dL_law_92 (by decide) ?_
      refine vw_aload_n hX 2 dL_law_93 rfl ?_
      refine vw_iconst hX (v := 4) dL_law_94 (by decide) ?_
      refine s_L_206 hX dL_law_95 (Nat.le_of_ble_eq_true rfl) (ct_L_draw (d := d + 10) (lst hX) h) (fun r128 w129 z130 h => ?_)
      refine vw_iadd hX dL_law_98 ?_
      refine vw_nmI (fun i131 ei131 => ?_)
      have h := h i131 ei131
      refine vw_istore hX dL_law_99 (by decide) rfl ?_
      refine vw_iconst hX (v := 0) dL_law_101 (by decide) ?_
      refine vw_istore hX dL_law_102 (by decide) rfl ?_
      obtain ⟨nn, h⟩ := h
      exact vw_sub [2, 3, 4, 5, 6, 7, 1, 0] rfl (pB_L_law_104 hX hE hK2 nn _ _ _ _ _ _ _ _ _ _ _ h)
    · have h := h.2 c121
      refine vw_aload hX 5 dL_law_62 rfl ?_
      refine vw_bipush hX (v := 32) dL_law_64 (by decide) ?_
      obtain ⟨hr132, h⟩ := h
      obtain ⟨k136, k137, hm1, hm2, h⟩ := h
      refine s_L_253 hX hr132 dL_law_66 (Nat.le_of_ble_eq_true rfl) hm1 hm2 (ct_J4_append_cf468 (d := d + 5) (lst hX) h) (fun r133 w134 z135 h => ?_)
      refine vw_aload_n hX 2 dL_law_69 rfl ?_
      refine vw_iconst hX (v := 4) dL_law_70 (by decide) ?_
      refine s_L_206 hX dL_law_71 (Nat.le_of_ble_eq_true rfl) (ct_L_draw (d := d + 10) (lst hX) h) (fun r138 w139 z140 h => ?_)
      obtain ⟨hr141, h⟩ := h
      obtain ⟨k145, k146, hm1, hm2, h⟩ := h
      refine s_L_256 hX hr141 dL_law_74 (Nat.le_of_ble_eq_true rfl) hm1 hm2 (ct_J4_append_bf812 (d := d + 5) (lst hX) h) (fun r142 w143 z144 h => ?_)
      refine vw_pop hX dL_law_77 rfl ?_
      refine vw_iinc hX 6 (v := x6 + 1) dL_law_78 rfl rfl (by decide) rfl ?_
      refine vw_goto hX (tgt := 55) dL_law_81 (by decide) ?_
      exact vw_sub [1, 2, 3, 4, 5, 6, 0] rfl (ih _ _ _ _ _ _ _ _ _ _ h)
def B_L_law_2 (a0 : Nat) (Q : Int32 → Mm → Nat → Prop) : Nat → Int32 → Mm → Nat → Nat → Nat → Prop
  | 0, _, _, _, _, _ => False
  | n + 1, x1, w, z, mc, ms => ∃ n148 f147, arI w a0 0 = some (n148, f147) ∧ (((nI n148)) ≤ x1 → Q 1 w z) ∧
  (¬ ((nI n148)) ≤ x1 → (1 ≤ x1 → Q 1 w z) ∧
  (¬ 1 ≤ x1 → ¬ (1 : Int32) < 0 ∧ ∃ n152, (1 : Int32).toNatClampNeg = n152 ∧ n152 ≤ 10000000 ∧ 1 ≤ mc ∧ n152 ≤ ms ∧ ∀ w151, w151 = mset w z (.inr (0, n152, .inl (fun _ => 0))) → ∃ n154 f153, arI w151 a0 0 = some (n154, f153) ∧ vp_in x1 n154 ∧ ∃ n156 f155, arW w151 z 0 = some (n156, f155) ∧ vp_in 0 n156 ∧ ∀ w157, w157 = mset w151 z (.inr (0, n156, .inl (upd f155 (0 : Int32).toNatClampNeg ((f153 (x1 : Int32).toNatClampNeg))))) → 1 ≤ ((mc - 1)) ∧ 8 ≤ ((ms - n152)) ∧ ∀ w158, w158 = mset w157 ((z + 1)) (.inl (9, [.null, .null, .null, .int 0, .null, .null, .null, .null])) → ∃ k162 k163, k162 ≤ ((mc - 1) - 1) ∧ k163 ≤ ((ms - n152) - 8) ∧ F_X5_init ((z + 1)) w158 (((z + 1) + 1)) k162 k163 (fun w160 z161 => F_L_draw z 10 w160 z161 (fun r164 w165 z166 => ∀ i167 : Int32, i167 = (2 + r164) → 1 ≤ ((((mc - 1) - 1) - k162)) ∧ 4 ≤ ((((ms - n152) - 8) - k163)) ∧ ∀ w168, w168 = mset w165 z166 (.inl (1, [.null, .int 0, .int 0, .int 0])) → ∀ q169, isLit w168 q169 lit_4 → ∃ k173 k174, k173 ≤ ((((mc - 1) - 1) - k162) - 1) ∧ k174 ≤ ((((ms - n152) - 8) - k163) - 4) ∧ F_J4_init_a7421 z166 q169 w168 ((z166 + 1)) k173 k174 (fun w171 z172 => ∃ nn, B_L_law_55 a0 (B_L_law_2 a0 Q n) Q nn x1 z ((z + 1)) i167 z166 0 w171 z172 ((((((mc - 1) - 1) - k162) - 1) - k173)) ((((((ms - n152) - 8) - k163) - 4) - k174)))))))
set_option maxRecDepth 100000 in
set_option maxHeartbeats 4000000 in
theorem pB_L_law_2 {C : Cx} {d : Nat} {a0 : Nat} (hX : CX C cL_law RL 11 (some .boolean) [] (d + 11)) (hE : EL C) : ∀ (n : Nat) (x1 : Int32) (w : Mm) (z mc ms : Nat), B_L_law_2 a0 lawQ n x1 w z mc ms → VW C 2 [(0, .ref (a0)), (1, .int (x1))] [] w z mc ms := by
  intro n
  induction n with
  | zero => intro x1 w z mc ms h; exact False.elim h
  | succ n ih =>
    intro x1 w z mc ms h
    unfold B_L_law_2 at h
    refine vw_iload_n hX 1 dL_law_2 rfl ?_
    refine vw_aload_n hX 0 dL_law_3 rfl ?_
    obtain ⟨n148, f147, hf147, h⟩ := h
    refine vw_alen hX 0 (by decide) hf147 dL_law_4 ?_
    refine vw_icmp_ge hX (tgt := 334) dL_law_5 (by decide) (fun c149 => ?_) (fun c149 => ?_)
    · have h := h.1 c149
      refine vw_iconst hX (v := 1) dL_law_334 (by decide) ?_
      exact vw_lawret hX hE dL_law_335 h
    · have h := h.2 c149
      refine vw_iload_n hX 1 dL_law_8 rfl ?_
      refine vw_iconst hX (v := 1) dL_law_9 (by decide) ?_
      refine vw_icmp_ge hX (tgt := 334) dL_law_10 (by decide) (fun c150 => ?_) (fun c150 => ?_)
      · have h := h.1 c150
        refine vw_iconst hX (v := 1) dL_law_334 (by decide) ?_
        exact vw_lawret hX hE dL_law_335 h
      · have h := h.2 c150
        refine vw_iconst hX (v := 1) dL_law_13 (by decide) ?_
        obtain ⟨hn0, n152, hN, hb, hm1, hm2, h⟩ := h
        refine vw_newI hX kw_89 hn0 hN hb hm1 hm2 dL_law_14 ?_
        refine vw_nmW (fun w151 ew151 => ?_)
        have h := h w151 ew151
        refine vw_dup hX dL_law_16 rfl ?_
        refine vw_iconst hX (v := 0) dL_law_17 (by decide) ?_
        refine vw_aload_n hX 0 dL_law_18 rfl ?_
        refine vw_iload_n hX 1 dL_law_19 rfl ?_
        obtain ⟨n154, f153, hf153, hif153, h⟩ := h
        refine vw_iald hX hf153 hif153 dL_law_20 ?_
        obtain ⟨n156, f155, hf155, hif155, h⟩ := h
        refine vw_iast hX hf155 hif155 dL_law_21 ?_
        refine vw_nmW (fun w157 ew157 => ?_)
        have h := h w157 ew157
        refine vw_astore_n hX dL_law_22 (by decide) rfl ?_
        obtain ⟨hm1, hm2, h⟩ := h
        refine n_L_8 hX hm1 hm2 dL_law_23 ?_
        refine vw_nmW (fun w158 ew158 => ?_)
        have h := h w158 ew158
        refine vw_dup hX dL_law_26 rfl ?_
        obtain ⟨k162, k163, hm1, hm2, h⟩ := h
        refine s_L_245 hX dL_law_27 (Nat.le_of_ble_eq_true rfl) hm1 hm2 (ct_X5_init (d := d + 7) (lst hX) h) (fun w160 z161 h => ?_)
        refine vw_astore_n hX dL_law_30 (by decide) rfl ?_
        refine vw_iconst hX (v := 2) dL_law_31 (by decide) ?_
        refine vw_aload_n hX 1 dL_law_32 rfl ?_
        refine vw_bipush hX (v := 10) dL_law_33 (by decide) ?_
        refine s_L_206 hX dL_law_35 (Nat.le_of_ble_eq_true rfl) (ct_L_draw (d := d + 10) (lst hX) h) (fun r164 w165 z166 h => ?_)
        refine vw_iadd hX dL_law_38 ?_
        refine vw_nmI (fun i167 ei167 => ?_)
        have h := h i167 ei167
        refine vw_istore hX dL_law_39 (by decide) rfl ?_
        obtain ⟨hm1, hm2, h⟩ := h
        refine n_L_246 hX hm1 hm2 dL_law_41 ?_
        refine vw_nmW (fun w168 ew168 => ?_)
        have h := h w168 ew168
        refine vw_dup hX dL_law_44 rfl ?_
        refine l_L_248 hX dL_law_45 (fun q169 hq169 => ?_)
        have h := h q169 hq169
        obtain ⟨k173, k174, hm1, hm2, h⟩ := h
        refine s_L_250 hX dL_law_47 (Nat.le_of_ble_eq_true rfl) hm1 hm2 (ct_J4_init_a7421 (d := d + 2) (lst hX) h) (fun w171 z172 h => ?_)
        refine vw_astore hX dL_law_50 (by decide) rfl ?_
        refine vw_iconst hX (v := 0) dL_law_52 (by decide) ?_
        refine vw_istore hX dL_law_53 (by decide) rfl ?_
        obtain ⟨nn, h⟩ := h
        exact vw_sub [5, 6, 4, 3, 2, 1, 0] rfl (pB_L_law_55 hX hE ih nn _ _ _ _ _ _ _ _ _ _ h)
def F_L_law (a0 : Nat) (w : Mm) (z : Nat) (mc ms : Nat) (Q : Int32 → Mm → Nat → Prop) : Prop :=
  ∃ nn, B_L_law_2 a0 Q nn 0 w z mc ms
set_option maxRecDepth 100000 in
set_option maxHeartbeats 4000000 in
theorem ct_L_law {C : Cx} {d : Nat} {a0 : Nat} {w : Mm} {z mc ms : Nat} (hX : CX C cL_law RL 11 (some .boolean) [] (d + 11)) (hE : EL C) (h : F_L_law a0 w z mc ms lawQ) : VW C 0 [(0, .ref (a0))] [] w z mc ms := by
  unfold F_L_law at h
  refine vw_iconst hX (v := 0) dL_law_0 (by decide) ?_
  refine vw_istore_n hX dL_law_1 (by decide) rfl ?_
  obtain ⟨nn, h⟩ := h
  exact vw_sub [1, 0] rfl (pB_L_law_2 hX hE nn _ _ _ _ _ h)
