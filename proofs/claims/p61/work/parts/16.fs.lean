def F_X3_addStop (a0 : Nat) (a1 : Int32) (w : Mm) (z : Nat) (Q : Mm → Nat → Prop) : Prop :=
  ∃ v1, fld w a0 7 4 = some (.int (v1)) ∧ (12 ≤ v1 → Q w z) ∧
  (¬ 12 ≤ v1 → ∃ q3, fld w a0 7 8 = some (.ref (q3)) ∧ ∃ v4, fld w a0 7 4 = some (.int (v4)) ∧ ∃ n6 f5, arW w q3 0 = some (n6, f5) ∧ vp_in v4 n6 ∧ ∀ w7, w7 = mset w q3 (.inr (0, n6, .inl (upd f5 (v4 : Int32).toNatClampNeg a1))) → ∃ v8, fld w7 a0 7 4 = some (.int (v8)) ∧ ∃ f9, obj w7 a0 7 = some f9 ∧ 4 < f9.length ∧ ∀ w10, w10 = mset w7 a0 (.inl (7, f9.set 4 (.int ((v8 + 1))))) → Q w10 z)
set_option maxRecDepth 100000 in
set_option maxHeartbeats 4000000 in
theorem ct_X3_addStop {l : Launch} {g : Gp} {d : Nat} (hst : l.stackTraces = false) {a0 : Nat} {a1 : Int32} {w : Mm} {z mc ms : Nat} {Q : Mm → Nat → Prop} {X : String → Mm → Nat → Prop} (h : F_X3_addStop a0 a1 w z Q) : Ct l g yX3_addStop (.code yX3_addStop cX3_addStop 2 none) (d + 0) mc ms [.ref (a0), .int (a1)] w z (rV Q) X := by
  refine Ct.of hst (by decide) (Nat.le_of_ble_eq_true rfl) (fun C hX hE hg hl hNm => ?_)
  subst hg
  subst hl
  unfold F_X3_addStop at h
  show VW C 0 [(0, .ref (a0)), (1, .int (a1))] [] w z mc ms
  refine vw_aload_n hX 0 dX3_addStop_0 rfl ?_
  obtain ⟨v1, hv1, h⟩ := h
  refine g_X3_49 hX hv1 dX3_addStop_1 ?_
  refine vw_bipush hX (v := 12) dX3_addStop_4 (by decide) ?_
  refine vw_icmp_ge hX (tgt := 29) dX3_addStop_6 (by decide) (fun c2 => ?_) (fun c2 => ?_)
  · have h := h.1 c2
    exact vw_vret hX hE dX3_addStop_29 ⟨rfl, h⟩
  · have h := h.2 c2
    refine vw_aload_n hX 0 dX3_addStop_9 rfl ?_
    obtain ⟨q3, hq3, h⟩ := h
    refine g_X3_9 hX hq3 dX3_addStop_10 ?_
    refine vw_aload_n hX 0 dX3_addStop_13 rfl ?_
    obtain ⟨v4, hv4, h⟩ := h
    refine g_X3_49 hX hv4 dX3_addStop_14 ?_
    refine vw_iload_n hX 1 dX3_addStop_17 rfl ?_
    obtain ⟨n6, f5, hf5, hif5, h⟩ := h
    refine vw_iast hX hf5 hif5 dX3_addStop_18 ?_
    refine vw_nmW (fun w7 ew7 => ?_)
    have h := h w7 ew7
    refine vw_aload_n hX 0 dX3_addStop_19 rfl ?_
    refine vw_dup hX dX3_addStop_20 rfl ?_
    obtain ⟨v8, hv8, h⟩ := h
    refine g_X3_49 hX hv8 dX3_addStop_21 ?_
    refine vw_iconst hX (v := 1) dX3_addStop_24 (by decide) ?_
    refine vw_iadd hX dX3_addStop_25 ?_
    obtain ⟨f9, hf9, hlf9, h⟩ := h
    refine p_X3_49 hX hf9 hlf9 dX3_addStop_26 ?_
    refine vw_nmW (fun w10 ew10 => ?_)
    have h := h w10 ew10
    exact vw_vret hX hE dX3_addStop_29 ⟨rfl, h⟩
def F_X3_addPassenger (a0 : Nat) (a1 : Nat) (a2 : Int32) (w : Mm) (z : Nat) (Q : Mm → Nat → Prop) : Prop :=
  ∃ v1, fld w a0 7 5 = some (.int (v1)) ∧ (8 ≤ v1 → Q w z) ∧
  (¬ 8 ≤ v1 → ∃ q3, fld w a0 7 9 = some (.ref (q3)) ∧ ∃ v4, fld w a0 7 5 = some (.int (v4)) ∧ ∃ n6 f5 q7, arR w q3 5 = some (n6, f5) ∧ vp_in v4 n6 ∧ f5 (v4 : Int32).toNatClampNeg = some q7 ∧ isO w q7 6 ∧ F_X2_enter q7 a1 a2 w z (fun w10 z11 => ∃ v12, fld w10 a0 7 5 = some (.int (v12)) ∧ ∃ f13, obj w10 a0 7 = some f13 ∧ 5 < f13.length ∧ ∀ w14, w14 = mset w10 a0 (.inl (7, f13.set 5 (.int ((v12 + 1))))) → ∃ v15, fld w14 a0 7 3 = some (.int (v15)) ∧ ∃ f16, obj w14 a0 7 = some f16 ∧ 3 < f16.length ∧ ∀ w17, w17 = mset w14 a0 (.inl (7, f16.set 3 (.int ((v15 + a2))))) → Q w17 z11))
set_option maxRecDepth 100000 in
set_option maxHeartbeats 4000000 in
theorem ct_X3_addPassenger {l : Launch} {g : Gp} {d : Nat} (hst : l.stackTraces = false) {a0 : Nat} {a1 : Nat} {a2 : Int32} {w : Mm} {z mc ms : Nat} {Q : Mm → Nat → Prop} {X : String → Mm → Nat → Prop} (h : F_X3_addPassenger a0 a1 a2 w z Q) : Ct l g yX3_addPassenger (.code yX3_addPassenger cX3_addPassenger 3 none) (d + 2) mc ms [.ref (a0), .ref (a1), .int (a2)] w z (rV Q) X := by
  refine Ct.of hst (by decide) (Nat.le_of_ble_eq_true rfl) (fun C hX hE hg hl hNm => ?_)
  subst hg
  subst hl
  unfold F_X3_addPassenger at h
  show VW C 0 [(0, .ref (a0)), (1, .ref (a1)), (2, .int (a2))] [] w z mc ms
  refine vw_aload_n hX 0 dX3_addPassenger_0 rfl ?_
  obtain ⟨v1, hv1, h⟩ := h
  refine g_X3_52 hX hv1 dX3_addPassenger_1 ?_
  refine vw_bipush hX (v := 8) dX3_addPassenger_4 (by decide) ?_
  refine vw_icmp_ge hX (tgt := 43) dX3_addPassenger_6 (by decide) (fun c2 => ?_) (fun c2 => ?_)
  · have h := h.1 c2
    exact vw_vret hX hE dX3_addPassenger_43 ⟨rfl, h⟩
  · have h := h.2 c2
    refine vw_aload_n hX 0 dX3_addPassenger_9 rfl ?_
    obtain ⟨q3, hq3, h⟩ := h
    refine g_X3_17 hX hq3 dX3_addPassenger_10 ?_
    refine vw_aload_n hX 0 dX3_addPassenger_13 rfl ?_
    obtain ⟨v4, hv4, h⟩ := h
    refine g_X3_52 hX hv4 dX3_addPassenger_14 ?_
    obtain ⟨n6, f5, q7, hf5, hif5, hqf5, h⟩ := h
    refine vw_aald hX 5 (by decide) rfl hf5 hif5 hqf5 dX3_addPassenger_17 ?_
    refine vw_aload_n hX 1 dX3_addPassenger_18 rfl ?_
    refine vw_iload_n hX 2 dX3_addPassenger_19 rfl ?_
    obtain ⟨hr8, h⟩ := h
    refine s_X3_77 hX hr8 dX3_addPassenger_20 (Nat.le_of_ble_eq_true rfl) (ct_X2_enter (d := d + 0) (lst hX) h) (fun w10 z11 h => ?_)
    refine vw_aload_n hX 0 dX3_addPassenger_23 rfl ?_
    refine vw_dup hX dX3_addPassenger_24 rfl ?_
    obtain ⟨v12, hv12, h⟩ := h
    refine g_X3_52 hX hv12 dX3_addPassenger_25 ?_
    refine vw_iconst hX (v := 1) dX3_addPassenger_28 (by decide) ?_
    refine vw_iadd hX dX3_addPassenger_29 ?_
    obtain ⟨f13, hf13, hlf13, h⟩ := h
    refine p_X3_52 hX hf13 hlf13 dX3_addPassenger_30 ?_
    refine vw_nmW (fun w14 ew14 => ?_)
    have h := h w14 ew14
    refine vw_aload_n hX 0 dX3_addPassenger_33 rfl ?_
    refine vw_dup hX dX3_addPassenger_34 rfl ?_
    obtain ⟨v15, hv15, h⟩ := h
    refine g_X3_46 hX hv15 dX3_addPassenger_35 ?_
    refine vw_iload_n hX 2 dX3_addPassenger_38 rfl ?_
    refine vw_iadd hX dX3_addPassenger_39 ?_
    obtain ⟨f16, hf16, hlf16, h⟩ := h
    refine p_X3_46 hX hf16 hlf16 dX3_addPassenger_40 ?_
    refine vw_nmW (fun w17 ew17 => ?_)
    have h := h w17 ew17
    exact vw_vret hX hE dX3_addPassenger_43 ⟨rfl, h⟩
def F_X3_canSell (a0 : Nat) (a1 : Int32) (a2 : Int32) (a3 : Int32) (w : Mm) (z : Nat) (Q : Int32 → Mm → Nat → Prop) : Prop :=
  ∃ v1, fld w a0 7 6 = some (.int (v1)) ∧ (30 ≤ v1 → Q 0 w z) ∧
  (¬ 30 ≤ v1 → ∃ q3, fld w a0 7 9 = some (.ref (q3)) ∧ ∃ n5 f4 q6, arR w q3 5 = some (n5, f4) ∧ vp_in a1 n5 ∧ f4 (a1 : Int32).toNatClampNeg = some q6 ∧ ∃ v7, fld w q6 6 1 = some (.int (v7)) ∧ F_X5_priceOf a2 a3 w z (fun r8 w9 z10 => (v7 < r8 → Q 0 w9 z10) ∧
  (¬ v7 < r8 → Q 1 w9 z10)))
set_option maxRecDepth 100000 in
set_option maxHeartbeats 4000000 in
theorem ct_X3_canSell {l : Launch} {g : Gp} {d : Nat} (hst : l.stackTraces = false) {a0 : Nat} {a1 : Int32} {a2 : Int32} {a3 : Int32} {w : Mm} {z mc ms : Nat} {Q : Int32 → Mm → Nat → Prop} {X : String → Mm → Nat → Prop} (h : F_X3_canSell a0 a1 a2 a3 w z Q) : Ct l g yX3_canSell (.code yX3_canSell cX3_canSell 4 (some .boolean)) (d + 2) mc ms [.ref (a0), .int (a1), .int (a2), .int (a3)] w z (rI Q) X := by
  refine Ct.of hst (by decide) (Nat.le_of_ble_eq_true rfl) (fun C hX hE hg hl hNm => ?_)
  subst hg
  subst hl
  unfold F_X3_canSell at h
  show VW C 0 [(0, .ref (a0)), (1, .int (a1)), (2, .int (a2)), (3, .int (a3))] [] w z mc ms
  refine vw_aload_n hX 0 dX3_canSell_0 rfl ?_
  obtain ⟨v1, hv1, h⟩ := h
  refine g_X3_55 hX hv1 dX3_canSell_1 ?_
  refine vw_bipush hX (v := 30) dX3_canSell_4 (by decide) ?_
  refine vw_icmp_ge hX (tgt := 30) dX3_canSell_6 (by decide) (fun c2 => ?_) (fun c2 => ?_)
  · have h := h.1 c2
    refine vw_iconst hX (v := 0) dX3_canSell_30 (by decide) ?_
    exact vw_zret hX hE dX3_canSell_31 rfl ⟨_, rfl, h⟩
  · have h := h.2 c2
    refine vw_aload_n hX 0 dX3_canSell_9 rfl ?_
    obtain ⟨q3, hq3, h⟩ := h
    refine g_X3_17 hX hq3 dX3_canSell_10 ?_
    refine vw_iload_n hX 1 dX3_canSell_13 rfl ?_
    obtain ⟨n5, f4, q6, hf4, hif4, hqf4, h⟩ := h
    refine vw_aald hX 5 (by decide) rfl hf4 hif4 hqf4 dX3_canSell_14 ?_
    obtain ⟨v7, hv7, h⟩ := h
    refine g_X3_90 hX hv7 dX3_canSell_15 ?_
    refine vw_iload_n hX 2 dX3_canSell_18 rfl ?_
    refine vw_iload_n hX 3 dX3_canSell_19 rfl ?_
    refine s_X3_93 hX dX3_canSell_20 (Nat.le_of_ble_eq_true rfl) (ct_X5_priceOf (d := d + 0) (lst hX) h) (fun r8 w9 z10 h => ?_)
    refine vw_icmp_lt hX (tgt := 30) dX3_canSell_23 (by decide) (fun c11 => ?_) (fun c11 => ?_)
    · have h := h.1 c11
      refine vw_iconst hX (v := 0) dX3_canSell_30 (by decide) ?_
      exact vw_zret hX hE dX3_canSell_31 rfl ⟨_, rfl, h⟩
    · have h := h.2 c11
      refine vw_iconst hX (v := 1) dX3_canSell_26 (by decide) ?_
      refine vw_goto hX (tgt := 31) dX3_canSell_27 (by decide) ?_
      exact vw_zret hX hE dX3_canSell_31 rfl ⟨_, rfl, h⟩
def F_X3_sell (a0 : Nat) (a1 : Int32) (a2 : Int32) (a3 : Int32) (w : Mm) (z : Nat) (Q : Int32 → Mm → Nat → Prop) : Prop :=
  ∃ v1, fld w a0 7 6 = some (.int (v1)) ∧ ∃ q2, fld w a0 7 10 = some (.ref (q2)) ∧ ∃ n4 f3 q5, arR w q2 6 = some (n4, f3) ∧ vp_in v1 n4 ∧ f3 (v1 : Int32).toNatClampNeg = some q5 ∧ isO w q5 8 ∧ F_X4_issue q5 a1 a2 a3 w z (fun w8 z9 => ∃ q10, fld w8 a0 7 9 = some (.ref (q10)) ∧ ∃ n12 f11 q13, arR w8 q10 5 = some (n12, f11) ∧ vp_in a1 n12 ∧ f11 (a1 : Int32).toNatClampNeg = some q13 ∧ ∃ v14, fld w8 q13 6 1 = some (.int (v14)) ∧ F_X5_priceOf a2 a3 w8 z9 (fun r15 w16 z17 => ∃ f18, obj w16 q13 6 = some f18 ∧ 1 < f18.length ∧ ∀ w19, w19 = mset w16 q13 (.inl (6, f18.set 1 (.int ((v14 - r15))))) → ∃ v20, fld w19 a0 7 6 = some (.int (v20)) ∧ ∃ f21, obj w19 a0 7 = some f21 ∧ 6 < f21.length ∧ ∀ w22, w22 = mset w19 a0 (.inl (7, f21.set 6 (.int ((v20 + 1))))) → Q v1 w22 z17))
set_option maxRecDepth 100000 in
set_option maxHeartbeats 4000000 in
theorem ct_X3_sell {l : Launch} {g : Gp} {d : Nat} (hst : l.stackTraces = false) {a0 : Nat} {a1 : Int32} {a2 : Int32} {a3 : Int32} {w : Mm} {z mc ms : Nat} {Q : Int32 → Mm → Nat → Prop} {X : String → Mm → Nat → Prop} (h : F_X3_sell a0 a1 a2 a3 w z Q) : Ct l g yX3_sell (.code yX3_sell cX3_sell 5 (some .int)) (d + 2) mc ms [.ref (a0), .int (a1), .int (a2), .int (a3)] w z (rI Q) X := by
  refine Ct.of hst (by decide) (Nat.le_of_ble_eq_true rfl) (fun C hX hE hg hl hNm => ?_)
  subst hg
  subst hl
  unfold F_X3_sell at h
  show VW C 0 [(0, .ref (a0)), (1, .int (a1)), (2, .int (a2)), (3, .int (a3))] [] w z mc ms
  refine vw_aload_n hX 0 dX3_sell_0 rfl ?_
  obtain ⟨v1, hv1, h⟩ := h
  refine g_X3_55 hX hv1 dX3_sell_1 ?_
  refine vw_istore hX dX3_sell_4 (by decide) rfl ?_
  refine vw_aload_n hX 1 dX3_sell_6 rfl ?_
  obtain ⟨q2, hq2, h⟩ := h
  refine g_X3_23 hX hq2 dX3_sell_7 ?_
  refine vw_iload hX 0 dX3_sell_10 rfl ?_
  obtain ⟨n4, f3, q5, hf3, hif3, hqf3, h⟩ := h
  refine vw_aald hX 6 (by decide) rfl hf3 hif3 hqf3 dX3_sell_12 ?_
  refine vw_iload_n hX 2 dX3_sell_13 rfl ?_
  refine vw_iload_n hX 3 dX3_sell_14 rfl ?_
  refine vw_iload_n hX 4 dX3_sell_15 rfl ?_
  obtain ⟨hr6, h⟩ := h
  refine s_X3_96 hX hr6 dX3_sell_16 (Nat.le_of_ble_eq_true rfl) (ct_X4_issue (d := d + 1) (lst hX) h) (fun w8 z9 h => ?_)
  refine vw_aload_n hX 1 dX3_sell_19 rfl ?_
  obtain ⟨q10, hq10, h⟩ := h
  refine g_X3_17 hX hq10 dX3_sell_20 ?_
  refine vw_iload_n hX 2 dX3_sell_23 rfl ?_
  obtain ⟨n12, f11, q13, hf11, hif11, hqf11, h⟩ := h
  refine vw_aald hX 5 (by decide) rfl hf11 hif11 hqf11 dX3_sell_24 ?_
  refine vw_dup hX dX3_sell_25 rfl ?_
  obtain ⟨v14, hv14, h⟩ := h
  refine g_X3_90 hX hv14 dX3_sell_26 ?_
  refine vw_iload_n hX 3 dX3_sell_29 rfl ?_
  refine vw_iload_n hX 4 dX3_sell_30 rfl ?_
  refine s_X3_93 hX dX3_sell_31 (Nat.le_of_ble_eq_true rfl) (ct_X5_priceOf (d := d + 0) (lst hX) h) (fun r15 w16 z17 h => ?_)
  refine vw_isub hX dX3_sell_34 ?_
  obtain ⟨f18, hf18, hlf18, h⟩ := h
  refine p_X3_90 hX hf18 hlf18 dX3_sell_35 ?_
  refine vw_nmW (fun w19 ew19 => ?_)
  have h := h w19 ew19
  refine vw_aload_n hX 1 dX3_sell_38 rfl ?_
  refine vw_dup hX dX3_sell_39 rfl ?_
  obtain ⟨v20, hv20, h⟩ := h
  refine g_X3_55 hX hv20 dX3_sell_40 ?_
  refine vw_iconst hX (v := 1) dX3_sell_43 (by decide) ?_
  refine vw_iadd hX dX3_sell_44 ?_
  obtain ⟨f21, hf21, hlf21, h⟩ := h
  refine p_X3_55 hX hf21 hlf21 dX3_sell_45 ?_
  refine vw_nmW (fun w22 ew22 => ?_)
  have h := h w22 ew22
  refine vw_iload hX 0 dX3_sell_48 rfl ?_
  exact vw_iret hX hE dX3_sell_50 ⟨_, rfl, h⟩
def F_X3_canBeginRide (a0 : Nat) (a1 : Int32) (a2 : Int32) (w : Mm) (z : Nat) (Q : Int32 → Mm → Nat → Prop) : Prop :=
  ∃ q1, fld w a0 7 9 = some (.ref (q1)) ∧ ∃ n3 f2 q4, arR w q1 5 = some (n3, f2) ∧ vp_in a1 n3 ∧ f2 (a1 : Int32).toNatClampNeg = some q4 ∧ ∃ v5, fld w a0 7 0 = some (.int (v5)) ∧ isO w q4 6 ∧ F_X2_isOnTram q4 v5 w z (fun r7 w8 z9 => (¬ r7 = 0 → Q 0 w8 z9) ∧
  (r7 = 0 → (a2 = (-1) → Q 1 w8 z9) ∧
  (¬ a2 = (-1) → ∃ q12, fld w8 a0 7 10 = some (.ref (q12)) ∧ ∃ n14 f13 q15, arR w8 q12 6 = some (n14, f13) ∧ vp_in a2 n14 ∧ f13 (a2 : Int32).toNatClampNeg = some q15 ∧ ∃ v16, fld w8 q15 8 0 = some (.int (v16)) ∧ (¬ v16 = a1 → Q 0 w8 z9) ∧
  (v16 = a1 → Q 1 w8 z9))))
set_option maxRecDepth 100000 in
set_option maxHeartbeats 4000000 in
theorem ct_X3_canBeginRide {l : Launch} {g : Gp} {d : Nat} (hst : l.stackTraces = false) {a0 : Nat} {a1 : Int32} {a2 : Int32} {w : Mm} {z mc ms : Nat} {Q : Int32 → Mm → Nat → Prop} {X : String → Mm → Nat → Prop} (h : F_X3_canBeginRide a0 a1 a2 w z Q) : Ct l g yX3_canBeginRide (.code yX3_canBeginRide cX3_canBeginRide 3 (some .boolean)) (d + 1) mc ms [.ref (a0), .int (a1), .int (a2)] w z (rI Q) X := by
  refine Ct.of hst (by decide) (Nat.le_of_ble_eq_true rfl) (fun C hX hE hg hl hNm => ?_)
  subst hg
  subst hl
  unfold F_X3_canBeginRide at h
  show VW C 0 [(0, .ref (a0)), (1, .int (a1)), (2, .int (a2))] [] w z mc ms
  refine vw_aload_n hX 0 dX3_canBeginRide_0 rfl ?_
  obtain ⟨q1, hq1, h⟩ := h
  refine g_X3_17 hX hq1 dX3_canBeginRide_1 ?_
  refine vw_iload_n hX 1 dX3_canBeginRide_4 rfl ?_
  obtain ⟨n3, f2, q4, hf2, hif2, hqf2, h⟩ := h
  refine vw_aald hX 5 (by decide) rfl hf2 hif2 hqf2 dX3_canBeginRide_5 ?_
  refine vw_aload_n hX 0 dX3_canBeginRide_6 rfl ?_
  obtain ⟨v5, hv5, h⟩ := h
  refine g_X3_36 hX hv5 dX3_canBeginRide_7 ?_
  obtain ⟨hr6, h⟩ := h
  refine s_X3_100 hX hr6 dX3_canBeginRide_10 (Nat.le_of_ble_eq_true rfl) (ct_X2_isOnTram (d := d + 0) (lst hX) h) (fun r7 w8 z9 h => ?_)
  refine vw_if_ne hX (tgt := 38) dX3_canBeginRide_13 (by decide) (fun c10 => ?_) (fun c10 => ?_)
  · have h := h.1 c10
    refine vw_iconst hX (v := 0) dX3_canBeginRide_38 (by decide) ?_
    exact vw_zret hX hE dX3_canBeginRide_39 rfl ⟨_, rfl, h⟩
  · have h := h.2 c10
    refine vw_iload_n hX 2 dX3_canBeginRide_16 rfl ?_
    refine vw_iconst hX (v := (-1)) dX3_canBeginRide_17 (by decide) ?_
    refine vw_icmp_eq hX (tgt := 34) dX3_canBeginRide_18 (by decide) (fun c11 => ?_) (fun c11 => ?_)
    · have h := h.1 c11
      refine vw_iconst hX (v := 1) dX3_canBeginRide_34 (by decide) ?_
      refine vw_goto hX (tgt := 39) dX3_canBeginRide_35 (by decide) ?_
      exact vw_zret hX hE dX3_canBeginRide_39 rfl ⟨_, rfl, h⟩
    · have h := h.2 c11
      refine vw_aload_n hX 0 dX3_canBeginRide_21 rfl ?_
      obtain ⟨q12, hq12, h⟩ := h
      refine g_X3_23 hX hq12 dX3_canBeginRide_22 ?_
      refine vw_iload_n hX 2 dX3_canBeginRide_25 rfl ?_
      obtain ⟨n14, f13, q15, hf13, hif13, hqf13, h⟩ := h
      refine vw_aald hX 6 (by decide) rfl hf13 hif13 hqf13 dX3_canBeginRide_26 ?_
      obtain ⟨v16, hv16, h⟩ := h
      refine g_X3_104 hX hv16 dX3_canBeginRide_27 ?_
      refine vw_iload_n hX 1 dX3_canBeginRide_30 rfl ?_
      refine vw_icmp_ne hX (tgt := 38) dX3_canBeginRide_31 (by decide) (fun c17 => ?_) (fun c17 => ?_)
      · have h := h.1 c17
        refine vw_iconst hX (v := 0) dX3_canBeginRide_38 (by decide) ?_
        exact vw_zret hX hE dX3_canBeginRide_39 rfl ⟨_, rfl, h⟩
      · have h := h.2 c17
        refine vw_iconst hX (v := 1) dX3_canBeginRide_34 (by decide) ?_
        refine vw_goto hX (tgt := 39) dX3_canBeginRide_35 (by decide) ?_
        exact vw_zret hX hE dX3_canBeginRide_39 rfl ⟨_, rfl, h⟩
def F_X3_beginRide (a0 : Nat) (a1 : Int32) (a2 : Int32) (a3 : Int32) (a4 : Int32) (w : Mm) (z : Nat) (Q : Int32 → Mm → Nat → Prop) : Prop :=
  ∃ v1, fld w a0 7 0 = some (.int (v1)) ∧ ∀ i2 : Int32, i2 = (v1 + ((2 * ((jabs ((a3 - a2))))))) → ∃ q3, fld w a0 7 9 = some (.ref (q3)) ∧ ∃ n5 f4 q6, arR w q3 5 = some (n5, f4) ∧ vp_in a1 n5 ∧ f4 (a1 : Int32).toNatClampNeg = some q6 ∧ isO w q6 6 ∧ F_X2_takeRide q6 a2 a3 i2 a4 w z (fun w9 z10 => (a4 = (-1) → Q i2 w9 z10) ∧
  (¬ a4 = (-1) → ∃ q12, fld w9 a0 7 10 = some (.ref (q12)) ∧ ∃ n14 f13 q15, arR w9 q12 6 = some (n14, f13) ∧ vp_in a4 n14 ∧ f13 (a4 : Int32).toNatClampNeg = some q15 ∧ ∃ v16, fld w9 a0 7 0 = some (.int (v16)) ∧ isO w9 q15 8 ∧ F_X4_useForRide q15 v16 a2 w9 z10 (fun w19 z20 => Q i2 w19 z20)))
set_option maxRecDepth 100000 in
set_option maxHeartbeats 4000000 in
theorem ct_X3_beginRide {l : Launch} {g : Gp} {d : Nat} (hst : l.stackTraces = false) {a0 : Nat} {a1 : Int32} {a2 : Int32} {a3 : Int32} {a4 : Int32} {w : Mm} {z mc ms : Nat} {Q : Int32 → Mm → Nat → Prop} {X : String → Mm → Nat → Prop} (h : F_X3_beginRide a0 a1 a2 a3 a4 w z Q) : Ct l g yX3_beginRide (.code yX3_beginRide cX3_beginRide 6 (some .int)) (d + 2) mc ms [.ref (a0), .int (a1), .int (a2), .int (a3), .int (a4)] w z (rI Q) X := by
  refine Ct.of hst (by decide) (Nat.le_of_ble_eq_true rfl) (fun C hX hE hg hl hNm => ?_)
  subst hg
  subst hl
  unfold F_X3_beginRide at h
  show VW C 0 [(0, .ref (a0)), (1, .int (a1)), (2, .int (a2)), (3, .int (a3)), (4, .int (a4))] [] w z mc ms
  refine vw_aload_n hX 0 dX3_beginRide_0 rfl ?_
  obtain ⟨v1, hv1, h⟩ := h
  refine g_X3_36 hX hv1 dX3_beginRide_1 ?_
  refine vw_iconst hX (v := 2) dX3_beginRide_4 (by decide) ?_
  refine vw_iload_n hX 3 dX3_beginRide_5 rfl ?_
  refine vw_iload_n hX 2 dX3_beginRide_6 rfl ?_
  refine vw_isub hX dX3_beginRide_7 ?_
  refine vw_mabs hX kw_795 (Nat.le_of_ble_eq_true rfl) dX3_beginRide_8 ?_
  refine vw_imul hX dX3_beginRide_11 ?_
  refine vw_iadd hX dX3_beginRide_12 ?_
  refine vw_nmI (fun i2 ei2 => ?_)
  have h := h i2 ei2
  refine vw_istore hX dX3_beginRide_13 (by decide) rfl ?_
  refine vw_aload_n hX 1 dX3_beginRide_15 rfl ?_
  obtain ⟨q3, hq3, h⟩ := h
  refine g_X3_17 hX hq3 dX3_beginRide_16 ?_
  refine vw_iload_n hX 2 dX3_beginRide_19 rfl ?_
  obtain ⟨n5, f4, q6, hf4, hif4, hqf4, h⟩ := h
  refine vw_aald hX 5 (by decide) rfl hf4 hif4 hqf4 dX3_beginRide_20 ?_
  refine vw_iload_n hX 3 dX3_beginRide_21 rfl ?_
  refine vw_iload_n hX 4 dX3_beginRide_22 rfl ?_
  refine vw_iload hX 0 dX3_beginRide_23 rfl ?_
  refine vw_iload hX 5 dX3_beginRide_25 rfl ?_
  obtain ⟨hr7, h⟩ := h
  refine s_X3_111 hX hr7 dX3_beginRide_27 (Nat.le_of_ble_eq_true rfl) (ct_X2_takeRide (d := d + 1) (lst hX) h) (fun w9 z10 h => ?_)
  refine vw_iload hX 5 dX3_beginRide_30 rfl ?_
  refine vw_iconst hX (v := (-1)) dX3_beginRide_32 (by decide) ?_
  refine vw_icmp_eq hX (tgt := 51) dX3_beginRide_33 (by decide) (fun c11 => ?_) (fun c11 => ?_)
  · have h := h.1 c11
    refine vw_iload hX 0 dX3_beginRide_51 rfl ?_
    exact vw_iret hX hE dX3_beginRide_53 ⟨_, rfl, h⟩
  · have h := h.2 c11
    refine vw_aload_n hX 1 dX3_beginRide_36 rfl ?_
    obtain ⟨q12, hq12, h⟩ := h
    refine g_X3_23 hX hq12 dX3_beginRide_37 ?_
    refine vw_iload hX 5 dX3_beginRide_40 rfl ?_
    obtain ⟨n14, f13, q15, hf13, hif13, hqf13, h⟩ := h
    refine vw_aald hX 6 (by decide) rfl hf13 hif13 hqf13 dX3_beginRide_42 ?_
    refine vw_aload_n hX 1 dX3_beginRide_43 rfl ?_
    obtain ⟨v16, hv16, h⟩ := h
    refine g_X3_36 hX hv16 dX3_beginRide_44 ?_
    refine vw_iload_n hX 3 dX3_beginRide_47 rfl ?_
    obtain ⟨hr17, h⟩ := h
    refine s_X3_115 hX hr17 dX3_beginRide_48 (Nat.le_of_ble_eq_true rfl) (ct_X4_useForRide (d := d + 0) (lst hX) h) (fun w19 z20 h => ?_)
    refine vw_iload hX 0 dX3_beginRide_51 rfl ?_
    exact vw_iret hX hE dX3_beginRide_53 ⟨_, rfl, h⟩
def F_X3_canInspect (a0 : Nat) (a1 : Int32) (w : Mm) (z : Nat) (Q : Int32 → Mm → Nat → Prop) : Prop :=
  ∃ q1, fld w a0 7 9 = some (.ref (q1)) ∧ ∃ n3 f2 q4, arR w q1 5 = some (n3, f2) ∧ vp_in a1 n3 ∧ f2 (a1 : Int32).toNatClampNeg = some q4 ∧ ∃ v5, fld w a0 7 0 = some (.int (v5)) ∧ isO w q4 6 ∧ F_X2_isOnTram q4 v5 w z (fun r7 w8 z9 => (r7 = 0 → Q 0 w8 z9) ∧
  (¬ r7 = 0 → ∃ v11, fld w8 q4 6 6 = some (.int (v11)) ∧ (¬ v11 = 0 → Q 0 w8 z9) ∧
  (v11 = 0 → ∃ v13, fld w8 a0 7 7 = some (.int (v13)) ∧ (20 ≤ v13 → Q 0 w8 z9) ∧
  (¬ 20 ≤ v13 → Q 1 w8 z9))))
set_option maxRecDepth 100000 in
set_option maxHeartbeats 4000000 in
theorem ct_X3_canInspect {l : Launch} {g : Gp} {d : Nat} (hst : l.stackTraces = false) {a0 : Nat} {a1 : Int32} {w : Mm} {z mc ms : Nat} {Q : Int32 → Mm → Nat → Prop} {X : String → Mm → Nat → Prop} (h : F_X3_canInspect a0 a1 w z Q) : Ct l g yX3_canInspect (.code yX3_canInspect cX3_canInspect 3 (some .boolean)) (d + 1) mc ms [.ref (a0), .int (a1)] w z (rI Q) X := by
  refine Ct.of hst (by decide) (Nat.le_of_ble_eq_true rfl) (fun C hX hE hg hl hNm => ?_)
  subst hg
  subst hl
  unfold F_X3_canInspect at h
  show VW C 0 [(0, .ref (a0)), (1, .int (a1))] [] w z mc ms
  refine vw_aload_n hX 0 dX3_canInspect_0 rfl ?_
  obtain ⟨q1, hq1, h⟩ := h
  refine g_X3_17 hX hq1 dX3_canInspect_1 ?_
  refine vw_iload_n hX 1 dX3_canInspect_4 rfl ?_
  obtain ⟨n3, f2, q4, hf2, hif2, hqf2, h⟩ := h
  refine vw_aald hX 5 (by decide) rfl hf2 hif2 hqf2 dX3_canInspect_5 ?_
  refine vw_astore_n hX dX3_canInspect_6 (by decide) rfl ?_
  refine vw_aload_n hX 0 dX3_canInspect_7 rfl ?_
  refine vw_aload_n hX 1 dX3_canInspect_8 rfl ?_
  obtain ⟨v5, hv5, h⟩ := h
  refine g_X3_36 hX hv5 dX3_canInspect_9 ?_
  obtain ⟨hr6, h⟩ := h
  refine s_X3_100 hX hr6 dX3_canInspect_12 (Nat.le_of_ble_eq_true rfl) (ct_X2_isOnTram (d := d + 0) (lst hX) h) (fun r7 w8 z9 h => ?_)
  refine vw_if_eq hX (tgt := 38) dX3_canInspect_15 (by decide) (fun c10 => ?_) (fun c10 => ?_)
  · have h := h.1 c10
    refine vw_iconst hX (v := 0) dX3_canInspect_38 (by decide) ?_
    exact vw_zret hX hE dX3_canInspect_39 rfl ⟨_, rfl, h⟩
  · have h := h.2 c10
    refine vw_aload_n hX 0 dX3_canInspect_18 rfl ?_
    obtain ⟨v11, hv11, h⟩ := h
    refine g_X3_146 hX hv11 dX3_canInspect_19 ?_
    refine vw_if_ne hX (tgt := 38) dX3_canInspect_22 (by decide) (fun c12 => ?_) (fun c12 => ?_)
    · have h := h.1 c12
      refine vw_iconst hX (v := 0) dX3_canInspect_38 (by decide) ?_
      exact vw_zret hX hE dX3_canInspect_39 rfl ⟨_, rfl, h⟩
    · have h := h.2 c12
      refine vw_aload_n hX 1 dX3_canInspect_25 rfl ?_
      obtain ⟨v13, hv13, h⟩ := h
      refine g_X3_58 hX hv13 dX3_canInspect_26 ?_
      refine vw_bipush hX (v := 20) dX3_canInspect_29 (by decide) ?_
      refine vw_icmp_ge hX (tgt := 38) dX3_canInspect_31 (by decide) (fun c14 => ?_) (fun c14 => ?_)
      · have h := h.1 c14
        refine vw_iconst hX (v := 0) dX3_canInspect_38 (by decide) ?_
        exact vw_zret hX hE dX3_canInspect_39 rfl ⟨_, rfl, h⟩
      · have h := h.2 c14
        refine vw_iconst hX (v := 1) dX3_canInspect_34 (by decide) ?_
        refine vw_goto hX (tgt := 39) dX3_canInspect_35 (by decide) ?_
        exact vw_zret hX hE dX3_canInspect_39 rfl ⟨_, rfl, h⟩
def B_X3_rideZones_16 (a0 : Nat) (a1 : Int32) (a2 : Int32) (Q : Int32 → Mm → Nat → Prop) : Nat → Int32 → Int32 → Int32 → Mm → Nat → Prop
  | 0, _, _, _, _, _ => False
  | n + 1, x3, x4, x5, w, z => (x4 < x5 → Q x3 w z) ∧
  (¬ x4 < x5 → ∃ q2, fld w a0 7 8 = some (.ref (q2)) ∧ ∃ n4 f3, arI w q2 0 = some (n4, f3) ∧ vp_in x5 n4 ∧ ∀ i5 : Int32, i5 = (x3 ||| ((1 <<< (((f3 (x5 : Int32).toNatClampNeg)) &&& 31)))) → B_X3_rideZones_16 a0 a1 a2 Q n i5 x4 ((x5 + 1)) w z)
set_option maxRecDepth 100000 in
set_option maxHeartbeats 4000000 in
theorem pB_X3_rideZones_16 {C : Cx} {d : Nat} {a0 : Nat} {a1 : Int32} {a2 : Int32} {Q : Int32 → Mm → Nat → Prop} {X : String → Mm → Nat → Prop} (hX : CX C cX3_rideZones RX3 6 (some .int) [] (d + 1)) (hE : EQ C (rI Q) X) : ∀ (n : Nat) (x3 : Int32) (x4 : Int32) (x5 : Int32) (w : Mm) (z mc ms : Nat), B_X3_rideZones_16 a0 a1 a2 Q n x3 x4 x5 w z → VW C 16 [(0, .ref (a0)), (1, .int (a1)), (2, .int (a2)), (3, .int (x3)), (4, .int (x4)), (5, .int (x5))] [] w z mc ms := by
  intro n
  induction n with
  | zero => intro x3 x4 x5 w z mc ms h; exact False.elim h
  | succ n ih =>
    intro x3 x4 x5 w z mc ms h
    unfold B_X3_rideZones_16 at h
    refine vw_iload hX 5 dX3_rideZones_16 rfl ?_
    refine vw_iload hX 4 dX3_rideZones_18 rfl ?_
    refine vw_icmp_gt hX (tgt := 41) dX3_rideZones_20 (by decide) (fun c1 => ?_) (fun c1 => ?_)
    · have h := h.1 c1
      refine vw_iload_n hX 3 dX3_rideZones_41 rfl ?_
      exact vw_iret hX hE dX3_rideZones_42 ⟨_, rfl, h⟩
    · have h := h.2 c1
      refine vw_iload_n hX 3 dX3_rideZones_23 rfl ?_
      refine vw_iconst hX (v := 1) dX3_rideZones_24 (by decide) ?_
      refine vw_aload_n hX 0 dX3_rideZones_25 rfl ?_
      obtain ⟨q2, hq2, h⟩ := h
      refine g_X3_9 hX hq2 dX3_rideZones_26 ?_
      refine vw_iload hX 5 dX3_rideZones_29 rfl ?_
      obtain ⟨n4, f3, hf3, hif3, h⟩ := h
      refine vw_iald hX hf3 hif3 dX3_rideZones_31 ?_
      refine vw_ishl hX dX3_rideZones_32 ?_
      refine vw_ior hX dX3_rideZones_33 ?_
      refine vw_nmI (fun i5 ei5 => ?_)
      have h := h i5 ei5
      refine vw_istore_n hX dX3_rideZones_34 (by decide) rfl ?_
      refine vw_iinc hX 5 (v := x5 + 1) dX3_rideZones_35 rfl rfl (by decide) rfl ?_
      refine vw_goto hX (tgt := 16) dX3_rideZones_38 (by decide) ?_
      exact vw_sub [2, 3, 4, 1, 5, 0] rfl (ih _ _ _ _ _ _ _ h)
def F_X3_rideZones (a0 : Nat) (a1 : Int32) (a2 : Int32) (w : Mm) (z : Nat) (Q : Int32 → Mm → Nat → Prop) : Prop :=
  ∀ i1 : Int32, i1 = (jmax a1 a2) → ∀ i2 : Int32, i2 = (jmin a1 a2) → ∃ nn, B_X3_rideZones_16 a0 a1 a2 Q nn 0 i1 i2 w z
set_option maxRecDepth 100000 in
set_option maxHeartbeats 4000000 in
theorem ct_X3_rideZones {l : Launch} {g : Gp} {d : Nat} (hst : l.stackTraces = false) {a0 : Nat} {a1 : Int32} {a2 : Int32} {w : Mm} {z mc ms : Nat} {Q : Int32 → Mm → Nat → Prop} {X : String → Mm → Nat → Prop} (h : F_X3_rideZones a0 a1 a2 w z Q) : Ct l g yX3_rideZones (.code yX3_rideZones cX3_rideZones 6 (some .int)) (d + 1) mc ms [.ref (a0), .int (a1), .int (a2)] w z (rI Q) X := by
  refine Ct.of hst (by decide) (Nat.le_of_ble_eq_true rfl) (fun C hX hE hg hl hNm => ?_)
  subst hg
  subst hl
  unfold F_X3_rideZones at h
  show VW C 0 [(0, .ref (a0)), (1, .int (a1)), (2, .int (a2))] [] w z mc ms
  refine vw_iconst hX (v := 0) dX3_rideZones_0 (by decide) ?_
  refine vw_istore_n hX dX3_rideZones_1 (by decide) rfl ?_
  refine vw_iload_n hX 2 dX3_rideZones_2 rfl ?_
  refine vw_iload_n hX 3 dX3_rideZones_3 rfl ?_
  refine vw_mmax hX kw_835 (Nat.le_of_ble_eq_true rfl) dX3_rideZones_4 ?_
  refine vw_nmI (fun i1 ei1 => ?_)
  have h := h i1 ei1
  refine vw_istore hX dX3_rideZones_7 (by decide) rfl ?_
  refine vw_iload_n hX 3 dX3_rideZones_9 rfl ?_
  refine vw_iload_n hX 4 dX3_rideZones_10 rfl ?_
  refine vw_mmin hX kw_836 (Nat.le_of_ble_eq_true rfl) dX3_rideZones_11 ?_
  refine vw_nmI (fun i2 ei2 => ?_)
  have h := h i2 ei2
  refine vw_istore hX dX3_rideZones_14 (by decide) rfl ?_
  obtain ⟨nn, h⟩ := h
  exact vw_sub [3, 4, 5, 2, 1, 0] rfl (pB_X3_rideZones_16 hX hE nn _ _ _ _ _ _ _ h)
def B_X3_findFault_88 (a0 : Nat) (a1 : Int32) (Q : Int32 → Mm → Nat → Prop) (x2 : Nat) (x3 : Nat) (w : Mm) (z : Nat) : Prop :=
  ∃ v1, fld w x3 8 1 = some (.int (v1)) ∧ (¬ v1 = 2 → Q 0 w z) ∧
  (v1 = 2 → ∃ v3, fld w x2 6 3 = some (.int (v3)) ∧ ∃ v4, fld w x3 8 4 = some (.int (v4)) ∧ (((jabs ((v3 - v4)))) ≤ 4 → Q 0 w z) ∧
  (¬ ((jabs ((v3 - v4)))) ≤ 4 → Q 5 w z))
set_option maxRecDepth 100000 in
set_option maxHeartbeats 4000000 in
theorem pB_X3_findFault_88 {C : Cx} {d : Nat} {a0 : Nat} {a1 : Int32} {Q : Int32 → Mm → Nat → Prop} {X : String → Mm → Nat → Prop} (hX : CX C cX3_findFault RX3 4 (some .int) [] (d + 2)) (hE : EQ C (rI Q) X) : ∀ (x2 : Nat) (x3 : Nat) (w : Mm) (z mc ms : Nat), B_X3_findFault_88 a0 a1 Q x2 x3 w z → VW C 88 [(0, .ref (a0)), (1, .int (a1)), (2, .ref (x2)), (3, .ref (x3))] [] w z mc ms := by
  intro x2 x3 w z mc ms h
  unfold B_X3_findFault_88 at h
  refine vw_aload_n hX 3 dX3_findFault_88 rfl ?_
  obtain ⟨v1, hv1, h⟩ := h
  refine g_X3_137 hX hv1 dX3_findFault_89 ?_
  refine vw_iconst hX (v := 2) dX3_findFault_92 (by decide) ?_
  refine vw_icmp_ne hX (tgt := 114) dX3_findFault_93 (by decide) (fun c2 => ?_) (fun c2 => ?_)
  · have h := h.1 c2
    refine vw_iconst hX (v := 0) dX3_findFault_114 (by decide) ?_
    exact vw_iret hX hE dX3_findFault_115 ⟨_, rfl, h⟩
  · have h := h.2 c2
    refine vw_aload_n hX 2 dX3_findFault_96 rfl ?_
    obtain ⟨v3, hv3, h⟩ := h
    refine g_X3_128 hX hv3 dX3_findFault_97 ?_
    refine vw_aload_n hX 3 dX3_findFault_100 rfl ?_
    obtain ⟨v4, hv4, h⟩ := h
    refine g_X3_143 hX hv4 dX3_findFault_101 ?_
    refine vw_isub hX dX3_findFault_104 ?_
    refine vw_mabs hX kw_795 (Nat.le_of_ble_eq_true rfl) dX3_findFault_105 ?_
    refine vw_iconst hX (v := 4) dX3_findFault_108 (by decide) ?_
    refine vw_icmp_le hX (tgt := 114) dX3_findFault_109 (by decide) (fun c5 => ?_) (fun c5 => ?_)
    · have h := h.1 c5
      refine vw_iconst hX (v := 0) dX3_findFault_114 (by decide) ?_
      exact vw_iret hX hE dX3_findFault_115 ⟨_, rfl, h⟩
    · have h := h.2 c5
      refine vw_iconst hX (v := 5) dX3_findFault_112 (by decide) ?_
      exact vw_iret hX hE dX3_findFault_113 ⟨_, rfl, h⟩
def F_X3_findFault (a0 : Nat) (a1 : Int32) (w : Mm) (z : Nat) (Q : Int32 → Mm → Nat → Prop) : Prop :=
  ∃ q1, fld w a0 7 9 = some (.ref (q1)) ∧ ∃ n3 f2 q4, arR w q1 5 = some (n3, f2) ∧ vp_in a1 n3 ∧ f2 (a1 : Int32).toNatClampNeg = some q4 ∧ ∃ v5, fld w q4 6 2 = some (.int (v5)) ∧ (¬ v5 = (-1) → ∃ v7, fld w q4 6 5 = some (.int (v7)) ∧ (¬ v7 = (-1) → ∃ q9, fld w a0 7 10 = some (.ref (q9)) ∧ ∃ v10, fld w q4 6 5 = some (.int (v10)) ∧ ∃ n12 f11 q13, arR w q9 6 = some (n12, f11) ∧ vp_in v10 n12 ∧ f11 (v10 : Int32).toNatClampNeg = some q13 ∧ ∃ v14, fld w a0 7 0 = some (.int (v14)) ∧ isO w q13 8 ∧ F_X4_inTimeAt q13 v14 w z (fun r16 w17 z18 => (¬ r16 = 0 → ∃ v20, fld w17 q4 6 2 = some (.int (v20)) ∧ ∃ v21, fld w17 q4 6 3 = some (.int (v21)) ∧ isO w17 a0 7 ∧ F_X3_rideZones a0 v20 v21 w17 z18 (fun r23 w24 z25 => isO w24 q13 8 ∧ F_X4_hasZones q13 r23 w24 z25 (fun r27 w28 z29 => (¬ r27 = 0 → ∃ v31, fld w28 q13 8 1 = some (.int (v31)) ∧ (¬ v31 = 0 → B_X3_findFault_88 a0 a1 Q q4 q13 w28 z29) ∧
  (v31 = 0 → ∃ v33, fld w28 q13 8 5 = some (.int (v33)) ∧ (v33 ≤ 3 → B_X3_findFault_88 a0 a1 Q q4 q13 w28 z29) ∧
  (¬ v33 ≤ 3 → Q 4 w28 z29))) ∧
  (r27 = 0 → Q 3 w28 z29)))) ∧
  (r16 = 0 → Q 2 w17 z18))) ∧
  (v7 = (-1) → Q 1 w z)) ∧
  (v5 = (-1) → Q 0 w z)
set_option maxRecDepth 100000 in
set_option maxHeartbeats 4000000 in
theorem ct_X3_findFault {l : Launch} {g : Gp} {d : Nat} (hst : l.stackTraces = false) {a0 : Nat} {a1 : Int32} {w : Mm} {z mc ms : Nat} {Q : Int32 → Mm → Nat → Prop} {X : String → Mm → Nat → Prop} (h : F_X3_findFault a0 a1 w z Q) : Ct l g yX3_findFault (.code yX3_findFault cX3_findFault 4 (some .int)) (d + 2) mc ms [.ref (a0), .int (a1)] w z (rI Q) X := by
  refine Ct.of hst (by decide) (Nat.le_of_ble_eq_true rfl) (fun C hX hE hg hl hNm => ?_)
  subst hg
  subst hl
  unfold F_X3_findFault at h
  show VW C 0 [(0, .ref (a0)), (1, .int (a1))] [] w z mc ms
  refine vw_aload_n hX 0 dX3_findFault_0 rfl ?_
  obtain ⟨q1, hq1, h⟩ := h
  refine g_X3_17 hX hq1 dX3_findFault_1 ?_
  refine vw_iload_n hX 1 dX3_findFault_4 rfl ?_
  obtain ⟨n3, f2, q4, hf2, hif2, hqf2, h⟩ := h
  refine vw_aald hX 5 (by decide) rfl hf2 hif2 hqf2 dX3_findFault_5 ?_
  refine vw_astore_n hX dX3_findFault_6 (by decide) rfl ?_
  refine vw_aload_n hX 0 dX3_findFault_7 rfl ?_
  obtain ⟨v5, hv5, h⟩ := h
  refine g_X3_119 hX hv5 dX3_findFault_8 ?_
  refine vw_iconst hX (v := (-1)) dX3_findFault_11 (by decide) ?_
  refine vw_icmp_ne hX (tgt := 17) dX3_findFault_12 (by decide) (fun c6 => ?_) (fun c6 => ?_)
  · have h := h.1 c6
    refine vw_aload_n hX 0 dX3_findFault_17 rfl ?_
    obtain ⟨v7, hv7, h⟩ := h
    refine g_X3_122 hX hv7 dX3_findFault_18 ?_
    refine vw_iconst hX (v := (-1)) dX3_findFault_21 (by decide) ?_
    refine vw_icmp_ne hX (tgt := 27) dX3_findFault_22 (by decide) (fun c8 => ?_) (fun c8 => ?_)
    · have h := h.1 c8
      refine vw_aload_n hX 1 dX3_findFault_27 rfl ?_
      obtain ⟨q9, hq9, h⟩ := h
      refine g_X3_23 hX hq9 dX3_findFault_28 ?_
      refine vw_aload_n hX 0 dX3_findFault_31 rfl ?_
      obtain ⟨v10, hv10, h⟩ := h
      refine g_X3_122 hX hv10 dX3_findFault_32 ?_
      obtain ⟨n12, f11, q13, hf11, hif11, hqf11, h⟩ := h
      refine vw_aald hX 6 (by decide) rfl hf11 hif11 hqf11 dX3_findFault_35 ?_
      refine vw_astore_n hX dX3_findFault_36 (by decide) rfl ?_
      refine vw_aload_n hX 0 dX3_findFault_37 rfl ?_
      refine vw_aload_n hX 2 dX3_findFault_38 rfl ?_
      obtain ⟨v14, hv14, h⟩ := h
      refine g_X3_36 hX hv14 dX3_findFault_39 ?_
      obtain ⟨hr15, h⟩ := h
      refine s_X3_125 hX hr15 dX3_findFault_42 (Nat.le_of_ble_eq_true rfl) (ct_X4_inTimeAt (d := d + 0) (lst hX) h) (fun r16 w17 z18 h => ?_)
      refine vw_if_ne hX (tgt := 50) dX3_findFault_45 (by decide) (fun c19 => ?_) (fun c19 => ?_)
      · have h := h.1 c19
        refine vw_aload_n hX 0 dX3_findFault_50 rfl ?_
        refine vw_aload_n hX 2 dX3_findFault_51 rfl ?_
        refine vw_aload_n hX 1 dX3_findFault_52 rfl ?_
        obtain ⟨v20, hv20, h⟩ := h
        refine g_X3_119 hX hv20 dX3_findFault_53 ?_
        refine vw_aload_n hX 1 dX3_findFault_56 rfl ?_
        obtain ⟨v21, hv21, h⟩ := h
        refine g_X3_128 hX hv21 dX3_findFault_57 ?_
        obtain ⟨hr22, h⟩ := h
        refine s_X3_131 hX hr22 dX3_findFault_60 (Nat.le_of_ble_eq_true rfl) (ct_X3_rideZones (d := d + 0) (lst hX) h) (fun r23 w24 z25 h => ?_)
        obtain ⟨hr26, h⟩ := h
        refine s_X3_134 hX hr26 dX3_findFault_63 (Nat.le_of_ble_eq_true rfl) (ct_X4_hasZones (d := d + 1) (lst hX) h) (fun r27 w28 z29 h => ?_)
        refine vw_if_ne hX (tgt := 71) dX3_findFault_66 (by decide) (fun c30 => ?_) (fun c30 => ?_)
        · have h := h.1 c30
          refine vw_aload_n hX 0 dX3_findFault_71 rfl ?_
          obtain ⟨v31, hv31, h⟩ := h
          refine g_X3_137 hX hv31 dX3_findFault_72 ?_
          refine vw_if_ne hX (tgt := 88) dX3_findFault_75 (by decide) (fun c32 => ?_) (fun c32 => ?_)
          · have h := h.1 c32
            exact vw_sub [2, 3, 1, 0] rfl (pB_X3_findFault_88 hX hE _ _ _ _ _ _ h)
          · have h := h.2 c32
            refine vw_aload_n hX 0 dX3_findFault_78 rfl ?_
            obtain ⟨v33, hv33, h⟩ := h
            refine g_X3_140 hX hv33 dX3_findFault_79 ?_
            refine vw_iconst hX (v := 3) dX3_findFault_82 (by decide) ?_
            refine vw_icmp_le hX (tgt := 88) dX3_findFault_83 (by decide) (fun c34 => ?_) (fun c34 => ?_)
            · have h := h.1 c34
              exact vw_sub [2, 3, 1, 0] rfl (pB_X3_findFault_88 hX hE _ _ _ _ _ _ h)
            · have h := h.2 c34
              refine vw_iconst hX (v := 4) dX3_findFault_86 (by decide) ?_
              exact vw_iret hX hE dX3_findFault_87 ⟨_, rfl, h⟩
        · have h := h.2 c30
          refine vw_iconst hX (v := 3) dX3_findFault_69 (by decide) ?_
          exact vw_iret hX hE dX3_findFault_70 ⟨_, rfl, h⟩
      · have h := h.2 c19
        refine vw_iconst hX (v := 2) dX3_findFault_48 (by decide) ?_
        exact vw_iret hX hE dX3_findFault_49 ⟨_, rfl, h⟩
    · have h := h.2 c8
      refine vw_iconst hX (v := 1) dX3_findFault_25 (by decide) ?_
      exact vw_iret hX hE dX3_findFault_26 ⟨_, rfl, h⟩
  · have h := h.2 c6
    refine vw_iconst hX (v := 0) dX3_findFault_15 (by decide) ?_
    exact vw_iret hX hE dX3_findFault_16 ⟨_, rfl, h⟩
def F_X3_inspectRide (a0 : Nat) (a1 : Int32) (w : Mm) (z : Nat) (Q : Int32 → Mm → Nat → Prop) : Prop :=
  ∃ q1, fld w a0 7 9 = some (.ref (q1)) ∧ ∃ n3 f2 q4, arR w q1 5 = some (n3, f2) ∧ vp_in a1 n3 ∧ f2 (a1 : Int32).toNatClampNeg = some q4 ∧ isO w a0 7 ∧ F_X3_findFault a0 a1 w z (fun r6 w7 z8 => ∃ f9, obj w7 q4 6 = some f9 ∧ 6 < f9.length ∧ ∀ w10, w10 = mset w7 q4 (.inl (6, f9.set 6 (.int (1)))) → ∃ v11, fld w10 a0 7 2 = some (.int (v11)) ∧ ∃ f12, obj w10 a0 7 = some f12 ∧ 2 < f12.length ∧ ∀ w13, w13 = mset w10 a0 (.inl (7, f12.set 2 (.int ((v11 + 1))))) → (r6 = 0 → Q r6 w13 z8) ∧
  (¬ r6 = 0 → ∃ q15, fld w13 a0 7 11 = some (.ref (q15)) ∧ ∃ v16, fld w13 a0 7 7 = some (.int (v16)) ∧ ∃ n18 f17 q19, arR w13 q15 7 = some (n18, f17) ∧ vp_in v16 n18 ∧ f17 (v16 : Int32).toNatClampNeg = some q19 ∧ ∃ v20, fld w13 a0 7 0 = some (.int (v20)) ∧ ∃ v21, fld w13 q4 6 2 = some (.int (v21)) ∧ ∃ v22, fld w13 q4 6 3 = some (.int (v22)) ∧ isO w13 a0 7 ∧ F_X3_rideZones a0 v21 v22 w13 z8 (fun r24 w25 z26 => isO w25 q19 4 ∧ F_X0_open q19 a1 r6 v20 r24 w25 z26 (fun w29 z30 => ∃ v31, fld w29 a0 7 7 = some (.int (v31)) ∧ ∃ f32, obj w29 a0 7 = some f32 ∧ 7 < f32.length ∧ ∀ w33, w33 = mset w29 a0 (.inl (7, f32.set 7 (.int ((v31 + 1))))) → Q r6 w33 z30))))
set_option maxRecDepth 100000 in
set_option maxHeartbeats 4000000 in
theorem ct_X3_inspectRide {l : Launch} {g : Gp} {d : Nat} (hst : l.stackTraces = false) {a0 : Nat} {a1 : Int32} {w : Mm} {z mc ms : Nat} {Q : Int32 → Mm → Nat → Prop} {X : String → Mm → Nat → Prop} (h : F_X3_inspectRide a0 a1 w z Q) : Ct l g yX3_inspectRide (.code yX3_inspectRide cX3_inspectRide 4 (some .int)) (d + 3) mc ms [.ref (a0), .int (a1)] w z (rI Q) X := by
  refine Ct.of hst (by decide) (Nat.le_of_ble_eq_true rfl) (fun C hX hE hg hl hNm => ?_)
  subst hg
  subst hl
  unfold F_X3_inspectRide at h
  show VW C 0 [(0, .ref (a0)), (1, .int (a1))] [] w z mc ms
  refine vw_aload_n hX 0 dX3_inspectRide_0 rfl ?_
  obtain ⟨q1, hq1, h⟩ := h
  refine g_X3_17 hX hq1 dX3_inspectRide_1 ?_
  refine vw_iload_n hX 1 dX3_inspectRide_4 rfl ?_
  obtain ⟨n3, f2, q4, hf2, hif2, hqf2, h⟩ := h
  refine vw_aald hX 5 (by decide) rfl hf2 hif2 hqf2 dX3_inspectRide_5 ?_
  refine vw_astore_n hX dX3_inspectRide_6 (by decide) rfl ?_
  refine vw_aload_n hX 1 dX3_inspectRide_7 rfl ?_
  refine vw_iload_n hX 2 dX3_inspectRide_8 rfl ?_
  obtain ⟨hr5, h⟩ := h
  refine s_X3_150 hX hr5 dX3_inspectRide_9 (Nat.le_of_ble_eq_true rfl) (ct_X3_findFault (d := d + 0) (lst hX) h) (fun r6 w7 z8 h => ?_)
  refine vw_istore_n hX dX3_inspectRide_12 (by decide) rfl ?_
  refine vw_aload_n hX 1 dX3_inspectRide_13 rfl ?_
  refine vw_iconst hX (v := 1) dX3_inspectRide_14 (by decide) ?_
  obtain ⟨f9, hf9, hlf9, h⟩ := h
  refine p_X3_146 hX hf9 hlf9 rfl rfl dX3_inspectRide_15 ?_
  refine vw_nmW (fun w10 ew10 => ?_)
  have h := h w10 ew10
  refine vw_aload_n hX 2 dX3_inspectRide_18 rfl ?_
  refine vw_dup hX dX3_inspectRide_19 rfl ?_
  obtain ⟨v11, hv11, h⟩ := h
  refine g_X3_43 hX hv11 dX3_inspectRide_20 ?_
  refine vw_iconst hX (v := 1) dX3_inspectRide_23 (by decide) ?_
  refine vw_iadd hX dX3_inspectRide_24 ?_
  obtain ⟨f12, hf12, hlf12, h⟩ := h
  refine p_X3_43 hX hf12 hlf12 dX3_inspectRide_25 ?_
  refine vw_nmW (fun w13 ew13 => ?_)
  have h := h w13 ew13
  refine vw_iload_n hX 0 dX3_inspectRide_28 rfl ?_
  refine vw_if_eq hX (tgt := 72) dX3_inspectRide_29 (by decide) (fun c14 => ?_) (fun c14 => ?_)
  · have h := h.1 c14
    refine vw_iload_n hX 0 dX3_inspectRide_72 rfl ?_
    exact vw_iret hX hE dX3_inspectRide_73 ⟨_, rfl, h⟩
  · have h := h.2 c14
    refine vw_aload_n hX 2 dX3_inspectRide_32 rfl ?_
    obtain ⟨q15, hq15, h⟩ := h
    refine g_X3_29 hX hq15 dX3_inspectRide_33 ?_
    refine vw_aload_n hX 2 dX3_inspectRide_36 rfl ?_
    obtain ⟨v16, hv16, h⟩ := h
    refine g_X3_58 hX hv16 dX3_inspectRide_37 ?_
    obtain ⟨n18, f17, q19, hf17, hif17, hqf17, h⟩ := h
    refine vw_aald hX 7 (by decide) rfl hf17 hif17 hqf17 dX3_inspectRide_40 ?_
    refine vw_iload_n hX 3 dX3_inspectRide_41 rfl ?_
    refine vw_iload_n hX 0 dX3_inspectRide_42 rfl ?_
    refine vw_aload_n hX 2 dX3_inspectRide_43 rfl ?_
    obtain ⟨v20, hv20, h⟩ := h
    refine g_X3_36 hX hv20 dX3_inspectRide_44 ?_
    refine vw_aload_n hX 2 dX3_inspectRide_47 rfl ?_
    refine vw_aload_n hX 1 dX3_inspectRide_48 rfl ?_
    obtain ⟨v21, hv21, h⟩ := h
    refine g_X3_119 hX hv21 dX3_inspectRide_49 ?_
    refine vw_aload_n hX 1 dX3_inspectRide_52 rfl ?_
    obtain ⟨v22, hv22, h⟩ := h
    refine g_X3_128 hX hv22 dX3_inspectRide_53 ?_
    obtain ⟨hr23, h⟩ := h
    refine s_X3_131 hX hr23 dX3_inspectRide_56 (Nat.le_of_ble_eq_true rfl) (ct_X3_rideZones (d := d + 1) (lst hX) h) (fun r24 w25 z26 h => ?_)
    obtain ⟨hr27, h⟩ := h
    refine s_X3_153 hX hr27 dX3_inspectRide_59 (Nat.le_of_ble_eq_true rfl) (ct_X0_open (d := d + 2) (lst hX) h) (fun w29 z30 h => ?_)
    refine vw_aload_n hX 2 dX3_inspectRide_62 rfl ?_
    refine vw_dup hX dX3_inspectRide_63 rfl ?_
    obtain ⟨v31, hv31, h⟩ := h
    refine g_X3_58 hX hv31 dX3_inspectRide_64 ?_
    refine vw_iconst hX (v := 1) dX3_inspectRide_67 (by decide) ?_
    refine vw_iadd hX dX3_inspectRide_68 ?_
    obtain ⟨f32, hf32, hlf32, h⟩ := h
    refine p_X3_58 hX hf32 hlf32 dX3_inspectRide_69 ?_
    refine vw_nmW (fun w33 ew33 => ?_)
    have h := h w33 ew33
    refine vw_iload_n hX 0 dX3_inspectRide_72 rfl ?_
    exact vw_iret hX hE dX3_inspectRide_73 ⟨_, rfl, h⟩
def F_X3_canAppeal (a0 : Nat) (a1 : Int32) (w : Mm) (z : Nat) (Q : Int32 → Mm → Nat → Prop) : Prop :=
  ∃ q1, fld w a0 7 11 = some (.ref (q1)) ∧ ∃ n3 f2 q4, arR w q1 7 = some (n3, f2) ∧ vp_in a1 n3 ∧ f2 (a1 : Int32).toNatClampNeg = some q4 ∧ ∃ v5, fld w q4 4 4 = some (.int (v5)) ∧ (¬ v5 = 0 → Q 0 w z) ∧
  (v5 = 0 → ∃ q7, fld w a0 7 11 = some (.ref (q7)) ∧ ∃ n9 f8 q10, arR w q7 7 = some (n9, f8) ∧ vp_in a1 n9 ∧ f8 (a1 : Int32).toNatClampNeg = some q10 ∧ ∃ v11, fld w a0 7 0 = some (.int (v11)) ∧ isO w q10 4 ∧ F_X0_overdueAt q10 v11 w z (fun r13 w14 z15 => (¬ r13 = 0 → Q 0 w14 z15) ∧
  (r13 = 0 → Q 1 w14 z15)))
set_option maxRecDepth 100000 in
set_option maxHeartbeats 4000000 in
theorem ct_X3_canAppeal {l : Launch} {g : Gp} {d : Nat} (hst : l.stackTraces = false) {a0 : Nat} {a1 : Int32} {w : Mm} {z mc ms : Nat} {Q : Int32 → Mm → Nat → Prop} {X : String → Mm → Nat → Prop} (h : F_X3_canAppeal a0 a1 w z Q) : Ct l g yX3_canAppeal (.code yX3_canAppeal cX3_canAppeal 2 (some .boolean)) (d + 1) mc ms [.ref (a0), .int (a1)] w z (rI Q) X := by
  refine Ct.of hst (by decide) (Nat.le_of_ble_eq_true rfl) (fun C hX hE hg hl hNm => ?_)
  subst hg
  subst hl
  unfold F_X3_canAppeal at h
  show VW C 0 [(0, .ref (a0)), (1, .int (a1))] [] w z mc ms
  refine vw_aload_n hX 0 dX3_canAppeal_0 rfl ?_
  obtain ⟨q1, hq1, h⟩ := h
  refine g_X3_29 hX hq1 dX3_canAppeal_1 ?_
  refine vw_iload_n hX 1 dX3_canAppeal_4 rfl ?_
  obtain ⟨n3, f2, q4, hf2, hif2, hqf2, h⟩ := h
  refine vw_aald hX 7 (by decide) rfl hf2 hif2 hqf2 dX3_canAppeal_5 ?_
  obtain ⟨v5, hv5, h⟩ := h
  refine g_X3_156 hX hv5 dX3_canAppeal_6 ?_
  refine vw_if_ne hX (tgt := 32) dX3_canAppeal_9 (by decide) (fun c6 => ?_) (fun c6 => ?_)
  · have h := h.1 c6
    refine vw_iconst hX (v := 0) dX3_canAppeal_32 (by decide) ?_
    exact vw_zret hX hE dX3_canAppeal_33 rfl ⟨_, rfl, h⟩
  · have h := h.2 c6
    refine vw_aload_n hX 0 dX3_canAppeal_12 rfl ?_
    obtain ⟨q7, hq7, h⟩ := h
    refine g_X3_29 hX hq7 dX3_canAppeal_13 ?_
    refine vw_iload_n hX 1 dX3_canAppeal_16 rfl ?_
    obtain ⟨n9, f8, q10, hf8, hif8, hqf8, h⟩ := h
    refine vw_aald hX 7 (by decide) rfl hf8 hif8 hqf8 dX3_canAppeal_17 ?_
    refine vw_aload_n hX 0 dX3_canAppeal_18 rfl ?_
    obtain ⟨v11, hv11, h⟩ := h
    refine g_X3_36 hX hv11 dX3_canAppeal_19 ?_
    obtain ⟨hr12, h⟩ := h
    refine s_X3_159 hX hr12 dX3_canAppeal_22 (Nat.le_of_ble_eq_true rfl) (ct_X0_overdueAt (d := d + 0) (lst hX) h) (fun r13 w14 z15 h => ?_)
    refine vw_if_ne hX (tgt := 32) dX3_canAppeal_25 (by decide) (fun c16 => ?_) (fun c16 => ?_)
    · have h := h.1 c16
      refine vw_iconst hX (v := 0) dX3_canAppeal_32 (by decide) ?_
      exact vw_zret hX hE dX3_canAppeal_33 rfl ⟨_, rfl, h⟩
    · have h := h.2 c16
      refine vw_iconst hX (v := 1) dX3_canAppeal_28 (by decide) ?_
      refine vw_goto hX (tgt := 33) dX3_canAppeal_29 (by decide) ?_
      exact vw_zret hX hE dX3_canAppeal_33 rfl ⟨_, rfl, h⟩
def B_X3_beginAppeal_54 (a0 : Nat) (a1 : Int32) (a2 : Int32) (K25 : Int32 → Int32 → Mm → Nat → Prop) (Q : Int32 → Mm → Nat → Prop) (x4 : Int32) (y0 : Int32) (y1 : Int32) (w : Mm) (z : Nat) : Prop :=
  ∀ i1 : Int32, i1 = (y1 + y0) → K25 i1 ((x4 + 1)) w z
set_option maxRecDepth 100000 in
set_option maxHeartbeats 4000000 in
theorem pB_X3_beginAppeal_54 {C : Cx} {d : Nat} {a0 : Nat} {a1 : Int32} {a2 : Int32} {K25 : Int32 → Int32 → Mm → Nat → Prop} {Q : Int32 → Mm → Nat → Prop} {X : String → Mm → Nat → Prop} (hX : CX C cX3_beginAppeal RX3 5 (some .int) [] (d + 0)) (hE : EQ C (rI Q) X) (hK25 : ∀ (x3 : Int32) (x4 : Int32) (w : Mm) (z mc ms : Nat), K25 x3 x4 w z → VW C 25 [(0, .ref (a0)), (1, .int (a1)), (2, .int (a2)), (3, .int (x3)), (4, .int (x4))] [] w z mc ms) : ∀ (x4 : Int32) (y0 : Int32) (y1 : Int32) (w : Mm) (z mc ms : Nat), B_X3_beginAppeal_54 a0 a1 a2 K25 Q x4 y0 y1 w z → VW C 54 [(0, .ref (a0)), (1, .int (a1)), (2, .int (a2)), (4, .int (x4))] [.int (y0), .int (y1)] w z mc ms := by
  intro x4 y0 y1 w z mc ms h
  unfold B_X3_beginAppeal_54 at h
  refine vw_iadd hX dX3_beginAppeal_54 ?_
  refine vw_nmI (fun i1 ei1 => ?_)
  have h := h i1 ei1
  refine vw_istore_n hX dX3_beginAppeal_55 (by decide) rfl ?_
  refine vw_iinc hX 4 (v := x4 + 1) dX3_beginAppeal_56 rfl rfl (by decide) rfl ?_
  refine vw_goto hX (tgt := 25) dX3_beginAppeal_59 (by decide) ?_
  exact vw_sub [2, 3, 4, 1, 0] rfl (hK25 _ _ _ _ _ _ h)
def B_X3_beginAppeal_25 (a0 : Nat) (a1 : Int32) (a2 : Int32) (Q : Int32 → Mm → Nat → Prop) : Nat → Int32 → Int32 → Mm → Nat → Prop
  | 0, _, _, _, _ => False
  | n + 1, x3, x4, w, z => ∃ v2, fld w a0 7 7 = some (.int (v2)) ∧ (v2 ≤ x4 → Q x3 w z) ∧
  (¬ v2 ≤ x4 → ∃ q4, fld w a0 7 11 = some (.ref (q4)) ∧ ∃ n6 f5 q7, arR w q4 7 = some (n6, f5) ∧ vp_in x4 n6 ∧ f5 (x4 : Int32).toNatClampNeg = some q7 ∧ ∃ v8, fld w q7 4 4 = some (.int (v8)) ∧ (¬ v8 = 1 → B_X3_beginAppeal_54 a0 a1 a2 (B_X3_beginAppeal_25 a0 a1 a2 Q n) Q x4 0 x3 w z) ∧
  (v8 = 1 → B_X3_beginAppeal_54 a0 a1 a2 (B_X3_beginAppeal_25 a0 a1 a2 Q n) Q x4 1 x3 w z))
set_option maxRecDepth 100000 in
set_option maxHeartbeats 4000000 in
theorem pB_X3_beginAppeal_25 {C : Cx} {d : Nat} {a0 : Nat} {a1 : Int32} {a2 : Int32} {Q : Int32 → Mm → Nat → Prop} {X : String → Mm → Nat → Prop} (hX : CX C cX3_beginAppeal RX3 5 (some .int) [] (d + 0)) (hE : EQ C (rI Q) X) : ∀ (n : Nat) (x3 : Int32) (x4 : Int32) (w : Mm) (z mc ms : Nat), B_X3_beginAppeal_25 a0 a1 a2 Q n x3 x4 w z → VW C 25 [(0, .ref (a0)), (1, .int (a1)), (2, .int (a2)), (3, .int (x3)), (4, .int (x4))] [] w z mc ms := by
  intro n
  induction n with
  | zero => intro x3 x4 w z mc ms h; exact False.elim h
  | succ n ih =>
    intro x3 x4 w z mc ms h
    unfold B_X3_beginAppeal_25 at h
    refine vw_iload hX 4 dX3_beginAppeal_25 rfl ?_
    refine vw_aload_n hX 0 dX3_beginAppeal_27 rfl ?_
    obtain ⟨v2, hv2, h⟩ := h
    refine g_X3_58 hX hv2 dX3_beginAppeal_28 ?_
    refine vw_icmp_ge hX (tgt := 62) dX3_beginAppeal_31 (by decide) (fun c3 => ?_) (fun c3 => ?_)
    · have h := h.1 c3
      refine vw_iload_n hX 3 dX3_beginAppeal_62 rfl ?_
      exact vw_iret hX hE dX3_beginAppeal_63 ⟨_, rfl, h⟩
    · have h := h.2 c3
      refine vw_iload_n hX 3 dX3_beginAppeal_34 rfl ?_
      refine vw_aload_n hX 0 dX3_beginAppeal_35 rfl ?_
      obtain ⟨q4, hq4, h⟩ := h
      refine g_X3_29 hX hq4 dX3_beginAppeal_36 ?_
      refine vw_iload hX 4 dX3_beginAppeal_39 rfl ?_
      obtain ⟨n6, f5, q7, hf5, hif5, hqf5, h⟩ := h
      refine vw_aald hX 7 (by decide) rfl hf5 hif5 hqf5 dX3_beginAppeal_41 ?_
      obtain ⟨v8, hv8, h⟩ := h
      refine g_X3_156 hX hv8 dX3_beginAppeal_42 ?_
      refine vw_iconst hX (v := 1) dX3_beginAppeal_45 (by decide) ?_
      refine vw_icmp_ne hX (tgt := 53) dX3_beginAppeal_46 (by decide) (fun c9 => ?_) (fun c9 => ?_)
      · have h := h.1 c9
        refine vw_iconst hX (v := 0) dX3_beginAppeal_53 (by decide) ?_
        exact vw_sub [0, 1, 2, 4] rfl (pB_X3_beginAppeal_54 hX hE ih _ _ _ _ _ _ _ h)
      · have h := h.2 c9
        refine vw_iconst hX (v := 1) dX3_beginAppeal_49 (by decide) ?_
        refine vw_goto hX (tgt := 54) dX3_beginAppeal_50 (by decide) ?_
        exact vw_sub [0, 1, 2, 4] rfl (pB_X3_beginAppeal_54 hX hE ih _ _ _ _ _ _ _ h)
def F_X3_beginAppeal (a0 : Nat) (a1 : Int32) (a2 : Int32) (w : Mm) (z : Nat) (Q : Int32 → Mm → Nat → Prop) : Prop :=
  ∃ q1, fld w a0 7 11 = some (.ref (q1)) ∧ ∃ n3 f2 q4, arR w q1 7 = some (n3, f2) ∧ vp_in a1 n3 ∧ f2 (a1 : Int32).toNatClampNeg = some q4 ∧ ∃ f5, obj w q4 4 = some f5 ∧ 4 < f5.length ∧ ∀ w6, w6 = mset w q4 (.inl (4, f5.set 4 (.int (1)))) → ∃ q7, fld w6 a0 7 11 = some (.ref (q7)) ∧ ∃ n9 f8 q10, arR w6 q7 7 = some (n9, f8) ∧ vp_in a1 n9 ∧ f8 (a1 : Int32).toNatClampNeg = some q10 ∧ ∃ f11, obj w6 q10 4 = some f11 ∧ 6 < f11.length ∧ ∀ w12, w12 = mset w6 q10 (.inl (4, f11.set 6 (.int (a2)))) → ∃ nn, B_X3_beginAppeal_25 a0 a1 a2 Q nn 0 0 w12 z
set_option maxRecDepth 100000 in
set_option maxHeartbeats 4000000 in
theorem ct_X3_beginAppeal {l : Launch} {g : Gp} {d : Nat} (hst : l.stackTraces = false) {a0 : Nat} {a1 : Int32} {a2 : Int32} {w : Mm} {z mc ms : Nat} {Q : Int32 → Mm → Nat → Prop} {X : String → Mm → Nat → Prop} (h : F_X3_beginAppeal a0 a1 a2 w z Q) : Ct l g yX3_beginAppeal (.code yX3_beginAppeal cX3_beginAppeal 5 (some .int)) (d + 0) mc ms [.ref (a0), .int (a1), .int (a2)] w z (rI Q) X := by
  refine Ct.of hst (by decide) (Nat.le_of_ble_eq_true rfl) (fun C hX hE hg hl hNm => ?_)
  subst hg
  subst hl
  unfold F_X3_beginAppeal at h
  show VW C 0 [(0, .ref (a0)), (1, .int (a1)), (2, .int (a2))] [] w z mc ms
  refine vw_aload_n hX 0 dX3_beginAppeal_0 rfl ?_
  obtain ⟨q1, hq1, h⟩ := h
  refine g_X3_29 hX hq1 dX3_beginAppeal_1 ?_
  refine vw_iload_n hX 1 dX3_beginAppeal_4 rfl ?_
  obtain ⟨n3, f2, q4, hf2, hif2, hqf2, h⟩ := h
  refine vw_aald hX 7 (by decide) rfl hf2 hif2 hqf2 dX3_beginAppeal_5 ?_
  refine vw_iconst hX (v := 1) dX3_beginAppeal_6 (by decide) ?_
  obtain ⟨f5, hf5, hlf5, h⟩ := h
  refine p_X3_156 hX hf5 hlf5 dX3_beginAppeal_7 ?_
  refine vw_nmW (fun w6 ew6 => ?_)
  have h := h w6 ew6
  refine vw_aload_n hX 0 dX3_beginAppeal_10 rfl ?_
  obtain ⟨q7, hq7, h⟩ := h
  refine g_X3_29 hX hq7 dX3_beginAppeal_11 ?_
  refine vw_iload_n hX 1 dX3_beginAppeal_14 rfl ?_
  obtain ⟨n9, f8, q10, hf8, hif8, hqf8, h⟩ := h
  refine vw_aald hX 7 (by decide) rfl hf8 hif8 hqf8 dX3_beginAppeal_15 ?_
  refine vw_iload_n hX 2 dX3_beginAppeal_16 rfl ?_
  obtain ⟨f11, hf11, hlf11, h⟩ := h
  refine p_X3_162 hX hf11 hlf11 dX3_beginAppeal_17 ?_
  refine vw_nmW (fun w12 ew12 => ?_)
  have h := h w12 ew12
  refine vw_iconst hX (v := 0) dX3_beginAppeal_20 (by decide) ?_
  refine vw_istore_n hX dX3_beginAppeal_21 (by decide) rfl ?_
  refine vw_iconst hX (v := 0) dX3_beginAppeal_22 (by decide) ?_
  refine vw_istore hX dX3_beginAppeal_23 (by decide) rfl ?_
  obtain ⟨nn, h⟩ := h
  exact vw_sub [2, 3, 4, 1, 0] rfl (pB_X3_beginAppeal_25 hX hE nn _ _ _ _ _ _ h)
def F_X3_canDecide (a0 : Nat) (a1 : Int32) (w : Mm) (z : Nat) (Q : Int32 → Mm → Nat → Prop) : Prop :=
  ∃ q1, fld w a0 7 11 = some (.ref (q1)) ∧ ∃ n3 f2 q4, arR w q1 7 = some (n3, f2) ∧ vp_in a1 n3 ∧ f2 (a1 : Int32).toNatClampNeg = some q4 ∧ ∃ v5, fld w q4 4 4 = some (.int (v5)) ∧ (¬ v5 = 1 → Q 0 w z) ∧
  (v5 = 1 → Q 1 w z)
set_option maxRecDepth 100000 in
set_option maxHeartbeats 4000000 in
theorem ct_X3_canDecide {l : Launch} {g : Gp} {d : Nat} (hst : l.stackTraces = false) {a0 : Nat} {a1 : Int32} {w : Mm} {z mc ms : Nat} {Q : Int32 → Mm → Nat → Prop} {X : String → Mm → Nat → Prop} (h : F_X3_canDecide a0 a1 w z Q) : Ct l g yX3_canDecide (.code yX3_canDecide cX3_canDecide 2 (some .boolean)) (d + 0) mc ms [.ref (a0), .int (a1)] w z (rI Q) X := by
  refine Ct.of hst (by decide) (Nat.le_of_ble_eq_true rfl) (fun C hX hE hg hl hNm => ?_)
  subst hg
  subst hl
  unfold F_X3_canDecide at h
  show VW C 0 [(0, .ref (a0)), (1, .int (a1))] [] w z mc ms
  refine vw_aload_n hX 0 dX3_canDecide_0 rfl ?_
  obtain ⟨q1, hq1, h⟩ := h
  refine g_X3_29 hX hq1 dX3_canDecide_1 ?_
  refine vw_iload_n hX 1 dX3_canDecide_4 rfl ?_
  obtain ⟨n3, f2, q4, hf2, hif2, hqf2, h⟩ := h
  refine vw_aald hX 7 (by decide) rfl hf2 hif2 hqf2 dX3_canDecide_5 ?_
  obtain ⟨v5, hv5, h⟩ := h
  refine g_X3_156 hX hv5 dX3_canDecide_6 ?_
  refine vw_iconst hX (v := 1) dX3_canDecide_9 (by decide) ?_
  refine vw_icmp_ne hX (tgt := 17) dX3_canDecide_10 (by decide) (fun c6 => ?_) (fun c6 => ?_)
  · have h := h.1 c6
    refine vw_iconst hX (v := 0) dX3_canDecide_17 (by decide) ?_
    exact vw_zret hX hE dX3_canDecide_18 rfl ⟨_, rfl, h⟩
  · have h := h.2 c6
    refine vw_iconst hX (v := 1) dX3_canDecide_13 (by decide) ?_
    refine vw_goto hX (tgt := 18) dX3_canDecide_14 (by decide) ?_
    exact vw_zret hX hE dX3_canDecide_18 rfl ⟨_, rfl, h⟩
def F_X3_decisionFor (a0 : Nat) (a1 : Int32) (a2 : Int32) (w : Mm) (z : Nat) (Q : Int32 → Mm → Nat → Prop) : Prop :=
  ∃ q1, fld w a0 7 11 = some (.ref (q1)) ∧ ∃ n3 f2 q4, arR w q1 7 = some (n3, f2) ∧ vp_in a1 n3 ∧ f2 (a1 : Int32).toNatClampNeg = some q4 ∧ ∃ q5, fld w a0 7 10 = some (.ref (q5)) ∧ ∃ n7 f6 q8, arR w q5 6 = some (n7, f6) ∧ vp_in a2 n7 ∧ f6 (a2 : Int32).toNatClampNeg = some q8 ∧ isO w q4 4 ∧ F_X0_isExcusedBy q4 q8 w z (fun r10 w11 z12 => (r10 = 0 → Q 3 w11 z12) ∧
  (¬ r10 = 0 → Q 2 w11 z12))
set_option maxRecDepth 100000 in
set_option maxHeartbeats 4000000 in
theorem ct_X3_decisionFor {l : Launch} {g : Gp} {d : Nat} (hst : l.stackTraces = false) {a0 : Nat} {a1 : Int32} {a2 : Int32} {w : Mm} {z mc ms : Nat} {Q : Int32 → Mm → Nat → Prop} {X : String → Mm → Nat → Prop} (h : F_X3_decisionFor a0 a1 a2 w z Q) : Ct l g yX3_decisionFor (.code yX3_decisionFor cX3_decisionFor 3 (some .int)) (d + 2) mc ms [.ref (a0), .int (a1), .int (a2)] w z (rI Q) X := by
  refine Ct.of hst (by decide) (Nat.le_of_ble_eq_true rfl) (fun C hX hE hg hl hNm => ?_)
  subst hg
  subst hl
  unfold F_X3_decisionFor at h
  show VW C 0 [(0, .ref (a0)), (1, .int (a1)), (2, .int (a2))] [] w z mc ms
  refine vw_aload_n hX 0 dX3_decisionFor_0 rfl ?_
  obtain ⟨q1, hq1, h⟩ := h
  refine g_X3_29 hX hq1 dX3_decisionFor_1 ?_
  refine vw_iload_n hX 1 dX3_decisionFor_4 rfl ?_
  obtain ⟨n3, f2, q4, hf2, hif2, hqf2, h⟩ := h
  refine vw_aald hX 7 (by decide) rfl hf2 hif2 hqf2 dX3_decisionFor_5 ?_
  refine vw_aload_n hX 0 dX3_decisionFor_6 rfl ?_
  obtain ⟨q5, hq5, h⟩ := h
  refine g_X3_23 hX hq5 dX3_decisionFor_7 ?_
  refine vw_iload_n hX 2 dX3_decisionFor_10 rfl ?_
  obtain ⟨n7, f6, q8, hf6, hif6, hqf6, h⟩ := h
  refine vw_aald hX 6 (by decide) rfl hf6 hif6 hqf6 dX3_decisionFor_11 ?_
  obtain ⟨hr9, h⟩ := h
  refine s_X3_165 hX hr9 dX3_decisionFor_12 (Nat.le_of_ble_eq_true rfl) (ct_X0_isExcusedBy (d := d + 0) (lst hX) h) (fun r10 w11 z12 h => ?_)
  refine vw_if_eq hX (tgt := 22) dX3_decisionFor_15 (by decide) (fun c13 => ?_) (fun c13 => ?_)
  · have h := h.1 c13
    refine vw_iconst hX (v := 3) dX3_decisionFor_22 (by decide) ?_
    exact vw_iret hX hE dX3_decisionFor_23 ⟨_, rfl, h⟩
  · have h := h.2 c13
    refine vw_iconst hX (v := 2) dX3_decisionFor_18 (by decide) ?_
    refine vw_goto hX (tgt := 23) dX3_decisionFor_19 (by decide) ?_
    exact vw_iret hX hE dX3_decisionFor_23 ⟨_, rfl, h⟩
def F_X3_decideAppeal (a0 : Nat) (a1 : Int32) (w : Mm) (z : Nat) (Q : Int32 → Mm → Nat → Prop) : Prop :=
  ∃ q1, fld w a0 7 11 = some (.ref (q1)) ∧ ∃ n3 f2 q4, arR w q1 7 = some (n3, f2) ∧ vp_in a1 n3 ∧ f2 (a1 : Int32).toNatClampNeg = some q4 ∧ ∃ v5, fld w q4 4 6 = some (.int (v5)) ∧ isO w a0 7 ∧ F_X3_decisionFor a0 a1 v5 w z (fun r7 w8 z9 => ∃ f10, obj w8 q4 4 = some f10 ∧ 4 < f10.length ∧ ∀ w11, w11 = mset w8 q4 (.inl (4, f10.set 4 (.int (r7)))) → ∃ v12, fld w11 q4 4 4 = some (.int (v12)) ∧ (¬ v12 = 2 → ∃ v14, fld w11 q4 4 5 = some (.int (v14)) ∧ ∃ f15, obj w11 q4 4 = some f15 ∧ 5 < f15.length ∧ ∀ w16, w16 = mset w11 q4 (.inl (4, f15.set 5 (.int ((v14 + 500))))) → ∃ v17, fld w16 q4 4 4 = some (.int (v17)) ∧ Q v17 w16 z9) ∧
  (v12 = 2 → ∃ f18, obj w11 q4 4 = some f18 ∧ 5 < f18.length ∧ ∀ w19, w19 = mset w11 q4 (.inl (4, f18.set 5 (.int (700)))) → ∃ v20, fld w19 q4 4 4 = some (.int (v20)) ∧ Q v20 w19 z9))
set_option maxRecDepth 100000 in
set_option maxHeartbeats 4000000 in
theorem ct_X3_decideAppeal {l : Launch} {g : Gp} {d : Nat} (hst : l.stackTraces = false) {a0 : Nat} {a1 : Int32} {w : Mm} {z mc ms : Nat} {Q : Int32 → Mm → Nat → Prop} {X : String → Mm → Nat → Prop} (h : F_X3_decideAppeal a0 a1 w z Q) : Ct l g yX3_decideAppeal (.code yX3_decideAppeal cX3_decideAppeal 3 (some .int)) (d + 3) mc ms [.ref (a0), .int (a1)] w z (rI Q) X := by
  refine Ct.of hst (by decide) (Nat.le_of_ble_eq_true rfl) (fun C hX hE hg hl hNm => ?_)
  subst hg
  subst hl
  unfold F_X3_decideAppeal at h
  show VW C 0 [(0, .ref (a0)), (1, .int (a1))] [] w z mc ms
  refine vw_aload_n hX 0 dX3_decideAppeal_0 rfl ?_
  obtain ⟨q1, hq1, h⟩ := h
  refine g_X3_29 hX hq1 dX3_decideAppeal_1 ?_
  refine vw_iload_n hX 1 dX3_decideAppeal_4 rfl ?_
  obtain ⟨n3, f2, q4, hf2, hif2, hqf2, h⟩ := h
  refine vw_aald hX 7 (by decide) rfl hf2 hif2 hqf2 dX3_decideAppeal_5 ?_
  refine vw_astore_n hX dX3_decideAppeal_6 (by decide) rfl ?_
  refine vw_aload_n hX 0 dX3_decideAppeal_7 rfl ?_
  refine vw_aload_n hX 1 dX3_decideAppeal_8 rfl ?_
  refine vw_iload_n hX 2 dX3_decideAppeal_9 rfl ?_
  refine vw_aload_n hX 0 dX3_decideAppeal_10 rfl ?_
  obtain ⟨v5, hv5, h⟩ := h
  refine g_X3_162 hX hv5 dX3_decideAppeal_11 ?_
  obtain ⟨hr6, h⟩ := h
  refine s_X3_169 hX hr6 dX3_decideAppeal_14 (Nat.le_of_ble_eq_true rfl) (ct_X3_decisionFor (d := d + 0) (lst hX) h) (fun r7 w8 z9 h => ?_)
  obtain ⟨f10, hf10, hlf10, h⟩ := h
  refine p_X3_156 hX hf10 hlf10 dX3_decideAppeal_17 ?_
  refine vw_nmW (fun w11 ew11 => ?_)
  have h := h w11 ew11
  refine vw_aload_n hX 0 dX3_decideAppeal_20 rfl ?_
  refine vw_aload_n hX 0 dX3_decideAppeal_21 rfl ?_
  obtain ⟨v12, hv12, h⟩ := h
  refine g_X3_156 hX hv12 dX3_decideAppeal_22 ?_
  refine vw_iconst hX (v := 2) dX3_decideAppeal_25 (by decide) ?_
  refine vw_icmp_ne hX (tgt := 35) dX3_decideAppeal_26 (by decide) (fun c13 => ?_) (fun c13 => ?_)
  · have h := h.1 c13
    refine vw_aload_n hX 0 dX3_decideAppeal_35 rfl ?_
    obtain ⟨v14, hv14, h⟩ := h
    refine g_X3_172 hX hv14 dX3_decideAppeal_36 ?_
    refine vw_sipush hX (v := 500) dX3_decideAppeal_39 (by decide) ?_
    refine vw_iadd hX dX3_decideAppeal_42 ?_
    obtain ⟨f15, hf15, hlf15, h⟩ := h
    refine p_X3_172 hX hf15 hlf15 dX3_decideAppeal_43 ?_
    refine vw_nmW (fun w16 ew16 => ?_)
    have h := h w16 ew16
    refine vw_aload_n hX 0 dX3_decideAppeal_46 rfl ?_
    obtain ⟨v17, hv17, h⟩ := h
    refine g_X3_156 hX hv17 dX3_decideAppeal_47 ?_
    exact vw_iret hX hE dX3_decideAppeal_50 ⟨_, rfl, h⟩
  · have h := h.2 c13
    refine vw_sipush hX (v := 700) dX3_decideAppeal_29 (by decide) ?_
    refine vw_goto hX (tgt := 43) dX3_decideAppeal_32 (by decide) ?_
    obtain ⟨f18, hf18, hlf18, h⟩ := h
    refine p_X3_172 hX hf18 hlf18 dX3_decideAppeal_43 ?_
    refine vw_nmW (fun w19 ew19 => ?_)
    have h := h w19 ew19
    refine vw_aload_n hX 0 dX3_decideAppeal_46 rfl ?_
    obtain ⟨v20, hv20, h⟩ := h
    refine g_X3_156 hX hv20 dX3_decideAppeal_47 ?_
    exact vw_iret hX hE dX3_decideAppeal_50 ⟨_, rfl, h⟩
def F_X3_canPay (a0 : Nat) (a1 : Int32) (w : Mm) (z : Nat) (Q : Int32 → Mm → Nat → Prop) : Prop :=
  ∃ q1, fld w a0 7 11 = some (.ref (q1)) ∧ ∃ n3 f2 q4, arR w q1 7 = some (n3, f2) ∧ vp_in a1 n3 ∧ f2 (a1 : Int32).toNatClampNeg = some q4 ∧ ∃ v5, fld w q4 4 4 = some (.int (v5)) ∧ (v5 = 1 → Q 0 w z) ∧
  (¬ v5 = 1 → ∃ v7, fld w q4 4 4 = some (.int (v7)) ∧ (v7 = 4 → Q 0 w z) ∧
  (¬ v7 = 4 → ∃ q9, fld w a0 7 9 = some (.ref (q9)) ∧ ∃ v10, fld w q4 4 0 = some (.int (v10)) ∧ ∃ n12 f11 q13, arR w q9 5 = some (n12, f11) ∧ vp_in v10 n12 ∧ f11 (v10 : Int32).toNatClampNeg = some q13 ∧ ∃ v14, fld w q13 6 1 = some (.int (v14)) ∧ ∃ v15, fld w a0 7 0 = some (.int (v15)) ∧ isO w q4 4 ∧ F_X0_costAt q4 v15 w z (fun r17 w18 z19 => (v14 < r17 → Q 0 w18 z19) ∧
  (¬ v14 < r17 → Q 1 w18 z19))))
set_option maxRecDepth 100000 in
set_option maxHeartbeats 4000000 in
theorem ct_X3_canPay {l : Launch} {g : Gp} {d : Nat} (hst : l.stackTraces = false) {a0 : Nat} {a1 : Int32} {w : Mm} {z mc ms : Nat} {Q : Int32 → Mm → Nat → Prop} {X : String → Mm → Nat → Prop} (h : F_X3_canPay a0 a1 w z Q) : Ct l g yX3_canPay (.code yX3_canPay cX3_canPay 3 (some .boolean)) (d + 2) mc ms [.ref (a0), .int (a1)] w z (rI Q) X := by
  refine Ct.of hst (by decide) (Nat.le_of_ble_eq_true rfl) (fun C hX hE hg hl hNm => ?_)
  subst hg
  subst hl
  unfold F_X3_canPay at h
  show VW C 0 [(0, .ref (a0)), (1, .int (a1))] [] w z mc ms
  refine vw_aload_n hX 0 dX3_canPay_0 rfl ?_
  obtain ⟨q1, hq1, h⟩ := h
  refine g_X3_29 hX hq1 dX3_canPay_1 ?_
  refine vw_iload_n hX 1 dX3_canPay_4 rfl ?_
  obtain ⟨n3, f2, q4, hf2, hif2, hqf2, h⟩ := h
  refine vw_aald hX 7 (by decide) rfl hf2 hif2 hqf2 dX3_canPay_5 ?_
  refine vw_astore_n hX dX3_canPay_6 (by decide) rfl ?_
  refine vw_aload_n hX 0 dX3_canPay_7 rfl ?_
  obtain ⟨v5, hv5, h⟩ := h
  refine g_X3_156 hX hv5 dX3_canPay_8 ?_
  refine vw_iconst hX (v := 1) dX3_canPay_11 (by decide) ?_
  refine vw_icmp_eq hX (tgt := 50) dX3_canPay_12 (by decide) (fun c6 => ?_) (fun c6 => ?_)
  · have h := h.1 c6
    refine vw_iconst hX (v := 0) dX3_canPay_50 (by decide) ?_
    exact vw_zret hX hE dX3_canPay_51 rfl ⟨_, rfl, h⟩
  · have h := h.2 c6
    refine vw_aload_n hX 0 dX3_canPay_15 rfl ?_
    obtain ⟨v7, hv7, h⟩ := h
    refine g_X3_156 hX hv7 dX3_canPay_16 ?_
    refine vw_iconst hX (v := 4) dX3_canPay_19 (by decide) ?_
    refine vw_icmp_eq hX (tgt := 50) dX3_canPay_20 (by decide) (fun c8 => ?_) (fun c8 => ?_)
    · have h := h.1 c8
      refine vw_iconst hX (v := 0) dX3_canPay_50 (by decide) ?_
      exact vw_zret hX hE dX3_canPay_51 rfl ⟨_, rfl, h⟩
    · have h := h.2 c8
      refine vw_aload_n hX 1 dX3_canPay_23 rfl ?_
      obtain ⟨q9, hq9, h⟩ := h
      refine g_X3_17 hX hq9 dX3_canPay_24 ?_
      refine vw_aload_n hX 0 dX3_canPay_27 rfl ?_
      obtain ⟨v10, hv10, h⟩ := h
      refine g_X3_175 hX hv10 dX3_canPay_28 ?_
      obtain ⟨n12, f11, q13, hf11, hif11, hqf11, h⟩ := h
      refine vw_aald hX 5 (by decide) rfl hf11 hif11 hqf11 dX3_canPay_31 ?_
      obtain ⟨v14, hv14, h⟩ := h
      refine g_X3_90 hX hv14 dX3_canPay_32 ?_
      refine vw_aload_n hX 0 dX3_canPay_35 rfl ?_
      refine vw_aload_n hX 1 dX3_canPay_36 rfl ?_
      obtain ⟨v15, hv15, h⟩ := h
      refine g_X3_36 hX hv15 dX3_canPay_37 ?_
      obtain ⟨hr16, h⟩ := h
      refine s_X3_178 hX hr16 dX3_canPay_40 (Nat.le_of_ble_eq_true rfl) (ct_X0_costAt (d := d + 0) (lst hX) h) (fun r17 w18 z19 h => ?_)
      refine vw_icmp_lt hX (tgt := 50) dX3_canPay_43 (by decide) (fun c20 => ?_) (fun c20 => ?_)
      · have h := h.1 c20
        refine vw_iconst hX (v := 0) dX3_canPay_50 (by decide) ?_
        exact vw_zret hX hE dX3_canPay_51 rfl ⟨_, rfl, h⟩
      · have h := h.2 c20
        refine vw_iconst hX (v := 1) dX3_canPay_46 (by decide) ?_
        refine vw_goto hX (tgt := 51) dX3_canPay_47 (by decide) ?_
        exact vw_zret hX hE dX3_canPay_51 rfl ⟨_, rfl, h⟩
def F_X3_payCase (a0 : Nat) (a1 : Int32) (w : Mm) (z : Nat) (Q : Int32 → Mm → Nat → Prop) : Prop :=
  ∃ q1, fld w a0 7 11 = some (.ref (q1)) ∧ ∃ n3 f2 q4, arR w q1 7 = some (n3, f2) ∧ vp_in a1 n3 ∧ f2 (a1 : Int32).toNatClampNeg = some q4 ∧ ∃ v5, fld w a0 7 0 = some (.int (v5)) ∧ isO w q4 4 ∧ F_X0_costAt q4 v5 w z (fun r7 w8 z9 => ∃ q10, fld w8 a0 7 9 = some (.ref (q10)) ∧ ∃ v11, fld w8 q4 4 0 = some (.int (v11)) ∧ ∃ n13 f12 q14, arR w8 q10 5 = some (n13, f12) ∧ vp_in v11 n13 ∧ f12 (v11 : Int32).toNatClampNeg = some q14 ∧ ∃ v15, fld w8 q14 6 1 = some (.int (v15)) ∧ ∃ f16, obj w8 q14 6 = some f16 ∧ 1 < f16.length ∧ ∀ w17, w17 = mset w8 q14 (.inl (6, f16.set 1 (.int ((v15 - r7))))) → ∃ v18, fld w17 a0 7 1 = some (.int (v18)) ∧ ∃ f19, obj w17 a0 7 = some f19 ∧ 1 < f19.length ∧ ∀ w20, w20 = mset w17 a0 (.inl (7, f19.set 1 (.int ((v18 + r7))))) → ∃ f21, obj w20 q4 4 = some f21 ∧ 4 < f21.length ∧ ∀ w22, w22 = mset w20 q4 (.inl (4, f21.set 4 (.int (4)))) → Q r7 w22 z9)
set_option maxRecDepth 100000 in
set_option maxHeartbeats 4000000 in
theorem ct_X3_payCase {l : Launch} {g : Gp} {d : Nat} (hst : l.stackTraces = false) {a0 : Nat} {a1 : Int32} {w : Mm} {z mc ms : Nat} {Q : Int32 → Mm → Nat → Prop} {X : String → Mm → Nat → Prop} (h : F_X3_payCase a0 a1 w z Q) : Ct l g yX3_payCase (.code yX3_payCase cX3_payCase 4 (some .int)) (d + 2) mc ms [.ref (a0), .int (a1)] w z (rI Q) X := by
  refine Ct.of hst (by decide) (Nat.le_of_ble_eq_true rfl) (fun C hX hE hg hl hNm => ?_)
  subst hg
  subst hl
  unfold F_X3_payCase at h
  show VW C 0 [(0, .ref (a0)), (1, .int (a1))] [] w z mc ms
  refine vw_aload_n hX 0 dX3_payCase_0 rfl ?_
  obtain ⟨q1, hq1, h⟩ := h
  refine g_X3_29 hX hq1 dX3_payCase_1 ?_
  refine vw_iload_n hX 1 dX3_payCase_4 rfl ?_
  obtain ⟨n3, f2, q4, hf2, hif2, hqf2, h⟩ := h
  refine vw_aald hX 7 (by decide) rfl hf2 hif2 hqf2 dX3_payCase_5 ?_
  refine vw_astore_n hX dX3_payCase_6 (by decide) rfl ?_
  refine vw_aload_n hX 0 dX3_payCase_7 rfl ?_
  refine vw_aload_n hX 1 dX3_payCase_8 rfl ?_
  obtain ⟨v5, hv5, h⟩ := h
  refine g_X3_36 hX hv5 dX3_payCase_9 ?_
  obtain ⟨hr6, h⟩ := h
  refine s_X3_178 hX hr6 dX3_payCase_12 (Nat.le_of_ble_eq_true rfl) (ct_X0_costAt (d := d + 0) (lst hX) h) (fun r7 w8 z9 h => ?_)
  refine vw_istore_n hX dX3_payCase_15 (by decide) rfl ?_
  refine vw_aload_n hX 2 dX3_payCase_16 rfl ?_
  obtain ⟨q10, hq10, h⟩ := h
  refine g_X3_17 hX hq10 dX3_payCase_17 ?_
  refine vw_aload_n hX 1 dX3_payCase_20 rfl ?_
  obtain ⟨v11, hv11, h⟩ := h
  refine g_X3_175 hX hv11 dX3_payCase_21 ?_
  obtain ⟨n13, f12, q14, hf12, hif12, hqf12, h⟩ := h
  refine vw_aald hX 5 (by decide) rfl hf12 hif12 hqf12 dX3_payCase_24 ?_
  refine vw_dup hX dX3_payCase_25 rfl ?_
  obtain ⟨v15, hv15, h⟩ := h
  refine g_X3_90 hX hv15 dX3_payCase_26 ?_
  refine vw_iload_n hX 0 dX3_payCase_29 rfl ?_
  refine vw_isub hX dX3_payCase_30 ?_
  obtain ⟨f16, hf16, hlf16, h⟩ := h
  refine p_X3_90 hX hf16 hlf16 dX3_payCase_31 ?_
  refine vw_nmW (fun w17 ew17 => ?_)
  have h := h w17 ew17
  refine vw_aload_n hX 2 dX3_payCase_34 rfl ?_
  refine vw_dup hX dX3_payCase_35 rfl ?_
  obtain ⟨v18, hv18, h⟩ := h
  refine g_X3_40 hX hv18 dX3_payCase_36 ?_
  refine vw_iload_n hX 0 dX3_payCase_39 rfl ?_
  refine vw_iadd hX dX3_payCase_40 ?_
  obtain ⟨f19, hf19, hlf19, h⟩ := h
  refine p_X3_40 hX hf19 hlf19 dX3_payCase_41 ?_
  refine vw_nmW (fun w20 ew20 => ?_)
  have h := h w20 ew20
  refine vw_aload_n hX 1 dX3_payCase_44 rfl ?_
  refine vw_iconst hX (v := 4) dX3_payCase_45 (by decide) ?_
  obtain ⟨f21, hf21, hlf21, h⟩ := h
  refine p_X3_156 hX hf21 hlf21 dX3_payCase_46 ?_
  refine vw_nmW (fun w22 ew22 => ?_)
  have h := h w22 ew22
  refine vw_iload_n hX 0 dX3_payCase_49 rfl ?_
  exact vw_iret hX hE dX3_payCase_50 ⟨_, rfl, h⟩
def B_X3_init_95 (a0 : Nat) (Q : Mm → Nat → Prop) : Nat → Int32 → Mm → Nat → Nat → Nat → Prop
  | 0, _, _, _, _, _ => False
  | n + 1, x1, w, z, mc, ms => (20 ≤ x1 → Q w z) ∧
  (¬ 20 ≤ x1 → ∃ q2, fld w a0 7 11 = some (.ref (q2)) ∧ 1 ≤ mc ∧ 7 ≤ ms ∧ ∀ w3, w3 = mset w z (.inl (4, [.int 0, .int 0, .int 0, .int 0, .int 0, .int 0, .int 0])) → F_X0_init z w3 ((z + 1)) (fun w5 z6 => ∃ n8 f7 s9, arR w5 q2 7 = some (n8, f7) ∧ vp_in x1 n8 ∧ w5 z = some (true, .inl (4, s9)) ∧ ∀ w10, w10 = mset w5 q2 (.inr (7, n8, .inr (.inr (va_up f7 (x1 : Int32).toNatClampNeg (some z))))) → B_X3_init_95 a0 Q n ((x1 + 1)) w10 z6 ((mc - 1)) ((ms - 7))))
set_option maxRecDepth 100000 in
set_option maxHeartbeats 4000000 in
theorem pB_X3_init_95 {C : Cx} {d : Nat} {a0 : Nat} {Q : Mm → Nat → Prop} {X : String → Mm → Nat → Prop} (hX : CX C cX3_init RX3 2 none [] (d + 2)) (hE : EQ C (rV Q) X) (hNm : nmC C = "<init>") : ∀ (n : Nat) (x1 : Int32) (w : Mm) (z mc ms : Nat), B_X3_init_95 a0 Q n x1 w z mc ms → VW C 95 [(0, .ref (a0)), (1, .int (x1))] [] w z mc ms := by
  intro n
  induction n with
  | zero => intro x1 w z mc ms h; exact False.elim h
  | succ n ih =>
    intro x1 w z mc ms h
    unfold B_X3_init_95 at h
    refine vw_iload_n hX 1 dX3_init_95 rfl ?_
    refine vw_bipush hX (v := 20) dX3_init_96 (by decide) ?_
    refine vw_icmp_ge hX (tgt := 120) dX3_init_98 (by decide) (fun c1 => ?_) (fun c1 => ?_)
    · have h := h.1 c1
      exact vw_vret hX hE dX3_init_120 ⟨rfl, h⟩
    · have h := h.2 c1
      refine vw_aload_n hX 0 dX3_init_101 rfl ?_
      obtain ⟨q2, hq2, h⟩ := h
      refine g_X3_29 hX hq2 dX3_init_102 ?_
      refine vw_iload_n hX 1 dX3_init_105 rfl ?_
      obtain ⟨hm1, hm2, h⟩ := h
      refine n_X3_27 hX hm1 hm2 dX3_init_106 ?_
      refine vw_nmW (fun w3 ew3 => ?_)
      have h := h w3 ew3
      refine vw_dup hX dX3_init_109 rfl ?_
      refine s_X3_35 hX dX3_init_110 (Nat.le_of_ble_eq_true rfl) (ct_X0_init (d := d + 0) (lst hX) h) (fun w5 z6 h => ?_)
      obtain ⟨n8, f7, s9, hf7, hif7, hvf7, h⟩ := h
      refine vw_aast hX (ci := 4) 7 (by decide) rfl rfl hf7 hif7 hvf7 dX3_init_113 ?_
      refine vw_nmW (fun w10 ew10 => ?_)
      have h := h w10 ew10
      refine vw_iinc hX 1 (v := x1 + 1) dX3_init_114 rfl rfl (by decide) rfl ?_
      refine vw_goto hX (tgt := 95) dX3_init_117 (by decide) ?_
      exact vw_sub [1, 0] rfl (ih _ _ _ _ _ h)
def B_X3_init_68 (a0 : Nat) (Q : Mm → Nat → Prop) : Nat → Int32 → Mm → Nat → Nat → Nat → Prop
  | 0, _, _, _, _, _ => False
  | n + 1, x1, w, z, mc, ms => (30 ≤ x1 → ∃ nn, B_X3_init_95 a0 Q nn 0 w z mc ms) ∧
  (¬ 30 ≤ x1 → ∃ q12, fld w a0 7 10 = some (.ref (q12)) ∧ 1 ≤ mc ∧ 6 ≤ ms ∧ ∀ w13, w13 = mset w z (.inl (8, [.int 0, .int 0, .int 0, .int 0, .int 0, .int 0])) → F_X4_init z w13 ((z + 1)) (fun w15 z16 => ∃ n18 f17 s19, arR w15 q12 6 = some (n18, f17) ∧ vp_in x1 n18 ∧ w15 z = some (true, .inl (8, s19)) ∧ ∀ w20, w20 = mset w15 q12 (.inr (6, n18, .inr (.inr (va_up f17 (x1 : Int32).toNatClampNeg (some z))))) → B_X3_init_68 a0 Q n ((x1 + 1)) w20 z16 ((mc - 1)) ((ms - 6))))
set_option maxRecDepth 100000 in
set_option maxHeartbeats 4000000 in
theorem pB_X3_init_68 {C : Cx} {d : Nat} {a0 : Nat} {Q : Mm → Nat → Prop} {X : String → Mm → Nat → Prop} (hX : CX C cX3_init RX3 2 none [] (d + 2)) (hE : EQ C (rV Q) X) (hNm : nmC C = "<init>") : ∀ (n : Nat) (x1 : Int32) (w : Mm) (z mc ms : Nat), B_X3_init_68 a0 Q n x1 w z mc ms → VW C 68 [(0, .ref (a0)), (1, .int (x1))] [] w z mc ms := by
  intro n
  induction n with
  | zero => intro x1 w z mc ms h; exact False.elim h
  | succ n ih =>
    intro x1 w z mc ms h
    unfold B_X3_init_68 at h
    refine vw_iload_n hX 1 dX3_init_68 rfl ?_
    refine vw_bipush hX (v := 30) dX3_init_69 (by decide) ?_
    refine vw_icmp_ge hX (tgt := 93) dX3_init_71 (by decide) (fun c11 => ?_) (fun c11 => ?_)
    · have h := h.1 c11
      refine vw_iconst hX (v := 0) dX3_init_93 (by decide) ?_
      refine vw_istore_n hX dX3_init_94 (by decide) rfl ?_
      obtain ⟨nn, h⟩ := h
      exact vw_sub [1, 0] rfl (pB_X3_init_95 hX hE hNm nn _ _ _ _ _ h)
    · have h := h.2 c11
      refine vw_aload_n hX 0 dX3_init_74 rfl ?_
      obtain ⟨q12, hq12, h⟩ := h
      refine g_X3_23 hX hq12 dX3_init_75 ?_
      refine vw_iload_n hX 1 dX3_init_78 rfl ?_
      obtain ⟨hm1, hm2, h⟩ := h
      refine n_X3_21 hX hm1 hm2 dX3_init_79 ?_
      refine vw_nmW (fun w13 ew13 => ?_)
      have h := h w13 ew13
      refine vw_dup hX dX3_init_82 rfl ?_
      refine s_X3_34 hX dX3_init_83 (Nat.le_of_ble_eq_true rfl) (ct_X4_init (d := d + 0) (lst hX) h) (fun w15 z16 h => ?_)
      obtain ⟨n18, f17, s19, hf17, hif17, hvf17, h⟩ := h
      refine vw_aast hX (ci := 8) 6 (by decide) rfl rfl hf17 hif17 hvf17 dX3_init_86 ?_
      refine vw_nmW (fun w20 ew20 => ?_)
      have h := h w20 ew20
      refine vw_iinc hX 1 (v := x1 + 1) dX3_init_87 rfl rfl (by decide) rfl ?_
      refine vw_goto hX (tgt := 68) dX3_init_90 (by decide) ?_
      exact vw_sub [1, 0] rfl (ih _ _ _ _ _ h)
def B_X3_init_41 (a0 : Nat) (Q : Mm → Nat → Prop) : Nat → Int32 → Mm → Nat → Nat → Nat → Prop
  | 0, _, _, _, _, _ => False
  | n + 1, x1, w, z, mc, ms => (8 ≤ x1 → ∃ nn, B_X3_init_68 a0 Q nn 0 w z mc ms) ∧
  (¬ 8 ≤ x1 → ∃ q22, fld w a0 7 9 = some (.ref (q22)) ∧ 1 ≤ mc ∧ 7 ≤ ms ∧ ∀ w23, w23 = mset w z (.inl (6, [.null, .int 0, .int 0, .int 0, .int 0, .int 0, .int 0])) → F_X2_init z w23 ((z + 1)) (fun w25 z26 => ∃ n28 f27 s29, arR w25 q22 5 = some (n28, f27) ∧ vp_in x1 n28 ∧ w25 z = some (true, .inl (6, s29)) ∧ ∀ w30, w30 = mset w25 q22 (.inr (5, n28, .inr (.inr (va_up f27 (x1 : Int32).toNatClampNeg (some z))))) → B_X3_init_41 a0 Q n ((x1 + 1)) w30 z26 ((mc - 1)) ((ms - 7))))
set_option maxRecDepth 100000 in
set_option maxHeartbeats 4000000 in
theorem pB_X3_init_41 {C : Cx} {d : Nat} {a0 : Nat} {Q : Mm → Nat → Prop} {X : String → Mm → Nat → Prop} (hX : CX C cX3_init RX3 2 none [] (d + 2)) (hE : EQ C (rV Q) X) (hNm : nmC C = "<init>") : ∀ (n : Nat) (x1 : Int32) (w : Mm) (z mc ms : Nat), B_X3_init_41 a0 Q n x1 w z mc ms → VW C 41 [(0, .ref (a0)), (1, .int (x1))] [] w z mc ms := by
  intro n
  induction n with
  | zero => intro x1 w z mc ms h; exact False.elim h
  | succ n ih =>
    intro x1 w z mc ms h
    unfold B_X3_init_41 at h
    refine vw_iload_n hX 1 dX3_init_41 rfl ?_
    refine vw_bipush hX (v := 8) dX3_init_42 (by decide) ?_
    refine vw_icmp_ge hX (tgt := 66) dX3_init_44 (by decide) (fun c21 => ?_) (fun c21 => ?_)
    · have h := h.1 c21
      refine vw_iconst hX (v := 0) dX3_init_66 (by decide) ?_
      refine vw_istore_n hX dX3_init_67 (by decide) rfl ?_
      obtain ⟨nn, h⟩ := h
      exact vw_sub [1, 0] rfl (pB_X3_init_68 hX hE hNm nn _ _ _ _ _ h)
    · have h := h.2 c21
      refine vw_aload_n hX 0 dX3_init_47 rfl ?_
      obtain ⟨q22, hq22, h⟩ := h
      refine g_X3_17 hX hq22 dX3_init_48 ?_
      refine vw_iload_n hX 1 dX3_init_51 rfl ?_
      obtain ⟨hm1, hm2, h⟩ := h
      refine n_X3_15 hX hm1 hm2 dX3_init_52 ?_
      refine vw_nmW (fun w23 ew23 => ?_)
      have h := h w23 ew23
      refine vw_dup hX dX3_init_55 rfl ?_
      refine s_X3_33 hX dX3_init_56 (Nat.le_of_ble_eq_true rfl) (ct_X2_init (d := d + 0) (lst hX) h) (fun w25 z26 h => ?_)
      obtain ⟨n28, f27, s29, hf27, hif27, hvf27, h⟩ := h
      refine vw_aast hX (ci := 6) 5 (by decide) rfl rfl hf27 hif27 hvf27 dX3_init_59 ?_
      refine vw_nmW (fun w30 ew30 => ?_)
      have h := h w30 ew30
      refine vw_iinc hX 1 (v := x1 + 1) dX3_init_60 rfl rfl (by decide) rfl ?_
      refine vw_goto hX (tgt := 41) dX3_init_63 (by decide) ?_
      exact vw_sub [1, 0] rfl (ih _ _ _ _ _ h)
def F_X3_init (a0 : Nat) (w : Mm) (z : Nat) (mc ms : Nat) (Q : Mm → Nat → Prop) : Prop :=
  ¬ (12 : Int32) < 0 ∧ ∃ n2, (12 : Int32).toNatClampNeg = n2 ∧ n2 ≤ 10000000 ∧ 1 ≤ mc ∧ n2 ≤ ms ∧ ∀ w1, w1 = mset w z (.inr (0, n2, .inl (fun _ => 0))) → ∃ f3, obj w1 a0 7 = some f3 ∧ 8 < f3.length ∧ ∀ w4, w4 = mset w1 a0 (.inl (7, f3.set 8 (.ref (z)))) → ¬ (8 : Int32) < 0 ∧ ∃ n6, (8 : Int32).toNatClampNeg = n6 ∧ n6 ≤ 10000000 ∧ 1 ≤ ((mc - 1)) ∧ n6 ≤ ((ms - n2)) ∧ ∀ w5, w5 = mset w4 ((z + 1)) (.inr (5, n6, .inr (.inr (fun _ => none)))) → ∃ f7, obj w5 a0 7 = some f7 ∧ 9 < f7.length ∧ ∀ w8, w8 = mset w5 a0 (.inl (7, f7.set 9 (.ref ((z + 1))))) → ¬ (30 : Int32) < 0 ∧ ∃ n10, (30 : Int32).toNatClampNeg = n10 ∧ n10 ≤ 10000000 ∧ 1 ≤ (((mc - 1) - 1)) ∧ n10 ≤ (((ms - n2) - n6)) ∧ ∀ w9, w9 = mset w8 (((z + 1) + 1)) (.inr (6, n10, .inr (.inr (fun _ => none)))) → ∃ f11, obj w9 a0 7 = some f11 ∧ 10 < f11.length ∧ ∀ w12, w12 = mset w9 a0 (.inl (7, f11.set 10 (.ref (((z + 1) + 1))))) → ¬ (20 : Int32) < 0 ∧ ∃ n14, (20 : Int32).toNatClampNeg = n14 ∧ n14 ≤ 10000000 ∧ 1 ≤ ((((mc - 1) - 1) - 1)) ∧ n14 ≤ ((((ms - n2) - n6) - n10)) ∧ ∀ w13, w13 = mset w12 ((((z + 1) + 1) + 1)) (.inr (7, n14, .inr (.inr (fun _ => none)))) → ∃ f15, obj w13 a0 7 = some f15 ∧ 11 < f15.length ∧ ∀ w16, w16 = mset w13 a0 (.inl (7, f15.set 11 (.ref ((((z + 1) + 1) + 1))))) → ∃ nn, B_X3_init_41 a0 Q nn 0 w16 (((((z + 1) + 1) + 1) + 1)) (((((mc - 1) - 1) - 1) - 1)) (((((ms - n2) - n6) - n10) - n14))
set_option maxRecDepth 100000 in
set_option maxHeartbeats 4000000 in
theorem ct_X3_init {l : Launch} {g : Gp} {d : Nat} (hst : l.stackTraces = false) {a0 : Nat} {w : Mm} {z mc ms : Nat} {Q : Mm → Nat → Prop} {X : String → Mm → Nat → Prop} (h : F_X3_init a0 w z mc ms Q) : Ct l g yX3_init (.code yX3_init cX3_init 2 none) (d + 2) mc ms [.ref (a0)] w z (rV Q) X := by
  refine Ct.of hst (by decide) (Nat.le_of_ble_eq_true rfl) (fun C hX hE hg hl hNm => ?_)
  subst hg
  subst hl
  unfold F_X3_init at h
  show VW C 0 [(0, .ref (a0))] [] w z mc ms
  refine vw_aload_n hX 0 dX3_init_0 rfl ?_
  refine vw_objInit hX kw_45 kw_38 kw_39 (Nat.le_of_ble_eq_true rfl) dX3_init_1 ?_
  refine vw_aload_n hX 0 dX3_init_4 rfl ?_
  refine vw_bipush hX (v := 12) dX3_init_5 (by decide) ?_
  obtain ⟨hn0, n2, hN, hb, hm1, hm2, h⟩ := h
  refine vw_newI hX kw_89 hn0 hN hb hm1 hm2 dX3_init_7 ?_
  refine vw_nmW (fun w1 ew1 => ?_)
  have h := h w1 ew1
  obtain ⟨f3, hf3, hlf3, h⟩ := h
  refine p_X3_9 hX hNm hf3 hlf3 dX3_init_9 ?_
  refine vw_nmW (fun w4 ew4 => ?_)
  have h := h w4 ew4
  refine vw_aload_n hX 0 dX3_init_12 rfl ?_
  refine vw_bipush hX (v := 8) dX3_init_13 (by decide) ?_
  obtain ⟨hn0, n6, hN, hb, hm1, hm2, h⟩ := h
  refine vw_newR hX 5 (by decide) rfl kw_46 (by decide) _ rfl hn0 hN hb hm1 hm2 dX3_init_15 ?_
  refine vw_nmW (fun w5 ew5 => ?_)
  have h := h w5 ew5
  obtain ⟨f7, hf7, hlf7, h⟩ := h
  refine p_X3_17 hX hNm hf7 hlf7 dX3_init_18 ?_
  refine vw_nmW (fun w8 ew8 => ?_)
  have h := h w8 ew8
  refine vw_aload_n hX 0 dX3_init_21 rfl ?_
  refine vw_bipush hX (v := 30) dX3_init_22 (by decide) ?_
  obtain ⟨hn0, n10, hN, hb, hm1, hm2, h⟩ := h
  refine vw_newR hX 6 (by decide) rfl kw_48 (by decide) _ rfl hn0 hN hb hm1 hm2 dX3_init_24 ?_
  refine vw_nmW (fun w9 ew9 => ?_)
  have h := h w9 ew9
  obtain ⟨f11, hf11, hlf11, h⟩ := h
  refine p_X3_23 hX hNm hf11 hlf11 dX3_init_27 ?_
  refine vw_nmW (fun w12 ew12 => ?_)
  have h := h w12 ew12
  refine vw_aload_n hX 0 dX3_init_30 rfl ?_
  refine vw_bipush hX (v := 20) dX3_init_31 (by decide) ?_
  obtain ⟨hn0, n14, hN, hb, hm1, hm2, h⟩ := h
  refine vw_newR hX 7 (by decide) rfl kw_50 (by decide) _ rfl hn0 hN hb hm1 hm2 dX3_init_33 ?_
  refine vw_nmW (fun w13 ew13 => ?_)
  have h := h w13 ew13
  obtain ⟨f15, hf15, hlf15, h⟩ := h
  refine p_X3_29 hX hNm hf15 hlf15 dX3_init_36 ?_
  refine vw_nmW (fun w16 ew16 => ?_)
  have h := h w16 ew16
  refine vw_iconst hX (v := 0) dX3_init_39 (by decide) ?_
  refine vw_istore_n hX dX3_init_40 (by decide) rfl ?_
  obtain ⟨nn, h⟩ := h
  exact vw_sub [1, 0] rfl (pB_X3_init_41 hX hE hNm nn _ _ _ _ _ h)
def F_X3_clear (a0 : Nat) (w : Mm) (z : Nat) (Q : Mm → Nat → Prop) : Prop :=
  ∃ f1, obj w a0 7 = some f1 ∧ 0 < f1.length ∧ ∀ w2, w2 = mset w a0 (.inl (7, f1.set 0 (.int (0)))) → ∃ f3, obj w2 a0 7 = some f3 ∧ 1 < f3.length ∧ ∀ w4, w4 = mset w2 a0 (.inl (7, f3.set 1 (.int (0)))) → ∃ f5, obj w4 a0 7 = some f5 ∧ 2 < f5.length ∧ ∀ w6, w6 = mset w4 a0 (.inl (7, f5.set 2 (.int (0)))) → ∃ f7, obj w6 a0 7 = some f7 ∧ 3 < f7.length ∧ ∀ w8, w8 = mset w6 a0 (.inl (7, f7.set 3 (.int (0)))) → ∃ f9, obj w8 a0 7 = some f9 ∧ 4 < f9.length ∧ ∀ w10, w10 = mset w8 a0 (.inl (7, f9.set 4 (.int (0)))) → ∃ f11, obj w10 a0 7 = some f11 ∧ 5 < f11.length ∧ ∀ w12, w12 = mset w10 a0 (.inl (7, f11.set 5 (.int (0)))) → ∃ f13, obj w12 a0 7 = some f13 ∧ 6 < f13.length ∧ ∀ w14, w14 = mset w12 a0 (.inl (7, f13.set 6 (.int (0)))) → ∃ f15, obj w14 a0 7 = some f15 ∧ 7 < f15.length ∧ ∀ w16, w16 = mset w14 a0 (.inl (7, f15.set 7 (.int (0)))) → Q w16 z
set_option maxRecDepth 100000 in
set_option maxHeartbeats 4000000 in
theorem ct_X3_clear {l : Launch} {g : Gp} {d : Nat} (hst : l.stackTraces = false) {a0 : Nat} {w : Mm} {z mc ms : Nat} {Q : Mm → Nat → Prop} {X : String → Mm → Nat → Prop} (h : F_X3_clear a0 w z Q) : Ct l g yX3_clear (.code yX3_clear cX3_clear 1 none) (d + 0) mc ms [.ref (a0)] w z (rV Q) X := by
  refine Ct.of hst (by decide) (Nat.le_of_ble_eq_true rfl) (fun C hX hE hg hl hNm => ?_)
  subst hg
  subst hl
  unfold F_X3_clear at h
  show VW C 0 [(0, .ref (a0))] [] w z mc ms
  refine vw_aload_n hX 0 dX3_clear_0 rfl ?_
  refine vw_iconst hX (v := 0) dX3_clear_1 (by decide) ?_
  obtain ⟨f1, hf1, hlf1, h⟩ := h
  refine p_X3_36 hX hf1 hlf1 dX3_clear_2 ?_
  refine vw_nmW (fun w2 ew2 => ?_)
  have h := h w2 ew2
  refine vw_aload_n hX 0 dX3_clear_5 rfl ?_
  refine vw_iconst hX (v := 0) dX3_clear_6 (by decide) ?_
  obtain ⟨f3, hf3, hlf3, h⟩ := h
  refine p_X3_40 hX hf3 hlf3 dX3_clear_7 ?_
  refine vw_nmW (fun w4 ew4 => ?_)
  have h := h w4 ew4
  refine vw_aload_n hX 0 dX3_clear_10 rfl ?_
  refine vw_iconst hX (v := 0) dX3_clear_11 (by decide) ?_
  obtain ⟨f5, hf5, hlf5, h⟩ := h
  refine p_X3_43 hX hf5 hlf5 dX3_clear_12 ?_
  refine vw_nmW (fun w6 ew6 => ?_)
  have h := h w6 ew6
  refine vw_aload_n hX 0 dX3_clear_15 rfl ?_
  refine vw_iconst hX (v := 0) dX3_clear_16 (by decide) ?_
  obtain ⟨f7, hf7, hlf7, h⟩ := h
  refine p_X3_46 hX hf7 hlf7 dX3_clear_17 ?_
  refine vw_nmW (fun w8 ew8 => ?_)
  have h := h w8 ew8
  refine vw_aload_n hX 0 dX3_clear_20 rfl ?_
  refine vw_iconst hX (v := 0) dX3_clear_21 (by decide) ?_
  obtain ⟨f9, hf9, hlf9, h⟩ := h
  refine p_X3_49 hX hf9 hlf9 dX3_clear_22 ?_
  refine vw_nmW (fun w10 ew10 => ?_)
  have h := h w10 ew10
  refine vw_aload_n hX 0 dX3_clear_25 rfl ?_
  refine vw_iconst hX (v := 0) dX3_clear_26 (by decide) ?_
  obtain ⟨f11, hf11, hlf11, h⟩ := h
  refine p_X3_52 hX hf11 hlf11 dX3_clear_27 ?_
  refine vw_nmW (fun w12 ew12 => ?_)
  have h := h w12 ew12
  refine vw_aload_n hX 0 dX3_clear_30 rfl ?_
  refine vw_iconst hX (v := 0) dX3_clear_31 (by decide) ?_
  obtain ⟨f13, hf13, hlf13, h⟩ := h
  refine p_X3_55 hX hf13 hlf13 dX3_clear_32 ?_
  refine vw_nmW (fun w14 ew14 => ?_)
  have h := h w14 ew14
  refine vw_aload_n hX 0 dX3_clear_35 rfl ?_
  refine vw_iconst hX (v := 0) dX3_clear_36 (by decide) ?_
  obtain ⟨f15, hf15, hlf15, h⟩ := h
  refine p_X3_58 hX hf15 hlf15 dX3_clear_37 ?_
  refine vw_nmW (fun w16 ew16 => ?_)
  have h := h w16 ew16
  exact vw_vret hX hE dX3_clear_40 ⟨rfl, h⟩
def B_X3_copyFrom_143 (a0 : Nat) (a1 : Nat) (Q : Mm → Nat → Prop) : Nat → Int32 → Mm → Nat → Prop
  | 0, _, _, _ => False
  | n + 1, x2, w, z => ∃ v1, fld w a0 7 7 = some (.int (v1)) ∧ (v1 ≤ x2 → Q w z) ∧
  (¬ v1 ≤ x2 → ∃ q3, fld w a0 7 11 = some (.ref (q3)) ∧ ∃ n5 f4 q6, arR w q3 7 = some (n5, f4) ∧ vp_in x2 n5 ∧ f4 (x2 : Int32).toNatClampNeg = some q6 ∧ ∃ q7, fld w a1 7 11 = some (.ref (q7)) ∧ ∃ n9 f8 q10, arR w q7 7 = some (n9, f8) ∧ vp_in x2 n9 ∧ f8 (x2 : Int32).toNatClampNeg = some q10 ∧ isO w q6 4 ∧ F_X0_copyFrom q6 q10 w z (fun w13 z14 => B_X3_copyFrom_143 a0 a1 Q n ((x2 + 1)) w13 z14))
set_option maxRecDepth 100000 in
set_option maxHeartbeats 4000000 in
theorem pB_X3_copyFrom_143 {C : Cx} {d : Nat} {a0 : Nat} {a1 : Nat} {Q : Mm → Nat → Prop} {X : String → Mm → Nat → Prop} (hX : CX C cX3_copyFrom RX3 3 none [] (d + 2)) (hE : EQ C (rV Q) X) : ∀ (n : Nat) (x2 : Int32) (w : Mm) (z mc ms : Nat), B_X3_copyFrom_143 a0 a1 Q n x2 w z → VW C 143 [(0, .ref (a0)), (1, .ref (a1)), (2, .int (x2))] [] w z mc ms := by
  intro n
  induction n with
  | zero => intro x2 w z mc ms h; exact False.elim h
  | succ n ih =>
    intro x2 w z mc ms h
    unfold B_X3_copyFrom_143 at h
    refine vw_iload_n hX 2 dX3_copyFrom_143 rfl ?_
    refine vw_aload_n hX 0 dX3_copyFrom_144 rfl ?_
    obtain ⟨v1, hv1, h⟩ := h
    refine g_X3_58 hX hv1 dX3_copyFrom_145 ?_
    refine vw_icmp_ge hX (tgt := 172) dX3_copyFrom_148 (by decide) (fun c2 => ?_) (fun c2 => ?_)
    · have h := h.1 c2
      exact vw_vret hX hE dX3_copyFrom_172 ⟨rfl, h⟩
    · have h := h.2 c2
      refine vw_aload_n hX 0 dX3_copyFrom_151 rfl ?_
      obtain ⟨q3, hq3, h⟩ := h
      refine g_X3_29 hX hq3 dX3_copyFrom_152 ?_
      refine vw_iload_n hX 2 dX3_copyFrom_155 rfl ?_
      obtain ⟨n5, f4, q6, hf4, hif4, hqf4, h⟩ := h
      refine vw_aald hX 7 (by decide) rfl hf4 hif4 hqf4 dX3_copyFrom_156 ?_
      refine vw_aload_n hX 1 dX3_copyFrom_157 rfl ?_
      obtain ⟨q7, hq7, h⟩ := h
      refine g_X3_29 hX hq7 dX3_copyFrom_158 ?_
      refine vw_iload_n hX 2 dX3_copyFrom_161 rfl ?_
      obtain ⟨n9, f8, q10, hf8, hif8, hqf8, h⟩ := h
      refine vw_aald hX 7 (by decide) rfl hf8 hif8 hqf8 dX3_copyFrom_162 ?_
      obtain ⟨hr11, h⟩ := h
      refine s_X3_74 hX hr11 dX3_copyFrom_163 (Nat.le_of_ble_eq_true rfl) (ct_X0_copyFrom (d := d + 1) (lst hX) h) (fun w13 z14 h => ?_)
      refine vw_iinc hX 2 (v := x2 + 1) dX3_copyFrom_166 rfl rfl (by decide) rfl ?_
      refine vw_goto hX (tgt := 143) dX3_copyFrom_169 (by decide) ?_
      exact vw_sub [1, 2, 0] rfl (ih _ _ _ _ _ h)
def B_X3_copyFrom_112 (a0 : Nat) (a1 : Nat) (Q : Mm → Nat → Prop) : Nat → Int32 → Mm → Nat → Prop
  | 0, _, _, _ => False
  | n + 1, x2, w, z => ∃ v15, fld w a0 7 6 = some (.int (v15)) ∧ (v15 ≤ x2 → ∃ nn, B_X3_copyFrom_143 a0 a1 Q nn 0 w z) ∧
  (¬ v15 ≤ x2 → ∃ q17, fld w a0 7 10 = some (.ref (q17)) ∧ ∃ n19 f18 q20, arR w q17 6 = some (n19, f18) ∧ vp_in x2 n19 ∧ f18 (x2 : Int32).toNatClampNeg = some q20 ∧ ∃ q21, fld w a1 7 10 = some (.ref (q21)) ∧ ∃ n23 f22 q24, arR w q21 6 = some (n23, f22) ∧ vp_in x2 n23 ∧ f22 (x2 : Int32).toNatClampNeg = some q24 ∧ isO w q20 8 ∧ F_X4_copyFrom q20 q24 w z (fun w27 z28 => B_X3_copyFrom_112 a0 a1 Q n ((x2 + 1)) w27 z28))
set_option maxRecDepth 100000 in
set_option maxHeartbeats 4000000 in
theorem pB_X3_copyFrom_112 {C : Cx} {d : Nat} {a0 : Nat} {a1 : Nat} {Q : Mm → Nat → Prop} {X : String → Mm → Nat → Prop} (hX : CX C cX3_copyFrom RX3 3 none [] (d + 2)) (hE : EQ C (rV Q) X) : ∀ (n : Nat) (x2 : Int32) (w : Mm) (z mc ms : Nat), B_X3_copyFrom_112 a0 a1 Q n x2 w z → VW C 112 [(0, .ref (a0)), (1, .ref (a1)), (2, .int (x2))] [] w z mc ms := by
  intro n
  induction n with
  | zero => intro x2 w z mc ms h; exact False.elim h
  | succ n ih =>
    intro x2 w z mc ms h
    unfold B_X3_copyFrom_112 at h
    refine vw_iload_n hX 2 dX3_copyFrom_112 rfl ?_
    refine vw_aload_n hX 0 dX3_copyFrom_113 rfl ?_
    obtain ⟨v15, hv15, h⟩ := h
    refine g_X3_55 hX hv15 dX3_copyFrom_114 ?_
    refine vw_icmp_ge hX (tgt := 141) dX3_copyFrom_117 (by decide) (fun c16 => ?_) (fun c16 => ?_)
    · have h := h.1 c16
      refine vw_iconst hX (v := 0) dX3_copyFrom_141 (by decide) ?_
      refine vw_istore_n hX dX3_copyFrom_142 (by decide) rfl ?_
      obtain ⟨nn, h⟩ := h
      exact vw_sub [1, 2, 0] rfl (pB_X3_copyFrom_143 hX hE nn _ _ _ _ _ h)
    · have h := h.2 c16
      refine vw_aload_n hX 0 dX3_copyFrom_120 rfl ?_
      obtain ⟨q17, hq17, h⟩ := h
      refine g_X3_23 hX hq17 dX3_copyFrom_121 ?_
      refine vw_iload_n hX 2 dX3_copyFrom_124 rfl ?_
      obtain ⟨n19, f18, q20, hf18, hif18, hqf18, h⟩ := h
      refine vw_aald hX 6 (by decide) rfl hf18 hif18 hqf18 dX3_copyFrom_125 ?_
      refine vw_aload_n hX 1 dX3_copyFrom_126 rfl ?_
      obtain ⟨q21, hq21, h⟩ := h
      refine g_X3_23 hX hq21 dX3_copyFrom_127 ?_
      refine vw_iload_n hX 2 dX3_copyFrom_130 rfl ?_
      obtain ⟨n23, f22, q24, hf22, hif22, hqf22, h⟩ := h
      refine vw_aald hX 6 (by decide) rfl hf22 hif22 hqf22 dX3_copyFrom_131 ?_
      obtain ⟨hr25, h⟩ := h
      refine s_X3_71 hX hr25 dX3_copyFrom_132 (Nat.le_of_ble_eq_true rfl) (ct_X4_copyFrom (d := d + 1) (lst hX) h) (fun w27 z28 h => ?_)
      refine vw_iinc hX 2 (v := x2 + 1) dX3_copyFrom_135 rfl rfl (by decide) rfl ?_
      refine vw_goto hX (tgt := 112) dX3_copyFrom_138 (by decide) ?_
      exact vw_sub [1, 2, 0] rfl (ih _ _ _ _ _ h)
def B_X3_copyFrom_81 (a0 : Nat) (a1 : Nat) (Q : Mm → Nat → Prop) : Nat → Int32 → Mm → Nat → Prop
  | 0, _, _, _ => False
  | n + 1, x2, w, z => ∃ v29, fld w a0 7 5 = some (.int (v29)) ∧ (v29 ≤ x2 → ∃ nn, B_X3_copyFrom_112 a0 a1 Q nn 0 w z) ∧
  (¬ v29 ≤ x2 → ∃ q31, fld w a0 7 9 = some (.ref (q31)) ∧ ∃ n33 f32 q34, arR w q31 5 = some (n33, f32) ∧ vp_in x2 n33 ∧ f32 (x2 : Int32).toNatClampNeg = some q34 ∧ ∃ q35, fld w a1 7 9 = some (.ref (q35)) ∧ ∃ n37 f36 q38, arR w q35 5 = some (n37, f36) ∧ vp_in x2 n37 ∧ f36 (x2 : Int32).toNatClampNeg = some q38 ∧ isO w q34 6 ∧ F_X2_copyFrom q34 q38 w z (fun w41 z42 => B_X3_copyFrom_81 a0 a1 Q n ((x2 + 1)) w41 z42))
set_option maxRecDepth 100000 in
set_option maxHeartbeats 4000000 in
theorem pB_X3_copyFrom_81 {C : Cx} {d : Nat} {a0 : Nat} {a1 : Nat} {Q : Mm → Nat → Prop} {X : String → Mm → Nat → Prop} (hX : CX C cX3_copyFrom RX3 3 none [] (d + 2)) (hE : EQ C (rV Q) X) : ∀ (n : Nat) (x2 : Int32) (w : Mm) (z mc ms : Nat), B_X3_copyFrom_81 a0 a1 Q n x2 w z → VW C 81 [(0, .ref (a0)), (1, .ref (a1)), (2, .int (x2))] [] w z mc ms := by
  intro n
  induction n with
  | zero => intro x2 w z mc ms h; exact False.elim h
  | succ n ih =>
    intro x2 w z mc ms h
    unfold B_X3_copyFrom_81 at h
    refine vw_iload_n hX 2 dX3_copyFrom_81 rfl ?_
    refine vw_aload_n hX 0 dX3_copyFrom_82 rfl ?_
    obtain ⟨v29, hv29, h⟩ := h
    refine g_X3_52 hX hv29 dX3_copyFrom_83 ?_
    refine vw_icmp_ge hX (tgt := 110) dX3_copyFrom_86 (by decide) (fun c30 => ?_) (fun c30 => ?_)
    · have h := h.1 c30
      refine vw_iconst hX (v := 0) dX3_copyFrom_110 (by decide) ?_
      refine vw_istore_n hX dX3_copyFrom_111 (by decide) rfl ?_
      obtain ⟨nn, h⟩ := h
      exact vw_sub [1, 2, 0] rfl (pB_X3_copyFrom_112 hX hE nn _ _ _ _ _ h)
    · have h := h.2 c30
      refine vw_aload_n hX 0 dX3_copyFrom_89 rfl ?_
      obtain ⟨q31, hq31, h⟩ := h
      refine g_X3_17 hX hq31 dX3_copyFrom_90 ?_
      refine vw_iload_n hX 2 dX3_copyFrom_93 rfl ?_
      obtain ⟨n33, f32, q34, hf32, hif32, hqf32, h⟩ := h
      refine vw_aald hX 5 (by decide) rfl hf32 hif32 hqf32 dX3_copyFrom_94 ?_
      refine vw_aload_n hX 1 dX3_copyFrom_95 rfl ?_
      obtain ⟨q35, hq35, h⟩ := h
      refine g_X3_17 hX hq35 dX3_copyFrom_96 ?_
      refine vw_iload_n hX 2 dX3_copyFrom_99 rfl ?_
      obtain ⟨n37, f36, q38, hf36, hif36, hqf36, h⟩ := h
      refine vw_aald hX 5 (by decide) rfl hf36 hif36 hqf36 dX3_copyFrom_100 ?_
      obtain ⟨hr39, h⟩ := h
      refine s_X3_67 hX hr39 dX3_copyFrom_101 (Nat.le_of_ble_eq_true rfl) (ct_X2_copyFrom (d := d + 0) (lst hX) h) (fun w41 z42 h => ?_)
      refine vw_iinc hX 2 (v := x2 + 1) dX3_copyFrom_104 rfl rfl (by decide) rfl ?_
      refine vw_goto hX (tgt := 81) dX3_copyFrom_107 (by decide) ?_
      exact vw_sub [1, 2, 0] rfl (ih _ _ _ _ _ h)
def F_X3_copyFrom (a0 : Nat) (a1 : Nat) (w : Mm) (z : Nat) (Q : Mm → Nat → Prop) : Prop :=
  ∃ v1, fld w a1 7 0 = some (.int (v1)) ∧ ∃ f2, obj w a0 7 = some f2 ∧ 0 < f2.length ∧ ∀ w3, w3 = mset w a0 (.inl (7, f2.set 0 (.int (v1)))) → ∃ v4, fld w3 a1 7 1 = some (.int (v4)) ∧ ∃ f5, obj w3 a0 7 = some f5 ∧ 1 < f5.length ∧ ∀ w6, w6 = mset w3 a0 (.inl (7, f5.set 1 (.int (v4)))) → ∃ v7, fld w6 a1 7 2 = some (.int (v7)) ∧ ∃ f8, obj w6 a0 7 = some f8 ∧ 2 < f8.length ∧ ∀ w9, w9 = mset w6 a0 (.inl (7, f8.set 2 (.int (v7)))) → ∃ v10, fld w9 a1 7 3 = some (.int (v10)) ∧ ∃ f11, obj w9 a0 7 = some f11 ∧ 3 < f11.length ∧ ∀ w12, w12 = mset w9 a0 (.inl (7, f11.set 3 (.int (v10)))) → ∃ v13, fld w12 a1 7 4 = some (.int (v13)) ∧ ∃ f14, obj w12 a0 7 = some f14 ∧ 4 < f14.length ∧ ∀ w15, w15 = mset w12 a0 (.inl (7, f14.set 4 (.int (v13)))) → ∃ v16, fld w15 a1 7 5 = some (.int (v16)) ∧ ∃ f17, obj w15 a0 7 = some f17 ∧ 5 < f17.length ∧ ∀ w18, w18 = mset w15 a0 (.inl (7, f17.set 5 (.int (v16)))) → ∃ v19, fld w18 a1 7 6 = some (.int (v19)) ∧ ∃ f20, obj w18 a0 7 = some f20 ∧ 6 < f20.length ∧ ∀ w21, w21 = mset w18 a0 (.inl (7, f20.set 6 (.int (v19)))) → ∃ v22, fld w21 a1 7 7 = some (.int (v22)) ∧ ∃ f23, obj w21 a0 7 = some f23 ∧ 7 < f23.length ∧ ∀ w24, w24 = mset w21 a0 (.inl (7, f23.set 7 (.int (v22)))) → ∃ q25, fld w24 a1 7 8 = some (.ref (q25)) ∧ ∃ q26, fld w24 a0 7 8 = some (.ref (q26)) ∧ ∃ n28 f27 n30 f29, arI w24 q25 0 = some (n28, f27) ∧ arW w24 q26 0 = some (n30, f29) ∧ ¬ (0 : Int32) < 0 ∧ ¬ (0 : Int32) < 0 ∧ ¬ (12 : Int32) < 0 ∧ (0 : Int32).toNatClampNeg + (12 : Int32).toNatClampNeg ≤ n28 ∧ (0 : Int32).toNatClampNeg + (12 : Int32).toNatClampNeg ≤ n30 ∧ ∀ w31, w31 = mset w24 q26 (.inr (0, n30, .inl (va_cpy f27 f29 (0 : Int32).toNatClampNeg (0 : Int32).toNatClampNeg (12 : Int32).toNatClampNeg))) → ∃ nn, B_X3_copyFrom_81 a0 a1 Q nn 0 w31 z
set_option maxRecDepth 100000 in
set_option maxHeartbeats 4000000 in
theorem ct_X3_copyFrom {l : Launch} {g : Gp} {d : Nat} (hst : l.stackTraces = false) {a0 : Nat} {a1 : Nat} {w : Mm} {z mc ms : Nat} {Q : Mm → Nat → Prop} {X : String → Mm → Nat → Prop} (h : F_X3_copyFrom a0 a1 w z Q) : Ct l g yX3_copyFrom (.code yX3_copyFrom cX3_copyFrom 3 none) (d + 2) mc ms [.ref (a0), .ref (a1)] w z (rV Q) X := by
  refine Ct.of hst (by decide) (Nat.le_of_ble_eq_true rfl) (fun C hX hE hg hl hNm => ?_)
  subst hg
  subst hl
  unfold F_X3_copyFrom at h
  show VW C 0 [(0, .ref (a0)), (1, .ref (a1))] [] w z mc ms
  refine vw_aload_n hX 0 dX3_copyFrom_0 rfl ?_
  refine vw_aload_n hX 1 dX3_copyFrom_1 rfl ?_
  obtain ⟨v1, hv1, h⟩ := h
  refine g_X3_36 hX hv1 dX3_copyFrom_2 ?_
  obtain ⟨f2, hf2, hlf2, h⟩ := h
  refine p_X3_36 hX hf2 hlf2 dX3_copyFrom_5 ?_
  refine vw_nmW (fun w3 ew3 => ?_)
  have h := h w3 ew3
  refine vw_aload_n hX 0 dX3_copyFrom_8 rfl ?_
  refine vw_aload_n hX 1 dX3_copyFrom_9 rfl ?_
  obtain ⟨v4, hv4, h⟩ := h
  refine g_X3_40 hX hv4 dX3_copyFrom_10 ?_
  obtain ⟨f5, hf5, hlf5, h⟩ := h
  refine p_X3_40 hX hf5 hlf5 dX3_copyFrom_13 ?_
  refine vw_nmW (fun w6 ew6 => ?_)
  have h := h w6 ew6
  refine vw_aload_n hX 0 dX3_copyFrom_16 rfl ?_
  refine vw_aload_n hX 1 dX3_copyFrom_17 rfl ?_
  obtain ⟨v7, hv7, h⟩ := h
  refine g_X3_43 hX hv7 dX3_copyFrom_18 ?_
  obtain ⟨f8, hf8, hlf8, h⟩ := h
  refine p_X3_43 hX hf8 hlf8 dX3_copyFrom_21 ?_
  refine vw_nmW (fun w9 ew9 => ?_)
  have h := h w9 ew9
  refine vw_aload_n hX 0 dX3_copyFrom_24 rfl ?_
  refine vw_aload_n hX 1 dX3_copyFrom_25 rfl ?_
  obtain ⟨v10, hv10, h⟩ := h
  refine g_X3_46 hX hv10 dX3_copyFrom_26 ?_
  obtain ⟨f11, hf11, hlf11, h⟩ := h
  refine p_X3_46 hX hf11 hlf11 dX3_copyFrom_29 ?_
  refine vw_nmW (fun w12 ew12 => ?_)
  have h := h w12 ew12
  refine vw_aload_n hX 0 dX3_copyFrom_32 rfl ?_
  refine vw_aload_n hX 1 dX3_copyFrom_33 rfl ?_
  obtain ⟨v13, hv13, h⟩ := h
  refine g_X3_49 hX hv13 dX3_copyFrom_34 ?_
  obtain ⟨f14, hf14, hlf14, h⟩ := h
  refine p_X3_49 hX hf14 hlf14 dX3_copyFrom_37 ?_
  refine vw_nmW (fun w15 ew15 => ?_)
  have h := h w15 ew15
  refine vw_aload_n hX 0 dX3_copyFrom_40 rfl ?_
  refine vw_aload_n hX 1 dX3_copyFrom_41 rfl ?_
  obtain ⟨v16, hv16, h⟩ := h
  refine g_X3_52 hX hv16 dX3_copyFrom_42 ?_
  obtain ⟨f17, hf17, hlf17, h⟩ := h
  refine p_X3_52 hX hf17 hlf17 dX3_copyFrom_45 ?_
  refine vw_nmW (fun w18 ew18 => ?_)
  have h := h w18 ew18
  refine vw_aload_n hX 0 dX3_copyFrom_48 rfl ?_
  refine vw_aload_n hX 1 dX3_copyFrom_49 rfl ?_
  obtain ⟨v19, hv19, h⟩ := h
  refine g_X3_55 hX hv19 dX3_copyFrom_50 ?_
  obtain ⟨f20, hf20, hlf20, h⟩ := h
  refine p_X3_55 hX hf20 hlf20 dX3_copyFrom_53 ?_
  refine vw_nmW (fun w21 ew21 => ?_)
  have h := h w21 ew21
  refine vw_aload_n hX 0 dX3_copyFrom_56 rfl ?_
  refine vw_aload_n hX 1 dX3_copyFrom_57 rfl ?_
  obtain ⟨v22, hv22, h⟩ := h
  refine g_X3_58 hX hv22 dX3_copyFrom_58 ?_
  obtain ⟨f23, hf23, hlf23, h⟩ := h
  refine p_X3_58 hX hf23 hlf23 dX3_copyFrom_61 ?_
  refine vw_nmW (fun w24 ew24 => ?_)
  have h := h w24 ew24
  refine vw_aload_n hX 1 dX3_copyFrom_64 rfl ?_
  obtain ⟨q25, hq25, h⟩ := h
  refine g_X3_9 hX hq25 dX3_copyFrom_65 ?_
  refine vw_iconst hX (v := 0) dX3_copyFrom_68 (by decide) ?_
  refine vw_aload_n hX 0 dX3_copyFrom_69 rfl ?_
  obtain ⟨q26, hq26, h⟩ := h
  refine g_X3_9 hX hq26 dX3_copyFrom_70 ?_
  refine vw_iconst hX (v := 0) dX3_copyFrom_73 (by decide) ?_
  refine vw_bipush hX (v := 12) dX3_copyFrom_74 (by decide) ?_
  obtain ⟨n28, f27, n30, f29, hc1, hc2, hc3, hc4, hc5, hc6, hc7, h⟩ := h
  refine vw_copy hX 0 (by decide) kw_929 rfl hc1 hc2 hc3 hc4 hc5 hc6 hc7 (fun _ _ => rfl) (Nat.le_of_ble_eq_true rfl) dX3_copyFrom_76 ?_
  refine vw_nmW (fun w31 ew31 => ?_)
  have h := h w31 ew31
  refine vw_iconst hX (v := 0) dX3_copyFrom_79 (by decide) ?_
  refine vw_istore_n hX dX3_copyFrom_80 (by decide) rfl ?_
  obtain ⟨nn, h⟩ := h
  exact vw_sub [1, 2, 0] rfl (pB_X3_copyFrom_81 hX hE nn _ _ _ _ _ h)
def B_X3_sumOfDebts_43 (a0 : Nat) (a1 : Int32) (K4 : Int32 → Int32 → Mm → Nat → Prop) (Q : Int32 → Mm → Nat → Prop) (x3 : Int32) (y0 : Int32) (y1 : Int32) (w : Mm) (z : Nat) : Prop :=
  ∀ i1 : Int32, i1 = (y1 + y0) → K4 i1 ((x3 + 1)) w z
set_option maxRecDepth 100000 in
set_option maxHeartbeats 4000000 in
theorem pB_X3_sumOfDebts_43 {C : Cx} {d : Nat} {a0 : Nat} {a1 : Int32} {K4 : Int32 → Int32 → Mm → Nat → Prop} {Q : Int32 → Mm → Nat → Prop} {X : String → Mm → Nat → Prop} (hX : CX C cX3_sumOfDebts RX3 4 (some .int) [] (d + 2)) (hE : EQ C (rI Q) X) (hK4 : ∀ (x2 : Int32) (x3 : Int32) (w : Mm) (z mc ms : Nat), K4 x2 x3 w z → VW C 4 [(0, .ref (a0)), (1, .int (a1)), (2, .int (x2)), (3, .int (x3))] [] w z mc ms) : ∀ (x3 : Int32) (y0 : Int32) (y1 : Int32) (w : Mm) (z mc ms : Nat), B_X3_sumOfDebts_43 a0 a1 K4 Q x3 y0 y1 w z → VW C 43 [(0, .ref (a0)), (1, .int (a1)), (3, .int (x3))] [.int (y0), .int (y1)] w z mc ms := by
  intro x3 y0 y1 w z mc ms h
  unfold B_X3_sumOfDebts_43 at h
  refine vw_iadd hX dX3_sumOfDebts_43 ?_
  refine vw_nmI (fun i1 ei1 => ?_)
  have h := h i1 ei1
  refine vw_istore_n hX dX3_sumOfDebts_44 (by decide) rfl ?_
  refine vw_iinc hX 3 (v := x3 + 1) dX3_sumOfDebts_45 rfl rfl (by decide) rfl ?_
  refine vw_goto hX (tgt := 4) dX3_sumOfDebts_48 (by decide) ?_
  exact vw_sub [2, 3, 1, 0] rfl (hK4 _ _ _ _ _ _ h)
def B_X3_sumOfDebts_4 (a0 : Nat) (a1 : Int32) (Q : Int32 → Mm → Nat → Prop) : Nat → Int32 → Int32 → Mm → Nat → Prop
  | 0, _, _, _, _ => False
  | n + 1, x2, x3, w, z => ∃ v2, fld w a0 7 7 = some (.int (v2)) ∧ (v2 ≤ x3 → Q x2 w z) ∧
  (¬ v2 ≤ x3 → ∃ q4, fld w a0 7 11 = some (.ref (q4)) ∧ ∃ n6 f5 q7, arR w q4 7 = some (n6, f5) ∧ vp_in x3 n6 ∧ f5 (x3 : Int32).toNatClampNeg = some q7 ∧ ∃ v8, fld w q7 4 0 = some (.int (v8)) ∧ (¬ v8 = a1 → B_X3_sumOfDebts_43 a0 a1 (B_X3_sumOfDebts_4 a0 a1 Q n) Q x3 0 x2 w z) ∧
  (v8 = a1 → ∃ q10, fld w a0 7 11 = some (.ref (q10)) ∧ ∃ n12 f11 q13, arR w q10 7 = some (n12, f11) ∧ vp_in x3 n12 ∧ f11 (x3 : Int32).toNatClampNeg = some q13 ∧ ∃ v14, fld w a0 7 0 = some (.int (v14)) ∧ isO w q13 4 ∧ F_X0_costAt q13 v14 w z (fun r16 w17 z18 => B_X3_sumOfDebts_43 a0 a1 (B_X3_sumOfDebts_4 a0 a1 Q n) Q x3 r16 x2 w17 z18)))
set_option maxRecDepth 100000 in
set_option maxHeartbeats 4000000 in
theorem pB_X3_sumOfDebts_4 {C : Cx} {d : Nat} {a0 : Nat} {a1 : Int32} {Q : Int32 → Mm → Nat → Prop} {X : String → Mm → Nat → Prop} (hX : CX C cX3_sumOfDebts RX3 4 (some .int) [] (d + 2)) (hE : EQ C (rI Q) X) : ∀ (n : Nat) (x2 : Int32) (x3 : Int32) (w : Mm) (z mc ms : Nat), B_X3_sumOfDebts_4 a0 a1 Q n x2 x3 w z → VW C 4 [(0, .ref (a0)), (1, .int (a1)), (2, .int (x2)), (3, .int (x3))] [] w z mc ms := by
  intro n
  induction n with
  | zero => intro x2 x3 w z mc ms h; exact False.elim h
  | succ n ih =>
    intro x2 x3 w z mc ms h
    unfold B_X3_sumOfDebts_4 at h
    refine vw_iload_n hX 3 dX3_sumOfDebts_4 rfl ?_
    refine vw_aload_n hX 0 dX3_sumOfDebts_5 rfl ?_
    obtain ⟨v2, hv2, h⟩ := h
    refine g_X3_58 hX hv2 dX3_sumOfDebts_6 ?_
    refine vw_icmp_ge hX (tgt := 51) dX3_sumOfDebts_9 (by decide) (fun c3 => ?_) (fun c3 => ?_)
    · have h := h.1 c3
      refine vw_iload_n hX 2 dX3_sumOfDebts_51 rfl ?_
      exact vw_iret hX hE dX3_sumOfDebts_52 ⟨_, rfl, h⟩
    · have h := h.2 c3
      refine vw_iload_n hX 2 dX3_sumOfDebts_12 rfl ?_
      refine vw_aload_n hX 0 dX3_sumOfDebts_13 rfl ?_
      obtain ⟨q4, hq4, h⟩ := h
      refine g_X3_29 hX hq4 dX3_sumOfDebts_14 ?_
      refine vw_iload_n hX 3 dX3_sumOfDebts_17 rfl ?_
      obtain ⟨n6, f5, q7, hf5, hif5, hqf5, h⟩ := h
      refine vw_aald hX 7 (by decide) rfl hf5 hif5 hqf5 dX3_sumOfDebts_18 ?_
      obtain ⟨v8, hv8, h⟩ := h
      refine g_X3_175 hX hv8 dX3_sumOfDebts_19 ?_
      refine vw_iload_n hX 1 dX3_sumOfDebts_22 rfl ?_
      refine vw_icmp_ne hX (tgt := 42) dX3_sumOfDebts_23 (by decide) (fun c9 => ?_) (fun c9 => ?_)
      · have h := h.1 c9
        refine vw_iconst hX (v := 0) dX3_sumOfDebts_42 (by decide) ?_
        exact vw_sub [0, 1, 3] rfl (pB_X3_sumOfDebts_43 hX hE ih _ _ _ _ _ _ _ h)
      · have h := h.2 c9
        refine vw_aload_n hX 0 dX3_sumOfDebts_26 rfl ?_
        obtain ⟨q10, hq10, h⟩ := h
        refine g_X3_29 hX hq10 dX3_sumOfDebts_27 ?_
        refine vw_iload_n hX 3 dX3_sumOfDebts_30 rfl ?_
        obtain ⟨n12, f11, q13, hf11, hif11, hqf11, h⟩ := h
        refine vw_aald hX 7 (by decide) rfl hf11 hif11 hqf11 dX3_sumOfDebts_31 ?_
        refine vw_aload_n hX 0 dX3_sumOfDebts_32 rfl ?_
        obtain ⟨v14, hv14, h⟩ := h
        refine g_X3_36 hX hv14 dX3_sumOfDebts_33 ?_
        obtain ⟨hr15, h⟩ := h
        refine s_X3_178 hX hr15 dX3_sumOfDebts_36 (Nat.le_of_ble_eq_true rfl) (ct_X0_costAt (d := d + 0) (lst hX) h) (fun r16 w17 z18 h => ?_)
        refine vw_goto hX (tgt := 43) dX3_sumOfDebts_39 (by decide) ?_
        exact vw_sub [0, 1, 3] rfl (pB_X3_sumOfDebts_43 hX hE ih _ _ _ _ _ _ _ h)
def F_X3_sumOfDebts (a0 : Nat) (a1 : Int32) (w : Mm) (z : Nat) (Q : Int32 → Mm → Nat → Prop) : Prop :=
  ∃ nn, B_X3_sumOfDebts_4 a0 a1 Q nn 0 0 w z
set_option maxRecDepth 100000 in
set_option maxHeartbeats 4000000 in
theorem ct_X3_sumOfDebts {l : Launch} {g : Gp} {d : Nat} (hst : l.stackTraces = false) {a0 : Nat} {a1 : Int32} {w : Mm} {z mc ms : Nat} {Q : Int32 → Mm → Nat → Prop} {X : String → Mm → Nat → Prop} (h : F_X3_sumOfDebts a0 a1 w z Q) : Ct l g yX3_sumOfDebts (.code yX3_sumOfDebts cX3_sumOfDebts 4 (some .int)) (d + 2) mc ms [.ref (a0), .int (a1)] w z (rI Q) X := by
  refine Ct.of hst (by decide) (Nat.le_of_ble_eq_true rfl) (fun C hX hE hg hl hNm => ?_)
  subst hg
  subst hl
  unfold F_X3_sumOfDebts at h
  show VW C 0 [(0, .ref (a0)), (1, .int (a1))] [] w z mc ms
  refine vw_iconst hX (v := 0) dX3_sumOfDebts_0 (by decide) ?_
  refine vw_istore_n hX dX3_sumOfDebts_1 (by decide) rfl ?_
  refine vw_iconst hX (v := 0) dX3_sumOfDebts_2 (by decide) ?_
  refine vw_istore_n hX dX3_sumOfDebts_3 (by decide) rfl ?_
  obtain ⟨nn, h⟩ := h
  exact vw_sub [2, 3, 1, 0] rfl (pB_X3_sumOfDebts_4 hX hE nn _ _ _ _ _ _ h)
def B_X3_countUnpaid_44 (a0 : Nat) (a1 : Int32) (K4 : Int32 → Int32 → Mm → Nat → Prop) (Q : Int32 → Mm → Nat → Prop) (x3 : Int32) (y0 : Int32) (y1 : Int32) (w : Mm) (z : Nat) : Prop :=
  ∀ i1 : Int32, i1 = (y1 + y0) → K4 i1 ((x3 + 1)) w z
set_option maxRecDepth 100000 in
set_option maxHeartbeats 4000000 in
theorem pB_X3_countUnpaid_44 {C : Cx} {d : Nat} {a0 : Nat} {a1 : Int32} {K4 : Int32 → Int32 → Mm → Nat → Prop} {Q : Int32 → Mm → Nat → Prop} {X : String → Mm → Nat → Prop} (hX : CX C cX3_countUnpaid RX3 4 (some .int) [] (d + 0)) (hE : EQ C (rI Q) X) (hK4 : ∀ (x2 : Int32) (x3 : Int32) (w : Mm) (z mc ms : Nat), K4 x2 x3 w z → VW C 4 [(0, .ref (a0)), (1, .int (a1)), (2, .int (x2)), (3, .int (x3))] [] w z mc ms) : ∀ (x3 : Int32) (y0 : Int32) (y1 : Int32) (w : Mm) (z mc ms : Nat), B_X3_countUnpaid_44 a0 a1 K4 Q x3 y0 y1 w z → VW C 44 [(0, .ref (a0)), (1, .int (a1)), (3, .int (x3))] [.int (y0), .int (y1)] w z mc ms := by
  intro x3 y0 y1 w z mc ms h
  unfold B_X3_countUnpaid_44 at h
  refine vw_iadd hX dX3_countUnpaid_44 ?_
  refine vw_nmI (fun i1 ei1 => ?_)
  have h := h i1 ei1
  refine vw_istore_n hX dX3_countUnpaid_45 (by decide) rfl ?_
  refine vw_iinc hX 3 (v := x3 + 1) dX3_countUnpaid_46 rfl rfl (by decide) rfl ?_
  refine vw_goto hX (tgt := 4) dX3_countUnpaid_49 (by decide) ?_
  exact vw_sub [2, 3, 1, 0] rfl (hK4 _ _ _ _ _ _ h)
def B_X3_countUnpaid_43 (a0 : Nat) (a1 : Int32) (K4 : Int32 → Int32 → Mm → Nat → Prop) (Q : Int32 → Mm → Nat → Prop) (x3 : Int32) (y0 : Int32) (w : Mm) (z : Nat) : Prop :=
  B_X3_countUnpaid_44 a0 a1 K4 Q x3 0 y0 w z
set_option maxRecDepth 100000 in
set_option maxHeartbeats 4000000 in
theorem pB_X3_countUnpaid_43 {C : Cx} {d : Nat} {a0 : Nat} {a1 : Int32} {K4 : Int32 → Int32 → Mm → Nat → Prop} {Q : Int32 → Mm → Nat → Prop} {X : String → Mm → Nat → Prop} (hX : CX C cX3_countUnpaid RX3 4 (some .int) [] (d + 0)) (hE : EQ C (rI Q) X) (hK4 : ∀ (x2 : Int32) (x3 : Int32) (w : Mm) (z mc ms : Nat), K4 x2 x3 w z → VW C 4 [(0, .ref (a0)), (1, .int (a1)), (2, .int (x2)), (3, .int (x3))] [] w z mc ms) : ∀ (x3 : Int32) (y0 : Int32) (w : Mm) (z mc ms : Nat), B_X3_countUnpaid_43 a0 a1 K4 Q x3 y0 w z → VW C 43 [(0, .ref (a0)), (1, .int (a1)), (3, .int (x3))] [.int (y0)] w z mc ms := by
  intro x3 y0 w z mc ms h
  unfold B_X3_countUnpaid_43 at h
  refine vw_iconst hX (v := 0) dX3_countUnpaid_43 (by decide) ?_
  exact pB_X3_countUnpaid_44 hX hE hK4 _ _ _ _ _ _ _ h
def B_X3_countUnpaid_4 (a0 : Nat) (a1 : Int32) (Q : Int32 → Mm → Nat → Prop) : Nat → Int32 → Int32 → Mm → Nat → Prop
  | 0, _, _, _, _ => False
  | n + 1, x2, x3, w, z => ∃ v2, fld w a0 7 7 = some (.int (v2)) ∧ (v2 ≤ x3 → Q x2 w z) ∧
  (¬ v2 ≤ x3 → ∃ q4, fld w a0 7 11 = some (.ref (q4)) ∧ ∃ n6 f5 q7, arR w q4 7 = some (n6, f5) ∧ vp_in x3 n6 ∧ f5 (x3 : Int32).toNatClampNeg = some q7 ∧ ∃ v8, fld w q7 4 0 = some (.int (v8)) ∧ (¬ v8 = a1 → B_X3_countUnpaid_43 a0 a1 (B_X3_countUnpaid_4 a0 a1 Q n) Q x3 x2 w z) ∧
  (v8 = a1 → ∃ q10, fld w a0 7 11 = some (.ref (q10)) ∧ ∃ n12 f11 q13, arR w q10 7 = some (n12, f11) ∧ vp_in x3 n12 ∧ f11 (x3 : Int32).toNatClampNeg = some q13 ∧ ∃ v14, fld w q13 4 4 = some (.int (v14)) ∧ (v14 = 4 → B_X3_countUnpaid_43 a0 a1 (B_X3_countUnpaid_4 a0 a1 Q n) Q x3 x2 w z) ∧
  (¬ v14 = 4 → B_X3_countUnpaid_44 a0 a1 (B_X3_countUnpaid_4 a0 a1 Q n) Q x3 1 x2 w z)))
set_option maxRecDepth 100000 in
set_option maxHeartbeats 4000000 in
theorem pB_X3_countUnpaid_4 {C : Cx} {d : Nat} {a0 : Nat} {a1 : Int32} {Q : Int32 → Mm → Nat → Prop} {X : String → Mm → Nat → Prop} (hX : CX C cX3_countUnpaid RX3 4 (some .int) [] (d + 0)) (hE : EQ C (rI Q) X) : ∀ (n : Nat) (x2 : Int32) (x3 : Int32) (w : Mm) (z mc ms : Nat), B_X3_countUnpaid_4 a0 a1 Q n x2 x3 w z → VW C 4 [(0, .ref (a0)), (1, .int (a1)), (2, .int (x2)), (3, .int (x3))] [] w z mc ms := by
  intro n
  induction n with
  | zero => intro x2 x3 w z mc ms h; exact False.elim h
  | succ n ih =>
    intro x2 x3 w z mc ms h
    unfold B_X3_countUnpaid_4 at h
    refine vw_iload_n hX 3 dX3_countUnpaid_4 rfl ?_
    refine vw_aload_n hX 0 dX3_countUnpaid_5 rfl ?_
    obtain ⟨v2, hv2, h⟩ := h
    refine g_X3_58 hX hv2 dX3_countUnpaid_6 ?_
    refine vw_icmp_ge hX (tgt := 52) dX3_countUnpaid_9 (by decide) (fun c3 => ?_) (fun c3 => ?_)
    · have h := h.1 c3
      refine vw_iload_n hX 2 dX3_countUnpaid_52 rfl ?_
      exact vw_iret hX hE dX3_countUnpaid_53 ⟨_, rfl, h⟩
    · have h := h.2 c3
      refine vw_iload_n hX 2 dX3_countUnpaid_12 rfl ?_
      refine vw_aload_n hX 0 dX3_countUnpaid_13 rfl ?_
      obtain ⟨q4, hq4, h⟩ := h
      refine g_X3_29 hX hq4 dX3_countUnpaid_14 ?_
      refine vw_iload_n hX 3 dX3_countUnpaid_17 rfl ?_
      obtain ⟨n6, f5, q7, hf5, hif5, hqf5, h⟩ := h
      refine vw_aald hX 7 (by decide) rfl hf5 hif5 hqf5 dX3_countUnpaid_18 ?_
      obtain ⟨v8, hv8, h⟩ := h
      refine g_X3_175 hX hv8 dX3_countUnpaid_19 ?_
      refine vw_iload_n hX 1 dX3_countUnpaid_22 rfl ?_
      refine vw_icmp_ne hX (tgt := 43) dX3_countUnpaid_23 (by decide) (fun c9 => ?_) (fun c9 => ?_)
      · have h := h.1 c9
        exact vw_sub [0, 1, 3] rfl (pB_X3_countUnpaid_43 hX hE ih _ _ _ _ _ _ h)
      · have h := h.2 c9
        refine vw_aload_n hX 0 dX3_countUnpaid_26 rfl ?_
        obtain ⟨q10, hq10, h⟩ := h
        refine g_X3_29 hX hq10 dX3_countUnpaid_27 ?_
        refine vw_iload_n hX 3 dX3_countUnpaid_30 rfl ?_
        obtain ⟨n12, f11, q13, hf11, hif11, hqf11, h⟩ := h
        refine vw_aald hX 7 (by decide) rfl hf11 hif11 hqf11 dX3_countUnpaid_31 ?_
        obtain ⟨v14, hv14, h⟩ := h
        refine g_X3_156 hX hv14 dX3_countUnpaid_32 ?_
        refine vw_iconst hX (v := 4) dX3_countUnpaid_35 (by decide) ?_
        refine vw_icmp_eq hX (tgt := 43) dX3_countUnpaid_36 (by decide) (fun c15 => ?_) (fun c15 => ?_)
        · have h := h.1 c15
          exact vw_sub [0, 1, 3] rfl (pB_X3_countUnpaid_43 hX hE ih _ _ _ _ _ _ h)
        · have h := h.2 c15
          refine vw_iconst hX (v := 1) dX3_countUnpaid_39 (by decide) ?_
          refine vw_goto hX (tgt := 44) dX3_countUnpaid_40 (by decide) ?_
          exact vw_sub [0, 1, 3] rfl (pB_X3_countUnpaid_44 hX hE ih _ _ _ _ _ _ _ h)
def F_X3_countUnpaid (a0 : Nat) (a1 : Int32) (w : Mm) (z : Nat) (Q : Int32 → Mm → Nat → Prop) : Prop :=
  ∃ nn, B_X3_countUnpaid_4 a0 a1 Q nn 0 0 w z
set_option maxRecDepth 100000 in
set_option maxHeartbeats 4000000 in
theorem ct_X3_countUnpaid {l : Launch} {g : Gp} {d : Nat} (hst : l.stackTraces = false) {a0 : Nat} {a1 : Int32} {w : Mm} {z mc ms : Nat} {Q : Int32 → Mm → Nat → Prop} {X : String → Mm → Nat → Prop} (h : F_X3_countUnpaid a0 a1 w z Q) : Ct l g yX3_countUnpaid (.code yX3_countUnpaid cX3_countUnpaid 4 (some .int)) (d + 0) mc ms [.ref (a0), .int (a1)] w z (rI Q) X := by
  refine Ct.of hst (by decide) (Nat.le_of_ble_eq_true rfl) (fun C hX hE hg hl hNm => ?_)
  subst hg
  subst hl
  unfold F_X3_countUnpaid at h
  show VW C 0 [(0, .ref (a0)), (1, .int (a1))] [] w z mc ms
  refine vw_iconst hX (v := 0) dX3_countUnpaid_0 (by decide) ?_
  refine vw_istore_n hX dX3_countUnpaid_1 (by decide) rfl ?_
  refine vw_iconst hX (v := 0) dX3_countUnpaid_2 (by decide) ?_
  refine vw_istore_n hX dX3_countUnpaid_3 (by decide) rfl ?_
  obtain ⟨nn, h⟩ := h
  exact vw_sub [2, 3, 1, 0] rfl (pB_X3_countUnpaid_4 hX hE nn _ _ _ _ _ _ h)
def B_X3_sumOfPrices_4 (a0 : Nat) (Q : Int32 → Mm → Nat → Prop) : Nat → Int32 → Int32 → Mm → Nat → Prop
  | 0, _, _, _, _ => False
  | n + 1, x1, x2, w, z => ∃ v1, fld w a0 7 6 = some (.int (v1)) ∧ (v1 ≤ x2 → Q x1 w z) ∧
  (¬ v1 ≤ x2 → ∃ q3, fld w a0 7 10 = some (.ref (q3)) ∧ ∃ n5 f4 q6, arR w q3 6 = some (n5, f4) ∧ vp_in x2 n5 ∧ f4 (x2 : Int32).toNatClampNeg = some q6 ∧ isO w q6 8 ∧ F_X4_price q6 w z (fun r8 w9 z10 => ∀ i11 : Int32, i11 = (x1 + r8) → B_X3_sumOfPrices_4 a0 Q n i11 ((x2 + 1)) w9 z10))
set_option maxRecDepth 100000 in
set_option maxHeartbeats 4000000 in
theorem pB_X3_sumOfPrices_4 {C : Cx} {d : Nat} {a0 : Nat} {Q : Int32 → Mm → Nat → Prop} {X : String → Mm → Nat → Prop} (hX : CX C cX3_sumOfPrices RX3 3 (some .int) [] (d + 3)) (hE : EQ C (rI Q) X) : ∀ (n : Nat) (x1 : Int32) (x2 : Int32) (w : Mm) (z mc ms : Nat), B_X3_sumOfPrices_4 a0 Q n x1 x2 w z → VW C 4 [(0, .ref (a0)), (1, .int (x1)), (2, .int (x2))] [] w z mc ms := by
  intro n
  induction n with
  | zero => intro x1 x2 w z mc ms h; exact False.elim h
  | succ n ih =>
    intro x1 x2 w z mc ms h
    unfold B_X3_sumOfPrices_4 at h
    refine vw_iload_n hX 2 dX3_sumOfPrices_4 rfl ?_
    refine vw_aload_n hX 0 dX3_sumOfPrices_5 rfl ?_
    obtain ⟨v1, hv1, h⟩ := h
    refine g_X3_55 hX hv1 dX3_sumOfPrices_6 ?_
    refine vw_icmp_ge hX (tgt := 30) dX3_sumOfPrices_9 (by decide) (fun c2 => ?_) (fun c2 => ?_)
    · have h := h.1 c2
      refine vw_iload_n hX 1 dX3_sumOfPrices_30 rfl ?_
      exact vw_iret hX hE dX3_sumOfPrices_31 ⟨_, rfl, h⟩
    · have h := h.2 c2
      refine vw_iload_n hX 1 dX3_sumOfPrices_12 rfl ?_
      refine vw_aload_n hX 0 dX3_sumOfPrices_13 rfl ?_
      obtain ⟨q3, hq3, h⟩ := h
      refine g_X3_23 hX hq3 dX3_sumOfPrices_14 ?_
      refine vw_iload_n hX 2 dX3_sumOfPrices_17 rfl ?_
      obtain ⟨n5, f4, q6, hf4, hif4, hqf4, h⟩ := h
      refine vw_aald hX 6 (by decide) rfl hf4 hif4 hqf4 dX3_sumOfPrices_18 ?_
      obtain ⟨hr7, h⟩ := h
      refine s_X3_181 hX hr7 dX3_sumOfPrices_19 (Nat.le_of_ble_eq_true rfl) (ct_X4_price (d := d + 0) (lst hX) h) (fun r8 w9 z10 h => ?_)
      refine vw_iadd hX dX3_sumOfPrices_22 ?_
      refine vw_nmI (fun i11 ei11 => ?_)
      have h := h i11 ei11
      refine vw_istore_n hX dX3_sumOfPrices_23 (by decide) rfl ?_
      refine vw_iinc hX 2 (v := x2 + 1) dX3_sumOfPrices_24 rfl rfl (by decide) rfl ?_
      refine vw_goto hX (tgt := 4) dX3_sumOfPrices_27 (by decide) ?_
      exact vw_sub [2, 1, 0] rfl (ih _ _ _ _ _ _ h)
def F_X3_sumOfPrices (a0 : Nat) (w : Mm) (z : Nat) (Q : Int32 → Mm → Nat → Prop) : Prop :=
  ∃ nn, B_X3_sumOfPrices_4 a0 Q nn 0 0 w z
set_option maxRecDepth 100000 in
set_option maxHeartbeats 4000000 in
theorem ct_X3_sumOfPrices {l : Launch} {g : Gp} {d : Nat} (hst : l.stackTraces = false) {a0 : Nat} {w : Mm} {z mc ms : Nat} {Q : Int32 → Mm → Nat → Prop} {X : String → Mm → Nat → Prop} (h : F_X3_sumOfPrices a0 w z Q) : Ct l g yX3_sumOfPrices (.code yX3_sumOfPrices cX3_sumOfPrices 3 (some .int)) (d + 3) mc ms [.ref (a0)] w z (rI Q) X := by
  refine Ct.of hst (by decide) (Nat.le_of_ble_eq_true rfl) (fun C hX hE hg hl hNm => ?_)
  subst hg
  subst hl
  unfold F_X3_sumOfPrices at h
  show VW C 0 [(0, .ref (a0))] [] w z mc ms
  refine vw_iconst hX (v := 0) dX3_sumOfPrices_0 (by decide) ?_
  refine vw_istore_n hX dX3_sumOfPrices_1 (by decide) rfl ?_
  refine vw_iconst hX (v := 0) dX3_sumOfPrices_2 (by decide) ?_
  refine vw_istore_n hX dX3_sumOfPrices_3 (by decide) rfl ?_
  obtain ⟨nn, h⟩ := h
  exact vw_sub [2, 1, 0] rfl (pB_X3_sumOfPrices_4 hX hE nn _ _ _ _ _ _ h)
def B_X3_sumOfMoney_4 (a0 : Nat) (Q : Int32 → Mm → Nat → Prop) : Nat → Int32 → Int32 → Mm → Nat → Prop
  | 0, _, _, _, _ => False
  | n + 1, x1, x2, w, z => ∃ v1, fld w a0 7 5 = some (.int (v1)) ∧ (v1 ≤ x2 → Q x1 w z) ∧
  (¬ v1 ≤ x2 → ∃ q3, fld w a0 7 9 = some (.ref (q3)) ∧ ∃ n5 f4 q6, arR w q3 5 = some (n5, f4) ∧ vp_in x2 n5 ∧ f4 (x2 : Int32).toNatClampNeg = some q6 ∧ ∃ v7, fld w q6 6 1 = some (.int (v7)) ∧ ∀ i8 : Int32, i8 = (x1 + v7) → B_X3_sumOfMoney_4 a0 Q n i8 ((x2 + 1)) w z)
set_option maxRecDepth 100000 in
set_option maxHeartbeats 4000000 in
theorem pB_X3_sumOfMoney_4 {C : Cx} {d : Nat} {a0 : Nat} {Q : Int32 → Mm → Nat → Prop} {X : String → Mm → Nat → Prop} (hX : CX C cX3_sumOfMoney RX3 3 (some .int) [] (d + 0)) (hE : EQ C (rI Q) X) : ∀ (n : Nat) (x1 : Int32) (x2 : Int32) (w : Mm) (z mc ms : Nat), B_X3_sumOfMoney_4 a0 Q n x1 x2 w z → VW C 4 [(0, .ref (a0)), (1, .int (x1)), (2, .int (x2))] [] w z mc ms := by
  intro n
  induction n with
  | zero => intro x1 x2 w z mc ms h; exact False.elim h
  | succ n ih =>
    intro x1 x2 w z mc ms h
    unfold B_X3_sumOfMoney_4 at h
    refine vw_iload_n hX 2 dX3_sumOfMoney_4 rfl ?_
    refine vw_aload_n hX 0 dX3_sumOfMoney_5 rfl ?_
    obtain ⟨v1, hv1, h⟩ := h
    refine g_X3_52 hX hv1 dX3_sumOfMoney_6 ?_
    refine vw_icmp_ge hX (tgt := 30) dX3_sumOfMoney_9 (by decide) (fun c2 => ?_) (fun c2 => ?_)
    · have h := h.1 c2
      refine vw_iload_n hX 1 dX3_sumOfMoney_30 rfl ?_
      exact vw_iret hX hE dX3_sumOfMoney_31 ⟨_, rfl, h⟩
    · have h := h.2 c2
      refine vw_iload_n hX 1 dX3_sumOfMoney_12 rfl ?_
      refine vw_aload_n hX 0 dX3_sumOfMoney_13 rfl ?_
      obtain ⟨q3, hq3, h⟩ := h
      refine g_X3_17 hX hq3 dX3_sumOfMoney_14 ?_
      refine vw_iload_n hX 2 dX3_sumOfMoney_17 rfl ?_
      obtain ⟨n5, f4, q6, hf4, hif4, hqf4, h⟩ := h
      refine vw_aald hX 5 (by decide) rfl hf4 hif4 hqf4 dX3_sumOfMoney_18 ?_
      obtain ⟨v7, hv7, h⟩ := h
      refine g_X3_90 hX hv7 dX3_sumOfMoney_19 ?_
      refine vw_iadd hX dX3_sumOfMoney_22 ?_
      refine vw_nmI (fun i8 ei8 => ?_)
      have h := h i8 ei8
      refine vw_istore_n hX dX3_sumOfMoney_23 (by decide) rfl ?_
      refine vw_iinc hX 2 (v := x2 + 1) dX3_sumOfMoney_24 rfl rfl (by decide) rfl ?_
      refine vw_goto hX (tgt := 4) dX3_sumOfMoney_27 (by decide) ?_
      exact vw_sub [2, 1, 0] rfl (ih _ _ _ _ _ _ h)
def F_X3_sumOfMoney (a0 : Nat) (w : Mm) (z : Nat) (Q : Int32 → Mm → Nat → Prop) : Prop :=
  ∃ nn, B_X3_sumOfMoney_4 a0 Q nn 0 0 w z
set_option maxRecDepth 100000 in
set_option maxHeartbeats 4000000 in
theorem ct_X3_sumOfMoney {l : Launch} {g : Gp} {d : Nat} (hst : l.stackTraces = false) {a0 : Nat} {w : Mm} {z mc ms : Nat} {Q : Int32 → Mm → Nat → Prop} {X : String → Mm → Nat → Prop} (h : F_X3_sumOfMoney a0 w z Q) : Ct l g yX3_sumOfMoney (.code yX3_sumOfMoney cX3_sumOfMoney 3 (some .int)) (d + 0) mc ms [.ref (a0)] w z (rI Q) X := by
  refine Ct.of hst (by decide) (Nat.le_of_ble_eq_true rfl) (fun C hX hE hg hl hNm => ?_)
  subst hg
  subst hl
  unfold F_X3_sumOfMoney at h
  show VW C 0 [(0, .ref (a0))] [] w z mc ms
  refine vw_iconst hX (v := 0) dX3_sumOfMoney_0 (by decide) ?_
  refine vw_istore_n hX dX3_sumOfMoney_1 (by decide) rfl ?_
  refine vw_iconst hX (v := 0) dX3_sumOfMoney_2 (by decide) ?_
  refine vw_istore_n hX dX3_sumOfMoney_3 (by decide) rfl ?_
  obtain ⟨nn, h⟩ := h
  exact vw_sub [2, 1, 0] rfl (pB_X3_sumOfMoney_4 hX hE nn _ _ _ _ _ _ h)
def B_X3_countOddStamps_47 (a0 : Nat) (K4 : Int32 → Int32 → Mm → Nat → Prop) (Q : Int32 → Mm → Nat → Prop) (x2 : Int32) (y0 : Int32) (y1 : Int32) (w : Mm) (z : Nat) : Prop :=
  ∀ i1 : Int32, i1 = (y1 + y0) → K4 i1 ((x2 + 1)) w z
set_option maxRecDepth 100000 in
set_option maxHeartbeats 4000000 in
theorem pB_X3_countOddStamps_47 {C : Cx} {d : Nat} {a0 : Nat} {K4 : Int32 → Int32 → Mm → Nat → Prop} {Q : Int32 → Mm → Nat → Prop} {X : String → Mm → Nat → Prop} (hX : CX C cX3_countOddStamps RX3 3 (some .int) [] (d + 1)) (hE : EQ C (rI Q) X) (hK4 : ∀ (x1 : Int32) (x2 : Int32) (w : Mm) (z mc ms : Nat), K4 x1 x2 w z → VW C 4 [(0, .ref (a0)), (1, .int (x1)), (2, .int (x2))] [] w z mc ms) : ∀ (x2 : Int32) (y0 : Int32) (y1 : Int32) (w : Mm) (z mc ms : Nat), B_X3_countOddStamps_47 a0 K4 Q x2 y0 y1 w z → VW C 47 [(0, .ref (a0)), (2, .int (x2))] [.int (y0), .int (y1)] w z mc ms := by
  intro x2 y0 y1 w z mc ms h
  unfold B_X3_countOddStamps_47 at h
  refine vw_iadd hX dX3_countOddStamps_47 ?_
  refine vw_nmI (fun i1 ei1 => ?_)
  have h := h i1 ei1
  refine vw_istore_n hX dX3_countOddStamps_48 (by decide) rfl ?_
  refine vw_iinc hX 2 (v := x2 + 1) dX3_countOddStamps_49 rfl rfl (by decide) rfl ?_
  refine vw_goto hX (tgt := 4) dX3_countOddStamps_52 (by decide) ?_
  exact vw_sub [2, 1, 0] rfl (hK4 _ _ _ _ _ _ h)
def B_X3_countOddStamps_39 (a0 : Nat) (K4 : Int32 → Int32 → Mm → Nat → Prop) (Q : Int32 → Mm → Nat → Prop) (x2 : Int32) (y0 : Int32) (y1 : Int32) (y2 : Int32) (w : Mm) (z : Nat) : Prop :=
  (¬ y1 = y0 → B_X3_countOddStamps_47 a0 K4 Q x2 1 y2 w z) ∧
  (y1 = y0 → B_X3_countOddStamps_47 a0 K4 Q x2 0 y2 w z)
set_option maxRecDepth 100000 in
set_option maxHeartbeats 4000000 in
theorem pB_X3_countOddStamps_39 {C : Cx} {d : Nat} {a0 : Nat} {K4 : Int32 → Int32 → Mm → Nat → Prop} {Q : Int32 → Mm → Nat → Prop} {X : String → Mm → Nat → Prop} (hX : CX C cX3_countOddStamps RX3 3 (some .int) [] (d + 1)) (hE : EQ C (rI Q) X) (hK4 : ∀ (x1 : Int32) (x2 : Int32) (w : Mm) (z mc ms : Nat), K4 x1 x2 w z → VW C 4 [(0, .ref (a0)), (1, .int (x1)), (2, .int (x2))] [] w z mc ms) : ∀ (x2 : Int32) (y0 : Int32) (y1 : Int32) (y2 : Int32) (w : Mm) (z mc ms : Nat), B_X3_countOddStamps_39 a0 K4 Q x2 y0 y1 y2 w z → VW C 39 [(0, .ref (a0)), (2, .int (x2))] [.int (y0), .int (y1), .int (y2)] w z mc ms := by
  intro x2 y0 y1 y2 w z mc ms h
  unfold B_X3_countOddStamps_39 at h
  refine vw_icmp_ne hX (tgt := 46) dX3_countOddStamps_39 (by decide) (fun c2 => ?_) (fun c2 => ?_)
  · have h := h.1 c2
    refine vw_iconst hX (v := 1) dX3_countOddStamps_46 (by decide) ?_
    exact pB_X3_countOddStamps_47 hX hE hK4 _ _ _ _ _ _ _ h
  · have h := h.2 c2
    refine vw_iconst hX (v := 0) dX3_countOddStamps_42 (by decide) ?_
    refine vw_goto hX (tgt := 47) dX3_countOddStamps_43 (by decide) ?_
    exact pB_X3_countOddStamps_47 hX hE hK4 _ _ _ _ _ _ _ h
def B_X3_countOddStamps_4 (a0 : Nat) (Q : Int32 → Mm → Nat → Prop) : Nat → Int32 → Int32 → Mm → Nat → Prop
  | 0, _, _, _, _ => False
  | n + 1, x1, x2, w, z => ∃ v3, fld w a0 7 6 = some (.int (v3)) ∧ (v3 ≤ x2 → Q x1 w z) ∧
  (¬ v3 ≤ x2 → ∃ q5, fld w a0 7 10 = some (.ref (q5)) ∧ ∃ n7 f6 q8, arR w q5 6 = some (n7, f6) ∧ vp_in x2 n7 ∧ f6 (x2 : Int32).toNatClampNeg = some q8 ∧ isO w q8 8 ∧ F_X4_isStamped q8 w z (fun r10 w11 z12 => ∃ q13, fld w11 a0 7 10 = some (.ref (q13)) ∧ ∃ n15 f14 q16, arR w11 q13 6 = some (n15, f14) ∧ vp_in x2 n15 ∧ f14 (x2 : Int32).toNatClampNeg = some q16 ∧ ∃ v17, fld w11 q16 8 5 = some (.int (v17)) ∧ (v17 ≤ 0 → B_X3_countOddStamps_39 a0 (B_X3_countOddStamps_4 a0 Q n) Q x2 0 r10 x1 w11 z12) ∧
  (¬ v17 ≤ 0 → B_X3_countOddStamps_39 a0 (B_X3_countOddStamps_4 a0 Q n) Q x2 1 r10 x1 w11 z12)))
set_option maxRecDepth 100000 in
set_option maxHeartbeats 4000000 in
theorem pB_X3_countOddStamps_4 {C : Cx} {d : Nat} {a0 : Nat} {Q : Int32 → Mm → Nat → Prop} {X : String → Mm → Nat → Prop} (hX : CX C cX3_countOddStamps RX3 3 (some .int) [] (d + 1)) (hE : EQ C (rI Q) X) : ∀ (n : Nat) (x1 : Int32) (x2 : Int32) (w : Mm) (z mc ms : Nat), B_X3_countOddStamps_4 a0 Q n x1 x2 w z → VW C 4 [(0, .ref (a0)), (1, .int (x1)), (2, .int (x2))] [] w z mc ms := by
  intro n
  induction n with
  | zero => intro x1 x2 w z mc ms h; exact False.elim h
  | succ n ih =>
    intro x1 x2 w z mc ms h
    unfold B_X3_countOddStamps_4 at h
    refine vw_iload_n hX 2 dX3_countOddStamps_4 rfl ?_
    refine vw_aload_n hX 0 dX3_countOddStamps_5 rfl ?_
    obtain ⟨v3, hv3, h⟩ := h
    refine g_X3_55 hX hv3 dX3_countOddStamps_6 ?_
    refine vw_icmp_ge hX (tgt := 55) dX3_countOddStamps_9 (by decide) (fun c4 => ?_) (fun c4 => ?_)
    · have h := h.1 c4
      refine vw_iload_n hX 1 dX3_countOddStamps_55 rfl ?_
      exact vw_iret hX hE dX3_countOddStamps_56 ⟨_, rfl, h⟩
    · have h := h.2 c4
      refine vw_iload_n hX 1 dX3_countOddStamps_12 rfl ?_
      refine vw_aload_n hX 0 dX3_countOddStamps_13 rfl ?_
      obtain ⟨q5, hq5, h⟩ := h
      refine g_X3_23 hX hq5 dX3_countOddStamps_14 ?_
      refine vw_iload_n hX 2 dX3_countOddStamps_17 rfl ?_
      obtain ⟨n7, f6, q8, hf6, hif6, hqf6, h⟩ := h
      refine vw_aald hX 6 (by decide) rfl hf6 hif6 hqf6 dX3_countOddStamps_18 ?_
      obtain ⟨hr9, h⟩ := h
      refine s_X3_185 hX hr9 dX3_countOddStamps_19 (Nat.le_of_ble_eq_true rfl) (ct_X4_isStamped (d := d + 0) (lst hX) h) (fun r10 w11 z12 h => ?_)
      refine vw_aload_n hX 0 dX3_countOddStamps_22 rfl ?_
      obtain ⟨q13, hq13, h⟩ := h
      refine g_X3_23 hX hq13 dX3_countOddStamps_23 ?_
      refine vw_iload_n hX 2 dX3_countOddStamps_26 rfl ?_
      obtain ⟨n15, f14, q16, hf14, hif14, hqf14, h⟩ := h
      refine vw_aald hX 6 (by decide) rfl hf14 hif14 hqf14 dX3_countOddStamps_27 ?_
      obtain ⟨v17, hv17, h⟩ := h
      refine g_X3_140 hX hv17 dX3_countOddStamps_28 ?_
      refine vw_if_le hX (tgt := 38) dX3_countOddStamps_31 (by decide) (fun c18 => ?_) (fun c18 => ?_)
      · have h := h.1 c18
        refine vw_iconst hX (v := 0) dX3_countOddStamps_38 (by decide) ?_
        exact vw_sub [0, 2] rfl (pB_X3_countOddStamps_39 hX hE ih _ _ _ _ _ _ _ _ h)
      · have h := h.2 c18
        refine vw_iconst hX (v := 1) dX3_countOddStamps_34 (by decide) ?_
        refine vw_goto hX (tgt := 39) dX3_countOddStamps_35 (by decide) ?_
        exact vw_sub [0, 2] rfl (pB_X3_countOddStamps_39 hX hE ih _ _ _ _ _ _ _ _ h)
def F_X3_countOddStamps (a0 : Nat) (w : Mm) (z : Nat) (Q : Int32 → Mm → Nat → Prop) : Prop :=
  ∃ nn, B_X3_countOddStamps_4 a0 Q nn 0 0 w z
set_option maxRecDepth 100000 in
set_option maxHeartbeats 4000000 in
theorem ct_X3_countOddStamps {l : Launch} {g : Gp} {d : Nat} (hst : l.stackTraces = false) {a0 : Nat} {w : Mm} {z mc ms : Nat} {Q : Int32 → Mm → Nat → Prop} {X : String → Mm → Nat → Prop} (h : F_X3_countOddStamps a0 w z Q) : Ct l g yX3_countOddStamps (.code yX3_countOddStamps cX3_countOddStamps 3 (some .int)) (d + 1) mc ms [.ref (a0)] w z (rI Q) X := by
  refine Ct.of hst (by decide) (Nat.le_of_ble_eq_true rfl) (fun C hX hE hg hl hNm => ?_)
  subst hg
  subst hl
  unfold F_X3_countOddStamps at h
  show VW C 0 [(0, .ref (a0))] [] w z mc ms
  refine vw_iconst hX (v := 0) dX3_countOddStamps_0 (by decide) ?_
  refine vw_istore_n hX dX3_countOddStamps_1 (by decide) rfl ?_
  refine vw_iconst hX (v := 0) dX3_countOddStamps_2 (by decide) ?_
  refine vw_istore_n hX dX3_countOddStamps_3 (by decide) rfl ?_
  obtain ⟨nn, h⟩ := h
  exact vw_sub [2, 1, 0] rfl (pB_X3_countOddStamps_4 hX hE nn _ _ _ _ _ _ h)
