def F_X0_init (a0 : Nat) (w : Mm) (z : Nat) (Q : Mm → Nat → Prop) : Prop :=
  Q w z
set_option maxRecDepth 100000 in
set_option maxHeartbeats 4000000 in
theorem ct_X0_init {l : Launch} {g : Gp} {d : Nat} (hst : l.stackTraces = false) {a0 : Nat} {w : Mm} {z mc ms : Nat} {Q : Mm → Nat → Prop} {X : String → Mm → Nat → Prop} (h : F_X0_init a0 w z Q) : Ct l g yX0_init (.code yX0_init cX0_init 1 none) (d + 1) mc ms [.ref (a0)] w z (rV Q) X := by
  refine Ct.of hst (by decide) (Nat.le_of_ble_eq_true rfl) (fun C hX hE hg hl hNm => ?_)
  subst hg
  subst hl
  unfold F_X0_init at h
  show VW C 0 [(0, .ref (a0))] [] w z mc ms
  refine vw_aload_n hX 0 dX0_init_0 rfl ?_
  refine vw_objInit hX kw_132 kw_38 kw_39 (Nat.le_of_ble_eq_true rfl) dX0_init_1 ?_
  exact vw_vret hX hE dX0_init_4 ⟨rfl, h⟩
def F_X0_open (a0 : Nat) (a1 : Int32) (a2 : Int32) (a3 : Int32) (a4 : Int32) (w : Mm) (z : Nat) (Q : Mm → Nat → Prop) : Prop :=
  ∃ f1, obj w a0 4 = some f1 ∧ 0 < f1.length ∧ ∀ w2, w2 = mset w a0 (.inl (4, f1.set 0 (.int (a1)))) → ∃ f3, obj w2 a0 4 = some f3 ∧ 1 < f3.length ∧ ∀ w4, w4 = mset w2 a0 (.inl (4, f3.set 1 (.int (a2)))) → ∃ f5, obj w4 a0 4 = some f5 ∧ 2 < f5.length ∧ ∀ w6, w6 = mset w4 a0 (.inl (4, f5.set 2 (.int (a3)))) → ∃ f7, obj w6 a0 4 = some f7 ∧ 3 < f7.length ∧ ∀ w8, w8 = mset w6 a0 (.inl (4, f7.set 3 (.int (a4)))) → ∃ f9, obj w8 a0 4 = some f9 ∧ 4 < f9.length ∧ ∀ w10, w10 = mset w8 a0 (.inl (4, f9.set 4 (.int (0)))) → ∃ f11, obj w10 a0 4 = some f11 ∧ 5 < f11.length ∧ ∀ w12, w12 = mset w10 a0 (.inl (4, f11.set 5 (.int (6000)))) → ∃ f13, obj w12 a0 4 = some f13 ∧ 6 < f13.length ∧ ∀ w14, w14 = mset w12 a0 (.inl (4, f13.set 6 (.int ((-1))))) → Q w14 z
set_option maxRecDepth 100000 in
set_option maxHeartbeats 4000000 in
theorem ct_X0_open {l : Launch} {g : Gp} {d : Nat} (hst : l.stackTraces = false) {a0 : Nat} {a1 : Int32} {a2 : Int32} {a3 : Int32} {a4 : Int32} {w : Mm} {z mc ms : Nat} {Q : Mm → Nat → Prop} {X : String → Mm → Nat → Prop} (h : F_X0_open a0 a1 a2 a3 a4 w z Q) : Ct l g yX0_open (.code yX0_open cX0_open 5 none) (d + 0) mc ms [.ref (a0), .int (a1), .int (a2), .int (a3), .int (a4)] w z (rV Q) X := by
  refine Ct.of hst (by decide) (Nat.le_of_ble_eq_true rfl) (fun C hX hE hg hl hNm => ?_)
  subst hg
  subst hl
  unfold F_X0_open at h
  show VW C 0 [(0, .ref (a0)), (1, .int (a1)), (2, .int (a2)), (3, .int (a3)), (4, .int (a4))] [] w z mc ms
  refine vw_aload_n hX 0 dX0_open_0 rfl ?_
  refine vw_iload_n hX 1 dX0_open_1 rfl ?_
  obtain ⟨f1, hf1, hlf1, h⟩ := h
  refine p_X0_9 hX hf1 hlf1 dX0_open_2 ?_
  refine vw_nmW (fun w2 ew2 => ?_)
  have h := h w2 ew2
  refine vw_aload_n hX 0 dX0_open_5 rfl ?_
  refine vw_iload_n hX 2 dX0_open_6 rfl ?_
  obtain ⟨f3, hf3, hlf3, h⟩ := h
  refine p_X0_15 hX hf3 hlf3 dX0_open_7 ?_
  refine vw_nmW (fun w4 ew4 => ?_)
  have h := h w4 ew4
  refine vw_aload_n hX 0 dX0_open_10 rfl ?_
  refine vw_iload_n hX 3 dX0_open_11 rfl ?_
  obtain ⟨f5, hf5, hlf5, h⟩ := h
  refine p_X0_18 hX hf5 hlf5 dX0_open_12 ?_
  refine vw_nmW (fun w6 ew6 => ?_)
  have h := h w6 ew6
  refine vw_aload_n hX 0 dX0_open_15 rfl ?_
  refine vw_iload hX 4 dX0_open_16 rfl ?_
  obtain ⟨f7, hf7, hlf7, h⟩ := h
  refine p_X0_21 hX hf7 hlf7 dX0_open_18 ?_
  refine vw_nmW (fun w8 ew8 => ?_)
  have h := h w8 ew8
  refine vw_aload_n hX 0 dX0_open_21 rfl ?_
  refine vw_iconst hX (v := 0) dX0_open_22 (by decide) ?_
  obtain ⟨f9, hf9, hlf9, h⟩ := h
  refine p_X0_24 hX hf9 hlf9 dX0_open_23 ?_
  refine vw_nmW (fun w10 ew10 => ?_)
  have h := h w10 ew10
  refine vw_aload_n hX 0 dX0_open_26 rfl ?_
  refine vw_sipush hX (v := 6000) dX0_open_27 (by decide) ?_
  obtain ⟨f11, hf11, hlf11, h⟩ := h
  refine p_X0_27 hX hf11 hlf11 dX0_open_30 ?_
  refine vw_nmW (fun w12 ew12 => ?_)
  have h := h w12 ew12
  refine vw_aload_n hX 0 dX0_open_33 rfl ?_
  refine vw_iconst hX (v := (-1)) dX0_open_34 (by decide) ?_
  obtain ⟨f13, hf13, hlf13, h⟩ := h
  refine p_X0_30 hX hf13 hlf13 dX0_open_35 ?_
  refine vw_nmW (fun w14 ew14 => ?_)
  have h := h w14 ew14
  exact vw_vret hX hE dX0_open_38 ⟨rfl, h⟩
def F_X0_overdueAt (a0 : Nat) (a1 : Int32) (w : Mm) (z : Nat) (Q : Int32 → Mm → Nat → Prop) : Prop :=
  ∃ v1, fld w a0 4 4 = some (.int (v1)) ∧ (v1 = 4 → Q 0 w z) ∧
  (¬ v1 = 4 → ∃ v3, fld w a0 4 2 = some (.int (v3)) ∧ (a1 ≤ ((v3 + 20160)) → Q 0 w z) ∧
  (¬ a1 ≤ ((v3 + 20160)) → Q 1 w z))
set_option maxRecDepth 100000 in
set_option maxHeartbeats 4000000 in
theorem ct_X0_overdueAt {l : Launch} {g : Gp} {d : Nat} (hst : l.stackTraces = false) {a0 : Nat} {a1 : Int32} {w : Mm} {z mc ms : Nat} {Q : Int32 → Mm → Nat → Prop} {X : String → Mm → Nat → Prop} (h : F_X0_overdueAt a0 a1 w z Q) : Ct l g yX0_overdueAt (.code yX0_overdueAt cX0_overdueAt 2 (some .boolean)) (d + 0) mc ms [.ref (a0), .int (a1)] w z (rI Q) X := by
  refine Ct.of hst (by decide) (Nat.le_of_ble_eq_true rfl) (fun C hX hE hg hl hNm => ?_)
  subst hg
  subst hl
  unfold F_X0_overdueAt at h
  show VW C 0 [(0, .ref (a0)), (1, .int (a1))] [] w z mc ms
  refine vw_aload_n hX 0 dX0_overdueAt_0 rfl ?_
  obtain ⟨v1, hv1, h⟩ := h
  refine g_X0_24 hX hv1 dX0_overdueAt_1 ?_
  refine vw_iconst hX (v := 4) dX0_overdueAt_4 (by decide) ?_
  refine vw_icmp_eq hX (tgt := 24) dX0_overdueAt_5 (by decide) (fun c2 => ?_) (fun c2 => ?_)
  · have h := h.1 c2
    refine vw_iconst hX (v := 0) dX0_overdueAt_24 (by decide) ?_
    exact vw_zret hX hE dX0_overdueAt_25 rfl ⟨_, rfl, h⟩
  · have h := h.2 c2
    refine vw_iload_n hX 1 dX0_overdueAt_8 rfl ?_
    refine vw_aload_n hX 0 dX0_overdueAt_9 rfl ?_
    obtain ⟨v3, hv3, h⟩ := h
    refine g_X0_18 hX hv3 dX0_overdueAt_10 ?_
    refine vw_sipush hX (v := 20160) dX0_overdueAt_13 (by decide) ?_
    refine vw_iadd hX dX0_overdueAt_16 ?_
    refine vw_icmp_le hX (tgt := 24) dX0_overdueAt_17 (by decide) (fun c4 => ?_) (fun c4 => ?_)
    · have h := h.1 c4
      refine vw_iconst hX (v := 0) dX0_overdueAt_24 (by decide) ?_
      exact vw_zret hX hE dX0_overdueAt_25 rfl ⟨_, rfl, h⟩
    · have h := h.2 c4
      refine vw_iconst hX (v := 1) dX0_overdueAt_20 (by decide) ?_
      refine vw_goto hX (tgt := 25) dX0_overdueAt_21 (by decide) ?_
      exact vw_zret hX hE dX0_overdueAt_25 rfl ⟨_, rfl, h⟩
def F_X0_costAt (a0 : Nat) (a1 : Int32) (w : Mm) (z : Nat) (Q : Int32 → Mm → Nat → Prop) : Prop :=
  ∃ v1, fld w a0 4 4 = some (.int (v1)) ∧ (¬ v1 = 4 → isO w a0 4 ∧ F_X0_overdueAt a0 a1 w z (fun r4 w5 z6 => (r4 = 0 → ∃ v8, fld w5 a0 4 5 = some (.int (v8)) ∧ Q v8 w5 z6) ∧
  (¬ r4 = 0 → ∃ v9, fld w5 a0 4 5 = some (.int (v9)) ∧ Q ((v9 + 1500)) w5 z6))) ∧
  (v1 = 4 → Q 0 w z)
set_option maxRecDepth 100000 in
set_option maxHeartbeats 4000000 in
theorem ct_X0_costAt {l : Launch} {g : Gp} {d : Nat} (hst : l.stackTraces = false) {a0 : Nat} {a1 : Int32} {w : Mm} {z mc ms : Nat} {Q : Int32 → Mm → Nat → Prop} {X : String → Mm → Nat → Prop} (h : F_X0_costAt a0 a1 w z Q) : Ct l g yX0_costAt (.code yX0_costAt cX0_costAt 2 (some .int)) (d + 1) mc ms [.ref (a0), .int (a1)] w z (rI Q) X := by
  refine Ct.of hst (by decide) (Nat.le_of_ble_eq_true rfl) (fun C hX hE hg hl hNm => ?_)
  subst hg
  subst hl
  unfold F_X0_costAt at h
  show VW C 0 [(0, .ref (a0)), (1, .int (a1))] [] w z mc ms
  refine vw_aload_n hX 0 dX0_costAt_0 rfl ?_
  obtain ⟨v1, hv1, h⟩ := h
  refine g_X0_24 hX hv1 dX0_costAt_1 ?_
  refine vw_iconst hX (v := 4) dX0_costAt_4 (by decide) ?_
  refine vw_icmp_ne hX (tgt := 10) dX0_costAt_5 (by decide) (fun c2 => ?_) (fun c2 => ?_)
  · have h := h.1 c2
    refine vw_aload_n hX 0 dX0_costAt_10 rfl ?_
    refine vw_iload_n hX 1 dX0_costAt_11 rfl ?_
    obtain ⟨hr3, h⟩ := h
    refine s_X0_33 hX hr3 dX0_costAt_12 (Nat.le_of_ble_eq_true rfl) (ct_X0_overdueAt (d := d + 0) (lst hX) h) (fun r4 w5 z6 h => ?_)
    refine vw_if_eq hX (tgt := 29) dX0_costAt_15 (by decide) (fun c7 => ?_) (fun c7 => ?_)
    · have h := h.1 c7
      refine vw_aload_n hX 0 dX0_costAt_29 rfl ?_
      obtain ⟨v8, hv8, h⟩ := h
      refine g_X0_27 hX hv8 dX0_costAt_30 ?_
      exact vw_iret hX hE dX0_costAt_33 ⟨_, rfl, h⟩
    · have h := h.2 c7
      refine vw_aload_n hX 0 dX0_costAt_18 rfl ?_
      obtain ⟨v9, hv9, h⟩ := h
      refine g_X0_27 hX hv9 dX0_costAt_19 ?_
      refine vw_sipush hX (v := 1500) dX0_costAt_22 (by decide) ?_
      refine vw_iadd hX dX0_costAt_25 ?_
      refine vw_goto hX (tgt := 33) dX0_costAt_26 (by decide) ?_
      exact vw_iret hX hE dX0_costAt_33 ⟨_, rfl, h⟩
  · have h := h.2 c2
    refine vw_iconst hX (v := 0) dX0_costAt_8 (by decide) ?_
    exact vw_iret hX hE dX0_costAt_9 ⟨_, rfl, h⟩
def F_X4_isStamped (a0 : Nat) (w : Mm) (z : Nat) (Q : Int32 → Mm → Nat → Prop) : Prop :=
  ∃ v1, fld w a0 8 3 = some (.int (v1)) ∧ (v1 = (-1) → Q 0 w z) ∧
  (¬ v1 = (-1) → Q 1 w z)
set_option maxRecDepth 100000 in
set_option maxHeartbeats 4000000 in
theorem ct_X4_isStamped {l : Launch} {g : Gp} {d : Nat} (hst : l.stackTraces = false) {a0 : Nat} {w : Mm} {z mc ms : Nat} {Q : Int32 → Mm → Nat → Prop} {X : String → Mm → Nat → Prop} (h : F_X4_isStamped a0 w z Q) : Ct l g yX4_isStamped (.code yX4_isStamped cX4_isStamped 1 (some .boolean)) (d + 0) mc ms [.ref (a0)] w z (rI Q) X := by
  refine Ct.of hst (by decide) (Nat.le_of_ble_eq_true rfl) (fun C hX hE hg hl hNm => ?_)
  subst hg
  subst hl
  unfold F_X4_isStamped at h
  show VW C 0 [(0, .ref (a0))] [] w z mc ms
  refine vw_aload_n hX 0 dX4_isStamped_0 rfl ?_
  obtain ⟨v1, hv1, h⟩ := h
  refine g_X4_21 hX hv1 dX4_isStamped_1 ?_
  refine vw_iconst hX (v := (-1)) dX4_isStamped_4 (by decide) ?_
  refine vw_icmp_eq hX (tgt := 12) dX4_isStamped_5 (by decide) (fun c2 => ?_) (fun c2 => ?_)
  · have h := h.1 c2
    refine vw_iconst hX (v := 0) dX4_isStamped_12 (by decide) ?_
    exact vw_zret hX hE dX4_isStamped_13 rfl ⟨_, rfl, h⟩
  · have h := h.2 c2
    refine vw_iconst hX (v := 1) dX4_isStamped_8 (by decide) ?_
    refine vw_goto hX (tgt := 13) dX4_isStamped_9 (by decide) ?_
    exact vw_zret hX hE dX4_isStamped_13 rfl ⟨_, rfl, h⟩
def F_X5_dayOf (a0 : Int32) (w : Mm) (z : Nat) (Q : Int32 → Mm → Nat → Prop) : Prop :=
  Q ((a0 / 1440)) w z
set_option maxRecDepth 100000 in
set_option maxHeartbeats 4000000 in
theorem ct_X5_dayOf {l : Launch} {g : Gp} {d : Nat} (hst : l.stackTraces = false) {a0 : Int32} {w : Mm} {z mc ms : Nat} {Q : Int32 → Mm → Nat → Prop} {X : String → Mm → Nat → Prop} (h : F_X5_dayOf a0 w z Q) : Ct l g yX5_dayOf (.code yX5_dayOf cX5_dayOf 1 (some .int)) (d + 0) mc ms [.int (a0)] w z (rI Q) X := by
  refine Ct.of hst (by decide) (Nat.le_of_ble_eq_true rfl) (fun C hX hE hg hl hNm => ?_)
  subst hg
  subst hl
  unfold F_X5_dayOf at h
  show VW C 0 [(0, .int (a0))] [] w z mc ms
  refine vw_iload_n hX 0 dX5_dayOf_0 rfl ?_
  refine vw_sipush hX (v := 1440) dX5_dayOf_1 (by decide) ?_
  refine vw_idiv hX dX5_dayOf_4 (by decide) ?_
  exact vw_iret hX hE dX5_dayOf_5 ⟨_, rfl, h⟩
def F_X4_hasZones (a0 : Nat) (a1 : Int32) (w : Mm) (z : Nat) (Q : Int32 → Mm → Nat → Prop) : Prop :=
  ∃ v1, fld w a0 8 2 = some (.int (v1)) ∧ (¬ ((a1 &&& ((v1 ^^^ (-1))))) = 0 → Q 0 w z) ∧
  (((a1 &&& ((v1 ^^^ (-1))))) = 0 → Q 1 w z)
set_option maxRecDepth 100000 in
set_option maxHeartbeats 4000000 in
theorem ct_X4_hasZones {l : Launch} {g : Gp} {d : Nat} (hst : l.stackTraces = false) {a0 : Nat} {a1 : Int32} {w : Mm} {z mc ms : Nat} {Q : Int32 → Mm → Nat → Prop} {X : String → Mm → Nat → Prop} (h : F_X4_hasZones a0 a1 w z Q) : Ct l g yX4_hasZones (.code yX4_hasZones cX4_hasZones 2 (some .boolean)) (d + 0) mc ms [.ref (a0), .int (a1)] w z (rI Q) X := by
  refine Ct.of hst (by decide) (Nat.le_of_ble_eq_true rfl) (fun C hX hE hg hl hNm => ?_)
  subst hg
  subst hl
  unfold F_X4_hasZones at h
  show VW C 0 [(0, .ref (a0)), (1, .int (a1))] [] w z mc ms
  refine vw_iload_n hX 1 dX4_hasZones_0 rfl ?_
  refine vw_aload_n hX 0 dX4_hasZones_1 rfl ?_
  obtain ⟨v1, hv1, h⟩ := h
  refine g_X4_18 hX hv1 dX4_hasZones_2 ?_
  refine vw_iconst hX (v := (-1)) dX4_hasZones_5 (by decide) ?_
  refine vw_ixor hX dX4_hasZones_6 ?_
  refine vw_iand hX dX4_hasZones_7 ?_
  refine vw_if_ne hX (tgt := 15) dX4_hasZones_8 (by decide) (fun c2 => ?_) (fun c2 => ?_)
  · have h := h.1 c2
    refine vw_iconst hX (v := 0) dX4_hasZones_15 (by decide) ?_
    exact vw_zret hX hE dX4_hasZones_16 rfl ⟨_, rfl, h⟩
  · have h := h.2 c2
    refine vw_iconst hX (v := 1) dX4_hasZones_11 (by decide) ?_
    refine vw_goto hX (tgt := 16) dX4_hasZones_12 (by decide) ?_
    exact vw_zret hX hE dX4_hasZones_16 rfl ⟨_, rfl, h⟩
def F_X0_isExcusedBy (a0 : Nat) (a1 : Nat) (w : Mm) (z : Nat) (Q : Int32 → Mm → Nat → Prop) : Prop :=
  ∃ v1, fld w a1 8 0 = some (.int (v1)) ∧ ∃ v2, fld w a0 4 0 = some (.int (v2)) ∧ (¬ v1 = v2 → Q 0 w z) ∧
  (v1 = v2 → ∃ v4, fld w a1 8 1 = some (.int (v4)) ∧ (¬ v4 = 1 → Q 0 w z) ∧
  (v4 = 1 → isO w a1 8 ∧ F_X4_isStamped a1 w z (fun r7 w8 z9 => (r7 = 0 → Q 0 w8 z9) ∧
  (¬ r7 = 0 → ∃ v11, fld w8 a1 8 3 = some (.int (v11)) ∧ ∃ v12, fld w8 a0 4 2 = some (.int (v12)) ∧ (v12 < v11 → Q 0 w8 z9) ∧
  (¬ v12 < v11 → ∃ v14, fld w8 a1 8 3 = some (.int (v14)) ∧ F_X5_dayOf v14 w8 z9 (fun r15 w16 z17 => ∃ v18, fld w16 a0 4 2 = some (.int (v18)) ∧ F_X5_dayOf v18 w16 z17 (fun r19 w20 z21 => (¬ r15 = r19 → Q 0 w20 z21) ∧
  (r15 = r19 → ∃ v23, fld w20 a0 4 3 = some (.int (v23)) ∧ isO w20 a1 8 ∧ F_X4_hasZones a1 v23 w20 z21 (fun r25 w26 z27 => (r25 = 0 → Q 0 w26 z27) ∧
  (¬ r25 = 0 → Q 1 w26 z27))))))))))
set_option maxRecDepth 100000 in
set_option maxHeartbeats 4000000 in
theorem ct_X0_isExcusedBy {l : Launch} {g : Gp} {d : Nat} (hst : l.stackTraces = false) {a0 : Nat} {a1 : Nat} {w : Mm} {z mc ms : Nat} {Q : Int32 → Mm → Nat → Prop} {X : String → Mm → Nat → Prop} (h : F_X0_isExcusedBy a0 a1 w z Q) : Ct l g yX0_isExcusedBy (.code yX0_isExcusedBy cX0_isExcusedBy 2 (some .boolean)) (d + 1) mc ms [.ref (a0), .ref (a1)] w z (rI Q) X := by
  refine Ct.of hst (by decide) (Nat.le_of_ble_eq_true rfl) (fun C hX hE hg hl hNm => ?_)
  subst hg
  subst hl
  unfold F_X0_isExcusedBy at h
  show VW C 0 [(0, .ref (a0)), (1, .ref (a1))] [] w z mc ms
  refine vw_aload_n hX 1 dX0_isExcusedBy_0 rfl ?_
  obtain ⟨v1, hv1, h⟩ := h
  refine g_X0_37 hX hv1 dX0_isExcusedBy_1 ?_
  refine vw_aload_n hX 0 dX0_isExcusedBy_4 rfl ?_
  obtain ⟨v2, hv2, h⟩ := h
  refine g_X0_9 hX hv2 dX0_isExcusedBy_5 ?_
  refine vw_icmp_ne hX (tgt := 69) dX0_isExcusedBy_8 (by decide) (fun c3 => ?_) (fun c3 => ?_)
  · have h := h.1 c3
    refine vw_iconst hX (v := 0) dX0_isExcusedBy_69 (by decide) ?_
    exact vw_zret hX hE dX0_isExcusedBy_70 rfl ⟨_, rfl, h⟩
  · have h := h.2 c3
    refine vw_aload_n hX 1 dX0_isExcusedBy_11 rfl ?_
    obtain ⟨v4, hv4, h⟩ := h
    refine g_X0_42 hX hv4 dX0_isExcusedBy_12 ?_
    refine vw_iconst hX (v := 1) dX0_isExcusedBy_15 (by decide) ?_
    refine vw_icmp_ne hX (tgt := 69) dX0_isExcusedBy_16 (by decide) (fun c5 => ?_) (fun c5 => ?_)
    · have h := h.1 c5
      refine vw_iconst hX (v := 0) dX0_isExcusedBy_69 (by decide) ?_
      exact vw_zret hX hE dX0_isExcusedBy_70 rfl ⟨_, rfl, h⟩
    · have h := h.2 c5
      refine vw_aload_n hX 1 dX0_isExcusedBy_19 rfl ?_
      obtain ⟨hr6, h⟩ := h
      refine s_X0_45 hX hr6 dX0_isExcusedBy_20 (Nat.le_of_ble_eq_true rfl) (ct_X4_isStamped (d := d + 0) (lst hX) h) (fun r7 w8 z9 h => ?_)
      refine vw_if_eq hX (tgt := 69) dX0_isExcusedBy_23 (by decide) (fun c10 => ?_) (fun c10 => ?_)
      · have h := h.1 c10
        refine vw_iconst hX (v := 0) dX0_isExcusedBy_69 (by decide) ?_
        exact vw_zret hX hE dX0_isExcusedBy_70 rfl ⟨_, rfl, h⟩
      · have h := h.2 c10
        refine vw_aload_n hX 1 dX0_isExcusedBy_26 rfl ?_
        obtain ⟨v11, hv11, h⟩ := h
        refine g_X0_49 hX hv11 dX0_isExcusedBy_27 ?_
        refine vw_aload_n hX 0 dX0_isExcusedBy_30 rfl ?_
        obtain ⟨v12, hv12, h⟩ := h
        refine g_X0_18 hX hv12 dX0_isExcusedBy_31 ?_
        refine vw_icmp_gt hX (tgt := 69) dX0_isExcusedBy_34 (by decide) (fun c13 => ?_) (fun c13 => ?_)
        · have h := h.1 c13
          refine vw_iconst hX (v := 0) dX0_isExcusedBy_69 (by decide) ?_
          exact vw_zret hX hE dX0_isExcusedBy_70 rfl ⟨_, rfl, h⟩
        · have h := h.2 c13
          refine vw_aload_n hX 1 dX0_isExcusedBy_37 rfl ?_
          obtain ⟨v14, hv14, h⟩ := h
          refine g_X0_49 hX hv14 dX0_isExcusedBy_38 ?_
          refine s_X0_52 hX dX0_isExcusedBy_41 (Nat.le_of_ble_eq_true rfl) (ct_X5_dayOf (d := d + 0) (lst hX) h) (fun r15 w16 z17 h => ?_)
          refine vw_aload_n hX 0 dX0_isExcusedBy_44 rfl ?_
          obtain ⟨v18, hv18, h⟩ := h
          refine g_X0_18 hX hv18 dX0_isExcusedBy_45 ?_
          refine s_X0_52 hX dX0_isExcusedBy_48 (Nat.le_of_ble_eq_true rfl) (ct_X5_dayOf (d := d + 0) (lst hX) h) (fun r19 w20 z21 h => ?_)
          refine vw_icmp_ne hX (tgt := 69) dX0_isExcusedBy_51 (by decide) (fun c22 => ?_) (fun c22 => ?_)
          · have h := h.1 c22
            refine vw_iconst hX (v := 0) dX0_isExcusedBy_69 (by decide) ?_
            exact vw_zret hX hE dX0_isExcusedBy_70 rfl ⟨_, rfl, h⟩
          · have h := h.2 c22
            refine vw_aload_n hX 1 dX0_isExcusedBy_54 rfl ?_
            refine vw_aload_n hX 0 dX0_isExcusedBy_55 rfl ?_
            obtain ⟨v23, hv23, h⟩ := h
            refine g_X0_21 hX hv23 dX0_isExcusedBy_56 ?_
            obtain ⟨hr24, h⟩ := h
            refine s_X0_56 hX hr24 dX0_isExcusedBy_59 (Nat.le_of_ble_eq_true rfl) (ct_X4_hasZones (d := d + 0) (lst hX) h) (fun r25 w26 z27 h => ?_)
            refine vw_if_eq hX (tgt := 69) dX0_isExcusedBy_62 (by decide) (fun c28 => ?_) (fun c28 => ?_)
            · have h := h.1 c28
              refine vw_iconst hX (v := 0) dX0_isExcusedBy_69 (by decide) ?_
              exact vw_zret hX hE dX0_isExcusedBy_70 rfl ⟨_, rfl, h⟩
            · have h := h.2 c28
              refine vw_iconst hX (v := 1) dX0_isExcusedBy_65 (by decide) ?_
              refine vw_goto hX (tgt := 70) dX0_isExcusedBy_66 (by decide) ?_
              exact vw_zret hX hE dX0_isExcusedBy_70 rfl ⟨_, rfl, h⟩
def F_X0_copyFrom (a0 : Nat) (a1 : Nat) (w : Mm) (z : Nat) (Q : Mm → Nat → Prop) : Prop :=
  ∃ v1, fld w a1 4 0 = some (.int (v1)) ∧ ∃ f2, obj w a0 4 = some f2 ∧ 0 < f2.length ∧ ∀ w3, w3 = mset w a0 (.inl (4, f2.set 0 (.int (v1)))) → ∃ v4, fld w3 a1 4 1 = some (.int (v4)) ∧ ∃ f5, obj w3 a0 4 = some f5 ∧ 1 < f5.length ∧ ∀ w6, w6 = mset w3 a0 (.inl (4, f5.set 1 (.int (v4)))) → ∃ v7, fld w6 a1 4 2 = some (.int (v7)) ∧ ∃ f8, obj w6 a0 4 = some f8 ∧ 2 < f8.length ∧ ∀ w9, w9 = mset w6 a0 (.inl (4, f8.set 2 (.int (v7)))) → ∃ v10, fld w9 a1 4 3 = some (.int (v10)) ∧ ∃ f11, obj w9 a0 4 = some f11 ∧ 3 < f11.length ∧ ∀ w12, w12 = mset w9 a0 (.inl (4, f11.set 3 (.int (v10)))) → ∃ v13, fld w12 a1 4 4 = some (.int (v13)) ∧ ∃ f14, obj w12 a0 4 = some f14 ∧ 4 < f14.length ∧ ∀ w15, w15 = mset w12 a0 (.inl (4, f14.set 4 (.int (v13)))) → ∃ v16, fld w15 a1 4 5 = some (.int (v16)) ∧ ∃ f17, obj w15 a0 4 = some f17 ∧ 5 < f17.length ∧ ∀ w18, w18 = mset w15 a0 (.inl (4, f17.set 5 (.int (v16)))) → ∃ v19, fld w18 a1 4 6 = some (.int (v19)) ∧ ∃ f20, obj w18 a0 4 = some f20 ∧ 6 < f20.length ∧ ∀ w21, w21 = mset w18 a0 (.inl (4, f20.set 6 (.int (v19)))) → Q w21 z
set_option maxRecDepth 100000 in
set_option maxHeartbeats 4000000 in
theorem ct_X0_copyFrom {l : Launch} {g : Gp} {d : Nat} (hst : l.stackTraces = false) {a0 : Nat} {a1 : Nat} {w : Mm} {z mc ms : Nat} {Q : Mm → Nat → Prop} {X : String → Mm → Nat → Prop} (h : F_X0_copyFrom a0 a1 w z Q) : Ct l g yX0_copyFrom (.code yX0_copyFrom cX0_copyFrom 2 none) (d + 0) mc ms [.ref (a0), .ref (a1)] w z (rV Q) X := by
  refine Ct.of hst (by decide) (Nat.le_of_ble_eq_true rfl) (fun C hX hE hg hl hNm => ?_)
  subst hg
  subst hl
  unfold F_X0_copyFrom at h
  show VW C 0 [(0, .ref (a0)), (1, .ref (a1))] [] w z mc ms
  refine vw_aload_n hX 0 dX0_copyFrom_0 rfl ?_
  refine vw_aload_n hX 1 dX0_copyFrom_1 rfl ?_
  obtain ⟨v1, hv1, h⟩ := h
  refine g_X0_9 hX hv1 dX0_copyFrom_2 ?_
  obtain ⟨f2, hf2, hlf2, h⟩ := h
  refine p_X0_9 hX hf2 hlf2 dX0_copyFrom_5 ?_
  refine vw_nmW (fun w3 ew3 => ?_)
  have h := h w3 ew3
  refine vw_aload_n hX 0 dX0_copyFrom_8 rfl ?_
  refine vw_aload_n hX 1 dX0_copyFrom_9 rfl ?_
  obtain ⟨v4, hv4, h⟩ := h
  refine g_X0_15 hX hv4 dX0_copyFrom_10 ?_
  obtain ⟨f5, hf5, hlf5, h⟩ := h
  refine p_X0_15 hX hf5 hlf5 dX0_copyFrom_13 ?_
  refine vw_nmW (fun w6 ew6 => ?_)
  have h := h w6 ew6
  refine vw_aload_n hX 0 dX0_copyFrom_16 rfl ?_
  refine vw_aload_n hX 1 dX0_copyFrom_17 rfl ?_
  obtain ⟨v7, hv7, h⟩ := h
  refine g_X0_18 hX hv7 dX0_copyFrom_18 ?_
  obtain ⟨f8, hf8, hlf8, h⟩ := h
  refine p_X0_18 hX hf8 hlf8 dX0_copyFrom_21 ?_
  refine vw_nmW (fun w9 ew9 => ?_)
  have h := h w9 ew9
  refine vw_aload_n hX 0 dX0_copyFrom_24 rfl ?_
  refine vw_aload_n hX 1 dX0_copyFrom_25 rfl ?_
  obtain ⟨v10, hv10, h⟩ := h
  refine g_X0_21 hX hv10 dX0_copyFrom_26 ?_
  obtain ⟨f11, hf11, hlf11, h⟩ := h
  refine p_X0_21 hX hf11 hlf11 dX0_copyFrom_29 ?_
  refine vw_nmW (fun w12 ew12 => ?_)
  have h := h w12 ew12
  refine vw_aload_n hX 0 dX0_copyFrom_32 rfl ?_
  refine vw_aload_n hX 1 dX0_copyFrom_33 rfl ?_
  obtain ⟨v13, hv13, h⟩ := h
  refine g_X0_24 hX hv13 dX0_copyFrom_34 ?_
  obtain ⟨f14, hf14, hlf14, h⟩ := h
  refine p_X0_24 hX hf14 hlf14 dX0_copyFrom_37 ?_
  refine vw_nmW (fun w15 ew15 => ?_)
  have h := h w15 ew15
  refine vw_aload_n hX 0 dX0_copyFrom_40 rfl ?_
  refine vw_aload_n hX 1 dX0_copyFrom_41 rfl ?_
  obtain ⟨v16, hv16, h⟩ := h
  refine g_X0_27 hX hv16 dX0_copyFrom_42 ?_
  obtain ⟨f17, hf17, hlf17, h⟩ := h
  refine p_X0_27 hX hf17 hlf17 dX0_copyFrom_45 ?_
  refine vw_nmW (fun w18 ew18 => ?_)
  have h := h w18 ew18
  refine vw_aload_n hX 0 dX0_copyFrom_48 rfl ?_
  refine vw_aload_n hX 1 dX0_copyFrom_49 rfl ?_
  obtain ⟨v19, hv19, h⟩ := h
  refine g_X0_30 hX hv19 dX0_copyFrom_50 ?_
  obtain ⟨f20, hf20, hlf20, h⟩ := h
  refine p_X0_30 hX hf20 hlf20 dX0_copyFrom_53 ?_
  refine vw_nmW (fun w21 ew21 => ?_)
  have h := h w21 ew21
  exact vw_vret hX hE dX0_copyFrom_56 ⟨rfl, h⟩
def F_X2_takeRide (a0 : Nat) (a1 : Int32) (a2 : Int32) (a3 : Int32) (a4 : Int32) (w : Mm) (z : Nat) (Q : Mm → Nat → Prop) : Prop :=
  ∃ f1, obj w a0 6 = some f1 ∧ 2 < f1.length ∧ ∀ w2, w2 = mset w a0 (.inl (6, f1.set 2 (.int (a1)))) → ∃ f3, obj w2 a0 6 = some f3 ∧ 3 < f3.length ∧ ∀ w4, w4 = mset w2 a0 (.inl (6, f3.set 3 (.int (a2)))) → ∃ f5, obj w4 a0 6 = some f5 ∧ 4 < f5.length ∧ ∀ w6, w6 = mset w4 a0 (.inl (6, f5.set 4 (.int (a3)))) → ∃ f7, obj w6 a0 6 = some f7 ∧ 5 < f7.length ∧ ∀ w8, w8 = mset w6 a0 (.inl (6, f7.set 5 (.int (a4)))) → ∃ f9, obj w8 a0 6 = some f9 ∧ 6 < f9.length ∧ ∀ w10, w10 = mset w8 a0 (.inl (6, f9.set 6 (.int (0)))) → Q w10 z
set_option maxRecDepth 100000 in
set_option maxHeartbeats 4000000 in
theorem ct_X2_takeRide {l : Launch} {g : Gp} {d : Nat} (hst : l.stackTraces = false) {a0 : Nat} {a1 : Int32} {a2 : Int32} {a3 : Int32} {a4 : Int32} {w : Mm} {z mc ms : Nat} {Q : Mm → Nat → Prop} {X : String → Mm → Nat → Prop} (h : F_X2_takeRide a0 a1 a2 a3 a4 w z Q) : Ct l g yX2_takeRide (.code yX2_takeRide cX2_takeRide 5 none) (d + 0) mc ms [.ref (a0), .int (a1), .int (a2), .int (a3), .int (a4)] w z (rV Q) X := by
  refine Ct.of hst (by decide) (Nat.le_of_ble_eq_true rfl) (fun C hX hE hg hl hNm => ?_)
  subst hg
  subst hl
  unfold F_X2_takeRide at h
  show VW C 0 [(0, .ref (a0)), (1, .int (a1)), (2, .int (a2)), (3, .int (a3)), (4, .int (a4))] [] w z mc ms
  refine vw_aload_n hX 0 dX2_takeRide_0 rfl ?_
  refine vw_iload_n hX 1 dX2_takeRide_1 rfl ?_
  obtain ⟨f1, hf1, hlf1, h⟩ := h
  refine p_X2_17 hX hf1 hlf1 dX2_takeRide_2 ?_
  refine vw_nmW (fun w2 ew2 => ?_)
  have h := h w2 ew2
  refine vw_aload_n hX 0 dX2_takeRide_5 rfl ?_
  refine vw_iload_n hX 2 dX2_takeRide_6 rfl ?_
  obtain ⟨f3, hf3, hlf3, h⟩ := h
  refine p_X2_21 hX hf3 hlf3 dX2_takeRide_7 ?_
  refine vw_nmW (fun w4 ew4 => ?_)
  have h := h w4 ew4
  refine vw_aload_n hX 0 dX2_takeRide_10 rfl ?_
  refine vw_iload_n hX 3 dX2_takeRide_11 rfl ?_
  obtain ⟨f5, hf5, hlf5, h⟩ := h
  refine p_X2_24 hX hf5 hlf5 dX2_takeRide_12 ?_
  refine vw_nmW (fun w6 ew6 => ?_)
  have h := h w6 ew6
  refine vw_aload_n hX 0 dX2_takeRide_15 rfl ?_
  refine vw_iload hX 4 dX2_takeRide_16 rfl ?_
  obtain ⟨f7, hf7, hlf7, h⟩ := h
  refine p_X2_27 hX hf7 hlf7 dX2_takeRide_18 ?_
  refine vw_nmW (fun w8 ew8 => ?_)
  have h := h w8 ew8
  refine vw_aload_n hX 0 dX2_takeRide_21 rfl ?_
  refine vw_iconst hX (v := 0) dX2_takeRide_22 (by decide) ?_
  obtain ⟨f9, hf9, hlf9, h⟩ := h
  refine p_X2_37 hX hf9 hlf9 rfl rfl dX2_takeRide_23 ?_
  refine vw_nmW (fun w10 ew10 => ?_)
  have h := h w10 ew10
  exact vw_vret hX hE dX2_takeRide_26 ⟨rfl, h⟩
def F_X2_enter (a0 : Nat) (a1 : Nat) (a2 : Int32) (w : Mm) (z : Nat) (Q : Mm → Nat → Prop) : Prop :=
  ∃ f1, obj w a0 6 = some f1 ∧ 0 < f1.length ∧ ∀ w2, w2 = mset w a0 (.inl (6, f1.set 0 (.ref (a1)))) → ∃ f3, obj w2 a0 6 = some f3 ∧ 1 < f3.length ∧ ∀ w4, w4 = mset w2 a0 (.inl (6, f3.set 1 (.int (a2)))) → isO w4 a0 6 ∧ F_X2_takeRide a0 (-1) (-1) (-1) (-1) w4 z (fun w7 z8 => Q w7 z8)
set_option maxRecDepth 100000 in
set_option maxHeartbeats 4000000 in
theorem ct_X2_enter {l : Launch} {g : Gp} {d : Nat} (hst : l.stackTraces = false) {a0 : Nat} {a1 : Nat} {a2 : Int32} {w : Mm} {z mc ms : Nat} {Q : Mm → Nat → Prop} {X : String → Mm → Nat → Prop} (h : F_X2_enter a0 a1 a2 w z Q) : Ct l g yX2_enter (.code yX2_enter cX2_enter 3 none) (d + 1) mc ms [.ref (a0), .ref (a1), .int (a2)] w z (rV Q) X := by
  refine Ct.of hst (by decide) (Nat.le_of_ble_eq_true rfl) (fun C hX hE hg hl hNm => ?_)
  subst hg
  subst hl
  unfold F_X2_enter at h
  show VW C 0 [(0, .ref (a0)), (1, .ref (a1)), (2, .int (a2))] [] w z mc ms
  refine vw_aload_n hX 0 dX2_enter_0 rfl ?_
  refine vw_aload_n hX 1 dX2_enter_1 rfl ?_
  obtain ⟨f1, hf1, hlf1, h⟩ := h
  refine p_X2_11 hX hf1 hlf1 dX2_enter_2 ?_
  refine vw_nmW (fun w2 ew2 => ?_)
  have h := h w2 ew2
  refine vw_aload_n hX 0 dX2_enter_5 rfl ?_
  refine vw_iload_n hX 2 dX2_enter_6 rfl ?_
  obtain ⟨f3, hf3, hlf3, h⟩ := h
  refine p_X2_30 hX hf3 hlf3 dX2_enter_7 ?_
  refine vw_nmW (fun w4 ew4 => ?_)
  have h := h w4 ew4
  refine vw_aload_n hX 0 dX2_enter_10 rfl ?_
  refine vw_iconst hX (v := (-1)) dX2_enter_11 (by decide) ?_
  refine vw_iconst hX (v := (-1)) dX2_enter_12 (by decide) ?_
  refine vw_iconst hX (v := (-1)) dX2_enter_13 (by decide) ?_
  refine vw_iconst hX (v := (-1)) dX2_enter_14 (by decide) ?_
  obtain ⟨hr5, h⟩ := h
  refine s_X2_33 hX hr5 dX2_enter_15 (Nat.le_of_ble_eq_true rfl) (ct_X2_takeRide (d := d + 0) (lst hX) h) (fun w7 z8 h => ?_)
  exact vw_vret hX hE dX2_enter_18 ⟨rfl, h⟩
def F_X5_priceOf (a0 : Int32) (a1 : Int32) (w : Mm) (z : Nat) (Q : Int32 → Mm → Nat → Prop) : Prop :=
  (¬ a0 = 2 → F_J6_bitCount_0f7a4 a1 w z (fun r2 w3 z4 => (¬ a0 = 1 → Q ((r2 * 200)) w3 z4) ∧
  (a0 = 1 → Q ((r2 * 500)) w3 z4))) ∧
  (a0 = 2 → Q 150 w z)
set_option maxRecDepth 100000 in
set_option maxHeartbeats 4000000 in
theorem ct_X5_priceOf {l : Launch} {g : Gp} {d : Nat} (hst : l.stackTraces = false) {a0 : Int32} {a1 : Int32} {w : Mm} {z mc ms : Nat} {Q : Int32 → Mm → Nat → Prop} {X : String → Mm → Nat → Prop} (h : F_X5_priceOf a0 a1 w z Q) : Ct l g yX5_priceOf (.code yX5_priceOf cX5_priceOf 2 (some .int)) (d + 1) mc ms [.int (a0), .int (a1)] w z (rI Q) X := by
  refine Ct.of hst (by decide) (Nat.le_of_ble_eq_true rfl) (fun C hX hE hg hl hNm => ?_)
  subst hg
  subst hl
  unfold F_X5_priceOf at h
  show VW C 0 [(0, .int (a0)), (1, .int (a1))] [] w z mc ms
  refine vw_iload_n hX 0 dX5_priceOf_0 rfl ?_
  refine vw_iconst hX (v := 2) dX5_priceOf_1 (by decide) ?_
  refine vw_icmp_ne hX (tgt := 9) dX5_priceOf_2 (by decide) (fun c1 => ?_) (fun c1 => ?_)
  · have h := h.1 c1
    refine vw_iload_n hX 1 dX5_priceOf_9 rfl ?_
    refine s_X5_380 hX dX5_priceOf_10 (Nat.le_of_ble_eq_true rfl) (ct_J6_bitCount_0f7a4 (d := d + 0) (lst hX) h) (fun r2 w3 z4 h => ?_)
    refine vw_iload_n hX 0 dX5_priceOf_13 rfl ?_
    refine vw_iconst hX (v := 1) dX5_priceOf_14 (by decide) ?_
    refine vw_icmp_ne hX (tgt := 24) dX5_priceOf_15 (by decide) (fun c5 => ?_) (fun c5 => ?_)
    · have h := h.1 c5
      refine vw_sipush hX (v := 200) dX5_priceOf_24 (by decide) ?_
      refine vw_imul hX dX5_priceOf_27 ?_
      exact vw_iret hX hE dX5_priceOf_28 ⟨_, rfl, h⟩
    · have h := h.2 c5
      refine vw_sipush hX (v := 500) dX5_priceOf_18 (by decide) ?_
      refine vw_goto hX (tgt := 27) dX5_priceOf_21 (by decide) ?_
      refine vw_imul hX dX5_priceOf_27 ?_
      exact vw_iret hX hE dX5_priceOf_28 ⟨_, rfl, h⟩
  · have h := h.2 c1
    refine vw_sipush hX (v := 150) dX5_priceOf_5 (by decide) ?_
    exact vw_iret hX hE dX5_priceOf_8 ⟨_, rfl, h⟩
def F_X4_issue (a0 : Nat) (a1 : Int32) (a2 : Int32) (a3 : Int32) (w : Mm) (z : Nat) (Q : Mm → Nat → Prop) : Prop :=
  ∃ f1, obj w a0 8 = some f1 ∧ 0 < f1.length ∧ ∀ w2, w2 = mset w a0 (.inl (8, f1.set 0 (.int (a1)))) → ∃ f3, obj w2 a0 8 = some f3 ∧ 1 < f3.length ∧ ∀ w4, w4 = mset w2 a0 (.inl (8, f3.set 1 (.int (a2)))) → ∃ f5, obj w4 a0 8 = some f5 ∧ 2 < f5.length ∧ ∀ w6, w6 = mset w4 a0 (.inl (8, f5.set 2 (.int (a3)))) → ∃ f7, obj w6 a0 8 = some f7 ∧ 3 < f7.length ∧ ∀ w8, w8 = mset w6 a0 (.inl (8, f7.set 3 (.int ((-1))))) → ∃ f9, obj w8 a0 8 = some f9 ∧ 4 < f9.length ∧ ∀ w10, w10 = mset w8 a0 (.inl (8, f9.set 4 (.int ((-1))))) → ∃ f11, obj w10 a0 8 = some f11 ∧ 5 < f11.length ∧ ∀ w12, w12 = mset w10 a0 (.inl (8, f11.set 5 (.int (0)))) → Q w12 z
set_option maxRecDepth 100000 in
set_option maxHeartbeats 4000000 in
theorem ct_X4_issue {l : Launch} {g : Gp} {d : Nat} (hst : l.stackTraces = false) {a0 : Nat} {a1 : Int32} {a2 : Int32} {a3 : Int32} {w : Mm} {z mc ms : Nat} {Q : Mm → Nat → Prop} {X : String → Mm → Nat → Prop} (h : F_X4_issue a0 a1 a2 a3 w z Q) : Ct l g yX4_issue (.code yX4_issue cX4_issue 4 none) (d + 0) mc ms [.ref (a0), .int (a1), .int (a2), .int (a3)] w z (rV Q) X := by
  refine Ct.of hst (by decide) (Nat.le_of_ble_eq_true rfl) (fun C hX hE hg hl hNm => ?_)
  subst hg
  subst hl
  unfold F_X4_issue at h
  show VW C 0 [(0, .ref (a0)), (1, .int (a1)), (2, .int (a2)), (3, .int (a3))] [] w z mc ms
  refine vw_aload_n hX 0 dX4_issue_0 rfl ?_
  refine vw_iload_n hX 1 dX4_issue_1 rfl ?_
  obtain ⟨f1, hf1, hlf1, h⟩ := h
  refine p_X4_9 hX hf1 hlf1 dX4_issue_2 ?_
  refine vw_nmW (fun w2 ew2 => ?_)
  have h := h w2 ew2
  refine vw_aload_n hX 0 dX4_issue_5 rfl ?_
  refine vw_iload_n hX 2 dX4_issue_6 rfl ?_
  obtain ⟨f3, hf3, hlf3, h⟩ := h
  refine p_X4_15 hX hf3 hlf3 dX4_issue_7 ?_
  refine vw_nmW (fun w4 ew4 => ?_)
  have h := h w4 ew4
  refine vw_aload_n hX 0 dX4_issue_10 rfl ?_
  refine vw_iload_n hX 3 dX4_issue_11 rfl ?_
  obtain ⟨f5, hf5, hlf5, h⟩ := h
  refine p_X4_18 hX hf5 hlf5 dX4_issue_12 ?_
  refine vw_nmW (fun w6 ew6 => ?_)
  have h := h w6 ew6
  refine vw_aload_n hX 0 dX4_issue_15 rfl ?_
  refine vw_iconst hX (v := (-1)) dX4_issue_16 (by decide) ?_
  obtain ⟨f7, hf7, hlf7, h⟩ := h
  refine p_X4_21 hX hf7 hlf7 dX4_issue_17 ?_
  refine vw_nmW (fun w8 ew8 => ?_)
  have h := h w8 ew8
  refine vw_aload_n hX 0 dX4_issue_20 rfl ?_
  refine vw_iconst hX (v := (-1)) dX4_issue_21 (by decide) ?_
  obtain ⟨f9, hf9, hlf9, h⟩ := h
  refine p_X4_24 hX hf9 hlf9 dX4_issue_22 ?_
  refine vw_nmW (fun w10 ew10 => ?_)
  have h := h w10 ew10
  refine vw_aload_n hX 0 dX4_issue_25 rfl ?_
  refine vw_iconst hX (v := 0) dX4_issue_26 (by decide) ?_
  obtain ⟨f11, hf11, hlf11, h⟩ := h
  refine p_X4_27 hX hf11 hlf11 dX4_issue_27 ?_
  refine vw_nmW (fun w12 ew12 => ?_)
  have h := h w12 ew12
  exact vw_vret hX hE dX4_issue_30 ⟨rfl, h⟩
def F_X2_isOnTram (a0 : Nat) (a1 : Int32) (w : Mm) (z : Nat) (Q : Int32 → Mm → Nat → Prop) : Prop :=
  ∃ v1, fld w a0 6 4 = some (.int (v1)) ∧ (v1 ≤ a1 → Q 0 w z) ∧
  (¬ v1 ≤ a1 → Q 1 w z)
set_option maxRecDepth 100000 in
set_option maxHeartbeats 4000000 in
theorem ct_X2_isOnTram {l : Launch} {g : Gp} {d : Nat} (hst : l.stackTraces = false) {a0 : Nat} {a1 : Int32} {w : Mm} {z mc ms : Nat} {Q : Int32 → Mm → Nat → Prop} {X : String → Mm → Nat → Prop} (h : F_X2_isOnTram a0 a1 w z Q) : Ct l g yX2_isOnTram (.code yX2_isOnTram cX2_isOnTram 2 (some .boolean)) (d + 0) mc ms [.ref (a0), .int (a1)] w z (rI Q) X := by
  refine Ct.of hst (by decide) (Nat.le_of_ble_eq_true rfl) (fun C hX hE hg hl hNm => ?_)
  subst hg
  subst hl
  unfold F_X2_isOnTram at h
  show VW C 0 [(0, .ref (a0)), (1, .int (a1))] [] w z mc ms
  refine vw_iload_n hX 1 dX2_isOnTram_0 rfl ?_
  refine vw_aload_n hX 0 dX2_isOnTram_1 rfl ?_
  obtain ⟨v1, hv1, h⟩ := h
  refine g_X2_24 hX hv1 dX2_isOnTram_2 ?_
  refine vw_icmp_ge hX (tgt := 12) dX2_isOnTram_5 (by decide) (fun c2 => ?_) (fun c2 => ?_)
  · have h := h.1 c2
    refine vw_iconst hX (v := 0) dX2_isOnTram_12 (by decide) ?_
    exact vw_zret hX hE dX2_isOnTram_13 rfl ⟨_, rfl, h⟩
  · have h := h.2 c2
    refine vw_iconst hX (v := 1) dX2_isOnTram_8 (by decide) ?_
    refine vw_goto hX (tgt := 13) dX2_isOnTram_9 (by decide) ?_
    exact vw_zret hX hE dX2_isOnTram_13 rfl ⟨_, rfl, h⟩
def B_X4_useForRide_17 (a0 : Nat) (a1 : Int32) (a2 : Int32) (Q : Mm → Nat → Prop) (w : Mm) (z : Nat) : Prop :=
  ∃ v1, fld w a0 8 5 = some (.int (v1)) ∧ ∃ f2, obj w a0 8 = some f2 ∧ 5 < f2.length ∧ ∀ w3, w3 = mset w a0 (.inl (8, f2.set 5 (.int ((v1 + 1))))) → Q w3 z
set_option maxRecDepth 100000 in
set_option maxHeartbeats 4000000 in
theorem pB_X4_useForRide_17 {C : Cx} {d : Nat} {a0 : Nat} {a1 : Int32} {a2 : Int32} {Q : Mm → Nat → Prop} {X : String → Mm → Nat → Prop} (hX : CX C cX4_useForRide RX4 3 none [] (d + 1)) (hE : EQ C (rV Q) X) : ∀  (w : Mm) (z mc ms : Nat), B_X4_useForRide_17 a0 a1 a2 Q  w z → VW C 17 [(0, .ref (a0)), (1, .int (a1)), (2, .int (a2))] [] w z mc ms := by
  intro  w z mc ms h
  unfold B_X4_useForRide_17 at h
  refine vw_aload_n hX 0 dX4_useForRide_17 rfl ?_
  refine vw_dup hX dX4_useForRide_18 rfl ?_
  obtain ⟨v1, hv1, h⟩ := h
  refine g_X4_27 hX hv1 dX4_useForRide_19 ?_
  refine vw_iconst hX (v := 1) dX4_useForRide_22 (by decide) ?_
  refine vw_iadd hX dX4_useForRide_23 ?_
  obtain ⟨f2, hf2, hlf2, h⟩ := h
  refine p_X4_27 hX hf2 hlf2 dX4_useForRide_24 ?_
  refine vw_nmW (fun w3 ew3 => ?_)
  have h := h w3 ew3
  exact vw_vret hX hE dX4_useForRide_27 ⟨rfl, h⟩
def F_X4_useForRide (a0 : Nat) (a1 : Int32) (a2 : Int32) (w : Mm) (z : Nat) (Q : Mm → Nat → Prop) : Prop :=
  isO w a0 8 ∧ F_X4_isStamped a0 w z (fun r2 w3 z4 => (¬ r2 = 0 → B_X4_useForRide_17 a0 a1 a2 Q w3 z4) ∧
  (r2 = 0 → ∃ f6, obj w3 a0 8 = some f6 ∧ 3 < f6.length ∧ ∀ w7, w7 = mset w3 a0 (.inl (8, f6.set 3 (.int (a1)))) → ∃ f8, obj w7 a0 8 = some f8 ∧ 4 < f8.length ∧ ∀ w9, w9 = mset w7 a0 (.inl (8, f8.set 4 (.int (a2)))) → B_X4_useForRide_17 a0 a1 a2 Q w9 z4))
set_option maxRecDepth 100000 in
set_option maxHeartbeats 4000000 in
theorem ct_X4_useForRide {l : Launch} {g : Gp} {d : Nat} (hst : l.stackTraces = false) {a0 : Nat} {a1 : Int32} {a2 : Int32} {w : Mm} {z mc ms : Nat} {Q : Mm → Nat → Prop} {X : String → Mm → Nat → Prop} (h : F_X4_useForRide a0 a1 a2 w z Q) : Ct l g yX4_useForRide (.code yX4_useForRide cX4_useForRide 3 none) (d + 1) mc ms [.ref (a0), .int (a1), .int (a2)] w z (rV Q) X := by
  refine Ct.of hst (by decide) (Nat.le_of_ble_eq_true rfl) (fun C hX hE hg hl hNm => ?_)
  subst hg
  subst hl
  unfold F_X4_useForRide at h
  show VW C 0 [(0, .ref (a0)), (1, .int (a1)), (2, .int (a2))] [] w z mc ms
  refine vw_aload_n hX 0 dX4_useForRide_0 rfl ?_
  obtain ⟨hr1, h⟩ := h
  refine s_X4_30 hX hr1 dX4_useForRide_1 (Nat.le_of_ble_eq_true rfl) (ct_X4_isStamped (d := d + 0) (lst hX) h) (fun r2 w3 z4 h => ?_)
  refine vw_if_ne hX (tgt := 17) dX4_useForRide_4 (by decide) (fun c5 => ?_) (fun c5 => ?_)
  · have h := h.1 c5
    exact pB_X4_useForRide_17 hX hE _ _ _ _ h
  · have h := h.2 c5
    refine vw_aload_n hX 0 dX4_useForRide_7 rfl ?_
    refine vw_iload_n hX 1 dX4_useForRide_8 rfl ?_
    obtain ⟨f6, hf6, hlf6, h⟩ := h
    refine p_X4_21 hX hf6 hlf6 dX4_useForRide_9 ?_
    refine vw_nmW (fun w7 ew7 => ?_)
    have h := h w7 ew7
    refine vw_aload_n hX 0 dX4_useForRide_12 rfl ?_
    refine vw_iload_n hX 2 dX4_useForRide_13 rfl ?_
    obtain ⟨f8, hf8, hlf8, h⟩ := h
    refine p_X4_24 hX hf8 hlf8 dX4_useForRide_14 ?_
    refine vw_nmW (fun w9 ew9 => ?_)
    have h := h w9 ew9
    exact pB_X4_useForRide_17 hX hE _ _ _ _ h
def B_X4_inTimeAt_58 (a0 : Nat) (a1 : Int32) (Q : Int32 → Mm → Nat → Prop) (y0 : Int32) (y1 : Int32) (w : Mm) (z : Nat) : Prop :=
  (y0 ≤ y1 → Q 0 w z) ∧
  (¬ y0 ≤ y1 → Q 1 w z)
set_option maxRecDepth 100000 in
set_option maxHeartbeats 4000000 in
theorem pB_X4_inTimeAt_58 {C : Cx} {d : Nat} {a0 : Nat} {a1 : Int32} {Q : Int32 → Mm → Nat → Prop} {X : String → Mm → Nat → Prop} (hX : CX C cX4_inTimeAt RX4 2 (some .boolean) [] (d + 1)) (hE : EQ C (rI Q) X) : ∀ (y0 : Int32) (y1 : Int32) (w : Mm) (z mc ms : Nat), B_X4_inTimeAt_58 a0 a1 Q y0 y1 w z → VW C 58 [(0, .ref (a0)), (1, .int (a1))] [.int (y0), .int (y1)] w z mc ms := by
  intro y0 y1 w z mc ms h
  unfold B_X4_inTimeAt_58 at h
  refine vw_icmp_ge hX (tgt := 65) dX4_inTimeAt_58 (by decide) (fun c1 => ?_) (fun c1 => ?_)
  · have h := h.1 c1
    refine vw_iconst hX (v := 0) dX4_inTimeAt_65 (by decide) ?_
    exact vw_zret hX hE dX4_inTimeAt_66 rfl ⟨_, rfl, h⟩
  · have h := h.2 c1
    refine vw_iconst hX (v := 1) dX4_inTimeAt_61 (by decide) ?_
    refine vw_goto hX (tgt := 66) dX4_inTimeAt_62 (by decide) ?_
    exact vw_zret hX hE dX4_inTimeAt_66 rfl ⟨_, rfl, h⟩
def F_X4_inTimeAt (a0 : Nat) (a1 : Int32) (w : Mm) (z : Nat) (Q : Int32 → Mm → Nat → Prop) : Prop :=
  isO w a0 8 ∧ F_X4_isStamped a0 w z (fun r2 w3 z4 => (¬ r2 = 0 → ∃ v6, fld w3 a0 8 1 = some (.int (v6)) ∧ (¬ v6 = 1 → ∃ v8, fld w3 a0 8 3 = some (.int (v8)) ∧ ∃ v9, fld w3 a0 8 1 = some (.int (v9)) ∧ (¬ v9 = 2 → B_X4_inTimeAt_58 a0 a1 Q 60 ((a1 - v8)) w3 z4) ∧
  (v9 = 2 → B_X4_inTimeAt_58 a0 a1 Q 30 ((a1 - v8)) w3 z4)) ∧
  (v6 = 1 → F_X5_dayOf a1 w3 z4 (fun r11 w12 z13 => ∃ v14, fld w12 a0 8 3 = some (.int (v14)) ∧ F_X5_dayOf v14 w12 z13 (fun r15 w16 z17 => (¬ r11 = r15 → Q 0 w16 z17) ∧
  (r11 = r15 → Q 1 w16 z17))))) ∧
  (r2 = 0 → Q 1 w3 z4))
set_option maxRecDepth 100000 in
set_option maxHeartbeats 4000000 in
theorem ct_X4_inTimeAt {l : Launch} {g : Gp} {d : Nat} (hst : l.stackTraces = false) {a0 : Nat} {a1 : Int32} {w : Mm} {z mc ms : Nat} {Q : Int32 → Mm → Nat → Prop} {X : String → Mm → Nat → Prop} (h : F_X4_inTimeAt a0 a1 w z Q) : Ct l g yX4_inTimeAt (.code yX4_inTimeAt cX4_inTimeAt 2 (some .boolean)) (d + 1) mc ms [.ref (a0), .int (a1)] w z (rI Q) X := by
  refine Ct.of hst (by decide) (Nat.le_of_ble_eq_true rfl) (fun C hX hE hg hl hNm => ?_)
  subst hg
  subst hl
  unfold F_X4_inTimeAt at h
  show VW C 0 [(0, .ref (a0)), (1, .int (a1))] [] w z mc ms
  refine vw_aload_n hX 0 dX4_inTimeAt_0 rfl ?_
  obtain ⟨hr1, h⟩ := h
  refine s_X4_30 hX hr1 dX4_inTimeAt_1 (Nat.le_of_ble_eq_true rfl) (ct_X4_isStamped (d := d + 0) (lst hX) h) (fun r2 w3 z4 h => ?_)
  refine vw_if_ne hX (tgt := 9) dX4_inTimeAt_4 (by decide) (fun c5 => ?_) (fun c5 => ?_)
  · have h := h.1 c5
    refine vw_aload_n hX 0 dX4_inTimeAt_9 rfl ?_
    obtain ⟨v6, hv6, h⟩ := h
    refine g_X4_15 hX hv6 dX4_inTimeAt_10 ?_
    refine vw_iconst hX (v := 1) dX4_inTimeAt_13 (by decide) ?_
    refine vw_icmp_ne hX (tgt := 37) dX4_inTimeAt_14 (by decide) (fun c7 => ?_) (fun c7 => ?_)
    · have h := h.1 c7
      refine vw_iload_n hX 1 dX4_inTimeAt_37 rfl ?_
      refine vw_aload_n hX 0 dX4_inTimeAt_38 rfl ?_
      obtain ⟨v8, hv8, h⟩ := h
      refine g_X4_21 hX hv8 dX4_inTimeAt_39 ?_
      refine vw_isub hX dX4_inTimeAt_42 ?_
      refine vw_aload_n hX 0 dX4_inTimeAt_43 rfl ?_
      obtain ⟨v9, hv9, h⟩ := h
      refine g_X4_15 hX hv9 dX4_inTimeAt_44 ?_
      refine vw_iconst hX (v := 2) dX4_inTimeAt_47 (by decide) ?_
      refine vw_icmp_ne hX (tgt := 56) dX4_inTimeAt_48 (by decide) (fun c10 => ?_) (fun c10 => ?_)
      · have h := h.1 c10
        refine vw_bipush hX (v := 60) dX4_inTimeAt_56 (by decide) ?_
        exact pB_X4_inTimeAt_58 hX hE _ _ _ _ _ _ h
      · have h := h.2 c10
        refine vw_bipush hX (v := 30) dX4_inTimeAt_51 (by decide) ?_
        refine vw_goto hX (tgt := 58) dX4_inTimeAt_53 (by decide) ?_
        exact pB_X4_inTimeAt_58 hX hE _ _ _ _ _ _ h
    · have h := h.2 c7
      refine vw_iload_n hX 1 dX4_inTimeAt_17 rfl ?_
      refine s_X4_38 hX dX4_inTimeAt_18 (Nat.le_of_ble_eq_true rfl) (ct_X5_dayOf (d := d + 0) (lst hX) h) (fun r11 w12 z13 h => ?_)
      refine vw_aload_n hX 0 dX4_inTimeAt_21 rfl ?_
      obtain ⟨v14, hv14, h⟩ := h
      refine g_X4_21 hX hv14 dX4_inTimeAt_22 ?_
      refine s_X4_38 hX dX4_inTimeAt_25 (Nat.le_of_ble_eq_true rfl) (ct_X5_dayOf (d := d + 0) (lst hX) h) (fun r15 w16 z17 h => ?_)
      refine vw_icmp_ne hX (tgt := 35) dX4_inTimeAt_28 (by decide) (fun c18 => ?_) (fun c18 => ?_)
      · have h := h.1 c18
        refine vw_iconst hX (v := 0) dX4_inTimeAt_35 (by decide) ?_
        exact vw_zret hX hE dX4_inTimeAt_36 rfl ⟨_, rfl, h⟩
      · have h := h.2 c18
        refine vw_iconst hX (v := 1) dX4_inTimeAt_31 (by decide) ?_
        refine vw_goto hX (tgt := 36) dX4_inTimeAt_32 (by decide) ?_
        exact vw_zret hX hE dX4_inTimeAt_36 rfl ⟨_, rfl, h⟩
  · have h := h.2 c5
    refine vw_iconst hX (v := 1) dX4_inTimeAt_7 (by decide) ?_
    exact vw_zret hX hE dX4_inTimeAt_8 rfl ⟨_, rfl, h⟩
def F_X2_init (a0 : Nat) (w : Mm) (z : Nat) (Q : Mm → Nat → Prop) : Prop :=
  ∀ q1, isLit w q1 lit_0 → ∃ f2, obj w a0 6 = some f2 ∧ 0 < f2.length ∧ ∀ w3, w3 = mset w a0 (.inl (6, f2.set 0 (.ref (q1)))) → ∃ f4, obj w3 a0 6 = some f4 ∧ 2 < f4.length ∧ ∀ w5, w5 = mset w3 a0 (.inl (6, f4.set 2 (.int ((-1))))) → ∃ f6, obj w5 a0 6 = some f6 ∧ 3 < f6.length ∧ ∀ w7, w7 = mset w5 a0 (.inl (6, f6.set 3 (.int ((-1))))) → ∃ f8, obj w7 a0 6 = some f8 ∧ 4 < f8.length ∧ ∀ w9, w9 = mset w7 a0 (.inl (6, f8.set 4 (.int ((-1))))) → ∃ f10, obj w9 a0 6 = some f10 ∧ 5 < f10.length ∧ ∀ w11, w11 = mset w9 a0 (.inl (6, f10.set 5 (.int ((-1))))) → Q w11 z
set_option maxRecDepth 100000 in
set_option maxHeartbeats 4000000 in
theorem ct_X2_init {l : Launch} {g : Gp} {d : Nat} (hst : l.stackTraces = false) {a0 : Nat} {w : Mm} {z mc ms : Nat} {Q : Mm → Nat → Prop} {X : String → Mm → Nat → Prop} (h : F_X2_init a0 w z Q) : Ct l g yX2_init (.code yX2_init cX2_init 1 none) (d + 1) mc ms [.ref (a0)] w z (rV Q) X := by
  refine Ct.of hst (by decide) (Nat.le_of_ble_eq_true rfl) (fun C hX hE hg hl hNm => ?_)
  subst hg
  subst hl
  unfold F_X2_init at h
  show VW C 0 [(0, .ref (a0))] [] w z mc ms
  refine vw_aload_n hX 0 dX2_init_0 rfl ?_
  refine vw_objInit hX kw_56 kw_38 kw_39 (Nat.le_of_ble_eq_true rfl) dX2_init_1 ?_
  refine vw_aload_n hX 0 dX2_init_4 rfl ?_
  refine l_X2_9 hX dX2_init_5 (fun q1 hq1 => ?_)
  have h := h q1 hq1
  obtain ⟨f2, hf2, hlf2, h⟩ := h
  refine p_X2_11 hX hf2 hlf2 dX2_init_7 ?_
  refine vw_nmW (fun w3 ew3 => ?_)
  have h := h w3 ew3
  refine vw_aload_n hX 0 dX2_init_10 rfl ?_
  refine vw_iconst hX (v := (-1)) dX2_init_11 (by decide) ?_
  obtain ⟨f4, hf4, hlf4, h⟩ := h
  refine p_X2_17 hX hf4 hlf4 dX2_init_12 ?_
  refine vw_nmW (fun w5 ew5 => ?_)
  have h := h w5 ew5
  refine vw_aload_n hX 0 dX2_init_15 rfl ?_
  refine vw_iconst hX (v := (-1)) dX2_init_16 (by decide) ?_
  obtain ⟨f6, hf6, hlf6, h⟩ := h
  refine p_X2_21 hX hf6 hlf6 dX2_init_17 ?_
  refine vw_nmW (fun w7 ew7 => ?_)
  have h := h w7 ew7
  refine vw_aload_n hX 0 dX2_init_20 rfl ?_
  refine vw_iconst hX (v := (-1)) dX2_init_21 (by decide) ?_
  obtain ⟨f8, hf8, hlf8, h⟩ := h
  refine p_X2_24 hX hf8 hlf8 dX2_init_22 ?_
  refine vw_nmW (fun w9 ew9 => ?_)
  have h := h w9 ew9
  refine vw_aload_n hX 0 dX2_init_25 rfl ?_
  refine vw_iconst hX (v := (-1)) dX2_init_26 (by decide) ?_
  obtain ⟨f10, hf10, hlf10, h⟩ := h
  refine p_X2_27 hX hf10 hlf10 dX2_init_27 ?_
  refine vw_nmW (fun w11 ew11 => ?_)
  have h := h w11 ew11
  exact vw_vret hX hE dX2_init_30 ⟨rfl, h⟩
def F_X2_copyFrom (a0 : Nat) (a1 : Nat) (w : Mm) (z : Nat) (Q : Mm → Nat → Prop) : Prop :=
  ∃ q1, fld w a1 6 0 = some (.ref (q1)) ∧ ∃ f2, obj w a0 6 = some f2 ∧ 0 < f2.length ∧ ∀ w3, w3 = mset w a0 (.inl (6, f2.set 0 (.ref (q1)))) → ∃ v4, fld w3 a1 6 1 = some (.int (v4)) ∧ ∃ f5, obj w3 a0 6 = some f5 ∧ 1 < f5.length ∧ ∀ w6, w6 = mset w3 a0 (.inl (6, f5.set 1 (.int (v4)))) → ∃ v7, fld w6 a1 6 2 = some (.int (v7)) ∧ ∃ v8, fld w6 a1 6 3 = some (.int (v8)) ∧ ∃ v9, fld w6 a1 6 4 = some (.int (v9)) ∧ ∃ v10, fld w6 a1 6 5 = some (.int (v10)) ∧ isO w6 a0 6 ∧ F_X2_takeRide a0 v7 v8 v9 v10 w6 z (fun w13 z14 => ∃ v15, fld w13 a1 6 6 = some (.int (v15)) ∧ narrow .boolean (.int v15) = .int v15 ∧ ∃ f16, obj w13 a0 6 = some f16 ∧ 6 < f16.length ∧ ∀ w18, w18 = mset w13 a0 (.inl (6, f16.set 6 (.int (v15)))) → Q w18 z14)
set_option maxRecDepth 100000 in
set_option maxHeartbeats 4000000 in
theorem ct_X2_copyFrom {l : Launch} {g : Gp} {d : Nat} (hst : l.stackTraces = false) {a0 : Nat} {a1 : Nat} {w : Mm} {z mc ms : Nat} {Q : Mm → Nat → Prop} {X : String → Mm → Nat → Prop} (h : F_X2_copyFrom a0 a1 w z Q) : Ct l g yX2_copyFrom (.code yX2_copyFrom cX2_copyFrom 2 none) (d + 1) mc ms [.ref (a0), .ref (a1)] w z (rV Q) X := by
  refine Ct.of hst (by decide) (Nat.le_of_ble_eq_true rfl) (fun C hX hE hg hl hNm => ?_)
  subst hg
  subst hl
  unfold F_X2_copyFrom at h
  show VW C 0 [(0, .ref (a0)), (1, .ref (a1))] [] w z mc ms
  refine vw_aload_n hX 0 dX2_copyFrom_0 rfl ?_
  refine vw_aload_n hX 1 dX2_copyFrom_1 rfl ?_
  obtain ⟨q1, hq1, h⟩ := h
  refine g_X2_11 hX hq1 dX2_copyFrom_2 ?_
  obtain ⟨f2, hf2, hlf2, h⟩ := h
  refine p_X2_11 hX hf2 hlf2 dX2_copyFrom_5 ?_
  refine vw_nmW (fun w3 ew3 => ?_)
  have h := h w3 ew3
  refine vw_aload_n hX 0 dX2_copyFrom_8 rfl ?_
  refine vw_aload_n hX 1 dX2_copyFrom_9 rfl ?_
  obtain ⟨v4, hv4, h⟩ := h
  refine g_X2_30 hX hv4 dX2_copyFrom_10 ?_
  obtain ⟨f5, hf5, hlf5, h⟩ := h
  refine p_X2_30 hX hf5 hlf5 dX2_copyFrom_13 ?_
  refine vw_nmW (fun w6 ew6 => ?_)
  have h := h w6 ew6
  refine vw_aload_n hX 0 dX2_copyFrom_16 rfl ?_
  refine vw_aload_n hX 1 dX2_copyFrom_17 rfl ?_
  obtain ⟨v7, hv7, h⟩ := h
  refine g_X2_17 hX hv7 dX2_copyFrom_18 ?_
  refine vw_aload_n hX 1 dX2_copyFrom_21 rfl ?_
  obtain ⟨v8, hv8, h⟩ := h
  refine g_X2_21 hX hv8 dX2_copyFrom_22 ?_
  refine vw_aload_n hX 1 dX2_copyFrom_25 rfl ?_
  obtain ⟨v9, hv9, h⟩ := h
  refine g_X2_24 hX hv9 dX2_copyFrom_26 ?_
  refine vw_aload_n hX 1 dX2_copyFrom_29 rfl ?_
  obtain ⟨v10, hv10, h⟩ := h
  refine g_X2_27 hX hv10 dX2_copyFrom_30 ?_
  obtain ⟨hr11, h⟩ := h
  refine s_X2_33 hX hr11 dX2_copyFrom_33 (Nat.le_of_ble_eq_true rfl) (ct_X2_takeRide (d := d + 0) (lst hX) h) (fun w13 z14 h => ?_)
  refine vw_aload_n hX 0 dX2_copyFrom_36 rfl ?_
  refine vw_aload_n hX 1 dX2_copyFrom_37 rfl ?_
  obtain ⟨v15, hv15, h⟩ := h
  refine g_X2_37 hX hv15 dX2_copyFrom_38 ?_
  obtain ⟨hb17, h⟩ := h
  obtain ⟨f16, hf16, hlf16, h⟩ := h
  refine p_X2_37 hX hf16 hlf16 hb17 (fit_boolean hb17) dX2_copyFrom_41 ?_
  refine vw_nmW (fun w18 ew18 => ?_)
  have h := h w18 ew18
  exact vw_vret hX hE dX2_copyFrom_44 ⟨rfl, h⟩
def F_X4_init (a0 : Nat) (w : Mm) (z : Nat) (Q : Mm → Nat → Prop) : Prop :=
  Q w z
set_option maxRecDepth 100000 in
set_option maxHeartbeats 4000000 in
theorem ct_X4_init {l : Launch} {g : Gp} {d : Nat} (hst : l.stackTraces = false) {a0 : Nat} {w : Mm} {z mc ms : Nat} {Q : Mm → Nat → Prop} {X : String → Mm → Nat → Prop} (h : F_X4_init a0 w z Q) : Ct l g yX4_init (.code yX4_init cX4_init 1 none) (d + 1) mc ms [.ref (a0)] w z (rV Q) X := by
  refine Ct.of hst (by decide) (Nat.le_of_ble_eq_true rfl) (fun C hX hE hg hl hNm => ?_)
  subst hg
  subst hl
  unfold F_X4_init at h
  show VW C 0 [(0, .ref (a0))] [] w z mc ms
  refine vw_aload_n hX 0 dX4_init_0 rfl ?_
  refine vw_objInit hX kw_95 kw_38 kw_39 (Nat.le_of_ble_eq_true rfl) dX4_init_1 ?_
  exact vw_vret hX hE dX4_init_4 ⟨rfl, h⟩
def F_X4_copyFrom (a0 : Nat) (a1 : Nat) (w : Mm) (z : Nat) (Q : Mm → Nat → Prop) : Prop :=
  ∃ v1, fld w a1 8 0 = some (.int (v1)) ∧ ∃ f2, obj w a0 8 = some f2 ∧ 0 < f2.length ∧ ∀ w3, w3 = mset w a0 (.inl (8, f2.set 0 (.int (v1)))) → ∃ v4, fld w3 a1 8 1 = some (.int (v4)) ∧ ∃ f5, obj w3 a0 8 = some f5 ∧ 1 < f5.length ∧ ∀ w6, w6 = mset w3 a0 (.inl (8, f5.set 1 (.int (v4)))) → ∃ v7, fld w6 a1 8 2 = some (.int (v7)) ∧ ∃ f8, obj w6 a0 8 = some f8 ∧ 2 < f8.length ∧ ∀ w9, w9 = mset w6 a0 (.inl (8, f8.set 2 (.int (v7)))) → ∃ v10, fld w9 a1 8 3 = some (.int (v10)) ∧ ∃ f11, obj w9 a0 8 = some f11 ∧ 3 < f11.length ∧ ∀ w12, w12 = mset w9 a0 (.inl (8, f11.set 3 (.int (v10)))) → ∃ v13, fld w12 a1 8 4 = some (.int (v13)) ∧ ∃ f14, obj w12 a0 8 = some f14 ∧ 4 < f14.length ∧ ∀ w15, w15 = mset w12 a0 (.inl (8, f14.set 4 (.int (v13)))) → ∃ v16, fld w15 a1 8 5 = some (.int (v16)) ∧ ∃ f17, obj w15 a0 8 = some f17 ∧ 5 < f17.length ∧ ∀ w18, w18 = mset w15 a0 (.inl (8, f17.set 5 (.int (v16)))) → Q w18 z
set_option maxRecDepth 100000 in
set_option maxHeartbeats 4000000 in
theorem ct_X4_copyFrom {l : Launch} {g : Gp} {d : Nat} (hst : l.stackTraces = false) {a0 : Nat} {a1 : Nat} {w : Mm} {z mc ms : Nat} {Q : Mm → Nat → Prop} {X : String → Mm → Nat → Prop} (h : F_X4_copyFrom a0 a1 w z Q) : Ct l g yX4_copyFrom (.code yX4_copyFrom cX4_copyFrom 2 none) (d + 0) mc ms [.ref (a0), .ref (a1)] w z (rV Q) X := by
  refine Ct.of hst (by decide) (Nat.le_of_ble_eq_true rfl) (fun C hX hE hg hl hNm => ?_)
  subst hg
  subst hl
  unfold F_X4_copyFrom at h
  show VW C 0 [(0, .ref (a0)), (1, .ref (a1))] [] w z mc ms
  refine vw_aload_n hX 0 dX4_copyFrom_0 rfl ?_
  refine vw_aload_n hX 1 dX4_copyFrom_1 rfl ?_
  obtain ⟨v1, hv1, h⟩ := h
  refine g_X4_9 hX hv1 dX4_copyFrom_2 ?_
  obtain ⟨f2, hf2, hlf2, h⟩ := h
  refine p_X4_9 hX hf2 hlf2 dX4_copyFrom_5 ?_
  refine vw_nmW (fun w3 ew3 => ?_)
  have h := h w3 ew3
  refine vw_aload_n hX 0 dX4_copyFrom_8 rfl ?_
  refine vw_aload_n hX 1 dX4_copyFrom_9 rfl ?_
  obtain ⟨v4, hv4, h⟩ := h
  refine g_X4_15 hX hv4 dX4_copyFrom_10 ?_
  obtain ⟨f5, hf5, hlf5, h⟩ := h
  refine p_X4_15 hX hf5 hlf5 dX4_copyFrom_13 ?_
  refine vw_nmW (fun w6 ew6 => ?_)
  have h := h w6 ew6
  refine vw_aload_n hX 0 dX4_copyFrom_16 rfl ?_
  refine vw_aload_n hX 1 dX4_copyFrom_17 rfl ?_
  obtain ⟨v7, hv7, h⟩ := h
  refine g_X4_18 hX hv7 dX4_copyFrom_18 ?_
  obtain ⟨f8, hf8, hlf8, h⟩ := h
  refine p_X4_18 hX hf8 hlf8 dX4_copyFrom_21 ?_
  refine vw_nmW (fun w9 ew9 => ?_)
  have h := h w9 ew9
  refine vw_aload_n hX 0 dX4_copyFrom_24 rfl ?_
  refine vw_aload_n hX 1 dX4_copyFrom_25 rfl ?_
  obtain ⟨v10, hv10, h⟩ := h
  refine g_X4_21 hX hv10 dX4_copyFrom_26 ?_
  obtain ⟨f11, hf11, hlf11, h⟩ := h
  refine p_X4_21 hX hf11 hlf11 dX4_copyFrom_29 ?_
  refine vw_nmW (fun w12 ew12 => ?_)
  have h := h w12 ew12
  refine vw_aload_n hX 0 dX4_copyFrom_32 rfl ?_
  refine vw_aload_n hX 1 dX4_copyFrom_33 rfl ?_
  obtain ⟨v13, hv13, h⟩ := h
  refine g_X4_24 hX hv13 dX4_copyFrom_34 ?_
  obtain ⟨f14, hf14, hlf14, h⟩ := h
  refine p_X4_24 hX hf14 hlf14 dX4_copyFrom_37 ?_
  refine vw_nmW (fun w15 ew15 => ?_)
  have h := h w15 ew15
  refine vw_aload_n hX 0 dX4_copyFrom_40 rfl ?_
  refine vw_aload_n hX 1 dX4_copyFrom_41 rfl ?_
  obtain ⟨v16, hv16, h⟩ := h
  refine g_X4_27 hX hv16 dX4_copyFrom_42 ?_
  obtain ⟨f17, hf17, hlf17, h⟩ := h
  refine p_X4_27 hX hf17 hlf17 dX4_copyFrom_45 ?_
  refine vw_nmW (fun w18 ew18 => ?_)
  have h := h w18 ew18
  exact vw_vret hX hE dX4_copyFrom_48 ⟨rfl, h⟩
def F_X4_price (a0 : Nat) (w : Mm) (z : Nat) (Q : Int32 → Mm → Nat → Prop) : Prop :=
  ∃ v1, fld w a0 8 1 = some (.int (v1)) ∧ ∃ v2, fld w a0 8 2 = some (.int (v2)) ∧ F_X5_priceOf v1 v2 w z (fun r3 w4 z5 => Q r3 w4 z5)
set_option maxRecDepth 100000 in
set_option maxHeartbeats 4000000 in
theorem ct_X4_price {l : Launch} {g : Gp} {d : Nat} (hst : l.stackTraces = false) {a0 : Nat} {w : Mm} {z mc ms : Nat} {Q : Int32 → Mm → Nat → Prop} {X : String → Mm → Nat → Prop} (h : F_X4_price a0 w z Q) : Ct l g yX4_price (.code yX4_price cX4_price 1 (some .int)) (d + 2) mc ms [.ref (a0)] w z (rI Q) X := by
  refine Ct.of hst (by decide) (Nat.le_of_ble_eq_true rfl) (fun C hX hE hg hl hNm => ?_)
  subst hg
  subst hl
  unfold F_X4_price at h
  show VW C 0 [(0, .ref (a0))] [] w z mc ms
  refine vw_aload_n hX 0 dX4_price_0 rfl ?_
  obtain ⟨v1, hv1, h⟩ := h
  refine g_X4_15 hX hv1 dX4_price_1 ?_
  refine vw_aload_n hX 0 dX4_price_4 rfl ?_
  obtain ⟨v2, hv2, h⟩ := h
  refine g_X4_18 hX hv2 dX4_price_5 ?_
  refine s_X4_34 hX dX4_price_8 (Nat.le_of_ble_eq_true rfl) (ct_X5_priceOf (d := d + 0) (lst hX) h) (fun r3 w4 z5 h => ?_)
  exact vw_iret hX hE dX4_price_11 ⟨_, rfl, h⟩
