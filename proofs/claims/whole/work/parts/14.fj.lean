def F_J0_coder_7d493 (a0 : Nat) (w : Mm) (z : Nat) (Q : Int32 → Mm → Nat → Prop) : Prop :=
  ∃ v1, fld w a0 0 1 = some (.int (v1)) ∧ narrow .byte (.int v1) = .int v1 ∧ Q v1 w z
set_option maxRecDepth 100000 in
set_option maxHeartbeats 4000000 in
theorem ct_J0_coder_7d493 {l : Launch} {g : Gp} {d : Nat} (hst : l.stackTraces = false) {a0 : Nat} {w : Mm} {z mc ms : Nat} {Q : Int32 → Mm → Nat → Prop} {X : String → Mm → Nat → Prop} (h : F_J0_coder_7d493 a0 w z Q) : Ct l g yJ0_coder_7d493 (.code yJ0_coder_7d493 cJ0_coder_7d493 1 (some .byte)) (d + 0) mc ms [.ref (a0)] w z (rI Q) X := by
  refine Ct.of hst (by decide) (Nat.le_of_ble_eq_true rfl) (fun C hX hE hg hl hNm => ?_)
  subst hg
  subst hl
  unfold F_J0_coder_7d493 at h
  show VW C 0 [(0, .ref (a0))] [] w z mc ms
  refine vw_gets hX (v := .int 1) (by decide) kw_458 dJ0_coder_7d493_0 ?_
  refine vw_if_eq hX (tgt := 13) dJ0_coder_7d493_3 (by decide) (fun c => absurd c (by decide)) (fun c => ?_)
  refine vw_aload_n hX 0 dJ0_coder_7d493_6 rfl ?_
  obtain ⟨v1, hv1, h⟩ := h
  refine g_J0_15 hX hv1 dJ0_coder_7d493_7 ?_
  refine vw_goto hX (tgt := 14) dJ0_coder_7d493_10 (by decide) ?_
  exact vw_zret hX hE dJ0_coder_7d493_14 h.1 ⟨_, rfl, h.2⟩
def F_J0_length_8abf5 (a0 : Nat) (w : Mm) (z : Nat) (Q : Int32 → Mm → Nat → Prop) : Prop :=
  ∃ q1, fld w a0 0 0 = some (.ref (q1)) ∧ ∃ n3 f2, arI w q1 1 = some (n3, f2) ∧ isO w a0 0 ∧ F_J0_coder_7d493 a0 w z (fun r5 w6 z7 => Q ((((nI n3)) >>> (r5 &&& 31))) w6 z7)
set_option maxRecDepth 100000 in
set_option maxHeartbeats 4000000 in
theorem ct_J0_length_8abf5 {l : Launch} {g : Gp} {d : Nat} (hst : l.stackTraces = false) {a0 : Nat} {w : Mm} {z mc ms : Nat} {Q : Int32 → Mm → Nat → Prop} {X : String → Mm → Nat → Prop} (h : F_J0_length_8abf5 a0 w z Q) : Ct l g yJ0_length_8abf5 (.code yJ0_length_8abf5 cJ0_length_8abf5 1 (some .int)) (d + 1) mc ms [.ref (a0)] w z (rI Q) X := by
  refine Ct.of hst (by decide) (Nat.le_of_ble_eq_true rfl) (fun C hX hE hg hl hNm => ?_)
  subst hg
  subst hl
  unfold F_J0_length_8abf5 at h
  show VW C 0 [(0, .ref (a0))] [] w z mc ms
  refine vw_aload_n hX 0 dJ0_length_8abf5_0 rfl ?_
  obtain ⟨q1, hq1, h⟩ := h
  refine g_J0_9 hX hq1 dJ0_length_8abf5_1 ?_
  obtain ⟨n3, f2, hf2, h⟩ := h
  refine vw_alen hX 1 (by decide) hf2 dJ0_length_8abf5_4 ?_
  refine vw_aload_n hX 0 dJ0_length_8abf5_5 rfl ?_
  obtain ⟨hr4, h⟩ := h
  refine s_J0_335 hX hr4 dJ0_length_8abf5_6 (Nat.le_of_ble_eq_true rfl) (ct_J0_coder_7d493 (d := d + 0) (lst hX) h) (fun r5 w6 z7 h => ?_)
  refine vw_ishr hX dJ0_length_8abf5_9 ?_
  exact vw_iret hX hE dJ0_length_8abf5_10 ⟨_, rfl, h⟩
def F_J0_isLatin1_aae02 (a0 : Nat) (w : Mm) (z : Nat) (Q : Int32 → Mm → Nat → Prop) : Prop :=
  ∃ v1, fld w a0 0 1 = some (.int (v1)) ∧ (¬ v1 = 0 → Q 0 w z) ∧
  (v1 = 0 → Q 1 w z)
set_option maxRecDepth 100000 in
set_option maxHeartbeats 4000000 in
theorem ct_J0_isLatin1_aae02 {l : Launch} {g : Gp} {d : Nat} (hst : l.stackTraces = false) {a0 : Nat} {w : Mm} {z mc ms : Nat} {Q : Int32 → Mm → Nat → Prop} {X : String → Mm → Nat → Prop} (h : F_J0_isLatin1_aae02 a0 w z Q) : Ct l g yJ0_isLatin1_aae02 (.code yJ0_isLatin1_aae02 cJ0_isLatin1_aae02 1 (some .boolean)) (d + 0) mc ms [.ref (a0)] w z (rI Q) X := by
  refine Ct.of hst (by decide) (Nat.le_of_ble_eq_true rfl) (fun C hX hE hg hl hNm => ?_)
  subst hg
  subst hl
  unfold F_J0_isLatin1_aae02 at h
  show VW C 0 [(0, .ref (a0))] [] w z mc ms
  refine vw_gets hX (v := .int 1) (by decide) kw_458 dJ0_isLatin1_aae02_0 ?_
  refine vw_if_eq hX (tgt := 17) dJ0_isLatin1_aae02_3 (by decide) (fun c => absurd c (by decide)) (fun c => ?_)
  refine vw_aload_n hX 0 dJ0_isLatin1_aae02_6 rfl ?_
  obtain ⟨v1, hv1, h⟩ := h
  refine g_J0_15 hX hv1 dJ0_isLatin1_aae02_7 ?_
  refine vw_if_ne hX (tgt := 17) dJ0_isLatin1_aae02_10 (by decide) (fun c2 => ?_) (fun c2 => ?_)
  · have h := h.1 c2
    refine vw_iconst hX (v := 0) dJ0_isLatin1_aae02_17 (by decide) ?_
    exact vw_zret hX hE dJ0_isLatin1_aae02_18 rfl ⟨_, rfl, h⟩
  · have h := h.2 c2
    refine vw_iconst hX (v := 1) dJ0_isLatin1_aae02_13 (by decide) ?_
    refine vw_goto hX (tgt := 18) dJ0_isLatin1_aae02_14 (by decide) ?_
    exact vw_zret hX hE dJ0_isLatin1_aae02_18 rfl ⟨_, rfl, h⟩
def F_J3_checkIndex_8e157 (a0 : Int32) (a1 : Int32) (w : Mm) (z : Nat) (Q : Int32 → Mm → Nat → Prop) : Prop :=
  (a0 < 0 → False) ∧
  (¬ a0 < 0 → (a0 < a1 → Q a0 w z) ∧
  (¬ a0 < a1 → False))
set_option maxRecDepth 100000 in
set_option maxHeartbeats 4000000 in
theorem ct_J3_checkIndex_8e157 {l : Launch} {g : Gp} {d : Nat} (hst : l.stackTraces = false) {a0 : Int32} {a1 : Int32} {a2 : Nat} {w : Mm} {z mc ms : Nat} {Q : Int32 → Mm → Nat → Prop} {X : String → Mm → Nat → Prop} (h : F_J3_checkIndex_8e157 a0 a1 w z Q) : Ct l g yJ3_checkIndex_8e157 (.code yJ3_checkIndex_8e157 cJ3_checkIndex_8e157 3 (some .int)) (d + 0) mc ms [.int (a0), .int (a1), .ref (a2)] w z (rI Q) X := by
  refine Ct.of hst (by decide) (Nat.le_of_ble_eq_true rfl) (fun C hX hE hg hl hNm => ?_)
  subst hg
  subst hl
  unfold F_J3_checkIndex_8e157 at h
  show VW C 0 [(0, .int (a0)), (1, .int (a1)), (2, .ref (a2))] [] w z mc ms
  refine vw_iload_n hX 0 dJ3_checkIndex_8e157_0 rfl ?_
  refine vw_if_lt hX (tgt := 9) dJ3_checkIndex_8e157_1 (by decide) (fun c1 => ?_) (fun c1 => ?_)
  · exact (h.1 c1).elim
  · have h := h.2 c1
    refine vw_iload_n hX 0 dJ3_checkIndex_8e157_4 rfl ?_
    refine vw_iload_n hX 1 dJ3_checkIndex_8e157_5 rfl ?_
    refine vw_icmp_lt hX (tgt := 16) dJ3_checkIndex_8e157_6 (by decide) (fun c2 => ?_) (fun c2 => ?_)
    · have h := h.1 c2
      refine vw_iload_n hX 0 dJ3_checkIndex_8e157_16 rfl ?_
      exact vw_iret hX hE dJ3_checkIndex_8e157_17 ⟨_, rfl, h⟩
    · exact (h.2 c2).elim
set_option maxRecDepth 100000 in
set_option maxHeartbeats 4000000 in
theorem ct_J3_checkIndex_8e157_n {l : Launch} {g : Gp} {d : Nat} (hst : l.stackTraces = false) {a0 : Int32} {a1 : Int32} {w : Mm} {z mc ms : Nat} {Q : Int32 → Mm → Nat → Prop} {X : String → Mm → Nat → Prop} (h : F_J3_checkIndex_8e157 a0 a1 w z Q) : Ct l g yJ3_checkIndex_8e157 (.code yJ3_checkIndex_8e157 cJ3_checkIndex_8e157 3 (some .int)) (d + 0) mc ms [.int (a0), .int (a1), .null] w z (rI Q) X := by
  refine Ct.of hst (by decide) (Nat.le_of_ble_eq_true rfl) (fun C hX hE hg hl hNm => ?_)
  subst hg
  subst hl
  unfold F_J3_checkIndex_8e157 at h
  show VW C 0 [(0, .int (a0)), (1, .int (a1)), (2, .null)] [] w z mc ms
  refine vw_iload_n hX 0 dJ3_checkIndex_8e157_0 rfl ?_
  refine vw_if_lt hX (tgt := 9) dJ3_checkIndex_8e157_1 (by decide) (fun c1 => ?_) (fun c1 => ?_)
  · exact (h.1 c1).elim
  · have h := h.2 c1
    refine vw_iload_n hX 0 dJ3_checkIndex_8e157_4 rfl ?_
    refine vw_iload_n hX 1 dJ3_checkIndex_8e157_5 rfl ?_
    refine vw_icmp_lt hX (tgt := 16) dJ3_checkIndex_8e157_6 (by decide) (fun c2 => ?_) (fun c2 => ?_)
    · have h := h.1 c2
      refine vw_iload_n hX 0 dJ3_checkIndex_8e157_16 rfl ?_
      exact vw_iret hX hE dJ3_checkIndex_8e157_17 ⟨_, rfl, h⟩
    · exact (h.2 c2).elim
def F_J0_checkIndex_df160 (a0 : Int32) (a1 : Int32) (w : Mm) (z : Nat) (Q : Mm → Nat → Prop) : Prop :=
  F_J3_checkIndex_8e157 a0 a1 w z (fun r1 w2 z3 => Q w2 z3)
set_option maxRecDepth 100000 in
set_option maxHeartbeats 4000000 in
theorem ct_J0_checkIndex_df160 {l : Launch} {g : Gp} {d : Nat} (hst : l.stackTraces = false) {a0 : Int32} {a1 : Int32} {w : Mm} {z mc ms : Nat} {Q : Mm → Nat → Prop} {X : String → Mm → Nat → Prop} (h : F_J0_checkIndex_df160 a0 a1 w z Q) : Ct l g yJ0_checkIndex_df160 (.code yJ0_checkIndex_df160 cJ0_checkIndex_df160 2 none) (d + 1) mc ms [.int (a0), .int (a1)] w z (rV Q) X := by
  refine Ct.of hst (by decide) (Nat.le_of_ble_eq_true rfl) (fun C hX hE hg hl hNm => ?_)
  subst hg
  subst hl
  unfold F_J0_checkIndex_df160 at h
  show VW C 0 [(0, .int (a0)), (1, .int (a1))] [] w z mc ms
  refine vw_iload_n hX 0 dJ0_checkIndex_df160_0 rfl ?_
  refine vw_iload_n hX 1 dJ0_checkIndex_df160_1 rfl ?_
  refine vw_getsF hX kw_473 dJ0_checkIndex_df160_2 (fun u => ?_) ?_
  · skip
    refine s_J0_1059 hX dJ0_checkIndex_df160_5 (Nat.le_of_ble_eq_true rfl) (ct_J3_checkIndex_8e157 (d := d + 0) (lst hX) h) (fun r1 w2 z3 h => ?_)
    refine vw_pop hX dJ0_checkIndex_df160_8 rfl ?_
    exact vw_vret hX hE dJ0_checkIndex_df160_9 ⟨rfl, h⟩
  · skip
    refine s_J0_1059_n hX dJ0_checkIndex_df160_5 (Nat.le_of_ble_eq_true rfl) (ct_J3_checkIndex_8e157_n (d := d + 0) (lst hX) h) (fun r1 w2 z3 h => ?_)
    refine vw_pop hX dJ0_checkIndex_df160_8 rfl ?_
    exact vw_vret hX hE dJ0_checkIndex_df160_9 ⟨rfl, h⟩
def F_J1_charAt_3b067 (a0 : Nat) (a1 : Int32) (w : Mm) (z : Nat) (Q : Int32 → Mm → Nat → Prop) : Prop :=
  ∃ n2 f1, arI w a0 1 = some (n2, f1) ∧ F_J0_checkIndex_df160 a1 ((nI n2)) w z (fun w4 z5 => ∃ n7 f6, arI w4 a0 1 = some (n7, f6) ∧ vp_in a1 n7 ∧ narrow .char (.int ((((((f6 (a1 : Int32).toNatClampNeg)) &&& 255) : Int32).toUInt32 % 65536).toInt32)) = .int ((((((f6 (a1 : Int32).toNatClampNeg)) &&& 255) : Int32).toUInt32 % 65536).toInt32) ∧ Q ((((((f6 (a1 : Int32).toNatClampNeg)) &&& 255) : Int32).toUInt32 % 65536).toInt32) w4 z5)
set_option maxRecDepth 100000 in
set_option maxHeartbeats 4000000 in
theorem ct_J1_charAt_3b067 {l : Launch} {g : Gp} {d : Nat} (hst : l.stackTraces = false) {a0 : Nat} {a1 : Int32} {w : Mm} {z mc ms : Nat} {Q : Int32 → Mm → Nat → Prop} {X : String → Mm → Nat → Prop} (h : F_J1_charAt_3b067 a0 a1 w z Q) : Ct l g yJ1_charAt_3b067 (.code yJ1_charAt_3b067 cJ1_charAt_3b067 2 (some .char)) (d + 2) mc ms [.ref (a0), .int (a1)] w z (rI Q) X := by
  refine Ct.of hst (by decide) (Nat.le_of_ble_eq_true rfl) (fun C hX hE hg hl hNm => ?_)
  subst hg
  subst hl
  unfold F_J1_charAt_3b067 at h
  show VW C 0 [(0, .ref (a0)), (1, .int (a1))] [] w z mc ms
  refine vw_iload_n hX 1 dJ1_charAt_3b067_0 rfl ?_
  refine vw_aload_n hX 0 dJ1_charAt_3b067_1 rfl ?_
  obtain ⟨n2, f1, hf1, h⟩ := h
  refine vw_alen hX 1 (by decide) hf1 dJ1_charAt_3b067_2 ?_
  refine s_J1_9 hX dJ1_charAt_3b067_3 (Nat.le_of_ble_eq_true rfl) (ct_J0_checkIndex_df160 (d := d + 0) (lst hX) h) (fun w4 z5 h => ?_)
  refine vw_aload_n hX 0 dJ1_charAt_3b067_6 rfl ?_
  refine vw_iload_n hX 1 dJ1_charAt_3b067_7 rfl ?_
  obtain ⟨n7, f6, hf6, hif6, h⟩ := h
  refine vw_bald hX hf6 hif6 dJ1_charAt_3b067_8 ?_
  refine vw_sipush hX (v := 255) dJ1_charAt_3b067_9 (by decide) ?_
  refine vw_iand hX dJ1_charAt_3b067_12 ?_
  refine vw_i2c hX dJ1_charAt_3b067_13 ?_
  exact vw_zret hX hE dJ1_charAt_3b067_14 h.1 ⟨_, rfl, h.2⟩
def F_J0_charAt_5068e (a0 : Nat) (a1 : Int32) (w : Mm) (z : Nat) (Q : Int32 → Mm → Nat → Prop) : Prop :=
  isO w a0 0 ∧ F_J0_isLatin1_aae02 a0 w z (fun r2 w3 z4 => (r2 = 0 → False) ∧
  (¬ r2 = 0 → ∃ q6, fld w3 a0 0 0 = some (.ref (q6)) ∧ F_J1_charAt_3b067 q6 a1 w3 z4 (fun r7 w8 z9 => narrow .char (.int r7) = .int r7 ∧ Q r7 w8 z9)))
set_option maxRecDepth 100000 in
set_option maxHeartbeats 4000000 in
theorem ct_J0_charAt_5068e {l : Launch} {g : Gp} {d : Nat} (hst : l.stackTraces = false) {a0 : Nat} {a1 : Int32} {w : Mm} {z mc ms : Nat} {Q : Int32 → Mm → Nat → Prop} {X : String → Mm → Nat → Prop} (h : F_J0_charAt_5068e a0 a1 w z Q) : Ct l g yJ0_charAt_5068e (.code yJ0_charAt_5068e cJ0_charAt_5068e 2 (some .char)) (d + 3) mc ms [.ref (a0), .int (a1)] w z (rI Q) X := by
  refine Ct.of hst (by decide) (Nat.le_of_ble_eq_true rfl) (fun C hX hE hg hl hNm => ?_)
  subst hg
  subst hl
  unfold F_J0_charAt_5068e at h
  show VW C 0 [(0, .ref (a0)), (1, .int (a1))] [] w z mc ms
  refine vw_aload_n hX 0 dJ0_charAt_5068e_0 rfl ?_
  obtain ⟨hr1, h⟩ := h
  refine s_J0_492 hX hr1 dJ0_charAt_5068e_1 (Nat.le_of_ble_eq_true rfl) (ct_J0_isLatin1_aae02 (d := d + 2) (lst hX) h) (fun r2 w3 z4 h => ?_)
  refine vw_if_eq hX (tgt := 16) dJ0_charAt_5068e_4 (by decide) (fun c5 => ?_) (fun c5 => ?_)
  · exact (h.1 c5).elim
  · have h := h.2 c5
    refine vw_aload_n hX 0 dJ0_charAt_5068e_7 rfl ?_
    obtain ⟨q6, hq6, h⟩ := h
    refine g_J0_9 hX hq6 dJ0_charAt_5068e_8 ?_
    refine vw_iload_n hX 1 dJ0_charAt_5068e_11 rfl ?_
    refine s_J0_495 hX dJ0_charAt_5068e_12 (Nat.le_of_ble_eq_true rfl) (ct_J1_charAt_3b067 (d := d + 0) (lst hX) h) (fun r7 w8 z9 h => ?_)
    exact vw_zret hX hE dJ0_charAt_5068e_15 h.1 ⟨_, rfl, h.2⟩
def F_J5_init_d00df (a0 : Nat) (a1 : Int32) (w : Mm) (z : Nat) (mc ms : Nat) (Q : Mm → Nat → Prop) : Prop :=
  ¬ (a1 : Int32) < 0 ∧ ∃ n2, (a1 : Int32).toNatClampNeg = n2 ∧ n2 ≤ 10000000 ∧ 1 ≤ mc ∧ n2 ≤ ms ∧ ∀ w1, w1 = mset w z (.inr (1, n2, .inl (fun _ => 0))) → ∃ f3, obj w1 a0 1 = some f3 ∧ 0 < f3.length ∧ ∀ w4, w4 = mset w1 a0 (.inl (1, f3.set 0 (.ref (z)))) → ∃ f5, obj w4 a0 1 = some f5 ∧ 1 < f5.length ∧ ∀ w6, w6 = mset w4 a0 (.inl (1, f5.set 1 (.int (0)))) → Q w6 ((z + 1))
set_option maxRecDepth 100000 in
set_option maxHeartbeats 4000000 in
theorem ct_J5_init_d00df {l : Launch} {g : Gp} {d : Nat} (hst : l.stackTraces = false) {a0 : Nat} {a1 : Int32} {w : Mm} {z mc ms : Nat} {Q : Mm → Nat → Prop} {X : String → Mm → Nat → Prop} (h : F_J5_init_d00df a0 a1 w z mc ms Q) : Ct l g yJ5_init_d00df (.code yJ5_init_d00df cJ5_init_d00df 2 none) (d + 1) mc ms [.ref (a0), .int (a1)] w z (rV Q) X := by
  refine Ct.of hst (by decide) (Nat.le_of_ble_eq_true rfl) (fun C hX hE hg hl hNm => ?_)
  subst hg
  subst hl
  unfold F_J5_init_d00df at h
  show VW C 0 [(0, .ref (a0)), (1, .int (a1))] [] w z mc ms
  refine vw_aload_n hX 0 dJ5_init_d00df_0 rfl ?_
  refine vw_objInit hX kw_331 kw_102 kw_103 (Nat.le_of_ble_eq_true rfl) dJ5_init_d00df_1 ?_
  refine vw_gets hX (v := .int 1) (by decide) kw_332 dJ5_init_d00df_4 ?_
  refine vw_if_eq hX (tgt := 25) dJ5_init_d00df_7 (by decide) (fun c => absurd c (by decide)) (fun c => ?_)
  refine vw_aload_n hX 0 dJ5_init_d00df_10 rfl ?_
  refine vw_iload_n hX 1 dJ5_init_d00df_11 rfl ?_
  obtain ⟨hn0, n2, hN, hb, hm1, hm2, h⟩ := h
  refine vw_newB hX kw_155 hn0 hN hb hm1 hm2 dJ5_init_d00df_12 ?_
  refine vw_nmW (fun w1 ew1 => ?_)
  have h := h w1 ew1
  obtain ⟨f3, hf3, hlf3, h⟩ := h
  refine p_J5_15 hX hf3 hlf3 dJ5_init_d00df_14 ?_
  refine vw_nmW (fun w4 ew4 => ?_)
  have h := h w4 ew4
  refine vw_aload_n hX 0 dJ5_init_d00df_17 rfl ?_
  refine vw_iconst hX (v := 0) dJ5_init_d00df_18 (by decide) ?_
  obtain ⟨f5, hf5, hlf5, h⟩ := h
  refine p_J5_22 hX hf5 hlf5 rfl rfl dJ5_init_d00df_19 ?_
  refine vw_nmW (fun w6 ew6 => ?_)
  have h := h w6 ew6
  refine vw_goto hX (tgt := 38) dJ5_init_d00df_22 (by decide) ?_
  exact vw_vret hX hE dJ5_init_d00df_38 ⟨rfl, h⟩
def F_J4_init_da8c8 (a0 : Nat) (w : Mm) (z : Nat) (mc ms : Nat) (Q : Mm → Nat → Prop) : Prop :=
  ∃ k4 k5, k4 ≤ mc ∧ k5 ≤ ms ∧ F_J5_init_d00df a0 16 w z k4 k5 (fun w2 z3 => Q w2 z3)
set_option maxRecDepth 100000 in
set_option maxHeartbeats 4000000 in
theorem ct_J4_init_da8c8 {l : Launch} {g : Gp} {d : Nat} (hst : l.stackTraces = false) {a0 : Nat} {w : Mm} {z mc ms : Nat} {Q : Mm → Nat → Prop} {X : String → Mm → Nat → Prop} (h : F_J4_init_da8c8 a0 w z mc ms Q) : Ct l g yJ4_init_da8c8 (.code yJ4_init_da8c8 cJ4_init_da8c8 1 none) (d + 2) mc ms [.ref (a0)] w z (rV Q) X := by
  refine Ct.of hst (by decide) (Nat.le_of_ble_eq_true rfl) (fun C hX hE hg hl hNm => ?_)
  subst hg
  subst hl
  unfold F_J4_init_da8c8 at h
  show VW C 0 [(0, .ref (a0))] [] w z mc ms
  refine vw_aload_n hX 0 dJ4_init_da8c8_0 rfl ?_
  refine vw_bipush hX (v := 16) dJ4_init_da8c8_1 (by decide) ?_
  obtain ⟨k4, k5, hm1, hm2, h⟩ := h
  refine s_J4_1 hX dJ4_init_da8c8_3 (Nat.le_of_ble_eq_true rfl) hm1 hm2 (ct_J5_init_d00df (d := d + 0) (lst hX) h) (fun w2 z3 h => ?_)
  exact vw_vret hX hE dJ4_init_da8c8_6 ⟨rfl, h⟩
def F_J8_newLength_cabcc (a0 : Int32) (a1 : Int32) (a2 : Int32) (w : Mm) (z : Nat) (Q : Int32 → Mm → Nat → Prop) : Prop :=
  ∀ i1 : Int32, i1 = (a0 + ((jmax a1 a2))) → (i1 ≤ 0 → False) ∧
  (¬ i1 ≤ 0 → (2147483639 < i1 → False) ∧
  (¬ 2147483639 < i1 → Q i1 w z))
set_option maxRecDepth 100000 in
set_option maxHeartbeats 4000000 in
theorem ct_J8_newLength_cabcc {l : Launch} {g : Gp} {d : Nat} (hst : l.stackTraces = false) {a0 : Int32} {a1 : Int32} {a2 : Int32} {w : Mm} {z mc ms : Nat} {Q : Int32 → Mm → Nat → Prop} {X : String → Mm → Nat → Prop} (h : F_J8_newLength_cabcc a0 a1 a2 w z Q) : Ct l g yJ8_newLength_cabcc (.code yJ8_newLength_cabcc cJ8_newLength_cabcc 4 (some .int)) (d + 1) mc ms [.int (a0), .int (a1), .int (a2)] w z (rI Q) X := by
  refine Ct.of hst (by decide) (Nat.le_of_ble_eq_true rfl) (fun C hX hE hg hl hNm => ?_)
  subst hg
  subst hl
  unfold F_J8_newLength_cabcc at h
  show VW C 0 [(0, .int (a0)), (1, .int (a1)), (2, .int (a2))] [] w z mc ms
  refine vw_iload_n hX 0 dJ8_newLength_cabcc_0 rfl ?_
  refine vw_iload_n hX 1 dJ8_newLength_cabcc_1 rfl ?_
  refine vw_iload_n hX 2 dJ8_newLength_cabcc_2 rfl ?_
  refine vw_mmax hX kw_556 (Nat.le_of_ble_eq_true rfl) dJ8_newLength_cabcc_3 ?_
  refine vw_iadd hX dJ8_newLength_cabcc_6 ?_
  refine vw_nmI (fun i1 ei1 => ?_)
  have h := h i1 ei1
  refine vw_istore_n hX dJ8_newLength_cabcc_7 (by decide) rfl ?_
  refine vw_iconst hX (v := 0) dJ8_newLength_cabcc_8 (by decide) ?_
  refine vw_iload_n hX 0 dJ8_newLength_cabcc_9 rfl ?_
  refine vw_icmp_ge hX (tgt := 21) dJ8_newLength_cabcc_10 (by decide) (fun c2 => ?_) (fun c2 => ?_)
  · exact (h.1 c2).elim
  · have h := h.2 c2
    refine vw_iload_n hX 0 dJ8_newLength_cabcc_13 rfl ?_
    refine vw_ldcI hX kw_559 dJ8_newLength_cabcc_14 ?_
    refine vw_icmp_gt hX (tgt := 21) dJ8_newLength_cabcc_16 (by decide) (fun c3 => ?_) (fun c3 => ?_)
    · exact (h.1 c3).elim
    · have h := h.2 c3
      refine vw_iload_n hX 0 dJ8_newLength_cabcc_19 rfl ?_
      exact vw_iret hX hE dJ8_newLength_cabcc_20 ⟨_, rfl, h⟩
def F_J5_newCapacity_0f7a4 (a0 : Nat) (a1 : Int32) (w : Mm) (z : Nat) (Q : Int32 → Mm → Nat → Prop) : Prop :=
  ∃ q1, fld w a0 1 0 = some (.ref (q1)) ∧ ∃ n3 f2, arI w q1 1 = some (n3, f2) ∧ ∀ i4 : Int32, i4 = (nI n3) → ∃ v5, fld w a0 1 1 = some (.int (v5)) ∧ ∀ i6 : Int32, i6 = (a1 <<< (v5 &&& 31)) → ∀ i7 : Int32, i7 = (i6 - i4) → ∃ v8, fld w a0 1 1 = some (.int (v8)) ∧ F_J8_newLength_cabcc i4 i7 ((i4 + ((2 <<< (v8 &&& 31))))) w z (fun r9 w10 z11 => (¬ r9 = 2147483647 → ∃ v13, fld w10 a0 1 1 = some (.int (v13)) ∧ Q ((r9 >>> (v13 &&& 31))) w10 z11) ∧
  (r9 = 2147483647 → False))
set_option maxRecDepth 100000 in
set_option maxHeartbeats 4000000 in
theorem ct_J5_newCapacity_0f7a4 {l : Launch} {g : Gp} {d : Nat} (hst : l.stackTraces = false) {a0 : Nat} {a1 : Int32} {w : Mm} {z mc ms : Nat} {Q : Int32 → Mm → Nat → Prop} {X : String → Mm → Nat → Prop} (h : F_J5_newCapacity_0f7a4 a0 a1 w z Q) : Ct l g yJ5_newCapacity_0f7a4 (.code yJ5_newCapacity_0f7a4 cJ5_newCapacity_0f7a4 6 (some .int)) (d + 2) mc ms [.ref (a0), .int (a1)] w z (rI Q) X := by
  refine Ct.of hst (by decide) (Nat.le_of_ble_eq_true rfl) (fun C hX hE hg hl hNm => ?_)
  subst hg
  subst hl
  unfold F_J5_newCapacity_0f7a4 at h
  show VW C 0 [(0, .ref (a0)), (1, .int (a1))] [] w z mc ms
  refine vw_aload_n hX 0 dJ5_newCapacity_0f7a4_0 rfl ?_
  obtain ⟨q1, hq1, h⟩ := h
  refine g_J5_15 hX hq1 dJ5_newCapacity_0f7a4_1 ?_
  obtain ⟨n3, f2, hf2, h⟩ := h
  refine vw_alen hX 1 (by decide) hf2 dJ5_newCapacity_0f7a4_4 ?_
  refine vw_nmI (fun i4 ei4 => ?_)
  have h := h i4 ei4
  refine vw_istore_n hX dJ5_newCapacity_0f7a4_5 (by decide) rfl ?_
  refine vw_iload_n hX 2 dJ5_newCapacity_0f7a4_6 rfl ?_
  refine vw_aload_n hX 1 dJ5_newCapacity_0f7a4_7 rfl ?_
  obtain ⟨v5, hv5, h⟩ := h
  refine g_J5_22 hX hv5 dJ5_newCapacity_0f7a4_8 ?_
  refine vw_ishl hX dJ5_newCapacity_0f7a4_11 ?_
  refine vw_nmI (fun i6 ei6 => ?_)
  have h := h i6 ei6
  refine vw_istore_n hX dJ5_newCapacity_0f7a4_12 (by decide) rfl ?_
  refine vw_iload_n hX 0 dJ5_newCapacity_0f7a4_13 rfl ?_
  refine vw_iload_n hX 1 dJ5_newCapacity_0f7a4_14 rfl ?_
  refine vw_isub hX dJ5_newCapacity_0f7a4_15 ?_
  refine vw_nmI (fun i7 ei7 => ?_)
  have h := h i7 ei7
  refine vw_istore hX dJ5_newCapacity_0f7a4_16 (by decide) rfl ?_
  refine vw_iload_n hX 2 dJ5_newCapacity_0f7a4_18 rfl ?_
  refine vw_iload hX 0 dJ5_newCapacity_0f7a4_19 rfl ?_
  refine vw_iload_n hX 2 dJ5_newCapacity_0f7a4_21 rfl ?_
  refine vw_iconst hX (v := 2) dJ5_newCapacity_0f7a4_22 (by decide) ?_
  refine vw_aload_n hX 3 dJ5_newCapacity_0f7a4_23 rfl ?_
  obtain ⟨v8, hv8, h⟩ := h
  refine g_J5_22 hX hv8 dJ5_newCapacity_0f7a4_24 ?_
  refine vw_ishl hX dJ5_newCapacity_0f7a4_27 ?_
  refine vw_iadd hX dJ5_newCapacity_0f7a4_28 ?_
  refine s_J5_114 hX dJ5_newCapacity_0f7a4_29 (Nat.le_of_ble_eq_true rfl) (ct_J8_newLength_cabcc (d := d + 0) (lst hX) h) (fun r9 w10 z11 h => ?_)
  refine vw_istore hX dJ5_newCapacity_0f7a4_32 (by decide) rfl ?_
  refine vw_iload hX 0 dJ5_newCapacity_0f7a4_34 rfl ?_
  refine vw_ldcI hX kw_563 dJ5_newCapacity_0f7a4_36 ?_
  refine vw_icmp_ne hX (tgt := 51) dJ5_newCapacity_0f7a4_38 (by decide) (fun c12 => ?_) (fun c12 => ?_)
  · have h := h.1 c12
    refine vw_iload hX 0 dJ5_newCapacity_0f7a4_51 rfl ?_
    refine vw_aload_n hX 4 dJ5_newCapacity_0f7a4_53 rfl ?_
    obtain ⟨v13, hv13, h⟩ := h
    refine g_J5_22 hX hv13 dJ5_newCapacity_0f7a4_54 ?_
    refine vw_ishr hX dJ5_newCapacity_0f7a4_57 ?_
    exact vw_iret hX hE dJ5_newCapacity_0f7a4_58 ⟨_, rfl, h⟩
  · exact (h.2 c12).elim
def F_J7_copyOf_9075b (a0 : Nat) (a1 : Int32) (w : Mm) (z : Nat) (mc ms : Nat) (Q : Nat → Mm → Nat → Prop) : Prop :=
  ∃ n2 f1, arI w a0 1 = some (n2, f1) ∧ (¬ a1 = ((nI n2)) → ¬ (a1 : Int32) < 0 ∧ ∃ n5, (a1 : Int32).toNatClampNeg = n5 ∧ n5 ≤ 10000000 ∧ 1 ≤ mc ∧ n5 ≤ ms ∧ ∀ w4, w4 = mset w z (.inr (1, n5, .inl (fun _ => 0))) → ∃ n7 f6, arI w4 a0 1 = some (n7, f6) ∧ ∃ n9 f8 n11 f10, arI w4 a0 1 = some (n9, f8) ∧ arW w4 z 1 = some (n11, f10) ∧ ¬ (0 : Int32) < 0 ∧ ¬ (0 : Int32) < 0 ∧ ¬ ((jmin ((nI n7)) a1) : Int32) < 0 ∧ (0 : Int32).toNatClampNeg + ((jmin ((nI n7)) a1) : Int32).toNatClampNeg ≤ n9 ∧ (0 : Int32).toNatClampNeg + ((jmin ((nI n7)) a1) : Int32).toNatClampNeg ≤ n11 ∧ sb_Fit f8 ∧ ∀ w12, w12 = mset w4 z (.inr (1, n11, .inl (va_cpy f8 f10 (0 : Int32).toNatClampNeg (0 : Int32).toNatClampNeg ((jmin ((nI n7)) a1) : Int32).toNatClampNeg))) → Q z w12 ((z + 1))) ∧
  (a1 = ((nI n2)) → False)
set_option maxRecDepth 100000 in
set_option maxHeartbeats 4000000 in
theorem ct_J7_copyOf_9075b {l : Launch} {g : Gp} {d : Nat} (hst : l.stackTraces = false) {a0 : Nat} {a1 : Int32} {w : Mm} {z mc ms : Nat} {Q : Nat → Mm → Nat → Prop} {X : String → Mm → Nat → Prop} (h : F_J7_copyOf_9075b a0 a1 w z mc ms Q) : Ct l g yJ7_copyOf_9075b (.code yJ7_copyOf_9075b cJ7_copyOf_9075b 3 (some (.array .byte))) (d + 2) mc ms [.ref (a0), .int (a1)] w z (rR Q) X := by
  refine Ct.of hst (by decide) (Nat.le_of_ble_eq_true rfl) (fun C hX hE hg hl hNm => ?_)
  subst hg
  subst hl
  unfold F_J7_copyOf_9075b at h
  show VW C 0 [(0, .ref (a0)), (1, .int (a1))] [] w z mc ms
  refine vw_iload_n hX 1 dJ7_copyOf_9075b_0 rfl ?_
  refine vw_aload_n hX 0 dJ7_copyOf_9075b_1 rfl ?_
  obtain ⟨n2, f1, hf1, h⟩ := h
  refine vw_alen hX 1 (by decide) hf1 dJ7_copyOf_9075b_2 ?_
  refine vw_icmp_ne hX (tgt := 14) dJ7_copyOf_9075b_3 (by decide) (fun c3 => ?_) (fun c3 => ?_)
  · have h := h.1 c3
    refine vw_iload_n hX 1 dJ7_copyOf_9075b_14 rfl ?_
    obtain ⟨hn0, n5, hN, hb, hm1, hm2, h⟩ := h
    refine vw_newB hX kw_155 hn0 hN hb hm1 hm2 dJ7_copyOf_9075b_15 ?_
    refine vw_nmW (fun w4 ew4 => ?_)
    have h := h w4 ew4
    refine vw_astore_n hX dJ7_copyOf_9075b_17 (by decide) rfl ?_
    refine vw_aload_n hX 1 dJ7_copyOf_9075b_18 rfl ?_
    refine vw_iconst hX (v := 0) dJ7_copyOf_9075b_19 (by decide) ?_
    refine vw_aload_n hX 0 dJ7_copyOf_9075b_20 rfl ?_
    refine vw_iconst hX (v := 0) dJ7_copyOf_9075b_21 (by decide) ?_
    refine vw_aload_n hX 1 dJ7_copyOf_9075b_22 rfl ?_
    obtain ⟨n7, f6, hf6, h⟩ := h
    refine vw_alen hX 1 (by decide) hf6 dJ7_copyOf_9075b_23 ?_
    refine vw_iload_n hX 2 dJ7_copyOf_9075b_24 rfl ?_
    refine vw_mmin hX kw_574 (Nat.le_of_ble_eq_true rfl) dJ7_copyOf_9075b_25 ?_
    obtain ⟨n9, f8, n11, f10, hc1, hc2, hc3, hc4, hc5, hc6, hc7, hft, h⟩ := h
    refine vw_copy hX 1 (by decide) kw_575 rfl hc1 hc2 hc3 hc4 hc5 hc6 hc7 (fun i _ => hft _) (Nat.le_of_ble_eq_true rfl) dJ7_copyOf_9075b_28 ?_
    refine vw_nmW (fun w12 ew12 => ?_)
    have h := h w12 ew12
    refine vw_aload_n hX 0 dJ7_copyOf_9075b_31 rfl ?_
    exact vw_aret hX hE (Or.inr ⟨_, rfl⟩) dJ7_copyOf_9075b_32 ⟨_, rfl, h⟩
  · exact (h.2 c3).elim
def F_J5_ensureCapacityInternal_d00df (a0 : Nat) (a1 : Int32) (w : Mm) (z : Nat) (mc ms : Nat) (Q : Mm → Nat → Prop) : Prop :=
  ∃ q1, fld w a0 1 0 = some (.ref (q1)) ∧ ∃ n3 f2, arI w q1 1 = some (n3, f2) ∧ ∃ v4, fld w a0 1 1 = some (.int (v4)) ∧ ∀ i5 : Int32, i5 = (((nI n3)) >>> (v4 &&& 31)) → (((a1 - i5)) ≤ 0 → Q w z) ∧
  (¬ ((a1 - i5)) ≤ 0 → ∃ q7, fld w a0 1 0 = some (.ref (q7)) ∧ isO w a0 1 ∧ F_J5_newCapacity_0f7a4 a0 a1 w z (fun r9 w10 z11 => ∃ v12, fld w10 a0 1 1 = some (.int (v12)) ∧ ∃ k16 k17, k16 ≤ mc ∧ k17 ≤ ms ∧ F_J7_copyOf_9075b q7 ((r9 <<< (v12 &&& 31))) w10 z11 k16 k17 (fun r13 w14 z15 => ∃ f18, obj w14 a0 1 = some f18 ∧ 0 < f18.length ∧ ∀ w19, w19 = mset w14 a0 (.inl (1, f18.set 0 (.ref (r13)))) → Q w19 z15)))
set_option maxRecDepth 100000 in
set_option maxHeartbeats 4000000 in
theorem ct_J5_ensureCapacityInternal_d00df {l : Launch} {g : Gp} {d : Nat} (hst : l.stackTraces = false) {a0 : Nat} {a1 : Int32} {w : Mm} {z mc ms : Nat} {Q : Mm → Nat → Prop} {X : String → Mm → Nat → Prop} (h : F_J5_ensureCapacityInternal_d00df a0 a1 w z mc ms Q) : Ct l g yJ5_ensureCapacityInternal_d00df (.code yJ5_ensureCapacityInternal_d00df cJ5_ensureCapacityInternal_d00df 3 none) (d + 3) mc ms [.ref (a0), .int (a1)] w z (rV Q) X := by
  refine Ct.of hst (by decide) (Nat.le_of_ble_eq_true rfl) (fun C hX hE hg hl hNm => ?_)
  subst hg
  subst hl
  unfold F_J5_ensureCapacityInternal_d00df at h
  show VW C 0 [(0, .ref (a0)), (1, .int (a1))] [] w z mc ms
  refine vw_aload_n hX 0 dJ5_ensureCapacityInternal_d00df_0 rfl ?_
  obtain ⟨q1, hq1, h⟩ := h
  refine g_J5_15 hX hq1 dJ5_ensureCapacityInternal_d00df_1 ?_
  obtain ⟨n3, f2, hf2, h⟩ := h
  refine vw_alen hX 1 (by decide) hf2 dJ5_ensureCapacityInternal_d00df_4 ?_
  refine vw_aload_n hX 0 dJ5_ensureCapacityInternal_d00df_5 rfl ?_
  obtain ⟨v4, hv4, h⟩ := h
  refine g_J5_22 hX hv4 dJ5_ensureCapacityInternal_d00df_6 ?_
  refine vw_ishr hX dJ5_ensureCapacityInternal_d00df_9 ?_
  refine vw_nmI (fun i5 ei5 => ?_)
  have h := h i5 ei5
  refine vw_istore_n hX dJ5_ensureCapacityInternal_d00df_10 (by decide) rfl ?_
  refine vw_iload_n hX 2 dJ5_ensureCapacityInternal_d00df_11 rfl ?_
  refine vw_iload_n hX 0 dJ5_ensureCapacityInternal_d00df_12 rfl ?_
  refine vw_isub hX dJ5_ensureCapacityInternal_d00df_13 ?_
  refine vw_if_le hX (tgt := 38) dJ5_ensureCapacityInternal_d00df_14 (by decide) (fun c6 => ?_) (fun c6 => ?_)
  · have h := h.1 c6
    exact vw_vret hX hE dJ5_ensureCapacityInternal_d00df_38 ⟨rfl, h⟩
  · have h := h.2 c6
    refine vw_aload_n hX 1 dJ5_ensureCapacityInternal_d00df_17 rfl ?_
    refine vw_aload_n hX 1 dJ5_ensureCapacityInternal_d00df_18 rfl ?_
    obtain ⟨q7, hq7, h⟩ := h
    refine g_J5_15 hX hq7 dJ5_ensureCapacityInternal_d00df_19 ?_
    refine vw_aload_n hX 1 dJ5_ensureCapacityInternal_d00df_22 rfl ?_
    refine vw_iload_n hX 2 dJ5_ensureCapacityInternal_d00df_23 rfl ?_
    obtain ⟨hr8, h⟩ := h
    refine s_J5_104 hX hr8 dJ5_ensureCapacityInternal_d00df_24 (Nat.le_of_ble_eq_true rfl) (ct_J5_newCapacity_0f7a4 (d := d + 0) (lst hX) h) (fun r9 w10 z11 h => ?_)
    refine vw_aload_n hX 1 dJ5_ensureCapacityInternal_d00df_27 rfl ?_
    obtain ⟨v12, hv12, h⟩ := h
    refine g_J5_22 hX hv12 dJ5_ensureCapacityInternal_d00df_28 ?_
    refine vw_ishl hX dJ5_ensureCapacityInternal_d00df_31 ?_
    obtain ⟨k16, k17, hm1, hm2, h⟩ := h
    refine s_J5_108 hX dJ5_ensureCapacityInternal_d00df_32 (Nat.le_of_ble_eq_true rfl) hm1 hm2 (ct_J7_copyOf_9075b (d := d + 0) (lst hX) h) (fun r13 w14 z15 h => ?_)
    obtain ⟨f18, hf18, hlf18, h⟩ := h
    refine p_J5_15 hX hf18 hlf18 dJ5_ensureCapacityInternal_d00df_35 ?_
    refine vw_nmW (fun w19 ew19 => ?_)
    have h := h w19 ew19
    exact vw_vret hX hE dJ5_ensureCapacityInternal_d00df_38 ⟨rfl, h⟩
def F_J5_isLatin1_aae02 (a0 : Nat) (w : Mm) (z : Nat) (Q : Int32 → Mm → Nat → Prop) : Prop :=
  ∃ v1, fld w a0 1 1 = some (.int (v1)) ∧ (¬ v1 = 0 → Q 0 w z) ∧
  (v1 = 0 → Q 1 w z)
set_option maxRecDepth 100000 in
set_option maxHeartbeats 4000000 in
theorem ct_J5_isLatin1_aae02 {l : Launch} {g : Gp} {d : Nat} (hst : l.stackTraces = false) {a0 : Nat} {w : Mm} {z mc ms : Nat} {Q : Int32 → Mm → Nat → Prop} {X : String → Mm → Nat → Prop} (h : F_J5_isLatin1_aae02 a0 w z Q) : Ct l g yJ5_isLatin1_aae02 (.code yJ5_isLatin1_aae02 cJ5_isLatin1_aae02 1 (some .boolean)) (d + 0) mc ms [.ref (a0)] w z (rI Q) X := by
  refine Ct.of hst (by decide) (Nat.le_of_ble_eq_true rfl) (fun C hX hE hg hl hNm => ?_)
  subst hg
  subst hl
  unfold F_J5_isLatin1_aae02 at h
  show VW C 0 [(0, .ref (a0))] [] w z mc ms
  refine vw_gets hX (v := .int 1) (by decide) kw_332 dJ5_isLatin1_aae02_0 ?_
  refine vw_if_eq hX (tgt := 17) dJ5_isLatin1_aae02_3 (by decide) (fun c => absurd c (by decide)) (fun c => ?_)
  refine vw_aload_n hX 0 dJ5_isLatin1_aae02_6 rfl ?_
  obtain ⟨v1, hv1, h⟩ := h
  refine g_J5_22 hX hv1 dJ5_isLatin1_aae02_7 ?_
  refine vw_if_ne hX (tgt := 17) dJ5_isLatin1_aae02_10 (by decide) (fun c2 => ?_) (fun c2 => ?_)
  · have h := h.1 c2
    refine vw_iconst hX (v := 0) dJ5_isLatin1_aae02_17 (by decide) ?_
    exact vw_zret hX hE dJ5_isLatin1_aae02_18 rfl ⟨_, rfl, h⟩
  · have h := h.2 c2
    refine vw_iconst hX (v := 1) dJ5_isLatin1_aae02_13 (by decide) ?_
    refine vw_goto hX (tgt := 18) dJ5_isLatin1_aae02_14 (by decide) ?_
    exact vw_zret hX hE dJ5_isLatin1_aae02_18 rfl ⟨_, rfl, h⟩
def F_J1_canEncode_fc78d (a0 : Int32) (w : Mm) (z : Nat) (Q : Int32 → Mm → Nat → Prop) : Prop :=
  (255 < a0 → Q 0 w z) ∧
  (¬ 255 < a0 → Q 1 w z)
set_option maxRecDepth 100000 in
set_option maxHeartbeats 4000000 in
theorem ct_J1_canEncode_fc78d {l : Launch} {g : Gp} {d : Nat} (hst : l.stackTraces = false) {a0 : Int32} {w : Mm} {z mc ms : Nat} {Q : Int32 → Mm → Nat → Prop} {X : String → Mm → Nat → Prop} (h : F_J1_canEncode_fc78d a0 w z Q) : Ct l g yJ1_canEncode_fc78d (.code yJ1_canEncode_fc78d cJ1_canEncode_fc78d 1 (some .boolean)) (d + 0) mc ms [.int (a0)] w z (rI Q) X := by
  refine Ct.of hst (by decide) (Nat.le_of_ble_eq_true rfl) (fun C hX hE hg hl hNm => ?_)
  subst hg
  subst hl
  unfold F_J1_canEncode_fc78d at h
  show VW C 0 [(0, .int (a0))] [] w z mc ms
  refine vw_iload_n hX 0 dJ1_canEncode_fc78d_0 rfl ?_
  refine vw_sipush hX (v := 255) dJ1_canEncode_fc78d_1 (by decide) ?_
  refine vw_icmp_gt hX (tgt := 11) dJ1_canEncode_fc78d_4 (by decide) (fun c1 => ?_) (fun c1 => ?_)
  · have h := h.1 c1
    refine vw_iconst hX (v := 0) dJ1_canEncode_fc78d_11 (by decide) ?_
    exact vw_zret hX hE dJ1_canEncode_fc78d_12 rfl ⟨_, rfl, h⟩
  · have h := h.2 c1
    refine vw_iconst hX (v := 1) dJ1_canEncode_fc78d_7 (by decide) ?_
    refine vw_goto hX (tgt := 12) dJ1_canEncode_fc78d_8 (by decide) ?_
    exact vw_zret hX hE dJ1_canEncode_fc78d_12 rfl ⟨_, rfl, h⟩
def F_J5_append_3fe6f (a0 : Nat) (a1 : Int32) (w : Mm) (z : Nat) (mc ms : Nat) (Q : Nat → Mm → Nat → Prop) : Prop :=
  ∃ v1, fld w a0 1 3 = some (.int (v1)) ∧ isO w a0 1 ∧ ∃ k6 k7, k6 ≤ mc ∧ k7 ≤ ms ∧ F_J5_ensureCapacityInternal_d00df a0 ((v1 + 1)) w z k6 k7 (fun w4 z5 => isO w4 a0 1 ∧ F_J5_isLatin1_aae02 a0 w4 z5 (fun r9 w10 z11 => (r9 = 0 → False) ∧
  (¬ r9 = 0 → F_J1_canEncode_fc78d a1 w10 z11 (fun r13 w14 z15 => (r13 = 0 → False) ∧
  (¬ r13 = 0 → ∃ q17, fld w14 a0 1 0 = some (.ref (q17)) ∧ ∃ v18, fld w14 a0 1 3 = some (.int (v18)) ∧ ∃ f19, obj w14 a0 1 = some f19 ∧ 3 < f19.length ∧ ∀ w20, w20 = mset w14 a0 (.inl (1, f19.set 3 (.int ((v18 + 1))))) → ∃ n22 f21, arW w20 q17 1 = some (n22, f21) ∧ vp_in v18 n22 ∧ ∀ w23, w23 = mset w20 q17 (.inr (1, n22, .inl (upd f21 (v18 : Int32).toNatClampNeg (vp_nar .byte ((a1 : Int32).toInt8.toInt32))))) → Q a0 w23 z15)))))
set_option maxRecDepth 100000 in
set_option maxHeartbeats 4000000 in
theorem ct_J5_append_3fe6f {l : Launch} {g : Gp} {d : Nat} (hst : l.stackTraces = false) {a0 : Nat} {a1 : Int32} {w : Mm} {z mc ms : Nat} {Q : Nat → Mm → Nat → Prop} {X : String → Mm → Nat → Prop} (h : F_J5_append_3fe6f a0 a1 w z mc ms Q) : Ct l g yJ5_append_3fe6f (.code yJ5_append_3fe6f cJ5_append_3fe6f 2 (some (.object "java/lang/AbstractStringBuilder"))) (d + 4) mc ms [.ref (a0), .int (a1)] w z (rR Q) X := by
  refine Ct.of hst (by decide) (Nat.le_of_ble_eq_true rfl) (fun C hX hE hg hl hNm => ?_)
  subst hg
  subst hl
  unfold F_J5_append_3fe6f at h
  show VW C 0 [(0, .ref (a0)), (1, .int (a1))] [] w z mc ms
  refine vw_aload_n hX 0 dJ5_append_3fe6f_0 rfl ?_
  refine vw_aload_n hX 0 dJ5_append_3fe6f_1 rfl ?_
  obtain ⟨v1, hv1, h⟩ := h
  refine g_J5_79 hX hv1 dJ5_append_3fe6f_2 ?_
  refine vw_iconst hX (v := 1) dJ5_append_3fe6f_5 (by decide) ?_
  refine vw_iadd hX dJ5_append_3fe6f_6 ?_
  obtain ⟨hr2, h⟩ := h
  obtain ⟨k6, k7, hm1, hm2, h⟩ := h
  refine s_J5_100 hX hr2 dJ5_append_3fe6f_7 (Nat.le_of_ble_eq_true rfl) hm1 hm2 (ct_J5_ensureCapacityInternal_d00df (d := d + 0) (lst hX) h) (fun w4 z5 h => ?_)
  refine vw_aload_n hX 0 dJ5_append_3fe6f_10 rfl ?_
  obtain ⟨hr8, h⟩ := h
  refine s_J5_83 hX hr8 dJ5_append_3fe6f_11 (Nat.le_of_ble_eq_true rfl) (ct_J5_isLatin1_aae02 (d := d + 3) (lst hX) h) (fun r9 w10 z11 h => ?_)
  refine vw_if_eq hX (tgt := 45) dJ5_append_3fe6f_14 (by decide) (fun c12 => ?_) (fun c12 => ?_)
  · exact (h.1 c12).elim
  · have h := h.2 c12
    refine vw_iload_n hX 1 dJ5_append_3fe6f_17 rfl ?_
    refine s_J5_191 hX dJ5_append_3fe6f_18 (Nat.le_of_ble_eq_true rfl) (ct_J1_canEncode_fc78d (d := d + 3) (lst hX) h) (fun r13 w14 z15 h => ?_)
    refine vw_if_eq hX (tgt := 45) dJ5_append_3fe6f_21 (by decide) (fun c16 => ?_) (fun c16 => ?_)
    · exact (h.1 c16).elim
    · have h := h.2 c16
      refine vw_aload_n hX 0 dJ5_append_3fe6f_24 rfl ?_
      obtain ⟨q17, hq17, h⟩ := h
      refine g_J5_15 hX hq17 dJ5_append_3fe6f_25 ?_
      refine vw_aload_n hX 0 dJ5_append_3fe6f_28 rfl ?_
      refine vw_dup hX dJ5_append_3fe6f_29 rfl ?_
      obtain ⟨v18, hv18, h⟩ := h
      refine g_J5_79 hX hv18 dJ5_append_3fe6f_30 ?_
      refine vw_dup_x1 hX dJ5_append_3fe6f_33 rfl rfl ?_
      refine vw_iconst hX (v := 1) dJ5_append_3fe6f_34 (by decide) ?_
      refine vw_iadd hX dJ5_append_3fe6f_35 ?_
      obtain ⟨f19, hf19, hlf19, h⟩ := h
      refine p_J5_79 hX hf19 hlf19 dJ5_append_3fe6f_36 ?_
      refine vw_nmW (fun w20 ew20 => ?_)
      have h := h w20 ew20
      refine vw_iload_n hX 1 dJ5_append_3fe6f_39 rfl ?_
      refine vw_i2b hX dJ5_append_3fe6f_40 ?_
      obtain ⟨n22, f21, hf21, hif21, h⟩ := h
      refine vw_bast hX hf21 hif21 dJ5_append_3fe6f_41 ?_
      refine vw_nmW (fun w23 ew23 => ?_)
      have h := h w23 ew23
      refine vw_goto hX (tgt := 75) dJ5_append_3fe6f_42 (by decide) ?_
      refine vw_aload_n hX 0 dJ5_append_3fe6f_75 rfl ?_
      exact vw_aret hX hE (Or.inl ⟨_, rfl⟩) dJ5_append_3fe6f_76 ⟨_, rfl, h⟩
def F_J4_append_cf468 (a0 : Nat) (a1 : Int32) (w : Mm) (z : Nat) (mc ms : Nat) (Q : Nat → Mm → Nat → Prop) : Prop :=
  isO w a0 1 ∧ ∃ k5 k6, k5 ≤ mc ∧ k6 ≤ ms ∧ F_J5_append_3fe6f a0 a1 w z k5 k6 (fun r2 w3 z4 => Q a0 w3 z4)
set_option maxRecDepth 100000 in
set_option maxHeartbeats 4000000 in
theorem ct_J4_append_cf468 {l : Launch} {g : Gp} {d : Nat} (hst : l.stackTraces = false) {a0 : Nat} {a1 : Int32} {w : Mm} {z mc ms : Nat} {Q : Nat → Mm → Nat → Prop} {X : String → Mm → Nat → Prop} (h : F_J4_append_cf468 a0 a1 w z mc ms Q) : Ct l g yJ4_append_cf468 (.code yJ4_append_cf468 cJ4_append_cf468 2 (some (.object "java/lang/StringBuilder"))) (d + 5) mc ms [.ref (a0), .int (a1)] w z (rR Q) X := by
  refine Ct.of hst (by decide) (Nat.le_of_ble_eq_true rfl) (fun C hX hE hg hl hNm => ?_)
  subst hg
  subst hl
  unfold F_J4_append_cf468 at h
  show VW C 0 [(0, .ref (a0)), (1, .int (a1))] [] w z mc ms
  refine vw_aload_n hX 0 dJ4_append_cf468_0 rfl ?_
  refine vw_iload_n hX 1 dJ4_append_cf468_1 rfl ?_
  obtain ⟨hr1, h⟩ := h
  obtain ⟨k5, k6, hm1, hm2, h⟩ := h
  refine s_J4_50 hX hr1 dJ4_append_cf468_2 (Nat.le_of_ble_eq_true rfl) hm1 hm2 (ct_J5_append_3fe6f (d := d + 0) (lst hX) h) (fun r2 w3 z4 h => ?_)
  refine vw_pop hX dJ4_append_cf468_5 rfl ?_
  refine vw_aload_n hX 0 dJ4_append_cf468_6 rfl ?_
  exact vw_aret hX hE (Or.inl ⟨_, rfl⟩) dJ4_append_cf468_7 ⟨_, rfl, h⟩
def F_J5_getValue_6d5f1 (a0 : Nat) (w : Mm) (z : Nat) (Q : Nat → Mm → Nat → Prop) : Prop :=
  ∃ q1, fld w a0 1 0 = some (.ref (q1)) ∧ Q q1 w z
set_option maxRecDepth 100000 in
set_option maxHeartbeats 4000000 in
theorem ct_J5_getValue_6d5f1 {l : Launch} {g : Gp} {d : Nat} (hst : l.stackTraces = false) {a0 : Nat} {w : Mm} {z mc ms : Nat} {Q : Nat → Mm → Nat → Prop} {X : String → Mm → Nat → Prop} (h : F_J5_getValue_6d5f1 a0 w z Q) : Ct l g yJ5_getValue_6d5f1 (.code yJ5_getValue_6d5f1 cJ5_getValue_6d5f1 1 (some (.array .byte))) (d + 0) mc ms [.ref (a0)] w z (rR Q) X := by
  refine Ct.of hst (by decide) (Nat.le_of_ble_eq_true rfl) (fun C hX hE hg hl hNm => ?_)
  subst hg
  subst hl
  unfold F_J5_getValue_6d5f1 at h
  show VW C 0 [(0, .ref (a0))] [] w z mc ms
  refine vw_aload_n hX 0 dJ5_getValue_6d5f1_0 rfl ?_
  obtain ⟨q1, hq1, h⟩ := h
  refine g_J5_15 hX hq1 dJ5_getValue_6d5f1_1 ?_
  exact vw_aret hX hE (Or.inr ⟨_, rfl⟩) dJ5_getValue_6d5f1_4 ⟨_, rfl, h⟩
def F_J5_length_8abf5 (a0 : Nat) (w : Mm) (z : Nat) (Q : Int32 → Mm → Nat → Prop) : Prop :=
  ∃ v1, fld w a0 1 3 = some (.int (v1)) ∧ Q v1 w z
set_option maxRecDepth 100000 in
set_option maxHeartbeats 4000000 in
theorem ct_J5_length_8abf5 {l : Launch} {g : Gp} {d : Nat} (hst : l.stackTraces = false) {a0 : Nat} {w : Mm} {z mc ms : Nat} {Q : Int32 → Mm → Nat → Prop} {X : String → Mm → Nat → Prop} (h : F_J5_length_8abf5 a0 w z Q) : Ct l g yJ5_length_8abf5 (.code yJ5_length_8abf5 cJ5_length_8abf5 1 (some .int)) (d + 0) mc ms [.ref (a0)] w z (rI Q) X := by
  refine Ct.of hst (by decide) (Nat.le_of_ble_eq_true rfl) (fun C hX hE hg hl hNm => ?_)
  subst hg
  subst hl
  unfold F_J5_length_8abf5 at h
  show VW C 0 [(0, .ref (a0))] [] w z mc ms
  refine vw_aload_n hX 0 dJ5_length_8abf5_0 rfl ?_
  obtain ⟨v1, hv1, h⟩ := h
  refine g_J5_79 hX hv1 dJ5_length_8abf5_1 ?_
  exact vw_iret hX hE dJ5_length_8abf5_4 ⟨_, rfl, h⟩
def F_J4_length_8abf5 (a0 : Nat) (w : Mm) (z : Nat) (Q : Int32 → Mm → Nat → Prop) : Prop :=
  isO w a0 1 ∧ F_J5_length_8abf5 a0 w z (fun r2 w3 z4 => Q r2 w3 z4)
set_option maxRecDepth 100000 in
set_option maxHeartbeats 4000000 in
theorem ct_J4_length_8abf5 {l : Launch} {g : Gp} {d : Nat} (hst : l.stackTraces = false) {a0 : Nat} {w : Mm} {z mc ms : Nat} {Q : Int32 → Mm → Nat → Prop} {X : String → Mm → Nat → Prop} (h : F_J4_length_8abf5 a0 w z Q) : Ct l g yJ4_length_8abf5 (.code yJ4_length_8abf5 cJ4_length_8abf5 1 (some .int)) (d + 1) mc ms [.ref (a0)] w z (rI Q) X := by
  refine Ct.of hst (by decide) (Nat.le_of_ble_eq_true rfl) (fun C hX hE hg hl hNm => ?_)
  subst hg
  subst hl
  unfold F_J4_length_8abf5 at h
  show VW C 0 [(0, .ref (a0))] [] w z mc ms
  refine vw_aload_n hX 0 dJ4_length_8abf5_0 rfl ?_
  obtain ⟨hr1, h⟩ := h
  refine s_J4_343 hX hr1 dJ4_length_8abf5_1 (Nat.le_of_ble_eq_true rfl) (ct_J5_length_8abf5 (d := d + 0) (lst hX) h) (fun r2 w3 z4 h => ?_)
  exact vw_iret hX hE dJ4_length_8abf5_4 ⟨_, rfl, h⟩
def F_J7_checkLength_df160 (a0 : Int32) (a1 : Int32) (w : Mm) (z : Nat) (Q : Mm → Nat → Prop) : Prop :=
  (a0 ≤ a1 → Q w z) ∧
  (¬ a0 ≤ a1 → False)
set_option maxRecDepth 100000 in
set_option maxHeartbeats 4000000 in
theorem ct_J7_checkLength_df160 {l : Launch} {g : Gp} {d : Nat} (hst : l.stackTraces = false) {a0 : Int32} {a1 : Int32} {w : Mm} {z mc ms : Nat} {Q : Mm → Nat → Prop} {X : String → Mm → Nat → Prop} (h : F_J7_checkLength_df160 a0 a1 w z Q) : Ct l g yJ7_checkLength_df160 (.code yJ7_checkLength_df160 cJ7_checkLength_df160 2 none) (d + 0) mc ms [.int (a0), .int (a1)] w z (rV Q) X := by
  refine Ct.of hst (by decide) (Nat.le_of_ble_eq_true rfl) (fun C hX hE hg hl hNm => ?_)
  subst hg
  subst hl
  unfold F_J7_checkLength_df160 at h
  show VW C 0 [(0, .int (a0)), (1, .int (a1))] [] w z mc ms
  refine vw_iload_n hX 1 dJ7_checkLength_df160_0 rfl ?_
  refine vw_iload_n hX 0 dJ7_checkLength_df160_1 rfl ?_
  refine vw_icmp_ge hX (tgt := 37) dJ7_checkLength_df160_2 (by decide) (fun c1 => ?_) (fun c1 => ?_)
  · have h := h.1 c1
    exact vw_vret hX hE dJ7_checkLength_df160_37 ⟨rfl, h⟩
  · exact (h.2 c1).elim
def F_J7_copyOfRangeByte_39247 (a0 : Nat) (a1 : Int32) (a2 : Int32) (w : Mm) (z : Nat) (mc ms : Nat) (Q : Nat → Mm → Nat → Prop) : Prop :=
  F_J7_checkLength_df160 a1 a2 w z (fun w2 z3 => ∀ i4 : Int32, i4 = (a2 - a1) → ¬ (i4 : Int32) < 0 ∧ ∃ n6, (i4 : Int32).toNatClampNeg = n6 ∧ n6 ≤ 10000000 ∧ 1 ≤ mc ∧ n6 ≤ ms ∧ ∀ w5, w5 = mset w2 z3 (.inr (1, n6, .inl (fun _ => 0))) → ∃ n8 f7, arI w5 a0 1 = some (n8, f7) ∧ ∃ n10 f9 n12 f11, arI w5 a0 1 = some (n10, f9) ∧ arW w5 z3 1 = some (n12, f11) ∧ ¬ (a1 : Int32) < 0 ∧ ¬ (0 : Int32) < 0 ∧ ¬ ((jmin ((((nI n8)) - a1)) i4) : Int32) < 0 ∧ (a1 : Int32).toNatClampNeg + ((jmin ((((nI n8)) - a1)) i4) : Int32).toNatClampNeg ≤ n10 ∧ (0 : Int32).toNatClampNeg + ((jmin ((((nI n8)) - a1)) i4) : Int32).toNatClampNeg ≤ n12 ∧ sb_Fit f9 ∧ ∀ w13, w13 = mset w5 z3 (.inr (1, n12, .inl (va_cpy f9 f11 (a1 : Int32).toNatClampNeg (0 : Int32).toNatClampNeg ((jmin ((((nI n8)) - a1)) i4) : Int32).toNatClampNeg))) → Q z3 w13 ((z3 + 1)))
set_option maxRecDepth 100000 in
set_option maxHeartbeats 4000000 in
theorem ct_J7_copyOfRangeByte_39247 {l : Launch} {g : Gp} {d : Nat} (hst : l.stackTraces = false) {a0 : Nat} {a1 : Int32} {a2 : Int32} {w : Mm} {z mc ms : Nat} {Q : Nat → Mm → Nat → Prop} {X : String → Mm → Nat → Prop} (h : F_J7_copyOfRangeByte_39247 a0 a1 a2 w z mc ms Q) : Ct l g yJ7_copyOfRangeByte_39247 (.code yJ7_copyOfRangeByte_39247 cJ7_copyOfRangeByte_39247 5 (some (.array .byte))) (d + 2) mc ms [.ref (a0), .int (a1), .int (a2)] w z (rR Q) X := by
  refine Ct.of hst (by decide) (Nat.le_of_ble_eq_true rfl) (fun C hX hE hg hl hNm => ?_)
  subst hg
  subst hl
  unfold F_J7_copyOfRangeByte_39247 at h
  show VW C 0 [(0, .ref (a0)), (1, .int (a1)), (2, .int (a2))] [] w z mc ms
  refine vw_iload_n hX 1 dJ7_copyOfRangeByte_39247_0 rfl ?_
  refine vw_iload_n hX 2 dJ7_copyOfRangeByte_39247_1 rfl ?_
  refine s_J7_343 hX dJ7_copyOfRangeByte_39247_2 (Nat.le_of_ble_eq_true rfl) (ct_J7_checkLength_df160 (d := d + 1) (lst hX) h) (fun w2 z3 h => ?_)
  refine vw_iload_n hX 2 dJ7_copyOfRangeByte_39247_5 rfl ?_
  refine vw_iload_n hX 1 dJ7_copyOfRangeByte_39247_6 rfl ?_
  refine vw_isub hX dJ7_copyOfRangeByte_39247_7 ?_
  refine vw_nmI (fun i4 ei4 => ?_)
  have h := h i4 ei4
  refine vw_istore_n hX dJ7_copyOfRangeByte_39247_8 (by decide) rfl ?_
  refine vw_iload_n hX 0 dJ7_copyOfRangeByte_39247_9 rfl ?_
  obtain ⟨hn0, n6, hN, hb, hm1, hm2, h⟩ := h
  refine vw_newB hX kw_155 hn0 hN hb hm1 hm2 dJ7_copyOfRangeByte_39247_10 ?_
  refine vw_nmW (fun w5 ew5 => ?_)
  have h := h w5 ew5
  refine vw_astore hX dJ7_copyOfRangeByte_39247_12 (by decide) rfl ?_
  refine vw_aload_n hX 2 dJ7_copyOfRangeByte_39247_14 rfl ?_
  refine vw_iload_n hX 3 dJ7_copyOfRangeByte_39247_15 rfl ?_
  refine vw_aload hX 0 dJ7_copyOfRangeByte_39247_16 rfl ?_
  refine vw_iconst hX (v := 0) dJ7_copyOfRangeByte_39247_18 (by decide) ?_
  refine vw_aload_n hX 2 dJ7_copyOfRangeByte_39247_19 rfl ?_
  obtain ⟨n8, f7, hf7, h⟩ := h
  refine vw_alen hX 1 (by decide) hf7 dJ7_copyOfRangeByte_39247_20 ?_
  refine vw_iload_n hX 3 dJ7_copyOfRangeByte_39247_21 rfl ?_
  refine vw_isub hX dJ7_copyOfRangeByte_39247_22 ?_
  refine vw_iload_n hX 1 dJ7_copyOfRangeByte_39247_23 rfl ?_
  refine vw_mmin hX kw_574 (Nat.le_of_ble_eq_true rfl) dJ7_copyOfRangeByte_39247_24 ?_
  obtain ⟨n10, f9, n12, f11, hc1, hc2, hc3, hc4, hc5, hc6, hc7, hft, h⟩ := h
  refine vw_copy hX 1 (by decide) kw_575 rfl hc1 hc2 hc3 hc4 hc5 hc6 hc7 (fun i _ => hft _) (Nat.le_of_ble_eq_true rfl) dJ7_copyOfRangeByte_39247_27 ?_
  refine vw_nmW (fun w13 ew13 => ?_)
  have h := h w13 ew13
  refine vw_aload hX 0 dJ7_copyOfRangeByte_39247_30 rfl ?_
  exact vw_aret hX hE (Or.inr ⟨_, rfl⟩) dJ7_copyOfRangeByte_39247_32 ⟨_, rfl, h⟩
def B_J7_copyOfRange_39247_10 (a0 : Nat) (a1 : Int32) (a2 : Int32) (Q : Nat → Mm → Nat → Prop) (w : Mm) (z : Nat) (mc : Nat) (ms : Nat) : Prop :=
  ∃ k4 k5, k4 ≤ mc ∧ k5 ≤ ms ∧ F_J7_copyOfRangeByte_39247 a0 a1 a2 w z k4 k5 (fun r1 w2 z3 => Q r1 w2 z3)
set_option maxRecDepth 100000 in
set_option maxHeartbeats 4000000 in
theorem pB_J7_copyOfRange_39247_10 {C : Cx} {d : Nat} {a0 : Nat} {a1 : Int32} {a2 : Int32} {Q : Nat → Mm → Nat → Prop} {X : String → Mm → Nat → Prop} (hX : CX C cJ7_copyOfRange_39247 RJ7 3 (some (.array .byte)) [] (d + 3)) (hE : EQ C (rR Q) X) : ∀  (w : Mm) (z mc ms : Nat), B_J7_copyOfRange_39247_10 a0 a1 a2 Q  w z mc ms → VW C 10 [(0, .ref (a0)), (1, .int (a1)), (2, .int (a2))] [] w z mc ms := by
  intro  w z mc ms h
  unfold B_J7_copyOfRange_39247_10 at h
  refine vw_aload_n hX 0 dJ7_copyOfRange_39247_10 rfl ?_
  refine vw_iload_n hX 1 dJ7_copyOfRange_39247_11 rfl ?_
  refine vw_iload_n hX 2 dJ7_copyOfRange_39247_12 rfl ?_
  obtain ⟨k4, k5, hm1, hm2, h⟩ := h
  refine s_J7_339 hX dJ7_copyOfRange_39247_13 (Nat.le_of_ble_eq_true rfl) hm1 hm2 (ct_J7_copyOfRangeByte_39247 (d := d + 0) (lst hX) h) (fun r1 w2 z3 h => ?_)
  exact vw_aret hX hE (Or.inr ⟨_, rfl⟩) dJ7_copyOfRange_39247_16 ⟨_, rfl, h⟩
def F_J7_copyOfRange_39247 (a0 : Nat) (a1 : Int32) (a2 : Int32) (w : Mm) (z : Nat) (mc ms : Nat) (Q : Nat → Mm → Nat → Prop) : Prop :=
  (¬ a1 = 0 → B_J7_copyOfRange_39247_10 a0 a1 a2 Q w z mc ms) ∧
  (a1 = 0 → ∃ n3 f2, arI w a0 1 = some (n3, f2) ∧ (a2 = ((nI n3)) → False) ∧
  (¬ a2 = ((nI n3)) → B_J7_copyOfRange_39247_10 a0 a1 a2 Q w z mc ms))
set_option maxRecDepth 100000 in
set_option maxHeartbeats 4000000 in
theorem ct_J7_copyOfRange_39247 {l : Launch} {g : Gp} {d : Nat} (hst : l.stackTraces = false) {a0 : Nat} {a1 : Int32} {a2 : Int32} {w : Mm} {z mc ms : Nat} {Q : Nat → Mm → Nat → Prop} {X : String → Mm → Nat → Prop} (h : F_J7_copyOfRange_39247 a0 a1 a2 w z mc ms Q) : Ct l g yJ7_copyOfRange_39247 (.code yJ7_copyOfRange_39247 cJ7_copyOfRange_39247 3 (some (.array .byte))) (d + 3) mc ms [.ref (a0), .int (a1), .int (a2)] w z (rR Q) X := by
  refine Ct.of hst (by decide) (Nat.le_of_ble_eq_true rfl) (fun C hX hE hg hl hNm => ?_)
  subst hg
  subst hl
  unfold F_J7_copyOfRange_39247 at h
  show VW C 0 [(0, .ref (a0)), (1, .int (a1)), (2, .int (a2))] [] w z mc ms
  refine vw_iload_n hX 1 dJ7_copyOfRange_39247_0 rfl ?_
  refine vw_if_ne hX (tgt := 10) dJ7_copyOfRange_39247_1 (by decide) (fun c1 => ?_) (fun c1 => ?_)
  · have h := h.1 c1
    exact pB_J7_copyOfRange_39247_10 hX hE _ _ _ _ h
  · have h := h.2 c1
    refine vw_iload_n hX 2 dJ7_copyOfRange_39247_4 rfl ?_
    refine vw_aload_n hX 0 dJ7_copyOfRange_39247_5 rfl ?_
    obtain ⟨n3, f2, hf2, h⟩ := h
    refine vw_alen hX 1 (by decide) hf2 dJ7_copyOfRange_39247_6 ?_
    refine vw_icmp_eq hX (tgt := 17) dJ7_copyOfRange_39247_7 (by decide) (fun c4 => ?_) (fun c4 => ?_)
    · exact (h.1 c4).elim
    · have h := h.2 c4
      exact pB_J7_copyOfRange_39247_10 hX hE _ _ _ _ h
def F_J0_init_db425 (a0 : Nat) (a1 : Nat) (w : Mm) (z : Nat) (mc ms : Nat) (Q : Mm → Nat → Prop) : Prop :=
  isO w a1 1 ∧ F_J5_getValue_6d5f1 a1 w z (fun r2 w3 z4 => isO w3 a1 1 ∧ F_J4_length_8abf5 a1 w3 z4 (fun r6 w7 z8 => isO w7 a1 1 ∧ F_J5_isLatin1_aae02 a1 w7 z8 (fun r10 w11 z12 => (r10 = 0 → False) ∧
  (¬ r10 = 0 → ∃ f14, obj w11 a0 0 = some f14 ∧ 1 < f14.length ∧ ∀ w15, w15 = mset w11 a0 (.inl (0, f14.set 1 (.int (0)))) → ∃ k19 k20, k19 ≤ mc ∧ k20 ≤ ms ∧ F_J7_copyOfRange_39247 r2 0 r6 w15 z12 k19 k20 (fun r16 w17 z18 => ∃ f21, obj w17 a0 0 = some f21 ∧ 0 < f21.length ∧ ∀ w22, w22 = mset w17 a0 (.inl (0, f21.set 0 (.ref (r16)))) → Q w22 z18)))))
set_option maxRecDepth 100000 in
set_option maxHeartbeats 4000000 in
theorem ct_J0_init_db425_n {l : Launch} {g : Gp} {d : Nat} (hst : l.stackTraces = false) {a0 : Nat} {a1 : Nat} {w : Mm} {z mc ms : Nat} {Q : Mm → Nat → Prop} {X : String → Mm → Nat → Prop} (h : F_J0_init_db425 a0 a1 w z mc ms Q) : Ct l g yJ0_init_db425 (.code yJ0_init_db425 cJ0_init_db425 5 none) (d + 4) mc ms [.ref (a0), .ref (a1), .null] w z (rV Q) X := by
  refine Ct.of hst (by decide) (Nat.le_of_ble_eq_true rfl) (fun C hX hE hg hl hNm => ?_)
  subst hg
  subst hl
  unfold F_J0_init_db425 at h
  show VW C 0 [(0, .ref (a0)), (1, .ref (a1)), (2, .null)] [] w z mc ms
  refine vw_aload_n hX 0 dJ0_init_db425_0 rfl ?_
  refine vw_objInit hX kw_623 kw_102 kw_103 (Nat.le_of_ble_eq_true rfl) dJ0_init_db425_1 ?_
  refine vw_aload_n hX 1 dJ0_init_db425_4 rfl ?_
  obtain ⟨hr1, h⟩ := h
  refine s_J0_552 hX hr1 dJ0_init_db425_5 (Nat.le_of_ble_eq_true rfl) (ct_J5_getValue_6d5f1 (d := d + 3) (lst hX) h) (fun r2 w3 z4 h => ?_)
  refine vw_astore_n hX dJ0_init_db425_8 (by decide) rfl ?_
  refine vw_aload_n hX 2 dJ0_init_db425_9 rfl ?_
  obtain ⟨hr5, h⟩ := h
  refine s_J0_549 hX hr5 dJ0_init_db425_10 (Nat.le_of_ble_eq_true rfl) (ct_J4_length_8abf5 (d := d + 2) (lst hX) h) (fun r6 w7 z8 h => ?_)
  refine vw_istore hX dJ0_init_db425_13 (by decide) rfl ?_
  refine vw_aload_n hX 3 dJ0_init_db425_15 rfl ?_
  obtain ⟨hr9, h⟩ := h
  refine s_J0_1047 hX hr9 dJ0_init_db425_16 (Nat.le_of_ble_eq_true rfl) (ct_J5_isLatin1_aae02 (d := d + 3) (lst hX) h) (fun r10 w11 z12 h => ?_)
  refine vw_if_eq hX (tgt := 41) dJ0_init_db425_19 (by decide) (fun c13 => ?_) (fun c13 => ?_)
  · exact (h.1 c13).elim
  · have h := h.2 c13
    refine vw_aload_n hX 2 dJ0_init_db425_22 rfl ?_
    refine vw_iconst hX (v := 0) dJ0_init_db425_23 (by decide) ?_
    obtain ⟨f14, hf14, hlf14, h⟩ := h
    refine p_J0_15 hX hNm hf14 hlf14 rfl rfl dJ0_init_db425_24 ?_
    refine vw_nmW (fun w15 ew15 => ?_)
    have h := h w15 ew15
    refine vw_aload_n hX 2 dJ0_init_db425_27 rfl ?_
    refine vw_aload_n hX 1 dJ0_init_db425_28 rfl ?_
    refine vw_iconst hX (v := 0) dJ0_init_db425_29 (by decide) ?_
    refine vw_iload hX 0 dJ0_init_db425_30 rfl ?_
    obtain ⟨k19, k20, hm1, hm2, h⟩ := h
    refine s_J0_54 hX dJ0_init_db425_32 (Nat.le_of_ble_eq_true rfl) hm1 hm2 (ct_J7_copyOfRange_39247 (d := d + 0) (lst hX) h) (fun r16 w17 z18 h => ?_)
    obtain ⟨f21, hf21, hlf21, h⟩ := h
    refine p_J0_9 hX hNm hf21 hlf21 dJ0_init_db425_35 ?_
    refine vw_nmW (fun w22 ew22 => ?_)
    have h := h w22 ew22
    refine vw_goto hX (tgt := 97) dJ0_init_db425_38 (by decide) ?_
    exact vw_vret hX hE dJ0_init_db425_97 ⟨rfl, h⟩
def F_J0_init_81219 (a0 : Nat) (a1 : Nat) (w : Mm) (z : Nat) (mc ms : Nat) (Q : Mm → Nat → Prop) : Prop :=
  ∃ k4 k5, k4 ≤ mc ∧ k5 ≤ ms ∧ F_J0_init_db425 a0 a1 w z k4 k5 (fun w2 z3 => Q w2 z3)
set_option maxRecDepth 100000 in
set_option maxHeartbeats 4000000 in
theorem ct_J0_init_81219 {l : Launch} {g : Gp} {d : Nat} (hst : l.stackTraces = false) {a0 : Nat} {a1 : Nat} {w : Mm} {z mc ms : Nat} {Q : Mm → Nat → Prop} {X : String → Mm → Nat → Prop} (h : F_J0_init_81219 a0 a1 w z mc ms Q) : Ct l g yJ0_init_81219 (.code yJ0_init_81219 cJ0_init_81219 2 none) (d + 5) mc ms [.ref (a0), .ref (a1)] w z (rV Q) X := by
  refine Ct.of hst (by decide) (Nat.le_of_ble_eq_true rfl) (fun C hX hE hg hl hNm => ?_)
  subst hg
  subst hl
  unfold F_J0_init_81219 at h
  show VW C 0 [(0, .ref (a0)), (1, .ref (a1))] [] w z mc ms
  refine vw_aload_n hX 0 dJ0_init_81219_0 rfl ?_
  refine vw_aload_n hX 1 dJ0_init_81219_1 rfl ?_
  refine vw_null hX dJ0_init_81219_2 ?_
  obtain ⟨k4, k5, hm1, hm2, h⟩ := h
  refine s_J0_489_n hX dJ0_init_81219_3 (Nat.le_of_ble_eq_true rfl) hm1 hm2 (ct_J0_init_db425_n (d := d + 0) (lst hX) h) (fun w2 z3 h => ?_)
  exact vw_vret hX hE dJ0_init_81219_6 ⟨rfl, h⟩
def F_J4_toString_0e30d (a0 : Nat) (w : Mm) (z : Nat) (mc ms : Nat) (Q : Nat → Mm → Nat → Prop) : Prop :=
  1 ≤ mc ∧ 4 ≤ ms ∧ ∀ w1, w1 = mset w z (.inl (0, [.null, .int 0, .int 0, .int 0])) → ∃ k5 k6, k5 ≤ (mc - 1) ∧ k6 ≤ (ms - 4) ∧ F_J0_init_81219 z a0 w1 ((z + 1)) k5 k6 (fun w3 z4 => Q z w3 z4)
set_option maxRecDepth 100000 in
set_option maxHeartbeats 4000000 in
theorem ct_J4_toString_0e30d {l : Launch} {g : Gp} {d : Nat} (hst : l.stackTraces = false) {a0 : Nat} {w : Mm} {z mc ms : Nat} {Q : Nat → Mm → Nat → Prop} {X : String → Mm → Nat → Prop} (h : F_J4_toString_0e30d a0 w z mc ms Q) : Ct l g yJ4_toString_0e30d (.code yJ4_toString_0e30d cJ4_toString_0e30d 1 (some (.object "java/lang/String"))) (d + 6) mc ms [.ref (a0)] w z (rR Q) X := by
  refine Ct.of hst (by decide) (Nat.le_of_ble_eq_true rfl) (fun C hX hE hg hl hNm => ?_)
  subst hg
  subst hl
  unfold F_J4_toString_0e30d at h
  show VW C 0 [(0, .ref (a0))] [] w z mc ms
  obtain ⟨hm1, hm2, h⟩ := h
  refine n_J4_18 hX hm1 hm2 dJ4_toString_0e30d_0 ?_
  refine vw_nmW (fun w1 ew1 => ?_)
  have h := h w1 ew1
  refine vw_dup hX dJ4_toString_0e30d_3 rfl ?_
  refine vw_aload_n hX 0 dJ4_toString_0e30d_4 rfl ?_
  obtain ⟨k5, k6, hm1, hm2, h⟩ := h
  refine s_J4_137 hX dJ4_toString_0e30d_5 (Nat.le_of_ble_eq_true rfl) hm1 hm2 (ct_J0_init_81219 (d := d + 0) (lst hX) h) (fun w3 z4 h => ?_)
  exact vw_aret hX hE (Or.inl ⟨_, rfl⟩) dJ4_toString_0e30d_8 ⟨_, rfl, h⟩
def F_J6_bitCount_0f7a4 (a0 : Int32) (w : Mm) (z : Nat) (Q : Int32 → Mm → Nat → Prop) : Prop :=
  ∀ i1 : Int32, i1 = (a0 - (((((a0).toUInt32 >>> ((1 : Int32).toUInt32 &&& Int32.toUInt32 31)).toInt32) &&& 1431655765))) → ∀ i2 : Int32, i2 = (((i1 &&& 858993459)) + (((((i1).toUInt32 >>> ((2 : Int32).toUInt32 &&& Int32.toUInt32 31)).toInt32) &&& 858993459))) → ∀ i3 : Int32, i3 = (((i2 + (((i2).toUInt32 >>> ((4 : Int32).toUInt32 &&& Int32.toUInt32 31)).toInt32))) &&& 252645135) → ∀ i4 : Int32, i4 = (i3 + (((i3).toUInt32 >>> ((8 : Int32).toUInt32 &&& Int32.toUInt32 31)).toInt32)) → ∀ i5 : Int32, i5 = (i4 + (((i4).toUInt32 >>> ((16 : Int32).toUInt32 &&& Int32.toUInt32 31)).toInt32)) → Q ((i5 &&& 63)) w z
set_option maxRecDepth 100000 in
set_option maxHeartbeats 4000000 in
theorem ct_J6_bitCount_0f7a4 {l : Launch} {g : Gp} {d : Nat} (hst : l.stackTraces = false) {a0 : Int32} {w : Mm} {z mc ms : Nat} {Q : Int32 → Mm → Nat → Prop} {X : String → Mm → Nat → Prop} (h : F_J6_bitCount_0f7a4 a0 w z Q) : Ct l g yJ6_bitCount_0f7a4 (.code yJ6_bitCount_0f7a4 cJ6_bitCount_0f7a4 1 (some .int)) (d + 0) mc ms [.int (a0)] w z (rI Q) X := by
  refine Ct.of hst (by decide) (Nat.le_of_ble_eq_true rfl) (fun C hX hE hg hl hNm => ?_)
  subst hg
  subst hl
  unfold F_J6_bitCount_0f7a4 at h
  show VW C 0 [(0, .int (a0))] [] w z mc ms
  refine vw_iload_n hX 0 dJ6_bitCount_0f7a4_0 rfl ?_
  refine vw_iload_n hX 0 dJ6_bitCount_0f7a4_1 rfl ?_
  refine vw_iconst hX (v := 1) dJ6_bitCount_0f7a4_2 (by decide) ?_
  refine vw_iushr hX dJ6_bitCount_0f7a4_3 ?_
  refine vw_ldcwI hX kw_836 dJ6_bitCount_0f7a4_4 ?_
  refine vw_iand hX dJ6_bitCount_0f7a4_7 ?_
  refine vw_isub hX dJ6_bitCount_0f7a4_8 ?_
  refine vw_nmI (fun i1 ei1 => ?_)
  have h := h i1 ei1
  refine vw_istore_n hX dJ6_bitCount_0f7a4_9 (by decide) rfl ?_
  refine vw_iload_n hX 0 dJ6_bitCount_0f7a4_10 rfl ?_
  refine vw_ldcwI hX kw_837 dJ6_bitCount_0f7a4_11 ?_
  refine vw_iand hX dJ6_bitCount_0f7a4_14 ?_
  refine vw_iload_n hX 0 dJ6_bitCount_0f7a4_15 rfl ?_
  refine vw_iconst hX (v := 2) dJ6_bitCount_0f7a4_16 (by decide) ?_
  refine vw_iushr hX dJ6_bitCount_0f7a4_17 ?_
  refine vw_ldcwI hX kw_837 dJ6_bitCount_0f7a4_18 ?_
  refine vw_iand hX dJ6_bitCount_0f7a4_21 ?_
  refine vw_iadd hX dJ6_bitCount_0f7a4_22 ?_
  refine vw_nmI (fun i2 ei2 => ?_)
  have h := h i2 ei2
  refine vw_istore_n hX dJ6_bitCount_0f7a4_23 (by decide) rfl ?_
  refine vw_iload_n hX 0 dJ6_bitCount_0f7a4_24 rfl ?_
  refine vw_iload_n hX 0 dJ6_bitCount_0f7a4_25 rfl ?_
  refine vw_iconst hX (v := 4) dJ6_bitCount_0f7a4_26 (by decide) ?_
  refine vw_iushr hX dJ6_bitCount_0f7a4_27 ?_
  refine vw_iadd hX dJ6_bitCount_0f7a4_28 ?_
  refine vw_ldcwI hX kw_838 dJ6_bitCount_0f7a4_29 ?_
  refine vw_iand hX dJ6_bitCount_0f7a4_32 ?_
  refine vw_nmI (fun i3 ei3 => ?_)
  have h := h i3 ei3
  refine vw_istore_n hX dJ6_bitCount_0f7a4_33 (by decide) rfl ?_
  refine vw_iload_n hX 0 dJ6_bitCount_0f7a4_34 rfl ?_
  refine vw_iload_n hX 0 dJ6_bitCount_0f7a4_35 rfl ?_
  refine vw_bipush hX (v := 8) dJ6_bitCount_0f7a4_36 (by decide) ?_
  refine vw_iushr hX dJ6_bitCount_0f7a4_38 ?_
  refine vw_iadd hX dJ6_bitCount_0f7a4_39 ?_
  refine vw_nmI (fun i4 ei4 => ?_)
  have h := h i4 ei4
  refine vw_istore_n hX dJ6_bitCount_0f7a4_40 (by decide) rfl ?_
  refine vw_iload_n hX 0 dJ6_bitCount_0f7a4_41 rfl ?_
  refine vw_iload_n hX 0 dJ6_bitCount_0f7a4_42 rfl ?_
  refine vw_bipush hX (v := 16) dJ6_bitCount_0f7a4_43 (by decide) ?_
  refine vw_iushr hX dJ6_bitCount_0f7a4_45 ?_
  refine vw_iadd hX dJ6_bitCount_0f7a4_46 ?_
  refine vw_nmI (fun i5 ei5 => ?_)
  have h := h i5 ei5
  refine vw_istore_n hX dJ6_bitCount_0f7a4_47 (by decide) rfl ?_
  refine vw_iload_n hX 0 dJ6_bitCount_0f7a4_48 rfl ?_
  refine vw_bipush hX (v := 63) dJ6_bitCount_0f7a4_49 (by decide) ?_
  refine vw_iand hX dJ6_bitCount_0f7a4_51 ?_
  exact vw_iret hX hE dJ6_bitCount_0f7a4_52 ⟨_, rfl, h⟩
def F_J5_setLength_d00df (a0 : Nat) (a1 : Int32) (w : Mm) (z : Nat) (mc ms : Nat) (Q : Mm → Nat → Prop) : Prop :=
  (0 ≤ a1 → isO w a0 1 ∧ ∃ k6 k7, k6 ≤ mc ∧ k7 ≤ ms ∧ F_J5_ensureCapacityInternal_d00df a0 a1 w z k6 k7 (fun w4 z5 => ∃ v8, fld w4 a0 1 3 = some (.int (v8)) ∧ (a1 ≤ v8 → ∃ v10, fld w4 a0 1 3 = some (.int (v10)) ∧ (v10 ≤ a1 → ∃ f12, obj w4 a0 1 = some f12 ∧ 3 < f12.length ∧ ∀ w13, w13 = mset w4 a0 (.inl (1, f12.set 3 (.int (a1)))) → Q w13 z5) ∧
  (¬ v10 ≤ a1 → ∃ f14, obj w4 a0 1 = some f14 ∧ 2 < f14.length ∧ ∀ w15, w15 = mset w4 a0 (.inl (1, f14.set 2 (.int (1)))) → ∃ f16, obj w15 a0 1 = some f16 ∧ 3 < f16.length ∧ ∀ w17, w17 = mset w15 a0 (.inl (1, f16.set 3 (.int (a1)))) → Q w17 z5)) ∧
  (¬ a1 ≤ v8 → False))) ∧
  (¬ 0 ≤ a1 → False)
set_option maxRecDepth 100000 in
set_option maxHeartbeats 4000000 in
theorem ct_J5_setLength_d00df {l : Launch} {g : Gp} {d : Nat} (hst : l.stackTraces = false) {a0 : Nat} {a1 : Int32} {w : Mm} {z mc ms : Nat} {Q : Mm → Nat → Prop} {X : String → Mm → Nat → Prop} (h : F_J5_setLength_d00df a0 a1 w z mc ms Q) : Ct l g yJ5_setLength_d00df (.code yJ5_setLength_d00df cJ5_setLength_d00df 2 none) (d + 4) mc ms [.ref (a0), .int (a1)] w z (rV Q) X := by
  refine Ct.of hst (by decide) (Nat.le_of_ble_eq_true rfl) (fun C hX hE hg hl hNm => ?_)
  subst hg
  subst hl
  unfold F_J5_setLength_d00df at h
  show VW C 0 [(0, .ref (a0)), (1, .int (a1))] [] w z mc ms
  refine vw_iload_n hX 1 dJ5_setLength_d00df_0 rfl ?_
  refine vw_if_ge hX (tgt := 13) dJ5_setLength_d00df_1 (by decide) (fun c1 => ?_) (fun c1 => ?_)
  · have h := h.1 c1
    refine vw_aload_n hX 0 dJ5_setLength_d00df_13 rfl ?_
    refine vw_iload_n hX 1 dJ5_setLength_d00df_14 rfl ?_
    obtain ⟨hr2, h⟩ := h
    obtain ⟨k6, k7, hm1, hm2, h⟩ := h
    refine s_J5_100 hX hr2 dJ5_setLength_d00df_15 (Nat.le_of_ble_eq_true rfl) hm1 hm2 (ct_J5_ensureCapacityInternal_d00df (d := d + 0) (lst hX) h) (fun w4 z5 h => ?_)
    refine vw_aload_n hX 0 dJ5_setLength_d00df_18 rfl ?_
    obtain ⟨v8, hv8, h⟩ := h
    refine g_J5_79 hX hv8 dJ5_setLength_d00df_19 ?_
    refine vw_iload_n hX 1 dJ5_setLength_d00df_22 rfl ?_
    refine vw_icmp_ge hX (tgt := 63) dJ5_setLength_d00df_23 (by decide) (fun c9 => ?_) (fun c9 => ?_)
    · have h := h.1 c9
      refine vw_aload_n hX 0 dJ5_setLength_d00df_63 rfl ?_
      obtain ⟨v10, hv10, h⟩ := h
      refine g_J5_79 hX hv10 dJ5_setLength_d00df_64 ?_
      refine vw_iload_n hX 1 dJ5_setLength_d00df_67 rfl ?_
      refine vw_icmp_le hX (tgt := 76) dJ5_setLength_d00df_68 (by decide) (fun c11 => ?_) (fun c11 => ?_)
      · have h := h.1 c11
        refine vw_aload_n hX 0 dJ5_setLength_d00df_76 rfl ?_
        refine vw_iload_n hX 1 dJ5_setLength_d00df_77 rfl ?_
        obtain ⟨f12, hf12, hlf12, h⟩ := h
        refine p_J5_79 hX hf12 hlf12 dJ5_setLength_d00df_78 ?_
        refine vw_nmW (fun w13 ew13 => ?_)
        have h := h w13 ew13
        exact vw_vret hX hE dJ5_setLength_d00df_81 ⟨rfl, h⟩
      · have h := h.2 c11
        refine vw_aload_n hX 0 dJ5_setLength_d00df_71 rfl ?_
        refine vw_iconst hX (v := 1) dJ5_setLength_d00df_72 (by decide) ?_
        obtain ⟨f14, hf14, hlf14, h⟩ := h
        refine p_J5_73 hX hf14 hlf14 rfl rfl dJ5_setLength_d00df_73 ?_
        refine vw_nmW (fun w15 ew15 => ?_)
        have h := h w15 ew15
        refine vw_aload_n hX 0 dJ5_setLength_d00df_76 rfl ?_
        refine vw_iload_n hX 1 dJ5_setLength_d00df_77 rfl ?_
        obtain ⟨f16, hf16, hlf16, h⟩ := h
        refine p_J5_79 hX hf16 hlf16 dJ5_setLength_d00df_78 ?_
        refine vw_nmW (fun w17 ew17 => ?_)
        have h := h w17 ew17
        exact vw_vret hX hE dJ5_setLength_d00df_81 ⟨rfl, h⟩
    · exact (h.2 c9).elim
  · exact (h.2 c1).elim
def F_J4_setLength_d00df (a0 : Nat) (a1 : Int32) (w : Mm) (z : Nat) (mc ms : Nat) (Q : Mm → Nat → Prop) : Prop :=
  isO w a0 1 ∧ ∃ k5 k6, k5 ≤ mc ∧ k6 ≤ ms ∧ F_J5_setLength_d00df a0 a1 w z k5 k6 (fun w3 z4 => Q w3 z4)
set_option maxRecDepth 100000 in
set_option maxHeartbeats 4000000 in
theorem ct_J4_setLength_d00df {l : Launch} {g : Gp} {d : Nat} (hst : l.stackTraces = false) {a0 : Nat} {a1 : Int32} {w : Mm} {z mc ms : Nat} {Q : Mm → Nat → Prop} {X : String → Mm → Nat → Prop} (h : F_J4_setLength_d00df a0 a1 w z mc ms Q) : Ct l g yJ4_setLength_d00df (.code yJ4_setLength_d00df cJ4_setLength_d00df 2 none) (d + 5) mc ms [.ref (a0), .int (a1)] w z (rV Q) X := by
  refine Ct.of hst (by decide) (Nat.le_of_ble_eq_true rfl) (fun C hX hE hg hl hNm => ?_)
  subst hg
  subst hl
  unfold F_J4_setLength_d00df at h
  show VW C 0 [(0, .ref (a0)), (1, .int (a1))] [] w z mc ms
  refine vw_aload_n hX 0 dJ4_setLength_d00df_0 rfl ?_
  refine vw_iload_n hX 1 dJ4_setLength_d00df_1 rfl ?_
  obtain ⟨hr1, h⟩ := h
  obtain ⟨k5, k6, hm1, hm2, h⟩ := h
  refine s_J4_333 hX hr1 dJ4_setLength_d00df_2 (Nat.le_of_ble_eq_true rfl) hm1 hm2 (ct_J5_setLength_d00df (d := d + 0) (lst hX) h) (fun w3 z4 h => ?_)
  exact vw_vret hX hE dJ4_setLength_d00df_5 ⟨rfl, h⟩
def F_J5_inflateIfNeededFor_a7421 (a0 : Nat) (a1 : Nat) (w : Mm) (z : Nat) (Q : Mm → Nat → Prop) : Prop :=
  ∃ v1, fld w a0 1 1 = some (.int (v1)) ∧ isO w a1 0 ∧ F_J0_coder_7d493 a1 w z (fun r3 w4 z5 => (v1 = r3 → Q w4 z5) ∧
  (¬ v1 = r3 → False))
set_option maxRecDepth 100000 in
set_option maxHeartbeats 4000000 in
theorem ct_J5_inflateIfNeededFor_a7421 {l : Launch} {g : Gp} {d : Nat} (hst : l.stackTraces = false) {a0 : Nat} {a1 : Nat} {w : Mm} {z mc ms : Nat} {Q : Mm → Nat → Prop} {X : String → Mm → Nat → Prop} (h : F_J5_inflateIfNeededFor_a7421 a0 a1 w z Q) : Ct l g yJ5_inflateIfNeededFor_a7421 (.code yJ5_inflateIfNeededFor_a7421 cJ5_inflateIfNeededFor_a7421 2 none) (d + 1) mc ms [.ref (a0), .ref (a1)] w z (rV Q) X := by
  refine Ct.of hst (by decide) (Nat.le_of_ble_eq_true rfl) (fun C hX hE hg hl hNm => ?_)
  subst hg
  subst hl
  unfold F_J5_inflateIfNeededFor_a7421 at h
  show VW C 0 [(0, .ref (a0)), (1, .ref (a1))] [] w z mc ms
  refine vw_gets hX (v := .int 1) (by decide) kw_332 dJ5_inflateIfNeededFor_a7421_0 ?_
  refine vw_if_eq hX (tgt := 21) dJ5_inflateIfNeededFor_a7421_3 (by decide) (fun c => absurd c (by decide)) (fun c => ?_)
  refine vw_aload_n hX 0 dJ5_inflateIfNeededFor_a7421_6 rfl ?_
  obtain ⟨v1, hv1, h⟩ := h
  refine g_J5_22 hX hv1 dJ5_inflateIfNeededFor_a7421_7 ?_
  refine vw_aload_n hX 1 dJ5_inflateIfNeededFor_a7421_10 rfl ?_
  obtain ⟨hr2, h⟩ := h
  refine s_J5_40 hX hr2 dJ5_inflateIfNeededFor_a7421_11 (Nat.le_of_ble_eq_true rfl) (ct_J0_coder_7d493 (d := d + 0) (lst hX) h) (fun r3 w4 z5 h => ?_)
  refine vw_icmp_eq hX (tgt := 21) dJ5_inflateIfNeededFor_a7421_14 (by decide) (fun c6 => ?_) (fun c6 => ?_)
  · have h := h.1 c6
    exact vw_vret hX hE dJ5_inflateIfNeededFor_a7421_21 ⟨rfl, h⟩
  · exact (h.2 c6).elim
def F_J0_getBytes_840e7 (a0 : Nat) (a1 : Nat) (a2 : Int32) (a3 : Int32) (w : Mm) (z : Nat) (Q : Mm → Nat → Prop) : Prop :=
  isO w a0 0 ∧ F_J0_coder_7d493 a0 w z (fun r2 w3 z4 => (¬ r2 = a3 → False) ∧
  (r2 = a3 → ∃ q6, fld w3 a0 0 0 = some (.ref (q6)) ∧ ∃ q7, fld w3 a0 0 0 = some (.ref (q7)) ∧ ∃ n9 f8, arI w3 q7 1 = some (n9, f8) ∧ ∃ n11 f10 n13 f12, arI w3 q6 1 = some (n11, f10) ∧ arW w3 a1 1 = some (n13, f12) ∧ ¬ (0 : Int32) < 0 ∧ ¬ ((a2 <<< (a3 &&& 31)) : Int32) < 0 ∧ ¬ ((nI n9) : Int32) < 0 ∧ (0 : Int32).toNatClampNeg + ((nI n9) : Int32).toNatClampNeg ≤ n11 ∧ ((a2 <<< (a3 &&& 31)) : Int32).toNatClampNeg + ((nI n9) : Int32).toNatClampNeg ≤ n13 ∧ sb_Fit f10 ∧ ∀ w14, w14 = mset w3 a1 (.inr (1, n13, .inl (va_cpy f10 f12 (0 : Int32).toNatClampNeg ((a2 <<< (a3 &&& 31)) : Int32).toNatClampNeg ((nI n9) : Int32).toNatClampNeg))) → Q w14 z4))
set_option maxRecDepth 100000 in
set_option maxHeartbeats 4000000 in
theorem ct_J0_getBytes_840e7 {l : Launch} {g : Gp} {d : Nat} (hst : l.stackTraces = false) {a0 : Nat} {a1 : Nat} {a2 : Int32} {a3 : Int32} {w : Mm} {z mc ms : Nat} {Q : Mm → Nat → Prop} {X : String → Mm → Nat → Prop} (h : F_J0_getBytes_840e7 a0 a1 a2 a3 w z Q) : Ct l g yJ0_getBytes_840e7 (.code yJ0_getBytes_840e7 cJ0_getBytes_840e7 4 none) (d + 2) mc ms [.ref (a0), .ref (a1), .int (a2), .int (a3)] w z (rV Q) X := by
  refine Ct.of hst (by decide) (Nat.le_of_ble_eq_true rfl) (fun C hX hE hg hl hNm => ?_)
  subst hg
  subst hl
  unfold F_J0_getBytes_840e7 at h
  show VW C 0 [(0, .ref (a0)), (1, .ref (a1)), (2, .int (a2)), (3, .int (a3))] [] w z mc ms
  refine vw_aload_n hX 0 dJ0_getBytes_840e7_0 rfl ?_
  obtain ⟨hr1, h⟩ := h
  refine s_J0_335 hX hr1 dJ0_getBytes_840e7_1 (Nat.le_of_ble_eq_true rfl) (ct_J0_coder_7d493 (d := d + 1) (lst hX) h) (fun r2 w3 z4 h => ?_)
  refine vw_iload_n hX 3 dJ0_getBytes_840e7_4 rfl ?_
  refine vw_icmp_ne hX (tgt := 28) dJ0_getBytes_840e7_5 (by decide) (fun c5 => ?_) (fun c5 => ?_)
  · exact (h.1 c5).elim
  · have h := h.2 c5
    refine vw_aload_n hX 0 dJ0_getBytes_840e7_8 rfl ?_
    obtain ⟨q6, hq6, h⟩ := h
    refine g_J0_9 hX hq6 dJ0_getBytes_840e7_9 ?_
    refine vw_iconst hX (v := 0) dJ0_getBytes_840e7_12 (by decide) ?_
    refine vw_aload_n hX 1 dJ0_getBytes_840e7_13 rfl ?_
    refine vw_iload_n hX 2 dJ0_getBytes_840e7_14 rfl ?_
    refine vw_iload_n hX 3 dJ0_getBytes_840e7_15 rfl ?_
    refine vw_ishl hX dJ0_getBytes_840e7_16 ?_
    refine vw_aload_n hX 0 dJ0_getBytes_840e7_17 rfl ?_
    obtain ⟨q7, hq7, h⟩ := h
    refine g_J0_9 hX hq7 dJ0_getBytes_840e7_18 ?_
    obtain ⟨n9, f8, hf8, h⟩ := h
    refine vw_alen hX 1 (by decide) hf8 dJ0_getBytes_840e7_21 ?_
    obtain ⟨n11, f10, n13, f12, hc1, hc2, hc3, hc4, hc5, hc6, hc7, hft, h⟩ := h
    refine vw_copy hX 1 (by decide) kw_755 rfl hc1 hc2 hc3 hc4 hc5 hc6 hc7 (fun i _ => hft _) (Nat.le_of_ble_eq_true rfl) dJ0_getBytes_840e7_22 ?_
    refine vw_nmW (fun w14 ew14 => ?_)
    have h := h w14 ew14
    refine vw_goto hX (tgt := 43) dJ0_getBytes_840e7_25 (by decide) ?_
    exact vw_vret hX hE dJ0_getBytes_840e7_43 ⟨rfl, h⟩
def F_J5_putStringAt_47b60 (a0 : Nat) (a1 : Int32) (a2 : Nat) (w : Mm) (z : Nat) (Q : Mm → Nat → Prop) : Prop :=
  isO w a0 1 ∧ F_J5_inflateIfNeededFor_a7421 a0 a2 w z (fun w3 z4 => ∃ q5, fld w3 a0 1 0 = some (.ref (q5)) ∧ ∃ v6, fld w3 a0 1 1 = some (.int (v6)) ∧ isO w3 a2 0 ∧ F_J0_getBytes_840e7 a2 q5 a1 v6 w3 z4 (fun w9 z10 => Q w9 z10))
set_option maxRecDepth 100000 in
set_option maxHeartbeats 4000000 in
theorem ct_J5_putStringAt_47b60 {l : Launch} {g : Gp} {d : Nat} (hst : l.stackTraces = false) {a0 : Nat} {a1 : Int32} {a2 : Nat} {w : Mm} {z mc ms : Nat} {Q : Mm → Nat → Prop} {X : String → Mm → Nat → Prop} (h : F_J5_putStringAt_47b60 a0 a1 a2 w z Q) : Ct l g yJ5_putStringAt_47b60 (.code yJ5_putStringAt_47b60 cJ5_putStringAt_47b60 3 none) (d + 3) mc ms [.ref (a0), .int (a1), .ref (a2)] w z (rV Q) X := by
  refine Ct.of hst (by decide) (Nat.le_of_ble_eq_true rfl) (fun C hX hE hg hl hNm => ?_)
  subst hg
  subst hl
  unfold F_J5_putStringAt_47b60 at h
  show VW C 0 [(0, .ref (a0)), (1, .int (a1)), (2, .ref (a2))] [] w z mc ms
  refine vw_aload_n hX 0 dJ5_putStringAt_47b60_0 rfl ?_
  refine vw_aload_n hX 2 dJ5_putStringAt_47b60_1 rfl ?_
  obtain ⟨hr1, h⟩ := h
  refine s_J5_397 hX hr1 dJ5_putStringAt_47b60_2 (Nat.le_of_ble_eq_true rfl) (ct_J5_inflateIfNeededFor_a7421 (d := d + 1) (lst hX) h) (fun w3 z4 h => ?_)
  refine vw_aload_n hX 2 dJ5_putStringAt_47b60_5 rfl ?_
  refine vw_aload_n hX 0 dJ5_putStringAt_47b60_6 rfl ?_
  obtain ⟨q5, hq5, h⟩ := h
  refine g_J5_15 hX hq5 dJ5_putStringAt_47b60_7 ?_
  refine vw_iload_n hX 1 dJ5_putStringAt_47b60_10 rfl ?_
  refine vw_aload_n hX 0 dJ5_putStringAt_47b60_11 rfl ?_
  obtain ⟨v6, hv6, h⟩ := h
  refine g_J5_22 hX hv6 dJ5_putStringAt_47b60_12 ?_
  obtain ⟨hr7, h⟩ := h
  refine s_J5_399 hX hr7 dJ5_putStringAt_47b60_15 (Nat.le_of_ble_eq_true rfl) (ct_J0_getBytes_840e7 (d := d + 0) (lst hX) h) (fun w9 z10 h => ?_)
  exact vw_vret hX hE dJ5_putStringAt_47b60_18 ⟨rfl, h⟩
def F_J5_append_cf1ce (a0 : Nat) (a1 : Nat) (w : Mm) (z : Nat) (mc ms : Nat) (Q : Nat → Mm → Nat → Prop) : Prop :=
  isO w a1 0 ∧ F_J0_length_8abf5 a1 w z (fun r2 w3 z4 => ∃ v5, fld w3 a0 1 3 = some (.int (v5)) ∧ isO w3 a0 1 ∧ ∃ k10 k11, k10 ≤ mc ∧ k11 ≤ ms ∧ F_J5_ensureCapacityInternal_d00df a0 ((v5 + r2)) w3 z4 k10 k11 (fun w8 z9 => ∃ v12, fld w8 a0 1 3 = some (.int (v12)) ∧ isO w8 a0 1 ∧ F_J5_putStringAt_47b60 a0 v12 a1 w8 z9 (fun w15 z16 => ∃ v17, fld w15 a0 1 3 = some (.int (v17)) ∧ ∃ f18, obj w15 a0 1 = some f18 ∧ 3 < f18.length ∧ ∀ w19, w19 = mset w15 a0 (.inl (1, f18.set 3 (.int ((v17 + r2))))) → Q a0 w19 z16)))
set_option maxRecDepth 100000 in
set_option maxHeartbeats 4000000 in
theorem ct_J5_append_cf1ce {l : Launch} {g : Gp} {d : Nat} (hst : l.stackTraces = false) {a0 : Nat} {a1 : Nat} {w : Mm} {z mc ms : Nat} {Q : Nat → Mm → Nat → Prop} {X : String → Mm → Nat → Prop} (h : F_J5_append_cf1ce a0 a1 w z mc ms Q) : Ct l g yJ5_append_cf1ce (.code yJ5_append_cf1ce cJ5_append_cf1ce 3 (some (.object "java/lang/AbstractStringBuilder"))) (d + 4) mc ms [.ref (a0), .ref (a1)] w z (rR Q) X := by
  refine Ct.of hst (by decide) (Nat.le_of_ble_eq_true rfl) (fun C hX hE hg hl hNm => ?_)
  subst hg
  subst hl
  unfold F_J5_append_cf1ce at h
  show VW C 0 [(0, .ref (a0)), (1, .ref (a1))] [] w z mc ms
  refine vw_aload_n hX 1 dJ5_append_cf1ce_0 rfl ?_
  refine vw_ifnonnull hX (tgt := 9) dJ5_append_cf1ce_1 (by decide) ?_
  refine vw_aload_n hX 1 dJ5_append_cf1ce_9 rfl ?_
  obtain ⟨hr1, h⟩ := h
  refine s_J5_32 hX hr1 dJ5_append_cf1ce_10 (Nat.le_of_ble_eq_true rfl) (ct_J0_length_8abf5 (d := d + 2) (lst hX) h) (fun r2 w3 z4 h => ?_)
  refine vw_istore_n hX dJ5_append_cf1ce_13 (by decide) rfl ?_
  refine vw_aload_n hX 1 dJ5_append_cf1ce_14 rfl ?_
  refine vw_aload_n hX 1 dJ5_append_cf1ce_15 rfl ?_
  obtain ⟨v5, hv5, h⟩ := h
  refine g_J5_79 hX hv5 dJ5_append_cf1ce_16 ?_
  refine vw_iload_n hX 0 dJ5_append_cf1ce_19 rfl ?_
  refine vw_iadd hX dJ5_append_cf1ce_20 ?_
  obtain ⟨hr6, h⟩ := h
  obtain ⟨k10, k11, hm1, hm2, h⟩ := h
  refine s_J5_100 hX hr6 dJ5_append_cf1ce_21 (Nat.le_of_ble_eq_true rfl) hm1 hm2 (ct_J5_ensureCapacityInternal_d00df (d := d + 0) (lst hX) h) (fun w8 z9 h => ?_)
  refine vw_aload_n hX 1 dJ5_append_cf1ce_24 rfl ?_
  refine vw_aload_n hX 1 dJ5_append_cf1ce_25 rfl ?_
  obtain ⟨v12, hv12, h⟩ := h
  refine g_J5_79 hX hv12 dJ5_append_cf1ce_26 ?_
  refine vw_aload_n hX 2 dJ5_append_cf1ce_29 rfl ?_
  obtain ⟨hr13, h⟩ := h
  refine s_J5_208 hX hr13 dJ5_append_cf1ce_30 (Nat.le_of_ble_eq_true rfl) (ct_J5_putStringAt_47b60 (d := d + 0) (lst hX) h) (fun w15 z16 h => ?_)
  refine vw_aload_n hX 1 dJ5_append_cf1ce_33 rfl ?_
  refine vw_dup hX dJ5_append_cf1ce_34 rfl ?_
  obtain ⟨v17, hv17, h⟩ := h
  refine g_J5_79 hX hv17 dJ5_append_cf1ce_35 ?_
  refine vw_iload_n hX 0 dJ5_append_cf1ce_38 rfl ?_
  refine vw_iadd hX dJ5_append_cf1ce_39 ?_
  obtain ⟨f18, hf18, hlf18, h⟩ := h
  refine p_J5_79 hX hf18 hlf18 dJ5_append_cf1ce_40 ?_
  refine vw_nmW (fun w19 ew19 => ?_)
  have h := h w19 ew19
  refine vw_aload_n hX 1 dJ5_append_cf1ce_43 rfl ?_
  exact vw_aret hX hE (Or.inl ⟨_, rfl⟩) dJ5_append_cf1ce_44 ⟨_, rfl, h⟩
def F_J4_append_15ec4 (a0 : Nat) (a1 : Nat) (w : Mm) (z : Nat) (mc ms : Nat) (Q : Nat → Mm → Nat → Prop) : Prop :=
  isO w a0 1 ∧ ∃ k5 k6, k5 ≤ mc ∧ k6 ≤ ms ∧ F_J5_append_cf1ce a0 a1 w z k5 k6 (fun r2 w3 z4 => Q a0 w3 z4)
set_option maxRecDepth 100000 in
set_option maxHeartbeats 4000000 in
theorem ct_J4_append_15ec4 {l : Launch} {g : Gp} {d : Nat} (hst : l.stackTraces = false) {a0 : Nat} {a1 : Nat} {w : Mm} {z mc ms : Nat} {Q : Nat → Mm → Nat → Prop} {X : String → Mm → Nat → Prop} (h : F_J4_append_15ec4 a0 a1 w z mc ms Q) : Ct l g yJ4_append_15ec4 (.code yJ4_append_15ec4 cJ4_append_15ec4 2 (some (.object "java/lang/StringBuilder"))) (d + 5) mc ms [.ref (a0), .ref (a1)] w z (rR Q) X := by
  refine Ct.of hst (by decide) (Nat.le_of_ble_eq_true rfl) (fun C hX hE hg hl hNm => ?_)
  subst hg
  subst hl
  unfold F_J4_append_15ec4 at h
  show VW C 0 [(0, .ref (a0)), (1, .ref (a1))] [] w z mc ms
  refine vw_aload_n hX 0 dJ4_append_15ec4_0 rfl ?_
  refine vw_aload_n hX 1 dJ4_append_15ec4_1 rfl ?_
  obtain ⟨hr1, h⟩ := h
  obtain ⟨k5, k6, hm1, hm2, h⟩ := h
  refine s_J4_29 hX hr1 dJ4_append_15ec4_2 (Nat.le_of_ble_eq_true rfl) hm1 hm2 (ct_J5_append_cf1ce (d := d + 0) (lst hX) h) (fun r2 w3 z4 h => ?_)
  refine vw_pop hX dJ4_append_15ec4_5 rfl ?_
  refine vw_aload_n hX 0 dJ4_append_15ec4_6 rfl ?_
  exact vw_aret hX hE (Or.inl ⟨_, rfl⟩) dJ4_append_15ec4_7 ⟨_, rfl, h⟩
def B_J6_stringSize_0f7a4_16  (Q : Int32 → Mm → Nat → Prop) : Nat → Int32 → Int32 → Int32 → Int32 → Mm → Nat → Prop
  | 0, _, _, _, _, _, _ => False
  | n + 1, x0, x1, x2, x3, w, z => (10 ≤ x3 → Q ((10 + x1)) w z) ∧
  (¬ 10 ≤ x3 → (x0 ≤ x2 → ∀ i3 : Int32, i3 = (10 * x2) → B_J6_stringSize_0f7a4_16 Q n x0 x1 i3 ((x3 + 1)) w z) ∧
  (¬ x0 ≤ x2 → Q ((x3 + x1)) w z))
set_option maxRecDepth 100000 in
set_option maxHeartbeats 4000000 in
theorem pB_J6_stringSize_0f7a4_16 {C : Cx} {d : Nat}  {Q : Int32 → Mm → Nat → Prop} {X : String → Mm → Nat → Prop} (hX : CX C cJ6_stringSize_0f7a4 RJ6 4 (some .int) [] (d + 0)) (hE : EQ C (rI Q) X) : ∀ (n : Nat) (x0 : Int32) (x1 : Int32) (x2 : Int32) (x3 : Int32) (w : Mm) (z mc ms : Nat), B_J6_stringSize_0f7a4_16 Q n x0 x1 x2 x3 w z → VW C 16 [(0, .int (x0)), (1, .int (x1)), (2, .int (x2)), (3, .int (x3))] [] w z mc ms := by
  intro n
  induction n with
  | zero => intro x0 x1 x2 x3 w z mc ms h; exact False.elim h
  | succ n ih =>
    intro x0 x1 x2 x3 w z mc ms h
    unfold B_J6_stringSize_0f7a4_16 at h
    refine vw_iload_n hX 3 dJ6_stringSize_0f7a4_16 rfl ?_
    refine vw_bipush hX (v := 10) dJ6_stringSize_0f7a4_17 (by decide) ?_
    refine vw_icmp_ge hX (tgt := 42) dJ6_stringSize_0f7a4_19 (by decide) (fun c1 => ?_) (fun c1 => ?_)
    · have h := h.1 c1
      refine vw_bipush hX (v := 10) dJ6_stringSize_0f7a4_42 (by decide) ?_
      refine vw_iload_n hX 1 dJ6_stringSize_0f7a4_44 rfl ?_
      refine vw_iadd hX dJ6_stringSize_0f7a4_45 ?_
      exact vw_iret hX hE dJ6_stringSize_0f7a4_46 ⟨_, rfl, h⟩
    · have h := h.2 c1
      refine vw_iload_n hX 0 dJ6_stringSize_0f7a4_22 rfl ?_
      refine vw_iload_n hX 2 dJ6_stringSize_0f7a4_23 rfl ?_
      refine vw_icmp_le hX (tgt := 31) dJ6_stringSize_0f7a4_24 (by decide) (fun c2 => ?_) (fun c2 => ?_)
      · have h := h.1 c2
        refine vw_bipush hX (v := 10) dJ6_stringSize_0f7a4_31 (by decide) ?_
        refine vw_iload_n hX 2 dJ6_stringSize_0f7a4_33 rfl ?_
        refine vw_imul hX dJ6_stringSize_0f7a4_34 ?_
        refine vw_nmI (fun i3 ei3 => ?_)
        have h := h i3 ei3
        refine vw_istore_n hX dJ6_stringSize_0f7a4_35 (by decide) rfl ?_
        refine vw_iinc hX 3 (v := x3 + 1) dJ6_stringSize_0f7a4_36 rfl rfl (by decide) rfl ?_
        refine vw_goto hX (tgt := 16) dJ6_stringSize_0f7a4_39 (by decide) ?_
        exact vw_sub [2, 3, 1, 0] rfl (ih _ _ _ _ _ _ _ _ h)
      · have h := h.2 c2
        refine vw_iload_n hX 3 dJ6_stringSize_0f7a4_27 rfl ?_
        refine vw_iload_n hX 1 dJ6_stringSize_0f7a4_28 rfl ?_
        refine vw_iadd hX dJ6_stringSize_0f7a4_29 ?_
        exact vw_iret hX hE dJ6_stringSize_0f7a4_30 ⟨_, rfl, h⟩
def B_J6_stringSize_0f7a4_11  (Q : Int32 → Mm → Nat → Prop) (x0 : Int32) (x1 : Int32) (w : Mm) (z : Nat) : Prop :=
  ∃ n, B_J6_stringSize_0f7a4_16 Q n x0 x1 (-10) 1 w z
set_option maxRecDepth 100000 in
set_option maxHeartbeats 4000000 in
theorem pB_J6_stringSize_0f7a4_11 {C : Cx} {d : Nat}  {Q : Int32 → Mm → Nat → Prop} {X : String → Mm → Nat → Prop} (hX : CX C cJ6_stringSize_0f7a4 RJ6 4 (some .int) [] (d + 0)) (hE : EQ C (rI Q) X) : ∀ (x0 : Int32) (x1 : Int32) (w : Mm) (z mc ms : Nat), B_J6_stringSize_0f7a4_11 Q x0 x1 w z → VW C 11 [(0, .int (x0)), (1, .int (x1))] [] w z mc ms := by
  intro x0 x1 w z mc ms h
  unfold B_J6_stringSize_0f7a4_11 at h
  refine vw_bipush hX (v := (-10)) dJ6_stringSize_0f7a4_11 (by decide) ?_
  refine vw_istore_n hX dJ6_stringSize_0f7a4_13 (by decide) rfl ?_
  refine vw_iconst hX (v := 1) dJ6_stringSize_0f7a4_14 (by decide) ?_
  refine vw_istore_n hX dJ6_stringSize_0f7a4_15 (by decide) rfl ?_
  obtain ⟨n, h⟩ := h
  exact vw_sub [2, 3, 1, 0] rfl (pB_J6_stringSize_0f7a4_16 hX hE n _ _ _ _ _ _ _ _ h)
def F_J6_stringSize_0f7a4 (a0 : Int32) (w : Mm) (z : Nat) (Q : Int32 → Mm → Nat → Prop) : Prop :=
  (a0 < 0 → B_J6_stringSize_0f7a4_11 Q a0 1 w z) ∧
  (¬ a0 < 0 → ∀ i2 : Int32, i2 = (-a0) → B_J6_stringSize_0f7a4_11 Q i2 0 w z)
set_option maxRecDepth 100000 in
set_option maxHeartbeats 4000000 in
theorem ct_J6_stringSize_0f7a4 {l : Launch} {g : Gp} {d : Nat} (hst : l.stackTraces = false) {a0 : Int32} {w : Mm} {z mc ms : Nat} {Q : Int32 → Mm → Nat → Prop} {X : String → Mm → Nat → Prop} (h : F_J6_stringSize_0f7a4 a0 w z Q) : Ct l g yJ6_stringSize_0f7a4 (.code yJ6_stringSize_0f7a4 cJ6_stringSize_0f7a4 4 (some .int)) (d + 0) mc ms [.int (a0)] w z (rI Q) X := by
  refine Ct.of hst (by decide) (Nat.le_of_ble_eq_true rfl) (fun C hX hE hg hl hNm => ?_)
  subst hg
  subst hl
  unfold F_J6_stringSize_0f7a4 at h
  show VW C 0 [(0, .int (a0))] [] w z mc ms
  refine vw_iconst hX (v := 1) dJ6_stringSize_0f7a4_0 (by decide) ?_
  refine vw_istore_n hX dJ6_stringSize_0f7a4_1 (by decide) rfl ?_
  refine vw_iload_n hX 1 dJ6_stringSize_0f7a4_2 rfl ?_
  refine vw_if_lt hX (tgt := 11) dJ6_stringSize_0f7a4_3 (by decide) (fun c1 => ?_) (fun c1 => ?_)
  · have h := h.1 c1
    exact vw_sub [1, 0] rfl (pB_J6_stringSize_0f7a4_11 hX hE _ _ _ _ _ _ h)
  · have h := h.2 c1
    refine vw_iconst hX (v := 0) dJ6_stringSize_0f7a4_6 (by decide) ?_
    refine vw_istore_n hX dJ6_stringSize_0f7a4_7 (by decide) rfl ?_
    refine vw_iload_n hX 1 dJ6_stringSize_0f7a4_8 rfl ?_
    refine vw_ineg hX dJ6_stringSize_0f7a4_9 ?_
    refine vw_nmI (fun i2 ei2 => ?_)
    have h := h i2 ei2
    refine vw_istore_n hX dJ6_stringSize_0f7a4_10 (by decide) rfl ?_
    exact pB_J6_stringSize_0f7a4_11 hX hE _ _ _ _ _ _ h
def B_J6_getChars_ba4f3_104 (a1 : Int32) (a2 : Nat) (Q : Int32 → Mm → Nat → Prop) (x5 : Int32) (x6 : Int32) (w : Mm) (z : Nat) : Prop :=
  (x6 = 0 → Q x5 w z) ∧
  (¬ x6 = 0 → ∃ n3 f2, arW w a2 1 = some (n3, f2) ∧ vp_in ((x5 + (-1))) n3 ∧ ∀ w4, w4 = mset w a2 (.inr (1, n3, .inl (upd f2 ((x5 + (-1)) : Int32).toNatClampNeg (vp_nar .byte 45)))) → Q ((x5 + (-1))) w4 z)
set_option maxRecDepth 100000 in
set_option maxHeartbeats 4000000 in
theorem pB_J6_getChars_ba4f3_104 {C : Cx} {d : Nat} {a1 : Int32} {a2 : Nat} {Q : Int32 → Mm → Nat → Prop} {X : String → Mm → Nat → Prop} (hX : CX C cJ6_getChars_ba4f3 RJ6 7 (some .int) [] (d + 0)) (hE : EQ C (rI Q) X) : ∀ (x5 : Int32) (x6 : Int32) (w : Mm) (z mc ms : Nat), B_J6_getChars_ba4f3_104 a1 a2 Q x5 x6 w z → VW C 104 [(1, .int (a1)), (2, .ref (a2)), (5, .int (x5)), (6, .int (x6))] [] w z mc ms := by
  intro x5 x6 w z mc ms h
  unfold B_J6_getChars_ba4f3_104 at h
  refine vw_iload hX 3 dJ6_getChars_ba4f3_104 rfl ?_
  refine vw_if_eq hX (tgt := 118) dJ6_getChars_ba4f3_106 (by decide) (fun c1 => ?_) (fun c1 => ?_)
  · have h := h.1 c1
    refine vw_iload hX 2 dJ6_getChars_ba4f3_118 rfl ?_
    exact vw_iret hX hE dJ6_getChars_ba4f3_120 ⟨_, rfl, h⟩
  · have h := h.2 c1
    refine vw_aload_n hX 1 dJ6_getChars_ba4f3_109 rfl ?_
    refine vw_iinc hX 2 (v := x5 + (-1)) dJ6_getChars_ba4f3_110 rfl rfl (by decide) rfl ?_
    refine vw_iload hX 0 dJ6_getChars_ba4f3_113 rfl ?_
    refine vw_bipush hX (v := 45) dJ6_getChars_ba4f3_115 (by decide) ?_
    obtain ⟨n3, f2, hf2, hif2, h⟩ := h
    refine vw_bast hX hf2 hif2 dJ6_getChars_ba4f3_117 ?_
    refine vw_nmW (fun w4 ew4 => ?_)
    have h := h w4 ew4
    refine vw_iload hX 0 dJ6_getChars_ba4f3_118 rfl ?_
    exact vw_iret hX hE dJ6_getChars_ba4f3_120 ⟨_, rfl, h⟩
def B_J6_getChars_ba4f3_22 (a1 : Int32) (a2 : Nat) (Q : Int32 → Mm → Nat → Prop) : Nat → Int32 → Int32 → Int32 → Mm → Nat → Prop
  | 0, _, _, _, _, _ => False
  | n + 1, x0, x5, x6, w, z => ((-100) < x0 → ∀ q6, isTab w q6 digO → ∃ n8 f7, arI w q6 1 = some (n8, f7) ∧ vp_in ((-x0)) n8 ∧ ∃ n10 f9, arW w a2 1 = some (n10, f9) ∧ vp_in ((x5 + (-1))) n10 ∧ ∀ w11, w11 = mset w a2 (.inr (1, n10, .inl (upd f9 ((x5 + (-1)) : Int32).toNatClampNeg (vp_nar .byte ((f7 ((-x0) : Int32).toNatClampNeg)))))) → ((-9) ≤ x0 → B_J6_getChars_ba4f3_104 a1 a2 Q ((x5 + (-1))) x6 w11 z) ∧
  (¬ (-9) ≤ x0 → ∀ q13, isTab w11 q13 digT → ∃ n15 f14, arI w11 q13 1 = some (n15, f14) ∧ vp_in ((-x0)) n15 ∧ ∃ n17 f16, arW w11 a2 1 = some (n17, f16) ∧ vp_in ((((x5 + (-1))) + (-1))) n17 ∧ ∀ w18, w18 = mset w11 a2 (.inr (1, n17, .inl (upd f16 ((((x5 + (-1))) + (-1)) : Int32).toNatClampNeg (vp_nar .byte ((f14 ((-x0) : Int32).toNatClampNeg)))))) → B_J6_getChars_ba4f3_104 a1 a2 Q ((((x5 + (-1))) + (-1))) x6 w18 z)) ∧
  (¬ (-100) < x0 → ∀ i19 : Int32, i19 = (x0 / 100) → ∀ i20 : Int32, i20 = (((i19 * 100)) - x0) → ∀ q21, isTab w q21 digO → ∃ n23 f22, arI w q21 1 = some (n23, f22) ∧ vp_in i20 n23 ∧ ∃ n25 f24, arW w a2 1 = some (n25, f24) ∧ vp_in ((x5 + (-1))) n25 ∧ ∀ w26, w26 = mset w a2 (.inr (1, n25, .inl (upd f24 ((x5 + (-1)) : Int32).toNatClampNeg (vp_nar .byte ((f22 (i20 : Int32).toNatClampNeg)))))) → ∀ q27, isTab w26 q27 digT → ∃ n29 f28, arI w26 q27 1 = some (n29, f28) ∧ vp_in i20 n29 ∧ ∃ n31 f30, arW w26 a2 1 = some (n31, f30) ∧ vp_in ((((x5 + (-1))) + (-1))) n31 ∧ ∀ w32, w32 = mset w26 a2 (.inr (1, n31, .inl (upd f30 ((((x5 + (-1))) + (-1)) : Int32).toNatClampNeg (vp_nar .byte ((f28 (i20 : Int32).toNatClampNeg)))))) → B_J6_getChars_ba4f3_22 a1 a2 Q n i19 ((((x5 + (-1))) + (-1))) x6 w32 z)
set_option maxRecDepth 100000 in
set_option maxHeartbeats 4000000 in
theorem pB_J6_getChars_ba4f3_22 {C : Cx} {d : Nat} {a1 : Int32} {a2 : Nat} {Q : Int32 → Mm → Nat → Prop} {X : String → Mm → Nat → Prop} (hX : CX C cJ6_getChars_ba4f3 RJ6 7 (some .int) [] (d + 0)) (hE : EQ C (rI Q) X) : ∀ (n : Nat) (x0 : Int32) (x5 : Int32) (x6 : Int32) (w : Mm) (z mc ms : Nat), B_J6_getChars_ba4f3_22 a1 a2 Q n x0 x5 x6 w z → VW C 22 [(0, .int (x0)), (1, .int (a1)), (2, .ref (a2)), (5, .int (x5)), (6, .int (x6))] [] w z mc ms := by
  intro n
  induction n with
  | zero => intro x0 x5 x6 w z mc ms h; exact False.elim h
  | succ n ih =>
    intro x0 x5 x6 w z mc ms h
    unfold B_J6_getChars_ba4f3_22 at h
    refine vw_iload_n hX 0 dJ6_getChars_ba4f3_22 rfl ?_
    refine vw_bipush hX (v := (-100)) dJ6_getChars_ba4f3_23 (by decide) ?_
    refine vw_icmp_gt hX (tgt := 72) dJ6_getChars_ba4f3_25 (by decide) (fun c5 => ?_) (fun c5 => ?_)
    · have h := h.1 c5
      refine vw_aload_n hX 2 dJ6_getChars_ba4f3_72 rfl ?_
      refine vw_iinc hX 3 (v := x5 + (-1)) dJ6_getChars_ba4f3_73 rfl rfl (by decide) rfl ?_
      refine vw_iload hX 0 dJ6_getChars_ba4f3_76 rfl ?_
      refine vw_getsO hX kw_705 dJ6_getChars_ba4f3_78 (fun q6 hq6 => ?_)
      have h := h q6 hq6
      refine vw_iload_n hX 1 dJ6_getChars_ba4f3_81 rfl ?_
      refine vw_ineg hX dJ6_getChars_ba4f3_82 ?_
      obtain ⟨n8, f7, hf7, hif7, h⟩ := h
      refine vw_bald hX hf7 hif7 dJ6_getChars_ba4f3_83 ?_
      obtain ⟨n10, f9, hf9, hif9, h⟩ := h
      refine vw_bast hX hf9 hif9 dJ6_getChars_ba4f3_84 ?_
      refine vw_nmW (fun w11 ew11 => ?_)
      have h := h w11 ew11
      refine vw_iload_n hX 1 dJ6_getChars_ba4f3_85 rfl ?_
      refine vw_bipush hX (v := (-9)) dJ6_getChars_ba4f3_86 (by decide) ?_
      refine vw_icmp_ge hX (tgt := 104) dJ6_getChars_ba4f3_88 (by decide) (fun c12 => ?_) (fun c12 => ?_)
      · have h := h.1 c12
        exact vw_sub [2, 3, 0, 4] rfl (pB_J6_getChars_ba4f3_104 hX hE _ _ _ _ _ _ h)
      · have h := h.2 c12
        refine vw_aload_n hX 3 dJ6_getChars_ba4f3_91 rfl ?_
        refine vw_iinc hX 0 (v := ((x5 + (-1))) + (-1)) dJ6_getChars_ba4f3_92 rfl rfl (by decide) rfl ?_
        refine vw_iload hX 0 dJ6_getChars_ba4f3_95 rfl ?_
        refine vw_getsT hX kw_707 dJ6_getChars_ba4f3_97 (fun q13 hq13 => ?_)
        have h := h q13 hq13
        refine vw_iload_n hX 1 dJ6_getChars_ba4f3_100 rfl ?_
        refine vw_ineg hX dJ6_getChars_ba4f3_101 ?_
        obtain ⟨n15, f14, hf14, hif14, h⟩ := h
        refine vw_bald hX hf14 hif14 dJ6_getChars_ba4f3_102 ?_
        obtain ⟨n17, f16, hf16, hif16, h⟩ := h
        refine vw_bast hX hf16 hif16 dJ6_getChars_ba4f3_103 ?_
        refine vw_nmW (fun w18 ew18 => ?_)
        have h := h w18 ew18
        exact vw_sub [2, 3, 0, 4] rfl (pB_J6_getChars_ba4f3_104 hX hE _ _ _ _ _ _ h)
    · have h := h.2 c5
      refine vw_iload_n hX 0 dJ6_getChars_ba4f3_28 rfl ?_
      refine vw_bipush hX (v := 100) dJ6_getChars_ba4f3_29 (by decide) ?_
      refine vw_idiv hX dJ6_getChars_ba4f3_31 (by decide) ?_
      refine vw_nmI (fun i19 ei19 => ?_)
      have h := h i19 ei19
      refine vw_istore_n hX dJ6_getChars_ba4f3_32 (by decide) rfl ?_
      refine vw_iload_n hX 0 dJ6_getChars_ba4f3_33 rfl ?_
      refine vw_bipush hX (v := 100) dJ6_getChars_ba4f3_34 (by decide) ?_
      refine vw_imul hX dJ6_getChars_ba4f3_36 ?_
      refine vw_iload_n hX 1 dJ6_getChars_ba4f3_37 rfl ?_
      refine vw_isub hX dJ6_getChars_ba4f3_38 ?_
      refine vw_nmI (fun i20 ei20 => ?_)
      have h := h i20 ei20
      refine vw_istore hX dJ6_getChars_ba4f3_39 (by decide) rfl ?_
      refine vw_iload_n hX 1 dJ6_getChars_ba4f3_41 rfl ?_
      refine vw_istore_n hX dJ6_getChars_ba4f3_42 (by decide) rfl ?_
      refine vw_aload_n hX 4 dJ6_getChars_ba4f3_43 rfl ?_
      refine vw_iinc hX 5 (v := x5 + (-1)) dJ6_getChars_ba4f3_44 rfl rfl (by decide) rfl ?_
      refine vw_iload hX 0 dJ6_getChars_ba4f3_47 rfl ?_
      refine vw_getsO hX kw_705 dJ6_getChars_ba4f3_49 (fun q21 hq21 => ?_)
      have h := h q21 hq21
      refine vw_iload hX 2 dJ6_getChars_ba4f3_52 rfl ?_
      obtain ⟨n23, f22, hf22, hif22, h⟩ := h
      refine vw_bald hX hf22 hif22 dJ6_getChars_ba4f3_54 ?_
      obtain ⟨n25, f24, hf24, hif24, h⟩ := h
      refine vw_bast hX hf24 hif24 dJ6_getChars_ba4f3_55 ?_
      refine vw_nmW (fun w26 ew26 => ?_)
      have h := h w26 ew26
      refine vw_aload_n hX 5 dJ6_getChars_ba4f3_56 rfl ?_
      refine vw_iinc hX 0 (v := ((x5 + (-1))) + (-1)) dJ6_getChars_ba4f3_57 rfl rfl (by decide) rfl ?_
      refine vw_iload hX 0 dJ6_getChars_ba4f3_60 rfl ?_
      refine vw_getsT hX kw_707 dJ6_getChars_ba4f3_62 (fun q27 hq27 => ?_)
      have h := h q27 hq27
      refine vw_iload hX 2 dJ6_getChars_ba4f3_65 rfl ?_
      obtain ⟨n29, f28, hf28, hif28, h⟩ := h
      refine vw_bald hX hf28 hif28 dJ6_getChars_ba4f3_67 ?_
      obtain ⟨n31, f30, hf30, hif30, h⟩ := h
      refine vw_bast hX hf30 hif30 dJ6_getChars_ba4f3_68 ?_
      refine vw_nmW (fun w32 ew32 => ?_)
      have h := h w32 ew32
      refine vw_goto hX (tgt := 22) dJ6_getChars_ba4f3_69 (by decide) ?_
      exact vw_sub [1, 4, 5, 0, 6] rfl (ih _ _ _ _ _ _ _ h)
def B_J6_getChars_ba4f3_12 (a1 : Int32) (a2 : Nat) (Q : Int32 → Mm → Nat → Prop) (x0 : Int32) (x5 : Int32) (y0 : Int32) (w : Mm) (z : Nat) : Prop :=
  (¬ y0 = 0 → ∃ n, B_J6_getChars_ba4f3_22 a1 a2 Q n x0 x5 y0 w z) ∧
  (y0 = 0 → ∀ i34 : Int32, i34 = (-x0) → ∃ n, B_J6_getChars_ba4f3_22 a1 a2 Q n i34 x5 y0 w z)
set_option maxRecDepth 100000 in
set_option maxHeartbeats 4000000 in
theorem pB_J6_getChars_ba4f3_12 {C : Cx} {d : Nat} {a1 : Int32} {a2 : Nat} {Q : Int32 → Mm → Nat → Prop} {X : String → Mm → Nat → Prop} (hX : CX C cJ6_getChars_ba4f3 RJ6 7 (some .int) [] (d + 0)) (hE : EQ C (rI Q) X) : ∀ (x0 : Int32) (x5 : Int32) (y0 : Int32) (w : Mm) (z mc ms : Nat), B_J6_getChars_ba4f3_12 a1 a2 Q x0 x5 y0 w z → VW C 12 [(0, .int (x0)), (1, .int (a1)), (2, .ref (a2)), (5, .int (x5))] [.int (y0)] w z mc ms := by
  intro x0 x5 y0 w z mc ms h
  unfold B_J6_getChars_ba4f3_12 at h
  refine vw_istore hX dJ6_getChars_ba4f3_12 (by decide) rfl ?_
  refine vw_iload hX 0 dJ6_getChars_ba4f3_14 rfl ?_
  refine vw_if_ne hX (tgt := 22) dJ6_getChars_ba4f3_16 (by decide) (fun c33 => ?_) (fun c33 => ?_)
  · have h := h.1 c33
    obtain ⟨n, h⟩ := h
    exact vw_sub [1, 2, 3, 4, 0] rfl (pB_J6_getChars_ba4f3_22 hX hE n _ _ _ _ _ _ _ h)
  · have h := h.2 c33
    refine vw_iload_n hX 1 dJ6_getChars_ba4f3_19 rfl ?_
    refine vw_ineg hX dJ6_getChars_ba4f3_20 ?_
    refine vw_nmI (fun i34 ei34 => ?_)
    have h := h i34 ei34
    refine vw_istore_n hX dJ6_getChars_ba4f3_21 (by decide) rfl ?_
    obtain ⟨n, h⟩ := h
    exact vw_sub [0, 2, 3, 4, 1] rfl (pB_J6_getChars_ba4f3_22 hX hE n _ _ _ _ _ _ _ h)
def F_J6_getChars_ba4f3 (a0 : Int32) (a1 : Int32) (a2 : Nat) (w : Mm) (z : Nat) (Q : Int32 → Mm → Nat → Prop) : Prop :=
  (0 ≤ a0 → B_J6_getChars_ba4f3_12 a1 a2 Q a0 a1 0 w z) ∧
  (¬ 0 ≤ a0 → B_J6_getChars_ba4f3_12 a1 a2 Q a0 a1 1 w z)
set_option maxRecDepth 100000 in
set_option maxHeartbeats 4000000 in
theorem ct_J6_getChars_ba4f3 {l : Launch} {g : Gp} {d : Nat} (hst : l.stackTraces = false) {a0 : Int32} {a1 : Int32} {a2 : Nat} {w : Mm} {z mc ms : Nat} {Q : Int32 → Mm → Nat → Prop} {X : String → Mm → Nat → Prop} (h : F_J6_getChars_ba4f3 a0 a1 a2 w z Q) : Ct l g yJ6_getChars_ba4f3 (.code yJ6_getChars_ba4f3 cJ6_getChars_ba4f3 7 (some .int)) (d + 0) mc ms [.int (a0), .int (a1), .ref (a2)] w z (rI Q) X := by
  refine Ct.of hst (by decide) (Nat.le_of_ble_eq_true rfl) (fun C hX hE hg hl hNm => ?_)
  subst hg
  subst hl
  unfold F_J6_getChars_ba4f3 at h
  show VW C 0 [(0, .int (a0)), (1, .int (a1)), (2, .ref (a2))] [] w z mc ms
  refine vw_iload_n hX 1 dJ6_getChars_ba4f3_0 rfl ?_
  refine vw_istore hX dJ6_getChars_ba4f3_1 (by decide) rfl ?_
  refine vw_iload_n hX 1 dJ6_getChars_ba4f3_3 rfl ?_
  refine vw_if_ge hX (tgt := 11) dJ6_getChars_ba4f3_4 (by decide) (fun c1 => ?_) (fun c1 => ?_)
  · have h := h.1 c1
    refine vw_iconst hX (v := 0) dJ6_getChars_ba4f3_11 (by decide) ?_
    exact vw_sub [1, 2, 3, 0] rfl (pB_J6_getChars_ba4f3_12 hX hE _ _ _ _ _ _ _ h)
  · have h := h.2 c1
    refine vw_iconst hX (v := 1) dJ6_getChars_ba4f3_7 (by decide) ?_
    refine vw_goto hX (tgt := 12) dJ6_getChars_ba4f3_8 (by decide) ?_
    exact vw_sub [1, 2, 3, 0] rfl (pB_J6_getChars_ba4f3_12 hX hE _ _ _ _ _ _ _ h)
def F_J5_append_c97b9 (a0 : Nat) (a1 : Int32) (w : Mm) (z : Nat) (mc ms : Nat) (Q : Nat → Mm → Nat → Prop) : Prop :=
  ∃ v1, fld w a0 1 3 = some (.int (v1)) ∧ F_J6_stringSize_0f7a4 a1 w z (fun r2 w3 z4 => ∀ i5 : Int32, i5 = (v1 + r2) → isO w3 a0 1 ∧ ∃ k10 k11, k10 ≤ mc ∧ k11 ≤ ms ∧ F_J5_ensureCapacityInternal_d00df a0 i5 w3 z4 k10 k11 (fun w8 z9 => isO w8 a0 1 ∧ F_J5_isLatin1_aae02 a0 w8 z9 (fun r13 w14 z15 => (r13 = 0 → False) ∧
  (¬ r13 = 0 → ∃ q17, fld w14 a0 1 0 = some (.ref (q17)) ∧ F_J6_getChars_ba4f3 a1 i5 q17 w14 z15 (fun r18 w19 z20 => ∃ f21, obj w19 a0 1 = some f21 ∧ 3 < f21.length ∧ ∀ w22, w22 = mset w19 a0 (.inl (1, f21.set 3 (.int (i5)))) → Q a0 w22 z20)))))
set_option maxRecDepth 100000 in
set_option maxHeartbeats 4000000 in
theorem ct_J5_append_c97b9 {l : Launch} {g : Gp} {d : Nat} (hst : l.stackTraces = false) {a0 : Nat} {a1 : Int32} {w : Mm} {z mc ms : Nat} {Q : Nat → Mm → Nat → Prop} {X : String → Mm → Nat → Prop} (h : F_J5_append_c97b9 a0 a1 w z mc ms Q) : Ct l g yJ5_append_c97b9 (.code yJ5_append_c97b9 cJ5_append_c97b9 4 (some (.object "java/lang/AbstractStringBuilder"))) (d + 4) mc ms [.ref (a0), .int (a1)] w z (rR Q) X := by
  refine Ct.of hst (by decide) (Nat.le_of_ble_eq_true rfl) (fun C hX hE hg hl hNm => ?_)
  subst hg
  subst hl
  unfold F_J5_append_c97b9 at h
  show VW C 0 [(0, .ref (a0)), (1, .int (a1))] [] w z mc ms
  refine vw_aload_n hX 0 dJ5_append_c97b9_0 rfl ?_
  obtain ⟨v1, hv1, h⟩ := h
  refine g_J5_79 hX hv1 dJ5_append_c97b9_1 ?_
  refine vw_istore_n hX dJ5_append_c97b9_4 (by decide) rfl ?_
  refine vw_iload_n hX 0 dJ5_append_c97b9_5 rfl ?_
  refine vw_iload_n hX 2 dJ5_append_c97b9_6 rfl ?_
  refine s_J5_245 hX dJ5_append_c97b9_7 (Nat.le_of_ble_eq_true rfl) (ct_J6_stringSize_0f7a4 (d := d + 3) (lst hX) h) (fun r2 w3 z4 h => ?_)
  refine vw_iadd hX dJ5_append_c97b9_10 ?_
  refine vw_nmI (fun i5 ei5 => ?_)
  have h := h i5 ei5
  refine vw_istore_n hX dJ5_append_c97b9_11 (by decide) rfl ?_
  refine vw_aload_n hX 2 dJ5_append_c97b9_12 rfl ?_
  refine vw_iload_n hX 0 dJ5_append_c97b9_13 rfl ?_
  obtain ⟨hr6, h⟩ := h
  obtain ⟨k10, k11, hm1, hm2, h⟩ := h
  refine s_J5_100 hX hr6 dJ5_append_c97b9_14 (Nat.le_of_ble_eq_true rfl) hm1 hm2 (ct_J5_ensureCapacityInternal_d00df (d := d + 0) (lst hX) h) (fun w8 z9 h => ?_)
  refine vw_aload_n hX 2 dJ5_append_c97b9_17 rfl ?_
  obtain ⟨hr12, h⟩ := h
  refine s_J5_83 hX hr12 dJ5_append_c97b9_18 (Nat.le_of_ble_eq_true rfl) (ct_J5_isLatin1_aae02 (d := d + 3) (lst hX) h) (fun r13 w14 z15 h => ?_)
  refine vw_if_eq hX (tgt := 37) dJ5_append_c97b9_21 (by decide) (fun c16 => ?_) (fun c16 => ?_)
  · exact (h.1 c16).elim
  · have h := h.2 c16
    refine vw_iload_n hX 3 dJ5_append_c97b9_24 rfl ?_
    refine vw_iload_n hX 0 dJ5_append_c97b9_25 rfl ?_
    refine vw_aload_n hX 2 dJ5_append_c97b9_26 rfl ?_
    obtain ⟨q17, hq17, h⟩ := h
    refine g_J5_15 hX hq17 dJ5_append_c97b9_27 ?_
    refine s_J5_248 hX dJ5_append_c97b9_30 (Nat.le_of_ble_eq_true rfl) (ct_J6_getChars_ba4f3 (d := d + 3) (lst hX) h) (fun r18 w19 z20 h => ?_)
    refine vw_pop hX dJ5_append_c97b9_33 rfl ?_
    refine vw_goto hX (tgt := 48) dJ5_append_c97b9_34 (by decide) ?_
    refine vw_aload_n hX 2 dJ5_append_c97b9_48 rfl ?_
    refine vw_iload_n hX 0 dJ5_append_c97b9_49 rfl ?_
    obtain ⟨f21, hf21, hlf21, h⟩ := h
    refine p_J5_79 hX hf21 hlf21 dJ5_append_c97b9_50 ?_
    refine vw_nmW (fun w22 ew22 => ?_)
    have h := h w22 ew22
    refine vw_aload_n hX 2 dJ5_append_c97b9_53 rfl ?_
    exact vw_aret hX hE (Or.inl ⟨_, rfl⟩) dJ5_append_c97b9_54 ⟨_, rfl, h⟩
def F_J4_append_bf812 (a0 : Nat) (a1 : Int32) (w : Mm) (z : Nat) (mc ms : Nat) (Q : Nat → Mm → Nat → Prop) : Prop :=
  isO w a0 1 ∧ ∃ k5 k6, k5 ≤ mc ∧ k6 ≤ ms ∧ F_J5_append_c97b9 a0 a1 w z k5 k6 (fun r2 w3 z4 => Q a0 w3 z4)
set_option maxRecDepth 100000 in
set_option maxHeartbeats 4000000 in
theorem ct_J4_append_bf812 {l : Launch} {g : Gp} {d : Nat} (hst : l.stackTraces = false) {a0 : Nat} {a1 : Int32} {w : Mm} {z mc ms : Nat} {Q : Nat → Mm → Nat → Prop} {X : String → Mm → Nat → Prop} (h : F_J4_append_bf812 a0 a1 w z mc ms Q) : Ct l g yJ4_append_bf812 (.code yJ4_append_bf812 cJ4_append_bf812 2 (some (.object "java/lang/StringBuilder"))) (d + 5) mc ms [.ref (a0), .int (a1)] w z (rR Q) X := by
  refine Ct.of hst (by decide) (Nat.le_of_ble_eq_true rfl) (fun C hX hE hg hl hNm => ?_)
  subst hg
  subst hl
  unfold F_J4_append_bf812 at h
  show VW C 0 [(0, .ref (a0)), (1, .int (a1))] [] w z mc ms
  refine vw_aload_n hX 0 dJ4_append_bf812_0 rfl ?_
  refine vw_iload_n hX 1 dJ4_append_bf812_1 rfl ?_
  obtain ⟨hr1, h⟩ := h
  obtain ⟨k5, k6, hm1, hm2, h⟩ := h
  refine s_J4_53 hX hr1 dJ4_append_bf812_2 (Nat.le_of_ble_eq_true rfl) hm1 hm2 (ct_J5_append_c97b9 (d := d + 0) (lst hX) h) (fun r2 w3 z4 h => ?_)
  refine vw_pop hX dJ4_append_bf812_5 rfl ?_
  refine vw_aload_n hX 0 dJ4_append_bf812_6 rfl ?_
  exact vw_aret hX hE (Or.inl ⟨_, rfl⟩) dJ4_append_bf812_7 ⟨_, rfl, h⟩
def F_J5_charAt_5068e (a0 : Nat) (a1 : Int32) (w : Mm) (z : Nat) (Q : Int32 → Mm → Nat → Prop) : Prop :=
  ∃ v1, fld w a0 1 1 = some (.int (v1)) ∧ ∃ q2, fld w a0 1 0 = some (.ref (q2)) ∧ ∃ v3, fld w a0 1 3 = some (.int (v3)) ∧ ∃ n5 f4, arI w q2 1 = some (n5, f4) ∧ ∀ i6 : Int32, i6 = (jmin v3 ((((nI n5)) >>> (v1 &&& 31)))) → F_J0_checkIndex_df160 a1 i6 w z (fun w8 z9 => (¬ v1 = 0 → False) ∧
  (v1 = 0 → ∃ n12 f11, arI w8 q2 1 = some (n12, f11) ∧ vp_in a1 n12 ∧ narrow .char (.int ((((((f11 (a1 : Int32).toNatClampNeg)) &&& 255) : Int32).toUInt32 % 65536).toInt32)) = .int ((((((f11 (a1 : Int32).toNatClampNeg)) &&& 255) : Int32).toUInt32 % 65536).toInt32) ∧ Q ((((((f11 (a1 : Int32).toNatClampNeg)) &&& 255) : Int32).toUInt32 % 65536).toInt32) w8 z9))
set_option maxRecDepth 100000 in
set_option maxHeartbeats 4000000 in
theorem ct_J5_charAt_5068e {l : Launch} {g : Gp} {d : Nat} (hst : l.stackTraces = false) {a0 : Nat} {a1 : Int32} {w : Mm} {z mc ms : Nat} {Q : Int32 → Mm → Nat → Prop} {X : String → Mm → Nat → Prop} (h : F_J5_charAt_5068e a0 a1 w z Q) : Ct l g yJ5_charAt_5068e (.code yJ5_charAt_5068e cJ5_charAt_5068e 5 (some .char)) (d + 2) mc ms [.ref (a0), .int (a1)] w z (rI Q) X := by
  refine Ct.of hst (by decide) (Nat.le_of_ble_eq_true rfl) (fun C hX hE hg hl hNm => ?_)
  subst hg
  subst hl
  unfold F_J5_charAt_5068e at h
  show VW C 0 [(0, .ref (a0)), (1, .int (a1))] [] w z mc ms
  refine vw_aload_n hX 0 dJ5_charAt_5068e_0 rfl ?_
  obtain ⟨v1, hv1, h⟩ := h
  refine g_J5_22 hX hv1 dJ5_charAt_5068e_1 ?_
  refine vw_istore_n hX dJ5_charAt_5068e_4 (by decide) rfl ?_
  refine vw_aload_n hX 1 dJ5_charAt_5068e_5 rfl ?_
  obtain ⟨q2, hq2, h⟩ := h
  refine g_J5_15 hX hq2 dJ5_charAt_5068e_6 ?_
  refine vw_astore_n hX dJ5_charAt_5068e_9 (by decide) rfl ?_
  refine vw_aload_n hX 2 dJ5_charAt_5068e_10 rfl ?_
  obtain ⟨v3, hv3, h⟩ := h
  refine g_J5_79 hX hv3 dJ5_charAt_5068e_11 ?_
  refine vw_aload_n hX 0 dJ5_charAt_5068e_14 rfl ?_
  obtain ⟨n5, f4, hf4, h⟩ := h
  refine vw_alen hX 1 (by decide) hf4 dJ5_charAt_5068e_15 ?_
  refine vw_iload_n hX 1 dJ5_charAt_5068e_16 rfl ?_
  refine vw_ishr hX dJ5_charAt_5068e_17 ?_
  refine vw_mmin hX kw_1197 (Nat.le_of_ble_eq_true rfl) dJ5_charAt_5068e_18 ?_
  refine vw_nmI (fun i6 ei6 => ?_)
  have h := h i6 ei6
  refine vw_istore hX dJ5_charAt_5068e_21 (by decide) rfl ?_
  refine vw_iload_n hX 4 dJ5_charAt_5068e_23 rfl ?_
  refine vw_iload hX 0 dJ5_charAt_5068e_24 rfl ?_
  refine s_J5_144 hX dJ5_charAt_5068e_26 (Nat.le_of_ble_eq_true rfl) (ct_J0_checkIndex_df160 (d := d + 0) (lst hX) h) (fun w8 z9 h => ?_)
  refine vw_iload_n hX 2 dJ5_charAt_5068e_29 rfl ?_
  refine vw_if_ne hX (tgt := 42) dJ5_charAt_5068e_30 (by decide) (fun c10 => ?_) (fun c10 => ?_)
  · exact (h.1 c10).elim
  · have h := h.2 c10
    refine vw_aload_n hX 1 dJ5_charAt_5068e_33 rfl ?_
    refine vw_iload_n hX 4 dJ5_charAt_5068e_34 rfl ?_
    obtain ⟨n12, f11, hf11, hif11, h⟩ := h
    refine vw_bald hX hf11 hif11 dJ5_charAt_5068e_35 ?_
    refine vw_sipush hX (v := 255) dJ5_charAt_5068e_36 (by decide) ?_
    refine vw_iand hX dJ5_charAt_5068e_39 ?_
    refine vw_i2c hX dJ5_charAt_5068e_40 ?_
    exact vw_zret hX hE dJ5_charAt_5068e_41 h.1 ⟨_, rfl, h.2⟩
def F_J4_charAt_5068e (a0 : Nat) (a1 : Int32) (w : Mm) (z : Nat) (Q : Int32 → Mm → Nat → Prop) : Prop :=
  isO w a0 1 ∧ F_J5_charAt_5068e a0 a1 w z (fun r2 w3 z4 => narrow .char (.int r2) = .int r2 ∧ Q r2 w3 z4)
set_option maxRecDepth 100000 in
set_option maxHeartbeats 4000000 in
theorem ct_J4_charAt_5068e {l : Launch} {g : Gp} {d : Nat} (hst : l.stackTraces = false) {a0 : Nat} {a1 : Int32} {w : Mm} {z mc ms : Nat} {Q : Int32 → Mm → Nat → Prop} {X : String → Mm → Nat → Prop} (h : F_J4_charAt_5068e a0 a1 w z Q) : Ct l g yJ4_charAt_5068e (.code yJ4_charAt_5068e cJ4_charAt_5068e 2 (some .char)) (d + 3) mc ms [.ref (a0), .int (a1)] w z (rI Q) X := by
  refine Ct.of hst (by decide) (Nat.le_of_ble_eq_true rfl) (fun C hX hE hg hl hNm => ?_)
  subst hg
  subst hl
  unfold F_J4_charAt_5068e at h
  show VW C 0 [(0, .ref (a0)), (1, .int (a1))] [] w z mc ms
  refine vw_aload_n hX 0 dJ4_charAt_5068e_0 rfl ?_
  refine vw_iload_n hX 1 dJ4_charAt_5068e_1 rfl ?_
  obtain ⟨hr1, h⟩ := h
  refine s_J4_329 hX hr1 dJ4_charAt_5068e_2 (Nat.le_of_ble_eq_true rfl) (ct_J5_charAt_5068e (d := d + 0) (lst hX) h) (fun r2 w3 z4 h => ?_)
  exact vw_zret hX hE dJ4_charAt_5068e_5 h.1 ⟨_, rfl, h.2⟩
