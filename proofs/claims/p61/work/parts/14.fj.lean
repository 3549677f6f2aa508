def F_J0_coder_7d493 (a0 : Nat) (w : Mm) (z : Nat) (Q : Int32 → Mm → Nat → Prop) : Prop :=
  ∃ v1, fld w a0 0 1 = some (.int (v1)) ∧ narrow .byte (.int v1) = .int v1 ∧ Q v1 w z
set_option maxRecDepth 100000 in
set_option maxHeartbeats 4000000 in
theorem ct_J0_coder_7d493 {l : Launch} {g : Gp} {d : Nat} (hst : l.stackTraces = false) {a0 : Nat} {w : Mm} {z mc ms : Nat} {Q : Int32 → Mm → Nat → Prop} {X : String → Mm → Nat → Prop} (h : F_J0_coder_7d493 a0 w z Q) : Ct l g yJ0_coder_7d493 (.code yJ0_coder_7d493 cJ0_coder_7d493 1 (some .byte)) (d + 0) mc ms [.ref (a0)] w z (rI Q) X := by
  refine Ct.of hst (by decide) (Nat.le_of_ble_eq_true rfl) (fun C hX hE hg hl hNm => ?_)
  subst hg
  subst hl
  unfold F_J0_coder_7d493 at h
  show VW C 0 [(0, .ref (a0))] [] w z mc ms
  refine vw_gets hX (v := .int 1) (by decide) kw_382 dJ0_coder_7d493_0 ?_
  refine vw_if_eq hX (tgt := 13) dJ0_coder_7d493_3 (by decide) (fun c => absurd c (by decide)) (fun c => ?_)
  refine vw_aload_n hX 0 dJ0_coder_7d493_6 rfl ?_
  obtain ⟨v1, hv1, h⟩ := h
  refine g_J0_15 hX hv1 dJ0_coder_7d493_7 ?_
  refine vw_goto hX (tgt := 14) dJ0_coder_7d493_10 (by decide) ?_
  exact vw_zret hX hE dJ0_coder_7d493_14 h.1 ⟨_, rfl, h.2⟩
def F_J0_length_8abf5 (a0 : Nat) (w : Mm) (z : Nat) (Q : Int32 → Mm → Nat → Prop) : Prop :=
  ∃ q1, fld w a0 0 0 = some (.ref (q1)) ∧ ∃ n3 f2, arI w q1 1 = some (n3, f2) ∧ isO w a0 0 ∧ F_J0_coder_7d493 a0 w z (fun r5 w6 z7 => Q ((((nI n3)) >>> (r5 &&& 31))) w6 z7)
set_option maxRecDepth 100000 in
set_option maxHeartbeats 4000000 in
theorem ct_J0_length_8abf5 {l : Launch} {g : Gp} {d : Nat} (hst : l.stackTraces = false) {a0 : Nat} {w : Mm} {z mc ms : Nat} {Q : Int32 → Mm → Nat → Prop} {X : String → Mm → Nat → Prop} (h : F_J0_length_8abf5 a0 w z Q) : Ct l g yJ0_length_8abf5 (.code yJ0_length_8abf5 cJ0_length_8abf5 1 (some .int)) (d + 1) mc ms [.ref (a0)] w z (rI Q) X := by
  refine Ct.of hst (by decide) (Nat.le_of_ble_eq_true rfl) (fun C hX hE hg hl hNm => ?_)
  subst hg
  subst hl
  unfold F_J0_length_8abf5 at h
  show VW C 0 [(0, .ref (a0))] [] w z mc ms
  refine vw_aload_n hX 0 dJ0_length_8abf5_0 rfl ?_
  obtain ⟨q1, hq1, h⟩ := h
  refine g_J0_9 hX hq1 dJ0_length_8abf5_1 ?_
  obtain ⟨n3, f2, hf2, h⟩ := h
  refine vw_alen hX 1 (by decide) hf2 dJ0_length_8abf5_4 ?_
  refine vw_aload_n hX 0 dJ0_length_8abf5_5 rfl ?_
  obtain ⟨hr4, h⟩ := h
  refine s_J0_335 hX hr4 dJ0_length_8abf5_6 (Nat.le_of_ble_eq_true rfl) (ct_J0_coder_7d493 (d := d + 0) (lst hX) h) (fun r5 w6 z7 h => ?_)
  refine vw_ishr hX dJ0_length_8abf5_9 ?_
  exact vw_iret hX hE dJ0_length_8abf5_10 ⟨_, rfl, h⟩
def F_J0_isLatin1_aae02 (a0 : Nat) (w : Mm) (z : Nat) (Q : Int32 → Mm → Nat → Prop) : Prop :=
  ∃ v1, fld w a0 0 1 = some (.int (v1)) ∧ (¬ v1 = 0 → Q 0 w z) ∧
  (v1 = 0 → Q 1 w z)
set_option maxRecDepth 100000 in
set_option maxHeartbeats 4000000 in
theorem ct_J0_isLatin1_aae02 {l : Launch} {g : Gp} {d : Nat} (hst : l.stackTraces = false) {a0 : Nat} {w : Mm} {z mc ms : Nat} {Q : Int32 → Mm → Nat → Prop} {X : String → Mm → Nat → Prop} (h : F_J0_isLatin1_aae02 a0 w z Q) : Ct l g yJ0_isLatin1_aae02 (.code yJ0_isLatin1_aae02 cJ0_isLatin1_aae02 1 (some .boolean)) (d + 0) mc ms [.ref (a0)] w z (rI Q) X := by
  refine Ct.of hst (by decide) (Nat.le_of_ble_eq_true rfl) (fun C hX hE hg hl hNm => ?_)
  subst hg
  subst hl
  unfold F_J0_isLatin1_aae02 at h
  show VW C 0 [(0, .ref (a0))] [] w z mc ms
  refine vw_gets hX (v := .int 1) (by decide) kw_382 dJ0_isLatin1_aae02_0 ?_
  refine vw_if_eq hX (tgt := 17) dJ0_isLatin1_aae02_3 (by decide) (fun c => absurd c (by decide)) (fun c => ?_)
  refine vw_aload_n hX 0 dJ0_isLatin1_aae02_6 rfl ?_
  obtain ⟨v1, hv1, h⟩ := h
  refine g_J0_15 hX hv1 dJ0_isLatin1_aae02_7 ?_
  refine vw_if_ne hX (tgt := 17) dJ0_isLatin1_aae02_10 (by decide) (fun c2 => ?_) (fun c2 => ?_)
  · have h := h.1 c2
    refine vw_iconst hX (v := 0) dJ0_isLatin1_aae02_17 (by decide) ?_
    exact vw_zret hX hE dJ0_isLatin1_aae02_18 rfl ⟨_, rfl, h⟩
  · have h := h.2 c2
    refine vw_iconst hX (v := 1) dJ0_isLatin1_aae02_13 (by decide) ?_
    refine vw_goto hX (tgt := 18) dJ0_isLatin1_aae02_14 (by decide) ?_
    exact vw_zret hX hE dJ0_isLatin1_aae02_18 rfl ⟨_, rfl, h⟩
def F_J3_checkIndex_8e157 (a0 : Int32) (a1 : Int32) (w : Mm) (z : Nat) (Q : Int32 → Mm → Nat → Prop) : Prop :=
  (a0 < 0 → False) ∧
  (¬ a0 < 0 → (a0 < a1 → Q a0 w z) ∧
  (¬ a0 < a1 → False))
set_option maxRecDepth 100000 in
set_option maxHeartbeats 4000000 in
theorem ct_J3_checkIndex_8e157 {l : Launch} {g : Gp} {d : Nat} (hst : l.stackTraces = false) {a0 : Int32} {a1 : Int32} {a2 : Nat} {w : Mm} {z mc ms : Nat} {Q : Int32 → Mm → Nat → Prop} {X : String → Mm → Nat → Prop} (h : F_J3_checkIndex_8e157 a0 a1 w z Q) : Ct l g yJ3_checkIndex_8e157 (.code yJ3_checkIndex_8e157 cJ3_checkIndex_8e157 3 (some .int)) (d + 0) mc ms [.int (a0), .int (a1), .ref (a2)] w z (rI Q) X := by
  refine Ct.of hst (by decide) (Nat.le_of_ble_eq_true rfl) (fun C hX hE hg hl hNm => ?_)
  subst hg
  subst hl
  unfold F_J3_checkIndex_8e157 at h
  show VW C 0 [(0, .int (a0)), (1, .int (a1)), (2, .ref (a2))] [] w z mc ms
  refine vw_iload_n hX 0 dJ3_checkIndex_8e157_0 rfl ?_
  refine vw_if_lt hX (tgt := 9) dJ3_checkIndex_8e157_1 (by decide) (fun c1 => ?_) (fun c1 => ?_)
  · exact (h.1 c1).elim
  · have h := h.2 c1
    refine vw_iload_n hX 0 dJ3_checkIndex_8e157_4 rfl ?_
    refine vw_iload_n hX 1 dJ3_checkIndex_8e157_5 rfl ?_
    refine vw_icmp_lt hX (tgt := 16) dJ3_checkIndex_8e157_6 (by decide) (fun c2 => ?_) (fun c2 => ?_)
    · have h := h.1 c2
      refine vw_iload_n hX 0 dJ3_checkIndex_8e157_16 rfl ?_
      exact vw_iret hX hE dJ3_checkIndex_8e157_17 ⟨_, rfl, h⟩
    · exact (h.2 c2).elim
set_option maxRecDepth 100000 in
set_option maxHeartbeats 4000000 in
theorem ct_J3_checkIndex_8e157_n {l : Launch} {g : Gp} {d : Nat} (hst : l.stackTraces = false) {a0 : Int32} {a1 : Int32} {w : Mm} {z mc ms : Nat} {Q : Int32 → Mm → Nat → Prop} {X : String → Mm → Nat → Prop} (h : F_J3_checkIndex_8e157 a0 a1 w z Q) : Ct l g yJ3_checkIndex_8e157 (.code yJ3_checkIndex_8e157 cJ3_checkIndex_8e157 3 (some .int)) (d + 0) mc ms [.int (a0), .int (a1), .null] w z (rI Q) X := by
  refine Ct.of hst (by decide) (Nat.le_of_ble_eq_true rfl) (fun C hX hE hg hl hNm => ?_)
  subst hg
  subst hl
  unfold F_J3_checkIndex_8e157 at h
  show VW C 0 [(0, .int (a0)), (1, .int (a1)), (2, .null)] [] w z mc ms
  refine vw_iload_n hX 0 dJ3_checkIndex_8e157_0 rfl ?_
  refine vw_if_lt hX (tgt := 9) dJ3_checkIndex_8e157_1 (by decide) (fun c1 => ?_) (fun c1 => ?_)
  · exact (h.1 c1).elim
  · have h := h.2 c1
    refine vw_iload_n hX 0 dJ3_checkIndex_8e157_4 rfl ?_
    refine vw_iload_n hX 1 dJ3_checkIndex_8e157_5 rfl ?_
    refine vw_icmp_lt hX (tgt := 16) dJ3_checkIndex_8e157_6 (by decide) (fun c2 => ?_) (fun c2 => ?_)
    · have h := h.1 c2
      refine vw_iload_n hX 0 dJ3_checkIndex_8e157_16 rfl ?_
      exact vw_iret hX hE dJ3_checkIndex_8e157_17 ⟨_, rfl, h⟩
    · exact (h.2 c2).elim
def F_J0_checkIndex_df160 (a0 : Int32) (a1 : Int32) (w : Mm) (z : Nat) (Q : Mm → Nat → Prop) : Prop :=
  F_J3_checkIndex_8e157 a0 a1 w z (fun r1 w2 z3 => Q w2 z3)
set_option maxRecDepth 100000 in
set_option maxHeartbeats 4000000 in
theorem ct_J0_checkIndex_df160 {l : Launch} {g : Gp} {d : Nat} (hst : l.stackTraces = false) {a0 : Int32} {a1 : Int32} {w : Mm} {z mc ms : Nat} {Q : Mm → Nat → Prop} {X : String → Mm → Nat → Prop} (h : F_J0_checkIndex_df160 a0 a1 w z Q) : Ct l g yJ0_checkIndex_df160 (.code yJ0_checkIndex_df160 cJ0_checkIndex_df160 2 none) (d + 1) mc ms [.int (a0), .int (a1)] w z (rV Q) X := by
  refine Ct.of hst (by decide) (Nat.le_of_ble_eq_true rfl) (fun C hX hE hg hl hNm => ?_)
  subst hg
  subst hl
  unfold F_J0_checkIndex_df160 at h
  show VW C 0 [(0, .int (a0)), (1, .int (a1))] [] w z mc ms
  refine vw_iload_n hX 0 dJ0_checkIndex_df160_0 rfl ?_
  refine vw_iload_n hX 1 dJ0_checkIndex_df160_1 rfl ?_
  refine vw_getsF hX kw_397 dJ0_checkIndex_df160_2 (fun u => ?_) ?_
  · skip
    refine s_J0_1059 hX dJ0_checkIndex_df160_5 (Nat.le_of_ble_eq_true rfl) (ct_J3_checkIndex_8e157 (d := d + 0) (lst hX) h) (fun r1 w2 z3 h => ?_)
    refine vw_pop hX dJ0_checkIndex_df160_8 rfl ?_
    exact vw_vret hX hE dJ0_checkIndex_df160_9 ⟨rfl, h⟩
  · skip
    refine s_J0_1059_n hX dJ0_checkIndex_df160_5 (Nat.le_of_ble_eq_true rfl) (ct_J3_checkIndex_8e157_n (d := d + 0) (lst hX) h) (fun r1 w2 z3 h => ?_)
    refine vw_pop hX dJ0_checkIndex_df160_8 rfl ?_
    exact vw_vret hX hE dJ0_checkIndex_df160_9 ⟨rfl, h⟩
def F_J1_charAt_3b067 (a0 : Nat) (a1 : Int32) (w : Mm) (z : Nat) (Q : Int32 → Mm → Nat → Prop) : Prop :=
  ∃ n2 f1, arI w a0 1 = some (n2, f1) ∧ F_J0_checkIndex_df160 a1 ((nI n2)) w z (fun w4 z5 => ∃ n7 f6, arI w4 a0 1 = some (n7, f6) ∧ vp_in a1 n7 ∧ narrow .char (.int ((((((f6 (a1 : Int32).toNatClampNeg)) &&& 255) : Int32).toUInt32 % 65536).toInt32)) = .int ((((((f6 (a1 : Int32).toNatClampNeg)) &&& 255) : Int32).toUInt32 % 65536).toInt32) ∧ Q ((((((f6 (a1 : Int32).toNatClampNeg)) &&& 255) : Int32).toUInt32 % 65536).toInt32) w4 z5)
set_option maxRecDepth 100000 in
set_option maxHeartbeats 4000000 in
theorem ct_J1_charAt_3b067 {l : Launch} {g : Gp} {d : Nat} (hst : l.stackTraces = false) {a0 : Nat} {a1 : Int32} {w : Mm} {z mc ms : Nat} {Q : Int32 → Mm → Nat → Prop} {X : String → Mm → Nat → Prop} (h : F_J1_charAt_3b067 a0 a1 w z Q) : Ct l g yJ1_charAt_3b067 (.code yJ1_charAt_3b067 cJ1_charAt_3b067 2 (some .char)) (d + 2) mc ms [.ref (a0), .int (a1)] w z (rI Q) X := by
  refine Ct.of hst (by decide) (Nat.le_of_ble_eq_true rfl) (fun C hX hE hg hl hNm => ?_)
  subst hg
  subst hl
  unfold F_J1_charAt_3b067 at h
  show VW C 0 [(0, .ref (a0)), (1, .int (a1))] [] w z mc ms
  refine vw_iload_n hX 1 dJ1_charAt_3b067_0 rfl ?_
  refine vw_aload_n hX 0 dJ1_charAt_3b067_1 rfl ?_
  obtain ⟨n2, f1, hf1, h⟩ := h
  refine vw_alen hX 1 (by decide) hf1 dJ1_charAt_3b067_2 ?_
  refine s_J1_9 hX dJ1_charAt_3b067_3 (Nat.le_of_ble_eq_true rfl) (ct_J0_checkIndex_df160 (d := d + 0) (lst hX) h) (fun w4 z5 h => ?_)
  refine vw_aload_n hX 0 dJ1_charAt_3b067_6 rfl ?_
  refine vw_iload_n hX 1 dJ1_charAt_3b067_7 rfl ?_
  obtain ⟨n7, f6, hf6, hif6, h⟩ := h
  refine vw_bald hX hf6 hif6 dJ1_charAt_3b067_8 ?_
  refine vw_sipush hX (v := 255) dJ1_charAt_3b067_9 (by decide) ?_
  refine vw_iand hX dJ1_charAt_3b067_12 ?_
  refine vw_i2c hX dJ1_charAt_3b067_13 ?_
  exact vw_zret hX hE dJ1_charAt_3b067_14 h.1 ⟨_, rfl, h.2⟩
def F_J0_charAt_5068e (a0 : Nat) (a1 : Int32) (w : Mm) (z : Nat) (Q : Int32 → Mm → Nat → Prop) : Prop :=
  isO w a0 0 ∧ F_J0_isLatin1_aae02 a0 w z (fun r2 w3 z4 => (r2 = 0 → False) ∧
  (¬ r2 = 0 → ∃ q6, fld w3 a0 0 0 = some (.ref (q6)) ∧ F_J1_charAt_3b067 q6 a1 w3 z4 (fun r7 w8 z9 => narrow .char (.int r7) = .int r7 ∧ Q r7 w8 z9)))
set_option maxRecDepth 100000 in
set_option maxHeartbeats 4000000 in
theorem ct_J0_charAt_5068e {l : Launch} {g : Gp} {d : Nat} (hst : l.stackTraces = false) {a0 : Nat} {a1 : Int32} {w : Mm} {z mc ms : Nat} {Q : Int32 → Mm → Nat → Prop} {X : String → Mm → Nat → Prop} (h : F_J0_charAt_5068e a0 a1 w z Q) : Ct l g yJ0_charAt_5068e (.code yJ0_charAt_5068e cJ0_charAt_5068e 2 (some .char)) (d + 3) mc ms [.ref (a0), .int (a1)] w z (rI Q) X := by
  refine Ct.of hst (by decide) (Nat.le_of_ble_eq_true rfl) (fun C hX hE hg hl hNm => ?_)
  subst hg
  subst hl
  unfold F_J0_charAt_5068e at h
  show VW C 0 [(0, .ref (a0)), (1, .int (a1))] [] w z mc ms
  refine vw_aload_n hX 0 dJ0_charAt_5068e_0 rfl ?_
  obtain ⟨hr1, h⟩ := h
  refine s_J0_492 hX hr1 dJ0_charAt_5068e_1 (Nat.le_of_ble_eq_true rfl) (ct_J0_isLatin1_aae02 (d := d + 2) (lst hX) h) (fun r2 w3 z4 h => ?_)
  refine vw_if_eq hX (tgt := 16) dJ0_charAt_5068e_4 (by decide) (fun c5 => ?_) (fun c5 => ?_)
  · exact (h.1 c5).elim
  · have h := h.2 c5
    refine vw_aload_n hX 0 dJ0_charAt_5068e_7 rfl ?_
    obtain ⟨q6, hq6, h⟩ := h
    refine g_J0_9 hX hq6 dJ0_charAt_5068e_8 ?_
    refine vw_iload_n hX 1 dJ0_charAt_5068e_11 rfl ?_
    refine s_J0_495 hX dJ0_charAt_5068e_12 (Nat.le_of_ble_eq_true rfl) (ct_J1_charAt_3b067 (d := d + 0) (lst hX) h) (fun r7 w8 z9 h => ?_)
    exact vw_zret hX hE dJ0_charAt_5068e_15 h.1 ⟨_, rfl, h.2⟩
def F_J5_init_d00df (a0 : Nat) (a1 : Int32) (w : Mm) (z : Nat) (mc ms : Nat) (Q : Mm → Nat → Prop) : Prop :=
  ¬ (a1 : Int32) < 0 ∧ ∃ n2, (a1 : Int32).toNatClampNeg = n2 ∧ n2 ≤ 10000000 ∧ 1 ≤ mc ∧ n2 ≤ ms ∧ ∀ w1, w1 = mset w z (.inr (1, n2, .inl (fun _ => 0))) → ∃ f3, obj w1 a0 1 = some f3 ∧ 0 < f3.length ∧ ∀ w4, w4 = mset w1 a0 (.inl (1, f3.set 0 (.ref (z)))) → ∃ f5, obj w4 a0 1 = some f5 ∧ 1 < f5.length ∧ ∀ w6, w6 = mset w4 a0 (.inl (1, f5.set 1 (.int (0)))) → Q w6 ((z + 1))
set_option maxRecDepth 100000 in
set_option maxHeartbeats 4000000 in
theorem ct_J5_init_d00df {l : Launch} {g : Gp} {d : Nat} (hst : l.stackTraces = false) {a0 : Nat} {a1 : Int32} {w : Mm} {z mc ms : Nat} {Q : Mm → Nat → Prop} {X : String → Mm → Nat → Prop} (h : F_J5_init_d00df a0 a1 w z mc ms Q) : Ct l g yJ5_init_d00df (.code yJ5_init_d00df cJ5_init_d00df 2 none) (d + 1) mc ms [.ref (a0), .int (a1)] w z (rV Q) X := by
  refine Ct.of hst (by decide) (Nat.le_of_ble_eq_true rfl) (fun C hX hE hg hl hNm => ?_)
  subst hg
  subst hl
  unfold F_J5_init_d00df at h
  show VW C 0 [(0, .ref (a0)), (1, .int (a1))] [] w z mc ms
  refine vw_aload_n hX 0 dJ5_init_d00df_0 rfl ?_
  refine vw_objInit hX kw_264 kw_38 kw_39 (Nat.le_of_ble_eq_true rfl) dJ5_init_d00df_1 ?_
  refine vw_gets hX (v := .int 1) (by decide) kw_265 dJ5_init_d00df_4 ?_
  refine vw_if_eq hX (tgt := 25) dJ5_init_d00df_7 (by decide) (fun c => absurd c (by decide)) (fun c => ?_)
  refine vw_aload_n hX 0 dJ5_init_d00df_10 rfl ?_
  refine vw_iload_n hX 1 dJ5_init_d00df_11 rfl ?_
  obtain ⟨hn0, n2, hN, hb, hm1, hm2, h⟩ := h
  refine vw_newB hX kw_90 hn0 hN hb hm1 hm2 dJ5_init_d00df_12 ?_
  refine vw_nmW (fun w1 ew1 => ?_)
  have h := h w1 ew1
  obtain ⟨f3, hf3, hlf3, h⟩ := h
  refine p_J5_15 hX hf3 hlf3 dJ5_init_d00df_14 ?_
  refine vw_nmW (fun w4 ew4 => ?_)
  have h := h w4 ew4
  refine vw_aload_n hX 0 dJ5_init_d00df_17 rfl ?_
  refine vw_iconst hX (v := 0) dJ5_init_d00df_18 (by decide) ?_
  obtain ⟨f5, hf5, hlf5, h⟩ := h
  refine p_J5_22 hX hf5 hlf5 rfl rfl dJ5_init_d00df_19 ?_
  refine vw_nmW (fun w6 ew6 => ?_)
  have h := h w6 ew6
  refine vw_goto hX (tgt := 38) dJ5_init_d00df_22 (by decide) ?_
  exact vw_vret hX hE dJ5_init_d00df_38 ⟨rfl, h⟩
def F_J4_init_da8c8 (a0 : Nat) (w : Mm) (z : Nat) (mc ms : Nat) (Q : Mm → Nat → Prop) : Prop :=
  ∃ k4 k5, k4 ≤ mc ∧ k5 ≤ ms ∧ F_J5_init_d00df a0 16 w z k4 k5 (fun w2 z3 => Q w2 z3)
set_option maxRecDepth 100000 in
set_option maxHeartbeats 4000000 in
theorem ct_J4_init_da8c8 {l : Launch} {g : Gp} {d : Nat} (hst : l.stackTraces = false) {a0 : Nat} {w : Mm} {z mc ms : Nat} {Q : Mm → Nat → Prop} {X : String → Mm → Nat → Prop} (h : F_J4_init_da8c8 a0 w z mc ms Q) : Ct l g yJ4_init_da8c8 (.code yJ4_init_da8c8 cJ4_init_da8c8 1 none) (d + 2) mc ms [.ref (a0)] w z (rV Q) X := by
  refine Ct.of hst (by decide) (Nat.le_of_ble_eq_true rfl) (fun C hX hE hg hl hNm => ?_)
  subst hg
  subst hl
  unfold F_J4_init_da8c8 at h
  show VW C 0 [(0, .ref (a0))] [] w z mc ms
  refine vw_aload_n hX 0 dJ4_init_da8c8_0 rfl ?_
  refine vw_bipush hX (v := 16) dJ4_init_da8c8_1 (by decide) ?_
  obtain ⟨k4, k5, hm1, hm2, h⟩ := h
  refine s_J4_1 hX dJ4_init_da8c8_3 (Nat.le_of_ble_eq_true rfl) hm1 hm2 (ct_J5_init_d00df (d := d + 0) (lst hX) h) (fun w2 z3 h => ?_)
  exact vw_vret hX hE dJ4_init_da8c8_6 ⟨rfl, h⟩
def F_J8_newLength_cabcc (a0 : Int32) (a1 : Int32) (a2 : Int32) (w : Mm) (z : Nat) (Q : Int32 → Mm → Nat → Prop) : Prop :=
  ∀ i1 : Int32, i1 = (a0 + ((jmax a1 a2))) → (i1 ≤ 0 → False) ∧
  (¬ i1 ≤ 0 → (2147483639 < i1 → False) ∧
  (¬ 2147483639 < i1 → Q i1 w z))
set_option maxRecDepth 100000 in
set_option maxHeartbeats 4000000 in
theorem ct_J8_newLength_cabcc {l : Launch} {g : Gp} {d : Nat} (hst : l.stackTraces = false) {a0 : Int32} {a1 : Int32} {a2 : Int32} {w : Mm} {z mc ms : Nat} {Q : Int32 → Mm → Nat → Prop} {X : String → Mm → Nat → Prop} (h : F_J8_newLength_cabcc a0 a1 a2 w z Q) : Ct l g yJ8_newLength_cabcc (.code yJ8_newLength_cabcc cJ8_newLength_cabcc 4 (some .int)) (d + 1) mc ms [.int (a0), .int (a1), .int (a2)] w z (rI Q) X := by
  refine Ct.of hst (by decide) (Nat.le_of_ble_eq_true rfl) (fun C hX hE hg hl hNm => ?_)
  subst hg
  subst hl
  unfold F_J8_newLength_cabcc at h
  show VW C 0 [(0, .int (a0)), (1, .int (a1)), (2, .int (a2))] [] w z mc ms
  refine vw_iload_n hX 0 dJ8_newLength_cabcc_0 rfl ?_
  refine vw_iload_n hX 1 dJ8_newLength_cabcc_1 rfl ?_
  refine vw_iload_n hX 2 dJ8_newLength_cabcc_2 rfl ?_
  refine vw_mmax hX kw_480 (Nat.le_of_ble_eq_true rfl) dJ8_newLength_cabcc_3 ?_
  refine vw_iadd hX dJ8_newLength_cabcc_6 ?_
  refine vw_nmI (fun i1 ei1 => ?_)
  have h := h i1 ei1
  refine vw_istore_n hX dJ8_newLength_cabcc_7 (by decide) rfl ?_
  refine vw_iconst hX (v := 0) dJ8_newLength_cabcc_8 (by decide) ?_
  refine vw_iload_n hX 0 dJ8_newLength_cabcc_9 rfl ?_
  refine vw_icmp_ge hX (tgt := 21) dJ8_newLength_cabcc_10 (by decide) (fun c2 => ?_) (fun c2 => ?_)
  · exact (h.1 c2).elim
  · have h := h.2 c2
    refine vw_iload_n hX 0 dJ8_newLength_cabcc_13 rfl ?_
    refine vw_ldcI hX kw_483 dJ8_newLength_cabcc_14 ?_
    refine vw_icmp_gt hX (tgt := 21) dJ8_newLength_cabcc_16 (by decide) (fun c3 => ?_) (fun c3 => ?_)
    · exact (h.1 c3).elim
    · have h := h.2 c3
      refine vw_iload_n hX 0 dJ8_newLength_cabcc_19 rfl ?_
      exact vw_iret hX hE dJ8_newLength_cabcc_20 ⟨_, rfl, h⟩
def F_J5_newCapacity_0f7a4 (a0 : Nat) (a1 : Int32) (w : Mm) (z : Nat) (Q : Int32 → Mm → Nat → Prop) : Prop :=
  ∃ q1, fld w a0 1 0 = some (.ref (q1)) ∧ ∃ n3 f2, arI w q1 1 = some (n3, f2) ∧ ∀ i4 : Int32, i4 = (nI n3) → ∃ v5, fld w a0 1 1 = some (.int (v5)) ∧ ∀ i6 : Int32, i6 = (a1 <<< (v5 &&& 31)) → ∀ i7 : Int32, i7 = (i6 - i4) → ∃ v8, fld w a0 1 1 = some (.int (v8)) ∧ F_J8_newLength_cabcc i4 i7 ((i4 + ((2 <<< (v8 &&& 31))))) w z (fun r9 w10 z11 => (¬ r9 = 2147483647 → ∃ v13, fld w10 a0 1 1 = some (.int (v13)) ∧ Q ((r9 >>> (v13 &&& 31))) w10 z11) ∧
  (r9 = 2147483647 → False))
set_option maxRecDepth 100000 in
set_option maxHeartbeats 4000000 in
theorem ct_J5_newCapacity_0f7a4 {l : Launch} {g : Gp} {d : Nat} (hst : l.stackTraces = false) {a0 : Nat} {a1 : Int32} {w : Mm} {z mc ms : Nat} {Q : Int32 → Mm → Nat → Prop} {X : String → Mm → Nat → Prop} (h : F_J5_newCapacity_0f7a4 a0 a1 w z Q) : Ct l g yJ5_newCapacity_0f7a4 (.code yJ5_newCapacity_0f7a4 cJ5_newCapacity_0f7a4 6 (some .int)) (d + 2) mc ms [.ref (a0), .int (a1)] w z (rI Q) X := by
  refine Ct.of hst (by decide) (Nat.le_of_ble_eq_true rfl) (fun C hX hE hg hl hNm => ?_)
  subst hg
  subst hl
  unfold F_J5_newCapacity_0f7a4 at h
  show VW C 0 [(0, .ref (a0)), (1, .int (a1))] [] w z mc ms
  refine vw_aload_n hX 0 dJ5_newCapacity_0f7a4_0 rfl ?_
  obtain ⟨q1, hq1, h⟩ := h
  refine g_J5_15 hX hq1 dJ5_newCapacity_0f7a4_1 ?_
  obtain ⟨n3, f2, hf2, h⟩ := h
  refine vw_alen hX 1 (by decide) hf2 dJ5_newCapacity_0f7a4_4 ?_
  refine vw_nmI (fun i4 ei4 => ?_)
  have h := h i4 ei4
  refine vw_istore_n hX dJ5_newCapacity_0f7a4_5 (by decide) rfl ?_
  refine vw_iload_n hX 2 dJ5_newCapacity_0f7a4_6 rfl ?_
  refine vw_aload_n hX 1 dJ5_newCapacity_0f7a4_7 rfl ?_
  obtain ⟨v5, hv5, h⟩ := h
  refine g_J5_22 hX hv5 dJ5_newCapacity_0f7a4_8 ?_
  refine vw_ishl hX dJ5_newCapacity_0f7a4_11 ?_
  refine vw_nmI (fun i6 ei6 => ?_)
  have h := h i6 ei6
  refine vw_istore_n hX dJ5_newCapacity_0f7a4_12 (by decide) rfl ?_
  refine vw_iload_n hX 0 dJ5_newCapacity_0f7a4_13 rfl ?_
  refine vw_iload_n hX 1 dJ5_newCapacity_0f7a4_14 rfl ?_
  refine vw_isub hX dJ5_newCapacity_0f7a4_15 ?_
  refine vw_nmI (fun i7 ei7 => ?_)
  have h := h i7 ei7
  refine vw_istore hX dJ5_newCapacity_0f7a4_16 (by decide) rfl ?_
  refine vw_iload_n hX 2 dJ5_newCapacity_0f7a4_18 rfl ?_
  refine vw_iload hX 0 dJ5_newCapacity_0f7a4_19 rfl ?_
  refine vw_iload_n hX 2 dJ5_newCapacity_0f7a4_21 rfl ?_
  refine vw_iconst hX (v := 2) dJ5_newCapacity_0f7a4_22 (by decide) ?_
  refine vw_aload_n hX 3 dJ5_newCapacity_0f7a4_23 rfl ?_
  obtain ⟨v8, hv8, h⟩ := h
  refine g_J5_22 hX hv8 dJ5_newCapacity_0f7a4_24 ?_
  refine vw_ishl hX dJ5_newCapacity_0f7a4_27 ?_
  refine vw_iadd hX dJ5_newCapacity_0f7a4_28 ?_
  refine s_J5_114 hX dJ5_newCapacity_0f7a4_29 (Nat.le_of_ble_eq_true rfl) (ct_J8_newLength_cabcc (d := d + 0) (lst hX) h) (fun r9 w10 z11 h => ?_)
  refine vw_istore hX dJ5_newCapacity_0f7a4_32 (by decide) rfl ?_
  refine vw_iload hX 0 dJ5_newCapacity_0f7a4_34 rfl ?_
  refine vw_ldcI hX kw_487 dJ5_newCapacity_0f7a4_36 ?_
  refine vw_icmp_ne hX (tgt := 51) dJ5_newCapacity_0f7a4_38 (by decide) (fun c12 => ?_) (fun c12 => ?_)
  · have h := h.1 c12
    refine vw_iload hX 0 dJ5_newCapacity_0f7a4_51 rfl ?_
    refine vw_aload_n hX 4 dJ5_newCapacity_0f7a4_53 rfl ?_
    obtain ⟨v13, hv13, h⟩ := h
    refine g_J5_22 hX hv13 dJ5_newCapacity_0f7a4_54 ?_
    refine vw_ishr hX dJ5_newCapacity_0f7a4_57 ?_
    exact vw_iret hX hE dJ5_newCapacity_0f7a4_58 ⟨_, rfl, h⟩
  · exact (h.2 c12).elim
def F_J7_copyOf_9075b (a0 : Nat) (a1 : Int32) (w : Mm) (z : Nat) (mc ms : Nat) (Q : Nat → Mm → Nat → Prop) : Prop :=
  ∃ n2 f1, arI w a0 1 = some (n2, f1) ∧ (¬ a1 = ((nI n2)) → ¬ (a1 : Int32) < 0 ∧ ∃ n5, (a1 : Int32).toNatClampNeg = n5 ∧ n5 ≤ 10000000 ∧ 1 ≤ mc ∧ n5 ≤ ms ∧ ∀ w4, w4 = mset w z (.inr (1, n5, .inl (fun _ => 0))) → ∃ n7 f6, arI w4 a0 1 = some (n7, f6) ∧ ∃ n9 f8 n11 f10, arI w4 a0 1 = some (n9, f8) ∧ arW w4 z 1 = some (n11, f10) ∧ ¬ (0 : Int32) < 0 ∧ ¬ (0 : Int32) < 0 ∧ ¬ ((jmin ((nI n7)) a1) : Int32) < 0 ∧ (0 : Int32).toNatClampNeg + ((jmin ((nI n7)) a1) : Int32).toNatClampNeg ≤ n9 ∧ (0 : Int32).toNatClampNeg + ((jmin ((nI n7)) a1) : Int32).toNatClampNeg ≤ n11 ∧ sb_Fit f8 ∧ ∀ w12, w12 = mset w4 z (.inr (1, n11, .inl (va_cpy f8 f10 (0 : Int32).toNatClampNeg (0 : Int32).toNatClampNeg ((jmin ((nI n7)) a1) : Int32).toNatClampNeg))) → Q z w12 ((z + 1))) ∧
  (a1 = ((nI n2)) → False)
set_option maxRecDepth 100000 in
set_option maxHeartbeats 4000000 in
theorem ct_J7_copyOf_9075b {l : Launch} {g : Gp} {d : Nat} (hst : l.stackTraces = false) {a0 : Nat} {a1 : Int32} {w : Mm} {z mc ms : Nat} {Q : Nat → Mm → Nat → Prop} {X : String → Mm → Nat → Prop} (h : F_J7_copyOf_9075b a0 a1 w z mc ms Q) : Ct l g yJ7_copyOf_9075b (.code yJ7_copyOf_9075b cJ7_copyOf_9075b 3 (some (.array .byte))) (d + 2) mc ms [.ref (a0), .int (a1)] w z (rR Q) X := by
  refine Ct.of hst (by decide) (Nat.le_of_ble_eq_true rfl) (fun C hX hE hg hl hNm => ?_)
  subst hg
  subst hl
  unfold F_J7_copyOf_9075b at h
  show VW C 0 [(0, .ref (a0)), (1, .int (a1))] [] w z mc ms
  refine vw_iload_n hX 1 dJ7_copyOf_9075b_0 rfl ?_
  refine vw_aload_n hX 0 dJ7_copyOf_9075b_1 rfl ?_
  obtain ⟨n2, f1, hf1, h⟩ := h
  refine vw_alen hX 1 (by decide) hf1 dJ7_copyOf_9075b_2 ?_
  refine vw_icmp_ne hX (tgt := 14) dJ7_copyOf_9075b_3 (by decide) (fun c3 => ?_) (fun c3 => ?_)
  · have h := h.1 c3
    refine vw_iload_n hX 1 dJ7_copyOf_9075b_14 rfl ?_
    obtain ⟨hn0, n5, hN, hb, hm1, hm2, h⟩ := h
    refine vw_newB hX kw_90 hn0 hN hb hm1 hm2 dJ7_copyOf_9075b_15 ?_
    refine vw_nmW (fun w4 ew4 => ?_)
    have h := h w4 ew4
    refine vw_astore_n hX dJ7_copyOf_9075b_17 (by decide) rfl ?_
    refine vw_aload_n hX 1 dJ7_copyOf_9075b_18 rfl ?_
    refine vw_iconst hX (v := 0) dJ7_copyOf_9075b_19 (by decide) ?_
    refine vw_aload_n hX 0 dJ7_copyOf_9075b_20 rfl ?_
    refine vw_iconst hX (v := 0) dJ7_copyOf_9075b_21 (by decide) ?_
    refine vw_aload_n hX 1 dJ7_copyOf_9075b_22 rfl ?_
    obtain ⟨n7, f6, hf6, h⟩ := h
    refine vw_alen hX 1 (by decide) hf6 dJ7_copyOf_9075b_23 ?_
    refine vw_iload_n hX 2 dJ7_copyOf_9075b_24 rfl ?_
    refine vw_mmin hX kw_498 (Nat.le_of_ble_eq_true rfl) dJ7_copyOf_9075b_25 ?_
    obtain ⟨n9, f8, n11, f10, hc1, hc2, hc3, hc4, hc5, hc6, hc7, hft, h⟩ := h
    refine vw_copy hX 1 (by decide) kw_499 rfl hc1 hc2 hc3 hc4 hc5 hc6 hc7 (fun i _ => hft _) (Nat.le_of_ble_eq_true rfl) dJ7_copyOf_9075b_28 ?_
    refine vw_nmW (fun w12 ew12 => ?_)
    have h := h w12 ew12
    refine vw_aload_n hX 0 dJ7_copyOf_9075b_31 rfl ?_
    exact vw_aret hX hE (Or.inr ⟨_, rfl⟩) dJ7_copyOf_9075b_32 ⟨_, rfl, h⟩
  · exact (h.2 c3).elim
def F_J5_ensureCapacityInternal_d00df (a0 : Nat) (a1 : Int32) (w : Mm) (z : Nat) (mc ms : Nat) (Q : Mm → Nat → Prop) : Prop :=
  ∃ q1, fld w a0 1 0 = some (.ref (q1)) ∧ ∃ n3 f2, arI w q1 1 = some (n3, f2) ∧ ∃ v4, fld w a0 1 1 = some (.int (v4)) ∧ ∀ i5 : Int32, i5 = (((nI n3)) >>> (v4 &&& 31)) → (((a1 - i5)) ≤ 0 → Q w z) ∧
  (¬ ((a1 - i5)) ≤ 0 → ∃ q7, fld w a0 1 0 = some (.ref (q7)) ∧ isO w a0 1 ∧ F_J5_newCapacity_0f7a4 a0 a1 w z (fun r9 w10 z11 => ∃ v12, fld w10 a0 1 1 = some (.int (v12)) ∧ ∃ k16 k17, k16 ≤ mc ∧ k17 ≤ ms ∧ F_J7_copyOf_9075b q7 ((r9 <<< (v12 &&& 31))) w10 z11 k16 k17 (fun r13 w14 z15 => ∃ f18, obj w14 a0 1 = some f18 ∧ 0 < f18.length ∧ ∀ w19, w19 = mset w14 a0 (.inl (1, f18.set 0 (.ref (r13)))) → Q w19 z15)))
set_option maxRecDepth 100000 in
set_option maxHeartbeats 4000000 in
theorem ct_J5_ensureCapacityInternal_d00df {l : Launch} {g : Gp} {d : Nat} (hst : l.stackTraces = false) {a0 : Nat} {a1 : Int32} {w : Mm} {z mc ms : Nat} {Q : Mm → Nat → Prop} {X : String → Mm → Nat → Prop} (h : F_J5_ensureCapacityInternal_d00df a0 a1 w z mc ms Q) : Ct l g yJ5_ensureCapacityInternal_d00df (.code yJ5_ensureCapacityInternal_d00df cJ5_ensureCapacityInternal_d00df 3 none) (d + 3) mc ms [.ref (a0), .int (a1)] w z (rV Q) X := by
  refine Ct.of hst (by decide) (Nat.le_of_ble_eq_true rfl) (fun C hX hE hg hl hNm => ?_)
  subst hg
  subst hl
  unfold F_J5_ensureCapacityInternal_d00df at h
  show VW C 0 [(0, .ref (a0)), (1, .int (a1))] [] w z mc ms
  refine vw_aload_n hX 0 dJ5_ensureCapacityInternal_d00df_0 rfl ?_
  obtain ⟨q1, hq1, h⟩ := h
  refine g_J5_15 hX hq1 dJ5_ensureCapacityInternal_d00df_1 ?_
  obtain ⟨n3, f2, hf2, h⟩ := h
  refine vw_alen hX 1 (by decide) hf2 dJ5_ensureCapacityInternal_d00df_4 ?_
  refine vw_aload_n hX 0 dJ5_ensureCapacityInternal_d00df_5 rfl ?_
  obtain ⟨v4, hv4, h⟩ := h
  refine g_J5_22 hX hv4 dJ5_ensureCapacityInternal_d00df_6 ?_
  refine vw_ishr hX dJ5_ensureCapacityInternal_d00df_9 ?_
  refine vw_nmI (fun i5 ei5 => ?_)
  have h := h i5 ei5
  refine vw_istore_n hX dJ5_ensureCapacityInternal_d00df_10 (by decide) rfl ?_
  refine vw_iload_n hX 2 dJ5_ensureCapacityInternal_d00df_11 rfl ?_
  refine vw_iload_n hX 0 dJ5_ensureCapacityInternal_d00df_12 rfl ?_
  refine vw_isub hX dJ5_ensureCapacityInternal_d00df_13 ?_
  refine vw_if_le hX (tgt := 38) dJ5_ensureCapacityInternal_d00df_14 (by decide) (fun c6 => ?_) (fun c6 => ?_)
  · have h := h.1 c6
    exact vw_vret hX hE dJ5_ensureCapacityInternal_d00df_38 ⟨rfl, h⟩
  · have h := h.2 c6
    refine vw_aload_n hX 1 dJ5_ensureCapacityInternal_d00df_17 rfl ?_
    refine vw_aload_n hX 1 dJ5_ensureCapacityInternal_d00df_18 rfl ?_
    obtain ⟨q7, hq7, h⟩ := h
    refine g_J5_15 hX hq7 dJ5_ensureCapacityInternal_d00df_19 ?_
    refine vw_aload_n hX 1 dJ5_ensureCapacityInternal_d00df_22 rfl ?_
    refine vw_iload_n hX 2 dJ5_ensureCapacityInternal_d00df_23 rfl ?_
    obtain ⟨hr8, h⟩ := h
    refine s_J5_104 hX hr8 dJ5_ensureCapacityInternal_d00df_24 (Nat.le_of_ble_eq_true rfl) (ct_J5_newCapacity_0f7a4 (d := d + 0) (lst hX) h) (fun r9 w10 z11 h => ?_)
    refine vw_aload_n hX 1 dJ5_ensureCapacityInternal_d00df_27 rfl ?_
    obtain ⟨v12, hv12, h⟩ := h
    refine g_J5_22 hX hv12 dJ5_ensureCapacityInternal_d00df_28 ?_
    refine vw_ishl hX dJ5_ensureCapacityInternal_d00df_31 ?_
    obtain ⟨k16, k17, hm1, hm2, h⟩ := h
    refine s_J5_108 hX dJ5_ensureCapacityInternal_d00df_32 (Nat.le_of_ble_eq_true rfl) hm1 hm2 (ct_J7_copyOf_9075b (d := d + 0) (lst hX) h) (fun r13 w14 z15 h => ?_)
    obtain ⟨f18, hf18, hlf18, h⟩ := h
    refine p_J5_15 hX hf18 hlf18 dJ5_ensureCapacityInternal_d00df_35 ?_
    refine vw_nmW (fun w19 ew19 => ?_)
    have h := h w19 ew19
    exact vw_vret hX hE dJ5_ensureCapacityInternal_d00df_38 ⟨rfl, h⟩
def F_J5_isLatin1_aae02 (a0 : Nat) (w : Mm) (z : Nat) (Q : Int32 → Mm → Nat → Prop) : Prop :=
  ∃ v1, fld w a0 1 1 = some (.int (v1)) ∧ (¬ v1 = 0 → Q 0 w z) ∧
  (v1 = 0 → Q 1 w z)
set_option maxRecDepth 100000 in
set_option maxHeartbeats 4000000 in
theorem ct_J5_isLatin1_aae02 {l : Launch} {g : Gp} {d : Nat} (hst : l.stackTraces = false) {a0 : Nat} {w : Mm} {z mc ms : Nat} {Q : Int32 → Mm → Nat → Prop} {X : String → Mm → Nat → Prop} (h : F_J5_isLatin1_aae02 a0 w z Q) : Ct l g yJ5_isLatin1_aae02 (.code yJ5_isLatin1_aae02 cJ5_isLatin1_aae02 1 (some .boolean)) (d + 0) mc ms [.ref (a0)] w z (rI Q) X := by
  refine Ct.of hst (by decide) (Nat.le_of_ble_eq_true rfl) (fun C hX hE hg hl hNm => ?_)
  subst hg
  subst hl
  unfold F_J5_isLatin1_aae02 at h
  show VW C 0 [(0, .ref (a0))] [] w z mc ms
  refine vw_gets hX (v := .int 1) (by decide) kw_265 dJ5_isLatin1_aae02_0 ?_
  refine vw_if_eq hX (tgt := 17) dJ5_isLatin1_aae02_3 (by decide) (fun c => absurd c (by decide)) (fun c => ?_)
  refine vw_aload_n hX 0 dJ5_isLatin1_aae02_6 rfl ?_
  obtain ⟨v1, hv1, h⟩ := h
  refine g_J5_22 hX hv1 dJ5_isLatin1_aae02_7 ?_
  refine vw_if_ne hX (tgt := 17) dJ5_isLatin1_aae02_10 (by decide) (fun c2 => ?_) (fun c2 => ?_)
  · have h := h.1 c2
    refine vw_iconst hX (v := 0) dJ5_isLatin1_aae02_17 (by decide) ?_
    exact vw_zret hX hE dJ5_isLatin1_aae02_18 rfl ⟨_, rfl, h⟩
  · have h := h.2 c2
    refine vw_iconst hX (v := 1) dJ5_isLatin1_aae02_13 (by decide) ?_
    refine vw_goto hX (tgt := 18) dJ5_isLatin1_aae02_14 (by decide) ?_
    exact vw_zret hX hE dJ5_isLatin1_aae02_18 rfl ⟨_, rfl, h⟩
def F_J1_canEncode_fc78d (a0 : Int32) (w : Mm) (z : Nat) (Q : Int32 → Mm → Nat → Prop) : Prop :=
  (255 < a0 → Q 0 w z) ∧
  (¬ 255 < a0 → Q 1 w z)
set_option maxRecDepth 100000 in
set_option maxHeartbeats 4000000 in
theorem ct_J1_canEncode_fc78d {l : Launch} {g : Gp} {d : Nat} (hst : l.stackTraces = false) {a0 : Int32} {w : Mm} {z mc ms : Nat} {Q : Int32 → Mm → Nat → Prop} {X : String → Mm → Nat → Prop} (h : F_J1_canEncode_fc78d a0 w z Q) : Ct l g yJ1_canEncode_fc78d (.code yJ1_canEncode_fc78d cJ1_canEncode_fc78d 1 (some .boolean)) (d + 0) mc ms [.int (a0)] w z (rI Q) X := by
  refine Ct.of hst (by decide) (Nat.le_of_ble_eq_true rfl) (fun C hX hE hg hl hNm => ?_)
  subst hg
  subst hl
  unfold F_J1_canEncode_fc78d at h
  show VW C 0 [(0, .int (a0))] [] w z mc ms
  refine vw_iload_n hX 0 dJ1_canEncode_fc78d_0 rfl ?_
  refine vw_sipush hX (v := 255) dJ1_canEncode_fc78d_1 (by decide) ?_
  refine vw_icmp_gt hX (tgt := 11) dJ1_canEncode_fc78d_4 (by decide) (fun c1 => ?_) (fun c1 => ?_)
  · have h := h.1 c1
    refine vw_iconst hX (v := 0) dJ1_canEncode_fc78d_11 (by decide) ?_
    exact vw_zret hX hE dJ1_canEncode_fc78d_12 rfl ⟨_, rfl, h⟩
  · have h := h.2 c1
    refine vw_iconst hX (v := 1) dJ1_canEncode_fc78d_7 (by decide) ?_
    refine vw_goto hX (tgt := 12) dJ1_canEncode_fc78d_8 (by decide) ?_
    exact vw_zret hX hE dJ1_canEncode_fc78d_12 rfl ⟨_, rfl, h⟩
def F_J5_append_3fe6f (a0 : Nat) (a1 : Int32) (w : Mm) (z : Nat) (mc ms : Nat) (Q : Nat → Mm → Nat → Prop) : Prop :=
  ∃ v1, fld w a0 1 3 = some (.int (v1)) ∧ isO w a0 1 ∧ ∃ k6 k7, k6 ≤ mc ∧ k7 ≤ ms ∧ F_J5_ensureCapacityInternal_d00df a0 ((v1 + 1)) w z k6 k7 (fun w4 z5 => isO w4 a0 1 ∧ F_J5_isLatin1_aae02 a0 w4 z5 (fun r9 w10 z11 => (r9 = 0 → False) ∧
  (¬ r9 = 0 → F_J1_canEncode_fc78d a1 w10 z11 (fun r13 w14 z15 => (r13 = 0 → False) ∧
  (¬ r13 = 0 → ∃ q17, fld w14 a0 1 0 = some (.ref (q17)) ∧ ∃ v18, fld w14 a0 1 3 = some (.int (v18)) ∧ ∃ f19, obj w14 a0 1 = some f19 ∧ 3 < f19.length ∧ ∀ w20, w20 = mset w14 a0 (.inl (1, f19.set 3 (.int ((v18 + 1))))) → ∃ n22 f21, arW w20 q17 1 = some (n22, f21) ∧ vp_in v18 n22 ∧ ∀ w23, w23 = mset w20 q17 (.inr (1, n22, .inl (upd f21 (v18 : Int32).toNatClampNeg (vp_nar .byte ((a1 : Int32).toInt8.toInt32))))) → Q a0 w23 z15)))))
set_option maxRecDepth 100000 in
set_option maxHeartbeats 4000000 in
theorem ct_J5_append_3fe6f {l : Launch} {g : Gp} {d : Nat} (hst : l.stackTraces = false) {a0 : Nat} {a1 : Int32} {w : Mm} {z mc ms : Nat} {Q : Nat → Mm → Nat → Prop} {X : String → Mm → Nat → Prop} (h : F_J5_append_3fe6f a0 a1 w z mc ms Q) : Ct l g yJ5_append_3fe6f (.code yJ5_append_3fe6f cJ5_append_3fe6f 2 (some (.object "java/lang/AbstractStringBuilder"))) (d + 4) mc ms [.ref (a0), .int (a1)] w z (rR Q) X := by
  refine Ct.of hst (by decide) (Nat.le_of_ble_eq_true rfl) (fun C hX hE hg hl hNm => ?_)
  subst hg
  subst hl
  unfold F_J5_append_3fe6f at h
  show VW C 0 [(0, .ref (a0)), (1, .int (a1))] [] w z mc ms
  refine vw_aload_n hX 0 dJ5_append_3fe6f_0 rfl ?_
  refine vw_aload_n hX 0 dJ5_append_3fe6f_1 rfl ?_
  obtain ⟨v1, hv1, h⟩ := h
  refine g_J5_79 hX hv1 dJ5_append_3fe6f_2 ?_
  refine vw_iconst hX (v := 1) dJ5_append_3fe6f_5 (by decide) ?_
  refine vw_iadd hX dJ5_append_3fe6f_6 ?_
  obtain ⟨hr2, h⟩ := h
  obtain ⟨k6, k7, hm1, hm2, h⟩ := h
  refine s_J5_100 hX hr2 dJ5_append_3fe6f_7 (Nat.le_of_ble_eq_true rfl) hm1 hm2 (ct_J5_ensureCapacityInternal_d00df (d := d + 0) (lst hX) h) (fun w4 z5 h => ?_)
  refine vw_aload_n hX 0 dJ5_append_3fe6f_10 rfl ?_
  obtain ⟨hr8, h⟩ := h
  refine s_J5_83 hX hr8 dJ5_append_3fe6f_11 (Nat.le_of_ble_eq_true rfl) (ct_J5_isLatin1_aae02 (d := d + 3) (lst hX) h) (fun r9 w10 z11 h => ?_)
  refine vw_if_eq hX (tgt := 45) dJ5_append_3fe6f_14 (by decide) (fun c12 => ?_) (fun c12 => ?_)
  · exact (h.1 c12).elim
  · have h := h.2 c12
    refine vw_iload_n hX 1 dJ5_append_3fe6f_17 rfl ?_
    refine s_J5_191 hX dJ5_append_3fe6f_18 (Nat.le_of_ble_eq_true rfl) (ct_J1_canEncode_fc78d (d := d + 3) (lst hX) h) (fun r13 w14 z15 h => ?_)
    refine vw_if_eq hX (tgt := 45) dJ5_append_3fe6f_21 (by decide) (fun c16 => ?_) (fun c16 => ?_)
    · exact (h.1 c16).elim
    · have h := h.2 c16
      refine vw_aload_n hX 0 dJ5_append_3fe6f_24 rfl ?_
      obtain ⟨q17, hq17, h⟩ := h
      refine g_J5_15 hX hq17 dJ5_append_3fe6f_25 ?_
      refine vw_aload_n hX 0 dJ5_append_3fe6f_28 rfl ?_
      refine vw_dup hX dJ5_append_3fe6f_29 rfl ?_
      obtain ⟨v18, hv18, h⟩ := h
      refine g_J5_79 hX hv18 dJ5_append_3fe6f_30 ?_
      refine vw_dup_x1 hX dJ5_append_3fe6f_33 rfl rfl ?_
      refine vw_iconst hX (v := 1) dJ5_append_3fe6f_34 (by decide) ?_
      refine vw_iadd hX dJ5_append_3fe6f_35 ?_
      obtain ⟨f19, hf19, hlf19, h⟩ := h
      refine p_J5_79 hX hf19 hlf19 dJ5_append_3fe6f_36 ?_
      refine vw_nmW (fun w20 ew20 => ?_)
      have h := h w20 ew20
      refine vw_iload_n hX 1 dJ5_append_3fe6f_39 rfl ?_
      refine vw_i2b hX dJ5_append_3fe6f_40 ?_
      obtain ⟨n22, f21, hf21, hif21, h⟩ := h
      refine vw_bast hX hf21 hif21 dJ5_append_3fe6f_41 ?_
      refine vw_nmW (fun w23 ew23 => ?_)
      have h := h w23 ew23
      refine vw_goto hX (tgt := 75) dJ5_append_3fe6f_42 (by decide) ?_
      refine vw_aload_n hX 0 dJ5_append_3fe6f_75 rfl ?_
      exact vw_aret hX hE (Or.inl ⟨_, rfl⟩) dJ5_append_3fe6f_76 ⟨_, rfl, h⟩
def F_J4_append_cf468 (a0 : Nat) (a1 : Int32) (w : Mm) (z : Nat) (mc ms : Nat) (Q : Nat → Mm → Nat → Prop) : Prop :=
  isO w a0 1 ∧ ∃ k5 k6, k5 ≤ mc ∧ k6 ≤ ms ∧ F_J5_append_3fe6f a0 a1 w z k5 k6 (fun r2 w3 z4 => Q a0 w3 z4)
set_option maxRecDepth 100000 in
set_option maxHeartbeats 4000000 in
theorem ct_J4_append_cf468 {l : Launch} {g : Gp} {d : Nat} (hst : l.stackTraces = false) {a0 : Nat} {a1 : Int32} {w : Mm} {z mc ms : Nat} {Q : Nat → Mm → Nat → Prop} {X : String → Mm → Nat → Prop} (h : F_J4_append_cf468 a0 a1 w z mc ms Q) : Ct l g yJ4_append_cf468 (.code yJ4_append_cf468 cJ4_append_cf468 2 (some (.object "java/lang/StringBuilder"))) (d + 5) mc ms [.ref (a0), .int (a1)] w z (rR Q) X := by
  refine Ct.of hst (by decide) (Nat.le_of_ble_eq_true rfl) (fun C hX hE hg hl hNm => ?_)
  subst hg
  subst hl
  unfold F_J4_append_cf468 at h
  show VW C 0 [(0, .ref (a0)), (1, .int (a1))] [] w z mc ms
  refine vw_aload_n hX 0 dJ4_append_cf468_0 rfl ?_
  refine vw_iload_n hX 1 dJ4_append_cf468_1 rfl ?_
  obtain ⟨hr1, h⟩ := h
  obtain ⟨k5, k6, hm1, hm2, h⟩ := h
  refine s_J4_50 hX hr1 dJ4_append_cf468_2 (Nat.le_of_ble_eq_true rfl) hm1 hm2 (ct_J5_append_3fe6f (d := d + 0) (lst hX) h) (fun r2 w3 z4 h => ?_)
  refine vw_pop hX dJ4_append_cf468_5 rfl ?_
  refine vw_aload_n hX 0 dJ4_append_cf468_6 rfl ?_
  exact vw_aret hX hE (Or.inl ⟨_, rfl⟩) dJ4_append_cf468_7 ⟨_, rfl, h⟩
def F_J5_getValue_6d5f1 (a0 : Nat) (w : Mm) (z : Nat) (Q : Nat → Mm → Nat → Prop) : Prop :=
  ∃ q1, fld w a0 1 0 = some (.ref (q1)) ∧ Q q1 w z
set_option maxRecDepth 100000 in
set_option maxHeartbeats 4000000 in
theorem ct_J5_getValue_6d5f1 {l : Launch} {g : Gp} {d : Nat} (hst : l.stackTraces = false) {a0 : Nat} {w : Mm} {z mc ms : Nat} {Q : Nat → Mm → Nat → Prop} {X : String → Mm → Nat → Prop} (h : F_J5_getValue_6d5f1 a0 w z Q) : Ct l g yJ5_getValue_6d5f1 (.code yJ5_getValue_6d5f1 cJ5_getValue_6d5f1 1 (some (.array .byte))) (d + 0) mc ms [.ref (a0)] w z (rR Q) X := by
  refine Ct.of hst (by decide) (Nat.le_of_ble_eq_true rfl) (fun C hX hE hg hl hNm => ?_)
  subst hg
  subst hl
  unfold F_J5_getValue_6d5f1 at h
  show VW C 0 [(0, .ref (a0))] [] w z mc ms
  refine vw_aload_n hX 0 dJ5_getValue_6d5f1_0 rfl ?_
  obtain ⟨q1, hq1, h⟩ := h
  refine g_J5_15 hX hq1 dJ5_getValue_6d5f1_1 ?_
  exact vw_aret hX hE (Or.inr ⟨_, rfl⟩) dJ5_getValue_6d5f1_4 ⟨_, rfl, h⟩
def F_J5_length_8abf5 (a0 : Nat) (w : Mm) (z : Nat) (Q : Int32 → Mm → Nat → Prop) : Prop :=
  ∃ v1, fld w a0 1 3 = some (.int (v1)) ∧ Q v1 w z
set_option maxRecDepth 100000 in
set_option maxHeartbeats 4000000 in
theorem ct_J5_length_8abf5 {l : Launch} {g : Gp} {d : Nat} (hst : l.stackTraces = false) {a0 : Nat} {w : Mm} {z mc ms : Nat} {Q : Int32 → Mm → Nat → Prop} {X : String → Mm → Nat → Prop} (h : F_J5_length_8abf5 a0 w z Q) : Ct l g yJ5_length_8abf5 (.code yJ5_length_8abf5 cJ5_length_8abf5 1 (some .int)) (d + 0) mc ms [.ref (a0)] w z (rI Q) X := by
  refine Ct.of hst (by decide) (Nat.le_of_ble_eq_true rfl) (fun C hX hE hg hl hNm => ?_)
  subst hg
  subst hl
  unfold F_J5_length_8abf5 at h
  show VW C 0 [(0, .ref (a0))] [] w z mc ms
  refine vw_aload_n hX 0 dJ5_length_8abf5_0 rfl ?_
  obtain ⟨v1, hv1, h⟩ := h
  refine g_J5_79 hX hv1 dJ5_length_8abf5_1 ?_
  exact vw_iret hX hE dJ5_length_8abf5_4 ⟨_, rfl, h⟩
def F_J4_length_8abf5 (a0 : Nat) (w : Mm) (z : Nat) (Q : Int32 → Mm → Nat → Prop) : Prop :=
  isO w a0 1 ∧ F_J5_length_8abf5 a0 w z (fun r2 w3 z4 => Q r2 w3 z4)
set_option maxRecDepth 100000 in
set_option maxHeartbeats 4000000 in
theorem ct_J4_length_8abf5 {l : Launch} {g : Gp} {d : Nat} (hst : l.stackTraces = false) {a0 : Nat} {w : Mm} {z mc ms : Nat} {Q : Int32 → Mm → Nat → Prop} {X : String → Mm → Nat → Prop} (h : F_J4_length_8abf5 a0 w z Q) : Ct l g yJ4_length_8abf5 (.code yJ4_length_8abf5 cJ4_length_8abf5 1 (some .int)) (d + 1) mc ms [.ref (a0)] w z (rI Q) X := by
  refine Ct.of hst (by decide) (Nat.le_of_ble_eq_true rfl) (fun C hX hE hg hl hNm => ?_)
  subst hg
  subst hl
  unfold F_J4_length_8abf5 at h
  show VW C 0 [(0, .ref (a0))] [] w z mc ms
  refine vw_aload_n hX 0 dJ4_length_8abf5_0 rfl ?_
  obtain ⟨hr1, h⟩ := h
  refine s_J4_343 hX hr1 dJ4_length_8abf5_1 (Nat.le_of_ble_eq_true rfl) (ct_J5_length_8abf5 (d := d + 0) (lst hX) h) (fun r2 w3 z4 h => ?_)
  exact vw_iret hX hE dJ4_length_8abf5_4 ⟨_, rfl, h⟩
def F_J7_checkLength_df160 (a0 : Int32) (a1 : Int32) (w : Mm) (z : Nat) (Q : Mm → Nat → Prop) : Prop :=
  (a0 ≤ a1 → Q w z) ∧
  (¬ a0 ≤ a1 → False)
set_option maxRecDepth 100000 in
set_option maxHeartbeats 4000000 in
theorem ct_J7_checkLength_df160 {l : Launch} {g : Gp} {d : Nat} (hst : l.stackTraces = false) {a0 : Int32} {a1 : Int32} {w : Mm} {z mc ms : Nat} {Q : Mm → Nat → Prop} {X : String → Mm → Nat → Prop} (h : F_J7_checkLength_df160 a0 a1 w z Q) : Ct l g yJ7_checkLength_df160 (.code yJ7_checkLength_df160 cJ7_checkLength_df160 2 none) (d + 0) mc ms [.int (a0), .int (a1)] w z (rV Q) X := by
  refine Ct.of hst (by decide) (Nat.le_of_ble_eq_true rfl) (fun C hX hE hg hl hNm => ?_)
  subst hg
  subst hl
  unfold F_J7_checkLength_df160 at h
  show VW C 0 [(0, .int (a0)), (1, .int (a1))] [] w z mc ms
  refine vw_iload_n hX 1 dJ7_checkLength_df160_0 rfl ?_
  refine vw_iload_n hX 0 dJ7_checkLength_df160_1 rfl ?_
  refine vw_icmp_ge hX (tgt := 37) dJ7_checkLength_df160_2 (by decide) (fun c1 => ?_) (fun c1 => ?_)
  · have h := h.1 c1
    exact vw_vret hX hE dJ7_checkLength_df160_37 ⟨rfl, h⟩
  · exact (h.2 c1).elim
def F_J7_copyOfRangeByte_39247 (a0 : Nat) (a1 : Int32) (a2 : Int32) (w : Mm) (z : Nat) (mc ms : Nat) (Q : Nat → Mm → Nat → Prop) : Prop :=
  F_J7_checkLength_df160 a1 a2 w z (fun w2 z3 => ∀ i4 : Int32, i4 = (a2 - a1) → ¬ (i4 : Int32) < 0 ∧ ∃ n6, (i4 : Int32).toNatClampNeg = n6 ∧ n6 ≤ 10000000 ∧ 1 ≤ mc ∧ n6 ≤ ms ∧ ∀ w5, w5 = mset w2 z3 (.inr (1, n6, .inl (fun _ => 0))) → ∃ n8 f7, arI w5 a0 1 = some (n8, f7) ∧ ∃ n10 f9 n12 f11, arI w5 a0 1 = some (n10, f9) ∧ arW w5 z3 1 = some (n12, f11) ∧ ¬ (a1 : Int32) < 0 ∧ ¬ (0 : Int32) < 0 ∧ ¬ ((jmin ((((nI n8)) - a1)) i4) : Int32) < 0 ∧ (a1 : Int32).toNatClampNeg + ((jmin ((((nI n8)) - a1)) i4) : Int32).toNatClampNeg ≤ n10 ∧ (0 : Int32).toNatClampNeg + ((jmin ((((nI n8)) - a1)) i4) : Int32).toNatClampNeg ≤ n12 ∧ sb_Fit f9 ∧ ∀ w13, w13 = mset w5 z3 (.inr (1, n12, .inl (va_cpy f9 f11 (a1 : Int32).toNatClampNeg (0 : Int32).toNatClampNeg ((jmin ((((nI n8)) - a1)) i4) : Int32).toNatClampNeg))) → Q z3 w13 ((z3 + 1)))
set_option maxRecDepth 100000 in
set_option maxHeartbeats 4000000 in
theorem ct_J7_copyOfRangeByte_39247 {l : Launch} {g : Gp} {d : Nat} (hst : l.stackTraces = false) {a0 : Nat} {a1 : Int32} {a2 : Int32} {w : Mm} {z mc ms : Nat} {Q : Nat → Mm → Nat → Prop} {X : String → Mm → Nat → Prop} (h : F_J7_copyOfRangeByte_39247 a0 a1 a2 w z mc ms Q) : Ct l g yJ7_copyOfRangeByte_39247 (.code yJ7_copyOfRangeByte_39247 cJ7_copyOfRangeByte_39247 5 (some (.array .byte))) (d + 2) mc ms [.ref (a0), .int (a1), .int (a2)] w z (rR Q) X := by
  refine Ct.of hst (by decide) (Nat.le_of_ble_eq_true rfl) (fun C hX hE hg hl hNm => ?_)
  subst hg
  subst hl
  unfold F_J7_copyOfRangeByte_39247 at h
  show VW C 0 [(0, .ref (a0)), (1, .int (a1)), (2, .int (a2))] [] w z mc ms
  refine vw_iload_n hX 1 dJ7_copyOfRangeByte_39247_0 rfl ?_
  refine vw_iload_n hX 2 dJ7_copyOfRangeByte_39247_1 rfl ?_
  refine s_J7_343 hX dJ7_copyOfRangeByte_39247_2 (Nat.le_of_ble_eq_true rfl) (ct_J7_checkLength_df160 (d := d + 1) (lst hX) h) (fun w2 z3 h => ?_)
  refine vw_iload_n hX 2 dJ7_copyOfRangeByte_39247_5 rfl ?_
  refine vw_iload_n hX 1 dJ7_copyOfRangeByte_39247_6 rfl ?_
  refine vw_isub hX dJ7_copyOfRangeByte_39247_7 ?_
  refine vw_nmI (fun i4 ei4 => ?_)
  have h := h i4 ei4
  refine vw_istore_n hX dJ7_copyOfRangeByte_39247_8 (by decide) rfl ?_
  refine vw_iload_n hX 0 dJ7_copyOfRangeByte_39247_9 rfl ?_
  obtain ⟨hn0, n6, hN, hb, hm1, hm2, h⟩ := h
  refine vw_newB hX kw_90 hn0 hN hb hm1 hm2 dJ7_copyOfRangeByte_39247_10 ?_
  refine vw_nmW (fun w5 ew5 => ?_)
  have h := h w5 ew5
  refine vw_astore hX dJ7_copyOfRangeByte_39247_12 (by decide) rfl ?_
  refine vw_aload_n hX 2 dJ7_copyOfRangeByte_39247_14 rfl ?_
  refine vw_iload_n hX 3 dJ7_copyOfRangeByte_39247_15 rfl ?_
  refine vw_aload hX 0 dJ7_copyOfRangeByte_39247_16 rfl ?_
  refine vw_iconst hX (v := 0) dJ7_copyOfRangeByte_39247_18 (by decide) ?_
  refine vw_aload_n hX 2 dJ7_copyOfRangeByte_39247_19 rfl ?_
  obtain ⟨n8, f7, hf7, h⟩ := h
  refine vw_alen hX 1 (by decide) hf7 dJ7_copyOfRangeByte_39247_20 ?_
  refine vw_iload_n hX 3 dJ7_copyOfRangeByte_39247_21 rfl ?_
  refine vw_isub hX dJ7_copyOfRangeByte_39247_22 ?_
  refine vw_iload_n hX 1 dJ7_copyOfRangeByte_39247_23 rfl ?_
  refine vw_mmin hX kw_498 (Nat.le_of_ble_eq_true rfl) dJ7_copyOfRangeByte_39247_24 ?_
  obtain ⟨n10, f9, n12, f11, hc1, hc2, hc3, hc4, hc5, hc6, hc7, hft, h⟩ := h
  refine vw_copy hX 1 (by decide) kw_499 rfl hc1 hc2 hc3 hc4 hc5 hc6 hc7 (fun i _ => hft _) (Nat.le_of_ble_eq_true rfl) dJ7_copyOfRangeByte_39247_27 ?_
  refine vw_nmW (fun w13 ew13 => ?_)
  have h := h w13 ew13
  refine vw_aload hX 0 dJ7_copyOfRangeByte_39247_30 rfl ?_
  exact vw_aret hX hE (Or.inr ⟨_, rfl⟩) dJ7_copyOfRangeByte_39247_32 ⟨_, rfl, h⟩
def B_J7_copyOfRange_39247_10 (a0 : Nat) (a1 : Int32) (a2 : Int32) (Q : Nat → Mm → Nat → Prop) (w : Mm) (z : Nat) (mc : Nat) (ms : Nat) : Prop :=
  ∃ k4 k5, k4 ≤ mc ∧ k5 ≤ ms ∧ F_J7_copyOfRangeByte_39247 a0 a1 a2 w z k4 k5 (fun r1 w2 z3 => Q r1 w2 z3)
set_option maxRecDepth 100000 in
set_option maxHeartbeats 4000000 in
theorem pB_J7_copyOfRange_39247_10 {C : Cx} {d : Nat} {a0 : Nat} {a1 : Int32} {a2 : Int32} {Q : Nat → Mm → Nat → Prop} {X : String → Mm → Nat → Prop} (hX : CX C cJ7_copyOfRange_39247 RJ7 3 (some (.array .byte)) [] (d + 3)) (hE : EQ C (rR Q) X) : ∀  (w : Mm) (z mc ms : Nat), B_J7_copyOfRange_39247_10 a0 a1 a2 Q  w z mc ms → VW C 10 [(0, .ref (a0)), (1, .int (a1)), (2, .int (a2))] [] w z mc ms := by
  intro  w z mc ms h
  unfold B_J7_copyOfRange_39247_10 at h
  refine vw_aload_n hX 0 dJ7_copyOfRange_39247_10 rfl ?_
  refine vw_iload_n hX 1 dJ7_copyOfRange_39247_11 rfl ?_
  refine vw_iload_n hX 2 dJ7_copyOfRange_39247_12 rfl ?_
  obtain ⟨k4, k5, hm1, hm2, h⟩ := h
  refine s_J7_339 hX dJ7_copyOfRange_39247_13 (Nat.le_of_ble_eq_true rfl) hm1 hm2 (ct_J7_copyOfRangeByte_39247 (d := d + 0) (lst hX) h) (fun r1 w2 z3 h => ?_)
  exact vw_aret hX hE (Or.inr ⟨_, rfl⟩) dJ7_copyOfRange_39247_16 ⟨_, rfl, h⟩
def F_J7_copyOfRange_39247 (a0 : Nat) (a1 : Int32) (a2 : Int32) (w : Mm) (z : Nat) (mc ms : Nat) (Q : Nat → Mm → Nat → Prop) : Prop :=
  (¬ a1 = 0 → B_J7_copyOfRange_39247_10 a0 a1 a2 Q w z mc ms) ∧
  (a1 = 0 → ∃ n3 f2, arI w a0 1 = some (n3, f2) ∧ (a2 = ((nI n3)) → ∃ n6 f5, arW w a0 1 = some (n6, f5) ∧ sb_Fit f5 ∧ 1 ≤ mc ∧ n6 ≤ ms ∧ ∀ w7, w7 = mset w z (.inr (1, n6, .inl f5)) → ∃ n9 f8, arW w7 z 1 = some (n9, f8) ∧ Q z w7 ((z + 1))) ∧
  (¬ a2 = ((nI n3)) → B_J7_copyOfRange_39247_10 a0 a1 a2 Q w z mc ms))
set_option maxRecDepth 100000 in
set_option maxHeartbeats 4000000 in
theorem ct_J7_copyOfRange_39247 {l : Launch} {g : Gp} {d : Nat} (hst : l.stackTraces = false) {a0 : Nat} {a1 : Int32} {a2 : Int32} {w : Mm} {z mc ms : Nat} {Q : Nat → Mm → Nat → Prop} {X : String → Mm → Nat → Prop} (h : F_J7_copyOfRange_39247 a0 a1 a2 w z mc ms Q) : Ct l g yJ7_copyOfRange_39247 (.code yJ7_copyOfRange_39247 cJ7_copyOfRange_39247 3 (some (.array .byte))) (d + 3) mc ms [.ref (a0), .int (a1), .int (a2)] w z (rR Q) X := by
  refine Ct.of hst (by decide) (Nat.le_of_ble_eq_true rfl) (fun C hX hE hg hl hNm => ?_)
  subst hg
  subst hl
  unfold F_J7_copyOfRange_39247 at h
  show VW C 0 [(0, .ref (a0)), (1, .int (a1)), (2, .int (a2))] [] w z mc ms
  refine vw_iload_n hX 1 dJ7_copyOfRange_39247_0 rfl ?_
  refine vw_if_ne hX (tgt := 10) dJ7_copyOfRange_39247_1 (by decide) (fun c1 => ?_) (fun c1 => ?_)
  · have h := h.1 c1
    exact pB_J7_copyOfRange_39247_10 hX hE _ _ _ _ h
  · have h := h.2 c1
    refine vw_iload_n hX 2 dJ7_copyOfRange_39247_4 rfl ?_
    refine vw_aload_n hX 0 dJ7_copyOfRange_39247_5 rfl ?_
    obtain ⟨n3, f2, hf2, h⟩ := h
    refine vw_alen hX 1 (by decide) hf2 dJ7_copyOfRange_39247_6 ?_
    refine vw_icmp_eq hX (tgt := 17) dJ7_copyOfRange_39247_7 (by decide) (fun c4 => ?_) (fun c4 => ?_)
    · have h := h.1 c4
      refine vw_aload_n hX 0 dJ7_copyOfRange_39247_17 rfl ?_
      obtain ⟨n6, f5, hf5, hft, hm1, hm2, h⟩ := h
      refine vw_clone hX kw_491 kw_492 kw_493 kw_494 kw_495 hf5 hft (Nat.le_of_ble_eq_true rfl) hm1 hm2 dJ7_copyOfRange_39247_18 ?_
      refine vw_nmW (fun w7 ew7 => ?_)
      have h := h w7 ew7
      obtain ⟨n9, f8, hf8, h⟩ := h
      refine vw_castB hX kw_497 hf8 dJ7_copyOfRange_39247_21 ?_
      exact vw_aret hX hE (Or.inr ⟨_, rfl⟩) dJ7_copyOfRange_39247_24 ⟨_, rfl, h⟩
    · have h := h.2 c4
      exact pB_J7_copyOfRange_39247_10 hX hE _ _ _ _ h
def F_J0_init_db425 (a0 : Nat) (a1 : Nat) (w : Mm) (z : Nat) (mc ms : Nat) (Q : Mm → Nat → Prop) : Prop :=
  isO w a1 1 ∧ F_J5_getValue_6d5f1 a1 w z (fun r2 w3 z4 => isO w3 a1 1 ∧ F_J4_length_8abf5 a1 w3 z4 (fun r6 w7 z8 => isO w7 a1 1 ∧ F_J5_isLatin1_aae02 a1 w7 z8 (fun r10 w11 z12 => (r10 = 0 → False) ∧
  (¬ r10 = 0 → ∃ f14, obj w11 a0 0 = some f14 ∧ 1 < f14.length ∧ ∀ w15, w15 = mset w11 a0 (.inl (0, f14.set 1 (.int (0)))) → ∃ k19 k20, k19 ≤ mc ∧ k20 ≤ ms ∧ F_J7_copyOfRange_39247 r2 0 r6 w15 z12 k19 k20 (fun r16 w17 z18 => ∃ f21, obj w17 a0 0 = some f21 ∧ 0 < f21.length ∧ ∀ w22, w22 = mset w17 a0 (.inl (0, f21.set 0 (.ref (r16)))) → Q w22 z18)))))
set_option maxRecDepth 100000 in
set_option maxHeartbeats 4000000 in
theorem ct_J0_init_db425_n {l : Launch} {g : Gp} {d : Nat} (hst : l.stackTraces = false) {a0 : Nat} {a1 : Nat} {w : Mm} {z mc ms : Nat} {Q : Mm → Nat → Prop} {X : String → Mm → Nat → Prop} (h : F_J0_init_db425 a0 a1 w z mc ms Q) : Ct l g yJ0_init_db425 (.code yJ0_init_db425 cJ0_init_db425 5 none) (d + 4) mc ms [.ref (a0), .ref (a1), .null] w z (rV Q) X := by
  refine Ct.of hst (by decide) (Nat.le_of_ble_eq_true rfl) (fun C hX hE hg hl hNm => ?_)
  subst hg
  subst hl
  unfold F_J0_init_db425 at h
  show VW C 0 [(0, .ref (a0)), (1, .ref (a1)), (2, .null)] [] w z mc ms
  refine vw_aload_n hX 0 dJ0_init_db425_0 rfl ?_
  refine vw_objInit hX kw_547 kw_38 kw_39 (Nat.le_of_ble_eq_true rfl) dJ0_init_db425_1 ?_
  refine vw_aload_n hX 1 dJ0_init_db425_4 rfl ?_
  obtain ⟨hr1, h⟩ := h
  refine s_J0_552 hX hr1 dJ0_init_db425_5 (Nat.le_of_ble_eq_true rfl) (ct_J5_getValue_6d5f1 (d := d + 3) (lst hX) h) (fun r2 w3 z4 h => ?_)
  refine vw_astore_n hX dJ0_init_db425_8 (by decide) rfl ?_
  refine vw_aload_n hX 2 dJ0_init_db425_9 rfl ?_
  obtain ⟨hr5, h⟩ := h
  refine s_J0_549 hX hr5 dJ0_init_db425_10 (Nat.le_of_ble_eq_true rfl) (ct_J4_length_8abf5 (d := d + 2) (lst hX) h) (fun r6 w7 z8 h => ?_)
  refine vw_istore hX dJ0_init_db425_13 (by decide) rfl ?_
  refine vw_aload_n hX 3 dJ0_init_db425_15 rfl ?_
  obtain ⟨hr9, h⟩ := h
  refine s_J0_1047 hX hr9 dJ0_init_db425_16 (Nat.le_of_ble_eq_true rfl) (ct_J5_isLatin1_aae02 (d := d + 3) (lst hX) h) (fun r10 w11 z12 h => ?_)
  refine vw_if_eq hX (tgt := 41) dJ0_init_db425_19 (by decide) (fun c13 => ?_) (fun c13 => ?_)
  · exact (h.1 c13).elim
  · have h := h.2 c13
    refine vw_aload_n hX 2 dJ0_init_db425_22 rfl ?_
    refine vw_iconst hX (v := 0) dJ0_init_db425_23 (by decide) ?_
    obtain ⟨f14, hf14, hlf14, h⟩ := h
    refine p_J0_15 hX hNm hf14 hlf14 rfl rfl dJ0_init_db425_24 ?_
    refine vw_nmW (fun w15 ew15 => ?_)
    have h := h w15 ew15
    refine vw_aload_n hX 2 dJ0_init_db425_27 rfl ?_
    refine vw_aload_n hX 1 dJ0_init_db425_28 rfl ?_
    refine vw_iconst hX (v := 0) dJ0_init_db425_29 (by decide) ?_
    refine vw_iload hX 0 dJ0_init_db425_30 rfl ?_
    obtain ⟨k19, k20, hm1, hm2, h⟩ := h
    refine s_J0_54 hX dJ0_init_db425_32 (Nat.le_of_ble_eq_true rfl) hm1 hm2 (ct_J7_copyOfRange_39247 (d := d + 0) (lst hX) h) (fun r16 w17 z18 h => ?_)
    obtain ⟨f21, hf21, hlf21, h⟩ := h
    refine p_J0_9 hX hNm hf21 hlf21 dJ0_init_db425_35 ?_
    refine vw_nmW (fun w22 ew22 => ?_)
    have h := h w22 ew22
    refine vw_goto hX (tgt := 97) dJ0_init_db425_38 (by decide) ?_
    exact vw_vret hX hE dJ0_init_db425_97 ⟨rfl, h⟩
def F_J0_init_81219 (a0 : Nat) (a1 : Nat) (w : Mm) (z : Nat) (mc ms : Nat) (Q : Mm → Nat → Prop) : Prop :=
  ∃ k4 k5, k4 ≤ mc ∧ k5 ≤ ms ∧ F_J0_init_db425 a0 a1 w z k4 k5 (fun w2 z3 => Q w2 z3)
set_option maxRecDepth 100000 in
set_option maxHeartbeats 4000000 in
theorem ct_J0_init_81219 {l : Launch} {g : Gp} {d : Nat} (hst : l.stackTraces = false) {a0 : Nat} {a1 : Nat} {w : Mm} {z mc ms : Nat} {Q : Mm → Nat → Prop} {X : String → Mm → Nat → Prop} (h : F_J0_init_81219 a0 a1 w z mc ms Q) : Ct l g yJ0_init_81219 (.code yJ0_init_81219 cJ0_init_81219 2 none) (d + 5) mc ms [.ref (a0), .ref (a1)] w z (rV Q) X := by
  refine Ct.of hst (by decide) (Nat.le_of_ble_eq_true rfl) (fun C hX hE hg hl hNm => ?_)
  subst hg
  subst hl
  unfold F_J0_init_81219 at h
  show VW C 0 [(0, .ref (a0)), (1, .ref (a1))] [] w z mc ms
  refine vw_aload_n hX 0 dJ0_init_81219_0 rfl ?_
  refine vw_aload_n hX 1 dJ0_init_81219_1 rfl ?_
  refine vw_null hX dJ0_init_81219_2 ?_
  obtain ⟨k4, k5, hm1, hm2, h⟩ := h
  refine s_J0_489_n hX dJ0_init_81219_3 (Nat.le_of_ble_eq_true rfl) hm1 hm2 (ct_J0_init_db425_n (d := d + 0) (lst hX) h) (fun w2 z3 h => ?_)
  exact vw_vret hX hE dJ0_init_81219_6 ⟨rfl, h⟩
def F_J4_toString_0e30d (a0 : Nat) (w : Mm) (z : Nat) (mc ms : Nat) (Q : Nat → Mm → Nat → Prop) : Prop :=
  1 ≤ mc ∧ 4 ≤ ms ∧ ∀ w1, w1 = mset w z (.inl (0, [.null, .int 0, .int 0, .int 0])) → ∃ k5 k6, k5 ≤ (mc - 1) ∧ k6 ≤ (ms - 4) ∧ F_J0_init_81219 z a0 w1 ((z + 1)) k5 k6 (fun w3 z4 => Q z w3 z4)
set_option maxRecDepth 100000 in
set_option maxHeartbeats 4000000 in
theorem ct_J4_toString_0e30d {l : Launch} {g : Gp} {d : Nat} (hst : l.stackTraces = false) {a0 : Nat} {w : Mm} {z mc ms : Nat} {Q : Nat → Mm → Nat → Prop} {X : String → Mm → Nat → Prop} (h : F_J4_toString_0e30d a0 w z mc ms Q) : Ct l g yJ4_toString_0e30d (.code yJ4_toString_0e30d cJ4_toString_0e30d 1 (some (.object "java/lang/String"))) (d + 6) mc ms [.ref (a0)] w z (rR Q) X := by
  refine Ct.of hst (by decide) (Nat.le_of_ble_eq_true rfl) (fun C hX hE hg hl hNm => ?_)
  subst hg
  subst hl
  unfold F_J4_toString_0e30d at h
  show VW C 0 [(0, .ref (a0))] [] w z mc ms
  obtain ⟨hm1, hm2, h⟩ := h
  refine n_J4_18 hX hm1 hm2 dJ4_toString_0e30d_0 ?_
  refine vw_nmW (fun w1 ew1 => ?_)
  have h := h w1 ew1
  refine vw_dup hX dJ4_toString_0e30d_3 rfl ?_
  refine vw_aload_n hX 0 dJ4_toString_0e30d_4 rfl ?_
  obtain ⟨k5, k6, hm1, hm2, h⟩ := h
  refine s_J4_137 hX dJ4_toString_0e30d_5 (Nat.le_of_ble_eq_true rfl) hm1 hm2 (ct_J0_init_81219 (d := d + 0) (lst hX) h) (fun w3 z4 h => ?_)
  exact vw_aret hX hE (Or.inl ⟨_, rfl⟩) dJ4_toString_0e30d_8 ⟨_, rfl, h⟩
def F_J6_bitCount_0f7a4 (a0 : Int32) (w : Mm) (z : Nat) (Q : Int32 → Mm → Nat → Prop) : Prop :=
  ∀ i1 : Int32, i1 = (a0 - (((((a0).toUInt32 >>> ((1 : Int32).toUInt32 &&& Int32.toUInt32 31)).toInt32) &&& 1431655765))) → ∀ i2 : Int32, i2 = (((i1 &&& 858993459)) + (((((i1).toUInt32 >>> ((2 : Int32).toUInt32 &&& Int32.toUInt32 31)).toInt32) &&& 858993459))) → ∀ i3 : Int32, i3 = (((i2 + (((i2).toUInt32 >>> ((4 : Int32).toUInt32 &&& Int32.toUInt32 31)).toInt32))) &&& 252645135) → ∀ i4 : Int32, i4 = (i3 + (((i3).toUInt32 >>> ((8 : Int32).toUInt32 &&& Int32.toUInt32 31)).toInt32)) → ∀ i5 : Int32, i5 = (i4 + (((i4).toUInt32 >>> ((16 : Int32).toUInt32 &&& Int32.toUInt32 31)).toInt32)) → Q ((i5 &&& 63)) w z
set_option maxRecDepth 100000 in
set_option maxHeartbeats 4000000 in
theorem ct_J6_bitCount_0f7a4 {l : Launch} {g : Gp} {d : Nat} (hst : l.stackTraces = false) {a0 : Int32} {w : Mm} {z mc ms : Nat} {Q : Int32 → Mm → Nat → Prop} {X : String → Mm → Nat → Prop} (h : F_J6_bitCount_0f7a4 a0 w z Q) : Ct l g yJ6_bitCount_0f7a4 (.code yJ6_bitCount_0f7a4 cJ6_bitCount_0f7a4 1 (some .int)) (d + 0) mc ms [.int (a0)] w z (rI Q) X := by
  refine Ct.of hst (by decide) (Nat.le_of_ble_eq_true rfl) (fun C hX hE hg hl hNm => ?_)
  subst hg
  subst hl
  unfold F_J6_bitCount_0f7a4 at h
  show VW C 0 [(0, .int (a0))] [] w z mc ms
  refine vw_iload_n hX 0 dJ6_bitCount_0f7a4_0 rfl ?_
  refine vw_iload_n hX 0 dJ6_bitCount_0f7a4_1 rfl ?_
  refine vw_iconst hX (v := 1) dJ6_bitCount_0f7a4_2 (by decide) ?_
  refine vw_iushr hX dJ6_bitCount_0f7a4_3 ?_
  refine vw_ldcwI hX kw_758 dJ6_bitCount_0f7a4_4 ?_
  refine vw_iand hX dJ6_bitCount_0f7a4_7 ?_
  refine vw_isub hX dJ6_bitCount_0f7a4_8 ?_
  refine vw_nmI (fun i1 ei1 => ?_)
  have h := h i1 ei1
  refine vw_istore_n hX dJ6_bitCount_0f7a4_9 (by decide) rfl ?_
  refine vw_iload_n hX 0 dJ6_bitCount_0f7a4_10 rfl ?_
  refine vw_ldcwI hX kw_759 dJ6_bitCount_0f7a4_11 ?_
  refine vw_iand hX dJ6_bitCount_0f7a4_14 ?_
  refine vw_iload_n hX 0 dJ6_bitCount_0f7a4_15 rfl ?_
  refine vw_iconst hX (v := 2) dJ6_bitCount_0f7a4_16 (by decide) ?_
  refine vw_iushr hX dJ6_bitCount_0f7a4_17 ?_
  refine vw_ldcwI hX kw_759 dJ6_bitCount_0f7a4_18 ?_
  refine vw_iand hX dJ6_bitCount_0f7a4_21 ?_
  refine vw_iadd hX dJ6_bitCount_0f7a4_22 ?_
  refine vw_nmI (fun i2 ei2 => ?_)
  have h := h i2 ei2
  refine vw_istore_n hX dJ6_bitCount_0f7a4_23 (by decide) rfl ?_
  refine vw_iload_n hX 0 dJ6_bitCount_0f7a4_24 rfl ?_
  refine vw_iload_n hX 0 dJ6_bitCount_0f7a4_25 rfl ?_
  refine vw_iconst hX (v := 4) dJ6_bitCount_0f7a4_26 (by decide) ?_
  refine vw_iushr hX dJ6_bitCount_0f7a4_27 ?_
  refine vw_iadd hX dJ6_bitCount_0f7a4_28 ?_
  refine vw_ldcwI hX kw_760 dJ6_bitCount_0f7a4_29 ?_
  refine vw_iand hX dJ6_bitCount_0f7a4_32 ?_
  refine vw_nmI (fun i3 ei3 => ?_)
  have h := h i3 ei3
  refine vw_istore_n hX dJ6_bitCount_0f7a4_33 (by decide) rfl ?_
  refine vw_iload_n hX 0 dJ6_bitCount_0f7a4_34 rfl ?_
  refine vw_iload_n hX 0 dJ6_bitCount_0f7a4_35 rfl ?_
  refine vw_bipush hX (v := 8) dJ6_bitCount_0f7a4_36 (by decide) ?_
  refine vw_iushr hX dJ6_bitCount_0f7a4_38 ?_
  refine vw_iadd hX dJ6_bitCount_0f7a4_39 ?_
  refine vw_nmI (fun i4 ei4 => ?_)
  have h := h i4 ei4
  refine vw_istore_n hX dJ6_bitCount_0f7a4_40 (by decide) rfl ?_
  refine vw_iload_n hX 0 dJ6_bitCount_0f7a4_41 rfl ?_
  refine vw_iload_n hX 0 dJ6_bitCount_0f7a4_42 rfl ?_
  refine vw_bipush hX (v := 16) dJ6_bitCount_0f7a4_43 (by decide) ?_
  refine vw_iushr hX dJ6_bitCount_0f7a4_45 ?_
  refine vw_iadd hX dJ6_bitCount_0f7a4_46 ?_
  refine vw_nmI (fun i5 ei5 => ?_)
  have h := h i5 ei5
  refine vw_istore_n hX dJ6_bitCount_0f7a4_47 (by decide) rfl ?_
  refine vw_iload_n hX 0 dJ6_bitCount_0f7a4_48 rfl ?_
  refine vw_bipush hX (v := 63) dJ6_bitCount_0f7a4_49 (by decide) ?_
  refine vw_iand hX dJ6_bitCount_0f7a4_51 ?_
  exact vw_iret hX hE dJ6_bitCount_0f7a4_52 ⟨_, rfl, h⟩
