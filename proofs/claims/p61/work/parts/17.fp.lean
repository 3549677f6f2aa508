def F_X1_init (a0 : Nat) (a1 : Nat) (w : Mm) (z : Nat) (mc ms : Nat) (Q : Mm → Nat → Prop) : Prop :=
  ¬ (700 : Int32) < 0 ∧ ∃ n2, (700 : Int32).toNatClampNeg = n2 ∧ n2 ≤ 10000000 ∧ 1 ≤ mc ∧ n2 ≤ ms ∧ ∀ w1, w1 = mset w z (.inr (1, n2, .inl (fun _ => 0))) → ∃ f3, obj w1 a0 5 = some f3 ∧ 1 < f3.length ∧ ∀ w4, w4 = mset w1 a0 (.inl (5, f3.set 1 (.ref (z)))) → ∃ f5, obj w4 a0 5 = some f5 ∧ 4 < f5.length ∧ ∀ w6, w6 = mset w4 a0 (.inl (5, f5.set 4 (.int ((-1))))) → ∃ f7, obj w6 a0 5 = some f7 ∧ 0 < f7.length ∧ ∀ w8, w8 = mset w6 a0 (.inl (5, f7.set 0 (.ref (a1)))) → Q w8 ((z + 1))
set_option maxRecDepth 100000 in
set_option maxHeartbeats 4000000 in
theorem ct_X1_init {l : Launch} {g : Gp} {d : Nat} (hst : l.stackTraces = false) {a0 : Nat} {a1 : Nat} {w : Mm} {z mc ms : Nat} {Q : Mm → Nat → Prop} {X : String → Mm → Nat → Prop} (h : F_X1_init a0 a1 w z mc ms Q) : Ct l g yX1_init (.code yX1_init cX1_init 2 none) (d + 1) mc ms [.ref (a0), .ref (a1)] w z (rV Q) X := by
  refine Ct.of hst (by decide) (Nat.le_of_ble_eq_true rfl) (fun C hX hE hg hl hNm => ?_)
  subst hg
  subst hl
  unfold F_X1_init at h
  show VW C 0 [(0, .ref (a0)), (1, .ref (a1))] [] w z mc ms
  refine vw_aload_n hX 0 dX1_init_0 rfl ?_
  refine vw_objInit hX kw_224 kw_38 kw_39 (Nat.le_of_ble_eq_true rfl) dX1_init_1 ?_
  refine vw_aload_n hX 0 dX1_init_4 rfl ?_
  refine vw_sipush hX (v := 700) dX1_init_5 (by decide) ?_
  obtain ⟨hn0, n2, hN, hb, hm1, hm2, h⟩ := h
  refine vw_newB hX kw_90 hn0 hN hb hm1 hm2 dX1_init_8 ?_
  refine vw_nmW (fun w1 ew1 => ?_)
  have h := h w1 ew1
  obtain ⟨f3, hf3, hlf3, h⟩ := h
  refine p_X1_9 hX hNm hf3 hlf3 dX1_init_10 ?_
  refine vw_nmW (fun w4 ew4 => ?_)
  have h := h w4 ew4
  refine vw_aload_n hX 0 dX1_init_13 rfl ?_
  refine vw_iconst hX (v := (-1)) dX1_init_14 (by decide) ?_
  obtain ⟨f5, hf5, hlf5, h⟩ := h
  refine p_X1_15 hX hf5 hlf5 dX1_init_15 ?_
  refine vw_nmW (fun w6 ew6 => ?_)
  have h := h w6 ew6
  refine vw_aload_n hX 0 dX1_init_18 rfl ?_
  refine vw_aload_n hX 1 dX1_init_19 rfl ?_
  obtain ⟨f7, hf7, hlf7, h⟩ := h
  refine p_X1_19 hX hNm hf7 hlf7 dX1_init_20 ?_
  refine vw_nmW (fun w8 ew8 => ?_)
  have h := h w8 ew8
  exact vw_vret hX hE dX1_init_23 ⟨rfl, h⟩
def B_X1_addBytes_3 (a0 : Nat) (a1 : Int32) (Q : Mm → Nat → Prop) : Nat → Int32 → Mm → Nat → Prop
  | 0, _, _, _ => False
  | n + 1, x2, w, z => (x2 < 0 → Q w z) ∧
  (¬ x2 < 0 → ∃ v2, fld w a0 5 2 = some (.int (v2)) ∧ (700 ≤ v2 → Q w z) ∧
  (¬ 700 ≤ v2 → ∃ q4, fld w a0 5 1 = some (.ref (q4)) ∧ ∃ v5, fld w a0 5 2 = some (.int (v5)) ∧ ∃ n7 f6, arW w q4 1 = some (n7, f6) ∧ vp_in v5 n7 ∧ ∀ w8, w8 = mset w q4 (.inr (1, n7, .inl (upd f6 (v5 : Int32).toNatClampNeg (vp_nar .byte (((a1 >>> (x2 &&& 31)) : Int32).toInt8.toInt32))))) → ∃ v9, fld w8 a0 5 2 = some (.int (v9)) ∧ ∃ f10, obj w8 a0 5 = some f10 ∧ 2 < f10.length ∧ ∀ w11, w11 = mset w8 a0 (.inl (5, f10.set 2 (.int ((v9 + 1))))) → B_X1_addBytes_3 a0 a1 Q n ((x2 + (-8))) w11 z))
set_option maxRecDepth 100000 in
set_option maxHeartbeats 4000000 in
theorem pB_X1_addBytes_3 {C : Cx} {d : Nat} {a0 : Nat} {a1 : Int32} {Q : Mm → Nat → Prop} {X : String → Mm → Nat → Prop} (hX : CX C cX1_addBytes RX1 3 none [] (d + 0)) (hE : EQ C (rV Q) X) : ∀ (n : Nat) (x2 : Int32) (w : Mm) (z mc ms : Nat), B_X1_addBytes_3 a0 a1 Q n x2 w z → VW C 3 [(0, .ref (a0)), (1, .int (a1)), (2, .int (x2))] [] w z mc ms := by
  intro n
  induction n with
  | zero => intro x2 w z mc ms h; exact False.elim h
  | succ n ih =>
    intro x2 w z mc ms h
    unfold B_X1_addBytes_3 at h
    refine vw_iload_n hX 2 dX1_addBytes_3 rfl ?_
    refine vw_if_lt hX (tgt := 46) dX1_addBytes_4 (by decide) (fun c1 => ?_) (fun c1 => ?_)
    · have h := h.1 c1
      exact vw_vret hX hE dX1_addBytes_46 ⟨rfl, h⟩
    · have h := h.2 c1
      refine vw_aload_n hX 0 dX1_addBytes_7 rfl ?_
      obtain ⟨v2, hv2, h⟩ := h
      refine g_X1_23 hX hv2 dX1_addBytes_8 ?_
      refine vw_sipush hX (v := 700) dX1_addBytes_11 (by decide) ?_
      refine vw_icmp_ge hX (tgt := 46) dX1_addBytes_14 (by decide) (fun c3 => ?_) (fun c3 => ?_)
      · have h := h.1 c3
        exact vw_vret hX hE dX1_addBytes_46 ⟨rfl, h⟩
      · have h := h.2 c3
        refine vw_aload_n hX 0 dX1_addBytes_17 rfl ?_
        obtain ⟨q4, hq4, h⟩ := h
        refine g_X1_9 hX hq4 dX1_addBytes_18 ?_
        refine vw_aload_n hX 0 dX1_addBytes_21 rfl ?_
        obtain ⟨v5, hv5, h⟩ := h
        refine g_X1_23 hX hv5 dX1_addBytes_22 ?_
        refine vw_iload_n hX 1 dX1_addBytes_25 rfl ?_
        refine vw_iload_n hX 2 dX1_addBytes_26 rfl ?_
        refine vw_ishr hX dX1_addBytes_27 ?_
        refine vw_i2b hX dX1_addBytes_28 ?_
        obtain ⟨n7, f6, hf6, hif6, h⟩ := h
        refine vw_bast hX hf6 hif6 dX1_addBytes_29 ?_
        refine vw_nmW (fun w8 ew8 => ?_)
        have h := h w8 ew8
        refine vw_aload_n hX 0 dX1_addBytes_30 rfl ?_
        refine vw_dup hX dX1_addBytes_31 rfl ?_
        obtain ⟨v9, hv9, h⟩ := h
        refine g_X1_23 hX hv9 dX1_addBytes_32 ?_
        refine vw_iconst hX (v := 1) dX1_addBytes_35 (by decide) ?_
        refine vw_iadd hX dX1_addBytes_36 ?_
        obtain ⟨f10, hf10, hlf10, h⟩ := h
        refine p_X1_23 hX hf10 hlf10 dX1_addBytes_37 ?_
        refine vw_nmW (fun w11 ew11 => ?_)
        have h := h w11 ew11
        refine vw_iinc hX 2 (v := x2 + (-8)) dX1_addBytes_40 rfl rfl (by decide) rfl ?_
        refine vw_goto hX (tgt := 3) dX1_addBytes_43 (by decide) ?_
        exact vw_sub [1, 2, 0] rfl (ih _ _ _ _ _ h)
def F_X1_addBytes (a0 : Nat) (a1 : Int32) (w : Mm) (z : Nat) (Q : Mm → Nat → Prop) : Prop :=
  ∃ nn, B_X1_addBytes_3 a0 a1 Q nn 24 w z
set_option maxRecDepth 100000 in
set_option maxHeartbeats 4000000 in
theorem ct_X1_addBytes {l : Launch} {g : Gp} {d : Nat} (hst : l.stackTraces = false) {a0 : Nat} {a1 : Int32} {w : Mm} {z mc ms : Nat} {Q : Mm → Nat → Prop} {X : String → Mm → Nat → Prop} (h : F_X1_addBytes a0 a1 w z Q) : Ct l g yX1_addBytes (.code yX1_addBytes cX1_addBytes 3 none) (d + 0) mc ms [.ref (a0), .int (a1)] w z (rV Q) X := by
  refine Ct.of hst (by decide) (Nat.le_of_ble_eq_true rfl) (fun C hX hE hg hl hNm => ?_)
  subst hg
  subst hl
  unfold F_X1_addBytes at h
  show VW C 0 [(0, .ref (a0)), (1, .int (a1))] [] w z mc ms
  refine vw_bipush hX (v := 24) dX1_addBytes_0 (by decide) ?_
  refine vw_istore_n hX dX1_addBytes_2 (by decide) rfl ?_
  obtain ⟨nn, h⟩ := h
  exact vw_sub [1, 2, 0] rfl (pB_X1_addBytes_3 hX hE nn _ _ _ _ _ h)
def F_X1_failed (a0 : Nat) (w : Mm) (z : Nat) (Q : Int32 → Mm → Nat → Prop) : Prop :=
  ∃ v1, fld w a0 5 3 = some (.int (v1)) ∧ (v1 = 0 → Q 0 w z) ∧
  (¬ v1 = 0 → Q 1 w z)
set_option maxRecDepth 100000 in
set_option maxHeartbeats 4000000 in
theorem ct_X1_failed {l : Launch} {g : Gp} {d : Nat} (hst : l.stackTraces = false) {a0 : Nat} {w : Mm} {z mc ms : Nat} {Q : Int32 → Mm → Nat → Prop} {X : String → Mm → Nat → Prop} (h : F_X1_failed a0 w z Q) : Ct l g yX1_failed (.code yX1_failed cX1_failed 1 (some .boolean)) (d + 0) mc ms [.ref (a0)] w z (rI Q) X := by
  refine Ct.of hst (by decide) (Nat.le_of_ble_eq_true rfl) (fun C hX hE hg hl hNm => ?_)
  subst hg
  subst hl
  unfold F_X1_failed at h
  show VW C 0 [(0, .ref (a0))] [] w z mc ms
  refine vw_aload_n hX 0 dX1_failed_0 rfl ?_
  obtain ⟨v1, hv1, h⟩ := h
  refine g_X1_26 hX hv1 dX1_failed_1 ?_
  refine vw_if_eq hX (tgt := 11) dX1_failed_4 (by decide) (fun c2 => ?_) (fun c2 => ?_)
  · have h := h.1 c2
    refine vw_iconst hX (v := 0) dX1_failed_11 (by decide) ?_
    exact vw_zret hX hE dX1_failed_12 rfl ⟨_, rfl, h⟩
  · have h := h.2 c2
    refine vw_iconst hX (v := 1) dX1_failed_7 (by decide) ?_
    refine vw_goto hX (tgt := 12) dX1_failed_8 (by decide) ?_
    exact vw_zret hX hE dX1_failed_12 rfl ⟨_, rfl, h⟩
def F_X1_isLetter (a0 : Int32) (w : Mm) (z : Nat) (Q : Int32 → Mm → Nat → Prop) : Prop :=
  (a0 < 97 → Q 0 w z) ∧
  (¬ a0 < 97 → (122 < a0 → Q 0 w z) ∧
  (¬ 122 < a0 → Q 1 w z))
set_option maxRecDepth 100000 in
set_option maxHeartbeats 4000000 in
theorem ct_X1_isLetter {l : Launch} {g : Gp} {d : Nat} (hst : l.stackTraces = false) {a0 : Int32} {w : Mm} {z mc ms : Nat} {Q : Int32 → Mm → Nat → Prop} {X : String → Mm → Nat → Prop} (h : F_X1_isLetter a0 w z Q) : Ct l g yX1_isLetter (.code yX1_isLetter cX1_isLetter 1 (some .boolean)) (d + 0) mc ms [.int (a0)] w z (rI Q) X := by
  refine Ct.of hst (by decide) (Nat.le_of_ble_eq_true rfl) (fun C hX hE hg hl hNm => ?_)
  subst hg
  subst hl
  unfold F_X1_isLetter at h
  show VW C 0 [(0, .int (a0))] [] w z mc ms
  refine vw_iload_n hX 0 dX1_isLetter_0 rfl ?_
  refine vw_bipush hX (v := 97) dX1_isLetter_1 (by decide) ?_
  refine vw_icmp_lt hX (tgt := 16) dX1_isLetter_3 (by decide) (fun c1 => ?_) (fun c1 => ?_)
  · have h := h.1 c1
    refine vw_iconst hX (v := 0) dX1_isLetter_16 (by decide) ?_
    exact vw_zret hX hE dX1_isLetter_17 rfl ⟨_, rfl, h⟩
  · have h := h.2 c1
    refine vw_iload_n hX 0 dX1_isLetter_6 rfl ?_
    refine vw_bipush hX (v := 122) dX1_isLetter_7 (by decide) ?_
    refine vw_icmp_gt hX (tgt := 16) dX1_isLetter_9 (by decide) (fun c2 => ?_) (fun c2 => ?_)
    · have h := h.1 c2
      refine vw_iconst hX (v := 0) dX1_isLetter_16 (by decide) ?_
      exact vw_zret hX hE dX1_isLetter_17 rfl ⟨_, rfl, h⟩
    · have h := h.2 c2
      refine vw_iconst hX (v := 1) dX1_isLetter_12 (by decide) ?_
      refine vw_goto hX (tgt := 17) dX1_isLetter_13 (by decide) ?_
      exact vw_zret hX hE dX1_isLetter_17 rfl ⟨_, rfl, h⟩
def F_X1_isDigit (a0 : Int32) (w : Mm) (z : Nat) (Q : Int32 → Mm → Nat → Prop) : Prop :=
  (a0 < 48 → Q 0 w z) ∧
  (¬ a0 < 48 → (57 < a0 → Q 0 w z) ∧
  (¬ 57 < a0 → Q 1 w z))
set_option maxRecDepth 100000 in
set_option maxHeartbeats 4000000 in
theorem ct_X1_isDigit {l : Launch} {g : Gp} {d : Nat} (hst : l.stackTraces = false) {a0 : Int32} {w : Mm} {z mc ms : Nat} {Q : Int32 → Mm → Nat → Prop} {X : String → Mm → Nat → Prop} (h : F_X1_isDigit a0 w z Q) : Ct l g yX1_isDigit (.code yX1_isDigit cX1_isDigit 1 (some .boolean)) (d + 0) mc ms [.int (a0)] w z (rI Q) X := by
  refine Ct.of hst (by decide) (Nat.le_of_ble_eq_true rfl) (fun C hX hE hg hl hNm => ?_)
  subst hg
  subst hl
  unfold F_X1_isDigit at h
  show VW C 0 [(0, .int (a0))] [] w z mc ms
  refine vw_iload_n hX 0 dX1_isDigit_0 rfl ?_
  refine vw_bipush hX (v := 48) dX1_isDigit_1 (by decide) ?_
  refine vw_icmp_lt hX (tgt := 16) dX1_isDigit_3 (by decide) (fun c1 => ?_) (fun c1 => ?_)
  · have h := h.1 c1
    refine vw_iconst hX (v := 0) dX1_isDigit_16 (by decide) ?_
    exact vw_zret hX hE dX1_isDigit_17 rfl ⟨_, rfl, h⟩
  · have h := h.2 c1
    refine vw_iload_n hX 0 dX1_isDigit_6 rfl ?_
    refine vw_bipush hX (v := 57) dX1_isDigit_7 (by decide) ?_
    refine vw_icmp_gt hX (tgt := 16) dX1_isDigit_9 (by decide) (fun c2 => ?_) (fun c2 => ?_)
    · have h := h.1 c2
      refine vw_iconst hX (v := 0) dX1_isDigit_16 (by decide) ?_
      exact vw_zret hX hE dX1_isDigit_17 rfl ⟨_, rfl, h⟩
    · have h := h.2 c2
      refine vw_iconst hX (v := 1) dX1_isDigit_12 (by decide) ?_
      refine vw_goto hX (tgt := 17) dX1_isDigit_13 (by decide) ?_
      exact vw_zret hX hE dX1_isDigit_17 rfl ⟨_, rfl, h⟩
def B_X1_advance_253 (a0 : Nat) (Q : Mm → Nat → Prop) (y0 : Int32) (y1 : Nat) (w : Mm) (z : Nat) : Prop :=
  ∃ f1, obj w y1 5 = some f1 ∧ 5 < f1.length ∧ ∀ w2, w2 = mset w y1 (.inl (5, f1.set 5 (.int (y0)))) → ∃ v3, fld w2 a0 5 6 = some (.int (v3)) ∧ ∃ f4, obj w2 a0 5 = some f4 ∧ 7 < f4.length ∧ ∀ w5, w5 = mset w2 a0 (.inl (5, f4.set 7 (.int ((v3 + 1))))) → Q w5 z
set_option maxRecDepth 100000 in
set_option maxHeartbeats 4000000 in
theorem pB_X1_advance_253 {C : Cx} {d : Nat} {a0 : Nat} {Q : Mm → Nat → Prop} {X : String → Mm → Nat → Prop} (hX : CX C cX1_advance RX1 1 none [] (d + 1)) (hE : EQ C (rV Q) X) : ∀ (y0 : Int32) (y1 : Nat) (w : Mm) (z mc ms : Nat), B_X1_advance_253 a0 Q y0 y1 w z → VW C 253 [(0, .ref (a0))] [.int (y0), .ref (y1)] w z mc ms := by
  intro y0 y1 w z mc ms h
  unfold B_X1_advance_253 at h
  obtain ⟨f1, hf1, hlf1, h⟩ := h
  refine p_X1_42 hX hf1 hlf1 dX1_advance_253 ?_
  refine vw_nmW (fun w2 ew2 => ?_)
  have h := h w2 ew2
  refine vw_aload_n hX 0 dX1_advance_256 rfl ?_
  refine vw_aload_n hX 0 dX1_advance_257 rfl ?_
  obtain ⟨v3, hv3, h⟩ := h
  refine g_X1_39 hX hv3 dX1_advance_258 ?_
  refine vw_iconst hX (v := 1) dX1_advance_261 (by decide) ?_
  refine vw_iadd hX dX1_advance_262 ?_
  obtain ⟨f4, hf4, hlf4, h⟩ := h
  refine p_X1_29 hX hf4 hlf4 dX1_advance_263 ?_
  refine vw_nmW (fun w5 ew5 => ?_)
  have h := h w5 ew5
  exact vw_vret hX hE dX1_advance_266 ⟨rfl, h⟩
def B_X1_advance_165 (a0 : Nat) (Q : Mm → Nat → Prop) : Nat → Mm → Nat → Prop
  | 0, _, _ => False
  | n + 1, w, z => ∃ v6, fld w a0 5 7 = some (.int (v6)) ∧ ∃ v7, fld w a0 5 2 = some (.int (v7)) ∧ (v7 ≤ v6 → Q w z) ∧
  (¬ v7 ≤ v6 → ∃ q9, fld w a0 5 1 = some (.ref (q9)) ∧ ∃ v10, fld w a0 5 7 = some (.int (v10)) ∧ ∃ n12 f11, arI w q9 1 = some (n12, f11) ∧ vp_in v10 n12 ∧ F_X1_isDigit ((f11 (v10 : Int32).toNatClampNeg)) w z (fun r13 w14 z15 => (r13 = 0 → Q w14 z15) ∧
  (¬ r13 = 0 → ∃ v17, fld w14 a0 5 8 = some (.int (v17)) ∧ ∃ q18, fld w14 a0 5 1 = some (.ref (q18)) ∧ ∃ v19, fld w14 a0 5 7 = some (.int (v19)) ∧ ∃ n21 f20, arI w14 q18 1 = some (n21, f20) ∧ vp_in v19 n21 ∧ ∃ f22, obj w14 a0 5 = some f22 ∧ 8 < f22.length ∧ ∀ w23, w23 = mset w14 a0 (.inl (5, f22.set 8 (.int ((jmin 100000 ((((((v17 * 10)) + ((f20 (v19 : Int32).toNatClampNeg)))) - 48))))))) → ∃ v24, fld w23 a0 5 7 = some (.int (v24)) ∧ ∃ f25, obj w23 a0 5 = some f25 ∧ 7 < f25.length ∧ ∀ w26, w26 = mset w23 a0 (.inl (5, f25.set 7 (.int ((v24 + 1))))) → B_X1_advance_165 a0 Q n w26 z15)))
set_option maxRecDepth 100000 in
set_option maxHeartbeats 4000000 in
theorem pB_X1_advance_165 {C : Cx} {d : Nat} {a0 : Nat} {Q : Mm → Nat → Prop} {X : String → Mm → Nat → Prop} (hX : CX C cX1_advance RX1 1 none [] (d + 1)) (hE : EQ C (rV Q) X) : ∀ (n : Nat)  (w : Mm) (z mc ms : Nat), B_X1_advance_165 a0 Q n  w z → VW C 165 [(0, .ref (a0))] [] w z mc ms := by
  intro n
  induction n with
  | zero => intro  w z mc ms h; exact False.elim h
  | succ n ih =>
    intro  w z mc ms h
    unfold B_X1_advance_165 at h
    refine vw_aload_n hX 0 dX1_advance_165 rfl ?_
    obtain ⟨v6, hv6, h⟩ := h
    refine g_X1_29 hX hv6 dX1_advance_166 ?_
    refine vw_aload_n hX 0 dX1_advance_169 rfl ?_
    obtain ⟨v7, hv7, h⟩ := h
    refine g_X1_23 hX hv7 dX1_advance_170 ?_
    refine vw_icmp_ge hX (tgt := 266) dX1_advance_173 (by decide) (fun c8 => ?_) (fun c8 => ?_)
    · have h := h.1 c8
      exact vw_vret hX hE dX1_advance_266 ⟨rfl, h⟩
    · have h := h.2 c8
      refine vw_aload_n hX 0 dX1_advance_176 rfl ?_
      obtain ⟨q9, hq9, h⟩ := h
      refine g_X1_9 hX hq9 dX1_advance_177 ?_
      refine vw_aload_n hX 0 dX1_advance_180 rfl ?_
      obtain ⟨v10, hv10, h⟩ := h
      refine g_X1_29 hX hv10 dX1_advance_181 ?_
      obtain ⟨n12, f11, hf11, hif11, h⟩ := h
      refine vw_bald hX hf11 hif11 dX1_advance_184 ?_
      refine s_X1_49 hX dX1_advance_185 (Nat.le_of_ble_eq_true rfl) (ct_X1_isDigit (d := d + 0) (lst hX) h) (fun r13 w14 z15 h => ?_)
      refine vw_if_eq hX (tgt := 266) dX1_advance_188 (by decide) (fun c16 => ?_) (fun c16 => ?_)
      · have h := h.1 c16
        exact vw_vret hX hE dX1_advance_266 ⟨rfl, h⟩
      · have h := h.2 c16
        refine vw_aload_n hX 0 dX1_advance_191 rfl ?_
        refine vw_ldcI hX kw_357 dX1_advance_192 ?_
        refine vw_aload_n hX 0 dX1_advance_194 rfl ?_
        obtain ⟨v17, hv17, h⟩ := h
        refine g_X1_52 hX hv17 dX1_advance_195 ?_
        refine vw_bipush hX (v := 10) dX1_advance_198 (by decide) ?_
        refine vw_imul hX dX1_advance_200 ?_
        refine vw_aload_n hX 0 dX1_advance_201 rfl ?_
        obtain ⟨q18, hq18, h⟩ := h
        refine g_X1_9 hX hq18 dX1_advance_202 ?_
        refine vw_aload_n hX 0 dX1_advance_205 rfl ?_
        obtain ⟨v19, hv19, h⟩ := h
        refine g_X1_29 hX hv19 dX1_advance_206 ?_
        obtain ⟨n21, f20, hf20, hif20, h⟩ := h
        refine vw_bald hX hf20 hif20 dX1_advance_209 ?_
        refine vw_iadd hX dX1_advance_210 ?_
        refine vw_bipush hX (v := 48) dX1_advance_211 (by decide) ?_
        refine vw_isub hX dX1_advance_213 ?_
        refine vw_mmin hX kw_358 (Nat.le_of_ble_eq_true rfl) dX1_advance_214 ?_
        obtain ⟨f22, hf22, hlf22, h⟩ := h
        refine p_X1_52 hX hf22 hlf22 dX1_advance_217 ?_
        refine vw_nmW (fun w23 ew23 => ?_)
        have h := h w23 ew23
        refine vw_aload_n hX 0 dX1_advance_220 rfl ?_
        refine vw_dup hX dX1_advance_221 rfl ?_
        obtain ⟨v24, hv24, h⟩ := h
        refine g_X1_29 hX hv24 dX1_advance_222 ?_
        refine vw_iconst hX (v := 1) dX1_advance_225 (by decide) ?_
        refine vw_iadd hX dX1_advance_226 ?_
        obtain ⟨f25, hf25, hlf25, h⟩ := h
        refine p_X1_29 hX hf25 hlf25 dX1_advance_227 ?_
        refine vw_nmW (fun w26 ew26 => ?_)
        have h := h w26 ew26
        refine vw_goto hX (tgt := 165) dX1_advance_230 (by decide) ?_
        exact ih _ _ _ _ h
def B_X1_advance_101 (a0 : Nat) (Q : Mm → Nat → Prop) : Nat → Mm → Nat → Prop
  | 0, _, _ => False
  | n + 1, w, z => ∃ v27, fld w a0 5 7 = some (.int (v27)) ∧ ∃ v28, fld w a0 5 2 = some (.int (v28)) ∧ (v28 ≤ v27 → Q w z) ∧
  (¬ v28 ≤ v27 → ∃ q30, fld w a0 5 1 = some (.ref (q30)) ∧ ∃ v31, fld w a0 5 7 = some (.int (v31)) ∧ ∃ n33 f32, arI w q30 1 = some (n33, f32) ∧ vp_in v31 n33 ∧ F_X1_isLetter ((f32 (v31 : Int32).toNatClampNeg)) w z (fun r34 w35 z36 => (r34 = 0 → Q w35 z36) ∧
  (¬ r34 = 0 → ∃ v38, fld w35 a0 5 7 = some (.int (v38)) ∧ ∃ f39, obj w35 a0 5 = some f39 ∧ 7 < f39.length ∧ ∀ w40, w40 = mset w35 a0 (.inl (5, f39.set 7 (.int ((v38 + 1))))) → B_X1_advance_101 a0 Q n w40 z36)))
set_option maxRecDepth 100000 in
set_option maxHeartbeats 4000000 in
theorem pB_X1_advance_101 {C : Cx} {d : Nat} {a0 : Nat} {Q : Mm → Nat → Prop} {X : String → Mm → Nat → Prop} (hX : CX C cX1_advance RX1 1 none [] (d + 1)) (hE : EQ C (rV Q) X) : ∀ (n : Nat)  (w : Mm) (z mc ms : Nat), B_X1_advance_101 a0 Q n  w z → VW C 101 [(0, .ref (a0))] [] w z mc ms := by
  intro n
  induction n with
  | zero => intro  w z mc ms h; exact False.elim h
  | succ n ih =>
    intro  w z mc ms h
    unfold B_X1_advance_101 at h
    refine vw_aload_n hX 0 dX1_advance_101 rfl ?_
    obtain ⟨v27, hv27, h⟩ := h
    refine g_X1_29 hX hv27 dX1_advance_102 ?_
    refine vw_aload_n hX 0 dX1_advance_105 rfl ?_
    obtain ⟨v28, hv28, h⟩ := h
    refine g_X1_23 hX hv28 dX1_advance_106 ?_
    refine vw_icmp_ge hX (tgt := 266) dX1_advance_109 (by decide) (fun c29 => ?_) (fun c29 => ?_)
    · have h := h.1 c29
      exact vw_vret hX hE dX1_advance_266 ⟨rfl, h⟩
    · have h := h.2 c29
      refine vw_aload_n hX 0 dX1_advance_112 rfl ?_
      obtain ⟨q30, hq30, h⟩ := h
      refine g_X1_9 hX hq30 dX1_advance_113 ?_
      refine vw_aload_n hX 0 dX1_advance_116 rfl ?_
      obtain ⟨v31, hv31, h⟩ := h
      refine g_X1_29 hX hv31 dX1_advance_117 ?_
      obtain ⟨n33, f32, hf32, hif32, h⟩ := h
      refine vw_bald hX hf32 hif32 dX1_advance_120 ?_
      refine s_X1_45 hX dX1_advance_121 (Nat.le_of_ble_eq_true rfl) (ct_X1_isLetter (d := d + 0) (lst hX) h) (fun r34 w35 z36 h => ?_)
      refine vw_if_eq hX (tgt := 266) dX1_advance_124 (by decide) (fun c37 => ?_) (fun c37 => ?_)
      · have h := h.1 c37
        exact vw_vret hX hE dX1_advance_266 ⟨rfl, h⟩
      · have h := h.2 c37
        refine vw_aload_n hX 0 dX1_advance_127 rfl ?_
        refine vw_dup hX dX1_advance_128 rfl ?_
        obtain ⟨v38, hv38, h⟩ := h
        refine g_X1_29 hX hv38 dX1_advance_129 ?_
        refine vw_iconst hX (v := 1) dX1_advance_132 (by decide) ?_
        refine vw_iadd hX dX1_advance_133 ?_
        obtain ⟨f39, hf39, hlf39, h⟩ := h
        refine p_X1_29 hX hf39 hlf39 dX1_advance_134 ?_
        refine vw_nmW (fun w40 ew40 => ?_)
        have h := h w40 ew40
        refine vw_goto hX (tgt := 101) dX1_advance_137 (by decide) ?_
        exact ih _ _ _ _ h
def B_X1_advance_54 (a0 : Nat) (Q : Mm → Nat → Prop) (w : Mm) (z : Nat) : Prop :=
  ∃ v41, fld w a0 5 6 = some (.int (v41)) ∧ ∃ f42, obj w a0 5 = some f42 ∧ 7 < f42.length ∧ ∀ w43, w43 = mset w a0 (.inl (5, f42.set 7 (.int (v41)))) → ∃ v44, fld w43 a0 5 6 = some (.int (v44)) ∧ ∃ v45, fld w43 a0 5 2 = some (.int (v45)) ∧ (v44 < v45 → ∃ q47, fld w43 a0 5 1 = some (.ref (q47)) ∧ ∃ v48, fld w43 a0 5 6 = some (.int (v48)) ∧ ∃ n50 f49, arI w43 q47 1 = some (n50, f49) ∧ vp_in v48 n50 ∧ F_X1_isLetter ((f49 (v48 : Int32).toNatClampNeg)) w43 z (fun r51 w52 z53 => (r51 = 0 → ∃ q55, fld w52 a0 5 1 = some (.ref (q55)) ∧ ∃ v56, fld w52 a0 5 6 = some (.int (v56)) ∧ ∃ n58 f57, arI w52 q55 1 = some (n58, f57) ∧ vp_in v56 n58 ∧ F_X1_isDigit ((f57 (v56 : Int32).toNatClampNeg)) w52 z53 (fun r59 w60 z61 => (r59 = 0 → ∃ q63, fld w60 a0 5 1 = some (.ref (q63)) ∧ ∃ v64, fld w60 a0 5 6 = some (.int (v64)) ∧ ∃ n66 f65, arI w60 q63 1 = some (n66, f65) ∧ vp_in v64 n66 ∧ (¬ ((f65 (v64 : Int32).toNatClampNeg)) = 59 → B_X1_advance_253 a0 Q 4 a0 w60 z61) ∧
  (((f65 (v64 : Int32).toNatClampNeg)) = 59 → B_X1_advance_253 a0 Q 3 a0 w60 z61)) ∧
  (¬ r59 = 0 → ∃ f68, obj w60 a0 5 = some f68 ∧ 5 < f68.length ∧ ∀ w69, w69 = mset w60 a0 (.inl (5, f68.set 5 (.int (2)))) → ∃ f70, obj w69 a0 5 = some f70 ∧ 8 < f70.length ∧ ∀ w71, w71 = mset w69 a0 (.inl (5, f70.set 8 (.int (0)))) → ∃ nn, B_X1_advance_165 a0 Q nn w71 z61))) ∧
  (¬ r51 = 0 → ∃ f72, obj w52 a0 5 = some f72 ∧ 5 < f72.length ∧ ∀ w73, w73 = mset w52 a0 (.inl (5, f72.set 5 (.int (1)))) → ∃ nn, B_X1_advance_101 a0 Q nn w73 z53))) ∧
  (¬ v44 < v45 → ∃ f74, obj w43 a0 5 = some f74 ∧ 5 < f74.length ∧ ∀ w75, w75 = mset w43 a0 (.inl (5, f74.set 5 (.int (0)))) → Q w75 z)
set_option maxRecDepth 100000 in
set_option maxHeartbeats 4000000 in
theorem pB_X1_advance_54 {C : Cx} {d : Nat} {a0 : Nat} {Q : Mm → Nat → Prop} {X : String → Mm → Nat → Prop} (hX : CX C cX1_advance RX1 1 none [] (d + 1)) (hE : EQ C (rV Q) X) : ∀  (w : Mm) (z mc ms : Nat), B_X1_advance_54 a0 Q  w z → VW C 54 [(0, .ref (a0))] [] w z mc ms := by
  intro  w z mc ms h
  unfold B_X1_advance_54 at h
  refine vw_aload_n hX 0 dX1_advance_54 rfl ?_
  refine vw_aload_n hX 0 dX1_advance_55 rfl ?_
  obtain ⟨v41, hv41, h⟩ := h
  refine g_X1_39 hX hv41 dX1_advance_56 ?_
  obtain ⟨f42, hf42, hlf42, h⟩ := h
  refine p_X1_29 hX hf42 hlf42 dX1_advance_59 ?_
  refine vw_nmW (fun w43 ew43 => ?_)
  have h := h w43 ew43
  refine vw_aload_n hX 0 dX1_advance_62 rfl ?_
  obtain ⟨v44, hv44, h⟩ := h
  refine g_X1_39 hX hv44 dX1_advance_63 ?_
  refine vw_aload_n hX 0 dX1_advance_66 rfl ?_
  obtain ⟨v45, hv45, h⟩ := h
  refine g_X1_23 hX hv45 dX1_advance_67 ?_
  refine vw_icmp_lt hX (tgt := 81) dX1_advance_70 (by decide) (fun c46 => ?_) (fun c46 => ?_)
  · have h := h.1 c46
    refine vw_aload_n hX 0 dX1_advance_81 rfl ?_
    obtain ⟨q47, hq47, h⟩ := h
    refine g_X1_9 hX hq47 dX1_advance_82 ?_
    refine vw_aload_n hX 0 dX1_advance_85 rfl ?_
    obtain ⟨v48, hv48, h⟩ := h
    refine g_X1_39 hX hv48 dX1_advance_86 ?_
    obtain ⟨n50, f49, hf49, hif49, h⟩ := h
    refine vw_bald hX hf49 hif49 dX1_advance_89 ?_
    refine s_X1_45 hX dX1_advance_90 (Nat.le_of_ble_eq_true rfl) (ct_X1_isLetter (d := d + 0) (lst hX) h) (fun r51 w52 z53 h => ?_)
    refine vw_if_eq hX (tgt := 140) dX1_advance_93 (by decide) (fun c54 => ?_) (fun c54 => ?_)
    · have h := h.1 c54
      refine vw_aload_n hX 0 dX1_advance_140 rfl ?_
      obtain ⟨q55, hq55, h⟩ := h
      refine g_X1_9 hX hq55 dX1_advance_141 ?_
      refine vw_aload_n hX 0 dX1_advance_144 rfl ?_
      obtain ⟨v56, hv56, h⟩ := h
      refine g_X1_39 hX hv56 dX1_advance_145 ?_
      obtain ⟨n58, f57, hf57, hif57, h⟩ := h
      refine vw_bald hX hf57 hif57 dX1_advance_148 ?_
      refine s_X1_49 hX dX1_advance_149 (Nat.le_of_ble_eq_true rfl) (ct_X1_isDigit (d := d + 0) (lst hX) h) (fun r59 w60 z61 h => ?_)
      refine vw_if_eq hX (tgt := 233) dX1_advance_152 (by decide) (fun c62 => ?_) (fun c62 => ?_)
      · have h := h.1 c62
        refine vw_aload_n hX 0 dX1_advance_233 rfl ?_
        refine vw_aload_n hX 0 dX1_advance_234 rfl ?_
        obtain ⟨q63, hq63, h⟩ := h
        refine g_X1_9 hX hq63 dX1_advance_235 ?_
        refine vw_aload_n hX 0 dX1_advance_238 rfl ?_
        obtain ⟨v64, hv64, h⟩ := h
        refine g_X1_39 hX hv64 dX1_advance_239 ?_
        obtain ⟨n66, f65, hf65, hif65, h⟩ := h
        refine vw_bald hX hf65 hif65 dX1_advance_242 ?_
        refine vw_bipush hX (v := 59) dX1_advance_243 (by decide) ?_
        refine vw_icmp_ne hX (tgt := 252) dX1_advance_245 (by decide) (fun c67 => ?_) (fun c67 => ?_)
        · have h := h.1 c67
          refine vw_iconst hX (v := 4) dX1_advance_252 (by decide) ?_
          exact pB_X1_advance_253 hX hE _ _ _ _ _ _ h
        · have h := h.2 c67
          refine vw_iconst hX (v := 3) dX1_advance_248 (by decide) ?_
          refine vw_goto hX (tgt := 253) dX1_advance_249 (by decide) ?_
          exact pB_X1_advance_253 hX hE _ _ _ _ _ _ h
      · have h := h.2 c62
        refine vw_aload_n hX 0 dX1_advance_155 rfl ?_
        refine vw_iconst hX (v := 2) dX1_advance_156 (by decide) ?_
        obtain ⟨f68, hf68, hlf68, h⟩ := h
        refine p_X1_42 hX hf68 hlf68 dX1_advance_157 ?_
        refine vw_nmW (fun w69 ew69 => ?_)
        have h := h w69 ew69
        refine vw_aload_n hX 0 dX1_advance_160 rfl ?_
        refine vw_iconst hX (v := 0) dX1_advance_161 (by decide) ?_
        obtain ⟨f70, hf70, hlf70, h⟩ := h
        refine p_X1_52 hX hf70 hlf70 dX1_advance_162 ?_
        refine vw_nmW (fun w71 ew71 => ?_)
        have h := h w71 ew71
        obtain ⟨nn, h⟩ := h
        exact pB_X1_advance_165 hX hE nn _ _ _ _ h
    · have h := h.2 c54
      refine vw_aload_n hX 0 dX1_advance_96 rfl ?_
      refine vw_iconst hX (v := 1) dX1_advance_97 (by decide) ?_
      obtain ⟨f72, hf72, hlf72, h⟩ := h
      refine p_X1_42 hX hf72 hlf72 dX1_advance_98 ?_
      refine vw_nmW (fun w73 ew73 => ?_)
      have h := h w73 ew73
      obtain ⟨nn, h⟩ := h
      exact pB_X1_advance_101 hX hE nn _ _ _ _ h
  · have h := h.2 c46
    refine vw_aload_n hX 0 dX1_advance_73 rfl ?_
    refine vw_iconst hX (v := 0) dX1_advance_74 (by decide) ?_
    obtain ⟨f74, hf74, hlf74, h⟩ := h
    refine p_X1_42 hX hf74 hlf74 dX1_advance_75 ?_
    refine vw_nmW (fun w75 ew75 => ?_)
    have h := h w75 ew75
    refine vw_goto hX (tgt := 266) dX1_advance_78 (by decide) ?_
    exact vw_vret hX hE dX1_advance_266 ⟨rfl, h⟩
def B_X1_advance_16 (a0 : Nat) (Q : Mm → Nat → Prop) : Nat → Mm → Nat → Prop
  | 0, _, _ => False
  | n + 1, w, z => ∃ v76, fld w a0 5 6 = some (.int (v76)) ∧ ∃ v77, fld w a0 5 2 = some (.int (v77)) ∧ (v77 ≤ v76 → B_X1_advance_54 a0 Q w z) ∧
  (¬ v77 ≤ v76 → ∃ q79, fld w a0 5 1 = some (.ref (q79)) ∧ ∃ v80, fld w a0 5 6 = some (.int (v80)) ∧ ∃ n82 f81, arI w q79 1 = some (n82, f81) ∧ vp_in v80 n82 ∧ (¬ ((f81 (v80 : Int32).toNatClampNeg)) = 32 → B_X1_advance_54 a0 Q w z) ∧
  (((f81 (v80 : Int32).toNatClampNeg)) = 32 → ∃ v84, fld w a0 5 6 = some (.int (v84)) ∧ ∃ f85, obj w a0 5 = some f85 ∧ 6 < f85.length ∧ ∀ w86, w86 = mset w a0 (.inl (5, f85.set 6 (.int ((v84 + 1))))) → B_X1_advance_16 a0 Q n w86 z))
set_option maxRecDepth 100000 in
set_option maxHeartbeats 4000000 in
theorem pB_X1_advance_16 {C : Cx} {d : Nat} {a0 : Nat} {Q : Mm → Nat → Prop} {X : String → Mm → Nat → Prop} (hX : CX C cX1_advance RX1 1 none [] (d + 1)) (hE : EQ C (rV Q) X) : ∀ (n : Nat)  (w : Mm) (z mc ms : Nat), B_X1_advance_16 a0 Q n  w z → VW C 16 [(0, .ref (a0))] [] w z mc ms := by
  intro n
  induction n with
  | zero => intro  w z mc ms h; exact False.elim h
  | succ n ih =>
    intro  w z mc ms h
    unfold B_X1_advance_16 at h
    refine vw_aload_n hX 0 dX1_advance_16 rfl ?_
    obtain ⟨v76, hv76, h⟩ := h
    refine g_X1_39 hX hv76 dX1_advance_17 ?_
    refine vw_aload_n hX 0 dX1_advance_20 rfl ?_
    obtain ⟨v77, hv77, h⟩ := h
    refine g_X1_23 hX hv77 dX1_advance_21 ?_
    refine vw_icmp_ge hX (tgt := 54) dX1_advance_24 (by decide) (fun c78 => ?_) (fun c78 => ?_)
    · have h := h.1 c78
      exact pB_X1_advance_54 hX hE _ _ _ _ h
    · have h := h.2 c78
      refine vw_aload_n hX 0 dX1_advance_27 rfl ?_
      obtain ⟨q79, hq79, h⟩ := h
      refine g_X1_9 hX hq79 dX1_advance_28 ?_
      refine vw_aload_n hX 0 dX1_advance_31 rfl ?_
      obtain ⟨v80, hv80, h⟩ := h
      refine g_X1_39 hX hv80 dX1_advance_32 ?_
      obtain ⟨n82, f81, hf81, hif81, h⟩ := h
      refine vw_bald hX hf81 hif81 dX1_advance_35 ?_
      refine vw_bipush hX (v := 32) dX1_advance_36 (by decide) ?_
      refine vw_icmp_ne hX (tgt := 54) dX1_advance_38 (by decide) (fun c83 => ?_) (fun c83 => ?_)
      · have h := h.1 c83
        exact pB_X1_advance_54 hX hE _ _ _ _ h
      · have h := h.2 c83
        refine vw_aload_n hX 0 dX1_advance_41 rfl ?_
        refine vw_dup hX dX1_advance_42 rfl ?_
        obtain ⟨v84, hv84, h⟩ := h
        refine g_X1_39 hX hv84 dX1_advance_43 ?_
        refine vw_iconst hX (v := 1) dX1_advance_46 (by decide) ?_
        refine vw_iadd hX dX1_advance_47 ?_
        obtain ⟨f85, hf85, hlf85, h⟩ := h
        refine p_X1_39 hX hf85 hlf85 dX1_advance_48 ?_
        refine vw_nmW (fun w86 ew86 => ?_)
        have h := h w86 ew86
        refine vw_goto hX (tgt := 16) dX1_advance_51 (by decide) ?_
        exact ih _ _ _ _ h
def F_X1_advance (a0 : Nat) (w : Mm) (z : Nat) (Q : Mm → Nat → Prop) : Prop :=
  isO w a0 5 ∧ F_X1_failed a0 w z (fun r2 w3 z4 => (r2 = 0 → ∃ v6, fld w3 a0 5 7 = some (.int (v6)) ∧ ∃ f7, obj w3 a0 5 = some f7 ∧ 6 < f7.length ∧ ∀ w8, w8 = mset w3 a0 (.inl (5, f7.set 6 (.int (v6)))) → ∃ nn, B_X1_advance_16 a0 Q nn w8 z4) ∧
  (¬ r2 = 0 → Q w3 z4))
set_option maxRecDepth 100000 in
set_option maxHeartbeats 4000000 in
theorem ct_X1_advance {l : Launch} {g : Gp} {d : Nat} (hst : l.stackTraces = false) {a0 : Nat} {w : Mm} {z mc ms : Nat} {Q : Mm → Nat → Prop} {X : String → Mm → Nat → Prop} (h : F_X1_advance a0 w z Q) : Ct l g yX1_advance (.code yX1_advance cX1_advance 1 none) (d + 1) mc ms [.ref (a0)] w z (rV Q) X := by
  refine Ct.of hst (by decide) (Nat.le_of_ble_eq_true rfl) (fun C hX hE hg hl hNm => ?_)
  subst hg
  subst hl
  unfold F_X1_advance at h
  show VW C 0 [(0, .ref (a0))] [] w z mc ms
  refine vw_aload_n hX 0 dX1_advance_0 rfl ?_
  obtain ⟨hr1, h⟩ := h
  refine s_X1_35 hX hr1 dX1_advance_1 (Nat.le_of_ble_eq_true rfl) (ct_X1_failed (d := d + 0) (lst hX) h) (fun r2 w3 z4 h => ?_)
  refine vw_if_eq hX (tgt := 8) dX1_advance_4 (by decide) (fun c5 => ?_) (fun c5 => ?_)
  · have h := h.1 c5
    refine vw_aload_n hX 0 dX1_advance_8 rfl ?_
    refine vw_aload_n hX 0 dX1_advance_9 rfl ?_
    obtain ⟨v6, hv6, h⟩ := h
    refine g_X1_29 hX hv6 dX1_advance_10 ?_
    obtain ⟨f7, hf7, hlf7, h⟩ := h
    refine p_X1_39 hX hf7 hlf7 dX1_advance_13 ?_
    refine vw_nmW (fun w8 ew8 => ?_)
    have h := h w8 ew8
    obtain ⟨nn, h⟩ := h
    exact pB_X1_advance_16 hX hE nn _ _ _ _ h
  · have h := h.2 c5
    exact vw_vret hX hE dX1_advance_7 ⟨rfl, h⟩
def F_X1_begin (a0 : Nat) (w : Mm) (z : Nat) (Q : Mm → Nat → Prop) : Prop :=
  ∃ f1, obj w a0 5 = some f1 ∧ 3 < f1.length ∧ ∀ w2, w2 = mset w a0 (.inl (5, f1.set 3 (.int (0)))) → ∃ f3, obj w2 a0 5 = some f3 ∧ 4 < f3.length ∧ ∀ w4, w4 = mset w2 a0 (.inl (5, f3.set 4 (.int ((-1))))) → ∃ f5, obj w4 a0 5 = some f5 ∧ 7 < f5.length ∧ ∀ w6, w6 = mset w4 a0 (.inl (5, f5.set 7 (.int (0)))) → isO w6 a0 5 ∧ F_X1_advance a0 w6 z (fun w9 z10 => Q w9 z10)
set_option maxRecDepth 100000 in
set_option maxHeartbeats 4000000 in
theorem ct_X1_begin {l : Launch} {g : Gp} {d : Nat} (hst : l.stackTraces = false) {a0 : Nat} {w : Mm} {z mc ms : Nat} {Q : Mm → Nat → Prop} {X : String → Mm → Nat → Prop} (h : F_X1_begin a0 w z Q) : Ct l g yX1_begin (.code yX1_begin cX1_begin 1 none) (d + 2) mc ms [.ref (a0)] w z (rV Q) X := by
  refine Ct.of hst (by decide) (Nat.le_of_ble_eq_true rfl) (fun C hX hE hg hl hNm => ?_)
  subst hg
  subst hl
  unfold F_X1_begin at h
  show VW C 0 [(0, .ref (a0))] [] w z mc ms
  refine vw_aload_n hX 0 dX1_begin_0 rfl ?_
  refine vw_iconst hX (v := 0) dX1_begin_1 (by decide) ?_
  obtain ⟨f1, hf1, hlf1, h⟩ := h
  refine p_X1_26 hX hf1 hlf1 dX1_begin_2 ?_
  refine vw_nmW (fun w2 ew2 => ?_)
  have h := h w2 ew2
  refine vw_aload_n hX 0 dX1_begin_5 rfl ?_
  refine vw_iconst hX (v := (-1)) dX1_begin_6 (by decide) ?_
  obtain ⟨f3, hf3, hlf3, h⟩ := h
  refine p_X1_15 hX hf3 hlf3 dX1_begin_7 ?_
  refine vw_nmW (fun w4 ew4 => ?_)
  have h := h w4 ew4
  refine vw_aload_n hX 0 dX1_begin_10 rfl ?_
  refine vw_iconst hX (v := 0) dX1_begin_11 (by decide) ?_
  obtain ⟨f5, hf5, hlf5, h⟩ := h
  refine p_X1_29 hX hf5 hlf5 dX1_begin_12 ?_
  refine vw_nmW (fun w6 ew6 => ?_)
  have h := h w6 ew6
  refine vw_aload_n hX 0 dX1_begin_15 rfl ?_
  obtain ⟨hr7, h⟩ := h
  refine s_X1_32 hX hr7 dX1_begin_16 (Nat.le_of_ble_eq_true rfl) (ct_X1_advance (d := d + 0) (lst hX) h) (fun w9 z10 h => ?_)
  exact vw_vret hX hE dX1_begin_19 ⟨rfl, h⟩
def B_X1_tokenIs_28 (a0 : Nat) (a1 : Nat) (Q : Int32 → Mm → Nat → Prop) : Nat → Int32 → Mm → Nat → Prop
  | 0, _, _, _ => False
  | n + 1, x2, w, z => isO w a1 0 ∧ F_J0_length_8abf5 a1 w z (fun r2 w3 z4 => (r2 ≤ x2 → Q 1 w3 z4) ∧
  (¬ r2 ≤ x2 → ∃ q6, fld w3 a0 5 1 = some (.ref (q6)) ∧ ∃ v7, fld w3 a0 5 6 = some (.int (v7)) ∧ ∃ n9 f8, arI w3 q6 1 = some (n9, f8) ∧ vp_in ((v7 + x2)) n9 ∧ isO w3 a1 0 ∧ F_J0_charAt_5068e a1 x2 w3 z4 (fun r11 w12 z13 => (((f8 ((v7 + x2) : Int32).toNatClampNeg)) = r11 → B_X1_tokenIs_28 a0 a1 Q n ((x2 + 1)) w12 z13) ∧
  (¬ ((f8 ((v7 + x2) : Int32).toNatClampNeg)) = r11 → Q 0 w12 z13))))
set_option maxRecDepth 100000 in
set_option maxHeartbeats 4000000 in
theorem pB_X1_tokenIs_28 {C : Cx} {d : Nat} {a0 : Nat} {a1 : Nat} {Q : Int32 → Mm → Nat → Prop} {X : String → Mm → Nat → Prop} (hX : CX C cX1_tokenIs RX1 3 (some .boolean) [] (d + 4)) (hE : EQ C (rI Q) X) : ∀ (n : Nat) (x2 : Int32) (w : Mm) (z mc ms : Nat), B_X1_tokenIs_28 a0 a1 Q n x2 w z → VW C 28 [(0, .ref (a0)), (1, .ref (a1)), (2, .int (x2))] [] w z mc ms := by
  intro n
  induction n with
  | zero => intro x2 w z mc ms h; exact False.elim h
  | succ n ih =>
    intro x2 w z mc ms h
    unfold B_X1_tokenIs_28 at h
    refine vw_iload_n hX 2 dX1_tokenIs_28 rfl ?_
    refine vw_aload_n hX 1 dX1_tokenIs_29 rfl ?_
    obtain ⟨hr1, h⟩ := h
    refine s_X1_62 hX hr1 dX1_tokenIs_30 (Nat.le_of_ble_eq_true rfl) (ct_J0_length_8abf5 (d := d + 2) (lst hX) h) (fun r2 w3 z4 h => ?_)
    refine vw_icmp_ge hX (tgt := 63) dX1_tokenIs_33 (by decide) (fun c5 => ?_) (fun c5 => ?_)
    · have h := h.1 c5
      refine vw_iconst hX (v := 1) dX1_tokenIs_63 (by decide) ?_
      exact vw_zret hX hE dX1_tokenIs_64 rfl ⟨_, rfl, h⟩
    · have h := h.2 c5
      refine vw_aload_n hX 0 dX1_tokenIs_36 rfl ?_
      obtain ⟨q6, hq6, h⟩ := h
      refine g_X1_9 hX hq6 dX1_tokenIs_37 ?_
      refine vw_aload_n hX 0 dX1_tokenIs_40 rfl ?_
      obtain ⟨v7, hv7, h⟩ := h
      refine g_X1_39 hX hv7 dX1_tokenIs_41 ?_
      refine vw_iload_n hX 2 dX1_tokenIs_44 rfl ?_
      refine vw_iadd hX dX1_tokenIs_45 ?_
      obtain ⟨n9, f8, hf8, hif8, h⟩ := h
      refine vw_bald hX hf8 hif8 dX1_tokenIs_46 ?_
      refine vw_aload_n hX 1 dX1_tokenIs_47 rfl ?_
      refine vw_iload_n hX 2 dX1_tokenIs_48 rfl ?_
      obtain ⟨hr10, h⟩ := h
      refine s_X1_67 hX hr10 dX1_tokenIs_49 (Nat.le_of_ble_eq_true rfl) (ct_J0_charAt_5068e (d := d + 0) (lst hX) h) (fun r11 w12 z13 h => ?_)
      refine vw_icmp_eq hX (tgt := 57) dX1_tokenIs_52 (by decide) (fun c14 => ?_) (fun c14 => ?_)
      · have h := h.1 c14
        refine vw_iinc hX 2 (v := x2 + 1) dX1_tokenIs_57 rfl rfl (by decide) rfl ?_
        refine vw_goto hX (tgt := 28) dX1_tokenIs_60 (by decide) ?_
        exact vw_sub [1, 2, 0] rfl (ih _ _ _ _ _ h)
      · have h := h.2 c14
        refine vw_iconst hX (v := 0) dX1_tokenIs_55 (by decide) ?_
        exact vw_zret hX hE dX1_tokenIs_56 rfl ⟨_, rfl, h⟩
def F_X1_tokenIs (a0 : Nat) (a1 : Nat) (w : Mm) (z : Nat) (Q : Int32 → Mm → Nat → Prop) : Prop :=
  ∃ v1, fld w a0 5 5 = some (.int (v1)) ∧ (¬ v1 = 1 → Q 0 w z) ∧
  (v1 = 1 → ∃ v3, fld w a0 5 7 = some (.int (v3)) ∧ ∃ v4, fld w a0 5 6 = some (.int (v4)) ∧ isO w a1 0 ∧ F_J0_length_8abf5 a1 w z (fun r6 w7 z8 => (((v3 - v4)) = r6 → ∃ nn, B_X1_tokenIs_28 a0 a1 Q nn 0 w7 z8) ∧
  (¬ ((v3 - v4)) = r6 → Q 0 w7 z8)))
set_option maxRecDepth 100000 in
set_option maxHeartbeats 4000000 in
theorem ct_X1_tokenIs {l : Launch} {g : Gp} {d : Nat} (hst : l.stackTraces = false) {a0 : Nat} {a1 : Nat} {w : Mm} {z mc ms : Nat} {Q : Int32 → Mm → Nat → Prop} {X : String → Mm → Nat → Prop} (h : F_X1_tokenIs a0 a1 w z Q) : Ct l g yX1_tokenIs (.code yX1_tokenIs cX1_tokenIs 3 (some .boolean)) (d + 4) mc ms [.ref (a0), .ref (a1)] w z (rI Q) X := by
  refine Ct.of hst (by decide) (Nat.le_of_ble_eq_true rfl) (fun C hX hE hg hl hNm => ?_)
  subst hg
  subst hl
  unfold F_X1_tokenIs at h
  show VW C 0 [(0, .ref (a0)), (1, .ref (a1))] [] w z mc ms
  refine vw_aload_n hX 0 dX1_tokenIs_0 rfl ?_
  obtain ⟨v1, hv1, h⟩ := h
  refine g_X1_42 hX hv1 dX1_tokenIs_1 ?_
  refine vw_iconst hX (v := 1) dX1_tokenIs_4 (by decide) ?_
  refine vw_icmp_ne hX (tgt := 24) dX1_tokenIs_5 (by decide) (fun c2 => ?_) (fun c2 => ?_)
  · have h := h.1 c2
    refine vw_iconst hX (v := 0) dX1_tokenIs_24 (by decide) ?_
    exact vw_zret hX hE dX1_tokenIs_25 rfl ⟨_, rfl, h⟩
  · have h := h.2 c2
    refine vw_aload_n hX 0 dX1_tokenIs_8 rfl ?_
    obtain ⟨v3, hv3, h⟩ := h
    refine g_X1_29 hX hv3 dX1_tokenIs_9 ?_
    refine vw_aload_n hX 0 dX1_tokenIs_12 rfl ?_
    obtain ⟨v4, hv4, h⟩ := h
    refine g_X1_39 hX hv4 dX1_tokenIs_13 ?_
    refine vw_isub hX dX1_tokenIs_16 ?_
    refine vw_aload_n hX 1 dX1_tokenIs_17 rfl ?_
    obtain ⟨hr5, h⟩ := h
    refine s_X1_62 hX hr5 dX1_tokenIs_18 (Nat.le_of_ble_eq_true rfl) (ct_J0_length_8abf5 (d := d + 2) (lst hX) h) (fun r6 w7 z8 h => ?_)
    refine vw_icmp_eq hX (tgt := 26) dX1_tokenIs_21 (by decide) (fun c9 => ?_) (fun c9 => ?_)
    · have h := h.1 c9
      refine vw_iconst hX (v := 0) dX1_tokenIs_26 (by decide) ?_
      refine vw_istore_n hX dX1_tokenIs_27 (by decide) rfl ?_
      obtain ⟨nn, h⟩ := h
      exact vw_sub [1, 2, 0] rfl (pB_X1_tokenIs_28 hX hE nn _ _ _ _ _ h)
    · have h := h.2 c9
      refine vw_iconst hX (v := 0) dX1_tokenIs_24 (by decide) ?_
      exact vw_zret hX hE dX1_tokenIs_25 rfl ⟨_, rfl, h⟩
def F_X1_fail (a0 : Nat) (a1 : Int32) (w : Mm) (z : Nat) (Q : Int32 → Mm → Nat → Prop) : Prop :=
  isO w a0 5 ∧ F_X1_failed a0 w z (fun r2 w3 z4 => (¬ r2 = 0 → Q (-1) w3 z4) ∧
  (r2 = 0 → ∃ f6, obj w3 a0 5 = some f6 ∧ 3 < f6.length ∧ ∀ w7, w7 = mset w3 a0 (.inl (5, f6.set 3 (.int (a1)))) → ∃ v8, fld w7 a0 5 6 = some (.int (v8)) ∧ ∃ f9, obj w7 a0 5 = some f9 ∧ 4 < f9.length ∧ ∀ w10, w10 = mset w7 a0 (.inl (5, f9.set 4 (.int (v8)))) → Q (-1) w10 z4))
set_option maxRecDepth 100000 in
set_option maxHeartbeats 4000000 in
theorem ct_X1_fail {l : Launch} {g : Gp} {d : Nat} (hst : l.stackTraces = false) {a0 : Nat} {a1 : Int32} {w : Mm} {z mc ms : Nat} {Q : Int32 → Mm → Nat → Prop} {X : String → Mm → Nat → Prop} (h : F_X1_fail a0 a1 w z Q) : Ct l g yX1_fail (.code yX1_fail cX1_fail 2 (some .int)) (d + 1) mc ms [.ref (a0), .int (a1)] w z (rI Q) X := by
  refine Ct.of hst (by decide) (Nat.le_of_ble_eq_true rfl) (fun C hX hE hg hl hNm => ?_)
  subst hg
  subst hl
  unfold F_X1_fail at h
  show VW C 0 [(0, .ref (a0)), (1, .int (a1))] [] w z mc ms
  refine vw_aload_n hX 0 dX1_fail_0 rfl ?_
  obtain ⟨hr1, h⟩ := h
  refine s_X1_35 hX hr1 dX1_fail_1 (Nat.le_of_ble_eq_true rfl) (ct_X1_failed (d := d + 0) (lst hX) h) (fun r2 w3 z4 h => ?_)
  refine vw_if_ne hX (tgt := 20) dX1_fail_4 (by decide) (fun c5 => ?_) (fun c5 => ?_)
  · have h := h.1 c5
    refine vw_iconst hX (v := (-1)) dX1_fail_20 (by decide) ?_
    exact vw_iret hX hE dX1_fail_21 ⟨_, rfl, h⟩
  · have h := h.2 c5
    refine vw_aload_n hX 0 dX1_fail_7 rfl ?_
    refine vw_iload_n hX 1 dX1_fail_8 rfl ?_
    obtain ⟨f6, hf6, hlf6, h⟩ := h
    refine p_X1_26 hX hf6 hlf6 dX1_fail_9 ?_
    refine vw_nmW (fun w7 ew7 => ?_)
    have h := h w7 ew7
    refine vw_aload_n hX 0 dX1_fail_12 rfl ?_
    refine vw_aload_n hX 0 dX1_fail_13 rfl ?_
    obtain ⟨v8, hv8, h⟩ := h
    refine g_X1_39 hX hv8 dX1_fail_14 ?_
    obtain ⟨f9, hf9, hlf9, h⟩ := h
    refine p_X1_15 hX hf9 hlf9 dX1_fail_17 ?_
    refine vw_nmW (fun w10 ew10 => ?_)
    have h := h w10 ew10
    refine vw_iconst hX (v := (-1)) dX1_fail_20 (by decide) ?_
    exact vw_iret hX hE dX1_fail_21 ⟨_, rfl, h⟩
def F_X1_readKeyword (a0 : Nat) (a1 : Nat) (w : Mm) (z : Nat) (Q : Mm → Nat → Prop) : Prop :=
  isO w a0 5 ∧ F_X1_tokenIs a0 a1 w z (fun r2 w3 z4 => (¬ r2 = 0 → isO w3 a0 5 ∧ F_X1_advance a0 w3 z4 (fun w8 z9 => Q w8 z9)) ∧
  (r2 = 0 → isO w3 a0 5 ∧ F_X1_fail a0 1 w3 z4 (fun r11 w12 z13 => Q w12 z13)))
set_option maxRecDepth 100000 in
set_option maxHeartbeats 4000000 in
theorem ct_X1_readKeyword {l : Launch} {g : Gp} {d : Nat} (hst : l.stackTraces = false) {a0 : Nat} {a1 : Nat} {w : Mm} {z mc ms : Nat} {Q : Mm → Nat → Prop} {X : String → Mm → Nat → Prop} (h : F_X1_readKeyword a0 a1 w z Q) : Ct l g yX1_readKeyword (.code yX1_readKeyword cX1_readKeyword 2 none) (d + 5) mc ms [.ref (a0), .ref (a1)] w z (rV Q) X := by
  refine Ct.of hst (by decide) (Nat.le_of_ble_eq_true rfl) (fun C hX hE hg hl hNm => ?_)
  subst hg
  subst hl
  unfold F_X1_readKeyword at h
  show VW C 0 [(0, .ref (a0)), (1, .ref (a1))] [] w z mc ms
  refine vw_aload_n hX 0 dX1_readKeyword_0 rfl ?_
  refine vw_aload_n hX 1 dX1_readKeyword_1 rfl ?_
  obtain ⟨hr1, h⟩ := h
  refine s_X1_71 hX hr1 dX1_readKeyword_2 (Nat.le_of_ble_eq_true rfl) (ct_X1_tokenIs (d := d + 0) (lst hX) h) (fun r2 w3 z4 h => ?_)
  refine vw_if_ne hX (tgt := 17) dX1_readKeyword_5 (by decide) (fun c5 => ?_) (fun c5 => ?_)
  · have h := h.1 c5
    refine vw_aload_n hX 0 dX1_readKeyword_17 rfl ?_
    obtain ⟨hr6, h⟩ := h
    refine s_X1_32 hX hr6 dX1_readKeyword_18 (Nat.le_of_ble_eq_true rfl) (ct_X1_advance (d := d + 3) (lst hX) h) (fun w8 z9 h => ?_)
    exact vw_vret hX hE dX1_readKeyword_21 ⟨rfl, h⟩
  · have h := h.2 c5
    refine vw_aload_n hX 0 dX1_readKeyword_8 rfl ?_
    refine vw_iconst hX (v := 1) dX1_readKeyword_9 (by decide) ?_
    obtain ⟨hr10, h⟩ := h
    refine s_X1_75 hX hr10 dX1_readKeyword_10 (Nat.le_of_ble_eq_true rfl) (ct_X1_fail (d := d + 3) (lst hX) h) (fun r11 w12 z13 h => ?_)
    refine vw_pop hX dX1_readKeyword_13 rfl ?_
    refine vw_goto hX (tgt := 21) dX1_readKeyword_14 (by decide) ?_
    exact vw_vret hX hE dX1_readKeyword_21 ⟨rfl, h⟩
def F_X1_readNumber (a0 : Nat) (a1 : Int32) (a2 : Int32) (w : Mm) (z : Nat) (Q : Int32 → Mm → Nat → Prop) : Prop :=
  ∃ v1, fld w a0 5 5 = some (.int (v1)) ∧ (v1 = 2 → ∃ v3, fld w a0 5 8 = some (.int (v3)) ∧ (v3 < a1 → isO w a0 5 ∧ F_X1_fail a0 2 w z (fun r6 w7 z8 => Q r6 w7 z8)) ∧
  (¬ v3 < a1 → ∃ v9, fld w a0 5 8 = some (.int (v9)) ∧ (v9 ≤ a2 → ∃ v11, fld w a0 5 8 = some (.int (v11)) ∧ isO w a0 5 ∧ F_X1_advance a0 w z (fun w14 z15 => Q v11 w14 z15)) ∧
  (¬ v9 ≤ a2 → isO w a0 5 ∧ F_X1_fail a0 2 w z (fun r17 w18 z19 => Q r17 w18 z19)))) ∧
  (¬ v1 = 2 → isO w a0 5 ∧ F_X1_fail a0 1 w z (fun r21 w22 z23 => Q r21 w22 z23))
set_option maxRecDepth 100000 in
set_option maxHeartbeats 4000000 in
theorem ct_X1_readNumber {l : Launch} {g : Gp} {d : Nat} (hst : l.stackTraces = false) {a0 : Nat} {a1 : Int32} {a2 : Int32} {w : Mm} {z mc ms : Nat} {Q : Int32 → Mm → Nat → Prop} {X : String → Mm → Nat → Prop} (h : F_X1_readNumber a0 a1 a2 w z Q) : Ct l g yX1_readNumber (.code yX1_readNumber cX1_readNumber 4 (some .int)) (d + 2) mc ms [.ref (a0), .int (a1), .int (a2)] w z (rI Q) X := by
  refine Ct.of hst (by decide) (Nat.le_of_ble_eq_true rfl) (fun C hX hE hg hl hNm => ?_)
  subst hg
  subst hl
  unfold F_X1_readNumber at h
  show VW C 0 [(0, .ref (a0)), (1, .int (a1)), (2, .int (a2))] [] w z mc ms
  refine vw_aload_n hX 0 dX1_readNumber_0 rfl ?_
  obtain ⟨v1, hv1, h⟩ := h
  refine g_X1_42 hX hv1 dX1_readNumber_1 ?_
  refine vw_iconst hX (v := 2) dX1_readNumber_4 (by decide) ?_
  refine vw_icmp_eq hX (tgt := 14) dX1_readNumber_5 (by decide) (fun c2 => ?_) (fun c2 => ?_)
  · have h := h.1 c2
    refine vw_aload_n hX 0 dX1_readNumber_14 rfl ?_
    obtain ⟨v3, hv3, h⟩ := h
    refine g_X1_52 hX hv3 dX1_readNumber_15 ?_
    refine vw_iload_n hX 1 dX1_readNumber_18 rfl ?_
    refine vw_icmp_lt hX (tgt := 30) dX1_readNumber_19 (by decide) (fun c4 => ?_) (fun c4 => ?_)
    · have h := h.1 c4
      refine vw_aload_n hX 0 dX1_readNumber_30 rfl ?_
      refine vw_iconst hX (v := 2) dX1_readNumber_31 (by decide) ?_
      obtain ⟨hr5, h⟩ := h
      refine s_X1_75 hX hr5 dX1_readNumber_32 (Nat.le_of_ble_eq_true rfl) (ct_X1_fail (d := d + 0) (lst hX) h) (fun r6 w7 z8 h => ?_)
      exact vw_iret hX hE dX1_readNumber_35 ⟨_, rfl, h⟩
    · have h := h.2 c4
      refine vw_aload_n hX 0 dX1_readNumber_22 rfl ?_
      obtain ⟨v9, hv9, h⟩ := h
      refine g_X1_52 hX hv9 dX1_readNumber_23 ?_
      refine vw_iload_n hX 2 dX1_readNumber_26 rfl ?_
      refine vw_icmp_le hX (tgt := 36) dX1_readNumber_27 (by decide) (fun c10 => ?_) (fun c10 => ?_)
      · have h := h.1 c10
        refine vw_aload_n hX 0 dX1_readNumber_36 rfl ?_
        obtain ⟨v11, hv11, h⟩ := h
        refine g_X1_52 hX hv11 dX1_readNumber_37 ?_
        refine vw_istore_n hX dX1_readNumber_40 (by decide) rfl ?_
        refine vw_aload_n hX 1 dX1_readNumber_41 rfl ?_
        obtain ⟨hr12, h⟩ := h
        refine s_X1_32 hX hr12 dX1_readNumber_42 (Nat.le_of_ble_eq_true rfl) (ct_X1_advance (d := d + 0) (lst hX) h) (fun w14 z15 h => ?_)
        refine vw_iload_n hX 0 dX1_readNumber_45 rfl ?_
        exact vw_iret hX hE dX1_readNumber_46 ⟨_, rfl, h⟩
      · have h := h.2 c10
        refine vw_aload_n hX 0 dX1_readNumber_30 rfl ?_
        refine vw_iconst hX (v := 2) dX1_readNumber_31 (by decide) ?_
        obtain ⟨hr16, h⟩ := h
        refine s_X1_75 hX hr16 dX1_readNumber_32 (Nat.le_of_ble_eq_true rfl) (ct_X1_fail (d := d + 0) (lst hX) h) (fun r17 w18 z19 h => ?_)
        exact vw_iret hX hE dX1_readNumber_35 ⟨_, rfl, h⟩
  · have h := h.2 c2
    refine vw_aload_n hX 0 dX1_readNumber_8 rfl ?_
    refine vw_iconst hX (v := 1) dX1_readNumber_9 (by decide) ?_
    obtain ⟨hr20, h⟩ := h
    refine s_X1_75 hX hr20 dX1_readNumber_10 (Nat.le_of_ble_eq_true rfl) (ct_X1_fail (d := d + 0) (lst hX) h) (fun r21 w22 z23 h => ?_)
    exact vw_iret hX hE dX1_readNumber_13 ⟨_, rfl, h⟩
def B_X1_readZone_34 (a0 : Nat) (Q : Mm → Nat → Prop) (w : Mm) (z : Nat) : Prop :=
  isO w a0 5 ∧ F_X1_readNumber a0 0 3 w z (fun r2 w3 z4 => isO w3 a0 5 ∧ F_X1_failed a0 w3 z4 (fun r6 w7 z8 => (¬ r6 = 0 → Q w7 z8) ∧
  (r6 = 0 → ∃ q10, fld w7 a0 5 0 = some (.ref (q10)) ∧ isO w7 q10 7 ∧ F_X3_addStop q10 r2 w7 z8 (fun w13 z14 => Q w13 z14))))
set_option maxRecDepth 100000 in
set_option maxHeartbeats 4000000 in
theorem pB_X1_readZone_34 {C : Cx} {d : Nat} {a0 : Nat} {Q : Mm → Nat → Prop} {X : String → Mm → Nat → Prop} (hX : CX C cX1_readZone RX1 2 none [] (d + 3)) (hE : EQ C (rV Q) X) : ∀  (w : Mm) (z mc ms : Nat), B_X1_readZone_34 a0 Q  w z → VW C 34 [(0, .ref (a0))] [] w z mc ms := by
  intro  w z mc ms h
  unfold B_X1_readZone_34 at h
  refine vw_aload_n hX 0 dX1_readZone_34 rfl ?_
  refine vw_iconst hX (v := 0) dX1_readZone_35 (by decide) ?_
  refine vw_iconst hX (v := 3) dX1_readZone_36 (by decide) ?_
  obtain ⟨hr1, h⟩ := h
  refine s_X1_84 hX hr1 dX1_readZone_37 (Nat.le_of_ble_eq_true rfl) (ct_X1_readNumber (d := d + 0) (lst hX) h) (fun r2 w3 z4 h => ?_)
  refine vw_istore_n hX dX1_readZone_40 (by decide) rfl ?_
  refine vw_aload_n hX 1 dX1_readZone_41 rfl ?_
  obtain ⟨hr5, h⟩ := h
  refine s_X1_35 hX hr5 dX1_readZone_42 (Nat.le_of_ble_eq_true rfl) (ct_X1_failed (d := d + 2) (lst hX) h) (fun r6 w7 z8 h => ?_)
  refine vw_if_ne hX (tgt := 56) dX1_readZone_45 (by decide) (fun c9 => ?_) (fun c9 => ?_)
  · have h := h.1 c9
    exact vw_vret hX hE dX1_readZone_56 ⟨rfl, h⟩
  · have h := h.2 c9
    refine vw_aload_n hX 1 dX1_readZone_48 rfl ?_
    obtain ⟨q10, hq10, h⟩ := h
    refine g_X1_19 hX hq10 dX1_readZone_49 ?_
    refine vw_iload_n hX 0 dX1_readZone_52 rfl ?_
    obtain ⟨hr11, h⟩ := h
    refine s_X1_87 hX hr11 dX1_readZone_53 (Nat.le_of_ble_eq_true rfl) (ct_X3_addStop (d := d + 2) (lst hX) h) (fun w13 z14 h => ?_)
    exact vw_vret hX hE dX1_readZone_56 ⟨rfl, h⟩
def F_X1_readZone (a0 : Nat) (w : Mm) (z : Nat) (Q : Mm → Nat → Prop) : Prop :=
  ∃ q1, fld w a0 5 0 = some (.ref (q1)) ∧ ∃ v2, fld w q1 7 4 = some (.int (v2)) ∧ (¬ v2 = 12 → B_X1_readZone_34 a0 Q w z) ∧
  (v2 = 12 → ∃ v4, fld w a0 5 5 = some (.int (v4)) ∧ (¬ v4 = 2 → B_X1_readZone_34 a0 Q w z) ∧
  (v4 = 2 → ∃ v6, fld w a0 5 8 = some (.int (v6)) ∧ (3 < v6 → B_X1_readZone_34 a0 Q w z) ∧
  (¬ 3 < v6 → isO w a0 5 ∧ F_X1_fail a0 5 w z (fun r9 w10 z11 => B_X1_readZone_34 a0 Q w10 z11))))
set_option maxRecDepth 100000 in
set_option maxHeartbeats 4000000 in
theorem ct_X1_readZone {l : Launch} {g : Gp} {d : Nat} (hst : l.stackTraces = false) {a0 : Nat} {w : Mm} {z mc ms : Nat} {Q : Mm → Nat → Prop} {X : String → Mm → Nat → Prop} (h : F_X1_readZone a0 w z Q) : Ct l g yX1_readZone (.code yX1_readZone cX1_readZone 2 none) (d + 3) mc ms [.ref (a0)] w z (rV Q) X := by
  refine Ct.of hst (by decide) (Nat.le_of_ble_eq_true rfl) (fun C hX hE hg hl hNm => ?_)
  subst hg
  subst hl
  unfold F_X1_readZone at h
  show VW C 0 [(0, .ref (a0))] [] w z mc ms
  refine vw_aload_n hX 0 dX1_readZone_0 rfl ?_
  obtain ⟨q1, hq1, h⟩ := h
  refine g_X1_19 hX hq1 dX1_readZone_1 ?_
  obtain ⟨v2, hv2, h⟩ := h
  refine g_X1_79 hX hv2 dX1_readZone_4 ?_
  refine vw_bipush hX (v := 12) dX1_readZone_7 (by decide) ?_
  refine vw_icmp_ne hX (tgt := 34) dX1_readZone_9 (by decide) (fun c3 => ?_) (fun c3 => ?_)
  · have h := h.1 c3
    exact pB_X1_readZone_34 hX hE _ _ _ _ h
  · have h := h.2 c3
    refine vw_aload_n hX 0 dX1_readZone_12 rfl ?_
    obtain ⟨v4, hv4, h⟩ := h
    refine g_X1_42 hX hv4 dX1_readZone_13 ?_
    refine vw_iconst hX (v := 2) dX1_readZone_16 (by decide) ?_
    refine vw_icmp_ne hX (tgt := 34) dX1_readZone_17 (by decide) (fun c5 => ?_) (fun c5 => ?_)
    · have h := h.1 c5
      exact pB_X1_readZone_34 hX hE _ _ _ _ h
    · have h := h.2 c5
      refine vw_aload_n hX 0 dX1_readZone_20 rfl ?_
      obtain ⟨v6, hv6, h⟩ := h
      refine g_X1_52 hX hv6 dX1_readZone_21 ?_
      refine vw_iconst hX (v := 3) dX1_readZone_24 (by decide) ?_
      refine vw_icmp_gt hX (tgt := 34) dX1_readZone_25 (by decide) (fun c7 => ?_) (fun c7 => ?_)
      · have h := h.1 c7
        exact pB_X1_readZone_34 hX hE _ _ _ _ h
      · have h := h.2 c7
        refine vw_aload_n hX 0 dX1_readZone_28 rfl ?_
        refine vw_iconst hX (v := 5) dX1_readZone_29 (by decide) ?_
        obtain ⟨hr8, h⟩ := h
        refine s_X1_75 hX hr8 dX1_readZone_30 (Nat.le_of_ble_eq_true rfl) (ct_X1_fail (d := d + 1) (lst hX) h) (fun r9 w10 z11 h => ?_)
        refine vw_pop hX dX1_readZone_33 rfl ?_
        exact pB_X1_readZone_34 hX hE _ _ _ _ h
def B_X1_readSemicolon_35 (a0 : Nat) (a1 : Int32) (Q : Int32 → Mm → Nat → Prop) (w : Mm) (z : Nat) : Prop :=
  isO w a0 5 ∧ F_X1_failed a0 w z (fun r2 w3 z4 => (¬ r2 = 0 → Q 0 w3 z4) ∧
  (r2 = 0 → Q 1 w3 z4))
set_option maxRecDepth 100000 in
set_option maxHeartbeats 4000000 in
theorem pB_X1_readSemicolon_35 {C : Cx} {d : Nat} {a0 : Nat} {a1 : Int32} {Q : Int32 → Mm → Nat → Prop} {X : String → Mm → Nat → Prop} (hX : CX C cX1_readSemicolon RX1 2 (some .boolean) [] (d + 2)) (hE : EQ C (rI Q) X) : ∀  (w : Mm) (z mc ms : Nat), B_X1_readSemicolon_35 a0 a1 Q  w z → VW C 35 [(0, .ref (a0)), (1, .int (a1))] [] w z mc ms := by
  intro  w z mc ms h
  unfold B_X1_readSemicolon_35 at h
  refine vw_aload_n hX 0 dX1_readSemicolon_35 rfl ?_
  obtain ⟨hr1, h⟩ := h
  refine s_X1_35 hX hr1 dX1_readSemicolon_36 (Nat.le_of_ble_eq_true rfl) (ct_X1_failed (d := d + 1) (lst hX) h) (fun r2 w3 z4 h => ?_)
  refine vw_if_ne hX (tgt := 46) dX1_readSemicolon_39 (by decide) (fun c5 => ?_) (fun c5 => ?_)
  · have h := h.1 c5
    refine vw_iconst hX (v := 0) dX1_readSemicolon_46 (by decide) ?_
    exact vw_zret hX hE dX1_readSemicolon_47 rfl ⟨_, rfl, h⟩
  · have h := h.2 c5
    refine vw_iconst hX (v := 1) dX1_readSemicolon_42 (by decide) ?_
    refine vw_goto hX (tgt := 47) dX1_readSemicolon_43 (by decide) ?_
    exact vw_zret hX hE dX1_readSemicolon_47 rfl ⟨_, rfl, h⟩
def F_X1_readSemicolon (a0 : Nat) (a1 : Int32) (w : Mm) (z : Nat) (Q : Int32 → Mm → Nat → Prop) : Prop :=
  ∃ v1, fld w a0 5 5 = some (.int (v1)) ∧ (v1 = 3 → (¬ a1 = 0 → isO w a0 5 ∧ F_X1_advance a0 w z (fun w6 z7 => B_X1_readSemicolon_35 a0 a1 Q w6 z7)) ∧
  (a1 = 0 → isO w a0 5 ∧ F_X1_fail a0 6 w z (fun r9 w10 z11 => B_X1_readSemicolon_35 a0 a1 Q w10 z11))) ∧
  (¬ v1 = 3 → isO w a0 5 ∧ F_X1_fail a0 1 w z (fun r13 w14 z15 => B_X1_readSemicolon_35 a0 a1 Q w14 z15))
set_option maxRecDepth 100000 in
set_option maxHeartbeats 4000000 in
theorem ct_X1_readSemicolon {l : Launch} {g : Gp} {d : Nat} (hst : l.stackTraces = false) {a0 : Nat} {a1 : Int32} {w : Mm} {z mc ms : Nat} {Q : Int32 → Mm → Nat → Prop} {X : String → Mm → Nat → Prop} (h : F_X1_readSemicolon a0 a1 w z Q) : Ct l g yX1_readSemicolon (.code yX1_readSemicolon cX1_readSemicolon 2 (some .boolean)) (d + 2) mc ms [.ref (a0), .int (a1)] w z (rI Q) X := by
  refine Ct.of hst (by decide) (Nat.le_of_ble_eq_true rfl) (fun C hX hE hg hl hNm => ?_)
  subst hg
  subst hl
  unfold F_X1_readSemicolon at h
  show VW C 0 [(0, .ref (a0)), (1, .int (a1))] [] w z mc ms
  refine vw_aload_n hX 0 dX1_readSemicolon_0 rfl ?_
  obtain ⟨v1, hv1, h⟩ := h
  refine g_X1_42 hX hv1 dX1_readSemicolon_1 ?_
  refine vw_iconst hX (v := 3) dX1_readSemicolon_4 (by decide) ?_
  refine vw_icmp_eq hX (tgt := 17) dX1_readSemicolon_5 (by decide) (fun c2 => ?_) (fun c2 => ?_)
  · have h := h.1 c2
    refine vw_iload_n hX 1 dX1_readSemicolon_17 rfl ?_
    refine vw_if_ne hX (tgt := 31) dX1_readSemicolon_18 (by decide) (fun c3 => ?_) (fun c3 => ?_)
    · have h := h.1 c3
      refine vw_aload_n hX 0 dX1_readSemicolon_31 rfl ?_
      obtain ⟨hr4, h⟩ := h
      refine s_X1_32 hX hr4 dX1_readSemicolon_32 (Nat.le_of_ble_eq_true rfl) (ct_X1_advance (d := d + 0) (lst hX) h) (fun w6 z7 h => ?_)
      exact pB_X1_readSemicolon_35 hX hE _ _ _ _ h
    · have h := h.2 c3
      refine vw_aload_n hX 0 dX1_readSemicolon_21 rfl ?_
      refine vw_bipush hX (v := 6) dX1_readSemicolon_22 (by decide) ?_
      obtain ⟨hr8, h⟩ := h
      refine s_X1_75 hX hr8 dX1_readSemicolon_24 (Nat.le_of_ble_eq_true rfl) (ct_X1_fail (d := d + 0) (lst hX) h) (fun r9 w10 z11 h => ?_)
      refine vw_pop hX dX1_readSemicolon_27 rfl ?_
      refine vw_goto hX (tgt := 35) dX1_readSemicolon_28 (by decide) ?_
      exact pB_X1_readSemicolon_35 hX hE _ _ _ _ h
  · have h := h.2 c2
    refine vw_aload_n hX 0 dX1_readSemicolon_8 rfl ?_
    refine vw_iconst hX (v := 1) dX1_readSemicolon_9 (by decide) ?_
    obtain ⟨hr12, h⟩ := h
    refine s_X1_75 hX hr12 dX1_readSemicolon_10 (Nat.le_of_ble_eq_true rfl) (ct_X1_fail (d := d + 0) (lst hX) h) (fun r13 w14 z15 h => ?_)
    refine vw_pop hX dX1_readSemicolon_13 rfl ?_
    refine vw_goto hX (tgt := 35) dX1_readSemicolon_14 (by decide) ?_
    exact pB_X1_readSemicolon_35 hX hE _ _ _ _ h
def B_X1_readLine_49 (a0 : Nat) (Q : Mm → Nat → Prop) (w : Mm) (z : Nat) : Prop :=
  isO w a0 5 ∧ F_X1_readSemicolon a0 1 w z (fun r2 w3 z4 => Q w3 z4)
set_option maxRecDepth 100000 in
set_option maxHeartbeats 4000000 in
theorem pB_X1_readLine_49 {C : Cx} {d : Nat} {a0 : Nat} {Q : Mm → Nat → Prop} {X : String → Mm → Nat → Prop} (hX : CX C cX1_readLine RX1 2 none [] (d + 6)) (hE : EQ C (rV Q) X) : ∀  (w : Mm) (z mc ms : Nat), B_X1_readLine_49 a0 Q  w z → VW C 49 [(0, .ref (a0))] [] w z mc ms := by
  intro  w z mc ms h
  unfold B_X1_readLine_49 at h
  refine vw_aload_n hX 0 dX1_readLine_49 rfl ?_
  refine vw_iconst hX (v := 1) dX1_readLine_50 (by decide) ?_
  obtain ⟨hr1, h⟩ := h
  refine s_X1_100 hX hr1 dX1_readLine_51 (Nat.le_of_ble_eq_true rfl) (ct_X1_readSemicolon (d := d + 3) (lst hX) h) (fun r2 w3 z4 h => ?_)
  refine vw_pop hX dX1_readLine_54 rfl ?_
  exact vw_vret hX hE dX1_readLine_55 ⟨rfl, h⟩
def B_X1_readLine_25 (a0 : Nat) (Q : Mm → Nat → Prop) : Nat → Int32 → Mm → Nat → Prop
  | 0, _, _, _ => False
  | n + 1, x1, w, z => (12 < x1 → B_X1_readLine_49 a0 Q w z) ∧
  (¬ 12 < x1 → ∃ v6, fld w a0 5 5 = some (.int (v6)) ∧ (¬ v6 = 2 → B_X1_readLine_49 a0 Q w z) ∧
  (v6 = 2 → isO w a0 5 ∧ F_X1_readZone a0 w z (fun w10 z11 => B_X1_readLine_25 a0 Q n ((x1 + 1)) w10 z11)))
set_option maxRecDepth 100000 in
set_option maxHeartbeats 4000000 in
theorem pB_X1_readLine_25 {C : Cx} {d : Nat} {a0 : Nat} {Q : Mm → Nat → Prop} {X : String → Mm → Nat → Prop} (hX : CX C cX1_readLine RX1 2 none [] (d + 6)) (hE : EQ C (rV Q) X) : ∀ (n : Nat) (x1 : Int32) (w : Mm) (z mc ms : Nat), B_X1_readLine_25 a0 Q n x1 w z → VW C 25 [(0, .ref (a0)), (1, .int (x1))] [] w z mc ms := by
  intro n
  induction n with
  | zero => intro x1 w z mc ms h; exact False.elim h
  | succ n ih =>
    intro x1 w z mc ms h
    unfold B_X1_readLine_25 at h
    refine vw_iload_n hX 1 dX1_readLine_25 rfl ?_
    refine vw_bipush hX (v := 12) dX1_readLine_26 (by decide) ?_
    refine vw_icmp_gt hX (tgt := 49) dX1_readLine_28 (by decide) (fun c5 => ?_) (fun c5 => ?_)
    · have h := h.1 c5
      exact vw_sub [0] rfl (pB_X1_readLine_49 hX hE _ _ _ _ h)
    · have h := h.2 c5
      refine vw_aload_n hX 0 dX1_readLine_31 rfl ?_
      obtain ⟨v6, hv6, h⟩ := h
      refine g_X1_42 hX hv6 dX1_readLine_32 ?_
      refine vw_iconst hX (v := 2) dX1_readLine_35 (by decide) ?_
      refine vw_icmp_ne hX (tgt := 49) dX1_readLine_36 (by decide) (fun c7 => ?_) (fun c7 => ?_)
      · have h := h.1 c7
        exact vw_sub [0] rfl (pB_X1_readLine_49 hX hE _ _ _ _ h)
      · have h := h.2 c7
        refine vw_aload_n hX 0 dX1_readLine_39 rfl ?_
        obtain ⟨hr8, h⟩ := h
        refine s_X1_97 hX hr8 dX1_readLine_40 (Nat.le_of_ble_eq_true rfl) (ct_X1_readZone (d := d + 2) (lst hX) h) (fun w10 z11 h => ?_)
        refine vw_iinc hX 1 (v := x1 + 1) dX1_readLine_43 rfl rfl (by decide) rfl ?_
        refine vw_goto hX (tgt := 25) dX1_readLine_46 (by decide) ?_
        exact vw_sub [1, 0] rfl (ih _ _ _ _ _ h)
def B_X1_readLine_8 (a0 : Nat) (Q : Mm → Nat → Prop) : Nat → Int32 → Mm → Nat → Prop
  | 0, _, _, _ => False
  | n + 1, x1, w, z => (2 ≤ x1 → ∃ nn, B_X1_readLine_25 a0 Q nn 2 w z) ∧
  (¬ 2 ≤ x1 → isO w a0 5 ∧ F_X1_readZone a0 w z (fun w15 z16 => B_X1_readLine_8 a0 Q n ((x1 + 1)) w15 z16))
set_option maxRecDepth 100000 in
set_option maxHeartbeats 4000000 in
theorem pB_X1_readLine_8 {C : Cx} {d : Nat} {a0 : Nat} {Q : Mm → Nat → Prop} {X : String → Mm → Nat → Prop} (hX : CX C cX1_readLine RX1 2 none [] (d + 6)) (hE : EQ C (rV Q) X) : ∀ (n : Nat) (x1 : Int32) (w : Mm) (z mc ms : Nat), B_X1_readLine_8 a0 Q n x1 w z → VW C 8 [(0, .ref (a0)), (1, .int (x1))] [] w z mc ms := by
  intro n
  induction n with
  | zero => intro x1 w z mc ms h; exact False.elim h
  | succ n ih =>
    intro x1 w z mc ms h
    unfold B_X1_readLine_8 at h
    refine vw_iload_n hX 1 dX1_readLine_8 rfl ?_
    refine vw_iconst hX (v := 2) dX1_readLine_9 (by decide) ?_
    refine vw_icmp_ge hX (tgt := 23) dX1_readLine_10 (by decide) (fun c12 => ?_) (fun c12 => ?_)
    · have h := h.1 c12
      refine vw_iconst hX (v := 2) dX1_readLine_23 (by decide) ?_
      refine vw_istore_n hX dX1_readLine_24 (by decide) rfl ?_
      obtain ⟨nn, h⟩ := h
      exact vw_sub [1, 0] rfl (pB_X1_readLine_25 hX hE nn _ _ _ _ _ h)
    · have h := h.2 c12
      refine vw_aload_n hX 0 dX1_readLine_13 rfl ?_
      obtain ⟨hr13, h⟩ := h
      refine s_X1_97 hX hr13 dX1_readLine_14 (Nat.le_of_ble_eq_true rfl) (ct_X1_readZone (d := d + 2) (lst hX) h) (fun w15 z16 h => ?_)
      refine vw_iinc hX 1 (v := x1 + 1) dX1_readLine_17 rfl rfl (by decide) rfl ?_
      refine vw_goto hX (tgt := 8) dX1_readLine_20 (by decide) ?_
      exact vw_sub [1, 0] rfl (ih _ _ _ _ _ h)
def F_X1_readLine (a0 : Nat) (w : Mm) (z : Nat) (Q : Mm → Nat → Prop) : Prop :=
  ∀ q1, isLit w q1 lit_4 → isO w a0 5 ∧ F_X1_readKeyword a0 q1 w z (fun w4 z5 => ∃ nn, B_X1_readLine_8 a0 Q nn 0 w4 z5)
set_option maxRecDepth 100000 in
set_option maxHeartbeats 4000000 in
theorem ct_X1_readLine {l : Launch} {g : Gp} {d : Nat} (hst : l.stackTraces = false) {a0 : Nat} {w : Mm} {z mc ms : Nat} {Q : Mm → Nat → Prop} {X : String → Mm → Nat → Prop} (h : F_X1_readLine a0 w z Q) : Ct l g yX1_readLine (.code yX1_readLine cX1_readLine 2 none) (d + 6) mc ms [.ref (a0)] w z (rV Q) X := by
  refine Ct.of hst (by decide) (Nat.le_of_ble_eq_true rfl) (fun C hX hE hg hl hNm => ?_)
  subst hg
  subst hl
  unfold F_X1_readLine at h
  show VW C 0 [(0, .ref (a0))] [] w z mc ms
  refine vw_aload_n hX 0 dX1_readLine_0 rfl ?_
  refine l_X1_91 hX dX1_readLine_1 (fun q1 hq1 => ?_)
  have h := h q1 hq1
  obtain ⟨hr2, h⟩ := h
  refine s_X1_93 hX hr2 dX1_readLine_3 (Nat.le_of_ble_eq_true rfl) (ct_X1_readKeyword (d := d + 0) (lst hX) h) (fun w4 z5 h => ?_)
  refine vw_iconst hX (v := 0) dX1_readLine_6 (by decide) ?_
  refine vw_istore_n hX dX1_readLine_7 (by decide) rfl ?_
  obtain ⟨nn, h⟩ := h
  exact vw_sub [1, 0] rfl (pB_X1_readLine_8 hX hE nn _ _ _ _ _ h)
def F_X1_isName (a0 : Nat) (w : Mm) (z : Nat) (Q : Int32 → Mm → Nat → Prop) : Prop :=
  ∃ v1, fld w a0 5 5 = some (.int (v1)) ∧ (¬ v1 = 1 → Q 0 w z) ∧
  (v1 = 1 → ∃ v3, fld w a0 5 7 = some (.int (v3)) ∧ ∃ v4, fld w a0 5 6 = some (.int (v4)) ∧ (6 < ((v3 - v4)) → Q 0 w z) ∧
  (¬ 6 < ((v3 - v4)) → Q 1 w z))
set_option maxRecDepth 100000 in
set_option maxHeartbeats 4000000 in
theorem ct_X1_isName {l : Launch} {g : Gp} {d : Nat} (hst : l.stackTraces = false) {a0 : Nat} {w : Mm} {z mc ms : Nat} {Q : Int32 → Mm → Nat → Prop} {X : String → Mm → Nat → Prop} (h : F_X1_isName a0 w z Q) : Ct l g yX1_isName (.code yX1_isName cX1_isName 1 (some .boolean)) (d + 0) mc ms [.ref (a0)] w z (rI Q) X := by
  refine Ct.of hst (by decide) (Nat.le_of_ble_eq_true rfl) (fun C hX hE hg hl hNm => ?_)
  subst hg
  subst hl
  unfold F_X1_isName at h
  show VW C 0 [(0, .ref (a0))] [] w z mc ms
  refine vw_aload_n hX 0 dX1_isName_0 rfl ?_
  obtain ⟨v1, hv1, h⟩ := h
  refine g_X1_42 hX hv1 dX1_isName_1 ?_
  refine vw_iconst hX (v := 1) dX1_isName_4 (by decide) ?_
  refine vw_icmp_ne hX (tgt := 26) dX1_isName_5 (by decide) (fun c2 => ?_) (fun c2 => ?_)
  · have h := h.1 c2
    refine vw_iconst hX (v := 0) dX1_isName_26 (by decide) ?_
    exact vw_zret hX hE dX1_isName_27 rfl ⟨_, rfl, h⟩
  · have h := h.2 c2
    refine vw_aload_n hX 0 dX1_isName_8 rfl ?_
    obtain ⟨v3, hv3, h⟩ := h
    refine g_X1_29 hX hv3 dX1_isName_9 ?_
    refine vw_aload_n hX 0 dX1_isName_12 rfl ?_
    obtain ⟨v4, hv4, h⟩ := h
    refine g_X1_39 hX hv4 dX1_isName_13 ?_
    refine vw_isub hX dX1_isName_16 ?_
    refine vw_bipush hX (v := 6) dX1_isName_17 (by decide) ?_
    refine vw_icmp_gt hX (tgt := 26) dX1_isName_19 (by decide) (fun c5 => ?_) (fun c5 => ?_)
    · have h := h.1 c5
      refine vw_iconst hX (v := 0) dX1_isName_26 (by decide) ?_
      exact vw_zret hX hE dX1_isName_27 rfl ⟨_, rfl, h⟩
    · have h := h.2 c5
      refine vw_iconst hX (v := 1) dX1_isName_22 (by decide) ?_
      refine vw_goto hX (tgt := 27) dX1_isName_23 (by decide) ?_
      exact vw_zret hX hE dX1_isName_27 rfl ⟨_, rfl, h⟩
def B_X1_findPassenger_2 (a0 : Nat) (Q : Int32 → Mm → Nat → Prop) : Nat → Int32 → Mm → Nat → Prop
  | 0, _, _, _ => False
  | n + 1, x1, w, z => ∃ q1, fld w a0 5 0 = some (.ref (q1)) ∧ ∃ v2, fld w q1 7 5 = some (.int (v2)) ∧ (v2 ≤ x1 → Q (-1) w z) ∧
  (¬ v2 ≤ x1 → ∃ q4, fld w a0 5 0 = some (.ref (q4)) ∧ ∃ q5, fld w q4 7 9 = some (.ref (q5)) ∧ ∃ n7 f6 q8, arR w q5 5 = some (n7, f6) ∧ vp_in x1 n7 ∧ f6 (x1 : Int32).toNatClampNeg = some q8 ∧ ∃ q9, fld w q8 6 0 = some (.ref (q9)) ∧ isO w a0 5 ∧ F_X1_tokenIs a0 q9 w z (fun r11 w12 z13 => (r11 = 0 → B_X1_findPassenger_2 a0 Q n ((x1 + 1)) w12 z13) ∧
  (¬ r11 = 0 → Q x1 w12 z13)))
set_option maxRecDepth 100000 in
set_option maxHeartbeats 4000000 in
theorem pB_X1_findPassenger_2 {C : Cx} {d : Nat} {a0 : Nat} {Q : Int32 → Mm → Nat → Prop} {X : String → Mm → Nat → Prop} (hX : CX C cX1_findPassenger RX1 2 (some .int) [] (d + 5)) (hE : EQ C (rI Q) X) : ∀ (n : Nat) (x1 : Int32) (w : Mm) (z mc ms : Nat), B_X1_findPassenger_2 a0 Q n x1 w z → VW C 2 [(0, .ref (a0)), (1, .int (x1))] [] w z mc ms := by
  intro n
  induction n with
  | zero => intro x1 w z mc ms h; exact False.elim h
  | succ n ih =>
    intro x1 w z mc ms h
    unfold B_X1_findPassenger_2 at h
    refine vw_iload_n hX 1 dX1_findPassenger_2 rfl ?_
    refine vw_aload_n hX 0 dX1_findPassenger_3 rfl ?_
    obtain ⟨q1, hq1, h⟩ := h
    refine g_X1_19 hX hq1 dX1_findPassenger_4 ?_
    obtain ⟨v2, hv2, h⟩ := h
    refine g_X1_109 hX hv2 dX1_findPassenger_7 ?_
    refine vw_icmp_ge hX (tgt := 40) dX1_findPassenger_10 (by decide) (fun c3 => ?_) (fun c3 => ?_)
    · have h := h.1 c3
      refine vw_iconst hX (v := (-1)) dX1_findPassenger_40 (by decide) ?_
      exact vw_iret hX hE dX1_findPassenger_41 ⟨_, rfl, h⟩
    · have h := h.2 c3
      refine vw_aload_n hX 0 dX1_findPassenger_13 rfl ?_
      refine vw_aload_n hX 0 dX1_findPassenger_14 rfl ?_
      obtain ⟨q4, hq4, h⟩ := h
      refine g_X1_19 hX hq4 dX1_findPassenger_15 ?_
      obtain ⟨q5, hq5, h⟩ := h
      refine g_X1_139 hX hq5 dX1_findPassenger_18 ?_
      refine vw_iload_n hX 1 dX1_findPassenger_21 rfl ?_
      obtain ⟨n7, f6, q8, hf6, hif6, hqf6, h⟩ := h
      refine vw_aald hX 5 (by decide) rfl hf6 hif6 hqf6 dX1_findPassenger_22 ?_
      obtain ⟨q9, hq9, h⟩ := h
      refine g_X1_143 hX hq9 dX1_findPassenger_23 ?_
      obtain ⟨hr10, h⟩ := h
      refine s_X1_71 hX hr10 dX1_findPassenger_26 (Nat.le_of_ble_eq_true rfl) (ct_X1_tokenIs (d := d + 0) (lst hX) h) (fun r11 w12 z13 h => ?_)
      refine vw_if_eq hX (tgt := 34) dX1_findPassenger_29 (by decide) (fun c14 => ?_) (fun c14 => ?_)
      · have h := h.1 c14
        refine vw_iinc hX 1 (v := x1 + 1) dX1_findPassenger_34 rfl rfl (by decide) rfl ?_
        refine vw_goto hX (tgt := 2) dX1_findPassenger_37 (by decide) ?_
        exact vw_sub [1, 0] rfl (ih _ _ _ _ _ h)
      · have h := h.2 c14
        refine vw_iload_n hX 1 dX1_findPassenger_32 rfl ?_
        exact vw_iret hX hE dX1_findPassenger_33 ⟨_, rfl, h⟩
def F_X1_findPassenger (a0 : Nat) (w : Mm) (z : Nat) (Q : Int32 → Mm → Nat → Prop) : Prop :=
  ∃ nn, B_X1_findPassenger_2 a0 Q nn 0 w z
set_option maxRecDepth 100000 in
set_option maxHeartbeats 4000000 in
theorem ct_X1_findPassenger {l : Launch} {g : Gp} {d : Nat} (hst : l.stackTraces = false) {a0 : Nat} {w : Mm} {z mc ms : Nat} {Q : Int32 → Mm → Nat → Prop} {X : String → Mm → Nat → Prop} (h : F_X1_findPassenger a0 w z Q) : Ct l g yX1_findPassenger (.code yX1_findPassenger cX1_findPassenger 2 (some .int)) (d + 5) mc ms [.ref (a0)] w z (rI Q) X := by
  refine Ct.of hst (by decide) (Nat.le_of_ble_eq_true rfl) (fun C hX hE hg hl hNm => ?_)
  subst hg
  subst hl
  unfold F_X1_findPassenger at h
  show VW C 0 [(0, .ref (a0))] [] w z mc ms
  refine vw_iconst hX (v := 0) dX1_findPassenger_0 (by decide) ?_
  refine vw_istore_n hX dX1_findPassenger_1 (by decide) rfl ?_
  obtain ⟨nn, h⟩ := h
  exact vw_sub [1, 0] rfl (pB_X1_findPassenger_2 hX hE nn _ _ _ _ _ h)
def B_X1_readNewName_53 (a0 : Nat) (Q : Nat → Mm → Nat → Prop) : Nat → Nat → Int32 → Mm → Nat → Nat → Nat → Prop
  | 0, _, _, _, _, _, _ => False
  | n + 1, x1, x2, w, z, mc, ms => ∃ v1, fld w a0 5 7 = some (.int (v1)) ∧ (v1 ≤ x2 → isO w a0 5 ∧ F_X1_advance a0 w z (fun w5 z6 => isO w5 x1 1 ∧ ∃ k11 k12, k11 ≤ mc ∧ k12 ≤ ms ∧ F_J4_toString_0e30d x1 w5 z6 k11 k12 (fun r8 w9 z10 => Q r8 w9 z10))) ∧
  (¬ v1 ≤ x2 → ∃ q13, fld w a0 5 1 = some (.ref (q13)) ∧ ∃ n15 f14, arI w q13 1 = some (n15, f14) ∧ vp_in x2 n15 ∧ isO w x1 1 ∧ ∃ k20 k21, k20 ≤ mc ∧ k21 ≤ ms ∧ F_J4_append_cf468 x1 ((((f14 (x2 : Int32).toNatClampNeg) : Int32).toUInt32 % 65536).toInt32) w z k20 k21 (fun r17 w18 z19 => B_X1_readNewName_53 a0 Q n x1 ((x2 + 1)) w18 z19 ((mc - k20)) ((ms - k21))))
set_option maxRecDepth 100000 in
set_option maxHeartbeats 4000000 in
theorem pB_X1_readNewName_53 {C : Cx} {d : Nat} {a0 : Nat} {Q : Nat → Mm → Nat → Prop} {X : String → Mm → Nat → Prop} (hX : CX C cX1_readNewName RX1 3 (some (.object "java/lang/String")) [] (d + 7)) (hE : EQ C (rR Q) X) : ∀ (n : Nat) (x1 : Nat) (x2 : Int32) (w : Mm) (z mc ms : Nat), B_X1_readNewName_53 a0 Q n x1 x2 w z mc ms → VW C 53 [(0, .ref (a0)), (1, .ref (x1)), (2, .int (x2))] [] w z mc ms := by
  intro n
  induction n with
  | zero => intro x1 x2 w z mc ms h; exact False.elim h
  | succ n ih =>
    intro x1 x2 w z mc ms h
    unfold B_X1_readNewName_53 at h
    refine vw_iload_n hX 2 dX1_readNewName_53 rfl ?_
    refine vw_aload_n hX 0 dX1_readNewName_54 rfl ?_
    obtain ⟨v1, hv1, h⟩ := h
    refine g_X1_29 hX hv1 dX1_readNewName_55 ?_
    refine vw_icmp_ge hX (tgt := 79) dX1_readNewName_58 (by decide) (fun c2 => ?_) (fun c2 => ?_)
    · have h := h.1 c2
      refine vw_aload_n hX 0 dX1_readNewName_79 rfl ?_
      obtain ⟨hr3, h⟩ := h
      refine s_X1_32 hX hr3 dX1_readNewName_80 (Nat.le_of_ble_eq_true rfl) (ct_X1_advance (d := d + 5) (lst hX) h) (fun w5 z6 h => ?_)
      refine vw_aload_n hX 1 dX1_readNewName_83 rfl ?_
      obtain ⟨hr7, h⟩ := h
      obtain ⟨k11, k12, hm1, hm2, h⟩ := h
      refine s_X1_136 hX hr7 dX1_readNewName_84 (Nat.le_of_ble_eq_true rfl) hm1 hm2 (ct_J4_toString_0e30d (d := d + 0) (lst hX) h) (fun r8 w9 z10 h => ?_)
      exact vw_aret hX hE (Or.inl ⟨_, rfl⟩) dX1_readNewName_87 ⟨_, rfl, h⟩
    · have h := h.2 c2
      refine vw_aload_n hX 1 dX1_readNewName_61 rfl ?_
      refine vw_aload_n hX 0 dX1_readNewName_62 rfl ?_
      obtain ⟨q13, hq13, h⟩ := h
      refine g_X1_9 hX hq13 dX1_readNewName_63 ?_
      refine vw_iload_n hX 2 dX1_readNewName_66 rfl ?_
      obtain ⟨n15, f14, hf14, hif14, h⟩ := h
      refine vw_bald hX hf14 hif14 dX1_readNewName_67 ?_
      refine vw_i2c hX dX1_readNewName_68 ?_
      obtain ⟨hr16, h⟩ := h
      obtain ⟨k20, k21, hm1, hm2, h⟩ := h
      refine s_X1_132 hX hr16 dX1_readNewName_69 (Nat.le_of_ble_eq_true rfl) hm1 hm2 (ct_J4_append_cf468 (d := d + 1) (lst hX) h) (fun r17 w18 z19 h => ?_)
      refine vw_pop hX dX1_readNewName_72 rfl ?_
      refine vw_iinc hX 2 (v := x2 + 1) dX1_readNewName_73 rfl rfl (by decide) rfl ?_
      refine vw_goto hX (tgt := 53) dX1_readNewName_76 (by decide) ?_
      exact vw_sub [1, 2, 0] rfl (ih _ _ _ _ _ _ h)
def B_X1_readNewName_30 (a0 : Nat) (Q : Nat → Mm → Nat → Prop) (w : Mm) (z : Nat) (mc : Nat) (ms : Nat) : Prop :=
  isO w a0 5 ∧ F_X1_failed a0 w z (fun r23 w24 z25 => (r23 = 0 → 1 ≤ mc ∧ 4 ≤ ms ∧ ∀ w27, w27 = mset w24 z25 (.inl (1, [.null, .int 0, .int 0, .int 0])) → ∃ k31 k32, k31 ≤ (mc - 1) ∧ k32 ≤ (ms - 4) ∧ F_J4_init_da8c8 z25 w27 ((z25 + 1)) k31 k32 (fun w29 z30 => ∃ v33, fld w29 a0 5 6 = some (.int (v33)) ∧ ∃ nn, B_X1_readNewName_53 a0 Q nn z25 v33 w29 z30 (((mc - 1) - k31)) (((ms - 4) - k32)))) ∧
  (¬ r23 = 0 → ∀ q34, isLit w24 q34 lit_0 → Q q34 w24 z25))
set_option maxRecDepth 100000 in
set_option maxHeartbeats 4000000 in
theorem pB_X1_readNewName_30 {C : Cx} {d : Nat} {a0 : Nat} {Q : Nat → Mm → Nat → Prop} {X : String → Mm → Nat → Prop} (hX : CX C cX1_readNewName RX1 3 (some (.object "java/lang/String")) [] (d + 7)) (hE : EQ C (rR Q) X) : ∀  (w : Mm) (z mc ms : Nat), B_X1_readNewName_30 a0 Q  w z mc ms → VW C 30 [(0, .ref (a0))] [] w z mc ms := by
  intro  w z mc ms h
  unfold B_X1_readNewName_30 at h
  refine vw_aload_n hX 0 dX1_readNewName_30 rfl ?_
  obtain ⟨hr22, h⟩ := h
  refine s_X1_35 hX hr22 dX1_readNewName_31 (Nat.le_of_ble_eq_true rfl) (ct_X1_failed (d := d + 6) (lst hX) h) (fun r23 w24 z25 h => ?_)
  refine vw_if_eq hX (tgt := 40) dX1_readNewName_34 (by decide) (fun c26 => ?_) (fun c26 => ?_)
  · have h := h.1 c26
    obtain ⟨hm1, hm2, h⟩ := h
    refine n_X1_129 hX hm1 hm2 dX1_readNewName_40 ?_
    refine vw_nmW (fun w27 ew27 => ?_)
    have h := h w27 ew27
    refine vw_dup hX dX1_readNewName_43 rfl ?_
    obtain ⟨k31, k32, hm1, hm2, h⟩ := h
    refine s_X1_131 hX dX1_readNewName_44 (Nat.le_of_ble_eq_true rfl) hm1 hm2 (ct_J4_init_da8c8 (d := d + 4) (lst hX) h) (fun w29 z30 h => ?_)
    refine vw_astore_n hX dX1_readNewName_47 (by decide) rfl ?_
    refine vw_aload_n hX 1 dX1_readNewName_48 rfl ?_
    obtain ⟨v33, hv33, h⟩ := h
    refine g_X1_39 hX hv33 dX1_readNewName_49 ?_
    refine vw_istore_n hX dX1_readNewName_52 (by decide) rfl ?_
    obtain ⟨nn, h⟩ := h
    exact vw_sub [2, 1, 0] rfl (pB_X1_readNewName_53 hX hE nn _ _ _ _ _ _ h)
  · have h := h.2 c26
    refine l_X1_127 hX dX1_readNewName_37 (fun q34 hq34 => ?_)
    have h := h q34 hq34
    exact vw_aret hX hE (Or.inl ⟨_, rfl⟩) dX1_readNewName_39 ⟨_, rfl, h⟩
def F_X1_readNewName (a0 : Nat) (w : Mm) (z : Nat) (mc ms : Nat) (Q : Nat → Mm → Nat → Prop) : Prop :=
  isO w a0 5 ∧ F_X1_isName a0 w z (fun r2 w3 z4 => (¬ r2 = 0 → isO w3 a0 5 ∧ F_X1_findPassenger a0 w3 z4 (fun r7 w8 z9 => (r7 = (-1) → B_X1_readNewName_30 a0 Q w8 z9 mc ms) ∧
  (¬ r7 = (-1) → isO w8 a0 5 ∧ F_X1_fail a0 4 w8 z9 (fun r12 w13 z14 => B_X1_readNewName_30 a0 Q w13 z14 mc ms)))) ∧
  (r2 = 0 → isO w3 a0 5 ∧ F_X1_fail a0 1 w3 z4 (fun r16 w17 z18 => B_X1_readNewName_30 a0 Q w17 z18 mc ms)))
set_option maxRecDepth 100000 in
set_option maxHeartbeats 4000000 in
theorem ct_X1_readNewName {l : Launch} {g : Gp} {d : Nat} (hst : l.stackTraces = false) {a0 : Nat} {w : Mm} {z mc ms : Nat} {Q : Nat → Mm → Nat → Prop} {X : String → Mm → Nat → Prop} (h : F_X1_readNewName a0 w z mc ms Q) : Ct l g yX1_readNewName (.code yX1_readNewName cX1_readNewName 3 (some (.object "java/lang/String"))) (d + 7) mc ms [.ref (a0)] w z (rR Q) X := by
  refine Ct.of hst (by decide) (Nat.le_of_ble_eq_true rfl) (fun C hX hE hg hl hNm => ?_)
  subst hg
  subst hl
  unfold F_X1_readNewName at h
  show VW C 0 [(0, .ref (a0))] [] w z mc ms
  refine vw_aload_n hX 0 dX1_readNewName_0 rfl ?_
  obtain ⟨hr1, h⟩ := h
  refine s_X1_121 hX hr1 dX1_readNewName_1 (Nat.le_of_ble_eq_true rfl) (ct_X1_isName (d := d + 6) (lst hX) h) (fun r2 w3 z4 h => ?_)
  refine vw_if_ne hX (tgt := 16) dX1_readNewName_4 (by decide) (fun c5 => ?_) (fun c5 => ?_)
  · have h := h.1 c5
    refine vw_aload_n hX 0 dX1_readNewName_16 rfl ?_
    obtain ⟨hr6, h⟩ := h
    refine s_X1_124 hX hr6 dX1_readNewName_17 (Nat.le_of_ble_eq_true rfl) (ct_X1_findPassenger (d := d + 1) (lst hX) h) (fun r7 w8 z9 h => ?_)
    refine vw_iconst hX (v := (-1)) dX1_readNewName_20 (by decide) ?_
    refine vw_icmp_eq hX (tgt := 30) dX1_readNewName_21 (by decide) (fun c10 => ?_) (fun c10 => ?_)
    · have h := h.1 c10
      exact pB_X1_readNewName_30 hX hE _ _ _ _ h
    · have h := h.2 c10
      refine vw_aload_n hX 0 dX1_readNewName_24 rfl ?_
      refine vw_iconst hX (v := 4) dX1_readNewName_25 (by decide) ?_
      obtain ⟨hr11, h⟩ := h
      refine s_X1_75 hX hr11 dX1_readNewName_26 (Nat.le_of_ble_eq_true rfl) (ct_X1_fail (d := d + 5) (lst hX) h) (fun r12 w13 z14 h => ?_)
      refine vw_pop hX dX1_readNewName_29 rfl ?_
      exact pB_X1_readNewName_30 hX hE _ _ _ _ h
  · have h := h.2 c5
    refine vw_aload_n hX 0 dX1_readNewName_7 rfl ?_
    refine vw_iconst hX (v := 1) dX1_readNewName_8 (by decide) ?_
    obtain ⟨hr15, h⟩ := h
    refine s_X1_75 hX hr15 dX1_readNewName_9 (Nat.le_of_ble_eq_true rfl) (ct_X1_fail (d := d + 5) (lst hX) h) (fun r16 w17 z18 h => ?_)
    refine vw_pop hX dX1_readNewName_12 rfl ?_
    refine vw_goto hX (tgt := 30) dX1_readNewName_13 (by decide) ?_
    exact pB_X1_readNewName_30 hX hE _ _ _ _ h
def B_X1_readPassenger_27 (a0 : Nat) (Q : Mm → Nat → Prop) (w : Mm) (z : Nat) (mc : Nat) (ms : Nat) : Prop :=
  ∀ q1, isLit w q1 lit_5 → isO w a0 5 ∧ F_X1_readKeyword a0 q1 w z (fun w4 z5 => isO w4 a0 5 ∧ ∃ k10 k11, k10 ≤ mc ∧ k11 ≤ ms ∧ F_X1_readNewName a0 w4 z5 k10 k11 (fun r7 w8 z9 => isO w8 a0 5 ∧ F_X1_readNumber a0 0 99999 w8 z9 (fun r13 w14 z15 => isO w14 a0 5 ∧ F_X1_readSemicolon a0 1 w14 z15 (fun r17 w18 z19 => (r17 = 0 → Q w18 z19) ∧
  (¬ r17 = 0 → ∃ q21, fld w18 a0 5 0 = some (.ref (q21)) ∧ isO w18 q21 7 ∧ F_X3_addPassenger q21 r7 r13 w18 z19 (fun w24 z25 => Q w24 z25))))))
set_option maxRecDepth 100000 in
set_option maxHeartbeats 4000000 in
theorem pB_X1_readPassenger_27 {C : Cx} {d : Nat} {a0 : Nat} {Q : Mm → Nat → Prop} {X : String → Mm → Nat → Prop} (hX : CX C cX1_readPassenger RX1 3 none [] (d + 8)) (hE : EQ C (rV Q) X) : ∀  (w : Mm) (z mc ms : Nat), B_X1_readPassenger_27 a0 Q  w z mc ms → VW C 27 [(0, .ref (a0))] [] w z mc ms := by
  intro  w z mc ms h
  unfold B_X1_readPassenger_27 at h
  refine vw_aload_n hX 0 dX1_readPassenger_27 rfl ?_
  refine l_X1_107 hX dX1_readPassenger_28 (fun q1 hq1 => ?_)
  have h := h q1 hq1
  obtain ⟨hr2, h⟩ := h
  refine s_X1_93 hX hr2 dX1_readPassenger_30 (Nat.le_of_ble_eq_true rfl) (ct_X1_readKeyword (d := d + 2) (lst hX) h) (fun w4 z5 h => ?_)
  refine vw_aload_n hX 0 dX1_readPassenger_33 rfl ?_
  obtain ⟨hr6, h⟩ := h
  obtain ⟨k10, k11, hm1, hm2, h⟩ := h
  refine s_X1_112 hX hr6 dX1_readPassenger_34 (Nat.le_of_ble_eq_true rfl) hm1 hm2 (ct_X1_readNewName (d := d + 0) (lst hX) h) (fun r7 w8 z9 h => ?_)
  refine vw_astore_n hX dX1_readPassenger_37 (by decide) rfl ?_
  refine vw_aload_n hX 1 dX1_readPassenger_38 rfl ?_
  refine vw_iconst hX (v := 0) dX1_readPassenger_39 (by decide) ?_
  refine vw_ldcI hX kw_726 dX1_readPassenger_40 ?_
  obtain ⟨hr12, h⟩ := h
  refine s_X1_84 hX hr12 dX1_readPassenger_42 (Nat.le_of_ble_eq_true rfl) (ct_X1_readNumber (d := d + 5) (lst hX) h) (fun r13 w14 z15 h => ?_)
  refine vw_istore_n hX dX1_readPassenger_45 (by decide) rfl ?_
  refine vw_aload_n hX 2 dX1_readPassenger_46 rfl ?_
  refine vw_iconst hX (v := 1) dX1_readPassenger_47 (by decide) ?_
  obtain ⟨hr16, h⟩ := h
  refine s_X1_100 hX hr16 dX1_readPassenger_48 (Nat.le_of_ble_eq_true rfl) (ct_X1_readSemicolon (d := d + 5) (lst hX) h) (fun r17 w18 z19 h => ?_)
  refine vw_if_eq hX (tgt := 63) dX1_readPassenger_51 (by decide) (fun c20 => ?_) (fun c20 => ?_)
  · have h := h.1 c20
    exact vw_vret hX hE dX1_readPassenger_63 ⟨rfl, h⟩
  · have h := h.2 c20
    refine vw_aload_n hX 2 dX1_readPassenger_54 rfl ?_
    obtain ⟨q21, hq21, h⟩ := h
    refine g_X1_19 hX hq21 dX1_readPassenger_55 ?_
    refine vw_aload_n hX 1 dX1_readPassenger_58 rfl ?_
    refine vw_iload_n hX 0 dX1_readPassenger_59 rfl ?_
    obtain ⟨hr22, h⟩ := h
    refine s_X1_117 hX hr22 dX1_readPassenger_60 (Nat.le_of_ble_eq_true rfl) (ct_X3_addPassenger (d := d + 5) (lst hX) h) (fun w24 z25 h => ?_)
    exact vw_vret hX hE dX1_readPassenger_63 ⟨rfl, h⟩
def F_X1_readPassenger (a0 : Nat) (w : Mm) (z : Nat) (mc ms : Nat) (Q : Mm → Nat → Prop) : Prop :=
  ∃ q1, fld w a0 5 0 = some (.ref (q1)) ∧ ∃ v2, fld w q1 7 5 = some (.int (v2)) ∧ (¬ v2 = 8 → B_X1_readPassenger_27 a0 Q w z mc ms) ∧
  (v2 = 8 → ∀ q4, isLit w q4 lit_5 → isO w a0 5 ∧ F_X1_tokenIs a0 q4 w z (fun r6 w7 z8 => (r6 = 0 → B_X1_readPassenger_27 a0 Q w7 z8 mc ms) ∧
  (¬ r6 = 0 → isO w7 a0 5 ∧ F_X1_fail a0 5 w7 z8 (fun r11 w12 z13 => B_X1_readPassenger_27 a0 Q w12 z13 mc ms))))
set_option maxRecDepth 100000 in
set_option maxHeartbeats 4000000 in
theorem ct_X1_readPassenger {l : Launch} {g : Gp} {d : Nat} (hst : l.stackTraces = false) {a0 : Nat} {w : Mm} {z mc ms : Nat} {Q : Mm → Nat → Prop} {X : String → Mm → Nat → Prop} (h : F_X1_readPassenger a0 w z mc ms Q) : Ct l g yX1_readPassenger (.code yX1_readPassenger cX1_readPassenger 3 none) (d + 8) mc ms [.ref (a0)] w z (rV Q) X := by
  refine Ct.of hst (by decide) (Nat.le_of_ble_eq_true rfl) (fun C hX hE hg hl hNm => ?_)
  subst hg
  subst hl
  unfold F_X1_readPassenger at h
  show VW C 0 [(0, .ref (a0))] [] w z mc ms
  refine vw_aload_n hX 0 dX1_readPassenger_0 rfl ?_
  obtain ⟨q1, hq1, h⟩ := h
  refine g_X1_19 hX hq1 dX1_readPassenger_1 ?_
  obtain ⟨v2, hv2, h⟩ := h
  refine g_X1_109 hX hv2 dX1_readPassenger_4 ?_
  refine vw_bipush hX (v := 8) dX1_readPassenger_7 (by decide) ?_
  refine vw_icmp_ne hX (tgt := 27) dX1_readPassenger_9 (by decide) (fun c3 => ?_) (fun c3 => ?_)
  · have h := h.1 c3
    exact pB_X1_readPassenger_27 hX hE _ _ _ _ h
  · have h := h.2 c3
    refine vw_aload_n hX 0 dX1_readPassenger_12 rfl ?_
    refine l_X1_107 hX dX1_readPassenger_13 (fun q4 hq4 => ?_)
    have h := h q4 hq4
    obtain ⟨hr5, h⟩ := h
    refine s_X1_71 hX hr5 dX1_readPassenger_15 (Nat.le_of_ble_eq_true rfl) (ct_X1_tokenIs (d := d + 3) (lst hX) h) (fun r6 w7 z8 h => ?_)
    refine vw_if_eq hX (tgt := 27) dX1_readPassenger_18 (by decide) (fun c9 => ?_) (fun c9 => ?_)
    · have h := h.1 c9
      exact pB_X1_readPassenger_27 hX hE _ _ _ _ h
    · have h := h.2 c9
      refine vw_aload_n hX 0 dX1_readPassenger_21 rfl ?_
      refine vw_iconst hX (v := 5) dX1_readPassenger_22 (by decide) ?_
      obtain ⟨hr10, h⟩ := h
      refine s_X1_75 hX hr10 dX1_readPassenger_23 (Nat.le_of_ble_eq_true rfl) (ct_X1_fail (d := d + 6) (lst hX) h) (fun r11 w12 z13 h => ?_)
      refine vw_pop hX dX1_readPassenger_26 rfl ?_
      exact pB_X1_readPassenger_27 hX hE _ _ _ _ h
def B_X1_readPassengers_6 (a0 : Nat) (Q : Mm → Nat → Prop) : Nat → Int32 → Mm → Nat → Nat → Nat → Prop
  | 0, _, _, _, _, _ => False
  | n + 1, x1, w, z, mc, ms => (8 < x1 → Q w z) ∧
  (¬ 8 < x1 → ∀ q2, isLit w q2 lit_5 → isO w a0 5 ∧ F_X1_tokenIs a0 q2 w z (fun r4 w5 z6 => (r4 = 0 → Q w5 z6) ∧
  (¬ r4 = 0 → isO w5 a0 5 ∧ ∃ k12 k13, k12 ≤ mc ∧ k13 ≤ ms ∧ F_X1_readPassenger a0 w5 z6 k12 k13 (fun w10 z11 => B_X1_readPassengers_6 a0 Q n ((x1 + 1)) w10 z11 ((mc - k12)) ((ms - k13))))))
set_option maxRecDepth 100000 in
set_option maxHeartbeats 4000000 in
theorem pB_X1_readPassengers_6 {C : Cx} {d : Nat} {a0 : Nat} {Q : Mm → Nat → Prop} {X : String → Mm → Nat → Prop} (hX : CX C cX1_readPassengers RX1 2 none [] (d + 9)) (hE : EQ C (rV Q) X) : ∀ (n : Nat) (x1 : Int32) (w : Mm) (z mc ms : Nat), B_X1_readPassengers_6 a0 Q n x1 w z mc ms → VW C 6 [(0, .ref (a0)), (1, .int (x1))] [] w z mc ms := by
  intro n
  induction n with
  | zero => intro x1 w z mc ms h; exact False.elim h
  | succ n ih =>
    intro x1 w z mc ms h
    unfold B_X1_readPassengers_6 at h
    refine vw_iload_n hX 1 dX1_readPassengers_6 rfl ?_
    refine vw_bipush hX (v := 8) dX1_readPassengers_7 (by decide) ?_
    refine vw_icmp_gt hX (tgt := 31) dX1_readPassengers_9 (by decide) (fun c1 => ?_) (fun c1 => ?_)
    · have h := h.1 c1
      exact vw_vret hX hE dX1_readPassengers_31 ⟨rfl, h⟩
    · have h := h.2 c1
      refine vw_aload_n hX 0 dX1_readPassengers_12 rfl ?_
      refine l_X1_107 hX dX1_readPassengers_13 (fun q2 hq2 => ?_)
      have h := h q2 hq2
      obtain ⟨hr3, h⟩ := h
      refine s_X1_71 hX hr3 dX1_readPassengers_15 (Nat.le_of_ble_eq_true rfl) (ct_X1_tokenIs (d := d + 4) (lst hX) h) (fun r4 w5 z6 h => ?_)
      refine vw_if_eq hX (tgt := 31) dX1_readPassengers_18 (by decide) (fun c7 => ?_) (fun c7 => ?_)
      · have h := h.1 c7
        exact vw_vret hX hE dX1_readPassengers_31 ⟨rfl, h⟩
      · have h := h.2 c7
        refine vw_aload_n hX 0 dX1_readPassengers_21 rfl ?_
        obtain ⟨hr8, h⟩ := h
        obtain ⟨k12, k13, hm1, hm2, h⟩ := h
        refine s_X1_104 hX hr8 dX1_readPassengers_22 (Nat.le_of_ble_eq_true rfl) hm1 hm2 (ct_X1_readPassenger (d := d + 0) (lst hX) h) (fun w10 z11 h => ?_)
        refine vw_iinc hX 1 (v := x1 + 1) dX1_readPassengers_25 rfl rfl (by decide) rfl ?_
        refine vw_goto hX (tgt := 6) dX1_readPassengers_28 (by decide) ?_
        exact vw_sub [1, 0] rfl (ih _ _ _ _ _ h)
def F_X1_readPassengers (a0 : Nat) (w : Mm) (z : Nat) (mc ms : Nat) (Q : Mm → Nat → Prop) : Prop :=
  isO w a0 5 ∧ ∃ k5 k6, k5 ≤ mc ∧ k6 ≤ ms ∧ F_X1_readPassenger a0 w z k5 k6 (fun w3 z4 => ∃ nn, B_X1_readPassengers_6 a0 Q nn 1 w3 z4 ((mc - k5)) ((ms - k6)))
set_option maxRecDepth 100000 in
set_option maxHeartbeats 4000000 in
theorem ct_X1_readPassengers {l : Launch} {g : Gp} {d : Nat} (hst : l.stackTraces = false) {a0 : Nat} {w : Mm} {z mc ms : Nat} {Q : Mm → Nat → Prop} {X : String → Mm → Nat → Prop} (h : F_X1_readPassengers a0 w z mc ms Q) : Ct l g yX1_readPassengers (.code yX1_readPassengers cX1_readPassengers 2 none) (d + 9) mc ms [.ref (a0)] w z (rV Q) X := by
  refine Ct.of hst (by decide) (Nat.le_of_ble_eq_true rfl) (fun C hX hE hg hl hNm => ?_)
  subst hg
  subst hl
  unfold F_X1_readPassengers at h
  show VW C 0 [(0, .ref (a0))] [] w z mc ms
  refine vw_aload_n hX 0 dX1_readPassengers_0 rfl ?_
  obtain ⟨hr1, h⟩ := h
  obtain ⟨k5, k6, hm1, hm2, h⟩ := h
  refine s_X1_104 hX hr1 dX1_readPassengers_1 (Nat.le_of_ble_eq_true rfl) hm1 hm2 (ct_X1_readPassenger (d := d + 0) (lst hX) h) (fun w3 z4 h => ?_)
  refine vw_iconst hX (v := 1) dX1_readPassengers_4 (by decide) ?_
  refine vw_istore_n hX dX1_readPassengers_5 (by decide) rfl ?_
  obtain ⟨nn, h⟩ := h
  exact vw_sub [1, 0] rfl (pB_X1_readPassengers_6 hX hE nn _ _ _ _ _ h)
def F_X1_readKnownName (a0 : Nat) (w : Mm) (z : Nat) (Q : Int32 → Mm → Nat → Prop) : Prop :=
  isO w a0 5 ∧ F_X1_isName a0 w z (fun r2 w3 z4 => (¬ r2 = 0 → isO w3 a0 5 ∧ F_X1_findPassenger a0 w3 z4 (fun r7 w8 z9 => (¬ r7 = (-1) → isO w8 a0 5 ∧ F_X1_advance a0 w8 z9 (fun w13 z14 => Q r7 w13 z14)) ∧
  (r7 = (-1) → isO w8 a0 5 ∧ F_X1_fail a0 3 w8 z9 (fun r16 w17 z18 => Q r16 w17 z18)))) ∧
  (r2 = 0 → isO w3 a0 5 ∧ F_X1_fail a0 1 w3 z4 (fun r20 w21 z22 => Q r20 w21 z22)))
set_option maxRecDepth 100000 in
set_option maxHeartbeats 4000000 in
theorem ct_X1_readKnownName {l : Launch} {g : Gp} {d : Nat} (hst : l.stackTraces = false) {a0 : Nat} {w : Mm} {z mc ms : Nat} {Q : Int32 → Mm → Nat → Prop} {X : String → Mm → Nat → Prop} (h : F_X1_readKnownName a0 w z Q) : Ct l g yX1_readKnownName (.code yX1_readKnownName cX1_readKnownName 2 (some .int)) (d + 6) mc ms [.ref (a0)] w z (rI Q) X := by
  refine Ct.of hst (by decide) (Nat.le_of_ble_eq_true rfl) (fun C hX hE hg hl hNm => ?_)
  subst hg
  subst hl
  unfold F_X1_readKnownName at h
  show VW C 0 [(0, .ref (a0))] [] w z mc ms
  refine vw_aload_n hX 0 dX1_readKnownName_0 rfl ?_
  obtain ⟨hr1, h⟩ := h
  refine s_X1_121 hX hr1 dX1_readKnownName_1 (Nat.le_of_ble_eq_true rfl) (ct_X1_isName (d := d + 5) (lst hX) h) (fun r2 w3 z4 h => ?_)
  refine vw_if_ne hX (tgt := 13) dX1_readKnownName_4 (by decide) (fun c5 => ?_) (fun c5 => ?_)
  · have h := h.1 c5
    refine vw_aload_n hX 0 dX1_readKnownName_13 rfl ?_
    obtain ⟨hr6, h⟩ := h
    refine s_X1_124 hX hr6 dX1_readKnownName_14 (Nat.le_of_ble_eq_true rfl) (ct_X1_findPassenger (d := d + 0) (lst hX) h) (fun r7 w8 z9 h => ?_)
    refine vw_istore_n hX dX1_readKnownName_17 (by decide) rfl ?_
    refine vw_iload_n hX 0 dX1_readKnownName_18 rfl ?_
    refine vw_iconst hX (v := (-1)) dX1_readKnownName_19 (by decide) ?_
    refine vw_icmp_ne hX (tgt := 29) dX1_readKnownName_20 (by decide) (fun c10 => ?_) (fun c10 => ?_)
    · have h := h.1 c10
      refine vw_aload_n hX 1 dX1_readKnownName_29 rfl ?_
      obtain ⟨hr11, h⟩ := h
      refine s_X1_32 hX hr11 dX1_readKnownName_30 (Nat.le_of_ble_eq_true rfl) (ct_X1_advance (d := d + 4) (lst hX) h) (fun w13 z14 h => ?_)
      refine vw_iload_n hX 0 dX1_readKnownName_33 rfl ?_
      exact vw_iret hX hE dX1_readKnownName_34 ⟨_, rfl, h⟩
    · have h := h.2 c10
      refine vw_aload_n hX 1 dX1_readKnownName_23 rfl ?_
      refine vw_iconst hX (v := 3) dX1_readKnownName_24 (by decide) ?_
      obtain ⟨hr15, h⟩ := h
      refine s_X1_75 hX hr15 dX1_readKnownName_25 (Nat.le_of_ble_eq_true rfl) (ct_X1_fail (d := d + 4) (lst hX) h) (fun r16 w17 z18 h => ?_)
      exact vw_iret hX hE dX1_readKnownName_28 ⟨_, rfl, h⟩
  · have h := h.2 c5
    refine vw_aload_n hX 0 dX1_readKnownName_7 rfl ?_
    refine vw_iconst hX (v := 1) dX1_readKnownName_8 (by decide) ?_
    obtain ⟨hr19, h⟩ := h
    refine s_X1_75 hX hr19 dX1_readKnownName_9 (Nat.le_of_ble_eq_true rfl) (ct_X1_fail (d := d + 4) (lst hX) h) (fun r20 w21 z22 h => ?_)
    exact vw_iret hX hE dX1_readKnownName_12 ⟨_, rfl, h⟩
def F_X1_readKind (a0 : Nat) (w : Mm) (z : Nat) (Q : Int32 → Mm → Nat → Prop) : Prop :=
  ∀ q1, isLit w q1 lit_7 → isO w a0 5 ∧ F_X1_tokenIs a0 q1 w z (fun r3 w4 z5 => (r3 = 0 → ∀ q7, isLit w4 q7 lit_8 → isO w4 a0 5 ∧ F_X1_tokenIs a0 q7 w4 z5 (fun r9 w10 z11 => (r9 = 0 → ∀ q13, isLit w10 q13 lit_9 → isO w10 a0 5 ∧ F_X1_tokenIs a0 q13 w10 z11 (fun r15 w16 z17 => (¬ r15 = 0 → isO w16 a0 5 ∧ F_X1_advance a0 w16 z17 (fun w21 z22 => Q 0 w21 z22)) ∧
  (r15 = 0 → isO w16 a0 5 ∧ F_X1_fail a0 1 w16 z17 (fun r24 w25 z26 => Q r24 w25 z26)))) ∧
  (¬ r9 = 0 → isO w10 a0 5 ∧ F_X1_advance a0 w10 z11 (fun w29 z30 => Q 2 w29 z30)))) ∧
  (¬ r3 = 0 → isO w4 a0 5 ∧ F_X1_advance a0 w4 z5 (fun w33 z34 => Q 1 w33 z34)))
set_option maxRecDepth 100000 in
set_option maxHeartbeats 4000000 in
theorem ct_X1_readKind {l : Launch} {g : Gp} {d : Nat} (hst : l.stackTraces = false) {a0 : Nat} {w : Mm} {z mc ms : Nat} {Q : Int32 → Mm → Nat → Prop} {X : String → Mm → Nat → Prop} (h : F_X1_readKind a0 w z Q) : Ct l g yX1_readKind (.code yX1_readKind cX1_readKind 2 (some .int)) (d + 5) mc ms [.ref (a0)] w z (rI Q) X := by
  refine Ct.of hst (by decide) (Nat.le_of_ble_eq_true rfl) (fun C hX hE hg hl hNm => ?_)
  subst hg
  subst hl
  unfold F_X1_readKind at h
  show VW C 0 [(0, .ref (a0))] [] w z mc ms
  refine vw_iconst hX (v := 0) dX1_readKind_0 (by decide) ?_
  refine vw_istore_n hX dX1_readKind_1 (by decide) rfl ?_
  refine vw_aload_n hX 1 dX1_readKind_2 rfl ?_
  refine l_X1_149 hX dX1_readKind_3 (fun q1 hq1 => ?_)
  have h := h q1 hq1
  obtain ⟨hr2, h⟩ := h
  refine s_X1_71 hX hr2 dX1_readKind_5 (Nat.le_of_ble_eq_true rfl) (ct_X1_tokenIs (d := d + 0) (lst hX) h) (fun r3 w4 z5 h => ?_)
  refine vw_if_eq hX (tgt := 16) dX1_readKind_8 (by decide) (fun c6 => ?_) (fun c6 => ?_)
  · have h := h.1 c6
    refine vw_aload_n hX 1 dX1_readKind_16 rfl ?_
    refine l_X1_151 hX dX1_readKind_17 (fun q7 hq7 => ?_)
    have h := h q7 hq7
    obtain ⟨hr8, h⟩ := h
    refine s_X1_71 hX hr8 dX1_readKind_19 (Nat.le_of_ble_eq_true rfl) (ct_X1_tokenIs (d := d + 0) (lst hX) h) (fun r9 w10 z11 h => ?_)
    refine vw_if_eq hX (tgt := 30) dX1_readKind_22 (by decide) (fun c12 => ?_) (fun c12 => ?_)
    · have h := h.1 c12
      refine vw_aload_n hX 1 dX1_readKind_30 rfl ?_
      refine l_X1_153 hX dX1_readKind_31 (fun q13 hq13 => ?_)
      have h := h q13 hq13
      obtain ⟨hr14, h⟩ := h
      refine s_X1_71 hX hr14 dX1_readKind_33 (Nat.le_of_ble_eq_true rfl) (ct_X1_tokenIs (d := d + 0) (lst hX) h) (fun r15 w16 z17 h => ?_)
      refine vw_if_ne hX (tgt := 45) dX1_readKind_36 (by decide) (fun c18 => ?_) (fun c18 => ?_)
      · have h := h.1 c18
        refine vw_aload_n hX 1 dX1_readKind_45 rfl ?_
        obtain ⟨hr19, h⟩ := h
        refine s_X1_32 hX hr19 dX1_readKind_46 (Nat.le_of_ble_eq_true rfl) (ct_X1_advance (d := d + 3) (lst hX) h) (fun w21 z22 h => ?_)
        refine vw_iload_n hX 0 dX1_readKind_49 rfl ?_
        exact vw_iret hX hE dX1_readKind_50 ⟨_, rfl, h⟩
      · have h := h.2 c18
        refine vw_aload_n hX 1 dX1_readKind_39 rfl ?_
        refine vw_iconst hX (v := 1) dX1_readKind_40 (by decide) ?_
        obtain ⟨hr23, h⟩ := h
        refine s_X1_75 hX hr23 dX1_readKind_41 (Nat.le_of_ble_eq_true rfl) (ct_X1_fail (d := d + 3) (lst hX) h) (fun r24 w25 z26 h => ?_)
        exact vw_iret hX hE dX1_readKind_44 ⟨_, rfl, h⟩
    · have h := h.2 c12
      refine vw_iconst hX (v := 2) dX1_readKind_25 (by decide) ?_
      refine vw_istore_n hX dX1_readKind_26 (by decide) rfl ?_
      refine vw_goto hX (tgt := 45) dX1_readKind_27 (by decide) ?_
      refine vw_aload_n hX 1 dX1_readKind_45 rfl ?_
      obtain ⟨hr27, h⟩ := h
      refine s_X1_32 hX hr27 dX1_readKind_46 (Nat.le_of_ble_eq_true rfl) (ct_X1_advance (d := d + 3) (lst hX) h) (fun w29 z30 h => ?_)
      refine vw_iload_n hX 0 dX1_readKind_49 rfl ?_
      exact vw_iret hX hE dX1_readKind_50 ⟨_, rfl, h⟩
  · have h := h.2 c6
    refine vw_iconst hX (v := 1) dX1_readKind_11 (by decide) ?_
    refine vw_istore_n hX dX1_readKind_12 (by decide) rfl ?_
    refine vw_goto hX (tgt := 45) dX1_readKind_13 (by decide) ?_
    refine vw_aload_n hX 1 dX1_readKind_45 rfl ?_
    obtain ⟨hr31, h⟩ := h
    refine s_X1_32 hX hr31 dX1_readKind_46 (Nat.le_of_ble_eq_true rfl) (ct_X1_advance (d := d + 3) (lst hX) h) (fun w33 z34 h => ?_)
    refine vw_iload_n hX 0 dX1_readKind_49 rfl ?_
    exact vw_iret hX hE dX1_readKind_50 ⟨_, rfl, h⟩
def B_X1_readStop_22 (a0 : Nat) (a1 : Int32) (Q : Int32 → Mm → Nat → Prop) (w : Mm) (z : Nat) : Prop :=
  ∃ q1, fld w a0 5 0 = some (.ref (q1)) ∧ ∃ v2, fld w q1 7 4 = some (.int (v2)) ∧ isO w a0 5 ∧ F_X1_readNumber a0 0 ((v2 - 1)) w z (fun r4 w5 z6 => Q r4 w5 z6)
set_option maxRecDepth 100000 in
set_option maxHeartbeats 4000000 in
theorem pB_X1_readStop_22 {C : Cx} {d : Nat} {a0 : Nat} {a1 : Int32} {Q : Int32 → Mm → Nat → Prop} {X : String → Mm → Nat → Prop} (hX : CX C cX1_readStop RX1 2 (some .int) [] (d + 3)) (hE : EQ C (rI Q) X) : ∀  (w : Mm) (z mc ms : Nat), B_X1_readStop_22 a0 a1 Q  w z → VW C 22 [(0, .ref (a0)), (1, .int (a1))] [] w z mc ms := by
  intro  w z mc ms h
  unfold B_X1_readStop_22 at h
  refine vw_aload_n hX 0 dX1_readStop_22 rfl ?_
  refine vw_iconst hX (v := 0) dX1_readStop_23 (by decide) ?_
  refine vw_aload_n hX 0 dX1_readStop_24 rfl ?_
  obtain ⟨q1, hq1, h⟩ := h
  refine g_X1_19 hX hq1 dX1_readStop_25 ?_
  obtain ⟨v2, hv2, h⟩ := h
  refine g_X1_79 hX hv2 dX1_readStop_28 ?_
  refine vw_iconst hX (v := 1) dX1_readStop_31 (by decide) ?_
  refine vw_isub hX dX1_readStop_32 ?_
  obtain ⟨hr3, h⟩ := h
  refine s_X1_84 hX hr3 dX1_readStop_33 (Nat.le_of_ble_eq_true rfl) (ct_X1_readNumber (d := d + 0) (lst hX) h) (fun r4 w5 z6 h => ?_)
  exact vw_iret hX hE dX1_readStop_36 ⟨_, rfl, h⟩
def F_X1_readStop (a0 : Nat) (a1 : Int32) (w : Mm) (z : Nat) (Q : Int32 → Mm → Nat → Prop) : Prop :=
  ∃ v1, fld w a0 5 5 = some (.int (v1)) ∧ (¬ v1 = 2 → B_X1_readStop_22 a0 a1 Q w z) ∧
  (v1 = 2 → ∃ v3, fld w a0 5 8 = some (.int (v3)) ∧ (¬ v3 = a1 → B_X1_readStop_22 a0 a1 Q w z) ∧
  (v3 = a1 → isO w a0 5 ∧ F_X1_fail a0 2 w z (fun r6 w7 z8 => B_X1_readStop_22 a0 a1 Q w7 z8)))
set_option maxRecDepth 100000 in
set_option maxHeartbeats 4000000 in
theorem ct_X1_readStop {l : Launch} {g : Gp} {d : Nat} (hst : l.stackTraces = false) {a0 : Nat} {a1 : Int32} {w : Mm} {z mc ms : Nat} {Q : Int32 → Mm → Nat → Prop} {X : String → Mm → Nat → Prop} (h : F_X1_readStop a0 a1 w z Q) : Ct l g yX1_readStop (.code yX1_readStop cX1_readStop 2 (some .int)) (d + 3) mc ms [.ref (a0), .int (a1)] w z (rI Q) X := by
  refine Ct.of hst (by decide) (Nat.le_of_ble_eq_true rfl) (fun C hX hE hg hl hNm => ?_)
  subst hg
  subst hl
  unfold F_X1_readStop at h
  show VW C 0 [(0, .ref (a0)), (1, .int (a1))] [] w z mc ms
  refine vw_aload_n hX 0 dX1_readStop_0 rfl ?_
  obtain ⟨v1, hv1, h⟩ := h
  refine g_X1_42 hX hv1 dX1_readStop_1 ?_
  refine vw_iconst hX (v := 2) dX1_readStop_4 (by decide) ?_
  refine vw_icmp_ne hX (tgt := 22) dX1_readStop_5 (by decide) (fun c2 => ?_) (fun c2 => ?_)
  · have h := h.1 c2
    exact pB_X1_readStop_22 hX hE _ _ _ _ h
  · have h := h.2 c2
    refine vw_aload_n hX 0 dX1_readStop_8 rfl ?_
    obtain ⟨v3, hv3, h⟩ := h
    refine g_X1_52 hX hv3 dX1_readStop_9 ?_
    refine vw_iload_n hX 1 dX1_readStop_12 rfl ?_
    refine vw_icmp_ne hX (tgt := 22) dX1_readStop_13 (by decide) (fun c4 => ?_) (fun c4 => ?_)
    · have h := h.1 c4
      exact pB_X1_readStop_22 hX hE _ _ _ _ h
    · have h := h.2 c4
      refine vw_aload_n hX 0 dX1_readStop_16 rfl ?_
      refine vw_iconst hX (v := 2) dX1_readStop_17 (by decide) ?_
      obtain ⟨hr5, h⟩ := h
      refine s_X1_75 hX hr5 dX1_readStop_18 (Nat.le_of_ble_eq_true rfl) (ct_X1_fail (d := d + 1) (lst hX) h) (fun r6 w7 z8 h => ?_)
      refine vw_pop hX dX1_readStop_21 rfl ?_
      exact pB_X1_readStop_22 hX hE _ _ _ _ h
def F_X1_readTicket (a0 : Nat) (w : Mm) (z : Nat) (Q : Int32 → Mm → Nat → Prop) : Prop :=
  ∃ q1, fld w a0 5 0 = some (.ref (q1)) ∧ ∃ v2, fld w q1 7 6 = some (.int (v2)) ∧ isO w a0 5 ∧ F_X1_readNumber a0 0 ((v2 - 1)) w z (fun r4 w5 z6 => Q r4 w5 z6)
set_option maxRecDepth 100000 in
set_option maxHeartbeats 4000000 in
theorem ct_X1_readTicket {l : Launch} {g : Gp} {d : Nat} (hst : l.stackTraces = false) {a0 : Nat} {w : Mm} {z mc ms : Nat} {Q : Int32 → Mm → Nat → Prop} {X : String → Mm → Nat → Prop} (h : F_X1_readTicket a0 w z Q) : Ct l g yX1_readTicket (.code yX1_readTicket cX1_readTicket 1 (some .int)) (d + 3) mc ms [.ref (a0)] w z (rI Q) X := by
  refine Ct.of hst (by decide) (Nat.le_of_ble_eq_true rfl) (fun C hX hE hg hl hNm => ?_)
  subst hg
  subst hl
  unfold F_X1_readTicket at h
  show VW C 0 [(0, .ref (a0))] [] w z mc ms
  refine vw_aload_n hX 0 dX1_readTicket_0 rfl ?_
  refine vw_iconst hX (v := 0) dX1_readTicket_1 (by decide) ?_
  refine vw_aload_n hX 0 dX1_readTicket_2 rfl ?_
  obtain ⟨q1, hq1, h⟩ := h
  refine g_X1_19 hX hq1 dX1_readTicket_3 ?_
  obtain ⟨v2, hv2, h⟩ := h
  refine g_X1_155 hX hv2 dX1_readTicket_6 ?_
  refine vw_iconst hX (v := 1) dX1_readTicket_9 (by decide) ?_
  refine vw_isub hX dX1_readTicket_10 ?_
  obtain ⟨hr3, h⟩ := h
  refine s_X1_84 hX hr3 dX1_readTicket_11 (Nat.le_of_ble_eq_true rfl) (ct_X1_readNumber (d := d + 0) (lst hX) h) (fun r4 w5 z6 h => ?_)
  exact vw_iret hX hE dX1_readTicket_14 ⟨_, rfl, h⟩
def F_X1_readCase (a0 : Nat) (w : Mm) (z : Nat) (Q : Int32 → Mm → Nat → Prop) : Prop :=
  ∃ q1, fld w a0 5 0 = some (.ref (q1)) ∧ ∃ v2, fld w q1 7 7 = some (.int (v2)) ∧ isO w a0 5 ∧ F_X1_readNumber a0 0 ((v2 - 1)) w z (fun r4 w5 z6 => Q r4 w5 z6)
set_option maxRecDepth 100000 in
set_option maxHeartbeats 4000000 in
theorem ct_X1_readCase {l : Launch} {g : Gp} {d : Nat} (hst : l.stackTraces = false) {a0 : Nat} {w : Mm} {z mc ms : Nat} {Q : Int32 → Mm → Nat → Prop} {X : String → Mm → Nat → Prop} (h : F_X1_readCase a0 w z Q) : Ct l g yX1_readCase (.code yX1_readCase cX1_readCase 1 (some .int)) (d + 3) mc ms [.ref (a0)] w z (rI Q) X := by
  refine Ct.of hst (by decide) (Nat.le_of_ble_eq_true rfl) (fun C hX hE hg hl hNm => ?_)
  subst hg
  subst hl
  unfold F_X1_readCase at h
  show VW C 0 [(0, .ref (a0))] [] w z mc ms
  refine vw_aload_n hX 0 dX1_readCase_0 rfl ?_
  refine vw_iconst hX (v := 0) dX1_readCase_1 (by decide) ?_
  refine vw_aload_n hX 0 dX1_readCase_2 rfl ?_
  obtain ⟨q1, hq1, h⟩ := h
  refine g_X1_19 hX hq1 dX1_readCase_3 ?_
  obtain ⟨v2, hv2, h⟩ := h
  refine g_X1_158 hX hv2 dX1_readCase_6 ?_
  refine vw_iconst hX (v := 1) dX1_readCase_9 (by decide) ?_
  refine vw_isub hX dX1_readCase_10 ?_
  obtain ⟨hr3, h⟩ := h
  refine s_X1_84 hX hr3 dX1_readCase_11 (Nat.le_of_ble_eq_true rfl) (ct_X1_readNumber (d := d + 0) (lst hX) h) (fun r4 w5 z6 h => ?_)
  exact vw_iret hX hE dX1_readCase_14 ⟨_, rfl, h⟩
def B_X1_readBuy_48 (a0 : Nat) (Q : Mm → Nat → Prop) (x1 : Int32) (x2 : Int32) (x3 : Int32) (y0 : Int32) (y1 : Nat) (w : Mm) (z : Nat) : Prop :=
  isO w y1 5 ∧ F_X1_readSemicolon y1 y0 w z (fun r2 w3 z4 => (r2 = 0 → Q w3 z4) ∧
  (¬ r2 = 0 → ∃ q6, fld w3 a0 5 0 = some (.ref (q6)) ∧ isO w3 q6 7 ∧ F_X3_sell q6 x1 x2 x3 w3 z4 (fun r8 w9 z10 => Q w9 z10)))
set_option maxRecDepth 100000 in
set_option maxHeartbeats 4000000 in
theorem pB_X1_readBuy_48 {C : Cx} {d : Nat} {a0 : Nat} {Q : Mm → Nat → Prop} {X : String → Mm → Nat → Prop} (hX : CX C cX1_readBuy RX1 4 none [] (d + 7)) (hE : EQ C (rV Q) X) : ∀ (x1 : Int32) (x2 : Int32) (x3 : Int32) (y0 : Int32) (y1 : Nat) (w : Mm) (z mc ms : Nat), B_X1_readBuy_48 a0 Q x1 x2 x3 y0 y1 w z → VW C 48 [(0, .ref (a0)), (1, .int (x1)), (2, .int (x2)), (3, .int (x3))] [.int (y0), .ref (y1)] w z mc ms := by
  intro x1 x2 x3 y0 y1 w z mc ms h
  unfold B_X1_readBuy_48 at h
  obtain ⟨hr1, h⟩ := h
  refine s_X1_100 hX hr1 dX1_readBuy_48 (Nat.le_of_ble_eq_true rfl) (ct_X1_readSemicolon (d := d + 4) (lst hX) h) (fun r2 w3 z4 h => ?_)
  refine vw_if_eq hX (tgt := 65) dX1_readBuy_51 (by decide) (fun c5 => ?_) (fun c5 => ?_)
  · have h := h.1 c5
    exact vw_vret hX hE dX1_readBuy_65 ⟨rfl, h⟩
  · have h := h.2 c5
    refine vw_aload_n hX 0 dX1_readBuy_54 rfl ?_
    obtain ⟨q6, hq6, h⟩ := h
    refine g_X1_19 hX hq6 dX1_readBuy_55 ?_
    refine vw_iload_n hX 1 dX1_readBuy_58 rfl ?_
    refine vw_iload_n hX 2 dX1_readBuy_59 rfl ?_
    refine vw_iload_n hX 3 dX1_readBuy_60 rfl ?_
    obtain ⟨hr7, h⟩ := h
    refine s_X1_206 hX hr7 dX1_readBuy_61 (Nat.le_of_ble_eq_true rfl) (ct_X3_sell (d := d + 4) (lst hX) h) (fun r8 w9 z10 h => ?_)
    refine vw_pop hX dX1_readBuy_64 rfl ?_
    exact vw_vret hX hE dX1_readBuy_65 ⟨rfl, h⟩
def B_X1_readBuy_47 (a0 : Nat) (Q : Mm → Nat → Prop) (x1 : Int32) (x2 : Int32) (x3 : Int32) (y0 : Nat) (w : Mm) (z : Nat) : Prop :=
  B_X1_readBuy_48 a0 Q x1 x2 x3 0 y0 w z
set_option maxRecDepth 100000 in
set_option maxHeartbeats 4000000 in
theorem pB_X1_readBuy_47 {C : Cx} {d : Nat} {a0 : Nat} {Q : Mm → Nat → Prop} {X : String → Mm → Nat → Prop} (hX : CX C cX1_readBuy RX1 4 none [] (d + 7)) (hE : EQ C (rV Q) X) : ∀ (x1 : Int32) (x2 : Int32) (x3 : Int32) (y0 : Nat) (w : Mm) (z mc ms : Nat), B_X1_readBuy_47 a0 Q x1 x2 x3 y0 w z → VW C 47 [(0, .ref (a0)), (1, .int (x1)), (2, .int (x2)), (3, .int (x3))] [.ref (y0)] w z mc ms := by
  intro x1 x2 x3 y0 w z mc ms h
  unfold B_X1_readBuy_47 at h
  refine vw_iconst hX (v := 0) dX1_readBuy_47 (by decide) ?_
  exact pB_X1_readBuy_48 hX hE _ _ _ _ _ _ _ _ _ h
def F_X1_readBuy (a0 : Nat) (w : Mm) (z : Nat) (Q : Mm → Nat → Prop) : Prop :=
  isO w a0 5 ∧ F_X1_advance a0 w z (fun w3 z4 => isO w3 a0 5 ∧ F_X1_readKnownName a0 w3 z4 (fun r6 w7 z8 => isO w7 a0 5 ∧ F_X1_readKind a0 w7 z8 (fun r10 w11 z12 => isO w11 a0 5 ∧ F_X1_readNumber a0 1 15 w11 z12 (fun r14 w15 z16 => isO w15 a0 5 ∧ F_X1_failed a0 w15 z16 (fun r18 w19 z20 => (¬ r18 = 0 → B_X1_readBuy_47 a0 Q r6 r10 r14 a0 w19 z20) ∧
  (r18 = 0 → ∃ q22, fld w19 a0 5 0 = some (.ref (q22)) ∧ isO w19 q22 7 ∧ F_X3_canSell q22 r6 r10 r14 w19 z20 (fun r24 w25 z26 => (r24 = 0 → B_X1_readBuy_47 a0 Q r6 r10 r14 a0 w25 z26) ∧
  (¬ r24 = 0 → B_X1_readBuy_48 a0 Q r6 r10 r14 1 a0 w25 z26))))))))
set_option maxRecDepth 100000 in
set_option maxHeartbeats 4000000 in
theorem ct_X1_readBuy {l : Launch} {g : Gp} {d : Nat} (hst : l.stackTraces = false) {a0 : Nat} {w : Mm} {z mc ms : Nat} {Q : Mm → Nat → Prop} {X : String → Mm → Nat → Prop} (h : F_X1_readBuy a0 w z Q) : Ct l g yX1_readBuy (.code yX1_readBuy cX1_readBuy 4 none) (d + 7) mc ms [.ref (a0)] w z (rV Q) X := by
  refine Ct.of hst (by decide) (Nat.le_of_ble_eq_true rfl) (fun C hX hE hg hl hNm => ?_)
  subst hg
  subst hl
  unfold F_X1_readBuy at h
  show VW C 0 [(0, .ref (a0))] [] w z mc ms
  refine vw_aload_n hX 0 dX1_readBuy_0 rfl ?_
  obtain ⟨hr1, h⟩ := h
  refine s_X1_32 hX hr1 dX1_readBuy_1 (Nat.le_of_ble_eq_true rfl) (ct_X1_advance (d := d + 5) (lst hX) h) (fun w3 z4 h => ?_)
  refine vw_aload_n hX 0 dX1_readBuy_4 rfl ?_
  obtain ⟨hr5, h⟩ := h
  refine s_X1_196 hX hr5 dX1_readBuy_5 (Nat.le_of_ble_eq_true rfl) (ct_X1_readKnownName (d := d + 0) (lst hX) h) (fun r6 w7 z8 h => ?_)
  refine vw_istore_n hX dX1_readBuy_8 (by decide) rfl ?_
  refine vw_aload_n hX 1 dX1_readBuy_9 rfl ?_
  obtain ⟨hr9, h⟩ := h
  refine s_X1_199 hX hr9 dX1_readBuy_10 (Nat.le_of_ble_eq_true rfl) (ct_X1_readKind (d := d + 1) (lst hX) h) (fun r10 w11 z12 h => ?_)
  refine vw_istore_n hX dX1_readBuy_13 (by decide) rfl ?_
  refine vw_aload_n hX 2 dX1_readBuy_14 rfl ?_
  refine vw_iconst hX (v := 1) dX1_readBuy_15 (by decide) ?_
  refine vw_bipush hX (v := 15) dX1_readBuy_16 (by decide) ?_
  obtain ⟨hr13, h⟩ := h
  refine s_X1_84 hX hr13 dX1_readBuy_18 (Nat.le_of_ble_eq_true rfl) (ct_X1_readNumber (d := d + 4) (lst hX) h) (fun r14 w15 z16 h => ?_)
  refine vw_istore_n hX dX1_readBuy_21 (by decide) rfl ?_
  refine vw_aload_n hX 3 dX1_readBuy_22 rfl ?_
  refine vw_aload_n hX 3 dX1_readBuy_23 rfl ?_
  obtain ⟨hr17, h⟩ := h
  refine s_X1_35 hX hr17 dX1_readBuy_24 (Nat.le_of_ble_eq_true rfl) (ct_X1_failed (d := d + 6) (lst hX) h) (fun r18 w19 z20 h => ?_)
  refine vw_if_ne hX (tgt := 47) dX1_readBuy_27 (by decide) (fun c21 => ?_) (fun c21 => ?_)
  · have h := h.1 c21
    exact vw_sub [3, 2, 1, 0] rfl (pB_X1_readBuy_47 hX hE _ _ _ _ _ _ _ _ h)
  · have h := h.2 c21
    refine vw_aload_n hX 3 dX1_readBuy_30 rfl ?_
    obtain ⟨q22, hq22, h⟩ := h
    refine g_X1_19 hX hq22 dX1_readBuy_31 ?_
    refine vw_iload_n hX 2 dX1_readBuy_34 rfl ?_
    refine vw_iload_n hX 1 dX1_readBuy_35 rfl ?_
    refine vw_iload_n hX 0 dX1_readBuy_36 rfl ?_
    obtain ⟨hr23, h⟩ := h
    refine s_X1_202 hX hr23 dX1_readBuy_37 (Nat.le_of_ble_eq_true rfl) (ct_X3_canSell (d := d + 4) (lst hX) h) (fun r24 w25 z26 h => ?_)
    refine vw_if_eq hX (tgt := 47) dX1_readBuy_40 (by decide) (fun c27 => ?_) (fun c27 => ?_)
    · have h := h.1 c27
      exact vw_sub [3, 2, 1, 0] rfl (pB_X1_readBuy_47 hX hE _ _ _ _ _ _ _ _ h)
    · have h := h.2 c27
      refine vw_iconst hX (v := 1) dX1_readBuy_43 (by decide) ?_
      refine vw_goto hX (tgt := 48) dX1_readBuy_44 (by decide) ?_
      exact vw_sub [3, 2, 1, 0] rfl (pB_X1_readBuy_48 hX hE _ _ _ _ _ _ _ _ _ h)
def B_X1_readRide_69 (a0 : Nat) (Q : Mm → Nat → Prop) (x1 : Int32) (x2 : Int32) (x3 : Int32) (x4 : Int32) (y0 : Int32) (y1 : Nat) (w : Mm) (z : Nat) : Prop :=
  isO w y1 5 ∧ F_X1_readSemicolon y1 y0 w z (fun r2 w3 z4 => (r2 = 0 → Q w3 z4) ∧
  (¬ r2 = 0 → ∃ q6, fld w3 a0 5 0 = some (.ref (q6)) ∧ isO w3 q6 7 ∧ F_X3_beginRide q6 x1 x2 x3 x4 w3 z4 (fun r8 w9 z10 => Q w9 z10)))
set_option maxRecDepth 100000 in
set_option maxHeartbeats 4000000 in
theorem pB_X1_readRide_69 {C : Cx} {d : Nat} {a0 : Nat} {Q : Mm → Nat → Prop} {X : String → Mm → Nat → Prop} (hX : CX C cX1_readRide RX1 5 none [] (d + 7)) (hE : EQ C (rV Q) X) : ∀ (x1 : Int32) (x2 : Int32) (x3 : Int32) (x4 : Int32) (y0 : Int32) (y1 : Nat) (w : Mm) (z mc ms : Nat), B_X1_readRide_69 a0 Q x1 x2 x3 x4 y0 y1 w z → VW C 69 [(0, .ref (a0)), (1, .int (x1)), (2, .int (x2)), (3, .int (x3)), (4, .int (x4))] [.int (y0), .ref (y1)] w z mc ms := by
  intro x1 x2 x3 x4 y0 y1 w z mc ms h
  unfold B_X1_readRide_69 at h
  obtain ⟨hr1, h⟩ := h
  refine s_X1_100 hX hr1 dX1_readRide_69 (Nat.le_of_ble_eq_true rfl) (ct_X1_readSemicolon (d := d + 4) (lst hX) h) (fun r2 w3 z4 h => ?_)
  refine vw_if_eq hX (tgt := 88) dX1_readRide_72 (by decide) (fun c5 => ?_) (fun c5 => ?_)
  · have h := h.1 c5
    exact vw_vret hX hE dX1_readRide_88 ⟨rfl, h⟩
  · have h := h.2 c5
    refine vw_aload_n hX 0 dX1_readRide_75 rfl ?_
    obtain ⟨q6, hq6, h⟩ := h
    refine g_X1_19 hX hq6 dX1_readRide_76 ?_
    refine vw_iload_n hX 1 dX1_readRide_79 rfl ?_
    refine vw_iload_n hX 2 dX1_readRide_80 rfl ?_
    refine vw_iload_n hX 3 dX1_readRide_81 rfl ?_
    refine vw_iload hX 4 dX1_readRide_82 rfl ?_
    obtain ⟨hr7, h⟩ := h
    refine s_X1_222 hX hr7 dX1_readRide_84 (Nat.le_of_ble_eq_true rfl) (ct_X3_beginRide (d := d + 4) (lst hX) h) (fun r8 w9 z10 h => ?_)
    refine vw_pop hX dX1_readRide_87 rfl ?_
    exact vw_vret hX hE dX1_readRide_88 ⟨rfl, h⟩
def B_X1_readRide_68 (a0 : Nat) (Q : Mm → Nat → Prop) (x1 : Int32) (x2 : Int32) (x3 : Int32) (x4 : Int32) (y0 : Nat) (w : Mm) (z : Nat) : Prop :=
  B_X1_readRide_69 a0 Q x1 x2 x3 x4 0 y0 w z
set_option maxRecDepth 100000 in
set_option maxHeartbeats 4000000 in
theorem pB_X1_readRide_68 {C : Cx} {d : Nat} {a0 : Nat} {Q : Mm → Nat → Prop} {X : String → Mm → Nat → Prop} (hX : CX C cX1_readRide RX1 5 none [] (d + 7)) (hE : EQ C (rV Q) X) : ∀ (x1 : Int32) (x2 : Int32) (x3 : Int32) (x4 : Int32) (y0 : Nat) (w : Mm) (z mc ms : Nat), B_X1_readRide_68 a0 Q x1 x2 x3 x4 y0 w z → VW C 68 [(0, .ref (a0)), (1, .int (x1)), (2, .int (x2)), (3, .int (x3)), (4, .int (x4))] [.ref (y0)] w z mc ms := by
  intro x1 x2 x3 x4 y0 w z mc ms h
  unfold B_X1_readRide_68 at h
  refine vw_iconst hX (v := 0) dX1_readRide_68 (by decide) ?_
  exact pB_X1_readRide_69 hX hE _ _ _ _ _ _ _ _ _ _ h
def B_X1_readRide_43 (a0 : Nat) (Q : Mm → Nat → Prop) (x1 : Int32) (x2 : Int32) (x3 : Int32) (x4 : Int32) (w : Mm) (z : Nat) : Prop :=
  isO w a0 5 ∧ F_X1_failed a0 w z (fun r12 w13 z14 => (¬ r12 = 0 → B_X1_readRide_68 a0 Q x1 x2 x3 x4 a0 w13 z14) ∧
  (r12 = 0 → ∃ q16, fld w13 a0 5 0 = some (.ref (q16)) ∧ isO w13 q16 7 ∧ F_X3_canBeginRide q16 x1 x4 w13 z14 (fun r18 w19 z20 => (r18 = 0 → B_X1_readRide_68 a0 Q x1 x2 x3 x4 a0 w19 z20) ∧
  (¬ r18 = 0 → B_X1_readRide_69 a0 Q x1 x2 x3 x4 1 a0 w19 z20))))
set_option maxRecDepth 100000 in
set_option maxHeartbeats 4000000 in
theorem pB_X1_readRide_43 {C : Cx} {d : Nat} {a0 : Nat} {Q : Mm → Nat → Prop} {X : String → Mm → Nat → Prop} (hX : CX C cX1_readRide RX1 5 none [] (d + 7)) (hE : EQ C (rV Q) X) : ∀ (x1 : Int32) (x2 : Int32) (x3 : Int32) (x4 : Int32) (w : Mm) (z mc ms : Nat), B_X1_readRide_43 a0 Q x1 x2 x3 x4 w z → VW C 43 [(0, .ref (a0)), (1, .int (x1)), (2, .int (x2)), (3, .int (x3)), (4, .int (x4))] [] w z mc ms := by
  intro x1 x2 x3 x4 w z mc ms h
  unfold B_X1_readRide_43 at h
  refine vw_aload_n hX 0 dX1_readRide_43 rfl ?_
  refine vw_aload_n hX 0 dX1_readRide_44 rfl ?_
  obtain ⟨hr11, h⟩ := h
  refine s_X1_35 hX hr11 dX1_readRide_45 (Nat.le_of_ble_eq_true rfl) (ct_X1_failed (d := d + 6) (lst hX) h) (fun r12 w13 z14 h => ?_)
  refine vw_if_ne hX (tgt := 68) dX1_readRide_48 (by decide) (fun c15 => ?_) (fun c15 => ?_)
  · have h := h.1 c15
    exact pB_X1_readRide_68 hX hE _ _ _ _ _ _ _ _ _ h
  · have h := h.2 c15
    refine vw_aload_n hX 0 dX1_readRide_51 rfl ?_
    obtain ⟨q16, hq16, h⟩ := h
    refine g_X1_19 hX hq16 dX1_readRide_52 ?_
    refine vw_iload_n hX 1 dX1_readRide_55 rfl ?_
    refine vw_iload hX 4 dX1_readRide_56 rfl ?_
    obtain ⟨hr17, h⟩ := h
    refine s_X1_218 hX hr17 dX1_readRide_58 (Nat.le_of_ble_eq_true rfl) (ct_X3_canBeginRide (d := d + 5) (lst hX) h) (fun r18 w19 z20 h => ?_)
    refine vw_if_eq hX (tgt := 68) dX1_readRide_61 (by decide) (fun c21 => ?_) (fun c21 => ?_)
    · have h := h.1 c21
      exact pB_X1_readRide_68 hX hE _ _ _ _ _ _ _ _ _ h
    · have h := h.2 c21
      refine vw_iconst hX (v := 1) dX1_readRide_64 (by decide) ?_
      refine vw_goto hX (tgt := 69) dX1_readRide_65 (by decide) ?_
      exact pB_X1_readRide_69 hX hE _ _ _ _ _ _ _ _ _ _ h
def F_X1_readRide (a0 : Nat) (w : Mm) (z : Nat) (Q : Mm → Nat → Prop) : Prop :=
  isO w a0 5 ∧ F_X1_advance a0 w z (fun w3 z4 => isO w3 a0 5 ∧ F_X1_readKnownName a0 w3 z4 (fun r6 w7 z8 => isO w7 a0 5 ∧ F_X1_readStop a0 (-1) w7 z8 (fun r10 w11 z12 => isO w11 a0 5 ∧ F_X1_readStop a0 r10 w11 z12 (fun r14 w15 z16 => ∀ q17, isLit w15 q17 lit_11 → isO w15 a0 5 ∧ F_X1_tokenIs a0 q17 w15 z16 (fun r19 w20 z21 => (r19 = 0 → B_X1_readRide_43 a0 Q r6 r10 r14 (-1) w20 z21) ∧
  (¬ r19 = 0 → isO w20 a0 5 ∧ F_X1_advance a0 w20 z21 (fun w25 z26 => isO w25 a0 5 ∧ F_X1_readTicket a0 w25 z26 (fun r28 w29 z30 => B_X1_readRide_43 a0 Q r6 r10 r14 r28 w29 z30))))))))
set_option maxRecDepth 100000 in
set_option maxHeartbeats 4000000 in
theorem ct_X1_readRide {l : Launch} {g : Gp} {d : Nat} (hst : l.stackTraces = false) {a0 : Nat} {w : Mm} {z mc ms : Nat} {Q : Mm → Nat → Prop} {X : String → Mm → Nat → Prop} (h : F_X1_readRide a0 w z Q) : Ct l g yX1_readRide (.code yX1_readRide cX1_readRide 5 none) (d + 7) mc ms [.ref (a0)] w z (rV Q) X := by
  refine Ct.of hst (by decide) (Nat.le_of_ble_eq_true rfl) (fun C hX hE hg hl hNm => ?_)
  subst hg
  subst hl
  unfold F_X1_readRide at h
  show VW C 0 [(0, .ref (a0))] [] w z mc ms
  refine vw_aload_n hX 0 dX1_readRide_0 rfl ?_
  obtain ⟨hr1, h⟩ := h
  refine s_X1_32 hX hr1 dX1_readRide_1 (Nat.le_of_ble_eq_true rfl) (ct_X1_advance (d := d + 5) (lst hX) h) (fun w3 z4 h => ?_)
  refine vw_aload_n hX 0 dX1_readRide_4 rfl ?_
  obtain ⟨hr5, h⟩ := h
  refine s_X1_196 hX hr5 dX1_readRide_5 (Nat.le_of_ble_eq_true rfl) (ct_X1_readKnownName (d := d + 0) (lst hX) h) (fun r6 w7 z8 h => ?_)
  refine vw_istore_n hX dX1_readRide_8 (by decide) rfl ?_
  refine vw_aload_n hX 1 dX1_readRide_9 rfl ?_
  refine vw_iconst hX (v := (-1)) dX1_readRide_10 (by decide) ?_
  obtain ⟨hr9, h⟩ := h
  refine s_X1_210 hX hr9 dX1_readRide_11 (Nat.le_of_ble_eq_true rfl) (ct_X1_readStop (d := d + 3) (lst hX) h) (fun r10 w11 z12 h => ?_)
  refine vw_istore_n hX dX1_readRide_14 (by decide) rfl ?_
  refine vw_aload_n hX 2 dX1_readRide_15 rfl ?_
  refine vw_iload_n hX 0 dX1_readRide_16 rfl ?_
  obtain ⟨hr13, h⟩ := h
  refine s_X1_210 hX hr13 dX1_readRide_17 (Nat.le_of_ble_eq_true rfl) (ct_X1_readStop (d := d + 3) (lst hX) h) (fun r14 w15 z16 h => ?_)
  refine vw_istore_n hX dX1_readRide_20 (by decide) rfl ?_
  refine vw_iconst hX (v := (-1)) dX1_readRide_21 (by decide) ?_
  refine vw_istore hX dX1_readRide_22 (by decide) rfl ?_
  refine vw_aload_n hX 4 dX1_readRide_24 rfl ?_
  refine l_X1_213 hX dX1_readRide_25 (fun q17 hq17 => ?_)
  have h := h q17 hq17
  obtain ⟨hr18, h⟩ := h
  refine s_X1_71 hX hr18 dX1_readRide_27 (Nat.le_of_ble_eq_true rfl) (ct_X1_tokenIs (d := d + 2) (lst hX) h) (fun r19 w20 z21 h => ?_)
  refine vw_if_eq hX (tgt := 43) dX1_readRide_30 (by decide) (fun c22 => ?_) (fun c22 => ?_)
  · have h := h.1 c22
    exact vw_sub [4, 3, 2, 1, 0] rfl (pB_X1_readRide_43 hX hE _ _ _ _ _ _ _ _ h)
  · have h := h.2 c22
    refine vw_aload_n hX 4 dX1_readRide_33 rfl ?_
    obtain ⟨hr23, h⟩ := h
    refine s_X1_32 hX hr23 dX1_readRide_34 (Nat.le_of_ble_eq_true rfl) (ct_X1_advance (d := d + 5) (lst hX) h) (fun w25 z26 h => ?_)
    refine vw_aload_n hX 4 dX1_readRide_37 rfl ?_
    obtain ⟨hr27, h⟩ := h
    refine s_X1_215 hX hr27 dX1_readRide_38 (Nat.le_of_ble_eq_true rfl) (ct_X1_readTicket (d := d + 3) (lst hX) h) (fun r28 w29 z30 h => ?_)
    refine vw_istore hX dX1_readRide_41 (by decide) rfl ?_
    exact vw_sub [4, 3, 2, 1, 0] rfl (pB_X1_readRide_43 hX hE _ _ _ _ _ _ _ _ h)
def B_X1_readInspect_33 (a0 : Nat) (Q : Mm → Nat → Prop) (x1 : Int32) (y0 : Int32) (y1 : Nat) (w : Mm) (z : Nat) : Prop :=
  isO w y1 5 ∧ F_X1_readSemicolon y1 y0 w z (fun r2 w3 z4 => (r2 = 0 → Q w3 z4) ∧
  (¬ r2 = 0 → ∃ q6, fld w3 a0 5 0 = some (.ref (q6)) ∧ isO w3 q6 7 ∧ F_X3_inspectRide q6 x1 w3 z4 (fun r8 w9 z10 => Q w9 z10)))
set_option maxRecDepth 100000 in
set_option maxHeartbeats 4000000 in
theorem pB_X1_readInspect_33 {C : Cx} {d : Nat} {a0 : Nat} {Q : Mm → Nat → Prop} {X : String → Mm → Nat → Prop} (hX : CX C cX1_readInspect RX1 2 none [] (d + 7)) (hE : EQ C (rV Q) X) : ∀ (x1 : Int32) (y0 : Int32) (y1 : Nat) (w : Mm) (z mc ms : Nat), B_X1_readInspect_33 a0 Q x1 y0 y1 w z → VW C 33 [(0, .ref (a0)), (1, .int (x1))] [.int (y0), .ref (y1)] w z mc ms := by
  intro x1 y0 y1 w z mc ms h
  unfold B_X1_readInspect_33 at h
  obtain ⟨hr1, h⟩ := h
  refine s_X1_100 hX hr1 dX1_readInspect_33 (Nat.le_of_ble_eq_true rfl) (ct_X1_readSemicolon (d := d + 4) (lst hX) h) (fun r2 w3 z4 h => ?_)
  refine vw_if_eq hX (tgt := 48) dX1_readInspect_36 (by decide) (fun c5 => ?_) (fun c5 => ?_)
  · have h := h.1 c5
    exact vw_vret hX hE dX1_readInspect_48 ⟨rfl, h⟩
  · have h := h.2 c5
    refine vw_aload_n hX 0 dX1_readInspect_39 rfl ?_
    obtain ⟨q6, hq6, h⟩ := h
    refine g_X1_19 hX hq6 dX1_readInspect_40 ?_
    refine vw_iload_n hX 1 dX1_readInspect_43 rfl ?_
    obtain ⟨hr7, h⟩ := h
    refine s_X1_229 hX hr7 dX1_readInspect_44 (Nat.le_of_ble_eq_true rfl) (ct_X3_inspectRide (d := d + 3) (lst hX) h) (fun r8 w9 z10 h => ?_)
    refine vw_pop hX dX1_readInspect_47 rfl ?_
    exact vw_vret hX hE dX1_readInspect_48 ⟨rfl, h⟩
def B_X1_readInspect_32 (a0 : Nat) (Q : Mm → Nat → Prop) (x1 : Int32) (y0 : Nat) (w : Mm) (z : Nat) : Prop :=
  B_X1_readInspect_33 a0 Q x1 0 y0 w z
set_option maxRecDepth 100000 in
set_option maxHeartbeats 4000000 in
theorem pB_X1_readInspect_32 {C : Cx} {d : Nat} {a0 : Nat} {Q : Mm → Nat → Prop} {X : String → Mm → Nat → Prop} (hX : CX C cX1_readInspect RX1 2 none [] (d + 7)) (hE : EQ C (rV Q) X) : ∀ (x1 : Int32) (y0 : Nat) (w : Mm) (z mc ms : Nat), B_X1_readInspect_32 a0 Q x1 y0 w z → VW C 32 [(0, .ref (a0)), (1, .int (x1))] [.ref (y0)] w z mc ms := by
  intro x1 y0 w z mc ms h
  unfold B_X1_readInspect_32 at h
  refine vw_iconst hX (v := 0) dX1_readInspect_32 (by decide) ?_
  exact pB_X1_readInspect_33 hX hE _ _ _ _ _ _ _ h
def F_X1_readInspect (a0 : Nat) (w : Mm) (z : Nat) (Q : Mm → Nat → Prop) : Prop :=
  isO w a0 5 ∧ F_X1_advance a0 w z (fun w3 z4 => isO w3 a0 5 ∧ F_X1_readKnownName a0 w3 z4 (fun r6 w7 z8 => isO w7 a0 5 ∧ F_X1_failed a0 w7 z8 (fun r10 w11 z12 => (¬ r10 = 0 → B_X1_readInspect_32 a0 Q r6 a0 w11 z12) ∧
  (r10 = 0 → ∃ q14, fld w11 a0 5 0 = some (.ref (q14)) ∧ isO w11 q14 7 ∧ F_X3_canInspect q14 r6 w11 z12 (fun r16 w17 z18 => (r16 = 0 → B_X1_readInspect_32 a0 Q r6 a0 w17 z18) ∧
  (¬ r16 = 0 → B_X1_readInspect_33 a0 Q r6 1 a0 w17 z18))))))
set_option maxRecDepth 100000 in
set_option maxHeartbeats 4000000 in
theorem ct_X1_readInspect {l : Launch} {g : Gp} {d : Nat} (hst : l.stackTraces = false) {a0 : Nat} {w : Mm} {z mc ms : Nat} {Q : Mm → Nat → Prop} {X : String → Mm → Nat → Prop} (h : F_X1_readInspect a0 w z Q) : Ct l g yX1_readInspect (.code yX1_readInspect cX1_readInspect 2 none) (d + 7) mc ms [.ref (a0)] w z (rV Q) X := by
  refine Ct.of hst (by decide) (Nat.le_of_ble_eq_true rfl) (fun C hX hE hg hl hNm => ?_)
  subst hg
  subst hl
  unfold F_X1_readInspect at h
  show VW C 0 [(0, .ref (a0))] [] w z mc ms
  refine vw_aload_n hX 0 dX1_readInspect_0 rfl ?_
  obtain ⟨hr1, h⟩ := h
  refine s_X1_32 hX hr1 dX1_readInspect_1 (Nat.le_of_ble_eq_true rfl) (ct_X1_advance (d := d + 5) (lst hX) h) (fun w3 z4 h => ?_)
  refine vw_aload_n hX 0 dX1_readInspect_4 rfl ?_
  obtain ⟨hr5, h⟩ := h
  refine s_X1_196 hX hr5 dX1_readInspect_5 (Nat.le_of_ble_eq_true rfl) (ct_X1_readKnownName (d := d + 0) (lst hX) h) (fun r6 w7 z8 h => ?_)
  refine vw_istore_n hX dX1_readInspect_8 (by decide) rfl ?_
  refine vw_aload_n hX 1 dX1_readInspect_9 rfl ?_
  refine vw_aload_n hX 1 dX1_readInspect_10 rfl ?_
  obtain ⟨hr9, h⟩ := h
  refine s_X1_35 hX hr9 dX1_readInspect_11 (Nat.le_of_ble_eq_true rfl) (ct_X1_failed (d := d + 6) (lst hX) h) (fun r10 w11 z12 h => ?_)
  refine vw_if_ne hX (tgt := 32) dX1_readInspect_14 (by decide) (fun c13 => ?_) (fun c13 => ?_)
  · have h := h.1 c13
    exact vw_sub [1, 0] rfl (pB_X1_readInspect_32 hX hE _ _ _ _ _ _ h)
  · have h := h.2 c13
    refine vw_aload_n hX 1 dX1_readInspect_17 rfl ?_
    obtain ⟨q14, hq14, h⟩ := h
    refine g_X1_19 hX hq14 dX1_readInspect_18 ?_
    refine vw_iload_n hX 0 dX1_readInspect_21 rfl ?_
    obtain ⟨hr15, h⟩ := h
    refine s_X1_226 hX hr15 dX1_readInspect_22 (Nat.le_of_ble_eq_true rfl) (ct_X3_canInspect (d := d + 5) (lst hX) h) (fun r16 w17 z18 h => ?_)
    refine vw_if_eq hX (tgt := 32) dX1_readInspect_25 (by decide) (fun c19 => ?_) (fun c19 => ?_)
    · have h := h.1 c19
      exact vw_sub [1, 0] rfl (pB_X1_readInspect_32 hX hE _ _ _ _ _ _ h)
    · have h := h.2 c19
      refine vw_iconst hX (v := 1) dX1_readInspect_28 (by decide) ?_
      refine vw_goto hX (tgt := 33) dX1_readInspect_29 (by decide) ?_
      exact vw_sub [1, 0] rfl (pB_X1_readInspect_33 hX hE _ _ _ _ _ _ _ h)
def F_X1_readWait (a0 : Nat) (w : Mm) (z : Nat) (Q : Mm → Nat → Prop) : Prop :=
  isO w a0 5 ∧ F_X1_advance a0 w z (fun w3 z4 => ∃ q5, fld w3 a0 5 0 = some (.ref (q5)) ∧ ∃ v6, fld w3 q5 7 0 = some (.int (v6)) ∧ isO w3 a0 5 ∧ F_X1_readNumber a0 1 ((jmin 9999 ((99999 - v6)))) w3 z4 (fun r8 w9 z10 => isO w9 a0 5 ∧ F_X1_readSemicolon a0 1 w9 z10 (fun r12 w13 z14 => (r12 = 0 → Q w13 z14) ∧
  (¬ r12 = 0 → ∃ q16, fld w13 a0 5 0 = some (.ref (q16)) ∧ ∃ v17, fld w13 q16 7 0 = some (.int (v17)) ∧ ∃ f18, obj w13 q16 7 = some f18 ∧ 0 < f18.length ∧ ∀ w19, w19 = mset w13 q16 (.inl (7, f18.set 0 (.int ((v17 + r8))))) → Q w19 z14))))
set_option maxRecDepth 100000 in
set_option maxHeartbeats 4000000 in
theorem ct_X1_readWait {l : Launch} {g : Gp} {d : Nat} (hst : l.stackTraces = false) {a0 : Nat} {w : Mm} {z mc ms : Nat} {Q : Mm → Nat → Prop} {X : String → Mm → Nat → Prop} (h : F_X1_readWait a0 w z Q) : Ct l g yX1_readWait (.code yX1_readWait cX1_readWait 2 none) (d + 3) mc ms [.ref (a0)] w z (rV Q) X := by
  refine Ct.of hst (by decide) (Nat.le_of_ble_eq_true rfl) (fun C hX hE hg hl hNm => ?_)
  subst hg
  subst hl
  unfold F_X1_readWait at h
  show VW C 0 [(0, .ref (a0))] [] w z mc ms
  refine vw_aload_n hX 0 dX1_readWait_0 rfl ?_
  obtain ⟨hr1, h⟩ := h
  refine s_X1_32 hX hr1 dX1_readWait_1 (Nat.le_of_ble_eq_true rfl) (ct_X1_advance (d := d + 1) (lst hX) h) (fun w3 z4 h => ?_)
  refine vw_aload_n hX 0 dX1_readWait_4 rfl ?_
  refine vw_iconst hX (v := 1) dX1_readWait_5 (by decide) ?_
  refine vw_sipush hX (v := 9999) dX1_readWait_6 (by decide) ?_
  refine vw_ldcI hX kw_726 dX1_readWait_9 ?_
  refine vw_aload_n hX 0 dX1_readWait_11 rfl ?_
  obtain ⟨q5, hq5, h⟩ := h
  refine g_X1_19 hX hq5 dX1_readWait_12 ?_
  obtain ⟨v6, hv6, h⟩ := h
  refine g_X1_232 hX hv6 dX1_readWait_15 ?_
  refine vw_isub hX dX1_readWait_18 ?_
  refine vw_mmin hX kw_358 (Nat.le_of_ble_eq_true rfl) dX1_readWait_19 ?_
  obtain ⟨hr7, h⟩ := h
  refine s_X1_84 hX hr7 dX1_readWait_22 (Nat.le_of_ble_eq_true rfl) (ct_X1_readNumber (d := d + 0) (lst hX) h) (fun r8 w9 z10 h => ?_)
  refine vw_istore_n hX dX1_readWait_25 (by decide) rfl ?_
  refine vw_aload_n hX 1 dX1_readWait_26 rfl ?_
  refine vw_iconst hX (v := 1) dX1_readWait_27 (by decide) ?_
  obtain ⟨hr11, h⟩ := h
  refine s_X1_100 hX hr11 dX1_readWait_28 (Nat.le_of_ble_eq_true rfl) (ct_X1_readSemicolon (d := d + 0) (lst hX) h) (fun r12 w13 z14 h => ?_)
  refine vw_if_eq hX (tgt := 47) dX1_readWait_31 (by decide) (fun c15 => ?_) (fun c15 => ?_)
  · have h := h.1 c15
    exact vw_vret hX hE dX1_readWait_47 ⟨rfl, h⟩
  · have h := h.2 c15
    refine vw_aload_n hX 1 dX1_readWait_34 rfl ?_
    obtain ⟨q16, hq16, h⟩ := h
    refine g_X1_19 hX hq16 dX1_readWait_35 ?_
    refine vw_dup hX dX1_readWait_38 rfl ?_
    obtain ⟨v17, hv17, h⟩ := h
    refine g_X1_232 hX hv17 dX1_readWait_39 ?_
    refine vw_iload_n hX 0 dX1_readWait_42 rfl ?_
    refine vw_iadd hX dX1_readWait_43 ?_
    obtain ⟨f18, hf18, hlf18, h⟩ := h
    refine p_X1_232 hX hf18 hlf18 dX1_readWait_44 ?_
    refine vw_nmW (fun w19 ew19 => ?_)
    have h := h w19 ew19
    exact vw_vret hX hE dX1_readWait_47 ⟨rfl, h⟩
def B_X1_readAppeal_38 (a0 : Nat) (Q : Mm → Nat → Prop) (x1 : Int32) (x2 : Int32) (y0 : Int32) (y1 : Nat) (w : Mm) (z : Nat) : Prop :=
  isO w y1 5 ∧ F_X1_readSemicolon y1 y0 w z (fun r2 w3 z4 => (r2 = 0 → Q w3 z4) ∧
  (¬ r2 = 0 → ∃ q6, fld w3 a0 5 0 = some (.ref (q6)) ∧ isO w3 q6 7 ∧ F_X3_beginAppeal q6 x1 x2 w3 z4 (fun r8 w9 z10 => Q w9 z10)))
set_option maxRecDepth 100000 in
set_option maxHeartbeats 4000000 in
theorem pB_X1_readAppeal_38 {C : Cx} {d : Nat} {a0 : Nat} {Q : Mm → Nat → Prop} {X : String → Mm → Nat → Prop} (hX : CX C cX1_readAppeal RX1 3 none [] (d + 4)) (hE : EQ C (rV Q) X) : ∀ (x1 : Int32) (x2 : Int32) (y0 : Int32) (y1 : Nat) (w : Mm) (z mc ms : Nat), B_X1_readAppeal_38 a0 Q x1 x2 y0 y1 w z → VW C 38 [(0, .ref (a0)), (1, .int (x1)), (2, .int (x2))] [.int (y0), .ref (y1)] w z mc ms := by
  intro x1 x2 y0 y1 w z mc ms h
  unfold B_X1_readAppeal_38 at h
  obtain ⟨hr1, h⟩ := h
  refine s_X1_100 hX hr1 dX1_readAppeal_38 (Nat.le_of_ble_eq_true rfl) (ct_X1_readSemicolon (d := d + 1) (lst hX) h) (fun r2 w3 z4 h => ?_)
  refine vw_if_eq hX (tgt := 54) dX1_readAppeal_41 (by decide) (fun c5 => ?_) (fun c5 => ?_)
  · have h := h.1 c5
    exact vw_vret hX hE dX1_readAppeal_54 ⟨rfl, h⟩
  · have h := h.2 c5
    refine vw_aload_n hX 0 dX1_readAppeal_44 rfl ?_
    obtain ⟨q6, hq6, h⟩ := h
    refine g_X1_19 hX hq6 dX1_readAppeal_45 ?_
    refine vw_iload_n hX 1 dX1_readAppeal_48 rfl ?_
    refine vw_iload_n hX 2 dX1_readAppeal_49 rfl ?_
    obtain ⟨hr7, h⟩ := h
    refine s_X1_241 hX hr7 dX1_readAppeal_50 (Nat.le_of_ble_eq_true rfl) (ct_X3_beginAppeal (d := d + 3) (lst hX) h) (fun r8 w9 z10 h => ?_)
    refine vw_pop hX dX1_readAppeal_53 rfl ?_
    exact vw_vret hX hE dX1_readAppeal_54 ⟨rfl, h⟩
def B_X1_readAppeal_37 (a0 : Nat) (Q : Mm → Nat → Prop) (x1 : Int32) (x2 : Int32) (y0 : Nat) (w : Mm) (z : Nat) : Prop :=
  B_X1_readAppeal_38 a0 Q x1 x2 0 y0 w z
set_option maxRecDepth 100000 in
set_option maxHeartbeats 4000000 in
theorem pB_X1_readAppeal_37 {C : Cx} {d : Nat} {a0 : Nat} {Q : Mm → Nat → Prop} {X : String → Mm → Nat → Prop} (hX : CX C cX1_readAppeal RX1 3 none [] (d + 4)) (hE : EQ C (rV Q) X) : ∀ (x1 : Int32) (x2 : Int32) (y0 : Nat) (w : Mm) (z mc ms : Nat), B_X1_readAppeal_37 a0 Q x1 x2 y0 w z → VW C 37 [(0, .ref (a0)), (1, .int (x1)), (2, .int (x2))] [.ref (y0)] w z mc ms := by
  intro x1 x2 y0 w z mc ms h
  unfold B_X1_readAppeal_37 at h
  refine vw_iconst hX (v := 0) dX1_readAppeal_37 (by decide) ?_
  exact pB_X1_readAppeal_38 hX hE _ _ _ _ _ _ _ _ h
def F_X1_readAppeal (a0 : Nat) (w : Mm) (z : Nat) (Q : Mm → Nat → Prop) : Prop :=
  isO w a0 5 ∧ F_X1_advance a0 w z (fun w3 z4 => isO w3 a0 5 ∧ F_X1_readCase a0 w3 z4 (fun r6 w7 z8 => isO w7 a0 5 ∧ F_X1_readTicket a0 w7 z8 (fun r10 w11 z12 => isO w11 a0 5 ∧ F_X1_failed a0 w11 z12 (fun r14 w15 z16 => (¬ r14 = 0 → B_X1_readAppeal_37 a0 Q r6 r10 a0 w15 z16) ∧
  (r14 = 0 → ∃ q18, fld w15 a0 5 0 = some (.ref (q18)) ∧ isO w15 q18 7 ∧ F_X3_canAppeal q18 r6 w15 z16 (fun r20 w21 z22 => (r20 = 0 → B_X1_readAppeal_37 a0 Q r6 r10 a0 w21 z22) ∧
  (¬ r20 = 0 → B_X1_readAppeal_38 a0 Q r6 r10 1 a0 w21 z22)))))))
set_option maxRecDepth 100000 in
set_option maxHeartbeats 4000000 in
theorem ct_X1_readAppeal {l : Launch} {g : Gp} {d : Nat} (hst : l.stackTraces = false) {a0 : Nat} {w : Mm} {z mc ms : Nat} {Q : Mm → Nat → Prop} {X : String → Mm → Nat → Prop} (h : F_X1_readAppeal a0 w z Q) : Ct l g yX1_readAppeal (.code yX1_readAppeal cX1_readAppeal 3 none) (d + 4) mc ms [.ref (a0)] w z (rV Q) X := by
  refine Ct.of hst (by decide) (Nat.le_of_ble_eq_true rfl) (fun C hX hE hg hl hNm => ?_)
  subst hg
  subst hl
  unfold F_X1_readAppeal at h
  show VW C 0 [(0, .ref (a0))] [] w z mc ms
  refine vw_aload_n hX 0 dX1_readAppeal_0 rfl ?_
  obtain ⟨hr1, h⟩ := h
  refine s_X1_32 hX hr1 dX1_readAppeal_1 (Nat.le_of_ble_eq_true rfl) (ct_X1_advance (d := d + 2) (lst hX) h) (fun w3 z4 h => ?_)
  refine vw_aload_n hX 0 dX1_readAppeal_4 rfl ?_
  obtain ⟨hr5, h⟩ := h
  refine s_X1_235 hX hr5 dX1_readAppeal_5 (Nat.le_of_ble_eq_true rfl) (ct_X1_readCase (d := d + 0) (lst hX) h) (fun r6 w7 z8 h => ?_)
  refine vw_istore_n hX dX1_readAppeal_8 (by decide) rfl ?_
  refine vw_aload_n hX 1 dX1_readAppeal_9 rfl ?_
  obtain ⟨hr9, h⟩ := h
  refine s_X1_215 hX hr9 dX1_readAppeal_10 (Nat.le_of_ble_eq_true rfl) (ct_X1_readTicket (d := d + 0) (lst hX) h) (fun r10 w11 z12 h => ?_)
  refine vw_istore_n hX dX1_readAppeal_13 (by decide) rfl ?_
  refine vw_aload_n hX 2 dX1_readAppeal_14 rfl ?_
  refine vw_aload_n hX 2 dX1_readAppeal_15 rfl ?_
  obtain ⟨hr13, h⟩ := h
  refine s_X1_35 hX hr13 dX1_readAppeal_16 (Nat.le_of_ble_eq_true rfl) (ct_X1_failed (d := d + 3) (lst hX) h) (fun r14 w15 z16 h => ?_)
  refine vw_if_ne hX (tgt := 37) dX1_readAppeal_19 (by decide) (fun c17 => ?_) (fun c17 => ?_)
  · have h := h.1 c17
    exact vw_sub [2, 1, 0] rfl (pB_X1_readAppeal_37 hX hE _ _ _ _ _ _ _ h)
  · have h := h.2 c17
    refine vw_aload_n hX 2 dX1_readAppeal_22 rfl ?_
    obtain ⟨q18, hq18, h⟩ := h
    refine g_X1_19 hX hq18 dX1_readAppeal_23 ?_
    refine vw_iload_n hX 1 dX1_readAppeal_26 rfl ?_
    obtain ⟨hr19, h⟩ := h
    refine s_X1_238 hX hr19 dX1_readAppeal_27 (Nat.le_of_ble_eq_true rfl) (ct_X3_canAppeal (d := d + 2) (lst hX) h) (fun r20 w21 z22 h => ?_)
    refine vw_if_eq hX (tgt := 37) dX1_readAppeal_30 (by decide) (fun c23 => ?_) (fun c23 => ?_)
    · have h := h.1 c23
      exact vw_sub [2, 1, 0] rfl (pB_X1_readAppeal_37 hX hE _ _ _ _ _ _ _ h)
    · have h := h.2 c23
      refine vw_iconst hX (v := 1) dX1_readAppeal_33 (by decide) ?_
      refine vw_goto hX (tgt := 38) dX1_readAppeal_34 (by decide) ?_
      exact vw_sub [2, 1, 0] rfl (pB_X1_readAppeal_38 hX hE _ _ _ _ _ _ _ _ h)
def B_X1_readDecide_33 (a0 : Nat) (Q : Mm → Nat → Prop) (x1 : Int32) (y0 : Int32) (y1 : Nat) (w : Mm) (z : Nat) : Prop :=
  isO w y1 5 ∧ F_X1_readSemicolon y1 y0 w z (fun r2 w3 z4 => (r2 = 0 → Q w3 z4) ∧
  (¬ r2 = 0 → ∃ q6, fld w3 a0 5 0 = some (.ref (q6)) ∧ isO w3 q6 7 ∧ F_X3_decideAppeal q6 x1 w3 z4 (fun r8 w9 z10 => Q w9 z10)))
set_option maxRecDepth 100000 in
set_option maxHeartbeats 4000000 in
theorem pB_X1_readDecide_33 {C : Cx} {d : Nat} {a0 : Nat} {Q : Mm → Nat → Prop} {X : String → Mm → Nat → Prop} (hX : CX C cX1_readDecide RX1 2 none [] (d + 4)) (hE : EQ C (rV Q) X) : ∀ (x1 : Int32) (y0 : Int32) (y1 : Nat) (w : Mm) (z mc ms : Nat), B_X1_readDecide_33 a0 Q x1 y0 y1 w z → VW C 33 [(0, .ref (a0)), (1, .int (x1))] [.int (y0), .ref (y1)] w z mc ms := by
  intro x1 y0 y1 w z mc ms h
  unfold B_X1_readDecide_33 at h
  obtain ⟨hr1, h⟩ := h
  refine s_X1_100 hX hr1 dX1_readDecide_33 (Nat.le_of_ble_eq_true rfl) (ct_X1_readSemicolon (d := d + 1) (lst hX) h) (fun r2 w3 z4 h => ?_)
  refine vw_if_eq hX (tgt := 48) dX1_readDecide_36 (by decide) (fun c5 => ?_) (fun c5 => ?_)
  · have h := h.1 c5
    exact vw_vret hX hE dX1_readDecide_48 ⟨rfl, h⟩
  · have h := h.2 c5
    refine vw_aload_n hX 0 dX1_readDecide_39 rfl ?_
    obtain ⟨q6, hq6, h⟩ := h
    refine g_X1_19 hX hq6 dX1_readDecide_40 ?_
    refine vw_iload_n hX 1 dX1_readDecide_43 rfl ?_
    obtain ⟨hr7, h⟩ := h
    refine s_X1_247 hX hr7 dX1_readDecide_44 (Nat.le_of_ble_eq_true rfl) (ct_X3_decideAppeal (d := d + 0) (lst hX) h) (fun r8 w9 z10 h => ?_)
    refine vw_pop hX dX1_readDecide_47 rfl ?_
    exact vw_vret hX hE dX1_readDecide_48 ⟨rfl, h⟩
def B_X1_readDecide_32 (a0 : Nat) (Q : Mm → Nat → Prop) (x1 : Int32) (y0 : Nat) (w : Mm) (z : Nat) : Prop :=
  B_X1_readDecide_33 a0 Q x1 0 y0 w z
set_option maxRecDepth 100000 in
set_option maxHeartbeats 4000000 in
theorem pB_X1_readDecide_32 {C : Cx} {d : Nat} {a0 : Nat} {Q : Mm → Nat → Prop} {X : String → Mm → Nat → Prop} (hX : CX C cX1_readDecide RX1 2 none [] (d + 4)) (hE : EQ C (rV Q) X) : ∀ (x1 : Int32) (y0 : Nat) (w : Mm) (z mc ms : Nat), B_X1_readDecide_32 a0 Q x1 y0 w z → VW C 32 [(0, .ref (a0)), (1, .int (x1))] [.ref (y0)] w z mc ms := by
  intro x1 y0 w z mc ms h
  unfold B_X1_readDecide_32 at h
  refine vw_iconst hX (v := 0) dX1_readDecide_32 (by decide) ?_
  exact pB_X1_readDecide_33 hX hE _ _ _ _ _ _ _ h
def F_X1_readDecide (a0 : Nat) (w : Mm) (z : Nat) (Q : Mm → Nat → Prop) : Prop :=
  isO w a0 5 ∧ F_X1_advance a0 w z (fun w3 z4 => isO w3 a0 5 ∧ F_X1_readCase a0 w3 z4 (fun r6 w7 z8 => isO w7 a0 5 ∧ F_X1_failed a0 w7 z8 (fun r10 w11 z12 => (¬ r10 = 0 → B_X1_readDecide_32 a0 Q r6 a0 w11 z12) ∧
  (r10 = 0 → ∃ q14, fld w11 a0 5 0 = some (.ref (q14)) ∧ isO w11 q14 7 ∧ F_X3_canDecide q14 r6 w11 z12 (fun r16 w17 z18 => (r16 = 0 → B_X1_readDecide_32 a0 Q r6 a0 w17 z18) ∧
  (¬ r16 = 0 → B_X1_readDecide_33 a0 Q r6 1 a0 w17 z18))))))
set_option maxRecDepth 100000 in
set_option maxHeartbeats 4000000 in
theorem ct_X1_readDecide {l : Launch} {g : Gp} {d : Nat} (hst : l.stackTraces = false) {a0 : Nat} {w : Mm} {z mc ms : Nat} {Q : Mm → Nat → Prop} {X : String → Mm → Nat → Prop} (h : F_X1_readDecide a0 w z Q) : Ct l g yX1_readDecide (.code yX1_readDecide cX1_readDecide 2 none) (d + 4) mc ms [.ref (a0)] w z (rV Q) X := by
  refine Ct.of hst (by decide) (Nat.le_of_ble_eq_true rfl) (fun C hX hE hg hl hNm => ?_)
  subst hg
  subst hl
  unfold F_X1_readDecide at h
  show VW C 0 [(0, .ref (a0))] [] w z mc ms
  refine vw_aload_n hX 0 dX1_readDecide_0 rfl ?_
  obtain ⟨hr1, h⟩ := h
  refine s_X1_32 hX hr1 dX1_readDecide_1 (Nat.le_of_ble_eq_true rfl) (ct_X1_advance (d := d + 2) (lst hX) h) (fun w3 z4 h => ?_)
  refine vw_aload_n hX 0 dX1_readDecide_4 rfl ?_
  obtain ⟨hr5, h⟩ := h
  refine s_X1_235 hX hr5 dX1_readDecide_5 (Nat.le_of_ble_eq_true rfl) (ct_X1_readCase (d := d + 0) (lst hX) h) (fun r6 w7 z8 h => ?_)
  refine vw_istore_n hX dX1_readDecide_8 (by decide) rfl ?_
  refine vw_aload_n hX 1 dX1_readDecide_9 rfl ?_
  refine vw_aload_n hX 1 dX1_readDecide_10 rfl ?_
  obtain ⟨hr9, h⟩ := h
  refine s_X1_35 hX hr9 dX1_readDecide_11 (Nat.le_of_ble_eq_true rfl) (ct_X1_failed (d := d + 3) (lst hX) h) (fun r10 w11 z12 h => ?_)
  refine vw_if_ne hX (tgt := 32) dX1_readDecide_14 (by decide) (fun c13 => ?_) (fun c13 => ?_)
  · have h := h.1 c13
    exact vw_sub [1, 0] rfl (pB_X1_readDecide_32 hX hE _ _ _ _ _ _ h)
  · have h := h.2 c13
    refine vw_aload_n hX 1 dX1_readDecide_17 rfl ?_
    obtain ⟨q14, hq14, h⟩ := h
    refine g_X1_19 hX hq14 dX1_readDecide_18 ?_
    refine vw_iload_n hX 0 dX1_readDecide_21 rfl ?_
    obtain ⟨hr15, h⟩ := h
    refine s_X1_244 hX hr15 dX1_readDecide_22 (Nat.le_of_ble_eq_true rfl) (ct_X3_canDecide (d := d + 3) (lst hX) h) (fun r16 w17 z18 h => ?_)
    refine vw_if_eq hX (tgt := 32) dX1_readDecide_25 (by decide) (fun c19 => ?_) (fun c19 => ?_)
    · have h := h.1 c19
      exact vw_sub [1, 0] rfl (pB_X1_readDecide_32 hX hE _ _ _ _ _ _ h)
    · have h := h.2 c19
      refine vw_iconst hX (v := 1) dX1_readDecide_28 (by decide) ?_
      refine vw_goto hX (tgt := 33) dX1_readDecide_29 (by decide) ?_
      exact vw_sub [1, 0] rfl (pB_X1_readDecide_33 hX hE _ _ _ _ _ _ _ h)
def B_X1_readPay_33 (a0 : Nat) (Q : Mm → Nat → Prop) (x1 : Int32) (y0 : Int32) (y1 : Nat) (w : Mm) (z : Nat) : Prop :=
  isO w y1 5 ∧ F_X1_readSemicolon y1 y0 w z (fun r2 w3 z4 => (r2 = 0 → Q w3 z4) ∧
  (¬ r2 = 0 → ∃ q6, fld w3 a0 5 0 = some (.ref (q6)) ∧ isO w3 q6 7 ∧ F_X3_payCase q6 x1 w3 z4 (fun r8 w9 z10 => Q w9 z10)))
set_option maxRecDepth 100000 in
set_option maxHeartbeats 4000000 in
theorem pB_X1_readPay_33 {C : Cx} {d : Nat} {a0 : Nat} {Q : Mm → Nat → Prop} {X : String → Mm → Nat → Prop} (hX : CX C cX1_readPay RX1 2 none [] (d + 4)) (hE : EQ C (rV Q) X) : ∀ (x1 : Int32) (y0 : Int32) (y1 : Nat) (w : Mm) (z mc ms : Nat), B_X1_readPay_33 a0 Q x1 y0 y1 w z → VW C 33 [(0, .ref (a0)), (1, .int (x1))] [.int (y0), .ref (y1)] w z mc ms := by
  intro x1 y0 y1 w z mc ms h
  unfold B_X1_readPay_33 at h
  obtain ⟨hr1, h⟩ := h
  refine s_X1_100 hX hr1 dX1_readPay_33 (Nat.le_of_ble_eq_true rfl) (ct_X1_readSemicolon (d := d + 1) (lst hX) h) (fun r2 w3 z4 h => ?_)
  refine vw_if_eq hX (tgt := 48) dX1_readPay_36 (by decide) (fun c5 => ?_) (fun c5 => ?_)
  · have h := h.1 c5
    exact vw_vret hX hE dX1_readPay_48 ⟨rfl, h⟩
  · have h := h.2 c5
    refine vw_aload_n hX 0 dX1_readPay_39 rfl ?_
    obtain ⟨q6, hq6, h⟩ := h
    refine g_X1_19 hX hq6 dX1_readPay_40 ?_
    refine vw_iload_n hX 1 dX1_readPay_43 rfl ?_
    obtain ⟨hr7, h⟩ := h
    refine s_X1_253 hX hr7 dX1_readPay_44 (Nat.le_of_ble_eq_true rfl) (ct_X3_payCase (d := d + 1) (lst hX) h) (fun r8 w9 z10 h => ?_)
    refine vw_pop hX dX1_readPay_47 rfl ?_
    exact vw_vret hX hE dX1_readPay_48 ⟨rfl, h⟩
def B_X1_readPay_32 (a0 : Nat) (Q : Mm → Nat → Prop) (x1 : Int32) (y0 : Nat) (w : Mm) (z : Nat) : Prop :=
  B_X1_readPay_33 a0 Q x1 0 y0 w z
set_option maxRecDepth 100000 in
set_option maxHeartbeats 4000000 in
theorem pB_X1_readPay_32 {C : Cx} {d : Nat} {a0 : Nat} {Q : Mm → Nat → Prop} {X : String → Mm → Nat → Prop} (hX : CX C cX1_readPay RX1 2 none [] (d + 4)) (hE : EQ C (rV Q) X) : ∀ (x1 : Int32) (y0 : Nat) (w : Mm) (z mc ms : Nat), B_X1_readPay_32 a0 Q x1 y0 w z → VW C 32 [(0, .ref (a0)), (1, .int (x1))] [.ref (y0)] w z mc ms := by
  intro x1 y0 w z mc ms h
  unfold B_X1_readPay_32 at h
  refine vw_iconst hX (v := 0) dX1_readPay_32 (by decide) ?_
  exact pB_X1_readPay_33 hX hE _ _ _ _ _ _ _ h
def F_X1_readPay (a0 : Nat) (w : Mm) (z : Nat) (Q : Mm → Nat → Prop) : Prop :=
  isO w a0 5 ∧ F_X1_advance a0 w z (fun w3 z4 => isO w3 a0 5 ∧ F_X1_readCase a0 w3 z4 (fun r6 w7 z8 => isO w7 a0 5 ∧ F_X1_failed a0 w7 z8 (fun r10 w11 z12 => (¬ r10 = 0 → B_X1_readPay_32 a0 Q r6 a0 w11 z12) ∧
  (r10 = 0 → ∃ q14, fld w11 a0 5 0 = some (.ref (q14)) ∧ isO w11 q14 7 ∧ F_X3_canPay q14 r6 w11 z12 (fun r16 w17 z18 => (r16 = 0 → B_X1_readPay_32 a0 Q r6 a0 w17 z18) ∧
  (¬ r16 = 0 → B_X1_readPay_33 a0 Q r6 1 a0 w17 z18))))))
set_option maxRecDepth 100000 in
set_option maxHeartbeats 4000000 in
theorem ct_X1_readPay {l : Launch} {g : Gp} {d : Nat} (hst : l.stackTraces = false) {a0 : Nat} {w : Mm} {z mc ms : Nat} {Q : Mm → Nat → Prop} {X : String → Mm → Nat → Prop} (h : F_X1_readPay a0 w z Q) : Ct l g yX1_readPay (.code yX1_readPay cX1_readPay 2 none) (d + 4) mc ms [.ref (a0)] w z (rV Q) X := by
  refine Ct.of hst (by decide) (Nat.le_of_ble_eq_true rfl) (fun C hX hE hg hl hNm => ?_)
  subst hg
  subst hl
  unfold F_X1_readPay at h
  show VW C 0 [(0, .ref (a0))] [] w z mc ms
  refine vw_aload_n hX 0 dX1_readPay_0 rfl ?_
  obtain ⟨hr1, h⟩ := h
  refine s_X1_32 hX hr1 dX1_readPay_1 (Nat.le_of_ble_eq_true rfl) (ct_X1_advance (d := d + 2) (lst hX) h) (fun w3 z4 h => ?_)
  refine vw_aload_n hX 0 dX1_readPay_4 rfl ?_
  obtain ⟨hr5, h⟩ := h
  refine s_X1_235 hX hr5 dX1_readPay_5 (Nat.le_of_ble_eq_true rfl) (ct_X1_readCase (d := d + 0) (lst hX) h) (fun r6 w7 z8 h => ?_)
  refine vw_istore_n hX dX1_readPay_8 (by decide) rfl ?_
  refine vw_aload_n hX 1 dX1_readPay_9 rfl ?_
  refine vw_aload_n hX 1 dX1_readPay_10 rfl ?_
  obtain ⟨hr9, h⟩ := h
  refine s_X1_35 hX hr9 dX1_readPay_11 (Nat.le_of_ble_eq_true rfl) (ct_X1_failed (d := d + 3) (lst hX) h) (fun r10 w11 z12 h => ?_)
  refine vw_if_ne hX (tgt := 32) dX1_readPay_14 (by decide) (fun c13 => ?_) (fun c13 => ?_)
  · have h := h.1 c13
    exact vw_sub [1, 0] rfl (pB_X1_readPay_32 hX hE _ _ _ _ _ _ h)
  · have h := h.2 c13
    refine vw_aload_n hX 1 dX1_readPay_17 rfl ?_
    obtain ⟨q14, hq14, h⟩ := h
    refine g_X1_19 hX hq14 dX1_readPay_18 ?_
    refine vw_iload_n hX 0 dX1_readPay_21 rfl ?_
    obtain ⟨hr15, h⟩ := h
    refine s_X1_250 hX hr15 dX1_readPay_22 (Nat.le_of_ble_eq_true rfl) (ct_X3_canPay (d := d + 1) (lst hX) h) (fun r16 w17 z18 h => ?_)
    refine vw_if_eq hX (tgt := 32) dX1_readPay_25 (by decide) (fun c19 => ?_) (fun c19 => ?_)
    · have h := h.1 c19
      exact vw_sub [1, 0] rfl (pB_X1_readPay_32 hX hE _ _ _ _ _ _ h)
    · have h := h.2 c19
      refine vw_iconst hX (v := 1) dX1_readPay_28 (by decide) ?_
      refine vw_goto hX (tgt := 33) dX1_readPay_29 (by decide) ?_
      exact vw_sub [1, 0] rfl (pB_X1_readPay_33 hX hE _ _ _ _ _ _ _ h)
def B_X1_readCommands_141 (a0 : Nat) (K2 : Int32 → Mm → Nat → Prop) (Q : Int32 → Mm → Nat → Prop) (x1 : Int32) (w : Mm) (z : Nat) : Prop :=
  K2 ((x1 + 1)) w z
set_option maxRecDepth 100000 in
set_option maxHeartbeats 4000000 in
theorem pB_X1_readCommands_141 {C : Cx} {d : Nat} {a0 : Nat} {K2 : Int32 → Mm → Nat → Prop} {Q : Int32 → Mm → Nat → Prop} {X : String → Mm → Nat → Prop} (hX : CX C cX1_readCommands RX1 2 (some .int) [] (d + 8)) (hE : EQ C (rI Q) X) (hK2 : ∀ (x1 : Int32) (w : Mm) (z mc ms : Nat), K2 x1 w z → VW C 2 [(0, .ref (a0)), (1, .int (x1))] [] w z mc ms) : ∀ (x1 : Int32) (w : Mm) (z mc ms : Nat), B_X1_readCommands_141 a0 K2 Q x1 w z → VW C 141 [(0, .ref (a0)), (1, .int (x1))] [] w z mc ms := by
  intro x1 w z mc ms h
  unfold B_X1_readCommands_141 at h
  refine vw_iinc hX 1 (v := x1 + 1) dX1_readCommands_141 rfl rfl (by decide) rfl ?_
  refine vw_goto hX (tgt := 2) dX1_readCommands_144 (by decide) ?_
  exact vw_sub [1, 0] rfl (hK2 _ _ _ _ _ h)
def B_X1_readCommands_2 (a0 : Nat) (Q : Int32 → Mm → Nat → Prop) : Nat → Int32 → Mm → Nat → Prop
  | 0, _, _, _ => False
  | n + 1, x1, w, z => (700 ≤ x1 → Q x1 w z) ∧
  (¬ 700 ≤ x1 → isO w a0 5 ∧ F_X1_failed a0 w z (fun r3 w4 z5 => (¬ r3 = 0 → Q x1 w4 z5) ∧
  (r3 = 0 → ∃ v7, fld w4 a0 5 5 = some (.int (v7)) ∧ (v7 = 0 → Q x1 w4 z5) ∧
  (¬ v7 = 0 → ∀ q9, isLit w4 q9 lit_6 → isO w4 a0 5 ∧ F_X1_tokenIs a0 q9 w4 z5 (fun r11 w12 z13 => (r11 = 0 → ∀ q15, isLit w12 q15 lit_10 → isO w12 a0 5 ∧ F_X1_tokenIs a0 q15 w12 z13 (fun r17 w18 z19 => (r17 = 0 → ∀ q21, isLit w18 q21 lit_12 → isO w18 a0 5 ∧ F_X1_tokenIs a0 q21 w18 z19 (fun r23 w24 z25 => (r23 = 0 → ∀ q27, isLit w24 q27 lit_13 → isO w24 a0 5 ∧ F_X1_tokenIs a0 q27 w24 z25 (fun r29 w30 z31 => (r29 = 0 → ∀ q33, isLit w30 q33 lit_14 → isO w30 a0 5 ∧ F_X1_tokenIs a0 q33 w30 z31 (fun r35 w36 z37 => (r35 = 0 → ∀ q39, isLit w36 q39 lit_15 → isO w36 a0 5 ∧ F_X1_tokenIs a0 q39 w36 z37 (fun r41 w42 z43 => (r41 = 0 → ∀ q45, isLit w42 q45 lit_16 → isO w42 a0 5 ∧ F_X1_tokenIs a0 q45 w42 z43 (fun r47 w48 z49 => (r47 = 0 → isO w48 a0 5 ∧ F_X1_fail a0 1 w48 z49 (fun r52 w53 z54 => B_X1_readCommands_141 a0 (B_X1_readCommands_2 a0 Q n) Q x1 w53 z54)) ∧
  (¬ r47 = 0 → isO w48 a0 5 ∧ F_X1_readPay a0 w48 z49 (fun w57 z58 => B_X1_readCommands_141 a0 (B_X1_readCommands_2 a0 Q n) Q x1 w57 z58)))) ∧
  (¬ r41 = 0 → isO w42 a0 5 ∧ F_X1_readDecide a0 w42 z43 (fun w61 z62 => B_X1_readCommands_141 a0 (B_X1_readCommands_2 a0 Q n) Q x1 w61 z62)))) ∧
  (¬ r35 = 0 → isO w36 a0 5 ∧ F_X1_readAppeal a0 w36 z37 (fun w65 z66 => B_X1_readCommands_141 a0 (B_X1_readCommands_2 a0 Q n) Q x1 w65 z66)))) ∧
  (¬ r29 = 0 → isO w30 a0 5 ∧ F_X1_readWait a0 w30 z31 (fun w69 z70 => B_X1_readCommands_141 a0 (B_X1_readCommands_2 a0 Q n) Q x1 w69 z70)))) ∧
  (¬ r23 = 0 → isO w24 a0 5 ∧ F_X1_readInspect a0 w24 z25 (fun w73 z74 => B_X1_readCommands_141 a0 (B_X1_readCommands_2 a0 Q n) Q x1 w73 z74)))) ∧
  (¬ r17 = 0 → isO w18 a0 5 ∧ F_X1_readRide a0 w18 z19 (fun w77 z78 => B_X1_readCommands_141 a0 (B_X1_readCommands_2 a0 Q n) Q x1 w77 z78)))) ∧
  (¬ r11 = 0 → isO w12 a0 5 ∧ F_X1_readBuy a0 w12 z13 (fun w81 z82 => B_X1_readCommands_141 a0 (B_X1_readCommands_2 a0 Q n) Q x1 w81 z82)))))))
set_option maxRecDepth 100000 in
set_option maxHeartbeats 4000000 in
theorem pB_X1_readCommands_2 {C : Cx} {d : Nat} {a0 : Nat} {Q : Int32 → Mm → Nat → Prop} {X : String → Mm → Nat → Prop} (hX : CX C cX1_readCommands RX1 2 (some .int) [] (d + 8)) (hE : EQ C (rI Q) X) : ∀ (n : Nat) (x1 : Int32) (w : Mm) (z mc ms : Nat), B_X1_readCommands_2 a0 Q n x1 w z → VW C 2 [(0, .ref (a0)), (1, .int (x1))] [] w z mc ms := by
  intro n
  induction n with
  | zero => intro x1 w z mc ms h; exact False.elim h
  | succ n ih =>
    intro x1 w z mc ms h
    unfold B_X1_readCommands_2 at h
    refine vw_iload_n hX 1 dX1_readCommands_2 rfl ?_
    refine vw_sipush hX (v := 700) dX1_readCommands_3 (by decide) ?_
    refine vw_icmp_ge hX (tgt := 147) dX1_readCommands_6 (by decide) (fun c1 => ?_) (fun c1 => ?_)
    · have h := h.1 c1
      refine vw_iload_n hX 1 dX1_readCommands_147 rfl ?_
      exact vw_iret hX hE dX1_readCommands_148 ⟨_, rfl, h⟩
    · have h := h.2 c1
      refine vw_aload_n hX 0 dX1_readCommands_9 rfl ?_
      obtain ⟨hr2, h⟩ := h
      refine s_X1_35 hX hr2 dX1_readCommands_10 (Nat.le_of_ble_eq_true rfl) (ct_X1_failed (d := d + 7) (lst hX) h) (fun r3 w4 z5 h => ?_)
      refine vw_if_ne hX (tgt := 147) dX1_readCommands_13 (by decide) (fun c6 => ?_) (fun c6 => ?_)
      · have h := h.1 c6
        refine vw_iload_n hX 1 dX1_readCommands_147 rfl ?_
        exact vw_iret hX hE dX1_readCommands_148 ⟨_, rfl, h⟩
      · have h := h.2 c6
        refine vw_aload_n hX 0 dX1_readCommands_16 rfl ?_
        obtain ⟨v7, hv7, h⟩ := h
        refine g_X1_42 hX hv7 dX1_readCommands_17 ?_
        refine vw_if_eq hX (tgt := 147) dX1_readCommands_20 (by decide) (fun c8 => ?_) (fun c8 => ?_)
        · have h := h.1 c8
          refine vw_iload_n hX 1 dX1_readCommands_147 rfl ?_
          exact vw_iret hX hE dX1_readCommands_148 ⟨_, rfl, h⟩
        · have h := h.2 c8
          refine vw_aload_n hX 0 dX1_readCommands_23 rfl ?_
          refine l_X1_161 hX dX1_readCommands_24 (fun q9 hq9 => ?_)
          have h := h q9 hq9
          obtain ⟨hr10, h⟩ := h
          refine s_X1_71 hX hr10 dX1_readCommands_26 (Nat.le_of_ble_eq_true rfl) (ct_X1_tokenIs (d := d + 3) (lst hX) h) (fun r11 w12 z13 h => ?_)
          refine vw_if_eq hX (tgt := 39) dX1_readCommands_29 (by decide) (fun c14 => ?_) (fun c14 => ?_)
          · have h := h.1 c14
            refine vw_aload_n hX 0 dX1_readCommands_39 rfl ?_
            refine l_X1_166 hX dX1_readCommands_40 (fun q15 hq15 => ?_)
            have h := h q15 hq15
            obtain ⟨hr16, h⟩ := h
            refine s_X1_71 hX hr16 dX1_readCommands_42 (Nat.le_of_ble_eq_true rfl) (ct_X1_tokenIs (d := d + 3) (lst hX) h) (fun r17 w18 z19 h => ?_)
            refine vw_if_eq hX (tgt := 55) dX1_readCommands_45 (by decide) (fun c20 => ?_) (fun c20 => ?_)
            · have h := h.1 c20
              refine vw_aload_n hX 0 dX1_readCommands_55 rfl ?_
              refine l_X1_171 hX dX1_readCommands_56 (fun q21 hq21 => ?_)
              have h := h q21 hq21
              obtain ⟨hr22, h⟩ := h
              refine s_X1_71 hX hr22 dX1_readCommands_58 (Nat.le_of_ble_eq_true rfl) (ct_X1_tokenIs (d := d + 3) (lst hX) h) (fun r23 w24 z25 h => ?_)
              refine vw_if_eq hX (tgt := 71) dX1_readCommands_61 (by decide) (fun c26 => ?_) (fun c26 => ?_)
              · have h := h.1 c26
                refine vw_aload_n hX 0 dX1_readCommands_71 rfl ?_
                refine l_X1_176 hX dX1_readCommands_72 (fun q27 hq27 => ?_)
                have h := h q27 hq27
                obtain ⟨hr28, h⟩ := h
                refine s_X1_71 hX hr28 dX1_readCommands_74 (Nat.le_of_ble_eq_true rfl) (ct_X1_tokenIs (d := d + 3) (lst hX) h) (fun r29 w30 z31 h => ?_)
                refine vw_if_eq hX (tgt := 87) dX1_readCommands_77 (by decide) (fun c32 => ?_) (fun c32 => ?_)
                · have h := h.1 c32
                  refine vw_aload_n hX 0 dX1_readCommands_87 rfl ?_
                  refine l_X1_181 hX dX1_readCommands_88 (fun q33 hq33 => ?_)
                  have h := h q33 hq33
                  obtain ⟨hr34, h⟩ := h
                  refine s_X1_71 hX hr34 dX1_readCommands_90 (Nat.le_of_ble_eq_true rfl) (ct_X1_tokenIs (d := d + 3) (lst hX) h) (fun r35 w36 z37 h => ?_)
                  refine vw_if_eq hX (tgt := 103) dX1_readCommands_93 (by decide) (fun c38 => ?_) (fun c38 => ?_)
                  · have h := h.1 c38
                    refine vw_aload_n hX 0 dX1_readCommands_103 rfl ?_
                    refine l_X1_186 hX dX1_readCommands_104 (fun q39 hq39 => ?_)
                    have h := h q39 hq39
                    obtain ⟨hr40, h⟩ := h
                    refine s_X1_71 hX hr40 dX1_readCommands_106 (Nat.le_of_ble_eq_true rfl) (ct_X1_tokenIs (d := d + 3) (lst hX) h) (fun r41 w42 z43 h => ?_)
                    refine vw_if_eq hX (tgt := 119) dX1_readCommands_109 (by decide) (fun c44 => ?_) (fun c44 => ?_)
                    · have h := h.1 c44
                      refine vw_aload_n hX 0 dX1_readCommands_119 rfl ?_
                      refine l_X1_191 hX dX1_readCommands_120 (fun q45 hq45 => ?_)
                      have h := h q45 hq45
                      obtain ⟨hr46, h⟩ := h
                      refine s_X1_71 hX hr46 dX1_readCommands_122 (Nat.le_of_ble_eq_true rfl) (ct_X1_tokenIs (d := d + 3) (lst hX) h) (fun r47 w48 z49 h => ?_)
                      refine vw_if_eq hX (tgt := 135) dX1_readCommands_125 (by decide) (fun c50 => ?_) (fun c50 => ?_)
                      · have h := h.1 c50
                        refine vw_aload_n hX 0 dX1_readCommands_135 rfl ?_
                        refine vw_iconst hX (v := 1) dX1_readCommands_136 (by decide) ?_
                        obtain ⟨hr51, h⟩ := h
                        refine s_X1_75 hX hr51 dX1_readCommands_137 (Nat.le_of_ble_eq_true rfl) (ct_X1_fail (d := d + 6) (lst hX) h) (fun r52 w53 z54 h => ?_)
                        refine vw_pop hX dX1_readCommands_140 rfl ?_
                        exact pB_X1_readCommands_141 hX hE ih _ _ _ _ _ h
                      · have h := h.2 c50
                        refine vw_aload_n hX 0 dX1_readCommands_128 rfl ?_
                        obtain ⟨hr55, h⟩ := h
                        refine s_X1_193 hX hr55 dX1_readCommands_129 (Nat.le_of_ble_eq_true rfl) (ct_X1_readPay (d := d + 3) (lst hX) h) (fun w57 z58 h => ?_)
                        refine vw_goto hX (tgt := 141) dX1_readCommands_132 (by decide) ?_
                        exact pB_X1_readCommands_141 hX hE ih _ _ _ _ _ h
                    · have h := h.2 c44
                      refine vw_aload_n hX 0 dX1_readCommands_112 rfl ?_
                      obtain ⟨hr59, h⟩ := h
                      refine s_X1_188 hX hr59 dX1_readCommands_113 (Nat.le_of_ble_eq_true rfl) (ct_X1_readDecide (d := d + 3) (lst hX) h) (fun w61 z62 h => ?_)
                      refine vw_goto hX (tgt := 141) dX1_readCommands_116 (by decide) ?_
                      exact pB_X1_readCommands_141 hX hE ih _ _ _ _ _ h
                  · have h := h.2 c38
                    refine vw_aload_n hX 0 dX1_readCommands_96 rfl ?_
                    obtain ⟨hr63, h⟩ := h
                    refine s_X1_183 hX hr63 dX1_readCommands_97 (Nat.le_of_ble_eq_true rfl) (ct_X1_readAppeal (d := d + 3) (lst hX) h) (fun w65 z66 h => ?_)
                    refine vw_goto hX (tgt := 141) dX1_readCommands_100 (by decide) ?_
                    exact pB_X1_readCommands_141 hX hE ih _ _ _ _ _ h
                · have h := h.2 c32
                  refine vw_aload_n hX 0 dX1_readCommands_80 rfl ?_
                  obtain ⟨hr67, h⟩ := h
                  refine s_X1_178 hX hr67 dX1_readCommands_81 (Nat.le_of_ble_eq_true rfl) (ct_X1_readWait (d := d + 4) (lst hX) h) (fun w69 z70 h => ?_)
                  refine vw_goto hX (tgt := 141) dX1_readCommands_84 (by decide) ?_
                  exact pB_X1_readCommands_141 hX hE ih _ _ _ _ _ h
              · have h := h.2 c26
                refine vw_aload_n hX 0 dX1_readCommands_64 rfl ?_
                obtain ⟨hr71, h⟩ := h
                refine s_X1_173 hX hr71 dX1_readCommands_65 (Nat.le_of_ble_eq_true rfl) (ct_X1_readInspect (d := d + 0) (lst hX) h) (fun w73 z74 h => ?_)
                refine vw_goto hX (tgt := 141) dX1_readCommands_68 (by decide) ?_
                exact pB_X1_readCommands_141 hX hE ih _ _ _ _ _ h
            · have h := h.2 c20
              refine vw_aload_n hX 0 dX1_readCommands_48 rfl ?_
              obtain ⟨hr75, h⟩ := h
              refine s_X1_168 hX hr75 dX1_readCommands_49 (Nat.le_of_ble_eq_true rfl) (ct_X1_readRide (d := d + 0) (lst hX) h) (fun w77 z78 h => ?_)
              refine vw_goto hX (tgt := 141) dX1_readCommands_52 (by decide) ?_
              exact pB_X1_readCommands_141 hX hE ih _ _ _ _ _ h
          · have h := h.2 c14
            refine vw_aload_n hX 0 dX1_readCommands_32 rfl ?_
            obtain ⟨hr79, h⟩ := h
            refine s_X1_163 hX hr79 dX1_readCommands_33 (Nat.le_of_ble_eq_true rfl) (ct_X1_readBuy (d := d + 0) (lst hX) h) (fun w81 z82 h => ?_)
            refine vw_goto hX (tgt := 141) dX1_readCommands_36 (by decide) ?_
            exact pB_X1_readCommands_141 hX hE ih _ _ _ _ _ h
def F_X1_readCommands (a0 : Nat) (w : Mm) (z : Nat) (Q : Int32 → Mm → Nat → Prop) : Prop :=
  ∃ nn, B_X1_readCommands_2 a0 Q nn 0 w z
set_option maxRecDepth 100000 in
set_option maxHeartbeats 4000000 in
theorem ct_X1_readCommands {l : Launch} {g : Gp} {d : Nat} (hst : l.stackTraces = false) {a0 : Nat} {w : Mm} {z mc ms : Nat} {Q : Int32 → Mm → Nat → Prop} {X : String → Mm → Nat → Prop} (h : F_X1_readCommands a0 w z Q) : Ct l g yX1_readCommands (.code yX1_readCommands cX1_readCommands 2 (some .int)) (d + 8) mc ms [.ref (a0)] w z (rI Q) X := by
  refine Ct.of hst (by decide) (Nat.le_of_ble_eq_true rfl) (fun C hX hE hg hl hNm => ?_)
  subst hg
  subst hl
  unfold F_X1_readCommands at h
  show VW C 0 [(0, .ref (a0))] [] w z mc ms
  refine vw_iconst hX (v := 0) dX1_readCommands_0 (by decide) ?_
  refine vw_istore_n hX dX1_readCommands_1 (by decide) rfl ?_
  obtain ⟨nn, h⟩ := h
  exact vw_sub [1, 0] rfl (pB_X1_readCommands_2 hX hE nn _ _ _ _ _ h)
