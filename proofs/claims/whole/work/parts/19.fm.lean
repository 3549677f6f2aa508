theorem l_X6_256 {C : Cx} {cc : ByteArray} {nL d : Nat} {ret : Option FieldType} {hh : List (Nat × Nat × Nat × Nat)} {pc : Nat} {L : List (Nat × Value)} {st : List Value} {w : Mm} {z mc ms : Nat} (hX : CX C cc RX6 nL ret hh d) (hd : decode cc pc = .ok (.ldc_w 256, 3)) (kk : ∀ q : Nat, isLit w q lit_6 → VW C (pc + 3) L (.ref q :: st) w z mc ms) : VW C pc L st w z mc ms := vw_ldcwS hX (tx := "buy") (li := 6) (t := lit_6) (by decide +kernel) rfl hd kk
theorem l_X6_261 {C : Cx} {cc : ByteArray} {nL d : Nat} {ret : Option FieldType} {hh : List (Nat × Nat × Nat × Nat)} {pc : Nat} {L : List (Nat × Value)} {st : List Value} {w : Mm} {z mc ms : Nat} (hX : CX C cc RX6 nL ret hh d) (hd : decode cc pc = .ok (.ldc_w 261, 3)) (kk : ∀ q : Nat, isLit w q lit_10 → VW C (pc + 3) L (.ref q :: st) w z mc ms) : VW C pc L st w z mc ms := vw_ldcwS hX (tx := "ride") (li := 10) (t := lit_10) (by decide +kernel) rfl hd kk
theorem l_X6_266 {C : Cx} {cc : ByteArray} {nL d : Nat} {ret : Option FieldType} {hh : List (Nat × Nat × Nat × Nat)} {pc : Nat} {L : List (Nat × Value)} {st : List Value} {w : Mm} {z mc ms : Nat} (hX : CX C cc RX6 nL ret hh d) (hd : decode cc pc = .ok (.ldc_w 266, 3)) (kk : ∀ q : Nat, isLit w q lit_14 → VW C (pc + 3) L (.ref q :: st) w z mc ms) : VW C pc L st w z mc ms := vw_ldcwS hX (tx := "appeal") (li := 14) (t := lit_14) (by decide +kernel) rfl hd kk
theorem l_X6_271 {C : Cx} {cc : ByteArray} {nL d : Nat} {ret : Option FieldType} {hh : List (Nat × Nat × Nat × Nat)} {pc : Nat} {L : List (Nat × Value)} {st : List Value} {w : Mm} {z mc ms : Nat} (hX : CX C cc RX6 nL ret hh d) (hd : decode cc pc = .ok (.ldc_w 271, 3)) (kk : ∀ q : Nat, isLit w q lit_12 → VW C (pc + 3) L (.ref q :: st) w z mc ms) : VW C pc L st w z mc ms := vw_ldcwS hX (tx := "inspect") (li := 12) (t := lit_12) (by decide +kernel) rfl hd kk
theorem l_X6_279 {C : Cx} {cc : ByteArray} {nL d : Nat} {ret : Option FieldType} {hh : List (Nat × Nat × Nat × Nat)} {pc : Nat} {L : List (Nat × Value)} {st : List Value} {w : Mm} {z mc ms : Nat} (hX : CX C cc RX6 nL ret hh d) (hd : decode cc pc = .ok (.ldc_w 279, 3)) (kk : ∀ q : Nat, isLit w q lit_13 → VW C (pc + 3) L (.ref q :: st) w z mc ms) : VW C pc L st w z mc ms := vw_ldcwS hX (tx := "wait") (li := 13) (t := lit_13) (by decide +kernel) rfl hd kk
theorem l_X6_284 {C : Cx} {cc : ByteArray} {nL d : Nat} {ret : Option FieldType} {hh : List (Nat × Nat × Nat × Nat)} {pc : Nat} {L : List (Nat × Value)} {st : List Value} {w : Mm} {z mc ms : Nat} (hX : CX C cc RX6 nL ret hh d) (hd : decode cc pc = .ok (.ldc_w 284, 3)) (kk : ∀ q : Nat, isLit w q lit_15 → VW C (pc + 3) L (.ref q :: st) w z mc ms) : VW C pc L st w z mc ms := vw_ldcwS hX (tx := "decide") (li := 15) (t := lit_15) (by decide +kernel) rfl hd kk
theorem l_X6_289 {C : Cx} {cc : ByteArray} {nL d : Nat} {ret : Option FieldType} {hh : List (Nat × Nat × Nat × Nat)} {pc : Nat} {L : List (Nat × Value)} {st : List Value} {w : Mm} {z mc ms : Nat} (hX : CX C cc RX6 nL ret hh d) (hd : decode cc pc = .ok (.ldc_w 289, 3)) (kk : ∀ q : Nat, isLit w q lit_16 → VW C (pc + 3) L (.ref q :: st) w z mc ms) : VW C pc L st w z mc ms := vw_ldcwS hX (tx := "pay") (li := 16) (t := lit_16) (by decide +kernel) rfl hd kk
def F_X6_copy (a0 : Nat) (a1 : Int32) (a2 : Nat) (a3 : Int32) (w : Mm) (z : Nat) (Q : Mm → Nat → Prop) : Prop :=
  ∃ n2 f1 n4 f3, arI w a0 0 = some (n2, f1) ∧ arW w a2 0 = some (n4, f3) ∧ ¬ (a1 : Int32) < 0 ∧ ¬ (a3 : Int32) < 0 ∧ ¬ (445 : Int32) < 0 ∧ (a1 : Int32).toNatClampNeg + (445 : Int32).toNatClampNeg ≤ n2 ∧ (a3 : Int32).toNatClampNeg + (445 : Int32).toNatClampNeg ≤ n4 ∧ ∀ w5, w5 = mset w a2 (.inr (0, n4, .inl (va_cpy f1 f3 (a1 : Int32).toNatClampNeg (a3 : Int32).toNatClampNeg (445 : Int32).toNatClampNeg))) → Q w5 z
set_option maxRecDepth 100000 in
set_option maxHeartbeats 4000000 in
theorem ct_X6_copy {l : Launch} {g : Gp} {d : Nat} (hst : l.stackTraces = false) {a0 : Nat} {a1 : Int32} {a2 : Nat} {a3 : Int32} {w : Mm} {z mc ms : Nat} {Q : Mm → Nat → Prop} {X : String → Mm → Nat → Prop} (h : F_X6_copy a0 a1 a2 a3 w z Q) : Ct l g yX6_copy (.code yX6_copy cX6_copy 4 none) (d + 2) mc ms [.ref (a0), .int (a1), .ref (a2), .int (a3)] w z (rV Q) X := by
  refine Ct.of hst (by decide) (Nat.le_of_ble_eq_true rfl) (fun C hX hE hg hl hNm => ?_)
  subst hg
  subst hl
  unfold F_X6_copy at h
  show VW C 0 [(0, .ref (a0)), (1, .int (a1)), (2, .ref (a2)), (3, .int (a3))] [] w z mc ms
  refine vw_aload_n hX 0 dX6_copy_0 rfl ?_
  refine vw_iload_n hX 1 dX6_copy_1 rfl ?_
  refine vw_aload_n hX 2 dX6_copy_2 rfl ?_
  refine vw_iload_n hX 3 dX6_copy_3 rfl ?_
  refine vw_sipush hX (v := 445) dX6_copy_4 (by decide) ?_
  obtain ⟨n2, f1, n4, f3, hc1, hc2, hc3, hc4, hc5, hc6, hc7, h⟩ := h
  refine vw_copy hX 0 (by decide) kw_1590 rfl hc1 hc2 hc3 hc4 hc5 hc6 hc7 (fun _ _ => rfl) (Nat.le_of_ble_eq_true rfl) dX6_copy_7 ?_
  refine vw_nmW (fun w5 ew5 => ?_)
  have h := h w5 ew5
  exact vw_vret hX hE dX6_copy_10 ⟨rfl, h⟩
def F_X6_isIn (a0 : Int32) (a1 : Int32) (a2 : Int32) (w : Mm) (z : Nat) (Q : Int32 → Mm → Nat → Prop) : Prop :=
  (a0 < a1 → Q 0 w z) ∧
  (¬ a0 < a1 → (a2 < a0 → Q 0 w z) ∧
  (¬ a2 < a0 → Q 1 w z))
set_option maxRecDepth 100000 in
set_option maxHeartbeats 4000000 in
theorem ct_X6_isIn {l : Launch} {g : Gp} {d : Nat} (hst : l.stackTraces = false) {a0 : Int32} {a1 : Int32} {a2 : Int32} {w : Mm} {z mc ms : Nat} {Q : Int32 → Mm → Nat → Prop} {X : String → Mm → Nat → Prop} (h : F_X6_isIn a0 a1 a2 w z Q) : Ct l g yX6_isIn (.code yX6_isIn cX6_isIn 3 (some .boolean)) (d + 0) mc ms [.int (a0), .int (a1), .int (a2)] w z (rI Q) X := by
  refine Ct.of hst (by decide) (Nat.le_of_ble_eq_true rfl) (fun C hX hE hg hl hNm => ?_)
  subst hg
  subst hl
  unfold F_X6_isIn at h
  show VW C 0 [(0, .int (a0)), (1, .int (a1)), (2, .int (a2))] [] w z mc ms
  refine vw_iload_n hX 0 dX6_isIn_0 rfl ?_
  refine vw_iload_n hX 1 dX6_isIn_1 rfl ?_
  refine vw_icmp_lt hX (tgt := 14) dX6_isIn_2 (by decide) (fun c1 => ?_) (fun c1 => ?_)
  · have h := h.1 c1
    refine vw_iconst hX (v := 0) dX6_isIn_14 (by decide) ?_
    exact vw_zret hX hE dX6_isIn_15 rfl ⟨_, rfl, h⟩
  · have h := h.2 c1
    refine vw_iload_n hX 0 dX6_isIn_5 rfl ?_
    refine vw_iload_n hX 2 dX6_isIn_6 rfl ?_
    refine vw_icmp_gt hX (tgt := 14) dX6_isIn_7 (by decide) (fun c2 => ?_) (fun c2 => ?_)
    · have h := h.1 c2
      refine vw_iconst hX (v := 0) dX6_isIn_14 (by decide) ?_
      exact vw_zret hX hE dX6_isIn_15 rfl ⟨_, rfl, h⟩
    · have h := h.2 c2
      refine vw_iconst hX (v := 1) dX6_isIn_10 (by decide) ?_
      refine vw_goto hX (tgt := 15) dX6_isIn_11 (by decide) ?_
      exact vw_zret hX hE dX6_isIn_15 rfl ⟨_, rfl, h⟩
def F_X6_isLetter (a0 : Nat) (a1 : Int32) (w : Mm) (z : Nat) (Q : Int32 → Mm → Nat → Prop) : Prop :=
  ∃ v1, fld w a0 10 9 = some (.int (v1)) ∧ (v1 ≤ a1 → Q 0 w z) ∧
  (¬ v1 ≤ a1 → ∃ q3, fld w a0 10 7 = some (.ref (q3)) ∧ ∃ n5 f4, arI w q3 0 = some (n5, f4) ∧ vp_in a1 n5 ∧ F_X6_isIn ((f4 (a1 : Int32).toNatClampNeg)) 97 122 w z (fun r6 w7 z8 => (r6 = 0 → Q 0 w7 z8) ∧
  (¬ r6 = 0 → Q 1 w7 z8)))
set_option maxRecDepth 100000 in
set_option maxHeartbeats 4000000 in
theorem ct_X6_isLetter {l : Launch} {g : Gp} {d : Nat} (hst : l.stackTraces = false) {a0 : Nat} {a1 : Int32} {w : Mm} {z mc ms : Nat} {Q : Int32 → Mm → Nat → Prop} {X : String → Mm → Nat → Prop} (h : F_X6_isLetter a0 a1 w z Q) : Ct l g yX6_isLetter (.code yX6_isLetter cX6_isLetter 2 (some .boolean)) (d + 1) mc ms [.ref (a0), .int (a1)] w z (rI Q) X := by
  refine Ct.of hst (by decide) (Nat.le_of_ble_eq_true rfl) (fun C hX hE hg hl hNm => ?_)
  subst hg
  subst hl
  unfold F_X6_isLetter at h
  show VW C 0 [(0, .ref (a0)), (1, .int (a1))] [] w z mc ms
  refine vw_iload_n hX 1 dX6_isLetter_0 rfl ?_
  refine vw_aload_n hX 0 dX6_isLetter_1 rfl ?_
  obtain ⟨v1, hv1, h⟩ := h
  refine g_X6_51 hX hv1 dX6_isLetter_2 ?_
  refine vw_icmp_ge hX (tgt := 28) dX6_isLetter_5 (by decide) (fun c2 => ?_) (fun c2 => ?_)
  · have h := h.1 c2
    refine vw_iconst hX (v := 0) dX6_isLetter_28 (by decide) ?_
    exact vw_zret hX hE dX6_isLetter_29 rfl ⟨_, rfl, h⟩
  · have h := h.2 c2
    refine vw_aload_n hX 0 dX6_isLetter_8 rfl ?_
    obtain ⟨q3, hq3, h⟩ := h
    refine g_X6_26 hX hq3 dX6_isLetter_9 ?_
    refine vw_iload_n hX 1 dX6_isLetter_12 rfl ?_
    obtain ⟨n5, f4, hf4, hif4, h⟩ := h
    refine vw_iald hX hf4 hif4 dX6_isLetter_13 ?_
    refine vw_bipush hX (v := 97) dX6_isLetter_14 (by decide) ?_
    refine vw_bipush hX (v := 122) dX6_isLetter_16 (by decide) ?_
    refine s_X6_77 hX dX6_isLetter_18 (Nat.le_of_ble_eq_true rfl) (ct_X6_isIn (d := d + 0) (lst hX) h) (fun r6 w7 z8 h => ?_)
    refine vw_if_eq hX (tgt := 28) dX6_isLetter_21 (by decide) (fun c9 => ?_) (fun c9 => ?_)
    · have h := h.1 c9
      refine vw_iconst hX (v := 0) dX6_isLetter_28 (by decide) ?_
      exact vw_zret hX hE dX6_isLetter_29 rfl ⟨_, rfl, h⟩
    · have h := h.2 c9
      refine vw_iconst hX (v := 1) dX6_isLetter_24 (by decide) ?_
      refine vw_goto hX (tgt := 29) dX6_isLetter_25 (by decide) ?_
      exact vw_zret hX hE dX6_isLetter_29 rfl ⟨_, rfl, h⟩
def F_X6_isDigit (a0 : Nat) (a1 : Int32) (w : Mm) (z : Nat) (Q : Int32 → Mm → Nat → Prop) : Prop :=
  ∃ v1, fld w a0 10 9 = some (.int (v1)) ∧ (v1 ≤ a1 → Q 0 w z) ∧
  (¬ v1 ≤ a1 → ∃ q3, fld w a0 10 7 = some (.ref (q3)) ∧ ∃ n5 f4, arI w q3 0 = some (n5, f4) ∧ vp_in a1 n5 ∧ F_X6_isIn ((f4 (a1 : Int32).toNatClampNeg)) 48 57 w z (fun r6 w7 z8 => (r6 = 0 → Q 0 w7 z8) ∧
  (¬ r6 = 0 → Q 1 w7 z8)))
set_option maxRecDepth 100000 in
set_option maxHeartbeats 4000000 in
theorem ct_X6_isDigit {l : Launch} {g : Gp} {d : Nat} (hst : l.stackTraces = false) {a0 : Nat} {a1 : Int32} {w : Mm} {z mc ms : Nat} {Q : Int32 → Mm → Nat → Prop} {X : String → Mm → Nat → Prop} (h : F_X6_isDigit a0 a1 w z Q) : Ct l g yX6_isDigit (.code yX6_isDigit cX6_isDigit 2 (some .boolean)) (d + 1) mc ms [.ref (a0), .int (a1)] w z (rI Q) X := by
  refine Ct.of hst (by decide) (Nat.le_of_ble_eq_true rfl) (fun C hX hE hg hl hNm => ?_)
  subst hg
  subst hl
  unfold F_X6_isDigit at h
  show VW C 0 [(0, .ref (a0)), (1, .int (a1))] [] w z mc ms
  refine vw_iload_n hX 1 dX6_isDigit_0 rfl ?_
  refine vw_aload_n hX 0 dX6_isDigit_1 rfl ?_
  obtain ⟨v1, hv1, h⟩ := h
  refine g_X6_51 hX hv1 dX6_isDigit_2 ?_
  refine vw_icmp_ge hX (tgt := 28) dX6_isDigit_5 (by decide) (fun c2 => ?_) (fun c2 => ?_)
  · have h := h.1 c2
    refine vw_iconst hX (v := 0) dX6_isDigit_28 (by decide) ?_
    exact vw_zret hX hE dX6_isDigit_29 rfl ⟨_, rfl, h⟩
  · have h := h.2 c2
    refine vw_aload_n hX 0 dX6_isDigit_8 rfl ?_
    obtain ⟨q3, hq3, h⟩ := h
    refine g_X6_26 hX hq3 dX6_isDigit_9 ?_
    refine vw_iload_n hX 1 dX6_isDigit_12 rfl ?_
    obtain ⟨n5, f4, hf4, hif4, h⟩ := h
    refine vw_iald hX hf4 hif4 dX6_isDigit_13 ?_
    refine vw_bipush hX (v := 48) dX6_isDigit_14 (by decide) ?_
    refine vw_bipush hX (v := 57) dX6_isDigit_16 (by decide) ?_
    refine s_X6_77 hX dX6_isDigit_18 (Nat.le_of_ble_eq_true rfl) (ct_X6_isIn (d := d + 0) (lst hX) h) (fun r6 w7 z8 h => ?_)
    refine vw_if_eq hX (tgt := 28) dX6_isDigit_21 (by decide) (fun c9 => ?_) (fun c9 => ?_)
    · have h := h.1 c9
      refine vw_iconst hX (v := 0) dX6_isDigit_28 (by decide) ?_
      exact vw_zret hX hE dX6_isDigit_29 rfl ⟨_, rfl, h⟩
    · have h := h.2 c9
      refine vw_iconst hX (v := 1) dX6_isDigit_24 (by decide) ?_
      refine vw_goto hX (tgt := 29) dX6_isDigit_25 (by decide) ?_
      exact vw_zret hX hE dX6_isDigit_29 rfl ⟨_, rfl, h⟩
def B_X6_next_199 (a0 : Nat) (Q : Mm → Nat → Prop) (y0 : Int32) (y1 : Nat) (w : Mm) (z : Nat) : Prop :=
  ∃ f1, obj w y1 10 = some f1 ∧ 15 < f1.length ∧ ∀ w2, w2 = mset w y1 (.inl (10, f1.set 15 (.int (y0)))) → ∃ v3, fld w2 a0 10 17 = some (.int (v3)) ∧ ∃ f4, obj w2 a0 10 = some f4 ∧ 17 < f4.length ∧ ∀ w5, w5 = mset w2 a0 (.inl (10, f4.set 17 (.int ((v3 + 1))))) → Q w5 z
set_option maxRecDepth 100000 in
set_option maxHeartbeats 4000000 in
theorem pB_X6_next_199 {C : Cx} {d : Nat} {a0 : Nat} {Q : Mm → Nat → Prop} {X : String → Mm → Nat → Prop} (hX : CX C cX6_next RX6 1 none [] (d + 2)) (hE : EQ C (rV Q) X) : ∀ (y0 : Int32) (y1 : Nat) (w : Mm) (z mc ms : Nat), B_X6_next_199 a0 Q y0 y1 w z → VW C 199 [(0, .ref (a0))] [.int (y0), .ref (y1)] w z mc ms := by
  intro y0 y1 w z mc ms h
  unfold B_X6_next_199 at h
  obtain ⟨f1, hf1, hlf1, h⟩ := h
  refine p_X6_167 hX hf1 hlf1 dX6_next_199 ?_
  refine vw_nmW (fun w2 ew2 => ?_)
  have h := h w2 ew2
  refine vw_aload_n hX 0 dX6_next_202 rfl ?_
  refine vw_dup hX dX6_next_203 rfl ?_
  obtain ⟨v3, hv3, h⟩ := h
  refine g_X6_161 hX hv3 dX6_next_204 ?_
  refine vw_iconst hX (v := 1) dX6_next_207 (by decide) ?_
  refine vw_iadd hX dX6_next_208 ?_
  obtain ⟨f4, hf4, hlf4, h⟩ := h
  refine p_X6_161 hX hf4 hlf4 dX6_next_209 ?_
  refine vw_nmW (fun w5 ew5 => ?_)
  have h := h w5 ew5
  exact vw_vret hX hE dX6_next_212 ⟨rfl, h⟩
def B_X6_next_126 (a0 : Nat) (Q : Mm → Nat → Prop) : Nat → Mm → Nat → Prop
  | 0, _, _ => False
  | n + 1, w, z => ∃ v6, fld w a0 10 17 = some (.int (v6)) ∧ isO w a0 10 ∧ F_X6_isDigit a0 v6 w z (fun r8 w9 z10 => (r8 = 0 → Q w9 z10) ∧
  (¬ r8 = 0 → ∃ v12, fld w9 a0 10 18 = some (.int (v12)) ∧ ∃ q13, fld w9 a0 10 7 = some (.ref (q13)) ∧ ∃ v14, fld w9 a0 10 17 = some (.int (v14)) ∧ ∃ n16 f15, arI w9 q13 0 = some (n16, f15) ∧ vp_in v14 n16 ∧ ∃ f17, obj w9 a0 10 = some f17 ∧ 18 < f17.length ∧ ∀ w18, w18 = mset w9 a0 (.inl (10, f17.set 18 (.int ((jmin 1000000 ((((((v12 * 10)) + ((f15 (v14 : Int32).toNatClampNeg)))) - 48))))))) → ∃ v19, fld w18 a0 10 17 = some (.int (v19)) ∧ ∃ f20, obj w18 a0 10 = some f20 ∧ 17 < f20.length ∧ ∀ w21, w21 = mset w18 a0 (.inl (10, f20.set 17 (.int ((v19 + 1))))) → B_X6_next_126 a0 Q n w21 z10))
set_option maxRecDepth 100000 in
set_option maxHeartbeats 4000000 in
theorem pB_X6_next_126 {C : Cx} {d : Nat} {a0 : Nat} {Q : Mm → Nat → Prop} {X : String → Mm → Nat → Prop} (hX : CX C cX6_next RX6 1 none [] (d + 2)) (hE : EQ C (rV Q) X) : ∀ (n : Nat)  (w : Mm) (z mc ms : Nat), B_X6_next_126 a0 Q n  w z → VW C 126 [(0, .ref (a0))] [] w z mc ms := by
  intro n
  induction n with
  | zero => intro  w z mc ms h; exact False.elim h
  | succ n ih =>
    intro  w z mc ms h
    unfold B_X6_next_126 at h
    refine vw_aload_n hX 0 dX6_next_126 rfl ?_
    refine vw_aload_n hX 0 dX6_next_127 rfl ?_
    obtain ⟨v6, hv6, h⟩ := h
    refine g_X6_161 hX hv6 dX6_next_128 ?_
    obtain ⟨hr7, h⟩ := h
    refine s_X6_173 hX hr7 dX6_next_131 (Nat.le_of_ble_eq_true rfl) (ct_X6_isDigit (d := d + 0) (lst hX) h) (fun r8 w9 z10 h => ?_)
    refine vw_if_eq hX (tgt := 212) dX6_next_134 (by decide) (fun c11 => ?_) (fun c11 => ?_)
    · have h := h.1 c11
      exact vw_vret hX hE dX6_next_212 ⟨rfl, h⟩
    · have h := h.2 c11
      refine vw_aload_n hX 0 dX6_next_137 rfl ?_
      refine vw_ldcI hX kw_1606 dX6_next_138 ?_
      refine vw_aload_n hX 0 dX6_next_140 rfl ?_
      obtain ⟨v12, hv12, h⟩ := h
      refine g_X6_176 hX hv12 dX6_next_141 ?_
      refine vw_bipush hX (v := 10) dX6_next_144 (by decide) ?_
      refine vw_imul hX dX6_next_146 ?_
      refine vw_aload_n hX 0 dX6_next_147 rfl ?_
      obtain ⟨q13, hq13, h⟩ := h
      refine g_X6_26 hX hq13 dX6_next_148 ?_
      refine vw_aload_n hX 0 dX6_next_151 rfl ?_
      obtain ⟨v14, hv14, h⟩ := h
      refine g_X6_161 hX hv14 dX6_next_152 ?_
      obtain ⟨n16, f15, hf15, hif15, h⟩ := h
      refine vw_iald hX hf15 hif15 dX6_next_155 ?_
      refine vw_iadd hX dX6_next_156 ?_
      refine vw_bipush hX (v := 48) dX6_next_157 (by decide) ?_
      refine vw_isub hX dX6_next_159 ?_
      refine vw_mmin hX kw_1607 (Nat.le_of_ble_eq_true rfl) dX6_next_160 ?_
      obtain ⟨f17, hf17, hlf17, h⟩ := h
      refine p_X6_176 hX hf17 hlf17 dX6_next_163 ?_
      refine vw_nmW (fun w18 ew18 => ?_)
      have h := h w18 ew18
      refine vw_aload_n hX 0 dX6_next_166 rfl ?_
      refine vw_dup hX dX6_next_167 rfl ?_
      obtain ⟨v19, hv19, h⟩ := h
      refine g_X6_161 hX hv19 dX6_next_168 ?_
      refine vw_iconst hX (v := 1) dX6_next_171 (by decide) ?_
      refine vw_iadd hX dX6_next_172 ?_
      obtain ⟨f20, hf20, hlf20, h⟩ := h
      refine p_X6_161 hX hf20 hlf20 dX6_next_173 ?_
      refine vw_nmW (fun w21 ew21 => ?_)
      have h := h w21 ew21
      refine vw_goto hX (tgt := 126) dX6_next_176 (by decide) ?_
      exact ih _ _ _ _ h
def B_X6_next_81 (a0 : Nat) (Q : Mm → Nat → Prop) : Nat → Mm → Nat → Prop
  | 0, _, _ => False
  | n + 1, w, z => ∃ v22, fld w a0 10 17 = some (.int (v22)) ∧ isO w a0 10 ∧ F_X6_isLetter a0 v22 w z (fun r24 w25 z26 => (r24 = 0 → Q w25 z26) ∧
  (¬ r24 = 0 → ∃ v28, fld w25 a0 10 17 = some (.int (v28)) ∧ ∃ f29, obj w25 a0 10 = some f29 ∧ 17 < f29.length ∧ ∀ w30, w30 = mset w25 a0 (.inl (10, f29.set 17 (.int ((v28 + 1))))) → B_X6_next_81 a0 Q n w30 z26))
set_option maxRecDepth 100000 in
set_option maxHeartbeats 4000000 in
theorem pB_X6_next_81 {C : Cx} {d : Nat} {a0 : Nat} {Q : Mm → Nat → Prop} {X : String → Mm → Nat → Prop} (hX : CX C cX6_next RX6 1 none [] (d + 2)) (hE : EQ C (rV Q) X) : ∀ (n : Nat)  (w : Mm) (z mc ms : Nat), B_X6_next_81 a0 Q n  w z → VW C 81 [(0, .ref (a0))] [] w z mc ms := by
  intro n
  induction n with
  | zero => intro  w z mc ms h; exact False.elim h
  | succ n ih =>
    intro  w z mc ms h
    unfold B_X6_next_81 at h
    refine vw_aload_n hX 0 dX6_next_81 rfl ?_
    refine vw_aload_n hX 0 dX6_next_82 rfl ?_
    obtain ⟨v22, hv22, h⟩ := h
    refine g_X6_161 hX hv22 dX6_next_83 ?_
    obtain ⟨hr23, h⟩ := h
    refine s_X6_170 hX hr23 dX6_next_86 (Nat.le_of_ble_eq_true rfl) (ct_X6_isLetter (d := d + 0) (lst hX) h) (fun r24 w25 z26 h => ?_)
    refine vw_if_eq hX (tgt := 212) dX6_next_89 (by decide) (fun c27 => ?_) (fun c27 => ?_)
    · have h := h.1 c27
      exact vw_vret hX hE dX6_next_212 ⟨rfl, h⟩
    · have h := h.2 c27
      refine vw_aload_n hX 0 dX6_next_92 rfl ?_
      refine vw_dup hX dX6_next_93 rfl ?_
      obtain ⟨v28, hv28, h⟩ := h
      refine g_X6_161 hX hv28 dX6_next_94 ?_
      refine vw_iconst hX (v := 1) dX6_next_97 (by decide) ?_
      refine vw_iadd hX dX6_next_98 ?_
      obtain ⟨f29, hf29, hlf29, h⟩ := h
      refine p_X6_161 hX hf29 hlf29 dX6_next_99 ?_
      refine vw_nmW (fun w30 ew30 => ?_)
      have h := h w30 ew30
      refine vw_goto hX (tgt := 81) dX6_next_102 (by decide) ?_
      exact ih _ _ _ _ h
def B_X6_next_38 (a0 : Nat) (Q : Mm → Nat → Prop) (w : Mm) (z : Nat) : Prop :=
  ∃ v31, fld w a0 10 17 = some (.int (v31)) ∧ ∃ f32, obj w a0 10 = some f32 ∧ 16 < f32.length ∧ ∀ w33, w33 = mset w a0 (.inl (10, f32.set 16 (.int (v31)))) → ∃ v34, fld w33 a0 10 17 = some (.int (v34)) ∧ ∃ v35, fld w33 a0 10 9 = some (.int (v35)) ∧ (¬ v34 = v35 → ∃ v37, fld w33 a0 10 17 = some (.int (v37)) ∧ isO w33 a0 10 ∧ F_X6_isLetter a0 v37 w33 z (fun r39 w40 z41 => (r39 = 0 → ∃ v43, fld w40 a0 10 17 = some (.int (v43)) ∧ isO w40 a0 10 ∧ F_X6_isDigit a0 v43 w40 z41 (fun r45 w46 z47 => (r45 = 0 → ∃ q49, fld w46 a0 10 7 = some (.ref (q49)) ∧ ∃ v50, fld w46 a0 10 17 = some (.int (v50)) ∧ ∃ n52 f51, arI w46 q49 0 = some (n52, f51) ∧ vp_in v50 n52 ∧ (¬ ((f51 (v50 : Int32).toNatClampNeg)) = 59 → B_X6_next_199 a0 Q 4 a0 w46 z47) ∧
  (((f51 (v50 : Int32).toNatClampNeg)) = 59 → B_X6_next_199 a0 Q 3 a0 w46 z47)) ∧
  (¬ r45 = 0 → ∃ f54, obj w46 a0 10 = some f54 ∧ 15 < f54.length ∧ ∀ w55, w55 = mset w46 a0 (.inl (10, f54.set 15 (.int (2)))) → ∃ f56, obj w55 a0 10 = some f56 ∧ 18 < f56.length ∧ ∀ w57, w57 = mset w55 a0 (.inl (10, f56.set 18 (.int (0)))) → ∃ n, B_X6_next_126 a0 Q n w57 z47))) ∧
  (¬ r39 = 0 → ∃ f58, obj w40 a0 10 = some f58 ∧ 15 < f58.length ∧ ∀ w59, w59 = mset w40 a0 (.inl (10, f58.set 15 (.int (1)))) → ∃ n, B_X6_next_81 a0 Q n w59 z41))) ∧
  (v34 = v35 → ∃ f60, obj w33 a0 10 = some f60 ∧ 15 < f60.length ∧ ∀ w61, w61 = mset w33 a0 (.inl (10, f60.set 15 (.int (0)))) → Q w61 z)
set_option maxRecDepth 100000 in
set_option maxHeartbeats 4000000 in
theorem pB_X6_next_38 {C : Cx} {d : Nat} {a0 : Nat} {Q : Mm → Nat → Prop} {X : String → Mm → Nat → Prop} (hX : CX C cX6_next RX6 1 none [] (d + 2)) (hE : EQ C (rV Q) X) : ∀  (w : Mm) (z mc ms : Nat), B_X6_next_38 a0 Q  w z → VW C 38 [(0, .ref (a0))] [] w z mc ms := by
  intro  w z mc ms h
  unfold B_X6_next_38 at h
  refine vw_aload_n hX 0 dX6_next_38 rfl ?_
  refine vw_aload_n hX 0 dX6_next_39 rfl ?_
  obtain ⟨v31, hv31, h⟩ := h
  refine g_X6_161 hX hv31 dX6_next_40 ?_
  obtain ⟨f32, hf32, hlf32, h⟩ := h
  refine p_X6_164 hX hf32 hlf32 dX6_next_43 ?_
  refine vw_nmW (fun w33 ew33 => ?_)
  have h := h w33 ew33
  refine vw_aload_n hX 0 dX6_next_46 rfl ?_
  obtain ⟨v34, hv34, h⟩ := h
  refine g_X6_161 hX hv34 dX6_next_47 ?_
  refine vw_aload_n hX 0 dX6_next_50 rfl ?_
  obtain ⟨v35, hv35, h⟩ := h
  refine g_X6_51 hX hv35 dX6_next_51 ?_
  refine vw_icmp_ne hX (tgt := 65) dX6_next_54 (by decide) (fun c36 => ?_) (fun c36 => ?_)
  · have h := h.1 c36
    refine vw_aload_n hX 0 dX6_next_65 rfl ?_
    refine vw_aload_n hX 0 dX6_next_66 rfl ?_
    obtain ⟨v37, hv37, h⟩ := h
    refine g_X6_161 hX hv37 dX6_next_67 ?_
    obtain ⟨hr38, h⟩ := h
    refine s_X6_170 hX hr38 dX6_next_70 (Nat.le_of_ble_eq_true rfl) (ct_X6_isLetter (d := d + 0) (lst hX) h) (fun r39 w40 z41 h => ?_)
    refine vw_if_eq hX (tgt := 105) dX6_next_73 (by decide) (fun c42 => ?_) (fun c42 => ?_)
    · have h := h.1 c42
      refine vw_aload_n hX 0 dX6_next_105 rfl ?_
      refine vw_aload_n hX 0 dX6_next_106 rfl ?_
      obtain ⟨v43, hv43, h⟩ := h
      refine g_X6_161 hX hv43 dX6_next_107 ?_
      obtain ⟨hr44, h⟩ := h
      refine s_X6_173 hX hr44 dX6_next_110 (Nat.le_of_ble_eq_true rfl) (ct_X6_isDigit (d := d + 0) (lst hX) h) (fun r45 w46 z47 h => ?_)
      refine vw_if_eq hX (tgt := 179) dX6_next_113 (by decide) (fun c48 => ?_) (fun c48 => ?_)
      · have h := h.1 c48
        refine vw_aload_n hX 0 dX6_next_179 rfl ?_
        refine vw_aload_n hX 0 dX6_next_180 rfl ?_
        obtain ⟨q49, hq49, h⟩ := h
        refine g_X6_26 hX hq49 dX6_next_181 ?_
        refine vw_aload_n hX 0 dX6_next_184 rfl ?_
        obtain ⟨v50, hv50, h⟩ := h
        refine g_X6_161 hX hv50 dX6_next_185 ?_
        obtain ⟨n52, f51, hf51, hif51, h⟩ := h
        refine vw_iald hX hf51 hif51 dX6_next_188 ?_
        refine vw_bipush hX (v := 59) dX6_next_189 (by decide) ?_
        refine vw_icmp_ne hX (tgt := 198) dX6_next_191 (by decide) (fun c53 => ?_) (fun c53 => ?_)
        · have h := h.1 c53
          refine vw_iconst hX (v := 4) dX6_next_198 (by decide) ?_
          exact pB_X6_next_199 hX hE _ _ _ _ _ _ h
        · have h := h.2 c53
          refine vw_iconst hX (v := 3) dX6_next_194 (by decide) ?_
          refine vw_goto hX (tgt := 199) dX6_next_195 (by decide) ?_
          exact pB_X6_next_199 hX hE _ _ _ _ _ _ h
      · have h := h.2 c48
        refine vw_aload_n hX 0 dX6_next_116 rfl ?_
        refine vw_iconst hX (v := 2) dX6_next_117 (by decide) ?_
        obtain ⟨f54, hf54, hlf54, h⟩ := h
        refine p_X6_167 hX hf54 hlf54 dX6_next_118 ?_
        refine vw_nmW (fun w55 ew55 => ?_)
        have h := h w55 ew55
        refine vw_aload_n hX 0 dX6_next_121 rfl ?_
        refine vw_iconst hX (v := 0) dX6_next_122 (by decide) ?_
        obtain ⟨f56, hf56, hlf56, h⟩ := h
        refine p_X6_176 hX hf56 hlf56 dX6_next_123 ?_
        refine vw_nmW (fun w57 ew57 => ?_)
        have h := h w57 ew57
        obtain ⟨n, h⟩ := h
        exact pB_X6_next_126 hX hE n _ _ _ _ h
    · have h := h.2 c42
      refine vw_aload_n hX 0 dX6_next_76 rfl ?_
      refine vw_iconst hX (v := 1) dX6_next_77 (by decide) ?_
      obtain ⟨f58, hf58, hlf58, h⟩ := h
      refine p_X6_167 hX hf58 hlf58 dX6_next_78 ?_
      refine vw_nmW (fun w59 ew59 => ?_)
      have h := h w59 ew59
      obtain ⟨n, h⟩ := h
      exact pB_X6_next_81 hX hE n _ _ _ _ h
  · have h := h.2 c36
    refine vw_aload_n hX 0 dX6_next_57 rfl ?_
    refine vw_iconst hX (v := 0) dX6_next_58 (by decide) ?_
    obtain ⟨f60, hf60, hlf60, h⟩ := h
    refine p_X6_167 hX hf60 hlf60 dX6_next_59 ?_
    refine vw_nmW (fun w61 ew61 => ?_)
    have h := h w61 ew61
    refine vw_goto hX (tgt := 212) dX6_next_62 (by decide) ?_
    exact vw_vret hX hE dX6_next_212 ⟨rfl, h⟩
def B_X6_next_0 (a0 : Nat) (Q : Mm → Nat → Prop) : Nat → Mm → Nat → Prop
  | 0, _, _ => False
  | n + 1, w, z => ∃ v62, fld w a0 10 17 = some (.int (v62)) ∧ ∃ v63, fld w a0 10 9 = some (.int (v63)) ∧ (v63 ≤ v62 → B_X6_next_38 a0 Q w z) ∧
  (¬ v63 ≤ v62 → ∃ q65, fld w a0 10 7 = some (.ref (q65)) ∧ ∃ v66, fld w a0 10 17 = some (.int (v66)) ∧ ∃ n68 f67, arI w q65 0 = some (n68, f67) ∧ vp_in v66 n68 ∧ (¬ ((f67 (v66 : Int32).toNatClampNeg)) = 32 → B_X6_next_38 a0 Q w z) ∧
  (((f67 (v66 : Int32).toNatClampNeg)) = 32 → ∃ v70, fld w a0 10 17 = some (.int (v70)) ∧ ∃ f71, obj w a0 10 = some f71 ∧ 17 < f71.length ∧ ∀ w72, w72 = mset w a0 (.inl (10, f71.set 17 (.int ((v70 + 1))))) → B_X6_next_0 a0 Q n w72 z))
set_option maxRecDepth 100000 in
set_option maxHeartbeats 4000000 in
theorem pB_X6_next_0 {C : Cx} {d : Nat} {a0 : Nat} {Q : Mm → Nat → Prop} {X : String → Mm → Nat → Prop} (hX : CX C cX6_next RX6 1 none [] (d + 2)) (hE : EQ C (rV Q) X) : ∀ (n : Nat)  (w : Mm) (z mc ms : Nat), B_X6_next_0 a0 Q n  w z → VW C 0 [(0, .ref (a0))] [] w z mc ms := by
  intro n
  induction n with
  | zero => intro  w z mc ms h; exact False.elim h
  | succ n ih =>
    intro  w z mc ms h
    unfold B_X6_next_0 at h
    refine vw_aload_n hX 0 dX6_next_0 rfl ?_
    obtain ⟨v62, hv62, h⟩ := h
    refine g_X6_161 hX hv62 dX6_next_1 ?_
    refine vw_aload_n hX 0 dX6_next_4 rfl ?_
    obtain ⟨v63, hv63, h⟩ := h
    refine g_X6_51 hX hv63 dX6_next_5 ?_
    refine vw_icmp_ge hX (tgt := 38) dX6_next_8 (by decide) (fun c64 => ?_) (fun c64 => ?_)
    · have h := h.1 c64
      exact pB_X6_next_38 hX hE _ _ _ _ h
    · have h := h.2 c64
      refine vw_aload_n hX 0 dX6_next_11 rfl ?_
      obtain ⟨q65, hq65, h⟩ := h
      refine g_X6_26 hX hq65 dX6_next_12 ?_
      refine vw_aload_n hX 0 dX6_next_15 rfl ?_
      obtain ⟨v66, hv66, h⟩ := h
      refine g_X6_161 hX hv66 dX6_next_16 ?_
      obtain ⟨n68, f67, hf67, hif67, h⟩ := h
      refine vw_iald hX hf67 hif67 dX6_next_19 ?_
      refine vw_bipush hX (v := 32) dX6_next_20 (by decide) ?_
      refine vw_icmp_ne hX (tgt := 38) dX6_next_22 (by decide) (fun c69 => ?_) (fun c69 => ?_)
      · have h := h.1 c69
        exact pB_X6_next_38 hX hE _ _ _ _ h
      · have h := h.2 c69
        refine vw_aload_n hX 0 dX6_next_25 rfl ?_
        refine vw_dup hX dX6_next_26 rfl ?_
        obtain ⟨v70, hv70, h⟩ := h
        refine g_X6_161 hX hv70 dX6_next_27 ?_
        refine vw_iconst hX (v := 1) dX6_next_30 (by decide) ?_
        refine vw_iadd hX dX6_next_31 ?_
        obtain ⟨f71, hf71, hlf71, h⟩ := h
        refine p_X6_161 hX hf71 hlf71 dX6_next_32 ?_
        refine vw_nmW (fun w72 ew72 => ?_)
        have h := h w72 ew72
        refine vw_goto hX (tgt := 0) dX6_next_35 (by decide) ?_
        exact ih _ _ _ _ h
def F_X6_next (a0 : Nat) (w : Mm) (z : Nat) (Q : Mm → Nat → Prop) : Prop :=
  ∃ n, B_X6_next_0 a0 Q n w z
set_option maxRecDepth 100000 in
set_option maxHeartbeats 4000000 in
theorem ct_X6_next {l : Launch} {g : Gp} {d : Nat} (hst : l.stackTraces = false) {a0 : Nat} {w : Mm} {z mc ms : Nat} {Q : Mm → Nat → Prop} {X : String → Mm → Nat → Prop} (h : F_X6_next a0 w z Q) : Ct l g yX6_next (.code yX6_next cX6_next 1 none) (d + 2) mc ms [.ref (a0)] w z (rV Q) X := by
  refine Ct.of hst (by decide) (Nat.le_of_ble_eq_true rfl) (fun C hX hE hg hl hNm => ?_)
  subst hg
  subst hl
  unfold F_X6_next at h
  show VW C 0 [(0, .ref (a0))] [] w z mc ms
  obtain ⟨n, h⟩ := h
  exact pB_X6_next_0 hX hE n _ _ _ _ h
def F_X6_starts (a0 : Nat) (w : Mm) (z : Nat) (Q : Mm → Nat → Prop) : Prop :=
  ∃ f1, obj w a0 10 = some f1 ∧ 6 < f1.length ∧ ∀ w2, w2 = mset w a0 (.inl (10, f1.set 6 (.int (0)))) → ∃ f3, obj w2 a0 10 = some f3 ∧ 17 < f3.length ∧ ∀ w4, w4 = mset w2 a0 (.inl (10, f3.set 17 (.int (0)))) → ∃ f5, obj w4 a0 10 = some f5 ∧ 19 < f5.length ∧ ∀ w6, w6 = mset w4 a0 (.inl (10, f5.set 19 (.int (0)))) → ∃ f7, obj w6 a0 10 = some f7 ∧ 11 < f7.length ∧ ∀ w8, w8 = mset w6 a0 (.inl (10, f7.set 11 (.int (0)))) → ∃ f9, obj w8 a0 10 = some f9 ∧ 12 < f9.length ∧ ∀ w10, w10 = mset w8 a0 (.inl (10, f9.set 12 (.int ((-1))))) → ∃ q11, fld w10 a0 10 0 = some (.ref (q11)) ∧ ∃ q12, fld w10 a0 10 3 = some (.ref (q12)) ∧ F_X6_copy q11 0 q12 0 w10 z (fun w14 z15 => isO w14 a0 10 ∧ F_X6_next a0 w14 z15 (fun w18 z19 => Q w18 z19))
set_option maxRecDepth 100000 in
set_option maxHeartbeats 4000000 in
theorem ct_X6_starts {l : Launch} {g : Gp} {d : Nat} (hst : l.stackTraces = false) {a0 : Nat} {w : Mm} {z mc ms : Nat} {Q : Mm → Nat → Prop} {X : String → Mm → Nat → Prop} (h : F_X6_starts a0 w z Q) : Ct l g yX6_starts (.code yX6_starts cX6_starts 1 none) (d + 3) mc ms [.ref (a0)] w z (rV Q) X := by
  refine Ct.of hst (by decide) (Nat.le_of_ble_eq_true rfl) (fun C hX hE hg hl hNm => ?_)
  subst hg
  subst hl
  unfold F_X6_starts at h
  show VW C 0 [(0, .ref (a0))] [] w z mc ms
  refine vw_aload_n hX 0 dX6_starts_0 rfl ?_
  refine vw_iconst hX (v := 0) dX6_starts_1 (by decide) ?_
  obtain ⟨f1, hf1, hlf1, h⟩ := h
  refine p_X6_64 hX hf1 hlf1 dX6_starts_2 ?_
  refine vw_nmW (fun w2 ew2 => ?_)
  have h := h w2 ew2
  refine vw_aload_n hX 0 dX6_starts_5 rfl ?_
  refine vw_iconst hX (v := 0) dX6_starts_6 (by decide) ?_
  obtain ⟨f3, hf3, hlf3, h⟩ := h
  refine p_X6_161 hX hf3 hlf3 dX6_starts_7 ?_
  refine vw_nmW (fun w4 ew4 => ?_)
  have h := h w4 ew4
  refine vw_aload_n hX 0 dX6_starts_10 rfl ?_
  refine vw_iconst hX (v := 0) dX6_starts_11 (by decide) ?_
  obtain ⟨f5, hf5, hlf5, h⟩ := h
  refine p_X6_180 hX hf5 hlf5 rfl rfl dX6_starts_12 ?_
  refine vw_nmW (fun w6 ew6 => ?_)
  have h := h w6 ew6
  refine vw_aload_n hX 0 dX6_starts_15 rfl ?_
  refine vw_iconst hX (v := 0) dX6_starts_16 (by decide) ?_
  obtain ⟨f7, hf7, hlf7, h⟩ := h
  refine p_X6_184 hX hf7 hlf7 dX6_starts_17 ?_
  refine vw_nmW (fun w8 ew8 => ?_)
  have h := h w8 ew8
  refine vw_aload_n hX 0 dX6_starts_20 rfl ?_
  refine vw_iconst hX (v := (-1)) dX6_starts_21 (by decide) ?_
  obtain ⟨f9, hf9, hlf9, h⟩ := h
  refine p_X6_32 hX hf9 hlf9 dX6_starts_22 ?_
  refine vw_nmW (fun w10 ew10 => ?_)
  have h := h w10 ew10
  refine vw_aload_n hX 0 dX6_starts_25 rfl ?_
  obtain ⟨q11, hq11, h⟩ := h
  refine g_X6_9 hX hq11 dX6_starts_26 ?_
  refine vw_iconst hX (v := 0) dX6_starts_29 (by decide) ?_
  refine vw_aload_n hX 0 dX6_starts_30 rfl ?_
  obtain ⟨q12, hq12, h⟩ := h
  refine g_X6_19 hX hq12 dX6_starts_31 ?_
  refine vw_iconst hX (v := 0) dX6_starts_34 (by decide) ?_
  refine s_X6_73 hX dX6_starts_35 (Nat.le_of_ble_eq_true rfl) (ct_X6_copy (d := d + 0) (lst hX) h) (fun w14 z15 h => ?_)
  refine vw_aload_n hX 0 dX6_starts_38 rfl ?_
  obtain ⟨hr16, h⟩ := h
  refine s_X6_187 hX hr16 dX6_starts_39 (Nat.le_of_ble_eq_true rfl) (ct_X6_next (d := d + 0) (lst hX) h) (fun w18 z19 h => ?_)
  exact vw_vret hX hE dX6_starts_42 ⟨rfl, h⟩
def B_X6_is_28 (a0 : Nat) (a1 : Nat) (Q : Int32 → Mm → Nat → Prop) : Nat → Int32 → Mm → Nat → Prop
  | 0, _, _, _ => False
  | n + 1, x2, w, z => isO w a1 0 ∧ F_J0_length_8abf5 a1 w z (fun r2 w3 z4 => (r2 ≤ x2 → Q 1 w3 z4) ∧
  (¬ r2 ≤ x2 → ∃ q6, fld w3 a0 10 7 = some (.ref (q6)) ∧ ∃ v7, fld w3 a0 10 16 = some (.int (v7)) ∧ ∃ n9 f8, arI w3 q6 0 = some (n9, f8) ∧ vp_in ((v7 + x2)) n9 ∧ isO w3 a1 0 ∧ F_J0_charAt_5068e a1 x2 w3 z4 (fun r11 w12 z13 => (((f8 ((v7 + x2) : Int32).toNatClampNeg)) = r11 → B_X6_is_28 a0 a1 Q n ((x2 + 1)) w12 z13) ∧
  (¬ ((f8 ((v7 + x2) : Int32).toNatClampNeg)) = r11 → Q 0 w12 z13))))
set_option maxRecDepth 100000 in
set_option maxHeartbeats 4000000 in
theorem pB_X6_is_28 {C : Cx} {d : Nat} {a0 : Nat} {a1 : Nat} {Q : Int32 → Mm → Nat → Prop} {X : String → Mm → Nat → Prop} (hX : CX C cX6_is RX6 3 (some .boolean) [] (d + 4)) (hE : EQ C (rI Q) X) : ∀ (n : Nat) (x2 : Int32) (w : Mm) (z mc ms : Nat), B_X6_is_28 a0 a1 Q n x2 w z → VW C 28 [(0, .ref (a0)), (1, .ref (a1)), (2, .int (x2))] [] w z mc ms := by
  intro n
  induction n with
  | zero => intro x2 w z mc ms h; exact False.elim h
  | succ n ih =>
    intro x2 w z mc ms h
    unfold B_X6_is_28 at h
    refine vw_iload_n hX 2 dX6_is_28 rfl ?_
    refine vw_aload_n hX 1 dX6_is_29 rfl ?_
    obtain ⟨hr1, h⟩ := h
    refine s_X6_45 hX hr1 dX6_is_30 (Nat.le_of_ble_eq_true rfl) (ct_J0_length_8abf5 (d := d + 2) (lst hX) h) (fun r2 w3 z4 h => ?_)
    refine vw_icmp_ge hX (tgt := 63) dX6_is_33 (by decide) (fun c5 => ?_) (fun c5 => ?_)
    · have h := h.1 c5
      refine vw_iconst hX (v := 1) dX6_is_63 (by decide) ?_
      exact vw_zret hX hE dX6_is_64 rfl ⟨_, rfl, h⟩
    · have h := h.2 c5
      refine vw_aload_n hX 0 dX6_is_36 rfl ?_
      obtain ⟨q6, hq6, h⟩ := h
      refine g_X6_26 hX hq6 dX6_is_37 ?_
      refine vw_aload_n hX 0 dX6_is_40 rfl ?_
      obtain ⟨v7, hv7, h⟩ := h
      refine g_X6_164 hX hv7 dX6_is_41 ?_
      refine vw_iload_n hX 2 dX6_is_44 rfl ?_
      refine vw_iadd hX dX6_is_45 ?_
      obtain ⟨n9, f8, hf8, hif8, h⟩ := h
      refine vw_iald hX hf8 hif8 dX6_is_46 ?_
      refine vw_aload_n hX 1 dX6_is_47 rfl ?_
      refine vw_iload_n hX 2 dX6_is_48 rfl ?_
      obtain ⟨hr10, h⟩ := h
      refine s_X6_54 hX hr10 dX6_is_49 (Nat.le_of_ble_eq_true rfl) (ct_J0_charAt_5068e (d := d + 0) (lst hX) h) (fun r11 w12 z13 h => ?_)
      refine vw_icmp_eq hX (tgt := 57) dX6_is_52 (by decide) (fun c14 => ?_) (fun c14 => ?_)
      · have h := h.1 c14
        refine vw_iinc hX 2 (v := x2 + 1) dX6_is_57 rfl rfl (by decide) rfl ?_
        refine vw_goto hX (tgt := 28) dX6_is_60 (by decide) ?_
        exact vw_sub [1, 2, 0] rfl (ih _ _ _ _ _ h)
      · have h := h.2 c14
        refine vw_iconst hX (v := 0) dX6_is_55 (by decide) ?_
        exact vw_zret hX hE dX6_is_56 rfl ⟨_, rfl, h⟩
def F_X6_is (a0 : Nat) (a1 : Nat) (w : Mm) (z : Nat) (Q : Int32 → Mm → Nat → Prop) : Prop :=
  ∃ v1, fld w a0 10 15 = some (.int (v1)) ∧ (¬ v1 = 1 → Q 0 w z) ∧
  (v1 = 1 → ∃ v3, fld w a0 10 17 = some (.int (v3)) ∧ ∃ v4, fld w a0 10 16 = some (.int (v4)) ∧ isO w a1 0 ∧ F_J0_length_8abf5 a1 w z (fun r6 w7 z8 => (((v3 - v4)) = r6 → ∃ n, B_X6_is_28 a0 a1 Q n 0 w7 z8) ∧
  (¬ ((v3 - v4)) = r6 → Q 0 w7 z8)))
set_option maxRecDepth 100000 in
set_option maxHeartbeats 4000000 in
theorem ct_X6_is {l : Launch} {g : Gp} {d : Nat} (hst : l.stackTraces = false) {a0 : Nat} {a1 : Nat} {w : Mm} {z mc ms : Nat} {Q : Int32 → Mm → Nat → Prop} {X : String → Mm → Nat → Prop} (h : F_X6_is a0 a1 w z Q) : Ct l g yX6_is (.code yX6_is cX6_is 3 (some .boolean)) (d + 4) mc ms [.ref (a0), .ref (a1)] w z (rI Q) X := by
  refine Ct.of hst (by decide) (Nat.le_of_ble_eq_true rfl) (fun C hX hE hg hl hNm => ?_)
  subst hg
  subst hl
  unfold F_X6_is at h
  show VW C 0 [(0, .ref (a0)), (1, .ref (a1))] [] w z mc ms
  refine vw_aload_n hX 0 dX6_is_0 rfl ?_
  obtain ⟨v1, hv1, h⟩ := h
  refine g_X6_167 hX hv1 dX6_is_1 ?_
  refine vw_iconst hX (v := 1) dX6_is_4 (by decide) ?_
  refine vw_icmp_ne hX (tgt := 24) dX6_is_5 (by decide) (fun c2 => ?_) (fun c2 => ?_)
  · have h := h.1 c2
    refine vw_iconst hX (v := 0) dX6_is_24 (by decide) ?_
    exact vw_zret hX hE dX6_is_25 rfl ⟨_, rfl, h⟩
  · have h := h.2 c2
    refine vw_aload_n hX 0 dX6_is_8 rfl ?_
    obtain ⟨v3, hv3, h⟩ := h
    refine g_X6_161 hX hv3 dX6_is_9 ?_
    refine vw_aload_n hX 0 dX6_is_12 rfl ?_
    obtain ⟨v4, hv4, h⟩ := h
    refine g_X6_164 hX hv4 dX6_is_13 ?_
    refine vw_isub hX dX6_is_16 ?_
    refine vw_aload_n hX 1 dX6_is_17 rfl ?_
    obtain ⟨hr5, h⟩ := h
    refine s_X6_45 hX hr5 dX6_is_18 (Nat.le_of_ble_eq_true rfl) (ct_J0_length_8abf5 (d := d + 2) (lst hX) h) (fun r6 w7 z8 h => ?_)
    refine vw_icmp_eq hX (tgt := 26) dX6_is_21 (by decide) (fun c9 => ?_) (fun c9 => ?_)
    · have h := h.1 c9
      refine vw_iconst hX (v := 0) dX6_is_26 (by decide) ?_
      refine vw_istore_n hX dX6_is_27 (by decide) rfl ?_
      obtain ⟨n, h⟩ := h
      exact vw_sub [1, 2, 0] rfl (pB_X6_is_28 hX hE n _ _ _ _ _ h)
    · have h := h.2 c9
      refine vw_iconst hX (v := 0) dX6_is_24 (by decide) ?_
      exact vw_zret hX hE dX6_is_25 rfl ⟨_, rfl, h⟩
def F_X6_wrong (a0 : Nat) (a1 : Int32) (a2 : Int32) (w : Mm) (z : Nat) (Q : Mm → Nat → Prop) : Prop :=
  ∃ v1, fld w a0 10 19 = some (.int (v1)) ∧ (¬ v1 = 0 → Q w z) ∧
  (v1 = 0 → (¬ a1 = 0 → ∃ f4, obj w a0 10 = some f4 ∧ 19 < f4.length ∧ ∀ w5, w5 = mset w a0 (.inl (10, f4.set 19 (.int (1)))) → ∃ f6, obj w5 a0 10 = some f6 ∧ 11 < f6.length ∧ ∀ w7, w7 = mset w5 a0 (.inl (10, f6.set 11 (.int (a2)))) → ∃ v8, fld w7 a0 10 16 = some (.int (v8)) ∧ ∃ f9, obj w7 a0 10 = some f9 ∧ 12 < f9.length ∧ ∀ w10, w10 = mset w7 a0 (.inl (10, f9.set 12 (.int (v8)))) → Q w10 z) ∧
  (a1 = 0 → Q w z))
set_option maxRecDepth 100000 in
set_option maxHeartbeats 4000000 in
theorem ct_X6_wrong {l : Launch} {g : Gp} {d : Nat} (hst : l.stackTraces = false) {a0 : Nat} {a1 : Int32} {a2 : Int32} {w : Mm} {z mc ms : Nat} {Q : Mm → Nat → Prop} {X : String → Mm → Nat → Prop} (h : F_X6_wrong a0 a1 a2 w z Q) : Ct l g yX6_wrong (.code yX6_wrong cX6_wrong 3 none) (d + 0) mc ms [.ref (a0), .int (a1), .int (a2)] w z (rV Q) X := by
  refine Ct.of hst (by decide) (Nat.le_of_ble_eq_true rfl) (fun C hX hE hg hl hNm => ?_)
  subst hg
  subst hl
  unfold F_X6_wrong at h
  show VW C 0 [(0, .ref (a0)), (1, .int (a1)), (2, .int (a2))] [] w z mc ms
  refine vw_aload_n hX 0 dX6_wrong_0 rfl ?_
  obtain ⟨v1, hv1, h⟩ := h
  refine g_X6_180 hX hv1 dX6_wrong_1 ?_
  refine vw_if_ne hX (tgt := 11) dX6_wrong_4 (by decide) (fun c2 => ?_) (fun c2 => ?_)
  · have h := h.1 c2
    exact vw_vret hX hE dX6_wrong_11 ⟨rfl, h⟩
  · have h := h.2 c2
    refine vw_iload_n hX 1 dX6_wrong_7 rfl ?_
    refine vw_if_ne hX (tgt := 12) dX6_wrong_8 (by decide) (fun c3 => ?_) (fun c3 => ?_)
    · have h := h.1 c3
      refine vw_aload_n hX 0 dX6_wrong_12 rfl ?_
      refine vw_iconst hX (v := 1) dX6_wrong_13 (by decide) ?_
      obtain ⟨f4, hf4, hlf4, h⟩ := h
      refine p_X6_180 hX hf4 hlf4 rfl rfl dX6_wrong_14 ?_
      refine vw_nmW (fun w5 ew5 => ?_)
      have h := h w5 ew5
      refine vw_aload_n hX 0 dX6_wrong_17 rfl ?_
      refine vw_iload_n hX 2 dX6_wrong_18 rfl ?_
      obtain ⟨f6, hf6, hlf6, h⟩ := h
      refine p_X6_184 hX hf6 hlf6 dX6_wrong_19 ?_
      refine vw_nmW (fun w7 ew7 => ?_)
      have h := h w7 ew7
      refine vw_aload_n hX 0 dX6_wrong_22 rfl ?_
      refine vw_aload_n hX 0 dX6_wrong_23 rfl ?_
      obtain ⟨v8, hv8, h⟩ := h
      refine g_X6_164 hX hv8 dX6_wrong_24 ?_
      obtain ⟨f9, hf9, hlf9, h⟩ := h
      refine p_X6_32 hX hf9 hlf9 dX6_wrong_27 ?_
      refine vw_nmW (fun w10 ew10 => ?_)
      have h := h w10 ew10
      exact vw_vret hX hE dX6_wrong_30 ⟨rfl, h⟩
    · have h := h.2 c3
      exact vw_vret hX hE dX6_wrong_11 ⟨rfl, h⟩
def F_X6_go (a0 : Nat) (w : Mm) (z : Nat) (Q : Mm → Nat → Prop) : Prop :=
  ∃ v1, fld w a0 10 19 = some (.int (v1)) ∧ (¬ v1 = 0 → Q w z) ∧
  (v1 = 0 → isO w a0 10 ∧ F_X6_next a0 w z (fun w5 z6 => Q w5 z6))
set_option maxRecDepth 100000 in
set_option maxHeartbeats 4000000 in
theorem ct_X6_go {l : Launch} {g : Gp} {d : Nat} (hst : l.stackTraces = false) {a0 : Nat} {w : Mm} {z mc ms : Nat} {Q : Mm → Nat → Prop} {X : String → Mm → Nat → Prop} (h : F_X6_go a0 w z Q) : Ct l g yX6_go (.code yX6_go cX6_go 1 none) (d + 3) mc ms [.ref (a0)] w z (rV Q) X := by
  refine Ct.of hst (by decide) (Nat.le_of_ble_eq_true rfl) (fun C hX hE hg hl hNm => ?_)
  subst hg
  subst hl
  unfold F_X6_go at h
  show VW C 0 [(0, .ref (a0))] [] w z mc ms
  refine vw_aload_n hX 0 dX6_go_0 rfl ?_
  obtain ⟨v1, hv1, h⟩ := h
  refine g_X6_180 hX hv1 dX6_go_1 ?_
  refine vw_if_ne hX (tgt := 11) dX6_go_4 (by decide) (fun c2 => ?_) (fun c2 => ?_)
  · have h := h.1 c2
    exact vw_vret hX hE dX6_go_11 ⟨rfl, h⟩
  · have h := h.2 c2
    refine vw_aload_n hX 0 dX6_go_7 rfl ?_
    obtain ⟨hr3, h⟩ := h
    refine s_X6_187 hX hr3 dX6_go_8 (Nat.le_of_ble_eq_true rfl) (ct_X6_next (d := d + 0) (lst hX) h) (fun w5 z6 h => ?_)
    exact vw_vret hX hE dX6_go_11 ⟨rfl, h⟩
def B_X6_here_43 (a0 : Nat) (a1 : Int32) (a2 : Int32) (Q : Int32 → Mm → Nat → Prop) (y0 : Int32) (y1 : Nat) (w : Mm) (z : Nat) : Prop :=
  isO w y1 10 ∧ F_X6_wrong y1 y0 2 w z (fun w3 z4 => ∃ v5, fld w3 a0 10 19 = some (.int (v5)) ∧ (v5 = 0 → ∃ v7, fld w3 a0 10 18 = some (.int (v7)) ∧ Q v7 w3 z4) ∧
  (¬ v5 = 0 → Q a1 w3 z4))
set_option maxRecDepth 100000 in
set_option maxHeartbeats 4000000 in
theorem pB_X6_here_43 {C : Cx} {d : Nat} {a0 : Nat} {a1 : Int32} {a2 : Int32} {Q : Int32 → Mm → Nat → Prop} {X : String → Mm → Nat → Prop} (hX : CX C cX6_here RX6 3 (some .int) [] (d + 1)) (hE : EQ C (rI Q) X) : ∀ (y0 : Int32) (y1 : Nat) (w : Mm) (z mc ms : Nat), B_X6_here_43 a0 a1 a2 Q y0 y1 w z → VW C 43 [(0, .ref (a0)), (1, .int (a1)), (2, .int (a2))] [.int (y0), .ref (y1)] w z mc ms := by
  intro y0 y1 w z mc ms h
  unfold B_X6_here_43 at h
  refine vw_iconst hX (v := 2) dX6_here_43 (by decide) ?_
  obtain ⟨hr1, h⟩ := h
  refine s_X6_190 hX hr1 dX6_here_44 (Nat.le_of_ble_eq_true rfl) (ct_X6_wrong (d := d + 0) (lst hX) h) (fun w3 z4 h => ?_)
  refine vw_aload_n hX 0 dX6_here_47 rfl ?_
  obtain ⟨v5, hv5, h⟩ := h
  refine g_X6_180 hX hv5 dX6_here_48 ?_
  refine vw_if_eq hX (tgt := 58) dX6_here_51 (by decide) (fun c6 => ?_) (fun c6 => ?_)
  · have h := h.1 c6
    refine vw_aload_n hX 0 dX6_here_58 rfl ?_
    obtain ⟨v7, hv7, h⟩ := h
    refine g_X6_176 hX hv7 dX6_here_59 ?_
    exact vw_iret hX hE dX6_here_62 ⟨_, rfl, h⟩
  · have h := h.2 c6
    refine vw_iload_n hX 1 dX6_here_54 rfl ?_
    refine vw_goto hX (tgt := 62) dX6_here_55 (by decide) ?_
    exact vw_iret hX hE dX6_here_62 ⟨_, rfl, h⟩
def B_X6_here_42 (a0 : Nat) (a1 : Int32) (a2 : Int32) (Q : Int32 → Mm → Nat → Prop) (y0 : Nat) (w : Mm) (z : Nat) : Prop :=
  B_X6_here_43 a0 a1 a2 Q 0 y0 w z
set_option maxRecDepth 100000 in
set_option maxHeartbeats 4000000 in
theorem pB_X6_here_42 {C : Cx} {d : Nat} {a0 : Nat} {a1 : Int32} {a2 : Int32} {Q : Int32 → Mm → Nat → Prop} {X : String → Mm → Nat → Prop} (hX : CX C cX6_here RX6 3 (some .int) [] (d + 1)) (hE : EQ C (rI Q) X) : ∀ (y0 : Nat) (w : Mm) (z mc ms : Nat), B_X6_here_42 a0 a1 a2 Q y0 w z → VW C 42 [(0, .ref (a0)), (1, .int (a1)), (2, .int (a2))] [.ref (y0)] w z mc ms := by
  intro y0 w z mc ms h
  unfold B_X6_here_42 at h
  refine vw_iconst hX (v := 0) dX6_here_42 (by decide) ?_
  exact pB_X6_here_43 hX hE _ _ _ _ _ _ h
def B_X6_here_14 (a0 : Nat) (a1 : Int32) (a2 : Int32) (Q : Int32 → Mm → Nat → Prop) (y0 : Int32) (y1 : Nat) (w : Mm) (z : Nat) : Prop :=
  isO w y1 10 ∧ F_X6_wrong y1 y0 1 w z (fun w10 z11 => ∃ v12, fld w10 a0 10 19 = some (.int (v12)) ∧ (¬ v12 = 0 → B_X6_here_42 a0 a1 a2 Q a0 w10 z11) ∧
  (v12 = 0 → ∃ v14, fld w10 a0 10 18 = some (.int (v14)) ∧ F_X6_isIn v14 a1 a2 w10 z11 (fun r15 w16 z17 => (¬ r15 = 0 → B_X6_here_42 a0 a1 a2 Q a0 w16 z17) ∧
  (r15 = 0 → B_X6_here_43 a0 a1 a2 Q 1 a0 w16 z17))))
set_option maxRecDepth 100000 in
set_option maxHeartbeats 4000000 in
theorem pB_X6_here_14 {C : Cx} {d : Nat} {a0 : Nat} {a1 : Int32} {a2 : Int32} {Q : Int32 → Mm → Nat → Prop} {X : String → Mm → Nat → Prop} (hX : CX C cX6_here RX6 3 (some .int) [] (d + 1)) (hE : EQ C (rI Q) X) : ∀ (y0 : Int32) (y1 : Nat) (w : Mm) (z mc ms : Nat), B_X6_here_14 a0 a1 a2 Q y0 y1 w z → VW C 14 [(0, .ref (a0)), (1, .int (a1)), (2, .int (a2))] [.int (y0), .ref (y1)] w z mc ms := by
  intro y0 y1 w z mc ms h
  unfold B_X6_here_14 at h
  refine vw_iconst hX (v := 1) dX6_here_14 (by decide) ?_
  obtain ⟨hr8, h⟩ := h
  refine s_X6_190 hX hr8 dX6_here_15 (Nat.le_of_ble_eq_true rfl) (ct_X6_wrong (d := d + 0) (lst hX) h) (fun w10 z11 h => ?_)
  refine vw_aload_n hX 0 dX6_here_18 rfl ?_
  refine vw_aload_n hX 0 dX6_here_19 rfl ?_
  obtain ⟨v12, hv12, h⟩ := h
  refine g_X6_180 hX hv12 dX6_here_20 ?_
  refine vw_if_ne hX (tgt := 42) dX6_here_23 (by decide) (fun c13 => ?_) (fun c13 => ?_)
  · have h := h.1 c13
    exact pB_X6_here_42 hX hE _ _ _ _ _ h
  · have h := h.2 c13
    refine vw_aload_n hX 0 dX6_here_26 rfl ?_
    obtain ⟨v14, hv14, h⟩ := h
    refine g_X6_176 hX hv14 dX6_here_27 ?_
    refine vw_iload_n hX 1 dX6_here_30 rfl ?_
    refine vw_iload_n hX 2 dX6_here_31 rfl ?_
    refine s_X6_77 hX dX6_here_32 (Nat.le_of_ble_eq_true rfl) (ct_X6_isIn (d := d + 0) (lst hX) h) (fun r15 w16 z17 h => ?_)
    refine vw_if_ne hX (tgt := 42) dX6_here_35 (by decide) (fun c18 => ?_) (fun c18 => ?_)
    · have h := h.1 c18
      exact pB_X6_here_42 hX hE _ _ _ _ _ h
    · have h := h.2 c18
      refine vw_iconst hX (v := 1) dX6_here_38 (by decide) ?_
      refine vw_goto hX (tgt := 43) dX6_here_39 (by decide) ?_
      exact pB_X6_here_43 hX hE _ _ _ _ _ _ h
def F_X6_here (a0 : Nat) (a1 : Int32) (a2 : Int32) (w : Mm) (z : Nat) (Q : Int32 → Mm → Nat → Prop) : Prop :=
  ∃ v1, fld w a0 10 15 = some (.int (v1)) ∧ (v1 = 2 → B_X6_here_14 a0 a1 a2 Q 0 a0 w z) ∧
  (¬ v1 = 2 → B_X6_here_14 a0 a1 a2 Q 1 a0 w z)
set_option maxRecDepth 100000 in
set_option maxHeartbeats 4000000 in
theorem ct_X6_here {l : Launch} {g : Gp} {d : Nat} (hst : l.stackTraces = false) {a0 : Nat} {a1 : Int32} {a2 : Int32} {w : Mm} {z mc ms : Nat} {Q : Int32 → Mm → Nat → Prop} {X : String → Mm → Nat → Prop} (h : F_X6_here a0 a1 a2 w z Q) : Ct l g yX6_here (.code yX6_here cX6_here 3 (some .int)) (d + 1) mc ms [.ref (a0), .int (a1), .int (a2)] w z (rI Q) X := by
  refine Ct.of hst (by decide) (Nat.le_of_ble_eq_true rfl) (fun C hX hE hg hl hNm => ?_)
  subst hg
  subst hl
  unfold F_X6_here at h
  show VW C 0 [(0, .ref (a0)), (1, .int (a1)), (2, .int (a2))] [] w z mc ms
  refine vw_aload_n hX 0 dX6_here_0 rfl ?_
  refine vw_aload_n hX 0 dX6_here_1 rfl ?_
  obtain ⟨v1, hv1, h⟩ := h
  refine g_X6_167 hX hv1 dX6_here_2 ?_
  refine vw_iconst hX (v := 2) dX6_here_5 (by decide) ?_
  refine vw_icmp_eq hX (tgt := 13) dX6_here_6 (by decide) (fun c2 => ?_) (fun c2 => ?_)
  · have h := h.1 c2
    refine vw_iconst hX (v := 0) dX6_here_13 (by decide) ?_
    exact pB_X6_here_14 hX hE _ _ _ _ _ _ h
  · have h := h.2 c2
    refine vw_iconst hX (v := 1) dX6_here_9 (by decide) ?_
    refine vw_goto hX (tgt := 14) dX6_here_10 (by decide) ?_
    exact pB_X6_here_14 hX hE _ _ _ _ _ _ h
def B_X6_lineTold_130 (a0 : Nat) (Q : Mm → Nat → Prop) (y0 : Int32) (y1 : Nat) (w : Mm) (z : Nat) : Prop :=
  isO w y1 10 ∧ F_X6_wrong y1 y0 1 w z (fun w3 z4 => isO w3 a0 10 ∧ F_X6_go a0 w3 z4 (fun w7 z8 => Q w7 z8))
set_option maxRecDepth 100000 in
set_option maxHeartbeats 4000000 in
theorem pB_X6_lineTold_130 {C : Cx} {d : Nat} {a0 : Nat} {Q : Mm → Nat → Prop} {X : String → Mm → Nat → Prop} (hX : CX C cX6_lineTold RX6 2 none [] (d + 5)) (hE : EQ C (rV Q) X) : ∀ (y0 : Int32) (y1 : Nat) (w : Mm) (z mc ms : Nat), B_X6_lineTold_130 a0 Q y0 y1 w z → VW C 130 [(0, .ref (a0))] [.int (y0), .ref (y1)] w z mc ms := by
  intro y0 y1 w z mc ms h
  unfold B_X6_lineTold_130 at h
  refine vw_iconst hX (v := 1) dX6_lineTold_130 (by decide) ?_
  obtain ⟨hr1, h⟩ := h
  refine s_X6_190 hX hr1 dX6_lineTold_131 (Nat.le_of_ble_eq_true rfl) (ct_X6_wrong (d := d + 4) (lst hX) h) (fun w3 z4 h => ?_)
  refine vw_aload_n hX 0 dX6_lineTold_134 rfl ?_
  obtain ⟨hr5, h⟩ := h
  refine s_X6_197 hX hr5 dX6_lineTold_135 (Nat.le_of_ble_eq_true rfl) (ct_X6_go (d := d + 1) (lst hX) h) (fun w7 z8 h => ?_)
  exact vw_vret hX hE dX6_lineTold_138 ⟨rfl, h⟩
def B_X6_lineTold_116 (a0 : Nat) (Q : Mm → Nat → Prop) (w : Mm) (z : Nat) : Prop :=
  ∃ v9, fld w a0 10 15 = some (.int (v9)) ∧ (v9 = 3 → B_X6_lineTold_130 a0 Q 0 a0 w z) ∧
  (¬ v9 = 3 → B_X6_lineTold_130 a0 Q 1 a0 w z)
set_option maxRecDepth 100000 in
set_option maxHeartbeats 4000000 in
theorem pB_X6_lineTold_116 {C : Cx} {d : Nat} {a0 : Nat} {Q : Mm → Nat → Prop} {X : String → Mm → Nat → Prop} (hX : CX C cX6_lineTold RX6 2 none [] (d + 5)) (hE : EQ C (rV Q) X) : ∀  (w : Mm) (z mc ms : Nat), B_X6_lineTold_116 a0 Q  w z → VW C 116 [(0, .ref (a0))] [] w z mc ms := by
  intro  w z mc ms h
  unfold B_X6_lineTold_116 at h
  refine vw_aload_n hX 0 dX6_lineTold_116 rfl ?_
  refine vw_aload_n hX 0 dX6_lineTold_117 rfl ?_
  obtain ⟨v9, hv9, h⟩ := h
  refine g_X6_167 hX hv9 dX6_lineTold_118 ?_
  refine vw_iconst hX (v := 3) dX6_lineTold_121 (by decide) ?_
  refine vw_icmp_eq hX (tgt := 129) dX6_lineTold_122 (by decide) (fun c10 => ?_) (fun c10 => ?_)
  · have h := h.1 c10
    refine vw_iconst hX (v := 0) dX6_lineTold_129 (by decide) ?_
    exact pB_X6_lineTold_130 hX hE _ _ _ _ _ _ h
  · have h := h.2 c10
    refine vw_iconst hX (v := 1) dX6_lineTold_125 (by decide) ?_
    refine vw_goto hX (tgt := 130) dX6_lineTold_126 (by decide) ?_
    exact pB_X6_lineTold_130 hX hE _ _ _ _ _ _ h
def B_X6_lineTold_72 (a0 : Nat) (K23 : Mm → Nat → Prop) (Q : Mm → Nat → Prop) (x1 : Int32) (y0 : Int32) (y1 : Nat) (w : Mm) (z : Nat) : Prop :=
  isO w y1 10 ∧ F_X6_wrong y1 y0 5 w z (fun w13 z14 => ∃ v15, fld w13 a0 10 19 = some (.int (v15)) ∧ (v15 = 0 → ∃ q17, fld w13 a0 10 0 = some (.ref (q17)) ∧ ∃ q18, fld w13 a0 10 0 = some (.ref (q18)) ∧ ∃ n20 f19, arI w13 q18 0 = some (n20, f19) ∧ vp_in 1 n20 ∧ ∃ n22 f21, arW w13 q17 0 = some (n22, f21) ∧ vp_in ((9 + ((f19 (1 : Int32).toNatClampNeg)))) n22 ∧ ∀ w23, w23 = mset w13 q17 (.inr (0, n22, .inl (upd f21 ((9 + ((f19 (1 : Int32).toNatClampNeg))) : Int32).toNatClampNeg x1))) → ∃ q24, fld w23 a0 10 0 = some (.ref (q24)) ∧ ∃ n26 f25, arI w23 q24 0 = some (n26, f25) ∧ vp_in 1 n26 ∧ ∃ n28 f27, arW w23 q24 0 = some (n28, f27) ∧ vp_in 1 n28 ∧ ∀ w29, w29 = mset w23 q24 (.inr (0, n28, .inl (upd f27 (1 : Int32).toNatClampNeg ((((f25 (1 : Int32).toNatClampNeg)) + 1))))) → isO w29 a0 10 ∧ F_X6_go a0 w29 z14 (fun w32 z33 => K23 w32 z33)) ∧
  (¬ v15 = 0 → Q w13 z14))
set_option maxRecDepth 100000 in
set_option maxHeartbeats 4000000 in
theorem pB_X6_lineTold_72 {C : Cx} {d : Nat} {a0 : Nat} {K23 : Mm → Nat → Prop} {Q : Mm → Nat → Prop} {X : String → Mm → Nat → Prop} (hX : CX C cX6_lineTold RX6 2 none [] (d + 5)) (hE : EQ C (rV Q) X) (hK23 : ∀  (w : Mm) (z mc ms : Nat), K23  w z → VW C 23 [(0, .ref (a0))] [] w z mc ms) : ∀ (x1 : Int32) (y0 : Int32) (y1 : Nat) (w : Mm) (z mc ms : Nat), B_X6_lineTold_72 a0 K23 Q x1 y0 y1 w z → VW C 72 [(0, .ref (a0)), (1, .int (x1))] [.int (y0), .ref (y1)] w z mc ms := by
  intro x1 y0 y1 w z mc ms h
  unfold B_X6_lineTold_72 at h
  refine vw_iconst hX (v := 5) dX6_lineTold_72 (by decide) ?_
  obtain ⟨hr11, h⟩ := h
  refine s_X6_190 hX hr11 dX6_lineTold_73 (Nat.le_of_ble_eq_true rfl) (ct_X6_wrong (d := d + 4) (lst hX) h) (fun w13 z14 h => ?_)
  refine vw_aload_n hX 0 dX6_lineTold_76 rfl ?_
  obtain ⟨v15, hv15, h⟩ := h
  refine g_X6_180 hX hv15 dX6_lineTold_77 ?_
  refine vw_if_eq hX (tgt := 84) dX6_lineTold_80 (by decide) (fun c16 => ?_) (fun c16 => ?_)
  · have h := h.1 c16
    refine vw_aload_n hX 0 dX6_lineTold_84 rfl ?_
    obtain ⟨q17, hq17, h⟩ := h
    refine g_X6_9 hX hq17 dX6_lineTold_85 ?_
    refine vw_bipush hX (v := 9) dX6_lineTold_88 (by decide) ?_
    refine vw_aload_n hX 0 dX6_lineTold_90 rfl ?_
    obtain ⟨q18, hq18, h⟩ := h
    refine g_X6_9 hX hq18 dX6_lineTold_91 ?_
    refine vw_iconst hX (v := 1) dX6_lineTold_94 (by decide) ?_
    obtain ⟨n20, f19, hf19, hif19, h⟩ := h
    refine vw_iald hX hf19 hif19 dX6_lineTold_95 ?_
    refine vw_iadd hX dX6_lineTold_96 ?_
    refine vw_iload_n hX 1 dX6_lineTold_97 rfl ?_
    obtain ⟨n22, f21, hf21, hif21, h⟩ := h
    refine vw_iast hX hf21 hif21 dX6_lineTold_98 ?_
    refine vw_nmW (fun w23 ew23 => ?_)
    have h := h w23 ew23
    refine vw_aload_n hX 0 dX6_lineTold_99 rfl ?_
    obtain ⟨q24, hq24, h⟩ := h
    refine g_X6_9 hX hq24 dX6_lineTold_100 ?_
    refine vw_iconst hX (v := 1) dX6_lineTold_103 (by decide) ?_
    refine vw_dup2 hX dX6_lineTold_104 rfl rfl ?_
    obtain ⟨n26, f25, hf25, hif25, h⟩ := h
    refine vw_iald hX hf25 hif25 dX6_lineTold_105 ?_
    refine vw_iconst hX (v := 1) dX6_lineTold_106 (by decide) ?_
    refine vw_iadd hX dX6_lineTold_107 ?_
    obtain ⟨n28, f27, hf27, hif27, h⟩ := h
    refine vw_iast hX hf27 hif27 dX6_lineTold_108 ?_
    refine vw_nmW (fun w29 ew29 => ?_)
    have h := h w29 ew29
    refine vw_aload_n hX 0 dX6_lineTold_109 rfl ?_
    obtain ⟨hr30, h⟩ := h
    refine s_X6_197 hX hr30 dX6_lineTold_110 (Nat.le_of_ble_eq_true rfl) (ct_X6_go (d := d + 1) (lst hX) h) (fun w32 z33 h => ?_)
    refine vw_goto hX (tgt := 23) dX6_lineTold_113 (by decide) ?_
    exact vw_sub [0] rfl (hK23 _ _ _ _ h)
  · have h := h.2 c16
    exact vw_vret hX hE dX6_lineTold_83 ⟨rfl, h⟩
def B_X6_lineTold_48 (a0 : Nat) (K23 : Mm → Nat → Prop) (Q : Mm → Nat → Prop) (w : Mm) (z : Nat) : Prop :=
  isO w a0 10 ∧ F_X6_here a0 0 3 w z (fun r35 w36 z37 => ∃ q38, fld w36 a0 10 0 = some (.ref (q38)) ∧ ∃ n40 f39, arI w36 q38 0 = some (n40, f39) ∧ vp_in 1 n40 ∧ (¬ ((f39 (1 : Int32).toNatClampNeg)) = 12 → B_X6_lineTold_72 a0 K23 Q r35 0 a0 w36 z37) ∧
  (((f39 (1 : Int32).toNatClampNeg)) = 12 → B_X6_lineTold_72 a0 K23 Q r35 1 a0 w36 z37))
set_option maxRecDepth 100000 in
set_option maxHeartbeats 4000000 in
theorem pB_X6_lineTold_48 {C : Cx} {d : Nat} {a0 : Nat} {K23 : Mm → Nat → Prop} {Q : Mm → Nat → Prop} {X : String → Mm → Nat → Prop} (hX : CX C cX6_lineTold RX6 2 none [] (d + 5)) (hE : EQ C (rV Q) X) (hK23 : ∀  (w : Mm) (z mc ms : Nat), K23  w z → VW C 23 [(0, .ref (a0))] [] w z mc ms) : ∀  (w : Mm) (z mc ms : Nat), B_X6_lineTold_48 a0 K23 Q  w z → VW C 48 [(0, .ref (a0))] [] w z mc ms := by
  intro  w z mc ms h
  unfold B_X6_lineTold_48 at h
  refine vw_aload_n hX 0 dX6_lineTold_48 rfl ?_
  refine vw_iconst hX (v := 0) dX6_lineTold_49 (by decide) ?_
  refine vw_iconst hX (v := 3) dX6_lineTold_50 (by decide) ?_
  obtain ⟨hr34, h⟩ := h
  refine s_X6_194 hX hr34 dX6_lineTold_51 (Nat.le_of_ble_eq_true rfl) (ct_X6_here (d := d + 3) (lst hX) h) (fun r35 w36 z37 h => ?_)
  refine vw_istore_n hX dX6_lineTold_54 (by decide) rfl ?_
  refine vw_aload_n hX 1 dX6_lineTold_55 rfl ?_
  refine vw_aload_n hX 1 dX6_lineTold_56 rfl ?_
  obtain ⟨q38, hq38, h⟩ := h
  refine g_X6_9 hX hq38 dX6_lineTold_57 ?_
  refine vw_iconst hX (v := 1) dX6_lineTold_60 (by decide) ?_
  obtain ⟨n40, f39, hf39, hif39, h⟩ := h
  refine vw_iald hX hf39 hif39 dX6_lineTold_61 ?_
  refine vw_bipush hX (v := 12) dX6_lineTold_62 (by decide) ?_
  refine vw_icmp_ne hX (tgt := 71) dX6_lineTold_64 (by decide) (fun c41 => ?_) (fun c41 => ?_)
  · have h := h.1 c41
    refine vw_iconst hX (v := 0) dX6_lineTold_71 (by decide) ?_
    exact vw_sub [1, 0] rfl (pB_X6_lineTold_72 hX hE hK23 _ _ _ _ _ _ _ h)
  · have h := h.2 c41
    refine vw_iconst hX (v := 1) dX6_lineTold_67 (by decide) ?_
    refine vw_goto hX (tgt := 72) dX6_lineTold_68 (by decide) ?_
    exact vw_sub [1, 0] rfl (pB_X6_lineTold_72 hX hE hK23 _ _ _ _ _ _ _ h)
def B_X6_lineTold_23 (a0 : Nat) (Q : Mm → Nat → Prop) : Nat → Mm → Nat → Prop
  | 0, _, _ => False
  | n + 1, w, z => ∃ v42, fld w a0 10 19 = some (.int (v42)) ∧ (¬ v42 = 0 → B_X6_lineTold_116 a0 Q w z) ∧
  (v42 = 0 → ∃ q44, fld w a0 10 0 = some (.ref (q44)) ∧ ∃ n46 f45, arI w q44 0 = some (n46, f45) ∧ vp_in 1 n46 ∧ (((f45 (1 : Int32).toNatClampNeg)) < 2 → B_X6_lineTold_48 a0 (B_X6_lineTold_23 a0 Q n) Q w z) ∧
  (¬ ((f45 (1 : Int32).toNatClampNeg)) < 2 → ∃ v48, fld w a0 10 15 = some (.int (v48)) ∧ (¬ v48 = 2 → B_X6_lineTold_116 a0 Q w z) ∧
  (v48 = 2 → B_X6_lineTold_48 a0 (B_X6_lineTold_23 a0 Q n) Q w z)))
set_option maxRecDepth 100000 in
set_option maxHeartbeats 4000000 in
theorem pB_X6_lineTold_23 {C : Cx} {d : Nat} {a0 : Nat} {Q : Mm → Nat → Prop} {X : String → Mm → Nat → Prop} (hX : CX C cX6_lineTold RX6 2 none [] (d + 5)) (hE : EQ C (rV Q) X) : ∀ (n : Nat)  (w : Mm) (z mc ms : Nat), B_X6_lineTold_23 a0 Q n  w z → VW C 23 [(0, .ref (a0))] [] w z mc ms := by
  intro n
  induction n with
  | zero => intro  w z mc ms h; exact False.elim h
  | succ n ih =>
    intro  w z mc ms h
    unfold B_X6_lineTold_23 at h
    refine vw_aload_n hX 0 dX6_lineTold_23 rfl ?_
    obtain ⟨v42, hv42, h⟩ := h
    refine g_X6_180 hX hv42 dX6_lineTold_24 ?_
    refine vw_if_ne hX (tgt := 116) dX6_lineTold_27 (by decide) (fun c43 => ?_) (fun c43 => ?_)
    · have h := h.1 c43
      exact pB_X6_lineTold_116 hX hE _ _ _ _ h
    · have h := h.2 c43
      refine vw_aload_n hX 0 dX6_lineTold_30 rfl ?_
      obtain ⟨q44, hq44, h⟩ := h
      refine g_X6_9 hX hq44 dX6_lineTold_31 ?_
      refine vw_iconst hX (v := 1) dX6_lineTold_34 (by decide) ?_
      obtain ⟨n46, f45, hf45, hif45, h⟩ := h
      refine vw_iald hX hf45 hif45 dX6_lineTold_35 ?_
      refine vw_iconst hX (v := 2) dX6_lineTold_36 (by decide) ?_
      refine vw_icmp_lt hX (tgt := 48) dX6_lineTold_37 (by decide) (fun c47 => ?_) (fun c47 => ?_)
      · have h := h.1 c47
        exact pB_X6_lineTold_48 hX hE ih _ _ _ _ h
      · have h := h.2 c47
        refine vw_aload_n hX 0 dX6_lineTold_40 rfl ?_
        obtain ⟨v48, hv48, h⟩ := h
        refine g_X6_167 hX hv48 dX6_lineTold_41 ?_
        refine vw_iconst hX (v := 2) dX6_lineTold_44 (by decide) ?_
        refine vw_icmp_ne hX (tgt := 116) dX6_lineTold_45 (by decide) (fun c49 => ?_) (fun c49 => ?_)
        · have h := h.1 c49
          exact pB_X6_lineTold_116 hX hE _ _ _ _ h
        · have h := h.2 c49
          exact pB_X6_lineTold_48 hX hE ih _ _ _ _ h
def B_X6_lineTold_15 (a0 : Nat) (Q : Mm → Nat → Prop) (y0 : Int32) (y1 : Nat) (w : Mm) (z : Nat) : Prop :=
  isO w y1 10 ∧ F_X6_wrong y1 y0 1 w z (fun w52 z53 => isO w52 a0 10 ∧ F_X6_go a0 w52 z53 (fun w56 z57 => ∃ n, B_X6_lineTold_23 a0 Q n w56 z57))
set_option maxRecDepth 100000 in
set_option maxHeartbeats 4000000 in
theorem pB_X6_lineTold_15 {C : Cx} {d : Nat} {a0 : Nat} {Q : Mm → Nat → Prop} {X : String → Mm → Nat → Prop} (hX : CX C cX6_lineTold RX6 2 none [] (d + 5)) (hE : EQ C (rV Q) X) : ∀ (y0 : Int32) (y1 : Nat) (w : Mm) (z mc ms : Nat), B_X6_lineTold_15 a0 Q y0 y1 w z → VW C 15 [(0, .ref (a0))] [.int (y0), .ref (y1)] w z mc ms := by
  intro y0 y1 w z mc ms h
  unfold B_X6_lineTold_15 at h
  refine vw_iconst hX (v := 1) dX6_lineTold_15 (by decide) ?_
  obtain ⟨hr50, h⟩ := h
  refine s_X6_190 hX hr50 dX6_lineTold_16 (Nat.le_of_ble_eq_true rfl) (ct_X6_wrong (d := d + 4) (lst hX) h) (fun w52 z53 h => ?_)
  refine vw_aload_n hX 0 dX6_lineTold_19 rfl ?_
  obtain ⟨hr54, h⟩ := h
  refine s_X6_197 hX hr54 dX6_lineTold_20 (Nat.le_of_ble_eq_true rfl) (ct_X6_go (d := d + 1) (lst hX) h) (fun w56 z57 h => ?_)
  obtain ⟨n, h⟩ := h
  exact pB_X6_lineTold_23 hX hE n _ _ _ _ h
def F_X6_lineTold (a0 : Nat) (w : Mm) (z : Nat) (Q : Mm → Nat → Prop) : Prop :=
  ∀ q1, isLit w q1 lit_4 → isO w a0 10 ∧ F_X6_is a0 q1 w z (fun r3 w4 z5 => (¬ r3 = 0 → B_X6_lineTold_15 a0 Q 0 a0 w4 z5) ∧
  (r3 = 0 → B_X6_lineTold_15 a0 Q 1 a0 w4 z5))
set_option maxRecDepth 100000 in
set_option maxHeartbeats 4000000 in
theorem ct_X6_lineTold {l : Launch} {g : Gp} {d : Nat} (hst : l.stackTraces = false) {a0 : Nat} {w : Mm} {z mc ms : Nat} {Q : Mm → Nat → Prop} {X : String → Mm → Nat → Prop} (h : F_X6_lineTold a0 w z Q) : Ct l g yX6_lineTold (.code yX6_lineTold cX6_lineTold 2 none) (d + 5) mc ms [.ref (a0)] w z (rV Q) X := by
  refine Ct.of hst (by decide) (Nat.le_of_ble_eq_true rfl) (fun C hX hE hg hl hNm => ?_)
  subst hg
  subst hl
  unfold F_X6_lineTold at h
  show VW C 0 [(0, .ref (a0))] [] w z mc ms
  refine vw_aload_n hX 0 dX6_lineTold_0 rfl ?_
  refine vw_aload_n hX 0 dX6_lineTold_1 rfl ?_
  refine l_X6_216 hX dX6_lineTold_2 (fun q1 hq1 => ?_)
  have h := h q1 hq1
  obtain ⟨hr2, h⟩ := h
  refine s_X6_208 hX hr2 dX6_lineTold_4 (Nat.le_of_ble_eq_true rfl) (ct_X6_is (d := d + 0) (lst hX) h) (fun r3 w4 z5 h => ?_)
  refine vw_if_ne hX (tgt := 14) dX6_lineTold_7 (by decide) (fun c6 => ?_) (fun c6 => ?_)
  · have h := h.1 c6
    refine vw_iconst hX (v := 0) dX6_lineTold_14 (by decide) ?_
    exact pB_X6_lineTold_15 hX hE _ _ _ _ _ _ h
  · have h := h.2 c6
    refine vw_iconst hX (v := 1) dX6_lineTold_10 (by decide) ?_
    refine vw_goto hX (tgt := 15) dX6_lineTold_11 (by decide) ?_
    exact pB_X6_lineTold_15 hX hE _ _ _ _ _ _ h
def B_X6_nameHere_55 (a0 : Nat) (Q : Mm → Nat → Prop) : Nat → Int32 → Mm → Nat → Prop
  | 0, _, _, _ => False
  | n + 1, x1, w, z => ∃ v1, fld w a0 10 14 = some (.int (v1)) ∧ (v1 ≤ x1 → Q w z) ∧
  (¬ v1 ≤ x1 → ∃ q3, fld w a0 10 13 = some (.ref (q3)) ∧ ∃ q4, fld w a0 10 7 = some (.ref (q4)) ∧ ∃ v5, fld w a0 10 16 = some (.int (v5)) ∧ ∃ n7 f6, arI w q4 0 = some (n7, f6) ∧ vp_in ((v5 + x1)) n7 ∧ ∃ n9 f8, arW w q3 0 = some (n9, f8) ∧ vp_in x1 n9 ∧ ∀ w10, w10 = mset w q3 (.inr (0, n9, .inl (upd f8 (x1 : Int32).toNatClampNeg ((f6 ((v5 + x1) : Int32).toNatClampNeg))))) → B_X6_nameHere_55 a0 Q n ((x1 + 1)) w10 z)
set_option maxRecDepth 100000 in
set_option maxHeartbeats 4000000 in
theorem pB_X6_nameHere_55 {C : Cx} {d : Nat} {a0 : Nat} {Q : Mm → Nat → Prop} {X : String → Mm → Nat → Prop} (hX : CX C cX6_nameHere RX6 2 none [] (d + 1)) (hE : EQ C (rV Q) X) : ∀ (n : Nat) (x1 : Int32) (w : Mm) (z mc ms : Nat), B_X6_nameHere_55 a0 Q n x1 w z → VW C 55 [(0, .ref (a0)), (1, .int (x1))] [] w z mc ms := by
  intro n
  induction n with
  | zero => intro x1 w z mc ms h; exact False.elim h
  | succ n ih =>
    intro x1 w z mc ms h
    unfold B_X6_nameHere_55 at h
    refine vw_iload_n hX 1 dX6_nameHere_55 rfl ?_
    refine vw_aload_n hX 0 dX6_nameHere_56 rfl ?_
    obtain ⟨v1, hv1, h⟩ := h
    refine g_X6_150 hX hv1 dX6_nameHere_57 ?_
    refine vw_icmp_ge hX (tgt := 86) dX6_nameHere_60 (by decide) (fun c2 => ?_) (fun c2 => ?_)
    · have h := h.1 c2
      exact vw_vret hX hE dX6_nameHere_86 ⟨rfl, h⟩
    · have h := h.2 c2
      refine vw_aload_n hX 0 dX6_nameHere_63 rfl ?_
      obtain ⟨q3, hq3, h⟩ := h
      refine g_X6_36 hX hq3 dX6_nameHere_64 ?_
      refine vw_iload_n hX 1 dX6_nameHere_67 rfl ?_
      refine vw_aload_n hX 0 dX6_nameHere_68 rfl ?_
      obtain ⟨q4, hq4, h⟩ := h
      refine g_X6_26 hX hq4 dX6_nameHere_69 ?_
      refine vw_aload_n hX 0 dX6_nameHere_72 rfl ?_
      obtain ⟨v5, hv5, h⟩ := h
      refine g_X6_164 hX hv5 dX6_nameHere_73 ?_
      refine vw_iload_n hX 1 dX6_nameHere_76 rfl ?_
      refine vw_iadd hX dX6_nameHere_77 ?_
      obtain ⟨n7, f6, hf6, hif6, h⟩ := h
      refine vw_iald hX hf6 hif6 dX6_nameHere_78 ?_
      obtain ⟨n9, f8, hf8, hif8, h⟩ := h
      refine vw_iast hX hf8 hif8 dX6_nameHere_79 ?_
      refine vw_nmW (fun w10 ew10 => ?_)
      have h := h w10 ew10
      refine vw_iinc hX 1 (v := x1 + 1) dX6_nameHere_80 rfl rfl (by decide) rfl ?_
      refine vw_goto hX (tgt := 55) dX6_nameHere_83 (by decide) ?_
      exact vw_sub [1, 0] rfl (ih _ _ _ _ _ h)
def B_X6_nameHere_28 (a0 : Nat) (Q : Mm → Nat → Prop) (y0 : Int32) (y1 : Nat) (w : Mm) (z : Nat) : Prop :=
  isO w y1 10 ∧ F_X6_wrong y1 y0 1 w z (fun w13 z14 => ∃ v15, fld w13 a0 10 19 = some (.int (v15)) ∧ (v15 = 0 → ∃ v17, fld w13 a0 10 17 = some (.int (v17)) ∧ ∃ v18, fld w13 a0 10 16 = some (.int (v18)) ∧ ∃ f19, obj w13 a0 10 = some f19 ∧ 14 < f19.length ∧ ∀ w20, w20 = mset w13 a0 (.inl (10, f19.set 14 (.int ((v17 - v18))))) → ∃ n, B_X6_nameHere_55 a0 Q n 0 w20 z14) ∧
  (¬ v15 = 0 → Q w13 z14))
set_option maxRecDepth 100000 in
set_option maxHeartbeats 4000000 in
theorem pB_X6_nameHere_28 {C : Cx} {d : Nat} {a0 : Nat} {Q : Mm → Nat → Prop} {X : String → Mm → Nat → Prop} (hX : CX C cX6_nameHere RX6 2 none [] (d + 1)) (hE : EQ C (rV Q) X) : ∀ (y0 : Int32) (y1 : Nat) (w : Mm) (z mc ms : Nat), B_X6_nameHere_28 a0 Q y0 y1 w z → VW C 28 [(0, .ref (a0))] [.int (y0), .ref (y1)] w z mc ms := by
  intro y0 y1 w z mc ms h
  unfold B_X6_nameHere_28 at h
  refine vw_iconst hX (v := 1) dX6_nameHere_28 (by decide) ?_
  obtain ⟨hr11, h⟩ := h
  refine s_X6_190 hX hr11 dX6_nameHere_29 (Nat.le_of_ble_eq_true rfl) (ct_X6_wrong (d := d + 0) (lst hX) h) (fun w13 z14 h => ?_)
  refine vw_aload_n hX 0 dX6_nameHere_32 rfl ?_
  obtain ⟨v15, hv15, h⟩ := h
  refine g_X6_180 hX hv15 dX6_nameHere_33 ?_
  refine vw_if_eq hX (tgt := 40) dX6_nameHere_36 (by decide) (fun c16 => ?_) (fun c16 => ?_)
  · have h := h.1 c16
    refine vw_aload_n hX 0 dX6_nameHere_40 rfl ?_
    refine vw_aload_n hX 0 dX6_nameHere_41 rfl ?_
    obtain ⟨v17, hv17, h⟩ := h
    refine g_X6_161 hX hv17 dX6_nameHere_42 ?_
    refine vw_aload_n hX 0 dX6_nameHere_45 rfl ?_
    obtain ⟨v18, hv18, h⟩ := h
    refine g_X6_164 hX hv18 dX6_nameHere_46 ?_
    refine vw_isub hX dX6_nameHere_49 ?_
    obtain ⟨f19, hf19, hlf19, h⟩ := h
    refine p_X6_150 hX hf19 hlf19 dX6_nameHere_50 ?_
    refine vw_nmW (fun w20 ew20 => ?_)
    have h := h w20 ew20
    refine vw_iconst hX (v := 0) dX6_nameHere_53 (by decide) ?_
    refine vw_istore_n hX dX6_nameHere_54 (by decide) rfl ?_
    obtain ⟨n, h⟩ := h
    exact vw_sub [1, 0] rfl (pB_X6_nameHere_55 hX hE n _ _ _ _ _ h)
  · have h := h.2 c16
    exact vw_vret hX hE dX6_nameHere_39 ⟨rfl, h⟩
def B_X6_nameHere_23 (a0 : Nat) (Q : Mm → Nat → Prop) (y0 : Nat) (w : Mm) (z : Nat) : Prop :=
  B_X6_nameHere_28 a0 Q 1 y0 w z
set_option maxRecDepth 100000 in
set_option maxHeartbeats 4000000 in
theorem pB_X6_nameHere_23 {C : Cx} {d : Nat} {a0 : Nat} {Q : Mm → Nat → Prop} {X : String → Mm → Nat → Prop} (hX : CX C cX6_nameHere RX6 2 none [] (d + 1)) (hE : EQ C (rV Q) X) : ∀ (y0 : Nat) (w : Mm) (z mc ms : Nat), B_X6_nameHere_23 a0 Q y0 w z → VW C 23 [(0, .ref (a0))] [.ref (y0)] w z mc ms := by
  intro y0 w z mc ms h
  unfold B_X6_nameHere_23 at h
  refine vw_iconst hX (v := 1) dX6_nameHere_23 (by decide) ?_
  refine vw_goto hX (tgt := 28) dX6_nameHere_24 (by decide) ?_
  exact pB_X6_nameHere_28 hX hE _ _ _ _ _ _ h
def F_X6_nameHere (a0 : Nat) (w : Mm) (z : Nat) (Q : Mm → Nat → Prop) : Prop :=
  ∃ v1, fld w a0 10 15 = some (.int (v1)) ∧ (¬ v1 = 1 → B_X6_nameHere_23 a0 Q a0 w z) ∧
  (v1 = 1 → ∃ v3, fld w a0 10 17 = some (.int (v3)) ∧ ∃ v4, fld w a0 10 16 = some (.int (v4)) ∧ (((v3 - v4)) ≤ 6 → B_X6_nameHere_28 a0 Q 0 a0 w z) ∧
  (¬ ((v3 - v4)) ≤ 6 → B_X6_nameHere_23 a0 Q a0 w z))
set_option maxRecDepth 100000 in
set_option maxHeartbeats 4000000 in
theorem ct_X6_nameHere {l : Launch} {g : Gp} {d : Nat} (hst : l.stackTraces = false) {a0 : Nat} {w : Mm} {z mc ms : Nat} {Q : Mm → Nat → Prop} {X : String → Mm → Nat → Prop} (h : F_X6_nameHere a0 w z Q) : Ct l g yX6_nameHere (.code yX6_nameHere cX6_nameHere 2 none) (d + 1) mc ms [.ref (a0)] w z (rV Q) X := by
  refine Ct.of hst (by decide) (Nat.le_of_ble_eq_true rfl) (fun C hX hE hg hl hNm => ?_)
  subst hg
  subst hl
  unfold F_X6_nameHere at h
  show VW C 0 [(0, .ref (a0))] [] w z mc ms
  refine vw_aload_n hX 0 dX6_nameHere_0 rfl ?_
  refine vw_aload_n hX 0 dX6_nameHere_1 rfl ?_
  obtain ⟨v1, hv1, h⟩ := h
  refine g_X6_167 hX hv1 dX6_nameHere_2 ?_
  refine vw_iconst hX (v := 1) dX6_nameHere_5 (by decide) ?_
  refine vw_icmp_ne hX (tgt := 23) dX6_nameHere_6 (by decide) (fun c2 => ?_) (fun c2 => ?_)
  · have h := h.1 c2
    exact pB_X6_nameHere_23 hX hE _ _ _ _ _ h
  · have h := h.2 c2
    refine vw_aload_n hX 0 dX6_nameHere_9 rfl ?_
    obtain ⟨v3, hv3, h⟩ := h
    refine g_X6_161 hX hv3 dX6_nameHere_10 ?_
    refine vw_aload_n hX 0 dX6_nameHere_13 rfl ?_
    obtain ⟨v4, hv4, h⟩ := h
    refine g_X6_164 hX hv4 dX6_nameHere_14 ?_
    refine vw_isub hX dX6_nameHere_17 ?_
    refine vw_bipush hX (v := 6) dX6_nameHere_18 (by decide) ?_
    refine vw_icmp_le hX (tgt := 27) dX6_nameHere_20 (by decide) (fun c5 => ?_) (fun c5 => ?_)
    · have h := h.1 c5
      refine vw_iconst hX (v := 0) dX6_nameHere_27 (by decide) ?_
      exact pB_X6_nameHere_28 hX hE _ _ _ _ _ _ h
    · have h := h.2 c5
      exact pB_X6_nameHere_23 hX hE _ _ _ _ _ h
def B_X6_named_91 (a0 : Nat) (K2 : Int32 → Mm → Nat → Prop) (Q : Int32 → Mm → Nat → Prop) (x1 : Int32) (x3 : Int32) (w : Mm) (z : Nat) : Prop :=
  (x3 = 0 → K2 ((x1 + 1)) w z) ∧
  (¬ x3 = 0 → Q x1 w z)
set_option maxRecDepth 100000 in
set_option maxHeartbeats 4000000 in
theorem pB_X6_named_91 {C : Cx} {d : Nat} {a0 : Nat} {K2 : Int32 → Mm → Nat → Prop} {Q : Int32 → Mm → Nat → Prop} {X : String → Mm → Nat → Prop} (hX : CX C cX6_named RX6 5 (some .int) [] (d + 0)) (hE : EQ C (rI Q) X) (hK2 : ∀ (x1 : Int32) (w : Mm) (z mc ms : Nat), K2 x1 w z → VW C 2 [(0, .ref (a0)), (1, .int (x1))] [] w z mc ms) : ∀ (x1 : Int32) (x3 : Int32) (w : Mm) (z mc ms : Nat), B_X6_named_91 a0 K2 Q x1 x3 w z → VW C 91 [(0, .ref (a0)), (1, .int (x1)), (3, .int (x3))] [] w z mc ms := by
  intro x1 x3 w z mc ms h
  unfold B_X6_named_91 at h
  refine vw_iload_n hX 2 dX6_named_91 rfl ?_
  refine vw_if_eq hX (tgt := 97) dX6_named_92 (by decide) (fun c1 => ?_) (fun c1 => ?_)
  · have h := h.1 c1
    refine vw_iinc hX 1 (v := x1 + 1) dX6_named_97 rfl rfl (by decide) rfl ?_
    refine vw_goto hX (tgt := 2) dX6_named_100 (by decide) ?_
    exact vw_sub [1, 0] rfl (hK2 _ _ _ _ _ h)
  · have h := h.2 c1
    refine vw_iload_n hX 1 dX6_named_95 rfl ?_
    exact vw_iret hX hE dX6_named_96 ⟨_, rfl, h⟩
def B_X6_named_84 (a0 : Nat) (K45 : Int32 → Int32 → Int32 → Int32 → Mm → Nat → Prop) (Q : Int32 → Mm → Nat → Prop) (x1 : Int32) (x2 : Int32) (x4 : Int32) (y0 : Int32) (w : Mm) (z : Nat) : Prop :=
  K45 x1 x2 y0 ((x4 + 1)) w z
set_option maxRecDepth 100000 in
set_option maxHeartbeats 4000000 in
theorem pB_X6_named_84 {C : Cx} {d : Nat} {a0 : Nat} {K45 : Int32 → Int32 → Int32 → Int32 → Mm → Nat → Prop} {Q : Int32 → Mm → Nat → Prop} {X : String → Mm → Nat → Prop} (hX : CX C cX6_named RX6 5 (some .int) [] (d + 0)) (hE : EQ C (rI Q) X) (hK45 : ∀ (x1 : Int32) (x2 : Int32) (x3 : Int32) (x4 : Int32) (w : Mm) (z mc ms : Nat), K45 x1 x2 x3 x4 w z → VW C 45 [(0, .ref (a0)), (1, .int (x1)), (2, .int (x2)), (3, .int (x3)), (4, .int (x4))] [] w z mc ms) : ∀ (x1 : Int32) (x2 : Int32) (x4 : Int32) (y0 : Int32) (w : Mm) (z mc ms : Nat), B_X6_named_84 a0 K45 Q x1 x2 x4 y0 w z → VW C 84 [(0, .ref (a0)), (1, .int (x1)), (2, .int (x2)), (4, .int (x4))] [.int (y0)] w z mc ms := by
  intro x1 x2 x4 y0 w z mc ms h
  unfold B_X6_named_84 at h
  refine vw_istore_n hX dX6_named_84 (by decide) rfl ?_
  refine vw_iinc hX 4 (v := x4 + 1) dX6_named_85 rfl rfl (by decide) rfl ?_
  refine vw_goto hX (tgt := 45) dX6_named_88 (by decide) ?_
  exact vw_sub [2, 3, 4, 1, 0] rfl (hK45 _ _ _ _ _ _ _ _ h)
def B_X6_named_45 (a0 : Nat) (K2 : Int32 → Mm → Nat → Prop) (Q : Int32 → Mm → Nat → Prop) : Nat → Int32 → Int32 → Int32 → Int32 → Mm → Nat → Prop
  | 0, _, _, _, _, _, _ => False
  | n + 1, x1, x2, x3, x4, w, z => (x3 = 0 → B_X6_named_91 a0 K2 Q x1 x3 w z) ∧
  (¬ x3 = 0 → ∃ v3, fld w a0 10 14 = some (.int (v3)) ∧ (v3 ≤ x4 → B_X6_named_91 a0 K2 Q x1 x3 w z) ∧
  (¬ v3 ≤ x4 → ∃ q5, fld w a0 10 0 = some (.ref (q5)) ∧ ∃ n7 f6, arI w q5 0 = some (n7, f6) ∧ vp_in ((((x2 + 1)) + x4)) n7 ∧ ∃ q8, fld w a0 10 13 = some (.ref (q8)) ∧ ∃ n10 f9, arI w q8 0 = some (n10, f9) ∧ vp_in x4 n10 ∧ (¬ ((f6 ((((x2 + 1)) + x4) : Int32).toNatClampNeg)) = ((f9 (x4 : Int32).toNatClampNeg)) → B_X6_named_84 a0 (B_X6_named_45 a0 K2 Q n) Q x1 x2 x4 0 w z) ∧
  (((f6 ((((x2 + 1)) + x4) : Int32).toNatClampNeg)) = ((f9 (x4 : Int32).toNatClampNeg)) → B_X6_named_84 a0 (B_X6_named_45 a0 K2 Q n) Q x1 x2 x4 1 w z)))
set_option maxRecDepth 100000 in
set_option maxHeartbeats 4000000 in
theorem pB_X6_named_45 {C : Cx} {d : Nat} {a0 : Nat} {K2 : Int32 → Mm → Nat → Prop} {Q : Int32 → Mm → Nat → Prop} {X : String → Mm → Nat → Prop} (hX : CX C cX6_named RX6 5 (some .int) [] (d + 0)) (hE : EQ C (rI Q) X) (hK2 : ∀ (x1 : Int32) (w : Mm) (z mc ms : Nat), K2 x1 w z → VW C 2 [(0, .ref (a0)), (1, .int (x1))] [] w z mc ms) : ∀ (n : Nat) (x1 : Int32) (x2 : Int32) (x3 : Int32) (x4 : Int32) (w : Mm) (z mc ms : Nat), B_X6_named_45 a0 K2 Q n x1 x2 x3 x4 w z → VW C 45 [(0, .ref (a0)), (1, .int (x1)), (2, .int (x2)), (3, .int (x3)), (4, .int (x4))] [] w z mc ms := by
  intro n
  induction n with
  | zero => intro x1 x2 x3 x4 w z mc ms h; exact False.elim h
  | succ n ih =>
    intro x1 x2 x3 x4 w z mc ms h
    unfold B_X6_named_45 at h
    refine vw_iload_n hX 3 dX6_named_45 rfl ?_
    refine vw_if_eq hX (tgt := 91) dX6_named_46 (by decide) (fun c2 => ?_) (fun c2 => ?_)
    · have h := h.1 c2
      exact vw_sub [0, 1, 3] rfl (pB_X6_named_91 hX hE hK2 _ _ _ _ _ _ h)
    · have h := h.2 c2
      refine vw_iload hX 4 dX6_named_49 rfl ?_
      refine vw_aload_n hX 0 dX6_named_51 rfl ?_
      obtain ⟨v3, hv3, h⟩ := h
      refine g_X6_150 hX hv3 dX6_named_52 ?_
      refine vw_icmp_ge hX (tgt := 91) dX6_named_55 (by decide) (fun c4 => ?_) (fun c4 => ?_)
      · have h := h.1 c4
        exact vw_sub [0, 1, 3] rfl (pB_X6_named_91 hX hE hK2 _ _ _ _ _ _ h)
      · have h := h.2 c4
        refine vw_aload_n hX 0 dX6_named_58 rfl ?_
        obtain ⟨q5, hq5, h⟩ := h
        refine g_X6_9 hX hq5 dX6_named_59 ?_
        refine vw_iload_n hX 2 dX6_named_62 rfl ?_
        refine vw_iconst hX (v := 1) dX6_named_63 (by decide) ?_
        refine vw_iadd hX dX6_named_64 ?_
        refine vw_iload hX 4 dX6_named_65 rfl ?_
        refine vw_iadd hX dX6_named_67 ?_
        obtain ⟨n7, f6, hf6, hif6, h⟩ := h
        refine vw_iald hX hf6 hif6 dX6_named_68 ?_
        refine vw_aload_n hX 0 dX6_named_69 rfl ?_
        obtain ⟨q8, hq8, h⟩ := h
        refine g_X6_36 hX hq8 dX6_named_70 ?_
        refine vw_iload hX 4 dX6_named_73 rfl ?_
        obtain ⟨n10, f9, hf9, hif9, h⟩ := h
        refine vw_iald hX hf9 hif9 dX6_named_75 ?_
        refine vw_icmp_ne hX (tgt := 83) dX6_named_76 (by decide) (fun c11 => ?_) (fun c11 => ?_)
        · have h := h.1 c11
          refine vw_iconst hX (v := 0) dX6_named_83 (by decide) ?_
          exact vw_sub [0, 1, 2, 4] rfl (pB_X6_named_84 hX hE ih _ _ _ _ _ _ _ _ h)
        · have h := h.2 c11
          refine vw_iconst hX (v := 1) dX6_named_79 (by decide) ?_
          refine vw_goto hX (tgt := 84) dX6_named_80 (by decide) ?_
          exact vw_sub [0, 1, 2, 4] rfl (pB_X6_named_84 hX hE ih _ _ _ _ _ _ _ _ h)
def B_X6_named_41 (a0 : Nat) (K2 : Int32 → Mm → Nat → Prop) (Q : Int32 → Mm → Nat → Prop) (x1 : Int32) (x2 : Int32) (y0 : Int32) (w : Mm) (z : Nat) : Prop :=
  ∃ n, B_X6_named_45 a0 K2 Q n x1 x2 y0 0 w z
set_option maxRecDepth 100000 in
set_option maxHeartbeats 4000000 in
theorem pB_X6_named_41 {C : Cx} {d : Nat} {a0 : Nat} {K2 : Int32 → Mm → Nat → Prop} {Q : Int32 → Mm → Nat → Prop} {X : String → Mm → Nat → Prop} (hX : CX C cX6_named RX6 5 (some .int) [] (d + 0)) (hE : EQ C (rI Q) X) (hK2 : ∀ (x1 : Int32) (w : Mm) (z mc ms : Nat), K2 x1 w z → VW C 2 [(0, .ref (a0)), (1, .int (x1))] [] w z mc ms) : ∀ (x1 : Int32) (x2 : Int32) (y0 : Int32) (w : Mm) (z mc ms : Nat), B_X6_named_41 a0 K2 Q x1 x2 y0 w z → VW C 41 [(0, .ref (a0)), (1, .int (x1)), (2, .int (x2))] [.int (y0)] w z mc ms := by
  intro x1 x2 y0 w z mc ms h
  unfold B_X6_named_41 at h
  refine vw_istore_n hX dX6_named_41 (by decide) rfl ?_
  refine vw_iconst hX (v := 0) dX6_named_42 (by decide) ?_
  refine vw_istore hX dX6_named_43 (by decide) rfl ?_
  obtain ⟨n, h⟩ := h
  exact vw_sub [2, 3, 4, 1, 0] rfl (pB_X6_named_45 hX hE hK2 n _ _ _ _ _ _ _ _ h)
def B_X6_named_2 (a0 : Nat) (Q : Int32 → Mm → Nat → Prop) : Nat → Int32 → Mm → Nat → Prop
  | 0, _, _, _ => False
  | n + 1, x1, w, z => ∃ q12, fld w a0 10 0 = some (.ref (q12)) ∧ ∃ n14 f13, arI w q12 0 = some (n14, f13) ∧ vp_in 2 n14 ∧ (((f13 (2 : Int32).toNatClampNeg)) ≤ x1 → Q (-1) w z) ∧
  (¬ ((f13 (2 : Int32).toNatClampNeg)) ≤ x1 → ∀ i16 : Int32, i16 = (((21 + ((13 * x1)))) + 6) → ∃ q17, fld w a0 10 0 = some (.ref (q17)) ∧ ∃ n19 f18, arI w q17 0 = some (n19, f18) ∧ vp_in i16 n19 ∧ ∃ v20, fld w a0 10 14 = some (.int (v20)) ∧ (¬ ((f18 (i16 : Int32).toNatClampNeg)) = v20 → B_X6_named_41 a0 (B_X6_named_2 a0 Q n) Q x1 i16 0 w z) ∧
  (((f18 (i16 : Int32).toNatClampNeg)) = v20 → B_X6_named_41 a0 (B_X6_named_2 a0 Q n) Q x1 i16 1 w z))
set_option maxRecDepth 100000 in
set_option maxHeartbeats 4000000 in
theorem pB_X6_named_2 {C : Cx} {d : Nat} {a0 : Nat} {Q : Int32 → Mm → Nat → Prop} {X : String → Mm → Nat → Prop} (hX : CX C cX6_named RX6 5 (some .int) [] (d + 0)) (hE : EQ C (rI Q) X) : ∀ (n : Nat) (x1 : Int32) (w : Mm) (z mc ms : Nat), B_X6_named_2 a0 Q n x1 w z → VW C 2 [(0, .ref (a0)), (1, .int (x1))] [] w z mc ms := by
  intro n
  induction n with
  | zero => intro x1 w z mc ms h; exact False.elim h
  | succ n ih =>
    intro x1 w z mc ms h
    unfold B_X6_named_2 at h
    refine vw_iload_n hX 1 dX6_named_2 rfl ?_
    refine vw_aload_n hX 0 dX6_named_3 rfl ?_
    obtain ⟨q12, hq12, h⟩ := h
    refine g_X6_9 hX hq12 dX6_named_4 ?_
    refine vw_iconst hX (v := 2) dX6_named_7 (by decide) ?_
    obtain ⟨n14, f13, hf13, hif13, h⟩ := h
    refine vw_iald hX hf13 hif13 dX6_named_8 ?_
    refine vw_icmp_ge hX (tgt := 103) dX6_named_9 (by decide) (fun c15 => ?_) (fun c15 => ?_)
    · have h := h.1 c15
      refine vw_iconst hX (v := (-1)) dX6_named_103 (by decide) ?_
      exact vw_iret hX hE dX6_named_104 ⟨_, rfl, h⟩
    · have h := h.2 c15
      refine vw_bipush hX (v := 21) dX6_named_12 (by decide) ?_
      refine vw_bipush hX (v := 13) dX6_named_14 (by decide) ?_
      refine vw_iload_n hX 1 dX6_named_16 rfl ?_
      refine vw_imul hX dX6_named_17 ?_
      refine vw_iadd hX dX6_named_18 ?_
      refine vw_bipush hX (v := 6) dX6_named_19 (by decide) ?_
      refine vw_iadd hX dX6_named_21 ?_
      refine vw_nmI (fun i16 ei16 => ?_)
      have h := h i16 ei16
      refine vw_istore_n hX dX6_named_22 (by decide) rfl ?_
      refine vw_aload_n hX 1 dX6_named_23 rfl ?_
      obtain ⟨q17, hq17, h⟩ := h
      refine g_X6_9 hX hq17 dX6_named_24 ?_
      refine vw_iload_n hX 0 dX6_named_27 rfl ?_
      obtain ⟨n19, f18, hf18, hif18, h⟩ := h
      refine vw_iald hX hf18 hif18 dX6_named_28 ?_
      refine vw_aload_n hX 1 dX6_named_29 rfl ?_
      obtain ⟨v20, hv20, h⟩ := h
      refine g_X6_150 hX hv20 dX6_named_30 ?_
      refine vw_icmp_ne hX (tgt := 40) dX6_named_33 (by decide) (fun c21 => ?_) (fun c21 => ?_)
      · have h := h.1 c21
        refine vw_iconst hX (v := 0) dX6_named_40 (by decide) ?_
        exact vw_sub [1, 2, 0] rfl (pB_X6_named_41 hX hE ih _ _ _ _ _ _ _ h)
      · have h := h.2 c21
        refine vw_iconst hX (v := 1) dX6_named_36 (by decide) ?_
        refine vw_goto hX (tgt := 41) dX6_named_37 (by decide) ?_
        exact vw_sub [1, 2, 0] rfl (pB_X6_named_41 hX hE ih _ _ _ _ _ _ _ h)
def F_X6_named (a0 : Nat) (w : Mm) (z : Nat) (Q : Int32 → Mm → Nat → Prop) : Prop :=
  ∃ n, B_X6_named_2 a0 Q n 0 w z
set_option maxRecDepth 100000 in
set_option maxHeartbeats 4000000 in
theorem ct_X6_named {l : Launch} {g : Gp} {d : Nat} (hst : l.stackTraces = false) {a0 : Nat} {w : Mm} {z mc ms : Nat} {Q : Int32 → Mm → Nat → Prop} {X : String → Mm → Nat → Prop} (h : F_X6_named a0 w z Q) : Ct l g yX6_named (.code yX6_named cX6_named 5 (some .int)) (d + 0) mc ms [.ref (a0)] w z (rI Q) X := by
  refine Ct.of hst (by decide) (Nat.le_of_ble_eq_true rfl) (fun C hX hE hg hl hNm => ?_)
  subst hg
  subst hl
  unfold F_X6_named at h
  show VW C 0 [(0, .ref (a0))] [] w z mc ms
  refine vw_iconst hX (v := 0) dX6_named_0 (by decide) ?_
  refine vw_istore_n hX dX6_named_1 (by decide) rfl ?_
  obtain ⟨n, h⟩ := h
  exact vw_sub [1, 0] rfl (pB_X6_named_2 hX hE n _ _ _ _ _ h)
def F_X6_number (a0 : Nat) (a1 : Int32) (a2 : Int32) (w : Mm) (z : Nat) (Q : Int32 → Mm → Nat → Prop) : Prop :=
  isO w a0 10 ∧ F_X6_here a0 a1 a2 w z (fun r2 w3 z4 => isO w3 a0 10 ∧ F_X6_go a0 w3 z4 (fun w7 z8 => Q r2 w7 z8))
set_option maxRecDepth 100000 in
set_option maxHeartbeats 4000000 in
theorem ct_X6_number {l : Launch} {g : Gp} {d : Nat} (hst : l.stackTraces = false) {a0 : Nat} {a1 : Int32} {a2 : Int32} {w : Mm} {z mc ms : Nat} {Q : Int32 → Mm → Nat → Prop} {X : String → Mm → Nat → Prop} (h : F_X6_number a0 a1 a2 w z Q) : Ct l g yX6_number (.code yX6_number cX6_number 4 (some .int)) (d + 4) mc ms [.ref (a0), .int (a1), .int (a2)] w z (rI Q) X := by
  refine Ct.of hst (by decide) (Nat.le_of_ble_eq_true rfl) (fun C hX hE hg hl hNm => ?_)
  subst hg
  subst hl
  unfold F_X6_number at h
  show VW C 0 [(0, .ref (a0)), (1, .int (a1)), (2, .int (a2))] [] w z mc ms
  refine vw_aload_n hX 0 dX6_number_0 rfl ?_
  refine vw_iload_n hX 1 dX6_number_1 rfl ?_
  refine vw_iload_n hX 2 dX6_number_2 rfl ?_
  obtain ⟨hr1, h⟩ := h
  refine s_X6_194 hX hr1 dX6_number_3 (Nat.le_of_ble_eq_true rfl) (ct_X6_here (d := d + 2) (lst hX) h) (fun r2 w3 z4 h => ?_)
  refine vw_istore_n hX dX6_number_6 (by decide) rfl ?_
  refine vw_aload_n hX 1 dX6_number_7 rfl ?_
  obtain ⟨hr5, h⟩ := h
  refine s_X6_197 hX hr5 dX6_number_8 (Nat.le_of_ble_eq_true rfl) (ct_X6_go (d := d + 0) (lst hX) h) (fun w7 z8 h => ?_)
  refine vw_iload_n hX 0 dX6_number_11 rfl ?_
  exact vw_iret hX hE dX6_number_12 ⟨_, rfl, h⟩
def B_X6_passengerTold_193 (a0 : Nat) (Q : Mm → Nat → Prop) (x1 : Int32) (y0 : Int32) (y1 : Nat) (w : Mm) (z : Nat) : Prop :=
  isO w y1 10 ∧ F_X6_wrong y1 y0 1 w z (fun w3 z4 => ∃ v5, fld w3 a0 10 19 = some (.int (v5)) ∧ (v5 = 0 → ∃ q7, fld w3 a0 10 0 = some (.ref (q7)) ∧ ∃ n9 f8, arI w3 q7 0 = some (n9, f8) ∧ vp_in 8 n9 ∧ ∃ q10, fld w3 a0 10 0 = some (.ref (q10)) ∧ ∃ n12 f11, arI w3 q10 0 = some (n12, f11) ∧ vp_in ((x1 + 0)) n12 ∧ ∃ n14 f13, arW w3 q7 0 = some (n14, f13) ∧ vp_in 8 n14 ∧ ∀ w15, w15 = mset w3 q7 (.inr (0, n14, .inl (upd f13 (8 : Int32).toNatClampNeg ((((f8 (8 : Int32).toNatClampNeg)) + ((f11 ((x1 + 0) : Int32).toNatClampNeg))))))) → ∃ q16, fld w15 a0 10 0 = some (.ref (q16)) ∧ ∃ n18 f17, arI w15 q16 0 = some (n18, f17) ∧ vp_in 2 n18 ∧ ∃ n20 f19, arW w15 q16 0 = some (n20, f19) ∧ vp_in 2 n20 ∧ ∀ w21, w21 = mset w15 q16 (.inr (0, n20, .inl (upd f19 (2 : Int32).toNatClampNeg ((((f17 (2 : Int32).toNatClampNeg)) + 1))))) → isO w21 a0 10 ∧ F_X6_go a0 w21 z4 (fun w24 z25 => Q w24 z25)) ∧
  (¬ v5 = 0 → Q w3 z4))
set_option maxRecDepth 100000 in
set_option maxHeartbeats 4000000 in
theorem pB_X6_passengerTold_193 {C : Cx} {d : Nat} {a0 : Nat} {Q : Mm → Nat → Prop} {X : String → Mm → Nat → Prop} (hX : CX C cX6_passengerTold RX6 3 none [] (d + 5)) (hE : EQ C (rV Q) X) : ∀ (x1 : Int32) (y0 : Int32) (y1 : Nat) (w : Mm) (z mc ms : Nat), B_X6_passengerTold_193 a0 Q x1 y0 y1 w z → VW C 193 [(0, .ref (a0)), (1, .int (x1))] [.int (y0), .ref (y1)] w z mc ms := by
  intro x1 y0 y1 w z mc ms h
  unfold B_X6_passengerTold_193 at h
  refine vw_iconst hX (v := 1) dX6_passengerTold_193 (by decide) ?_
  obtain ⟨hr1, h⟩ := h
  refine s_X6_190 hX hr1 dX6_passengerTold_194 (Nat.le_of_ble_eq_true rfl) (ct_X6_wrong (d := d + 4) (lst hX) h) (fun w3 z4 h => ?_)
  refine vw_aload_n hX 0 dX6_passengerTold_197 rfl ?_
  obtain ⟨v5, hv5, h⟩ := h
  refine g_X6_180 hX hv5 dX6_passengerTold_198 ?_
  refine vw_if_eq hX (tgt := 205) dX6_passengerTold_201 (by decide) (fun c6 => ?_) (fun c6 => ?_)
  · have h := h.1 c6
    refine vw_aload_n hX 0 dX6_passengerTold_205 rfl ?_
    obtain ⟨q7, hq7, h⟩ := h
    refine g_X6_9 hX hq7 dX6_passengerTold_206 ?_
    refine vw_bipush hX (v := 8) dX6_passengerTold_209 (by decide) ?_
    refine vw_dup2 hX dX6_passengerTold_211 rfl rfl ?_
    obtain ⟨n9, f8, hf8, hif8, h⟩ := h
    refine vw_iald hX hf8 hif8 dX6_passengerTold_212 ?_
    refine vw_aload_n hX 0 dX6_passengerTold_213 rfl ?_
    obtain ⟨q10, hq10, h⟩ := h
    refine g_X6_9 hX hq10 dX6_passengerTold_214 ?_
    refine vw_iload_n hX 1 dX6_passengerTold_217 rfl ?_
    refine vw_iconst hX (v := 0) dX6_passengerTold_218 (by decide) ?_
    refine vw_iadd hX dX6_passengerTold_219 ?_
    obtain ⟨n12, f11, hf11, hif11, h⟩ := h
    refine vw_iald hX hf11 hif11 dX6_passengerTold_220 ?_
    refine vw_iadd hX dX6_passengerTold_221 ?_
    obtain ⟨n14, f13, hf13, hif13, h⟩ := h
    refine vw_iast hX hf13 hif13 dX6_passengerTold_222 ?_
    refine vw_nmW (fun w15 ew15 => ?_)
    have h := h w15 ew15
    refine vw_aload_n hX 0 dX6_passengerTold_223 rfl ?_
    obtain ⟨q16, hq16, h⟩ := h
    refine g_X6_9 hX hq16 dX6_passengerTold_224 ?_
    refine vw_iconst hX (v := 2) dX6_passengerTold_227 (by decide) ?_
    refine vw_dup2 hX dX6_passengerTold_228 rfl rfl ?_
    obtain ⟨n18, f17, hf17, hif17, h⟩ := h
    refine vw_iald hX hf17 hif17 dX6_passengerTold_229 ?_
    refine vw_iconst hX (v := 1) dX6_passengerTold_230 (by decide) ?_
    refine vw_iadd hX dX6_passengerTold_231 ?_
    obtain ⟨n20, f19, hf19, hif19, h⟩ := h
    refine vw_iast hX hf19 hif19 dX6_passengerTold_232 ?_
    refine vw_nmW (fun w21 ew21 => ?_)
    have h := h w21 ew21
    refine vw_aload_n hX 0 dX6_passengerTold_233 rfl ?_
    obtain ⟨hr22, h⟩ := h
    refine s_X6_197 hX hr22 dX6_passengerTold_234 (Nat.le_of_ble_eq_true rfl) (ct_X6_go (d := d + 1) (lst hX) h) (fun w24 z25 h => ?_)
    exact vw_vret hX hE dX6_passengerTold_237 ⟨rfl, h⟩
  · have h := h.2 c6
    exact vw_vret hX hE dX6_passengerTold_204 ⟨rfl, h⟩
def B_X6_passengerTold_109 (a0 : Nat) (Q : Mm → Nat → Prop) : Nat → Int32 → Int32 → Mm → Nat → Prop
  | 0, _, _, _, _ => False
  | n + 1, x1, x2, w, z => ∃ v26, fld w a0 10 14 = some (.int (v26)) ∧ (v26 ≤ x2 → isO w a0 10 ∧ F_X6_go a0 w z (fun w30 z31 => ∃ q32, fld w30 a0 10 0 = some (.ref (q32)) ∧ isO w30 a0 10 ∧ F_X6_number a0 0 99999 w30 z31 (fun r34 w35 z36 => ∃ n38 f37, arW w35 q32 0 = some (n38, f37) ∧ vp_in ((x1 + 0)) n38 ∧ ∀ w39, w39 = mset w35 q32 (.inr (0, n38, .inl (upd f37 ((x1 + 0) : Int32).toNatClampNeg r34))) → ∃ q40, fld w39 a0 10 0 = some (.ref (q40)) ∧ ∃ n42 f41, arW w39 q40 0 = some (n42, f41) ∧ vp_in ((x1 + 3)) n42 ∧ ∀ w43, w43 = mset w39 q40 (.inr (0, n42, .inl (upd f41 ((x1 + 3) : Int32).toNatClampNeg (-1)))) → ∃ q44, fld w43 a0 10 0 = some (.ref (q44)) ∧ ∃ n46 f45, arW w43 q44 0 = some (n46, f45) ∧ vp_in ((x1 + 4)) n46 ∧ ∀ w47, w47 = mset w43 q44 (.inr (0, n46, .inl (upd f45 ((x1 + 4) : Int32).toNatClampNeg (-1)))) → ∃ v48, fld w47 a0 10 15 = some (.int (v48)) ∧ (v48 = 3 → B_X6_passengerTold_193 a0 Q x1 0 a0 w47 z36) ∧
  (¬ v48 = 3 → B_X6_passengerTold_193 a0 Q x1 1 a0 w47 z36)))) ∧
  (¬ v26 ≤ x2 → ∃ q50, fld w a0 10 0 = some (.ref (q50)) ∧ ∃ q51, fld w a0 10 13 = some (.ref (q51)) ∧ ∃ n53 f52, arI w q51 0 = some (n53, f52) ∧ vp_in x2 n53 ∧ ∃ n55 f54, arW w q50 0 = some (n55, f54) ∧ vp_in ((((((x1 + 6)) + 1)) + x2)) n55 ∧ ∀ w56, w56 = mset w q50 (.inr (0, n55, .inl (upd f54 ((((((x1 + 6)) + 1)) + x2) : Int32).toNatClampNeg ((f52 (x2 : Int32).toNatClampNeg))))) → B_X6_passengerTold_109 a0 Q n x1 ((x2 + 1)) w56 z)
set_option maxRecDepth 100000 in
set_option maxHeartbeats 4000000 in
theorem pB_X6_passengerTold_109 {C : Cx} {d : Nat} {a0 : Nat} {Q : Mm → Nat → Prop} {X : String → Mm → Nat → Prop} (hX : CX C cX6_passengerTold RX6 3 none [] (d + 5)) (hE : EQ C (rV Q) X) : ∀ (n : Nat) (x1 : Int32) (x2 : Int32) (w : Mm) (z mc ms : Nat), B_X6_passengerTold_109 a0 Q n x1 x2 w z → VW C 109 [(0, .ref (a0)), (1, .int (x1)), (2, .int (x2))] [] w z mc ms := by
  intro n
  induction n with
  | zero => intro x1 x2 w z mc ms h; exact False.elim h
  | succ n ih =>
    intro x1 x2 w z mc ms h
    unfold B_X6_passengerTold_109 at h
    refine vw_iload_n hX 2 dX6_passengerTold_109 rfl ?_
    refine vw_aload_n hX 0 dX6_passengerTold_110 rfl ?_
    obtain ⟨v26, hv26, h⟩ := h
    refine g_X6_150 hX hv26 dX6_passengerTold_111 ?_
    refine vw_icmp_ge hX (tgt := 142) dX6_passengerTold_114 (by decide) (fun c27 => ?_) (fun c27 => ?_)
    · have h := h.1 c27
      refine vw_aload_n hX 0 dX6_passengerTold_142 rfl ?_
      obtain ⟨hr28, h⟩ := h
      refine s_X6_197 hX hr28 dX6_passengerTold_143 (Nat.le_of_ble_eq_true rfl) (ct_X6_go (d := d + 1) (lst hX) h) (fun w30 z31 h => ?_)
      refine vw_aload_n hX 0 dX6_passengerTold_146 rfl ?_
      obtain ⟨q32, hq32, h⟩ := h
      refine g_X6_9 hX hq32 dX6_passengerTold_147 ?_
      refine vw_iload_n hX 1 dX6_passengerTold_150 rfl ?_
      refine vw_iconst hX (v := 0) dX6_passengerTold_151 (by decide) ?_
      refine vw_iadd hX dX6_passengerTold_152 ?_
      refine vw_aload_n hX 0 dX6_passengerTold_153 rfl ?_
      refine vw_iconst hX (v := 0) dX6_passengerTold_154 (by decide) ?_
      refine vw_ldcI hX kw_1642 dX6_passengerTold_155 ?_
      obtain ⟨hr33, h⟩ := h
      refine s_X6_213 hX hr33 dX6_passengerTold_157 (Nat.le_of_ble_eq_true rfl) (ct_X6_number (d := d + 0) (lst hX) h) (fun r34 w35 z36 h => ?_)
      obtain ⟨n38, f37, hf37, hif37, h⟩ := h
      refine vw_iast hX hf37 hif37 dX6_passengerTold_160 ?_
      refine vw_nmW (fun w39 ew39 => ?_)
      have h := h w39 ew39
      refine vw_aload_n hX 0 dX6_passengerTold_161 rfl ?_
      obtain ⟨q40, hq40, h⟩ := h
      refine g_X6_9 hX hq40 dX6_passengerTold_162 ?_
      refine vw_iload_n hX 1 dX6_passengerTold_165 rfl ?_
      refine vw_iconst hX (v := 3) dX6_passengerTold_166 (by decide) ?_
      refine vw_iadd hX dX6_passengerTold_167 ?_
      refine vw_iconst hX (v := (-1)) dX6_passengerTold_168 (by decide) ?_
      obtain ⟨n42, f41, hf41, hif41, h⟩ := h
      refine vw_iast hX hf41 hif41 dX6_passengerTold_169 ?_
      refine vw_nmW (fun w43 ew43 => ?_)
      have h := h w43 ew43
      refine vw_aload_n hX 0 dX6_passengerTold_170 rfl ?_
      obtain ⟨q44, hq44, h⟩ := h
      refine g_X6_9 hX hq44 dX6_passengerTold_171 ?_
      refine vw_iload_n hX 1 dX6_passengerTold_174 rfl ?_
      refine vw_iconst hX (v := 4) dX6_passengerTold_175 (by decide) ?_
      refine vw_iadd hX dX6_passengerTold_176 ?_
      refine vw_iconst hX (v := (-1)) dX6_passengerTold_177 (by decide) ?_
      obtain ⟨n46, f45, hf45, hif45, h⟩ := h
      refine vw_iast hX hf45 hif45 dX6_passengerTold_178 ?_
      refine vw_nmW (fun w47 ew47 => ?_)
      have h := h w47 ew47
      refine vw_aload_n hX 0 dX6_passengerTold_179 rfl ?_
      refine vw_aload_n hX 0 dX6_passengerTold_180 rfl ?_
      obtain ⟨v48, hv48, h⟩ := h
      refine g_X6_167 hX hv48 dX6_passengerTold_181 ?_
      refine vw_iconst hX (v := 3) dX6_passengerTold_184 (by decide) ?_
      refine vw_icmp_eq hX (tgt := 192) dX6_passengerTold_185 (by decide) (fun c49 => ?_) (fun c49 => ?_)
      · have h := h.1 c49
        refine vw_iconst hX (v := 0) dX6_passengerTold_192 (by decide) ?_
        exact vw_sub [0, 1] rfl (pB_X6_passengerTold_193 hX hE _ _ _ _ _ _ _ h)
      · have h := h.2 c49
        refine vw_iconst hX (v := 1) dX6_passengerTold_188 (by decide) ?_
        refine vw_goto hX (tgt := 193) dX6_passengerTold_189 (by decide) ?_
        exact vw_sub [0, 1] rfl (pB_X6_passengerTold_193 hX hE _ _ _ _ _ _ _ h)
    · have h := h.2 c27
      refine vw_aload_n hX 0 dX6_passengerTold_117 rfl ?_
      obtain ⟨q50, hq50, h⟩ := h
      refine g_X6_9 hX hq50 dX6_passengerTold_118 ?_
      refine vw_iload_n hX 1 dX6_passengerTold_121 rfl ?_
      refine vw_bipush hX (v := 6) dX6_passengerTold_122 (by decide) ?_
      refine vw_iadd hX dX6_passengerTold_124 ?_
      refine vw_iconst hX (v := 1) dX6_passengerTold_125 (by decide) ?_
      refine vw_iadd hX dX6_passengerTold_126 ?_
      refine vw_iload_n hX 2 dX6_passengerTold_127 rfl ?_
      refine vw_iadd hX dX6_passengerTold_128 ?_
      refine vw_aload_n hX 0 dX6_passengerTold_129 rfl ?_
      obtain ⟨q51, hq51, h⟩ := h
      refine g_X6_36 hX hq51 dX6_passengerTold_130 ?_
      refine vw_iload_n hX 2 dX6_passengerTold_133 rfl ?_
      obtain ⟨n53, f52, hf52, hif52, h⟩ := h
      refine vw_iald hX hf52 hif52 dX6_passengerTold_134 ?_
      obtain ⟨n55, f54, hf54, hif54, h⟩ := h
      refine vw_iast hX hf54 hif54 dX6_passengerTold_135 ?_
      refine vw_nmW (fun w56 ew56 => ?_)
      have h := h w56 ew56
      refine vw_iinc hX 2 (v := x2 + 1) dX6_passengerTold_136 rfl rfl (by decide) rfl ?_
      refine vw_goto hX (tgt := 109) dX6_passengerTold_139 (by decide) ?_
      exact vw_sub [1, 2, 0] rfl (ih _ _ _ _ _ _ h)
def B_X6_passengerTold_69 (a0 : Nat) (Q : Mm → Nat → Prop) (y0 : Int32) (y1 : Nat) (w : Mm) (z : Nat) : Prop :=
  isO w y1 10 ∧ F_X6_wrong y1 y0 4 w z (fun w59 z60 => ∃ v61, fld w59 a0 10 19 = some (.int (v61)) ∧ (v61 = 0 → ∃ q63, fld w59 a0 10 0 = some (.ref (q63)) ∧ ∃ n65 f64, arI w59 q63 0 = some (n65, f64) ∧ vp_in 2 n65 ∧ ∀ i66 : Int32, i66 = (21 + ((((f64 (2 : Int32).toNatClampNeg)) * 13))) → ∃ q67, fld w59 a0 10 0 = some (.ref (q67)) ∧ ∃ v68, fld w59 a0 10 14 = some (.int (v68)) ∧ ∃ n70 f69, arW w59 q67 0 = some (n70, f69) ∧ vp_in ((i66 + 6)) n70 ∧ ∀ w71, w71 = mset w59 q67 (.inr (0, n70, .inl (upd f69 ((i66 + 6) : Int32).toNatClampNeg v68))) → ∃ n, B_X6_passengerTold_109 a0 Q n i66 0 w71 z60) ∧
  (¬ v61 = 0 → Q w59 z60))
set_option maxRecDepth 100000 in
set_option maxHeartbeats 4000000 in
theorem pB_X6_passengerTold_69 {C : Cx} {d : Nat} {a0 : Nat} {Q : Mm → Nat → Prop} {X : String → Mm → Nat → Prop} (hX : CX C cX6_passengerTold RX6 3 none [] (d + 5)) (hE : EQ C (rV Q) X) : ∀ (y0 : Int32) (y1 : Nat) (w : Mm) (z mc ms : Nat), B_X6_passengerTold_69 a0 Q y0 y1 w z → VW C 69 [(0, .ref (a0))] [.int (y0), .ref (y1)] w z mc ms := by
  intro y0 y1 w z mc ms h
  unfold B_X6_passengerTold_69 at h
  refine vw_iconst hX (v := 4) dX6_passengerTold_69 (by decide) ?_
  obtain ⟨hr57, h⟩ := h
  refine s_X6_190 hX hr57 dX6_passengerTold_70 (Nat.le_of_ble_eq_true rfl) (ct_X6_wrong (d := d + 4) (lst hX) h) (fun w59 z60 h => ?_)
  refine vw_aload_n hX 0 dX6_passengerTold_73 rfl ?_
  obtain ⟨v61, hv61, h⟩ := h
  refine g_X6_180 hX hv61 dX6_passengerTold_74 ?_
  refine vw_if_eq hX (tgt := 81) dX6_passengerTold_77 (by decide) (fun c62 => ?_) (fun c62 => ?_)
  · have h := h.1 c62
    refine vw_bipush hX (v := 21) dX6_passengerTold_81 (by decide) ?_
    refine vw_aload_n hX 0 dX6_passengerTold_83 rfl ?_
    obtain ⟨q63, hq63, h⟩ := h
    refine g_X6_9 hX hq63 dX6_passengerTold_84 ?_
    refine vw_iconst hX (v := 2) dX6_passengerTold_87 (by decide) ?_
    obtain ⟨n65, f64, hf64, hif64, h⟩ := h
    refine vw_iald hX hf64 hif64 dX6_passengerTold_88 ?_
    refine vw_bipush hX (v := 13) dX6_passengerTold_89 (by decide) ?_
    refine vw_imul hX dX6_passengerTold_91 ?_
    refine vw_iadd hX dX6_passengerTold_92 ?_
    refine vw_nmI (fun i66 ei66 => ?_)
    have h := h i66 ei66
    refine vw_istore_n hX dX6_passengerTold_93 (by decide) rfl ?_
    refine vw_aload_n hX 1 dX6_passengerTold_94 rfl ?_
    obtain ⟨q67, hq67, h⟩ := h
    refine g_X6_9 hX hq67 dX6_passengerTold_95 ?_
    refine vw_iload_n hX 0 dX6_passengerTold_98 rfl ?_
    refine vw_bipush hX (v := 6) dX6_passengerTold_99 (by decide) ?_
    refine vw_iadd hX dX6_passengerTold_101 ?_
    refine vw_aload_n hX 1 dX6_passengerTold_102 rfl ?_
    obtain ⟨v68, hv68, h⟩ := h
    refine g_X6_150 hX hv68 dX6_passengerTold_103 ?_
    obtain ⟨n70, f69, hf69, hif69, h⟩ := h
    refine vw_iast hX hf69 hif69 dX6_passengerTold_106 ?_
    refine vw_nmW (fun w71 ew71 => ?_)
    have h := h w71 ew71
    refine vw_iconst hX (v := 0) dX6_passengerTold_107 (by decide) ?_
    refine vw_istore_n hX dX6_passengerTold_108 (by decide) rfl ?_
    obtain ⟨n, h⟩ := h
    exact vw_sub [2, 1, 0] rfl (pB_X6_passengerTold_109 hX hE n _ _ _ _ _ _ h)
  · have h := h.2 c62
    exact vw_vret hX hE dX6_passengerTold_80 ⟨rfl, h⟩
def B_X6_passengerTold_68 (a0 : Nat) (Q : Mm → Nat → Prop) (y0 : Nat) (w : Mm) (z : Nat) : Prop :=
  B_X6_passengerTold_69 a0 Q 0 y0 w z
set_option maxRecDepth 100000 in
set_option maxHeartbeats 4000000 in
theorem pB_X6_passengerTold_68 {C : Cx} {d : Nat} {a0 : Nat} {Q : Mm → Nat → Prop} {X : String → Mm → Nat → Prop} (hX : CX C cX6_passengerTold RX6 3 none [] (d + 5)) (hE : EQ C (rV Q) X) : ∀ (y0 : Nat) (w : Mm) (z mc ms : Nat), B_X6_passengerTold_68 a0 Q y0 w z → VW C 68 [(0, .ref (a0))] [.ref (y0)] w z mc ms := by
  intro y0 w z mc ms h
  unfold B_X6_passengerTold_68 at h
  refine vw_iconst hX (v := 0) dX6_passengerTold_68 (by decide) ?_
  exact pB_X6_passengerTold_69 hX hE _ _ _ _ _ _ h
def B_X6_passengerTold_36 (a0 : Nat) (Q : Mm → Nat → Prop) (y0 : Int32) (y1 : Nat) (w : Mm) (z : Nat) : Prop :=
  isO w y1 10 ∧ F_X6_wrong y1 y0 5 w z (fun w74 z75 => isO w74 a0 10 ∧ F_X6_go a0 w74 z75 (fun w78 z79 => isO w78 a0 10 ∧ F_X6_nameHere a0 w78 z79 (fun w82 z83 => ∃ v84, fld w82 a0 10 19 = some (.int (v84)) ∧ (¬ v84 = 0 → B_X6_passengerTold_68 a0 Q a0 w82 z83) ∧
  (v84 = 0 → isO w82 a0 10 ∧ F_X6_named a0 w82 z83 (fun r87 w88 z89 => (r87 = (-1) → B_X6_passengerTold_68 a0 Q a0 w88 z89) ∧
  (¬ r87 = (-1) → B_X6_passengerTold_69 a0 Q 1 a0 w88 z89))))))
set_option maxRecDepth 100000 in
set_option maxHeartbeats 4000000 in
theorem pB_X6_passengerTold_36 {C : Cx} {d : Nat} {a0 : Nat} {Q : Mm → Nat → Prop} {X : String → Mm → Nat → Prop} (hX : CX C cX6_passengerTold RX6 3 none [] (d + 5)) (hE : EQ C (rV Q) X) : ∀ (y0 : Int32) (y1 : Nat) (w : Mm) (z mc ms : Nat), B_X6_passengerTold_36 a0 Q y0 y1 w z → VW C 36 [(0, .ref (a0))] [.int (y0), .ref (y1)] w z mc ms := by
  intro y0 y1 w z mc ms h
  unfold B_X6_passengerTold_36 at h
  refine vw_iconst hX (v := 5) dX6_passengerTold_36 (by decide) ?_
  obtain ⟨hr72, h⟩ := h
  refine s_X6_190 hX hr72 dX6_passengerTold_37 (Nat.le_of_ble_eq_true rfl) (ct_X6_wrong (d := d + 4) (lst hX) h) (fun w74 z75 h => ?_)
  refine vw_aload_n hX 0 dX6_passengerTold_40 rfl ?_
  obtain ⟨hr76, h⟩ := h
  refine s_X6_197 hX hr76 dX6_passengerTold_41 (Nat.le_of_ble_eq_true rfl) (ct_X6_go (d := d + 1) (lst hX) h) (fun w78 z79 h => ?_)
  refine vw_aload_n hX 0 dX6_passengerTold_44 rfl ?_
  obtain ⟨hr80, h⟩ := h
  refine s_X6_200 hX hr80 dX6_passengerTold_45 (Nat.le_of_ble_eq_true rfl) (ct_X6_nameHere (d := d + 3) (lst hX) h) (fun w82 z83 h => ?_)
  refine vw_aload_n hX 0 dX6_passengerTold_48 rfl ?_
  refine vw_aload_n hX 0 dX6_passengerTold_49 rfl ?_
  obtain ⟨v84, hv84, h⟩ := h
  refine g_X6_180 hX hv84 dX6_passengerTold_50 ?_
  refine vw_if_ne hX (tgt := 68) dX6_passengerTold_53 (by decide) (fun c85 => ?_) (fun c85 => ?_)
  · have h := h.1 c85
    exact pB_X6_passengerTold_68 hX hE _ _ _ _ _ h
  · have h := h.2 c85
    refine vw_aload_n hX 0 dX6_passengerTold_56 rfl ?_
    obtain ⟨hr86, h⟩ := h
    refine s_X6_203 hX hr86 dX6_passengerTold_57 (Nat.le_of_ble_eq_true rfl) (ct_X6_named (d := d + 4) (lst hX) h) (fun r87 w88 z89 h => ?_)
    refine vw_iconst hX (v := (-1)) dX6_passengerTold_60 (by decide) ?_
    refine vw_icmp_eq hX (tgt := 68) dX6_passengerTold_61 (by decide) (fun c90 => ?_) (fun c90 => ?_)
    · have h := h.1 c90
      exact pB_X6_passengerTold_68 hX hE _ _ _ _ _ h
    · have h := h.2 c90
      refine vw_iconst hX (v := 1) dX6_passengerTold_64 (by decide) ?_
      refine vw_goto hX (tgt := 69) dX6_passengerTold_65 (by decide) ?_
      exact pB_X6_passengerTold_69 hX hE _ _ _ _ _ _ h
def B_X6_passengerTold_15 (a0 : Nat) (Q : Mm → Nat → Prop) (y0 : Int32) (y1 : Nat) (w : Mm) (z : Nat) : Prop :=
  isO w y1 10 ∧ F_X6_wrong y1 y0 1 w z (fun w93 z94 => ∃ q95, fld w93 a0 10 0 = some (.ref (q95)) ∧ ∃ n97 f96, arI w93 q95 0 = some (n97, f96) ∧ vp_in 2 n97 ∧ (¬ ((f96 (2 : Int32).toNatClampNeg)) = 8 → B_X6_passengerTold_36 a0 Q 0 a0 w93 z94) ∧
  (((f96 (2 : Int32).toNatClampNeg)) = 8 → B_X6_passengerTold_36 a0 Q 1 a0 w93 z94))
set_option maxRecDepth 100000 in
set_option maxHeartbeats 4000000 in
theorem pB_X6_passengerTold_15 {C : Cx} {d : Nat} {a0 : Nat} {Q : Mm → Nat → Prop} {X : String → Mm → Nat → Prop} (hX : CX C cX6_passengerTold RX6 3 none [] (d + 5)) (hE : EQ C (rV Q) X) : ∀ (y0 : Int32) (y1 : Nat) (w : Mm) (z mc ms : Nat), B_X6_passengerTold_15 a0 Q y0 y1 w z → VW C 15 [(0, .ref (a0))] [.int (y0), .ref (y1)] w z mc ms := by
  intro y0 y1 w z mc ms h
  unfold B_X6_passengerTold_15 at h
  refine vw_iconst hX (v := 1) dX6_passengerTold_15 (by decide) ?_
  obtain ⟨hr91, h⟩ := h
  refine s_X6_190 hX hr91 dX6_passengerTold_16 (Nat.le_of_ble_eq_true rfl) (ct_X6_wrong (d := d + 4) (lst hX) h) (fun w93 z94 h => ?_)
  refine vw_aload_n hX 0 dX6_passengerTold_19 rfl ?_
  refine vw_aload_n hX 0 dX6_passengerTold_20 rfl ?_
  obtain ⟨q95, hq95, h⟩ := h
  refine g_X6_9 hX hq95 dX6_passengerTold_21 ?_
  refine vw_iconst hX (v := 2) dX6_passengerTold_24 (by decide) ?_
  obtain ⟨n97, f96, hf96, hif96, h⟩ := h
  refine vw_iald hX hf96 hif96 dX6_passengerTold_25 ?_
  refine vw_bipush hX (v := 8) dX6_passengerTold_26 (by decide) ?_
  refine vw_icmp_ne hX (tgt := 35) dX6_passengerTold_28 (by decide) (fun c98 => ?_) (fun c98 => ?_)
  · have h := h.1 c98
    refine vw_iconst hX (v := 0) dX6_passengerTold_35 (by decide) ?_
    exact pB_X6_passengerTold_36 hX hE _ _ _ _ _ _ h
  · have h := h.2 c98
    refine vw_iconst hX (v := 1) dX6_passengerTold_31 (by decide) ?_
    refine vw_goto hX (tgt := 36) dX6_passengerTold_32 (by decide) ?_
    exact pB_X6_passengerTold_36 hX hE _ _ _ _ _ _ h
def F_X6_passengerTold (a0 : Nat) (w : Mm) (z : Nat) (Q : Mm → Nat → Prop) : Prop :=
  ∀ q1, isLit w q1 lit_5 → isO w a0 10 ∧ F_X6_is a0 q1 w z (fun r3 w4 z5 => (¬ r3 = 0 → B_X6_passengerTold_15 a0 Q 0 a0 w4 z5) ∧
  (r3 = 0 → B_X6_passengerTold_15 a0 Q 1 a0 w4 z5))
set_option maxRecDepth 100000 in
set_option maxHeartbeats 4000000 in
theorem ct_X6_passengerTold {l : Launch} {g : Gp} {d : Nat} (hst : l.stackTraces = false) {a0 : Nat} {w : Mm} {z mc ms : Nat} {Q : Mm → Nat → Prop} {X : String → Mm → Nat → Prop} (h : F_X6_passengerTold a0 w z Q) : Ct l g yX6_passengerTold (.code yX6_passengerTold cX6_passengerTold 3 none) (d + 5) mc ms [.ref (a0)] w z (rV Q) X := by
  refine Ct.of hst (by decide) (Nat.le_of_ble_eq_true rfl) (fun C hX hE hg hl hNm => ?_)
  subst hg
  subst hl
  unfold F_X6_passengerTold at h
  show VW C 0 [(0, .ref (a0))] [] w z mc ms
  refine vw_aload_n hX 0 dX6_passengerTold_0 rfl ?_
  refine vw_aload_n hX 0 dX6_passengerTold_1 rfl ?_
  refine l_X6_206 hX dX6_passengerTold_2 (fun q1 hq1 => ?_)
  have h := h q1 hq1
  obtain ⟨hr2, h⟩ := h
  refine s_X6_208 hX hr2 dX6_passengerTold_4 (Nat.le_of_ble_eq_true rfl) (ct_X6_is (d := d + 0) (lst hX) h) (fun r3 w4 z5 h => ?_)
  refine vw_if_ne hX (tgt := 14) dX6_passengerTold_7 (by decide) (fun c6 => ?_) (fun c6 => ?_)
  · have h := h.1 c6
    refine vw_iconst hX (v := 0) dX6_passengerTold_14 (by decide) ?_
    exact pB_X6_passengerTold_15 hX hE _ _ _ _ _ _ h
  · have h := h.2 c6
    refine vw_iconst hX (v := 1) dX6_passengerTold_10 (by decide) ?_
    refine vw_goto hX (tgt := 15) dX6_passengerTold_11 (by decide) ?_
    exact pB_X6_passengerTold_15 hX hE _ _ _ _ _ _ h
def B_X6_passengerHere_38 (a0 : Nat) (Q : Int32 → Mm → Nat → Prop) (x1 : Int32) (y0 : Int32) (y1 : Nat) (w : Mm) (z : Nat) : Prop :=
  isO w y1 10 ∧ F_X6_wrong y1 y0 3 w z (fun w3 z4 => isO w3 a0 10 ∧ F_X6_go a0 w3 z4 (fun w7 z8 => Q x1 w7 z8))
set_option maxRecDepth 100000 in
set_option maxHeartbeats 4000000 in
theorem pB_X6_passengerHere_38 {C : Cx} {d : Nat} {a0 : Nat} {Q : Int32 → Mm → Nat → Prop} {X : String → Mm → Nat → Prop} (hX : CX C cX6_passengerHere RX6 2 (some .int) [] (d + 4)) (hE : EQ C (rI Q) X) : ∀ (x1 : Int32) (y0 : Int32) (y1 : Nat) (w : Mm) (z mc ms : Nat), B_X6_passengerHere_38 a0 Q x1 y0 y1 w z → VW C 38 [(0, .ref (a0)), (1, .int (x1))] [.int (y0), .ref (y1)] w z mc ms := by
  intro x1 y0 y1 w z mc ms h
  unfold B_X6_passengerHere_38 at h
  refine vw_iconst hX (v := 3) dX6_passengerHere_38 (by decide) ?_
  obtain ⟨hr1, h⟩ := h
  refine s_X6_190 hX hr1 dX6_passengerHere_39 (Nat.le_of_ble_eq_true rfl) (ct_X6_wrong (d := d + 3) (lst hX) h) (fun w3 z4 h => ?_)
  refine vw_aload_n hX 0 dX6_passengerHere_42 rfl ?_
  obtain ⟨hr5, h⟩ := h
  refine s_X6_197 hX hr5 dX6_passengerHere_43 (Nat.le_of_ble_eq_true rfl) (ct_X6_go (d := d + 0) (lst hX) h) (fun w7 z8 h => ?_)
  refine vw_iload_n hX 1 dX6_passengerHere_46 rfl ?_
  exact vw_iret hX hE dX6_passengerHere_47 ⟨_, rfl, h⟩
def B_X6_passengerHere_37 (a0 : Nat) (Q : Int32 → Mm → Nat → Prop) (x1 : Int32) (y0 : Nat) (w : Mm) (z : Nat) : Prop :=
  B_X6_passengerHere_38 a0 Q x1 0 y0 w z
set_option maxRecDepth 100000 in
set_option maxHeartbeats 4000000 in
theorem pB_X6_passengerHere_37 {C : Cx} {d : Nat} {a0 : Nat} {Q : Int32 → Mm → Nat → Prop} {X : String → Mm → Nat → Prop} (hX : CX C cX6_passengerHere RX6 2 (some .int) [] (d + 4)) (hE : EQ C (rI Q) X) : ∀ (x1 : Int32) (y0 : Nat) (w : Mm) (z mc ms : Nat), B_X6_passengerHere_37 a0 Q x1 y0 w z → VW C 37 [(0, .ref (a0)), (1, .int (x1))] [.ref (y0)] w z mc ms := by
  intro x1 y0 w z mc ms h
  unfold B_X6_passengerHere_37 at h
  refine vw_iconst hX (v := 0) dX6_passengerHere_37 (by decide) ?_
  exact pB_X6_passengerHere_38 hX hE _ _ _ _ _ _ _ h
def B_X6_passengerHere_19 (a0 : Nat) (Q : Int32 → Mm → Nat → Prop) (y0 : Int32) (w : Mm) (z : Nat) : Prop :=
  ∃ v9, fld w a0 10 19 = some (.int (v9)) ∧ (¬ v9 = 0 → B_X6_passengerHere_37 a0 Q y0 a0 w z) ∧
  (v9 = 0 → (¬ y0 = (-1) → B_X6_passengerHere_37 a0 Q y0 a0 w z) ∧
  (y0 = (-1) → B_X6_passengerHere_38 a0 Q y0 1 a0 w z))
set_option maxRecDepth 100000 in
set_option maxHeartbeats 4000000 in
theorem pB_X6_passengerHere_19 {C : Cx} {d : Nat} {a0 : Nat} {Q : Int32 → Mm → Nat → Prop} {X : String → Mm → Nat → Prop} (hX : CX C cX6_passengerHere RX6 2 (some .int) [] (d + 4)) (hE : EQ C (rI Q) X) : ∀ (y0 : Int32) (w : Mm) (z mc ms : Nat), B_X6_passengerHere_19 a0 Q y0 w z → VW C 19 [(0, .ref (a0))] [.int (y0)] w z mc ms := by
  intro y0 w z mc ms h
  unfold B_X6_passengerHere_19 at h
  refine vw_istore_n hX dX6_passengerHere_19 (by decide) rfl ?_
  refine vw_aload_n hX 1 dX6_passengerHere_20 rfl ?_
  refine vw_aload_n hX 1 dX6_passengerHere_21 rfl ?_
  obtain ⟨v9, hv9, h⟩ := h
  refine g_X6_180 hX hv9 dX6_passengerHere_22 ?_
  refine vw_if_ne hX (tgt := 37) dX6_passengerHere_25 (by decide) (fun c10 => ?_) (fun c10 => ?_)
  · have h := h.1 c10
    exact vw_sub [1, 0] rfl (pB_X6_passengerHere_37 hX hE _ _ _ _ _ _ h)
  · have h := h.2 c10
    refine vw_iload_n hX 0 dX6_passengerHere_28 rfl ?_
    refine vw_iconst hX (v := (-1)) dX6_passengerHere_29 (by decide) ?_
    refine vw_icmp_ne hX (tgt := 37) dX6_passengerHere_30 (by decide) (fun c11 => ?_) (fun c11 => ?_)
    · have h := h.1 c11
      exact vw_sub [1, 0] rfl (pB_X6_passengerHere_37 hX hE _ _ _ _ _ _ h)
    · have h := h.2 c11
      refine vw_iconst hX (v := 1) dX6_passengerHere_33 (by decide) ?_
      refine vw_goto hX (tgt := 38) dX6_passengerHere_34 (by decide) ?_
      exact vw_sub [1, 0] rfl (pB_X6_passengerHere_38 hX hE _ _ _ _ _ _ _ h)
def F_X6_passengerHere (a0 : Nat) (w : Mm) (z : Nat) (Q : Int32 → Mm → Nat → Prop) : Prop :=
  isO w a0 10 ∧ F_X6_nameHere a0 w z (fun w3 z4 => ∃ v5, fld w3 a0 10 19 = some (.int (v5)) ∧ (v5 = 0 → isO w3 a0 10 ∧ F_X6_named a0 w3 z4 (fun r8 w9 z10 => B_X6_passengerHere_19 a0 Q r8 w9 z10)) ∧
  (¬ v5 = 0 → B_X6_passengerHere_19 a0 Q 0 w3 z4))
set_option maxRecDepth 100000 in
set_option maxHeartbeats 4000000 in
theorem ct_X6_passengerHere {l : Launch} {g : Gp} {d : Nat} (hst : l.stackTraces = false) {a0 : Nat} {w : Mm} {z mc ms : Nat} {Q : Int32 → Mm → Nat → Prop} {X : String → Mm → Nat → Prop} (h : F_X6_passengerHere a0 w z Q) : Ct l g yX6_passengerHere (.code yX6_passengerHere cX6_passengerHere 2 (some .int)) (d + 4) mc ms [.ref (a0)] w z (rI Q) X := by
  refine Ct.of hst (by decide) (Nat.le_of_ble_eq_true rfl) (fun C hX hE hg hl hNm => ?_)
  subst hg
  subst hl
  unfold F_X6_passengerHere at h
  show VW C 0 [(0, .ref (a0))] [] w z mc ms
  refine vw_aload_n hX 0 dX6_passengerHere_0 rfl ?_
  obtain ⟨hr1, h⟩ := h
  refine s_X6_200 hX hr1 dX6_passengerHere_1 (Nat.le_of_ble_eq_true rfl) (ct_X6_nameHere (d := d + 2) (lst hX) h) (fun w3 z4 h => ?_)
  refine vw_aload_n hX 0 dX6_passengerHere_4 rfl ?_
  obtain ⟨v5, hv5, h⟩ := h
  refine g_X6_180 hX hv5 dX6_passengerHere_5 ?_
  refine vw_if_eq hX (tgt := 15) dX6_passengerHere_8 (by decide) (fun c6 => ?_) (fun c6 => ?_)
  · have h := h.1 c6
    refine vw_aload_n hX 0 dX6_passengerHere_15 rfl ?_
    obtain ⟨hr7, h⟩ := h
    refine s_X6_203 hX hr7 dX6_passengerHere_16 (Nat.le_of_ble_eq_true rfl) (ct_X6_named (d := d + 3) (lst hX) h) (fun r8 w9 z10 h => ?_)
    exact pB_X6_passengerHere_19 hX hE _ _ _ _ _ h
  · have h := h.2 c6
    refine vw_iconst hX (v := 0) dX6_passengerHere_11 (by decide) ?_
    refine vw_goto hX (tgt := 19) dX6_passengerHere_12 (by decide) ?_
    exact pB_X6_passengerHere_19 hX hE _ _ _ _ _ h
def F_X6_price (a0 : Int32) (a1 : Int32) (w : Mm) (z : Nat) (Q : Int32 → Mm → Nat → Prop) : Prop :=
  (¬ a0 = 2 → (¬ a0 = 1 → F_J6_bitCount_0f7a4 a1 w z (fun r3 w4 z5 => Q ((200 * r3)) w4 z5)) ∧
  (a0 = 1 → F_J6_bitCount_0f7a4 a1 w z (fun r6 w7 z8 => Q ((500 * r6)) w7 z8))) ∧
  (a0 = 2 → Q 150 w z)
set_option maxRecDepth 100000 in
set_option maxHeartbeats 4000000 in
theorem ct_X6_price {l : Launch} {g : Gp} {d : Nat} (hst : l.stackTraces = false) {a0 : Int32} {a1 : Int32} {w : Mm} {z mc ms : Nat} {Q : Int32 → Mm → Nat → Prop} {X : String → Mm → Nat → Prop} (h : F_X6_price a0 a1 w z Q) : Ct l g yX6_price (.code yX6_price cX6_price 2 (some .int)) (d + 1) mc ms [.int (a0), .int (a1)] w z (rI Q) X := by
  refine Ct.of hst (by decide) (Nat.le_of_ble_eq_true rfl) (fun C hX hE hg hl hNm => ?_)
  subst hg
  subst hl
  unfold F_X6_price at h
  show VW C 0 [(0, .int (a0)), (1, .int (a1))] [] w z mc ms
  refine vw_iload_n hX 0 dX6_price_0 rfl ?_
  refine vw_iconst hX (v := 2) dX6_price_1 (by decide) ?_
  refine vw_icmp_ne hX (tgt := 9) dX6_price_2 (by decide) (fun c1 => ?_) (fun c1 => ?_)
  · have h := h.1 c1
    refine vw_iload_n hX 0 dX6_price_9 rfl ?_
    refine vw_iconst hX (v := 1) dX6_price_10 (by decide) ?_
    refine vw_icmp_ne hX (tgt := 20) dX6_price_11 (by decide) (fun c2 => ?_) (fun c2 => ?_)
    · have h := h.1 c2
      refine vw_sipush hX (v := 200) dX6_price_20 (by decide) ?_
      refine vw_iload_n hX 1 dX6_price_23 rfl ?_
      refine s_X6_90 hX dX6_price_24 (Nat.le_of_ble_eq_true rfl) (ct_J6_bitCount_0f7a4 (d := d + 0) (lst hX) h) (fun r3 w4 z5 h => ?_)
      refine vw_imul hX dX6_price_27 ?_
      exact vw_iret hX hE dX6_price_28 ⟨_, rfl, h⟩
    · have h := h.2 c2
      refine vw_sipush hX (v := 500) dX6_price_14 (by decide) ?_
      refine vw_goto hX (tgt := 23) dX6_price_17 (by decide) ?_
      refine vw_iload_n hX 1 dX6_price_23 rfl ?_
      refine s_X6_90 hX dX6_price_24 (Nat.le_of_ble_eq_true rfl) (ct_J6_bitCount_0f7a4 (d := d + 0) (lst hX) h) (fun r6 w7 z8 h => ?_)
      refine vw_imul hX dX6_price_27 ?_
      exact vw_iret hX hE dX6_price_28 ⟨_, rfl, h⟩
  · have h := h.2 c1
    refine vw_sipush hX (v := 150) dX6_price_5 (by decide) ?_
    exact vw_iret hX hE dX6_price_8 ⟨_, rfl, h⟩
def F_X6_ofPassenger (a0 : Nat) (a1 : Int32) (a2 : Int32) (w : Mm) (z : Nat) (Q : Int32 → Mm → Nat → Prop) : Prop :=
  ∃ q1, fld w a0 10 0 = some (.ref (q1)) ∧ ∃ n3 f2, arI w q1 0 = some (n3, f2) ∧ vp_in ((((21 + ((13 * a1)))) + a2)) n3 ∧ Q ((f2 ((((21 + ((13 * a1)))) + a2) : Int32).toNatClampNeg)) w z
set_option maxRecDepth 100000 in
set_option maxHeartbeats 4000000 in
theorem ct_X6_ofPassenger {l : Launch} {g : Gp} {d : Nat} (hst : l.stackTraces = false) {a0 : Nat} {a1 : Int32} {a2 : Int32} {w : Mm} {z mc ms : Nat} {Q : Int32 → Mm → Nat → Prop} {X : String → Mm → Nat → Prop} (h : F_X6_ofPassenger a0 a1 a2 w z Q) : Ct l g yX6_ofPassenger (.code yX6_ofPassenger cX6_ofPassenger 3 (some .int)) (d + 0) mc ms [.ref (a0), .int (a1), .int (a2)] w z (rI Q) X := by
  refine Ct.of hst (by decide) (Nat.le_of_ble_eq_true rfl) (fun C hX hE hg hl hNm => ?_)
  subst hg
  subst hl
  unfold F_X6_ofPassenger at h
  show VW C 0 [(0, .ref (a0)), (1, .int (a1)), (2, .int (a2))] [] w z mc ms
  refine vw_aload_n hX 0 dX6_ofPassenger_0 rfl ?_
  obtain ⟨q1, hq1, h⟩ := h
  refine g_X6_9 hX hq1 dX6_ofPassenger_1 ?_
  refine vw_bipush hX (v := 21) dX6_ofPassenger_4 (by decide) ?_
  refine vw_bipush hX (v := 13) dX6_ofPassenger_6 (by decide) ?_
  refine vw_iload_n hX 1 dX6_ofPassenger_8 rfl ?_
  refine vw_imul hX dX6_ofPassenger_9 ?_
  refine vw_iadd hX dX6_ofPassenger_10 ?_
  refine vw_iload_n hX 2 dX6_ofPassenger_11 rfl ?_
  refine vw_iadd hX dX6_ofPassenger_12 ?_
  obtain ⟨n3, f2, hf2, hif2, h⟩ := h
  refine vw_iald hX hf2 hif2 dX6_ofPassenger_13 ?_
  exact vw_iret hX hE dX6_ofPassenger_14 ⟨_, rfl, h⟩
def F_X6_mayBuy (a0 : Nat) (a1 : Int32) (a2 : Int32) (a3 : Int32) (w : Mm) (z : Nat) (Q : Int32 → Mm → Nat → Prop) : Prop :=
  ∃ q1, fld w a0 10 0 = some (.ref (q1)) ∧ ∃ n3 f2, arI w q1 0 = some (n3, f2) ∧ vp_in 3 n3 ∧ (30 ≤ ((f2 (3 : Int32).toNatClampNeg)) → Q 0 w z) ∧
  (¬ 30 ≤ ((f2 (3 : Int32).toNatClampNeg)) → F_X6_price a2 a3 w z (fun r5 w6 z7 => isO w6 a0 10 ∧ F_X6_ofPassenger a0 a1 0 w6 z7 (fun r9 w10 z11 => (r9 < r5 → Q 0 w10 z11) ∧
  (¬ r9 < r5 → Q 1 w10 z11))))
set_option maxRecDepth 100000 in
set_option maxHeartbeats 4000000 in
theorem ct_X6_mayBuy {l : Launch} {g : Gp} {d : Nat} (hst : l.stackTraces = false) {a0 : Nat} {a1 : Int32} {a2 : Int32} {a3 : Int32} {w : Mm} {z mc ms : Nat} {Q : Int32 → Mm → Nat → Prop} {X : String → Mm → Nat → Prop} (h : F_X6_mayBuy a0 a1 a2 a3 w z Q) : Ct l g yX6_mayBuy (.code yX6_mayBuy cX6_mayBuy 4 (some .boolean)) (d + 2) mc ms [.ref (a0), .int (a1), .int (a2), .int (a3)] w z (rI Q) X := by
  refine Ct.of hst (by decide) (Nat.le_of_ble_eq_true rfl) (fun C hX hE hg hl hNm => ?_)
  subst hg
  subst hl
  unfold F_X6_mayBuy at h
  show VW C 0 [(0, .ref (a0)), (1, .int (a1)), (2, .int (a2)), (3, .int (a3))] [] w z mc ms
  refine vw_aload_n hX 0 dX6_mayBuy_0 rfl ?_
  obtain ⟨q1, hq1, h⟩ := h
  refine g_X6_9 hX hq1 dX6_mayBuy_1 ?_
  refine vw_iconst hX (v := 3) dX6_mayBuy_4 (by decide) ?_
  obtain ⟨n3, f2, hf2, hif2, h⟩ := h
  refine vw_iald hX hf2 hif2 dX6_mayBuy_5 ?_
  refine vw_bipush hX (v := 30) dX6_mayBuy_6 (by decide) ?_
  refine vw_icmp_ge hX (tgt := 29) dX6_mayBuy_8 (by decide) (fun c4 => ?_) (fun c4 => ?_)
  · have h := h.1 c4
    refine vw_iconst hX (v := 0) dX6_mayBuy_29 (by decide) ?_
    exact vw_zret hX hE dX6_mayBuy_30 rfl ⟨_, rfl, h⟩
  · have h := h.2 c4
    refine vw_iload_n hX 2 dX6_mayBuy_11 rfl ?_
    refine vw_iload_n hX 3 dX6_mayBuy_12 rfl ?_
    refine s_X6_99 hX dX6_mayBuy_13 (Nat.le_of_ble_eq_true rfl) (ct_X6_price (d := d + 0) (lst hX) h) (fun r5 w6 z7 h => ?_)
    refine vw_aload_n hX 0 dX6_mayBuy_16 rfl ?_
    refine vw_iload_n hX 1 dX6_mayBuy_17 rfl ?_
    refine vw_iconst hX (v := 0) dX6_mayBuy_18 (by decide) ?_
    obtain ⟨hr8, h⟩ := h
    refine s_X6_102 hX hr8 dX6_mayBuy_19 (Nat.le_of_ble_eq_true rfl) (ct_X6_ofPassenger (d := d + 1) (lst hX) h) (fun r9 w10 z11 h => ?_)
    refine vw_icmp_gt hX (tgt := 29) dX6_mayBuy_22 (by decide) (fun c12 => ?_) (fun c12 => ?_)
    · have h := h.1 c12
      refine vw_iconst hX (v := 0) dX6_mayBuy_29 (by decide) ?_
      exact vw_zret hX hE dX6_mayBuy_30 rfl ⟨_, rfl, h⟩
    · have h := h.2 c12
      refine vw_iconst hX (v := 1) dX6_mayBuy_25 (by decide) ?_
      refine vw_goto hX (tgt := 30) dX6_mayBuy_26 (by decide) ?_
      exact vw_zret hX hE dX6_mayBuy_30 rfl ⟨_, rfl, h⟩
def B_X6_ends_35 (a0 : Nat) (a1 : Int32) (Q : Int32 → Mm → Nat → Prop) (y0 : Int32) (y1 : Nat) (w : Mm) (z : Nat) : Prop :=
  isO w y1 10 ∧ F_X6_wrong y1 y0 6 w z (fun w3 z4 => ∃ v5, fld w3 a0 10 19 = some (.int (v5)) ∧ (¬ v5 = 0 → Q 0 w3 z4) ∧
  (v5 = 0 → Q 1 w3 z4))
set_option maxRecDepth 100000 in
set_option maxHeartbeats 4000000 in
theorem pB_X6_ends_35 {C : Cx} {d : Nat} {a0 : Nat} {a1 : Int32} {Q : Int32 → Mm → Nat → Prop} {X : String → Mm → Nat → Prop} (hX : CX C cX6_ends RX6 2 (some .boolean) [] (d + 1)) (hE : EQ C (rI Q) X) : ∀ (y0 : Int32) (y1 : Nat) (w : Mm) (z mc ms : Nat), B_X6_ends_35 a0 a1 Q y0 y1 w z → VW C 35 [(0, .ref (a0)), (1, .int (a1))] [.int (y0), .ref (y1)] w z mc ms := by
  intro y0 y1 w z mc ms h
  unfold B_X6_ends_35 at h
  refine vw_bipush hX (v := 6) dX6_ends_35 (by decide) ?_
  obtain ⟨hr1, h⟩ := h
  refine s_X6_190 hX hr1 dX6_ends_37 (Nat.le_of_ble_eq_true rfl) (ct_X6_wrong (d := d + 0) (lst hX) h) (fun w3 z4 h => ?_)
  refine vw_aload_n hX 0 dX6_ends_40 rfl ?_
  obtain ⟨v5, hv5, h⟩ := h
  refine g_X6_180 hX hv5 dX6_ends_41 ?_
  refine vw_if_ne hX (tgt := 51) dX6_ends_44 (by decide) (fun c6 => ?_) (fun c6 => ?_)
  · have h := h.1 c6
    refine vw_iconst hX (v := 0) dX6_ends_51 (by decide) ?_
    exact vw_zret hX hE dX6_ends_52 rfl ⟨_, rfl, h⟩
  · have h := h.2 c6
    refine vw_iconst hX (v := 1) dX6_ends_47 (by decide) ?_
    refine vw_goto hX (tgt := 52) dX6_ends_48 (by decide) ?_
    exact vw_zret hX hE dX6_ends_52 rfl ⟨_, rfl, h⟩
def B_X6_ends_34 (a0 : Nat) (a1 : Int32) (Q : Int32 → Mm → Nat → Prop) (y0 : Nat) (w : Mm) (z : Nat) : Prop :=
  B_X6_ends_35 a0 a1 Q 0 y0 w z
set_option maxRecDepth 100000 in
set_option maxHeartbeats 4000000 in
theorem pB_X6_ends_34 {C : Cx} {d : Nat} {a0 : Nat} {a1 : Int32} {Q : Int32 → Mm → Nat → Prop} {X : String → Mm → Nat → Prop} (hX : CX C cX6_ends RX6 2 (some .boolean) [] (d + 1)) (hE : EQ C (rI Q) X) : ∀ (y0 : Nat) (w : Mm) (z mc ms : Nat), B_X6_ends_34 a0 a1 Q y0 w z → VW C 34 [(0, .ref (a0)), (1, .int (a1))] [.ref (y0)] w z mc ms := by
  intro y0 w z mc ms h
  unfold B_X6_ends_34 at h
  refine vw_iconst hX (v := 0) dX6_ends_34 (by decide) ?_
  exact pB_X6_ends_35 hX hE _ _ _ _ _ _ h
def B_X6_ends_14 (a0 : Nat) (a1 : Int32) (Q : Int32 → Mm → Nat → Prop) (y0 : Int32) (y1 : Nat) (w : Mm) (z : Nat) : Prop :=
  isO w y1 10 ∧ F_X6_wrong y1 y0 1 w z (fun w9 z10 => ∃ v11, fld w9 a0 10 19 = some (.int (v11)) ∧ (¬ v11 = 0 → B_X6_ends_34 a0 a1 Q a0 w9 z10) ∧
  (v11 = 0 → (¬ a1 = 0 → B_X6_ends_34 a0 a1 Q a0 w9 z10) ∧
  (a1 = 0 → B_X6_ends_35 a0 a1 Q 1 a0 w9 z10)))
set_option maxRecDepth 100000 in
set_option maxHeartbeats 4000000 in
theorem pB_X6_ends_14 {C : Cx} {d : Nat} {a0 : Nat} {a1 : Int32} {Q : Int32 → Mm → Nat → Prop} {X : String → Mm → Nat → Prop} (hX : CX C cX6_ends RX6 2 (some .boolean) [] (d + 1)) (hE : EQ C (rI Q) X) : ∀ (y0 : Int32) (y1 : Nat) (w : Mm) (z mc ms : Nat), B_X6_ends_14 a0 a1 Q y0 y1 w z → VW C 14 [(0, .ref (a0)), (1, .int (a1))] [.int (y0), .ref (y1)] w z mc ms := by
  intro y0 y1 w z mc ms h
  unfold B_X6_ends_14 at h
  refine vw_iconst hX (v := 1) dX6_ends_14 (by decide) ?_
  obtain ⟨hr7, h⟩ := h
  refine s_X6_190 hX hr7 dX6_ends_15 (Nat.le_of_ble_eq_true rfl) (ct_X6_wrong (d := d + 0) (lst hX) h) (fun w9 z10 h => ?_)
  refine vw_aload_n hX 0 dX6_ends_18 rfl ?_
  refine vw_aload_n hX 0 dX6_ends_19 rfl ?_
  obtain ⟨v11, hv11, h⟩ := h
  refine g_X6_180 hX hv11 dX6_ends_20 ?_
  refine vw_if_ne hX (tgt := 34) dX6_ends_23 (by decide) (fun c12 => ?_) (fun c12 => ?_)
  · have h := h.1 c12
    exact pB_X6_ends_34 hX hE _ _ _ _ _ h
  · have h := h.2 c12
    refine vw_iload_n hX 1 dX6_ends_26 rfl ?_
    refine vw_if_ne hX (tgt := 34) dX6_ends_27 (by decide) (fun c13 => ?_) (fun c13 => ?_)
    · have h := h.1 c13
      exact pB_X6_ends_34 hX hE _ _ _ _ _ h
    · have h := h.2 c13
      refine vw_iconst hX (v := 1) dX6_ends_30 (by decide) ?_
      refine vw_goto hX (tgt := 35) dX6_ends_31 (by decide) ?_
      exact pB_X6_ends_35 hX hE _ _ _ _ _ _ h
def F_X6_ends (a0 : Nat) (a1 : Int32) (w : Mm) (z : Nat) (Q : Int32 → Mm → Nat → Prop) : Prop :=
  ∃ v1, fld w a0 10 15 = some (.int (v1)) ∧ (v1 = 3 → B_X6_ends_14 a0 a1 Q 0 a0 w z) ∧
  (¬ v1 = 3 → B_X6_ends_14 a0 a1 Q 1 a0 w z)
set_option maxRecDepth 100000 in
set_option maxHeartbeats 4000000 in
theorem ct_X6_ends {l : Launch} {g : Gp} {d : Nat} (hst : l.stackTraces = false) {a0 : Nat} {a1 : Int32} {w : Mm} {z mc ms : Nat} {Q : Int32 → Mm → Nat → Prop} {X : String → Mm → Nat → Prop} (h : F_X6_ends a0 a1 w z Q) : Ct l g yX6_ends (.code yX6_ends cX6_ends 2 (some .boolean)) (d + 1) mc ms [.ref (a0), .int (a1)] w z (rI Q) X := by
  refine Ct.of hst (by decide) (Nat.le_of_ble_eq_true rfl) (fun C hX hE hg hl hNm => ?_)
  subst hg
  subst hl
  unfold F_X6_ends at h
  show VW C 0 [(0, .ref (a0)), (1, .int (a1))] [] w z mc ms
  refine vw_aload_n hX 0 dX6_ends_0 rfl ?_
  refine vw_aload_n hX 0 dX6_ends_1 rfl ?_
  obtain ⟨v1, hv1, h⟩ := h
  refine g_X6_167 hX hv1 dX6_ends_2 ?_
  refine vw_iconst hX (v := 3) dX6_ends_5 (by decide) ?_
  refine vw_icmp_eq hX (tgt := 13) dX6_ends_6 (by decide) (fun c2 => ?_) (fun c2 => ?_)
  · have h := h.1 c2
    refine vw_iconst hX (v := 0) dX6_ends_13 (by decide) ?_
    exact pB_X6_ends_14 hX hE _ _ _ _ _ _ h
  · have h := h.2 c2
    refine vw_iconst hX (v := 1) dX6_ends_9 (by decide) ?_
    refine vw_goto hX (tgt := 14) dX6_ends_10 (by decide) ?_
    exact pB_X6_ends_14 hX hE _ _ _ _ _ _ h
def F_X6_putTicket (a0 : Nat) (a1 : Int32) (a2 : Int32) (a3 : Int32) (w : Mm) (z : Nat) (Q : Mm → Nat → Prop) : Prop :=
  ∃ q1, fld w a0 10 0 = some (.ref (q1)) ∧ ∃ n3 f2, arW w q1 0 = some (n3, f2) ∧ vp_in ((((125 + ((6 * a1)))) + a2)) n3 ∧ ∀ w4, w4 = mset w q1 (.inr (0, n3, .inl (upd f2 ((((125 + ((6 * a1)))) + a2) : Int32).toNatClampNeg a3))) → Q w4 z
set_option maxRecDepth 100000 in
set_option maxHeartbeats 4000000 in
theorem ct_X6_putTicket {l : Launch} {g : Gp} {d : Nat} (hst : l.stackTraces = false) {a0 : Nat} {a1 : Int32} {a2 : Int32} {a3 : Int32} {w : Mm} {z mc ms : Nat} {Q : Mm → Nat → Prop} {X : String → Mm → Nat → Prop} (h : F_X6_putTicket a0 a1 a2 a3 w z Q) : Ct l g yX6_putTicket (.code yX6_putTicket cX6_putTicket 4 none) (d + 0) mc ms [.ref (a0), .int (a1), .int (a2), .int (a3)] w z (rV Q) X := by
  refine Ct.of hst (by decide) (Nat.le_of_ble_eq_true rfl) (fun C hX hE hg hl hNm => ?_)
  subst hg
  subst hl
  unfold F_X6_putTicket at h
  show VW C 0 [(0, .ref (a0)), (1, .int (a1)), (2, .int (a2)), (3, .int (a3))] [] w z mc ms
  refine vw_aload_n hX 0 dX6_putTicket_0 rfl ?_
  obtain ⟨q1, hq1, h⟩ := h
  refine g_X6_9 hX hq1 dX6_putTicket_1 ?_
  refine vw_bipush hX (v := 125) dX6_putTicket_4 (by decide) ?_
  refine vw_bipush hX (v := 6) dX6_putTicket_6 (by decide) ?_
  refine vw_iload_n hX 1 dX6_putTicket_8 rfl ?_
  refine vw_imul hX dX6_putTicket_9 ?_
  refine vw_iadd hX dX6_putTicket_10 ?_
  refine vw_iload_n hX 2 dX6_putTicket_11 rfl ?_
  refine vw_iadd hX dX6_putTicket_12 ?_
  refine vw_iload_n hX 3 dX6_putTicket_13 rfl ?_
  obtain ⟨n3, f2, hf2, hif2, h⟩ := h
  refine vw_iast hX hf2 hif2 dX6_putTicket_14 ?_
  refine vw_nmW (fun w4 ew4 => ?_)
  have h := h w4 ew4
  exact vw_vret hX hE dX6_putTicket_15 ⟨rfl, h⟩
def F_X6_putPassenger (a0 : Nat) (a1 : Int32) (a2 : Int32) (a3 : Int32) (w : Mm) (z : Nat) (Q : Mm → Nat → Prop) : Prop :=
  ∃ q1, fld w a0 10 0 = some (.ref (q1)) ∧ ∃ n3 f2, arW w q1 0 = some (n3, f2) ∧ vp_in ((((21 + ((13 * a1)))) + a2)) n3 ∧ ∀ w4, w4 = mset w q1 (.inr (0, n3, .inl (upd f2 ((((21 + ((13 * a1)))) + a2) : Int32).toNatClampNeg a3))) → Q w4 z
set_option maxRecDepth 100000 in
set_option maxHeartbeats 4000000 in
theorem ct_X6_putPassenger {l : Launch} {g : Gp} {d : Nat} (hst : l.stackTraces = false) {a0 : Nat} {a1 : Int32} {a2 : Int32} {a3 : Int32} {w : Mm} {z mc ms : Nat} {Q : Mm → Nat → Prop} {X : String → Mm → Nat → Prop} (h : F_X6_putPassenger a0 a1 a2 a3 w z Q) : Ct l g yX6_putPassenger (.code yX6_putPassenger cX6_putPassenger 4 none) (d + 0) mc ms [.ref (a0), .int (a1), .int (a2), .int (a3)] w z (rV Q) X := by
  refine Ct.of hst (by decide) (Nat.le_of_ble_eq_true rfl) (fun C hX hE hg hl hNm => ?_)
  subst hg
  subst hl
  unfold F_X6_putPassenger at h
  show VW C 0 [(0, .ref (a0)), (1, .int (a1)), (2, .int (a2)), (3, .int (a3))] [] w z mc ms
  refine vw_aload_n hX 0 dX6_putPassenger_0 rfl ?_
  obtain ⟨q1, hq1, h⟩ := h
  refine g_X6_9 hX hq1 dX6_putPassenger_1 ?_
  refine vw_bipush hX (v := 21) dX6_putPassenger_4 (by decide) ?_
  refine vw_bipush hX (v := 13) dX6_putPassenger_6 (by decide) ?_
  refine vw_iload_n hX 1 dX6_putPassenger_8 rfl ?_
  refine vw_imul hX dX6_putPassenger_9 ?_
  refine vw_iadd hX dX6_putPassenger_10 ?_
  refine vw_iload_n hX 2 dX6_putPassenger_11 rfl ?_
  refine vw_iadd hX dX6_putPassenger_12 ?_
  refine vw_iload_n hX 3 dX6_putPassenger_13 rfl ?_
  obtain ⟨n3, f2, hf2, hif2, h⟩ := h
  refine vw_iast hX hf2 hif2 dX6_putPassenger_14 ?_
  refine vw_nmW (fun w4 ew4 => ?_)
  have h := h w4 ew4
  exact vw_vret hX hE dX6_putPassenger_15 ⟨rfl, h⟩
def F_X6_buys (a0 : Nat) (a1 : Int32) (a2 : Int32) (a3 : Int32) (w : Mm) (z : Nat) (Q : Int32 → Mm → Nat → Prop) : Prop :=
  ∃ q1, fld w a0 10 0 = some (.ref (q1)) ∧ ∃ n3 f2, arI w q1 0 = some (n3, f2) ∧ vp_in 3 n3 ∧ ∀ i4 : Int32, i4 = (f2 (3 : Int32).toNatClampNeg) → F_X6_price a2 a3 w z (fun r5 w6 z7 => isO w6 a0 10 ∧ F_X6_putTicket a0 i4 0 a1 w6 z7 (fun w10 z11 => isO w10 a0 10 ∧ F_X6_putTicket a0 i4 1 a2 w10 z11 (fun w14 z15 => isO w14 a0 10 ∧ F_X6_putTicket a0 i4 2 a3 w14 z15 (fun w18 z19 => isO w18 a0 10 ∧ F_X6_putTicket a0 i4 3 (-1) w18 z19 (fun w22 z23 => isO w22 a0 10 ∧ F_X6_putTicket a0 i4 4 (-1) w22 z23 (fun w26 z27 => isO w26 a0 10 ∧ F_X6_putTicket a0 i4 5 0 w26 z27 (fun w30 z31 => isO w30 a0 10 ∧ F_X6_ofPassenger a0 a1 0 w30 z31 (fun r33 w34 z35 => isO w34 a0 10 ∧ F_X6_putPassenger a0 a1 0 ((r33 - r5)) w34 z35 (fun w38 z39 => ∃ q40, fld w38 a0 10 0 = some (.ref (q40)) ∧ ∃ n42 f41, arI w38 q40 0 = some (n42, f41) ∧ vp_in 5 n42 ∧ ∃ n44 f43, arW w38 q40 0 = some (n44, f43) ∧ vp_in 5 n44 ∧ ∀ w45, w45 = mset w38 q40 (.inr (0, n44, .inl (upd f43 (5 : Int32).toNatClampNeg ((((f41 (5 : Int32).toNatClampNeg)) + r5))))) → ∃ q46, fld w45 a0 10 0 = some (.ref (q46)) ∧ ∃ n48 f47, arI w45 q46 0 = some (n48, f47) ∧ vp_in 3 n48 ∧ ∃ n50 f49, arW w45 q46 0 = some (n50, f49) ∧ vp_in 3 n50 ∧ ∀ w51, w51 = mset w45 q46 (.inr (0, n50, .inl (upd f49 (3 : Int32).toNatClampNeg ((((f47 (3 : Int32).toNatClampNeg)) + 1))))) → Q i4 w51 z39)))))))))
set_option maxRecDepth 100000 in
set_option maxHeartbeats 4000000 in
theorem ct_X6_buys {l : Launch} {g : Gp} {d : Nat} (hst : l.stackTraces = false) {a0 : Nat} {a1 : Int32} {a2 : Int32} {a3 : Int32} {w : Mm} {z mc ms : Nat} {Q : Int32 → Mm → Nat → Prop} {X : String → Mm → Nat → Prop} (h : F_X6_buys a0 a1 a2 a3 w z Q) : Ct l g yX6_buys (.code yX6_buys cX6_buys 6 (some .int)) (d + 2) mc ms [.ref (a0), .int (a1), .int (a2), .int (a3)] w z (rI Q) X := by
  refine Ct.of hst (by decide) (Nat.le_of_ble_eq_true rfl) (fun C hX hE hg hl hNm => ?_)
  subst hg
  subst hl
  unfold F_X6_buys at h
  show VW C 0 [(0, .ref (a0)), (1, .int (a1)), (2, .int (a2)), (3, .int (a3))] [] w z mc ms
  refine vw_aload_n hX 0 dX6_buys_0 rfl ?_
  obtain ⟨q1, hq1, h⟩ := h
  refine g_X6_9 hX hq1 dX6_buys_1 ?_
  refine vw_iconst hX (v := 3) dX6_buys_4 (by decide) ?_
  obtain ⟨n3, f2, hf2, hif2, h⟩ := h
  refine vw_iald hX hf2 hif2 dX6_buys_5 ?_
  refine vw_nmI (fun i4 ei4 => ?_)
  have h := h i4 ei4
  refine vw_istore hX dX6_buys_6 (by decide) rfl ?_
  refine vw_iload_n hX 3 dX6_buys_8 rfl ?_
  refine vw_iload_n hX 4 dX6_buys_9 rfl ?_
  refine s_X6_99 hX dX6_buys_10 (Nat.le_of_ble_eq_true rfl) (ct_X6_price (d := d + 0) (lst hX) h) (fun r5 w6 z7 h => ?_)
  refine vw_istore hX dX6_buys_13 (by decide) rfl ?_
  refine vw_aload_n hX 2 dX6_buys_15 rfl ?_
  refine vw_iload hX 1 dX6_buys_16 rfl ?_
  refine vw_iconst hX (v := 0) dX6_buys_18 (by decide) ?_
  refine vw_iload_n hX 3 dX6_buys_19 rfl ?_
  obtain ⟨hr8, h⟩ := h
  refine s_X6_105 hX hr8 dX6_buys_20 (Nat.le_of_ble_eq_true rfl) (ct_X6_putTicket (d := d + 1) (lst hX) h) (fun w10 z11 h => ?_)
  refine vw_aload_n hX 2 dX6_buys_23 rfl ?_
  refine vw_iload hX 1 dX6_buys_24 rfl ?_
  refine vw_iconst hX (v := 1) dX6_buys_26 (by decide) ?_
  refine vw_iload_n hX 4 dX6_buys_27 rfl ?_
  obtain ⟨hr12, h⟩ := h
  refine s_X6_105 hX hr12 dX6_buys_28 (Nat.le_of_ble_eq_true rfl) (ct_X6_putTicket (d := d + 1) (lst hX) h) (fun w14 z15 h => ?_)
  refine vw_aload_n hX 2 dX6_buys_31 rfl ?_
  refine vw_iload hX 1 dX6_buys_32 rfl ?_
  refine vw_iconst hX (v := 2) dX6_buys_34 (by decide) ?_
  refine vw_iload_n hX 5 dX6_buys_35 rfl ?_
  obtain ⟨hr16, h⟩ := h
  refine s_X6_105 hX hr16 dX6_buys_36 (Nat.le_of_ble_eq_true rfl) (ct_X6_putTicket (d := d + 1) (lst hX) h) (fun w18 z19 h => ?_)
  refine vw_aload_n hX 2 dX6_buys_39 rfl ?_
  refine vw_iload hX 1 dX6_buys_40 rfl ?_
  refine vw_iconst hX (v := 3) dX6_buys_42 (by decide) ?_
  refine vw_iconst hX (v := (-1)) dX6_buys_43 (by decide) ?_
  obtain ⟨hr20, h⟩ := h
  refine s_X6_105 hX hr20 dX6_buys_44 (Nat.le_of_ble_eq_true rfl) (ct_X6_putTicket (d := d + 1) (lst hX) h) (fun w22 z23 h => ?_)
  refine vw_aload_n hX 2 dX6_buys_47 rfl ?_
  refine vw_iload hX 1 dX6_buys_48 rfl ?_
  refine vw_iconst hX (v := 4) dX6_buys_50 (by decide) ?_
  refine vw_iconst hX (v := (-1)) dX6_buys_51 (by decide) ?_
  obtain ⟨hr24, h⟩ := h
  refine s_X6_105 hX hr24 dX6_buys_52 (Nat.le_of_ble_eq_true rfl) (ct_X6_putTicket (d := d + 1) (lst hX) h) (fun w26 z27 h => ?_)
  refine vw_aload_n hX 2 dX6_buys_55 rfl ?_
  refine vw_iload hX 1 dX6_buys_56 rfl ?_
  refine vw_iconst hX (v := 5) dX6_buys_58 (by decide) ?_
  refine vw_iconst hX (v := 0) dX6_buys_59 (by decide) ?_
  obtain ⟨hr28, h⟩ := h
  refine s_X6_105 hX hr28 dX6_buys_60 (Nat.le_of_ble_eq_true rfl) (ct_X6_putTicket (d := d + 1) (lst hX) h) (fun w30 z31 h => ?_)
  refine vw_aload_n hX 2 dX6_buys_63 rfl ?_
  refine vw_iload_n hX 3 dX6_buys_64 rfl ?_
  refine vw_iconst hX (v := 0) dX6_buys_65 (by decide) ?_
  refine vw_aload_n hX 2 dX6_buys_66 rfl ?_
  refine vw_iload_n hX 3 dX6_buys_67 rfl ?_
  refine vw_iconst hX (v := 0) dX6_buys_68 (by decide) ?_
  obtain ⟨hr32, h⟩ := h
  refine s_X6_102 hX hr32 dX6_buys_69 (Nat.le_of_ble_eq_true rfl) (ct_X6_ofPassenger (d := d + 1) (lst hX) h) (fun r33 w34 z35 h => ?_)
  refine vw_iload hX 0 dX6_buys_72 rfl ?_
  refine vw_isub hX dX6_buys_74 ?_
  obtain ⟨hr36, h⟩ := h
  refine s_X6_109 hX hr36 dX6_buys_75 (Nat.le_of_ble_eq_true rfl) (ct_X6_putPassenger (d := d + 1) (lst hX) h) (fun w38 z39 h => ?_)
  refine vw_aload_n hX 2 dX6_buys_78 rfl ?_
  obtain ⟨q40, hq40, h⟩ := h
  refine g_X6_9 hX hq40 dX6_buys_79 ?_
  refine vw_iconst hX (v := 5) dX6_buys_82 (by decide) ?_
  refine vw_dup2 hX dX6_buys_83 rfl rfl ?_
  obtain ⟨n42, f41, hf41, hif41, h⟩ := h
  refine vw_iald hX hf41 hif41 dX6_buys_84 ?_
  refine vw_iload hX 0 dX6_buys_85 rfl ?_
  refine vw_iadd hX dX6_buys_87 ?_
  obtain ⟨n44, f43, hf43, hif43, h⟩ := h
  refine vw_iast hX hf43 hif43 dX6_buys_88 ?_
  refine vw_nmW (fun w45 ew45 => ?_)
  have h := h w45 ew45
  refine vw_aload_n hX 2 dX6_buys_89 rfl ?_
  obtain ⟨q46, hq46, h⟩ := h
  refine g_X6_9 hX hq46 dX6_buys_90 ?_
  refine vw_iconst hX (v := 3) dX6_buys_93 (by decide) ?_
  refine vw_dup2 hX dX6_buys_94 rfl rfl ?_
  obtain ⟨n48, f47, hf47, hif47, h⟩ := h
  refine vw_iald hX hf47 hif47 dX6_buys_95 ?_
  refine vw_iconst hX (v := 1) dX6_buys_96 (by decide) ?_
  refine vw_iadd hX dX6_buys_97 ?_
  obtain ⟨n50, f49, hf49, hif49, h⟩ := h
  refine vw_iast hX hf49 hif49 dX6_buys_98 ?_
  refine vw_nmW (fun w51 ew51 => ?_)
  have h := h w51 ew51
  refine vw_iload hX 1 dX6_buys_99 rfl ?_
  exact vw_iret hX hE dX6_buys_101 ⟨_, rfl, h⟩
def B_X6_buyTold_111 (a0 : Nat) (Q : Mm → Nat → Prop) (x1 : Int32) (x2 : Int32) (x3 : Int32) (y0 : Int32) (y1 : Nat) (w : Mm) (z : Nat) : Prop :=
  isO w y1 10 ∧ F_X6_ends y1 y0 w z (fun r2 w3 z4 => (r2 = 0 → Q w3 z4) ∧
  (¬ r2 = 0 → isO w3 a0 10 ∧ F_X6_buys a0 x1 x2 x3 w3 z4 (fun r7 w8 z9 => ∃ f10, obj w8 a0 10 = some f10 ∧ 20 < f10.length ∧ ∀ w11, w11 = mset w8 a0 (.inl (10, f10.set 20 (.int (r7)))) → Q w11 z9)))
set_option maxRecDepth 100000 in
set_option maxHeartbeats 4000000 in
theorem pB_X6_buyTold_111 {C : Cx} {d : Nat} {a0 : Nat} {Q : Mm → Nat → Prop} {X : String → Mm → Nat → Prop} (hX : CX C cX6_buyTold RX6 4 none [] (d + 5)) (hE : EQ C (rV Q) X) : ∀ (x1 : Int32) (x2 : Int32) (x3 : Int32) (y0 : Int32) (y1 : Nat) (w : Mm) (z mc ms : Nat), B_X6_buyTold_111 a0 Q x1 x2 x3 y0 y1 w z → VW C 111 [(0, .ref (a0)), (1, .int (x1)), (2, .int (x2)), (3, .int (x3))] [.int (y0), .ref (y1)] w z mc ms := by
  intro x1 x2 x3 y0 y1 w z mc ms h
  unfold B_X6_buyTold_111 at h
  obtain ⟨hr1, h⟩ := h
  refine s_X6_230 hX hr1 dX6_buyTold_111 (Nat.le_of_ble_eq_true rfl) (ct_X6_ends (d := d + 3) (lst hX) h) (fun r2 w3 z4 h => ?_)
  refine vw_if_eq hX (tgt := 128) dX6_buyTold_114 (by decide) (fun c5 => ?_) (fun c5 => ?_)
  · have h := h.1 c5
    exact vw_vret hX hE dX6_buyTold_128 ⟨rfl, h⟩
  · have h := h.2 c5
    refine vw_aload_n hX 0 dX6_buyTold_117 rfl ?_
    refine vw_aload_n hX 0 dX6_buyTold_118 rfl ?_
    refine vw_iload_n hX 1 dX6_buyTold_119 rfl ?_
    refine vw_iload_n hX 2 dX6_buyTold_120 rfl ?_
    refine vw_iload_n hX 3 dX6_buyTold_121 rfl ?_
    obtain ⟨hr6, h⟩ := h
    refine s_X6_234 hX hr6 dX6_buyTold_122 (Nat.le_of_ble_eq_true rfl) (ct_X6_buys (d := d + 2) (lst hX) h) (fun r7 w8 z9 h => ?_)
    obtain ⟨f10, hf10, hlf10, h⟩ := h
    refine p_X6_238 hX hf10 hlf10 dX6_buyTold_125 ?_
    refine vw_nmW (fun w11 ew11 => ?_)
    have h := h w11 ew11
    exact vw_vret hX hE dX6_buyTold_128 ⟨rfl, h⟩
def B_X6_buyTold_106 (a0 : Nat) (Q : Mm → Nat → Prop) (x1 : Int32) (x2 : Int32) (x3 : Int32) (y0 : Nat) (w : Mm) (z : Nat) : Prop :=
  B_X6_buyTold_111 a0 Q x1 x2 x3 1 y0 w z
set_option maxRecDepth 100000 in
set_option maxHeartbeats 4000000 in
theorem pB_X6_buyTold_106 {C : Cx} {d : Nat} {a0 : Nat} {Q : Mm → Nat → Prop} {X : String → Mm → Nat → Prop} (hX : CX C cX6_buyTold RX6 4 none [] (d + 5)) (hE : EQ C (rV Q) X) : ∀ (x1 : Int32) (x2 : Int32) (x3 : Int32) (y0 : Nat) (w : Mm) (z mc ms : Nat), B_X6_buyTold_106 a0 Q x1 x2 x3 y0 w z → VW C 106 [(0, .ref (a0)), (1, .int (x1)), (2, .int (x2)), (3, .int (x3))] [.ref (y0)] w z mc ms := by
  intro x1 x2 x3 y0 w z mc ms h
  unfold B_X6_buyTold_106 at h
  refine vw_iconst hX (v := 1) dX6_buyTold_106 (by decide) ?_
  refine vw_goto hX (tgt := 111) dX6_buyTold_107 (by decide) ?_
  exact pB_X6_buyTold_111 hX hE _ _ _ _ _ _ _ _ _ h
def B_X6_buyTold_72 (a0 : Nat) (Q : Mm → Nat → Prop) (x1 : Int32) (x2 : Int32) (y0 : Int32) (y1 : Nat) (w : Mm) (z : Nat) : Prop :=
  isO w y1 10 ∧ F_X6_wrong y1 y0 1 w z (fun w14 z15 => isO w14 a0 10 ∧ F_X6_go a0 w14 z15 (fun w18 z19 => isO w18 a0 10 ∧ F_X6_number a0 1 15 w18 z19 (fun r21 w22 z23 => ∃ v24, fld w22 a0 10 19 = some (.int (v24)) ∧ (¬ v24 = 0 → B_X6_buyTold_106 a0 Q x1 x2 r21 a0 w22 z23) ∧
  (v24 = 0 → isO w22 a0 10 ∧ F_X6_mayBuy a0 x1 x2 r21 w22 z23 (fun r27 w28 z29 => (r27 = 0 → B_X6_buyTold_111 a0 Q x1 x2 r21 0 a0 w28 z29) ∧
  (¬ r27 = 0 → B_X6_buyTold_106 a0 Q x1 x2 r21 a0 w28 z29))))))
set_option maxRecDepth 100000 in
set_option maxHeartbeats 4000000 in
theorem pB_X6_buyTold_72 {C : Cx} {d : Nat} {a0 : Nat} {Q : Mm → Nat → Prop} {X : String → Mm → Nat → Prop} (hX : CX C cX6_buyTold RX6 4 none [] (d + 5)) (hE : EQ C (rV Q) X) : ∀ (x1 : Int32) (x2 : Int32) (y0 : Int32) (y1 : Nat) (w : Mm) (z mc ms : Nat), B_X6_buyTold_72 a0 Q x1 x2 y0 y1 w z → VW C 72 [(0, .ref (a0)), (1, .int (x1)), (2, .int (x2))] [.int (y0), .ref (y1)] w z mc ms := by
  intro x1 x2 y0 y1 w z mc ms h
  unfold B_X6_buyTold_72 at h
  refine vw_iconst hX (v := 1) dX6_buyTold_72 (by decide) ?_
  obtain ⟨hr12, h⟩ := h
  refine s_X6_190 hX hr12 dX6_buyTold_73 (Nat.le_of_ble_eq_true rfl) (ct_X6_wrong (d := d + 4) (lst hX) h) (fun w14 z15 h => ?_)
  refine vw_aload_n hX 0 dX6_buyTold_76 rfl ?_
  obtain ⟨hr16, h⟩ := h
  refine s_X6_197 hX hr16 dX6_buyTold_77 (Nat.le_of_ble_eq_true rfl) (ct_X6_go (d := d + 1) (lst hX) h) (fun w18 z19 h => ?_)
  refine vw_aload_n hX 0 dX6_buyTold_80 rfl ?_
  refine vw_iconst hX (v := 1) dX6_buyTold_81 (by decide) ?_
  refine vw_bipush hX (v := 15) dX6_buyTold_82 (by decide) ?_
  obtain ⟨hr20, h⟩ := h
  refine s_X6_213 hX hr20 dX6_buyTold_84 (Nat.le_of_ble_eq_true rfl) (ct_X6_number (d := d + 0) (lst hX) h) (fun r21 w22 z23 h => ?_)
  refine vw_istore_n hX dX6_buyTold_87 (by decide) rfl ?_
  refine vw_aload_n hX 1 dX6_buyTold_88 rfl ?_
  refine vw_aload_n hX 1 dX6_buyTold_89 rfl ?_
  obtain ⟨v24, hv24, h⟩ := h
  refine g_X6_180 hX hv24 dX6_buyTold_90 ?_
  refine vw_if_ne hX (tgt := 106) dX6_buyTold_93 (by decide) (fun c25 => ?_) (fun c25 => ?_)
  · have h := h.1 c25
    exact vw_sub [1, 2, 3, 0] rfl (pB_X6_buyTold_106 hX hE _ _ _ _ _ _ _ _ h)
  · have h := h.2 c25
    refine vw_aload_n hX 1 dX6_buyTold_96 rfl ?_
    refine vw_iload_n hX 2 dX6_buyTold_97 rfl ?_
    refine vw_iload_n hX 3 dX6_buyTold_98 rfl ?_
    refine vw_iload_n hX 0 dX6_buyTold_99 rfl ?_
    obtain ⟨hr26, h⟩ := h
    refine s_X6_227 hX hr26 dX6_buyTold_100 (Nat.le_of_ble_eq_true rfl) (ct_X6_mayBuy (d := d + 2) (lst hX) h) (fun r27 w28 z29 h => ?_)
    refine vw_if_eq hX (tgt := 110) dX6_buyTold_103 (by decide) (fun c30 => ?_) (fun c30 => ?_)
    · have h := h.1 c30
      refine vw_iconst hX (v := 0) dX6_buyTold_110 (by decide) ?_
      exact vw_sub [1, 2, 3, 0] rfl (pB_X6_buyTold_111 hX hE _ _ _ _ _ _ _ _ _ h)
    · have h := h.2 c30
      exact vw_sub [1, 2, 3, 0] rfl (pB_X6_buyTold_106 hX hE _ _ _ _ _ _ _ _ h)
def B_X6_buyTold_60 (a0 : Nat) (Q : Mm → Nat → Prop) (x1 : Int32) (y0 : Int32) (w : Mm) (z : Nat) : Prop :=
  (¬ y0 = (-1) → B_X6_buyTold_72 a0 Q x1 y0 0 a0 w z) ∧
  (y0 = (-1) → B_X6_buyTold_72 a0 Q x1 y0 1 a0 w z)
set_option maxRecDepth 100000 in
set_option maxHeartbeats 4000000 in
theorem pB_X6_buyTold_60 {C : Cx} {d : Nat} {a0 : Nat} {Q : Mm → Nat → Prop} {X : String → Mm → Nat → Prop} (hX : CX C cX6_buyTold RX6 4 none [] (d + 5)) (hE : EQ C (rV Q) X) : ∀ (x1 : Int32) (y0 : Int32) (w : Mm) (z mc ms : Nat), B_X6_buyTold_60 a0 Q x1 y0 w z → VW C 60 [(0, .ref (a0)), (1, .int (x1))] [.int (y0)] w z mc ms := by
  intro x1 y0 w z mc ms h
  unfold B_X6_buyTold_60 at h
  refine vw_istore_n hX dX6_buyTold_60 (by decide) rfl ?_
  refine vw_aload_n hX 1 dX6_buyTold_61 rfl ?_
  refine vw_iload_n hX 0 dX6_buyTold_62 rfl ?_
  refine vw_iconst hX (v := (-1)) dX6_buyTold_63 (by decide) ?_
  refine vw_icmp_ne hX (tgt := 71) dX6_buyTold_64 (by decide) (fun c31 => ?_) (fun c31 => ?_)
  · have h := h.1 c31
    refine vw_iconst hX (v := 0) dX6_buyTold_71 (by decide) ?_
    exact vw_sub [1, 2, 0] rfl (pB_X6_buyTold_72 hX hE _ _ _ _ _ _ _ _ h)
  · have h := h.2 c31
    refine vw_iconst hX (v := 1) dX6_buyTold_67 (by decide) ?_
    refine vw_goto hX (tgt := 72) dX6_buyTold_68 (by decide) ?_
    exact vw_sub [1, 2, 0] rfl (pB_X6_buyTold_72 hX hE _ _ _ _ _ _ _ _ h)
def F_X6_buyTold (a0 : Nat) (w : Mm) (z : Nat) (Q : Mm → Nat → Prop) : Prop :=
  isO w a0 10 ∧ F_X6_go a0 w z (fun w3 z4 => isO w3 a0 10 ∧ F_X6_passengerHere a0 w3 z4 (fun r6 w7 z8 => ∃ v9, fld w7 a0 10 19 = some (.int (v9)) ∧ (v9 = 0 → ∀ q11, isLit w7 q11 lit_9 → isO w7 a0 10 ∧ F_X6_is a0 q11 w7 z8 (fun r13 w14 z15 => (r13 = 0 → ∀ q17, isLit w14 q17 lit_7 → isO w14 a0 10 ∧ F_X6_is a0 q17 w14 z15 (fun r19 w20 z21 => (r19 = 0 → ∀ q23, isLit w20 q23 lit_8 → isO w20 a0 10 ∧ F_X6_is a0 q23 w20 z21 (fun r25 w26 z27 => (r25 = 0 → B_X6_buyTold_60 a0 Q r6 (-1) w26 z27) ∧
  (¬ r25 = 0 → B_X6_buyTold_60 a0 Q r6 2 w26 z27))) ∧
  (¬ r19 = 0 → B_X6_buyTold_60 a0 Q r6 1 w20 z21))) ∧
  (¬ r13 = 0 → B_X6_buyTold_60 a0 Q r6 0 w14 z15))) ∧
  (¬ v9 = 0 → B_X6_buyTold_60 a0 Q r6 0 w7 z8)))
set_option maxRecDepth 100000 in
set_option maxHeartbeats 4000000 in
theorem ct_X6_buyTold {l : Launch} {g : Gp} {d : Nat} (hst : l.stackTraces = false) {a0 : Nat} {w : Mm} {z mc ms : Nat} {Q : Mm → Nat → Prop} {X : String → Mm → Nat → Prop} (h : F_X6_buyTold a0 w z Q) : Ct l g yX6_buyTold (.code yX6_buyTold cX6_buyTold 4 none) (d + 5) mc ms [.ref (a0)] w z (rV Q) X := by
  refine Ct.of hst (by decide) (Nat.le_of_ble_eq_true rfl) (fun C hX hE hg hl hNm => ?_)
  subst hg
  subst hl
  unfold F_X6_buyTold at h
  show VW C 0 [(0, .ref (a0))] [] w z mc ms
  refine vw_aload_n hX 0 dX6_buyTold_0 rfl ?_
  obtain ⟨hr1, h⟩ := h
  refine s_X6_197 hX hr1 dX6_buyTold_1 (Nat.le_of_ble_eq_true rfl) (ct_X6_go (d := d + 1) (lst hX) h) (fun w3 z4 h => ?_)
  refine vw_aload_n hX 0 dX6_buyTold_4 rfl ?_
  obtain ⟨hr5, h⟩ := h
  refine s_X6_218 hX hr5 dX6_buyTold_5 (Nat.le_of_ble_eq_true rfl) (ct_X6_passengerHere (d := d + 0) (lst hX) h) (fun r6 w7 z8 h => ?_)
  refine vw_istore_n hX dX6_buyTold_8 (by decide) rfl ?_
  refine vw_aload_n hX 1 dX6_buyTold_9 rfl ?_
  obtain ⟨v9, hv9, h⟩ := h
  refine g_X6_180 hX hv9 dX6_buyTold_10 ?_
  refine vw_if_eq hX (tgt := 20) dX6_buyTold_13 (by decide) (fun c10 => ?_) (fun c10 => ?_)
  · have h := h.1 c10
    refine vw_aload_n hX 1 dX6_buyTold_20 rfl ?_
    refine l_X6_221 hX dX6_buyTold_21 (fun q11 hq11 => ?_)
    have h := h q11 hq11
    obtain ⟨hr12, h⟩ := h
    refine s_X6_208 hX hr12 dX6_buyTold_23 (Nat.le_of_ble_eq_true rfl) (ct_X6_is (d := d + 0) (lst hX) h) (fun r13 w14 z15 h => ?_)
    refine vw_if_eq hX (tgt := 33) dX6_buyTold_26 (by decide) (fun c16 => ?_) (fun c16 => ?_)
    · have h := h.1 c16
      refine vw_aload_n hX 1 dX6_buyTold_33 rfl ?_
      refine l_X6_223 hX dX6_buyTold_34 (fun q17 hq17 => ?_)
      have h := h q17 hq17
      obtain ⟨hr18, h⟩ := h
      refine s_X6_208 hX hr18 dX6_buyTold_36 (Nat.le_of_ble_eq_true rfl) (ct_X6_is (d := d + 0) (lst hX) h) (fun r19 w20 z21 h => ?_)
      refine vw_if_eq hX (tgt := 46) dX6_buyTold_39 (by decide) (fun c22 => ?_) (fun c22 => ?_)
      · have h := h.1 c22
        refine vw_aload_n hX 1 dX6_buyTold_46 rfl ?_
        refine l_X6_225 hX dX6_buyTold_47 (fun q23 hq23 => ?_)
        have h := h q23 hq23
        obtain ⟨hr24, h⟩ := h
        refine s_X6_208 hX hr24 dX6_buyTold_49 (Nat.le_of_ble_eq_true rfl) (ct_X6_is (d := d + 0) (lst hX) h) (fun r25 w26 z27 h => ?_)
        refine vw_if_eq hX (tgt := 59) dX6_buyTold_52 (by decide) (fun c28 => ?_) (fun c28 => ?_)
        · have h := h.1 c28
          refine vw_iconst hX (v := (-1)) dX6_buyTold_59 (by decide) ?_
          exact vw_sub [1, 0] rfl (pB_X6_buyTold_60 hX hE _ _ _ _ _ _ h)
        · have h := h.2 c28
          refine vw_iconst hX (v := 2) dX6_buyTold_55 (by decide) ?_
          refine vw_goto hX (tgt := 60) dX6_buyTold_56 (by decide) ?_
          exact vw_sub [1, 0] rfl (pB_X6_buyTold_60 hX hE _ _ _ _ _ _ h)
      · have h := h.2 c22
        refine vw_iconst hX (v := 1) dX6_buyTold_42 (by decide) ?_
        refine vw_goto hX (tgt := 60) dX6_buyTold_43 (by decide) ?_
        exact vw_sub [1, 0] rfl (pB_X6_buyTold_60 hX hE _ _ _ _ _ _ h)
    · have h := h.2 c16
      refine vw_iconst hX (v := 0) dX6_buyTold_29 (by decide) ?_
      refine vw_goto hX (tgt := 60) dX6_buyTold_30 (by decide) ?_
      exact vw_sub [1, 0] rfl (pB_X6_buyTold_60 hX hE _ _ _ _ _ _ h)
  · have h := h.2 c10
    refine vw_iconst hX (v := 0) dX6_buyTold_16 (by decide) ?_
    refine vw_goto hX (tgt := 60) dX6_buyTold_17 (by decide) ?_
    exact vw_sub [1, 0] rfl (pB_X6_buyTold_60 hX hE _ _ _ _ _ _ h)
def F_X6_rides (a0 : Nat) (a1 : Int32) (w : Mm) (z : Nat) (Q : Int32 → Mm → Nat → Prop) : Prop :=
  isO w a0 10 ∧ F_X6_ofPassenger a0 a1 3 w z (fun r2 w3 z4 => ∃ q5, fld w3 a0 10 0 = some (.ref (q5)) ∧ ∃ n7 f6, arI w3 q5 0 = some (n7, f6) ∧ vp_in 0 n7 ∧ (r2 ≤ ((f6 (0 : Int32).toNatClampNeg)) → Q 0 w3 z4) ∧
  (¬ r2 ≤ ((f6 (0 : Int32).toNatClampNeg)) → Q 1 w3 z4))
set_option maxRecDepth 100000 in
set_option maxHeartbeats 4000000 in
theorem ct_X6_rides {l : Launch} {g : Gp} {d : Nat} (hst : l.stackTraces = false) {a0 : Nat} {a1 : Int32} {w : Mm} {z mc ms : Nat} {Q : Int32 → Mm → Nat → Prop} {X : String → Mm → Nat → Prop} (h : F_X6_rides a0 a1 w z Q) : Ct l g yX6_rides (.code yX6_rides cX6_rides 2 (some .boolean)) (d + 1) mc ms [.ref (a0), .int (a1)] w z (rI Q) X := by
  refine Ct.of hst (by decide) (Nat.le_of_ble_eq_true rfl) (fun C hX hE hg hl hNm => ?_)
  subst hg
  subst hl
  unfold F_X6_rides at h
  show VW C 0 [(0, .ref (a0)), (1, .int (a1))] [] w z mc ms
  refine vw_aload_n hX 0 dX6_rides_0 rfl ?_
  refine vw_iload_n hX 1 dX6_rides_1 rfl ?_
  refine vw_iconst hX (v := 3) dX6_rides_2 (by decide) ?_
  obtain ⟨hr1, h⟩ := h
  refine s_X6_102 hX hr1 dX6_rides_3 (Nat.le_of_ble_eq_true rfl) (ct_X6_ofPassenger (d := d + 0) (lst hX) h) (fun r2 w3 z4 h => ?_)
  refine vw_aload_n hX 0 dX6_rides_6 rfl ?_
  obtain ⟨q5, hq5, h⟩ := h
  refine g_X6_9 hX hq5 dX6_rides_7 ?_
  refine vw_iconst hX (v := 0) dX6_rides_10 (by decide) ?_
  obtain ⟨n7, f6, hf6, hif6, h⟩ := h
  refine vw_iald hX hf6 hif6 dX6_rides_11 ?_
  refine vw_icmp_le hX (tgt := 19) dX6_rides_12 (by decide) (fun c8 => ?_) (fun c8 => ?_)
  · have h := h.1 c8
    refine vw_iconst hX (v := 0) dX6_rides_19 (by decide) ?_
    exact vw_zret hX hE dX6_rides_20 rfl ⟨_, rfl, h⟩
  · have h := h.2 c8
    refine vw_iconst hX (v := 1) dX6_rides_15 (by decide) ?_
    refine vw_goto hX (tgt := 20) dX6_rides_16 (by decide) ?_
    exact vw_zret hX hE dX6_rides_20 rfl ⟨_, rfl, h⟩
def F_X6_ofTicket (a0 : Nat) (a1 : Int32) (a2 : Int32) (w : Mm) (z : Nat) (Q : Int32 → Mm → Nat → Prop) : Prop :=
  ∃ q1, fld w a0 10 0 = some (.ref (q1)) ∧ ∃ n3 f2, arI w q1 0 = some (n3, f2) ∧ vp_in ((((125 + ((6 * a1)))) + a2)) n3 ∧ Q ((f2 ((((125 + ((6 * a1)))) + a2) : Int32).toNatClampNeg)) w z
set_option maxRecDepth 100000 in
set_option maxHeartbeats 4000000 in
theorem ct_X6_ofTicket {l : Launch} {g : Gp} {d : Nat} (hst : l.stackTraces = false) {a0 : Nat} {a1 : Int32} {a2 : Int32} {w : Mm} {z mc ms : Nat} {Q : Int32 → Mm → Nat → Prop} {X : String → Mm → Nat → Prop} (h : F_X6_ofTicket a0 a1 a2 w z Q) : Ct l g yX6_ofTicket (.code yX6_ofTicket cX6_ofTicket 3 (some .int)) (d + 0) mc ms [.ref (a0), .int (a1), .int (a2)] w z (rI Q) X := by
  refine Ct.of hst (by decide) (Nat.le_of_ble_eq_true rfl) (fun C hX hE hg hl hNm => ?_)
  subst hg
  subst hl
  unfold F_X6_ofTicket at h
  show VW C 0 [(0, .ref (a0)), (1, .int (a1)), (2, .int (a2))] [] w z mc ms
  refine vw_aload_n hX 0 dX6_ofTicket_0 rfl ?_
  obtain ⟨q1, hq1, h⟩ := h
  refine g_X6_9 hX hq1 dX6_ofTicket_1 ?_
  refine vw_bipush hX (v := 125) dX6_ofTicket_4 (by decide) ?_
  refine vw_bipush hX (v := 6) dX6_ofTicket_6 (by decide) ?_
  refine vw_iload_n hX 1 dX6_ofTicket_8 rfl ?_
  refine vw_imul hX dX6_ofTicket_9 ?_
  refine vw_iadd hX dX6_ofTicket_10 ?_
  refine vw_iload_n hX 2 dX6_ofTicket_11 rfl ?_
  refine vw_iadd hX dX6_ofTicket_12 ?_
  obtain ⟨n3, f2, hf2, hif2, h⟩ := h
  refine vw_iald hX hf2 hif2 dX6_ofTicket_13 ?_
  exact vw_iret hX hE dX6_ofTicket_14 ⟨_, rfl, h⟩
def F_X6_mayRide (a0 : Nat) (a1 : Int32) (a2 : Int32) (w : Mm) (z : Nat) (Q : Int32 → Mm → Nat → Prop) : Prop :=
  isO w a0 10 ∧ F_X6_rides a0 a1 w z (fun r2 w3 z4 => (¬ r2 = 0 → Q 0 w3 z4) ∧
  (r2 = 0 → (a2 = (-1) → Q 1 w3 z4) ∧
  (¬ a2 = (-1) → isO w3 a0 10 ∧ F_X6_ofTicket a0 a2 0 w3 z4 (fun r8 w9 z10 => (¬ r8 = a1 → Q 0 w9 z10) ∧
  (r8 = a1 → Q 1 w9 z10)))))
set_option maxRecDepth 100000 in
set_option maxHeartbeats 4000000 in
theorem ct_X6_mayRide {l : Launch} {g : Gp} {d : Nat} (hst : l.stackTraces = false) {a0 : Nat} {a1 : Int32} {a2 : Int32} {w : Mm} {z mc ms : Nat} {Q : Int32 → Mm → Nat → Prop} {X : String → Mm → Nat → Prop} (h : F_X6_mayRide a0 a1 a2 w z Q) : Ct l g yX6_mayRide (.code yX6_mayRide cX6_mayRide 3 (some .boolean)) (d + 2) mc ms [.ref (a0), .int (a1), .int (a2)] w z (rI Q) X := by
  refine Ct.of hst (by decide) (Nat.le_of_ble_eq_true rfl) (fun C hX hE hg hl hNm => ?_)
  subst hg
  subst hl
  unfold F_X6_mayRide at h
  show VW C 0 [(0, .ref (a0)), (1, .int (a1)), (2, .int (a2))] [] w z mc ms
  refine vw_aload_n hX 0 dX6_mayRide_0 rfl ?_
  refine vw_iload_n hX 1 dX6_mayRide_1 rfl ?_
  obtain ⟨hr1, h⟩ := h
  refine s_X6_112 hX hr1 dX6_mayRide_2 (Nat.le_of_ble_eq_true rfl) (ct_X6_rides (d := d + 0) (lst hX) h) (fun r2 w3 z4 h => ?_)
  refine vw_if_ne hX (tgt := 27) dX6_mayRide_5 (by decide) (fun c5 => ?_) (fun c5 => ?_)
  · have h := h.1 c5
    refine vw_iconst hX (v := 0) dX6_mayRide_27 (by decide) ?_
    exact vw_zret hX hE dX6_mayRide_28 rfl ⟨_, rfl, h⟩
  · have h := h.2 c5
    refine vw_iload_n hX 2 dX6_mayRide_8 rfl ?_
    refine vw_iconst hX (v := (-1)) dX6_mayRide_9 (by decide) ?_
    refine vw_icmp_eq hX (tgt := 23) dX6_mayRide_10 (by decide) (fun c6 => ?_) (fun c6 => ?_)
    · have h := h.1 c6
      refine vw_iconst hX (v := 1) dX6_mayRide_23 (by decide) ?_
      refine vw_goto hX (tgt := 28) dX6_mayRide_24 (by decide) ?_
      exact vw_zret hX hE dX6_mayRide_28 rfl ⟨_, rfl, h⟩
    · have h := h.2 c6
      refine vw_aload_n hX 0 dX6_mayRide_13 rfl ?_
      refine vw_iload_n hX 2 dX6_mayRide_14 rfl ?_
      refine vw_iconst hX (v := 0) dX6_mayRide_15 (by decide) ?_
      obtain ⟨hr7, h⟩ := h
      refine s_X6_96 hX hr7 dX6_mayRide_16 (Nat.le_of_ble_eq_true rfl) (ct_X6_ofTicket (d := d + 1) (lst hX) h) (fun r8 w9 z10 h => ?_)
      refine vw_iload_n hX 1 dX6_mayRide_19 rfl ?_
      refine vw_icmp_ne hX (tgt := 27) dX6_mayRide_20 (by decide) (fun c11 => ?_) (fun c11 => ?_)
      · have h := h.1 c11
        refine vw_iconst hX (v := 0) dX6_mayRide_27 (by decide) ?_
        exact vw_zret hX hE dX6_mayRide_28 rfl ⟨_, rfl, h⟩
      · have h := h.2 c11
        refine vw_iconst hX (v := 1) dX6_mayRide_23 (by decide) ?_
        refine vw_goto hX (tgt := 28) dX6_mayRide_24 (by decide) ?_
        exact vw_zret hX hE dX6_mayRide_28 rfl ⟨_, rfl, h⟩
def B_X6_begins_104 (a0 : Nat) (a1 : Int32) (a2 : Int32) (a3 : Int32) (a4 : Int32) (Q : Int32 → Mm → Nat → Prop) (w : Mm) (z : Nat) : Prop :=
  isO w a0 10 ∧ F_X6_ofPassenger a0 a1 3 w z (fun r2 w3 z4 => Q r2 w3 z4)
set_option maxRecDepth 100000 in
set_option maxHeartbeats 4000000 in
theorem pB_X6_begins_104 {C : Cx} {d : Nat} {a0 : Nat} {a1 : Int32} {a2 : Int32} {a3 : Int32} {a4 : Int32} {Q : Int32 → Mm → Nat → Prop} {X : String → Mm → Nat → Prop} (hX : CX C cX6_begins RX6 5 (some .int) [] (d + 1)) (hE : EQ C (rI Q) X) : ∀  (w : Mm) (z mc ms : Nat), B_X6_begins_104 a0 a1 a2 a3 a4 Q  w z → VW C 104 [(0, .ref (a0)), (1, .int (a1)), (2, .int (a2)), (3, .int (a3)), (4, .int (a4))] [] w z mc ms := by
  intro  w z mc ms h
  unfold B_X6_begins_104 at h
  refine vw_aload_n hX 0 dX6_begins_104 rfl ?_
  refine vw_iload_n hX 1 dX6_begins_105 rfl ?_
  refine vw_iconst hX (v := 3) dX6_begins_106 (by decide) ?_
  obtain ⟨hr1, h⟩ := h
  refine s_X6_102 hX hr1 dX6_begins_107 (Nat.le_of_ble_eq_true rfl) (ct_X6_ofPassenger (d := d + 0) (lst hX) h) (fun r2 w3 z4 h => ?_)
  exact vw_iret hX hE dX6_begins_110 ⟨_, rfl, h⟩
def F_X6_begins (a0 : Nat) (a1 : Int32) (a2 : Int32) (a3 : Int32) (a4 : Int32) (w : Mm) (z : Nat) (Q : Int32 → Mm → Nat → Prop) : Prop :=
  isO w a0 10 ∧ F_X6_putPassenger a0 a1 1 a2 w z (fun w3 z4 => isO w3 a0 10 ∧ F_X6_putPassenger a0 a1 2 a3 w3 z4 (fun w7 z8 => ∃ q9, fld w7 a0 10 0 = some (.ref (q9)) ∧ ∃ n11 f10, arI w7 q9 0 = some (n11, f10) ∧ vp_in 0 n11 ∧ isO w7 a0 10 ∧ F_X6_putPassenger a0 a1 3 ((((f10 (0 : Int32).toNatClampNeg)) + ((2 * ((jabs ((a3 - a2)))))))) w7 z8 (fun w14 z15 => isO w14 a0 10 ∧ F_X6_putPassenger a0 a1 4 a4 w14 z15 (fun w18 z19 => isO w18 a0 10 ∧ F_X6_putPassenger a0 a1 5 0 w18 z19 (fun w22 z23 => (a4 = (-1) → B_X6_begins_104 a0 a1 a2 a3 a4 Q w22 z23) ∧
  (¬ a4 = (-1) → isO w22 a0 10 ∧ F_X6_ofTicket a0 a4 5 w22 z23 (fun r26 w27 z28 => isO w27 a0 10 ∧ F_X6_putTicket a0 a4 5 ((r26 + 1)) w27 z28 (fun w31 z32 => isO w31 a0 10 ∧ F_X6_ofTicket a0 a4 3 w31 z32 (fun r34 w35 z36 => (¬ r34 = (-1) → B_X6_begins_104 a0 a1 a2 a3 a4 Q w35 z36) ∧
  (r34 = (-1) → ∃ q38, fld w35 a0 10 0 = some (.ref (q38)) ∧ ∃ n40 f39, arI w35 q38 0 = some (n40, f39) ∧ vp_in 0 n40 ∧ isO w35 a0 10 ∧ F_X6_putTicket a0 a4 3 ((f39 (0 : Int32).toNatClampNeg)) w35 z36 (fun w43 z44 => isO w43 a0 10 ∧ F_X6_putTicket a0 a4 4 a2 w43 z44 (fun w47 z48 => B_X6_begins_104 a0 a1 a2 a3 a4 Q w47 z48))))))))))))
set_option maxRecDepth 100000 in
set_option maxHeartbeats 4000000 in
theorem ct_X6_begins {l : Launch} {g : Gp} {d : Nat} (hst : l.stackTraces = false) {a0 : Nat} {a1 : Int32} {a2 : Int32} {a3 : Int32} {a4 : Int32} {w : Mm} {z mc ms : Nat} {Q : Int32 → Mm → Nat → Prop} {X : String → Mm → Nat → Prop} (h : F_X6_begins a0 a1 a2 a3 a4 w z Q) : Ct l g yX6_begins (.code yX6_begins cX6_begins 5 (some .int)) (d + 1) mc ms [.ref (a0), .int (a1), .int (a2), .int (a3), .int (a4)] w z (rI Q) X := by
  refine Ct.of hst (by decide) (Nat.le_of_ble_eq_true rfl) (fun C hX hE hg hl hNm => ?_)
  subst hg
  subst hl
  unfold F_X6_begins at h
  show VW C 0 [(0, .ref (a0)), (1, .int (a1)), (2, .int (a2)), (3, .int (a3)), (4, .int (a4))] [] w z mc ms
  refine vw_aload_n hX 0 dX6_begins_0 rfl ?_
  refine vw_iload_n hX 1 dX6_begins_1 rfl ?_
  refine vw_iconst hX (v := 1) dX6_begins_2 (by decide) ?_
  refine vw_iload_n hX 2 dX6_begins_3 rfl ?_
  obtain ⟨hr1, h⟩ := h
  refine s_X6_109 hX hr1 dX6_begins_4 (Nat.le_of_ble_eq_true rfl) (ct_X6_putPassenger (d := d + 0) (lst hX) h) (fun w3 z4 h => ?_)
  refine vw_aload_n hX 0 dX6_begins_7 rfl ?_
  refine vw_iload_n hX 1 dX6_begins_8 rfl ?_
  refine vw_iconst hX (v := 2) dX6_begins_9 (by decide) ?_
  refine vw_iload_n hX 3 dX6_begins_10 rfl ?_
  obtain ⟨hr5, h⟩ := h
  refine s_X6_109 hX hr5 dX6_begins_11 (Nat.le_of_ble_eq_true rfl) (ct_X6_putPassenger (d := d + 0) (lst hX) h) (fun w7 z8 h => ?_)
  refine vw_aload_n hX 0 dX6_begins_14 rfl ?_
  refine vw_iload_n hX 1 dX6_begins_15 rfl ?_
  refine vw_iconst hX (v := 3) dX6_begins_16 (by decide) ?_
  refine vw_aload_n hX 0 dX6_begins_17 rfl ?_
  obtain ⟨q9, hq9, h⟩ := h
  refine g_X6_9 hX hq9 dX6_begins_18 ?_
  refine vw_iconst hX (v := 0) dX6_begins_21 (by decide) ?_
  obtain ⟨n11, f10, hf10, hif10, h⟩ := h
  refine vw_iald hX hf10 hif10 dX6_begins_22 ?_
  refine vw_iconst hX (v := 2) dX6_begins_23 (by decide) ?_
  refine vw_iload_n hX 3 dX6_begins_24 rfl ?_
  refine vw_iload_n hX 2 dX6_begins_25 rfl ?_
  refine vw_isub hX dX6_begins_26 ?_
  refine vw_mabs hX kw_1717 (Nat.le_of_ble_eq_true rfl) dX6_begins_27 ?_
  refine vw_imul hX dX6_begins_30 ?_
  refine vw_iadd hX dX6_begins_31 ?_
  obtain ⟨hr12, h⟩ := h
  refine s_X6_109 hX hr12 dX6_begins_32 (Nat.le_of_ble_eq_true rfl) (ct_X6_putPassenger (d := d + 0) (lst hX) h) (fun w14 z15 h => ?_)
  refine vw_aload_n hX 0 dX6_begins_35 rfl ?_
  refine vw_iload_n hX 1 dX6_begins_36 rfl ?_
  refine vw_iconst hX (v := 4) dX6_begins_37 (by decide) ?_
  refine vw_iload hX 4 dX6_begins_38 rfl ?_
  obtain ⟨hr16, h⟩ := h
  refine s_X6_109 hX hr16 dX6_begins_40 (Nat.le_of_ble_eq_true rfl) (ct_X6_putPassenger (d := d + 0) (lst hX) h) (fun w18 z19 h => ?_)
  refine vw_aload_n hX 0 dX6_begins_43 rfl ?_
  refine vw_iload_n hX 1 dX6_begins_44 rfl ?_
  refine vw_iconst hX (v := 5) dX6_begins_45 (by decide) ?_
  refine vw_iconst hX (v := 0) dX6_begins_46 (by decide) ?_
  obtain ⟨hr20, h⟩ := h
  refine s_X6_109 hX hr20 dX6_begins_47 (Nat.le_of_ble_eq_true rfl) (ct_X6_putPassenger (d := d + 0) (lst hX) h) (fun w22 z23 h => ?_)
  refine vw_iload hX 4 dX6_begins_50 rfl ?_
  refine vw_iconst hX (v := (-1)) dX6_begins_52 (by decide) ?_
  refine vw_icmp_eq hX (tgt := 104) dX6_begins_53 (by decide) (fun c24 => ?_) (fun c24 => ?_)
  · have h := h.1 c24
    exact pB_X6_begins_104 hX hE _ _ _ _ h
  · have h := h.2 c24
    refine vw_aload_n hX 0 dX6_begins_56 rfl ?_
    refine vw_iload hX 4 dX6_begins_57 rfl ?_
    refine vw_iconst hX (v := 5) dX6_begins_59 (by decide) ?_
    refine vw_aload_n hX 0 dX6_begins_60 rfl ?_
    refine vw_iload hX 4 dX6_begins_61 rfl ?_
    refine vw_iconst hX (v := 5) dX6_begins_63 (by decide) ?_
    obtain ⟨hr25, h⟩ := h
    refine s_X6_96 hX hr25 dX6_begins_64 (Nat.le_of_ble_eq_true rfl) (ct_X6_ofTicket (d := d + 0) (lst hX) h) (fun r26 w27 z28 h => ?_)
    refine vw_iconst hX (v := 1) dX6_begins_67 (by decide) ?_
    refine vw_iadd hX dX6_begins_68 ?_
    obtain ⟨hr29, h⟩ := h
    refine s_X6_105 hX hr29 dX6_begins_69 (Nat.le_of_ble_eq_true rfl) (ct_X6_putTicket (d := d + 0) (lst hX) h) (fun w31 z32 h => ?_)
    refine vw_aload_n hX 0 dX6_begins_72 rfl ?_
    refine vw_iload hX 4 dX6_begins_73 rfl ?_
    refine vw_iconst hX (v := 3) dX6_begins_75 (by decide) ?_
    obtain ⟨hr33, h⟩ := h
    refine s_X6_96 hX hr33 dX6_begins_76 (Nat.le_of_ble_eq_true rfl) (ct_X6_ofTicket (d := d + 0) (lst hX) h) (fun r34 w35 z36 h => ?_)
    refine vw_iconst hX (v := (-1)) dX6_begins_79 (by decide) ?_
    refine vw_icmp_ne hX (tgt := 104) dX6_begins_80 (by decide) (fun c37 => ?_) (fun c37 => ?_)
    · have h := h.1 c37
      exact pB_X6_begins_104 hX hE _ _ _ _ h
    · have h := h.2 c37
      refine vw_aload_n hX 0 dX6_begins_83 rfl ?_
      refine vw_iload hX 4 dX6_begins_84 rfl ?_
      refine vw_iconst hX (v := 3) dX6_begins_86 (by decide) ?_
      refine vw_aload_n hX 0 dX6_begins_87 rfl ?_
      obtain ⟨q38, hq38, h⟩ := h
      refine g_X6_9 hX hq38 dX6_begins_88 ?_
      refine vw_iconst hX (v := 0) dX6_begins_91 (by decide) ?_
      obtain ⟨n40, f39, hf39, hif39, h⟩ := h
      refine vw_iald hX hf39 hif39 dX6_begins_92 ?_
      obtain ⟨hr41, h⟩ := h
      refine s_X6_105 hX hr41 dX6_begins_93 (Nat.le_of_ble_eq_true rfl) (ct_X6_putTicket (d := d + 0) (lst hX) h) (fun w43 z44 h => ?_)
      refine vw_aload_n hX 0 dX6_begins_96 rfl ?_
      refine vw_iload hX 4 dX6_begins_97 rfl ?_
      refine vw_iconst hX (v := 4) dX6_begins_99 (by decide) ?_
      refine vw_iload_n hX 2 dX6_begins_100 rfl ?_
      obtain ⟨hr45, h⟩ := h
      refine s_X6_105 hX hr45 dX6_begins_101 (Nat.le_of_ble_eq_true rfl) (ct_X6_putTicket (d := d + 0) (lst hX) h) (fun w47 z48 h => ?_)
      exact pB_X6_begins_104 hX hE _ _ _ _ h
def B_X6_rideTold_124 (a0 : Nat) (Q : Mm → Nat → Prop) (x1 : Int32) (x2 : Int32) (x3 : Int32) (x4 : Int32) (y0 : Int32) (y1 : Nat) (w : Mm) (z : Nat) : Prop :=
  isO w y1 10 ∧ F_X6_ends y1 y0 w z (fun r2 w3 z4 => (r2 = 0 → Q w3 z4) ∧
  (¬ r2 = 0 → isO w3 a0 10 ∧ F_X6_begins a0 x1 x2 x3 x4 w3 z4 (fun r7 w8 z9 => ∃ f10, obj w8 a0 10 = some f10 ∧ 20 < f10.length ∧ ∀ w11, w11 = mset w8 a0 (.inl (10, f10.set 20 (.int (r7)))) → Q w11 z9)))
set_option maxRecDepth 100000 in
set_option maxHeartbeats 4000000 in
theorem pB_X6_rideTold_124 {C : Cx} {d : Nat} {a0 : Nat} {Q : Mm → Nat → Prop} {X : String → Mm → Nat → Prop} (hX : CX C cX6_rideTold RX6 5 none [] (d + 5)) (hE : EQ C (rV Q) X) : ∀ (x1 : Int32) (x2 : Int32) (x3 : Int32) (x4 : Int32) (y0 : Int32) (y1 : Nat) (w : Mm) (z mc ms : Nat), B_X6_rideTold_124 a0 Q x1 x2 x3 x4 y0 y1 w z → VW C 124 [(0, .ref (a0)), (1, .int (x1)), (2, .int (x2)), (3, .int (x3)), (4, .int (x4))] [.int (y0), .ref (y1)] w z mc ms := by
  intro x1 x2 x3 x4 y0 y1 w z mc ms h
  unfold B_X6_rideTold_124 at h
  obtain ⟨hr1, h⟩ := h
  refine s_X6_230 hX hr1 dX6_rideTold_124 (Nat.le_of_ble_eq_true rfl) (ct_X6_ends (d := d + 3) (lst hX) h) (fun r2 w3 z4 h => ?_)
  refine vw_if_eq hX (tgt := 143) dX6_rideTold_127 (by decide) (fun c5 => ?_) (fun c5 => ?_)
  · have h := h.1 c5
    exact vw_vret hX hE dX6_rideTold_143 ⟨rfl, h⟩
  · have h := h.2 c5
    refine vw_aload_n hX 0 dX6_rideTold_130 rfl ?_
    refine vw_aload_n hX 0 dX6_rideTold_131 rfl ?_
    refine vw_iload_n hX 1 dX6_rideTold_132 rfl ?_
    refine vw_iload_n hX 2 dX6_rideTold_133 rfl ?_
    refine vw_iload_n hX 3 dX6_rideTold_134 rfl ?_
    refine vw_iload hX 4 dX6_rideTold_135 rfl ?_
    obtain ⟨hr6, h⟩ := h
    refine s_X6_246 hX hr6 dX6_rideTold_137 (Nat.le_of_ble_eq_true rfl) (ct_X6_begins (d := d + 3) (lst hX) h) (fun r7 w8 z9 h => ?_)
    obtain ⟨f10, hf10, hlf10, h⟩ := h
    refine p_X6_238 hX hf10 hlf10 dX6_rideTold_140 ?_
    refine vw_nmW (fun w11 ew11 => ?_)
    have h := h w11 ew11
    exact vw_vret hX hE dX6_rideTold_143 ⟨rfl, h⟩
def B_X6_rideTold_119 (a0 : Nat) (Q : Mm → Nat → Prop) (x1 : Int32) (x2 : Int32) (x3 : Int32) (x4 : Int32) (y0 : Nat) (w : Mm) (z : Nat) : Prop :=
  B_X6_rideTold_124 a0 Q x1 x2 x3 x4 1 y0 w z
set_option maxRecDepth 100000 in
set_option maxHeartbeats 4000000 in
theorem pB_X6_rideTold_119 {C : Cx} {d : Nat} {a0 : Nat} {Q : Mm → Nat → Prop} {X : String → Mm → Nat → Prop} (hX : CX C cX6_rideTold RX6 5 none [] (d + 5)) (hE : EQ C (rV Q) X) : ∀ (x1 : Int32) (x2 : Int32) (x3 : Int32) (x4 : Int32) (y0 : Nat) (w : Mm) (z mc ms : Nat), B_X6_rideTold_119 a0 Q x1 x2 x3 x4 y0 w z → VW C 119 [(0, .ref (a0)), (1, .int (x1)), (2, .int (x2)), (3, .int (x3)), (4, .int (x4))] [.ref (y0)] w z mc ms := by
  intro x1 x2 x3 x4 y0 w z mc ms h
  unfold B_X6_rideTold_119 at h
  refine vw_iconst hX (v := 1) dX6_rideTold_119 (by decide) ?_
  refine vw_goto hX (tgt := 124) dX6_rideTold_120 (by decide) ?_
  exact pB_X6_rideTold_124 hX hE _ _ _ _ _ _ _ _ _ _ h
def B_X6_rideTold_101 (a0 : Nat) (Q : Mm → Nat → Prop) (x1 : Int32) (x2 : Int32) (x3 : Int32) (x4 : Int32) (w : Mm) (z : Nat) : Prop :=
  ∃ v12, fld w a0 10 19 = some (.int (v12)) ∧ (¬ v12 = 0 → B_X6_rideTold_119 a0 Q x1 x2 x3 x4 a0 w z) ∧
  (v12 = 0 → isO w a0 10 ∧ F_X6_mayRide a0 x1 x4 w z (fun r15 w16 z17 => (r15 = 0 → B_X6_rideTold_124 a0 Q x1 x2 x3 x4 0 a0 w16 z17) ∧
  (¬ r15 = 0 → B_X6_rideTold_119 a0 Q x1 x2 x3 x4 a0 w16 z17)))
set_option maxRecDepth 100000 in
set_option maxHeartbeats 4000000 in
theorem pB_X6_rideTold_101 {C : Cx} {d : Nat} {a0 : Nat} {Q : Mm → Nat → Prop} {X : String → Mm → Nat → Prop} (hX : CX C cX6_rideTold RX6 5 none [] (d + 5)) (hE : EQ C (rV Q) X) : ∀ (x1 : Int32) (x2 : Int32) (x3 : Int32) (x4 : Int32) (w : Mm) (z mc ms : Nat), B_X6_rideTold_101 a0 Q x1 x2 x3 x4 w z → VW C 101 [(0, .ref (a0)), (1, .int (x1)), (2, .int (x2)), (3, .int (x3)), (4, .int (x4))] [] w z mc ms := by
  intro x1 x2 x3 x4 w z mc ms h
  unfold B_X6_rideTold_101 at h
  refine vw_aload_n hX 0 dX6_rideTold_101 rfl ?_
  refine vw_aload_n hX 0 dX6_rideTold_102 rfl ?_
  obtain ⟨v12, hv12, h⟩ := h
  refine g_X6_180 hX hv12 dX6_rideTold_103 ?_
  refine vw_if_ne hX (tgt := 119) dX6_rideTold_106 (by decide) (fun c13 => ?_) (fun c13 => ?_)
  · have h := h.1 c13
    exact pB_X6_rideTold_119 hX hE _ _ _ _ _ _ _ _ _ h
  · have h := h.2 c13
    refine vw_aload_n hX 0 dX6_rideTold_109 rfl ?_
    refine vw_iload_n hX 1 dX6_rideTold_110 rfl ?_
    refine vw_iload hX 4 dX6_rideTold_111 rfl ?_
    obtain ⟨hr14, h⟩ := h
    refine s_X6_243 hX hr14 dX6_rideTold_113 (Nat.le_of_ble_eq_true rfl) (ct_X6_mayRide (d := d + 2) (lst hX) h) (fun r15 w16 z17 h => ?_)
    refine vw_if_eq hX (tgt := 123) dX6_rideTold_116 (by decide) (fun c18 => ?_) (fun c18 => ?_)
    · have h := h.1 c18
      refine vw_iconst hX (v := 0) dX6_rideTold_123 (by decide) ?_
      exact pB_X6_rideTold_124 hX hE _ _ _ _ _ _ _ _ _ _ h
    · have h := h.2 c18
      exact pB_X6_rideTold_119 hX hE _ _ _ _ _ _ _ _ _ h
def B_X6_rideTold_55 (a0 : Nat) (Q : Mm → Nat → Prop) (x1 : Int32) (x2 : Int32) (x3 : Int32) (y0 : Int32) (y1 : Nat) (w : Mm) (z : Nat) : Prop :=
  isO w y1 10 ∧ F_X6_wrong y1 y0 2 w z (fun w21 z22 => isO w21 a0 10 ∧ F_X6_go a0 w21 z22 (fun w25 z26 => ∃ v27, fld w25 a0 10 19 = some (.int (v27)) ∧ (¬ v27 = 0 → B_X6_rideTold_101 a0 Q x1 x2 x3 (-1) w25 z26) ∧
  (v27 = 0 → ∀ q29, isLit w25 q29 lit_11 → isO w25 a0 10 ∧ F_X6_is a0 q29 w25 z26 (fun r31 w32 z33 => (r31 = 0 → B_X6_rideTold_101 a0 Q x1 x2 x3 (-1) w32 z33) ∧
  (¬ r31 = 0 → isO w32 a0 10 ∧ F_X6_go a0 w32 z33 (fun w37 z38 => ∃ q39, fld w37 a0 10 0 = some (.ref (q39)) ∧ ∃ n41 f40, arI w37 q39 0 = some (n41, f40) ∧ vp_in 3 n41 ∧ isO w37 a0 10 ∧ F_X6_number a0 0 ((((f40 (3 : Int32).toNatClampNeg)) - 1)) w37 z38 (fun r43 w44 z45 => B_X6_rideTold_101 a0 Q x1 x2 x3 r43 w44 z45)))))))
set_option maxRecDepth 100000 in
set_option maxHeartbeats 4000000 in
theorem pB_X6_rideTold_55 {C : Cx} {d : Nat} {a0 : Nat} {Q : Mm → Nat → Prop} {X : String → Mm → Nat → Prop} (hX : CX C cX6_rideTold RX6 5 none [] (d + 5)) (hE : EQ C (rV Q) X) : ∀ (x1 : Int32) (x2 : Int32) (x3 : Int32) (y0 : Int32) (y1 : Nat) (w : Mm) (z mc ms : Nat), B_X6_rideTold_55 a0 Q x1 x2 x3 y0 y1 w z → VW C 55 [(0, .ref (a0)), (1, .int (x1)), (2, .int (x2)), (3, .int (x3))] [.int (y0), .ref (y1)] w z mc ms := by
  intro x1 x2 x3 y0 y1 w z mc ms h
  unfold B_X6_rideTold_55 at h
  refine vw_iconst hX (v := 2) dX6_rideTold_55 (by decide) ?_
  obtain ⟨hr19, h⟩ := h
  refine s_X6_190 hX hr19 dX6_rideTold_56 (Nat.le_of_ble_eq_true rfl) (ct_X6_wrong (d := d + 4) (lst hX) h) (fun w21 z22 h => ?_)
  refine vw_aload_n hX 0 dX6_rideTold_59 rfl ?_
  obtain ⟨hr23, h⟩ := h
  refine s_X6_197 hX hr23 dX6_rideTold_60 (Nat.le_of_ble_eq_true rfl) (ct_X6_go (d := d + 1) (lst hX) h) (fun w25 z26 h => ?_)
  refine vw_iconst hX (v := (-1)) dX6_rideTold_63 (by decide) ?_
  refine vw_istore hX dX6_rideTold_64 (by decide) rfl ?_
  refine vw_aload_n hX 1 dX6_rideTold_66 rfl ?_
  obtain ⟨v27, hv27, h⟩ := h
  refine g_X6_180 hX hv27 dX6_rideTold_67 ?_
  refine vw_if_ne hX (tgt := 101) dX6_rideTold_70 (by decide) (fun c28 => ?_) (fun c28 => ?_)
  · have h := h.1 c28
    exact vw_sub [1, 2, 3, 4, 0] rfl (pB_X6_rideTold_101 hX hE _ _ _ _ _ _ _ _ h)
  · have h := h.2 c28
    refine vw_aload_n hX 1 dX6_rideTold_73 rfl ?_
    refine l_X6_241 hX dX6_rideTold_74 (fun q29 hq29 => ?_)
    have h := h q29 hq29
    obtain ⟨hr30, h⟩ := h
    refine s_X6_208 hX hr30 dX6_rideTold_76 (Nat.le_of_ble_eq_true rfl) (ct_X6_is (d := d + 0) (lst hX) h) (fun r31 w32 z33 h => ?_)
    refine vw_if_eq hX (tgt := 101) dX6_rideTold_79 (by decide) (fun c34 => ?_) (fun c34 => ?_)
    · have h := h.1 c34
      exact vw_sub [1, 2, 3, 4, 0] rfl (pB_X6_rideTold_101 hX hE _ _ _ _ _ _ _ _ h)
    · have h := h.2 c34
      refine vw_aload_n hX 1 dX6_rideTold_82 rfl ?_
      obtain ⟨hr35, h⟩ := h
      refine s_X6_197 hX hr35 dX6_rideTold_83 (Nat.le_of_ble_eq_true rfl) (ct_X6_go (d := d + 1) (lst hX) h) (fun w37 z38 h => ?_)
      refine vw_aload_n hX 1 dX6_rideTold_86 rfl ?_
      refine vw_iconst hX (v := 0) dX6_rideTold_87 (by decide) ?_
      refine vw_aload_n hX 1 dX6_rideTold_88 rfl ?_
      obtain ⟨q39, hq39, h⟩ := h
      refine g_X6_9 hX hq39 dX6_rideTold_89 ?_
      refine vw_iconst hX (v := 3) dX6_rideTold_92 (by decide) ?_
      obtain ⟨n41, f40, hf40, hif40, h⟩ := h
      refine vw_iald hX hf40 hif40 dX6_rideTold_93 ?_
      refine vw_iconst hX (v := 1) dX6_rideTold_94 (by decide) ?_
      refine vw_isub hX dX6_rideTold_95 ?_
      obtain ⟨hr42, h⟩ := h
      refine s_X6_213 hX hr42 dX6_rideTold_96 (Nat.le_of_ble_eq_true rfl) (ct_X6_number (d := d + 0) (lst hX) h) (fun r43 w44 z45 h => ?_)
      refine vw_istore hX dX6_rideTold_99 (by decide) rfl ?_
      exact vw_sub [1, 2, 3, 4, 0] rfl (pB_X6_rideTold_101 hX hE _ _ _ _ _ _ _ _ h)
def B_X6_rideTold_54 (a0 : Nat) (Q : Mm → Nat → Prop) (x1 : Int32) (x2 : Int32) (x3 : Int32) (y0 : Nat) (w : Mm) (z : Nat) : Prop :=
  B_X6_rideTold_55 a0 Q x1 x2 x3 0 y0 w z
set_option maxRecDepth 100000 in
set_option maxHeartbeats 4000000 in
theorem pB_X6_rideTold_54 {C : Cx} {d : Nat} {a0 : Nat} {Q : Mm → Nat → Prop} {X : String → Mm → Nat → Prop} (hX : CX C cX6_rideTold RX6 5 none [] (d + 5)) (hE : EQ C (rV Q) X) : ∀ (x1 : Int32) (x2 : Int32) (x3 : Int32) (y0 : Nat) (w : Mm) (z mc ms : Nat), B_X6_rideTold_54 a0 Q x1 x2 x3 y0 w z → VW C 54 [(0, .ref (a0)), (1, .int (x1)), (2, .int (x2)), (3, .int (x3))] [.ref (y0)] w z mc ms := by
  intro x1 x2 x3 y0 w z mc ms h
  unfold B_X6_rideTold_54 at h
  refine vw_iconst hX (v := 0) dX6_rideTold_54 (by decide) ?_
  exact pB_X6_rideTold_55 hX hE _ _ _ _ _ _ _ _ _ h
def F_X6_rideTold (a0 : Nat) (w : Mm) (z : Nat) (Q : Mm → Nat → Prop) : Prop :=
  isO w a0 10 ∧ F_X6_go a0 w z (fun w3 z4 => isO w3 a0 10 ∧ F_X6_passengerHere a0 w3 z4 (fun r6 w7 z8 => ∃ q9, fld w7 a0 10 0 = some (.ref (q9)) ∧ ∃ n11 f10, arI w7 q9 0 = some (n11, f10) ∧ vp_in 1 n11 ∧ isO w7 a0 10 ∧ F_X6_number a0 0 ((((f10 (1 : Int32).toNatClampNeg)) - 1)) w7 z8 (fun r13 w14 z15 => ∃ q16, fld w14 a0 10 0 = some (.ref (q16)) ∧ ∃ n18 f17, arI w14 q16 0 = some (n18, f17) ∧ vp_in 1 n18 ∧ isO w14 a0 10 ∧ F_X6_here a0 0 ((((f17 (1 : Int32).toNatClampNeg)) - 1)) w14 z15 (fun r20 w21 z22 => ∃ v23, fld w21 a0 10 19 = some (.int (v23)) ∧ (¬ v23 = 0 → B_X6_rideTold_54 a0 Q r6 r13 r20 a0 w21 z22) ∧
  (v23 = 0 → (¬ r13 = r20 → B_X6_rideTold_54 a0 Q r6 r13 r20 a0 w21 z22) ∧
  (r13 = r20 → B_X6_rideTold_55 a0 Q r6 r13 r20 1 a0 w21 z22))))))
set_option maxRecDepth 100000 in
set_option maxHeartbeats 4000000 in
theorem ct_X6_rideTold {l : Launch} {g : Gp} {d : Nat} (hst : l.stackTraces = false) {a0 : Nat} {w : Mm} {z mc ms : Nat} {Q : Mm → Nat → Prop} {X : String → Mm → Nat → Prop} (h : F_X6_rideTold a0 w z Q) : Ct l g yX6_rideTold (.code yX6_rideTold cX6_rideTold 5 none) (d + 5) mc ms [.ref (a0)] w z (rV Q) X := by
  refine Ct.of hst (by decide) (Nat.le_of_ble_eq_true rfl) (fun C hX hE hg hl hNm => ?_)
  subst hg
  subst hl
  unfold F_X6_rideTold at h
  show VW C 0 [(0, .ref (a0))] [] w z mc ms
  refine vw_aload_n hX 0 dX6_rideTold_0 rfl ?_
  obtain ⟨hr1, h⟩ := h
  refine s_X6_197 hX hr1 dX6_rideTold_1 (Nat.le_of_ble_eq_true rfl) (ct_X6_go (d := d + 1) (lst hX) h) (fun w3 z4 h => ?_)
  refine vw_aload_n hX 0 dX6_rideTold_4 rfl ?_
  obtain ⟨hr5, h⟩ := h
  refine s_X6_218 hX hr5 dX6_rideTold_5 (Nat.le_of_ble_eq_true rfl) (ct_X6_passengerHere (d := d + 0) (lst hX) h) (fun r6 w7 z8 h => ?_)
  refine vw_istore_n hX dX6_rideTold_8 (by decide) rfl ?_
  refine vw_aload_n hX 1 dX6_rideTold_9 rfl ?_
  refine vw_iconst hX (v := 0) dX6_rideTold_10 (by decide) ?_
  refine vw_aload_n hX 1 dX6_rideTold_11 rfl ?_
  obtain ⟨q9, hq9, h⟩ := h
  refine g_X6_9 hX hq9 dX6_rideTold_12 ?_
  refine vw_iconst hX (v := 1) dX6_rideTold_15 (by decide) ?_
  obtain ⟨n11, f10, hf10, hif10, h⟩ := h
  refine vw_iald hX hf10 hif10 dX6_rideTold_16 ?_
  refine vw_iconst hX (v := 1) dX6_rideTold_17 (by decide) ?_
  refine vw_isub hX dX6_rideTold_18 ?_
  obtain ⟨hr12, h⟩ := h
  refine s_X6_213 hX hr12 dX6_rideTold_19 (Nat.le_of_ble_eq_true rfl) (ct_X6_number (d := d + 0) (lst hX) h) (fun r13 w14 z15 h => ?_)
  refine vw_istore_n hX dX6_rideTold_22 (by decide) rfl ?_
  refine vw_aload_n hX 2 dX6_rideTold_23 rfl ?_
  refine vw_iconst hX (v := 0) dX6_rideTold_24 (by decide) ?_
  refine vw_aload_n hX 2 dX6_rideTold_25 rfl ?_
  obtain ⟨q16, hq16, h⟩ := h
  refine g_X6_9 hX hq16 dX6_rideTold_26 ?_
  refine vw_iconst hX (v := 1) dX6_rideTold_29 (by decide) ?_
  obtain ⟨n18, f17, hf17, hif17, h⟩ := h
  refine vw_iald hX hf17 hif17 dX6_rideTold_30 ?_
  refine vw_iconst hX (v := 1) dX6_rideTold_31 (by decide) ?_
  refine vw_isub hX dX6_rideTold_32 ?_
  obtain ⟨hr19, h⟩ := h
  refine s_X6_194 hX hr19 dX6_rideTold_33 (Nat.le_of_ble_eq_true rfl) (ct_X6_here (d := d + 3) (lst hX) h) (fun r20 w21 z22 h => ?_)
  refine vw_istore_n hX dX6_rideTold_36 (by decide) rfl ?_
  refine vw_aload_n hX 3 dX6_rideTold_37 rfl ?_
  refine vw_aload_n hX 3 dX6_rideTold_38 rfl ?_
  obtain ⟨v23, hv23, h⟩ := h
  refine g_X6_180 hX hv23 dX6_rideTold_39 ?_
  refine vw_if_ne hX (tgt := 54) dX6_rideTold_42 (by decide) (fun c24 => ?_) (fun c24 => ?_)
  · have h := h.1 c24
    exact vw_sub [3, 2, 1, 0] rfl (pB_X6_rideTold_54 hX hE _ _ _ _ _ _ _ _ h)
  · have h := h.2 c24
    refine vw_iload_n hX 1 dX6_rideTold_45 rfl ?_
    refine vw_iload_n hX 0 dX6_rideTold_46 rfl ?_
    refine vw_icmp_ne hX (tgt := 54) dX6_rideTold_47 (by decide) (fun c25 => ?_) (fun c25 => ?_)
    · have h := h.1 c25
      exact vw_sub [3, 2, 1, 0] rfl (pB_X6_rideTold_54 hX hE _ _ _ _ _ _ _ _ h)
    · have h := h.2 c25
      refine vw_iconst hX (v := 1) dX6_rideTold_50 (by decide) ?_
      refine vw_goto hX (tgt := 55) dX6_rideTold_51 (by decide) ?_
      exact vw_sub [3, 2, 1, 0] rfl (pB_X6_rideTold_55 hX hE _ _ _ _ _ _ _ _ _ h)
def F_X6_ofCase (a0 : Nat) (a1 : Int32) (a2 : Int32) (w : Mm) (z : Nat) (Q : Int32 → Mm → Nat → Prop) : Prop :=
  ∃ q1, fld w a0 10 0 = some (.ref (q1)) ∧ ∃ n3 f2, arI w q1 0 = some (n3, f2) ∧ vp_in ((((305 + ((7 * a1)))) + a2)) n3 ∧ Q ((f2 ((((305 + ((7 * a1)))) + a2) : Int32).toNatClampNeg)) w z
set_option maxRecDepth 100000 in
set_option maxHeartbeats 4000000 in
theorem ct_X6_ofCase {l : Launch} {g : Gp} {d : Nat} (hst : l.stackTraces = false) {a0 : Nat} {a1 : Int32} {a2 : Int32} {w : Mm} {z mc ms : Nat} {Q : Int32 → Mm → Nat → Prop} {X : String → Mm → Nat → Prop} (h : F_X6_ofCase a0 a1 a2 w z Q) : Ct l g yX6_ofCase (.code yX6_ofCase cX6_ofCase 3 (some .int)) (d + 0) mc ms [.ref (a0), .int (a1), .int (a2)] w z (rI Q) X := by
  refine Ct.of hst (by decide) (Nat.le_of_ble_eq_true rfl) (fun C hX hE hg hl hNm => ?_)
  subst hg
  subst hl
  unfold F_X6_ofCase at h
  show VW C 0 [(0, .ref (a0)), (1, .int (a1)), (2, .int (a2))] [] w z mc ms
  refine vw_aload_n hX 0 dX6_ofCase_0 rfl ?_
  obtain ⟨q1, hq1, h⟩ := h
  refine g_X6_9 hX hq1 dX6_ofCase_1 ?_
  refine vw_sipush hX (v := 305) dX6_ofCase_4 (by decide) ?_
  refine vw_bipush hX (v := 7) dX6_ofCase_7 (by decide) ?_
  refine vw_iload_n hX 1 dX6_ofCase_9 rfl ?_
  refine vw_imul hX dX6_ofCase_10 ?_
  refine vw_iadd hX dX6_ofCase_11 ?_
  refine vw_iload_n hX 2 dX6_ofCase_12 rfl ?_
  refine vw_iadd hX dX6_ofCase_13 ?_
  obtain ⟨n3, f2, hf2, hif2, h⟩ := h
  refine vw_iald hX hf2 hif2 dX6_ofCase_14 ?_
  exact vw_iret hX hE dX6_ofCase_15 ⟨_, rfl, h⟩
def F_X6_isLate (a0 : Nat) (a1 : Int32) (w : Mm) (z : Nat) (Q : Int32 → Mm → Nat → Prop) : Prop :=
  isO w a0 10 ∧ F_X6_ofCase a0 a1 2 w z (fun r2 w3 z4 => (r2 = 4 → Q 0 w3 z4) ∧
  (¬ r2 = 4 → ∃ q6, fld w3 a0 10 0 = some (.ref (q6)) ∧ ∃ n8 f7, arI w3 q6 0 = some (n8, f7) ∧ vp_in 0 n8 ∧ isO w3 a0 10 ∧ F_X6_ofCase a0 a1 3 w3 z4 (fun r10 w11 z12 => (((f7 (0 : Int32).toNatClampNeg)) ≤ ((r10 + 20160)) → Q 0 w11 z12) ∧
  (¬ ((f7 (0 : Int32).toNatClampNeg)) ≤ ((r10 + 20160)) → Q 1 w11 z12))))
set_option maxRecDepth 100000 in
set_option maxHeartbeats 4000000 in
theorem ct_X6_isLate {l : Launch} {g : Gp} {d : Nat} (hst : l.stackTraces = false) {a0 : Nat} {a1 : Int32} {w : Mm} {z mc ms : Nat} {Q : Int32 → Mm → Nat → Prop} {X : String → Mm → Nat → Prop} (h : F_X6_isLate a0 a1 w z Q) : Ct l g yX6_isLate (.code yX6_isLate cX6_isLate 2 (some .boolean)) (d + 1) mc ms [.ref (a0), .int (a1)] w z (rI Q) X := by
  refine Ct.of hst (by decide) (Nat.le_of_ble_eq_true rfl) (fun C hX hE hg hl hNm => ?_)
  subst hg
  subst hl
  unfold F_X6_isLate at h
  show VW C 0 [(0, .ref (a0)), (1, .int (a1))] [] w z mc ms
  refine vw_aload_n hX 0 dX6_isLate_0 rfl ?_
  refine vw_iload_n hX 1 dX6_isLate_1 rfl ?_
  refine vw_iconst hX (v := 2) dX6_isLate_2 (by decide) ?_
  obtain ⟨hr1, h⟩ := h
  refine s_X6_138 hX hr1 dX6_isLate_3 (Nat.le_of_ble_eq_true rfl) (ct_X6_ofCase (d := d + 0) (lst hX) h) (fun r2 w3 z4 h => ?_)
  refine vw_iconst hX (v := 4) dX6_isLate_6 (by decide) ?_
  refine vw_icmp_eq hX (tgt := 33) dX6_isLate_7 (by decide) (fun c5 => ?_) (fun c5 => ?_)
  · have h := h.1 c5
    refine vw_iconst hX (v := 0) dX6_isLate_33 (by decide) ?_
    exact vw_zret hX hE dX6_isLate_34 rfl ⟨_, rfl, h⟩
  · have h := h.2 c5
    refine vw_aload_n hX 0 dX6_isLate_10 rfl ?_
    obtain ⟨q6, hq6, h⟩ := h
    refine g_X6_9 hX hq6 dX6_isLate_11 ?_
    refine vw_iconst hX (v := 0) dX6_isLate_14 (by decide) ?_
    obtain ⟨n8, f7, hf7, hif7, h⟩ := h
    refine vw_iald hX hf7 hif7 dX6_isLate_15 ?_
    refine vw_aload_n hX 0 dX6_isLate_16 rfl ?_
    refine vw_iload_n hX 1 dX6_isLate_17 rfl ?_
    refine vw_iconst hX (v := 3) dX6_isLate_18 (by decide) ?_
    obtain ⟨hr9, h⟩ := h
    refine s_X6_138 hX hr9 dX6_isLate_19 (Nat.le_of_ble_eq_true rfl) (ct_X6_ofCase (d := d + 0) (lst hX) h) (fun r10 w11 z12 h => ?_)
    refine vw_sipush hX (v := 20160) dX6_isLate_22 (by decide) ?_
    refine vw_iadd hX dX6_isLate_25 ?_
    refine vw_icmp_le hX (tgt := 33) dX6_isLate_26 (by decide) (fun c13 => ?_) (fun c13 => ?_)
    · have h := h.1 c13
      refine vw_iconst hX (v := 0) dX6_isLate_33 (by decide) ?_
      exact vw_zret hX hE dX6_isLate_34 rfl ⟨_, rfl, h⟩
    · have h := h.2 c13
      refine vw_iconst hX (v := 1) dX6_isLate_29 (by decide) ?_
      refine vw_goto hX (tgt := 34) dX6_isLate_30 (by decide) ?_
      exact vw_zret hX hE dX6_isLate_34 rfl ⟨_, rfl, h⟩
def F_X6_mayAppeal (a0 : Nat) (a1 : Int32) (w : Mm) (z : Nat) (Q : Int32 → Mm → Nat → Prop) : Prop :=
  isO w a0 10 ∧ F_X6_ofCase a0 a1 2 w z (fun r2 w3 z4 => (¬ r2 = 0 → Q 0 w3 z4) ∧
  (r2 = 0 → isO w3 a0 10 ∧ F_X6_isLate a0 a1 w3 z4 (fun r7 w8 z9 => (¬ r7 = 0 → Q 0 w8 z9) ∧
  (r7 = 0 → Q 1 w8 z9))))
set_option maxRecDepth 100000 in
set_option maxHeartbeats 4000000 in
theorem ct_X6_mayAppeal {l : Launch} {g : Gp} {d : Nat} (hst : l.stackTraces = false) {a0 : Nat} {a1 : Int32} {w : Mm} {z mc ms : Nat} {Q : Int32 → Mm → Nat → Prop} {X : String → Mm → Nat → Prop} (h : F_X6_mayAppeal a0 a1 w z Q) : Ct l g yX6_mayAppeal (.code yX6_mayAppeal cX6_mayAppeal 2 (some .boolean)) (d + 2) mc ms [.ref (a0), .int (a1)] w z (rI Q) X := by
  refine Ct.of hst (by decide) (Nat.le_of_ble_eq_true rfl) (fun C hX hE hg hl hNm => ?_)
  subst hg
  subst hl
  unfold F_X6_mayAppeal at h
  show VW C 0 [(0, .ref (a0)), (1, .int (a1))] [] w z mc ms
  refine vw_aload_n hX 0 dX6_mayAppeal_0 rfl ?_
  refine vw_iload_n hX 1 dX6_mayAppeal_1 rfl ?_
  refine vw_iconst hX (v := 2) dX6_mayAppeal_2 (by decide) ?_
  obtain ⟨hr1, h⟩ := h
  refine s_X6_138 hX hr1 dX6_mayAppeal_3 (Nat.le_of_ble_eq_true rfl) (ct_X6_ofCase (d := d + 1) (lst hX) h) (fun r2 w3 z4 h => ?_)
  refine vw_if_ne hX (tgt := 21) dX6_mayAppeal_6 (by decide) (fun c5 => ?_) (fun c5 => ?_)
  · have h := h.1 c5
    refine vw_iconst hX (v := 0) dX6_mayAppeal_21 (by decide) ?_
    exact vw_zret hX hE dX6_mayAppeal_22 rfl ⟨_, rfl, h⟩
  · have h := h.2 c5
    refine vw_aload_n hX 0 dX6_mayAppeal_9 rfl ?_
    refine vw_iload_n hX 1 dX6_mayAppeal_10 rfl ?_
    obtain ⟨hr6, h⟩ := h
    refine s_X6_141 hX hr6 dX6_mayAppeal_11 (Nat.le_of_ble_eq_true rfl) (ct_X6_isLate (d := d + 0) (lst hX) h) (fun r7 w8 z9 h => ?_)
    refine vw_if_ne hX (tgt := 21) dX6_mayAppeal_14 (by decide) (fun c10 => ?_) (fun c10 => ?_)
    · have h := h.1 c10
      refine vw_iconst hX (v := 0) dX6_mayAppeal_21 (by decide) ?_
      exact vw_zret hX hE dX6_mayAppeal_22 rfl ⟨_, rfl, h⟩
    · have h := h.2 c10
      refine vw_iconst hX (v := 1) dX6_mayAppeal_17 (by decide) ?_
      refine vw_goto hX (tgt := 22) dX6_mayAppeal_18 (by decide) ?_
      exact vw_zret hX hE dX6_mayAppeal_22 rfl ⟨_, rfl, h⟩
def F_X6_putCase (a0 : Nat) (a1 : Int32) (a2 : Int32) (a3 : Int32) (w : Mm) (z : Nat) (Q : Mm → Nat → Prop) : Prop :=
  ∃ q1, fld w a0 10 0 = some (.ref (q1)) ∧ ∃ n3 f2, arW w q1 0 = some (n3, f2) ∧ vp_in ((((305 + ((7 * a1)))) + a2)) n3 ∧ ∀ w4, w4 = mset w q1 (.inr (0, n3, .inl (upd f2 ((((305 + ((7 * a1)))) + a2) : Int32).toNatClampNeg a3))) → Q w4 z
set_option maxRecDepth 100000 in
set_option maxHeartbeats 4000000 in
theorem ct_X6_putCase {l : Launch} {g : Gp} {d : Nat} (hst : l.stackTraces = false) {a0 : Nat} {a1 : Int32} {a2 : Int32} {a3 : Int32} {w : Mm} {z mc ms : Nat} {Q : Mm → Nat → Prop} {X : String → Mm → Nat → Prop} (h : F_X6_putCase a0 a1 a2 a3 w z Q) : Ct l g yX6_putCase (.code yX6_putCase cX6_putCase 4 none) (d + 0) mc ms [.ref (a0), .int (a1), .int (a2), .int (a3)] w z (rV Q) X := by
  refine Ct.of hst (by decide) (Nat.le_of_ble_eq_true rfl) (fun C hX hE hg hl hNm => ?_)
  subst hg
  subst hl
  unfold F_X6_putCase at h
  show VW C 0 [(0, .ref (a0)), (1, .int (a1)), (2, .int (a2)), (3, .int (a3))] [] w z mc ms
  refine vw_aload_n hX 0 dX6_putCase_0 rfl ?_
  obtain ⟨q1, hq1, h⟩ := h
  refine g_X6_9 hX hq1 dX6_putCase_1 ?_
  refine vw_sipush hX (v := 305) dX6_putCase_4 (by decide) ?_
  refine vw_bipush hX (v := 7) dX6_putCase_7 (by decide) ?_
  refine vw_iload_n hX 1 dX6_putCase_9 rfl ?_
  refine vw_imul hX dX6_putCase_10 ?_
  refine vw_iadd hX dX6_putCase_11 ?_
  refine vw_iload_n hX 2 dX6_putCase_12 rfl ?_
  refine vw_iadd hX dX6_putCase_13 ?_
  refine vw_iload_n hX 3 dX6_putCase_14 rfl ?_
  obtain ⟨n3, f2, hf2, hif2, h⟩ := h
  refine vw_iast hX hf2 hif2 dX6_putCase_15 ?_
  refine vw_nmW (fun w4 ew4 => ?_)
  have h := h w4 ew4
  exact vw_vret hX hE dX6_putCase_16 ⟨rfl, h⟩
def B_X6_appeals_44 (a0 : Nat) (a1 : Int32) (a2 : Int32) (K19 : Int32 → Int32 → Mm → Nat → Prop) (Q : Int32 → Mm → Nat → Prop) (x3 : Int32) (x4 : Int32) (w : Mm) (z : Nat) : Prop :=
  K19 x3 ((x4 + 1)) w z
set_option maxRecDepth 100000 in
set_option maxHeartbeats 4000000 in
theorem pB_X6_appeals_44 {C : Cx} {d : Nat} {a0 : Nat} {a1 : Int32} {a2 : Int32} {K19 : Int32 → Int32 → Mm → Nat → Prop} {Q : Int32 → Mm → Nat → Prop} {X : String → Mm → Nat → Prop} (hX : CX C cX6_appeals RX6 5 (some .int) [] (d + 1)) (hE : EQ C (rI Q) X) (hK19 : ∀ (x3 : Int32) (x4 : Int32) (w : Mm) (z mc ms : Nat), K19 x3 x4 w z → VW C 19 [(0, .ref (a0)), (1, .int (a1)), (2, .int (a2)), (3, .int (x3)), (4, .int (x4))] [] w z mc ms) : ∀ (x3 : Int32) (x4 : Int32) (w : Mm) (z mc ms : Nat), B_X6_appeals_44 a0 a1 a2 K19 Q x3 x4 w z → VW C 44 [(0, .ref (a0)), (1, .int (a1)), (2, .int (a2)), (3, .int (x3)), (4, .int (x4))] [] w z mc ms := by
  intro x3 x4 w z mc ms h
  unfold B_X6_appeals_44 at h
  refine vw_iinc hX 4 (v := x4 + 1) dX6_appeals_44 rfl rfl (by decide) rfl ?_
  refine vw_goto hX (tgt := 19) dX6_appeals_47 (by decide) ?_
  exact vw_sub [1, 2, 3, 4, 0] rfl (hK19 _ _ _ _ _ _ h)
def B_X6_appeals_19 (a0 : Nat) (a1 : Int32) (a2 : Int32) (Q : Int32 → Mm → Nat → Prop) : Nat → Int32 → Int32 → Mm → Nat → Prop
  | 0, _, _, _, _ => False
  | n + 1, x3, x4, w, z => ∃ q1, fld w a0 10 0 = some (.ref (q1)) ∧ ∃ n3 f2, arI w q1 0 = some (n3, f2) ∧ vp_in 4 n3 ∧ (((f2 (4 : Int32).toNatClampNeg)) ≤ x4 → Q x3 w z) ∧
  (¬ ((f2 (4 : Int32).toNatClampNeg)) ≤ x4 → isO w a0 10 ∧ F_X6_ofCase a0 x4 2 w z (fun r6 w7 z8 => (¬ r6 = 1 → B_X6_appeals_44 a0 a1 a2 (B_X6_appeals_19 a0 a1 a2 Q n) Q x3 x4 w7 z8) ∧
  (r6 = 1 → B_X6_appeals_44 a0 a1 a2 (B_X6_appeals_19 a0 a1 a2 Q n) Q ((x3 + 1)) x4 w7 z8)))
set_option maxRecDepth 100000 in
set_option maxHeartbeats 4000000 in
theorem pB_X6_appeals_19 {C : Cx} {d : Nat} {a0 : Nat} {a1 : Int32} {a2 : Int32} {Q : Int32 → Mm → Nat → Prop} {X : String → Mm → Nat → Prop} (hX : CX C cX6_appeals RX6 5 (some .int) [] (d + 1)) (hE : EQ C (rI Q) X) : ∀ (n : Nat) (x3 : Int32) (x4 : Int32) (w : Mm) (z mc ms : Nat), B_X6_appeals_19 a0 a1 a2 Q n x3 x4 w z → VW C 19 [(0, .ref (a0)), (1, .int (a1)), (2, .int (a2)), (3, .int (x3)), (4, .int (x4))] [] w z mc ms := by
  intro n
  induction n with
  | zero => intro x3 x4 w z mc ms h; exact False.elim h
  | succ n ih =>
    intro x3 x4 w z mc ms h
    unfold B_X6_appeals_19 at h
    refine vw_iload hX 4 dX6_appeals_19 rfl ?_
    refine vw_aload_n hX 0 dX6_appeals_21 rfl ?_
    obtain ⟨q1, hq1, h⟩ := h
    refine g_X6_9 hX hq1 dX6_appeals_22 ?_
    refine vw_iconst hX (v := 4) dX6_appeals_25 (by decide) ?_
    obtain ⟨n3, f2, hf2, hif2, h⟩ := h
    refine vw_iald hX hf2 hif2 dX6_appeals_26 ?_
    refine vw_icmp_ge hX (tgt := 50) dX6_appeals_27 (by decide) (fun c4 => ?_) (fun c4 => ?_)
    · have h := h.1 c4
      refine vw_iload_n hX 3 dX6_appeals_50 rfl ?_
      exact vw_iret hX hE dX6_appeals_51 ⟨_, rfl, h⟩
    · have h := h.2 c4
      refine vw_aload_n hX 0 dX6_appeals_30 rfl ?_
      refine vw_iload hX 4 dX6_appeals_31 rfl ?_
      refine vw_iconst hX (v := 2) dX6_appeals_33 (by decide) ?_
      obtain ⟨hr5, h⟩ := h
      refine s_X6_138 hX hr5 dX6_appeals_34 (Nat.le_of_ble_eq_true rfl) (ct_X6_ofCase (d := d + 0) (lst hX) h) (fun r6 w7 z8 h => ?_)
      refine vw_iconst hX (v := 1) dX6_appeals_37 (by decide) ?_
      refine vw_icmp_ne hX (tgt := 44) dX6_appeals_38 (by decide) (fun c9 => ?_) (fun c9 => ?_)
      · have h := h.1 c9
        exact pB_X6_appeals_44 hX hE ih _ _ _ _ _ _ h
      · have h := h.2 c9
        refine vw_iinc hX 3 (v := x3 + 1) dX6_appeals_41 rfl rfl (by decide) rfl ?_
        exact vw_sub [1, 2, 3, 0, 4] rfl (pB_X6_appeals_44 hX hE ih _ _ _ _ _ _ h)
def F_X6_appeals (a0 : Nat) (a1 : Int32) (a2 : Int32) (w : Mm) (z : Nat) (Q : Int32 → Mm → Nat → Prop) : Prop :=
  isO w a0 10 ∧ F_X6_putCase a0 a1 2 1 w z (fun w3 z4 => isO w3 a0 10 ∧ F_X6_putCase a0 a1 5 a2 w3 z4 (fun w7 z8 => ∃ n, B_X6_appeals_19 a0 a1 a2 Q n 0 0 w7 z8))
set_option maxRecDepth 100000 in
set_option maxHeartbeats 4000000 in
theorem ct_X6_appeals {l : Launch} {g : Gp} {d : Nat} (hst : l.stackTraces = false) {a0 : Nat} {a1 : Int32} {a2 : Int32} {w : Mm} {z mc ms : Nat} {Q : Int32 → Mm → Nat → Prop} {X : String → Mm → Nat → Prop} (h : F_X6_appeals a0 a1 a2 w z Q) : Ct l g yX6_appeals (.code yX6_appeals cX6_appeals 5 (some .int)) (d + 1) mc ms [.ref (a0), .int (a1), .int (a2)] w z (rI Q) X := by
  refine Ct.of hst (by decide) (Nat.le_of_ble_eq_true rfl) (fun C hX hE hg hl hNm => ?_)
  subst hg
  subst hl
  unfold F_X6_appeals at h
  show VW C 0 [(0, .ref (a0)), (1, .int (a1)), (2, .int (a2))] [] w z mc ms
  refine vw_aload_n hX 0 dX6_appeals_0 rfl ?_
  refine vw_iload_n hX 1 dX6_appeals_1 rfl ?_
  refine vw_iconst hX (v := 2) dX6_appeals_2 (by decide) ?_
  refine vw_iconst hX (v := 1) dX6_appeals_3 (by decide) ?_
  obtain ⟨hr1, h⟩ := h
  refine s_X6_135 hX hr1 dX6_appeals_4 (Nat.le_of_ble_eq_true rfl) (ct_X6_putCase (d := d + 0) (lst hX) h) (fun w3 z4 h => ?_)
  refine vw_aload_n hX 0 dX6_appeals_7 rfl ?_
  refine vw_iload_n hX 1 dX6_appeals_8 rfl ?_
  refine vw_iconst hX (v := 5) dX6_appeals_9 (by decide) ?_
  refine vw_iload_n hX 2 dX6_appeals_10 rfl ?_
  obtain ⟨hr5, h⟩ := h
  refine s_X6_135 hX hr5 dX6_appeals_11 (Nat.le_of_ble_eq_true rfl) (ct_X6_putCase (d := d + 0) (lst hX) h) (fun w7 z8 h => ?_)
  refine vw_iconst hX (v := 0) dX6_appeals_14 (by decide) ?_
  refine vw_istore_n hX dX6_appeals_15 (by decide) rfl ?_
  refine vw_iconst hX (v := 0) dX6_appeals_16 (by decide) ?_
  refine vw_istore hX dX6_appeals_17 (by decide) rfl ?_
  obtain ⟨n, h⟩ := h
  exact vw_sub [2, 3, 4, 1, 0] rfl (pB_X6_appeals_19 hX hE n _ _ _ _ _ _ h)
def B_X6_appealTold_53 (a0 : Nat) (Q : Mm → Nat → Prop) (x1 : Int32) (x2 : Int32) (y0 : Int32) (y1 : Nat) (w : Mm) (z : Nat) : Prop :=
  isO w y1 10 ∧ F_X6_ends y1 y0 w z (fun r2 w3 z4 => (r2 = 0 → Q w3 z4) ∧
  (¬ r2 = 0 → isO w3 a0 10 ∧ F_X6_appeals a0 x1 x2 w3 z4 (fun r7 w8 z9 => ∃ f10, obj w8 a0 10 = some f10 ∧ 20 < f10.length ∧ ∀ w11, w11 = mset w8 a0 (.inl (10, f10.set 20 (.int (r7)))) → Q w11 z9)))
set_option maxRecDepth 100000 in
set_option maxHeartbeats 4000000 in
theorem pB_X6_appealTold_53 {C : Cx} {d : Nat} {a0 : Nat} {Q : Mm → Nat → Prop} {X : String → Mm → Nat → Prop} (hX : CX C cX6_appealTold RX6 3 none [] (d + 5)) (hE : EQ C (rV Q) X) : ∀ (x1 : Int32) (x2 : Int32) (y0 : Int32) (y1 : Nat) (w : Mm) (z mc ms : Nat), B_X6_appealTold_53 a0 Q x1 x2 y0 y1 w z → VW C 53 [(0, .ref (a0)), (1, .int (x1)), (2, .int (x2))] [.int (y0), .ref (y1)] w z mc ms := by
  intro x1 x2 y0 y1 w z mc ms h
  unfold B_X6_appealTold_53 at h
  obtain ⟨hr1, h⟩ := h
  refine s_X6_230 hX hr1 dX6_appealTold_53 (Nat.le_of_ble_eq_true rfl) (ct_X6_ends (d := d + 3) (lst hX) h) (fun r2 w3 z4 h => ?_)
  refine vw_if_eq hX (tgt := 69) dX6_appealTold_56 (by decide) (fun c5 => ?_) (fun c5 => ?_)
  · have h := h.1 c5
    exact vw_vret hX hE dX6_appealTold_69 ⟨rfl, h⟩
  · have h := h.2 c5
    refine vw_aload_n hX 0 dX6_appealTold_59 rfl ?_
    refine vw_aload_n hX 0 dX6_appealTold_60 rfl ?_
    refine vw_iload_n hX 1 dX6_appealTold_61 rfl ?_
    refine vw_iload_n hX 2 dX6_appealTold_62 rfl ?_
    obtain ⟨hr6, h⟩ := h
    refine s_X6_253 hX hr6 dX6_appealTold_63 (Nat.le_of_ble_eq_true rfl) (ct_X6_appeals (d := d + 3) (lst hX) h) (fun r7 w8 z9 h => ?_)
    obtain ⟨f10, hf10, hlf10, h⟩ := h
    refine p_X6_238 hX hf10 hlf10 dX6_appealTold_66 ?_
    refine vw_nmW (fun w11 ew11 => ?_)
    have h := h w11 ew11
    exact vw_vret hX hE dX6_appealTold_69 ⟨rfl, h⟩
def B_X6_appealTold_48 (a0 : Nat) (Q : Mm → Nat → Prop) (x1 : Int32) (x2 : Int32) (y0 : Nat) (w : Mm) (z : Nat) : Prop :=
  B_X6_appealTold_53 a0 Q x1 x2 1 y0 w z
set_option maxRecDepth 100000 in
set_option maxHeartbeats 4000000 in
theorem pB_X6_appealTold_48 {C : Cx} {d : Nat} {a0 : Nat} {Q : Mm → Nat → Prop} {X : String → Mm → Nat → Prop} (hX : CX C cX6_appealTold RX6 3 none [] (d + 5)) (hE : EQ C (rV Q) X) : ∀ (x1 : Int32) (x2 : Int32) (y0 : Nat) (w : Mm) (z mc ms : Nat), B_X6_appealTold_48 a0 Q x1 x2 y0 w z → VW C 48 [(0, .ref (a0)), (1, .int (x1)), (2, .int (x2))] [.ref (y0)] w z mc ms := by
  intro x1 x2 y0 w z mc ms h
  unfold B_X6_appealTold_48 at h
  refine vw_iconst hX (v := 1) dX6_appealTold_48 (by decide) ?_
  refine vw_goto hX (tgt := 53) dX6_appealTold_49 (by decide) ?_
  exact pB_X6_appealTold_53 hX hE _ _ _ _ _ _ _ _ h
def F_X6_appealTold (a0 : Nat) (w : Mm) (z : Nat) (Q : Mm → Nat → Prop) : Prop :=
  isO w a0 10 ∧ F_X6_go a0 w z (fun w3 z4 => ∃ q5, fld w3 a0 10 0 = some (.ref (q5)) ∧ ∃ n7 f6, arI w3 q5 0 = some (n7, f6) ∧ vp_in 4 n7 ∧ isO w3 a0 10 ∧ F_X6_number a0 0 ((((f6 (4 : Int32).toNatClampNeg)) - 1)) w3 z4 (fun r9 w10 z11 => ∃ q12, fld w10 a0 10 0 = some (.ref (q12)) ∧ ∃ n14 f13, arI w10 q12 0 = some (n14, f13) ∧ vp_in 3 n14 ∧ isO w10 a0 10 ∧ F_X6_number a0 0 ((((f13 (3 : Int32).toNatClampNeg)) - 1)) w10 z11 (fun r16 w17 z18 => ∃ v19, fld w17 a0 10 19 = some (.int (v19)) ∧ (¬ v19 = 0 → B_X6_appealTold_48 a0 Q r9 r16 a0 w17 z18) ∧
  (v19 = 0 → isO w17 a0 10 ∧ F_X6_mayAppeal a0 r9 w17 z18 (fun r22 w23 z24 => (r22 = 0 → B_X6_appealTold_53 a0 Q r9 r16 0 a0 w23 z24) ∧
  (¬ r22 = 0 → B_X6_appealTold_48 a0 Q r9 r16 a0 w23 z24))))))
set_option maxRecDepth 100000 in
set_option maxHeartbeats 4000000 in
theorem ct_X6_appealTold {l : Launch} {g : Gp} {d : Nat} (hst : l.stackTraces = false) {a0 : Nat} {w : Mm} {z mc ms : Nat} {Q : Mm → Nat → Prop} {X : String → Mm → Nat → Prop} (h : F_X6_appealTold a0 w z Q) : Ct l g yX6_appealTold (.code yX6_appealTold cX6_appealTold 3 none) (d + 5) mc ms [.ref (a0)] w z (rV Q) X := by
  refine Ct.of hst (by decide) (Nat.le_of_ble_eq_true rfl) (fun C hX hE hg hl hNm => ?_)
  subst hg
  subst hl
  unfold F_X6_appealTold at h
  show VW C 0 [(0, .ref (a0))] [] w z mc ms
  refine vw_aload_n hX 0 dX6_appealTold_0 rfl ?_
  obtain ⟨hr1, h⟩ := h
  refine s_X6_197 hX hr1 dX6_appealTold_1 (Nat.le_of_ble_eq_true rfl) (ct_X6_go (d := d + 1) (lst hX) h) (fun w3 z4 h => ?_)
  refine vw_aload_n hX 0 dX6_appealTold_4 rfl ?_
  refine vw_iconst hX (v := 0) dX6_appealTold_5 (by decide) ?_
  refine vw_aload_n hX 0 dX6_appealTold_6 rfl ?_
  obtain ⟨q5, hq5, h⟩ := h
  refine g_X6_9 hX hq5 dX6_appealTold_7 ?_
  refine vw_iconst hX (v := 4) dX6_appealTold_10 (by decide) ?_
  obtain ⟨n7, f6, hf6, hif6, h⟩ := h
  refine vw_iald hX hf6 hif6 dX6_appealTold_11 ?_
  refine vw_iconst hX (v := 1) dX6_appealTold_12 (by decide) ?_
  refine vw_isub hX dX6_appealTold_13 ?_
  obtain ⟨hr8, h⟩ := h
  refine s_X6_213 hX hr8 dX6_appealTold_14 (Nat.le_of_ble_eq_true rfl) (ct_X6_number (d := d + 0) (lst hX) h) (fun r9 w10 z11 h => ?_)
  refine vw_istore_n hX dX6_appealTold_17 (by decide) rfl ?_
  refine vw_aload_n hX 1 dX6_appealTold_18 rfl ?_
  refine vw_iconst hX (v := 0) dX6_appealTold_19 (by decide) ?_
  refine vw_aload_n hX 1 dX6_appealTold_20 rfl ?_
  obtain ⟨q12, hq12, h⟩ := h
  refine g_X6_9 hX hq12 dX6_appealTold_21 ?_
  refine vw_iconst hX (v := 3) dX6_appealTold_24 (by decide) ?_
  obtain ⟨n14, f13, hf13, hif13, h⟩ := h
  refine vw_iald hX hf13 hif13 dX6_appealTold_25 ?_
  refine vw_iconst hX (v := 1) dX6_appealTold_26 (by decide) ?_
  refine vw_isub hX dX6_appealTold_27 ?_
  obtain ⟨hr15, h⟩ := h
  refine s_X6_213 hX hr15 dX6_appealTold_28 (Nat.le_of_ble_eq_true rfl) (ct_X6_number (d := d + 0) (lst hX) h) (fun r16 w17 z18 h => ?_)
  refine vw_istore_n hX dX6_appealTold_31 (by decide) rfl ?_
  refine vw_aload_n hX 2 dX6_appealTold_32 rfl ?_
  refine vw_aload_n hX 2 dX6_appealTold_33 rfl ?_
  obtain ⟨v19, hv19, h⟩ := h
  refine g_X6_180 hX hv19 dX6_appealTold_34 ?_
  refine vw_if_ne hX (tgt := 48) dX6_appealTold_37 (by decide) (fun c20 => ?_) (fun c20 => ?_)
  · have h := h.1 c20
    exact vw_sub [2, 1, 0] rfl (pB_X6_appealTold_48 hX hE _ _ _ _ _ _ _ h)
  · have h := h.2 c20
    refine vw_aload_n hX 2 dX6_appealTold_40 rfl ?_
    refine vw_iload_n hX 1 dX6_appealTold_41 rfl ?_
    obtain ⟨hr21, h⟩ := h
    refine s_X6_250 hX hr21 dX6_appealTold_42 (Nat.le_of_ble_eq_true rfl) (ct_X6_mayAppeal (d := d + 2) (lst hX) h) (fun r22 w23 z24 h => ?_)
    refine vw_if_eq hX (tgt := 52) dX6_appealTold_45 (by decide) (fun c25 => ?_) (fun c25 => ?_)
    · have h := h.1 c25
      refine vw_iconst hX (v := 0) dX6_appealTold_52 (by decide) ?_
      exact vw_sub [2, 1, 0] rfl (pB_X6_appealTold_53 hX hE _ _ _ _ _ _ _ _ h)
    · have h := h.2 c25
      exact vw_sub [2, 1, 0] rfl (pB_X6_appealTold_48 hX hE _ _ _ _ _ _ _ h)
def F_X6_mayInspect (a0 : Nat) (a1 : Int32) (w : Mm) (z : Nat) (Q : Int32 → Mm → Nat → Prop) : Prop :=
  isO w a0 10 ∧ F_X6_rides a0 a1 w z (fun r2 w3 z4 => (r2 = 0 → Q 0 w3 z4) ∧
  (¬ r2 = 0 → isO w3 a0 10 ∧ F_X6_ofPassenger a0 a1 5 w3 z4 (fun r7 w8 z9 => (¬ r7 = 0 → Q 0 w8 z9) ∧
  (r7 = 0 → ∃ q11, fld w8 a0 10 0 = some (.ref (q11)) ∧ ∃ n13 f12, arI w8 q11 0 = some (n13, f12) ∧ vp_in 4 n13 ∧ (20 ≤ ((f12 (4 : Int32).toNatClampNeg)) → Q 0 w8 z9) ∧
  (¬ 20 ≤ ((f12 (4 : Int32).toNatClampNeg)) → Q 1 w8 z9)))))
set_option maxRecDepth 100000 in
set_option maxHeartbeats 4000000 in
theorem ct_X6_mayInspect {l : Launch} {g : Gp} {d : Nat} (hst : l.stackTraces = false) {a0 : Nat} {a1 : Int32} {w : Mm} {z mc ms : Nat} {Q : Int32 → Mm → Nat → Prop} {X : String → Mm → Nat → Prop} (h : F_X6_mayInspect a0 a1 w z Q) : Ct l g yX6_mayInspect (.code yX6_mayInspect cX6_mayInspect 2 (some .boolean)) (d + 2) mc ms [.ref (a0), .int (a1)] w z (rI Q) X := by
  refine Ct.of hst (by decide) (Nat.le_of_ble_eq_true rfl) (fun C hX hE hg hl hNm => ?_)
  subst hg
  subst hl
  unfold F_X6_mayInspect at h
  show VW C 0 [(0, .ref (a0)), (1, .int (a1))] [] w z mc ms
  refine vw_aload_n hX 0 dX6_mayInspect_0 rfl ?_
  refine vw_iload_n hX 1 dX6_mayInspect_1 rfl ?_
  obtain ⟨hr1, h⟩ := h
  refine s_X6_112 hX hr1 dX6_mayInspect_2 (Nat.le_of_ble_eq_true rfl) (ct_X6_rides (d := d + 0) (lst hX) h) (fun r2 w3 z4 h => ?_)
  refine vw_if_eq hX (tgt := 32) dX6_mayInspect_5 (by decide) (fun c5 => ?_) (fun c5 => ?_)
  · have h := h.1 c5
    refine vw_iconst hX (v := 0) dX6_mayInspect_32 (by decide) ?_
    exact vw_zret hX hE dX6_mayInspect_33 rfl ⟨_, rfl, h⟩
  · have h := h.2 c5
    refine vw_aload_n hX 0 dX6_mayInspect_8 rfl ?_
    refine vw_iload_n hX 1 dX6_mayInspect_9 rfl ?_
    refine vw_iconst hX (v := 5) dX6_mayInspect_10 (by decide) ?_
    obtain ⟨hr6, h⟩ := h
    refine s_X6_102 hX hr6 dX6_mayInspect_11 (Nat.le_of_ble_eq_true rfl) (ct_X6_ofPassenger (d := d + 1) (lst hX) h) (fun r7 w8 z9 h => ?_)
    refine vw_if_ne hX (tgt := 32) dX6_mayInspect_14 (by decide) (fun c10 => ?_) (fun c10 => ?_)
    · have h := h.1 c10
      refine vw_iconst hX (v := 0) dX6_mayInspect_32 (by decide) ?_
      exact vw_zret hX hE dX6_mayInspect_33 rfl ⟨_, rfl, h⟩
    · have h := h.2 c10
      refine vw_aload_n hX 0 dX6_mayInspect_17 rfl ?_
      obtain ⟨q11, hq11, h⟩ := h
      refine g_X6_9 hX hq11 dX6_mayInspect_18 ?_
      refine vw_iconst hX (v := 4) dX6_mayInspect_21 (by decide) ?_
      obtain ⟨n13, f12, hf12, hif12, h⟩ := h
      refine vw_iald hX hf12 hif12 dX6_mayInspect_22 ?_
      refine vw_bipush hX (v := 20) dX6_mayInspect_23 (by decide) ?_
      refine vw_icmp_ge hX (tgt := 32) dX6_mayInspect_25 (by decide) (fun c14 => ?_) (fun c14 => ?_)
      · have h := h.1 c14
        refine vw_iconst hX (v := 0) dX6_mayInspect_32 (by decide) ?_
        exact vw_zret hX hE dX6_mayInspect_33 rfl ⟨_, rfl, h⟩
      · have h := h.2 c14
        refine vw_iconst hX (v := 1) dX6_mayInspect_28 (by decide) ?_
        refine vw_goto hX (tgt := 33) dX6_mayInspect_29 (by decide) ?_
        exact vw_zret hX hE dX6_mayInspect_33 rfl ⟨_, rfl, h⟩
def B_X6_inTime_72 (a0 : Nat) (a1 : Int32) (Q : Int32 → Mm → Nat → Prop) (y0 : Int32) (y1 : Int32) (w : Mm) (z : Nat) : Prop :=
  (y0 ≤ y1 → Q 0 w z) ∧
  (¬ y0 ≤ y1 → Q 1 w z)
set_option maxRecDepth 100000 in
set_option maxHeartbeats 4000000 in
theorem pB_X6_inTime_72 {C : Cx} {d : Nat} {a0 : Nat} {a1 : Int32} {Q : Int32 → Mm → Nat → Prop} {X : String → Mm → Nat → Prop} (hX : CX C cX6_inTime RX6 3 (some .boolean) [] (d + 1)) (hE : EQ C (rI Q) X) : ∀ (y0 : Int32) (y1 : Int32) (w : Mm) (z mc ms : Nat), B_X6_inTime_72 a0 a1 Q y0 y1 w z → VW C 72 [(0, .ref (a0)), (1, .int (a1))] [.int (y0), .int (y1)] w z mc ms := by
  intro y0 y1 w z mc ms h
  unfold B_X6_inTime_72 at h
  refine vw_icmp_ge hX (tgt := 79) dX6_inTime_72 (by decide) (fun c1 => ?_) (fun c1 => ?_)
  · have h := h.1 c1
    refine vw_iconst hX (v := 0) dX6_inTime_79 (by decide) ?_
    exact vw_zret hX hE dX6_inTime_80 rfl ⟨_, rfl, h⟩
  · have h := h.2 c1
    refine vw_iconst hX (v := 1) dX6_inTime_75 (by decide) ?_
    refine vw_goto hX (tgt := 80) dX6_inTime_76 (by decide) ?_
    exact vw_zret hX hE dX6_inTime_80 rfl ⟨_, rfl, h⟩
def F_X6_inTime (a0 : Nat) (a1 : Int32) (w : Mm) (z : Nat) (Q : Int32 → Mm → Nat → Prop) : Prop :=
  isO w a0 10 ∧ F_X6_ofTicket a0 a1 3 w z (fun r2 w3 z4 => (¬ r2 = (-1) → isO w3 a0 10 ∧ F_X6_ofTicket a0 a1 1 w3 z4 (fun r7 w8 z9 => (¬ r7 = 1 → ∃ q11, fld w8 a0 10 0 = some (.ref (q11)) ∧ ∃ n13 f12, arI w8 q11 0 = some (n13, f12) ∧ vp_in 0 n13 ∧ isO w8 a0 10 ∧ F_X6_ofTicket a0 a1 1 w8 z9 (fun r15 w16 z17 => (¬ r15 = 0 → B_X6_inTime_72 a0 a1 Q 30 ((((f12 (0 : Int32).toNatClampNeg)) - r2)) w16 z17) ∧
  (r15 = 0 → B_X6_inTime_72 a0 a1 Q 60 ((((f12 (0 : Int32).toNatClampNeg)) - r2)) w16 z17))) ∧
  (r7 = 1 → ∃ q19, fld w8 a0 10 0 = some (.ref (q19)) ∧ ∃ n21 f20, arI w8 q19 0 = some (n21, f20) ∧ vp_in 0 n21 ∧ (¬ ((((f20 (0 : Int32).toNatClampNeg)) / 1440)) = ((r2 / 1440)) → Q 0 w8 z9) ∧
  (((((f20 (0 : Int32).toNatClampNeg)) / 1440)) = ((r2 / 1440)) → Q 1 w8 z9)))) ∧
  (r2 = (-1) → Q 1 w3 z4))
set_option maxRecDepth 100000 in
set_option maxHeartbeats 4000000 in
theorem ct_X6_inTime {l : Launch} {g : Gp} {d : Nat} (hst : l.stackTraces = false) {a0 : Nat} {a1 : Int32} {w : Mm} {z mc ms : Nat} {Q : Int32 → Mm → Nat → Prop} {X : String → Mm → Nat → Prop} (h : F_X6_inTime a0 a1 w z Q) : Ct l g yX6_inTime (.code yX6_inTime cX6_inTime 3 (some .boolean)) (d + 1) mc ms [.ref (a0), .int (a1)] w z (rI Q) X := by
  refine Ct.of hst (by decide) (Nat.le_of_ble_eq_true rfl) (fun C hX hE hg hl hNm => ?_)
  subst hg
  subst hl
  unfold F_X6_inTime at h
  show VW C 0 [(0, .ref (a0)), (1, .int (a1))] [] w z mc ms
  refine vw_aload_n hX 0 dX6_inTime_0 rfl ?_
  refine vw_iload_n hX 1 dX6_inTime_1 rfl ?_
  refine vw_iconst hX (v := 3) dX6_inTime_2 (by decide) ?_
  obtain ⟨hr1, h⟩ := h
  refine s_X6_96 hX hr1 dX6_inTime_3 (Nat.le_of_ble_eq_true rfl) (ct_X6_ofTicket (d := d + 0) (lst hX) h) (fun r2 w3 z4 h => ?_)
  refine vw_istore_n hX dX6_inTime_6 (by decide) rfl ?_
  refine vw_iload_n hX 0 dX6_inTime_7 rfl ?_
  refine vw_iconst hX (v := (-1)) dX6_inTime_8 (by decide) ?_
  refine vw_icmp_ne hX (tgt := 14) dX6_inTime_9 (by decide) (fun c5 => ?_) (fun c5 => ?_)
  · have h := h.1 c5
    refine vw_aload_n hX 1 dX6_inTime_14 rfl ?_
    refine vw_iload_n hX 2 dX6_inTime_15 rfl ?_
    refine vw_iconst hX (v := 1) dX6_inTime_16 (by decide) ?_
    obtain ⟨hr6, h⟩ := h
    refine s_X6_96 hX hr6 dX6_inTime_17 (Nat.le_of_ble_eq_true rfl) (ct_X6_ofTicket (d := d + 0) (lst hX) h) (fun r7 w8 z9 h => ?_)
    refine vw_iconst hX (v := 1) dX6_inTime_20 (by decide) ?_
    refine vw_icmp_ne hX (tgt := 48) dX6_inTime_21 (by decide) (fun c10 => ?_) (fun c10 => ?_)
    · have h := h.1 c10
      refine vw_aload_n hX 1 dX6_inTime_48 rfl ?_
      obtain ⟨q11, hq11, h⟩ := h
      refine g_X6_9 hX hq11 dX6_inTime_49 ?_
      refine vw_iconst hX (v := 0) dX6_inTime_52 (by decide) ?_
      obtain ⟨n13, f12, hf12, hif12, h⟩ := h
      refine vw_iald hX hf12 hif12 dX6_inTime_53 ?_
      refine vw_iload_n hX 0 dX6_inTime_54 rfl ?_
      refine vw_isub hX dX6_inTime_55 ?_
      refine vw_aload_n hX 1 dX6_inTime_56 rfl ?_
      refine vw_iload_n hX 2 dX6_inTime_57 rfl ?_
      refine vw_iconst hX (v := 1) dX6_inTime_58 (by decide) ?_
      obtain ⟨hr14, h⟩ := h
      refine s_X6_96 hX hr14 dX6_inTime_59 (Nat.le_of_ble_eq_true rfl) (ct_X6_ofTicket (d := d + 0) (lst hX) h) (fun r15 w16 z17 h => ?_)
      refine vw_if_ne hX (tgt := 70) dX6_inTime_62 (by decide) (fun c18 => ?_) (fun c18 => ?_)
      · have h := h.1 c18
        refine vw_bipush hX (v := 30) dX6_inTime_70 (by decide) ?_
        exact vw_sub [1, 2] rfl (pB_X6_inTime_72 hX hE _ _ _ _ _ _ h)
      · have h := h.2 c18
        refine vw_bipush hX (v := 60) dX6_inTime_65 (by decide) ?_
        refine vw_goto hX (tgt := 72) dX6_inTime_67 (by decide) ?_
        exact vw_sub [1, 2] rfl (pB_X6_inTime_72 hX hE _ _ _ _ _ _ h)
    · have h := h.2 c10
      refine vw_aload_n hX 1 dX6_inTime_24 rfl ?_
      obtain ⟨q19, hq19, h⟩ := h
      refine g_X6_9 hX hq19 dX6_inTime_25 ?_
      refine vw_iconst hX (v := 0) dX6_inTime_28 (by decide) ?_
      obtain ⟨n21, f20, hf20, hif20, h⟩ := h
      refine vw_iald hX hf20 hif20 dX6_inTime_29 ?_
      refine vw_sipush hX (v := 1440) dX6_inTime_30 (by decide) ?_
      refine vw_idiv hX dX6_inTime_33 (by decide) ?_
      refine vw_iload_n hX 0 dX6_inTime_34 rfl ?_
      refine vw_sipush hX (v := 1440) dX6_inTime_35 (by decide) ?_
      refine vw_idiv hX dX6_inTime_38 (by decide) ?_
      refine vw_icmp_ne hX (tgt := 46) dX6_inTime_39 (by decide) (fun c22 => ?_) (fun c22 => ?_)
      · have h := h.1 c22
        refine vw_iconst hX (v := 0) dX6_inTime_46 (by decide) ?_
        exact vw_zret hX hE dX6_inTime_47 rfl ⟨_, rfl, h⟩
      · have h := h.2 c22
        refine vw_iconst hX (v := 1) dX6_inTime_42 (by decide) ?_
        refine vw_goto hX (tgt := 47) dX6_inTime_43 (by decide) ?_
        exact vw_zret hX hE dX6_inTime_47 rfl ⟨_, rfl, h⟩
  · have h := h.2 c5
    refine vw_iconst hX (v := 1) dX6_inTime_12 (by decide) ?_
    exact vw_zret hX hE dX6_inTime_13 rfl ⟨_, rfl, h⟩
def B_X6_zones_9 (a0 : Nat) (a1 : Int32) (a2 : Int32) (Q : Int32 → Mm → Nat → Prop) : Nat → Int32 → Int32 → Mm → Nat → Prop
  | 0, _, _, _, _ => False
  | n + 1, x3, x4, w, z => (((jmax a1 a2)) < x4 → Q x3 w z) ∧
  (¬ ((jmax a1 a2)) < x4 → ∃ q2, fld w a0 10 0 = some (.ref (q2)) ∧ ∃ n4 f3, arI w q2 0 = some (n4, f3) ∧ vp_in ((9 + x4)) n4 ∧ ∀ i5 : Int32, i5 = (x3 ||| ((1 <<< (((f3 ((9 + x4) : Int32).toNatClampNeg)) &&& 31)))) → B_X6_zones_9 a0 a1 a2 Q n i5 ((x4 + 1)) w z)
set_option maxRecDepth 100000 in
set_option maxHeartbeats 4000000 in
theorem pB_X6_zones_9 {C : Cx} {d : Nat} {a0 : Nat} {a1 : Int32} {a2 : Int32} {Q : Int32 → Mm → Nat → Prop} {X : String → Mm → Nat → Prop} (hX : CX C cX6_zones RX6 5 (some .int) [] (d + 1)) (hE : EQ C (rI Q) X) : ∀ (n : Nat) (x3 : Int32) (x4 : Int32) (w : Mm) (z mc ms : Nat), B_X6_zones_9 a0 a1 a2 Q n x3 x4 w z → VW C 9 [(0, .ref (a0)), (1, .int (a1)), (2, .int (a2)), (3, .int (x3)), (4, .int (x4))] [] w z mc ms := by
  intro n
  induction n with
  | zero => intro x3 x4 w z mc ms h; exact False.elim h
  | succ n ih =>
    intro x3 x4 w z mc ms h
    unfold B_X6_zones_9 at h
    refine vw_iload hX 4 dX6_zones_9 rfl ?_
    refine vw_iload_n hX 1 dX6_zones_11 rfl ?_
    refine vw_iload_n hX 2 dX6_zones_12 rfl ?_
    refine vw_mmax hX kw_1768 (Nat.le_of_ble_eq_true rfl) dX6_zones_13 ?_
    refine vw_icmp_gt hX (tgt := 40) dX6_zones_16 (by decide) (fun c1 => ?_) (fun c1 => ?_)
    · have h := h.1 c1
      refine vw_iload_n hX 3 dX6_zones_40 rfl ?_
      exact vw_iret hX hE dX6_zones_41 ⟨_, rfl, h⟩
    · have h := h.2 c1
      refine vw_iload_n hX 3 dX6_zones_19 rfl ?_
      refine vw_iconst hX (v := 1) dX6_zones_20 (by decide) ?_
      refine vw_aload_n hX 0 dX6_zones_21 rfl ?_
      obtain ⟨q2, hq2, h⟩ := h
      refine g_X6_9 hX hq2 dX6_zones_22 ?_
      refine vw_bipush hX (v := 9) dX6_zones_25 (by decide) ?_
      refine vw_iload hX 4 dX6_zones_27 rfl ?_
      refine vw_iadd hX dX6_zones_29 ?_
      obtain ⟨n4, f3, hf3, hif3, h⟩ := h
      refine vw_iald hX hf3 hif3 dX6_zones_30 ?_
      refine vw_ishl hX dX6_zones_31 ?_
      refine vw_ior hX dX6_zones_32 ?_
      refine vw_nmI (fun i5 ei5 => ?_)
      have h := h i5 ei5
      refine vw_istore_n hX dX6_zones_33 (by decide) rfl ?_
      refine vw_iinc hX 4 (v := x4 + 1) dX6_zones_34 rfl rfl (by decide) rfl ?_
      refine vw_goto hX (tgt := 9) dX6_zones_37 (by decide) ?_
      exact vw_sub [2, 3, 4, 1, 0] rfl (ih _ _ _ _ _ _ h)
def F_X6_zones (a0 : Nat) (a1 : Int32) (a2 : Int32) (w : Mm) (z : Nat) (Q : Int32 → Mm → Nat → Prop) : Prop :=
  ∀ i1 : Int32, i1 = (jmin a1 a2) → ∃ n, B_X6_zones_9 a0 a1 a2 Q n 0 i1 w z
set_option maxRecDepth 100000 in
set_option maxHeartbeats 4000000 in
theorem ct_X6_zones {l : Launch} {g : Gp} {d : Nat} (hst : l.stackTraces = false) {a0 : Nat} {a1 : Int32} {a2 : Int32} {w : Mm} {z mc ms : Nat} {Q : Int32 → Mm → Nat → Prop} {X : String → Mm → Nat → Prop} (h : F_X6_zones a0 a1 a2 w z Q) : Ct l g yX6_zones (.code yX6_zones cX6_zones 5 (some .int)) (d + 1) mc ms [.ref (a0), .int (a1), .int (a2)] w z (rI Q) X := by
  refine Ct.of hst (by decide) (Nat.le_of_ble_eq_true rfl) (fun C hX hE hg hl hNm => ?_)
  subst hg
  subst hl
  unfold F_X6_zones at h
  show VW C 0 [(0, .ref (a0)), (1, .int (a1)), (2, .int (a2))] [] w z mc ms
  refine vw_iconst hX (v := 0) dX6_zones_0 (by decide) ?_
  refine vw_istore_n hX dX6_zones_1 (by decide) rfl ?_
  refine vw_iload_n hX 2 dX6_zones_2 rfl ?_
  refine vw_iload_n hX 3 dX6_zones_3 rfl ?_
  refine vw_mmin hX kw_1607 (Nat.le_of_ble_eq_true rfl) dX6_zones_4 ?_
  refine vw_nmI (fun i1 ei1 => ?_)
  have h := h i1 ei1
  refine vw_istore hX dX6_zones_7 (by decide) rfl ?_
  obtain ⟨n, h⟩ := h
  exact vw_sub [2, 3, 4, 1, 0] rfl (pB_X6_zones_9 hX hE n _ _ _ _ _ _ h)
def F_X6_rideZones (a0 : Nat) (a1 : Int32) (w : Mm) (z : Nat) (Q : Int32 → Mm → Nat → Prop) : Prop :=
  isO w a0 10 ∧ F_X6_ofPassenger a0 a1 1 w z (fun r2 w3 z4 => isO w3 a0 10 ∧ F_X6_ofPassenger a0 a1 2 w3 z4 (fun r6 w7 z8 => isO w7 a0 10 ∧ F_X6_zones a0 r2 r6 w7 z8 (fun r10 w11 z12 => Q r10 w11 z12)))
set_option maxRecDepth 100000 in
set_option maxHeartbeats 4000000 in
theorem ct_X6_rideZones {l : Launch} {g : Gp} {d : Nat} (hst : l.stackTraces = false) {a0 : Nat} {a1 : Int32} {w : Mm} {z mc ms : Nat} {Q : Int32 → Mm → Nat → Prop} {X : String → Mm → Nat → Prop} (h : F_X6_rideZones a0 a1 w z Q) : Ct l g yX6_rideZones (.code yX6_rideZones cX6_rideZones 2 (some .int)) (d + 2) mc ms [.ref (a0), .int (a1)] w z (rI Q) X := by
  refine Ct.of hst (by decide) (Nat.le_of_ble_eq_true rfl) (fun C hX hE hg hl hNm => ?_)
  subst hg
  subst hl
  unfold F_X6_rideZones at h
  show VW C 0 [(0, .ref (a0)), (1, .int (a1))] [] w z mc ms
  refine vw_aload_n hX 0 dX6_rideZones_0 rfl ?_
  refine vw_aload_n hX 0 dX6_rideZones_1 rfl ?_
  refine vw_iload_n hX 1 dX6_rideZones_2 rfl ?_
  refine vw_iconst hX (v := 1) dX6_rideZones_3 (by decide) ?_
  obtain ⟨hr1, h⟩ := h
  refine s_X6_102 hX hr1 dX6_rideZones_4 (Nat.le_of_ble_eq_true rfl) (ct_X6_ofPassenger (d := d + 1) (lst hX) h) (fun r2 w3 z4 h => ?_)
  refine vw_aload_n hX 0 dX6_rideZones_7 rfl ?_
  refine vw_iload_n hX 1 dX6_rideZones_8 rfl ?_
  refine vw_iconst hX (v := 2) dX6_rideZones_9 (by decide) ?_
  obtain ⟨hr5, h⟩ := h
  refine s_X6_102 hX hr5 dX6_rideZones_10 (Nat.le_of_ble_eq_true rfl) (ct_X6_ofPassenger (d := d + 1) (lst hX) h) (fun r6 w7 z8 h => ?_)
  obtain ⟨hr9, h⟩ := h
  refine s_X6_119 hX hr9 dX6_rideZones_13 (Nat.le_of_ble_eq_true rfl) (ct_X6_zones (d := d + 0) (lst hX) h) (fun r10 w11 z12 h => ?_)
  exact vw_iret hX hE dX6_rideZones_16 ⟨_, rfl, h⟩
def F_X6_covers (a0 : Int32) (a1 : Int32) (w : Mm) (z : Nat) (Q : Int32 → Mm → Nat → Prop) : Prop :=
  (¬ ((a1 &&& ((a0 ^^^ (-1))))) = 0 → Q 0 w z) ∧
  (((a1 &&& ((a0 ^^^ (-1))))) = 0 → Q 1 w z)
set_option maxRecDepth 100000 in
set_option maxHeartbeats 4000000 in
theorem ct_X6_covers {l : Launch} {g : Gp} {d : Nat} (hst : l.stackTraces = false) {a0 : Int32} {a1 : Int32} {w : Mm} {z mc ms : Nat} {Q : Int32 → Mm → Nat → Prop} {X : String → Mm → Nat → Prop} (h : F_X6_covers a0 a1 w z Q) : Ct l g yX6_covers (.code yX6_covers cX6_covers 2 (some .boolean)) (d + 0) mc ms [.int (a0), .int (a1)] w z (rI Q) X := by
  refine Ct.of hst (by decide) (Nat.le_of_ble_eq_true rfl) (fun C hX hE hg hl hNm => ?_)
  subst hg
  subst hl
  unfold F_X6_covers at h
  show VW C 0 [(0, .int (a0)), (1, .int (a1))] [] w z mc ms
  refine vw_iload_n hX 1 dX6_covers_0 rfl ?_
  refine vw_iload_n hX 0 dX6_covers_1 rfl ?_
  refine vw_iconst hX (v := (-1)) dX6_covers_2 (by decide) ?_
  refine vw_ixor hX dX6_covers_3 ?_
  refine vw_iand hX dX6_covers_4 ?_
  refine vw_if_ne hX (tgt := 12) dX6_covers_5 (by decide) (fun c1 => ?_) (fun c1 => ?_)
  · have h := h.1 c1
    refine vw_iconst hX (v := 0) dX6_covers_12 (by decide) ?_
    exact vw_zret hX hE dX6_covers_13 rfl ⟨_, rfl, h⟩
  · have h := h.2 c1
    refine vw_iconst hX (v := 1) dX6_covers_8 (by decide) ?_
    refine vw_goto hX (tgt := 13) dX6_covers_9 (by decide) ?_
    exact vw_zret hX hE dX6_covers_13 rfl ⟨_, rfl, h⟩
def B_X6_fault_76 (a0 : Nat) (a1 : Int32) (Q : Int32 → Mm → Nat → Prop) (x2 : Int32) (w : Mm) (z : Nat) : Prop :=
  isO w a0 10 ∧ F_X6_ofTicket a0 x2 1 w z (fun r2 w3 z4 => (¬ r2 = 2 → Q 0 w3 z4) ∧
  (r2 = 2 → isO w3 a0 10 ∧ F_X6_ofPassenger a0 a1 2 w3 z4 (fun r7 w8 z9 => isO w8 a0 10 ∧ F_X6_ofTicket a0 x2 4 w8 z9 (fun r11 w12 z13 => (((jabs ((r7 - r11)))) ≤ 4 → Q 0 w12 z13) ∧
  (¬ ((jabs ((r7 - r11)))) ≤ 4 → Q 5 w12 z13)))))
set_option maxRecDepth 100000 in
set_option maxHeartbeats 4000000 in
theorem pB_X6_fault_76 {C : Cx} {d : Nat} {a0 : Nat} {a1 : Int32} {Q : Int32 → Mm → Nat → Prop} {X : String → Mm → Nat → Prop} (hX : CX C cX6_fault RX6 3 (some .int) [] (d + 3)) (hE : EQ C (rI Q) X) : ∀ (x2 : Int32) (w : Mm) (z mc ms : Nat), B_X6_fault_76 a0 a1 Q x2 w z → VW C 76 [(0, .ref (a0)), (1, .int (a1)), (2, .int (x2))] [] w z mc ms := by
  intro x2 w z mc ms h
  unfold B_X6_fault_76 at h
  refine vw_aload_n hX 0 dX6_fault_76 rfl ?_
  refine vw_iload_n hX 2 dX6_fault_77 rfl ?_
  refine vw_iconst hX (v := 1) dX6_fault_78 (by decide) ?_
  obtain ⟨hr1, h⟩ := h
  refine s_X6_96 hX hr1 dX6_fault_79 (Nat.le_of_ble_eq_true rfl) (ct_X6_ofTicket (d := d + 2) (lst hX) h) (fun r2 w3 z4 h => ?_)
  refine vw_iconst hX (v := 2) dX6_fault_82 (by decide) ?_
  refine vw_icmp_ne hX (tgt := 110) dX6_fault_83 (by decide) (fun c5 => ?_) (fun c5 => ?_)
  · have h := h.1 c5
    refine vw_iconst hX (v := 0) dX6_fault_110 (by decide) ?_
    exact vw_iret hX hE dX6_fault_111 ⟨_, rfl, h⟩
  · have h := h.2 c5
    refine vw_aload_n hX 0 dX6_fault_86 rfl ?_
    refine vw_iload_n hX 1 dX6_fault_87 rfl ?_
    refine vw_iconst hX (v := 2) dX6_fault_88 (by decide) ?_
    obtain ⟨hr6, h⟩ := h
    refine s_X6_102 hX hr6 dX6_fault_89 (Nat.le_of_ble_eq_true rfl) (ct_X6_ofPassenger (d := d + 2) (lst hX) h) (fun r7 w8 z9 h => ?_)
    refine vw_aload_n hX 0 dX6_fault_92 rfl ?_
    refine vw_iload_n hX 2 dX6_fault_93 rfl ?_
    refine vw_iconst hX (v := 4) dX6_fault_94 (by decide) ?_
    obtain ⟨hr10, h⟩ := h
    refine s_X6_96 hX hr10 dX6_fault_95 (Nat.le_of_ble_eq_true rfl) (ct_X6_ofTicket (d := d + 2) (lst hX) h) (fun r11 w12 z13 h => ?_)
    refine vw_isub hX dX6_fault_98 ?_
    refine vw_mabs hX kw_1717 (Nat.le_of_ble_eq_true rfl) dX6_fault_99 ?_
    refine vw_iconst hX (v := 4) dX6_fault_102 (by decide) ?_
    refine vw_icmp_le hX (tgt := 110) dX6_fault_103 (by decide) (fun c14 => ?_) (fun c14 => ?_)
    · have h := h.1 c14
      refine vw_iconst hX (v := 0) dX6_fault_110 (by decide) ?_
      exact vw_iret hX hE dX6_fault_111 ⟨_, rfl, h⟩
    · have h := h.2 c14
      refine vw_iconst hX (v := 5) dX6_fault_106 (by decide) ?_
      refine vw_goto hX (tgt := 111) dX6_fault_107 (by decide) ?_
      exact vw_iret hX hE dX6_fault_111 ⟨_, rfl, h⟩
def F_X6_fault (a0 : Nat) (a1 : Int32) (w : Mm) (z : Nat) (Q : Int32 → Mm → Nat → Prop) : Prop :=
  isO w a0 10 ∧ F_X6_ofPassenger a0 a1 3 w z (fun r2 w3 z4 => (¬ r2 = (-1) → isO w3 a0 10 ∧ F_X6_ofPassenger a0 a1 4 w3 z4 (fun r7 w8 z9 => (¬ r7 = (-1) → isO w8 a0 10 ∧ F_X6_inTime a0 r7 w8 z9 (fun r12 w13 z14 => (¬ r12 = 0 → isO w13 a0 10 ∧ F_X6_ofTicket a0 r7 2 w13 z14 (fun r17 w18 z19 => isO w18 a0 10 ∧ F_X6_rideZones a0 a1 w18 z19 (fun r21 w22 z23 => F_X6_covers r17 r21 w22 z23 (fun r24 w25 z26 => (¬ r24 = 0 → isO w25 a0 10 ∧ F_X6_ofTicket a0 r7 1 w25 z26 (fun r29 w30 z31 => (¬ r29 = 0 → B_X6_fault_76 a0 a1 Q r7 w30 z31) ∧
  (r29 = 0 → isO w30 a0 10 ∧ F_X6_ofTicket a0 r7 5 w30 z31 (fun r34 w35 z36 => (r34 ≤ 3 → B_X6_fault_76 a0 a1 Q r7 w35 z36) ∧
  (¬ r34 ≤ 3 → Q 4 w35 z36))))) ∧
  (r24 = 0 → Q 3 w25 z26))))) ∧
  (r12 = 0 → Q 2 w13 z14))) ∧
  (r7 = (-1) → Q 1 w8 z9))) ∧
  (r2 = (-1) → Q 0 w3 z4))
set_option maxRecDepth 100000 in
set_option maxHeartbeats 4000000 in
theorem ct_X6_fault {l : Launch} {g : Gp} {d : Nat} (hst : l.stackTraces = false) {a0 : Nat} {a1 : Int32} {w : Mm} {z mc ms : Nat} {Q : Int32 → Mm → Nat → Prop} {X : String → Mm → Nat → Prop} (h : F_X6_fault a0 a1 w z Q) : Ct l g yX6_fault (.code yX6_fault cX6_fault 3 (some .int)) (d + 3) mc ms [.ref (a0), .int (a1)] w z (rI Q) X := by
  refine Ct.of hst (by decide) (Nat.le_of_ble_eq_true rfl) (fun C hX hE hg hl hNm => ?_)
  subst hg
  subst hl
  unfold F_X6_fault at h
  show VW C 0 [(0, .ref (a0)), (1, .int (a1))] [] w z mc ms
  refine vw_aload_n hX 0 dX6_fault_0 rfl ?_
  refine vw_iload_n hX 1 dX6_fault_1 rfl ?_
  refine vw_iconst hX (v := 3) dX6_fault_2 (by decide) ?_
  obtain ⟨hr1, h⟩ := h
  refine s_X6_102 hX hr1 dX6_fault_3 (Nat.le_of_ble_eq_true rfl) (ct_X6_ofPassenger (d := d + 2) (lst hX) h) (fun r2 w3 z4 h => ?_)
  refine vw_iconst hX (v := (-1)) dX6_fault_6 (by decide) ?_
  refine vw_icmp_ne hX (tgt := 12) dX6_fault_7 (by decide) (fun c5 => ?_) (fun c5 => ?_)
  · have h := h.1 c5
    refine vw_aload_n hX 0 dX6_fault_12 rfl ?_
    refine vw_iload_n hX 1 dX6_fault_13 rfl ?_
    refine vw_iconst hX (v := 4) dX6_fault_14 (by decide) ?_
    obtain ⟨hr6, h⟩ := h
    refine s_X6_102 hX hr6 dX6_fault_15 (Nat.le_of_ble_eq_true rfl) (ct_X6_ofPassenger (d := d + 2) (lst hX) h) (fun r7 w8 z9 h => ?_)
    refine vw_istore_n hX dX6_fault_18 (by decide) rfl ?_
    refine vw_iload_n hX 0 dX6_fault_19 rfl ?_
    refine vw_iconst hX (v := (-1)) dX6_fault_20 (by decide) ?_
    refine vw_icmp_ne hX (tgt := 26) dX6_fault_21 (by decide) (fun c10 => ?_) (fun c10 => ?_)
    · have h := h.1 c10
      refine vw_aload_n hX 1 dX6_fault_26 rfl ?_
      refine vw_iload_n hX 0 dX6_fault_27 rfl ?_
      obtain ⟨hr11, h⟩ := h
      refine s_X6_122 hX hr11 dX6_fault_28 (Nat.le_of_ble_eq_true rfl) (ct_X6_inTime (d := d + 1) (lst hX) h) (fun r12 w13 z14 h => ?_)
      refine vw_if_ne hX (tgt := 36) dX6_fault_31 (by decide) (fun c15 => ?_) (fun c15 => ?_)
      · have h := h.1 c15
        refine vw_aload_n hX 1 dX6_fault_36 rfl ?_
        refine vw_iload_n hX 0 dX6_fault_37 rfl ?_
        refine vw_iconst hX (v := 2) dX6_fault_38 (by decide) ?_
        obtain ⟨hr16, h⟩ := h
        refine s_X6_96 hX hr16 dX6_fault_39 (Nat.le_of_ble_eq_true rfl) (ct_X6_ofTicket (d := d + 2) (lst hX) h) (fun r17 w18 z19 h => ?_)
        refine vw_aload_n hX 1 dX6_fault_42 rfl ?_
        refine vw_iload_n hX 2 dX6_fault_43 rfl ?_
        obtain ⟨hr20, h⟩ := h
        refine s_X6_125 hX hr20 dX6_fault_44 (Nat.le_of_ble_eq_true rfl) (ct_X6_rideZones (d := d + 0) (lst hX) h) (fun r21 w22 z23 h => ?_)
        refine s_X6_128 hX dX6_fault_47 (Nat.le_of_ble_eq_true rfl) (ct_X6_covers (d := d + 2) (lst hX) h) (fun r24 w25 z26 h => ?_)
        refine vw_if_ne hX (tgt := 55) dX6_fault_50 (by decide) (fun c27 => ?_) (fun c27 => ?_)
        · have h := h.1 c27
          refine vw_aload_n hX 1 dX6_fault_55 rfl ?_
          refine vw_iload_n hX 0 dX6_fault_56 rfl ?_
          refine vw_iconst hX (v := 1) dX6_fault_57 (by decide) ?_
          obtain ⟨hr28, h⟩ := h
          refine s_X6_96 hX hr28 dX6_fault_58 (Nat.le_of_ble_eq_true rfl) (ct_X6_ofTicket (d := d + 2) (lst hX) h) (fun r29 w30 z31 h => ?_)
          refine vw_if_ne hX (tgt := 76) dX6_fault_61 (by decide) (fun c32 => ?_) (fun c32 => ?_)
          · have h := h.1 c32
            exact vw_sub [1, 2, 0] rfl (pB_X6_fault_76 hX hE _ _ _ _ _ h)
          · have h := h.2 c32
            refine vw_aload_n hX 1 dX6_fault_64 rfl ?_
            refine vw_iload_n hX 0 dX6_fault_65 rfl ?_
            refine vw_iconst hX (v := 5) dX6_fault_66 (by decide) ?_
            obtain ⟨hr33, h⟩ := h
            refine s_X6_96 hX hr33 dX6_fault_67 (Nat.le_of_ble_eq_true rfl) (ct_X6_ofTicket (d := d + 2) (lst hX) h) (fun r34 w35 z36 h => ?_)
            refine vw_iconst hX (v := 3) dX6_fault_70 (by decide) ?_
            refine vw_icmp_le hX (tgt := 76) dX6_fault_71 (by decide) (fun c37 => ?_) (fun c37 => ?_)
            · have h := h.1 c37
              exact vw_sub [1, 2, 0] rfl (pB_X6_fault_76 hX hE _ _ _ _ _ h)
            · have h := h.2 c37
              refine vw_iconst hX (v := 4) dX6_fault_74 (by decide) ?_
              exact vw_iret hX hE dX6_fault_75 ⟨_, rfl, h⟩
        · have h := h.2 c27
          refine vw_iconst hX (v := 3) dX6_fault_53 (by decide) ?_
          exact vw_iret hX hE dX6_fault_54 ⟨_, rfl, h⟩
      · have h := h.2 c15
        refine vw_iconst hX (v := 2) dX6_fault_34 (by decide) ?_
        exact vw_iret hX hE dX6_fault_35 ⟨_, rfl, h⟩
    · have h := h.2 c10
      refine vw_iconst hX (v := 1) dX6_fault_24 (by decide) ?_
      exact vw_iret hX hE dX6_fault_25 ⟨_, rfl, h⟩
  · have h := h.2 c5
    refine vw_iconst hX (v := 0) dX6_fault_10 (by decide) ?_
    exact vw_iret hX hE dX6_fault_11 ⟨_, rfl, h⟩
def F_X6_inspects (a0 : Nat) (a1 : Int32) (w : Mm) (z : Nat) (Q : Int32 → Mm → Nat → Prop) : Prop :=
  isO w a0 10 ∧ F_X6_fault a0 a1 w z (fun r2 w3 z4 => ∃ q5, fld w3 a0 10 0 = some (.ref (q5)) ∧ ∃ n7 f6, arI w3 q5 0 = some (n7, f6) ∧ vp_in 7 n7 ∧ ∃ n9 f8, arW w3 q5 0 = some (n9, f8) ∧ vp_in 7 n9 ∧ ∀ w10, w10 = mset w3 q5 (.inr (0, n9, .inl (upd f8 (7 : Int32).toNatClampNeg ((((f6 (7 : Int32).toNatClampNeg)) + 1))))) → isO w10 a0 10 ∧ F_X6_putPassenger a0 a1 5 1 w10 z4 (fun w13 z14 => (¬ r2 = 0 → ∃ q16, fld w13 a0 10 0 = some (.ref (q16)) ∧ ∃ n18 f17, arI w13 q16 0 = some (n18, f17) ∧ vp_in 4 n18 ∧ ∀ i19 : Int32, i19 = (f17 (4 : Int32).toNatClampNeg) → isO w13 a0 10 ∧ F_X6_putCase a0 i19 0 a1 w13 z14 (fun w22 z23 => isO w22 a0 10 ∧ F_X6_putCase a0 i19 1 r2 w22 z23 (fun w26 z27 => isO w26 a0 10 ∧ F_X6_putCase a0 i19 2 0 w26 z27 (fun w30 z31 => ∃ q32, fld w30 a0 10 0 = some (.ref (q32)) ∧ ∃ n34 f33, arI w30 q32 0 = some (n34, f33) ∧ vp_in 0 n34 ∧ isO w30 a0 10 ∧ F_X6_putCase a0 i19 3 ((f33 (0 : Int32).toNatClampNeg)) w30 z31 (fun w37 z38 => isO w37 a0 10 ∧ F_X6_putCase a0 i19 4 6000 w37 z38 (fun w41 z42 => isO w41 a0 10 ∧ F_X6_putCase a0 i19 5 (-1) w41 z42 (fun w45 z46 => isO w45 a0 10 ∧ F_X6_rideZones a0 a1 w45 z46 (fun r48 w49 z50 => isO w49 a0 10 ∧ F_X6_putCase a0 i19 6 r48 w49 z50 (fun w53 z54 => ∃ q55, fld w53 a0 10 0 = some (.ref (q55)) ∧ ∃ n57 f56, arI w53 q55 0 = some (n57, f56) ∧ vp_in 4 n57 ∧ ∃ n59 f58, arW w53 q55 0 = some (n59, f58) ∧ vp_in 4 n59 ∧ ∀ w60, w60 = mset w53 q55 (.inr (0, n59, .inl (upd f58 (4 : Int32).toNatClampNeg ((((f56 (4 : Int32).toNatClampNeg)) + 1))))) → Q r2 w60 z54))))))))) ∧
  (r2 = 0 → Q 0 w13 z14)))
set_option maxRecDepth 100000 in
set_option maxHeartbeats 4000000 in
theorem ct_X6_inspects {l : Launch} {g : Gp} {d : Nat} (hst : l.stackTraces = false) {a0 : Nat} {a1 : Int32} {w : Mm} {z mc ms : Nat} {Q : Int32 → Mm → Nat → Prop} {X : String → Mm → Nat → Prop} (h : F_X6_inspects a0 a1 w z Q) : Ct l g yX6_inspects (.code yX6_inspects cX6_inspects 4 (some .int)) (d + 4) mc ms [.ref (a0), .int (a1)] w z (rI Q) X := by
  refine Ct.of hst (by decide) (Nat.le_of_ble_eq_true rfl) (fun C hX hE hg hl hNm => ?_)
  subst hg
  subst hl
  unfold F_X6_inspects at h
  show VW C 0 [(0, .ref (a0)), (1, .int (a1))] [] w z mc ms
  refine vw_aload_n hX 0 dX6_inspects_0 rfl ?_
  refine vw_iload_n hX 1 dX6_inspects_1 rfl ?_
  obtain ⟨hr1, h⟩ := h
  refine s_X6_132 hX hr1 dX6_inspects_2 (Nat.le_of_ble_eq_true rfl) (ct_X6_fault (d := d + 0) (lst hX) h) (fun r2 w3 z4 h => ?_)
  refine vw_istore_n hX dX6_inspects_5 (by decide) rfl ?_
  refine vw_aload_n hX 1 dX6_inspects_6 rfl ?_
  obtain ⟨q5, hq5, h⟩ := h
  refine g_X6_9 hX hq5 dX6_inspects_7 ?_
  refine vw_bipush hX (v := 7) dX6_inspects_10 (by decide) ?_
  refine vw_dup2 hX dX6_inspects_12 rfl rfl ?_
  obtain ⟨n7, f6, hf6, hif6, h⟩ := h
  refine vw_iald hX hf6 hif6 dX6_inspects_13 ?_
  refine vw_iconst hX (v := 1) dX6_inspects_14 (by decide) ?_
  refine vw_iadd hX dX6_inspects_15 ?_
  obtain ⟨n9, f8, hf8, hif8, h⟩ := h
  refine vw_iast hX hf8 hif8 dX6_inspects_16 ?_
  refine vw_nmW (fun w10 ew10 => ?_)
  have h := h w10 ew10
  refine vw_aload_n hX 1 dX6_inspects_17 rfl ?_
  refine vw_iload_n hX 2 dX6_inspects_18 rfl ?_
  refine vw_iconst hX (v := 5) dX6_inspects_19 (by decide) ?_
  refine vw_iconst hX (v := 1) dX6_inspects_20 (by decide) ?_
  obtain ⟨hr11, h⟩ := h
  refine s_X6_109 hX hr11 dX6_inspects_21 (Nat.le_of_ble_eq_true rfl) (ct_X6_putPassenger (d := d + 3) (lst hX) h) (fun w13 z14 h => ?_)
  refine vw_iload_n hX 0 dX6_inspects_24 rfl ?_
  refine vw_if_ne hX (tgt := 30) dX6_inspects_25 (by decide) (fun c15 => ?_) (fun c15 => ?_)
  · have h := h.1 c15
    refine vw_aload_n hX 1 dX6_inspects_30 rfl ?_
    obtain ⟨q16, hq16, h⟩ := h
    refine g_X6_9 hX hq16 dX6_inspects_31 ?_
    refine vw_iconst hX (v := 4) dX6_inspects_34 (by decide) ?_
    obtain ⟨n18, f17, hf17, hif17, h⟩ := h
    refine vw_iald hX hf17 hif17 dX6_inspects_35 ?_
    refine vw_nmI (fun i19 ei19 => ?_)
    have h := h i19 ei19
    refine vw_istore_n hX dX6_inspects_36 (by decide) rfl ?_
    refine vw_aload_n hX 2 dX6_inspects_37 rfl ?_
    refine vw_iload_n hX 0 dX6_inspects_38 rfl ?_
    refine vw_iconst hX (v := 0) dX6_inspects_39 (by decide) ?_
    refine vw_iload_n hX 3 dX6_inspects_40 rfl ?_
    obtain ⟨hr20, h⟩ := h
    refine s_X6_135 hX hr20 dX6_inspects_41 (Nat.le_of_ble_eq_true rfl) (ct_X6_putCase (d := d + 3) (lst hX) h) (fun w22 z23 h => ?_)
    refine vw_aload_n hX 2 dX6_inspects_44 rfl ?_
    refine vw_iload_n hX 0 dX6_inspects_45 rfl ?_
    refine vw_iconst hX (v := 1) dX6_inspects_46 (by decide) ?_
    refine vw_iload_n hX 1 dX6_inspects_47 rfl ?_
    obtain ⟨hr24, h⟩ := h
    refine s_X6_135 hX hr24 dX6_inspects_48 (Nat.le_of_ble_eq_true rfl) (ct_X6_putCase (d := d + 3) (lst hX) h) (fun w26 z27 h => ?_)
    refine vw_aload_n hX 2 dX6_inspects_51 rfl ?_
    refine vw_iload_n hX 0 dX6_inspects_52 rfl ?_
    refine vw_iconst hX (v := 2) dX6_inspects_53 (by decide) ?_
    refine vw_iconst hX (v := 0) dX6_inspects_54 (by decide) ?_
    obtain ⟨hr28, h⟩ := h
    refine s_X6_135 hX hr28 dX6_inspects_55 (Nat.le_of_ble_eq_true rfl) (ct_X6_putCase (d := d + 3) (lst hX) h) (fun w30 z31 h => ?_)
    refine vw_aload_n hX 2 dX6_inspects_58 rfl ?_
    refine vw_iload_n hX 0 dX6_inspects_59 rfl ?_
    refine vw_iconst hX (v := 3) dX6_inspects_60 (by decide) ?_
    refine vw_aload_n hX 2 dX6_inspects_61 rfl ?_
    obtain ⟨q32, hq32, h⟩ := h
    refine g_X6_9 hX hq32 dX6_inspects_62 ?_
    refine vw_iconst hX (v := 0) dX6_inspects_65 (by decide) ?_
    obtain ⟨n34, f33, hf33, hif33, h⟩ := h
    refine vw_iald hX hf33 hif33 dX6_inspects_66 ?_
    obtain ⟨hr35, h⟩ := h
    refine s_X6_135 hX hr35 dX6_inspects_67 (Nat.le_of_ble_eq_true rfl) (ct_X6_putCase (d := d + 3) (lst hX) h) (fun w37 z38 h => ?_)
    refine vw_aload_n hX 2 dX6_inspects_70 rfl ?_
    refine vw_iload_n hX 0 dX6_inspects_71 rfl ?_
    refine vw_iconst hX (v := 4) dX6_inspects_72 (by decide) ?_
    refine vw_sipush hX (v := 6000) dX6_inspects_73 (by decide) ?_
    obtain ⟨hr39, h⟩ := h
    refine s_X6_135 hX hr39 dX6_inspects_76 (Nat.le_of_ble_eq_true rfl) (ct_X6_putCase (d := d + 3) (lst hX) h) (fun w41 z42 h => ?_)
    refine vw_aload_n hX 2 dX6_inspects_79 rfl ?_
    refine vw_iload_n hX 0 dX6_inspects_80 rfl ?_
    refine vw_iconst hX (v := 5) dX6_inspects_81 (by decide) ?_
    refine vw_iconst hX (v := (-1)) dX6_inspects_82 (by decide) ?_
    obtain ⟨hr43, h⟩ := h
    refine s_X6_135 hX hr43 dX6_inspects_83 (Nat.le_of_ble_eq_true rfl) (ct_X6_putCase (d := d + 3) (lst hX) h) (fun w45 z46 h => ?_)
    refine vw_aload_n hX 2 dX6_inspects_86 rfl ?_
    refine vw_iload_n hX 0 dX6_inspects_87 rfl ?_
    refine vw_bipush hX (v := 6) dX6_inspects_88 (by decide) ?_
    refine vw_aload_n hX 2 dX6_inspects_90 rfl ?_
    refine vw_iload_n hX 3 dX6_inspects_91 rfl ?_
    obtain ⟨hr47, h⟩ := h
    refine s_X6_125 hX hr47 dX6_inspects_92 (Nat.le_of_ble_eq_true rfl) (ct_X6_rideZones (d := d + 1) (lst hX) h) (fun r48 w49 z50 h => ?_)
    obtain ⟨hr51, h⟩ := h
    refine s_X6_135 hX hr51 dX6_inspects_95 (Nat.le_of_ble_eq_true rfl) (ct_X6_putCase (d := d + 3) (lst hX) h) (fun w53 z54 h => ?_)
    refine vw_aload_n hX 2 dX6_inspects_98 rfl ?_
    obtain ⟨q55, hq55, h⟩ := h
    refine g_X6_9 hX hq55 dX6_inspects_99 ?_
    refine vw_iconst hX (v := 4) dX6_inspects_102 (by decide) ?_
    refine vw_dup2 hX dX6_inspects_103 rfl rfl ?_
    obtain ⟨n57, f56, hf56, hif56, h⟩ := h
    refine vw_iald hX hf56 hif56 dX6_inspects_104 ?_
    refine vw_iconst hX (v := 1) dX6_inspects_105 (by decide) ?_
    refine vw_iadd hX dX6_inspects_106 ?_
    obtain ⟨n59, f58, hf58, hif58, h⟩ := h
    refine vw_iast hX hf58 hif58 dX6_inspects_107 ?_
    refine vw_nmW (fun w60 ew60 => ?_)
    have h := h w60 ew60
    refine vw_iload_n hX 1 dX6_inspects_108 rfl ?_
    exact vw_iret hX hE dX6_inspects_109 ⟨_, rfl, h⟩
  · have h := h.2 c15
    refine vw_iconst hX (v := 0) dX6_inspects_28 (by decide) ?_
    exact vw_iret hX hE dX6_inspects_29 ⟨_, rfl, h⟩
def F_X6_waits (a0 : Nat) (a1 : Int32) (w : Mm) (z : Nat) (Q : Int32 → Mm → Nat → Prop) : Prop :=
  ∃ q1, fld w a0 10 0 = some (.ref (q1)) ∧ ∃ n3 f2, arI w q1 0 = some (n3, f2) ∧ vp_in 0 n3 ∧ ∃ n5 f4, arW w q1 0 = some (n5, f4) ∧ vp_in 0 n5 ∧ ∀ w6, w6 = mset w q1 (.inr (0, n5, .inl (upd f4 (0 : Int32).toNatClampNeg ((((f2 (0 : Int32).toNatClampNeg)) + a1))))) → ∃ q7, fld w6 a0 10 0 = some (.ref (q7)) ∧ ∃ n9 f8, arI w6 q7 0 = some (n9, f8) ∧ vp_in 0 n9 ∧ Q ((f8 (0 : Int32).toNatClampNeg)) w6 z
set_option maxRecDepth 100000 in
set_option maxHeartbeats 4000000 in
theorem ct_X6_waits {l : Launch} {g : Gp} {d : Nat} (hst : l.stackTraces = false) {a0 : Nat} {a1 : Int32} {w : Mm} {z mc ms : Nat} {Q : Int32 → Mm → Nat → Prop} {X : String → Mm → Nat → Prop} (h : F_X6_waits a0 a1 w z Q) : Ct l g yX6_waits (.code yX6_waits cX6_waits 2 (some .int)) (d + 0) mc ms [.ref (a0), .int (a1)] w z (rI Q) X := by
  refine Ct.of hst (by decide) (Nat.le_of_ble_eq_true rfl) (fun C hX hE hg hl hNm => ?_)
  subst hg
  subst hl
  unfold F_X6_waits at h
  show VW C 0 [(0, .ref (a0)), (1, .int (a1))] [] w z mc ms
  refine vw_aload_n hX 0 dX6_waits_0 rfl ?_
  obtain ⟨q1, hq1, h⟩ := h
  refine g_X6_9 hX hq1 dX6_waits_1 ?_
  refine vw_iconst hX (v := 0) dX6_waits_4 (by decide) ?_
  refine vw_dup2 hX dX6_waits_5 rfl rfl ?_
  obtain ⟨n3, f2, hf2, hif2, h⟩ := h
  refine vw_iald hX hf2 hif2 dX6_waits_6 ?_
  refine vw_iload_n hX 1 dX6_waits_7 rfl ?_
  refine vw_iadd hX dX6_waits_8 ?_
  obtain ⟨n5, f4, hf4, hif4, h⟩ := h
  refine vw_iast hX hf4 hif4 dX6_waits_9 ?_
  refine vw_nmW (fun w6 ew6 => ?_)
  have h := h w6 ew6
  refine vw_aload_n hX 0 dX6_waits_10 rfl ?_
  obtain ⟨q7, hq7, h⟩ := h
  refine g_X6_9 hX hq7 dX6_waits_11 ?_
  refine vw_iconst hX (v := 0) dX6_waits_14 (by decide) ?_
  obtain ⟨n9, f8, hf8, hif8, h⟩ := h
  refine vw_iald hX hf8 hif8 dX6_waits_15 ?_
  exact vw_iret hX hE dX6_waits_16 ⟨_, rfl, h⟩
def B_X6_judged_77 (a0 : Nat) (a1 : Int32) (a2 : Int32) (Q : Int32 → Mm → Nat → Prop) (x4 : Int32) (y0 : Int32) (w : Mm) (z : Nat) : Prop :=
  (x4 = 0 → Q 3 w z) ∧
  (¬ x4 = 0 → (y0 = 0 → Q 3 w z) ∧
  (¬ y0 = 0 → isO w a0 10 ∧ F_X6_ofTicket a0 a2 2 w z (fun r4 w5 z6 => isO w5 a0 10 ∧ F_X6_ofCase a0 a1 6 w5 z6 (fun r8 w9 z10 => F_X6_covers r4 r8 w9 z10 (fun r11 w12 z13 => (r11 = 0 → Q 3 w12 z13) ∧
  (¬ r11 = 0 → Q 2 w12 z13))))))
set_option maxRecDepth 100000 in
set_option maxHeartbeats 4000000 in
theorem pB_X6_judged_77 {C : Cx} {d : Nat} {a0 : Nat} {a1 : Int32} {a2 : Int32} {Q : Int32 → Mm → Nat → Prop} {X : String → Mm → Nat → Prop} (hX : CX C cX6_judged RX6 6 (some .int) [] (d + 1)) (hE : EQ C (rI Q) X) : ∀ (x4 : Int32) (y0 : Int32) (w : Mm) (z mc ms : Nat), B_X6_judged_77 a0 a1 a2 Q x4 y0 w z → VW C 77 [(0, .ref (a0)), (1, .int (a1)), (2, .int (a2)), (4, .int (x4))] [.int (y0)] w z mc ms := by
  intro x4 y0 w z mc ms h
  unfold B_X6_judged_77 at h
  refine vw_istore hX dX6_judged_77 (by decide) rfl ?_
  refine vw_iload hX 4 dX6_judged_79 rfl ?_
  refine vw_if_eq hX (tgt := 112) dX6_judged_81 (by decide) (fun c1 => ?_) (fun c1 => ?_)
  · have h := h.1 c1
    refine vw_iconst hX (v := 3) dX6_judged_112 (by decide) ?_
    exact vw_iret hX hE dX6_judged_113 ⟨_, rfl, h⟩
  · have h := h.2 c1
    refine vw_iload hX 0 dX6_judged_84 rfl ?_
    refine vw_if_eq hX (tgt := 112) dX6_judged_86 (by decide) (fun c2 => ?_) (fun c2 => ?_)
    · have h := h.1 c2
      refine vw_iconst hX (v := 3) dX6_judged_112 (by decide) ?_
      exact vw_iret hX hE dX6_judged_113 ⟨_, rfl, h⟩
    · have h := h.2 c2
      refine vw_aload_n hX 1 dX6_judged_89 rfl ?_
      refine vw_iload_n hX 3 dX6_judged_90 rfl ?_
      refine vw_iconst hX (v := 2) dX6_judged_91 (by decide) ?_
      obtain ⟨hr3, h⟩ := h
      refine s_X6_96 hX hr3 dX6_judged_92 (Nat.le_of_ble_eq_true rfl) (ct_X6_ofTicket (d := d + 0) (lst hX) h) (fun r4 w5 z6 h => ?_)
      refine vw_aload_n hX 1 dX6_judged_95 rfl ?_
      refine vw_iload_n hX 2 dX6_judged_96 rfl ?_
      refine vw_bipush hX (v := 6) dX6_judged_97 (by decide) ?_
      obtain ⟨hr7, h⟩ := h
      refine s_X6_138 hX hr7 dX6_judged_99 (Nat.le_of_ble_eq_true rfl) (ct_X6_ofCase (d := d + 0) (lst hX) h) (fun r8 w9 z10 h => ?_)
      refine s_X6_128 hX dX6_judged_102 (Nat.le_of_ble_eq_true rfl) (ct_X6_covers (d := d + 0) (lst hX) h) (fun r11 w12 z13 h => ?_)
      refine vw_if_eq hX (tgt := 112) dX6_judged_105 (by decide) (fun c14 => ?_) (fun c14 => ?_)
      · have h := h.1 c14
        refine vw_iconst hX (v := 3) dX6_judged_112 (by decide) ?_
        exact vw_iret hX hE dX6_judged_113 ⟨_, rfl, h⟩
      · have h := h.2 c14
        refine vw_iconst hX (v := 2) dX6_judged_108 (by decide) ?_
        refine vw_goto hX (tgt := 113) dX6_judged_109 (by decide) ?_
        exact vw_iret hX hE dX6_judged_113 ⟨_, rfl, h⟩
def B_X6_judged_76 (a0 : Nat) (a1 : Int32) (a2 : Int32) (Q : Int32 → Mm → Nat → Prop) (x4 : Int32) (w : Mm) (z : Nat) : Prop :=
  B_X6_judged_77 a0 a1 a2 Q x4 0 w z
set_option maxRecDepth 100000 in
set_option maxHeartbeats 4000000 in
theorem pB_X6_judged_76 {C : Cx} {d : Nat} {a0 : Nat} {a1 : Int32} {a2 : Int32} {Q : Int32 → Mm → Nat → Prop} {X : String → Mm → Nat → Prop} (hX : CX C cX6_judged RX6 6 (some .int) [] (d + 1)) (hE : EQ C (rI Q) X) : ∀ (x4 : Int32) (w : Mm) (z mc ms : Nat), B_X6_judged_76 a0 a1 a2 Q x4 w z → VW C 76 [(0, .ref (a0)), (1, .int (a1)), (2, .int (a2)), (4, .int (x4))] [] w z mc ms := by
  intro x4 w z mc ms h
  unfold B_X6_judged_76 at h
  refine vw_iconst hX (v := 0) dX6_judged_76 (by decide) ?_
  exact pB_X6_judged_77 hX hE _ _ _ _ _ _ h
def B_X6_judged_42 (a0 : Nat) (a1 : Int32) (a2 : Int32) (Q : Int32 → Mm → Nat → Prop) (x3 : Int32) (y0 : Int32) (w : Mm) (z : Nat) : Prop :=
  isO w a0 10 ∧ F_X6_ofCase a0 a1 3 w z (fun r16 w17 z18 => (r16 < x3 → B_X6_judged_76 a0 a1 a2 Q y0 w17 z18) ∧
  (¬ r16 < x3 → isO w17 a0 10 ∧ F_X6_ofCase a0 a1 3 w17 z18 (fun r21 w22 z23 => (¬ ((x3 / 1440)) = ((r21 / 1440)) → B_X6_judged_76 a0 a1 a2 Q y0 w22 z23) ∧
  (((x3 / 1440)) = ((r21 / 1440)) → B_X6_judged_77 a0 a1 a2 Q y0 1 w22 z23))))
set_option maxRecDepth 100000 in
set_option maxHeartbeats 4000000 in
theorem pB_X6_judged_42 {C : Cx} {d : Nat} {a0 : Nat} {a1 : Int32} {a2 : Int32} {Q : Int32 → Mm → Nat → Prop} {X : String → Mm → Nat → Prop} (hX : CX C cX6_judged RX6 6 (some .int) [] (d + 1)) (hE : EQ C (rI Q) X) : ∀ (x3 : Int32) (y0 : Int32) (w : Mm) (z mc ms : Nat), B_X6_judged_42 a0 a1 a2 Q x3 y0 w z → VW C 42 [(0, .ref (a0)), (1, .int (a1)), (2, .int (a2)), (3, .int (x3))] [.int (y0)] w z mc ms := by
  intro x3 y0 w z mc ms h
  unfold B_X6_judged_42 at h
  refine vw_istore hX dX6_judged_42 (by decide) rfl ?_
  refine vw_iload_n hX 4 dX6_judged_44 rfl ?_
  refine vw_aload_n hX 1 dX6_judged_45 rfl ?_
  refine vw_iload_n hX 2 dX6_judged_46 rfl ?_
  refine vw_iconst hX (v := 3) dX6_judged_47 (by decide) ?_
  obtain ⟨hr15, h⟩ := h
  refine s_X6_138 hX hr15 dX6_judged_48 (Nat.le_of_ble_eq_true rfl) (ct_X6_ofCase (d := d + 0) (lst hX) h) (fun r16 w17 z18 h => ?_)
  refine vw_icmp_gt hX (tgt := 76) dX6_judged_51 (by decide) (fun c19 => ?_) (fun c19 => ?_)
  · have h := h.1 c19
    exact vw_sub [1, 2, 3, 0] rfl (pB_X6_judged_76 hX hE _ _ _ _ _ h)
  · have h := h.2 c19
    refine vw_iload_n hX 4 dX6_judged_54 rfl ?_
    refine vw_sipush hX (v := 1440) dX6_judged_55 (by decide) ?_
    refine vw_idiv hX dX6_judged_58 (by decide) ?_
    refine vw_aload_n hX 1 dX6_judged_59 rfl ?_
    refine vw_iload_n hX 2 dX6_judged_60 rfl ?_
    refine vw_iconst hX (v := 3) dX6_judged_61 (by decide) ?_
    obtain ⟨hr20, h⟩ := h
    refine s_X6_138 hX hr20 dX6_judged_62 (Nat.le_of_ble_eq_true rfl) (ct_X6_ofCase (d := d + 0) (lst hX) h) (fun r21 w22 z23 h => ?_)
    refine vw_sipush hX (v := 1440) dX6_judged_65 (by decide) ?_
    refine vw_idiv hX dX6_judged_68 (by decide) ?_
    refine vw_icmp_ne hX (tgt := 76) dX6_judged_69 (by decide) (fun c24 => ?_) (fun c24 => ?_)
    · have h := h.1 c24
      exact vw_sub [1, 2, 3, 0] rfl (pB_X6_judged_76 hX hE _ _ _ _ _ h)
    · have h := h.2 c24
      refine vw_iconst hX (v := 1) dX6_judged_72 (by decide) ?_
      refine vw_goto hX (tgt := 77) dX6_judged_73 (by decide) ?_
      exact vw_sub [1, 2, 3, 0] rfl (pB_X6_judged_77 hX hE _ _ _ _ _ _ h)
def B_X6_judged_41 (a0 : Nat) (a1 : Int32) (a2 : Int32) (Q : Int32 → Mm → Nat → Prop) (x3 : Int32) (w : Mm) (z : Nat) : Prop :=
  B_X6_judged_42 a0 a1 a2 Q x3 0 w z
set_option maxRecDepth 100000 in
set_option maxHeartbeats 4000000 in
theorem pB_X6_judged_41 {C : Cx} {d : Nat} {a0 : Nat} {a1 : Int32} {a2 : Int32} {Q : Int32 → Mm → Nat → Prop} {X : String → Mm → Nat → Prop} (hX : CX C cX6_judged RX6 6 (some .int) [] (d + 1)) (hE : EQ C (rI Q) X) : ∀ (x3 : Int32) (w : Mm) (z mc ms : Nat), B_X6_judged_41 a0 a1 a2 Q x3 w z → VW C 41 [(0, .ref (a0)), (1, .int (a1)), (2, .int (a2)), (3, .int (x3))] [] w z mc ms := by
  intro x3 w z mc ms h
  unfold B_X6_judged_41 at h
  refine vw_iconst hX (v := 0) dX6_judged_41 (by decide) ?_
  exact pB_X6_judged_42 hX hE _ _ _ _ _ _ h
def F_X6_judged (a0 : Nat) (a1 : Int32) (a2 : Int32) (w : Mm) (z : Nat) (Q : Int32 → Mm → Nat → Prop) : Prop :=
  isO w a0 10 ∧ F_X6_ofTicket a0 a2 3 w z (fun r2 w3 z4 => isO w3 a0 10 ∧ F_X6_ofTicket a0 a2 0 w3 z4 (fun r6 w7 z8 => isO w7 a0 10 ∧ F_X6_ofCase a0 a1 0 w7 z8 (fun r10 w11 z12 => (¬ r6 = r10 → B_X6_judged_41 a0 a1 a2 Q r2 w11 z12) ∧
  (r6 = r10 → isO w11 a0 10 ∧ F_X6_ofTicket a0 a2 1 w11 z12 (fun r15 w16 z17 => (¬ r15 = 1 → B_X6_judged_41 a0 a1 a2 Q r2 w16 z17) ∧
  (r15 = 1 → (r2 = (-1) → B_X6_judged_41 a0 a1 a2 Q r2 w16 z17) ∧
  (¬ r2 = (-1) → B_X6_judged_42 a0 a1 a2 Q r2 1 w16 z17)))))))
set_option maxRecDepth 100000 in
set_option maxHeartbeats 4000000 in
theorem ct_X6_judged {l : Launch} {g : Gp} {d : Nat} (hst : l.stackTraces = false) {a0 : Nat} {a1 : Int32} {a2 : Int32} {w : Mm} {z mc ms : Nat} {Q : Int32 → Mm → Nat → Prop} {X : String → Mm → Nat → Prop} (h : F_X6_judged a0 a1 a2 w z Q) : Ct l g yX6_judged (.code yX6_judged cX6_judged 6 (some .int)) (d + 1) mc ms [.ref (a0), .int (a1), .int (a2)] w z (rI Q) X := by
  refine Ct.of hst (by decide) (Nat.le_of_ble_eq_true rfl) (fun C hX hE hg hl hNm => ?_)
  subst hg
  subst hl
  unfold F_X6_judged at h
  show VW C 0 [(0, .ref (a0)), (1, .int (a1)), (2, .int (a2))] [] w z mc ms
  refine vw_aload_n hX 0 dX6_judged_0 rfl ?_
  refine vw_iload_n hX 2 dX6_judged_1 rfl ?_
  refine vw_iconst hX (v := 3) dX6_judged_2 (by decide) ?_
  obtain ⟨hr1, h⟩ := h
  refine s_X6_96 hX hr1 dX6_judged_3 (Nat.le_of_ble_eq_true rfl) (ct_X6_ofTicket (d := d + 0) (lst hX) h) (fun r2 w3 z4 h => ?_)
  refine vw_istore_n hX dX6_judged_6 (by decide) rfl ?_
  refine vw_aload_n hX 1 dX6_judged_7 rfl ?_
  refine vw_iload_n hX 3 dX6_judged_8 rfl ?_
  refine vw_iconst hX (v := 0) dX6_judged_9 (by decide) ?_
  obtain ⟨hr5, h⟩ := h
  refine s_X6_96 hX hr5 dX6_judged_10 (Nat.le_of_ble_eq_true rfl) (ct_X6_ofTicket (d := d + 0) (lst hX) h) (fun r6 w7 z8 h => ?_)
  refine vw_aload_n hX 1 dX6_judged_13 rfl ?_
  refine vw_iload_n hX 2 dX6_judged_14 rfl ?_
  refine vw_iconst hX (v := 0) dX6_judged_15 (by decide) ?_
  obtain ⟨hr9, h⟩ := h
  refine s_X6_138 hX hr9 dX6_judged_16 (Nat.le_of_ble_eq_true rfl) (ct_X6_ofCase (d := d + 0) (lst hX) h) (fun r10 w11 z12 h => ?_)
  refine vw_icmp_ne hX (tgt := 41) dX6_judged_19 (by decide) (fun c13 => ?_) (fun c13 => ?_)
  · have h := h.1 c13
    exact vw_sub [1, 2, 3, 0] rfl (pB_X6_judged_41 hX hE _ _ _ _ _ h)
  · have h := h.2 c13
    refine vw_aload_n hX 1 dX6_judged_22 rfl ?_
    refine vw_iload_n hX 3 dX6_judged_23 rfl ?_
    refine vw_iconst hX (v := 1) dX6_judged_24 (by decide) ?_
    obtain ⟨hr14, h⟩ := h
    refine s_X6_96 hX hr14 dX6_judged_25 (Nat.le_of_ble_eq_true rfl) (ct_X6_ofTicket (d := d + 0) (lst hX) h) (fun r15 w16 z17 h => ?_)
    refine vw_iconst hX (v := 1) dX6_judged_28 (by decide) ?_
    refine vw_icmp_ne hX (tgt := 41) dX6_judged_29 (by decide) (fun c18 => ?_) (fun c18 => ?_)
    · have h := h.1 c18
      exact vw_sub [1, 2, 3, 0] rfl (pB_X6_judged_41 hX hE _ _ _ _ _ h)
    · have h := h.2 c18
      refine vw_iload_n hX 0 dX6_judged_32 rfl ?_
      refine vw_iconst hX (v := (-1)) dX6_judged_33 (by decide) ?_
      refine vw_icmp_eq hX (tgt := 41) dX6_judged_34 (by decide) (fun c19 => ?_) (fun c19 => ?_)
      · have h := h.1 c19
        exact vw_sub [1, 2, 3, 0] rfl (pB_X6_judged_41 hX hE _ _ _ _ _ h)
      · have h := h.2 c19
        refine vw_iconst hX (v := 1) dX6_judged_37 (by decide) ?_
        refine vw_goto hX (tgt := 42) dX6_judged_38 (by decide) ?_
        exact vw_sub [1, 2, 3, 0] rfl (pB_X6_judged_42 hX hE _ _ _ _ _ _ h)
def F_X6_decides (a0 : Nat) (a1 : Int32) (w : Mm) (z : Nat) (Q : Int32 → Mm → Nat → Prop) : Prop :=
  isO w a0 10 ∧ F_X6_ofCase a0 a1 5 w z (fun r2 w3 z4 => isO w3 a0 10 ∧ F_X6_judged a0 a1 r2 w3 z4 (fun r6 w7 z8 => isO w7 a0 10 ∧ F_X6_putCase a0 a1 2 r6 w7 z8 (fun w11 z12 => (¬ r6 = 2 → isO w11 a0 10 ∧ F_X6_ofCase a0 a1 4 w11 z12 (fun r15 w16 z17 => isO w16 a0 10 ∧ F_X6_putCase a0 a1 4 ((r15 + 500)) w16 z17 (fun w20 z21 => Q r6 w20 z21))) ∧
  (r6 = 2 → isO w11 a0 10 ∧ F_X6_putCase a0 a1 4 700 w11 z12 (fun w24 z25 => Q r6 w24 z25)))))
set_option maxRecDepth 100000 in
set_option maxHeartbeats 4000000 in
theorem ct_X6_decides {l : Launch} {g : Gp} {d : Nat} (hst : l.stackTraces = false) {a0 : Nat} {a1 : Int32} {w : Mm} {z mc ms : Nat} {Q : Int32 → Mm → Nat → Prop} {X : String → Mm → Nat → Prop} (h : F_X6_decides a0 a1 w z Q) : Ct l g yX6_decides (.code yX6_decides cX6_decides 3 (some .int)) (d + 2) mc ms [.ref (a0), .int (a1)] w z (rI Q) X := by
  refine Ct.of hst (by decide) (Nat.le_of_ble_eq_true rfl) (fun C hX hE hg hl hNm => ?_)
  subst hg
  subst hl
  unfold F_X6_decides at h
  show VW C 0 [(0, .ref (a0)), (1, .int (a1))] [] w z mc ms
  refine vw_aload_n hX 0 dX6_decides_0 rfl ?_
  refine vw_iload_n hX 1 dX6_decides_1 rfl ?_
  refine vw_aload_n hX 0 dX6_decides_2 rfl ?_
  refine vw_iload_n hX 1 dX6_decides_3 rfl ?_
  refine vw_iconst hX (v := 5) dX6_decides_4 (by decide) ?_
  obtain ⟨hr1, h⟩ := h
  refine s_X6_138 hX hr1 dX6_decides_5 (Nat.le_of_ble_eq_true rfl) (ct_X6_ofCase (d := d + 1) (lst hX) h) (fun r2 w3 z4 h => ?_)
  obtain ⟨hr5, h⟩ := h
  refine s_X6_144 hX hr5 dX6_decides_8 (Nat.le_of_ble_eq_true rfl) (ct_X6_judged (d := d + 0) (lst hX) h) (fun r6 w7 z8 h => ?_)
  refine vw_istore_n hX dX6_decides_11 (by decide) rfl ?_
  refine vw_aload_n hX 1 dX6_decides_12 rfl ?_
  refine vw_iload_n hX 2 dX6_decides_13 rfl ?_
  refine vw_iconst hX (v := 2) dX6_decides_14 (by decide) ?_
  refine vw_iload_n hX 0 dX6_decides_15 rfl ?_
  obtain ⟨hr9, h⟩ := h
  refine s_X6_135 hX hr9 dX6_decides_16 (Nat.le_of_ble_eq_true rfl) (ct_X6_putCase (d := d + 1) (lst hX) h) (fun w11 z12 h => ?_)
  refine vw_aload_n hX 1 dX6_decides_19 rfl ?_
  refine vw_iload_n hX 2 dX6_decides_20 rfl ?_
  refine vw_iconst hX (v := 4) dX6_decides_21 (by decide) ?_
  refine vw_iload_n hX 0 dX6_decides_22 rfl ?_
  refine vw_iconst hX (v := 2) dX6_decides_23 (by decide) ?_
  refine vw_icmp_ne hX (tgt := 33) dX6_decides_24 (by decide) (fun c13 => ?_) (fun c13 => ?_)
  · have h := h.1 c13
    refine vw_aload_n hX 1 dX6_decides_33 rfl ?_
    refine vw_iload_n hX 2 dX6_decides_34 rfl ?_
    refine vw_iconst hX (v := 4) dX6_decides_35 (by decide) ?_
    obtain ⟨hr14, h⟩ := h
    refine s_X6_138 hX hr14 dX6_decides_36 (Nat.le_of_ble_eq_true rfl) (ct_X6_ofCase (d := d + 1) (lst hX) h) (fun r15 w16 z17 h => ?_)
    refine vw_sipush hX (v := 500) dX6_decides_39 (by decide) ?_
    refine vw_iadd hX dX6_decides_42 ?_
    obtain ⟨hr18, h⟩ := h
    refine s_X6_135 hX hr18 dX6_decides_43 (Nat.le_of_ble_eq_true rfl) (ct_X6_putCase (d := d + 1) (lst hX) h) (fun w20 z21 h => ?_)
    refine vw_iload_n hX 0 dX6_decides_46 rfl ?_
    exact vw_iret hX hE dX6_decides_47 ⟨_, rfl, h⟩
  · have h := h.2 c13
    refine vw_sipush hX (v := 700) dX6_decides_27 (by decide) ?_
    refine vw_goto hX (tgt := 43) dX6_decides_30 (by decide) ?_
    obtain ⟨hr22, h⟩ := h
    refine s_X6_135 hX hr22 dX6_decides_43 (Nat.le_of_ble_eq_true rfl) (ct_X6_putCase (d := d + 1) (lst hX) h) (fun w24 z25 h => ?_)
    refine vw_iload_n hX 0 dX6_decides_46 rfl ?_
    exact vw_iret hX hE dX6_decides_47 ⟨_, rfl, h⟩
def F_X6_due (a0 : Nat) (a1 : Int32) (w : Mm) (z : Nat) (Q : Int32 → Mm → Nat → Prop) : Prop :=
  isO w a0 10 ∧ F_X6_ofCase a0 a1 2 w z (fun r2 w3 z4 => (¬ r2 = 4 → isO w3 a0 10 ∧ F_X6_ofCase a0 a1 4 w3 z4 (fun r7 w8 z9 => isO w8 a0 10 ∧ F_X6_isLate a0 a1 w8 z9 (fun r11 w12 z13 => (r11 = 0 → Q ((r7 + 0)) w12 z13) ∧
  (¬ r11 = 0 → Q ((r7 + 1500)) w12 z13)))) ∧
  (r2 = 4 → Q 0 w3 z4))
set_option maxRecDepth 100000 in
set_option maxHeartbeats 4000000 in
theorem ct_X6_due {l : Launch} {g : Gp} {d : Nat} (hst : l.stackTraces = false) {a0 : Nat} {a1 : Int32} {w : Mm} {z mc ms : Nat} {Q : Int32 → Mm → Nat → Prop} {X : String → Mm → Nat → Prop} (h : F_X6_due a0 a1 w z Q) : Ct l g yX6_due (.code yX6_due cX6_due 2 (some .int)) (d + 2) mc ms [.ref (a0), .int (a1)] w z (rI Q) X := by
  refine Ct.of hst (by decide) (Nat.le_of_ble_eq_true rfl) (fun C hX hE hg hl hNm => ?_)
  subst hg
  subst hl
  unfold F_X6_due at h
  show VW C 0 [(0, .ref (a0)), (1, .int (a1))] [] w z mc ms
  refine vw_aload_n hX 0 dX6_due_0 rfl ?_
  refine vw_iload_n hX 1 dX6_due_1 rfl ?_
  refine vw_iconst hX (v := 2) dX6_due_2 (by decide) ?_
  obtain ⟨hr1, h⟩ := h
  refine s_X6_138 hX hr1 dX6_due_3 (Nat.le_of_ble_eq_true rfl) (ct_X6_ofCase (d := d + 1) (lst hX) h) (fun r2 w3 z4 h => ?_)
  refine vw_iconst hX (v := 4) dX6_due_6 (by decide) ?_
  refine vw_icmp_ne hX (tgt := 12) dX6_due_7 (by decide) (fun c5 => ?_) (fun c5 => ?_)
  · have h := h.1 c5
    refine vw_aload_n hX 0 dX6_due_12 rfl ?_
    refine vw_iload_n hX 1 dX6_due_13 rfl ?_
    refine vw_iconst hX (v := 4) dX6_due_14 (by decide) ?_
    obtain ⟨hr6, h⟩ := h
    refine s_X6_138 hX hr6 dX6_due_15 (Nat.le_of_ble_eq_true rfl) (ct_X6_ofCase (d := d + 1) (lst hX) h) (fun r7 w8 z9 h => ?_)
    refine vw_aload_n hX 0 dX6_due_18 rfl ?_
    refine vw_iload_n hX 1 dX6_due_19 rfl ?_
    obtain ⟨hr10, h⟩ := h
    refine s_X6_141 hX hr10 dX6_due_20 (Nat.le_of_ble_eq_true rfl) (ct_X6_isLate (d := d + 0) (lst hX) h) (fun r11 w12 z13 h => ?_)
    refine vw_if_eq hX (tgt := 32) dX6_due_23 (by decide) (fun c14 => ?_) (fun c14 => ?_)
    · have h := h.1 c14
      refine vw_iconst hX (v := 0) dX6_due_32 (by decide) ?_
      refine vw_iadd hX dX6_due_33 ?_
      exact vw_iret hX hE dX6_due_34 ⟨_, rfl, h⟩
    · have h := h.2 c14
      refine vw_sipush hX (v := 1500) dX6_due_26 (by decide) ?_
      refine vw_goto hX (tgt := 33) dX6_due_29 (by decide) ?_
      refine vw_iadd hX dX6_due_33 ?_
      exact vw_iret hX hE dX6_due_34 ⟨_, rfl, h⟩
  · have h := h.2 c5
    refine vw_iconst hX (v := 0) dX6_due_10 (by decide) ?_
    exact vw_iret hX hE dX6_due_11 ⟨_, rfl, h⟩
def F_X6_mayPay (a0 : Nat) (a1 : Int32) (w : Mm) (z : Nat) (Q : Int32 → Mm → Nat → Prop) : Prop :=
  isO w a0 10 ∧ F_X6_ofCase a0 a1 2 w z (fun r2 w3 z4 => (r2 = 1 → Q 0 w3 z4) ∧
  (¬ r2 = 1 → isO w3 a0 10 ∧ F_X6_ofCase a0 a1 2 w3 z4 (fun r7 w8 z9 => (r7 = 4 → Q 0 w8 z9) ∧
  (¬ r7 = 4 → isO w8 a0 10 ∧ F_X6_due a0 a1 w8 z9 (fun r12 w13 z14 => isO w13 a0 10 ∧ F_X6_ofCase a0 a1 0 w13 z14 (fun r16 w17 z18 => isO w17 a0 10 ∧ F_X6_ofPassenger a0 r16 0 w17 z18 (fun r20 w21 z22 => (r20 < r12 → Q 0 w21 z22) ∧
  (¬ r20 < r12 → Q 1 w21 z22))))))))
set_option maxRecDepth 100000 in
set_option maxHeartbeats 4000000 in
theorem ct_X6_mayPay {l : Launch} {g : Gp} {d : Nat} (hst : l.stackTraces = false) {a0 : Nat} {a1 : Int32} {w : Mm} {z mc ms : Nat} {Q : Int32 → Mm → Nat → Prop} {X : String → Mm → Nat → Prop} (h : F_X6_mayPay a0 a1 w z Q) : Ct l g yX6_mayPay (.code yX6_mayPay cX6_mayPay 2 (some .boolean)) (d + 3) mc ms [.ref (a0), .int (a1)] w z (rI Q) X := by
  refine Ct.of hst (by decide) (Nat.le_of_ble_eq_true rfl) (fun C hX hE hg hl hNm => ?_)
  subst hg
  subst hl
  unfold F_X6_mayPay at h
  show VW C 0 [(0, .ref (a0)), (1, .int (a1))] [] w z mc ms
  refine vw_aload_n hX 0 dX6_mayPay_0 rfl ?_
  refine vw_iload_n hX 1 dX6_mayPay_1 rfl ?_
  refine vw_iconst hX (v := 2) dX6_mayPay_2 (by decide) ?_
  obtain ⟨hr1, h⟩ := h
  refine s_X6_138 hX hr1 dX6_mayPay_3 (Nat.le_of_ble_eq_true rfl) (ct_X6_ofCase (d := d + 2) (lst hX) h) (fun r2 w3 z4 h => ?_)
  refine vw_iconst hX (v := 1) dX6_mayPay_6 (by decide) ?_
  refine vw_icmp_eq hX (tgt := 43) dX6_mayPay_7 (by decide) (fun c5 => ?_) (fun c5 => ?_)
  · have h := h.1 c5
    refine vw_iconst hX (v := 0) dX6_mayPay_43 (by decide) ?_
    exact vw_zret hX hE dX6_mayPay_44 rfl ⟨_, rfl, h⟩
  · have h := h.2 c5
    refine vw_aload_n hX 0 dX6_mayPay_10 rfl ?_
    refine vw_iload_n hX 1 dX6_mayPay_11 rfl ?_
    refine vw_iconst hX (v := 2) dX6_mayPay_12 (by decide) ?_
    obtain ⟨hr6, h⟩ := h
    refine s_X6_138 hX hr6 dX6_mayPay_13 (Nat.le_of_ble_eq_true rfl) (ct_X6_ofCase (d := d + 2) (lst hX) h) (fun r7 w8 z9 h => ?_)
    refine vw_iconst hX (v := 4) dX6_mayPay_16 (by decide) ?_
    refine vw_icmp_eq hX (tgt := 43) dX6_mayPay_17 (by decide) (fun c10 => ?_) (fun c10 => ?_)
    · have h := h.1 c10
      refine vw_iconst hX (v := 0) dX6_mayPay_43 (by decide) ?_
      exact vw_zret hX hE dX6_mayPay_44 rfl ⟨_, rfl, h⟩
    · have h := h.2 c10
      refine vw_aload_n hX 0 dX6_mayPay_20 rfl ?_
      refine vw_iload_n hX 1 dX6_mayPay_21 rfl ?_
      obtain ⟨hr11, h⟩ := h
      refine s_X6_147 hX hr11 dX6_mayPay_22 (Nat.le_of_ble_eq_true rfl) (ct_X6_due (d := d + 0) (lst hX) h) (fun r12 w13 z14 h => ?_)
      refine vw_aload_n hX 0 dX6_mayPay_25 rfl ?_
      refine vw_aload_n hX 0 dX6_mayPay_26 rfl ?_
      refine vw_iload_n hX 1 dX6_mayPay_27 rfl ?_
      refine vw_iconst hX (v := 0) dX6_mayPay_28 (by decide) ?_
      obtain ⟨hr15, h⟩ := h
      refine s_X6_138 hX hr15 dX6_mayPay_29 (Nat.le_of_ble_eq_true rfl) (ct_X6_ofCase (d := d + 2) (lst hX) h) (fun r16 w17 z18 h => ?_)
      refine vw_iconst hX (v := 0) dX6_mayPay_32 (by decide) ?_
      obtain ⟨hr19, h⟩ := h
      refine s_X6_102 hX hr19 dX6_mayPay_33 (Nat.le_of_ble_eq_true rfl) (ct_X6_ofPassenger (d := d + 2) (lst hX) h) (fun r20 w21 z22 h => ?_)
      refine vw_icmp_gt hX (tgt := 43) dX6_mayPay_36 (by decide) (fun c23 => ?_) (fun c23 => ?_)
      · have h := h.1 c23
        refine vw_iconst hX (v := 0) dX6_mayPay_43 (by decide) ?_
        exact vw_zret hX hE dX6_mayPay_44 rfl ⟨_, rfl, h⟩
      · have h := h.2 c23
        refine vw_iconst hX (v := 1) dX6_mayPay_39 (by decide) ?_
        refine vw_goto hX (tgt := 44) dX6_mayPay_40 (by decide) ?_
        exact vw_zret hX hE dX6_mayPay_44 rfl ⟨_, rfl, h⟩
def F_X6_pays (a0 : Nat) (a1 : Int32) (w : Mm) (z : Nat) (Q : Int32 → Mm → Nat → Prop) : Prop :=
  isO w a0 10 ∧ F_X6_due a0 a1 w z (fun r2 w3 z4 => isO w3 a0 10 ∧ F_X6_ofCase a0 a1 0 w3 z4 (fun r6 w7 z8 => isO w7 a0 10 ∧ F_X6_ofPassenger a0 r6 0 w7 z8 (fun r10 w11 z12 => isO w11 a0 10 ∧ F_X6_putPassenger a0 r6 0 ((r10 - r2)) w11 z12 (fun w15 z16 => isO w15 a0 10 ∧ F_X6_putCase a0 a1 2 4 w15 z16 (fun w19 z20 => ∃ q21, fld w19 a0 10 0 = some (.ref (q21)) ∧ ∃ n23 f22, arI w19 q21 0 = some (n23, f22) ∧ vp_in 6 n23 ∧ ∃ n25 f24, arW w19 q21 0 = some (n25, f24) ∧ vp_in 6 n25 ∧ ∀ w26, w26 = mset w19 q21 (.inr (0, n25, .inl (upd f24 (6 : Int32).toNatClampNeg ((((f22 (6 : Int32).toNatClampNeg)) + r2))))) → Q r2 w26 z20)))))
set_option maxRecDepth 100000 in
set_option maxHeartbeats 4000000 in
theorem ct_X6_pays {l : Launch} {g : Gp} {d : Nat} (hst : l.stackTraces = false) {a0 : Nat} {a1 : Int32} {w : Mm} {z mc ms : Nat} {Q : Int32 → Mm → Nat → Prop} {X : String → Mm → Nat → Prop} (h : F_X6_pays a0 a1 w z Q) : Ct l g yX6_pays (.code yX6_pays cX6_pays 4 (some .int)) (d + 3) mc ms [.ref (a0), .int (a1)] w z (rI Q) X := by
  refine Ct.of hst (by decide) (Nat.le_of_ble_eq_true rfl) (fun C hX hE hg hl hNm => ?_)
  subst hg
  subst hl
  unfold F_X6_pays at h
  show VW C 0 [(0, .ref (a0)), (1, .int (a1))] [] w z mc ms
  refine vw_aload_n hX 0 dX6_pays_0 rfl ?_
  refine vw_iload_n hX 1 dX6_pays_1 rfl ?_
  obtain ⟨hr1, h⟩ := h
  refine s_X6_147 hX hr1 dX6_pays_2 (Nat.le_of_ble_eq_true rfl) (ct_X6_due (d := d + 0) (lst hX) h) (fun r2 w3 z4 h => ?_)
  refine vw_istore_n hX dX6_pays_5 (by decide) rfl ?_
  refine vw_aload_n hX 1 dX6_pays_6 rfl ?_
  refine vw_iload_n hX 2 dX6_pays_7 rfl ?_
  refine vw_iconst hX (v := 0) dX6_pays_8 (by decide) ?_
  obtain ⟨hr5, h⟩ := h
  refine s_X6_138 hX hr5 dX6_pays_9 (Nat.le_of_ble_eq_true rfl) (ct_X6_ofCase (d := d + 2) (lst hX) h) (fun r6 w7 z8 h => ?_)
  refine vw_istore_n hX dX6_pays_12 (by decide) rfl ?_
  refine vw_aload_n hX 2 dX6_pays_13 rfl ?_
  refine vw_iload_n hX 0 dX6_pays_14 rfl ?_
  refine vw_iconst hX (v := 0) dX6_pays_15 (by decide) ?_
  refine vw_aload_n hX 2 dX6_pays_16 rfl ?_
  refine vw_iload_n hX 0 dX6_pays_17 rfl ?_
  refine vw_iconst hX (v := 0) dX6_pays_18 (by decide) ?_
  obtain ⟨hr9, h⟩ := h
  refine s_X6_102 hX hr9 dX6_pays_19 (Nat.le_of_ble_eq_true rfl) (ct_X6_ofPassenger (d := d + 2) (lst hX) h) (fun r10 w11 z12 h => ?_)
  refine vw_iload_n hX 1 dX6_pays_22 rfl ?_
  refine vw_isub hX dX6_pays_23 ?_
  obtain ⟨hr13, h⟩ := h
  refine s_X6_109 hX hr13 dX6_pays_24 (Nat.le_of_ble_eq_true rfl) (ct_X6_putPassenger (d := d + 2) (lst hX) h) (fun w15 z16 h => ?_)
  refine vw_aload_n hX 2 dX6_pays_27 rfl ?_
  refine vw_iload_n hX 3 dX6_pays_28 rfl ?_
  refine vw_iconst hX (v := 2) dX6_pays_29 (by decide) ?_
  refine vw_iconst hX (v := 4) dX6_pays_30 (by decide) ?_
  obtain ⟨hr17, h⟩ := h
  refine s_X6_135 hX hr17 dX6_pays_31 (Nat.le_of_ble_eq_true rfl) (ct_X6_putCase (d := d + 2) (lst hX) h) (fun w19 z20 h => ?_)
  refine vw_aload_n hX 2 dX6_pays_34 rfl ?_
  obtain ⟨q21, hq21, h⟩ := h
  refine g_X6_9 hX hq21 dX6_pays_35 ?_
  refine vw_bipush hX (v := 6) dX6_pays_38 (by decide) ?_
  refine vw_dup2 hX dX6_pays_40 rfl rfl ?_
  obtain ⟨n23, f22, hf22, hif22, h⟩ := h
  refine vw_iald hX hf22 hif22 dX6_pays_41 ?_
  refine vw_iload_n hX 1 dX6_pays_42 rfl ?_
  refine vw_iadd hX dX6_pays_43 ?_
  obtain ⟨n25, f24, hf24, hif24, h⟩ := h
  refine vw_iast hX hf24 hif24 dX6_pays_44 ?_
  refine vw_nmW (fun w26 ew26 => ?_)
  have h := h w26 ew26
  refine vw_iload_n hX 1 dX6_pays_45 rfl ?_
  exact vw_iret hX hE dX6_pays_46 ⟨_, rfl, h⟩
def B_X6_command_292 (a0 : Nat) (Q : Mm → Nat → Prop) (x1 : Int32) (y0 : Int32) (y1 : Nat) (w : Mm) (z : Nat) : Prop :=
  isO w y1 10 ∧ F_X6_ends y1 y0 w z (fun r2 w3 z4 => (r2 = 0 → isO w3 a0 10 ∧ F_X6_go a0 w3 z4 (fun w8 z9 => Q w8 z9)) ∧
  (¬ r2 = 0 → isO w3 a0 10 ∧ F_X6_pays a0 x1 w3 z4 (fun r11 w12 z13 => ∃ f14, obj w12 a0 10 = some f14 ∧ 20 < f14.length ∧ ∀ w15, w15 = mset w12 a0 (.inl (10, f14.set 20 (.int (r11)))) → isO w15 a0 10 ∧ F_X6_go a0 w15 z13 (fun w18 z19 => Q w18 z19))))
set_option maxRecDepth 100000 in
set_option maxHeartbeats 4000000 in
theorem pB_X6_command_292 {C : Cx} {d : Nat} {a0 : Nat} {Q : Mm → Nat → Prop} {X : String → Mm → Nat → Prop} (hX : CX C cX6_command RX6 2 none [] (d + 6)) (hE : EQ C (rV Q) X) : ∀ (x1 : Int32) (y0 : Int32) (y1 : Nat) (w : Mm) (z mc ms : Nat), B_X6_command_292 a0 Q x1 y0 y1 w z → VW C 292 [(0, .ref (a0)), (1, .int (x1))] [.int (y0), .ref (y1)] w z mc ms := by
  intro x1 y0 y1 w z mc ms h
  unfold B_X6_command_292 at h
  obtain ⟨hr1, h⟩ := h
  refine s_X6_230 hX hr1 dX6_command_292 (Nat.le_of_ble_eq_true rfl) (ct_X6_ends (d := d + 4) (lst hX) h) (fun r2 w3 z4 h => ?_)
  refine vw_if_eq hX (tgt := 307) dX6_command_295 (by decide) (fun c5 => ?_) (fun c5 => ?_)
  · have h := h.1 c5
    refine vw_aload_n hX 0 dX6_command_307 rfl ?_
    obtain ⟨hr6, h⟩ := h
    refine s_X6_197 hX hr6 dX6_command_308 (Nat.le_of_ble_eq_true rfl) (ct_X6_go (d := d + 2) (lst hX) h) (fun w8 z9 h => ?_)
    exact vw_vret hX hE dX6_command_311 ⟨rfl, h⟩
  · have h := h.2 c5
    refine vw_aload_n hX 0 dX6_command_298 rfl ?_
    refine vw_aload_n hX 0 dX6_command_299 rfl ?_
    refine vw_iload_n hX 1 dX6_command_300 rfl ?_
    obtain ⟨hr10, h⟩ := h
    refine s_X6_294 hX hr10 dX6_command_301 (Nat.le_of_ble_eq_true rfl) (ct_X6_pays (d := d + 2) (lst hX) h) (fun r11 w12 z13 h => ?_)
    obtain ⟨f14, hf14, hlf14, h⟩ := h
    refine p_X6_238 hX hf14 hlf14 dX6_command_304 ?_
    refine vw_nmW (fun w15 ew15 => ?_)
    have h := h w15 ew15
    refine vw_aload_n hX 0 dX6_command_307 rfl ?_
    obtain ⟨hr16, h⟩ := h
    refine s_X6_197 hX hr16 dX6_command_308 (Nat.le_of_ble_eq_true rfl) (ct_X6_go (d := d + 2) (lst hX) h) (fun w18 z19 h => ?_)
    exact vw_vret hX hE dX6_command_311 ⟨rfl, h⟩
def B_X6_command_287 (a0 : Nat) (Q : Mm → Nat → Prop) (x1 : Int32) (y0 : Nat) (w : Mm) (z : Nat) : Prop :=
  B_X6_command_292 a0 Q x1 1 y0 w z
set_option maxRecDepth 100000 in
set_option maxHeartbeats 4000000 in
theorem pB_X6_command_287 {C : Cx} {d : Nat} {a0 : Nat} {Q : Mm → Nat → Prop} {X : String → Mm → Nat → Prop} (hX : CX C cX6_command RX6 2 none [] (d + 6)) (hE : EQ C (rV Q) X) : ∀ (x1 : Int32) (y0 : Nat) (w : Mm) (z mc ms : Nat), B_X6_command_287 a0 Q x1 y0 w z → VW C 287 [(0, .ref (a0)), (1, .int (x1))] [.ref (y0)] w z mc ms := by
  intro x1 y0 w z mc ms h
  unfold B_X6_command_287 at h
  refine vw_iconst hX (v := 1) dX6_command_287 (by decide) ?_
  refine vw_goto hX (tgt := 292) dX6_command_288 (by decide) ?_
  exact pB_X6_command_292 hX hE _ _ _ _ _ _ _ h
def B_X6_command_249 (a0 : Nat) (Q : Mm → Nat → Prop) (y0 : Int32) (y1 : Nat) (w : Mm) (z : Nat) : Prop :=
  isO w y1 10 ∧ F_X6_wrong y1 y0 1 w z (fun w22 z23 => isO w22 a0 10 ∧ F_X6_go a0 w22 z23 (fun w26 z27 => ∃ q28, fld w26 a0 10 0 = some (.ref (q28)) ∧ ∃ n30 f29, arI w26 q28 0 = some (n30, f29) ∧ vp_in 4 n30 ∧ isO w26 a0 10 ∧ F_X6_number a0 0 ((((f29 (4 : Int32).toNatClampNeg)) - 1)) w26 z27 (fun r32 w33 z34 => ∃ v35, fld w33 a0 10 19 = some (.int (v35)) ∧ (¬ v35 = 0 → B_X6_command_287 a0 Q r32 a0 w33 z34) ∧
  (v35 = 0 → isO w33 a0 10 ∧ F_X6_mayPay a0 r32 w33 z34 (fun r38 w39 z40 => (r38 = 0 → B_X6_command_292 a0 Q r32 0 a0 w39 z40) ∧
  (¬ r38 = 0 → B_X6_command_287 a0 Q r32 a0 w39 z40))))))
set_option maxRecDepth 100000 in
set_option maxHeartbeats 4000000 in
theorem pB_X6_command_249 {C : Cx} {d : Nat} {a0 : Nat} {Q : Mm → Nat → Prop} {X : String → Mm → Nat → Prop} (hX : CX C cX6_command RX6 2 none [] (d + 6)) (hE : EQ C (rV Q) X) : ∀ (y0 : Int32) (y1 : Nat) (w : Mm) (z mc ms : Nat), B_X6_command_249 a0 Q y0 y1 w z → VW C 249 [(0, .ref (a0))] [.int (y0), .ref (y1)] w z mc ms := by
  intro y0 y1 w z mc ms h
  unfold B_X6_command_249 at h
  refine vw_iconst hX (v := 1) dX6_command_249 (by decide) ?_
  obtain ⟨hr20, h⟩ := h
  refine s_X6_190 hX hr20 dX6_command_250 (Nat.le_of_ble_eq_true rfl) (ct_X6_wrong (d := d + 5) (lst hX) h) (fun w22 z23 h => ?_)
  refine vw_aload_n hX 0 dX6_command_253 rfl ?_
  obtain ⟨hr24, h⟩ := h
  refine s_X6_197 hX hr24 dX6_command_254 (Nat.le_of_ble_eq_true rfl) (ct_X6_go (d := d + 2) (lst hX) h) (fun w26 z27 h => ?_)
  refine vw_aload_n hX 0 dX6_command_257 rfl ?_
  refine vw_iconst hX (v := 0) dX6_command_258 (by decide) ?_
  refine vw_aload_n hX 0 dX6_command_259 rfl ?_
  obtain ⟨q28, hq28, h⟩ := h
  refine g_X6_9 hX hq28 dX6_command_260 ?_
  refine vw_iconst hX (v := 4) dX6_command_263 (by decide) ?_
  obtain ⟨n30, f29, hf29, hif29, h⟩ := h
  refine vw_iald hX hf29 hif29 dX6_command_264 ?_
  refine vw_iconst hX (v := 1) dX6_command_265 (by decide) ?_
  refine vw_isub hX dX6_command_266 ?_
  obtain ⟨hr31, h⟩ := h
  refine s_X6_213 hX hr31 dX6_command_267 (Nat.le_of_ble_eq_true rfl) (ct_X6_number (d := d + 1) (lst hX) h) (fun r32 w33 z34 h => ?_)
  refine vw_istore_n hX dX6_command_270 (by decide) rfl ?_
  refine vw_aload_n hX 1 dX6_command_271 rfl ?_
  refine vw_aload_n hX 1 dX6_command_272 rfl ?_
  obtain ⟨v35, hv35, h⟩ := h
  refine g_X6_180 hX hv35 dX6_command_273 ?_
  refine vw_if_ne hX (tgt := 287) dX6_command_276 (by decide) (fun c36 => ?_) (fun c36 => ?_)
  · have h := h.1 c36
    exact vw_sub [1, 0] rfl (pB_X6_command_287 hX hE _ _ _ _ _ _ h)
  · have h := h.2 c36
    refine vw_aload_n hX 1 dX6_command_279 rfl ?_
    refine vw_iload_n hX 0 dX6_command_280 rfl ?_
    obtain ⟨hr37, h⟩ := h
    refine s_X6_291 hX hr37 dX6_command_281 (Nat.le_of_ble_eq_true rfl) (ct_X6_mayPay (d := d + 2) (lst hX) h) (fun r38 w39 z40 h => ?_)
    refine vw_if_eq hX (tgt := 291) dX6_command_284 (by decide) (fun c41 => ?_) (fun c41 => ?_)
    · have h := h.1 c41
      refine vw_iconst hX (v := 0) dX6_command_291 (by decide) ?_
      exact vw_sub [1, 0] rfl (pB_X6_command_292 hX hE _ _ _ _ _ _ _ h)
    · have h := h.2 c41
      exact vw_sub [1, 0] rfl (pB_X6_command_287 hX hE _ _ _ _ _ _ h)
def B_X6_command_215 (a0 : Nat) (Q : Mm → Nat → Prop) (x1 : Int32) (y0 : Int32) (y1 : Nat) (w : Mm) (z : Nat) : Prop :=
  isO w y1 10 ∧ F_X6_ends y1 y0 w z (fun r43 w44 z45 => (r43 = 0 → isO w44 a0 10 ∧ F_X6_go a0 w44 z45 (fun w49 z50 => Q w49 z50)) ∧
  (¬ r43 = 0 → isO w44 a0 10 ∧ F_X6_decides a0 x1 w44 z45 (fun r52 w53 z54 => ∃ f55, obj w53 a0 10 = some f55 ∧ 20 < f55.length ∧ ∀ w56, w56 = mset w53 a0 (.inl (10, f55.set 20 (.int (r52)))) → isO w56 a0 10 ∧ F_X6_go a0 w56 z54 (fun w59 z60 => Q w59 z60))))
set_option maxRecDepth 100000 in
set_option maxHeartbeats 4000000 in
theorem pB_X6_command_215 {C : Cx} {d : Nat} {a0 : Nat} {Q : Mm → Nat → Prop} {X : String → Mm → Nat → Prop} (hX : CX C cX6_command RX6 2 none [] (d + 6)) (hE : EQ C (rV Q) X) : ∀ (x1 : Int32) (y0 : Int32) (y1 : Nat) (w : Mm) (z mc ms : Nat), B_X6_command_215 a0 Q x1 y0 y1 w z → VW C 215 [(0, .ref (a0)), (1, .int (x1))] [.int (y0), .ref (y1)] w z mc ms := by
  intro x1 y0 y1 w z mc ms h
  unfold B_X6_command_215 at h
  obtain ⟨hr42, h⟩ := h
  refine s_X6_230 hX hr42 dX6_command_215 (Nat.le_of_ble_eq_true rfl) (ct_X6_ends (d := d + 4) (lst hX) h) (fun r43 w44 z45 h => ?_)
  refine vw_if_eq hX (tgt := 230) dX6_command_218 (by decide) (fun c46 => ?_) (fun c46 => ?_)
  · have h := h.1 c46
    refine vw_goto hX (tgt := 307) dX6_command_230 (by decide) ?_
    refine vw_aload_n hX 0 dX6_command_307 rfl ?_
    obtain ⟨hr47, h⟩ := h
    refine s_X6_197 hX hr47 dX6_command_308 (Nat.le_of_ble_eq_true rfl) (ct_X6_go (d := d + 2) (lst hX) h) (fun w49 z50 h => ?_)
    exact vw_vret hX hE dX6_command_311 ⟨rfl, h⟩
  · have h := h.2 c46
    refine vw_aload_n hX 0 dX6_command_221 rfl ?_
    refine vw_aload_n hX 0 dX6_command_222 rfl ?_
    refine vw_iload_n hX 1 dX6_command_223 rfl ?_
    obtain ⟨hr51, h⟩ := h
    refine s_X6_286 hX hr51 dX6_command_224 (Nat.le_of_ble_eq_true rfl) (ct_X6_decides (d := d + 3) (lst hX) h) (fun r52 w53 z54 h => ?_)
    obtain ⟨f55, hf55, hlf55, h⟩ := h
    refine p_X6_238 hX hf55 hlf55 dX6_command_227 ?_
    refine vw_nmW (fun w56 ew56 => ?_)
    have h := h w56 ew56
    refine vw_goto hX (tgt := 307) dX6_command_230 (by decide) ?_
    refine vw_aload_n hX 0 dX6_command_307 rfl ?_
    obtain ⟨hr57, h⟩ := h
    refine s_X6_197 hX hr57 dX6_command_308 (Nat.le_of_ble_eq_true rfl) (ct_X6_go (d := d + 2) (lst hX) h) (fun w59 z60 h => ?_)
    exact vw_vret hX hE dX6_command_311 ⟨rfl, h⟩
def B_X6_command_210 (a0 : Nat) (Q : Mm → Nat → Prop) (x1 : Int32) (y0 : Nat) (w : Mm) (z : Nat) : Prop :=
  B_X6_command_215 a0 Q x1 1 y0 w z
set_option maxRecDepth 100000 in
set_option maxHeartbeats 4000000 in
theorem pB_X6_command_210 {C : Cx} {d : Nat} {a0 : Nat} {Q : Mm → Nat → Prop} {X : String → Mm → Nat → Prop} (hX : CX C cX6_command RX6 2 none [] (d + 6)) (hE : EQ C (rV Q) X) : ∀ (x1 : Int32) (y0 : Nat) (w : Mm) (z mc ms : Nat), B_X6_command_210 a0 Q x1 y0 w z → VW C 210 [(0, .ref (a0)), (1, .int (x1))] [.ref (y0)] w z mc ms := by
  intro x1 y0 w z mc ms h
  unfold B_X6_command_210 at h
  refine vw_iconst hX (v := 1) dX6_command_210 (by decide) ?_
  refine vw_goto hX (tgt := 215) dX6_command_211 (by decide) ?_
  exact pB_X6_command_215 hX hE _ _ _ _ _ _ _ h
def B_X6_command_91 (a0 : Nat) (Q : Mm → Nat → Prop) (x1 : Int32) (y0 : Int32) (y1 : Nat) (w : Mm) (z : Nat) : Prop :=
  isO w y1 10 ∧ F_X6_ends y1 y0 w z (fun r62 w63 z64 => (r62 = 0 → isO w63 a0 10 ∧ F_X6_go a0 w63 z64 (fun w68 z69 => Q w68 z69)) ∧
  (¬ r62 = 0 → isO w63 a0 10 ∧ F_X6_inspects a0 x1 w63 z64 (fun r71 w72 z73 => ∃ f74, obj w72 a0 10 = some f74 ∧ 20 < f74.length ∧ ∀ w75, w75 = mset w72 a0 (.inl (10, f74.set 20 (.int (r71)))) → isO w75 a0 10 ∧ F_X6_go a0 w75 z73 (fun w78 z79 => Q w78 z79))))
set_option maxRecDepth 100000 in
set_option maxHeartbeats 4000000 in
theorem pB_X6_command_91 {C : Cx} {d : Nat} {a0 : Nat} {Q : Mm → Nat → Prop} {X : String → Mm → Nat → Prop} (hX : CX C cX6_command RX6 2 none [] (d + 6)) (hE : EQ C (rV Q) X) : ∀ (x1 : Int32) (y0 : Int32) (y1 : Nat) (w : Mm) (z mc ms : Nat), B_X6_command_91 a0 Q x1 y0 y1 w z → VW C 91 [(0, .ref (a0)), (1, .int (x1))] [.int (y0), .ref (y1)] w z mc ms := by
  intro x1 y0 y1 w z mc ms h
  unfold B_X6_command_91 at h
  obtain ⟨hr61, h⟩ := h
  refine s_X6_230 hX hr61 dX6_command_91 (Nat.le_of_ble_eq_true rfl) (ct_X6_ends (d := d + 4) (lst hX) h) (fun r62 w63 z64 h => ?_)
  refine vw_if_eq hX (tgt := 106) dX6_command_94 (by decide) (fun c65 => ?_) (fun c65 => ?_)
  · have h := h.1 c65
    refine vw_goto hX (tgt := 307) dX6_command_106 (by decide) ?_
    refine vw_aload_n hX 0 dX6_command_307 rfl ?_
    obtain ⟨hr66, h⟩ := h
    refine s_X6_197 hX hr66 dX6_command_308 (Nat.le_of_ble_eq_true rfl) (ct_X6_go (d := d + 2) (lst hX) h) (fun w68 z69 h => ?_)
    exact vw_vret hX hE dX6_command_311 ⟨rfl, h⟩
  · have h := h.2 c65
    refine vw_aload_n hX 0 dX6_command_97 rfl ?_
    refine vw_aload_n hX 0 dX6_command_98 rfl ?_
    refine vw_iload_n hX 1 dX6_command_99 rfl ?_
    obtain ⟨hr70, h⟩ := h
    refine s_X6_276 hX hr70 dX6_command_100 (Nat.le_of_ble_eq_true rfl) (ct_X6_inspects (d := d + 1) (lst hX) h) (fun r71 w72 z73 h => ?_)
    obtain ⟨f74, hf74, hlf74, h⟩ := h
    refine p_X6_238 hX hf74 hlf74 dX6_command_103 ?_
    refine vw_nmW (fun w75 ew75 => ?_)
    have h := h w75 ew75
    refine vw_goto hX (tgt := 307) dX6_command_106 (by decide) ?_
    refine vw_aload_n hX 0 dX6_command_307 rfl ?_
    obtain ⟨hr76, h⟩ := h
    refine s_X6_197 hX hr76 dX6_command_308 (Nat.le_of_ble_eq_true rfl) (ct_X6_go (d := d + 2) (lst hX) h) (fun w78 z79 h => ?_)
    exact vw_vret hX hE dX6_command_311 ⟨rfl, h⟩
def B_X6_command_86 (a0 : Nat) (Q : Mm → Nat → Prop) (x1 : Int32) (y0 : Nat) (w : Mm) (z : Nat) : Prop :=
  B_X6_command_91 a0 Q x1 1 y0 w z
set_option maxRecDepth 100000 in
set_option maxHeartbeats 4000000 in
theorem pB_X6_command_86 {C : Cx} {d : Nat} {a0 : Nat} {Q : Mm → Nat → Prop} {X : String → Mm → Nat → Prop} (hX : CX C cX6_command RX6 2 none [] (d + 6)) (hE : EQ C (rV Q) X) : ∀ (x1 : Int32) (y0 : Nat) (w : Mm) (z mc ms : Nat), B_X6_command_86 a0 Q x1 y0 w z → VW C 86 [(0, .ref (a0)), (1, .int (x1))] [.ref (y0)] w z mc ms := by
  intro x1 y0 w z mc ms h
  unfold B_X6_command_86 at h
  refine vw_iconst hX (v := 1) dX6_command_86 (by decide) ?_
  refine vw_goto hX (tgt := 91) dX6_command_87 (by decide) ?_
  exact pB_X6_command_91 hX hE _ _ _ _ _ _ _ h
def F_X6_command (a0 : Nat) (w : Mm) (z : Nat) (Q : Mm → Nat → Prop) : Prop :=
  ∀ q1, isLit w q1 lit_6 → isO w a0 10 ∧ F_X6_is a0 q1 w z (fun r3 w4 z5 => (r3 = 0 → ∀ q7, isLit w4 q7 lit_10 → isO w4 a0 10 ∧ F_X6_is a0 q7 w4 z5 (fun r9 w10 z11 => (r9 = 0 → ∀ q13, isLit w10 q13 lit_14 → isO w10 a0 10 ∧ F_X6_is a0 q13 w10 z11 (fun r15 w16 z17 => (r15 = 0 → ∀ q19, isLit w16 q19 lit_12 → isO w16 a0 10 ∧ F_X6_is a0 q19 w16 z17 (fun r21 w22 z23 => (r21 = 0 → ∀ q25, isLit w22 q25 lit_13 → isO w22 a0 10 ∧ F_X6_is a0 q25 w22 z23 (fun r27 w28 z29 => (r27 = 0 → ∀ q31, isLit w28 q31 lit_15 → isO w28 a0 10 ∧ F_X6_is a0 q31 w28 z29 (fun r33 w34 z35 => (r33 = 0 → ∀ q37, isLit w34 q37 lit_16 → isO w34 a0 10 ∧ F_X6_is a0 q37 w34 z35 (fun r39 w40 z41 => (¬ r39 = 0 → B_X6_command_249 a0 Q 0 a0 w40 z41) ∧
  (r39 = 0 → B_X6_command_249 a0 Q 1 a0 w40 z41))) ∧
  (¬ r33 = 0 → isO w34 a0 10 ∧ F_X6_go a0 w34 z35 (fun w45 z46 => ∃ q47, fld w45 a0 10 0 = some (.ref (q47)) ∧ ∃ n49 f48, arI w45 q47 0 = some (n49, f48) ∧ vp_in 4 n49 ∧ isO w45 a0 10 ∧ F_X6_number a0 0 ((((f48 (4 : Int32).toNatClampNeg)) - 1)) w45 z46 (fun r51 w52 z53 => ∃ v54, fld w52 a0 10 19 = some (.int (v54)) ∧ (¬ v54 = 0 → B_X6_command_210 a0 Q r51 a0 w52 z53) ∧
  (v54 = 0 → isO w52 a0 10 ∧ F_X6_ofCase a0 r51 2 w52 z53 (fun r57 w58 z59 => (¬ r57 = 1 → B_X6_command_215 a0 Q r51 0 a0 w58 z59) ∧
  (r57 = 1 → B_X6_command_210 a0 Q r51 a0 w58 z59)))))))) ∧
  (¬ r27 = 0 → isO w28 a0 10 ∧ F_X6_go a0 w28 z29 (fun w63 z64 => ∃ q65, fld w63 a0 10 0 = some (.ref (q65)) ∧ ∃ n67 f66, arI w63 q65 0 = some (n67, f66) ∧ vp_in 0 n67 ∧ isO w63 a0 10 ∧ F_X6_number a0 1 ((jmin 9999 ((99999 - ((f66 (0 : Int32).toNatClampNeg)))))) w63 z64 (fun r69 w70 z71 => isO w70 a0 10 ∧ F_X6_ends a0 1 w70 z71 (fun r73 w74 z75 => (r73 = 0 → isO w74 a0 10 ∧ F_X6_go a0 w74 z75 (fun w79 z80 => Q w79 z80)) ∧
  (¬ r73 = 0 → isO w74 a0 10 ∧ F_X6_waits a0 r69 w74 z75 (fun r82 w83 z84 => ∃ f85, obj w83 a0 10 = some f85 ∧ 20 < f85.length ∧ ∀ w86, w86 = mset w83 a0 (.inl (10, f85.set 20 (.int (r82)))) → isO w86 a0 10 ∧ F_X6_go a0 w86 z84 (fun w89 z90 => Q w89 z90))))))))) ∧
  (¬ r21 = 0 → isO w22 a0 10 ∧ F_X6_go a0 w22 z23 (fun w93 z94 => isO w93 a0 10 ∧ F_X6_passengerHere a0 w93 z94 (fun r96 w97 z98 => ∃ v99, fld w97 a0 10 19 = some (.int (v99)) ∧ (¬ v99 = 0 → B_X6_command_86 a0 Q r96 a0 w97 z98) ∧
  (v99 = 0 → isO w97 a0 10 ∧ F_X6_mayInspect a0 r96 w97 z98 (fun r102 w103 z104 => (r102 = 0 → B_X6_command_91 a0 Q r96 0 a0 w103 z104) ∧
  (¬ r102 = 0 → B_X6_command_86 a0 Q r96 a0 w103 z104)))))))) ∧
  (¬ r15 = 0 → isO w16 a0 10 ∧ F_X6_appealTold a0 w16 z17 (fun w108 z109 => isO w108 a0 10 ∧ F_X6_go a0 w108 z109 (fun w112 z113 => Q w112 z113))))) ∧
  (¬ r9 = 0 → isO w10 a0 10 ∧ F_X6_rideTold a0 w10 z11 (fun w116 z117 => isO w116 a0 10 ∧ F_X6_go a0 w116 z117 (fun w120 z121 => Q w120 z121))))) ∧
  (¬ r3 = 0 → isO w4 a0 10 ∧ F_X6_buyTold a0 w4 z5 (fun w124 z125 => isO w124 a0 10 ∧ F_X6_go a0 w124 z125 (fun w128 z129 => Q w128 z129))))
set_option maxRecDepth 100000 in
set_option maxHeartbeats 4000000 in
theorem ct_X6_command {l : Launch} {g : Gp} {d : Nat} (hst : l.stackTraces = false) {a0 : Nat} {w : Mm} {z mc ms : Nat} {Q : Mm → Nat → Prop} {X : String → Mm → Nat → Prop} (h : F_X6_command a0 w z Q) : Ct l g yX6_command (.code yX6_command cX6_command 2 none) (d + 6) mc ms [.ref (a0)] w z (rV Q) X := by
  refine Ct.of hst (by decide) (Nat.le_of_ble_eq_true rfl) (fun C hX hE hg hl hNm => ?_)
  subst hg
  subst hl
  unfold F_X6_command at h
  show VW C 0 [(0, .ref (a0))] [] w z mc ms
  refine vw_aload_n hX 0 dX6_command_0 rfl ?_
  refine l_X6_256 hX dX6_command_1 (fun q1 hq1 => ?_)
  have h := h q1 hq1
  obtain ⟨hr2, h⟩ := h
  refine s_X6_208 hX hr2 dX6_command_4 (Nat.le_of_ble_eq_true rfl) (ct_X6_is (d := d + 1) (lst hX) h) (fun r3 w4 z5 h => ?_)
  refine vw_if_eq hX (tgt := 17) dX6_command_7 (by decide) (fun c6 => ?_) (fun c6 => ?_)
  · have h := h.1 c6
    refine vw_aload_n hX 0 dX6_command_17 rfl ?_
    refine l_X6_261 hX dX6_command_18 (fun q7 hq7 => ?_)
    have h := h q7 hq7
    obtain ⟨hr8, h⟩ := h
    refine s_X6_208 hX hr8 dX6_command_21 (Nat.le_of_ble_eq_true rfl) (ct_X6_is (d := d + 1) (lst hX) h) (fun r9 w10 z11 h => ?_)
    refine vw_if_eq hX (tgt := 34) dX6_command_24 (by decide) (fun c12 => ?_) (fun c12 => ?_)
    · have h := h.1 c12
      refine vw_aload_n hX 0 dX6_command_34 rfl ?_
      refine l_X6_266 hX dX6_command_35 (fun q13 hq13 => ?_)
      have h := h q13 hq13
      obtain ⟨hr14, h⟩ := h
      refine s_X6_208 hX hr14 dX6_command_38 (Nat.le_of_ble_eq_true rfl) (ct_X6_is (d := d + 1) (lst hX) h) (fun r15 w16 z17 h => ?_)
      refine vw_if_eq hX (tgt := 51) dX6_command_41 (by decide) (fun c18 => ?_) (fun c18 => ?_)
      · have h := h.1 c18
        refine vw_aload_n hX 0 dX6_command_51 rfl ?_
        refine l_X6_271 hX dX6_command_52 (fun q19 hq19 => ?_)
        have h := h q19 hq19
        obtain ⟨hr20, h⟩ := h
        refine s_X6_208 hX hr20 dX6_command_55 (Nat.le_of_ble_eq_true rfl) (ct_X6_is (d := d + 1) (lst hX) h) (fun r21 w22 z23 h => ?_)
        refine vw_if_eq hX (tgt := 109) dX6_command_58 (by decide) (fun c24 => ?_) (fun c24 => ?_)
        · have h := h.1 c24
          refine vw_aload_n hX 0 dX6_command_109 rfl ?_
          refine l_X6_279 hX dX6_command_110 (fun q25 hq25 => ?_)
          have h := h q25 hq25
          obtain ⟨hr26, h⟩ := h
          refine s_X6_208 hX hr26 dX6_command_113 (Nat.le_of_ble_eq_true rfl) (ct_X6_is (d := d + 1) (lst hX) h) (fun r27 w28 z29 h => ?_)
          refine vw_if_eq hX (tgt := 164) dX6_command_116 (by decide) (fun c30 => ?_) (fun c30 => ?_)
          · have h := h.1 c30
            refine vw_aload_n hX 0 dX6_command_164 rfl ?_
            refine l_X6_284 hX dX6_command_165 (fun q31 hq31 => ?_)
            have h := h q31 hq31
            obtain ⟨hr32, h⟩ := h
            refine s_X6_208 hX hr32 dX6_command_168 (Nat.le_of_ble_eq_true rfl) (ct_X6_is (d := d + 1) (lst hX) h) (fun r33 w34 z35 h => ?_)
            refine vw_if_eq hX (tgt := 233) dX6_command_171 (by decide) (fun c36 => ?_) (fun c36 => ?_)
            · have h := h.1 c36
              refine vw_aload_n hX 0 dX6_command_233 rfl ?_
              refine vw_aload_n hX 0 dX6_command_234 rfl ?_
              refine l_X6_289 hX dX6_command_235 (fun q37 hq37 => ?_)
              have h := h q37 hq37
              obtain ⟨hr38, h⟩ := h
              refine s_X6_208 hX hr38 dX6_command_238 (Nat.le_of_ble_eq_true rfl) (ct_X6_is (d := d + 1) (lst hX) h) (fun r39 w40 z41 h => ?_)
              refine vw_if_ne hX (tgt := 248) dX6_command_241 (by decide) (fun c42 => ?_) (fun c42 => ?_)
              · have h := h.1 c42
                refine vw_iconst hX (v := 0) dX6_command_248 (by decide) ?_
                exact pB_X6_command_249 hX hE _ _ _ _ _ _ h
              · have h := h.2 c42
                refine vw_iconst hX (v := 1) dX6_command_244 (by decide) ?_
                refine vw_goto hX (tgt := 249) dX6_command_245 (by decide) ?_
                exact pB_X6_command_249 hX hE _ _ _ _ _ _ h
            · have h := h.2 c36
              refine vw_aload_n hX 0 dX6_command_174 rfl ?_
              obtain ⟨hr43, h⟩ := h
              refine s_X6_197 hX hr43 dX6_command_175 (Nat.le_of_ble_eq_true rfl) (ct_X6_go (d := d + 2) (lst hX) h) (fun w45 z46 h => ?_)
              refine vw_aload_n hX 0 dX6_command_178 rfl ?_
              refine vw_iconst hX (v := 0) dX6_command_179 (by decide) ?_
              refine vw_aload_n hX 0 dX6_command_180 rfl ?_
              obtain ⟨q47, hq47, h⟩ := h
              refine g_X6_9 hX hq47 dX6_command_181 ?_
              refine vw_iconst hX (v := 4) dX6_command_184 (by decide) ?_
              obtain ⟨n49, f48, hf48, hif48, h⟩ := h
              refine vw_iald hX hf48 hif48 dX6_command_185 ?_
              refine vw_iconst hX (v := 1) dX6_command_186 (by decide) ?_
              refine vw_isub hX dX6_command_187 ?_
              obtain ⟨hr50, h⟩ := h
              refine s_X6_213 hX hr50 dX6_command_188 (Nat.le_of_ble_eq_true rfl) (ct_X6_number (d := d + 1) (lst hX) h) (fun r51 w52 z53 h => ?_)
              refine vw_istore_n hX dX6_command_191 (by decide) rfl ?_
              refine vw_aload_n hX 1 dX6_command_192 rfl ?_
              refine vw_aload_n hX 1 dX6_command_193 rfl ?_
              obtain ⟨v54, hv54, h⟩ := h
              refine g_X6_180 hX hv54 dX6_command_194 ?_
              refine vw_if_ne hX (tgt := 210) dX6_command_197 (by decide) (fun c55 => ?_) (fun c55 => ?_)
              · have h := h.1 c55
                exact vw_sub [1, 0] rfl (pB_X6_command_210 hX hE _ _ _ _ _ _ h)
              · have h := h.2 c55
                refine vw_aload_n hX 1 dX6_command_200 rfl ?_
                refine vw_iload_n hX 0 dX6_command_201 rfl ?_
                refine vw_iconst hX (v := 2) dX6_command_202 (by decide) ?_
                obtain ⟨hr56, h⟩ := h
                refine s_X6_138 hX hr56 dX6_command_203 (Nat.le_of_ble_eq_true rfl) (ct_X6_ofCase (d := d + 5) (lst hX) h) (fun r57 w58 z59 h => ?_)
                refine vw_iconst hX (v := 1) dX6_command_206 (by decide) ?_
                refine vw_icmp_ne hX (tgt := 214) dX6_command_207 (by decide) (fun c60 => ?_) (fun c60 => ?_)
                · have h := h.1 c60
                  refine vw_iconst hX (v := 0) dX6_command_214 (by decide) ?_
                  exact vw_sub [1, 0] rfl (pB_X6_command_215 hX hE _ _ _ _ _ _ _ h)
                · have h := h.2 c60
                  exact vw_sub [1, 0] rfl (pB_X6_command_210 hX hE _ _ _ _ _ _ h)
          · have h := h.2 c30
            refine vw_aload_n hX 0 dX6_command_119 rfl ?_
            obtain ⟨hr61, h⟩ := h
            refine s_X6_197 hX hr61 dX6_command_120 (Nat.le_of_ble_eq_true rfl) (ct_X6_go (d := d + 2) (lst hX) h) (fun w63 z64 h => ?_)
            refine vw_aload_n hX 0 dX6_command_123 rfl ?_
            refine vw_iconst hX (v := 1) dX6_command_124 (by decide) ?_
            refine vw_sipush hX (v := 9999) dX6_command_125 (by decide) ?_
            refine vw_ldcI hX kw_1642 dX6_command_128 ?_
            refine vw_aload_n hX 0 dX6_command_130 rfl ?_
            obtain ⟨q65, hq65, h⟩ := h
            refine g_X6_9 hX hq65 dX6_command_131 ?_
            refine vw_iconst hX (v := 0) dX6_command_134 (by decide) ?_
            obtain ⟨n67, f66, hf66, hif66, h⟩ := h
            refine vw_iald hX hf66 hif66 dX6_command_135 ?_
            refine vw_isub hX dX6_command_136 ?_
            refine vw_mmin hX kw_1607 (Nat.le_of_ble_eq_true rfl) dX6_command_137 ?_
            obtain ⟨hr68, h⟩ := h
            refine s_X6_213 hX hr68 dX6_command_140 (Nat.le_of_ble_eq_true rfl) (ct_X6_number (d := d + 1) (lst hX) h) (fun r69 w70 z71 h => ?_)
            refine vw_istore_n hX dX6_command_143 (by decide) rfl ?_
            refine vw_aload_n hX 1 dX6_command_144 rfl ?_
            refine vw_iconst hX (v := 1) dX6_command_145 (by decide) ?_
            obtain ⟨hr72, h⟩ := h
            refine s_X6_230 hX hr72 dX6_command_146 (Nat.le_of_ble_eq_true rfl) (ct_X6_ends (d := d + 4) (lst hX) h) (fun r73 w74 z75 h => ?_)
            refine vw_if_eq hX (tgt := 161) dX6_command_149 (by decide) (fun c76 => ?_) (fun c76 => ?_)
            · have h := h.1 c76
              refine vw_goto hX (tgt := 307) dX6_command_161 (by decide) ?_
              refine vw_aload_n hX 1 dX6_command_307 rfl ?_
              obtain ⟨hr77, h⟩ := h
              refine s_X6_197 hX hr77 dX6_command_308 (Nat.le_of_ble_eq_true rfl) (ct_X6_go (d := d + 2) (lst hX) h) (fun w79 z80 h => ?_)
              exact vw_vret hX hE dX6_command_311 ⟨rfl, h⟩
            · have h := h.2 c76
              refine vw_aload_n hX 1 dX6_command_152 rfl ?_
              refine vw_aload_n hX 1 dX6_command_153 rfl ?_
              refine vw_iload_n hX 0 dX6_command_154 rfl ?_
              obtain ⟨hr81, h⟩ := h
              refine s_X6_281 hX hr81 dX6_command_155 (Nat.le_of_ble_eq_true rfl) (ct_X6_waits (d := d + 5) (lst hX) h) (fun r82 w83 z84 h => ?_)
              obtain ⟨f85, hf85, hlf85, h⟩ := h
              refine p_X6_238 hX hf85 hlf85 dX6_command_158 ?_
              refine vw_nmW (fun w86 ew86 => ?_)
              have h := h w86 ew86
              refine vw_goto hX (tgt := 307) dX6_command_161 (by decide) ?_
              refine vw_aload_n hX 1 dX6_command_307 rfl ?_
              obtain ⟨hr87, h⟩ := h
              refine s_X6_197 hX hr87 dX6_command_308 (Nat.le_of_ble_eq_true rfl) (ct_X6_go (d := d + 2) (lst hX) h) (fun w89 z90 h => ?_)
              exact vw_vret hX hE dX6_command_311 ⟨rfl, h⟩
        · have h := h.2 c24
          refine vw_aload_n hX 0 dX6_command_61 rfl ?_
          obtain ⟨hr91, h⟩ := h
          refine s_X6_197 hX hr91 dX6_command_62 (Nat.le_of_ble_eq_true rfl) (ct_X6_go (d := d + 2) (lst hX) h) (fun w93 z94 h => ?_)
          refine vw_aload_n hX 0 dX6_command_65 rfl ?_
          obtain ⟨hr95, h⟩ := h
          refine s_X6_218 hX hr95 dX6_command_66 (Nat.le_of_ble_eq_true rfl) (ct_X6_passengerHere (d := d + 1) (lst hX) h) (fun r96 w97 z98 h => ?_)
          refine vw_istore_n hX dX6_command_69 (by decide) rfl ?_
          refine vw_aload_n hX 1 dX6_command_70 rfl ?_
          refine vw_aload_n hX 1 dX6_command_71 rfl ?_
          obtain ⟨v99, hv99, h⟩ := h
          refine g_X6_180 hX hv99 dX6_command_72 ?_
          refine vw_if_ne hX (tgt := 86) dX6_command_75 (by decide) (fun c100 => ?_) (fun c100 => ?_)
          · have h := h.1 c100
            exact vw_sub [1, 0] rfl (pB_X6_command_86 hX hE _ _ _ _ _ _ h)
          · have h := h.2 c100
            refine vw_aload_n hX 1 dX6_command_78 rfl ?_
            refine vw_iload_n hX 0 dX6_command_79 rfl ?_
            obtain ⟨hr101, h⟩ := h
            refine s_X6_273 hX hr101 dX6_command_80 (Nat.le_of_ble_eq_true rfl) (ct_X6_mayInspect (d := d + 3) (lst hX) h) (fun r102 w103 z104 h => ?_)
            refine vw_if_eq hX (tgt := 90) dX6_command_83 (by decide) (fun c105 => ?_) (fun c105 => ?_)
            · have h := h.1 c105
              refine vw_iconst hX (v := 0) dX6_command_90 (by decide) ?_
              exact vw_sub [1, 0] rfl (pB_X6_command_91 hX hE _ _ _ _ _ _ _ h)
            · have h := h.2 c105
              exact vw_sub [1, 0] rfl (pB_X6_command_86 hX hE _ _ _ _ _ _ h)
      · have h := h.2 c18
        refine vw_aload_n hX 0 dX6_command_44 rfl ?_
        obtain ⟨hr106, h⟩ := h
        refine s_X6_268 hX hr106 dX6_command_45 (Nat.le_of_ble_eq_true rfl) (ct_X6_appealTold (d := d + 0) (lst hX) h) (fun w108 z109 h => ?_)
        refine vw_goto hX (tgt := 307) dX6_command_48 (by decide) ?_
        refine vw_aload_n hX 0 dX6_command_307 rfl ?_
        obtain ⟨hr110, h⟩ := h
        refine s_X6_197 hX hr110 dX6_command_308 (Nat.le_of_ble_eq_true rfl) (ct_X6_go (d := d + 2) (lst hX) h) (fun w112 z113 h => ?_)
        exact vw_vret hX hE dX6_command_311 ⟨rfl, h⟩
    · have h := h.2 c12
      refine vw_aload_n hX 0 dX6_command_27 rfl ?_
      obtain ⟨hr114, h⟩ := h
      refine s_X6_263 hX hr114 dX6_command_28 (Nat.le_of_ble_eq_true rfl) (ct_X6_rideTold (d := d + 0) (lst hX) h) (fun w116 z117 h => ?_)
      refine vw_goto hX (tgt := 307) dX6_command_31 (by decide) ?_
      refine vw_aload_n hX 0 dX6_command_307 rfl ?_
      obtain ⟨hr118, h⟩ := h
      refine s_X6_197 hX hr118 dX6_command_308 (Nat.le_of_ble_eq_true rfl) (ct_X6_go (d := d + 2) (lst hX) h) (fun w120 z121 h => ?_)
      exact vw_vret hX hE dX6_command_311 ⟨rfl, h⟩
  · have h := h.2 c6
    refine vw_aload_n hX 0 dX6_command_10 rfl ?_
    obtain ⟨hr122, h⟩ := h
    refine s_X6_258 hX hr122 dX6_command_11 (Nat.le_of_ble_eq_true rfl) (ct_X6_buyTold (d := d + 0) (lst hX) h) (fun w124 z125 h => ?_)
    refine vw_goto hX (tgt := 307) dX6_command_14 (by decide) ?_
    refine vw_aload_n hX 0 dX6_command_307 rfl ?_
    obtain ⟨hr126, h⟩ := h
    refine s_X6_197 hX hr126 dX6_command_308 (Nat.le_of_ble_eq_true rfl) (ct_X6_go (d := d + 2) (lst hX) h) (fun w128 z129 h => ?_)
    exact vw_vret hX hE dX6_command_311 ⟨rfl, h⟩
def B_X6_remember_37 (a0 : Nat) (a1 : Nat) (Q : Mm → Nat → Prop) (w : Mm) (z : Nat) : Prop :=
  ∃ q1, fld w a0 10 1 = some (.ref (q1)) ∧ ∃ v2, fld w a0 10 5 = some (.int (v2)) ∧ F_X6_copy a1 0 q1 ((v2 * 445)) w z (fun w4 z5 => ∃ v6, fld w4 a0 10 5 = some (.int (v6)) ∧ ∃ f7, obj w4 a0 10 = some f7 ∧ 5 < f7.length ∧ ∀ w8, w8 = mset w4 a0 (.inl (10, f7.set 5 (.int ((v6 + 1))))) → Q w8 z5)
set_option maxRecDepth 100000 in
set_option maxHeartbeats 4000000 in
theorem pB_X6_remember_37 {C : Cx} {d : Nat} {a0 : Nat} {a1 : Nat} {Q : Mm → Nat → Prop} {X : String → Mm → Nat → Prop} (hX : CX C cX6_remember RX6 2 none [] (d + 3)) (hE : EQ C (rV Q) X) : ∀  (w : Mm) (z mc ms : Nat), B_X6_remember_37 a0 a1 Q  w z → VW C 37 [(0, .ref (a0)), (1, .ref (a1))] [] w z mc ms := by
  intro  w z mc ms h
  unfold B_X6_remember_37 at h
  refine vw_aload_n hX 1 dX6_remember_37 rfl ?_
  refine vw_iconst hX (v := 0) dX6_remember_38 (by decide) ?_
  refine vw_aload_n hX 0 dX6_remember_39 rfl ?_
  obtain ⟨q1, hq1, h⟩ := h
  refine g_X6_13 hX hq1 dX6_remember_40 ?_
  refine vw_aload_n hX 0 dX6_remember_43 rfl ?_
  obtain ⟨v2, hv2, h⟩ := h
  refine g_X6_61 hX hv2 dX6_remember_44 ?_
  refine vw_sipush hX (v := 445) dX6_remember_47 (by decide) ?_
  refine vw_imul hX dX6_remember_50 ?_
  refine s_X6_73 hX dX6_remember_51 (Nat.le_of_ble_eq_true rfl) (ct_X6_copy (d := d + 0) (lst hX) h) (fun w4 z5 h => ?_)
  refine vw_aload_n hX 0 dX6_remember_54 rfl ?_
  refine vw_dup hX dX6_remember_55 rfl ?_
  obtain ⟨v6, hv6, h⟩ := h
  refine g_X6_61 hX hv6 dX6_remember_56 ?_
  refine vw_iconst hX (v := 1) dX6_remember_59 (by decide) ?_
  refine vw_iadd hX dX6_remember_60 ?_
  obtain ⟨f7, hf7, hlf7, h⟩ := h
  refine p_X6_61 hX hf7 hlf7 dX6_remember_61 ?_
  refine vw_nmW (fun w8 ew8 => ?_)
  have h := h w8 ew8
  exact vw_vret hX hE dX6_remember_64 ⟨rfl, h⟩
def F_X6_remember (a0 : Nat) (a1 : Nat) (w : Mm) (z : Nat) (Q : Mm → Nat → Prop) : Prop :=
  ∃ v1, fld w a0 10 5 = some (.int (v1)) ∧ (¬ v1 = 8 → B_X6_remember_37 a0 a1 Q w z) ∧
  (v1 = 8 → ∃ q3, fld w a0 10 1 = some (.ref (q3)) ∧ ∃ q4, fld w a0 10 1 = some (.ref (q4)) ∧ ∃ n6 f5 n8 f7, arI w q3 0 = some (n6, f5) ∧ arW w q4 0 = some (n8, f7) ∧ ¬ (445 : Int32) < 0 ∧ ¬ (0 : Int32) < 0 ∧ ¬ (3115 : Int32) < 0 ∧ (445 : Int32).toNatClampNeg + (3115 : Int32).toNatClampNeg ≤ n6 ∧ (0 : Int32).toNatClampNeg + (3115 : Int32).toNatClampNeg ≤ n8 ∧ ∀ w9, w9 = mset w q4 (.inr (0, n8, .inl (va_cpy f5 f7 (445 : Int32).toNatClampNeg (0 : Int32).toNatClampNeg (3115 : Int32).toNatClampNeg))) → ∃ v10, fld w9 a0 10 5 = some (.int (v10)) ∧ ∃ f11, obj w9 a0 10 = some f11 ∧ 5 < f11.length ∧ ∀ w12, w12 = mset w9 a0 (.inl (10, f11.set 5 (.int ((v10 - 1))))) → B_X6_remember_37 a0 a1 Q w12 z)
set_option maxRecDepth 100000 in
set_option maxHeartbeats 4000000 in
theorem ct_X6_remember {l : Launch} {g : Gp} {d : Nat} (hst : l.stackTraces = false) {a0 : Nat} {a1 : Nat} {w : Mm} {z mc ms : Nat} {Q : Mm → Nat → Prop} {X : String → Mm → Nat → Prop} (h : F_X6_remember a0 a1 w z Q) : Ct l g yX6_remember (.code yX6_remember cX6_remember 2 none) (d + 3) mc ms [.ref (a0), .ref (a1)] w z (rV Q) X := by
  refine Ct.of hst (by decide) (Nat.le_of_ble_eq_true rfl) (fun C hX hE hg hl hNm => ?_)
  subst hg
  subst hl
  unfold F_X6_remember at h
  show VW C 0 [(0, .ref (a0)), (1, .ref (a1))] [] w z mc ms
  refine vw_aload_n hX 0 dX6_remember_0 rfl ?_
  obtain ⟨v1, hv1, h⟩ := h
  refine g_X6_61 hX hv1 dX6_remember_1 ?_
  refine vw_bipush hX (v := 8) dX6_remember_4 (by decide) ?_
  refine vw_icmp_ne hX (tgt := 37) dX6_remember_6 (by decide) (fun c2 => ?_) (fun c2 => ?_)
  · have h := h.1 c2
    exact pB_X6_remember_37 hX hE _ _ _ _ h
  · have h := h.2 c2
    refine vw_aload_n hX 0 dX6_remember_9 rfl ?_
    obtain ⟨q3, hq3, h⟩ := h
    refine g_X6_13 hX hq3 dX6_remember_10 ?_
    refine vw_sipush hX (v := 445) dX6_remember_13 (by decide) ?_
    refine vw_aload_n hX 0 dX6_remember_16 rfl ?_
    obtain ⟨q4, hq4, h⟩ := h
    refine g_X6_13 hX hq4 dX6_remember_17 ?_
    refine vw_iconst hX (v := 0) dX6_remember_20 (by decide) ?_
    refine vw_sipush hX (v := 3115) dX6_remember_21 (by decide) ?_
    obtain ⟨n6, f5, n8, f7, hc1, hc2, hc3, hc4, hc5, hc6, hc7, h⟩ := h
    refine vw_copy hX 0 (by decide) kw_1590 rfl hc1 hc2 hc3 hc4 hc5 hc6 hc7 (fun _ _ => rfl) (Nat.le_of_ble_eq_true rfl) dX6_remember_24 ?_
    refine vw_nmW (fun w9 ew9 => ?_)
    have h := h w9 ew9
    refine vw_aload_n hX 0 dX6_remember_27 rfl ?_
    refine vw_dup hX dX6_remember_28 rfl ?_
    obtain ⟨v10, hv10, h⟩ := h
    refine g_X6_61 hX hv10 dX6_remember_29 ?_
    refine vw_iconst hX (v := 1) dX6_remember_32 (by decide) ?_
    refine vw_isub hX dX6_remember_33 ?_
    obtain ⟨f11, hf11, hlf11, h⟩ := h
    refine p_X6_61 hX hf11 hlf11 dX6_remember_34 ?_
    refine vw_nmW (fun w12 ew12 => ?_)
    have h := h w12 ew12
    exact pB_X6_remember_37 hX hE _ _ _ _ h
def B_X6_commands_62 (a0 : Nat) (Q : Int32 → Mm → Nat → Prop) (x1 : Int32) (w : Mm) (z : Nat) : Prop :=
  ∃ v1, fld w a0 10 19 = some (.int (v1)) ∧ (v1 = 0 → Q x1 w z) ∧
  (¬ v1 = 0 → Q (-1) w z)
set_option maxRecDepth 100000 in
set_option maxHeartbeats 4000000 in
theorem pB_X6_commands_62 {C : Cx} {d : Nat} {a0 : Nat} {Q : Int32 → Mm → Nat → Prop} {X : String → Mm → Nat → Prop} (hX : CX C cX6_commands RX6 2 (some .int) [] (d + 7)) (hE : EQ C (rI Q) X) : ∀ (x1 : Int32) (w : Mm) (z mc ms : Nat), B_X6_commands_62 a0 Q x1 w z → VW C 62 [(0, .ref (a0)), (1, .int (x1))] [] w z mc ms := by
  intro x1 w z mc ms h
  unfold B_X6_commands_62 at h
  refine vw_aload_n hX 0 dX6_commands_62 rfl ?_
  obtain ⟨v1, hv1, h⟩ := h
  refine g_X6_180 hX hv1 dX6_commands_63 ?_
  refine vw_if_eq hX (tgt := 73) dX6_commands_66 (by decide) (fun c2 => ?_) (fun c2 => ?_)
  · have h := h.1 c2
    refine vw_iload_n hX 1 dX6_commands_73 rfl ?_
    exact vw_iret hX hE dX6_commands_74 ⟨_, rfl, h⟩
  · have h := h.2 c2
    refine vw_iconst hX (v := (-1)) dX6_commands_69 (by decide) ?_
    refine vw_goto hX (tgt := 74) dX6_commands_70 (by decide) ?_
    exact vw_iret hX hE dX6_commands_74 ⟨_, rfl, h⟩
def B_X6_commands_26 (a0 : Nat) (Q : Int32 → Mm → Nat → Prop) (x1 : Int32) (w : Mm) (z : Nat) : Prop :=
  ∃ f3, obj w a0 10 = some f3 ∧ 9 < f3.length ∧ ∀ w4, w4 = mset w a0 (.inl (10, f3.set 9 (.int (0)))) → ∃ v5, fld w4 a0 10 19 = some (.int (v5)) ∧ (v5 = 0 → ∃ q7, fld w4 a0 10 3 = some (.ref (q7)) ∧ isO w4 a0 10 ∧ F_X6_remember a0 q7 w4 z (fun w10 z11 => B_X6_commands_62 a0 Q x1 w10 z11)) ∧
  (¬ v5 = 0 → ∃ q12, fld w4 a0 10 3 = some (.ref (q12)) ∧ ∃ q13, fld w4 a0 10 0 = some (.ref (q13)) ∧ F_X6_copy q12 0 q13 0 w4 z (fun w15 z16 => B_X6_commands_62 a0 Q x1 w15 z16))
set_option maxRecDepth 100000 in
set_option maxHeartbeats 4000000 in
theorem pB_X6_commands_26 {C : Cx} {d : Nat} {a0 : Nat} {Q : Int32 → Mm → Nat → Prop} {X : String → Mm → Nat → Prop} (hX : CX C cX6_commands RX6 2 (some .int) [] (d + 7)) (hE : EQ C (rI Q) X) : ∀ (x1 : Int32) (w : Mm) (z mc ms : Nat), B_X6_commands_26 a0 Q x1 w z → VW C 26 [(0, .ref (a0)), (1, .int (x1))] [] w z mc ms := by
  intro x1 w z mc ms h
  unfold B_X6_commands_26 at h
  refine vw_aload_n hX 0 dX6_commands_26 rfl ?_
  refine vw_iconst hX (v := 0) dX6_commands_27 (by decide) ?_
  obtain ⟨f3, hf3, hlf3, h⟩ := h
  refine p_X6_51 hX hf3 hlf3 dX6_commands_28 ?_
  refine vw_nmW (fun w4 ew4 => ?_)
  have h := h w4 ew4
  refine vw_aload_n hX 0 dX6_commands_31 rfl ?_
  obtain ⟨v5, hv5, h⟩ := h
  refine g_X6_180 hX hv5 dX6_commands_32 ?_
  refine vw_if_eq hX (tgt := 54) dX6_commands_35 (by decide) (fun c6 => ?_) (fun c6 => ?_)
  · have h := h.1 c6
    refine vw_aload_n hX 0 dX6_commands_54 rfl ?_
    refine vw_aload_n hX 0 dX6_commands_55 rfl ?_
    obtain ⟨q7, hq7, h⟩ := h
    refine g_X6_19 hX hq7 dX6_commands_56 ?_
    obtain ⟨hr8, h⟩ := h
    refine s_X6_300 hX hr8 dX6_commands_59 (Nat.le_of_ble_eq_true rfl) (ct_X6_remember (d := d + 3) (lst hX) h) (fun w10 z11 h => ?_)
    exact pB_X6_commands_62 hX hE _ _ _ _ _ h
  · have h := h.2 c6
    refine vw_aload_n hX 0 dX6_commands_38 rfl ?_
    obtain ⟨q12, hq12, h⟩ := h
    refine g_X6_19 hX hq12 dX6_commands_39 ?_
    refine vw_iconst hX (v := 0) dX6_commands_42 (by decide) ?_
    refine vw_aload_n hX 0 dX6_commands_43 rfl ?_
    obtain ⟨q13, hq13, h⟩ := h
    refine g_X6_9 hX hq13 dX6_commands_44 ?_
    refine vw_iconst hX (v := 0) dX6_commands_47 (by decide) ?_
    refine s_X6_73 hX dX6_commands_48 (Nat.le_of_ble_eq_true rfl) (ct_X6_copy (d := d + 4) (lst hX) h) (fun w15 z16 h => ?_)
    refine vw_goto hX (tgt := 62) dX6_commands_51 (by decide) ?_
    exact pB_X6_commands_62 hX hE _ _ _ _ _ h
def B_X6_commands_2 (a0 : Nat) (Q : Int32 → Mm → Nat → Prop) : Nat → Int32 → Mm → Nat → Prop
  | 0, _, _, _ => False
  | n + 1, x1, w, z => ∃ v17, fld w a0 10 19 = some (.int (v17)) ∧ (¬ v17 = 0 → B_X6_commands_26 a0 Q x1 w z) ∧
  (v17 = 0 → ∃ v19, fld w a0 10 15 = some (.int (v19)) ∧ (v19 = 0 → B_X6_commands_26 a0 Q x1 w z) ∧
  (¬ v19 = 0 → isO w a0 10 ∧ F_X6_command a0 w z (fun w23 z24 => B_X6_commands_2 a0 Q n ((x1 + 1)) w23 z24)))
set_option maxRecDepth 100000 in
set_option maxHeartbeats 4000000 in
theorem pB_X6_commands_2 {C : Cx} {d : Nat} {a0 : Nat} {Q : Int32 → Mm → Nat → Prop} {X : String → Mm → Nat → Prop} (hX : CX C cX6_commands RX6 2 (some .int) [] (d + 7)) (hE : EQ C (rI Q) X) : ∀ (n : Nat) (x1 : Int32) (w : Mm) (z mc ms : Nat), B_X6_commands_2 a0 Q n x1 w z → VW C 2 [(0, .ref (a0)), (1, .int (x1))] [] w z mc ms := by
  intro n
  induction n with
  | zero => intro x1 w z mc ms h; exact False.elim h
  | succ n ih =>
    intro x1 w z mc ms h
    unfold B_X6_commands_2 at h
    refine vw_aload_n hX 0 dX6_commands_2 rfl ?_
    obtain ⟨v17, hv17, h⟩ := h
    refine g_X6_180 hX hv17 dX6_commands_3 ?_
    refine vw_if_ne hX (tgt := 26) dX6_commands_6 (by decide) (fun c18 => ?_) (fun c18 => ?_)
    · have h := h.1 c18
      exact pB_X6_commands_26 hX hE _ _ _ _ _ h
    · have h := h.2 c18
      refine vw_aload_n hX 0 dX6_commands_9 rfl ?_
      obtain ⟨v19, hv19, h⟩ := h
      refine g_X6_167 hX hv19 dX6_commands_10 ?_
      refine vw_if_eq hX (tgt := 26) dX6_commands_13 (by decide) (fun c20 => ?_) (fun c20 => ?_)
      · have h := h.1 c20
        exact pB_X6_commands_26 hX hE _ _ _ _ _ h
      · have h := h.2 c20
        refine vw_aload_n hX 0 dX6_commands_16 rfl ?_
        obtain ⟨hr21, h⟩ := h
        refine s_X6_297 hX hr21 dX6_commands_17 (Nat.le_of_ble_eq_true rfl) (ct_X6_command (d := d + 0) (lst hX) h) (fun w23 z24 h => ?_)
        refine vw_iinc hX 1 (v := x1 + 1) dX6_commands_20 rfl rfl (by decide) rfl ?_
        refine vw_goto hX (tgt := 2) dX6_commands_23 (by decide) ?_
        exact vw_sub [1, 0] rfl (ih _ _ _ _ _ h)
def F_X6_commands (a0 : Nat) (w : Mm) (z : Nat) (Q : Int32 → Mm → Nat → Prop) : Prop :=
  ∃ n, B_X6_commands_2 a0 Q n 0 w z
set_option maxRecDepth 100000 in
set_option maxHeartbeats 4000000 in
theorem ct_X6_commands {l : Launch} {g : Gp} {d : Nat} (hst : l.stackTraces = false) {a0 : Nat} {w : Mm} {z mc ms : Nat} {Q : Int32 → Mm → Nat → Prop} {X : String → Mm → Nat → Prop} (h : F_X6_commands a0 w z Q) : Ct l g yX6_commands (.code yX6_commands cX6_commands 2 (some .int)) (d + 7) mc ms [.ref (a0)] w z (rI Q) X := by
  refine Ct.of hst (by decide) (Nat.le_of_ble_eq_true rfl) (fun C hX hE hg hl hNm => ?_)
  subst hg
  subst hl
  unfold F_X6_commands at h
  show VW C 0 [(0, .ref (a0))] [] w z mc ms
  refine vw_iconst hX (v := 0) dX6_commands_0 (by decide) ?_
  refine vw_istore_n hX dX6_commands_1 (by decide) rfl ?_
  obtain ⟨n, h⟩ := h
  exact vw_sub [1, 0] rfl (pB_X6_commands_2 hX hE n _ _ _ _ _ h)
def B_X6_load_64 (a0 : Nat) (Q : Int32 → Mm → Nat → Prop) (w : Mm) (z : Nat) : Prop :=
  isO w a0 10 ∧ F_X6_commands a0 w z (fun r2 w3 z4 => (¬ r2 = (-1) → ∃ q6, fld w3 a0 10 0 = some (.ref (q6)) ∧ ∃ n8 f7, arI w3 q6 0 = some (n8, f7) ∧ vp_in 2 n8 ∧ Q ((f7 (2 : Int32).toNatClampNeg)) w3 z4) ∧
  (r2 = (-1) → Q (-1) w3 z4))
set_option maxRecDepth 100000 in
set_option maxHeartbeats 4000000 in
theorem pB_X6_load_64 {C : Cx} {d : Nat} {a0 : Nat} {Q : Int32 → Mm → Nat → Prop} {X : String → Mm → Nat → Prop} (hX : CX C cX6_load RX6 2 (some .int) [] (d + 8)) (hE : EQ C (rI Q) X) : ∀  (w : Mm) (z mc ms : Nat), B_X6_load_64 a0 Q  w z → VW C 64 [(0, .ref (a0))] [] w z mc ms := by
  intro  w z mc ms h
  unfold B_X6_load_64 at h
  refine vw_aload_n hX 0 dX6_load_64 rfl ?_
  obtain ⟨hr1, h⟩ := h
  refine s_X6_313 hX hr1 dX6_load_65 (Nat.le_of_ble_eq_true rfl) (ct_X6_commands (d := d + 0) (lst hX) h) (fun r2 w3 z4 h => ?_)
  refine vw_iconst hX (v := (-1)) dX6_load_68 (by decide) ?_
  refine vw_icmp_ne hX (tgt := 76) dX6_load_69 (by decide) (fun c5 => ?_) (fun c5 => ?_)
  · have h := h.1 c5
    refine vw_aload_n hX 0 dX6_load_76 rfl ?_
    obtain ⟨q6, hq6, h⟩ := h
    refine g_X6_9 hX hq6 dX6_load_77 ?_
    refine vw_iconst hX (v := 2) dX6_load_80 (by decide) ?_
    obtain ⟨n8, f7, hf7, hif7, h⟩ := h
    refine vw_iald hX hf7 hif7 dX6_load_81 ?_
    exact vw_iret hX hE dX6_load_82 ⟨_, rfl, h⟩
  · have h := h.2 c5
    refine vw_iconst hX (v := (-1)) dX6_load_72 (by decide) ?_
    refine vw_goto hX (tgt := 82) dX6_load_73 (by decide) ?_
    exact vw_iret hX hE dX6_load_82 ⟨_, rfl, h⟩
def B_X6_load_41 (a0 : Nat) (Q : Int32 → Mm → Nat → Prop) : Nat → Mm → Nat → Prop
  | 0, _, _ => False
  | n + 1, w, z => ∃ v9, fld w a0 10 19 = some (.int (v9)) ∧ (¬ v9 = 0 → B_X6_load_64 a0 Q w z) ∧
  (v9 = 0 → ∀ q11, isLit w q11 lit_5 → isO w a0 10 ∧ F_X6_is a0 q11 w z (fun r13 w14 z15 => (r13 = 0 → B_X6_load_64 a0 Q w14 z15) ∧
  (¬ r13 = 0 → isO w14 a0 10 ∧ F_X6_passengerTold a0 w14 z15 (fun w19 z20 => B_X6_load_41 a0 Q n w19 z20))))
set_option maxRecDepth 100000 in
set_option maxHeartbeats 4000000 in
theorem pB_X6_load_41 {C : Cx} {d : Nat} {a0 : Nat} {Q : Int32 → Mm → Nat → Prop} {X : String → Mm → Nat → Prop} (hX : CX C cX6_load RX6 2 (some .int) [] (d + 8)) (hE : EQ C (rI Q) X) : ∀ (n : Nat)  (w : Mm) (z mc ms : Nat), B_X6_load_41 a0 Q n  w z → VW C 41 [(0, .ref (a0))] [] w z mc ms := by
  intro n
  induction n with
  | zero => intro  w z mc ms h; exact False.elim h
  | succ n ih =>
    intro  w z mc ms h
    unfold B_X6_load_41 at h
    refine vw_aload_n hX 0 dX6_load_41 rfl ?_
    obtain ⟨v9, hv9, h⟩ := h
    refine g_X6_180 hX hv9 dX6_load_42 ?_
    refine vw_if_ne hX (tgt := 64) dX6_load_45 (by decide) (fun c10 => ?_) (fun c10 => ?_)
    · have h := h.1 c10
      exact pB_X6_load_64 hX hE _ _ _ _ h
    · have h := h.2 c10
      refine vw_aload_n hX 0 dX6_load_48 rfl ?_
      refine l_X6_206 hX dX6_load_49 (fun q11 hq11 => ?_)
      have h := h q11 hq11
      obtain ⟨hr12, h⟩ := h
      refine s_X6_208 hX hr12 dX6_load_51 (Nat.le_of_ble_eq_true rfl) (ct_X6_is (d := d + 3) (lst hX) h) (fun r13 w14 z15 h => ?_)
      refine vw_if_eq hX (tgt := 64) dX6_load_54 (by decide) (fun c16 => ?_) (fun c16 => ?_)
      · have h := h.1 c16
        exact pB_X6_load_64 hX hE _ _ _ _ h
      · have h := h.2 c16
        refine vw_aload_n hX 0 dX6_load_57 rfl ?_
        obtain ⟨hr17, h⟩ := h
        refine s_X6_310 hX hr17 dX6_load_58 (Nat.le_of_ble_eq_true rfl) (ct_X6_passengerTold (d := d + 2) (lst hX) h) (fun w19 z20 h => ?_)
        refine vw_goto hX (tgt := 41) dX6_load_61 (by decide) ?_
        exact ih _ _ _ _ h
def B_X6_load_6 (a0 : Nat) (Q : Int32 → Mm → Nat → Prop) : Nat → Int32 → Mm → Nat → Prop
  | 0, _, _, _ => False
  | n + 1, x1, w, z => (445 ≤ x1 → isO w a0 10 ∧ F_X6_lineTold a0 w z (fun w24 z25 => ∃ v26, fld w24 a0 10 19 = some (.int (v26)) ∧ (¬ v26 = 0 → ∃ n, B_X6_load_41 a0 Q n w24 z25) ∧
  (v26 = 0 → isO w24 a0 10 ∧ F_X6_passengerTold a0 w24 z25 (fun w30 z31 => ∃ n, B_X6_load_41 a0 Q n w30 z31)))) ∧
  (¬ 445 ≤ x1 → ∃ q32, fld w a0 10 0 = some (.ref (q32)) ∧ ∃ n34 f33, arW w q32 0 = some (n34, f33) ∧ vp_in x1 n34 ∧ ∀ w35, w35 = mset w q32 (.inr (0, n34, .inl (upd f33 (x1 : Int32).toNatClampNeg 0))) → B_X6_load_6 a0 Q n ((x1 + 1)) w35 z)
set_option maxRecDepth 100000 in
set_option maxHeartbeats 4000000 in
theorem pB_X6_load_6 {C : Cx} {d : Nat} {a0 : Nat} {Q : Int32 → Mm → Nat → Prop} {X : String → Mm → Nat → Prop} (hX : CX C cX6_load RX6 2 (some .int) [] (d + 8)) (hE : EQ C (rI Q) X) : ∀ (n : Nat) (x1 : Int32) (w : Mm) (z mc ms : Nat), B_X6_load_6 a0 Q n x1 w z → VW C 6 [(0, .ref (a0)), (1, .int (x1))] [] w z mc ms := by
  intro n
  induction n with
  | zero => intro x1 w z mc ms h; exact False.elim h
  | succ n ih =>
    intro x1 w z mc ms h
    unfold B_X6_load_6 at h
    refine vw_iload_n hX 1 dX6_load_6 rfl ?_
    refine vw_sipush hX (v := 445) dX6_load_7 (by decide) ?_
    refine vw_icmp_ge hX (tgt := 26) dX6_load_10 (by decide) (fun c21 => ?_) (fun c21 => ?_)
    · have h := h.1 c21
      refine vw_aload_n hX 0 dX6_load_26 rfl ?_
      obtain ⟨hr22, h⟩ := h
      refine s_X6_307 hX hr22 dX6_load_27 (Nat.le_of_ble_eq_true rfl) (ct_X6_lineTold (d := d + 2) (lst hX) h) (fun w24 z25 h => ?_)
      refine vw_aload_n hX 0 dX6_load_30 rfl ?_
      obtain ⟨v26, hv26, h⟩ := h
      refine g_X6_180 hX hv26 dX6_load_31 ?_
      refine vw_if_ne hX (tgt := 41) dX6_load_34 (by decide) (fun c27 => ?_) (fun c27 => ?_)
      · have h := h.1 c27
        obtain ⟨n, h⟩ := h
        exact vw_sub [0] rfl (pB_X6_load_41 hX hE n _ _ _ _ h)
      · have h := h.2 c27
        refine vw_aload_n hX 0 dX6_load_37 rfl ?_
        obtain ⟨hr28, h⟩ := h
        refine s_X6_310 hX hr28 dX6_load_38 (Nat.le_of_ble_eq_true rfl) (ct_X6_passengerTold (d := d + 2) (lst hX) h) (fun w30 z31 h => ?_)
        obtain ⟨n, h⟩ := h
        exact vw_sub [0] rfl (pB_X6_load_41 hX hE n _ _ _ _ h)
    · have h := h.2 c21
      refine vw_aload_n hX 0 dX6_load_13 rfl ?_
      obtain ⟨q32, hq32, h⟩ := h
      refine g_X6_9 hX hq32 dX6_load_14 ?_
      refine vw_iload_n hX 1 dX6_load_17 rfl ?_
      refine vw_iconst hX (v := 0) dX6_load_18 (by decide) ?_
      obtain ⟨n34, f33, hf33, hif33, h⟩ := h
      refine vw_iast hX hf33 hif33 dX6_load_19 ?_
      refine vw_nmW (fun w35 ew35 => ?_)
      have h := h w35 ew35
      refine vw_iinc hX 1 (v := x1 + 1) dX6_load_20 rfl rfl (by decide) rfl ?_
      refine vw_goto hX (tgt := 6) dX6_load_23 (by decide) ?_
      exact vw_sub [1, 0] rfl (ih _ _ _ _ _ h)
def F_X6_load (a0 : Nat) (w : Mm) (z : Nat) (Q : Int32 → Mm → Nat → Prop) : Prop :=
  isO w a0 10 ∧ F_X6_starts a0 w z (fun w3 z4 => ∃ n, B_X6_load_6 a0 Q n 0 w3 z4)
set_option maxRecDepth 100000 in
set_option maxHeartbeats 4000000 in
theorem ct_X6_load {l : Launch} {g : Gp} {d : Nat} (hst : l.stackTraces = false) {a0 : Nat} {w : Mm} {z mc ms : Nat} {Q : Int32 → Mm → Nat → Prop} {X : String → Mm → Nat → Prop} (h : F_X6_load a0 w z Q) : Ct l g yX6_load (.code yX6_load cX6_load 2 (some .int)) (d + 8) mc ms [.ref (a0)] w z (rI Q) X := by
  refine Ct.of hst (by decide) (Nat.le_of_ble_eq_true rfl) (fun C hX hE hg hl hNm => ?_)
  subst hg
  subst hl
  unfold F_X6_load at h
  show VW C 0 [(0, .ref (a0))] [] w z mc ms
  refine vw_aload_n hX 0 dX6_load_0 rfl ?_
  obtain ⟨hr1, h⟩ := h
  refine s_X6_304 hX hr1 dX6_load_1 (Nat.le_of_ble_eq_true rfl) (ct_X6_starts (d := d + 4) (lst hX) h) (fun w3 z4 h => ?_)
  refine vw_iconst hX (v := 0) dX6_load_4 (by decide) ?_
  refine vw_istore_n hX dX6_load_5 (by decide) rfl ?_
  obtain ⟨n, h⟩ := h
  exact vw_sub [1, 0] rfl (pB_X6_load_6 hX hE n _ _ _ _ _ h)
def B_X6_lays_10 (a0 : Nat) (a1 : Nat) (Q : Mm → Nat → Prop) : Nat → Int32 → Mm → Nat → Prop
  | 0, _, _, _ => False
  | n + 1, x2, w, z => ∃ v1, fld w a0 10 9 = some (.int (v1)) ∧ (v1 ≤ x2 → isO w a0 10 ∧ F_X6_load a0 w z (fun r4 w5 z6 => ∃ f7, obj w5 a0 10 = some f7 ∧ 5 < f7.length ∧ ∀ w8, w8 = mset w5 a0 (.inl (10, f7.set 5 (.int (0)))) → Q w8 z6)) ∧
  (¬ v1 ≤ x2 → ∃ q9, fld w a0 10 7 = some (.ref (q9)) ∧ isO w a1 0 ∧ F_J0_charAt_5068e a1 x2 w z (fun r11 w12 z13 => ∃ n15 f14, arW w12 q9 0 = some (n15, f14) ∧ vp_in x2 n15 ∧ ∀ w16, w16 = mset w12 q9 (.inr (0, n15, .inl (upd f14 (x2 : Int32).toNatClampNeg r11))) → B_X6_lays_10 a0 a1 Q n ((x2 + 1)) w16 z13))
set_option maxRecDepth 100000 in
set_option maxHeartbeats 4000000 in
theorem pB_X6_lays_10 {C : Cx} {d : Nat} {a0 : Nat} {a1 : Nat} {Q : Mm → Nat → Prop} {X : String → Mm → Nat → Prop} (hX : CX C cX6_lays RX6 3 none [] (d + 9)) (hE : EQ C (rV Q) X) : ∀ (n : Nat) (x2 : Int32) (w : Mm) (z mc ms : Nat), B_X6_lays_10 a0 a1 Q n x2 w z → VW C 10 [(0, .ref (a0)), (1, .ref (a1)), (2, .int (x2))] [] w z mc ms := by
  intro n
  induction n with
  | zero => intro x2 w z mc ms h; exact False.elim h
  | succ n ih =>
    intro x2 w z mc ms h
    unfold B_X6_lays_10 at h
    refine vw_iload_n hX 2 dX6_lays_10 rfl ?_
    refine vw_aload_n hX 0 dX6_lays_11 rfl ?_
    obtain ⟨v1, hv1, h⟩ := h
    refine g_X6_51 hX hv1 dX6_lays_12 ?_
    refine vw_icmp_ge hX (tgt := 35) dX6_lays_15 (by decide) (fun c2 => ?_) (fun c2 => ?_)
    · have h := h.1 c2
      refine vw_aload_n hX 0 dX6_lays_35 rfl ?_
      obtain ⟨hr3, h⟩ := h
      refine s_X6_58 hX hr3 dX6_lays_36 (Nat.le_of_ble_eq_true rfl) (ct_X6_load (d := d + 0) (lst hX) h) (fun r4 w5 z6 h => ?_)
      refine vw_istore_n hX dX6_lays_39 (by decide) rfl ?_
      refine vw_aload_n hX 1 dX6_lays_40 rfl ?_
      refine vw_iconst hX (v := 0) dX6_lays_41 (by decide) ?_
      obtain ⟨f7, hf7, hlf7, h⟩ := h
      refine p_X6_61 hX hf7 hlf7 dX6_lays_42 ?_
      refine vw_nmW (fun w8 ew8 => ?_)
      have h := h w8 ew8
      exact vw_vret hX hE dX6_lays_45 ⟨rfl, h⟩
    · have h := h.2 c2
      refine vw_aload_n hX 0 dX6_lays_18 rfl ?_
      obtain ⟨q9, hq9, h⟩ := h
      refine g_X6_26 hX hq9 dX6_lays_19 ?_
      refine vw_iload_n hX 2 dX6_lays_22 rfl ?_
      refine vw_aload_n hX 1 dX6_lays_23 rfl ?_
      refine vw_iload_n hX 2 dX6_lays_24 rfl ?_
      obtain ⟨hr10, h⟩ := h
      refine s_X6_54 hX hr10 dX6_lays_25 (Nat.le_of_ble_eq_true rfl) (ct_J0_charAt_5068e (d := d + 5) (lst hX) h) (fun r11 w12 z13 h => ?_)
      obtain ⟨n15, f14, hf14, hif14, h⟩ := h
      refine vw_iast hX hf14 hif14 dX6_lays_28 ?_
      refine vw_nmW (fun w16 ew16 => ?_)
      have h := h w16 ew16
      refine vw_iinc hX 2 (v := x2 + 1) dX6_lays_29 rfl rfl (by decide) rfl ?_
      refine vw_goto hX (tgt := 10) dX6_lays_32 (by decide) ?_
      exact vw_sub [1, 2, 0] rfl (ih _ _ _ _ _ h)
def F_X6_lays (a0 : Nat) (a1 : Nat) (w : Mm) (z : Nat) (Q : Mm → Nat → Prop) : Prop :=
  isO w a1 0 ∧ F_J0_length_8abf5 a1 w z (fun r2 w3 z4 => ∃ f5, obj w3 a0 10 = some f5 ∧ 9 < f5.length ∧ ∀ w6, w6 = mset w3 a0 (.inl (10, f5.set 9 (.int (r2)))) → ∃ n, B_X6_lays_10 a0 a1 Q n 0 w6 z4)
set_option maxRecDepth 100000 in
set_option maxHeartbeats 4000000 in
theorem ct_X6_lays {l : Launch} {g : Gp} {d : Nat} (hst : l.stackTraces = false) {a0 : Nat} {a1 : Nat} {w : Mm} {z mc ms : Nat} {Q : Mm → Nat → Prop} {X : String → Mm → Nat → Prop} (h : F_X6_lays a0 a1 w z Q) : Ct l g yX6_lays (.code yX6_lays cX6_lays 3 none) (d + 9) mc ms [.ref (a0), .ref (a1)] w z (rV Q) X := by
  refine Ct.of hst (by decide) (Nat.le_of_ble_eq_true rfl) (fun C hX hE hg hl hNm => ?_)
  subst hg
  subst hl
  unfold F_X6_lays at h
  show VW C 0 [(0, .ref (a0)), (1, .ref (a1))] [] w z mc ms
  refine vw_aload_n hX 0 dX6_lays_0 rfl ?_
  refine vw_aload_n hX 1 dX6_lays_1 rfl ?_
  obtain ⟨hr1, h⟩ := h
  refine s_X6_45 hX hr1 dX6_lays_2 (Nat.le_of_ble_eq_true rfl) (ct_J0_length_8abf5 (d := d + 7) (lst hX) h) (fun r2 w3 z4 h => ?_)
  obtain ⟨f5, hf5, hlf5, h⟩ := h
  refine p_X6_51 hX hf5 hlf5 dX6_lays_5 ?_
  refine vw_nmW (fun w6 ew6 => ?_)
  have h := h w6 ew6
  refine vw_iconst hX (v := 0) dX6_lays_8 (by decide) ?_
  refine vw_istore_n hX dX6_lays_9 (by decide) rfl ?_
  obtain ⟨n, h⟩ := h
  exact vw_sub [1, 2, 0] rfl (pB_X6_lays_10 hX hE n _ _ _ _ _ h)
def F_X6_init (a0 : Nat) (w : Mm) (z : Nat) (mc ms : Nat) (Q : Mm → Nat → Prop) : Prop :=
  ¬ (445 : Int32) < 0 ∧ ∃ n2, (445 : Int32).toNatClampNeg = n2 ∧ n2 ≤ 10000000 ∧ 1 ≤ mc ∧ n2 ≤ ms ∧ ∀ w1, w1 = mset w z (.inr (0, n2, .inl (fun _ => 0))) → ∃ f3, obj w1 a0 10 = some f3 ∧ 0 < f3.length ∧ ∀ w4, w4 = mset w1 a0 (.inl (10, f3.set 0 (.ref (z)))) → ¬ (3560 : Int32) < 0 ∧ ∃ n6, (3560 : Int32).toNatClampNeg = n6 ∧ n6 ≤ 10000000 ∧ 1 ≤ ((mc - 1)) ∧ n6 ≤ ((ms - n2)) ∧ ∀ w5, w5 = mset w4 ((z + 1)) (.inr (0, n6, .inl (fun _ => 0))) → ∃ f7, obj w5 a0 10 = some f7 ∧ 1 < f7.length ∧ ∀ w8, w8 = mset w5 a0 (.inl (10, f7.set 1 (.ref ((z + 1))))) → ¬ (890 : Int32) < 0 ∧ ∃ n10, (890 : Int32).toNatClampNeg = n10 ∧ n10 ≤ 10000000 ∧ 1 ≤ (((mc - 1) - 1)) ∧ n10 ≤ (((ms - n2) - n6)) ∧ ∀ w9, w9 = mset w8 (((z + 1) + 1)) (.inr (0, n10, .inl (fun _ => 0))) → ∃ f11, obj w9 a0 10 = some f11 ∧ 2 < f11.length ∧ ∀ w12, w12 = mset w9 a0 (.inl (10, f11.set 2 (.ref (((z + 1) + 1))))) → ¬ (445 : Int32) < 0 ∧ ∃ n14, (445 : Int32).toNatClampNeg = n14 ∧ n14 ≤ 10000000 ∧ 1 ≤ ((((mc - 1) - 1) - 1)) ∧ n14 ≤ ((((ms - n2) - n6) - n10)) ∧ ∀ w13, w13 = mset w12 ((((z + 1) + 1) + 1)) (.inr (0, n14, .inl (fun _ => 0))) → ∃ f15, obj w13 a0 10 = some f15 ∧ 3 < f15.length ∧ ∀ w16, w16 = mset w13 a0 (.inl (10, f15.set 3 (.ref ((((z + 1) + 1) + 1))))) → ¬ (2 : Int32) < 0 ∧ ∃ n18, (2 : Int32).toNatClampNeg = n18 ∧ n18 ≤ 10000000 ∧ 1 ≤ (((((mc - 1) - 1) - 1) - 1)) ∧ n18 ≤ (((((ms - n2) - n6) - n10) - n14)) ∧ ∀ w17, w17 = mset w16 (((((z + 1) + 1) + 1) + 1)) (.inr (2, n18, .inl (fun _ => 0))) → ∃ f19, obj w17 a0 10 = some f19 ∧ 4 < f19.length ∧ ∀ w20, w20 = mset w17 a0 (.inl (10, f19.set 4 (.ref (((((z + 1) + 1) + 1) + 1))))) → ¬ (700 : Int32) < 0 ∧ ∃ n22, (700 : Int32).toNatClampNeg = n22 ∧ n22 ≤ 10000000 ∧ 1 ≤ ((((((mc - 1) - 1) - 1) - 1) - 1)) ∧ n22 ≤ ((((((ms - n2) - n6) - n10) - n14) - n18)) ∧ ∀ w21, w21 = mset w20 ((((((z + 1) + 1) + 1) + 1) + 1)) (.inr (0, n22, .inl (fun _ => 0))) → ∃ f23, obj w21 a0 10 = some f23 ∧ 7 < f23.length ∧ ∀ w24, w24 = mset w21 a0 (.inl (10, f23.set 7 (.ref ((((((z + 1) + 1) + 1) + 1) + 1))))) → ¬ (300 : Int32) < 0 ∧ ∃ n26, (300 : Int32).toNatClampNeg = n26 ∧ n26 ≤ 10000000 ∧ 1 ≤ (((((((mc - 1) - 1) - 1) - 1) - 1) - 1)) ∧ n26 ≤ (((((((ms - n2) - n6) - n10) - n14) - n18) - n22)) ∧ ∀ w25, w25 = mset w24 (((((((z + 1) + 1) + 1) + 1) + 1) + 1)) (.inr (0, n26, .inl (fun _ => 0))) → ∃ f27, obj w25 a0 10 = some f27 ∧ 8 < f27.length ∧ ∀ w28, w28 = mset w25 a0 (.inl (10, f27.set 8 (.ref (((((((z + 1) + 1) + 1) + 1) + 1) + 1))))) → ∃ f29, obj w28 a0 10 = some f29 ∧ 12 < f29.length ∧ ∀ w30, w30 = mset w28 a0 (.inl (10, f29.set 12 (.int ((-1))))) → ¬ (6 : Int32) < 0 ∧ ∃ n32, (6 : Int32).toNatClampNeg = n32 ∧ n32 ≤ 10000000 ∧ 1 ≤ ((((((((mc - 1) - 1) - 1) - 1) - 1) - 1) - 1)) ∧ n32 ≤ ((((((((ms - n2) - n6) - n10) - n14) - n18) - n22) - n26)) ∧ ∀ w31, w31 = mset w30 ((((((((z + 1) + 1) + 1) + 1) + 1) + 1) + 1)) (.inr (0, n32, .inl (fun _ => 0))) → ∃ f33, obj w31 a0 10 = some f33 ∧ 13 < f33.length ∧ ∀ w34, w34 = mset w31 a0 (.inl (10, f33.set 13 (.ref ((((((((z + 1) + 1) + 1) + 1) + 1) + 1) + 1))))) → ∀ q35, isLit w34 q35 lit_17 → isO w34 a0 10 ∧ F_X6_lays a0 q35 w34 (((((((((z + 1) + 1) + 1) + 1) + 1) + 1) + 1) + 1)) (fun w38 z39 => Q w38 z39)
set_option maxRecDepth 100000 in
set_option maxHeartbeats 4000000 in
theorem ct_X6_init {l : Launch} {g : Gp} {d : Nat} (hst : l.stackTraces = false) {a0 : Nat} {w : Mm} {z mc ms : Nat} {Q : Mm → Nat → Prop} {X : String → Mm → Nat → Prop} (h : F_X6_init a0 w z mc ms Q) : Ct l g yX6_init (.code yX6_init cX6_init 1 none) (d + 10) mc ms [.ref (a0)] w z (rV Q) X := by
  refine Ct.of hst (by decide) (Nat.le_of_ble_eq_true rfl) (fun C hX hE hg hl hNm => ?_)
  subst hg
  subst hl
  unfold F_X6_init at h
  show VW C 0 [(0, .ref (a0))] [] w z mc ms
  refine vw_aload_n hX 0 dX6_init_0 rfl ?_
  refine vw_objInit hX kw_1571 kw_102 kw_103 (Nat.le_of_ble_eq_true rfl) dX6_init_1 ?_
  refine vw_aload_n hX 0 dX6_init_4 rfl ?_
  refine vw_sipush hX (v := 445) dX6_init_5 (by decide) ?_
  obtain ⟨hn0, n2, hN, hb, hm1, hm2, h⟩ := h
  refine vw_newI hX kw_154 hn0 hN hb hm1 hm2 dX6_init_8 ?_
  refine vw_nmW (fun w1 ew1 => ?_)
  have h := h w1 ew1
  obtain ⟨f3, hf3, hlf3, h⟩ := h
  refine p_X6_9 hX hNm hf3 hlf3 dX6_init_10 ?_
  refine vw_nmW (fun w4 ew4 => ?_)
  have h := h w4 ew4
  refine vw_aload_n hX 0 dX6_init_13 rfl ?_
  refine vw_sipush hX (v := 3560) dX6_init_14 (by decide) ?_
  obtain ⟨hn0, n6, hN, hb, hm1, hm2, h⟩ := h
  refine vw_newI hX kw_154 hn0 hN hb hm1 hm2 dX6_init_17 ?_
  refine vw_nmW (fun w5 ew5 => ?_)
  have h := h w5 ew5
  obtain ⟨f7, hf7, hlf7, h⟩ := h
  refine p_X6_13 hX hNm hf7 hlf7 dX6_init_19 ?_
  refine vw_nmW (fun w8 ew8 => ?_)
  have h := h w8 ew8
  refine vw_aload_n hX 0 dX6_init_22 rfl ?_
  refine vw_sipush hX (v := 890) dX6_init_23 (by decide) ?_
  obtain ⟨hn0, n10, hN, hb, hm1, hm2, h⟩ := h
  refine vw_newI hX kw_154 hn0 hN hb hm1 hm2 dX6_init_26 ?_
  refine vw_nmW (fun w9 ew9 => ?_)
  have h := h w9 ew9
  obtain ⟨f11, hf11, hlf11, h⟩ := h
  refine p_X6_16 hX hNm hf11 hlf11 dX6_init_28 ?_
  refine vw_nmW (fun w12 ew12 => ?_)
  have h := h w12 ew12
  refine vw_aload_n hX 0 dX6_init_31 rfl ?_
  refine vw_sipush hX (v := 445) dX6_init_32 (by decide) ?_
  obtain ⟨hn0, n14, hN, hb, hm1, hm2, h⟩ := h
  refine vw_newI hX kw_154 hn0 hN hb hm1 hm2 dX6_init_35 ?_
  refine vw_nmW (fun w13 ew13 => ?_)
  have h := h w13 ew13
  obtain ⟨f15, hf15, hlf15, h⟩ := h
  refine p_X6_19 hX hNm hf15 hlf15 dX6_init_37 ?_
  refine vw_nmW (fun w16 ew16 => ?_)
  have h := h w16 ew16
  refine vw_aload_n hX 0 dX6_init_40 rfl ?_
  refine vw_iconst hX (v := 2) dX6_init_41 (by decide) ?_
  obtain ⟨hn0, n18, hN, hb, hm1, hm2, h⟩ := h
  refine vw_newZ hX kw_322 hn0 hN hb hm1 hm2 dX6_init_42 ?_
  refine vw_nmW (fun w17 ew17 => ?_)
  have h := h w17 ew17
  obtain ⟨f19, hf19, hlf19, h⟩ := h
  refine p_X6_22 hX hNm hf19 hlf19 dX6_init_44 ?_
  refine vw_nmW (fun w20 ew20 => ?_)
  have h := h w20 ew20
  refine vw_aload_n hX 0 dX6_init_47 rfl ?_
  refine vw_sipush hX (v := 700) dX6_init_48 (by decide) ?_
  obtain ⟨hn0, n22, hN, hb, hm1, hm2, h⟩ := h
  refine vw_newI hX kw_154 hn0 hN hb hm1 hm2 dX6_init_51 ?_
  refine vw_nmW (fun w21 ew21 => ?_)
  have h := h w21 ew21
  obtain ⟨f23, hf23, hlf23, h⟩ := h
  refine p_X6_26 hX hNm hf23 hlf23 dX6_init_53 ?_
  refine vw_nmW (fun w24 ew24 => ?_)
  have h := h w24 ew24
  refine vw_aload_n hX 0 dX6_init_56 rfl ?_
  refine vw_sipush hX (v := 300) dX6_init_57 (by decide) ?_
  obtain ⟨hn0, n26, hN, hb, hm1, hm2, h⟩ := h
  refine vw_newI hX kw_154 hn0 hN hb hm1 hm2 dX6_init_60 ?_
  refine vw_nmW (fun w25 ew25 => ?_)
  have h := h w25 ew25
  obtain ⟨f27, hf27, hlf27, h⟩ := h
  refine p_X6_29 hX hNm hf27 hlf27 dX6_init_62 ?_
  refine vw_nmW (fun w28 ew28 => ?_)
  have h := h w28 ew28
  refine vw_aload_n hX 0 dX6_init_65 rfl ?_
  refine vw_iconst hX (v := (-1)) dX6_init_66 (by decide) ?_
  obtain ⟨f29, hf29, hlf29, h⟩ := h
  refine p_X6_32 hX hf29 hlf29 dX6_init_67 ?_
  refine vw_nmW (fun w30 ew30 => ?_)
  have h := h w30 ew30
  refine vw_aload_n hX 0 dX6_init_70 rfl ?_
  refine vw_bipush hX (v := 6) dX6_init_71 (by decide) ?_
  obtain ⟨hn0, n32, hN, hb, hm1, hm2, h⟩ := h
  refine vw_newI hX kw_154 hn0 hN hb hm1 hm2 dX6_init_73 ?_
  refine vw_nmW (fun w31 ew31 => ?_)
  have h := h w31 ew31
  obtain ⟨f33, hf33, hlf33, h⟩ := h
  refine p_X6_36 hX hNm hf33 hlf33 dX6_init_75 ?_
  refine vw_nmW (fun w34 ew34 => ?_)
  have h := h w34 ew34
  refine vw_aload_n hX 0 dX6_init_78 rfl ?_
  refine l_X6_39 hX dX6_init_79 (fun q35 hq35 => ?_)
  have h := h q35 hq35
  obtain ⟨hr36, h⟩ := h
  refine s_X6_41 hX hr36 dX6_init_81 (Nat.le_of_ble_eq_true rfl) (ct_X6_lays (d := d + 0) (lst hX) h) (fun w38 z39 h => ?_)
  exact vw_vret hX hE dX6_init_84 ⟨rfl, h⟩
def F_X6_thrown (a0 : Nat) (w : Mm) (z : Nat) (Q : Int32 → Mm → Nat → Prop) : Prop :=
  ∃ v1, fld w a0 10 6 = some (.int (v1)) ∧ Q v1 w z
set_option maxRecDepth 100000 in
set_option maxHeartbeats 4000000 in
theorem ct_X6_thrown {l : Launch} {g : Gp} {d : Nat} (hst : l.stackTraces = false) {a0 : Nat} {w : Mm} {z mc ms : Nat} {Q : Int32 → Mm → Nat → Prop} {X : String → Mm → Nat → Prop} (h : F_X6_thrown a0 w z Q) : Ct l g yX6_thrown (.code yX6_thrown cX6_thrown 1 (some .int)) (d + 0) mc ms [.ref (a0)] w z (rI Q) X := by
  refine Ct.of hst (by decide) (Nat.le_of_ble_eq_true rfl) (fun C hX hE hg hl hNm => ?_)
  subst hg
  subst hl
  unfold F_X6_thrown at h
  show VW C 0 [(0, .ref (a0))] [] w z mc ms
  refine vw_aload_n hX 0 dX6_thrown_0 rfl ?_
  obtain ⟨v1, hv1, h⟩ := h
  refine g_X6_64 hX hv1 dX6_thrown_1 ?_
  exact vw_iret hX hE dX6_thrown_4 ⟨_, rfl, h⟩
def B_X6_fails_26 (a0 : Nat) (a1 : Int32) (a2 : Int32) (a3 : Int32) (Q : Int32 → Mm → Nat → Prop) (y0 : Int32) (y1 : Nat) (w : Mm) (z : Nat) : Prop :=
  ∃ f1, obj w y1 10 = some f1 ∧ 6 < f1.length ∧ ∀ w2, w2 = mset w y1 (.inl (10, f1.set 6 (.int (y0)))) → ∃ v3, fld w2 a0 10 6 = some (.int (v3)) ∧ (v3 ≤ 0 → Q 0 w2 z) ∧
  (¬ v3 ≤ 0 → Q 1 w2 z)
set_option maxRecDepth 100000 in
set_option maxHeartbeats 4000000 in
theorem pB_X6_fails_26 {C : Cx} {d : Nat} {a0 : Nat} {a1 : Int32} {a2 : Int32} {a3 : Int32} {Q : Int32 → Mm → Nat → Prop} {X : String → Mm → Nat → Prop} (hX : CX C cX6_fails RX6 4 (some .boolean) [] (d + 0)) (hE : EQ C (rI Q) X) : ∀ (y0 : Int32) (y1 : Nat) (w : Mm) (z mc ms : Nat), B_X6_fails_26 a0 a1 a2 a3 Q y0 y1 w z → VW C 26 [(0, .ref (a0)), (1, .int (a1)), (2, .int (a2)), (3, .int (a3))] [.int (y0), .ref (y1)] w z mc ms := by
  intro y0 y1 w z mc ms h
  unfold B_X6_fails_26 at h
  obtain ⟨f1, hf1, hlf1, h⟩ := h
  refine p_X6_64 hX hf1 hlf1 dX6_fails_26 ?_
  refine vw_nmW (fun w2 ew2 => ?_)
  have h := h w2 ew2
  refine vw_aload_n hX 0 dX6_fails_29 rfl ?_
  obtain ⟨v3, hv3, h⟩ := h
  refine g_X6_64 hX hv3 dX6_fails_30 ?_
  refine vw_if_le hX (tgt := 40) dX6_fails_33 (by decide) (fun c4 => ?_) (fun c4 => ?_)
  · have h := h.1 c4
    refine vw_iconst hX (v := 0) dX6_fails_40 (by decide) ?_
    exact vw_zret hX hE dX6_fails_41 rfl ⟨_, rfl, h⟩
  · have h := h.2 c4
    refine vw_iconst hX (v := 1) dX6_fails_36 (by decide) ?_
    refine vw_goto hX (tgt := 41) dX6_fails_37 (by decide) ?_
    exact vw_zret hX hE dX6_fails_41 rfl ⟨_, rfl, h⟩
def F_X6_fails (a0 : Nat) (a1 : Int32) (a2 : Int32) (a3 : Int32) (w : Mm) (z : Nat) (Q : Int32 → Mm → Nat → Prop) : Prop :=
  (a1 = 0 → (a2 = 0 → (a3 = 0 → B_X6_fails_26 a0 a1 a2 a3 Q 0 a0 w z) ∧
  (¬ a3 = 0 → B_X6_fails_26 a0 a1 a2 a3 Q 3 a0 w z)) ∧
  (¬ a2 = 0 → B_X6_fails_26 a0 a1 a2 a3 Q 2 a0 w z)) ∧
  (¬ a1 = 0 → B_X6_fails_26 a0 a1 a2 a3 Q 1 a0 w z)
set_option maxRecDepth 100000 in
set_option maxHeartbeats 4000000 in
theorem ct_X6_fails {l : Launch} {g : Gp} {d : Nat} (hst : l.stackTraces = false) {a0 : Nat} {a1 : Int32} {a2 : Int32} {a3 : Int32} {w : Mm} {z mc ms : Nat} {Q : Int32 → Mm → Nat → Prop} {X : String → Mm → Nat → Prop} (h : F_X6_fails a0 a1 a2 a3 w z Q) : Ct l g yX6_fails (.code yX6_fails cX6_fails 4 (some .boolean)) (d + 0) mc ms [.ref (a0), .int (a1), .int (a2), .int (a3)] w z (rI Q) X := by
  refine Ct.of hst (by decide) (Nat.le_of_ble_eq_true rfl) (fun C hX hE hg hl hNm => ?_)
  subst hg
  subst hl
  unfold F_X6_fails at h
  show VW C 0 [(0, .ref (a0)), (1, .int (a1)), (2, .int (a2)), (3, .int (a3))] [] w z mc ms
  refine vw_aload_n hX 0 dX6_fails_0 rfl ?_
  refine vw_iload_n hX 1 dX6_fails_1 rfl ?_
  refine vw_if_eq hX (tgt := 9) dX6_fails_2 (by decide) (fun c1 => ?_) (fun c1 => ?_)
  · have h := h.1 c1
    refine vw_iload_n hX 2 dX6_fails_9 rfl ?_
    refine vw_if_eq hX (tgt := 17) dX6_fails_10 (by decide) (fun c2 => ?_) (fun c2 => ?_)
    · have h := h.1 c2
      refine vw_iload_n hX 3 dX6_fails_17 rfl ?_
      refine vw_if_eq hX (tgt := 25) dX6_fails_18 (by decide) (fun c3 => ?_) (fun c3 => ?_)
      · have h := h.1 c3
        refine vw_iconst hX (v := 0) dX6_fails_25 (by decide) ?_
        exact pB_X6_fails_26 hX hE _ _ _ _ _ _ h
      · have h := h.2 c3
        refine vw_iconst hX (v := 3) dX6_fails_21 (by decide) ?_
        refine vw_goto hX (tgt := 26) dX6_fails_22 (by decide) ?_
        exact pB_X6_fails_26 hX hE _ _ _ _ _ _ h
    · have h := h.2 c2
      refine vw_iconst hX (v := 2) dX6_fails_13 (by decide) ?_
      refine vw_goto hX (tgt := 26) dX6_fails_14 (by decide) ?_
      exact pB_X6_fails_26 hX hE _ _ _ _ _ _ h
  · have h := h.2 c1
    refine vw_iconst hX (v := 1) dX6_fails_5 (by decide) ?_
    refine vw_goto hX (tgt := 26) dX6_fails_6 (by decide) ?_
    exact pB_X6_fails_26 hX hE _ _ _ _ _ _ h
def F_X6_told (a0 : Nat) (a1 : Int32) (w : Mm) (z : Nat) (Q : Int32 → Mm → Nat → Prop) : Prop :=
  ∃ f1, obj w a0 10 = some f1 ∧ 6 < f1.length ∧ ∀ w2, w2 = mset w a0 (.inl (10, f1.set 6 (.int (0)))) → Q a1 w2 z
set_option maxRecDepth 100000 in
set_option maxHeartbeats 4000000 in
theorem ct_X6_told {l : Launch} {g : Gp} {d : Nat} (hst : l.stackTraces = false) {a0 : Nat} {a1 : Int32} {w : Mm} {z mc ms : Nat} {Q : Int32 → Mm → Nat → Prop} {X : String → Mm → Nat → Prop} (h : F_X6_told a0 a1 w z Q) : Ct l g yX6_told (.code yX6_told cX6_told 2 (some .int)) (d + 0) mc ms [.ref (a0), .int (a1)] w z (rI Q) X := by
  refine Ct.of hst (by decide) (Nat.le_of_ble_eq_true rfl) (fun C hX hE hg hl hNm => ?_)
  subst hg
  subst hl
  unfold F_X6_told at h
  show VW C 0 [(0, .ref (a0)), (1, .int (a1))] [] w z mc ms
  refine vw_aload_n hX 0 dX6_told_0 rfl ?_
  refine vw_iconst hX (v := 0) dX6_told_1 (by decide) ?_
  obtain ⟨f1, hf1, hlf1, h⟩ := h
  refine p_X6_64 hX hf1 hlf1 dX6_told_2 ?_
  refine vw_nmW (fun w2 ew2 => ?_)
  have h := h w2 ew2
  refine vw_iload_n hX 1 dX6_told_5 rfl ?_
  exact vw_iret hX hE dX6_told_6 ⟨_, rfl, h⟩
def F_X6_noPassenger (a0 : Nat) (a1 : Int32) (w : Mm) (z : Nat) (Q : Int32 → Mm → Nat → Prop) : Prop :=
  ∃ q1, fld w a0 10 0 = some (.ref (q1)) ∧ ∃ n3 f2, arI w q1 0 = some (n3, f2) ∧ vp_in 2 n3 ∧ F_X6_isIn a1 0 ((((f2 (2 : Int32).toNatClampNeg)) - 1)) w z (fun r4 w5 z6 => (¬ r4 = 0 → Q 0 w5 z6) ∧
  (r4 = 0 → Q 1 w5 z6))
set_option maxRecDepth 100000 in
set_option maxHeartbeats 4000000 in
theorem ct_X6_noPassenger {l : Launch} {g : Gp} {d : Nat} (hst : l.stackTraces = false) {a0 : Nat} {a1 : Int32} {w : Mm} {z mc ms : Nat} {Q : Int32 → Mm → Nat → Prop} {X : String → Mm → Nat → Prop} (h : F_X6_noPassenger a0 a1 w z Q) : Ct l g yX6_noPassenger (.code yX6_noPassenger cX6_noPassenger 2 (some .boolean)) (d + 1) mc ms [.ref (a0), .int (a1)] w z (rI Q) X := by
  refine Ct.of hst (by decide) (Nat.le_of_ble_eq_true rfl) (fun C hX hE hg hl hNm => ?_)
  subst hg
  subst hl
  unfold F_X6_noPassenger at h
  show VW C 0 [(0, .ref (a0)), (1, .int (a1))] [] w z mc ms
  refine vw_iload_n hX 1 dX6_noPassenger_0 rfl ?_
  refine vw_iconst hX (v := 0) dX6_noPassenger_1 (by decide) ?_
  refine vw_aload_n hX 0 dX6_noPassenger_2 rfl ?_
  obtain ⟨q1, hq1, h⟩ := h
  refine g_X6_9 hX hq1 dX6_noPassenger_3 ?_
  refine vw_iconst hX (v := 2) dX6_noPassenger_6 (by decide) ?_
  obtain ⟨n3, f2, hf2, hif2, h⟩ := h
  refine vw_iald hX hf2 hif2 dX6_noPassenger_7 ?_
  refine vw_iconst hX (v := 1) dX6_noPassenger_8 (by decide) ?_
  refine vw_isub hX dX6_noPassenger_9 ?_
  refine s_X6_77 hX dX6_noPassenger_10 (Nat.le_of_ble_eq_true rfl) (ct_X6_isIn (d := d + 0) (lst hX) h) (fun r4 w5 z6 h => ?_)
  refine vw_if_ne hX (tgt := 20) dX6_noPassenger_13 (by decide) (fun c7 => ?_) (fun c7 => ?_)
  · have h := h.1 c7
    refine vw_iconst hX (v := 0) dX6_noPassenger_20 (by decide) ?_
    exact vw_zret hX hE dX6_noPassenger_21 rfl ⟨_, rfl, h⟩
  · have h := h.2 c7
    refine vw_iconst hX (v := 1) dX6_noPassenger_16 (by decide) ?_
    refine vw_goto hX (tgt := 21) dX6_noPassenger_17 (by decide) ?_
    exact vw_zret hX hE dX6_noPassenger_21 rfl ⟨_, rfl, h⟩
def F_X6_noStop (a0 : Nat) (a1 : Int32) (w : Mm) (z : Nat) (Q : Int32 → Mm → Nat → Prop) : Prop :=
  ∃ q1, fld w a0 10 0 = some (.ref (q1)) ∧ ∃ n3 f2, arI w q1 0 = some (n3, f2) ∧ vp_in 1 n3 ∧ F_X6_isIn a1 0 ((((f2 (1 : Int32).toNatClampNeg)) - 1)) w z (fun r4 w5 z6 => (¬ r4 = 0 → Q 0 w5 z6) ∧
  (r4 = 0 → Q 1 w5 z6))
set_option maxRecDepth 100000 in
set_option maxHeartbeats 4000000 in
theorem ct_X6_noStop {l : Launch} {g : Gp} {d : Nat} (hst : l.stackTraces = false) {a0 : Nat} {a1 : Int32} {w : Mm} {z mc ms : Nat} {Q : Int32 → Mm → Nat → Prop} {X : String → Mm → Nat → Prop} (h : F_X6_noStop a0 a1 w z Q) : Ct l g yX6_noStop (.code yX6_noStop cX6_noStop 2 (some .boolean)) (d + 1) mc ms [.ref (a0), .int (a1)] w z (rI Q) X := by
  refine Ct.of hst (by decide) (Nat.le_of_ble_eq_true rfl) (fun C hX hE hg hl hNm => ?_)
  subst hg
  subst hl
  unfold F_X6_noStop at h
  show VW C 0 [(0, .ref (a0)), (1, .int (a1))] [] w z mc ms
  refine vw_iload_n hX 1 dX6_noStop_0 rfl ?_
  refine vw_iconst hX (v := 0) dX6_noStop_1 (by decide) ?_
  refine vw_aload_n hX 0 dX6_noStop_2 rfl ?_
  obtain ⟨q1, hq1, h⟩ := h
  refine g_X6_9 hX hq1 dX6_noStop_3 ?_
  refine vw_iconst hX (v := 1) dX6_noStop_6 (by decide) ?_
  obtain ⟨n3, f2, hf2, hif2, h⟩ := h
  refine vw_iald hX hf2 hif2 dX6_noStop_7 ?_
  refine vw_iconst hX (v := 1) dX6_noStop_8 (by decide) ?_
  refine vw_isub hX dX6_noStop_9 ?_
  refine s_X6_77 hX dX6_noStop_10 (Nat.le_of_ble_eq_true rfl) (ct_X6_isIn (d := d + 0) (lst hX) h) (fun r4 w5 z6 h => ?_)
  refine vw_if_ne hX (tgt := 20) dX6_noStop_13 (by decide) (fun c7 => ?_) (fun c7 => ?_)
  · have h := h.1 c7
    refine vw_iconst hX (v := 0) dX6_noStop_20 (by decide) ?_
    exact vw_zret hX hE dX6_noStop_21 rfl ⟨_, rfl, h⟩
  · have h := h.2 c7
    refine vw_iconst hX (v := 1) dX6_noStop_16 (by decide) ?_
    refine vw_goto hX (tgt := 21) dX6_noStop_17 (by decide) ?_
    exact vw_zret hX hE dX6_noStop_21 rfl ⟨_, rfl, h⟩
def F_X6_noTicket (a0 : Nat) (a1 : Int32) (w : Mm) (z : Nat) (Q : Int32 → Mm → Nat → Prop) : Prop :=
  ∃ q1, fld w a0 10 0 = some (.ref (q1)) ∧ ∃ n3 f2, arI w q1 0 = some (n3, f2) ∧ vp_in 3 n3 ∧ F_X6_isIn a1 0 ((((f2 (3 : Int32).toNatClampNeg)) - 1)) w z (fun r4 w5 z6 => (¬ r4 = 0 → Q 0 w5 z6) ∧
  (r4 = 0 → Q 1 w5 z6))
set_option maxRecDepth 100000 in
set_option maxHeartbeats 4000000 in
theorem ct_X6_noTicket {l : Launch} {g : Gp} {d : Nat} (hst : l.stackTraces = false) {a0 : Nat} {a1 : Int32} {w : Mm} {z mc ms : Nat} {Q : Int32 → Mm → Nat → Prop} {X : String → Mm → Nat → Prop} (h : F_X6_noTicket a0 a1 w z Q) : Ct l g yX6_noTicket (.code yX6_noTicket cX6_noTicket 2 (some .boolean)) (d + 1) mc ms [.ref (a0), .int (a1)] w z (rI Q) X := by
  refine Ct.of hst (by decide) (Nat.le_of_ble_eq_true rfl) (fun C hX hE hg hl hNm => ?_)
  subst hg
  subst hl
  unfold F_X6_noTicket at h
  show VW C 0 [(0, .ref (a0)), (1, .int (a1))] [] w z mc ms
  refine vw_iload_n hX 1 dX6_noTicket_0 rfl ?_
  refine vw_iconst hX (v := 0) dX6_noTicket_1 (by decide) ?_
  refine vw_aload_n hX 0 dX6_noTicket_2 rfl ?_
  obtain ⟨q1, hq1, h⟩ := h
  refine g_X6_9 hX hq1 dX6_noTicket_3 ?_
  refine vw_iconst hX (v := 3) dX6_noTicket_6 (by decide) ?_
  obtain ⟨n3, f2, hf2, hif2, h⟩ := h
  refine vw_iald hX hf2 hif2 dX6_noTicket_7 ?_
  refine vw_iconst hX (v := 1) dX6_noTicket_8 (by decide) ?_
  refine vw_isub hX dX6_noTicket_9 ?_
  refine s_X6_77 hX dX6_noTicket_10 (Nat.le_of_ble_eq_true rfl) (ct_X6_isIn (d := d + 0) (lst hX) h) (fun r4 w5 z6 h => ?_)
  refine vw_if_ne hX (tgt := 20) dX6_noTicket_13 (by decide) (fun c7 => ?_) (fun c7 => ?_)
  · have h := h.1 c7
    refine vw_iconst hX (v := 0) dX6_noTicket_20 (by decide) ?_
    exact vw_zret hX hE dX6_noTicket_21 rfl ⟨_, rfl, h⟩
  · have h := h.2 c7
    refine vw_iconst hX (v := 1) dX6_noTicket_16 (by decide) ?_
    refine vw_goto hX (tgt := 21) dX6_noTicket_17 (by decide) ?_
    exact vw_zret hX hE dX6_noTicket_21 rfl ⟨_, rfl, h⟩
def F_X6_noCase (a0 : Nat) (a1 : Int32) (w : Mm) (z : Nat) (Q : Int32 → Mm → Nat → Prop) : Prop :=
  ∃ q1, fld w a0 10 0 = some (.ref (q1)) ∧ ∃ n3 f2, arI w q1 0 = some (n3, f2) ∧ vp_in 4 n3 ∧ F_X6_isIn a1 0 ((((f2 (4 : Int32).toNatClampNeg)) - 1)) w z (fun r4 w5 z6 => (¬ r4 = 0 → Q 0 w5 z6) ∧
  (r4 = 0 → Q 1 w5 z6))
set_option maxRecDepth 100000 in
set_option maxHeartbeats 4000000 in
theorem ct_X6_noCase {l : Launch} {g : Gp} {d : Nat} (hst : l.stackTraces = false) {a0 : Nat} {a1 : Int32} {w : Mm} {z mc ms : Nat} {Q : Int32 → Mm → Nat → Prop} {X : String → Mm → Nat → Prop} (h : F_X6_noCase a0 a1 w z Q) : Ct l g yX6_noCase (.code yX6_noCase cX6_noCase 2 (some .boolean)) (d + 1) mc ms [.ref (a0), .int (a1)] w z (rI Q) X := by
  refine Ct.of hst (by decide) (Nat.le_of_ble_eq_true rfl) (fun C hX hE hg hl hNm => ?_)
  subst hg
  subst hl
  unfold F_X6_noCase at h
  show VW C 0 [(0, .ref (a0)), (1, .int (a1))] [] w z mc ms
  refine vw_iload_n hX 1 dX6_noCase_0 rfl ?_
  refine vw_iconst hX (v := 0) dX6_noCase_1 (by decide) ?_
  refine vw_aload_n hX 0 dX6_noCase_2 rfl ?_
  obtain ⟨q1, hq1, h⟩ := h
  refine g_X6_9 hX hq1 dX6_noCase_3 ?_
  refine vw_iconst hX (v := 4) dX6_noCase_6 (by decide) ?_
  obtain ⟨n3, f2, hf2, hif2, h⟩ := h
  refine vw_iald hX hf2 hif2 dX6_noCase_7 ?_
  refine vw_iconst hX (v := 1) dX6_noCase_8 (by decide) ?_
  refine vw_isub hX dX6_noCase_9 ?_
  refine s_X6_77 hX dX6_noCase_10 (Nat.le_of_ble_eq_true rfl) (ct_X6_isIn (d := d + 0) (lst hX) h) (fun r4 w5 z6 h => ?_)
  refine vw_if_ne hX (tgt := 20) dX6_noCase_13 (by decide) (fun c7 => ?_) (fun c7 => ?_)
  · have h := h.1 c7
    refine vw_iconst hX (v := 0) dX6_noCase_20 (by decide) ?_
    exact vw_zret hX hE dX6_noCase_21 rfl ⟨_, rfl, h⟩
  · have h := h.2 c7
    refine vw_iconst hX (v := 1) dX6_noCase_16 (by decide) ?_
    refine vw_goto hX (tgt := 21) dX6_noCase_17 (by decide) ?_
    exact vw_zret hX hE dX6_noCase_21 rfl ⟨_, rfl, h⟩
def B_X6_four_3 (a0 : Nat) (a1 : Int32) (Q : Mm → Nat → Prop) : Nat → Int32 → Mm → Nat → Prop
  | 0, _, _, _ => False
  | n + 1, x2, w, z => (x2 < 0 → Q w z) ∧
  (¬ x2 < 0 → ∃ q2, fld w a0 10 7 = some (.ref (q2)) ∧ ∃ v3, fld w a0 10 9 = some (.int (v3)) ∧ ∃ n5 f4, arW w q2 0 = some (n5, f4) ∧ vp_in v3 n5 ∧ ∀ w6, w6 = mset w q2 (.inr (0, n5, .inl (upd f4 (v3 : Int32).toNatClampNeg ((((a1 >>> (x2 &&& 31))) &&& 255))))) → ∃ v7, fld w6 a0 10 9 = some (.int (v7)) ∧ ∃ f8, obj w6 a0 10 = some f8 ∧ 9 < f8.length ∧ ∀ w9, w9 = mset w6 a0 (.inl (10, f8.set 9 (.int ((v7 + 1))))) → B_X6_four_3 a0 a1 Q n ((x2 + (-8))) w9 z)
set_option maxRecDepth 100000 in
set_option maxHeartbeats 4000000 in
theorem pB_X6_four_3 {C : Cx} {d : Nat} {a0 : Nat} {a1 : Int32} {Q : Mm → Nat → Prop} {X : String → Mm → Nat → Prop} (hX : CX C cX6_four RX6 3 none [] (d + 0)) (hE : EQ C (rV Q) X) : ∀ (n : Nat) (x2 : Int32) (w : Mm) (z mc ms : Nat), B_X6_four_3 a0 a1 Q n x2 w z → VW C 3 [(0, .ref (a0)), (1, .int (a1)), (2, .int (x2))] [] w z mc ms := by
  intro n
  induction n with
  | zero => intro x2 w z mc ms h; exact False.elim h
  | succ n ih =>
    intro x2 w z mc ms h
    unfold B_X6_four_3 at h
    refine vw_iload_n hX 2 dX6_four_3 rfl ?_
    refine vw_if_lt hX (tgt := 39) dX6_four_4 (by decide) (fun c1 => ?_) (fun c1 => ?_)
    · have h := h.1 c1
      exact vw_vret hX hE dX6_four_39 ⟨rfl, h⟩
    · have h := h.2 c1
      refine vw_aload_n hX 0 dX6_four_7 rfl ?_
      obtain ⟨q2, hq2, h⟩ := h
      refine g_X6_26 hX hq2 dX6_four_8 ?_
      refine vw_aload_n hX 0 dX6_four_11 rfl ?_
      obtain ⟨v3, hv3, h⟩ := h
      refine g_X6_51 hX hv3 dX6_four_12 ?_
      refine vw_iload_n hX 1 dX6_four_15 rfl ?_
      refine vw_iload_n hX 2 dX6_four_16 rfl ?_
      refine vw_ishr hX dX6_four_17 ?_
      refine vw_sipush hX (v := 255) dX6_four_18 (by decide) ?_
      refine vw_iand hX dX6_four_21 ?_
      obtain ⟨n5, f4, hf4, hif4, h⟩ := h
      refine vw_iast hX hf4 hif4 dX6_four_22 ?_
      refine vw_nmW (fun w6 ew6 => ?_)
      have h := h w6 ew6
      refine vw_aload_n hX 0 dX6_four_23 rfl ?_
      refine vw_dup hX dX6_four_24 rfl ?_
      obtain ⟨v7, hv7, h⟩ := h
      refine g_X6_51 hX hv7 dX6_four_25 ?_
      refine vw_iconst hX (v := 1) dX6_four_28 (by decide) ?_
      refine vw_iadd hX dX6_four_29 ?_
      obtain ⟨f8, hf8, hlf8, h⟩ := h
      refine p_X6_51 hX hf8 hlf8 dX6_four_30 ?_
      refine vw_nmW (fun w9 ew9 => ?_)
      have h := h w9 ew9
      refine vw_iinc hX 2 (v := x2 + (-8)) dX6_four_33 rfl rfl (by decide) rfl ?_
      refine vw_goto hX (tgt := 3) dX6_four_36 (by decide) ?_
      exact vw_sub [1, 2, 0] rfl (ih _ _ _ _ _ h)
def F_X6_four (a0 : Nat) (a1 : Int32) (w : Mm) (z : Nat) (Q : Mm → Nat → Prop) : Prop :=
  ∃ n, B_X6_four_3 a0 a1 Q n 24 w z
set_option maxRecDepth 100000 in
set_option maxHeartbeats 4000000 in
theorem ct_X6_four {l : Launch} {g : Gp} {d : Nat} (hst : l.stackTraces = false) {a0 : Nat} {a1 : Int32} {w : Mm} {z mc ms : Nat} {Q : Mm → Nat → Prop} {X : String → Mm → Nat → Prop} (h : F_X6_four a0 a1 w z Q) : Ct l g yX6_four (.code yX6_four cX6_four 3 none) (d + 0) mc ms [.ref (a0), .int (a1)] w z (rV Q) X := by
  refine Ct.of hst (by decide) (Nat.le_of_ble_eq_true rfl) (fun C hX hE hg hl hNm => ?_)
  subst hg
  subst hl
  unfold F_X6_four at h
  show VW C 0 [(0, .ref (a0)), (1, .int (a1))] [] w z mc ms
  refine vw_bipush hX (v := 24) dX6_four_0 (by decide) ?_
  refine vw_istore_n hX dX6_four_2 (by decide) rfl ?_
  obtain ⟨n, h⟩ := h
  exact vw_sub [1, 2, 0] rfl (pB_X6_four_3 hX hE n _ _ _ _ _ h)
def F_X6_append (a0 : Nat) (a1 : Int32) (a2 : Int32) (a3 : Int32) (a4 : Int32) (a5 : Int32) (w : Mm) (z : Nat) (Q : Int32 → Mm → Nat → Prop) : Prop :=
  ∃ f1, obj w a0 10 = some f1 ∧ 6 < f1.length ∧ ∀ w2, w2 = mset w a0 (.inl (10, f1.set 6 (.int (0)))) → ∃ v3, fld w2 a0 10 9 = some (.int (v3)) ∧ (((v3 + 20)) ≤ 700 → isO w2 a0 10 ∧ F_X6_four a0 a1 w2 z (fun w7 z8 => isO w7 a0 10 ∧ F_X6_four a0 a2 w7 z8 (fun w11 z12 => isO w11 a0 10 ∧ F_X6_four a0 a3 w11 z12 (fun w15 z16 => isO w15 a0 10 ∧ F_X6_four a0 a4 w15 z16 (fun w19 z20 => isO w19 a0 10 ∧ F_X6_four a0 a5 w19 z20 (fun w23 z24 => ∃ v25, fld w23 a0 10 9 = some (.int (v25)) ∧ Q v25 w23 z24)))))) ∧
  (¬ ((v3 + 20)) ≤ 700 → Q (-1) w2 z)
set_option maxRecDepth 100000 in
set_option maxHeartbeats 4000000 in
theorem ct_X6_append {l : Launch} {g : Gp} {d : Nat} (hst : l.stackTraces = false) {a0 : Nat} {a1 : Int32} {a2 : Int32} {a3 : Int32} {a4 : Int32} {a5 : Int32} {w : Mm} {z mc ms : Nat} {Q : Int32 → Mm → Nat → Prop} {X : String → Mm → Nat → Prop} (h : F_X6_append a0 a1 a2 a3 a4 a5 w z Q) : Ct l g yX6_append (.code yX6_append cX6_append 6 (some .int)) (d + 1) mc ms [.ref (a0), .int (a1), .int (a2), .int (a3), .int (a4), .int (a5)] w z (rI Q) X := by
  refine Ct.of hst (by decide) (Nat.le_of_ble_eq_true rfl) (fun C hX hE hg hl hNm => ?_)
  subst hg
  subst hl
  unfold F_X6_append at h
  show VW C 0 [(0, .ref (a0)), (1, .int (a1)), (2, .int (a2)), (3, .int (a3)), (4, .int (a4)), (5, .int (a5))] [] w z mc ms
  refine vw_aload_n hX 0 dX6_append_0 rfl ?_
  refine vw_iconst hX (v := 0) dX6_append_1 (by decide) ?_
  obtain ⟨f1, hf1, hlf1, h⟩ := h
  refine p_X6_64 hX hf1 hlf1 dX6_append_2 ?_
  refine vw_nmW (fun w2 ew2 => ?_)
  have h := h w2 ew2
  refine vw_aload_n hX 0 dX6_append_5 rfl ?_
  obtain ⟨v3, hv3, h⟩ := h
  refine g_X6_51 hX hv3 dX6_append_6 ?_
  refine vw_bipush hX (v := 20) dX6_append_9 (by decide) ?_
  refine vw_iadd hX dX6_append_11 ?_
  refine vw_sipush hX (v := 700) dX6_append_12 (by decide) ?_
  refine vw_icmp_le hX (tgt := 20) dX6_append_15 (by decide) (fun c4 => ?_) (fun c4 => ?_)
  · have h := h.1 c4
    refine vw_aload_n hX 0 dX6_append_20 rfl ?_
    refine vw_iload_n hX 1 dX6_append_21 rfl ?_
    obtain ⟨hr5, h⟩ := h
    refine s_X6_153 hX hr5 dX6_append_22 (Nat.le_of_ble_eq_true rfl) (ct_X6_four (d := d + 0) (lst hX) h) (fun w7 z8 h => ?_)
    refine vw_aload_n hX 0 dX6_append_25 rfl ?_
    refine vw_iload_n hX 2 dX6_append_26 rfl ?_
    obtain ⟨hr9, h⟩ := h
    refine s_X6_153 hX hr9 dX6_append_27 (Nat.le_of_ble_eq_true rfl) (ct_X6_four (d := d + 0) (lst hX) h) (fun w11 z12 h => ?_)
    refine vw_aload_n hX 0 dX6_append_30 rfl ?_
    refine vw_iload_n hX 3 dX6_append_31 rfl ?_
    obtain ⟨hr13, h⟩ := h
    refine s_X6_153 hX hr13 dX6_append_32 (Nat.le_of_ble_eq_true rfl) (ct_X6_four (d := d + 0) (lst hX) h) (fun w15 z16 h => ?_)
    refine vw_aload_n hX 0 dX6_append_35 rfl ?_
    refine vw_iload hX 4 dX6_append_36 rfl ?_
    obtain ⟨hr17, h⟩ := h
    refine s_X6_153 hX hr17 dX6_append_38 (Nat.le_of_ble_eq_true rfl) (ct_X6_four (d := d + 0) (lst hX) h) (fun w19 z20 h => ?_)
    refine vw_aload_n hX 0 dX6_append_41 rfl ?_
    refine vw_iload hX 5 dX6_append_42 rfl ?_
    obtain ⟨hr21, h⟩ := h
    refine s_X6_153 hX hr21 dX6_append_44 (Nat.le_of_ble_eq_true rfl) (ct_X6_four (d := d + 0) (lst hX) h) (fun w23 z24 h => ?_)
    refine vw_aload_n hX 0 dX6_append_47 rfl ?_
    obtain ⟨v25, hv25, h⟩ := h
    refine g_X6_51 hX hv25 dX6_append_48 ?_
    exact vw_iret hX hE dX6_append_51 ⟨_, rfl, h⟩
  · have h := h.2 c4
    refine vw_iconst hX (v := (-1)) dX6_append_18 (by decide) ?_
    exact vw_iret hX hE dX6_append_19 ⟨_, rfl, h⟩
def B_X6_truncateInput_18 (a0 : Nat) (a1 : Int32) (Q : Int32 → Mm → Nat → Prop) (y0 : Int32) (y1 : Nat) (w : Mm) (z : Nat) : Prop :=
  isO w y1 10 ∧ F_X6_fails y1 y0 0 0 w z (fun r2 w3 z4 => (r2 = 0 → ∃ f6, obj w3 a0 10 = some f6 ∧ 9 < f6.length ∧ ∀ w7, w7 = mset w3 a0 (.inl (10, f6.set 9 (.int (a1)))) → Q a1 w7 z4) ∧
  (¬ r2 = 0 → Q 0 w3 z4))
set_option maxRecDepth 100000 in
set_option maxHeartbeats 4000000 in
theorem pB_X6_truncateInput_18 {C : Cx} {d : Nat} {a0 : Nat} {a1 : Int32} {Q : Int32 → Mm → Nat → Prop} {X : String → Mm → Nat → Prop} (hX : CX C cX6_truncateInput RX6 2 (some .int) [] (d + 1)) (hE : EQ C (rI Q) X) : ∀ (y0 : Int32) (y1 : Nat) (w : Mm) (z mc ms : Nat), B_X6_truncateInput_18 a0 a1 Q y0 y1 w z → VW C 18 [(0, .ref (a0)), (1, .int (a1))] [.int (y0), .ref (y1)] w z mc ms := by
  intro y0 y1 w z mc ms h
  unfold B_X6_truncateInput_18 at h
  refine vw_iconst hX (v := 0) dX6_truncateInput_18 (by decide) ?_
  refine vw_iconst hX (v := 0) dX6_truncateInput_19 (by decide) ?_
  obtain ⟨hr1, h⟩ := h
  refine s_X6_157 hX hr1 dX6_truncateInput_20 (Nat.le_of_ble_eq_true rfl) (ct_X6_fails (d := d + 0) (lst hX) h) (fun r2 w3 z4 h => ?_)
  refine vw_if_eq hX (tgt := 28) dX6_truncateInput_23 (by decide) (fun c5 => ?_) (fun c5 => ?_)
  · have h := h.1 c5
    refine vw_aload_n hX 0 dX6_truncateInput_28 rfl ?_
    refine vw_iload_n hX 1 dX6_truncateInput_29 rfl ?_
    obtain ⟨f6, hf6, hlf6, h⟩ := h
    refine p_X6_51 hX hf6 hlf6 dX6_truncateInput_30 ?_
    refine vw_nmW (fun w7 ew7 => ?_)
    have h := h w7 ew7
    refine vw_iload_n hX 1 dX6_truncateInput_33 rfl ?_
    exact vw_iret hX hE dX6_truncateInput_34 ⟨_, rfl, h⟩
  · have h := h.2 c5
    refine vw_iconst hX (v := 0) dX6_truncateInput_26 (by decide) ?_
    exact vw_iret hX hE dX6_truncateInput_27 ⟨_, rfl, h⟩
def F_X6_truncateInput (a0 : Nat) (a1 : Int32) (w : Mm) (z : Nat) (Q : Int32 → Mm → Nat → Prop) : Prop :=
  ∃ v1, fld w a0 10 9 = some (.int (v1)) ∧ F_X6_isIn a1 0 v1 w z (fun r2 w3 z4 => (¬ r2 = 0 → B_X6_truncateInput_18 a0 a1 Q 0 a0 w3 z4) ∧
  (r2 = 0 → B_X6_truncateInput_18 a0 a1 Q 1 a0 w3 z4))
set_option maxRecDepth 100000 in
set_option maxHeartbeats 4000000 in
theorem ct_X6_truncateInput {l : Launch} {g : Gp} {d : Nat} (hst : l.stackTraces = false) {a0 : Nat} {a1 : Int32} {w : Mm} {z mc ms : Nat} {Q : Int32 → Mm → Nat → Prop} {X : String → Mm → Nat → Prop} (h : F_X6_truncateInput a0 a1 w z Q) : Ct l g yX6_truncateInput (.code yX6_truncateInput cX6_truncateInput 2 (some .int)) (d + 1) mc ms [.ref (a0), .int (a1)] w z (rI Q) X := by
  refine Ct.of hst (by decide) (Nat.le_of_ble_eq_true rfl) (fun C hX hE hg hl hNm => ?_)
  subst hg
  subst hl
  unfold F_X6_truncateInput at h
  show VW C 0 [(0, .ref (a0)), (1, .int (a1))] [] w z mc ms
  refine vw_aload_n hX 0 dX6_truncateInput_0 rfl ?_
  refine vw_iload_n hX 1 dX6_truncateInput_1 rfl ?_
  refine vw_iconst hX (v := 0) dX6_truncateInput_2 (by decide) ?_
  refine vw_aload_n hX 0 dX6_truncateInput_3 rfl ?_
  obtain ⟨v1, hv1, h⟩ := h
  refine g_X6_51 hX hv1 dX6_truncateInput_4 ?_
  refine s_X6_77 hX dX6_truncateInput_7 (Nat.le_of_ble_eq_true rfl) (ct_X6_isIn (d := d + 0) (lst hX) h) (fun r2 w3 z4 h => ?_)
  refine vw_if_ne hX (tgt := 17) dX6_truncateInput_10 (by decide) (fun c5 => ?_) (fun c5 => ?_)
  · have h := h.1 c5
    refine vw_iconst hX (v := 0) dX6_truncateInput_17 (by decide) ?_
    exact pB_X6_truncateInput_18 hX hE _ _ _ _ _ _ h
  · have h := h.2 c5
    refine vw_iconst hX (v := 1) dX6_truncateInput_13 (by decide) ?_
    refine vw_goto hX (tgt := 18) dX6_truncateInput_14 (by decide) ?_
    exact pB_X6_truncateInput_18 hX hE _ _ _ _ _ _ h
def F_X6_play (a0 : Nat) (w : Mm) (z : Nat) (Q : Int32 → Mm → Nat → Prop) : Prop :=
  isO w a0 10 ∧ F_X6_starts a0 w z (fun w3 z4 => isO w3 a0 10 ∧ F_X6_commands a0 w3 z4 (fun r6 w7 z8 => Q r6 w7 z8))
set_option maxRecDepth 100000 in
set_option maxHeartbeats 4000000 in
theorem ct_X6_play {l : Launch} {g : Gp} {d : Nat} (hst : l.stackTraces = false) {a0 : Nat} {w : Mm} {z mc ms : Nat} {Q : Int32 → Mm → Nat → Prop} {X : String → Mm → Nat → Prop} (h : F_X6_play a0 w z Q) : Ct l g yX6_play (.code yX6_play cX6_play 1 (some .int)) (d + 8) mc ms [.ref (a0)] w z (rI Q) X := by
  refine Ct.of hst (by decide) (Nat.le_of_ble_eq_true rfl) (fun C hX hE hg hl hNm => ?_)
  subst hg
  subst hl
  unfold F_X6_play at h
  show VW C 0 [(0, .ref (a0))] [] w z mc ms
  refine vw_aload_n hX 0 dX6_play_0 rfl ?_
  obtain ⟨hr1, h⟩ := h
  refine s_X6_304 hX hr1 dX6_play_1 (Nat.le_of_ble_eq_true rfl) (ct_X6_starts (d := d + 4) (lst hX) h) (fun w3 z4 h => ?_)
  refine vw_aload_n hX 0 dX6_play_4 rfl ?_
  obtain ⟨hr5, h⟩ := h
  refine s_X6_313 hX hr5 dX6_play_5 (Nat.le_of_ble_eq_true rfl) (ct_X6_commands (d := d + 0) (lst hX) h) (fun r6 w7 z8 h => ?_)
  exact vw_iret hX hE dX6_play_8 ⟨_, rfl, h⟩
def F_X6_errorCode (a0 : Nat) (w : Mm) (z : Nat) (Q : Int32 → Mm → Nat → Prop) : Prop :=
  ∃ v1, fld w a0 10 11 = some (.int (v1)) ∧ isO w a0 10 ∧ F_X6_told a0 v1 w z (fun r3 w4 z5 => Q r3 w4 z5)
set_option maxRecDepth 100000 in
set_option maxHeartbeats 4000000 in
theorem ct_X6_errorCode {l : Launch} {g : Gp} {d : Nat} (hst : l.stackTraces = false) {a0 : Nat} {w : Mm} {z mc ms : Nat} {Q : Int32 → Mm → Nat → Prop} {X : String → Mm → Nat → Prop} (h : F_X6_errorCode a0 w z Q) : Ct l g yX6_errorCode (.code yX6_errorCode cX6_errorCode 1 (some .int)) (d + 1) mc ms [.ref (a0)] w z (rI Q) X := by
  refine Ct.of hst (by decide) (Nat.le_of_ble_eq_true rfl) (fun C hX hE hg hl hNm => ?_)
  subst hg
  subst hl
  unfold F_X6_errorCode at h
  show VW C 0 [(0, .ref (a0))] [] w z mc ms
  refine vw_aload_n hX 0 dX6_errorCode_0 rfl ?_
  refine vw_aload_n hX 0 dX6_errorCode_1 rfl ?_
  obtain ⟨v1, hv1, h⟩ := h
  refine g_X6_184 hX hv1 dX6_errorCode_2 ?_
  obtain ⟨hr2, h⟩ := h
  refine s_X6_316 hX hr2 dX6_errorCode_5 (Nat.le_of_ble_eq_true rfl) (ct_X6_told (d := d + 0) (lst hX) h) (fun r3 w4 z5 h => ?_)
  exact vw_iret hX hE dX6_errorCode_8 ⟨_, rfl, h⟩
def F_X6_errorOffset (a0 : Nat) (w : Mm) (z : Nat) (Q : Int32 → Mm → Nat → Prop) : Prop :=
  ∃ v1, fld w a0 10 12 = some (.int (v1)) ∧ isO w a0 10 ∧ F_X6_told a0 v1 w z (fun r3 w4 z5 => Q r3 w4 z5)
set_option maxRecDepth 100000 in
set_option maxHeartbeats 4000000 in
theorem ct_X6_errorOffset {l : Launch} {g : Gp} {d : Nat} (hst : l.stackTraces = false) {a0 : Nat} {w : Mm} {z mc ms : Nat} {Q : Int32 → Mm → Nat → Prop} {X : String → Mm → Nat → Prop} (h : F_X6_errorOffset a0 w z Q) : Ct l g yX6_errorOffset (.code yX6_errorOffset cX6_errorOffset 1 (some .int)) (d + 1) mc ms [.ref (a0)] w z (rI Q) X := by
  refine Ct.of hst (by decide) (Nat.le_of_ble_eq_true rfl) (fun C hX hE hg hl hNm => ?_)
  subst hg
  subst hl
  unfold F_X6_errorOffset at h
  show VW C 0 [(0, .ref (a0))] [] w z mc ms
  refine vw_aload_n hX 0 dX6_errorOffset_0 rfl ?_
  refine vw_aload_n hX 0 dX6_errorOffset_1 rfl ?_
  obtain ⟨v1, hv1, h⟩ := h
  refine g_X6_32 hX hv1 dX6_errorOffset_2 ?_
  obtain ⟨hr2, h⟩ := h
  refine s_X6_316 hX hr2 dX6_errorOffset_5 (Nat.le_of_ble_eq_true rfl) (ct_X6_told (d := d + 0) (lst hX) h) (fun r3 w4 z5 h => ?_)
  exact vw_iret hX hE dX6_errorOffset_8 ⟨_, rfl, h⟩
def B_X6_buy_63 (a0 : Nat) (a1 : Int32) (a2 : Int32) (a3 : Int32) (Q : Int32 → Mm → Nat → Prop) (y0 : Int32) (y1 : Int32) (y2 : Int32) (y3 : Nat) (w : Mm) (z : Nat) : Prop :=
  isO w y3 10 ∧ F_X6_fails y3 y2 y1 y0 w z (fun r2 w3 z4 => (r2 = 0 → ∃ q6, fld w3 a0 10 0 = some (.ref (q6)) ∧ isO w3 a0 10 ∧ F_X6_remember a0 q6 w3 z4 (fun w9 z10 => isO w9 a0 10 ∧ F_X6_buys a0 a1 a2 a3 w9 z10 (fun r12 w13 z14 => Q r12 w13 z14))) ∧
  (¬ r2 = 0 → Q 0 w3 z4))
set_option maxRecDepth 100000 in
set_option maxHeartbeats 4000000 in
theorem pB_X6_buy_63 {C : Cx} {d : Nat} {a0 : Nat} {a1 : Int32} {a2 : Int32} {a3 : Int32} {Q : Int32 → Mm → Nat → Prop} {X : String → Mm → Nat → Prop} (hX : CX C cX6_buy RX6 6 (some .int) [] (d + 4)) (hE : EQ C (rI Q) X) : ∀ (y0 : Int32) (y1 : Int32) (y2 : Int32) (y3 : Nat) (w : Mm) (z mc ms : Nat), B_X6_buy_63 a0 a1 a2 a3 Q y0 y1 y2 y3 w z → VW C 63 [(0, .ref (a0)), (1, .int (a1)), (2, .int (a2)), (3, .int (a3))] [.int (y0), .int (y1), .int (y2), .ref (y3)] w z mc ms := by
  intro y0 y1 y2 y3 w z mc ms h
  unfold B_X6_buy_63 at h
  obtain ⟨hr1, h⟩ := h
  refine s_X6_157 hX hr1 dX6_buy_63 (Nat.le_of_ble_eq_true rfl) (ct_X6_fails (d := d + 3) (lst hX) h) (fun r2 w3 z4 h => ?_)
  refine vw_if_eq hX (tgt := 71) dX6_buy_66 (by decide) (fun c5 => ?_) (fun c5 => ?_)
  · have h := h.1 c5
    refine vw_aload_n hX 0 dX6_buy_71 rfl ?_
    refine vw_aload_n hX 0 dX6_buy_72 rfl ?_
    obtain ⟨q6, hq6, h⟩ := h
    refine g_X6_9 hX hq6 dX6_buy_73 ?_
    obtain ⟨hr7, h⟩ := h
    refine s_X6_300 hX hr7 dX6_buy_76 (Nat.le_of_ble_eq_true rfl) (ct_X6_remember (d := d + 0) (lst hX) h) (fun w9 z10 h => ?_)
    refine vw_aload_n hX 0 dX6_buy_79 rfl ?_
    refine vw_iload_n hX 1 dX6_buy_80 rfl ?_
    refine vw_iload_n hX 2 dX6_buy_81 rfl ?_
    refine vw_iload_n hX 3 dX6_buy_82 rfl ?_
    obtain ⟨hr11, h⟩ := h
    refine s_X6_234 hX hr11 dX6_buy_83 (Nat.le_of_ble_eq_true rfl) (ct_X6_buys (d := d + 1) (lst hX) h) (fun r12 w13 z14 h => ?_)
    exact vw_iret hX hE dX6_buy_86 ⟨_, rfl, h⟩
  · have h := h.2 c5
    refine vw_iconst hX (v := 0) dX6_buy_69 (by decide) ?_
    exact vw_iret hX hE dX6_buy_70 ⟨_, rfl, h⟩
def B_X6_buy_62 (a0 : Nat) (a1 : Int32) (a2 : Int32) (a3 : Int32) (Q : Int32 → Mm → Nat → Prop) (y0 : Int32) (y1 : Int32) (y2 : Nat) (w : Mm) (z : Nat) : Prop :=
  B_X6_buy_63 a0 a1 a2 a3 Q 0 y0 y1 y2 w z
set_option maxRecDepth 100000 in
set_option maxHeartbeats 4000000 in
theorem pB_X6_buy_62 {C : Cx} {d : Nat} {a0 : Nat} {a1 : Int32} {a2 : Int32} {a3 : Int32} {Q : Int32 → Mm → Nat → Prop} {X : String → Mm → Nat → Prop} (hX : CX C cX6_buy RX6 6 (some .int) [] (d + 4)) (hE : EQ C (rI Q) X) : ∀ (y0 : Int32) (y1 : Int32) (y2 : Nat) (w : Mm) (z mc ms : Nat), B_X6_buy_62 a0 a1 a2 a3 Q y0 y1 y2 w z → VW C 62 [(0, .ref (a0)), (1, .int (a1)), (2, .int (a2)), (3, .int (a3))] [.int (y0), .int (y1), .ref (y2)] w z mc ms := by
  intro y0 y1 y2 w z mc ms h
  unfold B_X6_buy_62 at h
  refine vw_iconst hX (v := 0) dX6_buy_62 (by decide) ?_
  exact pB_X6_buy_63 hX hE _ _ _ _ _ _ _ _ h
def B_X6_buy_31 (a0 : Nat) (a1 : Int32) (a2 : Int32) (a3 : Int32) (Q : Int32 → Mm → Nat → Prop) (x4 : Int32) (y0 : Int32) (w : Mm) (z : Nat) : Prop :=
  (¬ x4 = 0 → B_X6_buy_62 a0 a1 a2 a3 Q y0 x4 a0 w z) ∧
  (x4 = 0 → (¬ y0 = 0 → B_X6_buy_62 a0 a1 a2 a3 Q y0 x4 a0 w z) ∧
  (y0 = 0 → isO w a0 10 ∧ F_X6_mayBuy a0 a1 a2 a3 w z (fun r18 w19 z20 => (¬ r18 = 0 → B_X6_buy_62 a0 a1 a2 a3 Q y0 x4 a0 w19 z20) ∧
  (r18 = 0 → B_X6_buy_63 a0 a1 a2 a3 Q 1 y0 x4 a0 w19 z20))))
set_option maxRecDepth 100000 in
set_option maxHeartbeats 4000000 in
theorem pB_X6_buy_31 {C : Cx} {d : Nat} {a0 : Nat} {a1 : Int32} {a2 : Int32} {a3 : Int32} {Q : Int32 → Mm → Nat → Prop} {X : String → Mm → Nat → Prop} (hX : CX C cX6_buy RX6 6 (some .int) [] (d + 4)) (hE : EQ C (rI Q) X) : ∀ (x4 : Int32) (y0 : Int32) (w : Mm) (z mc ms : Nat), B_X6_buy_31 a0 a1 a2 a3 Q x4 y0 w z → VW C 31 [(0, .ref (a0)), (1, .int (a1)), (2, .int (a2)), (3, .int (a3)), (4, .int (x4))] [.int (y0)] w z mc ms := by
  intro x4 y0 w z mc ms h
  unfold B_X6_buy_31 at h
  refine vw_istore hX dX6_buy_31 (by decide) rfl ?_
  refine vw_aload_n hX 1 dX6_buy_33 rfl ?_
  refine vw_iload hX 5 dX6_buy_34 rfl ?_
  refine vw_iload hX 0 dX6_buy_36 rfl ?_
  refine vw_iload hX 5 dX6_buy_38 rfl ?_
  refine vw_if_ne hX (tgt := 62) dX6_buy_40 (by decide) (fun c15 => ?_) (fun c15 => ?_)
  · have h := h.1 c15
    exact vw_sub [1, 2, 3, 4] rfl (pB_X6_buy_62 hX hE _ _ _ _ _ _ _ h)
  · have h := h.2 c15
    refine vw_iload hX 0 dX6_buy_43 rfl ?_
    refine vw_if_ne hX (tgt := 62) dX6_buy_45 (by decide) (fun c16 => ?_) (fun c16 => ?_)
    · have h := h.1 c16
      exact vw_sub [1, 2, 3, 4] rfl (pB_X6_buy_62 hX hE _ _ _ _ _ _ _ h)
    · have h := h.2 c16
      refine vw_aload_n hX 1 dX6_buy_48 rfl ?_
      refine vw_iload_n hX 2 dX6_buy_49 rfl ?_
      refine vw_iload_n hX 3 dX6_buy_50 rfl ?_
      refine vw_iload_n hX 4 dX6_buy_51 rfl ?_
      obtain ⟨hr17, h⟩ := h
      refine s_X6_227 hX hr17 dX6_buy_52 (Nat.le_of_ble_eq_true rfl) (ct_X6_mayBuy (d := d + 1) (lst hX) h) (fun r18 w19 z20 h => ?_)
      refine vw_if_ne hX (tgt := 62) dX6_buy_55 (by decide) (fun c21 => ?_) (fun c21 => ?_)
      · have h := h.1 c21
        exact vw_sub [1, 2, 3, 4] rfl (pB_X6_buy_62 hX hE _ _ _ _ _ _ _ h)
      · have h := h.2 c21
        refine vw_iconst hX (v := 1) dX6_buy_58 (by decide) ?_
        refine vw_goto hX (tgt := 63) dX6_buy_59 (by decide) ?_
        exact vw_sub [1, 2, 3, 4] rfl (pB_X6_buy_63 hX hE _ _ _ _ _ _ _ _ h)
def B_X6_buy_26 (a0 : Nat) (a1 : Int32) (a2 : Int32) (a3 : Int32) (Q : Int32 → Mm → Nat → Prop) (x4 : Int32) (w : Mm) (z : Nat) : Prop :=
  B_X6_buy_31 a0 a1 a2 a3 Q x4 1 w z
set_option maxRecDepth 100000 in
set_option maxHeartbeats 4000000 in
theorem pB_X6_buy_26 {C : Cx} {d : Nat} {a0 : Nat} {a1 : Int32} {a2 : Int32} {a3 : Int32} {Q : Int32 → Mm → Nat → Prop} {X : String → Mm → Nat → Prop} (hX : CX C cX6_buy RX6 6 (some .int) [] (d + 4)) (hE : EQ C (rI Q) X) : ∀ (x4 : Int32) (w : Mm) (z mc ms : Nat), B_X6_buy_26 a0 a1 a2 a3 Q x4 w z → VW C 26 [(0, .ref (a0)), (1, .int (a1)), (2, .int (a2)), (3, .int (a3)), (4, .int (x4))] [] w z mc ms := by
  intro x4 w z mc ms h
  unfold B_X6_buy_26 at h
  refine vw_iconst hX (v := 1) dX6_buy_26 (by decide) ?_
  refine vw_goto hX (tgt := 31) dX6_buy_27 (by decide) ?_
  exact pB_X6_buy_31 hX hE _ _ _ _ _ _ h
def F_X6_buy (a0 : Nat) (a1 : Int32) (a2 : Int32) (a3 : Int32) (w : Mm) (z : Nat) (Q : Int32 → Mm → Nat → Prop) : Prop :=
  isO w a0 10 ∧ F_X6_noPassenger a0 a1 w z (fun r2 w3 z4 => F_X6_isIn a2 0 2 w3 z4 (fun r5 w6 z7 => (r5 = 0 → B_X6_buy_26 a0 a1 a2 a3 Q r2 w6 z7) ∧
  (¬ r5 = 0 → F_X6_isIn a3 1 15 w6 z7 (fun r9 w10 z11 => (¬ r9 = 0 → B_X6_buy_31 a0 a1 a2 a3 Q r2 0 w10 z11) ∧
  (r9 = 0 → B_X6_buy_26 a0 a1 a2 a3 Q r2 w10 z11)))))
set_option maxRecDepth 100000 in
set_option maxHeartbeats 4000000 in
theorem ct_X6_buy {l : Launch} {g : Gp} {d : Nat} (hst : l.stackTraces = false) {a0 : Nat} {a1 : Int32} {a2 : Int32} {a3 : Int32} {w : Mm} {z mc ms : Nat} {Q : Int32 → Mm → Nat → Prop} {X : String → Mm → Nat → Prop} (h : F_X6_buy a0 a1 a2 a3 w z Q) : Ct l g yX6_buy (.code yX6_buy cX6_buy 6 (some .int)) (d + 4) mc ms [.ref (a0), .int (a1), .int (a2), .int (a3)] w z (rI Q) X := by
  refine Ct.of hst (by decide) (Nat.le_of_ble_eq_true rfl) (fun C hX hE hg hl hNm => ?_)
  subst hg
  subst hl
  unfold F_X6_buy at h
  show VW C 0 [(0, .ref (a0)), (1, .int (a1)), (2, .int (a2)), (3, .int (a3))] [] w z mc ms
  refine vw_aload_n hX 0 dX6_buy_0 rfl ?_
  refine vw_iload_n hX 1 dX6_buy_1 rfl ?_
  obtain ⟨hr1, h⟩ := h
  refine s_X6_319 hX hr1 dX6_buy_2 (Nat.le_of_ble_eq_true rfl) (ct_X6_noPassenger (d := d + 2) (lst hX) h) (fun r2 w3 z4 h => ?_)
  refine vw_istore hX dX6_buy_5 (by decide) rfl ?_
  refine vw_iload_n hX 3 dX6_buy_7 rfl ?_
  refine vw_iconst hX (v := 0) dX6_buy_8 (by decide) ?_
  refine vw_iconst hX (v := 2) dX6_buy_9 (by decide) ?_
  refine s_X6_77 hX dX6_buy_10 (Nat.le_of_ble_eq_true rfl) (ct_X6_isIn (d := d + 3) (lst hX) h) (fun r5 w6 z7 h => ?_)
  refine vw_if_eq hX (tgt := 26) dX6_buy_13 (by decide) (fun c8 => ?_) (fun c8 => ?_)
  · have h := h.1 c8
    exact vw_sub [1, 2, 3, 4, 0] rfl (pB_X6_buy_26 hX hE _ _ _ _ _ h)
  · have h := h.2 c8
    refine vw_iload_n hX 4 dX6_buy_16 rfl ?_
    refine vw_iconst hX (v := 1) dX6_buy_17 (by decide) ?_
    refine vw_bipush hX (v := 15) dX6_buy_18 (by decide) ?_
    refine s_X6_77 hX dX6_buy_20 (Nat.le_of_ble_eq_true rfl) (ct_X6_isIn (d := d + 3) (lst hX) h) (fun r9 w10 z11 h => ?_)
    refine vw_if_ne hX (tgt := 30) dX6_buy_23 (by decide) (fun c12 => ?_) (fun c12 => ?_)
    · have h := h.1 c12
      refine vw_iconst hX (v := 0) dX6_buy_30 (by decide) ?_
      exact vw_sub [1, 2, 3, 4, 0] rfl (pB_X6_buy_31 hX hE _ _ _ _ _ _ h)
    · have h := h.2 c12
      exact vw_sub [1, 2, 3, 4, 0] rfl (pB_X6_buy_26 hX hE _ _ _ _ _ h)
def B_X6_ride_79 (a0 : Nat) (a1 : Int32) (a2 : Int32) (a3 : Int32) (a4 : Int32) (Q : Int32 → Mm → Nat → Prop) (y0 : Int32) (y1 : Int32) (y2 : Int32) (y3 : Nat) (w : Mm) (z : Nat) : Prop :=
  isO w y3 10 ∧ F_X6_fails y3 y2 y1 y0 w z (fun r2 w3 z4 => (r2 = 0 → ∃ q6, fld w3 a0 10 0 = some (.ref (q6)) ∧ isO w3 a0 10 ∧ F_X6_remember a0 q6 w3 z4 (fun w9 z10 => isO w9 a0 10 ∧ F_X6_begins a0 a1 a2 a3 a4 w9 z10 (fun r12 w13 z14 => Q r12 w13 z14))) ∧
  (¬ r2 = 0 → Q 0 w3 z4))
set_option maxRecDepth 100000 in
set_option maxHeartbeats 4000000 in
theorem pB_X6_ride_79 {C : Cx} {d : Nat} {a0 : Nat} {a1 : Int32} {a2 : Int32} {a3 : Int32} {a4 : Int32} {Q : Int32 → Mm → Nat → Prop} {X : String → Mm → Nat → Prop} (hX : CX C cX6_ride RX6 6 (some .int) [] (d + 4)) (hE : EQ C (rI Q) X) : ∀ (y0 : Int32) (y1 : Int32) (y2 : Int32) (y3 : Nat) (w : Mm) (z mc ms : Nat), B_X6_ride_79 a0 a1 a2 a3 a4 Q y0 y1 y2 y3 w z → VW C 79 [(0, .ref (a0)), (1, .int (a1)), (2, .int (a2)), (3, .int (a3)), (4, .int (a4))] [.int (y0), .int (y1), .int (y2), .ref (y3)] w z mc ms := by
  intro y0 y1 y2 y3 w z mc ms h
  unfold B_X6_ride_79 at h
  obtain ⟨hr1, h⟩ := h
  refine s_X6_157 hX hr1 dX6_ride_79 (Nat.le_of_ble_eq_true rfl) (ct_X6_fails (d := d + 3) (lst hX) h) (fun r2 w3 z4 h => ?_)
  refine vw_if_eq hX (tgt := 87) dX6_ride_82 (by decide) (fun c5 => ?_) (fun c5 => ?_)
  · have h := h.1 c5
    refine vw_aload_n hX 0 dX6_ride_87 rfl ?_
    refine vw_aload_n hX 0 dX6_ride_88 rfl ?_
    obtain ⟨q6, hq6, h⟩ := h
    refine g_X6_9 hX hq6 dX6_ride_89 ?_
    obtain ⟨hr7, h⟩ := h
    refine s_X6_300 hX hr7 dX6_ride_92 (Nat.le_of_ble_eq_true rfl) (ct_X6_remember (d := d + 0) (lst hX) h) (fun w9 z10 h => ?_)
    refine vw_aload_n hX 0 dX6_ride_95 rfl ?_
    refine vw_iload_n hX 1 dX6_ride_96 rfl ?_
    refine vw_iload_n hX 2 dX6_ride_97 rfl ?_
    refine vw_iload_n hX 3 dX6_ride_98 rfl ?_
    refine vw_iload hX 4 dX6_ride_99 rfl ?_
    obtain ⟨hr11, h⟩ := h
    refine s_X6_246 hX hr11 dX6_ride_101 (Nat.le_of_ble_eq_true rfl) (ct_X6_begins (d := d + 2) (lst hX) h) (fun r12 w13 z14 h => ?_)
    exact vw_iret hX hE dX6_ride_104 ⟨_, rfl, h⟩
  · have h := h.2 c5
    refine vw_iconst hX (v := 0) dX6_ride_85 (by decide) ?_
    exact vw_iret hX hE dX6_ride_86 ⟨_, rfl, h⟩
def B_X6_ride_78 (a0 : Nat) (a1 : Int32) (a2 : Int32) (a3 : Int32) (a4 : Int32) (Q : Int32 → Mm → Nat → Prop) (y0 : Int32) (y1 : Int32) (y2 : Nat) (w : Mm) (z : Nat) : Prop :=
  B_X6_ride_79 a0 a1 a2 a3 a4 Q 0 y0 y1 y2 w z
set_option maxRecDepth 100000 in
set_option maxHeartbeats 4000000 in
theorem pB_X6_ride_78 {C : Cx} {d : Nat} {a0 : Nat} {a1 : Int32} {a2 : Int32} {a3 : Int32} {a4 : Int32} {Q : Int32 → Mm → Nat → Prop} {X : String → Mm → Nat → Prop} (hX : CX C cX6_ride RX6 6 (some .int) [] (d + 4)) (hE : EQ C (rI Q) X) : ∀ (y0 : Int32) (y1 : Int32) (y2 : Nat) (w : Mm) (z mc ms : Nat), B_X6_ride_78 a0 a1 a2 a3 a4 Q y0 y1 y2 w z → VW C 78 [(0, .ref (a0)), (1, .int (a1)), (2, .int (a2)), (3, .int (a3)), (4, .int (a4))] [.int (y0), .int (y1), .ref (y2)] w z mc ms := by
  intro y0 y1 y2 w z mc ms h
  unfold B_X6_ride_78 at h
  refine vw_iconst hX (v := 0) dX6_ride_78 (by decide) ?_
  exact pB_X6_ride_79 hX hE _ _ _ _ _ _ _ _ h
def B_X6_ride_59 (a0 : Nat) (a1 : Int32) (a2 : Int32) (a3 : Int32) (a4 : Int32) (Q : Int32 → Mm → Nat → Prop) (x5 : Int32) (y0 : Int32) (y1 : Int32) (y2 : Nat) (w : Mm) (z : Nat) : Prop :=
  (¬ x5 = 0 → B_X6_ride_78 a0 a1 a2 a3 a4 Q y0 y1 y2 w z) ∧
  (x5 = 0 → isO w a0 10 ∧ F_X6_mayRide a0 a1 a4 w z (fun r17 w18 z19 => (¬ r17 = 0 → B_X6_ride_78 a0 a1 a2 a3 a4 Q y0 y1 y2 w18 z19) ∧
  (r17 = 0 → B_X6_ride_79 a0 a1 a2 a3 a4 Q 1 y0 y1 y2 w18 z19)))
set_option maxRecDepth 100000 in
set_option maxHeartbeats 4000000 in
theorem pB_X6_ride_59 {C : Cx} {d : Nat} {a0 : Nat} {a1 : Int32} {a2 : Int32} {a3 : Int32} {a4 : Int32} {Q : Int32 → Mm → Nat → Prop} {X : String → Mm → Nat → Prop} (hX : CX C cX6_ride RX6 6 (some .int) [] (d + 4)) (hE : EQ C (rI Q) X) : ∀ (x5 : Int32) (y0 : Int32) (y1 : Int32) (y2 : Nat) (w : Mm) (z mc ms : Nat), B_X6_ride_59 a0 a1 a2 a3 a4 Q x5 y0 y1 y2 w z → VW C 59 [(0, .ref (a0)), (1, .int (a1)), (2, .int (a2)), (3, .int (a3)), (4, .int (a4)), (5, .int (x5))] [.int (y0), .int (y1), .ref (y2)] w z mc ms := by
  intro x5 y0 y1 y2 w z mc ms h
  unfold B_X6_ride_59 at h
  refine vw_iload hX 5 dX6_ride_59 rfl ?_
  refine vw_if_ne hX (tgt := 78) dX6_ride_61 (by decide) (fun c15 => ?_) (fun c15 => ?_)
  · have h := h.1 c15
    exact vw_sub [0, 1, 2, 3, 4] rfl (pB_X6_ride_78 hX hE _ _ _ _ _ _ _ h)
  · have h := h.2 c15
    refine vw_aload_n hX 0 dX6_ride_64 rfl ?_
    refine vw_iload_n hX 1 dX6_ride_65 rfl ?_
    refine vw_iload hX 4 dX6_ride_66 rfl ?_
    obtain ⟨hr16, h⟩ := h
    refine s_X6_243 hX hr16 dX6_ride_68 (Nat.le_of_ble_eq_true rfl) (ct_X6_mayRide (d := d + 1) (lst hX) h) (fun r17 w18 z19 h => ?_)
    refine vw_if_ne hX (tgt := 78) dX6_ride_71 (by decide) (fun c20 => ?_) (fun c20 => ?_)
    · have h := h.1 c20
      exact vw_sub [0, 1, 2, 3, 4] rfl (pB_X6_ride_78 hX hE _ _ _ _ _ _ _ h)
    · have h := h.2 c20
      refine vw_iconst hX (v := 1) dX6_ride_74 (by decide) ?_
      refine vw_goto hX (tgt := 79) dX6_ride_75 (by decide) ?_
      exact vw_sub [0, 1, 2, 3, 4] rfl (pB_X6_ride_79 hX hE _ _ _ _ _ _ _ _ h)
def B_X6_ride_44 (a0 : Nat) (a1 : Int32) (a2 : Int32) (a3 : Int32) (a4 : Int32) (Q : Int32 → Mm → Nat → Prop) (y0 : Int32) (w : Mm) (z : Nat) : Prop :=
  (¬ a2 = a3 → B_X6_ride_59 a0 a1 a2 a3 a4 Q y0 0 y0 a0 w z) ∧
  (a2 = a3 → B_X6_ride_59 a0 a1 a2 a3 a4 Q y0 1 y0 a0 w z)
set_option maxRecDepth 100000 in
set_option maxHeartbeats 4000000 in
theorem pB_X6_ride_44 {C : Cx} {d : Nat} {a0 : Nat} {a1 : Int32} {a2 : Int32} {a3 : Int32} {a4 : Int32} {Q : Int32 → Mm → Nat → Prop} {X : String → Mm → Nat → Prop} (hX : CX C cX6_ride RX6 6 (some .int) [] (d + 4)) (hE : EQ C (rI Q) X) : ∀ (y0 : Int32) (w : Mm) (z mc ms : Nat), B_X6_ride_44 a0 a1 a2 a3 a4 Q y0 w z → VW C 44 [(0, .ref (a0)), (1, .int (a1)), (2, .int (a2)), (3, .int (a3)), (4, .int (a4))] [.int (y0)] w z mc ms := by
  intro y0 w z mc ms h
  unfold B_X6_ride_44 at h
  refine vw_istore hX dX6_ride_44 (by decide) rfl ?_
  refine vw_aload_n hX 1 dX6_ride_46 rfl ?_
  refine vw_iload hX 0 dX6_ride_47 rfl ?_
  refine vw_iload_n hX 3 dX6_ride_49 rfl ?_
  refine vw_iload_n hX 4 dX6_ride_50 rfl ?_
  refine vw_icmp_ne hX (tgt := 58) dX6_ride_51 (by decide) (fun c21 => ?_) (fun c21 => ?_)
  · have h := h.1 c21
    refine vw_iconst hX (v := 0) dX6_ride_58 (by decide) ?_
    exact vw_sub [1, 2, 3, 4, 5, 0] rfl (pB_X6_ride_59 hX hE _ _ _ _ _ _ _ _ h)
  · have h := h.2 c21
    refine vw_iconst hX (v := 1) dX6_ride_54 (by decide) ?_
    refine vw_goto hX (tgt := 59) dX6_ride_55 (by decide) ?_
    exact vw_sub [1, 2, 3, 4, 5, 0] rfl (pB_X6_ride_59 hX hE _ _ _ _ _ _ _ _ h)
def B_X6_ride_43 (a0 : Nat) (a1 : Int32) (a2 : Int32) (a3 : Int32) (a4 : Int32) (Q : Int32 → Mm → Nat → Prop) (w : Mm) (z : Nat) : Prop :=
  B_X6_ride_44 a0 a1 a2 a3 a4 Q 0 w z
set_option maxRecDepth 100000 in
set_option maxHeartbeats 4000000 in
theorem pB_X6_ride_43 {C : Cx} {d : Nat} {a0 : Nat} {a1 : Int32} {a2 : Int32} {a3 : Int32} {a4 : Int32} {Q : Int32 → Mm → Nat → Prop} {X : String → Mm → Nat → Prop} (hX : CX C cX6_ride RX6 6 (some .int) [] (d + 4)) (hE : EQ C (rI Q) X) : ∀  (w : Mm) (z mc ms : Nat), B_X6_ride_43 a0 a1 a2 a3 a4 Q  w z → VW C 43 [(0, .ref (a0)), (1, .int (a1)), (2, .int (a2)), (3, .int (a3)), (4, .int (a4))] [] w z mc ms := by
  intro  w z mc ms h
  unfold B_X6_ride_43 at h
  refine vw_iconst hX (v := 0) dX6_ride_43 (by decide) ?_
  exact pB_X6_ride_44 hX hE _ _ _ _ _ h
def B_X6_ride_39 (a0 : Nat) (a1 : Int32) (a2 : Int32) (a3 : Int32) (a4 : Int32) (Q : Int32 → Mm → Nat → Prop) (w : Mm) (z : Nat) : Prop :=
  B_X6_ride_44 a0 a1 a2 a3 a4 Q 1 w z
set_option maxRecDepth 100000 in
set_option maxHeartbeats 4000000 in
theorem pB_X6_ride_39 {C : Cx} {d : Nat} {a0 : Nat} {a1 : Int32} {a2 : Int32} {a3 : Int32} {a4 : Int32} {Q : Int32 → Mm → Nat → Prop} {X : String → Mm → Nat → Prop} (hX : CX C cX6_ride RX6 6 (some .int) [] (d + 4)) (hE : EQ C (rI Q) X) : ∀  (w : Mm) (z mc ms : Nat), B_X6_ride_39 a0 a1 a2 a3 a4 Q  w z → VW C 39 [(0, .ref (a0)), (1, .int (a1)), (2, .int (a2)), (3, .int (a3)), (4, .int (a4))] [] w z mc ms := by
  intro  w z mc ms h
  unfold B_X6_ride_39 at h
  refine vw_iconst hX (v := 1) dX6_ride_39 (by decide) ?_
  refine vw_goto hX (tgt := 44) dX6_ride_40 (by decide) ?_
  exact pB_X6_ride_44 hX hE _ _ _ _ _ h
def F_X6_ride (a0 : Nat) (a1 : Int32) (a2 : Int32) (a3 : Int32) (a4 : Int32) (w : Mm) (z : Nat) (Q : Int32 → Mm → Nat → Prop) : Prop :=
  isO w a0 10 ∧ F_X6_noPassenger a0 a1 w z (fun r2 w3 z4 => (¬ r2 = 0 → B_X6_ride_39 a0 a1 a2 a3 a4 Q w3 z4) ∧
  (r2 = 0 → isO w3 a0 10 ∧ F_X6_noStop a0 a2 w3 z4 (fun r7 w8 z9 => (¬ r7 = 0 → B_X6_ride_39 a0 a1 a2 a3 a4 Q w8 z9) ∧
  (r7 = 0 → isO w8 a0 10 ∧ F_X6_noStop a0 a3 w8 z9 (fun r12 w13 z14 => (¬ r12 = 0 → B_X6_ride_39 a0 a1 a2 a3 a4 Q w13 z14) ∧
  (r12 = 0 → (a4 = (-1) → B_X6_ride_43 a0 a1 a2 a3 a4 Q w13 z14) ∧
  (¬ a4 = (-1) → isO w13 a0 10 ∧ F_X6_noTicket a0 a4 w13 z14 (fun r18 w19 z20 => (r18 = 0 → B_X6_ride_43 a0 a1 a2 a3 a4 Q w19 z20) ∧
  (¬ r18 = 0 → B_X6_ride_39 a0 a1 a2 a3 a4 Q w19 z20)))))))))
set_option maxRecDepth 100000 in
set_option maxHeartbeats 4000000 in
theorem ct_X6_ride {l : Launch} {g : Gp} {d : Nat} (hst : l.stackTraces = false) {a0 : Nat} {a1 : Int32} {a2 : Int32} {a3 : Int32} {a4 : Int32} {w : Mm} {z mc ms : Nat} {Q : Int32 → Mm → Nat → Prop} {X : String → Mm → Nat → Prop} (h : F_X6_ride a0 a1 a2 a3 a4 w z Q) : Ct l g yX6_ride (.code yX6_ride cX6_ride 6 (some .int)) (d + 4) mc ms [.ref (a0), .int (a1), .int (a2), .int (a3), .int (a4)] w z (rI Q) X := by
  refine Ct.of hst (by decide) (Nat.le_of_ble_eq_true rfl) (fun C hX hE hg hl hNm => ?_)
  subst hg
  subst hl
  unfold F_X6_ride at h
  show VW C 0 [(0, .ref (a0)), (1, .int (a1)), (2, .int (a2)), (3, .int (a3)), (4, .int (a4))] [] w z mc ms
  refine vw_aload_n hX 0 dX6_ride_0 rfl ?_
  refine vw_iload_n hX 1 dX6_ride_1 rfl ?_
  obtain ⟨hr1, h⟩ := h
  refine s_X6_319 hX hr1 dX6_ride_2 (Nat.le_of_ble_eq_true rfl) (ct_X6_noPassenger (d := d + 2) (lst hX) h) (fun r2 w3 z4 h => ?_)
  refine vw_if_ne hX (tgt := 39) dX6_ride_5 (by decide) (fun c5 => ?_) (fun c5 => ?_)
  · have h := h.1 c5
    exact pB_X6_ride_39 hX hE _ _ _ _ h
  · have h := h.2 c5
    refine vw_aload_n hX 0 dX6_ride_8 rfl ?_
    refine vw_iload_n hX 2 dX6_ride_9 rfl ?_
    obtain ⟨hr6, h⟩ := h
    refine s_X6_322 hX hr6 dX6_ride_10 (Nat.le_of_ble_eq_true rfl) (ct_X6_noStop (d := d + 2) (lst hX) h) (fun r7 w8 z9 h => ?_)
    refine vw_if_ne hX (tgt := 39) dX6_ride_13 (by decide) (fun c10 => ?_) (fun c10 => ?_)
    · have h := h.1 c10
      exact pB_X6_ride_39 hX hE _ _ _ _ h
    · have h := h.2 c10
      refine vw_aload_n hX 0 dX6_ride_16 rfl ?_
      refine vw_iload_n hX 3 dX6_ride_17 rfl ?_
      obtain ⟨hr11, h⟩ := h
      refine s_X6_322 hX hr11 dX6_ride_18 (Nat.le_of_ble_eq_true rfl) (ct_X6_noStop (d := d + 2) (lst hX) h) (fun r12 w13 z14 h => ?_)
      refine vw_if_ne hX (tgt := 39) dX6_ride_21 (by decide) (fun c15 => ?_) (fun c15 => ?_)
      · have h := h.1 c15
        exact pB_X6_ride_39 hX hE _ _ _ _ h
      · have h := h.2 c15
        refine vw_iload hX 4 dX6_ride_24 rfl ?_
        refine vw_iconst hX (v := (-1)) dX6_ride_26 (by decide) ?_
        refine vw_icmp_eq hX (tgt := 43) dX6_ride_27 (by decide) (fun c16 => ?_) (fun c16 => ?_)
        · have h := h.1 c16
          exact pB_X6_ride_43 hX hE _ _ _ _ h
        · have h := h.2 c16
          refine vw_aload_n hX 0 dX6_ride_30 rfl ?_
          refine vw_iload hX 4 dX6_ride_31 rfl ?_
          obtain ⟨hr17, h⟩ := h
          refine s_X6_325 hX hr17 dX6_ride_33 (Nat.le_of_ble_eq_true rfl) (ct_X6_noTicket (d := d + 2) (lst hX) h) (fun r18 w19 z20 h => ?_)
          refine vw_if_eq hX (tgt := 43) dX6_ride_36 (by decide) (fun c21 => ?_) (fun c21 => ?_)
          · have h := h.1 c21
            exact pB_X6_ride_43 hX hE _ _ _ _ h
          · have h := h.2 c21
            exact pB_X6_ride_39 hX hE _ _ _ _ h
def B_X6_inspect_25 (a0 : Nat) (a1 : Int32) (Q : Int32 → Mm → Nat → Prop) (y0 : Int32) (y1 : Int32) (y2 : Nat) (w : Mm) (z : Nat) : Prop :=
  isO w y2 10 ∧ F_X6_fails y2 y1 y0 0 w z (fun r2 w3 z4 => (r2 = 0 → ∃ q6, fld w3 a0 10 0 = some (.ref (q6)) ∧ isO w3 a0 10 ∧ F_X6_remember a0 q6 w3 z4 (fun w9 z10 => isO w9 a0 10 ∧ F_X6_inspects a0 a1 w9 z10 (fun r12 w13 z14 => Q r12 w13 z14))) ∧
  (¬ r2 = 0 → Q 0 w3 z4))
set_option maxRecDepth 100000 in
set_option maxHeartbeats 4000000 in
theorem pB_X6_inspect_25 {C : Cx} {d : Nat} {a0 : Nat} {a1 : Int32} {Q : Int32 → Mm → Nat → Prop} {X : String → Mm → Nat → Prop} (hX : CX C cX6_inspect RX6 3 (some .int) [] (d + 5)) (hE : EQ C (rI Q) X) : ∀ (y0 : Int32) (y1 : Int32) (y2 : Nat) (w : Mm) (z mc ms : Nat), B_X6_inspect_25 a0 a1 Q y0 y1 y2 w z → VW C 25 [(0, .ref (a0)), (1, .int (a1))] [.int (y0), .int (y1), .ref (y2)] w z mc ms := by
  intro y0 y1 y2 w z mc ms h
  unfold B_X6_inspect_25 at h
  refine vw_iconst hX (v := 0) dX6_inspect_25 (by decide) ?_
  obtain ⟨hr1, h⟩ := h
  refine s_X6_157 hX hr1 dX6_inspect_26 (Nat.le_of_ble_eq_true rfl) (ct_X6_fails (d := d + 4) (lst hX) h) (fun r2 w3 z4 h => ?_)
  refine vw_if_eq hX (tgt := 34) dX6_inspect_29 (by decide) (fun c5 => ?_) (fun c5 => ?_)
  · have h := h.1 c5
    refine vw_aload_n hX 0 dX6_inspect_34 rfl ?_
    refine vw_aload_n hX 0 dX6_inspect_35 rfl ?_
    obtain ⟨q6, hq6, h⟩ := h
    refine g_X6_9 hX hq6 dX6_inspect_36 ?_
    obtain ⟨hr7, h⟩ := h
    refine s_X6_300 hX hr7 dX6_inspect_39 (Nat.le_of_ble_eq_true rfl) (ct_X6_remember (d := d + 1) (lst hX) h) (fun w9 z10 h => ?_)
    refine vw_aload_n hX 0 dX6_inspect_42 rfl ?_
    refine vw_iload_n hX 1 dX6_inspect_43 rfl ?_
    obtain ⟨hr11, h⟩ := h
    refine s_X6_276 hX hr11 dX6_inspect_44 (Nat.le_of_ble_eq_true rfl) (ct_X6_inspects (d := d + 0) (lst hX) h) (fun r12 w13 z14 h => ?_)
    exact vw_iret hX hE dX6_inspect_47 ⟨_, rfl, h⟩
  · have h := h.2 c5
    refine vw_iconst hX (v := 0) dX6_inspect_32 (by decide) ?_
    exact vw_iret hX hE dX6_inspect_33 ⟨_, rfl, h⟩
def B_X6_inspect_24 (a0 : Nat) (a1 : Int32) (Q : Int32 → Mm → Nat → Prop) (y0 : Int32) (y1 : Nat) (w : Mm) (z : Nat) : Prop :=
  B_X6_inspect_25 a0 a1 Q 0 y0 y1 w z
set_option maxRecDepth 100000 in
set_option maxHeartbeats 4000000 in
theorem pB_X6_inspect_24 {C : Cx} {d : Nat} {a0 : Nat} {a1 : Int32} {Q : Int32 → Mm → Nat → Prop} {X : String → Mm → Nat → Prop} (hX : CX C cX6_inspect RX6 3 (some .int) [] (d + 5)) (hE : EQ C (rI Q) X) : ∀ (y0 : Int32) (y1 : Nat) (w : Mm) (z mc ms : Nat), B_X6_inspect_24 a0 a1 Q y0 y1 w z → VW C 24 [(0, .ref (a0)), (1, .int (a1))] [.int (y0), .ref (y1)] w z mc ms := by
  intro y0 y1 w z mc ms h
  unfold B_X6_inspect_24 at h
  refine vw_iconst hX (v := 0) dX6_inspect_24 (by decide) ?_
  exact pB_X6_inspect_25 hX hE _ _ _ _ _ _ _ h
def F_X6_inspect (a0 : Nat) (a1 : Int32) (w : Mm) (z : Nat) (Q : Int32 → Mm → Nat → Prop) : Prop :=
  isO w a0 10 ∧ F_X6_noPassenger a0 a1 w z (fun r2 w3 z4 => (¬ r2 = 0 → B_X6_inspect_24 a0 a1 Q r2 a0 w3 z4) ∧
  (r2 = 0 → isO w3 a0 10 ∧ F_X6_mayInspect a0 a1 w3 z4 (fun r7 w8 z9 => (¬ r7 = 0 → B_X6_inspect_24 a0 a1 Q r2 a0 w8 z9) ∧
  (r7 = 0 → B_X6_inspect_25 a0 a1 Q 1 r2 a0 w8 z9))))
set_option maxRecDepth 100000 in
set_option maxHeartbeats 4000000 in
theorem ct_X6_inspect {l : Launch} {g : Gp} {d : Nat} (hst : l.stackTraces = false) {a0 : Nat} {a1 : Int32} {w : Mm} {z mc ms : Nat} {Q : Int32 → Mm → Nat → Prop} {X : String → Mm → Nat → Prop} (h : F_X6_inspect a0 a1 w z Q) : Ct l g yX6_inspect (.code yX6_inspect cX6_inspect 3 (some .int)) (d + 5) mc ms [.ref (a0), .int (a1)] w z (rI Q) X := by
  refine Ct.of hst (by decide) (Nat.le_of_ble_eq_true rfl) (fun C hX hE hg hl hNm => ?_)
  subst hg
  subst hl
  unfold F_X6_inspect at h
  show VW C 0 [(0, .ref (a0)), (1, .int (a1))] [] w z mc ms
  refine vw_aload_n hX 0 dX6_inspect_0 rfl ?_
  refine vw_iload_n hX 1 dX6_inspect_1 rfl ?_
  obtain ⟨hr1, h⟩ := h
  refine s_X6_319 hX hr1 dX6_inspect_2 (Nat.le_of_ble_eq_true rfl) (ct_X6_noPassenger (d := d + 3) (lst hX) h) (fun r2 w3 z4 h => ?_)
  refine vw_istore_n hX dX6_inspect_5 (by decide) rfl ?_
  refine vw_aload_n hX 1 dX6_inspect_6 rfl ?_
  refine vw_iload_n hX 0 dX6_inspect_7 rfl ?_
  refine vw_iload_n hX 0 dX6_inspect_8 rfl ?_
  refine vw_if_ne hX (tgt := 24) dX6_inspect_9 (by decide) (fun c5 => ?_) (fun c5 => ?_)
  · have h := h.1 c5
    exact vw_sub [1, 2] rfl (pB_X6_inspect_24 hX hE _ _ _ _ _ _ h)
  · have h := h.2 c5
    refine vw_aload_n hX 1 dX6_inspect_12 rfl ?_
    refine vw_iload_n hX 2 dX6_inspect_13 rfl ?_
    obtain ⟨hr6, h⟩ := h
    refine s_X6_273 hX hr6 dX6_inspect_14 (Nat.le_of_ble_eq_true rfl) (ct_X6_mayInspect (d := d + 2) (lst hX) h) (fun r7 w8 z9 h => ?_)
    refine vw_if_ne hX (tgt := 24) dX6_inspect_17 (by decide) (fun c10 => ?_) (fun c10 => ?_)
    · have h := h.1 c10
      exact vw_sub [1, 2] rfl (pB_X6_inspect_24 hX hE _ _ _ _ _ _ h)
    · have h := h.2 c10
      refine vw_iconst hX (v := 1) dX6_inspect_20 (by decide) ?_
      refine vw_goto hX (tgt := 25) dX6_inspect_21 (by decide) ?_
      exact vw_sub [1, 2] rfl (pB_X6_inspect_25 hX hE _ _ _ _ _ _ _ h)
def B_X6_waitFor_41 (a0 : Nat) (a1 : Int32) (Q : Int32 → Mm → Nat → Prop) (y0 : Int32) (y1 : Int32) (y2 : Nat) (w : Mm) (z : Nat) : Prop :=
  isO w y2 10 ∧ F_X6_fails y2 y1 y0 0 w z (fun r2 w3 z4 => (r2 = 0 → ∃ q6, fld w3 a0 10 0 = some (.ref (q6)) ∧ isO w3 a0 10 ∧ F_X6_remember a0 q6 w3 z4 (fun w9 z10 => isO w9 a0 10 ∧ F_X6_waits a0 a1 w9 z10 (fun r12 w13 z14 => Q r12 w13 z14))) ∧
  (¬ r2 = 0 → Q 0 w3 z4))
set_option maxRecDepth 100000 in
set_option maxHeartbeats 4000000 in
theorem pB_X6_waitFor_41 {C : Cx} {d : Nat} {a0 : Nat} {a1 : Int32} {Q : Int32 → Mm → Nat → Prop} {X : String → Mm → Nat → Prop} (hX : CX C cX6_waitFor RX6 3 (some .int) [] (d + 4)) (hE : EQ C (rI Q) X) : ∀ (y0 : Int32) (y1 : Int32) (y2 : Nat) (w : Mm) (z mc ms : Nat), B_X6_waitFor_41 a0 a1 Q y0 y1 y2 w z → VW C 41 [(0, .ref (a0)), (1, .int (a1))] [.int (y0), .int (y1), .ref (y2)] w z mc ms := by
  intro y0 y1 y2 w z mc ms h
  unfold B_X6_waitFor_41 at h
  refine vw_iconst hX (v := 0) dX6_waitFor_41 (by decide) ?_
  obtain ⟨hr1, h⟩ := h
  refine s_X6_157 hX hr1 dX6_waitFor_42 (Nat.le_of_ble_eq_true rfl) (ct_X6_fails (d := d + 3) (lst hX) h) (fun r2 w3 z4 h => ?_)
  refine vw_if_eq hX (tgt := 50) dX6_waitFor_45 (by decide) (fun c5 => ?_) (fun c5 => ?_)
  · have h := h.1 c5
    refine vw_aload_n hX 0 dX6_waitFor_50 rfl ?_
    refine vw_aload_n hX 0 dX6_waitFor_51 rfl ?_
    obtain ⟨q6, hq6, h⟩ := h
    refine g_X6_9 hX hq6 dX6_waitFor_52 ?_
    obtain ⟨hr7, h⟩ := h
    refine s_X6_300 hX hr7 dX6_waitFor_55 (Nat.le_of_ble_eq_true rfl) (ct_X6_remember (d := d + 0) (lst hX) h) (fun w9 z10 h => ?_)
    refine vw_aload_n hX 0 dX6_waitFor_58 rfl ?_
    refine vw_iload_n hX 1 dX6_waitFor_59 rfl ?_
    obtain ⟨hr11, h⟩ := h
    refine s_X6_281 hX hr11 dX6_waitFor_60 (Nat.le_of_ble_eq_true rfl) (ct_X6_waits (d := d + 3) (lst hX) h) (fun r12 w13 z14 h => ?_)
    exact vw_iret hX hE dX6_waitFor_63 ⟨_, rfl, h⟩
  · have h := h.2 c5
    refine vw_iconst hX (v := 0) dX6_waitFor_48 (by decide) ?_
    exact vw_iret hX hE dX6_waitFor_49 ⟨_, rfl, h⟩
def B_X6_waitFor_40 (a0 : Nat) (a1 : Int32) (Q : Int32 → Mm → Nat → Prop) (y0 : Int32) (y1 : Nat) (w : Mm) (z : Nat) : Prop :=
  B_X6_waitFor_41 a0 a1 Q 0 y0 y1 w z
set_option maxRecDepth 100000 in
set_option maxHeartbeats 4000000 in
theorem pB_X6_waitFor_40 {C : Cx} {d : Nat} {a0 : Nat} {a1 : Int32} {Q : Int32 → Mm → Nat → Prop} {X : String → Mm → Nat → Prop} (hX : CX C cX6_waitFor RX6 3 (some .int) [] (d + 4)) (hE : EQ C (rI Q) X) : ∀ (y0 : Int32) (y1 : Nat) (w : Mm) (z mc ms : Nat), B_X6_waitFor_40 a0 a1 Q y0 y1 w z → VW C 40 [(0, .ref (a0)), (1, .int (a1))] [.int (y0), .ref (y1)] w z mc ms := by
  intro y0 y1 w z mc ms h
  unfold B_X6_waitFor_40 at h
  refine vw_iconst hX (v := 0) dX6_waitFor_40 (by decide) ?_
  exact pB_X6_waitFor_41 hX hE _ _ _ _ _ _ _ h
def B_X6_waitFor_16 (a0 : Nat) (a1 : Int32) (Q : Int32 → Mm → Nat → Prop) (y0 : Int32) (w : Mm) (z : Nat) : Prop :=
  (¬ y0 = 0 → B_X6_waitFor_40 a0 a1 Q y0 a0 w z) ∧
  (y0 = 0 → ∃ q16, fld w a0 10 0 = some (.ref (q16)) ∧ ∃ n18 f17, arI w q16 0 = some (n18, f17) ∧ vp_in 0 n18 ∧ (((((f17 (0 : Int32).toNatClampNeg)) + a1)) ≤ 99999 → B_X6_waitFor_40 a0 a1 Q y0 a0 w z) ∧
  (¬ ((((f17 (0 : Int32).toNatClampNeg)) + a1)) ≤ 99999 → B_X6_waitFor_41 a0 a1 Q 1 y0 a0 w z))
set_option maxRecDepth 100000 in
set_option maxHeartbeats 4000000 in
theorem pB_X6_waitFor_16 {C : Cx} {d : Nat} {a0 : Nat} {a1 : Int32} {Q : Int32 → Mm → Nat → Prop} {X : String → Mm → Nat → Prop} (hX : CX C cX6_waitFor RX6 3 (some .int) [] (d + 4)) (hE : EQ C (rI Q) X) : ∀ (y0 : Int32) (w : Mm) (z mc ms : Nat), B_X6_waitFor_16 a0 a1 Q y0 w z → VW C 16 [(0, .ref (a0)), (1, .int (a1))] [.int (y0)] w z mc ms := by
  intro y0 w z mc ms h
  unfold B_X6_waitFor_16 at h
  refine vw_istore_n hX dX6_waitFor_16 (by decide) rfl ?_
  refine vw_aload_n hX 1 dX6_waitFor_17 rfl ?_
  refine vw_iload_n hX 0 dX6_waitFor_18 rfl ?_
  refine vw_iload_n hX 0 dX6_waitFor_19 rfl ?_
  refine vw_if_ne hX (tgt := 40) dX6_waitFor_20 (by decide) (fun c15 => ?_) (fun c15 => ?_)
  · have h := h.1 c15
    exact vw_sub [1, 2] rfl (pB_X6_waitFor_40 hX hE _ _ _ _ _ _ h)
  · have h := h.2 c15
    refine vw_aload_n hX 1 dX6_waitFor_23 rfl ?_
    obtain ⟨q16, hq16, h⟩ := h
    refine g_X6_9 hX hq16 dX6_waitFor_24 ?_
    refine vw_iconst hX (v := 0) dX6_waitFor_27 (by decide) ?_
    obtain ⟨n18, f17, hf17, hif17, h⟩ := h
    refine vw_iald hX hf17 hif17 dX6_waitFor_28 ?_
    refine vw_iload_n hX 2 dX6_waitFor_29 rfl ?_
    refine vw_iadd hX dX6_waitFor_30 ?_
    refine vw_ldcI hX kw_1642 dX6_waitFor_31 ?_
    refine vw_icmp_le hX (tgt := 40) dX6_waitFor_33 (by decide) (fun c19 => ?_) (fun c19 => ?_)
    · have h := h.1 c19
      exact vw_sub [1, 2] rfl (pB_X6_waitFor_40 hX hE _ _ _ _ _ _ h)
    · have h := h.2 c19
      refine vw_iconst hX (v := 1) dX6_waitFor_36 (by decide) ?_
      refine vw_goto hX (tgt := 41) dX6_waitFor_37 (by decide) ?_
      exact vw_sub [1, 2] rfl (pB_X6_waitFor_41 hX hE _ _ _ _ _ _ _ h)
def F_X6_waitFor (a0 : Nat) (a1 : Int32) (w : Mm) (z : Nat) (Q : Int32 → Mm → Nat → Prop) : Prop :=
  F_X6_isIn a1 1 9999 w z (fun r1 w2 z3 => (¬ r1 = 0 → B_X6_waitFor_16 a0 a1 Q 0 w2 z3) ∧
  (r1 = 0 → B_X6_waitFor_16 a0 a1 Q 1 w2 z3))
set_option maxRecDepth 100000 in
set_option maxHeartbeats 4000000 in
theorem ct_X6_waitFor {l : Launch} {g : Gp} {d : Nat} (hst : l.stackTraces = false) {a0 : Nat} {a1 : Int32} {w : Mm} {z mc ms : Nat} {Q : Int32 → Mm → Nat → Prop} {X : String → Mm → Nat → Prop} (h : F_X6_waitFor a0 a1 w z Q) : Ct l g yX6_waitFor (.code yX6_waitFor cX6_waitFor 3 (some .int)) (d + 4) mc ms [.ref (a0), .int (a1)] w z (rI Q) X := by
  refine Ct.of hst (by decide) (Nat.le_of_ble_eq_true rfl) (fun C hX hE hg hl hNm => ?_)
  subst hg
  subst hl
  unfold F_X6_waitFor at h
  show VW C 0 [(0, .ref (a0)), (1, .int (a1))] [] w z mc ms
  refine vw_iload_n hX 1 dX6_waitFor_0 rfl ?_
  refine vw_iconst hX (v := 1) dX6_waitFor_1 (by decide) ?_
  refine vw_sipush hX (v := 9999) dX6_waitFor_2 (by decide) ?_
  refine s_X6_77 hX dX6_waitFor_5 (Nat.le_of_ble_eq_true rfl) (ct_X6_isIn (d := d + 3) (lst hX) h) (fun r1 w2 z3 h => ?_)
  refine vw_if_ne hX (tgt := 15) dX6_waitFor_8 (by decide) (fun c4 => ?_) (fun c4 => ?_)
  · have h := h.1 c4
    refine vw_iconst hX (v := 0) dX6_waitFor_15 (by decide) ?_
    exact pB_X6_waitFor_16 hX hE _ _ _ _ _ h
  · have h := h.2 c4
    refine vw_iconst hX (v := 1) dX6_waitFor_11 (by decide) ?_
    refine vw_goto hX (tgt := 16) dX6_waitFor_12 (by decide) ?_
    exact pB_X6_waitFor_16 hX hE _ _ _ _ _ h
def B_X6_appeal_41 (a0 : Nat) (a1 : Int32) (a2 : Int32) (Q : Int32 → Mm → Nat → Prop) (y0 : Int32) (y1 : Int32) (y2 : Nat) (w : Mm) (z : Nat) : Prop :=
  isO w y2 10 ∧ F_X6_fails y2 y1 y0 0 w z (fun r2 w3 z4 => (r2 = 0 → ∃ q6, fld w3 a0 10 0 = some (.ref (q6)) ∧ isO w3 a0 10 ∧ F_X6_remember a0 q6 w3 z4 (fun w9 z10 => isO w9 a0 10 ∧ F_X6_appeals a0 a1 a2 w9 z10 (fun r12 w13 z14 => Q r12 w13 z14))) ∧
  (¬ r2 = 0 → Q 0 w3 z4))
set_option maxRecDepth 100000 in
set_option maxHeartbeats 4000000 in
theorem pB_X6_appeal_41 {C : Cx} {d : Nat} {a0 : Nat} {a1 : Int32} {a2 : Int32} {Q : Int32 → Mm → Nat → Prop} {X : String → Mm → Nat → Prop} (hX : CX C cX6_appeal RX6 4 (some .int) [] (d + 4)) (hE : EQ C (rI Q) X) : ∀ (y0 : Int32) (y1 : Int32) (y2 : Nat) (w : Mm) (z mc ms : Nat), B_X6_appeal_41 a0 a1 a2 Q y0 y1 y2 w z → VW C 41 [(0, .ref (a0)), (1, .int (a1)), (2, .int (a2))] [.int (y0), .int (y1), .ref (y2)] w z mc ms := by
  intro y0 y1 y2 w z mc ms h
  unfold B_X6_appeal_41 at h
  refine vw_iconst hX (v := 0) dX6_appeal_41 (by decide) ?_
  obtain ⟨hr1, h⟩ := h
  refine s_X6_157 hX hr1 dX6_appeal_42 (Nat.le_of_ble_eq_true rfl) (ct_X6_fails (d := d + 3) (lst hX) h) (fun r2 w3 z4 h => ?_)
  refine vw_if_eq hX (tgt := 50) dX6_appeal_45 (by decide) (fun c5 => ?_) (fun c5 => ?_)
  · have h := h.1 c5
    refine vw_aload_n hX 0 dX6_appeal_50 rfl ?_
    refine vw_aload_n hX 0 dX6_appeal_51 rfl ?_
    obtain ⟨q6, hq6, h⟩ := h
    refine g_X6_9 hX hq6 dX6_appeal_52 ?_
    obtain ⟨hr7, h⟩ := h
    refine s_X6_300 hX hr7 dX6_appeal_55 (Nat.le_of_ble_eq_true rfl) (ct_X6_remember (d := d + 0) (lst hX) h) (fun w9 z10 h => ?_)
    refine vw_aload_n hX 0 dX6_appeal_58 rfl ?_
    refine vw_iload_n hX 1 dX6_appeal_59 rfl ?_
    refine vw_iload_n hX 2 dX6_appeal_60 rfl ?_
    obtain ⟨hr11, h⟩ := h
    refine s_X6_253 hX hr11 dX6_appeal_61 (Nat.le_of_ble_eq_true rfl) (ct_X6_appeals (d := d + 2) (lst hX) h) (fun r12 w13 z14 h => ?_)
    exact vw_iret hX hE dX6_appeal_64 ⟨_, rfl, h⟩
  · have h := h.2 c5
    refine vw_iconst hX (v := 0) dX6_appeal_48 (by decide) ?_
    exact vw_iret hX hE dX6_appeal_49 ⟨_, rfl, h⟩
def B_X6_appeal_40 (a0 : Nat) (a1 : Int32) (a2 : Int32) (Q : Int32 → Mm → Nat → Prop) (y0 : Int32) (y1 : Nat) (w : Mm) (z : Nat) : Prop :=
  B_X6_appeal_41 a0 a1 a2 Q 0 y0 y1 w z
set_option maxRecDepth 100000 in
set_option maxHeartbeats 4000000 in
theorem pB_X6_appeal_40 {C : Cx} {d : Nat} {a0 : Nat} {a1 : Int32} {a2 : Int32} {Q : Int32 → Mm → Nat → Prop} {X : String → Mm → Nat → Prop} (hX : CX C cX6_appeal RX6 4 (some .int) [] (d + 4)) (hE : EQ C (rI Q) X) : ∀ (y0 : Int32) (y1 : Nat) (w : Mm) (z mc ms : Nat), B_X6_appeal_40 a0 a1 a2 Q y0 y1 w z → VW C 40 [(0, .ref (a0)), (1, .int (a1)), (2, .int (a2))] [.int (y0), .ref (y1)] w z mc ms := by
  intro y0 y1 w z mc ms h
  unfold B_X6_appeal_40 at h
  refine vw_iconst hX (v := 0) dX6_appeal_40 (by decide) ?_
  exact pB_X6_appeal_41 hX hE _ _ _ _ _ _ _ h
def B_X6_appeal_21 (a0 : Nat) (a1 : Int32) (a2 : Int32) (Q : Int32 → Mm → Nat → Prop) (y0 : Int32) (w : Mm) (z : Nat) : Prop :=
  (¬ y0 = 0 → B_X6_appeal_40 a0 a1 a2 Q y0 a0 w z) ∧
  (y0 = 0 → isO w a0 10 ∧ F_X6_mayAppeal a0 a1 w z (fun r17 w18 z19 => (¬ r17 = 0 → B_X6_appeal_40 a0 a1 a2 Q y0 a0 w18 z19) ∧
  (r17 = 0 → B_X6_appeal_41 a0 a1 a2 Q 1 y0 a0 w18 z19)))
set_option maxRecDepth 100000 in
set_option maxHeartbeats 4000000 in
theorem pB_X6_appeal_21 {C : Cx} {d : Nat} {a0 : Nat} {a1 : Int32} {a2 : Int32} {Q : Int32 → Mm → Nat → Prop} {X : String → Mm → Nat → Prop} (hX : CX C cX6_appeal RX6 4 (some .int) [] (d + 4)) (hE : EQ C (rI Q) X) : ∀ (y0 : Int32) (w : Mm) (z mc ms : Nat), B_X6_appeal_21 a0 a1 a2 Q y0 w z → VW C 21 [(0, .ref (a0)), (1, .int (a1)), (2, .int (a2))] [.int (y0)] w z mc ms := by
  intro y0 w z mc ms h
  unfold B_X6_appeal_21 at h
  refine vw_istore_n hX dX6_appeal_21 (by decide) rfl ?_
  refine vw_aload_n hX 1 dX6_appeal_22 rfl ?_
  refine vw_iload_n hX 0 dX6_appeal_23 rfl ?_
  refine vw_iload_n hX 0 dX6_appeal_24 rfl ?_
  refine vw_if_ne hX (tgt := 40) dX6_appeal_25 (by decide) (fun c15 => ?_) (fun c15 => ?_)
  · have h := h.1 c15
    exact vw_sub [1, 2, 3] rfl (pB_X6_appeal_40 hX hE _ _ _ _ _ _ h)
  · have h := h.2 c15
    refine vw_aload_n hX 1 dX6_appeal_28 rfl ?_
    refine vw_iload_n hX 2 dX6_appeal_29 rfl ?_
    obtain ⟨hr16, h⟩ := h
    refine s_X6_250 hX hr16 dX6_appeal_30 (Nat.le_of_ble_eq_true rfl) (ct_X6_mayAppeal (d := d + 1) (lst hX) h) (fun r17 w18 z19 h => ?_)
    refine vw_if_ne hX (tgt := 40) dX6_appeal_33 (by decide) (fun c20 => ?_) (fun c20 => ?_)
    · have h := h.1 c20
      exact vw_sub [1, 2, 3] rfl (pB_X6_appeal_40 hX hE _ _ _ _ _ _ h)
    · have h := h.2 c20
      refine vw_iconst hX (v := 1) dX6_appeal_36 (by decide) ?_
      refine vw_goto hX (tgt := 41) dX6_appeal_37 (by decide) ?_
      exact vw_sub [1, 2, 3] rfl (pB_X6_appeal_41 hX hE _ _ _ _ _ _ _ h)
def B_X6_appeal_16 (a0 : Nat) (a1 : Int32) (a2 : Int32) (Q : Int32 → Mm → Nat → Prop) (w : Mm) (z : Nat) : Prop :=
  B_X6_appeal_21 a0 a1 a2 Q 1 w z
set_option maxRecDepth 100000 in
set_option maxHeartbeats 4000000 in
theorem pB_X6_appeal_16 {C : Cx} {d : Nat} {a0 : Nat} {a1 : Int32} {a2 : Int32} {Q : Int32 → Mm → Nat → Prop} {X : String → Mm → Nat → Prop} (hX : CX C cX6_appeal RX6 4 (some .int) [] (d + 4)) (hE : EQ C (rI Q) X) : ∀  (w : Mm) (z mc ms : Nat), B_X6_appeal_16 a0 a1 a2 Q  w z → VW C 16 [(0, .ref (a0)), (1, .int (a1)), (2, .int (a2))] [] w z mc ms := by
  intro  w z mc ms h
  unfold B_X6_appeal_16 at h
  refine vw_iconst hX (v := 1) dX6_appeal_16 (by decide) ?_
  refine vw_goto hX (tgt := 21) dX6_appeal_17 (by decide) ?_
  exact pB_X6_appeal_21 hX hE _ _ _ _ _ h
def F_X6_appeal (a0 : Nat) (a1 : Int32) (a2 : Int32) (w : Mm) (z : Nat) (Q : Int32 → Mm → Nat → Prop) : Prop :=
  isO w a0 10 ∧ F_X6_noCase a0 a1 w z (fun r2 w3 z4 => (¬ r2 = 0 → B_X6_appeal_16 a0 a1 a2 Q w3 z4) ∧
  (r2 = 0 → isO w3 a0 10 ∧ F_X6_noTicket a0 a2 w3 z4 (fun r7 w8 z9 => (r7 = 0 → B_X6_appeal_21 a0 a1 a2 Q 0 w8 z9) ∧
  (¬ r7 = 0 → B_X6_appeal_16 a0 a1 a2 Q w8 z9))))
set_option maxRecDepth 100000 in
set_option maxHeartbeats 4000000 in
theorem ct_X6_appeal {l : Launch} {g : Gp} {d : Nat} (hst : l.stackTraces = false) {a0 : Nat} {a1 : Int32} {a2 : Int32} {w : Mm} {z mc ms : Nat} {Q : Int32 → Mm → Nat → Prop} {X : String → Mm → Nat → Prop} (h : F_X6_appeal a0 a1 a2 w z Q) : Ct l g yX6_appeal (.code yX6_appeal cX6_appeal 4 (some .int)) (d + 4) mc ms [.ref (a0), .int (a1), .int (a2)] w z (rI Q) X := by
  refine Ct.of hst (by decide) (Nat.le_of_ble_eq_true rfl) (fun C hX hE hg hl hNm => ?_)
  subst hg
  subst hl
  unfold F_X6_appeal at h
  show VW C 0 [(0, .ref (a0)), (1, .int (a1)), (2, .int (a2))] [] w z mc ms
  refine vw_aload_n hX 0 dX6_appeal_0 rfl ?_
  refine vw_iload_n hX 1 dX6_appeal_1 rfl ?_
  obtain ⟨hr1, h⟩ := h
  refine s_X6_328 hX hr1 dX6_appeal_2 (Nat.le_of_ble_eq_true rfl) (ct_X6_noCase (d := d + 2) (lst hX) h) (fun r2 w3 z4 h => ?_)
  refine vw_if_ne hX (tgt := 16) dX6_appeal_5 (by decide) (fun c5 => ?_) (fun c5 => ?_)
  · have h := h.1 c5
    exact pB_X6_appeal_16 hX hE _ _ _ _ h
  · have h := h.2 c5
    refine vw_aload_n hX 0 dX6_appeal_8 rfl ?_
    refine vw_iload_n hX 2 dX6_appeal_9 rfl ?_
    obtain ⟨hr6, h⟩ := h
    refine s_X6_325 hX hr6 dX6_appeal_10 (Nat.le_of_ble_eq_true rfl) (ct_X6_noTicket (d := d + 2) (lst hX) h) (fun r7 w8 z9 h => ?_)
    refine vw_if_eq hX (tgt := 20) dX6_appeal_13 (by decide) (fun c10 => ?_) (fun c10 => ?_)
    · have h := h.1 c10
      refine vw_iconst hX (v := 0) dX6_appeal_20 (by decide) ?_
      exact pB_X6_appeal_21 hX hE _ _ _ _ _ h
    · have h := h.2 c10
      exact pB_X6_appeal_16 hX hE _ _ _ _ h
def B_X6_decide_27 (a0 : Nat) (a1 : Int32) (Q : Int32 → Mm → Nat → Prop) (y0 : Int32) (y1 : Int32) (y2 : Nat) (w : Mm) (z : Nat) : Prop :=
  isO w y2 10 ∧ F_X6_fails y2 y1 y0 0 w z (fun r2 w3 z4 => (r2 = 0 → ∃ q6, fld w3 a0 10 0 = some (.ref (q6)) ∧ isO w3 a0 10 ∧ F_X6_remember a0 q6 w3 z4 (fun w9 z10 => isO w9 a0 10 ∧ F_X6_decides a0 a1 w9 z10 (fun r12 w13 z14 => Q r12 w13 z14))) ∧
  (¬ r2 = 0 → Q 0 w3 z4))
set_option maxRecDepth 100000 in
set_option maxHeartbeats 4000000 in
theorem pB_X6_decide_27 {C : Cx} {d : Nat} {a0 : Nat} {a1 : Int32} {Q : Int32 → Mm → Nat → Prop} {X : String → Mm → Nat → Prop} (hX : CX C cX6_decide RX6 3 (some .int) [] (d + 4)) (hE : EQ C (rI Q) X) : ∀ (y0 : Int32) (y1 : Int32) (y2 : Nat) (w : Mm) (z mc ms : Nat), B_X6_decide_27 a0 a1 Q y0 y1 y2 w z → VW C 27 [(0, .ref (a0)), (1, .int (a1))] [.int (y0), .int (y1), .ref (y2)] w z mc ms := by
  intro y0 y1 y2 w z mc ms h
  unfold B_X6_decide_27 at h
  refine vw_iconst hX (v := 0) dX6_decide_27 (by decide) ?_
  obtain ⟨hr1, h⟩ := h
  refine s_X6_157 hX hr1 dX6_decide_28 (Nat.le_of_ble_eq_true rfl) (ct_X6_fails (d := d + 3) (lst hX) h) (fun r2 w3 z4 h => ?_)
  refine vw_if_eq hX (tgt := 36) dX6_decide_31 (by decide) (fun c5 => ?_) (fun c5 => ?_)
  · have h := h.1 c5
    refine vw_aload_n hX 0 dX6_decide_36 rfl ?_
    refine vw_aload_n hX 0 dX6_decide_37 rfl ?_
    obtain ⟨q6, hq6, h⟩ := h
    refine g_X6_9 hX hq6 dX6_decide_38 ?_
    obtain ⟨hr7, h⟩ := h
    refine s_X6_300 hX hr7 dX6_decide_41 (Nat.le_of_ble_eq_true rfl) (ct_X6_remember (d := d + 0) (lst hX) h) (fun w9 z10 h => ?_)
    refine vw_aload_n hX 0 dX6_decide_44 rfl ?_
    refine vw_iload_n hX 1 dX6_decide_45 rfl ?_
    obtain ⟨hr11, h⟩ := h
    refine s_X6_286 hX hr11 dX6_decide_46 (Nat.le_of_ble_eq_true rfl) (ct_X6_decides (d := d + 1) (lst hX) h) (fun r12 w13 z14 h => ?_)
    exact vw_iret hX hE dX6_decide_49 ⟨_, rfl, h⟩
  · have h := h.2 c5
    refine vw_iconst hX (v := 0) dX6_decide_34 (by decide) ?_
    exact vw_iret hX hE dX6_decide_35 ⟨_, rfl, h⟩
def B_X6_decide_26 (a0 : Nat) (a1 : Int32) (Q : Int32 → Mm → Nat → Prop) (y0 : Int32) (y1 : Nat) (w : Mm) (z : Nat) : Prop :=
  B_X6_decide_27 a0 a1 Q 0 y0 y1 w z
set_option maxRecDepth 100000 in
set_option maxHeartbeats 4000000 in
theorem pB_X6_decide_26 {C : Cx} {d : Nat} {a0 : Nat} {a1 : Int32} {Q : Int32 → Mm → Nat → Prop} {X : String → Mm → Nat → Prop} (hX : CX C cX6_decide RX6 3 (some .int) [] (d + 4)) (hE : EQ C (rI Q) X) : ∀ (y0 : Int32) (y1 : Nat) (w : Mm) (z mc ms : Nat), B_X6_decide_26 a0 a1 Q y0 y1 w z → VW C 26 [(0, .ref (a0)), (1, .int (a1))] [.int (y0), .ref (y1)] w z mc ms := by
  intro y0 y1 w z mc ms h
  unfold B_X6_decide_26 at h
  refine vw_iconst hX (v := 0) dX6_decide_26 (by decide) ?_
  exact pB_X6_decide_27 hX hE _ _ _ _ _ _ _ h
def F_X6_decide (a0 : Nat) (a1 : Int32) (w : Mm) (z : Nat) (Q : Int32 → Mm → Nat → Prop) : Prop :=
  isO w a0 10 ∧ F_X6_noCase a0 a1 w z (fun r2 w3 z4 => (¬ r2 = 0 → B_X6_decide_26 a0 a1 Q r2 a0 w3 z4) ∧
  (r2 = 0 → isO w3 a0 10 ∧ F_X6_ofCase a0 a1 2 w3 z4 (fun r7 w8 z9 => (r7 = 1 → B_X6_decide_26 a0 a1 Q r2 a0 w8 z9) ∧
  (¬ r7 = 1 → B_X6_decide_27 a0 a1 Q 1 r2 a0 w8 z9))))
set_option maxRecDepth 100000 in
set_option maxHeartbeats 4000000 in
theorem ct_X6_decide {l : Launch} {g : Gp} {d : Nat} (hst : l.stackTraces = false) {a0 : Nat} {a1 : Int32} {w : Mm} {z mc ms : Nat} {Q : Int32 → Mm → Nat → Prop} {X : String → Mm → Nat → Prop} (h : F_X6_decide a0 a1 w z Q) : Ct l g yX6_decide (.code yX6_decide cX6_decide 3 (some .int)) (d + 4) mc ms [.ref (a0), .int (a1)] w z (rI Q) X := by
  refine Ct.of hst (by decide) (Nat.le_of_ble_eq_true rfl) (fun C hX hE hg hl hNm => ?_)
  subst hg
  subst hl
  unfold F_X6_decide at h
  show VW C 0 [(0, .ref (a0)), (1, .int (a1))] [] w z mc ms
  refine vw_aload_n hX 0 dX6_decide_0 rfl ?_
  refine vw_iload_n hX 1 dX6_decide_1 rfl ?_
  obtain ⟨hr1, h⟩ := h
  refine s_X6_328 hX hr1 dX6_decide_2 (Nat.le_of_ble_eq_true rfl) (ct_X6_noCase (d := d + 2) (lst hX) h) (fun r2 w3 z4 h => ?_)
  refine vw_istore_n hX dX6_decide_5 (by decide) rfl ?_
  refine vw_aload_n hX 1 dX6_decide_6 rfl ?_
  refine vw_iload_n hX 0 dX6_decide_7 rfl ?_
  refine vw_iload_n hX 0 dX6_decide_8 rfl ?_
  refine vw_if_ne hX (tgt := 26) dX6_decide_9 (by decide) (fun c5 => ?_) (fun c5 => ?_)
  · have h := h.1 c5
    exact vw_sub [1, 2] rfl (pB_X6_decide_26 hX hE _ _ _ _ _ _ h)
  · have h := h.2 c5
    refine vw_aload_n hX 1 dX6_decide_12 rfl ?_
    refine vw_iload_n hX 2 dX6_decide_13 rfl ?_
    refine vw_iconst hX (v := 2) dX6_decide_14 (by decide) ?_
    obtain ⟨hr6, h⟩ := h
    refine s_X6_138 hX hr6 dX6_decide_15 (Nat.le_of_ble_eq_true rfl) (ct_X6_ofCase (d := d + 3) (lst hX) h) (fun r7 w8 z9 h => ?_)
    refine vw_iconst hX (v := 1) dX6_decide_18 (by decide) ?_
    refine vw_icmp_eq hX (tgt := 26) dX6_decide_19 (by decide) (fun c10 => ?_) (fun c10 => ?_)
    · have h := h.1 c10
      exact vw_sub [1, 2] rfl (pB_X6_decide_26 hX hE _ _ _ _ _ _ h)
    · have h := h.2 c10
      refine vw_iconst hX (v := 1) dX6_decide_22 (by decide) ?_
      refine vw_goto hX (tgt := 27) dX6_decide_23 (by decide) ?_
      exact vw_sub [1, 2] rfl (pB_X6_decide_27 hX hE _ _ _ _ _ _ _ h)
def B_X6_pay_25 (a0 : Nat) (a1 : Int32) (Q : Int32 → Mm → Nat → Prop) (y0 : Int32) (y1 : Int32) (y2 : Nat) (w : Mm) (z : Nat) : Prop :=
  isO w y2 10 ∧ F_X6_fails y2 y1 y0 0 w z (fun r2 w3 z4 => (r2 = 0 → ∃ q6, fld w3 a0 10 0 = some (.ref (q6)) ∧ isO w3 a0 10 ∧ F_X6_remember a0 q6 w3 z4 (fun w9 z10 => isO w9 a0 10 ∧ F_X6_pays a0 a1 w9 z10 (fun r12 w13 z14 => Q r12 w13 z14))) ∧
  (¬ r2 = 0 → Q 0 w3 z4))
set_option maxRecDepth 100000 in
set_option maxHeartbeats 4000000 in
theorem pB_X6_pay_25 {C : Cx} {d : Nat} {a0 : Nat} {a1 : Int32} {Q : Int32 → Mm → Nat → Prop} {X : String → Mm → Nat → Prop} (hX : CX C cX6_pay RX6 3 (some .int) [] (d + 4)) (hE : EQ C (rI Q) X) : ∀ (y0 : Int32) (y1 : Int32) (y2 : Nat) (w : Mm) (z mc ms : Nat), B_X6_pay_25 a0 a1 Q y0 y1 y2 w z → VW C 25 [(0, .ref (a0)), (1, .int (a1))] [.int (y0), .int (y1), .ref (y2)] w z mc ms := by
  intro y0 y1 y2 w z mc ms h
  unfold B_X6_pay_25 at h
  refine vw_iconst hX (v := 0) dX6_pay_25 (by decide) ?_
  obtain ⟨hr1, h⟩ := h
  refine s_X6_157 hX hr1 dX6_pay_26 (Nat.le_of_ble_eq_true rfl) (ct_X6_fails (d := d + 3) (lst hX) h) (fun r2 w3 z4 h => ?_)
  refine vw_if_eq hX (tgt := 34) dX6_pay_29 (by decide) (fun c5 => ?_) (fun c5 => ?_)
  · have h := h.1 c5
    refine vw_aload_n hX 0 dX6_pay_34 rfl ?_
    refine vw_aload_n hX 0 dX6_pay_35 rfl ?_
    obtain ⟨q6, hq6, h⟩ := h
    refine g_X6_9 hX hq6 dX6_pay_36 ?_
    obtain ⟨hr7, h⟩ := h
    refine s_X6_300 hX hr7 dX6_pay_39 (Nat.le_of_ble_eq_true rfl) (ct_X6_remember (d := d + 0) (lst hX) h) (fun w9 z10 h => ?_)
    refine vw_aload_n hX 0 dX6_pay_42 rfl ?_
    refine vw_iload_n hX 1 dX6_pay_43 rfl ?_
    obtain ⟨hr11, h⟩ := h
    refine s_X6_294 hX hr11 dX6_pay_44 (Nat.le_of_ble_eq_true rfl) (ct_X6_pays (d := d + 0) (lst hX) h) (fun r12 w13 z14 h => ?_)
    exact vw_iret hX hE dX6_pay_47 ⟨_, rfl, h⟩
  · have h := h.2 c5
    refine vw_iconst hX (v := 0) dX6_pay_32 (by decide) ?_
    exact vw_iret hX hE dX6_pay_33 ⟨_, rfl, h⟩
def B_X6_pay_24 (a0 : Nat) (a1 : Int32) (Q : Int32 → Mm → Nat → Prop) (y0 : Int32) (y1 : Nat) (w : Mm) (z : Nat) : Prop :=
  B_X6_pay_25 a0 a1 Q 0 y0 y1 w z
set_option maxRecDepth 100000 in
set_option maxHeartbeats 4000000 in
theorem pB_X6_pay_24 {C : Cx} {d : Nat} {a0 : Nat} {a1 : Int32} {Q : Int32 → Mm → Nat → Prop} {X : String → Mm → Nat → Prop} (hX : CX C cX6_pay RX6 3 (some .int) [] (d + 4)) (hE : EQ C (rI Q) X) : ∀ (y0 : Int32) (y1 : Nat) (w : Mm) (z mc ms : Nat), B_X6_pay_24 a0 a1 Q y0 y1 w z → VW C 24 [(0, .ref (a0)), (1, .int (a1))] [.int (y0), .ref (y1)] w z mc ms := by
  intro y0 y1 w z mc ms h
  unfold B_X6_pay_24 at h
  refine vw_iconst hX (v := 0) dX6_pay_24 (by decide) ?_
  exact pB_X6_pay_25 hX hE _ _ _ _ _ _ _ h
def F_X6_pay (a0 : Nat) (a1 : Int32) (w : Mm) (z : Nat) (Q : Int32 → Mm → Nat → Prop) : Prop :=
  isO w a0 10 ∧ F_X6_noCase a0 a1 w z (fun r2 w3 z4 => (¬ r2 = 0 → B_X6_pay_24 a0 a1 Q r2 a0 w3 z4) ∧
  (r2 = 0 → isO w3 a0 10 ∧ F_X6_mayPay a0 a1 w3 z4 (fun r7 w8 z9 => (¬ r7 = 0 → B_X6_pay_24 a0 a1 Q r2 a0 w8 z9) ∧
  (r7 = 0 → B_X6_pay_25 a0 a1 Q 1 r2 a0 w8 z9))))
set_option maxRecDepth 100000 in
set_option maxHeartbeats 4000000 in
theorem ct_X6_pay {l : Launch} {g : Gp} {d : Nat} (hst : l.stackTraces = false) {a0 : Nat} {a1 : Int32} {w : Mm} {z mc ms : Nat} {Q : Int32 → Mm → Nat → Prop} {X : String → Mm → Nat → Prop} (h : F_X6_pay a0 a1 w z Q) : Ct l g yX6_pay (.code yX6_pay cX6_pay 3 (some .int)) (d + 4) mc ms [.ref (a0), .int (a1)] w z (rI Q) X := by
  refine Ct.of hst (by decide) (Nat.le_of_ble_eq_true rfl) (fun C hX hE hg hl hNm => ?_)
  subst hg
  subst hl
  unfold F_X6_pay at h
  show VW C 0 [(0, .ref (a0)), (1, .int (a1))] [] w z mc ms
  refine vw_aload_n hX 0 dX6_pay_0 rfl ?_
  refine vw_iload_n hX 1 dX6_pay_1 rfl ?_
  obtain ⟨hr1, h⟩ := h
  refine s_X6_328 hX hr1 dX6_pay_2 (Nat.le_of_ble_eq_true rfl) (ct_X6_noCase (d := d + 2) (lst hX) h) (fun r2 w3 z4 h => ?_)
  refine vw_istore_n hX dX6_pay_5 (by decide) rfl ?_
  refine vw_aload_n hX 1 dX6_pay_6 rfl ?_
  refine vw_iload_n hX 0 dX6_pay_7 rfl ?_
  refine vw_iload_n hX 0 dX6_pay_8 rfl ?_
  refine vw_if_ne hX (tgt := 24) dX6_pay_9 (by decide) (fun c5 => ?_) (fun c5 => ?_)
  · have h := h.1 c5
    exact vw_sub [1, 2] rfl (pB_X6_pay_24 hX hE _ _ _ _ _ _ h)
  · have h := h.2 c5
    refine vw_aload_n hX 1 dX6_pay_12 rfl ?_
    refine vw_iload_n hX 2 dX6_pay_13 rfl ?_
    obtain ⟨hr6, h⟩ := h
    refine s_X6_291 hX hr6 dX6_pay_14 (Nat.le_of_ble_eq_true rfl) (ct_X6_mayPay (d := d + 0) (lst hX) h) (fun r7 w8 z9 h => ?_)
    refine vw_if_ne hX (tgt := 24) dX6_pay_17 (by decide) (fun c10 => ?_) (fun c10 => ?_)
    · have h := h.1 c10
      exact vw_sub [1, 2] rfl (pB_X6_pay_24 hX hE _ _ _ _ _ _ h)
    · have h := h.2 c10
      refine vw_iconst hX (v := 1) dX6_pay_20 (by decide) ?_
      refine vw_goto hX (tgt := 25) dX6_pay_21 (by decide) ?_
      exact vw_sub [1, 2] rfl (pB_X6_pay_25 hX hE _ _ _ _ _ _ _ h)
def B_X6_undo_13 (a0 : Nat) (Q : Int32 → Mm → Nat → Prop) (y0 : Int32) (y1 : Nat) (w : Mm) (z : Nat) : Prop :=
  isO w y1 10 ∧ F_X6_fails y1 y0 0 0 w z (fun r2 w3 z4 => (r2 = 0 → ∃ v6, fld w3 a0 10 5 = some (.int (v6)) ∧ ∃ f7, obj w3 a0 10 = some f7 ∧ 5 < f7.length ∧ ∀ w8, w8 = mset w3 a0 (.inl (10, f7.set 5 (.int ((v6 - 1))))) → ∃ q9, fld w8 a0 10 1 = some (.ref (q9)) ∧ ∃ v10, fld w8 a0 10 5 = some (.int (v10)) ∧ ∃ q11, fld w8 a0 10 0 = some (.ref (q11)) ∧ F_X6_copy q9 ((v10 * 445)) q11 0 w8 z4 (fun w13 z14 => ∃ v15, fld w13 a0 10 5 = some (.int (v15)) ∧ Q v15 w13 z14)) ∧
  (¬ r2 = 0 → Q 0 w3 z4))
set_option maxRecDepth 100000 in
set_option maxHeartbeats 4000000 in
theorem pB_X6_undo_13 {C : Cx} {d : Nat} {a0 : Nat} {Q : Int32 → Mm → Nat → Prop} {X : String → Mm → Nat → Prop} (hX : CX C cX6_undo RX6 1 (some .int) [] (d + 3)) (hE : EQ C (rI Q) X) : ∀ (y0 : Int32) (y1 : Nat) (w : Mm) (z mc ms : Nat), B_X6_undo_13 a0 Q y0 y1 w z → VW C 13 [(0, .ref (a0))] [.int (y0), .ref (y1)] w z mc ms := by
  intro y0 y1 w z mc ms h
  unfold B_X6_undo_13 at h
  refine vw_iconst hX (v := 0) dX6_undo_13 (by decide) ?_
  refine vw_iconst hX (v := 0) dX6_undo_14 (by decide) ?_
  obtain ⟨hr1, h⟩ := h
  refine s_X6_157 hX hr1 dX6_undo_15 (Nat.le_of_ble_eq_true rfl) (ct_X6_fails (d := d + 2) (lst hX) h) (fun r2 w3 z4 h => ?_)
  refine vw_if_eq hX (tgt := 23) dX6_undo_18 (by decide) (fun c5 => ?_) (fun c5 => ?_)
  · have h := h.1 c5
    refine vw_aload_n hX 0 dX6_undo_23 rfl ?_
    refine vw_dup hX dX6_undo_24 rfl ?_
    obtain ⟨v6, hv6, h⟩ := h
    refine g_X6_61 hX hv6 dX6_undo_25 ?_
    refine vw_iconst hX (v := 1) dX6_undo_28 (by decide) ?_
    refine vw_isub hX dX6_undo_29 ?_
    obtain ⟨f7, hf7, hlf7, h⟩ := h
    refine p_X6_61 hX hf7 hlf7 dX6_undo_30 ?_
    refine vw_nmW (fun w8 ew8 => ?_)
    have h := h w8 ew8
    refine vw_aload_n hX 0 dX6_undo_33 rfl ?_
    obtain ⟨q9, hq9, h⟩ := h
    refine g_X6_13 hX hq9 dX6_undo_34 ?_
    refine vw_aload_n hX 0 dX6_undo_37 rfl ?_
    obtain ⟨v10, hv10, h⟩ := h
    refine g_X6_61 hX hv10 dX6_undo_38 ?_
    refine vw_sipush hX (v := 445) dX6_undo_41 (by decide) ?_
    refine vw_imul hX dX6_undo_44 ?_
    refine vw_aload_n hX 0 dX6_undo_45 rfl ?_
    obtain ⟨q11, hq11, h⟩ := h
    refine g_X6_9 hX hq11 dX6_undo_46 ?_
    refine vw_iconst hX (v := 0) dX6_undo_49 (by decide) ?_
    refine s_X6_73 hX dX6_undo_50 (Nat.le_of_ble_eq_true rfl) (ct_X6_copy (d := d + 0) (lst hX) h) (fun w13 z14 h => ?_)
    refine vw_aload_n hX 0 dX6_undo_53 rfl ?_
    obtain ⟨v15, hv15, h⟩ := h
    refine g_X6_61 hX hv15 dX6_undo_54 ?_
    exact vw_iret hX hE dX6_undo_57 ⟨_, rfl, h⟩
  · have h := h.2 c5
    refine vw_iconst hX (v := 0) dX6_undo_21 (by decide) ?_
    exact vw_iret hX hE dX6_undo_22 ⟨_, rfl, h⟩
def F_X6_undo (a0 : Nat) (w : Mm) (z : Nat) (Q : Int32 → Mm → Nat → Prop) : Prop :=
  ∃ v1, fld w a0 10 5 = some (.int (v1)) ∧ (¬ v1 = 0 → B_X6_undo_13 a0 Q 0 a0 w z) ∧
  (v1 = 0 → B_X6_undo_13 a0 Q 1 a0 w z)
set_option maxRecDepth 100000 in
set_option maxHeartbeats 4000000 in
theorem ct_X6_undo {l : Launch} {g : Gp} {d : Nat} (hst : l.stackTraces = false) {a0 : Nat} {w : Mm} {z mc ms : Nat} {Q : Int32 → Mm → Nat → Prop} {X : String → Mm → Nat → Prop} (h : F_X6_undo a0 w z Q) : Ct l g yX6_undo (.code yX6_undo cX6_undo 1 (some .int)) (d + 3) mc ms [.ref (a0)] w z (rI Q) X := by
  refine Ct.of hst (by decide) (Nat.le_of_ble_eq_true rfl) (fun C hX hE hg hl hNm => ?_)
  subst hg
  subst hl
  unfold F_X6_undo at h
  show VW C 0 [(0, .ref (a0))] [] w z mc ms
  refine vw_aload_n hX 0 dX6_undo_0 rfl ?_
  refine vw_aload_n hX 0 dX6_undo_1 rfl ?_
  obtain ⟨v1, hv1, h⟩ := h
  refine g_X6_61 hX hv1 dX6_undo_2 ?_
  refine vw_if_ne hX (tgt := 12) dX6_undo_5 (by decide) (fun c2 => ?_) (fun c2 => ?_)
  · have h := h.1 c2
    refine vw_iconst hX (v := 0) dX6_undo_12 (by decide) ?_
    exact pB_X6_undo_13 hX hE _ _ _ _ _ _ h
  · have h := h.2 c2
    refine vw_iconst hX (v := 1) dX6_undo_8 (by decide) ?_
    refine vw_goto hX (tgt := 13) dX6_undo_9 (by decide) ?_
    exact pB_X6_undo_13 hX hE _ _ _ _ _ _ h
def B_X6_save_15 (a0 : Nat) (a1 : Int32) (Q : Int32 → Mm → Nat → Prop) (y0 : Int32) (y1 : Nat) (w : Mm) (z : Nat) : Prop :=
  isO w y1 10 ∧ F_X6_fails y1 y0 0 0 w z (fun r2 w3 z4 => (r2 = 0 → ∃ q6, fld w3 a0 10 0 = some (.ref (q6)) ∧ ∃ q7, fld w3 a0 10 2 = some (.ref (q7)) ∧ F_X6_copy q6 0 q7 ((a1 * 445)) w3 z4 (fun w9 z10 => ∃ q11, fld w9 a0 10 4 = some (.ref (q11)) ∧ ∃ n13 f12, arW w9 q11 2 = some (n13, f12) ∧ vp_in a1 n13 ∧ ∀ w14, w14 = mset w9 q11 (.inr (2, n13, .inl (upd f12 (a1 : Int32).toNatClampNeg (vp_nar .boolean 1)))) → ∃ q15, fld w14 a0 10 0 = some (.ref (q15)) ∧ ∃ n17 f16, arI w14 q15 0 = some (n17, f16) ∧ vp_in 0 n17 ∧ Q ((f16 (0 : Int32).toNatClampNeg)) w14 z10)) ∧
  (¬ r2 = 0 → Q 0 w3 z4))
set_option maxRecDepth 100000 in
set_option maxHeartbeats 4000000 in
theorem pB_X6_save_15 {C : Cx} {d : Nat} {a0 : Nat} {a1 : Int32} {Q : Int32 → Mm → Nat → Prop} {X : String → Mm → Nat → Prop} (hX : CX C cX6_save RX6 2 (some .int) [] (d + 3)) (hE : EQ C (rI Q) X) : ∀ (y0 : Int32) (y1 : Nat) (w : Mm) (z mc ms : Nat), B_X6_save_15 a0 a1 Q y0 y1 w z → VW C 15 [(0, .ref (a0)), (1, .int (a1))] [.int (y0), .ref (y1)] w z mc ms := by
  intro y0 y1 w z mc ms h
  unfold B_X6_save_15 at h
  refine vw_iconst hX (v := 0) dX6_save_15 (by decide) ?_
  refine vw_iconst hX (v := 0) dX6_save_16 (by decide) ?_
  obtain ⟨hr1, h⟩ := h
  refine s_X6_157 hX hr1 dX6_save_17 (Nat.le_of_ble_eq_true rfl) (ct_X6_fails (d := d + 2) (lst hX) h) (fun r2 w3 z4 h => ?_)
  refine vw_if_eq hX (tgt := 25) dX6_save_20 (by decide) (fun c5 => ?_) (fun c5 => ?_)
  · have h := h.1 c5
    refine vw_aload_n hX 0 dX6_save_25 rfl ?_
    obtain ⟨q6, hq6, h⟩ := h
    refine g_X6_9 hX hq6 dX6_save_26 ?_
    refine vw_iconst hX (v := 0) dX6_save_29 (by decide) ?_
    refine vw_aload_n hX 0 dX6_save_30 rfl ?_
    obtain ⟨q7, hq7, h⟩ := h
    refine g_X6_16 hX hq7 dX6_save_31 ?_
    refine vw_iload_n hX 1 dX6_save_34 rfl ?_
    refine vw_sipush hX (v := 445) dX6_save_35 (by decide) ?_
    refine vw_imul hX dX6_save_38 ?_
    refine s_X6_73 hX dX6_save_39 (Nat.le_of_ble_eq_true rfl) (ct_X6_copy (d := d + 0) (lst hX) h) (fun w9 z10 h => ?_)
    refine vw_aload_n hX 0 dX6_save_42 rfl ?_
    obtain ⟨q11, hq11, h⟩ := h
    refine g_X6_22 hX hq11 dX6_save_43 ?_
    refine vw_iload_n hX 1 dX6_save_46 rfl ?_
    refine vw_iconst hX (v := 1) dX6_save_47 (by decide) ?_
    obtain ⟨n13, f12, hf12, hif12, h⟩ := h
    refine vw_zast hX hf12 hif12 dX6_save_48 ?_
    refine vw_nmW (fun w14 ew14 => ?_)
    have h := h w14 ew14
    refine vw_aload_n hX 0 dX6_save_49 rfl ?_
    obtain ⟨q15, hq15, h⟩ := h
    refine g_X6_9 hX hq15 dX6_save_50 ?_
    refine vw_iconst hX (v := 0) dX6_save_53 (by decide) ?_
    obtain ⟨n17, f16, hf16, hif16, h⟩ := h
    refine vw_iald hX hf16 hif16 dX6_save_54 ?_
    exact vw_iret hX hE dX6_save_55 ⟨_, rfl, h⟩
  · have h := h.2 c5
    refine vw_iconst hX (v := 0) dX6_save_23 (by decide) ?_
    exact vw_iret hX hE dX6_save_24 ⟨_, rfl, h⟩
def F_X6_save (a0 : Nat) (a1 : Int32) (w : Mm) (z : Nat) (Q : Int32 → Mm → Nat → Prop) : Prop :=
  F_X6_isIn a1 0 1 w z (fun r1 w2 z3 => (¬ r1 = 0 → B_X6_save_15 a0 a1 Q 0 a0 w2 z3) ∧
  (r1 = 0 → B_X6_save_15 a0 a1 Q 1 a0 w2 z3))
set_option maxRecDepth 100000 in
set_option maxHeartbeats 4000000 in
theorem ct_X6_save {l : Launch} {g : Gp} {d : Nat} (hst : l.stackTraces = false) {a0 : Nat} {a1 : Int32} {w : Mm} {z mc ms : Nat} {Q : Int32 → Mm → Nat → Prop} {X : String → Mm → Nat → Prop} (h : F_X6_save a0 a1 w z Q) : Ct l g yX6_save (.code yX6_save cX6_save 2 (some .int)) (d + 3) mc ms [.ref (a0), .int (a1)] w z (rI Q) X := by
  refine Ct.of hst (by decide) (Nat.le_of_ble_eq_true rfl) (fun C hX hE hg hl hNm => ?_)
  subst hg
  subst hl
  unfold F_X6_save at h
  show VW C 0 [(0, .ref (a0)), (1, .int (a1))] [] w z mc ms
  refine vw_aload_n hX 0 dX6_save_0 rfl ?_
  refine vw_iload_n hX 1 dX6_save_1 rfl ?_
  refine vw_iconst hX (v := 0) dX6_save_2 (by decide) ?_
  refine vw_iconst hX (v := 1) dX6_save_3 (by decide) ?_
  refine s_X6_77 hX dX6_save_4 (Nat.le_of_ble_eq_true rfl) (ct_X6_isIn (d := d + 2) (lst hX) h) (fun r1 w2 z3 h => ?_)
  refine vw_if_ne hX (tgt := 14) dX6_save_7 (by decide) (fun c4 => ?_) (fun c4 => ?_)
  · have h := h.1 c4
    refine vw_iconst hX (v := 0) dX6_save_14 (by decide) ?_
    exact pB_X6_save_15 hX hE _ _ _ _ _ _ h
  · have h := h.2 c4
    refine vw_iconst hX (v := 1) dX6_save_10 (by decide) ?_
    refine vw_goto hX (tgt := 15) dX6_save_11 (by decide) ?_
    exact pB_X6_save_15 hX hE _ _ _ _ _ _ h
def B_X6_restore_35 (a0 : Nat) (a1 : Int32) (Q : Int32 → Mm → Nat → Prop) (y0 : Int32) (y1 : Int32) (y2 : Nat) (w : Mm) (z : Nat) : Prop :=
  isO w y2 10 ∧ F_X6_fails y2 y1 y0 0 w z (fun r2 w3 z4 => (r2 = 0 → ∃ q6, fld w3 a0 10 0 = some (.ref (q6)) ∧ isO w3 a0 10 ∧ F_X6_remember a0 q6 w3 z4 (fun w9 z10 => ∃ q11, fld w9 a0 10 2 = some (.ref (q11)) ∧ ∃ q12, fld w9 a0 10 0 = some (.ref (q12)) ∧ F_X6_copy q11 ((a1 * 445)) q12 0 w9 z10 (fun w14 z15 => ∃ q16, fld w14 a0 10 0 = some (.ref (q16)) ∧ ∃ n18 f17, arI w14 q16 0 = some (n18, f17) ∧ vp_in 0 n18 ∧ Q ((f17 (0 : Int32).toNatClampNeg)) w14 z15))) ∧
  (¬ r2 = 0 → Q 0 w3 z4))
set_option maxRecDepth 100000 in
set_option maxHeartbeats 4000000 in
theorem pB_X6_restore_35 {C : Cx} {d : Nat} {a0 : Nat} {a1 : Int32} {Q : Int32 → Mm → Nat → Prop} {X : String → Mm → Nat → Prop} (hX : CX C cX6_restore RX6 3 (some .int) [] (d + 4)) (hE : EQ C (rI Q) X) : ∀ (y0 : Int32) (y1 : Int32) (y2 : Nat) (w : Mm) (z mc ms : Nat), B_X6_restore_35 a0 a1 Q y0 y1 y2 w z → VW C 35 [(0, .ref (a0)), (1, .int (a1))] [.int (y0), .int (y1), .ref (y2)] w z mc ms := by
  intro y0 y1 y2 w z mc ms h
  unfold B_X6_restore_35 at h
  refine vw_iconst hX (v := 0) dX6_restore_35 (by decide) ?_
  obtain ⟨hr1, h⟩ := h
  refine s_X6_157 hX hr1 dX6_restore_36 (Nat.le_of_ble_eq_true rfl) (ct_X6_fails (d := d + 3) (lst hX) h) (fun r2 w3 z4 h => ?_)
  refine vw_if_eq hX (tgt := 44) dX6_restore_39 (by decide) (fun c5 => ?_) (fun c5 => ?_)
  · have h := h.1 c5
    refine vw_aload_n hX 0 dX6_restore_44 rfl ?_
    refine vw_aload_n hX 0 dX6_restore_45 rfl ?_
    obtain ⟨q6, hq6, h⟩ := h
    refine g_X6_9 hX hq6 dX6_restore_46 ?_
    obtain ⟨hr7, h⟩ := h
    refine s_X6_300 hX hr7 dX6_restore_49 (Nat.le_of_ble_eq_true rfl) (ct_X6_remember (d := d + 0) (lst hX) h) (fun w9 z10 h => ?_)
    refine vw_aload_n hX 0 dX6_restore_52 rfl ?_
    obtain ⟨q11, hq11, h⟩ := h
    refine g_X6_16 hX hq11 dX6_restore_53 ?_
    refine vw_iload_n hX 1 dX6_restore_56 rfl ?_
    refine vw_sipush hX (v := 445) dX6_restore_57 (by decide) ?_
    refine vw_imul hX dX6_restore_60 ?_
    refine vw_aload_n hX 0 dX6_restore_61 rfl ?_
    obtain ⟨q12, hq12, h⟩ := h
    refine g_X6_9 hX hq12 dX6_restore_62 ?_
    refine vw_iconst hX (v := 0) dX6_restore_65 (by decide) ?_
    refine s_X6_73 hX dX6_restore_66 (Nat.le_of_ble_eq_true rfl) (ct_X6_copy (d := d + 1) (lst hX) h) (fun w14 z15 h => ?_)
    refine vw_aload_n hX 0 dX6_restore_69 rfl ?_
    obtain ⟨q16, hq16, h⟩ := h
    refine g_X6_9 hX hq16 dX6_restore_70 ?_
    refine vw_iconst hX (v := 0) dX6_restore_73 (by decide) ?_
    obtain ⟨n18, f17, hf17, hif17, h⟩ := h
    refine vw_iald hX hf17 hif17 dX6_restore_74 ?_
    exact vw_iret hX hE dX6_restore_75 ⟨_, rfl, h⟩
  · have h := h.2 c5
    refine vw_iconst hX (v := 0) dX6_restore_42 (by decide) ?_
    exact vw_iret hX hE dX6_restore_43 ⟨_, rfl, h⟩
def B_X6_restore_34 (a0 : Nat) (a1 : Int32) (Q : Int32 → Mm → Nat → Prop) (y0 : Int32) (y1 : Nat) (w : Mm) (z : Nat) : Prop :=
  B_X6_restore_35 a0 a1 Q 0 y0 y1 w z
set_option maxRecDepth 100000 in
set_option maxHeartbeats 4000000 in
theorem pB_X6_restore_34 {C : Cx} {d : Nat} {a0 : Nat} {a1 : Int32} {Q : Int32 → Mm → Nat → Prop} {X : String → Mm → Nat → Prop} (hX : CX C cX6_restore RX6 3 (some .int) [] (d + 4)) (hE : EQ C (rI Q) X) : ∀ (y0 : Int32) (y1 : Nat) (w : Mm) (z mc ms : Nat), B_X6_restore_34 a0 a1 Q y0 y1 w z → VW C 34 [(0, .ref (a0)), (1, .int (a1))] [.int (y0), .ref (y1)] w z mc ms := by
  intro y0 y1 w z mc ms h
  unfold B_X6_restore_34 at h
  refine vw_iconst hX (v := 0) dX6_restore_34 (by decide) ?_
  exact pB_X6_restore_35 hX hE _ _ _ _ _ _ _ h
def B_X6_restore_14 (a0 : Nat) (a1 : Int32) (Q : Int32 → Mm → Nat → Prop) (y0 : Int32) (w : Mm) (z : Nat) : Prop :=
  (¬ y0 = 0 → B_X6_restore_34 a0 a1 Q y0 a0 w z) ∧
  (y0 = 0 → ∃ q20, fld w a0 10 4 = some (.ref (q20)) ∧ ∃ n22 f21, arI w q20 2 = some (n22, f21) ∧ vp_in a1 n22 ∧ (¬ ((f21 (a1 : Int32).toNatClampNeg)) = 0 → B_X6_restore_34 a0 a1 Q y0 a0 w z) ∧
  (((f21 (a1 : Int32).toNatClampNeg)) = 0 → B_X6_restore_35 a0 a1 Q 1 y0 a0 w z))
set_option maxRecDepth 100000 in
set_option maxHeartbeats 4000000 in
theorem pB_X6_restore_14 {C : Cx} {d : Nat} {a0 : Nat} {a1 : Int32} {Q : Int32 → Mm → Nat → Prop} {X : String → Mm → Nat → Prop} (hX : CX C cX6_restore RX6 3 (some .int) [] (d + 4)) (hE : EQ C (rI Q) X) : ∀ (y0 : Int32) (w : Mm) (z mc ms : Nat), B_X6_restore_14 a0 a1 Q y0 w z → VW C 14 [(0, .ref (a0)), (1, .int (a1))] [.int (y0)] w z mc ms := by
  intro y0 w z mc ms h
  unfold B_X6_restore_14 at h
  refine vw_istore_n hX dX6_restore_14 (by decide) rfl ?_
  refine vw_aload_n hX 1 dX6_restore_15 rfl ?_
  refine vw_iload_n hX 0 dX6_restore_16 rfl ?_
  refine vw_iload_n hX 0 dX6_restore_17 rfl ?_
  refine vw_if_ne hX (tgt := 34) dX6_restore_18 (by decide) (fun c19 => ?_) (fun c19 => ?_)
  · have h := h.1 c19
    exact vw_sub [1, 2] rfl (pB_X6_restore_34 hX hE _ _ _ _ _ _ h)
  · have h := h.2 c19
    refine vw_aload_n hX 1 dX6_restore_21 rfl ?_
    obtain ⟨q20, hq20, h⟩ := h
    refine g_X6_22 hX hq20 dX6_restore_22 ?_
    refine vw_iload_n hX 2 dX6_restore_25 rfl ?_
    obtain ⟨n22, f21, hf21, hif21, h⟩ := h
    refine vw_zald hX hf21 hif21 dX6_restore_26 ?_
    refine vw_if_ne hX (tgt := 34) dX6_restore_27 (by decide) (fun c23 => ?_) (fun c23 => ?_)
    · have h := h.1 c23
      exact vw_sub [1, 2] rfl (pB_X6_restore_34 hX hE _ _ _ _ _ _ h)
    · have h := h.2 c23
      refine vw_iconst hX (v := 1) dX6_restore_30 (by decide) ?_
      refine vw_goto hX (tgt := 35) dX6_restore_31 (by decide) ?_
      exact vw_sub [1, 2] rfl (pB_X6_restore_35 hX hE _ _ _ _ _ _ _ h)
def F_X6_restore (a0 : Nat) (a1 : Int32) (w : Mm) (z : Nat) (Q : Int32 → Mm → Nat → Prop) : Prop :=
  F_X6_isIn a1 0 1 w z (fun r1 w2 z3 => (¬ r1 = 0 → B_X6_restore_14 a0 a1 Q 0 w2 z3) ∧
  (r1 = 0 → B_X6_restore_14 a0 a1 Q 1 w2 z3))
set_option maxRecDepth 100000 in
set_option maxHeartbeats 4000000 in
theorem ct_X6_restore {l : Launch} {g : Gp} {d : Nat} (hst : l.stackTraces = false) {a0 : Nat} {a1 : Int32} {w : Mm} {z mc ms : Nat} {Q : Int32 → Mm → Nat → Prop} {X : String → Mm → Nat → Prop} (h : F_X6_restore a0 a1 w z Q) : Ct l g yX6_restore (.code yX6_restore cX6_restore 3 (some .int)) (d + 4) mc ms [.ref (a0), .int (a1)] w z (rI Q) X := by
  refine Ct.of hst (by decide) (Nat.le_of_ble_eq_true rfl) (fun C hX hE hg hl hNm => ?_)
  subst hg
  subst hl
  unfold F_X6_restore at h
  show VW C 0 [(0, .ref (a0)), (1, .int (a1))] [] w z mc ms
  refine vw_iload_n hX 1 dX6_restore_0 rfl ?_
  refine vw_iconst hX (v := 0) dX6_restore_1 (by decide) ?_
  refine vw_iconst hX (v := 1) dX6_restore_2 (by decide) ?_
  refine s_X6_77 hX dX6_restore_3 (Nat.le_of_ble_eq_true rfl) (ct_X6_isIn (d := d + 3) (lst hX) h) (fun r1 w2 z3 h => ?_)
  refine vw_if_ne hX (tgt := 13) dX6_restore_6 (by decide) (fun c4 => ?_) (fun c4 => ?_)
  · have h := h.1 c4
    refine vw_iconst hX (v := 0) dX6_restore_13 (by decide) ?_
    exact pB_X6_restore_14 hX hE _ _ _ _ _ h
  · have h := h.2 c4
    refine vw_iconst hX (v := 1) dX6_restore_9 (by decide) ?_
    refine vw_goto hX (tgt := 14) dX6_restore_10 (by decide) ?_
    exact pB_X6_restore_14 hX hE _ _ _ _ _ h
def F_X6_clock (a0 : Nat) (w : Mm) (z : Nat) (Q : Int32 → Mm → Nat → Prop) : Prop :=
  ∃ q1, fld w a0 10 0 = some (.ref (q1)) ∧ ∃ n3 f2, arI w q1 0 = some (n3, f2) ∧ vp_in 0 n3 ∧ isO w a0 10 ∧ F_X6_told a0 ((f2 (0 : Int32).toNatClampNeg)) w z (fun r5 w6 z7 => Q r5 w6 z7)
set_option maxRecDepth 100000 in
set_option maxHeartbeats 4000000 in
theorem ct_X6_clock {l : Launch} {g : Gp} {d : Nat} (hst : l.stackTraces = false) {a0 : Nat} {w : Mm} {z mc ms : Nat} {Q : Int32 → Mm → Nat → Prop} {X : String → Mm → Nat → Prop} (h : F_X6_clock a0 w z Q) : Ct l g yX6_clock (.code yX6_clock cX6_clock 1 (some .int)) (d + 1) mc ms [.ref (a0)] w z (rI Q) X := by
  refine Ct.of hst (by decide) (Nat.le_of_ble_eq_true rfl) (fun C hX hE hg hl hNm => ?_)
  subst hg
  subst hl
  unfold F_X6_clock at h
  show VW C 0 [(0, .ref (a0))] [] w z mc ms
  refine vw_aload_n hX 0 dX6_clock_0 rfl ?_
  refine vw_aload_n hX 0 dX6_clock_1 rfl ?_
  obtain ⟨q1, hq1, h⟩ := h
  refine g_X6_9 hX hq1 dX6_clock_2 ?_
  refine vw_iconst hX (v := 0) dX6_clock_5 (by decide) ?_
  obtain ⟨n3, f2, hf2, hif2, h⟩ := h
  refine vw_iald hX hf2 hif2 dX6_clock_6 ?_
  obtain ⟨hr4, h⟩ := h
  refine s_X6_316 hX hr4 dX6_clock_7 (Nat.le_of_ble_eq_true rfl) (ct_X6_told (d := d + 0) (lst hX) h) (fun r5 w6 z7 h => ?_)
  exact vw_iret hX hE dX6_clock_10 ⟨_, rfl, h⟩
def F_X6_day (a0 : Nat) (w : Mm) (z : Nat) (Q : Int32 → Mm → Nat → Prop) : Prop :=
  ∃ q1, fld w a0 10 0 = some (.ref (q1)) ∧ ∃ n3 f2, arI w q1 0 = some (n3, f2) ∧ vp_in 0 n3 ∧ isO w a0 10 ∧ F_X6_told a0 ((((f2 (0 : Int32).toNatClampNeg)) / 1440)) w z (fun r5 w6 z7 => Q r5 w6 z7)
set_option maxRecDepth 100000 in
set_option maxHeartbeats 4000000 in
theorem ct_X6_day {l : Launch} {g : Gp} {d : Nat} (hst : l.stackTraces = false) {a0 : Nat} {w : Mm} {z mc ms : Nat} {Q : Int32 → Mm → Nat → Prop} {X : String → Mm → Nat → Prop} (h : F_X6_day a0 w z Q) : Ct l g yX6_day (.code yX6_day cX6_day 1 (some .int)) (d + 1) mc ms [.ref (a0)] w z (rI Q) X := by
  refine Ct.of hst (by decide) (Nat.le_of_ble_eq_true rfl) (fun C hX hE hg hl hNm => ?_)
  subst hg
  subst hl
  unfold F_X6_day at h
  show VW C 0 [(0, .ref (a0))] [] w z mc ms
  refine vw_aload_n hX 0 dX6_day_0 rfl ?_
  refine vw_aload_n hX 0 dX6_day_1 rfl ?_
  obtain ⟨q1, hq1, h⟩ := h
  refine g_X6_9 hX hq1 dX6_day_2 ?_
  refine vw_iconst hX (v := 0) dX6_day_5 (by decide) ?_
  obtain ⟨n3, f2, hf2, hif2, h⟩ := h
  refine vw_iald hX hf2 hif2 dX6_day_6 ?_
  refine vw_sipush hX (v := 1440) dX6_day_7 (by decide) ?_
  refine vw_idiv hX dX6_day_10 (by decide) ?_
  obtain ⟨hr4, h⟩ := h
  refine s_X6_316 hX hr4 dX6_day_11 (Nat.le_of_ble_eq_true rfl) (ct_X6_told (d := d + 0) (lst hX) h) (fun r5 w6 z7 h => ?_)
  exact vw_iret hX hE dX6_day_14 ⟨_, rfl, h⟩
def F_X6_stopCount (a0 : Nat) (w : Mm) (z : Nat) (Q : Int32 → Mm → Nat → Prop) : Prop :=
  ∃ q1, fld w a0 10 0 = some (.ref (q1)) ∧ ∃ n3 f2, arI w q1 0 = some (n3, f2) ∧ vp_in 1 n3 ∧ isO w a0 10 ∧ F_X6_told a0 ((f2 (1 : Int32).toNatClampNeg)) w z (fun r5 w6 z7 => Q r5 w6 z7)
set_option maxRecDepth 100000 in
set_option maxHeartbeats 4000000 in
theorem ct_X6_stopCount {l : Launch} {g : Gp} {d : Nat} (hst : l.stackTraces = false) {a0 : Nat} {w : Mm} {z mc ms : Nat} {Q : Int32 → Mm → Nat → Prop} {X : String → Mm → Nat → Prop} (h : F_X6_stopCount a0 w z Q) : Ct l g yX6_stopCount (.code yX6_stopCount cX6_stopCount 1 (some .int)) (d + 1) mc ms [.ref (a0)] w z (rI Q) X := by
  refine Ct.of hst (by decide) (Nat.le_of_ble_eq_true rfl) (fun C hX hE hg hl hNm => ?_)
  subst hg
  subst hl
  unfold F_X6_stopCount at h
  show VW C 0 [(0, .ref (a0))] [] w z mc ms
  refine vw_aload_n hX 0 dX6_stopCount_0 rfl ?_
  refine vw_aload_n hX 0 dX6_stopCount_1 rfl ?_
  obtain ⟨q1, hq1, h⟩ := h
  refine g_X6_9 hX hq1 dX6_stopCount_2 ?_
  refine vw_iconst hX (v := 1) dX6_stopCount_5 (by decide) ?_
  obtain ⟨n3, f2, hf2, hif2, h⟩ := h
  refine vw_iald hX hf2 hif2 dX6_stopCount_6 ?_
  obtain ⟨hr4, h⟩ := h
  refine s_X6_316 hX hr4 dX6_stopCount_7 (Nat.le_of_ble_eq_true rfl) (ct_X6_told (d := d + 0) (lst hX) h) (fun r5 w6 z7 h => ?_)
  exact vw_iret hX hE dX6_stopCount_10 ⟨_, rfl, h⟩
def F_X6_passengerCount (a0 : Nat) (w : Mm) (z : Nat) (Q : Int32 → Mm → Nat → Prop) : Prop :=
  ∃ q1, fld w a0 10 0 = some (.ref (q1)) ∧ ∃ n3 f2, arI w q1 0 = some (n3, f2) ∧ vp_in 2 n3 ∧ isO w a0 10 ∧ F_X6_told a0 ((f2 (2 : Int32).toNatClampNeg)) w z (fun r5 w6 z7 => Q r5 w6 z7)
set_option maxRecDepth 100000 in
set_option maxHeartbeats 4000000 in
theorem ct_X6_passengerCount {l : Launch} {g : Gp} {d : Nat} (hst : l.stackTraces = false) {a0 : Nat} {w : Mm} {z mc ms : Nat} {Q : Int32 → Mm → Nat → Prop} {X : String → Mm → Nat → Prop} (h : F_X6_passengerCount a0 w z Q) : Ct l g yX6_passengerCount (.code yX6_passengerCount cX6_passengerCount 1 (some .int)) (d + 1) mc ms [.ref (a0)] w z (rI Q) X := by
  refine Ct.of hst (by decide) (Nat.le_of_ble_eq_true rfl) (fun C hX hE hg hl hNm => ?_)
  subst hg
  subst hl
  unfold F_X6_passengerCount at h
  show VW C 0 [(0, .ref (a0))] [] w z mc ms
  refine vw_aload_n hX 0 dX6_passengerCount_0 rfl ?_
  refine vw_aload_n hX 0 dX6_passengerCount_1 rfl ?_
  obtain ⟨q1, hq1, h⟩ := h
  refine g_X6_9 hX hq1 dX6_passengerCount_2 ?_
  refine vw_iconst hX (v := 2) dX6_passengerCount_5 (by decide) ?_
  obtain ⟨n3, f2, hf2, hif2, h⟩ := h
  refine vw_iald hX hf2 hif2 dX6_passengerCount_6 ?_
  obtain ⟨hr4, h⟩ := h
  refine s_X6_316 hX hr4 dX6_passengerCount_7 (Nat.le_of_ble_eq_true rfl) (ct_X6_told (d := d + 0) (lst hX) h) (fun r5 w6 z7 h => ?_)
  exact vw_iret hX hE dX6_passengerCount_10 ⟨_, rfl, h⟩
def F_X6_ticketCount (a0 : Nat) (w : Mm) (z : Nat) (Q : Int32 → Mm → Nat → Prop) : Prop :=
  ∃ q1, fld w a0 10 0 = some (.ref (q1)) ∧ ∃ n3 f2, arI w q1 0 = some (n3, f2) ∧ vp_in 3 n3 ∧ isO w a0 10 ∧ F_X6_told a0 ((f2 (3 : Int32).toNatClampNeg)) w z (fun r5 w6 z7 => Q r5 w6 z7)
set_option maxRecDepth 100000 in
set_option maxHeartbeats 4000000 in
theorem ct_X6_ticketCount {l : Launch} {g : Gp} {d : Nat} (hst : l.stackTraces = false) {a0 : Nat} {w : Mm} {z mc ms : Nat} {Q : Int32 → Mm → Nat → Prop} {X : String → Mm → Nat → Prop} (h : F_X6_ticketCount a0 w z Q) : Ct l g yX6_ticketCount (.code yX6_ticketCount cX6_ticketCount 1 (some .int)) (d + 1) mc ms [.ref (a0)] w z (rI Q) X := by
  refine Ct.of hst (by decide) (Nat.le_of_ble_eq_true rfl) (fun C hX hE hg hl hNm => ?_)
  subst hg
  subst hl
  unfold F_X6_ticketCount at h
  show VW C 0 [(0, .ref (a0))] [] w z mc ms
  refine vw_aload_n hX 0 dX6_ticketCount_0 rfl ?_
  refine vw_aload_n hX 0 dX6_ticketCount_1 rfl ?_
  obtain ⟨q1, hq1, h⟩ := h
  refine g_X6_9 hX hq1 dX6_ticketCount_2 ?_
  refine vw_iconst hX (v := 3) dX6_ticketCount_5 (by decide) ?_
  obtain ⟨n3, f2, hf2, hif2, h⟩ := h
  refine vw_iald hX hf2 hif2 dX6_ticketCount_6 ?_
  obtain ⟨hr4, h⟩ := h
  refine s_X6_316 hX hr4 dX6_ticketCount_7 (Nat.le_of_ble_eq_true rfl) (ct_X6_told (d := d + 0) (lst hX) h) (fun r5 w6 z7 h => ?_)
  exact vw_iret hX hE dX6_ticketCount_10 ⟨_, rfl, h⟩
def F_X6_caseCount (a0 : Nat) (w : Mm) (z : Nat) (Q : Int32 → Mm → Nat → Prop) : Prop :=
  ∃ q1, fld w a0 10 0 = some (.ref (q1)) ∧ ∃ n3 f2, arI w q1 0 = some (n3, f2) ∧ vp_in 4 n3 ∧ isO w a0 10 ∧ F_X6_told a0 ((f2 (4 : Int32).toNatClampNeg)) w z (fun r5 w6 z7 => Q r5 w6 z7)
set_option maxRecDepth 100000 in
set_option maxHeartbeats 4000000 in
theorem ct_X6_caseCount {l : Launch} {g : Gp} {d : Nat} (hst : l.stackTraces = false) {a0 : Nat} {w : Mm} {z mc ms : Nat} {Q : Int32 → Mm → Nat → Prop} {X : String → Mm → Nat → Prop} (h : F_X6_caseCount a0 w z Q) : Ct l g yX6_caseCount (.code yX6_caseCount cX6_caseCount 1 (some .int)) (d + 1) mc ms [.ref (a0)] w z (rI Q) X := by
  refine Ct.of hst (by decide) (Nat.le_of_ble_eq_true rfl) (fun C hX hE hg hl hNm => ?_)
  subst hg
  subst hl
  unfold F_X6_caseCount at h
  show VW C 0 [(0, .ref (a0))] [] w z mc ms
  refine vw_aload_n hX 0 dX6_caseCount_0 rfl ?_
  refine vw_aload_n hX 0 dX6_caseCount_1 rfl ?_
  obtain ⟨q1, hq1, h⟩ := h
  refine g_X6_9 hX hq1 dX6_caseCount_2 ?_
  refine vw_iconst hX (v := 4) dX6_caseCount_5 (by decide) ?_
  obtain ⟨n3, f2, hf2, hif2, h⟩ := h
  refine vw_iald hX hf2 hif2 dX6_caseCount_6 ?_
  obtain ⟨hr4, h⟩ := h
  refine s_X6_316 hX hr4 dX6_caseCount_7 (Nat.le_of_ble_eq_true rfl) (ct_X6_told (d := d + 0) (lst hX) h) (fun r5 w6 z7 h => ?_)
  exact vw_iret hX hE dX6_caseCount_10 ⟨_, rfl, h⟩
def F_X6_undoableChanges (a0 : Nat) (w : Mm) (z : Nat) (Q : Int32 → Mm → Nat → Prop) : Prop :=
  ∃ v1, fld w a0 10 5 = some (.int (v1)) ∧ isO w a0 10 ∧ F_X6_told a0 v1 w z (fun r3 w4 z5 => Q r3 w4 z5)
set_option maxRecDepth 100000 in
set_option maxHeartbeats 4000000 in
theorem ct_X6_undoableChanges {l : Launch} {g : Gp} {d : Nat} (hst : l.stackTraces = false) {a0 : Nat} {w : Mm} {z mc ms : Nat} {Q : Int32 → Mm → Nat → Prop} {X : String → Mm → Nat → Prop} (h : F_X6_undoableChanges a0 w z Q) : Ct l g yX6_undoableChanges (.code yX6_undoableChanges cX6_undoableChanges 1 (some .int)) (d + 1) mc ms [.ref (a0)] w z (rI Q) X := by
  refine Ct.of hst (by decide) (Nat.le_of_ble_eq_true rfl) (fun C hX hE hg hl hNm => ?_)
  subst hg
  subst hl
  unfold F_X6_undoableChanges at h
  show VW C 0 [(0, .ref (a0))] [] w z mc ms
  refine vw_aload_n hX 0 dX6_undoableChanges_0 rfl ?_
  refine vw_aload_n hX 0 dX6_undoableChanges_1 rfl ?_
  obtain ⟨v1, hv1, h⟩ := h
  refine g_X6_61 hX hv1 dX6_undoableChanges_2 ?_
  obtain ⟨hr2, h⟩ := h
  refine s_X6_316 hX hr2 dX6_undoableChanges_5 (Nat.le_of_ble_eq_true rfl) (ct_X6_told (d := d + 0) (lst hX) h) (fun r3 w4 z5 h => ?_)
  exact vw_iret hX hE dX6_undoableChanges_8 ⟨_, rfl, h⟩
def F_X6_zone (a0 : Nat) (a1 : Int32) (w : Mm) (z : Nat) (Q : Int32 → Mm → Nat → Prop) : Prop :=
  isO w a0 10 ∧ F_X6_noStop a0 a1 w z (fun r2 w3 z4 => isO w3 a0 10 ∧ F_X6_fails a0 r2 0 0 w3 z4 (fun r6 w7 z8 => (r6 = 0 → ∃ q10, fld w7 a0 10 0 = some (.ref (q10)) ∧ ∃ n12 f11, arI w7 q10 0 = some (n12, f11) ∧ vp_in ((9 + a1)) n12 ∧ Q ((f11 ((9 + a1) : Int32).toNatClampNeg)) w7 z8) ∧
  (¬ r6 = 0 → Q 0 w7 z8)))
set_option maxRecDepth 100000 in
set_option maxHeartbeats 4000000 in
theorem ct_X6_zone {l : Launch} {g : Gp} {d : Nat} (hst : l.stackTraces = false) {a0 : Nat} {a1 : Int32} {w : Mm} {z mc ms : Nat} {Q : Int32 → Mm → Nat → Prop} {X : String → Mm → Nat → Prop} (h : F_X6_zone a0 a1 w z Q) : Ct l g yX6_zone (.code yX6_zone cX6_zone 2 (some .int)) (d + 2) mc ms [.ref (a0), .int (a1)] w z (rI Q) X := by
  refine Ct.of hst (by decide) (Nat.le_of_ble_eq_true rfl) (fun C hX hE hg hl hNm => ?_)
  subst hg
  subst hl
  unfold F_X6_zone at h
  show VW C 0 [(0, .ref (a0)), (1, .int (a1))] [] w z mc ms
  refine vw_aload_n hX 0 dX6_zone_0 rfl ?_
  refine vw_aload_n hX 0 dX6_zone_1 rfl ?_
  refine vw_iload_n hX 1 dX6_zone_2 rfl ?_
  obtain ⟨hr1, h⟩ := h
  refine s_X6_322 hX hr1 dX6_zone_3 (Nat.le_of_ble_eq_true rfl) (ct_X6_noStop (d := d + 0) (lst hX) h) (fun r2 w3 z4 h => ?_)
  refine vw_iconst hX (v := 0) dX6_zone_6 (by decide) ?_
  refine vw_iconst hX (v := 0) dX6_zone_7 (by decide) ?_
  obtain ⟨hr5, h⟩ := h
  refine s_X6_157 hX hr5 dX6_zone_8 (Nat.le_of_ble_eq_true rfl) (ct_X6_fails (d := d + 1) (lst hX) h) (fun r6 w7 z8 h => ?_)
  refine vw_if_eq hX (tgt := 18) dX6_zone_11 (by decide) (fun c9 => ?_) (fun c9 => ?_)
  · have h := h.1 c9
    refine vw_aload_n hX 0 dX6_zone_18 rfl ?_
    obtain ⟨q10, hq10, h⟩ := h
    refine g_X6_9 hX hq10 dX6_zone_19 ?_
    refine vw_bipush hX (v := 9) dX6_zone_22 (by decide) ?_
    refine vw_iload_n hX 1 dX6_zone_24 rfl ?_
    refine vw_iadd hX dX6_zone_25 ?_
    obtain ⟨n12, f11, hf11, hif11, h⟩ := h
    refine vw_iald hX hf11 hif11 dX6_zone_26 ?_
    exact vw_iret hX hE dX6_zone_27 ⟨_, rfl, h⟩
  · have h := h.2 c9
    refine vw_iconst hX (v := 0) dX6_zone_14 (by decide) ?_
    refine vw_goto hX (tgt := 27) dX6_zone_15 (by decide) ?_
    exact vw_iret hX hE dX6_zone_27 ⟨_, rfl, h⟩
def B_X6_zonesBetween_22 (a0 : Nat) (a1 : Int32) (a2 : Int32) (Q : Int32 → Mm → Nat → Prop) (y0 : Int32) (y1 : Nat) (w : Mm) (z : Nat) : Prop :=
  isO w y1 10 ∧ F_X6_fails y1 y0 0 0 w z (fun r2 w3 z4 => (r2 = 0 → isO w3 a0 10 ∧ F_X6_zones a0 a1 a2 w3 z4 (fun r7 w8 z9 => Q r7 w8 z9)) ∧
  (¬ r2 = 0 → Q 0 w3 z4))
set_option maxRecDepth 100000 in
set_option maxHeartbeats 4000000 in
theorem pB_X6_zonesBetween_22 {C : Cx} {d : Nat} {a0 : Nat} {a1 : Int32} {a2 : Int32} {Q : Int32 → Mm → Nat → Prop} {X : String → Mm → Nat → Prop} (hX : CX C cX6_zonesBetween RX6 3 (some .int) [] (d + 2)) (hE : EQ C (rI Q) X) : ∀ (y0 : Int32) (y1 : Nat) (w : Mm) (z mc ms : Nat), B_X6_zonesBetween_22 a0 a1 a2 Q y0 y1 w z → VW C 22 [(0, .ref (a0)), (1, .int (a1)), (2, .int (a2))] [.int (y0), .ref (y1)] w z mc ms := by
  intro y0 y1 w z mc ms h
  unfold B_X6_zonesBetween_22 at h
  refine vw_iconst hX (v := 0) dX6_zonesBetween_22 (by decide) ?_
  refine vw_iconst hX (v := 0) dX6_zonesBetween_23 (by decide) ?_
  obtain ⟨hr1, h⟩ := h
  refine s_X6_157 hX hr1 dX6_zonesBetween_24 (Nat.le_of_ble_eq_true rfl) (ct_X6_fails (d := d + 1) (lst hX) h) (fun r2 w3 z4 h => ?_)
  refine vw_if_eq hX (tgt := 34) dX6_zonesBetween_27 (by decide) (fun c5 => ?_) (fun c5 => ?_)
  · have h := h.1 c5
    refine vw_aload_n hX 0 dX6_zonesBetween_34 rfl ?_
    refine vw_iload_n hX 1 dX6_zonesBetween_35 rfl ?_
    refine vw_iload_n hX 2 dX6_zonesBetween_36 rfl ?_
    obtain ⟨hr6, h⟩ := h
    refine s_X6_119 hX hr6 dX6_zonesBetween_37 (Nat.le_of_ble_eq_true rfl) (ct_X6_zones (d := d + 0) (lst hX) h) (fun r7 w8 z9 h => ?_)
    exact vw_iret hX hE dX6_zonesBetween_40 ⟨_, rfl, h⟩
  · have h := h.2 c5
    refine vw_iconst hX (v := 0) dX6_zonesBetween_30 (by decide) ?_
    refine vw_goto hX (tgt := 40) dX6_zonesBetween_31 (by decide) ?_
    exact vw_iret hX hE dX6_zonesBetween_40 ⟨_, rfl, h⟩
def B_X6_zonesBetween_17 (a0 : Nat) (a1 : Int32) (a2 : Int32) (Q : Int32 → Mm → Nat → Prop) (y0 : Nat) (w : Mm) (z : Nat) : Prop :=
  B_X6_zonesBetween_22 a0 a1 a2 Q 1 y0 w z
set_option maxRecDepth 100000 in
set_option maxHeartbeats 4000000 in
theorem pB_X6_zonesBetween_17 {C : Cx} {d : Nat} {a0 : Nat} {a1 : Int32} {a2 : Int32} {Q : Int32 → Mm → Nat → Prop} {X : String → Mm → Nat → Prop} (hX : CX C cX6_zonesBetween RX6 3 (some .int) [] (d + 2)) (hE : EQ C (rI Q) X) : ∀ (y0 : Nat) (w : Mm) (z mc ms : Nat), B_X6_zonesBetween_17 a0 a1 a2 Q y0 w z → VW C 17 [(0, .ref (a0)), (1, .int (a1)), (2, .int (a2))] [.ref (y0)] w z mc ms := by
  intro y0 w z mc ms h
  unfold B_X6_zonesBetween_17 at h
  refine vw_iconst hX (v := 1) dX6_zonesBetween_17 (by decide) ?_
  refine vw_goto hX (tgt := 22) dX6_zonesBetween_18 (by decide) ?_
  exact pB_X6_zonesBetween_22 hX hE _ _ _ _ _ _ h
def F_X6_zonesBetween (a0 : Nat) (a1 : Int32) (a2 : Int32) (w : Mm) (z : Nat) (Q : Int32 → Mm → Nat → Prop) : Prop :=
  isO w a0 10 ∧ F_X6_noStop a0 a1 w z (fun r2 w3 z4 => (¬ r2 = 0 → B_X6_zonesBetween_17 a0 a1 a2 Q a0 w3 z4) ∧
  (r2 = 0 → isO w3 a0 10 ∧ F_X6_noStop a0 a2 w3 z4 (fun r7 w8 z9 => (r7 = 0 → B_X6_zonesBetween_22 a0 a1 a2 Q 0 a0 w8 z9) ∧
  (¬ r7 = 0 → B_X6_zonesBetween_17 a0 a1 a2 Q a0 w8 z9))))
set_option maxRecDepth 100000 in
set_option maxHeartbeats 4000000 in
theorem ct_X6_zonesBetween {l : Launch} {g : Gp} {d : Nat} (hst : l.stackTraces = false) {a0 : Nat} {a1 : Int32} {a2 : Int32} {w : Mm} {z mc ms : Nat} {Q : Int32 → Mm → Nat → Prop} {X : String → Mm → Nat → Prop} (h : F_X6_zonesBetween a0 a1 a2 w z Q) : Ct l g yX6_zonesBetween (.code yX6_zonesBetween cX6_zonesBetween 3 (some .int)) (d + 2) mc ms [.ref (a0), .int (a1), .int (a2)] w z (rI Q) X := by
  refine Ct.of hst (by decide) (Nat.le_of_ble_eq_true rfl) (fun C hX hE hg hl hNm => ?_)
  subst hg
  subst hl
  unfold F_X6_zonesBetween at h
  show VW C 0 [(0, .ref (a0)), (1, .int (a1)), (2, .int (a2))] [] w z mc ms
  refine vw_aload_n hX 0 dX6_zonesBetween_0 rfl ?_
  refine vw_aload_n hX 0 dX6_zonesBetween_1 rfl ?_
  refine vw_iload_n hX 1 dX6_zonesBetween_2 rfl ?_
  obtain ⟨hr1, h⟩ := h
  refine s_X6_322 hX hr1 dX6_zonesBetween_3 (Nat.le_of_ble_eq_true rfl) (ct_X6_noStop (d := d + 0) (lst hX) h) (fun r2 w3 z4 h => ?_)
  refine vw_if_ne hX (tgt := 17) dX6_zonesBetween_6 (by decide) (fun c5 => ?_) (fun c5 => ?_)
  · have h := h.1 c5
    exact pB_X6_zonesBetween_17 hX hE _ _ _ _ _ h
  · have h := h.2 c5
    refine vw_aload_n hX 0 dX6_zonesBetween_9 rfl ?_
    refine vw_iload_n hX 2 dX6_zonesBetween_10 rfl ?_
    obtain ⟨hr6, h⟩ := h
    refine s_X6_322 hX hr6 dX6_zonesBetween_11 (Nat.le_of_ble_eq_true rfl) (ct_X6_noStop (d := d + 0) (lst hX) h) (fun r7 w8 z9 h => ?_)
    refine vw_if_eq hX (tgt := 21) dX6_zonesBetween_14 (by decide) (fun c10 => ?_) (fun c10 => ?_)
    · have h := h.1 c10
      refine vw_iconst hX (v := 0) dX6_zonesBetween_21 (by decide) ?_
      exact pB_X6_zonesBetween_22 hX hE _ _ _ _ _ _ h
    · have h := h.2 c10
      exact pB_X6_zonesBetween_17 hX hE _ _ _ _ _ h
def F_X6_toldPassenger (a0 : Nat) (a1 : Int32) (a2 : Int32) (w : Mm) (z : Nat) (Q : Int32 → Mm → Nat → Prop) : Prop :=
  isO w a0 10 ∧ F_X6_noPassenger a0 a1 w z (fun r2 w3 z4 => isO w3 a0 10 ∧ F_X6_fails a0 r2 0 0 w3 z4 (fun r6 w7 z8 => (r6 = 0 → isO w7 a0 10 ∧ F_X6_ofPassenger a0 a1 a2 w7 z8 (fun r11 w12 z13 => Q r11 w12 z13)) ∧
  (¬ r6 = 0 → Q 0 w7 z8)))
set_option maxRecDepth 100000 in
set_option maxHeartbeats 4000000 in
theorem ct_X6_toldPassenger {l : Launch} {g : Gp} {d : Nat} (hst : l.stackTraces = false) {a0 : Nat} {a1 : Int32} {a2 : Int32} {w : Mm} {z mc ms : Nat} {Q : Int32 → Mm → Nat → Prop} {X : String → Mm → Nat → Prop} (h : F_X6_toldPassenger a0 a1 a2 w z Q) : Ct l g yX6_toldPassenger (.code yX6_toldPassenger cX6_toldPassenger 3 (some .int)) (d + 2) mc ms [.ref (a0), .int (a1), .int (a2)] w z (rI Q) X := by
  refine Ct.of hst (by decide) (Nat.le_of_ble_eq_true rfl) (fun C hX hE hg hl hNm => ?_)
  subst hg
  subst hl
  unfold F_X6_toldPassenger at h
  show VW C 0 [(0, .ref (a0)), (1, .int (a1)), (2, .int (a2))] [] w z mc ms
  refine vw_aload_n hX 0 dX6_toldPassenger_0 rfl ?_
  refine vw_aload_n hX 0 dX6_toldPassenger_1 rfl ?_
  refine vw_iload_n hX 1 dX6_toldPassenger_2 rfl ?_
  obtain ⟨hr1, h⟩ := h
  refine s_X6_319 hX hr1 dX6_toldPassenger_3 (Nat.le_of_ble_eq_true rfl) (ct_X6_noPassenger (d := d + 0) (lst hX) h) (fun r2 w3 z4 h => ?_)
  refine vw_iconst hX (v := 0) dX6_toldPassenger_6 (by decide) ?_
  refine vw_iconst hX (v := 0) dX6_toldPassenger_7 (by decide) ?_
  obtain ⟨hr5, h⟩ := h
  refine s_X6_157 hX hr5 dX6_toldPassenger_8 (Nat.le_of_ble_eq_true rfl) (ct_X6_fails (d := d + 1) (lst hX) h) (fun r6 w7 z8 h => ?_)
  refine vw_if_eq hX (tgt := 18) dX6_toldPassenger_11 (by decide) (fun c9 => ?_) (fun c9 => ?_)
  · have h := h.1 c9
    refine vw_aload_n hX 0 dX6_toldPassenger_18 rfl ?_
    refine vw_iload_n hX 1 dX6_toldPassenger_19 rfl ?_
    refine vw_iload_n hX 2 dX6_toldPassenger_20 rfl ?_
    obtain ⟨hr10, h⟩ := h
    refine s_X6_102 hX hr10 dX6_toldPassenger_21 (Nat.le_of_ble_eq_true rfl) (ct_X6_ofPassenger (d := d + 1) (lst hX) h) (fun r11 w12 z13 h => ?_)
    exact vw_iret hX hE dX6_toldPassenger_24 ⟨_, rfl, h⟩
  · have h := h.2 c9
    refine vw_iconst hX (v := 0) dX6_toldPassenger_14 (by decide) ?_
    refine vw_goto hX (tgt := 24) dX6_toldPassenger_15 (by decide) ?_
    exact vw_iret hX hE dX6_toldPassenger_24 ⟨_, rfl, h⟩
def F_X6_money (a0 : Nat) (a1 : Int32) (w : Mm) (z : Nat) (Q : Int32 → Mm → Nat → Prop) : Prop :=
  isO w a0 10 ∧ F_X6_toldPassenger a0 a1 0 w z (fun r2 w3 z4 => Q r2 w3 z4)
set_option maxRecDepth 100000 in
set_option maxHeartbeats 4000000 in
theorem ct_X6_money {l : Launch} {g : Gp} {d : Nat} (hst : l.stackTraces = false) {a0 : Nat} {a1 : Int32} {w : Mm} {z mc ms : Nat} {Q : Int32 → Mm → Nat → Prop} {X : String → Mm → Nat → Prop} (h : F_X6_money a0 a1 w z Q) : Ct l g yX6_money (.code yX6_money cX6_money 2 (some .int)) (d + 3) mc ms [.ref (a0), .int (a1)] w z (rI Q) X := by
  refine Ct.of hst (by decide) (Nat.le_of_ble_eq_true rfl) (fun C hX hE hg hl hNm => ?_)
  subst hg
  subst hl
  unfold F_X6_money at h
  show VW C 0 [(0, .ref (a0)), (1, .int (a1))] [] w z mc ms
  refine vw_aload_n hX 0 dX6_money_0 rfl ?_
  refine vw_iload_n hX 1 dX6_money_1 rfl ?_
  refine vw_iconst hX (v := 0) dX6_money_2 (by decide) ?_
  obtain ⟨hr1, h⟩ := h
  refine s_X6_331 hX hr1 dX6_money_3 (Nat.le_of_ble_eq_true rfl) (ct_X6_toldPassenger (d := d + 0) (lst hX) h) (fun r2 w3 z4 h => ?_)
  exact vw_iret hX hE dX6_money_6 ⟨_, rfl, h⟩
def F_X6_isRiding (a0 : Nat) (a1 : Int32) (w : Mm) (z : Nat) (Q : Int32 → Mm → Nat → Prop) : Prop :=
  isO w a0 10 ∧ F_X6_noPassenger a0 a1 w z (fun r2 w3 z4 => isO w3 a0 10 ∧ F_X6_fails a0 r2 0 0 w3 z4 (fun r6 w7 z8 => (¬ r6 = 0 → Q 0 w7 z8) ∧
  (r6 = 0 → isO w7 a0 10 ∧ F_X6_rides a0 a1 w7 z8 (fun r11 w12 z13 => (r11 = 0 → Q 0 w12 z13) ∧
  (¬ r11 = 0 → Q 1 w12 z13)))))
set_option maxRecDepth 100000 in
set_option maxHeartbeats 4000000 in
theorem ct_X6_isRiding {l : Launch} {g : Gp} {d : Nat} (hst : l.stackTraces = false) {a0 : Nat} {a1 : Int32} {w : Mm} {z mc ms : Nat} {Q : Int32 → Mm → Nat → Prop} {X : String → Mm → Nat → Prop} (h : F_X6_isRiding a0 a1 w z Q) : Ct l g yX6_isRiding (.code yX6_isRiding cX6_isRiding 2 (some .boolean)) (d + 2) mc ms [.ref (a0), .int (a1)] w z (rI Q) X := by
  refine Ct.of hst (by decide) (Nat.le_of_ble_eq_true rfl) (fun C hX hE hg hl hNm => ?_)
  subst hg
  subst hl
  unfold F_X6_isRiding at h
  show VW C 0 [(0, .ref (a0)), (1, .int (a1))] [] w z mc ms
  refine vw_aload_n hX 0 dX6_isRiding_0 rfl ?_
  refine vw_aload_n hX 0 dX6_isRiding_1 rfl ?_
  refine vw_iload_n hX 1 dX6_isRiding_2 rfl ?_
  obtain ⟨hr1, h⟩ := h
  refine s_X6_319 hX hr1 dX6_isRiding_3 (Nat.le_of_ble_eq_true rfl) (ct_X6_noPassenger (d := d + 0) (lst hX) h) (fun r2 w3 z4 h => ?_)
  refine vw_iconst hX (v := 0) dX6_isRiding_6 (by decide) ?_
  refine vw_iconst hX (v := 0) dX6_isRiding_7 (by decide) ?_
  obtain ⟨hr5, h⟩ := h
  refine s_X6_157 hX hr5 dX6_isRiding_8 (Nat.le_of_ble_eq_true rfl) (ct_X6_fails (d := d + 1) (lst hX) h) (fun r6 w7 z8 h => ?_)
  refine vw_if_ne hX (tgt := 26) dX6_isRiding_11 (by decide) (fun c9 => ?_) (fun c9 => ?_)
  · have h := h.1 c9
    refine vw_iconst hX (v := 0) dX6_isRiding_26 (by decide) ?_
    exact vw_zret hX hE dX6_isRiding_27 rfl ⟨_, rfl, h⟩
  · have h := h.2 c9
    refine vw_aload_n hX 0 dX6_isRiding_14 rfl ?_
    refine vw_iload_n hX 1 dX6_isRiding_15 rfl ?_
    obtain ⟨hr10, h⟩ := h
    refine s_X6_112 hX hr10 dX6_isRiding_16 (Nat.le_of_ble_eq_true rfl) (ct_X6_rides (d := d + 0) (lst hX) h) (fun r11 w12 z13 h => ?_)
    refine vw_if_eq hX (tgt := 26) dX6_isRiding_19 (by decide) (fun c14 => ?_) (fun c14 => ?_)
    · have h := h.1 c14
      refine vw_iconst hX (v := 0) dX6_isRiding_26 (by decide) ?_
      exact vw_zret hX hE dX6_isRiding_27 rfl ⟨_, rfl, h⟩
    · have h := h.2 c14
      refine vw_iconst hX (v := 1) dX6_isRiding_22 (by decide) ?_
      refine vw_goto hX (tgt := 27) dX6_isRiding_23 (by decide) ?_
      exact vw_zret hX hE dX6_isRiding_27 rfl ⟨_, rfl, h⟩
def F_X6_rideEnd (a0 : Nat) (a1 : Int32) (w : Mm) (z : Nat) (Q : Int32 → Mm → Nat → Prop) : Prop :=
  isO w a0 10 ∧ F_X6_toldPassenger a0 a1 3 w z (fun r2 w3 z4 => Q r2 w3 z4)
set_option maxRecDepth 100000 in
set_option maxHeartbeats 4000000 in
theorem ct_X6_rideEnd {l : Launch} {g : Gp} {d : Nat} (hst : l.stackTraces = false) {a0 : Nat} {a1 : Int32} {w : Mm} {z mc ms : Nat} {Q : Int32 → Mm → Nat → Prop} {X : String → Mm → Nat → Prop} (h : F_X6_rideEnd a0 a1 w z Q) : Ct l g yX6_rideEnd (.code yX6_rideEnd cX6_rideEnd 2 (some .int)) (d + 3) mc ms [.ref (a0), .int (a1)] w z (rI Q) X := by
  refine Ct.of hst (by decide) (Nat.le_of_ble_eq_true rfl) (fun C hX hE hg hl hNm => ?_)
  subst hg
  subst hl
  unfold F_X6_rideEnd at h
  show VW C 0 [(0, .ref (a0)), (1, .int (a1))] [] w z mc ms
  refine vw_aload_n hX 0 dX6_rideEnd_0 rfl ?_
  refine vw_iload_n hX 1 dX6_rideEnd_1 rfl ?_
  refine vw_iconst hX (v := 3) dX6_rideEnd_2 (by decide) ?_
  obtain ⟨hr1, h⟩ := h
  refine s_X6_331 hX hr1 dX6_rideEnd_3 (Nat.le_of_ble_eq_true rfl) (ct_X6_toldPassenger (d := d + 0) (lst hX) h) (fun r2 w3 z4 h => ?_)
  exact vw_iret hX hE dX6_rideEnd_6 ⟨_, rfl, h⟩
def F_X6_rideTicket (a0 : Nat) (a1 : Int32) (w : Mm) (z : Nat) (Q : Int32 → Mm → Nat → Prop) : Prop :=
  isO w a0 10 ∧ F_X6_toldPassenger a0 a1 4 w z (fun r2 w3 z4 => Q r2 w3 z4)
set_option maxRecDepth 100000 in
set_option maxHeartbeats 4000000 in
theorem ct_X6_rideTicket {l : Launch} {g : Gp} {d : Nat} (hst : l.stackTraces = false) {a0 : Nat} {a1 : Int32} {w : Mm} {z mc ms : Nat} {Q : Int32 → Mm → Nat → Prop} {X : String → Mm → Nat → Prop} (h : F_X6_rideTicket a0 a1 w z Q) : Ct l g yX6_rideTicket (.code yX6_rideTicket cX6_rideTicket 2 (some .int)) (d + 3) mc ms [.ref (a0), .int (a1)] w z (rI Q) X := by
  refine Ct.of hst (by decide) (Nat.le_of_ble_eq_true rfl) (fun C hX hE hg hl hNm => ?_)
  subst hg
  subst hl
  unfold F_X6_rideTicket at h
  show VW C 0 [(0, .ref (a0)), (1, .int (a1))] [] w z mc ms
  refine vw_aload_n hX 0 dX6_rideTicket_0 rfl ?_
  refine vw_iload_n hX 1 dX6_rideTicket_1 rfl ?_
  refine vw_iconst hX (v := 4) dX6_rideTicket_2 (by decide) ?_
  obtain ⟨hr1, h⟩ := h
  refine s_X6_331 hX hr1 dX6_rideTicket_3 (Nat.le_of_ble_eq_true rfl) (ct_X6_toldPassenger (d := d + 0) (lst hX) h) (fun r2 w3 z4 h => ?_)
  exact vw_iret hX hE dX6_rideTicket_6 ⟨_, rfl, h⟩
def F_X6_faultNow (a0 : Nat) (a1 : Int32) (w : Mm) (z : Nat) (Q : Int32 → Mm → Nat → Prop) : Prop :=
  isO w a0 10 ∧ F_X6_noPassenger a0 a1 w z (fun r2 w3 z4 => isO w3 a0 10 ∧ F_X6_fails a0 r2 0 0 w3 z4 (fun r6 w7 z8 => (r6 = 0 → isO w7 a0 10 ∧ F_X6_fault a0 a1 w7 z8 (fun r11 w12 z13 => Q r11 w12 z13)) ∧
  (¬ r6 = 0 → Q 0 w7 z8)))
set_option maxRecDepth 100000 in
set_option maxHeartbeats 4000000 in
theorem ct_X6_faultNow {l : Launch} {g : Gp} {d : Nat} (hst : l.stackTraces = false) {a0 : Nat} {a1 : Int32} {w : Mm} {z mc ms : Nat} {Q : Int32 → Mm → Nat → Prop} {X : String → Mm → Nat → Prop} (h : F_X6_faultNow a0 a1 w z Q) : Ct l g yX6_faultNow (.code yX6_faultNow cX6_faultNow 2 (some .int)) (d + 4) mc ms [.ref (a0), .int (a1)] w z (rI Q) X := by
  refine Ct.of hst (by decide) (Nat.le_of_ble_eq_true rfl) (fun C hX hE hg hl hNm => ?_)
  subst hg
  subst hl
  unfold F_X6_faultNow at h
  show VW C 0 [(0, .ref (a0)), (1, .int (a1))] [] w z mc ms
  refine vw_aload_n hX 0 dX6_faultNow_0 rfl ?_
  refine vw_aload_n hX 0 dX6_faultNow_1 rfl ?_
  refine vw_iload_n hX 1 dX6_faultNow_2 rfl ?_
  obtain ⟨hr1, h⟩ := h
  refine s_X6_319 hX hr1 dX6_faultNow_3 (Nat.le_of_ble_eq_true rfl) (ct_X6_noPassenger (d := d + 2) (lst hX) h) (fun r2 w3 z4 h => ?_)
  refine vw_iconst hX (v := 0) dX6_faultNow_6 (by decide) ?_
  refine vw_iconst hX (v := 0) dX6_faultNow_7 (by decide) ?_
  obtain ⟨hr5, h⟩ := h
  refine s_X6_157 hX hr5 dX6_faultNow_8 (Nat.le_of_ble_eq_true rfl) (ct_X6_fails (d := d + 3) (lst hX) h) (fun r6 w7 z8 h => ?_)
  refine vw_if_eq hX (tgt := 18) dX6_faultNow_11 (by decide) (fun c9 => ?_) (fun c9 => ?_)
  · have h := h.1 c9
    refine vw_aload_n hX 0 dX6_faultNow_18 rfl ?_
    refine vw_iload_n hX 1 dX6_faultNow_19 rfl ?_
    obtain ⟨hr10, h⟩ := h
    refine s_X6_132 hX hr10 dX6_faultNow_20 (Nat.le_of_ble_eq_true rfl) (ct_X6_fault (d := d + 0) (lst hX) h) (fun r11 w12 z13 h => ?_)
    exact vw_iret hX hE dX6_faultNow_23 ⟨_, rfl, h⟩
  · have h := h.2 c9
    refine vw_iconst hX (v := 0) dX6_faultNow_14 (by decide) ?_
    refine vw_goto hX (tgt := 23) dX6_faultNow_15 (by decide) ?_
    exact vw_iret hX hE dX6_faultNow_23 ⟨_, rfl, h⟩
def B_X6_debt_48 (a0 : Nat) (a1 : Int32) (K20 : Int32 → Int32 → Mm → Nat → Prop) (Q : Int32 → Mm → Nat → Prop) (x2 : Int32) (x3 : Int32) (w : Mm) (z : Nat) : Prop :=
  K20 x2 ((x3 + 1)) w z
set_option maxRecDepth 100000 in
set_option maxHeartbeats 4000000 in
theorem pB_X6_debt_48 {C : Cx} {d : Nat} {a0 : Nat} {a1 : Int32} {K20 : Int32 → Int32 → Mm → Nat → Prop} {Q : Int32 → Mm → Nat → Prop} {X : String → Mm → Nat → Prop} (hX : CX C cX6_debt RX6 4 (some .int) [] (d + 3)) (hE : EQ C (rI Q) X) (hK20 : ∀ (x2 : Int32) (x3 : Int32) (w : Mm) (z mc ms : Nat), K20 x2 x3 w z → VW C 20 [(0, .ref (a0)), (1, .int (a1)), (2, .int (x2)), (3, .int (x3))] [] w z mc ms) : ∀ (x2 : Int32) (x3 : Int32) (w : Mm) (z mc ms : Nat), B_X6_debt_48 a0 a1 K20 Q x2 x3 w z → VW C 48 [(0, .ref (a0)), (1, .int (a1)), (2, .int (x2)), (3, .int (x3))] [] w z mc ms := by
  intro x2 x3 w z mc ms h
  unfold B_X6_debt_48 at h
  refine vw_iinc hX 3 (v := x3 + 1) dX6_debt_48 rfl rfl (by decide) rfl ?_
  refine vw_goto hX (tgt := 20) dX6_debt_51 (by decide) ?_
  exact vw_sub [1, 2, 3, 0] rfl (hK20 _ _ _ _ _ _ h)
def B_X6_debt_20 (a0 : Nat) (a1 : Int32) (Q : Int32 → Mm → Nat → Prop) : Nat → Int32 → Int32 → Mm → Nat → Prop
  | 0, _, _, _, _ => False
  | n + 1, x2, x3, w, z => ∃ q1, fld w a0 10 0 = some (.ref (q1)) ∧ ∃ n3 f2, arI w q1 0 = some (n3, f2) ∧ vp_in 4 n3 ∧ (((f2 (4 : Int32).toNatClampNeg)) ≤ x3 → Q x2 w z) ∧
  (¬ ((f2 (4 : Int32).toNatClampNeg)) ≤ x3 → isO w a0 10 ∧ F_X6_ofCase a0 x3 0 w z (fun r6 w7 z8 => (¬ r6 = a1 → B_X6_debt_48 a0 a1 (B_X6_debt_20 a0 a1 Q n) Q x2 x3 w7 z8) ∧
  (r6 = a1 → isO w7 a0 10 ∧ F_X6_due a0 x3 w7 z8 (fun r11 w12 z13 => ∀ i14 : Int32, i14 = (x2 + r11) → B_X6_debt_48 a0 a1 (B_X6_debt_20 a0 a1 Q n) Q i14 x3 w12 z13))))
set_option maxRecDepth 100000 in
set_option maxHeartbeats 4000000 in
theorem pB_X6_debt_20 {C : Cx} {d : Nat} {a0 : Nat} {a1 : Int32} {Q : Int32 → Mm → Nat → Prop} {X : String → Mm → Nat → Prop} (hX : CX C cX6_debt RX6 4 (some .int) [] (d + 3)) (hE : EQ C (rI Q) X) : ∀ (n : Nat) (x2 : Int32) (x3 : Int32) (w : Mm) (z mc ms : Nat), B_X6_debt_20 a0 a1 Q n x2 x3 w z → VW C 20 [(0, .ref (a0)), (1, .int (a1)), (2, .int (x2)), (3, .int (x3))] [] w z mc ms := by
  intro n
  induction n with
  | zero => intro x2 x3 w z mc ms h; exact False.elim h
  | succ n ih =>
    intro x2 x3 w z mc ms h
    unfold B_X6_debt_20 at h
    refine vw_iload_n hX 3 dX6_debt_20 rfl ?_
    refine vw_aload_n hX 0 dX6_debt_21 rfl ?_
    obtain ⟨q1, hq1, h⟩ := h
    refine g_X6_9 hX hq1 dX6_debt_22 ?_
    refine vw_iconst hX (v := 4) dX6_debt_25 (by decide) ?_
    obtain ⟨n3, f2, hf2, hif2, h⟩ := h
    refine vw_iald hX hf2 hif2 dX6_debt_26 ?_
    refine vw_icmp_ge hX (tgt := 54) dX6_debt_27 (by decide) (fun c4 => ?_) (fun c4 => ?_)
    · have h := h.1 c4
      refine vw_iload_n hX 2 dX6_debt_54 rfl ?_
      exact vw_iret hX hE dX6_debt_55 ⟨_, rfl, h⟩
    · have h := h.2 c4
      refine vw_aload_n hX 0 dX6_debt_30 rfl ?_
      refine vw_iload_n hX 3 dX6_debt_31 rfl ?_
      refine vw_iconst hX (v := 0) dX6_debt_32 (by decide) ?_
      obtain ⟨hr5, h⟩ := h
      refine s_X6_138 hX hr5 dX6_debt_33 (Nat.le_of_ble_eq_true rfl) (ct_X6_ofCase (d := d + 2) (lst hX) h) (fun r6 w7 z8 h => ?_)
      refine vw_iload_n hX 1 dX6_debt_36 rfl ?_
      refine vw_icmp_ne hX (tgt := 48) dX6_debt_37 (by decide) (fun c9 => ?_) (fun c9 => ?_)
      · have h := h.1 c9
        exact pB_X6_debt_48 hX hE ih _ _ _ _ _ _ h
      · have h := h.2 c9
        refine vw_iload_n hX 2 dX6_debt_40 rfl ?_
        refine vw_aload_n hX 0 dX6_debt_41 rfl ?_
        refine vw_iload_n hX 3 dX6_debt_42 rfl ?_
        obtain ⟨hr10, h⟩ := h
        refine s_X6_147 hX hr10 dX6_debt_43 (Nat.le_of_ble_eq_true rfl) (ct_X6_due (d := d + 0) (lst hX) h) (fun r11 w12 z13 h => ?_)
        refine vw_iadd hX dX6_debt_46 ?_
        refine vw_nmI (fun i14 ei14 => ?_)
        have h := h i14 ei14
        refine vw_istore_n hX dX6_debt_47 (by decide) rfl ?_
        exact vw_sub [1, 2, 0, 3] rfl (pB_X6_debt_48 hX hE ih _ _ _ _ _ _ h)
def F_X6_debt (a0 : Nat) (a1 : Int32) (w : Mm) (z : Nat) (Q : Int32 → Mm → Nat → Prop) : Prop :=
  isO w a0 10 ∧ F_X6_noPassenger a0 a1 w z (fun r2 w3 z4 => isO w3 a0 10 ∧ F_X6_fails a0 r2 0 0 w3 z4 (fun r6 w7 z8 => (r6 = 0 → ∃ n, B_X6_debt_20 a0 a1 Q n 0 0 w7 z8) ∧
  (¬ r6 = 0 → Q 0 w7 z8)))
set_option maxRecDepth 100000 in
set_option maxHeartbeats 4000000 in
theorem ct_X6_debt {l : Launch} {g : Gp} {d : Nat} (hst : l.stackTraces = false) {a0 : Nat} {a1 : Int32} {w : Mm} {z mc ms : Nat} {Q : Int32 → Mm → Nat → Prop} {X : String → Mm → Nat → Prop} (h : F_X6_debt a0 a1 w z Q) : Ct l g yX6_debt (.code yX6_debt cX6_debt 4 (some .int)) (d + 3) mc ms [.ref (a0), .int (a1)] w z (rI Q) X := by
  refine Ct.of hst (by decide) (Nat.le_of_ble_eq_true rfl) (fun C hX hE hg hl hNm => ?_)
  subst hg
  subst hl
  unfold F_X6_debt at h
  show VW C 0 [(0, .ref (a0)), (1, .int (a1))] [] w z mc ms
  refine vw_aload_n hX 0 dX6_debt_0 rfl ?_
  refine vw_aload_n hX 0 dX6_debt_1 rfl ?_
  refine vw_iload_n hX 1 dX6_debt_2 rfl ?_
  obtain ⟨hr1, h⟩ := h
  refine s_X6_319 hX hr1 dX6_debt_3 (Nat.le_of_ble_eq_true rfl) (ct_X6_noPassenger (d := d + 1) (lst hX) h) (fun r2 w3 z4 h => ?_)
  refine vw_iconst hX (v := 0) dX6_debt_6 (by decide) ?_
  refine vw_iconst hX (v := 0) dX6_debt_7 (by decide) ?_
  obtain ⟨hr5, h⟩ := h
  refine s_X6_157 hX hr5 dX6_debt_8 (Nat.le_of_ble_eq_true rfl) (ct_X6_fails (d := d + 2) (lst hX) h) (fun r6 w7 z8 h => ?_)
  refine vw_if_eq hX (tgt := 16) dX6_debt_11 (by decide) (fun c9 => ?_) (fun c9 => ?_)
  · have h := h.1 c9
    refine vw_iconst hX (v := 0) dX6_debt_16 (by decide) ?_
    refine vw_istore_n hX dX6_debt_17 (by decide) rfl ?_
    refine vw_iconst hX (v := 0) dX6_debt_18 (by decide) ?_
    refine vw_istore_n hX dX6_debt_19 (by decide) rfl ?_
    obtain ⟨n, h⟩ := h
    exact vw_sub [2, 3, 1, 0] rfl (pB_X6_debt_20 hX hE n _ _ _ _ _ _ h)
  · have h := h.2 c9
    refine vw_iconst hX (v := 0) dX6_debt_14 (by decide) ?_
    exact vw_iret hX hE dX6_debt_15 ⟨_, rfl, h⟩
def B_X6_unpaidCases_53 (a0 : Nat) (a1 : Int32) (K20 : Int32 → Int32 → Mm → Nat → Prop) (Q : Int32 → Mm → Nat → Prop) (x2 : Int32) (x3 : Int32) (w : Mm) (z : Nat) : Prop :=
  K20 x2 ((x3 + 1)) w z
set_option maxRecDepth 100000 in
set_option maxHeartbeats 4000000 in
theorem pB_X6_unpaidCases_53 {C : Cx} {d : Nat} {a0 : Nat} {a1 : Int32} {K20 : Int32 → Int32 → Mm → Nat → Prop} {Q : Int32 → Mm → Nat → Prop} {X : String → Mm → Nat → Prop} (hX : CX C cX6_unpaidCases RX6 4 (some .int) [] (d + 2)) (hE : EQ C (rI Q) X) (hK20 : ∀ (x2 : Int32) (x3 : Int32) (w : Mm) (z mc ms : Nat), K20 x2 x3 w z → VW C 20 [(0, .ref (a0)), (1, .int (a1)), (2, .int (x2)), (3, .int (x3))] [] w z mc ms) : ∀ (x2 : Int32) (x3 : Int32) (w : Mm) (z mc ms : Nat), B_X6_unpaidCases_53 a0 a1 K20 Q x2 x3 w z → VW C 53 [(0, .ref (a0)), (1, .int (a1)), (2, .int (x2)), (3, .int (x3))] [] w z mc ms := by
  intro x2 x3 w z mc ms h
  unfold B_X6_unpaidCases_53 at h
  refine vw_iinc hX 3 (v := x3 + 1) dX6_unpaidCases_53 rfl rfl (by decide) rfl ?_
  refine vw_goto hX (tgt := 20) dX6_unpaidCases_56 (by decide) ?_
  exact vw_sub [1, 2, 3, 0] rfl (hK20 _ _ _ _ _ _ h)
def B_X6_unpaidCases_20 (a0 : Nat) (a1 : Int32) (Q : Int32 → Mm → Nat → Prop) : Nat → Int32 → Int32 → Mm → Nat → Prop
  | 0, _, _, _, _ => False
  | n + 1, x2, x3, w, z => ∃ q1, fld w a0 10 0 = some (.ref (q1)) ∧ ∃ n3 f2, arI w q1 0 = some (n3, f2) ∧ vp_in 4 n3 ∧ (((f2 (4 : Int32).toNatClampNeg)) ≤ x3 → Q x2 w z) ∧
  (¬ ((f2 (4 : Int32).toNatClampNeg)) ≤ x3 → isO w a0 10 ∧ F_X6_ofCase a0 x3 0 w z (fun r6 w7 z8 => (¬ r6 = a1 → B_X6_unpaidCases_53 a0 a1 (B_X6_unpaidCases_20 a0 a1 Q n) Q x2 x3 w7 z8) ∧
  (r6 = a1 → isO w7 a0 10 ∧ F_X6_ofCase a0 x3 2 w7 z8 (fun r11 w12 z13 => (r11 = 4 → B_X6_unpaidCases_53 a0 a1 (B_X6_unpaidCases_20 a0 a1 Q n) Q x2 x3 w12 z13) ∧
  (¬ r11 = 4 → B_X6_unpaidCases_53 a0 a1 (B_X6_unpaidCases_20 a0 a1 Q n) Q ((x2 + 1)) x3 w12 z13)))))
set_option maxRecDepth 100000 in
set_option maxHeartbeats 4000000 in
theorem pB_X6_unpaidCases_20 {C : Cx} {d : Nat} {a0 : Nat} {a1 : Int32} {Q : Int32 → Mm → Nat → Prop} {X : String → Mm → Nat → Prop} (hX : CX C cX6_unpaidCases RX6 4 (some .int) [] (d + 2)) (hE : EQ C (rI Q) X) : ∀ (n : Nat) (x2 : Int32) (x3 : Int32) (w : Mm) (z mc ms : Nat), B_X6_unpaidCases_20 a0 a1 Q n x2 x3 w z → VW C 20 [(0, .ref (a0)), (1, .int (a1)), (2, .int (x2)), (3, .int (x3))] [] w z mc ms := by
  intro n
  induction n with
  | zero => intro x2 x3 w z mc ms h; exact False.elim h
  | succ n ih =>
    intro x2 x3 w z mc ms h
    unfold B_X6_unpaidCases_20 at h
    refine vw_iload_n hX 3 dX6_unpaidCases_20 rfl ?_
    refine vw_aload_n hX 0 dX6_unpaidCases_21 rfl ?_
    obtain ⟨q1, hq1, h⟩ := h
    refine g_X6_9 hX hq1 dX6_unpaidCases_22 ?_
    refine vw_iconst hX (v := 4) dX6_unpaidCases_25 (by decide) ?_
    obtain ⟨n3, f2, hf2, hif2, h⟩ := h
    refine vw_iald hX hf2 hif2 dX6_unpaidCases_26 ?_
    refine vw_icmp_ge hX (tgt := 59) dX6_unpaidCases_27 (by decide) (fun c4 => ?_) (fun c4 => ?_)
    · have h := h.1 c4
      refine vw_iload_n hX 2 dX6_unpaidCases_59 rfl ?_
      exact vw_iret hX hE dX6_unpaidCases_60 ⟨_, rfl, h⟩
    · have h := h.2 c4
      refine vw_aload_n hX 0 dX6_unpaidCases_30 rfl ?_
      refine vw_iload_n hX 3 dX6_unpaidCases_31 rfl ?_
      refine vw_iconst hX (v := 0) dX6_unpaidCases_32 (by decide) ?_
      obtain ⟨hr5, h⟩ := h
      refine s_X6_138 hX hr5 dX6_unpaidCases_33 (Nat.le_of_ble_eq_true rfl) (ct_X6_ofCase (d := d + 1) (lst hX) h) (fun r6 w7 z8 h => ?_)
      refine vw_iload_n hX 1 dX6_unpaidCases_36 rfl ?_
      refine vw_icmp_ne hX (tgt := 53) dX6_unpaidCases_37 (by decide) (fun c9 => ?_) (fun c9 => ?_)
      · have h := h.1 c9
        exact pB_X6_unpaidCases_53 hX hE ih _ _ _ _ _ _ h
      · have h := h.2 c9
        refine vw_aload_n hX 0 dX6_unpaidCases_40 rfl ?_
        refine vw_iload_n hX 3 dX6_unpaidCases_41 rfl ?_
        refine vw_iconst hX (v := 2) dX6_unpaidCases_42 (by decide) ?_
        obtain ⟨hr10, h⟩ := h
        refine s_X6_138 hX hr10 dX6_unpaidCases_43 (Nat.le_of_ble_eq_true rfl) (ct_X6_ofCase (d := d + 1) (lst hX) h) (fun r11 w12 z13 h => ?_)
        refine vw_iconst hX (v := 4) dX6_unpaidCases_46 (by decide) ?_
        refine vw_icmp_eq hX (tgt := 53) dX6_unpaidCases_47 (by decide) (fun c14 => ?_) (fun c14 => ?_)
        · have h := h.1 c14
          exact pB_X6_unpaidCases_53 hX hE ih _ _ _ _ _ _ h
        · have h := h.2 c14
          refine vw_iinc hX 2 (v := x2 + 1) dX6_unpaidCases_50 rfl rfl (by decide) rfl ?_
          exact vw_sub [1, 2, 0, 3] rfl (pB_X6_unpaidCases_53 hX hE ih _ _ _ _ _ _ h)
def F_X6_unpaidCases (a0 : Nat) (a1 : Int32) (w : Mm) (z : Nat) (Q : Int32 → Mm → Nat → Prop) : Prop :=
  isO w a0 10 ∧ F_X6_noPassenger a0 a1 w z (fun r2 w3 z4 => isO w3 a0 10 ∧ F_X6_fails a0 r2 0 0 w3 z4 (fun r6 w7 z8 => (r6 = 0 → ∃ n, B_X6_unpaidCases_20 a0 a1 Q n 0 0 w7 z8) ∧
  (¬ r6 = 0 → Q 0 w7 z8)))
set_option maxRecDepth 100000 in
set_option maxHeartbeats 4000000 in
theorem ct_X6_unpaidCases {l : Launch} {g : Gp} {d : Nat} (hst : l.stackTraces = false) {a0 : Nat} {a1 : Int32} {w : Mm} {z mc ms : Nat} {Q : Int32 → Mm → Nat → Prop} {X : String → Mm → Nat → Prop} (h : F_X6_unpaidCases a0 a1 w z Q) : Ct l g yX6_unpaidCases (.code yX6_unpaidCases cX6_unpaidCases 4 (some .int)) (d + 2) mc ms [.ref (a0), .int (a1)] w z (rI Q) X := by
  refine Ct.of hst (by decide) (Nat.le_of_ble_eq_true rfl) (fun C hX hE hg hl hNm => ?_)
  subst hg
  subst hl
  unfold F_X6_unpaidCases at h
  show VW C 0 [(0, .ref (a0)), (1, .int (a1))] [] w z mc ms
  refine vw_aload_n hX 0 dX6_unpaidCases_0 rfl ?_
  refine vw_aload_n hX 0 dX6_unpaidCases_1 rfl ?_
  refine vw_iload_n hX 1 dX6_unpaidCases_2 rfl ?_
  obtain ⟨hr1, h⟩ := h
  refine s_X6_319 hX hr1 dX6_unpaidCases_3 (Nat.le_of_ble_eq_true rfl) (ct_X6_noPassenger (d := d + 0) (lst hX) h) (fun r2 w3 z4 h => ?_)
  refine vw_iconst hX (v := 0) dX6_unpaidCases_6 (by decide) ?_
  refine vw_iconst hX (v := 0) dX6_unpaidCases_7 (by decide) ?_
  obtain ⟨hr5, h⟩ := h
  refine s_X6_157 hX hr5 dX6_unpaidCases_8 (Nat.le_of_ble_eq_true rfl) (ct_X6_fails (d := d + 1) (lst hX) h) (fun r6 w7 z8 h => ?_)
  refine vw_if_eq hX (tgt := 16) dX6_unpaidCases_11 (by decide) (fun c9 => ?_) (fun c9 => ?_)
  · have h := h.1 c9
    refine vw_iconst hX (v := 0) dX6_unpaidCases_16 (by decide) ?_
    refine vw_istore_n hX dX6_unpaidCases_17 (by decide) rfl ?_
    refine vw_iconst hX (v := 0) dX6_unpaidCases_18 (by decide) ?_
    refine vw_istore_n hX dX6_unpaidCases_19 (by decide) rfl ?_
    obtain ⟨n, h⟩ := h
    exact vw_sub [2, 3, 1, 0] rfl (pB_X6_unpaidCases_20 hX hE n _ _ _ _ _ _ h)
  · have h := h.2 c9
    refine vw_iconst hX (v := 0) dX6_unpaidCases_14 (by decide) ?_
    exact vw_iret hX hE dX6_unpaidCases_15 ⟨_, rfl, h⟩
def F_X6_nameByte (a0 : Nat) (a1 : Int32) (a2 : Int32) (w : Mm) (z : Nat) (Q : Int32 → Mm → Nat → Prop) : Prop :=
  isO w a0 10 ∧ F_X6_noPassenger a0 a1 w z (fun r2 w3 z4 => isO w3 a0 10 ∧ F_X6_fails a0 r2 0 0 w3 z4 (fun r6 w7 z8 => (r6 = 0 → isO w7 a0 10 ∧ F_X6_ofPassenger a0 a1 6 w7 z8 (fun r11 w12 z13 => F_X6_isIn a2 0 ((r11 - 1)) w12 z13 (fun r14 w15 z16 => (r14 = 0 → Q (-1) w15 z16) ∧
  (¬ r14 = 0 → isO w15 a0 10 ∧ F_X6_ofPassenger a0 a1 ((7 + a2)) w15 z16 (fun r19 w20 z21 => Q r19 w20 z21))))) ∧
  (¬ r6 = 0 → Q 0 w7 z8)))
set_option maxRecDepth 100000 in
set_option maxHeartbeats 4000000 in
theorem ct_X6_nameByte {l : Launch} {g : Gp} {d : Nat} (hst : l.stackTraces = false) {a0 : Nat} {a1 : Int32} {a2 : Int32} {w : Mm} {z mc ms : Nat} {Q : Int32 → Mm → Nat → Prop} {X : String → Mm → Nat → Prop} (h : F_X6_nameByte a0 a1 a2 w z Q) : Ct l g yX6_nameByte (.code yX6_nameByte cX6_nameByte 3 (some .int)) (d + 2) mc ms [.ref (a0), .int (a1), .int (a2)] w z (rI Q) X := by
  refine Ct.of hst (by decide) (Nat.le_of_ble_eq_true rfl) (fun C hX hE hg hl hNm => ?_)
  subst hg
  subst hl
  unfold F_X6_nameByte at h
  show VW C 0 [(0, .ref (a0)), (1, .int (a1)), (2, .int (a2))] [] w z mc ms
  refine vw_aload_n hX 0 dX6_nameByte_0 rfl ?_
  refine vw_aload_n hX 0 dX6_nameByte_1 rfl ?_
  refine vw_iload_n hX 1 dX6_nameByte_2 rfl ?_
  obtain ⟨hr1, h⟩ := h
  refine s_X6_319 hX hr1 dX6_nameByte_3 (Nat.le_of_ble_eq_true rfl) (ct_X6_noPassenger (d := d + 0) (lst hX) h) (fun r2 w3 z4 h => ?_)
  refine vw_iconst hX (v := 0) dX6_nameByte_6 (by decide) ?_
  refine vw_iconst hX (v := 0) dX6_nameByte_7 (by decide) ?_
  obtain ⟨hr5, h⟩ := h
  refine s_X6_157 hX hr5 dX6_nameByte_8 (Nat.le_of_ble_eq_true rfl) (ct_X6_fails (d := d + 1) (lst hX) h) (fun r6 w7 z8 h => ?_)
  refine vw_if_eq hX (tgt := 16) dX6_nameByte_11 (by decide) (fun c9 => ?_) (fun c9 => ?_)
  · have h := h.1 c9
    refine vw_iload_n hX 2 dX6_nameByte_16 rfl ?_
    refine vw_iconst hX (v := 0) dX6_nameByte_17 (by decide) ?_
    refine vw_aload_n hX 0 dX6_nameByte_18 rfl ?_
    refine vw_iload_n hX 1 dX6_nameByte_19 rfl ?_
    refine vw_bipush hX (v := 6) dX6_nameByte_20 (by decide) ?_
    obtain ⟨hr10, h⟩ := h
    refine s_X6_102 hX hr10 dX6_nameByte_22 (Nat.le_of_ble_eq_true rfl) (ct_X6_ofPassenger (d := d + 1) (lst hX) h) (fun r11 w12 z13 h => ?_)
    refine vw_iconst hX (v := 1) dX6_nameByte_25 (by decide) ?_
    refine vw_isub hX dX6_nameByte_26 ?_
    refine s_X6_77 hX dX6_nameByte_27 (Nat.le_of_ble_eq_true rfl) (ct_X6_isIn (d := d + 1) (lst hX) h) (fun r14 w15 z16 h => ?_)
    refine vw_if_eq hX (tgt := 45) dX6_nameByte_30 (by decide) (fun c17 => ?_) (fun c17 => ?_)
    · have h := h.1 c17
      refine vw_iconst hX (v := (-1)) dX6_nameByte_45 (by decide) ?_
      exact vw_iret hX hE dX6_nameByte_46 ⟨_, rfl, h⟩
    · have h := h.2 c17
      refine vw_aload_n hX 0 dX6_nameByte_33 rfl ?_
      refine vw_iload_n hX 1 dX6_nameByte_34 rfl ?_
      refine vw_bipush hX (v := 7) dX6_nameByte_35 (by decide) ?_
      refine vw_iload_n hX 2 dX6_nameByte_37 rfl ?_
      refine vw_iadd hX dX6_nameByte_38 ?_
      obtain ⟨hr18, h⟩ := h
      refine s_X6_102 hX hr18 dX6_nameByte_39 (Nat.le_of_ble_eq_true rfl) (ct_X6_ofPassenger (d := d + 1) (lst hX) h) (fun r19 w20 z21 h => ?_)
      refine vw_goto hX (tgt := 46) dX6_nameByte_42 (by decide) ?_
      exact vw_iret hX hE dX6_nameByte_46 ⟨_, rfl, h⟩
  · have h := h.2 c9
    refine vw_iconst hX (v := 0) dX6_nameByte_14 (by decide) ?_
    exact vw_iret hX hE dX6_nameByte_15 ⟨_, rfl, h⟩
def B_X6_cheapestKind_22 (a0 : Nat) (a1 : Int32) (a2 : Int32) (Q : Int32 → Mm → Nat → Prop) (y0 : Int32) (y1 : Nat) (w : Mm) (z : Nat) : Prop :=
  isO w y1 10 ∧ F_X6_fails y1 y0 0 0 w z (fun r2 w3 z4 => (r2 = 0 → isO w3 a0 10 ∧ F_X6_zones a0 a1 a2 w3 z4 (fun r7 w8 z9 => (4 < ((jabs ((a2 - a1)))) → Q 0 w8 z9) ∧
  (¬ 4 < ((jabs ((a2 - a1)))) → F_X6_price 2 r7 w8 z9 (fun r11 w12 z13 => F_X6_price 0 r7 w12 z13 (fun r14 w15 z16 => (r14 ≤ r11 → Q 0 w15 z16) ∧
  (¬ r14 ≤ r11 → Q 2 w15 z16)))))) ∧
  (¬ r2 = 0 → Q 0 w3 z4))
set_option maxRecDepth 100000 in
set_option maxHeartbeats 4000000 in
theorem pB_X6_cheapestKind_22 {C : Cx} {d : Nat} {a0 : Nat} {a1 : Int32} {a2 : Int32} {Q : Int32 → Mm → Nat → Prop} {X : String → Mm → Nat → Prop} (hX : CX C cX6_cheapestKind RX6 4 (some .int) [] (d + 2)) (hE : EQ C (rI Q) X) : ∀ (y0 : Int32) (y1 : Nat) (w : Mm) (z mc ms : Nat), B_X6_cheapestKind_22 a0 a1 a2 Q y0 y1 w z → VW C 22 [(0, .ref (a0)), (1, .int (a1)), (2, .int (a2))] [.int (y0), .ref (y1)] w z mc ms := by
  intro y0 y1 w z mc ms h
  unfold B_X6_cheapestKind_22 at h
  refine vw_iconst hX (v := 0) dX6_cheapestKind_22 (by decide) ?_
  refine vw_iconst hX (v := 0) dX6_cheapestKind_23 (by decide) ?_
  obtain ⟨hr1, h⟩ := h
  refine s_X6_157 hX hr1 dX6_cheapestKind_24 (Nat.le_of_ble_eq_true rfl) (ct_X6_fails (d := d + 1) (lst hX) h) (fun r2 w3 z4 h => ?_)
  refine vw_if_eq hX (tgt := 32) dX6_cheapestKind_27 (by decide) (fun c5 => ?_) (fun c5 => ?_)
  · have h := h.1 c5
    refine vw_aload_n hX 0 dX6_cheapestKind_32 rfl ?_
    refine vw_iload_n hX 1 dX6_cheapestKind_33 rfl ?_
    refine vw_iload_n hX 2 dX6_cheapestKind_34 rfl ?_
    obtain ⟨hr6, h⟩ := h
    refine s_X6_119 hX hr6 dX6_cheapestKind_35 (Nat.le_of_ble_eq_true rfl) (ct_X6_zones (d := d + 0) (lst hX) h) (fun r7 w8 z9 h => ?_)
    refine vw_istore_n hX dX6_cheapestKind_38 (by decide) rfl ?_
    refine vw_iload_n hX 3 dX6_cheapestKind_39 rfl ?_
    refine vw_iload_n hX 2 dX6_cheapestKind_40 rfl ?_
    refine vw_isub hX dX6_cheapestKind_41 ?_
    refine vw_mabs hX kw_1717 (Nat.le_of_ble_eq_true rfl) dX6_cheapestKind_42 ?_
    refine vw_iconst hX (v := 4) dX6_cheapestKind_45 (by decide) ?_
    refine vw_icmp_gt hX (tgt := 66) dX6_cheapestKind_46 (by decide) (fun c10 => ?_) (fun c10 => ?_)
    · have h := h.1 c10
      refine vw_iconst hX (v := 0) dX6_cheapestKind_66 (by decide) ?_
      exact vw_iret hX hE dX6_cheapestKind_67 ⟨_, rfl, h⟩
    · have h := h.2 c10
      refine vw_iconst hX (v := 2) dX6_cheapestKind_49 (by decide) ?_
      refine vw_iload_n hX 0 dX6_cheapestKind_50 rfl ?_
      refine s_X6_99 hX dX6_cheapestKind_51 (Nat.le_of_ble_eq_true rfl) (ct_X6_price (d := d + 0) (lst hX) h) (fun r11 w12 z13 h => ?_)
      refine vw_iconst hX (v := 0) dX6_cheapestKind_54 (by decide) ?_
      refine vw_iload_n hX 0 dX6_cheapestKind_55 rfl ?_
      refine s_X6_99 hX dX6_cheapestKind_56 (Nat.le_of_ble_eq_true rfl) (ct_X6_price (d := d + 0) (lst hX) h) (fun r14 w15 z16 h => ?_)
      refine vw_icmp_ge hX (tgt := 66) dX6_cheapestKind_59 (by decide) (fun c17 => ?_) (fun c17 => ?_)
      · have h := h.1 c17
        refine vw_iconst hX (v := 0) dX6_cheapestKind_66 (by decide) ?_
        exact vw_iret hX hE dX6_cheapestKind_67 ⟨_, rfl, h⟩
      · have h := h.2 c17
        refine vw_iconst hX (v := 2) dX6_cheapestKind_62 (by decide) ?_
        refine vw_goto hX (tgt := 67) dX6_cheapestKind_63 (by decide) ?_
        exact vw_iret hX hE dX6_cheapestKind_67 ⟨_, rfl, h⟩
  · have h := h.2 c5
    refine vw_iconst hX (v := 0) dX6_cheapestKind_30 (by decide) ?_
    exact vw_iret hX hE dX6_cheapestKind_31 ⟨_, rfl, h⟩
def B_X6_cheapestKind_17 (a0 : Nat) (a1 : Int32) (a2 : Int32) (Q : Int32 → Mm → Nat → Prop) (y0 : Nat) (w : Mm) (z : Nat) : Prop :=
  B_X6_cheapestKind_22 a0 a1 a2 Q 1 y0 w z
set_option maxRecDepth 100000 in
set_option maxHeartbeats 4000000 in
theorem pB_X6_cheapestKind_17 {C : Cx} {d : Nat} {a0 : Nat} {a1 : Int32} {a2 : Int32} {Q : Int32 → Mm → Nat → Prop} {X : String → Mm → Nat → Prop} (hX : CX C cX6_cheapestKind RX6 4 (some .int) [] (d + 2)) (hE : EQ C (rI Q) X) : ∀ (y0 : Nat) (w : Mm) (z mc ms : Nat), B_X6_cheapestKind_17 a0 a1 a2 Q y0 w z → VW C 17 [(0, .ref (a0)), (1, .int (a1)), (2, .int (a2))] [.ref (y0)] w z mc ms := by
  intro y0 w z mc ms h
  unfold B_X6_cheapestKind_17 at h
  refine vw_iconst hX (v := 1) dX6_cheapestKind_17 (by decide) ?_
  refine vw_goto hX (tgt := 22) dX6_cheapestKind_18 (by decide) ?_
  exact pB_X6_cheapestKind_22 hX hE _ _ _ _ _ _ h
def F_X6_cheapestKind (a0 : Nat) (a1 : Int32) (a2 : Int32) (w : Mm) (z : Nat) (Q : Int32 → Mm → Nat → Prop) : Prop :=
  isO w a0 10 ∧ F_X6_noStop a0 a1 w z (fun r2 w3 z4 => (¬ r2 = 0 → B_X6_cheapestKind_17 a0 a1 a2 Q a0 w3 z4) ∧
  (r2 = 0 → isO w3 a0 10 ∧ F_X6_noStop a0 a2 w3 z4 (fun r7 w8 z9 => (r7 = 0 → B_X6_cheapestKind_22 a0 a1 a2 Q 0 a0 w8 z9) ∧
  (¬ r7 = 0 → B_X6_cheapestKind_17 a0 a1 a2 Q a0 w8 z9))))
set_option maxRecDepth 100000 in
set_option maxHeartbeats 4000000 in
theorem ct_X6_cheapestKind {l : Launch} {g : Gp} {d : Nat} (hst : l.stackTraces = false) {a0 : Nat} {a1 : Int32} {a2 : Int32} {w : Mm} {z mc ms : Nat} {Q : Int32 → Mm → Nat → Prop} {X : String → Mm → Nat → Prop} (h : F_X6_cheapestKind a0 a1 a2 w z Q) : Ct l g yX6_cheapestKind (.code yX6_cheapestKind cX6_cheapestKind 4 (some .int)) (d + 2) mc ms [.ref (a0), .int (a1), .int (a2)] w z (rI Q) X := by
  refine Ct.of hst (by decide) (Nat.le_of_ble_eq_true rfl) (fun C hX hE hg hl hNm => ?_)
  subst hg
  subst hl
  unfold F_X6_cheapestKind at h
  show VW C 0 [(0, .ref (a0)), (1, .int (a1)), (2, .int (a2))] [] w z mc ms
  refine vw_aload_n hX 0 dX6_cheapestKind_0 rfl ?_
  refine vw_aload_n hX 0 dX6_cheapestKind_1 rfl ?_
  refine vw_iload_n hX 1 dX6_cheapestKind_2 rfl ?_
  obtain ⟨hr1, h⟩ := h
  refine s_X6_322 hX hr1 dX6_cheapestKind_3 (Nat.le_of_ble_eq_true rfl) (ct_X6_noStop (d := d + 0) (lst hX) h) (fun r2 w3 z4 h => ?_)
  refine vw_if_ne hX (tgt := 17) dX6_cheapestKind_6 (by decide) (fun c5 => ?_) (fun c5 => ?_)
  · have h := h.1 c5
    exact pB_X6_cheapestKind_17 hX hE _ _ _ _ _ h
  · have h := h.2 c5
    refine vw_aload_n hX 0 dX6_cheapestKind_9 rfl ?_
    refine vw_iload_n hX 2 dX6_cheapestKind_10 rfl ?_
    obtain ⟨hr6, h⟩ := h
    refine s_X6_322 hX hr6 dX6_cheapestKind_11 (Nat.le_of_ble_eq_true rfl) (ct_X6_noStop (d := d + 0) (lst hX) h) (fun r7 w8 z9 h => ?_)
    refine vw_if_eq hX (tgt := 21) dX6_cheapestKind_14 (by decide) (fun c10 => ?_) (fun c10 => ?_)
    · have h := h.1 c10
      refine vw_iconst hX (v := 0) dX6_cheapestKind_21 (by decide) ?_
      exact pB_X6_cheapestKind_22 hX hE _ _ _ _ _ _ h
    · have h := h.2 c10
      exact pB_X6_cheapestKind_17 hX hE _ _ _ _ _ h
def F_X6_toldTicket (a0 : Nat) (a1 : Int32) (a2 : Int32) (w : Mm) (z : Nat) (Q : Int32 → Mm → Nat → Prop) : Prop :=
  isO w a0 10 ∧ F_X6_noTicket a0 a1 w z (fun r2 w3 z4 => isO w3 a0 10 ∧ F_X6_fails a0 r2 0 0 w3 z4 (fun r6 w7 z8 => (r6 = 0 → isO w7 a0 10 ∧ F_X6_ofTicket a0 a1 a2 w7 z8 (fun r11 w12 z13 => Q r11 w12 z13)) ∧
  (¬ r6 = 0 → Q 0 w7 z8)))
set_option maxRecDepth 100000 in
set_option maxHeartbeats 4000000 in
theorem ct_X6_toldTicket {l : Launch} {g : Gp} {d : Nat} (hst : l.stackTraces = false) {a0 : Nat} {a1 : Int32} {a2 : Int32} {w : Mm} {z mc ms : Nat} {Q : Int32 → Mm → Nat → Prop} {X : String → Mm → Nat → Prop} (h : F_X6_toldTicket a0 a1 a2 w z Q) : Ct l g yX6_toldTicket (.code yX6_toldTicket cX6_toldTicket 3 (some .int)) (d + 2) mc ms [.ref (a0), .int (a1), .int (a2)] w z (rI Q) X := by
  refine Ct.of hst (by decide) (Nat.le_of_ble_eq_true rfl) (fun C hX hE hg hl hNm => ?_)
  subst hg
  subst hl
  unfold F_X6_toldTicket at h
  show VW C 0 [(0, .ref (a0)), (1, .int (a1)), (2, .int (a2))] [] w z mc ms
  refine vw_aload_n hX 0 dX6_toldTicket_0 rfl ?_
  refine vw_aload_n hX 0 dX6_toldTicket_1 rfl ?_
  refine vw_iload_n hX 1 dX6_toldTicket_2 rfl ?_
  obtain ⟨hr1, h⟩ := h
  refine s_X6_325 hX hr1 dX6_toldTicket_3 (Nat.le_of_ble_eq_true rfl) (ct_X6_noTicket (d := d + 0) (lst hX) h) (fun r2 w3 z4 h => ?_)
  refine vw_iconst hX (v := 0) dX6_toldTicket_6 (by decide) ?_
  refine vw_iconst hX (v := 0) dX6_toldTicket_7 (by decide) ?_
  obtain ⟨hr5, h⟩ := h
  refine s_X6_157 hX hr5 dX6_toldTicket_8 (Nat.le_of_ble_eq_true rfl) (ct_X6_fails (d := d + 1) (lst hX) h) (fun r6 w7 z8 h => ?_)
  refine vw_if_eq hX (tgt := 18) dX6_toldTicket_11 (by decide) (fun c9 => ?_) (fun c9 => ?_)
  · have h := h.1 c9
    refine vw_aload_n hX 0 dX6_toldTicket_18 rfl ?_
    refine vw_iload_n hX 1 dX6_toldTicket_19 rfl ?_
    refine vw_iload_n hX 2 dX6_toldTicket_20 rfl ?_
    obtain ⟨hr10, h⟩ := h
    refine s_X6_96 hX hr10 dX6_toldTicket_21 (Nat.le_of_ble_eq_true rfl) (ct_X6_ofTicket (d := d + 1) (lst hX) h) (fun r11 w12 z13 h => ?_)
    exact vw_iret hX hE dX6_toldTicket_24 ⟨_, rfl, h⟩
  · have h := h.2 c9
    refine vw_iconst hX (v := 0) dX6_toldTicket_14 (by decide) ?_
    refine vw_goto hX (tgt := 24) dX6_toldTicket_15 (by decide) ?_
    exact vw_iret hX hE dX6_toldTicket_24 ⟨_, rfl, h⟩
def F_X6_ticketHolder (a0 : Nat) (a1 : Int32) (w : Mm) (z : Nat) (Q : Int32 → Mm → Nat → Prop) : Prop :=
  isO w a0 10 ∧ F_X6_toldTicket a0 a1 0 w z (fun r2 w3 z4 => Q r2 w3 z4)
set_option maxRecDepth 100000 in
set_option maxHeartbeats 4000000 in
theorem ct_X6_ticketHolder {l : Launch} {g : Gp} {d : Nat} (hst : l.stackTraces = false) {a0 : Nat} {a1 : Int32} {w : Mm} {z mc ms : Nat} {Q : Int32 → Mm → Nat → Prop} {X : String → Mm → Nat → Prop} (h : F_X6_ticketHolder a0 a1 w z Q) : Ct l g yX6_ticketHolder (.code yX6_ticketHolder cX6_ticketHolder 2 (some .int)) (d + 3) mc ms [.ref (a0), .int (a1)] w z (rI Q) X := by
  refine Ct.of hst (by decide) (Nat.le_of_ble_eq_true rfl) (fun C hX hE hg hl hNm => ?_)
  subst hg
  subst hl
  unfold F_X6_ticketHolder at h
  show VW C 0 [(0, .ref (a0)), (1, .int (a1))] [] w z mc ms
  refine vw_aload_n hX 0 dX6_ticketHolder_0 rfl ?_
  refine vw_iload_n hX 1 dX6_ticketHolder_1 rfl ?_
  refine vw_iconst hX (v := 0) dX6_ticketHolder_2 (by decide) ?_
  obtain ⟨hr1, h⟩ := h
  refine s_X6_334 hX hr1 dX6_ticketHolder_3 (Nat.le_of_ble_eq_true rfl) (ct_X6_toldTicket (d := d + 0) (lst hX) h) (fun r2 w3 z4 h => ?_)
  exact vw_iret hX hE dX6_ticketHolder_6 ⟨_, rfl, h⟩
def F_X6_ticketKind (a0 : Nat) (a1 : Int32) (w : Mm) (z : Nat) (Q : Int32 → Mm → Nat → Prop) : Prop :=
  isO w a0 10 ∧ F_X6_toldTicket a0 a1 1 w z (fun r2 w3 z4 => Q r2 w3 z4)
set_option maxRecDepth 100000 in
set_option maxHeartbeats 4000000 in
theorem ct_X6_ticketKind {l : Launch} {g : Gp} {d : Nat} (hst : l.stackTraces = false) {a0 : Nat} {a1 : Int32} {w : Mm} {z mc ms : Nat} {Q : Int32 → Mm → Nat → Prop} {X : String → Mm → Nat → Prop} (h : F_X6_ticketKind a0 a1 w z Q) : Ct l g yX6_ticketKind (.code yX6_ticketKind cX6_ticketKind 2 (some .int)) (d + 3) mc ms [.ref (a0), .int (a1)] w z (rI Q) X := by
  refine Ct.of hst (by decide) (Nat.le_of_ble_eq_true rfl) (fun C hX hE hg hl hNm => ?_)
  subst hg
  subst hl
  unfold F_X6_ticketKind at h
  show VW C 0 [(0, .ref (a0)), (1, .int (a1))] [] w z mc ms
  refine vw_aload_n hX 0 dX6_ticketKind_0 rfl ?_
  refine vw_iload_n hX 1 dX6_ticketKind_1 rfl ?_
  refine vw_iconst hX (v := 1) dX6_ticketKind_2 (by decide) ?_
  obtain ⟨hr1, h⟩ := h
  refine s_X6_334 hX hr1 dX6_ticketKind_3 (Nat.le_of_ble_eq_true rfl) (ct_X6_toldTicket (d := d + 0) (lst hX) h) (fun r2 w3 z4 h => ?_)
  exact vw_iret hX hE dX6_ticketKind_6 ⟨_, rfl, h⟩
def F_X6_ticketZones (a0 : Nat) (a1 : Int32) (w : Mm) (z : Nat) (Q : Int32 → Mm → Nat → Prop) : Prop :=
  isO w a0 10 ∧ F_X6_toldTicket a0 a1 2 w z (fun r2 w3 z4 => Q r2 w3 z4)
set_option maxRecDepth 100000 in
set_option maxHeartbeats 4000000 in
theorem ct_X6_ticketZones {l : Launch} {g : Gp} {d : Nat} (hst : l.stackTraces = false) {a0 : Nat} {a1 : Int32} {w : Mm} {z mc ms : Nat} {Q : Int32 → Mm → Nat → Prop} {X : String → Mm → Nat → Prop} (h : F_X6_ticketZones a0 a1 w z Q) : Ct l g yX6_ticketZones (.code yX6_ticketZones cX6_ticketZones 2 (some .int)) (d + 3) mc ms [.ref (a0), .int (a1)] w z (rI Q) X := by
  refine Ct.of hst (by decide) (Nat.le_of_ble_eq_true rfl) (fun C hX hE hg hl hNm => ?_)
  subst hg
  subst hl
  unfold F_X6_ticketZones at h
  show VW C 0 [(0, .ref (a0)), (1, .int (a1))] [] w z mc ms
  refine vw_aload_n hX 0 dX6_ticketZones_0 rfl ?_
  refine vw_iload_n hX 1 dX6_ticketZones_1 rfl ?_
  refine vw_iconst hX (v := 2) dX6_ticketZones_2 (by decide) ?_
  obtain ⟨hr1, h⟩ := h
  refine s_X6_334 hX hr1 dX6_ticketZones_3 (Nat.le_of_ble_eq_true rfl) (ct_X6_toldTicket (d := d + 0) (lst hX) h) (fun r2 w3 z4 h => ?_)
  exact vw_iret hX hE dX6_ticketZones_6 ⟨_, rfl, h⟩
def F_X6_ticketPrice (a0 : Nat) (a1 : Int32) (w : Mm) (z : Nat) (Q : Int32 → Mm → Nat → Prop) : Prop :=
  isO w a0 10 ∧ F_X6_noTicket a0 a1 w z (fun r2 w3 z4 => isO w3 a0 10 ∧ F_X6_fails a0 r2 0 0 w3 z4 (fun r6 w7 z8 => (r6 = 0 → isO w7 a0 10 ∧ F_X6_ofTicket a0 a1 1 w7 z8 (fun r11 w12 z13 => isO w12 a0 10 ∧ F_X6_ofTicket a0 a1 2 w12 z13 (fun r15 w16 z17 => F_X6_price r11 r15 w16 z17 (fun r18 w19 z20 => Q r18 w19 z20)))) ∧
  (¬ r6 = 0 → Q 0 w7 z8)))
set_option maxRecDepth 100000 in
set_option maxHeartbeats 4000000 in
theorem ct_X6_ticketPrice {l : Launch} {g : Gp} {d : Nat} (hst : l.stackTraces = false) {a0 : Nat} {a1 : Int32} {w : Mm} {z mc ms : Nat} {Q : Int32 → Mm → Nat → Prop} {X : String → Mm → Nat → Prop} (h : F_X6_ticketPrice a0 a1 w z Q) : Ct l g yX6_ticketPrice (.code yX6_ticketPrice cX6_ticketPrice 2 (some .int)) (d + 2) mc ms [.ref (a0), .int (a1)] w z (rI Q) X := by
  refine Ct.of hst (by decide) (Nat.le_of_ble_eq_true rfl) (fun C hX hE hg hl hNm => ?_)
  subst hg
  subst hl
  unfold F_X6_ticketPrice at h
  show VW C 0 [(0, .ref (a0)), (1, .int (a1))] [] w z mc ms
  refine vw_aload_n hX 0 dX6_ticketPrice_0 rfl ?_
  refine vw_aload_n hX 0 dX6_ticketPrice_1 rfl ?_
  refine vw_iload_n hX 1 dX6_ticketPrice_2 rfl ?_
  obtain ⟨hr1, h⟩ := h
  refine s_X6_325 hX hr1 dX6_ticketPrice_3 (Nat.le_of_ble_eq_true rfl) (ct_X6_noTicket (d := d + 0) (lst hX) h) (fun r2 w3 z4 h => ?_)
  refine vw_iconst hX (v := 0) dX6_ticketPrice_6 (by decide) ?_
  refine vw_iconst hX (v := 0) dX6_ticketPrice_7 (by decide) ?_
  obtain ⟨hr5, h⟩ := h
  refine s_X6_157 hX hr5 dX6_ticketPrice_8 (Nat.le_of_ble_eq_true rfl) (ct_X6_fails (d := d + 1) (lst hX) h) (fun r6 w7 z8 h => ?_)
  refine vw_if_eq hX (tgt := 18) dX6_ticketPrice_11 (by decide) (fun c9 => ?_) (fun c9 => ?_)
  · have h := h.1 c9
    refine vw_aload_n hX 0 dX6_ticketPrice_18 rfl ?_
    refine vw_iload_n hX 1 dX6_ticketPrice_19 rfl ?_
    refine vw_iconst hX (v := 1) dX6_ticketPrice_20 (by decide) ?_
    obtain ⟨hr10, h⟩ := h
    refine s_X6_96 hX hr10 dX6_ticketPrice_21 (Nat.le_of_ble_eq_true rfl) (ct_X6_ofTicket (d := d + 1) (lst hX) h) (fun r11 w12 z13 h => ?_)
    refine vw_aload_n hX 0 dX6_ticketPrice_24 rfl ?_
    refine vw_iload_n hX 1 dX6_ticketPrice_25 rfl ?_
    refine vw_iconst hX (v := 2) dX6_ticketPrice_26 (by decide) ?_
    obtain ⟨hr14, h⟩ := h
    refine s_X6_96 hX hr14 dX6_ticketPrice_27 (Nat.le_of_ble_eq_true rfl) (ct_X6_ofTicket (d := d + 1) (lst hX) h) (fun r15 w16 z17 h => ?_)
    refine s_X6_99 hX dX6_ticketPrice_30 (Nat.le_of_ble_eq_true rfl) (ct_X6_price (d := d + 0) (lst hX) h) (fun r18 w19 z20 h => ?_)
    exact vw_iret hX hE dX6_ticketPrice_33 ⟨_, rfl, h⟩
  · have h := h.2 c9
    refine vw_iconst hX (v := 0) dX6_ticketPrice_14 (by decide) ?_
    refine vw_goto hX (tgt := 33) dX6_ticketPrice_15 (by decide) ?_
    exact vw_iret hX hE dX6_ticketPrice_33 ⟨_, rfl, h⟩
def F_X6_stampTime (a0 : Nat) (a1 : Int32) (w : Mm) (z : Nat) (Q : Int32 → Mm → Nat → Prop) : Prop :=
  isO w a0 10 ∧ F_X6_toldTicket a0 a1 3 w z (fun r2 w3 z4 => Q r2 w3 z4)
set_option maxRecDepth 100000 in
set_option maxHeartbeats 4000000 in
theorem ct_X6_stampTime {l : Launch} {g : Gp} {d : Nat} (hst : l.stackTraces = false) {a0 : Nat} {a1 : Int32} {w : Mm} {z mc ms : Nat} {Q : Int32 → Mm → Nat → Prop} {X : String → Mm → Nat → Prop} (h : F_X6_stampTime a0 a1 w z Q) : Ct l g yX6_stampTime (.code yX6_stampTime cX6_stampTime 2 (some .int)) (d + 3) mc ms [.ref (a0), .int (a1)] w z (rI Q) X := by
  refine Ct.of hst (by decide) (Nat.le_of_ble_eq_true rfl) (fun C hX hE hg hl hNm => ?_)
  subst hg
  subst hl
  unfold F_X6_stampTime at h
  show VW C 0 [(0, .ref (a0)), (1, .int (a1))] [] w z mc ms
  refine vw_aload_n hX 0 dX6_stampTime_0 rfl ?_
  refine vw_iload_n hX 1 dX6_stampTime_1 rfl ?_
  refine vw_iconst hX (v := 3) dX6_stampTime_2 (by decide) ?_
  obtain ⟨hr1, h⟩ := h
  refine s_X6_334 hX hr1 dX6_stampTime_3 (Nat.le_of_ble_eq_true rfl) (ct_X6_toldTicket (d := d + 0) (lst hX) h) (fun r2 w3 z4 h => ?_)
  exact vw_iret hX hE dX6_stampTime_6 ⟨_, rfl, h⟩
def F_X6_stampStop (a0 : Nat) (a1 : Int32) (w : Mm) (z : Nat) (Q : Int32 → Mm → Nat → Prop) : Prop :=
  isO w a0 10 ∧ F_X6_toldTicket a0 a1 4 w z (fun r2 w3 z4 => Q r2 w3 z4)
set_option maxRecDepth 100000 in
set_option maxHeartbeats 4000000 in
theorem ct_X6_stampStop {l : Launch} {g : Gp} {d : Nat} (hst : l.stackTraces = false) {a0 : Nat} {a1 : Int32} {w : Mm} {z mc ms : Nat} {Q : Int32 → Mm → Nat → Prop} {X : String → Mm → Nat → Prop} (h : F_X6_stampStop a0 a1 w z Q) : Ct l g yX6_stampStop (.code yX6_stampStop cX6_stampStop 2 (some .int)) (d + 3) mc ms [.ref (a0), .int (a1)] w z (rI Q) X := by
  refine Ct.of hst (by decide) (Nat.le_of_ble_eq_true rfl) (fun C hX hE hg hl hNm => ?_)
  subst hg
  subst hl
  unfold F_X6_stampStop at h
  show VW C 0 [(0, .ref (a0)), (1, .int (a1))] [] w z mc ms
  refine vw_aload_n hX 0 dX6_stampStop_0 rfl ?_
  refine vw_iload_n hX 1 dX6_stampStop_1 rfl ?_
  refine vw_iconst hX (v := 4) dX6_stampStop_2 (by decide) ?_
  obtain ⟨hr1, h⟩ := h
  refine s_X6_334 hX hr1 dX6_stampStop_3 (Nat.le_of_ble_eq_true rfl) (ct_X6_toldTicket (d := d + 0) (lst hX) h) (fun r2 w3 z4 h => ?_)
  exact vw_iret hX hE dX6_stampStop_6 ⟨_, rfl, h⟩
def F_X6_ticketRides (a0 : Nat) (a1 : Int32) (w : Mm) (z : Nat) (Q : Int32 → Mm → Nat → Prop) : Prop :=
  isO w a0 10 ∧ F_X6_toldTicket a0 a1 5 w z (fun r2 w3 z4 => Q r2 w3 z4)
set_option maxRecDepth 100000 in
set_option maxHeartbeats 4000000 in
theorem ct_X6_ticketRides {l : Launch} {g : Gp} {d : Nat} (hst : l.stackTraces = false) {a0 : Nat} {a1 : Int32} {w : Mm} {z mc ms : Nat} {Q : Int32 → Mm → Nat → Prop} {X : String → Mm → Nat → Prop} (h : F_X6_ticketRides a0 a1 w z Q) : Ct l g yX6_ticketRides (.code yX6_ticketRides cX6_ticketRides 2 (some .int)) (d + 3) mc ms [.ref (a0), .int (a1)] w z (rI Q) X := by
  refine Ct.of hst (by decide) (Nat.le_of_ble_eq_true rfl) (fun C hX hE hg hl hNm => ?_)
  subst hg
  subst hl
  unfold F_X6_ticketRides at h
  show VW C 0 [(0, .ref (a0)), (1, .int (a1))] [] w z mc ms
  refine vw_aload_n hX 0 dX6_ticketRides_0 rfl ?_
  refine vw_iload_n hX 1 dX6_ticketRides_1 rfl ?_
  refine vw_iconst hX (v := 5) dX6_ticketRides_2 (by decide) ?_
  obtain ⟨hr1, h⟩ := h
  refine s_X6_334 hX hr1 dX6_ticketRides_3 (Nat.le_of_ble_eq_true rfl) (ct_X6_toldTicket (d := d + 0) (lst hX) h) (fun r2 w3 z4 h => ?_)
  exact vw_iret hX hE dX6_ticketRides_6 ⟨_, rfl, h⟩
def F_X6_isInTime (a0 : Nat) (a1 : Int32) (w : Mm) (z : Nat) (Q : Int32 → Mm → Nat → Prop) : Prop :=
  isO w a0 10 ∧ F_X6_noTicket a0 a1 w z (fun r2 w3 z4 => isO w3 a0 10 ∧ F_X6_fails a0 r2 0 0 w3 z4 (fun r6 w7 z8 => (¬ r6 = 0 → Q 0 w7 z8) ∧
  (r6 = 0 → isO w7 a0 10 ∧ F_X6_inTime a0 a1 w7 z8 (fun r11 w12 z13 => (r11 = 0 → Q 0 w12 z13) ∧
  (¬ r11 = 0 → Q 1 w12 z13)))))
set_option maxRecDepth 100000 in
set_option maxHeartbeats 4000000 in
theorem ct_X6_isInTime {l : Launch} {g : Gp} {d : Nat} (hst : l.stackTraces = false) {a0 : Nat} {a1 : Int32} {w : Mm} {z mc ms : Nat} {Q : Int32 → Mm → Nat → Prop} {X : String → Mm → Nat → Prop} (h : F_X6_isInTime a0 a1 w z Q) : Ct l g yX6_isInTime (.code yX6_isInTime cX6_isInTime 2 (some .boolean)) (d + 2) mc ms [.ref (a0), .int (a1)] w z (rI Q) X := by
  refine Ct.of hst (by decide) (Nat.le_of_ble_eq_true rfl) (fun C hX hE hg hl hNm => ?_)
  subst hg
  subst hl
  unfold F_X6_isInTime at h
  show VW C 0 [(0, .ref (a0)), (1, .int (a1))] [] w z mc ms
  refine vw_aload_n hX 0 dX6_isInTime_0 rfl ?_
  refine vw_aload_n hX 0 dX6_isInTime_1 rfl ?_
  refine vw_iload_n hX 1 dX6_isInTime_2 rfl ?_
  obtain ⟨hr1, h⟩ := h
  refine s_X6_325 hX hr1 dX6_isInTime_3 (Nat.le_of_ble_eq_true rfl) (ct_X6_noTicket (d := d + 0) (lst hX) h) (fun r2 w3 z4 h => ?_)
  refine vw_iconst hX (v := 0) dX6_isInTime_6 (by decide) ?_
  refine vw_iconst hX (v := 0) dX6_isInTime_7 (by decide) ?_
  obtain ⟨hr5, h⟩ := h
  refine s_X6_157 hX hr5 dX6_isInTime_8 (Nat.le_of_ble_eq_true rfl) (ct_X6_fails (d := d + 1) (lst hX) h) (fun r6 w7 z8 h => ?_)
  refine vw_if_ne hX (tgt := 26) dX6_isInTime_11 (by decide) (fun c9 => ?_) (fun c9 => ?_)
  · have h := h.1 c9
    refine vw_iconst hX (v := 0) dX6_isInTime_26 (by decide) ?_
    exact vw_zret hX hE dX6_isInTime_27 rfl ⟨_, rfl, h⟩
  · have h := h.2 c9
    refine vw_aload_n hX 0 dX6_isInTime_14 rfl ?_
    refine vw_iload_n hX 1 dX6_isInTime_15 rfl ?_
    obtain ⟨hr10, h⟩ := h
    refine s_X6_122 hX hr10 dX6_isInTime_16 (Nat.le_of_ble_eq_true rfl) (ct_X6_inTime (d := d + 0) (lst hX) h) (fun r11 w12 z13 h => ?_)
    refine vw_if_eq hX (tgt := 26) dX6_isInTime_19 (by decide) (fun c14 => ?_) (fun c14 => ?_)
    · have h := h.1 c14
      refine vw_iconst hX (v := 0) dX6_isInTime_26 (by decide) ?_
      exact vw_zret hX hE dX6_isInTime_27 rfl ⟨_, rfl, h⟩
    · have h := h.2 c14
      refine vw_iconst hX (v := 1) dX6_isInTime_22 (by decide) ?_
      refine vw_goto hX (tgt := 27) dX6_isInTime_23 (by decide) ?_
      exact vw_zret hX hE dX6_isInTime_27 rfl ⟨_, rfl, h⟩
def F_X6_toldCase (a0 : Nat) (a1 : Int32) (a2 : Int32) (w : Mm) (z : Nat) (Q : Int32 → Mm → Nat → Prop) : Prop :=
  isO w a0 10 ∧ F_X6_noCase a0 a1 w z (fun r2 w3 z4 => isO w3 a0 10 ∧ F_X6_fails a0 r2 0 0 w3 z4 (fun r6 w7 z8 => (r6 = 0 → isO w7 a0 10 ∧ F_X6_ofCase a0 a1 a2 w7 z8 (fun r11 w12 z13 => Q r11 w12 z13)) ∧
  (¬ r6 = 0 → Q 0 w7 z8)))
set_option maxRecDepth 100000 in
set_option maxHeartbeats 4000000 in
theorem ct_X6_toldCase {l : Launch} {g : Gp} {d : Nat} (hst : l.stackTraces = false) {a0 : Nat} {a1 : Int32} {a2 : Int32} {w : Mm} {z mc ms : Nat} {Q : Int32 → Mm → Nat → Prop} {X : String → Mm → Nat → Prop} (h : F_X6_toldCase a0 a1 a2 w z Q) : Ct l g yX6_toldCase (.code yX6_toldCase cX6_toldCase 3 (some .int)) (d + 2) mc ms [.ref (a0), .int (a1), .int (a2)] w z (rI Q) X := by
  refine Ct.of hst (by decide) (Nat.le_of_ble_eq_true rfl) (fun C hX hE hg hl hNm => ?_)
  subst hg
  subst hl
  unfold F_X6_toldCase at h
  show VW C 0 [(0, .ref (a0)), (1, .int (a1)), (2, .int (a2))] [] w z mc ms
  refine vw_aload_n hX 0 dX6_toldCase_0 rfl ?_
  refine vw_aload_n hX 0 dX6_toldCase_1 rfl ?_
  refine vw_iload_n hX 1 dX6_toldCase_2 rfl ?_
  obtain ⟨hr1, h⟩ := h
  refine s_X6_328 hX hr1 dX6_toldCase_3 (Nat.le_of_ble_eq_true rfl) (ct_X6_noCase (d := d + 0) (lst hX) h) (fun r2 w3 z4 h => ?_)
  refine vw_iconst hX (v := 0) dX6_toldCase_6 (by decide) ?_
  refine vw_iconst hX (v := 0) dX6_toldCase_7 (by decide) ?_
  obtain ⟨hr5, h⟩ := h
  refine s_X6_157 hX hr5 dX6_toldCase_8 (Nat.le_of_ble_eq_true rfl) (ct_X6_fails (d := d + 1) (lst hX) h) (fun r6 w7 z8 h => ?_)
  refine vw_if_eq hX (tgt := 18) dX6_toldCase_11 (by decide) (fun c9 => ?_) (fun c9 => ?_)
  · have h := h.1 c9
    refine vw_aload_n hX 0 dX6_toldCase_18 rfl ?_
    refine vw_iload_n hX 1 dX6_toldCase_19 rfl ?_
    refine vw_iload_n hX 2 dX6_toldCase_20 rfl ?_
    obtain ⟨hr10, h⟩ := h
    refine s_X6_138 hX hr10 dX6_toldCase_21 (Nat.le_of_ble_eq_true rfl) (ct_X6_ofCase (d := d + 1) (lst hX) h) (fun r11 w12 z13 h => ?_)
    exact vw_iret hX hE dX6_toldCase_24 ⟨_, rfl, h⟩
  · have h := h.2 c9
    refine vw_iconst hX (v := 0) dX6_toldCase_14 (by decide) ?_
    refine vw_goto hX (tgt := 24) dX6_toldCase_15 (by decide) ?_
    exact vw_iret hX hE dX6_toldCase_24 ⟨_, rfl, h⟩
def F_X6_casePassenger (a0 : Nat) (a1 : Int32) (w : Mm) (z : Nat) (Q : Int32 → Mm → Nat → Prop) : Prop :=
  isO w a0 10 ∧ F_X6_toldCase a0 a1 0 w z (fun r2 w3 z4 => Q r2 w3 z4)
set_option maxRecDepth 100000 in
set_option maxHeartbeats 4000000 in
theorem ct_X6_casePassenger {l : Launch} {g : Gp} {d : Nat} (hst : l.stackTraces = false) {a0 : Nat} {a1 : Int32} {w : Mm} {z mc ms : Nat} {Q : Int32 → Mm → Nat → Prop} {X : String → Mm → Nat → Prop} (h : F_X6_casePassenger a0 a1 w z Q) : Ct l g yX6_casePassenger (.code yX6_casePassenger cX6_casePassenger 2 (some .int)) (d + 3) mc ms [.ref (a0), .int (a1)] w z (rI Q) X := by
  refine Ct.of hst (by decide) (Nat.le_of_ble_eq_true rfl) (fun C hX hE hg hl hNm => ?_)
  subst hg
  subst hl
  unfold F_X6_casePassenger at h
  show VW C 0 [(0, .ref (a0)), (1, .int (a1))] [] w z mc ms
  refine vw_aload_n hX 0 dX6_casePassenger_0 rfl ?_
  refine vw_iload_n hX 1 dX6_casePassenger_1 rfl ?_
  refine vw_iconst hX (v := 0) dX6_casePassenger_2 (by decide) ?_
  obtain ⟨hr1, h⟩ := h
  refine s_X6_337 hX hr1 dX6_casePassenger_3 (Nat.le_of_ble_eq_true rfl) (ct_X6_toldCase (d := d + 0) (lst hX) h) (fun r2 w3 z4 h => ?_)
  exact vw_iret hX hE dX6_casePassenger_6 ⟨_, rfl, h⟩
def F_X6_caseFault (a0 : Nat) (a1 : Int32) (w : Mm) (z : Nat) (Q : Int32 → Mm → Nat → Prop) : Prop :=
  isO w a0 10 ∧ F_X6_toldCase a0 a1 1 w z (fun r2 w3 z4 => Q r2 w3 z4)
set_option maxRecDepth 100000 in
set_option maxHeartbeats 4000000 in
theorem ct_X6_caseFault {l : Launch} {g : Gp} {d : Nat} (hst : l.stackTraces = false) {a0 : Nat} {a1 : Int32} {w : Mm} {z mc ms : Nat} {Q : Int32 → Mm → Nat → Prop} {X : String → Mm → Nat → Prop} (h : F_X6_caseFault a0 a1 w z Q) : Ct l g yX6_caseFault (.code yX6_caseFault cX6_caseFault 2 (some .int)) (d + 3) mc ms [.ref (a0), .int (a1)] w z (rI Q) X := by
  refine Ct.of hst (by decide) (Nat.le_of_ble_eq_true rfl) (fun C hX hE hg hl hNm => ?_)
  subst hg
  subst hl
  unfold F_X6_caseFault at h
  show VW C 0 [(0, .ref (a0)), (1, .int (a1))] [] w z mc ms
  refine vw_aload_n hX 0 dX6_caseFault_0 rfl ?_
  refine vw_iload_n hX 1 dX6_caseFault_1 rfl ?_
  refine vw_iconst hX (v := 1) dX6_caseFault_2 (by decide) ?_
  obtain ⟨hr1, h⟩ := h
  refine s_X6_337 hX hr1 dX6_caseFault_3 (Nat.le_of_ble_eq_true rfl) (ct_X6_toldCase (d := d + 0) (lst hX) h) (fun r2 w3 z4 h => ?_)
  exact vw_iret hX hE dX6_caseFault_6 ⟨_, rfl, h⟩
def F_X6_caseState (a0 : Nat) (a1 : Int32) (w : Mm) (z : Nat) (Q : Int32 → Mm → Nat → Prop) : Prop :=
  isO w a0 10 ∧ F_X6_toldCase a0 a1 2 w z (fun r2 w3 z4 => Q r2 w3 z4)
set_option maxRecDepth 100000 in
set_option maxHeartbeats 4000000 in
theorem ct_X6_caseState {l : Launch} {g : Gp} {d : Nat} (hst : l.stackTraces = false) {a0 : Nat} {a1 : Int32} {w : Mm} {z mc ms : Nat} {Q : Int32 → Mm → Nat → Prop} {X : String → Mm → Nat → Prop} (h : F_X6_caseState a0 a1 w z Q) : Ct l g yX6_caseState (.code yX6_caseState cX6_caseState 2 (some .int)) (d + 3) mc ms [.ref (a0), .int (a1)] w z (rI Q) X := by
  refine Ct.of hst (by decide) (Nat.le_of_ble_eq_true rfl) (fun C hX hE hg hl hNm => ?_)
  subst hg
  subst hl
  unfold F_X6_caseState at h
  show VW C 0 [(0, .ref (a0)), (1, .int (a1))] [] w z mc ms
  refine vw_aload_n hX 0 dX6_caseState_0 rfl ?_
  refine vw_iload_n hX 1 dX6_caseState_1 rfl ?_
  refine vw_iconst hX (v := 2) dX6_caseState_2 (by decide) ?_
  obtain ⟨hr1, h⟩ := h
  refine s_X6_337 hX hr1 dX6_caseState_3 (Nat.le_of_ble_eq_true rfl) (ct_X6_toldCase (d := d + 0) (lst hX) h) (fun r2 w3 z4 h => ?_)
  exact vw_iret hX hE dX6_caseState_6 ⟨_, rfl, h⟩
def F_X6_caseTime (a0 : Nat) (a1 : Int32) (w : Mm) (z : Nat) (Q : Int32 → Mm → Nat → Prop) : Prop :=
  isO w a0 10 ∧ F_X6_toldCase a0 a1 3 w z (fun r2 w3 z4 => Q r2 w3 z4)
set_option maxRecDepth 100000 in
set_option maxHeartbeats 4000000 in
theorem ct_X6_caseTime {l : Launch} {g : Gp} {d : Nat} (hst : l.stackTraces = false) {a0 : Nat} {a1 : Int32} {w : Mm} {z mc ms : Nat} {Q : Int32 → Mm → Nat → Prop} {X : String → Mm → Nat → Prop} (h : F_X6_caseTime a0 a1 w z Q) : Ct l g yX6_caseTime (.code yX6_caseTime cX6_caseTime 2 (some .int)) (d + 3) mc ms [.ref (a0), .int (a1)] w z (rI Q) X := by
  refine Ct.of hst (by decide) (Nat.le_of_ble_eq_true rfl) (fun C hX hE hg hl hNm => ?_)
  subst hg
  subst hl
  unfold F_X6_caseTime at h
  show VW C 0 [(0, .ref (a0)), (1, .int (a1))] [] w z mc ms
  refine vw_aload_n hX 0 dX6_caseTime_0 rfl ?_
  refine vw_iload_n hX 1 dX6_caseTime_1 rfl ?_
  refine vw_iconst hX (v := 3) dX6_caseTime_2 (by decide) ?_
  obtain ⟨hr1, h⟩ := h
  refine s_X6_337 hX hr1 dX6_caseTime_3 (Nat.le_of_ble_eq_true rfl) (ct_X6_toldCase (d := d + 0) (lst hX) h) (fun r2 w3 z4 h => ?_)
  exact vw_iret hX hE dX6_caseTime_6 ⟨_, rfl, h⟩
def F_X6_amountDue (a0 : Nat) (a1 : Int32) (w : Mm) (z : Nat) (Q : Int32 → Mm → Nat → Prop) : Prop :=
  isO w a0 10 ∧ F_X6_noCase a0 a1 w z (fun r2 w3 z4 => isO w3 a0 10 ∧ F_X6_fails a0 r2 0 0 w3 z4 (fun r6 w7 z8 => (r6 = 0 → isO w7 a0 10 ∧ F_X6_due a0 a1 w7 z8 (fun r11 w12 z13 => Q r11 w12 z13)) ∧
  (¬ r6 = 0 → Q 0 w7 z8)))
set_option maxRecDepth 100000 in
set_option maxHeartbeats 4000000 in
theorem ct_X6_amountDue {l : Launch} {g : Gp} {d : Nat} (hst : l.stackTraces = false) {a0 : Nat} {a1 : Int32} {w : Mm} {z mc ms : Nat} {Q : Int32 → Mm → Nat → Prop} {X : String → Mm → Nat → Prop} (h : F_X6_amountDue a0 a1 w z Q) : Ct l g yX6_amountDue (.code yX6_amountDue cX6_amountDue 2 (some .int)) (d + 3) mc ms [.ref (a0), .int (a1)] w z (rI Q) X := by
  refine Ct.of hst (by decide) (Nat.le_of_ble_eq_true rfl) (fun C hX hE hg hl hNm => ?_)
  subst hg
  subst hl
  unfold F_X6_amountDue at h
  show VW C 0 [(0, .ref (a0)), (1, .int (a1))] [] w z mc ms
  refine vw_aload_n hX 0 dX6_amountDue_0 rfl ?_
  refine vw_aload_n hX 0 dX6_amountDue_1 rfl ?_
  refine vw_iload_n hX 1 dX6_amountDue_2 rfl ?_
  obtain ⟨hr1, h⟩ := h
  refine s_X6_328 hX hr1 dX6_amountDue_3 (Nat.le_of_ble_eq_true rfl) (ct_X6_noCase (d := d + 1) (lst hX) h) (fun r2 w3 z4 h => ?_)
  refine vw_iconst hX (v := 0) dX6_amountDue_6 (by decide) ?_
  refine vw_iconst hX (v := 0) dX6_amountDue_7 (by decide) ?_
  obtain ⟨hr5, h⟩ := h
  refine s_X6_157 hX hr5 dX6_amountDue_8 (Nat.le_of_ble_eq_true rfl) (ct_X6_fails (d := d + 2) (lst hX) h) (fun r6 w7 z8 h => ?_)
  refine vw_if_eq hX (tgt := 18) dX6_amountDue_11 (by decide) (fun c9 => ?_) (fun c9 => ?_)
  · have h := h.1 c9
    refine vw_aload_n hX 0 dX6_amountDue_18 rfl ?_
    refine vw_iload_n hX 1 dX6_amountDue_19 rfl ?_
    obtain ⟨hr10, h⟩ := h
    refine s_X6_147 hX hr10 dX6_amountDue_20 (Nat.le_of_ble_eq_true rfl) (ct_X6_due (d := d + 0) (lst hX) h) (fun r11 w12 z13 h => ?_)
    exact vw_iret hX hE dX6_amountDue_23 ⟨_, rfl, h⟩
  · have h := h.2 c9
    refine vw_iconst hX (v := 0) dX6_amountDue_14 (by decide) ?_
    refine vw_goto hX (tgt := 23) dX6_amountDue_15 (by decide) ?_
    exact vw_iret hX hE dX6_amountDue_23 ⟨_, rfl, h⟩
def F_X6_caseTicket (a0 : Nat) (a1 : Int32) (w : Mm) (z : Nat) (Q : Int32 → Mm → Nat → Prop) : Prop :=
  isO w a0 10 ∧ F_X6_toldCase a0 a1 5 w z (fun r2 w3 z4 => Q r2 w3 z4)
set_option maxRecDepth 100000 in
set_option maxHeartbeats 4000000 in
theorem ct_X6_caseTicket {l : Launch} {g : Gp} {d : Nat} (hst : l.stackTraces = false) {a0 : Nat} {a1 : Int32} {w : Mm} {z mc ms : Nat} {Q : Int32 → Mm → Nat → Prop} {X : String → Mm → Nat → Prop} (h : F_X6_caseTicket a0 a1 w z Q) : Ct l g yX6_caseTicket (.code yX6_caseTicket cX6_caseTicket 2 (some .int)) (d + 3) mc ms [.ref (a0), .int (a1)] w z (rI Q) X := by
  refine Ct.of hst (by decide) (Nat.le_of_ble_eq_true rfl) (fun C hX hE hg hl hNm => ?_)
  subst hg
  subst hl
  unfold F_X6_caseTicket at h
  show VW C 0 [(0, .ref (a0)), (1, .int (a1))] [] w z mc ms
  refine vw_aload_n hX 0 dX6_caseTicket_0 rfl ?_
  refine vw_iload_n hX 1 dX6_caseTicket_1 rfl ?_
  refine vw_iconst hX (v := 5) dX6_caseTicket_2 (by decide) ?_
  obtain ⟨hr1, h⟩ := h
  refine s_X6_337 hX hr1 dX6_caseTicket_3 (Nat.le_of_ble_eq_true rfl) (ct_X6_toldCase (d := d + 0) (lst hX) h) (fun r2 w3 z4 h => ?_)
  exact vw_iret hX hE dX6_caseTicket_6 ⟨_, rfl, h⟩
def F_X6_isOverdue (a0 : Nat) (a1 : Int32) (w : Mm) (z : Nat) (Q : Int32 → Mm → Nat → Prop) : Prop :=
  isO w a0 10 ∧ F_X6_noCase a0 a1 w z (fun r2 w3 z4 => isO w3 a0 10 ∧ F_X6_fails a0 r2 0 0 w3 z4 (fun r6 w7 z8 => (¬ r6 = 0 → Q 0 w7 z8) ∧
  (r6 = 0 → isO w7 a0 10 ∧ F_X6_isLate a0 a1 w7 z8 (fun r11 w12 z13 => (r11 = 0 → Q 0 w12 z13) ∧
  (¬ r11 = 0 → Q 1 w12 z13)))))
set_option maxRecDepth 100000 in
set_option maxHeartbeats 4000000 in
theorem ct_X6_isOverdue {l : Launch} {g : Gp} {d : Nat} (hst : l.stackTraces = false) {a0 : Nat} {a1 : Int32} {w : Mm} {z mc ms : Nat} {Q : Int32 → Mm → Nat → Prop} {X : String → Mm → Nat → Prop} (h : F_X6_isOverdue a0 a1 w z Q) : Ct l g yX6_isOverdue (.code yX6_isOverdue cX6_isOverdue 2 (some .boolean)) (d + 2) mc ms [.ref (a0), .int (a1)] w z (rI Q) X := by
  refine Ct.of hst (by decide) (Nat.le_of_ble_eq_true rfl) (fun C hX hE hg hl hNm => ?_)
  subst hg
  subst hl
  unfold F_X6_isOverdue at h
  show VW C 0 [(0, .ref (a0)), (1, .int (a1))] [] w z mc ms
  refine vw_aload_n hX 0 dX6_isOverdue_0 rfl ?_
  refine vw_aload_n hX 0 dX6_isOverdue_1 rfl ?_
  refine vw_iload_n hX 1 dX6_isOverdue_2 rfl ?_
  obtain ⟨hr1, h⟩ := h
  refine s_X6_328 hX hr1 dX6_isOverdue_3 (Nat.le_of_ble_eq_true rfl) (ct_X6_noCase (d := d + 0) (lst hX) h) (fun r2 w3 z4 h => ?_)
  refine vw_iconst hX (v := 0) dX6_isOverdue_6 (by decide) ?_
  refine vw_iconst hX (v := 0) dX6_isOverdue_7 (by decide) ?_
  obtain ⟨hr5, h⟩ := h
  refine s_X6_157 hX hr5 dX6_isOverdue_8 (Nat.le_of_ble_eq_true rfl) (ct_X6_fails (d := d + 1) (lst hX) h) (fun r6 w7 z8 h => ?_)
  refine vw_if_ne hX (tgt := 26) dX6_isOverdue_11 (by decide) (fun c9 => ?_) (fun c9 => ?_)
  · have h := h.1 c9
    refine vw_iconst hX (v := 0) dX6_isOverdue_26 (by decide) ?_
    exact vw_zret hX hE dX6_isOverdue_27 rfl ⟨_, rfl, h⟩
  · have h := h.2 c9
    refine vw_aload_n hX 0 dX6_isOverdue_14 rfl ?_
    refine vw_iload_n hX 1 dX6_isOverdue_15 rfl ?_
    obtain ⟨hr10, h⟩ := h
    refine s_X6_141 hX hr10 dX6_isOverdue_16 (Nat.le_of_ble_eq_true rfl) (ct_X6_isLate (d := d + 0) (lst hX) h) (fun r11 w12 z13 h => ?_)
    refine vw_if_eq hX (tgt := 26) dX6_isOverdue_19 (by decide) (fun c14 => ?_) (fun c14 => ?_)
    · have h := h.1 c14
      refine vw_iconst hX (v := 0) dX6_isOverdue_26 (by decide) ?_
      exact vw_zret hX hE dX6_isOverdue_27 rfl ⟨_, rfl, h⟩
    · have h := h.2 c14
      refine vw_iconst hX (v := 1) dX6_isOverdue_22 (by decide) ?_
      refine vw_goto hX (tgt := 27) dX6_isOverdue_23 (by decide) ?_
      exact vw_zret hX hE dX6_isOverdue_27 rfl ⟨_, rfl, h⟩
def B_X6_outlook_22 (a0 : Nat) (a1 : Int32) (a2 : Int32) (Q : Int32 → Mm → Nat → Prop) (y0 : Int32) (y1 : Nat) (w : Mm) (z : Nat) : Prop :=
  isO w y1 10 ∧ F_X6_fails y1 y0 0 0 w z (fun r2 w3 z4 => (r2 = 0 → isO w3 a0 10 ∧ F_X6_judged a0 a1 a2 w3 z4 (fun r7 w8 z9 => Q r7 w8 z9)) ∧
  (¬ r2 = 0 → Q 0 w3 z4))
set_option maxRecDepth 100000 in
set_option maxHeartbeats 4000000 in
theorem pB_X6_outlook_22 {C : Cx} {d : Nat} {a0 : Nat} {a1 : Int32} {a2 : Int32} {Q : Int32 → Mm → Nat → Prop} {X : String → Mm → Nat → Prop} (hX : CX C cX6_outlook RX6 3 (some .int) [] (d + 2)) (hE : EQ C (rI Q) X) : ∀ (y0 : Int32) (y1 : Nat) (w : Mm) (z mc ms : Nat), B_X6_outlook_22 a0 a1 a2 Q y0 y1 w z → VW C 22 [(0, .ref (a0)), (1, .int (a1)), (2, .int (a2))] [.int (y0), .ref (y1)] w z mc ms := by
  intro y0 y1 w z mc ms h
  unfold B_X6_outlook_22 at h
  refine vw_iconst hX (v := 0) dX6_outlook_22 (by decide) ?_
  refine vw_iconst hX (v := 0) dX6_outlook_23 (by decide) ?_
  obtain ⟨hr1, h⟩ := h
  refine s_X6_157 hX hr1 dX6_outlook_24 (Nat.le_of_ble_eq_true rfl) (ct_X6_fails (d := d + 1) (lst hX) h) (fun r2 w3 z4 h => ?_)
  refine vw_if_eq hX (tgt := 34) dX6_outlook_27 (by decide) (fun c5 => ?_) (fun c5 => ?_)
  · have h := h.1 c5
    refine vw_aload_n hX 0 dX6_outlook_34 rfl ?_
    refine vw_iload_n hX 1 dX6_outlook_35 rfl ?_
    refine vw_iload_n hX 2 dX6_outlook_36 rfl ?_
    obtain ⟨hr6, h⟩ := h
    refine s_X6_144 hX hr6 dX6_outlook_37 (Nat.le_of_ble_eq_true rfl) (ct_X6_judged (d := d + 0) (lst hX) h) (fun r7 w8 z9 h => ?_)
    exact vw_iret hX hE dX6_outlook_40 ⟨_, rfl, h⟩
  · have h := h.2 c5
    refine vw_iconst hX (v := 0) dX6_outlook_30 (by decide) ?_
    refine vw_goto hX (tgt := 40) dX6_outlook_31 (by decide) ?_
    exact vw_iret hX hE dX6_outlook_40 ⟨_, rfl, h⟩
def B_X6_outlook_17 (a0 : Nat) (a1 : Int32) (a2 : Int32) (Q : Int32 → Mm → Nat → Prop) (y0 : Nat) (w : Mm) (z : Nat) : Prop :=
  B_X6_outlook_22 a0 a1 a2 Q 1 y0 w z
set_option maxRecDepth 100000 in
set_option maxHeartbeats 4000000 in
theorem pB_X6_outlook_17 {C : Cx} {d : Nat} {a0 : Nat} {a1 : Int32} {a2 : Int32} {Q : Int32 → Mm → Nat → Prop} {X : String → Mm → Nat → Prop} (hX : CX C cX6_outlook RX6 3 (some .int) [] (d + 2)) (hE : EQ C (rI Q) X) : ∀ (y0 : Nat) (w : Mm) (z mc ms : Nat), B_X6_outlook_17 a0 a1 a2 Q y0 w z → VW C 17 [(0, .ref (a0)), (1, .int (a1)), (2, .int (a2))] [.ref (y0)] w z mc ms := by
  intro y0 w z mc ms h
  unfold B_X6_outlook_17 at h
  refine vw_iconst hX (v := 1) dX6_outlook_17 (by decide) ?_
  refine vw_goto hX (tgt := 22) dX6_outlook_18 (by decide) ?_
  exact pB_X6_outlook_22 hX hE _ _ _ _ _ _ h
def F_X6_outlook (a0 : Nat) (a1 : Int32) (a2 : Int32) (w : Mm) (z : Nat) (Q : Int32 → Mm → Nat → Prop) : Prop :=
  isO w a0 10 ∧ F_X6_noCase a0 a1 w z (fun r2 w3 z4 => (¬ r2 = 0 → B_X6_outlook_17 a0 a1 a2 Q a0 w3 z4) ∧
  (r2 = 0 → isO w3 a0 10 ∧ F_X6_noTicket a0 a2 w3 z4 (fun r7 w8 z9 => (r7 = 0 → B_X6_outlook_22 a0 a1 a2 Q 0 a0 w8 z9) ∧
  (¬ r7 = 0 → B_X6_outlook_17 a0 a1 a2 Q a0 w8 z9))))
set_option maxRecDepth 100000 in
set_option maxHeartbeats 4000000 in
theorem ct_X6_outlook {l : Launch} {g : Gp} {d : Nat} (hst : l.stackTraces = false) {a0 : Nat} {a1 : Int32} {a2 : Int32} {w : Mm} {z mc ms : Nat} {Q : Int32 → Mm → Nat → Prop} {X : String → Mm → Nat → Prop} (h : F_X6_outlook a0 a1 a2 w z Q) : Ct l g yX6_outlook (.code yX6_outlook cX6_outlook 3 (some .int)) (d + 2) mc ms [.ref (a0), .int (a1), .int (a2)] w z (rI Q) X := by
  refine Ct.of hst (by decide) (Nat.le_of_ble_eq_true rfl) (fun C hX hE hg hl hNm => ?_)
  subst hg
  subst hl
  unfold F_X6_outlook at h
  show VW C 0 [(0, .ref (a0)), (1, .int (a1)), (2, .int (a2))] [] w z mc ms
  refine vw_aload_n hX 0 dX6_outlook_0 rfl ?_
  refine vw_aload_n hX 0 dX6_outlook_1 rfl ?_
  refine vw_iload_n hX 1 dX6_outlook_2 rfl ?_
  obtain ⟨hr1, h⟩ := h
  refine s_X6_328 hX hr1 dX6_outlook_3 (Nat.le_of_ble_eq_true rfl) (ct_X6_noCase (d := d + 0) (lst hX) h) (fun r2 w3 z4 h => ?_)
  refine vw_if_ne hX (tgt := 17) dX6_outlook_6 (by decide) (fun c5 => ?_) (fun c5 => ?_)
  · have h := h.1 c5
    exact pB_X6_outlook_17 hX hE _ _ _ _ _ h
  · have h := h.2 c5
    refine vw_aload_n hX 0 dX6_outlook_9 rfl ?_
    refine vw_iload_n hX 2 dX6_outlook_10 rfl ?_
    obtain ⟨hr6, h⟩ := h
    refine s_X6_325 hX hr6 dX6_outlook_11 (Nat.le_of_ble_eq_true rfl) (ct_X6_noTicket (d := d + 0) (lst hX) h) (fun r7 w8 z9 h => ?_)
    refine vw_if_eq hX (tgt := 21) dX6_outlook_14 (by decide) (fun c10 => ?_) (fun c10 => ?_)
    · have h := h.1 c10
      refine vw_iconst hX (v := 0) dX6_outlook_21 (by decide) ?_
      exact pB_X6_outlook_22 hX hE _ _ _ _ _ _ h
    · have h := h.2 c10
      exact pB_X6_outlook_17 hX hE _ _ _ _ _ h
def F_X6_ticketSales (a0 : Nat) (w : Mm) (z : Nat) (Q : Int32 → Mm → Nat → Prop) : Prop :=
  ∃ q1, fld w a0 10 0 = some (.ref (q1)) ∧ ∃ n3 f2, arI w q1 0 = some (n3, f2) ∧ vp_in 5 n3 ∧ isO w a0 10 ∧ F_X6_told a0 ((f2 (5 : Int32).toNatClampNeg)) w z (fun r5 w6 z7 => Q r5 w6 z7)
set_option maxRecDepth 100000 in
set_option maxHeartbeats 4000000 in
theorem ct_X6_ticketSales {l : Launch} {g : Gp} {d : Nat} (hst : l.stackTraces = false) {a0 : Nat} {w : Mm} {z mc ms : Nat} {Q : Int32 → Mm → Nat → Prop} {X : String → Mm → Nat → Prop} (h : F_X6_ticketSales a0 w z Q) : Ct l g yX6_ticketSales (.code yX6_ticketSales cX6_ticketSales 1 (some .int)) (d + 1) mc ms [.ref (a0)] w z (rI Q) X := by
  refine Ct.of hst (by decide) (Nat.le_of_ble_eq_true rfl) (fun C hX hE hg hl hNm => ?_)
  subst hg
  subst hl
  unfold F_X6_ticketSales at h
  show VW C 0 [(0, .ref (a0))] [] w z mc ms
  refine vw_aload_n hX 0 dX6_ticketSales_0 rfl ?_
  refine vw_aload_n hX 0 dX6_ticketSales_1 rfl ?_
  obtain ⟨q1, hq1, h⟩ := h
  refine g_X6_9 hX hq1 dX6_ticketSales_2 ?_
  refine vw_iconst hX (v := 5) dX6_ticketSales_5 (by decide) ?_
  obtain ⟨n3, f2, hf2, hif2, h⟩ := h
  refine vw_iald hX hf2 hif2 dX6_ticketSales_6 ?_
  obtain ⟨hr4, h⟩ := h
  refine s_X6_316 hX hr4 dX6_ticketSales_7 (Nat.le_of_ble_eq_true rfl) (ct_X6_told (d := d + 0) (lst hX) h) (fun r5 w6 z7 h => ?_)
  exact vw_iret hX hE dX6_ticketSales_10 ⟨_, rfl, h⟩
def F_X6_finesPaid (a0 : Nat) (w : Mm) (z : Nat) (Q : Int32 → Mm → Nat → Prop) : Prop :=
  ∃ q1, fld w a0 10 0 = some (.ref (q1)) ∧ ∃ n3 f2, arI w q1 0 = some (n3, f2) ∧ vp_in 6 n3 ∧ isO w a0 10 ∧ F_X6_told a0 ((f2 (6 : Int32).toNatClampNeg)) w z (fun r5 w6 z7 => Q r5 w6 z7)
set_option maxRecDepth 100000 in
set_option maxHeartbeats 4000000 in
theorem ct_X6_finesPaid {l : Launch} {g : Gp} {d : Nat} (hst : l.stackTraces = false) {a0 : Nat} {w : Mm} {z mc ms : Nat} {Q : Int32 → Mm → Nat → Prop} {X : String → Mm → Nat → Prop} (h : F_X6_finesPaid a0 w z Q) : Ct l g yX6_finesPaid (.code yX6_finesPaid cX6_finesPaid 1 (some .int)) (d + 1) mc ms [.ref (a0)] w z (rI Q) X := by
  refine Ct.of hst (by decide) (Nat.le_of_ble_eq_true rfl) (fun C hX hE hg hl hNm => ?_)
  subst hg
  subst hl
  unfold F_X6_finesPaid at h
  show VW C 0 [(0, .ref (a0))] [] w z mc ms
  refine vw_aload_n hX 0 dX6_finesPaid_0 rfl ?_
  refine vw_aload_n hX 0 dX6_finesPaid_1 rfl ?_
  obtain ⟨q1, hq1, h⟩ := h
  refine g_X6_9 hX hq1 dX6_finesPaid_2 ?_
  refine vw_bipush hX (v := 6) dX6_finesPaid_5 (by decide) ?_
  obtain ⟨n3, f2, hf2, hif2, h⟩ := h
  refine vw_iald hX hf2 hif2 dX6_finesPaid_7 ?_
  obtain ⟨hr4, h⟩ := h
  refine s_X6_316 hX hr4 dX6_finesPaid_8 (Nat.le_of_ble_eq_true rfl) (ct_X6_told (d := d + 0) (lst hX) h) (fun r5 w6 z7 h => ?_)
  exact vw_iret hX hE dX6_finesPaid_11 ⟨_, rfl, h⟩
def F_X6_inspections (a0 : Nat) (w : Mm) (z : Nat) (Q : Int32 → Mm → Nat → Prop) : Prop :=
  ∃ q1, fld w a0 10 0 = some (.ref (q1)) ∧ ∃ n3 f2, arI w q1 0 = some (n3, f2) ∧ vp_in 7 n3 ∧ isO w a0 10 ∧ F_X6_told a0 ((f2 (7 : Int32).toNatClampNeg)) w z (fun r5 w6 z7 => Q r5 w6 z7)
set_option maxRecDepth 100000 in
set_option maxHeartbeats 4000000 in
theorem ct_X6_inspections {l : Launch} {g : Gp} {d : Nat} (hst : l.stackTraces = false) {a0 : Nat} {w : Mm} {z mc ms : Nat} {Q : Int32 → Mm → Nat → Prop} {X : String → Mm → Nat → Prop} (h : F_X6_inspections a0 w z Q) : Ct l g yX6_inspections (.code yX6_inspections cX6_inspections 1 (some .int)) (d + 1) mc ms [.ref (a0)] w z (rI Q) X := by
  refine Ct.of hst (by decide) (Nat.le_of_ble_eq_true rfl) (fun C hX hE hg hl hNm => ?_)
  subst hg
  subst hl
  unfold F_X6_inspections at h
  show VW C 0 [(0, .ref (a0))] [] w z mc ms
  refine vw_aload_n hX 0 dX6_inspections_0 rfl ?_
  refine vw_aload_n hX 0 dX6_inspections_1 rfl ?_
  obtain ⟨q1, hq1, h⟩ := h
  refine g_X6_9 hX hq1 dX6_inspections_2 ?_
  refine vw_bipush hX (v := 7) dX6_inspections_5 (by decide) ?_
  obtain ⟨n3, f2, hf2, hif2, h⟩ := h
  refine vw_iald hX hf2 hif2 dX6_inspections_7 ?_
  obtain ⟨hr4, h⟩ := h
  refine s_X6_316 hX hr4 dX6_inspections_8 (Nat.le_of_ble_eq_true rfl) (ct_X6_told (d := d + 0) (lst hX) h) (fun r5 w6 z7 h => ?_)
  exact vw_iret hX hE dX6_inspections_11 ⟨_, rfl, h⟩
def B_X6_inconsistencies_107 (a0 : Nat) (K62 : Int32 → Int32 → Mm → Nat → Prop) (Q : Int32 → Mm → Nat → Prop) (x2 : Int32) (x3 : Int32) (w : Mm) (z : Nat) : Prop :=
  K62 x2 ((x3 + 1)) w z
set_option maxRecDepth 100000 in
set_option maxHeartbeats 4000000 in
theorem pB_X6_inconsistencies_107 {C : Cx} {d : Nat} {a0 : Nat} {K62 : Int32 → Int32 → Mm → Nat → Prop} {Q : Int32 → Mm → Nat → Prop} {X : String → Mm → Nat → Prop} (hX : CX C cX6_inconsistencies RX6 4 (some .int) [] (d + 1)) (hE : EQ C (rI Q) X) (hK62 : ∀ (x2 : Int32) (x3 : Int32) (w : Mm) (z mc ms : Nat), K62 x2 x3 w z → VW C 62 [(0, .ref (a0)), (2, .int (x2)), (3, .int (x3))] [] w z mc ms) : ∀ (x2 : Int32) (x3 : Int32) (w : Mm) (z mc ms : Nat), B_X6_inconsistencies_107 a0 K62 Q x2 x3 w z → VW C 107 [(0, .ref (a0)), (2, .int (x2)), (3, .int (x3))] [] w z mc ms := by
  intro x2 x3 w z mc ms h
  unfold B_X6_inconsistencies_107 at h
  refine vw_iinc hX 2 (v := x3 + 1) dX6_inconsistencies_107 rfl rfl (by decide) rfl ?_
  refine vw_goto hX (tgt := 62) dX6_inconsistencies_110 (by decide) ?_
  exact vw_sub [1, 2, 0] rfl (hK62 _ _ _ _ _ _ h)
def B_X6_inconsistencies_101 (a0 : Nat) (K62 : Int32 → Int32 → Mm → Nat → Prop) (Q : Int32 → Mm → Nat → Prop) (x2 : Int32) (x3 : Int32) (y0 : Int32) (y1 : Int32) (w : Mm) (z : Nat) : Prop :=
  (y1 = y0 → B_X6_inconsistencies_107 a0 K62 Q x2 x3 w z) ∧
  (¬ y1 = y0 → B_X6_inconsistencies_107 a0 K62 Q ((x2 + 1)) x3 w z)
set_option maxRecDepth 100000 in
set_option maxHeartbeats 4000000 in
theorem pB_X6_inconsistencies_101 {C : Cx} {d : Nat} {a0 : Nat} {K62 : Int32 → Int32 → Mm → Nat → Prop} {Q : Int32 → Mm → Nat → Prop} {X : String → Mm → Nat → Prop} (hX : CX C cX6_inconsistencies RX6 4 (some .int) [] (d + 1)) (hE : EQ C (rI Q) X) (hK62 : ∀ (x2 : Int32) (x3 : Int32) (w : Mm) (z mc ms : Nat), K62 x2 x3 w z → VW C 62 [(0, .ref (a0)), (2, .int (x2)), (3, .int (x3))] [] w z mc ms) : ∀ (x2 : Int32) (x3 : Int32) (y0 : Int32) (y1 : Int32) (w : Mm) (z mc ms : Nat), B_X6_inconsistencies_101 a0 K62 Q x2 x3 y0 y1 w z → VW C 101 [(0, .ref (a0)), (2, .int (x2)), (3, .int (x3))] [.int (y0), .int (y1)] w z mc ms := by
  intro x2 x3 y0 y1 w z mc ms h
  unfold B_X6_inconsistencies_101 at h
  refine vw_icmp_eq hX (tgt := 107) dX6_inconsistencies_101 (by decide) (fun c1 => ?_) (fun c1 => ?_)
  · have h := h.1 c1
    exact pB_X6_inconsistencies_107 hX hE hK62 _ _ _ _ _ _ h
  · have h := h.2 c1
    refine vw_iinc hX 1 (v := x2 + 1) dX6_inconsistencies_104 rfl rfl (by decide) rfl ?_
    exact vw_sub [1, 0, 2] rfl (pB_X6_inconsistencies_107 hX hE hK62 _ _ _ _ _ _ h)
def B_X6_inconsistencies_87 (a0 : Nat) (K62 : Int32 → Int32 → Mm → Nat → Prop) (Q : Int32 → Mm → Nat → Prop) (x2 : Int32) (x3 : Int32) (y0 : Int32) (w : Mm) (z : Nat) : Prop :=
  isO w a0 10 ∧ F_X6_ofTicket a0 x3 5 w z (fun r3 w4 z5 => (¬ r3 = 0 → B_X6_inconsistencies_101 a0 K62 Q x2 x3 0 y0 w4 z5) ∧
  (r3 = 0 → B_X6_inconsistencies_101 a0 K62 Q x2 x3 1 y0 w4 z5))
set_option maxRecDepth 100000 in
set_option maxHeartbeats 4000000 in
theorem pB_X6_inconsistencies_87 {C : Cx} {d : Nat} {a0 : Nat} {K62 : Int32 → Int32 → Mm → Nat → Prop} {Q : Int32 → Mm → Nat → Prop} {X : String → Mm → Nat → Prop} (hX : CX C cX6_inconsistencies RX6 4 (some .int) [] (d + 1)) (hE : EQ C (rI Q) X) (hK62 : ∀ (x2 : Int32) (x3 : Int32) (w : Mm) (z mc ms : Nat), K62 x2 x3 w z → VW C 62 [(0, .ref (a0)), (2, .int (x2)), (3, .int (x3))] [] w z mc ms) : ∀ (x2 : Int32) (x3 : Int32) (y0 : Int32) (w : Mm) (z mc ms : Nat), B_X6_inconsistencies_87 a0 K62 Q x2 x3 y0 w z → VW C 87 [(0, .ref (a0)), (2, .int (x2)), (3, .int (x3))] [.int (y0)] w z mc ms := by
  intro x2 x3 y0 w z mc ms h
  unfold B_X6_inconsistencies_87 at h
  refine vw_aload_n hX 0 dX6_inconsistencies_87 rfl ?_
  refine vw_iload_n hX 2 dX6_inconsistencies_88 rfl ?_
  refine vw_iconst hX (v := 5) dX6_inconsistencies_89 (by decide) ?_
  obtain ⟨hr2, h⟩ := h
  refine s_X6_96 hX hr2 dX6_inconsistencies_90 (Nat.le_of_ble_eq_true rfl) (ct_X6_ofTicket (d := d + 0) (lst hX) h) (fun r3 w4 z5 h => ?_)
  refine vw_if_ne hX (tgt := 100) dX6_inconsistencies_93 (by decide) (fun c6 => ?_) (fun c6 => ?_)
  · have h := h.1 c6
    refine vw_iconst hX (v := 0) dX6_inconsistencies_100 (by decide) ?_
    exact pB_X6_inconsistencies_101 hX hE hK62 _ _ _ _ _ _ _ _ h
  · have h := h.2 c6
    refine vw_iconst hX (v := 1) dX6_inconsistencies_96 (by decide) ?_
    refine vw_goto hX (tgt := 101) dX6_inconsistencies_97 (by decide) ?_
    exact pB_X6_inconsistencies_101 hX hE hK62 _ _ _ _ _ _ _ _ h
def B_X6_inconsistencies_62 (a0 : Nat) (Q : Int32 → Mm → Nat → Prop) : Nat → Int32 → Int32 → Mm → Nat → Prop
  | 0, _, _, _, _ => False
  | n + 1, x2, x3, w, z => ∃ q7, fld w a0 10 0 = some (.ref (q7)) ∧ ∃ n9 f8, arI w q7 0 = some (n9, f8) ∧ vp_in 3 n9 ∧ (((f8 (3 : Int32).toNatClampNeg)) ≤ x3 → Q x2 w z) ∧
  (¬ ((f8 (3 : Int32).toNatClampNeg)) ≤ x3 → isO w a0 10 ∧ F_X6_ofTicket a0 x3 3 w z (fun r12 w13 z14 => (¬ r12 = (-1) → B_X6_inconsistencies_87 a0 (B_X6_inconsistencies_62 a0 Q n) Q x2 x3 0 w13 z14) ∧
  (r12 = (-1) → B_X6_inconsistencies_87 a0 (B_X6_inconsistencies_62 a0 Q n) Q x2 x3 1 w13 z14)))
set_option maxRecDepth 100000 in
set_option maxHeartbeats 4000000 in
theorem pB_X6_inconsistencies_62 {C : Cx} {d : Nat} {a0 : Nat} {Q : Int32 → Mm → Nat → Prop} {X : String → Mm → Nat → Prop} (hX : CX C cX6_inconsistencies RX6 4 (some .int) [] (d + 1)) (hE : EQ C (rI Q) X) : ∀ (n : Nat) (x2 : Int32) (x3 : Int32) (w : Mm) (z mc ms : Nat), B_X6_inconsistencies_62 a0 Q n x2 x3 w z → VW C 62 [(0, .ref (a0)), (2, .int (x2)), (3, .int (x3))] [] w z mc ms := by
  intro n
  induction n with
  | zero => intro x2 x3 w z mc ms h; exact False.elim h
  | succ n ih =>
    intro x2 x3 w z mc ms h
    unfold B_X6_inconsistencies_62 at h
    refine vw_iload_n hX 2 dX6_inconsistencies_62 rfl ?_
    refine vw_aload_n hX 0 dX6_inconsistencies_63 rfl ?_
    obtain ⟨q7, hq7, h⟩ := h
    refine g_X6_9 hX hq7 dX6_inconsistencies_64 ?_
    refine vw_iconst hX (v := 3) dX6_inconsistencies_67 (by decide) ?_
    obtain ⟨n9, f8, hf8, hif8, h⟩ := h
    refine vw_iald hX hf8 hif8 dX6_inconsistencies_68 ?_
    refine vw_icmp_ge hX (tgt := 113) dX6_inconsistencies_69 (by decide) (fun c10 => ?_) (fun c10 => ?_)
    · have h := h.1 c10
      refine vw_iload_n hX 1 dX6_inconsistencies_113 rfl ?_
      exact vw_iret hX hE dX6_inconsistencies_114 ⟨_, rfl, h⟩
    · have h := h.2 c10
      refine vw_aload_n hX 0 dX6_inconsistencies_72 rfl ?_
      refine vw_iload_n hX 2 dX6_inconsistencies_73 rfl ?_
      refine vw_iconst hX (v := 3) dX6_inconsistencies_74 (by decide) ?_
      obtain ⟨hr11, h⟩ := h
      refine s_X6_96 hX hr11 dX6_inconsistencies_75 (Nat.le_of_ble_eq_true rfl) (ct_X6_ofTicket (d := d + 0) (lst hX) h) (fun r12 w13 z14 h => ?_)
      refine vw_iconst hX (v := (-1)) dX6_inconsistencies_78 (by decide) ?_
      refine vw_icmp_ne hX (tgt := 86) dX6_inconsistencies_79 (by decide) (fun c15 => ?_) (fun c15 => ?_)
      · have h := h.1 c15
        refine vw_iconst hX (v := 0) dX6_inconsistencies_86 (by decide) ?_
        exact pB_X6_inconsistencies_87 hX hE ih _ _ _ _ _ _ _ h
      · have h := h.2 c15
        refine vw_iconst hX (v := 1) dX6_inconsistencies_82 (by decide) ?_
        refine vw_goto hX (tgt := 87) dX6_inconsistencies_83 (by decide) ?_
        exact pB_X6_inconsistencies_87 hX hE ih _ _ _ _ _ _ _ h
def B_X6_inconsistencies_30 (a0 : Nat) (Q : Int32 → Mm → Nat → Prop) : Nat → Int32 → Int32 → Mm → Nat → Prop
  | 0, _, _, _, _ => False
  | n + 1, x1, x2, w, z => ∃ q16, fld w a0 10 0 = some (.ref (q16)) ∧ ∃ n18 f17, arI w q16 0 = some (n18, f17) ∧ vp_in 2 n18 ∧ (((f17 (2 : Int32).toNatClampNeg)) ≤ x2 → ∀ i20 : Int32, i20 = (jabs x1) → ∃ n, B_X6_inconsistencies_62 a0 Q n i20 0 w z) ∧
  (¬ ((f17 (2 : Int32).toNatClampNeg)) ≤ x2 → isO w a0 10 ∧ F_X6_ofPassenger a0 x2 0 w z (fun r22 w23 z24 => ∀ i25 : Int32, i25 = (x1 - r22) → B_X6_inconsistencies_30 a0 Q n i25 ((x2 + 1)) w23 z24))
set_option maxRecDepth 100000 in
set_option maxHeartbeats 4000000 in
theorem pB_X6_inconsistencies_30 {C : Cx} {d : Nat} {a0 : Nat} {Q : Int32 → Mm → Nat → Prop} {X : String → Mm → Nat → Prop} (hX : CX C cX6_inconsistencies RX6 4 (some .int) [] (d + 1)) (hE : EQ C (rI Q) X) : ∀ (n : Nat) (x1 : Int32) (x2 : Int32) (w : Mm) (z mc ms : Nat), B_X6_inconsistencies_30 a0 Q n x1 x2 w z → VW C 30 [(0, .ref (a0)), (1, .int (x1)), (2, .int (x2))] [] w z mc ms := by
  intro n
  induction n with
  | zero => intro x1 x2 w z mc ms h; exact False.elim h
  | succ n ih =>
    intro x1 x2 w z mc ms h
    unfold B_X6_inconsistencies_30 at h
    refine vw_iload_n hX 2 dX6_inconsistencies_30 rfl ?_
    refine vw_aload_n hX 0 dX6_inconsistencies_31 rfl ?_
    obtain ⟨q16, hq16, h⟩ := h
    refine g_X6_9 hX hq16 dX6_inconsistencies_32 ?_
    refine vw_iconst hX (v := 2) dX6_inconsistencies_35 (by decide) ?_
    obtain ⟨n18, f17, hf17, hif17, h⟩ := h
    refine vw_iald hX hf17 hif17 dX6_inconsistencies_36 ?_
    refine vw_icmp_ge hX (tgt := 55) dX6_inconsistencies_37 (by decide) (fun c19 => ?_) (fun c19 => ?_)
    · have h := h.1 c19
      refine vw_iload_n hX 1 dX6_inconsistencies_55 rfl ?_
      refine vw_mabs hX kw_1717 (Nat.le_of_ble_eq_true rfl) dX6_inconsistencies_56 ?_
      refine vw_nmI (fun i20 ei20 => ?_)
      have h := h i20 ei20
      refine vw_istore_n hX dX6_inconsistencies_59 (by decide) rfl ?_
      refine vw_iconst hX (v := 0) dX6_inconsistencies_60 (by decide) ?_
      refine vw_istore_n hX dX6_inconsistencies_61 (by decide) rfl ?_
      obtain ⟨n, h⟩ := h
      exact vw_sub [2, 1, 0] rfl (pB_X6_inconsistencies_62 hX hE n _ _ _ _ _ _ h)
    · have h := h.2 c19
      refine vw_iload_n hX 1 dX6_inconsistencies_40 rfl ?_
      refine vw_aload_n hX 0 dX6_inconsistencies_41 rfl ?_
      refine vw_iload_n hX 2 dX6_inconsistencies_42 rfl ?_
      refine vw_iconst hX (v := 0) dX6_inconsistencies_43 (by decide) ?_
      obtain ⟨hr21, h⟩ := h
      refine s_X6_102 hX hr21 dX6_inconsistencies_44 (Nat.le_of_ble_eq_true rfl) (ct_X6_ofPassenger (d := d + 0) (lst hX) h) (fun r22 w23 z24 h => ?_)
      refine vw_isub hX dX6_inconsistencies_47 ?_
      refine vw_nmI (fun i25 ei25 => ?_)
      have h := h i25 ei25
      refine vw_istore_n hX dX6_inconsistencies_48 (by decide) rfl ?_
      refine vw_iinc hX 2 (v := x2 + 1) dX6_inconsistencies_49 rfl rfl (by decide) rfl ?_
      refine vw_goto hX (tgt := 30) dX6_inconsistencies_52 (by decide) ?_
      exact vw_sub [2, 1, 0] rfl (ih _ _ _ _ _ _ h)
def F_X6_inconsistencies (a0 : Nat) (w : Mm) (z : Nat) (Q : Int32 → Mm → Nat → Prop) : Prop :=
  ∃ f1, obj w a0 10 = some f1 ∧ 6 < f1.length ∧ ∀ w2, w2 = mset w a0 (.inl (10, f1.set 6 (.int (0)))) → ∃ q3, fld w2 a0 10 0 = some (.ref (q3)) ∧ ∃ n5 f4, arI w2 q3 0 = some (n5, f4) ∧ vp_in 8 n5 ∧ ∃ q6, fld w2 a0 10 0 = some (.ref (q6)) ∧ ∃ n8 f7, arI w2 q6 0 = some (n8, f7) ∧ vp_in 5 n8 ∧ ∃ q9, fld w2 a0 10 0 = some (.ref (q9)) ∧ ∃ n11 f10, arI w2 q9 0 = some (n11, f10) ∧ vp_in 6 n11 ∧ ∀ i12 : Int32, i12 = (((((f4 (8 : Int32).toNatClampNeg)) - ((f7 (5 : Int32).toNatClampNeg)))) - ((f10 (6 : Int32).toNatClampNeg))) → ∃ n, B_X6_inconsistencies_30 a0 Q n i12 0 w2 z
set_option maxRecDepth 100000 in
set_option maxHeartbeats 4000000 in
theorem ct_X6_inconsistencies {l : Launch} {g : Gp} {d : Nat} (hst : l.stackTraces = false) {a0 : Nat} {w : Mm} {z mc ms : Nat} {Q : Int32 → Mm → Nat → Prop} {X : String → Mm → Nat → Prop} (h : F_X6_inconsistencies a0 w z Q) : Ct l g yX6_inconsistencies (.code yX6_inconsistencies cX6_inconsistencies 4 (some .int)) (d + 1) mc ms [.ref (a0)] w z (rI Q) X := by
  refine Ct.of hst (by decide) (Nat.le_of_ble_eq_true rfl) (fun C hX hE hg hl hNm => ?_)
  subst hg
  subst hl
  unfold F_X6_inconsistencies at h
  show VW C 0 [(0, .ref (a0))] [] w z mc ms
  refine vw_aload_n hX 0 dX6_inconsistencies_0 rfl ?_
  refine vw_iconst hX (v := 0) dX6_inconsistencies_1 (by decide) ?_
  obtain ⟨f1, hf1, hlf1, h⟩ := h
  refine p_X6_64 hX hf1 hlf1 dX6_inconsistencies_2 ?_
  refine vw_nmW (fun w2 ew2 => ?_)
  have h := h w2 ew2
  refine vw_aload_n hX 0 dX6_inconsistencies_5 rfl ?_
  obtain ⟨q3, hq3, h⟩ := h
  refine g_X6_9 hX hq3 dX6_inconsistencies_6 ?_
  refine vw_bipush hX (v := 8) dX6_inconsistencies_9 (by decide) ?_
  obtain ⟨n5, f4, hf4, hif4, h⟩ := h
  refine vw_iald hX hf4 hif4 dX6_inconsistencies_11 ?_
  refine vw_aload_n hX 0 dX6_inconsistencies_12 rfl ?_
  obtain ⟨q6, hq6, h⟩ := h
  refine g_X6_9 hX hq6 dX6_inconsistencies_13 ?_
  refine vw_iconst hX (v := 5) dX6_inconsistencies_16 (by decide) ?_
  obtain ⟨n8, f7, hf7, hif7, h⟩ := h
  refine vw_iald hX hf7 hif7 dX6_inconsistencies_17 ?_
  refine vw_isub hX dX6_inconsistencies_18 ?_
  refine vw_aload_n hX 0 dX6_inconsistencies_19 rfl ?_
  obtain ⟨q9, hq9, h⟩ := h
  refine g_X6_9 hX hq9 dX6_inconsistencies_20 ?_
  refine vw_bipush hX (v := 6) dX6_inconsistencies_23 (by decide) ?_
  obtain ⟨n11, f10, hf10, hif10, h⟩ := h
  refine vw_iald hX hf10 hif10 dX6_inconsistencies_25 ?_
  refine vw_isub hX dX6_inconsistencies_26 ?_
  refine vw_nmI (fun i12 ei12 => ?_)
  have h := h i12 ei12
  refine vw_istore_n hX dX6_inconsistencies_27 (by decide) rfl ?_
  refine vw_iconst hX (v := 0) dX6_inconsistencies_28 (by decide) ?_
  refine vw_istore_n hX dX6_inconsistencies_29 (by decide) rfl ?_
  obtain ⟨n, h⟩ := h
  exact vw_sub [2, 1, 0] rfl (pB_X6_inconsistencies_30 hX hE n _ _ _ _ _ _ h)
def F_X6_faultShare (a0 : Nat) (w : Mm) (z : Nat) (Q : UInt64 → Mm → Nat → Prop) : Prop :=
  ∃ f1, obj w a0 10 = some f1 ∧ 6 < f1.length ∧ ∀ w2, w2 = mset w a0 (.inl (10, f1.set 6 (.int (0)))) → ∃ q3, fld w2 a0 10 0 = some (.ref (q3)) ∧ ∃ n5 f4, arI w2 q3 0 = some (n5, f4) ∧ vp_in 7 n5 ∧ (¬ ((f4 (7 : Int32).toNatClampNeg)) = 0 → ∃ q7, fld w2 a0 10 0 = some (.ref (q7)) ∧ ∃ n9 f8, arI w2 q7 0 = some (n9, f8) ∧ vp_in 4 n9 ∧ ∃ q10, fld w2 a0 10 0 = some (.ref (q10)) ∧ ∃ n12 f11, arI w2 q10 0 = some (n12, f11) ∧ vp_in 7 n12 ∧ vf_n64 (FP.ddiv ((FP.i2d ((f8 (4 : Int32).toNatClampNeg)))) ((FP.i2d ((f11 (7 : Int32).toNatClampNeg))))) ∧ Q ((FP.ddiv ((FP.i2d ((f8 (4 : Int32).toNatClampNeg)))) ((FP.i2d ((f11 (7 : Int32).toNatClampNeg)))))) w2 z) ∧
  (((f4 (7 : Int32).toNatClampNeg)) = 0 → Q 0 w2 z)
set_option maxRecDepth 100000 in
set_option maxHeartbeats 4000000 in
theorem ct_X6_faultShare {l : Launch} {g : Gp} {d : Nat} (hst : l.stackTraces = false) {a0 : Nat} {w : Mm} {z mc ms : Nat} {Q : UInt64 → Mm → Nat → Prop} {X : String → Mm → Nat → Prop} (h : F_X6_faultShare a0 w z Q) : Ct l g yX6_faultShare (.code yX6_faultShare cX6_faultShare 1 (some .double)) (d + 0) mc ms [.ref (a0)] w z (rD Q) X := by
  refine Ct.of hst (by decide) (Nat.le_of_ble_eq_true rfl) (fun C hX hE hg hl hNm => ?_)
  subst hg
  subst hl
  unfold F_X6_faultShare at h
  show VW C 0 [(0, .ref (a0))] [] w z mc ms
  refine vw_aload_n hX 0 dX6_faultShare_0 rfl ?_
  refine vw_iconst hX (v := 0) dX6_faultShare_1 (by decide) ?_
  obtain ⟨f1, hf1, hlf1, h⟩ := h
  refine p_X6_64 hX hf1 hlf1 dX6_faultShare_2 ?_
  refine vw_nmW (fun w2 ew2 => ?_)
  have h := h w2 ew2
  refine vw_aload_n hX 0 dX6_faultShare_5 rfl ?_
  obtain ⟨q3, hq3, h⟩ := h
  refine g_X6_9 hX hq3 dX6_faultShare_6 ?_
  refine vw_bipush hX (v := 7) dX6_faultShare_9 (by decide) ?_
  obtain ⟨n5, f4, hf4, hif4, h⟩ := h
  refine vw_iald hX hf4 hif4 dX6_faultShare_11 ?_
  refine vw_if_ne hX (tgt := 19) dX6_faultShare_12 (by decide) (fun c6 => ?_) (fun c6 => ?_)
  · have h := h.1 c6
    refine vw_aload_n hX 0 dX6_faultShare_19 rfl ?_
    obtain ⟨q7, hq7, h⟩ := h
    refine g_X6_9 hX hq7 dX6_faultShare_20 ?_
    refine vw_iconst hX (v := 4) dX6_faultShare_23 (by decide) ?_
    obtain ⟨n9, f8, hf8, hif8, h⟩ := h
    refine vw_iald hX hf8 hif8 dX6_faultShare_24 ?_
    refine vw_i2d hX dX6_faultShare_25 ?_
    refine vw_aload_n hX 0 dX6_faultShare_26 rfl ?_
    obtain ⟨q10, hq10, h⟩ := h
    refine g_X6_9 hX hq10 dX6_faultShare_27 ?_
    refine vw_bipush hX (v := 7) dX6_faultShare_30 (by decide) ?_
    obtain ⟨n12, f11, hf11, hif11, h⟩ := h
    refine vw_iald hX hf11 hif11 dX6_faultShare_32 ?_
    refine vw_i2d hX dX6_faultShare_33 ?_
    obtain ⟨hn13, h⟩ := h
    refine vw_ddiv hX dX6_faultShare_34 hn13 ?_
    exact vw_dret hX hE dX6_faultShare_35 ⟨_, rfl, h⟩
  · have h := h.2 c6
    refine vw_dconst0 hX dX6_faultShare_15 ?_
    refine vw_goto hX (tgt := 35) dX6_faultShare_16 (by decide) ?_
    exact vw_dret hX hE dX6_faultShare_35 ⟨_, rfl, h⟩
def F_X6_meanPrice (a0 : Nat) (w : Mm) (z : Nat) (Q : UInt32 → Mm → Nat → Prop) : Prop :=
  ∃ f1, obj w a0 10 = some f1 ∧ 6 < f1.length ∧ ∀ w2, w2 = mset w a0 (.inl (10, f1.set 6 (.int (0)))) → ∃ q3, fld w2 a0 10 0 = some (.ref (q3)) ∧ ∃ n5 f4, arI w2 q3 0 = some (n5, f4) ∧ vp_in 3 n5 ∧ (¬ ((f4 (3 : Int32).toNatClampNeg)) = 0 → ∃ q7, fld w2 a0 10 0 = some (.ref (q7)) ∧ ∃ n9 f8, arI w2 q7 0 = some (n9, f8) ∧ vp_in 5 n9 ∧ ∃ q10, fld w2 a0 10 0 = some (.ref (q10)) ∧ ∃ n12 f11, arI w2 q10 0 = some (n12, f11) ∧ vp_in 3 n12 ∧ vf_n32 (FP.fdiv ((FP.i2f ((f8 (5 : Int32).toNatClampNeg)))) ((FP.i2f ((f11 (3 : Int32).toNatClampNeg))))) ∧ Q ((FP.fdiv ((FP.i2f ((f8 (5 : Int32).toNatClampNeg)))) ((FP.i2f ((f11 (3 : Int32).toNatClampNeg)))))) w2 z) ∧
  (((f4 (3 : Int32).toNatClampNeg)) = 0 → Q 0 w2 z)
set_option maxRecDepth 100000 in
set_option maxHeartbeats 4000000 in
theorem ct_X6_meanPrice {l : Launch} {g : Gp} {d : Nat} (hst : l.stackTraces = false) {a0 : Nat} {w : Mm} {z mc ms : Nat} {Q : UInt32 → Mm → Nat → Prop} {X : String → Mm → Nat → Prop} (h : F_X6_meanPrice a0 w z Q) : Ct l g yX6_meanPrice (.code yX6_meanPrice cX6_meanPrice 1 (some .float)) (d + 0) mc ms [.ref (a0)] w z (rF Q) X := by
  refine Ct.of hst (by decide) (Nat.le_of_ble_eq_true rfl) (fun C hX hE hg hl hNm => ?_)
  subst hg
  subst hl
  unfold F_X6_meanPrice at h
  show VW C 0 [(0, .ref (a0))] [] w z mc ms
  refine vw_aload_n hX 0 dX6_meanPrice_0 rfl ?_
  refine vw_iconst hX (v := 0) dX6_meanPrice_1 (by decide) ?_
  obtain ⟨f1, hf1, hlf1, h⟩ := h
  refine p_X6_64 hX hf1 hlf1 dX6_meanPrice_2 ?_
  refine vw_nmW (fun w2 ew2 => ?_)
  have h := h w2 ew2
  refine vw_aload_n hX 0 dX6_meanPrice_5 rfl ?_
  obtain ⟨q3, hq3, h⟩ := h
  refine g_X6_9 hX hq3 dX6_meanPrice_6 ?_
  refine vw_iconst hX (v := 3) dX6_meanPrice_9 (by decide) ?_
  obtain ⟨n5, f4, hf4, hif4, h⟩ := h
  refine vw_iald hX hf4 hif4 dX6_meanPrice_10 ?_
  refine vw_if_ne hX (tgt := 18) dX6_meanPrice_11 (by decide) (fun c6 => ?_) (fun c6 => ?_)
  · have h := h.1 c6
    refine vw_aload_n hX 0 dX6_meanPrice_18 rfl ?_
    obtain ⟨q7, hq7, h⟩ := h
    refine g_X6_9 hX hq7 dX6_meanPrice_19 ?_
    refine vw_iconst hX (v := 5) dX6_meanPrice_22 (by decide) ?_
    obtain ⟨n9, f8, hf8, hif8, h⟩ := h
    refine vw_iald hX hf8 hif8 dX6_meanPrice_23 ?_
    refine vw_i2f hX dX6_meanPrice_24 ?_
    refine vw_aload_n hX 0 dX6_meanPrice_25 rfl ?_
    obtain ⟨q10, hq10, h⟩ := h
    refine g_X6_9 hX hq10 dX6_meanPrice_26 ?_
    refine vw_iconst hX (v := 3) dX6_meanPrice_29 (by decide) ?_
    obtain ⟨n12, f11, hf11, hif11, h⟩ := h
    refine vw_iald hX hf11 hif11 dX6_meanPrice_30 ?_
    refine vw_i2f hX dX6_meanPrice_31 ?_
    obtain ⟨hn13, h⟩ := h
    refine vw_fdiv hX dX6_meanPrice_32 hn13 ?_
    exact vw_fret hX hE dX6_meanPrice_33 ⟨_, rfl, h⟩
  · have h := h.2 c6
    refine vw_fconst0 hX dX6_meanPrice_14 ?_
    refine vw_goto hX (tgt := 33) dX6_meanPrice_15 (by decide) ?_
    exact vw_fret hX hE dX6_meanPrice_33 ⟨_, rfl, h⟩
def F_X6_out (a0 : Nat) (a1 : Int32) (w : Mm) (z : Nat) (Q : Mm → Nat → Prop) : Prop :=
  ∃ q1, fld w a0 10 8 = some (.ref (q1)) ∧ ∃ v2, fld w a0 10 10 = some (.int (v2)) ∧ ∃ n4 f3, arW w q1 0 = some (n4, f3) ∧ vp_in v2 n4 ∧ ∀ w5, w5 = mset w q1 (.inr (0, n4, .inl (upd f3 (v2 : Int32).toNatClampNeg a1))) → ∃ v6, fld w5 a0 10 10 = some (.int (v6)) ∧ ∃ f7, obj w5 a0 10 = some f7 ∧ 10 < f7.length ∧ ∀ w8, w8 = mset w5 a0 (.inl (10, f7.set 10 (.int ((v6 + 1))))) → Q w8 z
set_option maxRecDepth 100000 in
set_option maxHeartbeats 4000000 in
theorem ct_X6_out {l : Launch} {g : Gp} {d : Nat} (hst : l.stackTraces = false) {a0 : Nat} {a1 : Int32} {w : Mm} {z mc ms : Nat} {Q : Mm → Nat → Prop} {X : String → Mm → Nat → Prop} (h : F_X6_out a0 a1 w z Q) : Ct l g yX6_out (.code yX6_out cX6_out 2 none) (d + 0) mc ms [.ref (a0), .int (a1)] w z (rV Q) X := by
  refine Ct.of hst (by decide) (Nat.le_of_ble_eq_true rfl) (fun C hX hE hg hl hNm => ?_)
  subst hg
  subst hl
  unfold F_X6_out at h
  show VW C 0 [(0, .ref (a0)), (1, .int (a1))] [] w z mc ms
  refine vw_aload_n hX 0 dX6_out_0 rfl ?_
  obtain ⟨q1, hq1, h⟩ := h
  refine g_X6_29 hX hq1 dX6_out_1 ?_
  refine vw_aload_n hX 0 dX6_out_4 rfl ?_
  obtain ⟨v2, hv2, h⟩ := h
  refine g_X6_340 hX hv2 dX6_out_5 ?_
  refine vw_iload_n hX 1 dX6_out_8 rfl ?_
  obtain ⟨n4, f3, hf3, hif3, h⟩ := h
  refine vw_iast hX hf3 hif3 dX6_out_9 ?_
  refine vw_nmW (fun w5 ew5 => ?_)
  have h := h w5 ew5
  refine vw_aload_n hX 0 dX6_out_10 rfl ?_
  refine vw_dup hX dX6_out_11 rfl ?_
  obtain ⟨v6, hv6, h⟩ := h
  refine g_X6_340 hX hv6 dX6_out_12 ?_
  refine vw_iconst hX (v := 1) dX6_out_15 (by decide) ?_
  refine vw_iadd hX dX6_out_16 ?_
  obtain ⟨f7, hf7, hlf7, h⟩ := h
  refine p_X6_340 hX hf7 hlf7 dX6_out_17 ?_
  refine vw_nmW (fun w8 ew8 => ?_)
  have h := h w8 ew8
  exact vw_vret hX hE dX6_out_20 ⟨rfl, h⟩
def B_X6_outNumber_18 (a0 : Nat) (a1 : Int32) (Q : Mm → Nat → Prop) : Nat → Int32 → Mm → Nat → Prop
  | 0, _, _, _ => False
  | n + 1, x2, w, z => (x2 ≤ 0 → Q w z) ∧
  (¬ x2 ≤ 0 → ¬ x2 = 0 ∧ isO w a0 10 ∧ F_X6_out a0 ((48 + ((((a1 / x2)) - ((a1 / x2)) / 10 * 10)))) w z (fun w4 z5 => ∀ i6 : Int32, i6 = (x2 / 10) → B_X6_outNumber_18 a0 a1 Q n i6 w4 z5))
set_option maxRecDepth 100000 in
set_option maxHeartbeats 4000000 in
theorem pB_X6_outNumber_18 {C : Cx} {d : Nat} {a0 : Nat} {a1 : Int32} {Q : Mm → Nat → Prop} {X : String → Mm → Nat → Prop} (hX : CX C cX6_outNumber RX6 3 none [] (d + 1)) (hE : EQ C (rV Q) X) : ∀ (n : Nat) (x2 : Int32) (w : Mm) (z mc ms : Nat), B_X6_outNumber_18 a0 a1 Q n x2 w z → VW C 18 [(0, .ref (a0)), (1, .int (a1)), (2, .int (x2))] [] w z mc ms := by
  intro n
  induction n with
  | zero => intro x2 w z mc ms h; exact False.elim h
  | succ n ih =>
    intro x2 w z mc ms h
    unfold B_X6_outNumber_18 at h
    refine vw_iload_n hX 2 dX6_outNumber_18 rfl ?_
    refine vw_if_le hX (tgt := 43) dX6_outNumber_19 (by decide) (fun c1 => ?_) (fun c1 => ?_)
    · have h := h.1 c1
      exact vw_vret hX hE dX6_outNumber_43 ⟨rfl, h⟩
    · have h := h.2 c1
      refine vw_aload_n hX 0 dX6_outNumber_22 rfl ?_
      refine vw_bipush hX (v := 48) dX6_outNumber_23 (by decide) ?_
      refine vw_iload_n hX 1 dX6_outNumber_25 rfl ?_
      refine vw_iload_n hX 2 dX6_outNumber_26 rfl ?_
      obtain ⟨hz0, h⟩ := h
      refine vw_idiv hX dX6_outNumber_27 hz0 ?_
      refine vw_bipush hX (v := 10) dX6_outNumber_28 (by decide) ?_
      refine vw_irem hX dX6_outNumber_30 (by decide) ?_
      refine vw_iadd hX dX6_outNumber_31 ?_
      obtain ⟨hr2, h⟩ := h
      refine s_X6_343 hX hr2 dX6_outNumber_32 (Nat.le_of_ble_eq_true rfl) (ct_X6_out (d := d + 0) (lst hX) h) (fun w4 z5 h => ?_)
      refine vw_iload_n hX 2 dX6_outNumber_35 rfl ?_
      refine vw_bipush hX (v := 10) dX6_outNumber_36 (by decide) ?_
      refine vw_idiv hX dX6_outNumber_38 (by decide) ?_
      refine vw_nmI (fun i6 ei6 => ?_)
      have h := h i6 ei6
      refine vw_istore_n hX dX6_outNumber_39 (by decide) rfl ?_
      refine vw_goto hX (tgt := 18) dX6_outNumber_40 (by decide) ?_
      exact vw_sub [1, 2, 0] rfl (ih _ _ _ _ _ h)
def B_X6_outNumber_2 (a0 : Nat) (a1 : Int32) (Q : Mm → Nat → Prop) : Nat → Int32 → Mm → Nat → Prop
  | 0, _, _, _ => False
  | n + 1, x2, w, z => ¬ x2 = 0 ∧ (((a1 / x2)) ≤ 9 → ∃ n, B_X6_outNumber_18 a0 a1 Q n x2 w z) ∧
  (¬ ((a1 / x2)) ≤ 9 → ∀ i8 : Int32, i8 = (x2 * 10) → B_X6_outNumber_2 a0 a1 Q n i8 w z)
set_option maxRecDepth 100000 in
set_option maxHeartbeats 4000000 in
theorem pB_X6_outNumber_2 {C : Cx} {d : Nat} {a0 : Nat} {a1 : Int32} {Q : Mm → Nat → Prop} {X : String → Mm → Nat → Prop} (hX : CX C cX6_outNumber RX6 3 none [] (d + 1)) (hE : EQ C (rV Q) X) : ∀ (n : Nat) (x2 : Int32) (w : Mm) (z mc ms : Nat), B_X6_outNumber_2 a0 a1 Q n x2 w z → VW C 2 [(0, .ref (a0)), (1, .int (a1)), (2, .int (x2))] [] w z mc ms := by
  intro n
  induction n with
  | zero => intro x2 w z mc ms h; exact False.elim h
  | succ n ih =>
    intro x2 w z mc ms h
    unfold B_X6_outNumber_2 at h
    refine vw_iload_n hX 1 dX6_outNumber_2 rfl ?_
    refine vw_iload_n hX 2 dX6_outNumber_3 rfl ?_
    obtain ⟨hz0, h⟩ := h
    refine vw_idiv hX dX6_outNumber_4 hz0 ?_
    refine vw_bipush hX (v := 9) dX6_outNumber_5 (by decide) ?_
    refine vw_icmp_le hX (tgt := 18) dX6_outNumber_7 (by decide) (fun c7 => ?_) (fun c7 => ?_)
    · have h := h.1 c7
      obtain ⟨n, h⟩ := h
      exact pB_X6_outNumber_18 hX hE n _ _ _ _ _ h
    · have h := h.2 c7
      refine vw_iload_n hX 2 dX6_outNumber_10 rfl ?_
      refine vw_bipush hX (v := 10) dX6_outNumber_11 (by decide) ?_
      refine vw_imul hX dX6_outNumber_13 ?_
      refine vw_nmI (fun i8 ei8 => ?_)
      have h := h i8 ei8
      refine vw_istore_n hX dX6_outNumber_14 (by decide) rfl ?_
      refine vw_goto hX (tgt := 2) dX6_outNumber_15 (by decide) ?_
      exact vw_sub [1, 2, 0] rfl (ih _ _ _ _ _ h)
def F_X6_outNumber (a0 : Nat) (a1 : Int32) (w : Mm) (z : Nat) (Q : Mm → Nat → Prop) : Prop :=
  ∃ n, B_X6_outNumber_2 a0 a1 Q n 1 w z
set_option maxRecDepth 100000 in
set_option maxHeartbeats 4000000 in
theorem ct_X6_outNumber {l : Launch} {g : Gp} {d : Nat} (hst : l.stackTraces = false) {a0 : Nat} {a1 : Int32} {w : Mm} {z mc ms : Nat} {Q : Mm → Nat → Prop} {X : String → Mm → Nat → Prop} (h : F_X6_outNumber a0 a1 w z Q) : Ct l g yX6_outNumber (.code yX6_outNumber cX6_outNumber 3 none) (d + 1) mc ms [.ref (a0), .int (a1)] w z (rV Q) X := by
  refine Ct.of hst (by decide) (Nat.le_of_ble_eq_true rfl) (fun C hX hE hg hl hNm => ?_)
  subst hg
  subst hl
  unfold F_X6_outNumber at h
  show VW C 0 [(0, .ref (a0)), (1, .int (a1))] [] w z mc ms
  refine vw_iconst hX (v := 1) dX6_outNumber_0 (by decide) ?_
  refine vw_istore_n hX dX6_outNumber_1 (by decide) rfl ?_
  obtain ⟨n, h⟩ := h
  exact vw_sub [1, 2, 0] rfl (pB_X6_outNumber_2 hX hE n _ _ _ _ _ h)
def B_X6_writeCases_125 (a0 : Nat) (K12 : Int32 → Mm → Nat → Prop) (Q : Int32 → Mm → Nat → Prop) (x1 : Int32) (w : Mm) (z : Nat) : Prop :=
  K12 ((x1 + 1)) w z
set_option maxRecDepth 100000 in
set_option maxHeartbeats 4000000 in
theorem pB_X6_writeCases_125 {C : Cx} {d : Nat} {a0 : Nat} {K12 : Int32 → Mm → Nat → Prop} {Q : Int32 → Mm → Nat → Prop} {X : String → Mm → Nat → Prop} (hX : CX C cX6_writeCases RX6 4 (some .int) [] (d + 3)) (hE : EQ C (rI Q) X) (hK12 : ∀ (x1 : Int32) (w : Mm) (z mc ms : Nat), K12 x1 w z → VW C 12 [(0, .ref (a0)), (1, .int (x1))] [] w z mc ms) : ∀ (x1 : Int32) (w : Mm) (z mc ms : Nat), B_X6_writeCases_125 a0 K12 Q x1 w z → VW C 125 [(0, .ref (a0)), (1, .int (x1))] [] w z mc ms := by
  intro x1 w z mc ms h
  unfold B_X6_writeCases_125 at h
  refine vw_iinc hX 1 (v := x1 + 1) dX6_writeCases_125 rfl rfl (by decide) rfl ?_
  refine vw_goto hX (tgt := 12) dX6_writeCases_128 (by decide) ?_
  exact vw_sub [1, 0] rfl (hK12 _ _ _ _ _ h)
def B_X6_writeCases_66 (a0 : Nat) (K12 : Int32 → Mm → Nat → Prop) (Q : Int32 → Mm → Nat → Prop) : Nat → Int32 → Int32 → Int32 → Mm → Nat → Prop
  | 0, _, _, _, _, _ => False
  | n + 1, x1, x2, x3, w, z => ∃ q1, fld w a0 10 0 = some (.ref (q1)) ∧ ∃ n3 f2, arI w q1 0 = some (n3, f2) ∧ vp_in x2 n3 ∧ (((f2 (x2 : Int32).toNatClampNeg)) ≤ x3 → isO w a0 10 ∧ F_X6_out a0 58 w z (fun w7 z8 => isO w7 a0 10 ∧ F_X6_due a0 x1 w7 z8 (fun r10 w11 z12 => isO w11 a0 10 ∧ F_X6_outNumber a0 r10 w11 z12 (fun w15 z16 => isO w15 a0 10 ∧ F_X6_isLate a0 x1 w15 z16 (fun r18 w19 z20 => (r18 = 0 → B_X6_writeCases_125 a0 K12 Q x1 w19 z20) ∧
  (¬ r18 = 0 → isO w19 a0 10 ∧ F_X6_out a0 33 w19 z20 (fun w24 z25 => B_X6_writeCases_125 a0 K12 Q x1 w24 z25))))))) ∧
  (¬ ((f2 (x2 : Int32).toNatClampNeg)) ≤ x3 → ∃ q26, fld w a0 10 0 = some (.ref (q26)) ∧ ∃ n28 f27, arI w q26 0 = some (n28, f27) ∧ vp_in ((((x2 + 1)) + x3)) n28 ∧ isO w a0 10 ∧ F_X6_out a0 ((f27 ((((x2 + 1)) + x3) : Int32).toNatClampNeg)) w z (fun w31 z32 => B_X6_writeCases_66 a0 K12 Q n x1 x2 ((x3 + 1)) w31 z32))
set_option maxRecDepth 100000 in
set_option maxHeartbeats 4000000 in
theorem pB_X6_writeCases_66 {C : Cx} {d : Nat} {a0 : Nat} {K12 : Int32 → Mm → Nat → Prop} {Q : Int32 → Mm → Nat → Prop} {X : String → Mm → Nat → Prop} (hX : CX C cX6_writeCases RX6 4 (some .int) [] (d + 3)) (hE : EQ C (rI Q) X) (hK12 : ∀ (x1 : Int32) (w : Mm) (z mc ms : Nat), K12 x1 w z → VW C 12 [(0, .ref (a0)), (1, .int (x1))] [] w z mc ms) : ∀ (n : Nat) (x1 : Int32) (x2 : Int32) (x3 : Int32) (w : Mm) (z mc ms : Nat), B_X6_writeCases_66 a0 K12 Q n x1 x2 x3 w z → VW C 66 [(0, .ref (a0)), (1, .int (x1)), (2, .int (x2)), (3, .int (x3))] [] w z mc ms := by
  intro n
  induction n with
  | zero => intro x1 x2 x3 w z mc ms h; exact False.elim h
  | succ n ih =>
    intro x1 x2 x3 w z mc ms h
    unfold B_X6_writeCases_66 at h
    refine vw_iload_n hX 3 dX6_writeCases_66 rfl ?_
    refine vw_aload_n hX 0 dX6_writeCases_67 rfl ?_
    obtain ⟨q1, hq1, h⟩ := h
    refine g_X6_9 hX hq1 dX6_writeCases_68 ?_
    refine vw_iload_n hX 2 dX6_writeCases_71 rfl ?_
    obtain ⟨n3, f2, hf2, hif2, h⟩ := h
    refine vw_iald hX hf2 hif2 dX6_writeCases_72 ?_
    refine vw_icmp_ge hX (tgt := 96) dX6_writeCases_73 (by decide) (fun c4 => ?_) (fun c4 => ?_)
    · have h := h.1 c4
      refine vw_aload_n hX 0 dX6_writeCases_96 rfl ?_
      refine vw_bipush hX (v := 58) dX6_writeCases_97 (by decide) ?_
      obtain ⟨hr5, h⟩ := h
      refine s_X6_343 hX hr5 dX6_writeCases_99 (Nat.le_of_ble_eq_true rfl) (ct_X6_out (d := d + 2) (lst hX) h) (fun w7 z8 h => ?_)
      refine vw_aload_n hX 0 dX6_writeCases_102 rfl ?_
      refine vw_aload_n hX 0 dX6_writeCases_103 rfl ?_
      refine vw_iload_n hX 1 dX6_writeCases_104 rfl ?_
      obtain ⟨hr9, h⟩ := h
      refine s_X6_147 hX hr9 dX6_writeCases_105 (Nat.le_of_ble_eq_true rfl) (ct_X6_due (d := d + 0) (lst hX) h) (fun r10 w11 z12 h => ?_)
      obtain ⟨hr13, h⟩ := h
      refine s_X6_346 hX hr13 dX6_writeCases_108 (Nat.le_of_ble_eq_true rfl) (ct_X6_outNumber (d := d + 1) (lst hX) h) (fun w15 z16 h => ?_)
      refine vw_aload_n hX 0 dX6_writeCases_111 rfl ?_
      refine vw_iload_n hX 1 dX6_writeCases_112 rfl ?_
      obtain ⟨hr17, h⟩ := h
      refine s_X6_141 hX hr17 dX6_writeCases_113 (Nat.le_of_ble_eq_true rfl) (ct_X6_isLate (d := d + 1) (lst hX) h) (fun r18 w19 z20 h => ?_)
      refine vw_if_eq hX (tgt := 125) dX6_writeCases_116 (by decide) (fun c21 => ?_) (fun c21 => ?_)
      · have h := h.1 c21
        exact vw_sub [0, 1] rfl (pB_X6_writeCases_125 hX hE hK12 _ _ _ _ _ h)
      · have h := h.2 c21
        refine vw_aload_n hX 0 dX6_writeCases_119 rfl ?_
        refine vw_bipush hX (v := 33) dX6_writeCases_120 (by decide) ?_
        obtain ⟨hr22, h⟩ := h
        refine s_X6_343 hX hr22 dX6_writeCases_122 (Nat.le_of_ble_eq_true rfl) (ct_X6_out (d := d + 2) (lst hX) h) (fun w24 z25 h => ?_)
        exact vw_sub [0, 1] rfl (pB_X6_writeCases_125 hX hE hK12 _ _ _ _ _ h)
    · have h := h.2 c4
      refine vw_aload_n hX 0 dX6_writeCases_76 rfl ?_
      refine vw_aload_n hX 0 dX6_writeCases_77 rfl ?_
      obtain ⟨q26, hq26, h⟩ := h
      refine g_X6_9 hX hq26 dX6_writeCases_78 ?_
      refine vw_iload_n hX 2 dX6_writeCases_81 rfl ?_
      refine vw_iconst hX (v := 1) dX6_writeCases_82 (by decide) ?_
      refine vw_iadd hX dX6_writeCases_83 ?_
      refine vw_iload_n hX 3 dX6_writeCases_84 rfl ?_
      refine vw_iadd hX dX6_writeCases_85 ?_
      obtain ⟨n28, f27, hf27, hif27, h⟩ := h
      refine vw_iald hX hf27 hif27 dX6_writeCases_86 ?_
      obtain ⟨hr29, h⟩ := h
      refine s_X6_343 hX hr29 dX6_writeCases_87 (Nat.le_of_ble_eq_true rfl) (ct_X6_out (d := d + 2) (lst hX) h) (fun w31 z32 h => ?_)
      refine vw_iinc hX 3 (v := x3 + 1) dX6_writeCases_90 rfl rfl (by decide) rfl ?_
      refine vw_goto hX (tgt := 66) dX6_writeCases_93 (by decide) ?_
      exact vw_sub [1, 2, 3, 0] rfl (ih _ _ _ _ _ _ _ h)
def B_X6_writeCases_48 (a0 : Nat) (K12 : Int32 → Mm → Nat → Prop) (Q : Int32 → Mm → Nat → Prop) (x1 : Int32) (w : Mm) (z : Nat) : Prop :=
  isO w a0 10 ∧ F_X6_ofCase a0 x1 0 w z (fun r34 w35 z36 => ∀ i37 : Int32, i37 = (((21 + ((13 * r34)))) + 6) → ∃ n, B_X6_writeCases_66 a0 K12 Q n x1 i37 0 w35 z36)
set_option maxRecDepth 100000 in
set_option maxHeartbeats 4000000 in
theorem pB_X6_writeCases_48 {C : Cx} {d : Nat} {a0 : Nat} {K12 : Int32 → Mm → Nat → Prop} {Q : Int32 → Mm → Nat → Prop} {X : String → Mm → Nat → Prop} (hX : CX C cX6_writeCases RX6 4 (some .int) [] (d + 3)) (hE : EQ C (rI Q) X) (hK12 : ∀ (x1 : Int32) (w : Mm) (z mc ms : Nat), K12 x1 w z → VW C 12 [(0, .ref (a0)), (1, .int (x1))] [] w z mc ms) : ∀ (x1 : Int32) (w : Mm) (z mc ms : Nat), B_X6_writeCases_48 a0 K12 Q x1 w z → VW C 48 [(0, .ref (a0)), (1, .int (x1))] [] w z mc ms := by
  intro x1 w z mc ms h
  unfold B_X6_writeCases_48 at h
  refine vw_bipush hX (v := 21) dX6_writeCases_48 (by decide) ?_
  refine vw_bipush hX (v := 13) dX6_writeCases_50 (by decide) ?_
  refine vw_aload_n hX 0 dX6_writeCases_52 rfl ?_
  refine vw_iload_n hX 1 dX6_writeCases_53 rfl ?_
  refine vw_iconst hX (v := 0) dX6_writeCases_54 (by decide) ?_
  obtain ⟨hr33, h⟩ := h
  refine s_X6_138 hX hr33 dX6_writeCases_55 (Nat.le_of_ble_eq_true rfl) (ct_X6_ofCase (d := d + 2) (lst hX) h) (fun r34 w35 z36 h => ?_)
  refine vw_imul hX dX6_writeCases_58 ?_
  refine vw_iadd hX dX6_writeCases_59 ?_
  refine vw_bipush hX (v := 6) dX6_writeCases_60 (by decide) ?_
  refine vw_iadd hX dX6_writeCases_62 ?_
  refine vw_nmI (fun i37 ei37 => ?_)
  have h := h i37 ei37
  refine vw_istore_n hX dX6_writeCases_63 (by decide) rfl ?_
  refine vw_iconst hX (v := 0) dX6_writeCases_64 (by decide) ?_
  refine vw_istore_n hX dX6_writeCases_65 (by decide) rfl ?_
  obtain ⟨n, h⟩ := h
  exact vw_sub [2, 3, 1, 0] rfl (pB_X6_writeCases_66 hX hE hK12 n _ _ _ _ _ _ _ h)
def B_X6_writeCases_12 (a0 : Nat) (Q : Int32 → Mm → Nat → Prop) : Nat → Int32 → Mm → Nat → Prop
  | 0, _, _, _ => False
  | n + 1, x1, w, z => ∃ q38, fld w a0 10 0 = some (.ref (q38)) ∧ ∃ n40 f39, arI w q38 0 = some (n40, f39) ∧ vp_in 4 n40 ∧ (((f39 (4 : Int32).toNatClampNeg)) ≤ x1 → ∃ v42, fld w a0 10 10 = some (.int (v42)) ∧ Q v42 w z) ∧
  (¬ ((f39 (4 : Int32).toNatClampNeg)) ≤ x1 → isO w a0 10 ∧ F_X6_ofCase a0 x1 2 w z (fun r44 w45 z46 => (¬ r44 = 4 → ∃ v48, fld w45 a0 10 10 = some (.int (v48)) ∧ (v48 ≤ 0 → B_X6_writeCases_48 a0 (B_X6_writeCases_12 a0 Q n) Q x1 w45 z46) ∧
  (¬ v48 ≤ 0 → isO w45 a0 10 ∧ F_X6_out a0 32 w45 z46 (fun w52 z53 => B_X6_writeCases_48 a0 (B_X6_writeCases_12 a0 Q n) Q x1 w52 z53))) ∧
  (r44 = 4 → B_X6_writeCases_125 a0 (B_X6_writeCases_12 a0 Q n) Q x1 w45 z46)))
set_option maxRecDepth 100000 in
set_option maxHeartbeats 4000000 in
theorem pB_X6_writeCases_12 {C : Cx} {d : Nat} {a0 : Nat} {Q : Int32 → Mm → Nat → Prop} {X : String → Mm → Nat → Prop} (hX : CX C cX6_writeCases RX6 4 (some .int) [] (d + 3)) (hE : EQ C (rI Q) X) : ∀ (n : Nat) (x1 : Int32) (w : Mm) (z mc ms : Nat), B_X6_writeCases_12 a0 Q n x1 w z → VW C 12 [(0, .ref (a0)), (1, .int (x1))] [] w z mc ms := by
  intro n
  induction n with
  | zero => intro x1 w z mc ms h; exact False.elim h
  | succ n ih =>
    intro x1 w z mc ms h
    unfold B_X6_writeCases_12 at h
    refine vw_iload_n hX 1 dX6_writeCases_12 rfl ?_
    refine vw_aload_n hX 0 dX6_writeCases_13 rfl ?_
    obtain ⟨q38, hq38, h⟩ := h
    refine g_X6_9 hX hq38 dX6_writeCases_14 ?_
    refine vw_iconst hX (v := 4) dX6_writeCases_17 (by decide) ?_
    obtain ⟨n40, f39, hf39, hif39, h⟩ := h
    refine vw_iald hX hf39 hif39 dX6_writeCases_18 ?_
    refine vw_icmp_ge hX (tgt := 131) dX6_writeCases_19 (by decide) (fun c41 => ?_) (fun c41 => ?_)
    · have h := h.1 c41
      refine vw_aload_n hX 0 dX6_writeCases_131 rfl ?_
      obtain ⟨v42, hv42, h⟩ := h
      refine g_X6_340 hX hv42 dX6_writeCases_132 ?_
      exact vw_iret hX hE dX6_writeCases_135 ⟨_, rfl, h⟩
    · have h := h.2 c41
      refine vw_aload_n hX 0 dX6_writeCases_22 rfl ?_
      refine vw_iload_n hX 1 dX6_writeCases_23 rfl ?_
      refine vw_iconst hX (v := 2) dX6_writeCases_24 (by decide) ?_
      obtain ⟨hr43, h⟩ := h
      refine s_X6_138 hX hr43 dX6_writeCases_25 (Nat.le_of_ble_eq_true rfl) (ct_X6_ofCase (d := d + 2) (lst hX) h) (fun r44 w45 z46 h => ?_)
      refine vw_iconst hX (v := 4) dX6_writeCases_28 (by decide) ?_
      refine vw_icmp_ne hX (tgt := 35) dX6_writeCases_29 (by decide) (fun c47 => ?_) (fun c47 => ?_)
      · have h := h.1 c47
        refine vw_aload_n hX 0 dX6_writeCases_35 rfl ?_
        obtain ⟨v48, hv48, h⟩ := h
        refine g_X6_340 hX hv48 dX6_writeCases_36 ?_
        refine vw_if_le hX (tgt := 48) dX6_writeCases_39 (by decide) (fun c49 => ?_) (fun c49 => ?_)
        · have h := h.1 c49
          exact pB_X6_writeCases_48 hX hE ih _ _ _ _ _ h
        · have h := h.2 c49
          refine vw_aload_n hX 0 dX6_writeCases_42 rfl ?_
          refine vw_bipush hX (v := 32) dX6_writeCases_43 (by decide) ?_
          obtain ⟨hr50, h⟩ := h
          refine s_X6_343 hX hr50 dX6_writeCases_45 (Nat.le_of_ble_eq_true rfl) (ct_X6_out (d := d + 2) (lst hX) h) (fun w52 z53 h => ?_)
          exact pB_X6_writeCases_48 hX hE ih _ _ _ _ _ h
      · have h := h.2 c47
        refine vw_goto hX (tgt := 125) dX6_writeCases_32 (by decide) ?_
        exact pB_X6_writeCases_125 hX hE ih _ _ _ _ _ h
def F_X6_writeCases (a0 : Nat) (w : Mm) (z : Nat) (Q : Int32 → Mm → Nat → Prop) : Prop :=
  ∃ f1, obj w a0 10 = some f1 ∧ 6 < f1.length ∧ ∀ w2, w2 = mset w a0 (.inl (10, f1.set 6 (.int (0)))) → ∃ f3, obj w2 a0 10 = some f3 ∧ 10 < f3.length ∧ ∀ w4, w4 = mset w2 a0 (.inl (10, f3.set 10 (.int (0)))) → ∃ n, B_X6_writeCases_12 a0 Q n 0 w4 z
set_option maxRecDepth 100000 in
set_option maxHeartbeats 4000000 in
theorem ct_X6_writeCases {l : Launch} {g : Gp} {d : Nat} (hst : l.stackTraces = false) {a0 : Nat} {w : Mm} {z mc ms : Nat} {Q : Int32 → Mm → Nat → Prop} {X : String → Mm → Nat → Prop} (h : F_X6_writeCases a0 w z Q) : Ct l g yX6_writeCases (.code yX6_writeCases cX6_writeCases 4 (some .int)) (d + 3) mc ms [.ref (a0)] w z (rI Q) X := by
  refine Ct.of hst (by decide) (Nat.le_of_ble_eq_true rfl) (fun C hX hE hg hl hNm => ?_)
  subst hg
  subst hl
  unfold F_X6_writeCases at h
  show VW C 0 [(0, .ref (a0))] [] w z mc ms
  refine vw_aload_n hX 0 dX6_writeCases_0 rfl ?_
  refine vw_iconst hX (v := 0) dX6_writeCases_1 (by decide) ?_
  obtain ⟨f1, hf1, hlf1, h⟩ := h
  refine p_X6_64 hX hf1 hlf1 dX6_writeCases_2 ?_
  refine vw_nmW (fun w2 ew2 => ?_)
  have h := h w2 ew2
  refine vw_aload_n hX 0 dX6_writeCases_5 rfl ?_
  refine vw_iconst hX (v := 0) dX6_writeCases_6 (by decide) ?_
  obtain ⟨f3, hf3, hlf3, h⟩ := h
  refine p_X6_340 hX hf3 hlf3 dX6_writeCases_7 ?_
  refine vw_nmW (fun w4 ew4 => ?_)
  have h := h w4 ew4
  refine vw_iconst hX (v := 0) dX6_writeCases_10 (by decide) ?_
  refine vw_istore_n hX dX6_writeCases_11 (by decide) rfl ?_
  obtain ⟨n, h⟩ := h
  exact vw_sub [1, 0] rfl (pB_X6_writeCases_12 hX hE n _ _ _ _ _ h)
def F_X6_outputByte (a0 : Nat) (a1 : Int32) (w : Mm) (z : Nat) (Q : Int32 → Mm → Nat → Prop) : Prop :=
  ∃ f1, obj w a0 10 = some f1 ∧ 6 < f1.length ∧ ∀ w2, w2 = mset w a0 (.inl (10, f1.set 6 (.int (0)))) → ∃ v3, fld w2 a0 10 10 = some (.int (v3)) ∧ F_X6_isIn a1 0 ((v3 - 1)) w2 z (fun r4 w5 z6 => (r4 = 0 → Q (-1) w5 z6) ∧
  (¬ r4 = 0 → ∃ q8, fld w5 a0 10 8 = some (.ref (q8)) ∧ ∃ n10 f9, arI w5 q8 0 = some (n10, f9) ∧ vp_in a1 n10 ∧ Q ((f9 (a1 : Int32).toNatClampNeg)) w5 z6))
set_option maxRecDepth 100000 in
set_option maxHeartbeats 4000000 in
theorem ct_X6_outputByte {l : Launch} {g : Gp} {d : Nat} (hst : l.stackTraces = false) {a0 : Nat} {a1 : Int32} {w : Mm} {z mc ms : Nat} {Q : Int32 → Mm → Nat → Prop} {X : String → Mm → Nat → Prop} (h : F_X6_outputByte a0 a1 w z Q) : Ct l g yX6_outputByte (.code yX6_outputByte cX6_outputByte 2 (some .int)) (d + 1) mc ms [.ref (a0), .int (a1)] w z (rI Q) X := by
  refine Ct.of hst (by decide) (Nat.le_of_ble_eq_true rfl) (fun C hX hE hg hl hNm => ?_)
  subst hg
  subst hl
  unfold F_X6_outputByte at h
  show VW C 0 [(0, .ref (a0)), (1, .int (a1))] [] w z mc ms
  refine vw_aload_n hX 0 dX6_outputByte_0 rfl ?_
  refine vw_iconst hX (v := 0) dX6_outputByte_1 (by decide) ?_
  obtain ⟨f1, hf1, hlf1, h⟩ := h
  refine p_X6_64 hX hf1 hlf1 dX6_outputByte_2 ?_
  refine vw_nmW (fun w2 ew2 => ?_)
  have h := h w2 ew2
  refine vw_iload_n hX 1 dX6_outputByte_5 rfl ?_
  refine vw_iconst hX (v := 0) dX6_outputByte_6 (by decide) ?_
  refine vw_aload_n hX 0 dX6_outputByte_7 rfl ?_
  obtain ⟨v3, hv3, h⟩ := h
  refine g_X6_340 hX hv3 dX6_outputByte_8 ?_
  refine vw_iconst hX (v := 1) dX6_outputByte_11 (by decide) ?_
  refine vw_isub hX dX6_outputByte_12 ?_
  refine s_X6_77 hX dX6_outputByte_13 (Nat.le_of_ble_eq_true rfl) (ct_X6_isIn (d := d + 0) (lst hX) h) (fun r4 w5 z6 h => ?_)
  refine vw_if_eq hX (tgt := 28) dX6_outputByte_16 (by decide) (fun c7 => ?_) (fun c7 => ?_)
  · have h := h.1 c7
    refine vw_iconst hX (v := (-1)) dX6_outputByte_28 (by decide) ?_
    exact vw_iret hX hE dX6_outputByte_29 ⟨_, rfl, h⟩
  · have h := h.2 c7
    refine vw_aload_n hX 0 dX6_outputByte_19 rfl ?_
    obtain ⟨q8, hq8, h⟩ := h
    refine g_X6_29 hX hq8 dX6_outputByte_20 ?_
    refine vw_iload_n hX 1 dX6_outputByte_23 rfl ?_
    obtain ⟨n10, f9, hf9, hif9, h⟩ := h
    refine vw_iald hX hf9 hif9 dX6_outputByte_24 ?_
    refine vw_goto hX (tgt := 29) dX6_outputByte_25 (by decide) ?_
    exact vw_iret hX hE dX6_outputByte_29 ⟨_, rfl, h⟩
