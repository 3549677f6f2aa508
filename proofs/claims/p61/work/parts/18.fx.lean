def B_X5_init_131 (a0 : Nat) (Q : Mm → Nat → Prop) : Nat → Int32 → Mm → Nat → Nat → Nat → Prop
  | 0, _, _, _, _, _ => False
  | n + 1, x1, w, z, mc, ms => (8 ≤ x1 → ∃ q2, fld w a0 9 0 = some (.ref (q2)) ∧ ∀ q3, isLit w q3 lit_1 → isO w q2 7 ∧ F_X3_addPassenger q2 q3 9000 w z (fun w6 z7 => ∃ q8, fld w6 a0 9 0 = some (.ref (q8)) ∧ ∀ q9, isLit w6 q9 lit_2 → isO w6 q8 7 ∧ F_X3_addPassenger q8 q9 1200 w6 z7 (fun w12 z13 => ∃ q14, fld w12 a0 9 0 = some (.ref (q14)) ∧ ∀ q15, isLit w12 q15 lit_3 → isO w12 q14 7 ∧ F_X3_addPassenger q14 q15 20000 w12 z13 (fun w18 z19 => Q w18 z19)))) ∧
  (¬ 8 ≤ x1 → ∃ q20, fld w a0 9 0 = some (.ref (q20)) ∧ isO w q20 7 ∧ F_X3_addStop q20 ((x1 / 3)) w z (fun w23 z24 => B_X5_init_131 a0 Q n ((x1 + 1)) w23 z24 mc ms))
set_option maxRecDepth 100000 in
set_option maxHeartbeats 4000000 in
theorem pB_X5_init_131 {C : Cx} {d : Nat} {a0 : Nat} {Q : Mm → Nat → Prop} {X : String → Mm → Nat → Prop} (hX : CX C cX5_init RX5 2 none [] (d + 3)) (hE : EQ C (rV Q) X) (hNm : nmC C = "<init>") : ∀ (n : Nat) (x1 : Int32) (w : Mm) (z mc ms : Nat), B_X5_init_131 a0 Q n x1 w z mc ms → VW C 131 [(0, .ref (a0)), (1, .int (x1))] [] w z mc ms := by
  intro n
  induction n with
  | zero => intro x1 w z mc ms h; exact False.elim h
  | succ n ih =>
    intro x1 w z mc ms h
    unfold B_X5_init_131 at h
    refine vw_iload_n hX 1 dX5_init_131 rfl ?_
    refine vw_bipush hX (v := 8) dX5_init_132 (by decide) ?_
    refine vw_icmp_ge hX (tgt := 153) dX5_init_134 (by decide) (fun c1 => ?_) (fun c1 => ?_)
    · have h := h.1 c1
      refine vw_aload_n hX 0 dX5_init_153 rfl ?_
      obtain ⟨q2, hq2, h⟩ := h
      refine g_X5_10 hX hq2 dX5_init_154 ?_
      refine l_X5_50 hX dX5_init_157 (fun q3 hq3 => ?_)
      have h := h q3 hq3
      refine vw_sipush hX (v := 9000) dX5_init_159 (by decide) ?_
      obtain ⟨hr4, h⟩ := h
      refine s_X5_52 hX hr4 dX5_init_162 (Nat.le_of_ble_eq_true rfl) (ct_X3_addPassenger (d := d + 0) (lst hX) h) (fun w6 z7 h => ?_)
      refine vw_aload_n hX 0 dX5_init_165 rfl ?_
      obtain ⟨q8, hq8, h⟩ := h
      refine g_X5_10 hX hq8 dX5_init_166 ?_
      refine l_X5_56 hX dX5_init_169 (fun q9 hq9 => ?_)
      have h := h q9 hq9
      refine vw_sipush hX (v := 1200) dX5_init_171 (by decide) ?_
      obtain ⟨hr10, h⟩ := h
      refine s_X5_52 hX hr10 dX5_init_174 (Nat.le_of_ble_eq_true rfl) (ct_X3_addPassenger (d := d + 0) (lst hX) h) (fun w12 z13 h => ?_)
      refine vw_aload_n hX 0 dX5_init_177 rfl ?_
      obtain ⟨q14, hq14, h⟩ := h
      refine g_X5_10 hX hq14 dX5_init_178 ?_
      refine l_X5_58 hX dX5_init_181 (fun q15 hq15 => ?_)
      have h := h q15 hq15
      refine vw_sipush hX (v := 20000) dX5_init_183 (by decide) ?_
      obtain ⟨hr16, h⟩ := h
      refine s_X5_52 hX hr16 dX5_init_186 (Nat.le_of_ble_eq_true rfl) (ct_X3_addPassenger (d := d + 0) (lst hX) h) (fun w18 z19 h => ?_)
      exact vw_vret hX hE dX5_init_189 ⟨rfl, h⟩
    · have h := h.2 c1
      refine vw_aload_n hX 0 dX5_init_137 rfl ?_
      obtain ⟨q20, hq20, h⟩ := h
      refine g_X5_10 hX hq20 dX5_init_138 ?_
      refine vw_iload_n hX 1 dX5_init_141 rfl ?_
      refine vw_iconst hX (v := 3) dX5_init_142 (by decide) ?_
      refine vw_idiv hX dX5_init_143 (by decide) ?_
      obtain ⟨hr21, h⟩ := h
      refine s_X5_46 hX hr21 dX5_init_144 (Nat.le_of_ble_eq_true rfl) (ct_X3_addStop (d := d + 2) (lst hX) h) (fun w23 z24 h => ?_)
      refine vw_iinc hX 1 (v := x1 + 1) dX5_init_147 rfl rfl (by decide) rfl ?_
      refine vw_goto hX (tgt := 131) dX5_init_150 (by decide) ?_
      exact vw_sub [1, 0] rfl (ih _ _ _ _ _ h)
def B_X5_init_105 (a0 : Nat) (Q : Mm → Nat → Prop) : Nat → Int32 → Mm → Nat → Nat → Nat → Prop
  | 0, _, _, _, _, _ => False
  | n + 1, x1, w, z, mc, ms => (2 ≤ x1 → ∃ nn, B_X5_init_131 a0 Q nn 0 w z mc ms) ∧
  (¬ 2 ≤ x1 → ∃ q26, fld w a0 9 4 = some (.ref (q26)) ∧ 1 ≤ mc ∧ 12 ≤ ms ∧ ∀ w27, w27 = mset w z (.inl (7, [.int 0, .int 0, .int 0, .int 0, .int 0, .int 0, .int 0, .int 0, .null, .null, .null, .null])) → ∃ k31 k32, k31 ≤ (mc - 1) ∧ k32 ≤ (ms - 12) ∧ F_X3_init z w27 ((z + 1)) k31 k32 (fun w29 z30 => ∃ n34 f33 s35, arR w29 q26 4 = some (n34, f33) ∧ vp_in x1 n34 ∧ w29 z = some (true, .inl (7, s35)) ∧ ∀ w36, w36 = mset w29 q26 (.inr (4, n34, .inr (.inr (va_up f33 (x1 : Int32).toNatClampNeg (some z))))) → B_X5_init_105 a0 Q n ((x1 + 1)) w36 z30 (((mc - 1) - k31)) (((ms - 12) - k32))))
set_option maxRecDepth 100000 in
set_option maxHeartbeats 4000000 in
theorem pB_X5_init_105 {C : Cx} {d : Nat} {a0 : Nat} {Q : Mm → Nat → Prop} {X : String → Mm → Nat → Prop} (hX : CX C cX5_init RX5 2 none [] (d + 3)) (hE : EQ C (rV Q) X) (hNm : nmC C = "<init>") : ∀ (n : Nat) (x1 : Int32) (w : Mm) (z mc ms : Nat), B_X5_init_105 a0 Q n x1 w z mc ms → VW C 105 [(0, .ref (a0)), (1, .int (x1))] [] w z mc ms := by
  intro n
  induction n with
  | zero => intro x1 w z mc ms h; exact False.elim h
  | succ n ih =>
    intro x1 w z mc ms h
    unfold B_X5_init_105 at h
    refine vw_iload_n hX 1 dX5_init_105 rfl ?_
    refine vw_iconst hX (v := 2) dX5_init_106 (by decide) ?_
    refine vw_icmp_ge hX (tgt := 129) dX5_init_107 (by decide) (fun c25 => ?_) (fun c25 => ?_)
    · have h := h.1 c25
      refine vw_iconst hX (v := 0) dX5_init_129 (by decide) ?_
      refine vw_istore_n hX dX5_init_130 (by decide) rfl ?_
      obtain ⟨nn, h⟩ := h
      exact vw_sub [1, 0] rfl (pB_X5_init_131 hX hE hNm nn _ _ _ _ _ h)
    · have h := h.2 c25
      refine vw_aload_n hX 0 dX5_init_110 rfl ?_
      obtain ⟨q26, hq26, h⟩ := h
      refine g_X5_23 hX hq26 dX5_init_111 ?_
      refine vw_iload_n hX 1 dX5_init_114 rfl ?_
      obtain ⟨hm1, hm2, h⟩ := h
      refine n_X5_7 hX hm1 hm2 dX5_init_115 ?_
      refine vw_nmW (fun w27 ew27 => ?_)
      have h := h w27 ew27
      refine vw_dup hX dX5_init_118 rfl ?_
      obtain ⟨k31, k32, hm1, hm2, h⟩ := h
      refine s_X5_9 hX dX5_init_119 (Nat.le_of_ble_eq_true rfl) hm1 hm2 (ct_X3_init (d := d + 0) (lst hX) h) (fun w29 z30 h => ?_)
      obtain ⟨n34, f33, s35, hf33, hif33, hvf33, h⟩ := h
      refine vw_aast hX (ci := 7) 4 (by decide) rfl rfl hf33 hif33 hvf33 dX5_init_122 ?_
      refine vw_nmW (fun w36 ew36 => ?_)
      have h := h w36 ew36
      refine vw_iinc hX 1 (v := x1 + 1) dX5_init_123 rfl rfl (by decide) rfl ?_
      refine vw_goto hX (tgt := 105) dX5_init_126 (by decide) ?_
      exact vw_sub [1, 0] rfl (ih _ _ _ _ _ h)
def B_X5_init_78 (a0 : Nat) (Q : Mm → Nat → Prop) : Nat → Int32 → Mm → Nat → Nat → Nat → Prop
  | 0, _, _, _, _, _ => False
  | n + 1, x1, w, z, mc, ms => (8 ≤ x1 → ∃ nn, B_X5_init_105 a0 Q nn 0 w z mc ms) ∧
  (¬ 8 ≤ x1 → ∃ q38, fld w a0 9 2 = some (.ref (q38)) ∧ 1 ≤ mc ∧ 12 ≤ ms ∧ ∀ w39, w39 = mset w z (.inl (7, [.int 0, .int 0, .int 0, .int 0, .int 0, .int 0, .int 0, .int 0, .null, .null, .null, .null])) → ∃ k43 k44, k43 ≤ (mc - 1) ∧ k44 ≤ (ms - 12) ∧ F_X3_init z w39 ((z + 1)) k43 k44 (fun w41 z42 => ∃ n46 f45 s47, arR w41 q38 4 = some (n46, f45) ∧ vp_in x1 n46 ∧ w41 z = some (true, .inl (7, s47)) ∧ ∀ w48, w48 = mset w41 q38 (.inr (4, n46, .inr (.inr (va_up f45 (x1 : Int32).toNatClampNeg (some z))))) → B_X5_init_78 a0 Q n ((x1 + 1)) w48 z42 (((mc - 1) - k43)) (((ms - 12) - k44))))
set_option maxRecDepth 100000 in
set_option maxHeartbeats 4000000 in
theorem pB_X5_init_78 {C : Cx} {d : Nat} {a0 : Nat} {Q : Mm → Nat → Prop} {X : String → Mm → Nat → Prop} (hX : CX C cX5_init RX5 2 none [] (d + 3)) (hE : EQ C (rV Q) X) (hNm : nmC C = "<init>") : ∀ (n : Nat) (x1 : Int32) (w : Mm) (z mc ms : Nat), B_X5_init_78 a0 Q n x1 w z mc ms → VW C 78 [(0, .ref (a0)), (1, .int (x1))] [] w z mc ms := by
  intro n
  induction n with
  | zero => intro x1 w z mc ms h; exact False.elim h
  | succ n ih =>
    intro x1 w z mc ms h
    unfold B_X5_init_78 at h
    refine vw_iload_n hX 1 dX5_init_78 rfl ?_
    refine vw_bipush hX (v := 8) dX5_init_79 (by decide) ?_
    refine vw_icmp_ge hX (tgt := 103) dX5_init_81 (by decide) (fun c37 => ?_) (fun c37 => ?_)
    · have h := h.1 c37
      refine vw_iconst hX (v := 0) dX5_init_103 (by decide) ?_
      refine vw_istore_n hX dX5_init_104 (by decide) rfl ?_
      obtain ⟨nn, h⟩ := h
      exact vw_sub [1, 0] rfl (pB_X5_init_105 hX hE hNm nn _ _ _ _ _ h)
    · have h := h.2 c37
      refine vw_aload_n hX 0 dX5_init_84 rfl ?_
      obtain ⟨q38, hq38, h⟩ := h
      refine g_X5_19 hX hq38 dX5_init_85 ?_
      refine vw_iload_n hX 1 dX5_init_88 rfl ?_
      obtain ⟨hm1, hm2, h⟩ := h
      refine n_X5_7 hX hm1 hm2 dX5_init_89 ?_
      refine vw_nmW (fun w39 ew39 => ?_)
      have h := h w39 ew39
      refine vw_dup hX dX5_init_92 rfl ?_
      obtain ⟨k43, k44, hm1, hm2, h⟩ := h
      refine s_X5_9 hX dX5_init_93 (Nat.le_of_ble_eq_true rfl) hm1 hm2 (ct_X3_init (d := d + 0) (lst hX) h) (fun w41 z42 h => ?_)
      obtain ⟨n46, f45, s47, hf45, hif45, hvf45, h⟩ := h
      refine vw_aast hX (ci := 7) 4 (by decide) rfl rfl hf45 hif45 hvf45 dX5_init_96 ?_
      refine vw_nmW (fun w48 ew48 => ?_)
      have h := h w48 ew48
      refine vw_iinc hX 1 (v := x1 + 1) dX5_init_97 rfl rfl (by decide) rfl ?_
      refine vw_goto hX (tgt := 78) dX5_init_100 (by decide) ?_
      exact vw_sub [1, 0] rfl (ih _ _ _ _ _ h)
def F_X5_init (a0 : Nat) (w : Mm) (z : Nat) (mc ms : Nat) (Q : Mm → Nat → Prop) : Prop :=
  1 ≤ mc ∧ 12 ≤ ms ∧ ∀ w1, w1 = mset w z (.inl (7, [.int 0, .int 0, .int 0, .int 0, .int 0, .int 0, .int 0, .int 0, .null, .null, .null, .null])) → ∃ k5 k6, k5 ≤ (mc - 1) ∧ k6 ≤ (ms - 12) ∧ F_X3_init z w1 ((z + 1)) k5 k6 (fun w3 z4 => ∃ f7, obj w3 a0 9 = some f7 ∧ 0 < f7.length ∧ ∀ w8, w8 = mset w3 a0 (.inl (9, f7.set 0 (.ref (z)))) → 1 ≤ (((mc - 1) - k5)) ∧ 12 ≤ (((ms - 12) - k6)) ∧ ∀ w9, w9 = mset w8 z4 (.inl (7, [.int 0, .int 0, .int 0, .int 0, .int 0, .int 0, .int 0, .int 0, .null, .null, .null, .null])) → ∃ k13 k14, k13 ≤ (((mc - 1) - k5) - 1) ∧ k14 ≤ (((ms - 12) - k6) - 12) ∧ F_X3_init z4 w9 ((z4 + 1)) k13 k14 (fun w11 z12 => ∃ f15, obj w11 a0 9 = some f15 ∧ 1 < f15.length ∧ ∀ w16, w16 = mset w11 a0 (.inl (9, f15.set 1 (.ref (z4)))) → ¬ (8 : Int32) < 0 ∧ ∃ n18, (8 : Int32).toNatClampNeg = n18 ∧ n18 ≤ 10000000 ∧ 1 ≤ (((((mc - 1) - k5) - 1) - k13)) ∧ n18 ≤ (((((ms - 12) - k6) - 12) - k14)) ∧ ∀ w17, w17 = mset w16 z12 (.inr (4, n18, .inr (.inr (fun _ => none)))) → ∃ f19, obj w17 a0 9 = some f19 ∧ 2 < f19.length ∧ ∀ w20, w20 = mset w17 a0 (.inl (9, f19.set 2 (.ref (z12)))) → ¬ (2 : Int32) < 0 ∧ ∃ n22, (2 : Int32).toNatClampNeg = n22 ∧ n22 ≤ 10000000 ∧ 1 ≤ ((((((mc - 1) - k5) - 1) - k13) - 1)) ∧ n22 ≤ ((((((ms - 12) - k6) - 12) - k14) - n18)) ∧ ∀ w21, w21 = mset w20 ((z12 + 1)) (.inr (4, n22, .inr (.inr (fun _ => none)))) → ∃ f23, obj w21 a0 9 = some f23 ∧ 4 < f23.length ∧ ∀ w24, w24 = mset w21 a0 (.inl (9, f23.set 4 (.ref ((z12 + 1))))) → ¬ (2 : Int32) < 0 ∧ ∃ n26, (2 : Int32).toNatClampNeg = n26 ∧ n26 ≤ 10000000 ∧ 1 ≤ (((((((mc - 1) - k5) - 1) - k13) - 1) - 1)) ∧ n26 ≤ (((((((ms - 12) - k6) - 12) - k14) - n18) - n22)) ∧ ∀ w25, w25 = mset w24 (((z12 + 1) + 1)) (.inr (2, n26, .inl (fun _ => 0))) → ∃ f27, obj w25 a0 9 = some f27 ∧ 5 < f27.length ∧ ∀ w28, w28 = mset w25 a0 (.inl (9, f27.set 5 (.ref (((z12 + 1) + 1))))) → 1 ≤ ((((((((mc - 1) - k5) - 1) - k13) - 1) - 1) - 1)) ∧ 9 ≤ ((((((((ms - 12) - k6) - 12) - k14) - n18) - n22) - n26)) ∧ ∀ w29, w29 = mset w28 ((((z12 + 1) + 1) + 1)) (.inl (5, [.null, .null, .int 0, .int 0, .int 0, .int 0, .int 0, .int 0, .int 0])) → ∃ q30, fld w29 a0 9 1 = some (.ref (q30)) ∧ ∃ k34 k35, k34 ≤ ((((((((mc - 1) - k5) - 1) - k13) - 1) - 1) - 1) - 1) ∧ k35 ≤ ((((((((ms - 12) - k6) - 12) - k14) - n18) - n22) - n26) - 9) ∧ F_X1_init ((((z12 + 1) + 1) + 1)) q30 w29 (((((z12 + 1) + 1) + 1) + 1)) k34 k35 (fun w32 z33 => ∃ f36, obj w32 a0 9 = some f36 ∧ 6 < f36.length ∧ ∀ w37, w37 = mset w32 a0 (.inl (9, f36.set 6 (.ref ((((z12 + 1) + 1) + 1))))) → 1 ≤ ((((((((((mc - 1) - k5) - 1) - k13) - 1) - 1) - 1) - 1) - k34)) ∧ 4 ≤ ((((((((((ms - 12) - k6) - 12) - k14) - n18) - n22) - n26) - 9) - k35)) ∧ ∀ w38, w38 = mset w37 z33 (.inl (1, [.null, .int 0, .int 0, .int 0])) → ∃ k42 k43, k42 ≤ ((((((((((mc - 1) - k5) - 1) - k13) - 1) - 1) - 1) - 1) - k34) - 1) ∧ k43 ≤ ((((((((((ms - 12) - k6) - 12) - k14) - n18) - n22) - n26) - 9) - k35) - 4) ∧ F_J4_init_da8c8 z33 w38 ((z33 + 1)) k42 k43 (fun w40 z41 => ∃ f44, obj w40 a0 9 = some f44 ∧ 7 < f44.length ∧ ∀ w45, w45 = mset w40 a0 (.inl (9, f44.set 7 (.ref (z33)))) → ∃ nn, B_X5_init_78 a0 Q nn 0 w45 z41 ((((((((((((mc - 1) - k5) - 1) - k13) - 1) - 1) - 1) - 1) - k34) - 1) - k42)) ((((((((((((ms - 12) - k6) - 12) - k14) - n18) - n22) - n26) - 9) - k35) - 4) - k43))))))
set_option maxRecDepth 100000 in
set_option maxHeartbeats 4000000 in
theorem ct_X5_init {l : Launch} {g : Gp} {d : Nat} (hst : l.stackTraces = false) {a0 : Nat} {w : Mm} {z mc ms : Nat} {Q : Mm → Nat → Prop} {X : String → Mm → Nat → Prop} (h : F_X5_init a0 w z mc ms Q) : Ct l g yX5_init (.code yX5_init cX5_init 2 none) (d + 3) mc ms [.ref (a0)] w z (rV Q) X := by
  refine Ct.of hst (by decide) (Nat.le_of_ble_eq_true rfl) (fun C hX hE hg hl hNm => ?_)
  subst hg
  subst hl
  unfold F_X5_init at h
  show VW C 0 [(0, .ref (a0))] [] w z mc ms
  refine vw_aload_n hX 0 dX5_init_0 rfl ?_
  refine vw_objInit hX kw_37 kw_38 kw_39 (Nat.le_of_ble_eq_true rfl) dX5_init_1 ?_
  refine vw_aload_n hX 0 dX5_init_4 rfl ?_
  obtain ⟨hm1, hm2, h⟩ := h
  refine n_X5_7 hX hm1 hm2 dX5_init_5 ?_
  refine vw_nmW (fun w1 ew1 => ?_)
  have h := h w1 ew1
  refine vw_dup hX dX5_init_8 rfl ?_
  obtain ⟨k5, k6, hm1, hm2, h⟩ := h
  refine s_X5_9 hX dX5_init_9 (Nat.le_of_ble_eq_true rfl) hm1 hm2 (ct_X3_init (d := d + 0) (lst hX) h) (fun w3 z4 h => ?_)
  obtain ⟨f7, hf7, hlf7, h⟩ := h
  refine p_X5_10 hX hNm hf7 hlf7 dX5_init_12 ?_
  refine vw_nmW (fun w8 ew8 => ?_)
  have h := h w8 ew8
  refine vw_aload_n hX 0 dX5_init_15 rfl ?_
  obtain ⟨hm1, hm2, h⟩ := h
  refine n_X5_7 hX hm1 hm2 dX5_init_16 ?_
  refine vw_nmW (fun w9 ew9 => ?_)
  have h := h w9 ew9
  refine vw_dup hX dX5_init_19 rfl ?_
  obtain ⟨k13, k14, hm1, hm2, h⟩ := h
  refine s_X5_9 hX dX5_init_20 (Nat.le_of_ble_eq_true rfl) hm1 hm2 (ct_X3_init (d := d + 0) (lst hX) h) (fun w11 z12 h => ?_)
  obtain ⟨f15, hf15, hlf15, h⟩ := h
  refine p_X5_16 hX hNm hf15 hlf15 dX5_init_23 ?_
  refine vw_nmW (fun w16 ew16 => ?_)
  have h := h w16 ew16
  refine vw_aload_n hX 0 dX5_init_26 rfl ?_
  refine vw_bipush hX (v := 8) dX5_init_27 (by decide) ?_
  obtain ⟨hn0, n18, hN, hb, hm1, hm2, h⟩ := h
  refine vw_newR hX 4 (by decide) rfl kw_40 (by decide) _ rfl hn0 hN hb hm1 hm2 dX5_init_29 ?_
  refine vw_nmW (fun w17 ew17 => ?_)
  have h := h w17 ew17
  obtain ⟨f19, hf19, hlf19, h⟩ := h
  refine p_X5_19 hX hNm hf19 hlf19 dX5_init_32 ?_
  refine vw_nmW (fun w20 ew20 => ?_)
  have h := h w20 ew20
  refine vw_aload_n hX 0 dX5_init_35 rfl ?_
  refine vw_iconst hX (v := 2) dX5_init_36 (by decide) ?_
  obtain ⟨hn0, n22, hN, hb, hm1, hm2, h⟩ := h
  refine vw_newR hX 4 (by decide) rfl kw_40 (by decide) _ rfl hn0 hN hb hm1 hm2 dX5_init_37 ?_
  refine vw_nmW (fun w21 ew21 => ?_)
  have h := h w21 ew21
  obtain ⟨f23, hf23, hlf23, h⟩ := h
  refine p_X5_23 hX hNm hf23 hlf23 dX5_init_40 ?_
  refine vw_nmW (fun w24 ew24 => ?_)
  have h := h w24 ew24
  refine vw_aload_n hX 0 dX5_init_43 rfl ?_
  refine vw_iconst hX (v := 2) dX5_init_44 (by decide) ?_
  obtain ⟨hn0, n26, hN, hb, hm1, hm2, h⟩ := h
  refine vw_newZ hX kw_255 hn0 hN hb hm1 hm2 dX5_init_45 ?_
  refine vw_nmW (fun w25 ew25 => ?_)
  have h := h w25 ew25
  obtain ⟨f27, hf27, hlf27, h⟩ := h
  refine p_X5_26 hX hNm hf27 hlf27 dX5_init_47 ?_
  refine vw_nmW (fun w28 ew28 => ?_)
  have h := h w28 ew28
  refine vw_aload_n hX 0 dX5_init_50 rfl ?_
  obtain ⟨hm1, hm2, h⟩ := h
  refine n_X5_30 hX hm1 hm2 dX5_init_51 ?_
  refine vw_nmW (fun w29 ew29 => ?_)
  have h := h w29 ew29
  refine vw_dup hX dX5_init_54 rfl ?_
  refine vw_aload_n hX 0 dX5_init_55 rfl ?_
  obtain ⟨q30, hq30, h⟩ := h
  refine g_X5_16 hX hq30 dX5_init_56 ?_
  obtain ⟨k34, k35, hm1, hm2, h⟩ := h
  refine s_X5_32 hX dX5_init_59 (Nat.le_of_ble_eq_true rfl) hm1 hm2 (ct_X1_init (d := d + 1) (lst hX) h) (fun w32 z33 h => ?_)
  obtain ⟨f36, hf36, hlf36, h⟩ := h
  refine p_X5_35 hX hNm hf36 hlf36 dX5_init_62 ?_
  refine vw_nmW (fun w37 ew37 => ?_)
  have h := h w37 ew37
  refine vw_aload_n hX 0 dX5_init_65 rfl ?_
  obtain ⟨hm1, hm2, h⟩ := h
  refine n_X5_39 hX hm1 hm2 dX5_init_66 ?_
  refine vw_nmW (fun w38 ew38 => ?_)
  have h := h w38 ew38
  refine vw_dup hX dX5_init_69 rfl ?_
  obtain ⟨k42, k43, hm1, hm2, h⟩ := h
  refine s_X5_41 hX dX5_init_70 (Nat.le_of_ble_eq_true rfl) hm1 hm2 (ct_J4_init_da8c8 (d := d + 0) (lst hX) h) (fun w40 z41 h => ?_)
  obtain ⟨f44, hf44, hlf44, h⟩ := h
  refine p_X5_42 hX hNm hf44 hlf44 dX5_init_73 ?_
  refine vw_nmW (fun w45 ew45 => ?_)
  have h := h w45 ew45
  refine vw_iconst hX (v := 0) dX5_init_76 (by decide) ?_
  refine vw_istore_n hX dX5_init_77 (by decide) rfl ?_
  obtain ⟨nn, h⟩ := h
  exact vw_sub [1, 0] rfl (pB_X5_init_78 hX hE hNm nn _ _ _ _ _ h)
def F_X5_append (a0 : Nat) (a1 : Int32) (a2 : Int32) (a3 : Int32) (a4 : Int32) (a5 : Int32) (w : Mm) (z : Nat) (Q : Int32 → Mm → Nat → Prop) : Prop :=
  ∃ q1, fld w a0 9 6 = some (.ref (q1)) ∧ ∃ v2, fld w q1 5 2 = some (.int (v2)) ∧ (v2 ≤ 680 → ∃ q4, fld w a0 9 6 = some (.ref (q4)) ∧ isO w q4 5 ∧ F_X1_addBytes q4 a1 w z (fun w7 z8 => ∃ q9, fld w7 a0 9 6 = some (.ref (q9)) ∧ isO w7 q9 5 ∧ F_X1_addBytes q9 a2 w7 z8 (fun w12 z13 => ∃ q14, fld w12 a0 9 6 = some (.ref (q14)) ∧ isO w12 q14 5 ∧ F_X1_addBytes q14 a3 w12 z13 (fun w17 z18 => ∃ q19, fld w17 a0 9 6 = some (.ref (q19)) ∧ isO w17 q19 5 ∧ F_X1_addBytes q19 a4 w17 z18 (fun w22 z23 => ∃ q24, fld w22 a0 9 6 = some (.ref (q24)) ∧ isO w22 q24 5 ∧ F_X1_addBytes q24 a5 w22 z23 (fun w27 z28 => ∃ q29, fld w27 a0 9 6 = some (.ref (q29)) ∧ ∃ v30, fld w27 q29 5 2 = some (.int (v30)) ∧ Q v30 w27 z28)))))) ∧
  (¬ v2 ≤ 680 → Q (-1) w z)
set_option maxRecDepth 100000 in
set_option maxHeartbeats 4000000 in
theorem ct_X5_append {l : Launch} {g : Gp} {d : Nat} (hst : l.stackTraces = false) {a0 : Nat} {a1 : Int32} {a2 : Int32} {a3 : Int32} {a4 : Int32} {a5 : Int32} {w : Mm} {z mc ms : Nat} {Q : Int32 → Mm → Nat → Prop} {X : String → Mm → Nat → Prop} (h : F_X5_append a0 a1 a2 a3 a4 a5 w z Q) : Ct l g yX5_append (.code yX5_append cX5_append 6 (some .int)) (d + 1) mc ms [.ref (a0), .int (a1), .int (a2), .int (a3), .int (a4), .int (a5)] w z (rI Q) X := by
  refine Ct.of hst (by decide) (Nat.le_of_ble_eq_true rfl) (fun C hX hE hg hl hNm => ?_)
  subst hg
  subst hl
  unfold F_X5_append at h
  show VW C 0 [(0, .ref (a0)), (1, .int (a1)), (2, .int (a2)), (3, .int (a3)), (4, .int (a4)), (5, .int (a5))] [] w z mc ms
  refine vw_aload_n hX 0 dX5_append_0 rfl ?_
  obtain ⟨q1, hq1, h⟩ := h
  refine g_X5_35 hX hq1 dX5_append_1 ?_
  obtain ⟨v2, hv2, h⟩ := h
  refine g_X5_60 hX hv2 dX5_append_4 ?_
  refine vw_sipush hX (v := 680) dX5_append_7 (by decide) ?_
  refine vw_icmp_le hX (tgt := 15) dX5_append_10 (by decide) (fun c3 => ?_) (fun c3 => ?_)
  · have h := h.1 c3
    refine vw_aload_n hX 0 dX5_append_15 rfl ?_
    obtain ⟨q4, hq4, h⟩ := h
    refine g_X5_35 hX hq4 dX5_append_16 ?_
    refine vw_iload_n hX 1 dX5_append_19 rfl ?_
    obtain ⟨hr5, h⟩ := h
    refine s_X5_64 hX hr5 dX5_append_20 (Nat.le_of_ble_eq_true rfl) (ct_X1_addBytes (d := d + 0) (lst hX) h) (fun w7 z8 h => ?_)
    refine vw_aload_n hX 0 dX5_append_23 rfl ?_
    obtain ⟨q9, hq9, h⟩ := h
    refine g_X5_35 hX hq9 dX5_append_24 ?_
    refine vw_iload_n hX 2 dX5_append_27 rfl ?_
    obtain ⟨hr10, h⟩ := h
    refine s_X5_64 hX hr10 dX5_append_28 (Nat.le_of_ble_eq_true rfl) (ct_X1_addBytes (d := d + 0) (lst hX) h) (fun w12 z13 h => ?_)
    refine vw_aload_n hX 0 dX5_append_31 rfl ?_
    obtain ⟨q14, hq14, h⟩ := h
    refine g_X5_35 hX hq14 dX5_append_32 ?_
    refine vw_iload_n hX 3 dX5_append_35 rfl ?_
    obtain ⟨hr15, h⟩ := h
    refine s_X5_64 hX hr15 dX5_append_36 (Nat.le_of_ble_eq_true rfl) (ct_X1_addBytes (d := d + 0) (lst hX) h) (fun w17 z18 h => ?_)
    refine vw_aload_n hX 0 dX5_append_39 rfl ?_
    obtain ⟨q19, hq19, h⟩ := h
    refine g_X5_35 hX hq19 dX5_append_40 ?_
    refine vw_iload hX 4 dX5_append_43 rfl ?_
    obtain ⟨hr20, h⟩ := h
    refine s_X5_64 hX hr20 dX5_append_45 (Nat.le_of_ble_eq_true rfl) (ct_X1_addBytes (d := d + 0) (lst hX) h) (fun w22 z23 h => ?_)
    refine vw_aload_n hX 0 dX5_append_48 rfl ?_
    obtain ⟨q24, hq24, h⟩ := h
    refine g_X5_35 hX hq24 dX5_append_49 ?_
    refine vw_iload hX 5 dX5_append_52 rfl ?_
    obtain ⟨hr25, h⟩ := h
    refine s_X5_64 hX hr25 dX5_append_54 (Nat.le_of_ble_eq_true rfl) (ct_X1_addBytes (d := d + 0) (lst hX) h) (fun w27 z28 h => ?_)
    refine vw_aload_n hX 0 dX5_append_57 rfl ?_
    obtain ⟨q29, hq29, h⟩ := h
    refine g_X5_35 hX hq29 dX5_append_58 ?_
    obtain ⟨v30, hv30, h⟩ := h
    refine g_X5_60 hX hv30 dX5_append_61 ?_
    exact vw_iret hX hE dX5_append_64 ⟨_, rfl, h⟩
  · have h := h.2 c3
    refine vw_iconst hX (v := (-1)) dX5_append_13 (by decide) ?_
    exact vw_iret hX hE dX5_append_14 ⟨_, rfl, h⟩
def B_X5_truncateInput_15 (a0 : Nat) (a1 : Int32) (Q : Int32 → Mm → Nat → Prop) (X : String → Mm → Nat → Prop) (w : Mm) (z : Nat) (mc : Nat) (ms : Nat) : Prop :=
  1 ≤ mc ∧ 6 ≤ ms ∧ ∀ z1, z ≤ z1 → X "java/lang/IllegalArgumentException" w z1
set_option maxRecDepth 100000 in
set_option maxHeartbeats 4000000 in
theorem pB_X5_truncateInput_15 {C : Cx} {d : Nat} {a0 : Nat} {a1 : Int32} {Q : Int32 → Mm → Nat → Prop} {X : String → Mm → Nat → Prop} (hX : CX C cX5_truncateInput RX5 2 (some .int) [] (d + 6)) (hE : EQ C (rI Q) X) : ∀  (w : Mm) (z mc ms : Nat), B_X5_truncateInput_15 a0 a1 Q X  w z mc ms → VW C 15 [(0, .ref (a0)), (1, .int (a1))] [] w z mc ms := by
  intro  w z mc ms h
  unfold B_X5_truncateInput_15 at h
  exact t_X5_67_69 hX hE dX5_truncateInput_15 dX5_truncateInput_18 dX5_truncateInput_19 dX5_truncateInput_21 dX5_truncateInput_24 (Nat.le_of_ble_eq_true rfl) h.1 h.2.1 h.2.2
def F_X5_truncateInput (a0 : Nat) (a1 : Int32) (w : Mm) (z : Nat) (mc ms : Nat) (Q : Int32 → Mm → Nat → Prop) (X : String → Mm → Nat → Prop) : Prop :=
  (a1 < 0 → B_X5_truncateInput_15 a0 a1 Q X w z mc ms) ∧
  (¬ a1 < 0 → ∃ q2, fld w a0 9 6 = some (.ref (q2)) ∧ ∃ v3, fld w q2 5 2 = some (.int (v3)) ∧ (a1 ≤ v3 → ∃ q5, fld w a0 9 6 = some (.ref (q5)) ∧ ∃ f6, obj w q5 5 = some f6 ∧ 2 < f6.length ∧ ∀ w7, w7 = mset w q5 (.inl (5, f6.set 2 (.int (a1)))) → Q a1 w7 z) ∧
  (¬ a1 ≤ v3 → B_X5_truncateInput_15 a0 a1 Q X w z mc ms))
set_option maxRecDepth 100000 in
set_option maxHeartbeats 4000000 in
theorem ct_X5_truncateInput {l : Launch} {g : Gp} {d : Nat} (hst : l.stackTraces = false) {a0 : Nat} {a1 : Int32} {w : Mm} {z mc ms : Nat} {Q : Int32 → Mm → Nat → Prop} {X : String → Mm → Nat → Prop} (h : F_X5_truncateInput a0 a1 w z mc ms Q X) : Ct l g yX5_truncateInput (.code yX5_truncateInput cX5_truncateInput 2 (some .int)) (d + 6) mc ms [.ref (a0), .int (a1)] w z (rI Q) X := by
  refine Ct.of hst (by decide) (Nat.le_of_ble_eq_true rfl) (fun C hX hE hg hl hNm => ?_)
  subst hg
  subst hl
  unfold F_X5_truncateInput at h
  show VW C 0 [(0, .ref (a0)), (1, .int (a1))] [] w z mc ms
  refine vw_iload_n hX 1 dX5_truncateInput_0 rfl ?_
  refine vw_if_lt hX (tgt := 15) dX5_truncateInput_1 (by decide) (fun c1 => ?_) (fun c1 => ?_)
  · have h := h.1 c1
    exact pB_X5_truncateInput_15 hX hE _ _ _ _ h
  · have h := h.2 c1
    refine vw_iload_n hX 1 dX5_truncateInput_4 rfl ?_
    refine vw_aload_n hX 0 dX5_truncateInput_5 rfl ?_
    obtain ⟨q2, hq2, h⟩ := h
    refine g_X5_35 hX hq2 dX5_truncateInput_6 ?_
    obtain ⟨v3, hv3, h⟩ := h
    refine g_X5_60 hX hv3 dX5_truncateInput_9 ?_
    refine vw_icmp_le hX (tgt := 25) dX5_truncateInput_12 (by decide) (fun c4 => ?_) (fun c4 => ?_)
    · have h := h.1 c4
      refine vw_aload_n hX 0 dX5_truncateInput_25 rfl ?_
      obtain ⟨q5, hq5, h⟩ := h
      refine g_X5_35 hX hq5 dX5_truncateInput_26 ?_
      refine vw_iload_n hX 1 dX5_truncateInput_29 rfl ?_
      obtain ⟨f6, hf6, hlf6, h⟩ := h
      refine p_X5_60 hX hf6 hlf6 dX5_truncateInput_30 ?_
      refine vw_nmW (fun w7 ew7 => ?_)
      have h := h w7 ew7
      refine vw_iload_n hX 1 dX5_truncateInput_33 rfl ?_
      exact vw_iret hX hE dX5_truncateInput_34 ⟨_, rfl, h⟩
    · have h := h.2 c4
      exact pB_X5_truncateInput_15 hX hE _ _ _ _ h
def B_X5_discardOldestChange_9 (a0 : Nat) (Q : Mm → Nat → Prop) : Nat → Nat → Int32 → Mm → Nat → Prop
  | 0, _, _, _, _ => False
  | n + 1, x1, x2, w, z => (8 ≤ x2 → ∃ q2, fld w a0 9 2 = some (.ref (q2)) ∧ ∃ n4 f3 s5, arR w q2 4 = some (n4, f3) ∧ vp_in 7 n4 ∧ w x1 = some (true, .inl (7, s5)) ∧ ∀ w6, w6 = mset w q2 (.inr (4, n4, .inr (.inr (va_up f3 (7 : Int32).toNatClampNeg (some x1))))) → ∃ f7, obj w6 a0 9 = some f7 ∧ 3 < f7.length ∧ ∀ w8, w8 = mset w6 a0 (.inl (9, f7.set 3 (.int (7)))) → Q w8 z) ∧
  (¬ 8 ≤ x2 → ∃ q9, fld w a0 9 2 = some (.ref (q9)) ∧ ∃ q10, fld w a0 9 2 = some (.ref (q10)) ∧ ∃ n12 f11 q13, arR w q10 4 = some (n12, f11) ∧ vp_in x2 n12 ∧ f11 (x2 : Int32).toNatClampNeg = some q13 ∧ ∃ n15 f14 s16, arR w q9 4 = some (n15, f14) ∧ vp_in ((x2 - 1)) n15 ∧ w q13 = some (true, .inl (7, s16)) ∧ ∀ w17, w17 = mset w q9 (.inr (4, n15, .inr (.inr (va_up f14 ((x2 - 1) : Int32).toNatClampNeg (some q13))))) → B_X5_discardOldestChange_9 a0 Q n x1 ((x2 + 1)) w17 z)
set_option maxRecDepth 100000 in
set_option maxHeartbeats 4000000 in
theorem pB_X5_discardOldestChange_9 {C : Cx} {d : Nat} {a0 : Nat} {Q : Mm → Nat → Prop} {X : String → Mm → Nat → Prop} (hX : CX C cX5_discardOldestChange RX5 3 none [] (d + 0)) (hE : EQ C (rV Q) X) : ∀ (n : Nat) (x1 : Nat) (x2 : Int32) (w : Mm) (z mc ms : Nat), B_X5_discardOldestChange_9 a0 Q n x1 x2 w z → VW C 9 [(0, .ref (a0)), (1, .ref (x1)), (2, .int (x2))] [] w z mc ms := by
  intro n
  induction n with
  | zero => intro x1 x2 w z mc ms h; exact False.elim h
  | succ n ih =>
    intro x1 x2 w z mc ms h
    unfold B_X5_discardOldestChange_9 at h
    refine vw_iload_n hX 2 dX5_discardOldestChange_9 rfl ?_
    refine vw_bipush hX (v := 8) dX5_discardOldestChange_10 (by decide) ?_
    refine vw_icmp_ge hX (tgt := 35) dX5_discardOldestChange_12 (by decide) (fun c1 => ?_) (fun c1 => ?_)
    · have h := h.1 c1
      refine vw_aload_n hX 0 dX5_discardOldestChange_35 rfl ?_
      obtain ⟨q2, hq2, h⟩ := h
      refine g_X5_19 hX hq2 dX5_discardOldestChange_36 ?_
      refine vw_bipush hX (v := 7) dX5_discardOldestChange_39 (by decide) ?_
      refine vw_aload_n hX 1 dX5_discardOldestChange_41 rfl ?_
      obtain ⟨n4, f3, s5, hf3, hif3, hvf3, h⟩ := h
      refine vw_aast hX (ci := 7) 4 (by decide) rfl rfl hf3 hif3 hvf3 dX5_discardOldestChange_42 ?_
      refine vw_nmW (fun w6 ew6 => ?_)
      have h := h w6 ew6
      refine vw_aload_n hX 0 dX5_discardOldestChange_43 rfl ?_
      refine vw_bipush hX (v := 7) dX5_discardOldestChange_44 (by decide) ?_
      obtain ⟨f7, hf7, hlf7, h⟩ := h
      refine p_X5_192 hX hf7 hlf7 dX5_discardOldestChange_46 ?_
      refine vw_nmW (fun w8 ew8 => ?_)
      have h := h w8 ew8
      exact vw_vret hX hE dX5_discardOldestChange_49 ⟨rfl, h⟩
    · have h := h.2 c1
      refine vw_aload_n hX 0 dX5_discardOldestChange_15 rfl ?_
      obtain ⟨q9, hq9, h⟩ := h
      refine g_X5_19 hX hq9 dX5_discardOldestChange_16 ?_
      refine vw_iload_n hX 2 dX5_discardOldestChange_19 rfl ?_
      refine vw_iconst hX (v := 1) dX5_discardOldestChange_20 (by decide) ?_
      refine vw_isub hX dX5_discardOldestChange_21 ?_
      refine vw_aload_n hX 0 dX5_discardOldestChange_22 rfl ?_
      obtain ⟨q10, hq10, h⟩ := h
      refine g_X5_19 hX hq10 dX5_discardOldestChange_23 ?_
      refine vw_iload_n hX 2 dX5_discardOldestChange_26 rfl ?_
      obtain ⟨n12, f11, q13, hf11, hif11, hqf11, h⟩ := h
      refine vw_aald hX 4 (by decide) rfl hf11 hif11 hqf11 dX5_discardOldestChange_27 ?_
      obtain ⟨n15, f14, s16, hf14, hif14, hvf14, h⟩ := h
      refine vw_aast hX (ci := 7) 4 (by decide) rfl rfl hf14 hif14 hvf14 dX5_discardOldestChange_28 ?_
      refine vw_nmW (fun w17 ew17 => ?_)
      have h := h w17 ew17
      refine vw_iinc hX 2 (v := x2 + 1) dX5_discardOldestChange_29 rfl rfl (by decide) rfl ?_
      refine vw_goto hX (tgt := 9) dX5_discardOldestChange_32 (by decide) ?_
      exact vw_sub [1, 2, 0] rfl (ih _ _ _ _ _ _ h)
def F_X5_discardOldestChange (a0 : Nat) (w : Mm) (z : Nat) (Q : Mm → Nat → Prop) : Prop :=
  ∃ q1, fld w a0 9 2 = some (.ref (q1)) ∧ ∃ n3 f2 q4, arR w q1 4 = some (n3, f2) ∧ vp_in 0 n3 ∧ f2 (0 : Int32).toNatClampNeg = some q4 ∧ ∃ nn, B_X5_discardOldestChange_9 a0 Q nn q4 1 w z
set_option maxRecDepth 100000 in
set_option maxHeartbeats 4000000 in
theorem ct_X5_discardOldestChange {l : Launch} {g : Gp} {d : Nat} (hst : l.stackTraces = false) {a0 : Nat} {w : Mm} {z mc ms : Nat} {Q : Mm → Nat → Prop} {X : String → Mm → Nat → Prop} (h : F_X5_discardOldestChange a0 w z Q) : Ct l g yX5_discardOldestChange (.code yX5_discardOldestChange cX5_discardOldestChange 3 none) (d + 0) mc ms [.ref (a0)] w z (rV Q) X := by
  refine Ct.of hst (by decide) (Nat.le_of_ble_eq_true rfl) (fun C hX hE hg hl hNm => ?_)
  subst hg
  subst hl
  unfold F_X5_discardOldestChange at h
  show VW C 0 [(0, .ref (a0))] [] w z mc ms
  refine vw_aload_n hX 0 dX5_discardOldestChange_0 rfl ?_
  obtain ⟨q1, hq1, h⟩ := h
  refine g_X5_19 hX hq1 dX5_discardOldestChange_1 ?_
  refine vw_iconst hX (v := 0) dX5_discardOldestChange_4 (by decide) ?_
  obtain ⟨n3, f2, q4, hf2, hif2, hqf2, h⟩ := h
  refine vw_aald hX 4 (by decide) rfl hf2 hif2 hqf2 dX5_discardOldestChange_5 ?_
  refine vw_astore_n hX dX5_discardOldestChange_6 (by decide) rfl ?_
  refine vw_iconst hX (v := 1) dX5_discardOldestChange_7 (by decide) ?_
  refine vw_istore_n hX dX5_discardOldestChange_8 (by decide) rfl ?_
  obtain ⟨nn, h⟩ := h
  exact vw_sub [2, 1, 0] rfl (pB_X5_discardOldestChange_9 hX hE nn _ _ _ _ _ _ h)
def B_X5_keepForUndo_13 (a0 : Nat) (Q : Mm → Nat → Prop) (w : Mm) (z : Nat) : Prop :=
  ∃ q1, fld w a0 9 2 = some (.ref (q1)) ∧ ∃ v2, fld w a0 9 3 = some (.int (v2)) ∧ ∃ n4 f3 q5, arR w q1 4 = some (n4, f3) ∧ vp_in v2 n4 ∧ f3 (v2 : Int32).toNatClampNeg = some q5 ∧ ∃ q6, fld w a0 9 0 = some (.ref (q6)) ∧ isO w q5 7 ∧ F_X3_copyFrom q5 q6 w z (fun w9 z10 => ∃ v11, fld w9 a0 9 3 = some (.int (v11)) ∧ ∃ f12, obj w9 a0 9 = some f12 ∧ 3 < f12.length ∧ ∀ w13, w13 = mset w9 a0 (.inl (9, f12.set 3 (.int ((v11 + 1))))) → Q w13 z10)
set_option maxRecDepth 100000 in
set_option maxHeartbeats 4000000 in
theorem pB_X5_keepForUndo_13 {C : Cx} {d : Nat} {a0 : Nat} {Q : Mm → Nat → Prop} {X : String → Mm → Nat → Prop} (hX : CX C cX5_keepForUndo RX5 1 none [] (d + 3)) (hE : EQ C (rV Q) X) : ∀  (w : Mm) (z mc ms : Nat), B_X5_keepForUndo_13 a0 Q  w z → VW C 13 [(0, .ref (a0))] [] w z mc ms := by
  intro  w z mc ms h
  unfold B_X5_keepForUndo_13 at h
  refine vw_aload_n hX 0 dX5_keepForUndo_13 rfl ?_
  obtain ⟨q1, hq1, h⟩ := h
  refine g_X5_19 hX hq1 dX5_keepForUndo_14 ?_
  refine vw_aload_n hX 0 dX5_keepForUndo_17 rfl ?_
  obtain ⟨v2, hv2, h⟩ := h
  refine g_X5_192 hX hv2 dX5_keepForUndo_18 ?_
  obtain ⟨n4, f3, q5, hf3, hif3, hqf3, h⟩ := h
  refine vw_aald hX 4 (by decide) rfl hf3 hif3 hqf3 dX5_keepForUndo_21 ?_
  refine vw_aload_n hX 0 dX5_keepForUndo_22 rfl ?_
  obtain ⟨q6, hq6, h⟩ := h
  refine g_X5_10 hX hq6 dX5_keepForUndo_23 ?_
  obtain ⟨hr7, h⟩ := h
  refine s_X5_97 hX hr7 dX5_keepForUndo_26 (Nat.le_of_ble_eq_true rfl) (ct_X3_copyFrom (d := d + 0) (lst hX) h) (fun w9 z10 h => ?_)
  refine vw_aload_n hX 0 dX5_keepForUndo_29 rfl ?_
  refine vw_dup hX dX5_keepForUndo_30 rfl ?_
  obtain ⟨v11, hv11, h⟩ := h
  refine g_X5_192 hX hv11 dX5_keepForUndo_31 ?_
  refine vw_iconst hX (v := 1) dX5_keepForUndo_34 (by decide) ?_
  refine vw_iadd hX dX5_keepForUndo_35 ?_
  obtain ⟨f12, hf12, hlf12, h⟩ := h
  refine p_X5_192 hX hf12 hlf12 dX5_keepForUndo_36 ?_
  refine vw_nmW (fun w13 ew13 => ?_)
  have h := h w13 ew13
  exact vw_vret hX hE dX5_keepForUndo_39 ⟨rfl, h⟩
def F_X5_keepForUndo (a0 : Nat) (w : Mm) (z : Nat) (Q : Mm → Nat → Prop) : Prop :=
  ∃ v1, fld w a0 9 3 = some (.int (v1)) ∧ (¬ v1 = 8 → B_X5_keepForUndo_13 a0 Q w z) ∧
  (v1 = 8 → isO w a0 9 ∧ F_X5_discardOldestChange a0 w z (fun w5 z6 => B_X5_keepForUndo_13 a0 Q w5 z6))
set_option maxRecDepth 100000 in
set_option maxHeartbeats 4000000 in
theorem ct_X5_keepForUndo {l : Launch} {g : Gp} {d : Nat} (hst : l.stackTraces = false) {a0 : Nat} {w : Mm} {z mc ms : Nat} {Q : Mm → Nat → Prop} {X : String → Mm → Nat → Prop} (h : F_X5_keepForUndo a0 w z Q) : Ct l g yX5_keepForUndo (.code yX5_keepForUndo cX5_keepForUndo 1 none) (d + 3) mc ms [.ref (a0)] w z (rV Q) X := by
  refine Ct.of hst (by decide) (Nat.le_of_ble_eq_true rfl) (fun C hX hE hg hl hNm => ?_)
  subst hg
  subst hl
  unfold F_X5_keepForUndo at h
  show VW C 0 [(0, .ref (a0))] [] w z mc ms
  refine vw_aload_n hX 0 dX5_keepForUndo_0 rfl ?_
  obtain ⟨v1, hv1, h⟩ := h
  refine g_X5_192 hX hv1 dX5_keepForUndo_1 ?_
  refine vw_bipush hX (v := 8) dX5_keepForUndo_4 (by decide) ?_
  refine vw_icmp_ne hX (tgt := 13) dX5_keepForUndo_6 (by decide) (fun c2 => ?_) (fun c2 => ?_)
  · have h := h.1 c2
    exact pB_X5_keepForUndo_13 hX hE _ _ _ _ h
  · have h := h.2 c2
    refine vw_aload_n hX 0 dX5_keepForUndo_9 rfl ?_
    obtain ⟨hr3, h⟩ := h
    refine s_X5_364 hX hr3 dX5_keepForUndo_10 (Nat.le_of_ble_eq_true rfl) (ct_X5_discardOldestChange (d := d + 2) (lst hX) h) (fun w5 z6 h => ?_)
    exact pB_X5_keepForUndo_13 hX hE _ _ _ _ h
def F_X5_endParsing (a0 : Nat) (a1 : Int32) (w : Mm) (z : Nat) (Q : Int32 → Mm → Nat → Prop) : Prop :=
  ∃ q1, fld w a0 9 6 = some (.ref (q1)) ∧ ∃ f2, obj w q1 5 = some f2 ∧ 2 < f2.length ∧ ∀ w3, w3 = mset w q1 (.inl (5, f2.set 2 (.int (0)))) → ∃ q4, fld w3 a0 9 6 = some (.ref (q4)) ∧ ∃ v5, fld w3 q4 5 3 = some (.int (v5)) ∧ (v5 = 0 → isO w3 a0 9 ∧ F_X5_keepForUndo a0 w3 z (fun w9 z10 => ∃ q11, fld w9 a0 9 0 = some (.ref (q11)) ∧ ∃ q12, fld w9 a0 9 1 = some (.ref (q12)) ∧ isO w9 q11 7 ∧ F_X3_copyFrom q11 q12 w9 z10 (fun w15 z16 => Q a1 w15 z16))) ∧
  (¬ v5 = 0 → Q (-1) w3 z)
set_option maxRecDepth 100000 in
set_option maxHeartbeats 4000000 in
theorem ct_X5_endParsing {l : Launch} {g : Gp} {d : Nat} (hst : l.stackTraces = false) {a0 : Nat} {a1 : Int32} {w : Mm} {z mc ms : Nat} {Q : Int32 → Mm → Nat → Prop} {X : String → Mm → Nat → Prop} (h : F_X5_endParsing a0 a1 w z Q) : Ct l g yX5_endParsing (.code yX5_endParsing cX5_endParsing 2 (some .int)) (d + 4) mc ms [.ref (a0), .int (a1)] w z (rI Q) X := by
  refine Ct.of hst (by decide) (Nat.le_of_ble_eq_true rfl) (fun C hX hE hg hl hNm => ?_)
  subst hg
  subst hl
  unfold F_X5_endParsing at h
  show VW C 0 [(0, .ref (a0)), (1, .int (a1))] [] w z mc ms
  refine vw_aload_n hX 0 dX5_endParsing_0 rfl ?_
  obtain ⟨q1, hq1, h⟩ := h
  refine g_X5_35 hX hq1 dX5_endParsing_1 ?_
  refine vw_iconst hX (v := 0) dX5_endParsing_4 (by decide) ?_
  obtain ⟨f2, hf2, hlf2, h⟩ := h
  refine p_X5_60 hX hf2 hlf2 dX5_endParsing_5 ?_
  refine vw_nmW (fun w3 ew3 => ?_)
  have h := h w3 ew3
  refine vw_aload_n hX 0 dX5_endParsing_8 rfl ?_
  obtain ⟨q4, hq4, h⟩ := h
  refine g_X5_35 hX hq4 dX5_endParsing_9 ?_
  obtain ⟨v5, hv5, h⟩ := h
  refine g_X5_100 hX hv5 dX5_endParsing_12 ?_
  refine vw_if_eq hX (tgt := 20) dX5_endParsing_15 (by decide) (fun c6 => ?_) (fun c6 => ?_)
  · have h := h.1 c6
    refine vw_aload_n hX 0 dX5_endParsing_20 rfl ?_
    obtain ⟨hr7, h⟩ := h
    refine s_X5_122 hX hr7 dX5_endParsing_21 (Nat.le_of_ble_eq_true rfl) (ct_X5_keepForUndo (d := d + 0) (lst hX) h) (fun w9 z10 h => ?_)
    refine vw_aload_n hX 0 dX5_endParsing_24 rfl ?_
    obtain ⟨q11, hq11, h⟩ := h
    refine g_X5_10 hX hq11 dX5_endParsing_25 ?_
    refine vw_aload_n hX 0 dX5_endParsing_28 rfl ?_
    obtain ⟨q12, hq12, h⟩ := h
    refine g_X5_16 hX hq12 dX5_endParsing_29 ?_
    obtain ⟨hr13, h⟩ := h
    refine s_X5_97 hX hr13 dX5_endParsing_32 (Nat.le_of_ble_eq_true rfl) (ct_X3_copyFrom (d := d + 1) (lst hX) h) (fun w15 z16 h => ?_)
    refine vw_iload_n hX 1 dX5_endParsing_35 rfl ?_
    exact vw_iret hX hE dX5_endParsing_36 ⟨_, rfl, h⟩
  · have h := h.2 c6
    refine vw_iconst hX (v := (-1)) dX5_endParsing_18 (by decide) ?_
    exact vw_iret hX hE dX5_endParsing_19 ⟨_, rfl, h⟩
def F_X5_load (a0 : Nat) (w : Mm) (z : Nat) (mc ms : Nat) (Q : Int32 → Mm → Nat → Prop) : Prop :=
  ∃ q1, fld w a0 9 1 = some (.ref (q1)) ∧ isO w q1 7 ∧ F_X3_clear q1 w z (fun w4 z5 => ∃ q6, fld w4 a0 9 6 = some (.ref (q6)) ∧ isO w4 q6 5 ∧ F_X1_begin q6 w4 z5 (fun w9 z10 => ∃ q11, fld w9 a0 9 6 = some (.ref (q11)) ∧ isO w9 q11 5 ∧ F_X1_readLine q11 w9 z10 (fun w14 z15 => ∃ q16, fld w14 a0 9 6 = some (.ref (q16)) ∧ isO w14 q16 5 ∧ ∃ k21 k22, k21 ≤ mc ∧ k22 ≤ ms ∧ F_X1_readPassengers q16 w14 z15 k21 k22 (fun w19 z20 => ∃ q23, fld w19 a0 9 6 = some (.ref (q23)) ∧ isO w19 q23 5 ∧ F_X1_readCommands q23 w19 z20 (fun r25 w26 z27 => ∃ q28, fld w26 a0 9 1 = some (.ref (q28)) ∧ ∃ v29, fld w26 q28 7 5 = some (.int (v29)) ∧ isO w26 a0 9 ∧ F_X5_endParsing a0 v29 w26 z27 (fun r31 w32 z33 => Q r31 w32 z33))))))
set_option maxRecDepth 100000 in
set_option maxHeartbeats 4000000 in
theorem ct_X5_load {l : Launch} {g : Gp} {d : Nat} (hst : l.stackTraces = false) {a0 : Nat} {w : Mm} {z mc ms : Nat} {Q : Int32 → Mm → Nat → Prop} {X : String → Mm → Nat → Prop} (h : F_X5_load a0 w z mc ms Q) : Ct l g yX5_load (.code yX5_load cX5_load 1 (some .int)) (d + 10) mc ms [.ref (a0)] w z (rI Q) X := by
  refine Ct.of hst (by decide) (Nat.le_of_ble_eq_true rfl) (fun C hX hE hg hl hNm => ?_)
  subst hg
  subst hl
  unfold F_X5_load at h
  show VW C 0 [(0, .ref (a0))] [] w z mc ms
  refine vw_aload_n hX 0 dX5_load_0 rfl ?_
  obtain ⟨q1, hq1, h⟩ := h
  refine g_X5_16 hX hq1 dX5_load_1 ?_
  obtain ⟨hr2, h⟩ := h
  refine s_X5_74 hX hr2 dX5_load_4 (Nat.le_of_ble_eq_true rfl) (ct_X3_clear (d := d + 9) (lst hX) h) (fun w4 z5 h => ?_)
  refine vw_aload_n hX 0 dX5_load_7 rfl ?_
  obtain ⟨q6, hq6, h⟩ := h
  refine g_X5_35 hX hq6 dX5_load_8 ?_
  obtain ⟨hr7, h⟩ := h
  refine s_X5_77 hX hr7 dX5_load_11 (Nat.le_of_ble_eq_true rfl) (ct_X1_begin (d := d + 7) (lst hX) h) (fun w9 z10 h => ?_)
  refine vw_aload_n hX 0 dX5_load_14 rfl ?_
  obtain ⟨q11, hq11, h⟩ := h
  refine g_X5_35 hX hq11 dX5_load_15 ?_
  obtain ⟨hr12, h⟩ := h
  refine s_X5_80 hX hr12 dX5_load_18 (Nat.le_of_ble_eq_true rfl) (ct_X1_readLine (d := d + 3) (lst hX) h) (fun w14 z15 h => ?_)
  refine vw_aload_n hX 0 dX5_load_21 rfl ?_
  obtain ⟨q16, hq16, h⟩ := h
  refine g_X5_35 hX hq16 dX5_load_22 ?_
  obtain ⟨hr17, h⟩ := h
  obtain ⟨k21, k22, hm1, hm2, h⟩ := h
  refine s_X5_83 hX hr17 dX5_load_25 (Nat.le_of_ble_eq_true rfl) hm1 hm2 (ct_X1_readPassengers (d := d + 0) (lst hX) h) (fun w19 z20 h => ?_)
  refine vw_aload_n hX 0 dX5_load_28 rfl ?_
  obtain ⟨q23, hq23, h⟩ := h
  refine g_X5_35 hX hq23 dX5_load_29 ?_
  obtain ⟨hr24, h⟩ := h
  refine s_X5_86 hX hr24 dX5_load_32 (Nat.le_of_ble_eq_true rfl) (ct_X1_readCommands (d := d + 1) (lst hX) h) (fun r25 w26 z27 h => ?_)
  refine vw_pop hX dX5_load_35 rfl ?_
  refine vw_aload_n hX 0 dX5_load_36 rfl ?_
  refine vw_aload_n hX 0 dX5_load_37 rfl ?_
  obtain ⟨q28, hq28, h⟩ := h
  refine g_X5_16 hX hq28 dX5_load_38 ?_
  obtain ⟨v29, hv29, h⟩ := h
  refine g_X5_90 hX hv29 dX5_load_41 ?_
  obtain ⟨hr30, h⟩ := h
  refine s_X5_93 hX hr30 dX5_load_44 (Nat.le_of_ble_eq_true rfl) (ct_X5_endParsing (d := d + 5) (lst hX) h) (fun r31 w32 z33 h => ?_)
  exact vw_iret hX hE dX5_load_47 ⟨_, rfl, h⟩
def B_X5_requirePassenger_15 (a0 : Nat) (a1 : Int32) (Q : Mm → Nat → Prop) (X : String → Mm → Nat → Prop) (w : Mm) (z : Nat) (mc : Nat) (ms : Nat) : Prop :=
  1 ≤ mc ∧ 6 ≤ ms ∧ ∀ z1, z ≤ z1 → X "java/lang/IndexOutOfBoundsException" w z1
set_option maxRecDepth 100000 in
set_option maxHeartbeats 4000000 in
theorem pB_X5_requirePassenger_15 {C : Cx} {d : Nat} {a0 : Nat} {a1 : Int32} {Q : Mm → Nat → Prop} {X : String → Mm → Nat → Prop} (hX : CX C cX5_requirePassenger RX5 2 none [] (d + 6)) (hE : EQ C (rV Q) X) : ∀  (w : Mm) (z mc ms : Nat), B_X5_requirePassenger_15 a0 a1 Q X  w z mc ms → VW C 15 [(0, .ref (a0)), (1, .int (a1))] [] w z mc ms := by
  intro  w z mc ms h
  unfold B_X5_requirePassenger_15 at h
  exact t_X5_367_369 hX hE dX5_requirePassenger_15 dX5_requirePassenger_18 dX5_requirePassenger_19 dX5_requirePassenger_22 dX5_requirePassenger_25 (Nat.le_of_ble_eq_true rfl) h.1 h.2.1 h.2.2
def F_X5_requirePassenger (a0 : Nat) (a1 : Int32) (w : Mm) (z : Nat) (mc ms : Nat) (Q : Mm → Nat → Prop) (X : String → Mm → Nat → Prop) : Prop :=
  (a1 < 0 → B_X5_requirePassenger_15 a0 a1 Q X w z mc ms) ∧
  (¬ a1 < 0 → ∃ q2, fld w a0 9 0 = some (.ref (q2)) ∧ ∃ v3, fld w q2 7 5 = some (.int (v3)) ∧ (a1 < v3 → Q w z) ∧
  (¬ a1 < v3 → B_X5_requirePassenger_15 a0 a1 Q X w z mc ms))
set_option maxRecDepth 100000 in
set_option maxHeartbeats 4000000 in
theorem ct_X5_requirePassenger {l : Launch} {g : Gp} {d : Nat} (hst : l.stackTraces = false) {a0 : Nat} {a1 : Int32} {w : Mm} {z mc ms : Nat} {Q : Mm → Nat → Prop} {X : String → Mm → Nat → Prop} (h : F_X5_requirePassenger a0 a1 w z mc ms Q X) : Ct l g yX5_requirePassenger (.code yX5_requirePassenger cX5_requirePassenger 2 none) (d + 6) mc ms [.ref (a0), .int (a1)] w z (rV Q) X := by
  refine Ct.of hst (by decide) (Nat.le_of_ble_eq_true rfl) (fun C hX hE hg hl hNm => ?_)
  subst hg
  subst hl
  unfold F_X5_requirePassenger at h
  show VW C 0 [(0, .ref (a0)), (1, .int (a1))] [] w z mc ms
  refine vw_iload_n hX 1 dX5_requirePassenger_0 rfl ?_
  refine vw_if_lt hX (tgt := 15) dX5_requirePassenger_1 (by decide) (fun c1 => ?_) (fun c1 => ?_)
  · have h := h.1 c1
    exact pB_X5_requirePassenger_15 hX hE _ _ _ _ h
  · have h := h.2 c1
    refine vw_iload_n hX 1 dX5_requirePassenger_4 rfl ?_
    refine vw_aload_n hX 0 dX5_requirePassenger_5 rfl ?_
    obtain ⟨q2, hq2, h⟩ := h
    refine g_X5_10 hX hq2 dX5_requirePassenger_6 ?_
    obtain ⟨v3, hv3, h⟩ := h
    refine g_X5_90 hX hv3 dX5_requirePassenger_9 ?_
    refine vw_icmp_lt hX (tgt := 26) dX5_requirePassenger_12 (by decide) (fun c4 => ?_) (fun c4 => ?_)
    · have h := h.1 c4
      exact vw_vret hX hE dX5_requirePassenger_26 ⟨rfl, h⟩
    · have h := h.2 c4
      exact pB_X5_requirePassenger_15 hX hE _ _ _ _ h
def B_X5_buy_35 (a0 : Nat) (a1 : Int32) (a2 : Int32) (a3 : Int32) (Q : Int32 → Mm → Nat → Prop) (X : String → Mm → Nat → Prop) (w : Mm) (z : Nat) (mc : Nat) (ms : Nat) : Prop :=
  1 ≤ mc ∧ 6 ≤ ms ∧ ∀ z1, z ≤ z1 → X "java/lang/IllegalArgumentException" w z1
set_option maxRecDepth 100000 in
set_option maxHeartbeats 4000000 in
theorem pB_X5_buy_35 {C : Cx} {d : Nat} {a0 : Nat} {a1 : Int32} {a2 : Int32} {a3 : Int32} {Q : Int32 → Mm → Nat → Prop} {X : String → Mm → Nat → Prop} (hX : CX C cX5_buy RX5 4 (some .int) [] (d + 7)) (hE : EQ C (rI Q) X) : ∀  (w : Mm) (z mc ms : Nat), B_X5_buy_35 a0 a1 a2 a3 Q X  w z mc ms → VW C 35 [(0, .ref (a0)), (1, .int (a1)), (2, .int (a2)), (3, .int (a3))] [] w z mc ms := by
  intro  w z mc ms h
  unfold B_X5_buy_35 at h
  exact t_X5_67_111 hX hE dX5_buy_35 dX5_buy_38 dX5_buy_39 dX5_buy_41 dX5_buy_44 (Nat.le_of_ble_eq_true rfl) h.1 h.2.1 h.2.2
def B_X5_buy_14 (a0 : Nat) (a1 : Int32) (a2 : Int32) (a3 : Int32) (Q : Int32 → Mm → Nat → Prop) (X : String → Mm → Nat → Prop) (w : Mm) (z : Nat) (mc : Nat) (ms : Nat) : Prop :=
  1 ≤ mc ∧ 6 ≤ ms ∧ ∀ z1, z ≤ z1 → X "java/lang/IllegalArgumentException" w z1
set_option maxRecDepth 100000 in
set_option maxHeartbeats 4000000 in
theorem pB_X5_buy_14 {C : Cx} {d : Nat} {a0 : Nat} {a1 : Int32} {a2 : Int32} {a3 : Int32} {Q : Int32 → Mm → Nat → Prop} {X : String → Mm → Nat → Prop} (hX : CX C cX5_buy RX5 4 (some .int) [] (d + 7)) (hE : EQ C (rI Q) X) : ∀  (w : Mm) (z mc ms : Nat), B_X5_buy_14 a0 a1 a2 a3 Q X  w z mc ms → VW C 14 [(0, .ref (a0)), (1, .int (a1)), (2, .int (a2)), (3, .int (a3))] [] w z mc ms := by
  intro  w z mc ms h
  unfold B_X5_buy_14 at h
  exact t_X5_67_109 hX hE dX5_buy_14 dX5_buy_17 dX5_buy_18 dX5_buy_20 dX5_buy_23 (Nat.le_of_ble_eq_true rfl) h.1 h.2.1 h.2.2
def F_X5_buy (a0 : Nat) (a1 : Int32) (a2 : Int32) (a3 : Int32) (w : Mm) (z : Nat) (mc ms : Nat) (Q : Int32 → Mm → Nat → Prop) (X : String → Mm → Nat → Prop) : Prop :=
  isO w a0 9 ∧ ∃ k5 k6, k5 ≤ mc ∧ k6 ≤ ms ∧ F_X5_requirePassenger a0 a1 w z k5 k6 (fun w3 z4 => (a2 < 0 → B_X5_buy_14 a0 a1 a2 a3 Q X w3 z4 ((mc - k5)) ((ms - k6))) ∧
  (¬ a2 < 0 → (a2 ≤ 2 → (a3 < 1 → B_X5_buy_35 a0 a1 a2 a3 Q X w3 z4 ((mc - k5)) ((ms - k6))) ∧
  (¬ a3 < 1 → (a3 ≤ 15 → ∃ q11, fld w3 a0 9 0 = some (.ref (q11)) ∧ isO w3 q11 7 ∧ F_X3_canSell q11 a1 a2 a3 w3 z4 (fun r13 w14 z15 => (¬ r13 = 0 → isO w14 a0 9 ∧ F_X5_keepForUndo a0 w14 z15 (fun w19 z20 => ∃ q21, fld w19 a0 9 0 = some (.ref (q21)) ∧ isO w19 q21 7 ∧ F_X3_sell q21 a1 a2 a3 w19 z20 (fun r23 w24 z25 => Q r23 w24 z25))) ∧
  (r13 = 0 → 1 ≤ (mc - k5) ∧ 6 ≤ (ms - k6) ∧ ∀ z1, z15 ≤ z1 → X "java/lang/IllegalStateException" w14 z1))) ∧
  (¬ a3 ≤ 15 → B_X5_buy_35 a0 a1 a2 a3 Q X w3 z4 ((mc - k5)) ((ms - k6))))) ∧
  (¬ a2 ≤ 2 → B_X5_buy_14 a0 a1 a2 a3 Q X w3 z4 ((mc - k5)) ((ms - k6))))) X
set_option maxRecDepth 100000 in
set_option maxHeartbeats 4000000 in
theorem ct_X5_buy {l : Launch} {g : Gp} {d : Nat} (hst : l.stackTraces = false) {a0 : Nat} {a1 : Int32} {a2 : Int32} {a3 : Int32} {w : Mm} {z mc ms : Nat} {Q : Int32 → Mm → Nat → Prop} {X : String → Mm → Nat → Prop} (h : F_X5_buy a0 a1 a2 a3 w z mc ms Q X) : Ct l g yX5_buy (.code yX5_buy cX5_buy 4 (some .int)) (d + 7) mc ms [.ref (a0), .int (a1), .int (a2), .int (a3)] w z (rI Q) X := by
  refine Ct.of hst (by decide) (Nat.le_of_ble_eq_true rfl) (fun C hX hE hg hl hNm => ?_)
  subst hg
  subst hl
  unfold F_X5_buy at h
  show VW C 0 [(0, .ref (a0)), (1, .int (a1)), (2, .int (a2)), (3, .int (a3))] [] w z mc ms
  refine vw_aload_n hX 0 dX5_buy_0 rfl ?_
  refine vw_iload_n hX 1 dX5_buy_1 rfl ?_
  obtain ⟨hr1, h⟩ := h
  obtain ⟨k5, k6, hm1, hm2, h⟩ := h
  refine s_X5_106 hX hr1 dX5_buy_2 (Nat.le_of_ble_eq_true rfl) hm1 hm2 (ct_X5_requirePassenger (d := d + 0) (lst hX) h) (fun w3 z4 h => ?_) (fun E w1 z1 hx => vx_outE hX hE hx)
  refine vw_iload_n hX 2 dX5_buy_5 rfl ?_
  refine vw_if_lt hX (tgt := 14) dX5_buy_6 (by decide) (fun c7 => ?_) (fun c7 => ?_)
  · have h := h.1 c7
    exact pB_X5_buy_14 hX hE _ _ _ _ h
  · have h := h.2 c7
    refine vw_iload_n hX 2 dX5_buy_9 rfl ?_
    refine vw_iconst hX (v := 2) dX5_buy_10 (by decide) ?_
    refine vw_icmp_le hX (tgt := 24) dX5_buy_11 (by decide) (fun c8 => ?_) (fun c8 => ?_)
    · have h := h.1 c8
      refine vw_iload_n hX 3 dX5_buy_24 rfl ?_
      refine vw_iconst hX (v := 1) dX5_buy_25 (by decide) ?_
      refine vw_icmp_lt hX (tgt := 35) dX5_buy_26 (by decide) (fun c9 => ?_) (fun c9 => ?_)
      · have h := h.1 c9
        exact pB_X5_buy_35 hX hE _ _ _ _ h
      · have h := h.2 c9
        refine vw_iload_n hX 3 dX5_buy_29 rfl ?_
        refine vw_bipush hX (v := 15) dX5_buy_30 (by decide) ?_
        refine vw_icmp_le hX (tgt := 45) dX5_buy_32 (by decide) (fun c10 => ?_) (fun c10 => ?_)
        · have h := h.1 c10
          refine vw_aload_n hX 0 dX5_buy_45 rfl ?_
          obtain ⟨q11, hq11, h⟩ := h
          refine g_X5_10 hX hq11 dX5_buy_46 ?_
          refine vw_iload_n hX 1 dX5_buy_49 rfl ?_
          refine vw_iload_n hX 2 dX5_buy_50 rfl ?_
          refine vw_iload_n hX 3 dX5_buy_51 rfl ?_
          obtain ⟨hr12, h⟩ := h
          refine s_X5_113 hX hr12 dX5_buy_52 (Nat.le_of_ble_eq_true rfl) (ct_X3_canSell (d := d + 4) (lst hX) h) (fun r13 w14 z15 h => ?_)
          refine vw_if_ne hX (tgt := 68) dX5_buy_55 (by decide) (fun c16 => ?_) (fun c16 => ?_)
          · have h := h.1 c16
            refine vw_aload_n hX 0 dX5_buy_68 rfl ?_
            obtain ⟨hr17, h⟩ := h
            refine s_X5_122 hX hr17 dX5_buy_69 (Nat.le_of_ble_eq_true rfl) (ct_X5_keepForUndo (d := d + 3) (lst hX) h) (fun w19 z20 h => ?_)
            refine vw_aload_n hX 0 dX5_buy_72 rfl ?_
            obtain ⟨q21, hq21, h⟩ := h
            refine g_X5_10 hX hq21 dX5_buy_73 ?_
            refine vw_iload_n hX 1 dX5_buy_76 rfl ?_
            refine vw_iload_n hX 2 dX5_buy_77 rfl ?_
            refine vw_iload_n hX 3 dX5_buy_78 rfl ?_
            obtain ⟨hr22, h⟩ := h
            refine s_X5_125 hX hr22 dX5_buy_79 (Nat.le_of_ble_eq_true rfl) (ct_X3_sell (d := d + 4) (lst hX) h) (fun r23 w24 z25 h => ?_)
            exact vw_iret hX hE dX5_buy_82 ⟨_, rfl, h⟩
          · have h := h.2 c16
            exact t_X5_117_119 hX hE dX5_buy_58 dX5_buy_61 dX5_buy_62 dX5_buy_64 dX5_buy_67 (Nat.le_of_ble_eq_true rfl) h.1 h.2.1 h.2.2
        · have h := h.2 c10
          exact pB_X5_buy_35 hX hE _ _ _ _ h
    · have h := h.2 c8
      exact pB_X5_buy_14 hX hE _ _ _ _ h
def B_X5_requireStop_15 (a0 : Nat) (a1 : Int32) (Q : Mm → Nat → Prop) (X : String → Mm → Nat → Prop) (w : Mm) (z : Nat) (mc : Nat) (ms : Nat) : Prop :=
  1 ≤ mc ∧ 6 ≤ ms ∧ ∀ z1, z ≤ z1 → X "java/lang/IndexOutOfBoundsException" w z1
set_option maxRecDepth 100000 in
set_option maxHeartbeats 4000000 in
theorem pB_X5_requireStop_15 {C : Cx} {d : Nat} {a0 : Nat} {a1 : Int32} {Q : Mm → Nat → Prop} {X : String → Mm → Nat → Prop} (hX : CX C cX5_requireStop RX5 2 none [] (d + 6)) (hE : EQ C (rV Q) X) : ∀  (w : Mm) (z mc ms : Nat), B_X5_requireStop_15 a0 a1 Q X  w z mc ms → VW C 15 [(0, .ref (a0)), (1, .int (a1))] [] w z mc ms := by
  intro  w z mc ms h
  unfold B_X5_requireStop_15 at h
  exact t_X5_367_372 hX hE dX5_requireStop_15 dX5_requireStop_18 dX5_requireStop_19 dX5_requireStop_22 dX5_requireStop_25 (Nat.le_of_ble_eq_true rfl) h.1 h.2.1 h.2.2
def F_X5_requireStop (a0 : Nat) (a1 : Int32) (w : Mm) (z : Nat) (mc ms : Nat) (Q : Mm → Nat → Prop) (X : String → Mm → Nat → Prop) : Prop :=
  (a1 < 0 → B_X5_requireStop_15 a0 a1 Q X w z mc ms) ∧
  (¬ a1 < 0 → ∃ q2, fld w a0 9 0 = some (.ref (q2)) ∧ ∃ v3, fld w q2 7 4 = some (.int (v3)) ∧ (a1 < v3 → Q w z) ∧
  (¬ a1 < v3 → B_X5_requireStop_15 a0 a1 Q X w z mc ms))
set_option maxRecDepth 100000 in
set_option maxHeartbeats 4000000 in
theorem ct_X5_requireStop {l : Launch} {g : Gp} {d : Nat} (hst : l.stackTraces = false) {a0 : Nat} {a1 : Int32} {w : Mm} {z mc ms : Nat} {Q : Mm → Nat → Prop} {X : String → Mm → Nat → Prop} (h : F_X5_requireStop a0 a1 w z mc ms Q X) : Ct l g yX5_requireStop (.code yX5_requireStop cX5_requireStop 2 none) (d + 6) mc ms [.ref (a0), .int (a1)] w z (rV Q) X := by
  refine Ct.of hst (by decide) (Nat.le_of_ble_eq_true rfl) (fun C hX hE hg hl hNm => ?_)
  subst hg
  subst hl
  unfold F_X5_requireStop at h
  show VW C 0 [(0, .ref (a0)), (1, .int (a1))] [] w z mc ms
  refine vw_iload_n hX 1 dX5_requireStop_0 rfl ?_
  refine vw_if_lt hX (tgt := 15) dX5_requireStop_1 (by decide) (fun c1 => ?_) (fun c1 => ?_)
  · have h := h.1 c1
    exact pB_X5_requireStop_15 hX hE _ _ _ _ h
  · have h := h.2 c1
    refine vw_iload_n hX 1 dX5_requireStop_4 rfl ?_
    refine vw_aload_n hX 0 dX5_requireStop_5 rfl ?_
    obtain ⟨q2, hq2, h⟩ := h
    refine g_X5_10 hX hq2 dX5_requireStop_6 ?_
    obtain ⟨v3, hv3, h⟩ := h
    refine g_X5_205 hX hv3 dX5_requireStop_9 ?_
    refine vw_icmp_lt hX (tgt := 26) dX5_requireStop_12 (by decide) (fun c4 => ?_) (fun c4 => ?_)
    · have h := h.1 c4
      exact vw_vret hX hE dX5_requireStop_26 ⟨rfl, h⟩
    · have h := h.2 c4
      exact pB_X5_requireStop_15 hX hE _ _ _ _ h
def B_X5_requireTicket_15 (a0 : Nat) (a1 : Int32) (Q : Mm → Nat → Prop) (X : String → Mm → Nat → Prop) (w : Mm) (z : Nat) (mc : Nat) (ms : Nat) : Prop :=
  1 ≤ mc ∧ 6 ≤ ms ∧ ∀ z1, z ≤ z1 → X "java/lang/IndexOutOfBoundsException" w z1
set_option maxRecDepth 100000 in
set_option maxHeartbeats 4000000 in
theorem pB_X5_requireTicket_15 {C : Cx} {d : Nat} {a0 : Nat} {a1 : Int32} {Q : Mm → Nat → Prop} {X : String → Mm → Nat → Prop} (hX : CX C cX5_requireTicket RX5 2 none [] (d + 6)) (hE : EQ C (rV Q) X) : ∀  (w : Mm) (z mc ms : Nat), B_X5_requireTicket_15 a0 a1 Q X  w z mc ms → VW C 15 [(0, .ref (a0)), (1, .int (a1))] [] w z mc ms := by
  intro  w z mc ms h
  unfold B_X5_requireTicket_15 at h
  exact t_X5_367_374 hX hE dX5_requireTicket_15 dX5_requireTicket_18 dX5_requireTicket_19 dX5_requireTicket_22 dX5_requireTicket_25 (Nat.le_of_ble_eq_true rfl) h.1 h.2.1 h.2.2
def F_X5_requireTicket (a0 : Nat) (a1 : Int32) (w : Mm) (z : Nat) (mc ms : Nat) (Q : Mm → Nat → Prop) (X : String → Mm → Nat → Prop) : Prop :=
  (a1 < 0 → B_X5_requireTicket_15 a0 a1 Q X w z mc ms) ∧
  (¬ a1 < 0 → ∃ q2, fld w a0 9 0 = some (.ref (q2)) ∧ ∃ v3, fld w q2 7 6 = some (.int (v3)) ∧ (a1 < v3 → Q w z) ∧
  (¬ a1 < v3 → B_X5_requireTicket_15 a0 a1 Q X w z mc ms))
set_option maxRecDepth 100000 in
set_option maxHeartbeats 4000000 in
theorem ct_X5_requireTicket {l : Launch} {g : Gp} {d : Nat} (hst : l.stackTraces = false) {a0 : Nat} {a1 : Int32} {w : Mm} {z mc ms : Nat} {Q : Mm → Nat → Prop} {X : String → Mm → Nat → Prop} (h : F_X5_requireTicket a0 a1 w z mc ms Q X) : Ct l g yX5_requireTicket (.code yX5_requireTicket cX5_requireTicket 2 none) (d + 6) mc ms [.ref (a0), .int (a1)] w z (rV Q) X := by
  refine Ct.of hst (by decide) (Nat.le_of_ble_eq_true rfl) (fun C hX hE hg hl hNm => ?_)
  subst hg
  subst hl
  unfold F_X5_requireTicket at h
  show VW C 0 [(0, .ref (a0)), (1, .int (a1))] [] w z mc ms
  refine vw_iload_n hX 1 dX5_requireTicket_0 rfl ?_
  refine vw_if_lt hX (tgt := 15) dX5_requireTicket_1 (by decide) (fun c1 => ?_) (fun c1 => ?_)
  · have h := h.1 c1
    exact pB_X5_requireTicket_15 hX hE _ _ _ _ h
  · have h := h.2 c1
    refine vw_iload_n hX 1 dX5_requireTicket_4 rfl ?_
    refine vw_aload_n hX 0 dX5_requireTicket_5 rfl ?_
    obtain ⟨q2, hq2, h⟩ := h
    refine g_X5_10 hX hq2 dX5_requireTicket_6 ?_
    obtain ⟨v3, hv3, h⟩ := h
    refine g_X5_208 hX hv3 dX5_requireTicket_9 ?_
    refine vw_icmp_lt hX (tgt := 26) dX5_requireTicket_12 (by decide) (fun c4 => ?_) (fun c4 => ?_)
    · have h := h.1 c4
      exact vw_vret hX hE dX5_requireTicket_26 ⟨rfl, h⟩
    · have h := h.2 c4
      exact pB_X5_requireTicket_15 hX hE _ _ _ _ h
def B_X5_ride_27 (a0 : Nat) (a1 : Int32) (a2 : Int32) (a3 : Int32) (a4 : Int32) (Q : Int32 → Mm → Nat → Prop) (X : String → Mm → Nat → Prop) (w : Mm) (z : Nat) (mc : Nat) (ms : Nat) : Prop :=
  (¬ a3 = a2 → ∃ q2, fld w a0 9 0 = some (.ref (q2)) ∧ isO w q2 7 ∧ F_X3_canBeginRide q2 a1 a4 w z (fun r4 w5 z6 => (¬ r4 = 0 → isO w5 a0 9 ∧ F_X5_keepForUndo a0 w5 z6 (fun w10 z11 => ∃ q12, fld w10 a0 9 0 = some (.ref (q12)) ∧ isO w10 q12 7 ∧ F_X3_beginRide q12 a1 a2 a3 a4 w10 z11 (fun r14 w15 z16 => Q r14 w15 z16))) ∧
  (r4 = 0 → 1 ≤ mc ∧ 6 ≤ ms ∧ ∀ z1, z6 ≤ z1 → X "java/lang/IllegalStateException" w5 z1))) ∧
  (a3 = a2 → 1 ≤ mc ∧ 6 ≤ ms ∧ ∀ z1, z ≤ z1 → X "java/lang/IllegalArgumentException" w z1)
set_option maxRecDepth 100000 in
set_option maxHeartbeats 4000000 in
theorem pB_X5_ride_27 {C : Cx} {d : Nat} {a0 : Nat} {a1 : Int32} {a2 : Int32} {a3 : Int32} {a4 : Int32} {Q : Int32 → Mm → Nat → Prop} {X : String → Mm → Nat → Prop} (hX : CX C cX5_ride RX5 5 (some .int) [] (d + 7)) (hE : EQ C (rI Q) X) : ∀  (w : Mm) (z mc ms : Nat), B_X5_ride_27 a0 a1 a2 a3 a4 Q X  w z mc ms → VW C 27 [(0, .ref (a0)), (1, .int (a1)), (2, .int (a2)), (3, .int (a3)), (4, .int (a4))] [] w z mc ms := by
  intro  w z mc ms h
  unfold B_X5_ride_27 at h
  refine vw_iload_n hX 3 dX5_ride_27 rfl ?_
  refine vw_iload_n hX 2 dX5_ride_28 rfl ?_
  refine vw_icmp_ne hX (tgt := 42) dX5_ride_29 (by decide) (fun c1 => ?_) (fun c1 => ?_)
  · have h := h.1 c1
    refine vw_aload_n hX 0 dX5_ride_42 rfl ?_
    obtain ⟨q2, hq2, h⟩ := h
    refine g_X5_10 hX hq2 dX5_ride_43 ?_
    refine vw_iload_n hX 1 dX5_ride_46 rfl ?_
    refine vw_iload hX 4 dX5_ride_47 rfl ?_
    obtain ⟨hr3, h⟩ := h
    refine s_X5_137 hX hr3 dX5_ride_49 (Nat.le_of_ble_eq_true rfl) (ct_X3_canBeginRide (d := d + 5) (lst hX) h) (fun r4 w5 z6 h => ?_)
    refine vw_if_ne hX (tgt := 65) dX5_ride_52 (by decide) (fun c7 => ?_) (fun c7 => ?_)
    · have h := h.1 c7
      refine vw_aload_n hX 0 dX5_ride_65 rfl ?_
      obtain ⟨hr8, h⟩ := h
      refine s_X5_122 hX hr8 dX5_ride_66 (Nat.le_of_ble_eq_true rfl) (ct_X5_keepForUndo (d := d + 3) (lst hX) h) (fun w10 z11 h => ?_)
      refine vw_aload_n hX 0 dX5_ride_69 rfl ?_
      obtain ⟨q12, hq12, h⟩ := h
      refine g_X5_10 hX hq12 dX5_ride_70 ?_
      refine vw_iload_n hX 1 dX5_ride_73 rfl ?_
      refine vw_iload_n hX 2 dX5_ride_74 rfl ?_
      refine vw_iload_n hX 3 dX5_ride_75 rfl ?_
      refine vw_iload hX 4 dX5_ride_76 rfl ?_
      obtain ⟨hr13, h⟩ := h
      refine s_X5_143 hX hr13 dX5_ride_78 (Nat.le_of_ble_eq_true rfl) (ct_X3_beginRide (d := d + 4) (lst hX) h) (fun r14 w15 z16 h => ?_)
      exact vw_iret hX hE dX5_ride_81 ⟨_, rfl, h⟩
    · have h := h.2 c7
      exact t_X5_117_141 hX hE dX5_ride_55 dX5_ride_58 dX5_ride_59 dX5_ride_61 dX5_ride_64 (Nat.le_of_ble_eq_true rfl) h.1 h.2.1 h.2.2
  · have h := h.2 c1
    exact t_X5_67_135 hX hE dX5_ride_32 dX5_ride_35 dX5_ride_36 dX5_ride_38 dX5_ride_41 (Nat.le_of_ble_eq_true rfl) h.1 h.2.1 h.2.2
def F_X5_ride (a0 : Nat) (a1 : Int32) (a2 : Int32) (a3 : Int32) (a4 : Int32) (w : Mm) (z : Nat) (mc ms : Nat) (Q : Int32 → Mm → Nat → Prop) (X : String → Mm → Nat → Prop) : Prop :=
  isO w a0 9 ∧ ∃ k5 k6, k5 ≤ mc ∧ k6 ≤ ms ∧ F_X5_requirePassenger a0 a1 w z k5 k6 (fun w3 z4 => isO w3 a0 9 ∧ ∃ k11 k12, k11 ≤ (mc - k5) ∧ k12 ≤ (ms - k6) ∧ F_X5_requireStop a0 a2 w3 z4 k11 k12 (fun w9 z10 => isO w9 a0 9 ∧ ∃ k17 k18, k17 ≤ ((mc - k5) - k11) ∧ k18 ≤ ((ms - k6) - k12) ∧ F_X5_requireStop a0 a3 w9 z10 k17 k18 (fun w15 z16 => (a4 = (-1) → B_X5_ride_27 a0 a1 a2 a3 a4 Q X w15 z16 ((((mc - k5) - k11) - k17)) ((((ms - k6) - k12) - k18))) ∧
  (¬ a4 = (-1) → isO w15 a0 9 ∧ ∃ k24 k25, k24 ≤ (((mc - k5) - k11) - k17) ∧ k25 ≤ (((ms - k6) - k12) - k18) ∧ F_X5_requireTicket a0 a4 w15 z16 k24 k25 (fun w22 z23 => B_X5_ride_27 a0 a1 a2 a3 a4 Q X w22 z23 (((((mc - k5) - k11) - k17) - k24)) (((((ms - k6) - k12) - k18) - k25))) X)) X) X) X
set_option maxRecDepth 100000 in
set_option maxHeartbeats 4000000 in
theorem ct_X5_ride {l : Launch} {g : Gp} {d : Nat} (hst : l.stackTraces = false) {a0 : Nat} {a1 : Int32} {a2 : Int32} {a3 : Int32} {a4 : Int32} {w : Mm} {z mc ms : Nat} {Q : Int32 → Mm → Nat → Prop} {X : String → Mm → Nat → Prop} (h : F_X5_ride a0 a1 a2 a3 a4 w z mc ms Q X) : Ct l g yX5_ride (.code yX5_ride cX5_ride 5 (some .int)) (d + 7) mc ms [.ref (a0), .int (a1), .int (a2), .int (a3), .int (a4)] w z (rI Q) X := by
  refine Ct.of hst (by decide) (Nat.le_of_ble_eq_true rfl) (fun C hX hE hg hl hNm => ?_)
  subst hg
  subst hl
  unfold F_X5_ride at h
  show VW C 0 [(0, .ref (a0)), (1, .int (a1)), (2, .int (a2)), (3, .int (a3)), (4, .int (a4))] [] w z mc ms
  refine vw_aload_n hX 0 dX5_ride_0 rfl ?_
  refine vw_iload_n hX 1 dX5_ride_1 rfl ?_
  obtain ⟨hr1, h⟩ := h
  obtain ⟨k5, k6, hm1, hm2, h⟩ := h
  refine s_X5_106 hX hr1 dX5_ride_2 (Nat.le_of_ble_eq_true rfl) hm1 hm2 (ct_X5_requirePassenger (d := d + 0) (lst hX) h) (fun w3 z4 h => ?_) (fun E w1 z1 hx => vx_outE hX hE hx)
  refine vw_aload_n hX 0 dX5_ride_5 rfl ?_
  refine vw_iload_n hX 2 dX5_ride_6 rfl ?_
  obtain ⟨hr7, h⟩ := h
  obtain ⟨k11, k12, hm1, hm2, h⟩ := h
  refine s_X5_129 hX hr7 dX5_ride_7 (Nat.le_of_ble_eq_true rfl) hm1 hm2 (ct_X5_requireStop (d := d + 0) (lst hX) h) (fun w9 z10 h => ?_) (fun E w1 z1 hx => vx_outE hX hE hx)
  refine vw_aload_n hX 0 dX5_ride_10 rfl ?_
  refine vw_iload_n hX 3 dX5_ride_11 rfl ?_
  obtain ⟨hr13, h⟩ := h
  obtain ⟨k17, k18, hm1, hm2, h⟩ := h
  refine s_X5_129 hX hr13 dX5_ride_12 (Nat.le_of_ble_eq_true rfl) hm1 hm2 (ct_X5_requireStop (d := d + 0) (lst hX) h) (fun w15 z16 h => ?_) (fun E w1 z1 hx => vx_outE hX hE hx)
  refine vw_iload hX 4 dX5_ride_15 rfl ?_
  refine vw_iconst hX (v := (-1)) dX5_ride_17 (by decide) ?_
  refine vw_icmp_eq hX (tgt := 27) dX5_ride_18 (by decide) (fun c19 => ?_) (fun c19 => ?_)
  · have h := h.1 c19
    exact pB_X5_ride_27 hX hE _ _ _ _ h
  · have h := h.2 c19
    refine vw_aload_n hX 0 dX5_ride_21 rfl ?_
    refine vw_iload hX 4 dX5_ride_22 rfl ?_
    obtain ⟨hr20, h⟩ := h
    obtain ⟨k24, k25, hm1, hm2, h⟩ := h
    refine s_X5_132 hX hr20 dX5_ride_24 (Nat.le_of_ble_eq_true rfl) hm1 hm2 (ct_X5_requireTicket (d := d + 0) (lst hX) h) (fun w22 z23 h => ?_) (fun E w1 z1 hx => vx_outE hX hE hx)
    exact pB_X5_ride_27 hX hE _ _ _ _ h
def F_X5_inspect (a0 : Nat) (a1 : Int32) (w : Mm) (z : Nat) (mc ms : Nat) (Q : Int32 → Mm → Nat → Prop) (X : String → Mm → Nat → Prop) : Prop :=
  isO w a0 9 ∧ ∃ k5 k6, k5 ≤ mc ∧ k6 ≤ ms ∧ F_X5_requirePassenger a0 a1 w z k5 k6 (fun w3 z4 => ∃ q7, fld w3 a0 9 0 = some (.ref (q7)) ∧ isO w3 q7 7 ∧ F_X3_canInspect q7 a1 w3 z4 (fun r9 w10 z11 => (¬ r9 = 0 → isO w10 a0 9 ∧ F_X5_keepForUndo a0 w10 z11 (fun w15 z16 => ∃ q17, fld w15 a0 9 0 = some (.ref (q17)) ∧ isO w15 q17 7 ∧ F_X3_inspectRide q17 a1 w15 z16 (fun r19 w20 z21 => Q r19 w20 z21))) ∧
  (r9 = 0 → 1 ≤ (mc - k5) ∧ 6 ≤ (ms - k6) ∧ ∀ z1, z11 ≤ z1 → X "java/lang/IllegalStateException" w10 z1))) X
set_option maxRecDepth 100000 in
set_option maxHeartbeats 4000000 in
theorem ct_X5_inspect {l : Launch} {g : Gp} {d : Nat} (hst : l.stackTraces = false) {a0 : Nat} {a1 : Int32} {w : Mm} {z mc ms : Nat} {Q : Int32 → Mm → Nat → Prop} {X : String → Mm → Nat → Prop} (h : F_X5_inspect a0 a1 w z mc ms Q X) : Ct l g yX5_inspect (.code yX5_inspect cX5_inspect 2 (some .int)) (d + 7) mc ms [.ref (a0), .int (a1)] w z (rI Q) X := by
  refine Ct.of hst (by decide) (Nat.le_of_ble_eq_true rfl) (fun C hX hE hg hl hNm => ?_)
  subst hg
  subst hl
  unfold F_X5_inspect at h
  show VW C 0 [(0, .ref (a0)), (1, .int (a1))] [] w z mc ms
  refine vw_aload_n hX 0 dX5_inspect_0 rfl ?_
  refine vw_iload_n hX 1 dX5_inspect_1 rfl ?_
  obtain ⟨hr1, h⟩ := h
  obtain ⟨k5, k6, hm1, hm2, h⟩ := h
  refine s_X5_106 hX hr1 dX5_inspect_2 (Nat.le_of_ble_eq_true rfl) hm1 hm2 (ct_X5_requirePassenger (d := d + 0) (lst hX) h) (fun w3 z4 h => ?_) (fun E w1 z1 hx => vx_outE hX hE hx)
  refine vw_aload_n hX 0 dX5_inspect_5 rfl ?_
  obtain ⟨q7, hq7, h⟩ := h
  refine g_X5_10 hX hq7 dX5_inspect_6 ?_
  refine vw_iload_n hX 1 dX5_inspect_9 rfl ?_
  obtain ⟨hr8, h⟩ := h
  refine s_X5_147 hX hr8 dX5_inspect_10 (Nat.le_of_ble_eq_true rfl) (ct_X3_canInspect (d := d + 5) (lst hX) h) (fun r9 w10 z11 h => ?_)
  refine vw_if_ne hX (tgt := 26) dX5_inspect_13 (by decide) (fun c12 => ?_) (fun c12 => ?_)
  · have h := h.1 c12
    refine vw_aload_n hX 0 dX5_inspect_26 rfl ?_
    obtain ⟨hr13, h⟩ := h
    refine s_X5_122 hX hr13 dX5_inspect_27 (Nat.le_of_ble_eq_true rfl) (ct_X5_keepForUndo (d := d + 3) (lst hX) h) (fun w15 z16 h => ?_)
    refine vw_aload_n hX 0 dX5_inspect_30 rfl ?_
    obtain ⟨q17, hq17, h⟩ := h
    refine g_X5_10 hX hq17 dX5_inspect_31 ?_
    refine vw_iload_n hX 1 dX5_inspect_34 rfl ?_
    obtain ⟨hr18, h⟩ := h
    refine s_X5_153 hX hr18 dX5_inspect_35 (Nat.le_of_ble_eq_true rfl) (ct_X3_inspectRide (d := d + 3) (lst hX) h) (fun r19 w20 z21 h => ?_)
    exact vw_iret hX hE dX5_inspect_38 ⟨_, rfl, h⟩
  · have h := h.2 c12
    exact t_X5_117_151 hX hE dX5_inspect_16 dX5_inspect_19 dX5_inspect_20 dX5_inspect_22 dX5_inspect_25 (Nat.le_of_ble_eq_true rfl) h.1 h.2.1 h.2.2
def B_X5_waitFor_12 (a0 : Nat) (a1 : Int32) (Q : Int32 → Mm → Nat → Prop) (X : String → Mm → Nat → Prop) (w : Mm) (z : Nat) (mc : Nat) (ms : Nat) : Prop :=
  1 ≤ mc ∧ 6 ≤ ms ∧ ∀ z1, z ≤ z1 → X "java/lang/IllegalArgumentException" w z1
set_option maxRecDepth 100000 in
set_option maxHeartbeats 4000000 in
theorem pB_X5_waitFor_12 {C : Cx} {d : Nat} {a0 : Nat} {a1 : Int32} {Q : Int32 → Mm → Nat → Prop} {X : String → Mm → Nat → Prop} (hX : CX C cX5_waitFor RX5 2 (some .int) [] (d + 6)) (hE : EQ C (rI Q) X) : ∀  (w : Mm) (z mc ms : Nat), B_X5_waitFor_12 a0 a1 Q X  w z mc ms → VW C 12 [(0, .ref (a0)), (1, .int (a1))] [] w z mc ms := by
  intro  w z mc ms h
  unfold B_X5_waitFor_12 at h
  exact t_X5_67_156 hX hE dX5_waitFor_12 dX5_waitFor_15 dX5_waitFor_16 dX5_waitFor_18 dX5_waitFor_21 (Nat.le_of_ble_eq_true rfl) h.1 h.2.1 h.2.2
def F_X5_waitFor (a0 : Nat) (a1 : Int32) (w : Mm) (z : Nat) (mc ms : Nat) (Q : Int32 → Mm → Nat → Prop) (X : String → Mm → Nat → Prop) : Prop :=
  (a1 < 1 → B_X5_waitFor_12 a0 a1 Q X w z mc ms) ∧
  (¬ a1 < 1 → (a1 ≤ 9999 → ∃ q3, fld w a0 9 0 = some (.ref (q3)) ∧ ∃ v4, fld w q3 7 0 = some (.int (v4)) ∧ (a1 ≤ ((99999 - v4)) → isO w a0 9 ∧ F_X5_keepForUndo a0 w z (fun w8 z9 => ∃ q10, fld w8 a0 9 0 = some (.ref (q10)) ∧ ∃ v11, fld w8 q10 7 0 = some (.int (v11)) ∧ ∃ f12, obj w8 q10 7 = some f12 ∧ 0 < f12.length ∧ ∀ w13, w13 = mset w8 q10 (.inl (7, f12.set 0 (.int ((v11 + a1))))) → ∃ q14, fld w13 a0 9 0 = some (.ref (q14)) ∧ ∃ v15, fld w13 q14 7 0 = some (.int (v15)) ∧ Q v15 w13 z9)) ∧
  (¬ a1 ≤ ((99999 - v4)) → 1 ≤ mc ∧ 6 ≤ ms ∧ ∀ z1, z ≤ z1 → X "java/lang/IllegalStateException" w z1)) ∧
  (¬ a1 ≤ 9999 → B_X5_waitFor_12 a0 a1 Q X w z mc ms))
set_option maxRecDepth 100000 in
set_option maxHeartbeats 4000000 in
theorem ct_X5_waitFor {l : Launch} {g : Gp} {d : Nat} (hst : l.stackTraces = false) {a0 : Nat} {a1 : Int32} {w : Mm} {z mc ms : Nat} {Q : Int32 → Mm → Nat → Prop} {X : String → Mm → Nat → Prop} (h : F_X5_waitFor a0 a1 w z mc ms Q X) : Ct l g yX5_waitFor (.code yX5_waitFor cX5_waitFor 2 (some .int)) (d + 6) mc ms [.ref (a0), .int (a1)] w z (rI Q) X := by
  refine Ct.of hst (by decide) (Nat.le_of_ble_eq_true rfl) (fun C hX hE hg hl hNm => ?_)
  subst hg
  subst hl
  unfold F_X5_waitFor at h
  show VW C 0 [(0, .ref (a0)), (1, .int (a1))] [] w z mc ms
  refine vw_iload_n hX 1 dX5_waitFor_0 rfl ?_
  refine vw_iconst hX (v := 1) dX5_waitFor_1 (by decide) ?_
  refine vw_icmp_lt hX (tgt := 12) dX5_waitFor_2 (by decide) (fun c1 => ?_) (fun c1 => ?_)
  · have h := h.1 c1
    exact pB_X5_waitFor_12 hX hE _ _ _ _ h
  · have h := h.2 c1
    refine vw_iload_n hX 1 dX5_waitFor_5 rfl ?_
    refine vw_sipush hX (v := 9999) dX5_waitFor_6 (by decide) ?_
    refine vw_icmp_le hX (tgt := 22) dX5_waitFor_9 (by decide) (fun c2 => ?_) (fun c2 => ?_)
    · have h := h.1 c2
      refine vw_iload_n hX 1 dX5_waitFor_22 rfl ?_
      refine vw_ldcI hX kw_979 dX5_waitFor_23 ?_
      refine vw_aload_n hX 0 dX5_waitFor_25 rfl ?_
      obtain ⟨q3, hq3, h⟩ := h
      refine g_X5_10 hX hq3 dX5_waitFor_26 ?_
      obtain ⟨v4, hv4, h⟩ := h
      refine g_X5_159 hX hv4 dX5_waitFor_29 ?_
      refine vw_isub hX dX5_waitFor_32 ?_
      refine vw_icmp_le hX (tgt := 46) dX5_waitFor_33 (by decide) (fun c5 => ?_) (fun c5 => ?_)
      · have h := h.1 c5
        refine vw_aload_n hX 0 dX5_waitFor_46 rfl ?_
        obtain ⟨hr6, h⟩ := h
        refine s_X5_122 hX hr6 dX5_waitFor_47 (Nat.le_of_ble_eq_true rfl) (ct_X5_keepForUndo (d := d + 2) (lst hX) h) (fun w8 z9 h => ?_)
        refine vw_aload_n hX 0 dX5_waitFor_50 rfl ?_
        obtain ⟨q10, hq10, h⟩ := h
        refine g_X5_10 hX hq10 dX5_waitFor_51 ?_
        refine vw_dup hX dX5_waitFor_54 rfl ?_
        obtain ⟨v11, hv11, h⟩ := h
        refine g_X5_159 hX hv11 dX5_waitFor_55 ?_
        refine vw_iload_n hX 1 dX5_waitFor_58 rfl ?_
        refine vw_iadd hX dX5_waitFor_59 ?_
        obtain ⟨f12, hf12, hlf12, h⟩ := h
        refine p_X5_159 hX hf12 hlf12 dX5_waitFor_60 ?_
        refine vw_nmW (fun w13 ew13 => ?_)
        have h := h w13 ew13
        refine vw_aload_n hX 0 dX5_waitFor_63 rfl ?_
        obtain ⟨q14, hq14, h⟩ := h
        refine g_X5_10 hX hq14 dX5_waitFor_64 ?_
        obtain ⟨v15, hv15, h⟩ := h
        refine g_X5_159 hX hv15 dX5_waitFor_67 ?_
        exact vw_iret hX hE dX5_waitFor_70 ⟨_, rfl, h⟩
      · have h := h.2 c5
        exact t_X5_117_162 hX hE dX5_waitFor_36 dX5_waitFor_39 dX5_waitFor_40 dX5_waitFor_42 dX5_waitFor_45 (Nat.le_of_ble_eq_true rfl) h.1 h.2.1 h.2.2
    · have h := h.2 c2
      exact pB_X5_waitFor_12 hX hE _ _ _ _ h
def B_X5_requireCase_15 (a0 : Nat) (a1 : Int32) (Q : Mm → Nat → Prop) (X : String → Mm → Nat → Prop) (w : Mm) (z : Nat) (mc : Nat) (ms : Nat) : Prop :=
  1 ≤ mc ∧ 6 ≤ ms ∧ ∀ z1, z ≤ z1 → X "java/lang/IndexOutOfBoundsException" w z1
set_option maxRecDepth 100000 in
set_option maxHeartbeats 4000000 in
theorem pB_X5_requireCase_15 {C : Cx} {d : Nat} {a0 : Nat} {a1 : Int32} {Q : Mm → Nat → Prop} {X : String → Mm → Nat → Prop} (hX : CX C cX5_requireCase RX5 2 none [] (d + 6)) (hE : EQ C (rV Q) X) : ∀  (w : Mm) (z mc ms : Nat), B_X5_requireCase_15 a0 a1 Q X  w z mc ms → VW C 15 [(0, .ref (a0)), (1, .int (a1))] [] w z mc ms := by
  intro  w z mc ms h
  unfold B_X5_requireCase_15 at h
  exact t_X5_367_376 hX hE dX5_requireCase_15 dX5_requireCase_18 dX5_requireCase_19 dX5_requireCase_22 dX5_requireCase_25 (Nat.le_of_ble_eq_true rfl) h.1 h.2.1 h.2.2
def F_X5_requireCase (a0 : Nat) (a1 : Int32) (w : Mm) (z : Nat) (mc ms : Nat) (Q : Mm → Nat → Prop) (X : String → Mm → Nat → Prop) : Prop :=
  (a1 < 0 → B_X5_requireCase_15 a0 a1 Q X w z mc ms) ∧
  (¬ a1 < 0 → ∃ q2, fld w a0 9 0 = some (.ref (q2)) ∧ ∃ v3, fld w q2 7 7 = some (.int (v3)) ∧ (a1 < v3 → Q w z) ∧
  (¬ a1 < v3 → B_X5_requireCase_15 a0 a1 Q X w z mc ms))
set_option maxRecDepth 100000 in
set_option maxHeartbeats 4000000 in
theorem ct_X5_requireCase {l : Launch} {g : Gp} {d : Nat} (hst : l.stackTraces = false) {a0 : Nat} {a1 : Int32} {w : Mm} {z mc ms : Nat} {Q : Mm → Nat → Prop} {X : String → Mm → Nat → Prop} (h : F_X5_requireCase a0 a1 w z mc ms Q X) : Ct l g yX5_requireCase (.code yX5_requireCase cX5_requireCase 2 none) (d + 6) mc ms [.ref (a0), .int (a1)] w z (rV Q) X := by
  refine Ct.of hst (by decide) (Nat.le_of_ble_eq_true rfl) (fun C hX hE hg hl hNm => ?_)
  subst hg
  subst hl
  unfold F_X5_requireCase at h
  show VW C 0 [(0, .ref (a0)), (1, .int (a1))] [] w z mc ms
  refine vw_iload_n hX 1 dX5_requireCase_0 rfl ?_
  refine vw_if_lt hX (tgt := 15) dX5_requireCase_1 (by decide) (fun c1 => ?_) (fun c1 => ?_)
  · have h := h.1 c1
    exact pB_X5_requireCase_15 hX hE _ _ _ _ h
  · have h := h.2 c1
    refine vw_iload_n hX 1 dX5_requireCase_4 rfl ?_
    refine vw_aload_n hX 0 dX5_requireCase_5 rfl ?_
    obtain ⟨q2, hq2, h⟩ := h
    refine g_X5_10 hX hq2 dX5_requireCase_6 ?_
    obtain ⟨v3, hv3, h⟩ := h
    refine g_X5_211 hX hv3 dX5_requireCase_9 ?_
    refine vw_icmp_lt hX (tgt := 26) dX5_requireCase_12 (by decide) (fun c4 => ?_) (fun c4 => ?_)
    · have h := h.1 c4
      exact vw_vret hX hE dX5_requireCase_26 ⟨rfl, h⟩
    · have h := h.2 c4
      exact pB_X5_requireCase_15 hX hE _ _ _ _ h
def F_X5_appeal (a0 : Nat) (a1 : Int32) (a2 : Int32) (w : Mm) (z : Nat) (mc ms : Nat) (Q : Int32 → Mm → Nat → Prop) (X : String → Mm → Nat → Prop) : Prop :=
  isO w a0 9 ∧ ∃ k5 k6, k5 ≤ mc ∧ k6 ≤ ms ∧ F_X5_requireCase a0 a1 w z k5 k6 (fun w3 z4 => isO w3 a0 9 ∧ ∃ k11 k12, k11 ≤ (mc - k5) ∧ k12 ≤ (ms - k6) ∧ F_X5_requireTicket a0 a2 w3 z4 k11 k12 (fun w9 z10 => ∃ q13, fld w9 a0 9 0 = some (.ref (q13)) ∧ isO w9 q13 7 ∧ F_X3_canAppeal q13 a1 w9 z10 (fun r15 w16 z17 => (¬ r15 = 0 → isO w16 a0 9 ∧ F_X5_keepForUndo a0 w16 z17 (fun w21 z22 => ∃ q23, fld w21 a0 9 0 = some (.ref (q23)) ∧ isO w21 q23 7 ∧ F_X3_beginAppeal q23 a1 a2 w21 z22 (fun r25 w26 z27 => Q r25 w26 z27))) ∧
  (r15 = 0 → 1 ≤ ((mc - k5) - k11) ∧ 6 ≤ ((ms - k6) - k12) ∧ ∀ z1, z17 ≤ z1 → X "java/lang/IllegalStateException" w16 z1))) X) X
set_option maxRecDepth 100000 in
set_option maxHeartbeats 4000000 in
theorem ct_X5_appeal {l : Launch} {g : Gp} {d : Nat} (hst : l.stackTraces = false) {a0 : Nat} {a1 : Int32} {a2 : Int32} {w : Mm} {z mc ms : Nat} {Q : Int32 → Mm → Nat → Prop} {X : String → Mm → Nat → Prop} (h : F_X5_appeal a0 a1 a2 w z mc ms Q X) : Ct l g yX5_appeal (.code yX5_appeal cX5_appeal 3 (some .int)) (d + 7) mc ms [.ref (a0), .int (a1), .int (a2)] w z (rI Q) X := by
  refine Ct.of hst (by decide) (Nat.le_of_ble_eq_true rfl) (fun C hX hE hg hl hNm => ?_)
  subst hg
  subst hl
  unfold F_X5_appeal at h
  show VW C 0 [(0, .ref (a0)), (1, .int (a1)), (2, .int (a2))] [] w z mc ms
  refine vw_aload_n hX 0 dX5_appeal_0 rfl ?_
  refine vw_iload_n hX 1 dX5_appeal_1 rfl ?_
  obtain ⟨hr1, h⟩ := h
  obtain ⟨k5, k6, hm1, hm2, h⟩ := h
  refine s_X5_164 hX hr1 dX5_appeal_2 (Nat.le_of_ble_eq_true rfl) hm1 hm2 (ct_X5_requireCase (d := d + 0) (lst hX) h) (fun w3 z4 h => ?_) (fun E w1 z1 hx => vx_outE hX hE hx)
  refine vw_aload_n hX 0 dX5_appeal_5 rfl ?_
  refine vw_iload_n hX 2 dX5_appeal_6 rfl ?_
  obtain ⟨hr7, h⟩ := h
  obtain ⟨k11, k12, hm1, hm2, h⟩ := h
  refine s_X5_132 hX hr7 dX5_appeal_7 (Nat.le_of_ble_eq_true rfl) hm1 hm2 (ct_X5_requireTicket (d := d + 0) (lst hX) h) (fun w9 z10 h => ?_) (fun E w1 z1 hx => vx_outE hX hE hx)
  refine vw_aload_n hX 0 dX5_appeal_10 rfl ?_
  obtain ⟨q13, hq13, h⟩ := h
  refine g_X5_10 hX hq13 dX5_appeal_11 ?_
  refine vw_iload_n hX 1 dX5_appeal_14 rfl ?_
  obtain ⟨hr14, h⟩ := h
  refine s_X5_167 hX hr14 dX5_appeal_15 (Nat.le_of_ble_eq_true rfl) (ct_X3_canAppeal (d := d + 5) (lst hX) h) (fun r15 w16 z17 h => ?_)
  refine vw_if_ne hX (tgt := 31) dX5_appeal_18 (by decide) (fun c18 => ?_) (fun c18 => ?_)
  · have h := h.1 c18
    refine vw_aload_n hX 0 dX5_appeal_31 rfl ?_
    obtain ⟨hr19, h⟩ := h
    refine s_X5_122 hX hr19 dX5_appeal_32 (Nat.le_of_ble_eq_true rfl) (ct_X5_keepForUndo (d := d + 3) (lst hX) h) (fun w21 z22 h => ?_)
    refine vw_aload_n hX 0 dX5_appeal_35 rfl ?_
    obtain ⟨q23, hq23, h⟩ := h
    refine g_X5_10 hX hq23 dX5_appeal_36 ?_
    refine vw_iload_n hX 1 dX5_appeal_39 rfl ?_
    refine vw_iload_n hX 2 dX5_appeal_40 rfl ?_
    obtain ⟨hr24, h⟩ := h
    refine s_X5_172 hX hr24 dX5_appeal_41 (Nat.le_of_ble_eq_true rfl) (ct_X3_beginAppeal (d := d + 6) (lst hX) h) (fun r25 w26 z27 h => ?_)
    exact vw_iret hX hE dX5_appeal_44 ⟨_, rfl, h⟩
  · have h := h.2 c18
    exact t_X5_117_170 hX hE dX5_appeal_21 dX5_appeal_24 dX5_appeal_25 dX5_appeal_27 dX5_appeal_30 (Nat.le_of_ble_eq_true rfl) h.1 h.2.1 h.2.2
def F_X5_decide (a0 : Nat) (a1 : Int32) (w : Mm) (z : Nat) (mc ms : Nat) (Q : Int32 → Mm → Nat → Prop) (X : String → Mm → Nat → Prop) : Prop :=
  isO w a0 9 ∧ ∃ k5 k6, k5 ≤ mc ∧ k6 ≤ ms ∧ F_X5_requireCase a0 a1 w z k5 k6 (fun w3 z4 => ∃ q7, fld w3 a0 9 0 = some (.ref (q7)) ∧ isO w3 q7 7 ∧ F_X3_canDecide q7 a1 w3 z4 (fun r9 w10 z11 => (¬ r9 = 0 → isO w10 a0 9 ∧ F_X5_keepForUndo a0 w10 z11 (fun w15 z16 => ∃ q17, fld w15 a0 9 0 = some (.ref (q17)) ∧ isO w15 q17 7 ∧ F_X3_decideAppeal q17 a1 w15 z16 (fun r19 w20 z21 => Q r19 w20 z21))) ∧
  (r9 = 0 → 1 ≤ (mc - k5) ∧ 6 ≤ (ms - k6) ∧ ∀ z1, z11 ≤ z1 → X "java/lang/IllegalStateException" w10 z1))) X
set_option maxRecDepth 100000 in
set_option maxHeartbeats 4000000 in
theorem ct_X5_decide {l : Launch} {g : Gp} {d : Nat} (hst : l.stackTraces = false) {a0 : Nat} {a1 : Int32} {w : Mm} {z mc ms : Nat} {Q : Int32 → Mm → Nat → Prop} {X : String → Mm → Nat → Prop} (h : F_X5_decide a0 a1 w z mc ms Q X) : Ct l g yX5_decide (.code yX5_decide cX5_decide 2 (some .int)) (d + 7) mc ms [.ref (a0), .int (a1)] w z (rI Q) X := by
  refine Ct.of hst (by decide) (Nat.le_of_ble_eq_true rfl) (fun C hX hE hg hl hNm => ?_)
  subst hg
  subst hl
  unfold F_X5_decide at h
  show VW C 0 [(0, .ref (a0)), (1, .int (a1))] [] w z mc ms
  refine vw_aload_n hX 0 dX5_decide_0 rfl ?_
  refine vw_iload_n hX 1 dX5_decide_1 rfl ?_
  obtain ⟨hr1, h⟩ := h
  obtain ⟨k5, k6, hm1, hm2, h⟩ := h
  refine s_X5_164 hX hr1 dX5_decide_2 (Nat.le_of_ble_eq_true rfl) hm1 hm2 (ct_X5_requireCase (d := d + 0) (lst hX) h) (fun w3 z4 h => ?_) (fun E w1 z1 hx => vx_outE hX hE hx)
  refine vw_aload_n hX 0 dX5_decide_5 rfl ?_
  obtain ⟨q7, hq7, h⟩ := h
  refine g_X5_10 hX hq7 dX5_decide_6 ?_
  refine vw_iload_n hX 1 dX5_decide_9 rfl ?_
  obtain ⟨hr8, h⟩ := h
  refine s_X5_176 hX hr8 dX5_decide_10 (Nat.le_of_ble_eq_true rfl) (ct_X3_canDecide (d := d + 6) (lst hX) h) (fun r9 w10 z11 h => ?_)
  refine vw_if_ne hX (tgt := 26) dX5_decide_13 (by decide) (fun c12 => ?_) (fun c12 => ?_)
  · have h := h.1 c12
    refine vw_aload_n hX 0 dX5_decide_26 rfl ?_
    obtain ⟨hr13, h⟩ := h
    refine s_X5_122 hX hr13 dX5_decide_27 (Nat.le_of_ble_eq_true rfl) (ct_X5_keepForUndo (d := d + 3) (lst hX) h) (fun w15 z16 h => ?_)
    refine vw_aload_n hX 0 dX5_decide_30 rfl ?_
    obtain ⟨q17, hq17, h⟩ := h
    refine g_X5_10 hX hq17 dX5_decide_31 ?_
    refine vw_iload_n hX 1 dX5_decide_34 rfl ?_
    obtain ⟨hr18, h⟩ := h
    refine s_X5_181 hX hr18 dX5_decide_35 (Nat.le_of_ble_eq_true rfl) (ct_X3_decideAppeal (d := d + 3) (lst hX) h) (fun r19 w20 z21 h => ?_)
    exact vw_iret hX hE dX5_decide_38 ⟨_, rfl, h⟩
  · have h := h.2 c12
    exact t_X5_117_179 hX hE dX5_decide_16 dX5_decide_19 dX5_decide_20 dX5_decide_22 dX5_decide_25 (Nat.le_of_ble_eq_true rfl) h.1 h.2.1 h.2.2
def F_X5_pay (a0 : Nat) (a1 : Int32) (w : Mm) (z : Nat) (mc ms : Nat) (Q : Int32 → Mm → Nat → Prop) (X : String → Mm → Nat → Prop) : Prop :=
  isO w a0 9 ∧ ∃ k5 k6, k5 ≤ mc ∧ k6 ≤ ms ∧ F_X5_requireCase a0 a1 w z k5 k6 (fun w3 z4 => ∃ q7, fld w3 a0 9 0 = some (.ref (q7)) ∧ isO w3 q7 7 ∧ F_X3_canPay q7 a1 w3 z4 (fun r9 w10 z11 => (¬ r9 = 0 → isO w10 a0 9 ∧ F_X5_keepForUndo a0 w10 z11 (fun w15 z16 => ∃ q17, fld w15 a0 9 0 = some (.ref (q17)) ∧ isO w15 q17 7 ∧ F_X3_payCase q17 a1 w15 z16 (fun r19 w20 z21 => Q r19 w20 z21))) ∧
  (r9 = 0 → 1 ≤ (mc - k5) ∧ 6 ≤ (ms - k6) ∧ ∀ z1, z11 ≤ z1 → X "java/lang/IllegalStateException" w10 z1))) X
set_option maxRecDepth 100000 in
set_option maxHeartbeats 4000000 in
theorem ct_X5_pay {l : Launch} {g : Gp} {d : Nat} (hst : l.stackTraces = false) {a0 : Nat} {a1 : Int32} {w : Mm} {z mc ms : Nat} {Q : Int32 → Mm → Nat → Prop} {X : String → Mm → Nat → Prop} (h : F_X5_pay a0 a1 w z mc ms Q X) : Ct l g yX5_pay (.code yX5_pay cX5_pay 2 (some .int)) (d + 7) mc ms [.ref (a0), .int (a1)] w z (rI Q) X := by
  refine Ct.of hst (by decide) (Nat.le_of_ble_eq_true rfl) (fun C hX hE hg hl hNm => ?_)
  subst hg
  subst hl
  unfold F_X5_pay at h
  show VW C 0 [(0, .ref (a0)), (1, .int (a1))] [] w z mc ms
  refine vw_aload_n hX 0 dX5_pay_0 rfl ?_
  refine vw_iload_n hX 1 dX5_pay_1 rfl ?_
  obtain ⟨hr1, h⟩ := h
  obtain ⟨k5, k6, hm1, hm2, h⟩ := h
  refine s_X5_164 hX hr1 dX5_pay_2 (Nat.le_of_ble_eq_true rfl) hm1 hm2 (ct_X5_requireCase (d := d + 0) (lst hX) h) (fun w3 z4 h => ?_) (fun E w1 z1 hx => vx_outE hX hE hx)
  refine vw_aload_n hX 0 dX5_pay_5 rfl ?_
  obtain ⟨q7, hq7, h⟩ := h
  refine g_X5_10 hX hq7 dX5_pay_6 ?_
  refine vw_iload_n hX 1 dX5_pay_9 rfl ?_
  obtain ⟨hr8, h⟩ := h
  refine s_X5_184 hX hr8 dX5_pay_10 (Nat.le_of_ble_eq_true rfl) (ct_X3_canPay (d := d + 4) (lst hX) h) (fun r9 w10 z11 h => ?_)
  refine vw_if_ne hX (tgt := 26) dX5_pay_13 (by decide) (fun c12 => ?_) (fun c12 => ?_)
  · have h := h.1 c12
    refine vw_aload_n hX 0 dX5_pay_26 rfl ?_
    obtain ⟨hr13, h⟩ := h
    refine s_X5_122 hX hr13 dX5_pay_27 (Nat.le_of_ble_eq_true rfl) (ct_X5_keepForUndo (d := d + 3) (lst hX) h) (fun w15 z16 h => ?_)
    refine vw_aload_n hX 0 dX5_pay_30 rfl ?_
    obtain ⟨q17, hq17, h⟩ := h
    refine g_X5_10 hX hq17 dX5_pay_31 ?_
    refine vw_iload_n hX 1 dX5_pay_34 rfl ?_
    obtain ⟨hr18, h⟩ := h
    refine s_X5_189 hX hr18 dX5_pay_35 (Nat.le_of_ble_eq_true rfl) (ct_X3_payCase (d := d + 4) (lst hX) h) (fun r19 w20 z21 h => ?_)
    exact vw_iret hX hE dX5_pay_38 ⟨_, rfl, h⟩
  · have h := h.2 c12
    exact t_X5_117_187 hX hE dX5_pay_16 dX5_pay_19 dX5_pay_20 dX5_pay_22 dX5_pay_25 (Nat.le_of_ble_eq_true rfl) h.1 h.2.1 h.2.2
def F_X5_undo (a0 : Nat) (w : Mm) (z : Nat) (mc ms : Nat) (Q : Int32 → Mm → Nat → Prop) (X : String → Mm → Nat → Prop) : Prop :=
  ∃ v1, fld w a0 9 3 = some (.int (v1)) ∧ (1 ≤ v1 → ∃ v3, fld w a0 9 3 = some (.int (v3)) ∧ ∃ f4, obj w a0 9 = some f4 ∧ 3 < f4.length ∧ ∀ w5, w5 = mset w a0 (.inl (9, f4.set 3 (.int ((v3 - 1))))) → ∃ q6, fld w5 a0 9 0 = some (.ref (q6)) ∧ ∃ q7, fld w5 a0 9 2 = some (.ref (q7)) ∧ ∃ v8, fld w5 a0 9 3 = some (.int (v8)) ∧ ∃ n10 f9 q11, arR w5 q7 4 = some (n10, f9) ∧ vp_in v8 n10 ∧ f9 (v8 : Int32).toNatClampNeg = some q11 ∧ isO w5 q6 7 ∧ F_X3_copyFrom q6 q11 w5 z (fun w14 z15 => ∃ v16, fld w14 a0 9 3 = some (.int (v16)) ∧ Q v16 w14 z15)) ∧
  (¬ 1 ≤ v1 → 1 ≤ mc ∧ 6 ≤ ms ∧ ∀ z1, z ≤ z1 → X "java/lang/IllegalStateException" w z1)
set_option maxRecDepth 100000 in
set_option maxHeartbeats 4000000 in
theorem ct_X5_undo {l : Launch} {g : Gp} {d : Nat} (hst : l.stackTraces = false) {a0 : Nat} {w : Mm} {z mc ms : Nat} {Q : Int32 → Mm → Nat → Prop} {X : String → Mm → Nat → Prop} (h : F_X5_undo a0 w z mc ms Q X) : Ct l g yX5_undo (.code yX5_undo cX5_undo 1 (some .int)) (d + 6) mc ms [.ref (a0)] w z (rI Q) X := by
  refine Ct.of hst (by decide) (Nat.le_of_ble_eq_true rfl) (fun C hX hE hg hl hNm => ?_)
  subst hg
  subst hl
  unfold F_X5_undo at h
  show VW C 0 [(0, .ref (a0))] [] w z mc ms
  refine vw_aload_n hX 0 dX5_undo_0 rfl ?_
  obtain ⟨v1, hv1, h⟩ := h
  refine g_X5_192 hX hv1 dX5_undo_1 ?_
  refine vw_iconst hX (v := 1) dX5_undo_4 (by decide) ?_
  refine vw_icmp_ge hX (tgt := 18) dX5_undo_5 (by decide) (fun c2 => ?_) (fun c2 => ?_)
  · have h := h.1 c2
    refine vw_aload_n hX 0 dX5_undo_18 rfl ?_
    refine vw_dup hX dX5_undo_19 rfl ?_
    obtain ⟨v3, hv3, h⟩ := h
    refine g_X5_192 hX hv3 dX5_undo_20 ?_
    refine vw_iconst hX (v := 1) dX5_undo_23 (by decide) ?_
    refine vw_isub hX dX5_undo_24 ?_
    obtain ⟨f4, hf4, hlf4, h⟩ := h
    refine p_X5_192 hX hf4 hlf4 dX5_undo_25 ?_
    refine vw_nmW (fun w5 ew5 => ?_)
    have h := h w5 ew5
    refine vw_aload_n hX 0 dX5_undo_28 rfl ?_
    obtain ⟨q6, hq6, h⟩ := h
    refine g_X5_10 hX hq6 dX5_undo_29 ?_
    refine vw_aload_n hX 0 dX5_undo_32 rfl ?_
    obtain ⟨q7, hq7, h⟩ := h
    refine g_X5_19 hX hq7 dX5_undo_33 ?_
    refine vw_aload_n hX 0 dX5_undo_36 rfl ?_
    obtain ⟨v8, hv8, h⟩ := h
    refine g_X5_192 hX hv8 dX5_undo_37 ?_
    obtain ⟨n10, f9, q11, hf9, hif9, hqf9, h⟩ := h
    refine vw_aald hX 4 (by decide) rfl hf9 hif9 hqf9 dX5_undo_40 ?_
    obtain ⟨hr12, h⟩ := h
    refine s_X5_97 hX hr12 dX5_undo_41 (Nat.le_of_ble_eq_true rfl) (ct_X3_copyFrom (d := d + 3) (lst hX) h) (fun w14 z15 h => ?_)
    refine vw_aload_n hX 0 dX5_undo_44 rfl ?_
    obtain ⟨v16, hv16, h⟩ := h
    refine g_X5_192 hX hv16 dX5_undo_45 ?_
    exact vw_iret hX hE dX5_undo_48 ⟨_, rfl, h⟩
  · have h := h.2 c2
    exact t_X5_117_195 hX hE dX5_undo_8 dX5_undo_11 dX5_undo_12 dX5_undo_14 dX5_undo_17 (Nat.le_of_ble_eq_true rfl) h.1 h.2.1 h.2.2
def F_X5_clock (a0 : Nat) (w : Mm) (z : Nat) (Q : Int32 → Mm → Nat → Prop) : Prop :=
  ∃ q1, fld w a0 9 0 = some (.ref (q1)) ∧ ∃ v2, fld w q1 7 0 = some (.int (v2)) ∧ Q v2 w z
set_option maxRecDepth 100000 in
set_option maxHeartbeats 4000000 in
theorem ct_X5_clock {l : Launch} {g : Gp} {d : Nat} (hst : l.stackTraces = false) {a0 : Nat} {w : Mm} {z mc ms : Nat} {Q : Int32 → Mm → Nat → Prop} {X : String → Mm → Nat → Prop} (h : F_X5_clock a0 w z Q) : Ct l g yX5_clock (.code yX5_clock cX5_clock 1 (some .int)) (d + 0) mc ms [.ref (a0)] w z (rI Q) X := by
  refine Ct.of hst (by decide) (Nat.le_of_ble_eq_true rfl) (fun C hX hE hg hl hNm => ?_)
  subst hg
  subst hl
  unfold F_X5_clock at h
  show VW C 0 [(0, .ref (a0))] [] w z mc ms
  refine vw_aload_n hX 0 dX5_clock_0 rfl ?_
  obtain ⟨q1, hq1, h⟩ := h
  refine g_X5_10 hX hq1 dX5_clock_1 ?_
  obtain ⟨v2, hv2, h⟩ := h
  refine g_X5_159 hX hv2 dX5_clock_4 ?_
  exact vw_iret hX hE dX5_clock_7 ⟨_, rfl, h⟩
def F_X5_stopCount (a0 : Nat) (w : Mm) (z : Nat) (Q : Int32 → Mm → Nat → Prop) : Prop :=
  ∃ q1, fld w a0 9 0 = some (.ref (q1)) ∧ ∃ v2, fld w q1 7 4 = some (.int (v2)) ∧ Q v2 w z
set_option maxRecDepth 100000 in
set_option maxHeartbeats 4000000 in
theorem ct_X5_stopCount {l : Launch} {g : Gp} {d : Nat} (hst : l.stackTraces = false) {a0 : Nat} {w : Mm} {z mc ms : Nat} {Q : Int32 → Mm → Nat → Prop} {X : String → Mm → Nat → Prop} (h : F_X5_stopCount a0 w z Q) : Ct l g yX5_stopCount (.code yX5_stopCount cX5_stopCount 1 (some .int)) (d + 0) mc ms [.ref (a0)] w z (rI Q) X := by
  refine Ct.of hst (by decide) (Nat.le_of_ble_eq_true rfl) (fun C hX hE hg hl hNm => ?_)
  subst hg
  subst hl
  unfold F_X5_stopCount at h
  show VW C 0 [(0, .ref (a0))] [] w z mc ms
  refine vw_aload_n hX 0 dX5_stopCount_0 rfl ?_
  obtain ⟨q1, hq1, h⟩ := h
  refine g_X5_10 hX hq1 dX5_stopCount_1 ?_
  obtain ⟨v2, hv2, h⟩ := h
  refine g_X5_205 hX hv2 dX5_stopCount_4 ?_
  exact vw_iret hX hE dX5_stopCount_7 ⟨_, rfl, h⟩
def F_X5_passengerCount (a0 : Nat) (w : Mm) (z : Nat) (Q : Int32 → Mm → Nat → Prop) : Prop :=
  ∃ q1, fld w a0 9 0 = some (.ref (q1)) ∧ ∃ v2, fld w q1 7 5 = some (.int (v2)) ∧ Q v2 w z
set_option maxRecDepth 100000 in
set_option maxHeartbeats 4000000 in
theorem ct_X5_passengerCount {l : Launch} {g : Gp} {d : Nat} (hst : l.stackTraces = false) {a0 : Nat} {w : Mm} {z mc ms : Nat} {Q : Int32 → Mm → Nat → Prop} {X : String → Mm → Nat → Prop} (h : F_X5_passengerCount a0 w z Q) : Ct l g yX5_passengerCount (.code yX5_passengerCount cX5_passengerCount 1 (some .int)) (d + 0) mc ms [.ref (a0)] w z (rI Q) X := by
  refine Ct.of hst (by decide) (Nat.le_of_ble_eq_true rfl) (fun C hX hE hg hl hNm => ?_)
  subst hg
  subst hl
  unfold F_X5_passengerCount at h
  show VW C 0 [(0, .ref (a0))] [] w z mc ms
  refine vw_aload_n hX 0 dX5_passengerCount_0 rfl ?_
  obtain ⟨q1, hq1, h⟩ := h
  refine g_X5_10 hX hq1 dX5_passengerCount_1 ?_
  obtain ⟨v2, hv2, h⟩ := h
  refine g_X5_90 hX hv2 dX5_passengerCount_4 ?_
  exact vw_iret hX hE dX5_passengerCount_7 ⟨_, rfl, h⟩
def F_X5_ticketCount (a0 : Nat) (w : Mm) (z : Nat) (Q : Int32 → Mm → Nat → Prop) : Prop :=
  ∃ q1, fld w a0 9 0 = some (.ref (q1)) ∧ ∃ v2, fld w q1 7 6 = some (.int (v2)) ∧ Q v2 w z
set_option maxRecDepth 100000 in
set_option maxHeartbeats 4000000 in
theorem ct_X5_ticketCount {l : Launch} {g : Gp} {d : Nat} (hst : l.stackTraces = false) {a0 : Nat} {w : Mm} {z mc ms : Nat} {Q : Int32 → Mm → Nat → Prop} {X : String → Mm → Nat → Prop} (h : F_X5_ticketCount a0 w z Q) : Ct l g yX5_ticketCount (.code yX5_ticketCount cX5_ticketCount 1 (some .int)) (d + 0) mc ms [.ref (a0)] w z (rI Q) X := by
  refine Ct.of hst (by decide) (Nat.le_of_ble_eq_true rfl) (fun C hX hE hg hl hNm => ?_)
  subst hg
  subst hl
  unfold F_X5_ticketCount at h
  show VW C 0 [(0, .ref (a0))] [] w z mc ms
  refine vw_aload_n hX 0 dX5_ticketCount_0 rfl ?_
  obtain ⟨q1, hq1, h⟩ := h
  refine g_X5_10 hX hq1 dX5_ticketCount_1 ?_
  obtain ⟨v2, hv2, h⟩ := h
  refine g_X5_208 hX hv2 dX5_ticketCount_4 ?_
  exact vw_iret hX hE dX5_ticketCount_7 ⟨_, rfl, h⟩
def F_X5_caseCount (a0 : Nat) (w : Mm) (z : Nat) (Q : Int32 → Mm → Nat → Prop) : Prop :=
  ∃ q1, fld w a0 9 0 = some (.ref (q1)) ∧ ∃ v2, fld w q1 7 7 = some (.int (v2)) ∧ Q v2 w z
set_option maxRecDepth 100000 in
set_option maxHeartbeats 4000000 in
theorem ct_X5_caseCount {l : Launch} {g : Gp} {d : Nat} (hst : l.stackTraces = false) {a0 : Nat} {w : Mm} {z mc ms : Nat} {Q : Int32 → Mm → Nat → Prop} {X : String → Mm → Nat → Prop} (h : F_X5_caseCount a0 w z Q) : Ct l g yX5_caseCount (.code yX5_caseCount cX5_caseCount 1 (some .int)) (d + 0) mc ms [.ref (a0)] w z (rI Q) X := by
  refine Ct.of hst (by decide) (Nat.le_of_ble_eq_true rfl) (fun C hX hE hg hl hNm => ?_)
  subst hg
  subst hl
  unfold F_X5_caseCount at h
  show VW C 0 [(0, .ref (a0))] [] w z mc ms
  refine vw_aload_n hX 0 dX5_caseCount_0 rfl ?_
  obtain ⟨q1, hq1, h⟩ := h
  refine g_X5_10 hX hq1 dX5_caseCount_1 ?_
  obtain ⟨v2, hv2, h⟩ := h
  refine g_X5_211 hX hv2 dX5_caseCount_4 ?_
  exact vw_iret hX hE dX5_caseCount_7 ⟨_, rfl, h⟩
def F_X5_undoableChanges (a0 : Nat) (w : Mm) (z : Nat) (Q : Int32 → Mm → Nat → Prop) : Prop :=
  ∃ v1, fld w a0 9 3 = some (.int (v1)) ∧ Q v1 w z
set_option maxRecDepth 100000 in
set_option maxHeartbeats 4000000 in
theorem ct_X5_undoableChanges {l : Launch} {g : Gp} {d : Nat} (hst : l.stackTraces = false) {a0 : Nat} {w : Mm} {z mc ms : Nat} {Q : Int32 → Mm → Nat → Prop} {X : String → Mm → Nat → Prop} (h : F_X5_undoableChanges a0 w z Q) : Ct l g yX5_undoableChanges (.code yX5_undoableChanges cX5_undoableChanges 1 (some .int)) (d + 0) mc ms [.ref (a0)] w z (rI Q) X := by
  refine Ct.of hst (by decide) (Nat.le_of_ble_eq_true rfl) (fun C hX hE hg hl hNm => ?_)
  subst hg
  subst hl
  unfold F_X5_undoableChanges at h
  show VW C 0 [(0, .ref (a0))] [] w z mc ms
  refine vw_aload_n hX 0 dX5_undoableChanges_0 rfl ?_
  obtain ⟨v1, hv1, h⟩ := h
  refine g_X5_192 hX hv1 dX5_undoableChanges_1 ?_
  exact vw_iret hX hE dX5_undoableChanges_4 ⟨_, rfl, h⟩
def F_X5_zonesBetween (a0 : Nat) (a1 : Int32) (a2 : Int32) (w : Mm) (z : Nat) (mc ms : Nat) (Q : Int32 → Mm → Nat → Prop) (X : String → Mm → Nat → Prop) : Prop :=
  isO w a0 9 ∧ ∃ k5 k6, k5 ≤ mc ∧ k6 ≤ ms ∧ F_X5_requireStop a0 a1 w z k5 k6 (fun w3 z4 => isO w3 a0 9 ∧ ∃ k11 k12, k11 ≤ (mc - k5) ∧ k12 ≤ (ms - k6) ∧ F_X5_requireStop a0 a2 w3 z4 k11 k12 (fun w9 z10 => ∃ q13, fld w9 a0 9 0 = some (.ref (q13)) ∧ isO w9 q13 7 ∧ F_X3_rideZones q13 a1 a2 w9 z10 (fun r15 w16 z17 => Q r15 w16 z17)) X) X
set_option maxRecDepth 100000 in
set_option maxHeartbeats 4000000 in
theorem ct_X5_zonesBetween {l : Launch} {g : Gp} {d : Nat} (hst : l.stackTraces = false) {a0 : Nat} {a1 : Int32} {a2 : Int32} {w : Mm} {z mc ms : Nat} {Q : Int32 → Mm → Nat → Prop} {X : String → Mm → Nat → Prop} (h : F_X5_zonesBetween a0 a1 a2 w z mc ms Q X) : Ct l g yX5_zonesBetween (.code yX5_zonesBetween cX5_zonesBetween 3 (some .int)) (d + 7) mc ms [.ref (a0), .int (a1), .int (a2)] w z (rI Q) X := by
  refine Ct.of hst (by decide) (Nat.le_of_ble_eq_true rfl) (fun C hX hE hg hl hNm => ?_)
  subst hg
  subst hl
  unfold F_X5_zonesBetween at h
  show VW C 0 [(0, .ref (a0)), (1, .int (a1)), (2, .int (a2))] [] w z mc ms
  refine vw_aload_n hX 0 dX5_zonesBetween_0 rfl ?_
  refine vw_iload_n hX 1 dX5_zonesBetween_1 rfl ?_
  obtain ⟨hr1, h⟩ := h
  obtain ⟨k5, k6, hm1, hm2, h⟩ := h
  refine s_X5_129 hX hr1 dX5_zonesBetween_2 (Nat.le_of_ble_eq_true rfl) hm1 hm2 (ct_X5_requireStop (d := d + 0) (lst hX) h) (fun w3 z4 h => ?_) (fun E w1 z1 hx => vx_outE hX hE hx)
  refine vw_aload_n hX 0 dX5_zonesBetween_5 rfl ?_
  refine vw_iload_n hX 2 dX5_zonesBetween_6 rfl ?_
  obtain ⟨hr7, h⟩ := h
  obtain ⟨k11, k12, hm1, hm2, h⟩ := h
  refine s_X5_129 hX hr7 dX5_zonesBetween_7 (Nat.le_of_ble_eq_true rfl) hm1 hm2 (ct_X5_requireStop (d := d + 0) (lst hX) h) (fun w9 z10 h => ?_) (fun E w1 z1 hx => vx_outE hX hE hx)
  refine vw_aload_n hX 0 dX5_zonesBetween_10 rfl ?_
  obtain ⟨q13, hq13, h⟩ := h
  refine g_X5_10 hX hq13 dX5_zonesBetween_11 ?_
  refine vw_iload_n hX 1 dX5_zonesBetween_14 rfl ?_
  refine vw_iload_n hX 2 dX5_zonesBetween_15 rfl ?_
  obtain ⟨hr14, h⟩ := h
  refine s_X5_218 hX hr14 dX5_zonesBetween_16 (Nat.le_of_ble_eq_true rfl) (ct_X3_rideZones (d := d + 5) (lst hX) h) (fun r15 w16 z17 h => ?_)
  exact vw_iret hX hE dX5_zonesBetween_19 ⟨_, rfl, h⟩
def F_X5_money (a0 : Nat) (a1 : Int32) (w : Mm) (z : Nat) (mc ms : Nat) (Q : Int32 → Mm → Nat → Prop) (X : String → Mm → Nat → Prop) : Prop :=
  isO w a0 9 ∧ ∃ k5 k6, k5 ≤ mc ∧ k6 ≤ ms ∧ F_X5_requirePassenger a0 a1 w z k5 k6 (fun w3 z4 => ∃ q7, fld w3 a0 9 0 = some (.ref (q7)) ∧ ∃ q8, fld w3 q7 7 9 = some (.ref (q8)) ∧ ∃ n10 f9 q11, arR w3 q8 5 = some (n10, f9) ∧ vp_in a1 n10 ∧ f9 (a1 : Int32).toNatClampNeg = some q11 ∧ ∃ v12, fld w3 q11 6 1 = some (.int (v12)) ∧ Q v12 w3 z4) X
set_option maxRecDepth 100000 in
set_option maxHeartbeats 4000000 in
theorem ct_X5_money {l : Launch} {g : Gp} {d : Nat} (hst : l.stackTraces = false) {a0 : Nat} {a1 : Int32} {w : Mm} {z mc ms : Nat} {Q : Int32 → Mm → Nat → Prop} {X : String → Mm → Nat → Prop} (h : F_X5_money a0 a1 w z mc ms Q X) : Ct l g yX5_money (.code yX5_money cX5_money 2 (some .int)) (d + 7) mc ms [.ref (a0), .int (a1)] w z (rI Q) X := by
  refine Ct.of hst (by decide) (Nat.le_of_ble_eq_true rfl) (fun C hX hE hg hl hNm => ?_)
  subst hg
  subst hl
  unfold F_X5_money at h
  show VW C 0 [(0, .ref (a0)), (1, .int (a1))] [] w z mc ms
  refine vw_aload_n hX 0 dX5_money_0 rfl ?_
  refine vw_iload_n hX 1 dX5_money_1 rfl ?_
  obtain ⟨hr1, h⟩ := h
  obtain ⟨k5, k6, hm1, hm2, h⟩ := h
  refine s_X5_106 hX hr1 dX5_money_2 (Nat.le_of_ble_eq_true rfl) hm1 hm2 (ct_X5_requirePassenger (d := d + 0) (lst hX) h) (fun w3 z4 h => ?_) (fun E w1 z1 hx => vx_outE hX hE hx)
  refine vw_aload_n hX 0 dX5_money_5 rfl ?_
  obtain ⟨q7, hq7, h⟩ := h
  refine g_X5_10 hX hq7 dX5_money_6 ?_
  obtain ⟨q8, hq8, h⟩ := h
  refine g_X5_221 hX hq8 dX5_money_9 ?_
  refine vw_iload_n hX 1 dX5_money_12 rfl ?_
  obtain ⟨n10, f9, q11, hf9, hif9, hqf9, h⟩ := h
  refine vw_aald hX 5 (by decide) rfl hf9 hif9 hqf9 dX5_money_13 ?_
  obtain ⟨v12, hv12, h⟩ := h
  refine g_X5_225 hX hv12 dX5_money_14 ?_
  exact vw_iret hX hE dX5_money_17 ⟨_, rfl, h⟩
def F_X5_isRiding (a0 : Nat) (a1 : Int32) (w : Mm) (z : Nat) (mc ms : Nat) (Q : Int32 → Mm → Nat → Prop) (X : String → Mm → Nat → Prop) : Prop :=
  isO w a0 9 ∧ ∃ k5 k6, k5 ≤ mc ∧ k6 ≤ ms ∧ F_X5_requirePassenger a0 a1 w z k5 k6 (fun w3 z4 => ∃ q7, fld w3 a0 9 0 = some (.ref (q7)) ∧ ∃ q8, fld w3 q7 7 9 = some (.ref (q8)) ∧ ∃ n10 f9 q11, arR w3 q8 5 = some (n10, f9) ∧ vp_in a1 n10 ∧ f9 (a1 : Int32).toNatClampNeg = some q11 ∧ ∃ q12, fld w3 a0 9 0 = some (.ref (q12)) ∧ ∃ v13, fld w3 q12 7 0 = some (.int (v13)) ∧ isO w3 q11 6 ∧ F_X2_isOnTram q11 v13 w3 z4 (fun r15 w16 z17 => narrow .boolean (.int r15) = .int r15 ∧ Q r15 w16 z17)) X
set_option maxRecDepth 100000 in
set_option maxHeartbeats 4000000 in
theorem ct_X5_isRiding {l : Launch} {g : Gp} {d : Nat} (hst : l.stackTraces = false) {a0 : Nat} {a1 : Int32} {w : Mm} {z mc ms : Nat} {Q : Int32 → Mm → Nat → Prop} {X : String → Mm → Nat → Prop} (h : F_X5_isRiding a0 a1 w z mc ms Q X) : Ct l g yX5_isRiding (.code yX5_isRiding cX5_isRiding 2 (some .boolean)) (d + 7) mc ms [.ref (a0), .int (a1)] w z (rI Q) X := by
  refine Ct.of hst (by decide) (Nat.le_of_ble_eq_true rfl) (fun C hX hE hg hl hNm => ?_)
  subst hg
  subst hl
  unfold F_X5_isRiding at h
  show VW C 0 [(0, .ref (a0)), (1, .int (a1))] [] w z mc ms
  refine vw_aload_n hX 0 dX5_isRiding_0 rfl ?_
  refine vw_iload_n hX 1 dX5_isRiding_1 rfl ?_
  obtain ⟨hr1, h⟩ := h
  obtain ⟨k5, k6, hm1, hm2, h⟩ := h
  refine s_X5_106 hX hr1 dX5_isRiding_2 (Nat.le_of_ble_eq_true rfl) hm1 hm2 (ct_X5_requirePassenger (d := d + 0) (lst hX) h) (fun w3 z4 h => ?_) (fun E w1 z1 hx => vx_outE hX hE hx)
  refine vw_aload_n hX 0 dX5_isRiding_5 rfl ?_
  obtain ⟨q7, hq7, h⟩ := h
  refine g_X5_10 hX hq7 dX5_isRiding_6 ?_
  obtain ⟨q8, hq8, h⟩ := h
  refine g_X5_221 hX hq8 dX5_isRiding_9 ?_
  refine vw_iload_n hX 1 dX5_isRiding_12 rfl ?_
  obtain ⟨n10, f9, q11, hf9, hif9, hqf9, h⟩ := h
  refine vw_aald hX 5 (by decide) rfl hf9 hif9 hqf9 dX5_isRiding_13 ?_
  refine vw_aload_n hX 0 dX5_isRiding_14 rfl ?_
  obtain ⟨q12, hq12, h⟩ := h
  refine g_X5_10 hX hq12 dX5_isRiding_15 ?_
  obtain ⟨v13, hv13, h⟩ := h
  refine g_X5_159 hX hv13 dX5_isRiding_18 ?_
  obtain ⟨hr14, h⟩ := h
  refine s_X5_230 hX hr14 dX5_isRiding_21 (Nat.le_of_ble_eq_true rfl) (ct_X2_isOnTram (d := d + 6) (lst hX) h) (fun r15 w16 z17 h => ?_)
  exact vw_zret hX hE dX5_isRiding_24 h.1 ⟨_, rfl, h.2⟩
def F_X5_rideEnd (a0 : Nat) (a1 : Int32) (w : Mm) (z : Nat) (mc ms : Nat) (Q : Int32 → Mm → Nat → Prop) (X : String → Mm → Nat → Prop) : Prop :=
  isO w a0 9 ∧ ∃ k5 k6, k5 ≤ mc ∧ k6 ≤ ms ∧ F_X5_requirePassenger a0 a1 w z k5 k6 (fun w3 z4 => ∃ q7, fld w3 a0 9 0 = some (.ref (q7)) ∧ ∃ q8, fld w3 q7 7 9 = some (.ref (q8)) ∧ ∃ n10 f9 q11, arR w3 q8 5 = some (n10, f9) ∧ vp_in a1 n10 ∧ f9 (a1 : Int32).toNatClampNeg = some q11 ∧ ∃ v12, fld w3 q11 6 4 = some (.int (v12)) ∧ Q v12 w3 z4) X
set_option maxRecDepth 100000 in
set_option maxHeartbeats 4000000 in
theorem ct_X5_rideEnd {l : Launch} {g : Gp} {d : Nat} (hst : l.stackTraces = false) {a0 : Nat} {a1 : Int32} {w : Mm} {z mc ms : Nat} {Q : Int32 → Mm → Nat → Prop} {X : String → Mm → Nat → Prop} (h : F_X5_rideEnd a0 a1 w z mc ms Q X) : Ct l g yX5_rideEnd (.code yX5_rideEnd cX5_rideEnd 2 (some .int)) (d + 7) mc ms [.ref (a0), .int (a1)] w z (rI Q) X := by
  refine Ct.of hst (by decide) (Nat.le_of_ble_eq_true rfl) (fun C hX hE hg hl hNm => ?_)
  subst hg
  subst hl
  unfold F_X5_rideEnd at h
  show VW C 0 [(0, .ref (a0)), (1, .int (a1))] [] w z mc ms
  refine vw_aload_n hX 0 dX5_rideEnd_0 rfl ?_
  refine vw_iload_n hX 1 dX5_rideEnd_1 rfl ?_
  obtain ⟨hr1, h⟩ := h
  obtain ⟨k5, k6, hm1, hm2, h⟩ := h
  refine s_X5_106 hX hr1 dX5_rideEnd_2 (Nat.le_of_ble_eq_true rfl) hm1 hm2 (ct_X5_requirePassenger (d := d + 0) (lst hX) h) (fun w3 z4 h => ?_) (fun E w1 z1 hx => vx_outE hX hE hx)
  refine vw_aload_n hX 0 dX5_rideEnd_5 rfl ?_
  obtain ⟨q7, hq7, h⟩ := h
  refine g_X5_10 hX hq7 dX5_rideEnd_6 ?_
  obtain ⟨q8, hq8, h⟩ := h
  refine g_X5_221 hX hq8 dX5_rideEnd_9 ?_
  refine vw_iload_n hX 1 dX5_rideEnd_12 rfl ?_
  obtain ⟨n10, f9, q11, hf9, hif9, hqf9, h⟩ := h
  refine vw_aald hX 5 (by decide) rfl hf9 hif9 hqf9 dX5_rideEnd_13 ?_
  obtain ⟨v12, hv12, h⟩ := h
  refine g_X5_233 hX hv12 dX5_rideEnd_14 ?_
  exact vw_iret hX hE dX5_rideEnd_17 ⟨_, rfl, h⟩
def F_X5_rideTicket (a0 : Nat) (a1 : Int32) (w : Mm) (z : Nat) (mc ms : Nat) (Q : Int32 → Mm → Nat → Prop) (X : String → Mm → Nat → Prop) : Prop :=
  isO w a0 9 ∧ ∃ k5 k6, k5 ≤ mc ∧ k6 ≤ ms ∧ F_X5_requirePassenger a0 a1 w z k5 k6 (fun w3 z4 => ∃ q7, fld w3 a0 9 0 = some (.ref (q7)) ∧ ∃ q8, fld w3 q7 7 9 = some (.ref (q8)) ∧ ∃ n10 f9 q11, arR w3 q8 5 = some (n10, f9) ∧ vp_in a1 n10 ∧ f9 (a1 : Int32).toNatClampNeg = some q11 ∧ ∃ v12, fld w3 q11 6 5 = some (.int (v12)) ∧ Q v12 w3 z4) X
set_option maxRecDepth 100000 in
set_option maxHeartbeats 4000000 in
theorem ct_X5_rideTicket {l : Launch} {g : Gp} {d : Nat} (hst : l.stackTraces = false) {a0 : Nat} {a1 : Int32} {w : Mm} {z mc ms : Nat} {Q : Int32 → Mm → Nat → Prop} {X : String → Mm → Nat → Prop} (h : F_X5_rideTicket a0 a1 w z mc ms Q X) : Ct l g yX5_rideTicket (.code yX5_rideTicket cX5_rideTicket 2 (some .int)) (d + 7) mc ms [.ref (a0), .int (a1)] w z (rI Q) X := by
  refine Ct.of hst (by decide) (Nat.le_of_ble_eq_true rfl) (fun C hX hE hg hl hNm => ?_)
  subst hg
  subst hl
  unfold F_X5_rideTicket at h
  show VW C 0 [(0, .ref (a0)), (1, .int (a1))] [] w z mc ms
  refine vw_aload_n hX 0 dX5_rideTicket_0 rfl ?_
  refine vw_iload_n hX 1 dX5_rideTicket_1 rfl ?_
  obtain ⟨hr1, h⟩ := h
  obtain ⟨k5, k6, hm1, hm2, h⟩ := h
  refine s_X5_106 hX hr1 dX5_rideTicket_2 (Nat.le_of_ble_eq_true rfl) hm1 hm2 (ct_X5_requirePassenger (d := d + 0) (lst hX) h) (fun w3 z4 h => ?_) (fun E w1 z1 hx => vx_outE hX hE hx)
  refine vw_aload_n hX 0 dX5_rideTicket_5 rfl ?_
  obtain ⟨q7, hq7, h⟩ := h
  refine g_X5_10 hX hq7 dX5_rideTicket_6 ?_
  obtain ⟨q8, hq8, h⟩ := h
  refine g_X5_221 hX hq8 dX5_rideTicket_9 ?_
  refine vw_iload_n hX 1 dX5_rideTicket_12 rfl ?_
  obtain ⟨n10, f9, q11, hf9, hif9, hqf9, h⟩ := h
  refine vw_aald hX 5 (by decide) rfl hf9 hif9 hqf9 dX5_rideTicket_13 ?_
  obtain ⟨v12, hv12, h⟩ := h
  refine g_X5_236 hX hv12 dX5_rideTicket_14 ?_
  exact vw_iret hX hE dX5_rideTicket_17 ⟨_, rfl, h⟩
def F_X5_faultNow (a0 : Nat) (a1 : Int32) (w : Mm) (z : Nat) (mc ms : Nat) (Q : Int32 → Mm → Nat → Prop) (X : String → Mm → Nat → Prop) : Prop :=
  isO w a0 9 ∧ ∃ k5 k6, k5 ≤ mc ∧ k6 ≤ ms ∧ F_X5_requirePassenger a0 a1 w z k5 k6 (fun w3 z4 => ∃ q7, fld w3 a0 9 0 = some (.ref (q7)) ∧ isO w3 q7 7 ∧ F_X3_findFault q7 a1 w3 z4 (fun r9 w10 z11 => Q r9 w10 z11)) X
set_option maxRecDepth 100000 in
set_option maxHeartbeats 4000000 in
theorem ct_X5_faultNow {l : Launch} {g : Gp} {d : Nat} (hst : l.stackTraces = false) {a0 : Nat} {a1 : Int32} {w : Mm} {z mc ms : Nat} {Q : Int32 → Mm → Nat → Prop} {X : String → Mm → Nat → Prop} (h : F_X5_faultNow a0 a1 w z mc ms Q X) : Ct l g yX5_faultNow (.code yX5_faultNow cX5_faultNow 2 (some .int)) (d + 7) mc ms [.ref (a0), .int (a1)] w z (rI Q) X := by
  refine Ct.of hst (by decide) (Nat.le_of_ble_eq_true rfl) (fun C hX hE hg hl hNm => ?_)
  subst hg
  subst hl
  unfold F_X5_faultNow at h
  show VW C 0 [(0, .ref (a0)), (1, .int (a1))] [] w z mc ms
  refine vw_aload_n hX 0 dX5_faultNow_0 rfl ?_
  refine vw_iload_n hX 1 dX5_faultNow_1 rfl ?_
  obtain ⟨hr1, h⟩ := h
  obtain ⟨k5, k6, hm1, hm2, h⟩ := h
  refine s_X5_106 hX hr1 dX5_faultNow_2 (Nat.le_of_ble_eq_true rfl) hm1 hm2 (ct_X5_requirePassenger (d := d + 0) (lst hX) h) (fun w3 z4 h => ?_) (fun E w1 z1 hx => vx_outE hX hE hx)
  refine vw_aload_n hX 0 dX5_faultNow_5 rfl ?_
  obtain ⟨q7, hq7, h⟩ := h
  refine g_X5_10 hX hq7 dX5_faultNow_6 ?_
  refine vw_iload_n hX 1 dX5_faultNow_9 rfl ?_
  obtain ⟨hr8, h⟩ := h
  refine s_X5_239 hX hr8 dX5_faultNow_10 (Nat.le_of_ble_eq_true rfl) (ct_X3_findFault (d := d + 4) (lst hX) h) (fun r9 w10 z11 h => ?_)
  exact vw_iret hX hE dX5_faultNow_13 ⟨_, rfl, h⟩
def F_X5_debt (a0 : Nat) (a1 : Int32) (w : Mm) (z : Nat) (mc ms : Nat) (Q : Int32 → Mm → Nat → Prop) (X : String → Mm → Nat → Prop) : Prop :=
  isO w a0 9 ∧ ∃ k5 k6, k5 ≤ mc ∧ k6 ≤ ms ∧ F_X5_requirePassenger a0 a1 w z k5 k6 (fun w3 z4 => ∃ q7, fld w3 a0 9 0 = some (.ref (q7)) ∧ isO w3 q7 7 ∧ F_X3_sumOfDebts q7 a1 w3 z4 (fun r9 w10 z11 => Q r9 w10 z11)) X
set_option maxRecDepth 100000 in
set_option maxHeartbeats 4000000 in
theorem ct_X5_debt {l : Launch} {g : Gp} {d : Nat} (hst : l.stackTraces = false) {a0 : Nat} {a1 : Int32} {w : Mm} {z mc ms : Nat} {Q : Int32 → Mm → Nat → Prop} {X : String → Mm → Nat → Prop} (h : F_X5_debt a0 a1 w z mc ms Q X) : Ct l g yX5_debt (.code yX5_debt cX5_debt 2 (some .int)) (d + 7) mc ms [.ref (a0), .int (a1)] w z (rI Q) X := by
  refine Ct.of hst (by decide) (Nat.le_of_ble_eq_true rfl) (fun C hX hE hg hl hNm => ?_)
  subst hg
  subst hl
  unfold F_X5_debt at h
  show VW C 0 [(0, .ref (a0)), (1, .int (a1))] [] w z mc ms
  refine vw_aload_n hX 0 dX5_debt_0 rfl ?_
  refine vw_iload_n hX 1 dX5_debt_1 rfl ?_
  obtain ⟨hr1, h⟩ := h
  obtain ⟨k5, k6, hm1, hm2, h⟩ := h
  refine s_X5_106 hX hr1 dX5_debt_2 (Nat.le_of_ble_eq_true rfl) hm1 hm2 (ct_X5_requirePassenger (d := d + 0) (lst hX) h) (fun w3 z4 h => ?_) (fun E w1 z1 hx => vx_outE hX hE hx)
  refine vw_aload_n hX 0 dX5_debt_5 rfl ?_
  obtain ⟨q7, hq7, h⟩ := h
  refine g_X5_10 hX hq7 dX5_debt_6 ?_
  refine vw_iload_n hX 1 dX5_debt_9 rfl ?_
  obtain ⟨hr8, h⟩ := h
  refine s_X5_242 hX hr8 dX5_debt_10 (Nat.le_of_ble_eq_true rfl) (ct_X3_sumOfDebts (d := d + 4) (lst hX) h) (fun r9 w10 z11 h => ?_)
  exact vw_iret hX hE dX5_debt_13 ⟨_, rfl, h⟩
def F_X5_unpaidCases (a0 : Nat) (a1 : Int32) (w : Mm) (z : Nat) (mc ms : Nat) (Q : Int32 → Mm → Nat → Prop) (X : String → Mm → Nat → Prop) : Prop :=
  isO w a0 9 ∧ ∃ k5 k6, k5 ≤ mc ∧ k6 ≤ ms ∧ F_X5_requirePassenger a0 a1 w z k5 k6 (fun w3 z4 => ∃ q7, fld w3 a0 9 0 = some (.ref (q7)) ∧ isO w3 q7 7 ∧ F_X3_countUnpaid q7 a1 w3 z4 (fun r9 w10 z11 => Q r9 w10 z11)) X
set_option maxRecDepth 100000 in
set_option maxHeartbeats 4000000 in
theorem ct_X5_unpaidCases {l : Launch} {g : Gp} {d : Nat} (hst : l.stackTraces = false) {a0 : Nat} {a1 : Int32} {w : Mm} {z mc ms : Nat} {Q : Int32 → Mm → Nat → Prop} {X : String → Mm → Nat → Prop} (h : F_X5_unpaidCases a0 a1 w z mc ms Q X) : Ct l g yX5_unpaidCases (.code yX5_unpaidCases cX5_unpaidCases 2 (some .int)) (d + 7) mc ms [.ref (a0), .int (a1)] w z (rI Q) X := by
  refine Ct.of hst (by decide) (Nat.le_of_ble_eq_true rfl) (fun C hX hE hg hl hNm => ?_)
  subst hg
  subst hl
  unfold F_X5_unpaidCases at h
  show VW C 0 [(0, .ref (a0)), (1, .int (a1))] [] w z mc ms
  refine vw_aload_n hX 0 dX5_unpaidCases_0 rfl ?_
  refine vw_iload_n hX 1 dX5_unpaidCases_1 rfl ?_
  obtain ⟨hr1, h⟩ := h
  obtain ⟨k5, k6, hm1, hm2, h⟩ := h
  refine s_X5_106 hX hr1 dX5_unpaidCases_2 (Nat.le_of_ble_eq_true rfl) hm1 hm2 (ct_X5_requirePassenger (d := d + 0) (lst hX) h) (fun w3 z4 h => ?_) (fun E w1 z1 hx => vx_outE hX hE hx)
  refine vw_aload_n hX 0 dX5_unpaidCases_5 rfl ?_
  obtain ⟨q7, hq7, h⟩ := h
  refine g_X5_10 hX hq7 dX5_unpaidCases_6 ?_
  refine vw_iload_n hX 1 dX5_unpaidCases_9 rfl ?_
  obtain ⟨hr8, h⟩ := h
  refine s_X5_245 hX hr8 dX5_unpaidCases_10 (Nat.le_of_ble_eq_true rfl) (ct_X3_countUnpaid (d := d + 6) (lst hX) h) (fun r9 w10 z11 h => ?_)
  exact vw_iret hX hE dX5_unpaidCases_13 ⟨_, rfl, h⟩
def F_X5_ticketHolder (a0 : Nat) (a1 : Int32) (w : Mm) (z : Nat) (mc ms : Nat) (Q : Int32 → Mm → Nat → Prop) (X : String → Mm → Nat → Prop) : Prop :=
  isO w a0 9 ∧ ∃ k5 k6, k5 ≤ mc ∧ k6 ≤ ms ∧ F_X5_requireTicket a0 a1 w z k5 k6 (fun w3 z4 => ∃ q7, fld w3 a0 9 0 = some (.ref (q7)) ∧ ∃ q8, fld w3 q7 7 10 = some (.ref (q8)) ∧ ∃ n10 f9 q11, arR w3 q8 6 = some (n10, f9) ∧ vp_in a1 n10 ∧ f9 (a1 : Int32).toNatClampNeg = some q11 ∧ ∃ v12, fld w3 q11 8 0 = some (.int (v12)) ∧ Q v12 w3 z4) X
set_option maxRecDepth 100000 in
set_option maxHeartbeats 4000000 in
theorem ct_X5_ticketHolder {l : Launch} {g : Gp} {d : Nat} (hst : l.stackTraces = false) {a0 : Nat} {a1 : Int32} {w : Mm} {z mc ms : Nat} {Q : Int32 → Mm → Nat → Prop} {X : String → Mm → Nat → Prop} (h : F_X5_ticketHolder a0 a1 w z mc ms Q X) : Ct l g yX5_ticketHolder (.code yX5_ticketHolder cX5_ticketHolder 2 (some .int)) (d + 7) mc ms [.ref (a0), .int (a1)] w z (rI Q) X := by
  refine Ct.of hst (by decide) (Nat.le_of_ble_eq_true rfl) (fun C hX hE hg hl hNm => ?_)
  subst hg
  subst hl
  unfold F_X5_ticketHolder at h
  show VW C 0 [(0, .ref (a0)), (1, .int (a1))] [] w z mc ms
  refine vw_aload_n hX 0 dX5_ticketHolder_0 rfl ?_
  refine vw_iload_n hX 1 dX5_ticketHolder_1 rfl ?_
  obtain ⟨hr1, h⟩ := h
  obtain ⟨k5, k6, hm1, hm2, h⟩ := h
  refine s_X5_132 hX hr1 dX5_ticketHolder_2 (Nat.le_of_ble_eq_true rfl) hm1 hm2 (ct_X5_requireTicket (d := d + 0) (lst hX) h) (fun w3 z4 h => ?_) (fun E w1 z1 hx => vx_outE hX hE hx)
  refine vw_aload_n hX 0 dX5_ticketHolder_5 rfl ?_
  obtain ⟨q7, hq7, h⟩ := h
  refine g_X5_10 hX hq7 dX5_ticketHolder_6 ?_
  obtain ⟨q8, hq8, h⟩ := h
  refine g_X5_268 hX hq8 dX5_ticketHolder_9 ?_
  refine vw_iload_n hX 1 dX5_ticketHolder_12 rfl ?_
  obtain ⟨n10, f9, q11, hf9, hif9, hqf9, h⟩ := h
  refine vw_aald hX 6 (by decide) rfl hf9 hif9 hqf9 dX5_ticketHolder_13 ?_
  obtain ⟨v12, hv12, h⟩ := h
  refine g_X5_272 hX hv12 dX5_ticketHolder_14 ?_
  exact vw_iret hX hE dX5_ticketHolder_17 ⟨_, rfl, h⟩
def F_X5_ticketKind (a0 : Nat) (a1 : Int32) (w : Mm) (z : Nat) (mc ms : Nat) (Q : Int32 → Mm → Nat → Prop) (X : String → Mm → Nat → Prop) : Prop :=
  isO w a0 9 ∧ ∃ k5 k6, k5 ≤ mc ∧ k6 ≤ ms ∧ F_X5_requireTicket a0 a1 w z k5 k6 (fun w3 z4 => ∃ q7, fld w3 a0 9 0 = some (.ref (q7)) ∧ ∃ q8, fld w3 q7 7 10 = some (.ref (q8)) ∧ ∃ n10 f9 q11, arR w3 q8 6 = some (n10, f9) ∧ vp_in a1 n10 ∧ f9 (a1 : Int32).toNatClampNeg = some q11 ∧ ∃ v12, fld w3 q11 8 1 = some (.int (v12)) ∧ Q v12 w3 z4) X
set_option maxRecDepth 100000 in
set_option maxHeartbeats 4000000 in
theorem ct_X5_ticketKind {l : Launch} {g : Gp} {d : Nat} (hst : l.stackTraces = false) {a0 : Nat} {a1 : Int32} {w : Mm} {z mc ms : Nat} {Q : Int32 → Mm → Nat → Prop} {X : String → Mm → Nat → Prop} (h : F_X5_ticketKind a0 a1 w z mc ms Q X) : Ct l g yX5_ticketKind (.code yX5_ticketKind cX5_ticketKind 2 (some .int)) (d + 7) mc ms [.ref (a0), .int (a1)] w z (rI Q) X := by
  refine Ct.of hst (by decide) (Nat.le_of_ble_eq_true rfl) (fun C hX hE hg hl hNm => ?_)
  subst hg
  subst hl
  unfold F_X5_ticketKind at h
  show VW C 0 [(0, .ref (a0)), (1, .int (a1))] [] w z mc ms
  refine vw_aload_n hX 0 dX5_ticketKind_0 rfl ?_
  refine vw_iload_n hX 1 dX5_ticketKind_1 rfl ?_
  obtain ⟨hr1, h⟩ := h
  obtain ⟨k5, k6, hm1, hm2, h⟩ := h
  refine s_X5_132 hX hr1 dX5_ticketKind_2 (Nat.le_of_ble_eq_true rfl) hm1 hm2 (ct_X5_requireTicket (d := d + 0) (lst hX) h) (fun w3 z4 h => ?_) (fun E w1 z1 hx => vx_outE hX hE hx)
  refine vw_aload_n hX 0 dX5_ticketKind_5 rfl ?_
  obtain ⟨q7, hq7, h⟩ := h
  refine g_X5_10 hX hq7 dX5_ticketKind_6 ?_
  obtain ⟨q8, hq8, h⟩ := h
  refine g_X5_268 hX hq8 dX5_ticketKind_9 ?_
  refine vw_iload_n hX 1 dX5_ticketKind_12 rfl ?_
  obtain ⟨n10, f9, q11, hf9, hif9, hqf9, h⟩ := h
  refine vw_aald hX 6 (by decide) rfl hf9 hif9 hqf9 dX5_ticketKind_13 ?_
  obtain ⟨v12, hv12, h⟩ := h
  refine g_X5_277 hX hv12 dX5_ticketKind_14 ?_
  exact vw_iret hX hE dX5_ticketKind_17 ⟨_, rfl, h⟩
def F_X5_ticketZones (a0 : Nat) (a1 : Int32) (w : Mm) (z : Nat) (mc ms : Nat) (Q : Int32 → Mm → Nat → Prop) (X : String → Mm → Nat → Prop) : Prop :=
  isO w a0 9 ∧ ∃ k5 k6, k5 ≤ mc ∧ k6 ≤ ms ∧ F_X5_requireTicket a0 a1 w z k5 k6 (fun w3 z4 => ∃ q7, fld w3 a0 9 0 = some (.ref (q7)) ∧ ∃ q8, fld w3 q7 7 10 = some (.ref (q8)) ∧ ∃ n10 f9 q11, arR w3 q8 6 = some (n10, f9) ∧ vp_in a1 n10 ∧ f9 (a1 : Int32).toNatClampNeg = some q11 ∧ ∃ v12, fld w3 q11 8 2 = some (.int (v12)) ∧ Q v12 w3 z4) X
set_option maxRecDepth 100000 in
set_option maxHeartbeats 4000000 in
theorem ct_X5_ticketZones {l : Launch} {g : Gp} {d : Nat} (hst : l.stackTraces = false) {a0 : Nat} {a1 : Int32} {w : Mm} {z mc ms : Nat} {Q : Int32 → Mm → Nat → Prop} {X : String → Mm → Nat → Prop} (h : F_X5_ticketZones a0 a1 w z mc ms Q X) : Ct l g yX5_ticketZones (.code yX5_ticketZones cX5_ticketZones 2 (some .int)) (d + 7) mc ms [.ref (a0), .int (a1)] w z (rI Q) X := by
  refine Ct.of hst (by decide) (Nat.le_of_ble_eq_true rfl) (fun C hX hE hg hl hNm => ?_)
  subst hg
  subst hl
  unfold F_X5_ticketZones at h
  show VW C 0 [(0, .ref (a0)), (1, .int (a1))] [] w z mc ms
  refine vw_aload_n hX 0 dX5_ticketZones_0 rfl ?_
  refine vw_iload_n hX 1 dX5_ticketZones_1 rfl ?_
  obtain ⟨hr1, h⟩ := h
  obtain ⟨k5, k6, hm1, hm2, h⟩ := h
  refine s_X5_132 hX hr1 dX5_ticketZones_2 (Nat.le_of_ble_eq_true rfl) hm1 hm2 (ct_X5_requireTicket (d := d + 0) (lst hX) h) (fun w3 z4 h => ?_) (fun E w1 z1 hx => vx_outE hX hE hx)
  refine vw_aload_n hX 0 dX5_ticketZones_5 rfl ?_
  obtain ⟨q7, hq7, h⟩ := h
  refine g_X5_10 hX hq7 dX5_ticketZones_6 ?_
  obtain ⟨q8, hq8, h⟩ := h
  refine g_X5_268 hX hq8 dX5_ticketZones_9 ?_
  refine vw_iload_n hX 1 dX5_ticketZones_12 rfl ?_
  obtain ⟨n10, f9, q11, hf9, hif9, hqf9, h⟩ := h
  refine vw_aald hX 6 (by decide) rfl hf9 hif9 hqf9 dX5_ticketZones_13 ?_
  obtain ⟨v12, hv12, h⟩ := h
  refine g_X5_280 hX hv12 dX5_ticketZones_14 ?_
  exact vw_iret hX hE dX5_ticketZones_17 ⟨_, rfl, h⟩
def F_X5_ticketPrice (a0 : Nat) (a1 : Int32) (w : Mm) (z : Nat) (mc ms : Nat) (Q : Int32 → Mm → Nat → Prop) (X : String → Mm → Nat → Prop) : Prop :=
  isO w a0 9 ∧ ∃ k5 k6, k5 ≤ mc ∧ k6 ≤ ms ∧ F_X5_requireTicket a0 a1 w z k5 k6 (fun w3 z4 => ∃ q7, fld w3 a0 9 0 = some (.ref (q7)) ∧ ∃ q8, fld w3 q7 7 10 = some (.ref (q8)) ∧ ∃ n10 f9 q11, arR w3 q8 6 = some (n10, f9) ∧ vp_in a1 n10 ∧ f9 (a1 : Int32).toNatClampNeg = some q11 ∧ isO w3 q11 8 ∧ F_X4_price q11 w3 z4 (fun r13 w14 z15 => Q r13 w14 z15)) X
set_option maxRecDepth 100000 in
set_option maxHeartbeats 4000000 in
theorem ct_X5_ticketPrice {l : Launch} {g : Gp} {d : Nat} (hst : l.stackTraces = false) {a0 : Nat} {a1 : Int32} {w : Mm} {z mc ms : Nat} {Q : Int32 → Mm → Nat → Prop} {X : String → Mm → Nat → Prop} (h : F_X5_ticketPrice a0 a1 w z mc ms Q X) : Ct l g yX5_ticketPrice (.code yX5_ticketPrice cX5_ticketPrice 2 (some .int)) (d + 7) mc ms [.ref (a0), .int (a1)] w z (rI Q) X := by
  refine Ct.of hst (by decide) (Nat.le_of_ble_eq_true rfl) (fun C hX hE hg hl hNm => ?_)
  subst hg
  subst hl
  unfold F_X5_ticketPrice at h
  show VW C 0 [(0, .ref (a0)), (1, .int (a1))] [] w z mc ms
  refine vw_aload_n hX 0 dX5_ticketPrice_0 rfl ?_
  refine vw_iload_n hX 1 dX5_ticketPrice_1 rfl ?_
  obtain ⟨hr1, h⟩ := h
  obtain ⟨k5, k6, hm1, hm2, h⟩ := h
  refine s_X5_132 hX hr1 dX5_ticketPrice_2 (Nat.le_of_ble_eq_true rfl) hm1 hm2 (ct_X5_requireTicket (d := d + 0) (lst hX) h) (fun w3 z4 h => ?_) (fun E w1 z1 hx => vx_outE hX hE hx)
  refine vw_aload_n hX 0 dX5_ticketPrice_5 rfl ?_
  obtain ⟨q7, hq7, h⟩ := h
  refine g_X5_10 hX hq7 dX5_ticketPrice_6 ?_
  obtain ⟨q8, hq8, h⟩ := h
  refine g_X5_268 hX hq8 dX5_ticketPrice_9 ?_
  refine vw_iload_n hX 1 dX5_ticketPrice_12 rfl ?_
  obtain ⟨n10, f9, q11, hf9, hif9, hqf9, h⟩ := h
  refine vw_aald hX 6 (by decide) rfl hf9 hif9 hqf9 dX5_ticketPrice_13 ?_
  obtain ⟨hr12, h⟩ := h
  refine s_X5_282 hX hr12 dX5_ticketPrice_14 (Nat.le_of_ble_eq_true rfl) (ct_X4_price (d := d + 4) (lst hX) h) (fun r13 w14 z15 h => ?_)
  exact vw_iret hX hE dX5_ticketPrice_17 ⟨_, rfl, h⟩
def F_X5_stampTime (a0 : Nat) (a1 : Int32) (w : Mm) (z : Nat) (mc ms : Nat) (Q : Int32 → Mm → Nat → Prop) (X : String → Mm → Nat → Prop) : Prop :=
  isO w a0 9 ∧ ∃ k5 k6, k5 ≤ mc ∧ k6 ≤ ms ∧ F_X5_requireTicket a0 a1 w z k5 k6 (fun w3 z4 => ∃ q7, fld w3 a0 9 0 = some (.ref (q7)) ∧ ∃ q8, fld w3 q7 7 10 = some (.ref (q8)) ∧ ∃ n10 f9 q11, arR w3 q8 6 = some (n10, f9) ∧ vp_in a1 n10 ∧ f9 (a1 : Int32).toNatClampNeg = some q11 ∧ ∃ v12, fld w3 q11 8 3 = some (.int (v12)) ∧ Q v12 w3 z4) X
set_option maxRecDepth 100000 in
set_option maxHeartbeats 4000000 in
theorem ct_X5_stampTime {l : Launch} {g : Gp} {d : Nat} (hst : l.stackTraces = false) {a0 : Nat} {a1 : Int32} {w : Mm} {z mc ms : Nat} {Q : Int32 → Mm → Nat → Prop} {X : String → Mm → Nat → Prop} (h : F_X5_stampTime a0 a1 w z mc ms Q X) : Ct l g yX5_stampTime (.code yX5_stampTime cX5_stampTime 2 (some .int)) (d + 7) mc ms [.ref (a0), .int (a1)] w z (rI Q) X := by
  refine Ct.of hst (by decide) (Nat.le_of_ble_eq_true rfl) (fun C hX hE hg hl hNm => ?_)
  subst hg
  subst hl
  unfold F_X5_stampTime at h
  show VW C 0 [(0, .ref (a0)), (1, .int (a1))] [] w z mc ms
  refine vw_aload_n hX 0 dX5_stampTime_0 rfl ?_
  refine vw_iload_n hX 1 dX5_stampTime_1 rfl ?_
  obtain ⟨hr1, h⟩ := h
  obtain ⟨k5, k6, hm1, hm2, h⟩ := h
  refine s_X5_132 hX hr1 dX5_stampTime_2 (Nat.le_of_ble_eq_true rfl) hm1 hm2 (ct_X5_requireTicket (d := d + 0) (lst hX) h) (fun w3 z4 h => ?_) (fun E w1 z1 hx => vx_outE hX hE hx)
  refine vw_aload_n hX 0 dX5_stampTime_5 rfl ?_
  obtain ⟨q7, hq7, h⟩ := h
  refine g_X5_10 hX hq7 dX5_stampTime_6 ?_
  obtain ⟨q8, hq8, h⟩ := h
  refine g_X5_268 hX hq8 dX5_stampTime_9 ?_
  refine vw_iload_n hX 1 dX5_stampTime_12 rfl ?_
  obtain ⟨n10, f9, q11, hf9, hif9, hqf9, h⟩ := h
  refine vw_aald hX 6 (by decide) rfl hf9 hif9 hqf9 dX5_stampTime_13 ?_
  obtain ⟨v12, hv12, h⟩ := h
  refine g_X5_285 hX hv12 dX5_stampTime_14 ?_
  exact vw_iret hX hE dX5_stampTime_17 ⟨_, rfl, h⟩
def F_X5_stampStop (a0 : Nat) (a1 : Int32) (w : Mm) (z : Nat) (mc ms : Nat) (Q : Int32 → Mm → Nat → Prop) (X : String → Mm → Nat → Prop) : Prop :=
  isO w a0 9 ∧ ∃ k5 k6, k5 ≤ mc ∧ k6 ≤ ms ∧ F_X5_requireTicket a0 a1 w z k5 k6 (fun w3 z4 => ∃ q7, fld w3 a0 9 0 = some (.ref (q7)) ∧ ∃ q8, fld w3 q7 7 10 = some (.ref (q8)) ∧ ∃ n10 f9 q11, arR w3 q8 6 = some (n10, f9) ∧ vp_in a1 n10 ∧ f9 (a1 : Int32).toNatClampNeg = some q11 ∧ ∃ v12, fld w3 q11 8 4 = some (.int (v12)) ∧ Q v12 w3 z4) X
set_option maxRecDepth 100000 in
set_option maxHeartbeats 4000000 in
theorem ct_X5_stampStop {l : Launch} {g : Gp} {d : Nat} (hst : l.stackTraces = false) {a0 : Nat} {a1 : Int32} {w : Mm} {z mc ms : Nat} {Q : Int32 → Mm → Nat → Prop} {X : String → Mm → Nat → Prop} (h : F_X5_stampStop a0 a1 w z mc ms Q X) : Ct l g yX5_stampStop (.code yX5_stampStop cX5_stampStop 2 (some .int)) (d + 7) mc ms [.ref (a0), .int (a1)] w z (rI Q) X := by
  refine Ct.of hst (by decide) (Nat.le_of_ble_eq_true rfl) (fun C hX hE hg hl hNm => ?_)
  subst hg
  subst hl
  unfold F_X5_stampStop at h
  show VW C 0 [(0, .ref (a0)), (1, .int (a1))] [] w z mc ms
  refine vw_aload_n hX 0 dX5_stampStop_0 rfl ?_
  refine vw_iload_n hX 1 dX5_stampStop_1 rfl ?_
  obtain ⟨hr1, h⟩ := h
  obtain ⟨k5, k6, hm1, hm2, h⟩ := h
  refine s_X5_132 hX hr1 dX5_stampStop_2 (Nat.le_of_ble_eq_true rfl) hm1 hm2 (ct_X5_requireTicket (d := d + 0) (lst hX) h) (fun w3 z4 h => ?_) (fun E w1 z1 hx => vx_outE hX hE hx)
  refine vw_aload_n hX 0 dX5_stampStop_5 rfl ?_
  obtain ⟨q7, hq7, h⟩ := h
  refine g_X5_10 hX hq7 dX5_stampStop_6 ?_
  obtain ⟨q8, hq8, h⟩ := h
  refine g_X5_268 hX hq8 dX5_stampStop_9 ?_
  refine vw_iload_n hX 1 dX5_stampStop_12 rfl ?_
  obtain ⟨n10, f9, q11, hf9, hif9, hqf9, h⟩ := h
  refine vw_aald hX 6 (by decide) rfl hf9 hif9 hqf9 dX5_stampStop_13 ?_
  obtain ⟨v12, hv12, h⟩ := h
  refine g_X5_288 hX hv12 dX5_stampStop_14 ?_
  exact vw_iret hX hE dX5_stampStop_17 ⟨_, rfl, h⟩
def F_X5_ticketRides (a0 : Nat) (a1 : Int32) (w : Mm) (z : Nat) (mc ms : Nat) (Q : Int32 → Mm → Nat → Prop) (X : String → Mm → Nat → Prop) : Prop :=
  isO w a0 9 ∧ ∃ k5 k6, k5 ≤ mc ∧ k6 ≤ ms ∧ F_X5_requireTicket a0 a1 w z k5 k6 (fun w3 z4 => ∃ q7, fld w3 a0 9 0 = some (.ref (q7)) ∧ ∃ q8, fld w3 q7 7 10 = some (.ref (q8)) ∧ ∃ n10 f9 q11, arR w3 q8 6 = some (n10, f9) ∧ vp_in a1 n10 ∧ f9 (a1 : Int32).toNatClampNeg = some q11 ∧ ∃ v12, fld w3 q11 8 5 = some (.int (v12)) ∧ Q v12 w3 z4) X
set_option maxRecDepth 100000 in
set_option maxHeartbeats 4000000 in
theorem ct_X5_ticketRides {l : Launch} {g : Gp} {d : Nat} (hst : l.stackTraces = false) {a0 : Nat} {a1 : Int32} {w : Mm} {z mc ms : Nat} {Q : Int32 → Mm → Nat → Prop} {X : String → Mm → Nat → Prop} (h : F_X5_ticketRides a0 a1 w z mc ms Q X) : Ct l g yX5_ticketRides (.code yX5_ticketRides cX5_ticketRides 2 (some .int)) (d + 7) mc ms [.ref (a0), .int (a1)] w z (rI Q) X := by
  refine Ct.of hst (by decide) (Nat.le_of_ble_eq_true rfl) (fun C hX hE hg hl hNm => ?_)
  subst hg
  subst hl
  unfold F_X5_ticketRides at h
  show VW C 0 [(0, .ref (a0)), (1, .int (a1))] [] w z mc ms
  refine vw_aload_n hX 0 dX5_ticketRides_0 rfl ?_
  refine vw_iload_n hX 1 dX5_ticketRides_1 rfl ?_
  obtain ⟨hr1, h⟩ := h
  obtain ⟨k5, k6, hm1, hm2, h⟩ := h
  refine s_X5_132 hX hr1 dX5_ticketRides_2 (Nat.le_of_ble_eq_true rfl) hm1 hm2 (ct_X5_requireTicket (d := d + 0) (lst hX) h) (fun w3 z4 h => ?_) (fun E w1 z1 hx => vx_outE hX hE hx)
  refine vw_aload_n hX 0 dX5_ticketRides_5 rfl ?_
  obtain ⟨q7, hq7, h⟩ := h
  refine g_X5_10 hX hq7 dX5_ticketRides_6 ?_
  obtain ⟨q8, hq8, h⟩ := h
  refine g_X5_268 hX hq8 dX5_ticketRides_9 ?_
  refine vw_iload_n hX 1 dX5_ticketRides_12 rfl ?_
  obtain ⟨n10, f9, q11, hf9, hif9, hqf9, h⟩ := h
  refine vw_aald hX 6 (by decide) rfl hf9 hif9 hqf9 dX5_ticketRides_13 ?_
  obtain ⟨v12, hv12, h⟩ := h
  refine g_X5_291 hX hv12 dX5_ticketRides_14 ?_
  exact vw_iret hX hE dX5_ticketRides_17 ⟨_, rfl, h⟩
def F_X5_isInTime (a0 : Nat) (a1 : Int32) (w : Mm) (z : Nat) (mc ms : Nat) (Q : Int32 → Mm → Nat → Prop) (X : String → Mm → Nat → Prop) : Prop :=
  isO w a0 9 ∧ ∃ k5 k6, k5 ≤ mc ∧ k6 ≤ ms ∧ F_X5_requireTicket a0 a1 w z k5 k6 (fun w3 z4 => ∃ q7, fld w3 a0 9 0 = some (.ref (q7)) ∧ ∃ q8, fld w3 q7 7 10 = some (.ref (q8)) ∧ ∃ n10 f9 q11, arR w3 q8 6 = some (n10, f9) ∧ vp_in a1 n10 ∧ f9 (a1 : Int32).toNatClampNeg = some q11 ∧ ∃ q12, fld w3 a0 9 0 = some (.ref (q12)) ∧ ∃ v13, fld w3 q12 7 0 = some (.int (v13)) ∧ isO w3 q11 8 ∧ F_X4_inTimeAt q11 v13 w3 z4 (fun r15 w16 z17 => narrow .boolean (.int r15) = .int r15 ∧ Q r15 w16 z17)) X
set_option maxRecDepth 100000 in
set_option maxHeartbeats 4000000 in
theorem ct_X5_isInTime {l : Launch} {g : Gp} {d : Nat} (hst : l.stackTraces = false) {a0 : Nat} {a1 : Int32} {w : Mm} {z mc ms : Nat} {Q : Int32 → Mm → Nat → Prop} {X : String → Mm → Nat → Prop} (h : F_X5_isInTime a0 a1 w z mc ms Q X) : Ct l g yX5_isInTime (.code yX5_isInTime cX5_isInTime 2 (some .boolean)) (d + 7) mc ms [.ref (a0), .int (a1)] w z (rI Q) X := by
  refine Ct.of hst (by decide) (Nat.le_of_ble_eq_true rfl) (fun C hX hE hg hl hNm => ?_)
  subst hg
  subst hl
  unfold F_X5_isInTime at h
  show VW C 0 [(0, .ref (a0)), (1, .int (a1))] [] w z mc ms
  refine vw_aload_n hX 0 dX5_isInTime_0 rfl ?_
  refine vw_iload_n hX 1 dX5_isInTime_1 rfl ?_
  obtain ⟨hr1, h⟩ := h
  obtain ⟨k5, k6, hm1, hm2, h⟩ := h
  refine s_X5_132 hX hr1 dX5_isInTime_2 (Nat.le_of_ble_eq_true rfl) hm1 hm2 (ct_X5_requireTicket (d := d + 0) (lst hX) h) (fun w3 z4 h => ?_) (fun E w1 z1 hx => vx_outE hX hE hx)
  refine vw_aload_n hX 0 dX5_isInTime_5 rfl ?_
  obtain ⟨q7, hq7, h⟩ := h
  refine g_X5_10 hX hq7 dX5_isInTime_6 ?_
  obtain ⟨q8, hq8, h⟩ := h
  refine g_X5_268 hX hq8 dX5_isInTime_9 ?_
  refine vw_iload_n hX 1 dX5_isInTime_12 rfl ?_
  obtain ⟨n10, f9, q11, hf9, hif9, hqf9, h⟩ := h
  refine vw_aald hX 6 (by decide) rfl hf9 hif9 hqf9 dX5_isInTime_13 ?_
  refine vw_aload_n hX 0 dX5_isInTime_14 rfl ?_
  obtain ⟨q12, hq12, h⟩ := h
  refine g_X5_10 hX hq12 dX5_isInTime_15 ?_
  obtain ⟨v13, hv13, h⟩ := h
  refine g_X5_159 hX hv13 dX5_isInTime_18 ?_
  obtain ⟨hr14, h⟩ := h
  refine s_X5_294 hX hr14 dX5_isInTime_21 (Nat.le_of_ble_eq_true rfl) (ct_X4_inTimeAt (d := d + 5) (lst hX) h) (fun r15 w16 z17 h => ?_)
  exact vw_zret hX hE dX5_isInTime_24 h.1 ⟨_, rfl, h.2⟩
def F_X5_casePassenger (a0 : Nat) (a1 : Int32) (w : Mm) (z : Nat) (mc ms : Nat) (Q : Int32 → Mm → Nat → Prop) (X : String → Mm → Nat → Prop) : Prop :=
  isO w a0 9 ∧ ∃ k5 k6, k5 ≤ mc ∧ k6 ≤ ms ∧ F_X5_requireCase a0 a1 w z k5 k6 (fun w3 z4 => ∃ q7, fld w3 a0 9 0 = some (.ref (q7)) ∧ ∃ q8, fld w3 q7 7 11 = some (.ref (q8)) ∧ ∃ n10 f9 q11, arR w3 q8 7 = some (n10, f9) ∧ vp_in a1 n10 ∧ f9 (a1 : Int32).toNatClampNeg = some q11 ∧ ∃ v12, fld w3 q11 4 0 = some (.int (v12)) ∧ Q v12 w3 z4) X
set_option maxRecDepth 100000 in
set_option maxHeartbeats 4000000 in
theorem ct_X5_casePassenger {l : Launch} {g : Gp} {d : Nat} (hst : l.stackTraces = false) {a0 : Nat} {a1 : Int32} {w : Mm} {z mc ms : Nat} {Q : Int32 → Mm → Nat → Prop} {X : String → Mm → Nat → Prop} (h : F_X5_casePassenger a0 a1 w z mc ms Q X) : Ct l g yX5_casePassenger (.code yX5_casePassenger cX5_casePassenger 2 (some .int)) (d + 7) mc ms [.ref (a0), .int (a1)] w z (rI Q) X := by
  refine Ct.of hst (by decide) (Nat.le_of_ble_eq_true rfl) (fun C hX hE hg hl hNm => ?_)
  subst hg
  subst hl
  unfold F_X5_casePassenger at h
  show VW C 0 [(0, .ref (a0)), (1, .int (a1))] [] w z mc ms
  refine vw_aload_n hX 0 dX5_casePassenger_0 rfl ?_
  refine vw_iload_n hX 1 dX5_casePassenger_1 rfl ?_
  obtain ⟨hr1, h⟩ := h
  obtain ⟨k5, k6, hm1, hm2, h⟩ := h
  refine s_X5_164 hX hr1 dX5_casePassenger_2 (Nat.le_of_ble_eq_true rfl) hm1 hm2 (ct_X5_requireCase (d := d + 0) (lst hX) h) (fun w3 z4 h => ?_) (fun E w1 z1 hx => vx_outE hX hE hx)
  refine vw_aload_n hX 0 dX5_casePassenger_5 rfl ?_
  obtain ⟨q7, hq7, h⟩ := h
  refine g_X5_10 hX hq7 dX5_casePassenger_6 ?_
  obtain ⟨q8, hq8, h⟩ := h
  refine g_X5_297 hX hq8 dX5_casePassenger_9 ?_
  refine vw_iload_n hX 1 dX5_casePassenger_12 rfl ?_
  obtain ⟨n10, f9, q11, hf9, hif9, hqf9, h⟩ := h
  refine vw_aald hX 7 (by decide) rfl hf9 hif9 hqf9 dX5_casePassenger_13 ?_
  obtain ⟨v12, hv12, h⟩ := h
  refine g_X5_301 hX hv12 dX5_casePassenger_14 ?_
  exact vw_iret hX hE dX5_casePassenger_17 ⟨_, rfl, h⟩
def F_X5_caseFault (a0 : Nat) (a1 : Int32) (w : Mm) (z : Nat) (mc ms : Nat) (Q : Int32 → Mm → Nat → Prop) (X : String → Mm → Nat → Prop) : Prop :=
  isO w a0 9 ∧ ∃ k5 k6, k5 ≤ mc ∧ k6 ≤ ms ∧ F_X5_requireCase a0 a1 w z k5 k6 (fun w3 z4 => ∃ q7, fld w3 a0 9 0 = some (.ref (q7)) ∧ ∃ q8, fld w3 q7 7 11 = some (.ref (q8)) ∧ ∃ n10 f9 q11, arR w3 q8 7 = some (n10, f9) ∧ vp_in a1 n10 ∧ f9 (a1 : Int32).toNatClampNeg = some q11 ∧ ∃ v12, fld w3 q11 4 1 = some (.int (v12)) ∧ Q v12 w3 z4) X
set_option maxRecDepth 100000 in
set_option maxHeartbeats 4000000 in
theorem ct_X5_caseFault {l : Launch} {g : Gp} {d : Nat} (hst : l.stackTraces = false) {a0 : Nat} {a1 : Int32} {w : Mm} {z mc ms : Nat} {Q : Int32 → Mm → Nat → Prop} {X : String → Mm → Nat → Prop} (h : F_X5_caseFault a0 a1 w z mc ms Q X) : Ct l g yX5_caseFault (.code yX5_caseFault cX5_caseFault 2 (some .int)) (d + 7) mc ms [.ref (a0), .int (a1)] w z (rI Q) X := by
  refine Ct.of hst (by decide) (Nat.le_of_ble_eq_true rfl) (fun C hX hE hg hl hNm => ?_)
  subst hg
  subst hl
  unfold F_X5_caseFault at h
  show VW C 0 [(0, .ref (a0)), (1, .int (a1))] [] w z mc ms
  refine vw_aload_n hX 0 dX5_caseFault_0 rfl ?_
  refine vw_iload_n hX 1 dX5_caseFault_1 rfl ?_
  obtain ⟨hr1, h⟩ := h
  obtain ⟨k5, k6, hm1, hm2, h⟩ := h
  refine s_X5_164 hX hr1 dX5_caseFault_2 (Nat.le_of_ble_eq_true rfl) hm1 hm2 (ct_X5_requireCase (d := d + 0) (lst hX) h) (fun w3 z4 h => ?_) (fun E w1 z1 hx => vx_outE hX hE hx)
  refine vw_aload_n hX 0 dX5_caseFault_5 rfl ?_
  obtain ⟨q7, hq7, h⟩ := h
  refine g_X5_10 hX hq7 dX5_caseFault_6 ?_
  obtain ⟨q8, hq8, h⟩ := h
  refine g_X5_297 hX hq8 dX5_caseFault_9 ?_
  refine vw_iload_n hX 1 dX5_caseFault_12 rfl ?_
  obtain ⟨n10, f9, q11, hf9, hif9, hqf9, h⟩ := h
  refine vw_aald hX 7 (by decide) rfl hf9 hif9 hqf9 dX5_caseFault_13 ?_
  obtain ⟨v12, hv12, h⟩ := h
  refine g_X5_306 hX hv12 dX5_caseFault_14 ?_
  exact vw_iret hX hE dX5_caseFault_17 ⟨_, rfl, h⟩
def F_X5_caseState (a0 : Nat) (a1 : Int32) (w : Mm) (z : Nat) (mc ms : Nat) (Q : Int32 → Mm → Nat → Prop) (X : String → Mm → Nat → Prop) : Prop :=
  isO w a0 9 ∧ ∃ k5 k6, k5 ≤ mc ∧ k6 ≤ ms ∧ F_X5_requireCase a0 a1 w z k5 k6 (fun w3 z4 => ∃ q7, fld w3 a0 9 0 = some (.ref (q7)) ∧ ∃ q8, fld w3 q7 7 11 = some (.ref (q8)) ∧ ∃ n10 f9 q11, arR w3 q8 7 = some (n10, f9) ∧ vp_in a1 n10 ∧ f9 (a1 : Int32).toNatClampNeg = some q11 ∧ ∃ v12, fld w3 q11 4 4 = some (.int (v12)) ∧ Q v12 w3 z4) X
set_option maxRecDepth 100000 in
set_option maxHeartbeats 4000000 in
theorem ct_X5_caseState {l : Launch} {g : Gp} {d : Nat} (hst : l.stackTraces = false) {a0 : Nat} {a1 : Int32} {w : Mm} {z mc ms : Nat} {Q : Int32 → Mm → Nat → Prop} {X : String → Mm → Nat → Prop} (h : F_X5_caseState a0 a1 w z mc ms Q X) : Ct l g yX5_caseState (.code yX5_caseState cX5_caseState 2 (some .int)) (d + 7) mc ms [.ref (a0), .int (a1)] w z (rI Q) X := by
  refine Ct.of hst (by decide) (Nat.le_of_ble_eq_true rfl) (fun C hX hE hg hl hNm => ?_)
  subst hg
  subst hl
  unfold F_X5_caseState at h
  show VW C 0 [(0, .ref (a0)), (1, .int (a1))] [] w z mc ms
  refine vw_aload_n hX 0 dX5_caseState_0 rfl ?_
  refine vw_iload_n hX 1 dX5_caseState_1 rfl ?_
  obtain ⟨hr1, h⟩ := h
  obtain ⟨k5, k6, hm1, hm2, h⟩ := h
  refine s_X5_164 hX hr1 dX5_caseState_2 (Nat.le_of_ble_eq_true rfl) hm1 hm2 (ct_X5_requireCase (d := d + 0) (lst hX) h) (fun w3 z4 h => ?_) (fun E w1 z1 hx => vx_outE hX hE hx)
  refine vw_aload_n hX 0 dX5_caseState_5 rfl ?_
  obtain ⟨q7, hq7, h⟩ := h
  refine g_X5_10 hX hq7 dX5_caseState_6 ?_
  obtain ⟨q8, hq8, h⟩ := h
  refine g_X5_297 hX hq8 dX5_caseState_9 ?_
  refine vw_iload_n hX 1 dX5_caseState_12 rfl ?_
  obtain ⟨n10, f9, q11, hf9, hif9, hqf9, h⟩ := h
  refine vw_aald hX 7 (by decide) rfl hf9 hif9 hqf9 dX5_caseState_13 ?_
  obtain ⟨v12, hv12, h⟩ := h
  refine g_X5_309 hX hv12 dX5_caseState_14 ?_
  exact vw_iret hX hE dX5_caseState_17 ⟨_, rfl, h⟩
def F_X5_caseTime (a0 : Nat) (a1 : Int32) (w : Mm) (z : Nat) (mc ms : Nat) (Q : Int32 → Mm → Nat → Prop) (X : String → Mm → Nat → Prop) : Prop :=
  isO w a0 9 ∧ ∃ k5 k6, k5 ≤ mc ∧ k6 ≤ ms ∧ F_X5_requireCase a0 a1 w z k5 k6 (fun w3 z4 => ∃ q7, fld w3 a0 9 0 = some (.ref (q7)) ∧ ∃ q8, fld w3 q7 7 11 = some (.ref (q8)) ∧ ∃ n10 f9 q11, arR w3 q8 7 = some (n10, f9) ∧ vp_in a1 n10 ∧ f9 (a1 : Int32).toNatClampNeg = some q11 ∧ ∃ v12, fld w3 q11 4 2 = some (.int (v12)) ∧ Q v12 w3 z4) X
set_option maxRecDepth 100000 in
set_option maxHeartbeats 4000000 in
theorem ct_X5_caseTime {l : Launch} {g : Gp} {d : Nat} (hst : l.stackTraces = false) {a0 : Nat} {a1 : Int32} {w : Mm} {z mc ms : Nat} {Q : Int32 → Mm → Nat → Prop} {X : String → Mm → Nat → Prop} (h : F_X5_caseTime a0 a1 w z mc ms Q X) : Ct l g yX5_caseTime (.code yX5_caseTime cX5_caseTime 2 (some .int)) (d + 7) mc ms [.ref (a0), .int (a1)] w z (rI Q) X := by
  refine Ct.of hst (by decide) (Nat.le_of_ble_eq_true rfl) (fun C hX hE hg hl hNm => ?_)
  subst hg
  subst hl
  unfold F_X5_caseTime at h
  show VW C 0 [(0, .ref (a0)), (1, .int (a1))] [] w z mc ms
  refine vw_aload_n hX 0 dX5_caseTime_0 rfl ?_
  refine vw_iload_n hX 1 dX5_caseTime_1 rfl ?_
  obtain ⟨hr1, h⟩ := h
  obtain ⟨k5, k6, hm1, hm2, h⟩ := h
  refine s_X5_164 hX hr1 dX5_caseTime_2 (Nat.le_of_ble_eq_true rfl) hm1 hm2 (ct_X5_requireCase (d := d + 0) (lst hX) h) (fun w3 z4 h => ?_) (fun E w1 z1 hx => vx_outE hX hE hx)
  refine vw_aload_n hX 0 dX5_caseTime_5 rfl ?_
  obtain ⟨q7, hq7, h⟩ := h
  refine g_X5_10 hX hq7 dX5_caseTime_6 ?_
  obtain ⟨q8, hq8, h⟩ := h
  refine g_X5_297 hX hq8 dX5_caseTime_9 ?_
  refine vw_iload_n hX 1 dX5_caseTime_12 rfl ?_
  obtain ⟨n10, f9, q11, hf9, hif9, hqf9, h⟩ := h
  refine vw_aald hX 7 (by decide) rfl hf9 hif9 hqf9 dX5_caseTime_13 ?_
  obtain ⟨v12, hv12, h⟩ := h
  refine g_X5_312 hX hv12 dX5_caseTime_14 ?_
  exact vw_iret hX hE dX5_caseTime_17 ⟨_, rfl, h⟩
def F_X5_amountDue (a0 : Nat) (a1 : Int32) (w : Mm) (z : Nat) (mc ms : Nat) (Q : Int32 → Mm → Nat → Prop) (X : String → Mm → Nat → Prop) : Prop :=
  isO w a0 9 ∧ ∃ k5 k6, k5 ≤ mc ∧ k6 ≤ ms ∧ F_X5_requireCase a0 a1 w z k5 k6 (fun w3 z4 => ∃ q7, fld w3 a0 9 0 = some (.ref (q7)) ∧ ∃ q8, fld w3 q7 7 11 = some (.ref (q8)) ∧ ∃ n10 f9 q11, arR w3 q8 7 = some (n10, f9) ∧ vp_in a1 n10 ∧ f9 (a1 : Int32).toNatClampNeg = some q11 ∧ ∃ q12, fld w3 a0 9 0 = some (.ref (q12)) ∧ ∃ v13, fld w3 q12 7 0 = some (.int (v13)) ∧ isO w3 q11 4 ∧ F_X0_costAt q11 v13 w3 z4 (fun r15 w16 z17 => Q r15 w16 z17)) X
set_option maxRecDepth 100000 in
set_option maxHeartbeats 4000000 in
theorem ct_X5_amountDue {l : Launch} {g : Gp} {d : Nat} (hst : l.stackTraces = false) {a0 : Nat} {a1 : Int32} {w : Mm} {z mc ms : Nat} {Q : Int32 → Mm → Nat → Prop} {X : String → Mm → Nat → Prop} (h : F_X5_amountDue a0 a1 w z mc ms Q X) : Ct l g yX5_amountDue (.code yX5_amountDue cX5_amountDue 2 (some .int)) (d + 7) mc ms [.ref (a0), .int (a1)] w z (rI Q) X := by
  refine Ct.of hst (by decide) (Nat.le_of_ble_eq_true rfl) (fun C hX hE hg hl hNm => ?_)
  subst hg
  subst hl
  unfold F_X5_amountDue at h
  show VW C 0 [(0, .ref (a0)), (1, .int (a1))] [] w z mc ms
  refine vw_aload_n hX 0 dX5_amountDue_0 rfl ?_
  refine vw_iload_n hX 1 dX5_amountDue_1 rfl ?_
  obtain ⟨hr1, h⟩ := h
  obtain ⟨k5, k6, hm1, hm2, h⟩ := h
  refine s_X5_164 hX hr1 dX5_amountDue_2 (Nat.le_of_ble_eq_true rfl) hm1 hm2 (ct_X5_requireCase (d := d + 0) (lst hX) h) (fun w3 z4 h => ?_) (fun E w1 z1 hx => vx_outE hX hE hx)
  refine vw_aload_n hX 0 dX5_amountDue_5 rfl ?_
  obtain ⟨q7, hq7, h⟩ := h
  refine g_X5_10 hX hq7 dX5_amountDue_6 ?_
  obtain ⟨q8, hq8, h⟩ := h
  refine g_X5_297 hX hq8 dX5_amountDue_9 ?_
  refine vw_iload_n hX 1 dX5_amountDue_12 rfl ?_
  obtain ⟨n10, f9, q11, hf9, hif9, hqf9, h⟩ := h
  refine vw_aald hX 7 (by decide) rfl hf9 hif9 hqf9 dX5_amountDue_13 ?_
  refine vw_aload_n hX 0 dX5_amountDue_14 rfl ?_
  obtain ⟨q12, hq12, h⟩ := h
  refine g_X5_10 hX hq12 dX5_amountDue_15 ?_
  obtain ⟨v13, hv13, h⟩ := h
  refine g_X5_159 hX hv13 dX5_amountDue_18 ?_
  obtain ⟨hr14, h⟩ := h
  refine s_X5_315 hX hr14 dX5_amountDue_21 (Nat.le_of_ble_eq_true rfl) (ct_X0_costAt (d := d + 5) (lst hX) h) (fun r15 w16 z17 h => ?_)
  exact vw_iret hX hE dX5_amountDue_24 ⟨_, rfl, h⟩
def F_X5_caseTicket (a0 : Nat) (a1 : Int32) (w : Mm) (z : Nat) (mc ms : Nat) (Q : Int32 → Mm → Nat → Prop) (X : String → Mm → Nat → Prop) : Prop :=
  isO w a0 9 ∧ ∃ k5 k6, k5 ≤ mc ∧ k6 ≤ ms ∧ F_X5_requireCase a0 a1 w z k5 k6 (fun w3 z4 => ∃ q7, fld w3 a0 9 0 = some (.ref (q7)) ∧ ∃ q8, fld w3 q7 7 11 = some (.ref (q8)) ∧ ∃ n10 f9 q11, arR w3 q8 7 = some (n10, f9) ∧ vp_in a1 n10 ∧ f9 (a1 : Int32).toNatClampNeg = some q11 ∧ ∃ v12, fld w3 q11 4 6 = some (.int (v12)) ∧ Q v12 w3 z4) X
set_option maxRecDepth 100000 in
set_option maxHeartbeats 4000000 in
theorem ct_X5_caseTicket {l : Launch} {g : Gp} {d : Nat} (hst : l.stackTraces = false) {a0 : Nat} {a1 : Int32} {w : Mm} {z mc ms : Nat} {Q : Int32 → Mm → Nat → Prop} {X : String → Mm → Nat → Prop} (h : F_X5_caseTicket a0 a1 w z mc ms Q X) : Ct l g yX5_caseTicket (.code yX5_caseTicket cX5_caseTicket 2 (some .int)) (d + 7) mc ms [.ref (a0), .int (a1)] w z (rI Q) X := by
  refine Ct.of hst (by decide) (Nat.le_of_ble_eq_true rfl) (fun C hX hE hg hl hNm => ?_)
  subst hg
  subst hl
  unfold F_X5_caseTicket at h
  show VW C 0 [(0, .ref (a0)), (1, .int (a1))] [] w z mc ms
  refine vw_aload_n hX 0 dX5_caseTicket_0 rfl ?_
  refine vw_iload_n hX 1 dX5_caseTicket_1 rfl ?_
  obtain ⟨hr1, h⟩ := h
  obtain ⟨k5, k6, hm1, hm2, h⟩ := h
  refine s_X5_164 hX hr1 dX5_caseTicket_2 (Nat.le_of_ble_eq_true rfl) hm1 hm2 (ct_X5_requireCase (d := d + 0) (lst hX) h) (fun w3 z4 h => ?_) (fun E w1 z1 hx => vx_outE hX hE hx)
  refine vw_aload_n hX 0 dX5_caseTicket_5 rfl ?_
  obtain ⟨q7, hq7, h⟩ := h
  refine g_X5_10 hX hq7 dX5_caseTicket_6 ?_
  obtain ⟨q8, hq8, h⟩ := h
  refine g_X5_297 hX hq8 dX5_caseTicket_9 ?_
  refine vw_iload_n hX 1 dX5_caseTicket_12 rfl ?_
  obtain ⟨n10, f9, q11, hf9, hif9, hqf9, h⟩ := h
  refine vw_aald hX 7 (by decide) rfl hf9 hif9 hqf9 dX5_caseTicket_13 ?_
  obtain ⟨v12, hv12, h⟩ := h
  refine g_X5_318 hX hv12 dX5_caseTicket_14 ?_
  exact vw_iret hX hE dX5_caseTicket_17 ⟨_, rfl, h⟩
def F_X5_isOverdue (a0 : Nat) (a1 : Int32) (w : Mm) (z : Nat) (mc ms : Nat) (Q : Int32 → Mm → Nat → Prop) (X : String → Mm → Nat → Prop) : Prop :=
  isO w a0 9 ∧ ∃ k5 k6, k5 ≤ mc ∧ k6 ≤ ms ∧ F_X5_requireCase a0 a1 w z k5 k6 (fun w3 z4 => ∃ q7, fld w3 a0 9 0 = some (.ref (q7)) ∧ ∃ q8, fld w3 q7 7 11 = some (.ref (q8)) ∧ ∃ n10 f9 q11, arR w3 q8 7 = some (n10, f9) ∧ vp_in a1 n10 ∧ f9 (a1 : Int32).toNatClampNeg = some q11 ∧ ∃ q12, fld w3 a0 9 0 = some (.ref (q12)) ∧ ∃ v13, fld w3 q12 7 0 = some (.int (v13)) ∧ isO w3 q11 4 ∧ F_X0_overdueAt q11 v13 w3 z4 (fun r15 w16 z17 => narrow .boolean (.int r15) = .int r15 ∧ Q r15 w16 z17)) X
set_option maxRecDepth 100000 in
set_option maxHeartbeats 4000000 in
theorem ct_X5_isOverdue {l : Launch} {g : Gp} {d : Nat} (hst : l.stackTraces = false) {a0 : Nat} {a1 : Int32} {w : Mm} {z mc ms : Nat} {Q : Int32 → Mm → Nat → Prop} {X : String → Mm → Nat → Prop} (h : F_X5_isOverdue a0 a1 w z mc ms Q X) : Ct l g yX5_isOverdue (.code yX5_isOverdue cX5_isOverdue 2 (some .boolean)) (d + 7) mc ms [.ref (a0), .int (a1)] w z (rI Q) X := by
  refine Ct.of hst (by decide) (Nat.le_of_ble_eq_true rfl) (fun C hX hE hg hl hNm => ?_)
  subst hg
  subst hl
  unfold F_X5_isOverdue at h
  show VW C 0 [(0, .ref (a0)), (1, .int (a1))] [] w z mc ms
  refine vw_aload_n hX 0 dX5_isOverdue_0 rfl ?_
  refine vw_iload_n hX 1 dX5_isOverdue_1 rfl ?_
  obtain ⟨hr1, h⟩ := h
  obtain ⟨k5, k6, hm1, hm2, h⟩ := h
  refine s_X5_164 hX hr1 dX5_isOverdue_2 (Nat.le_of_ble_eq_true rfl) hm1 hm2 (ct_X5_requireCase (d := d + 0) (lst hX) h) (fun w3 z4 h => ?_) (fun E w1 z1 hx => vx_outE hX hE hx)
  refine vw_aload_n hX 0 dX5_isOverdue_5 rfl ?_
  obtain ⟨q7, hq7, h⟩ := h
  refine g_X5_10 hX hq7 dX5_isOverdue_6 ?_
  obtain ⟨q8, hq8, h⟩ := h
  refine g_X5_297 hX hq8 dX5_isOverdue_9 ?_
  refine vw_iload_n hX 1 dX5_isOverdue_12 rfl ?_
  obtain ⟨n10, f9, q11, hf9, hif9, hqf9, h⟩ := h
  refine vw_aald hX 7 (by decide) rfl hf9 hif9 hqf9 dX5_isOverdue_13 ?_
  refine vw_aload_n hX 0 dX5_isOverdue_14 rfl ?_
  obtain ⟨q12, hq12, h⟩ := h
  refine g_X5_10 hX hq12 dX5_isOverdue_15 ?_
  obtain ⟨v13, hv13, h⟩ := h
  refine g_X5_159 hX hv13 dX5_isOverdue_18 ?_
  obtain ⟨hr14, h⟩ := h
  refine s_X5_321 hX hr14 dX5_isOverdue_21 (Nat.le_of_ble_eq_true rfl) (ct_X0_overdueAt (d := d + 6) (lst hX) h) (fun r15 w16 z17 h => ?_)
  exact vw_zret hX hE dX5_isOverdue_24 h.1 ⟨_, rfl, h.2⟩
def F_X5_outlook (a0 : Nat) (a1 : Int32) (a2 : Int32) (w : Mm) (z : Nat) (mc ms : Nat) (Q : Int32 → Mm → Nat → Prop) (X : String → Mm → Nat → Prop) : Prop :=
  isO w a0 9 ∧ ∃ k5 k6, k5 ≤ mc ∧ k6 ≤ ms ∧ F_X5_requireCase a0 a1 w z k5 k6 (fun w3 z4 => isO w3 a0 9 ∧ ∃ k11 k12, k11 ≤ (mc - k5) ∧ k12 ≤ (ms - k6) ∧ F_X5_requireTicket a0 a2 w3 z4 k11 k12 (fun w9 z10 => ∃ q13, fld w9 a0 9 0 = some (.ref (q13)) ∧ isO w9 q13 7 ∧ F_X3_decisionFor q13 a1 a2 w9 z10 (fun r15 w16 z17 => Q r15 w16 z17)) X) X
set_option maxRecDepth 100000 in
set_option maxHeartbeats 4000000 in
theorem ct_X5_outlook {l : Launch} {g : Gp} {d : Nat} (hst : l.stackTraces = false) {a0 : Nat} {a1 : Int32} {a2 : Int32} {w : Mm} {z mc ms : Nat} {Q : Int32 → Mm → Nat → Prop} {X : String → Mm → Nat → Prop} (h : F_X5_outlook a0 a1 a2 w z mc ms Q X) : Ct l g yX5_outlook (.code yX5_outlook cX5_outlook 3 (some .int)) (d + 7) mc ms [.ref (a0), .int (a1), .int (a2)] w z (rI Q) X := by
  refine Ct.of hst (by decide) (Nat.le_of_ble_eq_true rfl) (fun C hX hE hg hl hNm => ?_)
  subst hg
  subst hl
  unfold F_X5_outlook at h
  show VW C 0 [(0, .ref (a0)), (1, .int (a1)), (2, .int (a2))] [] w z mc ms
  refine vw_aload_n hX 0 dX5_outlook_0 rfl ?_
  refine vw_iload_n hX 1 dX5_outlook_1 rfl ?_
  obtain ⟨hr1, h⟩ := h
  obtain ⟨k5, k6, hm1, hm2, h⟩ := h
  refine s_X5_164 hX hr1 dX5_outlook_2 (Nat.le_of_ble_eq_true rfl) hm1 hm2 (ct_X5_requireCase (d := d + 0) (lst hX) h) (fun w3 z4 h => ?_) (fun E w1 z1 hx => vx_outE hX hE hx)
  refine vw_aload_n hX 0 dX5_outlook_5 rfl ?_
  refine vw_iload_n hX 2 dX5_outlook_6 rfl ?_
  obtain ⟨hr7, h⟩ := h
  obtain ⟨k11, k12, hm1, hm2, h⟩ := h
  refine s_X5_132 hX hr7 dX5_outlook_7 (Nat.le_of_ble_eq_true rfl) hm1 hm2 (ct_X5_requireTicket (d := d + 0) (lst hX) h) (fun w9 z10 h => ?_) (fun E w1 z1 hx => vx_outE hX hE hx)
  refine vw_aload_n hX 0 dX5_outlook_10 rfl ?_
  obtain ⟨q13, hq13, h⟩ := h
  refine g_X5_10 hX hq13 dX5_outlook_11 ?_
  refine vw_iload_n hX 1 dX5_outlook_14 rfl ?_
  refine vw_iload_n hX 2 dX5_outlook_15 rfl ?_
  obtain ⟨hr14, h⟩ := h
  refine s_X5_324 hX hr14 dX5_outlook_16 (Nat.le_of_ble_eq_true rfl) (ct_X3_decisionFor (d := d + 4) (lst hX) h) (fun r15 w16 z17 h => ?_)
  exact vw_iret hX hE dX5_outlook_19 ⟨_, rfl, h⟩
def F_X5_ticketSales (a0 : Nat) (w : Mm) (z : Nat) (Q : Int32 → Mm → Nat → Prop) : Prop :=
  ∃ q1, fld w a0 9 0 = some (.ref (q1)) ∧ isO w q1 7 ∧ F_X3_sumOfPrices q1 w z (fun r3 w4 z5 => Q r3 w4 z5)
set_option maxRecDepth 100000 in
set_option maxHeartbeats 4000000 in
theorem ct_X5_ticketSales {l : Launch} {g : Gp} {d : Nat} (hst : l.stackTraces = false) {a0 : Nat} {w : Mm} {z mc ms : Nat} {Q : Int32 → Mm → Nat → Prop} {X : String → Mm → Nat → Prop} (h : F_X5_ticketSales a0 w z Q) : Ct l g yX5_ticketSales (.code yX5_ticketSales cX5_ticketSales 1 (some .int)) (d + 4) mc ms [.ref (a0)] w z (rI Q) X := by
  refine Ct.of hst (by decide) (Nat.le_of_ble_eq_true rfl) (fun C hX hE hg hl hNm => ?_)
  subst hg
  subst hl
  unfold F_X5_ticketSales at h
  show VW C 0 [(0, .ref (a0))] [] w z mc ms
  refine vw_aload_n hX 0 dX5_ticketSales_0 rfl ?_
  obtain ⟨q1, hq1, h⟩ := h
  refine g_X5_10 hX hq1 dX5_ticketSales_1 ?_
  obtain ⟨hr2, h⟩ := h
  refine s_X5_327 hX hr2 dX5_ticketSales_4 (Nat.le_of_ble_eq_true rfl) (ct_X3_sumOfPrices (d := d + 0) (lst hX) h) (fun r3 w4 z5 h => ?_)
  exact vw_iret hX hE dX5_ticketSales_7 ⟨_, rfl, h⟩
def F_X5_finesPaid (a0 : Nat) (w : Mm) (z : Nat) (Q : Int32 → Mm → Nat → Prop) : Prop :=
  ∃ q1, fld w a0 9 0 = some (.ref (q1)) ∧ ∃ v2, fld w q1 7 1 = some (.int (v2)) ∧ Q v2 w z
set_option maxRecDepth 100000 in
set_option maxHeartbeats 4000000 in
theorem ct_X5_finesPaid {l : Launch} {g : Gp} {d : Nat} (hst : l.stackTraces = false) {a0 : Nat} {w : Mm} {z mc ms : Nat} {Q : Int32 → Mm → Nat → Prop} {X : String → Mm → Nat → Prop} (h : F_X5_finesPaid a0 w z Q) : Ct l g yX5_finesPaid (.code yX5_finesPaid cX5_finesPaid 1 (some .int)) (d + 0) mc ms [.ref (a0)] w z (rI Q) X := by
  refine Ct.of hst (by decide) (Nat.le_of_ble_eq_true rfl) (fun C hX hE hg hl hNm => ?_)
  subst hg
  subst hl
  unfold F_X5_finesPaid at h
  show VW C 0 [(0, .ref (a0))] [] w z mc ms
  refine vw_aload_n hX 0 dX5_finesPaid_0 rfl ?_
  obtain ⟨q1, hq1, h⟩ := h
  refine g_X5_10 hX hq1 dX5_finesPaid_1 ?_
  obtain ⟨v2, hv2, h⟩ := h
  refine g_X5_330 hX hv2 dX5_finesPaid_4 ?_
  exact vw_iret hX hE dX5_finesPaid_7 ⟨_, rfl, h⟩
def F_X5_inspections (a0 : Nat) (w : Mm) (z : Nat) (Q : Int32 → Mm → Nat → Prop) : Prop :=
  ∃ q1, fld w a0 9 0 = some (.ref (q1)) ∧ ∃ v2, fld w q1 7 2 = some (.int (v2)) ∧ Q v2 w z
set_option maxRecDepth 100000 in
set_option maxHeartbeats 4000000 in
theorem ct_X5_inspections {l : Launch} {g : Gp} {d : Nat} (hst : l.stackTraces = false) {a0 : Nat} {w : Mm} {z mc ms : Nat} {Q : Int32 → Mm → Nat → Prop} {X : String → Mm → Nat → Prop} (h : F_X5_inspections a0 w z Q) : Ct l g yX5_inspections (.code yX5_inspections cX5_inspections 1 (some .int)) (d + 0) mc ms [.ref (a0)] w z (rI Q) X := by
  refine Ct.of hst (by decide) (Nat.le_of_ble_eq_true rfl) (fun C hX hE hg hl hNm => ?_)
  subst hg
  subst hl
  unfold F_X5_inspections at h
  show VW C 0 [(0, .ref (a0))] [] w z mc ms
  refine vw_aload_n hX 0 dX5_inspections_0 rfl ?_
  obtain ⟨q1, hq1, h⟩ := h
  refine g_X5_10 hX hq1 dX5_inspections_1 ?_
  obtain ⟨v2, hv2, h⟩ := h
  refine g_X5_333 hX hv2 dX5_inspections_4 ?_
  exact vw_iret hX hE dX5_inspections_7 ⟨_, rfl, h⟩
def F_X5_inconsistencies (a0 : Nat) (w : Mm) (z : Nat) (Q : Int32 → Mm → Nat → Prop) : Prop :=
  ∃ q1, fld w a0 9 0 = some (.ref (q1)) ∧ ∃ v2, fld w q1 7 3 = some (.int (v2)) ∧ ∃ q3, fld w a0 9 0 = some (.ref (q3)) ∧ isO w q3 7 ∧ F_X3_sumOfPrices q3 w z (fun r5 w6 z7 => ∃ q8, fld w6 a0 9 0 = some (.ref (q8)) ∧ ∃ v9, fld w6 q8 7 1 = some (.int (v9)) ∧ ∃ q10, fld w6 a0 9 0 = some (.ref (q10)) ∧ isO w6 q10 7 ∧ F_X3_sumOfMoney q10 w6 z7 (fun r12 w13 z14 => ∀ i15 : Int32, i15 = (((((v2 - r5)) - v9)) - r12) → ∃ q16, fld w13 a0 9 0 = some (.ref (q16)) ∧ isO w13 q16 7 ∧ F_X3_countOddStamps q16 w13 z14 (fun r18 w19 z20 => Q ((((jabs i15)) + r18)) w19 z20)))
set_option maxRecDepth 100000 in
set_option maxHeartbeats 4000000 in
theorem ct_X5_inconsistencies {l : Launch} {g : Gp} {d : Nat} (hst : l.stackTraces = false) {a0 : Nat} {w : Mm} {z mc ms : Nat} {Q : Int32 → Mm → Nat → Prop} {X : String → Mm → Nat → Prop} (h : F_X5_inconsistencies a0 w z Q) : Ct l g yX5_inconsistencies (.code yX5_inconsistencies cX5_inconsistencies 2 (some .int)) (d + 4) mc ms [.ref (a0)] w z (rI Q) X := by
  refine Ct.of hst (by decide) (Nat.le_of_ble_eq_true rfl) (fun C hX hE hg hl hNm => ?_)
  subst hg
  subst hl
  unfold F_X5_inconsistencies at h
  show VW C 0 [(0, .ref (a0))] [] w z mc ms
  refine vw_aload_n hX 0 dX5_inconsistencies_0 rfl ?_
  obtain ⟨q1, hq1, h⟩ := h
  refine g_X5_10 hX hq1 dX5_inconsistencies_1 ?_
  obtain ⟨v2, hv2, h⟩ := h
  refine g_X5_336 hX hv2 dX5_inconsistencies_4 ?_
  refine vw_aload_n hX 0 dX5_inconsistencies_7 rfl ?_
  obtain ⟨q3, hq3, h⟩ := h
  refine g_X5_10 hX hq3 dX5_inconsistencies_8 ?_
  obtain ⟨hr4, h⟩ := h
  refine s_X5_327 hX hr4 dX5_inconsistencies_11 (Nat.le_of_ble_eq_true rfl) (ct_X3_sumOfPrices (d := d + 0) (lst hX) h) (fun r5 w6 z7 h => ?_)
  refine vw_isub hX dX5_inconsistencies_14 ?_
  refine vw_aload_n hX 0 dX5_inconsistencies_15 rfl ?_
  obtain ⟨q8, hq8, h⟩ := h
  refine g_X5_10 hX hq8 dX5_inconsistencies_16 ?_
  obtain ⟨v9, hv9, h⟩ := h
  refine g_X5_330 hX hv9 dX5_inconsistencies_19 ?_
  refine vw_isub hX dX5_inconsistencies_22 ?_
  refine vw_aload_n hX 0 dX5_inconsistencies_23 rfl ?_
  obtain ⟨q10, hq10, h⟩ := h
  refine g_X5_10 hX hq10 dX5_inconsistencies_24 ?_
  obtain ⟨hr11, h⟩ := h
  refine s_X5_339 hX hr11 dX5_inconsistencies_27 (Nat.le_of_ble_eq_true rfl) (ct_X3_sumOfMoney (d := d + 3) (lst hX) h) (fun r12 w13 z14 h => ?_)
  refine vw_isub hX dX5_inconsistencies_30 ?_
  refine vw_nmI (fun i15 ei15 => ?_)
  have h := h i15 ei15
  refine vw_istore_n hX dX5_inconsistencies_31 (by decide) rfl ?_
  refine vw_iload_n hX 0 dX5_inconsistencies_32 rfl ?_
  refine vw_mabs hX kw_1250 (Nat.le_of_ble_eq_true rfl) dX5_inconsistencies_33 ?_
  refine vw_aload_n hX 1 dX5_inconsistencies_36 rfl ?_
  obtain ⟨q16, hq16, h⟩ := h
  refine g_X5_10 hX hq16 dX5_inconsistencies_37 ?_
  obtain ⟨hr17, h⟩ := h
  refine s_X5_342 hX hr17 dX5_inconsistencies_40 (Nat.le_of_ble_eq_true rfl) (ct_X3_countOddStamps (d := d + 2) (lst hX) h) (fun r18 w19 z20 h => ?_)
  refine vw_iadd hX dX5_inconsistencies_43 ?_
  exact vw_iret hX hE dX5_inconsistencies_44 ⟨_, rfl, h⟩
