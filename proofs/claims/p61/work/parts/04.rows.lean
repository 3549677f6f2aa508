section ROWS
variable {C : Cx} {cc : ByteArray} {own : String} {nL d : Nat} {ret : Option FieldType} {hh : List (Nat × Nat × Nat × Nat)} {pc : Nat} {L : List (Nat × Value)} {st : List Value} {w : Mm} {z mc ms : Nat}
theorem vw_iconst (hX : CX C cc own nL ret hh d) {n : Int} {v : Int32} (hd : decode cc pc = .ok (.iconst n, 1)) (hv : Int32.ofInt n = v) (kk : VW C (pc + 1) L (.int v :: st) w z mc ms) : VW C pc L (st) w z mc ms := by
  obtain ⟨g, ⟨nL', MC, MS⟩, p, l, e, R, s, m, args, below, meth, c, Qf⟩ := C
  obtain ⟨hx, hb, hml, hnl, hown, hts, hAm, hst, hlk, hr, htab, hR1, hR2, hR3, hR4⟩ := hX
  intro H locs ls k n hz hm hS hl hk hn
  exact lv_iconst hx hb hd hv (kk H locs ls k n hz hm hS hl hk hn)
theorem vw_bipush (hX : CX C cc own nL ret hh d) {n : Int} {v : Int32} (hd : decode cc pc = .ok (.bipush n, 2)) (hv : (Int8.ofInt n).toInt32 = v) (kk : VW C (pc + 2) L (.int v :: st) w z mc ms) : VW C pc L (st) w z mc ms := by
  obtain ⟨g, ⟨nL', MC, MS⟩, p, l, e, R, s, m, args, below, meth, c, Qf⟩ := C
  obtain ⟨hx, hb, hml, hnl, hown, hts, hAm, hst, hlk, hr, htab, hR1, hR2, hR3, hR4⟩ := hX
  intro H locs ls k n hz hm hS hl hk hn
  exact lv_bipush hx hb hd hv (kk H locs ls k n hz hm hS hl hk hn)
theorem vw_sipush (hX : CX C cc own nL ret hh d) {n : Int} {v : Int32} (hd : decode cc pc = .ok (.sipush n, 3)) (hv : (Int16.ofInt n).toInt32 = v) (kk : VW C (pc + 3) L (.int v :: st) w z mc ms) : VW C pc L (st) w z mc ms := by
  obtain ⟨g, ⟨nL', MC, MS⟩, p, l, e, R, s, m, args, below, meth, c, Qf⟩ := C
  obtain ⟨hx, hb, hml, hnl, hown, hts, hAm, hst, hlk, hr, htab, hR1, hR2, hR3, hR4⟩ := hX
  intro H locs ls k n hz hm hS hl hk hn
  exact lv_sipush hx hb hd hv (kk H locs ls k n hz hm hS hl hk hn)
theorem vw_lconst (hX : CX C cc own nL ret hh d) {n : Fin 2} {v : Int64} (hd : decode cc pc = .ok (.lconst n, 1)) (hv : Int64.ofNat (n : Nat) = v) (kk : VW C (pc + 1) L (.long v :: st) w z mc ms) : VW C pc L (st) w z mc ms := by
  obtain ⟨g, ⟨nL', MC, MS⟩, p, l, e, R, s, m, args, below, meth, c, Qf⟩ := C
  obtain ⟨hx, hb, hml, hnl, hown, hts, hAm, hst, hlk, hr, htab, hR1, hR2, hR3, hR4⟩ := hX
  intro H locs ls k n hz hm hS hl hk hn
  exact lv_lconst hx hb hd hv (kk H locs ls k n hz hm hS hl hk hn)
theorem vw_null (hX : CX C cc own nL ret hh d) (hd : decode cc pc = .ok (.aconst_null, 1)) (kk : VW C (pc + 1) L (.null :: st) w z mc ms) : VW C pc L (st) w z mc ms := by
  obtain ⟨g, ⟨nL', MC, MS⟩, p, l, e, R, s, m, args, below, meth, c, Qf⟩ := C
  obtain ⟨hx, hb, hml, hnl, hown, hts, hAm, hst, hlk, hr, htab, hR1, hR2, hR3, hR4⟩ := hX
  intro H locs ls k n hz hm hS hl hk hn
  exact lv_null hx hb hd (kk H locs ls k n hz hm hS hl hk hn)
theorem vw_fconst0 (hX : CX C cc own nL ret hh d) (hd : decode cc pc = .ok (.fconst 0, 1)) (kk : VW C (pc + 1) L (.float 0 :: st) w z mc ms) : VW C pc L (st) w z mc ms := by
  obtain ⟨g, ⟨nL', MC, MS⟩, p, l, e, R, s, m, args, below, meth, c, Qf⟩ := C
  obtain ⟨hx, hb, hml, hnl, hown, hts, hAm, hst, hlk, hr, htab, hR1, hR2, hR3, hR4⟩ := hX
  intro H locs ls k n hz hm hS hl hk hn
  exact lv_fconst0 hx hb hd (kk H locs ls k n hz hm hS hl hk hn)
theorem vw_dconst0 (hX : CX C cc own nL ret hh d) (hd : decode cc pc = .ok (.dconst 0, 1)) (kk : VW C (pc + 1) L (.double 0 :: st) w z mc ms) : VW C pc L (st) w z mc ms := by
  obtain ⟨g, ⟨nL', MC, MS⟩, p, l, e, R, s, m, args, below, meth, c, Qf⟩ := C
  obtain ⟨hx, hb, hml, hnl, hown, hts, hAm, hst, hlk, hr, htab, hR1, hR2, hR3, hR4⟩ := hX
  intro H locs ls k n hz hm hS hl hk hn
  exact lv_dconst0 hx hb hd (kk H locs ls k n hz hm hS hl hk hn)
theorem vw_iload_n (hX : CX C cc own nL ret hh d) {i : Fin 4} (k0 : Nat) {x : Int32} (hd : decode cc pc = .ok (.iload_n i, 1)) (hk0 : L[k0]? = some ((i : Nat), .int x)) (kk : VW C (pc + 1) L (.int x :: st) w z mc ms) : VW C pc L (st) w z mc ms := by
  obtain ⟨g, ⟨nL', MC, MS⟩, p, l, e, R, s, m, args, below, meth, c, Qf⟩ := C
  obtain ⟨hx, hb, hml, hnl, hown, hts, hAm, hst, hlk, hr, htab, hR1, hR2, hR3, hR4⟩ := hX
  intro H locs ls k n hz hm hS hl hk hn
  exact lv_iload_n hx hb hd rfl (lv_at hl k0 hk0) (kk H locs ls k n hz hm hS hl hk hn)
theorem vw_iload (hX : CX C cc own nL ret hh d) {i : Nat} (k0 : Nat) {x : Int32} (hd : decode cc pc = .ok (.iload i, 2)) (hk0 : L[k0]? = some (i, .int x)) (kk : VW C (pc + 2) L (.int x :: st) w z mc ms) : VW C pc L (st) w z mc ms := by
  obtain ⟨g, ⟨nL', MC, MS⟩, p, l, e, R, s, m, args, below, meth, c, Qf⟩ := C
  obtain ⟨hx, hb, hml, hnl, hown, hts, hAm, hst, hlk, hr, htab, hR1, hR2, hR3, hR4⟩ := hX
  intro H locs ls k n hz hm hS hl hk hn
  exact lv_iload hx hb hd (lv_at hl k0 hk0) (kk H locs ls k n hz hm hS hl hk hn)
theorem vw_aload_n (hX : CX C cc own nL ret hh d) {i : Fin 4} (k0 : Nat) {x : Nat} (hd : decode cc pc = .ok (.aload_n i, 1)) (hk0 : L[k0]? = some ((i : Nat), .ref x)) (kk : VW C (pc + 1) L (.ref x :: st) w z mc ms) : VW C pc L (st) w z mc ms := by
  obtain ⟨g, ⟨nL', MC, MS⟩, p, l, e, R, s, m, args, below, meth, c, Qf⟩ := C
  obtain ⟨hx, hb, hml, hnl, hown, hts, hAm, hst, hlk, hr, htab, hR1, hR2, hR3, hR4⟩ := hX
  intro H locs ls k n hz hm hS hl hk hn
  exact lv_aload_n hx hb hd rfl (lv_at hl k0 hk0) (kk H locs ls k n hz hm hS hl hk hn)
theorem vw_aload (hX : CX C cc own nL ret hh d) {i : Nat} (k0 : Nat) {x : Nat} (hd : decode cc pc = .ok (.aload i, 2)) (hk0 : L[k0]? = some (i, .ref x)) (kk : VW C (pc + 2) L (.ref x :: st) w z mc ms) : VW C pc L (st) w z mc ms := by
  obtain ⟨g, ⟨nL', MC, MS⟩, p, l, e, R, s, m, args, below, meth, c, Qf⟩ := C
  obtain ⟨hx, hb, hml, hnl, hown, hts, hAm, hst, hlk, hr, htab, hR1, hR2, hR3, hR4⟩ := hX
  intro H locs ls k n hz hm hS hl hk hn
  exact lv_aload hx hb hd (lv_at hl k0 hk0) (kk H locs ls k n hz hm hS hl hk hn)
theorem vw_dload_n (hX : CX C cc own nL ret hh d) {i : Fin 4} (k0 : Nat) {x : UInt64} (hd : decode cc pc = .ok (.dload_n i, 1)) (hk0 : L[k0]? = some ((i : Nat), .double x)) (kk : VW C (pc + 1) L (.double x :: st) w z mc ms) : VW C pc L (st) w z mc ms := by
  obtain ⟨g, ⟨nL', MC, MS⟩, p, l, e, R, s, m, args, below, meth, c, Qf⟩ := C
  obtain ⟨hx, hb, hml, hnl, hown, hts, hAm, hst, hlk, hr, htab, hR1, hR2, hR3, hR4⟩ := hX
  intro H locs ls k n hz hm hS hl hk hn
  exact lv_dload_n hx hb hd rfl (lv_at hl k0 hk0) (kk H locs ls k n hz hm hS hl hk hn)
theorem vw_dload (hX : CX C cc own nL ret hh d) {i : Nat} (k0 : Nat) {x : UInt64} (hd : decode cc pc = .ok (.dload i, 2)) (hk0 : L[k0]? = some (i, .double x)) (kk : VW C (pc + 2) L (.double x :: st) w z mc ms) : VW C pc L (st) w z mc ms := by
  obtain ⟨g, ⟨nL', MC, MS⟩, p, l, e, R, s, m, args, below, meth, c, Qf⟩ := C
  obtain ⟨hx, hb, hml, hnl, hown, hts, hAm, hst, hlk, hr, htab, hR1, hR2, hR3, hR4⟩ := hX
  intro H locs ls k n hz hm hS hl hk hn
  exact lv_dload hx hb hd (lv_at hl k0 hk0) (kk H locs ls k n hz hm hS hl hk hn)
theorem vw_iadd (hX : CX C cc own nL ret hh d) {x y : Int32} (hd : decode cc pc = .ok (.iadd, 1)) (kk : VW C (pc + 1) L (.int (x + y) :: st) w z mc ms) : VW C pc L (.int y :: .int x :: st) w z mc ms := by
  obtain ⟨g, ⟨nL', MC, MS⟩, p, l, e, R, s, m, args, below, meth, c, Qf⟩ := C
  obtain ⟨hx, hb, hml, hnl, hown, hts, hAm, hst, hlk, hr, htab, hR1, hR2, hR3, hR4⟩ := hX
  intro H locs ls k n hz hm hS hl hk hn
  exact lv_iadd hx hb hd (kk H locs ls k n hz hm hS hl hk hn)
theorem vw_isub (hX : CX C cc own nL ret hh d) {x y : Int32} (hd : decode cc pc = .ok (.isub, 1)) (kk : VW C (pc + 1) L (.int (x - y) :: st) w z mc ms) : VW C pc L (.int y :: .int x :: st) w z mc ms := by
  obtain ⟨g, ⟨nL', MC, MS⟩, p, l, e, R, s, m, args, below, meth, c, Qf⟩ := C
  obtain ⟨hx, hb, hml, hnl, hown, hts, hAm, hst, hlk, hr, htab, hR1, hR2, hR3, hR4⟩ := hX
  intro H locs ls k n hz hm hS hl hk hn
  exact lv_isub hx hb hd (kk H locs ls k n hz hm hS hl hk hn)
theorem vw_imul (hX : CX C cc own nL ret hh d) {x y : Int32} (hd : decode cc pc = .ok (.imul, 1)) (kk : VW C (pc + 1) L (.int (x * y) :: st) w z mc ms) : VW C pc L (.int y :: .int x :: st) w z mc ms := by
  obtain ⟨g, ⟨nL', MC, MS⟩, p, l, e, R, s, m, args, below, meth, c, Qf⟩ := C
  obtain ⟨hx, hb, hml, hnl, hown, hts, hAm, hst, hlk, hr, htab, hR1, hR2, hR3, hR4⟩ := hX
  intro H locs ls k n hz hm hS hl hk hn
  exact lv_imul hx hb hd (kk H locs ls k n hz hm hS hl hk hn)
theorem vw_iand (hX : CX C cc own nL ret hh d) {x y : Int32} (hd : decode cc pc = .ok (.iand, 1)) (kk : VW C (pc + 1) L (.int (x &&& y) :: st) w z mc ms) : VW C pc L (.int y :: .int x :: st) w z mc ms := by
  obtain ⟨g, ⟨nL', MC, MS⟩, p, l, e, R, s, m, args, below, meth, c, Qf⟩ := C
  obtain ⟨hx, hb, hml, hnl, hown, hts, hAm, hst, hlk, hr, htab, hR1, hR2, hR3, hR4⟩ := hX
  intro H locs ls k n hz hm hS hl hk hn
  exact lv_iand hx hb hd (kk H locs ls k n hz hm hS hl hk hn)
theorem vw_ior (hX : CX C cc own nL ret hh d) {x y : Int32} (hd : decode cc pc = .ok (.ior, 1)) (kk : VW C (pc + 1) L (.int (x ||| y) :: st) w z mc ms) : VW C pc L (.int y :: .int x :: st) w z mc ms := by
  obtain ⟨g, ⟨nL', MC, MS⟩, p, l, e, R, s, m, args, below, meth, c, Qf⟩ := C
  obtain ⟨hx, hb, hml, hnl, hown, hts, hAm, hst, hlk, hr, htab, hR1, hR2, hR3, hR4⟩ := hX
  intro H locs ls k n hz hm hS hl hk hn
  exact lv_ior hx hb hd (kk H locs ls k n hz hm hS hl hk hn)
theorem vw_ixor (hX : CX C cc own nL ret hh d) {x y : Int32} (hd : decode cc pc = .ok (.ixor, 1)) (kk : VW C (pc + 1) L (.int (x ^^^ y) :: st) w z mc ms) : VW C pc L (.int y :: .int x :: st) w z mc ms := by
  obtain ⟨g, ⟨nL', MC, MS⟩, p, l, e, R, s, m, args, below, meth, c, Qf⟩ := C
  obtain ⟨hx, hb, hml, hnl, hown, hts, hAm, hst, hlk, hr, htab, hR1, hR2, hR3, hR4⟩ := hX
  intro H locs ls k n hz hm hS hl hk hn
  exact lv_ixor hx hb hd (kk H locs ls k n hz hm hS hl hk hn)
theorem vw_idiv (hX : CX C cc own nL ret hh d) {x y : Int32} (hd : decode cc pc = .ok (.idiv, 1)) (hy : ¬ y = 0) (kk : VW C (pc + 1) L (.int (x / y) :: st) w z mc ms) : VW C pc L (.int y :: .int x :: st) w z mc ms := by
  obtain ⟨g, ⟨nL', MC, MS⟩, p, l, e, R, s, m, args, below, meth, c, Qf⟩ := C
  obtain ⟨hx, hb, hml, hnl, hown, hts, hAm, hst, hlk, hr, htab, hR1, hR2, hR3, hR4⟩ := hX
  intro H locs ls k n hz hm hS hl hk hn
  exact lv_idiv hx hb hd hy (kk H locs ls k n hz hm hS hl hk hn)
theorem vw_irem (hX : CX C cc own nL ret hh d) {x y : Int32} (hd : decode cc pc = .ok (.irem, 1)) (hy : ¬ y = 0) (kk : VW C (pc + 1) L (.int (x - x / y * y) :: st) w z mc ms) : VW C pc L (.int y :: .int x :: st) w z mc ms := by
  obtain ⟨g, ⟨nL', MC, MS⟩, p, l, e, R, s, m, args, below, meth, c, Qf⟩ := C
  obtain ⟨hx, hb, hml, hnl, hown, hts, hAm, hst, hlk, hr, htab, hR1, hR2, hR3, hR4⟩ := hX
  intro H locs ls k n hz hm hS hl hk hn
  exact lv_irem hx hb hd hy (kk H locs ls k n hz hm hS hl hk hn)
theorem vw_ishl (hX : CX C cc own nL ret hh d) {x y : Int32} (hd : decode cc pc = .ok (.ishl, 1)) (kk : VW C (pc + 1) L (.int (x <<< (y &&& 31)) :: st) w z mc ms) : VW C pc L (.int y :: .int x :: st) w z mc ms := by
  obtain ⟨g, ⟨nL', MC, MS⟩, p, l, e, R, s, m, args, below, meth, c, Qf⟩ := C
  obtain ⟨hx, hb, hml, hnl, hown, hts, hAm, hst, hlk, hr, htab, hR1, hR2, hR3, hR4⟩ := hX
  intro H locs ls k n hz hm hS hl hk hn
  exact lv_ishl hx hb hd (kk H locs ls k n hz hm hS hl hk hn)
theorem vw_ishr (hX : CX C cc own nL ret hh d) {x y : Int32} (hd : decode cc pc = .ok (.ishr, 1)) (kk : VW C (pc + 1) L (.int (x >>> (y &&& 31)) :: st) w z mc ms) : VW C pc L (.int y :: .int x :: st) w z mc ms := by
  obtain ⟨g, ⟨nL', MC, MS⟩, p, l, e, R, s, m, args, below, meth, c, Qf⟩ := C
  obtain ⟨hx, hb, hml, hnl, hown, hts, hAm, hst, hlk, hr, htab, hR1, hR2, hR3, hR4⟩ := hX
  intro H locs ls k n hz hm hS hl hk hn
  exact lv_ishr hx hb hd (kk H locs ls k n hz hm hS hl hk hn)
theorem vw_iushr (hX : CX C cc own nL ret hh d) {x y : Int32} (hd : decode cc pc = .ok (.iushr, 1)) (kk : VW C (pc + 1) L (.int ((x.toUInt32 >>> (y.toUInt32 &&& Int32.toUInt32 31)).toInt32) :: st) w z mc ms) : VW C pc L (.int y :: .int x :: st) w z mc ms := by
  obtain ⟨g, ⟨nL', MC, MS⟩, p, l, e, R, s, m, args, below, meth, c, Qf⟩ := C
  obtain ⟨hx, hb, hml, hnl, hown, hts, hAm, hst, hlk, hr, htab, hR1, hR2, hR3, hR4⟩ := hX
  intro H locs ls k n hz hm hS hl hk hn
  exact lv_iushr hx hb hd rfl (kk H locs ls k n hz hm hS hl hk hn)
theorem vw_ineg (hX : CX C cc own nL ret hh d) {x : Int32} (hd : decode cc pc = .ok (.ineg, 1)) (kk : VW C (pc + 1) L (.int (-x) :: st) w z mc ms) : VW C pc L (.int x :: st) w z mc ms := by
  obtain ⟨g, ⟨nL', MC, MS⟩, p, l, e, R, s, m, args, below, meth, c, Qf⟩ := C
  obtain ⟨hx, hb, hml, hnl, hown, hts, hAm, hst, hlk, hr, htab, hR1, hR2, hR3, hR4⟩ := hX
  intro H locs ls k n hz hm hS hl hk hn
  exact lv_ineg hx hb hd (kk H locs ls k n hz hm hS hl hk hn)
theorem vw_i2l (hX : CX C cc own nL ret hh d) {x : Int32} (hd : decode cc pc = .ok (.i2l, 1)) (kk : VW C (pc + 1) L (.long x.toInt64 :: st) w z mc ms) : VW C pc L (.int x :: st) w z mc ms := by
  obtain ⟨g, ⟨nL', MC, MS⟩, p, l, e, R, s, m, args, below, meth, c, Qf⟩ := C
  obtain ⟨hx, hb, hml, hnl, hown, hts, hAm, hst, hlk, hr, htab, hR1, hR2, hR3, hR4⟩ := hX
  intro H locs ls k n hz hm hS hl hk hn
  exact lv_i2l hx hb hd rfl (kk H locs ls k n hz hm hS hl hk hn)
theorem vw_i2b (hX : CX C cc own nL ret hh d) {x : Int32} (hd : decode cc pc = .ok (.i2b, 1)) (kk : VW C (pc + 1) L (.int x.toInt8.toInt32 :: st) w z mc ms) : VW C pc L (.int x :: st) w z mc ms := by
  obtain ⟨g, ⟨nL', MC, MS⟩, p, l, e, R, s, m, args, below, meth, c, Qf⟩ := C
  obtain ⟨hx, hb, hml, hnl, hown, hts, hAm, hst, hlk, hr, htab, hR1, hR2, hR3, hR4⟩ := hX
  intro H locs ls k n hz hm hS hl hk hn
  exact lv_i2b hx hb hd rfl (kk H locs ls k n hz hm hS hl hk hn)
theorem vw_i2c (hX : CX C cc own nL ret hh d) {x : Int32} (hd : decode cc pc = .ok (.i2c, 1)) (kk : VW C (pc + 1) L (.int (x.toUInt32 % 65536).toInt32 :: st) w z mc ms) : VW C pc L (.int x :: st) w z mc ms := by
  obtain ⟨g, ⟨nL', MC, MS⟩, p, l, e, R, s, m, args, below, meth, c, Qf⟩ := C
  obtain ⟨hx, hb, hml, hnl, hown, hts, hAm, hst, hlk, hr, htab, hR1, hR2, hR3, hR4⟩ := hX
  intro H locs ls k n hz hm hS hl hk hn
  exact lv_i2c hx hb hd rfl (kk H locs ls k n hz hm hS hl hk hn)
theorem vw_dup (hX : CX C cc own nL ret hh d) {v : Value} (hd : decode cc pc = .ok (.dup, 1)) (hc : v.category = 1) (kk : VW C (pc + 1) L (v :: v :: st) w z mc ms) : VW C pc L (v :: st) w z mc ms := by
  obtain ⟨g, ⟨nL', MC, MS⟩, p, l, e, R, s, m, args, below, meth, c, Qf⟩ := C
  obtain ⟨hx, hb, hml, hnl, hown, hts, hAm, hst, hlk, hr, htab, hR1, hR2, hR3, hR4⟩ := hX
  intro H locs ls k n hz hm hS hl hk hn
  exact lv_dup hx hb hd hc (kk H locs ls k n hz hm hS hl hk hn)
theorem vw_pop (hX : CX C cc own nL ret hh d) {v : Value} (hd : decode cc pc = .ok (.pop, 1)) (hc : v.category = 1) (kk : VW C (pc + 1) L (st) w z mc ms) : VW C pc L (v :: st) w z mc ms := by
  obtain ⟨g, ⟨nL', MC, MS⟩, p, l, e, R, s, m, args, below, meth, c, Qf⟩ := C
  obtain ⟨hx, hb, hml, hnl, hown, hts, hAm, hst, hlk, hr, htab, hR1, hR2, hR3, hR4⟩ := hX
  intro H locs ls k n hz hm hS hl hk hn
  exact lv_pop hx hb hd hc (kk H locs ls k n hz hm hS hl hk hn)
theorem vw_dup_x1 (hX : CX C cc own nL ret hh d) {v u : Value} (hd : decode cc pc = .ok (.dup_x1, 1)) (hc : v.category = 1) (hc2 : u.category = 1) (kk : VW C (pc + 1) L (v :: u :: v :: st) w z mc ms) : VW C pc L (v :: u :: st) w z mc ms := by
  obtain ⟨g, ⟨nL', MC, MS⟩, p, l, e, R, s, m, args, below, meth, c, Qf⟩ := C
  obtain ⟨hx, hb, hml, hnl, hown, hts, hAm, hst, hlk, hr, htab, hR1, hR2, hR3, hR4⟩ := hX
  intro H locs ls k n hz hm hS hl hk hn
  exact lv_dup_x1 hx hb hd hc hc2 (kk H locs ls k n hz hm hS hl hk hn)
theorem vw_dup2 (hX : CX C cc own nL ret hh d) {v u : Value} (hd : decode cc pc = .ok (.dup2, 1)) (hc : v.category = 1) (hc2 : u.category = 1) (kk : VW C (pc + 1) L (v :: u :: v :: u :: st) w z mc ms) : VW C pc L (v :: u :: st) w z mc ms := by
  obtain ⟨g, ⟨nL', MC, MS⟩, p, l, e, R, s, m, args, below, meth, c, Qf⟩ := C
  obtain ⟨hx, hb, hml, hnl, hown, hts, hAm, hst, hlk, hr, htab, hR1, hR2, hR3, hR4⟩ := hX
  intro H locs ls k n hz hm hS hl hk hn
  exact lv_dup2_11 hx hb hd hc hc2 (kk H locs ls k n hz hm hS hl hk hn)
theorem vw_istore_n (hX : CX C cc own nL ret hh d) {i : Fin 4} {x : Int32} {L' : List (Nat × Value)} (hd : decode cc pc = .ok (.istore_n i, 1)) (hi : (i : Nat) < nL) (hL : ((i : Nat), Value.int x) :: L.filter (fun q => !(q.1 == (i : Nat)) && !(q.1 + 1 == (i : Nat) && q.2.category == 2)) = L') (kk : VW C (pc + 1) L' st w z mc ms) : VW C pc L (.int x :: st) w z mc ms := by
  obtain ⟨g, ⟨nL', MC, MS⟩, p, l, e, R, s, m, args, below, meth, c, Qf⟩ := C
  obtain ⟨hx, hb, hml, hnl, hown, hts, hAm, hst, hlk, hr, htab, hR1, hR2, hR3, hR4⟩ := hX
  intro H locs ls k n hz hm hS hl hk hn
  subst hnl
  exact lv_istore_n hx hb hd rfl hl hi hL (fun ls' hl' => kk H locs ls' k n hz hm hS hl' hk hn)
theorem vw_istore (hX : CX C cc own nL ret hh d) {i : Nat} {x : Int32} {L' : List (Nat × Value)} (hd : decode cc pc = .ok (.istore i, 2)) (hi : i < nL) (hL : (i, Value.int x) :: L.filter (fun q => !(q.1 == i) && !(q.1 + 1 == i && q.2.category == 2)) = L') (kk : VW C (pc + 2) L' st w z mc ms) : VW C pc L (.int x :: st) w z mc ms := by
  obtain ⟨g, ⟨nL', MC, MS⟩, p, l, e, R, s, m, args, below, meth, c, Qf⟩ := C
  obtain ⟨hx, hb, hml, hnl, hown, hts, hAm, hst, hlk, hr, htab, hR1, hR2, hR3, hR4⟩ := hX
  intro H locs ls k n hz hm hS hl hk hn
  subst hnl
  exact lv_istore hx hb hd hl hi hL (fun ls' hl' => kk H locs ls' k n hz hm hS hl' hk hn)
theorem vw_astore_n (hX : CX C cc own nL ret hh d) {i : Fin 4} {x : Nat} {L' : List (Nat × Value)} (hd : decode cc pc = .ok (.astore_n i, 1)) (hi : (i : Nat) < nL) (hL : ((i : Nat), Value.ref x) :: L.filter (fun q => !(q.1 == (i : Nat)) && !(q.1 + 1 == (i : Nat) && q.2.category == 2)) = L') (kk : VW C (pc + 1) L' st w z mc ms) : VW C pc L (.ref x :: st) w z mc ms := by
  obtain ⟨g, ⟨nL', MC, MS⟩, p, l, e, R, s, m, args, below, meth, c, Qf⟩ := C
  obtain ⟨hx, hb, hml, hnl, hown, hts, hAm, hst, hlk, hr, htab, hR1, hR2, hR3, hR4⟩ := hX
  intro H locs ls k n hz hm hS hl hk hn
  subst hnl
  exact lv_astore_n hx hb hd rfl hl hi hL (fun ls' hl' => kk H locs ls' k n hz hm hS hl' hk hn)
theorem vw_astore (hX : CX C cc own nL ret hh d) {i : Nat} {x : Nat} {L' : List (Nat × Value)} (hd : decode cc pc = .ok (.astore i, 2)) (hi : i < nL) (hL : (i, Value.ref x) :: L.filter (fun q => !(q.1 == i) && !(q.1 + 1 == i && q.2.category == 2)) = L') (kk : VW C (pc + 2) L' st w z mc ms) : VW C pc L (.ref x :: st) w z mc ms := by
  obtain ⟨g, ⟨nL', MC, MS⟩, p, l, e, R, s, m, args, below, meth, c, Qf⟩ := C
  obtain ⟨hx, hb, hml, hnl, hown, hts, hAm, hst, hlk, hr, htab, hR1, hR2, hR3, hR4⟩ := hX
  intro H locs ls k n hz hm hS hl hk hn
  subst hnl
  exact lv_astore hx hb hd hl hi hL (fun ls' hl' => kk H locs ls' k n hz hm hS hl' hk hn)
theorem vw_dstore_n (hX : CX C cc own nL ret hh d) {i : Fin 4} {x : UInt64} {L' : List (Nat × Value)} (hd : decode cc pc = .ok (.dstore_n i, 1)) (hi : (i : Nat) + 1 < nL) (hL : ((i : Nat), Value.double x) :: L.filter (fun q => !(q.1 == (i : Nat)) && (!(q.1 == (i : Nat) + 1) && !(q.1 + 1 == (i : Nat) && q.2.category == 2))) = L') (kk : VW C (pc + 1) L' st w z mc ms) : VW C pc L (.double x :: st) w z mc ms := by
  obtain ⟨g, ⟨nL', MC, MS⟩, p, l, e, R, s, m, args, below, meth, c, Qf⟩ := C
  obtain ⟨hx, hb, hml, hnl, hown, hts, hAm, hst, hlk, hr, htab, hR1, hR2, hR3, hR4⟩ := hX
  intro H locs ls k n hz hm hS hl hk hn
  subst hnl
  exact lv_dstore_n hx hb hd rfl hl hi hL (fun ls' hl' => kk H locs ls' k n hz hm hS hl' hk hn)
theorem vw_dstore (hX : CX C cc own nL ret hh d) {i : Nat} {x : UInt64} {L' : List (Nat × Value)} (hd : decode cc pc = .ok (.dstore i, 2)) (hi : i + 1 < nL) (hL : (i, Value.double x) :: L.filter (fun q => !(q.1 == i) && (!(q.1 == i + 1) && !(q.1 + 1 == i && q.2.category == 2))) = L') (kk : VW C (pc + 2) L' st w z mc ms) : VW C pc L (.double x :: st) w z mc ms := by
  obtain ⟨g, ⟨nL', MC, MS⟩, p, l, e, R, s, m, args, below, meth, c, Qf⟩ := C
  obtain ⟨hx, hb, hml, hnl, hown, hts, hAm, hst, hlk, hr, htab, hR1, hR2, hR3, hR4⟩ := hX
  intro H locs ls k n hz hm hS hl hk hn
  subst hnl
  exact lv_dstore hx hb hd hl hi hL (fun ls' hl' => kk H locs ls' k n hz hm hS hl' hk hn)
theorem vw_iinc (hX : CX C cc own nL ret hh d) {i : Nat} (k0 : Nat) {j : Int} {x v : Int32} {L' : List (Nat × Value)} (hd : decode cc pc = .ok (.iinc i j, 3)) (hk0 : L[k0]? = some (i, .int x)) (hv : x + Int32.ofInt j = v) (hi : i < nL) (hL : (i, Value.int v) :: L.filter (fun q => !(q.1 == i) && !(q.1 + 1 == i && q.2.category == 2)) = L') (kk : VW C (pc + 3) L' st w z mc ms) : VW C pc L st w z mc ms := by
  obtain ⟨g, ⟨nL', MC, MS⟩, p, l, e, R, s, m, args, below, meth, c, Qf⟩ := C
  obtain ⟨hx, hb, hml, hnl, hown, hts, hAm, hst, hlk, hr, htab, hR1, hR2, hR3, hR4⟩ := hX
  intro H locs ls k n hz hm hS hl hk hn
  subst hnl
  exact lv_iinc hx hb hd hl hk0 hv hi hL (fun ls' hl' => kk H locs ls' k n hz hm hS hl' hk hn)
theorem vw_if_eq (hX : CX C cc own nL ret hh d) {x : Int32} {off : Int} {tgt : Nat} (hd : decode cc pc = .ok (.ifCond .eq off, 3)) (ht : (pc : Int) + off = (tgt : Int)) (kt : x = 0 → VW C tgt L st w z mc ms) (kf : ¬ x = 0 → VW C (pc + 3) L st w z mc ms) : VW C pc L (.int x :: st) w z mc ms := by
  obtain ⟨g, ⟨nL', MC, MS⟩, p, l, e, R, s, m, args, below, meth, c, Qf⟩ := C
  obtain ⟨hx, hb, hml, hnl, hown, hts, hAm, hst, hlk, hr, htab, hR1, hR2, hR3, hR4⟩ := hX
  intro H locs ls k n hz hm hS hl hk hn
  exact lv_if_eq hx hb hd ht (fun q => kt q H locs ls k n hz hm hS hl hk hn) (fun q => kf q H locs ls k n hz hm hS hl hk hn)
theorem vw_icmp_eq (hX : CX C cc own nL ret hh d) {x y : Int32} {off : Int} {tgt : Nat} (hd : decode cc pc = .ok (.if_icmp .eq off, 3)) (ht : (pc : Int) + off = (tgt : Int)) (kt : x = y → VW C tgt L st w z mc ms) (kf : ¬ x = y → VW C (pc + 3) L st w z mc ms) : VW C pc L (.int y :: .int x :: st) w z mc ms := by
  obtain ⟨g, ⟨nL', MC, MS⟩, p, l, e, R, s, m, args, below, meth, c, Qf⟩ := C
  obtain ⟨hx, hb, hml, hnl, hown, hts, hAm, hst, hlk, hr, htab, hR1, hR2, hR3, hR4⟩ := hX
  intro H locs ls k n hz hm hS hl hk hn
  exact lv_icmp_eq hx hb hd ht (fun q => kt q H locs ls k n hz hm hS hl hk hn) (fun q => kf q H locs ls k n hz hm hS hl hk hn)
theorem vw_if_ne (hX : CX C cc own nL ret hh d) {x : Int32} {off : Int} {tgt : Nat} (hd : decode cc pc = .ok (.ifCond .ne off, 3)) (ht : (pc : Int) + off = (tgt : Int)) (kt : ¬ x = 0 → VW C tgt L st w z mc ms) (kf : x = 0 → VW C (pc + 3) L st w z mc ms) : VW C pc L (.int x :: st) w z mc ms := by
  obtain ⟨g, ⟨nL', MC, MS⟩, p, l, e, R, s, m, args, below, meth, c, Qf⟩ := C
  obtain ⟨hx, hb, hml, hnl, hown, hts, hAm, hst, hlk, hr, htab, hR1, hR2, hR3, hR4⟩ := hX
  intro H locs ls k n hz hm hS hl hk hn
  exact lv_if_ne hx hb hd ht (fun q => kt q H locs ls k n hz hm hS hl hk hn) (fun q => kf q H locs ls k n hz hm hS hl hk hn)
theorem vw_icmp_ne (hX : CX C cc own nL ret hh d) {x y : Int32} {off : Int} {tgt : Nat} (hd : decode cc pc = .ok (.if_icmp .ne off, 3)) (ht : (pc : Int) + off = (tgt : Int)) (kt : ¬ x = y → VW C tgt L st w z mc ms) (kf : x = y → VW C (pc + 3) L st w z mc ms) : VW C pc L (.int y :: .int x :: st) w z mc ms := by
  obtain ⟨g, ⟨nL', MC, MS⟩, p, l, e, R, s, m, args, below, meth, c, Qf⟩ := C
  obtain ⟨hx, hb, hml, hnl, hown, hts, hAm, hst, hlk, hr, htab, hR1, hR2, hR3, hR4⟩ := hX
  intro H locs ls k n hz hm hS hl hk hn
  exact lv_icmp_ne hx hb hd ht (fun q => kt q H locs ls k n hz hm hS hl hk hn) (fun q => kf q H locs ls k n hz hm hS hl hk hn)
theorem vw_if_lt (hX : CX C cc own nL ret hh d) {x : Int32} {off : Int} {tgt : Nat} (hd : decode cc pc = .ok (.ifCond .lt off, 3)) (ht : (pc : Int) + off = (tgt : Int)) (kt : x < 0 → VW C tgt L st w z mc ms) (kf : ¬ x < 0 → VW C (pc + 3) L st w z mc ms) : VW C pc L (.int x :: st) w z mc ms := by
  obtain ⟨g, ⟨nL', MC, MS⟩, p, l, e, R, s, m, args, below, meth, c, Qf⟩ := C
  obtain ⟨hx, hb, hml, hnl, hown, hts, hAm, hst, hlk, hr, htab, hR1, hR2, hR3, hR4⟩ := hX
  intro H locs ls k n hz hm hS hl hk hn
  exact lv_if_lt hx hb hd ht (fun q => kt q H locs ls k n hz hm hS hl hk hn) (fun q => kf q H locs ls k n hz hm hS hl hk hn)
theorem vw_icmp_lt (hX : CX C cc own nL ret hh d) {x y : Int32} {off : Int} {tgt : Nat} (hd : decode cc pc = .ok (.if_icmp .lt off, 3)) (ht : (pc : Int) + off = (tgt : Int)) (kt : x < y → VW C tgt L st w z mc ms) (kf : ¬ x < y → VW C (pc + 3) L st w z mc ms) : VW C pc L (.int y :: .int x :: st) w z mc ms := by
  obtain ⟨g, ⟨nL', MC, MS⟩, p, l, e, R, s, m, args, below, meth, c, Qf⟩ := C
  obtain ⟨hx, hb, hml, hnl, hown, hts, hAm, hst, hlk, hr, htab, hR1, hR2, hR3, hR4⟩ := hX
  intro H locs ls k n hz hm hS hl hk hn
  exact lv_icmp_lt hx hb hd ht (fun q => kt q H locs ls k n hz hm hS hl hk hn) (fun q => kf q H locs ls k n hz hm hS hl hk hn)
theorem vw_if_ge (hX : CX C cc own nL ret hh d) {x : Int32} {off : Int} {tgt : Nat} (hd : decode cc pc = .ok (.ifCond .ge off, 3)) (ht : (pc : Int) + off = (tgt : Int)) (kt : 0 ≤ x → VW C tgt L st w z mc ms) (kf : ¬ 0 ≤ x → VW C (pc + 3) L st w z mc ms) : VW C pc L (.int x :: st) w z mc ms := by
  obtain ⟨g, ⟨nL', MC, MS⟩, p, l, e, R, s, m, args, below, meth, c, Qf⟩ := C
  obtain ⟨hx, hb, hml, hnl, hown, hts, hAm, hst, hlk, hr, htab, hR1, hR2, hR3, hR4⟩ := hX
  intro H locs ls k n hz hm hS hl hk hn
  exact lv_if_ge hx hb hd ht (fun q => kt q H locs ls k n hz hm hS hl hk hn) (fun q => kf q H locs ls k n hz hm hS hl hk hn)
theorem vw_icmp_ge (hX : CX C cc own nL ret hh d) {x y : Int32} {off : Int} {tgt : Nat} (hd : decode cc pc = .ok (.if_icmp .ge off, 3)) (ht : (pc : Int) + off = (tgt : Int)) (kt : y ≤ x → VW C tgt L st w z mc ms) (kf : ¬ y ≤ x → VW C (pc + 3) L st w z mc ms) : VW C pc L (.int y :: .int x :: st) w z mc ms := by
  obtain ⟨g, ⟨nL', MC, MS⟩, p, l, e, R, s, m, args, below, meth, c, Qf⟩ := C
  obtain ⟨hx, hb, hml, hnl, hown, hts, hAm, hst, hlk, hr, htab, hR1, hR2, hR3, hR4⟩ := hX
  intro H locs ls k n hz hm hS hl hk hn
  exact lv_icmp_ge hx hb hd ht (fun q => kt q H locs ls k n hz hm hS hl hk hn) (fun q => kf q H locs ls k n hz hm hS hl hk hn)
theorem vw_if_gt (hX : CX C cc own nL ret hh d) {x : Int32} {off : Int} {tgt : Nat} (hd : decode cc pc = .ok (.ifCond .gt off, 3)) (ht : (pc : Int) + off = (tgt : Int)) (kt : 0 < x → VW C tgt L st w z mc ms) (kf : ¬ 0 < x → VW C (pc + 3) L st w z mc ms) : VW C pc L (.int x :: st) w z mc ms := by
  obtain ⟨g, ⟨nL', MC, MS⟩, p, l, e, R, s, m, args, below, meth, c, Qf⟩ := C
  obtain ⟨hx, hb, hml, hnl, hown, hts, hAm, hst, hlk, hr, htab, hR1, hR2, hR3, hR4⟩ := hX
  intro H locs ls k n hz hm hS hl hk hn
  exact lv_if_gt hx hb hd ht (fun q => kt q H locs ls k n hz hm hS hl hk hn) (fun q => kf q H locs ls k n hz hm hS hl hk hn)
theorem vw_icmp_gt (hX : CX C cc own nL ret hh d) {x y : Int32} {off : Int} {tgt : Nat} (hd : decode cc pc = .ok (.if_icmp .gt off, 3)) (ht : (pc : Int) + off = (tgt : Int)) (kt : y < x → VW C tgt L st w z mc ms) (kf : ¬ y < x → VW C (pc + 3) L st w z mc ms) : VW C pc L (.int y :: .int x :: st) w z mc ms := by
  obtain ⟨g, ⟨nL', MC, MS⟩, p, l, e, R, s, m, args, below, meth, c, Qf⟩ := C
  obtain ⟨hx, hb, hml, hnl, hown, hts, hAm, hst, hlk, hr, htab, hR1, hR2, hR3, hR4⟩ := hX
  intro H locs ls k n hz hm hS hl hk hn
  exact lv_icmp_gt hx hb hd ht (fun q => kt q H locs ls k n hz hm hS hl hk hn) (fun q => kf q H locs ls k n hz hm hS hl hk hn)
theorem vw_if_le (hX : CX C cc own nL ret hh d) {x : Int32} {off : Int} {tgt : Nat} (hd : decode cc pc = .ok (.ifCond .le off, 3)) (ht : (pc : Int) + off = (tgt : Int)) (kt : x ≤ 0 → VW C tgt L st w z mc ms) (kf : ¬ x ≤ 0 → VW C (pc + 3) L st w z mc ms) : VW C pc L (.int x :: st) w z mc ms := by
  obtain ⟨g, ⟨nL', MC, MS⟩, p, l, e, R, s, m, args, below, meth, c, Qf⟩ := C
  obtain ⟨hx, hb, hml, hnl, hown, hts, hAm, hst, hlk, hr, htab, hR1, hR2, hR3, hR4⟩ := hX
  intro H locs ls k n hz hm hS hl hk hn
  exact lv_if_le hx hb hd ht (fun q => kt q H locs ls k n hz hm hS hl hk hn) (fun q => kf q H locs ls k n hz hm hS hl hk hn)
theorem vw_icmp_le (hX : CX C cc own nL ret hh d) {x y : Int32} {off : Int} {tgt : Nat} (hd : decode cc pc = .ok (.if_icmp .le off, 3)) (ht : (pc : Int) + off = (tgt : Int)) (kt : x ≤ y → VW C tgt L st w z mc ms) (kf : ¬ x ≤ y → VW C (pc + 3) L st w z mc ms) : VW C pc L (.int y :: .int x :: st) w z mc ms := by
  obtain ⟨g, ⟨nL', MC, MS⟩, p, l, e, R, s, m, args, below, meth, c, Qf⟩ := C
  obtain ⟨hx, hb, hml, hnl, hown, hts, hAm, hst, hlk, hr, htab, hR1, hR2, hR3, hR4⟩ := hX
  intro H locs ls k n hz hm hS hl hk hn
  exact lv_icmp_le hx hb hd ht (fun q => kt q H locs ls k n hz hm hS hl hk hn) (fun q => kf q H locs ls k n hz hm hS hl hk hn)
theorem vw_goto (hX : CX C cc own nL ret hh d) {off : Int} {tgt : Nat} (hd : decode cc pc = .ok (.goto off, 3)) (ht : (pc : Int) + off = (tgt : Int)) (kk : VW C tgt L st w z mc ms) : VW C pc L st w z mc ms := by
  obtain ⟨g, ⟨nL', MC, MS⟩, p, l, e, R, s, m, args, below, meth, c, Qf⟩ := C
  obtain ⟨hx, hb, hml, hnl, hown, hts, hAm, hst, hlk, hr, htab, hR1, hR2, hR3, hR4⟩ := hX
  intro H locs ls k n hz hm hS hl hk hn
  exact lv_goto hx hb hd ht (kk H locs ls k n hz hm hS hl hk hn)
theorem vw_ifnonnull (hX : CX C cc own nL ret hh d) {off : Int} {x tgt : Nat} (hd : decode cc pc = .ok (.ifnonnull off, 3)) (ht : (pc : Int) + off = (tgt : Int)) (kk : VW C tgt L st w z mc ms) : VW C pc L (.ref x :: st) w z mc ms := by
  obtain ⟨g, ⟨nL', MC, MS⟩, p, l, e, R, s, m, args, below, meth, c, Qf⟩ := C
  obtain ⟨hx, hb, hml, hnl, hown, hts, hAm, hst, hlk, hr, htab, hR1, hR2, hR3, hR4⟩ := hX
  intro H locs ls k n hz hm hS hl hk hn
  exact lv_ifnonnull hx hb hd ht (kk H locs ls k n hz hm hS hl hk hn)
theorem vw_sub {L' : List (Nat × Value)} (ks : List Nat) (hL : lv_pick L ks = L') (kk : VW C pc L' st w z mc ms) : VW C pc L st w z mc ms := by
  obtain ⟨g, ⟨nL', MC, MS⟩, p, l, e, R, s, m, args, below, meth, c, Qf⟩ := C
  intro H locs ls k n hz hm hS hl hk hn
  exact kk H locs ls k n hz hm hS (lv_sub hl ks hL) hk hn
theorem vw_less {mc' ms' : Nat} (h1 : mc' ≤ mc) (h2 : ms' ≤ ms) (kk : VW C pc L st w z mc' ms') : VW C pc L st w z mc ms := by
  obtain ⟨g, ⟨nL', MC, MS⟩, p, l, e, R, s, m, args, below, meth, c, Qf⟩ := C
  intro H locs ls k n hz hm hS hl hk hn
  exact kk H locs ls k n hz hm hS hl (by omega) (by omega)
theorem vw_ldcI (hX : CX C cc own nL ret hh d) {i : Nat} {v : Int32} (hw : Cond.constant own i v ∈ GW) (hd : decode cc pc = .ok (.ldc i, 2)) (kk : VW C (pc + 2) L (.int v :: st) w z mc ms) : VW C pc L st w z mc ms := by
  obtain ⟨g, ⟨nL', MC, MS⟩, p, l, e, R, s, m, args, below, meth, c, Qf⟩ := C
  obtain ⟨hx, hb, hml, hnl, hown, hts, hAm, hst, hlk, hr, htab, hR1, hR2, hR3, hR4⟩ := hX
  intro H locs ls k n hz hm hS hl hk hn
  exact lv_ldc hx hb hown (hts _ hw) hd (kk H locs ls k n hz hm hS hl hk hn)
theorem vw_ldcwI (hX : CX C cc own nL ret hh d) {i : Nat} {v : Int32} (hw : Cond.constant own i v ∈ GW) (hd : decode cc pc = .ok (.ldc_w i, 3)) (kk : VW C (pc + 3) L (.int v :: st) w z mc ms) : VW C pc L st w z mc ms := by
  obtain ⟨g, ⟨nL', MC, MS⟩, p, l, e, R, s, m, args, below, meth, c, Qf⟩ := C
  obtain ⟨hx, hb, hml, hnl, hown, hts, hAm, hst, hlk, hr, htab, hR1, hR2, hR3, hR4⟩ := hX
  intro H locs ls k n hz hm hS hl hk hn
  exact lv_ldcw hx hb hown (hts _ hw) hd (kk H locs ls k n hz hm hS hl hk hn)
theorem vw_ldcS (hX : CX C cc own nL ret hh d) {i li : Nat} {tx : String} {t : List Int32} (hw : (own, i, tx, li) ∈ ambR) (ht : lits[li]? = some t) (hd : decode cc pc = .ok (.ldc i, 2)) (kk : ∀ q : Nat, isLit w q t → VW C (pc + 2) L (.ref q :: st) w z mc ms) : VW C pc L st w z mc ms := by
  obtain ⟨g, ⟨nL', MC, MS⟩, p, l, e, R, s, m, args, below, meth, c, Qf⟩ := C
  obtain ⟨hx, hb, hml, hnl, hown, hts, hAm, hst, hlk, hr, htab, hR1, hR2, hR3, hR4⟩ := hX
  intro H locs ls k n hz hm hS hl hk hn
  exact va_ldcS hx hb hown (hAm.2.2.2.2.2.2.2.1 _ hw) hd (kk _ (hm.2.1 li t ht) H locs ls k n hz hm hS hl hk hn)
end ROWS
