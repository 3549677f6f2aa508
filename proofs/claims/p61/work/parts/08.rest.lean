section NROWS
variable {C : Cx} {cc : ByteArray} {own : String} {nL d : Nat} {ret : Option FieldType} {hh : List (Nat × Nat × Nat × Nat)} {pc : Nat} {L : List (Nat × Value)} {st : List Value} {w : Mm} {z mc ms : Nat}
theorem vw_lcmp (hX : CX C cc own nL ret hh d) {x y : Int64} (hd : decode cc pc = .ok (.lcmp, 1)) (kk : VW C (pc + 1) L (.int (lg_cmp x y) :: st) w z mc ms) : VW C pc L (.long y :: .long x :: st) w z mc ms := by
  obtain ⟨g, ⟨nL', MC, MS⟩, p, l, e, R, s, m, args, below, meth, c, Qf⟩ := C
  obtain ⟨hx, hb, hml, hnl, hown, hts, hAm, hst9, hlk, hr9, htab, hR1, hR2, hR3, hR4⟩ := hX
  intro H locs ls k n' hz hm hS hl hk hn'
  exact W.lcmp hx hb hd (kk H locs ls k n' hz hm hS hl hk hn')
theorem vw_swOut (hX : CX C cc own nL ret hh d) {dflt lo hi : Int} {offs : Array Int} {len tgt : Nat} {x : Int32} (hd : decode cc pc = .ok (.tableswitch dflt lo hi offs, len)) (h : x.toInt < lo ∨ hi < x.toInt) (ht : (pc : Int) + dflt = (tgt : Int)) (kk : VW C tgt L st w z mc ms) : VW C pc L (.int x :: st) w z mc ms := by
  obtain ⟨g, ⟨nL', MC, MS⟩, p, l, e, R, s, m, args, below, meth, c, Qf⟩ := C
  obtain ⟨hx, hb, hml, hnl, hown, hts, hAm, hst9, hlk, hr9, htab, hR1, hR2, hR3, hR4⟩ := hX
  intro H locs ls k n' hz hm hS hl hk hn'
  exact lv_tableOut hx hb hd h ht (kk H locs ls k n' hz hm hS hl hk hn')
theorem vw_swIn (hX : CX C cc own nL ret hh d) {dflt lo hi off : Int} {offs : Array Int} {len tgt : Nat} {x : Int32} (hd : decode cc pc = .ok (.tableswitch dflt lo hi offs, len)) (h1 : ¬ x.toInt < lo) (h2 : ¬ hi < x.toInt) (ho : offs[(x.toInt - lo).toNat]? = some off) (ht : (pc : Int) + off = (tgt : Int)) (kk : VW C tgt L st w z mc ms) : VW C pc L (.int x :: st) w z mc ms := by
  obtain ⟨g, ⟨nL', MC, MS⟩, p, l, e, R, s, m, args, below, meth, c, Qf⟩ := C
  obtain ⟨hx, hb, hml, hnl, hown, hts, hAm, hst9, hlk, hr9, htab, hR1, hR2, hR3, hR4⟩ := hX
  intro H locs ls k n' hz hm hS hl hk hn'
  exact lv_tableIn hx hb hd h1 h2 ho ht (kk H locs ls k n' hz hm hS hl hk hn')
/-! Math -/
def jmax (x y : Int32) : Int32 := if x < y then y else x
def jmin (x y : Int32) : Int32 := if y < x then y else x
def jabs (x : Int32) : Int32 := if 0 ≤ x then x else 0 - x
theorem mt_max : Cond.static Lib.Math.max.name ∈ GW ∧ Cond.code Lib.Math.max.name Lib.Math.max.code 2 (some .int) ∈ GW := ⟨gw_all (ws := [_]) (by decide +kernel) (by decide +kernel) _ List.mem_cons_self, gw_all (ws := [_]) (by decide +kernel) (by decide +kernel) _ List.mem_cons_self⟩
theorem mt_min : Cond.static Lib.Math.min.name ∈ GW ∧ Cond.code Lib.Math.min.name Lib.Math.min.code 2 (some .int) ∈ GW := ⟨gw_all (ws := [_]) (by decide +kernel) (by decide +kernel) _ List.mem_cons_self, gw_all (ws := [_]) (by decide +kernel) (by decide +kernel) _ List.mem_cons_self⟩
theorem mt_abs : Cond.static Lib.Math.abs.name ∈ GW ∧ Cond.code Lib.Math.abs.name Lib.Math.abs.code 1 (some .int) ∈ GW := ⟨gw_all (ws := [_]) (by decide +kernel) (by decide +kernel) _ List.mem_cons_self, gw_all (ws := [_]) (by decide +kernel) (by decide +kernel) _ List.mem_cons_self⟩
theorem mt_ini : Cond.initialized "java/lang/Math" ∈ GW := gw_all (ws := [_]) (by decide +kernel) (by decide +kernel) _ List.mem_cons_self
theorem vw_mmax (hX : CX C cc own nL ret hh (d + 1)) {idx : Nat} {x y : Int32} (hlink : Cond.methodLink own idx Lib.Math.max.name ∈ GW) (hcat : (st.map fun v => v.category).sum ≤ 8) (hd : decode cc pc = .ok (.invokestatic idx, 3)) (kk : VW C (pc + 3) L (.int (jmax x y) :: st) w z mc ms) : VW C pc L (.int y :: .int x :: st) w z mc ms := by
  obtain ⟨g, ⟨nL', MC, MS⟩, p, l, e, R, s, m, args, below, meth, c, Qf⟩ := C
  obtain ⟨hx, hb, hml, hnl, hown, hts, hAm, hst9, hlk, hr9, htab, hR1, hR2, hR3, hR4⟩ := hX
  intro H locs ls k n' hz hm hS hl hk hn'
  subst hnl
  exact va_mmax hx hb (by rw [hml]; exact hl.1.symm) hown (hts _ hlink) (hts _ mt_max.1) (hts _ mt_ini) (hts _ mt_max.2) (by omega) (by omega) (by omega) (by omega) hd (kk H locs ls k n' hz hm hS hl hk hn')
theorem vw_mmin (hX : CX C cc own nL ret hh (d + 1)) {idx : Nat} {x y : Int32} (hlink : Cond.methodLink own idx Lib.Math.min.name ∈ GW) (hcat : (st.map fun v => v.category).sum ≤ 8) (hd : decode cc pc = .ok (.invokestatic idx, 3)) (kk : VW C (pc + 3) L (.int (jmin x y) :: st) w z mc ms) : VW C pc L (.int y :: .int x :: st) w z mc ms := by
  obtain ⟨g, ⟨nL', MC, MS⟩, p, l, e, R, s, m, args, below, meth, c, Qf⟩ := C
  obtain ⟨hx, hb, hml, hnl, hown, hts, hAm, hst9, hlk, hr9, htab, hR1, hR2, hR3, hR4⟩ := hX
  intro H locs ls k n' hz hm hS hl hk hn'
  subst hnl
  exact va_mmin hx hb (by rw [hml]; exact hl.1.symm) hown (hts _ hlink) (hts _ mt_min.1) (hts _ mt_ini) (hts _ mt_min.2) (by omega) (by omega) (by omega) (by omega) hd (kk H locs ls k n' hz hm hS hl hk hn')
theorem vw_mabs (hX : CX C cc own nL ret hh (d + 1)) {idx : Nat} {x : Int32} (hlink : Cond.methodLink own idx Lib.Math.abs.name ∈ GW) (hcat : (st.map fun v => v.category).sum ≤ 8) (hd : decode cc pc = .ok (.invokestatic idx, 3)) (kk : VW C (pc + 3) L (.int (jabs x) :: st) w z mc ms) : VW C pc L (.int x :: st) w z mc ms := by
  obtain ⟨g, ⟨nL', MC, MS⟩, p, l, e, R, s, m, args, below, meth, c, Qf⟩ := C
  obtain ⟨hx, hb, hml, hnl, hown, hts, hAm, hst9, hlk, hr9, htab, hR1, hR2, hR3, hR4⟩ := hX
  intro H locs ls k n' hz hm hS hl hk hn'
  subst hnl
  exact va_mabs hx hb (by rw [hml]; exact hl.1.symm) hown (hts _ hlink) (hts _ mt_abs.1) (hts _ mt_ini) (hts _ mt_abs.2) (by omega) (by omega) (by omega) (by omega) hd (kk H locs ls k n' hz hm hS hl hk hn')
/-! System.arraycopy, of rows of whole numbers (source and target may be one row) -/
theorem mt_cpy : Cond.native arraycopyName ∈ GW ∧ Cond.static arraycopyName ∈ GW ∧ Cond.initialized "java/lang/System" ∈ GW := ⟨gw_all (ws := [_]) (by decide +kernel) (by decide +kernel) _ List.mem_cons_self, gw_all (ws := [_]) (by decide +kernel) (by decide +kernel) _ List.mem_cons_self, gw_all (ws := [_]) (by decide +kernel) (by decide +kernel) _ List.mem_cons_self⟩
theorem vw_copy (hX : CX C cc own nL ret hh (d + 2)) {idx a0 a n0 n1 : Nat} (kd : Nat) (hkd : kd < 8) {f f1 : Nat → Int32} {sp dp n : Int32} (hlink : Cond.methodLink own idx arraycopyName ∈ GW) (hprim : refKind (aT kd) = false) (ha0 : arI w a0 kd = some (n0, f)) (ha1 : arW w a kd = some (n1, f1)) (h1 : ¬ sp < 0) (h2 : ¬ dp < 0) (h3 : ¬ n < 0) (h4 : sp.toNatClampNeg + n.toNatClampNeg ≤ n0) (h5 : dp.toNatClampNeg + n.toNatClampNeg ≤ n1) (hfit : ∀ i, i < n.toNatClampNeg → fits (aT kd) (.int (f (sp.toNatClampNeg + i))) = true) (hcat : (st.map fun v => v.category).sum ≤ 8) (hd : decode cc pc = .ok (.invokestatic idx, 3))
    (kk : VW C (pc + 3) L st (mset w a (.inr (kd, n1, .inl (va_cpy f f1 sp.toNatClampNeg dp.toNatClampNeg n.toNatClampNeg)))) z mc ms) : VW C pc L (.int n :: .int dp :: .ref a :: .int sp :: .ref a0 :: st) w z mc ms := by
  obtain ⟨g, ⟨nL', MC, MS⟩, p, l, e, R, s, m, args, below, meth, c, Qf⟩ := C
  obtain ⟨hx, hb, hml, hnl, hown, hts, hAm, hst9, hlk, hr9, htab, hR1, hR2, hR3, hR4⟩ := hX
  intro H locs ls k n' hz hm hS hl hk hn'
  subst hnl
  have q1 := arW_of ha1
  have hsz : H.size = z := hz
  have h9 : nativeFrameWords "java/lang/System" "arraycopy" 5 ≤ 80 := by decide +kernel
  have nn : ∀ z : Int32, ¬ z < 0 → z.toInt = (z.toNatClampNeg : Int) := by
    intro z hz
    have hz0 : (0 : Int) ≤ z.toInt := by
      have := Int32.not_lt.mp hz
      simpa using Int32.le_iff_toInt_le.mp this
    show z.toInt = ((z.toInt.toNat : Nat) : Int)
    omega
  intro T hT X
  obtain ⟨scr, hc0, hs2, hs3, hs4, hs9, hs5⟩ := cell_i hm hAm.1 hkd ha0
  have hc1 : H[a]? = some (vp_cell (g.2.1 kd) (n1, .inl f1)) := atM_t hm q1
  obtain ⟨hs6, k0, hk0, cm0, hkk0⟩ := hs2
  obtain ⟨-, k1, hk1, cm1, hkk1⟩ := (hAm.1.2 kd _ (gTy_at g hkd)).1 n1 (fun j => .int (f1 j))
  obtain ⟨vm', X', step⟩ := X.arraycopy hx hown (hts _ hlink) (hts _ mt_cpy.1) (hts _ mt_cpy.2.1) (hts _ mt_cpy.2.2) (src := a0) (dst := a) (cs := scr) (cd := vp_cell (g.2.1 kd) (n1, .inl f1)) (srcPos := sp) (destPos := dp) (n := n) (by rw [hT]; exact hc0) (by rw [hT]; exact hc1)
    hs6 (fun _ h => by cases h) hs3 (fun h => by cases h) hk0 hk1 hkk0 hkk1 (by simp [hprim]) h1 h2 h3
    (by rw [nn sp h1, nn n h3]; omega)
    (by rw [nn dp h2, nn n h3]; show ¬ _ > ((arrV (g.2.1 kd) n1 (fun j => .int (f1 j))).slots.size : Int); rw [arrV_size]; omega)
    (fun vm₁ _ i hi => by
      have e : scr.slots.getD (sp.toNatClampNeg + i) .null = .int (f (sp.toNatClampNeg + i)) := by
        rw [Array.getD_eq_getD_getElem?, hs5 _ (by omega)]
        rfl
      refine ⟨?_, ?_⟩
      · rw [e]
        exact hfit i hi
      · rw [e]
        exact trivial)
    (g := F0 m pc ls (.int n :: .int dp :: .ref a :: .int sp :: .ref a0 :: st)) rfl (by rw [hml]; exact hl.1) (rest := st) rfl (by rw [hb]; exact hd) (by omega) (by show 2 * 0 + _ + (nativeFrameWords "java/lang/System" "arraycopy" 5 + 11) ≤ _; omega)
  have e1 : copied scr (vp_cell (g.2.1 kd) (n1, .inl f1)) sp dp n = vp_cell (g.2.1 kd) (n1, .inl (va_cpy f f1 sp.toNatClampNeg dp.toNatClampNeg n.toNatClampNeg)) := va_copiedX (fun z => .int z) scr (g.2.1 kd) f f1 hs5 h4
  rw [e1] at X' step
  have hlt : a < H.size := (Array.getElem?_eq_some_iff.mp hc1).1
  have hheap : ((T.setVm vm').setCell a (vp_cell (g.2.1 kd) (n1, .inl (va_cpy f f1 sp.toNatClampNeg dp.toNatClampNeg n.toNatClampNeg)))).heap = H.setIfInBounds a (vp_cell (g.2.1 kd) (n1, .inl (va_cpy f f1 sp.toNatClampNeg dp.toNatClampNeg n.toNatClampNeg))) := by rw [← hT]; rfl
  have oq : ∀ q : Nat, q ≠ a → (H.setIfInBounds a (vp_cell (g.2.1 kd) (n1, .inl (va_cpy f f1 sp.toNatClampNeg dp.toNatClampNeg n.toNatClampNeg))))[q]? = H[q]? := fun q hq => by simp [Array.getElem?_setIfInBounds, Ne.symm hq]
  obtain ⟨t, a1, b1⟩ := kk _ _ ls k n' (by simpa using hsz) (hm.set q1 (show (H.setIfInBounds a _)[a]? = some _ by simp [Array.getElem?_setIfInBounds, hlt]) oq) ⟨by simp; exact hS.1, fun q g1 g2 => by
      rw [oq q (fun e => g2 (by rw [e]; exact atM_b hm q1))]
      exact hS.2.1 q g1 g2, fun q hq => by
      rcases List.mem_append.mp hq with h | h
      · exact hS.2.2 q h
      · obtain ⟨z, -, hz⟩ := List.mem_map.mp h
        rw [← hz]
        exact atM_b hm q1⟩ hl hk hn' _ hheap X'
  exact ⟨t, step t a1, b1⟩
/-! statics of the JDK -/
theorem vw_gets (hX : CX C cc own nL ret hh d) {idx : Nat} {Cn nm ds : String} {v : Value} (hx0 : (Cn, nm, ds, v) ∈ ambS) (hw : Cond.fieldLink own idx Cn nm ds ∈ GW) (hd : decode cc pc = .ok (.getstatic idx, 3)) (kk : VW C (pc + 3) L (v :: st) w z mc ms) : VW C pc L st w z mc ms := by
  obtain ⟨g, ⟨nL', MC, MS⟩, p, l, e, R, s, m, args, below, meth, c, Qf⟩ := C
  obtain ⟨hx, hb, hml, hnl, hown, hts, hAm, hst9, hlk, hr9, htab, hR1, hR2, hR3, hR4⟩ := hX
  intro H locs ls k n' hz hm hS hl hk hn'
  exact va_gets hx hb (hAm.2.1 _ hx0) hS hown (hts _ hw) (fun _ h => h) hd (kk H locs ls k n' hz hm hS hl hk hn')
theorem vw_getsF (hX : CX C cc own nL ret hh d) {idx : Nat} (hw : Cond.fieldLink own idx "jdk/internal/util/Preconditions" "SIOOBE_FORMATTER" "Ljava/util/function/BiFunction;" ∈ GW) (hd : decode cc pc = .ok (.getstatic idx, 3)) (kk : ∀ q : Nat, VW C (pc + 3) L (.ref q :: st) w z mc ms) (kn : VW C (pc + 3) L (.null :: st) w z mc ms) : VW C pc L st w z mc ms := by
  obtain ⟨g, ⟨nL', MC, MS⟩, p, l, e, R, s, m, args, below, meth, c, Qf⟩ := C
  obtain ⟨hx, hb, hml, hnl, hown, hts, hAm, hst9, hlk, hr9, htab, hR1, hR2, hR3, hR4⟩ := hX
  intro H locs ls k n' hz hm hS hl hk hn'
  rcases hAm.2.2.2.2.1 with h | ⟨t, h⟩
  · exact va_gets hx hb h hS hown (hts _ hw) (fun _ h => h) hd (kn H locs ls k n' hz hm hS hl hk hn')
  · exact va_gets hx hb h hS hown (hts _ hw) (fun _ h => h) hd (kk _ H locs ls k n' hz hm hS hl hk hn')
theorem vw_getsT (hX : CX C cc own nL ret hh d) {idx : Nat} (hw : Cond.fieldLink own idx "java/lang/Integer" "DigitTens" "[B" ∈ GW) (hd : decode cc pc = .ok (.getstatic idx, 3)) (kk : ∀ q : Nat, isTab w q digT → VW C (pc + 3) L (.ref q :: st) w z mc ms) : VW C pc L st w z mc ms := by
  obtain ⟨g, ⟨nL', MC, MS⟩, p, l, e, R, s, m, args, below, meth, c, Qf⟩ := C
  obtain ⟨hx, hb, hml, hnl, hown, hts, hAm, hst9, hlk, hr9, htab, hR1, hR2, hR3, hR4⟩ := hX
  intro H locs ls k n' hz hm hS hl hk hn'
  exact va_gets hx hb hAm.2.2.2.2.2.1 hS hown (hts _ hw) (fun _ h => h) hd (kk _ hm.2.2.1 H locs ls k n' hz hm hS hl hk hn')
theorem vw_getsO (hX : CX C cc own nL ret hh d) {idx : Nat} (hw : Cond.fieldLink own idx "java/lang/Integer" "DigitOnes" "[B" ∈ GW) (hd : decode cc pc = .ok (.getstatic idx, 3)) (kk : ∀ q : Nat, isTab w q digO → VW C (pc + 3) L (.ref q :: st) w z mc ms) : VW C pc L st w z mc ms := by
  obtain ⟨g, ⟨nL', MC, MS⟩, p, l, e, R, s, m, args, below, meth, c, Qf⟩ := C
  obtain ⟨hx, hb, hml, hnl, hown, hts, hAm, hst9, hlk, hr9, htab, hR1, hR2, hR3, hR4⟩ := hX
  intro H locs ls k n' hz hm hS hl hk hn'
  exact va_gets hx hb hAm.2.2.2.2.2.2.1 hS hown (hts _ hw) (fun _ h => h) hd (kk _ hm.2.2.2 H locs ls k n' hz hm hS hl hk hn')
/-! a method of a class above, found by the receiver; super.m(..) -/
theorem vw_callU (hX : CX C cc own nL ret hh (d + 1)) {x y : MethodName} {bytes : ByteArray} {maxL ci N idx n b mc' ms' : Nat} {Cn owner : String} {T : u_T} {ret' : Option FieldType} {As stk : List Value} {Q : Option Value → Mm → Nat → Prop} {X : String → Mm → Nat → Prop} {b0 : ByteArray} {m0 : Nat} {r0 : Option FieldType} (hdi : Cond.instanceMethod ⟨owner, x.name, x.desc⟩ ∈ GW) (hdc : Cond.code ⟨owner, x.name, x.desc⟩ b0 m0 r0 ∈ GW) (hcode : Cond.code y bytes maxL ret' ∈ GW) (hlink : Cond.methodLink own idx x ∈ GW) (hsame : Cond.sameMethod x.cls owner x.name x.desc ∈ GW) (hinst : Cond.instanceMethod y ∈ GW) (hsel : Cond.selects Cn x y ∈ GW) (hini : Cond.initialized y.cls ∈ GW)
    (hy : owner ≠ "java/lang/invoke/MethodHandle" ∧ owner ≠ "java/lang/invoke/VarHandle") (hn : (parseMethodDescriptor x.desc).map (fun d => d.parameters.length) = some n) (hL : maxL ≤ 41) (hc : vwCl[ci]? = some (Cn, T, N)) (hr : isO w b ci) (hn2 : As.length = n) (hst : stk = As.reverse ++ .ref b :: st) (hcat : (st.map fun v => v.category).sum ≤ 8) (hd : decode cc pc = .ok (.invokevirtual idx, 3)) (h1 : mc' ≤ mc) (h2 : ms' ≤ ms)
    (hM0 : Ct C.2.2.2.1 C.1 y (.code y bytes maxL ret') d mc' ms' (.ref b :: As) w z Q X) (kk : ∀ (v : Option Value) (w' : Mm) (z' : Nat), Q v w' z' → VW C (pc + 3) L (v.toList ++ st) w' z' (mc - mc') (ms - ms')) (kx : ∀ (E : String) (w' : Mm) (z' : Nat), X E w' z' → VX C pc L E w' z' (mc - mc') (ms - ms')) : VW C pc L stk w z mc ms := by
  obtain ⟨g, ⟨nL', MC, MS⟩, p, l, e, R, s, m, args, below, meth, c, Qf⟩ := C
  obtain ⟨hx, hb, hml, hnl, hown, hts, hAm, hst9, hlk, hr9, htab, hR1, hR2, hR3, hR4⟩ := hX
  intro H locs ls k n' hz hm hS hl hk hn'
  subst hnl
  refine run_call (vx_runU (x := x) (owner := owner) (As := As) (rest := st) (nL := nL') (Ts := GW) ⟨hx, hb, hml, hown, hts⟩ hM0 ⟨⟨rfl, rfl, hR1, by show 8 + (maxL + 11) + 60 * d ≤ R.locals; omega, pay_in hts (gw_cons hcode), List.mem_cons_self⟩, hts _ hcode, hts _ hini, hy, cd_args (y := x) hn, hts _ hlink, hts _ hsame, va_Decl.of (hts _ hdi) (hts _ hdc), hts _ hsel, hts _ hinst⟩ ⟨ctP_blind, cell_r hm hAm.1 hc hr, fun U hU hW => ⟨rfl, by rw [hU]; exact hz, by rw [hU]; exact hm.moved hW.alike, by rw [hU]; exact hAm.warm hW hS⟩⟩ rfl hn2 hl.1 hst (lv_room hcat) hd ⟨by omega, by omega⟩) hS
    (fun v w' H1 locs1 hq hm1 hS1 => kk v w' _ hq H1 locs1 ls _ _ rfl hm1 hS1 hl (by omega) (by omega)) (fun E ce q w' H1 locs1 hq hm1 hS1 g1 g2 g3 => kx E w' _ hq H1 locs1 ls _ _ st q ce rfl hm1 hS1 hl (by omega) (by omega) g1 g2 g3)
theorem vw_callSU (hX : CX C cc own nL ret hh (d + 1)) {y : MethodName} {bytes : ByteArray} {maxL ci N idx n b mc' ms' : Nat} {Cn : String} {T : u_T} {ret' : Option FieldType} {As stk : List Value} {Q : Option Value → Mm → Nat → Prop} {X : String → Mm → Nat → Prop} (hcode : Cond.code y bytes maxL ret' ∈ GW) (hlink : Cond.methodLink own idx y ∈ GW) (hsame : Cond.sameMethod y.cls y.cls y.name y.desc ∈ GW) (hsup : Cond.superclass own y.cls ∈ GW) (hinst : Cond.instanceMethod y ∈ GW) (hini : Cond.initialized y.cls ∈ GW)
    (hy : y.name ≠ "<init>") (hn : (parseMethodDescriptor y.desc).map (fun d => d.parameters.length) = some n) (hL : maxL ≤ 41) (hc : vwCl[ci]? = some (Cn, T, N)) (hr : isO w b ci) (hn2 : As.length = n) (hst : stk = As.reverse ++ .ref b :: st) (hcat : (st.map fun v => v.category).sum ≤ 8) (hd : decode cc pc = .ok (.invokespecial idx, 3)) (h1 : mc' ≤ mc) (h2 : ms' ≤ ms)
    (hM0 : Ct C.2.2.2.1 C.1 y (.code y bytes maxL ret') d mc' ms' (.ref b :: As) w z Q X) (kk : ∀ (v : Option Value) (w' : Mm) (z' : Nat), Q v w' z' → VW C (pc + 3) L (v.toList ++ st) w' z' (mc - mc') (ms - ms')) (kx : ∀ (E : String) (w' : Mm) (z' : Nat), X E w' z' → VX C pc L E w' z' (mc - mc') (ms - ms')) : VW C pc L stk w z mc ms := by
  obtain ⟨g, ⟨nL', MC, MS⟩, p, l, e, R, s, m, args, below, meth, c, Qf⟩ := C
  obtain ⟨hx, hb, hml, hnl, hown, hts, hAm, hst9, hlk, hr9, htab, hR1, hR2, hR3, hR4⟩ := hX
  intro H locs ls k n' hz hm hS hl hk hn'
  subst hnl
  refine run_call (vx_runSU (As := As) (rest := st) (nL := nL') (Ts := GW) (hAm.1.1 ci _ hc).2 ⟨hx, hb, hml, hown, hts⟩ hM0 ⟨⟨rfl, rfl, hR1, by show 8 + (maxL + 11) + 60 * d ≤ R.locals; omega, pay_in hts (gw_cons hcode), List.mem_cons_self⟩, hts _ hlink, hts _ hsame, hts _ hsup, hts _ hinst, hts _ hini, hts _ hcode, hy, cd_args hn⟩ ⟨ctP_blind, cell_r hm hAm.1 hc hr, fun U hU hW => ⟨rfl, by rw [hU]; exact hz, by rw [hU]; exact hm.moved hW.alike, by rw [hU]; exact hAm.warm hW hS⟩⟩ rfl hn2 hl.1 hst (lv_room hcat) hd ⟨by omega, by omega⟩) hS
    (fun v w' H1 locs1 hq hm1 hS1 => kk v w' _ hq H1 locs1 ls _ _ rfl hm1 hS1 hl (by omega) (by omega)) (fun E ce q w' H1 locs1 hq hm1 hS1 g1 g2 g3 => kx E w' _ hq H1 locs1 ls _ _ st q ce rfl hm1 hS1 hl (by omega) (by omega) g1 g2 g3)
end NROWS
