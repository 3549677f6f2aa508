section MROWS
variable {C : Cx} {cc : ByteArray} {own : String} {nL d : Nat} {ret : Option FieldType} {hh : List (Nat × Nat × Nat × Nat)} {pc : Nat} {L : List (Nat × Value)} {st : List Value} {w : Mm} {z mc ms : Nat}
theorem vw_callSN (hX : CX C cc own nL ret hh (d + 1)) {y : MethodName} {bytes : ByteArray} {maxL idx n mc' ms' : Nat} {host : String} {ret' : Option FieldType} {As stk : List Value} {Q : Option Value → Mm → Nat → Prop} {X : String → Mm → Nat → Prop} (hcode : Cond.code y bytes maxL ret' ∈ GW) (hlink : (own, idx, y, host) ∈ ambW) (hstat : Cond.static y ∈ GW) (hini : Cond.initialized y.cls ∈ GW)
    (hy : y.cls ≠ "java/lang/invoke/MethodHandle" ∧ y.cls ≠ "java/lang/invoke/VarHandle") (hn : (parseMethodDescriptor y.desc).map (fun d => d.parameters.length) = some n) (hL : maxL ≤ 41) (hn2 : As.length = n) (hst : stk = As.reverse ++ st) (hcat : (st.map fun v => v.category).sum ≤ 8) (hd : decode cc pc = .ok (.invokestatic idx, 3)) (h1 : mc' ≤ mc) (h2 : ms' ≤ ms)
    (hM0 : Ct C.2.2.2.1 C.1 y (.code y bytes maxL ret') d mc' ms' As w z Q X) (kk : ∀ (v : Option Value) (w' : Mm) (z' : Nat), Q v w' z' → VW C (pc + 3) L (v.toList ++ st) w' z' (mc - mc') (ms - ms')) (kx : ∀ (E : String) (w' : Mm) (z' : Nat), X E w' z' → VX C pc L E w' z' (mc - mc') (ms - ms')) : VW C pc L stk w z mc ms := by
  obtain ⟨g, ⟨nL', MC, MS⟩, p, l, e, R, s, m, args, below, meth, c, Qf⟩ := C
  obtain ⟨hx, hb, hml, hnl, hown, hts, hAm, hst9, hlk, hr9, htab, hR1, hR2, hR3, hR4⟩ := hX
  intro H locs ls k n' hz hm hS hl hk hn'
  subst hnl
  refine run_call (vx_runSN (As := As) (rest := st) (nL := nL') (Ts := GW) ⟨hx, hb, hml, hown, hts⟩ hM0 ⟨callN_gw hts hcode (va_Nw.use rfl (hAm.2.2.2.2.2.2.2.2.2.2.2.1 _ hlink)) hini hy hn hL hR1 hR2, hts _ hstat, trivial⟩ ⟨ctP_blind, fun U hU hW => ⟨rfl, by rw [hU]; exact hz, by rw [hU]; exact hm.moved hW.alike, by rw [hU]; exact hAm.warm hW hS⟩⟩ rfl hn2 hl.1 hst (lv_room hcat) hd ⟨by omega, by omega⟩) hS
    (fun v w' H1 locs1 hq hm1 hS1 => kk v w' _ hq H1 locs1 ls _ _ rfl hm1 hS1 hl (by omega) (by omega)) (fun E ce q w' H1 locs1 hq hm1 hS1 g1 g2 g3 => kx E w' _ hq H1 locs1 ls _ _ st q ce rfl hm1 hS1 hl (by omega) (by omega) g1 g2 g3)
theorem vw_callIN (hX : CX C cc own nL ret hh (d + 1)) {y : MethodName} {bytes : ByteArray} {maxL idx n b mc' ms' : Nat} {host : String} {As stk : List Value} {Q : Option Value → Mm → Nat → Prop} {X : String → Mm → Nat → Prop} (hcode : Cond.code y bytes maxL none ∈ GW) (hlink : (own, idx, y, host) ∈ ambW) (hinst : Cond.instanceMethod y ∈ GW) (hini : Cond.initialized y.cls ∈ GW) (hy1 : y.name = "<init>")
    (hy : y.cls ≠ "java/lang/invoke/MethodHandle" ∧ y.cls ≠ "java/lang/invoke/VarHandle") (hn : (parseMethodDescriptor y.desc).map (fun d => d.parameters.length) = some n) (hL : maxL ≤ 41) (hn2 : As.length = n) (hst : stk = As.reverse ++ .ref b :: st) (hcat : (st.map fun v => v.category).sum ≤ 8) (hd : decode cc pc = .ok (.invokespecial idx, 3)) (h1 : mc' ≤ mc) (h2 : ms' ≤ ms)
    (hM0 : Ct C.2.2.2.1 C.1 y (.code y bytes maxL none) d mc' ms' (.ref b :: As) w z Q X) (kk : ∀ (v : Option Value) (w' : Mm) (z' : Nat), Q v w' z' → VW C (pc + 3) L (v.toList ++ st) w' z' (mc - mc') (ms - ms')) (kx : ∀ (E : String) (w' : Mm) (z' : Nat), X E w' z' → VX C pc L E w' z' (mc - mc') (ms - ms')) : VW C pc L stk w z mc ms := by
  obtain ⟨g, ⟨nL', MC, MS⟩, p, l, e, R, s, m, args, below, meth, c, Qf⟩ := C
  obtain ⟨hx, hb, hml, hnl, hown, hts, hAm, hst9, hlk, hr9, htab, hR1, hR2, hR3, hR4⟩ := hX
  intro H locs ls k n' hz hm hS hl hk hn'
  subst hnl
  refine run_call (vx_runIN (As := As) (rest := st) (nL := nL') (Ts := GW) ⟨hx, hb, hml, hown, hts⟩ hM0 ⟨callN_gw hts hcode (va_Nw.use rfl (hAm.2.2.2.2.2.2.2.2.2.2.2.1 _ hlink)) hini hy hn hL hR1 hR2, hy1, hts _ hinst⟩ ⟨ctP_blind, fun U hU hW => ⟨rfl, by rw [hU]; exact hz, by rw [hU]; exact hm.moved hW.alike, by rw [hU]; exact hAm.warm hW hS⟩⟩ rfl hn2 hl.1 hst (lv_room hcat) hd ⟨by omega, by omega⟩) hS
    (fun v w' H1 locs1 hq hm1 hS1 => kk v w' _ hq H1 locs1 ls _ _ rfl hm1 hS1 hl (by omega) (by omega)) (fun E ce q w' H1 locs1 hq hm1 hS1 g1 g2 g3 => kx E w' _ hq H1 locs1 ls _ _ st q ce rfl hm1 hS1 hl (by omega) (by omega) g1 g2 g3)
theorem vw_objInit (hX : CX C cc own nL ret hh (d + 1)) {idx a : Nat} (hlink : Cond.methodLink own idx objectInit ∈ GW) (hinst : Cond.instanceMethod objectInit ∈ GW) (hcode : Cond.code objectInit ⟨#[0xb1]⟩ 1 none ∈ GW) (hcat : (st.map fun v => v.category).sum ≤ 8) (hd : decode cc pc = .ok (.invokespecial idx, 3)) (kk : VW C (pc + 3) L st w z mc ms) : VW C pc L (.ref a :: st) w z mc ms := by
  obtain ⟨g, ⟨nL', MC, MS⟩, p, l, e, R, s, m, args, below, meth, c, Qf⟩ := C
  obtain ⟨hx, hb, hml, hnl, hown, hts, hAm, hst9, hlk, hr9, htab, hR1, hR2, hR3, hR4⟩ := hX
  intro H locs ls k n' hz hm hS hl hk hn'
  subst hnl
  exact W.objInit hx hb hown (hts _ hlink) (hts _ hinst) (hts _ hcode) rfl (by rw [hml]; exact hl.1) rfl hd (by omega) (by have := lv_room (m := m) (pc := pc) (ls := ls) (rest := st) hcat; show 2 * (F0 m pc ls (.ref a :: st)).monitorRoom + _ + 12 ≤ R.locals; have h0 : (F0 m pc ls (.ref a :: st)).monitorRoom = (F0 m pc ls st).monitorRoom := rfl; omega) (kk H locs ls k n' hz hm hS hl hk hn')
/-- a new object: it stands at the first free address, its fields as the class's types have them -/
theorem vw_new (hX : CX C cc own nL ret hh d) {ci N idx : Nat} {Cn : String} {T : u_T} {fs : List Value} (hc : vwCl[ci]? = some (Cn, T, N)) (hlink : Cond.classLink own idx Cn ∈ GW) (hinst : Cond.instantiable Cn N ∈ GW) (hini : Cond.initialized Cn ∈ GW) (ty : Nat → FieldType) (hty : ∀ k, k < N → parseFieldDescriptor (T k).2.2.1 = some (ty k)) (hfs : ∀ j, j < N → defaultValue (ty j) = vp_V fs j) (h1 : 1 ≤ mc) (h2 : N ≤ ms) (hd : decode cc pc = .ok (.new idx, 3)) (kk : VW C (pc + 3) L (.ref z :: st) (mset w z (.inl (ci, fs))) (z + 1) (mc - 1) (ms - N)) : VW C pc L st w z mc ms := by
  obtain ⟨g, ⟨nL', MC, MS⟩, p, l, e, R, s, m, args, below, meth, c, Qf⟩ := C
  obtain ⟨hx, hb, hml, hnl, hown, hts, hAm, hst9, hlk, hr9, htab, hR1, hR2, hR3, hR4⟩ := hX
  intro H locs ls k n' hz hm hS hl hk hn'
  subst hz
  have hKn := hAm.1.1 ci _ hc
  refine W.newcK hx hb hown (hts _ hlink) (hts _ hinst) (hts _ hini) rfl hd (by omega) (by omega) hKn.2.1 rfl fun H1 kC hkC e1 z1 o1 => ?_
  exact kk H1 locs ls (k + 1) (n' + N) z1 (hm.push ⟨_, hc, (u_born ty hts (cl_ok ci _ hc).1 hKn hkC e1 hty).to hfs⟩ o1 (Nat.le_trans hAm.2.2.2.2.2.2.2.2.2.2.2.2.2.2 hS.1)) (gS_new hS z1 o1) hl (by omega) (by omega)
/-- a new array of whole numbers -/
theorem vw_newa (hX : CX C cc own nL ret hh d) {atype : ArrayType} (kd : Nat) {n : Int32} {N : Nat} (hkd : kd < 8) (hty : newarray.typeOf atype = aT kd) (e0 : Ce) (he0 : ∀ aC, ∀ cA, aC kd = cA → ∀ D cl q H1, H1[q]? = some (arrV cA N (fun _ => defaultValue (aT kd))) → va_at D cl (q, toE aC e0) H1) (hkc : ∀ (s : State) (cA : ClassId), va_RA s cA (aT kd) → s.vm.findClass ("[" ++ (aT kd).toString) = some cA) (harr : Cond.arrayClass (newarray.typeOf atype) ∈ GW) (hn0 : ¬ n < 0) (hN : n.toNatClampNeg = N) (hbytes : N * componentBytes (newarray.typeOf atype) ≤ 536870912) (h1 : 1 ≤ mc) (h2 : N ≤ ms) (hd : decode cc pc = .ok (.newarray atype, 2)) (kk : VW C (pc + 2) L (.ref z :: st) (mset w z e0) (z + 1) (mc - 1) (ms - N)) : VW C pc L (.int n :: st) w z mc ms := by
  obtain ⟨g, ⟨nL', MC, MS⟩, p, l, e, R, s, m, args, below, meth, c, Qf⟩ := C
  obtain ⟨hx, hb, hml, hnl, hown, hts, hAm, hst9, hlk, hr9, htab, hR1, hR2, hR3, hR4⟩ := hX
  intro H locs ls k n' hz hm hS hl hk hn'
  subst hz
  refine va_newaK hx hb (hts _ harr) rfl hd rfl hn0 hN hbytes (by omega) (by omega) rfl fun H1 cA e1 z1 o1 hAr hNm => ?_
  have hcA : g.2.1 kd = cA := by
    have q1 := hkc s _ (hAm.1.2 kd _ (gTy_at g hkd)).2
    rw [hty] at hNm
    exact Option.some.inj (q1.symm.trans hNm)
  rw [hty] at e1
  exact kk H1 locs ls (k + 1) (n' + N) z1 (hm.push (he0 _ _ hcA _ _ _ _ e1) o1 (Nat.le_trans hAm.2.2.2.2.2.2.2.2.2.2.2.2.2.2 hS.1)) (gS_new hS z1 o1) hl (by omega) (by omega)
theorem vw_newI (hX : CX C cc own nL ret hh d) {n : Int32} {N : Nat} (harr : Cond.arrayClass .int ∈ GW) (hn0 : ¬ n < 0) (hN : n.toNatClampNeg = N) (hbytes : N ≤ 10000000) (h1 : 1 ≤ mc) (h2 : N ≤ ms) (hd : decode cc pc = .ok (.newarray .int, 2)) (kk : VW C (pc + 2) L (.ref z :: st) (mset w z (.inr (0, N, .inl (fun _ => 0)))) (z + 1) (mc - 1) (ms - N)) : VW C pc L (.int n :: st) w z mc ms :=
  vw_newa hX (atype := .int) 0 (by decide) rfl _ (fun aC cA h D cl q H1 e1 => by subst h; exact e1) (fun s cA h => h) harr hn0 hN (by show N * 4 ≤ _; omega) h1 h2 hd kk
theorem vw_newB (hX : CX C cc own nL ret hh d) {n : Int32} {N : Nat} (harr : Cond.arrayClass .byte ∈ GW) (hn0 : ¬ n < 0) (hN : n.toNatClampNeg = N) (hbytes : N ≤ 10000000) (h1 : 1 ≤ mc) (h2 : N ≤ ms) (hd : decode cc pc = .ok (.newarray .byte, 2)) (kk : VW C (pc + 2) L (.ref z :: st) (mset w z (.inr (1, N, .inl (fun _ => 0)))) (z + 1) (mc - 1) (ms - N)) : VW C pc L (.int n :: st) w z mc ms :=
  vw_newa hX (atype := .byte) 1 (by decide) rfl _ (fun aC cA h D cl q H1 e1 => by subst h; exact e1) (fun s cA h => h) harr hn0 hN (by show N * 1 ≤ _; omega) h1 h2 hd kk
theorem vw_newZ (hX : CX C cc own nL ret hh d) {n : Int32} {N : Nat} (harr : Cond.arrayClass .boolean ∈ GW) (hn0 : ¬ n < 0) (hN : n.toNatClampNeg = N) (hbytes : N ≤ 10000000) (h1 : 1 ≤ mc) (h2 : N ≤ ms) (hd : decode cc pc = .ok (.newarray .boolean, 2)) (kk : VW C (pc + 2) L (.ref z :: st) (mset w z (.inr (2, N, .inl (fun _ => 0)))) (z + 1) (mc - 1) (ms - N)) : VW C pc L (.int n :: st) w z mc ms :=
  vw_newa hX (atype := .boolean) 2 (by decide) rfl _ (fun aC cA h D cl q H1 e1 => by subst h; exact e1) (fun s cA h => h) harr hn0 hN (by show N * 1 ≤ _; omega) h1 h2 hd kk
theorem vw_newR (hX : CX C cc own nL ret hh d) {n : Int32} {N idx : Nat} {Cn : String} (kd : Nat) (hkd : kd < 8) (hty : aT kd = .object Cn) (hlink : Cond.classLink own idx Cn ∈ GW) (hover : Cn ∈ ambO) (e0 : Ce) (he : e0 = .inr (kd, N, .inr (.inr (fun _ => none)))) (hn0 : ¬ n < 0) (hN : n.toNatClampNeg = N) (hbytes : N ≤ 10000000) (h1 : 1 ≤ mc) (h2 : N ≤ ms) (hd : decode cc pc = .ok (.anewarray idx, 3)) (kk : VW C (pc + 3) L (.ref z :: st) (mset w z e0) (z + 1) (mc - 1) (ms - N)) : VW C pc L (.int n :: st) w z mc ms := by
  obtain ⟨g, ⟨nL', MC, MS⟩, p, l, e, R, s, m, args, below, meth, c, Qf⟩ := C
  obtain ⟨hx, hb, hml, hnl, hown, hts, hAm, hst9, hlk, hr9, htab, hR1, hR2, hR3, hR4⟩ := hX
  intro H locs ls k n' hz hm hS hl hk hn'
  subst hz
  subst hN
  refine W.anew hx hb hown (hts _ hlink) (va_AO.use (hAm.2.2.2.2.2.2.2.2.2.2.1 _ hover)) rfl hd rfl hn0 (by omega) (by omega) (by omega) fun cA kA comp f1 f2 f3 f4 => ?_
  have hcA : g.2.1 kd = cA := by
    have q1 := (hAm.1.2 kd _ (gTy_at g hkd)).2
    rw [show ((g.2.1 kd, aT kd) : ClassId × FieldType).2 = .object Cn from hty] at q1
    obtain ⟨kA', comp', q1, q2, q3, q4⟩ := q1
    exact Option.some.inj (q4.symm.trans f1)
  refine kk _ locs ls (k + 1) (n' + n.toNatClampNeg) (by simp) (hm.push ?_ (fun q hq => by rw [Array.getElem?_push, if_neg (Nat.ne_of_lt hq)]) (Nat.le_trans hAm.2.2.2.2.2.2.2.2.2.2.2.2.2.2 hS.1)) (gS_new hS (by simp) (fun q hq => by rw [Array.getElem?_push, if_neg (Nat.ne_of_lt hq)])) hl (by omega) (by omega)
  rw [he]
  show (H.push _)[H.size]? = some (vp_cell _ _)
  rw [vp_cell_q, ← hcA, Array.getElem?_push_size]
  show some _ = some (arrV (g.2.1 kd) n.toNatClampNeg (fun _ => .null))
  rw [← arrV_new]
/-! exceptions -/
theorem vx_outE {Q : Option Value → Mm → Nat → Prop} {X : String → Mm → Nat → Prop} {E : String} (hX : CX C cc own nL ret [] d) (hE : EQ C Q X) (hq : X E w z) : VX C pc L E w z mc ms := by
  obtain ⟨g, ⟨nL', MC, MS⟩, p, l, e, R, s, m, args, below, meth, c, Qf⟩ := C
  obtain ⟨hx, hb, hml, hnl, hown, hts, hAm, hst9, hlk, hr9, htab, hR1, hR2, hR3, hR4⟩ := hX
  intro H locs ls k n' rest q ce hz hm hS hl hk hn' g1 g2 g3
  obtain rfl : Qf = _ := hE
  exact vx_out (fun x hx => by rw [htab] at hx; cases hx) hlk g1 g2 g3 (fun t ht hA => ⟨w, by rw [ht, hz]; exact hq, by rw [ht]; exact hm.moved hA, hS.F ht⟩) hS.2.2 (by omega) (by omega)
theorem vw_throwS {Q : Option Value → Mm → Nat → Prop} {X : String → Mm → Nat → Prop} {cls text : String} {ik is ic : Nat} (hX : CX C cc own nL ret [] (d + 6)) (hE : EQ C Q X) (hcls : Bundle.fit cls = true) (hk0 : Cond.classLink own ik cls ∈ GW) (hini : Cond.initialized cls ∈ GW) (hstr : (own, is, text) ∈ ambX) (hck : (cls, cls) ∈ ambK) (hat : ∀ w ∈ vx_atS own ic cls ["java/lang/RuntimeException", "java/lang/Exception"], w ∈ GW ∨ w ∈ exC cls)
    (d0 : decode cc pc = .ok (.new ik, 3)) (d3 : decode cc (pc + 3) = .ok (.dup, 1)) (d4 : decode cc (pc + 4) = .ok (.ldc is, 2)) (d6 : decode cc (pc + 6) = .ok (.invokespecial ic, 3)) (d9 : decode cc (pc + 9) = .ok (.athrow, 1)) (hcat : (st.map fun v => v.category).sum ≤ 8) (h1 : 1 ≤ mc) (h2 : 6 ≤ ms) (hq : ∀ z', z ≤ z' → X cls w z') : VW C pc L st w z mc ms := by
  obtain ⟨g, ⟨nL', MC, MS⟩, p, l, e, R, s, m, args, below, meth, c, Qf⟩ := C
  obtain ⟨hx, hb, hml, hnl, hown, hts, hAm, hst9, hlk, hr9, htab, hR1, hR2, hR3, hR4⟩ := hX
  intro H locs ls k n' hz hm hS hl hk hn'
  subst hnl
  subst hz
  obtain rfl : Qf = _ := hE
  obtain ⟨sa, hsa⟩ := hAm.2.2.2.2.2.2.2.2.1 _ hstr
  refine vx_throwS hx hb hst9 hown hcls (by decide +kernel) (hts _ hk0) (hts _ hini) hsa (fun w hw => (hat w hw).elim (hts w) (fun e => by
    rcases List.mem_cons.mp e with rfl | e
    · exact va_Nw.use rfl (hAm.2.2.2.2.2.2.2.2.2.2.2.2.1 _ hck)
    · obtain ⟨y, hy, rfl⟩ := List.mem_map.mp e
      exact mDc.use (hAm.2.2.2.2.2.2.2.2.2.2.2.2.2.1 _ hy))) (fun w hw => ?_) hAm.2.2.1 hAm.2.2.2.1 hS (by rw [hml]; exact hl.1) d0 d3 d4 d6 d9 (fun x hx => by rw [htab] at hx; cases hx) (by show 2 + 3 < R.frames; omega) (by show _ + (13 * (2 + 1) + 43) ≤ R.locals; omega) (by omega) (by omega) hlk (fun t hA hz1 hq1 => ?_) hS.2.2 (by omega) (by omega)
  · have hg : w ∈ GW ∨ w ∈ exC cls := by
      rcases List.mem_cons.mp hw with rfl | hw
      · exact Or.inl hk0
      · rcases List.mem_cons.mp hw with rfl | hw
        · exact Or.inl hini
        · exact hat w hw
    rcases hg with hg | hg
    · unfold vx_ot
      rw [(List.mem_filter.mp hg).2, Bool.or_true]
    · rcases List.mem_cons.mp hg with rfl | hg
      · rfl
      · obtain ⟨y, hy, rfl⟩ := List.mem_map.mp hg
        rfl
  · refine ⟨w, hq _ hz1, ⟨fun a c9 hc => ?_, hm.2⟩, ⟨Nat.le_trans hS.1 hz1, fun q g1 g2 => ?_⟩⟩
    · exact atM_moved hA (atM_kept (hm.1 a c9 hc) (hq1 a (hm.lt hc)))
    · rw [hq1 q (Nat.lt_of_lt_of_le g1 hS.1)]
      exact hS.2.1 q g1 g2
theorem vw_throwSW {Q : Option Value → Mm → Nat → Prop} {X : String → Mm → Nat → Prop} {cls text : String} {ik is ic : Nat} (hX : CX C cc own nL ret [] (d + 6)) (hE : EQ C Q X) (hcls : Bundle.fit cls = true) (hk0 : Cond.classLink own ik cls ∈ GW) (hini : Cond.initialized cls ∈ GW) (hstr : (own, is, text) ∈ ambX) (hck : (cls, cls) ∈ ambK) (hat : ∀ w ∈ vx_atS own ic cls ["java/lang/RuntimeException", "java/lang/Exception"], w ∈ GW ∨ w ∈ exC cls)
    (d0 : decode cc pc = .ok (.new ik, 3)) (d3 : decode cc (pc + 3) = .ok (.dup, 1)) (d4 : decode cc (pc + 4) = .ok (.ldc_w is, 3)) (d6 : decode cc (pc + 7) = .ok (.invokespecial ic, 3)) (d9 : decode cc (pc + 10) = .ok (.athrow, 1)) (hcat : (st.map fun v => v.category).sum ≤ 8) (h1 : 1 ≤ mc) (h2 : 6 ≤ ms) (hq : ∀ z', z ≤ z' → X cls w z') : VW C pc L st w z mc ms := by
  obtain ⟨g, ⟨nL', MC, MS⟩, p, l, e, R, s, m, args, below, meth, c, Qf⟩ := C
  obtain ⟨hx, hb, hml, hnl, hown, hts, hAm, hst9, hlk, hr9, htab, hR1, hR2, hR3, hR4⟩ := hX
  intro H locs ls k n' hz hm hS hl hk hn'
  subst hnl
  subst hz
  obtain rfl : Qf = _ := hE
  obtain ⟨sa, hsa⟩ := hAm.2.2.2.2.2.2.2.2.1 _ hstr
  refine vx_throwSW hx hb hst9 hown hcls (by decide +kernel) (hts _ hk0) (hts _ hini) hsa (fun w hw => (hat w hw).elim (hts w) (fun e => by
    rcases List.mem_cons.mp e with rfl | e
    · exact va_Nw.use rfl (hAm.2.2.2.2.2.2.2.2.2.2.2.2.1 _ hck)
    · obtain ⟨y, hy, rfl⟩ := List.mem_map.mp e
      exact mDc.use (hAm.2.2.2.2.2.2.2.2.2.2.2.2.2.1 _ hy))) (fun w hw => ?_) hAm.2.2.1 hAm.2.2.2.1 hS (by rw [hml]; exact hl.1) d0 d3 d4 d6 d9 (fun x hx => by rw [htab] at hx; cases hx) (by show 2 + 3 < R.frames; omega) (by show _ + (13 * (2 + 1) + 43) ≤ R.locals; omega) (by omega) (by omega) hlk (fun t hA hz1 hq1 => ?_) hS.2.2 (by omega) (by omega)
  · have hg : w ∈ GW ∨ w ∈ exC cls := by
      rcases List.mem_cons.mp hw with rfl | hw
      · exact Or.inl hk0
      · rcases List.mem_cons.mp hw with rfl | hw
        · exact Or.inl hini
        · exact hat w hw
    rcases hg with hg | hg
    · unfold vx_ot
      rw [(List.mem_filter.mp hg).2, Bool.or_true]
    · rcases List.mem_cons.mp hg with rfl | hg
      · rfl
      · obtain ⟨y, hy, rfl⟩ := List.mem_map.mp hg
        rfl
  · refine ⟨w, hq _ hz1, ⟨fun a c9 hc => ?_, hm.2⟩, ⟨Nat.le_trans hS.1 hz1, fun q g1 g2 => ?_⟩⟩
    · exact atM_moved hA (atM_kept (hm.1 a c9 hc) (hq1 a (hm.lt hc)))
    · rw [hq1 q (Nat.lt_of_lt_of_le g1 hS.1)]
      exact hS.2.1 q g1 g2
end MROWS
