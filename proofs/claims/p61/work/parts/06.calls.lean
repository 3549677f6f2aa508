section CROWS
/-- what a call hands back -/
def rI (K : Int32 → Mm → Nat → Prop) : Option Value → Mm → Nat → Prop := fun v w z => ∃ r, v = some (.int r) ∧ K r w z
def rR (K : Nat → Mm → Nat → Prop) : Option Value → Mm → Nat → Prop := fun v w z => ∃ r, v = some (.ref r) ∧ K r w z
def rV (K : Mm → Nat → Prop) : Option Value → Mm → Nat → Prop := fun v w z => v = none ∧ K w z
def rD (K : UInt64 → Mm → Nat → Prop) : Option Value → Mm → Nat → Prop := fun v w z => ∃ r, v = some (.double r) ∧ K r w z
def rF (K : UInt32 → Mm → Nat → Prop) : Option Value → Mm → Nat → Prop := fun v w z => ∃ r, v = some (.float r) ∧ K r w z
def xN : String → Mm → Nat → Prop := fun _ _ _ => False
section
variable {p : Program} {l : Launch} {e : Env} {R : Room} {s : State} {m : MethodId} {args : Array Value} {below : List Frame} {meth : Method} {c : Code} {H : Heap} {locs : List Loc} {cells slots : Nat} {Qf : State → Prop}
theorem run_call {g : Gp} {pc : Nat} {ls : Array Slot} {st0 rest : List Value} {mc ms : Nat} {a : Array Value} {Q : Option Value → Mm → Nat → Prop} {X : String → Mm → Nat → Prop} (hr : vx_Run p l e R s m args below meth c H locs cells slots mc ms (F0 m pc ls st0) rest (ctQ g Q a) (ctX g X) (gA g)) (hS : va_S (gA g) s.heap H locs)
    (kk : ∀ (v : Option Value) (w : Mm) (H1 : Heap) (locs1 : List Loc), Q v w H1.size → hM g w s H1 → va_S (gA g) s.heap H1 locs1 → W p l e R s m args below meth c H1 locs1 (cells + mc) (slots + ms) Qf (F0 m (pc + 3) ls (v.toList ++ rest)))
    (kx : ∀ (E : String) (ce : Cell) (q : Addr) (w : Mm) (H1 : Heap) (locs1 : List Loc), X E w H1.size → hM g w s H1 → va_S (gA g) s.heap H1 locs1 → H1[q]? = some ce → ce.vm = .none → s.vm.findClass E = some ce.cls → vx_W p l e R s m args below meth c H1 locs1 (cells + mc) (slots + ms) Qf (F0 m pc ls rest) q) :
    W p l e R s m args below meth c H locs cells slots Qf (F0 m pc ls st0) := by
  intro T hT X'
  rcases hr T hT X' with ⟨v, st₀, t, T', L, h0, X1, hL, e1, e2, ⟨⟨v', w, hv, hp, hb⟩, hF⟩, st⟩ | ⟨q, st₀, t, T', L, E, ce, h0, X1, hL, e1, e2, ⟨w, hp, hb, hF⟩, hce, hcv, hcl, st⟩
  · cases hv
    obtain ⟨k1, k2, k3⟩ := vx_keep h0 e1 hS (fun _ _ h => h) (fun _ h => h) hL hF
    have hb2 : hM g w s T'.heap := by
      rw [e1]
      exact hb.moved (by rw [← e2]; exact X1.warmed.alike.symm)
    obtain ⟨t2, a1, b1⟩ := kk v w T'.heap (locs ++ L) (by rw [e1]; exact hp) hb2 k3 T' rfl X1
    exact ⟨t2, st t2 a1, b1⟩
  · obtain ⟨k1, k2, k3⟩ := vx_keep h0 e1 hS (fun _ _ h => h) (fun _ h => h) hL hF
    have hb2 : hM g w s T'.heap := by
      rw [e1]
      exact hb.moved (by rw [← e2]; exact X1.warmed.alike.symm)
    obtain ⟨t2, a1, b1⟩ := kx E ce q w T'.heap (locs ++ L) (by rw [e1]; exact hp) hb2 k3 (by rw [e1]; exact hce) hcv hcl T' rfl X1
    exact ⟨t2, st.trans a1, b1⟩
end
/-- the receiver's cell -/
theorem cell_r {g : Gp} {w : Mm} {s : State} {H : Heap} (hm : hM g w s H) (hK : va_K g.1 vwCl (gTy g) s) {b ci N : Nat} {Cn : String} {T : u_T} (hc : vwCl[ci]? = some (Cn, T, N)) (h : isO w b ci) : ∃ cell : Cell, H[b]? = some cell ∧ cell.vm.isStatics = false ∧ s.vm.findClass Cn = some cell.cls := by
  obtain ⟨bo, fs, h1⟩ := h
  cases bo with
  | true =>
    obtain ⟨r, r1, cell, q1, q2, q3, q4⟩ := atM_t hm h1
    refine ⟨cell, q1, by rw [q3]; rfl, ?_⟩
    rw [q2]
    exact ((hK.1 ci _ hc).2).1
  | false =>
    obtain ⟨⟨cell, q1, q2, q3, ⟨r, q4, q5⟩, q6⟩, q7⟩ := hm.1 b _ h1
    have hr : r = (Cn, T, N) := Option.some.inj (q4.symm.trans hc)
    subst hr
    exact ⟨cell, q1, q2, q5⟩
theorem cd_args {y : MethodName} {n : Nat} (h : (parseMethodDescriptor y.desc).map (fun d => d.parameters.length) = some n) : ∀ sig, parseMethodDescriptor y.desc = some sig → n = sig.parameters.length := fun sig hs => by
  rw [hs] at h
  exact (Option.some.inj h).symm
variable {C : Cx} {cc : ByteArray} {own : String} {nL d : Nat} {ret : Option FieldType} {hh : List (Nat × Nat × Nat × Nat)} {pc : Nat} {L : List (Nat × Value)} {st : List Value} {w : Mm} {z mc ms : Nat}
/-- what every call needs of the callee and of the room -/
theorem callB_gw {R : Room} {s : State} {args : Array Value} {y : MethodName} {bytes : ByteArray} {maxL idx n mc' ms' : Nat} {ret' : Option FieldType} (hts : ∀ w ∈ GW, w.before args s = true) (hcode : Cond.code y bytes maxL ret' ∈ GW) (hlink : Cond.methodLink own idx y ∈ GW) (hini : Cond.initialized y.cls ∈ GW)
    (hy : y.cls ≠ "java/lang/invoke/MethodHandle" ∧ y.cls ≠ "java/lang/invoke/VarHandle") (hn : (parseMethodDescriptor y.desc).map (fun d => d.parameters.length) = some n) (hL : maxL ≤ 41) (hR1 : d + 1 ≤ R.frames) (hR2 : 60 * (d + 1) ≤ R.locals) : CallB R s args own idx y bytes maxL ret' (.code y bytes maxL ret' :: GW) (rmD d mc' ms') mc' ms' n :=
  ⟨rfl, rfl, hR1, by show 8 + (maxL + 11) + 60 * d ≤ R.locals; omega, pay_in hts (gw_cons hcode), List.mem_cons_self, hts _ hcode, hts _ hini, hy, cd_args hn, hts _ hlink⟩
theorem callN_gw {R : Room} {s : State} {args : Array Value} {y : MethodName} {bytes : ByteArray} {maxL idx n mc' ms' : Nat} {host : String} {ret' : Option FieldType} (hts : ∀ w ∈ GW, w.before args s = true) (hcode : Cond.code y bytes maxL ret' ∈ GW) (hlink : (Cond.methodLinkNest own idx y host).before args s = true) (hini : Cond.initialized y.cls ∈ GW)
    (hy : y.cls ≠ "java/lang/invoke/MethodHandle" ∧ y.cls ≠ "java/lang/invoke/VarHandle") (hn : (parseMethodDescriptor y.desc).map (fun d => d.parameters.length) = some n) (hL : maxL ≤ 41) (hR1 : d + 1 ≤ R.frames) (hR2 : 60 * (d + 1) ≤ R.locals) : va_CN R s args own idx y host bytes maxL ret' (.code y bytes maxL ret' :: GW) (rmD d mc' ms') mc' ms' n :=
  ⟨⟨rfl, rfl, hR1, by show 8 + (maxL + 11) + 60 * d ≤ R.locals; omega, pay_in hts (gw_cons hcode), List.mem_cons_self⟩, hts _ hcode, hts _ hini, hy, cd_args hn, hlink⟩
theorem vw_callV (hX : CX C cc own nL ret hh (d + 1)) {y : MethodName} {bytes : ByteArray} {maxL ci N idx n b mc' ms' : Nat} {Cn : String} {T : u_T} {ret' : Option FieldType} {As stk : List Value} {Q : Option Value → Mm → Nat → Prop} {X : String → Mm → Nat → Prop} (hcode : Cond.code y bytes maxL ret' ∈ GW) (hlink : Cond.methodLink own idx y ∈ GW) (hinst : Cond.instanceMethod y ∈ GW) (hsel : Cond.selects Cn y y ∈ GW) (hini : Cond.initialized y.cls ∈ GW)
    (hy : y.cls ≠ "java/lang/invoke/MethodHandle" ∧ y.cls ≠ "java/lang/invoke/VarHandle") (hn : (parseMethodDescriptor y.desc).map (fun d => d.parameters.length) = some n) (hL : maxL ≤ 41) (hc : vwCl[ci]? = some (Cn, T, N)) (hr : isO w b ci) (hn2 : As.length = n) (hst : stk = As.reverse ++ .ref b :: st) (hcat : (st.map fun v => v.category).sum ≤ 8) (hd : decode cc pc = .ok (.invokevirtual idx, 3)) (h1 : mc' ≤ mc) (h2 : ms' ≤ ms)
    (hM0 : Ct C.2.2.2.1 C.1 y (.code y bytes maxL ret') d mc' ms' (.ref b :: As) w z Q X) (kk : ∀ (v : Option Value) (w' : Mm) (z' : Nat), Q v w' z' → VW C (pc + 3) L (v.toList ++ st) w' z' (mc - mc') (ms - ms')) (kx : ∀ (E : String) (w' : Mm) (z' : Nat), X E w' z' → VX C pc L E w' z' (mc - mc') (ms - ms')) : VW C pc L stk w z mc ms := by
  obtain ⟨g, ⟨nL', MC, MS⟩, p, l, e, R, s, m, args, below, meth, c, Qf⟩ := C
  obtain ⟨hx, hb, hml, hnl, hown, hts, hAm, hst9, hlk, hr9, htab, hR1, hR2, hR3, hR4⟩ := hX
  intro H locs ls k n' hz hm hS hl hk hn'
  subst hnl
  refine run_call (vx_runV (As := As) (rest := st) (nL := nL') (Ts := GW) ⟨hx, hb, hml, hown, hts⟩ hM0 ⟨callB_gw hts hcode hlink hini hy hn hL hR1 hR2, hts _ hinst, hts _ hsel⟩ ⟨ctP_blind, cell_r hm hAm.1 hc hr, fun U hU hW => ⟨rfl, by rw [hU]; exact hz, by rw [hU]; exact hm.moved hW.alike, by rw [hU]; exact hAm.warm hW hS⟩⟩ rfl hn2 hl.1 hst (lv_room hcat) hd ⟨by omega, by omega⟩) hS
    (fun v w' H1 locs1 hq hm1 hS1 => kk v w' _ hq H1 locs1 ls _ _ rfl hm1 hS1 hl (by omega) (by omega)) (fun E ce q w' H1 locs1 hq hm1 hS1 g1 g2 g3 => kx E w' _ hq H1 locs1 ls _ _ st q ce rfl hm1 hS1 hl (by omega) (by omega) g1 g2 g3)
theorem vw_callS (hX : CX C cc own nL ret hh (d + 1)) {y : MethodName} {bytes : ByteArray} {maxL idx n mc' ms' : Nat} {ret' : Option FieldType} {As stk : List Value} {Q : Option Value → Mm → Nat → Prop} {X : String → Mm → Nat → Prop} (hcode : Cond.code y bytes maxL ret' ∈ GW) (hlink : Cond.methodLink own idx y ∈ GW) (hstat : Cond.static y ∈ GW) (hini : Cond.initialized y.cls ∈ GW)
    (hy : y.cls ≠ "java/lang/invoke/MethodHandle" ∧ y.cls ≠ "java/lang/invoke/VarHandle") (hn : (parseMethodDescriptor y.desc).map (fun d => d.parameters.length) = some n) (hL : maxL ≤ 41) (hn2 : As.length = n) (hst : stk = As.reverse ++ st) (hcat : (st.map fun v => v.category).sum ≤ 8) (hd : decode cc pc = .ok (.invokestatic idx, 3)) (h1 : mc' ≤ mc) (h2 : ms' ≤ ms)
    (hM0 : Ct C.2.2.2.1 C.1 y (.code y bytes maxL ret') d mc' ms' As w z Q X) (kk : ∀ (v : Option Value) (w' : Mm) (z' : Nat), Q v w' z' → VW C (pc + 3) L (v.toList ++ st) w' z' (mc - mc') (ms - ms')) (kx : ∀ (E : String) (w' : Mm) (z' : Nat), X E w' z' → VX C pc L E w' z' (mc - mc') (ms - ms')) : VW C pc L stk w z mc ms := by
  obtain ⟨g, ⟨nL', MC, MS⟩, p, l, e, R, s, m, args, below, meth, c, Qf⟩ := C
  obtain ⟨hx, hb, hml, hnl, hown, hts, hAm, hst9, hlk, hr9, htab, hR1, hR2, hR3, hR4⟩ := hX
  intro H locs ls k n' hz hm hS hl hk hn'
  subst hnl
  refine run_call (vx_runS (As := As) (rest := st) (nL := nL') (Ts := GW) ⟨hx, hb, hml, hown, hts⟩ hM0 ⟨callB_gw hts hcode hlink hini hy hn hL hR1 hR2, hts _ hstat⟩ ⟨ctP_blind, fun U hU hW => ⟨rfl, by rw [hU]; exact hz, by rw [hU]; exact hm.moved hW.alike, by rw [hU]; exact hAm.warm hW hS⟩⟩ rfl hn2 hl.1 hst (lv_room hcat) hd ⟨by omega, by omega⟩) hS
    (fun v w' H1 locs1 hq hm1 hS1 => kk v w' _ hq H1 locs1 ls _ _ rfl hm1 hS1 hl (by omega) (by omega)) (fun E ce q w' H1 locs1 hq hm1 hS1 g1 g2 g3 => kx E w' _ hq H1 locs1 ls _ _ st q ce rfl hm1 hS1 hl (by omega) (by omega) g1 g2 g3)
theorem vw_callI (hX : CX C cc own nL ret hh (d + 1)) {y : MethodName} {bytes : ByteArray} {maxL idx n b mc' ms' : Nat} {As stk : List Value} {Q : Option Value → Mm → Nat → Prop} {X : String → Mm → Nat → Prop} (hcode : Cond.code y bytes maxL none ∈ GW) (hlink : Cond.methodLink own idx y ∈ GW) (hinst : Cond.instanceMethod y ∈ GW) (hini : Cond.initialized y.cls ∈ GW) (hy1 : y.name = "<init>")
    (hy : y.cls ≠ "java/lang/invoke/MethodHandle" ∧ y.cls ≠ "java/lang/invoke/VarHandle") (hn : (parseMethodDescriptor y.desc).map (fun d => d.parameters.length) = some n) (hL : maxL ≤ 41) (hn2 : As.length = n) (hst : stk = As.reverse ++ .ref b :: st) (hcat : (st.map fun v => v.category).sum ≤ 8) (hd : decode cc pc = .ok (.invokespecial idx, 3)) (h1 : mc' ≤ mc) (h2 : ms' ≤ ms)
    (hM0 : Ct C.2.2.2.1 C.1 y (.code y bytes maxL none) d mc' ms' (.ref b :: As) w z Q X) (kk : ∀ (v : Option Value) (w' : Mm) (z' : Nat), Q v w' z' → VW C (pc + 3) L (v.toList ++ st) w' z' (mc - mc') (ms - ms')) (kx : ∀ (E : String) (w' : Mm) (z' : Nat), X E w' z' → VX C pc L E w' z' (mc - mc') (ms - ms')) : VW C pc L stk w z mc ms := by
  obtain ⟨g, ⟨nL', MC, MS⟩, p, l, e, R, s, m, args, below, meth, c, Qf⟩ := C
  obtain ⟨hx, hb, hml, hnl, hown, hts, hAm, hst9, hlk, hr9, htab, hR1, hR2, hR3, hR4⟩ := hX
  intro H locs ls k n' hz hm hS hl hk hn'
  subst hnl
  refine run_call (vx_runI (As := As) (rest := st) (nL := nL') (Ts := GW) ⟨hx, hb, hml, hown, hts⟩ hM0 ⟨callB_gw hts hcode hlink hini hy hn hL hR1 hR2, hy1, hts _ hinst⟩ ⟨ctP_blind, fun U hU hW => ⟨rfl, by rw [hU]; exact hz, by rw [hU]; exact hm.moved hW.alike, by rw [hU]; exact hAm.warm hW hS⟩⟩ rfl hn2 hl.1 hst (lv_room hcat) hd ⟨by omega, by omega⟩) hS
    (fun v w' H1 locs1 hq hm1 hS1 => kk v w' _ hq H1 locs1 ls _ _ rfl hm1 hS1 hl (by omega) (by omega)) (fun E ce q w' H1 locs1 hq hm1 hS1 g1 g2 g3 => kx E w' _ hq H1 locs1 ls _ _ st q ce rfl hm1 hS1 hl (by omega) (by omega) g1 g2 g3)
/-! ends -/
theorem vw_iret {Q : Option Value → Mm → Nat → Prop} {X : String → Mm → Nat → Prop} {v : Int32} (hX : CX C cc own nL (some .int) hh d) (hE : EQ C Q X) (hd : decode cc pc = .ok (.ireturn, 1)) (hq : Q (some (.int v)) w z) : VW C pc L [.int v] w z mc ms := by
  obtain ⟨g, ⟨nL', MC, MS⟩, p, l, e, R, s, m, args, below, meth, c, Qf⟩ := C
  obtain ⟨hx, hb, hml, hnl, hown, hts, hAm, hst9, hlk, hr9, htab, hR1, hR2, hR3, hR4⟩ := hX
  intro H locs ls k n' hz hm hS hl hk hn'
  obtain rfl : Qf = _ := hE
  refine W.widen (k := MC) (n := MS) (by omega) (by omega) (vx_ret ?_)
  exact W.iret hx hb hr9 (fun t ht hW => ⟨⟨_, w, rfl, by rw [ht, hz]; exact hq, by rw [ht]; exact hm.moved hW.alike⟩, hS.F ht⟩) hS.2.2 hd hlk
theorem vw_zret {Q : Option Value → Mm → Nat → Prop} {X : String → Mm → Nat → Prop} {v : Int32} {ty : FieldType} (hX : CX C cc own nL (some ty) hh d) (hE : EQ C Q X) (hd : decode cc pc = .ok (.ireturn, 1)) (hnr : narrow ty (.int v) = .int v) (hq : Q (some (.int v)) w z) : VW C pc L [.int v] w z mc ms := by
  obtain ⟨g, ⟨nL', MC, MS⟩, p, l, e, R, s, m, args, below, meth, c, Qf⟩ := C
  obtain ⟨hx, hb, hml, hnl, hown, hts, hAm, hst9, hlk, hr9, htab, hR1, hR2, hR3, hR4⟩ := hX
  intro H locs ls k n' hz hm hS hl hk hn'
  obtain rfl : Qf = _ := hE
  refine W.widen (k := MC) (n := MS) (by omega) (by omega) (vx_ret ?_)
  exact W.zret hx hb hr9 hnr (fun t ht hW => ⟨⟨_, w, rfl, by rw [ht, hz]; exact hq, by rw [ht]; exact hm.moved hW.alike⟩, hS.F ht⟩) hS.2.2 hd hlk
theorem vw_vret {Q : Option Value → Mm → Nat → Prop} {X : String → Mm → Nat → Prop} (hX : CX C cc own nL none hh d) (hE : EQ C Q X) (hd : decode cc pc = .ok (.return_, 1)) (hq : Q none w z) : VW C pc L [] w z mc ms := by
  obtain ⟨g, ⟨nL', MC, MS⟩, p, l, e, R, s, m, args, below, meth, c, Qf⟩ := C
  obtain ⟨hx, hb, hml, hnl, hown, hts, hAm, hst9, hlk, hr9, htab, hR1, hR2, hR3, hR4⟩ := hX
  intro H locs ls k n' hz hm hS hl hk hn'
  obtain rfl : Qf = _ := hE
  refine W.widen (k := MC) (n := MS) (by omega) (by omega) (vx_ret ?_)
  exact W.vret hx hb hr9 (fun t ht hW => ⟨⟨_, w, rfl, by rw [ht, hz]; exact hq, by rw [ht]; exact hm.moved hW.alike⟩, hS.F ht⟩) hS.2.2 hd hlk
theorem vw_aret {Q : Option Value → Mm → Nat → Prop} {X : String → Mm → Nat → Prop} {q : Nat} {ty : FieldType} (hX : CX C cc own nL (some ty) hh d) (hE : EQ C Q X) (hty : (∃ n, ty = .object n) ∨ ∃ t, ty = .array t) (hd : decode cc pc = .ok (.areturn, 1)) (hq : Q (some (.ref q)) w z) : VW C pc L [.ref q] w z mc ms := by
  obtain ⟨g, ⟨nL', MC, MS⟩, p, l, e, R, s, m, args, below, meth, c, Qf⟩ := C
  obtain ⟨hx, hb, hml, hnl, hown, hts, hAm, hst9, hlk, hr9, htab, hR1, hR2, hR3, hR4⟩ := hX
  intro H locs ls k n' hz hm hS hl hk hn'
  obtain rfl : Qf = _ := hE
  refine W.widen (k := MC) (n := MS) (by omega) (by omega) (vx_ret ?_)
  exact W.aret hx hb hr9 hty (Or.inr ⟨_, rfl⟩) (fun t ht hW => ⟨⟨_, w, rfl, by rw [ht, hz]; exact hq, by rw [ht]; exact hm.moved hW.alike⟩, hS.F ht⟩) hS.2.2 hd hlk
theorem vw_fret {Q : Option Value → Mm → Nat → Prop} {X : String → Mm → Nat → Prop} {v : UInt32} (hX : CX C cc own nL (some .float) hh d) (hE : EQ C Q X) (hd : decode cc pc = .ok (.freturn, 1)) (hq : Q (some (.float v)) w z) : VW C pc L [.float v] w z mc ms := by
  obtain ⟨g, ⟨nL', MC, MS⟩, p, l, e, R, s, m, args, below, meth, c, Qf⟩ := C
  obtain ⟨hx, hb, hml, hnl, hown, hts, hAm, hst9, hlk, hr9, htab, hR1, hR2, hR3, hR4⟩ := hX
  intro H locs ls k n' hz hm hS hl hk hn'
  obtain rfl : Qf = _ := hE
  refine W.widen (k := MC) (n := MS) (by omega) (by omega) (vx_ret ?_)
  exact W.fret hx hb hr9 (fun t ht hW => ⟨⟨_, w, rfl, by rw [ht, hz]; exact hq, by rw [ht]; exact hm.moved hW.alike⟩, hS.F ht⟩) hS.2.2 hd hlk
theorem vw_dret {Q : Option Value → Mm → Nat → Prop} {X : String → Mm → Nat → Prop} {v : UInt64} (hX : CX C cc own nL (some .double) hh d) (hE : EQ C Q X) (hd : decode cc pc = .ok (.dreturn, 1)) (hq : Q (some (.double v)) w z) : VW C pc L [.double v] w z mc ms := by
  obtain ⟨g, ⟨nL', MC, MS⟩, p, l, e, R, s, m, args, below, meth, c, Qf⟩ := C
  obtain ⟨hx, hb, hml, hnl, hown, hts, hAm, hst9, hlk, hr9, htab, hR1, hR2, hR3, hR4⟩ := hX
  intro H locs ls k n' hz hm hS hl hk hn'
  obtain rfl : Qf = _ := hE
  refine W.widen (k := MC) (n := MS) (by omega) (by omega) (vx_ret ?_)
  exact W.dret hx hb hr9 (fun t ht hW => ⟨⟨_, w, rfl, by rw [ht, hz]; exact hq, by rw [ht]; exact hm.moved hW.alike⟩, hS.F ht⟩) hS.2.2 hd hlk
end CROWS
