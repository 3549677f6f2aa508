/-! THE CLAIM OUT OF ONE WALK OF THE LAW'S BODY. Your part is whole_start (and what it stands on); all else here is the same for every law, but numbers. -/
def R_law : String := "TicketCheckLaw"
def lw_P (b : Addr) (xs : List Int32) (args : Array Value) (s : State) : Prop := args = #[.ref b] ∧ s.IntsAt b xs ∧ xs.length ≤ 260 ∧ (Jvm.Cond.and given_1 narrow_1).before args s = true
def lw_Q (_ : Array Value) (s : State) (o : Outcome) (t : State) : Prop := o = .returned (some (.int 1)) ∧ Framed s o t [] 600086 7301442
def lw_Z (below : List Frame) (a : Array Value) (s : State) : State → Prop := fun t => ∃ o, t.status = .running ∧ Ended t below o ∧ lw_Q a s o t
/-- the law's own end, with 1 on the stack, nothing written that was there before, its room as the claim has it -/
theorem lw_ret {p : Program} {l : Launch} {e : Env} {s : State} {m : MethodId} {below : List Frame} {meth : Method} {c : Code} {b : Nat} (hx : p.tables.exec = Jvm.exec) (hb : c.code = code) (hr : meth.sig.returnType = ret) (hlocks : meth.locks = false) {pc : Nat} {H : Heap} {ls : Array Slot} (hdg : decode code pc = .ok (.ireturn, 1)) : W p l e room_1 s m #[Value.ref b] below meth c H [] 600086 7301442 (lw_Z below #[Value.ref b] s) (F0 m pc ls [.int 1]) := by
  intro T hT X
  obtain ⟨fs, hret, hrun, hended, hW, hframe⟩ := X.leave (v := some (.int 1)) (hlocks := hlocks) (fun h => by rw [hr] at h; cases h)
  have hmeth' : T.vm.method? m = some meth := X.method'
  refine ⟨T.setFrames fs, ?_, .returned (some (.int 1)), hrun, hended, rfl, ⟨_, rfl⟩, hW, hframe⟩
  jvm_step X.here [X.here.top, hx, hb, hdg, hmeth', hr, ret, narrow_b1]
  (try refine ⟨rfl, ?_⟩); (try refine ⟨rfl, ?_⟩)
  first | (intro acts; rw [hret _ acts rfl rfl rfl]) | rw [hret _ _ rfl rfl rfl]
  exact Steps.refl _
/-- what holds at the law's entry: the machine, the code, the tables' words (any of lw_tbl by 'hts w (by decide +kernel)'), the script of L ints xs at the cell b, what the Statement gives of the start (any of its parts by flat_of_before) -/
def lw_At (p : Program) (s : State) (m : MethodId) (meth : Method) (c : Code) (b L : Nat) (xs : Nat → Int32) : Prop :=
  p.tables.exec = Jvm.exec ∧ c.code = code ∧ meth.sig.returnType = ret ∧ c.maxLocals = 11 ∧ s.vm.findClass R_law = some m.cls ∧ (∀ w ∈ lw_tbl, w.before #[Value.ref b] s = true) ∧ va_X b L xs s s.heap ∧ b < s.heap.size ∧ meth.locks = false ∧ (Jvm.Cond.and given_1 narrow_1).before #[Value.ref b] s = true
section LAWF
/-- a method with a table of its own, by its body -/
theorem Ct.ofH {l : Launch} {g : Gp} {y : MethodName} {cc : ByteArray} {maxL : Nat} {ret : Option FieldType} {hh : List (Nat × Nat × Nat × Nat)} {d mc ms : Nat} {as : List Value} {w : Mm} {z : Nat} {Q : Option Value → Mm → Nat → Prop} {X : String → Mm → Nat → Prop} (hst : l.stackTraces = false) (hy : plainName y.cls = true) (hlen : (lg_sl as).length ≤ maxL)
    (body : ∀ C : Cx, CX C cc y.cls maxL ret hh d → EQ C Q X → C.1 = g → C.2.2.2.1 = l → nmC C = y.name → VW C 0 (lv_args 0 as) [] w z mc ms) : Ct l g y (.codeWith y cc maxL ret hh) d mc ms as w z Q X := by
  refine vx_ofWH (cc := cc) (maxL := maxL) (ret := ret) (hh := hh) hy rfl ?_
  intro p e s m args below meth c s₁ B hml hv
  obtain ⟨rfl, hsz, hP, hAm⟩ := hv
  have hx := B.exec
  have hb := B.bytes
  have hr := B.returns
  have hts := atoms_spec (ws := Cond.codeWith y cc maxL ret hh :: GW) B.pre
  have hown : s.vm.findClass y.cls = some m.cls := findClass_of_methodNamed B.named
  have hlocks := B.notSynchronized
  have hl := lv_entry as (n := maxL) hlen
  rw [lg_entry_eq]
  have ht0 : c.exceptionTable.toList = tableOf hh := vx_table (x := y) B (hts _ List.mem_cons_self)
  exact body (g, (maxL, mc, ms), p, l, e, (headSpec (Cond.codeWith y cc maxL ret hh :: GW) (rmD d mc ms)).room, s, m, as.toArray, below, meth, c, vx_MQ below (ctQ g Q) (ctX g X) as.toArray s mc ms (gA g))
    ⟨hx, hb, hml, rfl, hown, fun w hw => hts w (List.mem_cons_of_mem _ hw), hAm, hst, hlocks, hr, ht0, Nat.le_refl _, Nat.le_refl _, Nat.le_refl _, Nat.le_refl _⟩ rfl rfl rfl (name_of_methodNamed B.named B.method).1 s.heap [] _ 0 0 hsz hP va_S.rf hl (by omega) (by omega)
variable {C : Cx} {cc : ByteArray} {own : String} {nL d : Nat} {ret : Option FieldType} {hh : List (Nat × Nat × Nat × Nat)} {pc : Nat} {L : List (Nat × Value)} {st : List Value} {w : Mm} {z mc ms : Nat}
/-- a static call of a method with a table -/
theorem vw_callSW (hX : CX C cc own nL ret hh (d + 1)) {y : MethodName} {bytes : ByteArray} {maxL idx n mc' ms' : Nat} {ret' : Option FieldType} {hh' : List (Nat × Nat × Nat × Nat)} {As stk : List Value} {Q : Option Value → Mm → Nat → Prop} {X : String → Mm → Nat → Prop} (hcode : Cond.codeWith y bytes maxL ret' hh' ∈ GW) (hlink : Cond.methodLink own idx y ∈ GW) (hstat : Cond.static y ∈ GW) (hini : Cond.initialized y.cls ∈ GW)
    (hy : y.cls ≠ "java/lang/invoke/MethodHandle" ∧ y.cls ≠ "java/lang/invoke/VarHandle") (hn : (parseMethodDescriptor y.desc).map (fun d => d.parameters.length) = some n) (hL : maxL ≤ 41) (hn2 : As.length = n) (hst : stk = As.reverse ++ st) (hcat : (st.map fun v => v.category).sum ≤ 8) (hd : decode cc pc = .ok (.invokestatic idx, 3)) (h1 : mc' ≤ mc) (h2 : ms' ≤ ms)
    (hM0 : Ct C.2.2.2.1 C.1 y (.codeWith y bytes maxL ret' hh') d mc' ms' As w z Q X) (kk : ∀ (v : Option Value) (w' : Mm) (z' : Nat), Q v w' z' → VW C (pc + 3) L (v.toList ++ st) w' z' (mc - mc') (ms - ms')) (kx : ∀ (E : String) (w' : Mm) (z' : Nat), X E w' z' → VX C pc L E w' z' (mc - mc') (ms - ms')) : VW C pc L stk w z mc ms := by
  obtain ⟨g, ⟨nL', MC, MS⟩, p, l, e, R, s, m, args, below, meth, c, Qf⟩ := C
  obtain ⟨hx, hb, hml, hnl, hown, hts, hAm, hst9, hlk, hr9, htab, hR1, hR2, hR3, hR4⟩ := hX
  intro H locs ls k n' hz hm hS hl hk hn'
  subst hnl
  refine run_call (vx_runSX (As := As) (rest := st) (nL := nL') (Ts := GW) ⟨hx, hb, hml, hown, hts⟩ hM0 ⟨⟨rfl, rfl, hR1, by show 8 + (maxL + 11) + 60 * d ≤ R.locals; omega, pay_in hts (gw_cons hcode), List.mem_cons_self⟩, hts _ hcode, hts _ hini, hy, cd_args hn, hts _ hlink, hts _ hstat⟩ ⟨ctP_blind, fun U hU hW => ⟨rfl, by rw [hU]; exact hz, by rw [hU]; exact hm.moved hW.alike, by rw [hU]; exact hAm.warm hW hS⟩⟩ rfl hn2 hl.1 hst (lv_room hcat) hd ⟨by omega, by omega⟩) hS
    (fun v w' H1 locs1 hq hm1 hS1 => kk v w' _ hq H1 locs1 ls _ _ rfl hm1 hS1 hl (by omega) (by omega)) (fun E ce q w' H1 locs1 hq hm1 hS1 g1 g2 g3 => kx E w' _ hq H1 locs1 ls _ _ st q ce rfl hm1 hS1 hl (by omega) (by omega) g1 g2 g3)
/-- caught by the row behind pre; the rows of pre name other classes -/
theorem vw_catch (hX : CX C cc own nL ret hh d) {E : String} (pre suf : List (Nat × Nat × Nat × Nat)) {a b hp ct : Nat} (hhe : hh = pre ++ (a, b, hp, ct) :: suf) (hpre : ∀ q ∈ pre, q.2.2.2 ≠ 0 ∧ ∃ nm, Cond.classLink own q.2.2.2 nm ∈ GW ∧ (E, nm) ∈ ambN) (hin : a ≤ pc ∧ pc < b) (h0 : ct ≠ 0) (hlink : Cond.classLink own ct E ∈ GW) (hck : (E, E) ∈ ambK) (kk : ∀ q : Nat, VW C hp L [.ref q] w z mc ms) : VX C pc L E w z mc ms := by
  obtain ⟨g, ⟨nL', MC, MS⟩, p, l, e, R, s, m, args, below, meth, c, Qf⟩ := C
  obtain ⟨hx, hb, hml, hnl, hown, hts, hAm, hst9, hlk, hr9, htab, hR1, hR2, hR3, hR4⟩ := hX
  intro H locs ls k n' rest q ce hz hm hS hl hk hn' g1 g2 g3
  subst hhe
  have hspl : c.exceptionTable.toList = (tableOf pre) ++ ⟨a, b, hp, ct⟩ :: tableOf suf := by
    rw [htab]
    simp [tableOf]
  refine vx_catch hown (tableOf pre) ⟨a, b, hp, ct⟩ (tableOf suf) hspl (fun x hx => Or.inr ?_) (by simp [covers, hin]) h0 (hts _ hlink) (va_Nw.use rfl (hAm.2.2.2.2.2.2.2.2.2.2.2.2.1 _ hck)) g1 g2 g3 (kk q H locs ls k n' hz hm hS hl hk hn')
  obtain ⟨y, hy, rfl⟩ : ∃ y ∈ pre, x = ⟨y.1, y.2.1, y.2.2.1, y.2.2.2⟩ := by
    simp only [tableOf, List.mem_map] at hx
    obtain ⟨y, hy, rfl⟩ := hx
    exact ⟨y, hy, rfl⟩
  obtain ⟨h1, nm, h2, h3⟩ := hpre y hy
  exact ⟨h1, nm, hts _ h2, hAm.2.2.2.2.2.2.2.2.2.1 _ h3⟩
/-- the law's own end -/
def EL (C : Cx) : Prop :=
  match C with
  | (g, (nL', MC, MS), p, l, e, R, s, m, args, below, meth, c, Qf) => ∃ b : Nat, Qf = lw_Z below #[Value.ref b] s ∧ args = #[Value.ref b] ∧ R = room_1 ∧ g.2.2.1 = s.heap.size ∧ MC = 600086 ∧ MS = 7301442
theorem vw_lawret (hX : CX C cL_law own nL (some .boolean) hh d) (hE : EL C) {v : Int32} (hd : decode cL_law pc = .ok (.ireturn, 1)) (hq : v = 1) : VW C pc L [.int v] w z mc ms := by
  obtain ⟨g, ⟨nL', MC, MS⟩, p, l, e, R, s, m, args, below, meth, c, Qf⟩ := C
  obtain ⟨hx, hb, hml, hnl, hown, hts, hAm, hst9, hlk, hr9, htab, hR1, hR2, hR3, hR4⟩ := hX
  obtain ⟨b, rfl, rfl, rfl, hbase, rfl, rfl⟩ := hE
  intro H locs ls k n' hz hm hS hl hk hn'
  subst hq
  refine va_forget (fun q hq => by have := hS.2.2 q hq; show s.heap.size ≤ q.base; rw [← hbase]; exact this) ?_
  refine W.widen (k := 600086) (n := 7301442) (by omega) (by omega) ?_
  exact lw_ret hx hb hr9 hlk hd
end LAWF
