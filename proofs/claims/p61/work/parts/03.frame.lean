/-! The words: all of the tables that any method may hand to another. -/
def GW : List Cond := (lw_tbl ++ exSel).filter goodWord
theorem gw_of {w : Cond} (i : Nat) (h : lw_tbl[i]? = some w) (hg : goodWord w = true) : w ∈ GW := List.mem_filter.mpr ⟨List.mem_append_left _ (List.mem_of_getElem? h), hg⟩
theorem gw_all {ws : List Cond} (h : ∀ w ∈ ws, w ∈ lw_tbl) (hg : ws.all goodWord = true) : ∀ w ∈ ws, w ∈ GW := fun w hw => List.mem_filter.mpr ⟨List.mem_append_left _ (h w hw), List.all_eq_true.mp hg w hw⟩
theorem gw_ex {w : Cond} (i : Nat) (h : exSel[i]? = some w) (hg : goodWord w = true) : w ∈ GW := List.mem_filter.mpr ⟨List.mem_append_right _ (List.mem_of_getElem? h), hg⟩
theorem gw_or {ws cs : List Cond} (h : ws.all (fun w => (decide (w ∈ lw_tbl) && goodWord w) || decide (w ∈ cs)) = true) : ∀ w ∈ ws, w ∈ GW ∨ w ∈ cs := fun w hw => by
  have h1 := List.all_eq_true.mp h w hw
  simp only [Bool.or_eq_true, Bool.and_eq_true, decide_eq_true_eq] at h1
  rcases h1 with h1 | h1
  · exact Or.inl (List.mem_filter.mpr ⟨List.mem_append_left _ h1.1, h1.2⟩)
  · exact Or.inr h1
def exD : List MethodName := [Bundle.initS "java/lang/RuntimeException", Bundle.initS "java/lang/Exception", Bundle.initS Bundle.tN]
def exC (cls : String) : List Cond := .castable cls cls :: exD.map Cond.declares
theorem gw_good : GoodIn GW GW := fun w hw => ⟨hw, good_of_word (List.mem_filter.mp hw).2⟩
theorem gw_cons {w : Cond} (hw : w ∈ GW) : GoodIn GW (w :: GW) := fun v hv => by
  rcases List.mem_cons.mp hv with rfl | hv
  · exact gw_good _ hw
  · exact gw_good _ hv
/-! The abstract heap: what stands at an address, and whether it may be written. -/
abbrev Ce : Type := (Nat × List Value) ⊕ (Nat × Nat × ((Nat → Int32) ⊕ (Nat → Int64) ⊕ (Nat → Option Nat)))
abbrev Mm : Type := Nat → Option (Bool × Ce)
/-- the global picture: classes and fields, the arrays' classes, the first address of the law's own, the literals' addresses -/
abbrev Gp : Type := va_G × (Nat → ClassId) × Nat × (Nat → Nat) × Nat × Nat
def toE (aC : Nat → ClassId) (e : Ce) : va_E := match e with
  | .inl o => .inr o
  | .inr (k, n, .inl f) => .inl (aC k, n, .inl f)
  | .inr (k, n, .inr (.inl f)) => .inl (aC k, n, .inr (.inl f))
  | .inr (k, n, .inr (.inr f)) => .inl (aC k, n, .inr (.inr (.inr (.inr f))))
def aT (k : Nat) : FieldType := match k with
  | 0 => .int
  | 1 => .byte
  | 2 => .boolean
  | 3 => .int
  | 4 => .object "TicketCheck$State"
  | 5 => .object "TicketCheck$Passenger"
  | 6 => .object "TicketCheck$Ticket"
  | _ => .object "TicketCheck$Case"
def gA (g : Gp) : Nat → Prop := fun q => g.2.2.1 ≤ q
def gTy (g : Gp) : List (ClassId × FieldType) := (List.range 8).map (fun k => (g.2.1 k, aT k))
theorem gTy_at (g : Gp) {k : Nat} (hk : k < 8) : (gTy g)[k]? = some (g.2.1 k, aT k) := by
  simp [gTy, hk]
/-- a constant's cell: what of it is known -/
def atC (g : Gp) (a : Nat) (e : Ce) (U : State) (H : Heap) : Prop := match e with
  | .inl o => ∃ cell : Cell, H[a]? = some cell ∧ cell.vm.isStatics = false ∧ cell.vm ≠ .unknown ∧ (∃ r : vw_C, vwCl[o.1]? = some r ∧ U.vm.findClass r.1 = some cell.cls) ∧ ∀ (k : Nat) (v : Value), o.2[k]? = some v → cell.slots[g.1.2 o.1 k]? = some v
  | .inr (k, n, .inl f) => ∃ cell : Cell, H[a]? = some cell ∧ U.isArrayOf cell (aT k) ∧ cell.vm ≠ .unknown ∧ n ≤ cell.slots.size ∧ cell.slots.size.toInt32 = Int32.ofNat n ∧ ∀ j : Nat, j < n → cell.slots[j]? = some (.int (f j))
  | .inr (_, _, .inr _) => False
def atM (g : Gp) (a : Nat) (c : Bool × Ce) (U : State) (H : Heap) : Prop := match c.1 with
  | true => va_at g.1 vwCl (a, toE g.2.1 c.2) H ∧ g.2.2.1 ≤ a
  | false => atC g a c.2 U H ∧ a < g.2.2.1
/-- the literals: their bytes by their places -/
def isLit (w : Mm) (q : Nat) (t : List Int32) : Prop := ∃ (v : Nat) (f : Nat → Int32), w q = some (false, .inl (0, [.ref v, .int 0])) ∧ w v = some (false, .inr (1, t.length, .inl f)) ∧ ∀ j, j < t.length → f j = t.getD j 0
def isTab (w : Mm) (q : Nat) (t : List Int32) : Prop := ∃ f : Nat → Int32, w q = some (false, .inr (1, t.length, .inl f)) ∧ ∀ j, j < t.length → f j = t.getD j 0
def hM (g : Gp) (w : Mm) (U : State) (H : Heap) : Prop :=
  (∀ (a : Nat) (c : Bool × Ce), w a = some c → atM g a c U H) ∧ (∀ (i : Nat) (t : List Int32), lits[i]? = some t → isLit w (g.2.2.2.1 i) t) ∧ isTab w g.2.2.2.2.1 digT ∧ isTab w g.2.2.2.2.2 digO
def mset (w : Mm) (a : Nat) (e : Ce) : Mm := fun q => if q = a then some (true, e) else w q
theorem mset_eq (w : Mm) (a : Nat) (e : Ce) : mset w a e a = some (true, e) := if_pos rfl
theorem mset_ne {w : Mm} {a q : Nat} {e : Ce} (h : q ≠ a) : mset w a e q = w q := if_neg h
theorem atC_lt {g : Gp} {a : Nat} {e : Ce} {U : State} {H : Heap} (h : atC g a e U H) : a < H.size := by
  rcases e with o | ⟨k, n, f | f⟩
  · obtain ⟨cell, h1, -⟩ := h
    exact (Array.getElem?_eq_some_iff.mp h1).1
  · obtain ⟨cell, h1, -⟩ := h
    exact (Array.getElem?_eq_some_iff.mp h1).1
  · exact h.elim
theorem atM_lt {g : Gp} {a : Nat} {c : Bool × Ce} {U : State} {H : Heap} (h : atM g a c U H) : a < H.size := by
  rcases c with ⟨b | b, e⟩
  · exact atC_lt h.1
  · exact h.1.lt
theorem atC_kept {g : Gp} {a : Nat} {e : Ce} {U : State} {H H1 : Heap} (h : atC g a e U H) (hq : H1[a]? = H[a]?) : atC g a e U H1 := by
  rcases e with o | ⟨k, n, f | f⟩
  · obtain ⟨cell, h1, h2⟩ := h
    exact ⟨cell, by rw [hq]; exact h1, h2⟩
  · obtain ⟨cell, h1, h2⟩ := h
    exact ⟨cell, by rw [hq]; exact h1, h2⟩
  · exact h
theorem atM_kept {g : Gp} {a : Nat} {c : Bool × Ce} {U : State} {H H1 : Heap} (h : atM g a c U H) (hq : H1[a]? = H[a]?) : atM g a c U H1 := by
  rcases c with ⟨b | b, e⟩
  · exact ⟨atC_kept h.1 hq, h.2⟩
  · exact ⟨h.1.kept hq, h.2⟩
theorem atC_moved {g : Gp} {a : Nat} {e : Ce} {u U : State} {H : Heap} (hvm : u.vm.Alike U.vm) (h : atC g a e u H) : atC g a e U H := by
  rcases e with o | ⟨k, n, f | f⟩
  · obtain ⟨cell, h1, h2, h3, ⟨r, h4, h5⟩, h6⟩ := h
    exact ⟨cell, h1, h2, h3, ⟨r, h4, by rw [hvm.findClass]; exact h5⟩, h6⟩
  · obtain ⟨cell, h1, h2, h3⟩ := h
    exact ⟨cell, h1, State.isArrayOf_alike hvm h2, h3⟩
  · exact h
theorem atM_moved {g : Gp} {a : Nat} {c : Bool × Ce} {u U : State} {H : Heap} (hvm : u.vm.Alike U.vm) (h : atM g a c u H) : atM g a c U H := by
  rcases c with ⟨b | b, e⟩
  · exact ⟨atC_moved hvm h.1, h.2⟩
  · exact h
theorem isLit_mset {w : Mm} {q a : Nat} {t : List Int32} {e : Ce} (h : isLit w q t) (ha : ∀ c, w a = some (false, c) → False) : isLit (mset w a e) q t := by
  obtain ⟨v, f, h1, h2, h3⟩ := h
  refine ⟨v, f, ?_, ?_, h3⟩
  · rw [mset_ne]
    · exact h1
    · rintro rfl
      exact ha _ h1
  · rw [mset_ne]
    · exact h2
    · rintro rfl
      exact ha _ h2
theorem isTab_mset {w : Mm} {q a : Nat} {t : List Int32} {e : Ce} (h : isTab w q t) (ha : ∀ c, w a = some (false, c) → False) : isTab (mset w a e) q t := by
  obtain ⟨f, h2, h3⟩ := h
  refine ⟨f, ?_, h3⟩
  rw [mset_ne]
  · exact h2
  · rintro rfl
    exact ha _ h2
theorem hM.moved {g : Gp} {w : Mm} {u U : State} {H : Heap} (hvm : u.vm.Alike U.vm) (h : hM g w u H) : hM g w U H := ⟨fun a c hc => atM_moved hvm (h.1 a c hc), h.2⟩
theorem hM.lt {g : Gp} {w : Mm} {U : State} {H : Heap} (h : hM g w U H) {a : Nat} {c : Bool × Ce} (hc : w a = some c) : a < H.size := atM_lt (h.1 a c hc)
/-- one writable cell changes -/
theorem hM.set {g : Gp} {w : Mm} {U : State} {H H1 : Heap} (h : hM g w U H) {a : Nat} {e0 e : Ce} (ha : w a = some (true, e0)) (he : va_at g.1 vwCl (a, toE g.2.1 e) H1) (oq : ∀ q : Nat, q ≠ a → H1[q]? = H[q]?) : hM g (mset w a e) U H1 := by
  refine ⟨fun q c hc => ?_, fun i t ht => isLit_mset (h.2.1 i t ht) (fun c hc => by rw [ha] at hc; cases hc), isTab_mset h.2.2.1 (fun c hc => by rw [ha] at hc; cases hc), isTab_mset h.2.2.2 (fun c hc => by rw [ha] at hc; cases hc)⟩
  by_cases hq : q = a
  · subst hq
    rw [mset_eq] at hc
    cases hc
    exact ⟨he, (h.1 q _ ha).2⟩
  · rw [mset_ne hq] at hc
    exact atM_kept (h.1 q c hc) (oq q hq)
/-- a new cell comes -/
theorem hM.push {g : Gp} {w : Mm} {U : State} {H H1 : Heap} (h : hM g w U H) {e : Ce} (he : va_at g.1 vwCl (H.size, toE g.2.1 e) H1) (oq : ∀ q : Nat, q < H.size → H1[q]? = H[q]?) (hb : g.2.2.1 ≤ H.size) : hM g (mset w H.size e) U H1 := by
  refine ⟨fun q c hc => ?_, fun i t ht => isLit_mset (h.2.1 i t ht) (fun c hc => absurd (h.lt hc) (Nat.lt_irrefl _)), isTab_mset h.2.2.1 (fun c hc => absurd (h.lt hc) (Nat.lt_irrefl _)), isTab_mset h.2.2.2 (fun c hc => absurd (h.lt hc) (Nat.lt_irrefl _))⟩
  by_cases hq : q = H.size
  · subst hq
    rw [mset_eq] at hc
    cases hc
    exact ⟨he, hb⟩
  · rw [mset_ne hq] at hc
    exact atM_kept (h.1 q c hc) (oq q (h.lt hc))
theorem gS_put {g : Gp} {H0 H H1 : Heap} {locs : List Loc} {a k : Nat} (h : va_S (gA g) H0 H locs) (z : H1.size = H.size) (oq : ∀ q : Nat, q ≠ a → H1[q]? = H[q]?) (ha : g.2.2.1 ≤ a) : va_S (gA g) H0 H1 (locs ++ [⟨a, k⟩]) := h.put z oq ha
theorem gS_new {g : Gp} {H0 H H1 : Heap} {locs : List Loc} (h : va_S (gA g) H0 H locs) (z : H1.size = H.size + 1) (oq : ∀ q : Nat, q < H.size → H1[q]? = H[q]?) : va_S (gA g) H0 H1 locs :=
  ⟨Nat.le_trans h.1 (by omega), fun x h1 h2 => (oq x (Nat.lt_of_lt_of_le h1 h.1)).trans (h.2.1 x h1 h2), h.2.2⟩
/-! what stands around the heap: classes, statics, literals; nobody changes it -/
def ambS : List (String × String × String × Value) := [("java/lang/String", "COMPACT_STRINGS", "Z", .int 1)]
def mDc (y : MethodName) (U : State) : Prop := (Cond.declares y).before #[] U = true
theorem mDc.of {y : MethodName} {A : Array Value} {U : State} (h : (Cond.declares y).before A U = true) : mDc y U := va_any rfl h
theorem mDc.use {y : MethodName} {A : Array Value} {U : State} (h : mDc y U) : (Cond.declares y).before A U = true := va_any rfl h
theorem mDc.moved {y : MethodName} {u U : State} (hvm : u.vm.Alike U.vm) (h : mDc y u) : mDc y U := by
  have h1 : (Cond.declares y).before #[] (u.setVm U.vm) = true := by
    rw [Cond.declares_setVm hvm]
    exact h
  exact va_tabs (u := u.setVm U.vm) rfl rfl h1
def ambK : List (String × String) := [("java/lang/IndexOutOfBoundsException", "java/lang/IndexOutOfBoundsException"), ("java/lang/IllegalArgumentException", "java/lang/IllegalArgumentException"), ("java/lang/IllegalStateException", "java/lang/IllegalStateException"), ("[B", "java/lang/Cloneable")]
def Amb (g : Gp) (U : State) (H : Heap) : Prop :=
  va_K g.1 vwCl (gTy g) U ∧ (∀ x ∈ ambS, va_Z x.1 x.2.1 x.2.2.1 x.2.2.2 (gA g) U H) ∧
  vx_Zq Bundle.tN "UNASSIGNED_STACK" Bundle.steD (gA g) U H ∧ vx_Zq Bundle.tN "SUPPRESSED_SENTINEL" Bundle.listD (gA g) U H ∧
  va_Zq "jdk/internal/util/Preconditions" "SIOOBE_FORMATTER" "Ljava/util/function/BiFunction;" (gA g) U H ∧
  va_Z "java/lang/Integer" "DigitTens" "[B" (.ref g.2.2.2.2.1) (gA g) U H ∧ va_Z "java/lang/Integer" "DigitOnes" "[B" (.ref g.2.2.2.2.2) (gA g) U H ∧
  (∀ x ∈ ambR, vk_R x.1 x.2.1 x.2.2.1 (g.2.2.2.1 x.2.2.2) U) ∧ (∀ x ∈ ambX, ∃ sa, vk_R x.1 x.2.1 x.2.2 sa U) ∧
  (∀ x ∈ ambN, va_Nc x.1 x.2 U) ∧ (∀ x ∈ ambO, va_AO x U) ∧ (∀ x ∈ ambW, va_Nw (.methodLinkNest x.1 x.2.1 x.2.2.1 x.2.2.2) U) ∧ (∀ x ∈ ambK, va_Nw (.castable x.1 x.2) U) ∧ (∀ x ∈ exD, mDc x U) ∧ g.2.2.1 ≤ H.size
theorem Amb.move {g : Gp} {u U : State} {H H1 : Heap} (h : Amb g u H) (hvm : u.vm.Alike U.vm) (hR : ∀ own k tx a, vk_R own k tx a u → vk_R own k tx a U) (hNw : ∀ a i x h, va_Nw (.methodLinkNest a i x h) u → va_Nw (.methodLinkNest a i x h) U) (hNc : ∀ a b, va_Nw (.castable a b) u → va_Nw (.castable a b) U) (hq : ∀ a : Nat, a < H.size → ¬ gA g a → H1[a]? = H[a]?) (hz : H.size ≤ H1.size) : Amb g U H1 := by
  obtain ⟨h1, h2, h3, h4, h5, h6, h7, h8, h9, h10, h11, h13, h14, h15, h12⟩ := h
  exact ⟨h1.moved hvm, fun x hx => (va_Z.moved hvm (h2 x hx)).kept hq, (vx_Zq.moved hvm h3).kept hq, (vx_Zq.moved hvm h4).kept hq, (va_Zq.moved hvm h5).kept hq, (va_Z.moved hvm h6).kept hq, (va_Z.moved hvm h7).kept hq,
    fun x hx => hR _ _ _ _ (h8 x hx), fun x hx => (h9 x hx).imp fun sa h => hR _ _ _ _ h, fun x hx => (h10 x hx).moved hvm, fun x hx => va_AO.moved hvm (h11 x hx), fun x hx => hNw _ _ _ _ (h13 x hx), fun x hx => hNc _ _ (h14 x hx), fun x hx => mDc.moved hvm (h15 x hx), Nat.le_trans h12 hz⟩
theorem Amb.warm {g : Gp} {s U : State} {H : Heap} {locs : List Loc} (h : Amb g s s.heap) (hW : s.WarmedH U.vm) (hS : va_S (gA g) s.heap H locs) : Amb g U H :=
  h.move hW.alike (fun _ _ _ _ hr => vk_R.warm hW hr) (fun _ _ _ _ hr => va_Nw.warmM hW hr) (fun _ _ hr => va_Nw.warmC hW hr) hS.2.1 hS.1
/-- the classes of the tables: their fields' rows stand among the words -/
theorem cl_ok : ∀ (ci : Nat) (r : vw_C), vwCl[ci]? = some r → (∀ w ∈ u_ws r.1 r.2.1 r.2.2, w ∈ GW) ∧ (∀ a, a < r.2.2 → ∀ b, b < r.2.2 → a ≠ b → (r.2.1 a).2.1 ≠ (r.2.1 b).2.1) ∧ ∀ k, k < r.2.2 → ∃ ty, parseFieldDescriptor (r.2.1 k).2.2.1 = some ty := by
  have key : ∀ r ∈ vwCl, (∀ w ∈ u_ws r.1 r.2.1 r.2.2, w ∈ lw_tbl) ∧ (u_ws r.1 r.2.1 r.2.2).all goodWord = true ∧ (∀ a, a < r.2.2 → ∀ b, b < r.2.2 → a ≠ b → (r.2.1 a).2.1 ≠ (r.2.1 b).2.1) ∧ ∀ k, k < r.2.2 → (parseFieldDescriptor (r.2.1 k).2.2.1).isSome = true := by decide +kernel
  intro ci r hr
  obtain ⟨h1, h2, h3, h4⟩ := key r (List.mem_of_getElem? hr)
  exact ⟨gw_all h1 h2, h3, fun k hk => Option.isSome_iff_exists.mp (h4 k hk)⟩
/-! a method's contract over abstract heaps -/
def ctQ (g : Gp) (Q : Option Value → Mm → Nat → Prop) : Array Value → State → Outcome → State → Prop := fun _ st o t =>
  (∃ (v : Option Value) (w : Mm), o = .returned v ∧ Q v w t.heap.size ∧ hM g w t t.heap) ∧ va_F (gA g) st t
def ctX (g : Gp) (X : String → Mm → Nat → Prop) : String → State → State → Prop := fun E st t => ∃ w : Mm, X E w t.heap.size ∧ hM g w t t.heap ∧ va_F (gA g) st t
def ctP (g : Gp) (as : List Value) (w : Mm) (z : Nat) : Array Value → State → Prop := va_Pc as (fun U => U.heap.size = z ∧ hM g w U U.heap ∧ Amb g U U.heap)
def rmD (d mc ms : Nat) : Room := { frames := d, cells := mc, slots := ms, locals := 60 * d }
/-- wd: the method's own code word -/
def Ct (l : Launch) (g : Gp) (y : MethodName) (wd : Cond) (d mc ms : Nat) (as : List Value) (w : Mm) (z : Nat) (Q : Option Value → Mm → Nat → Prop) (X : String → Mm → Nat → Prop) : Prop :=
  vx_Met l y (wd :: GW) (rmD d mc ms) (ctP g as w z) (ctQ g Q) (ctX g X) mc ms (gA g)
theorem ctP_blind {g : Gp} {as : List Value} {w : Mm} {z : Nat} : FrameBlind (ctP g as w z) := by
  intro a U gg mk h
  obtain ⟨h1, h2, h3, h4⟩ := h
  exact ⟨h1, h2, hM.moved (u := U) (U := U.calling gg mk a) (Vm.Alike.refl U.vm) h3, h4.move (u := U) (U := U.calling gg mk a) (Vm.Alike.refl U.vm) (fun _ _ _ _ hr => vk_R.same (u := U) (U := U.calling gg mk a) rfl hr) (fun _ _ _ _ hr => va_Nw.same (u := U) (U := U.calling gg mk a) rfl rfl hr) (fun _ _ hr => va_Nw.same (u := U) (U := U.calling gg mk a) rfl rfl hr) (fun _ _ _ => rfl) (Nat.le_refl _)⟩
/-! the machine inside one body: all that stands fixed is one tuple -/
abbrev Cx : Type := Gp × (Nat × Nat × Nat) × Program × Launch × Env × Room × State × MethodId × Array Value × List Frame × Method × Code × (State → Prop)
def CX (C : Cx) (cc : ByteArray) (own : String) (nL : Nat) (ret : Option FieldType) (hh : List (Nat × Nat × Nat × Nat)) (d : Nat) : Prop :=
  match C with
  | (g, (nL', MC, MS), p, l, e, R, s, m, args, below, meth, c, Qf) =>
    p.tables.exec = Jvm.exec ∧ c.code = cc ∧ c.maxLocals = nL ∧ nL' = nL ∧ s.vm.findClass own = some m.cls ∧ (∀ w ∈ GW, w.before args s = true) ∧ Amb g s s.heap ∧ l.stackTraces = false ∧ meth.locks = false ∧ meth.sig.returnType = ret ∧ c.exceptionTable.toList = tableOf hh ∧ d ≤ R.frames ∧ 60 * d ≤ R.locals ∧ MC ≤ R.cells ∧ MS ≤ R.slots
def VW (C : Cx) (pc : Nat) (L : List (Nat × Value)) (st : List Value) (w : Mm) (z mc ms : Nat) : Prop :=
  match C with
  | (g, (nL', MC, MS), p, l, e, R, s, m, args, below, meth, c, Qf) =>
    ∀ (H : Heap) (locs : List Loc) (ls : Array Slot) (k n : Nat), H.size = z → hM g w s H → va_S (gA g) s.heap H locs → lv_has ls nL' L → k + mc ≤ MC → n + ms ≤ MS → W p l e R s m args below meth c H locs k n Qf (F0 m pc ls st)
/-- an exception is on its way, thrown at pc -/
def VX (C : Cx) (pc : Nat) (L : List (Nat × Value)) (E : String) (w : Mm) (z mc ms : Nat) : Prop :=
  match C with
  | (g, (nL', MC, MS), p, l, e, R, s, m, args, below, meth, c, Qf) =>
    ∀ (H : Heap) (locs : List Loc) (ls : Array Slot) (k n : Nat) (rest : List Value) (q : Addr) (ce : Cell), H.size = z → hM g w s H → va_S (gA g) s.heap H locs → lv_has ls nL' L → k + mc ≤ MC → n + ms ≤ MS → H[q]? = some ce → ce.vm = .none → s.vm.findClass E = some ce.cls → vx_W p l e R s m args below meth c H locs k n Qf (F0 m pc ls rest) q
/-- the body's end is that of a contract -/
def EQ (C : Cx) (Q : Option Value → Mm → Nat → Prop) (X : String → Mm → Nat → Prop) : Prop :=
  match C with
  | (g, (nL', MC, MS), p, l, e, R, s, m, args, below, meth, c, Qf) => Qf = vx_MQ below (ctQ g Q) (ctX g X) args s MC MS (gA g)
def nmC (C : Cx) : String := C.2.2.2.2.2.2.2.2.2.2.1.name
/-- a method by its body -/
theorem Ct.of {l : Launch} {g : Gp} {y : MethodName} {cc : ByteArray} {maxL : Nat} {ret : Option FieldType} {d mc ms : Nat} {as : List Value} {w : Mm} {z : Nat} {Q : Option Value → Mm → Nat → Prop} {X : String → Mm → Nat → Prop} (hst : l.stackTraces = false) (hy : plainName y.cls = true) (hlen : (lg_sl as).length ≤ maxL)
    (body : ∀ C : Cx, CX C cc y.cls maxL ret [] d → EQ C Q X → C.1 = g → C.2.2.2.1 = l → nmC C = y.name → VW C 0 (lv_args 0 as) [] w z mc ms) : Ct l g y (.code y cc maxL ret) d mc ms as w z Q X := by
  refine vx_ofW (cc := cc) (maxL := maxL) (ret := ret) hy rfl ?_
  intro p e s m args below meth c s₁ B hml ht hv
  obtain ⟨rfl, hsz, hP, hAm⟩ := hv
  have hx := B.exec
  have hb := B.bytes
  have hr := B.returns
  have hts := atoms_spec (ws := Cond.code y cc maxL ret :: GW) B.pre
  have hown : s.vm.findClass y.cls = some m.cls := findClass_of_methodNamed B.named
  have hlocks := B.notSynchronized
  have hl := lv_entry as (n := maxL) hlen
  rw [lg_entry_eq]
  have ht0 : c.exceptionTable.toList = tableOf [] := by
    cases hc : c.exceptionTable.toList with
    | nil => rfl
    | cons x xs => exact (ht x (by rw [hc]; exact List.mem_cons_self)).elim
  exact body (g, (maxL, mc, ms), p, l, e, (headSpec (Cond.code y cc maxL ret :: GW) (rmD d mc ms)).room, s, m, as.toArray, below, meth, c, vx_MQ below (ctQ g Q) (ctX g X) as.toArray s mc ms (gA g))
    ⟨hx, hb, hml, rfl, hown, fun w hw => hts w (List.mem_cons_of_mem _ hw), hAm, hst, hlocks, hr, ht0, Nat.le_refl _, Nat.le_refl _, Nat.le_refl _, Nat.le_refl _⟩ rfl rfl rfl (name_of_methodNamed B.named B.method).1 s.heap [] _ 0 0 hsz hP va_S.rf hl (by omega) (by omega)
