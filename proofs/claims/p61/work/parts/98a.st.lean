/-! the start: the words -/
theorem sel_priv {C : String} {y : MethodName} {s : State} {args : Array Value} {n : Nat} (hy : y.cls ≠ "java/lang/invoke/MethodHandle" ∧ y.cls ≠ "java/lang/invoke/VarHandle")
    (hins : (Cond.instantiable C n).before args s = true) (hpriv : (Cond.privateMethod y).before args s = true) (hinst : (Cond.instanceMethod y).before args s = true) {y2 : MethodName} (hsel2 : (Cond.selects C y2 y2).before args s = true) (hcl : y2.cls = y.cls) :
    (Cond.selects C y y).before args s = true := by
  obtain ⟨c, k, hc, hk, -, -, -, -⟩ := Cond.instantiable_spec hins
  obtain ⟨c2, r2, m2, -, -, hn2, -, k2, hk2, hni⟩ := Cond.selects_spec hsel2
  obtain ⟨mk, methM, hnamed, hmethM, -, -⟩ := Cond.instanceMethod_spec hinst
  have hfound : s.methodFound? y.cls y.name y.desc = some mk := State.methodFound?_of_named hnamed hy
  have hsel : selectMethod {} s.vm c mk = .method mk := selectMethod_private hmethM (Cond.privateMethod_at hpriv mk methM hnamed hmethM)
  have hcls : m2.cls = mk.cls := Option.some.inj ((findClass_of_methodNamed hn2).symm.trans (by rw [hcl]; exact findClass_of_methodNamed hnamed))
  rw [hcls] at hk2
  simp only [Cond.before, Cond.holds, Cond.value, hc, hfound, hnamed, hsel, hk2]
  simp; exact hni
theorem exSel_ok {s : State} {args : Array Value} (hts : ∀ w ∈ lw_tbl, w.before args s = true) : ∀ w ∈ exSel, w.before args s = true := by
  intro w hw
  simp only [exSel, List.mem_cons, List.not_mem_nil, or_false] at hw
  rcases hw with rfl | rfl | rfl | rfl
  · exact sel_priv (n := 4) ⟨by decide, by decide⟩ (hts _ (by decide +kernel)) (hts _ (by decide +kernel)) (hts _ (by decide +kernel)) (y2 := yJ5_isLatin1_aae02) (hts _ (by decide +kernel)) rfl
  · exact sel_priv (n := 4) ⟨by decide, by decide⟩ (hts _ (by decide +kernel)) (hts _ (by decide +kernel)) (hts _ (by decide +kernel)) (y2 := yJ5_isLatin1_aae02) (hts _ (by decide +kernel)) rfl
  · exact sel_priv (n := 4) ⟨by decide, by decide⟩ (hts _ (by decide +kernel)) (hts _ (by decide +kernel)) (hts _ (by decide +kernel)) (y2 := yJ5_isLatin1_aae02) (hts _ (by decide +kernel)) rfl
  · exact sel_priv (n := 4) ⟨by decide, by decide⟩ (hts _ (by decide +kernel)) (hts _ (by decide +kernel)) (hts _ (by decide +kernel)) (y2 := yJ5_isLatin1_aae02) (hts _ (by decide +kernel)) rfl
theorem GW_ok {s : State} {args : Array Value} (hts : ∀ w ∈ lw_tbl, w.before args s = true) : ∀ w ∈ GW, w.before args s = true := fun w hw => (List.mem_append.mp (List.mem_filter.mp hw).1).elim (hts w) (exSel_ok hts w)
theorem cl_inst : ∀ q ∈ vwCl, Cond.instantiable q.1 q.2.2 ∈ lw_tbl := by decide +kernel
theorem st_Kn {s : State} {args : Array Value} (hts : ∀ w ∈ lw_tbl, w.before args s = true) : ∃ D : va_G, ∀ (c : Nat) (q : vw_C), vwCl[c]? = some q → u_Kn s q.1 q.2.1 q.2.2 (D.1 c) (D.2 c) := by
  have h0 : ∀ c : Nat, ∃ p : ClassId × (Nat → Nat), ∀ q : vw_C, vwCl[c]? = some q → u_Kn s q.1 q.2.1 q.2.2 p.1 p.2 := by
    intro c
    cases hq : vwCl[c]? with
    | none => exact ⟨(0, fun _ => 0), fun q h => by cases h⟩
    | some q =>
      obtain ⟨cC, iS, h⟩ := u_known (C := q.1) (T := q.2.1) (N := q.2.2) (GW_ok hts) (cl_ok c q hq).1 (hts _ (cl_inst q (List.mem_of_getElem? hq)))
      exact ⟨(cC, iS), fun q' h' => by cases h'; exact h⟩
  obtain ⟨f, hf⟩ := Classical.axiomOfChoice h0
  exact ⟨(fun c => (f c).1, fun c => (f c).2), fun c q hq => hf c q hq⟩
theorem st_arr {s : State} {args : Array Value} (hts : ∀ w ∈ lw_tbl, w.before args s = true) : ∃ aC : Nat → ClassId, ∀ k, k < 8 → ArrOfT s (aC k) (aT k) ∧ va_RA s (aC k) (aT k) := by
  have hP : ∀ t : FieldType, (Cond.arrayClass t).before args s = true → (∀ cA, va_RA s cA t = (s.vm.findClass ("[" ++ t.toString) = some cA)) → ∃ cA : ClassId, ArrOfT s cA t ∧ va_RA s cA t := fun t h e => by
    obtain ⟨c, k, comp, h1, h2, h3⟩ := Cond.arrayClass_spec h
    exact ⟨c, fun n z => ⟨fun k h => (by cases h), k, h2, comp, h3⟩, by rw [e]; exact h1⟩
  have hO : ∀ C : String, (Cond.arrayOver (.object C)).before args s = true → ∃ cA : ClassId, ArrOfT s cA (.object C) ∧ va_RA s cA (.object C) := fun C h => by
    obtain ⟨comp, c, k, h1, -, h3, h4, h5⟩ := Cond.arrayOver_spec h
    exact ⟨c, fun n z => ⟨fun k h => (by cases h), k, h3, comp, h4⟩, k, comp, h3, h4, h1, h5⟩
  have h0 : ∀ k : Nat, ∃ cA : ClassId, k < 8 → ArrOfT s cA (aT k) ∧ va_RA s cA (aT k) := by
    intro k
    by_cases hk : k < 8
    · rcases (by omega : k = 0 ∨ k = 1 ∨ k = 2 ∨ k = 3 ∨ k = 4 ∨ k = 5 ∨ k = 6 ∨ k = 7) with rfl | rfl | rfl | rfl | rfl | rfl | rfl | rfl
      · exact (hP .int (hts _ (by decide +kernel)) (fun _ => rfl)).imp fun _ h _ => h
      · exact (hP .byte (hts _ (by decide +kernel)) (fun _ => rfl)).imp fun _ h _ => h
      · exact (hP .boolean (hts _ (by decide +kernel)) (fun _ => rfl)).imp fun _ h _ => h
      · exact (hP .int (hts _ (by decide +kernel)) (fun _ => rfl)).imp fun _ h _ => h
      · exact (hO "TicketCheck$State" (hts _ (by decide +kernel))).imp fun _ h _ => h
      · exact (hO "TicketCheck$Passenger" (hts _ (by decide +kernel))).imp fun _ h _ => h
      · exact (hO "TicketCheck$Ticket" (hts _ (by decide +kernel))).imp fun _ h _ => h
      · exact (hO "TicketCheck$Case" (hts _ (by decide +kernel))).imp fun _ h _ => h
    · exact ⟨0, fun h => absurd h hk⟩
  obtain ⟨f, hf⟩ := Classical.axiomOfChoice h0
  exact ⟨f, hf⟩
theorem castable_self {C : String} {s : State} {args : Array Value} {n : Nat} (hins : (Cond.instantiable C n).before args s = true) : va_Nw (.castable C C) s := by
  obtain ⟨c, k, hc, hk, -, -, -, -⟩ := Cond.instantiable_spec hins
  have h := vb_asgS (s := s) c c hc hc
  show (Cond.castable C C).before #[] s = true
  simp only [Cond.before, Cond.holds, Cond.value, hc, h]
  rfl
