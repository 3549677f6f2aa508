/-! the start: what the words say of the heap -/
section
variable {s : State} {args : Array Value}
abbrev sH (s : State) : Nat → Prop := fun a => s.heap.size ≤ a
theorem sH_n : ∀ a : Nat, a < s.heap.size → ¬ sH s a := fun _ h h' => absurd h (Nat.not_lt.mpr h')
def SL (s : State) (q v : Nat) (t : List Int32) : Prop := va_O "java/lang/String" q (sH s) s s.heap ∧ va_OF "java/lang/String" "coder" "B" (.int 0) q (sH s) s s.heap ∧ va_OF "java/lang/String" "value" "[B" (.ref v) q (sH s) s s.heap ∧ va_T .byte v t.length (fun j => .int (t.getD j 0)) (sH s) s s.heap
theorem va_eqr {t u : Term} {a : Nat} (h : (Cond.eq t u).before args s = true) (ht : t.eval args s none [] s = some (.ref a)) : u.eval args s none [] s = some (.ref a) := by
  cases hu : u.eval args s none [] s with
  | none => simp [Cond.before, Cond.holds, Cond.value, ht, hu] at h
  | some v =>
    simp only [Cond.before, Cond.holds, Cond.value, ht, hu] at h
    cases v <;> simp_all
theorem FW_ok (hgv : (Jvm.Cond.and given_1 narrow_1).before args s = true) : ∀ w ∈ lw_FW, w.before args s = true := flat_of_before _ hgv
theorem lit_words (hgv : (Jvm.Cond.and given_1 narrow_1).before args s = true) {i : Nat} {t : List Int32} {q : String × Nat} (hi : lits[i]? = some t) (hq : lsrc[i]? = some q) : ∀ w ∈ litW q t, w.before args s = true := by
  intro w hw
  have hm : (q, t) ∈ lsrc.zip lits := List.mem_of_getElem? (i := i) (List.getElem?_zip_eq_some.mpr ⟨hq, hi⟩)
  have h1 := List.all_eq_true.mp (List.all_eq_true.mp litsOk_t _ hm) w hw
  exact FW_ok hgv w (List.mem_filter.mp (of_decide_eq_true h1)).1
theorem lits_len {i : Nat} {t : List Int32} (hi : lits[i]? = some t) : t.length < 100 := by
  have h : ∀ t ∈ lits, t.length < 100 := by decide
  exact h t (List.mem_of_getElem? hi)
theorem st_lit (hgv : (Jvm.Cond.and given_1 narrow_1).before args s = true) {i : Nat} {t : List Int32} {q : String × Nat} (hi : lits[i]? = some t) (hq : lsrc[i]? = some q) : ∃ a v : Nat, SL s a v t ∧ (Term.string q.1 q.2).eval args s none [] s = some (.ref a) := by
  have hw := lit_words hgv hi hq
  have hl := lits_len hi
  obtain ⟨adK, adV, h, he⟩ := vk_Sof (args := args) (s := s) (N := 1) (tm := fun _ => Term.string q.1 q.2) (len := [t.length]) (byt := [t]) (A := sH s)
    (fun i hi => by
      have : i = 0 := by omega
      subst this
      show t.length < 2 ^ 31
      omega)
    (fun i _ => hw _ (List.mem_append_left _ (List.mem_cons_self)))
    (fun i _ => hw _ (List.mem_append_left _ (List.mem_cons_of_mem _ List.mem_cons_self)))
    (fun i _ => hw _ (List.mem_append_left _ (List.mem_cons_of_mem _ (List.mem_cons_of_mem _ List.mem_cons_self))))
    (fun i hi => by
      have : i = 0 := by omega
      subst this
      exact hw _ (List.mem_append_left _ (List.mem_cons_of_mem _ (List.mem_cons_of_mem _ (List.mem_cons_of_mem _ List.mem_cons_self)))))
    (fun i hi j hj => by
      have : i = 0 := by omega
      subst this
      exact hw _ (List.mem_append_right _ (List.mem_map.mpr ⟨j, List.mem_range.mpr hj, rfl⟩)))
    (fun i j hi hj hij => absurd (by omega) hij) sH_n
  exact ⟨adK 0, adV 0, h.1 0 (by omega), he 0 (by omega)⟩
theorem st_lits (hgv : (Jvm.Cond.and given_1 narrow_1).before args s = true) : ∃ lA lV : Nat → Nat, ∀ (i : Nat) (t : List Int32) (q : String × Nat), lits[i]? = some t → lsrc[i]? = some q → SL s (lA i) (lV i) t ∧ (Term.string q.1 q.2).eval args s none [] s = some (.ref (lA i)) := by
  have h0 : ∀ i : Nat, ∃ p : Nat × Nat, ∀ (t : List Int32) (q : String × Nat), lits[i]? = some t → lsrc[i]? = some q → SL s p.1 p.2 t ∧ (Term.string q.1 q.2).eval args s none [] s = some (.ref p.1) := by
    intro i
    cases hi : lits[i]? with
    | none => exact ⟨(0, 0), fun t q h => by cases h⟩
    | some t =>
      cases hq : lsrc[i]? with
      | none => exact ⟨(0, 0), fun t q _ h => by cases h⟩
      | some q =>
        obtain ⟨a, v, h1, h2⟩ := st_lit hgv hi hq
        exact ⟨(a, v), fun t' q' h3 h4 => by cases h3; cases h4; exact ⟨h1, h2⟩⟩
  obtain ⟨f, hf⟩ := Classical.axiomOfChoice h0
  exact ⟨fun i => (f i).1, fun i => (f i).2, fun i t q h1 h2 => hf i t q h1 h2⟩
theorem lits_some {i : Nat} (h : i < 18) : ∃ t q, lits[i]? = some t ∧ lsrc[i]? = some q := ⟨_, _, List.getElem?_eq_getElem (l := lits) h, List.getElem?_eq_getElem (l := lsrc) h⟩
theorem st_ambR (hts : ∀ w ∈ lw_tbl, w.before args s = true) (hgv : (Jvm.Cond.and given_1 narrow_1).before args s = true) {lA lV : Nat → Nat} (h : ∀ (i : Nat) (t : List Int32) (q : String × Nat), lits[i]? = some t → lsrc[i]? = some q → SL s (lA i) (lV i) t ∧ (Term.string q.1 q.2).eval args s none [] s = some (.ref (lA i))) : ∀ x ∈ ambR, vk_R x.1 x.2.1 x.2.2.1 (lA x.2.2.2) s := by
  intro x hx
  obtain ⟨t, q, h1, h2⟩ := lits_some (ambR_i x hx)
  obtain ⟨h3, h4⟩ := h _ _ _ h1 h2
  have h5 := List.all_eq_true.mp ambOk_t x hx
  rw [h2] at h5
  refine vk_R.of (A := args) (hts _ (ambR_s x hx)) ?_
  rcases (Bool.or_eq_true _ _).mp h5 with h6 | h6
  · have e := of_decide_eq_true h6
    rw [e] at h4
    exact h4
  · exact va_eqr (FW_ok hgv _ (List.mem_filter.mp (of_decide_eq_true h6)).1) h4
theorem st_ambX (hts : ∀ w ∈ lw_tbl, w.before args s = true) (hgv : (Jvm.Cond.and given_1 narrow_1).before args s = true) : ∀ x ∈ ambX, ∃ sa, vk_R x.1 x.2.1 x.2.2 sa s := by
  intro x hx
  have h1 := List.all_eq_true.mp ambX_t x hx
  obtain ⟨a, c, cA, kA, q1, -⟩ := Cond.exactly_spec (args := args) (first := s) (o := none) (s := s) (idx := []) (FW_ok hgv _ (List.mem_filter.mp (of_decide_eq_true h1)).1)
  exact ⟨a, vk_R.of (A := args) (hts _ (ambX_s x hx)) q1⟩
theorem st_dig (hts : ∀ w ∈ lw_tbl, w.before args s = true) (hgv : (Jvm.Cond.and given_1 narrow_1).before args s = true) {n : String} {t : List Int32} (h1 : ((digW n t).all fun w => decide (w ∈ digF n)) = true) (ha : Cond.arrayOf (.static "java/lang/Integer" n "[B") .byte ∈ lw_FW) (hl : Cond.eq (.length (.static "java/lang/Integer" n "[B")) (.int 100) ∈ lw_FW) (hS : Cond.laysStatic "java/lang/Integer" n "[B" ∈ lw_tbl) : ∃ a : Nat, va_T .byte a 100 (fun j => .int (t.getD j 0)) (sH s) s s.heap ∧ va_Z "java/lang/Integer" n "[B" (.ref a) (sH s) s s.heap := by
  have hel : ∀ j : Nat, j < 100 → (Cond.eq (.elem (.static "java/lang/Integer" n "[B") (.int (Int32.ofNat j))) (.int (t.getD j 0))).before args s = true := fun j hj => by
    have h4 := List.all_eq_true.mp h1 (.eq (.elem (.static "java/lang/Integer" n "[B") (.int (Int32.ofNat j))) (.int (t.getD j 0))) (List.mem_map.mpr ⟨j, List.mem_range.mpr hj, rfl⟩)
    exact FW_ok hgv _ (List.mem_filter.mp (of_decide_eq_true h4)).1
  obtain ⟨a, h2, h3⟩ := va_Tof (args := args) (s := s) (tm := .static "java/lang/Integer" n "[B") (ty := .byte) (N := 100) (f := fun j => .int (t.getD j 0)) (A := sH s) (by decide) (FW_ok hgv _ ha) (va_eqt (FW_ok hgv _ hl)) (fun j hj => va_eqt (hel j hj)) sH_n
  exact ⟨a, h3, va_Zof (hts _ hS) (hts _ (by decide +kernel)) h2 sH_n⟩
theorem st_dT (hts : ∀ w ∈ lw_tbl, w.before args s = true) (hgv : (Jvm.Cond.and given_1 narrow_1).before args s = true) : ∃ a : Nat, va_T .byte a 100 (fun j => .int (digT.getD j 0)) (sH s) s s.heap ∧ va_Z "java/lang/Integer" "DigitTens" "[B" (.ref a) (sH s) s s.heap := st_dig hts hgv digOk_T (by decide +kernel) (by decide +kernel) (by decide +kernel)
theorem st_dO (hts : ∀ w ∈ lw_tbl, w.before args s = true) (hgv : (Jvm.Cond.and given_1 narrow_1).before args s = true) : ∃ a : Nat, va_T .byte a 100 (fun j => .int (digO.getD j 0)) (sH s) s s.heap ∧ va_Z "java/lang/Integer" "DigitOnes" "[B" (.ref a) (sH s) s s.heap := st_dig hts hgv digOk_O (by decide +kernel) (by decide +kernel) (by decide +kernel)
end
