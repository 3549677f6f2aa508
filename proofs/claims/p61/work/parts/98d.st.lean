/-! the start: the abstract heap, and what stands around it -/
section
variable {s : State} {args : Array Value} {g : Gp} {b L : Nat} {xs : Nat → Int32}
def isB (s : State) (q n : Nat) (f : Nat → Int32) : Prop := va_T .byte q n (fun j => .int (f j)) (sH s) s s.heap ∧ n < 2 ^ 31 ∧ sb_Fit f
def isS (s : State) (q v : Nat) : Prop := va_O "java/lang/String" q (sH s) s s.heap ∧ va_OF "java/lang/String" "coder" "B" (.int 0) q (sH s) s s.heap ∧ va_OF "java/lang/String" "value" "[B" (.ref v) q (sH s) s s.heap
theorem isB_n {q n n' : Nat} {f f' : Nat → Int32} (h : isB s q n f) (h' : isB s q n' f') : n = n' ∧ ∀ j, j < n → f' j = f j := by
  obtain ⟨⟨cell, a1, a2, a3, a4, a5, a6, a7⟩, hn, -⟩ := h
  obtain ⟨⟨cell', b1, b2, b3, b4, b5, b6, b7⟩, hn', -⟩ := h'
  cases a1.symm.trans b1
  have e : Int32.ofNat n = Int32.ofNat n' := a5.symm.trans b5
  have e2 : n = n' := by
    have := congrArg Int32.toInt e
    rw [Int32.toInt_ofNat_of_lt hn, Int32.toInt_ofNat_of_lt hn'] at this
    omega
  subst e2
  refine ⟨rfl, fun j hj => ?_⟩
  have h1 := (a6 j hj).symm.trans (b6 j hj)
  injection h1 with h1
  injection h1 with h1
  exact h1.symm
theorem isS_v {q v v' : Nat} (h : isS s q v) (h' : isS s q v') : v = v' := by
  obtain ⟨-, -, cf, k, i, f, cell, a1, a2, a3, a4, a5, a6⟩ := h
  obtain ⟨-, -, cf', k', i', f', cell', b1, b2, b3, b4, b5, b6⟩ := h'
  cases a1.symm.trans b1
  cases a3.symm.trans b3
  have h1 := a5.symm.trans b5
  injection h1 with h1
  injection h1
theorem arr_two {cell : Cell} {t t' : FieldType} (h : s.isArrayOf cell t) (h' : s.isArrayOf cell t') : t = t' := by
  obtain ⟨-, k, h1, comp, h2⟩ := h
  obtain ⟨-, k', h3, comp', h4⟩ := h'
  cases h1.symm.trans h3
  have h5 := h2.symm.trans h4
  injection h5
theorem arr_str (hK : ClassAt s "java/lang/String" (g.1.1 0)) {q : Nat} {cell : Cell} {t : FieldType} (h : s.isArrayOf cell t) (hc : s.heap[q]? = some cell) (hS : va_O "java/lang/String" q (sH s) s s.heap) : False := by
  obtain ⟨cell', a1, a2, a3, a4⟩ := hS
  cases hc.symm.trans a1
  obtain ⟨h1, kC, h2, h3⟩ := hK
  obtain ⟨-, k, h4, comp, h5⟩ := h
  have e := Option.some.inj (a3.symm.trans h1)
  rw [e] at h4
  cases h4.symm.trans h2
  have h6 := h5.symm.trans h3
  exact absurd h6 (by intro hh; cases hh)
theorem st_w (hg : g.2.2.1 = s.heap.size) (hK : ∀ (c : Nat) (q : vw_C), vwCl[c]? = some q → u_Kn s q.1 q.2.1 q.2.2 (g.1.1 c) (g.1.2 c)) (hX : va_X b L xs s s.heap) (hL : L ≤ 260) :
    ∃ w : Mm, (∀ a c, w a = some c → atM g a c s s.heap) ∧ NF w s.heap.size ∧ w b = some (false, .inr (0, L, .inl xs)) ∧ (∀ q n f, w q = some (false, .inr (1, n, .inl f)) → sb_Fit f) ∧ (∀ q n f, isB s q n f → ∃ f', w q = some (false, .inr (1, n, .inl f')) ∧ ∀ j, j < n → f' j = f j) ∧ (∀ q v, isS s q v → w q = some (false, .inl (0, [.ref v, .int 0]))) := by
  have hK0 := hK 0 (RJ0, TJ0, 4) rfl
  have hC0 : ClassAt s "java/lang/String" (g.1.1 0) := hK0.2
  have h0 : ∀ q : Nat, ∃ c : Option (Bool × Ce), (∀ d, c = some d → atM g q d s s.heap ∧ ∃ e, d = (false, e) ∧ q < s.heap.size ∧ ∀ n f, e = .inr (1, n, .inl f) → sb_Fit f) ∧ (q = b → c = some (false, .inr (0, L, .inl xs))) ∧ (∀ n f, isB s q n f → ∃ f', c = some (false, .inr (1, n, .inl f')) ∧ ∀ j, j < n → f' j = f j) ∧ (∀ v, isS s q v → c = some (false, .inl (0, [.ref v, .int 0]))) := by
    intro q
    by_cases hq : q = b
    · subst hq
      obtain ⟨cell, a1, a2, a3, a4, a5⟩ := hX
      have hlt : q < s.heap.size := (Array.getElem?_eq_some_iff.mp a1).1
      refine ⟨some (false, .inr (0, L, .inl xs)), fun d hd => ?_, fun _ => rfl, fun n f h => ?_, fun v h => ?_⟩
      · cases hd
        refine ⟨⟨⟨cell, a1, a2, a3, by omega, by rw [a4], a5⟩, by rw [hg]; exact hlt⟩, _, rfl, hlt, fun n f h => ?_⟩
        exact absurd h (by intro hh; injection hh with hh; injection hh with hh; exact absurd hh (by decide))
      · obtain ⟨⟨cell', b1, b2, b3⟩, -⟩ := h
        cases a1.symm.trans b1
        exact absurd (arr_two a2 b2) (by decide)
      · exact (arr_str (g := g) hC0 a2 a1 h.1).elim
    · by_cases hB : ∃ n f, isB s q n f
      · obtain ⟨n, f, hB⟩ := hB
        have hB2 := hB
        obtain ⟨⟨cell, a1, a2, a3, a4, a5, a6, a7⟩, hn, hf⟩ := hB
        have hlt : q < s.heap.size := (Array.getElem?_eq_some_iff.mp a1).1
        refine ⟨some (false, .inr (1, n, .inl f)), fun d hd => ?_, fun h => absurd h hq, fun n' f' h => ?_, fun v h => ?_⟩
        · cases hd
          refine ⟨⟨⟨cell, a1, a2, a3, a4, a5, a6⟩, by rw [hg]; exact hlt⟩, _, rfl, hlt, fun n f h => ?_⟩
          injection h with h
          injection h with _ h
          injection h with _ h
          injection h with h
          exact h ▸ hf
        · obtain ⟨e1, e2⟩ := isB_n h hB2
          subst e1
          exact ⟨f, rfl, e2⟩
        · exact (arr_str (g := g) hC0 a2 a1 h.1).elim
      · by_cases hS : ∃ v, isS s q v
        · obtain ⟨v, hS⟩ := hS
          have hS2 := hS
          obtain ⟨⟨cell, a1, a2, a3, a4⟩, ⟨cf, k, i, f, cell2, b1, b2, b3, b4, b5, b6⟩, ⟨cf', k', i', f', cell3, c1, c2, c3, c4, c5, c6⟩⟩ := hS
          cases a1.symm.trans b3
          cases a1.symm.trans c3
          have hlt : q < s.heap.size := (Array.getElem?_eq_some_iff.mp a1).1
          refine ⟨some (false, .inl (0, [.ref v, .int 0])), fun d hd => ?_, fun h => absurd h hq, fun n' f' h => absurd ⟨n', f', h⟩ hB, fun v' h => ?_⟩
          · cases hd
            refine ⟨⟨⟨cell, a1, a2, b4, ⟨_, rfl, a3⟩, fun k v' hk => ?_⟩, by rw [hg]; exact hlt⟩, _, rfl, hlt, fun n f h => absurd h (by intro hh; cases hh)⟩
            match k, hk with
            | 0, hk =>
              cases hk
              obtain ⟨cf9, kf9, fi9, fd9, d1, d2⟩ := hK0.1 0 (by decide)
              cases d1.symm.trans c1
              rw [← d2]
              exact c5
            | 1, hk =>
              cases hk
              obtain ⟨cf9, kf9, fi9, fd9, d1, d2⟩ := hK0.1 1 (by decide)
              cases d1.symm.trans b1
              rw [← d2]
              exact b5
            | k + 2, hk => simp at hk
          · rw [isS_v h hS2]
        · exact ⟨none, fun d hd => (by cases hd), fun h => absurd h hq, fun n f h => absurd ⟨n, f, h⟩ hB, fun v h => absurd ⟨v, h⟩ hS⟩
  obtain ⟨w, hw⟩ := Classical.axiomOfChoice h0
  refine ⟨w, fun a c hc => ((hw a).1 c hc).1, fun q c hq => ?_, (hw b).2.1 rfl, fun q n f hq => ?_, fun q n f h => (hw q).2.2.1 n f h, fun q v h => (hw q).2.2.2 v h⟩
  · obtain ⟨-, e, -, h1, -⟩ := (hw q).1 _ hq
    exact h1
  · obtain ⟨-, e, h2, -, h3⟩ := (hw q).1 _ hq
    injection h2 with _ h2
    exact h3 n f h2.symm
theorem fit_getD {t : List Int32} (h : ∀ v ∈ t, fits .byte (.int v) = true) : sb_Fit (fun j => t.getD j 0) := by
  intro j
  show fits .byte (.int (t.getD j 0)) = true
  rw [List.getD_eq_getElem?_getD]
  cases hj : t[j]? with
  | none => decide
  | some v => exact h v (List.mem_of_getElem? hj)
theorem fit_lits : ∀ t ∈ lits, ∀ v ∈ t, fits .byte (.int v) = true := by decide +kernel
theorem fit_digT : ∀ v ∈ digT, fits .byte (.int v) = true := by decide +kernel
theorem fit_digO : ∀ v ∈ digO, fits .byte (.int v) = true := by decide +kernel
theorem ambN_w : ∀ x ∈ ambN, Cond.not (.castable x.1 x.2) ∈ lw_FW := by decide +kernel
theorem ambO_w : ∀ x ∈ ambO, Cond.arrayOver (.object x) ∈ lw_tbl := by decide +kernel
theorem ambW_w : ∀ x ∈ ambW, Cond.methodLinkNest x.1 x.2.1 x.2.2.1 x.2.2.2 ∈ lw_tbl := by decide +kernel
theorem ambK_w : ∀ x ∈ ambK, (x.1 = x.2 ∧ Cond.instantiable x.1 6 ∈ lw_tbl) ∨ Cond.castable x.1 x.2 ∈ lw_tbl := by decide +kernel
theorem exD_w : ∀ x ∈ exD, Cond.declares x ∈ lw_tbl := by decide +kernel
end
