/-! an array of bytes is cloned -/
section CLN
variable {C : Cx} {cc : ByteArray} {own : String} {nL d : Nat} {ret : Option FieldType} {hh : List (Nat × Nat × Nat × Nat)} {pc : Nat} {L : List (Nat × Value)} {st : List Value} {w : Mm} {z mc ms : Nat}
theorem vw_clone (hX : CX C cc own nL ret hh (d + 1)) {idx a n : Nat} {f : Nat → Int32} (hlink : Cond.methodLink own idx ⟨"[B", "clone", "()Ljava/lang/Object;"⟩ ∈ GW) (hsame : Cond.sameMethod "[B" "java/lang/Object" "clone" "()Ljava/lang/Object;" ∈ GW) (hnat : Cond.native ⟨"java/lang/Object", "clone", "()Ljava/lang/Object;"⟩ ∈ GW) (hinst : Cond.instanceMethod ⟨"java/lang/Object", "clone", "()Ljava/lang/Object;"⟩ ∈ GW) (hsel : Cond.selects "[B" ⟨"[B", "clone", "()Ljava/lang/Object;"⟩ ⟨"java/lang/Object", "clone", "()Ljava/lang/Object;"⟩ ∈ GW)
    (ha : arW w a 1 = some (n, f)) (hfit : sb_Fit f) (hcat : (st.map fun v => v.category).sum ≤ 8) (h1 : 1 ≤ mc) (h2 : n ≤ ms) (hd : decode cc pc = .ok (.invokevirtual idx, 3)) (kk : VW C (pc + 3) L (.ref z :: st) (mset w z (.inr (1, n, .inl f))) (z + 1) (mc - 1) (ms - n)) : VW C pc L (.ref a :: st) w z mc ms := by
  obtain ⟨g, ⟨nL', MC, MS⟩, p, l, e, R, s, m, args, below, meth, c, Qf⟩ := C
  obtain ⟨hx, hb, hml, hnl, hown, hts, hAm, hst9, hlk, hr9, htab, hR1, hR2, hR3, hR4⟩ := hX
  intro H locs ls k n' hz hm hS hl hk hn'
  subst hnl
  subst hz
  have hcell : H[a]? = some (vp_cell (g.2.1 1) (n, .inl f)) := atM_t hm (arW_of ha)
  have hK := hAm.1.2 1 _ (gTy_at g (by decide))
  have hnm : s.vm.findClass "[B" = some (g.2.1 1) := va_nm_byte hK.2
  obtain ⟨c0, t0, f1, f2, f3⟩ := Cond.castable_spec (va_Nw.use (A := args) rfl (hAm.2.2.2.2.2.2.2.2.2.2.2.2.1 ("[B", "java/lang/Cloneable") (by decide +kernel)))
  cases hnm.symm.trans f1
  have hsz : (vp_cell (g.2.1 1) (n, .inl f)).slots.size = n := arrV_size _ _ _
  intro T hT X
  have hcellT : T.heap[a]? = some (vp_cell (g.2.1 1) (n, .inl f)) := by rw [hT]; exact hcell
  obtain ⟨-, kA, hkA, comp, hkind⟩ := State.isArrayOf_alike X.warmed.alike (hK.1 0 (fun _ => .null))
  obtain ⟨-, kS, hkS, compS, hkindS⟩ := hK.1 0 (fun _ => .null)
  obtain ⟨vm', X', st1⟩ := X.cloneArray hx hown (hts _ hlink) (hts _ hsame) (hts _ hnat) (hts _ hinst) (hts _ hsel) (a := a) (cell := vp_cell (g.2.1 1) (n, .inl f)) hcellT (fun k h => by cases h) (fun h => by cases h) hnm f2 f3
    (fun i v hv => by
      have hk' : T.vm.classes[g.2.1 1]? = some kA := hkA
      have hv2 : fits (aT 1) v = true := va_fit (cA := g.2.1 1) (n := n) (F := fun j => .int (f j)) (ty := .byte) (fun i _ => hfit i) i v hv
      show T.fitsSlot (g.2.1 1) .none i v = true
      simpa [State.fitsSlot, State.slotType?, hk', hkind] using hv2)
    (g := F0 m pc ls (.ref a :: st)) rfl (by rw [hml]; exact hl.1) rfl (by rw [hb]; exact hd) (by omega) (by show 2 * 0 + _ + 14 ≤ _; omega) (by omega) (by rw [hsz]; omega) (hloader := Vm.clonesLoader_of_array hkS hkindS)
  have e9 : ({ cls := (vp_cell (g.2.1 1) (n, .inl f)).cls, slots := (vp_cell (g.2.1 1) (n, .inl f)).slots } : Cell) = vp_cell (g.2.1 1) (n, .inl f) := rfl
  rw [e9, hsz] at X'
  generalize hH1 : H.push (vp_cell (g.2.1 1) (n, .inl f)) = H1
  have z1 : H1.size = H.size + 1 := by rw [← hH1, Array.size_push]
  have e1 : H1[H.size]? = some (vp_cell (g.2.1 1) (n, .inl f)) := by rw [← hH1, Array.getElem?_push_size]
  have o1 : ∀ q : Nat, q < H.size → H1[q]? = H[q]? := fun q hq => by rw [← hH1, Array.getElem?_push, if_neg (Nat.ne_of_lt hq)]
  obtain ⟨t, b1, b2⟩ := kk H1 locs ls (k + 1) (n' + n) z1 (hm.push (e := .inr (1, n, .inl f)) e1 o1 (Nat.le_trans hAm.2.2.2.2.2.2.2.2.2.2.2.2.2.2 hS.1)) (gS_new hS z1 o1) hl (by omega) (by omega) ((T.setVm vm').pushCell (vp_cell (g.2.1 1) (n, .inl f))) (by rw [← hH1, ← hT]; rfl) X'
  refine ⟨t, st1 t ?_, b2⟩
  rw [e9, hT]
  exact b1
theorem vw_castB (hX : CX C cc own nL ret hh d) {idx a n : Nat} {f : Nat → Int32} (hlink : Cond.classLink own idx "[B" ∈ GW) (ha : arW w a 1 = some (n, f)) (hd : decode cc pc = .ok (.checkcast idx, 3)) (kk : VW C (pc + 3) L (.ref a :: st) w z mc ms) : VW C pc L (.ref a :: st) w z mc ms := by
  obtain ⟨g, ⟨nL', MC, MS⟩, p, l, e, R, s, m, args, below, meth, c, Qf⟩ := C
  obtain ⟨hx, hb, hml, hnl, hown, hts, hAm, hst9, hlk, hr9, htab, hR1, hR2, hR3, hR4⟩ := hX
  intro H locs ls k n' hz hm hS hl hk hn'
  have hK := hAm.1.2 1 _ (gTy_at g (by decide))
  have hP : va_P g.1 vwCl [(a, .inl (g.2.1 1, (n, .inl f)))] H := fun k y hy => by
    cases k with
    | zero => cases hy; exact atM_t hm (arW_of ha)
    | succ k => cases hy
  exact va_castA hx hb hown (hts _ hlink) hP 0 rfl (va_nm_byte hK.2) hd (kk H locs ls k n' hz hm hS hl hk hn')
end CLN
