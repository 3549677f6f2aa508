section
variable {p : Program} {l : Launch} {e : Env} {R : Room} {s : State} {m : MethodId} {args : Array Value} {below : List Frame} {meth : Method} {c : Code} {T : State} {locs : List Loc} {cells slots : Nat}
/-- a String constant by ldc_w: as the library's ldcString -/
theorem ldcwStr (X : Stand p l e R s m args below meth c T locs cells slots) (hexec : p.tables.exec = Jvm.exec) {own text : String} {index : Nat} {a : Addr} (hown : s.vm.findClass own = some m.cls)
    (hconst : (Cond.stringRef own index text).before args s = true) (hev : (Term.string own index).eval args s none [] s = some (.ref a)) {g : JFrame} (hg : g.method = m) (hdg : decode c.code g.pc = .ok (.ldc_w index, 3)) :
    ∀ target, Steps p.tables e below (T.setTop { g with pc := g.pc + 3, stack := .ref a :: g.stack }) target → Steps p.tables e below (T.setTop g) target := by
  obtain ⟨k, cf, i, a', hk, hcf, hcp, -, hr, hev'⟩ := Cond.stringRef_spec hown hconst
  cases hev.symm.trans hev'
  obtain ⟨k', hk', he⟩ := X.warmed.alike.2.2 _ _ hk
  have hr' : k'.resolved[index]? = some (some (.string a)) := by
    rcases X.warmed.entry hk hk' index with h | ⟨h, -⟩
    · rw [h]; exact hr
    · rw [hr] at h; cases h
  intro target hrest
  subst hg
  jvm_step X.here [hexec, hdg, ldc_w.wp_string (e := e) (s := T) (f := g) X.here.top hk' (by rw [he]; exact hcf) hcp hr']
  exact hrest
end
theorem vw_ldcwS {C : Cx} {cc : ByteArray} {own : String} {nL d : Nat} {ret : Option FieldType} {hh : List (Nat × Nat × Nat × Nat)} {pc : Nat} {L : List (Nat × Value)} {st : List Value} {w : Mm} {z mc ms : Nat} (hX : CX C cc own nL ret hh d) {i li : Nat} {tx : String} {t : List Int32} (hw : (own, i, tx, li) ∈ ambR) (ht : lits[li]? = some t) (hd : decode cc pc = .ok (.ldc_w i, 3)) (kk : ∀ q : Nat, isLit w q t → VW C (pc + 3) L (.ref q :: st) w z mc ms) : VW C pc L st w z mc ms := by
  obtain ⟨g, ⟨nL', MC, MS⟩, p, l, e, R, s, m, args, below, meth, c, Qf⟩ := C
  obtain ⟨hx, hb, hml, hnl, hown, hts, hAm, hst, hlk, hr, htab, hR1, hR2, hR3, hR4⟩ := hX
  intro H locs ls k n hz hm hS hl hk hn
  intro T hT X
  have hZ := hAm.2.2.2.2.2.2.2.1 _ hw
  obtain ⟨t1, a1, b1⟩ := kk _ (hm.2.1 li t ht) H locs ls k n hz hm hS hl hk hn T hT X
  exact ⟨t1, ldcwStr X hx hown (text := tx) hZ.1 hZ.2 (g := F0 m pc ls st) rfl (by rw [hb]; exact hd) t1 a1, b1⟩
