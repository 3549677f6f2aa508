section
variable {C : Cx} {cc : ByteArray} {own : String} {nL d : Nat} {ret : Option FieldType} {hh : List (Nat × Nat × Nat × Nat)} {pc : Nat} {L : List (Nat × Value)} {st : List Value} {w : Mm} {z mc ms : Nat}
theorem vw_nmI {x : Int32} (kk : ∀ y : Int32, y = x → VW C pc L (.int y :: st) w z mc ms) : VW C pc L (.int x :: st) w z mc ms := kk x rfl
theorem vw_nmW (kk : ∀ w' : Mm, w' = w → VW C pc L st w' z mc ms) : VW C pc L st w z mc ms := kk w rfl
theorem lst (hX : CX C cc own nL ret hh d) : C.2.2.2.1.stackTraces = false := by
  obtain ⟨g, ⟨nL', MC, MS⟩, p, l, e, R, s, m, args, below, meth, c, Qf⟩ := C
  exact hX.2.2.2.2.2.2.2.1
theorem fit_boolean {v : Int32} (h : narrow .boolean (.int v) = .int v) : fits .boolean (.int v) = true := by
  have h1 : v &&& 1 = v := by simpa [narrow] using h
  have h2 := pk_and v (m := 1) 1 (by decide)
  rw [h1] at h2
  have h3 : v.toBitVec.toNat % 2 ^ 1 < 2 := Nat.mod_lt _ (by decide)
  generalize v.toBitVec.toNat % 2 ^ 1 = r at h2 h3
  subst h2
  rcases (show r = 0 ∨ r = 1 by omega) with rfl | rfl <;> decide
theorem fit_byte {v : Int32} (h : narrow .byte (.int v) = .int v) : fits .byte (.int v) = true := by
  have h1 : v.toInt8.toInt32 = v := by simpa [narrow] using h
  rw [← h1]
  exact pk_fb v
end
