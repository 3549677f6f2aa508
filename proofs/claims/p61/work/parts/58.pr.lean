/-! the same rows, as the reference reads them -/
def RK (g a : Nat → Int32) (L i : Nat) : Prop := i ≤ L ∧ g 9 = nI L ∧ g 19 = 0 ∧ g 11 = 0 ∧ g 12 = -1 ∧ g 15 = tTok a L i ∧ g 16 = nI (tFrom a L i) ∧ g 17 = nI (tTo a L i) ∧ (tTok a L i = 2 → g 18 = tVal a L i)
def RE (g : Nat → Int32) (L : Nat) (c o : Int32) : Prop := g 9 = nI L ∧ g 19 = 1 ∧ g 11 = c ∧ g 12 = o ∧ ∃ fr to, fr ≤ to ∧ to ≤ L ∧ g 16 = nI fr ∧ g 17 = nI to
/-- changes, thrown, the input's and the output's length stay -/
def sQ (g g' : Nat → Int32) : Prop := g' 5 = g 5 ∧ g' 6 = g 6 ∧ g' 9 = g 9 ∧ g' 10 = g 10
theorem sQ.rfl {g : Nat → Int32} : sQ g g := ⟨Eq.refl _, Eq.refl _, Eq.refl _, Eq.refl _⟩
theorem sQ.trans {g g' g'' : Nat → Int32} (h : sQ g g') (h' : sQ g' g'') : sQ g g'' := ⟨h'.1.trans h.1, h'.2.1.trans h.2.1, h'.2.2.1.trans h.2.2.1, h'.2.2.2.trans h.2.2.2⟩
section
variable {w : Mm} {m z L i : Nat} {g : Nat → Int32} {A : Nat → Nat → Int32} {Q : Int32 → Mm → Nat → Prop} {R : Mm → Nat → Prop} {T : Mm → Prop} {c o : Int32}
theorem RE.ne (hE : RE g L c o) : ¬ g 19 = 0 := fun hh => absurd (hE.2.1.symm.trans hh) (by decide)
theorem sNum_to {a : Nat → Int32} {lo hi v : Int32} {j : Nat} (h : sNum a L lo hi i = .ok (v, j)) : j = tTo a L i := by
  unfold sNum at h
  split at h
  · split at h
    · injection h with h
      injection h with h1 h2
      exact h2.symm
    · exact absurd h (by intro hh; injection hh)
  · exact absurd h (by intro hh; injection hh)
end
