/-! load and play: the reference -/
section
variable {w : Mm} {m z L i : Nat} {g g0 a f f' : Nat → Int32} {A A0 : Nat → Nat → Int32} {Q : Int32 → Mm → Nat → Prop} {R : Mm → Nat → Prop} {T : Mm → Prop} {c o : Int32}
/-- the reference's numbers behind a parse that went well, and behind one that didn't -/
def MOk (g0 : Nat → Int32) (A0 : Nat → Nat → Int32) (f' : Nat → Int32) (g : Nat → Int32) (A : Nat → Nat → Int32) : Prop := g 5 = remG g0 5 ∧ g 9 = 0 ∧ g 10 = g0 10 ∧ g 11 = 0 ∧ g 12 = -1 ∧ A 1 = f' ∧ A 2 = remA g0 A0 (A0 1) 2 ∧ A 3 = A0 3 ∧ A 5 = A0 5 ∧ A 7 = A0 7
def MEr (g0 : Nat → Int32) (A0 : Nat → Nat → Int32) (c o : Int32) (g : Nat → Int32) (A : Nat → Nat → Int32) : Prop := g 5 = g0 5 ∧ g 9 = 0 ∧ g 10 = g0 10 ∧ g 11 = c ∧ g 12 = o ∧ (∀ j, j < 445 → A 1 j = A0 1 j) ∧ A 2 = A0 2 ∧ A 3 = A0 3 ∧ A 5 = A0 5 ∧ A 7 = A0 7
theorem remA_cpy {gA gB : Nat → Int32} {A B : Nat → Nat → Int32} {u v : Nat → Int32} (h5 : gA 5 = gB 5) (h2 : A 2 = B 2) : remA gA A (va_cpy u v 0 0 445) 2 = remA gB B u 2 := by
  unfold remA
  rw [h5, h2]
  split
  · rw [updA_eq, updA_eq, cpy_cpy]
  · rw [updA_eq, updA_eq, cpy_cpy]
theorem clr_succ {r : Nat → Int32} {k : Nat} : upd (clr r k) k 0 = clr r (k + 1) := by
  funext j
  unfold clr
  by_cases h : j = k
  · rw [h, upd_eq, if_pos (by omega)]
  · rw [upd_ne h]
    by_cases h2 : j < k
    · rw [if_pos h2, if_pos (by omega)]
    · rw [if_neg h2, if_neg (by omega)]
end
