/-! the reference's own cells: nine from m on -/
def rl (k : Nat) : Nat := if k = 1 then 445 else if k = 2 then 3560 else if k = 3 then 890 else if k = 4 then 445 else if k = 5 then 2 else if k = 6 then 700 else if k = 7 then 300 else 6
def rk (k : Nat) : Nat := if k = 5 then 2 else 0
def rh (m : Nat) (g : Nat → Int32) (A : Nat → Nat → Int32) (k : Nat) : Ce :=
  if k = 0 then .inl (10, [.ref (m + 1), .ref (m + 2), .ref (m + 3), .ref (m + 4), .ref (m + 5), .int (g 5), .int (g 6), .ref (m + 6), .ref (m + 7), .int (g 9), .int (g 10), .int (g 11), .int (g 12), .ref (m + 8), .int (g 14), .int (g 15), .int (g 16), .int (g 17), .int (g 18), .int (g 19), .int (g 20)])
  else .inr (rk k, rl k, .inl (A k))
def updA (A : Nat → Nat → Int32) (k : Nat) (f : Nat → Int32) : Nat → Nat → Int32 := fun j => if j = k then f else A j
theorem updA_ne {A : Nat → Nat → Int32} {k j : Nat} {f : Nat → Int32} (h : j ≠ k) : updA A k f j = A j := if_neg h
theorem updA_eq (A : Nat → Nat → Int32) (k : Nat) (f : Nat → Int32) : updA A k f k = f := if_pos rfl
theorem updA_self (A : Nat → Nat → Int32) (k : Nat) : updA A k (A k) = A := by
  funext j
  unfold updA
  split
  · rename_i h
    rw [h]
  · rfl
section
variable {w : Mm} {m z : Nat} {g : Nat → Int32} {A : Nat → Nat → Int32} {Q : Int32 → Mm → Nat → Prop} {R : Mm → Nat → Prop} {T : Mm → Prop}
theorem i_pred {x : Int32} {n : Nat} (h : vp_in x n) : (x - 1).toInt = x.toInt - 1 := by
  have h1 := vp_in_iff.mp h
  rw [isb _ _ (by rw [i_1]; omega) (by have := ihi x; rw [i_1]; omega), i_1]
end
