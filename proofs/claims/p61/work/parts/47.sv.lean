section
variable {w w' w'' : Mm} {x z mc ms b : Nat} {Q : Int32 → Mm → Nat → Prop} {R : Mm → Nat → Prop} {X : String → Mm → Nat → Prop} {T : Mm → Prop} {f f' : Nat → Int32} {Fz Fz' : Nat → Prop} {g g' : Nat → Int32} {A A' : Nat → Nat → Int32}
def saveA (A : Nat → Nat → Int32) (s : Int32) : Nat → Nat → Int32 := updA (updA A 3 (va_cpy (A 1) (A 3) 0 (cl s * 445) 445)) 5 (upd (A 5) (cl s) 1)
def restA (g : Nat → Int32) (A : Nat → Nat → Int32) (s : Int32) : Nat → Nat → Int32 := updA (remA g A (A 1)) 1 (va_cpy (A 3) (A 1) (cl s * 445) 0 445)
theorem remA_k {r : Nat → Int32} {k : Nat} (hk : k ≠ 2) : remA g A r k = A k := by
  unfold remA
  split
  · rw [updA_ne hk, updA_ne hk]
  · rw [updA_ne hk]
end
