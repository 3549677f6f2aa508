/-! names, as the reference reads them -/
section
variable {w : Mm} {m z L i : Nat} {g : Nat → Int32} {A : Nat → Nat → Int32} {Q : Int32 → Mm → Nat → Prop} {R : Mm → Nat → Prop} {T : Mm → Prop} {c o : Int32}
/-- the letters stand in the eighth row; the others stay -/
def sL (A A' : Nat → Nat → Int32) : Prop := ∀ k, k ≠ 8 → A' k = A k
def LT (g : Nat → Int32) (A : Nat → Nat → Int32) (fr n : Nat) : Prop := g 14 = nI n ∧ ∀ k, k < n → A 8 k = A 6 (fr + k)
theorem RK.up14 {v : Int32} {a : Nat → Int32} (hK : RK g a L i) : RK (upd g 14 v) a L i := by
  obtain ⟨k1, k2, k3, k4, k5, k6, k7, k8, k9⟩ := hK
  refine ⟨k1, ?_, ?_, ?_, ?_, ?_, ?_, ?_, fun h => ?_⟩ <;> rw [upd_ne (by omega)] <;> first | assumption | exact k9 h
end
