/-! the cases are written: the reference -/
def RW (g0 : Nat → Int32) (A0 : Nat → Nat → Int32) (l : List Int32) (g : Nat → Int32) (A : Nat → Nat → Int32) : Prop := (g 10 = nI l.length ∧ ∀ i, i < l.length → A 7 i = l.getD i 0) ∧ (∀ k, k ≠ 10 → g k = g0 k) ∧ ∀ k, k ≠ 7 → A k = A0 k
theorem nI_mod10 {k : Nat} (h : k < 100000) : (48 + (nI k - nI k / 10 * 10) : Int32) = nI (48 + k % 10) := by
  have e0 : (10 : Int32) = nI 10 := rfl
  have e1 : (nI k / 10 : Int32) = nI (k / 10) := by
    rw [e0]
    exact nI_div h (by omega) (by omega)
  have e2 : (nI (k / 10) * 10 : Int32).toInt = ((k / 10 : Nat) : Int) * 10 := by
    rw [im _ _ (by rw [nI_toInt (by omega), i10]; omega) (by rw [nI_toInt (by omega), i10]; omega), nI_toInt (by omega), i10]
  have e3 : (nI k - nI (k / 10) * 10 : Int32).toInt = (k % 10 : Nat) := by
    rw [isb _ _ (by rw [e2, nI_toInt (by omega)]; omega) (by rw [e2, nI_toInt (by omega)]; omega), e2, nI_toInt (by omega)]
    omega
  rw [e1]
  refine ieq.mpr ?_
  rw [ia _ _ (by rw [e3, show (48 : Int32).toInt = 48 by decide]; omega) (by rw [e3, show (48 : Int32).toInt = 48 by decide]; omega), e3, nI_toInt (by omega), show (48 : Int32).toInt = 48 by decide]
  omega
section
variable {w : Mm} {m z : Nat} {g g0 f : Nat → Int32} {A A0 : Nat → Nat → Int32} {l : List Int32} {Q : Int32 → Mm → Nat → Prop} {R : Mm → Nat → Prop}
theorem RW.a1 (h : RW g0 A0 l g A) : A 1 = A0 1 := h.2.2 1 (by omega)
theorem nm_snoc (f : Nat → Int32) (row k : Nat) : (List.range (k + 1)).map (fun i => f (row + i)) = (List.range k).map (fun i => f (row + i)) ++ [f (row + k)] := by
  rw [List.range_succ, List.map_append]
  rfl
end
