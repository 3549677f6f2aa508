section
variable {w : Mm} {m z : Nat} {g : Nat → Int32} {A : Nat → Nat → Int32} {Q : Int32 → Mm → Nat → Prop} {R : Mm → Nat → Prop} {T : Mm → Prop}
theorem i445 {x : Int32} {n : Nat} (h : vp_in x n) (hn : n ≤ 9) : cl (x * 445) = cl x * 445 ∧ ¬ x * 445 < 0 := by
  have h1 := vp_in_iff.mp h
  have e : (445 : Int32).toInt = 445 := by decide
  have e2 : (x * 445).toInt = x.toInt * 445 := by
    rw [im _ _ (by rw [e]; omega) (by rw [e]; omega), e]
  refine ⟨?_, fun hh => ?_⟩
  · rw [cl_eq, cl_eq, e2]
    omega
  · have := ilt.mp hh
    rw [e2, i_0] at this
    omega
end
