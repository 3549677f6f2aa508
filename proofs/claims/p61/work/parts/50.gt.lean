section
variable {w : Mm} {m z : Nat} {g : Nat → Int32} {A : Nat → Nat → Int32} {Q : Int32 → Mm → Nat → Prop} {R : Mm → Nat → Prop} {T : Mm → Prop}
theorem ridesF_01 {f : Nat → Int32} {p : Int32} : ridesF f p = 0 ∨ ridesF f p = 1 := by
  unfold ridesF
  split
  · exact Or.inl rfl
  · exact Or.inr rfl
theorem inTimeF_01 {f : Nat → Int32} {p : Int32} : inTimeF f p = 0 ∨ inTimeF f p = 1 := by
  unfold inTimeF
  try simp only
  repeat' split
  all_goals first
    | exact Or.inl rfl
    | exact Or.inr rfl
theorem isLateF_01 {f : Nat → Int32} {p : Int32} : isLateF f p = 0 ∨ isLateF f p = 1 := by
  unfold isLateF
  split
  · exact Or.inl rfl
  · split
    · exact Or.inl rfl
    · exact Or.inr rfl
def cheapF (f : Nat → Int32) (a b : Int32) : Int32 := if 4 < jabs (b - a) then 0 else if priceI 0 (zonesF f a b) ≤ priceI 2 (zonesF f a b) then 0 else 2
end
