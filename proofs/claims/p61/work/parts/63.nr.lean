section
variable {w : Mm} {m z L i : Nat} {g : Nat → Int32} {A : Nat → Nat → Int32} {Q : Int32 → Mm → Nat → Prop} {R : Mm → Nat → Prop} {T : Mm → Prop} {c o : Int32}
theorem nIad {a b : Nat} (h : a + b < 1000) : nI a + nI b = nI (a + b) := ieq.mpr (by rw [ia _ _ (by rw [nI_toInt (by omega), nI_toInt (by omega)]; omega) (by rw [nI_toInt (by omega), nI_toInt (by omega)]; omega), nI_toInt (by omega), nI_toInt (by omega), nI_toInt (by omega)]; omega)
theorem sKnown_to {a f : Nat → Int32} {v : Int32} {j : Nat} (h : sKnown a L f i = .ok (v, j)) : j = tTo a L i := by
  unfold sKnown at h
  split at h
  · split at h
    · exact absurd h (by intro hh; injection hh)
    · injection h with h
      injection h with h1 h2
      exact h2.symm
  · exact absurd h (by intro hh; injection hh)
end
