/-! the commands, as the reference reads them -/
def sA (A A' : Nat → Nat → Int32) : Prop := ∀ k, k ≠ 1 → k ≠ 8 → A' k = A k
def RM (g0 : Nat → Int32) (A0 : Nat → Nat → Int32) (a f : Nat → Int32) (L i : Nat) (g : Nat → Int32) (A : Nat → Nat → Int32) : Prop := RK g a L i ∧ sQ g0 g ∧ sA A0 A ∧ A 6 = a ∧ A 1 = f
def RX (g0 : Nat → Int32) (A0 : Nat → Nat → Int32) (L : Nat) (c o : Int32) (g : Nat → Int32) (A : Nat → Nat → Int32) : Prop := RE g L c o ∧ sQ g0 g ∧ sA A0 A
section
variable {w : Mm} {m z L i : Nat} {g g0 a f f' : Nat → Int32} {A A0 : Nat → Nat → Int32} {Q : Int32 → Mm → Nat → Prop} {R : Mm → Nat → Prop} {T : Mm → Prop} {c o : Int32}
theorem sSemi_to {b : Bool} {j : Nat} (h : sSemi a L b i = .ok j) : j = tTo a L i := by
  unfold sSemi at h
  split at h
  · split at h
    · injection h with h
      exact h.symm
    · exact absurd h (by intro hh; injection hh)
  · exact absurd h (by intro hh; injection hh)
theorem wIs_x {n n' : Nat} {hh hh' : Nat → Int32} (h : wIs a L i n hh = true) (hn : n ≠ n') : ¬ wIs a L i n' hh' = true := by
  unfold wIs at h ⊢
  intro h'
  rw [Bool.and_eq_true, Bool.and_eq_true, beq_iff_eq, beq_iff_eq] at h h'
  have h1 := h.1.2
  have h2 := h'.1.2
  omega
theorem RK.up20 {v : Int32} (hK : RK g a L i) : RK (upd g 20 v) a L i := by
  obtain ⟨k1, k2, k3, k4, k5, k6, k7, k8, k9⟩ := hK
  refine ⟨k1, ?_, ?_, ?_, ?_, ?_, ?_, ?_, fun h => ?_⟩ <;> rw [upd_ne (by omega)] <;> first | assumption | exact k9 h
theorem RM.n19 (h : RM g0 A0 a f L i g A) : g 19 = 0 := h.1.2.2.1
theorem RX.ne (h : RX g0 A0 L c o g A) : ¬ g 19 = 0 := h.1.ne
end
