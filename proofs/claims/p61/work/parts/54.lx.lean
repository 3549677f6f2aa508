/-! tokens -/
def spB (v : Int32) : Bool := v == 32
def leB (v : Int32) : Bool := decide (97 ≤ v) && decide (v ≤ 122)
def diB (v : Int32) : Bool := decide (48 ≤ v) && decide (v ≤ 57)
def runB (P : Int32 → Bool) (a : Nat → Int32) : Nat → Nat → Nat
  | 0, i => i
  | n + 1, i => if P (a i) then runB P a n (i + 1) else i
def numV (a : Nat → Int32) : Nat → Nat → Int32 → Int32
  | 0, _, v => v
  | n + 1, i, v => if diB (a i) then numV a n (i + 1) (jmin 1000000 (v * 10 + a i - 48)) else v
theorem runB_le (P : Int32 → Bool) (a : Nat → Int32) : ∀ (n i : Nat), i ≤ runB P a n i ∧ runB P a n i ≤ i + n := by
  intro n
  induction n with
  | zero => intro i; exact ⟨Nat.le_refl _, Nat.le_refl _⟩
  | succ n ih =>
    intro i
    rw [runB]
    split
    · have := ih (i + 1)
      omega
    · omega
/-- where the token that follows i begins -/
def tFrom (a : Nat → Int32) (L i : Nat) : Nat := runB spB a (L - i) i
def tTok (a : Nat → Int32) (L i : Nat) : Int32 :=
  if L ≤ tFrom a L i then 0 else if leB (a (tFrom a L i)) then 1 else if diB (a (tFrom a L i)) then 2 else if a (tFrom a L i) = 59 then 3 else 4
def tTo (a : Nat → Int32) (L i : Nat) : Nat :=
  if L ≤ tFrom a L i then tFrom a L i else if leB (a (tFrom a L i)) then runB leB a (L - tFrom a L i) (tFrom a L i) else if diB (a (tFrom a L i)) then runB diB a (L - tFrom a L i) (tFrom a L i) else tFrom a L i + 1
def tVal (a : Nat → Int32) (L i : Nat) : Int32 := numV a (L - tFrom a L i) (tFrom a L i) 0
theorem nIs {n : Nat} (h : n < 100000) : nI n + 1 = nI (n + 1) := ieq.mpr (by
  rw [ia _ _ (by rw [nI_toInt (by omega), i_1]; omega) (by rw [nI_toInt (by omega), i_1]; omega), nI_toInt (by omega), nI_toInt (by omega), i_1]
  omega)
theorem nI_cl {n : Nat} (h : n < 1000) : (nI n).toNatClampNeg = n := clnI h
theorem nIle {a b : Nat} (ha : a < 100000) (hb : b < 100000) : nI a ≤ nI b ↔ a ≤ b := by
  rw [ile, nI_toInt (by omega), nI_toInt (by omega)]
  omega
theorem nIlt {a b : Nat} (ha : a < 100000) (hb : b < 100000) : nI a < nI b ↔ a < b := by
  rw [ilt, nI_toInt (by omega), nI_toInt (by omega)]
  omega
theorem nIin {a n : Nat} (ha : a < n) (hn : n < 100000) : vp_in (nI a) n := vp_in_iff.mpr (by rw [nI_toInt (by omega)]; omega)
theorem leB_t {v : Int32} : leB v = true ↔ 97 ≤ v.toInt ∧ v.toInt ≤ 122 := by
  unfold leB
  rw [Bool.and_eq_true, decide_eq_true_eq, decide_eq_true_eq, ile, ile]
  exact Iff.rfl
theorem diB_t {v : Int32} : diB v = true ↔ 48 ≤ v.toInt ∧ v.toInt ≤ 57 := by
  unfold diB
  rw [Bool.and_eq_true, decide_eq_true_eq, decide_eq_true_eq, ile, ile]
  exact Iff.rfl
section
variable {w : Mm} {m z : Nat} {g : Nat → Int32} {A : Nat → Nat → Int32} {Q : Int32 → Mm → Nat → Prop} {R : Mm → Nat → Prop} {T : Mm → Prop}
/-- what stays of the reference's numbers -/
def sG (g g' : Nat → Int32) : Prop := ∀ k, k ≠ 15 → k ≠ 16 → k ≠ 17 → k ≠ 18 → g' k = g k
theorem sG.up {g g' : Nat → Int32} (h : sG g g') {k : Nat} {v : Int32} (hk : k = 15 ∨ k = 16 ∨ k = 17 ∨ k = 18) : sG g (upd g' k v) := fun j h1 h2 h3 h4 => by
  rw [upd_ne (by omega)]
  exact h j h1 h2 h3 h4
end
