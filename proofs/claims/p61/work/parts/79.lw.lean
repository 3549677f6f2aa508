/-! the law's world -/
theorem cmp_self (x : Int64) : lg_cmp x x = 0 := by
  unfold lg_cmp
  rw [if_neg (by simp [Int64.lt_iff_toInt_lt]), if_pos rfl]
def BG (mc ms cap k : Nat) : Prop := 1000 * k + (702 - cap) ≤ mc ∧ 14000 * k + 2 * (702 - cap) ≤ ms ∧ cap ≤ 702
theorem BG.less {mc ms cap k : Nat} (h : BG mc ms cap (k + 1)) {a c : Nat} (ha : a ≤ 1000) (hc : c ≤ 14000) : BG (mc - a) (ms - c) cap k := by
  obtain ⟨h1, h2, h3⟩ := h
  refine ⟨?_, ?_, h3⟩ <;> omega
def FrO (x : Nat) (w w' : Mm) : Prop := ∀ q, ¬ ((x ≤ q ∧ q < x + 130) ∨ (x + 134 ≤ q ∧ q < x + 764) ∨ q = x + 773) → w' q = w q
section
variable {b n x z z1 m L t cap : Nat} {sc : Nat → Int32} {w w' w1 w2 w'' : Mm} {l : List Int32} {Q : Int32 → Mm → Nat → Prop} {R : Mm → Nat → Prop} {h tx : Nat → Int32} {Fz : Nat → Prop} {g g' g2 : Nat → Int32} {A A' A2 : Nat → Nat → Int32} {o : Nat}
theorem FrO.of (h : FrS x w w1) : FrO x w w1 := fun q hq => h q (by omega)
theorem FrO.rfl' : FrO x w w := fun _ _ => rfl
theorem FrO.ms {e : Ce} (h : FrO x w w1) : FrO x w (mset w1 (x + 773) e) := fun q hq => by
  rw [mset_ne (by omega)]
  exact h q hq
theorem arL_c {a k n : Nat} {f : Nat → Int64} (h : w a = some (true, .inr (k, n, .inr (.inl f)))) (hk : k = 3) : arL w a = some (n, f) := by
  subst hk
  simp [arL, h]
theorem remG_6 {v : Int32} : remG (upd g 6 v) 5 = remG g 5 := by
  unfold remG
  rw [upd_ne (by omega)]
  split
  · rw [upd_eq, upd_eq]
  · rw [upd_eq, upd_eq]
theorem remG_k {k : Nat} (hk : k ≠ 5) : remG g k = g k := by
  unfold remG
  split
  · rw [upd_ne hk, upd_ne hk]
  · rw [upd_ne hk]
theorem remA_6 {v : Int32} {f : Nat → Int32} : remA (upd g 6 v) A f = remA g A f := by
  unfold remA
  rw [upd_ne (by omega)]
/-- the class's change, as the reference writes it -/
theorem CS.r6 {f f' : Nat → Int32} (hC : CS w x Fz (remG g) (updA (remA g A f) 1 f')) {v : Int32} : CS w x Fz (remG (upd g 6 v)) (updA (remA (upd g 6 v) A f) 1 f') := by
  rw [remA_6]
  exact hC.cong remG_6 (fun _ _ => rfl) rfl rfl rfl
theorem CS.u6 (hC : CS w x Fz g A) {v : Int32} : CS w x Fz (upd g 6 v) A := hC.cong (upd_ne (by omega)) (fun _ _ => rfl) rfl rfl rfl
theorem CS.v9 (h : CS w x Fz g A) : vp_in (g 5) 9 := h.2.1
end
