section
variable {w : Mm} {m z : Nat} {g : Nat → Int32} {A : Nat → Nat → Int32} {Q : Int32 → Mm → Nat → Prop} {R : Mm → Nat → Prop} {T : Mm → Prop}
/-! the consistency check -/
def subR (f : Nat → Int32) : Nat → Int32 → Int32 → Int32
  | 0, x, _ => x
  | n + 1, x, t => subR f n (x - f (21 + 13 * cl t)) (t + 1)
theorem subR_mon (f : Nat → Int32) : ∀ (n : Nat) (x y t : Int32), subR f n x t + monR f n y t = x + y := by
  intro n
  induction n with
  | zero => intros; rfl
  | succ n ih =>
    intro x y t
    rw [subR, monR, ih, Int32.add_comm y, ← Int32.add_assoc, Int32.sub_add_cancel]
theorem subR_eq (f : Nat → Int32) (n : Nat) (x t : Int32) : subR f n x t = x - monR f n 0 t := by
  have h := subR_mon f n x 0 t
  rw [Int32.add_zero] at h
  have e := Int32.add_sub_cancel (subR f n x t) (monR f n 0 t)
  rw [h] at e
  exact e.symm
def oddM (f : Nat → Int32) : Nat → Int32 → Int32 → Int32
  | 0, x, _ => x
  | n + 1, x, t => oddM f n (if (f (125 + 6 * cl t + 3) = -1) = (f (125 + 6 * cl t + 5) = 0) then x else x + 1) (t + 1)
theorem oddR_shift (f : Nat → Int32) : ∀ (n : Nat) (x y t : Int32), oddR f n (x + y) t = x + oddR f n y t := by
  intro n
  induction n with
  | zero => intros; rfl
  | succ n ih =>
    intro x y t
    rw [oddR, oddR, ← ih]
    congr 1
    by_cases h : (f (125 + 6 * cl t + 3) = -1) = (f (125 + 6 * cl t + 5) ≤ 0)
    · rw [if_pos h, if_pos h]
    · rw [if_neg h, if_neg h, Int32.add_assoc]
theorem oddM_R {f : Nat → Int32} : ∀ (n : Nat) (x t : Int32), 0 ≤ t.toInt → t.toInt + n ≤ 30 → (∀ k, k < cl t + n → 0 ≤ (f (125 + 6 * k + 5)).toInt) → oddM f n x t = oddR f n x t := by
  intro n
  induction n with
  | zero => intros; rfl
  | succ n ih =>
    intro x t h1 h2 h3
    have hv : vp_in t 30 := vp_in_iff.mpr (by omega)
    have h5 := cl_succ hv (by omega)
    have h6 := h3 (cl t) (by omega)
    have e : (f (125 + 6 * cl t + 5) ≤ 0) = (f (125 + 6 * cl t + 5) = 0) := by
      refine propext ⟨fun h => ?_, fun h => ?_⟩
      · have := ile.mp h
        rw [i_0] at this
        exact ieq.mpr (by rw [i_0]; omega)
      · rw [h]
        exact ile.mpr (Int.le_refl _)
    rw [oddM, oddR]
    have e2 : (if (f (125 + 6 * cl t + 3) = -1) = (f (125 + 6 * cl t + 5) = 0) then x else x + 1) = (if (f (125 + 6 * cl t + 3) = -1) = (f (125 + 6 * cl t + 5) ≤ 0) then x else x + 1) := by
      by_cases hc : (f (125 + 6 * cl t + 3) = -1) = (f (125 + 6 * cl t + 5) = 0)
      · rw [if_pos hc, if_pos (hc.trans e.symm)]
      · rw [if_neg hc, if_neg (fun hh => hc (hh.trans e))]
    rw [e2]
    exact ih _ _ (by omega) (by omega) (fun k hk => h3 k (by omega))
theorem Inv.rides0 {f : Nat → Int32} (h : Inv f) {k : Nat} (hk : k < cl (f 3)) : 0 ≤ (f (125 + 6 * k + 5)).toInt := by
  rcases (h.2.2.2.2.1 k hk).2.2 with h1 | h1
  · rw [h1.2]
    decide
  · omega
def incF (f : Nat → Int32) : Int32 := jabs (f 8 - f 5 - f 6 - monR f (cl (f 2)) 0 0) + oddR f (cl (f 3)) 0 0
end
section
variable {w w' w'' : Mm} {x z mc ms b : Nat} {Q : Int32 → Mm → Nat → Prop} {R : Mm → Nat → Prop} {X : String → Mm → Nat → Prop} {T : Mm → Prop} {f f' : Nat → Int32} {Fz Fz' : Nat → Prop} {g g' : Nat → Int32} {A A' : Nat → Nat → Int32}
theorem X_inconsistencies (h : CS w x Fz g A) (hq : Q (incF (A 1)) w z) : F_X5_inconsistencies x w z Q := by
  have e := h.I1.2.2.2.2.2.2
  refine ⟨_, h.f0, _, h.F1.g8, _, h.f0, h.is1, h.F1.prices h.I1 ⟨_, h.f0, _, h.F1.g6, _, h.f0, h.is1, h.F1.moneys h.I1 ?_⟩⟩
  rintro _ rfl
  refine ⟨_, h.f0, h.is1, h.F1.odds h.I1 ?_⟩
  rw [← e]
  exact hq
theorem bitc_I (a : Int32) : 0 ≤ (bitc a).toInt ∧ (bitc a).toInt < 64 := by
  have h := vp_in_iff.mp (show vp_in (bitc a) (2 ^ 6) from pk_andIn _ (m := 63) 6 (by decide) (by decide))
  exact ⟨h.1, by omega⟩
theorem price_01 (a : Int32) : priceI 0 a ≤ priceI 1 a := by
  have h := bitc_I a
  have i2 : (200 : Int32).toInt = 200 := by decide
  have i5 : (500 : Int32).toInt = 500 := by decide
  unfold priceI
  rw [if_neg (by decide), if_neg (by decide), if_neg (by decide), if_pos rfl]
  exact ile.mpr (by rw [im _ _ (by rw [i2]; omega) (by rw [i2]; omega), im _ _ (by rw [i5]; omega) (by rw [i5]; omega), i2, i5]; omega)
end
