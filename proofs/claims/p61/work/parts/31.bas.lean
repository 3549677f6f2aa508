/-! pure reasoning: numbers -/
abbrev cl (x : Int32) : Nat := x.toNatClampNeg
theorem ia (a b : Int32) (h1 : -2147483648 ≤ a.toInt + b.toInt) (h2 : a.toInt + b.toInt < 2147483648) : (a + b).toInt = a.toInt + b.toInt := by
  rw [Int32.toInt_add]
  exact Int.bmod_eq_of_le (by omega) (by omega)
theorem isb (a b : Int32) (h1 : -2147483648 ≤ a.toInt - b.toInt) (h2 : a.toInt - b.toInt < 2147483648) : (a - b).toInt = a.toInt - b.toInt := by
  rw [Int32.toInt_sub]
  exact Int.bmod_eq_of_le (by omega) (by omega)
theorem im (a b : Int32) (h1 : -2147483648 ≤ a.toInt * b.toInt) (h2 : a.toInt * b.toInt < 2147483648) : (a * b).toInt = a.toInt * b.toInt := by
  rw [Int32.toInt_mul]
  exact Int.bmod_eq_of_le (by omega) (by omega)
theorem ilt {a b : Int32} : a < b ↔ a.toInt < b.toInt := Int32.lt_iff_toInt_lt
theorem ile {a b : Int32} : a ≤ b ↔ a.toInt ≤ b.toInt := Int32.le_iff_toInt_le
theorem ieq {a b : Int32} : a = b ↔ a.toInt = b.toInt := Int32.toInt_inj.symm
theorem ilo (a : Int32) : -2147483648 ≤ a.toInt := Int32.le_toInt a
theorem ihi (a : Int32) : a.toInt < 2147483648 := Int32.toInt_lt a
theorem cl_eq (x : Int32) : cl x = x.toInt.toNat := rfl
theorem i_m1 : (-1 : Int32).toInt = -1 := by decide
theorem clI {x : Int32} {n : Nat} (h : vp_in x n) : (cl x : Int) = x.toInt ∧ cl x < n := by
  have h1 := vp_in_iff.mp h
  have h2 := cl_eq x
  omega
theorem vp_le {x : Int32} {n m : Nat} (h : vp_in x n) (hm : n ≤ m) : vp_in x m := by
  have h1 := vp_in_iff.mp h
  exact vp_in_iff.mpr (by omega)
theorem cl_inj {x y : Int32} {n m : Nat} (hx : vp_in x n) (hy : vp_in y m) (h : cl x = cl y) : x = y := by
  have h1 := clI hx
  have h2 := clI hy
  exact ieq.mpr (by omega)
/-- a row's place -/
theorem ixP {a k : Int32} (ha : vp_in a 8) (hk : vp_in k 13) : vp_in (21 + 13 * a + k) 445 ∧ cl (21 + 13 * a + k) = 21 + 13 * cl a + cl k := by
  have h1 := vp_in_iff.mp ha
  have h2 := vp_in_iff.mp hk
  have c1 := clI ha
  have c2 := clI hk
  have e1 : (21 : Int32).toInt = 21 := by decide
  have e2 : (13 : Int32).toInt = 13 := by decide
  have e3 : (13 * a).toInt = 13 * a.toInt := by
    rw [im _ _ (by rw [e2]; omega) (by rw [e2]; omega), e2]
  have e4 : (21 + 13 * a).toInt = 21 + 13 * a.toInt := by
    rw [ia _ _ (by omega) (by omega), e1, e3]
  have e5 : (21 + 13 * a + k).toInt = 21 + 13 * a.toInt + k.toInt := by
    rw [ia _ _ (by omega) (by omega), e4]
  refine ⟨vp_in_iff.mpr (by omega), ?_⟩
  rw [cl_eq]
  omega
theorem ixT {a k : Int32} (ha : vp_in a 30) (hk : vp_in k 6) : vp_in (125 + 6 * a + k) 445 ∧ cl (125 + 6 * a + k) = 125 + 6 * cl a + cl k := by
  have h1 := vp_in_iff.mp ha
  have h2 := vp_in_iff.mp hk
  have c1 := clI ha
  have c2 := clI hk
  have e1 : (125 : Int32).toInt = 125 := by decide
  have e2 : (6 : Int32).toInt = 6 := by decide
  have e3 : (6 * a).toInt = 6 * a.toInt := by
    rw [im _ _ (by rw [e2]; omega) (by rw [e2]; omega), e2]
  have e4 : (125 + 6 * a).toInt = 125 + 6 * a.toInt := by
    rw [ia _ _ (by omega) (by omega), e1, e3]
  have e5 : (125 + 6 * a + k).toInt = 125 + 6 * a.toInt + k.toInt := by
    rw [ia _ _ (by omega) (by omega), e4]
  refine ⟨vp_in_iff.mpr (by omega), ?_⟩
  rw [cl_eq]
  omega
theorem ixC {a k : Int32} (ha : vp_in a 20) (hk : vp_in k 7) : vp_in (305 + 7 * a + k) 445 ∧ cl (305 + 7 * a + k) = 305 + 7 * cl a + cl k := by
  have h1 := vp_in_iff.mp ha
  have h2 := vp_in_iff.mp hk
  have c1 := clI ha
  have c2 := clI hk
  have e1 : (305 : Int32).toInt = 305 := by decide
  have e2 : (7 : Int32).toInt = 7 := by decide
  have e3 : (7 * a).toInt = 7 * a.toInt := by
    rw [im _ _ (by rw [e2]; omega) (by rw [e2]; omega), e2]
  have e4 : (305 + 7 * a).toInt = 305 + 7 * a.toInt := by
    rw [ia _ _ (by omega) (by omega), e1, e3]
  have e5 : (305 + 7 * a + k).toInt = 305 + 7 * a.toInt + k.toInt := by
    rw [ia _ _ (by omega) (by omega), e4]
  refine ⟨vp_in_iff.mpr (by omega), ?_⟩
  rw [cl_eq]
  omega
theorem ixZ {a : Int32} (ha : vp_in a 12) : vp_in (9 + a) 445 ∧ cl (9 + a) = 9 + cl a := by
  have h1 := vp_in_iff.mp ha
  have c1 := clI ha
  have e1 : (9 : Int32).toInt = 9 := by decide
  have e5 : (9 + a).toInt = 9 + a.toInt := by
    rw [ia _ _ (by omega) (by omega), e1]
  refine ⟨vp_in_iff.mpr (by omega), ?_⟩
  rw [cl_eq]
  omega
theorem upd_eq (f : Nat → Int32) (k : Nat) (x : Int32) : upd f k x k = x := if_pos rfl
theorem upd_ne {f : Nat → Int32} {k j : Nat} {x : Int32} (h : j ≠ k) : upd f k x j = f j := if_neg h
theorem upd_at (f : Nat → Int32) (k : Nat) (x : Int32) (j : Nat) : upd f k x j = if j = k then x else f j := rfl
theorem upd_self (f : Nat → Int32) (k : Nat) : upd f k (f k) = f := by
  funext j
  unfold upd
  split
  · rename_i h
    rw [h]
  · rfl
theorem upd_upd (f : Nat → Int32) (k : Nat) (x y : Int32) : upd (upd f k x) k y = upd f k y := by
  funext j
  unfold upd
  split <;> rfl
/-! the abstract heap read cell by cell -/
theorem fld_c {w : Mm} {a ci : Nat} {b : Bool} {fs : List Value} (h : w a = some (b, .inl (ci, fs))) (k : Nat) : fld w a ci k = fs[k]? := by
  simp [fld, h]
theorem obj_c {w : Mm} {a ci : Nat} {fs : List Value} (h : w a = some (true, .inl (ci, fs))) : obj w a ci = some fs := by
  simp [obj, h]
theorem isO_c {w : Mm} {a ci : Nat} {b : Bool} {fs : List Value} (h : w a = some (b, .inl (ci, fs))) : isO w a ci := ⟨b, fs, h⟩
theorem arI_c {w : Mm} {a k n : Nat} {b : Bool} {f : Nat → Int32} (h : w a = some (b, .inr (k, n, .inl f))) : arI w a k = some (n, f) := by
  simp [arI, h]
theorem arW_c {w : Mm} {a k n : Nat} {f : Nat → Int32} (h : w a = some (true, .inr (k, n, .inl f))) : arW w a k = some (n, f) := by
  simp [arW, h]
theorem arR_c {w : Mm} {a k n : Nat} {f : Nat → Option Nat} (h : w a = some (true, .inr (k, n, .inr (.inr f)))) : arR w a k = some (n, f) := by
  simp [arR, h]
theorem fld_ne {w : Mm} {a q ci k : Nat} {e : Ce} (h : q ≠ a) : fld (mset w a e) q ci k = fld w q ci k := by
  simp [fld, mset_ne h]
theorem obj_ne {w : Mm} {a q ci : Nat} {e : Ce} (h : q ≠ a) : obj (mset w a e) q ci = obj w q ci := by
  simp [obj, mset_ne h]
theorem isO_ne {w : Mm} {a q ci : Nat} {e : Ce} (h : q ≠ a) : isO (mset w a e) q ci = isO w q ci := by
  simp [isO, mset_ne h]
theorem arI_ne {w : Mm} {a q k : Nat} {e : Ce} (h : q ≠ a) : arI (mset w a e) q k = arI w q k := by
  simp [arI, mset_ne h]
theorem arW_ne {w : Mm} {a q k : Nat} {e : Ce} (h : q ≠ a) : arW (mset w a e) q k = arW w q k := by
  simp [arW, mset_ne h]
theorem arR_ne {w : Mm} {a q k : Nat} {e : Ce} (h : q ≠ a) : arR (mset w a e) q k = arR w q k := by
  simp [arR, mset_ne h]
theorem fld_ms (w : Mm) (a ci k : Nat) (fs : List Value) : fld (mset w a (.inl (ci, fs))) a ci k = fs[k]? := fld_c (mset_eq _ _ _) k
theorem obj_ms (w : Mm) (a ci : Nat) (fs : List Value) : obj (mset w a (.inl (ci, fs))) a ci = some fs := obj_c (mset_eq _ _ _)
theorem isO_ms (w : Mm) (a ci : Nat) (fs : List Value) : isO (mset w a (.inl (ci, fs))) a ci = True := eq_true (isO_c (mset_eq _ _ _))
theorem arI_ms (w : Mm) (a k n : Nat) (f : Nat → Int32) : arI (mset w a (.inr (k, n, .inl f))) a k = some (n, f) := arI_c (mset_eq _ _ _)
theorem arW_ms (w : Mm) (a k n : Nat) (f : Nat → Int32) : arW (mset w a (.inr (k, n, .inl f))) a k = some (n, f) := arW_c (mset_eq _ _ _)
theorem mset_mset (w : Mm) (a : Nat) (e e' : Ce) : mset (mset w a e) a e' = mset w a e' := by
  funext q
  unfold mset
  split <;> rfl
theorem mset_self {w : Mm} {a : Nat} {e : Ce} (h : w a = some (true, e)) : mset w a e = w := by
  funext q
  unfold mset
  split
  · rename_i hq
    rw [hq, h]
  · rfl
theorem mset_comm {w : Mm} {a b : Nat} {e e' : Ce} (h : a ≠ b) : mset (mset w a e) b e' = mset (mset w b e') a e := by
  funext q
  unfold mset
  by_cases h1 : q = b
  · rw [if_pos h1, if_neg (fun h2 : q = a => h (h2.symm.trans h1)), if_pos h1]
  · rw [if_neg h1, if_neg h1]
def b2 (b : Bool) : Int32 := if b then 1 else 0
theorem b2_t : b2 true = 1 := rfl
theorem b2_f : b2 false = 0 := rfl
theorem b2_0 (b : Bool) : b2 b = 0 ↔ b = false := by cases b <;> decide
theorem b2_1 (b : Bool) : b2 b = 1 ↔ b = true := by cases b <;> decide
theorem b2_br {b : Bool} {P R : Prop} (h1 : b = true → P) (h0 : b = false → R) : (¬ b2 b = 0 → P) ∧ (b2 b = 0 → R) := ⟨fun h => h1 (by cases b; exact absurd rfl h; rfl), fun h => h0 ((b2_0 b).mp h)⟩
theorem b2_rb {b : Bool} {P R : Prop} (h1 : b = true → P) (h0 : b = false → R) : (b2 b = 0 → R) ∧ (¬ b2 b = 0 → P) := ⟨(b2_br h1 h0).2, (b2_br h1 h0).1⟩
