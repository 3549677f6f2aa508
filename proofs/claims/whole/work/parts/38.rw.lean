/-! the reference's own cells: nine from m on -/
def rl (k : Nat) : Nat := if k = 1 then 445 else if k = 2 then 3560 else if k = 3 then 890 else if k = 4 then 445 else if k = 5 then 2 else if k = 6 then 700 else if k = 7 then 300 else 6
def rk (k : Nat) : Nat := if k = 5 then 2 else 0
def rh (m : Nat) (g : Nat → Int32) (A : Nat → Nat → Int32) (k : Nat) : Ce :=
  if k = 0 then .inl (10, [.ref (m + 1), .ref (m + 2), .ref (m + 3), .ref (m + 4), .ref (m + 5), .int (g 5), .int (g 6), .ref (m + 6), .ref (m + 7), .int (g 9), .int (g 10), .int (g 11), .int (g 12), .ref (m + 8), .int (g 14), .int (g 15), .int (g 16), .int (g 17), .int (g 18), .int (g 19), .int (g 20)])
  else .inr (rk k, rl k, .inl (A k))
def rwd (w : Mm) (m : Nat) (g : Nat → Int32) (A : Nat → Nat → Int32) : Mm := fun q => if m ≤ q ∧ q < m + 9 then some (true, rh m g A (q - m)) else w q
def updA (A : Nat → Nat → Int32) (k : Nat) (f : Nat → Int32) : Nat → Nat → Int32 := fun j => if j = k then f else A j
theorem updA_ne {A : Nat → Nat → Int32} {k j : Nat} {f : Nat → Int32} (h : j ≠ k) : updA A k f j = A j := if_neg h
theorem updA_eq (A : Nat → Nat → Int32) (k : Nat) (f : Nat → Int32) : updA A k f k = f := if_pos rfl
theorem updA_self (A : Nat → Nat → Int32) (k : Nat) : updA A k (A k) = A := by
  funext j
  unfold updA
  split
  · rename_i h
    rw [h]
  · rfl
section
variable {w : Mm} {m z : Nat} {g : Nat → Int32} {A : Nat → Nat → Int32} {Q : Int32 → Mm → Nat → Prop} {R : Mm → Nat → Prop} {T : Mm → Prop}
theorem rwd_at {k : Nat} (hk : k < 9) : rwd w m g A (m + k) = some (true, rh m g A k) := by
  unfold rwd
  rw [if_pos (by omega), Nat.add_sub_cancel_left]
theorem rwd_o {q : Nat} (h : ¬ (m ≤ q ∧ q < m + 9)) : rwd w m g A q = w q := if_neg h
theorem rwd_0 : rwd w m g A m = some (true, .inl (10, [.ref (m + 1), .ref (m + 2), .ref (m + 3), .ref (m + 4), .ref (m + 5), .int (g 5), .int (g 6), .ref (m + 6), .ref (m + 7), .int (g 9), .int (g 10), .int (g 11), .int (g 12), .ref (m + 8), .int (g 14), .int (g 15), .int (g 16), .int (g 17), .int (g 18), .int (g 19), .int (g 20)])) := rwd_at (k := 0) (by omega)
theorem rwd_k {k : Nat} (h : 0 < k) (h9 : k < 9) : rwd w m g A (m + k) = some (true, .inr (rk k, rl k, .inl (A k))) := by
  rw [rwd_at h9, rh, if_neg (by omega)]
theorem rwd_put {g' : Nat → Int32} {A' : Nat → Nat → Int32} {a k : Nat} {e : Ce} (ha : a = m + k) (hk : k < 9) (he : rh m g' A' k = e) (hs : ∀ j, j < 9 → j ≠ k → rh m g' A' j = rh m g A j) : mset (rwd w m g A) a e = rwd w m g' A' := by
  subst ha
  funext q
  by_cases hq : q = m + k
  · rw [hq, mset_eq, rwd_at hk, he]
  · rw [mset_ne hq]
    unfold rwd
    by_cases h : m ≤ q ∧ q < m + 9
    · rw [if_pos h, if_pos h, hs _ (by omega) (by omega)]
    · rw [if_neg h, if_neg h]
theorem rwd_set {k : Nat} {f : Nat → Int32} (h : 0 < k) (h9 : k < 9) : mset (rwd w m g A) (m + k) (.inr (rk k, rl k, .inl f)) = rwd w m g (updA A k f) :=
  rwd_put rfl h9 (by rw [rh, if_neg (by omega), updA_eq]) (fun j hj hk => by
    unfold rh
    rw [updA_ne hk])
theorem rwd_s {f : Nat → Int32} : mw (rwd w m g A) (m + 1) f = rwd w m g (updA A 1 f) := rwd_set (k := 1) (by omega) (by omega)
theorem rwd_self : mw (rwd w m g A) (m + 1) (A 1) = rwd w m g A := by
  rw [rwd_s, updA_self]
theorem R_i : isO (rwd w m g A) m 10 := isO_c rwd_0
theorem rwd_ok : Ok (rwd w m g A) m (m + 1) := ⟨fld_c rwd_0 0, by omega, R_i⟩
theorem R_g5 : fld (rwd w m g A) m 10 5 = some (.int (g 5)) := fld_c rwd_0 5
theorem R_g6 : fld (rwd w m g A) m 10 6 = some (.int (g 6)) := fld_c rwd_0 6
theorem R_g9 : fld (rwd w m g A) m 10 9 = some (.int (g 9)) := fld_c rwd_0 9
theorem R_g10 : fld (rwd w m g A) m 10 10 = some (.int (g 10)) := fld_c rwd_0 10
theorem R_g11 : fld (rwd w m g A) m 10 11 = some (.int (g 11)) := fld_c rwd_0 11
theorem R_g12 : fld (rwd w m g A) m 10 12 = some (.int (g 12)) := fld_c rwd_0 12
theorem R_g14 : fld (rwd w m g A) m 10 14 = some (.int (g 14)) := fld_c rwd_0 14
theorem R_g15 : fld (rwd w m g A) m 10 15 = some (.int (g 15)) := fld_c rwd_0 15
theorem R_g16 : fld (rwd w m g A) m 10 16 = some (.int (g 16)) := fld_c rwd_0 16
theorem R_g17 : fld (rwd w m g A) m 10 17 = some (.int (g 17)) := fld_c rwd_0 17
theorem R_g18 : fld (rwd w m g A) m 10 18 = some (.int (g 18)) := fld_c rwd_0 18
theorem R_g19 : fld (rwd w m g A) m 10 19 = some (.int (g 19)) := fld_c rwd_0 19
theorem R_g20 : fld (rwd w m g A) m 10 20 = some (.int (g 20)) := fld_c rwd_0 20
theorem R_r0 : fld (rwd w m g A) m 10 0 = some (.ref (m + 1)) := fld_c rwd_0 0
theorem R_r1 : fld (rwd w m g A) m 10 1 = some (.ref (m + 2)) := fld_c rwd_0 1
theorem R_r2 : fld (rwd w m g A) m 10 2 = some (.ref (m + 3)) := fld_c rwd_0 2
theorem R_r3 : fld (rwd w m g A) m 10 3 = some (.ref (m + 4)) := fld_c rwd_0 3
theorem R_r4 : fld (rwd w m g A) m 10 4 = some (.ref (m + 5)) := fld_c rwd_0 4
theorem R_r7 : fld (rwd w m g A) m 10 7 = some (.ref (m + 6)) := fld_c rwd_0 7
theorem R_r8 : fld (rwd w m g A) m 10 8 = some (.ref (m + 7)) := fld_c rwd_0 8
theorem R_r13 : fld (rwd w m g A) m 10 13 = some (.ref (m + 8)) := fld_c rwd_0 13
theorem R_a1 : arI (rwd w m g A) (m + 1) 0 = some (445, A 1) := arI_c (rwd_k (k := 1) (by omega) (by omega))
theorem R_w1 : arW (rwd w m g A) (m + 1) 0 = some (445, A 1) := arW_c (rwd_k (k := 1) (by omega) (by omega))
theorem R_s1 {f : Nat → Int32} : mset (rwd w m g A) (m + 1) (.inr (0, 445, .inl f)) = rwd w m g (updA A 1 f) := rwd_set (k := 1) (by omega) (by omega)
theorem R_a2 : arI (rwd w m g A) (m + 2) 0 = some (3560, A 2) := arI_c (rwd_k (k := 2) (by omega) (by omega))
theorem R_w2 : arW (rwd w m g A) (m + 2) 0 = some (3560, A 2) := arW_c (rwd_k (k := 2) (by omega) (by omega))
theorem R_s2 {f : Nat → Int32} : mset (rwd w m g A) (m + 2) (.inr (0, 3560, .inl f)) = rwd w m g (updA A 2 f) := rwd_set (k := 2) (by omega) (by omega)
theorem R_a3 : arI (rwd w m g A) (m + 3) 0 = some (890, A 3) := arI_c (rwd_k (k := 3) (by omega) (by omega))
theorem R_w3 : arW (rwd w m g A) (m + 3) 0 = some (890, A 3) := arW_c (rwd_k (k := 3) (by omega) (by omega))
theorem R_s3 {f : Nat → Int32} : mset (rwd w m g A) (m + 3) (.inr (0, 890, .inl f)) = rwd w m g (updA A 3 f) := rwd_set (k := 3) (by omega) (by omega)
theorem R_a4 : arI (rwd w m g A) (m + 4) 0 = some (445, A 4) := arI_c (rwd_k (k := 4) (by omega) (by omega))
theorem R_w4 : arW (rwd w m g A) (m + 4) 0 = some (445, A 4) := arW_c (rwd_k (k := 4) (by omega) (by omega))
theorem R_s4 {f : Nat → Int32} : mset (rwd w m g A) (m + 4) (.inr (0, 445, .inl f)) = rwd w m g (updA A 4 f) := rwd_set (k := 4) (by omega) (by omega)
theorem R_a5 : arI (rwd w m g A) (m + 5) 2 = some (2, A 5) := arI_c (rwd_k (k := 5) (by omega) (by omega))
theorem R_w5 : arW (rwd w m g A) (m + 5) 2 = some (2, A 5) := arW_c (rwd_k (k := 5) (by omega) (by omega))
theorem R_s5 {f : Nat → Int32} : mset (rwd w m g A) (m + 5) (.inr (2, 2, .inl f)) = rwd w m g (updA A 5 f) := rwd_set (k := 5) (by omega) (by omega)
theorem R_a6 : arI (rwd w m g A) (m + 6) 0 = some (700, A 6) := arI_c (rwd_k (k := 6) (by omega) (by omega))
theorem R_w6 : arW (rwd w m g A) (m + 6) 0 = some (700, A 6) := arW_c (rwd_k (k := 6) (by omega) (by omega))
theorem R_s6 {f : Nat → Int32} : mset (rwd w m g A) (m + 6) (.inr (0, 700, .inl f)) = rwd w m g (updA A 6 f) := rwd_set (k := 6) (by omega) (by omega)
theorem R_a7 : arI (rwd w m g A) (m + 7) 0 = some (300, A 7) := arI_c (rwd_k (k := 7) (by omega) (by omega))
theorem R_w7 : arW (rwd w m g A) (m + 7) 0 = some (300, A 7) := arW_c (rwd_k (k := 7) (by omega) (by omega))
theorem R_s7 {f : Nat → Int32} : mset (rwd w m g A) (m + 7) (.inr (0, 300, .inl f)) = rwd w m g (updA A 7 f) := rwd_set (k := 7) (by omega) (by omega)
theorem R_a8 : arI (rwd w m g A) (m + 8) 0 = some (6, A 8) := arI_c (rwd_k (k := 8) (by omega) (by omega))
theorem R_w8 : arW (rwd w m g A) (m + 8) 0 = some (6, A 8) := arW_c (rwd_k (k := 8) (by omega) (by omega))
theorem R_s8 {f : Nat → Int32} : mset (rwd w m g A) (m + 8) (.inr (0, 6, .inl f)) = rwd w m g (updA A 8 f) := rwd_set (k := 8) (by omega) (by omega)
theorem R_p5 {v : Int32} (h : T (rwd w m (upd g 5 v) A)) : ∃ f1, obj (rwd w m g A) m 10 = some f1 ∧ 5 < f1.length ∧ ∀ w2, w2 = mset (rwd w m g A) m (.inl (10, f1.set 5 (.int v))) → T w2 := by
  refine ⟨_, obj_c rwd_0, by simp only [List.length_cons, List.length_nil]; omega, ?_⟩
  rintro _ rfl
  have e : mset (rwd w m g A) m (.inl (10, ([.ref (m + 1), .ref (m + 2), .ref (m + 3), .ref (m + 4), .ref (m + 5), .int (g 5), .int (g 6), .ref (m + 6), .ref (m + 7), .int (g 9), .int (g 10), .int (g 11), .int (g 12), .ref (m + 8), .int (g 14), .int (g 15), .int (g 16), .int (g 17), .int (g 18), .int (g 19), .int (g 20)] : List Value).set 5 (.int v))) = rwd w m (upd g 5 v) A := rwd_put (k := 0) rfl (by omega) rfl (fun j hj hk => by
    unfold rh
    rw [if_neg hk, if_neg hk])
  rw [e]
  exact h
theorem R_p6 {v : Int32} (h : T (rwd w m (upd g 6 v) A)) : ∃ f1, obj (rwd w m g A) m 10 = some f1 ∧ 6 < f1.length ∧ ∀ w2, w2 = mset (rwd w m g A) m (.inl (10, f1.set 6 (.int v))) → T w2 := by
  refine ⟨_, obj_c rwd_0, by simp only [List.length_cons, List.length_nil]; omega, ?_⟩
  rintro _ rfl
  have e : mset (rwd w m g A) m (.inl (10, ([.ref (m + 1), .ref (m + 2), .ref (m + 3), .ref (m + 4), .ref (m + 5), .int (g 5), .int (g 6), .ref (m + 6), .ref (m + 7), .int (g 9), .int (g 10), .int (g 11), .int (g 12), .ref (m + 8), .int (g 14), .int (g 15), .int (g 16), .int (g 17), .int (g 18), .int (g 19), .int (g 20)] : List Value).set 6 (.int v))) = rwd w m (upd g 6 v) A := rwd_put (k := 0) rfl (by omega) rfl (fun j hj hk => by
    unfold rh
    rw [if_neg hk, if_neg hk])
  rw [e]
  exact h
theorem R_p9 {v : Int32} (h : T (rwd w m (upd g 9 v) A)) : ∃ f1, obj (rwd w m g A) m 10 = some f1 ∧ 9 < f1.length ∧ ∀ w2, w2 = mset (rwd w m g A) m (.inl (10, f1.set 9 (.int v))) → T w2 := by
  refine ⟨_, obj_c rwd_0, by simp only [List.length_cons, List.length_nil]; omega, ?_⟩
  rintro _ rfl
  have e : mset (rwd w m g A) m (.inl (10, ([.ref (m + 1), .ref (m + 2), .ref (m + 3), .ref (m + 4), .ref (m + 5), .int (g 5), .int (g 6), .ref (m + 6), .ref (m + 7), .int (g 9), .int (g 10), .int (g 11), .int (g 12), .ref (m + 8), .int (g 14), .int (g 15), .int (g 16), .int (g 17), .int (g 18), .int (g 19), .int (g 20)] : List Value).set 9 (.int v))) = rwd w m (upd g 9 v) A := rwd_put (k := 0) rfl (by omega) rfl (fun j hj hk => by
    unfold rh
    rw [if_neg hk, if_neg hk])
  rw [e]
  exact h
theorem R_p10 {v : Int32} (h : T (rwd w m (upd g 10 v) A)) : ∃ f1, obj (rwd w m g A) m 10 = some f1 ∧ 10 < f1.length ∧ ∀ w2, w2 = mset (rwd w m g A) m (.inl (10, f1.set 10 (.int v))) → T w2 := by
  refine ⟨_, obj_c rwd_0, by simp only [List.length_cons, List.length_nil]; omega, ?_⟩
  rintro _ rfl
  have e : mset (rwd w m g A) m (.inl (10, ([.ref (m + 1), .ref (m + 2), .ref (m + 3), .ref (m + 4), .ref (m + 5), .int (g 5), .int (g 6), .ref (m + 6), .ref (m + 7), .int (g 9), .int (g 10), .int (g 11), .int (g 12), .ref (m + 8), .int (g 14), .int (g 15), .int (g 16), .int (g 17), .int (g 18), .int (g 19), .int (g 20)] : List Value).set 10 (.int v))) = rwd w m (upd g 10 v) A := rwd_put (k := 0) rfl (by omega) rfl (fun j hj hk => by
    unfold rh
    rw [if_neg hk, if_neg hk])
  rw [e]
  exact h
theorem R_p11 {v : Int32} (h : T (rwd w m (upd g 11 v) A)) : ∃ f1, obj (rwd w m g A) m 10 = some f1 ∧ 11 < f1.length ∧ ∀ w2, w2 = mset (rwd w m g A) m (.inl (10, f1.set 11 (.int v))) → T w2 := by
  refine ⟨_, obj_c rwd_0, by simp only [List.length_cons, List.length_nil]; omega, ?_⟩
  rintro _ rfl
  have e : mset (rwd w m g A) m (.inl (10, ([.ref (m + 1), .ref (m + 2), .ref (m + 3), .ref (m + 4), .ref (m + 5), .int (g 5), .int (g 6), .ref (m + 6), .ref (m + 7), .int (g 9), .int (g 10), .int (g 11), .int (g 12), .ref (m + 8), .int (g 14), .int (g 15), .int (g 16), .int (g 17), .int (g 18), .int (g 19), .int (g 20)] : List Value).set 11 (.int v))) = rwd w m (upd g 11 v) A := rwd_put (k := 0) rfl (by omega) rfl (fun j hj hk => by
    unfold rh
    rw [if_neg hk, if_neg hk])
  rw [e]
  exact h
theorem R_p12 {v : Int32} (h : T (rwd w m (upd g 12 v) A)) : ∃ f1, obj (rwd w m g A) m 10 = some f1 ∧ 12 < f1.length ∧ ∀ w2, w2 = mset (rwd w m g A) m (.inl (10, f1.set 12 (.int v))) → T w2 := by
  refine ⟨_, obj_c rwd_0, by simp only [List.length_cons, List.length_nil]; omega, ?_⟩
  rintro _ rfl
  have e : mset (rwd w m g A) m (.inl (10, ([.ref (m + 1), .ref (m + 2), .ref (m + 3), .ref (m + 4), .ref (m + 5), .int (g 5), .int (g 6), .ref (m + 6), .ref (m + 7), .int (g 9), .int (g 10), .int (g 11), .int (g 12), .ref (m + 8), .int (g 14), .int (g 15), .int (g 16), .int (g 17), .int (g 18), .int (g 19), .int (g 20)] : List Value).set 12 (.int v))) = rwd w m (upd g 12 v) A := rwd_put (k := 0) rfl (by omega) rfl (fun j hj hk => by
    unfold rh
    rw [if_neg hk, if_neg hk])
  rw [e]
  exact h
theorem R_p14 {v : Int32} (h : T (rwd w m (upd g 14 v) A)) : ∃ f1, obj (rwd w m g A) m 10 = some f1 ∧ 14 < f1.length ∧ ∀ w2, w2 = mset (rwd w m g A) m (.inl (10, f1.set 14 (.int v))) → T w2 := by
  refine ⟨_, obj_c rwd_0, by simp only [List.length_cons, List.length_nil]; omega, ?_⟩
  rintro _ rfl
  have e : mset (rwd w m g A) m (.inl (10, ([.ref (m + 1), .ref (m + 2), .ref (m + 3), .ref (m + 4), .ref (m + 5), .int (g 5), .int (g 6), .ref (m + 6), .ref (m + 7), .int (g 9), .int (g 10), .int (g 11), .int (g 12), .ref (m + 8), .int (g 14), .int (g 15), .int (g 16), .int (g 17), .int (g 18), .int (g 19), .int (g 20)] : List Value).set 14 (.int v))) = rwd w m (upd g 14 v) A := rwd_put (k := 0) rfl (by omega) rfl (fun j hj hk => by
    unfold rh
    rw [if_neg hk, if_neg hk])
  rw [e]
  exact h
theorem R_p15 {v : Int32} (h : T (rwd w m (upd g 15 v) A)) : ∃ f1, obj (rwd w m g A) m 10 = some f1 ∧ 15 < f1.length ∧ ∀ w2, w2 = mset (rwd w m g A) m (.inl (10, f1.set 15 (.int v))) → T w2 := by
  refine ⟨_, obj_c rwd_0, by simp only [List.length_cons, List.length_nil]; omega, ?_⟩
  rintro _ rfl
  have e : mset (rwd w m g A) m (.inl (10, ([.ref (m + 1), .ref (m + 2), .ref (m + 3), .ref (m + 4), .ref (m + 5), .int (g 5), .int (g 6), .ref (m + 6), .ref (m + 7), .int (g 9), .int (g 10), .int (g 11), .int (g 12), .ref (m + 8), .int (g 14), .int (g 15), .int (g 16), .int (g 17), .int (g 18), .int (g 19), .int (g 20)] : List Value).set 15 (.int v))) = rwd w m (upd g 15 v) A := rwd_put (k := 0) rfl (by omega) rfl (fun j hj hk => by
    unfold rh
    rw [if_neg hk, if_neg hk])
  rw [e]
  exact h
theorem R_p16 {v : Int32} (h : T (rwd w m (upd g 16 v) A)) : ∃ f1, obj (rwd w m g A) m 10 = some f1 ∧ 16 < f1.length ∧ ∀ w2, w2 = mset (rwd w m g A) m (.inl (10, f1.set 16 (.int v))) → T w2 := by
  refine ⟨_, obj_c rwd_0, by simp only [List.length_cons, List.length_nil]; omega, ?_⟩
  rintro _ rfl
  have e : mset (rwd w m g A) m (.inl (10, ([.ref (m + 1), .ref (m + 2), .ref (m + 3), .ref (m + 4), .ref (m + 5), .int (g 5), .int (g 6), .ref (m + 6), .ref (m + 7), .int (g 9), .int (g 10), .int (g 11), .int (g 12), .ref (m + 8), .int (g 14), .int (g 15), .int (g 16), .int (g 17), .int (g 18), .int (g 19), .int (g 20)] : List Value).set 16 (.int v))) = rwd w m (upd g 16 v) A := rwd_put (k := 0) rfl (by omega) rfl (fun j hj hk => by
    unfold rh
    rw [if_neg hk, if_neg hk])
  rw [e]
  exact h
theorem R_p17 {v : Int32} (h : T (rwd w m (upd g 17 v) A)) : ∃ f1, obj (rwd w m g A) m 10 = some f1 ∧ 17 < f1.length ∧ ∀ w2, w2 = mset (rwd w m g A) m (.inl (10, f1.set 17 (.int v))) → T w2 := by
  refine ⟨_, obj_c rwd_0, by simp only [List.length_cons, List.length_nil]; omega, ?_⟩
  rintro _ rfl
  have e : mset (rwd w m g A) m (.inl (10, ([.ref (m + 1), .ref (m + 2), .ref (m + 3), .ref (m + 4), .ref (m + 5), .int (g 5), .int (g 6), .ref (m + 6), .ref (m + 7), .int (g 9), .int (g 10), .int (g 11), .int (g 12), .ref (m + 8), .int (g 14), .int (g 15), .int (g 16), .int (g 17), .int (g 18), .int (g 19), .int (g 20)] : List Value).set 17 (.int v))) = rwd w m (upd g 17 v) A := rwd_put (k := 0) rfl (by omega) rfl (fun j hj hk => by
    unfold rh
    rw [if_neg hk, if_neg hk])
  rw [e]
  exact h
theorem R_p18 {v : Int32} (h : T (rwd w m (upd g 18 v) A)) : ∃ f1, obj (rwd w m g A) m 10 = some f1 ∧ 18 < f1.length ∧ ∀ w2, w2 = mset (rwd w m g A) m (.inl (10, f1.set 18 (.int v))) → T w2 := by
  refine ⟨_, obj_c rwd_0, by simp only [List.length_cons, List.length_nil]; omega, ?_⟩
  rintro _ rfl
  have e : mset (rwd w m g A) m (.inl (10, ([.ref (m + 1), .ref (m + 2), .ref (m + 3), .ref (m + 4), .ref (m + 5), .int (g 5), .int (g 6), .ref (m + 6), .ref (m + 7), .int (g 9), .int (g 10), .int (g 11), .int (g 12), .ref (m + 8), .int (g 14), .int (g 15), .int (g 16), .int (g 17), .int (g 18), .int (g 19), .int (g 20)] : List Value).set 18 (.int v))) = rwd w m (upd g 18 v) A := rwd_put (k := 0) rfl (by omega) rfl (fun j hj hk => by
    unfold rh
    rw [if_neg hk, if_neg hk])
  rw [e]
  exact h
theorem R_p19 {v : Int32} (h : T (rwd w m (upd g 19 v) A)) : ∃ f1, obj (rwd w m g A) m 10 = some f1 ∧ 19 < f1.length ∧ ∀ w2, w2 = mset (rwd w m g A) m (.inl (10, f1.set 19 (.int v))) → T w2 := by
  refine ⟨_, obj_c rwd_0, by simp only [List.length_cons, List.length_nil]; omega, ?_⟩
  rintro _ rfl
  have e : mset (rwd w m g A) m (.inl (10, ([.ref (m + 1), .ref (m + 2), .ref (m + 3), .ref (m + 4), .ref (m + 5), .int (g 5), .int (g 6), .ref (m + 6), .ref (m + 7), .int (g 9), .int (g 10), .int (g 11), .int (g 12), .ref (m + 8), .int (g 14), .int (g 15), .int (g 16), .int (g 17), .int (g 18), .int (g 19), .int (g 20)] : List Value).set 19 (.int v))) = rwd w m (upd g 19 v) A := rwd_put (k := 0) rfl (by omega) rfl (fun j hj hk => by
    unfold rh
    rw [if_neg hk, if_neg hk])
  rw [e]
  exact h
theorem R_p20 {v : Int32} (h : T (rwd w m (upd g 20 v) A)) : ∃ f1, obj (rwd w m g A) m 10 = some f1 ∧ 20 < f1.length ∧ ∀ w2, w2 = mset (rwd w m g A) m (.inl (10, f1.set 20 (.int v))) → T w2 := by
  refine ⟨_, obj_c rwd_0, by simp only [List.length_cons, List.length_nil]; omega, ?_⟩
  rintro _ rfl
  have e : mset (rwd w m g A) m (.inl (10, ([.ref (m + 1), .ref (m + 2), .ref (m + 3), .ref (m + 4), .ref (m + 5), .int (g 5), .int (g 6), .ref (m + 6), .ref (m + 7), .int (g 9), .int (g 10), .int (g 11), .int (g 12), .ref (m + 8), .int (g 14), .int (g 15), .int (g 16), .int (g 17), .int (g 18), .int (g 19), .int (g 20)] : List Value).set 20 (.int v))) = rwd w m (upd g 20 v) A := rwd_put (k := 0) rfl (by omega) rfl (fun j hj hk => by
    unfold rh
    rw [if_neg hk, if_neg hk])
  rw [e]
  exact h
theorem L_mayBuy {p k zn : Int32} (hp : vp_in p 8) (hq : Q (mayBuyF (A 1) p k zn) (rwd w m g A) z) : F_X6_mayBuy m p k zn (rwd w m g A) z Q := by
  have h : F_X6_mayBuy m p k zn (mw (rwd w m g A) (m + 1) (A 1)) z Q := r_mayBuy rwd_ok hp (by
    rw [rwd_self]
    exact hq)
  rwa [rwd_self] at h
theorem L_buys {p k zn : Int32} (hp : vp_in p 8) (ht : vp_in (A 1 3) 30) (hq : Q (A 1 3) (rwd w m g (updA A 1 (buyF (A 1) p k zn))) z) : F_X6_buys m p k zn (rwd w m g A) z Q := by
  have h : F_X6_buys m p k zn (mw (rwd w m g A) (m + 1) (A 1)) z Q := r_buys rwd_ok hp ht (by
    rw [rwd_s]
    exact hq)
  rwa [rwd_self] at h
theorem L_rides {p : Int32} (hp : vp_in p 8) (hq : Q (ridesF (A 1) p) (rwd w m g A) z) : F_X6_rides m p (rwd w m g A) z Q := by
  have h : F_X6_rides m p (mw (rwd w m g A) (m + 1) (A 1)) z Q := r_rides rwd_ok hp (by
    rw [rwd_self]
    exact hq)
  rwa [rwd_self] at h
theorem L_mayRide {p t : Int32} (hp : vp_in p 8) (ht : ¬ t = -1 → vp_in t 30) (hq : Q (mayRideF (A 1) p t) (rwd w m g A) z) : F_X6_mayRide m p t (rwd w m g A) z Q := by
  have h : F_X6_mayRide m p t (mw (rwd w m g A) (m + 1) (A 1)) z Q := r_mayRide rwd_ok hp ht (by
    rw [rwd_self]
    exact hq)
  rwa [rwd_self] at h
theorem L_begins {p a b t : Int32} (hp : vp_in p 8) (ht : ¬ t = -1 → vp_in t 30) (hq : Q (beginF (A 1) p a b t (21 + 13 * cl p + 3)) (rwd w m g (updA A 1 (beginF (A 1) p a b t))) z) : F_X6_begins m p a b t (rwd w m g A) z Q := by
  have h : F_X6_begins m p a b t (mw (rwd w m g A) (m + 1) (A 1)) z Q := r_begins rwd_ok hp ht (by
    rw [rwd_s]
    exact hq)
  rwa [rwd_self] at h
theorem L_inTime {t : Int32} (ht : vp_in t 30) (hq : Q (inTimeF (A 1) t) (rwd w m g A) z) : F_X6_inTime m t (rwd w m g A) z Q := by
  have h : F_X6_inTime m t (mw (rwd w m g A) (m + 1) (A 1)) z Q := r_inTime rwd_ok ht (by
    rw [rwd_self]
    exact hq)
  rwa [rwd_self] at h
theorem L_zones {a b : Int32} (ha : vp_in a 12) (hb : vp_in b 12) (hq : Q (zonesF (A 1) a b) (rwd w m g A) z) : F_X6_zones m a b (rwd w m g A) z Q := by
  have h : F_X6_zones m a b (mw (rwd w m g A) (m + 1) (A 1)) z Q := r_zones rwd_ok ha hb (by
    rw [rwd_self]
    exact hq)
  rwa [rwd_self] at h
theorem L_fault {p : Int32} (hp : vp_in p 8) (ha : ¬ A 1 (21 + 13 * cl p + 3) = -1 → vp_in (A 1 (21 + 13 * cl p + 1)) 12) (hb : ¬ A 1 (21 + 13 * cl p + 3) = -1 → vp_in (A 1 (21 + 13 * cl p + 2)) 12) (hk : ¬ A 1 (21 + 13 * cl p + 3) = -1 → ¬ A 1 (21 + 13 * cl p + 4) = -1 → vp_in (A 1 (21 + 13 * cl p + 4)) 30) (hq : Q (faultF (A 1) p) (rwd w m g A) z) : F_X6_fault m p (rwd w m g A) z Q := by
  have h : F_X6_fault m p (mw (rwd w m g A) (m + 1) (A 1)) z Q := r_fault rwd_ok hp ha hb hk (by
    rw [rwd_self]
    exact hq)
  rwa [rwd_self] at h
theorem L_mayInspect {p : Int32} (hp : vp_in p 8) (hq : Q (mayInspectF (A 1) p) (rwd w m g A) z) : F_X6_mayInspect m p (rwd w m g A) z Q := by
  have h : F_X6_mayInspect m p (mw (rwd w m g A) (m + 1) (A 1)) z Q := r_mayInspect rwd_ok hp (by
    rw [rwd_self]
    exact hq)
  rwa [rwd_self] at h
theorem L_isLate {c : Int32} (hc : vp_in c 20) (hq : Q (isLateF (A 1) c) (rwd w m g A) z) : F_X6_isLate m c (rwd w m g A) z Q := by
  have h : F_X6_isLate m c (mw (rwd w m g A) (m + 1) (A 1)) z Q := r_isLate rwd_ok hc (by
    rw [rwd_self]
    exact hq)
  rwa [rwd_self] at h
theorem L_due {c : Int32} (hc : vp_in c 20) (hq : Q (dueF (A 1) c) (rwd w m g A) z) : F_X6_due m c (rwd w m g A) z Q := by
  have h : F_X6_due m c (mw (rwd w m g A) (m + 1) (A 1)) z Q := r_due rwd_ok hc (by
    rw [rwd_self]
    exact hq)
  rwa [rwd_self] at h
theorem L_mayAppeal {c : Int32} (hc : vp_in c 20) (hq : Q (mayAppealF (A 1) c) (rwd w m g A) z) : F_X6_mayAppeal m c (rwd w m g A) z Q := by
  have h : F_X6_mayAppeal m c (mw (rwd w m g A) (m + 1) (A 1)) z Q := r_mayAppeal rwd_ok hc (by
    rw [rwd_self]
    exact hq)
  rwa [rwd_self] at h
theorem L_judged {c t : Int32} (hc : vp_in c 20) (ht : vp_in t 30) (hq : Q (judgedF (A 1) c t) (rwd w m g A) z) : F_X6_judged m c t (rwd w m g A) z Q := by
  have h : F_X6_judged m c t (mw (rwd w m g A) (m + 1) (A 1)) z Q := r_judged rwd_ok hc ht (by
    rw [rwd_self]
    exact hq)
  rwa [rwd_self] at h
theorem L_decides {c : Int32} (hc : vp_in c 20) (ht : vp_in (A 1 (305 + 7 * cl c + 5)) 30) (hq : Q (judgedF (A 1) c (A 1 (305 + 7 * cl c + 5))) (rwd w m g (updA A 1 (decideF (A 1) c))) z) : F_X6_decides m c (rwd w m g A) z Q := by
  have h : F_X6_decides m c (mw (rwd w m g A) (m + 1) (A 1)) z Q := r_decides rwd_ok hc ht (by
    rw [rwd_s]
    exact hq)
  rwa [rwd_self] at h
theorem L_mayPay {c : Int32} (hc : vp_in c 20) (hp : vp_in (A 1 (305 + 7 * cl c)) 8) (hq : Q (mayPayF (A 1) c) (rwd w m g A) z) : F_X6_mayPay m c (rwd w m g A) z Q := by
  have h : F_X6_mayPay m c (mw (rwd w m g A) (m + 1) (A 1)) z Q := r_mayPay rwd_ok hc hp (by
    rw [rwd_self]
    exact hq)
  rwa [rwd_self] at h
theorem L_pays {c : Int32} (hc : vp_in c 20) (hp : vp_in (A 1 (305 + 7 * cl c)) 8) (hq : Q (dueF (A 1) c) (rwd w m g (updA A 1 (payF (A 1) c))) z) : F_X6_pays m c (rwd w m g A) z Q := by
  have h : F_X6_pays m c (mw (rwd w m g A) (m + 1) (A 1)) z Q := r_pays rwd_ok hc hp (by
    rw [rwd_s]
    exact hq)
  rwa [rwd_self] at h
theorem L_waits {n : Int32}  (hq : Q (A 1 0 + n) (rwd w m g (updA A 1 (waitF (A 1) n))) z) : F_X6_waits m n (rwd w m g A) z Q := by
  have h : F_X6_waits m n (mw (rwd w m g A) (m + 1) (A 1)) z Q := r_waits rwd_ok  (by
    rw [rwd_s]
    exact hq)
  rwa [rwd_self] at h
theorem L_ofP0 {a : Int32} (ha : vp_in a 8) (hq : Q (A 1 (21 + 13 * cl a)) (rwd w m g A) z) : F_X6_ofPassenger m a 0 (rwd w m g A) z Q := by
  have h : F_X6_ofPassenger m a 0 (mw (rwd w m g A) (m + 1) (A 1)) z Q := r_ofP0 rwd_ok ha (by
    rw [rwd_self]
    exact hq)
  rwa [rwd_self] at h
theorem L_ofP1 {a : Int32} (ha : vp_in a 8) (hq : Q (A 1 (21 + 13 * cl a + 1)) (rwd w m g A) z) : F_X6_ofPassenger m a 1 (rwd w m g A) z Q := by
  have h : F_X6_ofPassenger m a 1 (mw (rwd w m g A) (m + 1) (A 1)) z Q := r_ofP1 rwd_ok ha (by
    rw [rwd_self]
    exact hq)
  rwa [rwd_self] at h
theorem L_ofP2 {a : Int32} (ha : vp_in a 8) (hq : Q (A 1 (21 + 13 * cl a + 2)) (rwd w m g A) z) : F_X6_ofPassenger m a 2 (rwd w m g A) z Q := by
  have h : F_X6_ofPassenger m a 2 (mw (rwd w m g A) (m + 1) (A 1)) z Q := r_ofP2 rwd_ok ha (by
    rw [rwd_self]
    exact hq)
  rwa [rwd_self] at h
theorem L_ofP3 {a : Int32} (ha : vp_in a 8) (hq : Q (A 1 (21 + 13 * cl a + 3)) (rwd w m g A) z) : F_X6_ofPassenger m a 3 (rwd w m g A) z Q := by
  have h : F_X6_ofPassenger m a 3 (mw (rwd w m g A) (m + 1) (A 1)) z Q := r_ofP3 rwd_ok ha (by
    rw [rwd_self]
    exact hq)
  rwa [rwd_self] at h
theorem L_ofP4 {a : Int32} (ha : vp_in a 8) (hq : Q (A 1 (21 + 13 * cl a + 4)) (rwd w m g A) z) : F_X6_ofPassenger m a 4 (rwd w m g A) z Q := by
  have h : F_X6_ofPassenger m a 4 (mw (rwd w m g A) (m + 1) (A 1)) z Q := r_ofP4 rwd_ok ha (by
    rw [rwd_self]
    exact hq)
  rwa [rwd_self] at h
theorem L_ofP5 {a : Int32} (ha : vp_in a 8) (hq : Q (A 1 (21 + 13 * cl a + 5)) (rwd w m g A) z) : F_X6_ofPassenger m a 5 (rwd w m g A) z Q := by
  have h : F_X6_ofPassenger m a 5 (mw (rwd w m g A) (m + 1) (A 1)) z Q := r_ofP5 rwd_ok ha (by
    rw [rwd_self]
    exact hq)
  rwa [rwd_self] at h
theorem L_ofP6 {a : Int32} (ha : vp_in a 8) (hq : Q (A 1 (21 + 13 * cl a + 6)) (rwd w m g A) z) : F_X6_ofPassenger m a 6 (rwd w m g A) z Q := by
  have h : F_X6_ofPassenger m a 6 (mw (rwd w m g A) (m + 1) (A 1)) z Q := r_ofP6 rwd_ok ha (by
    rw [rwd_self]
    exact hq)
  rwa [rwd_self] at h
theorem L_ofT0 {a : Int32} (ha : vp_in a 30) (hq : Q (A 1 (125 + 6 * cl a)) (rwd w m g A) z) : F_X6_ofTicket m a 0 (rwd w m g A) z Q := by
  have h : F_X6_ofTicket m a 0 (mw (rwd w m g A) (m + 1) (A 1)) z Q := r_ofT0 rwd_ok ha (by
    rw [rwd_self]
    exact hq)
  rwa [rwd_self] at h
theorem L_ofT1 {a : Int32} (ha : vp_in a 30) (hq : Q (A 1 (125 + 6 * cl a + 1)) (rwd w m g A) z) : F_X6_ofTicket m a 1 (rwd w m g A) z Q := by
  have h : F_X6_ofTicket m a 1 (mw (rwd w m g A) (m + 1) (A 1)) z Q := r_ofT1 rwd_ok ha (by
    rw [rwd_self]
    exact hq)
  rwa [rwd_self] at h
theorem L_ofT2 {a : Int32} (ha : vp_in a 30) (hq : Q (A 1 (125 + 6 * cl a + 2)) (rwd w m g A) z) : F_X6_ofTicket m a 2 (rwd w m g A) z Q := by
  have h : F_X6_ofTicket m a 2 (mw (rwd w m g A) (m + 1) (A 1)) z Q := r_ofT2 rwd_ok ha (by
    rw [rwd_self]
    exact hq)
  rwa [rwd_self] at h
theorem L_ofT3 {a : Int32} (ha : vp_in a 30) (hq : Q (A 1 (125 + 6 * cl a + 3)) (rwd w m g A) z) : F_X6_ofTicket m a 3 (rwd w m g A) z Q := by
  have h : F_X6_ofTicket m a 3 (mw (rwd w m g A) (m + 1) (A 1)) z Q := r_ofT3 rwd_ok ha (by
    rw [rwd_self]
    exact hq)
  rwa [rwd_self] at h
theorem L_ofT4 {a : Int32} (ha : vp_in a 30) (hq : Q (A 1 (125 + 6 * cl a + 4)) (rwd w m g A) z) : F_X6_ofTicket m a 4 (rwd w m g A) z Q := by
  have h : F_X6_ofTicket m a 4 (mw (rwd w m g A) (m + 1) (A 1)) z Q := r_ofT4 rwd_ok ha (by
    rw [rwd_self]
    exact hq)
  rwa [rwd_self] at h
theorem L_ofT5 {a : Int32} (ha : vp_in a 30) (hq : Q (A 1 (125 + 6 * cl a + 5)) (rwd w m g A) z) : F_X6_ofTicket m a 5 (rwd w m g A) z Q := by
  have h : F_X6_ofTicket m a 5 (mw (rwd w m g A) (m + 1) (A 1)) z Q := r_ofT5 rwd_ok ha (by
    rw [rwd_self]
    exact hq)
  rwa [rwd_self] at h
theorem L_ofC0 {a : Int32} (ha : vp_in a 20) (hq : Q (A 1 (305 + 7 * cl a)) (rwd w m g A) z) : F_X6_ofCase m a 0 (rwd w m g A) z Q := by
  have h : F_X6_ofCase m a 0 (mw (rwd w m g A) (m + 1) (A 1)) z Q := r_ofC0 rwd_ok ha (by
    rw [rwd_self]
    exact hq)
  rwa [rwd_self] at h
theorem L_ofC1 {a : Int32} (ha : vp_in a 20) (hq : Q (A 1 (305 + 7 * cl a + 1)) (rwd w m g A) z) : F_X6_ofCase m a 1 (rwd w m g A) z Q := by
  have h : F_X6_ofCase m a 1 (mw (rwd w m g A) (m + 1) (A 1)) z Q := r_ofC1 rwd_ok ha (by
    rw [rwd_self]
    exact hq)
  rwa [rwd_self] at h
theorem L_ofC2 {a : Int32} (ha : vp_in a 20) (hq : Q (A 1 (305 + 7 * cl a + 2)) (rwd w m g A) z) : F_X6_ofCase m a 2 (rwd w m g A) z Q := by
  have h : F_X6_ofCase m a 2 (mw (rwd w m g A) (m + 1) (A 1)) z Q := r_ofC2 rwd_ok ha (by
    rw [rwd_self]
    exact hq)
  rwa [rwd_self] at h
theorem L_ofC3 {a : Int32} (ha : vp_in a 20) (hq : Q (A 1 (305 + 7 * cl a + 3)) (rwd w m g A) z) : F_X6_ofCase m a 3 (rwd w m g A) z Q := by
  have h : F_X6_ofCase m a 3 (mw (rwd w m g A) (m + 1) (A 1)) z Q := r_ofC3 rwd_ok ha (by
    rw [rwd_self]
    exact hq)
  rwa [rwd_self] at h
theorem L_ofC4 {a : Int32} (ha : vp_in a 20) (hq : Q (A 1 (305 + 7 * cl a + 4)) (rwd w m g A) z) : F_X6_ofCase m a 4 (rwd w m g A) z Q := by
  have h : F_X6_ofCase m a 4 (mw (rwd w m g A) (m + 1) (A 1)) z Q := r_ofC4 rwd_ok ha (by
    rw [rwd_self]
    exact hq)
  rwa [rwd_self] at h
theorem L_ofC5 {a : Int32} (ha : vp_in a 20) (hq : Q (A 1 (305 + 7 * cl a + 5)) (rwd w m g A) z) : F_X6_ofCase m a 5 (rwd w m g A) z Q := by
  have h : F_X6_ofCase m a 5 (mw (rwd w m g A) (m + 1) (A 1)) z Q := r_ofC5 rwd_ok ha (by
    rw [rwd_self]
    exact hq)
  rwa [rwd_self] at h
theorem L_ofC6 {a : Int32} (ha : vp_in a 20) (hq : Q (A 1 (305 + 7 * cl a + 6)) (rwd w m g A) z) : F_X6_ofCase m a 6 (rwd w m g A) z Q := by
  have h : F_X6_ofCase m a 6 (mw (rwd w m g A) (m + 1) (A 1)) z Q := r_ofC6 rwd_ok ha (by
    rw [rwd_self]
    exact hq)
  rwa [rwd_self] at h
theorem R_isIn {a lo hi : Int32} {w : Mm} (h1 : lo.toInt ≤ a.toInt → a.toInt ≤ hi.toInt → Q 1 w z) (h0 : ¬ (lo.toInt ≤ a.toInt ∧ a.toInt ≤ hi.toInt) → Q 0 w z) : F_X6_isIn a lo hi w z Q := by
  refine ⟨fun h => h0 ?_, fun h => ⟨fun h' => h0 ?_, fun h' => h1 ?_ ?_⟩⟩
  · have := ilt.mp h
    omega
  · have := ilt.mp h'
    omega
  · have : ¬ a.toInt < lo.toInt := fun x => h (ilt.mpr x)
    omega
  · have : ¬ hi.toInt < a.toInt := fun x => h' (ilt.mpr x)
    omega
theorem R_fails0 (hq : Q 0 (rwd w m (upd g 6 0) A) z) : F_X6_fails m 0 0 0 (rwd w m g A) z Q :=
  ⟨fun _ => ⟨fun _ => ⟨fun _ => R_p6 ⟨_, R_g6, fun _ => hq, fun h => absurd (by rw [upd_eq]; decide) h⟩, fun h => absurd rfl h⟩, fun h => absurd rfl h⟩, fun h => absurd rfl h⟩
theorem R_fails1 {b c : Int32} (hq : Q 1 (rwd w m (upd g 6 1) A) z) : F_X6_fails m 1 b c (rwd w m g A) z Q :=
  ⟨fun h => absurd h (by decide), fun _ => R_p6 ⟨_, R_g6, fun h => absurd h (by rw [upd_eq]; decide), fun _ => hq⟩⟩
theorem R_fails2 {c : Int32} (hq : Q 1 (rwd w m (upd g 6 2) A) z) : F_X6_fails m 0 1 c (rwd w m g A) z Q :=
  ⟨fun _ => ⟨fun h => absurd h (by decide), fun _ => R_p6 ⟨_, R_g6, fun h => absurd h (by rw [upd_eq]; decide), fun _ => hq⟩⟩, fun h => absurd rfl h⟩
theorem R_fails3 (hq : Q 1 (rwd w m (upd g 6 3) A) z) : F_X6_fails m 0 0 1 (rwd w m g A) z Q :=
  ⟨fun _ => ⟨fun _ => ⟨fun h => absurd h (by decide), fun _ => R_p6 ⟨_, R_g6, fun h => absurd h (by rw [upd_eq]; decide), fun _ => hq⟩⟩, fun h => absurd rfl h⟩, fun h => absurd rfl h⟩
theorem R_told {x : Int32} (hq : Q x (rwd w m (upd g 6 0) A) z) : F_X6_told m x (rwd w m g A) z Q := R_p6 hq
theorem i_pred {x : Int32} {n : Nat} (h : vp_in x n) : (x - 1).toInt = x.toInt - 1 := by
  have h1 := vp_in_iff.mp h
  rw [isb _ _ (by rw [i_1]; omega) (by have := ihi x; rw [i_1]; omega), i_1]
theorem R_noPassenger {p : Int32} {n : Nat} (hn : vp_in (A 1 2) n) (h0 : vp_in p (cl (A 1 2)) → Q 0 (rwd w m g A) z) (h1 : ¬ vp_in p (cl (A 1 2)) → Q 1 (rwd w m g A) z) : F_X6_noPassenger m p (rwd w m g A) z Q := by
  have hn1 := clI hn
  have hn2 := i_pred hn
  refine ⟨_, R_r0, _, _, R_a1, vl2, R_isIn (fun a b => ⟨fun _ => h0 ?_, fun h => absurd h (by decide)⟩) (fun a => ⟨fun h => absurd rfl h, fun _ => h1 ?_⟩)⟩
  · rw [show ((2 : Int32).toNatClampNeg) = 2 from cl2] at b
    rw [i_0] at a
    exact vp_in_iff.mpr (by omega)
  · rw [show ((2 : Int32).toNatClampNeg) = 2 from cl2, i_0] at a
    intro h
    have := vp_in_iff.mp h
    omega
theorem R_noStop {p : Int32} {n : Nat} (hn : vp_in (A 1 1) n) (h0 : vp_in p (cl (A 1 1)) → Q 0 (rwd w m g A) z) (h1 : ¬ vp_in p (cl (A 1 1)) → Q 1 (rwd w m g A) z) : F_X6_noStop m p (rwd w m g A) z Q := by
  have hn1 := clI hn
  have hn2 := i_pred hn
  refine ⟨_, R_r0, _, _, R_a1, vl1, R_isIn (fun a b => ⟨fun _ => h0 ?_, fun h => absurd h (by decide)⟩) (fun a => ⟨fun h => absurd rfl h, fun _ => h1 ?_⟩)⟩
  · rw [show ((1 : Int32).toNatClampNeg) = 1 from cl1] at b
    rw [i_0] at a
    exact vp_in_iff.mpr (by omega)
  · rw [show ((1 : Int32).toNatClampNeg) = 1 from cl1, i_0] at a
    intro h
    have := vp_in_iff.mp h
    omega
theorem R_noTicket {p : Int32} {n : Nat} (hn : vp_in (A 1 3) n) (h0 : vp_in p (cl (A 1 3)) → Q 0 (rwd w m g A) z) (h1 : ¬ vp_in p (cl (A 1 3)) → Q 1 (rwd w m g A) z) : F_X6_noTicket m p (rwd w m g A) z Q := by
  have hn1 := clI hn
  have hn2 := i_pred hn
  refine ⟨_, R_r0, _, _, R_a1, vl3, R_isIn (fun a b => ⟨fun _ => h0 ?_, fun h => absurd h (by decide)⟩) (fun a => ⟨fun h => absurd rfl h, fun _ => h1 ?_⟩)⟩
  · rw [show ((3 : Int32).toNatClampNeg) = 3 from cl3] at b
    rw [i_0] at a
    exact vp_in_iff.mpr (by omega)
  · rw [show ((3 : Int32).toNatClampNeg) = 3 from cl3, i_0] at a
    intro h
    have := vp_in_iff.mp h
    omega
theorem R_noCase {p : Int32} {n : Nat} (hn : vp_in (A 1 4) n) (h0 : vp_in p (cl (A 1 4)) → Q 0 (rwd w m g A) z) (h1 : ¬ vp_in p (cl (A 1 4)) → Q 1 (rwd w m g A) z) : F_X6_noCase m p (rwd w m g A) z Q := by
  have hn1 := clI hn
  have hn2 := i_pred hn
  refine ⟨_, R_r0, _, _, R_a1, vl4, R_isIn (fun a b => ⟨fun _ => h0 ?_, fun h => absurd h (by decide)⟩) (fun a => ⟨fun h => absurd rfl h, fun _ => h1 ?_⟩)⟩
  · rw [show ((4 : Int32).toNatClampNeg) = 4 from cl4] at b
    rw [i_0] at a
    exact vp_in_iff.mpr (by omega)
  · rw [show ((4 : Int32).toNatClampNeg) = 4 from cl4, i_0] at a
    intro h
    have := vp_in_iff.mp h
    omega
end
