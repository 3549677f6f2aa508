section
variable {w : Mm} {m z : Nat} {g : Nat → Int32} {A : Nat → Nat → Int32} {Q : Int32 → Mm → Nat → Prop} {R : Mm → Nat → Prop} {T : Mm → Prop}
theorem R_copy1 {q n2 : Nat} {sp dp : Int32} {f1 : Nat → Int32} (h1 : arI (rwd w m g A) q 0 = some (n2, f1)) (h2 : ¬ sp < 0) (h3 : ¬ dp < 0) (h4 : cl sp + 445 ≤ n2) (h5 : cl dp + 445 ≤ 445) (hq : R (rwd w m g (updA A 1 (va_cpy f1 (A 1) (cl sp) (cl dp) 445))) z) : F_X6_copy q sp (m + 1) dp (rwd w m g A) z R := by
  refine ⟨_, _, _, _, h1, R_w1, h2, h3, by decide, h4, h5, ?_⟩
  rintro _ rfl
  rw [R_s1]
  exact hq
theorem R_copy2 {q n2 : Nat} {sp dp : Int32} {f1 : Nat → Int32} (h1 : arI (rwd w m g A) q 0 = some (n2, f1)) (h2 : ¬ sp < 0) (h3 : ¬ dp < 0) (h4 : cl sp + 445 ≤ n2) (h5 : cl dp + 445 ≤ 3560) (hq : R (rwd w m g (updA A 2 (va_cpy f1 (A 2) (cl sp) (cl dp) 445))) z) : F_X6_copy q sp (m + 2) dp (rwd w m g A) z R := by
  refine ⟨_, _, _, _, h1, R_w2, h2, h3, by decide, h4, h5, ?_⟩
  rintro _ rfl
  rw [R_s2]
  exact hq
theorem R_copy3 {q n2 : Nat} {sp dp : Int32} {f1 : Nat → Int32} (h1 : arI (rwd w m g A) q 0 = some (n2, f1)) (h2 : ¬ sp < 0) (h3 : ¬ dp < 0) (h4 : cl sp + 445 ≤ n2) (h5 : cl dp + 445 ≤ 890) (hq : R (rwd w m g (updA A 3 (va_cpy f1 (A 3) (cl sp) (cl dp) 445))) z) : F_X6_copy q sp (m + 3) dp (rwd w m g A) z R := by
  refine ⟨_, _, _, _, h1, R_w3, h2, h3, by decide, h4, h5, ?_⟩
  rintro _ rfl
  rw [R_s3]
  exact hq
theorem R_copy4 {q n2 : Nat} {sp dp : Int32} {f1 : Nat → Int32} (h1 : arI (rwd w m g A) q 0 = some (n2, f1)) (h2 : ¬ sp < 0) (h3 : ¬ dp < 0) (h4 : cl sp + 445 ≤ n2) (h5 : cl dp + 445 ≤ 445) (hq : R (rwd w m g (updA A 4 (va_cpy f1 (A 4) (cl sp) (cl dp) 445))) z) : F_X6_copy q sp (m + 4) dp (rwd w m g A) z R := by
  refine ⟨_, _, _, _, h1, R_w4, h2, h3, by decide, h4, h5, ?_⟩
  rintro _ rfl
  rw [R_s4]
  exact hq
theorem i445 {x : Int32} {n : Nat} (h : vp_in x n) (hn : n ≤ 9) : cl (x * 445) = cl x * 445 ∧ ¬ x * 445 < 0 := by
  have h1 := vp_in_iff.mp h
  have e : (445 : Int32).toInt = 445 := by decide
  have e2 : (x * 445).toInt = x.toInt * 445 := by
    rw [im _ _ (by rw [e]; omega) (by rw [e]; omega), e]
  refine ⟨?_, fun hh => ?_⟩
  · rw [cl_eq, cl_eq, e2]
    omega
  · have := ilt.mp hh
    rw [e2, i_0] at this
    omega
theorem R_rem37 {q : Nat} {f1 : Nat → Int32} (h1 : arI (rwd w m g A) q 0 = some (445, f1)) (h8 : vp_in (g 5) 8) (hq : R (rwd w m (upd g 5 (g 5 + 1)) (updA A 2 (va_cpy f1 (A 2) 0 (cl (g 5) * 445) 445))) z) : B_X6_remember_37 m q R (rwd w m g A) z := by
  have hv := clI h8
  have h4 := i445 h8 (by omega)
  refine ⟨_, R_r1, _, R_g5, R_copy2 h1 (by decide) h4.2 (by rw [show cl 0 = 0 from cl0]; omega) (by rw [h4.1]; omega) ⟨_, R_g5, R_p5 ?_⟩⟩
  rw [h4.1, show cl 0 = 0 from cl0]
  exact hq
theorem R_remember {q : Nat} {f1 : Nat → Int32} (h1 : ∀ g A', A' 1 = A 1 → A' 4 = A 4 → arI (rwd w m g A') q 0 = some (445, f1)) (h9 : vp_in (g 5) 9) (hq : R (rwd w m (remG g) (remA g A f1)) z) : F_X6_remember m q (rwd w m g A) z R := by
  have h9' := vp_in_iff.mp h9
  have i8 : (8 : Int32).toInt = 8 := by decide
  unfold remG remA at hq
  refine ⟨_, R_g5, fun h8 => ?_, fun h8 => ⟨_, R_r1, _, R_r1, _, _, _, _, R_a2, R_w2, by decide, by decide, by decide, by decide, by decide, ?_⟩⟩
  · rw [if_neg h8, if_neg h8] at hq
    have : ¬ (g 5).toInt = 8 := fun e => h8 (ieq.mpr e)
    exact R_rem37 (h1 _ _ rfl rfl) (vp_in_iff.mpr (by omega)) hq
  · rw [if_pos h8, if_pos h8] at hq
    rintro _ rfl
    rw [show (445 : Int32).toNatClampNeg = 445 from cl445, show (0 : Int32).toNatClampNeg = 0 from cl0, show (3115 : Int32).toNatClampNeg = 3115 from cl3115, R_s2]
    refine ⟨_, R_g5, R_p5 (R_rem37 (h1 _ _ (updA_ne (by omega)) (updA_ne (by omega))) (by rw [upd_eq, h8]; exact in_nI (k := 7) (by decide) (by decide)) ?_)⟩
    rw [upd_eq, updA_eq, h8]
    exact hq
theorem R_fails_v {a b c : Int32} (hc : (a = 0 ∧ b = 0 ∧ c = 0 → Q 0 (rwd w m (upd g 6 0) A) z) ∧ (a = 1 → Q 1 (rwd w m (upd g 6 1) A) z) ∧ (a = 0 ∧ b = 1 → Q 1 (rwd w m (upd g 6 2) A) z) ∧ (a = 0 ∧ b = 0 ∧ c = 1 → Q 1 (rwd w m (upd g 6 3) A) z)) (ha : a = 0 ∨ a = 1) (hb : b = 0 ∨ b = 1) (hc' : c = 0 ∨ c = 1) : F_X6_fails m a b c (rwd w m g A) z Q := by
  rcases ha with rfl | rfl
  · rcases hb with rfl | rfl
    · rcases hc' with rfl | rfl
      · exact R_fails0 (hc.1 ⟨rfl, rfl, rfl⟩)
      · exact R_fails3 (hc.2.2.2 ⟨rfl, rfl, rfl⟩)
    · exact R_fails2 (hc.2.2.1 ⟨rfl, rfl⟩)
  · exact R_fails1 (hc.2.1 rfl)
/-- the row itself is remembered -/
theorem R_rem1 (h9 : vp_in (g 5) 9) (hq : R (rwd w m (remG g) (remA g A (A 1))) z) : F_X6_remember m (m + 1) (rwd w m g A) z R :=
  R_remember (fun g A' h _ => by rw [R_a1, h]) h9 hq
theorem R_buy {p k y : Int32} (hI : Inv (A 1)) (h9 : vp_in (g 5) 9)
    (hok : vp_in p (cl (A 1 2)) → vp_in k 3 → 1 ≤ y.toInt ∧ y.toInt ≤ 15 → ¬ mayBuyF (A 1) p k y = 0 → Q (A 1 3) (rwd w m (remG (upd g 6 0)) (updA (remA (upd g 6 0) A (A 1)) 1 (buyF (A 1) p k y))) z)
    (h1 : ¬ vp_in p (cl (A 1 2)) → Q 0 (rwd w m (upd g 6 1) A) z)
    (h2 : vp_in p (cl (A 1 2)) → ¬ (vp_in k 3 ∧ 1 ≤ y.toInt ∧ y.toInt ≤ 15) → Q 0 (rwd w m (upd g 6 2) A) z)
    (h3 : vp_in p (cl (A 1 2)) → vp_in k 3 → 1 ≤ y.toInt ∧ y.toInt ≤ 15 → mayBuyF (A 1) p k y = 0 → Q 0 (rwd w m (upd g 6 3) A) z) : F_X6_buy m p k y (rwd w m g A) z Q := by
  have i2 : (2 : Int32).toInt = 2 := by decide
  have i15 : (15 : Int32).toInt = 15 := by decide
  have hB2 := clI hI.2.1.2.1
  have k0 : (vp_in k 3 ∧ 1 ≤ y.toInt ∧ y.toInt ≤ 15) → vp_in p (cl (A 1 2)) → ¬ mayBuyF (A 1) p k y = 0 → B_X6_buy_62 m p k y Q 0 0 m (rwd w m g A) z := by
    rintro ⟨hk, hy⟩ hp hb
    have ht : vp_in (A 1 3) 30 := by
      have hB3 := vp_in_iff.mp hI.2.1.2.2.1
      have i30 : (30 : Int32).toInt = 30 := by decide
      have : ¬ 30 ≤ A 1 3 := fun h => hb (by
        unfold mayBuyF
        rw [if_pos h])
      have : ¬ (30 : Int32).toInt ≤ (A 1 3).toInt := fun h => this (ile.mpr h)
      exact vp_in_iff.mpr (by omega)
    refine ⟨R_i, R_fails0 ⟨fun _ => ⟨_, R_r0, R_i, R_rem1 (by rw [upd_ne (by omega)]; exact h9) ⟨R_i, L_buys (vp_le hp (by omega)) (by rw [remA_1]; exact ht) ?_⟩⟩, fun h => absurd rfl h⟩⟩
    rw [remA_1]
    exact hok hp hk hy hb
  have k31 : ∀ v : Int32, (v = 0 ∧ (vp_in k 3 ∧ 1 ≤ y.toInt ∧ y.toInt ≤ 15) ∨ v = 1 ∧ ¬ (vp_in k 3 ∧ 1 ≤ y.toInt ∧ y.toInt ≤ 15)) → ∀ u : Int32, (u = 0 ∧ vp_in p (cl (A 1 2)) ∨ u = 1 ∧ ¬ vp_in p (cl (A 1 2))) → B_X6_buy_31 m p k y Q u v (rwd w m g A) z := by
    intro v hv u hu
    rcases hu with ⟨rfl, hp⟩ | ⟨rfl, hp⟩
    · refine ⟨fun h => absurd rfl h, fun _ => ?_⟩
      rcases hv with ⟨rfl, hv⟩ | ⟨rfl, hv⟩
      · refine ⟨fun h => absurd rfl h, fun _ => ⟨R_i, L_mayBuy (vp_le hp (by omega)) ⟨fun hb => k0 hv hp hb, fun hb => ⟨R_i, R_fails3 ⟨fun h => absurd h (by decide), fun _ => h3 hp hv.1 hv.2 hb⟩⟩⟩⟩⟩
      · exact ⟨fun _ => ⟨R_i, R_fails2 ⟨fun h => absurd h (by decide), fun _ => h2 hp hv⟩⟩, fun h => absurd h (by decide)⟩
    · exact ⟨fun _ => ⟨R_i, R_fails1 ⟨fun h => absurd h (by decide), fun _ => h1 hp⟩⟩, fun h => absurd h (by decide)⟩
  have kk : ∀ u : Int32, (u = 0 ∧ vp_in p (cl (A 1 2)) ∨ u = 1 ∧ ¬ vp_in p (cl (A 1 2))) → F_X6_isIn k 0 2 (rwd w m g A) z (fun r5 w6 z7 => (r5 = 0 → B_X6_buy_26 m p k y Q u w6 z7) ∧ (¬ r5 = 0 → F_X6_isIn y 1 15 w6 z7 (fun r9 w10 z11 => (¬ r9 = 0 → B_X6_buy_31 m p k y Q u 0 w10 z11) ∧ (r9 = 0 → B_X6_buy_26 m p k y Q u w10 z11)))) := by
    intro u hu
    refine R_isIn (fun a b => ⟨fun h => absurd h (by decide), fun _ => R_isIn (fun c d => ⟨fun _ => k31 0 (Or.inl ⟨rfl, ?_⟩) u hu, fun h => absurd h (by decide)⟩) (fun c => ⟨fun h => absurd rfl h, fun _ => k31 1 (Or.inr ⟨rfl, ?_⟩) u hu⟩)⟩) (fun a => ⟨fun _ => k31 1 (Or.inr ⟨rfl, ?_⟩) u hu, fun h => absurd rfl h⟩)
    · rw [i_0] at a
      rw [i2] at b
      rw [i_1] at c
      rw [i15] at d
      exact ⟨vp_in_iff.mpr (by omega), by omega⟩
    · rw [i_1, i15] at c
      exact fun h => c h.2
    · rw [i_0, i2] at a
      intro h
      have := vp_in_iff.mp h.1
      omega
  exact ⟨R_i, R_noPassenger hI.2.1.2.1 (fun hp => kk 0 (Or.inl ⟨rfl, hp⟩)) (fun hp => kk 1 (Or.inr ⟨rfl, hp⟩))⟩
end
