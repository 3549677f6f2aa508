/-! no NaN comes out -/
theorem nn64 {a b : Int32} (h : ¬ b = 0) : vf_n64 (FP.ddiv (FP.i2d a) (FP.i2d b)) := by
  have h1 : Jvm.FP.Core.dIsNaN (Jvm.FP.Core.ddiv (Jvm.FP.Core.i2d a) (Jvm.FP.Core.i2d b)) = false := Jvm.FP.Core.ddiv_out ((Jvm.FP.Core.notNaN_iff _).mpr (Jvm.FP.Core.i2d_fin a).ne_nan) (Jvm.FP.Core.i2d_fin b) (fun hz => Jvm.FP.Core.i2d_ne_zero h ((Jvm.FP.Core.zero_bits2 _).mp hz))
  have h2 := (Jvm.FP.Core.ne_nan _).mp ((Jvm.FP.Core.notNaN_iff _).mp h1)
  show Jvm.FP.Core.ddiv (Jvm.FP.Core.i2d a) (Jvm.FP.Core.i2d b) &&& 0x7fffffffffffffff ≤ 0x7ff0000000000000
  rw [UInt64.le_iff_toNat_le, UInt64.toNat_and]
  have e : (Jvm.FP.Core.ddiv (Jvm.FP.Core.i2d a) (Jvm.FP.Core.i2d b)).toNat &&& (0x7fffffffffffffff : UInt64).toNat = (Jvm.FP.Core.ddiv (Jvm.FP.Core.i2d a) (Jvm.FP.Core.i2d b)).toNat % 2 ^ 63 := Nat.and_two_pow_sub_one_eq_mod _ 63
  rw [e]
  exact h2
theorem nn32 {a b : Int32} (h : ¬ b = 0) : vf_n32 (FP.fdiv (FP.i2f a) (FP.i2f b)) := by
  have h1 : Jvm.FP.Core.fIsNaN (Jvm.FP.Core.fdiv (Jvm.FP.Core.i2f a) (Jvm.FP.Core.i2f b)) = false := Jvm.FP.Core.fdiv_out ((Jvm.FP.Core.notNaN_iff32 _).mpr (Jvm.FP.Core.i2f_fin a).ne_nan) (Jvm.FP.Core.i2f_fin b) (fun hz => Jvm.FP.Core.i2f_ne_zero h ((Jvm.FP.Core.zero_bits232 _).mp hz))
  have h2 := (Jvm.FP.Core.ne_nan32 _).mp ((Jvm.FP.Core.notNaN_iff32 _).mp h1)
  show Jvm.FP.Core.fdiv (Jvm.FP.Core.i2f a) (Jvm.FP.Core.i2f b) &&& 0x7fffffff ≤ 0x7f800000
  rw [UInt32.le_iff_toNat_le, UInt32.toNat_and]
  have e : (Jvm.FP.Core.fdiv (Jvm.FP.Core.i2f a) (Jvm.FP.Core.i2f b)).toNat &&& (0x7fffffff : UInt32).toNat = (Jvm.FP.Core.fdiv (Jvm.FP.Core.i2f a) (Jvm.FP.Core.i2f b)).toNat % 2 ^ 31 := Nat.and_two_pow_sub_one_eq_mod _ 31
  rw [e]
  exact h2
section
variable {w : Mm} {m z : Nat} {g : Nat → Int32} {A : Nat → Nat → Int32} {Q : Int32 → Mm → Nat → Prop} {R : Mm → Nat → Prop} {T : Mm → Prop}
theorem G_faultShare {Q : UInt64 → Mm → Nat → Prop} (h1 : ¬ A 1 7 = 0 → Q (FP.ddiv (FP.i2d (A 1 4)) (FP.i2d (A 1 7))) (rwd w m (upd g 6 0) A) z) (h0 : A 1 7 = 0 → Q 0 (rwd w m (upd g 6 0) A) z) : F_X6_faultShare m (rwd w m g A) z Q := by
  unfold F_X6_faultShare
  simp only [cl7, cl4]
  exact R_p6 ⟨_, R_r0, _, _, R_a1, vl7, fun h => ⟨_, R_r0, _, _, R_a1, vl4, _, R_r0, _, _, R_a1, vl7, nn64 h, h1 h⟩, h0⟩
theorem G_meanPrice {Q : UInt32 → Mm → Nat → Prop} (h1 : ¬ A 1 3 = 0 → Q (FP.fdiv (FP.i2f (A 1 5)) (FP.i2f (A 1 3))) (rwd w m (upd g 6 0) A) z) (h0 : A 1 3 = 0 → Q 0 (rwd w m (upd g 6 0) A) z) : F_X6_meanPrice m (rwd w m g A) z Q := by
  unfold F_X6_meanPrice
  simp only [cl3, cl5]
  exact R_p6 ⟨_, R_r0, _, _, R_a1, vl3, fun h => ⟨_, R_r0, _, _, R_a1, vl5, _, R_r0, _, _, R_a1, vl3, nn32 h, h1 h⟩, h0⟩
end
section
variable {w w' w'' : Mm} {x z mc ms b : Nat} {Q : Int32 → Mm → Nat → Prop} {R : Mm → Nat → Prop} {X : String → Mm → Nat → Prop} {T : Mm → Prop} {f f' : Nat → Int32} {Fz Fz' : Nat → Prop} {g g' : Nat → Int32} {A A' : Nat → Nat → Int32}
theorem X_faultShare {Q : UInt64 → Mm → Nat → Prop} (h : CS w x Fz g A) (h1 : ¬ A 1 7 = 0 → Q (FP.ddiv (FP.i2d (A 1 4)) (FP.i2d (A 1 7))) w z) (h0 : A 1 7 = 0 → Q 0 w z) : F_X5_faultShare x w z Q :=
  ⟨_, h.f0, _, h.F1.g7, fun hn => ⟨_, h.f0, _, h.F1.g4, _, h.f0, _, h.F1.g7, nn64 hn, h1 hn⟩, h0⟩
theorem X_meanPrice {Q : UInt32 → Mm → Nat → Prop} (h : CS w x Fz g A) (h1 : ¬ A 1 3 = 0 → Q (FP.fdiv (FP.i2f (A 1 5)) (FP.i2f (A 1 3))) w z) (h0 : A 1 3 = 0 → Q 0 w z) : F_X5_meanPrice x w z Q := by
  have e := h.I1.2.2.2.2.2.2
  refine ⟨_, h.f0, _, h.F1.g3, fun hn => ⟨_, h.f0, h.is1, h.F1.prices h.I1 ?_⟩, h0⟩
  rw [← e]
  exact ⟨_, h.f0, _, h.F1.g3, nn32 hn, h1 hn⟩
end
