/-! no NaN comes out -/
theorem nn64 {a b : Int32} (h : ¬ b = 0) : vf_n64 (FP.ddiv (FP.i2d a) (FP.i2d b)) := by
  have h1 : Jvm.FP.Core.dIsNaN (Jvm.FP.Core.ddiv (Jvm.FP.Core.i2d a) (Jvm.FP.Core.i2d b)) = false := Jvm.FP.Core.ddiv_out ((Jvm.FP.Core.notNaN_iff _).mpr (Jvm.FP.Core.i2d_fin a).ne_nan) (Jvm.FP.Core.i2d_fin b) (fun hz => Jvm.FP.Core.i2d_ne_zero h ((Jvm.FP.Core.zero_bits2 _).mp hz))
  have h2 := (Jvm.FP.Core.ne_nan _).mp ((Jvm.FP.Core.notNaN_iff _).mp h1)
  show Jvm.FP.Core.ddiv (Jvm.FP.Core.i2d a) (Jvm.FP.Core.i2d b) &&& 0x7fffffffffffffff ≤ 0x7ff0000000000000
  rw [UInt64.le_iff_toNat_le, UInt64.toNat_and]
  have e : (Jvm.FP.Core.ddiv (Jvm.FP.Core.i2d a) (Jvm.FP.Core.i2d b)).toNat &&& (0x7fffffffffffffff : UInt64).toNat = (Jvm.FP.Core.ddiv (Jvm.FP.Core.i2d a) (Jvm.FP.Core.i2d b)).toNat % 2 ^ 63 := Nat.and_two_pow_sub_one_eq_mod _ 63
  rw [e]
  exact h2
theorem nn32 {a b : Int32} (h : ¬ b = 0) : vf_n32 (FP.fdiv (FP.i2f a) (FP.i2f b)) := by
  have h1 : Jvm.FP.Core.fIsNaN (Jvm.FP.Core.fdiv (Jvm.FP.Core.i2f a) (Jvm.FP.Core.i2f b)) = false := Jvm.FP.Core.fdiv_out ((Jvm.FP.Core.notNaN_iff32 _).mpr (Jvm.FP.Core.i2f_fin a).ne_nan) (Jvm.FP.Core.i2f_fin b) (fun hz => Jvm.FP.Core.i2f_ne_zero h ((Jvm.FP.Core.zero_bits232 _).mp hz))
  have h2 := (Jvm.FP.Core.ne_nan32 _).mp ((Jvm.FP.Core.notNaN_iff32 _).mp h1)
  show Jvm.FP.Core.fdiv (Jvm.FP.Core.i2f a) (Jvm.FP.Core.i2f b) &&& 0x7fffffff ≤ 0x7f800000
  rw [UInt32.le_iff_toNat_le, UInt32.toNat_and]
  have e : (Jvm.FP.Core.fdiv (Jvm.FP.Core.i2f a) (Jvm.FP.Core.i2f b)).toNat &&& (0x7fffffff : UInt32).toNat = (Jvm.FP.Core.fdiv (Jvm.FP.Core.i2f a) (Jvm.FP.Core.i2f b)).toNat % 2 ^ 31 := Nat.and_two_pow_sub_one_eq_mod _ 31
  rw [e]
  exact h2
