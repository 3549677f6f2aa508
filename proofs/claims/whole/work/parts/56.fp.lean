section
variable {w : Mm} {m z : Nat} {g : Nat → Int32} {A : Nat → Nat → Int32} {Q : Int32 → Mm → Nat → Prop} {R : Mm → Nat → Prop} {T : Mm → Prop}
theorem G_faultShare {Q : UInt64 → Mm → Nat → Prop} (h1 : ¬ A 1 7 = 0 → Q (FP.ddiv (FP.i2d (A 1 4)) (FP.i2d (A 1 7))) (rwd w m (upd g 6 0) A) z) (h0 : A 1 7 = 0 → Q 0 (rwd w m (upd g 6 0) A) z) : F_X6_faultShare m (rwd w m g A) z Q := by
  unfold F_X6_faultShare
  simp only [cl7, cl4]
  exact R_p6 ⟨_, R_r0, _, _, R_a1, vl7, fun h => ⟨_, R_r0, _, _, R_a1, vl4, _, R_r0, _, _, R_a1, vl7, nn64 h, h1 h⟩, h0⟩
theorem G_meanPrice {Q : UInt32 → Mm → Nat → Prop} (h1 : ¬ A 1 3 = 0 → Q (FP.fdiv (FP.i2f (A 1 5)) (FP.i2f (A 1 3))) (rwd w m (upd g 6 0) A) z) (h0 : A 1 3 = 0 → Q 0 (rwd w m (upd g 6 0) A) z) : F_X6_meanPrice m (rwd w m g A) z Q := by
  unfold F_X6_meanPrice
  simp only [cl3, cl5]
  exact R_p6 ⟨_, R_r0, _, _, R_a1, vl3, fun h => ⟨_, R_r0, _, _, R_a1, vl5, _, R_r0, _, _, R_a1, vl3, nn32 h, h1 h⟩, h0⟩
end
section
variable {w w' w'' : Mm} {x z mc ms b : Nat} {Q : Int32 → Mm → Nat → Prop} {R : Mm → Nat → Prop} {X : String → Mm → Nat → Prop} {T : Mm → Prop} {f f' : Nat → Int32} {Fz Fz' : Nat → Prop} {g g' : Nat → Int32} {A A' : Nat → Nat → Int32}
theorem X_faultShare {Q : UInt64 → Mm → Nat → Prop} (h : CS w x Fz g A) (h1 : ¬ A 1 7 = 0 → Q (FP.ddiv (FP.i2d (A 1 4)) (FP.i2d (A 1 7))) w z) (h0 : A 1 7 = 0 → Q 0 w z) : F_X5_faultShare x w z Q :=
  ⟨_, h.f0, _, h.F1.g7, fun hn => ⟨_, h.f0, _, h.F1.g4, _, h.f0, _, h.F1.g7, nn64 hn, h1 hn⟩, h0⟩
theorem X_meanPrice {Q : UInt32 → Mm → Nat → Prop} (h : CS w x Fz g A) (h1 : ¬ A 1 3 = 0 → Q (FP.fdiv (FP.i2f (A 1 5)) (FP.i2f (A 1 3))) w z) (h0 : A 1 3 = 0 → Q 0 w z) : F_X5_meanPrice x w z Q := by
  have e := h.I1.2.2.2.2.2.2
  refine ⟨_, h.f0, _, h.F1.g3, fun hn => ⟨_, h.f0, h.is1, h.F1.prices h.I1 ?_⟩, h0⟩
  rw [← e]
  exact ⟨_, h.f0, _, h.F1.g3, nn32 hn, h1 hn⟩
end
