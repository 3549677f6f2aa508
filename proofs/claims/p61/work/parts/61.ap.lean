/-! bytes come in -/
theorem byte_rel (x : Int32) : 0 ≤ (x &&& 255).toInt ∧ (x &&& 255).toInt ≤ 255 ∧ ((x &&& 255).toInt < 128 → vp_nar .byte (x.toInt8.toInt32) = x &&& 255) ∧ (128 ≤ (x &&& 255).toInt → (vp_nar .byte (x.toInt8.toInt32)).toInt < 0) := by
  have hm : x.toBitVec.toNat % 2 ^ 8 < 2 ^ 8 := Nat.mod_lt _ (by decide)
  have hu : (x &&& 255).toInt = (x.toBitVec.toNat % 2 ^ 8 : Nat) := by
    rw [pk_and x (m := 255) 8 (by decide), nI_toInt (by omega)]
  have he : vp_nar .byte (x.toInt8.toInt32) = x.toInt8.toInt32 := by
    show x.toInt8.toInt32.toInt8.toInt32 = x.toInt8.toInt32
    simp
  have hb : (x.toInt8.toInt32).toInt = x.toInt.bmod 256 := by
    simp
  have hx : x.toInt = if 2 * x.toBitVec.toNat < 2 ^ 32 then (x.toBitVec.toNat : Int) else (x.toBitVec.toNat : Int) - 2 ^ 32 := by
    show x.toBitVec.toInt = _
    rw [BitVec.toInt_eq_toNat_cond]
    simp
  have hlt : x.toBitVec.toNat < 2 ^ 32 := x.toBitVec.isLt
  have hb2 : (x.toInt8.toInt32).toInt = if x.toBitVec.toNat % 256 < 128 then ((x.toBitVec.toNat % 256 : Nat) : Int) else ((x.toBitVec.toNat % 256 : Nat) : Int) - 256 := by
    rw [hb, Int.bmod_def, hx]
    split <;> split <;> split <;> omega
  rw [hu, he]
  refine ⟨by omega, by omega, fun h => ieq.mpr ?_, fun h => ?_⟩
  · rw [hu, hb2, if_pos (by omega)]
  · rw [hb2, if_neg (by omega)]
    omega
def byC (n x : Int32) : Int32 := vp_nar .byte ((n >>> (x &&& 31)).toInt8.toInt32)
def byR (n x : Int32) : Int32 := (n >>> (x &&& 31)) &&& 255
theorem TX.add {tx a : Nat → Int32} {l : Nat} (h : TX tx a l) (n x : Int32) : TX (upd tx l (byC n x)) (upd a l (byR n x)) (l + 1) := by
  intro i hi
  by_cases hil : i = l
  · rw [hil, upd_eq, upd_eq]
    exact byte_rel _
  · rw [upd_ne hil, upd_ne hil]
    exact h i (by omega)
def put4 (by_ : Int32 → Int32 → Int32) (t : Nat → Int32) (l : Nat) (n : Int32) : Nat → Int32 := upd (upd (upd (upd t l (by_ n 24)) (l + 1) (by_ n (24 + -8))) (l + 2) (by_ n (24 + -8 + -8))) (l + 3) (by_ n (24 + -8 + -8 + -8))
theorem TX.add4 {tx a : Nat → Int32} {l : Nat} (h : TX tx a l) (n : Int32) : TX (put4 byC tx l n) (put4 byR a l n) (l + 4) := (((h.add n _).add n _).add n _).add n _
section
variable {w : Mm} {p d m z l : Nat} {h tx g : Nat → Int32} {A : Nat → Nat → Int32} {Q : Int32 → Mm → Nat → Prop} {R : Mm → Nat → Prop}
theorem P_ab {n x : Int32} {k : Nat} (hx : ¬ x < 0) (h2 : h 2 = nI l) (hl : l < 700) (hq : B_X1_addBytes_3 p n R k (x + -8) (pw w p d (upd h 2 (nI (l + 1))) (upd tx l (byC n x))) z) : B_X1_addBytes_3 p n R (k + 1) x (pw w p d h tx) z := by
  have i700 : (700 : Int32) = nI 700 := rfl
  unfold B_X1_addBytes_3
  refine ⟨fun hh => absurd hh hx, fun _ => ⟨_, P_g2, fun hh => absurd hh (by rw [h2, i700, nIle (by omega) (by omega)]; omega), fun _ => ⟨_, P_r1, _, P_g2, _, _, P_w, by rw [h2]; exact nIin (by omega) (by omega), ?_⟩⟩⟩
  rintro _ rfl
  rw [pw_st, h2, nI_cl (by omega)]
  refine ⟨_, P_g2, P_p2 ?_⟩
  rw [h2, nIs (by omega)]
  exact hq
theorem P_abE {n x : Int32} {k : Nat} (hx : x < 0) (hq : R (pw w p d h tx) z) : B_X1_addBytes_3 p n R (k + 1) x (pw w p d h tx) z := by
  unfold B_X1_addBytes_3
  exact ⟨fun _ => hq, fun hh => absurd hx hh⟩
theorem P_addBytes {n : Int32} (h2 : h 2 = nI l) (hl : l + 4 ≤ 700) (hq : R (pw w p d (upd h 2 (nI (l + 4))) (put4 byC tx l n)) z) : F_X1_addBytes p n (pw w p d h tx) z R := by
  refine ⟨5, P_ab (by decide) h2 (by omega) (P_ab (l := l + 1) (by decide) (upd_eq _ _ _) (by omega) (P_ab (l := l + 2) (by decide) (upd_eq _ _ _) (by omega) (P_ab (l := l + 3) (by decide) (upd_eq _ _ _) (by omega) (P_abE (by decide) ?_))))⟩
  rw [upd_upd, upd_upd, upd_upd]
  exact hq
theorem updA_updA (A : Nat → Nat → Int32) (k : Nat) (f f' : Nat → Int32) : updA (updA A k f) k f' = updA A k f' := by
  funext j
  unfold updA
  split <;> rfl
end
