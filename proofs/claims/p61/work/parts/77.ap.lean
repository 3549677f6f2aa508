/-! append, truncateInput, the error's code and offset -/
def put20 (by_ : Int32 → Int32 → Int32) (t : Nat → Int32) (l : Nat) (a b c d e : Int32) : Nat → Int32 := put4 by_ (put4 by_ (put4 by_ (put4 by_ (put4 by_ t l a) (l + 4) b) (l + 8) c) (l + 12) d) (l + 16) e
theorem TX.add20 {tx a : Nat → Int32} {l : Nat} (h : TX tx a l) (p q r s t : Int32) : TX (put20 byC tx l p q r s t) (put20 byR a l p q r s t) (l + 20) := ((((h.add4 p).add4 q).add4 r).add4 s).add4 t
theorem TX.less {tx a : Nat → Int32} {l l' : Nat} (h : TX tx a l) (hl : l' ≤ l) : TX tx a l' := fun i hi => h i (by omega)
section
variable {w w' w'' : Mm} {x z z' m L t cap : Nat} {l : List Int32} {Q : Int32 → Mm → Nat → Prop} {R : Mm → Nat → Prop} {X : String → Mm → Nat → Prop} {T : Mm → Prop} {f f' a h tx : Nat → Int32} {Fz Fz' : Nat → Prop} {g g' : Nat → Int32} {A A' : Nat → Nat → Int32} {c o : Int32} {mc ms : Nat}
theorem CS.par (hC : CS w x Fz g A) (hz : FzO x Fz) {h' tx' : Nat → Int32} : CS (pw w (x + 130) (x + 64) h' tx') x Fz g A := hC.to (fun q hq => pw_o (by
  rcases hq with hq | hq | hq
  · omega
  · omega
  · have := hz q hq
    omega))
theorem X_append {p q r s u : Int32} (hL : L ≤ 700) (h2 : h 2 = nI L) (hC : CS w x Fz g A) (hz : FzO x Fz) (hP : HP w x h tx)
    (h1 : L + 20 ≤ 700 → ∀ w' h' tx', CS w' x Fz g A → HP w' x h' tx' → h' 2 = nI (L + 20) → (∀ k, k ≠ 2 → h' k = h k) → tx' = put20 byC tx L p q r s u → FrL x z w w' → Q (nI (L + 20)) w' z)
    (h0 : ¬ L + 20 ≤ 700 → Q (-1) w z) : F_X5_append x p q r s u w z Q := by
  have i680 : (680 : Int32) = nI 680 := rfl
  refine ⟨_, fld_c hC.1 6, ?_⟩
  have e := hP.wq
  by_cases hl : L + 20 ≤ 700
  · rw [e]
    have hc : ∀ h' tx', fld (pw w (x + 130) (x + 64) h' tx') x 9 6 = some (.ref (x + 130)) := fun h' tx' => fld_c (hC.par hz).1 6
    refine ⟨_, P_g2, fun _ => ⟨_, hc _ _, P_i, P_addBytes h2 (by omega) ⟨_, hc _ _, P_i, P_addBytes (l := L + 4) (upd_eq _ _ _) (by omega) ⟨_, hc _ _, P_i, P_addBytes (l := L + 8) (upd_eq _ _ _) (by omega) ⟨_, hc _ _, P_i, P_addBytes (l := L + 12) (upd_eq _ _ _) (by omega) ⟨_, hc _ _, P_i, P_addBytes (l := L + 16) (upd_eq _ _ _) (by omega) ⟨_, hc _ _, _, P_g2, ?_⟩⟩⟩⟩⟩⟩, fun hh => absurd (by rw [h2, i680, nIle (by omega) (by omega)]; omega) hh⟩
    rw [upd_eq]
    exact h1 hl _ _ _ (hC.par hz) HP.of (upd_eq _ _ _) (fun k hk => by rw [upd_ne hk, upd_ne hk, upd_ne hk, upd_ne hk, upd_ne hk]) rfl (fun q q1 q2 q3 => pw_o (by omega))
  · refine ⟨h 2, fld_c hP.1 2, fun hh => absurd hh (by rw [h2, i680, nIle (by omega) (by omega)]; omega), fun _ => h0 hl⟩
theorem X_trunc {p : Int32} (hL : L ≤ 700) (h2 : h 2 = nI L) (hC : CS w x Fz g A) (hz : FzO x Fz) (hP : HP w x h tx) (hm : 10 ≤ mc) (hs : 100 ≤ ms)
    (h1 : 0 ≤ p.toInt ∧ p.toInt ≤ L → ∀ w' h', CS w' x Fz g A → HP w' x h' tx → h' 2 = p → (∀ k, k ≠ 2 → h' k = h k) → FrL x z w w' → Q p w' z)
    (h0 : ¬ (0 ≤ p.toInt ∧ p.toInt ≤ L) → ∀ z1, z ≤ z1 → X "java/lang/IllegalArgumentException" w z1) : F_X5_truncateInput x p w z mc ms Q X := by
  refine ⟨fun hh => ⟨by omega, by omega, h0 (fun h => ?_)⟩, fun hh => ⟨_, fld_c hC.1 6, h 2, fld_c hP.1 2, fun hl => ?_, fun hl => ⟨by omega, by omega, h0 (fun h => ?_)⟩⟩⟩
  · have := ilt.mp hh
    rw [i_0] at this
    omega
  · have a1 : ¬ p.toInt < (0 : Int32).toInt := fun h => hh (ilt.mpr h)
    have a2 := ile.mp hl
    rw [i_0] at a1
    rw [h2, nI_toInt (by omega)] at a2
    rw [hP.wq]
    refine ⟨_, fld_c (hC.par hz).1 6, P_p2 ?_⟩
    exact h1 ⟨by omega, a2⟩ _ _ (hC.par hz) HP.of (upd_eq _ _ _) (fun k hk => upd_ne hk) (fun q q1 q2 q3 => pw_o (by omega))
  · refine hl (ile.mpr ?_)
    rw [h2, nI_toInt (by omega)]
    exact h.2
end
