/-! the law's world -/
theorem nnf2d {a : UInt32} (h : Jvm.FP.Core.fIsNaN a = false) : vf_n64 (FP.f2d a) := by
  have e0 : FP.f2d a = Jvm.FP.Core.f2d a := by
    unfold FP.f2d
    rw [h]
    rfl
  have h1 := Jvm.FP.Core.f2d_out h
  have h2 := (Jvm.FP.Core.ne_nan _).mp ((Jvm.FP.Core.notNaN_iff _).mp h1)
  rw [e0]
  show Jvm.FP.Core.f2d a &&& 0x7fffffffffffffff ≤ 0x7ff0000000000000
  rw [UInt64.le_iff_toNat_le, UInt64.toNat_and]
  have e : (Jvm.FP.Core.f2d a).toNat &&& (0x7fffffffffffffff : UInt64).toNat = (Jvm.FP.Core.f2d a).toNat % 2 ^ 63 := Nat.and_two_pow_sub_one_eq_mod _ 63
  rw [e]
  exact h2
theorem nnq {a b : Int32} (h : ¬ b = 0) : Jvm.FP.Core.fIsNaN (FP.fdiv (FP.i2f a) (FP.i2f b)) = false := Jvm.FP.Core.fdiv_out ((Jvm.FP.Core.notNaN_iff32 _).mpr (Jvm.FP.Core.i2f_fin a).ne_nan) (Jvm.FP.Core.i2f_fin b) (fun hz => Jvm.FP.Core.i2f_ne_zero h ((Jvm.FP.Core.zero_bits232 _).mp hz))
theorem cmp_self (x : Int64) : lg_cmp x x = 0 := by
  unfold lg_cmp
  rw [if_neg (by simp [Int64.lt_iff_toInt_lt]), if_pos rfl]
def LW (b n : Nat) (sc : Nat → Int32) (x : Nat) (Fz : Nat → Prop) (g : Nat → Int32) (A : Nat → Nat → Int32) (h tx : Nat → Int32) (t cap : Nat) (l : List Int32) (L : Nat) (w : Mm) (z : Nat) : Prop :=
  CS w x Fz g A ∧ FzO x Fz ∧ HP w x h tx ∧ OW w x z Fz t cap l ∧ (L ≤ 700 ∧ h 2 = nI L ∧ g 9 = nI L ∧ TX tx (A 6) L ∧ h 3 = g 11 ∧ h 4 = g 12) ∧ (g 10 = nI l.length ∧ (∀ i, i < l.length → A 7 i = l.getD i 0) ∧ l.length ≤ 300) ∧ w = rwd w (x + 764) g A ∧ (∃ fo, w (x + 773) = some (true, .inr (3, 1, .inr (.inl fo)))) ∧ (w b = some (false, .inr (0, n, .inl sc)) ∧ b < x) ∧ (x + 774 ≤ z ∧ t ≠ x + 773 ∧ ¬ Fz (x + 773))
def LX (b n : Nat) (sc : Nat → Int32) (x cap : Nat) (w : Mm) (z : Nat) : Prop := ∃ Fz g A h tx t l L, LW b n sc x Fz g A h tx t cap l L w z
def BG (mc ms cap k : Nat) : Prop := 1000 * k + (702 - cap) ≤ mc ∧ 14000 * k + 2 * (702 - cap) ≤ ms ∧ cap ≤ 702
theorem BG.less {mc ms cap k : Nat} (h : BG mc ms cap (k + 1)) {a c : Nat} (ha : a ≤ 1000) (hc : c ≤ 14000) : BG (mc - a) (ms - c) cap k := by
  obtain ⟨h1, h2, h3⟩ := h
  refine ⟨?_, ?_, h3⟩ <;> omega
def FrO (x : Nat) (w w' : Mm) : Prop := ∀ q, ¬ ((x ≤ q ∧ q < x + 130) ∨ (x + 134 ≤ q ∧ q < x + 764) ∨ q = x + 773) → w' q = w q
section
variable {b n x z z1 m L t cap : Nat} {sc : Nat → Int32} {w w' w1 w2 w'' : Mm} {l : List Int32} {Q : Int32 → Mm → Nat → Prop} {R : Mm → Nat → Prop} {h tx : Nat → Int32} {Fz : Nat → Prop} {g g' g2 : Nat → Int32} {A A' A2 : Nat → Nat → Int32} {o : Nat}
theorem FrO.of (h : FrS x w w1) : FrO x w w1 := fun q hq => h q (by omega)
theorem FrO.rfl' : FrO x w w := fun _ _ => rfl
theorem FrO.ms {e : Ce} (h : FrO x w w1) : FrO x w (mset w1 (x + 773) e) := fun q hq => by
  rw [mset_ne (by omega)]
  exact h q hq
theorem rwd_idem : rwd w m g A = rwd (rwd w m g A) m g A := by
  funext q
  unfold rwd
  by_cases hq : m ≤ q ∧ q < m + 9
  · rw [if_pos hq, if_pos hq]
  · rw [if_neg hq, if_neg hq]
theorem rwd_fr (hW : w = rwd w m g A) (hF : ∀ q, m ≤ q → q < m + 9 → w' q = w q) : w' = rwd w' m g A := by
  funext q
  by_cases hq : m ≤ q ∧ q < m + 9
  · rw [hF q hq.1 hq.2, hW]
    unfold rwd
    rw [if_pos hq, if_pos hq]
  · exact (rwd_o hq).symm
theorem LX.mk' (hC : CS w2 x Fz g2 A2) (hz : FzO x Fz) (hP : HP w2 x h tx) (hO : OW w2 x z1 Fz t cap l) (hL : L ≤ 700 ∧ h 2 = nI L ∧ g2 9 = nI L ∧ TX tx (A2 6) L ∧ h 3 = g2 11 ∧ h 4 = g2 12) (hR : g2 10 = nI l.length ∧ (∀ i, i < l.length → A2 7 i = l.getD i 0) ∧ l.length ≤ 300) (ho : ∃ fo, w2 (x + 773) = some (true, .inr (3, 1, .inr (.inl fo)))) (hb : w2 b = some (false, .inr (0, n, .inl sc))) (hbx : b < x) (hz1 : x + 774 ≤ z1) (ht : t ≠ x + 773) (hn : ¬ Fz (x + 773)) : LX b n sc x cap (rwd w2 (x + 764) g2 A2) z1 := by
  have hr : ∀ q, ¬ (x + 764 ≤ q ∧ q < x + 764 + 9) → rwd w2 (x + 764) g2 A2 q = w2 q := fun q hq => rwd_o hq
  have hf : ∀ q, Fz q → rwd w2 (x + 764) g2 A2 q = w2 q := fun q hq => hr q (by
    have := hz q hq
    omega)
  have o3 := hO.2.2.1
  refine ⟨Fz, g2, A2, h, tx, t, l, L, hC.to (fun q hq => ?_), hz, hP.to (hr _ (by omega)) (hr _ (by omega)), ⟨hO.1.to (hr _ (by omega)) (hr _ (by omega)), hO.2.1, o3, hO.2.2.2.1, hO.2.2.2.2.1, hO.2.2.2.2.2.1, hO.2.2.2.2.2.2.1, fun a ha bb n f he => hO.2.2.2.2.2.2.2 a ha bb n f (by rw [← he, hf a ha])⟩, hL, hR, rwd_idem, ?_, ⟨by rw [hr b (by omega)]; exact hb, hbx⟩, hz1, ht, hn⟩
  · rcases hq with hq | hq | hq
    · exact hr q (by omega)
    · exact hr q (by omega)
    · exact hf q hq
  · obtain ⟨fo, hfo⟩ := ho
    exact ⟨fo, by rw [hr _ (by omega)]; exact hfo⟩
theorem LW.fin (hW : LW b n sc x Fz g A h tx t cap l L w z) (hz1 : z ≤ z1) (hF : FrO x w w2) (ho : ∃ fo, w2 (x + 773) = some (true, .inr (3, 1, .inr (.inl fo)))) (hC : CS w2 x Fz g2 A2) (k9 : g2 9 = g 9) (k10 : g2 10 = g 10) (k11 : g2 11 = g 11) (k12 : g2 12 = g 12) (a6 : A2 6 = A 6) (a7 : A2 7 = A 7) : LX b n sc x cap (rwd w2 (x + 764) g2 A2) z1 := by
  obtain ⟨c1, c2, c3, c4, c5, c6, c7, c8, c9, c10⟩ := hW
  have hf : ∀ q, Fz q → w2 q = w q := fun q hq => hF q (by
    have := c2 q hq
    have : q ≠ x + 773 := fun e => c10.2.2 (e ▸ hq)
    omega)
  have o3 := c4.2.2.1
  have o5 := c4.2.2.2.2.1
  refine LX.mk' (L := L) hC c2 (c3.to (hF _ (by omega)) (hF _ (by omega))) ⟨c4.1.to (hF _ (by omega)) (hF _ (by omega)), c4.2.1, o3, c4.2.2.2.1, by omega, by omega, fun q hq => by have := c4.2.2.2.2.2.2.1 q hq; omega, fun a ha bb n f he => c4.2.2.2.2.2.2.2 a ha bb n f (by rw [← he, hf a ha])⟩ ?_ ?_ ho (by rw [hF b (by omega)]; exact c9.1) c9.2 (by omega) c10.2.1 c10.2.2
  · rw [k9, k11, k12, a6]
    exact c5
  · rw [k10, a7]
    exact c6
/-- the world in which the reference runs, behind the class -/
theorem LW.rw (hW : LW b n sc x Fz g A h tx t cap l L w z) (hF : FrO x w w2) : w2 = rwd w2 (x + 764) g A := rwd_fr hW.2.2.2.2.2.2.1 (fun q h1 h2 => hF q (by omega))
theorem LW.scr (hW : LW b n sc x Fz g A h tx t cap l L w z) (hF : FrO x w w2) : arI w2 b 0 = some (n, sc) := arI_c (by
  rw [hF b (by have := hW.2.2.2.2.2.2.2.2.1.2; omega)]
  exact hW.2.2.2.2.2.2.2.2.1.1)
theorem LW.scr0 (hW : LW b n sc x Fz g A h tx t cap l L w z) : arI w b 0 = some (n, sc) := hW.scr FrO.rfl'
theorem LW.cs (hW : LW b n sc x Fz g A h tx t cap l L w z) (hF : FrO x w1 w2) (hC : CS w1 x Fz g' A') (hw : ∀ q, ¬ q = x + 773 → w2 q = w1 q) : CS w2 x Fz g' A' := hC.to (fun q hq => hw q (by
  rcases hq with hq | hq | hq
  · omega
  · omega
  · exact fun e => hW.2.2.2.2.2.2.2.2.2.2.2 (e ▸ hq)))
/-- the law compares what was thrown, and the answers -/
def Tl (m o : Nat) (r : Int32) (BE QE : Mm → Nat → Prop) (v : Int32) (w : Mm) (z : Nat) : Prop :=
  isO w m 10 ∧ F_X6_thrown m w z (fun t w z => (t = r → (¬ r = 0 → BE w z) ∧ (r = 0 → ∃ n f, arL w o = some (n, f) ∧ vp_in 0 n ∧ (lg_cmp (f (0 : Int32).toNatClampNeg) (v : Int32).toInt64 = 0 → BE w z) ∧ (¬ lg_cmp (f (0 : Int32).toNatClampNeg) (v : Int32).toInt64 = 0 → QE w z))) ∧ (¬ t = r → QE w z))
theorem arL_c {a k n : Nat} {f : Nat → Int64} (h : w a = some (true, .inr (k, n, .inr (.inl f)))) (hk : k = 3) : arL w a = some (n, f) := by
  subst hk
  simp [arL, h]
theorem Tl_ok {BE QE : Mm → Nat → Prop} {v : Int32} {fo : Nat → Int64} (h6 : g 6 = 0) (ho : rwd w m g A o = some (true, .inr (3, 1, .inr (.inl fo)))) (hv : fo 0 = v.toInt64) (hB : BE (rwd w m g A) z) : Tl m o 0 BE QE v (rwd w m g A) z := by
  refine ⟨R_i, _, R_g6, fun _ => ⟨fun hh => absurd rfl hh, fun _ => ⟨_, _, arL_c ho rfl, in_nI (k := 0) (by decide) (by decide), fun _ => hB, fun hh => absurd ?_ hh⟩⟩, fun hh => absurd h6 hh⟩
  rw [cl0, hv, cmp_self]
theorem Tl_ex {BE QE : Mm → Nat → Prop} {v r : Int32} (h6 : g 6 = r) (hr : ¬ r = 0) (hB : BE (rwd w m g A) z) : Tl m o r BE QE v (rwd w m g A) z :=
  ⟨R_i, _, R_g6, fun _ => ⟨fun _ => hB, fun hh => absurd hh hr⟩, fun hh => absurd h6 hh⟩
theorem remG_6 {v : Int32} : remG (upd g 6 v) 5 = remG g 5 := by
  unfold remG
  rw [upd_ne (by omega)]
  split
  · rw [upd_eq, upd_eq]
  · rw [upd_eq, upd_eq]
theorem remG_k {k : Nat} (hk : k ≠ 5) : remG g k = g k := by
  unfold remG
  split
  · rw [upd_ne hk, upd_ne hk]
  · rw [upd_ne hk]
theorem remA_6 {v : Int32} {f : Nat → Int32} : remA (upd g 6 v) A f = remA g A f := by
  unfold remA
  rw [upd_ne (by omega)]
/-- the class's change, as the reference writes it -/
theorem CS.r6 {f f' : Nat → Int32} (hC : CS w x Fz (remG g) (updA (remA g A f) 1 f')) {v : Int32} : CS w x Fz (remG (upd g 6 v)) (updA (remA (upd g 6 v) A f) 1 f') := by
  rw [remA_6]
  exact hC.cong remG_6 (fun _ _ => rfl) rfl rfl rfl
theorem CS.u6 (hC : CS w x Fz g A) {v : Int32} : CS w x Fz (upd g 6 v) A := hC.cong (upd_ne (by omega)) (fun _ _ => rfl) rfl rfl rfl
theorem CS.v9 (h : CS w x Fz g A) : vp_in (g 5) 9 := h.2.1
end
