section
variable {w w' w'' : Mm} {x z mc ms b : Nat} {Q : Int32 → Mm → Nat → Prop} {R : Mm → Nat → Prop} {X : String → Mm → Nat → Prop} {T : Mm → Prop} {f f' : Nat → Int32} {Fz Fz' : Nat → Prop} {g g' : Nat → Int32} {A A' : Nat → Nat → Int32}
theorem c_slot {s : Int32} (hm : 1 ≤ mc) (hs : 6 ≤ ms) (hok : vp_in s 2 → R w z) (hx : ¬ vp_in s 2 → ∀ z1, z ≤ z1 → X "java/lang/IllegalArgumentException" w z1) : F_X5_requireSlot s w z mc ms R X := by
  have i2 : (2 : Int32).toInt = 2 := by decide
  refine ⟨fun h0 => ⟨hm, hs, hx (fun hv => ?_)⟩, fun h0 => ⟨fun h1 => hok ?_, fun h1 => ⟨hm, hs, hx (fun hv => h1 ?_)⟩⟩⟩
  · have h3 := vp_in_iff.mp hv
    have h2 := ilt.mp h0
    rw [i_0] at h2
    omega
  · have h2 := ilt.mp h1
    have h3 : ¬ s.toInt < (0 : Int32).toInt := fun h => h0 (ilt.mpr h)
    rw [i_0] at h3
    rw [i2] at h2
    exact vp_in_iff.mpr (by omega)
  · have h3 := vp_in_iff.mp hv
    exact ilt.mpr (by rw [i2]; omega)
def saveA (A : Nat → Nat → Int32) (s : Int32) : Nat → Nat → Int32 := updA (updA A 3 (va_cpy (A 1) (A 3) 0 (cl s * 445) 445)) 5 (upd (A 5) (cl s) 1)
theorem CS.save {s : Int32} (h : CS w x Fz g A) (hz : FzO x Fz) (hm : 10 ≤ mc) (hs : 100 ≤ ms)
    (hok : vp_in s 2 → ∀ w', CS w' x Fz g (saveA A s) → FrS x w w' → Q (A 1 0) w' z)
    (h1 : ¬ vp_in s 2 → ∀ z1, z ≤ z1 → X "java/lang/IllegalArgumentException" w z1) : F_X5_save x s w z mc ms Q X := by
  refine ⟨1, 6, by omega, by omega, c_slot (by omega) (by omega) (fun hv => ?_) h1⟩
  have c2 := clI hv
  have h0 := h
  obtain ⟨a1, a2, a3, ⟨vr, iv, b1, b2, b3⟩, ⟨a5, a5'⟩, a6⟩ := h
  have a9 := clI a2
  obtain ⟨d1, d2, d3, d4⟩ := b3 (cl s) c2.2
  refine ⟨_, fld_c a1 4, _, _, _, arR_c b1, hv, d1, _, fld_c a1 0, d2.is, HasF.copy (by omega) (fun q hq => by have := hz q hq; omega) a5' d2 a5 (fun w1 h5 h6 => ?_)⟩
  have hx : XO w1 x (g 5) := by
    unfold XO
    rw [h6 _ (by omega)]
    exact a1
  refine ⟨_, fld_c hx 5, _, _, arW_c (by rw [h6 _ (by omega)]; exact b2), hv, ?_⟩
  rw [show vp_nar .boolean 1 = 1 from by decide]
  rintro _ rfl
  generalize hw2 : mset w1 (x + 129) (.inr (2, 2, .inl (upd iv s.toNatClampNeg 1))) = w2
  have hw : ∀ q, q ≠ x + 129 → ¬ (x + 638 + 63 * cl s ≤ q ∧ q < x + 638 + 63 * cl s + 63) → w2 q = w q := fun q q1 q2 => by rw [← hw2, mset_ne q1, h6 q q2]
  have hf : ∀ q, Fz q → w2 q = w q := fun q hq => hw q (by have := hz q hq; omega) (by have := hz q hq; omega)
  have hC : CS w2 x Fz g (saveA A s) := by
    unfold saveA
    refine ⟨by unfold XO; rw [hw _ (by omega) (by omega)]; exact a1, a2, ?_, ?_, ?_, a6.to (fun q k1 k2 => hw q (by omega) (by omega))⟩
    · rw [updA_ne (by omega), updA_ne (by omega)]
      exact a3.to (a' := A 2) (by omega) (fun q hq => by
        rcases hq with hq | hq | hq
        · exact hw q (by omega) (by omega)
        · exact hw q (by omega) (by omega)
        · exact hf q hq) (fun _ h => h) (fun _ _ => rfl)
    · rw [updA_eq, updA_ne (by omega), updA_eq]
      refine ⟨vr, upd iv (cl s) 1, by rw [hw _ (by omega) (by omega)]; exact b1, by rw [← hw2, mset_eq], fun i hi => ?_⟩
      obtain ⟨e1, e2, e3, e4⟩ := b3 i hi
      by_cases his : i = cl s
      · have he : ∀ j, j < 445 → slc (va_cpy (A 1) (A 3) 0 (cl s * 445) 445) i j = A 1 j := fun j hj => by
          show va_cpy (A 1) (A 3) 0 (cl s * 445) 445 (445 * i + j) = A 1 j
          rw [va_cpy_in (by omega) (by omega)]
          congr 1
          omega
        have h7 : HasF w2 (x + 638 + 63 * cl s) Fz (A 1) := h5.to (fun q hq => by
          rw [← hw2]
          rcases hq with hq | hq
          · exact mset_ne (by omega)
          · exact mset_ne (by have := hz q hq; omega)) (fun _ h => h)
        rw [← his] at h7
        exact ⟨e1, h7.any, by rw [his, upd_eq, upd_eq], fun _ => ⟨h7.ext a5' he, a5'.ext he⟩⟩
      · have he : ∀ j, j < 445 → slc (va_cpy (A 1) (A 3) 0 (cl s * 445) 445) i j = slc (A 3) i j := fun j hj => va_cpy_out (by omega)
        refine ⟨e1, e2.to (fun q k1 k2 => hw q (by omega) (by omega)), by rw [upd_ne his, upd_ne his]; exact e3, fun hn => ?_⟩
        rw [upd_ne his] at hn
        obtain ⟨f1, f2⟩ := e4 hn
        exact ⟨(f1.to (fun q hq => by
          rcases hq with hq | hq
          · exact hw q (by omega) (by omega)
          · exact hf q hq) (fun _ h => h)).ext f2 he, f2.ext he⟩
    · rw [updA_ne (by omega), updA_ne (by omega)]
      exact ⟨a5.to (fun q hq => by
        rcases hq with hq | hq
        · exact hw q (by omega) (by omega)
        · exact hf q hq) (fun _ h => h), a5'⟩
  have hF := hC.F1
  have hf0 : saveA A s 1 0 = A 1 0 := by
    unfold saveA
    rw [updA_ne (by omega), updA_ne (by omega)]
  have hg := hF.g0
  rw [hf0] at hg
  exact ⟨_, hC.f0, _, hg, hok hv w2 hC (fun q hq => hw q (by omega) (by omega))⟩
def restA (g : Nat → Int32) (A : Nat → Nat → Int32) (s : Int32) : Nat → Nat → Int32 := updA (remA g A (A 1)) 1 (va_cpy (A 3) (A 1) (cl s * 445) 0 445)
theorem remA_k {r : Nat → Int32} {k : Nat} (hk : k ≠ 2) : remA g A r k = A k := by
  unfold remA
  split
  · rw [updA_ne hk, updA_ne hk]
  · rw [updA_ne hk]
theorem CS.restore {s : Int32} (h : CS w x Fz g A) (hz : FzO x Fz) (hm : 10 ≤ mc) (hs : 100 ≤ ms)
    (hok : vp_in s 2 → ¬ A 5 (cl s) = 0 → ∀ w', CS w' x Fz (remG g) (restA g A s) → FrS x w w' → Q (A 3 (cl s * 445)) w' z)
    (h1 : ¬ vp_in s 2 → ∀ z1, z ≤ z1 → X "java/lang/IllegalArgumentException" w z1)
    (h2 : vp_in s 2 → A 5 (cl s) = 0 → ∀ z1, z ≤ z1 → X "java/lang/IllegalStateException" w z1) : F_X5_restore x s w z mc ms Q X := by
  refine ⟨1, 6, by omega, by omega, c_slot (by omega) (by omega) (fun hv => ?_) h1⟩
  have c2 := clI hv
  have h0 := h
  obtain ⟨a1, a2, a3, ⟨vr, iv, b1, b2, b3⟩, ⟨a5, a5'⟩, a6⟩ := h
  obtain ⟨d1, d2, d3, d4⟩ := b3 (cl s) c2.2
  refine ⟨_, fld_c a1 5, _, _, arI_c b2, hv, fun hn => ⟨h0.is0, h0.keep hz (fun w1 h' hf => ?_)⟩, fun hn => ⟨by omega, by omega, h2 hv (d3.symm.trans hn)⟩⟩
  have hn' : ¬ A 5 (cl s) = 0 := fun e => hn (d3.trans e)
  have h'0 := h'
  obtain ⟨a1', a2', a3', ⟨vr', iv', b1', b2', b3'⟩, ⟨a6', a6''⟩, a7'⟩ := h'
  obtain ⟨e1, e2, e3, e4⟩ := b3' (cl s) c2.2
  rw [remA_k (by omega), remA_k (by omega)] at e4
  obtain ⟨e5, e6⟩ := e4 hn'
  refine ⟨_, h'0.f0, _, fld_c a1' 4, _, _, _, arR_c b1', hv, e1, h'0.is1, HasF.copy (by omega) hz.p e6 a6'.any e5 (fun w2 h5 h6 => ?_)⟩
  have he : ∀ j, j < 445 → va_cpy (A 3) (A 1) (cl s * 445) 0 445 j = slc (A 3) (cl s) j := fun j hj => by
    rw [va_cpy_in (by omega) (by omega)]
    show A 3 _ = A 3 _
    congr 1
    omega
  obtain ⟨h7, h8⟩ := h'0.pr hz (h5.ext e6 he) (e6.ext he) h6
  have hg := h7.F1.g0
  rw [updA_eq, he 0 (by omega), show slc (A 3) (cl s) 0 = A 3 (cl s * 445) by
    show A 3 _ = A 3 _
    congr 1
    omega] at hg
  exact ⟨_, h7.f0, _, hg, hok hv hn' w2 h7 (hf.trans h8)⟩
end
