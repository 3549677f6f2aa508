/-! names, as the reference reads them -/
section
variable {w : Mm} {m z L i : Nat} {g : Nat → Int32} {A : Nat → Nat → Int32} {Q : Int32 → Mm → Nat → Prop} {R : Mm → Nat → Prop} {T : Mm → Prop} {c o : Int32}
/-- the letters stand in the eighth row; the others stay -/
def sL (A A' : Nat → Nat → Int32) : Prop := ∀ k, k ≠ 8 → A' k = A k
def LT (g : Nat → Int32) (A : Nat → Nat → Int32) (fr n : Nat) : Prop := g 14 = nI n ∧ ∀ k, k < n → A 8 k = A 6 (fr + k)
theorem RK.up14 {v : Int32} {a : Nat → Int32} (hK : RK g a L i) : RK (upd g 14 v) a L i := by
  obtain ⟨k1, k2, k3, k4, k5, k6, k7, k8, k9⟩ := hK
  refine ⟨k1, ?_, ?_, ?_, ?_, ?_, ?_, ?_, fun h => ?_⟩ <;> rw [upd_ne (by omega)] <;> first | assumption | exact k9 h
theorem R_letters {fr n : Nat} (hn : n ≤ 6) (hfr : fr + n ≤ 700) (h14 : g 14 = nI n) (h16 : g 16 = nI fr) : ∀ (j k : Nat) (A : Nat → Nat → Int32), k + j = n → (∀ t, t < k → A 8 t = A 6 (fr + t)) → (∀ A', sL A A' → (∀ t, t < n → A' 8 t = A' 6 (fr + t)) → R (rwd w m g A') z) → B_X6_nameHere_55 m R (j + 1) (nI k) (rwd w m g A) z := by
  intro j
  induction j with
  | zero =>
    intro k A hk hA hq
    unfold B_X6_nameHere_55
    refine ⟨_, R_g14, fun _ => hq A (fun _ _ => rfl) (fun t ht => hA t (by omega)), fun hh => absurd (by rw [h14, nIle (by omega) (by omega)]; omega) hh⟩
  | succ j ih =>
    intro k A hk hA hq
    unfold B_X6_nameHere_55
    have e : (nI fr + nI k : Int32) = nI (fr + k) := ieq.mpr (by rw [ia _ _ (by rw [nI_toInt (by omega), nI_toInt (by omega)]; omega) (by rw [nI_toInt (by omega), nI_toInt (by omega)]; omega), nI_toInt (by omega), nI_toInt (by omega), nI_toInt (by omega)]; omega)
    refine ⟨_, R_g14, fun hh => absurd hh (by rw [h14, nIle (by omega) (by omega)]; omega), fun _ => ⟨_, R_r13, _, R_r7, _, R_g16, _, _, R_a6, ?_, _, _, R_w8, nIin (by omega) (by omega), ?_⟩⟩
    · rw [h16, e]
      exact nIin (by omega) (by omega)
    · rintro _ rfl
      rw [h16, e, nI_cl (by omega), nI_cl (by omega), R_s8, nIs (by omega)]
      refine ih (k + 1) _ (by omega) (fun t ht => ?_) (fun A' h1 h2 => hq A' (fun q hq8 => (h1 q hq8).trans (updA_ne hq8)) h2)
      rw [updA_eq, updA_ne (by omega)]
      by_cases htk : t = k
      · rw [htk, upd_eq]
      · rw [upd_ne htk]
        exact hA t (by omega)
theorem R_nameHere (hL : L ≤ 700) (hK : RK g (A 6) L i)
    (hok : isNm (A 6) L i = true → ∀ g' A', sQ g g' → RK g' (A 6) L i → sL A A' → LT g' A' (tFrom (A 6) L i) (tTo (A 6) L i - tFrom (A 6) L i) → R (rwd w m g' A') z)
    (her : ¬ isNm (A 6) L i = true → ∀ g', sQ g g' → RE g' L 1 (oF (A 6) L i) → R (rwd w m g' A) z) : F_X6_nameHere m (rwd w m g A) z R := by
  have hK0 := hK
  obtain ⟨k1, k2, k3, k4, k5, k6, k7, k8, k9⟩ := hK
  have ht := tTo_le (A 6) k1
  have j6 : (6 : Int32).toInt = 6 := by decide
  have e : (g 17 - g 16 : Int32).toInt = tTo (A 6) L i - tFrom (A 6) L i := by
    rw [k7, k8, isb _ _ (by rw [nI_toInt (by omega), nI_toInt (by omega)]; omega) (by rw [nI_toInt (by omega), nI_toInt (by omega)]; omega), nI_toInt (by omega), nI_toInt (by omega)]
  have k23 : ¬ isNm (A 6) L i = true → B_X6_nameHere_23 m R m (rwd w m g A) z := fun hn => ⟨R_i, R_wrong1 hK0 (fun g' hs hE => ⟨_, R_g19, fun h => absurd h hE.ne, fun _ => her hn g' hs hE⟩)⟩
  refine ⟨_, R_g15, fun h1 => k23 (fun hn => ?_), fun h1 => ⟨_, R_g17, _, R_g16, fun h2 => ⟨R_i, R_wrong0 ⟨_, R_g19, fun _ => ⟨_, R_g17, _, R_g16, R_p14 ⟨tTo (A 6) L i - tFrom (A 6) L i + 1, ?_⟩⟩, fun h => absurd k3 h⟩⟩, fun h2 => k23 (fun hn => ?_)⟩⟩
  · rw [k6] at h1
    unfold isNm at hn
    rw [Bool.and_eq_true, beq_iff_eq] at hn
    exact h1 hn.1
  · rw [k6] at h1
    have h3 := ile.mp h2
    rw [e, j6] at h3
    have hv : g 17 - g 16 = nI (tTo (A 6) L i - tFrom (A 6) L i) := ieq.mpr (by rw [e, nI_toInt (by omega)]; omega)
    rw [hv]
    have hn : isNm (A 6) L i = true := by
      unfold isNm
      rw [Bool.and_eq_true, beq_iff_eq, decide_eq_true_eq]
      exact ⟨h1, by omega⟩
    exact R_letters (fr := tFrom (A 6) L i) (by omega) (by omega) (by rw [upd_eq]) (by rw [upd_ne (by omega), k7]) _ 0 A (by omega) (fun t ht => absurd ht (by omega)) (fun A' h4 h5 => hok hn _ A' ⟨upd_ne (by omega), upd_ne (by omega), upd_ne (by omega), upd_ne (by omega)⟩ hK0.up14 h4 ⟨upd_eq _ _ _, fun k hk => h5 k hk⟩)
  · have h3 : ¬ (g 17 - g 16 : Int32).toInt ≤ (6 : Int32).toInt := fun hh => h2 (ile.mpr hh)
    rw [e, j6] at h3
    unfold isNm at hn
    rw [Bool.and_eq_true, beq_iff_eq, decide_eq_true_eq] at hn
    omega
theorem R_nameHereE (hE : RE g L c o) (hq : R (rwd w m g A) z) : F_X6_nameHere m (rwd w m g A) z R := by
  have k28 : ∀ y, B_X6_nameHere_28 m R y m (rwd w m g A) z := fun y => ⟨R_i, R_wrongE hE.ne ⟨_, R_g19, fun h => absurd h hE.ne, fun _ => hq⟩⟩
  exact ⟨_, R_g15, fun _ => k28 _, fun _ => ⟨_, R_g17, _, R_g16, fun _ => k28 _, fun _ => k28 _⟩⟩
end
