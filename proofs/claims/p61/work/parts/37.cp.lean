/-! a state stands in the heap -/
def hS (w : Mm) (b : Nat) (hd zn : Nat → Int32) (nm : Nat → Nat) (pa tk cs : Nat → Nat → Int32) : Prop := ∀ k, k < 63 → w (b + k) = some (true, sh b hd zn nm pa tk cs k)
section
variable {w : Mm} {b c z : Nat} {hd zn hd' zn' : Nat → Int32} {nm nm' : Nat → Nat} {pa tk cs pa' tk' cs' : Nat → Nat → Int32} {Q : Int32 → Mm → Nat → Prop} {R : Mm → Nat → Prop} {T : Mm → Prop} {f : Nat → Int32}
theorem hS_sw : hS (sw w b hd zn nm pa tk cs) b hd zn nm pa tk cs := fun _ hk => sw_at hk
theorem hS.self (h : hS w b hd zn nm pa tk cs) : w = sw w b hd zn nm pa tk cs := by
  funext q
  unfold sw
  by_cases hq : b ≤ q ∧ q < b + 63
  · rw [if_pos hq]
    have h1 := h (q - b) (by omega)
    rwa [show b + (q - b) = q by omega] at h1
  · rw [if_neg hq]
theorem hS.off (h : hS w c hd zn nm pa tk cs) (hbc : b + 63 ≤ c ∨ c + 63 ≤ b) : hS (sw w b hd' zn' nm' pa' tk' cs') c hd zn nm pa tk cs := fun k hk => by
  rw [sw_o (by omega)]
  exact h k hk
theorem hS.to {w' : Mm} (h : hS w c hd zn nm pa tk cs) (hw : ∀ q, c ≤ q → q < c + 63 → w' q = w q) : hS w' c hd zn nm pa tk cs := fun k hk => by
  rw [hw _ (by omega) (by omega)]
  exact h k hk
theorem hS.ms {a : Nat} {e : Ce} (h : hS w c hd zn nm pa tk cs) (ha : a < c ∨ c + 63 ≤ a) : hS (mset w a e) c hd zn nm pa tk cs := h.to fun q h1 h2 => mset_ne (by omega)
theorem hS.gH {k : Nat} (h : hS w b hd zn nm pa tk cs) (hk : k < 8) : fld w b 7 k = some (.int (hd k)) := by
  rw [h.self]
  exact s_getH hk
theorem hS.r8 (h : hS w b hd zn nm pa tk cs) : fld w b 7 8 = some (.ref (b + 1)) := by
  rw [h.self]
  exact s_r8
theorem hS.r9 (h : hS w b hd zn nm pa tk cs) : fld w b 7 9 = some (.ref (b + 2)) := by
  rw [h.self]
  exact s_r9
theorem hS.r10 (h : hS w b hd zn nm pa tk cs) : fld w b 7 10 = some (.ref (b + 3)) := by
  rw [h.self]
  exact s_r10
theorem hS.r11 (h : hS w b hd zn nm pa tk cs) : fld w b 7 11 = some (.ref (b + 4)) := by
  rw [h.self]
  exact s_r11
theorem hS.gz (h : hS w b hd zn nm pa tk cs) : arI w (b + 1) 0 = some (12, zn) := by
  rw [h.self]
  exact s_zn
theorem hS.aP (h : hS w b hd zn nm pa tk cs) {p : Int32} (hp : vp_in p 8) {P : Nat → Prop} (k : P (b + 5 + cl p)) : ∃ n f q, arR w (b + 2) 5 = some (n, f) ∧ vp_in p n ∧ f p.toNatClampNeg = some q ∧ P q := by
  rw [h.self]
  exact s_aP hp k
theorem hS.aT (h : hS w b hd zn nm pa tk cs) {p : Int32} (hp : vp_in p 30) {P : Nat → Prop} (k : P (b + 13 + cl p)) : ∃ n f q, arR w (b + 3) 6 = some (n, f) ∧ vp_in p n ∧ f p.toNatClampNeg = some q ∧ P q := by
  rw [h.self]
  exact s_aT hp k
theorem hS.aC (h : hS w b hd zn nm pa tk cs) {p : Int32} (hp : vp_in p 20) {P : Nat → Prop} (k : P (b + 43 + cl p)) : ∃ n f q, arR w (b + 4) 7 = some (n, f) ∧ vp_in p n ∧ f p.toNatClampNeg = some q ∧ P q := by
  rw [h.self]
  exact s_aC hp k
theorem hS.nm0 (h : hS w b hd zn nm pa tk cs) {i : Nat} (hi : i < 8) : fld w (b + 5 + i) 6 0 = some (.ref (nm i)) := by
  rw [h.self]
  exact s_nm hi
theorem hS.gP (h : hS w b hd zn nm pa tk cs) {i k : Nat} (hi : i < 8) (hk : k < 6) : fld w (b + 5 + i) 6 (k + 1) = some (.int (pa i (k + 1))) := by
  rw [h.self]
  exact s_getP hi hk
theorem hS.gT (h : hS w b hd zn nm pa tk cs) {i k : Nat} (hi : i < 30) (hk : k < 6) : fld w (b + 13 + i) 8 k = some (.int (tk i k)) := by
  rw [h.self]
  exact s_getT hi hk
theorem hS.gC (h : hS w b hd zn nm pa tk cs) {i k : Nat} (hi : i < 20) (hk : k < 7) : fld w (b + 43 + i) 4 k = some (.int (cs i k)) := by
  rw [h.self]
  exact s_getC hi hk
theorem nar_b {v : Int32} (h : v = 0 ∨ v = 1) : narrow .boolean (.int v) = .int v := by
  rcases h with rfl | rfl <;> decide
/-- rows are copied -/
theorem c_cpP {i : Nat} (h2 : ∀ nm pa, hS (sw w b hd zn nm pa tk cs) c hd' zn' nm' pa' tk' cs') (hi : i < 8) (hb : pa' i 6 = 0 ∨ pa' i 6 = 1)
    (hq : R (sw w b hd zn (updN nm i (nm' i)) (upd2 (upd2 (upd2 (upd2 (upd2 (upd2 (upd2 pa i 1 (pa' i 1)) i 2 (pa' i 2)) i 3 (pa' i 3)) i 4 (pa' i 4)) i 5 (pa' i 5)) i 6 0) i 6 (pa' i 6)) tk cs) z) : F_X2_copyFrom (b + 5 + i) (c + 5 + i) (sw w b hd zn nm pa tk cs) z R :=
  ⟨_, (h2 _ _).nm0 hi, s_putN hi ⟨_, (h2 _ _).gP (k := 0) hi (by omega), s_putP (k := 0) hi (by omega) ⟨_, (h2 _ _).gP (k := 1) hi (by omega), _, (h2 _ _).gP (k := 2) hi (by omega), _, (h2 _ _).gP (k := 3) hi (by omega), _, (h2 _ _).gP (k := 4) hi (by omega), s_iP hi,
    s_putP (k := 1) hi (by omega) (s_putP (k := 2) hi (by omega) (s_putP (k := 3) hi (by omega) (s_putP (k := 4) hi (by omega) (s_putP (k := 5) hi (by omega) ⟨_, (h2 _ _).gP (k := 5) hi (by omega), nar_b hb, s_putP (k := 5) hi (by omega) hq⟩))))⟩⟩⟩
theorem c_cpT {i : Nat} (h2 : ∀ tk, hS (sw w b hd zn nm pa tk cs) c hd' zn' nm' pa' tk' cs') (hi : i < 30)
    (hq : R (sw w b hd zn nm pa (upd2 (upd2 (upd2 (upd2 (upd2 (upd2 tk i 0 (tk' i 0)) i 1 (tk' i 1)) i 2 (tk' i 2)) i 3 (tk' i 3)) i 4 (tk' i 4)) i 5 (tk' i 5)) cs) z) : F_X4_copyFrom (b + 13 + i) (c + 13 + i) (sw w b hd zn nm pa tk cs) z R :=
  ⟨_, (h2 _).gT hi (by omega), s_putT hi (by omega) ⟨_, (h2 _).gT hi (by omega), s_putT hi (by omega) ⟨_, (h2 _).gT hi (by omega), s_putT hi (by omega) ⟨_, (h2 _).gT hi (by omega), s_putT hi (by omega) ⟨_, (h2 _).gT hi (by omega), s_putT hi (by omega) ⟨_, (h2 _).gT hi (by omega), s_putT hi (by omega) hq⟩⟩⟩⟩⟩⟩
theorem c_cpC {i : Nat} (h2 : ∀ cs, hS (sw w b hd zn nm pa tk cs) c hd' zn' nm' pa' tk' cs') (hi : i < 20)
    (hq : R (sw w b hd zn nm pa tk (upd2 (upd2 (upd2 (upd2 (upd2 (upd2 (upd2 cs i 0 (cs' i 0)) i 1 (cs' i 1)) i 2 (cs' i 2)) i 3 (cs' i 3)) i 4 (cs' i 4)) i 5 (cs' i 5)) i 6 (cs' i 6))) z) : F_X0_copyFrom (b + 43 + i) (c + 43 + i) (sw w b hd zn nm pa tk cs) z R :=
  ⟨_, (h2 _).gC hi (by omega), s_putC hi (by omega) ⟨_, (h2 _).gC hi (by omega), s_putC hi (by omega) ⟨_, (h2 _).gC hi (by omega), s_putC hi (by omega) ⟨_, (h2 _).gC hi (by omega), s_putC hi (by omega) ⟨_, (h2 _).gC hi (by omega), s_putC hi (by omega) ⟨_, (h2 _).gC hi (by omega), s_putC hi (by omega) ⟨_, (h2 _).gC hi (by omega), s_putC hi (by omega) hq⟩⟩⟩⟩⟩⟩⟩
theorem c_cp_143 (hB : Bd f) (hF : Rl hd' zn' pa' tk' cs' f) (h7 : hd 7 = f 4) (h2 : ∀ cs, hS (sw w b hd zn nm pa tk cs) c hd' zn' nm' pa' tk' cs') : ∀ (n : Nat) (cs : Nat → Nat → Int32) (i : Int32), (f 4).toInt = i.toInt + n → 0 ≤ i.toInt → (∀ k, k < cl i → RC (cs k) f (305 + 7 * k)) → (∀ cs1, (∀ k, k < cl (f 4) → RC (cs1 k) f (305 + 7 * k)) → R (sw w b hd zn nm pa tk cs1) z) → B_X3_copyFrom_143 b c R (n + 1) i (sw w b hd zn nm pa tk cs) z := by
  have hB4 := clI hB.2.2.2
  intro n
  induction n with
  | zero =>
    intro cs i h3 h4 hc hq
    unfold B_X3_copyFrom_143
    refine ⟨_, s_getH (by omega), fun _ => hq _ (fun k hk => hc k ?_), fun h => absurd (ile.mpr (by rw [h7]; omega)) h⟩
    have : cl i = i.toInt.toNat := rfl
    omega
  | succ n ih =>
    intro cs i h3 h4 hc hq
    unfold B_X3_copyFrom_143
    have hv : vp_in i 20 := vp_in_iff.mpr (by omega)
    have hi := clI hv
    have h5 := cl_succ hv (by omega)
    refine ⟨_, s_getH (by omega), fun h => absurd (ile.mp h) (by rw [h7]; omega), fun _ => ⟨_, s_r11, s_aC hv ⟨_, (h2 _).r11, (h2 _).aC hv ⟨s_iC hi.2, c_cpC h2 hi.2 (ih _ _ (by omega) (by omega) ?_ hq)⟩⟩⟩⟩
    intro k hk
    by_cases hki : k = cl i
    · subst hki
      have h := hF.2.2.2.2 (cl i) (by omega)
      unfold RC at h ⊢
      simp (disch := omega) only [upd2_eq, upd_ne, upd_eq]
      exact h
    · simp only [upd2_ne hki]
      exact hc k (by omega)
theorem c_cp_112 (hB : Bd f) (hF : Rl hd' zn' pa' tk' cs' f) (h6 : hd 6 = f 3) (h7 : hd 7 = f 4) (h2 : ∀ tk cs, hS (sw w b hd zn nm pa tk cs) c hd' zn' nm' pa' tk' cs') : ∀ (n : Nat) (tk : Nat → Nat → Int32) (i : Int32), (f 3).toInt = i.toInt + n → 0 ≤ i.toInt → (∀ k, k < cl i → RT (tk k) f (125 + 6 * k)) → (∀ tk1 cs1, (∀ k, k < cl (f 3) → RT (tk1 k) f (125 + 6 * k)) → (∀ k, k < cl (f 4) → RC (cs1 k) f (305 + 7 * k)) → R (sw w b hd zn nm pa tk1 cs1) z) → B_X3_copyFrom_112 b c R (n + 1) i (sw w b hd zn nm pa tk cs) z := by
  have hB3 := clI hB.2.2.1
  have hB4 := clI hB.2.2.2
  intro n
  induction n with
  | zero =>
    intro tk i h3 h4 hc hq
    unfold B_X3_copyFrom_112
    have hh : ∀ k, k < cl (f 3) → RT (tk k) f (125 + 6 * k) := fun k hk => hc k (by
      have : cl i = i.toInt.toNat := rfl
      omega)
    refine ⟨_, s_getH (by omega), fun _ => ⟨cl (f 4) + 1, c_cp_143 hB hF h7 (h2 tk) _ cs 0 (by rw [i_0]; omega) (by rw [i_0]; omega) (fun k hk => absurd hk (by rw [show cl 0 = 0 from cl0]; omega)) (fun cs1 h => hq _ _ hh h)⟩, fun h => absurd (ile.mpr (by rw [h6]; omega)) h⟩
  | succ n ih =>
    intro tk i h3 h4 hc hq
    unfold B_X3_copyFrom_112
    have hv : vp_in i 30 := vp_in_iff.mpr (by omega)
    have hi := clI hv
    have h5 := cl_succ hv (by omega)
    refine ⟨_, s_getH (by omega), fun h => absurd (ile.mp h) (by rw [h6]; omega), fun _ => ⟨_, s_r10, s_aT hv ⟨_, (h2 _ _).r10, (h2 _ _).aT hv ⟨s_iT hi.2, c_cpT (fun tk => h2 tk cs) hi.2 (ih _ _ (by omega) (by omega) ?_ hq)⟩⟩⟩⟩
    intro k hk
    by_cases hki : k = cl i
    · subst hki
      have h := hF.2.2.2.1 (cl i) (by omega)
      unfold RT at h ⊢
      simp (disch := omega) only [upd2_eq, upd_ne, upd_eq]
      exact h
    · simp only [upd2_ne hki]
      exact hc k (by omega)
/-- the inspected flags -/
def Fg (f : Nat → Int32) : Prop := ∀ p, p < cl (f 2) → f (21 + 13 * p + 5) = 0 ∨ f (21 + 13 * p + 5) = 1
theorem c_cp_81 (hB : Bd f) (hG : Fg f) (hF : Rl hd' zn' pa' tk' cs' f) (h5' : hd 5 = f 2) (h6 : hd 6 = f 3) (h7 : hd 7 = f 4) (h2 : ∀ nm pa tk cs, hS (sw w b hd zn nm pa tk cs) c hd' zn' nm' pa' tk' cs') : ∀ (n : Nat) (nm : Nat → Nat) (pa : Nat → Nat → Int32) (i : Int32), (f 2).toInt = i.toInt + n → 0 ≤ i.toInt → (∀ k, k < cl i → RP (pa k) f (21 + 13 * k) ∧ nm k = nm' k) → (∀ nm1 pa1 tk1 cs1, (∀ k, k < cl (f 2) → RP (pa1 k) f (21 + 13 * k) ∧ nm1 k = nm' k) → (∀ k, k < cl (f 3) → RT (tk1 k) f (125 + 6 * k)) → (∀ k, k < cl (f 4) → RC (cs1 k) f (305 + 7 * k)) → R (sw w b hd zn nm1 pa1 tk1 cs1) z) → B_X3_copyFrom_81 b c R (n + 1) i (sw w b hd zn nm pa tk cs) z := by
  have hB2 := clI hB.2.1
  have hB3 := clI hB.2.2.1
  intro n
  induction n with
  | zero =>
    intro nm pa i h3 h4 hc hq
    unfold B_X3_copyFrom_81
    have hh : ∀ k, k < cl (f 2) → RP (pa k) f (21 + 13 * k) ∧ nm k = nm' k := fun k hk => hc k (by
      have : cl i = i.toInt.toNat := rfl
      omega)
    refine ⟨_, s_getH (by omega), fun _ => ⟨cl (f 3) + 1, c_cp_112 hB hF h6 h7 (h2 nm pa) _ tk 0 (by rw [i_0]; omega) (by rw [i_0]; omega) (fun k hk => absurd hk (by rw [show cl 0 = 0 from cl0]; omega)) (fun tk1 cs1 h h' => hq _ _ _ _ hh h h')⟩, fun h => absurd (ile.mpr (by rw [h5']; omega)) h⟩
  | succ n ih =>
    intro nm pa i h3 h4 hc hq
    unfold B_X3_copyFrom_81
    have hv : vp_in i 8 := vp_in_iff.mpr (by omega)
    have hi := clI hv
    have h5 := cl_succ hv (by omega)
    have h := hF.2.2.1 (cl i) (by omega)
    refine ⟨_, s_getH (by omega), fun h => absurd (ile.mp h) (by rw [h5']; omega), fun _ => ⟨_, s_r9, s_aP hv ⟨_, (h2 _ _ _ _).r9, (h2 _ _ _ _).aP hv ⟨s_iP hi.2, c_cpP (fun nm pa => h2 nm pa tk cs) hi.2 (by rw [h.2.2.2.1]; exact hG _ (by omega)) (ih _ _ _ (by omega) (by omega) ?_ hq)⟩⟩⟩⟩
    intro k hk
    by_cases hki : k = cl i
    · subst hki
      rw [updN_eq]
      refine ⟨?_, rfl⟩
      unfold RP at h ⊢
      simp (disch := omega) only [upd2_eq, upd_ne, upd_eq]
      exact h
    · simp only [upd2_ne hki, updN_ne hki]
      exact hc k (by omega)
theorem va_cpy_at {f g : Nat → Int32} {j : Nat} (h : j < 12) : va_cpy f g 0 0 12 j = f j := by
  simp [va_cpy, h]
theorem sw_zn {g : Nat → Int32} : mset (sw w b hd zn nm pa tk cs) (b + 1) (.inr (0, 12, .inl g)) = sw w b hd g nm pa tk cs :=
  sw_put (k := 1) rfl (by omega) rfl (fun j hj0 hj => by
    unfold sh
    rw [if_neg hj, if_neg hj])
theorem c_copyFrom (hbc : b + 63 ≤ c ∨ c + 63 ≤ b) (hB : Bd f) (hG : Fg f) (hF : Rl hd' zn' pa' tk' cs' f) (h2 : hS (sw w b hd zn nm pa tk cs) c hd' zn' nm' pa' tk' cs')
    (hq : ∀ hd1 zn1 nm1 pa1 tk1 cs1, Rl hd1 zn1 pa1 tk1 cs1 f → (∀ k, k < cl (f 2) → nm1 k = nm' k) → R (sw w b hd1 zn1 nm1 pa1 tk1 cs1) z) : F_X3_copyFrom b c (sw w b hd zn nm pa tk cs) z R := by
  have hB1 := clI hB.1
  have hB2 := clI hB.2.1
  have h3 : ∀ hd zn nm pa tk cs, hS (sw w b hd zn nm pa tk cs) c hd' zn' nm' pa' tk' cs' := fun _ _ _ _ _ _ => h2.to fun q h4 h5 => by
    rw [sw_o (by omega), sw_o (by omega)]
  obtain ⟨⟨e0, e1, e2, e3, e4, e5, e6, e7⟩, hz, hP, hT, hC⟩ := hF
  refine ⟨_, (h3 _ _ _ _ _ _).gH (by omega), s_putH (by omega) ⟨_, (h3 _ _ _ _ _ _).gH (by omega), s_putH (by omega) ⟨_, (h3 _ _ _ _ _ _).gH (by omega), s_putH (by omega) ⟨_, (h3 _ _ _ _ _ _).gH (by omega), s_putH (by omega) ⟨_, (h3 _ _ _ _ _ _).gH (by omega), s_putH (by omega) ⟨_, (h3 _ _ _ _ _ _).gH (by omega), s_putH (by omega) ⟨_, (h3 _ _ _ _ _ _).gH (by omega), s_putH (by omega) ⟨_, (h3 _ _ _ _ _ _).gH (by omega), s_putH (by omega) ⟨_, (h3 _ _ _ _ _ _).r8, _, s_r8, _, _, _, _, (h3 _ _ _ _ _ _).gz, arW_c sw_1, by decide, by decide, by decide, by decide, by decide, ?_⟩⟩⟩⟩⟩⟩⟩⟩⟩
  rintro _ rfl
  rw [sw_zn]
  refine ⟨cl (f 2) + 1, c_cp_81 hB hG ⟨⟨e0, e1, e2, e3, e4, e5, e6, e7⟩, hz, hP, hT, hC⟩ ?_ ?_ ?_ (h3 _ _) _ nm pa 0 (by rw [i_0]; omega) (by rw [i_0]; omega) (fun k hk => absurd hk (by rw [show cl 0 = 0 from cl0]; omega)) (fun nm1 pa1 tk1 cs1 h h' h'' => hq _ _ _ _ _ _ ⟨?_, ?_, fun k hk => (h k hk).1, h', h''⟩ (fun k hk => (h k hk).2))⟩
  · simp (disch := omega) only [upd_ne, upd_eq, e5]
  · simp (disch := omega) only [upd_ne, upd_eq, e6]
  · simp (disch := omega) only [upd_ne, upd_eq, e7]
  · simp (disch := omega) only [upd_ne, upd_eq, e0, e1, e2, e3, e4, e5, e6, e7]
    trivial
  · intro i hi
    rw [show (0 : Int32).toNatClampNeg = 0 from cl0, show (12 : Int32).toNatClampNeg = 12 by decide, va_cpy_at (by omega), hz i hi]
theorem c_clear (hq : ∀ hd1, Rl hd1 zn pa tk cs (fun _ => 0) → R (sw w b hd1 zn nm pa tk cs) z) : F_X3_clear b (sw w b hd zn nm pa tk cs) z R := by
  refine s_putH (by omega) (s_putH (by omega) (s_putH (by omega) (s_putH (by omega) (s_putH (by omega) (s_putH (by omega) (s_putH (by omega) (s_putH (by omega) (hq _ ⟨?_, fun i hi => ?_, fun i hi => ?_, fun i hi => ?_, fun i hi => ?_⟩))))))))
  · simp (disch := omega) only [upd_ne, upd_eq]
    trivial
  · exact absurd hi (by rw [show cl 0 = 0 from cl0]; omega)
  · exact absurd hi (by rw [show cl 0 = 0 from cl0]; omega)
  · exact absurd hi (by rw [show cl 0 = 0 from cl0]; omega)
  · exact absurd hi (by rw [show cl 0 = 0 from cl0]; omega)
/-- a stop more -/
theorem c_addStop {x : Int32} (hB : Bd f) (hF : Rl hd zn pa tk cs f) (h1 : vp_in (f 1) 12) (hq : ∀ hd1 zn1, Rl hd1 zn1 pa tk cs (upd (upd f (9 + cl (f 1)) x) 1 (f 1 + 1)) → R (sw w b hd1 zn1 nm pa tk cs) z) : F_X3_addStop b x (sw w b hd zn nm pa tk cs) z R := by
  have hB2 := clI hB.2.1
  have hB3 := clI hB.2.2.1
  have c1 := clI h1
  have c2 := cl_succ h1 (by omega)
  have h1' := vp_in_iff.mp h1
  obtain ⟨⟨e0, e1, e2, e3, e4, e5, e6, e7⟩, hz, hP, hT, hC⟩ := hF
  have i12 : (12 : Int32).toInt = 12 := by decide
  refine ⟨_, s_getH (by omega), fun h => absurd (ile.mp h) (by rw [e4, i12]; omega), fun _ => ⟨_, s_r8, _, s_getH (by omega), s_putZ (by rw [e4]; exact h1) ⟨_, s_getH (by omega), s_putH (by omega) (hq _ _ ⟨?_, ?_, ?_, ?_, ?_⟩)⟩⟩⟩
  · simp (disch := omega) only [upd_ne, upd_eq, e0, e1, e2, e3, e4, e5, e6, e7]
    trivial
  · rw [upd_eq, c2.1, e4]
    intro i hi
    by_cases h : i = cl (f 1)
    · rw [h, upd_eq, upd_ne (by omega), upd_eq]
    · rw [upd_ne h, upd_ne (by omega), upd_ne (by omega), hz i (by omega)]
  · rw [upd_ne (by omega), upd_ne (by omega)]
    exact fun p hp => (hP p hp).to rfl (fun k _ => by rw [upd_ne (by omega), upd_ne (by omega)])
  · rw [upd_ne (by omega), upd_ne (by omega)]
    exact fun p hp => (hT p hp).to rfl (fun k _ => by rw [upd_ne (by omega), upd_ne (by omega)])
  · rw [upd_ne (by omega), upd_ne (by omega)]
    exact fun p hp => (hC p hp).to rfl (fun k _ => by rw [upd_ne (by omega), upd_ne (by omega)])
/-- a passenger more -/
theorem c_addPassenger {q : Nat} {x : Int32} {f' : Nat → Int32} (hB : Bd f) (hF : Rl hd zn pa tk cs f) (h1 : vp_in (f 2) 8) (g2 : f' 2 = f 2 + 1) (g8 : f' 8 = f 8 + x) (ga : f' (21 + 13 * cl (f 2)) = x) (gb : f' (21 + 13 * cl (f 2) + 3) = -1) (gc : f' (21 + 13 * cl (f 2) + 4) = -1) (gd : f' (21 + 13 * cl (f 2) + 5) = 0)
    (go : ∀ j, j ≠ 2 → j ≠ 8 → (j < 21 + 13 * cl (f 2) ∨ 21 + 13 * cl (f 2) + 13 ≤ j) → f' j = f j) (hq : ∀ hd1 pa1, Rl hd1 zn pa1 tk cs f' → R (sw w b hd1 zn (updN nm (cl (f 2)) q) pa1 tk cs) z) : F_X3_addPassenger b q x (sw w b hd zn nm pa tk cs) z R := by
  have hB1 := clI hB.1
  have hB3 := clI hB.2.2.1
  have c1 := clI h1
  have c2 := cl_succ h1 (by omega)
  have h1' := vp_in_iff.mp h1
  obtain ⟨⟨e0, e1, e2, e3, e4, e5, e6, e7⟩, hz, hP, hT, hC⟩ := hF
  have i8 : (8 : Int32).toInt = 8 := by decide
  have c3 : cl (hd 5) < 8 := by
    rw [e5]
    exact c1.2
  rw [← e5] at hq
  refine ⟨_, s_getH (by omega), fun h => absurd (ile.mp h) (by rw [e5, i8]; omega), fun _ => ⟨_, s_r9, _, s_getH (by omega), s_aP (by rw [e5]; exact h1) ⟨s_iP c3, s_putN c3 (s_putP (k := 0) c3 (by omega) ⟨s_iP c3, s_putP (k := 1) c3 (by omega) (s_putP (k := 2) c3 (by omega) (s_putP (k := 3) c3 (by omega) (s_putP (k := 4) c3 (by omega) (s_putP (k := 5) c3 (by omega) ⟨_, s_getH (by omega), s_putH (by omega) ⟨_, s_getH (by omega), s_putH (by omega) (hq _ _ ⟨?_, ?_, ?_, ?_, ?_⟩)⟩⟩))))⟩)⟩⟩⟩
  · rw [g2, g8, go 0 (by omega) (by omega) (by omega), go 1 (by omega) (by omega) (by omega), go 3 (by omega) (by omega) (by omega), go 4 (by omega) (by omega) (by omega), go 6 (by omega) (by omega) (by omega), go 7 (by omega) (by omega) (by omega)]
    simp (disch := omega) only [upd_ne, upd_eq, e0, e1, e2, e3, e4, e5, e6, e7]
    trivial
  · rw [go 1 (by omega) (by omega) (by omega)]
    exact fun i hi => by rw [go _ (by omega) (by omega) (by omega), hz i hi]
  · rw [g2, c2.1, e5]
    intro p hp
    by_cases h : p = cl (f 2)
    · rw [h]
      unfold RP
      rw [ga, gb, gc, gd]
      simp (disch := omega) only [upd2_eq, upd_ne, upd_eq]
      exact ⟨trivial, trivial, trivial, trivial, fun _ => trivial, fun h => absurd trivial h⟩
    · simp only [upd2_ne h]
      exact (hP p (by omega)).to rfl (fun k _ => go _ (by omega) (by omega) (by omega))
  · rw [go 3 (by omega) (by omega) (by omega)]
    exact fun p hp => (hT p hp).to rfl (fun k _ => go _ (by omega) (by omega) (by omega))
  · rw [go 4 (by omega) (by omega) (by omega)]
    exact fun p hp => (hC p hp).to rfl (fun k _ => go _ (by omega) (by omega) (by omega))
end
