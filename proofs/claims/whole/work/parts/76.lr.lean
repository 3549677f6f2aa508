/-! load and play: the reference -/
section
variable {w : Mm} {m z L i : Nat} {g g0 a f f' : Nat → Int32} {A A0 : Nat → Nat → Int32} {Q : Int32 → Mm → Nat → Prop} {R : Mm → Nat → Prop} {T : Mm → Prop} {c o : Int32}
theorem M_starts (hL : L ≤ 700) (h9 : g 9 = nI L)
    (hq : ∀ g', g' 5 = g 5 → g' 9 = g 9 → g' 10 = g 10 → RK g' (A 6) L 0 → R (rwd w m g' (updA A 4 (va_cpy (A 1) (A 4) 0 0 445))) z) : F_X6_starts m (rwd w m g A) z R := by
  refine R_p6 (R_p17 (R_p19 (R_p11 (R_p12 ⟨_, R_r0, _, R_r3, R_copy4 (sp := 0) (dp := 0) R_a1 (by decide) (by decide) (by rw [show cl (0 : Int32) = 0 from cl0]; omega) (by rw [show cl (0 : Int32) = 0 from cl0]; omega) ⟨R_i, ?_⟩⟩))))
  rw [show cl (0 : Int32) = 0 from cl0]
  refine R_next (L := L) (i := 0) hL (by omega) (by rw [upd_ne (by omega), upd_ne (by omega), upd_ne (by omega), upd_ne (by omega), upd_ne (by omega), h9]) (by rw [upd_ne (by omega), upd_ne (by omega), upd_ne (by omega), upd_eq]; rfl) (fun g' e1 e2 e3 e4 e5 => hq g' ?_ ?_ ?_ ⟨by omega, ?_, ?_, ?_, ?_, ?_, ?_, ?_, ?_⟩)
  · rw [e1 5 (by omega) (by omega) (by omega) (by omega), upd_ne (by omega), upd_ne (by omega), upd_ne (by omega), upd_ne (by omega), upd_ne (by omega)]
  · rw [e1 9 (by omega) (by omega) (by omega) (by omega), upd_ne (by omega), upd_ne (by omega), upd_ne (by omega), upd_ne (by omega), upd_ne (by omega)]
  · rw [e1 10 (by omega) (by omega) (by omega) (by omega), upd_ne (by omega), upd_ne (by omega), upd_ne (by omega), upd_ne (by omega), upd_ne (by omega)]
  · rw [e1 9 (by omega) (by omega) (by omega) (by omega), upd_ne (by omega), upd_ne (by omega), upd_ne (by omega), upd_ne (by omega), upd_ne (by omega), h9]
  · rw [e1 19 (by omega) (by omega) (by omega) (by omega), upd_ne (by omega), upd_ne (by omega), upd_eq]
  · rw [e1 11 (by omega) (by omega) (by omega) (by omega), upd_ne (by omega), upd_eq]
  · rw [e1 12 (by omega) (by omega) (by omega) (by omega), upd_eq]
  · rw [e2, updA_ne (by omega)]
  · rw [e3, updA_ne (by omega)]
  · rw [e4, updA_ne (by omega)]
  · rw [updA_ne (by omega)] at e5
    exact e5
theorem M_26ok {v : Int32} (hM : RM g0 A0 a f L i g A) (h5 : vp_in (g0 5) 9)
    (hq : ∀ g', g' 5 = remG g0 5 → g' 9 = 0 → g' 10 = g0 10 → g' 11 = 0 → g' 12 = -1 → Q v (rwd w m g' (remA (upd g 9 0) A (A 4))) z) : B_X6_commands_26 m Q v (rwd w m g A) z := by
  have k5 : g 5 = g0 5 := hM.2.1.1
  have hg : ∀ k, k ≠ 5 → remG (upd g 9 0) k = upd g 9 0 k := fun k hk => by
    unfold remG
    split
    · rw [upd_ne hk, upd_ne hk]
    · rw [upd_ne hk]
  refine R_p9 ⟨_, R_g19, fun _ => ⟨_, R_r3, R_i, R_remember (f1 := A 4) (fun g A' _ h4 => by rw [← h4]; exact R_a4) (by rw [upd_ne (by omega), k5]; exact h5) ⟨_, R_g19, fun _ => hq _ ?_ ?_ ?_ ?_ ?_, fun hh => absurd ?_ hh⟩⟩, fun hh => absurd ((upd_ne (by omega)).trans hM.n19) hh⟩
  · unfold remG
    rw [upd_ne (by omega), k5]
    split
    · rw [upd_eq, upd_eq]
    · rw [upd_eq, upd_eq]
  · rw [hg 9 (by omega), upd_eq]
  · rw [hg 10 (by omega), upd_ne (by omega)]
    exact hM.2.1.2.2.2
  · rw [hg 11 (by omega), upd_ne (by omega)]
    exact hM.1.2.2.2.1
  · rw [hg 12 (by omega), upd_ne (by omega)]
    exact hM.1.2.2.2.2.1
  · rw [hg 19 (by omega), upd_ne (by omega)]
    exact hM.n19
theorem M_26er {v : Int32} (hX : RX g0 A0 L c o g A)
    (hq : ∀ g', g' 5 = g0 5 → g' 9 = 0 → g' 10 = g0 10 → g' 11 = c → g' 12 = o → Q (-1) (rwd w m g' (updA A 1 (va_cpy (A 4) (A 1) 0 0 445))) z) : B_X6_commands_26 m Q v (rwd w m g A) z := by
  refine R_p9 ⟨_, R_g19, fun hh => absurd ((upd_ne (by omega)).symm.trans hh) hX.ne, fun _ => ⟨_, R_r3, _, R_r0, R_copy1 (sp := 0) (dp := 0) R_a4 (by decide) (by decide) (by rw [show cl (0 : Int32) = 0 from cl0]; omega) (by rw [show cl (0 : Int32) = 0 from cl0]; omega) ⟨_, R_g19, fun hh => absurd ((upd_ne (by omega)).symm.trans hh) hX.ne, fun _ => ?_⟩⟩⟩
  rw [show cl (0 : Int32) = 0 from cl0]
  refine hq _ ?_ (upd_eq _ _ _) ?_ ?_ ?_
  · rw [upd_ne (by omega)]
    exact hX.2.1.1
  · rw [upd_ne (by omega)]
    exact hX.2.1.2.2.2
  · rw [upd_ne (by omega)]
    exact hX.1.2.2.1
  · rw [upd_ne (by omega)]
    exact hX.1.2.2.2.1
/-- the reference's numbers behind a parse that went well, and behind one that didn't -/
def MOk (g0 : Nat → Int32) (A0 : Nat → Nat → Int32) (f' : Nat → Int32) (g : Nat → Int32) (A : Nat → Nat → Int32) : Prop := g 5 = remG g0 5 ∧ g 9 = 0 ∧ g 10 = g0 10 ∧ g 11 = 0 ∧ g 12 = -1 ∧ A 1 = f' ∧ A 2 = remA g0 A0 (A0 1) 2 ∧ A 3 = A0 3 ∧ A 5 = A0 5 ∧ A 7 = A0 7
def MEr (g0 : Nat → Int32) (A0 : Nat → Nat → Int32) (c o : Int32) (g : Nat → Int32) (A : Nat → Nat → Int32) : Prop := g 5 = g0 5 ∧ g 9 = 0 ∧ g 10 = g0 10 ∧ g 11 = c ∧ g 12 = o ∧ (∀ j, j < 445 → A 1 j = A0 1 j) ∧ A 2 = A0 2 ∧ A 3 = A0 3 ∧ A 5 = A0 5 ∧ A 7 = A0 7
theorem remA_cpy {gA gB : Nat → Int32} {A B : Nat → Nat → Int32} {u v : Nat → Int32} (h5 : gA 5 = gB 5) (h2 : A 2 = B 2) : remA gA A (va_cpy u v 0 0 445) 2 = remA gB B u 2 := by
  unfold remA
  rw [h5, h2]
  split
  · rw [updA_eq, updA_eq, cpy_cpy]
  · rw [updA_eq, updA_eq, cpy_cpy]
theorem M_end {g1 : Nat → Int32} {A1 : Nat → Nat → Int32} {K : Nat × (Nat → Int32) → Prop} {E : Int32 × Int32 → Prop} (h5 : vp_in (g 5) 9) (e5 : g1 5 = g 5) (e10 : g1 10 = g 10) (e4 : A1 4 = va_cpy (A 1) (A 4) 0 0 445) (e2 : A1 2 = A 2) (e3 : A1 3 = A 3) (eb5 : A1 5 = A 5) (e7 : A1 7 = A 7)
    (hok : ∀ n f', K (n, f') → ∀ g' A', MOk g A f' g' A' → Q (nI n) (rwd w m g' A') z)
    (her : ∀ c o, E (c, o) → ∀ g' A', MEr g A c o g' A' → Q (-1) (rwd w m g' A') z) :
    (∀ n f' i, K (n, f') → ∀ g' A', n ≤ 700 → RM g1 A1 a f' L i g' A' → B_X6_commands_26 m Q (nI n) (rwd w m g' A') z) ∧ (∀ c o, E (c, o) → ∀ g' A' v, RX g1 A1 L c o g' A' → B_X6_commands_26 m Q v (rwd w m g' A') z) := by
  refine ⟨fun n f' i hK g2 A2 hn hM => M_26ok hM (by rw [e5]; exact h5) (fun g3 k5 k9 k10 k11 k12 => hok n f' hK g3 _ ⟨?_, k9, k10.trans e10, k11, k12, ?_, ?_, ?_, ?_, ?_⟩), fun c o he g2 A2 v hX => M_26er hX (fun g3 k5 k9 k10 k11 k12 => her c o he g3 _ ⟨k5.trans e5, k9, k10.trans e10, k11, k12, fun j hj => ?_, ?_, ?_, ?_, ?_⟩)⟩
  · rw [k5]
    unfold remG
    rw [e5]
    split
    · rw [upd_eq, upd_eq]
    · rw [upd_eq, upd_eq]
  · rw [remA_k (by omega)]
    exact hM.2.2.2.2
  · have a4 : A2 4 = va_cpy (A 1) (A 4) 0 0 445 := (hM.2.2.1 4 (by omega) (by omega)).trans e4
    rw [a4]
    exact remA_cpy ((upd_ne (by omega)).trans (hM.2.1.1.trans e5)) ((hM.2.2.1 2 (by omega) (by omega)).trans e2)
  · rw [remA_k (by omega)]
    exact (hM.2.2.1 3 (by omega) (by omega)).trans e3
  · rw [remA_k (by omega)]
    exact (hM.2.2.1 5 (by omega) (by omega)).trans eb5
  · rw [remA_k (by omega)]
    exact (hM.2.2.1 7 (by omega) (by omega)).trans e7
  · rw [updA_eq, va_cpy_in (by omega) (by omega), (hX.2.2 4 (by omega) (by omega)).trans e4, va_cpy_in (by omega) (by omega)]
    congr 1
    omega
  · rw [updA_ne (by omega)]
    exact (hX.2.2 2 (by omega) (by omega)).trans e2
  · rw [updA_ne (by omega)]
    exact (hX.2.2 3 (by omega) (by omega)).trans e3
  · rw [updA_ne (by omega)]
    exact (hX.2.2 5 (by omega) (by omega)).trans eb5
  · rw [updA_ne (by omega)]
    exact (hX.2.2 7 (by omega) (by omega)).trans e7
theorem M_play {K : Nat × (Nat → Int32) → Prop} {E : Int32 × Int32 → Prop} (hL : L ≤ 700) (h9 : g 9 = nI L) (h5 : vp_in (g 5) 9) (hI : Inv (A 1)) (H : Out (sCmds (A 6) L (L + 1) (A 1) 0 0) K E)
    (hok : ∀ n f', K (n, f') → ∀ g' A', MOk g A f' g' A' → Q (nI n) (rwd w m g' A') z)
    (her : ∀ c o, E (c, o) → ∀ g' A', MEr g A c o g' A' → Q (-1) (rwd w m g' A') z) : F_X6_play m (rwd w m g A) z Q := by
  refine ⟨R_i, M_starts hL h9 (fun g1 k5 k9 k10 hk => ⟨R_i, L + 1 + 1, ?_⟩)⟩
  have hE := M_end (w := w) (m := m) (z := z) (a := A 6) (L := L) (g1 := g1) (A1 := updA A 4 (va_cpy (A 1) (A 4) 0 0 445)) (Q := Q) (K := K) (E := E) h5 k5 k10 (updA_eq _ _ _) (updA_ne (by omega)) (updA_ne (by omega)) (updA_ne (by omega)) (updA_ne (by omega)) hok her
  exact M_cmds (g0 := g1) (A0 := updA A 4 (va_cpy (A 1) (A 4) 0 0 445)) hL hE.1 hE.2 (L + 1) 0 0 (A 1) g1 _ (by omega) (Nat.le_refl _) ⟨hk, sQ.rfl, fun _ _ _ => rfl, updA_ne (by omega), updA_ne (by omega)⟩ hI H
theorem M_41E (hX : RX g0 A0 L c o g A) (hq : B_X6_load_64 m Q (rwd w m g A) z) : B_X6_load_41 m Q 1 (rwd w m g A) z := by
  unfold B_X6_load_41
  exact ⟨_, R_g19, fun _ => hq, fun hh => absurd hh hX.ne⟩
theorem M_64E (hX : RX g0 A0 L c o g A) (hq : B_X6_commands_26 m (fun r2 w3 z4 => (¬ r2 = (-1) → ∃ q6, fld w3 m 10 0 = some (.ref (q6)) ∧ ∃ n8 f7, arI w3 q6 0 = some (n8, f7) ∧ vp_in 2 n8 ∧ Q ((f7 (2 : Int32).toNatClampNeg)) w3 z4) ∧ (r2 = (-1) → Q (-1) w3 z4)) 0 (rwd w m g A) z) : B_X6_load_64 m Q (rwd w m g A) z := by
  refine ⟨R_i, 1, ?_⟩
  unfold B_X6_commands_2
  exact ⟨_, R_g19, fun _ => hq, fun hh => absurd hh hX.ne⟩
theorem M_41 {K : Nat × (Nat → Int32) → Prop} {E : Int32 × Int32 → Prop} (hL : L ≤ 700)
    (hok : ∀ j f', K (j, f') → Inv f' → ∀ g' A', RM g0 A0 a f' L j g' A' → B_X6_load_64 m Q (rwd w m g' A') z)
    (her : ∀ c o, E (c, o) → ∀ g' A', RX g0 A0 L c o g' A' → B_X6_load_64 m Q (rwd w m g' A') z) : ∀ (n i : Nat) (f g : Nat → Int32) (A : Nat → Nat → Int32), 9 ≤ cl (f 2) + n → RM g0 A0 a f L i g A → Inv f → Zr f → Out (sPs a L n f i) K E → B_X6_load_41 m Q (n + 1) (rwd w m g A) z := by
  intro n
  induction n with
  | zero =>
    intro i f g A hk hM hI hZ H
    have hB := clI hI.2.1.2.1
    omega
  | succ n ih =>
    intro i f g A hk hM hI hZ H
    rw [sPs] at H
    unfold B_X6_load_41
    refine ⟨_, R_g19, fun hh => absurd hM.n19 hh, fun _ => fun q l => ⟨R_i, M_is (by decide) (chr_lit _ (by decide)) hL hM l ?_⟩⟩
    by_cases hw : wIs a L i lit_5.length (fun j => lit_5.getD j 0) = true
    · rw [if_pos hw]
      have H := (H.if1 hw).eb
      refine ⟨fun hh => absurd hh (by decide), fun _ => ⟨R_i, M_pass hL hM hI hZ H (fun j f' hj b1 b2 b3 b4 g' A' hM' => ?_) (fun c o he g' A' hX => ?_)⟩⟩
      · have c2 := cl_succ b4 (by omega)
        exact ih j f' g' A' (by rw [b3, c2.1]; omega) hM' b1 b2 hj
      · unfold B_X6_load_41
        exact ⟨_, R_g19, fun _ => her c o he g' A' hX, fun hh => absurd hh hX.ne⟩
    · rw [if_neg hw]
      exact ⟨fun _ => hok i f (H.if0 hw) hI g A hM, fun hh => absurd rfl hh⟩
theorem clr_succ {r : Nat → Int32} {k : Nat} : upd (clr r k) k 0 = clr r (k + 1) := by
  funext j
  unfold clr
  by_cases h : j = k
  · rw [h, upd_eq, if_pos (by omega)]
  · rw [upd_ne h]
    by_cases h2 : j < k
    · rw [if_pos h2, if_pos (by omega)]
    · rw [if_neg h2, if_neg (by omega)]
theorem M_6 {r : Nat → Int32} (hq : ∀ A', (∀ k, k ≠ 1 → A' k = A k) → A' 1 = clr r 445 → isO (rwd w m g A') m 10 ∧ F_X6_lineTold m (rwd w m g A') z (fun w24 z25 => ∃ v26, fld w24 m 10 19 = some (.int (v26)) ∧ (¬ v26 = 0 → ∃ n, B_X6_load_41 m Q n w24 z25) ∧ (v26 = 0 → isO w24 m 10 ∧ F_X6_passengerTold m w24 z25 (fun w30 z31 => ∃ n, B_X6_load_41 m Q n w30 z31)))) : ∀ (n k : Nat) (A1 : Nat → Nat → Int32), k + n = 445 → (∀ k, k ≠ 1 → A1 k = A k) → A1 1 = clr r k → B_X6_load_6 m Q (n + 1) (nI k) (rwd w m g A1) z := by
  have i445' : (445 : Int32) = nI 445 := rfl
  intro n
  induction n with
  | zero =>
    intro k A1 hk hA h1
    unfold B_X6_load_6
    exact ⟨fun _ => hq A1 hA (by rw [h1, show k = 445 by omega]), fun hh => absurd (by rw [i445', nIle (by omega) (by omega)]; omega) hh⟩
  | succ n ih =>
    intro k A1 hk hA h1
    unfold B_X6_load_6
    refine ⟨fun hh => absurd hh (by rw [i445', nIle (by omega) (by omega)]; omega), fun _ => ⟨_, R_r0, _, _, R_w1, nIin (by omega) (by omega), ?_⟩⟩
    rintro _ rfl
    rw [nI_cl (by omega), R_s1, nIs (by omega), h1, clr_succ]
    exact ih (k + 1) _ (by omega) (fun q hq => (updA_ne hq).trans (hA q hq)) (updA_eq _ _ _)
theorem M_load {K : Nat × (Nat → Int32) → Prop} {E : Int32 × Int32 → Prop} (hL : L ≤ 700) (h9 : g 9 = nI L) (h5 : vp_in (g 5) 9) (H : Out (sLoad (A 6) L (clr (A 1) 445)) K E)
    (hok : ∀ n f', K (n, f') → ∀ g' A', MOk g A f' g' A' → Q (f' 2) (rwd w m g' A') z)
    (her : ∀ c o, E (c, o) → ∀ g' A', MEr g A c o g' A' → Q (-1) (rwd w m g' A') z) : F_X6_load m (rwd w m g A) z Q := by
  have H1 := H.eb.eq
  refine ⟨R_i, M_starts hL h9 (fun g1 k5 k9 k10 hk => ⟨446, ?_⟩)⟩
  have hq2 : ∀ n f', K (n, f') → ∀ g' A', n ≤ 700 → MOk g A f' g' A' → (¬ nI n = (-1) → ∃ q6, fld (rwd w m g' A') m 10 0 = some (.ref (q6)) ∧ ∃ n8 f7, arI (rwd w m g' A') q6 0 = some (n8, f7) ∧ vp_in 2 n8 ∧ Q ((f7 (2 : Int32).toNatClampNeg)) (rwd w m g' A') z) ∧ (nI n = (-1) → Q (-1) (rwd w m g' A') z) := fun n f' hK g' A' hn hM => ⟨fun _ => ⟨_, R_r0, _, _, R_a1, vl2, by rw [cl2, hM.2.2.2.2.2.1]; exact hok n f' hK g' A' hM⟩, fun hh => absurd (ieq.mp hh) (by rw [nI_toInt (by omega), i_m1]; omega)⟩
  have hE := M_end (w := w) (m := m) (z := z) (a := A 6) (L := L) (g1 := g1) (A1 := updA A 4 (va_cpy (A 1) (A 4) 0 0 445)) (Q := fun r2 w3 z4 => (¬ r2 = (-1) → ∃ q6, fld w3 m 10 0 = some (.ref (q6)) ∧ ∃ n8 f7, arI w3 q6 0 = some (n8, f7) ∧ vp_in 2 n8 ∧ Q ((f7 (2 : Int32).toNatClampNeg)) w3 z4) ∧ (r2 = (-1) → Q (-1) w3 z4)) (K := fun r => K r ∧ r.1 ≤ 700) (E := E) h5 k5 k10 (updA_eq _ _ _) (updA_ne (by omega)) (updA_ne (by omega)) (updA_ne (by omega)) (updA_ne (by omega)) (fun n f' hK g' A' hM => hq2 n f' hK.1 g' A' hK.2 hM) (fun c o he g' A' hM => ⟨fun hh => absurd rfl hh, fun _ => her c o he g' A' hM⟩)
  have e64 : ∀ c o, E (c, o) → ∀ g' A', RX g1 (updA A 4 (va_cpy (A 1) (A 4) 0 0 445)) L c o g' A' → B_X6_load_64 m Q (rwd w m g' A') z := fun c o he g' A' hX => M_64E hX (hE.2 c o he g' A' 0 hX)
  refine M_6 (A := updA A 4 (va_cpy (A 1) (A 4) 0 0 445)) (r := A 1) (fun A2 a1 a2 => ⟨R_i, ?_⟩) 445 0 _ (by omega) (fun _ _ => rfl) (by rw [updA_ne (by omega)]; funext j; exact (if_neg (by omega)).symm)
  have hM : RM g1 (updA A 4 (va_cpy (A 1) (A 4) 0 0 445)) (A 6) (clr (A 1) 445) L 0 g1 A2 := ⟨hk, sQ.rfl, fun k h1 _ => a1 k h1, (a1 6 (by omega)).trans (updA_ne (by omega)), a2⟩
  refine M_line hL hM InvC ZrC (clr_lt (by omega)) H1 (fun j f1 hj b1 b2 g2 A3 h2 => ⟨_, R_g19, fun hh => absurd h2.n19 hh, fun _ => ⟨R_i, ?_⟩⟩) (fun c o he g2 A3 hX => ⟨_, R_g19, fun _ => ⟨1, M_41E hX (e64 c o he g2 A3 hX)⟩, fun hh => absurd hh hX.ne⟩)
  have f2z : f1 2 = 0 := (sLine_2 (by rw [clr_lt (by omega)]; exact in_nI (k := 0) (by decide) (by decide)) hj.2).trans (clr_lt (by omega))
  have H2 := hj.1.eb.eb
  refine M_pass hL h2 b1 b2 H2 (fun j2 f2 hj2 d1 d2 d3 d4 g3 A4 h3 => ⟨9, ?_⟩) (fun c o he g3 A4 hX => ⟨1, M_41E hX (e64 c o he g3 A4 hX)⟩)
  refine M_41 hL (fun j3 f3 hj3 c1 g4 A5 h4 => ⟨R_i, L + 1 + 1, ?_⟩) e64 8 j2 f2 g3 A4 (by rw [d3, f2z]; decide) h3 d1 d2 hj2
  exact M_cmds (K := K) (E := E) hL (fun n f' i hK g' A' hn hM => hE.1 n f' i ⟨hK, hn⟩ g' A' hn hM) hE.2 (L + 1) j3 0 f3 g4 A5 (by omega) (by omega) h4 c1 hj3
end
