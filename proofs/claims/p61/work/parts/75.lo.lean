/-! load and play: the class -/
def HP (w : Mm) (x : Nat) (h tx : Nat → Int32) : Prop := w (x + 130) = some (true, ph (x + 130) (x + 64) h tx 0) ∧ w (x + 131) = some (true, ph (x + 130) (x + 64) h tx 1)
def clr (r : Nat → Int32) (k : Nat) : Nat → Int32 := fun j => if j < k then 0 else r j
def FrL (x z : Nat) (w w' : Mm) : Prop := ∀ q, q < z → ¬ (x ≤ q ∧ q < x + 132) → ¬ (x + 134 ≤ q ∧ q < x + 764) → w' q = w q
def sLoad (a : Nat → Int32) (L : Nat) (f : Nat → Int32) : Except (Int32 × Int32) (Nat × (Nat → Int32)) :=
  eb (sLine a L f 0) fun r => eb (eb (sPass a L r.2 r.1) fun r => sPs a L 8 r.2 r.1) fun r => sCmds a L (L + 1) r.2 r.1 0
theorem Inv0 : Inv (fun _ => 0) := by
  refine ⟨⟨by decide, by decide⟩, ⟨in_nI (k := 0) (by decide) (by decide), in_nI (k := 0) (by decide) (by decide), in_nI (k := 0) (by decide) (by decide), in_nI (k := 0) (by decide) (by decide)⟩, fun i hi => ?_, fun i hi => ?_, fun i hi => ?_, fun i hi => ?_, rfl⟩ <;> exact absurd hi (by rw [show cl (0 : Int32) = 0 from cl0]; omega)
theorem clr_lt {r : Nat → Int32} {j : Nat} (h : j < 445) : clr r 445 j = 0 := if_pos h
theorem InvC {r : Nat → Int32} : Inv (clr r 445) := Inv0.ext (fun j hj => clr_lt hj)
theorem ZrC {r : Nat → Int32} : Zr (clr r 445) := ⟨rfl, rfl, rfl, fun j _ h => clr_lt (by omega)⟩
section
variable {w w' w'' : Mm} {x z z' m L t cap : Nat} {l : List Int32} {Q : Int32 → Mm → Nat → Prop} {R : Mm → Nat → Prop} {T : Mm → Prop} {f f' a h tx : Nat → Int32} {Fz Fz' : Nat → Prop} {g g' : Nat → Int32} {A A' : Nat → Nat → Int32} {c o : Int32}
theorem sZones_2 {a : Nat → Int32} {L : Nat} : ∀ (n : Nat) {f f' : Nat → Int32} {i j : Nat}, vp_in (f 1) 13 → sZones a L n f i = .ok (j, f') → f' 2 = f 2 := by
  intro n
  induction n with
  | zero =>
    intro f f' i j _ hr
    rw [sZones] at hr
    injection hr with hr
    injection hr with h1 h2
    rw [h2]
  | succ n ih =>
    intro f f' i j h13 hr
    rw [sZones] at hr
    split at hr
    · obtain ⟨⟨j1, f1⟩, h1, h2⟩ := eb_ok hr
      obtain ⟨⟨v, j0⟩, h3, h4⟩ := eb_ok h1
      dsimp only at h4
      split at h4
      · exact absurd h4 (by intro hh; injection hh)
      · rename_i h12
        injection h4 with h4
        injection h4 with h5 h6
        have e2 : f1 2 = f 2 := by
          rw [← h6]
          unfold addStopF
          rw [upd_ne (by omega), upd_ne (by omega)]
        have v12 : vp_in (f 1) 12 := by
          have c1 := vp_in_iff.mp h13
          have c2 : ¬ (f 1).toInt = (12 : Int32).toInt := fun hh => h12 (ieq.mpr hh)
          rw [show (12 : Int32).toInt = 12 by decide] at c2
          exact vp_in_iff.mpr (by omega)
        have e1 : vp_in (f1 1) 13 := by
          rw [← h6]
          have e : addStopF f v 1 = f 1 + 1 := upd_eq _ _ _
          rw [e]
          have c1 := cl_succ v12 (by omega)
          have c2 := vp_in_iff.mp v12
          exact vp_in_iff.mpr (by omega)
        rw [ih e1 h2, e2]
    · injection hr with hr
      injection hr with h1 h2
      rw [h2]
theorem sLine_2 {a f f' : Nat → Int32} {L i j : Nat} (h : vp_in (f 1) 13) (hr : sLine a L f i = .ok (j, f')) : f' 2 = f 2 := by
  obtain ⟨j1, h1, hr⟩ := eb_ok hr
  obtain ⟨⟨j2, f2⟩, h2, hr⟩ := eb_ok hr
  obtain ⟨j3, h3, hr⟩ := eb_ok hr
  injection hr with hr
  injection hr with h4 h5
  rw [← h5]
  exact sZones_2 14 h h2
theorem HP.wq (h0 : HP w x h tx) : w = pw w (x + 130) (x + 64) h tx := by
  funext q
  unfold pw
  by_cases hq : x + 130 ≤ q ∧ q < x + 130 + 2
  · rw [if_pos hq]
    rcases (by omega : q = x + 130 ∨ q = x + 131) with rfl | rfl
    · rw [h0.1, Nat.sub_self]
    · rw [h0.2, show x + 131 - (x + 130) = 1 by omega]
  · rw [if_neg hq]
theorem HP.of : HP (pw w (x + 130) (x + 64) h tx) x h tx := ⟨pw_at (k := 0) (by omega), pw_at (k := 1) (by omega)⟩
theorem HP.to (h0 : HP w x h tx) (h1 : w' (x + 130) = w (x + 130)) (h2 : w' (x + 131) = w (x + 131)) : HP w' x h tx := ⟨h1.trans h0.1, h2.trans h0.2⟩
theorem CS.to2 (h : CS w x Fz g A) (hw : ∀ q, (x ≤ q ∧ q < x + 64) ∨ (x + 127 ≤ q ∧ q < x + 130) ∨ (x + 134 ≤ q ∧ q < x + 764) ∨ Fz q → w' q = w q) (hF : ∀ q, Fz q → Fz' q) (h6 : HasA w' (x + 64)) : CS w' x Fz' g A := by
  obtain ⟨a1, a2, a3, a4, a5, a6⟩ := h
  have c2 := clI a2
  refine ⟨by unfold XO; rw [hw _ (by omega)]; exact a1, a2, a3.to (a' := A 2) (by omega) (fun q hq => ?_) hF (fun _ _ => rfl), a4.to (fun q hq => ?_) hF, ⟨a5.1.to (fun q hq => ?_) hF, a5.2⟩, h6⟩
  · rcases hq with hq | hq | hq
    · exact hw q (by omega)
    · exact hw q (by omega)
    · exact hw q (Or.inr (Or.inr (Or.inr hq)))
  · rcases hq with hq | hq | hq | hq
    · exact hw q (by omega)
    · exact hw q (by omega)
    · exact hw q (by omega)
    · exact hw q (Or.inr (Or.inr (Or.inr hq)))
  · rcases hq with hq | hq
    · exact hw q (by omega)
    · exact hw q (Or.inr (Or.inr (Or.inr hq)))
theorem CS.cong (h : CS w x Fz g A) (h5 : g' 5 = g 5) (e1 : ∀ j, j < 445 → A' 1 j = A 1 j) (e2 : A' 2 = A 2) (e3 : A' 3 = A 3) (e5 : A' 5 = A 5) : CS w x Fz g' A' := by
  obtain ⟨a1, a2, a3, a4, a5, a6⟩ := h
  unfold CS
  rw [h5, e2, e3, e5]
  exact ⟨a1, a2, a3, a4, ⟨a5.1.ext a5.2 e1, a5.2.ext e1⟩, a6⟩
theorem cpy_cpy (u v y : Nat → Int32) (D : Nat) : va_cpy (va_cpy u v 0 0 445) y 0 D 445 = va_cpy u y 0 D 445 := by
  funext j
  by_cases hj : D ≤ j ∧ j < D + 445
  · rw [va_cpy_in hj.1 hj.2, va_cpy_in hj.1 hj.2, va_cpy_in (by omega) (by omega)]
    congr 1
    omega
  · rw [va_cpy_out hj, va_cpy_out hj]
theorem HasA.g5 {b : Nat} (h : HasA w b) : ∃ v, fld w b 7 5 = some (.int v) := by
  obtain ⟨hd, zn, nm, pa, tk, cs, h1⟩ := h
  exact ⟨_, h1.gH (by omega)⟩
theorem FzE.fo (hz : FzO x Fz) (h : FzE Fz z Fz' z') (hx : x + 764 ≤ z) : FzO x Fz' := fun q hq => by
  rcases (h.2.2 q hq).1 with h1 | h1
  · exact hz q h1
  · omega
theorem OW.load (hO : OW w x z Fz t cap l) (hF : FrL x z w w') (hE : FzE Fz z Fz' z') (hFF : FF w' Fz') : OW w' x z' Fz' t cap l := by
  obtain ⟨o1, o2, o3, o4, o5, o6, o7, o8⟩ := hO
  refine ⟨o1.to (hF _ (by omega) (by omega) (by omega)) (hF _ o5 (by omega) (by omega)), o2, o3, fun hh => ?_, by have := hE.1; omega, by have := hE.1; omega, fun q hq => (hE.2.2 q hq).2, hFF⟩
  rcases (hE.2.2 _ hh).1 with h1 | h1
  · exact o4 h1
  · omega
theorem P_begin {p d : Nat} (hL : L ≤ 700) (hT : TX tx a L) (h2 : h 2 = nI L) (hq : ∀ h', PK h' a L 0 → R (pw w p d h' tx) z) : F_X1_begin p (pw w p d h tx) z R := by
  refine P_p3 (P_p4 (P_p7 ⟨P_i, P_advance (L := L) (i := 0) hL (by omega) (by rw [upd_ne (by omega), upd_ne (by omega), upd_eq]) (by rw [upd_ne (by omega), upd_ne (by omega), upd_ne (by omega), h2]) (upd_eq _ _ _) (fun h' e1 e2 e3 e4 e5 => hq h' ⟨by omega, ?_, ?_, ?_, ?_, ?_, ?_, ?_⟩)⟩))
  · rw [e1 2 (by omega) (by omega) (by omega) (by omega), upd_ne (by omega), upd_ne (by omega), upd_ne (by omega), h2]
  · rw [e1 3 (by omega) (by omega) (by omega) (by omega), upd_ne (by omega), upd_ne (by omega), upd_eq]
  · rw [e1 4 (by omega) (by omega) (by omega) (by omega), upd_ne (by omega), upd_eq]
  · rw [e2, hT.tok _ (by omega)]
  · rw [e3, hT.from _ (by omega)]
  · rw [e4, hT.to _ (by omega)]
  · intro h2
    rw [e5 (by rw [hT.tok _ (by omega)]; exact h2), hT.val _ (by omega)]
/-- the parse has come to its end -/
theorem X_endOk {v : Int32} (hC0 : CS (pw w (x + 130) (x + 64) h tx) x Fz g A) (hz : FzO x Fz) (hD : HasF (pw w (x + 130) (x + 64) h tx) (x + 64) Fz f') (hI : Inv f') (h3 : h 3 = 0)
    (hq : ∀ w', CS w' x Fz (remG g) (updA (remA g A (A 1)) 1 f') → HP w' x (upd h 2 0) tx → (∀ q, ¬ (x ≤ q ∧ q < x + 132) → ¬ (x + 134 ≤ q ∧ q < x + 764) → w' q = w q) → Q v w' z) : F_X5_endParsing x v (pw w (x + 130) (x + 64) h tx) z Q := by
  have hp : ∀ q, ¬ (x + 130 ≤ q ∧ q < x + 132) → pw w (x + 130) (x + 64) (upd h 2 0) tx q = pw w (x + 130) (x + 64) h tx q := fun q hq => by rw [pw_o (by omega), pw_o (by omega)]
  have hC : CS (pw w (x + 130) (x + 64) (upd h 2 0) tx) x Fz g A := hC0.to (fun q hq => hp q (by
    rcases hq with hq | hq | hq
    · omega
    · omega
    · have := hz q hq
      omega))
  have hD2 : HasF (pw w (x + 130) (x + 64) (upd h 2 0) tx) (x + 64) Fz f' := hD.to (fun q hq => hp q (by
    rcases hq with hq | hq
    · omega
    · have := hz q hq
      omega)) (fun _ h => h)
  refine ⟨_, fld_c hC0.1 6, P_p2 ⟨_, fld_c hC.1 6, _, P_g3, fun _ => ⟨hC.is0, hC.keepK hz (fun w1 k1 k2 => ?_)⟩, fun hh => absurd ((upd_ne (by omega)).trans h3) hh⟩⟩
  have hD3 : HasF w1 (x + 64) Fz f' := hD2.to (fun q hq => k2 q (by
    rcases hq with hq | hq
    · omega
    · have := hz q hq
      omega)) (fun _ h => h)
  refine ⟨_, fld_c k1.1 0, _, fld_c k1.1 1, k1.is1, HasF.copy (by omega) (hz.p) hI k1.F1.any hD3 (fun w2 b1 b2 => hq w2 ?_ ?_ (fun q q1 q2 => ?_))⟩
  · have hw2 := (k1.pr hz b1 hI (fun q hq => b2 q hq)).1
    exact hw2
  · refine (HP.of (w := w) (h := upd h 2 0) (tx := tx)).to ?_ ?_
    · rw [b2 _ (by omega), k2 _ (by omega)]
    · rw [b2 _ (by omega), k2 _ (by omega)]
  · rw [b2 q (by omega), k2 q (by omega), pw_o (by omega)]
theorem X_endEr {v : Int32} (hC0 : CS (pw w (x + 130) (x + 64) h tx) x Fz g A) (hz : FzO x Fz) (h3 : ¬ h 3 = 0)
    (hq : ∀ w', CS w' x Fz g A → HP w' x (upd h 2 0) tx → (∀ q, ¬ (x + 130 ≤ q ∧ q < x + 132) → w' q = w q) → Q (-1) w' z) : F_X5_endParsing x v (pw w (x + 130) (x + 64) h tx) z Q := by
  have hp : ∀ q, ¬ (x + 130 ≤ q ∧ q < x + 132) → pw w (x + 130) (x + 64) (upd h 2 0) tx q = pw w (x + 130) (x + 64) h tx q := fun q hq => by rw [pw_o (by omega), pw_o (by omega)]
  have hC : CS (pw w (x + 130) (x + 64) (upd h 2 0) tx) x Fz g A := hC0.to (fun q hq => hp q (by
    rcases hq with hq | hq | hq
    · omega
    · omega
    · have := hz q hq
      omega))
  exact ⟨_, fld_c hC0.1 6, P_p2 ⟨_, fld_c hC.1 6, _, P_g3, fun hh => absurd ((upd_ne (by omega)).symm.trans hh) h3, fun _ => hq _ hC HP.of (fun q hq => pw_o (by omega))⟩⟩
theorem X_load {K : Nat × (Nat → Int32) → Prop} {E : Int32 × Int32 → Prop} {mc ms : Nat} (hL : L ≤ 700) (hT : TX tx a L) (h2 : h 2 = nI L) (hC : CS w x Fz g A) (hz : FzO x Fz) (hP : HP w x h tx) (hFz : ∀ q, Fz q → q < z) (hx : x + 764 ≤ z) (hFF : FF w Fz) (hm : 40 ≤ mc) (hs : 300 ≤ ms) (H : Out (sLoad a L (clr (A 1) 445)) K E)
    (hok : ∀ n f', K (n, f') → ∀ Fz' w' h' z', FzE Fz z Fz' z' → CS w' x Fz' (remG g) (updA (remA g A (A 1)) 1 f') → HP w' x h' tx → h' 2 = 0 → h' 3 = 0 → h' 4 = -1 → FF w' Fz' → FrL x z w w' → Q (f' 2) w' z')
    (her : ∀ c o, E (c, o) → ∀ Fz' w' h' z', FzE Fz z Fz' z' → CS w' x Fz' g A → HP w' x h' tx → h' 2 = 0 → h' 3 = c → h' 4 = o → FF w' Fz' → FrL x z w w' → Q (-1) w' z') : F_X5_load x w z mc ms Q := by
  have hzp : ∀ q, Fz q → ¬ (x + 130 ≤ q ∧ q < x + 130 + 2) := fun q hq => by have := hz q hq; omega
  have hzd : ∀ q, Fz q → ¬ (x + 64 ≤ q ∧ q < x + 64 + 63) := fun q hq => by have := hz q hq; omega
  obtain ⟨hdd, zn, nm, pa, tk, cs, e1⟩ := hC.2.2.2.2.2
  have eS := e1.self
  refine ⟨_, fld_c hC.1 1, hC.2.2.2.2.2.is, ?_⟩
  have key : ∀ w1, HasF w1 (x + 64) Fz (clr (A 1) 445) → (∀ q, ¬ (x + 64 ≤ q ∧ q < x + 64 + 63) → w1 q = w q) → ∃ q6, fld w1 x 9 6 = some (.ref (q6)) ∧ isO w1 q6 5 ∧ F_X1_begin q6 w1 z (fun w9 z10 => ∃ q11, fld w9 x 9 6 = some (.ref (q11)) ∧ isO w9 q11 5 ∧ F_X1_readLine q11 w9 z10 (fun w14 z15 => ∃ q16, fld w14 x 9 6 = some (.ref (q16)) ∧ isO w14 q16 5 ∧ ∃ k21 k22, k21 ≤ mc ∧ k22 ≤ ms ∧ F_X1_readPassengers q16 w14 z15 k21 k22 (fun w19 z20 => ∃ q23, fld w19 x 9 6 = some (.ref (q23)) ∧ isO w19 q23 5 ∧ F_X1_readCommands q23 w19 z20 (fun r25 w26 z27 => ∃ q28, fld w26 x 9 1 = some (.ref (q28)) ∧ ∃ v29, fld w26 q28 7 5 = some (.int (v29)) ∧ isO w26 x 9 ∧ F_X5_endParsing x v29 w26 z27 (fun r31 w32 z33 => Q r31 w32 z33))))) := by
    intro w1 k1 k2
    have hx1 : XO w1 x (g 5) := by
      unfold XO
      rw [k2 _ (by omega)]
      exact hC.1
    have hP1 : HP w1 x h tx := hP.to (k2 _ (by omega)) (k2 _ (by omega))
    have hFF1 : FF w1 Fz := fun q hq bb n f he => hFF q hq bb n f (by rw [← he, k2 q (hzd q hq)])
    -- the class's states stand, whatever the parser has done
    have hCp : ∀ {w2 h' Fz' z'}, FrZ (x + 64) (x + 130) z w1 w2 → FzE Fz z Fz' z' → HasA w2 (x + 64) → CS (pw w2 (x + 130) (x + 64) h' tx) x Fz' g A := fun {w2 h' Fz' z'} hF hE hA => hC.to2 (fun q hq => by
      have hq' : ¬ (x + 64 ≤ q ∧ q < x + 64 + 63) ∧ ¬ (x + 130 ≤ q ∧ q < x + 130 + 2) ∧ q < z := by
        rcases hq with hq | hq | hq | hq
        · omega
        · omega
        · omega
        · have := hz q hq
          have := hFz q hq
          omega
      rw [pw_o hq'.2.1, hF q hq'.2.2 hq'.1 hq'.2.1, k2 q hq'.1]) hE.2.1 (hA.to (fun q h1 h2 => pw_o (by omega)))
    have zP : ∀ {w2 w3 : Mm}, FrP (x + 64) (x + 130) w2 w3 → FrZ (x + 64) (x + 130) z w2 w3 := fun hF q _ q2 q3 => hF q q2 q3
    have hE0 : FzE Fz z Fz z := FzE.rfl hFz
    have H1 := H.eb.eq
    have eR : ∀ {c o w2 h' Fz' z' f''}, E (c, o) → FrZ (x + 64) (x + 130) z w1 w2 → FzE Fz z Fz' z' → HasF w2 (x + 64) Fz' f'' → PE h' L c o → FF w2 Fz' → ∃ q23, fld (pw w2 (x + 130) (x + 64) h' tx) x 9 6 = some (.ref (q23)) ∧ isO (pw w2 (x + 130) (x + 64) h' tx) q23 5 ∧ F_X1_readCommands q23 (pw w2 (x + 130) (x + 64) h' tx) z' (fun r25 w26 z27 => ∃ q28, fld w26 x 9 1 = some (.ref (q28)) ∧ ∃ v29, fld w26 q28 7 5 = some (.int (v29)) ∧ isO w26 x 9 ∧ F_X5_endParsing x v29 w26 z27 (fun r31 w32 z33 => Q r31 w32 z33)) := fun {c o w2 h' Fz' z' f''} he hF hE hA hPE hFF2 => by
      have hc := hCp (h' := h') hF hE hA.any
      obtain ⟨v5, hv5⟩ := hc.2.2.2.2.2.g5
      refine ⟨_, fld_c hc.1 6, P_i, P_readCommandsE hPE (fun v => ⟨_, fld_c hc.1 1, v5, hv5, hc.is0, X_endEr hc (FzE.fo hz hE hx) hPE.ne (fun w' c1 c2 c3 => her c o he Fz' w' _ z' hE c1 c2 (upd_eq _ _ _) ((upd_ne (by omega)).trans hPE.2.1) ((upd_ne (by omega)).trans hPE.2.2.2.1) (fun q hq bb n f he' => hFF2 q hq bb n f ?_) (fun q q1 q2 q3 => ?_))⟩)⟩
      · rw [← he', c3 q (by have := FzE.fo hz hE hx q hq; omega)]
      · rw [c3 q (by omega), hF q q1 (by omega) (by omega), k2 q (by omega)]
    refine ⟨_, fld_c hx1 6, ?_⟩
    rw [hP1.wq]
    refine ⟨P_i, P_begin hL hT h2 (fun h' hk => ⟨_, fld_c (hCp (w2 := w1) (h' := h') (zP FrP.rfl) hE0 k1.any).1 6, P_i, P_line (by omega) hzp hzd hL hT hk InvC k1 ZrC (clr_lt (by omega)) H1 (fun j f1 hj w2 h3 b1 b2 b3 b4 b5 => ?_) (fun c o he w2 h3 f1 b1 b2 b3 b4 => ?_)⟩)⟩
    · have hFF2 : FF w2 Fz := fun q hq bb n f he => hFF1 q hq bb n f (by rw [← he, b5 q (hzd q hq) (hzp q hq)])
      have H2 := hj.1.eb
      have f2z : f1 2 = 0 := (sLine_2 (by rw [clr_lt (by omega)]; exact in_nI (k := 0) (by decide) (by decide)) hj.2).trans (clr_lt (by omega))
      refine ⟨_, fld_c (hCp (h' := h3) (zP b5) hE0 b2.any).1 6, P_i, 40, 300, hm, hs, P_passengers (by omega) hzp hzd hFz (by omega) (by omega) (Nat.le_refl _) (Nat.le_refl _) hL hT b1 b3 b2 b4 f2z hFF2 H2 (fun j2 f2 hj2 Fz2 w3 h4 z3 c1 c2 c3 c4 c5 c6 => ?_) (fun c o he Fz2 w3 h4 z3 f2 c1 c2 c3 c4 c5 c6 => eR he ((zP b5).trans (Nat.le_refl _) c6) c1 c3 c2 c5)⟩
      have hFr3 : FrZ (x + 64) (x + 130) z w1 w3 := (zP b5).trans (Nat.le_refl _) c6
      have hzp2 := c1.off (b := x + 130) (n := 2) (by omega) hzp
      have hzd2 := c1.off (b := x + 64) (n := 63) (by omega) hzd
      refine ⟨_, fld_c (hCp (h' := h4) hFr3 c1 c3.any).1 6, P_i, P_readCommands (by omega) hzp2 hzd2 hL hT c2 c4 c3 hj2 (fun n f3 i hK w4 h5 d1 d2 d3 d4 => ?_) (fun c o he w4 h5 v d1 d2 d3 => ?_)⟩
      · have hFr4 : FrZ (x + 64) (x + 130) z w1 w4 := hFr3.trans (Nat.le_refl _) (zP d4)
        have hc := hCp (h' := h5) hFr4 c1 d2.any
        have hF4 : HasF (pw w4 (x + 130) (x + 64) h5 tx) (x + 64) Fz2 f3 := d2.pw (by omega) hzp2
        refine ⟨_, fld_c hc.1 1, _, hF4.g2, hc.is0, X_endOk hc (FzE.fo hz c1 hx) hF4 d3 d1.2.2.1 (fun w' e1 e2 e3 => hok n f3 hK Fz2 w' _ z3 c1 e1 e2 (upd_eq _ _ _) ((upd_ne (by omega)).trans d1.2.2.1) ((upd_ne (by omega)).trans d1.2.2.2.1) (fun q hq bb n f he' => c5 q hq bb n f ?_) (fun q q1 q2 q3 => ?_))⟩
        · have := FzE.fo hz c1 hx q hq
          rw [← he', e3 q (by omega) (by omega), d4 q (hzd2 q hq) (hzp2 q hq)]
        · rw [e3 q q2 q3, hFr4 q q1 (by omega) (by omega), k2 q (by omega)]
      · have hFr4 : FrZ (x + 64) (x + 130) z w1 w4 := hFr3.trans (Nat.le_refl _) (zP d3)
        have hc := hCp (h' := h5) hFr4 c1 d1
        obtain ⟨v5, hv5⟩ := hc.2.2.2.2.2.g5
        refine ⟨_, fld_c hc.1 1, v5, hv5, hc.is0, X_endEr hc (FzE.fo hz c1 hx) d2.ne (fun w' e1 e2 e3 => her c o he Fz2 w' _ z3 c1 e1 e2 (upd_eq _ _ _) ((upd_ne (by omega)).trans d2.2.1) ((upd_ne (by omega)).trans d2.2.2.2.1) (fun q hq bb n f he' => c5 q hq bb n f ?_) (fun q q1 q2 q3 => ?_))⟩
        · have := FzE.fo hz c1 hx q hq
          rw [← he', e3 q (by omega), d3 q (hzd2 q hq) (hzp2 q hq)]
        · rw [e3 q (by omega), hFr4 q q1 (by omega) (by omega), k2 q (by omega)]
    · have hFF2 : FF w2 Fz := fun q hq bb n f he => hFF1 q hq bb n f (by rw [← he, b4 q (hzd q hq) (hzp q hq)])
      exact ⟨_, fld_c (hCp (h' := h3) (zP b4) hE0 b2.any).1 6, P_i, 0, 0, Nat.zero_le _, Nat.zero_le _, P_passengersE (by omega) hzp hL b1 b3 b2 (eR he (zP b4) hE0 b2 b1 hFF2)⟩
  rw [eS]
  refine c_clear (fun hd1 h5 => ?_)
  have e0 : HasF (sw w (x + 64) hd1 zn nm pa tk cs) (x + 64) Fz (fun _ => 0) := ⟨_, _, _, _, _, _, hS_sw, h5, fun p hp => absurd hp (by rw [show cl (0 : Int32) = 0 from cl0]; omega)⟩
  exact key _ (e0.ext Inv0 (fun j hj => clr_lt hj)) (fun q hq => sw_o hq)
end
