/-! the commands one after the other -/
def sCmds (a : Nat → Int32) (L : Nat) : Nat → (Nat → Int32) → Nat → Nat → Except (Int32 × Int32) (Nat × (Nat → Int32))
  | 0, f, _, n => .ok (n, f)
  | k + 1, f, i, n => if tTok a L i = 0 then .ok (n, f) else eb (sCmd a L f i) fun r => sCmds a L k r.2 r.1 (n + 1)
section
variable {a f : Nat → Int32} {L i : Nat}
theorem eb_ok {α β : Type} {s : Except (Int32 × Int32) α} {k : α → Except (Int32 × Int32) β} {r : β} (h : eb s k = .ok r) : ∃ x, s = .ok x ∧ k x = .ok r := by
  cases s with
  | ok x => exact ⟨x, rfl, h⟩
  | error e => exact absurd h (by intro hh; injection hh)
theorem tok_le (a : Nat → Int32) {L i : Nat} (hi : i ≤ L) (h : ¬ tTok a L i = 0) : i < L := by
  have h1 := tFrom_le (L := L) a hi
  have hl : ¬ L ≤ tFrom a L i := fun hh => h (by
    unfold tTok
    rw [if_pos hh])
  omega
theorem tTo_ge (a : Nat → Int32) {L i : Nat} (hi : i ≤ L) : i ≤ tTo a L i := by
  have h1 := tFrom_le (L := L) a hi
  have h2 := tTo_le a hi
  omega
theorem sAct_to {cv : Int32} {f' f2 : Nat → Int32} {j : Nat} (hi : i ≤ L) (h : sAct a L cv f' i = .ok (j, f2)) : i ≤ j ∧ j ≤ L := by
  obtain ⟨x, h1, h2⟩ := eb_ok h
  injection h2 with h2
  injection h2 with h2 h3
  have := sSemi_to h1
  have h4 := tTo_le a hi
  have h5 := tTo_ge a hi
  omega
theorem tok_nb (a : Nat → Int32) {L i : Nat} {n : Nat} {hh : Nat → Int32} (h : wIs a L i n hh = true) : ¬ tTok a L i = 0 := by
  unfold wIs at h
  rw [Bool.and_eq_true, Bool.and_eq_true, beq_iff_eq] at h
  rw [h.1.1]
  decide
theorem sNum_b {lo hi v : Int32} {j : Nat} (hi' : i ≤ L) (h : sNum a L lo hi i = .ok (v, j)) : i ≤ j ∧ j ≤ L := by
  rw [sNum_to h]
  exact ⟨tTo_ge a hi', (tTo_le a hi').2⟩
theorem sKnown_b {v : Int32} {j : Nat} (hi' : i ≤ L) (h : sKnown a L f i = .ok (v, j)) : i ≤ j ∧ j ≤ L := by
  rw [sKnown_to h]
  exact ⟨tTo_ge a hi', (tTo_le a hi').2⟩
theorem sKind_to {v : Int32} {j : Nat} (h : sKind a L i = .ok (v, j)) : j = tTo a L i := by
  unfold sKind at h
  split at h
  · injection h with h
    injection h with h1 h2
    exact h2.symm
  · split at h
    · injection h with h
      injection h with h1 h2
      exact h2.symm
    · split at h
      · injection h with h
        injection h with h1 h2
        exact h2.symm
      · exact absurd h (by intro hh; injection hh)
theorem sKind_b {v : Int32} {j : Nat} (hi' : i ≤ L) (h : sKind a L i = .ok (v, j)) : i ≤ j ∧ j ≤ L := by
  rw [sKind_to h]
  exact ⟨tTo_ge a hi', (tTo_le a hi').2⟩
theorem sStop_b {v other : Int32} {j : Nat} (hi' : i ≤ L) (h : sStop a L f other i = .ok (v, j)) : i ≤ j ∧ j ≤ L := by
  obtain ⟨⟨x, j'⟩, h1, h2⟩ := eb_ok h
  split at h2
  · exact absurd h2 (by intro hh; injection hh)
  · injection h2 with h2
    injection h2 with h2 h3
    have := sNum_b hi' h1
    omega
/-- a command is longer than nothing -/
theorem sCmd_lt {j : Nat} {f' : Nat → Int32} (hi : i ≤ L) (h : sCmd a L f i = .ok (j, f')) : i < j ∧ j ≤ L := by
  have key : ∀ {n : Nat} {hh : Nat → Int32}, wIs a L i n hh = true → i < tTo a L i ∧ tTo a L i ≤ L := fun hw => ⟨tTo_lt a hi (tok_nb a hw), (tTo_le a hi).2⟩
  unfold sCmd at h
  split at h
  · rename_i hw
    have k := key hw
    obtain ⟨⟨x1, j1⟩, h1, h⟩ := eb_ok h
    obtain ⟨⟨x2, j2⟩, h2, h⟩ := eb_ok h
    obtain ⟨⟨x3, j3⟩, h3, h⟩ := eb_ok h
    have b1 := sKnown_b k.2 h1
    have b2 := sKind_b b1.2 h2
    have b3 := sNum_b b2.2 h3
    have b4 := sAct_to b3.2 h
    omega
  · split at h
    · rename_i hw
      have k := key hw
      obtain ⟨⟨x1, j1⟩, h1, h⟩ := eb_ok h
      obtain ⟨⟨x2, j2⟩, h2, h⟩ := eb_ok h
      obtain ⟨⟨x3, j3⟩, h3, h⟩ := eb_ok h
      have b1 := sKnown_b k.2 h1
      have b2 := sStop_b b1.2 h2
      have b3 := sStop_b b2.2 h3
      have b5 := tTo_ge a b3.2
      have b6 := (tTo_le a b3.2).2
      dsimp only at h
      split at h
      · obtain ⟨⟨x4, j4⟩, h4, h⟩ := eb_ok h
        have b7 := sNum_b b6 h4
        have b8 := sAct_to b7.2 h
        omega
      · have b8 := sAct_to b3.2 h
        omega
    · split at h
      · rename_i hw
        have k := key hw
        obtain ⟨⟨x1, j1⟩, h1, h⟩ := eb_ok h
        have b1 := sKnown_b k.2 h1
        have b4 := sAct_to b1.2 h
        omega
      · split at h
        · rename_i hw
          have k := key hw
          obtain ⟨⟨x1, j1⟩, h1, h⟩ := eb_ok h
          have b1 := sNum_b k.2 h1
          have b4 := sAct_to b1.2 h
          omega
        · split at h
          · rename_i hw
            have k := key hw
            obtain ⟨⟨x1, j1⟩, h1, h⟩ := eb_ok h
            obtain ⟨⟨x2, j2⟩, h2, h⟩ := eb_ok h
            have b1 := sNum_b k.2 h1
            have b2 := sNum_b b1.2 h2
            have b4 := sAct_to b2.2 h
            omega
          · split at h
            · rename_i hw
              have k := key hw
              obtain ⟨⟨x1, j1⟩, h1, h⟩ := eb_ok h
              have b1 := sNum_b k.2 h1
              have b4 := sAct_to b1.2 h
              omega
            · split at h
              · rename_i hw
                have k := key hw
                obtain ⟨⟨x1, j1⟩, h1, h⟩ := eb_ok h
                have b1 := sNum_b k.2 h1
                have b4 := sAct_to b1.2 h
                omega
              · exact absurd h (by intro hh; injection hh)
/-- a result with the equation that it stands in -/
theorem Out.eq {α : Type} {s : Except (Int32 × Int32) α} {K : α → Prop} {E : Int32 × Int32 → Prop} (h : Out s K E) : Out s (fun r => K r ∧ s = .ok r) E := by
  cases s with
  | ok x => exact ⟨h, rfl⟩
  | error e => exact h
end
section
variable {w w' w0 : Mm} {p d z L i : Nat} {h tx a f f' : Nat → Int32} {Fz : Nat → Prop} {Q : Int32 → Mm → Nat → Prop} {R : Mm → Nat → Prop} {T : Mm → Prop} {c o : Int32}
theorem P_command {K : Nat × (Nat → Int32) → Prop} {E : Int32 × Int32 → Prop} {Q : Int32 → Mm → Nat → Prop} {n : Nat} {x1 : Int32} (hd : d + 63 ≤ p ∨ p + 2 ≤ d) (hz : ∀ q, Fz q → ¬ (p ≤ q ∧ q < p + 2)) (hzd : ∀ q, Fz q → ¬ (d ≤ q ∧ q < d + 63)) (hL : L ≤ 700) (hT : TX tx a L) (hK : PK h a L i) (hI : Inv f) (hF : HasF w d Fz f)
    (hx : ¬ 700 ≤ x1) (h0 : ¬ tTok a L i = 0) (H : Out (sCmd a L f i) K E)
    (hok : ∀ j f', K (j, f') → ∀ w' h', PK h' a L j → HasF w' d Fz f' → Inv f' → FrP d p w w' → B_X1_readCommands_2 p Q n (x1 + 1) (pw w' p d h' tx) z)
    (her : ∀ c o, E (c, o) → ∀ h', PE h' L c o → B_X1_readCommands_2 p Q n (x1 + 1) (pw w p d h' tx) z) : B_X1_readCommands_2 p Q (n + 1) x1 (pw w p d h tx) z := by
  unfold B_X1_readCommands_2
  refine ⟨fun hh => absurd hh hx, fun _ => ⟨P_i, P_failedK hK ⟨fun hh => absurd rfl hh, fun _ => ⟨_, P_g5, fun hh => absurd (hK.2.2.2.2.1.symm.trans hh) h0, fun _ => ?_⟩⟩⟩⟩
  intro q6 l6
  refine ⟨P_i, P_tokenIs (by decide) hL hT hK l6.str (chr_lit _ (by decide)) ?_⟩
  by_cases w6 : wIs a L i lit_6.length (fun j => lit_6.getD j 0) = true
  · rw [if_pos w6]
    exact ⟨fun hh => absurd hh (by decide), fun _ => ⟨P_i, P_buy hd hz hzd hL hT hK hI hF (H.if1 w6) hok her⟩⟩
  have H := H.if0 w6
  rw [if_neg w6]
  refine ⟨fun _ => fun q10 l10 => ⟨P_i, P_tokenIs (by decide) hL hT hK l10.str (chr_lit _ (by decide)) ?_⟩, fun hh => absurd rfl hh⟩
  by_cases w10 : wIs a L i lit_10.length (fun j => lit_10.getD j 0) = true
  · rw [if_pos w10]
    exact ⟨fun hh => absurd hh (by decide), fun _ => ⟨P_i, P_ride hd hz hzd hL hT hK hI hF (H.if1 w10) hok her⟩⟩
  have H := H.if0 w10
  rw [if_neg w10]
  refine ⟨fun _ => fun q12 l12 => ⟨P_i, P_tokenIs (by decide) hL hT hK l12.str (chr_lit _ (by decide)) ?_⟩, fun hh => absurd rfl hh⟩
  by_cases w12 : wIs a L i lit_12.length (fun j => lit_12.getD j 0) = true
  · rw [if_pos w12]
    exact ⟨fun hh => absurd hh (by decide), fun _ => ⟨P_i, P_insp hd hz hzd hL hT hK hI hF (H.if1 w12) hok her⟩⟩
  have H := H.if0 w12
  rw [if_neg w12]
  refine ⟨fun _ => fun q13 l13 => ⟨P_i, P_tokenIs (by decide) hL hT hK l13.str (chr_lit _ (by decide)) ?_⟩, fun hh => absurd rfl hh⟩
  by_cases w13 : wIs a L i lit_13.length (fun j => lit_13.getD j 0) = true
  · rw [if_pos w13]
    exact ⟨fun hh => absurd hh (by decide), fun _ => ⟨P_i, P_wait hd hz hzd hL hT hK hI hF (H.if1 w13) hok her⟩⟩
  have H := H.if0 w13
  rw [if_neg w13]
  refine ⟨fun _ => fun q14 l14 => ⟨P_i, P_tokenIs (by decide) hL hT hK l14.str (chr_lit _ (by decide)) ?_⟩, fun hh => absurd rfl hh⟩
  by_cases w14 : wIs a L i lit_14.length (fun j => lit_14.getD j 0) = true
  · rw [if_pos w14]
    exact ⟨fun hh => absurd hh (by decide), fun _ => ⟨P_i, P_appeal hd hz hzd hL hT hK hI hF (H.if1 w14) hok her⟩⟩
  have H := H.if0 w14
  rw [if_neg w14]
  refine ⟨fun _ => fun q15 l15 => ⟨P_i, P_tokenIs (by decide) hL hT hK l15.str (chr_lit _ (by decide)) ?_⟩, fun hh => absurd rfl hh⟩
  by_cases w15 : wIs a L i lit_15.length (fun j => lit_15.getD j 0) = true
  · rw [if_pos w15]
    exact ⟨fun hh => absurd hh (by decide), fun _ => ⟨P_i, P_decide hd hz hzd hL hT hK hI hF (H.if1 w15) hok her⟩⟩
  have H := H.if0 w15
  rw [if_neg w15]
  refine ⟨fun _ => fun q16 l16 => ⟨P_i, P_tokenIs (by decide) hL hT hK l16.str (chr_lit _ (by decide)) ?_⟩, fun hh => absurd rfl hh⟩
  by_cases w16 : wIs a L i lit_16.length (fun j => lit_16.getD j 0) = true
  · rw [if_pos w16]
    exact ⟨fun hh => absurd hh (by decide), fun _ => ⟨P_i, P_pay hd hz hzd hL hT hK hI hF (H.if1 w16) hok her⟩⟩
  · rw [if_neg w16]
    exact ⟨fun _ => ⟨P_i, P_failK hK (by decide) (fun h' hE => her _ _ (H.if0 w16) h' hE)⟩, fun hh => absurd rfl hh⟩
theorem P_cmds {K : Nat × (Nat → Int32) → Prop} {E : Int32 × Int32 → Prop} (hd : d + 63 ≤ p ∨ p + 2 ≤ d) (hz : ∀ q, Fz q → ¬ (p ≤ q ∧ q < p + 2)) (hzd : ∀ q, Fz q → ¬ (d ≤ q ∧ q < d + 63)) (hL : L ≤ 700) (hT : TX tx a L)
    (hok : ∀ n f' i, K (n, f') → ∀ w' h', PK h' a L i → HasF w' d Fz f' → Inv f' → FrP d p w0 w' → Q (nI n) (pw w' p d h' tx) z)
    (her : ∀ c o, E (c, o) → ∀ w' h' v, HasA w' d → PE h' L c o → FrP d p w0 w' → Q v (pw w' p d h' tx) z) : ∀ (k i n : Nat) (f h : Nat → Int32) (w : Mm), L + 1 ≤ i + k → n ≤ i → PK h a L i → Inv f → HasF w d Fz f → FrP d p w0 w → Out (sCmds a L k f i n) K E → B_X1_readCommands_2 p Q (k + 1) (nI n) (pw w p d h tx) z := by
  intro k
  induction k with
  | zero =>
    intro i n f h w hk hn hK hI hF hw H
    have := hK.1
    omega
  | succ k ih =>
    intro i n f h w hk hn hK hI hF hw H
    have hi := hK.1
    have i700 : (700 : Int32) = nI 700 := rfl
    rw [sCmds] at H
    by_cases h0 : tTok a L i = 0
    · have H := H.if1 h0
      unfold B_X1_readCommands_2
      exact ⟨fun _ => hok n f i H w h hK hF hI hw, fun _ => ⟨P_i, P_failedK hK ⟨fun hh => absurd rfl hh, fun _ => ⟨_, P_g5, fun _ => hok n f i H w h hK hF hI hw, fun hh => absurd (hK.2.2.2.2.1.trans h0) hh⟩⟩⟩⟩
    · have H := (H.if0 h0).eb.eq
      have hlt := tok_le a hi h0
      refine P_command hd hz hzd hL hT hK hI hF (by rw [i700, nIle (by omega) (by omega)]; omega) h0 H (fun j f' hj w' h' k1 k2 k3 k4 => ?_) (fun c o hE h' hP => ?_)
      · have hb := sCmd_lt hi hj.2
        rw [nIs (by omega)]
        exact ih j (n + 1) f' h' w' (by omega) (by omega) k1 k3 k2 (hw.trans k4) hj.1
      · unfold B_X1_readCommands_2
        exact ⟨fun _ => her c o hE w h' _ hF.any hP hw, fun _ => ⟨P_i, P_failedE hP ⟨fun _ => her c o hE w h' _ hF.any hP hw, fun hh => absurd hh (by decide)⟩⟩⟩
theorem P_readCommands {K : Nat × (Nat → Int32) → Prop} {E : Int32 × Int32 → Prop} (hd : d + 63 ≤ p ∨ p + 2 ≤ d) (hz : ∀ q, Fz q → ¬ (p ≤ q ∧ q < p + 2)) (hzd : ∀ q, Fz q → ¬ (d ≤ q ∧ q < d + 63)) (hL : L ≤ 700) (hT : TX tx a L) (hK : PK h a L i) (hI : Inv f) (hF : HasF w d Fz f) (H : Out (sCmds a L (L + 1) f i 0) K E)
    (hok : ∀ n f' i, K (n, f') → ∀ w' h', PK h' a L i → HasF w' d Fz f' → Inv f' → FrP d p w w' → Q (nI n) (pw w' p d h' tx) z)
    (her : ∀ c o, E (c, o) → ∀ w' h' v, HasA w' d → PE h' L c o → FrP d p w w' → Q v (pw w' p d h' tx) z) : F_X1_readCommands p (pw w p d h tx) z Q :=
  ⟨L + 1 + 1, P_cmds hd hz hzd hL hT hok her (L + 1) i 0 f h w (by omega) (by omega) hK hI hF FrP.rfl H⟩
theorem P_readCommandsE (hE : PE h L c o) (hq : ∀ v, Q v (pw w p d h tx) z) : F_X1_readCommands p (pw w p d h tx) z Q := by
  refine ⟨1, ?_⟩
  unfold B_X1_readCommands_2
  exact ⟨fun _ => hq _, fun _ => ⟨P_i, P_failedE hE ⟨fun _ => hq _, fun hh => absurd hh (by decide)⟩⟩⟩
end
section
variable {w : Mm} {m z L i : Nat} {g g0 a f f' : Nat → Int32} {A A0 : Nat → Nat → Int32} {Q : Int32 → Mm → Nat → Prop} {R : Mm → Nat → Prop} {T : Mm → Prop} {c o : Int32}
theorem sCmd_inv {j : Nat} (hI : Inv f) (h : sCmd a L f i = .ok (j, f')) : Inv f' := by
  have hB2 := clI hI.2.1.2.1
  have key : ∀ {cv : Int32} {f2 : Nat → Int32} {i j : Nat}, (¬ cv = 0 → Inv f2) → sAct a L cv f2 i = .ok (j, f') → Inv f' := fun {cv f2 i j} hh h => by
    obtain ⟨x, h1, h2⟩ := eb_ok h
    injection h2 with h2
    injection h2 with h2 h3
    rw [← h3]
    refine hh (fun hc => ?_)
    rw [hc] at h1
    exact sSemi_f (a := a) (L := L) h1
  unfold sCmd at h
  split at h
  · obtain ⟨⟨x1, j1⟩, h1, h⟩ := eb_ok h
    obtain ⟨⟨x2, j2⟩, h2, h⟩ := eb_ok h
    obtain ⟨⟨x3, j3⟩, h3, h⟩ := eb_ok h
    exact key (fun hb => hI.buy (sKnown_in (by omega) h1) (sKind_in h2) (mayBuy_30 hI hb)) h
  · split at h
    · obtain ⟨⟨x1, j1⟩, h1, h⟩ := eb_ok h
      obtain ⟨⟨x2, j2⟩, h2, h⟩ := eb_ok h
      obtain ⟨⟨x3, j3⟩, h3, h⟩ := eb_ok h
      obtain ⟨⟨y2, k2⟩, u2, e2⟩ := eb_ok h2
      obtain ⟨⟨y3, k3⟩, u3, e3⟩ := eb_ok h3
      dsimp only at e2 e3
      split at e2
      · exact absurd e2 (by intro hh; injection hh)
      split at e3
      · exact absurd e3 (by intro hh; injection hh)
      rename_i n2 n3
      injection e2 with e2
      injection e2 with e2 e2'
      injection e3 with e3
      injection e3 with e3 e3'
      subst e2 e3
      have s2 := sNum_in hI.2.1.1 u2
      have s3 := sNum_in hI.2.1.1 u3
      dsimp only at h
      split at h
      · obtain ⟨⟨x4, j4⟩, h4, h⟩ := eb_ok h
        have s4 := sNum_in hI.2.1.2.2.1 h4
        exact key (fun hb => hI.begin (sKnown_in (by omega) h1) s2 s3 (fun e => n3 e.symm) (Or.inr ⟨s4, (mayRide_1 hb).2 (vp_m1 s4)⟩) (mayRide_1 hb).1) h
      · exact key (fun hb => hI.begin (sKnown_in (by omega) h1) s2 s3 (fun e => n3 e.symm) (Or.inl rfl) (mayRide_1 hb).1) h
    · split at h
      · obtain ⟨⟨x1, j1⟩, h1, h⟩ := eb_ok h
        exact key (fun hb => hI.insp (sKnown_in (by omega) h1) (mayInsp_20 hI hb)) h
      · split at h
        · obtain ⟨⟨x1, j1⟩, h1, h⟩ := eb_ok h
          have hv := sNum_rng h1
          rw [i_1] at hv
          have hh := wait_hi hI
          have e : (f 0 + x1).toInt = (f 0).toInt + x1.toInt := ia _ _ (by have := hI.1; omega) (by have := hI.1; omega)
          exact key (fun _ => hI.wait (n := x1) (by have := hI.1; omega) (by omega)) h
        · split at h
          · obtain ⟨⟨x1, j1⟩, h1, h⟩ := eb_ok h
            obtain ⟨⟨x2, j2⟩, h2, h⟩ := eb_ok h
            exact key (fun hb => hI.appeal (sNum_in hI.2.1.2.2.2 h1) (sNum_in hI.2.1.2.2.1 h2) (mayAppeal_0 hb)) h
          · split at h
            · obtain ⟨⟨x1, j1⟩, h1, h⟩ := eb_ok h
              exact key (fun hb => hI.decide (sNum_in hI.2.1.2.2.2 h1) (mayDec_1 hb)) h
            · split at h
              · obtain ⟨⟨x1, j1⟩, h1, h⟩ := eb_ok h
                exact key (fun hb => hI.pay (sNum_in hI.2.1.2.2.2 h1)) h
              · exact absurd h (by intro hh; injection hh)
end
