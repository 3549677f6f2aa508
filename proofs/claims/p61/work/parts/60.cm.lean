/-! the commands, as the class reads them -/
def eb {α β : Type} (s : Except (Int32 × Int32) α) (k : α → Except (Int32 × Int32) β) : Except (Int32 × Int32) β := match s with
  | .ok a => k a
  | .error e => .error e
def Out {α : Type} (s : Except (Int32 × Int32) α) (K : α → Prop) (E : Int32 × Int32 → Prop) : Prop := match s with
  | .ok a => K a
  | .error e => E e
theorem Out.eb {α β : Type} {s : Except (Int32 × Int32) α} {k : α → Except (Int32 × Int32) β} {K : β → Prop} {E : Int32 × Int32 → Prop} (h : Out (eb s k) K E) : Out s (fun r => Out (k r) K E) E := by
  cases s <;> exact h
theorem Out.ok {α : Type} {s : Except (Int32 × Int32) α} {K : α → Prop} {E : Int32 × Int32 → Prop} {r : α} (h : Out s K E) (hr : s = .ok r) : K r := by
  rw [hr] at h
  exact h
theorem Out.er {α : Type} {s : Except (Int32 × Int32) α} {K : α → Prop} {E : Int32 × Int32 → Prop} {r : Int32 × Int32} (h : Out s K E) (hr : s = .error r) : E r := by
  rw [hr] at h
  exact h
theorem Out.refl {α : Type} (s : Except (Int32 × Int32) α) : Out s (fun r => s = .ok r) (fun e => s = .error e) := by
  cases s <;> exact rfl
theorem Out.if1 {α : Type} {c : Prop} [Decidable c] {s t : Except (Int32 × Int32) α} {K : α → Prop} {E : Int32 × Int32 → Prop} (h : Out (if c then s else t) K E) (hc : c) : Out s K E := by
  rw [if_pos hc] at h
  exact h
theorem Out.if0 {α : Type} {c : Prop} [Decidable c] {s t : Except (Int32 × Int32) α} {K : α → Prop} {E : Int32 × Int32 → Prop} (h : Out (if c then s else t) K E) (hc : ¬ c) : Out t K E := by
  rw [if_neg hc] at h
  exact h
theorem nz {v : Int32} (h : ¬ v = 0) : (!(v == 0)) = true := by
  rw [beq_eq_false_iff_ne.mpr h]
  rfl
/-- the second stop of a ride is not the first one -/
def sStop (a : Nat → Int32) (L : Nat) (f : Nat → Int32) (other : Int32) (i : Nat) : ER Int32 :=
  eb (sNum a L 0 (f 1 - 1) i) fun r => if r.1 = other then .error (2, oF a L i) else .ok r
abbrev EC : Type := Except (Int32 × Int32) (Nat × (Nat → Int32))
def sAct (a : Nat → Int32) (L : Nat) (cv : Int32) (f' : Nat → Int32) (i : Nat) : EC := eb (sSemi a L (!(cv == 0)) i) fun j => .ok (j, f')
def sBuy (a : Nat → Int32) (L : Nat) (f : Nat → Int32) (i : Nat) : EC :=
  eb (sKnown a L f (tTo a L i)) fun p => eb (sKind a L p.2) fun k => eb (sNum a L 1 15 k.2) fun y => sAct a L (mayBuyF f p.1 k.1 y.1) (buyF f p.1 k.1 y.1) y.2
def sRide (a : Nat → Int32) (L : Nat) (f : Nat → Int32) (i : Nat) : EC :=
  eb (sKnown a L f (tTo a L i)) fun p => eb (sStop a L f (-1) p.2) fun s => eb (sStop a L f s.1 s.2) fun t =>
    if wIs a L t.2 lit_11.length (fun j => lit_11.getD j 0) = true then eb (sNum a L 0 (f 3 - 1) (tTo a L t.2)) fun k => sAct a L (mayRideF f p.1 k.1) (beginF f p.1 s.1 t.1 k.1) k.2
    else sAct a L (mayRideF f p.1 (-1)) (beginF f p.1 s.1 t.1 (-1)) t.2
def sInsp (a : Nat → Int32) (L : Nat) (f : Nat → Int32) (i : Nat) : EC :=
  eb (sKnown a L f (tTo a L i)) fun p => sAct a L (mayInspectF f p.1) (inspectF f p.1) p.2
def sWait (a : Nat → Int32) (L : Nat) (f : Nat → Int32) (i : Nat) : EC :=
  eb (sNum a L 1 (jmin 9999 (99999 - f 0)) (tTo a L i)) fun p => sAct a L 1 (waitF f p.1) p.2
def sAppeal (a : Nat → Int32) (L : Nat) (f : Nat → Int32) (i : Nat) : EC :=
  eb (sNum a L 0 (f 4 - 1) (tTo a L i)) fun c => eb (sNum a L 0 (f 3 - 1) c.2) fun t => sAct a L (mayAppealF f c.1) (appealF f c.1 t.1) t.2
def mayDecF (f : Nat → Int32) (c : Int32) : Int32 := if f (305 + 7 * cl c + 2) = 1 then 1 else 0
def sDecide (a : Nat → Int32) (L : Nat) (f : Nat → Int32) (i : Nat) : EC :=
  eb (sNum a L 0 (f 4 - 1) (tTo a L i)) fun c => sAct a L (mayDecF f c.1) (decideF f c.1) c.2
def sPay (a : Nat → Int32) (L : Nat) (f : Nat → Int32) (i : Nat) : EC :=
  eb (sNum a L 0 (f 4 - 1) (tTo a L i)) fun c => sAct a L (mayPayF f c.1) (payF f c.1) c.2
def FrP (d p : Nat) (w w' : Mm) : Prop := ∀ q, ¬ (d ≤ q ∧ q < d + 63) → ¬ (p ≤ q ∧ q < p + 2) → w' q = w q
theorem FrP.rfl {d p : Nat} {w : Mm} : FrP d p w w := fun _ _ _ => Eq.refl _
theorem FrP.trans {d p : Nat} {w w' w'' : Mm} (h : FrP d p w w') (h' : FrP d p w' w'') : FrP d p w w'' := fun q h1 h2 => (h' q h1 h2).trans (h q h1 h2)
section
variable {w w' : Mm} {p d z L i : Nat} {h tx a f f' : Nat → Int32} {Fz : Nat → Prop} {Q : Int32 → Mm → Nat → Prop} {R : Mm → Nat → Prop} {T : Mm → Prop} {c o : Int32}
theorem pw_self (hd : d + 63 ≤ p ∨ p + 2 ≤ d) (hw : ∀ q, ¬ (d ≤ q ∧ q < d + 63) → w' q = pw w p d h tx q) : w' = pw w' p d h tx := by
  funext q
  by_cases hq : p ≤ q ∧ q < p + 2
  · rw [hw q (by omega)]
    unfold pw
    rw [if_pos hq, if_pos hq]
  · exact (pw_o hq).symm
theorem FrP.of (hw : ∀ q, ¬ (d ≤ q ∧ q < d + 63) → w' q = pw w p d h tx q) : FrP d p w w' := fun q h1 h2 => by
  rw [hw q h1, pw_o h2]
theorem sSemi_f {j : Nat} (hr : sSemi a L false i = .ok j) : False := by
  unfold sSemi at hr
  split at hr
  · exact absurd hr (by intro hh; injection hh)
  · exact absurd hr (by intro hh; injection hh)
theorem sKnown_in (h8 : cl (f 2) ≤ 8) {v : Int32} {j : Nat} (hr : sKnown a L f i = .ok (v, j)) : vp_in v (cl (f 2)) := by
  unfold sKnown at hr
  split at hr
  · split at hr
    · exact absurd hr (by intro hh; injection hh)
    · rename_i hn
      injection hr with hr
      injection hr with h1 h2
      rw [← h1]
      exact fnd_in h8 hn
  · exact absurd hr (by intro hh; injection hh)
theorem sKind_in {v : Int32} {j : Nat} (hr : sKind a L i = .ok (v, j)) : vp_in v 3 := by
  unfold sKind at hr
  split at hr
  · injection hr with hr
    injection hr with h1 h2
    rw [← h1]
    exact in_nI (k := 1) (by decide) (by decide)
  · split at hr
    · injection hr with hr
      injection hr with h1 h2
      rw [← h1]
      exact in_nI (k := 2) (by decide) (by decide)
    · split at hr
      · injection hr with hr
        injection hr with h1 h2
        rw [← h1]
        exact in_nI (k := 0) (by decide) (by decide)
      · exact absurd hr (by intro hh; injection hh)
theorem sNum_rng {lo hi v : Int32} {j : Nat} (hr : sNum a L lo hi i = .ok (v, j)) : lo.toInt ≤ v.toInt ∧ v.toInt ≤ hi.toInt ∧ tTok a L i = 2 ∧ v = tVal a L i := by
  unfold sNum at hr
  split at hr
  · rename_i h2
    split at hr
    · rename_i hc
      injection hr with hr
      injection hr with h1 h2'
      rw [← h1]
      exact ⟨ile.mp hc.1, ile.mp hc.2, h2, rfl⟩
    · exact absurd hr (by intro hh; injection hh)
  · exact absurd hr (by intro hh; injection hh)
theorem sNum_in {v x : Int32} {j n : Nat} (hx : vp_in x n) (hr : sNum a L 0 (x - 1) i = .ok (v, j)) : vp_in v (cl x) := by
  have h1 := sNum_rng hr
  have h2 := i_pred hx
  have h3 := clI hx
  rw [i_0] at h1
  exact vp_in_iff.mpr (by omega)
theorem pred_lt {x : Int32} {n : Nat} (hx : vp_in x n) (hn : n ≤ 1000) : (x - 1).toInt < 100000 := by
  have h2 := i_pred hx
  have h3 := clI hx
  omega
theorem mayBuy_30 {q k y : Int32} (hI : Inv f) (h : ¬ mayBuyF f q k y = 0) : vp_in (f 3) 30 := by
  have hB3 := vp_in_iff.mp hI.2.1.2.2.1
  have i30 : (30 : Int32).toInt = 30 := by decide
  have h1 : ¬ 30 ≤ f 3 := fun hh => h (by
    unfold mayBuyF
    rw [if_pos hh])
  have h2 : ¬ (30 : Int32).toInt ≤ (f 3).toInt := fun hh => h1 (ile.mpr hh)
  exact vp_in_iff.mpr (by omega)
theorem mayInsp_20 {q : Int32} (hI : Inv f) (h : ¬ mayInspectF f q = 0) : vp_in (f 4) 20 := by
  have hB3 := vp_in_iff.mp hI.2.1.2.2.2
  have i20 : (20 : Int32).toInt = 20 := by decide
  have h1 : ¬ 20 ≤ f 4 := fun hh => h (by
    unfold mayInspectF
    rw [if_pos hh]
    split
    · rfl
    · split <;> rfl)
  have h2 : ¬ (20 : Int32).toInt ≤ (f 4).toInt := fun hh => h1 (ile.mpr hh)
  exact vp_in_iff.mpr (by omega)
theorem mayAppeal_0 {q : Int32} (h : ¬ mayAppealF f q = 0) : f (305 + 7 * cl q + 2) = 0 := by
  by_cases h1 : f (305 + 7 * cl q + 2) = 0
  · exact h1
  · exact absurd (by unfold mayAppealF; rw [if_neg h1]) h
theorem mayDec_1 {q : Int32} (h : ¬ mayDecF f q = 0) : f (305 + 7 * cl q + 2) = 1 := by
  by_cases h1 : f (305 + 7 * cl q + 2) = 1
  · exact h1
  · exact absurd (by unfold mayDecF; rw [if_neg h1]) h
/-- the end of a command: may it be executed, its semicolon, its act -/
def Bs (p : Nat) (Act : Nat → Mm → Nat → (Int32 → Mm → Nat → Prop) → Prop) (R : Mm → Nat → Prop) (y : Int32) (w : Mm) (z : Nat) : Prop :=
  isO w p 5 ∧ F_X1_readSemicolon p y w z (fun r2 w3 z4 => (r2 = 0 → R w3 z4) ∧ (¬ r2 = 0 → ∃ q6, fld w3 p 5 0 = some (.ref (q6)) ∧ isO w3 q6 7 ∧ Act q6 w3 z4 (fun _ w9 z10 => R w9 z10)))
def Pt (p : Nat) (Can Act : Nat → Mm → Nat → (Int32 → Mm → Nat → Prop) → Prop) (R : Mm → Nat → Prop) (w : Mm) (z : Nat) : Prop :=
  isO w p 5 ∧ F_X1_failed p w z (fun r w1 z1 => (¬ r = 0 → Bs p Act R 0 w1 z1) ∧ (r = 0 → ∃ q, fld w1 p 5 0 = some (.ref (q)) ∧ isO w1 q 7 ∧ Can q w1 z1 (fun r2 w2 z2 => (r2 = 0 → Bs p Act R 0 w2 z2) ∧ (¬ r2 = 0 → Bs p Act R 1 w2 z2))))
theorem Pt_ok {Can Act : Nat → Mm → Nat → (Int32 → Mm → Nat → Prop) → Prop} {cv : Int32} {K : Nat × (Nat → Int32) → Prop} {E : Int32 × Int32 → Prop} (hd : d + 63 ≤ p ∨ p + 2 ≤ d) (hz : ∀ q, Fz q → ¬ (p ≤ q ∧ q < p + 2)) (hL : L ≤ 700) (hT : TX tx a L) (hK : PK h a L i) (hF : HasF w d Fz f)
    (hcan : ∀ (Q : Int32 → Mm → Nat → Prop), Q cv (pw w p d h tx) z → Can d (pw w p d h tx) z Q)
    (hact : ¬ cv = 0 → ∀ (h : Nat → Int32) (Q : Int32 → Mm → Nat → Prop), (∀ v w', HasF w' d Fz f' → (∀ q, ¬ (d ≤ q ∧ q < d + 63) → w' q = pw w p d h tx q) → Q v w' z) → Act d (pw w p d h tx) z Q)
    (H : Out (sAct a L cv f' i) K E)
    (hok : ∀ j, K (j, f') → ¬ cv = 0 → ∀ w' h', PK h' a L j → HasF w' d Fz f' → FrP d p w w' → R (pw w' p d h' tx) z)
    (her : ∀ c o, E (c, o) → ∀ h', PE h' L c o → R (pw w p d h' tx) z) : Pt p Can Act R (pw w p d h tx) z := by
  have H1 := H.eb
  refine ⟨P_i, P_failedK hK ⟨fun hh => absurd rfl hh, fun _ => ⟨_, P_r0, (hF.pw hd hz).any.is, hcan _ ⟨fun hb => ⟨P_i, P_semi hL hT hK (fun j hr h5 hk5 => (sSemi_f (a := a) (L := L) (i := i) (j := j) hr).elim) (fun c o hr h5 hE => ⟨fun _ => her c o (H1.er (by rw [hb]; exact hr)) h5 hE, fun hh => absurd rfl hh⟩)⟩, fun hb => ⟨P_i, P_semi hL hT hK (fun j hr h5 hk5 => ⟨fun hh => absurd hh (by decide), fun _ => ⟨_, P_r0, (hF.pw hd hz).any.is, hact hb _ _ (fun v w' h6 h7 => ?_)⟩⟩) (fun c o hr h5 hE => ⟨fun _ => her c o (H1.er (by rw [nz hb]; exact hr)) h5 hE, fun hh => absurd rfl hh⟩)⟩⟩⟩⟩⟩
  rw [pw_self hd h7]
  exact hok j (H1.ok (by rw [nz hb]; exact hr)) hb _ _ hk5 h6 (FrP.of h7)
theorem Pt_er {Can Act : Nat → Mm → Nat → (Int32 → Mm → Nat → Prop) → Prop} (hE : PE h L c o) (hq : R (pw w p d h tx) z) : Pt p Can Act R (pw w p d h tx) z :=
  ⟨P_i, P_failedE hE ⟨fun _ => ⟨P_i, P_semiE hE ⟨fun _ => hq, fun hh => absurd rfl hh⟩⟩, fun hh => absurd hh (by decide)⟩⟩
theorem P_buy {K : Nat × (Nat → Int32) → Prop} {E : Int32 × Int32 → Prop} (hd : d + 63 ≤ p ∨ p + 2 ≤ d) (hz : ∀ q, Fz q → ¬ (p ≤ q ∧ q < p + 2)) (hzd : ∀ q, Fz q → ¬ (d ≤ q ∧ q < d + 63)) (hL : L ≤ 700) (hT : TX tx a L) (hK : PK h a L i) (hI : Inv f) (hF : HasF w d Fz f)
    (H : Out (sBuy a L f i) K E)
    (hok : ∀ j f', K (j, f') → ∀ w' h', PK h' a L j → HasF w' d Fz f' → Inv f' → FrP d p w w' → R (pw w' p d h' tx) z)
    (her : ∀ c o, E (c, o) → ∀ h', PE h' L c o → R (pw w p d h' tx) z) : F_X1_readBuy p (pw w p d h tx) z R := by
  have hB2 := clI hI.2.1.2.1
  have H1 := H.eb
  have kE : ∀ (v k y : Int32) (h' : Nat → Int32) c o, PE h' L c o → R (pw w p d h' tx) z → Pt p (fun q w z Q => F_X3_canSell q v k y w z Q) (fun q w z Q => F_X3_sell q v k y w z Q) R (pw w p d h' tx) z := fun v k y h' c o hE hq => Pt_er hE hq
  refine ⟨P_i, P_adv hL hT hK (fun h1 hk1 => ⟨P_i, P_known hd hz hL hT hk1 hI hF (fun v j hr h2 hk2 => ?_) (fun c o hr h2 hE v _ => ?_)⟩)⟩
  · refine ⟨P_i, P_kind hL hT hk2 (fun k j2 hr2 h3 hk3 => ?_) (fun c o hr2 h3 hE k _ => ?_)⟩
    · refine ⟨P_i, P_number hL hT hk3 (by decide) (by decide) (fun y j3 hr3 h4 hk4 => ?_) (fun c o hr3 h4 y hE => ?_)⟩
      · have kT : Pt p (fun q w z Q => F_X3_canSell q v k y w z Q) (fun q w z Q => F_X3_sell q v k y w z Q) R (pw w p d h4 tx) z := Pt_ok (cv := mayBuyF f v k y) (f' := buyF f v k y) hd hz hL hT hk4 hF
          (fun Q hq => (hF.pw hd hz).canSell hI (sKnown_in (by omega) hr) hq)
          (fun hb h Q hq => (hF.pw hd hz).sell hzd hI (sKnown_in (by omega) hr) (mayBuy_30 hI hb) (fun w' a b => hq _ w' a b))
          (((H1.ok hr).eb.ok hr2).eb.ok hr3 :)
          (fun j hj hb w' h' a b c => hok _ _ hj w' h' a b (hI.buy (sKnown_in (by omega) hr) (sKind_in hr2) (mayBuy_30 hI hb)) c) her
        exact kT
      · exact kE v k y h4 c o hE (her c o (((H1.ok hr).eb.ok hr2).eb.er hr3) h4 hE)
    · exact ⟨P_i, P_numberE hE (fun y => kE v k y h3 c o hE (her c o ((H1.ok hr).eb.er hr2) h3 hE))⟩
  · exact ⟨P_i, P_kindE hL hE (fun k => ⟨P_i, P_numberE hE (fun y => kE v k y h2 c o hE (her c o (H1.er hr) h2 hE))⟩)⟩
end
