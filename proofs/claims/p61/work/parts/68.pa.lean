/-! the passengers of a setup -/
def putL (a : Nat → Int32) (fr row : Nat) : Nat → (Nat → Int32) → Nat → Int32
  | 0, f => f
  | k + 1, f => upd (putL a fr row k f) (row + 7 + k) (a (fr + k))
def addPasF (a : Nat → Int32) (fr n : Nat) (f : Nat → Int32) (v : Int32) : Nat → Int32 :=
  upd (upd (upd (upd (upd (putL a fr (21 + 13 * cl (f 2)) n (upd f (21 + 13 * cl (f 2) + 6) (nI n))) (21 + 13 * cl (f 2)) v) (21 + 13 * cl (f 2) + 3) (-1)) (21 + 13 * cl (f 2) + 4) (-1)) 8 (f 8 + v)) 2 (f 2 + 1)
def sPass (a : Nat → Int32) (L : Nat) (f : Nat → Int32) (i : Nat) : EC :=
  if wIs a L i lit_5.length (fun j => lit_5.getD j 0) = true then
    (if f 2 = 8 then .error (5, oF a L i)
    else if isNm a L (tTo a L i) = true then
      (if fnd a L (tTo a L i) f = -1 then eb (sNum a L 0 99999 (tTo a L (tTo a L i))) fun r => eb (sSemi a L true r.2) fun j => .ok (j, addPasF a (tFrom a L (tTo a L i)) (tTo a L (tTo a L i) - tFrom a L (tTo a L i)) f r.1)
      else .error (4, oF a L (tTo a L i)))
    else .error (1, oF a L (tTo a L i)))
  else .error (1, oF a L i)
def sPs (a : Nat → Int32) (L : Nat) : Nat → (Nat → Int32) → Nat → EC
  | 0, f, i => .ok (i, f)
  | n + 1, f, i => if wIs a L i lit_5.length (fun j => lit_5.getD j 0) = true then eb (sPass a L f i) fun r => sPs a L n r.2 r.1 else .ok (i, f)
section
variable {a f : Nat → Int32} {fr n row : Nat} {v : Int32}
theorem putL_out : ∀ (k : Nat) {j : Nat}, j < row + 7 ∨ row + 7 + k ≤ j → putL a fr row k f j = f j := by
  intro k
  induction k with
  | zero => intros; rfl
  | succ k ih =>
    intro j hj
    rw [putL, upd_ne (by omega)]
    exact ih (by omega)
theorem putL_in : ∀ (k : Nat) {t : Nat}, t < k → putL a fr row k f (row + 7 + t) = a (fr + t) := by
  intro k
  induction k with
  | zero => intro t ht; omega
  | succ k ih =>
    intro t ht
    rw [putL]
    by_cases h : t = k
    · rw [h, upd_eq]
    · rw [upd_ne (by omega)]
      exact ih (by omega)
theorem aP_out {j : Nat} (h2 : j ≠ 2) (h8 : j ≠ 8) (hn : n ≤ 6) (hj : j < 21 + 13 * cl (f 2) ∨ 21 + 13 * cl (f 2) + 13 ≤ j) : addPasF a fr n f v j = f j := by
  unfold addPasF
  rw [upd_ne h2, upd_ne h8, upd_ne (by omega), upd_ne (by omega), upd_ne (by omega), putL_out n (by omega), upd_ne (by omega)]
theorem aP_2 : addPasF a fr n f v 2 = f 2 + 1 := upd_eq _ _ _
theorem aP_8 : addPasF a fr n f v 8 = f 8 + v := by
  unfold addPasF
  rw [upd_ne (by omega), upd_eq]
theorem aP_r0 : addPasF a fr n f v (21 + 13 * cl (f 2)) = v := by
  unfold addPasF
  rw [upd_ne (by omega), upd_ne (by omega), upd_ne (by omega), upd_ne (by omega), upd_eq]
theorem aP_r3 : addPasF a fr n f v (21 + 13 * cl (f 2) + 3) = -1 := by
  unfold addPasF
  rw [upd_ne (by omega), upd_ne (by omega), upd_ne (by omega), upd_eq]
theorem aP_r4 : addPasF a fr n f v (21 + 13 * cl (f 2) + 4) = -1 := by
  unfold addPasF
  rw [upd_ne (by omega), upd_ne (by omega), upd_eq]
theorem aP_r5 : addPasF a fr n f v (21 + 13 * cl (f 2) + 5) = f (21 + 13 * cl (f 2) + 5) := by
  unfold addPasF
  rw [upd_ne (by omega), upd_ne (by omega), upd_ne (by omega), upd_ne (by omega), upd_ne (by omega), putL_out n (by omega), upd_ne (by omega)]
theorem aP_r6 : addPasF a fr n f v (21 + 13 * cl (f 2) + 6) = nI n := by
  unfold addPasF
  rw [upd_ne (by omega), upd_ne (by omega), upd_ne (by omega), upd_ne (by omega), upd_ne (by omega), putL_out n (by omega), upd_eq]
theorem aP_r7 {t : Nat} (ht : t < n) : addPasF a fr n f v (21 + 13 * cl (f 2) + 7 + t) = a (fr + t) := by
  unfold addPasF
  rw [upd_ne (by omega), upd_ne (by omega), upd_ne (by omega), upd_ne (by omega), upd_ne (by omega), putL_in n ht]
theorem not8 (hI : Inv f) (h : ¬ f 2 = 8) : vp_in (f 2) 8 := by
  have h1 := vp_in_iff.mp hI.2.1.2.1
  have h2 : ¬ (f 2).toInt = (8 : Int32).toInt := fun hh => h (ieq.mpr hh)
  rw [show (8 : Int32).toInt = 8 by decide] at h2
  exact vp_in_iff.mpr (by omega)
theorem Inv.pas (hI : Inv f) (hZ : Zr f) (h8 : vp_in (f 2) 8) (hn : n ≤ 6) (hl : ∀ t, t < n → leB (a (fr + t)) = true) : Inv (addPasF a fr n f v) := by
  obtain ⟨hcl, hB, hz, hP, hT, hC, hs⟩ := hI
  obtain ⟨z3, z4, z5, zr⟩ := hZ
  have c1 := clI h8
  have c2 := cl_succ h8 (by omega)
  have h8' := vp_in_iff.mp h8
  have hB1 := clI hB.1
  have ho : ∀ j, j ≠ 2 → j ≠ 8 → (j < 21 + 13 * cl (f 2) ∨ 21 + 13 * cl (f 2) + 13 ≤ j) → addPasF a fr n f v j = f j := fun j h2 h8 hj => aP_out h2 h8 hn hj
  unfold Inv Bd
  rw [ho 0 (by omega) (by omega) (by omega), ho 1 (by omega) (by omega) (by omega), ho 3 (by omega) (by omega) (by omega), ho 4 (by omega) (by omega) (by omega), ho 5 (by omega) (by omega) (by omega), aP_2, c2.1]
  have e0 : cl (0 : Int32) = 0 := cl0
  refine ⟨hcl, ⟨hB.1, vp_in_iff.mpr (by omega), hB.2.2⟩, fun i hi => by rw [ho _ (by omega) (by omega) (by omega)]; exact hz i hi, fun p hp => ?_, fun t ht => by rw [z3, e0] at ht; omega, fun q hq => by rw [z4, e0] at hq; omega, by rw [z5, z3, e0]; rfl⟩
  by_cases h : p = cl (f 2)
  · rw [h]
    unfold IP
    rw [aP_r3, aP_r5, aP_r6, show cl (nI n) = n from nI_cl (by omega)]
    refine ⟨Or.inl rfl, Or.inl (zr _ (by omega) (by omega)), nIin (by omega) (by omega), fun k hk => ?_⟩
    rw [aP_r7 hk]
    exact leB_t.mp (hl k hk)
  · exact (hP p (by omega)).to (fun k hk => ho _ (by omega) (by omega) (by omega)) (Nat.le_refl _) (Nat.le_refl _)
theorem Zr.pas (hZ : Zr f) (h8 : vp_in (f 2) 8) (hn : n ≤ 6) : Zr (addPasF a fr n f v) := by
  obtain ⟨z3, z4, z5, zr⟩ := hZ
  have c1 := clI h8
  have c2 := cl_succ h8 (by omega)
  unfold Zr
  rw [aP_out (by omega) (by omega) hn (by omega), aP_out (by omega) (by omega) hn (by omega), aP_out (by omega) (by omega) hn (by omega), aP_2, c2.1]
  exact ⟨z3, z4, z5, fun j h1 h2 => by rw [aP_out (by omega) (by omega) hn (by omega)]; exact zr j (by omega) h2⟩
end
section
variable {w w' : Mm} {p d z L i : Nat} {h tx a f f' : Nat → Int32} {Fz Fz' : Nat → Prop} {Q : Int32 → Mm → Nat → Prop} {R : Mm → Nat → Prop} {T : Mm → Prop} {c o : Int32}
/-- a passenger with the name at q comes into a state -/
theorem HasF.pas {b q fr n : Nat} {v : Int32} (hz : ∀ q, Fz q → ¬ (b ≤ q ∧ q < b + 63)) (hI : Inv f) (hZ : Zr f) (h : HasF w b Fz f) (h8 : vp_in (f 2) 8) (hn : n ≤ 6) {hh : Nat → Int32} (hs : Str w Fz q n hh) (hhe : ∀ t, t < n → hh t = a (fr + t)) (hq : ∀ w', HasF w' b Fz (addPasF a fr n f v) → (∀ q, ¬ (b ≤ q ∧ q < b + 63) → w' q = w q) → R w' z) : F_X3_addPassenger b q v w z R := by
  have c1 := clI h8
  have c2 := cl_succ h8 (by omega)
  obtain ⟨hd, zn, nm, pa, tk, cs, h1, h2, h3⟩ := h
  rw [h1.self]
  refine c_addPassenger hI.2.1 h2 h8 aP_2 aP_8 aP_r0 aP_r3 aP_r4 (by rw [aP_r5]; exact hZ.2.2.2 _ (by omega) (by omega)) (fun j h2 h8 hj => aP_out h2 h8 hn hj) (fun hd1 pa1 h5 => hq _ ⟨_, _, _, _, _, _, hS_sw, h5, fun p hp => ?_⟩ (fun q hq => sw_o hq))
  rw [aP_2, c2.1] at hp
  by_cases hpe : p = cl (f 2)
  · rw [hpe, updN_eq, aP_r6, show cl (nI n) = n from nI_cl (by omega)]
    exact hs.to (fun q hq => sw_o (hz q hq)) (fun _ h => h) (fun t ht => by rw [hhe t ht]; exact aP_r7 ht)
  · have hN := Nm.len hI (p := p) (by omega)
    rw [updN_ne hpe, aP_out (by omega) (by omega) hn (by omega)]
    exact (h3 p (by omega)).to (fun q hq => sw_o (hz q hq)) (fun _ h => h) (fun t ht => aP_out (by omega) (by omega) hn (by omega))
/-- the frame where new cells may come -/
def FrZ (d p z : Nat) (w w' : Mm) : Prop := ∀ q, q < z → ¬ (d ≤ q ∧ q < d + 63) → ¬ (p ≤ q ∧ q < p + 2) → w' q = w q
/-- names come: what was frozen stays so -/
def FzE (Fz : Nat → Prop) (z : Nat) (Fz' : Nat → Prop) (z' : Nat) : Prop := z ≤ z' ∧ (∀ q, Fz q → Fz' q) ∧ ∀ q, Fz' q → (Fz q ∨ z ≤ q) ∧ q < z'
def FzN (Fz : Nat → Prop) (z : Nat) : Nat → Prop := fun q => Fz q ∨ q = z + 2 ∨ q = z + 3
theorem FzE.rfl {Fz : Nat → Prop} {z : Nat} (h : ∀ q, Fz q → q < z) : FzE Fz z Fz z := ⟨Nat.le_refl _, fun _ h => h, fun q hq => ⟨Or.inl hq, h q hq⟩⟩
theorem FzE.trans {Fz Fz' Fz'' : Nat → Prop} {z z' z'' : Nat} (h : FzE Fz z Fz' z') (h' : FzE Fz' z' Fz'' z'') : FzE Fz z Fz'' z'' := ⟨Nat.le_trans h.1 h'.1, fun q hq => h'.2.1 q (h.2.1 q hq), fun q hq => ⟨by
  rcases (h'.2.2 q hq).1 with h1 | h1
  · exact (h.2.2 q h1).1
  · exact Or.inr (Nat.le_trans h.1 h1), (h'.2.2 q hq).2⟩⟩
theorem FzN.e {Fz : Nat → Prop} {z : Nat} (h : ∀ q, Fz q → q < z) : FzE Fz z (FzN Fz z) (z + 4) := ⟨by omega, fun q hq => Or.inl hq, fun q hq => by
  rcases hq with hq | hq | hq
  · exact ⟨Or.inl hq, by have := h q hq; omega⟩
  · exact ⟨Or.inr (by omega), by omega⟩
  · exact ⟨Or.inr (by omega), by omega⟩⟩
theorem P_pwz {q : Nat} (h1 : p + 2 ≤ z) (hw : ∀ q, q < z → w' q = pw w p d h tx q) : w' = pw w' p d h tx := by
  funext q
  by_cases hq : p ≤ q ∧ q < p + 2
  · rw [hw q (by omega)]
    unfold pw
    rw [if_pos hq, if_pos hq]
  · exact (pw_o hq).symm
theorem pw_self' (hw : ∀ q, p ≤ q ∧ q < p + 2 → w' q = pw w p d h tx q) : w' = pw w' p d h tx := by
  funext q
  by_cases hq : p ≤ q ∧ q < p + 2
  · rw [hw q hq]
    unfold pw
    rw [if_pos hq, if_pos hq]
  · exact (pw_o hq).symm
theorem SB.app0 {w : Mm} {b t cap z mc ms : Nat} {l : List Int32} (h : SB w b t cap l) {c : Int32} (hc : 0 ≤ c.toInt) (hc2 : c.toInt < 128) (hn : l.length + 1 ≤ cap) {Q : Nat → Mm → Nat → Prop}
    (hq : ∀ w', SB w' b t cap (l ++ [c]) → (∀ q, q ≠ b → q ≠ t → w' q = w q) → Q b w' z) : F_J4_append_cf468 b c w z mc ms Q := by
  obtain ⟨fl, fb, a1, a2, a3, a4, a5, a6, a7⟩ := id h
  refine ⟨h.is, 0, 0, Nat.zero_le _, Nat.zero_le _, _, fld_c a1 3, h.is, 0, 0, Nat.zero_le _, Nat.zero_le _, _, fld_c a1 0, _, _, arI_c a2, _, fld_c a1 1, ?_⟩
  rintro _ rfl
  rw [sh0, nIs (by omega)]
  have e1 : (nI (l.length + 1) - nI cap : Int32).toInt = (l.length + 1 : Nat) - (cap : Int) := by
    rw [isb _ _ (by rw [nI_toInt (by omega), nI_toInt (by omega)]; omega) (by rw [nI_toInt (by omega), nI_toInt (by omega)]; omega), nI_toInt (by omega), nI_toInt (by omega)]
  refine ⟨fun _ => ⟨h.is, h.lat ⟨fun hh => absurd hh (by decide), fun _ => ⟨fun hh => absurd (ilt.mp hh) (by rw [show (255 : Int32).toInt = 255 by decide]; omega), fun _ => ⟨fun hh => absurd hh (by decide), fun _ => ⟨_, fld_c a1 0, _, fld_c a1 3, _, obj_c a1, by simp only [List.length_cons, List.length_nil]; omega, ?_⟩⟩⟩⟩⟩, fun hh => absurd (ile.mpr (by rw [e1, i_0]; omega)) hh⟩
  rintro _ rfl
  refine ⟨_, _, arW_c (by rw [mset_ne (Ne.symm a3)]; exact a2), nIin (by omega) (by omega), ?_⟩
  rintro _ rfl
  rw [nI_cl (by omega), nIs (by omega), (byte_id hc hc2).2.2.2]
  refine hq _ ⟨fl, _, by rw [mset_ne a3, mset_eq, List.length_append]; rfl, mset_eq _ _ _, a3, by rw [List.length_append]; exact hn, a5, sb_fitU a6 ?_, fun i hi => ?_⟩ (fun q q2 q3 => by rw [mset_ne q3, mset_ne q2])
  · have := fit_b (v := c)
    rwa [(byte_id hc hc2).2.2.2] at this
  · rw [List.length_append, List.length_singleton] at hi
    by_cases hil : i = l.length
    · rw [hil, upd_eq, getD_app2 (Nat.le_refl _), Nat.sub_self]
      rfl
    · rw [upd_ne hil, getD_app1 (by omega)]
      exact a7 i (by omega)
theorem P_letters {Q : Nat → Mm → Nat → Prop} {b t : Nat} (hL : L ≤ 700) (hT : TX tx a L) (hN : isNm a L i = true) (hp : p + 2 ≤ b) (hp2 : p + 2 ≤ t) : ∀ (n k z : Nat) (w : Mm) (l : List Int32) (mc ms : Nat), k + n = tTo a L i - tFrom a L i → PK h a L i → SB (pw w p d h tx) b t 16 l → ch7 l → l = (List.range k).map (fun j => a (tFrom a L i + j)) → b < z → t < z → p + 2 ≤ z → 2 ≤ mc → 10 ≤ ms →
    (∀ w' h', PK h' a L (tTo a L i) → (∃ fb, w' z = some (true, .inl (0, [.ref (z + 1), .int 0, .int 0, .int 0])) ∧ w' (z + 1) = some (true, .inr (1, tTo a L i - tFrom a L i, .inl fb)) ∧ sb_Fit fb ∧ ∀ j, j < tTo a L i - tFrom a L i → fb j = a (tFrom a L i + j)) → (∀ q, q < z → q ≠ b → q ≠ t → ¬ (p ≤ q ∧ q < p + 2) → w' q = w q) → Q z (pw w' p d h' tx) (z + 2)) → B_X1_readNewName_53 p Q (n + 1) b (nI (tFrom a L i + k)) (pw w p d h tx) z mc ms := by
  unfold isNm at hN
  rw [Bool.and_eq_true, beq_iff_eq, decide_eq_true_eq] at hN
  intro n
  induction n with
  | zero =>
    intro k z w l mc ms hk hK hS hc hl hb ht hz hm hs hq
    have k1 := hK.1
    have hft := tTo_le a k1
    have hlen : l.length = tTo a L i - tFrom a L i := by
      rw [hl, List.length_map, List.length_range]
      omega
    unfold B_X1_readNewName_53
    refine ⟨_, P_g7, fun _ => ⟨P_i, P_adv hL hT hK (fun h' hk' => ?_)⟩, fun hh => absurd (by rw [hK.2.2.2.2.2.2.1, nIle (by omega) (by omega)]; omega) hh⟩
    have hS' : SB (pw w p d h' tx) b t 16 l := hS.to (by rw [pw_o (by omega), pw_o (by omega)]) (by rw [pw_o (by omega), pw_o (by omega)])
    refine ⟨hS'.is, mc, ms, Nat.le_refl _, Nat.le_refl _, hS'.str hc hb ht (by omega) hm (by omega) (fun w1 fb e1 e2 e3 e4 e5 => ?_)⟩
    rw [P_pwz (q := 0) hz e5]
    refine hq w1 h' hk' ⟨fb, e1, by rw [← hlen]; exact e2, e3, fun j hj => ?_⟩ (fun q q1 q2 q3 q4 => by rw [e5 q q1, pw_o q4])
    rw [e4 j (by omega), hl, List.getD_eq_getElem?_getD, List.getElem?_map, List.getElem?_range (by omega)]
    rfl
  | succ n ih =>
    intro k z w l mc ms hk hK hS hc hl hb ht hz hm hs hq
    have k1 := hK.1
    have hft := tTo_le a k1
    have hlen : l.length = k := by
      rw [hl, List.length_map, List.length_range]
    have hle := leB_t.mp (word_le a (k := tFrom a L i + k) hN.1 (by omega) (by omega))
    have htx : tx (tFrom a L i + k) = a (tFrom a L i + k) := (hT _ (by omega)).2.2.1 (by omega)
    have hcv : ((a (tFrom a L i + k)).toUInt32 % 65536).toInt32 = a (tFrom a L i + k) := by
      have e := (byte_id (v := a (tFrom a L i + k)) (by omega) (by omega)).1
      have e2 : a (tFrom a L i + k) &&& 255 = a (tFrom a L i + k) := by
        have h3 := byte_rel (a (tFrom a L i + k))
        refine ieq.mpr ?_
        rw [pk_and _ (m := 255) 8 (by decide), nI_toInt (by have : (a (tFrom a L i + k)).toBitVec.toNat % 2 ^ 8 < 2 ^ 8 := Nat.mod_lt _ (by decide); omega)]
        have hx : (a (tFrom a L i + k)).toInt = if 2 * (a (tFrom a L i + k)).toBitVec.toNat < 2 ^ 32 then ((a (tFrom a L i + k)).toBitVec.toNat : Int) else ((a (tFrom a L i + k)).toBitVec.toNat : Int) - 2 ^ 32 := by
          show (a (tFrom a L i + k)).toBitVec.toInt = _
          rw [BitVec.toInt_eq_toNat_cond]
          simp
        have hlt : (a (tFrom a L i + k)).toBitVec.toNat < 2 ^ 32 := (a (tFrom a L i + k)).toBitVec.isLt
        split at hx <;> omega
      rwa [e2] at e
    unfold B_X1_readNewName_53
    refine ⟨_, P_g7, fun hh => absurd hh (by rw [hK.2.2.2.2.2.2.1, nIle (by omega) (by omega)]; omega), fun _ => ⟨_, P_r1, _, _, P_a, nIin (by omega) (by omega), hS.is, 0, 0, Nat.zero_le _, Nat.zero_le _, ?_⟩⟩
    rw [nI_cl (by omega), htx, hcv]
    refine hS.app0 (c := a (tFrom a L i + k)) (by omega) (by omega) (by omega) (fun w1 a1 a5 => ?_)
    have ew : w1 = pw w1 p d h tx := pw_self' (fun q hq => a5 q (by omega) (by omega))
    rw [nIs (by omega), Nat.add_assoc, Nat.sub_zero, Nat.sub_zero, ew]
    rw [ew] at a1
    refine ih (k + 1) z w1 _ mc ms (by omega) hK a1 (ch7_app hc (ch7_1 (by omega) (by omega))) ?_ hb ht hz hm hs (fun w' h' b1 b2 b3 => hq w' h' b1 b2 (fun q q1 q2 q3 q4 => by rw [b3 q q1 q2 q3 q4, a5 q q2 q3, pw_o q4]))
    rw [hl, List.range_succ, List.map_append]
    rfl
theorem isNm_t {a : Nat → Int32} {L i : Nat} (hN : isNm a L i = true) : tTok a L i = 1 ∧ tTo a L i ≤ tFrom a L i + 6 := by
  unfold isNm at hN
  rw [Bool.and_eq_true, beq_iff_eq, decide_eq_true_eq] at hN
  exact hN
/-- a name of a new passenger is read -/
theorem P_newName30 {Q : Nat → Mm → Nat → Prop} {mc ms : Nat} (hL : L ≤ 700) (hT : TX tx a L) (hN : isNm a L i = true) (hK : PK h a L i) (hz : p + 2 ≤ z) (hm : 4 ≤ mc) (hs : 30 ≤ ms)
    (hq : ∀ w' h', PK h' a L (tTo a L i) → (∃ fb, w' (z + 2) = some (true, .inl (0, [.ref (z + 3), .int 0, .int 0, .int 0])) ∧ w' (z + 3) = some (true, .inr (1, tTo a L i - tFrom a L i, .inl fb)) ∧ sb_Fit fb ∧ ∀ j, j < tTo a L i - tFrom a L i → fb j = a (tFrom a L i + j)) → (∀ q, q < z → ¬ (p ≤ q ∧ q < p + 2) → w' q = w q) → Q (z + 2) (pw w' p d h' tx) (z + 4)) : B_X1_readNewName_30 p Q (pw w p d h tx) z mc ms := by
  have k1 := hK.1
  have hft := tTo_le a k1
  have hNt := isNm_t hN
  refine ⟨P_i, P_failedK hK ⟨fun _ => ⟨by omega, by omega, ?_⟩, fun hh => absurd rfl hh⟩⟩
  rintro _ rfl
  refine ⟨1, 16, by omega, by omega, SB.new (z := z + 1) (b := z) (by omega) (mset_eq _ _ _) (Nat.le_refl _) (Nat.le_refl _) (fun w1 a1 a2 => ?_)⟩
  have ew : w1 = pw w1 p d h tx := pw_self' (w := w) (fun q hq => by rw [a2 q (by omega) (by omega), mset_ne (by omega)])
  have ew2 : ∀ q, q < z → ¬ (p ≤ q ∧ q < p + 2) → w1 q = w q := fun q q1 q2 => by rw [a2 q (by omega) (by omega), mset_ne (by omega), pw_o q2]
  rw [ew] at a1 ⊢
  refine ⟨_, P_g6, tTo a L i - tFrom a L i + 1, ?_⟩
  rw [hK.2.2.2.2.2.1]
  have key := P_letters (Q := Q) (z := z + 2) (w := w1) (b := z) (t := z + 1) (mc := mc - 1 - 1) (ms := ms - 4 - 16) (d := d) hL hT hN (by omega) (by omega) (tTo a L i - tFrom a L i) 0 [] (by omega) hK a1 (fun v hv => absurd hv List.not_mem_nil) rfl (by omega) (by omega) (by omega) (by omega) (by omega) (fun w' h' b1 b2 b3 => hq w' h' b1 b2 (fun q q1 q2 => by rw [b3 q (by omega) (by omega) (by omega) q2, ew2 q q1 q2]))
  exact key
theorem P_newName30E {Q : Nat → Mm → Nat → Prop} {mc ms : Nat} (hE : PE h L c o) (hq : ∀ q, Q q (pw w p d h tx) z) : B_X1_readNewName_30 p Q (pw w p d h tx) z mc ms :=
  ⟨P_i, P_failedE hE ⟨fun hh => absurd hh (by decide), fun _ => fun q _ => hq q⟩⟩
theorem P_newNameE {Q : Nat → Mm → Nat → Prop} {mc ms : Nat} (hd : d + 63 ≤ p ∨ p + 2 ≤ d) (hz : ∀ q, Fz q → ¬ (p ≤ q ∧ q < p + 2)) (hL : L ≤ 700) (hE : PE h L c o) (hI : Inv f) (hF : HasF w d Fz f) (hq : ∀ q, Q q (pw w p d h tx) z) : F_X1_readNewName p (pw w p d h tx) z mc ms Q :=
  ⟨P_i, P_isNameE (fun v _ => ⟨fun _ => ⟨P_i, cl (f 2) + 1, P_find2E hL hE hI (hF.pw hd hz) (fun v _ => ⟨fun _ => P_newName30E hE hq, fun _ => ⟨P_i, P_failE hE.ne (P_newName30E hE hq)⟩⟩) _ 0 (by omega)⟩, fun _ => ⟨P_i, P_failE hE.ne (P_newName30E hE hq)⟩⟩)⟩
theorem P_pas27E {mc ms : Nat} (hd : d + 63 ≤ p ∨ p + 2 ≤ d) (hz : ∀ q, Fz q → ¬ (p ≤ q ∧ q < p + 2)) (hL : L ≤ 700) (hE : PE h L c o) (hI : Inv f) (hF : HasF w d Fz f) (hq : R (pw w p d h tx) z) : B_X1_readPassenger_27 p R (pw w p d h tx) z mc ms := by
  intro q l
  exact ⟨P_i, P_keyE l (by decide) (chr_lit _ (by decide)) hL hE ⟨P_i, mc, ms, Nat.le_refl _, Nat.le_refl _, P_newNameE hd hz hL hE hI hF (fun q => ⟨P_i, P_numberE hE (fun v => ⟨P_i, P_semiE hE ⟨fun _ => hq, fun hh => absurd rfl hh⟩⟩)⟩)⟩⟩
theorem P_passengerE {mc ms : Nat} (hd : d + 63 ≤ p ∨ p + 2 ≤ d) (hz : ∀ q, Fz q → ¬ (p ≤ q ∧ q < p + 2)) (hL : L ≤ 700) (hE : PE h L c o) (hI : Inv f) (hF : HasF w d Fz f) (hq : R (pw w p d h tx) z) : F_X1_readPassenger p (pw w p d h tx) z mc ms R := by
  have k := P_pas27E (mc := mc) (ms := ms) hd hz hL hE hI hF hq
  refine ⟨_, P_r0, _, (hF.pw hd hz).g2, fun _ => k, fun _ => fun q l => ⟨P_i, P_tokenIsE (by decide) hL hE l.str (chr_lit _ (by decide)) (fun v _ => ⟨fun _ => k, fun _ => ⟨P_i, P_failE hE.ne k⟩⟩)⟩⟩
theorem HasF.toU (h : HasF w d Fz f) (hFz : ∀ q, Fz q → q < z) (hd : d + 63 ≤ z) (hF' : ∀ q, Fz q → Fz' q) (hw : ∀ q, q < z → (d ≤ q ∧ q < d + 63) ∨ Fz q → w' q = w q) : HasF w' d Fz' f :=
  h.to (fun q hq => hw q (by
    rcases hq with hq | hq
    · omega
    · exact hFz q hq) hq) hF'
theorem P_passenger {K : Nat × (Nat → Int32) → Prop} {E : Int32 × Int32 → Prop} {mc ms : Nat} (hd : d + 63 ≤ p ∨ p + 2 ≤ d) (hz : ∀ q, Fz q → ¬ (p ≤ q ∧ q < p + 2)) (hzd : ∀ q, Fz q → ¬ (d ≤ q ∧ q < d + 63)) (hFz : ∀ q, Fz q → q < z) (hpz : p + 2 ≤ z) (hdz : d + 63 ≤ z) (hm : 4 ≤ mc) (hs : 30 ≤ ms)
    (hL : L ≤ 700) (hT : TX tx a L) (hK : PK h a L i) (hI : Inv f) (hF : HasF w d Fz f) (hZ : Zr f) (hFF : FF w Fz) (H : Out (sPass a L f i) K E)
    (hok : ∀ j f', K (j, f') → ∀ Fz' w' h', FzE Fz z Fz' (z + 4) → PK h' a L j → HasF w' d Fz' f' → Inv f' → Zr f' → f' 2 = f 2 + 1 → vp_in (f 2) 8 → FF w' Fz' → FrZ d p z w w' → R (pw w' p d h' tx) (z + 4))
    (her : ∀ c o, E (c, o) → ∀ Fz' w' h' z', FzE Fz z Fz' z' → PE h' L c o → HasF w' d Fz' f → FF w' Fz' → FrZ d p z w w' → R (pw w' p d h' tx) z') : F_X1_readPassenger p (pw w p d h tx) z mc ms R := by
  have hB2 := clI hI.2.1.2.1
  have k1 := hK.1
  have eE : ∀ h' c o, PE h' L c o → E (c, o) → R (pw w p d h' tx) z := fun h' c o hE he => her c o he Fz w h' z (FzE.rfl hFz) hE hF hFF (fun _ _ _ _ => rfl)
  have hzU : ∀ q, FzN Fz z q → ¬ (p ≤ q ∧ q < p + 2) := fun q hq => by
    rcases hq with hq | hq | hq
    · exact hz q hq
    · omega
    · omega
  unfold sPass at H
  by_cases hw : wIs a L i lit_5.length (fun j => lit_5.getD j 0) = true
  · have H := H.if1 hw
    have hkey : sKey a L lit_5 i = .ok (tTo a L i) := by
      unfold sKey
      rw [if_pos hw]
    by_cases h8 : f 2 = 8
    · have H := H.if1 h8
      refine ⟨_, P_r0, _, (hF.pw hd hz).g2, fun hh => absurd h8 hh, fun _ => fun q l => ⟨P_i, P_tokenIs (by decide) hL hT hK l.str (chr_lit _ (by decide)) ?_⟩⟩
      rw [if_pos hw]
      exact ⟨fun hh => absurd hh (by decide), fun _ => ⟨P_i, P_failK hK (by decide) (fun h' hE => P_pas27E hd hz hL hE hI hF (eE h' _ _ hE H))⟩⟩
    · have H := H.if0 h8
      have v8 := not8 hI h8
      have ht := tTo_le a k1
      refine ⟨_, P_r0, _, (hF.pw hd hz).g2, fun _ => fun q l => ⟨P_i, P_key l (by decide) (chr_lit _ (by decide)) hL hT hK (fun j hr h1 hk1 => ?_) (fun c o hr h1 hE => ?_)⟩, fun hh => absurd hh h8⟩
      rotate_left
      · rw [hkey] at hr
        exact absurd hr (by intro hh; injection hh)
      · rw [hkey] at hr
        injection hr with hr
        rw [← hr] at hk1
        have eN : ∀ h' c o, PE h' L c o → E (c, o) → ∀ q, isO (pw w p d h' tx) p 5 ∧ F_X1_readNumber p 0 99999 (pw w p d h' tx) z (fun r13 w14 z15 => isO w14 p 5 ∧ F_X1_readSemicolon p 1 w14 z15 (fun r17 w18 z19 => (r17 = 0 → R w18 z19) ∧ (¬ r17 = 0 → ∃ q21, fld w18 p 5 0 = some (.ref (q21)) ∧ isO w18 q21 7 ∧ F_X3_addPassenger q21 q r13 w18 z19 (fun w24 z25 => R w24 z25)))) := fun h' c o hE he q => ⟨P_i, P_numberE hE (fun v => ⟨P_i, P_semiE hE ⟨fun _ => eE h' c o hE he, fun hh => absurd rfl hh⟩⟩)⟩
        refine ⟨P_i, 4, 30, hm, hs, P_i, P_isName hL hk1 ?_⟩
        by_cases hN : isNm a L (tTo a L i) = true
        · have H := H.if1 hN
          rw [if_pos hN]
          refine ⟨fun _ => ⟨P_i, cl (f 2) + 1, P_find2 hL hT hk1 hI (hF.pw hd hz) _ 0 (by omega) ?_⟩, fun hh => absurd hh (by decide)⟩
          show (fnd a L (tTo a L i) f = -1 → _) ∧ (¬ fnd a L (tTo a L i) f = -1 → _)
          refine ⟨fun hf => ?_, fun hf => ⟨P_i, P_failK hk1 (by decide) (fun h' hE => P_newName30E hE (fun q => eN h' _ _ hE (H.if0 hf) q))⟩⟩
          have H := (H.if1 hf).eb
          have hNt := isNm_t hN
          have hft := tTo_le a hk1.1
          refine P_newName30 hL hT hN hk1 hpz (Nat.le_refl _) (Nat.le_refl _) (fun w2 h2 hk2 hstr hw2 => ?_)
          obtain ⟨fb, s1, s2, s3, s4⟩ := hstr
          have hFe := FzN.e hFz
          have hF2 : HasF w2 d (FzN Fz z) f := hF.toU hFz hdz (fun q hq => Or.inl hq) (fun q q1 q2 => hw2 q q1 (by
            rcases q2 with q2 | q2
            · omega
            · exact hz q q2))
          have hFF2 : FF w2 (FzN Fz z) := fun q hq bb n f' he => by
            rcases hq with hq | hq | hq
            · refine hFF q hq bb n f' ?_
              rw [← he, hw2 q (hFz q hq) (hz q hq)]
            · rw [hq, s1] at he
              cases he
            · rw [hq, s2] at he
              injection he with he
              injection he with he1 he
              injection he with he
              injection he with he2 he
              injection he with he3 he
              injection he with he
              rw [← he]
              exact s3
          have hFr2 : FrZ d p z w w2 := fun q q1 q2 q3 => hw2 q q1 q3
          have hzdU : ∀ q, FzN Fz z q → ¬ (d ≤ q ∧ q < d + 63) := fun q hq => by
            rcases hq with hq | hq | hq
            · exact hzd q hq
            · omega
            · omega
          refine ⟨P_i, P_number hL hT hk2 (by decide) (by decide) (fun v j2 hr2 h3 hk3 => ⟨P_i, P_semi hL hT hk3 (fun j3 hr3 h4 hk4 => ⟨fun hh => absurd hh (by decide), fun _ => ⟨_, P_r0, (hF2.pw hd hzU).any.is, ?_⟩⟩) (fun c o hr3 h4 hE => ⟨fun _ => her c o ((H.ok hr2).eb.er hr3) _ w2 h4 _ hFe hE hF2 hFF2 hFr2, fun hh => absurd rfl hh⟩)⟩) (fun c o hr2 h3 v hE => ⟨P_i, P_semiE hE ⟨fun _ => her c o (H.er hr2) _ w2 h3 _ hFe hE hF2 hFF2 hFr2, fun hh => absurd rfl hh⟩⟩)⟩
          have hStr : Str (pw w2 p d h4 tx) (FzN Fz z) (z + 2) (tTo a L (tTo a L i) - tFrom a L (tTo a L i)) fb := ⟨true, true, z + 3, _, fb, Or.inr (Or.inl rfl), Or.inr (Or.inr rfl), by rw [pw_o (by omega)]; exact s1, by rw [pw_o (by omega)]; exact s2, fun _ _ => rfl⟩
          refine (hF2.pw hd hzU).pas (a := a) hzdU hI hZ v8 (by omega) hStr s4 (fun w5 a1 a2 => ?_)
          rw [pw_self hd a2]
          have hw5 : ∀ q, ¬ (d ≤ q ∧ q < d + 63) → ¬ (p ≤ q ∧ q < p + 2) → w5 q = w2 q := fun q q1 q2 => by rw [a2 q q1, pw_o q2]
          refine hok j3 _ ((H.ok hr2).eb.ok hr3 :) _ w5 h4 hFe hk4 a1 (hI.pas hZ v8 (by omega) (fun t ht => word_le a hNt.1 (by omega) (by omega))) (hZ.pas v8 (by omega)) aP_2 v8 (fun q hq bb n f' he => hFF2 q hq bb n f' ?_) (fun q q1 q2 q3 => by rw [hw5 q q2 q3]; exact hFr2 q q1 q2 q3)
          rw [← he, hw5 q (hzdU q hq) (hzU q hq)]
        · have H := H.if0 hN
          rw [if_neg hN]
          exact ⟨fun hh => absurd rfl hh, fun _ => ⟨P_i, P_failK hk1 (by decide) (fun h' hE => P_newName30E hE (fun q => eN h' _ _ hE H q))⟩⟩
  · have H := H.if0 hw
    have hkey : sKey a L lit_5 i = .error (1, oF a L i) := by
      unfold sKey
      rw [if_neg hw]
    have k27 : B_X1_readPassenger_27 p R (pw w p d h tx) z mc ms := by
      intro q l
      refine ⟨P_i, P_key l (by decide) (chr_lit _ (by decide)) hL hT hK (fun j hr => ?_) (fun c o hr h1 hE => ?_)⟩
      · rw [hkey] at hr
        exact absurd hr (by intro hh; injection hh)
      · rw [hkey] at hr
        injection hr with hr
        injection hr with hr1 hr2
        rw [← hr1, ← hr2] at hE
        exact ⟨P_i, mc, ms, Nat.le_refl _, Nat.le_refl _, P_newNameE hd hz hL hE hI hF (fun q => ⟨P_i, P_numberE hE (fun v => ⟨P_i, P_semiE hE ⟨fun _ => eE h1 _ _ hE H, fun hh => absurd rfl hh⟩⟩)⟩)⟩
    refine ⟨_, P_r0, _, (hF.pw hd hz).g2, fun _ => k27, fun _ => fun q l => ⟨P_i, P_tokenIs (by decide) hL hT hK l.str (chr_lit _ (by decide)) ?_⟩⟩
    rw [if_neg hw]
    exact ⟨fun _ => k27, fun hh => absurd rfl hh⟩
end
