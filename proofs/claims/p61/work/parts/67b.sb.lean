/-! builders of strings -/
def SB (w : Mm) (b t cap : Nat) (l : List Int32) : Prop := ∃ (fl : Int32) (fb : Nat → Int32), w b = some (true, .inl (1, [.ref t, .int 0, .int fl, .int (nI l.length)])) ∧ w t = some (true, .inr (1, cap, .inl fb)) ∧ b ≠ t ∧ l.length ≤ cap ∧ cap ≤ 702 ∧ sb_Fit fb ∧ ∀ i, i < l.length → fb i = l.getD i 0
def gr (cap need : Nat) : Nat := if need ≤ cap then cap else max need (2 * cap + 2)
theorem gr_le {cap need : Nat} : cap ≤ gr cap need := by
  unfold gr
  split <;> omega
theorem gr_need {cap need : Nat} : need ≤ gr cap need := by
  unfold gr
  split <;> omega
theorem gr_702 {cap need : Nat} (h : cap ≤ 702) (hn : need ≤ 300) : gr cap need ≤ 702 := by
  unfold gr
  split <;> omega
/-- no constant cell comes -/
def NFk (w w' : Mm) : Prop := ∀ q c, w' q = some (false, c) → w q = some (false, c)
theorem NFk.rfl {w : Mm} : NFk w w := fun _ _ h => h
theorem NFk.trans {w w' w'' : Mm} (h : NFk w w') (h' : NFk w' w'') : NFk w w'' := fun q c hq => h q c (h' q c hq)
theorem NFk.ms {w w' : Mm} {a : Nat} {e : Ce} (h : NFk w w') : NFk w (mset w' a e) := fun q c hq => by
  by_cases h1 : q = a
  · rw [h1, mset_eq] at hq
    exact absurd hq (by intro hh; injection hh with hh; injection hh with hh; exact absurd hh (by decide))
  · rw [mset_ne h1] at hq
    exact h q c hq
def FrB (b t z : Nat) (w w' : Mm) : Prop := (∀ q, q < z → q ≠ b → q ≠ t → w' q = w q) ∧ NFk w w'
def ch7 (l : List Int32) : Prop := ∀ v, v ∈ l → 0 ≤ v.toInt ∧ v.toInt < 128
theorem fit_b {v : Int32} : fits .byte (.int (vp_nar .byte (v.toInt8.toInt32))) = true := by
  rw [vp_nar_byte]
  exact pk_fb _
theorem jmax_toI (x y : Int32) : (jmax x y).toInt = if x.toInt < y.toInt then y.toInt else x.toInt := by
  unfold jmax
  by_cases hc : x < y
  · rw [if_pos hc, if_pos (ilt.mp hc)]
  · rw [if_neg hc, if_neg (fun hh => hc (ilt.mpr hh))]
theorem getD_app1 {l s : List Int32} {i : Nat} (h : i < l.length) : (l ++ s).getD i 0 = l.getD i 0 := by
  rw [List.getD_eq_getElem?_getD, List.getD_eq_getElem?_getD, List.getElem?_append_left h]
theorem getD_app2 {l s : List Int32} {i : Nat} (h : l.length ≤ i) : (l ++ s).getD i 0 = s.getD (i - l.length) 0 := by
  rw [List.getD_eq_getElem?_getD, List.getD_eq_getElem?_getD, List.getElem?_append_right h]
section
variable {w w' : Mm} {b t z cap need : Nat} {l : List Int32} {Q : Int32 → Mm → Nat → Prop} {R : Mm → Nat → Prop}
theorem SB.is (h : SB w b t cap l) : isO w b 1 := by
  obtain ⟨fl, fb, h1, h2, h3, h4, h5, h6, h7⟩ := h
  exact isO_c h1
theorem SB.to (h : SB w b t cap l) (h1 : w' b = w b) (h2 : w' t = w t) : SB w' b t cap l := by
  obtain ⟨fl, fb, k1, k2, k3⟩ := h
  exact ⟨fl, fb, h1.trans k1, h2.trans k2, k3⟩
theorem nI_max (hc : cap ≤ 702) (hn : need ≤ 300) : (nI cap + jmax (nI need - nI cap) (nI cap + 2) : Int32) = nI (max need (2 * cap + 2)) := by
  have e1 : (nI need - nI cap : Int32).toInt = need - cap := by
    rw [isb _ _ (by rw [nI_toInt (by omega), nI_toInt (by omega)]; omega) (by rw [nI_toInt (by omega), nI_toInt (by omega)]; omega), nI_toInt (by omega), nI_toInt (by omega)]
  have e2 : (nI cap + 2 : Int32).toInt = cap + 2 := by
    rw [ia _ _ (by rw [nI_toInt (by omega), show (2 : Int32).toInt = 2 by decide]; omega) (by rw [nI_toInt (by omega), show (2 : Int32).toInt = 2 by decide]; omega), nI_toInt (by omega), show (2 : Int32).toInt = 2 by decide]
  have e3 : (jmax (nI need - nI cap) (nI cap + 2)).toInt = if (need : Int) - cap < cap + 2 then (cap : Int) + 2 else need - cap := by
    rw [jmax_toI, e1, e2]
  have e4 : -1000 ≤ (jmax (nI need - nI cap) (nI cap + 2)).toInt ∧ (jmax (nI need - nI cap) (nI cap + 2)).toInt ≤ 1000 := by
    rw [e3]
    split <;> omega
  refine ieq.mpr ?_
  rw [ia _ _ (by rw [nI_toInt (by omega)]; omega) (by rw [nI_toInt (by omega)]; omega), nI_toInt (by omega), nI_toInt (by omega), e3]
  split <;> omega
theorem SB.ens (h : SB w b t cap l) (hn : need ≤ 300) (hb : b < z) (ht : t < z)
    (hq : ∀ w' t' z', SB w' b t' (gr cap need) l → (t' = t ∨ z ≤ t') → t' < z' → z ≤ z' → FrB b t z w w' → R w' z') : F_J5_ensureCapacityInternal_d00df b (nI need) w z (gr cap need - cap) (2 * (gr cap need - cap)) R := by
  obtain ⟨fl, fb, h1, h2, h3, h4, h5, h6, h7⟩ := h
  have e1 : (nI need - nI cap : Int32).toInt = need - cap := by
    rw [isb _ _ (by rw [nI_toInt (by omega), nI_toInt (by omega)]; omega) (by rw [nI_toInt (by omega), nI_toInt (by omega)]; omega), nI_toInt (by omega), nI_toInt (by omega)]
  refine ⟨_, fld_c h1 0, _, _, arI_c h2, _, fld_c h1 1, ?_⟩
  rintro _ rfl
  rw [sh0]
  refine ⟨fun hh => ?_, fun hh => ⟨_, fld_c h1 0, isO_c h1, _, fld_c h1 0, _, _, arI_c h2, ?_⟩⟩
  · have h8 := ile.mp hh
    rw [e1, i_0] at h8
    have hg : gr cap need = cap := if_pos (by omega)
    rw [hg] at hq
    exact hq w t z ⟨fl, fb, h1, h2, h3, h4, h5, h6, h7⟩ (Or.inl rfl) ht (Nat.le_refl _) ⟨fun _ _ _ _ => rfl, NFk.rfl⟩
  · have h8 : ¬ (nI need - nI cap : Int32).toInt ≤ (0 : Int32).toInt := fun h => hh (ile.mpr h)
    rw [e1, i_0] at h8
    have hg : gr cap need = max need (2 * cap + 2) := if_neg (by omega)
    rw [hg] at hq ⊢
    generalize hc' : max need (2 * cap + 2) = c' at *
    have hm : (nI cap + jmax (nI need - nI cap) (nI cap + 2) : Int32) = nI c' := by
      rw [nI_max h5 hn, hc']
    rintro _ rfl
    refine ⟨_, fld_c h1 1, ?_⟩
    rintro _ rfl
    rintro _ rfl
    refine ⟨_, fld_c h1 1, ?_⟩
    rintro _ rfl
    rw [sl0, sl0, hm]
    refine ⟨fun hx => absurd (ile.mp hx) (by rw [nI_toInt (by omega), i_0]; omega), fun _ => ⟨fun hx => absurd (ilt.mp hx) (by rw [nI_toInt (by omega), show (2147483639 : Int32).toInt = 2147483639 by decide]; omega), fun _ => ⟨fun _ => ⟨_, fld_c h1 1, _, fld_c h1 1, 1, c', by omega, by omega, ?_⟩, fun hx => absurd (ieq.mp hx) (by rw [nI_toInt (by omega), show (2147483647 : Int32).toInt = 2147483647 by decide]; omega)⟩⟩⟩
    rw [sh0, sl0]
    refine ⟨_, _, arI_c h2, fun _ => ⟨fun hx => absurd (ilt.mp hx) (by rw [nI_toInt (by omega), i_0]; omega), c', clnI (by omega), by omega, Nat.le_refl _, Nat.le_refl _, ?_⟩, fun hx => absurd (ieq.mp hx) (by rw [nI_toInt (by omega), nI_toInt (by omega)]; omega)⟩
    rintro _ rfl
    have hj : jmin (nI cap) (nI c') = nI cap := ieq.mpr (by
      rw [jmin_toI, nI_toInt (by omega), nI_toInt (by omega), if_neg (by omega)])
    have h2' : mset w z (.inr (1, c', .inl (fun _ => 0))) t = some (true, .inr (1, cap, .inl fb)) := by
      rw [mset_ne (by omega)]
      exact h2
    refine ⟨_, _, arI_c h2', _, _, _, _, arI_c h2', arW_c (mset_eq _ _ _), by decide, by decide, ?_⟩
    rw [hj]
    refine ⟨fun hx => absurd (ilt.mp hx) (by rw [nI_toInt (by omega), i_0]; omega), by rw [nI_cl (by omega), cl0]; omega, by rw [nI_cl (by omega), cl0]; omega, h6, ?_⟩
    rintro _ rfl
    rw [nI_cl (by omega), cl0, mset_mset]
    refine ⟨_, obj_c (by rw [mset_ne (by omega)]; exact h1), by simp only [List.length_cons, List.length_nil]; omega, ?_⟩
    rintro _ rfl
    refine hq _ z (z + 1) ⟨fl, _, mset_eq _ _ _, by rw [mset_ne (by omega), mset_eq], by omega, by omega, by omega, sb_fitC h6 sb_fit0, fun i hi => ?_⟩ (Or.inr (Nat.le_refl _)) (by omega) (by omega) ⟨fun q q1 q2 q3 => by rw [mset_ne q2, mset_ne (by omega)], NFk.rfl.ms.ms⟩
    rw [va_cpy_in (by omega) (by omega), show 0 + (i - 0) = i by omega]
    exact h7 i hi
theorem SB.lat (h : SB w b t cap l) (hq : Q 1 w z) : F_J5_isLatin1_aae02 b w z Q := by
  obtain ⟨fl, fb, h1, h2⟩ := h
  exact ⟨_, fld_c h1 1, fun hh => absurd rfl hh, fun _ => hq⟩
theorem SB.len (h : SB w b t cap l) (hq : Q (nI l.length) w z) : F_J4_length_8abf5 b w z Q := by
  have hi := h.is
  obtain ⟨fl, fb, h1, h2⟩ := h
  exact ⟨hi, _, fld_c h1 3, hq⟩
/-- a letter comes behind -/
theorem SB.app (h : SB w b t cap l) {c : Int32} (hc : 0 ≤ c.toInt) (hc2 : c.toInt < 128) (hn : l.length + 1 ≤ 300) (hb : b < z) (ht : t < z) {Q : Nat → Mm → Nat → Prop}
    (hq : ∀ w' t' z', SB w' b t' (gr cap (l.length + 1)) (l ++ [c]) → (t' = t ∨ z ≤ t') → t' < z' → z ≤ z' → FrB b t z w w' → Q b w' z') : F_J4_append_cf468 b c w z (gr cap (l.length + 1) - cap) (2 * (gr cap (l.length + 1) - cap)) Q := by
  obtain ⟨fl, fb, h1, h2⟩ := id h
  refine ⟨h.is, _, _, Nat.le_refl _, Nat.le_refl _, _, fld_c h1 3, h.is, _, _, Nat.le_refl _, Nat.le_refl _, ?_⟩
  rw [nIs (by omega)]
  refine h.ens hn hb ht (fun w' t' z' k1 k2 k3 k4 k5 => ⟨k1.is, k1.lat ⟨fun hh => absurd hh (by decide), fun _ => ⟨fun hh => absurd (ilt.mp hh) (by rw [show (255 : Int32).toInt = 255 by decide]; omega), fun _ => ⟨fun hh => absurd hh (by decide), fun _ => ?_⟩⟩⟩⟩)
  obtain ⟨fl', fb', a1, a2, a3, a4, a5, a6, a7⟩ := k1
  have hgn := gr_need (cap := cap) (need := l.length + 1)
  refine ⟨_, fld_c a1 0, _, fld_c a1 3, _, obj_c a1, by simp only [List.length_cons, List.length_nil]; omega, ?_⟩
  rintro _ rfl
  refine ⟨_, _, arW_c (by rw [mset_ne (Ne.symm a3)]; exact a2), nIin (by omega) (by omega), ?_⟩
  rintro _ rfl
  rw [nI_cl (by omega), nIs (by omega), (byte_id hc hc2).2.2.2]
  refine hq _ t' z' ⟨fl', _, by rw [mset_ne a3, mset_eq, List.length_append]; rfl, mset_eq _ _ _, a3, by rw [List.length_append]; exact hgn, a5, sb_fitU a6 ?_, fun i hi => ?_⟩ k2 k3 k4 ⟨fun q q1 q2 q3 => ?_, k5.2.ms.ms⟩
  · have := fit_b (v := c)
    rwa [(byte_id hc hc2).2.2.2] at this
  · rw [List.length_append, List.length_singleton] at hi
    by_cases hil : i = l.length
    · rw [hil, upd_eq, getD_app2 (Nat.le_refl _), Nat.sub_self]
      rfl
    · rw [upd_ne hil, getD_app1 (by omega)]
      exact a7 i (by omega)
  · rw [mset_ne (by omega), mset_ne q2]
    exact k5.1 q q1 q2 q3
/-- the builder's letters as a string of its own -/
theorem SB.str (h : SB w b t cap l) (hc : ch7 l) (hb : b < z) (ht : t < z) (hl : l.length ≤ cap) {mc ms : Nat} (hm : 2 ≤ mc) (hs : 4 + l.length ≤ ms) {Q : Nat → Mm → Nat → Prop}
    (hq : ∀ w' fb, w' z = some (true, .inl (0, [.ref (z + 1), .int 0, .int 0, .int 0])) → w' (z + 1) = some (true, .inr (1, l.length, .inl fb)) → sb_Fit fb → (∀ i, i < l.length → fb i = l.getD i 0) → (∀ q, q < z → w' q = w q) → Q z w' (z + 2)) : F_J4_toString_0e30d b w z mc ms Q := by
  obtain ⟨fl, fb, h1, h2, h3, h4, h5, h6, h7⟩ := id h
  refine ⟨by omega, by omega, ?_⟩
  rintro _ rfl
  have hS : SB (mset w z (.inl (0, [.null, .int 0, .int 0, .int 0]))) b t cap l := h.to (mset_ne (by omega)) (mset_ne (by omega))
  have h1' : mset w z (.inl (0, [.null, .int 0, .int 0, .int 0])) b = some (true, .inl (1, [.ref t, .int 0, .int fl, .int (nI l.length)])) := (mset_ne (by omega)).trans h1
  refine ⟨1, l.length, by omega, by omega, 1, l.length, Nat.le_refl _, Nat.le_refl _, hS.is, _, fld_c h1' 0, hS.is, hS.len ⟨hS.is, hS.lat ⟨fun hh => absurd hh (by decide), fun _ => ⟨_, obj_c (mset_eq _ _ _), by simp only [List.length_cons, List.length_nil]; omega, ?_⟩⟩⟩⟩
  rintro _ rfl
  rw [mset_mset]
  have h2' : mset w z (.inl (0, ([.null, .int 0, .int 0, .int 0] : List Value).set 1 (.int 0))) t = some (true, .inr (1, cap, .inl fb)) := by
    rw [mset_ne (by omega)]
    exact h2
  refine ⟨1, l.length, Nat.le_refl _, Nat.le_refl _, fun hh => absurd rfl hh, fun _ => ⟨_, _, arI_c h2', fun hh => ?_, fun _ => ⟨1, l.length, Nat.le_refl _, Nat.le_refl _, fun _ => ?_, fun hh => absurd (ile.mpr (by rw [i_0, nI_toInt (by omega)]; omega)) hh⟩⟩⟩
  · have e9 : l.length = cap := by
      have := ieq.mp hh
      rw [nI_toInt (by omega), nI_toInt (by omega)] at this
      omega
    refine ⟨_, _, arW_c h2', h6, by omega, by omega, ?_⟩
    rintro _ rfl
    refine ⟨_, _, arW_c (mset_eq _ _ _), _, obj_c (by rw [mset_ne (by omega), mset_eq]), by simp only [List.length_set, List.length_cons, List.length_nil]; omega, ?_⟩
    rintro _ rfl
    exact hq _ _ (mset_eq _ _ _) (by rw [mset_ne (by omega), mset_eq, e9]) h6 h7 (fun q hq' => by rw [mset_ne (by omega), mset_ne (by omega), mset_ne (by omega)])
  rintro _ rfl
  have e0 : (nI l.length - 0 : Int32) = nI l.length := ieq.mpr (by rw [isb _ _ (by rw [nI_toInt (by omega), i_0]; omega) (by rw [nI_toInt (by omega), i_0]; omega), i_0]; omega)
  have e1 : (nI cap - 0 : Int32) = nI cap := ieq.mpr (by rw [isb _ _ (by rw [nI_toInt (by omega), i_0]; omega) (by rw [nI_toInt (by omega), i_0]; omega), i_0]; omega)
  rw [e0]
  refine ⟨fun hx => absurd (ilt.mp hx) (by rw [nI_toInt (by omega), i_0]; omega), l.length, clnI (by omega), by omega, Nat.le_refl _, Nat.le_refl _, ?_⟩
  rintro _ rfl
  have h2'' : mset (mset w z (.inl (0, ([.null, .int 0, .int 0, .int 0] : List Value).set 1 (.int 0)))) (z + 1) (.inr (1, l.length, .inl (fun _ => 0))) t = some (true, .inr (1, cap, .inl fb)) := by
    rw [mset_ne (by omega)]
    exact h2'
  have hj : jmin (nI cap - 0) (nI l.length) = nI l.length := ieq.mpr (by
    rw [e1, jmin_toI, nI_toInt (by omega), nI_toInt (by omega)]
    split <;> omega)
  refine ⟨_, _, arI_c h2'', _, _, _, _, arI_c h2'', arW_c (mset_eq _ _ _), by decide, by decide, ?_⟩
  rw [hj]
  refine ⟨fun hx => absurd (ilt.mp hx) (by rw [nI_toInt (by omega), i_0]; omega), by rw [nI_cl (by omega), cl0]; omega, by rw [nI_cl (by omega), cl0]; omega, h6, ?_⟩
  rintro _ rfl
  rw [nI_cl (by omega), cl0, mset_mset]
  refine ⟨_, obj_c (by rw [mset_ne (by omega), mset_eq]), by simp only [List.length_set, List.length_cons, List.length_nil]; omega, ?_⟩
  rintro _ rfl
  refine hq _ _ (mset_eq _ _ _) (by rw [mset_ne (by omega), mset_eq]) (sb_fitC h6 sb_fit0) (fun i hi => ?_) (fun q hq' => by rw [mset_ne (by omega), mset_ne (by omega), mset_ne (by omega)])
  rw [va_cpy_in (by omega) (by omega), show 0 + (i - 0) = i by omega]
  exact h7 i hi
/-- a string comes behind -/
theorem SB.appS (h : SB w b t cap l) {Fz : Nat → Prop} {q n : Nat} {hh : Nat → Int32} (hs : Str w Fz q n hh) (hF : ∀ a f bb n, Fz a → w a = some (bb, .inr (1, n, .inl f)) → sb_Fit f) (hqF : ∀ a, Fz a → a < z ∧ a ≠ b ∧ a ≠ t) (hn : l.length + n ≤ 300) (hb : b < z) (ht : t < z) {Q : Nat → Mm → Nat → Prop}
    (hq : ∀ w' t' z', SB w' b t' (gr cap (l.length + n)) (l ++ (List.range n).map hh) → (t' = t ∨ z ≤ t') → t' < z' → z ≤ z' → FrB b t z w w' → Q b w' z') : F_J4_append_15ec4 b q w z (gr cap (l.length + n) - cap) (2 * (gr cap (l.length + n) - cap)) Q := by
  obtain ⟨fl, fb, h1, h2⟩ := id h
  obtain ⟨b0, b1, ts, sl, sf, s1, s2, s3, s4, s5⟩ := id hs
  have f1 := hqF _ s1
  have f2 := hqF _ s2
  have hfit := hF _ _ _ _ s2 s4
  refine ⟨h.is, _, _, Nat.le_refl _, Nat.le_refl _, isO_c s3, j_length hs ⟨_, fld_c h1 3, h.is, _, _, Nat.le_refl _, Nat.le_refl _, ?_⟩⟩
  rw [nIad (by omega)]
  refine h.ens hn hb ht (fun w' t' z' k1 k2 k3 k4 k5 => ?_)
  obtain ⟨fl', fb', a1, a2, a3, a4, a5, a6, a7⟩ := id k1
  have hgn := gr_need (cap := cap) (need := l.length + n)
  have s3' : w' q = some (b0, .inl (0, .ref ts :: .int 0 :: sl)) := by
    rw [k5.1 q f1.1 f1.2.1 f1.2.2]
    exact s3
  have s4' : w' ts = some (b1, .inr (1, n, .inl sf)) := by
    rw [k5.1 ts f2.1 f2.2.1 f2.2.2]
    exact s4
  refine ⟨_, fld_c a1 3, k1.is, k1.is, ⟨_, fld_c a1 1, isO_c s3', j_coder s3' ⟨fun _ => ⟨_, fld_c a1 0, _, fld_c a1 1, isO_c s3', isO_c s3', j_coder s3' ⟨fun hx => absurd rfl hx, fun _ => ⟨_, fld_c s3' 0, _, fld_c s3' 0, _, _, arI_c s4', _, _, _, _, arI_c s4', arW_c a2, by decide, ?_⟩⟩⟩, fun hx => absurd rfl hx⟩⟩⟩
  rw [sl0]
  refine ⟨fun hx => absurd (ilt.mp hx) (by rw [nI_toInt (by omega), i_0]; omega), fun hx => absurd (ilt.mp hx) (by rw [nI_toInt (by omega), i_0]; omega), by rw [nI_cl (by omega), cl0]; omega, by rw [nI_cl (by omega), nI_cl (by omega)]; omega, hfit, ?_⟩
  rintro _ rfl
  rw [nI_cl (by omega), nI_cl (by omega), cl0]
  have a1' := (mset_ne (e := .inr (1, gr cap (l.length + n), .inl (va_cpy sf fb' 0 l.length n))) a3).trans a1
  refine ⟨_, fld_c a1' 3, _, obj_c a1', by simp only [List.length_cons, List.length_nil]; omega, ?_⟩
  rintro _ rfl
  rw [nIad (by omega)]
  have hlen : (l ++ (List.range n).map hh).length = l.length + n := by
    rw [List.length_append, List.length_map, List.length_range]
  refine hq _ t' z' ⟨fl', _, by rw [mset_eq, hlen]; rfl, by rw [mset_ne (Ne.symm a3), mset_eq], a3, by rw [hlen]; exact hgn, a5, sb_fitC hfit a6, fun i hi => ?_⟩ k2 k3 k4 ⟨fun q q1 q2 q3 => ?_, k5.2.ms.ms⟩
  · rw [hlen] at hi
    by_cases hil : i < l.length
    · rw [va_cpy_out (by omega), getD_app1 hil]
      exact a7 i hil
    · rw [va_cpy_in (by omega) (by omega), getD_app2 (by omega), Nat.zero_add, s5 _ (by omega), List.getD_eq_getElem?_getD, List.getElem?_map, List.getElem?_range (by omega)]
      rfl
  · rw [mset_ne q2, mset_ne (by omega)]
    exact k5.1 q q1 q2 q3
theorem SB.new {fl : Int32} (hb : b < z) {mc ms : Nat} (h : w b = some (true, .inl (1, [.null, .int 0, .int fl, .int 0]))) (hm : 1 ≤ mc) (hs : 16 ≤ ms) (hq : ∀ w', SB w' b z 16 [] → (∀ q, q < z → q ≠ b → w' q = w q) → R w' (z + 1)) : F_J4_init_da8c8 b w z mc ms R := by
  refine ⟨1, 16, hm, hs, by decide, 16, rfl, by omega, Nat.le_refl _, Nat.le_refl _, ?_⟩
  rintro _ rfl
  refine ⟨_, obj_c (by rw [mset_ne (by omega)]; exact h), by simp only [List.length_cons, List.length_nil]; omega, ?_⟩
  rintro _ rfl
  refine ⟨_, obj_c (mset_eq _ _ _), by simp only [List.length_set, List.length_cons, List.length_nil]; omega, ?_⟩
  rintro _ rfl
  rw [mset_mset]
  exact hq _ ⟨fl, _, mset_eq _ _ _, by rw [mset_ne (by omega), mset_eq], by omega, by simp, by omega, sb_fit0, fun i hi => absurd hi (by simp)⟩ (fun q q1 q2 => by rw [mset_ne q2, mset_ne (by omega)])
end
