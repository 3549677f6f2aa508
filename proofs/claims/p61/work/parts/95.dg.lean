/-! numbers up to 99999 in decimal; a string builder that begins with a string -/
def dn (k : Nat) : Nat := if k < 10000 then dgn k else 5
def ds (k : Nat) : List Int32 := if k < 10000 then dgs k else [nI (48 + k / 10000), nI (48 + k / 1000 % 10), nI (48 + k / 100 % 10), nI (48 + k / 10 % 10), nI (48 + k % 10)]
theorem dn_5 (k : Nat) : 1 ≤ dn k ∧ dn k ≤ 5 := by
  have := dgn_4 k
  unfold dn
  split <;> omega
theorem ds_len (k : Nat) : (ds k).length = dn k := by
  unfold ds dn
  split
  · exact dgs_len k
  · rfl
section
variable {w w' : Mm} {b t z cap need : Nat} {l : List Int32} {Q : Int32 → Mm → Nat → Prop} {R : Mm → Nat → Prop}
theorem J_size5 {k : Nat} (hk : k ≤ 99999) (hq : Q (nI (dn k)) w z) : F_J6_stringSize_0f7a4 (nI k) w z Q := by
  by_cases hlo : k < 10000
  · refine J_size (by omega) ?_
    unfold dn at hq
    rw [if_pos hlo] at hq
    exact hq
  · have hn := nI_neg (k := k) (by omega)
    have j10 : (-10 : Int32).toInt = -10 := by decide
    have e1 : (10 * -10 : Int32) = -100 := by decide
    have e2 : (10 * -100 : Int32) = -1000 := by decide
    have e3 : (10 * -1000 : Int32) = -10000 := by decide
    have e4 : (10 * -10000 : Int32) = -100000 := by decide
    have j100 : (-100 : Int32).toInt = -100 := by decide
    have j1000 : (-1000 : Int32).toInt = -1000 := by decide
    have j10000 : (-10000 : Int32).toInt = -10000 := by decide
    have j100000 : (-100000 : Int32).toInt = -100000 := by decide
    unfold dn at hq
    rw [if_neg hlo] at hq
    refine ⟨fun hh => absurd (ilt.mp hh) (by rw [nI_toInt (by omega), i_0]; omega), fun _ => ?_⟩
    rintro _ rfl
    refine ⟨6, ?_⟩
    unfold B_J6_stringSize_0f7a4_16
    refine ⟨fun hh => absurd hh (by decide), fun _ => ⟨fun _ => ?_, fun h1 => absurd (ile.mpr (by rw [hn, j10]; omega)) h1⟩⟩
    rintro _ rfl
    rw [e1]
    unfold B_J6_stringSize_0f7a4_16
    refine ⟨fun hh => absurd hh (by decide), fun _ => ⟨fun _ => ?_, fun h1 => absurd (ile.mpr (by rw [hn, j100]; omega)) h1⟩⟩
    rintro _ rfl
    rw [e2]
    unfold B_J6_stringSize_0f7a4_16
    refine ⟨fun hh => absurd hh (by decide), fun _ => ⟨fun _ => ?_, fun h1 => absurd (ile.mpr (by rw [hn, j1000]; omega)) h1⟩⟩
    rintro _ rfl
    rw [e3]
    unfold B_J6_stringSize_0f7a4_16
    refine ⟨fun hh => absurd hh (by decide), fun _ => ⟨fun _ => ?_, fun h1 => absurd (ile.mpr (by rw [hn, j10000]; omega)) h1⟩⟩
    rintro _ rfl
    rw [e4]
    unfold B_J6_stringSize_0f7a4_16
    refine ⟨fun hh => absurd hh (by decide), fun _ => ⟨fun h5 => absurd (ile.mp h5) (by rw [hn, j100000]; omega), fun _ => ?_⟩⟩
    exact hq
theorem fit_d : ∀ d, d < 80 → fits .byte (.int (nI (48 + d))) = true := fun d hd => by
  have h1 := pk_fb (nI (48 + d))
  have h2 := nar_dig (d := 48 + d) (by omega)
  rw [vp_nar_byte] at h2
  rwa [h2] at h1
/-- two digits and more to come -/
theorem J_step {x : Int32} {k n t cap : Nat} {fb : Nat → Int32} {a1 : Int32} (hk : 100 ≤ k) (hk2 : k < 100000) (hx : x.toInt = -k) (ht : w t = some (true, .inr (1, cap, .inl fb))) (hc : n ≤ cap) (hn : 2 ≤ n) (hn' : n < 1000) (hcap : cap < 1000) {m : Nat}
    (hq : ∀ x' : Int32, x'.toInt = -((k / 100 : Nat) : Int) → B_J6_getChars_ba4f3_22 a1 t Q m x' (nI (n - 2)) 0 (mset w t (.inr (1, cap, .inl (upd (upd fb (n - 1) (nI (48 + k % 10))) (n - 2) (nI (48 + k / 10 % 10)))))) z) : B_J6_getChars_ba4f3_22 a1 t Q (m + 1) x (nI n) 0 w z := by
  have j100 : (-100 : Int32).toInt = -100 := by decide
  have hdv := neg_div (k := k) (by omega) hx
  have hr : x / 100 * 100 - x = nI (k % 100) := ieq.mpr (by
    have e1 : (x / 100 * 100).toInt = -((k / 100 : Nat) : Int) * 100 := by
      rw [im _ _ (by rw [hdv, i100]; omega) (by rw [hdv, i100]; omega), hdv, i100]
    rw [isb _ _ (by rw [e1, hx]; omega) (by rw [e1, hx]; omega), e1, hx, nI_toInt (by omega)]
    omega)
  unfold B_J6_getChars_ba4f3_22
  refine ⟨fun hh => absurd (ilt.mp hh) (by rw [hx, j100]; omega), fun _ => ?_⟩
  rintro _ rfl
  rintro _ rfl
  intro q21 hO
  obtain ⟨f7, o1, o2⟩ := tabO hO
  rw [hr, nI_sub1 (by omega) (by omega)]
  refine ⟨_, _, o1, nIin (by omega) (by omega), _, _, arW_c ht, nIin (by omega) (by omega), ?_⟩
  rintro _ rfl
  rw [nI_cl (by omega), nI_cl (by omega), o2 _ (by omega), nar_dig (by omega)]
  intro q27 hT
  obtain ⟨f14, t1, t2⟩ := tabT hT
  rw [nI_sub1 (by omega) (by omega)]
  refine ⟨_, _, t1, nIin (by omega) (by omega), _, _, arW_c (mset_eq _ _ _), nIin (by omega) (by omega), ?_⟩
  rintro _ rfl
  rw [nI_cl (by omega), t2 _ (by omega), nar_dig (by omega), mset_mset, show n - 1 - 1 = n - 2 by omega, show k % 100 % 10 = k % 10 by omega, show k % 100 / 10 = k / 10 % 10 by omega]
  exact hq _ hdv
theorem J_chars5 {k n t cap : Nat} {fb : Nat → Int32} (hk : k ≤ 99999) (ht : w t = some (true, .inr (1, cap, .inl fb))) (hc : n + dn k ≤ cap) (hcap : cap < 1000) (hn' : n < 900) (hn2 : 1 ≤ n)
    (hq : ∀ fb', (∀ i, i < n → fb' i = fb i) → (∀ i, i < dn k → fb' (n + i) = (ds k).getD i 0) → (sb_Fit fb → sb_Fit fb') → ∀ v, Q v (mset w t (.inr (1, cap, .inl fb'))) z) : F_J6_getChars_ba4f3 (nI k) (nI (n + dn k)) t w z Q := by
  by_cases hlo : k < 10000
  · have e1 : dn k = dgn k := if_pos hlo
    have e2 : ds k = dgs k := if_pos hlo
    rw [e1] at hc hq ⊢
    rw [e2] at hq
    exact J_chars (by omega) ht hc hcap hn' hn2 hq
  · have e1 : dn k = 5 := if_neg hlo
    have e2 : ds k = [nI (48 + k / 10000), nI (48 + k / 1000 % 10), nI (48 + k / 100 % 10), nI (48 + k / 10 % 10), nI (48 + k % 10)] := if_neg hlo
    rw [e1] at hc hq ⊢
    rw [e2] at hq
    have hx := nI_neg (k := k) (by omega)
    refine ⟨fun _ => ⟨fun hh => absurd rfl hh, fun _ => ?_⟩, fun hh => absurd (ile.mpr (by rw [i_0, nI_toInt (by omega)]; omega)) hh⟩
    rintro _ rfl
    refine ⟨3, J_step (k := k) (by omega) (by omega) hx ht hc (by omega) (by omega) hcap (fun x' hx' => J_step (k := k / 100) (by omega) (by omega) hx' (mset_eq _ _ _) (by omega) (by omega) (by omega) hcap (fun x'' hx'' => J_last (k := k / 100 / 100) (by omega) hx'' (mset_eq _ _ _) (by omega) (by omega) (by omega) hcap ⟨fun _ => ?_, fun h10 => absurd h10 (by omega)⟩ 0))⟩
    rw [mset_mset, mset_mset]
    refine hq _ (fun i hi => by rw [upd_ne (by omega), upd_ne (by omega), upd_ne (by omega), upd_ne (by omega), upd_ne (by omega)]) (fun i hi => ?_) (fun hf => sb_fitU (sb_fitU (sb_fitU (sb_fitU (sb_fitU hf (fit_d _ (by omega))) (fit_d _ (by omega))) (fit_d _ (by omega))) (fit_d _ (by omega))) (fit_d _ (by omega))) _
    rcases (by omega : i = 0 ∨ i = 1 ∨ i = 2 ∨ i = 3 ∨ i = 4) with rfl | rfl | rfl | rfl | rfl
    · rw [show n + 0 = n + 5 - 2 - 2 - 1 by omega, upd_eq, show k / 100 / 100 = k / 10000 by omega]
      rfl
    · rw [upd_ne (by omega), show n + 1 = n + 5 - 2 - 2 by omega, upd_eq, show k / 100 / 10 % 10 = k / 1000 % 10 by omega]
      rfl
    · rw [upd_ne (by omega), upd_ne (by omega), show n + 2 = n + 5 - 2 - 1 by omega, upd_eq]
      rfl
    · rw [upd_ne (by omega), upd_ne (by omega), upd_ne (by omega), show n + 3 = n + 5 - 2 by omega, upd_eq]
      rfl
    · rw [upd_ne (by omega), upd_ne (by omega), upd_ne (by omega), upd_ne (by omega), show n + 4 = n + 5 - 1 by omega, upd_eq]
      rfl
theorem SB.appI5 (h : SB w b t cap l) {k : Nat} (hk : k ≤ 99999) (hl : 1 ≤ l.length) (hn : l.length + 5 ≤ 300) (hb : b < z) (ht : t < z) {Q : Nat → Mm → Nat → Prop}
    (hq : ∀ w' t' z', SB w' b t' (gr cap (l.length + dn k)) (l ++ ds k) → (t' = t ∨ z ≤ t') → t' < z' → z ≤ z' → FrB b t z w w' → Q b w' z') : F_J4_append_bf812 b (nI k) w z (gr cap (l.length + dn k) - cap) (2 * (gr cap (l.length + dn k) - cap)) Q := by
  have hd0 := (dn_5 k).2
  obtain ⟨fl, fb, h1, h2⟩ := id h
  refine ⟨h.is, _, _, Nat.le_refl _, Nat.le_refl _, _, fld_c h1 3, J_size5 hk ?_⟩
  rw [nIad (by omega)]
  rintro _ rfl
  refine ⟨h.is, _, _, Nat.le_refl _, Nat.le_refl _, h.ens (by omega) hb ht (fun w' t' z' k1 k2 k3 k4 k5 => ⟨k1.is, k1.lat ⟨fun hh => absurd hh (by decide), fun _ => ?_⟩⟩)⟩
  obtain ⟨fl', fb', a1, a2, a3, a4, a5, a6, a7⟩ := k1
  have hgn := gr_need (cap := cap) (need := l.length + dn k)
  refine ⟨_, fld_c a1 0, J_chars5 hk a2 hgn (by omega) (by omega) hl (fun fb2 e1 e2 e3 v => ⟨_, obj_c (by rw [mset_ne a3]; exact a1), by simp only [List.length_cons, List.length_nil]; omega, ?_⟩)⟩
  rintro _ rfl
  have hlen : (l ++ ds k).length = l.length + dn k := by rw [List.length_append, ds_len]
  refine hq _ t' z' ⟨fl', fb2, by rw [mset_eq, hlen]; rfl, by rw [mset_ne (Ne.symm a3), mset_eq], a3, by rw [hlen]; exact hgn, a5, e3 a6, fun i hi => ?_⟩ k2 k3 k4 ⟨fun q q1 q2 q3 => by rw [mset_ne q2, mset_ne (by omega)]; exact k5.1 q q1 q2 q3, k5.2.ms.ms⟩
  rw [hlen] at hi
  by_cases hil : i < l.length
  · rw [e1 i hil, getD_app1 hil]
    exact a7 i hil
  · rw [getD_app2 (by omega), ← e2 (i - l.length) (by omega), show l.length + (i - l.length) = i by omega]
theorem SB.initS {fl : Int32} (hbz : b < z) (h : w b = some (true, .inl (1, [.null, .int 0, .int fl, .int 0]))) {Fz : Nat → Prop} {q n : Nat} {hh : Nat → Int32} (hs : Str w Fz q n hh) (hF : ∀ a f bb n, Fz a → w a = some (bb, .inr (1, n, .inl f)) → sb_Fit f) (hqF : ∀ a, Fz a → a < b) (hn : n ≤ 100)
    (hq : ∀ w' t' z', SB w' b t' (n + 16) ((List.range n).map hh) → z ≤ t' → t' < z' → (∀ q, q < z → q ≠ b → w' q = w q) → NFk w w' → R w' z') : F_J4_init_a7421 b q w z 1 (n + 16) R := by
  obtain ⟨b0, b1, ts, sl, sf, s1, s2, s3, s4, s5⟩ := id hs
  have f1 := hqF _ s1
  have f2 := hqF _ s2
  have i16 : (16 : Int32) = nI 16 := rfl
  refine ⟨1, n + 16, Nat.le_refl _, Nat.le_refl _, isO_c s3, j_length hs ⟨fun hx => absurd (ile.mp hx) ?_, fun _ => ?_⟩⟩
  · rw [nI_toInt (by omega), show (2147483631 : Int32).toInt = 2147483631 by decide]
    omega
  · rw [i16, nIad (by omega)]
    rintro _ rfl
    refine ⟨isO_c s3, j_coder s3 ⟨by decide, _, obj_c h, by simp only [List.length_cons, List.length_nil]; omega, ?_⟩⟩
    rintro _ rfl
    refine ⟨fun hx => absurd rfl hx, fun _ => ⟨fun hx => absurd (ilt.mp hx) (by rw [nI_toInt (by omega), i_0]; omega), n + 16, clnI (by omega), by omega, Nat.le_refl _, Nat.le_refl _, ?_⟩⟩
    rintro _ rfl
    refine ⟨_, obj_c (by rw [mset_ne (by omega), mset_eq]), by simp only [List.length_set, List.length_cons, List.length_nil]; omega, ?_⟩
    rintro _ rfl
    generalize hw1 : mset (mset (mset w b (.inl (1, ([.null, .int 0, .int fl, .int 0] : List Value).set 1 (.int 0)))) z (.inr (1, n + 16, .inl fun _ => 0))) b (.inl (1, (([.null, .int 0, .int fl, .int 0] : List Value).set 1 (.int 0)).set 0 (.ref z))) = w1
    have hw : ∀ q, q < z → q ≠ b → w1 q = w q := fun q q1 q2 => by rw [← hw1, mset_ne q2, mset_ne (by omega), mset_ne q2]
    have hS : SB w1 b z (n + 16) [] := ⟨fl, fun _ => 0, by rw [← hw1, mset_eq]; rfl, by rw [← hw1, mset_ne (by omega), mset_eq], by omega, by simp, by omega, sb_fit0, fun i hi => absurd hi (by simp)⟩
    have hg2 : gr (n + 16) (([] : List Int32).length + n) = n + 16 := if_pos (by simp only [List.length_nil]; omega)
    have hs' : Str w1 Fz q n hh := hs.to (fun q hq => hw q (by have := hqF q hq; omega) (by have := hqF q hq; omega)) (fun _ h => h) (fun _ _ => rfl)
    refine ⟨hS.is, 0, 0, Nat.zero_le _, Nat.zero_le _, hS.is, 0, 0, Nat.zero_le _, Nat.zero_le _, ?_⟩
    have key := hS.appS (z := z + 1) (Q := fun r w z => R w z) hs' (fun a f bb n ha he => hF a f bb n ha (by rw [← he]; exact (hw a (by have := hqF a ha; omega) (by have := hqF a ha; omega)).symm)) (fun a ha => by have := hqF a ha; omega) (by simp only [List.length_nil]; omega) (by omega) (by omega) (fun w' t' z' k1 k2 k3 k4 k5 => ?_)
    · rw [hg2, Nat.sub_self] at key
      exact key
    · rw [hg2, List.nil_append] at k1
      exact hq w' t' z' k1 (by omega) k3 (fun q q1 q2 => by rw [k5.1 q (by omega) q2 (by omega)]; exact hw q q1 q2) (NFk.trans (by rw [← hw1]; exact NFk.rfl.ms.ms.ms) k5.2)
end
