/-! a number in decimal, up to 9999 -/
def dgs (k : Nat) : List Int32 :=
  if k < 10 then [nI (48 + k)] else if k < 100 then [nI (48 + k / 10), nI (48 + k % 10)] else if k < 1000 then [nI (48 + k / 100), nI (48 + k / 10 % 10), nI (48 + k % 10)] else [nI (48 + k / 1000), nI (48 + k / 100 % 10), nI (48 + k / 10 % 10), nI (48 + k % 10)]
def dgn (k : Nat) : Nat := if k < 10 then 1 else if k < 100 then 2 else if k < 1000 then 3 else 4
theorem dgn_4 (k : Nat) : 1 ≤ dgn k ∧ dgn k ≤ 4 := by
  unfold dgn
  split
  · omega
  · split
    · omega
    · split <;> omega
theorem dgs_len (k : Nat) : (dgs k).length = dgn k := by
  unfold dgs dgn
  split
  · rfl
  · split
    · rfl
    · split <;> rfl
theorem nI_neg {k : Nat} (h : k < 100000) : (-(nI k) : Int32).toInt = -k := by
  rw [Int32.toInt_neg, nI_toInt (by omega)]
  exact Int.bmod_eq_of_le (by omega) (by omega)
theorem neg_neg {k : Nat} {x : Int32} (h : k < 100000) (hx : x.toInt = -k) : (-x : Int32) = nI k := ieq.mpr (by
  rw [Int32.toInt_neg, hx, nI_toInt (by omega), Int.neg_neg]
  exact Int.bmod_eq_of_le (by omega) (by omega))
theorem i100 : (100 : Int32).toInt = 100 := by decide
theorem i10 : (10 : Int32).toInt = 10 := by decide
theorem neg_div {k : Nat} {x : Int32} (h : k < 100000) (hx : x.toInt = -k) : (x / 100 : Int32).toInt = -((k / 100 : Nat) : Int) := by
  rw [Int32.toInt_div_of_ne_right _ _ (by decide), hx, i100, Int.neg_tdiv]
  congr 1
theorem nI_div {k d : Nat} (h : k < 100000) (hd : d < 100000) (h0 : d ≠ 0) : (nI k / nI d : Int32) = nI (k / d) := ieq.mpr (by
  have hle : k / d ≤ k := Nat.div_le_self k d
  rw [Int32.toInt_div_of_ne_right _ _ (fun hh => by
    have := ieq.mp hh
    rw [nI_toInt (by omega), i_m1] at this
    omega), nI_toInt (by omega), nI_toInt (by omega), nI_toInt (by omega)]
  rfl)
section
variable {w w' : Mm} {b t z cap need : Nat} {l : List Int32} {Q : Int32 → Mm → Nat → Prop} {R : Mm → Nat → Prop}
theorem J_size {k : Nat} (hk : k ≤ 9999) (hq : Q (nI (dgn k)) w z) : F_J6_stringSize_0f7a4 (nI k) w z Q := by
  have hn := nI_neg (k := k) (by omega)
  have j10 : (-10 : Int32).toInt = -10 := by decide
  have e1 : (10 * -10 : Int32) = -100 := by decide
  have e2 : (10 * -100 : Int32) = -1000 := by decide
  have e3 : (10 * -1000 : Int32) = -10000 := by decide
  have j100 : (-100 : Int32).toInt = -100 := by decide
  have j1000 : (-1000 : Int32).toInt = -1000 := by decide
  have j10000 : (-10000 : Int32).toInt = -10000 := by decide
  unfold dgn at hq
  refine ⟨fun hh => absurd (ilt.mp hh) (by rw [nI_toInt (by omega), i_0]; omega), fun _ => ?_⟩
  rintro _ rfl
  refine ⟨5, ?_⟩
  unfold B_J6_stringSize_0f7a4_16
  refine ⟨fun hh => absurd hh (by decide), fun _ => ⟨fun h1 => ?_, fun h1 => ?_⟩⟩
  · have h1' := ile.mp h1
    rw [hn, j10] at h1'
    rw [if_neg (by omega)] at hq
    rintro _ rfl
    rw [e1]
    unfold B_J6_stringSize_0f7a4_16
    refine ⟨fun hh => absurd hh (by decide), fun _ => ⟨fun h2 => ?_, fun h2 => ?_⟩⟩
    · have h2' := ile.mp h2
      rw [hn, j100] at h2'
      rw [if_neg (by omega)] at hq
      rintro _ rfl
      rw [e2]
      unfold B_J6_stringSize_0f7a4_16
      refine ⟨fun hh => absurd hh (by decide), fun _ => ⟨fun h3 => ?_, fun h3 => ?_⟩⟩
      · have h3' := ile.mp h3
        rw [hn, j1000] at h3'
        rw [if_neg (by omega)] at hq
        rintro _ rfl
        rw [e3]
        unfold B_J6_stringSize_0f7a4_16
        refine ⟨fun hh => absurd hh (by decide), fun _ => ⟨fun h4 => ?_, fun h4 => ?_⟩⟩
        · have h4' := ile.mp h4
          rw [hn, j10000] at h4'
          omega
        · exact hq
      · have h3' : ¬ (-(nI k) : Int32).toInt ≤ (-1000 : Int32).toInt := fun hh => h3 (ile.mpr hh)
        rw [hn, j1000] at h3'
        rw [if_pos (by omega)] at hq
        exact hq
    · have h2' : ¬ (-(nI k) : Int32).toInt ≤ (-100 : Int32).toInt := fun hh => h2 (ile.mpr hh)
      rw [hn, j100] at h2'
      rw [if_pos (by omega)] at hq
      exact hq
  · have h1' : ¬ (-(nI k) : Int32).toInt ≤ (-10 : Int32).toInt := fun hh => h1 (ile.mpr hh)
    rw [hn, j10] at h1'
    rw [if_pos (by omega)] at hq
    exact hq
theorem tabO {q : Nat} (h : isTab w q digO) : ∃ f, arI w q 1 = some (100, f) ∧ ∀ j, j < 100 → f j = nI (48 + j % 10) := by
  obtain ⟨f, h1, h2⟩ := h
  refine ⟨f, arI_c h1, fun j hj => ?_⟩
  rw [h2 j (by show j < digO.length; exact hj)]
  unfold digO
  rw [List.getD_eq_getElem?_getD, List.getElem?_map, List.getElem?_range hj]
  rfl
theorem tabT {q : Nat} (h : isTab w q digT) : ∃ f, arI w q 1 = some (100, f) ∧ ∀ j, j < 100 → f j = nI (48 + j / 10) := by
  obtain ⟨f, h1, h2⟩ := h
  refine ⟨f, arI_c h1, fun j hj => ?_⟩
  rw [h2 j (by show j < digT.length; exact hj)]
  unfold digT
  rw [List.getD_eq_getElem?_getD, List.getElem?_map, List.getElem?_range hj]
  rfl
theorem nar_dig {d : Nat} (h : d < 128) : vp_nar .byte (nI d) = nI d := by
  have h1 := (byte_id (v := nI d) (by rw [nI_toInt (by omega)]; omega) (by rw [nI_toInt (by omega)]; omega)).2.2.1
  unfold vp_nar
  rw [h1]
theorem nI_sub1 {n : Nat} (h : 0 < n) (h2 : n < 1000) : (nI n + (-1) : Int32) = nI (n - 1) := ieq.mpr (by
  rw [ia _ _ (by rw [nI_toInt (by omega), i_m1]; omega) (by rw [nI_toInt (by omega), i_m1]; omega), nI_toInt (by omega), nI_toInt (by omega), i_m1]
  omega)
/-- at most two digits -/
theorem J_last {x : Int32} {k n t cap : Nat} {fb : Nat → Int32} {a1 : Int32} (hk : k < 100) (hx : x.toInt = -k) (ht : w t = some (true, .inr (1, cap, .inl fb))) (hc : n ≤ cap) (hn : 2 ≤ n) (hn' : n < 1000) (hcap : cap < 1000)
    (hq : (k < 10 → Q (nI (n - 1)) (mset w t (.inr (1, cap, .inl (upd fb (n - 1) (nI (48 + k)))))) z) ∧ (10 ≤ k → Q (nI (n - 2)) (mset w t (.inr (1, cap, .inl (upd (upd fb (n - 1) (nI (48 + k % 10))) (n - 2) (nI (48 + k / 10)))))) z)) : ∀ m, B_J6_getChars_ba4f3_22 a1 t Q (m + 1) x (nI n) 0 w z := by
  intro m
  have j100 : (-100 : Int32).toInt = -100 := by decide
  have j9 : (-9 : Int32).toInt = -9 := by decide
  unfold B_J6_getChars_ba4f3_22
  refine ⟨fun _ => fun q6 hO => ?_, fun hh => absurd (ilt.mpr (by rw [hx, j100]; omega)) hh⟩
  obtain ⟨f7, o1, o2⟩ := tabO hO
  rw [neg_neg (by omega) hx, nI_sub1 (by omega) hn']
  refine ⟨_, _, o1, nIin hk (by omega), _, _, arW_c ht, nIin (by omega) (by omega), ?_⟩
  rintro _ rfl
  rw [nI_cl (by omega), nI_cl (by omega), o2 k hk, nar_dig (by omega)]
  refine ⟨fun h9 => ⟨fun _ => ?_, fun hh => absurd rfl hh⟩, fun h9 => fun q13 hT => ?_⟩
  · have h9' := ile.mp h9
    rw [hx, j9] at h9'
    have := hq.1 (by omega)
    rwa [show k % 10 = k by omega]
  · have h9' : ¬ (-9 : Int32).toInt ≤ x.toInt := fun hh => h9 (ile.mpr hh)
    rw [hx, j9] at h9'
    obtain ⟨f14, t1, t2⟩ := tabT hT
    rw [nI_sub1 (by omega) (by omega)]
    refine ⟨_, _, t1, nIin hk (by omega), _, _, arW_c (mset_eq _ _ _), nIin (by omega) (by omega), ?_⟩
    rintro _ rfl
    rw [nI_cl (by omega), t2 k hk, nar_dig (by omega), mset_mset, show n - 1 - 1 = n - 2 by omega]
    exact ⟨fun _ => hq.2 (by omega), fun hh => absurd rfl hh⟩
theorem J_chars {k n t cap : Nat} {fb : Nat → Int32} (hk : k ≤ 9999) (ht : w t = some (true, .inr (1, cap, .inl fb))) (hc : n + dgn k ≤ cap) (hcap : cap < 1000) (hn' : n < 900) (hn2 : 1 ≤ n)
    (hq : ∀ fb', (∀ i, i < n → fb' i = fb i) → (∀ i, i < dgn k → fb' (n + i) = (dgs k).getD i 0) → (sb_Fit fb → sb_Fit fb') → ∀ v, Q v (mset w t (.inr (1, cap, .inl fb'))) z) : F_J6_getChars_ba4f3 (nI k) (nI (n + dgn k)) t w z Q := by
  have hfd : ∀ d, d < 80 → fits .byte (.int (nI (48 + d))) = true := fun d hd => by
    have h1 := pk_fb (nI (48 + d))
    have h2 := nar_dig (d := 48 + d) (by omega)
    rw [vp_nar_byte] at h2
    rwa [h2] at h1
  have hx := nI_neg (k := k) (by omega)
  refine ⟨fun _ => ⟨fun hh => absurd rfl hh, fun _ => ?_⟩, fun hh => absurd (ile.mpr (by rw [i_0, nI_toInt (by omega)]; omega)) hh⟩
  rintro _ rfl
  refine ⟨2, ?_⟩
  by_cases h100 : k < 100
  · refine J_last h100 hx ht (n := n + dgn k) hc (by have := dgn_4 k; omega) (by have := dgn_4 k; omega) hcap ⟨fun h10 => ?_, fun h10 => ?_⟩ 1
    · have hd : dgn k = 1 := if_pos h10
      have hs : dgs k = [nI (48 + k)] := if_pos h10
      rw [hd, show n + 1 - 1 = n by omega]
      rw [hd, hs] at hq
      refine hq _ (fun i hi => upd_ne (by omega)) (fun i hi => ?_) (fun hf => sb_fitU hf (hfd k (by omega))) _
      rw [show i = 0 by omega, Nat.add_zero, upd_eq]
      rfl
    · have hd : dgn k = 2 := by
        unfold dgn
        rw [if_neg (by omega), if_pos h100]
      have hs : dgs k = [nI (48 + k / 10), nI (48 + k % 10)] := by
        unfold dgs
        rw [if_neg (by omega), if_pos h100]
      rw [hd, show n + 2 - 1 = n + 1 by omega, show n + 2 - 2 = n by omega]
      rw [hd, hs] at hq
      refine hq _ (fun i hi => by rw [upd_ne (by omega), upd_ne (by omega)]) (fun i hi => ?_) (fun hf => sb_fitU (sb_fitU hf (hfd _ (by omega))) (hfd _ (by omega))) _
      rcases (by omega : i = 0 ∨ i = 1) with rfl | rfl
      · exact upd_eq _ _ _
      · rw [upd_ne (by omega), upd_eq]
        rfl
  · have j100 : (-100 : Int32).toInt = -100 := by decide
    have hd0 : 3 ≤ dgn k ∧ dgn k ≤ 4 := by
      unfold dgn
      rw [if_neg (by omega), if_neg h100]
      split <;> omega
    have hdv := neg_div (k := k) (by omega) hx
    have hr : (-(nI k) : Int32) / 100 * 100 - -(nI k) = nI (k % 100) := ieq.mpr (by
      have e1 : ((-(nI k) : Int32) / 100 * 100).toInt = -((k / 100 : Nat) : Int) * 100 := by
        rw [im _ _ (by rw [hdv, i100]; omega) (by rw [hdv, i100]; omega), hdv, i100]
      rw [isb _ _ (by rw [e1, hx]; omega) (by rw [e1, hx]; omega), e1, hx, nI_toInt (by omega)]
      omega)
    unfold B_J6_getChars_ba4f3_22
    refine ⟨fun hh => absurd (ilt.mp hh) (by rw [hx, j100]; omega), fun _ => ?_⟩
    rintro _ rfl
    rintro _ rfl
    intro q21 hO
    obtain ⟨f7, o1, o2⟩ := tabO hO
    rw [hr, nI_sub1 (by omega) (by omega)]
    refine ⟨_, _, o1, nIin (by omega) (by omega), _, _, arW_c ht, nIin (by omega) (by omega), ?_⟩
    rintro _ rfl
    rw [nI_cl (by omega), nI_cl (by omega), o2 _ (by omega), nar_dig (by omega)]
    intro q27 hT
    obtain ⟨f14, t1, t2⟩ := tabT hT
    rw [nI_sub1 (by omega) (by omega)]
    refine ⟨_, _, t1, nIin (by omega) (by omega), _, _, arW_c (mset_eq _ _ _), nIin (by omega) (by omega), ?_⟩
    rintro _ rfl
    rw [nI_cl (by omega), t2 _ (by omega), nar_dig (by omega), mset_mset]
    refine J_last (k := k / 100) (by omega) hdv (mset_eq _ _ _) (by omega) (by omega) (by omega) hcap ⟨fun h10 => ?_, fun h10 => ?_⟩ 0
    · have hd : dgn k = 3 := by
        unfold dgn
        rw [if_neg (by omega), if_neg h100, if_pos (by omega)]
      have hs : dgs k = [nI (48 + k / 100), nI (48 + k / 10 % 10), nI (48 + k % 10)] := by
        unfold dgs
        rw [if_neg (by omega), if_neg h100, if_pos (by omega)]
      rw [hd, mset_mset]
      rw [hd, hs] at hq
      refine hq _ (fun i hi => by rw [upd_ne (by omega), upd_ne (by omega), upd_ne (by omega)]) (fun i hi => ?_) (fun hf => sb_fitU (sb_fitU (sb_fitU hf (hfd _ (by omega))) (hfd _ (by omega))) (hfd _ (by omega))) _
      rcases (by omega : i = 0 ∨ i = 1 ∨ i = 2) with rfl | rfl | rfl
      · rw [show n + 0 = n + 3 - 1 - 1 - 1 by omega, upd_eq]
        rfl
      · rw [upd_ne (by omega), show n + 1 = n + 3 - 1 - 1 by omega, upd_eq, show k % 100 / 10 = k / 10 % 10 by omega]
        rfl
      · rw [upd_ne (by omega), upd_ne (by omega), show n + 2 = n + 3 - 1 by omega, upd_eq, show k % 100 % 10 = k % 10 by omega]
        rfl
    · have hd : dgn k = 4 := by
        unfold dgn
        rw [if_neg (by omega), if_neg h100, if_neg (by omega)]
      have hs : dgs k = [nI (48 + k / 1000), nI (48 + k / 100 % 10), nI (48 + k / 10 % 10), nI (48 + k % 10)] := by
        unfold dgs
        rw [if_neg (by omega), if_neg h100, if_neg (by omega)]
      rw [hd, mset_mset]
      rw [hd, hs] at hq
      refine hq _ (fun i hi => by rw [upd_ne (by omega), upd_ne (by omega), upd_ne (by omega), upd_ne (by omega)]) (fun i hi => ?_) (fun hf => sb_fitU (sb_fitU (sb_fitU (sb_fitU hf (hfd _ (by omega))) (hfd _ (by omega))) (hfd _ (by omega))) (hfd _ (by omega))) _
      rcases (by omega : i = 0 ∨ i = 1 ∨ i = 2 ∨ i = 3) with rfl | rfl | rfl | rfl
      · rw [show n + 0 = n + 4 - 1 - 1 - 2 by omega, upd_eq, show k / 100 / 10 = k / 1000 by omega]
        rfl
      · rw [upd_ne (by omega), show n + 1 = n + 4 - 1 - 1 - 1 by omega, upd_eq]
        rfl
      · rw [upd_ne (by omega), upd_ne (by omega), show n + 2 = n + 4 - 1 - 1 by omega, upd_eq, show k % 100 / 10 = k / 10 % 10 by omega]
        rfl
      · rw [upd_ne (by omega), upd_ne (by omega), upd_ne (by omega), show n + 3 = n + 4 - 1 by omega, upd_eq, show k % 100 % 10 = k % 10 by omega]
        rfl
theorem SB.appI (h : SB w b t cap l) {k : Nat} (hk : k ≤ 9999) (hl : 1 ≤ l.length) (hn : l.length + 4 ≤ 300) (hb : b < z) (ht : t < z) {Q : Nat → Mm → Nat → Prop}
    (hq : ∀ w' t' z', SB w' b t' (gr cap (l.length + dgn k)) (l ++ dgs k) → (t' = t ∨ z ≤ t') → t' < z' → z ≤ z' → FrB b t z w w' → Q b w' z') : F_J4_append_bf812 b (nI k) w z (gr cap (l.length + dgn k) - cap) (2 * (gr cap (l.length + dgn k) - cap)) Q := by
  have hd0 : dgn k ≤ 4 := by
    unfold dgn
    split
    · omega
    · split
      · omega
      · split <;> omega
  obtain ⟨fl, fb, h1, h2⟩ := id h
  refine ⟨h.is, _, _, Nat.le_refl _, Nat.le_refl _, _, fld_c h1 3, J_size hk ?_⟩
  rw [nIad (by omega)]
  rintro _ rfl
  refine ⟨h.is, _, _, Nat.le_refl _, Nat.le_refl _, h.ens (by omega) hb ht (fun w' t' z' k1 k2 k3 k4 k5 => ⟨k1.is, k1.lat ⟨fun hh => absurd hh (by decide), fun _ => ?_⟩⟩)⟩
  obtain ⟨fl', fb', a1, a2, a3, a4, a5, a6, a7⟩ := k1
  have hgn := gr_need (cap := cap) (need := l.length + dgn k)
  refine ⟨_, fld_c a1 0, J_chars hk a2 hgn (by omega) (by omega) hl (fun fb2 e1 e2 e3 v => ⟨_, obj_c (by rw [mset_ne a3]; exact a1), by simp only [List.length_cons, List.length_nil]; omega, ?_⟩)⟩
  rintro _ rfl
  have hlen : (l ++ dgs k).length = l.length + dgn k := by rw [List.length_append, dgs_len]
  refine hq _ t' z' ⟨fl', fb2, by rw [mset_eq, hlen]; rfl, by rw [mset_ne (Ne.symm a3), mset_eq], a3, by rw [hlen]; exact hgn, a5, e3 a6, fun i hi => ?_⟩ k2 k3 k4 ⟨fun q q1 q2 q3 => by rw [mset_ne q2, mset_ne (by omega)]; exact k5.1 q q1 q2 q3, k5.2.ms.ms⟩
  rw [hlen] at hi
  by_cases hil : i < l.length
  · rw [e1 i hil, getD_app1 hil]
    exact a7 i hil
  · rw [getD_app2 (by omega), ← e2 (i - l.length) (by omega), show l.length + (i - l.length) = i by omega]
end
