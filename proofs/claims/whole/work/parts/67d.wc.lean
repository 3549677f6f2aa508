/-! the cases are written: the class -/
def nmL (f : Nat → Int32) (p : Nat) : List Int32 := (List.range (cl (f (21 + 13 * p + 6)))).map (fun i => f (21 + 13 * p + 7 + i))
def wc1 (l : List Int32) : List Int32 := if l.length = 0 then l else l ++ [32]
def wc2 (f : Nat → Int32) (c : Int32) (l : List Int32) : List Int32 := l ++ nmL f (cl (f (305 + 7 * cl c)))
def wc4 (f : Nat → Int32) (c : Int32) (l : List Int32) : List Int32 := if isLateF f c = 0 then l else l ++ [33]
def wc (f : Nat → Int32) (c : Int32) (l : List Int32) : List Int32 := wc4 f c ((wc2 f c (wc1 l) ++ [58]) ++ dgs (cl (dueF f c)))
def wcs (f : Nat → Int32) : Nat → Int32 → List Int32 → List Int32
  | 0, _, l => l
  | n + 1, c, l => wcs f n (c + 1) (if f (305 + 7 * cl c + 2) = 4 then l else wc f c l)
/-- the builder's room behind a case -/
def cpc (f : Nat → Int32) (c : Int32) (cap : Nat) (l : List Int32) : Nat :=
  if isLateF f c = 0 then gr (gr (gr cap (l.length + cl (f (21 + 13 * cl (f (305 + 7 * cl c)) + 6)))) ((wc2 f c l).length + 1)) ((wc2 f c l ++ [58]).length + dgn (cl (dueF f c)))
  else gr (gr (gr (gr cap (l.length + cl (f (21 + 13 * cl (f (305 + 7 * cl c)) + 6)))) ((wc2 f c l).length + 1)) ((wc2 f c l ++ [58]).length + dgn (cl (dueF f c)))) (((wc2 f c l ++ [58]) ++ dgs (cl (dueF f c))).length + 1)
def cpw (f : Nat → Int32) (c : Int32) (cap : Nat) (l : List Int32) : Nat := if l.length = 0 then cpc f c cap l else cpc f c (gr cap (l.length + 1)) (l ++ [32])
theorem cpc_le {f : Nat → Int32} {c : Int32} {cap : Nat} {l : List Int32} : cap ≤ cpc f c cap l := by
  unfold cpc
  split
  · exact Nat.le_trans gr_le (Nat.le_trans gr_le gr_le)
  · exact Nat.le_trans gr_le (Nat.le_trans gr_le (Nat.le_trans gr_le gr_le))
theorem cpw_le {f : Nat → Int32} {c : Int32} {cap : Nat} {l : List Int32} : cap ≤ cpw f c cap l := by
  unfold cpw
  split
  · exact cpc_le
  · exact Nat.le_trans gr_le cpc_le
def FF (w : Mm) (Fz : Nat → Prop) : Prop := ∀ a, Fz a → ∀ bb n f, w a = some (bb, .inr (1, n, .inl f)) → sb_Fit f
def OW (w : Mm) (x z : Nat) (Fz : Nat → Prop) (t cap : Nat) (l : List Int32) : Prop := SB w (x + 132) t cap l ∧ ch7 l ∧ (t = x + 133 ∨ x + 773 ≤ t) ∧ ¬ Fz t ∧ t < z ∧ x + 773 ≤ z ∧ (∀ q, Fz q → q < z) ∧ FF w Fz
theorem ch7_app {l s : List Int32} (h : ch7 l) (h' : ch7 s) : ch7 (l ++ s) := fun v hv => (List.mem_append.mp hv).elim (h v) (h' v)
theorem ch7_1 {v : Int32} (h : 0 ≤ v.toInt) (h' : v.toInt < 128) : ch7 [v] := fun u hu => by
  rw [List.mem_singleton.mp hu]
  exact ⟨h, h'⟩
theorem ch7_dig {d : Nat} (h : d < 10) : 0 ≤ (nI (48 + d)).toInt ∧ (nI (48 + d)).toInt < 128 := by
  rw [nI_toInt (by omega)]
  omega
theorem ch7_dgs {k : Nat} (h : k ≤ 9999) : ch7 (dgs k) := by
  unfold dgs
  intro v hv
  split at hv
  · rw [List.mem_singleton.mp hv]
    exact ch7_dig (by omega)
  · split at hv
    · simp only [List.mem_cons, List.not_mem_nil, or_false] at hv
      rcases hv with rfl | rfl
      · exact ch7_dig (by omega)
      · exact ch7_dig (by omega)
    · split at hv
      · simp only [List.mem_cons, List.not_mem_nil, or_false] at hv
        rcases hv with rfl | rfl | rfl
        · exact ch7_dig (by omega)
        · exact ch7_dig (by omega)
        · exact ch7_dig (by omega)
      · simp only [List.mem_cons, List.not_mem_nil, or_false] at hv
        rcases hv with rfl | rfl | rfl | rfl
        · exact ch7_dig (by omega)
        · exact ch7_dig (by omega)
        · exact ch7_dig (by omega)
        · exact ch7_dig (by omega)
section
variable {w w' w'' : Mm} {x z z' t t' cap cap' b : Nat} {l l' : List Int32} {Q : Int32 → Mm → Nat → Prop} {R : Mm → Nat → Prop} {f : Nat → Int32} {Fz : Nat → Prop} {g : Nat → Int32} {A : Nat → Nat → Int32}
theorem FrB.trans (h : FrB b t z w w') (ht : t' = t ∨ z ≤ t') (hz : z ≤ z') (h' : FrB b t' z' w' w'') : FrB b t z w w'' := fun q q1 q2 q3 => (h' q (by omega) q2 (by omega)).trans (h q q1 q2 q3)
theorem CS.to (h : CS w x Fz g A) (hw : ∀ q, (x ≤ q ∧ q < x + 130) ∨ (x + 134 ≤ q ∧ q < x + 764) ∨ Fz q → w' q = w q) : CS w' x Fz g A := by
  obtain ⟨a1, a2, a3, a4, a5, a6⟩ := h
  have c2 := clI a2
  refine ⟨by unfold XO; rw [hw _ (by omega)]; exact a1, a2, a3.to (a' := A 2) (by omega) (fun q hq => ?_) (fun _ h => h) (fun _ _ => rfl), a4.to (fun q hq => ?_) (fun _ h => h), ⟨a5.1.to (fun q hq => ?_) (fun _ h => h), a5.2⟩, a6.to (fun q h5 h6 => hw q (by omega))⟩
  · rcases hq with hq | hq | hq
    · exact hw q (by omega)
    · exact hw q (by omega)
    · exact hw q (Or.inr (Or.inr hq))
  · rcases hq with hq | hq | hq | hq
    · exact hw q (by omega)
    · exact hw q (by omega)
    · exact hw q (by omega)
    · exact hw q (Or.inr (Or.inr hq))
  · rcases hq with hq | hq
    · exact hw q (by omega)
    · exact hw q (Or.inr (Or.inr hq))
theorem OW.step (hO : OW w x z Fz t cap l) (hS : SB w' (x + 132) t' cap' l') (h1 : t' = t ∨ z ≤ t') (h2 : t' < z') (h3 : z ≤ z') (hF : FrB (x + 132) t z w w') (hc : ch7 l') (hz : FzO x Fz) : OW w' x z' Fz t' cap' l' := by
  obtain ⟨o1, o2, o3, o4, o5, o6, o7, o8⟩ := hO
  refine ⟨hS, hc, by omega, ?_, h2, by omega, fun q hq => by have := o7 q hq; omega, fun a ha bb n f he => o8 a ha bb n f ?_⟩
  · rcases h1 with h1 | h1
    · rw [h1]
      exact o4
    · intro hh
      have := o7 _ hh
      omega
  · rw [← he, hF a (o7 a ha) (by have := hz a ha; omega) (fun e => o4 (e ▸ ha))]
theorem CS.stepO (h : CS w x Fz g A) (hO : OW w x z Fz t cap l) (hF : FrB (x + 132) t z w w') (hz : FzO x Fz) : CS w' x Fz g A := by
  obtain ⟨o1, o2, o3, o4, o5, o6, o7, o8⟩ := hO
  refine h.to (fun q hq => ?_)
  rcases hq with hq | hq | hq
  · exact hF q (by omega) (by omega) (by omega)
  · exact hF q (by omega) (by omega) (by omega)
  · exact hF q (o7 q hq) (by have := hz q hq; omega) (fun e => o4 (e ▸ hq))
theorem HasF.cas0 (h : HasF w b Fz f) (hI : Inv f) {c : Int32} (hc : vp_in c (cl (f 4))) : fld w (b + 43 + cl c) 4 0 = some (.int (f (305 + 7 * cl c))) := by
  have hB4 := clI hI.2.1.2.2.2
  have c1 := clI hc
  obtain ⟨hd, zn, nm, pa, tk, cs, e1, e2, e3⟩ := h
  rw [e1.self]
  exact gC0 e2 (by omega) c1.2
theorem HasF.cas4 (h : HasF w b Fz f) (hI : Inv f) {c : Int32} (hc : vp_in c (cl (f 4))) : fld w (b + 43 + cl c) 4 4 = some (.int (f (305 + 7 * cl c + 2))) := by
  have hB4 := clI hI.2.1.2.2.2
  have c1 := clI hc
  obtain ⟨hd, zn, nm, pa, tk, cs, e1, e2, e3⟩ := h
  rw [e1.self]
  exact gC4 e2 (by omega) c1.2
theorem HasF.casO (h : HasF w b Fz f) (hI : Inv f) {c : Int32} (hc : vp_in c (cl (f 4))) : isO w (b + 43 + cl c) 4 := by
  have hB4 := clI hI.2.1.2.2.2
  have c1 := clI hc
  obtain ⟨hd, zn, nm, pa, tk, cs, e1, e2, e3⟩ := h
  rw [e1.self]
  exact s_iC (by omega)
theorem HasF.cost (h : HasF w b Fz f) (hI : Inv f) {c : Int32} (hc : vp_in c (cl (f 4))) (hq : Q (dueF f c) w z) : F_X0_costAt (b + 43 + cl c) (f 0) w z Q := by
  obtain ⟨hd, zn, nm, pa, tk, cs, e1, e2, e3⟩ := h
  have e := e1.self
  rw [e] at hq ⊢
  exact c_costAt hI.2.1 e2 hc hq
theorem HasF.late (h : HasF w b Fz f) (hI : Inv f) {c : Int32} (hc : vp_in c (cl (f 4))) (hq : Q (isLateF f c) w z) : F_X0_overdueAt (b + 43 + cl c) (f 0) w z Q := by
  obtain ⟨hd, zn, nm, pa, tk, cs, e1, e2, e3⟩ := h
  have e := e1.self
  rw [e] at hq ⊢
  exact c_overdueAt hI.2.1 e2 hc hq
theorem due_k (hI : Inv f) {c : Int32} (hc : vp_in c (cl (f 4))) : dueF f c = nI (cl (dueF f c)) ∧ cl (dueF f c) ≤ 9999 := by
  have h := hI.2.2.2.2.2.1 _ (clI hc).2
  have h1 := h.2.2.2.2
  have e : (f (305 + 7 * cl c + 4) + 1500 : Int32).toInt = (f (305 + 7 * cl c + 4)).toInt + 1500 := by
    rw [ia _ _ (by rw [show (1500 : Int32).toInt = 1500 by decide]; omega) (by rw [show (1500 : Int32).toInt = 1500 by decide]; omega), show (1500 : Int32).toInt = 1500 by decide]
  have hb : 0 ≤ (dueF f c).toInt ∧ (dueF f c).toInt ≤ 9999 := by
    unfold dueF
    split
    · exact ⟨by decide, by decide⟩
    · split
      · omega
      · rw [e]
        omega
  have hcl : cl (dueF f c) = (dueF f c).toInt.toNat := rfl
  refine ⟨ieq.mpr (by rw [nI_toInt (by omega)]; omega), by omega⟩
theorem ch7_nm (hI : Inv f) {p : Nat} (hp : p < cl (f 2)) : ch7 (nmL f p) ∧ (nmL f p).length ≤ 6 := by
  have hN := clI (hI.2.2.2.1 p hp).2.2.1
  refine ⟨fun v hv => ?_, by unfold nmL; rw [List.length_map, List.length_range]; omega⟩
  unfold nmL at hv
  obtain ⟨i, h1, h2⟩ := List.mem_map.mp hv
  rw [← h2]
  exact (hI.ltr hp) i (List.mem_range.mp h1)
theorem X_writeCase20 {c : Int32} (h : CS w x Fz g A) (hz : FzO x Fz) (hO : OW w x z Fz t cap l) (hc : vp_in c (cl (A 1 4))) (hl : l.length + 12 ≤ 290)
    (hq : ∀ w' t' z', CS w' x Fz g A → OW w' x z' Fz t' (cpc (A 1) c cap l) (wc4 (A 1) c ((wc2 (A 1) c l ++ [58]) ++ dgs (cl (dueF (A 1) c)))) → z ≤ z' → FrB (x + 132) t z w w' → (t' = t ∨ z ≤ t') → R w' z') : B_X5_writeCase_20 x (x + 1 + 43 + cl c) R w z (cpc (A 1) c cap l - cap) (2 * (cpc (A 1) c cap l - cap)) := by
  have hI := h.I1
  have hB2 := clI hI.2.1.2.1
  have hp := (hI.2.2.2.2.2.1 _ (clI hc).2).1
  have cp := clI hp
  have hnm := ch7_nm hI cp.2
  have hd := due_k hI hc
  have hd4 := dgn_4 (cl (dueF (A 1) c))
  have hE1 : ¬ isLateF (A 1) c = 0 → cpc (A 1) c cap l = gr (gr (gr (gr cap (l.length + cl (A 1 (21 + 13 * cl (A 1 (305 + 7 * cl c)) + 6)))) ((wc2 (A 1) c l).length + 1)) ((wc2 (A 1) c l ++ [58]).length + dgn (cl (dueF (A 1) c)))) (((wc2 (A 1) c l ++ [58]) ++ dgs (cl (dueF (A 1) c))).length + 1) := fun h => if_neg h
  have hE0 : isLateF (A 1) c = 0 → cpc (A 1) c cap l = gr (gr (gr cap (l.length + cl (A 1 (21 + 13 * cl (A 1 (305 + 7 * cl c)) + 6)))) ((wc2 (A 1) c l).length + 1)) ((wc2 (A 1) c l ++ [58]).length + dgn (cl (dueF (A 1) c))) := fun h => if_pos h
  generalize cpc (A 1) c cap l = capE at hE1 hE0 hq ⊢
  have hnl : (nmL (A 1) (cl (A 1 (305 + 7 * cl c)))).length = cl (A 1 (21 + 13 * cl (A 1 (305 + 7 * cl c)) + 6)) := by
    unfold nmL
    rw [List.length_map, List.length_range]
  have hlen2 : (wc2 (A 1) c l).length = l.length + (nmL (A 1) (cl (A 1 (305 + 7 * cl c)))).length := List.length_append
  have hc2 : ch7 (wc2 (A 1) c l) := ch7_app hO.2.1 hnm.1
  have hl2 : l ++ (List.range (cl (A 1 (21 + 13 * cl (A 1 (305 + 7 * cl c)) + 6)))).map (fun i => A 1 (21 + 13 * cl (A 1 (305 + 7 * cl c)) + 7 + i)) = wc2 (A 1) c l := rfl
  generalize wc2 (A 1) c l = l2 at *
  have hlen3 : (l2 ++ [58]).length = l2.length + 1 := List.length_append
  have hlen4 : ((l2 ++ [58]) ++ dgs (cl (dueF (A 1) c))).length = l2.length + 1 + dgn (cl (dueF (A 1) c)) := by
    rw [List.length_append, hlen3, dgs_len]
  have hc3 : ch7 (l2 ++ [58]) := ch7_app hc2 (ch7_1 (by decide) (by decide))
  have hc4 : ch7 ((l2 ++ [58]) ++ dgs (cl (dueF (A 1) c))) := ch7_app hc3 (ch7_dgs hd.2)
  have g1 := gr_le (cap := cap) (need := l.length + cl (A 1 (21 + 13 * cl (A 1 (305 + 7 * cl c)) + 6)))
  generalize hcap1 : gr cap (l.length + cl (A 1 (21 + 13 * cl (A 1 (305 + 7 * cl c)) + 6))) = cap1 at g1 hE1 hE0
  have g2 := gr_le (cap := cap1) (need := l2.length + 1)
  generalize hcap2 : gr cap1 (l2.length + 1) = cap2 at g2 hE1 hE0
  have g3 := gr_le (cap := cap2) (need := (l2 ++ [58]).length + dgn (cl (dueF (A 1) c)))
  generalize hcap3 : gr cap2 ((l2 ++ [58]).length + dgn (cl (dueF (A 1) c))) = cap3 at g3 hE1 hE0
  have g4 := gr_le (cap := cap3) (need := ((l2 ++ [58]) ++ dgs (cl (dueF (A 1) c))).length + 1)
  generalize hcap4 : gr cap3 (((l2 ++ [58]) ++ dgs (cl (dueF (A 1) c))).length + 1) = cap4 at g4 hE1
  have hE : cap3 ≤ capE := by
    by_cases h0 : isLateF (A 1) c = 0
    · rw [hE0 h0]
      exact Nat.le_refl _
    · rw [hE1 h0]
      exact g4
  have hv : vp_in (A 1 (305 + 7 * cl c)) 8 := vp_le hp (by omega)
  obtain ⟨q, q1, q2⟩ := h.F1.name hI cp.2
  obtain ⟨hdd, zn, nm, pa, tk, cs, e1, e2, e3⟩ := h.F1
  refine ⟨_, fld_c h.1 7, _, h.f0, _, e1.r9, _, h.F1.cas0 hI hc, e1.aP hv ⟨_, q1, hO.1.is, cap1 - cap, 2 * (cap1 - cap), by omega, by omega, ?_⟩⟩
  rw [← hcap1]
  refine SB.appS hO.1 q2 (fun a f bb n ha he => hO.2.2.2.2.2.2.2 a ha bb n f he) (fun a ha => ⟨hO.2.2.2.2.2.2.1 a ha, by have := hz a ha; omega, fun e => hO.2.2.2.1 (e ▸ ha)⟩) (by omega) (by have := hO.2.2.2.2.2.1; omega) hO.2.2.2.2.1 (fun w1 t1 z1 a1 a2 a3 a4 a5 => ?_)
  rw [hcap1] at a1 ⊢
  have a1' : SB w1 (x + 132) t1 cap1 l2 := by
    rw [← hl2]
    exact a1
  have O1 := hO.step a1' a2 a3 a4 a5 hc2 hz
  have C1 := h.stepO hO a5 hz
  refine ⟨_, fld_c C1.1 7, O1.1.is, cap2 - cap1, 2 * (cap2 - cap1), by omega, by omega, ?_⟩
  rw [← hcap2]
  refine O1.1.app (c := 58) (by decide) (by decide) (by omega) (by have := O1.2.2.2.2.2.1; omega) O1.2.2.2.2.1 (fun w2 t2 z2 b1 b2 b3 b4 b5 => ?_)
  rw [hcap2] at b1 ⊢
  have O2 := O1.step b1 b2 b3 b4 b5 hc3 hz
  have C2 := C1.stepO O1 b5 hz
  refine ⟨_, fld_c C2.1 7, _, C2.f0, _, C2.F1.g0, C2.F1.casO hI hc, C2.F1.cost hI hc ⟨O2.1.is, cap3 - cap2, 2 * (cap3 - cap2), by omega, by omega, ?_⟩⟩
  rw [← hcap3]
  have kI := O2.1.appI (z := z2) hd.2 (by omega) (by omega) (by have := O2.2.2.2.2.2.1; omega) O2.2.2.2.2.1 (Q := fun r30 w31 z32 => ∃ q35, fld w31 x 9 0 = some (.ref (q35)) ∧ ∃ v36, fld w31 q35 7 0 = some (.int (v36)) ∧ isO w31 (x + 1 + 43 + cl c) 4 ∧ F_X0_overdueAt (x + 1 + 43 + cl c) v36 w31 z32 (fun r38 w39 z40 => (r38 = 0 → R w39 z40) ∧ (¬ r38 = 0 → ∃ q42, fld w39 x 9 7 = some (.ref (q42)) ∧ isO w39 q42 1 ∧ ∃ k47 k48, k47 ≤ (((capE - cap - (cap1 - cap)) - (cap2 - cap1)) - (cap3 - cap2)) ∧ k48 ≤ (((2 * (capE - cap) - 2 * (cap1 - cap)) - 2 * (cap2 - cap1)) - 2 * (cap3 - cap2)) ∧ F_J4_append_cf468 q42 33 w39 z40 k47 k48 (fun r44 w45 z46 => R w45 z46)))) (fun w3 t3 z3 c1 c2 c3 c4 c5 => ?_)
  · rw [← hd.1] at kI
    rw [hcap3] at kI ⊢
    exact kI
  rw [hcap3] at c1
  have O3 := O2.step c1 c2 c3 c4 c5 hc4 hz
  have C3 := C2.stepO O2 c5 hz
  have F3 : FrB (x + 132) t z w w3 := (a5.trans a2 a4 b5).trans (by omega) (by omega) c5
  refine ⟨_, C3.f0, _, C3.F1.g0, C3.F1.casO hI hc, C3.F1.late hI hc ⟨fun h0 => ?_, fun h0 => ⟨_, fld_c C3.1 7, O3.1.is, cap4 - cap3, 2 * (cap4 - cap3), by rw [hE1 h0]; omega, by rw [hE1 h0]; omega, ?_⟩⟩⟩
  · refine hq w3 t3 z3 C3 ?_ (by omega) F3 (by omega)
    unfold wc4
    rw [if_pos h0, hE0 h0]
    exact O3
  · rw [← hcap4]
    refine O3.1.app (c := 33) (by decide) (by decide) (by omega) (by have := O3.2.2.2.2.2.1; omega) O3.2.2.2.2.1 (fun w4 t4 z4 d1 d2 d3 d4 d5 => ?_)
    rw [hcap4] at d1
    have O4 := O3.step d1 d2 d3 d4 d5 (ch7_app hc4 (ch7_1 (by decide) (by decide))) hz
    refine hq w4 t4 z4 (C3.stepO O3 d5 hz) ?_ (by omega) (F3.trans (by omega) (by omega) d5) (by omega)
    unfold wc4
    rw [if_neg h0, hE1 h0]
    exact O4
theorem X_writeCase {c : Int32} (h : CS w x Fz g A) (hz : FzO x Fz) (hO : OW w x z Fz t cap l) (hc : vp_in c (cl (A 1 4))) (hl : l.length + 13 ≤ 290)
    (hq : ∀ w' t' z', CS w' x Fz g A → OW w' x z' Fz t' (cpw (A 1) c cap l) (wc (A 1) c l) → z ≤ z' → FrB (x + 132) t z w w' → (t' = t ∨ z ≤ t') → R w' z') : F_X5_writeCase x (x + 1 + 43 + cl c) w z (cpw (A 1) c cap l - cap) (2 * (cpw (A 1) c cap l - cap)) R := by
  unfold cpw wc wc1 at *
  by_cases h0 : l.length = 0
  · rw [if_pos h0] at hq ⊢
    rw [if_pos h0] at hq
    exact ⟨_, fld_c h.1 7, hO.1.is, hO.1.len ⟨fun _ => X_writeCase20 h hz hO hc (by omega) hq, fun hh => absurd (ile.mpr (by rw [nI_toInt (by omega), i_0]; omega)) hh⟩⟩
  · rw [if_neg h0] at hq ⊢
    rw [if_neg h0] at hq
    have hc1 : ch7 (l ++ [32]) := ch7_app hO.2.1 (ch7_1 (by decide) (by decide))
    have hlen1 : (l ++ [32]).length = l.length + 1 := List.length_append
    have g0 := gr_le (cap := cap) (need := l.length + 1)
    have g1 := cpc_le (f := A 1) (c := c) (cap := gr cap (l.length + 1)) (l := l ++ [32])
    refine ⟨_, fld_c h.1 7, hO.1.is, hO.1.len ⟨fun hh => absurd (ile.mp hh) (by rw [nI_toInt (by omega), i_0]; omega), fun _ => ⟨_, fld_c h.1 7, hO.1.is, gr cap (l.length + 1) - cap, 2 * (gr cap (l.length + 1) - cap), by omega, by omega, hO.1.app (c := 32) (by decide) (by decide) (by omega) (by have := hO.2.2.2.2.2.1; omega) hO.2.2.2.2.1 (fun w1 t1 z1 a1 a2 a3 a4 a5 => ?_)⟩⟩⟩
    have O1 := hO.step a1 a2 a3 a4 a5 hc1 hz
    have C1 := h.stepO hO a5 hz
    have := X_writeCase20 (R := R) C1 hz O1 hc (by omega) (fun w' t' z' b1 b2 b3 b4 b5 => hq w' t' z' b1 b2 (by omega) (a5.trans a2 a4 b4) (by omega))
    rwa [show cpc (A 1) c (gr cap (l.length + 1)) (l ++ [32]) - gr cap (l.length + 1) = cpc (A 1) c (gr cap (l.length + 1)) (l ++ [32]) - cap - (gr cap (l.length + 1) - cap) by omega, show 2 * (cpc (A 1) c (gr cap (l.length + 1)) (l ++ [32]) - cap - (gr cap (l.length + 1) - cap)) = 2 * (cpc (A 1) c (gr cap (l.length + 1)) (l ++ [32]) - cap) - 2 * (gr cap (l.length + 1) - cap) by omega] at this
theorem wc_len (hI : Inv f) {c : Int32} (hc : vp_in c (cl (f 4))) (l : List Int32) : (wc f c l).length ≤ l.length + 13 := by
  have hp := (hI.2.2.2.2.2.1 _ (clI hc).2).1
  have hnm := (ch7_nm hI (clI hp).2).2
  have hd4 := dgn_4 (cl (dueF f c))
  have h1 : (wc1 l).length ≤ l.length + 1 := by
    unfold wc1
    split
    · omega
    · rw [List.length_append, List.length_singleton]
      exact Nat.le_refl _
  have h2 : ((wc2 f c (wc1 l) ++ [58]) ++ dgs (cl (dueF f c))).length ≤ l.length + 12 := by
    rw [List.length_append, List.length_append, dgs_len, List.length_singleton]
    unfold wc2
    rw [List.length_append]
    omega
  unfold wc wc4
  split
  · omega
  · rw [List.length_append, List.length_singleton]
    omega
/-- the room behind all cases -/
def cps (f : Nat → Int32) : Nat → Int32 → Nat → List Int32 → Nat
  | 0, _, cap, _ => cap
  | n + 1, c, cap, l => if f (305 + 7 * cl c + 2) = 4 then cps f n (c + 1) cap l else cps f n (c + 1) (cpw f c cap l) (wc f c l)
theorem cps_le (f : Nat → Int32) : ∀ (n : Nat) (c : Int32) (cap : Nat) (l : List Int32), cap ≤ cps f n c cap l := by
  intro n
  induction n with
  | zero => intros; exact Nat.le_refl _
  | succ n ih =>
    intro c cap l
    rw [cps]
    split
    · exact ih _ _ _
    · exact Nat.le_trans cpw_le (ih _ _ _)
theorem X_wcs {Q : Int32 → Mm → Nat → Prop} (hz : FzO x Fz) {w0 : Mm} {z0 t0 : Nat} : ∀ (n : Nat) (c : Int32) (w : Mm) (t z cap : Nat) (l : List Int32), (A 1 4).toInt = c.toInt + n → 0 ≤ c.toInt → CS w x Fz g A → OW w x z Fz t cap l → l.length + 13 * n ≤ 277 → z0 ≤ z → FrB (x + 132) t0 z0 w0 w → (t = t0 ∨ z0 ≤ t) →
    (∀ w' t' z', CS w' x Fz g A → OW w' x z' Fz t' (cps (A 1) n c cap l) (wcs (A 1) n c l) → z0 ≤ z' → FrB (x + 132) t0 z0 w0 w' → (t' = t0 ∨ z0 ≤ t') → Q (nI (wcs (A 1) n c l).length) w' z') → B_X5_writeCases_10 x Q (n + 1) c w z (cps (A 1) n c cap l - cap) (2 * (cps (A 1) n c cap l - cap)) := by
  intro n
  induction n with
  | zero =>
    intro c w t z cap l h1 h2 h hO hl hz0 hF ht hq
    unfold B_X5_writeCases_10
    exact ⟨_, h.f0, _, h.F1.g4, fun _ => ⟨_, fld_c h.1 7, hO.1.is, hO.1.len (hq w t z h hO hz0 hF ht)⟩, fun hh => absurd (ile.mpr (by omega)) hh⟩
  | succ n ih =>
    intro c w t z cap l h1 h2 h hO hl hz0 hF ht hq
    have hI := h.I1
    have hB4 := clI hI.2.1.2.2.2
    have hc : vp_in c (cl (A 1 4)) := vp_in_iff.mpr (by omega)
    have hv : vp_in c 20 := vp_le hc (by omega)
    have h5 := cl_succ hv (by omega)
    unfold B_X5_writeCases_10
    obtain ⟨hdd, zn, nm, pa, tk, cs, e1, e2, e3⟩ := h.F1
    refine ⟨_, h.f0, _, h.F1.g4, fun hh => absurd (ile.mp hh) (by omega), fun _ => ⟨_, h.f0, _, e1.r11, e1.aC hv ⟨_, h.F1.cas4 hI hc, fun h4 => ?_, fun h4 => ⟨_, h.f0, _, e1.r11, e1.aC hv ⟨h.is0, cpw (A 1) c cap l - cap, 2 * (cpw (A 1) c cap l - cap), ?_, ?_, X_writeCase h hz hO hc (by omega) (fun w' t' z' b1 b2 b3 b4 b5 => ?_)⟩⟩⟩⟩⟩
    · rw [cps, if_pos h4] at hq ⊢
      rw [wcs, if_pos h4] at hq
      exact ih (c + 1) w t z cap l (by omega) (by omega) h hO (by omega) hz0 hF ht hq
    · rw [cps, if_neg h4]
      have := cps_le (A 1) n (c + 1) (cpw (A 1) c cap l) (wc (A 1) c l)
      omega
    · rw [cps, if_neg h4]
      have := cps_le (A 1) n (c + 1) (cpw (A 1) c cap l) (wc (A 1) c l)
      omega
    · rw [cps, if_neg h4] at hq ⊢
      rw [wcs, if_neg h4] at hq
      have g1 := cps_le (A 1) n (c + 1) (cpw (A 1) c cap l) (wc (A 1) c l)
      have g2 := cpw_le (f := A 1) (c := c) (cap := cap) (l := l)
      have g3 := wc_len hI hc l
      have := ih (c + 1) w' t' z' (cpw (A 1) c cap l) (wc (A 1) c l) (by omega) (by omega) b1 b2 (by omega) (by omega) (hF.trans ht hz0 b4) (by omega) hq
      rwa [show cps (A 1) n (c + 1) (cpw (A 1) c cap l) (wc (A 1) c l) - cpw (A 1) c cap l = cps (A 1) n (c + 1) (cpw (A 1) c cap l) (wc (A 1) c l) - cap - (cpw (A 1) c cap l - cap) by omega, show 2 * (cps (A 1) n (c + 1) (cpw (A 1) c cap l) (wc (A 1) c l) - cap - (cpw (A 1) c cap l - cap)) = 2 * (cps (A 1) n (c + 1) (cpw (A 1) c cap l) (wc (A 1) c l) - cap) - 2 * (cpw (A 1) c cap l - cap) by omega] at this
def cpA (f : Nat → Int32) (cap : Nat) : Nat := cps f (cl (f 4)) 0 cap []
def wcA (f : Nat → Int32) : List Int32 := wcs f (cl (f 4)) 0 []
theorem X_writeCases {Q : Int32 → Mm → Nat → Prop} (h : CS w x Fz g A) (hz : FzO x Fz) (hO : OW w x z Fz t cap l)
    (hq : ∀ w' t' z', CS w' x Fz g A → OW w' x z' Fz t' (cpA (A 1) cap) (wcA (A 1)) → z ≤ z' → FrB (x + 132) t z w w' → (t' = t ∨ z ≤ t') → Q (nI (wcA (A 1)).length) w' z') : F_X5_writeCases x w z (cpA (A 1) cap - cap) (2 * (cpA (A 1) cap - cap)) Q := by
  have hB4 := clI h.I1.2.1.2.2.2
  refine ⟨_, fld_c h.1 7, hO.1.is, 0, 0, Nat.zero_le _, Nat.zero_le _, hO.1.set0 (by have := hO.2.2.2.2.2.1; omega) hO.2.2.2.2.1 (fun w' a1 a2 => ⟨cl (A 1 4) + 1, ?_⟩)⟩
  rw [Nat.sub_zero, Nat.sub_zero]
  exact X_wcs hz (w0 := w) (z0 := z) (t0 := t) _ 0 w' t z cap [] (by rw [i_0]; omega) (by rw [i_0]; omega) (h.stepO hO a2 hz) (hO.step a1 (Or.inl rfl) hO.2.2.2.2.1 (Nat.le_refl _) a2 (fun v hv => absurd hv List.not_mem_nil) hz) (by simp only [List.length_nil]; omega) (Nat.le_refl _) a2 (Or.inl rfl) hq
theorem X_outputByte {i : Int32} {Q : Int32 → Mm → Nat → Prop} (h : CS w x Fz g A) (hO : OW w x z Fz t cap l) (h1 : vp_in i l.length → Q (l.getD (cl i) 0) w z) (h0 : ¬ vp_in i l.length → Q (-1) w z) : F_X5_outputByte x i w z Q := by
  have hlen : l.length ≤ 702 := by
    obtain ⟨fl, fb, k1, k2, k3, k4, k5, k6⟩ := hO.1
    omega
  refine ⟨fun hh => h0 (fun hv => ?_), fun hh => ⟨_, fld_c h.1 7, hO.1.is, hO.1.len ⟨fun hl => h0 (fun hv => ?_), fun hl => ⟨_, fld_c h.1 7, hO.1.is, ?_⟩⟩⟩⟩
  · have a1 := ilt.mp hh
    have a2 := vp_in_iff.mp hv
    rw [i_0] at a1
    omega
  · have a1 := ile.mp hl
    have a2 := vp_in_iff.mp hv
    rw [nI_toInt (by omega)] at a1
    omega
  · have a1 : ¬ i.toInt < (0 : Int32).toInt := fun h => hh (ilt.mpr h)
    have a2 : ¬ (nI l.length).toInt ≤ i.toInt := fun h => hl (ile.mpr h)
    rw [i_0] at a1
    rw [nI_toInt (by omega)] at a2
    have hv : vp_in i l.length := vp_in_iff.mpr (by omega)
    exact hO.1.char hO.2.1 hv hlen (h1 hv)
end
