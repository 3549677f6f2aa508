/-! the cases are written: the class -/
def nmL (f : Nat → Int32) (p : Nat) : List Int32 := (List.range (cl (f (21 + 13 * p + 6)))).map (fun i => f (21 + 13 * p + 7 + i))
def wc1 (l : List Int32) : List Int32 := if l.length = 0 then l else l ++ [32]
def wc2 (f : Nat → Int32) (c : Int32) (l : List Int32) : List Int32 := l ++ nmL f (cl (f (305 + 7 * cl c)))
def wc4 (f : Nat → Int32) (c : Int32) (l : List Int32) : List Int32 := if isLateF f c = 0 then l else l ++ [33]
def wc (f : Nat → Int32) (c : Int32) (l : List Int32) : List Int32 := wc4 f c ((wc2 f c (wc1 l) ++ [58]) ++ dgs (cl (dueF f c)))
def wcs (f : Nat → Int32) : Nat → Int32 → List Int32 → List Int32
  | 0, _, l => l
  | n + 1, c, l => wcs f n (c + 1) (if f (305 + 7 * cl c + 2) = 4 then l else wc f c l)
/-- the builder's room behind a case -/
def cpc (f : Nat → Int32) (c : Int32) (cap : Nat) (l : List Int32) : Nat :=
  if isLateF f c = 0 then gr (gr (gr cap (l.length + cl (f (21 + 13 * cl (f (305 + 7 * cl c)) + 6)))) ((wc2 f c l).length + 1)) ((wc2 f c l ++ [58]).length + dgn (cl (dueF f c)))
  else gr (gr (gr (gr cap (l.length + cl (f (21 + 13 * cl (f (305 + 7 * cl c)) + 6)))) ((wc2 f c l).length + 1)) ((wc2 f c l ++ [58]).length + dgn (cl (dueF f c)))) (((wc2 f c l ++ [58]) ++ dgs (cl (dueF f c))).length + 1)
def cpw (f : Nat → Int32) (c : Int32) (cap : Nat) (l : List Int32) : Nat := if l.length = 0 then cpc f c cap l else cpc f c (gr cap (l.length + 1)) (l ++ [32])
theorem cpc_le {f : Nat → Int32} {c : Int32} {cap : Nat} {l : List Int32} : cap ≤ cpc f c cap l := by
  unfold cpc
  split
  · exact Nat.le_trans gr_le (Nat.le_trans gr_le gr_le)
  · exact Nat.le_trans gr_le (Nat.le_trans gr_le (Nat.le_trans gr_le gr_le))
theorem cpw_le {f : Nat → Int32} {c : Int32} {cap : Nat} {l : List Int32} : cap ≤ cpw f c cap l := by
  unfold cpw
  split
  · exact cpc_le
  · exact Nat.le_trans gr_le cpc_le
def FF (w : Mm) (Fz : Nat → Prop) : Prop := ∀ a, Fz a → ∀ bb n f, w a = some (bb, .inr (1, n, .inl f)) → sb_Fit f
def OW (w : Mm) (x z : Nat) (Fz : Nat → Prop) (t cap : Nat) (l : List Int32) : Prop := SB w (x + 132) t cap l ∧ ch7 l ∧ (t = x + 133 ∨ x + 773 ≤ t) ∧ ¬ Fz t ∧ t < z ∧ x + 773 ≤ z ∧ (∀ q, Fz q → q < z) ∧ FF w Fz
theorem ch7_app {l s : List Int32} (h : ch7 l) (h' : ch7 s) : ch7 (l ++ s) := fun v hv => (List.mem_append.mp hv).elim (h v) (h' v)
theorem ch7_1 {v : Int32} (h : 0 ≤ v.toInt) (h' : v.toInt < 128) : ch7 [v] := fun u hu => by
  rw [List.mem_singleton.mp hu]
  exact ⟨h, h'⟩
theorem ch7_dig {d : Nat} (h : d < 10) : 0 ≤ (nI (48 + d)).toInt ∧ (nI (48 + d)).toInt < 128 := by
  rw [nI_toInt (by omega)]
  omega
theorem ch7_dgs {k : Nat} (h : k ≤ 9999) : ch7 (dgs k) := by
  unfold dgs
  intro v hv
  split at hv
  · rw [List.mem_singleton.mp hv]
    exact ch7_dig (by omega)
  · split at hv
    · simp only [List.mem_cons, List.not_mem_nil, or_false] at hv
      rcases hv with rfl | rfl
      · exact ch7_dig (by omega)
      · exact ch7_dig (by omega)
    · split at hv
      · simp only [List.mem_cons, List.not_mem_nil, or_false] at hv
        rcases hv with rfl | rfl | rfl
        · exact ch7_dig (by omega)
        · exact ch7_dig (by omega)
        · exact ch7_dig (by omega)
      · simp only [List.mem_cons, List.not_mem_nil, or_false] at hv
        rcases hv with rfl | rfl | rfl | rfl
        · exact ch7_dig (by omega)
        · exact ch7_dig (by omega)
        · exact ch7_dig (by omega)
        · exact ch7_dig (by omega)
section
variable {w w' w'' : Mm} {x z z' t t' cap cap' b : Nat} {l l' : List Int32} {Q : Int32 → Mm → Nat → Prop} {R : Mm → Nat → Prop} {f : Nat → Int32} {Fz : Nat → Prop} {g : Nat → Int32} {A : Nat → Nat → Int32}
theorem CS.to (h : CS w x Fz g A) (hw : ∀ q, (x ≤ q ∧ q < x + 130) ∨ (x + 134 ≤ q ∧ q < x + 764) ∨ Fz q → w' q = w q) : CS w' x Fz g A := by
  obtain ⟨a1, a2, a3, a4, a5, a6⟩ := h
  have c2 := clI a2
  refine ⟨by unfold XO; rw [hw _ (by omega)]; exact a1, a2, a3.to (a' := A 2) (by omega) (fun q hq => ?_) (fun _ h => h) (fun _ _ => rfl), a4.to (fun q hq => ?_) (fun _ h => h), ⟨a5.1.to (fun q hq => ?_) (fun _ h => h), a5.2⟩, a6.to (fun q h5 h6 => hw q (by omega))⟩
  · rcases hq with hq | hq | hq
    · exact hw q (by omega)
    · exact hw q (by omega)
    · exact hw q (Or.inr (Or.inr hq))
  · rcases hq with hq | hq | hq | hq
    · exact hw q (by omega)
    · exact hw q (by omega)
    · exact hw q (by omega)
    · exact hw q (Or.inr (Or.inr hq))
  · rcases hq with hq | hq
    · exact hw q (by omega)
    · exact hw q (Or.inr (Or.inr hq))
theorem HasF.cas0 (h : HasF w b Fz f) (hI : Inv f) {c : Int32} (hc : vp_in c (cl (f 4))) : fld w (b + 43 + cl c) 4 0 = some (.int (f (305 + 7 * cl c))) := by
  have hB4 := clI hI.2.1.2.2.2
  have c1 := clI hc
  obtain ⟨hd, zn, nm, pa, tk, cs, e1, e2, e3⟩ := h
  rw [e1.self]
  exact gC0 e2 (by omega) c1.2
theorem HasF.cas4 (h : HasF w b Fz f) (hI : Inv f) {c : Int32} (hc : vp_in c (cl (f 4))) : fld w (b + 43 + cl c) 4 4 = some (.int (f (305 + 7 * cl c + 2))) := by
  have hB4 := clI hI.2.1.2.2.2
  have c1 := clI hc
  obtain ⟨hd, zn, nm, pa, tk, cs, e1, e2, e3⟩ := h
  rw [e1.self]
  exact gC4 e2 (by omega) c1.2
theorem HasF.casO (h : HasF w b Fz f) (hI : Inv f) {c : Int32} (hc : vp_in c (cl (f 4))) : isO w (b + 43 + cl c) 4 := by
  have hB4 := clI hI.2.1.2.2.2
  have c1 := clI hc
  obtain ⟨hd, zn, nm, pa, tk, cs, e1, e2, e3⟩ := h
  rw [e1.self]
  exact s_iC (by omega)
theorem HasF.cost (h : HasF w b Fz f) (hI : Inv f) {c : Int32} (hc : vp_in c (cl (f 4))) (hq : Q (dueF f c) w z) : F_X0_costAt (b + 43 + cl c) (f 0) w z Q := by
  obtain ⟨hd, zn, nm, pa, tk, cs, e1, e2, e3⟩ := h
  have e := e1.self
  rw [e] at hq ⊢
  exact c_costAt hI.2.1 e2 hc hq
theorem HasF.late (h : HasF w b Fz f) (hI : Inv f) {c : Int32} (hc : vp_in c (cl (f 4))) (hq : Q (isLateF f c) w z) : F_X0_overdueAt (b + 43 + cl c) (f 0) w z Q := by
  obtain ⟨hd, zn, nm, pa, tk, cs, e1, e2, e3⟩ := h
  have e := e1.self
  rw [e] at hq ⊢
  exact c_overdueAt hI.2.1 e2 hc hq
theorem due_k (hI : Inv f) {c : Int32} (hc : vp_in c (cl (f 4))) : dueF f c = nI (cl (dueF f c)) ∧ cl (dueF f c) ≤ 9999 := by
  have h := hI.2.2.2.2.2.1 _ (clI hc).2
  have h1 := h.2.2.2.2
  have e : (f (305 + 7 * cl c + 4) + 1500 : Int32).toInt = (f (305 + 7 * cl c + 4)).toInt + 1500 := by
    rw [ia _ _ (by rw [show (1500 : Int32).toInt = 1500 by decide]; omega) (by rw [show (1500 : Int32).toInt = 1500 by decide]; omega), show (1500 : Int32).toInt = 1500 by decide]
  have hb : 0 ≤ (dueF f c).toInt ∧ (dueF f c).toInt ≤ 9999 := by
    unfold dueF
    split
    · exact ⟨by decide, by decide⟩
    · split
      · omega
      · rw [e]
        omega
  have hcl : cl (dueF f c) = (dueF f c).toInt.toNat := rfl
  refine ⟨ieq.mpr (by rw [nI_toInt (by omega)]; omega), by omega⟩
theorem ch7_nm (hI : Inv f) {p : Nat} (hp : p < cl (f 2)) : ch7 (nmL f p) ∧ (nmL f p).length ≤ 6 := by
  have hN := clI (hI.2.2.2.1 p hp).2.2.1
  refine ⟨fun v hv => ?_, by unfold nmL; rw [List.length_map, List.length_range]; omega⟩
  unfold nmL at hv
  obtain ⟨i, h1, h2⟩ := List.mem_map.mp hv
  rw [← h2]
  exact (hI.ltr hp) i (List.mem_range.mp h1)
theorem wc_len (hI : Inv f) {c : Int32} (hc : vp_in c (cl (f 4))) (l : List Int32) : (wc f c l).length ≤ l.length + 13 := by
  have hp := (hI.2.2.2.2.2.1 _ (clI hc).2).1
  have hnm := (ch7_nm hI (clI hp).2).2
  have hd4 := dgn_4 (cl (dueF f c))
  have h1 : (wc1 l).length ≤ l.length + 1 := by
    unfold wc1
    split
    · omega
    · rw [List.length_append, List.length_singleton]
      exact Nat.le_refl _
  have h2 : ((wc2 f c (wc1 l) ++ [58]) ++ dgs (cl (dueF f c))).length ≤ l.length + 12 := by
    rw [List.length_append, List.length_append, dgs_len, List.length_singleton]
    unfold wc2
    rw [List.length_append]
    omega
  unfold wc wc4
  split
  · omega
  · rw [List.length_append, List.length_singleton]
    omega
/-- the room behind all cases -/
def cps (f : Nat → Int32) : Nat → Int32 → Nat → List Int32 → Nat
  | 0, _, cap, _ => cap
  | n + 1, c, cap, l => if f (305 + 7 * cl c + 2) = 4 then cps f n (c + 1) cap l else cps f n (c + 1) (cpw f c cap l) (wc f c l)
theorem cps_le (f : Nat → Int32) : ∀ (n : Nat) (c : Int32) (cap : Nat) (l : List Int32), cap ≤ cps f n c cap l := by
  intro n
  induction n with
  | zero => intros; exact Nat.le_refl _
  | succ n ih =>
    intro c cap l
    rw [cps]
    split
    · exact ih _ _ _
    · exact Nat.le_trans cpw_le (ih _ _ _)
def cpA (f : Nat → Int32) (cap : Nat) : Nat := cps f (cl (f 4)) 0 cap []
def wcA (f : Nat → Int32) : List Int32 := wcs f (cl (f 4)) 0 []
end
