/-! the text that the law writes, and what the class reads in it -/
def At (a : Nat → Int32) (i : Nat) (s : List Int32) : Prop := ∀ k, k < s.length → a (i + k) = s.getD k 0
def zT : List Nat → List Int32
  | [] => []
  | v :: r => 32 :: (ds v ++ zT r)
def pT : Nat → List Nat → List Int32
  | _, [] => []
  | j, v :: r => lit_17 ++ (nI (97 + j) :: 32 :: (ds v ++ (59 :: pT (j + 1) r)))
def tT (zs ps : List Nat) : List Int32 := lit_4 ++ (zT zs ++ (59 :: pT 0 ps))
def valD : List Int32 → Int32 → Int32
  | [], v => v
  | c :: r, v => valD r (jmin 1000000 (v * 10 + c - 48))
section
variable {a f : Nat → Int32} {L i n : Nat} {s r : List Int32} {c : Int32} {P : Int32 → Bool}
theorem At.l (h : At a i (s ++ r)) : At a i s := fun k hk => by
  rw [h k (by rw [List.length_append]; omega), getD_app1 hk]
theorem At.rr (h : At a i (s ++ r)) : At a (i + s.length) r := fun k hk => by
  have h1 := h (s.length + k) (by rw [List.length_append]; omega)
  rw [getD_app2 (by omega), ← Nat.add_assoc, show s.length + k - s.length = k by omega] at h1
  exact h1
theorem At.h (h : At a i (c :: s)) : a i = c := h 0 (by simp only [List.length_cons]; omega)
theorem At.t (h : At a i (c :: s)) : At a (i + 1) s := fun k hk => by
  have h1 := h (k + 1) (by simp only [List.length_cons]; omega)
  rw [show i + (k + 1) = i + 1 + k by omega] at h1
  exact h1
theorem run_stop (h : P (a i) = false) (n : Nat) : runB P a n i = i := by
  cases n with
  | zero => rfl
  | succ n => rw [runB, if_neg (by rw [h]; decide)]
theorem run_run : ∀ (m n i : Nat), (∀ k, k < m → P (a (i + k)) = true) → P (a (i + m)) = false → m ≤ n → runB P a n i = i + m := by
  intro m
  induction m with
  | zero => intro n i _ h2 _; exact run_stop h2 n
  | succ m ih =>
    intro n i h1 h2 h3
    cases n with
    | zero => omega
    | succ n =>
      rw [runB, if_pos (show P (a i) = true from h1 0 (by omega)), ih n (i + 1) (fun k hk => by rw [show i + 1 + k = i + (k + 1) by omega]; exact h1 (k + 1) (by omega)) (by rw [show i + 1 + m = i + (m + 1) by omega]; exact h2) (by omega)]
      omega
theorem At.all (h : At a i s) (hs : ∀ x, x ∈ s → P x = true) : ∀ k, k < s.length → P (a (i + k)) = true := fun k hk => by
  rw [h k hk, List.getD_eq_getElem?_getD, List.getElem?_eq_getElem hk]
  exact hs _ (List.getElem_mem hk)
/-- a blank before a token counts for nothing -/
theorem tk_sp (h : a i = 32) (hi : i < L) : tFrom a L i = tFrom a L (i + 1) := by
  unfold tFrom
  rw [show L - i = (L - (i + 1)) + 1 by omega, runB, if_pos (by unfold spB; rw [h]; rfl)]
theorem tk_spT (h : tFrom a L i = tFrom a L n) : tTok a L i = tTok a L n ∧ tTo a L i = tTo a L n ∧ tVal a L i = tVal a L n := by
  unfold tTok tTo tVal
  rw [h]
  exact ⟨rfl, rfl, rfl⟩
theorem sp_di (h : diB c = true) : spB c = false ∧ leB c = false := by
  have h1 := diB_t.mp h
  constructor
  · unfold spB
    refine beq_eq_false_iff_ne.mpr (fun e => ?_)
    rw [e, show (32 : Int32).toInt = 32 by decide] at h1
    omega
  · cases hl : leB c with
    | false => rfl
    | true =>
      have := leB_t.mp hl
      omega
theorem sp_le (h : leB c = true) : spB c = false := by
  have h1 := leB_t.mp h
  unfold spB
  refine beq_eq_false_iff_ne.mpr (fun e => ?_)
  rw [e, show (32 : Int32).toInt = 32 by decide] at h1
  omega
theorem num_run : ∀ (s : List Int32) (n i : Nat) (v : Int32), At a i s → (∀ x, x ∈ s → diB x = true) → diB (a (i + s.length)) = false → s.length ≤ n → numV a n i v = valD s v := by
  intro s
  induction s with
  | nil =>
    intro n i v _ _ h3 _
    cases n with
    | zero => rfl
    | succ n =>
      have h3' : ¬ diB (a i) = true := by
        rw [show a i = a (i + ([] : List Int32).length) from rfl, h3]
        decide
      rw [numV, if_neg h3']
      rfl
  | cons c s ih =>
    intro n i v h1 h2 h3 h4
    cases n with
    | zero => simp only [List.length_cons] at h4; omega
    | succ n =>
      simp only [List.length_cons] at h3 h4
      rw [numV, h1.h, if_pos (h2 c List.mem_cons_self), ih n (i + 1) _ h1.t (fun x hx => h2 x (List.mem_cons_of_mem _ hx)) (by rw [show i + 1 + s.length = i + (s.length + 1) by omega]; exact h3) (by omega)]
      rfl
theorem jm_step {v d : Nat} (hv : v < 10000) (hd : d < 10) : jmin 1000000 (nI v * 10 + nI (48 + d) - 48) = nI (v * 10 + d) := by
  have e1 : (nI v * 10 : Int32).toInt = v * 10 := by
    rw [im _ _ (by rw [nI_toInt (by omega), i10]; omega) (by rw [nI_toInt (by omega), i10]; omega), nI_toInt (by omega), i10]
  have i48 : (48 : Int32).toInt = 48 := by decide
  have e2 : (nI v * 10 + nI (48 + d) : Int32).toInt = v * 10 + 48 + d := by
    rw [ia _ _ (by rw [e1, nI_toInt (by omega)]; omega) (by rw [e1, nI_toInt (by omega)]; omega), e1, nI_toInt (by omega)]
    omega
  have e3 : (nI v * 10 + nI (48 + d) - 48 : Int32).toInt = v * 10 + d := by
    rw [isb _ _ (by rw [e2, i48]; omega) (by rw [e2, i48]; omega), e2, i48]
    omega
  refine ieq.mpr ?_
  rw [jmin_toI, e3, show (1000000 : Int32).toInt = 1000000 by decide, if_pos (by omega), nI_toInt (by omega)]
  omega
theorem jm_0 {d : Nat} (hd : d < 10) : jmin 1000000 ((0 : Int32) * 10 + nI (48 + d) - 48) = nI d := by
  have h := jm_step (v := 0) (d := d) (by omega) hd
  rw [show 0 * 10 + d = d by omega] at h
  exact h
theorem val_ds {k : Nat} (hk : k ≤ 99999) : valD (ds k) 0 = nI k := by
  unfold ds dgs
  split
  · split
    · show jmin 1000000 ((0 : Int32) * 10 + nI (48 + k) - 48) = nI k
      exact jm_0 (by omega)
    · split
      · show jmin 1000000 (jmin 1000000 ((0 : Int32) * 10 + nI (48 + k / 10) - 48) * 10 + nI (48 + k % 10) - 48) = nI k
        rw [jm_0 (by omega), jm_step (by omega) (by omega)]
        congr 1
        omega
      · split
        · show jmin 1000000 (jmin 1000000 (jmin 1000000 ((0 : Int32) * 10 + nI (48 + k / 100) - 48) * 10 + nI (48 + k / 10 % 10) - 48) * 10 + nI (48 + k % 10) - 48) = nI k
          rw [jm_0 (by omega), jm_step (by omega) (by omega), jm_step (by omega) (by omega)]
          congr 1
          omega
        · show jmin 1000000 (jmin 1000000 (jmin 1000000 (jmin 1000000 ((0 : Int32) * 10 + nI (48 + k / 1000) - 48) * 10 + nI (48 + k / 100 % 10) - 48) * 10 + nI (48 + k / 10 % 10) - 48) * 10 + nI (48 + k % 10) - 48) = nI k
          rw [jm_0 (by omega), jm_step (by omega) (by omega), jm_step (by omega) (by omega), jm_step (by omega) (by omega)]
          congr 1
          omega
  · show jmin 1000000 (jmin 1000000 (jmin 1000000 (jmin 1000000 (jmin 1000000 ((0 : Int32) * 10 + nI (48 + k / 10000) - 48) * 10 + nI (48 + k / 1000 % 10) - 48) * 10 + nI (48 + k / 100 % 10) - 48) * 10 + nI (48 + k / 10 % 10) - 48) * 10 + nI (48 + k % 10) - 48) = nI k
    rw [jm_0 (by omega), jm_step (by omega) (by omega), jm_step (by omega) (by omega), jm_step (by omega) (by omega), jm_step (by omega) (by omega)]
    congr 1
    omega
theorem dig_di {d : Nat} (h : d < 10) : diB (nI (48 + d)) = true := diB_t.mpr (by
  rw [nI_toInt (by omega)]
  omega)
theorem ds_di {k : Nat} (hk : k ≤ 99999) : ∀ x, x ∈ ds k → diB x = true := by
  intro x hx
  unfold ds dgs at hx
  split at hx
  · split at hx
    · rcases List.mem_cons.mp hx with rfl | hx
      · exact dig_di (by omega)
      · exact absurd hx List.not_mem_nil
    · split at hx
      · rcases List.mem_cons.mp hx with rfl | hx
        · exact dig_di (by omega)
        rcases List.mem_cons.mp hx with rfl | hx
        · exact dig_di (by omega)
        · exact absurd hx List.not_mem_nil
      · split at hx
        · rcases List.mem_cons.mp hx with rfl | hx
          · exact dig_di (by omega)
          rcases List.mem_cons.mp hx with rfl | hx
          · exact dig_di (by omega)
          rcases List.mem_cons.mp hx with rfl | hx
          · exact dig_di (by omega)
          · exact absurd hx List.not_mem_nil
        · rcases List.mem_cons.mp hx with rfl | hx
          · exact dig_di (by omega)
          rcases List.mem_cons.mp hx with rfl | hx
          · exact dig_di (by omega)
          rcases List.mem_cons.mp hx with rfl | hx
          · exact dig_di (by omega)
          rcases List.mem_cons.mp hx with rfl | hx
          · exact dig_di (by omega)
          · exact absurd hx List.not_mem_nil
  · rcases List.mem_cons.mp hx with rfl | hx
    · exact dig_di (by omega)
    rcases List.mem_cons.mp hx with rfl | hx
    · exact dig_di (by omega)
    rcases List.mem_cons.mp hx with rfl | hx
    · exact dig_di (by omega)
    rcases List.mem_cons.mp hx with rfl | hx
    · exact dig_di (by omega)
    rcases List.mem_cons.mp hx with rfl | hx
    · exact dig_di (by omega)
    · exact absurd hx List.not_mem_nil
/-- a blank and a number -/
theorem tk_num {v : Nat} (hv : v ≤ 99999) (h : At a i (32 :: (ds v ++ (c :: r)))) (hc : diB c = false) (hL : i + 1 + dn v < L) : tTok a L i = 2 ∧ tTo a L i = i + 1 + dn v ∧ tVal a L i = nI v := by
  have h1 : At a (i + 1) (ds v) := h.t.l
  have h2 : a (i + 1 + dn v) = c := by
    have := h.t.rr.h
    rw [ds_len] at this
    exact this
  have hd := ds_di hv
  have hall := h1.all hd
  rw [ds_len] at hall
  have hn := dn_5 v
  have h0 : diB (a (i + 1)) = true := hall 0 (by omega)
  have e0 : tFrom a L (i + 1) = i + 1 := run_stop (sp_di h0).1 _
  have e1 := tk_spT (tk_sp h.h (by omega : i < L))
  have nL : ¬ L ≤ i + 1 := by omega
  have nl : ¬ leB (a (i + 1)) = true := by
    rw [(sp_di h0).2]
    decide
  rw [e1.1, e1.2.1, e1.2.2]
  refine ⟨?_, ?_, ?_⟩
  · unfold tTok
    rw [e0, if_neg nL, if_neg nl, if_pos h0]
  · unfold tTo
    rw [e0, if_neg nL, if_neg nl, if_pos h0, run_run (dn v) _ _ hall (by rw [h2]; exact hc) (by omega)]
  · unfold tVal
    rw [e0, num_run (ds v) _ _ _ h1 hd (by rw [ds_len, h2]; exact hc) (by rw [ds_len]; omega), val_ds hv]
/-- a word -/
theorem tk_word (h : At a i (s ++ (c :: r))) (hs : ∀ x, x ∈ s → leB x = true) (h1 : 1 ≤ s.length) (hc : leB c = false) (hL : i + s.length < L) : tTok a L i = 1 ∧ tFrom a L i = i ∧ tTo a L i = i + s.length := by
  have hall := h.l.all hs
  have h0 : leB (a i) = true := hall 0 (by omega)
  have e0 : tFrom a L i = i := run_stop (sp_le h0) _
  have nL : ¬ L ≤ i := by omega
  refine ⟨?_, e0, ?_⟩
  · unfold tTok
    rw [e0, if_neg nL, if_pos h0]
  · unfold tTo
    rw [e0, if_neg nL, if_pos h0, run_run s.length _ _ hall (by rw [h.rr.h]; exact hc) (by omega)]
/-- a semicolon -/
theorem tk_semi (h : a i = 59) (hL : i < L) : tTok a L i = 3 ∧ tTo a L i = i + 1 := by
  have e0 : tFrom a L i = i := run_stop (by unfold spB; rw [h]; rfl) _
  have nL : ¬ L ≤ i := by omega
  have nl : ¬ leB (a i) = true := by
    rw [h]
    decide
  have nd : ¬ diB (a i) = true := by
    rw [h]
    decide
  constructor
  · unfold tTok
    rw [e0, if_neg nL, if_neg nl, if_neg nd, if_pos h]
  · unfold tTo
    rw [e0, if_neg nL, if_neg nl, if_neg nd]
theorem tk_end (a : Nat → Int32) (L : Nat) : tTok a L L = 0 := by
  unfold tTok tFrom
  rw [Nat.sub_self, show runB spB a 0 L = L from rfl, if_pos (Nat.le_refl _)]
theorem eqF_t {fr : Nat} {h : Nat → Int32} : ∀ (m k : Nat), (∀ j, k ≤ j → j < k + m → a (fr + j) = h j) → eqF a fr h m k = true := by
  intro m
  induction m with
  | zero => intros; rfl
  | succ m ih =>
    intro k hk
    rw [eqF, if_pos (hk k (by omega) (by omega))]
    exact ih (k + 1) (fun j h1 h2 => hk j (by omega) (by omega))
theorem wIs_t {h : Nat → Int32} {fr : Nat} (h1 : tTok a L i = 1) (h2 : tFrom a L i = fr) (h3 : tTo a L i = fr + n) (h4 : ∀ j, j < n → a (fr + j) = h j) : wIs a L i n h = true := by
  unfold wIs
  rw [h1, h2, h3, eqF_t n 0 (fun j _ hj => h4 j (by omega))]
  simp
theorem wIs_e {h : Nat → Int32} (h1 : ¬ tTok a L i = 1) : wIs a L i n h = false := by
  unfold wIs
  rw [beq_eq_false_iff_ne.mpr h1]
  rfl
/-! the line -/
def SI (f : Nat → Int32) (m : Nat) : Prop := f 1 = nI m ∧ ∀ j, j < 445 → j ≠ 1 → (j < 9 ∨ 21 ≤ j) → f j = 0
theorem SI.add {m : Nat} {v : Int32} (h : SI f m) (hm : m < 12) : SI (addStopF f v) (m + 1) := by
  obtain ⟨h1, h2⟩ := h
  have e : cl (f 1) = m := by
    rw [h1]
    exact nI_cl (by omega)
  unfold addStopF
  rw [e]
  refine ⟨by rw [upd_eq, h1, nIs (by omega)], fun j hj j1 j9 => ?_⟩
  rw [upd_ne j1, upd_ne (by omega)]
  exact h2 j hj j1 j9
theorem tx_zones : ∀ (zs : List Nat) (n : Nat) (f : Nat → Int32) (i m : Nat), (∀ v, v ∈ zs → v < 4) → At a i (zT zs ++ (59 :: r)) → i + (zT zs).length < L → SI f m → m + zs.length ≤ 11 → 2 ≤ m + zs.length → zs.length < n → ∃ F, sZones a L n f i = .ok (i + (zT zs).length, F) ∧ SI F (m + zs.length) := by
  intro zs
  induction zs with
  | nil =>
    intro n f i m _ h2 h3 h4 h5 h6 h7
    cases n with
    | zero => simp only [List.length_nil] at h7; omega
    | succ n =>
      simp only [List.length_nil, Nat.add_zero] at h5 h6
      have hs := tk_semi (L := L) (i := i) h2.h (by simpa [zT] using h3)
      have hn : ¬ (f 1 < 2 ∨ tTok a L i = 2) := by
        rw [hs.1, h4.1]
        intro hh
        rcases hh with hh | hh
        · have := ilt.mp hh
          rw [nI_toInt (by omega), show (2 : Int32).toInt = 2 by decide] at this
          omega
        · exact absurd hh (by decide)
      refine ⟨f, ?_, h4⟩
      rw [sZones, if_neg hn]
      rfl
  | cons v zs ih =>
    intro n f i m h1 h2 h3 h4 h5 h6 h7
    cases n with
    | zero => simp only [List.length_cons] at h7; omega
    | succ n =>
      simp only [List.length_cons] at h5 h6 h7
      have hv : v < 4 := h1 v List.mem_cons_self
      have hl : (zT (v :: zs)).length = 1 + dn v + (zT zs).length := by
        show (32 :: (ds v ++ zT zs)).length = _
        rw [List.length_cons, List.length_append, ds_len]
        omega
      rw [hl] at h3 ⊢
      have h2' : At a i (32 :: (ds v ++ (zT zs ++ (59 :: r)))) := by
        have e : zT (v :: zs) ++ (59 :: r) = 32 :: (ds v ++ (zT zs ++ (59 :: r))) := by
          show (32 :: (ds v ++ zT zs)) ++ (59 :: r) = _
          rw [List.cons_append, List.append_assoc]
        rw [← e]
        exact h2
      obtain ⟨c', r', hcr, hc'⟩ : ∃ (c' : Int32) (r' : List Int32), zT zs ++ (59 :: r) = c' :: r' ∧ diB c' = false := by
        cases zs with
        | nil => exact ⟨59, r, rfl, by decide⟩
        | cons u us => exact ⟨32, _, rfl, by decide⟩
      have hk := tk_num (L := L) (i := i) (by omega : v ≤ 99999) (by rw [← hcr]; exact h2') hc' (by omega)
      have e1 : ¬ f 1 = 12 := by
        rw [h4.1]
        intro hh
        have := ieq.mp hh
        rw [nI_toInt (by omega), show (12 : Int32).toInt = 12 by decide] at this
        omega
      have eN : sNum a L 0 3 i = .ok (nI v, i + 1 + dn v) := by
        unfold sNum
        rw [if_pos hk.1, hk.2.1, hk.2.2, if_pos]
        exact ⟨ile.mpr (by rw [i_0, nI_toInt (by omega)]; omega), ile.mpr (by rw [show (3 : Int32).toInt = 3 by decide, nI_toInt (by omega)]; omega)⟩
      have eZ : sZone a L f i = .ok (i + 1 + dn v, addStopF f (nI v)) := by
        unfold sZone
        rw [eN]
        show (if f 1 = 12 then _ else _) = _
        rw [if_neg e1]
      have h8 : At a (i + 1 + dn v) (zT zs ++ (59 :: r)) := by
        have := h2'.t.rr
        rw [ds_len] at this
        exact this
      obtain ⟨F, k1, k2⟩ := ih n (addStopF f (nI v)) (i + 1 + dn v) (m + 1) (fun u hu => h1 u (List.mem_cons_of_mem _ hu)) h8 (by omega) (h4.add (by omega)) (by omega) (by omega) (by omega)
      refine ⟨F, ?_, by rw [List.length_cons, show m + (zs.length + 1) = m + 1 + zs.length by omega]; exact k2⟩
      rw [sZones, if_pos (Or.inr hk.1), eZ]
      show sZones a L n (addStopF f (nI v)) (i + 1 + dn v) = _
      rw [k1]
      congr 2
      omega
/-! the passengers -/
def PI (f : Nat → Int32) (N j : Nat) : Prop := f 1 = nI N ∧ f 2 = nI j ∧ (f 3 = 0 ∧ f 4 = 0 ∧ f 5 = 0 ∧ f 6 = 0 ∧ f 7 = 0) ∧ (∀ q, q < j → 0 ≤ (f (21 + 13 * q)).toInt ∧ f (21 + 13 * q + 4) = -1 ∧ f (21 + 13 * q + 6) = nI 2 ∧ f (21 + 13 * q + 7) = 112 ∧ f (21 + 13 * q + 8) = nI (97 + q)) ∧ f 8 = monR f j 0 0
theorem monR_snoc : ∀ (n : Nat) (x t : Int32), 0 ≤ t.toInt → t.toInt + n < 8 → monR f (n + 1) x t = monR f n x t + f (21 + 13 * (cl t + n)) := by
  intro n
  induction n with
  | zero => intros; rfl
  | succ n ih =>
    intro x t h1 h2
    have hv : vp_in t 8 := vp_in_iff.mpr (by omega)
    have h5 := cl_succ hv (by omega)
    rw [monR, ih _ _ (by omega) (by omega), monR, h5.1, show cl t + 1 + n = cl t + (n + 1) by omega]
theorem PI.of {m : Nat} (h : SI f m) : PI f m 0 := ⟨h.1, h.2 2 (by omega) (by omega) (by omega), ⟨h.2 3 (by omega) (by omega) (by omega), h.2 4 (by omega) (by omega) (by omega), h.2 5 (by omega) (by omega) (by omega), h.2 6 (by omega) (by omega) (by omega), h.2 7 (by omega) (by omega) (by omega)⟩, fun q hq => absurd hq (by omega), h.2 8 (by omega) (by omega) (by omega)⟩
theorem PI.add {N j fr v : Nat} (h : PI f N j) (hj : j < 8) (hv : v ≤ 99999) (h7 : a fr = 112) (h8 : a (fr + 1) = nI (97 + j)) : PI (addPasF a fr 2 f (nI v)) N (j + 1) := by
  obtain ⟨p1, p2, ⟨p3, p4, p5, p6, p7⟩, p8, p9⟩ := h
  have e : cl (f 2) = j := by
    rw [p2]
    exact nI_cl (by omega)
  have o : ∀ k, k ≠ 2 → k ≠ 8 → (k < 21 + 13 * j ∨ 21 + 13 * j + 13 ≤ k) → addPasF a fr 2 f (nI v) k = f k := fun k h1 h2 h3 => aP_out h1 h2 (by omega) (by rw [e]; exact h3)
  have r0 : addPasF a fr 2 f (nI v) (21 + 13 * j) = nI v := by rw [← e]; exact aP_r0
  have r4 : addPasF a fr 2 f (nI v) (21 + 13 * j + 4) = -1 := by rw [← e]; exact aP_r4
  have r6 : addPasF a fr 2 f (nI v) (21 + 13 * j + 6) = nI 2 := by rw [← e]; exact aP_r6
  have r7 : addPasF a fr 2 f (nI v) (21 + 13 * j + 7) = 112 := by
    have := aP_r7 (a := a) (f := f) (fr := fr) (n := 2) (v := nI v) (t := 0) (by omega)
    rw [e] at this
    exact this.trans h7
  have r8 : addPasF a fr 2 f (nI v) (21 + 13 * j + 8) = nI (97 + j) := by
    have := aP_r7 (a := a) (f := f) (fr := fr) (n := 2) (v := nI v) (t := 1) (by omega)
    rw [e] at this
    exact this.trans h8
  refine ⟨by rw [o 1 (by omega) (by omega) (by omega)]; exact p1, by rw [aP_2, p2, nIs (by omega)], ⟨by rw [o 3 (by omega) (by omega) (by omega)]; exact p3, by rw [o 4 (by omega) (by omega) (by omega)]; exact p4, by rw [o 5 (by omega) (by omega) (by omega)]; exact p5, by rw [o 6 (by omega) (by omega) (by omega)]; exact p6, by rw [o 7 (by omega) (by omega) (by omega)]; exact p7⟩, fun q hq => ?_, ?_⟩
  · by_cases hqj : q = j
    · subst hqj
      exact ⟨by rw [r0, nI_toInt (by omega)]; omega, r4, r6, r7, r8⟩
    · obtain ⟨a1, a2, a3, a4, a5⟩ := p8 q (by omega)
      rw [o _ (by omega) (by omega) (by omega : 21 + 13 * q < _ ∨ _), o _ (by omega) (by omega) (by omega : 21 + 13 * q + 4 < _ ∨ _), o _ (by omega) (by omega) (by omega : 21 + 13 * q + 6 < _ ∨ _), o _ (by omega) (by omega) (by omega : 21 + 13 * q + 7 < _ ∨ _), o _ (by omega) (by omega) (by omega : 21 + 13 * q + 8 < _ ∨ _)]
      exact ⟨a1, a2, a3, a4, a5⟩
  · have c0 : cl (0 : Int32) = 0 := cl0
    rw [aP_8, p9, monR_snoc _ _ _ (by rw [i_0]; omega) (by rw [i_0]; omega), c0, Nat.zero_add, r0, monR_ext (f := f) _ _ _ (by rw [i_0]; omega) (by rw [i_0]; omega) (fun k _ h2 => o _ (by omega) (by omega) (by rw [c0] at h2; omega))]
theorem fnd_no {N j : Nat} (h : PI f N j) (hj : j < 8) (h2 : tFrom a L i = n) (h8 : a (n + 1) = nI (97 + j)) : ∀ (m p : Nat), p + m = j → fndF a L i f m p = -1 := by
  intro m
  induction m with
  | zero => intros; rfl
  | succ m ih =>
    intro p hp
    obtain ⟨a1, a2, a3, a4, a5⟩ := h.2.2.2.1 p (by omega)
    have e : cl (f (21 + 13 * p + 6)) = 2 := by
      rw [a3]
      exact nI_cl (by omega)
    rw [fndF, if_neg, ih (p + 1) (by omega)]
    rw [e]
    unfold wIs
    rw [h2]
    have ne : ¬ a (n + 1) = f (21 + 13 * p + 7 + 1) := by
      rw [h8, show f (21 + 13 * p + 7 + 1) = nI (97 + p) from a5]
      intro hh
      have := ieq.mp hh
      rw [nI_toInt (by omega), nI_toInt (by omega)] at this
      omega
    have e2 : eqF a n (fun k => f (21 + 13 * p + 7 + k)) 2 0 = false := by
      rw [eqF]
      split
      · rw [eqF, if_neg ne]
      · rfl
    rw [e2]
    simp
theorem lit5_le : ∀ x, x ∈ lit_5 → leB x = true := by decide
theorem tx_pass {N j v : Nat} (hv : v ≤ 99999) (h : PI f N j) (hj : j < 4) (ha : At a i (lit_17 ++ (nI (97 + j) :: 32 :: (ds v ++ (59 :: r))))) (hL : i + (14 + dn v) ≤ L) : wIs a L i lit_5.length (fun j => lit_5.getD j 0) = true ∧ ∃ F, sPass a L f i = .ok (i + (14 + dn v), F) ∧ PI F N (j + 1) := by
  have e17 : lit_17 = lit_5 ++ [32, 112] := rfl
  have l5 : lit_5.length = 9 := rfl
  have i97 : 97 ≤ (nI (97 + j)).toInt ∧ (nI (97 + j)).toInt ≤ 122 := by
    rw [nI_toInt (by omega)]
    omega
  have ha1 : At a i (lit_5 ++ (32 :: ([112, nI (97 + j)] ++ (32 :: (ds v ++ (59 :: r)))))) := ha
  have w1 := tk_word (L := L) ha1 lit5_le (by rw [l5]; omega) (by decide) (by rw [l5]; omega)
  rw [l5] at w1
  have ha2 : At a (i + 9) (32 :: ([112, nI (97 + j)] ++ (32 :: (ds v ++ (59 :: r))))) := ha1.rr
  have w2 := tk_word (L := L) ha2.t (fun x hx => by
    rcases List.mem_cons.mp hx with rfl | hx
    · decide
    rcases List.mem_cons.mp hx with rfl | hx
    · exact leB_t.mpr i97
    · exact absurd hx List.not_mem_nil) (by simp) (by decide) (by simp only [List.length_cons, List.length_nil]; omega)
  simp only [List.length_cons, List.length_nil] at w2
  have s2 := tk_sp (L := L) ha2.h (by omega)
  have s3 := tk_spT s2
  rw [w2.2.1] at s2
  rw [w2.1, w2.2.2] at s3
  have ha3 : At a (i + 9 + 1 + 2) (32 :: (ds v ++ (59 :: r))) := ha2.t.rr
  have w3 := tk_num (L := L) hv ha3 (by decide) (by omega)
  have ha4 : a (i + 9 + 1 + 2 + 1 + dn v) = 59 := by
    have := ha3.t.rr.h
    rw [ds_len] at this
    exact this
  have w4 := tk_semi (L := L) ha4 (by omega)
  have c7 : a (i + 9 + 1) = 112 := ha2.t.h
  have c8 : a (i + 9 + 1 + 1) = nI (97 + j) := ha2.t.t.h
  have W : wIs a L i lit_5.length (fun j => lit_5.getD j 0) = true := by
    rw [l5]
    exact wIs_t w1.1 w1.2.1 w1.2.2 (fun k hk => ha1.l k (by rw [l5]; exact hk))
  refine ⟨W, _, ?_, h.add (fr := i + 9 + 1) (v := v) (a := a) (by omega) hv c7 c8⟩
  have f2 : ¬ f 2 = 8 := by
    rw [h.2.1]
    intro hh
    have := ieq.mp hh
    rw [nI_toInt (by omega), show (8 : Int32).toInt = 8 by decide] at this
    omega
  have nm : isNm a L (i + 9) = true := by
    unfold isNm
    rw [s3.1, s3.2.1, s2]
    simp
  have fd : fnd a L (i + 9) f = -1 := by
    unfold fnd
    have e : cl (f 2) = j := by
      rw [h.2.1]
      exact nI_cl (by omega)
    rw [e]
    exact fnd_no h (by omega) s2 c8 j 0 (by omega)
  have eN : sNum a L 0 99999 (i + 9 + 1 + 2) = .ok (nI v, i + 9 + 1 + 2 + 1 + dn v) := by
    unfold sNum
    rw [if_pos w3.1, w3.2.1, w3.2.2, if_pos]
    exact ⟨ile.mpr (by rw [i_0, nI_toInt (by omega)]; omega), ile.mpr (by rw [i_99, nI_toInt (by omega)]; omega)⟩
  have eS : sSemi a L true (i + 9 + 1 + 2 + 1 + dn v) = .ok (i + (14 + dn v)) := by
    unfold sSemi
    rw [if_pos w4.1, w4.2, if_pos rfl]
    congr 1
    omega
  unfold sPass
  rw [if_pos W, if_neg f2, w1.2.2, if_pos nm, if_pos fd, s3.2.1, show i + 9 + 1 + (0 + 1 + 1) = i + 9 + 1 + 2 by omega, eN]
  show eb (sSemi a L true (i + 9 + 1 + 2 + 1 + dn v)) _ = _
  rw [eS, s2]
  show Except.ok (_, addPasF a (i + 9 + 1) (i + 9 + 1 + 2 - (i + 9 + 1)) f (nI v)) = _
  rw [show i + 9 + 1 + 2 - (i + 9 + 1) = 2 by omega]
theorem pT_len {j v : Nat} {ps : List Nat} : (pT j (v :: ps)).length = 14 + dn v + (pT (j + 1) ps).length := by
  show (lit_17 ++ (nI (97 + j) :: 32 :: (ds v ++ (59 :: pT (j + 1) ps)))).length = _
  rw [List.length_append, List.length_cons, List.length_cons, List.length_append, List.length_cons, ds_len, show lit_17.length = 11 from rfl]
  omega
theorem tx_pas : ∀ (ps : List Nat) (n : Nat) (f : Nat → Int32) (i N j : Nat), (∀ v, v ∈ ps → v ≤ 99999) → At a i (pT j ps) → i + (pT j ps).length = L → PI f N j → j + ps.length ≤ 4 → ∃ F, sPs a L (n + ps.length) f i = .ok (L, F) ∧ PI F N (j + ps.length) := by
  intro ps
  induction ps with
  | nil =>
    intro n f i N j _ _ h3 h4 _
    have e : i = L := by simpa [pT] using h3
    subst e
    refine ⟨f, ?_, h4⟩
    cases n with
    | zero => rfl
    | succ n =>
      show sPs a i (n + 1) f i = _
      rw [sPs, if_neg]
      rw [wIs_e (by rw [tk_end]; decide)]
      decide
  | cons v ps ih =>
    intro n f i N j h1 h2 h3 h4 h5
    simp only [List.length_cons] at h5
    rw [pT_len] at h3
    have h2' : At a i (lit_17 ++ (nI (97 + j) :: 32 :: (ds v ++ (59 :: pT (j + 1) ps)))) := h2
    obtain ⟨W, F, k1, k2⟩ := tx_pass (L := L) (h1 v List.mem_cons_self) h4 (by omega) h2' (by omega)
    have h6 : At a (i + (14 + dn v)) (pT (j + 1) ps) := by
      have := h2'.rr.t.t.rr.t
      rw [ds_len, show lit_17.length = 11 from rfl] at this
      rw [show i + (14 + dn v) = i + 11 + 1 + 1 + dn v + 1 by omega]
      exact this
    obtain ⟨G, g1, g2⟩ := ih n F (i + (14 + dn v)) N (j + 1) (fun u hu => h1 u (List.mem_cons_of_mem _ hu)) h6 (by omega) k2 (by omega)
    refine ⟨G, ?_, by rw [List.length_cons, show j + (ps.length + 1) = j + 1 + ps.length by omega]; exact g2⟩
    rw [List.length_cons, show n + (ps.length + 1) = (n + ps.length) + 1 by omega, sPs, if_pos W, k1]
    exact g1
theorem lit4_le : ∀ x, x ∈ lit_4 → leB x = true := by decide
theorem tx_load {zs ps : List Nat} (hz : ∀ v, v ∈ zs → v < 4) (h2 : 2 ≤ zs.length) (h11 : zs.length ≤ 11) (hp : ∀ v, v ∈ ps → v ≤ 99999) (h1 : 1 ≤ ps.length) (h4 : ps.length ≤ 4) (ha : At a 0 (tT zs ps)) (hL : L = (tT zs ps).length) (hf : ∀ j, j < 445 → f j = 0) : ∃ m F, sLoad a L f = .ok (m, F) ∧ PI F zs.length ps.length := by
  have l4 : lit_4.length = 4 := rfl
  have hlen : L = 4 + ((zT zs).length + (1 + (pT 0 ps).length)) := by
    rw [hL]
    unfold tT
    rw [List.length_append, List.length_append, List.length_cons, l4]
    omega
  obtain ⟨v, ps', hps⟩ : ∃ v ps', ps = v :: ps' := by
    cases ps with
    | nil => simp only [List.length_nil] at h1; omega
    | cons v ps' => exact ⟨v, ps', rfl⟩
  obtain ⟨u, zs', hzs⟩ : ∃ u zs', zs = u :: zs' := by
    cases zs with
    | nil => simp only [List.length_nil] at h2; omega
    | cons v ps' => exact ⟨v, ps', rfl⟩
  have ha0 : At a 0 (lit_4 ++ (32 :: (ds u ++ zT zs' ++ (59 :: pT 0 ps)))) := by
    have e : tT zs ps = lit_4 ++ (32 :: (ds u ++ zT zs' ++ (59 :: pT 0 ps))) := by
      rw [hzs]
      rfl
    rw [← e]
    exact ha
  have w0 := tk_word (L := L) ha0 lit4_le (by rw [l4]; omega) (by decide) (by rw [l4]; omega)
  rw [l4] at w0
  have ha1 : At a 4 (zT zs ++ (59 :: pT 0 ps)) := by
    have h := At.rr (s := lit_4) ha
    rw [l4, Nat.zero_add] at h
    exact h
  have eK : sKey a L lit_4 0 = .ok 4 := by
    unfold sKey
    rw [if_pos, w0.2.2]
    rw [l4]
    exact wIs_t w0.1 w0.2.1 w0.2.2 (fun k hk => ha0.l k (by rw [l4]; exact hk))
  have hS : SI f 0 := ⟨hf 1 (by omega), fun j hj _ _ => hf j hj⟩
  obtain ⟨F1, k1, k2⟩ := tx_zones (L := L) zs 14 f 4 0 hz ha1 (by omega) hS (by omega) (by omega) (by omega)
  rw [Nat.zero_add] at k2
  have ha2 : At a (4 + (zT zs).length) (59 :: pT 0 ps) := ha1.rr
  have w2 := tk_semi (L := L) ha2.h (by omega)
  have eS : sSemi a L true (4 + (zT zs).length) = .ok (4 + (zT zs).length + 1) := by
    unfold sSemi
    rw [if_pos w2.1, w2.2, if_pos rfl]
  have eL : sLine a L f 0 = .ok (4 + (zT zs).length + 1, F1) := by
    unfold sLine
    rw [eK]
    show eb (sZones a L 14 f 4) _ = _
    rw [k1]
    show eb (sSemi a L true (4 + (zT zs).length)) _ = _
    rw [eS]
    rfl
  have hP0 := PI.of k2
  have hpl : (pT 0 ps).length = 14 + dn v + (pT 1 ps').length := by
    rw [hps, pT_len]
  have ha3 : At a (4 + (zT zs).length + 1) (lit_17 ++ (nI (97 + 0) :: 32 :: (ds v ++ (59 :: pT 1 ps')))) := by
    have h := ha2.t
    rw [hps] at h
    exact h
  have hps' : ps.length = ps'.length + 1 := by rw [hps, List.length_cons]
  obtain ⟨W, F2, g1, g2⟩ := tx_pass (L := L) (hp v (by rw [hps]; exact List.mem_cons_self)) hP0 (by omega) ha3 (by omega)
  have ha4 : At a (4 + (zT zs).length + 1 + (14 + dn v)) (pT 1 ps') := by
    have h := ha3.rr.t.t.rr.t
    rw [ds_len, show lit_17.length = 11 from rfl] at h
    rw [show 4 + (zT zs).length + 1 + (14 + dn v) = 4 + (zT zs).length + 1 + 11 + 1 + 1 + dn v + 1 by omega]
    exact h
  obtain ⟨F3, q1, q2⟩ := tx_pas (L := L) ps' (8 - ps'.length) F2 _ _ 1 (fun x hx => hp x (by rw [hps]; exact List.mem_cons_of_mem _ hx)) ha4 (by omega) g2 (by omega)
  rw [show 8 - ps'.length + ps'.length = 8 by omega] at q1
  refine ⟨0, F3, ?_, by rw [show ps.length = 1 + ps'.length by omega]; exact q2⟩
  unfold sLoad
  rw [eL]
  show eb (eb (sPass a L F1 (4 + (zT zs).length + 1)) _) _ = _
  rw [g1]
  show eb (sPs a L 8 F2 _) _ = _
  rw [q1]
  show sCmds a L (L + 1) F3 L 0 = _
  rw [sCmds, if_pos (tk_end a L)]
theorem PI.sd {N j : Nat} (h : PI f N j) (hN : 2 ≤ N) (hN2 : N ≤ 12) (hj : 1 ≤ j) (hj2 : j ≤ 8) : Sd 0 f := by
  obtain ⟨p1, p2, ⟨p3, p4, p5, p6, p7⟩, p8, p9⟩ := h
  have c0 : cl (0 : Int32) = 0 := cl0
  have e : cl (f 2) = j := by
    rw [p2]
    exact nI_cl (by omega)
  unfold Sd balF
  rw [e, p3, p4, p5, p6, p7, c0, p9]
  refine ⟨⟨by rw [p1, nI_toInt (by omega)]; omega, by rw [p2, nI_toInt (by omega)]; omega⟩, fun q hq => ⟨(p8 q hq).1, Or.inl (p8 q hq).2.1⟩, fun t ht => absurd ht (by omega), fun t ht => absurd ht (by omega), ⟨by omega, by rw [i_0]; omega⟩, ?_⟩
  rw [Int32.sub_zero, Int32.sub_zero, Int32.sub_self]
end
