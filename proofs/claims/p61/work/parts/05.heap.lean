section HROWS
variable {C : Cx} {cc : ByteArray} {own : String} {nL d : Nat} {ret : Option FieldType} {hh : List (Nat × Nat × Nat × Nat)} {pc : Nat} {L : List (Nat × Value)} {st : List Value} {w : Mm} {z mc ms : Nat}
/-- a field of an object, as the abstract heap has it -/
def fld (w : Mm) (a ci k : Nat) : Option Value := match w a with
  | some (_, .inl (c, fs)) => if c = ci then fs[k]? else none
  | _ => none
theorem fld_of {w : Mm} {a ci k : Nat} {v : Value} (h : fld w a ci k = some v) : ∃ (b : Bool) (fs : List Value), w a = some (b, .inl (ci, fs)) ∧ fs[k]? = some v := by
  unfold fld at h
  split at h
  · rename_i b c fs hw
    by_cases hc : c = ci
    · rw [if_pos hc] at h
      subst hc
      exact ⟨b, fs, hw, h⟩
    · rw [if_neg hc] at h
      cases h
  · cases h
/-- the fields of a writable object -/
def obj (w : Mm) (a ci : Nat) : Option (List Value) := match w a with
  | some (true, .inl (c, fs)) => if c = ci then some fs else none
  | _ => none
theorem obj_of {w : Mm} {a ci : Nat} {fs : List Value} (h : obj w a ci = some fs) : w a = some (true, .inl (ci, fs)) := by
  unfold obj at h
  split at h
  · rename_i c fs' hw
    by_cases hc : c = ci
    · rw [if_pos hc] at h
      cases h
      subst hc
      exact hw
    · rw [if_neg hc] at h
      cases h
  · cases h
/-- it is an object of that class -/
def isO (w : Mm) (a ci : Nat) : Prop := ∃ (b : Bool) (fs : List Value), w a = some (b, .inl (ci, fs))
/-- an array of whole numbers (kinds 0 int, 1 byte, 2 boolean) -/
def arI (w : Mm) (a k : Nat) : Option (Nat × (Nat → Int32)) := match w a with
  | some (_, .inr (k', n, .inl f)) => if k' = k then some (n, f) else none
  | _ => none
theorem arI_of {w : Mm} {a k n : Nat} {f : Nat → Int32} (h : arI w a k = some (n, f)) : ∃ b : Bool, w a = some (b, .inr (k, n, .inl f)) := by
  unfold arI at h
  split at h
  · rename_i b k' n' f' hw
    by_cases hc : k' = k
    · rw [if_pos hc] at h
      cases h
      subst hc
      exact ⟨b, hw⟩
    · rw [if_neg hc] at h
      cases h
  · cases h
def arW (w : Mm) (a k : Nat) : Option (Nat × (Nat → Int32)) := match w a with
  | some (true, .inr (k', n, .inl f)) => if k' = k then some (n, f) else none
  | _ => none
theorem arW_of {w : Mm} {a k n : Nat} {f : Nat → Int32} (h : arW w a k = some (n, f)) : w a = some (true, .inr (k, n, .inl f)) := by
  unfold arW at h
  split at h
  · rename_i k' n' f' hw
    by_cases hc : k' = k
    · rw [if_pos hc] at h
      cases h
      subst hc
      exact hw
    · rw [if_neg hc] at h
      cases h
  · cases h
def arL (w : Mm) (a : Nat) : Option (Nat × (Nat → Int64)) := match w a with
  | some (true, .inr (3, n, .inr (.inl f))) => some (n, f)
  | _ => none
theorem arL_of {w : Mm} {a n : Nat} {f : Nat → Int64} (h : arL w a = some (n, f)) : w a = some (true, .inr (3, n, .inr (.inl f))) := by
  unfold arL at h
  split at h
  · rename_i n' f' hw
    cases h
    exact hw
  · cases h
def arR (w : Mm) (a k : Nat) : Option (Nat × (Nat → Option Nat)) := match w a with
  | some (true, .inr (k', n, .inr (.inr f))) => if k' = k then some (n, f) else none
  | _ => none
theorem arR_of {w : Mm} {a k n : Nat} {f : Nat → Option Nat} (h : arR w a k = some (n, f)) : w a = some (true, .inr (k, n, .inr (.inr f))) := by
  unfold arR at h
  split at h
  · rename_i k' n' f' hw
    by_cases hc : k' = k
    · rw [if_pos hc] at h
      cases h
      subst hc
      exact hw
    · rw [if_neg hc] at h
      cases h
  · cases h
theorem atM_t {g : Gp} {w : Mm} {U : State} {H : Heap} (h : hM g w U H) {a : Nat} {e : Ce} (ha : w a = some (true, e)) : va_at g.1 vwCl (a, toE g.2.1 e) H := (h.1 a _ ha).1
theorem atM_b {g : Gp} {w : Mm} {U : State} {H : Heap} (h : hM g w U H) {a : Nat} {e : Ce} (ha : w a = some (true, e)) : g.2.2.1 ≤ a := (h.1 a _ ha).2
/-- what a read of a field needs of the cell -/
theorem cell_f {g : Gp} {w : Mm} {s : State} {H : Heap} (hm : hM g w s H) {a ci k N : Nat} {Cn : String} {T : u_T} {v : Value} (hc : vwCl[ci]? = some (Cn, T, N)) (hk : k < N) (h : fld w a ci k = some v) : ∃ cell : Cell, H[a]? = some cell ∧ cell.vm ≠ .unknown ∧ cell.slots[g.1.2 ci k]? = some v := by
  obtain ⟨b, fs, h1, h2⟩ := fld_of h
  cases b with
  | true =>
    obtain ⟨r, r1, cell, q1, q2, q3, q4⟩ := atM_t hm h1
    have hr : r = (Cn, T, N) := Option.some.inj (r1.symm.trans hc)
    subst hr
    refine ⟨cell, q1, (by rw [q3]; exact fun h => VmData.noConfusion h), ?_⟩
    rw [q4 k hk]
    simp [vp_V, h2]
  | false =>
    obtain ⟨⟨cell, q1, q2, q3, q4, q5⟩, q6⟩ := hm.1 a _ h1
    exact ⟨cell, q1, q3, q5 k v h2⟩
theorem vw_get (hX : CX C cc own nL ret hh d) {ci N k idx a : Nat} {Cn : String} {T : u_T} {v : Value} (hc : vwCl[ci]? = some (Cn, T, N)) (hk : k < N) (hw : Cond.fieldLink own idx (T k).1 (T k).2.1 (T k).2.2.1 ∈ GW) (h : fld w a ci k = some v) (hd : decode cc pc = .ok (.getfield idx, 3)) (kk : VW C (pc + 3) L (v :: st) w z mc ms) : VW C pc L (.ref a :: st) w z mc ms := by
  obtain ⟨g, ⟨nL', MC, MS⟩, p, l, e, R, s, m, args, below, meth, c, Qf⟩ := C
  obtain ⟨hx, hb, hml, hnl, hown, hts, hAm, hst, hlk, hr, htab, hR1, hR2, hR3, hR4⟩ := hX
  intro H locs ls k' n hz hm hS hl hk' hn
  obtain ⟨cell, q1, q2, q3⟩ := cell_f hm hc hk h
  obtain ⟨hSl, hfc, kC, hkC, hkind⟩ := hAm.1.1 ci _ hc
  obtain ⟨cf, kf, fi, f, hi, hsl⟩ := hSl k hk
  exact W.getf hx hb hown (hts _ hw) hi (u_facts hfc hkC (u_lays hts (cl_ok ci _ hc).1 hk) hi).1 q1 q2 (v := v) (by rw [hsl]; exact q3) rfl rfl hd (kk H locs ls k' n hz hm hS hl hk' hn)
theorem vw_put (hX : CX C cc own nL ret hh d) {ci N k idx a : Nat} {Cn : String} {T : u_T} {v : Value} {ty : FieldType} {fs : List Value} (hc : vwCl[ci]? = some (Cn, T, N)) (hk : k < N) (hfin : (T k).2.2.2 = false) (hw : Cond.fieldLink own idx (T k).1 (T k).2.1 (T k).2.2.1 ∈ GW) (h : obj w a ci = some fs) (hl0 : k < fs.length) (hty : parseFieldDescriptor (T k).2.2.1 = some ty) (hn0 : narrow ty v = v) (hfit : fits ty v = true) (hd : decode cc pc = .ok (.putfield idx, 3)) (kk : VW C (pc + 3) L st (mset w a (.inl (ci, fs.set k v))) z mc ms) : VW C pc L (v :: .ref a :: st) w z mc ms := by
  obtain ⟨g, ⟨nL', MC, MS⟩, p, l, e, R, s, m, args, below, meth, c, Qf⟩ := C
  obtain ⟨hx, hb, hml, hnl, hown, hts, hAm, hst, hlk, hr, htab, hR1, hR2, hR3, hR4⟩ := hX
  intro H locs ls k' n hz hm hS hl hk' hn
  have h1 := obj_of h
  obtain ⟨r, r1, cell, q1, q2, q3, q4⟩ := atM_t hm h1
  have hr2 : r = (Cn, T, N) := Option.some.inj (r1.symm.trans hc)
  subst hr2
  obtain ⟨cw1, cw2, cw3⟩ := cl_ok ci _ hc
  have hap := va_apart (own := own) hts cw1 (fun k => (parseFieldDescriptor (T k).2.2.1).getD .int) (fun k hk => by obtain ⟨ty, hty⟩ := cw3 k hk; show parseFieldDescriptor (T k).2.2.1 = _; rw [show parseFieldDescriptor (T k).2.2.1 = some ty from hty]; rfl) cw2 hAm.1 hc
  obtain ⟨hSl, hfc, kC, hkC, hkind⟩ := hAm.1.1 ci _ hc
  obtain ⟨cf, kf, fi, f, hi, hsl⟩ := hSl k hk
  have hlay := hts _ (cw1 _ (u_in_lay hk))
  unfold u_lay at hlay
  rw [if_neg (by rw [hfin]; decide)] at hlay
  have hst2 := (u_facts hfc hkC (u_lays hts cw1 hk) hi).1
  have h6 := u_store hfc hkC hkind hlay hi hty hn0 hfit
  refine W.putK hx hb (f := f) ⟨hown, hts _ hw, ⟨_, _, _, hi⟩, hst2⟩ (by rw [q2]; exact h6) q1 q3 (by rw [hsl]; exact k2_hasslot (q4 k hk)) rfl rfl hd fun H' e1 e2 e3 => ?_
  rw [hsl] at e1 ⊢
  exact kk H' _ ls k' n (e2.trans hz) (hm.set h1 ⟨_, hc, t_OB.to (V := updV (vp_V fs) k v) ⟨_, e1, q2, q3, t_set q4 hap hk v⟩ (fun j _ => vp_updV_set hl0 v j)⟩ e3) (gS_put hS e2 e3 (atM_b hm h1)) hl hk' hn
theorem vw_putF (hX : CX C cc own nL ret hh d) {ci N k idx a : Nat} {Cn : String} {T : u_T} {v : Value} {ty : FieldType} {fs : List Value} (hin : nmC C = "<init>") (hc : vwCl[ci]? = some (Cn, T, N)) (hk : k < N) (hfin : (T k).2.2.2 = true) (hdecl : (T k).1 = own) (hw : Cond.fieldLink own idx (T k).1 (T k).2.1 (T k).2.2.1 ∈ GW) (h : obj w a ci = some fs) (hl0 : k < fs.length) (hty : parseFieldDescriptor (T k).2.2.1 = some ty) (hn0 : narrow ty v = v) (hfit : fits ty v = true) (hd : decode cc pc = .ok (.putfield idx, 3)) (kk : VW C (pc + 3) L st (mset w a (.inl (ci, fs.set k v))) z mc ms) : VW C pc L (v :: .ref a :: st) w z mc ms := by
  obtain ⟨g, ⟨nL', MC, MS⟩, p, l, e, R, s, m, args, below, meth, c, Qf⟩ := C
  obtain ⟨hx, hb, hml, hnl, hown, hts, hAm, hst, hlk, hr, htab, hR1, hR2, hR3, hR4⟩ := hX
  intro H locs ls k' n hz hm hS hl hk' hn
  have h1 := obj_of h
  obtain ⟨r, r1, cell, q1, q2, q3, q4⟩ := atM_t hm h1
  have hr2 : r = (Cn, T, N) := Option.some.inj (r1.symm.trans hc)
  subst hr2
  obtain ⟨cw1, cw2, cw3⟩ := cl_ok ci _ hc
  have hap := va_apart (own := own) hts cw1 (fun k => (parseFieldDescriptor (T k).2.2.1).getD .int) (fun k hk => by obtain ⟨ty, hty⟩ := cw3 k hk; show parseFieldDescriptor (T k).2.2.1 = _; rw [show parseFieldDescriptor (T k).2.2.1 = some ty from hty]; rfl) cw2 hAm.1 hc
  obtain ⟨hSl, hfc, kC, hkC, hkind⟩ := hAm.1.1 ci _ hc
  obtain ⟨cf, kf, fi, f, hi, hsl⟩ := hSl k hk
  have hlay := hts _ (cw1 _ (u_in_lay hk))
  unfold u_lay at hlay
  rw [if_pos hfin] at hlay
  have hst2 := (u_facts hfc hkC (u_lays hts cw1 hk) hi).1
  have hcf : m.cls = cf := by
    obtain ⟨_, _, c', _, _, _, -, -, hf', -, -, -, hown2, -⟩ := Cond.laysFinal_spec hlay
    have e1 : c' = cf := by have := hi.symm.trans hf'; simp at this; exact this.1.symm
    rw [hdecl] at hown2
    rw [← e1]; exact Option.some.inj (hown.symm.trans hown2)
  have h6 := u_fits hfc hkC hkind (Or.inr hlay) hi hty hn0 hfit
  refine W.putFinK hx hb hown (hts _ hw) hi hst2 hcf hin (by rw [q2]; exact h6) q1 q3 (by rw [hsl]; exact k2_hasslot (q4 k hk)) rfl rfl hd fun H' e1 e2 e3 => ?_
  rw [hsl] at e1 ⊢
  exact kk H' _ ls k' n (e2.trans hz) (hm.set h1 ⟨_, hc, t_OB.to (V := updV (vp_V fs) k v) ⟨_, e1, q2, q3, t_set q4 hap hk v⟩ (fun j _ => vp_updV_set hl0 v j)⟩ e3) (gS_put hS e2 e3 (atM_b hm h1)) hl hk' hn
/-- what a read of an array of whole numbers needs of the cell -/
theorem cell_i {g : Gp} {w : Mm} {s : State} {H : Heap} (hm : hM g w s H) (hK : va_K g.1 vwCl (gTy g) s) {a k n : Nat} {f : Nat → Int32} (hk : k < 8) (h : arI w a k = some (n, f)) : ∃ cell : Cell, H[a]? = some cell ∧ s.isArrayOf cell (aT k) ∧ cell.vm ≠ .unknown ∧ n ≤ cell.slots.size ∧ cell.slots.size.toInt32 = Int32.ofNat n ∧ ∀ j : Nat, j < n → cell.slots[j]? = some (.int (f j)) := by
  obtain ⟨b, h1⟩ := arI_of h
  cases b with
  | true =>
    refine ⟨_, atM_t hm h1, (hK.2 k _ (gTy_at g hk)).1 n (fun j => .int (f j)), (fun q => by cases q), ?_, ?_, fun j hj => ?_⟩
    · show n ≤ (arrV _ _ _).slots.size; rw [arrV_size]; exact Nat.le_refl _
    · show (arrV _ _ _).slots.size.toInt32 = _; rw [arrV_size]
    · show (arrV _ _ _).slots[_]? = _; rw [arrV_read _ _ hj]
  | false =>
    obtain ⟨⟨cell, q1, q2, q3, q4, q5, q6⟩, q7⟩ := hm.1 a _ h1
    exact ⟨cell, q1, q2, q3, q4, q5, q6⟩
theorem in_of {i : Int32} {n m : Nat} (hi : vp_in i n) (h : n ≤ m) : ¬ (i < 0 ∨ m ≤ i.toNatClampNeg) := fun q => by
  rcases q with q | q
  · exact hi (Or.inl q)
  · exact hi (Or.inr (Nat.le_trans h q))
theorem in_lt {i : Int32} {n : Nat} (hi : vp_in i n) : i.toNatClampNeg < n := Nat.not_le.mp fun q => hi (Or.inr q)
theorem vw_iald (hX : CX C cc own nL ret hh d) {a n : Nat} {f : Nat → Int32} {i : Int32} (h : arI w a 0 = some (n, f)) (hi : vp_in i n) (hd : decode cc pc = .ok (.iaload, 1)) (kk : VW C (pc + 1) L (.int (f i.toNatClampNeg) :: st) w z mc ms) : VW C pc L (.int i :: .ref a :: st) w z mc ms := by
  obtain ⟨g, ⟨nL', MC, MS⟩, p, l, e, R, s, m, args, below, meth, c, Qf⟩ := C
  obtain ⟨hx, hb, hml, hnl, hown, hts, hAm, hst, hlk, hr, htab, hR1, hR2, hR3, hR4⟩ := hX
  intro H locs ls k n' hz hm hS hl hk hn
  obtain ⟨cell, q1, q2, q3, q4, q5, q6⟩ := cell_i hm hAm.1 (by decide) h
  exact W.iald (v := .int (f i.toNatClampNeg)) hx hb q1 q2 q3 (in_of hi q4) (q6 _ (in_lt hi)) rfl rfl hd (kk H locs ls k n' hz hm hS hl hk hn)
theorem vw_bald (hX : CX C cc own nL ret hh d) {a n : Nat} {f : Nat → Int32} {i : Int32} (h : arI w a 1 = some (n, f)) (hi : vp_in i n) (hd : decode cc pc = .ok (.baload, 1)) (kk : VW C (pc + 1) L (.int (f i.toNatClampNeg) :: st) w z mc ms) : VW C pc L (.int i :: .ref a :: st) w z mc ms := by
  obtain ⟨g, ⟨nL', MC, MS⟩, p, l, e, R, s, m, args, below, meth, c, Qf⟩ := C
  obtain ⟨hx, hb, hml, hnl, hown, hts, hAm, hst, hlk, hr, htab, hR1, hR2, hR3, hR4⟩ := hX
  intro H locs ls k n' hz hm hS hl hk hn
  obtain ⟨cell, q1, q2, q3, q4, q5, q6⟩ := cell_i hm hAm.1 (by decide) h
  exact W.bald (v := .int (f i.toNatClampNeg)) hx hb q1 q2 q3 (in_of hi q4) (q6 _ (in_lt hi)) rfl rfl hd (kk H locs ls k n' hz hm hS hl hk hn)
theorem vw_zald (hX : CX C cc own nL ret hh d) {a n : Nat} {f : Nat → Int32} {i : Int32} (h : arI w a 2 = some (n, f)) (hi : vp_in i n) (hd : decode cc pc = .ok (.baload, 1)) (kk : VW C (pc + 1) L (.int (f i.toNatClampNeg) :: st) w z mc ms) : VW C pc L (.int i :: .ref a :: st) w z mc ms := by
  obtain ⟨g, ⟨nL', MC, MS⟩, p, l, e, R, s, m, args, below, meth, c, Qf⟩ := C
  obtain ⟨hx, hb, hml, hnl, hown, hts, hAm, hst, hlk, hr, htab, hR1, hR2, hR3, hR4⟩ := hX
  intro H locs ls k n' hz hm hS hl hk hn
  obtain ⟨cell, q1, q2, q3, q4, q5, q6⟩ := cell_i hm hAm.1 (by decide) h
  exact W.zald (v := .int (f i.toNatClampNeg)) hx hb q1 q2 q3 (in_of hi q4) (q6 _ (in_lt hi)) rfl rfl hd (kk H locs ls k n' hz hm hS hl hk hn)
theorem vw_alen (hX : CX C cc own nL ret hh d) {a n : Nat} (kd : Nat) (hkd : kd < 8) {f : Nat → Int32} (h : arI w a kd = some (n, f)) (hd : decode cc pc = .ok (.arraylength, 1)) (kk : VW C (pc + 1) L (.int (nI n) :: st) w z mc ms) : VW C pc L (.ref a :: st) w z mc ms := by
  obtain ⟨g, ⟨nL', MC, MS⟩, p, l, e, R, s, m, args, below, meth, c, Qf⟩ := C
  obtain ⟨hx, hb, hml, hnl, hown, hts, hAm, hst, hlk, hr, htab, hR1, hR2, hR3, hR4⟩ := hX
  intro H locs ls k n' hz hm hS hl hk hn
  obtain ⟨cell, q1, q2, q3, q4, q5, q6⟩ := cell_i hm hAm.1 hkd h
  exact W.alen hx hb q1 q2 q5 rfl rfl hd (kk H locs ls k n' hz hm hS hl hk hn)
theorem vw_iast (hX : CX C cc own nL ret hh d) {a n : Nat} {f : Nat → Int32} {i x : Int32} (h : arW w a 0 = some (n, f)) (hi : vp_in i n) (hd : decode cc pc = .ok (.iastore, 1)) (kk : VW C (pc + 1) L st (mset w a (.inr (0, n, .inl (upd f i.toNatClampNeg x)))) z mc ms) : VW C pc L (.int x :: .int i :: .ref a :: st) w z mc ms := by
  obtain ⟨g, ⟨nL', MC, MS⟩, p, l, e, R, s, m, args, below, meth, c, Qf⟩ := C
  obtain ⟨hx, hb, hml, hnl, hown, hts, hAm, hst, hlk, hr, htab, hR1, hR2, hR3, hR4⟩ := hX
  intro H locs ls k n' hz hm hS hl hk hn
  have h1 := arW_of h
  refine W.iast hx hb (atM_t hm h1) ((hAm.1.2 0 _ (gTy_at g (by decide))).1 n (fun j => .int (f j))) (fun q => by cases q) (by show ¬ (i < 0 ∨ (arrV _ _ _).slots.size ≤ _); rw [arrV_size]; exact hi) rfl rfl hd fun H1 e1 z1 oq => ?_
  refine kk H1 _ ls k n' (z1.trans hz) (hm.set h1 ?_ oq) (gS_put hS z1 oq (atM_b hm h1)) hl hk hn
  show H1[a]? = some (vp_cell _ _)
  rw [e1]
  rw [vp_cell_i, vp_cell_i, arrV_store]
  congr 2
  funext q
  by_cases hq : q = i.toNatClampNeg
  · subst hq
    simp [updV, upd]
  · simp [updV, upd, hq]
theorem vw_bast (hX : CX C cc own nL ret hh d) {a n : Nat} {f : Nat → Int32} {i x : Int32} (h : arW w a 1 = some (n, f)) (hi : vp_in i n) (hd : decode cc pc = .ok (.bastore, 1)) (kk : VW C (pc + 1) L st (mset w a (.inr (1, n, .inl (upd f i.toNatClampNeg (vp_nar .byte x))))) z mc ms) : VW C pc L (.int x :: .int i :: .ref a :: st) w z mc ms := by
  obtain ⟨g, ⟨nL', MC, MS⟩, p, l, e, R, s, m, args, below, meth, c, Qf⟩ := C
  obtain ⟨hx, hb, hml, hnl, hown, hts, hAm, hst, hlk, hr, htab, hR1, hR2, hR3, hR4⟩ := hX
  intro H locs ls k n' hz hm hS hl hk hn
  have h1 := arW_of h
  refine W.bast hx hb (atM_t hm h1) ((hAm.1.2 1 _ (gTy_at g (by decide))).1 n (fun j => .int (f j))) (fun q => by cases q) (by show ¬ (i < 0 ∨ (arrV _ _ _).slots.size ≤ _); rw [arrV_size]; exact hi) rfl rfl hd fun H1 e1 z1 oq => ?_
  refine kk H1 _ ls k n' (z1.trans hz) (hm.set h1 ?_ oq) (gS_put hS z1 oq (atM_b hm h1)) hl hk hn
  show H1[a]? = some (vp_cell _ _)
  rw [e1]
  rw [vp_cell_i, vp_cell_i, arrV_store]
  congr 2
  funext q
  by_cases hq : q = i.toNatClampNeg
  · subst hq
    simp [updV, upd, vp_nar, narrow]
  · simp [updV, upd, hq]
theorem vw_zast (hX : CX C cc own nL ret hh d) {a n : Nat} {f : Nat → Int32} {i x : Int32} (h : arW w a 2 = some (n, f)) (hi : vp_in i n) (hd : decode cc pc = .ok (.bastore, 1)) (kk : VW C (pc + 1) L st (mset w a (.inr (2, n, .inl (upd f i.toNatClampNeg (vp_nar .boolean x))))) z mc ms) : VW C pc L (.int x :: .int i :: .ref a :: st) w z mc ms := by
  obtain ⟨g, ⟨nL', MC, MS⟩, p, l, e, R, s, m, args, below, meth, c, Qf⟩ := C
  obtain ⟨hx, hb, hml, hnl, hown, hts, hAm, hst, hlk, hr, htab, hR1, hR2, hR3, hR4⟩ := hX
  intro H locs ls k n' hz hm hS hl hk hn
  have h1 := arW_of h
  refine W.zast hx hb (atM_t hm h1) ((hAm.1.2 2 _ (gTy_at g (by decide))).1 n (fun j => .int (f j))) (fun q => by cases q) (by show ¬ (i < 0 ∨ (arrV _ _ _).slots.size ≤ _); rw [arrV_size]; exact hi) rfl rfl hd fun H1 e1 z1 oq => ?_
  refine kk H1 _ ls k n' (z1.trans hz) (hm.set h1 ?_ oq) (gS_put hS z1 oq (atM_b hm h1)) hl hk hn
  show H1[a]? = some (vp_cell _ _)
  rw [e1]
  rw [vp_cell_i, vp_cell_i, arrV_store]
  congr 2
  funext q
  by_cases hq : q = i.toNatClampNeg
  · subst hq
    simp [updV, upd, vp_nar, narrow]
  · simp [updV, upd, hq]
theorem vw_aald (hX : CX C cc own nL ret hh d) {a n : Nat} (kd : Nat) (hkd : kd < 8) (hty : (aT kd).isReference = true) {f : Nat → Option Nat} {i : Int32} {q : Nat} (h : arR w a kd = some (n, f)) (hi : vp_in i n) (hq : f i.toNatClampNeg = some q) (hd : decode cc pc = .ok (.aaload, 1)) (kk : VW C (pc + 1) L (.ref q :: st) w z mc ms) : VW C pc L (.int i :: .ref a :: st) w z mc ms := by
  obtain ⟨g, ⟨nL', MC, MS⟩, p, l, e, R, s, m, args, below, meth, c, Qf⟩ := C
  obtain ⟨hx, hb, hml, hnl, hown, hts, hAm, hst, hlk, hr, htab, hR1, hR2, hR3, hR4⟩ := hX
  intro H locs ls k n' hz hm hS hl hk hn
  have h1 := arR_of h
  exact W.aald (v := .ref q) (ty := aT kd) hx hb (atM_t hm h1) ((hAm.1.2 kd _ (gTy_at g hkd)).1 n (fun j => va_rf (f j))) hty (fun q => by cases q) (by show ¬ (i < 0 ∨ (arrV _ _ _).slots.size ≤ _); rw [arrV_size]; exact hi) (by show (arrV _ _ _).slots[_]? = _; rw [arrV_read _ _ (in_lt hi), hq]; rfl) rfl rfl hd (kk H locs ls k n' hz hm hS hl hk hn)
theorem vw_aast (hX : CX C cc own nL ret hh d) {a n v ci : Nat} (kd : Nat) (hkd : kd < 8) {Cn : String} {T : u_T} {N : Nat} {vs : List Value} (hty : aT kd = .object Cn) (hc : vwCl[ci]? = some (Cn, T, N)) {f : Nat → Option Nat} {i : Int32} (h : arR w a kd = some (n, f)) (hi : vp_in i n) (hv : w v = some (true, .inl (ci, vs))) (hd : decode cc pc = .ok (.aastore, 1)) (kk : VW C (pc + 1) L st (mset w a (.inr (kd, n, .inr (.inr (va_up f i.toNatClampNeg (some v)))))) z mc ms) : VW C pc L (.ref v :: .int i :: .ref a :: st) w z mc ms := by
  obtain ⟨g, ⟨nL', MC, MS⟩, p, l, e, R, s, m, args, below, meth, c, Qf⟩ := C
  obtain ⟨hx, hb, hml, hnl, hown, hts, hAm, hst, hlk, hr, htab, hR1, hR2, hR3, hR4⟩ := hX
  intro H locs ls k n' hz hm hS hl hk hn
  have h1 := arR_of h
  obtain ⟨r', hr', cellV, g1, g2, g3, -⟩ := atM_t hm hv
  have hcls := (hAm.1.1 ci _ hc).2
  have hRA := (hAm.1.2 kd _ (gTy_at g hkd)).2
  rw [show ((g.2.1 kd, aT kd) : ClassId × FieldType).2 = .object Cn from hty] at hRA
  obtain ⟨kA, comp, k1, k2, k3, -⟩ := hRA
  have hcomp : comp = g.1.1 ci := Option.some.inj (k3.symm.trans hcls.1)
  subst hcomp
  obtain ⟨kC, hkC, -⟩ := hcls.2
  refine W.aast hx hb (atM_t hm h1) (fun q h => by cases h) (fun h => by cases h) k1 k2 rfl hkC ⟨fun q => hi (Or.inl q), by show _ < (arrV _ _ _).slots.size; rw [arrV_size]; exact in_lt hi⟩ g1 (fun q h => by rw [g3] at h; cases h) (by rw [g2]; exact hkC) (by rw [g2]; exact va_assign hcls) rfl rfl hd fun H1 e1 z1 oq => ?_
  refine kk H1 _ ls k n' (z1.trans hz) (hm.set h1 ?_ oq) (gS_put hS z1 oq (atM_b hm h1)) hl hk hn
  show H1[a]? = some (vp_cell _ _)
  rw [e1]
  show some (Cell.setSlot (vp_cell _ _) _ _) = _
  rw [vp_cell_q, vp_cell_q, arrV_store]
  congr 2
  funext q
  by_cases hq : q = i.toNatClampNeg
  · subst hq
    simp [updV, va_up, va_rf]
  · simp [updV, va_up, hq]
end HROWS
