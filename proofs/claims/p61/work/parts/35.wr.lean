section
variable {w : Mm} {b z : Nat} {hd zn : Nat → Int32} {nm : Nat → Nat} {pa tk cs : Nat → Nat → Int32} {Q : Int32 → Mm → Nat → Prop} {R : Mm → Nat → Prop} {T : Mm → Prop} {f : Nat → Int32}
theorem cl_succ {x : Int32} {n : Nat} (h : vp_in x n) (hn : n < 100000) : cl (x + 1) = cl x + 1 ∧ (x + 1).toInt = x.toInt + 1 := by
  have h1 := vp_in_iff.mp h
  have e1 : (x + 1).toInt = x.toInt + 1 := by
    rw [ia _ _ (by rw [i_1]; omega) (by rw [i_1]; omega), i_1]
  refine ⟨?_, e1⟩
  rw [cl_eq, e1, cl_eq]
  omega
/-- a passenger buys -/
theorem Rl_buy {p k x : Int32} (hB : Bd f) (hR : Rl hd zn pa tk cs f) (hp : vp_in p (cl (f 2))) (ht : vp_in (f 3) 30) :
    Rl (upd hd 6 (hd 6 + 1)) zn (upd2 pa (cl p) 1 (pa (cl p) 1 - priceI k x)) (upd2 (upd2 (upd2 (upd2 (upd2 (upd2 tk (cl (f 3)) 0 p) (cl (f 3)) 1 k) (cl (f 3)) 2 x) (cl (f 3)) 3 (-1)) (cl (f 3)) 4 (-1)) (cl (f 3)) 5 0) cs (buyF f p k x) := by
  have hB1 := clI hB.1
  have hB2 := clI hB.2.1
  have hB4 := clI hB.2.2.2
  have p1 := clI hp
  have t1 := clI ht
  have t2 := cl_succ ht (by omega)
  obtain ⟨⟨e0, e1, e2, e3, e4, e5, e6, e7⟩, hz, hP, hT, hC⟩ := hR
  have f3 : buyF f p k x 3 = f 3 + 1 := by simp (disch := omega) only [buyF, upd_ne, upd_eq]
  have fH : ∀ j, j < 21 → j ≠ 3 → j ≠ 5 → buyF f p k x j = f j := fun j _ _ _ => by simp (disch := omega) only [buyF, upd_ne]
  have fC : ∀ j, 305 ≤ j → buyF f p k x j = f j := fun j _ => by simp (disch := omega) only [buyF, upd_ne]
  have fT : ∀ j, 125 ≤ j → j < 125 + 6 * cl (f 3) → buyF f p k x j = f j := fun j _ _ => by simp (disch := omega) only [buyF, upd_ne]
  have fP : ∀ j, 21 ≤ j → j < 125 → j ≠ 21 + 13 * cl p → buyF f p k x j = f j := fun j _ _ _ => by simp (disch := omega) only [buyF, upd_ne]
  refine ⟨⟨?_, ?_, ?_, ?_, ?_, ?_, ?_, ?_⟩, ?_, ?_, ?_, ?_⟩
  · rw [upd_ne (by omega), fH _ (by omega) (by omega) (by omega), e0]
  · rw [upd_ne (by omega), fH _ (by omega) (by omega) (by omega), e1]
  · rw [upd_ne (by omega), fH _ (by omega) (by omega) (by omega), e2]
  · rw [upd_ne (by omega), fH _ (by omega) (by omega) (by omega), e3]
  · rw [upd_ne (by omega), fH _ (by omega) (by omega) (by omega), e4]
  · rw [upd_ne (by omega), fH _ (by omega) (by omega) (by omega), e5]
  · rw [upd_eq, f3, e6]
  · rw [upd_ne (by omega), fH _ (by omega) (by omega) (by omega), e7]
  · rw [fH 1 (by omega) (by omega) (by omega)]
    intro i hi
    rw [fH _ (by omega) (by omega) (by omega), hz i hi]
  · rw [fH 2 (by omega) (by omega) (by omega)]
    intro q hq
    by_cases hqp : q = cl p
    · subst hqp
      have h := hP _ hq
      rw [upd2_eq]
      unfold RP at h ⊢
      simp (disch := omega) only [buyF, upd_ne, upd_eq]
      exact ⟨by rw [h.1], h.2⟩
    · exact (hP q hq).to (upd2_ne hqp) (fun k _ => fP _ (by omega) (by omega) (by omega))
  · rw [f3, t2.1]
    intro t ht
    by_cases h : t = cl (f 3)
    · subst h
      unfold RT
      simp (disch := omega) only [buyF, upd_ne, upd_eq, upd2_eq]
      exact ⟨trivial, trivial, trivial, trivial, trivial, trivial⟩
    · exact (hT t (by omega)).to (by rw [upd2_ne h, upd2_ne h, upd2_ne h, upd2_ne h, upd2_ne h, upd2_ne h]) (fun k _ => fT _ (by omega) (by omega))
  · rw [fH 4 (by omega) (by omega) (by omega)]
    intro c hc
    exact (hC c hc).to rfl (fun k _ => fC _ (by omega))
theorem c_sell {p k x : Int32} (hB : Bd f) (hR : Rl hd zn pa tk cs f) (hp : vp_in p (cl (f 2))) (ht : vp_in (f 3) 30) (hq : ∀ hd' pa' tk', Rl hd' zn pa' tk' cs (buyF f p k x) → Q (f 3) (sw w b hd' zn nm pa' tk' cs) z) : F_X3_sell b p k x (sw w b hd zn nm pa tk cs) z Q := by
  have hB2 := clI hB.2.1
  have p1 := clI hp
  have p2 := vp_le (m := 8) hp (by omega)
  have t1 := clI ht
  have hr := hq _ _ _ (Rl_buy (k := k) (x := x) hB hR hp ht)
  have e6 : hd 6 = f 3 := hR.1.2.2.2.2.2.2.1
  rw [← e6] at t1 ht hr
  unfold F_X3_sell F_X4_issue
  repeat' with_reducible (first
      | (refine ⟨s_iH, ?_⟩)
      | (refine ⟨s_iP (by first | assumption | omega), ?_⟩)
      | (refine ⟨s_iT (by first | assumption | omega), ?_⟩)
      | (refine ⟨s_iC (by first | assumption | omega), ?_⟩)
      | (refine ⟨_, s_r8, ?_⟩)
      | (refine ⟨_, s_r9, ?_⟩)
      | (refine ⟨_, s_r10, ?_⟩)
      | (refine ⟨_, s_r11, ?_⟩)
      | (refine s_aP (by first | assumption | omega | solve_by_elim) ?_)
      | (refine s_aT (by first | assumption | omega | solve_by_elim) ?_)
      | (refine s_aC (by first | assumption | omega | solve_by_elim) ?_)
      | (refine ⟨_, s_getH (by omega), ?_⟩)
      | (refine ⟨_, s_getP (k := 0) (by first | assumption | omega) (by omega), ?_⟩)
      | (refine ⟨_, s_getP (k := 1) (by first | assumption | omega) (by omega), ?_⟩)
      | (refine ⟨_, s_getP (k := 2) (by first | assumption | omega) (by omega), ?_⟩)
      | (refine ⟨_, s_getP (k := 3) (by first | assumption | omega) (by omega), ?_⟩)
      | (refine ⟨_, s_getP (k := 4) (by first | assumption | omega) (by omega), ?_⟩)
      | (refine ⟨_, s_getP (k := 5) (by first | assumption | omega) (by omega), ?_⟩)
      | (refine ⟨_, s_getT (by first | assumption | omega) (by omega), ?_⟩)
      | (refine ⟨_, s_getC (by first | assumption | omega) (by omega), ?_⟩)
      | (refine ⟨_, s_nm (by first | assumption | omega), ?_⟩)
      | (refine s_putH (by omega) ?_)
      | (refine s_putN (by first | assumption | omega) ?_)
      | (refine s_putP (k := 0) (by first | assumption | omega) (by omega) ?_)
      | (refine s_putP (k := 1) (by first | assumption | omega) (by omega) ?_)
      | (refine s_putP (k := 2) (by first | assumption | omega) (by omega) ?_)
      | (refine s_putP (k := 3) (by first | assumption | omega) (by omega) ?_)
      | (refine s_putP (k := 4) (by first | assumption | omega) (by omega) ?_)
      | (refine s_putP (k := 5) (by first | assumption | omega) (by omega) ?_)
      | (refine s_putT (by first | assumption | omega) (by omega) ?_)
      | (refine s_putC (by first | assumption | omega) (by omega) ?_)
      | (refine c_price ?_)
      | (rintro _ rfl)
      | (refine ⟨fun hc => ?_, fun hc => ?_⟩ <;> try first | contradiction | exact absurd hc one0)
      | fail)
  exact hr
/-- one row changes -/
theorem Rl.pr {pa' : Nat → Nat → Int32} {f' : Nat → Int32} {p : Nat} (hB : Bd f) (hR : Rl hd zn pa tk cs f) (hp : p < 8) (hf : ∀ j, j < 21 + 13 * p ∨ 21 + 13 * p + 6 ≤ j → f' j = f j) (hpa : ∀ q, q ≠ p → pa' q = pa q) (hr : RP (pa' p) f' (21 + 13 * p)) : Rl hd zn pa' tk cs f' := by
  have hB1 := clI hB.1
  obtain ⟨hh, hz, hP, hT, hC⟩ := hR
  unfold Rl
  rw [hf 0 (by omega), hf 1 (by omega), hf 2 (by omega), hf 3 (by omega), hf 4 (by omega), hf 6 (by omega), hf 7 (by omega), hf 8 (by omega)]
  refine ⟨hh, fun i hi => ?_, fun q hq => ?_, fun t ht => (hT t ht).to rfl (fun k _ => hf _ (by omega)), fun c hc => (hC c hc).to rfl (fun k _ => hf _ (by omega))⟩
  · rw [hf _ (by omega), hz i hi]
  · by_cases h : q = p
    · rw [h]
      exact hr
    · exact (hP q hq).to (hpa q h) (fun k _ => hf _ (by omega))
theorem Rl.tr {tk' : Nat → Nat → Int32} {f' : Nat → Int32} {p : Nat} (hB : Bd f) (hR : Rl hd zn pa tk cs f) (hf : ∀ j, j < 125 + 6 * p ∨ 125 + 6 * p + 6 ≤ j → f' j = f j) (hp : p < 30) (hpa : ∀ q, q ≠ p → tk' q = tk q) (hr : RT (tk' p) f' (125 + 6 * p)) : Rl hd zn pa tk' cs f' := by
  have hB1 := clI hB.1
  have hB2 := clI hB.2.1
  obtain ⟨hh, hz, hP, hT, hC⟩ := hR
  unfold Rl
  rw [hf 0 (by omega), hf 1 (by omega), hf 2 (by omega), hf 3 (by omega), hf 4 (by omega), hf 6 (by omega), hf 7 (by omega), hf 8 (by omega)]
  refine ⟨hh, fun i hi => ?_, fun t ht => (hP t ht).to rfl (fun k _ => hf _ (by omega)), fun q hq => ?_, fun c hc => (hC c hc).to rfl (fun k _ => hf _ (by omega))⟩
  · rw [hf _ (by omega), hz i hi]
  · by_cases h : q = p
    · rw [h]
      exact hr
    · exact (hT q hq).to (hpa q h) (fun k _ => hf _ (by omega))
theorem Rl.cr {cs' : Nat → Nat → Int32} {f' : Nat → Int32} {p : Nat} (hB : Bd f) (hR : Rl hd zn pa tk cs f) (hf : ∀ j, j < 305 + 7 * p ∨ 305 + 7 * p + 7 ≤ j → f' j = f j) (hpa : ∀ q, q ≠ p → cs' q = cs q) (hr : RC (cs' p) f' (305 + 7 * p)) : Rl hd zn pa tk cs' f' := by
  have hB1 := clI hB.1
  have hB2 := clI hB.2.1
  have hB3 := clI hB.2.2.1
  obtain ⟨hh, hz, hP, hT, hC⟩ := hR
  unfold Rl
  rw [hf 0 (by omega), hf 1 (by omega), hf 2 (by omega), hf 3 (by omega), hf 4 (by omega), hf 6 (by omega), hf 7 (by omega), hf 8 (by omega)]
  refine ⟨hh, fun i hi => ?_, fun t ht => (hP t ht).to rfl (fun k _ => hf _ (by omega)), fun t ht => (hT t ht).to rfl (fun k _ => hf _ (by omega)), fun q hq => ?_⟩
  · rw [hf _ (by omega), hz i hi]
  · by_cases h : q = p
    · rw [h]
      exact hr
    · exact (hC q hq).to (hpa q h) (fun k _ => hf _ (by omega))
theorem Rl.hr {hd' f' : Nat → Int32} (hR : Rl hd zn pa tk cs f) (hf : ∀ j, 9 ≤ j → f' j = f j) (h1 : f' 1 = f 1) (h2 : f' 2 = f 2) (h3 : f' 3 = f 3) (h4 : f' 4 = f 4) (hh : hd' 0 = f' 0 ∧ hd' 1 = f' 6 ∧ hd' 2 = f' 7 ∧ hd' 3 = f' 8 ∧ hd' 4 = f' 1 ∧ hd' 5 = f' 2 ∧ hd' 6 = f' 3 ∧ hd' 7 = f' 4) : Rl hd' zn pa tk cs f' := by
  obtain ⟨-, hz, hP, hT, hC⟩ := hR
  unfold Rl
  refine ⟨hh, ?_⟩
  rw [h1, h2, h3, h4]
  exact ⟨fun i hi => by rw [hf _ (by omega), hz i hi], fun t ht => (hP t ht).to rfl (fun k _ => hf _ (by omega)), fun t ht => (hT t ht).to rfl (fun k _ => hf _ (by omega)), fun t ht => (hC t ht).to rfl (fun k _ => hf _ (by omega))⟩
/-- a new case -/
theorem Rl.cn {hd' : Nat → Int32} {cs' : Nat → Nat → Int32} {f' : Nat → Int32} {p : Nat} (hB : Bd f) (hR : Rl hd zn pa tk cs f) (hp : p = cl (f 4)) (hn : cl (f' 4) = p + 1) (hf : ∀ j, j < 305 + 7 * p ∨ 305 + 7 * p + 7 ≤ j → j ≠ 4 → f' j = f j) (hpa : ∀ q, q ≠ p → cs' q = cs q) (hr : RC (cs' p) f' (305 + 7 * p)) (hh : ∀ k, k < 7 → hd' k = hd k) (h7 : hd' 7 = f' 4) : Rl hd' zn pa tk cs' f' := by
  have hB1 := clI hB.1
  have hB2 := clI hB.2.1
  have hB3 := clI hB.2.2.1
  obtain ⟨⟨e0, e1, e2, e3, e4, e5, e6, e7⟩, hz, hP, hT, hC⟩ := hR
  unfold Rl
  rw [hf 0 (by omega) (by omega), hf 1 (by omega) (by omega), hf 2 (by omega) (by omega), hf 3 (by omega) (by omega), hf 6 (by omega) (by omega), hf 7 (by omega) (by omega), hf 8 (by omega) (by omega), hh 0 (by omega), hh 1 (by omega), hh 2 (by omega), hh 3 (by omega), hh 4 (by omega), hh 5 (by omega), hh 6 (by omega), h7, hn]
  refine ⟨⟨e0, e1, e2, e3, e4, e5, e6, rfl⟩, fun i hi => ?_, fun t ht => (hP t ht).to rfl (fun k _ => hf _ (by omega) (by omega)), fun t ht => (hT t ht).to rfl (fun k _ => hf _ (by omega) (by omega)), fun q hq => ?_⟩
  · rw [hf _ (by omega) (by omega), hz i hi]
  · by_cases h : q = p
    · rw [h]
      exact hr
    · exact (hC q (by omega)).to (hpa q h) (fun k _ => hf _ (by omega) (by omega))

def rideG (f : Nat → Int32) (p a c t : Int32) : Nat → Int32 :=
  let i := 21 + 13 * cl p
  let g := upd (upd f (i + 1) a) (i + 2) c
  upd (upd (upd g (i + 3) (g 0 + 2 * jabs (c - a))) (i + 4) t) (i + 5) 0
theorem rideG_out {p a c t : Int32} {j : Nat} (h : j < 21 + 13 * cl p + 1 ∨ 21 + 13 * cl p + 6 ≤ j) : rideG f p a c t j = f j := by
  simp (disch := omega) only [rideG, upd_ne]
theorem beginF_n {p a c : Int32} : beginF f p a c (-1) = rideG f p a c (-1) := rfl
theorem Rl_ride {p a c t : Int32} (hR : Rl hd zn pa tk cs f) (hB : Bd f) (hp : vp_in p (cl (f 2))) (hE : ¬ f 0 + 2 * jabs (c - a) = -1) :
    Rl hd zn (upd2 (upd2 (upd2 (upd2 (upd2 pa (cl p) 2 a) (cl p) 3 c) (cl p) 4 (hd 0 + 2 * jabs (c - a))) (cl p) 5 t) (cl p) 6 0) tk cs (rideG f p a c t) := by
  have hB2 := clI hB.2.1
  have p1 := clI hp
  have e0 : hd 0 = f 0 := hR.1.1
  refine hR.pr hB (p := cl p) (by omega) (fun j hj => rideG_out (by omega)) (fun q hq => by rw [upd2_ne hq, upd2_ne hq, upd2_ne hq, upd2_ne hq, upd2_ne hq]) ?_
  have h := (hR.2.2.1 (cl p) p1.2).1
  unfold RP
  simp (disch := omega) only [rideG, upd_ne, upd_eq, upd2_eq, e0]
  exact ⟨h, trivial, trivial, trivial, fun h => absurd h hE, fun _ => ⟨trivial, trivial⟩⟩
theorem c_beginRide {p a c t : Int32} (hB : Bd f) (hR : Rl hd zn pa tk cs f) (hp : vp_in p (cl (f 2))) (ht : t = -1 ∨ vp_in t (cl (f 3))) (hE : ¬ f 0 + 2 * jabs (c - a) = -1) (hq : ∀ pa' tk', Rl hd zn pa' tk' cs (beginF f p a c t) → Q (f 0 + 2 * jabs (c - a)) (sw w b hd zn nm pa' tk' cs) z) : F_X3_beginRide b p a c t (sw w b hd zn nm pa tk cs) z Q := by
  have hB2 := clI hB.2.1
  have hB3 := clI hB.2.2.1
  have p1 := clI hp
  have p2 := vp_le (m := 8) hp (by omega)
  have e0 : hd 0 = f 0 := hR.1.1
  have hr := Rl_ride (a := a) (c := c) (t := t) hR hB hp hE
  rcases ht with rfl | ht
  · have hr := hq _ _ hr
    rw [← e0] at hr
    unfold F_X3_beginRide F_X2_takeRide
    repeat' with_reducible (first
        | (refine ⟨s_iH, ?_⟩)
        | (refine ⟨s_iP (by first | assumption | omega), ?_⟩)
        | (refine ⟨s_iT (by first | assumption | omega), ?_⟩)
        | (refine ⟨s_iC (by first | assumption | omega), ?_⟩)
        | (refine ⟨_, s_r8, ?_⟩)
        | (refine ⟨_, s_r9, ?_⟩)
        | (refine ⟨_, s_r10, ?_⟩)
        | (refine ⟨_, s_r11, ?_⟩)
        | (refine s_aP (by first | assumption | omega | solve_by_elim) ?_)
        | (refine s_aT (by first | assumption | omega | solve_by_elim) ?_)
        | (refine s_aC (by first | assumption | omega | solve_by_elim) ?_)
        | (refine ⟨_, s_getH (by omega), ?_⟩)
        | (refine ⟨_, s_getP (k := 0) (by first | assumption | omega) (by omega), ?_⟩)
        | (refine ⟨_, s_getP (k := 1) (by first | assumption | omega) (by omega), ?_⟩)
        | (refine ⟨_, s_getP (k := 2) (by first | assumption | omega) (by omega), ?_⟩)
        | (refine ⟨_, s_getP (k := 3) (by first | assumption | omega) (by omega), ?_⟩)
        | (refine ⟨_, s_getP (k := 4) (by first | assumption | omega) (by omega), ?_⟩)
        | (refine ⟨_, s_getP (k := 5) (by first | assumption | omega) (by omega), ?_⟩)
        | (refine ⟨_, s_getT (by first | assumption | omega) (by omega), ?_⟩)
        | (refine ⟨_, s_getC (by first | assumption | omega) (by omega), ?_⟩)
        | (refine ⟨_, s_nm (by first | assumption | omega), ?_⟩)
        | (refine s_putH (by omega) ?_)
        | (refine s_putN (by first | assumption | omega) ?_)
        | (refine s_putP (k := 0) (by first | assumption | omega) (by omega) ?_)
        | (refine s_putP (k := 1) (by first | assumption | omega) (by omega) ?_)
        | (refine s_putP (k := 2) (by first | assumption | omega) (by omega) ?_)
        | (refine s_putP (k := 3) (by first | assumption | omega) (by omega) ?_)
        | (refine s_putP (k := 4) (by first | assumption | omega) (by omega) ?_)
        | (refine s_putP (k := 5) (by first | assumption | omega) (by omega) ?_)
        | (refine s_putT (by first | assumption | omega) (by omega) ?_)
        | (refine s_putC (by first | assumption | omega) (by omega) ?_)
        | (rintro _ rfl)
        | (refine ⟨fun hc => ?_, fun hc => ?_⟩ <;> try first | contradiction | exact absurd hc one0)
        | fail)
    exact hr
  · have t1 := clI ht
    have t2 := vp_le (m := 30) ht (by omega)
    have tm := vp_m1 ht
    have hB' : Bd (rideG f p a c t) := by
      unfold Bd
      rw [rideG_out (by omega), rideG_out (by omega), rideG_out (by omega), rideG_out (by omega)]
      exact hB
    have hg : ∀ k, k < 6 → rideG f p a c t (125 + 6 * cl t + k) = f (125 + 6 * cl t + k) := fun k _ => rideG_out (by omega)
    have hT := hR.2.2.2.1 (cl t) t1.2
    have hT' := hr.2.2.2.1 (cl t) (by rw [rideG_out (by omega)]; exact t1.2)
    have e3 : tk (cl t) 3 = f (125 + 6 * cl t + 3) := hT.2.2.2.1
    have hb : beginF f p a c t = if f (125 + 6 * cl t + 3) = -1 then upd (upd (upd (rideG f p a c t) (125 + 6 * cl t + 5) (rideG f p a c t (125 + 6 * cl t + 5) + 1)) (125 + 6 * cl t + 3) (f 0)) (125 + 6 * cl t + 4) a else upd (rideG f p a c t) (125 + 6 * cl t + 5) (rideG f p a c t (125 + 6 * cl t + 5) + 1) := by
      show (if t = -1 then _ else if upd (rideG f p a c t) (125 + 6 * cl t + 5) (rideG f p a c t (125 + 6 * cl t + 5) + 1) (125 + 6 * cl t + 3) = -1 then upd (upd (upd (rideG f p a c t) (125 + 6 * cl t + 5) (rideG f p a c t (125 + 6 * cl t + 5) + 1)) (125 + 6 * cl t + 3) (upd (rideG f p a c t) (125 + 6 * cl t + 5) (rideG f p a c t (125 + 6 * cl t + 5) + 1) 0)) (125 + 6 * cl t + 4) a else upd (rideG f p a c t) (125 + 6 * cl t + 5) (rideG f p a c t (125 + 6 * cl t + 5) + 1)) = _
      rw [if_neg tm, upd_ne (by omega), upd_ne (by omega), hg 3 (by omega), rideG_out (j := 0) (by omega)]
    by_cases hs : f (125 + 6 * cl t + 3) = -1
    · rw [if_pos hs] at hb
      have hr2 : Rl hd zn (upd2 (upd2 (upd2 (upd2 (upd2 pa (cl p) 2 a) (cl p) 3 c) (cl p) 4 (hd 0 + 2 * jabs (c - a))) (cl p) 5 t) (cl p) 6 0) (upd2 (upd2 (upd2 tk (cl t) 3 (hd 0)) (cl t) 4 a) (cl t) 5 (tk (cl t) 5 + 1)) cs (beginF f p a c t) := by
        rw [hb]
        refine hr.tr hB' (p := cl t) (fun j hj => by simp (disch := omega) only [upd_ne]) (by omega) (fun q hq => by rw [upd2_ne hq, upd2_ne hq, upd2_ne hq]) ?_
        unfold RT at hT' ⊢
        simp (disch := omega) only [upd_ne, upd_eq, upd2_eq, e0]
        exact ⟨hT'.1, hT'.2.1, hT'.2.2.1, trivial, trivial, by rw [hT'.2.2.2.2.2]⟩
      have hr3 := hq _ _ hr2
      rw [← e0] at hr3
      rw [← e3] at hs
      unfold F_X3_beginRide F_X2_takeRide F_X4_useForRide F_X4_isStamped B_X4_useForRide_17
      repeat' with_reducible (first
          | (refine ⟨s_iH, ?_⟩)
          | (refine ⟨s_iP (by first | assumption | omega), ?_⟩)
          | (refine ⟨s_iT (by first | assumption | omega), ?_⟩)
          | (refine ⟨s_iC (by first | assumption | omega), ?_⟩)
          | (refine ⟨_, s_r8, ?_⟩)
          | (refine ⟨_, s_r9, ?_⟩)
          | (refine ⟨_, s_r10, ?_⟩)
          | (refine ⟨_, s_r11, ?_⟩)
          | (refine s_aP (by first | assumption | omega | solve_by_elim) ?_)
          | (refine s_aT (by first | assumption | omega | solve_by_elim) ?_)
          | (refine s_aC (by first | assumption | omega | solve_by_elim) ?_)
          | (refine ⟨_, s_getH (by omega), ?_⟩)
          | (refine ⟨_, s_getP (k := 0) (by first | assumption | omega) (by omega), ?_⟩)
          | (refine ⟨_, s_getP (k := 1) (by first | assumption | omega) (by omega), ?_⟩)
          | (refine ⟨_, s_getP (k := 2) (by first | assumption | omega) (by omega), ?_⟩)
          | (refine ⟨_, s_getP (k := 3) (by first | assumption | omega) (by omega), ?_⟩)
          | (refine ⟨_, s_getP (k := 4) (by first | assumption | omega) (by omega), ?_⟩)
          | (refine ⟨_, s_getP (k := 5) (by first | assumption | omega) (by omega), ?_⟩)
          | (refine ⟨_, s_getT (by first | assumption | omega) (by omega), ?_⟩)
          | (refine ⟨_, s_getC (by first | assumption | omega) (by omega), ?_⟩)
          | (refine ⟨_, s_nm (by first | assumption | omega), ?_⟩)
          | (refine s_putH (by omega) ?_)
          | (refine s_putN (by first | assumption | omega) ?_)
          | (refine s_putP (k := 0) (by first | assumption | omega) (by omega) ?_)
          | (refine s_putP (k := 1) (by first | assumption | omega) (by omega) ?_)
          | (refine s_putP (k := 2) (by first | assumption | omega) (by omega) ?_)
          | (refine s_putP (k := 3) (by first | assumption | omega) (by omega) ?_)
          | (refine s_putP (k := 4) (by first | assumption | omega) (by omega) ?_)
          | (refine s_putP (k := 5) (by first | assumption | omega) (by omega) ?_)
          | (refine s_putT (by first | assumption | omega) (by omega) ?_)
          | (refine s_putC (by first | assumption | omega) (by omega) ?_)
          | (rintro _ rfl)
          | (refine ⟨fun hc => ?_, fun hc => ?_⟩ <;> try first | contradiction | exact absurd hc one0)
          | fail)
      simp only [upd2_eq, upd_ne (show (5 : Nat) ≠ 3 by omega), upd_ne (show (5 : Nat) ≠ 4 by omega)]
      exact hr3
    · rw [if_neg hs] at hb
      have hr2 : Rl hd zn (upd2 (upd2 (upd2 (upd2 (upd2 pa (cl p) 2 a) (cl p) 3 c) (cl p) 4 (hd 0 + 2 * jabs (c - a))) (cl p) 5 t) (cl p) 6 0) (upd2 tk (cl t) 5 (tk (cl t) 5 + 1)) cs (beginF f p a c t) := by
        rw [hb]
        refine hr.tr hB' (p := cl t) (fun j hj => by simp (disch := omega) only [upd_ne]) (by omega) (fun q hq => by rw [upd2_ne hq]) ?_
        unfold RT at hT' ⊢
        simp (disch := omega) only [upd_ne, upd_eq, upd2_eq]
        exact ⟨hT'.1, hT'.2.1, hT'.2.2.1, hT'.2.2.2.1, hT'.2.2.2.2.1, by rw [hT'.2.2.2.2.2]⟩
      have hr3 := hq _ _ hr2
      rw [← e0] at hr3
      rw [← e3] at hs
      unfold F_X3_beginRide F_X2_takeRide F_X4_useForRide F_X4_isStamped B_X4_useForRide_17
      repeat' with_reducible (first
          | (refine ⟨s_iH, ?_⟩)
          | (refine ⟨s_iP (by first | assumption | omega), ?_⟩)
          | (refine ⟨s_iT (by first | assumption | omega), ?_⟩)
          | (refine ⟨s_iC (by first | assumption | omega), ?_⟩)
          | (refine ⟨_, s_r8, ?_⟩)
          | (refine ⟨_, s_r9, ?_⟩)
          | (refine ⟨_, s_r10, ?_⟩)
          | (refine ⟨_, s_r11, ?_⟩)
          | (refine s_aP (by first | assumption | omega | solve_by_elim) ?_)
          | (refine s_aT (by first | assumption | omega | solve_by_elim) ?_)
          | (refine s_aC (by first | assumption | omega | solve_by_elim) ?_)
          | (refine ⟨_, s_getH (by omega), ?_⟩)
          | (refine ⟨_, s_getP (k := 0) (by first | assumption | omega) (by omega), ?_⟩)
          | (refine ⟨_, s_getP (k := 1) (by first | assumption | omega) (by omega), ?_⟩)
          | (refine ⟨_, s_getP (k := 2) (by first | assumption | omega) (by omega), ?_⟩)
          | (refine ⟨_, s_getP (k := 3) (by first | assumption | omega) (by omega), ?_⟩)
          | (refine ⟨_, s_getP (k := 4) (by first | assumption | omega) (by omega), ?_⟩)
          | (refine ⟨_, s_getP (k := 5) (by first | assumption | omega) (by omega), ?_⟩)
          | (refine ⟨_, s_getT (by first | assumption | omega) (by omega), ?_⟩)
          | (refine ⟨_, s_getC (by first | assumption | omega) (by omega), ?_⟩)
          | (refine ⟨_, s_nm (by first | assumption | omega), ?_⟩)
          | (refine s_putH (by omega) ?_)
          | (refine s_putN (by first | assumption | omega) ?_)
          | (refine s_putP (k := 0) (by first | assumption | omega) (by omega) ?_)
          | (refine s_putP (k := 1) (by first | assumption | omega) (by omega) ?_)
          | (refine s_putP (k := 2) (by first | assumption | omega) (by omega) ?_)
          | (refine s_putP (k := 3) (by first | assumption | omega) (by omega) ?_)
          | (refine s_putP (k := 4) (by first | assumption | omega) (by omega) ?_)
          | (refine s_putP (k := 5) (by first | assumption | omega) (by omega) ?_)
          | (refine s_putT (by first | assumption | omega) (by omega) ?_)
          | (refine s_putC (by first | assumption | omega) (by omega) ?_)
          | (rintro _ rfl)
          | (refine ⟨fun hc => ?_, fun hc => ?_⟩ <;> try first | contradiction | exact absurd hc one0)
          | fail)
      exact hr3
theorem zonesR_ext {g : Nat → Int32} : ∀ (n : Nat) (x st : Int32), 0 ≤ st.toInt → st.toInt + n ≤ 12 → (∀ j, j < 12 → g (9 + j) = f (9 + j)) → zonesR g n x st = zonesR f n x st := by
  intro n
  induction n with
  | zero => intros; rfl
  | succ n ih =>
    intro x st h1 h2 hg
    have e1 : (st + 1).toInt = st.toInt + 1 := by
      rw [ia _ _ (by rw [i_1]; omega) (by rw [i_1]; omega), i_1]
    rw [zonesR, zonesR, hg (cl st) (by rw [cl_eq]; omega), ih _ _ (by omega) (by omega) hg]
theorem zonesF_ext {g : Nat → Int32} {a c : Int32} (hg : ∀ j, j < 12 → g (9 + j) = f (9 + j)) (ha : vp_in a 12) (hc : vp_in c 12) : zonesF g a c = zonesF f a c := by
  have h1 := vp_in_iff.mp ha
  have h2 := vp_in_iff.mp hc
  have h3 := jmax_I a c
  have h4 := jmin_I a c
  exact zonesR_ext _ _ _ (by omega) (by rw [cl_eq, cl_eq]; omega) hg
/-- an inspection -/
def inspG (f : Nat → Int32) (p : Int32) : Nat → Int32 := upd (upd f 7 (f 7 + 1)) (21 + 13 * cl p + 5) 1
theorem inspG_out {p : Int32} {j : Nat} (h : j ≠ 7) (h2 : j ≠ 21 + 13 * cl p + 5) : inspG f p j = f j := by
  simp (disch := omega) only [inspG, upd_ne]
theorem inspectF_0 {p : Int32} (h : faultF f p = 0) : inspectF f p = inspG f p := by
  unfold inspectF
  simp only [h, if_true]
  rfl
theorem Rl_inspG {p : Int32} (hR : Rl hd zn pa tk cs f) (hB : Bd f) (hp : vp_in p (cl (f 2))) : Rl (upd hd 2 (hd 2 + 1)) zn (upd2 pa (cl p) 6 1) tk cs (inspG f p) := by
  have hB2 := clI hB.2.1
  have p1 := clI hp
  obtain ⟨e0, e1, e2, e3, e4, e5, e6, e7⟩ := hR.1
  have h1 : Rl (upd hd 2 (hd 2 + 1)) zn pa tk cs (upd f 7 (f 7 + 1)) := by
    refine hR.hr (fun j _ => upd_ne (by omega)) (upd_ne (by omega)) (upd_ne (by omega)) (upd_ne (by omega)) (upd_ne (by omega)) ?_
    simp (disch := omega) only [upd_ne, upd_eq]
    exact ⟨e0, e1, by rw [e2], e3, e4, e5, e6, e7⟩
  have hB' : Bd (upd f 7 (f 7 + 1)) := by
    unfold Bd
    rw [upd_ne (by omega), upd_ne (by omega), upd_ne (by omega), upd_ne (by omega)]
    exact hB
  refine h1.pr hB' (p := cl p) (by omega) (fun j hj => upd_ne (by omega)) (fun q hq => upd2_ne hq) ?_
  have h := hR.2.2.1 (cl p) p1.2
  unfold RP at h ⊢
  simp (disch := omega) only [inspG, upd_ne, upd_eq, upd2_eq]
  exact ⟨h.1, h.2.1, h.2.2.1, trivial, h.2.2.2.2⟩
theorem Rl_insp {p : Int32} (hR : Rl hd zn pa tk cs f) (hB : Bd f) (hD : Rd f) (hp : vp_in p (cl (f 2))) (hc : vp_in (f 4) 20) (hr : ¬ faultF f p = 0) (he : ¬ f (21 + 13 * cl p + 3) = -1) :
    Rl (upd (upd hd 2 (hd 2 + 1)) 7 (f 4 + 1)) zn (upd2 pa (cl p) 6 1) tk (upd2 (upd2 (upd2 (upd2 (upd2 (upd2 (upd2 cs (cl (f 4)) 0 p) (cl (f 4)) 1 (faultF f p)) (cl (f 4)) 2 (f 0)) (cl (f 4)) 3 (zonesF f (f (21 + 13 * cl p + 1)) (f (21 + 13 * cl p + 2)))) (cl (f 4)) 4 0) (cl (f 4)) 5 6000) (cl (f 4)) 6 (-1)) (inspectF f p) := by
  have hB1 := clI hB.1
  have hB2 := clI hB.2.1
  have p1 := clI hp
  have c1 := clI hc
  have c2 := cl_succ hc (by omega)
  have hd1 := hD.2 (cl p) p1.2 he
  have g4 : inspG f p 4 = f 4 := inspG_out (by omega) (by omega)
  have hB' : Bd (inspG f p) := by
    unfold Bd
    rw [inspG_out (by omega) (by omega), inspG_out (by omega) (by omega), inspG_out (by omega) (by omega), inspG_out (by omega) (by omega)]
    exact hB
  have hz : ∀ g : Nat → Int32, (∀ j, j < 12 → g (9 + j) = f (9 + j)) → g (21 + 13 * cl p + 1) = f (21 + 13 * cl p + 1) → g (21 + 13 * cl p + 2) = f (21 + 13 * cl p + 2) → zonesF g (g (21 + 13 * cl p + 1)) (g (21 + 13 * cl p + 2)) = zonesF f (f (21 + 13 * cl p + 1)) (f (21 + 13 * cl p + 2)) := fun g h1 h2 h3 => by
    rw [h2, h3]
    exact zonesF_ext h1 (vp_le hd1.1 (by omega)) (vp_le hd1.2.1 (by omega))
  have hi : inspectF f p = upd (upd (upd (upd (upd (upd (upd (upd (inspG f p) (305 + 7 * cl (f 4)) p) (305 + 7 * cl (f 4) + 1) (faultF f p)) (305 + 7 * cl (f 4) + 2) 0) (305 + 7 * cl (f 4) + 3) (f 0)) (305 + 7 * cl (f 4) + 4) 6000) (305 + 7 * cl (f 4) + 5) (-1)) (305 + 7 * cl (f 4) + 6) (zonesF f (f (21 + 13 * cl p + 1)) (f (21 + 13 * cl p + 2)))) 4 (f 4 + 1) := by
    unfold inspectF
    simp only [if_neg hr]
    rw [hz _ (fun j hj => by simp (disch := omega) only [upd_ne]) (by simp (disch := omega) only [upd_ne]) (by simp (disch := omega) only [upd_ne])]
    simp (disch := omega) only [inspG, upd_ne, upd_eq]
  rw [hi]
  refine (Rl_inspG hR hB hp).cn hB' (p := cl (f 4)) (by rw [g4]) (by rw [upd_eq]; exact c2.1) (fun j h1 h2 => by simp (disch := omega) only [upd_ne]) (fun q hq => by simp only [upd2_ne hq]) ?_ (fun k hk => upd_ne (by omega)) (by rw [upd_eq, upd_eq])
  unfold RC
  simp (disch := omega) only [upd_ne, upd_eq, upd2_eq]
  exact ⟨trivial, trivial, trivial, trivial, trivial, trivial, trivial⟩
theorem c_inspectRide {p : Int32} (hB : Bd f) (hR : Rl hd zn pa tk cs f) (hD : Rd f) (hp : vp_in p (cl (f 2))) (hc : vp_in (f 4) 20) (hq : ∀ hd' pa' cs', Rl hd' zn pa' tk cs' (inspectF f p) → Q (faultF f p) (sw w b hd' zn nm pa' tk cs') z) : F_X3_inspectRide b p (sw w b hd zn nm pa tk cs) z Q := by
  have hB1 := clI hB.1
  have hB2 := clI hB.2.1
  have p1 := clI hp
  have p2 := vp_le (m := 8) hp (by omega)
  have c1 := clI hc
  obtain ⟨e0, e1, e2, e3, e4, e5, e6, e7⟩ := hR.1
  by_cases hr : faultF f p = 0
  · have h := Rl_inspG hR hB hp
    rw [← inspectF_0 hr] at h
    have h := hq _ _ _ h
    unfold F_X3_inspectRide
    repeat' with_reducible (first
        | (refine ⟨s_iH, ?_⟩)
        | (refine ⟨s_iP (by first | assumption | omega), ?_⟩)
        | (refine ⟨s_iT (by first | assumption | omega), ?_⟩)
        | (refine ⟨s_iC (by first | assumption | omega), ?_⟩)
        | (refine ⟨_, s_r8, ?_⟩)
        | (refine ⟨_, s_r9, ?_⟩)
        | (refine ⟨_, s_r10, ?_⟩)
        | (refine ⟨_, s_r11, ?_⟩)
        | (refine s_aP (by first | assumption | omega | solve_by_elim) ?_)
        | (refine s_aT (by first | assumption | omega | solve_by_elim) ?_)
        | (refine s_aC (by first | assumption | omega | solve_by_elim) ?_)
        | (refine ⟨_, s_getH (by omega), ?_⟩)
        | (refine ⟨_, s_getP (k := 0) (by first | assumption | omega) (by omega), ?_⟩)
        | (refine ⟨_, s_getP (k := 1) (by first | assumption | omega) (by omega), ?_⟩)
        | (refine ⟨_, s_getP (k := 2) (by first | assumption | omega) (by omega), ?_⟩)
        | (refine ⟨_, s_getP (k := 3) (by first | assumption | omega) (by omega), ?_⟩)
        | (refine ⟨_, s_getP (k := 4) (by first | assumption | omega) (by omega), ?_⟩)
        | (refine ⟨_, s_getP (k := 5) (by first | assumption | omega) (by omega), ?_⟩)
        | (refine ⟨_, s_getT (by first | assumption | omega) (by omega), ?_⟩)
        | (refine ⟨_, s_getC (by first | assumption | omega) (by omega), ?_⟩)
        | (refine ⟨_, s_nm (by first | assumption | omega), ?_⟩)
        | (refine s_putH (by omega) ?_)
        | (refine s_putN (by first | assumption | omega) ?_)
        | (refine s_putP (k := 0) (by first | assumption | omega) (by omega) ?_)
        | (refine s_putP (k := 1) (by first | assumption | omega) (by omega) ?_)
        | (refine s_putP (k := 2) (by first | assumption | omega) (by omega) ?_)
        | (refine s_putP (k := 3) (by first | assumption | omega) (by omega) ?_)
        | (refine s_putP (k := 4) (by first | assumption | omega) (by omega) ?_)
        | (refine s_putP (k := 5) (by first | assumption | omega) (by omega) ?_)
        | (refine s_putT (by first | assumption | omega) (by omega) ?_)
        | (refine s_putC (by first | assumption | omega) (by omega) ?_)
        | (refine c_findFault hB hR hp hD ?_)
        | (rintro _ rfl)
        | (refine ⟨fun hc => ?_, fun hc => ?_⟩ <;> try first | contradiction | exact absurd hc one0)
        | fail)
    exact h
  · have he : ¬ f (21 + 13 * cl p + 3) = -1 := fun he => hr (by
      unfold faultF
      simp only [he, if_true])
    have h := hq _ _ _ (Rl_insp hR hB hD hp hc hr he)
    have hd1 := hD.2 (cl p) p1.2 he
    have hw := (hR.2.2.1 (cl p) p1.2).2.2.2.2.2 he
    have c3 : vp_in (hd 7) 20 := by
      rw [e7]
      exact hc
    have c4 : cl (hd 7) < 20 := by
      rw [e7]
      exact c1.2
    have z1 := hd1.1
    have z2 := hd1.2.1
    rw [← hw.1, ← hw.2, ← e7, ← e0] at h
    rw [← hw.1] at z1
    rw [← hw.2] at z2
    have hz1 := hR.2.1
    unfold F_X3_inspectRide F_X0_open
    repeat' with_reducible (first
        | (refine ⟨s_iH, ?_⟩)
        | (refine ⟨s_iP (by first | assumption | omega), ?_⟩)
        | (refine ⟨s_iT (by first | assumption | omega), ?_⟩)
        | (refine ⟨s_iC (by first | assumption | omega), ?_⟩)
        | (refine ⟨_, s_r8, ?_⟩)
        | (refine ⟨_, s_r9, ?_⟩)
        | (refine ⟨_, s_r10, ?_⟩)
        | (refine ⟨_, s_r11, ?_⟩)
        | (refine s_aP (by first | assumption | omega | solve_by_elim) ?_)
        | (refine s_aT (by first | assumption | omega | solve_by_elim) ?_)
        | (refine s_aC (by first | assumption | omega | solve_by_elim) ?_)
        | (refine ⟨_, s_getH (by omega), ?_⟩)
        | (refine ⟨_, s_getP (k := 0) (by first | assumption | omega) (by omega), ?_⟩)
        | (refine ⟨_, s_getP (k := 1) (by first | assumption | omega) (by omega), ?_⟩)
        | (refine ⟨_, s_getP (k := 2) (by first | assumption | omega) (by omega), ?_⟩)
        | (refine ⟨_, s_getP (k := 3) (by first | assumption | omega) (by omega), ?_⟩)
        | (refine ⟨_, s_getP (k := 4) (by first | assumption | omega) (by omega), ?_⟩)
        | (refine ⟨_, s_getP (k := 5) (by first | assumption | omega) (by omega), ?_⟩)
        | (refine ⟨_, s_getT (by first | assumption | omega) (by omega), ?_⟩)
        | (refine ⟨_, s_getC (by first | assumption | omega) (by omega), ?_⟩)
        | (refine ⟨_, s_nm (by first | assumption | omega), ?_⟩)
        | (refine s_putH (by omega) ?_)
        | (refine s_putN (by first | assumption | omega) ?_)
        | (refine s_putP (k := 0) (by first | assumption | omega) (by omega) ?_)
        | (refine s_putP (k := 1) (by first | assumption | omega) (by omega) ?_)
        | (refine s_putP (k := 2) (by first | assumption | omega) (by omega) ?_)
        | (refine s_putP (k := 3) (by first | assumption | omega) (by omega) ?_)
        | (refine s_putP (k := 4) (by first | assumption | omega) (by omega) ?_)
        | (refine s_putP (k := 5) (by first | assumption | omega) (by omega) ?_)
        | (refine s_putT (by first | assumption | omega) (by omega) ?_)
        | (refine s_putC (by first | assumption | omega) (by omega) ?_)
        | (refine c_findFault hB hR hp hD ?_)
        | (refine c_zones hz1 (by omega) (by assumption) (by assumption) ?_)
        | (simp (disch := omega) only [upd2_eq, upd_ne])
        | (rintro _ rfl)
        | (refine ⟨fun hc => ?_, fun hc => ?_⟩ <;> try first | contradiction | exact absurd hc one0)
        | fail)
    exact h
/-- an appeal -/
theorem Rl_appeal {c t : Int32} (hB : Bd f) (hR : Rl hd zn pa tk cs f) (hc : vp_in c (cl (f 4))) : Rl hd zn pa tk (upd2 (upd2 cs (cl c) 4 1) (cl c) 6 t) (appealF f c t) := by
  have hB4 := clI hB.2.2.2
  have c1 := clI hc
  refine hR.cr hB (p := cl c) (fun j hj => by simp (disch := omega) only [appealF, upd_ne]) (fun q hq => by rw [upd2_ne hq, upd2_ne hq]) ?_
  have h := hR.2.2.2.2 (cl c) c1.2
  unfold RC at h ⊢
  simp (disch := omega) only [appealF, upd_ne, upd_eq, upd2_eq]
  exact ⟨h.1, h.2.1, h.2.2.1, h.2.2.2.1, trivial, h.2.2.2.2.2.1, trivial⟩
theorem c_beginAppeal_25 {a1 a2 : Int32} (hB : Bd f) (hR : Rl hd zn pa tk cs f) : ∀ (n : Nat) (x c : Int32), (f 4).toInt = c.toInt + n → 0 ≤ c.toInt → Q (cntA f n x c) (sw w b hd zn nm pa tk cs) z → B_X3_beginAppeal_25 b a1 a2 Q (n + 1) x c (sw w b hd zn nm pa tk cs) z := by
  have hB4 := clI hB.2.2.2
  have e7 : hd 7 = f 4 := hR.1.2.2.2.2.2.2.2
  intro n
  induction n with
  | zero =>
    intro x c h1 h2 hq
    unfold B_X3_beginAppeal_25
    refine ⟨_, s_getH (by omega), fun _ => hq, fun hc => absurd (ile.mpr ?_) hc⟩
    rw [e7]
    omega
  | succ n ih =>
    intro x c h1 h2 hq
    unfold B_X3_beginAppeal_25 B_X3_beginAppeal_54
    refine ⟨_, s_getH (by omega), fun hc => absurd (ile.mp hc) (by rw [e7]; omega), fun hc => ?_⟩
    have hv : vp_in c 20 := vp_in_iff.mpr (by omega)
    have hi := clI hv
    have h5 := cl_succ hv (by omega)
    have e : cs (cl c) 4 = f (305 + 7 * cl c + 2) := (hR.2.2.2.2 (cl c) (by omega)).2.2.2.2.1
    rw [cntA] at hq
    refine ⟨_, s_r11, s_aC hv ⟨_, s_getC hi.2 (by omega), fun hc => ?_, fun hc => ?_⟩⟩
    · rintro _ rfl
      rw [e] at hc
      rw [if_neg hc] at hq
      rw [Int32.add_zero]
      exact ih _ _ (by omega) (by omega) hq
    · rintro _ rfl
      rw [e] at hc
      rw [if_pos hc] at hq
      exact ih _ _ (by omega) (by omega) hq
theorem appealF_out {c t : Int32} {j : Nat} (h : j < 305) : appealF f c t j = f j := by
  simp (disch := omega) only [appealF, upd_ne]
theorem c_beginAppeal {c t : Int32} (hB : Bd f) (hR : Rl hd zn pa tk cs f) (hc : vp_in c (cl (f 4))) (hq : ∀ cs', Rl hd zn pa tk cs' (appealF f c t) → Q (cntA (appealF f c t) (cl (f 4)) 0 0) (sw w b hd zn nm pa tk cs') z) : F_X3_beginAppeal b c t (sw w b hd zn nm pa tk cs) z Q := by
  have hB4 := clI hB.2.2.2
  have c1 := clI hc
  have c2 := vp_le (m := 20) hc (by omega)
  have hr := Rl_appeal (t := t) hB hR hc
  have hB' : Bd (appealF f c t) := by
    unfold Bd
    rw [appealF_out (by omega), appealF_out (by omega), appealF_out (by omega), appealF_out (by omega)]
    exact hB
  have h := hq _ hr
  unfold F_X3_beginAppeal
  repeat' with_reducible (first
      | (refine ⟨s_iH, ?_⟩)
      | (refine ⟨s_iP (by first | assumption | omega), ?_⟩)
      | (refine ⟨s_iT (by first | assumption | omega), ?_⟩)
      | (refine ⟨s_iC (by first | assumption | omega), ?_⟩)
      | (refine ⟨_, s_r8, ?_⟩)
      | (refine ⟨_, s_r9, ?_⟩)
      | (refine ⟨_, s_r10, ?_⟩)
      | (refine ⟨_, s_r11, ?_⟩)
      | (refine s_aP (by first | assumption | omega | solve_by_elim) ?_)
      | (refine s_aT (by first | assumption | omega | solve_by_elim) ?_)
      | (refine s_aC (by first | assumption | omega | solve_by_elim) ?_)
      | (refine ⟨_, s_getH (by omega), ?_⟩)
      | (refine ⟨_, s_getP (k := 0) (by first | assumption | omega) (by omega), ?_⟩)
      | (refine ⟨_, s_getP (k := 1) (by first | assumption | omega) (by omega), ?_⟩)
      | (refine ⟨_, s_getP (k := 2) (by first | assumption | omega) (by omega), ?_⟩)
      | (refine ⟨_, s_getP (k := 3) (by first | assumption | omega) (by omega), ?_⟩)
      | (refine ⟨_, s_getP (k := 4) (by first | assumption | omega) (by omega), ?_⟩)
      | (refine ⟨_, s_getP (k := 5) (by first | assumption | omega) (by omega), ?_⟩)
      | (refine ⟨_, s_getT (by first | assumption | omega) (by omega), ?_⟩)
      | (refine ⟨_, s_getC (by first | assumption | omega) (by omega), ?_⟩)
      | (refine ⟨_, s_nm (by first | assumption | omega), ?_⟩)
      | (refine s_putH (by omega) ?_)
      | (refine s_putN (by first | assumption | omega) ?_)
      | (refine s_putP (k := 0) (by first | assumption | omega) (by omega) ?_)
      | (refine s_putP (k := 1) (by first | assumption | omega) (by omega) ?_)
      | (refine s_putP (k := 2) (by first | assumption | omega) (by omega) ?_)
      | (refine s_putP (k := 3) (by first | assumption | omega) (by omega) ?_)
      | (refine s_putP (k := 4) (by first | assumption | omega) (by omega) ?_)
      | (refine s_putP (k := 5) (by first | assumption | omega) (by omega) ?_)
      | (refine s_putT (by first | assumption | omega) (by omega) ?_)
      | (refine s_putC (by first | assumption | omega) (by omega) ?_)
      | (rintro _ rfl)
      | (refine ⟨cl (f 4) + 1, c_beginAppeal_25 hB' hr _ _ _ (by rw [appealF_out (by omega), i_0]; omega) (by rw [i_0]; omega) ?_⟩)
      | (refine ⟨fun hc => ?_, fun hc => ?_⟩ <;> try first | contradiction | exact absurd hc one0)
      | fail)
  exact h
/-- a decision -/
theorem decideF_out {c : Int32} {j : Nat} (h : j < 305 + 7 * cl c ∨ 305 + 7 * cl c + 7 ≤ j) : decideF f c j = f j := by
  unfold decideF
  try simp only
  split <;> simp (disch := omega) only [upd_ne]
theorem c_decideAppeal {c : Int32} (hB : Bd f) (hR : Rl hd zn pa tk cs f) (hc : vp_in c (cl (f 4))) (ht : vp_in (f (305 + 7 * cl c + 5)) (cl (f 3))) (hq : ∀ cs', Rl hd zn pa tk cs' (decideF f c) → Q (judgedF f c (f (305 + 7 * cl c + 5))) (sw w b hd zn nm pa tk cs') z) : F_X3_decideAppeal b c (sw w b hd zn nm pa tk cs) z Q := by
  have hB3 := clI hB.2.2.1
  have hB4 := clI hB.2.2.2
  have c1 := clI hc
  have c2 := vp_le (m := 20) hc (by omega)
  have h := hR.2.2.2.2 (cl c) c1.2
  have e6 : cs (cl c) 6 = f (305 + 7 * cl c + 5) := h.2.2.2.2.2.2
  by_cases hj : judgedF f c (f (305 + 7 * cl c + 5)) = 2
  · have hr : Rl hd zn pa tk (upd2 (upd2 cs (cl c) 4 2) (cl c) 5 700) (decideF f c) := by
      refine hR.cr hB (p := cl c) (fun j hj => decideF_out hj) (fun q hq => by rw [upd2_ne hq, upd2_ne hq]) ?_
      unfold RC at h ⊢
      unfold decideF
      simp only [hj, if_true]
      simp (disch := omega) only [upd_ne, upd_eq, upd2_eq]
      exact ⟨h.1, h.2.1, h.2.2.1, h.2.2.2.1, trivial, trivial, h.2.2.2.2.2.2⟩
    have h1 := hq _ hr
    rw [hj] at h1
    unfold F_X3_decideAppeal
    repeat' with_reducible (first
        | (refine ⟨s_iH, ?_⟩)
        | (refine ⟨s_iP (by first | assumption | omega), ?_⟩)
        | (refine ⟨s_iT (by first | assumption | omega), ?_⟩)
        | (refine ⟨s_iC (by first | assumption | omega), ?_⟩)
        | (refine ⟨_, s_r8, ?_⟩)
        | (refine ⟨_, s_r9, ?_⟩)
        | (refine ⟨_, s_r10, ?_⟩)
        | (refine ⟨_, s_r11, ?_⟩)
        | (refine s_aP (by first | assumption | omega | solve_by_elim) ?_)
        | (refine s_aT (by first | assumption | omega | solve_by_elim) ?_)
        | (refine s_aC (by first | assumption | omega | solve_by_elim) ?_)
        | (refine ⟨_, s_getH (by omega), ?_⟩)
        | (refine ⟨_, s_getP (k := 0) (by first | assumption | omega) (by omega), ?_⟩)
        | (refine ⟨_, s_getP (k := 1) (by first | assumption | omega) (by omega), ?_⟩)
        | (refine ⟨_, s_getP (k := 2) (by first | assumption | omega) (by omega), ?_⟩)
        | (refine ⟨_, s_getP (k := 3) (by first | assumption | omega) (by omega), ?_⟩)
        | (refine ⟨_, s_getP (k := 4) (by first | assumption | omega) (by omega), ?_⟩)
        | (refine ⟨_, s_getP (k := 5) (by first | assumption | omega) (by omega), ?_⟩)
        | (refine ⟨_, s_getT (by first | assumption | omega) (by omega), ?_⟩)
        | (refine ⟨_, s_getC (by first | assumption | omega) (by omega), ?_⟩)
        | (refine ⟨_, s_nm (by first | assumption | omega), ?_⟩)
        | (refine s_putH (by omega) ?_)
        | (refine s_putN (by first | assumption | omega) ?_)
        | (refine s_putP (k := 0) (by first | assumption | omega) (by omega) ?_)
        | (refine s_putP (k := 1) (by first | assumption | omega) (by omega) ?_)
        | (refine s_putP (k := 2) (by first | assumption | omega) (by omega) ?_)
        | (refine s_putP (k := 3) (by first | assumption | omega) (by omega) ?_)
        | (refine s_putP (k := 4) (by first | assumption | omega) (by omega) ?_)
        | (refine s_putP (k := 5) (by first | assumption | omega) (by omega) ?_)
        | (refine s_putT (by first | assumption | omega) (by omega) ?_)
        | (refine s_putC (by first | assumption | omega) (by omega) ?_)
        | (refine c_decisionFor hB hR hc (t := cs (cl c) 6) (by rw [e6]; exact ht) ?_)
        | (rw [e6, hj])
        | (simp (disch := omega) only [upd2_eq, upd_eq, upd_ne])
        | (rintro _ rfl)
        | (refine ⟨fun hc => ?_, fun hc => ?_⟩ <;> try first | contradiction | exact absurd hc one0)
        | fail)
    all_goals first
      | exact h1
      | contradiction
      | simp_all
  · have hr : Rl hd zn pa tk (upd2 (upd2 cs (cl c) 4 (judgedF f c (f (305 + 7 * cl c + 5)))) (cl c) 5 (cs (cl c) 5 + 500)) (decideF f c) := by
      refine hR.cr hB (p := cl c) (fun j hj => decideF_out hj) (fun q hq => by rw [upd2_ne hq, upd2_ne hq]) ?_
      unfold RC at h ⊢
      unfold decideF
      simp only [hj, if_false]
      simp (disch := omega) only [upd_ne, upd_eq, upd2_eq]
      exact ⟨h.1, h.2.1, h.2.2.1, h.2.2.2.1, trivial, by rw [h.2.2.2.2.2.1], h.2.2.2.2.2.2⟩
    have h1 := hq _ hr
    generalize hjj : judgedF f c (f (305 + 7 * cl c + 5)) = jj at hj h1
    unfold F_X3_decideAppeal
    repeat' with_reducible (first
        | (refine ⟨s_iH, ?_⟩)
        | (refine ⟨s_iP (by first | assumption | omega), ?_⟩)
        | (refine ⟨s_iT (by first | assumption | omega), ?_⟩)
        | (refine ⟨s_iC (by first | assumption | omega), ?_⟩)
        | (refine ⟨_, s_r8, ?_⟩)
        | (refine ⟨_, s_r9, ?_⟩)
        | (refine ⟨_, s_r10, ?_⟩)
        | (refine ⟨_, s_r11, ?_⟩)
        | (refine s_aP (by first | assumption | omega | solve_by_elim) ?_)
        | (refine s_aT (by first | assumption | omega | solve_by_elim) ?_)
        | (refine s_aC (by first | assumption | omega | solve_by_elim) ?_)
        | (refine ⟨_, s_getH (by omega), ?_⟩)
        | (refine ⟨_, s_getP (k := 0) (by first | assumption | omega) (by omega), ?_⟩)
        | (refine ⟨_, s_getP (k := 1) (by first | assumption | omega) (by omega), ?_⟩)
        | (refine ⟨_, s_getP (k := 2) (by first | assumption | omega) (by omega), ?_⟩)
        | (refine ⟨_, s_getP (k := 3) (by first | assumption | omega) (by omega), ?_⟩)
        | (refine ⟨_, s_getP (k := 4) (by first | assumption | omega) (by omega), ?_⟩)
        | (refine ⟨_, s_getP (k := 5) (by first | assumption | omega) (by omega), ?_⟩)
        | (refine ⟨_, s_getT (by first | assumption | omega) (by omega), ?_⟩)
        | (refine ⟨_, s_getC (by first | assumption | omega) (by omega), ?_⟩)
        | (refine ⟨_, s_nm (by first | assumption | omega), ?_⟩)
        | (refine s_putH (by omega) ?_)
        | (refine s_putN (by first | assumption | omega) ?_)
        | (refine s_putP (k := 0) (by first | assumption | omega) (by omega) ?_)
        | (refine s_putP (k := 1) (by first | assumption | omega) (by omega) ?_)
        | (refine s_putP (k := 2) (by first | assumption | omega) (by omega) ?_)
        | (refine s_putP (k := 3) (by first | assumption | omega) (by omega) ?_)
        | (refine s_putP (k := 4) (by first | assumption | omega) (by omega) ?_)
        | (refine s_putP (k := 5) (by first | assumption | omega) (by omega) ?_)
        | (refine s_putT (by first | assumption | omega) (by omega) ?_)
        | (refine s_putC (by first | assumption | omega) (by omega) ?_)
        | (refine c_decisionFor hB hR hc (t := cs (cl c) 6) (by rw [e6]; exact ht) ?_)
        | (rw [e6, hjj])
        | (simp (disch := omega) only [upd2_eq, upd_eq, upd_ne])
        | (rintro _ rfl)
        | (refine ⟨fun hc => ?_, fun hc => ?_⟩ <;> try first | contradiction | exact absurd hc one0)
        | fail)
    all_goals first
      | exact h1
      | contradiction
      | simp_all
/-- a payment -/
theorem payF_out {c : Int32} {j : Nat} (h : j ≠ 21 + 13 * cl (f (305 + 7 * cl c))) (h1 : j ≠ 305 + 7 * cl c + 2) (h2 : j ≠ 6) : payF f c j = f j := by
  unfold payF
  simp (disch := omega) only [upd_ne]
theorem c_payCase {c : Int32} (hB : Bd f) (hR : Rl hd zn pa tk cs f) (hc : vp_in c (cl (f 4))) (hw : vp_in (f (305 + 7 * cl c)) (cl (f 2))) (hq : ∀ hd' pa' cs', Rl hd' zn pa' tk cs' (payF f c) → Q (dueF f c) (sw w b hd' zn nm pa' tk cs') z) : F_X3_payCase b c (sw w b hd zn nm pa tk cs) z Q := by
  have hB2 := clI hB.2.1
  have hB4 := clI hB.2.2.2
  have c1 := clI hc
  have c2 := vp_le (m := 20) hc (by omega)
  have w1 := clI hw
  have w2 := vp_le (m := 8) hw (by omega)
  obtain ⟨e0, e1, e2, e3, e4, e5, e6, e7⟩ := hR.1
  have h := hR.2.2.2.2 (cl c) c1.2
  have hp := hR.2.2.1 _ w1.2
  have ec : cs (cl c) 0 = f (305 + 7 * cl c) := h.1
  generalize hu : f (305 + 7 * cl c) = u at *
  have r1 : Rl hd zn (upd2 pa (cl u) 1 (pa (cl u) 1 - dueF f c)) tk cs (upd f (21 + 13 * cl u) (f (21 + 13 * cl u) - dueF f c)) := by
    refine hR.pr hB (p := cl u) (by omega) (fun j hj => upd_ne (by omega)) (fun q hq => upd2_ne hq) ?_
    unfold RP at hp ⊢
    simp (disch := omega) only [upd_ne, upd_eq, upd2_eq]
    exact ⟨by rw [hp.1], hp.2⟩
  have hB1 : Bd (upd f (21 + 13 * cl u) (f (21 + 13 * cl u) - dueF f c)) := by
    unfold Bd
    simp (disch := omega) only [upd_ne]
    exact hB
  have r2 : Rl hd zn (upd2 pa (cl u) 1 (pa (cl u) 1 - dueF f c)) tk (upd2 cs (cl c) 4 4) (upd (upd f (21 + 13 * cl u) (f (21 + 13 * cl u) - dueF f c)) (305 + 7 * cl c + 2) 4) := by
    refine r1.cr hB1 (p := cl c) (fun j hj => upd_ne (by omega)) (fun q hq => upd2_ne hq) ?_
    have h' := r1.2.2.2.2 (cl c) (by rw [upd_ne (by omega)]; exact c1.2)
    unfold RC at h' ⊢
    simp (disch := omega) only [upd_ne, upd_eq, upd2_eq] at h' ⊢
    exact ⟨h'.1, h'.2.1, h'.2.2.1, h'.2.2.2.1, trivial, h'.2.2.2.2.2⟩
  have r3 : Rl (upd hd 1 (hd 1 + dueF f c)) zn (upd2 pa (cl u) 1 (pa (cl u) 1 - dueF f c)) tk (upd2 cs (cl c) 4 4) (payF f c) := by
    have hf : payF f c = upd (upd (upd f (21 + 13 * cl u) (f (21 + 13 * cl u) - dueF f c)) (305 + 7 * cl c + 2) 4) 6 (f 6 + dueF f c) := by
      unfold payF
      rw [hu]
      simp (disch := omega) only [upd_ne]
    rw [hf]
    refine r2.hr (fun j _ => upd_ne (by omega)) (upd_ne (by omega)) (upd_ne (by omega)) (upd_ne (by omega)) (upd_ne (by omega)) ?_
    simp (disch := omega) only [upd_ne, upd_eq]
    exact ⟨e0, by rw [e1], e2, e3, e4, e5, e6, e7⟩
  have h1 := hq _ _ _ r3
  unfold F_X3_payCase
  repeat' with_reducible (first
      | (refine ⟨_, gH0 hR, ?_⟩)
      | (refine ⟨s_iH, ?_⟩)
      | (refine ⟨s_iP (by first | assumption | omega), ?_⟩)
      | (refine ⟨s_iT (by first | assumption | omega), ?_⟩)
      | (refine ⟨s_iC (by first | assumption | omega), ?_⟩)
      | (refine ⟨_, s_r8, ?_⟩)
      | (refine ⟨_, s_r9, ?_⟩)
      | (refine ⟨_, s_r10, ?_⟩)
      | (refine ⟨_, s_r11, ?_⟩)
      | (refine s_aP (by first | assumption | omega | solve_by_elim) ?_)
      | (refine s_aT (by first | assumption | omega | solve_by_elim) ?_)
      | (refine s_aC (by first | assumption | omega | solve_by_elim) ?_)
      | (refine ⟨_, s_getH (by omega), ?_⟩)
      | (refine ⟨_, s_getP (k := 0) (by first | assumption | omega) (by omega), ?_⟩)
      | (refine ⟨_, s_getP (k := 1) (by first | assumption | omega) (by omega), ?_⟩)
      | (refine ⟨_, s_getP (k := 2) (by first | assumption | omega) (by omega), ?_⟩)
      | (refine ⟨_, s_getP (k := 3) (by first | assumption | omega) (by omega), ?_⟩)
      | (refine ⟨_, s_getP (k := 4) (by first | assumption | omega) (by omega), ?_⟩)
      | (refine ⟨_, s_getP (k := 5) (by first | assumption | omega) (by omega), ?_⟩)
      | (refine ⟨_, s_getT (by first | assumption | omega) (by omega), ?_⟩)
      | (refine ⟨_, s_getC (by first | assumption | omega) (by omega), ?_⟩)
      | (refine ⟨_, s_nm (by first | assumption | omega), ?_⟩)
      | (refine s_putH (by omega) ?_)
      | (refine s_putN (by first | assumption | omega) ?_)
      | (refine s_putP (k := 0) (by first | assumption | omega) (by omega) ?_)
      | (refine s_putP (k := 1) (by first | assumption | omega) (by omega) ?_)
      | (refine s_putP (k := 2) (by first | assumption | omega) (by omega) ?_)
      | (refine s_putP (k := 3) (by first | assumption | omega) (by omega) ?_)
      | (refine s_putP (k := 4) (by first | assumption | omega) (by omega) ?_)
      | (refine s_putP (k := 5) (by first | assumption | omega) (by omega) ?_)
      | (refine s_putT (by first | assumption | omega) (by omega) ?_)
      | (refine s_putC (by first | assumption | omega) (by omega) ?_)
      | (refine c_costAt hB hR hc ?_)
      | (rw [ec])
      | (rintro _ rfl)
      | (refine ⟨fun hc => ?_, fun hc => ?_⟩ <;> try first | contradiction | exact absurd hc one0)
      | fail)
  all_goals exact h1
end
