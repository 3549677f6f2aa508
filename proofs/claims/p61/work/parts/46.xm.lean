section
variable {w w' w'' : Mm} {x z mc ms b : Nat} {Q : Int32 → Mm → Nat → Prop} {R : Mm → Nat → Prop} {X : String → Mm → Nat → Prop} {T : Mm → Prop} {f f' : Nat → Int32} {Fz Fz' : Nat → Prop} {g g' : Nat → Int32} {A A' : Nat → Nat → Int32}
theorem CS.inspect {p : Int32} (h : CS w x Fz g A) (hz : FzO x Fz) (hm : 10 ≤ mc) (hs : 100 ≤ ms)
    (hok : vp_in p (cl (A 1 2)) → ¬ mayInspectF (A 1) p = 0 → ∀ w', CS w' x Fz (remG g) (updA (remA g A (A 1)) 1 (inspectF (A 1) p)) → FrS x w w' → Q (faultF (A 1) p) w' z)
    (h1 : ¬ vp_in p (cl (A 1 2)) → ∀ z1, z ≤ z1 → X "java/lang/IndexOutOfBoundsException" w z1)
    (h2 : vp_in p (cl (A 1 2)) → mayInspectF (A 1) p = 0 → ∀ z1, z ≤ z1 → X "java/lang/IllegalStateException" w z1) : F_X5_inspect x p w z mc ms Q X := by
  refine ⟨h.is0, 1, 6, by omega, by omega, h.reqPassenger (by omega) (by omega) (fun hp => ⟨_, h.f0, h.is1, h.F1.canInspect h.I1 hp ⟨fun hb => ⟨h.is0, h.keep hz (fun w' h' hf => ?_)⟩, fun hb => ⟨by omega, by omega, h2 hp hb⟩⟩⟩) h1⟩
  have hF := h'.F1
  have hI := h'.I1
  rw [remA_1] at hF hI
  have hc : vp_in (A 1 4) 20 := by
    have hB3 := vp_in_iff.mp hI.2.1.2.2.2
    have i30 : (20 : Int32).toInt = 20 := by decide
    have : ¬ 20 ≤ A 1 4 := fun h => hb (by
      unfold mayInspectF
      rw [if_pos h]
      split
      · rfl
      · split <;> rfl)
    have : ¬ (20 : Int32).toInt ≤ (A 1 4).toInt := fun h => this (ile.mpr h)
    exact vp_in_iff.mpr (by omega)
  refine ⟨_, h'.f0, h'.is1, hF.insp hz.p hI hp hc (fun w'' h5 h6 => ?_)⟩
  obtain ⟨h7, h8⟩ := h'.pr hz h5 (hI.insp hp hc) h6
  exact hok hp hb w'' h7 (hf.trans h8)
theorem CS.appeal {c t : Int32} (h : CS w x Fz g A) (hz : FzO x Fz) (hm : 10 ≤ mc) (hs : 100 ≤ ms)
    (hok : vp_in c (cl (A 1 4)) → vp_in t (cl (A 1 3)) → ¬ mayAppealF (A 1) c = 0 → ∀ w', CS w' x Fz (remG g) (updA (remA g A (A 1)) 1 (appealF (A 1) c t)) → FrS x w w' → Q (cntA (appealF (A 1) c t) (cl (A 1 4)) 0 0) w' z)
    (h1 : ¬ (vp_in c (cl (A 1 4)) ∧ vp_in t (cl (A 1 3))) → ∀ z1, z ≤ z1 → X "java/lang/IndexOutOfBoundsException" w z1)
    (h2 : vp_in c (cl (A 1 4)) → vp_in t (cl (A 1 3)) → mayAppealF (A 1) c = 0 → ∀ z1, z ≤ z1 → X "java/lang/IllegalStateException" w z1) : F_X5_appeal x c t w z mc ms Q X := by
  refine ⟨h.is0, 1, 6, by omega, by omega, h.reqCase (by omega) (by omega) (fun hp => ⟨h.is0, 1, 6, by omega, by omega, h.reqTicket (by omega) (by omega) (fun ht => ⟨_, h.f0, h.is1, h.F1.canAppeal h.I1 hp ⟨fun hb => ⟨h.is0, h.keep hz (fun w' h' hf => ?_)⟩, fun hb => ⟨by omega, by omega, h2 hp ht hb⟩⟩⟩) (fun hn => h1 (fun hh => hn hh.2))⟩) (fun hn => h1 (fun hh => hn hh.1))⟩
  have hF := h'.F1
  have hI := h'.I1
  rw [remA_1] at hF hI
  have ho : A 1 (305 + 7 * cl c + 2) = 0 := by
    by_cases e : A 1 (305 + 7 * cl c + 2) = 0
    · exact e
    · exact absurd (by
        unfold mayAppealF
        rw [if_neg e]) hb
  refine ⟨_, h'.f0, h'.is1, hF.appeal hz.p hI hp (fun w'' h5 h6 => ?_)⟩
  obtain ⟨h7, h8⟩ := h'.pr hz h5 (hI.appeal hp ht ho) h6
  exact hok hp ht hb w'' h7 (hf.trans h8)
theorem CS.decide {c : Int32} (h : CS w x Fz g A) (hz : FzO x Fz) (hm : 10 ≤ mc) (hs : 100 ≤ ms)
    (hok : vp_in c (cl (A 1 4)) → A 1 (305 + 7 * cl c + 2) = 1 → ∀ w', CS w' x Fz (remG g) (updA (remA g A (A 1)) 1 (decideF (A 1) c)) → FrS x w w' → Q (judgedF (A 1) c (A 1 (305 + 7 * cl c + 5))) w' z)
    (h1 : ¬ vp_in c (cl (A 1 4)) → ∀ z1, z ≤ z1 → X "java/lang/IndexOutOfBoundsException" w z1)
    (h2 : vp_in c (cl (A 1 4)) → ¬ A 1 (305 + 7 * cl c + 2) = 1 → ∀ z1, z ≤ z1 → X "java/lang/IllegalStateException" w z1) : F_X5_decide x c w z mc ms Q X := by
  refine ⟨h.is0, 1, 6, by omega, by omega, h.reqCase (by omega) (by omega) (fun hp => ⟨_, h.f0, h.is1, h.F1.canDecide h.I1 hp ⟨fun hb => ⟨h.is0, h.keep hz (fun w' h' hf => ?_)⟩, fun hb => ⟨by omega, by omega, h2 hp (fun e => absurd hb (by rw [if_pos e]; decide))⟩⟩⟩) h1⟩
  have hF := h'.F1
  have hI := h'.I1
  rw [remA_1] at hF hI
  have ho : A 1 (305 + 7 * cl c + 2) = 1 := by
    by_cases e : A 1 (305 + 7 * cl c + 2) = 1
    · exact e
    · exact absurd (by rw [if_neg e]) hb
  have ht := (hI.2.2.2.2.2.1 _ (clI hp).2).2.2.1 ho
  refine ⟨_, h'.f0, h'.is1, hF.decide hz.p hI hp ht (fun w'' h5 h6 => ?_)⟩
  obtain ⟨h7, h8⟩ := h'.pr hz h5 (hI.decide hp ho) h6
  exact hok hp ho w'' h7 (hf.trans h8)
theorem CS.pay {c : Int32} (h : CS w x Fz g A) (hz : FzO x Fz) (hm : 10 ≤ mc) (hs : 100 ≤ ms)
    (hok : vp_in c (cl (A 1 4)) → ¬ mayPayF (A 1) c = 0 → ∀ w', CS w' x Fz (remG g) (updA (remA g A (A 1)) 1 (payF (A 1) c)) → FrS x w w' → Q (dueF (A 1) c) w' z)
    (h1 : ¬ vp_in c (cl (A 1 4)) → ∀ z1, z ≤ z1 → X "java/lang/IndexOutOfBoundsException" w z1)
    (h2 : vp_in c (cl (A 1 4)) → mayPayF (A 1) c = 0 → ∀ z1, z ≤ z1 → X "java/lang/IllegalStateException" w z1) : F_X5_pay x c w z mc ms Q X := by
  refine ⟨h.is0, 1, 6, by omega, by omega, h.reqCase (by omega) (by omega) (fun hp => ⟨_, h.f0, h.is1, h.F1.canPay h.I1 hp ⟨fun hb => ⟨h.is0, h.keep hz (fun w' h' hf => ?_)⟩, fun hb => ⟨by omega, by omega, h2 hp hb⟩⟩⟩) h1⟩
  have hF := h'.F1
  have hI := h'.I1
  rw [remA_1] at hF hI
  refine ⟨_, h'.f0, h'.is1, hF.pay hz.p hI hp (fun w'' h5 h6 => ?_)⟩
  obtain ⟨h7, h8⟩ := h'.pr hz h5 (hI.pay hp) h6
  exact hok hp hb w'' h7 (hf.trans h8)
theorem mayRide_1 {p t : Int32} (h : ¬ mayRideF f p t = 0) : (f (21 + 13 * cl p + 3)).toInt ≤ (f 0).toInt ∧ (¬ t = -1 → f (125 + 6 * cl t) = p) := by
  unfold mayRideF at h
  by_cases h1 : f (21 + 13 * cl p + 3) ≤ f 0
  · rw [if_neg (fun h => h h1)] at h
    refine ⟨ile.mp h1, fun ht => ?_⟩
    rw [if_neg ht] at h
    by_cases h2 : f (125 + 6 * cl t) = p
    · exact h2
    · rw [if_neg h2] at h
      exact absurd rfl h
  · rw [if_pos h1] at h
    exact absurd rfl h
theorem CS.ride {p a c t : Int32} (h : CS w x Fz g A) (hz : FzO x Fz) (hm : 10 ≤ mc) (hs : 100 ≤ ms)
    (hok : vp_in p (cl (A 1 2)) → vp_in a (cl (A 1 1)) → vp_in c (cl (A 1 1)) → (¬ t = -1 → vp_in t (cl (A 1 3))) → ¬ a = c → ¬ mayRideF (A 1) p t = 0 → ∀ w', CS w' x Fz (remG g) (updA (remA g A (A 1)) 1 (beginF (A 1) p a c t)) → FrS x w w' → Q (A 1 0 + 2 * jabs (c - a)) w' z)
    (h1 : ¬ (vp_in p (cl (A 1 2)) ∧ vp_in a (cl (A 1 1)) ∧ vp_in c (cl (A 1 1)) ∧ (¬ t = -1 → vp_in t (cl (A 1 3)))) → ∀ z1, z ≤ z1 → X "java/lang/IndexOutOfBoundsException" w z1)
    (h2 : vp_in p (cl (A 1 2)) → vp_in a (cl (A 1 1)) → vp_in c (cl (A 1 1)) → (¬ t = -1 → vp_in t (cl (A 1 3))) → a = c → ∀ z1, z ≤ z1 → X "java/lang/IllegalArgumentException" w z1)
    (h3 : vp_in p (cl (A 1 2)) → vp_in a (cl (A 1 1)) → vp_in c (cl (A 1 1)) → (¬ t = -1 → vp_in t (cl (A 1 3))) → ¬ a = c → mayRideF (A 1) p t = 0 → ∀ z1, z ≤ z1 → X "java/lang/IllegalStateException" w z1) : F_X5_ride x p a c t w z mc ms Q X := by
  have k27 : ∀ mc ms, 1 ≤ mc → 6 ≤ ms → vp_in p (cl (A 1 2)) → vp_in a (cl (A 1 1)) → vp_in c (cl (A 1 1)) → (¬ t = -1 → vp_in t (cl (A 1 3))) → B_X5_ride_27 x p a c t Q X w z mc ms := by
    intro mc ms hm hs hp ha hc ht
    refine ⟨fun hac => ⟨_, h.f0, h.is1, h.F1.canRide h.I1 hp ht ⟨fun hb => ⟨h.is0, h.keep hz (fun w' h' hf => ?_)⟩, fun hb => ⟨hm, hs, h3 hp ha hc ht (fun e => hac e.symm) hb⟩⟩⟩, fun hac => ⟨hm, hs, h2 hp ha hc ht hac.symm⟩⟩
    have hac' : ¬ a = c := fun e => hac e.symm
    have hF := h'.F1
    have hI := h'.I1
    rw [remA_1] at hF hI
    have hB1 := clI hI.2.1.1
    obtain ⟨m1, m2⟩ := mayRide_1 hb
    have hr := ride_end hI.1 (by omega) ha hc hac'
    have ht' : t = -1 ∨ vp_in t (cl (A 1 3)) := by
      by_cases e : t = -1
      · exact Or.inl e
      · exact Or.inr (ht e)
    have ht'' : t = -1 ∨ (vp_in t (cl (A 1 3)) ∧ A 1 (125 + 6 * cl t) = p) := by
      by_cases e : t = -1
      · exact Or.inl e
      · exact Or.inr ⟨ht e, m2 e⟩
    have hE : ¬ A 1 0 + 2 * jabs (c - a) = -1 := fun e => by
      have h1 := hI.1
      rw [e, i_m1] at hr
      omega
    refine ⟨_, h'.f0, h'.is1, hF.ride hz.p hI hp ht' hE (fun w'' h5 h6 => ?_)⟩
    obtain ⟨h7, h8⟩ := h'.pr hz h5 (hI.begin hp ha hc hac' ht'' m1) h6
    exact hok hp ha hc ht hac' hb w'' h7 (hf.trans h8)
  refine ⟨h.is0, 1, 6, by omega, by omega, h.reqPassenger (by omega) (by omega) (fun hp => ⟨h.is0, 1, 6, by omega, by omega, h.reqStop (by omega) (by omega) (fun ha => ⟨h.is0, 1, 6, by omega, by omega, h.reqStop (by omega) (by omega) (fun hc => ⟨fun ht => k27 _ _ (by omega) (by omega) hp ha hc (fun e => absurd ht e), fun ht => ⟨h.is0, 1, 6, by omega, by omega, h.reqTicket (by omega) (by omega) (fun ht2 => k27 _ _ (by omega) (by omega) hp ha hc (fun _ => ht2)) (fun hn => h1 (fun hh => hn (hh.2.2.2 ht)))⟩⟩) (fun hn => h1 (fun hh => hn hh.2.2.1))⟩) (fun hn => h1 (fun hh => hn hh.2.1))⟩) (fun hn => h1 (fun hh => hn hh.1))⟩
/-- the last change is undone -/
def undoG (g : Nat → Int32) : Nat → Int32 := upd g 5 (g 5 - 1)
def undoA (g : Nat → Int32) (A : Nat → Nat → Int32) : Nat → Nat → Int32 := updA A 1 (va_cpy (A 2) (A 1) (cl (g 5 - 1) * 445) 0 445)
theorem CS.undo (h : CS w x Fz g A) (hz : FzO x Fz) (hm : 10 ≤ mc) (hs : 100 ≤ ms)
    (hok : 1 ≤ (g 5).toInt → ∀ w', CS w' x Fz (undoG g) (undoA g A) → FrS x w w' → Q (g 5 - 1) w' z)
    (h1 : g 5 = 0 → ∀ z1, z ≤ z1 → X "java/lang/IllegalStateException" w z1) : F_X5_undo x w z mc ms Q X := by
  have h9 := vp_in_iff.mp h.2.1
  obtain ⟨a1, a2, a3, a4, ⟨a5, a5'⟩, a6⟩ := h
  refine ⟨_, fld_c a1 3, fun hc => ⟨_, fld_c a1 3, a1.put ?_⟩, fun hc => ⟨by omega, by omega, h1 (ieq.mpr ?_)⟩⟩
  · have c1 := ile.mp hc
    rw [i_1] at c1
    have e1 := i_pred a2
    have hv : vp_in (g 5 - 1) 8 := vp_in_iff.mpr (by omega)
    have ec := clI hv
    have ec9 := clI a2
    generalize hw1 : mset w x (.inl (9, [.ref (x + 1), .ref (x + 64), .ref (x + 127), .int (g 5 - 1), .ref (x + 128), .ref (x + 129), .ref (x + 130), .ref (x + 132)])) = w1
    have hw : ∀ q, q ≠ x → w1 q = w q := fun q q1 => by rw [← hw1, mset_ne q1]
    have hx1 : XO w1 x (g 5 - 1) := by
      unfold XO
      rw [← hw1, mset_eq]
    have hf1 : ∀ q, Fz q → w1 q = w q := fun q hq => hw q (by have := hz q hq; omega)
    have b3 : XH w1 x Fz (cl (g 5)) (A 2) := a3.to (a' := A 2) (by omega) (fun q hq => by
      rcases hq with hq | hq | hq
      · exact hw q (by omega)
      · exact hw q (by omega)
      · exact hf1 q hq) (fun _ h => h) (fun _ _ => rfl)
    have b4 : XV w1 x Fz (A 5) (A 3) := a4.to (fun q hq => by
      rcases hq with hq | hq | hq | hq
      · exact hw q (by omega)
      · exact hw q (by omega)
      · exact hw q (by omega)
      · exact hf1 q hq) (fun _ h => h)
    have b5 : HasF w1 (x + 1) Fz (A 1) := a5.to (fun q hq => by
      rcases hq with hq | hq
      · exact hw q (by omega)
      · exact hf1 q hq) (fun _ h => h)
    have b6 : HasA w1 (x + 64) := a6.to (fun q k1 k2 => hw q (by omega))
    obtain ⟨σ, hr, d1, d2, d3, d4⟩ := b3
    obtain ⟨e2, e3, e4⟩ := d2 (cl (g 5 - 1)) ec.2
    obtain ⟨e5, e6⟩ := d4 (cl (g 5 - 1)) (by omega)
    have hC : CS w1 x Fz (upd g 5 (g 5 - 1)) A := ⟨by rw [upd_eq]; exact hx1, by rw [upd_eq]; exact vp_le hv (by omega), by rw [upd_eq]; exact ⟨σ, hr, d1, d2, d3, fun i hi => d4 i (by omega)⟩, b4, ⟨b5, a5'⟩, b6⟩
    refine ⟨_, hC.f0, _, fld_c hx1 2, _, fld_c hx1 3, _, _, _, arR_c d1, hv, e2, hC.is1, HasF.copy (by omega) hz.p e6 b5.any e5 (fun w' h5 h6 => ?_)⟩
    have he : ∀ j, j < 445 → va_cpy (A 2) (A 1) (cl (g 5 - 1) * 445) 0 445 j = slc (A 2) (cl (g 5 - 1)) j := fun j hj => by
      rw [va_cpy_in (by omega) (by omega)]
      show A 2 _ = A 2 _
      congr 1
      omega
    obtain ⟨h7, h8⟩ := hC.pr hz (h5.ext e6 he) (e6.ext he) h6
    exact ⟨_, by
      have := h7.1
      rw [upd_eq] at this
      exact fld_c this 3, hok (by omega) w' h7 (fun q hq => by rw [h8 q hq, hw q (by omega)])⟩
  · have c1 : ¬ (1 : Int32).toInt ≤ (g 5).toInt := fun h => hc (ile.mpr h)
    rw [i_1] at c1
    rw [i_0]
    omega
end
