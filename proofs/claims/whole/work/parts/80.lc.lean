/-! the law's cases -/
section
variable {b n x z L t cap k : Nat} {sc : Nat → Int32} {w w1 w2 : Mm} {l : List Int32} {h tx : Nat → Int32} {Fz : Nat → Prop} {g g2 : Nat → Int32} {A A2 : Nat → Nat → Int32} {K23 : Nat → Nat → Nat → Int32 → Mm → Nat → Nat → Nat → Prop} {Q : Int32 → Mm → Nat → Prop} {x4 : Int32} {mc ms : Nat}
theorem okW {REST : Mm → Prop} (hW : LW b n sc x Fz g A h tx t cap l L w z) (hF : FrS x w w1) (hC1 : CS w1 x Fz g2 A2) (v : Int64) (hq : ∀ w12 fo, FrO x w w12 → w12 (x + 773) = some (true, .inr (3, 1, .inr (.inl fo))) → fo 0 = v → CS w12 x Fz g2 A2 → REST w12) : ∃ n11 f10, arL w1 (x + 773) = some (n11, f10) ∧ vp_in 0 n11 ∧ ∀ w12, w12 = mset w1 (x + 773) (.inr (3, n11, .inr (.inl (vp_updL f10 (0 : Int32).toNatClampNeg v)))) → REST w12 := by
  obtain ⟨fo, hfo⟩ := hW.2.2.2.2.2.2.2.1
  have e : w1 (x + 773) = some (true, .inr (3, 1, .inr (.inl fo))) := (hF _ (by omega)).trans hfo
  refine ⟨_, _, arL_c e rfl, in_nI (k := 0) (by decide) (by decide), ?_⟩
  rintro _ rfl
  refine hq _ _ (FrO.of hF).ms (mset_eq _ _ _) ?_ (hW.cs (w1 := w1) (FrO.rfl'.ms) hC1 (fun q hq => mset_ne hq))
  rw [cl0]
  exact if_pos rfl
theorem LW.go0 {v : Int32} {z1 : Nat} (hW : LW b n sc x Fz g A h tx t cap l L w z) (hB : BG mc ms cap (k + 1)) (hK : ∀ cap' w' z' mc' ms', LX b n sc x cap' w' z' → BG mc' ms' cap' k → K23 x (x + 764) (x + 773) (x4 + 6) w' z' mc' ms') (hz1 : z ≤ z1) (hF : FrO x w w2) (ho : ∃ fo, w2 (x + 773) = some (true, .inr (3, 1, .inr (.inl fo)))) (hC2 : CS w2 x Fz g A) : K23 x (x + 764) (x + 773) (x4 + 6) (rwd w2 (x + 764) (upd g 6 v) A) z1 (mc - 10) (ms - 100) :=
  hK _ _ _ _ _ (hW.fin hz1 hF ho hC2.u6 (upd_ne (by omega)) (upd_ne (by omega)) (upd_ne (by omega)) (upd_ne (by omega)) rfl rfl) (hB.less (by omega) (by omega))
theorem LW.go0' {v : Int32} {z1 : Nat} (hW : LW b n sc x Fz g A h tx t cap l L w z) (hB : BG mc ms cap (k + 1)) (hK : ∀ cap' w' z' mc' ms', LX b n sc x cap' w' z' → BG mc' ms' cap' k → K23 x (x + 764) (x + 773) (x4 + 6) w' z' mc' ms') (hz1 : z ≤ z1) (hF : FrO x w w2) (ho : ∃ fo, w2 (x + 773) = some (true, .inr (3, 1, .inr (.inl fo)))) (hC2 : CS w2 x Fz g A) : K23 x (x + 764) (x + 773) (x4 + 6) (rwd w2 (x + 764) (upd g 6 v) A) z1 mc ms :=
  hK _ _ _ _ _ (hW.fin hz1 hF ho hC2.u6 (upd_ne (by omega)) (upd_ne (by omega)) (upd_ne (by omega)) (upd_ne (by omega)) rfl rfl) (by have := hB.less (a := 0) (c := 0) (by omega) (by omega); rwa [Nat.sub_zero, Nat.sub_zero] at this)
theorem LW.go1 {f' : Nat → Int32} {z1 : Nat} (hW : LW b n sc x Fz g A h tx t cap l L w z) (hB : BG mc ms cap (k + 1)) (hK : ∀ cap' w' z' mc' ms', LX b n sc x cap' w' z' → BG mc' ms' cap' k → K23 x (x + 764) (x + 773) (x4 + 6) w' z' mc' ms') (hz1 : z ≤ z1) (hF : FrO x w w2) (ho : ∃ fo, w2 (x + 773) = some (true, .inr (3, 1, .inr (.inl fo)))) (hC2 : CS w2 x Fz (remG g) (updA (remA g A (A 1)) 1 f')) : K23 x (x + 764) (x + 773) (x4 + 6) (rwd w2 (x + 764) (remG (upd g 6 0)) (updA (remA (upd g 6 0) A (A 1)) 1 f')) z1 (mc - 10) (ms - 100) :=
  hK _ _ _ _ _ (hW.fin hz1 hF ho hC2.r6 ((remG_k (by omega)).trans (upd_ne (by omega))) ((remG_k (by omega)).trans (upd_ne (by omega))) ((remG_k (by omega)).trans (upd_ne (by omega))) ((remG_k (by omega)).trans (upd_ne (by omega))) ((updA_ne (by omega)).trans (remA_k (by omega))) ((updA_ne (by omega)).trans (remA_k (by omega)))) (hB.less (by omega) (by omega))
theorem LW.goU {z1 : Nat} (hW : LW b n sc x Fz g A h tx t cap l L w z) (hB : BG mc ms cap (k + 1)) (hK : ∀ cap' w' z' mc' ms', LX b n sc x cap' w' z' → BG mc' ms' cap' k → K23 x (x + 764) (x + 773) (x4 + 6) w' z' mc' ms') (hz1 : z ≤ z1) (hF : FrO x w w2) (ho : ∃ fo, w2 (x + 773) = some (true, .inr (3, 1, .inr (.inl fo)))) (hC2 : CS w2 x Fz (undoG g) (undoA g A)) : K23 x (x + 764) (x + 773) (x4 + 6) (rwd w2 (x + 764) (undoG (upd g 6 0)) (undoA (upd g 6 0) A)) z1 (mc - 10) (ms - 100) := by
  have eA : undoA (upd g 6 0) A = undoA g A := by
    unfold undoA
    rw [upd_ne (by omega)]
  have e : ∀ j, j ≠ 5 → j ≠ 6 → undoG (upd g 6 0) j = g j := fun j h5 h6 => by
    unfold undoG
    rw [upd_ne h5, upd_ne h6]
  rw [eA]
  refine hK _ _ _ _ _ (hW.fin hz1 hF ho (hC2.cong ?_ (fun _ _ => rfl) rfl rfl rfl) (e 9 (by omega) (by omega)) (e 10 (by omega) (by omega)) (e 11 (by omega) (by omega)) (e 12 (by omega) (by omega)) (updA_ne (by omega)) (updA_ne (by omega))) (hB.less (by omega) (by omega))
  unfold undoG
  rw [upd_eq, upd_eq, upd_ne (by omega)]
theorem LW.goS {s : Int32} {z1 : Nat} (hW : LW b n sc x Fz g A h tx t cap l L w z) (hB : BG mc ms cap (k + 1)) (hK : ∀ cap' w' z' mc' ms', LX b n sc x cap' w' z' → BG mc' ms' cap' k → K23 x (x + 764) (x + 773) (x4 + 6) w' z' mc' ms') (hz1 : z ≤ z1) (hF : FrO x w w2) (ho : ∃ fo, w2 (x + 773) = some (true, .inr (3, 1, .inr (.inl fo)))) (hC2 : CS w2 x Fz g (saveA A s)) : K23 x (x + 764) (x + 773) (x4 + 6) (rwd w2 (x + 764) (upd g 6 0) (saveA A s)) z1 (mc - 10) (ms - 100) :=
  hK _ _ _ _ _ (hW.fin hz1 hF ho hC2.u6 (upd_ne (by omega)) (upd_ne (by omega)) (upd_ne (by omega)) (upd_ne (by omega)) ((updA_ne (by omega)).trans (updA_ne (by omega))) ((updA_ne (by omega)).trans (updA_ne (by omega)))) (hB.less (by omega) (by omega))
theorem g6_1 : remG (upd g 6 0) 6 = 0 := (remG_k (by omega)).trans (upd_eq _ _ _)
theorem g6_U : undoG (upd g 6 0) 6 = 0 := (upd_ne (by omega)).trans (upd_eq _ _ _)
theorem vp_cl8 {f : Nat → Int32} (hI : Inv f) {p : Int32} (hp : vp_in p (cl (f 2))) : cl p < 8 := by
  have h1 := clI hI.2.1.2.1
  have h2 := clI hp
  omega
theorem ride_ans {f : Nat → Int32} {p a c t : Int32} (hp : cl p < 8) : beginF f p a c t (21 + 13 * cl p + 3) = f 0 + 2 * jabs (c - a) := by
  have e : rideG f p a c t (21 + 13 * cl p + 3) = f 0 + 2 * jabs (c - a) := by
    unfold rideG
    simp (disch := omega) only [upd_ne, upd_eq]
  by_cases ht : t = -1
  · rw [ht] at e ⊢
    rw [beginF_n]
    exact e
  · rw [beginF_t hp ht]
    split
    · rw [upd_ne (by omega), upd_ne (by omega), upd_ne (by omega)]
      exact e
    · rw [upd_ne (by omega)]
      exact e
theorem law_money (hW : LW b n sc x Fz g A h tx t cap l L w z) (hB : BG mc ms cap (k + 1)) (h1 : vp_in (x4 + 1) n) (hK : ∀ cap' w' z' mc' ms', LX b n sc x cap' w' z' → BG mc' ms' cap' k → K23 x (x + 764) (x + 773) (x4 + 6) w' z' mc' ms') : B_L_law_1304 b K23 Q x (x + 764) (x + 773) x4 w z mc ms := by
  have hC := hW.1
  have hz := hW.2.1
  have hI := hC.I1
  have h9 := hC.v9
  have hfo := hW.2.2.2.2.2.2.2.1
  have hb1 := hB.1
  have hb2 := hB.2.1
  exact ⟨_, _, hW.scr0, h1, 10, 100, by omega, by omega, hC.is0, 10, 100, Nat.le_refl _, Nat.le_refl _, X_money hC (Nat.le_refl _) (Nat.le_refl _)
    (fun c_pa => okW hW FrS.rfl hC _ (fun w2 fo hF2 ho hv hC2 => ⟨_, _, hW.scr hF2, h1, by
    rw [hW.rw hF2]
    exact ⟨R_i, G_money hI (fun c_pb => Tl_ok (BE := (fun w z => B_L_law_1357 b K23 Q x (x + 764) (x + 773) x4 w z (mc - 10) (ms - 100))) (QE := (fun w z => Q 0 w z)) (upd_eq _ _ _) ((rwd_o (by omega)).trans ho) hv (hW.go0 hB hK (Nat.le_refl _) hF2 ⟨fo, ho⟩ hC2)) (fun c_pb => absurd c_pa c_pb)⟩⟩))
    (fun c_pa z1 hz1 => ⟨fun _ => ⟨_, _, hW.scr0, h1, by
    rw [hW.rw FrO.rfl']
    exact ⟨R_i, G_money hI (fun c_pb => absurd c_pb c_pa) (fun c_pb => Tl_ex (BE := (fun w z => B_L_law_1357 b K23 Q x (x + 764) (x + 773) x4 w z (mc - 10) (ms - 100))) (QE := (fun w z => Q 0 w z)) (upd_eq _ _ _) (by decide) (hW.go0 hB hK hz1 FrO.rfl' hfo hC))⟩⟩, fun hh => absurd rfl hh⟩)⟩
theorem law_rideEnd (hW : LW b n sc x Fz g A h tx t cap l L w z) (hB : BG mc ms cap (k + 1)) (h1 : vp_in (x4 + 1) n) (hK : ∀ cap' w' z' mc' ms', LX b n sc x cap' w' z' → BG mc' ms' cap' k → K23 x (x + 764) (x + 773) (x4 + 6) w' z' mc' ms') : B_L_law_1423 b K23 Q x (x + 764) (x + 773) x4 w z mc ms := by
  have hC := hW.1
  have hz := hW.2.1
  have hI := hC.I1
  have h9 := hC.v9
  have hfo := hW.2.2.2.2.2.2.2.1
  have hb1 := hB.1
  have hb2 := hB.2.1
  exact ⟨_, _, hW.scr0, h1, 10, 100, by omega, by omega, hC.is0, 10, 100, Nat.le_refl _, Nat.le_refl _, X_rideEnd hC (Nat.le_refl _) (Nat.le_refl _)
    (fun c_pa => okW hW FrS.rfl hC _ (fun w2 fo hF2 ho hv hC2 => ⟨_, _, hW.scr hF2, h1, by
    rw [hW.rw hF2]
    exact ⟨R_i, G_rideEnd hI (fun c_pb => Tl_ok (BE := (fun w z => B_L_law_1476 b K23 Q x (x + 764) (x + 773) x4 w z (mc - 10) (ms - 100))) (QE := (fun w z => Q 0 w z)) (upd_eq _ _ _) ((rwd_o (by omega)).trans ho) hv (hW.go0 hB hK (Nat.le_refl _) hF2 ⟨fo, ho⟩ hC2)) (fun c_pb => absurd c_pa c_pb)⟩⟩))
    (fun c_pa z1 hz1 => ⟨fun _ => ⟨_, _, hW.scr0, h1, by
    rw [hW.rw FrO.rfl']
    exact ⟨R_i, G_rideEnd hI (fun c_pb => absurd c_pb c_pa) (fun c_pb => Tl_ex (BE := (fun w z => B_L_law_1476 b K23 Q x (x + 764) (x + 773) x4 w z (mc - 10) (ms - 100))) (QE := (fun w z => Q 0 w z)) (upd_eq _ _ _) (by decide) (hW.go0 hB hK hz1 FrO.rfl' hfo hC))⟩⟩, fun hh => absurd rfl hh⟩)⟩
theorem law_rideTicket (hW : LW b n sc x Fz g A h tx t cap l L w z) (hB : BG mc ms cap (k + 1)) (h1 : vp_in (x4 + 1) n) (hK : ∀ cap' w' z' mc' ms', LX b n sc x cap' w' z' → BG mc' ms' cap' k → K23 x (x + 764) (x + 773) (x4 + 6) w' z' mc' ms') : B_L_law_1479 b K23 Q x (x + 764) (x + 773) x4 w z mc ms := by
  have hC := hW.1
  have hz := hW.2.1
  have hI := hC.I1
  have h9 := hC.v9
  have hfo := hW.2.2.2.2.2.2.2.1
  have hb1 := hB.1
  have hb2 := hB.2.1
  exact ⟨_, _, hW.scr0, h1, 10, 100, by omega, by omega, hC.is0, 10, 100, Nat.le_refl _, Nat.le_refl _, X_rideTicket hC (Nat.le_refl _) (Nat.le_refl _)
    (fun c_pa => okW hW FrS.rfl hC _ (fun w2 fo hF2 ho hv hC2 => ⟨_, _, hW.scr hF2, h1, by
    rw [hW.rw hF2]
    exact ⟨R_i, G_rideTicket hI (fun c_pb => Tl_ok (BE := (fun w z => B_L_law_1532 b K23 Q x (x + 764) (x + 773) x4 w z (mc - 10) (ms - 100))) (QE := (fun w z => Q 0 w z)) (upd_eq _ _ _) ((rwd_o (by omega)).trans ho) hv (hW.go0 hB hK (Nat.le_refl _) hF2 ⟨fo, ho⟩ hC2)) (fun c_pb => absurd c_pa c_pb)⟩⟩))
    (fun c_pa z1 hz1 => ⟨fun _ => ⟨_, _, hW.scr0, h1, by
    rw [hW.rw FrO.rfl']
    exact ⟨R_i, G_rideTicket hI (fun c_pb => absurd c_pb c_pa) (fun c_pb => Tl_ex (BE := (fun w z => B_L_law_1532 b K23 Q x (x + 764) (x + 773) x4 w z (mc - 10) (ms - 100))) (QE := (fun w z => Q 0 w z)) (upd_eq _ _ _) (by decide) (hW.go0 hB hK hz1 FrO.rfl' hfo hC))⟩⟩, fun hh => absurd rfl hh⟩)⟩
theorem law_faultNow (hW : LW b n sc x Fz g A h tx t cap l L w z) (hB : BG mc ms cap (k + 1)) (h1 : vp_in (x4 + 1) n) (hK : ∀ cap' w' z' mc' ms', LX b n sc x cap' w' z' → BG mc' ms' cap' k → K23 x (x + 764) (x + 773) (x4 + 6) w' z' mc' ms') : B_L_law_1535 b K23 Q x (x + 764) (x + 773) x4 w z mc ms := by
  have hC := hW.1
  have hz := hW.2.1
  have hI := hC.I1
  have h9 := hC.v9
  have hfo := hW.2.2.2.2.2.2.2.1
  have hb1 := hB.1
  have hb2 := hB.2.1
  exact ⟨_, _, hW.scr0, h1, 10, 100, by omega, by omega, hC.is0, 10, 100, Nat.le_refl _, Nat.le_refl _, X_faultNow hC (Nat.le_refl _) (Nat.le_refl _)
    (fun c_pa => okW hW FrS.rfl hC _ (fun w2 fo hF2 ho hv hC2 => ⟨_, _, hW.scr hF2, h1, by
    rw [hW.rw hF2]
    exact ⟨R_i, G_faultNow hI (fun c_pb => Tl_ok (BE := (fun w z => B_L_law_1588 b K23 Q x (x + 764) (x + 773) x4 w z (mc - 10) (ms - 100))) (QE := (fun w z => Q 0 w z)) (upd_eq _ _ _) ((rwd_o (by omega)).trans ho) hv (hW.go0 hB hK (Nat.le_refl _) hF2 ⟨fo, ho⟩ hC2)) (fun c_pb => absurd c_pa c_pb)⟩⟩))
    (fun c_pa z1 hz1 => ⟨fun _ => ⟨_, _, hW.scr0, h1, by
    rw [hW.rw FrO.rfl']
    exact ⟨R_i, G_faultNow hI (fun c_pb => absurd c_pb c_pa) (fun c_pb => Tl_ex (BE := (fun w z => B_L_law_1588 b K23 Q x (x + 764) (x + 773) x4 w z (mc - 10) (ms - 100))) (QE := (fun w z => Q 0 w z)) (upd_eq _ _ _) (by decide) (hW.go0 hB hK hz1 FrO.rfl' hfo hC))⟩⟩, fun hh => absurd rfl hh⟩)⟩
theorem law_debt (hW : LW b n sc x Fz g A h tx t cap l L w z) (hB : BG mc ms cap (k + 1)) (h1 : vp_in (x4 + 1) n) (hK : ∀ cap' w' z' mc' ms', LX b n sc x cap' w' z' → BG mc' ms' cap' k → K23 x (x + 764) (x + 773) (x4 + 6) w' z' mc' ms') : B_L_law_1591 b K23 Q x (x + 764) (x + 773) x4 w z mc ms := by
  have hC := hW.1
  have hz := hW.2.1
  have hI := hC.I1
  have h9 := hC.v9
  have hfo := hW.2.2.2.2.2.2.2.1
  have hb1 := hB.1
  have hb2 := hB.2.1
  exact ⟨_, _, hW.scr0, h1, 10, 100, by omega, by omega, hC.is0, 10, 100, Nat.le_refl _, Nat.le_refl _, X_debt hC (Nat.le_refl _) (Nat.le_refl _)
    (fun c_pa => okW hW FrS.rfl hC _ (fun w2 fo hF2 ho hv hC2 => ⟨_, _, hW.scr hF2, h1, by
    rw [hW.rw hF2]
    exact ⟨R_i, G_debt hI (fun c_pb => Tl_ok (BE := (fun w z => B_L_law_1644 b K23 Q x (x + 764) (x + 773) x4 w z (mc - 10) (ms - 100))) (QE := (fun w z => Q 0 w z)) (upd_eq _ _ _) ((rwd_o (by omega)).trans ho) hv (hW.go0 hB hK (Nat.le_refl _) hF2 ⟨fo, ho⟩ hC2)) (fun c_pb => absurd c_pa c_pb)⟩⟩))
    (fun c_pa z1 hz1 => ⟨fun _ => ⟨_, _, hW.scr0, h1, by
    rw [hW.rw FrO.rfl']
    exact ⟨R_i, G_debt hI (fun c_pb => absurd c_pb c_pa) (fun c_pb => Tl_ex (BE := (fun w z => B_L_law_1644 b K23 Q x (x + 764) (x + 773) x4 w z (mc - 10) (ms - 100))) (QE := (fun w z => Q 0 w z)) (upd_eq _ _ _) (by decide) (hW.go0 hB hK hz1 FrO.rfl' hfo hC))⟩⟩, fun hh => absurd rfl hh⟩)⟩
theorem law_unpaidCases (hW : LW b n sc x Fz g A h tx t cap l L w z) (hB : BG mc ms cap (k + 1)) (h1 : vp_in (x4 + 1) n) (hK : ∀ cap' w' z' mc' ms', LX b n sc x cap' w' z' → BG mc' ms' cap' k → K23 x (x + 764) (x + 773) (x4 + 6) w' z' mc' ms') : B_L_law_1647 b K23 Q x (x + 764) (x + 773) x4 w z mc ms := by
  have hC := hW.1
  have hz := hW.2.1
  have hI := hC.I1
  have h9 := hC.v9
  have hfo := hW.2.2.2.2.2.2.2.1
  have hb1 := hB.1
  have hb2 := hB.2.1
  exact ⟨_, _, hW.scr0, h1, 10, 100, by omega, by omega, hC.is0, 10, 100, Nat.le_refl _, Nat.le_refl _, X_unpaidCases hC (Nat.le_refl _) (Nat.le_refl _)
    (fun c_pa => okW hW FrS.rfl hC _ (fun w2 fo hF2 ho hv hC2 => ⟨_, _, hW.scr hF2, h1, by
    rw [hW.rw hF2]
    exact ⟨R_i, G_unpaidCases hI (fun c_pb => Tl_ok (BE := (fun w z => B_L_law_1700 b K23 Q x (x + 764) (x + 773) x4 w z (mc - 10) (ms - 100))) (QE := (fun w z => Q 0 w z)) (upd_eq _ _ _) ((rwd_o (by omega)).trans ho) hv (hW.go0 hB hK (Nat.le_refl _) hF2 ⟨fo, ho⟩ hC2)) (fun c_pb => absurd c_pa c_pb)⟩⟩))
    (fun c_pa z1 hz1 => ⟨fun _ => ⟨_, _, hW.scr0, h1, by
    rw [hW.rw FrO.rfl']
    exact ⟨R_i, G_unpaidCases hI (fun c_pb => absurd c_pb c_pa) (fun c_pb => Tl_ex (BE := (fun w z => B_L_law_1700 b K23 Q x (x + 764) (x + 773) x4 w z (mc - 10) (ms - 100))) (QE := (fun w z => Q 0 w z)) (upd_eq _ _ _) (by decide) (hW.go0 hB hK hz1 FrO.rfl' hfo hC))⟩⟩, fun hh => absurd rfl hh⟩)⟩
theorem law_ticketHolder (hW : LW b n sc x Fz g A h tx t cap l L w z) (hB : BG mc ms cap (k + 1)) (h1 : vp_in (x4 + 1) n) (hK : ∀ cap' w' z' mc' ms', LX b n sc x cap' w' z' → BG mc' ms' cap' k → K23 x (x + 764) (x + 773) (x4 + 6) w' z' mc' ms') : B_L_law_1839 b K23 Q x (x + 764) (x + 773) x4 w z mc ms := by
  have hC := hW.1
  have hz := hW.2.1
  have hI := hC.I1
  have h9 := hC.v9
  have hfo := hW.2.2.2.2.2.2.2.1
  have hb1 := hB.1
  have hb2 := hB.2.1
  exact ⟨_, _, hW.scr0, h1, 10, 100, by omega, by omega, hC.is0, 10, 100, Nat.le_refl _, Nat.le_refl _, X_ticketHolder hC (Nat.le_refl _) (Nat.le_refl _)
    (fun c_pa => okW hW FrS.rfl hC _ (fun w2 fo hF2 ho hv hC2 => ⟨_, _, hW.scr hF2, h1, by
    rw [hW.rw hF2]
    exact ⟨R_i, G_ticketHolder hI (fun c_pb => Tl_ok (BE := (fun w z => B_L_law_1892 b K23 Q x (x + 764) (x + 773) x4 w z (mc - 10) (ms - 100))) (QE := (fun w z => Q 0 w z)) (upd_eq _ _ _) ((rwd_o (by omega)).trans ho) hv (hW.go0 hB hK (Nat.le_refl _) hF2 ⟨fo, ho⟩ hC2)) (fun c_pb => absurd c_pa c_pb)⟩⟩))
    (fun c_pa z1 hz1 => ⟨fun _ => ⟨_, _, hW.scr0, h1, by
    rw [hW.rw FrO.rfl']
    exact ⟨R_i, G_ticketHolder hI (fun c_pb => absurd c_pb c_pa) (fun c_pb => Tl_ex (BE := (fun w z => B_L_law_1892 b K23 Q x (x + 764) (x + 773) x4 w z (mc - 10) (ms - 100))) (QE := (fun w z => Q 0 w z)) (upd_eq _ _ _) (by decide) (hW.go0 hB hK hz1 FrO.rfl' hfo hC))⟩⟩, fun hh => absurd rfl hh⟩)⟩
theorem law_ticketKind (hW : LW b n sc x Fz g A h tx t cap l L w z) (hB : BG mc ms cap (k + 1)) (h1 : vp_in (x4 + 1) n) (hK : ∀ cap' w' z' mc' ms', LX b n sc x cap' w' z' → BG mc' ms' cap' k → K23 x (x + 764) (x + 773) (x4 + 6) w' z' mc' ms') : B_L_law_1895 b K23 Q x (x + 764) (x + 773) x4 w z mc ms := by
  have hC := hW.1
  have hz := hW.2.1
  have hI := hC.I1
  have h9 := hC.v9
  have hfo := hW.2.2.2.2.2.2.2.1
  have hb1 := hB.1
  have hb2 := hB.2.1
  exact ⟨_, _, hW.scr0, h1, 10, 100, by omega, by omega, hC.is0, 10, 100, Nat.le_refl _, Nat.le_refl _, X_ticketKind hC (Nat.le_refl _) (Nat.le_refl _)
    (fun c_pa => okW hW FrS.rfl hC _ (fun w2 fo hF2 ho hv hC2 => ⟨_, _, hW.scr hF2, h1, by
    rw [hW.rw hF2]
    exact ⟨R_i, G_ticketKind hI (fun c_pb => Tl_ok (BE := (fun w z => B_L_law_1948 b K23 Q x (x + 764) (x + 773) x4 w z (mc - 10) (ms - 100))) (QE := (fun w z => Q 0 w z)) (upd_eq _ _ _) ((rwd_o (by omega)).trans ho) hv (hW.go0 hB hK (Nat.le_refl _) hF2 ⟨fo, ho⟩ hC2)) (fun c_pb => absurd c_pa c_pb)⟩⟩))
    (fun c_pa z1 hz1 => ⟨fun _ => ⟨_, _, hW.scr0, h1, by
    rw [hW.rw FrO.rfl']
    exact ⟨R_i, G_ticketKind hI (fun c_pb => absurd c_pb c_pa) (fun c_pb => Tl_ex (BE := (fun w z => B_L_law_1948 b K23 Q x (x + 764) (x + 773) x4 w z (mc - 10) (ms - 100))) (QE := (fun w z => Q 0 w z)) (upd_eq _ _ _) (by decide) (hW.go0 hB hK hz1 FrO.rfl' hfo hC))⟩⟩, fun hh => absurd rfl hh⟩)⟩
theorem law_ticketZones (hW : LW b n sc x Fz g A h tx t cap l L w z) (hB : BG mc ms cap (k + 1)) (h1 : vp_in (x4 + 1) n) (hK : ∀ cap' w' z' mc' ms', LX b n sc x cap' w' z' → BG mc' ms' cap' k → K23 x (x + 764) (x + 773) (x4 + 6) w' z' mc' ms') : B_L_law_1951 b K23 Q x (x + 764) (x + 773) x4 w z mc ms := by
  have hC := hW.1
  have hz := hW.2.1
  have hI := hC.I1
  have h9 := hC.v9
  have hfo := hW.2.2.2.2.2.2.2.1
  have hb1 := hB.1
  have hb2 := hB.2.1
  exact ⟨_, _, hW.scr0, h1, 10, 100, by omega, by omega, hC.is0, 10, 100, Nat.le_refl _, Nat.le_refl _, X_ticketZones hC (Nat.le_refl _) (Nat.le_refl _)
    (fun c_pa => okW hW FrS.rfl hC _ (fun w2 fo hF2 ho hv hC2 => ⟨_, _, hW.scr hF2, h1, by
    rw [hW.rw hF2]
    exact ⟨R_i, G_ticketZones hI (fun c_pb => Tl_ok (BE := (fun w z => B_L_law_2004 b K23 Q x (x + 764) (x + 773) x4 w z (mc - 10) (ms - 100))) (QE := (fun w z => Q 0 w z)) (upd_eq _ _ _) ((rwd_o (by omega)).trans ho) hv (hW.go0 hB hK (Nat.le_refl _) hF2 ⟨fo, ho⟩ hC2)) (fun c_pb => absurd c_pa c_pb)⟩⟩))
    (fun c_pa z1 hz1 => ⟨fun _ => ⟨_, _, hW.scr0, h1, by
    rw [hW.rw FrO.rfl']
    exact ⟨R_i, G_ticketZones hI (fun c_pb => absurd c_pb c_pa) (fun c_pb => Tl_ex (BE := (fun w z => B_L_law_2004 b K23 Q x (x + 764) (x + 773) x4 w z (mc - 10) (ms - 100))) (QE := (fun w z => Q 0 w z)) (upd_eq _ _ _) (by decide) (hW.go0 hB hK hz1 FrO.rfl' hfo hC))⟩⟩, fun hh => absurd rfl hh⟩)⟩
theorem law_ticketPrice (hW : LW b n sc x Fz g A h tx t cap l L w z) (hB : BG mc ms cap (k + 1)) (h1 : vp_in (x4 + 1) n) (hK : ∀ cap' w' z' mc' ms', LX b n sc x cap' w' z' → BG mc' ms' cap' k → K23 x (x + 764) (x + 773) (x4 + 6) w' z' mc' ms') : B_L_law_2007 b K23 Q x (x + 764) (x + 773) x4 w z mc ms := by
  have hC := hW.1
  have hz := hW.2.1
  have hI := hC.I1
  have h9 := hC.v9
  have hfo := hW.2.2.2.2.2.2.2.1
  have hb1 := hB.1
  have hb2 := hB.2.1
  exact ⟨_, _, hW.scr0, h1, 10, 100, by omega, by omega, hC.is0, 10, 100, Nat.le_refl _, Nat.le_refl _, X_ticketPrice hC (Nat.le_refl _) (Nat.le_refl _)
    (fun c_pa => okW hW FrS.rfl hC _ (fun w2 fo hF2 ho hv hC2 => ⟨_, _, hW.scr hF2, h1, by
    rw [hW.rw hF2]
    exact ⟨R_i, G_ticketPrice hI (fun c_pb => Tl_ok (BE := (fun w z => B_L_law_2060 b K23 Q x (x + 764) (x + 773) x4 w z (mc - 10) (ms - 100))) (QE := (fun w z => Q 0 w z)) (upd_eq _ _ _) ((rwd_o (by omega)).trans ho) hv (hW.go0 hB hK (Nat.le_refl _) hF2 ⟨fo, ho⟩ hC2)) (fun c_pb => absurd c_pa c_pb)⟩⟩))
    (fun c_pa z1 hz1 => ⟨fun _ => ⟨_, _, hW.scr0, h1, by
    rw [hW.rw FrO.rfl']
    exact ⟨R_i, G_ticketPrice hI (fun c_pb => absurd c_pb c_pa) (fun c_pb => Tl_ex (BE := (fun w z => B_L_law_2060 b K23 Q x (x + 764) (x + 773) x4 w z (mc - 10) (ms - 100))) (QE := (fun w z => Q 0 w z)) (upd_eq _ _ _) (by decide) (hW.go0 hB hK hz1 FrO.rfl' hfo hC))⟩⟩, fun hh => absurd rfl hh⟩)⟩
theorem law_stampTime (hW : LW b n sc x Fz g A h tx t cap l L w z) (hB : BG mc ms cap (k + 1)) (h1 : vp_in (x4 + 1) n) (hK : ∀ cap' w' z' mc' ms', LX b n sc x cap' w' z' → BG mc' ms' cap' k → K23 x (x + 764) (x + 773) (x4 + 6) w' z' mc' ms') : B_L_law_2063 b K23 Q x (x + 764) (x + 773) x4 w z mc ms := by
  have hC := hW.1
  have hz := hW.2.1
  have hI := hC.I1
  have h9 := hC.v9
  have hfo := hW.2.2.2.2.2.2.2.1
  have hb1 := hB.1
  have hb2 := hB.2.1
  exact ⟨_, _, hW.scr0, h1, 10, 100, by omega, by omega, hC.is0, 10, 100, Nat.le_refl _, Nat.le_refl _, X_stampTime hC (Nat.le_refl _) (Nat.le_refl _)
    (fun c_pa => okW hW FrS.rfl hC _ (fun w2 fo hF2 ho hv hC2 => ⟨_, _, hW.scr hF2, h1, by
    rw [hW.rw hF2]
    exact ⟨R_i, G_stampTime hI (fun c_pb => Tl_ok (BE := (fun w z => B_L_law_2116 b K23 Q x (x + 764) (x + 773) x4 w z (mc - 10) (ms - 100))) (QE := (fun w z => Q 0 w z)) (upd_eq _ _ _) ((rwd_o (by omega)).trans ho) hv (hW.go0 hB hK (Nat.le_refl _) hF2 ⟨fo, ho⟩ hC2)) (fun c_pb => absurd c_pa c_pb)⟩⟩))
    (fun c_pa z1 hz1 => ⟨fun _ => ⟨_, _, hW.scr0, h1, by
    rw [hW.rw FrO.rfl']
    exact ⟨R_i, G_stampTime hI (fun c_pb => absurd c_pb c_pa) (fun c_pb => Tl_ex (BE := (fun w z => B_L_law_2116 b K23 Q x (x + 764) (x + 773) x4 w z (mc - 10) (ms - 100))) (QE := (fun w z => Q 0 w z)) (upd_eq _ _ _) (by decide) (hW.go0 hB hK hz1 FrO.rfl' hfo hC))⟩⟩, fun hh => absurd rfl hh⟩)⟩
theorem law_stampStop (hW : LW b n sc x Fz g A h tx t cap l L w z) (hB : BG mc ms cap (k + 1)) (h1 : vp_in (x4 + 1) n) (hK : ∀ cap' w' z' mc' ms', LX b n sc x cap' w' z' → BG mc' ms' cap' k → K23 x (x + 764) (x + 773) (x4 + 6) w' z' mc' ms') : B_L_law_2119 b K23 Q x (x + 764) (x + 773) x4 w z mc ms := by
  have hC := hW.1
  have hz := hW.2.1
  have hI := hC.I1
  have h9 := hC.v9
  have hfo := hW.2.2.2.2.2.2.2.1
  have hb1 := hB.1
  have hb2 := hB.2.1
  exact ⟨_, _, hW.scr0, h1, 10, 100, by omega, by omega, hC.is0, 10, 100, Nat.le_refl _, Nat.le_refl _, X_stampStop hC (Nat.le_refl _) (Nat.le_refl _)
    (fun c_pa => okW hW FrS.rfl hC _ (fun w2 fo hF2 ho hv hC2 => ⟨_, _, hW.scr hF2, h1, by
    rw [hW.rw hF2]
    exact ⟨R_i, G_stampStop hI (fun c_pb => Tl_ok (BE := (fun w z => B_L_law_2172 b K23 Q x (x + 764) (x + 773) x4 w z (mc - 10) (ms - 100))) (QE := (fun w z => Q 0 w z)) (upd_eq _ _ _) ((rwd_o (by omega)).trans ho) hv (hW.go0 hB hK (Nat.le_refl _) hF2 ⟨fo, ho⟩ hC2)) (fun c_pb => absurd c_pa c_pb)⟩⟩))
    (fun c_pa z1 hz1 => ⟨fun _ => ⟨_, _, hW.scr0, h1, by
    rw [hW.rw FrO.rfl']
    exact ⟨R_i, G_stampStop hI (fun c_pb => absurd c_pb c_pa) (fun c_pb => Tl_ex (BE := (fun w z => B_L_law_2172 b K23 Q x (x + 764) (x + 773) x4 w z (mc - 10) (ms - 100))) (QE := (fun w z => Q 0 w z)) (upd_eq _ _ _) (by decide) (hW.go0 hB hK hz1 FrO.rfl' hfo hC))⟩⟩, fun hh => absurd rfl hh⟩)⟩
theorem law_ticketRides (hW : LW b n sc x Fz g A h tx t cap l L w z) (hB : BG mc ms cap (k + 1)) (h1 : vp_in (x4 + 1) n) (hK : ∀ cap' w' z' mc' ms', LX b n sc x cap' w' z' → BG mc' ms' cap' k → K23 x (x + 764) (x + 773) (x4 + 6) w' z' mc' ms') : B_L_law_2175 b K23 Q x (x + 764) (x + 773) x4 w z mc ms := by
  have hC := hW.1
  have hz := hW.2.1
  have hI := hC.I1
  have h9 := hC.v9
  have hfo := hW.2.2.2.2.2.2.2.1
  have hb1 := hB.1
  have hb2 := hB.2.1
  exact ⟨_, _, hW.scr0, h1, 10, 100, by omega, by omega, hC.is0, 10, 100, Nat.le_refl _, Nat.le_refl _, X_ticketRides hC (Nat.le_refl _) (Nat.le_refl _)
    (fun c_pa => okW hW FrS.rfl hC _ (fun w2 fo hF2 ho hv hC2 => ⟨_, _, hW.scr hF2, h1, by
    rw [hW.rw hF2]
    exact ⟨R_i, G_ticketRides hI (fun c_pb => Tl_ok (BE := (fun w z => B_L_law_2228 b K23 Q x (x + 764) (x + 773) x4 w z (mc - 10) (ms - 100))) (QE := (fun w z => Q 0 w z)) (upd_eq _ _ _) ((rwd_o (by omega)).trans ho) hv (hW.go0 hB hK (Nat.le_refl _) hF2 ⟨fo, ho⟩ hC2)) (fun c_pb => absurd c_pa c_pb)⟩⟩))
    (fun c_pa z1 hz1 => ⟨fun _ => ⟨_, _, hW.scr0, h1, by
    rw [hW.rw FrO.rfl']
    exact ⟨R_i, G_ticketRides hI (fun c_pb => absurd c_pb c_pa) (fun c_pb => Tl_ex (BE := (fun w z => B_L_law_2228 b K23 Q x (x + 764) (x + 773) x4 w z (mc - 10) (ms - 100))) (QE := (fun w z => Q 0 w z)) (upd_eq _ _ _) (by decide) (hW.go0 hB hK hz1 FrO.rfl' hfo hC))⟩⟩, fun hh => absurd rfl hh⟩)⟩
theorem law_casePassenger (hW : LW b n sc x Fz g A h tx t cap l L w z) (hB : BG mc ms cap (k + 1)) (h1 : vp_in (x4 + 1) n) (hK : ∀ cap' w' z' mc' ms', LX b n sc x cap' w' z' → BG mc' ms' cap' k → K23 x (x + 764) (x + 773) (x4 + 6) w' z' mc' ms') : B_L_law_2294 b K23 Q x (x + 764) (x + 773) x4 w z mc ms := by
  have hC := hW.1
  have hz := hW.2.1
  have hI := hC.I1
  have h9 := hC.v9
  have hfo := hW.2.2.2.2.2.2.2.1
  have hb1 := hB.1
  have hb2 := hB.2.1
  exact ⟨_, _, hW.scr0, h1, 10, 100, by omega, by omega, hC.is0, 10, 100, Nat.le_refl _, Nat.le_refl _, X_casePassenger hC (Nat.le_refl _) (Nat.le_refl _)
    (fun c_pa => okW hW FrS.rfl hC _ (fun w2 fo hF2 ho hv hC2 => ⟨_, _, hW.scr hF2, h1, by
    rw [hW.rw hF2]
    exact ⟨R_i, G_casePassenger hI (fun c_pb => Tl_ok (BE := (fun w z => B_L_law_2347 b K23 Q x (x + 764) (x + 773) x4 w z (mc - 10) (ms - 100))) (QE := (fun w z => Q 0 w z)) (upd_eq _ _ _) ((rwd_o (by omega)).trans ho) hv (hW.go0 hB hK (Nat.le_refl _) hF2 ⟨fo, ho⟩ hC2)) (fun c_pb => absurd c_pa c_pb)⟩⟩))
    (fun c_pa z1 hz1 => ⟨fun _ => ⟨_, _, hW.scr0, h1, by
    rw [hW.rw FrO.rfl']
    exact ⟨R_i, G_casePassenger hI (fun c_pb => absurd c_pb c_pa) (fun c_pb => Tl_ex (BE := (fun w z => B_L_law_2347 b K23 Q x (x + 764) (x + 773) x4 w z (mc - 10) (ms - 100))) (QE := (fun w z => Q 0 w z)) (upd_eq _ _ _) (by decide) (hW.go0 hB hK hz1 FrO.rfl' hfo hC))⟩⟩, fun hh => absurd rfl hh⟩)⟩
theorem law_caseFault (hW : LW b n sc x Fz g A h tx t cap l L w z) (hB : BG mc ms cap (k + 1)) (h1 : vp_in (x4 + 1) n) (hK : ∀ cap' w' z' mc' ms', LX b n sc x cap' w' z' → BG mc' ms' cap' k → K23 x (x + 764) (x + 773) (x4 + 6) w' z' mc' ms') : B_L_law_2350 b K23 Q x (x + 764) (x + 773) x4 w z mc ms := by
  have hC := hW.1
  have hz := hW.2.1
  have hI := hC.I1
  have h9 := hC.v9
  have hfo := hW.2.2.2.2.2.2.2.1
  have hb1 := hB.1
  have hb2 := hB.2.1
  exact ⟨_, _, hW.scr0, h1, 10, 100, by omega, by omega, hC.is0, 10, 100, Nat.le_refl _, Nat.le_refl _, X_caseFault hC (Nat.le_refl _) (Nat.le_refl _)
    (fun c_pa => okW hW FrS.rfl hC _ (fun w2 fo hF2 ho hv hC2 => ⟨_, _, hW.scr hF2, h1, by
    rw [hW.rw hF2]
    exact ⟨R_i, G_caseFault hI (fun c_pb => Tl_ok (BE := (fun w z => B_L_law_2403 b K23 Q x (x + 764) (x + 773) x4 w z (mc - 10) (ms - 100))) (QE := (fun w z => Q 0 w z)) (upd_eq _ _ _) ((rwd_o (by omega)).trans ho) hv (hW.go0 hB hK (Nat.le_refl _) hF2 ⟨fo, ho⟩ hC2)) (fun c_pb => absurd c_pa c_pb)⟩⟩))
    (fun c_pa z1 hz1 => ⟨fun _ => ⟨_, _, hW.scr0, h1, by
    rw [hW.rw FrO.rfl']
    exact ⟨R_i, G_caseFault hI (fun c_pb => absurd c_pb c_pa) (fun c_pb => Tl_ex (BE := (fun w z => B_L_law_2403 b K23 Q x (x + 764) (x + 773) x4 w z (mc - 10) (ms - 100))) (QE := (fun w z => Q 0 w z)) (upd_eq _ _ _) (by decide) (hW.go0 hB hK hz1 FrO.rfl' hfo hC))⟩⟩, fun hh => absurd rfl hh⟩)⟩
theorem law_caseState (hW : LW b n sc x Fz g A h tx t cap l L w z) (hB : BG mc ms cap (k + 1)) (h1 : vp_in (x4 + 1) n) (hK : ∀ cap' w' z' mc' ms', LX b n sc x cap' w' z' → BG mc' ms' cap' k → K23 x (x + 764) (x + 773) (x4 + 6) w' z' mc' ms') : B_L_law_2406 b K23 Q x (x + 764) (x + 773) x4 w z mc ms := by
  have hC := hW.1
  have hz := hW.2.1
  have hI := hC.I1
  have h9 := hC.v9
  have hfo := hW.2.2.2.2.2.2.2.1
  have hb1 := hB.1
  have hb2 := hB.2.1
  exact ⟨_, _, hW.scr0, h1, 10, 100, by omega, by omega, hC.is0, 10, 100, Nat.le_refl _, Nat.le_refl _, X_caseState hC (Nat.le_refl _) (Nat.le_refl _)
    (fun c_pa => okW hW FrS.rfl hC _ (fun w2 fo hF2 ho hv hC2 => ⟨_, _, hW.scr hF2, h1, by
    rw [hW.rw hF2]
    exact ⟨R_i, G_caseState hI (fun c_pb => Tl_ok (BE := (fun w z => B_L_law_2459 b K23 Q x (x + 764) (x + 773) x4 w z (mc - 10) (ms - 100))) (QE := (fun w z => Q 0 w z)) (upd_eq _ _ _) ((rwd_o (by omega)).trans ho) hv (hW.go0 hB hK (Nat.le_refl _) hF2 ⟨fo, ho⟩ hC2)) (fun c_pb => absurd c_pa c_pb)⟩⟩))
    (fun c_pa z1 hz1 => ⟨fun _ => ⟨_, _, hW.scr0, h1, by
    rw [hW.rw FrO.rfl']
    exact ⟨R_i, G_caseState hI (fun c_pb => absurd c_pb c_pa) (fun c_pb => Tl_ex (BE := (fun w z => B_L_law_2459 b K23 Q x (x + 764) (x + 773) x4 w z (mc - 10) (ms - 100))) (QE := (fun w z => Q 0 w z)) (upd_eq _ _ _) (by decide) (hW.go0 hB hK hz1 FrO.rfl' hfo hC))⟩⟩, fun hh => absurd rfl hh⟩)⟩
theorem law_caseTime (hW : LW b n sc x Fz g A h tx t cap l L w z) (hB : BG mc ms cap (k + 1)) (h1 : vp_in (x4 + 1) n) (hK : ∀ cap' w' z' mc' ms', LX b n sc x cap' w' z' → BG mc' ms' cap' k → K23 x (x + 764) (x + 773) (x4 + 6) w' z' mc' ms') : B_L_law_2462 b K23 Q x (x + 764) (x + 773) x4 w z mc ms := by
  have hC := hW.1
  have hz := hW.2.1
  have hI := hC.I1
  have h9 := hC.v9
  have hfo := hW.2.2.2.2.2.2.2.1
  have hb1 := hB.1
  have hb2 := hB.2.1
  exact ⟨_, _, hW.scr0, h1, 10, 100, by omega, by omega, hC.is0, 10, 100, Nat.le_refl _, Nat.le_refl _, X_caseTime hC (Nat.le_refl _) (Nat.le_refl _)
    (fun c_pa => okW hW FrS.rfl hC _ (fun w2 fo hF2 ho hv hC2 => ⟨_, _, hW.scr hF2, h1, by
    rw [hW.rw hF2]
    exact ⟨R_i, G_caseTime hI (fun c_pb => Tl_ok (BE := (fun w z => B_L_law_2515 b K23 Q x (x + 764) (x + 773) x4 w z (mc - 10) (ms - 100))) (QE := (fun w z => Q 0 w z)) (upd_eq _ _ _) ((rwd_o (by omega)).trans ho) hv (hW.go0 hB hK (Nat.le_refl _) hF2 ⟨fo, ho⟩ hC2)) (fun c_pb => absurd c_pa c_pb)⟩⟩))
    (fun c_pa z1 hz1 => ⟨fun _ => ⟨_, _, hW.scr0, h1, by
    rw [hW.rw FrO.rfl']
    exact ⟨R_i, G_caseTime hI (fun c_pb => absurd c_pb c_pa) (fun c_pb => Tl_ex (BE := (fun w z => B_L_law_2515 b K23 Q x (x + 764) (x + 773) x4 w z (mc - 10) (ms - 100))) (QE := (fun w z => Q 0 w z)) (upd_eq _ _ _) (by decide) (hW.go0 hB hK hz1 FrO.rfl' hfo hC))⟩⟩, fun hh => absurd rfl hh⟩)⟩
theorem law_amountDue (hW : LW b n sc x Fz g A h tx t cap l L w z) (hB : BG mc ms cap (k + 1)) (h1 : vp_in (x4 + 1) n) (hK : ∀ cap' w' z' mc' ms', LX b n sc x cap' w' z' → BG mc' ms' cap' k → K23 x (x + 764) (x + 773) (x4 + 6) w' z' mc' ms') : B_L_law_2518 b K23 Q x (x + 764) (x + 773) x4 w z mc ms := by
  have hC := hW.1
  have hz := hW.2.1
  have hI := hC.I1
  have h9 := hC.v9
  have hfo := hW.2.2.2.2.2.2.2.1
  have hb1 := hB.1
  have hb2 := hB.2.1
  exact ⟨_, _, hW.scr0, h1, 10, 100, by omega, by omega, hC.is0, 10, 100, Nat.le_refl _, Nat.le_refl _, X_amountDue hC (Nat.le_refl _) (Nat.le_refl _)
    (fun c_pa => okW hW FrS.rfl hC _ (fun w2 fo hF2 ho hv hC2 => ⟨_, _, hW.scr hF2, h1, by
    rw [hW.rw hF2]
    exact ⟨R_i, G_amountDue hI (fun c_pb => Tl_ok (BE := (fun w z => B_L_law_2571 b K23 Q x (x + 764) (x + 773) x4 w z (mc - 10) (ms - 100))) (QE := (fun w z => Q 0 w z)) (upd_eq _ _ _) ((rwd_o (by omega)).trans ho) hv (hW.go0 hB hK (Nat.le_refl _) hF2 ⟨fo, ho⟩ hC2)) (fun c_pb => absurd c_pa c_pb)⟩⟩))
    (fun c_pa z1 hz1 => ⟨fun _ => ⟨_, _, hW.scr0, h1, by
    rw [hW.rw FrO.rfl']
    exact ⟨R_i, G_amountDue hI (fun c_pb => absurd c_pb c_pa) (fun c_pb => Tl_ex (BE := (fun w z => B_L_law_2571 b K23 Q x (x + 764) (x + 773) x4 w z (mc - 10) (ms - 100))) (QE := (fun w z => Q 0 w z)) (upd_eq _ _ _) (by decide) (hW.go0 hB hK hz1 FrO.rfl' hfo hC))⟩⟩, fun hh => absurd rfl hh⟩)⟩
theorem law_caseTicket (hW : LW b n sc x Fz g A h tx t cap l L w z) (hB : BG mc ms cap (k + 1)) (h1 : vp_in (x4 + 1) n) (hK : ∀ cap' w' z' mc' ms', LX b n sc x cap' w' z' → BG mc' ms' cap' k → K23 x (x + 764) (x + 773) (x4 + 6) w' z' mc' ms') : B_L_law_2574 b K23 Q x (x + 764) (x + 773) x4 w z mc ms := by
  have hC := hW.1
  have hz := hW.2.1
  have hI := hC.I1
  have h9 := hC.v9
  have hfo := hW.2.2.2.2.2.2.2.1
  have hb1 := hB.1
  have hb2 := hB.2.1
  exact ⟨_, _, hW.scr0, h1, 10, 100, by omega, by omega, hC.is0, 10, 100, Nat.le_refl _, Nat.le_refl _, X_caseTicket hC (Nat.le_refl _) (Nat.le_refl _)
    (fun c_pa => okW hW FrS.rfl hC _ (fun w2 fo hF2 ho hv hC2 => ⟨_, _, hW.scr hF2, h1, by
    rw [hW.rw hF2]
    exact ⟨R_i, G_caseTicket hI (fun c_pb => Tl_ok (BE := (fun w z => B_L_law_2627 b K23 Q x (x + 764) (x + 773) x4 w z (mc - 10) (ms - 100))) (QE := (fun w z => Q 0 w z)) (upd_eq _ _ _) ((rwd_o (by omega)).trans ho) hv (hW.go0 hB hK (Nat.le_refl _) hF2 ⟨fo, ho⟩ hC2)) (fun c_pb => absurd c_pa c_pb)⟩⟩))
    (fun c_pa z1 hz1 => ⟨fun _ => ⟨_, _, hW.scr0, h1, by
    rw [hW.rw FrO.rfl']
    exact ⟨R_i, G_caseTicket hI (fun c_pb => absurd c_pb c_pa) (fun c_pb => Tl_ex (BE := (fun w z => B_L_law_2627 b K23 Q x (x + 764) (x + 773) x4 w z (mc - 10) (ms - 100))) (QE := (fun w z => Q 0 w z)) (upd_eq _ _ _) (by decide) (hW.go0 hB hK hz1 FrO.rfl' hfo hC))⟩⟩, fun hh => absurd rfl hh⟩)⟩
theorem law_zone (hW : LW b n sc x Fz g A h tx t cap l L w z) (hB : BG mc ms cap (k + 1)) (h1 : vp_in (x4 + 1) n) (hK : ∀ cap' w' z' mc' ms', LX b n sc x cap' w' z' → BG mc' ms' cap' k → K23 x (x + 764) (x + 773) (x4 + 6) w' z' mc' ms') : B_L_law_1180 b K23 Q x (x + 764) (x + 773) x4 w z mc ms := by
  have hC := hW.1
  have hz := hW.2.1
  have hI := hC.I1
  have h9 := hC.v9
  have hfo := hW.2.2.2.2.2.2.2.1
  have hb1 := hB.1
  have hb2 := hB.2.1
  exact ⟨_, _, hW.scr0, h1, 10, 100, by omega, by omega, hC.is0, 10, 100, Nat.le_refl _, Nat.le_refl _, X_zone hC (Nat.le_refl _) (Nat.le_refl _)
    (fun c_pa => okW hW FrS.rfl hC _ (fun w2 fo hF2 ho hv hC2 => ⟨_, _, hW.scr hF2, h1, by
    rw [hW.rw hF2]
    exact ⟨R_i, G_zone hI (fun c_pb => Tl_ok (BE := (fun w z => B_L_law_1233 b K23 Q x (x + 764) (x + 773) x4 w z (mc - 10) (ms - 100))) (QE := (fun w z => Q 0 w z)) (upd_eq _ _ _) ((rwd_o (by omega)).trans ho) hv (hW.go0 hB hK (Nat.le_refl _) hF2 ⟨fo, ho⟩ hC2)) (fun c_pb => absurd c_pa c_pb)⟩⟩))
    (fun c_pa z1 hz1 => ⟨fun _ => ⟨_, _, hW.scr0, h1, by
    rw [hW.rw FrO.rfl']
    exact ⟨R_i, G_zone hI (fun c_pb => absurd c_pb c_pa) (fun c_pb => Tl_ex (BE := (fun w z => B_L_law_1233 b K23 Q x (x + 764) (x + 773) x4 w z (mc - 10) (ms - 100))) (QE := (fun w z => Q 0 w z)) (upd_eq _ _ _) (by decide) (hW.go0 hB hK hz1 FrO.rfl' hfo hC))⟩⟩, fun hh => absurd rfl hh⟩)⟩
theorem law_zonesBetween (hW : LW b n sc x Fz g A h tx t cap l L w z) (hB : BG mc ms cap (k + 1)) (h1 : vp_in (x4 + 1) n) (h2 : vp_in (x4 + 2) n) (hK : ∀ cap' w' z' mc' ms', LX b n sc x cap' w' z' → BG mc' ms' cap' k → K23 x (x + 764) (x + 773) (x4 + 6) w' z' mc' ms') : B_L_law_1236 b K23 Q x (x + 764) (x + 773) x4 w z mc ms := by
  have hC := hW.1
  have hz := hW.2.1
  have hI := hC.I1
  have h9 := hC.v9
  have hfo := hW.2.2.2.2.2.2.2.1
  have hb1 := hB.1
  have hb2 := hB.2.1
  exact ⟨_, _, hW.scr0, h1, _, _, hW.scr0, h2, 10, 100, by omega, by omega, hC.is0, 10, 100, Nat.le_refl _, Nat.le_refl _, X_zonesBetween hC (Nat.le_refl _) (Nat.le_refl _)
    (fun c_pa c_qa => okW hW FrS.rfl hC _ (fun w2 fo hF2 ho hv hC2 => ⟨_, _, hW.scr hF2, h1, _, _, hW.scr hF2, h2, by
    rw [hW.rw hF2]
    exact ⟨R_i, G_zonesBetween hI (fun c_pb c_qb => Tl_ok (BE := (fun w z => B_L_law_1301 b K23 Q x (x + 764) (x + 773) x4 w z (mc - 10) (ms - 100))) (QE := (fun w z => Q 0 w z)) (upd_eq _ _ _) ((rwd_o (by omega)).trans ho) hv (hW.go0 hB hK (Nat.le_refl _) hF2 ⟨fo, ho⟩ hC2)) (fun c_pb => absurd ⟨c_pa, c_qa⟩ c_pb)⟩⟩))
    (fun c_pa z1 hz1 => ⟨fun _ => ⟨_, _, hW.scr0, h1, _, _, hW.scr0, h2, by
    rw [hW.rw FrO.rfl']
    exact ⟨R_i, G_zonesBetween hI (fun c_pb c_qb => absurd ⟨c_pb, c_qb⟩ c_pa) (fun c_pb => Tl_ex (BE := (fun w z => B_L_law_1301 b K23 Q x (x + 764) (x + 773) x4 w z (mc - 10) (ms - 100))) (QE := (fun w z => Q 0 w z)) (upd_eq _ _ _) (by decide) (hW.go0 hB hK hz1 FrO.rfl' hfo hC))⟩⟩, fun hh => absurd rfl hh⟩)⟩
theorem law_cheapestKind (hW : LW b n sc x Fz g A h tx t cap l L w z) (hB : BG mc ms cap (k + 1)) (h1 : vp_in (x4 + 1) n) (h2 : vp_in (x4 + 2) n) (hK : ∀ cap' w' z' mc' ms', LX b n sc x cap' w' z' → BG mc' ms' cap' k → K23 x (x + 764) (x + 773) (x4 + 6) w' z' mc' ms') : B_L_law_1771 b K23 Q x (x + 764) (x + 773) x4 w z mc ms := by
  have hC := hW.1
  have hz := hW.2.1
  have hI := hC.I1
  have h9 := hC.v9
  have hfo := hW.2.2.2.2.2.2.2.1
  have hb1 := hB.1
  have hb2 := hB.2.1
  exact ⟨_, _, hW.scr0, h1, _, _, hW.scr0, h2, 10, 100, by omega, by omega, hC.is0, 10, 100, Nat.le_refl _, Nat.le_refl _, X_cheapestKind hC (Nat.le_refl _) (Nat.le_refl _)
    (fun c_pa c_qa => okW hW FrS.rfl hC _ (fun w2 fo hF2 ho hv hC2 => ⟨_, _, hW.scr hF2, h1, _, _, hW.scr hF2, h2, by
    rw [hW.rw hF2]
    exact ⟨R_i, G_cheapestKind hI (fun c_pb c_qb => Tl_ok (BE := (fun w z => B_L_law_1836 b K23 Q x (x + 764) (x + 773) x4 w z (mc - 10) (ms - 100))) (QE := (fun w z => Q 0 w z)) (upd_eq _ _ _) ((rwd_o (by omega)).trans ho) hv (hW.go0 hB hK (Nat.le_refl _) hF2 ⟨fo, ho⟩ hC2)) (fun c_pb => absurd ⟨c_pa, c_qa⟩ c_pb)⟩⟩))
    (fun c_pa z1 hz1 => ⟨fun _ => ⟨_, _, hW.scr0, h1, _, _, hW.scr0, h2, by
    rw [hW.rw FrO.rfl']
    exact ⟨R_i, G_cheapestKind hI (fun c_pb c_qb => absurd ⟨c_pb, c_qb⟩ c_pa) (fun c_pb => Tl_ex (BE := (fun w z => B_L_law_1836 b K23 Q x (x + 764) (x + 773) x4 w z (mc - 10) (ms - 100))) (QE := (fun w z => Q 0 w z)) (upd_eq _ _ _) (by decide) (hW.go0 hB hK hz1 FrO.rfl' hfo hC))⟩⟩, fun hh => absurd rfl hh⟩)⟩
theorem law_outlook (hW : LW b n sc x Fz g A h tx t cap l L w z) (hB : BG mc ms cap (k + 1)) (h1 : vp_in (x4 + 1) n) (h2 : vp_in (x4 + 2) n) (hK : ∀ cap' w' z' mc' ms', LX b n sc x cap' w' z' → BG mc' ms' cap' k → K23 x (x + 764) (x + 773) (x4 + 6) w' z' mc' ms') : B_L_law_2693 b K23 Q x (x + 764) (x + 773) x4 w z mc ms := by
  have hC := hW.1
  have hz := hW.2.1
  have hI := hC.I1
  have h9 := hC.v9
  have hfo := hW.2.2.2.2.2.2.2.1
  have hb1 := hB.1
  have hb2 := hB.2.1
  exact ⟨_, _, hW.scr0, h1, _, _, hW.scr0, h2, 10, 100, by omega, by omega, hC.is0, 10, 100, Nat.le_refl _, Nat.le_refl _, X_outlook hC (Nat.le_refl _) (Nat.le_refl _)
    (fun c_pa c_qa => okW hW FrS.rfl hC _ (fun w2 fo hF2 ho hv hC2 => ⟨_, _, hW.scr hF2, h1, _, _, hW.scr hF2, h2, by
    rw [hW.rw hF2]
    exact ⟨R_i, G_outlook hI (fun c_pb c_qb => Tl_ok (BE := (fun w z => B_L_law_2758 b K23 Q x (x + 764) (x + 773) x4 w z (mc - 10) (ms - 100))) (QE := (fun w z => Q 0 w z)) (upd_eq _ _ _) ((rwd_o (by omega)).trans ho) hv (hW.go0 hB hK (Nat.le_refl _) hF2 ⟨fo, ho⟩ hC2)) (fun c_pb => absurd ⟨c_pa, c_qa⟩ c_pb)⟩⟩))
    (fun c_pa z1 hz1 => ⟨fun _ => ⟨_, _, hW.scr0, h1, _, _, hW.scr0, h2, by
    rw [hW.rw FrO.rfl']
    exact ⟨R_i, G_outlook hI (fun c_pb c_qb => absurd ⟨c_pb, c_qb⟩ c_pa) (fun c_pb => Tl_ex (BE := (fun w z => B_L_law_2758 b K23 Q x (x + 764) (x + 773) x4 w z (mc - 10) (ms - 100))) (QE := (fun w z => Q 0 w z)) (upd_eq _ _ _) (by decide) (hW.go0 hB hK hz1 FrO.rfl' hfo hC))⟩⟩, fun hh => absurd rfl hh⟩)⟩
theorem law_nameByte (hW : LW b n sc x Fz g A h tx t cap l L w z) (hB : BG mc ms cap (k + 1)) (h1 : vp_in (x4 + 1) n) (h2 : vp_in (x4 + 2) n) (hK : ∀ cap' w' z' mc' ms', LX b n sc x cap' w' z' → BG mc' ms' cap' k → K23 x (x + 764) (x + 773) (x4 + 6) w' z' mc' ms') : B_L_law_1703 b K23 Q x (x + 764) (x + 773) x4 w z mc ms := by
  have hC := hW.1
  have hz := hW.2.1
  have hI := hC.I1
  have h9 := hC.v9
  have hfo := hW.2.2.2.2.2.2.2.1
  have hb1 := hB.1
  have hb2 := hB.2.1
  exact ⟨_, _, hW.scr0, h1, _, _, hW.scr0, h2, 10, 100, by omega, by omega, hC.is0, 10, 100, Nat.le_refl _, Nat.le_refl _, X_nameByte hC (Nat.le_refl _) (Nat.le_refl _)
    (fun c_pa c_qa => okW hW FrS.rfl hC _ (fun w2 fo hF2 ho hv hC2 => ⟨_, _, hW.scr hF2, h1, _, _, hW.scr hF2, h2, by
    rw [hW.rw hF2]
    exact ⟨R_i, G_nameByte hI (fun c_pb c_qb => Tl_ok (BE := (fun w z => B_L_law_1768 b K23 Q x (x + 764) (x + 773) x4 w z (mc - 10) (ms - 100))) (QE := (fun w z => Q 0 w z)) (upd_eq _ _ _) ((rwd_o (by omega)).trans ho) hv (hW.go0 hB hK (Nat.le_refl _) hF2 ⟨fo, ho⟩ hC2)) (fun c_pb c_qb => absurd c_qa c_qb) (fun c_pb => absurd c_pa c_pb)⟩⟩))
    (fun c_pa c_qa => okW hW FrS.rfl hC _ (fun w2 fo hF2 ho hv hC2 => ⟨_, _, hW.scr hF2, h1, _, _, hW.scr hF2, h2, by
    rw [hW.rw hF2]
    exact ⟨R_i, G_nameByte hI (fun c_pb c_qb => absurd c_qb c_qa) (fun c_pb c_qb => Tl_ok (BE := (fun w z => B_L_law_1768 b K23 Q x (x + 764) (x + 773) x4 w z (mc - 10) (ms - 100))) (QE := (fun w z => Q 0 w z)) (upd_eq _ _ _) ((rwd_o (by omega)).trans ho) hv (hW.go0 hB hK (Nat.le_refl _) hF2 ⟨fo, ho⟩ hC2)) (fun c_pb => absurd c_pa c_pb)⟩⟩))
    (fun c_pa z1 hz1 => ⟨fun _ => ⟨_, _, hW.scr0, h1, _, _, hW.scr0, h2, by
    rw [hW.rw FrO.rfl']
    exact ⟨R_i, G_nameByte hI (fun c_pb c_qb => absurd c_pb c_pa) (fun c_pb c_qb => absurd c_pb c_pa) (fun c_pb => Tl_ex (BE := (fun w z => B_L_law_1768 b K23 Q x (x + 764) (x + 773) x4 w z (mc - 10) (ms - 100))) (QE := (fun w z => Q 0 w z)) (upd_eq _ _ _) (by decide) (hW.go0 hB hK hz1 FrO.rfl' hfo hC))⟩⟩, fun hh => absurd rfl hh⟩)⟩
theorem law_buy (hW : LW b n sc x Fz g A h tx t cap l L w z) (hB : BG mc ms cap (k + 1)) (h1 : vp_in (x4 + 1) n) (h2 : vp_in (x4 + 2) n) (h3 : vp_in (x4 + 3) n) (hK : ∀ cap' w' z' mc' ms', LX b n sc x cap' w' z' → BG mc' ms' cap' k → K23 x (x + 764) (x + 773) (x4 + 6) w' z' mc' ms') : B_L_law_469 b K23 Q x (x + 764) (x + 773) x4 w z mc ms := by
  have hC := hW.1
  have hz := hW.2.1
  have hI := hC.I1
  have h9 := hC.v9
  have hfo := hW.2.2.2.2.2.2.2.1
  have hb1 := hB.1
  have hb2 := hB.2.1
  exact ⟨_, _, hW.scr0, h1, _, _, hW.scr0, h2, _, _, hW.scr0, h3, 10, 100, by omega, by omega, hC.is0, 10, 100, Nat.le_refl _, Nat.le_refl _, CS.buy hC hz (Nat.le_refl _) (Nat.le_refl _)
    (fun c_pa c_ka c_ya c_ba w1 hC1 hF1 => okW hW hF1 hC1 _ (fun w2 fo hF2 ho hv hC2 => ⟨_, _, hW.scr hF2, h1, _, _, hW.scr hF2, h2, _, _, hW.scr hF2, h3, by
    rw [hW.rw hF2]
    exact ⟨R_i, R_buy hI h9 (fun c_pb c_kb c_yb c_bb => Tl_ok (BE := (fun w z => B_L_law_546 b K23 Q x (x + 764) (x + 773) x4 w z (mc - 10) (ms - 100))) (QE := (fun w z => Q 0 w z)) g6_1 ((rwd_o (by omega)).trans ho) hv (hW.go1 hB hK (Nat.le_refl _) hF2 ⟨fo, ho⟩ hC2)) (fun c_pb => absurd c_pa c_pb) (fun c_pb c_nb => absurd ⟨c_ka, c_ya⟩ c_nb) (fun c_pb c_kb c_yb c_bb => absurd c_bb c_ba)⟩⟩))
    (fun c_pa z1 hz1 => ⟨fun _ => ⟨_, _, hW.scr0, h1, _, _, hW.scr0, h2, _, _, hW.scr0, h3, by
    rw [hW.rw FrO.rfl']
    exact ⟨R_i, R_buy hI h9 (fun c_pb c_kb c_yb c_bb => absurd c_pb c_pa) (fun c_pb => Tl_ex (BE := (fun w z => B_L_law_546 b K23 Q x (x + 764) (x + 773) x4 w z (mc - 10) (ms - 100))) (QE := (fun w z => Q 0 w z)) (upd_eq _ _ _) (by decide) (hW.go0 hB hK hz1 FrO.rfl' hfo hC)) (fun c_pb c_nb => absurd c_pb c_pa) (fun c_pb c_kb c_yb c_bb => absurd c_pb c_pa)⟩⟩, fun hh => absurd rfl hh⟩)
    (fun c_pa c_na z1 hz1 => ⟨fun hh => absurd hh (by decide), fun _ => ⟨fun _ => ⟨_, _, hW.scr0, h1, _, _, hW.scr0, h2, _, _, hW.scr0, h3, by
    rw [hW.rw FrO.rfl']
    exact ⟨R_i, R_buy hI h9 (fun c_pb c_kb c_yb c_bb => absurd ⟨c_kb, c_yb⟩ c_na) (fun c_pb => absurd c_pa c_pb) (fun c_pb c_nb => Tl_ex (BE := (fun w z => B_L_law_546 b K23 Q x (x + 764) (x + 773) x4 w z (mc - 10) (ms - 100))) (QE := (fun w z => Q 0 w z)) (upd_eq _ _ _) (by decide) (hW.go0 hB hK hz1 FrO.rfl' hfo hC)) (fun c_pb c_kb c_yb c_bb => absurd ⟨c_kb, c_yb⟩ c_na)⟩⟩, fun hh => absurd rfl hh⟩⟩)
    (fun c_pa c_ka c_ya c_ba z1 hz1 => ⟨fun hh => absurd hh (by decide), fun _ => ⟨fun hh => absurd hh (by decide), fun _ => ⟨fun _ => ⟨_, _, hW.scr0, h1, _, _, hW.scr0, h2, _, _, hW.scr0, h3, by
    rw [hW.rw FrO.rfl']
    exact ⟨R_i, R_buy hI h9 (fun c_pb c_kb c_yb c_bb => absurd c_ba c_bb) (fun c_pb => absurd c_pa c_pb) (fun c_pb c_nb => absurd ⟨c_ka, c_ya⟩ c_nb) (fun c_pb c_kb c_yb c_bb => Tl_ex (BE := (fun w z => B_L_law_546 b K23 Q x (x + 764) (x + 773) x4 w z (mc - 10) (ms - 100))) (QE := (fun w z => Q 0 w z)) (upd_eq _ _ _) (by decide) (hW.go0 hB hK hz1 FrO.rfl' hfo hC))⟩⟩, fun hh => absurd rfl hh⟩⟩⟩)⟩
theorem law_ride (hW : LW b n sc x Fz g A h tx t cap l L w z) (hB : BG mc ms cap (k + 1)) (h1 : vp_in (x4 + 1) n) (h2 : vp_in (x4 + 2) n) (h3 : vp_in (x4 + 3) n) (h4 : vp_in (x4 + 4) n) (hK : ∀ cap' w' z' mc' ms', LX b n sc x cap' w' z' → BG mc' ms' cap' k → K23 x (x + 764) (x + 773) (x4 + 6) w' z' mc' ms') : B_L_law_549 b K23 Q x (x + 764) (x + 773) x4 w z mc ms := by
  have hC := hW.1
  have hz := hW.2.1
  have hI := hC.I1
  have h9 := hC.v9
  have hfo := hW.2.2.2.2.2.2.2.1
  have hb1 := hB.1
  have hb2 := hB.2.1
  exact ⟨_, _, hW.scr0, h1, _, _, hW.scr0, h2, _, _, hW.scr0, h3, _, _, hW.scr0, h4, 10, 100, by omega, by omega, hC.is0, 10, 100, Nat.le_refl _, Nat.le_refl _, CS.ride hC hz (Nat.le_refl _) (Nat.le_refl _)
    (fun c_pa c_aa c_ca c_ta c_ea c_ba w1 hC1 hF1 => okW hW hF1 hC1 _ (fun w2 fo hF2 ho hv hC2 => ⟨_, _, hW.scr hF2, h1, _, _, hW.scr hF2, h2, _, _, hW.scr hF2, h3, _, _, hW.scr hF2, h4, by
    rw [hW.rw hF2]
    exact ⟨R_i, R_ride hI h9 (fun c_pb c_ab c_cb c_tb c_eb c_bb => by
      rw [ride_ans (vp_cl8 hI c_pb)]
      exact Tl_ok (BE := (fun w z => B_L_law_638 b K23 Q x (x + 764) (x + 773) x4 w z (mc - 10) (ms - 100))) (QE := (fun w z => Q 0 w z)) g6_1 ((rwd_o (by omega)).trans ho) hv (hW.go1 hB hK (Nat.le_refl _) hF2 ⟨fo, ho⟩ hC2)) (fun c_nb => absurd ⟨c_pa, c_aa, c_ca, c_ta⟩ c_nb) (fun c_pb c_ab c_cb c_tb c_eb => absurd c_eb c_ea) (fun c_pb c_ab c_cb c_tb c_eb c_bb => absurd c_bb c_ba)⟩⟩))
    (fun c_na z1 hz1 => ⟨fun _ => ⟨_, _, hW.scr0, h1, _, _, hW.scr0, h2, _, _, hW.scr0, h3, _, _, hW.scr0, h4, by
    rw [hW.rw FrO.rfl']
    exact ⟨R_i, R_ride hI h9 (fun c_pb c_ab c_cb c_tb c_eb c_bb => absurd ⟨c_pb, c_ab, c_cb, c_tb⟩ c_na) (fun c_nb => Tl_ex (BE := (fun w z => B_L_law_638 b K23 Q x (x + 764) (x + 773) x4 w z (mc - 10) (ms - 100))) (QE := (fun w z => Q 0 w z)) (upd_eq _ _ _) (by decide) (hW.go0 hB hK hz1 FrO.rfl' hfo hC)) (fun c_pb c_ab c_cb c_tb c_eb => absurd ⟨c_pb, c_ab, c_cb, c_tb⟩ c_na) (fun c_pb c_ab c_cb c_tb c_eb c_bb => absurd ⟨c_pb, c_ab, c_cb, c_tb⟩ c_na)⟩⟩, fun hh => absurd rfl hh⟩)
    (fun c_pa c_aa c_ca c_ta c_ea z1 hz1 => ⟨fun hh => absurd hh (by decide), fun _ => ⟨fun _ => ⟨_, _, hW.scr0, h1, _, _, hW.scr0, h2, _, _, hW.scr0, h3, _, _, hW.scr0, h4, by
    rw [hW.rw FrO.rfl']
    exact ⟨R_i, R_ride hI h9 (fun c_pb c_ab c_cb c_tb c_eb c_bb => absurd c_ea c_eb) (fun c_nb => absurd ⟨c_pa, c_aa, c_ca, c_ta⟩ c_nb) (fun c_pb c_ab c_cb c_tb c_eb => Tl_ex (BE := (fun w z => B_L_law_638 b K23 Q x (x + 764) (x + 773) x4 w z (mc - 10) (ms - 100))) (QE := (fun w z => Q 0 w z)) (upd_eq _ _ _) (by decide) (hW.go0 hB hK hz1 FrO.rfl' hfo hC)) (fun c_pb c_ab c_cb c_tb c_eb c_bb => absurd c_ea c_eb)⟩⟩, fun hh => absurd rfl hh⟩⟩)
    (fun c_pa c_aa c_ca c_ta c_ea c_ba z1 hz1 => ⟨fun hh => absurd hh (by decide), fun _ => ⟨fun hh => absurd hh (by decide), fun _ => ⟨fun _ => ⟨_, _, hW.scr0, h1, _, _, hW.scr0, h2, _, _, hW.scr0, h3, _, _, hW.scr0, h4, by
    rw [hW.rw FrO.rfl']
    exact ⟨R_i, R_ride hI h9 (fun c_pb c_ab c_cb c_tb c_eb c_bb => absurd c_ba c_bb) (fun c_nb => absurd ⟨c_pa, c_aa, c_ca, c_ta⟩ c_nb) (fun c_pb c_ab c_cb c_tb c_eb => absurd c_eb c_ea) (fun c_pb c_ab c_cb c_tb c_eb c_bb => Tl_ex (BE := (fun w z => B_L_law_638 b K23 Q x (x + 764) (x + 773) x4 w z (mc - 10) (ms - 100))) (QE := (fun w z => Q 0 w z)) (upd_eq _ _ _) (by decide) (hW.go0 hB hK hz1 FrO.rfl' hfo hC))⟩⟩, fun hh => absurd rfl hh⟩⟩⟩)⟩
theorem law_inspect (hW : LW b n sc x Fz g A h tx t cap l L w z) (hB : BG mc ms cap (k + 1)) (h1 : vp_in (x4 + 1) n) (hK : ∀ cap' w' z' mc' ms', LX b n sc x cap' w' z' → BG mc' ms' cap' k → K23 x (x + 764) (x + 773) (x4 + 6) w' z' mc' ms') : B_L_law_641 b K23 Q x (x + 764) (x + 773) x4 w z mc ms := by
  have hC := hW.1
  have hz := hW.2.1
  have hI := hC.I1
  have h9 := hC.v9
  have hfo := hW.2.2.2.2.2.2.2.1
  have hb1 := hB.1
  have hb2 := hB.2.1
  exact ⟨_, _, hW.scr0, h1, 10, 100, by omega, by omega, hC.is0, 10, 100, Nat.le_refl _, Nat.le_refl _, CS.inspect hC hz (Nat.le_refl _) (Nat.le_refl _)
    (fun c_pa c_ba w1 hC1 hF1 => okW hW hF1 hC1 _ (fun w2 fo hF2 ho hv hC2 => ⟨_, _, hW.scr hF2, h1, by
    rw [hW.rw hF2]
    exact ⟨R_i, R_inspect hI h9 (fun c_pb c_bb => Tl_ok (BE := (fun w z => B_L_law_694 b K23 Q x (x + 764) (x + 773) x4 w z (mc - 10) (ms - 100))) (QE := (fun w z => Q 0 w z)) g6_1 ((rwd_o (by omega)).trans ho) hv (hW.go1 hB hK (Nat.le_refl _) hF2 ⟨fo, ho⟩ hC2)) (fun c_pb => absurd c_pa c_pb) (fun c_pb c_bb => absurd c_bb c_ba)⟩⟩))
    (fun c_pa z1 hz1 => ⟨fun _ => ⟨_, _, hW.scr0, h1, by
    rw [hW.rw FrO.rfl']
    exact ⟨R_i, R_inspect hI h9 (fun c_pb c_bb => absurd c_pb c_pa) (fun c_pb => Tl_ex (BE := (fun w z => B_L_law_694 b K23 Q x (x + 764) (x + 773) x4 w z (mc - 10) (ms - 100))) (QE := (fun w z => Q 0 w z)) (upd_eq _ _ _) (by decide) (hW.go0 hB hK hz1 FrO.rfl' hfo hC)) (fun c_pb c_bb => absurd c_pb c_pa)⟩⟩, fun hh => absurd rfl hh⟩)
    (fun c_pa c_ba z1 hz1 => ⟨fun hh => absurd hh (by decide), fun _ => ⟨fun _ => ⟨_, _, hW.scr0, h1, by
    rw [hW.rw FrO.rfl']
    exact ⟨R_i, R_inspect hI h9 (fun c_pb c_bb => absurd c_ba c_bb) (fun c_pb => absurd c_pa c_pb) (fun c_pb c_bb => Tl_ex (BE := (fun w z => B_L_law_694 b K23 Q x (x + 764) (x + 773) x4 w z (mc - 10) (ms - 100))) (QE := (fun w z => Q 0 w z)) (upd_eq _ _ _) (by decide) (hW.go0 hB hK hz1 FrO.rfl' hfo hC))⟩⟩, fun hh => absurd rfl hh⟩⟩)⟩
theorem law_pay (hW : LW b n sc x Fz g A h tx t cap l L w z) (hB : BG mc ms cap (k + 1)) (h1 : vp_in (x4 + 1) n) (hK : ∀ cap' w' z' mc' ms', LX b n sc x cap' w' z' → BG mc' ms' cap' k → K23 x (x + 764) (x + 773) (x4 + 6) w' z' mc' ms') : B_L_law_877 b K23 Q x (x + 764) (x + 773) x4 w z mc ms := by
  have hC := hW.1
  have hz := hW.2.1
  have hI := hC.I1
  have h9 := hC.v9
  have hfo := hW.2.2.2.2.2.2.2.1
  have hb1 := hB.1
  have hb2 := hB.2.1
  exact ⟨_, _, hW.scr0, h1, 10, 100, by omega, by omega, hC.is0, 10, 100, Nat.le_refl _, Nat.le_refl _, CS.pay hC hz (Nat.le_refl _) (Nat.le_refl _)
    (fun c_pa c_ba w1 hC1 hF1 => okW hW hF1 hC1 _ (fun w2 fo hF2 ho hv hC2 => ⟨_, _, hW.scr hF2, h1, by
    rw [hW.rw hF2]
    exact ⟨R_i, R_pay hI h9 (fun c_pb c_bb => Tl_ok (BE := (fun w z => B_L_law_930 b K23 Q x (x + 764) (x + 773) x4 w z (mc - 10) (ms - 100))) (QE := (fun w z => Q 0 w z)) g6_1 ((rwd_o (by omega)).trans ho) hv (hW.go1 hB hK (Nat.le_refl _) hF2 ⟨fo, ho⟩ hC2)) (fun c_pb => absurd c_pa c_pb) (fun c_pb c_bb => absurd c_bb c_ba)⟩⟩))
    (fun c_pa z1 hz1 => ⟨fun _ => ⟨_, _, hW.scr0, h1, by
    rw [hW.rw FrO.rfl']
    exact ⟨R_i, R_pay hI h9 (fun c_pb c_bb => absurd c_pb c_pa) (fun c_pb => Tl_ex (BE := (fun w z => B_L_law_930 b K23 Q x (x + 764) (x + 773) x4 w z (mc - 10) (ms - 100))) (QE := (fun w z => Q 0 w z)) (upd_eq _ _ _) (by decide) (hW.go0 hB hK hz1 FrO.rfl' hfo hC)) (fun c_pb c_bb => absurd c_pb c_pa)⟩⟩, fun hh => absurd rfl hh⟩)
    (fun c_pa c_ba z1 hz1 => ⟨fun hh => absurd hh (by decide), fun _ => ⟨fun _ => ⟨_, _, hW.scr0, h1, by
    rw [hW.rw FrO.rfl']
    exact ⟨R_i, R_pay hI h9 (fun c_pb c_bb => absurd c_ba c_bb) (fun c_pb => absurd c_pa c_pb) (fun c_pb c_bb => Tl_ex (BE := (fun w z => B_L_law_930 b K23 Q x (x + 764) (x + 773) x4 w z (mc - 10) (ms - 100))) (QE := (fun w z => Q 0 w z)) (upd_eq _ _ _) (by decide) (hW.go0 hB hK hz1 FrO.rfl' hfo hC))⟩⟩, fun hh => absurd rfl hh⟩⟩)⟩
theorem law_decide (hW : LW b n sc x Fz g A h tx t cap l L w z) (hB : BG mc ms cap (k + 1)) (h1 : vp_in (x4 + 1) n) (hK : ∀ cap' w' z' mc' ms', LX b n sc x cap' w' z' → BG mc' ms' cap' k → K23 x (x + 764) (x + 773) (x4 + 6) w' z' mc' ms') : B_L_law_821 b K23 Q x (x + 764) (x + 773) x4 w z mc ms := by
  have hC := hW.1
  have hz := hW.2.1
  have hI := hC.I1
  have h9 := hC.v9
  have hfo := hW.2.2.2.2.2.2.2.1
  have hb1 := hB.1
  have hb2 := hB.2.1
  exact ⟨_, _, hW.scr0, h1, 10, 100, by omega, by omega, hC.is0, 10, 100, Nat.le_refl _, Nat.le_refl _, CS.decide hC hz (Nat.le_refl _) (Nat.le_refl _)
    (fun c_pa c_ba w1 hC1 hF1 => okW hW hF1 hC1 _ (fun w2 fo hF2 ho hv hC2 => ⟨_, _, hW.scr hF2, h1, by
    rw [hW.rw hF2]
    exact ⟨R_i, R_decide hI h9 (fun c_pb c_bb => Tl_ok (BE := (fun w z => B_L_law_874 b K23 Q x (x + 764) (x + 773) x4 w z (mc - 10) (ms - 100))) (QE := (fun w z => Q 0 w z)) g6_1 ((rwd_o (by omega)).trans ho) hv (hW.go1 hB hK (Nat.le_refl _) hF2 ⟨fo, ho⟩ hC2)) (fun c_pb => absurd c_pa c_pb) (fun c_pb c_bb => absurd c_ba c_bb)⟩⟩))
    (fun c_pa z1 hz1 => ⟨fun _ => ⟨_, _, hW.scr0, h1, by
    rw [hW.rw FrO.rfl']
    exact ⟨R_i, R_decide hI h9 (fun c_pb c_bb => absurd c_pb c_pa) (fun c_pb => Tl_ex (BE := (fun w z => B_L_law_874 b K23 Q x (x + 764) (x + 773) x4 w z (mc - 10) (ms - 100))) (QE := (fun w z => Q 0 w z)) (upd_eq _ _ _) (by decide) (hW.go0 hB hK hz1 FrO.rfl' hfo hC)) (fun c_pb c_bb => absurd c_pb c_pa)⟩⟩, fun hh => absurd rfl hh⟩)
    (fun c_pa c_ba z1 hz1 => ⟨fun hh => absurd hh (by decide), fun _ => ⟨fun _ => ⟨_, _, hW.scr0, h1, by
    rw [hW.rw FrO.rfl']
    exact ⟨R_i, R_decide hI h9 (fun c_pb c_bb => absurd c_bb c_ba) (fun c_pb => absurd c_pa c_pb) (fun c_pb c_bb => Tl_ex (BE := (fun w z => B_L_law_874 b K23 Q x (x + 764) (x + 773) x4 w z (mc - 10) (ms - 100))) (QE := (fun w z => Q 0 w z)) (upd_eq _ _ _) (by decide) (hW.go0 hB hK hz1 FrO.rfl' hfo hC))⟩⟩, fun hh => absurd rfl hh⟩⟩)⟩
theorem law_appeal (hW : LW b n sc x Fz g A h tx t cap l L w z) (hB : BG mc ms cap (k + 1)) (h1 : vp_in (x4 + 1) n) (h2 : vp_in (x4 + 2) n) (hK : ∀ cap' w' z' mc' ms', LX b n sc x cap' w' z' → BG mc' ms' cap' k → K23 x (x + 764) (x + 773) (x4 + 6) w' z' mc' ms') : B_L_law_753 b K23 Q x (x + 764) (x + 773) x4 w z mc ms := by
  have hC := hW.1
  have hz := hW.2.1
  have hI := hC.I1
  have h9 := hC.v9
  have hfo := hW.2.2.2.2.2.2.2.1
  have hb1 := hB.1
  have hb2 := hB.2.1
  exact ⟨_, _, hW.scr0, h1, _, _, hW.scr0, h2, 10, 100, by omega, by omega, hC.is0, 10, 100, Nat.le_refl _, Nat.le_refl _, CS.appeal hC hz (Nat.le_refl _) (Nat.le_refl _)
    (fun c_pa c_ta c_ba w1 hC1 hF1 => okW hW hF1 hC1 _ (fun w2 fo hF2 ho hv hC2 => ⟨_, _, hW.scr hF2, h1, _, _, hW.scr hF2, h2, by
    rw [hW.rw hF2]
    exact ⟨R_i, R_appeal hI h9 (fun c_pb c_tb c_bb => Tl_ok (BE := (fun w z => B_L_law_818 b K23 Q x (x + 764) (x + 773) x4 w z (mc - 10) (ms - 100))) (QE := (fun w z => Q 0 w z)) g6_1 ((rwd_o (by omega)).trans ho) hv (hW.go1 hB hK (Nat.le_refl _) hF2 ⟨fo, ho⟩ hC2)) (fun c_nb => absurd ⟨c_pa, c_ta⟩ c_nb) (fun c_pb c_tb c_bb => absurd c_bb c_ba)⟩⟩))
    (fun c_na z1 hz1 => ⟨fun _ => ⟨_, _, hW.scr0, h1, _, _, hW.scr0, h2, by
    rw [hW.rw FrO.rfl']
    exact ⟨R_i, R_appeal hI h9 (fun c_pb c_tb c_bb => absurd ⟨c_pb, c_tb⟩ c_na) (fun c_nb => Tl_ex (BE := (fun w z => B_L_law_818 b K23 Q x (x + 764) (x + 773) x4 w z (mc - 10) (ms - 100))) (QE := (fun w z => Q 0 w z)) (upd_eq _ _ _) (by decide) (hW.go0 hB hK hz1 FrO.rfl' hfo hC)) (fun c_pb c_tb c_bb => absurd ⟨c_pb, c_tb⟩ c_na)⟩⟩, fun hh => absurd rfl hh⟩)
    (fun c_pa c_ta c_ba z1 hz1 => ⟨fun hh => absurd hh (by decide), fun _ => ⟨fun _ => ⟨_, _, hW.scr0, h1, _, _, hW.scr0, h2, by
    rw [hW.rw FrO.rfl']
    exact ⟨R_i, R_appeal hI h9 (fun c_pb c_tb c_bb => absurd c_ba c_bb) (fun c_nb => absurd ⟨c_pa, c_ta⟩ c_nb) (fun c_pb c_tb c_bb => Tl_ex (BE := (fun w z => B_L_law_818 b K23 Q x (x + 764) (x + 773) x4 w z (mc - 10) (ms - 100))) (QE := (fun w z => Q 0 w z)) (upd_eq _ _ _) (by decide) (hW.go0 hB hK hz1 FrO.rfl' hfo hC))⟩⟩, fun hh => absurd rfl hh⟩⟩)⟩
theorem law_waitFor (hW : LW b n sc x Fz g A h tx t cap l L w z) (hB : BG mc ms cap (k + 1)) (h1 : vp_in (x4 + 1) n) (hK : ∀ cap' w' z' mc' ms', LX b n sc x cap' w' z' → BG mc' ms' cap' k → K23 x (x + 764) (x + 773) (x4 + 6) w' z' mc' ms') : B_L_law_697 b K23 Q x (x + 764) (x + 773) x4 w z mc ms := by
  have hC := hW.1
  have hz := hW.2.1
  have hI := hC.I1
  have h9 := hC.v9
  have hfo := hW.2.2.2.2.2.2.2.1
  have hb1 := hB.1
  have hb2 := hB.2.1
  exact ⟨_, _, hW.scr0, h1, 10, 100, by omega, by omega, hC.is0, 10, 100, Nat.le_refl _, Nat.le_refl _, CS.wait hC hz (Nat.le_refl _) (Nat.le_refl _)
    (fun c_pa c_qa c_ba w1 hC1 hF1 => okW hW hF1 hC1 _ (fun w2 fo hF2 ho hv hC2 => ⟨_, _, hW.scr hF2, h1, by
    rw [hW.rw hF2]
    exact ⟨R_i, R_wait hI h9 (fun c_pb c_qb c_bb => Tl_ok (BE := (fun w z => B_L_law_750 b K23 Q x (x + 764) (x + 773) x4 w z (mc - 10) (ms - 100))) (QE := (fun w z => Q 0 w z)) g6_1 ((rwd_o (by omega)).trans ho) hv (hW.go1 hB hK (Nat.le_refl _) hF2 ⟨fo, ho⟩ hC2)) (fun c_nb => absurd ⟨c_pa, c_qa⟩ c_nb) (fun c_pb c_qb c_bb => absurd c_ba c_bb)⟩⟩))
    (fun c_na z1 hz1 => ⟨fun _ => ⟨_, _, hW.scr0, h1, by
    rw [hW.rw FrO.rfl']
    exact ⟨R_i, R_wait hI h9 (fun c_pb c_qb c_bb => absurd ⟨c_pb, c_qb⟩ c_na) (fun c_nb => Tl_ex (BE := (fun w z => B_L_law_750 b K23 Q x (x + 764) (x + 773) x4 w z (mc - 10) (ms - 100))) (QE := (fun w z => Q 0 w z)) (upd_eq _ _ _) (by decide) (hW.go0 hB hK hz1 FrO.rfl' hfo hC)) (fun c_pb c_qb c_bb => absurd ⟨c_pb, c_qb⟩ c_na)⟩⟩, fun hh => absurd rfl hh⟩)
    (fun c_pa c_qa c_ba z1 hz1 => ⟨fun hh => absurd hh (by decide), fun _ => ⟨fun _ => ⟨_, _, hW.scr0, h1, by
    rw [hW.rw FrO.rfl']
    exact ⟨R_i, R_wait hI h9 (fun c_pb c_qb c_bb => absurd c_bb c_ba) (fun c_nb => absurd ⟨c_pa, c_qa⟩ c_nb) (fun c_pb c_qb c_bb => Tl_ex (BE := (fun w z => B_L_law_750 b K23 Q x (x + 764) (x + 773) x4 w z (mc - 10) (ms - 100))) (QE := (fun w z => Q 0 w z)) (upd_eq _ _ _) (by decide) (hW.go0 hB hK hz1 FrO.rfl' hfo hC))⟩⟩, fun hh => absurd rfl hh⟩⟩)⟩
theorem law_restore (hW : LW b n sc x Fz g A h tx t cap l L w z) (hB : BG mc ms cap (k + 1)) (h1 : vp_in (x4 + 1) n) (hK : ∀ cap' w' z' mc' ms', LX b n sc x cap' w' z' → BG mc' ms' cap' k → K23 x (x + 764) (x + 773) (x4 + 6) w' z' mc' ms') : B_L_law_1033 b K23 Q x (x + 764) (x + 773) x4 w z mc ms := by
  have hC := hW.1
  have hz := hW.2.1
  have hI := hC.I1
  have h9 := hC.v9
  have hfo := hW.2.2.2.2.2.2.2.1
  have hb1 := hB.1
  have hb2 := hB.2.1
  exact ⟨_, _, hW.scr0, h1, 10, 100, by omega, by omega, hC.is0, 10, 100, Nat.le_refl _, Nat.le_refl _, CS.restore hC hz (Nat.le_refl _) (Nat.le_refl _)
    (fun c_pa c_ba w1 hC1 hF1 => okW hW hF1 hC1 _ (fun w2 fo hF2 ho hv hC2 => ⟨_, _, hW.scr hF2, h1, by
    rw [hW.rw hF2]
    exact ⟨R_i, G_restore h9 (fun c_pb c_bb => Tl_ok (BE := (fun w z => B_L_law_1086 b K23 Q x (x + 764) (x + 773) x4 w z (mc - 10) (ms - 100))) (QE := (fun w z => Q 0 w z)) g6_1 ((rwd_o (by omega)).trans ho) hv (hW.go1 hB hK (Nat.le_refl _) hF2 ⟨fo, ho⟩ hC2)) (fun c_pb => absurd c_pa c_pb) (fun c_pb c_bb => absurd c_bb c_ba)⟩⟩))
    (fun c_pa z1 hz1 => ⟨fun _ => ⟨_, _, hW.scr0, h1, by
    rw [hW.rw FrO.rfl']
    exact ⟨R_i, G_restore h9 (fun c_pb c_bb => absurd c_pb c_pa) (fun c_pb => Tl_ex (BE := (fun w z => B_L_law_1086 b K23 Q x (x + 764) (x + 773) x4 w z (mc - 10) (ms - 100))) (QE := (fun w z => Q 0 w z)) (upd_eq _ _ _) (by decide) (hW.go0 hB hK hz1 FrO.rfl' hfo hC)) (fun c_pb c_bb => absurd c_pb c_pa)⟩⟩, fun hh => absurd rfl hh⟩)
    (fun c_pa c_ba z1 hz1 => ⟨fun hh => absurd hh (by decide), fun _ => ⟨fun _ => ⟨_, _, hW.scr0, h1, by
    rw [hW.rw FrO.rfl']
    exact ⟨R_i, G_restore h9 (fun c_pb c_bb => absurd c_ba c_bb) (fun c_pb => absurd c_pa c_pb) (fun c_pb c_bb => Tl_ex (BE := (fun w z => B_L_law_1086 b K23 Q x (x + 764) (x + 773) x4 w z (mc - 10) (ms - 100))) (QE := (fun w z => Q 0 w z)) (upd_eq _ _ _) (by decide) (hW.go0 hB hK hz1 FrO.rfl' hfo hC))⟩⟩, fun hh => absurd rfl hh⟩⟩)⟩
theorem law_save (hW : LW b n sc x Fz g A h tx t cap l L w z) (hB : BG mc ms cap (k + 1)) (h1 : vp_in (x4 + 1) n) (hK : ∀ cap' w' z' mc' ms', LX b n sc x cap' w' z' → BG mc' ms' cap' k → K23 x (x + 764) (x + 773) (x4 + 6) w' z' mc' ms') : B_L_law_977 b K23 Q x (x + 764) (x + 773) x4 w z mc ms := by
  have hC := hW.1
  have hz := hW.2.1
  have hI := hC.I1
  have h9 := hC.v9
  have hfo := hW.2.2.2.2.2.2.2.1
  have hb1 := hB.1
  have hb2 := hB.2.1
  exact ⟨_, _, hW.scr0, h1, 10, 100, by omega, by omega, hC.is0, 10, 100, Nat.le_refl _, Nat.le_refl _, CS.save hC hz (Nat.le_refl _) (Nat.le_refl _)
    (fun c_pa w1 hC1 hF1 => okW hW hF1 hC1 _ (fun w2 fo hF2 ho hv hC2 => ⟨_, _, hW.scr hF2, h1, by
    rw [hW.rw hF2]
    exact ⟨R_i, G_save (fun c_pb => Tl_ok (BE := (fun w z => B_L_law_1030 b K23 Q x (x + 764) (x + 773) x4 w z (mc - 10) (ms - 100))) (QE := (fun w z => Q 0 w z)) (upd_eq _ _ _) ((rwd_o (by omega)).trans ho) hv (hW.goS hB hK (Nat.le_refl _) hF2 ⟨fo, ho⟩ hC2)) (fun c_pb => absurd c_pa c_pb)⟩⟩))
    (fun c_pa z1 hz1 => ⟨fun _ => ⟨_, _, hW.scr0, h1, by
    rw [hW.rw FrO.rfl']
    exact ⟨R_i, G_save (fun c_pb => absurd c_pb c_pa) (fun c_pb => Tl_ex (BE := (fun w z => B_L_law_1030 b K23 Q x (x + 764) (x + 773) x4 w z (mc - 10) (ms - 100))) (QE := (fun w z => Q 0 w z)) (upd_eq _ _ _) (by decide) (hW.go0 hB hK hz1 FrO.rfl' hfo hC))⟩⟩, fun hh => absurd rfl hh⟩)⟩
theorem law_undo (hW : LW b n sc x Fz g A h tx t cap l L w z) (hB : BG mc ms cap (k + 1)) (hK : ∀ cap' w' z' mc' ms', LX b n sc x cap' w' z' → BG mc' ms' cap' k → K23 x (x + 764) (x + 773) (x4 + 6) w' z' mc' ms') : B_L_law_933 b K23 Q x (x + 764) (x + 773) x4 w z mc ms := by
  have hC := hW.1
  have hz := hW.2.1
  have hI := hC.I1
  have h9 := hC.v9
  have hfo := hW.2.2.2.2.2.2.2.1
  have hb1 := hB.1
  have hb2 := hB.2.1
  exact ⟨10, 100, by omega, by omega, hC.is0, 10, 100, Nat.le_refl _, Nat.le_refl _, CS.undo hC hz (Nat.le_refl _) (Nat.le_refl _)
    (fun c_pa w1 hC1 hF1 => okW hW hF1 hC1 _ (fun w2 fo hF2 ho hv hC2 => (by
    rw [hW.rw hF2]
    exact ⟨R_i, G_undo h9 (fun c_pb => Tl_ok (BE := (fun w z => B_L_law_974 b K23 Q x (x + 764) (x + 773) x4 w z (mc - 10) (ms - 100))) (QE := (fun w z => Q 0 w z)) g6_U ((rwd_o (by omega)).trans ho) hv (hW.goU hB hK (Nat.le_refl _) hF2 ⟨fo, ho⟩ hC2)) (fun c_pb => absurd c_pa (fun h1 => by rw [c_pb, i_0] at h1; omega))⟩)))
    (fun c_pa z1 hz1 => ⟨fun _ => (by
    rw [hW.rw FrO.rfl']
    exact ⟨R_i, G_undo h9 (fun c_pb => absurd c_pb (fun h1 => by rw [c_pa, i_0] at h1; omega)) (fun c_pb => Tl_ex (BE := (fun w z => B_L_law_974 b K23 Q x (x + 764) (x + 773) x4 w z (mc - 10) (ms - 100))) (QE := (fun w z => Q 0 w z)) (upd_eq _ _ _) (by decide) (hW.go0 hB hK hz1 FrO.rfl' hfo hC))⟩), fun hh => absurd rfl hh⟩)⟩
theorem law_clock (hW : LW b n sc x Fz g A h tx t cap l L w z) (hB : BG mc ms cap (k + 1)) (hK : ∀ cap' w' z' mc' ms', LX b n sc x cap' w' z' → BG mc' ms' cap' k → K23 x (x + 764) (x + 773) (x4 + 6) w' z' mc' ms') : B_L_law_1089 b K23 Q x (x + 764) (x + 773) x4 w z mc ms := by
  have hC := hW.1
  refine ⟨hC.is0, X_clock hC ?_⟩
  rw [hW.rw FrO.rfl']
  exact ⟨R_i, G_clock ⟨fun _ => hW.go0' hB hK (Nat.le_refl _) FrO.rfl' hW.2.2.2.2.2.2.2.1 hC, fun hh => absurd rfl hh⟩⟩
theorem law_day (hW : LW b n sc x Fz g A h tx t cap l L w z) (hB : BG mc ms cap (k + 1)) (hK : ∀ cap' w' z' mc' ms', LX b n sc x cap' w' z' → BG mc' ms' cap' k → K23 x (x + 764) (x + 773) (x4 + 6) w' z' mc' ms') : B_L_law_1102 b K23 Q x (x + 764) (x + 773) x4 w z mc ms := by
  have hC := hW.1
  refine ⟨hC.is0, X_day hC ?_⟩
  rw [hW.rw FrO.rfl']
  exact ⟨R_i, G_day ⟨fun _ => hW.go0' hB hK (Nat.le_refl _) FrO.rfl' hW.2.2.2.2.2.2.2.1 hC, fun hh => absurd rfl hh⟩⟩
theorem law_stopCount (hW : LW b n sc x Fz g A h tx t cap l L w z) (hB : BG mc ms cap (k + 1)) (hK : ∀ cap' w' z' mc' ms', LX b n sc x cap' w' z' → BG mc' ms' cap' k → K23 x (x + 764) (x + 773) (x4 + 6) w' z' mc' ms') : B_L_law_1115 b K23 Q x (x + 764) (x + 773) x4 w z mc ms := by
  have hC := hW.1
  refine ⟨hC.is0, X_stopCount hC ?_⟩
  rw [hW.rw FrO.rfl']
  exact ⟨R_i, G_stopCount ⟨fun _ => hW.go0' hB hK (Nat.le_refl _) FrO.rfl' hW.2.2.2.2.2.2.2.1 hC, fun hh => absurd rfl hh⟩⟩
theorem law_passengerCount (hW : LW b n sc x Fz g A h tx t cap l L w z) (hB : BG mc ms cap (k + 1)) (hK : ∀ cap' w' z' mc' ms', LX b n sc x cap' w' z' → BG mc' ms' cap' k → K23 x (x + 764) (x + 773) (x4 + 6) w' z' mc' ms') : B_L_law_1128 b K23 Q x (x + 764) (x + 773) x4 w z mc ms := by
  have hC := hW.1
  refine ⟨hC.is0, X_passengerCount hC ?_⟩
  rw [hW.rw FrO.rfl']
  exact ⟨R_i, G_passengerCount ⟨fun _ => hW.go0' hB hK (Nat.le_refl _) FrO.rfl' hW.2.2.2.2.2.2.2.1 hC, fun hh => absurd rfl hh⟩⟩
theorem law_ticketCount (hW : LW b n sc x Fz g A h tx t cap l L w z) (hB : BG mc ms cap (k + 1)) (hK : ∀ cap' w' z' mc' ms', LX b n sc x cap' w' z' → BG mc' ms' cap' k → K23 x (x + 764) (x + 773) (x4 + 6) w' z' mc' ms') : B_L_law_1141 b K23 Q x (x + 764) (x + 773) x4 w z mc ms := by
  have hC := hW.1
  refine ⟨hC.is0, X_ticketCount hC ?_⟩
  rw [hW.rw FrO.rfl']
  exact ⟨R_i, G_ticketCount ⟨fun _ => hW.go0' hB hK (Nat.le_refl _) FrO.rfl' hW.2.2.2.2.2.2.2.1 hC, fun hh => absurd rfl hh⟩⟩
theorem law_caseCount (hW : LW b n sc x Fz g A h tx t cap l L w z) (hB : BG mc ms cap (k + 1)) (hK : ∀ cap' w' z' mc' ms', LX b n sc x cap' w' z' → BG mc' ms' cap' k → K23 x (x + 764) (x + 773) (x4 + 6) w' z' mc' ms') : B_L_law_1154 b K23 Q x (x + 764) (x + 773) x4 w z mc ms := by
  have hC := hW.1
  refine ⟨hC.is0, X_caseCount hC ?_⟩
  rw [hW.rw FrO.rfl']
  exact ⟨R_i, G_caseCount ⟨fun _ => hW.go0' hB hK (Nat.le_refl _) FrO.rfl' hW.2.2.2.2.2.2.2.1 hC, fun hh => absurd rfl hh⟩⟩
theorem law_undoableChanges (hW : LW b n sc x Fz g A h tx t cap l L w z) (hB : BG mc ms cap (k + 1)) (hK : ∀ cap' w' z' mc' ms', LX b n sc x cap' w' z' → BG mc' ms' cap' k → K23 x (x + 764) (x + 773) (x4 + 6) w' z' mc' ms') : B_L_law_1167 b K23 Q x (x + 764) (x + 773) x4 w z mc ms := by
  have hC := hW.1
  refine ⟨hC.is0, X_undoableChanges hC ?_⟩
  rw [hW.rw FrO.rfl']
  exact ⟨R_i, G_undoableChanges ⟨fun _ => hW.go0' hB hK (Nat.le_refl _) FrO.rfl' hW.2.2.2.2.2.2.2.1 hC, fun hh => absurd rfl hh⟩⟩
theorem law_ticketSales (hW : LW b n sc x Fz g A h tx t cap l L w z) (hB : BG mc ms cap (k + 1)) (hK : ∀ cap' w' z' mc' ms', LX b n sc x cap' w' z' → BG mc' ms' cap' k → K23 x (x + 764) (x + 773) (x4 + 6) w' z' mc' ms') : B_L_law_2761 b K23 Q x (x + 764) (x + 773) x4 w z mc ms := by
  have hC := hW.1
  refine ⟨hC.is0, X_ticketSales hC ?_⟩
  rw [hW.rw FrO.rfl']
  exact ⟨R_i, G_ticketSales ⟨fun _ => hW.go0' hB hK (Nat.le_refl _) FrO.rfl' hW.2.2.2.2.2.2.2.1 hC, fun hh => absurd rfl hh⟩⟩
theorem law_finesPaid (hW : LW b n sc x Fz g A h tx t cap l L w z) (hB : BG mc ms cap (k + 1)) (hK : ∀ cap' w' z' mc' ms', LX b n sc x cap' w' z' → BG mc' ms' cap' k → K23 x (x + 764) (x + 773) (x4 + 6) w' z' mc' ms') : B_L_law_2774 b K23 Q x (x + 764) (x + 773) x4 w z mc ms := by
  have hC := hW.1
  refine ⟨hC.is0, X_finesPaid hC ?_⟩
  rw [hW.rw FrO.rfl']
  exact ⟨R_i, G_finesPaid ⟨fun _ => hW.go0' hB hK (Nat.le_refl _) FrO.rfl' hW.2.2.2.2.2.2.2.1 hC, fun hh => absurd rfl hh⟩⟩
theorem law_inspections (hW : LW b n sc x Fz g A h tx t cap l L w z) (hB : BG mc ms cap (k + 1)) (hK : ∀ cap' w' z' mc' ms', LX b n sc x cap' w' z' → BG mc' ms' cap' k → K23 x (x + 764) (x + 773) (x4 + 6) w' z' mc' ms') : B_L_law_2787 b K23 Q x (x + 764) (x + 773) x4 w z mc ms := by
  have hC := hW.1
  refine ⟨hC.is0, X_inspections hC ?_⟩
  rw [hW.rw FrO.rfl']
  exact ⟨R_i, G_inspections ⟨fun _ => hW.go0' hB hK (Nat.le_refl _) FrO.rfl' hW.2.2.2.2.2.2.2.1 hC, fun hh => absurd rfl hh⟩⟩
theorem law_inconsistencies (hW : LW b n sc x Fz g A h tx t cap l L w z) (hB : BG mc ms cap (k + 1)) (hK : ∀ cap' w' z' mc' ms', LX b n sc x cap' w' z' → BG mc' ms' cap' k → K23 x (x + 764) (x + 773) (x4 + 6) w' z' mc' ms') : B_L_law_2800 b K23 Q x (x + 764) (x + 773) x4 w z mc ms := by
  have hC := hW.1
  have hI := hC.I1
  refine ⟨hC.is0, X_inconsistencies hC ?_⟩
  rw [hW.rw FrO.rfl']
  exact ⟨R_i, G_inconsistencies hI ⟨fun _ => hW.go0' hB hK (Nat.le_refl _) FrO.rfl' hW.2.2.2.2.2.2.2.1 hC, fun hh => absurd rfl hh⟩⟩
theorem law_errorCode (hW : LW b n sc x Fz g A h tx t cap l L w z) (hB : BG mc ms cap (k + 1)) (hK : ∀ cap' w' z' mc' ms', LX b n sc x cap' w' z' → BG mc' ms' cap' k → K23 x (x + 764) (x + 773) (x4 + 6) w' z' mc' ms') : B_L_law_443 b K23 Q x (x + 764) (x + 773) x4 w z mc ms := by
  have hC := hW.1
  refine ⟨hC.is0, X_errorCode hC hW.2.2.1 ?_⟩
  rw [hW.2.2.2.2.1.2.2.2.2.1]
  rw [hW.rw FrO.rfl']
  exact ⟨R_i, G_errorCode ⟨fun _ => hW.go0' hB hK (Nat.le_refl _) FrO.rfl' hW.2.2.2.2.2.2.2.1 hC, fun hh => absurd rfl hh⟩⟩
theorem law_errorOffset (hW : LW b n sc x Fz g A h tx t cap l L w z) (hB : BG mc ms cap (k + 1)) (hK : ∀ cap' w' z' mc' ms', LX b n sc x cap' w' z' → BG mc' ms' cap' k → K23 x (x + 764) (x + 773) (x4 + 6) w' z' mc' ms') : B_L_law_456 b K23 Q x (x + 764) (x + 773) x4 w z mc ms := by
  have hC := hW.1
  refine ⟨hC.is0, X_errorOffset hC hW.2.2.1 ?_⟩
  rw [hW.2.2.2.2.1.2.2.2.2.2]
  rw [hW.rw FrO.rfl']
  exact ⟨R_i, G_errorOffset ⟨fun _ => hW.go0' hB hK (Nat.le_refl _) FrO.rfl' hW.2.2.2.2.2.2.2.1 hC, fun hh => absurd rfl hh⟩⟩
end
