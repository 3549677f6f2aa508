/-! a state's sums, its copies, its new rows -/
def debtR (f : Nat → Int32) (p : Int32) : Nat → Int32 → Int32 → Int32
  | 0, x, _ => x
  | n + 1, x, c => debtR f p n (if f (305 + 7 * cl c) = p then x + dueF f c else x) (c + 1)
def unpR (f : Nat → Int32) (p : Int32) : Nat → Int32 → Int32 → Int32
  | 0, x, _ => x
  | n + 1, x, c => unpR f p n (if f (305 + 7 * cl c) = p ∧ ¬ f (305 + 7 * cl c + 2) = 4 then x + 1 else x) (c + 1)
def prR (f : Nat → Int32) : Nat → Int32 → Int32 → Int32
  | 0, x, _ => x
  | n + 1, x, t => prR f n (x + priceI (f (125 + 6 * cl t + 1)) (f (125 + 6 * cl t + 2))) (t + 1)
def monR (f : Nat → Int32) : Nat → Int32 → Int32 → Int32
  | 0, x, _ => x
  | n + 1, x, t => monR f n (x + f (21 + 13 * cl t)) (t + 1)
def oddR (f : Nat → Int32) : Nat → Int32 → Int32 → Int32
  | 0, x, _ => x
  | n + 1, x, t => oddR f n (if (f (125 + 6 * cl t + 3) = -1) = (f (125 + 6 * cl t + 5) ≤ 0) then x else x + 1) (t + 1)
section
variable {w : Mm} {b z : Nat} {hd zn : Nat → Int32} {nm : Nat → Nat} {pa tk cs : Nat → Nat → Int32} {Q : Int32 → Mm → Nat → Prop} {R : Mm → Nat → Prop} {T : Mm → Prop} {f : Nat → Int32}
theorem c_debts_4 {p : Int32} (hB : Bd f) (hR : Rl hd zn pa tk cs f) : ∀ (n : Nat) (x c : Int32), (f 4).toInt = c.toInt + n → 0 ≤ c.toInt → Q (debtR f p n x c) (sw w b hd zn nm pa tk cs) z → B_X3_sumOfDebts_4 b p Q (n + 1) x c (sw w b hd zn nm pa tk cs) z := by
  have hB4 := clI hB.2.2.2
  intro n
  induction n with
  | zero =>
    intro x c h1 h2 hq
    unfold B_X3_sumOfDebts_4
    exact ⟨_, gH7 hR, fun _ => hq, fun hc => absurd (ile.mpr (by omega)) hc⟩
  | succ n ih =>
    intro x c h1 h2 hq
    unfold B_X3_sumOfDebts_4 B_X3_sumOfDebts_43
    have hv : vp_in c 20 := vp_in_iff.mpr (by omega)
    have hi := clI hv
    have h5 := cl_succ hv (by omega)
    have hc4 : vp_in c (cl (f 4)) := vp_in_iff.mpr (by omega)
    rw [debtR] at hq
    refine ⟨_, gH7 hR, fun hc => absurd (ile.mp hc) (by omega), fun hc => ⟨_, s_r11, s_aC hv ⟨_, gC0 hR hi.2 (by omega), fun hc => ?_, fun hc => ⟨_, s_r11, s_aC hv ⟨_, gH0 hR, s_iC hi.2, c_costAt hB hR hc4 ?_⟩⟩⟩⟩⟩
    · rintro _ rfl
      rw [if_neg hc] at hq
      rw [Int32.add_zero]
      exact ih _ _ (by omega) (by omega) hq
    · rintro _ rfl
      rw [if_pos hc] at hq
      exact ih _ _ (by omega) (by omega) hq
theorem c_sumOfDebts {p : Int32} (hB : Bd f) (hR : Rl hd zn pa tk cs f) (hq : Q (debtR f p (cl (f 4)) 0 0) (sw w b hd zn nm pa tk cs) z) : F_X3_sumOfDebts b p (sw w b hd zn nm pa tk cs) z Q := by
  have hB4 := clI hB.2.2.2
  exact ⟨_, c_debts_4 hB hR _ _ _ (by rw [i_0]; omega) (by rw [i_0]; omega) hq⟩
theorem c_unp_4 {p : Int32} (hB : Bd f) (hR : Rl hd zn pa tk cs f) : ∀ (n : Nat) (x c : Int32), (f 4).toInt = c.toInt + n → 0 ≤ c.toInt → Q (unpR f p n x c) (sw w b hd zn nm pa tk cs) z → B_X3_countUnpaid_4 b p Q (n + 1) x c (sw w b hd zn nm pa tk cs) z := by
  have hB4 := clI hB.2.2.2
  intro n
  induction n with
  | zero =>
    intro x c h1 h2 hq
    unfold B_X3_countUnpaid_4
    exact ⟨_, gH7 hR, fun _ => hq, fun hc => absurd (ile.mpr (by omega)) hc⟩
  | succ n ih =>
    intro x c h1 h2 hq
    unfold B_X3_countUnpaid_4 B_X3_countUnpaid_43 B_X3_countUnpaid_44
    have hv : vp_in c 20 := vp_in_iff.mpr (by omega)
    have hi := clI hv
    have h5 := cl_succ hv (by omega)
    rw [unpR] at hq
    refine ⟨_, gH7 hR, fun hc => absurd (ile.mp hc) (by omega), fun hc => ⟨_, s_r11, s_aC hv ⟨_, gC0 hR hi.2 (by omega), fun hc => ?_, fun hc => ⟨_, s_r11, s_aC hv ⟨_, gC4 hR hi.2 (by omega), fun hd => ?_, fun hd => ?_⟩⟩⟩⟩⟩
    · rintro _ rfl
      rw [if_neg (fun h => hc h.1)] at hq
      rw [Int32.add_zero]
      exact ih _ _ (by omega) (by omega) hq
    · rintro _ rfl
      rw [if_neg (fun h => h.2 hd)] at hq
      rw [Int32.add_zero]
      exact ih _ _ (by omega) (by omega) hq
    · rintro _ rfl
      rw [if_pos ⟨hc, hd⟩] at hq
      exact ih _ _ (by omega) (by omega) hq
theorem c_countUnpaid {p : Int32} (hB : Bd f) (hR : Rl hd zn pa tk cs f) (hq : Q (unpR f p (cl (f 4)) 0 0) (sw w b hd zn nm pa tk cs) z) : F_X3_countUnpaid b p (sw w b hd zn nm pa tk cs) z Q := by
  have hB4 := clI hB.2.2.2
  exact ⟨_, c_unp_4 hB hR _ _ _ (by rw [i_0]; omega) (by rw [i_0]; omega) hq⟩
theorem c_price_t {t : Int32} (hR : Rl hd zn pa tk cs f) (ht : cl t < 30) (h3 : cl t < cl (f 3)) (hq : Q (priceI (f (125 + 6 * cl t + 1)) (f (125 + 6 * cl t + 2))) (sw w b hd zn nm pa tk cs) z) : F_X4_price (b + 13 + cl t) (sw w b hd zn nm pa tk cs) z Q :=
  ⟨_, gT1 hR ht h3, _, gT2 hR ht h3, c_price hq⟩
theorem c_pr_4 (hB : Bd f) (hR : Rl hd zn pa tk cs f) : ∀ (n : Nat) (x t : Int32), (f 3).toInt = t.toInt + n → 0 ≤ t.toInt → Q (prR f n x t) (sw w b hd zn nm pa tk cs) z → B_X3_sumOfPrices_4 b Q (n + 1) x t (sw w b hd zn nm pa tk cs) z := by
  have hB3 := clI hB.2.2.1
  intro n
  induction n with
  | zero =>
    intro x c h1 h2 hq
    unfold B_X3_sumOfPrices_4
    exact ⟨_, gH6 hR, fun _ => hq, fun hc => absurd (ile.mpr (by omega)) hc⟩
  | succ n ih =>
    intro x c h1 h2 hq
    unfold B_X3_sumOfPrices_4
    have hv : vp_in c 30 := vp_in_iff.mpr (by omega)
    have hi := clI hv
    have h5 := cl_succ hv (by omega)
    rw [prR] at hq
    refine ⟨_, gH6 hR, fun hc => absurd (ile.mp hc) (by omega), fun hc => ⟨_, s_r10, s_aT hv ⟨s_iT hi.2, c_price_t hR hi.2 (by omega) ?_⟩⟩⟩
    rintro _ rfl
    exact ih _ _ (by omega) (by omega) hq
theorem c_sumOfPrices (hB : Bd f) (hR : Rl hd zn pa tk cs f) (hq : Q (prR f (cl (f 3)) 0 0) (sw w b hd zn nm pa tk cs) z) : F_X3_sumOfPrices b (sw w b hd zn nm pa tk cs) z Q := by
  have hB3 := clI hB.2.2.1
  exact ⟨_, c_pr_4 hB hR _ _ _ (by rw [i_0]; omega) (by rw [i_0]; omega) hq⟩
theorem c_mon_4 (hB : Bd f) (hR : Rl hd zn pa tk cs f) : ∀ (n : Nat) (x t : Int32), (f 2).toInt = t.toInt + n → 0 ≤ t.toInt → Q (monR f n x t) (sw w b hd zn nm pa tk cs) z → B_X3_sumOfMoney_4 b Q (n + 1) x t (sw w b hd zn nm pa tk cs) z := by
  have hB2 := clI hB.2.1
  intro n
  induction n with
  | zero =>
    intro x c h1 h2 hq
    unfold B_X3_sumOfMoney_4
    exact ⟨_, gH5 hR, fun _ => hq, fun hc => absurd (ile.mpr (by omega)) hc⟩
  | succ n ih =>
    intro x c h1 h2 hq
    unfold B_X3_sumOfMoney_4
    have hv : vp_in c 8 := vp_in_iff.mpr (by omega)
    have hi := clI hv
    have h5 := cl_succ hv (by omega)
    rw [monR] at hq
    refine ⟨_, gH5 hR, fun hc => absurd (ile.mp hc) (by omega), fun hc => ⟨_, s_r9, s_aP hv ⟨_, gP1 hR hi.2 (by omega), ?_⟩⟩⟩
    rintro _ rfl
    exact ih _ _ (by omega) (by omega) hq
theorem c_sumOfMoney (hB : Bd f) (hR : Rl hd zn pa tk cs f) (hq : Q (monR f (cl (f 2)) 0 0) (sw w b hd zn nm pa tk cs) z) : F_X3_sumOfMoney b (sw w b hd zn nm pa tk cs) z Q := by
  have hB2 := clI hB.2.1
  exact ⟨_, c_mon_4 hB hR _ _ _ (by rw [i_0]; omega) (by rw [i_0]; omega) hq⟩
theorem c_odd_4 (hB : Bd f) (hR : Rl hd zn pa tk cs f) : ∀ (n : Nat) (x t : Int32), (f 3).toInt = t.toInt + n → 0 ≤ t.toInt → Q (oddR f n x t) (sw w b hd zn nm pa tk cs) z → B_X3_countOddStamps_4 b Q (n + 1) x t (sw w b hd zn nm pa tk cs) z := by
  have hB3 := clI hB.2.2.1
  intro n
  induction n with
  | zero =>
    intro x c h1 h2 hq
    unfold B_X3_countOddStamps_4
    exact ⟨_, gH6 hR, fun _ => hq, fun hc => absurd (ile.mpr (by omega)) hc⟩
  | succ n ih =>
    intro x c h1 h2 hq
    unfold B_X3_countOddStamps_4 B_X3_countOddStamps_39 B_X3_countOddStamps_47
    have hv : vp_in c 30 := vp_in_iff.mpr (by omega)
    have hi := clI hv
    have h5 := cl_succ hv (by omega)
    rw [oddR] at hq
    refine ⟨_, gH6 hR, fun hc => absurd (ile.mp hc) (by omega), fun hc => ⟨_, s_r10, s_aT hv ⟨s_iT hi.2, _, gT3 hR hi.2 (by omega), fun h6 => ⟨_, s_r10, s_aT hv ⟨_, gT5 hR hi.2 (by omega), fun h7 => ⟨fun h8 => absurd rfl h8, fun h8 => ?_⟩, fun h7 => ⟨fun h8 => ?_, fun h8 => absurd h8 (by decide)⟩⟩⟩, fun h6 => ⟨_, s_r10, s_aT hv ⟨_, gT5 hR hi.2 (by omega), fun h7 => ⟨fun h8 => ?_, fun h8 => absurd h8 (by decide)⟩, fun h7 => ⟨fun h8 => absurd rfl h8, fun h8 => ?_⟩⟩⟩⟩⟩⟩
    · rintro _ rfl
      rw [if_pos (by rw [eq_true h6, eq_true h7])] at hq
      rw [Int32.add_zero]
      exact ih _ _ (by omega) (by omega) hq
    · rintro _ rfl
      rw [if_neg (by rw [eq_true h6, eq_false h7]; exact fun h => (by rw [← h]; trivial : False))] at hq
      exact ih _ _ (by omega) (by omega) hq
    · rintro _ rfl
      rw [if_neg (by rw [eq_false h6, eq_true h7]; exact fun h => (by rw [h]; trivial : False))] at hq
      exact ih _ _ (by omega) (by omega) hq
    · rintro _ rfl
      rw [if_pos (by rw [eq_false h6, eq_false h7])] at hq
      rw [Int32.add_zero]
      exact ih _ _ (by omega) (by omega) hq
theorem c_countOdd (hB : Bd f) (hR : Rl hd zn pa tk cs f) (hq : Q (oddR f (cl (f 3)) 0 0) (sw w b hd zn nm pa tk cs) z) : F_X3_countOddStamps b (sw w b hd zn nm pa tk cs) z Q := by
  have hB3 := clI hB.2.2.1
  exact ⟨_, c_odd_4 hB hR _ _ _ (by rw [i_0]; omega) (by rw [i_0]; omega) hq⟩
end
