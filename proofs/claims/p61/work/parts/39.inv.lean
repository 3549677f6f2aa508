/-! what holds of the reference's row of numbers -/
def IP (f : Nat → Int32) (i ns nt : Nat) : Prop :=
  (f (i + 3) = -1 ∨ (0 < (f (i + 3)).toInt ∧ (f (i + 3)).toInt ≤ 100100 ∧ vp_in (f (i + 1)) ns ∧ vp_in (f (i + 2)) ns ∧ (f (i + 4) = -1 ∨ vp_in (f (i + 4)) nt))) ∧
  (f (i + 5) = 0 ∨ f (i + 5) = 1) ∧ vp_in (f (i + 6)) 7 ∧ ∀ k, k < cl (f (i + 6)) → 97 ≤ (f (i + 7 + k)).toInt ∧ (f (i + 7 + k)).toInt ≤ 122
def IT (f : Nat → Int32) (j np : Nat) : Prop :=
  vp_in (f j) np ∧ vp_in (f (j + 1)) 3 ∧ ((f (j + 3) = -1 ∧ f (j + 5) = 0) ∨ (0 ≤ (f (j + 3)).toInt ∧ 0 < (f (j + 5)).toInt ∧ 2 * (f (j + 5)).toInt ≤ (f (21 + 13 * cl (f j) + 3)).toInt))
def IC (f : Nat → Int32) (c np nt : Nat) : Prop :=
  vp_in (f c) np ∧ vp_in (f (c + 2)) 5 ∧ (f (c + 2) = 1 → vp_in (f (c + 5)) nt) ∧ (f (c + 2) = 0 ∨ f (c + 2) = 1 → f (c + 4) = 6000) ∧ 0 ≤ (f (c + 4)).toInt ∧ (f (c + 4)).toInt ≤ 6500
def Inv (f : Nat → Int32) : Prop :=
  (0 ≤ (f 0).toInt ∧ (f 0).toInt ≤ 99999) ∧ Bd f ∧ (∀ i, i < cl (f 1) → vp_in (f (9 + i)) 4) ∧ (∀ p, p < cl (f 2) → IP f (21 + 13 * p) (cl (f 1)) (cl (f 3))) ∧
  (∀ t, t < cl (f 3) → IT f (125 + 6 * t) (cl (f 2))) ∧ (∀ c, c < cl (f 4) → IC f (305 + 7 * c) (cl (f 2)) (cl (f 3))) ∧ f 5 = prR f (cl (f 3)) 0 0
section
variable {f f' : Nat → Int32}
theorem Inv.fg (h : Inv f) : Fg f := fun p hp => (h.2.2.2.1 p hp).2.1
theorem Inv.rd (h : Inv f) : Rd f := by
  refine ⟨fun t ht => ?_, fun p hp he => ?_⟩
  · have h1 := vp_in_iff.mp (h.2.2.2.2.1 t ht).2.1
    have a0 : (0 : Int32).toInt = 0 := by decide
    have a1 : (1 : Int32).toInt = 1 := by decide
    have a2 : (2 : Int32).toInt = 2 := by decide
    rw [ieq, ieq, ieq, a0, a1, a2]
    omega
  · rcases (h.2.2.2.1 p hp).1 with h1 | h1
    · exact absurd h1 he
    · exact ⟨h1.2.2.1, h1.2.2.2.1, fun h2 => h1.2.2.2.2.resolve_left h2⟩
theorem IP.to {i ns nt ns' nt' : Nat} (h : IP f i ns nt) (hf : ∀ k, k < 13 → f' (i + k) = f (i + k)) (h1 : ns ≤ ns') (h2 : nt ≤ nt') : IP f' i ns' nt' := by
  obtain ⟨a, b, c, d⟩ := h
  have c' := clI c
  unfold IP
  rw [hf 1 (by omega), hf 2 (by omega), hf 3 (by omega), hf 4 (by omega), hf 5 (by omega), hf 6 (by omega)]
  refine ⟨?_, b, c, fun k hk => ?_⟩
  · rcases a with a | a
    · exact Or.inl a
    · exact Or.inr ⟨a.1, a.2.1, vp_le a.2.2.1 h1, vp_le a.2.2.2.1 h1, a.2.2.2.2.imp id (fun x => vp_le x h2)⟩
  · rw [Nat.add_assoc, hf (7 + k) (by omega), ← Nat.add_assoc]
    exact d k hk
theorem IT.to {j np np' : Nat} (h : IT f j np) (hf : ∀ k, k < 6 → f' (j + k) = f (j + k)) (h1 : np ≤ np') (hE : ∀ p, p < np → (f (21 + 13 * p + 3)).toInt ≤ (f' (21 + 13 * p + 3)).toInt) : IT f' j np' := by
  obtain ⟨a, b, c⟩ := h
  have a' := clI a
  have h0 := hf 0 (by omega)
  rw [Nat.add_zero] at h0
  unfold IT
  rw [h0, hf 1 (by omega), hf 3 (by omega), hf 5 (by omega)]
  refine ⟨vp_le a h1, b, c.imp id (fun x => ⟨x.1, x.2.1, ?_⟩)⟩
  have := hE _ a'.2
  omega
theorem IC.to {c np nt np' nt' : Nat} (h : IC f c np nt) (hf : ∀ k, k < 7 → f' (c + k) = f (c + k)) (h1 : np ≤ np') (h2 : nt ≤ nt') : IC f' c np' nt' := by
  obtain ⟨a, b, d, e⟩ := h
  have h0 := hf 0 (by omega)
  rw [Nat.add_zero] at h0
  unfold IC
  rw [h0, hf 2 (by omega), hf 4 (by omega), hf 5 (by omega)]
  exact ⟨vp_le a h1, b, fun x => vp_le (d x) h2, e⟩
theorem prR_ext : ∀ (n : Nat) (x t : Int32), 0 ≤ t.toInt → t.toInt + n ≤ 30 → (∀ j, 125 ≤ j → j < 125 + 6 * (cl t + n) → j % 6 < 2 → f' j = f j) → prR f' n x t = prR f n x t := by
  intro n
  induction n with
  | zero => intros; rfl
  | succ n ih =>
    intro x t h1 h2 h
    have hv : vp_in t 30 := vp_in_iff.mpr (by omega)
    have h5 := cl_succ hv (by omega)
    rw [prR, prR, h (125 + 6 * cl t + 1) (by omega) (by omega) (by omega), h (125 + 6 * cl t + 2) (by omega) (by omega) (by omega), ih _ _ (by omega) (by omega) (fun j h3 h4 => h j h3 (by omega))]
end
