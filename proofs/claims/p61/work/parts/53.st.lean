/-! strings that Latin-1 holds -/
theorem byte_all : ∀ k : Fin 128, ((Int32.ofNat k.val &&& 255).toUInt32 % 65536).toInt32 = Int32.ofNat k.val ∧ narrow .char (.int (Int32.ofNat k.val)) = .int (Int32.ofNat k.val) ∧ narrow .byte (.int (Int32.ofNat k.val)) = .int (Int32.ofNat k.val) ∧ vp_nar .byte ((Int32.ofNat k.val).toInt8.toInt32) = Int32.ofNat k.val := by decide +kernel
theorem byte_id {v : Int32} (h : 0 ≤ v.toInt) (h2 : v.toInt < 128) : ((v &&& 255).toUInt32 % 65536).toInt32 = v ∧ narrow .char (.int v) = .int v ∧ narrow .byte (.int v) = .int v ∧ vp_nar .byte (v.toInt8.toInt32) = v := by
  have e : v = Int32.ofNat (cl v) := ieq.mpr (by rw [cl_nI (by rw [cl_eq]; omega), cl_eq]; omega)
  have := byte_all ⟨cl v, by rw [cl_eq]; omega⟩
  rw [← e] at this
  exact this
theorem sh0 (x : Int32) : x >>> ((0 : Int32) &&& 31) = x := by
  rw [show ((0 : Int32) &&& 31) = 0 from by decide]
  apply Int32.toBitVec_inj.mp
  simp
theorem sl0 (x : Int32) : x <<< ((0 : Int32) &&& 31) = x := by
  rw [show ((0 : Int32) &&& 31) = 0 from by decide]
  apply Int32.toBitVec_inj.mp
  simp
section
variable {w w' w'' : Mm} {x z mc ms b : Nat} {Q : Int32 → Mm → Nat → Prop} {R : Mm → Nat → Prop} {X : String → Mm → Nat → Prop} {T : Mm → Prop} {f f' : Nat → Int32} {Fz Fz' : Nat → Prop} {g g' : Nat → Int32} {A A' : Nat → Nat → Int32}
theorem j_isLatin1 {b : Bool} {q t : Nat} {l : List Value} (h : w q = some (b, .inl (0, .ref t :: .int 0 :: l))) (hq : Q 1 w z) : F_J0_isLatin1_aae02 q w z Q :=
  ⟨_, fld_c h 1, fun h => absurd rfl h, fun _ => hq⟩
theorem j_coder {b : Bool} {q t : Nat} {l : List Value} (h : w q = some (b, .inl (0, .ref t :: .int 0 :: l))) (hq : Q 0 w z) : F_J0_coder_7d493 q w z Q :=
  ⟨_, fld_c h 1, by decide, hq⟩
theorem j_length {q n : Nat} {h : Nat → Int32} (hs : Str w Fz q n h) (hq : Q (nI n) w z) : F_J0_length_8abf5 q w z Q := by
  obtain ⟨b, b', t, l, fb, h1, h2, h3, h4, h5⟩ := hs
  refine ⟨_, fld_c h3 0, _, _, arI_c h4, isO_c h3, j_coder h3 ?_⟩
  rw [sh0]
  exact hq
theorem j_check {i n : Int32} (h0 : 0 ≤ i.toInt) (h1 : i.toInt < n.toInt) (hq : R w z) : F_J0_checkIndex_df160 i n w z R :=
  ⟨fun h => absurd (ilt.mp h) (by rw [i_0]; omega), fun _ => ⟨fun _ => hq, fun h => absurd (ilt.mpr h1) h⟩⟩
theorem j_charAt {q n : Nat} {h : Nat → Int32} {i : Int32} (hs : Str w Fz q n h) (hi : vp_in i n) (hn : n < 100000) (hb : 0 ≤ (h (cl i)).toInt) (hb2 : (h (cl i)).toInt < 128) (hq : Q (h (cl i)) w z) : F_J0_charAt_5068e q i w z Q := by
  obtain ⟨b, b', t, l, fb, h1, h2, h3, h4, h5⟩ := hs
  have hv := vp_in_iff.mp hi
  have hc := clI hi
  have e := h5 (cl i) hc.2
  obtain ⟨e1, e2, -, -⟩ := byte_id hb hb2
  refine ⟨isO_c h3, j_isLatin1 h3 ⟨fun h => absurd h (by decide), fun _ => ⟨_, fld_c h3 0, _, _, arI_c h4, j_check hv.1 (by rw [nI_toInt (by omega)]; omega) ⟨_, _, arI_c h4, hi, ?_⟩⟩⟩⟩
  rw [show fb i.toNatClampNeg = h (cl i) from e, e1]
  exact ⟨e2, e2, hq⟩
theorem HasF.name {p : Nat} (h : HasF w b Fz f) (hI : Inv f) (hp : p < cl (f 2)) : ∃ q, fld w (b + 5 + p) 6 0 = some (.ref q) ∧ Str w Fz q (cl (f (21 + 13 * p + 6))) (fun i => f (21 + 13 * p + 7 + i)) := by
  have hB2 := clI hI.2.1.2.1
  obtain ⟨hd, zn, nm, pa, tk, cs, h1, h2, h3⟩ := h
  exact ⟨_, h1.nm0 (by omega), h3 p hp⟩
end
