/-! the reference: its row of numbers -/
def Ok (w : Mm) (m s : Nat) : Prop := fld w m 10 0 = some (.ref s) ∧ m ≠ s ∧ isO w m 10
theorem one0 : ¬ (1 : Int32) = 0 := by decide
theorem n01 : (((0 : Int32) = 1)) = False := eq_false (by decide)
theorem n02 : (((0 : Int32) = 2)) = False := eq_false (by decide)
theorem n03 : (((0 : Int32) = 3)) = False := eq_false (by decide)
theorem n04 : (((0 : Int32) = 4)) = False := eq_false (by decide)
theorem n05 : (((0 : Int32) = 5)) = False := eq_false (by decide)
theorem n10 : (((1 : Int32) = 0)) = False := eq_false (by decide)
theorem n12 : (((1 : Int32) = 2)) = False := eq_false (by decide)
theorem n13 : (((1 : Int32) = 3)) = False := eq_false (by decide)
theorem n14 : (((1 : Int32) = 4)) = False := eq_false (by decide)
theorem n15 : (((1 : Int32) = 5)) = False := eq_false (by decide)
theorem n20 : (((2 : Int32) = 0)) = False := eq_false (by decide)
theorem n21 : (((2 : Int32) = 1)) = False := eq_false (by decide)
theorem n23 : (((2 : Int32) = 3)) = False := eq_false (by decide)
theorem n24 : (((2 : Int32) = 4)) = False := eq_false (by decide)
theorem n25 : (((2 : Int32) = 5)) = False := eq_false (by decide)
theorem n30 : (((3 : Int32) = 0)) = False := eq_false (by decide)
theorem n31 : (((3 : Int32) = 1)) = False := eq_false (by decide)
theorem n32 : (((3 : Int32) = 2)) = False := eq_false (by decide)
theorem n34 : (((3 : Int32) = 4)) = False := eq_false (by decide)
theorem n35 : (((3 : Int32) = 5)) = False := eq_false (by decide)
theorem n40 : (((4 : Int32) = 0)) = False := eq_false (by decide)
theorem n41 : (((4 : Int32) = 1)) = False := eq_false (by decide)
theorem n42 : (((4 : Int32) = 2)) = False := eq_false (by decide)
theorem n43 : (((4 : Int32) = 3)) = False := eq_false (by decide)
theorem n45 : (((4 : Int32) = 5)) = False := eq_false (by decide)
theorem n50 : (((5 : Int32) = 0)) = False := eq_false (by decide)
theorem n51 : (((5 : Int32) = 1)) = False := eq_false (by decide)
theorem n52 : (((5 : Int32) = 2)) = False := eq_false (by decide)
theorem n53 : (((5 : Int32) = 3)) = False := eq_false (by decide)
theorem n54 : (((5 : Int32) = 4)) = False := eq_false (by decide)
theorem cl0 : (0 : Int32).toNatClampNeg = 0 := by decide
theorem cl1 : (1 : Int32).toNatClampNeg = 1 := by decide
theorem cl2 : (2 : Int32).toNatClampNeg = 2 := by decide
theorem cl3 : (3 : Int32).toNatClampNeg = 3 := by decide
theorem cl4 : (4 : Int32).toNatClampNeg = 4 := by decide
theorem cl5 : (5 : Int32).toNatClampNeg = 5 := by decide
theorem cl6 : (6 : Int32).toNatClampNeg = 6 := by decide
theorem cl7 : (7 : Int32).toNatClampNeg = 7 := by decide
theorem cl8 : (8 : Int32).toNatClampNeg = 8 := by decide
theorem cl445 : (445 : Int32).toNatClampNeg = 445 := by decide
theorem cl3115 : (3115 : Int32).toNatClampNeg = 3115 := by decide
theorem cl_nI {k : Nat} (h : k < 1000) : (Int32.ofNat k).toInt = k := nI_toInt (by omega)
theorem in_nI {k n : Nat} (h : k < 1000) (hn : k < n) : vp_in (Int32.ofNat k) n := vp_in_iff.mpr (by rw [cl_nI h]; omega)
theorem clnI {k : Nat} (h : k < 1000) : cl (Int32.ofNat k) = k := by
  rw [cl_eq, cl_nI h]
  rfl
/-! what it works out -/
def bitc (a : Int32) : Int32 :=
  let i1 := a - ((a.toUInt32 >>> ((1 : Int32).toUInt32 &&& Int32.toUInt32 31)).toInt32 &&& 1431655765)
  let i2 := (i1 &&& 858993459) + ((i1.toUInt32 >>> ((2 : Int32).toUInt32 &&& Int32.toUInt32 31)).toInt32 &&& 858993459)
  let i3 := (i2 + (i2.toUInt32 >>> ((4 : Int32).toUInt32 &&& Int32.toUInt32 31)).toInt32) &&& 252645135
  let i4 := i3 + (i3.toUInt32 >>> ((8 : Int32).toUInt32 &&& Int32.toUInt32 31)).toInt32
  let i5 := i4 + (i4.toUInt32 >>> ((16 : Int32).toUInt32 &&& Int32.toUInt32 31)).toInt32
  i5 &&& 63
theorem j_bitCount {a : Int32} {w : Mm} {z : Nat} {Q : Int32 → Mm → Nat → Prop} (hq : Q (bitc a) w z) : F_J6_bitCount_0f7a4 a w z Q := by
  unfold F_J6_bitCount_0f7a4
  rintro _ rfl _ rfl _ rfl _ rfl _ rfl
  exact hq
def priceI (k zn : Int32) : Int32 := if k = 2 then 150 else if k = 1 then bitc zn * 500 else bitc zn * 200
def mayBuyF (f : Nat → Int32) (p k zn : Int32) : Int32 := if 30 ≤ f 3 then 0 else if f (21 + 13 * cl p) < priceI k zn then 0 else 1
def buyF (f : Nat → Int32) (p k zn : Int32) : Nat → Int32 :=
  let t := 125 + 6 * cl (f 3)
  let g := upd (upd (upd (upd (upd (upd f t p) (t + 1) k) (t + 2) zn) (t + 3) (-1)) (t + 4) (-1)) (t + 5) 0
  let g := upd g (21 + 13 * cl p) (g (21 + 13 * cl p) - priceI k zn)
  let g := upd g 5 (g 5 + priceI k zn)
  upd g 3 (g 3 + 1)
def ridesF (f : Nat → Int32) (p : Int32) : Int32 := if f (21 + 13 * cl p + 3) ≤ f 0 then 0 else 1
def mayRideF (f : Nat → Int32) (p t : Int32) : Int32 := if ¬ f (21 + 13 * cl p + 3) ≤ f 0 then 0 else if t = -1 then 1 else if f (125 + 6 * cl t) = p then 1 else 0
def beginF (f : Nat → Int32) (p a b t : Int32) : Nat → Int32 :=
  let i := 21 + 13 * cl p
  let g := upd (upd f (i + 1) a) (i + 2) b
  let g := upd (upd (upd g (i + 3) (g 0 + 2 * jabs (b - a))) (i + 4) t) (i + 5) 0
  if t = -1 then g else
  let j := 125 + 6 * cl t
  let g := upd g (j + 5) (g (j + 5) + 1)
  if g (j + 3) = -1 then
    let g := upd g (j + 3) (g 0)
    upd g (j + 4) a
  else g
def inTimeF (f : Nat → Int32) (t : Int32) : Int32 :=
  let j := 125 + 6 * cl t
  if f (j + 3) = -1 then 1 else if f (j + 1) = 1 then (if f 0 / 1440 = f (j + 3) / 1440 then 1 else 0)
  else if (if f (j + 1) = 0 then 60 else 30) ≤ f 0 - f (j + 3) then 0 else 1
def zonesR (f : Nat → Int32) : Nat → Int32 → Int32 → Int32
  | 0, x, _ => x
  | n + 1, x, st => zonesR f n (x ||| (1 <<< (f (9 + cl st) &&& 31))) (st + 1)
def zonesF (f : Nat → Int32) (a b : Int32) : Int32 := zonesR f (cl (jmax a b) + 1 - cl (jmin a b)) 0 (jmin a b)
def coversI (zn all : Int32) : Int32 := if all &&& (zn ^^^ -1) = 0 then 1 else 0
def faultF (f : Nat → Int32) (p : Int32) : Int32 :=
  let i := 21 + 13 * cl p
  if f (i + 3) = -1 then 0 else if f (i + 4) = -1 then 1 else
  let j := 125 + 6 * cl (f (i + 4))
  if inTimeF f (f (i + 4)) = 0 then 2 else if coversI (f (j + 2)) (zonesF f (f (i + 1)) (f (i + 2))) = 0 then 3
  else if f (j + 1) = 0 ∧ ¬ f (j + 5) ≤ 3 then 4
  else if f (j + 1) = 2 ∧ ¬ jabs (f (i + 2) - f (j + 4)) ≤ 4 then 5 else 0
def mayInspectF (f : Nat → Int32) (p : Int32) : Int32 := if f (21 + 13 * cl p + 3) ≤ f 0 then 0 else if f (21 + 13 * cl p + 5) = 0 then (if 20 ≤ f 4 then 0 else 1) else 0
def inspectF (f : Nat → Int32) (p : Int32) : Nat → Int32 :=
  let r := faultF f p
  let i := 21 + 13 * cl p
  let g := upd (upd f 7 (f 7 + 1)) (i + 5) 1
  if r = 0 then g else
  let c := 305 + 7 * cl (g 4)
  let g := upd (upd (upd g c p) (c + 1) r) (c + 2) 0
  let g := upd (upd (upd g (c + 3) (g 0)) (c + 4) 6000) (c + 5) (-1)
  let g := upd g (c + 6) (zonesF g (g (i + 1)) (g (i + 2)))
  upd g 4 (g 4 + 1)
def isLateF (f : Nat → Int32) (c : Int32) : Int32 := if f (305 + 7 * cl c + 2) = 4 then 0 else if f 0 ≤ f (305 + 7 * cl c + 3) + 20160 then 0 else 1
def dueF (f : Nat → Int32) (c : Int32) : Int32 := if f (305 + 7 * cl c + 2) = 4 then 0 else if isLateF f c = 0 then f (305 + 7 * cl c + 4) else f (305 + 7 * cl c + 4) + 1500
def mayAppealF (f : Nat → Int32) (c : Int32) : Int32 := if f (305 + 7 * cl c + 2) = 0 then (if isLateF f c = 0 then 1 else 0) else 0
def cntA (f : Nat → Int32) : Nat → Int32 → Int32 → Int32
  | 0, x, _ => x
  | n + 1, x, c => cntA f n (if f (305 + 7 * cl c + 2) = 1 then x + 1 else x) (c + 1)
def appealF (f : Nat → Int32) (c t : Int32) : Nat → Int32 := upd (upd f (305 + 7 * cl c + 2) 1) (305 + 7 * cl c + 5) t
def judgedF (f : Nat → Int32) (c t : Int32) : Int32 :=
  let j := 125 + 6 * cl t
  let i := 305 + 7 * cl c
  if f j = f i ∧ f (j + 1) = 1 ∧ ¬ f (j + 3) = -1 ∧ ¬ f (i + 3) < f (j + 3) ∧ f (j + 3) / 1440 = f (i + 3) / 1440 ∧ ¬ coversI (f (j + 2)) (f (i + 6)) = 0 then 2 else 3
def decideF (f : Nat → Int32) (c : Int32) : Nat → Int32 :=
  let r := judgedF f c (f (305 + 7 * cl c + 5))
  let g := upd f (305 + 7 * cl c + 2) r
  if r = 2 then upd g (305 + 7 * cl c + 4) 700 else upd g (305 + 7 * cl c + 4) (g (305 + 7 * cl c + 4) + 500)
def mayPayF (f : Nat → Int32) (c : Int32) : Int32 := if f (305 + 7 * cl c + 2) = 1 then 0 else if f (305 + 7 * cl c + 2) = 4 then 0 else if f (21 + 13 * cl (f (305 + 7 * cl c))) < dueF f c then 0 else 1
def payF (f : Nat → Int32) (c : Int32) : Nat → Int32 :=
  let i := 21 + 13 * cl (f (305 + 7 * cl c))
  let g := upd f i (f i - dueF f c)
  let g := upd g (305 + 7 * cl c + 2) 4
  upd g 6 (g 6 + dueF f c)
def waitF (f : Nat → Int32) (n : Int32) : Nat → Int32 := upd f 0 (f 0 + n)
section
variable {w : Mm} {m s z : Nat} {f : Nat → Int32} {Q : Int32 → Mm → Nat → Prop} {R : Mm → Nat → Prop}
theorem ixPn {a : Int32} {k : Nat} (ha : vp_in a 8) (hk : k < 13) : vp_in (21 + 13 * a + Int32.ofNat k) 445 ∧ cl (21 + 13 * a + Int32.ofNat k) = 21 + 13 * cl a + k := by
  have h := ixP ha (in_nI (k := k) (by omega) hk)
  rwa [clnI (by omega)] at h
theorem ixTn {a : Int32} {k : Nat} (ha : vp_in a 30) (hk : k < 6) : vp_in (125 + 6 * a + Int32.ofNat k) 445 ∧ cl (125 + 6 * a + Int32.ofNat k) = 125 + 6 * cl a + k := by
  have h := ixT ha (in_nI (k := k) (by omega) hk)
  rwa [clnI (by omega)] at h
theorem ixCn {a : Int32} {k : Nat} (ha : vp_in a 20) (hk : k < 7) : vp_in (305 + 7 * a + Int32.ofNat k) 445 ∧ cl (305 + 7 * a + Int32.ofNat k) = 305 + 7 * cl a + k := by
  have h := ixC ha (in_nI (k := k) (by omega) hk)
  rwa [clnI (by omega)] at h
theorem vl0 : vp_in 0 445 := in_nI (k := 0) (by decide) (by decide)
theorem vl1 : vp_in 1 445 := in_nI (k := 1) (by decide) (by decide)
theorem vl2 : vp_in 2 445 := in_nI (k := 2) (by decide) (by decide)
theorem vl3 : vp_in 3 445 := in_nI (k := 3) (by decide) (by decide)
theorem vl4 : vp_in 4 445 := in_nI (k := 4) (by decide) (by decide)
theorem vl5 : vp_in 5 445 := in_nI (k := 5) (by decide) (by decide)
theorem vl6 : vp_in 6 445 := in_nI (k := 6) (by decide) (by decide)
theorem vl7 : vp_in 7 445 := in_nI (k := 7) (by decide) (by decide)
theorem vl8 : vp_in 8 445 := in_nI (k := 8) (by decide) (by decide)
theorem i_1 : (1 : Int32).toInt = 1 := by decide
theorem i_0 : (0 : Int32).toInt = 0 := by decide
theorem jmax_I (a b : Int32) : a.toInt ≤ (jmax a b).toInt ∧ b.toInt ≤ (jmax a b).toInt ∧ ((jmax a b).toInt = a.toInt ∨ (jmax a b).toInt = b.toInt) := by
  unfold jmax
  by_cases h : a < b
  · rw [if_pos h]
    have := ilt.mp h
    omega
  · rw [if_neg h]
    have : ¬ a.toInt < b.toInt := fun h2 => h (ilt.mpr h2)
    omega
theorem jmin_I (a b : Int32) : (jmin a b).toInt ≤ a.toInt ∧ (jmin a b).toInt ≤ b.toInt ∧ ((jmin a b).toInt = a.toInt ∨ (jmin a b).toInt = b.toInt) := by
  unfold jmin
  by_cases h : b < a
  · rw [if_pos h]
    have := ilt.mp h
    omega
  · rw [if_neg h]
    have : ¬ b.toInt < a.toInt := fun h2 => h (ilt.mpr h2)
    omega
end
