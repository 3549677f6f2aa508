/-! the reference: its row of numbers -/
abbrev mw (w : Mm) (s : Nat) (f : Nat → Int32) : Mm := mset w s (.inr (0, 445, .inl f))
def Ok (w : Mm) (m s : Nat) : Prop := fld w m 10 0 = some (.ref s) ∧ m ≠ s ∧ isO w m 10
theorem Ok.fl {w : Mm} {m s : Nat} (h : Ok w m s) (f : Nat → Int32) : fld (mw w s f) m 10 0 = some (.ref s) := (fld_ne h.2.1).trans h.1
theorem Ok.is {w : Mm} {m s : Nat} (h : Ok w m s) (f : Nat → Int32) : isO (mw w s f) m 10 := by
  rw [isO_ne h.2.1]
  exact h.2.2
theorem mw_r (w : Mm) (s : Nat) (f : Nat → Int32) : arI (mw w s f) s 0 = some (445, f) := arI_ms _ _ _ _ _
theorem mw_w (w : Mm) (s : Nat) (f : Nat → Int32) : arW (mw w s f) s 0 = some (445, f) := arW_ms _ _ _ _ _
theorem mw_set (w : Mm) (s : Nat) (f g : Nat → Int32) : mset (mw w s f) s (.inr (0, 445, .inl g)) = mw w s g := mset_mset _ _ _ _
theorem one0 : ¬ (1 : Int32) = 0 := by decide
theorem n01 : (((0 : Int32) = 1)) = False := eq_false (by decide)
theorem n02 : (((0 : Int32) = 2)) = False := eq_false (by decide)
theorem n03 : (((0 : Int32) = 3)) = False := eq_false (by decide)
theorem n04 : (((0 : Int32) = 4)) = False := eq_false (by decide)
theorem n05 : (((0 : Int32) = 5)) = False := eq_false (by decide)
theorem n10 : (((1 : Int32) = 0)) = False := eq_false (by decide)
theorem n12 : (((1 : Int32) = 2)) = False := eq_false (by decide)
theorem n13 : (((1 : Int32) = 3)) = False := eq_false (by decide)
theorem n14 : (((1 : Int32) = 4)) = False := eq_false (by decide)
theorem n15 : (((1 : Int32) = 5)) = False := eq_false (by decide)
theorem n20 : (((2 : Int32) = 0)) = False := eq_false (by decide)
theorem n21 : (((2 : Int32) = 1)) = False := eq_false (by decide)
theorem n23 : (((2 : Int32) = 3)) = False := eq_false (by decide)
theorem n24 : (((2 : Int32) = 4)) = False := eq_false (by decide)
theorem n25 : (((2 : Int32) = 5)) = False := eq_false (by decide)
theorem n30 : (((3 : Int32) = 0)) = False := eq_false (by decide)
theorem n31 : (((3 : Int32) = 1)) = False := eq_false (by decide)
theorem n32 : (((3 : Int32) = 2)) = False := eq_false (by decide)
theorem n34 : (((3 : Int32) = 4)) = False := eq_false (by decide)
theorem n35 : (((3 : Int32) = 5)) = False := eq_false (by decide)
theorem n40 : (((4 : Int32) = 0)) = False := eq_false (by decide)
theorem n41 : (((4 : Int32) = 1)) = False := eq_false (by decide)
theorem n42 : (((4 : Int32) = 2)) = False := eq_false (by decide)
theorem n43 : (((4 : Int32) = 3)) = False := eq_false (by decide)
theorem n45 : (((4 : Int32) = 5)) = False := eq_false (by decide)
theorem n50 : (((5 : Int32) = 0)) = False := eq_false (by decide)
theorem n51 : (((5 : Int32) = 1)) = False := eq_false (by decide)
theorem n52 : (((5 : Int32) = 2)) = False := eq_false (by decide)
theorem n53 : (((5 : Int32) = 3)) = False := eq_false (by decide)
theorem n54 : (((5 : Int32) = 4)) = False := eq_false (by decide)
theorem cl0 : (0 : Int32).toNatClampNeg = 0 := by decide
theorem cl1 : (1 : Int32).toNatClampNeg = 1 := by decide
theorem cl2 : (2 : Int32).toNatClampNeg = 2 := by decide
theorem cl3 : (3 : Int32).toNatClampNeg = 3 := by decide
theorem cl4 : (4 : Int32).toNatClampNeg = 4 := by decide
theorem cl5 : (5 : Int32).toNatClampNeg = 5 := by decide
theorem cl6 : (6 : Int32).toNatClampNeg = 6 := by decide
theorem cl7 : (7 : Int32).toNatClampNeg = 7 := by decide
theorem cl8 : (8 : Int32).toNatClampNeg = 8 := by decide
theorem cl445 : (445 : Int32).toNatClampNeg = 445 := by decide
theorem cl3115 : (3115 : Int32).toNatClampNeg = 3115 := by decide
theorem cl_nI {k : Nat} (h : k < 1000) : (Int32.ofNat k).toInt = k := nI_toInt (by omega)
theorem in_nI {k n : Nat} (h : k < 1000) (hn : k < n) : vp_in (Int32.ofNat k) n := vp_in_iff.mpr (by rw [cl_nI h]; omega)
theorem clnI {k : Nat} (h : k < 1000) : cl (Int32.ofNat k) = k := by
  rw [cl_eq, cl_nI h]
  rfl
/-! what it works out -/
def bitc (a : Int32) : Int32 :=
  let i1 := a - ((a.toUInt32 >>> ((1 : Int32).toUInt32 &&& Int32.toUInt32 31)).toInt32 &&& 1431655765)
  let i2 := (i1 &&& 858993459) + ((i1.toUInt32 >>> ((2 : Int32).toUInt32 &&& Int32.toUInt32 31)).toInt32 &&& 858993459)
  let i3 := (i2 + (i2.toUInt32 >>> ((4 : Int32).toUInt32 &&& Int32.toUInt32 31)).toInt32) &&& 252645135
  let i4 := i3 + (i3.toUInt32 >>> ((8 : Int32).toUInt32 &&& Int32.toUInt32 31)).toInt32
  let i5 := i4 + (i4.toUInt32 >>> ((16 : Int32).toUInt32 &&& Int32.toUInt32 31)).toInt32
  i5 &&& 63
theorem j_bitCount {a : Int32} {w : Mm} {z : Nat} {Q : Int32 → Mm → Nat → Prop} (hq : Q (bitc a) w z) : F_J6_bitCount_0f7a4 a w z Q := by
  unfold F_J6_bitCount_0f7a4
  rintro _ rfl _ rfl _ rfl _ rfl _ rfl
  exact hq
def priceI (k zn : Int32) : Int32 := if k = 2 then 150 else if k = 1 then bitc zn * 500 else bitc zn * 200
def mayBuyF (f : Nat → Int32) (p k zn : Int32) : Int32 := if 30 ≤ f 3 then 0 else if f (21 + 13 * cl p) < priceI k zn then 0 else 1
def buyF (f : Nat → Int32) (p k zn : Int32) : Nat → Int32 :=
  let t := 125 + 6 * cl (f 3)
  let g := upd (upd (upd (upd (upd (upd f t p) (t + 1) k) (t + 2) zn) (t + 3) (-1)) (t + 4) (-1)) (t + 5) 0
  let g := upd g (21 + 13 * cl p) (g (21 + 13 * cl p) - priceI k zn)
  let g := upd g 5 (g 5 + priceI k zn)
  upd g 3 (g 3 + 1)
def ridesF (f : Nat → Int32) (p : Int32) : Int32 := if f (21 + 13 * cl p + 3) ≤ f 0 then 0 else 1
def mayRideF (f : Nat → Int32) (p t : Int32) : Int32 := if ¬ f (21 + 13 * cl p + 3) ≤ f 0 then 0 else if t = -1 then 1 else if f (125 + 6 * cl t) = p then 1 else 0
def beginF (f : Nat → Int32) (p a b t : Int32) : Nat → Int32 :=
  let i := 21 + 13 * cl p
  let g := upd (upd f (i + 1) a) (i + 2) b
  let g := upd (upd (upd g (i + 3) (g 0 + 2 * jabs (b - a))) (i + 4) t) (i + 5) 0
  if t = -1 then g else
  let j := 125 + 6 * cl t
  let g := upd g (j + 5) (g (j + 5) + 1)
  if g (j + 3) = -1 then
    let g := upd g (j + 3) (g 0)
    upd g (j + 4) a
  else g
def inTimeF (f : Nat → Int32) (t : Int32) : Int32 :=
  let j := 125 + 6 * cl t
  if f (j + 3) = -1 then 1 else if f (j + 1) = 1 then (if f 0 / 1440 = f (j + 3) / 1440 then 1 else 0)
  else if (if f (j + 1) = 0 then 60 else 30) ≤ f 0 - f (j + 3) then 0 else 1
def zonesR (f : Nat → Int32) : Nat → Int32 → Int32 → Int32
  | 0, x, _ => x
  | n + 1, x, st => zonesR f n (x ||| (1 <<< (f (9 + cl st) &&& 31))) (st + 1)
def zonesF (f : Nat → Int32) (a b : Int32) : Int32 := zonesR f (cl (jmax a b) + 1 - cl (jmin a b)) 0 (jmin a b)
def coversI (zn all : Int32) : Int32 := if all &&& (zn ^^^ -1) = 0 then 1 else 0
def faultF (f : Nat → Int32) (p : Int32) : Int32 :=
  let i := 21 + 13 * cl p
  if f (i + 3) = -1 then 0 else if f (i + 4) = -1 then 1 else
  let j := 125 + 6 * cl (f (i + 4))
  if inTimeF f (f (i + 4)) = 0 then 2 else if coversI (f (j + 2)) (zonesF f (f (i + 1)) (f (i + 2))) = 0 then 3
  else if f (j + 1) = 0 ∧ ¬ f (j + 5) ≤ 3 then 4
  else if f (j + 1) = 2 ∧ ¬ jabs (f (i + 2) - f (j + 4)) ≤ 4 then 5 else 0
def mayInspectF (f : Nat → Int32) (p : Int32) : Int32 := if f (21 + 13 * cl p + 3) ≤ f 0 then 0 else if f (21 + 13 * cl p + 5) = 0 then (if 20 ≤ f 4 then 0 else 1) else 0
def inspectF (f : Nat → Int32) (p : Int32) : Nat → Int32 :=
  let r := faultF f p
  let i := 21 + 13 * cl p
  let g := upd (upd f 7 (f 7 + 1)) (i + 5) 1
  if r = 0 then g else
  let c := 305 + 7 * cl (g 4)
  let g := upd (upd (upd g c p) (c + 1) r) (c + 2) 0
  let g := upd (upd (upd g (c + 3) (g 0)) (c + 4) 6000) (c + 5) (-1)
  let g := upd g (c + 6) (zonesF g (g (i + 1)) (g (i + 2)))
  upd g 4 (g 4 + 1)
def isLateF (f : Nat → Int32) (c : Int32) : Int32 := if f (305 + 7 * cl c + 2) = 4 then 0 else if f 0 ≤ f (305 + 7 * cl c + 3) + 20160 then 0 else 1
def dueF (f : Nat → Int32) (c : Int32) : Int32 := if f (305 + 7 * cl c + 2) = 4 then 0 else if isLateF f c = 0 then f (305 + 7 * cl c + 4) else f (305 + 7 * cl c + 4) + 1500
def mayAppealF (f : Nat → Int32) (c : Int32) : Int32 := if f (305 + 7 * cl c + 2) = 0 then (if isLateF f c = 0 then 1 else 0) else 0
def cntA (f : Nat → Int32) : Nat → Int32 → Int32 → Int32
  | 0, x, _ => x
  | n + 1, x, c => cntA f n (if f (305 + 7 * cl c + 2) = 1 then x + 1 else x) (c + 1)
def appealF (f : Nat → Int32) (c t : Int32) : Nat → Int32 := upd (upd f (305 + 7 * cl c + 2) 1) (305 + 7 * cl c + 5) t
def judgedF (f : Nat → Int32) (c t : Int32) : Int32 :=
  let j := 125 + 6 * cl t
  let i := 305 + 7 * cl c
  if f j = f i ∧ f (j + 1) = 1 ∧ ¬ f (j + 3) = -1 ∧ ¬ f (i + 3) < f (j + 3) ∧ f (j + 3) / 1440 = f (i + 3) / 1440 ∧ ¬ coversI (f (j + 2)) (f (i + 6)) = 0 then 2 else 3
def decideF (f : Nat → Int32) (c : Int32) : Nat → Int32 :=
  let r := judgedF f c (f (305 + 7 * cl c + 5))
  let g := upd f (305 + 7 * cl c + 2) r
  if r = 2 then upd g (305 + 7 * cl c + 4) 700 else upd g (305 + 7 * cl c + 4) (g (305 + 7 * cl c + 4) + 500)
def mayPayF (f : Nat → Int32) (c : Int32) : Int32 := if f (305 + 7 * cl c + 2) = 1 then 0 else if f (305 + 7 * cl c + 2) = 4 then 0 else if f (21 + 13 * cl (f (305 + 7 * cl c))) < dueF f c then 0 else 1
def payF (f : Nat → Int32) (c : Int32) : Nat → Int32 :=
  let i := 21 + 13 * cl (f (305 + 7 * cl c))
  let g := upd f i (f i - dueF f c)
  let g := upd g (305 + 7 * cl c + 2) 4
  upd g 6 (g 6 + dueF f c)
def waitF (f : Nat → Int32) (n : Int32) : Nat → Int32 := upd f 0 (f 0 + n)
section
variable {w : Mm} {m s z : Nat} {f : Nat → Int32} {Q : Int32 → Mm → Nat → Prop} {R : Mm → Nat → Prop}
theorem ixPn {a : Int32} {k : Nat} (ha : vp_in a 8) (hk : k < 13) : vp_in (21 + 13 * a + Int32.ofNat k) 445 ∧ cl (21 + 13 * a + Int32.ofNat k) = 21 + 13 * cl a + k := by
  have h := ixP ha (in_nI (k := k) (by omega) hk)
  rwa [clnI (by omega)] at h
theorem ixTn {a : Int32} {k : Nat} (ha : vp_in a 30) (hk : k < 6) : vp_in (125 + 6 * a + Int32.ofNat k) 445 ∧ cl (125 + 6 * a + Int32.ofNat k) = 125 + 6 * cl a + k := by
  have h := ixT ha (in_nI (k := k) (by omega) hk)
  rwa [clnI (by omega)] at h
theorem ixCn {a : Int32} {k : Nat} (ha : vp_in a 20) (hk : k < 7) : vp_in (305 + 7 * a + Int32.ofNat k) 445 ∧ cl (305 + 7 * a + Int32.ofNat k) = 305 + 7 * cl a + k := by
  have h := ixC ha (in_nI (k := k) (by omega) hk)
  rwa [clnI (by omega)] at h
theorem r_price {k zn : Int32} (hq : Q (priceI k zn) w z) : F_X6_price k zn w z Q := by
  unfold F_X6_price
  refine ⟨fun h2 => ⟨fun h1 => j_bitCount ?_, fun h1 => j_bitCount ?_⟩, fun h2 => ?_⟩
  · rw [priceI, if_neg h2, if_neg h1, Int32.mul_comm] at hq
    exact hq
  · rw [priceI, if_neg h2, if_pos h1, Int32.mul_comm] at hq
    exact hq
  · rw [priceI, if_pos h2] at hq
    exact hq
theorem r_ofP {a : Int32} {k : Nat} (h : Ok w m s) (ha : vp_in a 8) (hk : k < 13) (hq : Q (f (21 + 13 * cl a + k)) (mw w s f) z) : F_X6_ofPassenger m a (Int32.ofNat k) (mw w s f) z Q := by
  have hi := ixPn ha hk
  refine ⟨_, h.fl _, _, _, mw_r _ _ _, hi.1, ?_⟩
  rw [show (21 + 13 * a + Int32.ofNat k : Int32).toNatClampNeg = _ from hi.2]
  exact hq
theorem r_putP {a v : Int32} {k : Nat} (h : Ok w m s) (ha : vp_in a 8) (hk : k < 13) (hq : R (mw w s (upd f (21 + 13 * cl a + k) v)) z) : F_X6_putPassenger m a (Int32.ofNat k) v (mw w s f) z R := by
  have hi := ixPn ha hk
  refine ⟨_, h.fl _, _, _, mw_w _ _ _, hi.1, ?_⟩
  rintro _ rfl
  rw [show (21 + 13 * a + Int32.ofNat k : Int32).toNatClampNeg = _ from hi.2, mw_set]
  exact hq
theorem r_ofT {a : Int32} {k : Nat} (h : Ok w m s) (ha : vp_in a 30) (hk : k < 6) (hq : Q (f (125 + 6 * cl a + k)) (mw w s f) z) : F_X6_ofTicket m a (Int32.ofNat k) (mw w s f) z Q := by
  have hi := ixTn ha hk
  refine ⟨_, h.fl _, _, _, mw_r _ _ _, hi.1, ?_⟩
  rw [show (125 + 6 * a + Int32.ofNat k : Int32).toNatClampNeg = _ from hi.2]
  exact hq
theorem r_putT {a v : Int32} {k : Nat} (h : Ok w m s) (ha : vp_in a 30) (hk : k < 6) (hq : R (mw w s (upd f (125 + 6 * cl a + k) v)) z) : F_X6_putTicket m a (Int32.ofNat k) v (mw w s f) z R := by
  have hi := ixTn ha hk
  refine ⟨_, h.fl _, _, _, mw_w _ _ _, hi.1, ?_⟩
  rintro _ rfl
  rw [show (125 + 6 * a + Int32.ofNat k : Int32).toNatClampNeg = _ from hi.2, mw_set]
  exact hq
theorem r_ofC {a : Int32} {k : Nat} (h : Ok w m s) (ha : vp_in a 20) (hk : k < 7) (hq : Q (f (305 + 7 * cl a + k)) (mw w s f) z) : F_X6_ofCase m a (Int32.ofNat k) (mw w s f) z Q := by
  have hi := ixCn ha hk
  refine ⟨_, h.fl _, _, _, mw_r _ _ _, hi.1, ?_⟩
  rw [show (305 + 7 * a + Int32.ofNat k : Int32).toNatClampNeg = _ from hi.2]
  exact hq
theorem r_putC {a v : Int32} {k : Nat} (h : Ok w m s) (ha : vp_in a 20) (hk : k < 7) (hq : R (mw w s (upd f (305 + 7 * cl a + k) v)) z) : F_X6_putCase m a (Int32.ofNat k) v (mw w s f) z R := by
  have hi := ixCn ha hk
  refine ⟨_, h.fl _, _, _, mw_w _ _ _, hi.1, ?_⟩
  rintro _ rfl
  rw [show (305 + 7 * a + Int32.ofNat k : Int32).toNatClampNeg = _ from hi.2, mw_set]
  exact hq
theorem r_ofP0 {a : Int32} (h : Ok w m s) (ha : vp_in a 8) (hq : Q (f (21 + 13 * cl a)) (mw w s f) z) : F_X6_ofPassenger m a 0 (mw w s f) z Q := r_ofP (k := 0) h ha (by decide) hq
theorem r_putP0 {a v : Int32} (h : Ok w m s) (ha : vp_in a 8) (hq : R (mw w s (upd f (21 + 13 * cl a) v)) z) : F_X6_putPassenger m a 0 v (mw w s f) z R := r_putP (k := 0) h ha (by decide) hq
theorem r_ofP1 {a : Int32} (h : Ok w m s) (ha : vp_in a 8) (hq : Q (f (21 + 13 * cl a + 1)) (mw w s f) z) : F_X6_ofPassenger m a 1 (mw w s f) z Q := r_ofP (k := 1) h ha (by decide) hq
theorem r_putP1 {a v : Int32} (h : Ok w m s) (ha : vp_in a 8) (hq : R (mw w s (upd f (21 + 13 * cl a + 1) v)) z) : F_X6_putPassenger m a 1 v (mw w s f) z R := r_putP (k := 1) h ha (by decide) hq
theorem r_ofP2 {a : Int32} (h : Ok w m s) (ha : vp_in a 8) (hq : Q (f (21 + 13 * cl a + 2)) (mw w s f) z) : F_X6_ofPassenger m a 2 (mw w s f) z Q := r_ofP (k := 2) h ha (by decide) hq
theorem r_putP2 {a v : Int32} (h : Ok w m s) (ha : vp_in a 8) (hq : R (mw w s (upd f (21 + 13 * cl a + 2) v)) z) : F_X6_putPassenger m a 2 v (mw w s f) z R := r_putP (k := 2) h ha (by decide) hq
theorem r_ofP3 {a : Int32} (h : Ok w m s) (ha : vp_in a 8) (hq : Q (f (21 + 13 * cl a + 3)) (mw w s f) z) : F_X6_ofPassenger m a 3 (mw w s f) z Q := r_ofP (k := 3) h ha (by decide) hq
theorem r_putP3 {a v : Int32} (h : Ok w m s) (ha : vp_in a 8) (hq : R (mw w s (upd f (21 + 13 * cl a + 3) v)) z) : F_X6_putPassenger m a 3 v (mw w s f) z R := r_putP (k := 3) h ha (by decide) hq
theorem r_ofP4 {a : Int32} (h : Ok w m s) (ha : vp_in a 8) (hq : Q (f (21 + 13 * cl a + 4)) (mw w s f) z) : F_X6_ofPassenger m a 4 (mw w s f) z Q := r_ofP (k := 4) h ha (by decide) hq
theorem r_putP4 {a v : Int32} (h : Ok w m s) (ha : vp_in a 8) (hq : R (mw w s (upd f (21 + 13 * cl a + 4) v)) z) : F_X6_putPassenger m a 4 v (mw w s f) z R := r_putP (k := 4) h ha (by decide) hq
theorem r_ofP5 {a : Int32} (h : Ok w m s) (ha : vp_in a 8) (hq : Q (f (21 + 13 * cl a + 5)) (mw w s f) z) : F_X6_ofPassenger m a 5 (mw w s f) z Q := r_ofP (k := 5) h ha (by decide) hq
theorem r_putP5 {a v : Int32} (h : Ok w m s) (ha : vp_in a 8) (hq : R (mw w s (upd f (21 + 13 * cl a + 5) v)) z) : F_X6_putPassenger m a 5 v (mw w s f) z R := r_putP (k := 5) h ha (by decide) hq
theorem r_ofP6 {a : Int32} (h : Ok w m s) (ha : vp_in a 8) (hq : Q (f (21 + 13 * cl a + 6)) (mw w s f) z) : F_X6_ofPassenger m a 6 (mw w s f) z Q := r_ofP (k := 6) h ha (by decide) hq
theorem r_putP6 {a v : Int32} (h : Ok w m s) (ha : vp_in a 8) (hq : R (mw w s (upd f (21 + 13 * cl a + 6) v)) z) : F_X6_putPassenger m a 6 v (mw w s f) z R := r_putP (k := 6) h ha (by decide) hq
theorem r_ofT0 {a : Int32} (h : Ok w m s) (ha : vp_in a 30) (hq : Q (f (125 + 6 * cl a)) (mw w s f) z) : F_X6_ofTicket m a 0 (mw w s f) z Q := r_ofT (k := 0) h ha (by decide) hq
theorem r_putT0 {a v : Int32} (h : Ok w m s) (ha : vp_in a 30) (hq : R (mw w s (upd f (125 + 6 * cl a) v)) z) : F_X6_putTicket m a 0 v (mw w s f) z R := r_putT (k := 0) h ha (by decide) hq
theorem r_ofT1 {a : Int32} (h : Ok w m s) (ha : vp_in a 30) (hq : Q (f (125 + 6 * cl a + 1)) (mw w s f) z) : F_X6_ofTicket m a 1 (mw w s f) z Q := r_ofT (k := 1) h ha (by decide) hq
theorem r_putT1 {a v : Int32} (h : Ok w m s) (ha : vp_in a 30) (hq : R (mw w s (upd f (125 + 6 * cl a + 1) v)) z) : F_X6_putTicket m a 1 v (mw w s f) z R := r_putT (k := 1) h ha (by decide) hq
theorem r_ofT2 {a : Int32} (h : Ok w m s) (ha : vp_in a 30) (hq : Q (f (125 + 6 * cl a + 2)) (mw w s f) z) : F_X6_ofTicket m a 2 (mw w s f) z Q := r_ofT (k := 2) h ha (by decide) hq
theorem r_putT2 {a v : Int32} (h : Ok w m s) (ha : vp_in a 30) (hq : R (mw w s (upd f (125 + 6 * cl a + 2) v)) z) : F_X6_putTicket m a 2 v (mw w s f) z R := r_putT (k := 2) h ha (by decide) hq
theorem r_ofT3 {a : Int32} (h : Ok w m s) (ha : vp_in a 30) (hq : Q (f (125 + 6 * cl a + 3)) (mw w s f) z) : F_X6_ofTicket m a 3 (mw w s f) z Q := r_ofT (k := 3) h ha (by decide) hq
theorem r_putT3 {a v : Int32} (h : Ok w m s) (ha : vp_in a 30) (hq : R (mw w s (upd f (125 + 6 * cl a + 3) v)) z) : F_X6_putTicket m a 3 v (mw w s f) z R := r_putT (k := 3) h ha (by decide) hq
theorem r_ofT4 {a : Int32} (h : Ok w m s) (ha : vp_in a 30) (hq : Q (f (125 + 6 * cl a + 4)) (mw w s f) z) : F_X6_ofTicket m a 4 (mw w s f) z Q := r_ofT (k := 4) h ha (by decide) hq
theorem r_putT4 {a v : Int32} (h : Ok w m s) (ha : vp_in a 30) (hq : R (mw w s (upd f (125 + 6 * cl a + 4) v)) z) : F_X6_putTicket m a 4 v (mw w s f) z R := r_putT (k := 4) h ha (by decide) hq
theorem r_ofT5 {a : Int32} (h : Ok w m s) (ha : vp_in a 30) (hq : Q (f (125 + 6 * cl a + 5)) (mw w s f) z) : F_X6_ofTicket m a 5 (mw w s f) z Q := r_ofT (k := 5) h ha (by decide) hq
theorem r_putT5 {a v : Int32} (h : Ok w m s) (ha : vp_in a 30) (hq : R (mw w s (upd f (125 + 6 * cl a + 5) v)) z) : F_X6_putTicket m a 5 v (mw w s f) z R := r_putT (k := 5) h ha (by decide) hq
theorem r_ofC0 {a : Int32} (h : Ok w m s) (ha : vp_in a 20) (hq : Q (f (305 + 7 * cl a)) (mw w s f) z) : F_X6_ofCase m a 0 (mw w s f) z Q := r_ofC (k := 0) h ha (by decide) hq
theorem r_putC0 {a v : Int32} (h : Ok w m s) (ha : vp_in a 20) (hq : R (mw w s (upd f (305 + 7 * cl a) v)) z) : F_X6_putCase m a 0 v (mw w s f) z R := r_putC (k := 0) h ha (by decide) hq
theorem r_ofC1 {a : Int32} (h : Ok w m s) (ha : vp_in a 20) (hq : Q (f (305 + 7 * cl a + 1)) (mw w s f) z) : F_X6_ofCase m a 1 (mw w s f) z Q := r_ofC (k := 1) h ha (by decide) hq
theorem r_putC1 {a v : Int32} (h : Ok w m s) (ha : vp_in a 20) (hq : R (mw w s (upd f (305 + 7 * cl a + 1) v)) z) : F_X6_putCase m a 1 v (mw w s f) z R := r_putC (k := 1) h ha (by decide) hq
theorem r_ofC2 {a : Int32} (h : Ok w m s) (ha : vp_in a 20) (hq : Q (f (305 + 7 * cl a + 2)) (mw w s f) z) : F_X6_ofCase m a 2 (mw w s f) z Q := r_ofC (k := 2) h ha (by decide) hq
theorem r_putC2 {a v : Int32} (h : Ok w m s) (ha : vp_in a 20) (hq : R (mw w s (upd f (305 + 7 * cl a + 2) v)) z) : F_X6_putCase m a 2 v (mw w s f) z R := r_putC (k := 2) h ha (by decide) hq
theorem r_ofC3 {a : Int32} (h : Ok w m s) (ha : vp_in a 20) (hq : Q (f (305 + 7 * cl a + 3)) (mw w s f) z) : F_X6_ofCase m a 3 (mw w s f) z Q := r_ofC (k := 3) h ha (by decide) hq
theorem r_putC3 {a v : Int32} (h : Ok w m s) (ha : vp_in a 20) (hq : R (mw w s (upd f (305 + 7 * cl a + 3) v)) z) : F_X6_putCase m a 3 v (mw w s f) z R := r_putC (k := 3) h ha (by decide) hq
theorem r_ofC4 {a : Int32} (h : Ok w m s) (ha : vp_in a 20) (hq : Q (f (305 + 7 * cl a + 4)) (mw w s f) z) : F_X6_ofCase m a 4 (mw w s f) z Q := r_ofC (k := 4) h ha (by decide) hq
theorem r_putC4 {a v : Int32} (h : Ok w m s) (ha : vp_in a 20) (hq : R (mw w s (upd f (305 + 7 * cl a + 4) v)) z) : F_X6_putCase m a 4 v (mw w s f) z R := r_putC (k := 4) h ha (by decide) hq
theorem r_ofC5 {a : Int32} (h : Ok w m s) (ha : vp_in a 20) (hq : Q (f (305 + 7 * cl a + 5)) (mw w s f) z) : F_X6_ofCase m a 5 (mw w s f) z Q := r_ofC (k := 5) h ha (by decide) hq
theorem r_putC5 {a v : Int32} (h : Ok w m s) (ha : vp_in a 20) (hq : R (mw w s (upd f (305 + 7 * cl a + 5) v)) z) : F_X6_putCase m a 5 v (mw w s f) z R := r_putC (k := 5) h ha (by decide) hq
theorem r_ofC6 {a : Int32} (h : Ok w m s) (ha : vp_in a 20) (hq : Q (f (305 + 7 * cl a + 6)) (mw w s f) z) : F_X6_ofCase m a 6 (mw w s f) z Q := r_ofC (k := 6) h ha (by decide) hq
theorem r_putC6 {a v : Int32} (h : Ok w m s) (ha : vp_in a 20) (hq : R (mw w s (upd f (305 + 7 * cl a + 6) v)) z) : F_X6_putCase m a 6 v (mw w s f) z R := r_putC (k := 6) h ha (by decide) hq
theorem vl0 : vp_in 0 445 := in_nI (k := 0) (by decide) (by decide)
theorem vl1 : vp_in 1 445 := in_nI (k := 1) (by decide) (by decide)
theorem vl2 : vp_in 2 445 := in_nI (k := 2) (by decide) (by decide)
theorem vl3 : vp_in 3 445 := in_nI (k := 3) (by decide) (by decide)
theorem vl4 : vp_in 4 445 := in_nI (k := 4) (by decide) (by decide)
theorem vl5 : vp_in 5 445 := in_nI (k := 5) (by decide) (by decide)
theorem vl6 : vp_in 6 445 := in_nI (k := 6) (by decide) (by decide)
theorem vl7 : vp_in 7 445 := in_nI (k := 7) (by decide) (by decide)
theorem vl8 : vp_in 8 445 := in_nI (k := 8) (by decide) (by decide)
set_option maxRecDepth 100000 in
set_option maxHeartbeats 4000000 in
theorem r_mayBuy {p k zn : Int32} (h : Ok w m s) (hp : vp_in p 8) (hq : Q (mayBuyF f p k zn) (mw w s f) z) : F_X6_mayBuy m p k zn (mw w s f) z Q := by
  unfold F_X6_mayBuy
  try simp only [cl0, cl1, cl2, cl3, cl4, cl5, cl6, cl7, cl8]
  repeat' with_reducible (first
    | (refine r_price ?_)
    | (refine r_ofP0 h (by first | assumption | solve_by_elim) ?_)
    | (refine r_ofP1 h (by first | assumption | solve_by_elim) ?_)
    | (refine r_ofP2 h (by first | assumption | solve_by_elim) ?_)
    | (refine r_ofP3 h (by first | assumption | solve_by_elim) ?_)
    | (refine r_ofP4 h (by first | assumption | solve_by_elim) ?_)
    | (refine r_ofP5 h (by first | assumption | solve_by_elim) ?_)
    | (refine r_ofP6 h (by first | assumption | solve_by_elim) ?_)
    | (refine r_ofT0 h (by first | assumption | solve_by_elim) ?_)
    | (refine r_ofT1 h (by first | assumption | solve_by_elim) ?_)
    | (refine r_ofT2 h (by first | assumption | solve_by_elim) ?_)
    | (refine r_ofT3 h (by first | assumption | solve_by_elim) ?_)
    | (refine r_ofT4 h (by first | assumption | solve_by_elim) ?_)
    | (refine r_ofT5 h (by first | assumption | solve_by_elim) ?_)
    | (refine r_ofC0 h (by first | assumption | solve_by_elim) ?_)
    | (refine r_ofC1 h (by first | assumption | solve_by_elim) ?_)
    | (refine r_ofC2 h (by first | assumption | solve_by_elim) ?_)
    | (refine r_ofC3 h (by first | assumption | solve_by_elim) ?_)
    | (refine r_ofC4 h (by first | assumption | solve_by_elim) ?_)
    | (refine r_ofC5 h (by first | assumption | solve_by_elim) ?_)
    | (refine r_ofC6 h (by first | assumption | solve_by_elim) ?_)
    | (refine r_putP0 h (by first | assumption | solve_by_elim) ?_)
    | (refine r_putP1 h (by first | assumption | solve_by_elim) ?_)
    | (refine r_putP2 h (by first | assumption | solve_by_elim) ?_)
    | (refine r_putP3 h (by first | assumption | solve_by_elim) ?_)
    | (refine r_putP4 h (by first | assumption | solve_by_elim) ?_)
    | (refine r_putP5 h (by first | assumption | solve_by_elim) ?_)
    | (refine r_putP6 h (by first | assumption | solve_by_elim) ?_)
    | (refine r_putT0 h (by first | assumption | solve_by_elim) ?_)
    | (refine r_putT1 h (by first | assumption | solve_by_elim) ?_)
    | (refine r_putT2 h (by first | assumption | solve_by_elim) ?_)
    | (refine r_putT3 h (by first | assumption | solve_by_elim) ?_)
    | (refine r_putT4 h (by first | assumption | solve_by_elim) ?_)
    | (refine r_putT5 h (by first | assumption | solve_by_elim) ?_)
    | (refine r_putC0 h (by first | assumption | solve_by_elim) ?_)
    | (refine r_putC1 h (by first | assumption | solve_by_elim) ?_)
    | (refine r_putC2 h (by first | assumption | solve_by_elim) ?_)
    | (refine r_putC3 h (by first | assumption | solve_by_elim) ?_)
    | (refine r_putC4 h (by first | assumption | solve_by_elim) ?_)
    | (refine r_putC5 h (by first | assumption | solve_by_elim) ?_)
    | (refine r_putC6 h (by first | assumption | solve_by_elim) ?_)
    | (refine ⟨h.is _, ?_⟩)
    | (refine ⟨_, h.fl _, ?_⟩)
    | (refine ⟨_, _, mw_r _ _ _, (by first | exact vl0 | exact vl1 | exact vl2 | exact vl3 | exact vl4 | exact vl5 | exact vl6 | exact vl7 | exact vl8), ?_⟩)
    | (refine ⟨_, _, mw_w _ _ _, (by first | exact vl0 | exact vl1 | exact vl2 | exact vl3 | exact vl4 | exact vl5 | exact vl6 | exact vl7 | exact vl8), ?_⟩)
    | (rintro _ rfl; try rw [mw_set])
    | (refine ⟨fun hc => ?_, fun hc => ?_⟩ <;> try first | contradiction | exact absurd hc one0)
    | fail
    )
  all_goals first
    | with_reducible exact hq
    | (simp only [mayBuyF, *, n01, n02, n03, n04, n05, n10, n12, n13, n14, n15, n20, n21, n23, n24, n25, n30, n31, n32, n34, n35, n40, n41, n42, n43, n45, n50, n51, n52, n53, n54, if_true, if_false, ite_true, ite_false, not_true_eq_false, not_false_eq_true, true_and, and_true, and_false, false_and, Nat.add_zero] at hq; with_reducible exact hq)
    | (simp only [mayBuyF, *, n01, n02, n03, n04, n05, n10, n12, n13, n14, n15, n20, n21, n23, n24, n25, n30, n31, n32, n34, n35, n40, n41, n42, n43, n45, n50, n51, n52, n53, n54, if_true, if_false, ite_true, ite_false, not_true_eq_false, not_false_eq_true, true_and, and_true, and_false, false_and, Nat.add_zero] at hq ⊢; try with_reducible exact hq)
set_option maxRecDepth 100000 in
set_option maxHeartbeats 4000000 in
theorem r_buys {p k zn : Int32} (h : Ok w m s) (hp : vp_in p 8) (ht : vp_in (f 3) 30) (hq : Q (f 3) (mw w s (buyF f p k zn)) z) : F_X6_buys m p k zn (mw w s f) z Q := by
  unfold F_X6_buys
  try simp only [cl0, cl1, cl2, cl3, cl4, cl5, cl6, cl7, cl8]
  repeat' with_reducible (first
    | (refine r_price ?_)
    | (refine r_ofP0 h (by first | assumption | solve_by_elim) ?_)
    | (refine r_ofP1 h (by first | assumption | solve_by_elim) ?_)
    | (refine r_ofP2 h (by first | assumption | solve_by_elim) ?_)
    | (refine r_ofP3 h (by first | assumption | solve_by_elim) ?_)
    | (refine r_ofP4 h (by first | assumption | solve_by_elim) ?_)
    | (refine r_ofP5 h (by first | assumption | solve_by_elim) ?_)
    | (refine r_ofP6 h (by first | assumption | solve_by_elim) ?_)
    | (refine r_ofT0 h (by first | assumption | solve_by_elim) ?_)
    | (refine r_ofT1 h (by first | assumption | solve_by_elim) ?_)
    | (refine r_ofT2 h (by first | assumption | solve_by_elim) ?_)
    | (refine r_ofT3 h (by first | assumption | solve_by_elim) ?_)
    | (refine r_ofT4 h (by first | assumption | solve_by_elim) ?_)
    | (refine r_ofT5 h (by first | assumption | solve_by_elim) ?_)
    | (refine r_ofC0 h (by first | assumption | solve_by_elim) ?_)
    | (refine r_ofC1 h (by first | assumption | solve_by_elim) ?_)
    | (refine r_ofC2 h (by first | assumption | solve_by_elim) ?_)
    | (refine r_ofC3 h (by first | assumption | solve_by_elim) ?_)
    | (refine r_ofC4 h (by first | assumption | solve_by_elim) ?_)
    | (refine r_ofC5 h (by first | assumption | solve_by_elim) ?_)
    | (refine r_ofC6 h (by first | assumption | solve_by_elim) ?_)
    | (refine r_putP0 h (by first | assumption | solve_by_elim) ?_)
    | (refine r_putP1 h (by first | assumption | solve_by_elim) ?_)
    | (refine r_putP2 h (by first | assumption | solve_by_elim) ?_)
    | (refine r_putP3 h (by first | assumption | solve_by_elim) ?_)
    | (refine r_putP4 h (by first | assumption | solve_by_elim) ?_)
    | (refine r_putP5 h (by first | assumption | solve_by_elim) ?_)
    | (refine r_putP6 h (by first | assumption | solve_by_elim) ?_)
    | (refine r_putT0 h (by first | assumption | solve_by_elim) ?_)
    | (refine r_putT1 h (by first | assumption | solve_by_elim) ?_)
    | (refine r_putT2 h (by first | assumption | solve_by_elim) ?_)
    | (refine r_putT3 h (by first | assumption | solve_by_elim) ?_)
    | (refine r_putT4 h (by first | assumption | solve_by_elim) ?_)
    | (refine r_putT5 h (by first | assumption | solve_by_elim) ?_)
    | (refine r_putC0 h (by first | assumption | solve_by_elim) ?_)
    | (refine r_putC1 h (by first | assumption | solve_by_elim) ?_)
    | (refine r_putC2 h (by first | assumption | solve_by_elim) ?_)
    | (refine r_putC3 h (by first | assumption | solve_by_elim) ?_)
    | (refine r_putC4 h (by first | assumption | solve_by_elim) ?_)
    | (refine r_putC5 h (by first | assumption | solve_by_elim) ?_)
    | (refine r_putC6 h (by first | assumption | solve_by_elim) ?_)
    | (refine ⟨h.is _, ?_⟩)
    | (refine ⟨_, h.fl _, ?_⟩)
    | (refine ⟨_, _, mw_r _ _ _, (by first | exact vl0 | exact vl1 | exact vl2 | exact vl3 | exact vl4 | exact vl5 | exact vl6 | exact vl7 | exact vl8), ?_⟩)
    | (refine ⟨_, _, mw_w _ _ _, (by first | exact vl0 | exact vl1 | exact vl2 | exact vl3 | exact vl4 | exact vl5 | exact vl6 | exact vl7 | exact vl8), ?_⟩)
    | (rintro _ rfl; try rw [mw_set])
    | (refine ⟨fun hc => ?_, fun hc => ?_⟩ <;> try first | contradiction | exact absurd hc one0)
    | fail
    )
  all_goals first
    | with_reducible exact hq
    | (simp only [buyF, *, n01, n02, n03, n04, n05, n10, n12, n13, n14, n15, n20, n21, n23, n24, n25, n30, n31, n32, n34, n35, n40, n41, n42, n43, n45, n50, n51, n52, n53, n54, if_true, if_false, ite_true, ite_false, not_true_eq_false, not_false_eq_true, true_and, and_true, and_false, false_and, Nat.add_zero] at hq; with_reducible exact hq)
    | (simp only [buyF, *, n01, n02, n03, n04, n05, n10, n12, n13, n14, n15, n20, n21, n23, n24, n25, n30, n31, n32, n34, n35, n40, n41, n42, n43, n45, n50, n51, n52, n53, n54, if_true, if_false, ite_true, ite_false, not_true_eq_false, not_false_eq_true, true_and, and_true, and_false, false_and, Nat.add_zero] at hq ⊢; try with_reducible exact hq)
set_option maxRecDepth 100000 in
set_option maxHeartbeats 4000000 in
theorem r_rides {p : Int32} (h : Ok w m s) (hp : vp_in p 8) (hq : Q (ridesF f p) (mw w s f) z) : F_X6_rides m p (mw w s f) z Q := by
  unfold F_X6_rides
  try simp only [cl0, cl1, cl2, cl3, cl4, cl5, cl6, cl7, cl8]
  repeat' with_reducible (first
    
    | (refine r_ofP0 h (by first | assumption | solve_by_elim) ?_)
    | (refine r_ofP1 h (by first | assumption | solve_by_elim) ?_)
    | (refine r_ofP2 h (by first | assumption | solve_by_elim) ?_)
    | (refine r_ofP3 h (by first | assumption | solve_by_elim) ?_)
    | (refine r_ofP4 h (by first | assumption | solve_by_elim) ?_)
    | (refine r_ofP5 h (by first | assumption | solve_by_elim) ?_)
    | (refine r_ofP6 h (by first | assumption | solve_by_elim) ?_)
    | (refine r_ofT0 h (by first | assumption | solve_by_elim) ?_)
    | (refine r_ofT1 h (by first | assumption | solve_by_elim) ?_)
    | (refine r_ofT2 h (by first | assumption | solve_by_elim) ?_)
    | (refine r_ofT3 h (by first | assumption | solve_by_elim) ?_)
    | (refine r_ofT4 h (by first | assumption | solve_by_elim) ?_)
    | (refine r_ofT5 h (by first | assumption | solve_by_elim) ?_)
    | (refine r_ofC0 h (by first | assumption | solve_by_elim) ?_)
    | (refine r_ofC1 h (by first | assumption | solve_by_elim) ?_)
    | (refine r_ofC2 h (by first | assumption | solve_by_elim) ?_)
    | (refine r_ofC3 h (by first | assumption | solve_by_elim) ?_)
    | (refine r_ofC4 h (by first | assumption | solve_by_elim) ?_)
    | (refine r_ofC5 h (by first | assumption | solve_by_elim) ?_)
    | (refine r_ofC6 h (by first | assumption | solve_by_elim) ?_)
    | (refine r_putP0 h (by first | assumption | solve_by_elim) ?_)
    | (refine r_putP1 h (by first | assumption | solve_by_elim) ?_)
    | (refine r_putP2 h (by first | assumption | solve_by_elim) ?_)
    | (refine r_putP3 h (by first | assumption | solve_by_elim) ?_)
    | (refine r_putP4 h (by first | assumption | solve_by_elim) ?_)
    | (refine r_putP5 h (by first | assumption | solve_by_elim) ?_)
    | (refine r_putP6 h (by first | assumption | solve_by_elim) ?_)
    | (refine r_putT0 h (by first | assumption | solve_by_elim) ?_)
    | (refine r_putT1 h (by first | assumption | solve_by_elim) ?_)
    | (refine r_putT2 h (by first | assumption | solve_by_elim) ?_)
    | (refine r_putT3 h (by first | assumption | solve_by_elim) ?_)
    | (refine r_putT4 h (by first | assumption | solve_by_elim) ?_)
    | (refine r_putT5 h (by first | assumption | solve_by_elim) ?_)
    | (refine r_putC0 h (by first | assumption | solve_by_elim) ?_)
    | (refine r_putC1 h (by first | assumption | solve_by_elim) ?_)
    | (refine r_putC2 h (by first | assumption | solve_by_elim) ?_)
    | (refine r_putC3 h (by first | assumption | solve_by_elim) ?_)
    | (refine r_putC4 h (by first | assumption | solve_by_elim) ?_)
    | (refine r_putC5 h (by first | assumption | solve_by_elim) ?_)
    | (refine r_putC6 h (by first | assumption | solve_by_elim) ?_)
    | (refine ⟨h.is _, ?_⟩)
    | (refine ⟨_, h.fl _, ?_⟩)
    | (refine ⟨_, _, mw_r _ _ _, (by first | exact vl0 | exact vl1 | exact vl2 | exact vl3 | exact vl4 | exact vl5 | exact vl6 | exact vl7 | exact vl8), ?_⟩)
    | (refine ⟨_, _, mw_w _ _ _, (by first | exact vl0 | exact vl1 | exact vl2 | exact vl3 | exact vl4 | exact vl5 | exact vl6 | exact vl7 | exact vl8), ?_⟩)
    | (rintro _ rfl; try rw [mw_set])
    | (refine ⟨fun hc => ?_, fun hc => ?_⟩ <;> try first | contradiction | exact absurd hc one0)
    | fail
    )
  all_goals first
    | with_reducible exact hq
    | (simp only [ridesF, *, n01, n02, n03, n04, n05, n10, n12, n13, n14, n15, n20, n21, n23, n24, n25, n30, n31, n32, n34, n35, n40, n41, n42, n43, n45, n50, n51, n52, n53, n54, if_true, if_false, ite_true, ite_false, not_true_eq_false, not_false_eq_true, true_and, and_true, and_false, false_and, Nat.add_zero] at hq; with_reducible exact hq)
    | (simp only [ridesF, *, n01, n02, n03, n04, n05, n10, n12, n13, n14, n15, n20, n21, n23, n24, n25, n30, n31, n32, n34, n35, n40, n41, n42, n43, n45, n50, n51, n52, n53, n54, if_true, if_false, ite_true, ite_false, not_true_eq_false, not_false_eq_true, true_and, and_true, and_false, false_and, Nat.add_zero] at hq ⊢; try with_reducible exact hq)
theorem i_1 : (1 : Int32).toInt = 1 := by decide
theorem i_0 : (0 : Int32).toInt = 0 := by decide
theorem jmax_I (a b : Int32) : a.toInt ≤ (jmax a b).toInt ∧ b.toInt ≤ (jmax a b).toInt ∧ ((jmax a b).toInt = a.toInt ∨ (jmax a b).toInt = b.toInt) := by
  unfold jmax
  by_cases h : a < b
  · rw [if_pos h]
    have := ilt.mp h
    omega
  · rw [if_neg h]
    have : ¬ a.toInt < b.toInt := fun h2 => h (ilt.mpr h2)
    omega
theorem jmin_I (a b : Int32) : (jmin a b).toInt ≤ a.toInt ∧ (jmin a b).toInt ≤ b.toInt ∧ ((jmin a b).toInt = a.toInt ∨ (jmin a b).toInt = b.toInt) := by
  unfold jmin
  by_cases h : b < a
  · rw [if_pos h]
    have := ilt.mp h
    omega
  · rw [if_neg h]
    have : ¬ b.toInt < a.toInt := fun h2 => h (ilt.mpr h2)
    omega
theorem r_zones_9 {a b : Int32} (h : Ok w m s) (hb : (jmax a b).toInt < 12) : ∀ (n : Nat) (x st : Int32), (jmax a b).toInt + 1 = st.toInt + n → 0 ≤ st.toInt → Q (zonesR f n x st) (mw w s f) z → B_X6_zones_9 m a b Q (n + 1) x st (mw w s f) z := by
  intro n
  induction n with
  | zero =>
    intro x st h1 h2 hq
    unfold B_X6_zones_9
    exact ⟨fun _ => hq, fun hc => absurd (ilt.mpr (by omega)) hc⟩
  | succ n ih =>
    intro x st h1 h2 hq
    unfold B_X6_zones_9
    refine ⟨fun hc => absurd (ilt.mp hc) (by omega), fun hc => ?_⟩
    have hi := ixZ (a := st) (vp_in_iff.mpr (by omega))
    refine ⟨_, h.fl _, _, _, mw_r _ _ _, hi.1, ?_⟩
    rintro _ rfl
    rw [show (9 + st : Int32).toNatClampNeg = _ from hi.2]
    have e1 : (st + 1).toInt = st.toInt + 1 := by
      rw [ia _ _ (by rw [i_1]; omega) (by rw [i_1]; omega), i_1]
    exact ih _ _ (by omega) (by omega) hq
theorem r_zones {a b : Int32} (h : Ok w m s) (ha : vp_in a 12) (hb : vp_in b 12) (hq : Q (zonesF f a b) (mw w s f) z) : F_X6_zones m a b (mw w s f) z Q := by
  have h1 := vp_in_iff.mp ha
  have h2 := vp_in_iff.mp hb
  have h3 := jmax_I a b
  have h4 := jmin_I a b
  unfold F_X6_zones
  rintro _ rfl
  refine ⟨cl (jmax a b) + 1 - cl (jmin a b) + 1, r_zones_9 h (by omega) _ _ _ ?_ (by omega) hq⟩
  rw [cl_eq, cl_eq]
  omega
theorem r_appeals_19 {a b : Int32} (h : Ok w m s) (hb : vp_in (f 4) 21) : ∀ (n : Nat) (x c : Int32), (f 4).toInt = c.toInt + n → 0 ≤ c.toInt → Q (cntA f n x c) (mw w s f) z → B_X6_appeals_19 m a b Q (n + 1) x c (mw w s f) z := by
  have hb1 := vp_in_iff.mp hb
  intro n
  induction n with
  | zero =>
    intro x st h1 h2 hq
    unfold B_X6_appeals_19
    simp only [cl4]
    exact ⟨_, h.fl _, _, _, mw_r _ _ _, in_nI (by decide) (by decide), fun _ => hq, fun hc => absurd (ile.mpr (by omega)) hc⟩
  | succ n ih =>
    intro x st h1 h2 hq
    unfold B_X6_appeals_19 B_X6_appeals_44
    simp only [cl4]
    refine ⟨_, h.fl _, _, _, mw_r _ _ _, in_nI (by decide) (by decide), fun hc => absurd (ile.mp hc) (by omega), fun hc => ?_⟩
    have hv : vp_in st 20 := vp_in_iff.mpr (by omega)
    have e1 : (st + 1).toInt = st.toInt + 1 := by
      rw [ia _ _ (by rw [i_1]; omega) (by rw [i_1]; omega), i_1]
    refine ⟨h.is _, r_ofC h hv (by decide) ⟨fun hc => ?_, fun hc => ?_⟩⟩
    · refine ih _ _ (by omega) (by omega) ?_
      rw [cntA, if_neg hc] at hq
      exact hq
    · refine ih _ _ (by omega) (by omega) ?_
      rw [cntA, if_pos hc] at hq
      with_reducible exact hq
set_option maxRecDepth 100000 in
set_option maxHeartbeats 4000000 in
theorem r_mayRide {p t : Int32} (h : Ok w m s) (hp : vp_in p 8) (ht : ¬ t = -1 → vp_in t 30) (hq : Q (mayRideF f p t) (mw w s f) z) : F_X6_mayRide m p t (mw w s f) z Q := by
  unfold F_X6_mayRide F_X6_rides
  try simp only [cl0, cl1, cl2, cl3, cl4, cl5, cl6, cl7, cl8]
  repeat' with_reducible (first
    
    | (refine r_ofP0 h (by first | assumption | solve_by_elim) ?_)
    | (refine r_ofP1 h (by first | assumption | solve_by_elim) ?_)
    | (refine r_ofP2 h (by first | assumption | solve_by_elim) ?_)
    | (refine r_ofP3 h (by first | assumption | solve_by_elim) ?_)
    | (refine r_ofP4 h (by first | assumption | solve_by_elim) ?_)
    | (refine r_ofP5 h (by first | assumption | solve_by_elim) ?_)
    | (refine r_ofP6 h (by first | assumption | solve_by_elim) ?_)
    | (refine r_ofT0 h (by first | assumption | solve_by_elim) ?_)
    | (refine r_ofT1 h (by first | assumption | solve_by_elim) ?_)
    | (refine r_ofT2 h (by first | assumption | solve_by_elim) ?_)
    | (refine r_ofT3 h (by first | assumption | solve_by_elim) ?_)
    | (refine r_ofT4 h (by first | assumption | solve_by_elim) ?_)
    | (refine r_ofT5 h (by first | assumption | solve_by_elim) ?_)
    | (refine r_ofC0 h (by first | assumption | solve_by_elim) ?_)
    | (refine r_ofC1 h (by first | assumption | solve_by_elim) ?_)
    | (refine r_ofC2 h (by first | assumption | solve_by_elim) ?_)
    | (refine r_ofC3 h (by first | assumption | solve_by_elim) ?_)
    | (refine r_ofC4 h (by first | assumption | solve_by_elim) ?_)
    | (refine r_ofC5 h (by first | assumption | solve_by_elim) ?_)
    | (refine r_ofC6 h (by first | assumption | solve_by_elim) ?_)
    | (refine r_putP0 h (by first | assumption | solve_by_elim) ?_)
    | (refine r_putP1 h (by first | assumption | solve_by_elim) ?_)
    | (refine r_putP2 h (by first | assumption | solve_by_elim) ?_)
    | (refine r_putP3 h (by first | assumption | solve_by_elim) ?_)
    | (refine r_putP4 h (by first | assumption | solve_by_elim) ?_)
    | (refine r_putP5 h (by first | assumption | solve_by_elim) ?_)
    | (refine r_putP6 h (by first | assumption | solve_by_elim) ?_)
    | (refine r_putT0 h (by first | assumption | solve_by_elim) ?_)
    | (refine r_putT1 h (by first | assumption | solve_by_elim) ?_)
    | (refine r_putT2 h (by first | assumption | solve_by_elim) ?_)
    | (refine r_putT3 h (by first | assumption | solve_by_elim) ?_)
    | (refine r_putT4 h (by first | assumption | solve_by_elim) ?_)
    | (refine r_putT5 h (by first | assumption | solve_by_elim) ?_)
    | (refine r_putC0 h (by first | assumption | solve_by_elim) ?_)
    | (refine r_putC1 h (by first | assumption | solve_by_elim) ?_)
    | (refine r_putC2 h (by first | assumption | solve_by_elim) ?_)
    | (refine r_putC3 h (by first | assumption | solve_by_elim) ?_)
    | (refine r_putC4 h (by first | assumption | solve_by_elim) ?_)
    | (refine r_putC5 h (by first | assumption | solve_by_elim) ?_)
    | (refine r_putC6 h (by first | assumption | solve_by_elim) ?_)
    | (refine ⟨h.is _, ?_⟩)
    | (refine ⟨_, h.fl _, ?_⟩)
    | (refine ⟨_, _, mw_r _ _ _, (by first | exact vl0 | exact vl1 | exact vl2 | exact vl3 | exact vl4 | exact vl5 | exact vl6 | exact vl7 | exact vl8), ?_⟩)
    | (refine ⟨_, _, mw_w _ _ _, (by first | exact vl0 | exact vl1 | exact vl2 | exact vl3 | exact vl4 | exact vl5 | exact vl6 | exact vl7 | exact vl8), ?_⟩)
    | (rintro _ rfl; try rw [mw_set])
    | (refine ⟨fun hc => ?_, fun hc => ?_⟩ <;> try first | contradiction | exact absurd hc one0)
    | fail
    )
  all_goals first
    | with_reducible exact hq
    | (simp only [mayRideF, *, n01, n02, n03, n04, n05, n10, n12, n13, n14, n15, n20, n21, n23, n24, n25, n30, n31, n32, n34, n35, n40, n41, n42, n43, n45, n50, n51, n52, n53, n54, if_true, if_false, ite_true, ite_false, not_true_eq_false, not_false_eq_true, true_and, and_true, and_false, false_and, Nat.add_zero] at hq; with_reducible exact hq)
    | (simp only [mayRideF, *, n01, n02, n03, n04, n05, n10, n12, n13, n14, n15, n20, n21, n23, n24, n25, n30, n31, n32, n34, n35, n40, n41, n42, n43, n45, n50, n51, n52, n53, n54, if_true, if_false, ite_true, ite_false, not_true_eq_false, not_false_eq_true, true_and, and_true, and_false, false_and, Nat.add_zero] at hq ⊢; try with_reducible exact hq)
set_option maxRecDepth 100000 in
set_option maxHeartbeats 4000000 in
theorem r_begins {p a b t : Int32} (h : Ok w m s) (hp : vp_in p 8) (ht : ¬ t = -1 → vp_in t 30) (hq : Q (beginF f p a b t (21 + 13 * cl p + 3)) (mw w s (beginF f p a b t)) z) : F_X6_begins m p a b t (mw w s f) z Q := by
  unfold F_X6_begins B_X6_begins_104
  try simp only [cl0, cl1, cl2, cl3, cl4, cl5, cl6, cl7, cl8]
  repeat' with_reducible (first
    
    | (refine r_ofP0 h (by first | assumption | solve_by_elim) ?_)
    | (refine r_ofP1 h (by first | assumption | solve_by_elim) ?_)
    | (refine r_ofP2 h (by first | assumption | solve_by_elim) ?_)
    | (refine r_ofP3 h (by first | assumption | solve_by_elim) ?_)
    | (refine r_ofP4 h (by first | assumption | solve_by_elim) ?_)
    | (refine r_ofP5 h (by first | assumption | solve_by_elim) ?_)
    | (refine r_ofP6 h (by first | assumption | solve_by_elim) ?_)
    | (refine r_ofT0 h (by first | assumption | solve_by_elim) ?_)
    | (refine r_ofT1 h (by first | assumption | solve_by_elim) ?_)
    | (refine r_ofT2 h (by first | assumption | solve_by_elim) ?_)
    | (refine r_ofT3 h (by first | assumption | solve_by_elim) ?_)
    | (refine r_ofT4 h (by first | assumption | solve_by_elim) ?_)
    | (refine r_ofT5 h (by first | assumption | solve_by_elim) ?_)
    | (refine r_ofC0 h (by first | assumption | solve_by_elim) ?_)
    | (refine r_ofC1 h (by first | assumption | solve_by_elim) ?_)
    | (refine r_ofC2 h (by first | assumption | solve_by_elim) ?_)
    | (refine r_ofC3 h (by first | assumption | solve_by_elim) ?_)
    | (refine r_ofC4 h (by first | assumption | solve_by_elim) ?_)
    | (refine r_ofC5 h (by first | assumption | solve_by_elim) ?_)
    | (refine r_ofC6 h (by first | assumption | solve_by_elim) ?_)
    | (refine r_putP0 h (by first | assumption | solve_by_elim) ?_)
    | (refine r_putP1 h (by first | assumption | solve_by_elim) ?_)
    | (refine r_putP2 h (by first | assumption | solve_by_elim) ?_)
    | (refine r_putP3 h (by first | assumption | solve_by_elim) ?_)
    | (refine r_putP4 h (by first | assumption | solve_by_elim) ?_)
    | (refine r_putP5 h (by first | assumption | solve_by_elim) ?_)
    | (refine r_putP6 h (by first | assumption | solve_by_elim) ?_)
    | (refine r_putT0 h (by first | assumption | solve_by_elim) ?_)
    | (refine r_putT1 h (by first | assumption | solve_by_elim) ?_)
    | (refine r_putT2 h (by first | assumption | solve_by_elim) ?_)
    | (refine r_putT3 h (by first | assumption | solve_by_elim) ?_)
    | (refine r_putT4 h (by first | assumption | solve_by_elim) ?_)
    | (refine r_putT5 h (by first | assumption | solve_by_elim) ?_)
    | (refine r_putC0 h (by first | assumption | solve_by_elim) ?_)
    | (refine r_putC1 h (by first | assumption | solve_by_elim) ?_)
    | (refine r_putC2 h (by first | assumption | solve_by_elim) ?_)
    | (refine r_putC3 h (by first | assumption | solve_by_elim) ?_)
    | (refine r_putC4 h (by first | assumption | solve_by_elim) ?_)
    | (refine r_putC5 h (by first | assumption | solve_by_elim) ?_)
    | (refine r_putC6 h (by first | assumption | solve_by_elim) ?_)
    | (refine ⟨h.is _, ?_⟩)
    | (refine ⟨_, h.fl _, ?_⟩)
    | (refine ⟨_, _, mw_r _ _ _, (by first | exact vl0 | exact vl1 | exact vl2 | exact vl3 | exact vl4 | exact vl5 | exact vl6 | exact vl7 | exact vl8), ?_⟩)
    | (refine ⟨_, _, mw_w _ _ _, (by first | exact vl0 | exact vl1 | exact vl2 | exact vl3 | exact vl4 | exact vl5 | exact vl6 | exact vl7 | exact vl8), ?_⟩)
    | (rintro _ rfl; try rw [mw_set])
    | (refine ⟨fun hc => ?_, fun hc => ?_⟩ <;> try first | contradiction | exact absurd hc one0)
    | fail
    )
  all_goals first
    | with_reducible exact hq
    | (simp only [beginF, *, n01, n02, n03, n04, n05, n10, n12, n13, n14, n15, n20, n21, n23, n24, n25, n30, n31, n32, n34, n35, n40, n41, n42, n43, n45, n50, n51, n52, n53, n54, if_true, if_false, ite_true, ite_false, not_true_eq_false, not_false_eq_true, true_and, and_true, and_false, false_and, Nat.add_zero] at hq; with_reducible exact hq)
    | (simp only [beginF, *, n01, n02, n03, n04, n05, n10, n12, n13, n14, n15, n20, n21, n23, n24, n25, n30, n31, n32, n34, n35, n40, n41, n42, n43, n45, n50, n51, n52, n53, n54, if_true, if_false, ite_true, ite_false, not_true_eq_false, not_false_eq_true, true_and, and_true, and_false, false_and, Nat.add_zero] at hq ⊢; try with_reducible exact hq)
set_option maxRecDepth 100000 in
set_option maxHeartbeats 4000000 in
theorem r_inTime {t : Int32} (h : Ok w m s) (ht : vp_in t 30) (hq : Q (inTimeF f t) (mw w s f) z) : F_X6_inTime m t (mw w s f) z Q := by
  unfold F_X6_inTime B_X6_inTime_72
  try simp only [cl0, cl1, cl2, cl3, cl4, cl5, cl6, cl7, cl8]
  repeat' with_reducible (first
    
    | (refine r_ofP0 h (by first | assumption | solve_by_elim) ?_)
    | (refine r_ofP1 h (by first | assumption | solve_by_elim) ?_)
    | (refine r_ofP2 h (by first | assumption | solve_by_elim) ?_)
    | (refine r_ofP3 h (by first | assumption | solve_by_elim) ?_)
    | (refine r_ofP4 h (by first | assumption | solve_by_elim) ?_)
    | (refine r_ofP5 h (by first | assumption | solve_by_elim) ?_)
    | (refine r_ofP6 h (by first | assumption | solve_by_elim) ?_)
    | (refine r_ofT0 h (by first | assumption | solve_by_elim) ?_)
    | (refine r_ofT1 h (by first | assumption | solve_by_elim) ?_)
    | (refine r_ofT2 h (by first | assumption | solve_by_elim) ?_)
    | (refine r_ofT3 h (by first | assumption | solve_by_elim) ?_)
    | (refine r_ofT4 h (by first | assumption | solve_by_elim) ?_)
    | (refine r_ofT5 h (by first | assumption | solve_by_elim) ?_)
    | (refine r_ofC0 h (by first | assumption | solve_by_elim) ?_)
    | (refine r_ofC1 h (by first | assumption | solve_by_elim) ?_)
    | (refine r_ofC2 h (by first | assumption | solve_by_elim) ?_)
    | (refine r_ofC3 h (by first | assumption | solve_by_elim) ?_)
    | (refine r_ofC4 h (by first | assumption | solve_by_elim) ?_)
    | (refine r_ofC5 h (by first | assumption | solve_by_elim) ?_)
    | (refine r_ofC6 h (by first | assumption | solve_by_elim) ?_)
    | (refine r_putP0 h (by first | assumption | solve_by_elim) ?_)
    | (refine r_putP1 h (by first | assumption | solve_by_elim) ?_)
    | (refine r_putP2 h (by first | assumption | solve_by_elim) ?_)
    | (refine r_putP3 h (by first | assumption | solve_by_elim) ?_)
    | (refine r_putP4 h (by first | assumption | solve_by_elim) ?_)
    | (refine r_putP5 h (by first | assumption | solve_by_elim) ?_)
    | (refine r_putP6 h (by first | assumption | solve_by_elim) ?_)
    | (refine r_putT0 h (by first | assumption | solve_by_elim) ?_)
    | (refine r_putT1 h (by first | assumption | solve_by_elim) ?_)
    | (refine r_putT2 h (by first | assumption | solve_by_elim) ?_)
    | (refine r_putT3 h (by first | assumption | solve_by_elim) ?_)
    | (refine r_putT4 h (by first | assumption | solve_by_elim) ?_)
    | (refine r_putT5 h (by first | assumption | solve_by_elim) ?_)
    | (refine r_putC0 h (by first | assumption | solve_by_elim) ?_)
    | (refine r_putC1 h (by first | assumption | solve_by_elim) ?_)
    | (refine r_putC2 h (by first | assumption | solve_by_elim) ?_)
    | (refine r_putC3 h (by first | assumption | solve_by_elim) ?_)
    | (refine r_putC4 h (by first | assumption | solve_by_elim) ?_)
    | (refine r_putC5 h (by first | assumption | solve_by_elim) ?_)
    | (refine r_putC6 h (by first | assumption | solve_by_elim) ?_)
    | (refine ⟨h.is _, ?_⟩)
    | (refine ⟨_, h.fl _, ?_⟩)
    | (refine ⟨_, _, mw_r _ _ _, (by first | exact vl0 | exact vl1 | exact vl2 | exact vl3 | exact vl4 | exact vl5 | exact vl6 | exact vl7 | exact vl8), ?_⟩)
    | (refine ⟨_, _, mw_w _ _ _, (by first | exact vl0 | exact vl1 | exact vl2 | exact vl3 | exact vl4 | exact vl5 | exact vl6 | exact vl7 | exact vl8), ?_⟩)
    | (rintro _ rfl; try rw [mw_set])
    | (refine ⟨fun hc => ?_, fun hc => ?_⟩ <;> try first | contradiction | exact absurd hc one0)
    | fail
    )
  all_goals first
    | with_reducible exact hq
    | (simp only [inTimeF, *, n01, n02, n03, n04, n05, n10, n12, n13, n14, n15, n20, n21, n23, n24, n25, n30, n31, n32, n34, n35, n40, n41, n42, n43, n45, n50, n51, n52, n53, n54, if_true, if_false, ite_true, ite_false, not_true_eq_false, not_false_eq_true, true_and, and_true, and_false, false_and, Nat.add_zero] at hq; with_reducible exact hq)
    | (simp only [inTimeF, *, n01, n02, n03, n04, n05, n10, n12, n13, n14, n15, n20, n21, n23, n24, n25, n30, n31, n32, n34, n35, n40, n41, n42, n43, n45, n50, n51, n52, n53, n54, if_true, if_false, ite_true, ite_false, not_true_eq_false, not_false_eq_true, true_and, and_true, and_false, false_and, Nat.add_zero] at hq ⊢; try with_reducible exact hq)
set_option maxRecDepth 100000 in
set_option maxHeartbeats 4000000 in
theorem r_rideZones {p : Int32} (h : Ok w m s) (hp : vp_in p 8) (ha : vp_in (f (21 + 13 * cl p + 1)) 12) (hb : vp_in (f (21 + 13 * cl p + 2)) 12) (hq : Q (zonesF f (f (21 + 13 * cl p + 1)) (f (21 + 13 * cl p + 2))) (mw w s f) z) : F_X6_rideZones m p (mw w s f) z Q := by
  unfold F_X6_rideZones
  try simp only [cl0, cl1, cl2, cl3, cl4, cl5, cl6, cl7, cl8]
  repeat' with_reducible (first
    | (refine r_zones h (by first | assumption | solve_by_elim) (by first | assumption | solve_by_elim) ?_)
    | (refine r_ofP0 h (by first | assumption | solve_by_elim) ?_)
    | (refine r_ofP1 h (by first | assumption | solve_by_elim) ?_)
    | (refine r_ofP2 h (by first | assumption | solve_by_elim) ?_)
    | (refine r_ofP3 h (by first | assumption | solve_by_elim) ?_)
    | (refine r_ofP4 h (by first | assumption | solve_by_elim) ?_)
    | (refine r_ofP5 h (by first | assumption | solve_by_elim) ?_)
    | (refine r_ofP6 h (by first | assumption | solve_by_elim) ?_)
    | (refine r_ofT0 h (by first | assumption | solve_by_elim) ?_)
    | (refine r_ofT1 h (by first | assumption | solve_by_elim) ?_)
    | (refine r_ofT2 h (by first | assumption | solve_by_elim) ?_)
    | (refine r_ofT3 h (by first | assumption | solve_by_elim) ?_)
    | (refine r_ofT4 h (by first | assumption | solve_by_elim) ?_)
    | (refine r_ofT5 h (by first | assumption | solve_by_elim) ?_)
    | (refine r_ofC0 h (by first | assumption | solve_by_elim) ?_)
    | (refine r_ofC1 h (by first | assumption | solve_by_elim) ?_)
    | (refine r_ofC2 h (by first | assumption | solve_by_elim) ?_)
    | (refine r_ofC3 h (by first | assumption | solve_by_elim) ?_)
    | (refine r_ofC4 h (by first | assumption | solve_by_elim) ?_)
    | (refine r_ofC5 h (by first | assumption | solve_by_elim) ?_)
    | (refine r_ofC6 h (by first | assumption | solve_by_elim) ?_)
    | (refine r_putP0 h (by first | assumption | solve_by_elim) ?_)
    | (refine r_putP1 h (by first | assumption | solve_by_elim) ?_)
    | (refine r_putP2 h (by first | assumption | solve_by_elim) ?_)
    | (refine r_putP3 h (by first | assumption | solve_by_elim) ?_)
    | (refine r_putP4 h (by first | assumption | solve_by_elim) ?_)
    | (refine r_putP5 h (by first | assumption | solve_by_elim) ?_)
    | (refine r_putP6 h (by first | assumption | solve_by_elim) ?_)
    | (refine r_putT0 h (by first | assumption | solve_by_elim) ?_)
    | (refine r_putT1 h (by first | assumption | solve_by_elim) ?_)
    | (refine r_putT2 h (by first | assumption | solve_by_elim) ?_)
    | (refine r_putT3 h (by first | assumption | solve_by_elim) ?_)
    | (refine r_putT4 h (by first | assumption | solve_by_elim) ?_)
    | (refine r_putT5 h (by first | assumption | solve_by_elim) ?_)
    | (refine r_putC0 h (by first | assumption | solve_by_elim) ?_)
    | (refine r_putC1 h (by first | assumption | solve_by_elim) ?_)
    | (refine r_putC2 h (by first | assumption | solve_by_elim) ?_)
    | (refine r_putC3 h (by first | assumption | solve_by_elim) ?_)
    | (refine r_putC4 h (by first | assumption | solve_by_elim) ?_)
    | (refine r_putC5 h (by first | assumption | solve_by_elim) ?_)
    | (refine r_putC6 h (by first | assumption | solve_by_elim) ?_)
    | (refine ⟨h.is _, ?_⟩)
    | (refine ⟨_, h.fl _, ?_⟩)
    | (refine ⟨_, _, mw_r _ _ _, (by first | exact vl0 | exact vl1 | exact vl2 | exact vl3 | exact vl4 | exact vl5 | exact vl6 | exact vl7 | exact vl8), ?_⟩)
    | (refine ⟨_, _, mw_w _ _ _, (by first | exact vl0 | exact vl1 | exact vl2 | exact vl3 | exact vl4 | exact vl5 | exact vl6 | exact vl7 | exact vl8), ?_⟩)
    | (rintro _ rfl; try rw [mw_set])
    | (refine ⟨fun hc => ?_, fun hc => ?_⟩ <;> try first | contradiction | exact absurd hc one0)
    | fail
    )
  all_goals with_reducible exact hq
theorem r_covers {a b : Int32} (hq : Q (coversI a b) w z) : F_X6_covers a b w z Q := by
  unfold F_X6_covers
  refine ⟨fun hc => ?_, fun hc => ?_⟩
  · rw [coversI, if_neg hc] at hq
    exact hq
  · rw [coversI, if_pos hc] at hq
    with_reducible exact hq
set_option maxRecDepth 100000 in
set_option maxHeartbeats 4000000 in
theorem r_mayInspect {p : Int32} (h : Ok w m s) (hp : vp_in p 8) (hq : Q (mayInspectF f p) (mw w s f) z) : F_X6_mayInspect m p (mw w s f) z Q := by
  unfold F_X6_mayInspect F_X6_rides
  try simp only [cl0, cl1, cl2, cl3, cl4, cl5, cl6, cl7, cl8]
  repeat' with_reducible (first
    
    | (refine r_ofP0 h (by first | assumption | solve_by_elim) ?_)
    | (refine r_ofP1 h (by first | assumption | solve_by_elim) ?_)
    | (refine r_ofP2 h (by first | assumption | solve_by_elim) ?_)
    | (refine r_ofP3 h (by first | assumption | solve_by_elim) ?_)
    | (refine r_ofP4 h (by first | assumption | solve_by_elim) ?_)
    | (refine r_ofP5 h (by first | assumption | solve_by_elim) ?_)
    | (refine r_ofP6 h (by first | assumption | solve_by_elim) ?_)
    | (refine r_ofT0 h (by first | assumption | solve_by_elim) ?_)
    | (refine r_ofT1 h (by first | assumption | solve_by_elim) ?_)
    | (refine r_ofT2 h (by first | assumption | solve_by_elim) ?_)
    | (refine r_ofT3 h (by first | assumption | solve_by_elim) ?_)
    | (refine r_ofT4 h (by first | assumption | solve_by_elim) ?_)
    | (refine r_ofT5 h (by first | assumption | solve_by_elim) ?_)
    | (refine r_ofC0 h (by first | assumption | solve_by_elim) ?_)
    | (refine r_ofC1 h (by first | assumption | solve_by_elim) ?_)
    | (refine r_ofC2 h (by first | assumption | solve_by_elim) ?_)
    | (refine r_ofC3 h (by first | assumption | solve_by_elim) ?_)
    | (refine r_ofC4 h (by first | assumption | solve_by_elim) ?_)
    | (refine r_ofC5 h (by first | assumption | solve_by_elim) ?_)
    | (refine r_ofC6 h (by first | assumption | solve_by_elim) ?_)
    | (refine r_putP0 h (by first | assumption | solve_by_elim) ?_)
    | (refine r_putP1 h (by first | assumption | solve_by_elim) ?_)
    | (refine r_putP2 h (by first | assumption | solve_by_elim) ?_)
    | (refine r_putP3 h (by first | assumption | solve_by_elim) ?_)
    | (refine r_putP4 h (by first | assumption | solve_by_elim) ?_)
    | (refine r_putP5 h (by first | assumption | solve_by_elim) ?_)
    | (refine r_putP6 h (by first | assumption | solve_by_elim) ?_)
    | (refine r_putT0 h (by first | assumption | solve_by_elim) ?_)
    | (refine r_putT1 h (by first | assumption | solve_by_elim) ?_)
    | (refine r_putT2 h (by first | assumption | solve_by_elim) ?_)
    | (refine r_putT3 h (by first | assumption | solve_by_elim) ?_)
    | (refine r_putT4 h (by first | assumption | solve_by_elim) ?_)
    | (refine r_putT5 h (by first | assumption | solve_by_elim) ?_)
    | (refine r_putC0 h (by first | assumption | solve_by_elim) ?_)
    | (refine r_putC1 h (by first | assumption | solve_by_elim) ?_)
    | (refine r_putC2 h (by first | assumption | solve_by_elim) ?_)
    | (refine r_putC3 h (by first | assumption | solve_by_elim) ?_)
    | (refine r_putC4 h (by first | assumption | solve_by_elim) ?_)
    | (refine r_putC5 h (by first | assumption | solve_by_elim) ?_)
    | (refine r_putC6 h (by first | assumption | solve_by_elim) ?_)
    | (refine ⟨h.is _, ?_⟩)
    | (refine ⟨_, h.fl _, ?_⟩)
    | (refine ⟨_, _, mw_r _ _ _, (by first | exact vl0 | exact vl1 | exact vl2 | exact vl3 | exact vl4 | exact vl5 | exact vl6 | exact vl7 | exact vl8), ?_⟩)
    | (refine ⟨_, _, mw_w _ _ _, (by first | exact vl0 | exact vl1 | exact vl2 | exact vl3 | exact vl4 | exact vl5 | exact vl6 | exact vl7 | exact vl8), ?_⟩)
    | (rintro _ rfl; try rw [mw_set])
    | (refine ⟨fun hc => ?_, fun hc => ?_⟩ <;> try first | contradiction | exact absurd hc one0)
    | fail
    )
  all_goals first
    | with_reducible exact hq
    | (simp only [mayInspectF, *, n01, n02, n03, n04, n05, n10, n12, n13, n14, n15, n20, n21, n23, n24, n25, n30, n31, n32, n34, n35, n40, n41, n42, n43, n45, n50, n51, n52, n53, n54, if_true, if_false, ite_true, ite_false, not_true_eq_false, not_false_eq_true, true_and, and_true, and_false, false_and, Nat.add_zero] at hq; with_reducible exact hq)
    | (simp only [mayInspectF, *, n01, n02, n03, n04, n05, n10, n12, n13, n14, n15, n20, n21, n23, n24, n25, n30, n31, n32, n34, n35, n40, n41, n42, n43, n45, n50, n51, n52, n53, n54, if_true, if_false, ite_true, ite_false, not_true_eq_false, not_false_eq_true, true_and, and_true, and_false, false_and, Nat.add_zero] at hq ⊢; try with_reducible exact hq)
set_option maxRecDepth 100000 in
set_option maxHeartbeats 4000000 in
theorem r_judged {c t : Int32} (h : Ok w m s) (hc : vp_in c 20) (ht : vp_in t 30) (hq : Q (judgedF f c t) (mw w s f) z) : F_X6_judged m c t (mw w s f) z Q := by
  unfold F_X6_judged B_X6_judged_41 B_X6_judged_42 B_X6_judged_76 B_X6_judged_77
  try simp only [cl0, cl1, cl2, cl3, cl4, cl5, cl6, cl7, cl8]
  repeat' with_reducible (first
    | (refine r_covers ?_)
    | (refine r_ofP0 h (by first | assumption | solve_by_elim) ?_)
    | (refine r_ofP1 h (by first | assumption | solve_by_elim) ?_)
    | (refine r_ofP2 h (by first | assumption | solve_by_elim) ?_)
    | (refine r_ofP3 h (by first | assumption | solve_by_elim) ?_)
    | (refine r_ofP4 h (by first | assumption | solve_by_elim) ?_)
    | (refine r_ofP5 h (by first | assumption | solve_by_elim) ?_)
    | (refine r_ofP6 h (by first | assumption | solve_by_elim) ?_)
    | (refine r_ofT0 h (by first | assumption | solve_by_elim) ?_)
    | (refine r_ofT1 h (by first | assumption | solve_by_elim) ?_)
    | (refine r_ofT2 h (by first | assumption | solve_by_elim) ?_)
    | (refine r_ofT3 h (by first | assumption | solve_by_elim) ?_)
    | (refine r_ofT4 h (by first | assumption | solve_by_elim) ?_)
    | (refine r_ofT5 h (by first | assumption | solve_by_elim) ?_)
    | (refine r_ofC0 h (by first | assumption | solve_by_elim) ?_)
    | (refine r_ofC1 h (by first | assumption | solve_by_elim) ?_)
    | (refine r_ofC2 h (by first | assumption | solve_by_elim) ?_)
    | (refine r_ofC3 h (by first | assumption | solve_by_elim) ?_)
    | (refine r_ofC4 h (by first | assumption | solve_by_elim) ?_)
    | (refine r_ofC5 h (by first | assumption | solve_by_elim) ?_)
    | (refine r_ofC6 h (by first | assumption | solve_by_elim) ?_)
    | (refine r_putP0 h (by first | assumption | solve_by_elim) ?_)
    | (refine r_putP1 h (by first | assumption | solve_by_elim) ?_)
    | (refine r_putP2 h (by first | assumption | solve_by_elim) ?_)
    | (refine r_putP3 h (by first | assumption | solve_by_elim) ?_)
    | (refine r_putP4 h (by first | assumption | solve_by_elim) ?_)
    | (refine r_putP5 h (by first | assumption | solve_by_elim) ?_)
    | (refine r_putP6 h (by first | assumption | solve_by_elim) ?_)
    | (refine r_putT0 h (by first | assumption | solve_by_elim) ?_)
    | (refine r_putT1 h (by first | assumption | solve_by_elim) ?_)
    | (refine r_putT2 h (by first | assumption | solve_by_elim) ?_)
    | (refine r_putT3 h (by first | assumption | solve_by_elim) ?_)
    | (refine r_putT4 h (by first | assumption | solve_by_elim) ?_)
    | (refine r_putT5 h (by first | assumption | solve_by_elim) ?_)
    | (refine r_putC0 h (by first | assumption | solve_by_elim) ?_)
    | (refine r_putC1 h (by first | assumption | solve_by_elim) ?_)
    | (refine r_putC2 h (by first | assumption | solve_by_elim) ?_)
    | (refine r_putC3 h (by first | assumption | solve_by_elim) ?_)
    | (refine r_putC4 h (by first | assumption | solve_by_elim) ?_)
    | (refine r_putC5 h (by first | assumption | solve_by_elim) ?_)
    | (refine r_putC6 h (by first | assumption | solve_by_elim) ?_)
    | (refine ⟨h.is _, ?_⟩)
    | (refine ⟨_, h.fl _, ?_⟩)
    | (refine ⟨_, _, mw_r _ _ _, (by first | exact vl0 | exact vl1 | exact vl2 | exact vl3 | exact vl4 | exact vl5 | exact vl6 | exact vl7 | exact vl8), ?_⟩)
    | (refine ⟨_, _, mw_w _ _ _, (by first | exact vl0 | exact vl1 | exact vl2 | exact vl3 | exact vl4 | exact vl5 | exact vl6 | exact vl7 | exact vl8), ?_⟩)
    | (rintro _ rfl; try rw [mw_set])
    | (refine ⟨fun hc => ?_, fun hc => ?_⟩ <;> try first | contradiction | exact absurd hc one0)
    | fail
    )
  all_goals first
    | with_reducible exact hq
    | (simp only [judgedF, *, n01, n02, n03, n04, n05, n10, n12, n13, n14, n15, n20, n21, n23, n24, n25, n30, n31, n32, n34, n35, n40, n41, n42, n43, n45, n50, n51, n52, n53, n54, if_true, if_false, ite_true, ite_false, not_true_eq_false, not_false_eq_true, true_and, and_true, and_false, false_and, Nat.add_zero] at hq; with_reducible exact hq)
    | (simp only [judgedF, *, n01, n02, n03, n04, n05, n10, n12, n13, n14, n15, n20, n21, n23, n24, n25, n30, n31, n32, n34, n35, n40, n41, n42, n43, n45, n50, n51, n52, n53, n54, if_true, if_false, ite_true, ite_false, not_true_eq_false, not_false_eq_true, true_and, and_true, and_false, false_and, Nat.add_zero] at hq ⊢; try with_reducible exact hq)
set_option maxRecDepth 100000 in
set_option maxHeartbeats 4000000 in
theorem r_decides {c : Int32} (h : Ok w m s) (hc : vp_in c 20) (ht : vp_in (f (305 + 7 * cl c + 5)) 30) (hq : Q (judgedF f c (f (305 + 7 * cl c + 5))) (mw w s (decideF f c)) z) : F_X6_decides m c (mw w s f) z Q := by
  unfold F_X6_decides
  try simp only [cl0, cl1, cl2, cl3, cl4, cl5, cl6, cl7, cl8]
  repeat' with_reducible (first
    | (refine r_judged h (by first | assumption | solve_by_elim) (by first | assumption | solve_by_elim) ?_)
    | (refine r_ofP0 h (by first | assumption | solve_by_elim) ?_)
    | (refine r_ofP1 h (by first | assumption | solve_by_elim) ?_)
    | (refine r_ofP2 h (by first | assumption | solve_by_elim) ?_)
    | (refine r_ofP3 h (by first | assumption | solve_by_elim) ?_)
    | (refine r_ofP4 h (by first | assumption | solve_by_elim) ?_)
    | (refine r_ofP5 h (by first | assumption | solve_by_elim) ?_)
    | (refine r_ofP6 h (by first | assumption | solve_by_elim) ?_)
    | (refine r_ofT0 h (by first | assumption | solve_by_elim) ?_)
    | (refine r_ofT1 h (by first | assumption | solve_by_elim) ?_)
    | (refine r_ofT2 h (by first | assumption | solve_by_elim) ?_)
    | (refine r_ofT3 h (by first | assumption | solve_by_elim) ?_)
    | (refine r_ofT4 h (by first | assumption | solve_by_elim) ?_)
    | (refine r_ofT5 h (by first | assumption | solve_by_elim) ?_)
    | (refine r_ofC0 h (by first | assumption | solve_by_elim) ?_)
    | (refine r_ofC1 h (by first | assumption | solve_by_elim) ?_)
    | (refine r_ofC2 h (by first | assumption | solve_by_elim) ?_)
    | (refine r_ofC3 h (by first | assumption | solve_by_elim) ?_)
    | (refine r_ofC4 h (by first | assumption | solve_by_elim) ?_)
    | (refine r_ofC5 h (by first | assumption | solve_by_elim) ?_)
    | (refine r_ofC6 h (by first | assumption | solve_by_elim) ?_)
    | (refine r_putP0 h (by first | assumption | solve_by_elim) ?_)
    | (refine r_putP1 h (by first | assumption | solve_by_elim) ?_)
    | (refine r_putP2 h (by first | assumption | solve_by_elim) ?_)
    | (refine r_putP3 h (by first | assumption | solve_by_elim) ?_)
    | (refine r_putP4 h (by first | assumption | solve_by_elim) ?_)
    | (refine r_putP5 h (by first | assumption | solve_by_elim) ?_)
    | (refine r_putP6 h (by first | assumption | solve_by_elim) ?_)
    | (refine r_putT0 h (by first | assumption | solve_by_elim) ?_)
    | (refine r_putT1 h (by first | assumption | solve_by_elim) ?_)
    | (refine r_putT2 h (by first | assumption | solve_by_elim) ?_)
    | (refine r_putT3 h (by first | assumption | solve_by_elim) ?_)
    | (refine r_putT4 h (by first | assumption | solve_by_elim) ?_)
    | (refine r_putT5 h (by first | assumption | solve_by_elim) ?_)
    | (refine r_putC0 h (by first | assumption | solve_by_elim) ?_)
    | (refine r_putC1 h (by first | assumption | solve_by_elim) ?_)
    | (refine r_putC2 h (by first | assumption | solve_by_elim) ?_)
    | (refine r_putC3 h (by first | assumption | solve_by_elim) ?_)
    | (refine r_putC4 h (by first | assumption | solve_by_elim) ?_)
    | (refine r_putC5 h (by first | assumption | solve_by_elim) ?_)
    | (refine r_putC6 h (by first | assumption | solve_by_elim) ?_)
    | (refine ⟨h.is _, ?_⟩)
    | (refine ⟨_, h.fl _, ?_⟩)
    | (refine ⟨_, _, mw_r _ _ _, (by first | exact vl0 | exact vl1 | exact vl2 | exact vl3 | exact vl4 | exact vl5 | exact vl6 | exact vl7 | exact vl8), ?_⟩)
    | (refine ⟨_, _, mw_w _ _ _, (by first | exact vl0 | exact vl1 | exact vl2 | exact vl3 | exact vl4 | exact vl5 | exact vl6 | exact vl7 | exact vl8), ?_⟩)
    | (rintro _ rfl; try rw [mw_set])
    | (refine ⟨fun hc => ?_, fun hc => ?_⟩ <;> try first | contradiction | exact absurd hc one0)
    | fail
    )
  all_goals first
    | with_reducible exact hq
    | (simp only [decideF, *, n01, n02, n03, n04, n05, n10, n12, n13, n14, n15, n20, n21, n23, n24, n25, n30, n31, n32, n34, n35, n40, n41, n42, n43, n45, n50, n51, n52, n53, n54, if_true, if_false, ite_true, ite_false, not_true_eq_false, not_false_eq_true, true_and, and_true, and_false, false_and, Nat.add_zero] at hq; with_reducible exact hq)
    | (simp only [decideF, *, n01, n02, n03, n04, n05, n10, n12, n13, n14, n15, n20, n21, n23, n24, n25, n30, n31, n32, n34, n35, n40, n41, n42, n43, n45, n50, n51, n52, n53, n54, if_true, if_false, ite_true, ite_false, not_true_eq_false, not_false_eq_true, true_and, and_true, and_false, false_and, Nat.add_zero] at hq ⊢; try with_reducible exact hq)
set_option maxRecDepth 100000 in
set_option maxHeartbeats 4000000 in
theorem r_waits {n : Int32} (h : Ok w m s) (hq : Q (f 0 + n) (mw w s (waitF f n)) z) : F_X6_waits m n (mw w s f) z Q := by
  unfold F_X6_waits
  try simp only [cl0, cl1, cl2, cl3, cl4, cl5, cl6, cl7, cl8]
  repeat' with_reducible (first
    
    | (refine r_ofP0 h (by first | assumption | solve_by_elim) ?_)
    | (refine r_ofP1 h (by first | assumption | solve_by_elim) ?_)
    | (refine r_ofP2 h (by first | assumption | solve_by_elim) ?_)
    | (refine r_ofP3 h (by first | assumption | solve_by_elim) ?_)
    | (refine r_ofP4 h (by first | assumption | solve_by_elim) ?_)
    | (refine r_ofP5 h (by first | assumption | solve_by_elim) ?_)
    | (refine r_ofP6 h (by first | assumption | solve_by_elim) ?_)
    | (refine r_ofT0 h (by first | assumption | solve_by_elim) ?_)
    | (refine r_ofT1 h (by first | assumption | solve_by_elim) ?_)
    | (refine r_ofT2 h (by first | assumption | solve_by_elim) ?_)
    | (refine r_ofT3 h (by first | assumption | solve_by_elim) ?_)
    | (refine r_ofT4 h (by first | assumption | solve_by_elim) ?_)
    | (refine r_ofT5 h (by first | assumption | solve_by_elim) ?_)
    | (refine r_ofC0 h (by first | assumption | solve_by_elim) ?_)
    | (refine r_ofC1 h (by first | assumption | solve_by_elim) ?_)
    | (refine r_ofC2 h (by first | assumption | solve_by_elim) ?_)
    | (refine r_ofC3 h (by first | assumption | solve_by_elim) ?_)
    | (refine r_ofC4 h (by first | assumption | solve_by_elim) ?_)
    | (refine r_ofC5 h (by first | assumption | solve_by_elim) ?_)
    | (refine r_ofC6 h (by first | assumption | solve_by_elim) ?_)
    | (refine r_putP0 h (by first | assumption | solve_by_elim) ?_)
    | (refine r_putP1 h (by first | assumption | solve_by_elim) ?_)
    | (refine r_putP2 h (by first | assumption | solve_by_elim) ?_)
    | (refine r_putP3 h (by first | assumption | solve_by_elim) ?_)
    | (refine r_putP4 h (by first | assumption | solve_by_elim) ?_)
    | (refine r_putP5 h (by first | assumption | solve_by_elim) ?_)
    | (refine r_putP6 h (by first | assumption | solve_by_elim) ?_)
    | (refine r_putT0 h (by first | assumption | solve_by_elim) ?_)
    | (refine r_putT1 h (by first | assumption | solve_by_elim) ?_)
    | (refine r_putT2 h (by first | assumption | solve_by_elim) ?_)
    | (refine r_putT3 h (by first | assumption | solve_by_elim) ?_)
    | (refine r_putT4 h (by first | assumption | solve_by_elim) ?_)
    | (refine r_putT5 h (by first | assumption | solve_by_elim) ?_)
    | (refine r_putC0 h (by first | assumption | solve_by_elim) ?_)
    | (refine r_putC1 h (by first | assumption | solve_by_elim) ?_)
    | (refine r_putC2 h (by first | assumption | solve_by_elim) ?_)
    | (refine r_putC3 h (by first | assumption | solve_by_elim) ?_)
    | (refine r_putC4 h (by first | assumption | solve_by_elim) ?_)
    | (refine r_putC5 h (by first | assumption | solve_by_elim) ?_)
    | (refine r_putC6 h (by first | assumption | solve_by_elim) ?_)
    | (refine ⟨h.is _, ?_⟩)
    | (refine ⟨_, h.fl _, ?_⟩)
    | (refine ⟨_, _, mw_r _ _ _, (by first | exact vl0 | exact vl1 | exact vl2 | exact vl3 | exact vl4 | exact vl5 | exact vl6 | exact vl7 | exact vl8), ?_⟩)
    | (refine ⟨_, _, mw_w _ _ _, (by first | exact vl0 | exact vl1 | exact vl2 | exact vl3 | exact vl4 | exact vl5 | exact vl6 | exact vl7 | exact vl8), ?_⟩)
    | (rintro _ rfl; try rw [mw_set])
    | (refine ⟨fun hc => ?_, fun hc => ?_⟩ <;> try first | contradiction | exact absurd hc one0)
    | fail
    )
  all_goals first
    | with_reducible exact hq
    | (simp only [waitF, upd_eq, *, n01, n02, n03, n04, n05, n10, n12, n13, n14, n15, n20, n21, n23, n24, n25, n30, n31, n32, n34, n35, n40, n41, n42, n43, n45, n50, n51, n52, n53, n54, if_true, if_false, ite_true, ite_false, not_true_eq_false, not_false_eq_true, true_and, and_true, and_false, false_and, Nat.add_zero] at hq; with_reducible exact hq)
    | (simp only [waitF, upd_eq, *, n01, n02, n03, n04, n05, n10, n12, n13, n14, n15, n20, n21, n23, n24, n25, n30, n31, n32, n34, n35, n40, n41, n42, n43, n45, n50, n51, n52, n53, n54, if_true, if_false, ite_true, ite_false, not_true_eq_false, not_false_eq_true, true_and, and_true, and_false, false_and, Nat.add_zero] at hq ⊢; try with_reducible exact hq)
end
