/-! the start: the literals -/
def lsrc : List (String × Nat) := [(RX2, 9), (RX5, 50), (RX5, 56), (RX5, 58), (RX1, 91), (RX1, 107), (RX1, 161), (RX1, 149), (RX1, 151), (RX1, 153), (RX1, 166), (RX1, 213), (RX1, 171), (RX1, 176), (RX1, 181), (RX1, 186), (RX1, 191), (RL, 259)]
def lw_FW : List Cond := flatC (Jvm.Cond.and given_1 narrow_1)
def srcT : Term → Option (String × Nat)
  | .string C k => some (C, k)
  | .field t _ _ _ => srcT t
  | .length t => srcT t
  | .elem t _ => srcT t
  | _ => none
def srcW : Cond → Option (String × Nat)
  | .exactly t _ => srcT t
  | .eq t _ => srcT t
  | .arrayOf t _ => srcT t
  | _ => none
def litF (q : String × Nat) : List Cond := lw_FW.filter fun w => match srcW w with
  | some p => p.2 == q.2 && p.1 == q.1
  | none => false
def vT (q : String × Nat) : Term := .field (.string q.1 q.2) "java/lang/String" "value" "[B"
def litW (q : String × Nat) (t : List Int32) : List Cond :=
  [.exactly (.string q.1 q.2) "java/lang/String", .eq (.field (.string q.1 q.2) "java/lang/String" "coder" "B") (.int 0), .arrayOf (vT q) .byte, .eq (.length (vT q)) (.int (Int32.ofNat t.length))] ++ (List.range t.length).map (fun j => .eq (.elem (vT q) (.int (Int32.ofNat j))) (.int (t.getD j 0)))
def litsOk : Bool := (lsrc.zip lits).all fun p => (litW p.1 p.2).all fun w => decide (w ∈ litF p.1)
theorem litsOk_t : litsOk = true := by decide +kernel
def ambOk : Bool := ambR.all fun x => match lsrc[x.2.2.2]? with
  | some q => decide (q = (x.1, x.2.1)) || decide (Cond.eq (.string q.1 q.2) (.string x.1 x.2.1) ∈ litF q)
  | none => false
theorem ambOk_t : ambOk = true := by decide +kernel
theorem ambX_t : (ambX.all fun x => decide (Cond.exactly (.string x.1 x.2.1) "java/lang/String" ∈ litF (x.1, x.2.1))) = true := by decide +kernel
theorem ambR_s : ∀ x ∈ ambR, Cond.stringRef x.1 x.2.1 x.2.2.1 ∈ lw_tbl := by decide +kernel
theorem ambX_s : ∀ x ∈ ambX, Cond.stringRef x.1 x.2.1 x.2.2 ∈ lw_tbl := by decide +kernel
theorem ambR_i : ∀ x ∈ ambR, x.2.2.2 < 18 := by decide +kernel
def digF (n : String) : List Cond := lw_FW.filter fun w => match w with
  | .eq (.elem (.static _ n' _) _) _ => n' == n
  | _ => false
def digW (n : String) (t : List Int32) : List Cond := (List.range 100).map fun j => .eq (.elem (.static "java/lang/Integer" n "[B") (.int (Int32.ofNat j))) (.int (t.getD j 0))
theorem digOk_T : ((digW "DigitTens" digT).all fun w => decide (w ∈ digF "DigitTens")) = true := by decide +kernel
theorem digOk_O : ((digW "DigitOnes" digO).all fun w => decide (w ∈ digF "DigitOnes")) = true := by decide +kernel
