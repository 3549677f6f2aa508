section
variable {w : Mm} {m z L i : Nat} {g g0 a f f' : Nat → Int32} {A A0 : Nat → Nat → Int32} {Q : Int32 → Mm → Nat → Prop} {R : Mm → Nat → Prop} {T : Mm → Prop} {c o : Int32}
def sCmd (a : Nat → Int32) (L : Nat) (f : Nat → Int32) (i : Nat) : EC :=
  if wIs a L i lit_6.length (fun j => lit_6.getD j 0) = true then sBuy a L f i
  else if wIs a L i lit_10.length (fun j => lit_10.getD j 0) = true then sRide a L f i
  else if wIs a L i lit_12.length (fun j => lit_12.getD j 0) = true then sInsp a L f i
  else if wIs a L i lit_13.length (fun j => lit_13.getD j 0) = true then sWait a L f i
  else if wIs a L i lit_14.length (fun j => lit_14.getD j 0) = true then sAppeal a L f i
  else if wIs a L i lit_15.length (fun j => lit_15.getD j 0) = true then sDecide a L f i
  else if wIs a L i lit_16.length (fun j => lit_16.getD j 0) = true then sPay a L f i
  else .error (1, oF a L i)
end
