section
variable {w : Mm} {m s z : Nat} {f : Nat → Int32} {Q : Int32 → Mm → Nat → Prop} {R : Mm → Nat → Prop}
end
section
variable {w : Mm} {m z : Nat} {g : Nat → Int32} {A : Nat → Nat → Int32} {Q : Int32 → Mm → Nat → Prop} {R : Mm → Nat → Prop} {T : Mm → Prop}
end
