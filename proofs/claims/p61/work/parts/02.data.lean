/-! the literals that the class and the reference read, as bytes; which constant of which class each is -/
def lit_0 : List Int32 := [] -- 
def lit_1 : List Int32 := [97, 110, 110] -- ann
def lit_2 : List Int32 := [98, 111, 98] -- bob
def lit_3 : List Int32 := [99, 121] -- cy
def lit_4 : List Int32 := [108, 105, 110, 101] -- line
def lit_5 : List Int32 := [112, 97, 115, 115, 101, 110, 103, 101, 114] -- passenger
def lit_6 : List Int32 := [98, 117, 121] -- buy
def lit_7 : List Int32 := [100, 97, 121] -- day
def lit_8 : List Int32 := [115, 104, 111, 114, 116] -- short
def lit_9 : List Int32 := [115, 105, 110, 103, 108, 101] -- single
def lit_10 : List Int32 := [114, 105, 100, 101] -- ride
def lit_11 : List Int32 := [119, 105, 116, 104] -- with
def lit_12 : List Int32 := [105, 110, 115, 112, 101, 99, 116] -- inspect
def lit_13 : List Int32 := [119, 97, 105, 116] -- wait
def lit_14 : List Int32 := [97, 112, 112, 101, 97, 108] -- appeal
def lit_15 : List Int32 := [100, 101, 99, 105, 100, 101] -- decide
def lit_16 : List Int32 := [112, 97, 121] -- pay
def lit_17 : List Int32 := [112, 97, 115, 115, 101, 110, 103, 101, 114, 32, 112] -- passenger p
def lits : List (List Int32) := [lit_0, lit_1, lit_2, lit_3, lit_4, lit_5, lit_6, lit_7, lit_8, lit_9, lit_10, lit_11, lit_12, lit_13, lit_14, lit_15, lit_16, lit_17]
def ambR : List (String × Nat × String × Nat) := [(RX2, 9, "", 0), (RX5, 50, "ann", 1), (RX5, 56, "bob", 2), (RX5, 58, "cy", 3), (RX1, 91, "line", 4), (RX1, 107, "passenger", 5), (RX1, 127, "", 0), (RX1, 161, "buy", 6), (RX1, 149, "day", 7), (RX1, 151, "short", 8), (RX1, 153, "single", 9), (RX1, 166, "ride", 10), (RX1, 213, "with", 11), (RX1, 171, "inspect", 12), (RX1, 176, "wait", 13), (RX1, 181, "appeal", 14), (RX1, 186, "decide", 15), (RX1, 191, "pay", 16), (RL, 248, "line", 4), (RL, 259, "passenger p", 17)]
def ambX : List (String × Nat × String) := [(RX5, 156, "minutes out of range"), (RX5, 162, "the clock would go too far"), (RX5, 195, "no change to undo"), (RX5, 69, "length out of range"), (RX5, 374, "no such ticket"), (RX5, 376, "no such case"), (RX5, 369, "no such passenger"), (RX5, 109, "no such kind"), (RX5, 111, "zones out of range"), (RX5, 119, "too many tickets or not enough money"), (RX5, 372, "no such stop"), (RX5, 135, "a ride leads to another stop"), (RX5, 141, "on the tram, or the ticket of another passenger"), (RX5, 151, "not on the tram, inspected already, or too many cases"), (RX5, 170, "not open, or overdue"), (RX5, 187, "appealed, paid, or not enough money"), (RX5, 179, "not appealed")]
def ambN : List (String × String) := [("java/lang/IndexOutOfBoundsException", "java/lang/IllegalArgumentException"), ("java/lang/IndexOutOfBoundsException", "java/lang/IllegalStateException"), ("java/lang/IllegalArgumentException", "java/lang/IndexOutOfBoundsException"), ("java/lang/IllegalArgumentException", "java/lang/IllegalStateException"), ("java/lang/IllegalStateException", "java/lang/IndexOutOfBoundsException"), ("java/lang/IllegalStateException", "java/lang/IllegalArgumentException")]
def ambO : List String := ["TicketCheck$State", "TicketCheck$Passenger", "TicketCheck$Ticket", "TicketCheck$Case"]
def ambW : List (String × Nat × MethodName × String) := [("TicketCheck$Case", 52, ⟨"TicketCheck", "dayOf", "(I)I"⟩, "TicketCheck"), ("TicketCheck$State", 33, ⟨"TicketCheck$Passenger", "<init>", "()V"⟩, "TicketCheck"), ("TicketCheck$State", 34, ⟨"TicketCheck$Ticket", "<init>", "()V"⟩, "TicketCheck"), ("TicketCheck$State", 35, ⟨"TicketCheck$Case", "<init>", "()V"⟩, "TicketCheck"), ("TicketCheck$State", 93, ⟨"TicketCheck", "priceOf", "(II)I"⟩, "TicketCheck"), ("TicketCheck$Ticket", 34, ⟨"TicketCheck", "priceOf", "(II)I"⟩, "TicketCheck"), ("TicketCheck$Ticket", 38, ⟨"TicketCheck", "dayOf", "(I)I"⟩, "TicketCheck")]
def digT : List Int32 := (List.range 100).map (fun j => Int32.ofNat (48 + j / 10))
def digO : List Int32 := (List.range 100).map (fun j => Int32.ofNat (48 + j % 10))
def exSel : List Cond := [.selects "java/lang/StringBuilder" ⟨"java/lang/AbstractStringBuilder", "ensureCapacityInternal", "(I)V"⟩ ⟨"java/lang/AbstractStringBuilder", "ensureCapacityInternal", "(I)V"⟩, .selects "java/lang/StringBuilder" ⟨"java/lang/AbstractStringBuilder", "newCapacity", "(I)I"⟩ ⟨"java/lang/AbstractStringBuilder", "newCapacity", "(I)I"⟩, .selects "java/lang/StringBuilder" ⟨"java/lang/AbstractStringBuilder", "putStringAt", "(ILjava/lang/String;)V"⟩ ⟨"java/lang/AbstractStringBuilder", "putStringAt", "(ILjava/lang/String;)V"⟩, .selects "java/lang/StringBuilder" ⟨"java/lang/AbstractStringBuilder", "inflateIfNeededFor", "(Ljava/lang/String;)V"⟩ ⟨"java/lang/AbstractStringBuilder", "inflateIfNeededFor", "(Ljava/lang/String;)V"⟩]
