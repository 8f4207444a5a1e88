theorem ltb {a b : Nat} (h : Nat.blt a b = true) : a < b := Nat.blt_eq.mp h
