/-! commutators and conjugates in two ways; powers by binomials -/
section PO
variable {G : GD}
/-- m over 3 -/
def three (m : Int) : Int := m * (m - 1) * (m - 2) / 6
section PP
variable {a : Nat → Int}
/-- the second and the third number of a power -/
def al (G : GD) (a : Nat → Int) (k : Nat) : Int := pT G k a a + pU G k a a + pV G k a a + pW G k a a + pX G k a a
def pV2 (G : GD) (m : Nat) (a : Nat → Int) : Int := sm (fun i => sm (fun j => DD G m j i j * a i * (a j * a j)) (gn G)) (gn G)
def be (G : GD) (a : Nat → Int) (k : Nat) : Int := pT G k (al G a) a + pV2 G k a + 2 * pW G k a a
def Q (G : GD) (a : Nat → Int) (m : Int) (k : Nat) : Int := a k * m + al G a k * two m + be G a k * three m
end PP
end PO

