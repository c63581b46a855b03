def rmJ_length : Room := { frames := 1, cells := 0, slots := 0, locals := 20 }
def rmJ_charAt : Room := { frames := 3, cells := 0, slots := 0, locals := 64 }
def J_length (k : Nat) : Option Int32 := some (Int32.ofNat (SLN.getD k 0))
def J_charAt (k : Nat) (i : Int32) : Option Int32 := ck (inb i (SLN.getD k 0)) (some (((SBY.getD k []).getD i.toNatClampNeg 0)))
theorem cJ_length {l : Launch} {Γ : Gm} {k : Nat} {r : Int32} (h : J_length k = some r) : CI l Γ yJ0_length_8abf5 (Cond.code yJ0_length_8abf5 cJ0_length_8abf5 1 (some .int) :: GW) rmJ_length [.ref (Γ.2.2 (10 + k))] [] [] r := sorry
theorem cJ_charAt {l : Launch} {Γ : Gm} {k : Nat} {i r : Int32} (h : J_charAt k i = some r) : CI l Γ yJ0_charAt_5068e (Cond.code yJ0_charAt_5068e cJ0_charAt_5068e 2 (some .char) :: GW) rmJ_charAt [.ref (Γ.2.2 (10 + k)), .int i] [] [] r := sorry
