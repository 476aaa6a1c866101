/-! two of the JDK's methods by hand: String.checkIndex (its formatter is a reference or null), Arrays.copyOf (of the same length it is a clone) -/
def c_J0_checkIndex_df160 (_F : Nat) (_m : jMe) (x0 x1 : Int32) : Option Unit := if 0 ≤ x0 ∧ x0 < x1 then some () else none
