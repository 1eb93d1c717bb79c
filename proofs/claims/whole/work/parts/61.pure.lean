theorem pure_law (sn : Nat) (xs : Nat → Int32) (hsn : sn ≤ 3072) : ∃ g' : Mem, fL_law sn xs g0 = some (1, g') := pure_law_of E_court sn xs hsn
