theorem ok_read {E : Env1} {x m : Nat} {M : Mem} (hI : Inv E x m M) : al_read Inv E x m M := by sorry
