/-- the contracts that are proved by hand -/
def GIVc (b : Bool) (l : Launch) (xt : XX) (D : va_G) (t : Nat → ClassId) (lo : Nat) : Prop := True
