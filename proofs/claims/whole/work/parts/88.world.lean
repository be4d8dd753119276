/-! Cells, by short names. -/
def cx_I (k n : Nat) (f : Nat → Int32) : va_E := .inl (k, n, .inl f)
def cx_L (k n : Nat) (f : Nat → Int64) : va_E := .inl (k, n, .inr (.inl f))
def cx_R (k n : Nat) (f : Nat → Option Nat) : va_E := .inl (k, n, .inr (.inr (.inr (.inr f))))
def cx_O (n : Nat) (vs : List Value) : va_E := .inr (n, vs)
