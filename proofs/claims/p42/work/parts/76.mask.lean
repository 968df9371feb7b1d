/-! calls that render: the reference's side -/
theorem wh256 {w h : Nat} (hw : w ≤ 16) (hh : h ≤ 16) : h * w ≤ 256 := Nat.mul_le_mul hh hw
