/-! the law as functions (by program: wip/whole/emit4.py) -/
noncomputable def LL_law_18 (E : zE) (l0 : Option Nat) (l1 : Option Nat) (l2 : Option Nat) (l3 : Int32) (b : Nat × Nat) (σ : zS) : zO := zF tL_law E 18 b [.inr (.inl l0), .inr (.inl l1), .inr (.inl l2), .inl l3] [] σ
noncomputable def LL_law_27 (E : zE) (l0 : Option Nat) (l1 : Option Nat) (l2 : Option Nat) (l3 : Int32) (b : Nat × Nat) (σ : zS) : zO := zF tL_law E 27 b [.inr (.inl l0), .inr (.inl l1), .inr (.inl l2), .inl l3] [] σ
noncomputable def LL_law_204 (E : zE) (l0 : Option Nat) (l1 : Option Nat) (l2 : Option Nat) (l3 : Int32) (b : Nat × Nat) (σ : zS) : zO := zF tL_law E 204 b [.inr (.inl l0), .inr (.inl l1), .inr (.inl l2), .inl l3] [] σ
noncomputable def LL_law_237 (E : zE) (l0 : Option Nat) (l1 : Option Nat) (l2 : Option Nat) (l3 : Int32) (b : Nat × Nat) (σ : zS) : zO := zF tL_law E 237 b [.inr (.inl l0), .inr (.inl l1), .inr (.inl l2), .inl l3] [] σ
noncomputable def LL_law_280 (E : zE) (l0 : Option Nat) (l1 : Option Nat) (l2 : Option Nat) (l3 : Int32) (b : Nat × Nat) (σ : zS) : zO := zF tL_law E 280 b [.inr (.inl l0), .inr (.inl l1), .inr (.inl l2), .inl l3] [] σ
noncomputable def LL_law_343 (E : zE) (l0 : Option Nat) (l1 : Option Nat) (l2 : Option Nat) (l3 : Int32) (b : Nat × Nat) (σ : zS) : zO := zF tL_law E 343 b [.inr (.inl l0), .inr (.inl l1), .inr (.inl l2), .inl l3] [] σ
noncomputable def LL_law_366 (E : zE) (l0 : Option Nat) (l1 : Option Nat) (l2 : Option Nat) (l3 : Int32) (b : Nat × Nat) (σ : zS) : zO := zF tL_law E 366 b [.inr (.inl l0), .inr (.inl l1), .inr (.inl l2), .inl l3] [] σ
noncomputable def LL_law_409 (E : zE) (l0 : Option Nat) (l1 : Option Nat) (l2 : Option Nat) (l3 : Int32) (b : Nat × Nat) (σ : zS) : zO := zF tL_law E 409 b [.inr (.inl l0), .inr (.inl l1), .inr (.inl l2), .inl l3] [] σ
noncomputable def LL_law_452 (E : zE) (l0 : Option Nat) (l1 : Option Nat) (l2 : Option Nat) (l3 : Int32) (b : Nat × Nat) (σ : zS) : zO := zF tL_law E 452 b [.inr (.inl l0), .inr (.inl l1), .inr (.inl l2), .inl l3] [] σ
noncomputable def LL_law_495 (E : zE) (l0 : Option Nat) (l1 : Option Nat) (l2 : Option Nat) (l3 : Int32) (b : Nat × Nat) (σ : zS) : zO := zF tL_law E 495 b [.inr (.inl l0), .inr (.inl l1), .inr (.inl l2), .inl l3] [] σ
noncomputable def LL_law_528 (E : zE) (l0 : Option Nat) (l1 : Option Nat) (l2 : Option Nat) (l3 : Int32) (b : Nat × Nat) (σ : zS) : zO := zF tL_law E 528 b [.inr (.inl l0), .inr (.inl l1), .inr (.inl l2), .inl l3] [] σ
noncomputable def LL_law_561 (E : zE) (l0 : Option Nat) (l1 : Option Nat) (l2 : Option Nat) (l3 : Int32) (b : Nat × Nat) (σ : zS) : zO := zF tL_law E 561 b [.inr (.inl l0), .inr (.inl l1), .inr (.inl l2), .inl l3] [] σ
noncomputable def LL_law_584 (E : zE) (l0 : Option Nat) (l1 : Option Nat) (l2 : Option Nat) (l3 : Int32) (b : Nat × Nat) (σ : zS) : zO := zF tL_law E 584 b [.inr (.inl l0), .inr (.inl l1), .inr (.inl l2), .inl l3] [] σ
noncomputable def LL_law_607 (E : zE) (l0 : Option Nat) (l1 : Option Nat) (l2 : Option Nat) (l3 : Int32) (b : Nat × Nat) (σ : zS) : zO := zF tL_law E 607 b [.inr (.inl l0), .inr (.inl l1), .inr (.inl l2), .inl l3] [] σ
noncomputable def LL_law_630 (E : zE) (l0 : Option Nat) (l1 : Option Nat) (l2 : Option Nat) (l3 : Int32) (b : Nat × Nat) (σ : zS) : zO := zF tL_law E 630 b [.inr (.inl l0), .inr (.inl l1), .inr (.inl l2), .inl l3] [] σ
noncomputable def LL_law_663 (E : zE) (l0 : Option Nat) (l1 : Option Nat) (l2 : Option Nat) (l3 : Int32) (b : Nat × Nat) (σ : zS) : zO := zF tL_law E 663 b [.inr (.inl l0), .inr (.inl l1), .inr (.inl l2), .inl l3] [] σ
noncomputable def LL_law_738 (E : zE) (l0 : Option Nat) (l1 : Option Nat) (l2 : Option Nat) (l3 : Int32) (b : Nat × Nat) (σ : zS) : zO := zF tL_law E 738 b [.inr (.inl l0), .inr (.inl l1), .inr (.inl l2), .inl l3] [] σ
noncomputable def LL_law_771 (E : zE) (l0 : Option Nat) (l1 : Option Nat) (l2 : Option Nat) (l3 : Int32) (b : Nat × Nat) (σ : zS) : zO := zF tL_law E 771 b [.inr (.inl l0), .inr (.inl l1), .inr (.inl l2), .inl l3] [] σ
noncomputable def LL_law_794 (E : zE) (l0 : Option Nat) (l1 : Option Nat) (l2 : Option Nat) (l3 : Int32) (b : Nat × Nat) (σ : zS) : zO := zF tL_law E 794 b [.inr (.inl l0), .inr (.inl l1), .inr (.inl l2), .inl l3] [] σ
noncomputable def LL_law_847 (E : zE) (l0 : Option Nat) (l1 : Option Nat) (l2 : Option Nat) (l3 : Int32) (b : Nat × Nat) (σ : zS) : zO := zF tL_law E 847 b [.inr (.inl l0), .inr (.inl l1), .inr (.inl l2), .inl l3] [] σ
noncomputable def LL_law_890 (E : zE) (l0 : Option Nat) (l1 : Option Nat) (l2 : Option Nat) (l3 : Int32) (b : Nat × Nat) (σ : zS) : zO := zF tL_law E 890 b [.inr (.inl l0), .inr (.inl l1), .inr (.inl l2), .inl l3] [] σ
noncomputable def LL_law_913 (E : zE) (l0 : Option Nat) (l1 : Option Nat) (l2 : Option Nat) (l3 : Int32) (b : Nat × Nat) (σ : zS) : zO := zF tL_law E 913 b [.inr (.inl l0), .inr (.inl l1), .inr (.inl l2), .inl l3] [] σ
noncomputable def LL_law_926 (E : zE) (l0 : Option Nat) (l1 : Option Nat) (l2 : Option Nat) (l3 : Int32) (b : Nat × Nat) (σ : zS) : zO := zF tL_law E 926 b [.inr (.inl l0), .inr (.inl l1), .inr (.inl l2), .inl l3] [] σ
noncomputable def LL_law_939 (E : zE) (l0 : Option Nat) (l1 : Option Nat) (l2 : Option Nat) (l3 : Int32) (b : Nat × Nat) (σ : zS) : zO := zF tL_law E 939 b [.inr (.inl l0), .inr (.inl l1), .inr (.inl l2), .inl l3] [] σ
noncomputable def LL_law_982 (E : zE) (l0 : Option Nat) (l1 : Option Nat) (l2 : Option Nat) (l3 : Int32) (b : Nat × Nat) (σ : zS) : zO := zF tL_law E 982 b [.inr (.inl l0), .inr (.inl l1), .inr (.inl l2), .inl l3] [] σ
noncomputable def LL_law_1005 (E : zE) (l0 : Option Nat) (l1 : Option Nat) (l2 : Option Nat) (l3 : Int32) (b : Nat × Nat) (σ : zS) : zO := zF tL_law E 1005 b [.inr (.inl l0), .inr (.inl l1), .inr (.inl l2), .inl l3] [] σ
noncomputable def LL_law_1028 (E : zE) (l0 : Option Nat) (l1 : Option Nat) (l2 : Option Nat) (l3 : Int32) (b : Nat × Nat) (σ : zS) : zO := zF tL_law E 1028 b [.inr (.inl l0), .inr (.inl l1), .inr (.inl l2), .inl l3] [] σ
noncomputable def LL_law_1051 (E : zE) (l0 : Option Nat) (l1 : Option Nat) (l2 : Option Nat) (l3 : Int32) (b : Nat × Nat) (σ : zS) : zO := zF tL_law E 1051 b [.inr (.inl l0), .inr (.inl l1), .inr (.inl l2), .inl l3] [] σ
noncomputable def LL_law_1064 (E : zE) (l0 : Option Nat) (l1 : Option Nat) (l2 : Option Nat) (l3 : Int32) (b : Nat × Nat) (σ : zS) : zO := zF tL_law E 1064 b [.inr (.inl l0), .inr (.inl l1), .inr (.inl l2), .inl l3] [] σ
noncomputable def LL_law_1107 (E : zE) (l0 : Option Nat) (l1 : Option Nat) (l2 : Option Nat) (l3 : Int32) (b : Nat × Nat) (σ : zS) : zO := zF tL_law E 1107 b [.inr (.inl l0), .inr (.inl l1), .inr (.inl l2), .inl l3] [] σ
noncomputable def LL_law_1130 (E : zE) (l0 : Option Nat) (l1 : Option Nat) (l2 : Option Nat) (l3 : Int32) (b : Nat × Nat) (σ : zS) : zO := zF tL_law E 1130 b [.inr (.inl l0), .inr (.inl l1), .inr (.inl l2), .inl l3] [] σ
noncomputable def LL_law_1153 (E : zE) (l0 : Option Nat) (l1 : Option Nat) (l2 : Option Nat) (l3 : Int32) (b : Nat × Nat) (σ : zS) : zO := zF tL_law E 1153 b [.inr (.inl l0), .inr (.inl l1), .inr (.inl l2), .inl l3] [] σ
noncomputable def LL_law_1166 (E : zE) (l0 : Option Nat) (l1 : Option Nat) (l2 : Option Nat) (l3 : Int32) (b : Nat × Nat) (σ : zS) : zO := zF tL_law E 1166 b [.inr (.inl l0), .inr (.inl l1), .inr (.inl l2), .inl l3] [] σ
noncomputable def LL_law_1209 (E : zE) (l0 : Option Nat) (l1 : Option Nat) (l2 : Option Nat) (l3 : Int32) (b : Nat × Nat) (σ : zS) : zO := zF tL_law E 1209 b [.inr (.inl l0), .inr (.inl l1), .inr (.inl l2), .inl l3] [] σ
noncomputable def LL_law_1232 (E : zE) (l0 : Option Nat) (l1 : Option Nat) (l2 : Option Nat) (l3 : Int32) (b : Nat × Nat) (σ : zS) : zO := zF tL_law E 1232 b [.inr (.inl l0), .inr (.inl l1), .inr (.inl l2), .inl l3] [] σ
noncomputable def LL_law_1255 (E : zE) (l0 : Option Nat) (l1 : Option Nat) (l2 : Option Nat) (l3 : Int32) (b : Nat × Nat) (σ : zS) : zO := zF tL_law E 1255 b [.inr (.inl l0), .inr (.inl l1), .inr (.inl l2), .inl l3] [] σ
noncomputable def LL_law_1268 (E : zE) (l0 : Option Nat) (l1 : Option Nat) (l2 : Option Nat) (l3 : Int32) (b : Nat × Nat) (σ : zS) : zO := zF tL_law E 1268 b [.inr (.inl l0), .inr (.inl l1), .inr (.inl l2), .inl l3] [] σ
noncomputable def LL_law_1291 (E : zE) (l0 : Option Nat) (l1 : Option Nat) (l2 : Option Nat) (l3 : Int32) (b : Nat × Nat) (σ : zS) : zO := zF tL_law E 1291 b [.inr (.inl l0), .inr (.inl l1), .inr (.inl l2), .inl l3] [] σ
noncomputable def LL_law_1314 (E : zE) (l0 : Option Nat) (l1 : Option Nat) (l2 : Option Nat) (l3 : Int32) (b : Nat × Nat) (σ : zS) : zO := zF tL_law E 1314 b [.inr (.inl l0), .inr (.inl l1), .inr (.inl l2), .inl l3] [] σ
noncomputable def LL_law_1327 (E : zE) (l0 : Option Nat) (l1 : Option Nat) (l2 : Option Nat) (l3 : Int32) (b : Nat × Nat) (σ : zS) : zO := zF tL_law E 1327 b [.inr (.inl l0), .inr (.inl l1), .inr (.inl l2), .inl l3] [] σ
noncomputable def LL_law_1350 (E : zE) (l0 : Option Nat) (l1 : Option Nat) (l2 : Option Nat) (l3 : Int32) (b : Nat × Nat) (σ : zS) : zO := zF tL_law E 1350 b [.inr (.inl l0), .inr (.inl l1), .inr (.inl l2), .inl l3] [] σ
noncomputable def LL_law_1373 (E : zE) (l0 : Option Nat) (l1 : Option Nat) (l2 : Option Nat) (l3 : Int32) (b : Nat × Nat) (σ : zS) : zO := zF tL_law E 1373 b [.inr (.inl l0), .inr (.inl l1), .inr (.inl l2), .inl l3] [] σ
set_option maxRecDepth 20000 in
theorem uL_law_18 (E : zE) (l0 : Option Nat) (l1 : Option Nat) (l2 : Option Nat) (l3 : Int32) (b : Nat × Nat) (σ : zS) : LL_law_18 E l0 l1 l2 l3 b σ =
  (onR l0 fun a1 =>
  chk (zkd σ a1 = 16) <|
  if (l3 : Int32) ≤ ((Int32.ofNat (zln σ a1)) - 7) then
    LL_law_27 E l0 l1 l2 l3 b σ
  else
    chk (zB 1) (some (some (.inl 1), σ))) :=
  (zun_at (fun pc => (oL_law pc).1) E (fun q => Nat.beq q 18 || Nat.beq q 27 || Nat.beq q 204 || Nat.beq q 237 || Nat.beq q 280 || Nat.beq q 343 || Nat.beq q 366 || Nat.beq q 409 || Nat.beq q 452 || Nat.beq q 495 || Nat.beq q 528 || Nat.beq q 561 || Nat.beq q 584 || Nat.beq q 607 || Nat.beq q 630 || Nat.beq q 663 || Nat.beq q 738 || Nat.beq q 771 || Nat.beq q 794 || Nat.beq q 847 || Nat.beq q 890 || Nat.beq q 913 || Nat.beq q 926 || Nat.beq q 939 || Nat.beq q 982 || Nat.beq q 1005 || Nat.beq q 1028 || Nat.beq q 1051 || Nat.beq q 1064 || Nat.beq q 1107 || Nat.beq q 1130 || Nat.beq q 1153 || Nat.beq q 1166 || Nat.beq q 1209 || Nat.beq q 1232 || Nat.beq q 1255 || Nat.beq q 1268 || Nat.beq q 1291 || Nat.beq q 1314 || Nat.beq q 1327 || Nat.beq q 1350 || Nat.beq q 1373) 960 18 b [.inr (.inl l0), .inr (.inl l1), .inr (.inl l2), .inl l3] [] σ).trans rfl
set_option maxRecDepth 20000 in
theorem uL_law_27 (E : zE) (l0 : Option Nat) (l1 : Option Nat) (l2 : Option Nat) (l3 : Int32) (b : Nat × Nat) (σ : zS) : LL_law_27 E l0 l1 l2 l3 b σ =
  (onR l0 fun a1 =>
  chk (zkd σ a1 = 16 ∧ zin l3 (zln σ a1)) <|
  if (((zai σ a1 (Int32.toNatClampNeg l3)) &&& 63) : Int32) = 0 then
    LL_law_204 E l0 l1 l2 l3 b σ
  else if (((zai σ a1 (Int32.toNatClampNeg l3)) &&& 63) : Int32) = 1 then
    LL_law_237 E l0 l1 l2 l3 b σ
  else if (((zai σ a1 (Int32.toNatClampNeg l3)) &&& 63) : Int32) = 2 then
    LL_law_280 E l0 l1 l2 l3 b σ
  else if (((zai σ a1 (Int32.toNatClampNeg l3)) &&& 63) : Int32) = 3 then
    LL_law_343 E l0 l1 l2 l3 b σ
  else if (((zai σ a1 (Int32.toNatClampNeg l3)) &&& 63) : Int32) = 4 then
    LL_law_366 E l0 l1 l2 l3 b σ
  else if (((zai σ a1 (Int32.toNatClampNeg l3)) &&& 63) : Int32) = 5 then
    LL_law_409 E l0 l1 l2 l3 b σ
  else if (((zai σ a1 (Int32.toNatClampNeg l3)) &&& 63) : Int32) = 6 then
    LL_law_452 E l0 l1 l2 l3 b σ
  else if (((zai σ a1 (Int32.toNatClampNeg l3)) &&& 63) : Int32) = 7 then
    LL_law_495 E l0 l1 l2 l3 b σ
  else if (((zai σ a1 (Int32.toNatClampNeg l3)) &&& 63) : Int32) = 8 then
    LL_law_528 E l0 l1 l2 l3 b σ
  else if (((zai σ a1 (Int32.toNatClampNeg l3)) &&& 63) : Int32) = 9 then
    LL_law_561 E l0 l1 l2 l3 b σ
  else if (((zai σ a1 (Int32.toNatClampNeg l3)) &&& 63) : Int32) = 10 then
    LL_law_584 E l0 l1 l2 l3 b σ
  else if (((zai σ a1 (Int32.toNatClampNeg l3)) &&& 63) : Int32) = 11 then
    LL_law_607 E l0 l1 l2 l3 b σ
  else if (((zai σ a1 (Int32.toNatClampNeg l3)) &&& 63) : Int32) = 12 then
    LL_law_630 E l0 l1 l2 l3 b σ
  else if (((zai σ a1 (Int32.toNatClampNeg l3)) &&& 63) : Int32) = 13 then
    LL_law_663 E l0 l1 l2 l3 b σ
  else if (((zai σ a1 (Int32.toNatClampNeg l3)) &&& 63) : Int32) = 14 then
    LL_law_738 E l0 l1 l2 l3 b σ
  else if (((zai σ a1 (Int32.toNatClampNeg l3)) &&& 63) : Int32) = 15 then
    LL_law_771 E l0 l1 l2 l3 b σ
  else if (((zai σ a1 (Int32.toNatClampNeg l3)) &&& 63) : Int32) = 16 then
    LL_law_794 E l0 l1 l2 l3 b σ
  else if (((zai σ a1 (Int32.toNatClampNeg l3)) &&& 63) : Int32) = 17 then
    LL_law_847 E l0 l1 l2 l3 b σ
  else if (((zai σ a1 (Int32.toNatClampNeg l3)) &&& 63) : Int32) = 18 then
    LL_law_890 E l0 l1 l2 l3 b σ
  else if (((zai σ a1 (Int32.toNatClampNeg l3)) &&& 63) : Int32) = 19 then
    LL_law_913 E l0 l1 l2 l3 b σ
  else if (((zai σ a1 (Int32.toNatClampNeg l3)) &&& 63) : Int32) = 20 then
    LL_law_926 E l0 l1 l2 l3 b σ
  else if (((zai σ a1 (Int32.toNatClampNeg l3)) &&& 63) : Int32) = 21 then
    LL_law_939 E l0 l1 l2 l3 b σ
  else if (((zai σ a1 (Int32.toNatClampNeg l3)) &&& 63) : Int32) = 22 then
    LL_law_982 E l0 l1 l2 l3 b σ
  else if (((zai σ a1 (Int32.toNatClampNeg l3)) &&& 63) : Int32) = 23 then
    LL_law_1005 E l0 l1 l2 l3 b σ
  else if (((zai σ a1 (Int32.toNatClampNeg l3)) &&& 63) : Int32) = 24 then
    LL_law_1028 E l0 l1 l2 l3 b σ
  else if (((zai σ a1 (Int32.toNatClampNeg l3)) &&& 63) : Int32) = 25 then
    LL_law_1051 E l0 l1 l2 l3 b σ
  else if (((zai σ a1 (Int32.toNatClampNeg l3)) &&& 63) : Int32) = 26 then
    LL_law_1064 E l0 l1 l2 l3 b σ
  else if (((zai σ a1 (Int32.toNatClampNeg l3)) &&& 63) : Int32) = 27 then
    LL_law_1107 E l0 l1 l2 l3 b σ
  else if (((zai σ a1 (Int32.toNatClampNeg l3)) &&& 63) : Int32) = 28 then
    LL_law_1130 E l0 l1 l2 l3 b σ
  else if (((zai σ a1 (Int32.toNatClampNeg l3)) &&& 63) : Int32) = 29 then
    LL_law_1153 E l0 l1 l2 l3 b σ
  else if (((zai σ a1 (Int32.toNatClampNeg l3)) &&& 63) : Int32) = 30 then
    LL_law_1166 E l0 l1 l2 l3 b σ
  else if (((zai σ a1 (Int32.toNatClampNeg l3)) &&& 63) : Int32) = 31 then
    LL_law_1209 E l0 l1 l2 l3 b σ
  else if (((zai σ a1 (Int32.toNatClampNeg l3)) &&& 63) : Int32) = 32 then
    LL_law_1232 E l0 l1 l2 l3 b σ
  else if (((zai σ a1 (Int32.toNatClampNeg l3)) &&& 63) : Int32) = 33 then
    LL_law_1255 E l0 l1 l2 l3 b σ
  else if (((zai σ a1 (Int32.toNatClampNeg l3)) &&& 63) : Int32) = 34 then
    LL_law_1268 E l0 l1 l2 l3 b σ
  else if (((zai σ a1 (Int32.toNatClampNeg l3)) &&& 63) : Int32) = 35 then
    LL_law_1291 E l0 l1 l2 l3 b σ
  else if (((zai σ a1 (Int32.toNatClampNeg l3)) &&& 63) : Int32) = 36 then
    LL_law_1314 E l0 l1 l2 l3 b σ
  else if (((zai σ a1 (Int32.toNatClampNeg l3)) &&& 63) : Int32) = 37 then
    LL_law_1327 E l0 l1 l2 l3 b σ
  else if (((zai σ a1 (Int32.toNatClampNeg l3)) &&& 63) : Int32) = 38 then
    LL_law_1350 E l0 l1 l2 l3 b σ
  else 
    LL_law_1373 E l0 l1 l2 l3 b σ) :=
  (zun_at (fun pc => (oL_law pc).1) E (fun q => Nat.beq q 18 || Nat.beq q 27 || Nat.beq q 204 || Nat.beq q 237 || Nat.beq q 280 || Nat.beq q 343 || Nat.beq q 366 || Nat.beq q 409 || Nat.beq q 452 || Nat.beq q 495 || Nat.beq q 528 || Nat.beq q 561 || Nat.beq q 584 || Nat.beq q 607 || Nat.beq q 630 || Nat.beq q 663 || Nat.beq q 738 || Nat.beq q 771 || Nat.beq q 794 || Nat.beq q 847 || Nat.beq q 890 || Nat.beq q 913 || Nat.beq q 926 || Nat.beq q 939 || Nat.beq q 982 || Nat.beq q 1005 || Nat.beq q 1028 || Nat.beq q 1051 || Nat.beq q 1064 || Nat.beq q 1107 || Nat.beq q 1130 || Nat.beq q 1153 || Nat.beq q 1166 || Nat.beq q 1209 || Nat.beq q 1232 || Nat.beq q 1255 || Nat.beq q 1268 || Nat.beq q 1291 || Nat.beq q 1314 || Nat.beq q 1327 || Nat.beq q 1350 || Nat.beq q 1373) 960 27 b [.inr (.inl l0), .inr (.inl l1), .inr (.inl l2), .inl l3] [] σ).trans rfl
set_option maxRecDepth 20000 in
theorem uL_law_204 (E : zE) (l0 : Option Nat) (l1 : Option Nat) (l2 : Option Nat) (l3 : Int32) (b : Nat × Nat) (σ : zS) : LL_law_204 E l0 l1 l2 l3 b σ =
  (onR l0 fun a1 =>
  chk (zkd σ a1 = 16 ∧ zin (l3 + 1) (zln σ a1)) <|
  onR l0 fun a2 =>
  chk (zkd σ a2 = 16 ∧ zin (l3 + 2) (zln σ a2)) <|
  onR l1 fun a3 =>
  chk (zkd σ a3 = 8) <|
  bnI (E mX10_newImage [.inr (.inl l1), .inl (zai σ a1 (Int32.toNatClampNeg (l3 + 1))), .inl (zai σ a2 (Int32.toNatClampNeg (l3 + 2)))] σ) fun v5 s4 =>
  onR l0 fun a6 =>
  chk (zkd s4 a6 = 16 ∧ zin (l3 + 1) (zln s4 a6)) <|
  onR l0 fun a7 =>
  chk (zkd s4 a7 = 16 ∧ zin (l3 + 2) (zln s4 a7)) <|
  onR l2 fun a8 =>
  chk (zkd s4 a8 = 9) <|
  bnI (E mX11_newImage [.inr (.inl l2), .inl (zai s4 a6 (Int32.toNatClampNeg (l3 + 1))), .inl (zai s4 a7 (Int32.toNatClampNeg (l3 + 2)))] s4) fun v10 s9 =>
  if (v5 : Int32) = v10 then
    LL_law_1373 E l0 l1 l2 l3 b s9
  else
    chk (zB 0) (some (some (.inl 0), s9))) :=
  (zun_at (fun pc => (oL_law pc).1) E (fun q => Nat.beq q 18 || Nat.beq q 27 || Nat.beq q 204 || Nat.beq q 237 || Nat.beq q 280 || Nat.beq q 343 || Nat.beq q 366 || Nat.beq q 409 || Nat.beq q 452 || Nat.beq q 495 || Nat.beq q 528 || Nat.beq q 561 || Nat.beq q 584 || Nat.beq q 607 || Nat.beq q 630 || Nat.beq q 663 || Nat.beq q 738 || Nat.beq q 771 || Nat.beq q 794 || Nat.beq q 847 || Nat.beq q 890 || Nat.beq q 913 || Nat.beq q 926 || Nat.beq q 939 || Nat.beq q 982 || Nat.beq q 1005 || Nat.beq q 1028 || Nat.beq q 1051 || Nat.beq q 1064 || Nat.beq q 1107 || Nat.beq q 1130 || Nat.beq q 1153 || Nat.beq q 1166 || Nat.beq q 1209 || Nat.beq q 1232 || Nat.beq q 1255 || Nat.beq q 1268 || Nat.beq q 1291 || Nat.beq q 1314 || Nat.beq q 1327 || Nat.beq q 1350 || Nat.beq q 1373) 960 204 b [.inr (.inl l0), .inr (.inl l1), .inr (.inl l2), .inl l3] [] σ).trans rfl
set_option maxRecDepth 20000 in
theorem uL_law_237 (E : zE) (l0 : Option Nat) (l1 : Option Nat) (l2 : Option Nat) (l3 : Int32) (b : Nat × Nat) (σ : zS) : LL_law_237 E l0 l1 l2 l3 b σ =
  (onR l0 fun a1 =>
  chk (zkd σ a1 = 16 ∧ zin (l3 + 1) (zln σ a1)) <|
  onR l0 fun a2 =>
  chk (zkd σ a2 = 16 ∧ zin (l3 + 2) (zln σ a2)) <|
  onR l0 fun a3 =>
  chk (zkd σ a3 = 16 ∧ zin (l3 + 3) (zln σ a3)) <|
  onR l1 fun a4 =>
  chk (zkd σ a4 = 8) <|
  bnI (E mX10_setPixel [.inr (.inl l1), .inl (zai σ a1 (Int32.toNatClampNeg (l3 + 1))), .inl (zai σ a2 (Int32.toNatClampNeg (l3 + 2))), .inl (zai σ a3 (Int32.toNatClampNeg (l3 + 3)))] σ) fun v6 s5 =>
  onR l0 fun a7 =>
  chk (zkd s5 a7 = 16 ∧ zin (l3 + 1) (zln s5 a7)) <|
  onR l0 fun a8 =>
  chk (zkd s5 a8 = 16 ∧ zin (l3 + 2) (zln s5 a8)) <|
  onR l0 fun a9 =>
  chk (zkd s5 a9 = 16 ∧ zin (l3 + 3) (zln s5 a9)) <|
  onR l2 fun a10 =>
  chk (zkd s5 a10 = 9) <|
  bnI (E mX11_setPixel [.inr (.inl l2), .inl (zai s5 a7 (Int32.toNatClampNeg (l3 + 1))), .inl (zai s5 a8 (Int32.toNatClampNeg (l3 + 2))), .inl (zai s5 a9 (Int32.toNatClampNeg (l3 + 3)))] s5) fun v12 s11 =>
  if (v6 : Int32) = v12 then
    LL_law_1373 E l0 l1 l2 l3 b s11
  else
    chk (zB 0) (some (some (.inl 0), s11))) :=
  (zun_at (fun pc => (oL_law pc).1) E (fun q => Nat.beq q 18 || Nat.beq q 27 || Nat.beq q 204 || Nat.beq q 237 || Nat.beq q 280 || Nat.beq q 343 || Nat.beq q 366 || Nat.beq q 409 || Nat.beq q 452 || Nat.beq q 495 || Nat.beq q 528 || Nat.beq q 561 || Nat.beq q 584 || Nat.beq q 607 || Nat.beq q 630 || Nat.beq q 663 || Nat.beq q 738 || Nat.beq q 771 || Nat.beq q 794 || Nat.beq q 847 || Nat.beq q 890 || Nat.beq q 913 || Nat.beq q 926 || Nat.beq q 939 || Nat.beq q 982 || Nat.beq q 1005 || Nat.beq q 1028 || Nat.beq q 1051 || Nat.beq q 1064 || Nat.beq q 1107 || Nat.beq q 1130 || Nat.beq q 1153 || Nat.beq q 1166 || Nat.beq q 1209 || Nat.beq q 1232 || Nat.beq q 1255 || Nat.beq q 1268 || Nat.beq q 1291 || Nat.beq q 1314 || Nat.beq q 1327 || Nat.beq q 1350 || Nat.beq q 1373) 960 237 b [.inr (.inl l0), .inr (.inl l1), .inr (.inl l2), .inl l3] [] σ).trans rfl
set_option maxRecDepth 20000 in
theorem uL_law_280 (E : zE) (l0 : Option Nat) (l1 : Option Nat) (l2 : Option Nat) (l3 : Int32) (b : Nat × Nat) (σ : zS) : LL_law_280 E l0 l1 l2 l3 b σ =
  (onR l0 fun a1 =>
  chk (zkd σ a1 = 16 ∧ zin (l3 + 1) (zln σ a1)) <|
  onR l0 fun a2 =>
  chk (zkd σ a2 = 16 ∧ zin (l3 + 2) (zln σ a2)) <|
  onR l0 fun a3 =>
  chk (zkd σ a3 = 16 ∧ zin (l3 + 3) (zln σ a3)) <|
  onR l0 fun a4 =>
  chk (zkd σ a4 = 16 ∧ zin (l3 + 4) (zln σ a4)) <|
  onR l0 fun a5 =>
  chk (zkd σ a5 = 16 ∧ zin (l3 + 5) (zln σ a5)) <|
  onR l1 fun a6 =>
  chk (zkd σ a6 = 8) <|
  bnI (E mX10_fillRectangle [.inr (.inl l1), .inl (zai σ a1 (Int32.toNatClampNeg (l3 + 1))), .inl (zai σ a2 (Int32.toNatClampNeg (l3 + 2))), .inl (zai σ a3 (Int32.toNatClampNeg (l3 + 3))), .inl (zai σ a4 (Int32.toNatClampNeg (l3 + 4))), .inl (zai σ a5 (Int32.toNatClampNeg (l3 + 5)))] σ) fun v8 s7 =>
  onR l0 fun a9 =>
  chk (zkd s7 a9 = 16 ∧ zin (l3 + 1) (zln s7 a9)) <|
  onR l0 fun a10 =>
  chk (zkd s7 a10 = 16 ∧ zin (l3 + 2) (zln s7 a10)) <|
  onR l0 fun a11 =>
  chk (zkd s7 a11 = 16 ∧ zin (l3 + 3) (zln s7 a11)) <|
  onR l0 fun a12 =>
  chk (zkd s7 a12 = 16 ∧ zin (l3 + 4) (zln s7 a12)) <|
  onR l0 fun a13 =>
  chk (zkd s7 a13 = 16 ∧ zin (l3 + 5) (zln s7 a13)) <|
  onR l2 fun a14 =>
  chk (zkd s7 a14 = 9) <|
  bnI (E mX11_fillRectangle [.inr (.inl l2), .inl (zai s7 a9 (Int32.toNatClampNeg (l3 + 1))), .inl (zai s7 a10 (Int32.toNatClampNeg (l3 + 2))), .inl (zai s7 a11 (Int32.toNatClampNeg (l3 + 3))), .inl (zai s7 a12 (Int32.toNatClampNeg (l3 + 4))), .inl (zai s7 a13 (Int32.toNatClampNeg (l3 + 5)))] s7) fun v16 s15 =>
  if (v8 : Int32) = v16 then
    LL_law_1373 E l0 l1 l2 l3 b s15
  else
    chk (zB 0) (some (some (.inl 0), s15))) :=
  (zun_at (fun pc => (oL_law pc).1) E (fun q => Nat.beq q 18 || Nat.beq q 27 || Nat.beq q 204 || Nat.beq q 237 || Nat.beq q 280 || Nat.beq q 343 || Nat.beq q 366 || Nat.beq q 409 || Nat.beq q 452 || Nat.beq q 495 || Nat.beq q 528 || Nat.beq q 561 || Nat.beq q 584 || Nat.beq q 607 || Nat.beq q 630 || Nat.beq q 663 || Nat.beq q 738 || Nat.beq q 771 || Nat.beq q 794 || Nat.beq q 847 || Nat.beq q 890 || Nat.beq q 913 || Nat.beq q 926 || Nat.beq q 939 || Nat.beq q 982 || Nat.beq q 1005 || Nat.beq q 1028 || Nat.beq q 1051 || Nat.beq q 1064 || Nat.beq q 1107 || Nat.beq q 1130 || Nat.beq q 1153 || Nat.beq q 1166 || Nat.beq q 1209 || Nat.beq q 1232 || Nat.beq q 1255 || Nat.beq q 1268 || Nat.beq q 1291 || Nat.beq q 1314 || Nat.beq q 1327 || Nat.beq q 1350 || Nat.beq q 1373) 960 280 b [.inr (.inl l0), .inr (.inl l1), .inr (.inl l2), .inl l3] [] σ).trans rfl
set_option maxRecDepth 20000 in
theorem uL_law_343 (E : zE) (l0 : Option Nat) (l1 : Option Nat) (l2 : Option Nat) (l3 : Int32) (b : Nat × Nat) (σ : zS) : LL_law_343 E l0 l1 l2 l3 b σ =
  (onR l0 fun a1 =>
  chk (zkd σ a1 = 16 ∧ zin (l3 + 1) (zln σ a1)) <|
  onR l1 fun a2 =>
  chk (zkd σ a2 = 8) <|
  bnI (E mX10_size [.inr (.inl l1), .inl (zai σ a1 (Int32.toNatClampNeg (l3 + 1)))] σ) fun v4 s3 =>
  onR l0 fun a5 =>
  chk (zkd s3 a5 = 16 ∧ zin (l3 + 1) (zln s3 a5)) <|
  onR l2 fun a6 =>
  chk (zkd s3 a6 = 9) <|
  bnI (E mX11_size [.inr (.inl l2), .inl (zai s3 a5 (Int32.toNatClampNeg (l3 + 1)))] s3) fun v8 s7 =>
  if (v4 : Int32) = v8 then
    LL_law_1373 E l0 l1 l2 l3 b s7
  else
    chk (zB 0) (some (some (.inl 0), s7))) :=
  (zun_at (fun pc => (oL_law pc).1) E (fun q => Nat.beq q 18 || Nat.beq q 27 || Nat.beq q 204 || Nat.beq q 237 || Nat.beq q 280 || Nat.beq q 343 || Nat.beq q 366 || Nat.beq q 409 || Nat.beq q 452 || Nat.beq q 495 || Nat.beq q 528 || Nat.beq q 561 || Nat.beq q 584 || Nat.beq q 607 || Nat.beq q 630 || Nat.beq q 663 || Nat.beq q 738 || Nat.beq q 771 || Nat.beq q 794 || Nat.beq q 847 || Nat.beq q 890 || Nat.beq q 913 || Nat.beq q 926 || Nat.beq q 939 || Nat.beq q 982 || Nat.beq q 1005 || Nat.beq q 1028 || Nat.beq q 1051 || Nat.beq q 1064 || Nat.beq q 1107 || Nat.beq q 1130 || Nat.beq q 1153 || Nat.beq q 1166 || Nat.beq q 1209 || Nat.beq q 1232 || Nat.beq q 1255 || Nat.beq q 1268 || Nat.beq q 1291 || Nat.beq q 1314 || Nat.beq q 1327 || Nat.beq q 1350 || Nat.beq q 1373) 960 343 b [.inr (.inl l0), .inr (.inl l1), .inr (.inl l2), .inl l3] [] σ).trans rfl
set_option maxRecDepth 20000 in
theorem uL_law_366 (E : zE) (l0 : Option Nat) (l1 : Option Nat) (l2 : Option Nat) (l3 : Int32) (b : Nat × Nat) (σ : zS) : LL_law_366 E l0 l1 l2 l3 b σ =
  (onR l0 fun a1 =>
  chk (zkd σ a1 = 16 ∧ zin (l3 + 1) (zln σ a1)) <|
  onR l0 fun a2 =>
  chk (zkd σ a2 = 16 ∧ zin (l3 + 2) (zln σ a2)) <|
  onR l0 fun a3 =>
  chk (zkd σ a3 = 16 ∧ zin (l3 + 3) (zln σ a3)) <|
  onR l1 fun a4 =>
  chk (zkd σ a4 = 8) <|
  bnI (E mX10_addLayer [.inr (.inl l1), .inl (zai σ a1 (Int32.toNatClampNeg (l3 + 1))), .inl (zai σ a2 (Int32.toNatClampNeg (l3 + 2))), .inl (zai σ a3 (Int32.toNatClampNeg (l3 + 3)))] σ) fun v6 s5 =>
  onR l0 fun a7 =>
  chk (zkd s5 a7 = 16 ∧ zin (l3 + 1) (zln s5 a7)) <|
  onR l0 fun a8 =>
  chk (zkd s5 a8 = 16 ∧ zin (l3 + 2) (zln s5 a8)) <|
  onR l0 fun a9 =>
  chk (zkd s5 a9 = 16 ∧ zin (l3 + 3) (zln s5 a9)) <|
  onR l2 fun a10 =>
  chk (zkd s5 a10 = 9) <|
  bnI (E mX11_addLayer [.inr (.inl l2), .inl (zai s5 a7 (Int32.toNatClampNeg (l3 + 1))), .inl (zai s5 a8 (Int32.toNatClampNeg (l3 + 2))), .inl (zai s5 a9 (Int32.toNatClampNeg (l3 + 3)))] s5) fun v12 s11 =>
  if (v6 : Int32) = v12 then
    LL_law_1373 E l0 l1 l2 l3 b s11
  else
    chk (zB 0) (some (some (.inl 0), s11))) :=
  (zun_at (fun pc => (oL_law pc).1) E (fun q => Nat.beq q 18 || Nat.beq q 27 || Nat.beq q 204 || Nat.beq q 237 || Nat.beq q 280 || Nat.beq q 343 || Nat.beq q 366 || Nat.beq q 409 || Nat.beq q 452 || Nat.beq q 495 || Nat.beq q 528 || Nat.beq q 561 || Nat.beq q 584 || Nat.beq q 607 || Nat.beq q 630 || Nat.beq q 663 || Nat.beq q 738 || Nat.beq q 771 || Nat.beq q 794 || Nat.beq q 847 || Nat.beq q 890 || Nat.beq q 913 || Nat.beq q 926 || Nat.beq q 939 || Nat.beq q 982 || Nat.beq q 1005 || Nat.beq q 1028 || Nat.beq q 1051 || Nat.beq q 1064 || Nat.beq q 1107 || Nat.beq q 1130 || Nat.beq q 1153 || Nat.beq q 1166 || Nat.beq q 1209 || Nat.beq q 1232 || Nat.beq q 1255 || Nat.beq q 1268 || Nat.beq q 1291 || Nat.beq q 1314 || Nat.beq q 1327 || Nat.beq q 1350 || Nat.beq q 1373) 960 366 b [.inr (.inl l0), .inr (.inl l1), .inr (.inl l2), .inl l3] [] σ).trans rfl
set_option maxRecDepth 20000 in
theorem uL_law_409 (E : zE) (l0 : Option Nat) (l1 : Option Nat) (l2 : Option Nat) (l3 : Int32) (b : Nat × Nat) (σ : zS) : LL_law_409 E l0 l1 l2 l3 b σ =
  (onR l0 fun a1 =>
  chk (zkd σ a1 = 16 ∧ zin (l3 + 1) (zln σ a1)) <|
  onR l0 fun a2 =>
  chk (zkd σ a2 = 16 ∧ zin (l3 + 2) (zln σ a2)) <|
  onR l0 fun a3 =>
  chk (zkd σ a3 = 16 ∧ zin (l3 + 3) (zln σ a3)) <|
  onR l1 fun a4 =>
  chk (zkd σ a4 = 8) <|
  bnI (E mX10_setParameters [.inr (.inl l1), .inl (zai σ a1 (Int32.toNatClampNeg (l3 + 1))), .inl (zai σ a2 (Int32.toNatClampNeg (l3 + 2))), .inl (zai σ a3 (Int32.toNatClampNeg (l3 + 3)))] σ) fun v6 s5 =>
  onR l0 fun a7 =>
  chk (zkd s5 a7 = 16 ∧ zin (l3 + 1) (zln s5 a7)) <|
  onR l0 fun a8 =>
  chk (zkd s5 a8 = 16 ∧ zin (l3 + 2) (zln s5 a8)) <|
  onR l0 fun a9 =>
  chk (zkd s5 a9 = 16 ∧ zin (l3 + 3) (zln s5 a9)) <|
  onR l2 fun a10 =>
  chk (zkd s5 a10 = 9) <|
  bnI (E mX11_setParameters [.inr (.inl l2), .inl (zai s5 a7 (Int32.toNatClampNeg (l3 + 1))), .inl (zai s5 a8 (Int32.toNatClampNeg (l3 + 2))), .inl (zai s5 a9 (Int32.toNatClampNeg (l3 + 3)))] s5) fun v12 s11 =>
  if (v6 : Int32) = v12 then
    LL_law_1373 E l0 l1 l2 l3 b s11
  else
    chk (zB 0) (some (some (.inl 0), s11))) :=
  (zun_at (fun pc => (oL_law pc).1) E (fun q => Nat.beq q 18 || Nat.beq q 27 || Nat.beq q 204 || Nat.beq q 237 || Nat.beq q 280 || Nat.beq q 343 || Nat.beq q 366 || Nat.beq q 409 || Nat.beq q 452 || Nat.beq q 495 || Nat.beq q 528 || Nat.beq q 561 || Nat.beq q 584 || Nat.beq q 607 || Nat.beq q 630 || Nat.beq q 663 || Nat.beq q 738 || Nat.beq q 771 || Nat.beq q 794 || Nat.beq q 847 || Nat.beq q 890 || Nat.beq q 913 || Nat.beq q 926 || Nat.beq q 939 || Nat.beq q 982 || Nat.beq q 1005 || Nat.beq q 1028 || Nat.beq q 1051 || Nat.beq q 1064 || Nat.beq q 1107 || Nat.beq q 1130 || Nat.beq q 1153 || Nat.beq q 1166 || Nat.beq q 1209 || Nat.beq q 1232 || Nat.beq q 1255 || Nat.beq q 1268 || Nat.beq q 1291 || Nat.beq q 1314 || Nat.beq q 1327 || Nat.beq q 1350 || Nat.beq q 1373) 960 409 b [.inr (.inl l0), .inr (.inl l1), .inr (.inl l2), .inl l3] [] σ).trans rfl
set_option maxRecDepth 20000 in
theorem uL_law_452 (E : zE) (l0 : Option Nat) (l1 : Option Nat) (l2 : Option Nat) (l3 : Int32) (b : Nat × Nat) (σ : zS) : LL_law_452 E l0 l1 l2 l3 b σ =
  (onR l0 fun a1 =>
  chk (zkd σ a1 = 16 ∧ zin (l3 + 1) (zln σ a1)) <|
  onR l0 fun a2 =>
  chk (zkd σ a2 = 16 ∧ zin (l3 + 2) (zln σ a2)) <|
  onR l0 fun a3 =>
  chk (zkd σ a3 = 16 ∧ zin (l3 + 3) (zln σ a3)) <|
  onR l1 fun a4 =>
  chk (zkd σ a4 = 8) <|
  bnI (E mX10_setBlend [.inr (.inl l1), .inl (zai σ a1 (Int32.toNatClampNeg (l3 + 1))), .inl (zai σ a2 (Int32.toNatClampNeg (l3 + 2))), .inl (zai σ a3 (Int32.toNatClampNeg (l3 + 3)))] σ) fun v6 s5 =>
  onR l0 fun a7 =>
  chk (zkd s5 a7 = 16 ∧ zin (l3 + 1) (zln s5 a7)) <|
  onR l0 fun a8 =>
  chk (zkd s5 a8 = 16 ∧ zin (l3 + 2) (zln s5 a8)) <|
  onR l0 fun a9 =>
  chk (zkd s5 a9 = 16 ∧ zin (l3 + 3) (zln s5 a9)) <|
  onR l2 fun a10 =>
  chk (zkd s5 a10 = 9) <|
  bnI (E mX11_setBlend [.inr (.inl l2), .inl (zai s5 a7 (Int32.toNatClampNeg (l3 + 1))), .inl (zai s5 a8 (Int32.toNatClampNeg (l3 + 2))), .inl (zai s5 a9 (Int32.toNatClampNeg (l3 + 3)))] s5) fun v12 s11 =>
  if (v6 : Int32) = v12 then
    LL_law_1373 E l0 l1 l2 l3 b s11
  else
    chk (zB 0) (some (some (.inl 0), s11))) :=
  (zun_at (fun pc => (oL_law pc).1) E (fun q => Nat.beq q 18 || Nat.beq q 27 || Nat.beq q 204 || Nat.beq q 237 || Nat.beq q 280 || Nat.beq q 343 || Nat.beq q 366 || Nat.beq q 409 || Nat.beq q 452 || Nat.beq q 495 || Nat.beq q 528 || Nat.beq q 561 || Nat.beq q 584 || Nat.beq q 607 || Nat.beq q 630 || Nat.beq q 663 || Nat.beq q 738 || Nat.beq q 771 || Nat.beq q 794 || Nat.beq q 847 || Nat.beq q 890 || Nat.beq q 913 || Nat.beq q 926 || Nat.beq q 939 || Nat.beq q 982 || Nat.beq q 1005 || Nat.beq q 1028 || Nat.beq q 1051 || Nat.beq q 1064 || Nat.beq q 1107 || Nat.beq q 1130 || Nat.beq q 1153 || Nat.beq q 1166 || Nat.beq q 1209 || Nat.beq q 1232 || Nat.beq q 1255 || Nat.beq q 1268 || Nat.beq q 1291 || Nat.beq q 1314 || Nat.beq q 1327 || Nat.beq q 1350 || Nat.beq q 1373) 960 452 b [.inr (.inl l0), .inr (.inl l1), .inr (.inl l2), .inl l3] [] σ).trans rfl
set_option maxRecDepth 20000 in
theorem uL_law_495 (E : zE) (l0 : Option Nat) (l1 : Option Nat) (l2 : Option Nat) (l3 : Int32) (b : Nat × Nat) (σ : zS) : LL_law_495 E l0 l1 l2 l3 b σ =
  (onR l0 fun a1 =>
  chk (zkd σ a1 = 16 ∧ zin (l3 + 1) (zln σ a1)) <|
  onR l0 fun a2 =>
  chk (zkd σ a2 = 16 ∧ zin (l3 + 2) (zln σ a2)) <|
  onR l1 fun a3 =>
  chk (zkd σ a3 = 8) <|
  bnI (E mX10_setEnabled [.inr (.inl l1), .inl (zai σ a1 (Int32.toNatClampNeg (l3 + 1))), .inl (zai σ a2 (Int32.toNatClampNeg (l3 + 2)))] σ) fun v5 s4 =>
  onR l0 fun a6 =>
  chk (zkd s4 a6 = 16 ∧ zin (l3 + 1) (zln s4 a6)) <|
  onR l0 fun a7 =>
  chk (zkd s4 a7 = 16 ∧ zin (l3 + 2) (zln s4 a7)) <|
  onR l2 fun a8 =>
  chk (zkd s4 a8 = 9) <|
  bnI (E mX11_setEnabled [.inr (.inl l2), .inl (zai s4 a6 (Int32.toNatClampNeg (l3 + 1))), .inl (zai s4 a7 (Int32.toNatClampNeg (l3 + 2)))] s4) fun v10 s9 =>
  if (v5 : Int32) = v10 then
    LL_law_1373 E l0 l1 l2 l3 b s9
  else
    chk (zB 0) (some (some (.inl 0), s9))) :=
  (zun_at (fun pc => (oL_law pc).1) E (fun q => Nat.beq q 18 || Nat.beq q 27 || Nat.beq q 204 || Nat.beq q 237 || Nat.beq q 280 || Nat.beq q 343 || Nat.beq q 366 || Nat.beq q 409 || Nat.beq q 452 || Nat.beq q 495 || Nat.beq q 528 || Nat.beq q 561 || Nat.beq q 584 || Nat.beq q 607 || Nat.beq q 630 || Nat.beq q 663 || Nat.beq q 738 || Nat.beq q 771 || Nat.beq q 794 || Nat.beq q 847 || Nat.beq q 890 || Nat.beq q 913 || Nat.beq q 926 || Nat.beq q 939 || Nat.beq q 982 || Nat.beq q 1005 || Nat.beq q 1028 || Nat.beq q 1051 || Nat.beq q 1064 || Nat.beq q 1107 || Nat.beq q 1130 || Nat.beq q 1153 || Nat.beq q 1166 || Nat.beq q 1209 || Nat.beq q 1232 || Nat.beq q 1255 || Nat.beq q 1268 || Nat.beq q 1291 || Nat.beq q 1314 || Nat.beq q 1327 || Nat.beq q 1350 || Nat.beq q 1373) 960 495 b [.inr (.inl l0), .inr (.inl l1), .inr (.inl l2), .inl l3] [] σ).trans rfl
set_option maxRecDepth 20000 in
theorem uL_law_528 (E : zE) (l0 : Option Nat) (l1 : Option Nat) (l2 : Option Nat) (l3 : Int32) (b : Nat × Nat) (σ : zS) : LL_law_528 E l0 l1 l2 l3 b σ =
  (onR l0 fun a1 =>
  chk (zkd σ a1 = 16 ∧ zin (l3 + 1) (zln σ a1)) <|
  onR l0 fun a2 =>
  chk (zkd σ a2 = 16 ∧ zin (l3 + 2) (zln σ a2)) <|
  onR l1 fun a3 =>
  chk (zkd σ a3 = 8) <|
  bnI (E mX10_moveLayer [.inr (.inl l1), .inl (zai σ a1 (Int32.toNatClampNeg (l3 + 1))), .inl (zai σ a2 (Int32.toNatClampNeg (l3 + 2)))] σ) fun v5 s4 =>
  onR l0 fun a6 =>
  chk (zkd s4 a6 = 16 ∧ zin (l3 + 1) (zln s4 a6)) <|
  onR l0 fun a7 =>
  chk (zkd s4 a7 = 16 ∧ zin (l3 + 2) (zln s4 a7)) <|
  onR l2 fun a8 =>
  chk (zkd s4 a8 = 9) <|
  bnI (E mX11_moveLayer [.inr (.inl l2), .inl (zai s4 a6 (Int32.toNatClampNeg (l3 + 1))), .inl (zai s4 a7 (Int32.toNatClampNeg (l3 + 2)))] s4) fun v10 s9 =>
  if (v5 : Int32) = v10 then
    LL_law_1373 E l0 l1 l2 l3 b s9
  else
    chk (zB 0) (some (some (.inl 0), s9))) :=
  (zun_at (fun pc => (oL_law pc).1) E (fun q => Nat.beq q 18 || Nat.beq q 27 || Nat.beq q 204 || Nat.beq q 237 || Nat.beq q 280 || Nat.beq q 343 || Nat.beq q 366 || Nat.beq q 409 || Nat.beq q 452 || Nat.beq q 495 || Nat.beq q 528 || Nat.beq q 561 || Nat.beq q 584 || Nat.beq q 607 || Nat.beq q 630 || Nat.beq q 663 || Nat.beq q 738 || Nat.beq q 771 || Nat.beq q 794 || Nat.beq q 847 || Nat.beq q 890 || Nat.beq q 913 || Nat.beq q 926 || Nat.beq q 939 || Nat.beq q 982 || Nat.beq q 1005 || Nat.beq q 1028 || Nat.beq q 1051 || Nat.beq q 1064 || Nat.beq q 1107 || Nat.beq q 1130 || Nat.beq q 1153 || Nat.beq q 1166 || Nat.beq q 1209 || Nat.beq q 1232 || Nat.beq q 1255 || Nat.beq q 1268 || Nat.beq q 1291 || Nat.beq q 1314 || Nat.beq q 1327 || Nat.beq q 1350 || Nat.beq q 1373) 960 528 b [.inr (.inl l0), .inr (.inl l1), .inr (.inl l2), .inl l3] [] σ).trans rfl
set_option maxRecDepth 20000 in
theorem uL_law_561 (E : zE) (l0 : Option Nat) (l1 : Option Nat) (l2 : Option Nat) (l3 : Int32) (b : Nat × Nat) (σ : zS) : LL_law_561 E l0 l1 l2 l3 b σ =
  (onR l0 fun a1 =>
  chk (zkd σ a1 = 16 ∧ zin (l3 + 1) (zln σ a1)) <|
  onR l1 fun a2 =>
  chk (zkd σ a2 = 8) <|
  bnI (E mX10_duplicateLayer [.inr (.inl l1), .inl (zai σ a1 (Int32.toNatClampNeg (l3 + 1)))] σ) fun v4 s3 =>
  onR l0 fun a5 =>
  chk (zkd s3 a5 = 16 ∧ zin (l3 + 1) (zln s3 a5)) <|
  onR l2 fun a6 =>
  chk (zkd s3 a6 = 9) <|
  bnI (E mX11_duplicateLayer [.inr (.inl l2), .inl (zai s3 a5 (Int32.toNatClampNeg (l3 + 1)))] s3) fun v8 s7 =>
  if (v4 : Int32) = v8 then
    LL_law_1373 E l0 l1 l2 l3 b s7
  else
    chk (zB 0) (some (some (.inl 0), s7))) :=
  (zun_at (fun pc => (oL_law pc).1) E (fun q => Nat.beq q 18 || Nat.beq q 27 || Nat.beq q 204 || Nat.beq q 237 || Nat.beq q 280 || Nat.beq q 343 || Nat.beq q 366 || Nat.beq q 409 || Nat.beq q 452 || Nat.beq q 495 || Nat.beq q 528 || Nat.beq q 561 || Nat.beq q 584 || Nat.beq q 607 || Nat.beq q 630 || Nat.beq q 663 || Nat.beq q 738 || Nat.beq q 771 || Nat.beq q 794 || Nat.beq q 847 || Nat.beq q 890 || Nat.beq q 913 || Nat.beq q 926 || Nat.beq q 939 || Nat.beq q 982 || Nat.beq q 1005 || Nat.beq q 1028 || Nat.beq q 1051 || Nat.beq q 1064 || Nat.beq q 1107 || Nat.beq q 1130 || Nat.beq q 1153 || Nat.beq q 1166 || Nat.beq q 1209 || Nat.beq q 1232 || Nat.beq q 1255 || Nat.beq q 1268 || Nat.beq q 1291 || Nat.beq q 1314 || Nat.beq q 1327 || Nat.beq q 1350 || Nat.beq q 1373) 960 561 b [.inr (.inl l0), .inr (.inl l1), .inr (.inl l2), .inl l3] [] σ).trans rfl
set_option maxRecDepth 20000 in
theorem uL_law_584 (E : zE) (l0 : Option Nat) (l1 : Option Nat) (l2 : Option Nat) (l3 : Int32) (b : Nat × Nat) (σ : zS) : LL_law_584 E l0 l1 l2 l3 b σ =
  (onR l0 fun a1 =>
  chk (zkd σ a1 = 16 ∧ zin (l3 + 1) (zln σ a1)) <|
  onR l1 fun a2 =>
  chk (zkd σ a2 = 8) <|
  bnI (E mX10_removeLayer [.inr (.inl l1), .inl (zai σ a1 (Int32.toNatClampNeg (l3 + 1)))] σ) fun v4 s3 =>
  onR l0 fun a5 =>
  chk (zkd s3 a5 = 16 ∧ zin (l3 + 1) (zln s3 a5)) <|
  onR l2 fun a6 =>
  chk (zkd s3 a6 = 9) <|
  bnI (E mX11_removeLayer [.inr (.inl l2), .inl (zai s3 a5 (Int32.toNatClampNeg (l3 + 1)))] s3) fun v8 s7 =>
  if (v4 : Int32) = v8 then
    LL_law_1373 E l0 l1 l2 l3 b s7
  else
    chk (zB 0) (some (some (.inl 0), s7))) :=
  (zun_at (fun pc => (oL_law pc).1) E (fun q => Nat.beq q 18 || Nat.beq q 27 || Nat.beq q 204 || Nat.beq q 237 || Nat.beq q 280 || Nat.beq q 343 || Nat.beq q 366 || Nat.beq q 409 || Nat.beq q 452 || Nat.beq q 495 || Nat.beq q 528 || Nat.beq q 561 || Nat.beq q 584 || Nat.beq q 607 || Nat.beq q 630 || Nat.beq q 663 || Nat.beq q 738 || Nat.beq q 771 || Nat.beq q 794 || Nat.beq q 847 || Nat.beq q 890 || Nat.beq q 913 || Nat.beq q 926 || Nat.beq q 939 || Nat.beq q 982 || Nat.beq q 1005 || Nat.beq q 1028 || Nat.beq q 1051 || Nat.beq q 1064 || Nat.beq q 1107 || Nat.beq q 1130 || Nat.beq q 1153 || Nat.beq q 1166 || Nat.beq q 1209 || Nat.beq q 1232 || Nat.beq q 1255 || Nat.beq q 1268 || Nat.beq q 1291 || Nat.beq q 1314 || Nat.beq q 1327 || Nat.beq q 1350 || Nat.beq q 1373) 960 584 b [.inr (.inl l0), .inr (.inl l1), .inr (.inl l2), .inl l3] [] σ).trans rfl
set_option maxRecDepth 20000 in
theorem uL_law_607 (E : zE) (l0 : Option Nat) (l1 : Option Nat) (l2 : Option Nat) (l3 : Int32) (b : Nat × Nat) (σ : zS) : LL_law_607 E l0 l1 l2 l3 b σ =
  (onR l0 fun a1 =>
  chk (zkd σ a1 = 16 ∧ zin (l3 + 1) (zln σ a1)) <|
  onR l1 fun a2 =>
  chk (zkd σ a2 = 8) <|
  bnI (E mX10_flatten [.inr (.inl l1), .inl (zai σ a1 (Int32.toNatClampNeg (l3 + 1)))] σ) fun v4 s3 =>
  onR l0 fun a5 =>
  chk (zkd s3 a5 = 16 ∧ zin (l3 + 1) (zln s3 a5)) <|
  onR l2 fun a6 =>
  chk (zkd s3 a6 = 9) <|
  bnI (E mX11_flatten [.inr (.inl l2), .inl (zai s3 a5 (Int32.toNatClampNeg (l3 + 1)))] s3) fun v8 s7 =>
  if (v4 : Int32) = v8 then
    LL_law_1373 E l0 l1 l2 l3 b s7
  else
    chk (zB 0) (some (some (.inl 0), s7))) :=
  (zun_at (fun pc => (oL_law pc).1) E (fun q => Nat.beq q 18 || Nat.beq q 27 || Nat.beq q 204 || Nat.beq q 237 || Nat.beq q 280 || Nat.beq q 343 || Nat.beq q 366 || Nat.beq q 409 || Nat.beq q 452 || Nat.beq q 495 || Nat.beq q 528 || Nat.beq q 561 || Nat.beq q 584 || Nat.beq q 607 || Nat.beq q 630 || Nat.beq q 663 || Nat.beq q 738 || Nat.beq q 771 || Nat.beq q 794 || Nat.beq q 847 || Nat.beq q 890 || Nat.beq q 913 || Nat.beq q 926 || Nat.beq q 939 || Nat.beq q 982 || Nat.beq q 1005 || Nat.beq q 1028 || Nat.beq q 1051 || Nat.beq q 1064 || Nat.beq q 1107 || Nat.beq q 1130 || Nat.beq q 1153 || Nat.beq q 1166 || Nat.beq q 1209 || Nat.beq q 1232 || Nat.beq q 1255 || Nat.beq q 1268 || Nat.beq q 1291 || Nat.beq q 1314 || Nat.beq q 1327 || Nat.beq q 1350 || Nat.beq q 1373) 960 607 b [.inr (.inl l0), .inr (.inl l1), .inr (.inl l2), .inl l3] [] σ).trans rfl
set_option maxRecDepth 20000 in
theorem uL_law_630 (E : zE) (l0 : Option Nat) (l1 : Option Nat) (l2 : Option Nat) (l3 : Int32) (b : Nat × Nat) (σ : zS) : LL_law_630 E l0 l1 l2 l3 b σ =
  (onR l0 fun a1 =>
  chk (zkd σ a1 = 16 ∧ zin (l3 + 1) (zln σ a1)) <|
  onR l0 fun a2 =>
  chk (zkd σ a2 = 16 ∧ zin (l3 + 2) (zln σ a2)) <|
  onR l1 fun a3 =>
  chk (zkd σ a3 = 8) <|
  bnI (E mX10_layer [.inr (.inl l1), .inl (zai σ a1 (Int32.toNatClampNeg (l3 + 1))), .inl (zai σ a2 (Int32.toNatClampNeg (l3 + 2)))] σ) fun v5 s4 =>
  onR l0 fun a6 =>
  chk (zkd s4 a6 = 16 ∧ zin (l3 + 1) (zln s4 a6)) <|
  onR l0 fun a7 =>
  chk (zkd s4 a7 = 16 ∧ zin (l3 + 2) (zln s4 a7)) <|
  onR l2 fun a8 =>
  chk (zkd s4 a8 = 9) <|
  bnI (E mX11_layer [.inr (.inl l2), .inl (zai s4 a6 (Int32.toNatClampNeg (l3 + 1))), .inl (zai s4 a7 (Int32.toNatClampNeg (l3 + 2)))] s4) fun v10 s9 =>
  if (v5 : Int32) = v10 then
    LL_law_1373 E l0 l1 l2 l3 b s9
  else
    chk (zB 0) (some (some (.inl 0), s9))) :=
  (zun_at (fun pc => (oL_law pc).1) E (fun q => Nat.beq q 18 || Nat.beq q 27 || Nat.beq q 204 || Nat.beq q 237 || Nat.beq q 280 || Nat.beq q 343 || Nat.beq q 366 || Nat.beq q 409 || Nat.beq q 452 || Nat.beq q 495 || Nat.beq q 528 || Nat.beq q 561 || Nat.beq q 584 || Nat.beq q 607 || Nat.beq q 630 || Nat.beq q 663 || Nat.beq q 738 || Nat.beq q 771 || Nat.beq q 794 || Nat.beq q 847 || Nat.beq q 890 || Nat.beq q 913 || Nat.beq q 926 || Nat.beq q 939 || Nat.beq q 982 || Nat.beq q 1005 || Nat.beq q 1028 || Nat.beq q 1051 || Nat.beq q 1064 || Nat.beq q 1107 || Nat.beq q 1130 || Nat.beq q 1153 || Nat.beq q 1166 || Nat.beq q 1209 || Nat.beq q 1232 || Nat.beq q 1255 || Nat.beq q 1268 || Nat.beq q 1291 || Nat.beq q 1314 || Nat.beq q 1327 || Nat.beq q 1350 || Nat.beq q 1373) 960 630 b [.inr (.inl l0), .inr (.inl l1), .inr (.inl l2), .inl l3] [] σ).trans rfl
set_option maxRecDepth 20000 in
theorem uL_law_663 (E : zE) (l0 : Option Nat) (l1 : Option Nat) (l2 : Option Nat) (l3 : Int32) (b : Nat × Nat) (σ : zS) : LL_law_663 E l0 l1 l2 l3 b σ =
  (onR l0 fun a1 =>
  chk (zkd σ a1 = 16 ∧ zin (l3 + 1) (zln σ a1)) <|
  onR l0 fun a2 =>
  chk (zkd σ a2 = 16 ∧ zin (l3 + 2) (zln σ a2)) <|
  onR l0 fun a3 =>
  chk (zkd σ a3 = 16 ∧ zin (l3 + 3) (zln σ a3)) <|
  onR l0 fun a4 =>
  chk (zkd σ a4 = 16 ∧ zin (l3 + 4) (zln σ a4)) <|
  onR l0 fun a5 =>
  chk (zkd σ a5 = 16 ∧ zin (l3 + 5) (zln σ a5)) <|
  onR l0 fun a6 =>
  chk (zkd σ a6 = 16 ∧ zin (l3 + 6) (zln σ a6)) <|
  onR l1 fun a7 =>
  chk (zkd σ a7 = 8) <|
  bnI (E mX10_setMask [.inr (.inl l1), .inl (zai σ a1 (Int32.toNatClampNeg (l3 + 1))), .inl (zai σ a2 (Int32.toNatClampNeg (l3 + 2))), .inl (zai σ a3 (Int32.toNatClampNeg (l3 + 3))), .inl (zai σ a4 (Int32.toNatClampNeg (l3 + 4))), .inl (zai σ a5 (Int32.toNatClampNeg (l3 + 5))), .inl (zai σ a6 (Int32.toNatClampNeg (l3 + 6)))] σ) fun v9 s8 =>
  onR l0 fun a10 =>
  chk (zkd s8 a10 = 16 ∧ zin (l3 + 1) (zln s8 a10)) <|
  onR l0 fun a11 =>
  chk (zkd s8 a11 = 16 ∧ zin (l3 + 2) (zln s8 a11)) <|
  onR l0 fun a12 =>
  chk (zkd s8 a12 = 16 ∧ zin (l3 + 3) (zln s8 a12)) <|
  onR l0 fun a13 =>
  chk (zkd s8 a13 = 16 ∧ zin (l3 + 4) (zln s8 a13)) <|
  onR l0 fun a14 =>
  chk (zkd s8 a14 = 16 ∧ zin (l3 + 5) (zln s8 a14)) <|
  onR l0 fun a15 =>
  chk (zkd s8 a15 = 16 ∧ zin (l3 + 6) (zln s8 a15)) <|
  onR l2 fun a16 =>
  chk (zkd s8 a16 = 9) <|
  bnI (E mX11_setMask [.inr (.inl l2), .inl (zai s8 a10 (Int32.toNatClampNeg (l3 + 1))), .inl (zai s8 a11 (Int32.toNatClampNeg (l3 + 2))), .inl (zai s8 a12 (Int32.toNatClampNeg (l3 + 3))), .inl (zai s8 a13 (Int32.toNatClampNeg (l3 + 4))), .inl (zai s8 a14 (Int32.toNatClampNeg (l3 + 5))), .inl (zai s8 a15 (Int32.toNatClampNeg (l3 + 6)))] s8) fun v18 s17 =>
  if (v9 : Int32) = v18 then
    LL_law_1373 E l0 l1 l2 l3 b s17
  else
    chk (zB 0) (some (some (.inl 0), s17))) :=
  (zun_at (fun pc => (oL_law pc).1) E (fun q => Nat.beq q 18 || Nat.beq q 27 || Nat.beq q 204 || Nat.beq q 237 || Nat.beq q 280 || Nat.beq q 343 || Nat.beq q 366 || Nat.beq q 409 || Nat.beq q 452 || Nat.beq q 495 || Nat.beq q 528 || Nat.beq q 561 || Nat.beq q 584 || Nat.beq q 607 || Nat.beq q 630 || Nat.beq q 663 || Nat.beq q 738 || Nat.beq q 771 || Nat.beq q 794 || Nat.beq q 847 || Nat.beq q 890 || Nat.beq q 913 || Nat.beq q 926 || Nat.beq q 939 || Nat.beq q 982 || Nat.beq q 1005 || Nat.beq q 1028 || Nat.beq q 1051 || Nat.beq q 1064 || Nat.beq q 1107 || Nat.beq q 1130 || Nat.beq q 1153 || Nat.beq q 1166 || Nat.beq q 1209 || Nat.beq q 1232 || Nat.beq q 1255 || Nat.beq q 1268 || Nat.beq q 1291 || Nat.beq q 1314 || Nat.beq q 1327 || Nat.beq q 1350 || Nat.beq q 1373) 960 663 b [.inr (.inl l0), .inr (.inl l1), .inr (.inl l2), .inl l3] [] σ).trans rfl
set_option maxRecDepth 20000 in
theorem uL_law_738 (E : zE) (l0 : Option Nat) (l1 : Option Nat) (l2 : Option Nat) (l3 : Int32) (b : Nat × Nat) (σ : zS) : LL_law_738 E l0 l1 l2 l3 b σ =
  (onR l0 fun a1 =>
  chk (zkd σ a1 = 16 ∧ zin (l3 + 1) (zln σ a1)) <|
  onR l0 fun a2 =>
  chk (zkd σ a2 = 16 ∧ zin (l3 + 2) (zln σ a2)) <|
  onR l1 fun a3 =>
  chk (zkd σ a3 = 8) <|
  bnI (E mX10_setFeather [.inr (.inl l1), .inl (zai σ a1 (Int32.toNatClampNeg (l3 + 1))), .inl (zai σ a2 (Int32.toNatClampNeg (l3 + 2)))] σ) fun v5 s4 =>
  onR l0 fun a6 =>
  chk (zkd s4 a6 = 16 ∧ zin (l3 + 1) (zln s4 a6)) <|
  onR l0 fun a7 =>
  chk (zkd s4 a7 = 16 ∧ zin (l3 + 2) (zln s4 a7)) <|
  onR l2 fun a8 =>
  chk (zkd s4 a8 = 9) <|
  bnI (E mX11_setFeather [.inr (.inl l2), .inl (zai s4 a6 (Int32.toNatClampNeg (l3 + 1))), .inl (zai s4 a7 (Int32.toNatClampNeg (l3 + 2)))] s4) fun v10 s9 =>
  if (v5 : Int32) = v10 then
    LL_law_1373 E l0 l1 l2 l3 b s9
  else
    chk (zB 0) (some (some (.inl 0), s9))) :=
  (zun_at (fun pc => (oL_law pc).1) E (fun q => Nat.beq q 18 || Nat.beq q 27 || Nat.beq q 204 || Nat.beq q 237 || Nat.beq q 280 || Nat.beq q 343 || Nat.beq q 366 || Nat.beq q 409 || Nat.beq q 452 || Nat.beq q 495 || Nat.beq q 528 || Nat.beq q 561 || Nat.beq q 584 || Nat.beq q 607 || Nat.beq q 630 || Nat.beq q 663 || Nat.beq q 738 || Nat.beq q 771 || Nat.beq q 794 || Nat.beq q 847 || Nat.beq q 890 || Nat.beq q 913 || Nat.beq q 926 || Nat.beq q 939 || Nat.beq q 982 || Nat.beq q 1005 || Nat.beq q 1028 || Nat.beq q 1051 || Nat.beq q 1064 || Nat.beq q 1107 || Nat.beq q 1130 || Nat.beq q 1153 || Nat.beq q 1166 || Nat.beq q 1209 || Nat.beq q 1232 || Nat.beq q 1255 || Nat.beq q 1268 || Nat.beq q 1291 || Nat.beq q 1314 || Nat.beq q 1327 || Nat.beq q 1350 || Nat.beq q 1373) 960 738 b [.inr (.inl l0), .inr (.inl l1), .inr (.inl l2), .inl l3] [] σ).trans rfl
set_option maxRecDepth 20000 in
theorem uL_law_771 (E : zE) (l0 : Option Nat) (l1 : Option Nat) (l2 : Option Nat) (l3 : Int32) (b : Nat × Nat) (σ : zS) : LL_law_771 E l0 l1 l2 l3 b σ =
  (onR l0 fun a1 =>
  chk (zkd σ a1 = 16 ∧ zin (l3 + 1) (zln σ a1)) <|
  onR l1 fun a2 =>
  chk (zkd σ a2 = 8) <|
  bnI (E mX10_invertMask [.inr (.inl l1), .inl (zai σ a1 (Int32.toNatClampNeg (l3 + 1)))] σ) fun v4 s3 =>
  onR l0 fun a5 =>
  chk (zkd s3 a5 = 16 ∧ zin (l3 + 1) (zln s3 a5)) <|
  onR l2 fun a6 =>
  chk (zkd s3 a6 = 9) <|
  bnI (E mX11_invertMask [.inr (.inl l2), .inl (zai s3 a5 (Int32.toNatClampNeg (l3 + 1)))] s3) fun v8 s7 =>
  if (v4 : Int32) = v8 then
    LL_law_1373 E l0 l1 l2 l3 b s7
  else
    chk (zB 0) (some (some (.inl 0), s7))) :=
  (zun_at (fun pc => (oL_law pc).1) E (fun q => Nat.beq q 18 || Nat.beq q 27 || Nat.beq q 204 || Nat.beq q 237 || Nat.beq q 280 || Nat.beq q 343 || Nat.beq q 366 || Nat.beq q 409 || Nat.beq q 452 || Nat.beq q 495 || Nat.beq q 528 || Nat.beq q 561 || Nat.beq q 584 || Nat.beq q 607 || Nat.beq q 630 || Nat.beq q 663 || Nat.beq q 738 || Nat.beq q 771 || Nat.beq q 794 || Nat.beq q 847 || Nat.beq q 890 || Nat.beq q 913 || Nat.beq q 926 || Nat.beq q 939 || Nat.beq q 982 || Nat.beq q 1005 || Nat.beq q 1028 || Nat.beq q 1051 || Nat.beq q 1064 || Nat.beq q 1107 || Nat.beq q 1130 || Nat.beq q 1153 || Nat.beq q 1166 || Nat.beq q 1209 || Nat.beq q 1232 || Nat.beq q 1255 || Nat.beq q 1268 || Nat.beq q 1291 || Nat.beq q 1314 || Nat.beq q 1327 || Nat.beq q 1350 || Nat.beq q 1373) 960 771 b [.inr (.inl l0), .inr (.inl l1), .inr (.inl l2), .inl l3] [] σ).trans rfl
set_option maxRecDepth 20000 in
theorem uL_law_794 (E : zE) (l0 : Option Nat) (l1 : Option Nat) (l2 : Option Nat) (l3 : Int32) (b : Nat × Nat) (σ : zS) : LL_law_794 E l0 l1 l2 l3 b σ =
  (onR l0 fun a1 =>
  chk (zkd σ a1 = 16 ∧ zin (l3 + 1) (zln σ a1)) <|
  onR l0 fun a2 =>
  chk (zkd σ a2 = 16 ∧ zin (l3 + 2) (zln σ a2)) <|
  onR l0 fun a3 =>
  chk (zkd σ a3 = 16 ∧ zin (l3 + 3) (zln σ a3)) <|
  onR l0 fun a4 =>
  chk (zkd σ a4 = 16 ∧ zin (l3 + 4) (zln σ a4)) <|
  onR l1 fun a5 =>
  chk (zkd σ a5 = 8) <|
  bnI (E mX10_dab [.inr (.inl l1), .inl (zai σ a1 (Int32.toNatClampNeg (l3 + 1))), .inl (zai σ a2 (Int32.toNatClampNeg (l3 + 2))), .inl (zai σ a3 (Int32.toNatClampNeg (l3 + 3))), .inl (zai σ a4 (Int32.toNatClampNeg (l3 + 4)))] σ) fun v7 s6 =>
  onR l0 fun a8 =>
  chk (zkd s6 a8 = 16 ∧ zin (l3 + 1) (zln s6 a8)) <|
  onR l0 fun a9 =>
  chk (zkd s6 a9 = 16 ∧ zin (l3 + 2) (zln s6 a9)) <|
  onR l0 fun a10 =>
  chk (zkd s6 a10 = 16 ∧ zin (l3 + 3) (zln s6 a10)) <|
  onR l0 fun a11 =>
  chk (zkd s6 a11 = 16 ∧ zin (l3 + 4) (zln s6 a11)) <|
  onR l2 fun a12 =>
  chk (zkd s6 a12 = 9) <|
  bnI (E mX11_dab [.inr (.inl l2), .inl (zai s6 a8 (Int32.toNatClampNeg (l3 + 1))), .inl (zai s6 a9 (Int32.toNatClampNeg (l3 + 2))), .inl (zai s6 a10 (Int32.toNatClampNeg (l3 + 3))), .inl (zai s6 a11 (Int32.toNatClampNeg (l3 + 4)))] s6) fun v14 s13 =>
  if (v7 : Int32) = v14 then
    LL_law_1373 E l0 l1 l2 l3 b s13
  else
    chk (zB 0) (some (some (.inl 0), s13))) :=
  (zun_at (fun pc => (oL_law pc).1) E (fun q => Nat.beq q 18 || Nat.beq q 27 || Nat.beq q 204 || Nat.beq q 237 || Nat.beq q 280 || Nat.beq q 343 || Nat.beq q 366 || Nat.beq q 409 || Nat.beq q 452 || Nat.beq q 495 || Nat.beq q 528 || Nat.beq q 561 || Nat.beq q 584 || Nat.beq q 607 || Nat.beq q 630 || Nat.beq q 663 || Nat.beq q 738 || Nat.beq q 771 || Nat.beq q 794 || Nat.beq q 847 || Nat.beq q 890 || Nat.beq q 913 || Nat.beq q 926 || Nat.beq q 939 || Nat.beq q 982 || Nat.beq q 1005 || Nat.beq q 1028 || Nat.beq q 1051 || Nat.beq q 1064 || Nat.beq q 1107 || Nat.beq q 1130 || Nat.beq q 1153 || Nat.beq q 1166 || Nat.beq q 1209 || Nat.beq q 1232 || Nat.beq q 1255 || Nat.beq q 1268 || Nat.beq q 1291 || Nat.beq q 1314 || Nat.beq q 1327 || Nat.beq q 1350 || Nat.beq q 1373) 960 794 b [.inr (.inl l0), .inr (.inl l1), .inr (.inl l2), .inl l3] [] σ).trans rfl
set_option maxRecDepth 20000 in
theorem uL_law_847 (E : zE) (l0 : Option Nat) (l1 : Option Nat) (l2 : Option Nat) (l3 : Int32) (b : Nat × Nat) (σ : zS) : LL_law_847 E l0 l1 l2 l3 b σ =
  (onR l0 fun a1 =>
  chk (zkd σ a1 = 16 ∧ zin (l3 + 1) (zln σ a1)) <|
  onR l0 fun a2 =>
  chk (zkd σ a2 = 16 ∧ zin (l3 + 2) (zln σ a2)) <|
  onR l0 fun a3 =>
  chk (zkd σ a3 = 16 ∧ zin (l3 + 3) (zln σ a3)) <|
  onR l1 fun a4 =>
  chk (zkd σ a4 = 8) <|
  bnI (E mX10_maskValue [.inr (.inl l1), .inl (zai σ a1 (Int32.toNatClampNeg (l3 + 1))), .inl (zai σ a2 (Int32.toNatClampNeg (l3 + 2))), .inl (zai σ a3 (Int32.toNatClampNeg (l3 + 3)))] σ) fun v6 s5 =>
  onR l0 fun a7 =>
  chk (zkd s5 a7 = 16 ∧ zin (l3 + 1) (zln s5 a7)) <|
  onR l0 fun a8 =>
  chk (zkd s5 a8 = 16 ∧ zin (l3 + 2) (zln s5 a8)) <|
  onR l0 fun a9 =>
  chk (zkd s5 a9 = 16 ∧ zin (l3 + 3) (zln s5 a9)) <|
  onR l2 fun a10 =>
  chk (zkd s5 a10 = 9) <|
  bnI (E mX11_maskValue [.inr (.inl l2), .inl (zai s5 a7 (Int32.toNatClampNeg (l3 + 1))), .inl (zai s5 a8 (Int32.toNatClampNeg (l3 + 2))), .inl (zai s5 a9 (Int32.toNatClampNeg (l3 + 3)))] s5) fun v12 s11 =>
  if (v6 : Int32) = v12 then
    LL_law_1373 E l0 l1 l2 l3 b s11
  else
    chk (zB 0) (some (some (.inl 0), s11))) :=
  (zun_at (fun pc => (oL_law pc).1) E (fun q => Nat.beq q 18 || Nat.beq q 27 || Nat.beq q 204 || Nat.beq q 237 || Nat.beq q 280 || Nat.beq q 343 || Nat.beq q 366 || Nat.beq q 409 || Nat.beq q 452 || Nat.beq q 495 || Nat.beq q 528 || Nat.beq q 561 || Nat.beq q 584 || Nat.beq q 607 || Nat.beq q 630 || Nat.beq q 663 || Nat.beq q 738 || Nat.beq q 771 || Nat.beq q 794 || Nat.beq q 847 || Nat.beq q 890 || Nat.beq q 913 || Nat.beq q 926 || Nat.beq q 939 || Nat.beq q 982 || Nat.beq q 1005 || Nat.beq q 1028 || Nat.beq q 1051 || Nat.beq q 1064 || Nat.beq q 1107 || Nat.beq q 1130 || Nat.beq q 1153 || Nat.beq q 1166 || Nat.beq q 1209 || Nat.beq q 1232 || Nat.beq q 1255 || Nat.beq q 1268 || Nat.beq q 1291 || Nat.beq q 1314 || Nat.beq q 1327 || Nat.beq q 1350 || Nat.beq q 1373) 960 847 b [.inr (.inl l0), .inr (.inl l1), .inr (.inl l2), .inl l3] [] σ).trans rfl
set_option maxRecDepth 20000 in
theorem uL_law_890 (E : zE) (l0 : Option Nat) (l1 : Option Nat) (l2 : Option Nat) (l3 : Int32) (b : Nat × Nat) (σ : zS) : LL_law_890 E l0 l1 l2 l3 b σ =
  (onR l0 fun a1 =>
  chk (zkd σ a1 = 16 ∧ zin (l3 + 1) (zln σ a1)) <|
  onR l1 fun a2 =>
  chk (zkd σ a2 = 8) <|
  bnI (E mX10_append [.inr (.inl l1), .inl (zai σ a1 (Int32.toNatClampNeg (l3 + 1)))] σ) fun v4 s3 =>
  onR l0 fun a5 =>
  chk (zkd s3 a5 = 16 ∧ zin (l3 + 1) (zln s3 a5)) <|
  onR l2 fun a6 =>
  chk (zkd s3 a6 = 9) <|
  bnI (E mX11_append [.inr (.inl l2), .inl (zai s3 a5 (Int32.toNatClampNeg (l3 + 1)))] s3) fun v8 s7 =>
  if (v4 : Int32) = v8 then
    LL_law_1373 E l0 l1 l2 l3 b s7
  else
    chk (zB 0) (some (some (.inl 0), s7))) :=
  (zun_at (fun pc => (oL_law pc).1) E (fun q => Nat.beq q 18 || Nat.beq q 27 || Nat.beq q 204 || Nat.beq q 237 || Nat.beq q 280 || Nat.beq q 343 || Nat.beq q 366 || Nat.beq q 409 || Nat.beq q 452 || Nat.beq q 495 || Nat.beq q 528 || Nat.beq q 561 || Nat.beq q 584 || Nat.beq q 607 || Nat.beq q 630 || Nat.beq q 663 || Nat.beq q 738 || Nat.beq q 771 || Nat.beq q 794 || Nat.beq q 847 || Nat.beq q 890 || Nat.beq q 913 || Nat.beq q 926 || Nat.beq q 939 || Nat.beq q 982 || Nat.beq q 1005 || Nat.beq q 1028 || Nat.beq q 1051 || Nat.beq q 1064 || Nat.beq q 1107 || Nat.beq q 1130 || Nat.beq q 1153 || Nat.beq q 1166 || Nat.beq q 1209 || Nat.beq q 1232 || Nat.beq q 1255 || Nat.beq q 1268 || Nat.beq q 1291 || Nat.beq q 1314 || Nat.beq q 1327 || Nat.beq q 1350 || Nat.beq q 1373) 960 890 b [.inr (.inl l0), .inr (.inl l1), .inr (.inl l2), .inl l3] [] σ).trans rfl
set_option maxRecDepth 20000 in
theorem uL_law_913 (E : zE) (l0 : Option Nat) (l1 : Option Nat) (l2 : Option Nat) (l3 : Int32) (b : Nat × Nat) (σ : zS) : LL_law_913 E l0 l1 l2 l3 b σ =
  (onR l1 fun a1 =>
  chk (zkd σ a1 = 8) <|
  bnI (E mX10_clearText [.inr (.inl l1)] σ) fun v3 s2 =>
  onR l2 fun a4 =>
  chk (zkd s2 a4 = 9) <|
  bnI (E mX11_clearText [.inr (.inl l2)] s2) fun v6 s5 =>
  if (v3 : Int32) = v6 then
    LL_law_1373 E l0 l1 l2 l3 b s5
  else
    chk (zB 0) (some (some (.inl 0), s5))) :=
  (zun_at (fun pc => (oL_law pc).1) E (fun q => Nat.beq q 18 || Nat.beq q 27 || Nat.beq q 204 || Nat.beq q 237 || Nat.beq q 280 || Nat.beq q 343 || Nat.beq q 366 || Nat.beq q 409 || Nat.beq q 452 || Nat.beq q 495 || Nat.beq q 528 || Nat.beq q 561 || Nat.beq q 584 || Nat.beq q 607 || Nat.beq q 630 || Nat.beq q 663 || Nat.beq q 738 || Nat.beq q 771 || Nat.beq q 794 || Nat.beq q 847 || Nat.beq q 890 || Nat.beq q 913 || Nat.beq q 926 || Nat.beq q 939 || Nat.beq q 982 || Nat.beq q 1005 || Nat.beq q 1028 || Nat.beq q 1051 || Nat.beq q 1064 || Nat.beq q 1107 || Nat.beq q 1130 || Nat.beq q 1153 || Nat.beq q 1166 || Nat.beq q 1209 || Nat.beq q 1232 || Nat.beq q 1255 || Nat.beq q 1268 || Nat.beq q 1291 || Nat.beq q 1314 || Nat.beq q 1327 || Nat.beq q 1350 || Nat.beq q 1373) 960 913 b [.inr (.inl l0), .inr (.inl l1), .inr (.inl l2), .inl l3] [] σ).trans rfl
set_option maxRecDepth 20000 in
theorem uL_law_926 (E : zE) (l0 : Option Nat) (l1 : Option Nat) (l2 : Option Nat) (l3 : Int32) (b : Nat × Nat) (σ : zS) : LL_law_926 E l0 l1 l2 l3 b σ =
  (onR l1 fun a1 =>
  chk (zkd σ a1 = 8) <|
  bnI (E mX10_loadStack [.inr (.inl l1)] σ) fun v3 s2 =>
  onR l2 fun a4 =>
  chk (zkd s2 a4 = 9) <|
  bnI (E mX11_loadStack [.inr (.inl l2)] s2) fun v6 s5 =>
  if (v3 : Int32) = v6 then
    LL_law_1373 E l0 l1 l2 l3 b s5
  else
    chk (zB 0) (some (some (.inl 0), s5))) :=
  (zun_at (fun pc => (oL_law pc).1) E (fun q => Nat.beq q 18 || Nat.beq q 27 || Nat.beq q 204 || Nat.beq q 237 || Nat.beq q 280 || Nat.beq q 343 || Nat.beq q 366 || Nat.beq q 409 || Nat.beq q 452 || Nat.beq q 495 || Nat.beq q 528 || Nat.beq q 561 || Nat.beq q 584 || Nat.beq q 607 || Nat.beq q 630 || Nat.beq q 663 || Nat.beq q 738 || Nat.beq q 771 || Nat.beq q 794 || Nat.beq q 847 || Nat.beq q 890 || Nat.beq q 913 || Nat.beq q 926 || Nat.beq q 939 || Nat.beq q 982 || Nat.beq q 1005 || Nat.beq q 1028 || Nat.beq q 1051 || Nat.beq q 1064 || Nat.beq q 1107 || Nat.beq q 1130 || Nat.beq q 1153 || Nat.beq q 1166 || Nat.beq q 1209 || Nat.beq q 1232 || Nat.beq q 1255 || Nat.beq q 1268 || Nat.beq q 1291 || Nat.beq q 1314 || Nat.beq q 1327 || Nat.beq q 1350 || Nat.beq q 1373) 960 926 b [.inr (.inl l0), .inr (.inl l1), .inr (.inl l2), .inl l3] [] σ).trans rfl
set_option maxRecDepth 20000 in
theorem uL_law_939 (E : zE) (l0 : Option Nat) (l1 : Option Nat) (l2 : Option Nat) (l3 : Int32) (b : Nat × Nat) (σ : zS) : LL_law_939 E l0 l1 l2 l3 b σ =
  (onR l0 fun a1 =>
  chk (zkd σ a1 = 16 ∧ zin (l3 + 1) (zln σ a1)) <|
  onR l0 fun a2 =>
  chk (zkd σ a2 = 16 ∧ zin (l3 + 2) (zln σ a2)) <|
  onR l0 fun a3 =>
  chk (zkd σ a3 = 16 ∧ zin (l3 + 3) (zln σ a3)) <|
  onR l1 fun a4 =>
  chk (zkd σ a4 = 8) <|
  bnI (E mX10_pixel [.inr (.inl l1), .inl (zai σ a1 (Int32.toNatClampNeg (l3 + 1))), .inl (zai σ a2 (Int32.toNatClampNeg (l3 + 2))), .inl (zai σ a3 (Int32.toNatClampNeg (l3 + 3)))] σ) fun v6 s5 =>
  onR l0 fun a7 =>
  chk (zkd s5 a7 = 16 ∧ zin (l3 + 1) (zln s5 a7)) <|
  onR l0 fun a8 =>
  chk (zkd s5 a8 = 16 ∧ zin (l3 + 2) (zln s5 a8)) <|
  onR l0 fun a9 =>
  chk (zkd s5 a9 = 16 ∧ zin (l3 + 3) (zln s5 a9)) <|
  onR l2 fun a10 =>
  chk (zkd s5 a10 = 9) <|
  bnI (E mX11_pixel [.inr (.inl l2), .inl (zai s5 a7 (Int32.toNatClampNeg (l3 + 1))), .inl (zai s5 a8 (Int32.toNatClampNeg (l3 + 2))), .inl (zai s5 a9 (Int32.toNatClampNeg (l3 + 3)))] s5) fun v12 s11 =>
  if (v6 : Int32) = v12 then
    LL_law_1373 E l0 l1 l2 l3 b s11
  else
    chk (zB 0) (some (some (.inl 0), s11))) :=
  (zun_at (fun pc => (oL_law pc).1) E (fun q => Nat.beq q 18 || Nat.beq q 27 || Nat.beq q 204 || Nat.beq q 237 || Nat.beq q 280 || Nat.beq q 343 || Nat.beq q 366 || Nat.beq q 409 || Nat.beq q 452 || Nat.beq q 495 || Nat.beq q 528 || Nat.beq q 561 || Nat.beq q 584 || Nat.beq q 607 || Nat.beq q 630 || Nat.beq q 663 || Nat.beq q 738 || Nat.beq q 771 || Nat.beq q 794 || Nat.beq q 847 || Nat.beq q 890 || Nat.beq q 913 || Nat.beq q 926 || Nat.beq q 939 || Nat.beq q 982 || Nat.beq q 1005 || Nat.beq q 1028 || Nat.beq q 1051 || Nat.beq q 1064 || Nat.beq q 1107 || Nat.beq q 1130 || Nat.beq q 1153 || Nat.beq q 1166 || Nat.beq q 1209 || Nat.beq q 1232 || Nat.beq q 1255 || Nat.beq q 1268 || Nat.beq q 1291 || Nat.beq q 1314 || Nat.beq q 1327 || Nat.beq q 1350 || Nat.beq q 1373) 960 939 b [.inr (.inl l0), .inr (.inl l1), .inr (.inl l2), .inl l3] [] σ).trans rfl
set_option maxRecDepth 20000 in
theorem uL_law_982 (E : zE) (l0 : Option Nat) (l1 : Option Nat) (l2 : Option Nat) (l3 : Int32) (b : Nat × Nat) (σ : zS) : LL_law_982 E l0 l1 l2 l3 b σ =
  (onR l0 fun a1 =>
  chk (zkd σ a1 = 16 ∧ zin (l3 + 1) (zln σ a1)) <|
  onR l1 fun a2 =>
  chk (zkd σ a2 = 8) <|
  bnI (E mX10_prefetch [.inr (.inl l1), .inl (zai σ a1 (Int32.toNatClampNeg (l3 + 1)))] σ) fun v4 s3 =>
  onR l0 fun a5 =>
  chk (zkd s3 a5 = 16 ∧ zin (l3 + 1) (zln s3 a5)) <|
  onR l2 fun a6 =>
  chk (zkd s3 a6 = 9) <|
  bnI (E mX11_prefetch [.inr (.inl l2), .inl (zai s3 a5 (Int32.toNatClampNeg (l3 + 1)))] s3) fun v8 s7 =>
  if (v4 : Int32) = v8 then
    LL_law_1373 E l0 l1 l2 l3 b s7
  else
    chk (zB 0) (some (some (.inl 0), s7))) :=
  (zun_at (fun pc => (oL_law pc).1) E (fun q => Nat.beq q 18 || Nat.beq q 27 || Nat.beq q 204 || Nat.beq q 237 || Nat.beq q 280 || Nat.beq q 343 || Nat.beq q 366 || Nat.beq q 409 || Nat.beq q 452 || Nat.beq q 495 || Nat.beq q 528 || Nat.beq q 561 || Nat.beq q 584 || Nat.beq q 607 || Nat.beq q 630 || Nat.beq q 663 || Nat.beq q 738 || Nat.beq q 771 || Nat.beq q 794 || Nat.beq q 847 || Nat.beq q 890 || Nat.beq q 913 || Nat.beq q 926 || Nat.beq q 939 || Nat.beq q 982 || Nat.beq q 1005 || Nat.beq q 1028 || Nat.beq q 1051 || Nat.beq q 1064 || Nat.beq q 1107 || Nat.beq q 1130 || Nat.beq q 1153 || Nat.beq q 1166 || Nat.beq q 1209 || Nat.beq q 1232 || Nat.beq q 1255 || Nat.beq q 1268 || Nat.beq q 1291 || Nat.beq q 1314 || Nat.beq q 1327 || Nat.beq q 1350 || Nat.beq q 1373) 960 982 b [.inr (.inl l0), .inr (.inl l1), .inr (.inl l2), .inl l3] [] σ).trans rfl
set_option maxRecDepth 20000 in
theorem uL_law_1005 (E : zE) (l0 : Option Nat) (l1 : Option Nat) (l2 : Option Nat) (l3 : Int32) (b : Nat × Nat) (σ : zS) : LL_law_1005 E l0 l1 l2 l3 b σ =
  (onR l0 fun a1 =>
  chk (zkd σ a1 = 16 ∧ zin (l3 + 1) (zln σ a1)) <|
  onR l1 fun a2 =>
  chk (zkd σ a2 = 8) <|
  bnI (E mX10_setCacheLimit [.inr (.inl l1), .inl (zai σ a1 (Int32.toNatClampNeg (l3 + 1)))] σ) fun v4 s3 =>
  onR l0 fun a5 =>
  chk (zkd s3 a5 = 16 ∧ zin (l3 + 1) (zln s3 a5)) <|
  onR l2 fun a6 =>
  chk (zkd s3 a6 = 9) <|
  bnI (E mX11_setCacheLimit [.inr (.inl l2), .inl (zai s3 a5 (Int32.toNatClampNeg (l3 + 1)))] s3) fun v8 s7 =>
  if (v4 : Int32) = v8 then
    LL_law_1373 E l0 l1 l2 l3 b s7
  else
    chk (zB 0) (some (some (.inl 0), s7))) :=
  (zun_at (fun pc => (oL_law pc).1) E (fun q => Nat.beq q 18 || Nat.beq q 27 || Nat.beq q 204 || Nat.beq q 237 || Nat.beq q 280 || Nat.beq q 343 || Nat.beq q 366 || Nat.beq q 409 || Nat.beq q 452 || Nat.beq q 495 || Nat.beq q 528 || Nat.beq q 561 || Nat.beq q 584 || Nat.beq q 607 || Nat.beq q 630 || Nat.beq q 663 || Nat.beq q 738 || Nat.beq q 771 || Nat.beq q 794 || Nat.beq q 847 || Nat.beq q 890 || Nat.beq q 913 || Nat.beq q 926 || Nat.beq q 939 || Nat.beq q 982 || Nat.beq q 1005 || Nat.beq q 1028 || Nat.beq q 1051 || Nat.beq q 1064 || Nat.beq q 1107 || Nat.beq q 1130 || Nat.beq q 1153 || Nat.beq q 1166 || Nat.beq q 1209 || Nat.beq q 1232 || Nat.beq q 1255 || Nat.beq q 1268 || Nat.beq q 1291 || Nat.beq q 1314 || Nat.beq q 1327 || Nat.beq q 1350 || Nat.beq q 1373) 960 1005 b [.inr (.inl l0), .inr (.inl l1), .inr (.inl l2), .inl l3] [] σ).trans rfl
set_option maxRecDepth 20000 in
theorem uL_law_1028 (E : zE) (l0 : Option Nat) (l1 : Option Nat) (l2 : Option Nat) (l3 : Int32) (b : Nat × Nat) (σ : zS) : LL_law_1028 E l0 l1 l2 l3 b σ =
  (onR l0 fun a1 =>
  chk (zkd σ a1 = 16 ∧ zin (l3 + 1) (zln σ a1)) <|
  onR l1 fun a2 =>
  chk (zkd σ a2 = 8) <|
  bnI (E mX10_setTileSize [.inr (.inl l1), .inl (zai σ a1 (Int32.toNatClampNeg (l3 + 1)))] σ) fun v4 s3 =>
  onR l0 fun a5 =>
  chk (zkd s3 a5 = 16 ∧ zin (l3 + 1) (zln s3 a5)) <|
  onR l2 fun a6 =>
  chk (zkd s3 a6 = 9) <|
  bnI (E mX11_setTileSize [.inr (.inl l2), .inl (zai s3 a5 (Int32.toNatClampNeg (l3 + 1)))] s3) fun v8 s7 =>
  if (v4 : Int32) = v8 then
    LL_law_1373 E l0 l1 l2 l3 b s7
  else
    chk (zB 0) (some (some (.inl 0), s7))) :=
  (zun_at (fun pc => (oL_law pc).1) E (fun q => Nat.beq q 18 || Nat.beq q 27 || Nat.beq q 204 || Nat.beq q 237 || Nat.beq q 280 || Nat.beq q 343 || Nat.beq q 366 || Nat.beq q 409 || Nat.beq q 452 || Nat.beq q 495 || Nat.beq q 528 || Nat.beq q 561 || Nat.beq q 584 || Nat.beq q 607 || Nat.beq q 630 || Nat.beq q 663 || Nat.beq q 738 || Nat.beq q 771 || Nat.beq q 794 || Nat.beq q 847 || Nat.beq q 890 || Nat.beq q 913 || Nat.beq q 926 || Nat.beq q 939 || Nat.beq q 982 || Nat.beq q 1005 || Nat.beq q 1028 || Nat.beq q 1051 || Nat.beq q 1064 || Nat.beq q 1107 || Nat.beq q 1130 || Nat.beq q 1153 || Nat.beq q 1166 || Nat.beq q 1209 || Nat.beq q 1232 || Nat.beq q 1255 || Nat.beq q 1268 || Nat.beq q 1291 || Nat.beq q 1314 || Nat.beq q 1327 || Nat.beq q 1350 || Nat.beq q 1373) 960 1028 b [.inr (.inl l0), .inr (.inl l1), .inr (.inl l2), .inl l3] [] σ).trans rfl
set_option maxRecDepth 20000 in
theorem uL_law_1051 (E : zE) (l0 : Option Nat) (l1 : Option Nat) (l2 : Option Nat) (l3 : Int32) (b : Nat × Nat) (σ : zS) : LL_law_1051 E l0 l1 l2 l3 b σ =
  (onR l1 fun a1 =>
  chk (zkd σ a1 = 8) <|
  bnI (E mX10_clearCache [.inr (.inl l1)] σ) fun v3 s2 =>
  onR l2 fun a4 =>
  chk (zkd s2 a4 = 9) <|
  bnI (E mX11_clearCache [.inr (.inl l2)] s2) fun v6 s5 =>
  if (v3 : Int32) = v6 then
    LL_law_1373 E l0 l1 l2 l3 b s5
  else
    chk (zB 0) (some (some (.inl 0), s5))) :=
  (zun_at (fun pc => (oL_law pc).1) E (fun q => Nat.beq q 18 || Nat.beq q 27 || Nat.beq q 204 || Nat.beq q 237 || Nat.beq q 280 || Nat.beq q 343 || Nat.beq q 366 || Nat.beq q 409 || Nat.beq q 452 || Nat.beq q 495 || Nat.beq q 528 || Nat.beq q 561 || Nat.beq q 584 || Nat.beq q 607 || Nat.beq q 630 || Nat.beq q 663 || Nat.beq q 738 || Nat.beq q 771 || Nat.beq q 794 || Nat.beq q 847 || Nat.beq q 890 || Nat.beq q 913 || Nat.beq q 926 || Nat.beq q 939 || Nat.beq q 982 || Nat.beq q 1005 || Nat.beq q 1028 || Nat.beq q 1051 || Nat.beq q 1064 || Nat.beq q 1107 || Nat.beq q 1130 || Nat.beq q 1153 || Nat.beq q 1166 || Nat.beq q 1209 || Nat.beq q 1232 || Nat.beq q 1255 || Nat.beq q 1268 || Nat.beq q 1291 || Nat.beq q 1314 || Nat.beq q 1327 || Nat.beq q 1350 || Nat.beq q 1373) 960 1051 b [.inr (.inl l0), .inr (.inl l1), .inr (.inl l2), .inl l3] [] σ).trans rfl
set_option maxRecDepth 20000 in
theorem uL_law_1064 (E : zE) (l0 : Option Nat) (l1 : Option Nat) (l2 : Option Nat) (l3 : Int32) (b : Nat × Nat) (σ : zS) : LL_law_1064 E l0 l1 l2 l3 b σ =
  (onR l0 fun a1 =>
  chk (zkd σ a1 = 16 ∧ zin (l3 + 1) (zln σ a1)) <|
  onR l0 fun a2 =>
  chk (zkd σ a2 = 16 ∧ zin (l3 + 2) (zln σ a2)) <|
  onR l0 fun a3 =>
  chk (zkd σ a3 = 16 ∧ zin (l3 + 3) (zln σ a3)) <|
  onR l1 fun a4 =>
  chk (zkd σ a4 = 8) <|
  bnI (E mX10_isCached [.inr (.inl l1), .inl (zai σ a1 (Int32.toNatClampNeg (l3 + 1))), .inl (zai σ a2 (Int32.toNatClampNeg (l3 + 2))), .inl (zai σ a3 (Int32.toNatClampNeg (l3 + 3)))] σ) fun v6 s5 =>
  onR l0 fun a7 =>
  chk (zkd s5 a7 = 16 ∧ zin (l3 + 1) (zln s5 a7)) <|
  onR l0 fun a8 =>
  chk (zkd s5 a8 = 16 ∧ zin (l3 + 2) (zln s5 a8)) <|
  onR l0 fun a9 =>
  chk (zkd s5 a9 = 16 ∧ zin (l3 + 3) (zln s5 a9)) <|
  onR l2 fun a10 =>
  chk (zkd s5 a10 = 9) <|
  bnI (E mX11_isCached [.inr (.inl l2), .inl (zai s5 a7 (Int32.toNatClampNeg (l3 + 1))), .inl (zai s5 a8 (Int32.toNatClampNeg (l3 + 2))), .inl (zai s5 a9 (Int32.toNatClampNeg (l3 + 3)))] s5) fun v12 s11 =>
  if (v6 : Int32) = v12 then
    LL_law_1373 E l0 l1 l2 l3 b s11
  else
    chk (zB 0) (some (some (.inl 0), s11))) :=
  (zun_at (fun pc => (oL_law pc).1) E (fun q => Nat.beq q 18 || Nat.beq q 27 || Nat.beq q 204 || Nat.beq q 237 || Nat.beq q 280 || Nat.beq q 343 || Nat.beq q 366 || Nat.beq q 409 || Nat.beq q 452 || Nat.beq q 495 || Nat.beq q 528 || Nat.beq q 561 || Nat.beq q 584 || Nat.beq q 607 || Nat.beq q 630 || Nat.beq q 663 || Nat.beq q 738 || Nat.beq q 771 || Nat.beq q 794 || Nat.beq q 847 || Nat.beq q 890 || Nat.beq q 913 || Nat.beq q 926 || Nat.beq q 939 || Nat.beq q 982 || Nat.beq q 1005 || Nat.beq q 1028 || Nat.beq q 1051 || Nat.beq q 1064 || Nat.beq q 1107 || Nat.beq q 1130 || Nat.beq q 1153 || Nat.beq q 1166 || Nat.beq q 1209 || Nat.beq q 1232 || Nat.beq q 1255 || Nat.beq q 1268 || Nat.beq q 1291 || Nat.beq q 1314 || Nat.beq q 1327 || Nat.beq q 1350 || Nat.beq q 1373) 960 1064 b [.inr (.inl l0), .inr (.inl l1), .inr (.inl l2), .inl l3] [] σ).trans rfl
set_option maxRecDepth 20000 in
theorem uL_law_1107 (E : zE) (l0 : Option Nat) (l1 : Option Nat) (l2 : Option Nat) (l3 : Int32) (b : Nat × Nat) (σ : zS) : LL_law_1107 E l0 l1 l2 l3 b σ =
  (onR l0 fun a1 =>
  chk (zkd σ a1 = 16 ∧ zin (l3 + 1) (zln σ a1)) <|
  onR l1 fun a2 =>
  chk (zkd σ a2 = 8) <|
  bnI (E mX10_cachedTiles [.inr (.inl l1), .inl (zai σ a1 (Int32.toNatClampNeg (l3 + 1)))] σ) fun v4 s3 =>
  onR l0 fun a5 =>
  chk (zkd s3 a5 = 16 ∧ zin (l3 + 1) (zln s3 a5)) <|
  onR l2 fun a6 =>
  chk (zkd s3 a6 = 9) <|
  bnI (E mX11_cachedTiles [.inr (.inl l2), .inl (zai s3 a5 (Int32.toNatClampNeg (l3 + 1)))] s3) fun v8 s7 =>
  if (v4 : Int32) = v8 then
    LL_law_1373 E l0 l1 l2 l3 b s7
  else
    chk (zB 0) (some (some (.inl 0), s7))) :=
  (zun_at (fun pc => (oL_law pc).1) E (fun q => Nat.beq q 18 || Nat.beq q 27 || Nat.beq q 204 || Nat.beq q 237 || Nat.beq q 280 || Nat.beq q 343 || Nat.beq q 366 || Nat.beq q 409 || Nat.beq q 452 || Nat.beq q 495 || Nat.beq q 528 || Nat.beq q 561 || Nat.beq q 584 || Nat.beq q 607 || Nat.beq q 630 || Nat.beq q 663 || Nat.beq q 738 || Nat.beq q 771 || Nat.beq q 794 || Nat.beq q 847 || Nat.beq q 890 || Nat.beq q 913 || Nat.beq q 926 || Nat.beq q 939 || Nat.beq q 982 || Nat.beq q 1005 || Nat.beq q 1028 || Nat.beq q 1051 || Nat.beq q 1064 || Nat.beq q 1107 || Nat.beq q 1130 || Nat.beq q 1153 || Nat.beq q 1166 || Nat.beq q 1209 || Nat.beq q 1232 || Nat.beq q 1255 || Nat.beq q 1268 || Nat.beq q 1291 || Nat.beq q 1314 || Nat.beq q 1327 || Nat.beq q 1350 || Nat.beq q 1373) 960 1107 b [.inr (.inl l0), .inr (.inl l1), .inr (.inl l2), .inl l3] [] σ).trans rfl
set_option maxRecDepth 20000 in
theorem uL_law_1130 (E : zE) (l0 : Option Nat) (l1 : Option Nat) (l2 : Option Nat) (l3 : Int32) (b : Nat × Nat) (σ : zS) : LL_law_1130 E l0 l1 l2 l3 b σ =
  (onR l0 fun a1 =>
  chk (zkd σ a1 = 16 ∧ zin (l3 + 1) (zln σ a1)) <|
  onR l1 fun a2 =>
  chk (zkd σ a2 = 8) <|
  bnI (E mX10_counter [.inr (.inl l1), .inl (zai σ a1 (Int32.toNatClampNeg (l3 + 1)))] σ) fun v4 s3 =>
  onR l0 fun a5 =>
  chk (zkd s3 a5 = 16 ∧ zin (l3 + 1) (zln s3 a5)) <|
  onR l2 fun a6 =>
  chk (zkd s3 a6 = 9) <|
  bnI (E mX11_counter [.inr (.inl l2), .inl (zai s3 a5 (Int32.toNatClampNeg (l3 + 1)))] s3) fun v8 s7 =>
  if (v4 : Int32) = v8 then
    LL_law_1373 E l0 l1 l2 l3 b s7
  else
    chk (zB 0) (some (some (.inl 0), s7))) :=
  (zun_at (fun pc => (oL_law pc).1) E (fun q => Nat.beq q 18 || Nat.beq q 27 || Nat.beq q 204 || Nat.beq q 237 || Nat.beq q 280 || Nat.beq q 343 || Nat.beq q 366 || Nat.beq q 409 || Nat.beq q 452 || Nat.beq q 495 || Nat.beq q 528 || Nat.beq q 561 || Nat.beq q 584 || Nat.beq q 607 || Nat.beq q 630 || Nat.beq q 663 || Nat.beq q 738 || Nat.beq q 771 || Nat.beq q 794 || Nat.beq q 847 || Nat.beq q 890 || Nat.beq q 913 || Nat.beq q 926 || Nat.beq q 939 || Nat.beq q 982 || Nat.beq q 1005 || Nat.beq q 1028 || Nat.beq q 1051 || Nat.beq q 1064 || Nat.beq q 1107 || Nat.beq q 1130 || Nat.beq q 1153 || Nat.beq q 1166 || Nat.beq q 1209 || Nat.beq q 1232 || Nat.beq q 1255 || Nat.beq q 1268 || Nat.beq q 1291 || Nat.beq q 1314 || Nat.beq q 1327 || Nat.beq q 1350 || Nat.beq q 1373) 960 1130 b [.inr (.inl l0), .inr (.inl l1), .inr (.inl l2), .inl l3] [] σ).trans rfl
set_option maxRecDepth 20000 in
theorem uL_law_1153 (E : zE) (l0 : Option Nat) (l1 : Option Nat) (l2 : Option Nat) (l3 : Int32) (b : Nat × Nat) (σ : zS) : LL_law_1153 E l0 l1 l2 l3 b σ =
  (onR l1 fun a1 =>
  chk (zkd σ a1 = 8) <|
  bnI (E mX10_oldestTile [.inr (.inl l1)] σ) fun v3 s2 =>
  onR l2 fun a4 =>
  chk (zkd s2 a4 = 9) <|
  bnI (E mX11_oldestTile [.inr (.inl l2)] s2) fun v6 s5 =>
  if (v3 : Int32) = v6 then
    LL_law_1373 E l0 l1 l2 l3 b s5
  else
    chk (zB 0) (some (some (.inl 0), s5))) :=
  (zun_at (fun pc => (oL_law pc).1) E (fun q => Nat.beq q 18 || Nat.beq q 27 || Nat.beq q 204 || Nat.beq q 237 || Nat.beq q 280 || Nat.beq q 343 || Nat.beq q 366 || Nat.beq q 409 || Nat.beq q 452 || Nat.beq q 495 || Nat.beq q 528 || Nat.beq q 561 || Nat.beq q 584 || Nat.beq q 607 || Nat.beq q 630 || Nat.beq q 663 || Nat.beq q 738 || Nat.beq q 771 || Nat.beq q 794 || Nat.beq q 847 || Nat.beq q 890 || Nat.beq q 913 || Nat.beq q 926 || Nat.beq q 939 || Nat.beq q 982 || Nat.beq q 1005 || Nat.beq q 1028 || Nat.beq q 1051 || Nat.beq q 1064 || Nat.beq q 1107 || Nat.beq q 1130 || Nat.beq q 1153 || Nat.beq q 1166 || Nat.beq q 1209 || Nat.beq q 1232 || Nat.beq q 1255 || Nat.beq q 1268 || Nat.beq q 1291 || Nat.beq q 1314 || Nat.beq q 1327 || Nat.beq q 1350 || Nat.beq q 1373) 960 1153 b [.inr (.inl l0), .inr (.inl l1), .inr (.inl l2), .inl l3] [] σ).trans rfl
set_option maxRecDepth 20000 in
theorem uL_law_1166 (E : zE) (l0 : Option Nat) (l1 : Option Nat) (l2 : Option Nat) (l3 : Int32) (b : Nat × Nat) (σ : zS) : LL_law_1166 E l0 l1 l2 l3 b σ =
  (onR l0 fun a1 =>
  chk (zkd σ a1 = 16 ∧ zin (l3 + 1) (zln σ a1)) <|
  onR l0 fun a2 =>
  chk (zkd σ a2 = 16 ∧ zin (l3 + 2) (zln σ a2)) <|
  onR l0 fun a3 =>
  chk (zkd σ a3 = 16 ∧ zin (l3 + 3) (zln σ a3)) <|
  onR l1 fun a4 =>
  chk (zkd σ a4 = 8) <|
  bnI (E mX10_histogram [.inr (.inl l1), .inl (zai σ a1 (Int32.toNatClampNeg (l3 + 1))), .inl (zai σ a2 (Int32.toNatClampNeg (l3 + 2))), .inl (zai σ a3 (Int32.toNatClampNeg (l3 + 3)))] σ) fun v6 s5 =>
  onR l0 fun a7 =>
  chk (zkd s5 a7 = 16 ∧ zin (l3 + 1) (zln s5 a7)) <|
  onR l0 fun a8 =>
  chk (zkd s5 a8 = 16 ∧ zin (l3 + 2) (zln s5 a8)) <|
  onR l0 fun a9 =>
  chk (zkd s5 a9 = 16 ∧ zin (l3 + 3) (zln s5 a9)) <|
  onR l2 fun a10 =>
  chk (zkd s5 a10 = 9) <|
  bnI (E mX11_histogram [.inr (.inl l2), .inl (zai s5 a7 (Int32.toNatClampNeg (l3 + 1))), .inl (zai s5 a8 (Int32.toNatClampNeg (l3 + 2))), .inl (zai s5 a9 (Int32.toNatClampNeg (l3 + 3)))] s5) fun v12 s11 =>
  if (v6 : Int32) = v12 then
    LL_law_1373 E l0 l1 l2 l3 b s11
  else
    chk (zB 0) (some (some (.inl 0), s11))) :=
  (zun_at (fun pc => (oL_law pc).1) E (fun q => Nat.beq q 18 || Nat.beq q 27 || Nat.beq q 204 || Nat.beq q 237 || Nat.beq q 280 || Nat.beq q 343 || Nat.beq q 366 || Nat.beq q 409 || Nat.beq q 452 || Nat.beq q 495 || Nat.beq q 528 || Nat.beq q 561 || Nat.beq q 584 || Nat.beq q 607 || Nat.beq q 630 || Nat.beq q 663 || Nat.beq q 738 || Nat.beq q 771 || Nat.beq q 794 || Nat.beq q 847 || Nat.beq q 890 || Nat.beq q 913 || Nat.beq q 926 || Nat.beq q 939 || Nat.beq q 982 || Nat.beq q 1005 || Nat.beq q 1028 || Nat.beq q 1051 || Nat.beq q 1064 || Nat.beq q 1107 || Nat.beq q 1130 || Nat.beq q 1153 || Nat.beq q 1166 || Nat.beq q 1209 || Nat.beq q 1232 || Nat.beq q 1255 || Nat.beq q 1268 || Nat.beq q 1291 || Nat.beq q 1314 || Nat.beq q 1327 || Nat.beq q 1350 || Nat.beq q 1373) 960 1166 b [.inr (.inl l0), .inr (.inl l1), .inr (.inl l2), .inl l3] [] σ).trans rfl
set_option maxRecDepth 20000 in
theorem uL_law_1209 (E : zE) (l0 : Option Nat) (l1 : Option Nat) (l2 : Option Nat) (l3 : Int32) (b : Nat × Nat) (σ : zS) : LL_law_1209 E l0 l1 l2 l3 b σ =
  (onR l0 fun a1 =>
  chk (zkd σ a1 = 16 ∧ zin (l3 + 1) (zln σ a1)) <|
  onR l1 fun a2 =>
  chk (zkd σ a2 = 8) <|
  bnI (E mX10_sum [.inr (.inl l1), .inl (zai σ a1 (Int32.toNatClampNeg (l3 + 1)))] σ) fun v4 s3 =>
  onR l0 fun a5 =>
  chk (zkd s3 a5 = 16 ∧ zin (l3 + 1) (zln s3 a5)) <|
  onR l2 fun a6 =>
  chk (zkd s3 a6 = 9) <|
  bnI (E mX11_sum [.inr (.inl l2), .inl (zai s3 a5 (Int32.toNatClampNeg (l3 + 1)))] s3) fun v8 s7 =>
  if (v4 : Int32) = v8 then
    LL_law_1373 E l0 l1 l2 l3 b s7
  else
    chk (zB 0) (some (some (.inl 0), s7))) :=
  (zun_at (fun pc => (oL_law pc).1) E (fun q => Nat.beq q 18 || Nat.beq q 27 || Nat.beq q 204 || Nat.beq q 237 || Nat.beq q 280 || Nat.beq q 343 || Nat.beq q 366 || Nat.beq q 409 || Nat.beq q 452 || Nat.beq q 495 || Nat.beq q 528 || Nat.beq q 561 || Nat.beq q 584 || Nat.beq q 607 || Nat.beq q 630 || Nat.beq q 663 || Nat.beq q 738 || Nat.beq q 771 || Nat.beq q 794 || Nat.beq q 847 || Nat.beq q 890 || Nat.beq q 913 || Nat.beq q 926 || Nat.beq q 939 || Nat.beq q 982 || Nat.beq q 1005 || Nat.beq q 1028 || Nat.beq q 1051 || Nat.beq q 1064 || Nat.beq q 1107 || Nat.beq q 1130 || Nat.beq q 1153 || Nat.beq q 1166 || Nat.beq q 1209 || Nat.beq q 1232 || Nat.beq q 1255 || Nat.beq q 1268 || Nat.beq q 1291 || Nat.beq q 1314 || Nat.beq q 1327 || Nat.beq q 1350 || Nat.beq q 1373) 960 1209 b [.inr (.inl l0), .inr (.inl l1), .inr (.inl l2), .inl l3] [] σ).trans rfl
set_option maxRecDepth 20000 in
theorem uL_law_1232 (E : zE) (l0 : Option Nat) (l1 : Option Nat) (l2 : Option Nat) (l3 : Int32) (b : Nat × Nat) (σ : zS) : LL_law_1232 E l0 l1 l2 l3 b σ =
  (onR l0 fun a1 =>
  chk (zkd σ a1 = 16 ∧ zin (l3 + 1) (zln σ a1)) <|
  onR l1 fun a2 =>
  chk (zkd σ a2 = 8) <|
  bnI (E mX10_effect [.inr (.inl l1), .inl (zai σ a1 (Int32.toNatClampNeg (l3 + 1)))] σ) fun v4 s3 =>
  onR l0 fun a5 =>
  chk (zkd s3 a5 = 16 ∧ zin (l3 + 1) (zln s3 a5)) <|
  onR l2 fun a6 =>
  chk (zkd s3 a6 = 9) <|
  bnI (E mX11_effect [.inr (.inl l2), .inl (zai s3 a5 (Int32.toNatClampNeg (l3 + 1)))] s3) fun v8 s7 =>
  if (v4 : Int32) = v8 then
    LL_law_1373 E l0 l1 l2 l3 b s7
  else
    chk (zB 0) (some (some (.inl 0), s7))) :=
  (zun_at (fun pc => (oL_law pc).1) E (fun q => Nat.beq q 18 || Nat.beq q 27 || Nat.beq q 204 || Nat.beq q 237 || Nat.beq q 280 || Nat.beq q 343 || Nat.beq q 366 || Nat.beq q 409 || Nat.beq q 452 || Nat.beq q 495 || Nat.beq q 528 || Nat.beq q 561 || Nat.beq q 584 || Nat.beq q 607 || Nat.beq q 630 || Nat.beq q 663 || Nat.beq q 738 || Nat.beq q 771 || Nat.beq q 794 || Nat.beq q 847 || Nat.beq q 890 || Nat.beq q 913 || Nat.beq q 926 || Nat.beq q 939 || Nat.beq q 982 || Nat.beq q 1005 || Nat.beq q 1028 || Nat.beq q 1051 || Nat.beq q 1064 || Nat.beq q 1107 || Nat.beq q 1130 || Nat.beq q 1153 || Nat.beq q 1166 || Nat.beq q 1209 || Nat.beq q 1232 || Nat.beq q 1255 || Nat.beq q 1268 || Nat.beq q 1291 || Nat.beq q 1314 || Nat.beq q 1327 || Nat.beq q 1350 || Nat.beq q 1373) 960 1232 b [.inr (.inl l0), .inr (.inl l1), .inr (.inl l2), .inl l3] [] σ).trans rfl
set_option maxRecDepth 20000 in
theorem uL_law_1255 (E : zE) (l0 : Option Nat) (l1 : Option Nat) (l2 : Option Nat) (l3 : Int32) (b : Nat × Nat) (σ : zS) : LL_law_1255 E l0 l1 l2 l3 b σ =
  (onR l1 fun a1 =>
  chk (zkd σ a1 = 8) <|
  bnI (E mX10_strongestLayer [.inr (.inl l1)] σ) fun v3 s2 =>
  onR l2 fun a4 =>
  chk (zkd s2 a4 = 9) <|
  bnI (E mX11_strongestLayer [.inr (.inl l2)] s2) fun v6 s5 =>
  if (v3 : Int32) = v6 then
    LL_law_1373 E l0 l1 l2 l3 b s5
  else
    chk (zB 0) (some (some (.inl 0), s5))) :=
  (zun_at (fun pc => (oL_law pc).1) E (fun q => Nat.beq q 18 || Nat.beq q 27 || Nat.beq q 204 || Nat.beq q 237 || Nat.beq q 280 || Nat.beq q 343 || Nat.beq q 366 || Nat.beq q 409 || Nat.beq q 452 || Nat.beq q 495 || Nat.beq q 528 || Nat.beq q 561 || Nat.beq q 584 || Nat.beq q 607 || Nat.beq q 630 || Nat.beq q 663 || Nat.beq q 738 || Nat.beq q 771 || Nat.beq q 794 || Nat.beq q 847 || Nat.beq q 890 || Nat.beq q 913 || Nat.beq q 926 || Nat.beq q 939 || Nat.beq q 982 || Nat.beq q 1005 || Nat.beq q 1028 || Nat.beq q 1051 || Nat.beq q 1064 || Nat.beq q 1107 || Nat.beq q 1130 || Nat.beq q 1153 || Nat.beq q 1166 || Nat.beq q 1209 || Nat.beq q 1232 || Nat.beq q 1255 || Nat.beq q 1268 || Nat.beq q 1291 || Nat.beq q 1314 || Nat.beq q 1327 || Nat.beq q 1350 || Nat.beq q 1373) 960 1255 b [.inr (.inl l0), .inr (.inl l1), .inr (.inl l2), .inl l3] [] σ).trans rfl
set_option maxRecDepth 20000 in
theorem uL_law_1268 (E : zE) (l0 : Option Nat) (l1 : Option Nat) (l2 : Option Nat) (l3 : Int32) (b : Nat × Nat) (σ : zS) : LL_law_1268 E l0 l1 l2 l3 b σ =
  (onR l0 fun a1 =>
  chk (zkd σ a1 = 16 ∧ zin (l3 + 1) (zln σ a1)) <|
  onR l1 fun a2 =>
  chk (zkd σ a2 = 8) <|
  bnI (E mX10_exchangeDifference [.inr (.inl l1), .inl (zai σ a1 (Int32.toNatClampNeg (l3 + 1)))] σ) fun v4 s3 =>
  onR l0 fun a5 =>
  chk (zkd s3 a5 = 16 ∧ zin (l3 + 1) (zln s3 a5)) <|
  onR l2 fun a6 =>
  chk (zkd s3 a6 = 9) <|
  bnI (E mX11_exchangeDifference [.inr (.inl l2), .inl (zai s3 a5 (Int32.toNatClampNeg (l3 + 1)))] s3) fun v8 s7 =>
  if (v4 : Int32) = v8 then
    LL_law_1373 E l0 l1 l2 l3 b s7
  else
    chk (zB 0) (some (some (.inl 0), s7))) :=
  (zun_at (fun pc => (oL_law pc).1) E (fun q => Nat.beq q 18 || Nat.beq q 27 || Nat.beq q 204 || Nat.beq q 237 || Nat.beq q 280 || Nat.beq q 343 || Nat.beq q 366 || Nat.beq q 409 || Nat.beq q 452 || Nat.beq q 495 || Nat.beq q 528 || Nat.beq q 561 || Nat.beq q 584 || Nat.beq q 607 || Nat.beq q 630 || Nat.beq q 663 || Nat.beq q 738 || Nat.beq q 771 || Nat.beq q 794 || Nat.beq q 847 || Nat.beq q 890 || Nat.beq q 913 || Nat.beq q 926 || Nat.beq q 939 || Nat.beq q 982 || Nat.beq q 1005 || Nat.beq q 1028 || Nat.beq q 1051 || Nat.beq q 1064 || Nat.beq q 1107 || Nat.beq q 1130 || Nat.beq q 1153 || Nat.beq q 1166 || Nat.beq q 1209 || Nat.beq q 1232 || Nat.beq q 1255 || Nat.beq q 1268 || Nat.beq q 1291 || Nat.beq q 1314 || Nat.beq q 1327 || Nat.beq q 1350 || Nat.beq q 1373) 960 1268 b [.inr (.inl l0), .inr (.inl l1), .inr (.inl l2), .inl l3] [] σ).trans rfl
set_option maxRecDepth 20000 in
theorem uL_law_1291 (E : zE) (l0 : Option Nat) (l1 : Option Nat) (l2 : Option Nat) (l3 : Int32) (b : Nat × Nat) (σ : zS) : LL_law_1291 E l0 l1 l2 l3 b σ =
  (onR l0 fun a1 =>
  chk (zkd σ a1 = 16 ∧ zin (l3 + 1) (zln σ a1)) <|
  onR l1 fun a2 =>
  chk (zkd σ a2 = 8) <|
  bnI (E mX10_snapshotDifference [.inr (.inl l1), .inl (zai σ a1 (Int32.toNatClampNeg (l3 + 1)))] σ) fun v4 s3 =>
  onR l0 fun a5 =>
  chk (zkd s3 a5 = 16 ∧ zin (l3 + 1) (zln s3 a5)) <|
  onR l2 fun a6 =>
  chk (zkd s3 a6 = 9) <|
  bnI (E mX11_snapshotDifference [.inr (.inl l2), .inl (zai s3 a5 (Int32.toNatClampNeg (l3 + 1)))] s3) fun v8 s7 =>
  if (v4 : Int32) = v8 then
    LL_law_1373 E l0 l1 l2 l3 b s7
  else
    chk (zB 0) (some (some (.inl 0), s7))) :=
  (zun_at (fun pc => (oL_law pc).1) E (fun q => Nat.beq q 18 || Nat.beq q 27 || Nat.beq q 204 || Nat.beq q 237 || Nat.beq q 280 || Nat.beq q 343 || Nat.beq q 366 || Nat.beq q 409 || Nat.beq q 452 || Nat.beq q 495 || Nat.beq q 528 || Nat.beq q 561 || Nat.beq q 584 || Nat.beq q 607 || Nat.beq q 630 || Nat.beq q 663 || Nat.beq q 738 || Nat.beq q 771 || Nat.beq q 794 || Nat.beq q 847 || Nat.beq q 890 || Nat.beq q 913 || Nat.beq q 926 || Nat.beq q 939 || Nat.beq q 982 || Nat.beq q 1005 || Nat.beq q 1028 || Nat.beq q 1051 || Nat.beq q 1064 || Nat.beq q 1107 || Nat.beq q 1130 || Nat.beq q 1153 || Nat.beq q 1166 || Nat.beq q 1209 || Nat.beq q 1232 || Nat.beq q 1255 || Nat.beq q 1268 || Nat.beq q 1291 || Nat.beq q 1314 || Nat.beq q 1327 || Nat.beq q 1350 || Nat.beq q 1373) 960 1291 b [.inr (.inl l0), .inr (.inl l1), .inr (.inl l2), .inl l3] [] σ).trans rfl
set_option maxRecDepth 20000 in
theorem uL_law_1314 (E : zE) (l0 : Option Nat) (l1 : Option Nat) (l2 : Option Nat) (l3 : Int32) (b : Nat × Nat) (σ : zS) : LL_law_1314 E l0 l1 l2 l3 b σ =
  (onR l1 fun a1 =>
  chk (zkd σ a1 = 8) <|
  bnI (E mX10_undo [.inr (.inl l1)] σ) fun v3 s2 =>
  onR l2 fun a4 =>
  chk (zkd s2 a4 = 9) <|
  bnI (E mX11_undo [.inr (.inl l2)] s2) fun v6 s5 =>
  if (v3 : Int32) = v6 then
    LL_law_1373 E l0 l1 l2 l3 b s5
  else
    chk (zB 0) (some (some (.inl 0), s5))) :=
  (zun_at (fun pc => (oL_law pc).1) E (fun q => Nat.beq q 18 || Nat.beq q 27 || Nat.beq q 204 || Nat.beq q 237 || Nat.beq q 280 || Nat.beq q 343 || Nat.beq q 366 || Nat.beq q 409 || Nat.beq q 452 || Nat.beq q 495 || Nat.beq q 528 || Nat.beq q 561 || Nat.beq q 584 || Nat.beq q 607 || Nat.beq q 630 || Nat.beq q 663 || Nat.beq q 738 || Nat.beq q 771 || Nat.beq q 794 || Nat.beq q 847 || Nat.beq q 890 || Nat.beq q 913 || Nat.beq q 926 || Nat.beq q 939 || Nat.beq q 982 || Nat.beq q 1005 || Nat.beq q 1028 || Nat.beq q 1051 || Nat.beq q 1064 || Nat.beq q 1107 || Nat.beq q 1130 || Nat.beq q 1153 || Nat.beq q 1166 || Nat.beq q 1209 || Nat.beq q 1232 || Nat.beq q 1255 || Nat.beq q 1268 || Nat.beq q 1291 || Nat.beq q 1314 || Nat.beq q 1327 || Nat.beq q 1350 || Nat.beq q 1373) 960 1314 b [.inr (.inl l0), .inr (.inl l1), .inr (.inl l2), .inl l3] [] σ).trans rfl
set_option maxRecDepth 20000 in
theorem uL_law_1327 (E : zE) (l0 : Option Nat) (l1 : Option Nat) (l2 : Option Nat) (l3 : Int32) (b : Nat × Nat) (σ : zS) : LL_law_1327 E l0 l1 l2 l3 b σ =
  (onR l0 fun a1 =>
  chk (zkd σ a1 = 16 ∧ zin (l3 + 1) (zln σ a1)) <|
  onR l1 fun a2 =>
  chk (zkd σ a2 = 8) <|
  zgd (zfit b (28, 542) && true) <|
  bnI (E mX10_save [.inr (.inl l1), .inl (zai σ a1 (Int32.toNatClampNeg (l3 + 1)))] σ) fun v4 s3 =>
  onR l0 fun a5 =>
  chk (zkd s3 a5 = 16 ∧ zin (l3 + 1) (zln s3 a5)) <|
  onR l2 fun a6 =>
  chk (zkd s3 a6 = 9) <|
  bnI (E mX11_save [.inr (.inl l2), .inl (zai s3 a5 (Int32.toNatClampNeg (l3 + 1)))] s3) fun v8 s7 =>
  if (v4 : Int32) = v8 then
    LL_law_1373 E l0 l1 l2 l3 (Prod.fst b - 28, Prod.snd b - 542) s7
  else
    chk (zB 0) (some (some (.inl 0), s7))) :=
  (zun_at (fun pc => (oL_law pc).1) E (fun q => Nat.beq q 18 || Nat.beq q 27 || Nat.beq q 204 || Nat.beq q 237 || Nat.beq q 280 || Nat.beq q 343 || Nat.beq q 366 || Nat.beq q 409 || Nat.beq q 452 || Nat.beq q 495 || Nat.beq q 528 || Nat.beq q 561 || Nat.beq q 584 || Nat.beq q 607 || Nat.beq q 630 || Nat.beq q 663 || Nat.beq q 738 || Nat.beq q 771 || Nat.beq q 794 || Nat.beq q 847 || Nat.beq q 890 || Nat.beq q 913 || Nat.beq q 926 || Nat.beq q 939 || Nat.beq q 982 || Nat.beq q 1005 || Nat.beq q 1028 || Nat.beq q 1051 || Nat.beq q 1064 || Nat.beq q 1107 || Nat.beq q 1130 || Nat.beq q 1153 || Nat.beq q 1166 || Nat.beq q 1209 || Nat.beq q 1232 || Nat.beq q 1255 || Nat.beq q 1268 || Nat.beq q 1291 || Nat.beq q 1314 || Nat.beq q 1327 || Nat.beq q 1350 || Nat.beq q 1373) 960 1327 b [.inr (.inl l0), .inr (.inl l1), .inr (.inl l2), .inl l3] [] σ).trans rfl
set_option maxRecDepth 20000 in
theorem uL_law_1350 (E : zE) (l0 : Option Nat) (l1 : Option Nat) (l2 : Option Nat) (l3 : Int32) (b : Nat × Nat) (σ : zS) : LL_law_1350 E l0 l1 l2 l3 b σ =
  (onR l0 fun a1 =>
  chk (zkd σ a1 = 16 ∧ zin (l3 + 1) (zln σ a1)) <|
  onR l1 fun a2 =>
  chk (zkd σ a2 = 8) <|
  bnI (E mX10_restore [.inr (.inl l1), .inl (zai σ a1 (Int32.toNatClampNeg (l3 + 1)))] σ) fun v4 s3 =>
  onR l0 fun a5 =>
  chk (zkd s3 a5 = 16 ∧ zin (l3 + 1) (zln s3 a5)) <|
  onR l2 fun a6 =>
  chk (zkd s3 a6 = 9) <|
  bnI (E mX11_restore [.inr (.inl l2), .inl (zai s3 a5 (Int32.toNatClampNeg (l3 + 1)))] s3) fun v8 s7 =>
  if (v4 : Int32) = v8 then
    LL_law_1373 E l0 l1 l2 l3 b s7
  else
    chk (zB 0) (some (some (.inl 0), s7))) :=
  (zun_at (fun pc => (oL_law pc).1) E (fun q => Nat.beq q 18 || Nat.beq q 27 || Nat.beq q 204 || Nat.beq q 237 || Nat.beq q 280 || Nat.beq q 343 || Nat.beq q 366 || Nat.beq q 409 || Nat.beq q 452 || Nat.beq q 495 || Nat.beq q 528 || Nat.beq q 561 || Nat.beq q 584 || Nat.beq q 607 || Nat.beq q 630 || Nat.beq q 663 || Nat.beq q 738 || Nat.beq q 771 || Nat.beq q 794 || Nat.beq q 847 || Nat.beq q 890 || Nat.beq q 913 || Nat.beq q 926 || Nat.beq q 939 || Nat.beq q 982 || Nat.beq q 1005 || Nat.beq q 1028 || Nat.beq q 1051 || Nat.beq q 1064 || Nat.beq q 1107 || Nat.beq q 1130 || Nat.beq q 1153 || Nat.beq q 1166 || Nat.beq q 1209 || Nat.beq q 1232 || Nat.beq q 1255 || Nat.beq q 1268 || Nat.beq q 1291 || Nat.beq q 1314 || Nat.beq q 1327 || Nat.beq q 1350 || Nat.beq q 1373) 960 1350 b [.inr (.inl l0), .inr (.inl l1), .inr (.inl l2), .inl l3] [] σ).trans rfl
set_option maxRecDepth 20000 in
theorem uL_law_1373 (E : zE) (l0 : Option Nat) (l1 : Option Nat) (l2 : Option Nat) (l3 : Int32) (b : Nat × Nat) (σ : zS) : LL_law_1373 E l0 l1 l2 l3 b σ =
  (zlt (α := Int32) (l3 + 7) fun v1 =>
  LL_law_18 E l0 l1 l2 v1 b σ) :=
  (zun_at (fun pc => (oL_law pc).1) E (fun q => Nat.beq q 18 || Nat.beq q 27 || Nat.beq q 204 || Nat.beq q 237 || Nat.beq q 280 || Nat.beq q 343 || Nat.beq q 366 || Nat.beq q 409 || Nat.beq q 452 || Nat.beq q 495 || Nat.beq q 528 || Nat.beq q 561 || Nat.beq q 584 || Nat.beq q 607 || Nat.beq q 630 || Nat.beq q 663 || Nat.beq q 738 || Nat.beq q 771 || Nat.beq q 794 || Nat.beq q 847 || Nat.beq q 890 || Nat.beq q 913 || Nat.beq q 926 || Nat.beq q 939 || Nat.beq q 982 || Nat.beq q 1005 || Nat.beq q 1028 || Nat.beq q 1051 || Nat.beq q 1064 || Nat.beq q 1107 || Nat.beq q 1130 || Nat.beq q 1153 || Nat.beq q 1166 || Nat.beq q 1209 || Nat.beq q 1232 || Nat.beq q 1255 || Nat.beq q 1268 || Nat.beq q 1291 || Nat.beq q 1314 || Nat.beq q 1327 || Nat.beq q 1350 || Nat.beq q 1373) 960 1373 b [.inr (.inl l0), .inr (.inl l1), .inr (.inl l2), .inl l3] [] σ).trans rfl
noncomputable def fL_law (E : zE) (p0 : Option Nat) (σ : zS) : zO :=
  chk (zkd (zno σ 8) (znx σ) = 8) <|
  bnV (E mX10_init [.inr (.inl (some (znx σ)))] (zno σ 8)) fun s1 =>
  chk (zkd (zno s1 9) (znx s1) = 9) <|
  bnV (E mX11_init [.inr (.inl (some (znx s1)))] (zno s1 9)) fun s2 =>
  zlt (α := Int32) 0 fun v3 =>
  LL_law_18 E p0 (some (znx σ)) (some (znx s1)) v3 (599721, 7285483) s2
set_option maxRecDepth 20000 in
theorem eL_law (E : zE) (p0 : Option Nat) (σ : zS) : zM tL_law 4 (600000, 7302250) E [.inr (.inl p0)] σ = fL_law E p0 σ :=
  (zun_at (fun pc => (oL_law pc).1) E (fun q => Nat.beq q 18 || Nat.beq q 27 || Nat.beq q 204 || Nat.beq q 237 || Nat.beq q 280 || Nat.beq q 343 || Nat.beq q 366 || Nat.beq q 409 || Nat.beq q 452 || Nat.beq q 495 || Nat.beq q 528 || Nat.beq q 561 || Nat.beq q 584 || Nat.beq q 607 || Nat.beq q 630 || Nat.beq q 663 || Nat.beq q 738 || Nat.beq q 771 || Nat.beq q 794 || Nat.beq q 847 || Nat.beq q 890 || Nat.beq q 913 || Nat.beq q 926 || Nat.beq q 939 || Nat.beq q 982 || Nat.beq q 1005 || Nat.beq q 1028 || Nat.beq q 1051 || Nat.beq q 1064 || Nat.beq q 1107 || Nat.beq q 1130 || Nat.beq q 1153 || Nat.beq q 1166 || Nat.beq q 1209 || Nat.beq q 1232 || Nat.beq q 1255 || Nat.beq q 1268 || Nat.beq q 1291 || Nat.beq q 1314 || Nat.beq q 1327 || Nat.beq q 1350 || Nat.beq q 1373) 960 0 (600000, 7302250) (zls0 [.inr (.inl p0)] 4) [] σ).trans rfl
