/-! the methods as functions (by program: wip/whole/emit2.py) -/
noncomputable def fX10_init (E : zE) (p0 : Nat) (σ : zS) : zO :=
  chk (zkd (zno σ 0) (znx σ) = 0) <|
  bnV (E mX0_init [.inr (.inl (some (znx σ)))] (zno σ 0)) fun s1 =>
  chk (zkd s1 p0 = 8) <| zlt (zsr s1 512 p0 (some (znx σ))) fun s2 =>
  chk (zkd (zno s2 0) (znx s2) = 0) <|
  bnV (E mX0_init [.inr (.inl (some (znx s2)))] (zno s2 0)) fun s3 =>
  chk (zkd s3 p0 = 8) <| zlt (zsr s3 513 p0 (some (znx s2))) fun s4 =>
  chk (zkd (zno s4 1) (znx s4) = 1) <|
  bnV (E mX1_init [.inr (.inl (some (znx s4)))] (zno s4 1)) fun s5 =>
  chk (zkd s5 p0 = 8) <| zlt (zsr s5 514 p0 (some (znx s4))) fun s6 =>
  chk (zkd (zna s6 13 2) p0 = 8) <| zlt (zsr (zna s6 13 2) 515 p0 (some (znx s6))) fun s7 =>
  chk (zkd (zno s7 6) (znx s7) = 6) <|
  bnV (E mX8_init [.inr (.inl (some (znx s7)))] (zno s7 6)) fun s8 =>
  chk (zkd s8 p0 = 8) <| zlt (zsr s8 516 p0 (some (znx s7))) fun s9 =>
  chk (zkd (zno s9 7) (znx s9) = 7) <|
  bnV (E mX9_init [.inr (.inl (some (znx s9)))] (zno s9 7)) fun s10 =>
  chk (zkd s10 p0 = 8) <| zlt (zsr s10 517 p0 (some (znx s9))) fun s11 =>
  chk (zkd (zno s11 5) (znx s11) = 5) <|
  bnV (E mX7_init [.inr (.inl (some (znx s11)))] (zno s11 5)) fun s12 =>
  chk (zkd s12 p0 = 8) <| zlt (zsr s12 518 p0 (some (znx s11))) fun s13 =>
  chk (zkd (zno s13 4) (znx s13) = 4) <|
  bnV (E mX6_init [.inr (.inl (some (znx s13)))] (zno s13 4)) fun s14 =>
  chk (zkd s14 p0 = 8) <| zlt (zsr s14 519 p0 (some (znx s13))) fun s15 =>
  chk (zkd (zno s15 4) (znx s15) = 4) <|
  bnV (E mX6_init [.inr (.inl (some (znx s15)))] (zno s15 4)) fun s16 =>
  chk (zkd s16 p0 = 8) <| zlt (zsr s16 520 p0 (some (znx s15))) fun s17 =>
  chk (zkd s17 p0 = 8) <|
  onR (zr s17 512 p0) fun a18 =>
  chk (zkd s17 a18 = 0) <|
  onR (zr s17 0 a18) fun a19 =>
  chk (zkd s17 a19 = 4) <|
  bnV (E mX6_startAs [.inr (.inl (zr s17 0 a18)), .inl 8, .inl 8] s17) fun s20 =>
  some (none, s20)
set_option maxRecDepth 20000 in
theorem eX10_init (E : zE) (p0 : Nat) (σ : zS) : zM tX10_init 1 (256, 7945) E [.inr (.inl (some p0))] σ = fX10_init E p0 σ :=
  (zun_at (fun pc => (oX10_init pc).1) E (fun _ => false) 54 0 (256, 7945) (zls0 [.inr (.inl (some p0))] 1) [] σ).trans rfl
noncomputable def fX10_newImage (E : zE) (p0 : Nat) (p1 : Int32) (p2 : Int32) (σ : zS) : zO :=
  bnI (E mX10_within [.inl p1, .inl 4, .inl 16] σ) fun v2 s1 =>
  if (v2 : Int32) = 0 then
    some (some (.inl (-1001)), s1)
  else
    bnI (E mX10_within [.inl p2, .inl 4, .inl 16] s1) fun v4 s3 =>
    if (v4 : Int32) = 0 then
      some (some (.inl (-1001)), s3)
    else
      chk (zkd s3 p0 = 8) <|
      chk (zkd s3 p0 = 8) <|
      onR (zr s3 514 p0) fun a5 =>
      chk (zkd s3 a5 = 1) <|
      bnV (E mX1_push [.inr (.inl (zr s3 514 p0)), .inr (.inl (zr s3 512 p0))] s3) fun s6 =>
      chk (zkd s6 p0 = 8) <|
      onR (zr s6 512 p0) fun a7 =>
      chk (zkd s6 a7 = 0) <|
      onR (zr s6 0 a7) fun a8 =>
      chk (zkd s6 a8 = 4) <|
      bnV (E mX6_startAs [.inr (.inl (zr s6 0 a7)), .inl p1, .inl p2] s6) fun s9 =>
      chk (zkd s9 p0 = 8) <|
      onR (zr s9 517 p0) fun a10 =>
      chk (zkd s9 a10 = 7) <|
      bnI (E mX9_removeAll [.inr (.inl (zr s9 517 p0))] s9) fun v12 s11 =>
      some (some (.inl (p1 * p2)), s11)
set_option maxRecDepth 20000 in
theorem eX10_newImage (E : zE) (p0 : Nat) (p1 : Int32) (p2 : Int32) (σ : zS) : zM tX10_newImage 3 (0, 0) E [.inr (.inl (some p0)), .inl p1, .inl p2] σ = fX10_newImage E p0 p1 p2 σ :=
  (zun_at (fun pc => (oX10_newImage pc).1) E (fun _ => false) 32 0 (0, 0) (zls0 [.inr (.inl (some p0)), .inl p1, .inl p2] 3) [] σ).trans rfl
noncomputable def fX10_setPixel (E : zE) (p0 : Nat) (p1 : Int32) (p2 : Int32) (p3 : Int32) (σ : zS) : zO :=
  chk (zkd σ p0 = 8) <|
  onR (zr σ 512 p0) fun a1 =>
  chk (zkd σ a1 = 0) <|
  onR (zr σ 0 a1) fun a2 =>
  chk (zkd σ a2 = 4) <|
  bnI (E mX6_contains [.inr (.inl (zr σ 0 a1)), .inl p1, .inl p2] σ) fun v4 s3 =>
  if (v4 : Int32) = 0 then
    some (some (.inl (-1001)), s3)
  else
    bnI (E mX10_within [.inl p3, .inl 0, .inl 255] s3) fun v6 s5 =>
    if (v6 : Int32) = 0 then
      some (some (.inl (-1001)), s5)
    else
      chk (zkd s5 p0 = 8) <|
      bnI (E mX10_paint [.inr (.inl (some p0)), .inl p1, .inl p2, .inl p1, .inl p2, .inl p3] s5) fun v8 s7 =>
      some (some (.inl v8), s7)
set_option maxRecDepth 20000 in
theorem eX10_setPixel (E : zE) (p0 : Nat) (p1 : Int32) (p2 : Int32) (p3 : Int32) (σ : zS) : zM tX10_setPixel 4 (0, 0) E [.inr (.inl (some p0)), .inl p1, .inl p2, .inl p3] σ = fX10_setPixel E p0 p1 p2 p3 σ :=
  (zun_at (fun pc => (oX10_setPixel pc).1) E (fun _ => false) 23 0 (0, 0) (zls0 [.inr (.inl (some p0)), .inl p1, .inl p2, .inl p3] 4) [] σ).trans rfl
noncomputable def LX10_fillRectangle_55 (E : zE) (l0 : Nat) (l1 : Int32) (l2 : Int32) (l3 : Int32) (l4 : Int32) (l5 : Int32) (l6 : zV) (k0 : Int32) (σ : zS) : zO := zF tX10_fillRectangle E 55 (0, 0) [.inr (.inl (some l0)), .inl l1, .inl l2, .inl l3, .inl l4, .inl l5, l6, .inr (.inr none)] [.inl k0] σ
set_option maxRecDepth 20000 in
theorem uX10_fillRectangle_55 (E : zE) (l0 : Nat) (l1 : Int32) (l2 : Int32) (l3 : Int32) (l4 : Int32) (l5 : Int32) (l6 : zV) (k0 : Int32) (σ : zS) : LX10_fillRectangle_55 E l0 l1 l2 l3 l4 l5 l6 k0 σ =
  (zlt (α := Int32) k0 fun v1 =>
  if (v1 : Int32) = 0 then
    some (some (.inl (-1001)), σ)
  else
    bnI (E mX10_within [.inl l5, .inl 0, .inl 255] σ) fun v3 s2 =>
    if (v3 : Int32) = 0 then
      some (some (.inl (-1001)), s2)
    else
      chk (zkd s2 l0 = 8) <|
      bnI (E mX10_paint [.inr (.inl (some l0)), .inl l1, .inl l2, .inl ((l1 + l3) - 1), .inl ((l2 + l4) - 1), .inl l5] s2) fun v5 s4 =>
      some (some (.inl v5), s4)) :=
  (zun_at (fun pc => (oX10_fillRectangle pc).1) E (fun q => Nat.beq q 55) 55 55 (0, 0) [.inr (.inl (some l0)), .inl l1, .inl l2, .inl l3, .inl l4, .inl l5, l6, .inr (.inr none)] [.inl k0] σ).trans rfl
noncomputable def fX10_fillRectangle (E : zE) (p0 : Nat) (p1 : Int32) (p2 : Int32) (p3 : Int32) (p4 : Int32) (p5 : Int32) (σ : zS) : zO :=
  chk (zkd σ p0 = 8) <|
  onR (zr σ 512 p0) fun a1 =>
  chk (zkd σ a1 = 0) <|
  onR (zr σ 0 a1) fun a2 =>
  chk (zkd σ a2 = 4) <|
  bnI (E mX6_contains [.inr (.inl (zr σ 0 a1)), .inl p1, .inl p2] σ) fun v4 s3 =>
  if (v4 : Int32) = 0 then
    LX10_fillRectangle_55 E p0 p1 p2 p3 p4 p5 (.inr (.inl (zr σ 0 a1))) 0 s3
  else
    onR (zr σ 0 a1) fun a5 =>
    chk (zkd s3 a5 = 4) <|
    bnI (E mX10_within [.inl p3, .inl 1, .inl ((zi s3 257 a5) - p1)] s3) fun v7 s6 =>
    if (v7 : Int32) = 0 then
      LX10_fillRectangle_55 E p0 p1 p2 p3 p4 p5 (.inr (.inl (zr σ 0 a1))) 0 s6
    else
      onR (zr σ 0 a1) fun a8 =>
      chk (zkd s6 a8 = 4) <|
      bnI (E mX10_within [.inl p4, .inl 1, .inl ((zi s6 258 a8) - p2)] s6) fun v10 s9 =>
      if (v10 : Int32) = 0 then
        LX10_fillRectangle_55 E p0 p1 p2 p3 p4 p5 (.inr (.inl (zr σ 0 a1))) 0 s9
      else
        LX10_fillRectangle_55 E p0 p1 p2 p3 p4 p5 (.inr (.inl (zr σ 0 a1))) 1 s9
set_option maxRecDepth 20000 in
theorem eX10_fillRectangle (E : zE) (p0 : Nat) (p1 : Int32) (p2 : Int32) (p3 : Int32) (p4 : Int32) (p5 : Int32) (σ : zS) : zM tX10_fillRectangle 8 (0, 0) E [.inr (.inl (some p0)), .inl p1, .inl p2, .inl p3, .inl p4, .inl p5] σ = fX10_fillRectangle E p0 p1 p2 p3 p4 p5 σ :=
  (zun_at (fun pc => (oX10_fillRectangle pc).1) E (fun q => Nat.beq q 55) 55 0 (0, 0) (zls0 [.inr (.inl (some p0)), .inl p1, .inl p2, .inl p3, .inl p4, .inl p5] 8) [] σ).trans rfl
noncomputable def fX10_size (E : zE) (p0 : Nat) (p1 : Int32) (σ : zS) : zO :=
  if (p1 : Int32) = 0 then
    chk (zkd σ p0 = 8) <|
    onR (zr σ 512 p0) fun a1 =>
    chk (zkd σ a1 = 0) <|
    onR (zr σ 0 a1) fun a2 =>
    chk (zkd σ a2 = 4) <|
    some (some (.inl (zi σ 257 a2)), σ)
  else if (p1 : Int32) = 1 then
    chk (zkd σ p0 = 8) <|
    onR (zr σ 512 p0) fun a3 =>
    chk (zkd σ a3 = 0) <|
    onR (zr σ 0 a3) fun a4 =>
    chk (zkd σ a4 = 4) <|
    some (some (.inl (zi σ 258 a4)), σ)
  else if (p1 : Int32) = 2 then
    chk (zkd σ p0 = 8) <|
    onR (zr σ 512 p0) fun a5 =>
    chk (zkd σ a5 = 0) <|
    bnI (E mX0_layerCount [.inr (.inl (zr σ 512 p0))] σ) fun v7 s6 =>
    some (some (.inl v7), s6)
  else if (p1 : Int32) = 3 then
    chk (zkd σ p0 = 8) <|
    onR (zr σ 517 p0) fun a8 =>
    chk (zkd σ a8 = 7) <|
    some (some (.inl (zi σ 450 a8)), σ)
  else if (p1 : Int32) = 4 then
    chk (zkd σ p0 = 8) <|
    bnI (E mX10_tileColumns [.inr (.inl (some p0))] σ) fun v10 s9 =>
    chk (zkd s9 p0 = 8) <|
    bnI (E mX10_tileRows [.inr (.inl (some p0))] s9) fun v12 s11 =>
    some (some (.inl (v10 * v12)), s11)
  else if (p1 : Int32) = 5 then
    chk (zkd σ p0 = 8) <|
    onR (zr σ 517 p0) fun a13 =>
    chk (zkd σ a13 = 7) <|
    some (some (.inl (zi σ 451 a13)), σ)
  else 
    some (some (.inl (-1001)), σ)
set_option maxRecDepth 20000 in
theorem eX10_size (E : zE) (p0 : Nat) (p1 : Int32) (σ : zS) : zM tX10_size 2 (0, 0) E [.inr (.inl (some p0)), .inl p1] σ = fX10_size E p0 p1 σ :=
  (zun_at (fun pc => (oX10_size pc).1) E (fun _ => false) 33 0 (0, 0) (zls0 [.inr (.inl (some p0)), .inl p1] 2) [] σ).trans rfl
noncomputable def LX10_paint_14 (E : zE) (l0 : Nat) (l1 : Int32) (l2 : Int32) (l3 : Int32) (l4 : Int32) (l5 : Int32) (l6 : Int32) (l7 : zV) (σ : zS) : zO := zF tX10_paint E 14 (0, 0) [.inr (.inl (some l0)), .inl l1, .inl l2, .inl l3, .inl l4, .inl l5, .inl l6, l7] [] σ
noncomputable def LX10_paint_24 (E : zE) (l0 : Nat) (l1 : Int32) (l2 : Int32) (l3 : Int32) (l4 : Int32) (l5 : Int32) (l6 : Int32) (l7 : Int32) (σ : zS) : zO := zF tX10_paint E 24 (0, 0) [.inr (.inl (some l0)), .inl l1, .inl l2, .inl l3, .inl l4, .inl l5, .inl l6, .inl l7] [] σ
set_option maxRecDepth 20000 in
theorem uX10_paint_14 (E : zE) (l0 : Nat) (l1 : Int32) (l2 : Int32) (l3 : Int32) (l4 : Int32) (l5 : Int32) (l6 : Int32) (l7 : zV) (σ : zS) : LX10_paint_14 E l0 l1 l2 l3 l4 l5 l6 l7 σ =
  (if (l6 : Int32) ≤ l4 then
    zlt (α := Int32) l1 fun v1 =>
    LX10_paint_24 E l0 l1 l2 l3 l4 l5 l6 v1 σ
  else
    chk (zkd σ l0 = 8) <|
    bnI (E mX10_removeTilesThatSee [.inr (.inl (some l0)), .inl l1, .inl l2, .inl l3, .inl l4] σ) fun v3 s2 =>
    some (some (.inl v3), s2)) :=
  (zun_at (fun pc => (oX10_paint pc).1) E (fun q => Nat.beq q 14 || Nat.beq q 24) 34 14 (0, 0) [.inr (.inl (some l0)), .inl l1, .inl l2, .inl l3, .inl l4, .inl l5, .inl l6, l7] [] σ).trans rfl
set_option maxRecDepth 20000 in
theorem uX10_paint_24 (E : zE) (l0 : Nat) (l1 : Int32) (l2 : Int32) (l3 : Int32) (l4 : Int32) (l5 : Int32) (l6 : Int32) (l7 : Int32) (σ : zS) : LX10_paint_24 E l0 l1 l2 l3 l4 l5 l6 l7 σ =
  (if (l7 : Int32) ≤ l3 then
    chk (zkd σ l0 = 8) <|
    onR (zr σ 512 l0) fun a1 =>
    chk (zkd σ a1 = 0) <|
    onR (zr σ 0 a1) fun a2 =>
    chk (zkd σ a2 = 4) <|
    bnV (E mX6_put [.inr (.inl (zr σ 0 a1)), .inl l7, .inl l6, .inl l5] σ) fun s3 =>
    zlt (α := Int32) (l7 + 1) fun v4 =>
    LX10_paint_24 E l0 l1 l2 l3 l4 l5 l6 v4 s3
  else
    zlt (α := Int32) (l6 + 1) fun v5 =>
    LX10_paint_14 E l0 l1 l2 l3 l4 l5 v5 (.inl l7) σ) :=
  (zun_at (fun pc => (oX10_paint pc).1) E (fun q => Nat.beq q 14 || Nat.beq q 24) 34 24 (0, 0) [.inr (.inl (some l0)), .inl l1, .inl l2, .inl l3, .inl l4, .inl l5, .inl l6, .inl l7] [] σ).trans rfl
noncomputable def fX10_paint (E : zE) (p0 : Nat) (p1 : Int32) (p2 : Int32) (p3 : Int32) (p4 : Int32) (p5 : Int32) (σ : zS) : zO :=
  chk (zkd σ p0 = 8) <|
  chk (zkd σ p0 = 8) <|
  onR (zr σ 514 p0) fun a1 =>
  chk (zkd σ a1 = 1) <|
  bnV (E mX1_push [.inr (.inl (zr σ 514 p0)), .inr (.inl (zr σ 512 p0))] σ) fun s2 =>
  zlt (α := Int32) p2 fun v3 =>
  LX10_paint_14 E p0 p1 p2 p3 p4 p5 v3 (.inr (.inr none)) s2
set_option maxRecDepth 20000 in
theorem eX10_paint (E : zE) (p0 : Nat) (p1 : Int32) (p2 : Int32) (p3 : Int32) (p4 : Int32) (p5 : Int32) (σ : zS) : zM tX10_paint 8 (0, 0) E [.inr (.inl (some p0)), .inl p1, .inl p2, .inl p3, .inl p4, .inl p5] σ = fX10_paint E p0 p1 p2 p3 p4 p5 σ :=
  (zun_at (fun pc => (oX10_paint pc).1) E (fun q => Nat.beq q 14 || Nat.beq q 24) 34 0 (0, 0) (zls0 [.inr (.inl (some p0)), .inl p1, .inl p2, .inl p3, .inl p4, .inl p5] 8) [] σ).trans rfl
noncomputable def LX10_removeTilesThatSee_9 (E : zE) (l0 : Nat) (l1 : Int32) (l2 : Int32) (l3 : Int32) (l4 : Int32) (l5 : Int32) (l6 : Int32) (l7 : Int32) (l8 : zV) (σ : zS) : zO := zF tX10_removeTilesThatSee E 9 (0, 0) [.inr (.inl (some l0)), .inl l1, .inl l2, .inl l3, .inl l4, .inl l5, .inl l6, .inl l7, l8] [] σ
set_option maxRecDepth 20000 in
theorem uX10_removeTilesThatSee_9 (E : zE) (l0 : Nat) (l1 : Int32) (l2 : Int32) (l3 : Int32) (l4 : Int32) (l5 : Int32) (l6 : Int32) (l7 : Int32) (l8 : zV) (σ : zS) : LX10_removeTilesThatSee_9 E l0 l1 l2 l3 l4 l5 l6 l7 l8 σ =
  (chk (zkd σ l0 = 8) <|
  onR (zr σ 512 l0) fun a1 =>
  chk (zkd σ a1 = 0) <|
  bnI (E mX0_layerCount [.inr (.inl (zr σ 512 l0))] σ) fun v3 s2 =>
  if (l7 : Int32) < v3 then
    chk (zkd s2 l0 = 8) <|
    onR (zr s2 512 l0) fun a4 =>
    chk (zkd s2 a4 = 0) <|
    bnR (E mX0_layerAt [.inr (.inl (zr s2 512 l0)), .inl l7] s2) fun r6 s5 =>
    nul r6 (
      zlt (α := Int32) (l7 + 1) fun v7 =>
      LX10_removeTilesThatSee_9 E l0 l1 l2 l3 l4 l5 l6 v7 (.inr (.inl r6)) s5) (
      onR r6 fun a8 =>
      chk (zkd s5 a8 = 2) <|
      if ((zi s5 133 a8) : Int32) = 0 then
        zlt (α := Int32) (l7 + 1) fun v9 =>
        LX10_removeTilesThatSee_9 E l0 l1 l2 l3 l4 l5 l6 v9 (.inr (.inl r6)) s5
      else
        onR r6 fun a10 =>
        chk (zkd s5 a10 = 2) <|
        bnI (E mX3_reach [.inr (.inl r6)] s5) fun v12 s11 =>
        zlt (α := Int32) (l5 + v12) fun v13 =>
        chk (zkd s11 l0 = 8) <|
        bnI (E mJ9_max_7cf53 [.inl (l1 - v13), .inl 0] s11) fun v15 s14 =>
        bnI (E mJ9_max_7cf53 [.inl (l2 - v13), .inl 0] s14) fun v17 s16 =>
        chk (zkd s16 l0 = 8) <|
        onR (zr s16 512 l0) fun a18 =>
        chk (zkd s16 a18 = 0) <|
        onR (zr s16 0 a18) fun a19 =>
        chk (zkd s16 a19 = 4) <|
        bnI (E mJ9_min_7cf53 [.inl (l3 + v13), .inl ((zi s16 257 a19) - 1)] s16) fun v21 s20 =>
        chk (zkd s20 l0 = 8) <|
        onR (zr s20 512 l0) fun a22 =>
        chk (zkd s20 a22 = 0) <|
        onR (zr s20 0 a22) fun a23 =>
        chk (zkd s20 a23 = 4) <|
        bnI (E mJ9_min_7cf53 [.inl (l4 + v13), .inl ((zi s20 258 a23) - 1)] s20) fun v25 s24 =>
        onR (zr s11 517 l0) fun a26 =>
        chk (zkd s24 a26 = 7) <|
        bnI (E mX9_removeTouched [.inr (.inl (zr s11 517 l0)), .inl l7, .inl v15, .inl v17, .inl v21, .inl v25] s24) fun v28 s27 =>
        zlt (α := Int32) (l6 + v28) fun v29 =>
        zlt (α := Int32) (l7 + 1) fun v30 =>
        LX10_removeTilesThatSee_9 E l0 l1 l2 l3 l4 v13 v29 v30 (.inr (.inl r6)) s27)
  else
    some (some (.inl l6), s2)) :=
  (zun_at (fun pc => (oX10_removeTilesThatSee pc).1) E (fun q => Nat.beq q 9) 68 9 (0, 0) [.inr (.inl (some l0)), .inl l1, .inl l2, .inl l3, .inl l4, .inl l5, .inl l6, .inl l7, l8] [] σ).trans rfl
noncomputable def fX10_removeTilesThatSee (E : zE) (p0 : Nat) (p1 : Int32) (p2 : Int32) (p3 : Int32) (p4 : Int32) (σ : zS) : zO :=
  zlt (α := Int32) 0 fun v1 =>
  zlt (α := Int32) 0 fun v2 =>
  zlt (α := Int32) 0 fun v3 =>
  LX10_removeTilesThatSee_9 E p0 p1 p2 p3 p4 v1 v2 v3 (.inr (.inr none)) σ
set_option maxRecDepth 20000 in
theorem eX10_removeTilesThatSee (E : zE) (p0 : Nat) (p1 : Int32) (p2 : Int32) (p3 : Int32) (p4 : Int32) (σ : zS) : zM tX10_removeTilesThatSee 9 (0, 0) E [.inr (.inl (some p0)), .inl p1, .inl p2, .inl p3, .inl p4] σ = fX10_removeTilesThatSee E p0 p1 p2 p3 p4 σ :=
  (zun_at (fun pc => (oX10_removeTilesThatSee pc).1) E (fun q => Nat.beq q 9) 68 0 (0, 0) (zls0 [.inr (.inl (some p0)), .inl p1, .inl p2, .inl p3, .inl p4] 9) [] σ).trans rfl
noncomputable def fX10_addLayer (E : zE) (p0 : Nat) (p1 : Int32) (p2 : Int32) (p3 : Int32) (σ : zS) : zO :=
  bnI (E mX2_allow [.inl p1, .inl p2, .inl p3] σ) fun v2 s1 =>
  if (v2 : Int32) = 0 then
    some (some (.inl (-1001)), s1)
  else
    chk (zkd s1 p0 = 8) <|
    onR (zr s1 512 p0) fun a3 =>
    chk (zkd s1 a3 = 0) <|
    bnI (E mX0_isFull [.inr (.inl (zr s1 512 p0))] s1) fun v5 s4 =>
    if (v5 : Int32) = 0 then
      chk (zkd s4 p0 = 8) <|
      chk (zkd s4 p0 = 8) <|
      onR (zr s4 514 p0) fun a6 =>
      chk (zkd s4 a6 = 1) <|
      bnV (E mX1_push [.inr (.inl (zr s4 514 p0)), .inr (.inl (zr s4 512 p0))] s4) fun s7 =>
      chk (zkd s7 p0 = 8) <|
      onR (zr s7 512 p0) fun a8 =>
      chk (zkd s7 a8 = 0) <|
      bnR (E mX0_addFresh [.inr (.inl (zr s7 512 p0)), .inl p1, .inl p2, .inl p3] s7) fun r10 s9 =>
      chk (zkd s9 p0 = 8) <|
      onR (zr s9 512 p0) fun a11 =>
      chk (zkd s9 a11 = 0) <|
      bnI (E mX0_layerCount [.inr (.inl (zr s9 512 p0))] s9) fun v13 s12 =>
      some (some (.inl (v13 - 1)), s12)
    else
      some (some (.inl (-1003)), s4)
set_option maxRecDepth 20000 in
theorem eX10_addLayer (E : zE) (p0 : Nat) (p1 : Int32) (p2 : Int32) (p3 : Int32) (σ : zS) : zM tX10_addLayer 4 (0, 0) E [.inr (.inl (some p0)), .inl p1, .inl p2, .inl p3] σ = fX10_addLayer E p0 p1 p2 p3 σ :=
  (zun_at (fun pc => (oX10_addLayer pc).1) E (fun _ => false) 32 0 (0, 0) (zls0 [.inr (.inl (some p0)), .inl p1, .inl p2, .inl p3] 4) [] σ).trans rfl
noncomputable def fX10_setBlend (E : zE) (p0 : Nat) (p1 : Int32) (p2 : Int32) (p3 : Int32) (σ : zS) : zO :=
  chk (zkd σ p0 = 8) <|
  onR (zr σ 512 p0) fun a1 =>
  chk (zkd σ a1 = 0) <|
  bnR (E mX0_layerAt [.inr (.inl (zr σ 512 p0)), .inl p1] σ) fun r3 s2 =>
  nul r3 (
    some (some (.inl (-1001)), s2)) (
    bnI (E mX10_within [.inl p2, .inl 0, .inl 7] s2) fun v5 s4 =>
    if (v5 : Int32) = 0 then
      some (some (.inl (-1001)), s4)
    else
      bnI (E mX10_within [.inl p3, .inl 0, .inl 100] s4) fun v7 s6 =>
      if (v7 : Int32) = 0 then
        some (some (.inl (-1001)), s6)
      else
        onR r3 fun a8 =>
        chk (zkd s6 a8 = 2) <|
        zlt (α := Int32) (zi s6 132 a8) fun v9 =>
        chk (zkd s6 p0 = 8) <|
        bnV (E mX10_startChangeOf [.inr (.inl (some p0)), .inl p1] s6) fun s10 =>
        onR r3 fun a11 =>
        chk (zkd s10 a11 = 2) <| zlt (zsi s10 131 a11 p2) fun s12 =>
        onR r3 fun a13 =>
        chk (zkd s12 a13 = 2) <| zlt (zsi s12 132 a13 p3) fun s14 =>
        some (some (.inl v9), s14))
set_option maxRecDepth 20000 in
theorem eX10_setBlend (E : zE) (p0 : Nat) (p1 : Int32) (p2 : Int32) (p3 : Int32) (σ : zS) : zM tX10_setBlend 6 (0, 0) E [.inr (.inl (some p0)), .inl p1, .inl p2, .inl p3] σ = fX10_setBlend E p0 p1 p2 p3 σ :=
  (zun_at (fun pc => (oX10_setBlend pc).1) E (fun _ => false) 34 0 (0, 0) (zls0 [.inr (.inl (some p0)), .inl p1, .inl p2, .inl p3] 6) [] σ).trans rfl
noncomputable def LX10_setEnabled_36 (E : zE) (l0 : Nat) (l1 : Int32) (l2 : zV) (l3 : Option Nat) (k0 : Int32) (σ : zS) : zO := zF tX10_setEnabled E 36 (0, 0) [.inr (.inl (some l0)), .inl l1, l2, .inr (.inl l3), .inr (.inr none)] [.inl k0] σ
set_option maxRecDepth 20000 in
theorem uX10_setEnabled_36 (E : zE) (l0 : Nat) (l1 : Int32) (l2 : zV) (l3 : Option Nat) (k0 : Int32) (σ : zS) : LX10_setEnabled_36 E l0 l1 l2 l3 k0 σ =
  (zlt (α := Int32) k0 fun v1 =>
  onR l3 fun a2 =>
  chk (zkd σ a2 = 2) <|
  if ((zi σ 133 a2) : Int32) = v1 then
    some (some (.inl (-1002)), σ)
  else
    chk (zkd σ l0 = 8) <|
    bnV (E mX10_startChangeOf [.inr (.inl (some l0)), .inl l1] σ) fun s3 =>
    onR l3 fun a4 =>
    chk (zkd s3 a4 = 2 ∧ zB v1) <| zlt (zsi s3 133 a4 v1) fun s5 =>
    chk (zkd s5 l0 = 8) <|
    onR (zr s5 512 l0) fun a6 =>
    chk (zkd s5 a6 = 0) <|
    bnI (E mX0_enabledCount [.inr (.inl (zr s5 512 l0))] s5) fun v8 s7 =>
    some (some (.inl v8), s7)) :=
  (zun_at (fun pc => (oX10_setEnabled pc).1) E (fun q => Nat.beq q 36) 38 36 (0, 0) [.inr (.inl (some l0)), .inl l1, l2, .inr (.inl l3), .inr (.inr none)] [.inl k0] σ).trans rfl
noncomputable def fX10_setEnabled (E : zE) (p0 : Nat) (p1 : Int32) (p2 : Int32) (σ : zS) : zO :=
  chk (zkd σ p0 = 8) <|
  onR (zr σ 512 p0) fun a1 =>
  chk (zkd σ a1 = 0) <|
  bnR (E mX0_layerAt [.inr (.inl (zr σ 512 p0)), .inl p1] σ) fun r3 s2 =>
  nul r3 (
    some (some (.inl (-1001)), s2)) (
    bnI (E mX10_within [.inl p2, .inl 0, .inl 1] s2) fun v5 s4 =>
    if (v5 : Int32) = 0 then
      some (some (.inl (-1001)), s4)
    else
      if (p2 : Int32) = 1 then
        LX10_setEnabled_36 E p0 p1 (.inl p2) r3 1 s4
      else
        LX10_setEnabled_36 E p0 p1 (.inl p2) r3 0 s4)
set_option maxRecDepth 20000 in
theorem eX10_setEnabled (E : zE) (p0 : Nat) (p1 : Int32) (p2 : Int32) (σ : zS) : zM tX10_setEnabled 5 (0, 0) E [.inr (.inl (some p0)), .inl p1, .inl p2] σ = fX10_setEnabled E p0 p1 p2 σ :=
  (zun_at (fun pc => (oX10_setEnabled pc).1) E (fun q => Nat.beq q 36) 38 0 (0, 0) (zls0 [.inr (.inl (some p0)), .inl p1, .inl p2] 5) [] σ).trans rfl
noncomputable def fX10_moveLayer (E : zE) (p0 : Nat) (p1 : Int32) (p2 : Int32) (σ : zS) : zO :=
  chk (zkd σ p0 = 8) <|
  onR (zr σ 512 p0) fun a1 =>
  chk (zkd σ a1 = 0) <|
  bnR (E mX0_layerAt [.inr (.inl (zr σ 512 p0)), .inl p1] σ) fun r3 s2 =>
  nul r3 (
    some (some (.inl (-1001)), s2)) (
    chk (zkd s2 p0 = 8) <|
    onR (zr s2 512 p0) fun a4 =>
    chk (zkd s2 a4 = 0) <|
    bnR (E mX0_layerAt [.inr (.inl (zr s2 512 p0)), .inl p2] s2) fun r6 s5 =>
    nul r6 (
      some (some (.inl (-1001)), s5)) (
      if (p1 : Int32) = p2 then
        some (some (.inl (-1001)), s5)
      else
        bnI (E mJ9_min_7cf53 [.inl p1, .inl p2] s5) fun v8 s7 =>
        chk (zkd s7 p0 = 8) <|
        bnV (E mX10_startChangeOf [.inr (.inl (some p0)), .inl v8] s7) fun s9 =>
        chk (zkd s9 p0 = 8) <|
        onR (zr s9 512 p0) fun a10 =>
        chk (zkd s9 a10 = 0) <|
        bnV (E mX0_shift [.inr (.inl (zr s9 512 p0)), .inl p1, .inl p2] s9) fun s11 =>
        onR r3 fun a12 =>
        chk (zkd s11 a12 = 2) <|
        some (some (.inl (zi s11 128 a12)), s11)))
set_option maxRecDepth 20000 in
theorem eX10_moveLayer (E : zE) (p0 : Nat) (p1 : Int32) (p2 : Int32) (σ : zS) : zM tX10_moveLayer 4 (0, 0) E [.inr (.inl (some p0)), .inl p1, .inl p2] σ = fX10_moveLayer E p0 p1 p2 σ :=
  (zun_at (fun pc => (oX10_moveLayer pc).1) E (fun _ => false) 31 0 (0, 0) (zls0 [.inr (.inl (some p0)), .inl p1, .inl p2] 4) [] σ).trans rfl
noncomputable def fX10_duplicateLayer (E : zE) (p0 : Nat) (p1 : Int32) (σ : zS) : zO :=
  chk (zkd σ p0 = 8) <|
  onR (zr σ 512 p0) fun a1 =>
  chk (zkd σ a1 = 0) <|
  bnR (E mX0_layerAt [.inr (.inl (zr σ 512 p0)), .inl p1] σ) fun r3 s2 =>
  nul r3 (
    some (some (.inl (-1001)), s2)) (
    chk (zkd s2 p0 = 8) <|
    onR (zr s2 512 p0) fun a4 =>
    chk (zkd s2 a4 = 0) <|
    bnI (E mX0_isFull [.inr (.inl (zr s2 512 p0))] s2) fun v6 s5 =>
    if (v6 : Int32) = 0 then
      chk (zkd s5 p0 = 8) <|
      bnV (E mX10_startChangeOf [.inr (.inl (some p0)), .inl (p1 + 1)] s5) fun s7 =>
      chk (zkd s7 p0 = 8) <|
      onR (zr s7 512 p0) fun a8 =>
      chk (zkd s7 a8 = 0) <|
      bnV (E mX0_addCopyAbove [.inr (.inl (zr s7 512 p0)), .inl p1] s7) fun s9 =>
      some (some (.inl (p1 + 1)), s9)
    else
      some (some (.inl (-1003)), s5))
set_option maxRecDepth 20000 in
theorem eX10_duplicateLayer (E : zE) (p0 : Nat) (p1 : Int32) (σ : zS) : zM tX10_duplicateLayer 2 (0, 0) E [.inr (.inl (some p0)), .inl p1] σ = fX10_duplicateLayer E p0 p1 σ :=
  (zun_at (fun pc => (oX10_duplicateLayer pc).1) E (fun _ => false) 27 0 (0, 0) (zls0 [.inr (.inl (some p0)), .inl p1] 2) [] σ).trans rfl
noncomputable def fX10_removeLayer (E : zE) (p0 : Nat) (p1 : Int32) (σ : zS) : zO :=
  chk (zkd σ p0 = 8) <|
  onR (zr σ 512 p0) fun a1 =>
  chk (zkd σ a1 = 0) <|
  bnR (E mX0_layerAt [.inr (.inl (zr σ 512 p0)), .inl p1] σ) fun r3 s2 =>
  nul r3 (
    some (some (.inl (-1001)), s2)) (
    chk (zkd s2 p0 = 8) <|
    bnV (E mX10_startChangeOf [.inr (.inl (some p0)), .inl p1] s2) fun s4 =>
    chk (zkd s4 p0 = 8) <|
    onR (zr s4 512 p0) fun a5 =>
    chk (zkd s4 a5 = 0) <|
    bnV (E mX0_takeOut [.inr (.inl (zr s4 512 p0)), .inl p1] s4) fun s6 =>
    chk (zkd s6 p0 = 8) <|
    onR (zr s6 512 p0) fun a7 =>
    chk (zkd s6 a7 = 0) <|
    bnI (E mX0_layerCount [.inr (.inl (zr s6 512 p0))] s6) fun v9 s8 =>
    some (some (.inl v9), s8))
set_option maxRecDepth 20000 in
theorem eX10_removeLayer (E : zE) (p0 : Nat) (p1 : Int32) (σ : zS) : zM tX10_removeLayer 2 (0, 0) E [.inr (.inl (some p0)), .inl p1] σ = fX10_removeLayer E p0 p1 σ :=
  (zun_at (fun pc => (oX10_removeLayer pc).1) E (fun _ => false) 19 0 (0, 0) (zls0 [.inr (.inl (some p0)), .inl p1] 2) [] σ).trans rfl
noncomputable def LX10_flatten_58 (E : zE) (l0 : Nat) (l1 : Int32) (l2 : Int32) (σ : zS) : zO := zF tX10_flatten E 58 (0, 0) [.inr (.inl (some l0)), .inl l1, .inl l2] [] σ
set_option maxRecDepth 20000 in
theorem uX10_flatten_58 (E : zE) (l0 : Nat) (l1 : Int32) (l2 : Int32) (σ : zS) : LX10_flatten_58 E l0 l1 l2 σ =
  (if (l2 : Int32) ≤ l1 then
    chk (zkd σ l0 = 8) <|
    onR (zr σ 512 l0) fun a1 =>
    chk (zkd σ a1 = 0) <|
    bnV (E mX0_takeOut [.inr (.inl (zr σ 512 l0)), .inl 0] σ) fun s2 =>
    zlt (α := Int32) (l2 + 1) fun v3 =>
    LX10_flatten_58 E l0 l1 v3 s2
  else
    chk (zkd σ l0 = 8) <|
    onR (zr σ 517 l0) fun a4 =>
    chk (zkd σ a4 = 7) <|
    bnV (E mX9_removeLowest [.inr (.inl (zr σ 517 l0)), .inl (l1 + 1)] σ) fun s5 =>
    chk (zkd s5 l0 = 8) <|
    onR (zr s5 512 l0) fun a6 =>
    chk (zkd s5 a6 = 0) <|
    bnI (E mX0_layerCount [.inr (.inl (zr s5 512 l0))] s5) fun v8 s7 =>
    some (some (.inl v8), s7)) :=
  (zun_at (fun pc => (oX10_flatten pc).1) E (fun q => Nat.beq q 58) 48 58 (0, 0) [.inr (.inl (some l0)), .inl l1, .inl l2] [] σ).trans rfl
noncomputable def fX10_flatten (E : zE) (p0 : Nat) (p1 : Int32) (σ : zS) : zO :=
  chk (zkd σ p0 = 8) <|
  onR (zr σ 512 p0) fun a1 =>
  chk (zkd σ a1 = 0) <|
  bnR (E mX0_layerAt [.inr (.inl (zr σ 512 p0)), .inl p1] σ) fun r3 s2 =>
  nul r3 (
    some (some (.inl (-1001)), s2)) (
    chk (zkd s2 p0 = 8) <|
    chk (zkd s2 p0 = 8) <|
    onR (zr s2 514 p0) fun a4 =>
    chk (zkd s2 a4 = 1) <|
    bnV (E mX1_push [.inr (.inl (zr s2 514 p0)), .inr (.inl (zr s2 512 p0))] s2) fun s5 =>
    chk (zkd s5 p0 = 8) <|
    chk (zkd s5 p0 = 8) <|
    chk (zkd s5 p0 = 8) <|
    onR (zr s5 518 p0) fun a6 =>
    chk (zkd s5 a6 = 5) <|
    bnV (E mX7_renderStack [.inr (.inl (zr s5 518 p0)), .inr (.inl (zr s5 512 p0)), .inl p1, .inr (.inl (zr s5 519 p0))] s5) fun s7 =>
    chk (zkd s7 p0 = 8) <|
    onR (zr s7 512 p0) fun a8 =>
    chk (zkd s7 a8 = 0) <|
    chk (zkd s7 p0 = 8) <|
    onR (zr s7 0 a8) fun a9 =>
    chk (zkd s7 a9 = 4) <|
    bnV (E mX6_copyFrom [.inr (.inl (zr s7 0 a8)), .inr (.inl (zr s7 519 p0))] s7) fun s10 =>
    zlt (α := Int32) 0 fun v11 =>
    LX10_flatten_58 E p0 p1 v11 s10)
set_option maxRecDepth 20000 in
theorem eX10_flatten (E : zE) (p0 : Nat) (p1 : Int32) (σ : zS) : zM tX10_flatten 3 (0, 0) E [.inr (.inl (some p0)), .inl p1] σ = fX10_flatten E p0 p1 σ :=
  (zun_at (fun pc => (oX10_flatten pc).1) E (fun q => Nat.beq q 58) 48 0 (0, 0) (zls0 [.inr (.inl (some p0)), .inl p1] 3) [] σ).trans rfl
noncomputable def fX10_layer (E : zE) (p0 : Nat) (p1 : Int32) (p2 : Int32) (σ : zS) : zO :=
  chk (zkd σ p0 = 8) <|
  onR (zr σ 512 p0) fun a1 =>
  chk (zkd σ a1 = 0) <|
  bnR (E mX0_layerAt [.inr (.inl (zr σ 512 p0)), .inl p1] σ) fun r3 s2 =>
  nul r3 (
    some (some (.inl (-1001)), s2)) (
    if (p2 : Int32) = 0 then
      onR r3 fun a4 =>
      chk (zkd s2 a4 = 2) <|
      some (some (.inl (zi s2 128 a4)), s2)
    else if (p2 : Int32) = 1 then
      onR r3 fun a5 =>
      chk (zkd s2 a5 = 2) <|
      some (some (.inl ((zi s2 129 a5) + 1000)), s2)
    else if (p2 : Int32) = 2 then
      onR r3 fun a6 =>
      chk (zkd s2 a6 = 2) <|
      some (some (.inl ((zi s2 130 a6) + 1000)), s2)
    else if (p2 : Int32) = 3 then
      onR r3 fun a7 =>
      chk (zkd s2 a7 = 2) <|
      some (some (.inl (zi s2 131 a7)), s2)
    else if (p2 : Int32) = 4 then
      onR r3 fun a8 =>
      chk (zkd s2 a8 = 2) <|
      some (some (.inl (zi s2 132 a8)), s2)
    else if (p2 : Int32) = 5 then
      onR r3 fun a9 =>
      chk (zkd s2 a9 = 2) <|
      if ((zi s2 133 a9) : Int32) = 0 then
        some (some (.inl 0), s2)
      else
        some (some (.inl 1), s2)
    else if (p2 : Int32) = 6 then
      onR r3 fun a10 =>
      chk (zkd s2 a10 = 2) <|
      bnI (E mX3_reach [.inr (.inl r3)] s2) fun v12 s11 =>
      some (some (.inl v12), s11)
    else if (p2 : Int32) = 7 then
      onR r3 fun a13 =>
      chk (zkd s2 a13 = 2) <|
      onR (zr s2 134 a13) fun a14 =>
      chk (zkd s2 a14 = 3) <|
      some (some (.inl (zi s2 192 a14)), s2)
    else if (p2 : Int32) = 8 then
      onR r3 fun a15 =>
      chk (zkd s2 a15 = 2) <|
      onR (zr s2 134 a15) fun a16 =>
      chk (zkd s2 a16 = 3) <|
      some (some (.inl (zi s2 199 a16)), s2)
    else 
      some (some (.inl (-1001)), s2))
set_option maxRecDepth 20000 in
theorem eX10_layer (E : zE) (p0 : Nat) (p1 : Int32) (p2 : Int32) (σ : zS) : zM tX10_layer 4 (0, 0) E [.inr (.inl (some p0)), .inl p1, .inl p2] σ = fX10_layer E p0 p1 p2 σ :=
  (zun_at (fun pc => (oX10_layer pc).1) E (fun _ => false) 51 0 (0, 0) (zls0 [.inr (.inl (some p0)), .inl p1, .inl p2] 4) [] σ).trans rfl
noncomputable def fX10_startChangeOf (E : zE) (p0 : Nat) (p1 : Int32) (σ : zS) : zO :=
  chk (zkd σ p0 = 8) <|
  chk (zkd σ p0 = 8) <|
  onR (zr σ 514 p0) fun a1 =>
  chk (zkd σ a1 = 1) <|
  bnV (E mX1_push [.inr (.inl (zr σ 514 p0)), .inr (.inl (zr σ 512 p0))] σ) fun s2 =>
  chk (zkd s2 p0 = 8) <|
  onR (zr s2 517 p0) fun a3 =>
  chk (zkd s2 a3 = 7) <|
  bnI (E mX9_removeFrom [.inr (.inl (zr s2 517 p0)), .inl p1] s2) fun v5 s4 =>
  some (none, s4)
set_option maxRecDepth 20000 in
theorem eX10_startChangeOf (E : zE) (p0 : Nat) (p1 : Int32) (σ : zS) : zM tX10_startChangeOf 2 (0, 0) E [.inr (.inl (some p0)), .inl p1] σ = fX10_startChangeOf E p0 p1 σ :=
  (zun_at (fun pc => (oX10_startChangeOf pc).1) E (fun _ => false) 12 0 (0, 0) (zls0 [.inr (.inl (some p0)), .inl p1] 2) [] σ).trans rfl
noncomputable def fX10_setMask (E : zE) (p0 : Nat) (p1 : Int32) (p2 : Int32) (p3 : Int32) (p4 : Int32) (p5 : Int32) (p6 : Int32) (σ : zS) : zO :=
  chk (zkd σ p0 = 8) <|
  onR (zr σ 512 p0) fun a1 =>
  chk (zkd σ a1 = 0) <|
  bnR (E mX0_layerAt [.inr (.inl (zr σ 512 p0)), .inl p1] σ) fun r3 s2 =>
  nul r3 (
    some (some (.inl (-1001)), s2)) (
    bnI (E mX4_allows [.inl p2, .inl p3, .inl p4, .inl p5, .inl p6] s2) fun v5 s4 =>
    if (v5 : Int32) = 0 then
      some (some (.inl (-1001)), s4)
    else
      onR r3 fun a6 =>
      chk (zkd s4 a6 = 2) <|
      onR (zr s4 134 a6) fun a7 =>
      chk (zkd s4 a7 = 3) <|
      zlt (α := Int32) (zi s4 192 a7) fun v8 =>
      chk (zkd s4 p0 = 8) <|
      bnV (E mX10_startChangeOf [.inr (.inl (some p0)), .inl p1] s4) fun s9 =>
      onR r3 fun a10 =>
      chk (zkd s9 a10 = 2) <|
      onR (zr s9 134 a10) fun a11 =>
      chk (zkd s9 a11 = 3) <|
      bnV (E mX4_define [.inr (.inl (zr s9 134 a10)), .inl p2, .inl p3, .inl p4, .inl p5, .inl p6] s9) fun s12 =>
      some (some (.inl v8), s12))
set_option maxRecDepth 20000 in
theorem eX10_setMask (E : zE) (p0 : Nat) (p1 : Int32) (p2 : Int32) (p3 : Int32) (p4 : Int32) (p5 : Int32) (p6 : Int32) (σ : zS) : zM tX10_setMask 9 (0, 0) E [.inr (.inl (some p0)), .inl p1, .inl p2, .inl p3, .inl p4, .inl p5, .inl p6] σ = fX10_setMask E p0 p1 p2 p3 p4 p5 p6 σ :=
  (zun_at (fun pc => (oX10_setMask pc).1) E (fun _ => false) 34 0 (0, 0) (zls0 [.inr (.inl (some p0)), .inl p1, .inl p2, .inl p3, .inl p4, .inl p5, .inl p6] 9) [] σ).trans rfl
noncomputable def fX10_setFeather (E : zE) (p0 : Nat) (p1 : Int32) (p2 : Int32) (σ : zS) : zO :=
  chk (zkd σ p0 = 8) <|
  onR (zr σ 512 p0) fun a1 =>
  chk (zkd σ a1 = 0) <|
  bnR (E mX0_layerAt [.inr (.inl (zr σ 512 p0)), .inl p1] σ) fun r3 s2 =>
  nul r3 (
    some (some (.inl (-1001)), s2)) (
    bnI (E mX10_within [.inl p2, .inl 0, .inl 5] s2) fun v5 s4 =>
    if (v5 : Int32) = 0 then
      some (some (.inl (-1001)), s4)
    else
      onR r3 fun a6 =>
      chk (zkd s4 a6 = 2) <|
      onR (zr s4 134 a6) fun a7 =>
      chk (zkd s4 a7 = 3) <|
      zlt (α := Int32) (zi s4 197 a7) fun v8 =>
      chk (zkd s4 p0 = 8) <|
      bnV (E mX10_startChangeOf [.inr (.inl (some p0)), .inl p1] s4) fun s9 =>
      onR r3 fun a10 =>
      chk (zkd s9 a10 = 2) <|
      onR (zr s9 134 a10) fun a11 =>
      chk (zkd s9 a11 = 3) <| zlt (zsi s9 197 a11 p2) fun s12 =>
      some (some (.inl v8), s12))
set_option maxRecDepth 20000 in
theorem eX10_setFeather (E : zE) (p0 : Nat) (p1 : Int32) (p2 : Int32) (σ : zS) : zM tX10_setFeather 5 (0, 0) E [.inr (.inl (some p0)), .inl p1, .inl p2] σ = fX10_setFeather E p0 p1 p2 σ :=
  (zun_at (fun pc => (oX10_setFeather pc).1) E (fun _ => false) 28 0 (0, 0) (zls0 [.inr (.inl (some p0)), .inl p1, .inl p2] 5) [] σ).trans rfl
noncomputable def fX10_invertMask (E : zE) (p0 : Nat) (p1 : Int32) (σ : zS) : zO :=
  chk (zkd σ p0 = 8) <|
  onR (zr σ 512 p0) fun a1 =>
  chk (zkd σ a1 = 0) <|
  bnR (E mX0_layerAt [.inr (.inl (zr σ 512 p0)), .inl p1] σ) fun r3 s2 =>
  nul r3 (
    some (some (.inl (-1001)), s2)) (
    chk (zkd s2 p0 = 8) <|
    bnV (E mX10_startChangeOf [.inr (.inl (some p0)), .inl p1] s2) fun s4 =>
    onR r3 fun a5 =>
    chk (zkd s4 a5 = 2) <|
    onR r3 fun a6 =>
    chk (zkd s4 a6 = 2) <|
    onR (zr s4 134 a6) fun a7 =>
    chk (zkd s4 a7 = 3) <|
    if ((zi s4 198 a7) : Int32) = 0 then
      onR (zr s4 134 a5) fun a8 =>
      chk (zkd s4 a8 = 3 ∧ zB 1) <| zlt (zsi s4 198 a8 1) fun s9 =>
      onR r3 fun a10 =>
      chk (zkd s9 a10 = 2) <|
      onR (zr s9 134 a10) fun a11 =>
      chk (zkd s9 a11 = 3) <|
      if ((zi s9 198 a11) : Int32) = 0 then
        some (some (.inl 0), s9)
      else
        some (some (.inl 1), s9)
    else
      onR (zr s4 134 a5) fun a12 =>
      chk (zkd s4 a12 = 3 ∧ zB 0) <| zlt (zsi s4 198 a12 0) fun s13 =>
      onR r3 fun a14 =>
      chk (zkd s13 a14 = 2) <|
      onR (zr s13 134 a14) fun a15 =>
      chk (zkd s13 a15 = 3) <|
      if ((zi s13 198 a15) : Int32) = 0 then
        some (some (.inl 0), s13)
      else
        some (some (.inl 1), s13))
set_option maxRecDepth 20000 in
theorem eX10_invertMask (E : zE) (p0 : Nat) (p1 : Int32) (σ : zS) : zM tX10_invertMask 3 (0, 0) E [.inr (.inl (some p0)), .inl p1] σ = fX10_invertMask E p0 p1 σ :=
  (zun_at (fun pc => (oX10_invertMask pc).1) E (fun _ => false) 31 0 (0, 0) (zls0 [.inr (.inl (some p0)), .inl p1] 3) [] σ).trans rfl
noncomputable def fX10_dab (E : zE) (p0 : Nat) (p1 : Int32) (p2 : Int32) (p3 : Int32) (p4 : Int32) (σ : zS) : zO :=
  chk (zkd σ p0 = 8) <|
  onR (zr σ 512 p0) fun a1 =>
  chk (zkd σ a1 = 0) <|
  bnR (E mX0_layerAt [.inr (.inl (zr σ 512 p0)), .inl p1] σ) fun r3 s2 =>
  nul r3 (
    some (some (.inl (-1001)), s2)) (
    bnI (E mX10_within [.inl p2, .inl 0, .inl 15] s2) fun v5 s4 =>
    if (v5 : Int32) = 0 then
      some (some (.inl (-1001)), s4)
    else
      bnI (E mX10_within [.inl p3, .inl 0, .inl 15] s4) fun v7 s6 =>
      if (v7 : Int32) = 0 then
        some (some (.inl (-1001)), s6)
      else
        bnI (E mX10_within [.inl p4, .inl 0, .inl 8] s6) fun v9 s8 =>
        if (v9 : Int32) = 0 then
          some (some (.inl (-1001)), s8)
        else
          onR r3 fun a10 =>
          chk (zkd s8 a10 = 2) <|
          onR (zr s8 134 a10) fun a11 =>
          chk (zkd s8 a11 = 3) <|
          if ((zi s8 199 a11) : Int32) < 6 then
            chk (zkd s8 p0 = 8) <|
            bnV (E mX10_startChangeOf [.inr (.inl (some p0)), .inl p1] s8) fun s12 =>
            onR r3 fun a13 =>
            chk (zkd s12 a13 = 2) <|
            onR (zr s12 134 a13) fun a14 =>
            chk (zkd s12 a14 = 3) <|
            bnV (E mX4_define [.inr (.inl (zr s12 134 a13)), .inl 4, .inl 0, .inl 0, .inl 0, .inl 0] s12) fun s15 =>
            onR r3 fun a16 =>
            chk (zkd s15 a16 = 2) <|
            onR (zr s15 134 a16) fun a17 =>
            chk (zkd s15 a17 = 3) <|
            bnV (E mX4_addDab [.inr (.inl (zr s15 134 a16)), .inl p2, .inl p3, .inl p4] s15) fun s18 =>
            onR r3 fun a19 =>
            chk (zkd s18 a19 = 2) <|
            onR (zr s18 134 a19) fun a20 =>
            chk (zkd s18 a20 = 3) <|
            some (some (.inl (zi s18 199 a20)), s18)
          else
            some (some (.inl (-1003)), s8))
set_option maxRecDepth 20000 in
theorem eX10_dab (E : zE) (p0 : Nat) (p1 : Int32) (p2 : Int32) (p3 : Int32) (p4 : Int32) (σ : zS) : zM tX10_dab 6 (0, 0) E [.inr (.inl (some p0)), .inl p1, .inl p2, .inl p3, .inl p4] σ = fX10_dab E p0 p1 p2 p3 p4 σ :=
  (zun_at (fun pc => (oX10_dab pc).1) E (fun _ => false) 53 0 (0, 0) (zls0 [.inr (.inl (some p0)), .inl p1, .inl p2, .inl p3, .inl p4] 6) [] σ).trans rfl
noncomputable def fX10_pixel (E : zE) (p0 : Nat) (p1 : Int32) (p2 : Int32) (p3 : Int32) (σ : zS) : zO :=
  chk (zkd σ p0 = 8) <|
  bnI (E mX10_hasOutput [.inr (.inl (some p0)), .inl p1] σ) fun v2 s1 =>
  if (v2 : Int32) = 0 then
    some (some (.inl (-1001)), s1)
  else
    chk (zkd s1 p0 = 8) <|
    onR (zr s1 512 p0) fun a3 =>
    chk (zkd s1 a3 = 0) <|
    onR (zr s1 0 a3) fun a4 =>
    chk (zkd s1 a4 = 4) <|
    bnI (E mX6_contains [.inr (.inl (zr s1 0 a3)), .inl p2, .inl p3] s1) fun v6 s5 =>
    if (v6 : Int32) = 0 then
      some (some (.inl (-1001)), s5)
    else
      chk (zkd s5 p0 = 8) <|
      onR (zr s5 517 p0) fun a7 =>
      chk (zkd s5 a7 = 7) <|
      bnI (E mX9_tileOf [.inr (.inl (zr s5 517 p0)), .inl p2] s5) fun v9 s8 =>
      chk (zkd s8 p0 = 8) <|
      onR (zr s8 517 p0) fun a10 =>
      chk (zkd s8 a10 = 7) <|
      bnI (E mX9_tileOf [.inr (.inl (zr s8 517 p0)), .inl p3] s8) fun v12 s11 =>
      chk (zkd s11 p0 = 8) <|
      bnV (E mX10_requestTile [.inr (.inl (some p0)), .inl p1, .inl v9, .inl v12] s11) fun s13 =>
      chk (zkd s13 p0 = 8) <|
      onR (zr s13 512 p0) fun a14 =>
      chk (zkd s13 a14 = 0) <|
      bnI (E mX0_enabledAtMost [.inr (.inl (zr s13 512 p0)), .inl p1] s13) fun v16 s15 =>
      chk (zkd s15 p0 = 8) <|
      bnR (E mX10_pictureOf [.inr (.inl (some p0)), .inl v16] s15) fun r18 s17 =>
      onR r18 fun a19 =>
      chk (zkd s17 a19 = 4) <|
      bnI (E mX6_at [.inr (.inl r18), .inl p2, .inl p3] s17) fun v21 s20 =>
      zlt (α := Int32) v21 fun v22 =>
      chk (zkd s20 p0 = 8) <|
      onR (zr s20 517 p0) fun a23 =>
      chk (zkd s20 a23 = 7) <|
      bnI (E mX9_dropSurplus [.inr (.inl (zr s20 517 p0))] s20) fun v25 s24 =>
      some (some (.inl v22), s24)
set_option maxRecDepth 20000 in
theorem eX10_pixel (E : zE) (p0 : Nat) (p1 : Int32) (p2 : Int32) (p3 : Int32) (σ : zS) : zM tX10_pixel 5 (0, 0) E [.inr (.inl (some p0)), .inl p1, .inl p2, .inl p3] σ = fX10_pixel E p0 p1 p2 p3 σ :=
  (zun_at (fun pc => (oX10_pixel pc).1) E (fun _ => false) 41 0 (0, 0) (zls0 [.inr (.inl (some p0)), .inl p1, .inl p2, .inl p3] 5) [] σ).trans rfl
noncomputable def LX10_prefetch_25 (E : zE) (l0 : Nat) (l1 : Int32) (l2 : Int32) (l3 : Int32) (l4 : zV) (σ : zS) : zO := zF tX10_prefetch E 25 (0, 0) [.inr (.inl (some l0)), .inl l1, .inl l2, .inl l3, l4] [] σ
noncomputable def LX10_prefetch_36 (E : zE) (l0 : Nat) (l1 : Int32) (l2 : Int32) (l3 : Int32) (l4 : Int32) (σ : zS) : zO := zF tX10_prefetch E 36 (0, 0) [.inr (.inl (some l0)), .inl l1, .inl l2, .inl l3, .inl l4] [] σ
set_option maxRecDepth 20000 in
theorem uX10_prefetch_25 (E : zE) (l0 : Nat) (l1 : Int32) (l2 : Int32) (l3 : Int32) (l4 : zV) (σ : zS) : LX10_prefetch_25 E l0 l1 l2 l3 l4 σ =
  (chk (zkd σ l0 = 8) <|
  bnI (E mX10_tileRows [.inr (.inl (some l0))] σ) fun v2 s1 =>
  if (l3 : Int32) < v2 then
    zlt (α := Int32) 0 fun v3 =>
    LX10_prefetch_36 E l0 l1 l2 l3 v3 s1
  else
    chk (zkd s1 l0 = 8) <|
    onR (zr s1 517 l0) fun a4 =>
    chk (zkd s1 a4 = 7) <|
    bnI (E mX9_dropSurplus [.inr (.inl (zr s1 517 l0))] s1) fun v6 s5 =>
    chk (zkd s5 l0 = 8) <|
    onR (zr s5 517 l0) fun a7 =>
    chk (zkd s5 a7 = 7) <|
    some (some (.inl ((zi s5 454 a7) - l2)), s5)) :=
  (zun_at (fun pc => (oX10_prefetch pc).1) E (fun q => Nat.beq q 25 || Nat.beq q 36) 43 25 (0, 0) [.inr (.inl (some l0)), .inl l1, .inl l2, .inl l3, l4] [] σ).trans rfl
set_option maxRecDepth 20000 in
theorem uX10_prefetch_36 (E : zE) (l0 : Nat) (l1 : Int32) (l2 : Int32) (l3 : Int32) (l4 : Int32) (σ : zS) : LX10_prefetch_36 E l0 l1 l2 l3 l4 σ =
  (chk (zkd σ l0 = 8) <|
  bnI (E mX10_tileColumns [.inr (.inl (some l0))] σ) fun v2 s1 =>
  if (l4 : Int32) < v2 then
    chk (zkd s1 l0 = 8) <|
    bnV (E mX10_requestTile [.inr (.inl (some l0)), .inl l1, .inl l4, .inl l3] s1) fun s3 =>
    zlt (α := Int32) (l4 + 1) fun v4 =>
    LX10_prefetch_36 E l0 l1 l2 l3 v4 s3
  else
    zlt (α := Int32) (l3 + 1) fun v5 =>
    LX10_prefetch_25 E l0 l1 l2 v5 (.inl l4) s1) :=
  (zun_at (fun pc => (oX10_prefetch pc).1) E (fun q => Nat.beq q 25 || Nat.beq q 36) 43 36 (0, 0) [.inr (.inl (some l0)), .inl l1, .inl l2, .inl l3, .inl l4] [] σ).trans rfl
noncomputable def fX10_prefetch (E : zE) (p0 : Nat) (p1 : Int32) (σ : zS) : zO :=
  chk (zkd σ p0 = 8) <|
  onR (zr σ 512 p0) fun a1 =>
  chk (zkd σ a1 = 0) <|
  bnR (E mX0_layerAt [.inr (.inl (zr σ 512 p0)), .inl p1] σ) fun r3 s2 =>
  nul r3 (
    some (some (.inl (-1001)), s2)) (
    chk (zkd s2 p0 = 8) <|
    onR (zr s2 517 p0) fun a4 =>
    chk (zkd s2 a4 = 7) <|
    zlt (α := Int32) (zi s2 454 a4) fun v5 =>
    zlt (α := Int32) 0 fun v6 =>
    LX10_prefetch_25 E p0 p1 v5 v6 (.inr (.inr none)) s2)
set_option maxRecDepth 20000 in
theorem eX10_prefetch (E : zE) (p0 : Nat) (p1 : Int32) (σ : zS) : zM tX10_prefetch 5 (0, 0) E [.inr (.inl (some p0)), .inl p1] σ = fX10_prefetch E p0 p1 σ :=
  (zun_at (fun pc => (oX10_prefetch pc).1) E (fun q => Nat.beq q 25 || Nat.beq q 36) 43 0 (0, 0) (zls0 [.inr (.inl (some p0)), .inl p1] 5) [] σ).trans rfl
noncomputable def fX10_setCacheLimit (E : zE) (p0 : Nat) (p1 : Int32) (σ : zS) : zO :=
  bnI (E mX10_within [.inl p1, .inl 1, .inl 64] σ) fun v2 s1 =>
  if (v2 : Int32) = 0 then
    some (some (.inl (-1001)), s1)
  else
    chk (zkd s1 p0 = 8) <|
    onR (zr s1 517 p0) fun a3 =>
    chk (zkd s1 a3 = 7) <| zlt (zsi s1 451 a3 p1) fun s4 =>
    chk (zkd s4 p0 = 8) <|
    onR (zr s4 517 p0) fun a5 =>
    chk (zkd s4 a5 = 7) <|
    bnI (E mX9_dropSurplus [.inr (.inl (zr s4 517 p0))] s4) fun v7 s6 =>
    some (some (.inl v7), s6)
set_option maxRecDepth 20000 in
theorem eX10_setCacheLimit (E : zE) (p0 : Nat) (p1 : Int32) (σ : zS) : zM tX10_setCacheLimit 2 (0, 0) E [.inr (.inl (some p0)), .inl p1] σ = fX10_setCacheLimit E p0 p1 σ :=
  (zun_at (fun pc => (oX10_setCacheLimit pc).1) E (fun _ => false) 16 0 (0, 0) (zls0 [.inr (.inl (some p0)), .inl p1] 2) [] σ).trans rfl
noncomputable def fX10_setTileSize (E : zE) (p0 : Nat) (p1 : Int32) (σ : zS) : zO :=
  bnI (E mX10_within [.inl p1, .inl 2, .inl 8] σ) fun v2 s1 =>
  if (v2 : Int32) = 0 then
    some (some (.inl (-1001)), s1)
  else
    chk (zkd s1 p0 = 8) <|
    onR (zr s1 517 p0) fun a3 =>
    chk (zkd s1 a3 = 7) <| zlt (zsi s1 450 a3 p1) fun s4 =>
    chk (zkd s4 p0 = 8) <|
    onR (zr s4 517 p0) fun a5 =>
    chk (zkd s4 a5 = 7) <|
    bnI (E mX9_removeAll [.inr (.inl (zr s4 517 p0))] s4) fun v7 s6 =>
    some (some (.inl v7), s6)
set_option maxRecDepth 20000 in
theorem eX10_setTileSize (E : zE) (p0 : Nat) (p1 : Int32) (σ : zS) : zM tX10_setTileSize 2 (0, 0) E [.inr (.inl (some p0)), .inl p1] σ = fX10_setTileSize E p0 p1 σ :=
  (zun_at (fun pc => (oX10_setTileSize pc).1) E (fun _ => false) 16 0 (0, 0) (zls0 [.inr (.inl (some p0)), .inl p1] 2) [] σ).trans rfl
noncomputable def fX10_clearCache (E : zE) (p0 : Nat) (σ : zS) : zO :=
  chk (zkd σ p0 = 8) <|
  onR (zr σ 517 p0) fun a1 =>
  chk (zkd σ a1 = 7) <|
  bnI (E mX9_removeAll [.inr (.inl (zr σ 517 p0))] σ) fun v3 s2 =>
  some (some (.inl v3), s2)
set_option maxRecDepth 20000 in
theorem eX10_clearCache (E : zE) (p0 : Nat) (σ : zS) : zM tX10_clearCache 1 (0, 0) E [.inr (.inl (some p0))] σ = fX10_clearCache E p0 σ :=
  (zun_at (fun pc => (oX10_clearCache pc).1) E (fun _ => false) 5 0 (0, 0) (zls0 [.inr (.inl (some p0))] 1) [] σ).trans rfl
noncomputable def fX10_cachedTiles (E : zE) (p0 : Nat) (p1 : Int32) (σ : zS) : zO :=
  chk (zkd σ p0 = 8) <|
  onR (zr σ 512 p0) fun a1 =>
  chk (zkd σ a1 = 0) <|
  bnR (E mX0_layerAt [.inr (.inl (zr σ 512 p0)), .inl p1] σ) fun r3 s2 =>
  nul r3 (
    some (some (.inl (-1001)), s2)) (
    chk (zkd s2 p0 = 8) <|
    onR (zr s2 517 p0) fun a4 =>
    chk (zkd s2 a4 = 7) <|
    bnI (E mX9_tilesOf [.inr (.inl (zr s2 517 p0)), .inl p1] s2) fun v6 s5 =>
    some (some (.inl v6), s5))
set_option maxRecDepth 20000 in
theorem eX10_cachedTiles (E : zE) (p0 : Nat) (p1 : Int32) (σ : zS) : zM tX10_cachedTiles 2 (0, 0) E [.inr (.inl (some p0)), .inl p1] σ = fX10_cachedTiles E p0 p1 σ :=
  (zun_at (fun pc => (oX10_cachedTiles pc).1) E (fun _ => false) 13 0 (0, 0) (zls0 [.inr (.inl (some p0)), .inl p1] 2) [] σ).trans rfl
noncomputable def fX10_counter (E : zE) (p0 : Nat) (p1 : Int32) (σ : zS) : zO :=
  if (p1 : Int32) = 0 then
    chk (zkd σ p0 = 8) <|
    onR (zr σ 517 p0) fun a1 =>
    chk (zkd σ a1 = 7) <|
    some (some (.inl (zi σ 454 a1)), σ)
  else if (p1 : Int32) = 1 then
    chk (zkd σ p0 = 8) <|
    onR (zr σ 517 p0) fun a2 =>
    chk (zkd σ a2 = 7) <|
    some (some (.inl (zi σ 455 a2)), σ)
  else if (p1 : Int32) = 2 then
    chk (zkd σ p0 = 8) <|
    onR (zr σ 517 p0) fun a3 =>
    chk (zkd σ a3 = 7) <|
    some (some (.inl (zi σ 456 a3)), σ)
  else 
    some (some (.inl (-1001)), σ)
set_option maxRecDepth 20000 in
theorem eX10_counter (E : zE) (p0 : Nat) (p1 : Int32) (σ : zS) : zM tX10_counter 2 (0, 0) E [.inr (.inl (some p0)), .inl p1] σ = fX10_counter E p0 p1 σ :=
  (zun_at (fun pc => (oX10_counter pc).1) E (fun _ => false) 17 0 (0, 0) (zls0 [.inr (.inl (some p0)), .inl p1] 2) [] σ).trans rfl
noncomputable def fX10_tileColumns (E : zE) (p0 : Nat) (σ : zS) : zO :=
  chk (zkd σ p0 = 8) <|
  chk (zkd σ p0 = 8) <|
  onR (zr σ 512 p0) fun a1 =>
  chk (zkd σ a1 = 0) <|
  onR (zr σ 0 a1) fun a2 =>
  chk (zkd σ a2 = 4) <|
  onR (zr σ 517 p0) fun a3 =>
  chk (zkd σ a3 = 7) <|
  bnI (E mX9_tileOf [.inr (.inl (zr σ 517 p0)), .inl ((zi σ 257 a2) - 1)] σ) fun v5 s4 =>
  some (some (.inl (v5 + 1)), s4)
set_option maxRecDepth 20000 in
theorem eX10_tileColumns (E : zE) (p0 : Nat) (σ : zS) : zM tX10_tileColumns 1 (0, 0) E [.inr (.inl (some p0))] σ = fX10_tileColumns E p0 σ :=
  (zun_at (fun pc => (oX10_tileColumns pc).1) E (fun _ => false) 13 0 (0, 0) (zls0 [.inr (.inl (some p0))] 1) [] σ).trans rfl
noncomputable def fX10_tileRows (E : zE) (p0 : Nat) (σ : zS) : zO :=
  chk (zkd σ p0 = 8) <|
  chk (zkd σ p0 = 8) <|
  onR (zr σ 512 p0) fun a1 =>
  chk (zkd σ a1 = 0) <|
  onR (zr σ 0 a1) fun a2 =>
  chk (zkd σ a2 = 4) <|
  onR (zr σ 517 p0) fun a3 =>
  chk (zkd σ a3 = 7) <|
  bnI (E mX9_tileOf [.inr (.inl (zr σ 517 p0)), .inl ((zi σ 258 a2) - 1)] σ) fun v5 s4 =>
  some (some (.inl (v5 + 1)), s4)
set_option maxRecDepth 20000 in
theorem eX10_tileRows (E : zE) (p0 : Nat) (σ : zS) : zM tX10_tileRows 1 (0, 0) E [.inr (.inl (some p0))] σ = fX10_tileRows E p0 σ :=
  (zun_at (fun pc => (oX10_tileRows pc).1) E (fun _ => false) 13 0 (0, 0) (zls0 [.inr (.inl (some p0))] 1) [] σ).trans rfl
noncomputable def fX10_requestTile (E : zE) (p0 : Nat) (p1 : Int32) (p2 : Int32) (p3 : Int32) (σ : zS) : zO :=
  chk (zkd σ p0 = 8) <|
  onR (zr σ 512 p0) fun a1 =>
  chk (zkd σ a1 = 0) <|
  bnI (E mX0_enabledAtMost [.inr (.inl (zr σ 512 p0)), .inl p1] σ) fun v3 s2 =>
  zlt (α := Int32) v3 fun v4 =>
  chk (zkd s2 p0 = 8) <|
  onR (zr s2 512 p0) fun a5 =>
  chk (zkd s2 a5 = 0) <|
  bnR (E mX0_layerAt [.inr (.inl (zr s2 512 p0)), .inl v4] s2) fun r7 s6 =>
  nul r7 (
    some (none, s6)) (
    chk (zkd s6 p0 = 8) <|
    onR (zr s6 517 p0) fun a8 =>
    chk (zkd s6 a8 = 7) <|
    bnI (E mX9_holds [.inr (.inl (zr s6 517 p0)), .inl v4, .inl p2, .inl p3] s6) fun v10 s9 =>
    if (v10 : Int32) = 0 then
      onR r7 fun a11 =>
      chk (zkd s9 a11 = 2) <|
      bnI (E mX3_reach [.inr (.inl r7)] s9) fun v13 s12 =>
      chk (zkd s12 p0 = 8) <|
      bnV (E mX10_requestInput [.inr (.inl (some p0)), .inl (v4 - 1), .inl p2, .inl p3, .inl v13] s12) fun s14 =>
      chk (zkd s14 p0 = 8) <|
      onR (zr s14 517 p0) fun a15 =>
      chk (zkd s14 a15 = 7) <|
      bnR (E mX9_outputAt [.inr (.inl (zr s14 517 p0)), .inl v4] s14) fun r17 s16 =>
      nul r17 (
        some (none, s16)) (
        chk (zkd s16 p0 = 8) <|
        onR (zr s16 517 p0) fun a18 =>
        chk (zkd s16 a18 = 7) <|
        zlt (α := Int32) (zi s16 450 a18) fun v19 =>
        chk (zkd s16 p0 = 8) <|
        onR (zr s16 512 p0) fun a20 =>
        chk (zkd s16 a20 = 0) <|
        bnI (E mX0_enabledAtMost [.inr (.inl (zr s16 512 p0)), .inl (v4 - 1)] s16) fun v22 s21 =>
        chk (zkd s21 p0 = 8) <|
        bnR (E mX10_pictureOf [.inr (.inl (some p0)), .inl v22] s21) fun r24 s23 =>
        chk (zkd s23 p0 = 8) <|
        onR (zr s23 518 p0) fun a25 =>
        chk (zkd s23 a25 = 5) <|
        bnV (E mX7_render [.inr (.inl (zr s23 518 p0)), .inr (.inl r7), .inr (.inl r24), .inr (.inl r17), .inl (p2 * v19), .inl (p3 * v19), .inl v19] s23) fun s26 =>
        chk (zkd s26 p0 = 8) <|
        onR (zr s26 517 p0) fun a27 =>
        chk (zkd s26 a27 = 7) <|
        bnV (E mX9_noteComputed [.inr (.inl (zr s26 517 p0)), .inl v4, .inl p2, .inl p3] s26) fun s28 =>
        some (none, s28))
    else
      chk (zkd s9 p0 = 8) <|
      onR (zr s9 517 p0) fun a29 =>
      chk (zkd s9 a29 = 7) <|
      bnV (E mX9_noteFound [.inr (.inl (zr s9 517 p0)), .inl v4, .inl p2, .inl p3] s9) fun s30 =>
      some (none, s30))
set_option maxRecDepth 20000 in
theorem eX10_requestTile (E : zE) (p0 : Nat) (p1 : Int32) (p2 : Int32) (p3 : Int32) (σ : zS) : zM tX10_requestTile 9 (0, 0) E [.inr (.inl (some p0)), .inl p1, .inl p2, .inl p3] σ = fX10_requestTile E p0 p1 p2 p3 σ :=
  (zun_at (fun pc => (oX10_requestTile pc).1) E (fun _ => false) 78 0 (0, 0) (zls0 [.inr (.inl (some p0)), .inl p1, .inl p2, .inl p3] 9) [] σ).trans rfl
noncomputable def LX10_requestInput_128 (E : zE) (l0 : Nat) (l1 : Int32) (l2 : zV) (l3 : zV) (l4 : zV) (l5 : zV) (l6 : Int32) (l7 : Int32) (l8 : zV) (l9 : Int32) (l10 : Int32) (l11 : zV) (σ : zS) : zO := zF tX10_requestInput E 128 (0, 0) [.inr (.inl (some l0)), .inl l1, l2, l3, l4, l5, .inl l6, .inl l7, l8, .inl l9, .inl l10, l11] [] σ
noncomputable def LX10_requestInput_139 (E : zE) (l0 : Nat) (l1 : Int32) (l2 : zV) (l3 : zV) (l4 : zV) (l5 : zV) (l6 : Int32) (l7 : Int32) (l8 : zV) (l9 : Int32) (l10 : Int32) (l11 : Int32) (σ : zS) : zO := zF tX10_requestInput E 139 (0, 0) [.inr (.inl (some l0)), .inl l1, l2, l3, l4, l5, .inl l6, .inl l7, l8, .inl l9, .inl l10, .inl l11] [] σ
set_option maxRecDepth 20000 in
theorem uX10_requestInput_128 (E : zE) (l0 : Nat) (l1 : Int32) (l2 : zV) (l3 : zV) (l4 : zV) (l5 : zV) (l6 : Int32) (l7 : Int32) (l8 : zV) (l9 : Int32) (l10 : Int32) (l11 : zV) (σ : zS) : LX10_requestInput_128 E l0 l1 l2 l3 l4 l5 l6 l7 l8 l9 l10 l11 σ =
  (if (l10 : Int32) ≤ l9 then
    zlt (α := Int32) l6 fun v1 =>
    LX10_requestInput_139 E l0 l1 (l2) (l3) (l4) (l5) l6 l7 (l8) l9 l10 v1 σ
  else
    some (none, σ)) :=
  (zun_at (fun pc => (oX10_requestInput pc).1) E (fun q => Nat.beq q 128 || Nat.beq q 139) 90 128 (0, 0) [.inr (.inl (some l0)), .inl l1, l2, l3, l4, l5, .inl l6, .inl l7, l8, .inl l9, .inl l10, l11] [] σ).trans rfl
set_option maxRecDepth 20000 in
theorem uX10_requestInput_139 (E : zE) (l0 : Nat) (l1 : Int32) (l2 : zV) (l3 : zV) (l4 : zV) (l5 : zV) (l6 : Int32) (l7 : Int32) (l8 : zV) (l9 : Int32) (l10 : Int32) (l11 : Int32) (σ : zS) : LX10_requestInput_139 E l0 l1 l2 l3 l4 l5 l6 l7 l8 l9 l10 l11 σ =
  (if (l11 : Int32) ≤ l7 then
    chk (zkd σ l0 = 8) <|
    bnV (E mX10_requestTile [.inr (.inl (some l0)), .inl l1, .inl l11, .inl l10] σ) fun s1 =>
    zlt (α := Int32) (l11 + 1) fun v2 =>
    LX10_requestInput_139 E l0 l1 (l2) (l3) (l4) (l5) l6 l7 (l8) l9 l10 v2 s1
  else
    zlt (α := Int32) (l10 + 1) fun v3 =>
    LX10_requestInput_128 E l0 l1 (l2) (l3) (l4) (l5) l6 l7 (l8) l9 v3 (.inl l11) σ) :=
  (zun_at (fun pc => (oX10_requestInput pc).1) E (fun q => Nat.beq q 128 || Nat.beq q 139) 90 139 (0, 0) [.inr (.inl (some l0)), .inl l1, l2, l3, l4, l5, .inl l6, .inl l7, l8, .inl l9, .inl l10, .inl l11] [] σ).trans rfl
noncomputable def fX10_requestInput (E : zE) (p0 : Nat) (p1 : Int32) (p2 : Int32) (p3 : Int32) (p4 : Int32) (σ : zS) : zO :=
  if (p1 : Int32) < 0 then
    some (none, σ)
  else
    chk (zkd σ p0 = 8) <|
    onR (zr σ 517 p0) fun a1 =>
    chk (zkd σ a1 = 7) <|
    zlt (α := Int32) (zi σ 450 a1) fun v2 =>
    chk (zkd σ p0 = 8) <|
    bnI (E mJ9_max_7cf53 [.inl ((p2 * v2) - p4), .inl 0] σ) fun v4 s3 =>
    onR (zr σ 517 p0) fun a5 =>
    chk (zkd s3 a5 = 7) <|
    bnI (E mX9_tileOf [.inr (.inl (zr σ 517 p0)), .inl v4] s3) fun v7 s6 =>
    zlt (α := Int32) v7 fun v8 =>
    chk (zkd s6 p0 = 8) <|
    chk (zkd s6 p0 = 8) <|
    onR (zr s6 512 p0) fun a9 =>
    chk (zkd s6 a9 = 0) <|
    onR (zr s6 0 a9) fun a10 =>
    chk (zkd s6 a10 = 4) <|
    bnI (E mJ9_min_7cf53 [.inl ((((p2 + 1) * v2) - 1) + p4), .inl ((zi s6 257 a10) - 1)] s6) fun v12 s11 =>
    onR (zr s6 517 p0) fun a13 =>
    chk (zkd s11 a13 = 7) <|
    bnI (E mX9_tileOf [.inr (.inl (zr s6 517 p0)), .inl v12] s11) fun v15 s14 =>
    zlt (α := Int32) v15 fun v16 =>
    chk (zkd s14 p0 = 8) <|
    bnI (E mJ9_max_7cf53 [.inl ((p3 * v2) - p4), .inl 0] s14) fun v18 s17 =>
    onR (zr s14 517 p0) fun a19 =>
    chk (zkd s17 a19 = 7) <|
    bnI (E mX9_tileOf [.inr (.inl (zr s14 517 p0)), .inl v18] s17) fun v21 s20 =>
    zlt (α := Int32) v21 fun v22 =>
    chk (zkd s20 p0 = 8) <|
    chk (zkd s20 p0 = 8) <|
    onR (zr s20 512 p0) fun a23 =>
    chk (zkd s20 a23 = 0) <|
    onR (zr s20 0 a23) fun a24 =>
    chk (zkd s20 a24 = 4) <|
    bnI (E mJ9_min_7cf53 [.inl ((((p3 + 1) * v2) - 1) + p4), .inl ((zi s20 258 a24) - 1)] s20) fun v26 s25 =>
    onR (zr s20 517 p0) fun a27 =>
    chk (zkd s25 a27 = 7) <|
    bnI (E mX9_tileOf [.inr (.inl (zr s20 517 p0)), .inl v26] s25) fun v29 s28 =>
    zlt (α := Int32) v29 fun v30 =>
    zlt (α := Int32) v22 fun v31 =>
    LX10_requestInput_128 E p0 p1 (.inl p2) (.inl p3) (.inl p4) (.inl v2) v8 v16 (.inl v22) v30 v31 (.inr (.inr none)) s28
set_option maxRecDepth 20000 in
theorem eX10_requestInput (E : zE) (p0 : Nat) (p1 : Int32) (p2 : Int32) (p3 : Int32) (p4 : Int32) (σ : zS) : zM tX10_requestInput 12 (0, 0) E [.inr (.inl (some p0)), .inl p1, .inl p2, .inl p3, .inl p4] σ = fX10_requestInput E p0 p1 p2 p3 p4 σ :=
  (zun_at (fun pc => (oX10_requestInput pc).1) E (fun q => Nat.beq q 128 || Nat.beq q 139) 90 0 (0, 0) (zls0 [.inr (.inl (some p0)), .inl p1, .inl p2, .inl p3, .inl p4] 12) [] σ).trans rfl
noncomputable def fX10_pictureOf (E : zE) (p0 : Nat) (p1 : Int32) (σ : zS) : zO :=
  chk (zkd σ p0 = 8) <|
  onR (zr σ 517 p0) fun a1 =>
  chk (zkd σ a1 = 7) <|
  bnR (E mX9_outputAt [.inr (.inl (zr σ 517 p0)), .inl p1] σ) fun r3 s2 =>
  nul r3 (
    chk (zkd s2 p0 = 8) <|
    onR (zr s2 512 p0) fun a4 =>
    chk (zkd s2 a4 = 0) <|
    some (some (.inr (.inl (zr s2 0 a4))), s2)) (
    some (some (.inr (.inl r3)), s2))
set_option maxRecDepth 20000 in
theorem eX10_pictureOf (E : zE) (p0 : Nat) (p1 : Int32) (σ : zS) : zM tX10_pictureOf 3 (0, 0) E [.inr (.inl (some p0)), .inl p1] σ = fX10_pictureOf E p0 p1 σ :=
  (zun_at (fun pc => (oX10_pictureOf pc).1) E (fun _ => false) 14 0 (0, 0) (zls0 [.inr (.inl (some p0)), .inl p1] 3) [] σ).trans rfl
noncomputable def LX10_histogram_56 (E : zE) (l0 : Nat) (l1 : zV) (l2 : Int32) (l3 : Int32) (l4 : Int32) (l5 : Int32) (l6 : zV) (σ : zS) : zO := zF tX10_histogram E 56 (0, 0) [.inr (.inl (some l0)), l1, .inl l2, .inl l3, .inl l4, .inl l5, l6] [] σ
noncomputable def LX10_histogram_71 (E : zE) (l0 : Nat) (l1 : zV) (l2 : Int32) (l3 : Int32) (l4 : Int32) (l5 : Int32) (l6 : Int32) (σ : zS) : zO := zF tX10_histogram E 71 (0, 0) [.inr (.inl (some l0)), l1, .inl l2, .inl l3, .inl l4, .inl l5, .inl l6] [] σ
set_option maxRecDepth 20000 in
theorem uX10_histogram_56 (E : zE) (l0 : Nat) (l1 : zV) (l2 : Int32) (l3 : Int32) (l4 : Int32) (l5 : Int32) (l6 : zV) (σ : zS) : LX10_histogram_56 E l0 l1 l2 l3 l4 l5 l6 σ =
  (chk (zkd σ l0 = 8) <|
  onR (zr σ 519 l0) fun a1 =>
  chk (zkd σ a1 = 4) <|
  if (l5 : Int32) < (zi σ 258 a1) then
    zlt (α := Int32) 0 fun v2 =>
    LX10_histogram_71 E l0 (l1) l2 l3 l4 l5 v2 σ
  else
    some (some (.inl l4), σ)) :=
  (zun_at (fun pc => (oX10_histogram pc).1) E (fun q => Nat.beq q 56 || Nat.beq q 71) 57 56 (0, 0) [.inr (.inl (some l0)), l1, .inl l2, .inl l3, .inl l4, .inl l5, l6] [] σ).trans rfl
set_option maxRecDepth 20000 in
theorem uX10_histogram_71 (E : zE) (l0 : Nat) (l1 : zV) (l2 : Int32) (l3 : Int32) (l4 : Int32) (l5 : Int32) (l6 : Int32) (σ : zS) : LX10_histogram_71 E l0 l1 l2 l3 l4 l5 l6 σ =
  (chk (zkd σ l0 = 8) <|
  onR (zr σ 519 l0) fun a1 =>
  chk (zkd σ a1 = 4) <|
  if (l6 : Int32) < (zi σ 257 a1) then
    chk (zkd σ l0 = 8) <|
    onR (zr σ 519 l0) fun a2 =>
    chk (zkd σ a2 = 4) <|
    bnI (E mX6_at [.inr (.inl (zr σ 519 l0)), .inl l6, .inl l5] σ) fun v4 s3 =>
    bnI (E mX10_within [.inl v4, .inl l2, .inl l3] s3) fun v6 s5 =>
    if (v6 : Int32) = 0 then
      zlt (α := Int32) (l6 + 1) fun v7 =>
      LX10_histogram_71 E l0 (l1) l2 l3 l4 l5 v7 s5
    else
      zlt (α := Int32) (l4 + 1) fun v8 =>
      zlt (α := Int32) (l6 + 1) fun v9 =>
      LX10_histogram_71 E l0 (l1) l2 l3 v8 l5 v9 s5
  else
    zlt (α := Int32) (l5 + 1) fun v10 =>
    LX10_histogram_56 E l0 (l1) l2 l3 l4 v10 (.inl l6) σ) :=
  (zun_at (fun pc => (oX10_histogram pc).1) E (fun q => Nat.beq q 56 || Nat.beq q 71) 57 71 (0, 0) [.inr (.inl (some l0)), l1, .inl l2, .inl l3, .inl l4, .inl l5, .inl l6] [] σ).trans rfl
noncomputable def fX10_histogram (E : zE) (p0 : Nat) (p1 : Int32) (p2 : Int32) (p3 : Int32) (σ : zS) : zO :=
  chk (zkd σ p0 = 8) <|
  bnI (E mX10_hasOutput [.inr (.inl (some p0)), .inl p1] σ) fun v2 s1 =>
  if (v2 : Int32) = 0 then
    some (some (.inl (-1001)), s1)
  else
    bnI (E mX10_within [.inl p2, .inl 0, .inl 255] s1) fun v4 s3 =>
    if (v4 : Int32) = 0 then
      some (some (.inl (-1001)), s3)
    else
      bnI (E mX10_within [.inl p3, .inl p2, .inl 255] s3) fun v6 s5 =>
      if (v6 : Int32) = 0 then
        some (some (.inl (-1001)), s5)
      else
        chk (zkd s5 p0 = 8) <|
        chk (zkd s5 p0 = 8) <|
        chk (zkd s5 p0 = 8) <|
        onR (zr s5 518 p0) fun a7 =>
        chk (zkd s5 a7 = 5) <|
        bnV (E mX7_renderStack [.inr (.inl (zr s5 518 p0)), .inr (.inl (zr s5 512 p0)), .inl p1, .inr (.inl (zr s5 519 p0))] s5) fun s8 =>
        zlt (α := Int32) 0 fun v9 =>
        zlt (α := Int32) 0 fun v10 =>
        LX10_histogram_56 E p0 (.inl p1) p2 p3 v9 v10 (.inr (.inr none)) s8
set_option maxRecDepth 20000 in
theorem eX10_histogram (E : zE) (p0 : Nat) (p1 : Int32) (p2 : Int32) (p3 : Int32) (σ : zS) : zM tX10_histogram 7 (0, 0) E [.inr (.inl (some p0)), .inl p1, .inl p2, .inl p3] σ = fX10_histogram E p0 p1 p2 p3 σ :=
  (zun_at (fun pc => (oX10_histogram pc).1) E (fun q => Nat.beq q 56 || Nat.beq q 71) 57 0 (0, 0) (zls0 [.inr (.inl (some p0)), .inl p1, .inl p2, .inl p3] 7) [] σ).trans rfl
noncomputable def LX10_sum_32 (E : zE) (l0 : Nat) (l1 : zV) (l2 : Int32) (l3 : Int32) (l4 : zV) (σ : zS) : zO := zF tX10_sum E 32 (0, 0) [.inr (.inl (some l0)), l1, .inl l2, .inl l3, l4] [] σ
noncomputable def LX10_sum_46 (E : zE) (l0 : Nat) (l1 : zV) (l2 : Int32) (l3 : Int32) (l4 : Int32) (σ : zS) : zO := zF tX10_sum E 46 (0, 0) [.inr (.inl (some l0)), l1, .inl l2, .inl l3, .inl l4] [] σ
set_option maxRecDepth 20000 in
theorem uX10_sum_32 (E : zE) (l0 : Nat) (l1 : zV) (l2 : Int32) (l3 : Int32) (l4 : zV) (σ : zS) : LX10_sum_32 E l0 l1 l2 l3 l4 σ =
  (chk (zkd σ l0 = 8) <|
  onR (zr σ 519 l0) fun a1 =>
  chk (zkd σ a1 = 4) <|
  if (l3 : Int32) < (zi σ 258 a1) then
    zlt (α := Int32) 0 fun v2 =>
    LX10_sum_46 E l0 (l1) l2 l3 v2 σ
  else
    some (some (.inl l2), σ)) :=
  (zun_at (fun pc => (oX10_sum pc).1) E (fun q => Nat.beq q 32 || Nat.beq q 46) 45 32 (0, 0) [.inr (.inl (some l0)), l1, .inl l2, .inl l3, l4] [] σ).trans rfl
set_option maxRecDepth 20000 in
theorem uX10_sum_46 (E : zE) (l0 : Nat) (l1 : zV) (l2 : Int32) (l3 : Int32) (l4 : Int32) (σ : zS) : LX10_sum_46 E l0 l1 l2 l3 l4 σ =
  (chk (zkd σ l0 = 8) <|
  onR (zr σ 519 l0) fun a1 =>
  chk (zkd σ a1 = 4) <|
  if (l4 : Int32) < (zi σ 257 a1) then
    chk (zkd σ l0 = 8) <|
    onR (zr σ 519 l0) fun a2 =>
    chk (zkd σ a2 = 4) <|
    bnI (E mX6_at [.inr (.inl (zr σ 519 l0)), .inl l4, .inl l3] σ) fun v4 s3 =>
    zlt (α := Int32) (l2 + v4) fun v5 =>
    zlt (α := Int32) (l4 + 1) fun v6 =>
    LX10_sum_46 E l0 (l1) v5 l3 v6 s3
  else
    zlt (α := Int32) (l3 + 1) fun v7 =>
    LX10_sum_32 E l0 (l1) l2 v7 (.inl l4) σ) :=
  (zun_at (fun pc => (oX10_sum pc).1) E (fun q => Nat.beq q 32 || Nat.beq q 46) 45 46 (0, 0) [.inr (.inl (some l0)), l1, .inl l2, .inl l3, .inl l4] [] σ).trans rfl
noncomputable def fX10_sum (E : zE) (p0 : Nat) (p1 : Int32) (σ : zS) : zO :=
  chk (zkd σ p0 = 8) <|
  bnI (E mX10_hasOutput [.inr (.inl (some p0)), .inl p1] σ) fun v2 s1 =>
  if (v2 : Int32) = 0 then
    some (some (.inl (-1001)), s1)
  else
    chk (zkd s1 p0 = 8) <|
    chk (zkd s1 p0 = 8) <|
    chk (zkd s1 p0 = 8) <|
    onR (zr s1 518 p0) fun a3 =>
    chk (zkd s1 a3 = 5) <|
    bnV (E mX7_renderStack [.inr (.inl (zr s1 518 p0)), .inr (.inl (zr s1 512 p0)), .inl p1, .inr (.inl (zr s1 519 p0))] s1) fun s4 =>
    zlt (α := Int32) 0 fun v5 =>
    zlt (α := Int32) 0 fun v6 =>
    LX10_sum_32 E p0 (.inl p1) v5 v6 (.inr (.inr none)) s4
set_option maxRecDepth 20000 in
theorem eX10_sum (E : zE) (p0 : Nat) (p1 : Int32) (σ : zS) : zM tX10_sum 5 (0, 0) E [.inr (.inl (some p0)), .inl p1] σ = fX10_sum E p0 p1 σ :=
  (zun_at (fun pc => (oX10_sum pc).1) E (fun q => Nat.beq q 32 || Nat.beq q 46) 45 0 (0, 0) (zls0 [.inr (.inl (some p0)), .inl p1] 5) [] σ).trans rfl
noncomputable def fX10_effect (E : zE) (p0 : Nat) (p1 : Int32) (σ : zS) : zO :=
  chk (zkd σ p0 = 8) <|
  onR (zr σ 512 p0) fun a1 =>
  chk (zkd σ a1 = 0) <|
  bnR (E mX0_layerAt [.inr (.inl (zr σ 512 p0)), .inl p1] σ) fun r3 s2 =>
  nul r3 (
    some (some (.inl (-1001)), s2)) (
    chk (zkd s2 p0 = 8) <|
    chk (zkd s2 p0 = 8) <|
    chk (zkd s2 p0 = 8) <|
    onR (zr s2 512 p0) fun a4 =>
    chk (zkd s2 a4 = 0) <|
    bnI (E mX0_layerCount [.inr (.inl (zr s2 512 p0))] s2) fun v6 s5 =>
    chk (zkd s5 p0 = 8) <|
    onR (zr s2 518 p0) fun a7 =>
    chk (zkd s5 a7 = 5) <|
    bnV (E mX7_renderStack [.inr (.inl (zr s2 518 p0)), .inr (.inl (zr s2 512 p0)), .inl (v6 - 1), .inr (.inl (zr s5 519 p0))] s5) fun s8 =>
    chk (zkd s8 p0 = 8) <|
    bnI (E mX10_changeWithout [.inr (.inl (some p0)), .inl p1] s8) fun v10 s9 =>
    some (some (.inl v10), s9))
set_option maxRecDepth 20000 in
theorem eX10_effect (E : zE) (p0 : Nat) (p1 : Int32) (σ : zS) : zM tX10_effect 2 (0, 0) E [.inr (.inl (some p0)), .inl p1] σ = fX10_effect E p0 p1 σ :=
  (zun_at (fun pc => (oX10_effect pc).1) E (fun _ => false) 24 0 (0, 0) (zls0 [.inr (.inl (some p0)), .inl p1] 2) [] σ).trans rfl
noncomputable def LX10_strongestLayer_32 (E : zE) (l0 : Nat) (l1 : Int32) (l2 : Int32) (l3 : Int32) (l4 : zV) (σ : zS) : zO := zF tX10_strongestLayer E 32 (0, 0) [.inr (.inl (some l0)), .inl l1, .inl l2, .inl l3, l4] [] σ
set_option maxRecDepth 20000 in
theorem uX10_strongestLayer_32 (E : zE) (l0 : Nat) (l1 : Int32) (l2 : Int32) (l3 : Int32) (l4 : zV) (σ : zS) : LX10_strongestLayer_32 E l0 l1 l2 l3 l4 σ =
  (chk (zkd σ l0 = 8) <|
  onR (zr σ 512 l0) fun a1 =>
  chk (zkd σ a1 = 0) <|
  bnI (E mX0_layerCount [.inr (.inl (zr σ 512 l0))] σ) fun v3 s2 =>
  if (l3 : Int32) < v3 then
    chk (zkd s2 l0 = 8) <|
    bnI (E mX10_changeWithout [.inr (.inl (some l0)), .inl l3] s2) fun v5 s4 =>
    zlt (α := Int32) v5 fun v6 =>
    if (v6 : Int32) ≤ l2 then
      zlt (α := Int32) (l3 + 1) fun v7 =>
      LX10_strongestLayer_32 E l0 l1 l2 v7 (.inl v6) s4
    else
      zlt (α := Int32) v6 fun v8 =>
      zlt (α := Int32) l3 fun v9 =>
      zlt (α := Int32) (l3 + 1) fun v10 =>
      LX10_strongestLayer_32 E l0 v9 v8 v10 (.inl v6) s4
  else
    some (some (.inl l1), s2)) :=
  (zun_at (fun pc => (oX10_strongestLayer pc).1) E (fun q => Nat.beq q 32) 39 32 (0, 0) [.inr (.inl (some l0)), .inl l1, .inl l2, .inl l3, l4] [] σ).trans rfl
noncomputable def fX10_strongestLayer (E : zE) (p0 : Nat) (σ : zS) : zO :=
  chk (zkd σ p0 = 8) <|
  chk (zkd σ p0 = 8) <|
  chk (zkd σ p0 = 8) <|
  onR (zr σ 512 p0) fun a1 =>
  chk (zkd σ a1 = 0) <|
  bnI (E mX0_layerCount [.inr (.inl (zr σ 512 p0))] σ) fun v3 s2 =>
  chk (zkd s2 p0 = 8) <|
  onR (zr σ 518 p0) fun a4 =>
  chk (zkd s2 a4 = 5) <|
  bnV (E mX7_renderStack [.inr (.inl (zr σ 518 p0)), .inr (.inl (zr σ 512 p0)), .inl (v3 - 1), .inr (.inl (zr s2 519 p0))] s2) fun s5 =>
  zlt (α := Int32) (-1009) fun v6 =>
  zlt (α := Int32) (-1) fun v7 =>
  zlt (α := Int32) 0 fun v8 =>
  LX10_strongestLayer_32 E p0 v6 v7 v8 (.inr (.inr none)) s5
set_option maxRecDepth 20000 in
theorem eX10_strongestLayer (E : zE) (p0 : Nat) (σ : zS) : zM tX10_strongestLayer 5 (0, 0) E [.inr (.inl (some p0))] σ = fX10_strongestLayer E p0 σ :=
  (zun_at (fun pc => (oX10_strongestLayer pc).1) E (fun q => Nat.beq q 32) 39 0 (0, 0) (zls0 [.inr (.inl (some p0))] 5) [] σ).trans rfl
noncomputable def fX10_exchangeDifference (E : zE) (p0 : Nat) (p1 : Int32) (σ : zS) : zO :=
  chk (zkd σ p0 = 8) <|
  onR (zr σ 512 p0) fun a1 =>
  chk (zkd σ a1 = 0) <|
  bnI (E mX0_layerCount [.inr (.inl (zr σ 512 p0))] σ) fun v3 s2 =>
  bnI (E mX10_within [.inl p1, .inl 0, .inl (v3 - 2)] s2) fun v5 s4 =>
  if (v5 : Int32) = 0 then
    some (some (.inl (-1001)), s4)
  else
    chk (zkd s4 p0 = 8) <|
    chk (zkd s4 p0 = 8) <|
    onR (zr s4 513 p0) fun a6 =>
    chk (zkd s4 a6 = 0) <|
    bnV (E mX0_copyFrom [.inr (.inl (zr s4 513 p0)), .inr (.inl (zr s4 512 p0))] s4) fun s7 =>
    chk (zkd s7 p0 = 8) <|
    onR (zr s7 513 p0) fun a8 =>
    chk (zkd s7 a8 = 0) <|
    bnV (E mX0_shift [.inr (.inl (zr s7 513 p0)), .inl p1, .inl (p1 + 1)] s7) fun s9 =>
    chk (zkd s9 p0 = 8) <|
    chk (zkd s9 p0 = 8) <|
    bnI (E mX10_pixelsThatDiffer [.inr (.inl (some p0)), .inr (.inl (zr s9 513 p0))] s9) fun v11 s10 =>
    some (some (.inl v11), s10)
set_option maxRecDepth 20000 in
theorem eX10_exchangeDifference (E : zE) (p0 : Nat) (p1 : Int32) (σ : zS) : zM tX10_exchangeDifference 2 (0, 0) E [.inr (.inl (some p0)), .inl p1] σ = fX10_exchangeDifference E p0 p1 σ :=
  (zun_at (fun pc => (oX10_exchangeDifference pc).1) E (fun _ => false) 29 0 (0, 0) (zls0 [.inr (.inl (some p0)), .inl p1] 2) [] σ).trans rfl
noncomputable def fX10_snapshotDifference (E : zE) (p0 : Nat) (p1 : Int32) (σ : zS) : zO :=
  if (p1 : Int32) < 0 then
    some (some (.inl (-1001)), σ)
  else
    chk (zkd σ p0 = 8) <|
    onR (zr σ 515 p0) fun a1 =>
    chk (zkd σ a1 = 13) <|
    if (p1 : Int32) < (Int32.ofNat (zln σ a1)) then
      chk (zkd σ p0 = 8) <|
      onR (zr σ 515 p0) fun a2 =>
      chk (zkd σ a2 = 13 ∧ zin p1 (zln σ a2)) <|
      nul (zar σ a2 (Int32.toNatClampNeg p1)) (
        some (some (.inl (-1002)), σ)) (
        onR (zar σ a2 (Int32.toNatClampNeg p1)) fun a3 =>
        chk (zkd σ a3 = 0) <|
        chk (zkd σ p0 = 8) <|
        onR (zr σ 512 p0) fun a4 =>
        chk (zkd σ a4 = 0) <|
        onR (zr σ 0 a3) fun a5 =>
        chk (zkd σ a5 = 4) <|
        bnI (E mX6_hasSizeOf [.inr (.inl (zr σ 0 a3)), .inr (.inl (zr σ 0 a4))] σ) fun v7 s6 =>
        if (v7 : Int32) = 0 then
          some (some (.inl (-1002)), s6)
        else
          chk (zkd s6 p0 = 8) <|
          bnI (E mX10_pixelsThatDiffer [.inr (.inl (some p0)), .inr (.inl (zar σ a2 (Int32.toNatClampNeg p1)))] s6) fun v9 s8 =>
          some (some (.inl v9), s8))
    else
      some (some (.inl (-1001)), σ)
set_option maxRecDepth 20000 in
theorem eX10_snapshotDifference (E : zE) (p0 : Nat) (p1 : Int32) (σ : zS) : zM tX10_snapshotDifference 3 (0, 0) E [.inr (.inl (some p0)), .inl p1] σ = fX10_snapshotDifference E p0 p1 σ :=
  (zun_at (fun pc => (oX10_snapshotDifference pc).1) E (fun _ => false) 30 0 (0, 0) (zls0 [.inr (.inl (some p0)), .inl p1] 3) [] σ).trans rfl
noncomputable def fX10_hasOutput (E : zE) (p0 : Nat) (p1 : Int32) (σ : zS) : zO :=
  if (p1 : Int32) < (-1) then
    chk (zB 0) (some (some (.inl 0), σ))
  else
    chk (zkd σ p0 = 8) <|
    onR (zr σ 512 p0) fun a1 =>
    chk (zkd σ a1 = 0) <|
    bnI (E mX0_layerCount [.inr (.inl (zr σ 512 p0))] σ) fun v3 s2 =>
    if (p1 : Int32) < v3 then
      chk (zB 1) (some (some (.inl 1), s2))
    else
      chk (zB 0) (some (some (.inl 0), s2))
set_option maxRecDepth 20000 in
theorem eX10_hasOutput (E : zE) (p0 : Nat) (p1 : Int32) (σ : zS) : zM tX10_hasOutput 2 (0, 0) E [.inr (.inl (some p0)), .inl p1] σ = fX10_hasOutput E p0 p1 σ :=
  (zun_at (fun pc => (oX10_hasOutput pc).1) E (fun _ => false) 13 0 (0, 0) (zls0 [.inr (.inl (some p0)), .inl p1] 2) [] σ).trans rfl
noncomputable def fX10_changeWithout (E : zE) (p0 : Nat) (p1 : Int32) (σ : zS) : zO :=
  chk (zkd σ p0 = 8) <|
  chk (zkd σ p0 = 8) <|
  onR (zr σ 513 p0) fun a1 =>
  chk (zkd σ a1 = 0) <|
  bnV (E mX0_copyFrom [.inr (.inl (zr σ 513 p0)), .inr (.inl (zr σ 512 p0))] σ) fun s2 =>
  chk (zkd s2 p0 = 8) <|
  onR (zr s2 513 p0) fun a3 =>
  chk (zkd s2 a3 = 0) <|
  bnR (E mX0_layerAt [.inr (.inl (zr s2 513 p0)), .inl p1] s2) fun r5 s4 =>
  nul r5 (
    some (some (.inl 0), s4)) (
    onR r5 fun a6 =>
    chk (zkd s4 a6 = 2 ∧ zB 0) <| zlt (zsi s4 133 a6 0) fun s7 =>
    chk (zkd s7 p0 = 8) <|
    chk (zkd s7 p0 = 8) <|
    chk (zkd s7 p0 = 8) <|
    onR (zr s7 513 p0) fun a8 =>
    chk (zkd s7 a8 = 0) <|
    bnI (E mX0_layerCount [.inr (.inl (zr s7 513 p0))] s7) fun v10 s9 =>
    chk (zkd s9 p0 = 8) <|
    onR (zr s7 518 p0) fun a11 =>
    chk (zkd s9 a11 = 5) <|
    bnV (E mX7_renderStack [.inr (.inl (zr s7 518 p0)), .inr (.inl (zr s7 513 p0)), .inl (v10 - 1), .inr (.inl (zr s9 520 p0))] s9) fun s12 =>
    chk (zkd s12 p0 = 8) <|
    chk (zkd s12 p0 = 8) <|
    onR (zr s12 519 p0) fun a13 =>
    chk (zkd s12 a13 = 4) <|
    bnI (E mX6_absoluteDifference [.inr (.inl (zr s12 519 p0)), .inr (.inl (zr s12 520 p0))] s12) fun v15 s14 =>
    some (some (.inl v15), s14))
set_option maxRecDepth 20000 in
theorem eX10_changeWithout (E : zE) (p0 : Nat) (p1 : Int32) (σ : zS) : zM tX10_changeWithout 3 (0, 0) E [.inr (.inl (some p0)), .inl p1] σ = fX10_changeWithout E p0 p1 σ :=
  (zun_at (fun pc => (oX10_changeWithout pc).1) E (fun _ => false) 36 0 (0, 0) (zls0 [.inr (.inl (some p0)), .inl p1] 3) [] σ).trans rfl
noncomputable def fX10_pixelsThatDiffer (E : zE) (p0 : Nat) (p1 : Option Nat) (σ : zS) : zO :=
  chk (zkd σ p0 = 8) <|
  chk (zkd σ p0 = 8) <|
  chk (zkd σ p0 = 8) <|
  onR (zr σ 512 p0) fun a1 =>
  chk (zkd σ a1 = 0) <|
  bnI (E mX0_layerCount [.inr (.inl (zr σ 512 p0))] σ) fun v3 s2 =>
  chk (zkd s2 p0 = 8) <|
  onR (zr σ 518 p0) fun a4 =>
  chk (zkd s2 a4 = 5) <|
  bnV (E mX7_renderStack [.inr (.inl (zr σ 518 p0)), .inr (.inl (zr σ 512 p0)), .inl (v3 - 1), .inr (.inl (zr s2 519 p0))] s2) fun s5 =>
  chk (zkd s5 p0 = 8) <|
  onR p1 fun a6 =>
  chk (zkd s5 a6 = 0) <|
  bnI (E mX0_layerCount [.inr (.inl p1)] s5) fun v8 s7 =>
  chk (zkd s7 p0 = 8) <|
  onR (zr s5 518 p0) fun a9 =>
  chk (zkd s7 a9 = 5) <|
  bnV (E mX7_renderStack [.inr (.inl (zr s5 518 p0)), .inr (.inl p1), .inl (v8 - 1), .inr (.inl (zr s7 520 p0))] s7) fun s10 =>
  chk (zkd s10 p0 = 8) <|
  chk (zkd s10 p0 = 8) <|
  onR (zr s10 519 p0) fun a11 =>
  chk (zkd s10 a11 = 4) <|
  bnI (E mX6_differingPixels [.inr (.inl (zr s10 519 p0)), .inr (.inl (zr s10 520 p0))] s10) fun v13 s12 =>
  some (some (.inl v13), s12)
set_option maxRecDepth 20000 in
theorem eX10_pixelsThatDiffer (E : zE) (p0 : Nat) (p1 : Option Nat) (σ : zS) : zM tX10_pixelsThatDiffer 2 (0, 0) E [.inr (.inl (some p0)), .inr (.inl p1)] σ = fX10_pixelsThatDiffer E p0 p1 σ :=
  (zun_at (fun pc => (oX10_pixelsThatDiffer pc).1) E (fun _ => false) 29 0 (0, 0) (zls0 [.inr (.inl (some p0)), .inr (.inl p1)] 2) [] σ).trans rfl
noncomputable def fX10_undo (E : zE) (p0 : Nat) (σ : zS) : zO :=
  chk (zkd σ p0 = 8) <|
  onR (zr σ 514 p0) fun a1 =>
  chk (zkd σ a1 = 1) <|
  if ((zi σ 65 a1) : Int32) = 0 then
    some (some (.inl (-1002)), σ)
  else
    chk (zkd σ p0 = 8) <|
    chk (zkd σ p0 = 8) <|
    onR (zr σ 514 p0) fun a2 =>
    chk (zkd σ a2 = 1) <|
    bnV (E mX1_pop [.inr (.inl (zr σ 514 p0)), .inr (.inl (zr σ 512 p0))] σ) fun s3 =>
    chk (zkd s3 p0 = 8) <|
    onR (zr s3 517 p0) fun a4 =>
    chk (zkd s3 a4 = 7) <|
    bnI (E mX9_removeAll [.inr (.inl (zr s3 517 p0))] s3) fun v6 s5 =>
    chk (zkd s5 p0 = 8) <|
    onR (zr s5 514 p0) fun a7 =>
    chk (zkd s5 a7 = 1) <|
    some (some (.inl (zi s5 65 a7)), s5)
set_option maxRecDepth 20000 in
theorem eX10_undo (E : zE) (p0 : Nat) (σ : zS) : zM tX10_undo 1 (0, 0) E [.inr (.inl (some p0))] σ = fX10_undo E p0 σ :=
  (zun_at (fun pc => (oX10_undo pc).1) E (fun _ => false) 20 0 (0, 0) (zls0 [.inr (.inl (some p0))] 1) [] σ).trans rfl
noncomputable def fX10_save (E : zE) (p0 : Nat) (p1 : Int32) (σ : zS) : zO :=
  if (p1 : Int32) < 0 then
    some (some (.inl (-1001)), σ)
  else
    chk (zkd σ p0 = 8) <|
    onR (zr σ 515 p0) fun a1 =>
    chk (zkd σ a1 = 13) <|
    if (p1 : Int32) < (Int32.ofNat (zln σ a1)) then
      chk (zkd σ p0 = 8) <|
      onR (zr σ 515 p0) fun a2 =>
      chk (zkd σ a2 = 13 ∧ zin p1 (zln σ a2)) <|
      nul (zar σ a2 (Int32.toNatClampNeg p1)) (
        chk (zkd (zno σ 0) (znx σ) = 0) <|
        bnV (E mX0_init [.inr (.inl (some (znx σ)))] (zno σ 0)) fun s3 =>
        chk (zkd s3 p0 = 8) <|
        onR (zr s3 515 p0) fun a4 =>
        chk ((zkd s3 a4 = 13 ∧ zin p1 (zln s3 a4)) ∧ zkd s3 (znx σ) = 0) <| zlt (zsq s3 a4 (Int32.toNatClampNeg p1) (some (znx σ))) fun s5 =>
        chk (zkd s5 p0 = 8) <|
        chk (zkd s5 (znx σ) = 0) <|
        bnV (E mX0_copyFrom [.inr (.inl (some (znx σ))), .inr (.inl (zr s5 512 p0))] s5) fun s6 =>
        chk (zkd s6 p0 = 8) <|
        onR (zr s6 512 p0) fun a7 =>
        chk (zkd s6 a7 = 0) <|
        bnI (E mX0_layerCount [.inr (.inl (zr s6 512 p0))] s6) fun v9 s8 =>
        some (some (.inl v9), s8)) (
        chk (zkd σ p0 = 8) <|
        onR (zar σ a2 (Int32.toNatClampNeg p1)) fun a10 =>
        chk (zkd σ a10 = 0) <|
        bnV (E mX0_copyFrom [.inr (.inl (zar σ a2 (Int32.toNatClampNeg p1))), .inr (.inl (zr σ 512 p0))] σ) fun s11 =>
        chk (zkd s11 p0 = 8) <|
        onR (zr s11 512 p0) fun a12 =>
        chk (zkd s11 a12 = 0) <|
        bnI (E mX0_layerCount [.inr (.inl (zr s11 512 p0))] s11) fun v14 s13 =>
        some (some (.inl v14), s13))
    else
      some (some (.inl (-1001)), σ)
set_option maxRecDepth 20000 in
theorem eX10_save (E : zE) (p0 : Nat) (p1 : Int32) (σ : zS) : zM tX10_save 3 (28, 542) E [.inr (.inl (some p0)), .inl p1] σ = fX10_save E p0 p1 σ :=
  (zun_at (fun pc => (oX10_save pc).1) E (fun _ => false) 34 0 (28, 542) (zls0 [.inr (.inl (some p0)), .inl p1] 3) [] σ).trans rfl
noncomputable def fX10_restore (E : zE) (p0 : Nat) (p1 : Int32) (σ : zS) : zO :=
  if (p1 : Int32) < 0 then
    some (some (.inl (-1001)), σ)
  else
    chk (zkd σ p0 = 8) <|
    onR (zr σ 515 p0) fun a1 =>
    chk (zkd σ a1 = 13) <|
    if (p1 : Int32) < (Int32.ofNat (zln σ a1)) then
      chk (zkd σ p0 = 8) <|
      onR (zr σ 515 p0) fun a2 =>
      chk (zkd σ a2 = 13 ∧ zin p1 (zln σ a2)) <|
      nul (zar σ a2 (Int32.toNatClampNeg p1)) (
        some (some (.inl (-1002)), σ)) (
        chk (zkd σ p0 = 8) <|
        onR (zr σ 512 p0) fun a3 =>
        chk (zkd σ a3 = 0) <|
        bnV (E mX0_copyFrom [.inr (.inl (zr σ 512 p0)), .inr (.inl (zar σ a2 (Int32.toNatClampNeg p1)))] σ) fun s4 =>
        chk (zkd s4 p0 = 8) <|
        onR (zr s4 514 p0) fun a5 =>
        chk (zkd s4 a5 = 1) <| zlt (zsi s4 65 a5 0) fun s6 =>
        chk (zkd s6 p0 = 8) <|
        onR (zr s6 517 p0) fun a7 =>
        chk (zkd s6 a7 = 7) <|
        bnI (E mX9_removeAll [.inr (.inl (zr s6 517 p0))] s6) fun v9 s8 =>
        chk (zkd s8 p0 = 8) <|
        onR (zr s8 512 p0) fun a10 =>
        chk (zkd s8 a10 = 0) <|
        bnI (E mX0_layerCount [.inr (.inl (zr s8 512 p0))] s8) fun v12 s11 =>
        some (some (.inl v12), s11))
    else
      some (some (.inl (-1001)), σ)
set_option maxRecDepth 20000 in
theorem eX10_restore (E : zE) (p0 : Nat) (p1 : Int32) (σ : zS) : zM tX10_restore 3 (0, 0) E [.inr (.inl (some p0)), .inl p1] σ = fX10_restore E p0 p1 σ :=
  (zun_at (fun pc => (oX10_restore pc).1) E (fun _ => false) 35 0 (0, 0) (zls0 [.inr (.inl (some p0)), .inl p1] 3) [] σ).trans rfl
noncomputable def fX10_within (E : zE) (p0 : Int32) (p1 : Int32) (p2 : Int32) (σ : zS) : zO :=
  if (p0 : Int32) < p1 then
    chk (zB 0) (some (some (.inl 0), σ))
  else
    if (p0 : Int32) ≤ p2 then
      chk (zB 1) (some (some (.inl 1), σ))
    else
      chk (zB 0) (some (some (.inl 0), σ))
set_option maxRecDepth 20000 in
theorem eX10_within (E : zE) (p0 : Int32) (p1 : Int32) (p2 : Int32) (σ : zS) : zM tX10_within 3 (0, 0) E [.inl p0, .inl p1, .inl p2] σ = fX10_within E p0 p1 p2 σ :=
  (zun_at (fun pc => (oX10_within pc).1) E (fun _ => false) 11 0 (0, 0) (zls0 [.inl p0, .inl p1, .inl p2] 3) [] σ).trans rfl
noncomputable def fX10_clamped (E : zE) (p0 : Int32) (σ : zS) : zO :=
  bnI (E mJ9_min_7cf53 [.inl p0, .inl 255] σ) fun v2 s1 =>
  bnI (E mJ9_max_7cf53 [.inl 0, .inl v2] s1) fun v4 s3 =>
  some (some (.inl v4), s3)
set_option maxRecDepth 20000 in
theorem eX10_clamped (E : zE) (p0 : Int32) (σ : zS) : zM tX10_clamped 1 (0, 0) E [.inl p0] σ = fX10_clamped E p0 σ :=
  (zun_at (fun pc => (oX10_clamped pc).1) E (fun _ => false) 7 0 (0, 0) (zls0 [.inl p0] 1) [] σ).trans rfl
noncomputable def fX10_divided (E : zE) (p0 : Int32) (p1 : Int32) (σ : zS) : zO :=
  if (p1 : Int32) ≤ 0 then
    some (some (.inl 0), σ)
  else
    bnI (E mJ9_floorDiv_7cf53 [.inl p0, .inl p1] σ) fun v2 s1 =>
    some (some (.inl v2), s1)
set_option maxRecDepth 20000 in
theorem eX10_divided (E : zE) (p0 : Int32) (p1 : Int32) (σ : zS) : zM tX10_divided 2 (0, 0) E [.inl p0, .inl p1] σ = fX10_divided E p0 p1 σ :=
  (zun_at (fun pc => (oX10_divided pc).1) E (fun _ => false) 9 0 (0, 0) (zls0 [.inl p0, .inl p1] 2) [] σ).trans rfl
