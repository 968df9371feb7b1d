/-! the methods as functions (by program: wip/whole/emit2.py) -/
noncomputable def fX7_init (E : zE) (p0 : Nat) (σ : zS) : zO :=
  chk (zkd (zno σ 4) (znx σ) = 4) <|
  bnV (E mX6_init [.inr (.inl (some (znx σ)))] (zno σ 4)) fun s1 =>
  chk (zkd s1 p0 = 5) <| zlt (zsr s1 320 p0 (some (znx σ))) fun s2 =>
  chk (zkd (zna s2 11 49) p0 = 5) <| zlt (zsr (zna s2 11 49) 321 p0 (some (znx s2))) fun s3 =>
  some (none, s3)
set_option maxRecDepth 20000 in
theorem eX7_init (E : zE) (p0 : Nat) (σ : zS) : zM tX7_init 1 (3, 308) E [.inr (.inl (some p0))] σ = fX7_init E p0 σ :=
  (zun_at (fun pc => (oX7_init pc).1) E (fun _ => false) 13 0 (3, 308) (zls0 [.inr (.inl (some p0))] 1) [] σ).trans rfl
noncomputable def LX7_renderStack_11 (E : zE) (l0 : Nat) (l1 : Option Nat) (l2 : Int32) (l3 : Option Nat) (l4 : Int32) (l5 : zV) (σ : zS) : zO := zF tX7_renderStack E 11 (0, 0) [.inr (.inl (some l0)), .inr (.inl l1), .inl l2, .inr (.inl l3), .inl l4, l5] [] σ
set_option maxRecDepth 20000 in
theorem uX7_renderStack_11 (E : zE) (l0 : Nat) (l1 : Option Nat) (l2 : Int32) (l3 : Option Nat) (l4 : Int32) (l5 : zV) (σ : zS) : LX7_renderStack_11 E l0 l1 l2 l3 l4 l5 σ =
  (if (l4 : Int32) ≤ l2 then
    onR l1 fun a1 =>
    chk (zkd σ a1 = 0) <|
    bnI (E mX0_layerCount [.inr (.inl l1)] σ) fun v3 s2 =>
    if (l4 : Int32) < v3 then
      onR l1 fun a4 =>
      chk (zkd s2 a4 = 0) <|
      bnR (E mX0_layerAt [.inr (.inl l1), .inl l4] s2) fun r6 s5 =>
      nul r6 (
        zlt (α := Int32) (l4 + 1) fun v7 =>
        LX7_renderStack_11 E l0 l1 l2 l3 v7 (.inr (.inl r6)) s5) (
        onR r6 fun a8 =>
        chk (zkd s5 a8 = 2) <|
        if ((zi s5 133 a8) : Int32) = 0 then
          zlt (α := Int32) (l4 + 1) fun v9 =>
          LX7_renderStack_11 E l0 l1 l2 l3 v9 (.inr (.inl r6)) s5
        else
          chk (zkd s5 l0 = 5) <|
          chk (zkd s5 l0 = 5) <|
          bnV (E mX7_render [.inr (.inl (some l0)), .inr (.inl r6), .inr (.inl l3), .inr (.inl (zr s5 320 l0)), .inl 0, .inl 0, .inl 16] s5) fun s10 =>
          chk (zkd s10 l0 = 5) <|
          onR l3 fun a11 =>
          chk (zkd s10 a11 = 4) <|
          bnV (E mX6_copyFrom [.inr (.inl l3), .inr (.inl (zr s10 320 l0))] s10) fun s12 =>
          zlt (α := Int32) (l4 + 1) fun v13 =>
          LX7_renderStack_11 E l0 l1 l2 l3 v13 (.inr (.inl r6)) s12)
    else
      some (none, s2)
  else
    some (none, σ)) :=
  (zun_at (fun pc => (oX7_renderStack pc).1) E (fun q => Nat.beq q 11) 39 11 (0, 0) [.inr (.inl (some l0)), .inr (.inl l1), .inl l2, .inr (.inl l3), .inl l4, l5] [] σ).trans rfl
noncomputable def fX7_renderStack (E : zE) (p0 : Nat) (p1 : Option Nat) (p2 : Int32) (p3 : Option Nat) (σ : zS) : zO :=
  onR p1 fun a1 =>
  chk (zkd σ a1 = 0) <|
  onR p3 fun a2 =>
  chk (zkd σ a2 = 4) <|
  bnV (E mX6_copyFrom [.inr (.inl p3), .inr (.inl (zr σ 0 a1))] σ) fun s3 =>
  zlt (α := Int32) 0 fun v4 =>
  LX7_renderStack_11 E p0 p1 p2 p3 v4 (.inr (.inr none)) s3
set_option maxRecDepth 20000 in
theorem eX7_renderStack (E : zE) (p0 : Nat) (p1 : Option Nat) (p2 : Int32) (p3 : Option Nat) (σ : zS) : zM tX7_renderStack 6 (0, 0) E [.inr (.inl (some p0)), .inr (.inl p1), .inl p2, .inr (.inl p3)] σ = fX7_renderStack E p0 p1 p2 p3 σ :=
  (zun_at (fun pc => (oX7_renderStack pc).1) E (fun q => Nat.beq q 11) 39 0 (0, 0) (zls0 [.inr (.inl (some p0)), .inr (.inl p1), .inl p2, .inr (.inl p3)] 6) [] σ).trans rfl
noncomputable def LX7_render_23 (E : zE) (l0 : Nat) (l1 : Option Nat) (l2 : Option Nat) (l3 : Option Nat) (l4 : Int32) (l5 : Int32) (l6 : Int32) (l7 : Int32) (l8 : zV) (l9 : zV) (l10 : zV) (l11 : zV) (σ : zS) : zO := zF tX7_render E 23 (0, 0) [.inr (.inl (some l0)), .inr (.inl l1), .inr (.inl l2), .inr (.inl l3), .inl l4, .inl l5, .inl l6, .inl l7, l8, l9, l10, l11] [] σ
noncomputable def LX7_render_46 (E : zE) (l0 : Nat) (l1 : Option Nat) (l2 : Option Nat) (l3 : Option Nat) (l4 : Int32) (l5 : Int32) (l6 : Int32) (l7 : Int32) (l8 : Int32) (l9 : zV) (l10 : zV) (l11 : zV) (σ : zS) : zO := zF tX7_render E 46 (0, 0) [.inr (.inl (some l0)), .inr (.inl l1), .inr (.inl l2), .inr (.inl l3), .inl l4, .inl l5, .inl l6, .inl l7, .inl l8, l9, l10, l11] [] σ
set_option maxRecDepth 20000 in
theorem uX7_render_23 (E : zE) (l0 : Nat) (l1 : Option Nat) (l2 : Option Nat) (l3 : Option Nat) (l4 : Int32) (l5 : Int32) (l6 : Int32) (l7 : Int32) (l8 : zV) (l9 : zV) (l10 : zV) (l11 : zV) (σ : zS) : LX7_render_23 E l0 l1 l2 l3 l4 l5 l6 l7 l8 l9 l10 l11 σ =
  (if (l7 : Int32) < (l5 + l6) then
    onR l2 fun a1 =>
    chk (zkd σ a1 = 4) <|
    if (l7 : Int32) < (zi σ 258 a1) then
      zlt (α := Int32) l4 fun v2 =>
      LX7_render_46 E l0 l1 l2 l3 l4 l5 l6 l7 v2 (l9) (l10) (l11) σ
    else
      some (none, σ)
  else
    some (none, σ)) :=
  (zun_at (fun pc => (oX7_render pc).1) E (fun q => Nat.beq q 23 || Nat.beq q 46) 77 23 (0, 0) [.inr (.inl (some l0)), .inr (.inl l1), .inr (.inl l2), .inr (.inl l3), .inl l4, .inl l5, .inl l6, .inl l7, l8, l9, l10, l11] [] σ).trans rfl
set_option maxRecDepth 20000 in
theorem uX7_render_46 (E : zE) (l0 : Nat) (l1 : Option Nat) (l2 : Option Nat) (l3 : Option Nat) (l4 : Int32) (l5 : Int32) (l6 : Int32) (l7 : Int32) (l8 : Int32) (l9 : zV) (l10 : zV) (l11 : zV) (σ : zS) : LX7_render_46 E l0 l1 l2 l3 l4 l5 l6 l7 l8 l9 l10 l11 σ =
  (if (l8 : Int32) < (l4 + l6) then
    onR l2 fun a1 =>
    chk (zkd σ a1 = 4) <|
    if (l8 : Int32) < (zi σ 257 a1) then
      onR l2 fun a2 =>
      chk (zkd σ a2 = 4) <|
      bnI (E mX6_at [.inr (.inl l2), .inl l8, .inl l7] σ) fun v4 s3 =>
      zlt (α := Int32) v4 fun v5 =>
      onR l1 fun a6 =>
      chk (zkd s3 a6 = 2) <|
      chk (zkd s3 l0 = 5) <|
      bnI (E mX7_adjusted [.inr (.inl (some l0)), .inr (.inl l1), .inr (.inl l2), .inl l8, .inl l7] s3) fun v8 s7 =>
      bnI (E mX5_blended [.inl (zi s3 131 a6), .inl v5, .inl v8] s7) fun v10 s9 =>
      zlt (α := Int32) v10 fun v11 =>
      onR l1 fun a12 =>
      chk (zkd s9 a12 = 2) <|
      onR (zr s9 134 a12) fun a13 =>
      chk (zkd s9 a13 = 3) <|
      bnI (E mX4_weightAt [.inr (.inl (zr s9 134 a12)), .inl l8, .inl l7, .inl v5] s9) fun v15 s14 =>
      zlt (α := Int32) v15 fun v16 =>
      onR l1 fun a17 =>
      chk (zkd s14 a17 = 2) <|
      bnI (E mX10_divided [.inl (((v11 - v5) * (zi s14 132 a17)) * v16), .inl 25500] s14) fun v19 s18 =>
      onR l3 fun a20 =>
      chk (zkd s18 a20 = 4) <|
      bnV (E mX6_put [.inr (.inl l3), .inl l8, .inl l7, .inl (v5 + v19)] s18) fun s21 =>
      zlt (α := Int32) (l8 + 1) fun v22 =>
      LX7_render_46 E l0 l1 l2 l3 l4 l5 l6 l7 v22 (.inl v5) (.inl v11) (.inl v16) s21
    else
      zlt (α := Int32) (l7 + 1) fun v23 =>
      LX7_render_23 E l0 l1 l2 l3 l4 l5 l6 v23 (.inl l8) (l9) (l10) (l11) σ
  else
    zlt (α := Int32) (l7 + 1) fun v24 =>
    LX7_render_23 E l0 l1 l2 l3 l4 l5 l6 v24 (.inl l8) (l9) (l10) (l11) σ) :=
  (zun_at (fun pc => (oX7_render pc).1) E (fun q => Nat.beq q 23 || Nat.beq q 46) 77 46 (0, 0) [.inr (.inl (some l0)), .inr (.inl l1), .inr (.inl l2), .inr (.inl l3), .inl l4, .inl l5, .inl l6, .inl l7, .inl l8, l9, l10, l11] [] σ).trans rfl
noncomputable def fX7_render (E : zE) (p0 : Nat) (p1 : Option Nat) (p2 : Option Nat) (p3 : Option Nat) (p4 : Int32) (p5 : Int32) (p6 : Int32) (σ : zS) : zO :=
  onR p3 fun a1 =>
  chk (zkd σ a1 = 4) <|
  bnV (E mX6_takeSizeOf [.inr (.inl p3), .inr (.inl p2)] σ) fun s2 =>
  onR p1 fun a3 =>
  chk (zkd s2 a3 = 2) <|
  if ((zi s2 128 a3) : Int32) = 13 then
    chk (zkd s2 p0 = 5) <|
    bnV (E mX7_findExtremes [.inr (.inl (some p0)), .inr (.inl p2)] s2) fun s4 =>
    zlt (α := Int32) p5 fun v5 =>
    LX7_render_23 E p0 p1 p2 p3 p4 p5 p6 v5 (.inr (.inr none)) (.inr (.inr none)) (.inr (.inr none)) (.inr (.inr none)) s4
  else
    zlt (α := Int32) p5 fun v6 =>
    LX7_render_23 E p0 p1 p2 p3 p4 p5 p6 v6 (.inr (.inr none)) (.inr (.inr none)) (.inr (.inr none)) (.inr (.inr none)) s2
set_option maxRecDepth 20000 in
theorem eX7_render (E : zE) (p0 : Nat) (p1 : Option Nat) (p2 : Option Nat) (p3 : Option Nat) (p4 : Int32) (p5 : Int32) (p6 : Int32) (σ : zS) : zM tX7_render 12 (0, 0) E [.inr (.inl (some p0)), .inr (.inl p1), .inr (.inl p2), .inr (.inl p3), .inl p4, .inl p5, .inl p6] σ = fX7_render E p0 p1 p2 p3 p4 p5 p6 σ :=
  (zun_at (fun pc => (oX7_render pc).1) E (fun q => Nat.beq q 23 || Nat.beq q 46) 77 0 (0, 0) (zls0 [.inr (.inl (some p0)), .inr (.inl p1), .inr (.inl p2), .inr (.inl p3), .inl p4, .inl p5, .inl p6] 12) [] σ).trans rfl
noncomputable def LX7_adjusted_38 (E : zE) (l0 : Nat) (l1 : Option Nat) (l2 : Option Nat) (l3 : Int32) (l4 : Int32) (l5 : Int32) (l6 : Int32) (l7 : Int32) (σ : zS) : zO := zF tX7_adjusted E 38 (0, 0) [.inr (.inl (some l0)), .inr (.inl l1), .inr (.inl l2), .inl l3, .inl l4, .inl l5, .inl l6, .inl l7] [] σ
set_option maxRecDepth 20000 in
theorem uX7_adjusted_38 (E : zE) (l0 : Nat) (l1 : Option Nat) (l2 : Option Nat) (l3 : Int32) (l4 : Int32) (l5 : Int32) (l6 : Int32) (l7 : Int32) (σ : zS) : LX7_adjusted_38 E l0 l1 l2 l3 l4 l5 l6 l7 σ =
  (onR l1 fun a1 =>
  chk (zkd σ a1 = 2) <|
  if ((zi σ 128 a1) : Int32) = 0 then
    if (l5 : Int32) ≤ l6 then
      some (some (.inl 0), σ)
    else
      if (l5 : Int32) < l7 then
        bnI (E mX10_divided [.inl ((l5 - l6) * 255), .inl (l7 - l6)] σ) fun v3 s2 =>
        some (some (.inl v3), s2)
      else
        some (some (.inl 255), σ)
  else if ((zi σ 128 a1) : Int32) = 1 then
    bnI (E mX10_clamped [.inl (l5 + l6)] σ) fun v5 s4 =>
    some (some (.inl v5), s4)
  else if ((zi σ 128 a1) : Int32) = 2 then
    bnI (E mX10_divided [.inl ((l5 - 128) * l6), .inl 100] σ) fun v7 s6 =>
    bnI (E mX10_clamped [.inl (128 + v7)] s6) fun v9 s8 =>
    some (some (.inl v9), s8)
  else if ((zi σ 128 a1) : Int32) = 3 then
    bnI (E mX10_divided [.inl (l5 * l6), .inl 256] σ) fun v11 s10 =>
    bnI (E mX10_divided [.inl (v11 * 255), .inl (l6 - 1)] s10) fun v13 s12 =>
    some (some (.inl v13), s12)
  else if ((zi σ 128 a1) : Int32) = 4 then
    some (some (.inl (255 - l5)), σ)
  else if ((zi σ 128 a1) : Int32) = 5 then
    if (l5 : Int32) < l6 then
      some (some (.inl 0), σ)
    else
      some (some (.inl 255), σ)
  else if ((zi σ 128 a1) : Int32) = 6 then
    chk (zkd σ l0 = 5) <|
    bnI (E mX7_average [.inr (.inl (some l0))] σ) fun v15 s14 =>
    some (some (.inl v15), s14)
  else if ((zi σ 128 a1) : Int32) = 7 then
    chk (zkd σ l0 = 5) <|
    bnI (E mX7_median [.inr (.inl (some l0))] σ) fun v17 s16 =>
    some (some (.inl v17), s16)
  else if ((zi σ 128 a1) : Int32) = 8 then
    chk (zkd σ l0 = 5) <|
    bnI (E mX7_greatest [.inr (.inl (some l0))] σ) fun v19 s18 =>
    some (some (.inl v19), s18)
  else if ((zi σ 128 a1) : Int32) = 9 then
    chk (zkd σ l0 = 5) <|
    bnI (E mX7_smallest [.inr (.inl (some l0))] σ) fun v21 s20 =>
    some (some (.inl v21), s20)
  else if ((zi σ 128 a1) : Int32) = 10 then
    chk (zkd σ l0 = 5) <|
    bnI (E mX7_average [.inr (.inl (some l0))] σ) fun v23 s22 =>
    bnI (E mX10_divided [.inl ((l5 - v23) * l7), .inl 100] s22) fun v25 s24 =>
    bnI (E mX10_clamped [.inl (l5 + v25)] s24) fun v27 s26 =>
    some (some (.inl v27), s26)
  else if ((zi σ 128 a1) : Int32) = 11 then
    onR l2 fun a28 =>
    chk (zkd σ a28 = 4) <|
    bnI (E mX6_atNearest [.inr (.inl l2), .inl (l3 - l6), .inl (l4 - l7)] σ) fun v30 s29 =>
    some (some (.inl v30), s29)
  else if ((zi σ 128 a1) : Int32) = 12 then
    some (some (.inl l6), σ)
  else if ((zi σ 128 a1) : Int32) = 13 then
    chk (zkd σ l0 = 5) <|
    chk (zkd σ l0 = 5) <|
    if ((zi σ 324 l0) : Int32) ≤ (zi σ 323 l0) then
      some (some (.inl l5), σ)
    else
      chk (zkd σ l0 = 5) <|
      chk (zkd σ l0 = 5) <|
      chk (zkd σ l0 = 5) <|
      bnI (E mX10_divided [.inl ((l5 - (zi σ 323 l0)) * 255), .inl ((zi σ 324 l0) - (zi σ 323 l0))] σ) fun v32 s31 =>
      some (some (.inl v32), s31)
  else 
    some (some (.inl l5), σ)) :=
  (zun_at (fun pc => (oX7_adjusted pc).1) E (fun q => Nat.beq q 38) 140 38 (0, 0) [.inr (.inl (some l0)), .inr (.inl l1), .inr (.inl l2), .inl l3, .inl l4, .inl l5, .inl l6, .inl l7] [] σ).trans rfl
noncomputable def fX7_adjusted (E : zE) (p0 : Nat) (p1 : Option Nat) (p2 : Option Nat) (p3 : Int32) (p4 : Int32) (σ : zS) : zO :=
  onR p2 fun a1 =>
  chk (zkd σ a1 = 4) <|
  bnI (E mX6_at [.inr (.inl p2), .inl p3, .inl p4] σ) fun v3 s2 =>
  zlt (α := Int32) v3 fun v4 =>
  onR p1 fun a5 =>
  chk (zkd s2 a5 = 2) <|
  zlt (α := Int32) (zi s2 129 a5) fun v6 =>
  onR p1 fun a7 =>
  chk (zkd s2 a7 = 2) <|
  zlt (α := Int32) (zi s2 130 a7) fun v8 =>
  onR p1 fun a9 =>
  chk (zkd s2 a9 = 2) <|
  bnI (E mX3_seesNeighbourhood [.inr (.inl p1)] s2) fun v11 s10 =>
  if (v11 : Int32) = 0 then
    LX7_adjusted_38 E p0 p1 p2 p3 p4 v4 v6 v8 s10
  else
    chk (zkd s10 p0 = 5) <|
    bnV (E mX7_gatherNeighbours [.inr (.inl (some p0)), .inr (.inl p2), .inl p3, .inl p4, .inl v6] s10) fun s12 =>
    LX7_adjusted_38 E p0 p1 p2 p3 p4 v4 v6 v8 s12
set_option maxRecDepth 20000 in
theorem eX7_adjusted (E : zE) (p0 : Nat) (p1 : Option Nat) (p2 : Option Nat) (p3 : Int32) (p4 : Int32) (σ : zS) : zM tX7_adjusted 8 (0, 0) E [.inr (.inl (some p0)), .inr (.inl p1), .inr (.inl p2), .inl p3, .inl p4] σ = fX7_adjusted E p0 p1 p2 p3 p4 σ :=
  (zun_at (fun pc => (oX7_adjusted pc).1) E (fun q => Nat.beq q 38) 140 0 (0, 0) (zls0 [.inr (.inl (some p0)), .inr (.inl p1), .inr (.inl p2), .inl p3, .inl p4] 8) [] σ).trans rfl
noncomputable def LX7_findExtremes_14 (E : zE) (l0 : Nat) (l1 : Option Nat) (l2 : Int32) (l3 : zV) (l4 : zV) (σ : zS) : zO := zF tX7_findExtremes E 14 (0, 0) [.inr (.inl (some l0)), .inr (.inl l1), .inl l2, l3, l4] [] σ
noncomputable def LX7_findExtremes_24 (E : zE) (l0 : Nat) (l1 : Option Nat) (l2 : Int32) (l3 : Int32) (l4 : zV) (σ : zS) : zO := zF tX7_findExtremes E 24 (0, 0) [.inr (.inl (some l0)), .inr (.inl l1), .inl l2, .inl l3, l4] [] σ
set_option maxRecDepth 20000 in
theorem uX7_findExtremes_14 (E : zE) (l0 : Nat) (l1 : Option Nat) (l2 : Int32) (l3 : zV) (l4 : zV) (σ : zS) : LX7_findExtremes_14 E l0 l1 l2 l3 l4 σ =
  (onR l1 fun a1 =>
  chk (zkd σ a1 = 4) <|
  if (l2 : Int32) < (zi σ 258 a1) then
    zlt (α := Int32) 0 fun v2 =>
    LX7_findExtremes_24 E l0 l1 l2 v2 (l4) σ
  else
    some (none, σ)) :=
  (zun_at (fun pc => (oX7_findExtremes pc).1) E (fun q => Nat.beq q 14 || Nat.beq q 24) 41 14 (0, 0) [.inr (.inl (some l0)), .inr (.inl l1), .inl l2, l3, l4] [] σ).trans rfl
set_option maxRecDepth 20000 in
theorem uX7_findExtremes_24 (E : zE) (l0 : Nat) (l1 : Option Nat) (l2 : Int32) (l3 : Int32) (l4 : zV) (σ : zS) : LX7_findExtremes_24 E l0 l1 l2 l3 l4 σ =
  (onR l1 fun a1 =>
  chk (zkd σ a1 = 4) <|
  if (l3 : Int32) < (zi σ 257 a1) then
    onR l1 fun a2 =>
    chk (zkd σ a2 = 4) <|
    bnI (E mX6_at [.inr (.inl l1), .inl l3, .inl l2] σ) fun v4 s3 =>
    zlt (α := Int32) v4 fun v5 =>
    chk (zkd s3 l0 = 5) <|
    bnI (E mJ9_min_7cf53 [.inl (zi s3 323 l0), .inl v5] s3) fun v7 s6 =>
    chk (zkd s6 l0 = 5) <| zlt (zsi s6 323 l0 v7) fun s8 =>
    chk (zkd s8 l0 = 5) <|
    bnI (E mJ9_max_7cf53 [.inl (zi s8 324 l0), .inl v5] s8) fun v10 s9 =>
    chk (zkd s9 l0 = 5) <| zlt (zsi s9 324 l0 v10) fun s11 =>
    zlt (α := Int32) (l3 + 1) fun v12 =>
    LX7_findExtremes_24 E l0 l1 l2 v12 (.inl v5) s11
  else
    zlt (α := Int32) (l2 + 1) fun v13 =>
    LX7_findExtremes_14 E l0 l1 v13 (.inl l3) (l4) σ) :=
  (zun_at (fun pc => (oX7_findExtremes pc).1) E (fun q => Nat.beq q 14 || Nat.beq q 24) 41 24 (0, 0) [.inr (.inl (some l0)), .inr (.inl l1), .inl l2, .inl l3, l4] [] σ).trans rfl
noncomputable def fX7_findExtremes (E : zE) (p0 : Nat) (p1 : Option Nat) (σ : zS) : zO :=
  chk (zkd σ p0 = 5) <| zlt (zsi σ 323 p0 255) fun s1 =>
  chk (zkd s1 p0 = 5) <| zlt (zsi s1 324 p0 0) fun s2 =>
  zlt (α := Int32) 0 fun v3 =>
  LX7_findExtremes_14 E p0 p1 v3 (.inr (.inr none)) (.inr (.inr none)) s2
set_option maxRecDepth 20000 in
theorem eX7_findExtremes (E : zE) (p0 : Nat) (p1 : Option Nat) (σ : zS) : zM tX7_findExtremes 5 (0, 0) E [.inr (.inl (some p0)), .inr (.inl p1)] σ = fX7_findExtremes E p0 p1 σ :=
  (zun_at (fun pc => (oX7_findExtremes pc).1) E (fun q => Nat.beq q 14 || Nat.beq q 24) 41 0 (0, 0) (zls0 [.inr (.inl (some p0)), .inr (.inl p1)] 5) [] σ).trans rfl
noncomputable def LX7_gatherNeighbours_45 (E : zE) (l0 : Nat) (l1 : Option Nat) (l2 : Int32) (l3 : zV) (l4 : Int32) (l5 : Int32) (l6 : Int32) (l7 : Int32) (l8 : zV) (σ : zS) : zO := zF tX7_gatherNeighbours E 45 (0, 0) [.inr (.inl (some l0)), .inr (.inl l1), .inl l2, l3, .inl l4, .inl l5, .inl l6, .inl l7, l8] [] σ
noncomputable def LX7_gatherNeighbours_62 (E : zE) (l0 : Nat) (l1 : Option Nat) (l2 : Int32) (l3 : zV) (l4 : Int32) (l5 : Int32) (l6 : Int32) (l7 : Int32) (l8 : Int32) (σ : zS) : zO := zF tX7_gatherNeighbours E 62 (0, 0) [.inr (.inl (some l0)), .inr (.inl l1), .inl l2, l3, .inl l4, .inl l5, .inl l6, .inl l7, .inl l8] [] σ
set_option maxRecDepth 20000 in
theorem uX7_gatherNeighbours_45 (E : zE) (l0 : Nat) (l1 : Option Nat) (l2 : Int32) (l3 : zV) (l4 : Int32) (l5 : Int32) (l6 : Int32) (l7 : Int32) (l8 : zV) (σ : zS) : LX7_gatherNeighbours_45 E l0 l1 l2 l3 l4 l5 l6 l7 l8 σ =
  (if (l7 : Int32) ≤ l6 then
    bnI (E mJ9_max_7cf53 [.inl 0, .inl (l2 - l4)] σ) fun v2 s1 =>
    zlt (α := Int32) v2 fun v3 =>
    LX7_gatherNeighbours_62 E l0 l1 l2 (l3) l4 l5 l6 l7 v3 s1
  else
    some (none, σ)) :=
  (zun_at (fun pc => (oX7_gatherNeighbours pc).1) E (fun q => Nat.beq q 45 || Nat.beq q 62) 66 45 (0, 0) [.inr (.inl (some l0)), .inr (.inl l1), .inl l2, l3, .inl l4, .inl l5, .inl l6, .inl l7, l8] [] σ).trans rfl
set_option maxRecDepth 20000 in
theorem uX7_gatherNeighbours_62 (E : zE) (l0 : Nat) (l1 : Option Nat) (l2 : Int32) (l3 : zV) (l4 : Int32) (l5 : Int32) (l6 : Int32) (l7 : Int32) (l8 : Int32) (σ : zS) : LX7_gatherNeighbours_62 E l0 l1 l2 l3 l4 l5 l6 l7 l8 σ =
  (if (l8 : Int32) ≤ l5 then
    chk (zkd σ l0 = 5) <|
    chk (zkd σ l0 = 5) <|
    onR (zr σ 321 l0) fun a1 =>
    chk (zkd σ a1 = 11) <|
    if ((zi σ 322 l0) : Int32) < (Int32.ofNat (zln σ a1)) then
      chk (zkd σ l0 = 5) <|
      chk (zkd σ l0 = 5) <|
      onR l1 fun a2 =>
      chk (zkd σ a2 = 4) <|
      bnI (E mX6_at [.inr (.inl l1), .inl l8, .inl l7] σ) fun v4 s3 =>
      onR (zr σ 321 l0) fun a5 =>
      chk (zkd s3 a5 = 11 ∧ zin (zi σ 322 l0) (zln s3 a5)) <| zlt (zsa s3 a5 (Int32.toNatClampNeg (zi σ 322 l0)) v4) fun s6 =>
      chk (zkd s6 l0 = 5) <|
      chk (zkd s6 l0 = 5) <| zlt (zsi s6 322 l0 ((zi s6 322 l0) + 1)) fun s7 =>
      zlt (α := Int32) (l8 + 1) fun v8 =>
      LX7_gatherNeighbours_62 E l0 l1 l2 (l3) l4 l5 l6 l7 v8 s7
    else
      zlt (α := Int32) (l8 + 1) fun v9 =>
      LX7_gatherNeighbours_62 E l0 l1 l2 (l3) l4 l5 l6 l7 v9 σ
  else
    zlt (α := Int32) (l7 + 1) fun v10 =>
    LX7_gatherNeighbours_45 E l0 l1 l2 (l3) l4 l5 l6 v10 (.inl l8) σ) :=
  (zun_at (fun pc => (oX7_gatherNeighbours pc).1) E (fun q => Nat.beq q 45 || Nat.beq q 62) 66 62 (0, 0) [.inr (.inl (some l0)), .inr (.inl l1), .inl l2, l3, .inl l4, .inl l5, .inl l6, .inl l7, .inl l8] [] σ).trans rfl
noncomputable def fX7_gatherNeighbours (E : zE) (p0 : Nat) (p1 : Option Nat) (p2 : Int32) (p3 : Int32) (p4 : Int32) (σ : zS) : zO :=
  chk (zkd σ p0 = 5) <| zlt (zsi σ 322 p0 0) fun s1 =>
  onR p1 fun a2 =>
  chk (zkd s1 a2 = 4) <|
  bnI (E mJ9_min_7cf53 [.inl (p2 + p4), .inl ((zi s1 257 a2) - 1)] s1) fun v4 s3 =>
  zlt (α := Int32) v4 fun v5 =>
  onR p1 fun a6 =>
  chk (zkd s3 a6 = 4) <|
  bnI (E mJ9_min_7cf53 [.inl (p3 + p4), .inl ((zi s3 258 a6) - 1)] s3) fun v8 s7 =>
  zlt (α := Int32) v8 fun v9 =>
  bnI (E mJ9_max_7cf53 [.inl 0, .inl (p3 - p4)] s7) fun v11 s10 =>
  zlt (α := Int32) v11 fun v12 =>
  LX7_gatherNeighbours_45 E p0 p1 p2 (.inl p3) p4 v5 v9 v12 (.inr (.inr none)) s10
set_option maxRecDepth 20000 in
theorem eX7_gatherNeighbours (E : zE) (p0 : Nat) (p1 : Option Nat) (p2 : Int32) (p3 : Int32) (p4 : Int32) (σ : zS) : zM tX7_gatherNeighbours 9 (0, 0) E [.inr (.inl (some p0)), .inr (.inl p1), .inl p2, .inl p3, .inl p4] σ = fX7_gatherNeighbours E p0 p1 p2 p3 p4 σ :=
  (zun_at (fun pc => (oX7_gatherNeighbours pc).1) E (fun q => Nat.beq q 45 || Nat.beq q 62) 66 0 (0, 0) (zls0 [.inr (.inl (some p0)), .inr (.inl p1), .inl p2, .inl p3, .inl p4] 9) [] σ).trans rfl
noncomputable def LX7_average_4 (E : zE) (l0 : Nat) (l1 : Int32) (l2 : Int32) (σ : zS) : zO := zF tX7_average E 4 (0, 0) [.inr (.inl (some l0)), .inl l1, .inl l2] [] σ
noncomputable def LX7_average_36 (E : zE) (l0 : Nat) (l1 : Int32) (l2 : zV) (σ : zS) : zO := zF tX7_average E 36 (0, 0) [.inr (.inl (some l0)), .inl l1, l2] [] σ
set_option maxRecDepth 20000 in
theorem uX7_average_4 (E : zE) (l0 : Nat) (l1 : Int32) (l2 : Int32) (σ : zS) : LX7_average_4 E l0 l1 l2 σ =
  (chk (zkd σ l0 = 5) <|
  if (l2 : Int32) < (zi σ 322 l0) then
    chk (zkd σ l0 = 5) <|
    onR (zr σ 321 l0) fun a1 =>
    chk (zkd σ a1 = 11) <|
    if (l2 : Int32) < (Int32.ofNat (zln σ a1)) then
      chk (zkd σ l0 = 5) <|
      onR (zr σ 321 l0) fun a2 =>
      chk (zkd σ a2 = 11 ∧ zin l2 (zln σ a2)) <|
      zlt (α := Int32) (l1 + (zai σ a2 (Int32.toNatClampNeg l2))) fun v3 =>
      zlt (α := Int32) (l2 + 1) fun v4 =>
      LX7_average_4 E l0 v3 v4 σ
    else
      LX7_average_36 E l0 l1 (.inl l2) σ
  else
    LX7_average_36 E l0 l1 (.inl l2) σ) :=
  (zun_at (fun pc => (oX7_average pc).1) E (fun q => Nat.beq q 4 || Nat.beq q 36) 33 4 (0, 0) [.inr (.inl (some l0)), .inl l1, .inl l2] [] σ).trans rfl
set_option maxRecDepth 20000 in
theorem uX7_average_36 (E : zE) (l0 : Nat) (l1 : Int32) (l2 : zV) (σ : zS) : LX7_average_36 E l0 l1 l2 σ =
  (chk (zkd σ l0 = 5) <|
  if ((zi σ 322 l0) : Int32) ≤ 0 then
    some (some (.inl 0), σ)
  else
    chk (zkd σ l0 = 5) <|
    if ((zi σ 322 l0) : Int32) = 0 then none else
    some (some (.inl (l1 / (zi σ 322 l0))), σ)) :=
  (zun_at (fun pc => (oX7_average pc).1) E (fun q => Nat.beq q 4 || Nat.beq q 36) 33 36 (0, 0) [.inr (.inl (some l0)), .inl l1, l2] [] σ).trans rfl
noncomputable def fX7_average (E : zE) (p0 : Nat) (σ : zS) : zO :=
  zlt (α := Int32) 0 fun v1 =>
  zlt (α := Int32) 0 fun v2 =>
  LX7_average_4 E p0 v1 v2 σ
set_option maxRecDepth 20000 in
theorem eX7_average (E : zE) (p0 : Nat) (σ : zS) : zM tX7_average 3 (0, 0) E [.inr (.inl (some p0))] σ = fX7_average E p0 σ :=
  (zun_at (fun pc => (oX7_average pc).1) E (fun q => Nat.beq q 4 || Nat.beq q 36) 33 0 (0, 0) (zls0 [.inr (.inl (some p0))] 3) [] σ).trans rfl
noncomputable def fX7_median (E : zE) (p0 : Nat) (σ : zS) : zO :=
  chk (zkd σ p0 = 5) <|
  bnV (E mX7_sortNeighbours [.inr (.inl (some p0))] σ) fun s1 =>
  chk (zkd s1 p0 = 5) <|
  if (2 : Int32) = 0 then none else
  zlt (α := Int32) (((zi s1 322 p0) - 1) / 2) fun v2 =>
  if (v2 : Int32) < 0 then
    some (some (.inl 0), s1)
  else
    chk (zkd s1 p0 = 5) <|
    onR (zr s1 321 p0) fun a3 =>
    chk (zkd s1 a3 = 11) <|
    if (v2 : Int32) < (Int32.ofNat (zln s1 a3)) then
      chk (zkd s1 p0 = 5) <|
      onR (zr s1 321 p0) fun a4 =>
      chk (zkd s1 a4 = 11 ∧ zin v2 (zln s1 a4)) <|
      some (some (.inl (zai s1 a4 (Int32.toNatClampNeg v2))), s1)
    else
      some (some (.inl 0), s1)
set_option maxRecDepth 20000 in
theorem eX7_median (E : zE) (p0 : Nat) (σ : zS) : zM tX7_median 2 (0, 0) E [.inr (.inl (some p0))] σ = fX7_median E p0 σ :=
  (zun_at (fun pc => (oX7_median pc).1) E (fun _ => false) 24 0 (0, 0) (zls0 [.inr (.inl (some p0))] 2) [] σ).trans rfl
noncomputable def LX7_sortNeighbours_2 (E : zE) (l0 : Nat) (l1 : Int32) (l2 : zV) (l3 : zV) (σ : zS) : zO := zF tX7_sortNeighbours E 2 (0, 0) [.inr (.inl (some l0)), .inl l1, l2, l3] [] σ
noncomputable def LX7_sortNeighbours_28 (E : zE) (l0 : Nat) (l1 : Int32) (l2 : Int32) (l3 : Int32) (σ : zS) : zO := zF tX7_sortNeighbours E 28 (0, 0) [.inr (.inl (some l0)), .inl l1, .inl l2, .inl l3] [] σ
set_option maxRecDepth 20000 in
theorem uX7_sortNeighbours_2 (E : zE) (l0 : Nat) (l1 : Int32) (l2 : zV) (l3 : zV) (σ : zS) : LX7_sortNeighbours_2 E l0 l1 l2 l3 σ =
  (chk (zkd σ l0 = 5) <|
  if (l1 : Int32) < (zi σ 322 l0) then
    chk (zkd σ l0 = 5) <|
    onR (zr σ 321 l0) fun a1 =>
    chk (zkd σ a1 = 11) <|
    if (l1 : Int32) < (Int32.ofNat (zln σ a1)) then
      chk (zkd σ l0 = 5) <|
      onR (zr σ 321 l0) fun a2 =>
      chk (zkd σ a2 = 11 ∧ zin l1 (zln σ a2)) <|
      zlt (α := Int32) (zai σ a2 (Int32.toNatClampNeg l1)) fun v3 =>
      zlt (α := Int32) l1 fun v4 =>
      LX7_sortNeighbours_28 E l0 l1 v3 v4 σ
    else
      some (none, σ)
  else
    some (none, σ)) :=
  (zun_at (fun pc => (oX7_sortNeighbours pc).1) E (fun q => Nat.beq q 2 || Nat.beq q 28) 49 2 (0, 0) [.inr (.inl (some l0)), .inl l1, l2, l3] [] σ).trans rfl
set_option maxRecDepth 20000 in
theorem uX7_sortNeighbours_28 (E : zE) (l0 : Nat) (l1 : Int32) (l2 : Int32) (l3 : Int32) (σ : zS) : LX7_sortNeighbours_28 E l0 l1 l2 l3 σ =
  (if (l3 : Int32) ≤ 0 then
    chk (zkd σ l0 = 5) <|
    onR (zr σ 321 l0) fun a1 =>
    chk (zkd σ a1 = 11 ∧ zin l3 (zln σ a1)) <| zlt (zsa σ a1 (Int32.toNatClampNeg l3) l2) fun s2 =>
    zlt (α := Int32) (l1 + 1) fun v3 =>
    LX7_sortNeighbours_2 E l0 v3 (.inl l2) (.inl l3) s2
  else
    chk (zkd σ l0 = 5) <|
    onR (zr σ 321 l0) fun a4 =>
    chk (zkd σ a4 = 11 ∧ zin (l3 - 1) (zln σ a4)) <|
    if ((zai σ a4 (Int32.toNatClampNeg (l3 - 1))) : Int32) ≤ l2 then
      chk (zkd σ l0 = 5) <|
      onR (zr σ 321 l0) fun a5 =>
      chk (zkd σ a5 = 11 ∧ zin l3 (zln σ a5)) <| zlt (zsa σ a5 (Int32.toNatClampNeg l3) l2) fun s6 =>
      zlt (α := Int32) (l1 + 1) fun v7 =>
      LX7_sortNeighbours_2 E l0 v7 (.inl l2) (.inl l3) s6
    else
      chk (zkd σ l0 = 5) <|
      chk (zkd σ l0 = 5) <|
      onR (zr σ 321 l0) fun a8 =>
      chk (zkd σ a8 = 11 ∧ zin (l3 - 1) (zln σ a8)) <|
      onR (zr σ 321 l0) fun a9 =>
      chk (zkd σ a9 = 11 ∧ zin l3 (zln σ a9)) <| zlt (zsa σ a9 (Int32.toNatClampNeg l3) (zai σ a8 (Int32.toNatClampNeg (l3 - 1)))) fun s10 =>
      zlt (α := Int32) (l3 + (-1)) fun v11 =>
      LX7_sortNeighbours_28 E l0 l1 l2 v11 s10) :=
  (zun_at (fun pc => (oX7_sortNeighbours pc).1) E (fun q => Nat.beq q 2 || Nat.beq q 28) 49 28 (0, 0) [.inr (.inl (some l0)), .inl l1, .inl l2, .inl l3] [] σ).trans rfl
noncomputable def fX7_sortNeighbours (E : zE) (p0 : Nat) (σ : zS) : zO :=
  zlt (α := Int32) 1 fun v1 =>
  LX7_sortNeighbours_2 E p0 v1 (.inr (.inr none)) (.inr (.inr none)) σ
set_option maxRecDepth 20000 in
theorem eX7_sortNeighbours (E : zE) (p0 : Nat) (σ : zS) : zM tX7_sortNeighbours 4 (0, 0) E [.inr (.inl (some p0))] σ = fX7_sortNeighbours E p0 σ :=
  (zun_at (fun pc => (oX7_sortNeighbours pc).1) E (fun q => Nat.beq q 2 || Nat.beq q 28) 49 0 (0, 0) (zls0 [.inr (.inl (some p0))] 4) [] σ).trans rfl
noncomputable def LX7_greatest_4 (E : zE) (l0 : Nat) (l1 : Int32) (l2 : Int32) (σ : zS) : zO := zF tX7_greatest E 4 (0, 0) [.inr (.inl (some l0)), .inl l1, .inl l2] [] σ
set_option maxRecDepth 20000 in
theorem uX7_greatest_4 (E : zE) (l0 : Nat) (l1 : Int32) (l2 : Int32) (σ : zS) : LX7_greatest_4 E l0 l1 l2 σ =
  (chk (zkd σ l0 = 5) <|
  if (l2 : Int32) < (zi σ 322 l0) then
    chk (zkd σ l0 = 5) <|
    onR (zr σ 321 l0) fun a1 =>
    chk (zkd σ a1 = 11) <|
    if (l2 : Int32) < (Int32.ofNat (zln σ a1)) then
      chk (zkd σ l0 = 5) <|
      onR (zr σ 321 l0) fun a2 =>
      chk (zkd σ a2 = 11 ∧ zin l2 (zln σ a2)) <|
      bnI (E mJ9_max_7cf53 [.inl l1, .inl (zai σ a2 (Int32.toNatClampNeg l2))] σ) fun v4 s3 =>
      zlt (α := Int32) v4 fun v5 =>
      zlt (α := Int32) (l2 + 1) fun v6 =>
      LX7_greatest_4 E l0 v5 v6 s3
    else
      some (some (.inl l1), σ)
  else
    some (some (.inl l1), σ)) :=
  (zun_at (fun pc => (oX7_greatest pc).1) E (fun q => Nat.beq q 4) 25 4 (0, 0) [.inr (.inl (some l0)), .inl l1, .inl l2] [] σ).trans rfl
noncomputable def fX7_greatest (E : zE) (p0 : Nat) (σ : zS) : zO :=
  zlt (α := Int32) 0 fun v1 =>
  zlt (α := Int32) 0 fun v2 =>
  LX7_greatest_4 E p0 v1 v2 σ
set_option maxRecDepth 20000 in
theorem eX7_greatest (E : zE) (p0 : Nat) (σ : zS) : zM tX7_greatest 3 (0, 0) E [.inr (.inl (some p0))] σ = fX7_greatest E p0 σ :=
  (zun_at (fun pc => (oX7_greatest pc).1) E (fun q => Nat.beq q 4) 25 0 (0, 0) (zls0 [.inr (.inl (some p0))] 3) [] σ).trans rfl
noncomputable def LX7_smallest_6 (E : zE) (l0 : Nat) (l1 : Int32) (l2 : Int32) (σ : zS) : zO := zF tX7_smallest E 6 (0, 0) [.inr (.inl (some l0)), .inl l1, .inl l2] [] σ
set_option maxRecDepth 20000 in
theorem uX7_smallest_6 (E : zE) (l0 : Nat) (l1 : Int32) (l2 : Int32) (σ : zS) : LX7_smallest_6 E l0 l1 l2 σ =
  (chk (zkd σ l0 = 5) <|
  if (l2 : Int32) < (zi σ 322 l0) then
    chk (zkd σ l0 = 5) <|
    onR (zr σ 321 l0) fun a1 =>
    chk (zkd σ a1 = 11) <|
    if (l2 : Int32) < (Int32.ofNat (zln σ a1)) then
      chk (zkd σ l0 = 5) <|
      onR (zr σ 321 l0) fun a2 =>
      chk (zkd σ a2 = 11 ∧ zin l2 (zln σ a2)) <|
      bnI (E mJ9_min_7cf53 [.inl l1, .inl (zai σ a2 (Int32.toNatClampNeg l2))] σ) fun v4 s3 =>
      zlt (α := Int32) v4 fun v5 =>
      zlt (α := Int32) (l2 + 1) fun v6 =>
      LX7_smallest_6 E l0 v5 v6 s3
    else
      some (some (.inl l1), σ)
  else
    some (some (.inl l1), σ)) :=
  (zun_at (fun pc => (oX7_smallest pc).1) E (fun q => Nat.beq q 6) 25 6 (0, 0) [.inr (.inl (some l0)), .inl l1, .inl l2] [] σ).trans rfl
noncomputable def fX7_smallest (E : zE) (p0 : Nat) (σ : zS) : zO :=
  zlt (α := Int32) 255 fun v1 =>
  zlt (α := Int32) 0 fun v2 =>
  LX7_smallest_6 E p0 v1 v2 σ
set_option maxRecDepth 20000 in
theorem eX7_smallest (E : zE) (p0 : Nat) (σ : zS) : zM tX7_smallest 3 (0, 0) E [.inr (.inl (some p0))] σ = fX7_smallest E p0 σ :=
  (zun_at (fun pc => (oX7_smallest pc).1) E (fun q => Nat.beq q 6) 25 0 (0, 0) (zls0 [.inr (.inl (some p0))] 3) [] σ).trans rfl
noncomputable def fX8_init (E : zE) (p0 : Nat) (σ : zS) : zO :=
  chk (zkd (zna σ 10 160) p0 = 6) <| zlt (zsr (zna σ 10 160) 384 p0 (some (znx σ))) fun s1 =>
  some (none, s1)
set_option maxRecDepth 20000 in
theorem eX8_init (E : zE) (p0 : Nat) (σ : zS) : zM tX8_init 1 (1, 160) E [.inr (.inl (some p0))] σ = fX8_init E p0 σ :=
  (zun_at (fun pc => (oX8_init pc).1) E (fun _ => false) 8 0 (1, 160) (zls0 [.inr (.inl (some p0))] 1) [] σ).trans rfl
noncomputable def LX9_init_35 (E : zE) (l0 : Nat) (l1 : Int32) (b : Nat × Nat) (σ : zS) : zO := zF tX9_init E 35 b [.inr (.inl (some l0)), .inl l1] [] σ
set_option maxRecDepth 20000 in
theorem uX9_init_35 (E : zE) (l0 : Nat) (l1 : Int32) (b : Nat × Nat) (σ : zS) : LX9_init_35 E l0 l1 b σ =
  (chk (zkd σ l0 = 7) <|
  onR (zr σ 448 l0) fun a1 =>
  chk (zkd σ a1 = 15) <|
  if (l1 : Int32) < (Int32.ofNat (zln σ a1)) then
    chk (zkd σ l0 = 7) <|
    if 1 ≤ Prod.fst b ∧ 3 ≤ Prod.snd b then
      chk (zkd (zno σ 4) (znx σ) = 4) <|
      zgd (zfit (Prod.fst b - 1, Prod.snd b - 3) (1, 256) && true) <|
      bnV (E mX6_init [.inr (.inl (some (znx σ)))] (zno σ 4)) fun s2 =>
      onR (zr σ 448 l0) fun a3 =>
      chk ((zkd s2 a3 = 15 ∧ zin l1 (zln s2 a3)) ∧ zkd s2 (znx σ) = 4) <| zlt (zsq s2 a3 (Int32.toNatClampNeg l1) (some (znx σ))) fun s4 =>
      zlt (α := Int32) (l1 + 1) fun v5 =>
      LX9_init_35 E l0 v5 (Prod.fst (Prod.fst b - 1, Prod.snd b - 3) - 1, Prod.snd (Prod.fst b - 1, Prod.snd b - 3) - 256) s4
    else none
  else
    some (none, σ)) :=
  (zun_at (fun pc => (oX9_init pc).1) E (fun q => Nat.beq q 35) 34 35 b [.inr (.inl (some l0)), .inl l1] [] σ).trans rfl
noncomputable def fX9_init (E : zE) (p0 : Nat) (σ : zS) : zO :=
  chk (zkd (zna σ 15 8) p0 = 7) <| zlt (zsr (zna σ 15 8) 448 p0 (some (znx σ))) fun s1 =>
  chk (zkd (zna s1 11 512) p0 = 7) <| zlt (zsr (zna s1 11 512) 449 p0 (some (znx s1))) fun s2 =>
  chk (zkd s2 p0 = 7) <| zlt (zsi s2 450 p0 4) fun s3 =>
  chk (zkd s3 p0 = 7) <| zlt (zsi s3 451 p0 16) fun s4 =>
  zlt (α := Int32) 0 fun v5 =>
  LX9_init_35 E p0 v5 (16, 2072) s4
set_option maxRecDepth 20000 in
theorem eX9_init (E : zE) (p0 : Nat) (σ : zS) : zM tX9_init 2 (18, 2592) E [.inr (.inl (some p0))] σ = fX9_init E p0 σ :=
  (zun_at (fun pc => (oX9_init pc).1) E (fun q => Nat.beq q 35) 34 0 (18, 2592) (zls0 [.inr (.inl (some p0))] 2) [] σ).trans rfl
noncomputable def fX9_slotOf (E : zE) (p0 : Int32) (p1 : Int32) (p2 : Int32) (σ : zS) : zO :=
  some (some (.inl (((p0 * 64) + (p2 * 8)) + p1)), σ)
set_option maxRecDepth 20000 in
theorem eX9_slotOf (E : zE) (p0 : Int32) (p1 : Int32) (p2 : Int32) (σ : zS) : zM tX9_slotOf 3 (0, 0) E [.inl p0, .inl p1, .inl p2] σ = fX9_slotOf E p0 p1 p2 σ :=
  (zun_at (fun pc => (oX9_slotOf pc).1) E (fun _ => false) 11 0 (0, 0) (zls0 [.inl p0, .inl p1, .inl p2] 3) [] σ).trans rfl
noncomputable def fX9_tileOf (E : zE) (p0 : Nat) (p1 : Int32) (σ : zS) : zO :=
  chk (zkd σ p0 = 7) <|
  bnI (E mX10_divided [.inl p1, .inl (zi σ 450 p0)] σ) fun v2 s1 =>
  some (some (.inl v2), s1)
set_option maxRecDepth 20000 in
theorem eX9_tileOf (E : zE) (p0 : Nat) (p1 : Int32) (σ : zS) : zM tX9_tileOf 2 (0, 0) E [.inr (.inl (some p0)), .inl p1] σ = fX9_tileOf E p0 p1 σ :=
  (zun_at (fun pc => (oX9_tileOf pc).1) E (fun _ => false) 6 0 (0, 0) (zls0 [.inr (.inl (some p0)), .inl p1] 2) [] σ).trans rfl
noncomputable def fX9_outputAt (E : zE) (p0 : Nat) (p1 : Int32) (σ : zS) : zO :=
  if (p1 : Int32) < 0 then
    some (some (.inr (.inl none)), σ)
  else
    chk (zkd σ p0 = 7) <|
    onR (zr σ 448 p0) fun a1 =>
    chk (zkd σ a1 = 15) <|
    if (p1 : Int32) < (Int32.ofNat (zln σ a1)) then
      chk (zkd σ p0 = 7) <|
      onR (zr σ 448 p0) fun a2 =>
      chk (zkd σ a2 = 15 ∧ zin p1 (zln σ a2)) <|
      some (some (.inr (.inl (zar σ a2 (Int32.toNatClampNeg p1)))), σ)
    else
      some (some (.inr (.inl none)), σ)
set_option maxRecDepth 20000 in
theorem eX9_outputAt (E : zE) (p0 : Nat) (p1 : Int32) (σ : zS) : zM tX9_outputAt 2 (0, 0) E [.inr (.inl (some p0)), .inl p1] σ = fX9_outputAt E p0 p1 σ :=
  (zun_at (fun pc => (oX9_outputAt pc).1) E (fun _ => false) 15 0 (0, 0) (zls0 [.inr (.inl (some p0)), .inl p1] 2) [] σ).trans rfl
noncomputable def fX9_holds (E : zE) (p0 : Nat) (p1 : Int32) (p2 : Int32) (p3 : Int32) (σ : zS) : zO :=
  bnI (E mX9_slotOf [.inl p1, .inl p2, .inl p3] σ) fun v2 s1 =>
  zlt (α := Int32) v2 fun v3 =>
  if (v3 : Int32) < 0 then
    chk (zB 0) (some (some (.inl 0), s1))
  else
    chk (zkd s1 p0 = 7) <|
    onR (zr s1 449 p0) fun a4 =>
    chk (zkd s1 a4 = 11) <|
    if (v3 : Int32) < (Int32.ofNat (zln s1 a4)) then
      chk (zkd s1 p0 = 7) <|
      onR (zr s1 449 p0) fun a5 =>
      chk (zkd s1 a5 = 11 ∧ zin v3 (zln s1 a5)) <|
      if ((zai s1 a5 (Int32.toNatClampNeg v3)) : Int32) ≤ 0 then
        chk (zB 0) (some (some (.inl 0), s1))
      else
        chk (zB 1) (some (some (.inl 1), s1))
    else
      chk (zB 0) (some (some (.inl 0), s1))
set_option maxRecDepth 20000 in
theorem eX9_holds (E : zE) (p0 : Nat) (p1 : Int32) (p2 : Int32) (p3 : Int32) (σ : zS) : zM tX9_holds 5 (0, 0) E [.inr (.inl (some p0)), .inl p1, .inl p2, .inl p3] σ = fX9_holds E p0 p1 p2 p3 σ :=
  (zun_at (fun pc => (oX9_holds pc).1) E (fun _ => false) 22 0 (0, 0) (zls0 [.inr (.inl (some p0)), .inl p1, .inl p2, .inl p3] 5) [] σ).trans rfl
noncomputable def fX9_noteFound (E : zE) (p0 : Nat) (p1 : Int32) (p2 : Int32) (p3 : Int32) (σ : zS) : zO :=
  chk (zkd σ p0 = 7) <|
  chk (zkd σ p0 = 7) <| zlt (zsi σ 455 p0 ((zi σ 455 p0) + 1)) fun s1 =>
  bnI (E mX9_slotOf [.inl p1, .inl p2, .inl p3] s1) fun v3 s2 =>
  chk (zkd s2 p0 = 7) <|
  bnV (E mX9_use [.inr (.inl (some p0)), .inl v3] s2) fun s4 =>
  some (none, s4)
set_option maxRecDepth 20000 in
theorem eX9_noteFound (E : zE) (p0 : Nat) (p1 : Int32) (p2 : Int32) (p3 : Int32) (σ : zS) : zM tX9_noteFound 4 (0, 0) E [.inr (.inl (some p0)), .inl p1, .inl p2, .inl p3] σ = fX9_noteFound E p0 p1 p2 p3 σ :=
  (zun_at (fun pc => (oX9_noteFound pc).1) E (fun _ => false) 14 0 (0, 0) (zls0 [.inr (.inl (some p0)), .inl p1, .inl p2, .inl p3] 4) [] σ).trans rfl
noncomputable def fX9_noteComputed (E : zE) (p0 : Nat) (p1 : Int32) (p2 : Int32) (p3 : Int32) (σ : zS) : zO :=
  chk (zkd σ p0 = 7) <|
  chk (zkd σ p0 = 7) <| zlt (zsi σ 454 p0 ((zi σ 454 p0) + 1)) fun s1 =>
  chk (zkd s1 p0 = 7) <|
  chk (zkd s1 p0 = 7) <| zlt (zsi s1 452 p0 ((zi s1 452 p0) + 1)) fun s2 =>
  bnI (E mX9_slotOf [.inl p1, .inl p2, .inl p3] s2) fun v4 s3 =>
  chk (zkd s3 p0 = 7) <|
  bnV (E mX9_use [.inr (.inl (some p0)), .inl v4] s3) fun s5 =>
  some (none, s5)
set_option maxRecDepth 20000 in
theorem eX9_noteComputed (E : zE) (p0 : Nat) (p1 : Int32) (p2 : Int32) (p3 : Int32) (σ : zS) : zM tX9_noteComputed 4 (0, 0) E [.inr (.inl (some p0)), .inl p1, .inl p2, .inl p3] σ = fX9_noteComputed E p0 p1 p2 p3 σ :=
  (zun_at (fun pc => (oX9_noteComputed pc).1) E (fun _ => false) 20 0 (0, 0) (zls0 [.inr (.inl (some p0)), .inl p1, .inl p2, .inl p3] 4) [] σ).trans rfl
noncomputable def fX9_use (E : zE) (p0 : Nat) (p1 : Int32) (σ : zS) : zO :=
  if (p1 : Int32) < 0 then
    some (none, σ)
  else
    chk (zkd σ p0 = 7) <|
    onR (zr σ 449 p0) fun a1 =>
    chk (zkd σ a1 = 11) <|
    if (p1 : Int32) < (Int32.ofNat (zln σ a1)) then
      chk (zkd σ p0 = 7) <|
      chk (zkd σ p0 = 7) <| zlt (zsi σ 453 p0 ((zi σ 453 p0) + 1)) fun s2 =>
      chk (zkd s2 p0 = 7) <|
      chk (zkd s2 p0 = 7) <|
      onR (zr s2 449 p0) fun a3 =>
      chk (zkd s2 a3 = 11 ∧ zin p1 (zln s2 a3)) <| zlt (zsa s2 a3 (Int32.toNatClampNeg p1) (zi s2 453 p0)) fun s4 =>
      some (none, s4)
    else
      some (none, σ)
set_option maxRecDepth 20000 in
theorem eX9_use (E : zE) (p0 : Nat) (p1 : Int32) (σ : zS) : zM tX9_use 2 (0, 0) E [.inr (.inl (some p0)), .inl p1] σ = fX9_use E p0 p1 σ :=
  (zun_at (fun pc => (oX9_use pc).1) E (fun _ => false) 21 0 (0, 0) (zls0 [.inr (.inl (some p0)), .inl p1] 2) [] σ).trans rfl
noncomputable def LX9_tilesOf_19 (E : zE) (l0 : Nat) (l1 : zV) (l2 : Int32) (l3 : Int32) (l4 : Int32) (σ : zS) : zO := zF tX9_tilesOf E 19 (0, 0) [.inr (.inl (some l0)), l1, .inl l2, .inl l3, .inl l4] [] σ
set_option maxRecDepth 20000 in
theorem uX9_tilesOf_19 (E : zE) (l0 : Nat) (l1 : zV) (l2 : Int32) (l3 : Int32) (l4 : Int32) (σ : zS) : LX9_tilesOf_19 E l0 l1 l2 l3 l4 σ =
  (if (l4 : Int32) < l3 then
    chk (zkd σ l0 = 7) <|
    onR (zr σ 449 l0) fun a1 =>
    chk (zkd σ a1 = 11) <|
    if (l4 : Int32) < (Int32.ofNat (zln σ a1)) then
      chk (zkd σ l0 = 7) <|
      onR (zr σ 449 l0) fun a2 =>
      chk (zkd σ a2 = 11 ∧ zin l4 (zln σ a2)) <|
      if ((zai σ a2 (Int32.toNatClampNeg l4)) : Int32) ≤ 0 then
        zlt (α := Int32) (l4 + 1) fun v3 =>
        LX9_tilesOf_19 E l0 (l1) l2 l3 v3 σ
      else
        zlt (α := Int32) (l2 + 1) fun v4 =>
        zlt (α := Int32) (l4 + 1) fun v5 =>
        LX9_tilesOf_19 E l0 (l1) v4 l3 v5 σ
    else
      some (some (.inl l2), σ)
  else
    some (some (.inl l2), σ)) :=
  (zun_at (fun pc => (oX9_tilesOf pc).1) E (fun q => Nat.beq q 19) 33 19 (0, 0) [.inr (.inl (some l0)), l1, .inl l2, .inl l3, .inl l4] [] σ).trans rfl
noncomputable def fX9_tilesOf (E : zE) (p0 : Nat) (p1 : Int32) (σ : zS) : zO :=
  zlt (α := Int32) 0 fun v1 =>
  zlt (α := Int32) ((p1 + 1) * 64) fun v2 =>
  bnI (E mJ9_max_7cf53 [.inl 0, .inl (v2 - 64)] σ) fun v4 s3 =>
  zlt (α := Int32) v4 fun v5 =>
  LX9_tilesOf_19 E p0 (.inl p1) v1 v2 v5 s3
set_option maxRecDepth 20000 in
theorem eX9_tilesOf (E : zE) (p0 : Nat) (p1 : Int32) (σ : zS) : zM tX9_tilesOf 5 (0, 0) E [.inr (.inl (some p0)), .inl p1] σ = fX9_tilesOf E p0 p1 σ :=
  (zun_at (fun pc => (oX9_tilesOf pc).1) E (fun q => Nat.beq q 19) 33 0 (0, 0) (zls0 [.inr (.inl (some p0)), .inl p1] 5) [] σ).trans rfl
noncomputable def LX9_oldestSlot_11 (E : zE) (l0 : Nat) (l1 : Int32) (l2 : Int32) (l3 : Int32) (σ : zS) : zO := zF tX9_oldestSlot E 11 (0, 0) [.inr (.inl (some l0)), .inl l1, .inl l2, .inl l3] [] σ
set_option maxRecDepth 20000 in
theorem uX9_oldestSlot_11 (E : zE) (l0 : Nat) (l1 : Int32) (l2 : Int32) (l3 : Int32) (σ : zS) : LX9_oldestSlot_11 E l0 l1 l2 l3 σ =
  (chk (zkd σ l0 = 7) <|
  onR (zr σ 449 l0) fun a1 =>
  chk (zkd σ a1 = 11) <|
  if (l3 : Int32) < (Int32.ofNat (zln σ a1)) then
    chk (zkd σ l0 = 7) <|
    onR (zr σ 449 l0) fun a2 =>
    chk (zkd σ a2 = 11 ∧ zin l3 (zln σ a2)) <|
    if ((zai σ a2 (Int32.toNatClampNeg l3)) : Int32) ≤ 0 then
      zlt (α := Int32) (l3 + 1) fun v3 =>
      LX9_oldestSlot_11 E l0 l1 l2 v3 σ
    else
      chk (zkd σ l0 = 7) <|
      onR (zr σ 449 l0) fun a4 =>
      chk (zkd σ a4 = 11 ∧ zin l3 (zln σ a4)) <|
      if ((zai σ a4 (Int32.toNatClampNeg l3)) : Int32) < l2 then
        chk (zkd σ l0 = 7) <|
        onR (zr σ 449 l0) fun a5 =>
        chk (zkd σ a5 = 11 ∧ zin l3 (zln σ a5)) <|
        zlt (α := Int32) (zai σ a5 (Int32.toNatClampNeg l3)) fun v6 =>
        zlt (α := Int32) l3 fun v7 =>
        zlt (α := Int32) (l3 + 1) fun v8 =>
        LX9_oldestSlot_11 E l0 v7 v6 v8 σ
      else
        zlt (α := Int32) (l3 + 1) fun v9 =>
        LX9_oldestSlot_11 E l0 l1 l2 v9 σ
  else
    some (some (.inl l1), σ)) :=
  (zun_at (fun pc => (oX9_oldestSlot pc).1) E (fun q => Nat.beq q 11) 37 11 (0, 0) [.inr (.inl (some l0)), .inl l1, .inl l2, .inl l3] [] σ).trans rfl
noncomputable def fX9_oldestSlot (E : zE) (p0 : Nat) (σ : zS) : zO :=
  zlt (α := Int32) (-1) fun v1 =>
  chk (zkd σ p0 = 7) <|
  zlt (α := Int32) ((zi σ 453 p0) + 1) fun v2 =>
  zlt (α := Int32) 0 fun v3 =>
  LX9_oldestSlot_11 E p0 v1 v2 v3 σ
set_option maxRecDepth 20000 in
theorem eX9_oldestSlot (E : zE) (p0 : Nat) (σ : zS) : zM tX9_oldestSlot 4 (0, 0) E [.inr (.inl (some p0))] σ = fX9_oldestSlot E p0 σ :=
  (zun_at (fun pc => (oX9_oldestSlot pc).1) E (fun q => Nat.beq q 11) 37 0 (0, 0) (zls0 [.inr (.inl (some p0))] 4) [] σ).trans rfl
noncomputable def LX9_dropSurplus_16 (E : zE) (l0 : Nat) (l1 : Int32) (l2 : Int32) (σ : zS) : zO := zF tX9_dropSurplus E 16 (0, 0) [.inr (.inl (some l0)), .inl l1, .inl l2] [] σ
set_option maxRecDepth 20000 in
theorem uX9_dropSurplus_16 (E : zE) (l0 : Nat) (l1 : Int32) (l2 : Int32) (σ : zS) : LX9_dropSurplus_16 E l0 l1 l2 σ =
  (if (l2 : Int32) < l1 then
    chk (zkd σ l0 = 7) <|
    bnI (E mX9_oldestSlot [.inr (.inl (some l0))] σ) fun v2 s1 =>
    chk (zkd s1 l0 = 7) <|
    bnI (E mX9_remove [.inr (.inl (some l0)), .inl v2] s1) fun v4 s3 =>
    zlt (α := Int32) (l2 + 1) fun v5 =>
    LX9_dropSurplus_16 E l0 l1 v5 s3
  else
    chk (zkd σ l0 = 7) <|
    chk (zkd σ l0 = 7) <| zlt (zsi σ 456 l0 ((zi σ 456 l0) + l1)) fun s6 =>
    some (some (.inl l1), s6)) :=
  (zun_at (fun pc => (oX9_dropSurplus pc).1) E (fun q => Nat.beq q 16) 29 16 (0, 0) [.inr (.inl (some l0)), .inl l1, .inl l2] [] σ).trans rfl
noncomputable def fX9_dropSurplus (E : zE) (p0 : Nat) (σ : zS) : zO :=
  chk (zkd σ p0 = 7) <|
  chk (zkd σ p0 = 7) <|
  bnI (E mJ9_max_7cf53 [.inl 0, .inl ((zi σ 452 p0) - (zi σ 451 p0))] σ) fun v2 s1 =>
  zlt (α := Int32) v2 fun v3 =>
  zlt (α := Int32) 0 fun v4 =>
  LX9_dropSurplus_16 E p0 v3 v4 s1
set_option maxRecDepth 20000 in
theorem eX9_dropSurplus (E : zE) (p0 : Nat) (σ : zS) : zM tX9_dropSurplus 3 (0, 0) E [.inr (.inl (some p0))] σ = fX9_dropSurplus E p0 σ :=
  (zun_at (fun pc => (oX9_dropSurplus pc).1) E (fun q => Nat.beq q 16) 29 0 (0, 0) (zls0 [.inr (.inl (some p0))] 3) [] σ).trans rfl
noncomputable def fX9_removeAll (E : zE) (p0 : Nat) (σ : zS) : zO :=
  chk (zkd σ p0 = 7) <|
  bnI (E mX9_removeFrom [.inr (.inl (some p0)), .inl 0] σ) fun v2 s1 =>
  some (some (.inl v2), s1)
set_option maxRecDepth 20000 in
theorem eX9_removeAll (E : zE) (p0 : Nat) (σ : zS) : zM tX9_removeAll 1 (0, 0) E [.inr (.inl (some p0))] σ = fX9_removeAll E p0 σ :=
  (zun_at (fun pc => (oX9_removeAll pc).1) E (fun _ => false) 5 0 (0, 0) (zls0 [.inr (.inl (some p0))] 1) [] σ).trans rfl
noncomputable def fX9_removeFrom (E : zE) (p0 : Nat) (p1 : Int32) (σ : zS) : zO :=
  chk (zkd σ p0 = 7) <|
  onR (zr σ 449 p0) fun a1 =>
  chk (zkd σ a1 = 11) <|
  chk (zkd σ p0 = 7) <|
  bnI (E mX9_removeSlots [.inr (.inl (some p0)), .inl (p1 * 64), .inl (Int32.ofNat (zln σ a1))] σ) fun v3 s2 =>
  some (some (.inl v3), s2)
set_option maxRecDepth 20000 in
theorem eX9_removeFrom (E : zE) (p0 : Nat) (p1 : Int32) (σ : zS) : zM tX9_removeFrom 2 (0, 0) E [.inr (.inl (some p0)), .inl p1] σ = fX9_removeFrom E p0 p1 σ :=
  (zun_at (fun pc => (oX9_removeFrom pc).1) E (fun _ => false) 10 0 (0, 0) (zls0 [.inr (.inl (some p0)), .inl p1] 2) [] σ).trans rfl
noncomputable def LX9_removeTouched_10 (E : zE) (l0 : Nat) (l1 : Int32) (l2 : Int32) (l3 : zV) (l4 : Int32) (l5 : Int32) (l6 : Int32) (l7 : Int32) (l8 : zV) (σ : zS) : zO := zF tX9_removeTouched E 10 (0, 0) [.inr (.inl (some l0)), .inl l1, .inl l2, l3, .inl l4, .inl l5, .inl l6, .inl l7, l8] [] σ
noncomputable def LX9_removeTouched_28 (E : zE) (l0 : Nat) (l1 : Int32) (l2 : Int32) (l3 : zV) (l4 : Int32) (l5 : Int32) (l6 : Int32) (l7 : Int32) (l8 : Int32) (σ : zS) : zO := zF tX9_removeTouched E 28 (0, 0) [.inr (.inl (some l0)), .inl l1, .inl l2, l3, .inl l4, .inl l5, .inl l6, .inl l7, .inl l8] [] σ
set_option maxRecDepth 20000 in
theorem uX9_removeTouched_10 (E : zE) (l0 : Nat) (l1 : Int32) (l2 : Int32) (l3 : zV) (l4 : Int32) (l5 : Int32) (l6 : Int32) (l7 : Int32) (l8 : zV) (σ : zS) : LX9_removeTouched_10 E l0 l1 l2 l3 l4 l5 l6 l7 l8 σ =
  (chk (zkd σ l0 = 7) <|
  bnI (E mX9_tileOf [.inr (.inl (some l0)), .inl l5] σ) fun v2 s1 =>
  if (l7 : Int32) ≤ v2 then
    chk (zkd s1 l0 = 7) <|
    bnI (E mX9_tileOf [.inr (.inl (some l0)), .inl l2] s1) fun v4 s3 =>
    zlt (α := Int32) v4 fun v5 =>
    LX9_removeTouched_28 E l0 l1 l2 (l3) l4 l5 l6 l7 v5 s3
  else
    some (some (.inl l6), s1)) :=
  (zun_at (fun pc => (oX9_removeTouched pc).1) E (fun q => Nat.beq q 10 || Nat.beq q 28) 36 10 (0, 0) [.inr (.inl (some l0)), .inl l1, .inl l2, l3, .inl l4, .inl l5, .inl l6, .inl l7, l8] [] σ).trans rfl
set_option maxRecDepth 20000 in
theorem uX9_removeTouched_28 (E : zE) (l0 : Nat) (l1 : Int32) (l2 : Int32) (l3 : zV) (l4 : Int32) (l5 : Int32) (l6 : Int32) (l7 : Int32) (l8 : Int32) (σ : zS) : LX9_removeTouched_28 E l0 l1 l2 l3 l4 l5 l6 l7 l8 σ =
  (chk (zkd σ l0 = 7) <|
  bnI (E mX9_tileOf [.inr (.inl (some l0)), .inl l4] σ) fun v2 s1 =>
  if (l8 : Int32) ≤ v2 then
    bnI (E mX9_slotOf [.inl l1, .inl l8, .inl l7] s1) fun v4 s3 =>
    chk (zkd s3 l0 = 7) <|
    bnI (E mX9_remove [.inr (.inl (some l0)), .inl v4] s3) fun v6 s5 =>
    zlt (α := Int32) (l6 + v6) fun v7 =>
    zlt (α := Int32) (l8 + 1) fun v8 =>
    LX9_removeTouched_28 E l0 l1 l2 (l3) l4 l5 v7 l7 v8 s5
  else
    zlt (α := Int32) (l7 + 1) fun v9 =>
    LX9_removeTouched_10 E l0 l1 l2 (l3) l4 l5 l6 v9 (.inl l8) s1) :=
  (zun_at (fun pc => (oX9_removeTouched pc).1) E (fun q => Nat.beq q 10 || Nat.beq q 28) 36 28 (0, 0) [.inr (.inl (some l0)), .inl l1, .inl l2, l3, .inl l4, .inl l5, .inl l6, .inl l7, .inl l8] [] σ).trans rfl
noncomputable def fX9_removeTouched (E : zE) (p0 : Nat) (p1 : Int32) (p2 : Int32) (p3 : Int32) (p4 : Int32) (p5 : Int32) (σ : zS) : zO :=
  zlt (α := Int32) 0 fun v1 =>
  chk (zkd σ p0 = 7) <|
  bnI (E mX9_tileOf [.inr (.inl (some p0)), .inl p3] σ) fun v3 s2 =>
  zlt (α := Int32) v3 fun v4 =>
  LX9_removeTouched_10 E p0 p1 p2 (.inl p3) p4 p5 v1 v4 (.inr (.inr none)) s2
set_option maxRecDepth 20000 in
theorem eX9_removeTouched (E : zE) (p0 : Nat) (p1 : Int32) (p2 : Int32) (p3 : Int32) (p4 : Int32) (p5 : Int32) (σ : zS) : zM tX9_removeTouched 9 (0, 0) E [.inr (.inl (some p0)), .inl p1, .inl p2, .inl p3, .inl p4, .inl p5] σ = fX9_removeTouched E p0 p1 p2 p3 p4 p5 σ :=
  (zun_at (fun pc => (oX9_removeTouched pc).1) E (fun q => Nat.beq q 10 || Nat.beq q 28) 36 0 (0, 0) (zls0 [.inr (.inl (some p0)), .inl p1, .inl p2, .inl p3, .inl p4, .inl p5] 9) [] σ).trans rfl
noncomputable def LX9_removeLowest_20 (E : zE) (l0 : Nat) (l1 : Int32) (l2 : Int32) (l3 : Int32) (σ : zS) : zO := zF tX9_removeLowest E 20 (0, 0) [.inr (.inl (some l0)), .inl l1, .inl l2, .inl l3, .inr (.inr none), .inr (.inr none)] [] σ
noncomputable def LX9_removeLowest_58 (E : zE) (l0 : Nat) (l1 : Int32) (l2 : zV) (l3 : Int32) (l4 : zV) (l5 : zV) (σ : zS) : zO := zF tX9_removeLowest E 58 (0, 0) [.inr (.inl (some l0)), .inl l1, l2, .inl l3, l4, l5] [] σ
set_option maxRecDepth 20000 in
theorem uX9_removeLowest_20 (E : zE) (l0 : Nat) (l1 : Int32) (l2 : Int32) (l3 : Int32) (σ : zS) : LX9_removeLowest_20 E l0 l1 l2 l3 σ =
  (chk (zkd σ l0 = 7) <|
  onR (zr σ 449 l0) fun a1 =>
  chk (zkd σ a1 = 11) <|
  if (l3 : Int32) < (Int32.ofNat (zln σ a1)) then
    chk (zkd σ l0 = 7) <|
    chk (zkd σ l0 = 7) <|
    onR (zr σ 449 l0) fun a2 =>
    chk (zkd σ a2 = 11 ∧ zin l3 (zln σ a2)) <|
    onR (zr σ 449 l0) fun a3 =>
    chk (zkd σ a3 = 11 ∧ zin (l3 - l2) (zln σ a3)) <| zlt (zsa σ a3 (Int32.toNatClampNeg (l3 - l2)) (zai σ a2 (Int32.toNatClampNeg l3))) fun s4 =>
    chk (zkd s4 l0 = 7) <|
    onR (zr s4 449 l0) fun a5 =>
    chk (zkd s4 a5 = 11 ∧ zin l3 (zln s4 a5)) <| zlt (zsa s4 a5 (Int32.toNatClampNeg l3) 0) fun s6 =>
    zlt (α := Int32) (l3 + 1) fun v7 =>
    LX9_removeLowest_20 E l0 l1 l2 v7 s6
  else
    zlt (α := Int32) l1 fun v8 =>
    LX9_removeLowest_58 E l0 l1 (.inl l2) v8 (.inr (.inr none)) (.inr (.inr none)) σ) :=
  (zun_at (fun pc => (oX9_removeLowest pc).1) E (fun q => Nat.beq q 20 || Nat.beq q 58) 67 20 (0, 0) [.inr (.inl (some l0)), .inl l1, .inl l2, .inl l3, .inr (.inr none), .inr (.inr none)] [] σ).trans rfl
set_option maxRecDepth 20000 in
theorem uX9_removeLowest_58 (E : zE) (l0 : Nat) (l1 : Int32) (l2 : zV) (l3 : Int32) (l4 : zV) (l5 : zV) (σ : zS) : LX9_removeLowest_58 E l0 l1 l2 l3 l4 l5 σ =
  (chk (zkd σ l0 = 7) <|
  onR (zr σ 448 l0) fun a1 =>
  chk (zkd σ a1 = 15) <|
  if (l3 : Int32) < (Int32.ofNat (zln σ a1)) then
    chk (zkd σ l0 = 7) <|
    onR (zr σ 448 l0) fun a2 =>
    chk (zkd σ a2 = 15 ∧ zin l3 (zln σ a2)) <|
    chk (zkd σ l0 = 7) <|
    onR (zr σ 448 l0) fun a3 =>
    chk (zkd σ a3 = 15 ∧ zin (l3 - l1) (zln σ a3)) <|
    nul (zar σ a2 (Int32.toNatClampNeg l3)) (
      zlt (α := Int32) (l3 + 1) fun v4 =>
      LX9_removeLowest_58 E l0 l1 (l2) v4 (.inr (.inl (zar σ a2 (Int32.toNatClampNeg l3)))) (.inr (.inl (zar σ a3 (Int32.toNatClampNeg (l3 - l1))))) σ) (
      nul (zar σ a3 (Int32.toNatClampNeg (l3 - l1))) (
        zlt (α := Int32) (l3 + 1) fun v5 =>
        LX9_removeLowest_58 E l0 l1 (l2) v5 (.inr (.inl (zar σ a2 (Int32.toNatClampNeg l3)))) (.inr (.inl (zar σ a3 (Int32.toNatClampNeg (l3 - l1))))) σ) (
        onR (zar σ a3 (Int32.toNatClampNeg (l3 - l1))) fun a6 =>
        chk (zkd σ a6 = 4) <|
        bnV (E mX6_copyFrom [.inr (.inl (zar σ a3 (Int32.toNatClampNeg (l3 - l1)))), .inr (.inl (zar σ a2 (Int32.toNatClampNeg l3)))] σ) fun s7 =>
        zlt (α := Int32) (l3 + 1) fun v8 =>
        LX9_removeLowest_58 E l0 l1 (l2) v8 (.inr (.inl (zar σ a2 (Int32.toNatClampNeg l3)))) (.inr (.inl (zar σ a3 (Int32.toNatClampNeg (l3 - l1))))) s7))
  else
    some (none, σ)) :=
  (zun_at (fun pc => (oX9_removeLowest pc).1) E (fun q => Nat.beq q 20 || Nat.beq q 58) 67 58 (0, 0) [.inr (.inl (some l0)), .inl l1, l2, .inl l3, l4, l5] [] σ).trans rfl
noncomputable def fX9_removeLowest (E : zE) (p0 : Nat) (p1 : Int32) (σ : zS) : zO :=
  if (p1 : Int32) < 1 then
    some (none, σ)
  else
    zlt (α := Int32) (p1 * 64) fun v1 =>
    chk (zkd σ p0 = 7) <|
    bnI (E mX9_removeSlots [.inr (.inl (some p0)), .inl 0, .inl v1] σ) fun v3 s2 =>
    zlt (α := Int32) v1 fun v4 =>
    LX9_removeLowest_20 E p0 p1 v1 v4 s2
set_option maxRecDepth 20000 in
theorem eX9_removeLowest (E : zE) (p0 : Nat) (p1 : Int32) (σ : zS) : zM tX9_removeLowest 6 (0, 0) E [.inr (.inl (some p0)), .inl p1] σ = fX9_removeLowest E p0 p1 σ :=
  (zun_at (fun pc => (oX9_removeLowest pc).1) E (fun q => Nat.beq q 20 || Nat.beq q 58) 67 0 (0, 0) (zls0 [.inr (.inl (some p0)), .inl p1] 6) [] σ).trans rfl
noncomputable def LX9_removeSlots_9 (E : zE) (l0 : Nat) (l1 : zV) (l2 : Int32) (l3 : Int32) (l4 : Int32) (σ : zS) : zO := zF tX9_removeSlots E 9 (0, 0) [.inr (.inl (some l0)), l1, .inl l2, .inl l3, .inl l4] [] σ
set_option maxRecDepth 20000 in
theorem uX9_removeSlots_9 (E : zE) (l0 : Nat) (l1 : zV) (l2 : Int32) (l3 : Int32) (l4 : Int32) (σ : zS) : LX9_removeSlots_9 E l0 l1 l2 l3 l4 σ =
  (if (l4 : Int32) < l2 then
    chk (zkd σ l0 = 7) <|
    onR (zr σ 449 l0) fun a1 =>
    chk (zkd σ a1 = 11) <|
    if (l4 : Int32) < (Int32.ofNat (zln σ a1)) then
      chk (zkd σ l0 = 7) <|
      bnI (E mX9_remove [.inr (.inl (some l0)), .inl l4] σ) fun v3 s2 =>
      zlt (α := Int32) (l3 + v3) fun v4 =>
      zlt (α := Int32) (l4 + 1) fun v5 =>
      LX9_removeSlots_9 E l0 (l1) l2 v4 v5 s2
    else
      some (some (.inl l3), σ)
  else
    some (some (.inl l3), σ)) :=
  (zun_at (fun pc => (oX9_removeSlots pc).1) E (fun q => Nat.beq q 9) 25 9 (0, 0) [.inr (.inl (some l0)), l1, .inl l2, .inl l3, .inl l4] [] σ).trans rfl
noncomputable def fX9_removeSlots (E : zE) (p0 : Nat) (p1 : Int32) (p2 : Int32) (σ : zS) : zO :=
  zlt (α := Int32) 0 fun v1 =>
  bnI (E mJ9_max_7cf53 [.inl 0, .inl p1] σ) fun v3 s2 =>
  zlt (α := Int32) v3 fun v4 =>
  LX9_removeSlots_9 E p0 (.inl p1) p2 v1 v4 s2
set_option maxRecDepth 20000 in
theorem eX9_removeSlots (E : zE) (p0 : Nat) (p1 : Int32) (p2 : Int32) (σ : zS) : zM tX9_removeSlots 5 (0, 0) E [.inr (.inl (some p0)), .inl p1, .inl p2] σ = fX9_removeSlots E p0 p1 p2 σ :=
  (zun_at (fun pc => (oX9_removeSlots pc).1) E (fun q => Nat.beq q 9) 25 0 (0, 0) (zls0 [.inr (.inl (some p0)), .inl p1, .inl p2] 5) [] σ).trans rfl
noncomputable def fX9_remove (E : zE) (p0 : Nat) (p1 : Int32) (σ : zS) : zO :=
  if (p1 : Int32) < 0 then
    some (some (.inl 0), σ)
  else
    chk (zkd σ p0 = 7) <|
    onR (zr σ 449 p0) fun a1 =>
    chk (zkd σ a1 = 11) <|
    if (p1 : Int32) < (Int32.ofNat (zln σ a1)) then
      chk (zkd σ p0 = 7) <|
      onR (zr σ 449 p0) fun a2 =>
      chk (zkd σ a2 = 11 ∧ zin p1 (zln σ a2)) <|
      if ((zai σ a2 (Int32.toNatClampNeg p1)) : Int32) = 0 then
        some (some (.inl 0), σ)
      else
        chk (zkd σ p0 = 7) <|
        onR (zr σ 449 p0) fun a3 =>
        chk (zkd σ a3 = 11 ∧ zin p1 (zln σ a3)) <| zlt (zsa σ a3 (Int32.toNatClampNeg p1) 0) fun s4 =>
        chk (zkd s4 p0 = 7) <|
        chk (zkd s4 p0 = 7) <| zlt (zsi s4 452 p0 ((zi s4 452 p0) - 1)) fun s5 =>
        some (some (.inl 1), s5)
    else
      some (some (.inl 0), σ)
set_option maxRecDepth 20000 in
theorem eX9_remove (E : zE) (p0 : Nat) (p1 : Int32) (σ : zS) : zM tX9_remove 2 (0, 0) E [.inr (.inl (some p0)), .inl p1] σ = fX9_remove E p0 p1 σ :=
  (zun_at (fun pc => (oX9_remove pc).1) E (fun _ => false) 28 0 (0, 0) (zls0 [.inr (.inl (some p0)), .inl p1] 2) [] σ).trans rfl
