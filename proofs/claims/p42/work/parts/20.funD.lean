/-! the methods as functions (by program: wip/whole/emit2.py) -/
noncomputable def fL_more (E : zE) (p0 : Int32) (p1 : Int32) (σ : zS) : zO :=
  if (p0 : Int32) ≤ p1 then
    some (some (.inl p1), σ)
  else
    some (some (.inl p0), σ)
set_option maxRecDepth 20000 in
theorem eL_more (E : zE) (p0 : Int32) (p1 : Int32) (σ : zS) : zM tL_more 2 (0, 0) E [.inl p0, .inl p1] σ = fL_more E p0 p1 σ :=
  (zun_at (fun pc => (oL_more pc).1) E (fun _ => false) 8 0 (0, 0) (zls0 [.inl p0, .inl p1] 2) [] σ).trans rfl
noncomputable def fL_cell (E : zE) (p0 : Option Nat) (p1 : Int32) (σ : zS) : zO :=
  onR p0 fun a1 =>
  chk (zkd σ a1 = 16) <|
  if (p1 : Int32) < (Int32.ofNat (zln σ a1)) then
    onR p0 fun a2 =>
    chk (zkd σ a2 = 16 ∧ zin p1 (zln σ a2)) <|
    some (some (.inl (zai σ a2 (Int32.toNatClampNeg p1))), σ)
  else
    some (some (.inl ((7919 * (p1 + 3)) * (p1 + 11))), σ)
set_option maxRecDepth 20000 in
theorem eL_cell (E : zE) (p0 : Option Nat) (p1 : Int32) (σ : zS) : zM tL_cell 2 (0, 0) E [.inr (.inl p0), .inl p1] σ = fL_cell E p0 p1 σ :=
  (zun_at (fun pc => (oL_cell pc).1) E (fun _ => false) 19 0 (0, 0) (zls0 [.inr (.inl p0), .inl p1] 2) [] σ).trans rfl
noncomputable def fL_low (E : zE) (p0 : Int32) (p1 : Int32) (σ : zS) : zO :=
  if (p1 : Int32) = 0 then none else
  some (some (.inl ((p0 &&& 2147483647) - (p0 &&& 2147483647) / p1 * p1)), σ)
set_option maxRecDepth 20000 in
theorem eL_low (E : zE) (p0 : Int32) (p1 : Int32) (σ : zS) : zM tL_low 2 (0, 0) E [.inl p0, .inl p1] σ = fL_low E p0 p1 σ :=
  (zun_at (fun pc => (oL_low pc).1) E (fun _ => false) 7 0 (0, 0) (zls0 [.inl p0, .inl p1] 2) [] σ).trans rfl
noncomputable def LL_digest_18 (E : zE) (l0 : Option Nat) (l1 : Int64) (l3 : Int32) (l4 : zV) (σ : zS) : zO := zF tL_digest E 18 (0, 0) [.inr (.inl l0), .inr (.inr (some l1)), .inr (.inr none), .inl l3, l4] [] σ
noncomputable def LL_digest_59 (E : zE) (l0 : Option Nat) (l1 : Int64) (l3 : Int32) (l4 : Int32) (σ : zS) : zO := zF tL_digest E 59 (0, 0) [.inr (.inl l0), .inr (.inr (some l1)), .inr (.inr none), .inl l3, .inl l4] [] σ
set_option maxRecDepth 20000 in
theorem uL_digest_18 (E : zE) (l0 : Option Nat) (l1 : Int64) (l3 : Int32) (l4 : zV) (σ : zS) : LL_digest_18 E l0 l1 l3 l4 σ =
  (onR l0 fun a1 =>
  chk (zkd σ a1 = 8) <|
  bnI (E mX10_size [.inr (.inl l0), .inl 2] σ) fun v3 s2 =>
  if (l3 : Int32) < v3 then
    onR l0 fun a4 =>
    chk (zkd s2 a4 = 8) <|
    bnI (E mX10_sum [.inr (.inl l0), .inl l3] s2) fun v6 s5 =>
    zlt (α := Int64) ((31 * l1) + (Int32.toInt64 v6)) fun v7 =>
    onR l0 fun a8 =>
    chk (zkd s5 a8 = 8) <|
    bnI (E mX10_histogram [.inr (.inl l0), .inl l3, .inl 0, .inl 127] s5) fun v10 s9 =>
    zlt (α := Int64) ((31 * v7) + (Int32.toInt64 v10)) fun v11 =>
    zlt (α := Int32) 0 fun v12 =>
    LL_digest_59 E l0 v11 l3 v12 s9
  else
    some (some (.inr (.inr (some l1))), s2)) :=
  (zun_at (fun pc => (oL_digest pc).1) E (fun q => Nat.beq q 18 || Nat.beq q 59) 62 18 (0, 0) [.inr (.inl l0), .inr (.inr (some l1)), .inr (.inr none), .inl l3, l4] [] σ).trans rfl
set_option maxRecDepth 20000 in
theorem uL_digest_59 (E : zE) (l0 : Option Nat) (l1 : Int64) (l3 : Int32) (l4 : Int32) (σ : zS) : LL_digest_59 E l0 l1 l3 l4 σ =
  (if (l4 : Int32) < 9 then
    if (l3 : Int32) < 0 then
      zlt (α := Int32) (l3 + 1) fun v1 =>
      LL_digest_18 E l0 l1 v1 (.inl l4) σ
    else
      onR l0 fun a2 =>
      chk (zkd σ a2 = 8) <|
      bnI (E mX10_layer [.inr (.inl l0), .inl l3, .inl l4] σ) fun v4 s3 =>
      zlt (α := Int64) ((31 * l1) + (Int32.toInt64 v4)) fun v5 =>
      zlt (α := Int32) (l4 + 1) fun v6 =>
      LL_digest_59 E l0 v5 l3 v6 s3
  else
    zlt (α := Int32) (l3 + 1) fun v7 =>
    LL_digest_18 E l0 l1 v7 (.inl l4) σ) :=
  (zun_at (fun pc => (oL_digest pc).1) E (fun q => Nat.beq q 18 || Nat.beq q 59) 62 59 (0, 0) [.inr (.inl l0), .inr (.inr (some l1)), .inr (.inr none), .inl l3, .inl l4] [] σ).trans rfl
noncomputable def fL_digest (E : zE) (p0 : Option Nat) (σ : zS) : zO :=
  onR p0 fun a1 =>
  chk (zkd σ a1 = 8) <|
  bnI (E mX10_size [.inr (.inl p0), .inl 0] σ) fun v3 s2 =>
  onR p0 fun a4 =>
  chk (zkd s2 a4 = 8) <|
  bnI (E mX10_size [.inr (.inl p0), .inl 1] s2) fun v6 s5 =>
  zlt (α := Int64) (Int32.toInt64 ((v3 * 100) + v6)) fun v7 =>
  zlt (α := Int32) (-1) fun v8 =>
  LL_digest_18 E p0 v7 v8 (.inr (.inr none)) s5
set_option maxRecDepth 20000 in
theorem eL_digest (E : zE) (p0 : Option Nat) (σ : zS) : zM tL_digest 5 (0, 0) E [.inr (.inl p0)] σ = fL_digest E p0 σ :=
  (zun_at (fun pc => (oL_digest pc).1) E (fun q => Nat.beq q 18 || Nat.beq q 59) 62 0 (0, 0) (zls0 [.inr (.inl p0)] 5) [] σ).trans rfl
noncomputable def LL_isTold_4 (E : zE) (l0 : Option Nat) (l1 : Int32) (l2 : Int32) (l3 : Int32) (l4 : zV) (l5 : zV) (σ : zS) : zO := zF tL_isTold E 4 (0, 0) [.inr (.inl l0), .inl l1, .inl l2, .inl l3, l4, l5] [] σ
noncomputable def LL_isTold_16 (E : zE) (l0 : Option Nat) (l1 : Int32) (l2 : Int32) (l3 : Int32) (l4 : Int32) (l5 : zV) (σ : zS) : zO := zF tL_isTold E 16 (0, 0) [.inr (.inl l0), .inl l1, .inl l2, .inl l3, .inl l4, l5] [] σ
noncomputable def LL_isTold_73 (E : zE) (l0 : Option Nat) (l1 : Int32) (l2 : Int32) (l3 : Int32) (l4 : Int32) (l5 : zV) (σ : zS) : zO := zF tL_isTold E 73 (0, 0) [.inr (.inl l0), .inl l1, .inl l2, .inl l3, .inl l4, l5] [] σ
set_option maxRecDepth 20000 in
theorem uL_isTold_4 (E : zE) (l0 : Option Nat) (l1 : Int32) (l2 : Int32) (l3 : Int32) (l4 : zV) (l5 : zV) (σ : zS) : LL_isTold_4 E l0 l1 l2 l3 l4 l5 σ =
  (onR l0 fun a1 =>
  chk (zkd σ a1 = 8) <|
  bnI (E mX10_size [.inr (.inl l0), .inl 1] σ) fun v3 s2 =>
  if (l3 : Int32) < v3 then
    zlt (α := Int32) 0 fun v4 =>
    LL_isTold_16 E l0 l1 l2 l3 v4 (l5) s2
  else
    zlt (α := Int32) 0 fun v5 =>
    zlt (α := Int32) 0 fun v6 =>
    LL_isTold_73 E l0 l1 l2 v5 v6 (l5) s2) :=
  (zun_at (fun pc => (oL_isTold pc).1) E (fun q => Nat.beq q 4 || Nat.beq q 16 || Nat.beq q 73) 91 4 (0, 0) [.inr (.inl l0), .inl l1, .inl l2, .inl l3, l4, l5] [] σ).trans rfl
set_option maxRecDepth 20000 in
theorem uL_isTold_16 (E : zE) (l0 : Option Nat) (l1 : Int32) (l2 : Int32) (l3 : Int32) (l4 : Int32) (l5 : zV) (σ : zS) : LL_isTold_16 E l0 l1 l2 l3 l4 l5 σ =
  (onR l0 fun a1 =>
  chk (zkd σ a1 = 8) <|
  bnI (E mX10_size [.inr (.inl l0), .inl 0] σ) fun v3 s2 =>
  if (l4 : Int32) < v3 then
    onR l0 fun a4 =>
    chk (zkd s2 a4 = 8) <|
    bnI (E mX10_pixel [.inr (.inl l0), .inl l1, .inl l4, .inl l3] s2) fun v6 s5 =>
    zlt (α := Int32) v6 fun v7 =>
    if (v7 : Int32) < 0 then
      chk (zB 0) (some (some (.inl 0), s5))
    else
      if (v7 : Int32) ≤ 255 then
        zlt (α := Int32) (l2 + v7) fun v8 =>
        zlt (α := Int32) (l4 + 1) fun v9 =>
        LL_isTold_16 E l0 l1 v8 l3 v9 (.inl v7) s5
      else
        chk (zB 0) (some (some (.inl 0), s5))
  else
    zlt (α := Int32) (l3 + 1) fun v10 =>
    LL_isTold_4 E l0 l1 l2 v10 (.inl l4) (l5) s2) :=
  (zun_at (fun pc => (oL_isTold pc).1) E (fun q => Nat.beq q 4 || Nat.beq q 16 || Nat.beq q 73) 91 16 (0, 0) [.inr (.inl l0), .inl l1, .inl l2, .inl l3, .inl l4, l5] [] σ).trans rfl
set_option maxRecDepth 20000 in
theorem uL_isTold_73 (E : zE) (l0 : Option Nat) (l1 : Int32) (l2 : Int32) (l3 : Int32) (l4 : Int32) (l5 : zV) (σ : zS) : LL_isTold_73 E l0 l1 l2 l3 l4 l5 σ =
  (onR l0 fun a1 =>
  chk (zkd σ a1 = 8) <|
  bnI (E mX10_size [.inr (.inl l0), .inl 2] σ) fun v3 s2 =>
  if (l4 : Int32) < v3 then
    onR l0 fun a4 =>
    chk (zkd s2 a4 = 8) <|
    bnI (E mX10_cachedTiles [.inr (.inl l0), .inl l4] s2) fun v6 s5 =>
    zlt (α := Int32) (l3 + v6) fun v7 =>
    zlt (α := Int32) (l4 + 1) fun v8 =>
    LL_isTold_73 E l0 l1 l2 v7 v8 (l5) s5
  else
    onR l0 fun a9 =>
    chk (zkd s2 a9 = 8) <|
    bnI (E mX10_sum [.inr (.inl l0), .inl l1] s2) fun v11 s10 =>
    if (l2 : Int32) = v11 then
      onR l0 fun a12 =>
      chk (zkd s10 a12 = 8) <|
      bnI (E mX10_histogram [.inr (.inl l0), .inl l1, .inl 0, .inl 255] s10) fun v14 s13 =>
      onR l0 fun a15 =>
      chk (zkd s13 a15 = 8) <|
      bnI (E mX10_size [.inr (.inl l0), .inl 0] s13) fun v17 s16 =>
      onR l0 fun a18 =>
      chk (zkd s16 a18 = 8) <|
      bnI (E mX10_size [.inr (.inl l0), .inl 1] s16) fun v20 s19 =>
      if (v14 : Int32) = (v17 * v20) then
        onR l0 fun a21 =>
        chk (zkd s19 a21 = 8) <|
        bnI (E mX10_size [.inr (.inl l0), .inl 5] s19) fun v23 s22 =>
        if (l3 : Int32) ≤ v23 then
          onR l0 fun a24 =>
          chk (zkd s22 a24 = 8) <|
          bnI (E mX10_counter [.inr (.inl l0), .inl 0] s22) fun v26 s25 =>
          onR l0 fun a27 =>
          chk (zkd s25 a27 = 8) <|
          bnI (E mX10_counter [.inr (.inl l0), .inl 2] s25) fun v29 s28 =>
          if ((v26 - v29) : Int32) < l3 then
            chk (zB 0) (some (some (.inl 0), s28))
          else
            chk (zB 1) (some (some (.inl 1), s28))
        else
          chk (zB 0) (some (some (.inl 0), s22))
      else
        chk (zB 0) (some (some (.inl 0), s19))
    else
      chk (zB 0) (some (some (.inl 0), s10))) :=
  (zun_at (fun pc => (oL_isTold pc).1) E (fun q => Nat.beq q 4 || Nat.beq q 16 || Nat.beq q 73) 91 73 (0, 0) [.inr (.inl l0), .inl l1, .inl l2, .inl l3, .inl l4, l5] [] σ).trans rfl
noncomputable def fL_isTold (E : zE) (p0 : Option Nat) (p1 : Int32) (σ : zS) : zO :=
  zlt (α := Int32) 0 fun v1 =>
  zlt (α := Int32) 0 fun v2 =>
  LL_isTold_4 E p0 p1 v1 v2 (.inr (.inr none)) (.inr (.inr none)) σ
set_option maxRecDepth 20000 in
theorem eL_isTold (E : zE) (p0 : Option Nat) (p1 : Int32) (σ : zS) : zM tL_isTold 6 (0, 0) E [.inr (.inl p0), .inl p1] σ = fL_isTold E p0 p1 σ :=
  (zun_at (fun pc => (oL_isTold pc).1) E (fun q => Nat.beq q 4 || Nat.beq q 16 || Nat.beq q 73) 91 0 (0, 0) (zls0 [.inr (.inl p0), .inl p1] 6) [] σ).trans rfl
noncomputable def LL_edit_108 (E : zE) (l0 : Option Nat) (l1 : Int32) (l2 : zV) (l3 : zV) (l4 : zV) (σ : zS) : zO := zF tL_edit E 108 (0, 0) [.inr (.inl l0), .inl l1, l2, l3, l4] [] σ
noncomputable def LL_edit_145 (E : zE) (l0 : Option Nat) (l1 : Int32) (l2 : zV) (l3 : zV) (l4 : Int32) (σ : zS) : zO := zF tL_edit E 145 (0, 0) [.inr (.inl l0), .inl l1, l2, l3, .inl l4] [] σ
noncomputable def LL_edit_169 (E : zE) (l0 : Option Nat) (l1 : Int32) (l2 : zV) (l3 : Int32) (l4 : Int32) (σ : zS) : zO := zF tL_edit E 169 (0, 0) [.inr (.inl l0), .inl l1, l2, .inl l3, .inl l4] [] σ
noncomputable def LL_edit_186 (E : zE) (l0 : Option Nat) (l1 : Int32) (l2 : zV) (l3 : Int32) (l4 : zV) (σ : zS) : zO := zF tL_edit E 186 (0, 0) [.inr (.inl l0), .inl l1, l2, .inl l3, l4] [] σ
noncomputable def LL_edit_198 (E : zE) (l0 : Option Nat) (l1 : Int32) (l2 : zV) (l3 : Int32) (l4 : zV) (σ : zS) : zO := zF tL_edit E 198 (0, 0) [.inr (.inl l0), .inl l1, l2, .inl l3, l4] [] σ
noncomputable def LL_edit_218 (E : zE) (l0 : Option Nat) (l1 : zV) (l2 : zV) (l3 : Int32) (l4 : zV) (σ : zS) : zO := zF tL_edit E 218 (0, 0) [.inr (.inl l0), l1, l2, .inl l3, l4] [] σ
noncomputable def LL_edit_229 (E : zE) (l0 : Option Nat) (l1 : zV) (l2 : zV) (l3 : Int32) (l4 : zV) (σ : zS) : zO := zF tL_edit E 229 (0, 0) [.inr (.inl l0), l1, l2, .inl l3, l4] [] σ
noncomputable def LL_edit_235 (E : zE) (l0 : Option Nat) (l1 : Int32) (l2 : zV) (l3 : Int32) (l4 : zV) (σ : zS) : zO := zF tL_edit E 235 (0, 0) [.inr (.inl l0), .inl l1, l2, .inl l3, l4] [] σ
noncomputable def LL_edit_267 (E : zE) (l0 : Option Nat) (l1 : Int32) (l2 : zV) (l3 : Int32) (l4 : zV) (σ : zS) : zO := zF tL_edit E 267 (0, 0) [.inr (.inl l0), .inl l1, l2, .inl l3, l4] [] σ
noncomputable def LL_edit_282 (E : zE) (l0 : Option Nat) (l1 : Int32) (l2 : Int32) (l3 : Int32) (l4 : zV) (σ : zS) : zO := zF tL_edit E 282 (0, 0) [.inr (.inl l0), .inl l1, .inl l2, .inl l3, l4] [] σ
noncomputable def LL_edit_296 (E : zE) (l0 : Option Nat) (l1 : zV) (l2 : zV) (l3 : Int32) (l4 : zV) (σ : zS) : zO := zF tL_edit E 296 (0, 0) [.inr (.inl l0), l1, l2, .inl l3, l4] [] σ
noncomputable def LL_edit_302 (E : zE) (l0 : Option Nat) (l1 : zV) (l2 : zV) (l3 : Int32) (l4 : zV) (σ : zS) : zO := zF tL_edit E 302 (0, 0) [.inr (.inl l0), l1, l2, .inl l3, l4] [] σ
noncomputable def LL_edit_308 (E : zE) (l0 : Option Nat) (l1 : Int32) (l2 : zV) (l3 : zV) (l4 : zV) (σ : zS) : zO := zF tL_edit E 308 (0, 0) [.inr (.inl l0), .inl l1, l2, l3, l4] [] σ
noncomputable def LL_edit_341 (E : zE) (l0 : Option Nat) (l1 : zV) (l2 : zV) (l3 : zV) (l4 : Int32) (σ : zS) : zO := zF tL_edit E 341 (0, 0) [.inr (.inl l0), l1, l2, l3, .inl l4] [] σ
noncomputable def LL_edit_351 (E : zE) (l0 : Option Nat) (l1 : Int32) (l2 : Int32) (l3 : zV) (l4 : zV) (σ : zS) : zO := zF tL_edit E 351 (0, 0) [.inr (.inl l0), .inl l1, .inl l2, l3, l4] [] σ
set_option maxRecDepth 20000 in
theorem uL_edit_108 (E : zE) (l0 : Option Nat) (l1 : Int32) (l2 : zV) (l3 : zV) (l4 : zV) (σ : zS) : LL_edit_108 E l0 l1 l2 l3 l4 σ =
  (onR l0 fun a1 =>
  chk (zkd σ a1 = 8) <|
  bnI (E mX10_size [.inr (.inl l0), .inl 0] σ) fun v3 s2 =>
  bnI (E mL_low [.inl (l1 >>> (4 &&& 31)), .inl v3] s2) fun v5 s4 =>
  onR l0 fun a6 =>
  chk (zkd s4 a6 = 8) <|
  bnI (E mX10_size [.inr (.inl l0), .inl 1] s4) fun v8 s7 =>
  bnI (E mL_low [.inl (l1 >>> (8 &&& 31)), .inl v8] s7) fun v10 s9 =>
  bnI (E mL_low [.inl (l1 >>> (5 &&& 31)), .inl 256] s9) fun v12 s11 =>
  onR l0 fun a13 =>
  chk (zkd s11 a13 = 8) <|
  bnI (E mX10_setPixel [.inr (.inl l0), .inl v5, .inl v10, .inl v12] s11) fun v15 s14 =>
  some (some (.inl v15), s14)) :=
  (zun_at (fun pc => (oL_edit pc).1) E (fun q => Nat.beq q 108 || Nat.beq q 145 || Nat.beq q 169 || Nat.beq q 186 || Nat.beq q 198 || Nat.beq q 218 || Nat.beq q 229 || Nat.beq q 235 || Nat.beq q 267 || Nat.beq q 282 || Nat.beq q 296 || Nat.beq q 302 || Nat.beq q 308 || Nat.beq q 341 || Nat.beq q 351) 187 108 (0, 0) [.inr (.inl l0), .inl l1, l2, l3, l4] [] σ).trans rfl
set_option maxRecDepth 20000 in
theorem uL_edit_145 (E : zE) (l0 : Option Nat) (l1 : Int32) (l2 : zV) (l3 : zV) (l4 : Int32) (σ : zS) : LL_edit_145 E l0 l1 l2 l3 l4 σ =
  (bnI (E mL_low [.inl (l1 >>> (4 &&& 31)), .inl 3] σ) fun v2 s1 =>
  bnI (E mL_low [.inl (l1 >>> (6 &&& 31)), .inl 3] s1) fun v4 s3 =>
  onR l0 fun a5 =>
  chk (zkd s3 a5 = 8) <|
  bnI (E mX10_fillRectangle [.inr (.inl l0), .inl v2, .inl v4, .inl 2, .inl 2, .inl l4] s3) fun v7 s6 =>
  some (some (.inl v7), s6)) :=
  (zun_at (fun pc => (oL_edit pc).1) E (fun q => Nat.beq q 108 || Nat.beq q 145 || Nat.beq q 169 || Nat.beq q 186 || Nat.beq q 198 || Nat.beq q 218 || Nat.beq q 229 || Nat.beq q 235 || Nat.beq q 267 || Nat.beq q 282 || Nat.beq q 296 || Nat.beq q 302 || Nat.beq q 308 || Nat.beq q 341 || Nat.beq q 351) 187 145 (0, 0) [.inr (.inl l0), .inl l1, l2, l3, .inl l4] [] σ).trans rfl
set_option maxRecDepth 20000 in
theorem uL_edit_169 (E : zE) (l0 : Option Nat) (l1 : Int32) (l2 : zV) (l3 : Int32) (l4 : Int32) (σ : zS) : LL_edit_169 E l0 l1 l2 l3 l4 σ =
  (bnI (E mL_low [.inl (l1 >>> (10 &&& 31)), .inl 8] σ) fun v2 s1 =>
  onR l0 fun a3 =>
  chk (zkd s1 a3 = 8) <|
  bnI (E mX10_setBlend [.inr (.inl l0), .inl l3, .inl v2, .inl l4] s1) fun v5 s4 =>
  some (some (.inl v5), s4)) :=
  (zun_at (fun pc => (oL_edit pc).1) E (fun q => Nat.beq q 108 || Nat.beq q 145 || Nat.beq q 169 || Nat.beq q 186 || Nat.beq q 198 || Nat.beq q 218 || Nat.beq q 229 || Nat.beq q 235 || Nat.beq q 267 || Nat.beq q 282 || Nat.beq q 296 || Nat.beq q 302 || Nat.beq q 308 || Nat.beq q 341 || Nat.beq q 351) 187 169 (0, 0) [.inr (.inl l0), .inl l1, l2, .inl l3, .inl l4] [] σ).trans rfl
set_option maxRecDepth 20000 in
theorem uL_edit_186 (E : zE) (l0 : Option Nat) (l1 : Int32) (l2 : zV) (l3 : Int32) (l4 : zV) (σ : zS) : LL_edit_186 E l0 l1 l2 l3 l4 σ =
  (onR l0 fun a1 =>
  chk (zkd σ a1 = 8) <|
  bnI (E mX10_setEnabled [.inr (.inl l0), .inl l3, .inl ((l1 >>> (10 &&& 31)) &&& 1)] σ) fun v3 s2 =>
  some (some (.inl v3), s2)) :=
  (zun_at (fun pc => (oL_edit pc).1) E (fun q => Nat.beq q 108 || Nat.beq q 145 || Nat.beq q 169 || Nat.beq q 186 || Nat.beq q 198 || Nat.beq q 218 || Nat.beq q 229 || Nat.beq q 235 || Nat.beq q 267 || Nat.beq q 282 || Nat.beq q 296 || Nat.beq q 302 || Nat.beq q 308 || Nat.beq q 341 || Nat.beq q 351) 187 186 (0, 0) [.inr (.inl l0), .inl l1, l2, .inl l3, l4] [] σ).trans rfl
set_option maxRecDepth 20000 in
theorem uL_edit_198 (E : zE) (l0 : Option Nat) (l1 : Int32) (l2 : zV) (l3 : Int32) (l4 : zV) (σ : zS) : LL_edit_198 E l0 l1 l2 l3 l4 σ =
  (bnI (E mL_low [.inl (l1 >>> (9 &&& 31)), .inl 4] σ) fun v2 s1 =>
  onR l0 fun a3 =>
  chk (zkd s1 a3 = 8) <|
  bnI (E mX10_setMask [.inr (.inl l0), .inl l3, .inl 1, .inl 1, .inl 1, .inl (2 + v2), .inl 2] s1) fun v5 s4 =>
  some (some (.inl v5), s4)) :=
  (zun_at (fun pc => (oL_edit pc).1) E (fun q => Nat.beq q 108 || Nat.beq q 145 || Nat.beq q 169 || Nat.beq q 186 || Nat.beq q 198 || Nat.beq q 218 || Nat.beq q 229 || Nat.beq q 235 || Nat.beq q 267 || Nat.beq q 282 || Nat.beq q 296 || Nat.beq q 302 || Nat.beq q 308 || Nat.beq q 341 || Nat.beq q 351) 187 198 (0, 0) [.inr (.inl l0), .inl l1, l2, .inl l3, l4] [] σ).trans rfl
set_option maxRecDepth 20000 in
theorem uL_edit_218 (E : zE) (l0 : Option Nat) (l1 : zV) (l2 : zV) (l3 : Int32) (l4 : zV) (σ : zS) : LL_edit_218 E l0 l1 l2 l3 l4 σ =
  (onR l0 fun a1 =>
  chk (zkd σ a1 = 8) <|
  bnI (E mX10_setMask [.inr (.inl l0), .inl l3, .inl 3, .inl 0, .inl 0, .inl 0, .inl 0] σ) fun v3 s2 =>
  some (some (.inl v3), s2)) :=
  (zun_at (fun pc => (oL_edit pc).1) E (fun q => Nat.beq q 108 || Nat.beq q 145 || Nat.beq q 169 || Nat.beq q 186 || Nat.beq q 198 || Nat.beq q 218 || Nat.beq q 229 || Nat.beq q 235 || Nat.beq q 267 || Nat.beq q 282 || Nat.beq q 296 || Nat.beq q 302 || Nat.beq q 308 || Nat.beq q 341 || Nat.beq q 351) 187 218 (0, 0) [.inr (.inl l0), l1, l2, .inl l3, l4] [] σ).trans rfl
set_option maxRecDepth 20000 in
theorem uL_edit_229 (E : zE) (l0 : Option Nat) (l1 : zV) (l2 : zV) (l3 : Int32) (l4 : zV) (σ : zS) : LL_edit_229 E l0 l1 l2 l3 l4 σ =
  (onR l0 fun a1 =>
  chk (zkd σ a1 = 8) <|
  bnI (E mX10_invertMask [.inr (.inl l0), .inl l3] σ) fun v3 s2 =>
  some (some (.inl v3), s2)) :=
  (zun_at (fun pc => (oL_edit pc).1) E (fun q => Nat.beq q 108 || Nat.beq q 145 || Nat.beq q 169 || Nat.beq q 186 || Nat.beq q 198 || Nat.beq q 218 || Nat.beq q 229 || Nat.beq q 235 || Nat.beq q 267 || Nat.beq q 282 || Nat.beq q 296 || Nat.beq q 302 || Nat.beq q 308 || Nat.beq q 341 || Nat.beq q 351) 187 229 (0, 0) [.inr (.inl l0), l1, l2, .inl l3, l4] [] σ).trans rfl
set_option maxRecDepth 20000 in
theorem uL_edit_235 (E : zE) (l0 : Option Nat) (l1 : Int32) (l2 : zV) (l3 : Int32) (l4 : zV) (σ : zS) : LL_edit_235 E l0 l1 l2 l3 l4 σ =
  (bnI (E mL_low [.inl (l1 >>> (7 &&& 31)), .inl 8] σ) fun v2 s1 =>
  bnI (E mL_low [.inl (l1 >>> (9 &&& 31)), .inl 8] s1) fun v4 s3 =>
  bnI (E mL_low [.inl (l1 >>> (11 &&& 31)), .inl 4] s3) fun v6 s5 =>
  onR l0 fun a7 =>
  chk (zkd s5 a7 = 8) <|
  bnI (E mX10_dab [.inr (.inl l0), .inl l3, .inl v2, .inl v4, .inl v6] s5) fun v9 s8 =>
  some (some (.inl v9), s8)) :=
  (zun_at (fun pc => (oL_edit pc).1) E (fun q => Nat.beq q 108 || Nat.beq q 145 || Nat.beq q 169 || Nat.beq q 186 || Nat.beq q 198 || Nat.beq q 218 || Nat.beq q 229 || Nat.beq q 235 || Nat.beq q 267 || Nat.beq q 282 || Nat.beq q 296 || Nat.beq q 302 || Nat.beq q 308 || Nat.beq q 341 || Nat.beq q 351) 187 235 (0, 0) [.inr (.inl l0), .inl l1, l2, .inl l3, l4] [] σ).trans rfl
set_option maxRecDepth 20000 in
theorem uL_edit_267 (E : zE) (l0 : Option Nat) (l1 : Int32) (l2 : zV) (l3 : Int32) (l4 : zV) (σ : zS) : LL_edit_267 E l0 l1 l2 l3 l4 σ =
  (bnI (E mL_low [.inl (l1 >>> (7 &&& 31)), .inl 6] σ) fun v2 s1 =>
  onR l0 fun a3 =>
  chk (zkd s1 a3 = 8) <|
  bnI (E mX10_setFeather [.inr (.inl l0), .inl l3, .inl v2] s1) fun v5 s4 =>
  some (some (.inl v5), s4)) :=
  (zun_at (fun pc => (oL_edit pc).1) E (fun q => Nat.beq q 108 || Nat.beq q 145 || Nat.beq q 169 || Nat.beq q 186 || Nat.beq q 198 || Nat.beq q 218 || Nat.beq q 229 || Nat.beq q 235 || Nat.beq q 267 || Nat.beq q 282 || Nat.beq q 296 || Nat.beq q 302 || Nat.beq q 308 || Nat.beq q 341 || Nat.beq q 351) 187 267 (0, 0) [.inr (.inl l0), .inl l1, l2, .inl l3, l4] [] σ).trans rfl
set_option maxRecDepth 20000 in
theorem uL_edit_282 (E : zE) (l0 : Option Nat) (l1 : Int32) (l2 : Int32) (l3 : Int32) (l4 : zV) (σ : zS) : LL_edit_282 E l0 l1 l2 l3 l4 σ =
  (bnI (E mL_low [.inl (l1 >>> (8 &&& 31)), .inl l2] σ) fun v2 s1 =>
  onR l0 fun a3 =>
  chk (zkd s1 a3 = 8) <|
  bnI (E mX10_moveLayer [.inr (.inl l0), .inl l3, .inl v2] s1) fun v5 s4 =>
  some (some (.inl v5), s4)) :=
  (zun_at (fun pc => (oL_edit pc).1) E (fun q => Nat.beq q 108 || Nat.beq q 145 || Nat.beq q 169 || Nat.beq q 186 || Nat.beq q 198 || Nat.beq q 218 || Nat.beq q 229 || Nat.beq q 235 || Nat.beq q 267 || Nat.beq q 282 || Nat.beq q 296 || Nat.beq q 302 || Nat.beq q 308 || Nat.beq q 341 || Nat.beq q 351) 187 282 (0, 0) [.inr (.inl l0), .inl l1, .inl l2, .inl l3, l4] [] σ).trans rfl
set_option maxRecDepth 20000 in
theorem uL_edit_296 (E : zE) (l0 : Option Nat) (l1 : zV) (l2 : zV) (l3 : Int32) (l4 : zV) (σ : zS) : LL_edit_296 E l0 l1 l2 l3 l4 σ =
  (onR l0 fun a1 =>
  chk (zkd σ a1 = 8) <|
  bnI (E mX10_duplicateLayer [.inr (.inl l0), .inl l3] σ) fun v3 s2 =>
  some (some (.inl v3), s2)) :=
  (zun_at (fun pc => (oL_edit pc).1) E (fun q => Nat.beq q 108 || Nat.beq q 145 || Nat.beq q 169 || Nat.beq q 186 || Nat.beq q 198 || Nat.beq q 218 || Nat.beq q 229 || Nat.beq q 235 || Nat.beq q 267 || Nat.beq q 282 || Nat.beq q 296 || Nat.beq q 302 || Nat.beq q 308 || Nat.beq q 341 || Nat.beq q 351) 187 296 (0, 0) [.inr (.inl l0), l1, l2, .inl l3, l4] [] σ).trans rfl
set_option maxRecDepth 20000 in
theorem uL_edit_302 (E : zE) (l0 : Option Nat) (l1 : zV) (l2 : zV) (l3 : Int32) (l4 : zV) (σ : zS) : LL_edit_302 E l0 l1 l2 l3 l4 σ =
  (onR l0 fun a1 =>
  chk (zkd σ a1 = 8) <|
  bnI (E mX10_removeLayer [.inr (.inl l0), .inl l3] σ) fun v3 s2 =>
  some (some (.inl v3), s2)) :=
  (zun_at (fun pc => (oL_edit pc).1) E (fun q => Nat.beq q 108 || Nat.beq q 145 || Nat.beq q 169 || Nat.beq q 186 || Nat.beq q 198 || Nat.beq q 218 || Nat.beq q 229 || Nat.beq q 235 || Nat.beq q 267 || Nat.beq q 282 || Nat.beq q 296 || Nat.beq q 302 || Nat.beq q 308 || Nat.beq q 341 || Nat.beq q 351) 187 302 (0, 0) [.inr (.inl l0), l1, l2, .inl l3, l4] [] σ).trans rfl
set_option maxRecDepth 20000 in
theorem uL_edit_308 (E : zE) (l0 : Option Nat) (l1 : Int32) (l2 : zV) (l3 : zV) (l4 : zV) (σ : zS) : LL_edit_308 E l0 l1 l2 l3 l4 σ =
  (bnI (E mL_low [.inl (l1 >>> (4 &&& 31)), .inl 2] σ) fun v2 s1 =>
  if (v2 : Int32) = 0 then
    bnI (E mL_low [.inl (l1 >>> (6 &&& 31)), .inl 3] s1) fun v4 s3 =>
    onR l0 fun a5 =>
    chk (zkd s3 a5 = 8) <|
    bnI (E mX10_addLayer [.inr (.inl l0), .inl 6, .inl (1 + v4), .inl 0] s3) fun v7 s6 =>
    some (some (.inl v7), s6)
  else
    bnI (E mL_low [.inl (l1 >>> (6 &&& 31)), .inl 3] s1) fun v9 s8 =>
    onR l0 fun a10 =>
    chk (zkd s8 a10 = 8) <|
    bnI (E mX10_addLayer [.inr (.inl l0), .inl 9, .inl (1 + v9), .inl 0] s8) fun v12 s11 =>
    some (some (.inl v12), s11)) :=
  (zun_at (fun pc => (oL_edit pc).1) E (fun q => Nat.beq q 108 || Nat.beq q 145 || Nat.beq q 169 || Nat.beq q 186 || Nat.beq q 198 || Nat.beq q 218 || Nat.beq q 229 || Nat.beq q 235 || Nat.beq q 267 || Nat.beq q 282 || Nat.beq q 296 || Nat.beq q 302 || Nat.beq q 308 || Nat.beq q 341 || Nat.beq q 351) 187 308 (0, 0) [.inr (.inl l0), .inl l1, l2, l3, l4] [] σ).trans rfl
set_option maxRecDepth 20000 in
theorem uL_edit_341 (E : zE) (l0 : Option Nat) (l1 : zV) (l2 : zV) (l3 : zV) (l4 : Int32) (σ : zS) : LL_edit_341 E l0 l1 l2 l3 l4 σ =
  (onR l0 fun a1 =>
  chk (zkd σ a1 = 8) <|
  bnI (E mX10_addLayer [.inr (.inl l0), .inl 10, .inl 1, .inl l4] σ) fun v3 s2 =>
  some (some (.inl v3), s2)) :=
  (zun_at (fun pc => (oL_edit pc).1) E (fun q => Nat.beq q 108 || Nat.beq q 145 || Nat.beq q 169 || Nat.beq q 186 || Nat.beq q 198 || Nat.beq q 218 || Nat.beq q 229 || Nat.beq q 235 || Nat.beq q 267 || Nat.beq q 282 || Nat.beq q 296 || Nat.beq q 302 || Nat.beq q 308 || Nat.beq q 341 || Nat.beq q 351) 187 341 (0, 0) [.inr (.inl l0), l1, l2, l3, .inl l4] [] σ).trans rfl
set_option maxRecDepth 20000 in
theorem uL_edit_351 (E : zE) (l0 : Option Nat) (l1 : Int32) (l2 : Int32) (l3 : zV) (l4 : zV) (σ : zS) : LL_edit_351 E l0 l1 l2 l3 l4 σ =
  (bnI (E mL_low [.inl (l1 >>> (7 &&& 31)), .inl l2] σ) fun v2 s1 =>
  onR l0 fun a3 =>
  chk (zkd s1 a3 = 8) <|
  bnI (E mX10_flatten [.inr (.inl l0), .inl v2] s1) fun v5 s4 =>
  some (some (.inl v5), s4)) :=
  (zun_at (fun pc => (oL_edit pc).1) E (fun q => Nat.beq q 108 || Nat.beq q 145 || Nat.beq q 169 || Nat.beq q 186 || Nat.beq q 198 || Nat.beq q 218 || Nat.beq q 229 || Nat.beq q 235 || Nat.beq q 267 || Nat.beq q 282 || Nat.beq q 296 || Nat.beq q 302 || Nat.beq q 308 || Nat.beq q 341 || Nat.beq q 351) 187 351 (0, 0) [.inr (.inl l0), .inl l1, .inl l2, l3, l4] [] σ).trans rfl
noncomputable def fL_edit (E : zE) (p0 : Option Nat) (p1 : Int32) (σ : zS) : zO :=
  onR p0 fun a1 =>
  chk (zkd σ a1 = 8) <|
  bnI (E mX10_size [.inr (.inl p0), .inl 2] σ) fun v3 s2 =>
  bnI (E mL_more [.inl 1, .inl v3] s2) fun v5 s4 =>
  zlt (α := Int32) v5 fun v6 =>
  bnI (E mL_low [.inl (p1 >>> (4 &&& 31)), .inl v6] s4) fun v8 s7 =>
  zlt (α := Int32) v8 fun v9 =>
  bnI (E mL_low [.inl (p1 >>> (7 &&& 31)), .inl 101] s7) fun v11 s10 =>
  zlt (α := Int32) v11 fun v12 =>
  if ((p1 &&& 15) : Int32) = 0 then
    LL_edit_108 E p0 p1 (.inl v6) (.inl v9) (.inl v12) s10
  else if ((p1 &&& 15) : Int32) = 1 then
    LL_edit_108 E p0 p1 (.inl v6) (.inl v9) (.inl v12) s10
  else if ((p1 &&& 15) : Int32) = 2 then
    LL_edit_145 E p0 p1 (.inl v6) (.inl v9) v12 s10
  else if ((p1 &&& 15) : Int32) = 3 then
    LL_edit_169 E p0 p1 (.inl v6) v9 v12 s10
  else if ((p1 &&& 15) : Int32) = 4 then
    LL_edit_186 E p0 p1 (.inl v6) v9 (.inl v12) s10
  else if ((p1 &&& 15) : Int32) = 5 then
    LL_edit_198 E p0 p1 (.inl v6) v9 (.inl v12) s10
  else if ((p1 &&& 15) : Int32) = 6 then
    LL_edit_218 E p0 (.inl p1) (.inl v6) v9 (.inl v12) s10
  else if ((p1 &&& 15) : Int32) = 7 then
    LL_edit_229 E p0 (.inl p1) (.inl v6) v9 (.inl v12) s10
  else if ((p1 &&& 15) : Int32) = 8 then
    LL_edit_235 E p0 p1 (.inl v6) v9 (.inl v12) s10
  else if ((p1 &&& 15) : Int32) = 9 then
    LL_edit_267 E p0 p1 (.inl v6) v9 (.inl v12) s10
  else if ((p1 &&& 15) : Int32) = 10 then
    LL_edit_282 E p0 p1 v6 v9 (.inl v12) s10
  else if ((p1 &&& 15) : Int32) = 11 then
    LL_edit_296 E p0 (.inl p1) (.inl v6) v9 (.inl v12) s10
  else if ((p1 &&& 15) : Int32) = 12 then
    LL_edit_302 E p0 (.inl p1) (.inl v6) v9 (.inl v12) s10
  else if ((p1 &&& 15) : Int32) = 13 then
    LL_edit_308 E p0 p1 (.inl v6) (.inl v9) (.inl v12) s10
  else if ((p1 &&& 15) : Int32) = 14 then
    LL_edit_341 E p0 (.inl p1) (.inl v6) (.inl v9) v12 s10
  else 
    LL_edit_351 E p0 p1 v6 (.inl v9) (.inl v12) s10
set_option maxRecDepth 20000 in
theorem eL_edit (E : zE) (p0 : Option Nat) (p1 : Int32) (σ : zS) : zM tL_edit 5 (0, 0) E [.inr (.inl p0), .inl p1] σ = fL_edit E p0 p1 σ :=
  (zun_at (fun pc => (oL_edit pc).1) E (fun q => Nat.beq q 108 || Nat.beq q 145 || Nat.beq q 169 || Nat.beq q 186 || Nat.beq q 198 || Nat.beq q 218 || Nat.beq q 229 || Nat.beq q 235 || Nat.beq q 267 || Nat.beq q 282 || Nat.beq q 296 || Nat.beq q 302 || Nat.beq q 308 || Nat.beq q 341 || Nat.beq q 351) 187 0 (0, 0) (zls0 [.inr (.inl p0), .inl p1] 5) [] σ).trans rfl
noncomputable def LL_law_102 (E : zE) (l0 : Option Nat) (l1 : Option Nat) (l2 : Int32) (l3 : Int32) (l4 : zV) (b : Nat × Nat) (σ : zS) : zO := zF tL_law E 102 b [.inr (.inl l0), .inr (.inl l1), .inl l2, .inl l3, l4, .inr (.inr none), .inr (.inr none), .inr (.inr none), .inr (.inr none), .inr (.inr none), .inr (.inr none), .inr (.inr none), .inr (.inr none)] [] σ
noncomputable def LL_law_164 (E : zE) (l0 : Option Nat) (l1 : Option Nat) (l2 : Int32) (l3 : Int32) (l4 : Int32) (k0 : Option Nat) (k1 : Int32) (b : Nat × Nat) (σ : zS) : zO := zF tL_law E 164 b [.inr (.inl l0), .inr (.inl l1), .inl l2, .inl l3, .inl l4, .inr (.inr none), .inr (.inr none), .inr (.inr none), .inr (.inr none), .inr (.inr none), .inr (.inr none), .inr (.inr none), .inr (.inr none)] [.inl k1, .inr (.inl k0)] σ
noncomputable def LL_law_186 (E : zE) (l0 : Option Nat) (l1 : Option Nat) (l2 : Int32) (l3 : Int32) (l4 : zV) (k0 : Option Nat) (k1 : Int32) (b : Nat × Nat) (σ : zS) : zO := zF tL_law E 186 b [.inr (.inl l0), .inr (.inl l1), .inl l2, .inl l3, l4, .inr (.inr none), .inr (.inr none), .inr (.inr none), .inr (.inr none), .inr (.inr none), .inr (.inr none), .inr (.inr none), .inr (.inr none)] [.inl k1, .inr (.inl k0)] σ
noncomputable def LL_law_226 (E : zE) (l0 : Option Nat) (l1 : Option Nat) (l2 : Int32) (l3 : Int64) (l5 : Int32) (l6 : zV) (l7 : zV) (l8 : zV) (l9 : zV) (l10 : zV) (l11 : zV) (l12 : zV) (b : Nat × Nat) (σ : zS) : zO := zF tL_law E 226 b [.inr (.inl l0), .inr (.inl l1), .inl l2, .inr (.inr (some l3)), .inr (.inr none), .inl l5, l6, l7, l8, l9, l10, l11, l12] [] σ
noncomputable def LL_law_279 (E : zE) (l0 : Option Nat) (l1 : Option Nat) (l2 : Int32) (l3 : Int64) (l5 : Int32) (l6 : Int32) (l7 : Int64) (l9 : Int32) (l10 : Int32) (l11 : zV) (l12 : zV) (b : Nat × Nat) (σ : zS) : zO := zF tL_law E 279 b [.inr (.inl l0), .inr (.inl l1), .inl l2, .inr (.inr (some l3)), .inr (.inr none), .inl l5, .inl l6, .inr (.inr (some l7)), .inr (.inr none), .inl l9, .inl l10, l11, l12] [] σ
noncomputable def LL_law_308 (E : zE) (l0 : Option Nat) (l1 : Option Nat) (l2 : Int32) (l3 : Int64) (l5 : Int32) (l6 : Int32) (l7 : Int64) (l9 : Int32) (l10 : Int32) (l11 : zV) (l12 : zV) (b : Nat × Nat) (σ : zS) : zO := zF tL_law E 308 b [.inr (.inl l0), .inr (.inl l1), .inl l2, .inr (.inr (some l3)), .inr (.inr none), .inl l5, .inl l6, .inr (.inr (some l7)), .inr (.inr none), .inl l9, .inl l10, l11, l12] [] σ
noncomputable def LL_law_395 (E : zE) (l0 : zV) (l1 : Option Nat) (l2 : Int32) (l3 : Int64) (l5 : Int32) (l6 : Int32) (l7 : zV) (l8 : zV) (l9 : zV) (l10 : zV) (l11 : zV) (l12 : zV) (b : Nat × Nat) (σ : zS) : zO := zF tL_law E 395 b [l0, .inr (.inl l1), .inl l2, .inr (.inr (some l3)), .inr (.inr none), .inl l5, .inl l6, l7, l8, l9, l10, l11, l12] [] σ
noncomputable def LL_law_442 (E : zE) (l0 : zV) (l1 : Option Nat) (l2 : Int32) (l3 : Int64) (l5 : Int32) (l6 : Int32) (l7 : zV) (l8 : zV) (l9 : zV) (l10 : zV) (l11 : zV) (l12 : zV) (b : Nat × Nat) (σ : zS) : zO := zF tL_law E 442 b [l0, .inr (.inl l1), .inl l2, .inr (.inr (some l3)), .inr (.inr none), .inl l5, .inl l6, l7, l8, l9, l10, l11, l12] [] σ
noncomputable def LL_law_519 (E : zE) (l0 : zV) (l1 : Option Nat) (l2 : Int32) (l3 : Int64) (l5 : Int32) (l6 : zV) (l7 : zV) (l8 : zV) (l9 : zV) (l10 : zV) (l11 : zV) (l12 : zV) (b : Nat × Nat) (σ : zS) : zO := zF tL_law E 519 b [l0, .inr (.inl l1), .inl l2, .inr (.inr (some l3)), .inr (.inr none), .inl l5, l6, l7, l8, l9, l10, l11, l12] [] σ
noncomputable def LL_law_551 (E : zE) (l0 : zV) (l1 : Option Nat) (l2 : Int32) (l3 : Int64) (l5 : Int32) (l6 : zV) (l7 : zV) (l8 : zV) (l9 : zV) (l10 : zV) (l11 : zV) (l12 : zV) (b : Nat × Nat) (σ : zS) : zO := zF tL_law E 551 b [l0, .inr (.inl l1), .inl l2, .inr (.inr (some l3)), .inr (.inr none), .inl l5, l6, l7, l8, l9, l10, l11, l12] [] σ
noncomputable def LL_law_577 (E : zE) (l0 : zV) (l1 : Option Nat) (l2 : Int32) (l3 : Int64) (l5 : zV) (l6 : zV) (l7 : zV) (l8 : zV) (l9 : zV) (l10 : zV) (l11 : zV) (l12 : zV) (b : Nat × Nat) (σ : zS) : zO := zF tL_law E 577 b [l0, .inr (.inl l1), .inl l2, .inr (.inr (some l3)), .inr (.inr none), l5, l6, l7, l8, l9, l10, l11, l12] [] σ
set_option maxRecDepth 20000 in
theorem uL_law_102 (E : zE) (l0 : Option Nat) (l1 : Option Nat) (l2 : Int32) (l3 : Int32) (l4 : zV) (b : Nat × Nat) (σ : zS) : LL_law_102 E l0 l1 l2 l3 l4 b σ =
  (if (l3 : Int32) < l2 then
    bnI (E mL_cell [.inr (.inl l0), .inl (2 + l3)] σ) fun v2 s1 =>
    bnI (E mL_low [.inl v2, .inl 5] s1) fun v4 s3 =>
    zlt (α := Int32) v4 fun v5 =>
    if (v5 : Int32) = 0 then
      LL_law_164 E l0 l1 l2 l3 v5 l1 1 b s3
    else
      if (v5 : Int32) = 1 then
        LL_law_164 E l0 l1 l2 l3 v5 l1 6 b s3
      else
        if (v5 : Int32) = 2 then
          LL_law_164 E l0 l1 l2 l3 v5 l1 13 b s3
        else
          if (v5 : Int32) = 3 then
            LL_law_164 E l0 l1 l2 l3 v5 l1 7 b s3
          else
            LL_law_164 E l0 l1 l2 l3 v5 l1 4 b s3
  else
    onR l1 fun a6 =>
    chk (zkd σ a6 = 8) <|
    zgd (zfit b (28, 542) && true) <|
    bnI (E mX10_save [.inr (.inl l1), .inl 0] σ) fun v8 s7 =>
    if (v8 : Int32) = l2 then
      bnL (E mL_digest [.inr (.inl l1)] s7) fun v10 s9 =>
      zlt (α := Int64) v10 fun v11 =>
      zlt (α := Int32) 0 fun v12 =>
      LL_law_226 E l0 l1 l2 v11 v12 (.inr (.inr none)) (.inr (.inr none)) (.inr (.inr none)) (.inr (.inr none)) (.inr (.inr none)) (.inr (.inr none)) (.inr (.inr none)) (Prod.fst b - 28, Prod.snd b - 542) s9
    else
      chk (zB 0) (some (some (.inl 0), s7))) :=
  (zun_at (fun pc => (oL_law pc).1) E (fun q => Nat.beq q 102 || Nat.beq q 164 || Nat.beq q 186 || Nat.beq q 226 || Nat.beq q 279 || Nat.beq q 308 || Nat.beq q 395 || Nat.beq q 442 || Nat.beq q 519 || Nat.beq q 551 || Nat.beq q 577) 378 102 b [.inr (.inl l0), .inr (.inl l1), .inl l2, .inl l3, l4, .inr (.inr none), .inr (.inr none), .inr (.inr none), .inr (.inr none), .inr (.inr none), .inr (.inr none), .inr (.inr none), .inr (.inr none)] [] σ).trans rfl
set_option maxRecDepth 20000 in
theorem uL_law_164 (E : zE) (l0 : Option Nat) (l1 : Option Nat) (l2 : Int32) (l3 : Int32) (l4 : Int32) (k0 : Option Nat) (k1 : Int32) (b : Nat × Nat) (σ : zS) : LL_law_164 E l0 l1 l2 l3 l4 k0 k1 b σ =
  (if (l4 : Int32) = 0 then
    onR k0 fun a1 =>
    chk (zkd σ a1 = 8) <|
    bnI (E mX10_addLayer [.inr (.inl k0), .inl k1, .inl 40, .inl 0] σ) fun v3 s2 =>
    if (v3 : Int32) = l3 then
      zlt (α := Int32) (l3 + 1) fun v4 =>
      LL_law_102 E l0 l1 l2 v4 (.inl l4) b s2
    else
      chk (zB 0) (some (some (.inl 0), s2))
  else
    if (l4 : Int32) = 1 then
      LL_law_186 E l0 l1 l2 l3 (.inl l4) k0 k1 b σ
    else
      if (l4 : Int32) = 3 then
        LL_law_186 E l0 l1 l2 l3 (.inl l4) k0 k1 b σ
      else
        onR k0 fun a5 =>
        chk (zkd σ a5 = 8) <|
        bnI (E mX10_addLayer [.inr (.inl k0), .inl k1, .inl 0, .inl 0] σ) fun v7 s6 =>
        if (v7 : Int32) = l3 then
          zlt (α := Int32) (l3 + 1) fun v8 =>
          LL_law_102 E l0 l1 l2 v8 (.inl l4) b s6
        else
          chk (zB 0) (some (some (.inl 0), s6))) :=
  (zun_at (fun pc => (oL_law pc).1) E (fun q => Nat.beq q 102 || Nat.beq q 164 || Nat.beq q 186 || Nat.beq q 226 || Nat.beq q 279 || Nat.beq q 308 || Nat.beq q 395 || Nat.beq q 442 || Nat.beq q 519 || Nat.beq q 551 || Nat.beq q 577) 378 164 b [.inr (.inl l0), .inr (.inl l1), .inl l2, .inl l3, .inl l4, .inr (.inr none), .inr (.inr none), .inr (.inr none), .inr (.inr none), .inr (.inr none), .inr (.inr none), .inr (.inr none), .inr (.inr none)] [.inl k1, .inr (.inl k0)] σ).trans rfl
set_option maxRecDepth 20000 in
theorem uL_law_186 (E : zE) (l0 : Option Nat) (l1 : Option Nat) (l2 : Int32) (l3 : Int32) (l4 : zV) (k0 : Option Nat) (k1 : Int32) (b : Nat × Nat) (σ : zS) : LL_law_186 E l0 l1 l2 l3 l4 k0 k1 b σ =
  (onR k0 fun a1 =>
  chk (zkd σ a1 = 8) <|
  bnI (E mX10_addLayer [.inr (.inl k0), .inl k1, .inl 1, .inl 0] σ) fun v3 s2 =>
  if (v3 : Int32) = l3 then
    zlt (α := Int32) (l3 + 1) fun v4 =>
    LL_law_102 E l0 l1 l2 v4 (l4) b s2
  else
    chk (zB 0) (some (some (.inl 0), s2))) :=
  (zun_at (fun pc => (oL_law pc).1) E (fun q => Nat.beq q 102 || Nat.beq q 164 || Nat.beq q 186 || Nat.beq q 226 || Nat.beq q 279 || Nat.beq q 308 || Nat.beq q 395 || Nat.beq q 442 || Nat.beq q 519 || Nat.beq q 551 || Nat.beq q 577) 378 186 b [.inr (.inl l0), .inr (.inl l1), .inl l2, .inl l3, l4, .inr (.inr none), .inr (.inr none), .inr (.inr none), .inr (.inr none), .inr (.inr none), .inr (.inr none), .inr (.inr none), .inr (.inr none)] [.inl k1, .inr (.inl k0)] σ).trans rfl
set_option maxRecDepth 20000 in
theorem uL_law_226 (E : zE) (l0 : Option Nat) (l1 : Option Nat) (l2 : Int32) (l3 : Int64) (l5 : Int32) (l6 : zV) (l7 : zV) (l8 : zV) (l9 : zV) (l10 : zV) (l11 : zV) (l12 : zV) (b : Nat × Nat) (σ : zS) : LL_law_226 E l0 l1 l2 l3 l5 l6 l7 l8 l9 l10 l11 l12 b σ =
  (if (l5 : Int32) < 8 then
    bnI (E mL_cell [.inr (.inl l0), .inl (5 + l5)] σ) fun v2 s1 =>
    zlt (α := Int32) v2 fun v3 =>
    bnL (E mL_digest [.inr (.inl l1)] s1) fun v5 s4 =>
    zlt (α := Int64) v5 fun v6 =>
    onR l1 fun a7 =>
    chk (zkd s4 a7 = 8) <|
    bnI (E mX10_size [.inr (.inl l1), .inl 2] s4) fun v9 s8 =>
    zlt (α := Int32) v9 fun v10 =>
    bnI (E mL_edit [.inr (.inl l1), .inl v3] s8) fun v12 s11 =>
    zlt (α := Int32) v12 fun v13 =>
    if (v13 : Int32) < 0 then
      bnL (E mL_digest [.inr (.inl l1)] s11) fun v15 s14 =>
      if ((lg_cmp v15 v6) : Int32) = 0 then
        LL_law_279 E l0 l1 l2 l3 l5 v3 v6 v10 v13 (l11) (l12) b s14
      else
        chk (zB 0) (some (some (.inl 0), s14))
    else
      LL_law_279 E l0 l1 l2 l3 l5 v3 v6 v10 v13 (l11) (l12) b s11
  else
    onR l1 fun a16 =>
    chk (zkd σ a16 = 8) <|
    bnI (E mX10_size [.inr (.inl l1), .inl 2] σ) fun v18 s17 =>
    zlt (α := Int32) (v18 - 1) fun v19 =>
    zlt (α := Int32) 0 fun v20 =>
    LL_law_395 E (.inr (.inl l0)) l1 l2 l3 v19 v20 (l7) (l8) (l9) (l10) (l11) (l12) b s17) :=
  (zun_at (fun pc => (oL_law pc).1) E (fun q => Nat.beq q 102 || Nat.beq q 164 || Nat.beq q 186 || Nat.beq q 226 || Nat.beq q 279 || Nat.beq q 308 || Nat.beq q 395 || Nat.beq q 442 || Nat.beq q 519 || Nat.beq q 551 || Nat.beq q 577) 378 226 b [.inr (.inl l0), .inr (.inl l1), .inl l2, .inr (.inr (some l3)), .inr (.inr none), .inl l5, l6, l7, l8, l9, l10, l11, l12] [] σ).trans rfl
set_option maxRecDepth 20000 in
theorem uL_law_279 (E : zE) (l0 : Option Nat) (l1 : Option Nat) (l2 : Int32) (l3 : Int64) (l5 : Int32) (l6 : Int32) (l7 : Int64) (l9 : Int32) (l10 : Int32) (l11 : zV) (l12 : zV) (b : Nat × Nat) (σ : zS) : LL_law_279 E l0 l1 l2 l3 l5 l6 l7 l9 l10 l11 l12 b σ =
  (onR l1 fun a1 =>
  chk (zkd σ a1 = 8) <|
  bnI (E mX10_size [.inr (.inl l1), .inl 2] σ) fun v3 s2 =>
  if (v3 : Int32) ≤ 0 then
    LL_law_308 E l0 l1 l2 l3 l5 l6 l7 l9 l10 (l11) (l12) b s2
  else
    onR l1 fun a4 =>
    chk (zkd s2 a4 = 8) <|
    bnI (E mX10_size [.inr (.inl l1), .inl 2] s2) fun v6 s5 =>
    bnI (E mL_low [.inl (l6 >>> (2 &&& 31)), .inl v6] s5) fun v8 s7 =>
    bnI (E mL_isTold [.inr (.inl l1), .inl v8] s7) fun v10 s9 =>
    if (v10 : Int32) = 0 then
      chk (zB 0) (some (some (.inl 0), s9))
    else
      LL_law_308 E l0 l1 l2 l3 l5 l6 l7 l9 l10 (l11) (l12) b s9) :=
  (zun_at (fun pc => (oL_law pc).1) E (fun q => Nat.beq q 102 || Nat.beq q 164 || Nat.beq q 186 || Nat.beq q 226 || Nat.beq q 279 || Nat.beq q 308 || Nat.beq q 395 || Nat.beq q 442 || Nat.beq q 519 || Nat.beq q 551 || Nat.beq q 577) 378 279 b [.inr (.inl l0), .inr (.inl l1), .inl l2, .inr (.inr (some l3)), .inr (.inr none), .inl l5, .inl l6, .inr (.inr (some l7)), .inr (.inr none), .inl l9, .inl l10, l11, l12] [] σ).trans rfl
set_option maxRecDepth 20000 in
theorem uL_law_308 (E : zE) (l0 : Option Nat) (l1 : Option Nat) (l2 : Int32) (l3 : Int64) (l5 : Int32) (l6 : Int32) (l7 : Int64) (l9 : Int32) (l10 : Int32) (l11 : zV) (l12 : zV) (b : Nat × Nat) (σ : zS) : LL_law_308 E l0 l1 l2 l3 l5 l6 l7 l9 l10 l11 l12 b σ =
  (if (l10 : Int32) < 0 then
    zlt (α := Int32) (l5 + 1) fun v1 =>
    LL_law_226 E l0 l1 l2 l3 v1 (.inl l6) (.inr (.inr (some l7))) (.inr (.inr none)) (.inl l9) (.inl l10) (l11) (l12) b σ
  else
    if ((l5 &&& 1) : Int32) = 1 then
      bnL (E mL_digest [.inr (.inl l1)] σ) fun v3 s2 =>
      zlt (α := Int64) v3 fun v4 =>
      onR l1 fun a5 =>
      chk (zkd s2 a5 = 8) <|
      bnI (E mX10_undo [.inr (.inl l1)] s2) fun v7 s6 =>
      if (v7 : Int32) < 0 then
        chk (zB 0) (some (some (.inl 0), s6))
      else
        bnL (E mL_digest [.inr (.inl l1)] s6) fun v9 s8 =>
        if ((lg_cmp v9 l7) : Int32) = 0 then
          onR l1 fun a10 =>
          chk (zkd s8 a10 = 8) <|
          bnI (E mX10_size [.inr (.inl l1), .inl 2] s8) fun v12 s11 =>
          if (v12 : Int32) = l9 then
            bnI (E mL_edit [.inr (.inl l1), .inl l6] s11) fun v14 s13 =>
            if (v14 : Int32) < 0 then
              chk (zB 0) (some (some (.inl 0), s13))
            else
              bnL (E mL_digest [.inr (.inl l1)] s13) fun v16 s15 =>
              if ((lg_cmp v16 v4) : Int32) = 0 then
                zlt (α := Int32) (l5 + 1) fun v17 =>
                LL_law_226 E l0 l1 l2 l3 v17 (.inl l6) (.inr (.inr (some l7))) (.inr (.inr none)) (.inl l9) (.inl l10) (.inr (.inr (some v4))) (.inr (.inr none)) b s15
              else
                chk (zB 0) (some (some (.inl 0), s15))
          else
            chk (zB 0) (some (some (.inl 0), s11))
        else
          chk (zB 0) (some (some (.inl 0), s8))
    else
      zlt (α := Int32) (l5 + 1) fun v18 =>
      LL_law_226 E l0 l1 l2 l3 v18 (.inl l6) (.inr (.inr (some l7))) (.inr (.inr none)) (.inl l9) (.inl l10) (l11) (l12) b σ) :=
  (zun_at (fun pc => (oL_law pc).1) E (fun q => Nat.beq q 102 || Nat.beq q 164 || Nat.beq q 186 || Nat.beq q 226 || Nat.beq q 279 || Nat.beq q 308 || Nat.beq q 395 || Nat.beq q 442 || Nat.beq q 519 || Nat.beq q 551 || Nat.beq q 577) 378 308 b [.inr (.inl l0), .inr (.inl l1), .inl l2, .inr (.inr (some l3)), .inr (.inr none), .inl l5, .inl l6, .inr (.inr (some l7)), .inr (.inr none), .inl l9, .inl l10, l11, l12] [] σ).trans rfl
set_option maxRecDepth 20000 in
theorem uL_law_395 (E : zE) (l0 : zV) (l1 : Option Nat) (l2 : Int32) (l3 : Int64) (l5 : Int32) (l6 : Int32) (l7 : zV) (l8 : zV) (l9 : zV) (l10 : zV) (l11 : zV) (l12 : zV) (b : Nat × Nat) (σ : zS) : LL_law_395 E l0 l1 l2 l3 l5 l6 l7 l8 l9 l10 l11 l12 b σ =
  (if (l6 : Int32) ≤ l5 then
    onR l1 fun a1 =>
    chk (zkd σ a1 = 8) <|
    bnI (E mX10_strongestLayer [.inr (.inl l1)] σ) fun v3 s2 =>
    zlt (α := Int32) v3 fun v4 =>
    onR l1 fun a5 =>
    chk (zkd s2 a5 = 8) <|
    bnI (E mX10_effect [.inr (.inl l1), .inl l6] s2) fun v7 s6 =>
    onR l1 fun a8 =>
    chk (zkd s6 a8 = 8) <|
    bnI (E mX10_effect [.inr (.inl l1), .inl v4] s6) fun v10 s9 =>
    if (v7 : Int32) ≤ v10 then
      onR l1 fun a11 =>
      chk (zkd s9 a11 = 8) <|
      bnI (E mX10_layer [.inr (.inl l1), .inl l6, .inl 5] s9) fun v13 s12 =>
      if (v13 : Int32) = 0 then
        onR l1 fun a14 =>
        chk (zkd s12 a14 = 8) <|
        bnI (E mX10_effect [.inr (.inl l1), .inl l6] s12) fun v16 s15 =>
        if (v16 : Int32) = 0 then
          LL_law_442 E (l0) l1 l2 l3 l5 l6 (.inl v4) (l8) (l9) (l10) (l11) (l12) b s15
        else
          chk (zB 0) (some (some (.inl 0), s15))
      else
        LL_law_442 E (l0) l1 l2 l3 l5 l6 (.inl v4) (l8) (l9) (l10) (l11) (l12) b s12
    else
      chk (zB 0) (some (some (.inl 0), s9))
  else
    if (l5 : Int32) < 0 then
      LL_law_519 E (l0) l1 l2 l3 l5 (.inl l6) (l7) (l8) (l9) (l10) (l11) (l12) b σ
    else
      onR l1 fun a17 =>
      chk (zkd σ a17 = 8) <|
      bnI (E mX10_size [.inr (.inl l1), .inl 2] σ) fun v19 s18 =>
      if (v19 : Int32) < 8 then
        onR l1 fun a20 =>
        chk (zkd s18 a20 = 8) <|
        bnI (E mX10_duplicateLayer [.inr (.inl l1), .inl l5] s18) fun v22 s21 =>
        zlt (α := Int32) v22 fun v23 =>
        if (v23 : Int32) = (l5 + 1) then
          onR l1 fun a24 =>
          chk (zkd s21 a24 = 8) <|
          bnI (E mX10_exchangeDifference [.inr (.inl l1), .inl l5] s21) fun v26 s25 =>
          if (v26 : Int32) = 0 then
            onR l1 fun a27 =>
            chk (zkd s25 a27 = 8) <|
            bnI (E mX10_undo [.inr (.inl l1)] s25) fun v29 s28 =>
            if (v29 : Int32) < 0 then
              chk (zB 0) (some (some (.inl 0), s28))
            else
              LL_law_519 E (l0) l1 l2 l3 l5 (.inl v23) (l7) (l8) (l9) (l10) (l11) (l12) b s28
          else
            chk (zB 0) (some (some (.inl 0), s25))
        else
          chk (zB 0) (some (some (.inl 0), s21))
      else
        LL_law_519 E (l0) l1 l2 l3 l5 (.inl l6) (l7) (l8) (l9) (l10) (l11) (l12) b s18) :=
  (zun_at (fun pc => (oL_law pc).1) E (fun q => Nat.beq q 102 || Nat.beq q 164 || Nat.beq q 186 || Nat.beq q 226 || Nat.beq q 279 || Nat.beq q 308 || Nat.beq q 395 || Nat.beq q 442 || Nat.beq q 519 || Nat.beq q 551 || Nat.beq q 577) 378 395 b [l0, .inr (.inl l1), .inl l2, .inr (.inr (some l3)), .inr (.inr none), .inl l5, .inl l6, l7, l8, l9, l10, l11, l12] [] σ).trans rfl
set_option maxRecDepth 20000 in
theorem uL_law_442 (E : zE) (l0 : zV) (l1 : Option Nat) (l2 : Int32) (l3 : Int64) (l5 : Int32) (l6 : Int32) (l7 : zV) (l8 : zV) (l9 : zV) (l10 : zV) (l11 : zV) (l12 : zV) (b : Nat × Nat) (σ : zS) : LL_law_442 E l0 l1 l2 l3 l5 l6 l7 l8 l9 l10 l11 l12 b σ =
  (onR l1 fun a1 =>
  chk (zkd σ a1 = 8) <|
  bnI (E mX10_layer [.inr (.inl l1), .inl l6, .inl 4] σ) fun v3 s2 =>
  if (v3 : Int32) = 0 then
    onR l1 fun a4 =>
    chk (zkd s2 a4 = 8) <|
    bnI (E mX10_effect [.inr (.inl l1), .inl l6] s2) fun v6 s5 =>
    if (v6 : Int32) = 0 then
      zlt (α := Int32) (l6 + 1) fun v7 =>
      LL_law_395 E (l0) l1 l2 l3 l5 v7 (l7) (l8) (l9) (l10) (l11) (l12) b s5
    else
      chk (zB 0) (some (some (.inl 0), s5))
  else
    zlt (α := Int32) (l6 + 1) fun v8 =>
    LL_law_395 E (l0) l1 l2 l3 l5 v8 (l7) (l8) (l9) (l10) (l11) (l12) b s2) :=
  (zun_at (fun pc => (oL_law pc).1) E (fun q => Nat.beq q 102 || Nat.beq q 164 || Nat.beq q 186 || Nat.beq q 226 || Nat.beq q 279 || Nat.beq q 308 || Nat.beq q 395 || Nat.beq q 442 || Nat.beq q 519 || Nat.beq q 551 || Nat.beq q 577) 378 442 b [l0, .inr (.inl l1), .inl l2, .inr (.inr (some l3)), .inr (.inr none), .inl l5, .inl l6, l7, l8, l9, l10, l11, l12] [] σ).trans rfl
set_option maxRecDepth 20000 in
theorem uL_law_519 (E : zE) (l0 : zV) (l1 : Option Nat) (l2 : Int32) (l3 : Int64) (l5 : Int32) (l6 : zV) (l7 : zV) (l8 : zV) (l9 : zV) (l10 : zV) (l11 : zV) (l12 : zV) (b : Nat × Nat) (σ : zS) : LL_law_519 E l0 l1 l2 l3 l5 l6 l7 l8 l9 l10 l11 l12 b σ =
  (if (l5 : Int32) < 0 then
    LL_law_551 E (l0) l1 l2 l3 l5 (l6) (l7) (l8) (l9) (l10) (l11) (l12) b σ
  else
    onR l1 fun a1 =>
    chk (zkd σ a1 = 8) <|
    bnI (E mX10_setCacheLimit [.inr (.inl l1), .inl 64] σ) fun v3 s2 =>
    if (v3 : Int32) < 0 then
      chk (zB 0) (some (some (.inl 0), s2))
    else
      onR l1 fun a4 =>
      chk (zkd s2 a4 = 8) <|
      bnI (E mX10_clearCache [.inr (.inl l1)] s2) fun v6 s5 =>
      if (v6 : Int32) < 0 then
        chk (zB 0) (some (some (.inl 0), s5))
      else
        onR l1 fun a7 =>
        chk (zkd s5 a7 = 8) <|
        bnI (E mX10_prefetch [.inr (.inl l1), .inl l5] s5) fun v9 s8 =>
        if (v9 : Int32) < 0 then
          chk (zB 0) (some (some (.inl 0), s8))
        else
          LL_law_551 E (l0) l1 l2 l3 l5 (l6) (l7) (l8) (l9) (l10) (l11) (l12) b s8) :=
  (zun_at (fun pc => (oL_law pc).1) E (fun q => Nat.beq q 102 || Nat.beq q 164 || Nat.beq q 186 || Nat.beq q 226 || Nat.beq q 279 || Nat.beq q 308 || Nat.beq q 395 || Nat.beq q 442 || Nat.beq q 519 || Nat.beq q 551 || Nat.beq q 577) 378 519 b [l0, .inr (.inl l1), .inl l2, .inr (.inr (some l3)), .inr (.inr none), .inl l5, l6, l7, l8, l9, l10, l11, l12] [] σ).trans rfl
set_option maxRecDepth 20000 in
theorem uL_law_551 (E : zE) (l0 : zV) (l1 : Option Nat) (l2 : Int32) (l3 : Int64) (l5 : Int32) (l6 : zV) (l7 : zV) (l8 : zV) (l9 : zV) (l10 : zV) (l11 : zV) (l12 : zV) (b : Nat × Nat) (σ : zS) : LL_law_551 E l0 l1 l2 l3 l5 l6 l7 l8 l9 l10 l11 l12 b σ =
  (if (l5 : Int32) = 0 then
    onR l1 fun a1 =>
    chk (zkd σ a1 = 8) <|
    bnI (E mX10_size [.inr (.inl l1), .inl 4] σ) fun v3 s2 =>
    if (v3 : Int32) ≤ 64 then
      onR l1 fun a4 =>
      chk (zkd s2 a4 = 8) <|
      bnI (E mX10_prefetch [.inr (.inl l1), .inl l5] s2) fun v6 s5 =>
      if (v6 : Int32) = 0 then
        LL_law_577 E (l0) l1 l2 l3 (.inl l5) (l6) (l7) (l8) (l9) (l10) (l11) (l12) b s5
      else
        chk (zB 0) (some (some (.inl 0), s5))
    else
      LL_law_577 E (l0) l1 l2 l3 (.inl l5) (l6) (l7) (l8) (l9) (l10) (l11) (l12) b s2
  else
    LL_law_577 E (l0) l1 l2 l3 (.inl l5) (l6) (l7) (l8) (l9) (l10) (l11) (l12) b σ) :=
  (zun_at (fun pc => (oL_law pc).1) E (fun q => Nat.beq q 102 || Nat.beq q 164 || Nat.beq q 186 || Nat.beq q 226 || Nat.beq q 279 || Nat.beq q 308 || Nat.beq q 395 || Nat.beq q 442 || Nat.beq q 519 || Nat.beq q 551 || Nat.beq q 577) 378 551 b [l0, .inr (.inl l1), .inl l2, .inr (.inr (some l3)), .inr (.inr none), .inl l5, l6, l7, l8, l9, l10, l11, l12] [] σ).trans rfl
set_option maxRecDepth 20000 in
theorem uL_law_577 (E : zE) (l0 : zV) (l1 : Option Nat) (l2 : Int32) (l3 : Int64) (l5 : zV) (l6 : zV) (l7 : zV) (l8 : zV) (l9 : zV) (l10 : zV) (l11 : zV) (l12 : zV) (b : Nat × Nat) (σ : zS) : LL_law_577 E l0 l1 l2 l3 l5 l6 l7 l8 l9 l10 l11 l12 b σ =
  (bnL (E mL_digest [.inr (.inl l1)] σ) fun v2 s1 =>
  zlt (α := Int64) v2 fun v3 =>
  onR l1 fun a4 =>
  chk (zkd s1 a4 = 8) <|
  bnI (E mX10_setPixel [.inr (.inl l1), .inl (-1), .inl 0, .inl 0] s1) fun v6 s5 =>
  if (v6 : Int32) = (-1001) then
    onR l1 fun a7 =>
    chk (zkd s5 a7 = 8) <|
    bnI (E mX10_addLayer [.inr (.inl l1), .inl 6, .inl 4, .inl 0] s5) fun v9 s8 =>
    if (v9 : Int32) = (-1001) then
      onR l1 fun a10 =>
      chk (zkd s8 a10 = 8) <|
      bnI (E mX10_dab [.inr (.inl l1), .inl 8, .inl 0, .inl 0, .inl 0] s8) fun v12 s11 =>
      if (v12 : Int32) = (-1001) then
        onR l1 fun a13 =>
        chk (zkd s11 a13 = 8) <|
        bnI (E mX10_newImage [.inr (.inl l1), .inl 3, .inl 4] s11) fun v15 s14 =>
        if (v15 : Int32) = (-1001) then
          onR l1 fun a16 =>
          chk (zkd s14 a16 = 8) <|
          bnI (E mX10_restore [.inr (.inl l1), .inl 2] s14) fun v18 s17 =>
          if (v18 : Int32) = (-1001) then
            onR l1 fun a19 =>
            chk (zkd s17 a19 = 8) <|
            bnI (E mX10_restore [.inr (.inl l1), .inl 1] s17) fun v21 s20 =>
            if (v21 : Int32) = (-1002) then
              onR l1 fun a22 =>
              chk (zkd s20 a22 = 8) <|
              bnI (E mX10_setTileSize [.inr (.inl l1), .inl 1] s20) fun v24 s23 =>
              if (v24 : Int32) = (-1001) then
                bnL (E mL_digest [.inr (.inl l1)] s23) fun v26 s25 =>
                if ((lg_cmp v26 v3) : Int32) = 0 then
                  onR l1 fun a27 =>
                  chk (zkd s25 a27 = 8) <|
                  bnI (E mX10_restore [.inr (.inl l1), .inl 0] s25) fun v29 s28 =>
                  if (v29 : Int32) = l2 then
                    bnL (E mL_digest [.inr (.inl l1)] s28) fun v31 s30 =>
                    if ((lg_cmp v31 l3) : Int32) = 0 then
                      onR l1 fun a32 =>
                      chk (zkd s30 a32 = 8) <|
                      bnI (E mX10_undo [.inr (.inl l1)] s30) fun v34 s33 =>
                      if (v34 : Int32) = (-1002) then
                        onR l1 fun a35 =>
                        chk (zkd s33 a35 = 8) <|
                        bnI (E mX10_snapshotDifference [.inr (.inl l1), .inl 0] s33) fun v37 s36 =>
                        if (v37 : Int32) = 0 then
                          chk (zB 1) (some (some (.inl 1), s36))
                        else
                          chk (zB 0) (some (some (.inl 0), s36))
                      else
                        chk (zB 0) (some (some (.inl 0), s33))
                    else
                      chk (zB 0) (some (some (.inl 0), s30))
                  else
                    chk (zB 0) (some (some (.inl 0), s28))
                else
                  chk (zB 0) (some (some (.inl 0), s25))
              else
                chk (zB 0) (some (some (.inl 0), s23))
            else
              chk (zB 0) (some (some (.inl 0), s20))
          else
            chk (zB 0) (some (some (.inl 0), s17))
        else
          chk (zB 0) (some (some (.inl 0), s14))
      else
        chk (zB 0) (some (some (.inl 0), s11))
    else
      chk (zB 0) (some (some (.inl 0), s8))
  else
    chk (zB 0) (some (some (.inl 0), s5))) :=
  (zun_at (fun pc => (oL_law pc).1) E (fun q => Nat.beq q 102 || Nat.beq q 164 || Nat.beq q 186 || Nat.beq q 226 || Nat.beq q 279 || Nat.beq q 308 || Nat.beq q 395 || Nat.beq q 442 || Nat.beq q 519 || Nat.beq q 551 || Nat.beq q 577) 378 577 b [l0, .inr (.inl l1), .inl l2, .inr (.inr (some l3)), .inr (.inr none), l5, l6, l7, l8, l9, l10, l11, l12] [] σ).trans rfl
noncomputable def fL_law (E : zE) (p0 : Option Nat) (σ : zS) : zO :=
  chk (zkd (zno σ 8) (znx σ) = 8) <|
  bnV (E mX10_init [.inr (.inl (some (znx σ)))] (zno σ 8)) fun s1 =>
  bnI (E mL_cell [.inr (.inl p0), .inl 0] s1) fun v3 s2 =>
  bnI (E mL_low [.inl v3, .inl 6] s2) fun v5 s4 =>
  bnI (E mL_cell [.inr (.inl p0), .inl 0] s4) fun v7 s6 =>
  bnI (E mL_low [.inl (v7 >>> (3 &&& 31)), .inl 6] s6) fun v9 s8 =>
  chk (zkd s8 (znx σ) = 8) <|
  bnI (E mX10_newImage [.inr (.inl (some (znx σ))), .inl (4 + v5), .inl (4 + v9)] s8) fun v11 s10 =>
  if (v11 : Int32) < 16 then
    chk (zB 0) (some (some (.inl 0), s10))
  else
    bnI (E mL_cell [.inr (.inl p0), .inl 0] s10) fun v13 s12 =>
    bnI (E mL_low [.inl (v13 >>> (6 &&& 31)), .inl 4] s12) fun v15 s14 =>
    chk (zkd s14 (znx σ) = 8) <|
    bnI (E mX10_setTileSize [.inr (.inl (some (znx σ))), .inl (2 + v15)] s14) fun v17 s16 =>
    if (v17 : Int32) < 0 then
      chk (zB 0) (some (some (.inl 0), s16))
    else
      bnI (E mL_cell [.inr (.inl p0), .inl 0] s16) fun v19 s18 =>
      bnI (E mL_low [.inl (v19 >>> (8 &&& 31)), .inl 20] s18) fun v21 s20 =>
      chk (zkd s20 (znx σ) = 8) <|
      bnI (E mX10_setCacheLimit [.inr (.inl (some (znx σ))), .inl (1 + v21)] s20) fun v23 s22 =>
      if (v23 : Int32) < 0 then
        chk (zB 0) (some (some (.inl 0), s22))
      else
        bnI (E mL_cell [.inr (.inl p0), .inl 1] s22) fun v25 s24 =>
        bnI (E mL_low [.inl v25, .inl 3] s24) fun v27 s26 =>
        zlt (α := Int32) (1 + v27) fun v28 =>
        zlt (α := Int32) 0 fun v29 =>
        LL_law_102 E p0 (some (znx σ)) v28 v29 (.inr (.inr none)) (599743, 7294296) s26
set_option maxRecDepth 20000 in
theorem eL_law (E : zE) (p0 : Option Nat) (σ : zS) : zM tL_law 13 (600000, 7302250) E [.inr (.inl p0)] σ = fL_law E p0 σ :=
  (zun_at (fun pc => (oL_law pc).1) E (fun q => Nat.beq q 102 || Nat.beq q 164 || Nat.beq q 186 || Nat.beq q 226 || Nat.beq q 279 || Nat.beq q 308 || Nat.beq q 395 || Nat.beq q 442 || Nat.beq q 519 || Nat.beq q 551 || Nat.beq q 577) 378 0 (600000, 7302250) (zls0 [.inr (.inl p0)] 13) [] σ).trans rfl
