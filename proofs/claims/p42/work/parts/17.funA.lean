/-! the methods as functions (by program: wip/whole/emit2.py) -/
noncomputable def LX0_init_26 (E : zE) (l0 : Nat) (l1 : Int32) (b : Nat × Nat) (σ : zS) : zO := zF tX0_init E 26 b [.inr (.inl (some l0)), .inl l1] [] σ
set_option maxRecDepth 20000 in
theorem uX0_init_26 (E : zE) (l0 : Nat) (l1 : Int32) (b : Nat × Nat) (σ : zS) : LX0_init_26 E l0 l1 b σ =
  (chk (zkd σ l0 = 0) <|
  onR (zr σ 1 l0) fun a1 =>
  chk (zkd σ a1 = 14) <|
  if (l1 : Int32) < (Int32.ofNat (zln σ a1)) then
    chk (zkd σ l0 = 0) <|
    if 1 ≤ Prod.fst b ∧ 7 ≤ Prod.snd b then
      chk (zkd (zno σ 2) (znx σ) = 2) <|
      zgd (zfit (Prod.fst b - 1, Prod.snd b - 7) (2, 27) && true) <|
      bnV (E mX3_init [.inr (.inl (some (znx σ)))] (zno σ 2)) fun s2 =>
      onR (zr σ 1 l0) fun a3 =>
      chk ((zkd s2 a3 = 14 ∧ zin l1 (zln s2 a3)) ∧ zkd s2 (znx σ) = 2) <| zlt (zsq s2 a3 (Int32.toNatClampNeg l1) (some (znx σ))) fun s4 =>
      zlt (α := Int32) (l1 + 1) fun v5 =>
      LX0_init_26 E l0 v5 (Prod.fst (Prod.fst b - 1, Prod.snd b - 7) - 2, Prod.snd (Prod.fst b - 1, Prod.snd b - 7) - 27) s4
    else none
  else
    some (none, σ)) :=
  (zun_at (fun pc => (oX0_init pc).1) E (fun q => Nat.beq q 26) 29 26 b [.inr (.inl (some l0)), .inl l1] [] σ).trans rfl
noncomputable def fX0_init (E : zE) (p0 : Nat) (σ : zS) : zO :=
  chk (zkd (zno σ 4) (znx σ) = 4) <|
  bnV (E mX6_init [.inr (.inl (some (znx σ)))] (zno σ 4)) fun s1 =>
  chk (zkd s1 p0 = 0) <| zlt (zsr s1 0 p0 (some (znx σ))) fun s2 =>
  chk (zkd (zna s2 14 8) p0 = 0) <| zlt (zsr (zna s2 14 8) 1 p0 (some (znx s2))) fun s3 =>
  zlt (α := Int32) 0 fun v4 =>
  LX0_init_26 E p0 v4 (24, 272) s3
set_option maxRecDepth 20000 in
theorem eX0_init (E : zE) (p0 : Nat) (σ : zS) : zM tX0_init 2 (27, 539) E [.inr (.inl (some p0))] σ = fX0_init E p0 σ :=
  (zun_at (fun pc => (oX0_init pc).1) E (fun q => Nat.beq q 26) 29 0 (27, 539) (zls0 [.inr (.inl (some p0))] 2) [] σ).trans rfl
noncomputable def fX0_layerCount (E : zE) (p0 : Nat) (σ : zS) : zO :=
  chk (zkd σ p0 = 0) <|
  some (some (.inl (zi σ 2 p0)), σ)
set_option maxRecDepth 20000 in
theorem eX0_layerCount (E : zE) (p0 : Nat) (σ : zS) : zM tX0_layerCount 1 (0, 0) E [.inr (.inl (some p0))] σ = fX0_layerCount E p0 σ :=
  (zun_at (fun pc => (oX0_layerCount pc).1) E (fun _ => false) 4 0 (0, 0) (zls0 [.inr (.inl (some p0))] 1) [] σ).trans rfl
noncomputable def fX0_isFull (E : zE) (p0 : Nat) (σ : zS) : zO :=
  chk (zkd σ p0 = 0) <|
  chk (zkd σ p0 = 0) <|
  onR (zr σ 1 p0) fun a1 =>
  chk (zkd σ a1 = 14) <|
  if ((zi σ 2 p0) : Int32) < (Int32.ofNat (zln σ a1)) then
    chk (zB 0) (some (some (.inl 0), σ))
  else
    chk (zB 1) (some (some (.inl 1), σ))
set_option maxRecDepth 20000 in
theorem eX0_isFull (E : zE) (p0 : Nat) (σ : zS) : zM tX0_isFull 1 (0, 0) E [.inr (.inl (some p0))] σ = fX0_isFull E p0 σ :=
  (zun_at (fun pc => (oX0_isFull pc).1) E (fun _ => false) 11 0 (0, 0) (zls0 [.inr (.inl (some p0))] 1) [] σ).trans rfl
noncomputable def fX0_layerAt (E : zE) (p0 : Nat) (p1 : Int32) (σ : zS) : zO :=
  if (p1 : Int32) < 0 then
    some (some (.inr (.inl none)), σ)
  else
    chk (zkd σ p0 = 0) <|
    if (p1 : Int32) < (zi σ 2 p0) then
      chk (zkd σ p0 = 0) <|
      onR (zr σ 1 p0) fun a1 =>
      chk (zkd σ a1 = 14) <|
      if (p1 : Int32) < (Int32.ofNat (zln σ a1)) then
        chk (zkd σ p0 = 0) <|
        onR (zr σ 1 p0) fun a2 =>
        chk (zkd σ a2 = 14 ∧ zin p1 (zln σ a2)) <|
        some (some (.inr (.inl (zar σ a2 (Int32.toNatClampNeg p1)))), σ)
      else
        some (some (.inr (.inl none)), σ)
    else
      some (some (.inr (.inl none)), σ)
set_option maxRecDepth 20000 in
theorem eX0_layerAt (E : zE) (p0 : Nat) (p1 : Int32) (σ : zS) : zM tX0_layerAt 2 (0, 0) E [.inr (.inl (some p0)), .inl p1] σ = fX0_layerAt E p0 p1 σ :=
  (zun_at (fun pc => (oX0_layerAt pc).1) E (fun _ => false) 19 0 (0, 0) (zls0 [.inr (.inl (some p0)), .inl p1] 2) [] σ).trans rfl
noncomputable def LX0_enabledCount_4 (E : zE) (l0 : Nat) (l1 : Int32) (l2 : Int32) (l3 : zV) (σ : zS) : zO := zF tX0_enabledCount E 4 (0, 0) [.inr (.inl (some l0)), .inl l1, .inl l2, l3] [] σ
set_option maxRecDepth 20000 in
theorem uX0_enabledCount_4 (E : zE) (l0 : Nat) (l1 : Int32) (l2 : Int32) (l3 : zV) (σ : zS) : LX0_enabledCount_4 E l0 l1 l2 l3 σ =
  (chk (zkd σ l0 = 0) <|
  if (l2 : Int32) < (zi σ 2 l0) then
    chk (zkd σ l0 = 0) <|
    bnR (E mX0_layerAt [.inr (.inl (some l0)), .inl l2] σ) fun r2 s1 =>
    nul r2 (
      zlt (α := Int32) (l2 + 1) fun v3 =>
      LX0_enabledCount_4 E l0 l1 v3 (.inr (.inl r2)) s1) (
      onR r2 fun a4 =>
      chk (zkd s1 a4 = 2) <|
      if ((zi s1 133 a4) : Int32) = 0 then
        zlt (α := Int32) (l2 + 1) fun v5 =>
        LX0_enabledCount_4 E l0 l1 v5 (.inr (.inl r2)) s1
      else
        zlt (α := Int32) (l1 + 1) fun v6 =>
        zlt (α := Int32) (l2 + 1) fun v7 =>
        LX0_enabledCount_4 E l0 v6 v7 (.inr (.inl r2)) s1)
  else
    some (some (.inl l1), σ)) :=
  (zun_at (fun pc => (oX0_enabledCount pc).1) E (fun q => Nat.beq q 4) 23 4 (0, 0) [.inr (.inl (some l0)), .inl l1, .inl l2, l3] [] σ).trans rfl
noncomputable def fX0_enabledCount (E : zE) (p0 : Nat) (σ : zS) : zO :=
  zlt (α := Int32) 0 fun v1 =>
  zlt (α := Int32) 0 fun v2 =>
  LX0_enabledCount_4 E p0 v1 v2 (.inr (.inr none)) σ
set_option maxRecDepth 20000 in
theorem eX0_enabledCount (E : zE) (p0 : Nat) (σ : zS) : zM tX0_enabledCount 4 (0, 0) E [.inr (.inl (some p0))] σ = fX0_enabledCount E p0 σ :=
  (zun_at (fun pc => (oX0_enabledCount pc).1) E (fun q => Nat.beq q 4) 23 0 (0, 0) (zls0 [.inr (.inl (some p0))] 4) [] σ).trans rfl
noncomputable def LX0_enabledAtMost_2 (E : zE) (l0 : Nat) (l1 : zV) (l2 : Int32) (l3 : zV) (σ : zS) : zO := zF tX0_enabledAtMost E 2 (0, 0) [.inr (.inl (some l0)), l1, .inl l2, l3] [] σ
set_option maxRecDepth 20000 in
theorem uX0_enabledAtMost_2 (E : zE) (l0 : Nat) (l1 : zV) (l2 : Int32) (l3 : zV) (σ : zS) : LX0_enabledAtMost_2 E l0 l1 l2 l3 σ =
  (if (l2 : Int32) < 0 then
    some (some (.inl (-1)), σ)
  else
    chk (zkd σ l0 = 0) <|
    bnR (E mX0_layerAt [.inr (.inl (some l0)), .inl l2] σ) fun r2 s1 =>
    nul r2 (
      zlt (α := Int32) (l2 + (-1)) fun v3 =>
      LX0_enabledAtMost_2 E l0 (l1) v3 (.inr (.inl r2)) s1) (
      onR r2 fun a4 =>
      chk (zkd s1 a4 = 2) <|
      if ((zi s1 133 a4) : Int32) = 0 then
        zlt (α := Int32) (l2 + (-1)) fun v5 =>
        LX0_enabledAtMost_2 E l0 (l1) v5 (.inr (.inl r2)) s1
      else
        some (some (.inl l2), s1))) :=
  (zun_at (fun pc => (oX0_enabledAtMost pc).1) E (fun q => Nat.beq q 2) 20 2 (0, 0) [.inr (.inl (some l0)), l1, .inl l2, l3] [] σ).trans rfl
noncomputable def fX0_enabledAtMost (E : zE) (p0 : Nat) (p1 : Int32) (σ : zS) : zO :=
  zlt (α := Int32) p1 fun v1 =>
  LX0_enabledAtMost_2 E p0 (.inl p1) v1 (.inr (.inr none)) σ
set_option maxRecDepth 20000 in
theorem eX0_enabledAtMost (E : zE) (p0 : Nat) (p1 : Int32) (σ : zS) : zM tX0_enabledAtMost 4 (0, 0) E [.inr (.inl (some p0)), .inl p1] σ = fX0_enabledAtMost E p0 p1 σ :=
  (zun_at (fun pc => (oX0_enabledAtMost pc).1) E (fun q => Nat.beq q 2) 20 0 (0, 0) (zls0 [.inr (.inl (some p0)), .inl p1] 4) [] σ).trans rfl
noncomputable def fX0_copyFrom (E : zE) (p0 : Nat) (p1 : Option Nat) (σ : zS) : zO :=
  chk (zkd σ p0 = 0) <|
  onR p1 fun a1 =>
  chk (zkd σ a1 = 0) <|
  onR (zr σ 0 p0) fun a2 =>
  chk (zkd σ a2 = 4) <|
  bnV (E mX6_copyFrom [.inr (.inl (zr σ 0 p0)), .inr (.inl (zr σ 0 a1))] σ) fun s3 =>
  chk (zkd s3 p0 = 0) <|
  bnV (E mX0_copyLayersFrom [.inr (.inl (some p0)), .inr (.inl p1)] s3) fun s4 =>
  some (none, s4)
set_option maxRecDepth 20000 in
theorem eX0_copyFrom (E : zE) (p0 : Nat) (p1 : Option Nat) (σ : zS) : zM tX0_copyFrom 2 (0, 0) E [.inr (.inl (some p0)), .inr (.inl p1)] σ = fX0_copyFrom E p0 p1 σ :=
  (zun_at (fun pc => (oX0_copyFrom pc).1) E (fun _ => false) 10 0 (0, 0) (zls0 [.inr (.inl (some p0)), .inr (.inl p1)] 2) [] σ).trans rfl
noncomputable def LX0_copyLayersFrom_6 (E : zE) (l0 : Nat) (l1 : Option Nat) (l2 : Int32) (l3 : zV) (l4 : zV) (σ : zS) : zO := zF tX0_copyLayersFrom E 6 (0, 0) [.inr (.inl (some l0)), .inr (.inl l1), .inl l2, l3, l4] [] σ
set_option maxRecDepth 20000 in
theorem uX0_copyLayersFrom_6 (E : zE) (l0 : Nat) (l1 : Option Nat) (l2 : Int32) (l3 : zV) (l4 : zV) (σ : zS) : LX0_copyLayersFrom_6 E l0 l1 l2 l3 l4 σ =
  (onR l1 fun a1 =>
  chk (zkd σ a1 = 0) <|
  if (l2 : Int32) < (zi σ 2 a1) then
    onR l1 fun a2 =>
    chk (zkd σ a2 = 0) <|
    bnR (E mX0_layerAt [.inr (.inl l1), .inl l2] σ) fun r4 s3 =>
    chk (zkd s3 l0 = 0) <|
    bnR (E mX0_nextLayer [.inr (.inl (some l0))] s3) fun r6 s5 =>
    nul r4 (
      zlt (α := Int32) (l2 + 1) fun v7 =>
      LX0_copyLayersFrom_6 E l0 l1 v7 (.inr (.inl r4)) (.inr (.inl r6)) s5) (
      nul r6 (
        zlt (α := Int32) (l2 + 1) fun v8 =>
        LX0_copyLayersFrom_6 E l0 l1 v8 (.inr (.inl r4)) (.inr (.inl r6)) s5) (
        onR r6 fun a9 =>
        chk (zkd s5 a9 = 2) <|
        bnV (E mX3_copyFrom [.inr (.inl r6), .inr (.inl r4)] s5) fun s10 =>
        zlt (α := Int32) (l2 + 1) fun v11 =>
        LX0_copyLayersFrom_6 E l0 l1 v11 (.inr (.inl r4)) (.inr (.inl r6)) s10))
  else
    some (none, σ)) :=
  (zun_at (fun pc => (oX0_copyLayersFrom pc).1) E (fun q => Nat.beq q 6) 26 6 (0, 0) [.inr (.inl (some l0)), .inr (.inl l1), .inl l2, l3, l4] [] σ).trans rfl
noncomputable def fX0_copyLayersFrom (E : zE) (p0 : Nat) (p1 : Option Nat) (σ : zS) : zO :=
  chk (zkd σ p0 = 0) <|
  bnV (E mX0_removeLayers [.inr (.inl (some p0))] σ) fun s1 =>
  zlt (α := Int32) 0 fun v2 =>
  LX0_copyLayersFrom_6 E p0 p1 v2 (.inr (.inr none)) (.inr (.inr none)) s1
set_option maxRecDepth 20000 in
theorem eX0_copyLayersFrom (E : zE) (p0 : Nat) (p1 : Option Nat) (σ : zS) : zM tX0_copyLayersFrom 5 (0, 0) E [.inr (.inl (some p0)), .inr (.inl p1)] σ = fX0_copyLayersFrom E p0 p1 σ :=
  (zun_at (fun pc => (oX0_copyLayersFrom pc).1) E (fun q => Nat.beq q 6) 26 0 (0, 0) (zls0 [.inr (.inl (some p0)), .inr (.inl p1)] 5) [] σ).trans rfl
noncomputable def fX0_removeLayers (E : zE) (p0 : Nat) (σ : zS) : zO :=
  chk (zkd σ p0 = 0) <| zlt (zsi σ 2 p0 0) fun s1 =>
  some (none, s1)
set_option maxRecDepth 20000 in
theorem eX0_removeLayers (E : zE) (p0 : Nat) (σ : zS) : zM tX0_removeLayers 1 (0, 0) E [.inr (.inl (some p0))] σ = fX0_removeLayers E p0 σ :=
  (zun_at (fun pc => (oX0_removeLayers pc).1) E (fun _ => false) 5 0 (0, 0) (zls0 [.inr (.inl (some p0))] 1) [] σ).trans rfl
noncomputable def fX0_addFresh (E : zE) (p0 : Nat) (p1 : Int32) (p2 : Int32) (p3 : Int32) (σ : zS) : zO :=
  chk (zkd σ p0 = 0) <|
  bnR (E mX0_nextLayer [.inr (.inl (some p0))] σ) fun r2 s1 =>
  nul r2 (
    some (some (.inr (.inl r2)), s1)) (
    onR r2 fun a3 =>
    chk (zkd s1 a3 = 2) <|
    bnV (E mX3_startAs [.inr (.inl r2), .inl p1, .inl p2, .inl p3] s1) fun s4 =>
    some (some (.inr (.inl r2)), s4))
set_option maxRecDepth 20000 in
theorem eX0_addFresh (E : zE) (p0 : Nat) (p1 : Int32) (p2 : Int32) (p3 : Int32) (σ : zS) : zM tX0_addFresh 5 (0, 0) E [.inr (.inl (some p0)), .inl p1, .inl p2, .inl p3] σ = fX0_addFresh E p0 p1 p2 p3 σ :=
  (zun_at (fun pc => (oX0_addFresh pc).1) E (fun _ => false) 13 0 (0, 0) (zls0 [.inr (.inl (some p0)), .inl p1, .inl p2, .inl p3] 5) [] σ).trans rfl
noncomputable def LX0_addCopyAbove_18 (E : zE) (l0 : Nat) (l1 : Int32) (l2 : Option Nat) (k0 : Option Nat) (σ : zS) : zO := zF tX0_addCopyAbove E 18 (0, 0) [.inr (.inl (some l0)), .inl l1, .inr (.inl l2), .inr (.inr none)] [.inr (.inl k0)] σ
set_option maxRecDepth 20000 in
theorem uX0_addCopyAbove_18 (E : zE) (l0 : Nat) (l1 : Int32) (l2 : Option Nat) (k0 : Option Nat) (σ : zS) : LX0_addCopyAbove_18 E l0 l1 l2 k0 σ =
  (nul k0 (
    some (none, σ)) (
    onR k0 fun a1 =>
    chk (zkd σ a1 = 2) <|
    bnV (E mX3_copyFrom [.inr (.inl k0), .inr (.inl l2)] σ) fun s2 =>
    chk (zkd s2 l0 = 0) <|
    chk (zkd s2 l0 = 0) <|
    bnV (E mX0_shift [.inr (.inl (some l0)), .inl ((zi s2 2 l0) - 1), .inl (l1 + 1)] s2) fun s3 =>
    some (none, s3))) :=
  (zun_at (fun pc => (oX0_addCopyAbove pc).1) E (fun q => Nat.beq q 18) 27 18 (0, 0) [.inr (.inl (some l0)), .inl l1, .inr (.inl l2), .inr (.inr none)] [.inr (.inl k0)] σ).trans rfl
noncomputable def fX0_addCopyAbove (E : zE) (p0 : Nat) (p1 : Int32) (σ : zS) : zO :=
  chk (zkd σ p0 = 0) <|
  bnR (E mX0_layerAt [.inr (.inl (some p0)), .inl p1] σ) fun r2 s1 =>
  nul r2 (
    LX0_addCopyAbove_18 E p0 p1 r2 none s1) (
    chk (zkd s1 p0 = 0) <|
    bnR (E mX0_nextLayer [.inr (.inl (some p0))] s1) fun r4 s3 =>
    LX0_addCopyAbove_18 E p0 p1 r2 r4 s3)
set_option maxRecDepth 20000 in
theorem eX0_addCopyAbove (E : zE) (p0 : Nat) (p1 : Int32) (σ : zS) : zM tX0_addCopyAbove 4 (0, 0) E [.inr (.inl (some p0)), .inl p1] σ = fX0_addCopyAbove E p0 p1 σ :=
  (zun_at (fun pc => (oX0_addCopyAbove pc).1) E (fun q => Nat.beq q 18) 27 0 (0, 0) (zls0 [.inr (.inl (some p0)), .inl p1] 4) [] σ).trans rfl
noncomputable def fX0_takeOut (E : zE) (p0 : Nat) (p1 : Int32) (σ : zS) : zO :=
  chk (zkd σ p0 = 0) <|
  bnR (E mX0_layerAt [.inr (.inl (some p0)), .inl p1] σ) fun r2 s1 =>
  nul r2 (
    some (none, s1)) (
    chk (zkd s1 p0 = 0) <|
    chk (zkd s1 p0 = 0) <|
    bnV (E mX0_shift [.inr (.inl (some p0)), .inl p1, .inl ((zi s1 2 p0) - 1)] s1) fun s3 =>
    chk (zkd s3 p0 = 0) <|
    chk (zkd s3 p0 = 0) <| zlt (zsi s3 2 p0 ((zi s3 2 p0) - 1)) fun s4 =>
    some (none, s4))
set_option maxRecDepth 20000 in
theorem eX0_takeOut (E : zE) (p0 : Nat) (p1 : Int32) (σ : zS) : zM tX0_takeOut 2 (0, 0) E [.inr (.inl (some p0)), .inl p1] σ = fX0_takeOut E p0 p1 σ :=
  (zun_at (fun pc => (oX0_takeOut pc).1) E (fun _ => false) 19 0 (0, 0) (zls0 [.inr (.inl (some p0)), .inl p1] 2) [] σ).trans rfl
noncomputable def LX0_shift_22 (E : zE) (l0 : Nat) (l1 : Int32) (l2 : Int32) (l3 : Option Nat) (l4 : Int32) (σ : zS) : zO := zF tX0_shift E 22 (0, 0) [.inr (.inl (some l0)), .inl l1, .inl l2, .inr (.inl l3), .inl l4] [] σ
noncomputable def LX0_shift_53 (E : zE) (l0 : Nat) (l1 : zV) (l2 : Int32) (l3 : Option Nat) (l4 : Int32) (σ : zS) : zO := zF tX0_shift E 53 (0, 0) [.inr (.inl (some l0)), l1, .inl l2, .inr (.inl l3), .inl l4] [] σ
set_option maxRecDepth 20000 in
theorem uX0_shift_22 (E : zE) (l0 : Nat) (l1 : Int32) (l2 : Int32) (l3 : Option Nat) (l4 : Int32) (σ : zS) : LX0_shift_22 E l0 l1 l2 l3 l4 σ =
  (if (l4 : Int32) < l2 then
    chk (zkd σ l0 = 0) <|
    chk (zkd σ l0 = 0) <|
    onR (zr σ 1 l0) fun a1 =>
    chk (zkd σ a1 = 14 ∧ zin (l4 + 1) (zln σ a1)) <|
    onR (zar σ a1 (Int32.toNatClampNeg (l4 + 1))) fun a2 =>
    onR (zr σ 1 l0) fun a3 =>
    chk ((zkd σ a3 = 14 ∧ zin l4 (zln σ a3)) ∧ zkd σ a2 = 2) <| zlt (zsq σ a3 (Int32.toNatClampNeg l4) (some a2)) fun s4 =>
    zlt (α := Int32) (l4 + 1) fun v5 =>
    LX0_shift_22 E l0 l1 l2 l3 v5 s4
  else
    zlt (α := Int32) l1 fun v6 =>
    LX0_shift_53 E l0 (.inl l1) l2 l3 v6 σ) :=
  (zun_at (fun pc => (oX0_shift pc).1) E (fun q => Nat.beq q 22 || Nat.beq q 53) 52 22 (0, 0) [.inr (.inl (some l0)), .inl l1, .inl l2, .inr (.inl l3), .inl l4] [] σ).trans rfl
set_option maxRecDepth 20000 in
theorem uX0_shift_53 (E : zE) (l0 : Nat) (l1 : zV) (l2 : Int32) (l3 : Option Nat) (l4 : Int32) (σ : zS) : LX0_shift_53 E l0 l1 l2 l3 l4 σ =
  (if (l4 : Int32) ≤ l2 then
    chk (zkd σ l0 = 0) <|
    onR l3 fun a1 =>
    onR (zr σ 1 l0) fun a2 =>
    chk ((zkd σ a2 = 14 ∧ zin l2 (zln σ a2)) ∧ zkd σ a1 = 2) <| zlt (zsq σ a2 (Int32.toNatClampNeg l2) (some a1)) fun s3 =>
    some (none, s3)
  else
    chk (zkd σ l0 = 0) <|
    chk (zkd σ l0 = 0) <|
    onR (zr σ 1 l0) fun a4 =>
    chk (zkd σ a4 = 14 ∧ zin (l4 - 1) (zln σ a4)) <|
    onR (zar σ a4 (Int32.toNatClampNeg (l4 - 1))) fun a5 =>
    onR (zr σ 1 l0) fun a6 =>
    chk ((zkd σ a6 = 14 ∧ zin l4 (zln σ a6)) ∧ zkd σ a5 = 2) <| zlt (zsq σ a6 (Int32.toNatClampNeg l4) (some a5)) fun s7 =>
    zlt (α := Int32) (l4 + (-1)) fun v8 =>
    LX0_shift_53 E l0 (l1) l2 l3 v8 s7) :=
  (zun_at (fun pc => (oX0_shift pc).1) E (fun q => Nat.beq q 22 || Nat.beq q 53) 52 53 (0, 0) [.inr (.inl (some l0)), l1, .inl l2, .inr (.inl l3), .inl l4] [] σ).trans rfl
noncomputable def fX0_shift (E : zE) (p0 : Nat) (p1 : Int32) (p2 : Int32) (σ : zS) : zO :=
  chk (zkd σ p0 = 0) <|
  bnR (E mX0_layerAt [.inr (.inl (some p0)), .inl p1] σ) fun r2 s1 =>
  nul r2 (
    some (none, s1)) (
    chk (zkd s1 p0 = 0) <|
    bnR (E mX0_layerAt [.inr (.inl (some p0)), .inl p2] s1) fun r4 s3 =>
    nul r4 (
      some (none, s3)) (
      zlt (α := Int32) p1 fun v5 =>
      LX0_shift_22 E p0 p1 p2 r2 v5 s3))
set_option maxRecDepth 20000 in
theorem eX0_shift (E : zE) (p0 : Nat) (p1 : Int32) (p2 : Int32) (σ : zS) : zM tX0_shift 5 (0, 0) E [.inr (.inl (some p0)), .inl p1, .inl p2] σ = fX0_shift E p0 p1 p2 σ :=
  (zun_at (fun pc => (oX0_shift pc).1) E (fun q => Nat.beq q 22 || Nat.beq q 53) 52 0 (0, 0) (zls0 [.inr (.inl (some p0)), .inl p1, .inl p2] 5) [] σ).trans rfl
noncomputable def fX0_nextLayer (E : zE) (p0 : Nat) (σ : zS) : zO :=
  chk (zkd σ p0 = 0) <|
  bnI (E mX0_isFull [.inr (.inl (some p0))] σ) fun v2 s1 =>
  if (v2 : Int32) = 0 then
    chk (zkd s1 p0 = 0) <|
    chk (zkd s1 p0 = 0) <| zlt (zsi s1 2 p0 ((zi s1 2 p0) + 1)) fun s3 =>
    chk (zkd s3 p0 = 0) <|
    chk (zkd s3 p0 = 0) <|
    bnR (E mX0_layerAt [.inr (.inl (some p0)), .inl ((zi s3 2 p0) - 1)] s3) fun r5 s4 =>
    some (some (.inr (.inl r5)), s4)
  else
    some (some (.inr (.inl none)), s1)
set_option maxRecDepth 20000 in
theorem eX0_nextLayer (E : zE) (p0 : Nat) (σ : zS) : zM tX0_nextLayer 1 (0, 0) E [.inr (.inl (some p0))] σ = fX0_nextLayer E p0 σ :=
  (zun_at (fun pc => (oX0_nextLayer pc).1) E (fun _ => false) 19 0 (0, 0) (zls0 [.inr (.inl (some p0))] 1) [] σ).trans rfl
noncomputable def LX1_init_15 (E : zE) (l0 : Nat) (l1 : Int32) (b : Nat × Nat) (σ : zS) : zO := zF tX1_init E 15 b [.inr (.inl (some l0)), .inl l1] [] σ
set_option maxRecDepth 20000 in
theorem uX1_init_15 (E : zE) (l0 : Nat) (l1 : Int32) (b : Nat × Nat) (σ : zS) : LX1_init_15 E l0 l1 b σ =
  (chk (zkd σ l0 = 1) <|
  onR (zr σ 64 l0) fun a1 =>
  chk (zkd σ a1 = 13) <|
  if (l1 : Int32) < (Int32.ofNat (zln σ a1)) then
    chk (zkd σ l0 = 1) <|
    if 1 ≤ Prod.fst b ∧ 3 ≤ Prod.snd b then
      chk (zkd (zno σ 0) (znx σ) = 0) <|
      zgd (zfit (Prod.fst b - 1, Prod.snd b - 3) (27, 539) && true) <|
      bnV (E mX0_init [.inr (.inl (some (znx σ)))] (zno σ 0)) fun s2 =>
      onR (zr σ 64 l0) fun a3 =>
      chk ((zkd s2 a3 = 13 ∧ zin l1 (zln s2 a3)) ∧ zkd s2 (znx σ) = 0) <| zlt (zsq s2 a3 (Int32.toNatClampNeg l1) (some (znx σ))) fun s4 =>
      zlt (α := Int32) (l1 + 1) fun v5 =>
      LX1_init_15 E l0 v5 (Prod.fst (Prod.fst b - 1, Prod.snd b - 3) - 27, Prod.snd (Prod.fst b - 1, Prod.snd b - 3) - 539) s4
    else none
  else
    some (none, σ)) :=
  (zun_at (fun pc => (oX1_init pc).1) E (fun q => Nat.beq q 15) 24 15 b [.inr (.inl (some l0)), .inl l1] [] σ).trans rfl
noncomputable def fX1_init (E : zE) (p0 : Nat) (σ : zS) : zO :=
  chk (zkd (zna σ 13 6) p0 = 1) <| zlt (zsr (zna σ 13 6) 64 p0 (some (znx σ))) fun s1 =>
  zlt (α := Int32) 0 fun v2 =>
  LX1_init_15 E p0 v2 (168, 3252) s1
set_option maxRecDepth 20000 in
theorem eX1_init (E : zE) (p0 : Nat) (σ : zS) : zM tX1_init 2 (169, 3258) E [.inr (.inl (some p0))] σ = fX1_init E p0 σ :=
  (zun_at (fun pc => (oX1_init pc).1) E (fun q => Nat.beq q 15) 24 0 (169, 3258) (zls0 [.inr (.inl (some p0))] 2) [] σ).trans rfl
noncomputable def LX1_push_16 (E : zE) (l0 : Nat) (l1 : Option Nat) (σ : zS) : zO := zF tX1_push E 16 (0, 0) [.inr (.inl (some l0)), .inr (.inl l1), .inr (.inr none)] [] σ
set_option maxRecDepth 20000 in
theorem uX1_push_16 (E : zE) (l0 : Nat) (l1 : Option Nat) (σ : zS) : LX1_push_16 E l0 l1 σ =
  (chk (zkd σ l0 = 1) <|
  if ((zi σ 65 l0) : Int32) < 0 then
    some (none, σ)
  else
    chk (zkd σ l0 = 1) <|
    chk (zkd σ l0 = 1) <|
    onR (zr σ 64 l0) fun a1 =>
    chk (zkd σ a1 = 13) <|
    if ((zi σ 65 l0) : Int32) < (Int32.ofNat (zln σ a1)) then
      chk (zkd σ l0 = 1) <|
      chk (zkd σ l0 = 1) <|
      onR (zr σ 64 l0) fun a2 =>
      chk (zkd σ a2 = 13 ∧ zin (zi σ 65 l0) (zln σ a2)) <|
      nul (zar σ a2 (Int32.toNatClampNeg (zi σ 65 l0))) (
        some (none, σ)) (
        onR (zar σ a2 (Int32.toNatClampNeg (zi σ 65 l0))) fun a3 =>
        chk (zkd σ a3 = 0) <|
        bnV (E mX0_copyFrom [.inr (.inl (zar σ a2 (Int32.toNatClampNeg (zi σ 65 l0)))), .inr (.inl l1)] σ) fun s4 =>
        chk (zkd s4 l0 = 1) <|
        chk (zkd s4 l0 = 1) <| zlt (zsi s4 65 l0 ((zi s4 65 l0) + 1)) fun s5 =>
        some (none, s5))
    else
      some (none, σ)) :=
  (zun_at (fun pc => (oX1_push pc).1) E (fun q => Nat.beq q 16) 37 16 (0, 0) [.inr (.inl (some l0)), .inr (.inl l1), .inr (.inr none)] [] σ).trans rfl
noncomputable def fX1_push (E : zE) (p0 : Nat) (p1 : Option Nat) (σ : zS) : zO :=
  chk (zkd σ p0 = 1) <|
  chk (zkd σ p0 = 1) <|
  onR (zr σ 64 p0) fun a1 =>
  chk (zkd σ a1 = 13) <|
  if ((zi σ 65 p0) : Int32) < (Int32.ofNat (zln σ a1)) then
    LX1_push_16 E p0 p1 σ
  else
    chk (zkd σ p0 = 1) <|
    bnV (E mX1_discardOldest [.inr (.inl (some p0))] σ) fun s2 =>
    LX1_push_16 E p0 p1 s2
set_option maxRecDepth 20000 in
theorem eX1_push (E : zE) (p0 : Nat) (p1 : Option Nat) (σ : zS) : zM tX1_push 3 (0, 0) E [.inr (.inl (some p0)), .inr (.inl p1)] σ = fX1_push E p0 p1 σ :=
  (zun_at (fun pc => (oX1_push pc).1) E (fun q => Nat.beq q 16) 37 0 (0, 0) (zls0 [.inr (.inl (some p0)), .inr (.inl p1)] 3) [] σ).trans rfl
noncomputable def fX1_pop (E : zE) (p0 : Nat) (p1 : Option Nat) (σ : zS) : zO :=
  chk (zkd σ p0 = 1) <|
  if ((zi σ 65 p0) : Int32) ≤ 0 then
    some (none, σ)
  else
    chk (zkd σ p0 = 1) <|
    chk (zkd σ p0 = 1) <|
    onR (zr σ 64 p0) fun a1 =>
    chk (zkd σ a1 = 13) <|
    if ((zi σ 65 p0) : Int32) ≤ (Int32.ofNat (zln σ a1)) then
      chk (zkd σ p0 = 1) <|
      chk (zkd σ p0 = 1) <| zlt (zsi σ 65 p0 ((zi σ 65 p0) - 1)) fun s2 =>
      chk (zkd s2 p0 = 1) <|
      chk (zkd s2 p0 = 1) <|
      onR (zr s2 64 p0) fun a3 =>
      chk (zkd s2 a3 = 13 ∧ zin (zi s2 65 p0) (zln s2 a3)) <|
      nul (zar s2 a3 (Int32.toNatClampNeg (zi s2 65 p0))) (
        some (none, s2)) (
        onR p1 fun a4 =>
        chk (zkd s2 a4 = 0) <|
        bnV (E mX0_copyFrom [.inr (.inl p1), .inr (.inl (zar s2 a3 (Int32.toNatClampNeg (zi s2 65 p0))))] s2) fun s5 =>
        some (none, s5))
    else
      some (none, σ)
set_option maxRecDepth 20000 in
theorem eX1_pop (E : zE) (p0 : Nat) (p1 : Option Nat) (σ : zS) : zM tX1_pop 3 (0, 0) E [.inr (.inl (some p0)), .inr (.inl p1)] σ = fX1_pop E p0 p1 σ :=
  (zun_at (fun pc => (oX1_pop pc).1) E (fun _ => false) 29 0 (0, 0) (zls0 [.inr (.inl (some p0)), .inr (.inl p1)] 3) [] σ).trans rfl
noncomputable def LX1_discardOldest_9 (E : zE) (l0 : Nat) (l1 : Option Nat) (l2 : Int32) (σ : zS) : zO := zF tX1_discardOldest E 9 (0, 0) [.inr (.inl (some l0)), .inr (.inl l1), .inl l2] [] σ
set_option maxRecDepth 20000 in
theorem uX1_discardOldest_9 (E : zE) (l0 : Nat) (l1 : Option Nat) (l2 : Int32) (σ : zS) : LX1_discardOldest_9 E l0 l1 l2 σ =
  (chk (zkd σ l0 = 1) <|
  onR (zr σ 64 l0) fun a1 =>
  chk (zkd σ a1 = 13) <|
  if ((l2 + 1) : Int32) < (Int32.ofNat (zln σ a1)) then
    chk (zkd σ l0 = 1) <|
    chk (zkd σ l0 = 1) <|
    onR (zr σ 64 l0) fun a2 =>
    chk (zkd σ a2 = 13 ∧ zin (l2 + 1) (zln σ a2)) <|
    onR (zar σ a2 (Int32.toNatClampNeg (l2 + 1))) fun a3 =>
    onR (zr σ 64 l0) fun a4 =>
    chk ((zkd σ a4 = 13 ∧ zin l2 (zln σ a4)) ∧ zkd σ a3 = 0) <| zlt (zsq σ a4 (Int32.toNatClampNeg l2) (some a3)) fun s5 =>
    zlt (α := Int32) (l2 + 1) fun v6 =>
    LX1_discardOldest_9 E l0 l1 v6 s5
  else
    chk (zkd σ l0 = 1) <|
    chk (zkd σ l0 = 1) <|
    onR (zr σ 64 l0) fun a7 =>
    chk (zkd σ a7 = 13) <|
    onR l1 fun a8 =>
    onR (zr σ 64 l0) fun a9 =>
    chk ((zkd σ a9 = 13 ∧ zin ((Int32.ofNat (zln σ a7)) - 1) (zln σ a9)) ∧ zkd σ a8 = 0) <| zlt (zsq σ a9 (Int32.toNatClampNeg ((Int32.ofNat (zln σ a7)) - 1)) (some a8)) fun s10 =>
    chk (zkd s10 l0 = 1) <|
    chk (zkd s10 l0 = 1) <| zlt (zsi s10 65 l0 ((zi s10 65 l0) - 1)) fun s11 =>
    some (none, s11)) :=
  (zun_at (fun pc => (oX1_discardOldest pc).1) E (fun q => Nat.beq q 9) 43 9 (0, 0) [.inr (.inl (some l0)), .inr (.inl l1), .inl l2] [] σ).trans rfl
noncomputable def fX1_discardOldest (E : zE) (p0 : Nat) (σ : zS) : zO :=
  chk (zkd σ p0 = 1) <|
  onR (zr σ 64 p0) fun a1 =>
  chk (zkd σ a1 = 13 ∧ zin 0 (zln σ a1)) <|
  zlt (α := Int32) 0 fun v2 =>
  LX1_discardOldest_9 E p0 (zar σ a1 (Int32.toNatClampNeg 0)) v2 σ
set_option maxRecDepth 20000 in
theorem eX1_discardOldest (E : zE) (p0 : Nat) (σ : zS) : zM tX1_discardOldest 3 (0, 0) E [.inr (.inl (some p0))] σ = fX1_discardOldest E p0 σ :=
  (zun_at (fun pc => (oX1_discardOldest pc).1) E (fun q => Nat.beq q 9) 43 0 (0, 0) (zls0 [.inr (.inl (some p0))] 3) [] σ).trans rfl
noncomputable def fX2_allow (E : zE) (p0 : Int32) (p1 : Int32) (p2 : Int32) (σ : zS) : zO :=
  bnI (E mX10_within [.inl p0, .inl 0, .inl 13] σ) fun v2 s1 =>
  if (v2 : Int32) = 0 then
    chk (zB 0) (some (some (.inl 0), s1))
  else
    bnI (E mX2_lowestA [.inl p0] s1) fun v4 s3 =>
    bnI (E mX2_highestA [.inl p0] s3) fun v6 s5 =>
    bnI (E mX10_within [.inl p1, .inl v4, .inl v6] s5) fun v8 s7 =>
    if (v8 : Int32) = 0 then
      chk (zB 0) (some (some (.inl 0), s7))
    else
      bnI (E mX2_lowestB [.inl p0, .inl p1] s7) fun v10 s9 =>
      bnI (E mX2_highestB [.inl p0] s9) fun v12 s11 =>
      bnI (E mX10_within [.inl p2, .inl v10, .inl v12] s11) fun v14 s13 =>
      if (v14 : Int32) = 0 then
        chk (zB 0) (some (some (.inl 0), s13))
      else
        chk (zB 1) (some (some (.inl 1), s13))
set_option maxRecDepth 20000 in
theorem eX2_allow (E : zE) (p0 : Int32) (p1 : Int32) (p2 : Int32) (σ : zS) : zM tX2_allow 3 (0, 0) E [.inl p0, .inl p1, .inl p2] σ = fX2_allow E p0 p1 p2 σ :=
  (zun_at (fun pc => (oX2_allow pc).1) E (fun _ => false) 25 0 (0, 0) (zls0 [.inl p0, .inl p1, .inl p2] 3) [] σ).trans rfl
noncomputable def fX2_lowestA (E : zE) (p0 : Int32) (σ : zS) : zO :=
  onR (zr σ 640 1) fun a1 =>
  bnI (E mX2_entry [.inr (.inl (some a1)), .inl p0] σ) fun v3 s2 =>
  some (some (.inl v3), s2)
set_option maxRecDepth 20000 in
theorem eX2_lowestA (E : zE) (p0 : Int32) (σ : zS) : zM tX2_lowestA 1 (0, 0) E [.inl p0] σ = fX2_lowestA E p0 σ :=
  (zun_at (fun pc => (oX2_lowestA pc).1) E (fun _ => false) 5 0 (0, 0) (zls0 [.inl p0] 1) [] σ).trans rfl
noncomputable def fX2_highestA (E : zE) (p0 : Int32) (σ : zS) : zO :=
  onR (zr σ 640 2) fun a1 =>
  bnI (E mX2_entry [.inr (.inl (some a1)), .inl p0] σ) fun v3 s2 =>
  some (some (.inl v3), s2)
set_option maxRecDepth 20000 in
theorem eX2_highestA (E : zE) (p0 : Int32) (σ : zS) : zM tX2_highestA 1 (0, 0) E [.inl p0] σ = fX2_highestA E p0 σ :=
  (zun_at (fun pc => (oX2_highestA pc).1) E (fun _ => false) 5 0 (0, 0) (zls0 [.inl p0] 1) [] σ).trans rfl
noncomputable def fX2_lowestB (E : zE) (p0 : Int32) (p1 : Int32) (σ : zS) : zO :=
  if (p0 : Int32) = 0 then
    some (some (.inl (p1 + 1)), σ)
  else
    onR (zr σ 640 3) fun a1 =>
    bnI (E mX2_entry [.inr (.inl (some a1)), .inl p0] σ) fun v3 s2 =>
    some (some (.inl v3), s2)
set_option maxRecDepth 20000 in
theorem eX2_lowestB (E : zE) (p0 : Int32) (p1 : Int32) (σ : zS) : zM tX2_lowestB 2 (0, 0) E [.inl p0, .inl p1] σ = fX2_lowestB E p0 p1 σ :=
  (zun_at (fun pc => (oX2_lowestB pc).1) E (fun _ => false) 11 0 (0, 0) (zls0 [.inl p0, .inl p1] 2) [] σ).trans rfl
noncomputable def fX2_highestB (E : zE) (p0 : Int32) (σ : zS) : zO :=
  onR (zr σ 640 4) fun a1 =>
  bnI (E mX2_entry [.inr (.inl (some a1)), .inl p0] σ) fun v3 s2 =>
  some (some (.inl v3), s2)
set_option maxRecDepth 20000 in
theorem eX2_highestB (E : zE) (p0 : Int32) (σ : zS) : zM tX2_highestB 1 (0, 0) E [.inl p0] σ = fX2_highestB E p0 σ :=
  (zun_at (fun pc => (oX2_highestB pc).1) E (fun _ => false) 5 0 (0, 0) (zls0 [.inl p0] 1) [] σ).trans rfl
noncomputable def fX2_entry (E : zE) (p0 : Option Nat) (p1 : Int32) (σ : zS) : zO :=
  if (p1 : Int32) < 0 then
    some (some (.inl 0), σ)
  else
    onR p0 fun a1 =>
    chk (zkd σ a1 = 16) <|
    if (p1 : Int32) < (Int32.ofNat (zln σ a1)) then
      onR p0 fun a2 =>
      chk (zkd σ a2 = 16 ∧ zin p1 (zln σ a2)) <|
      some (some (.inl (zai σ a2 (Int32.toNatClampNeg p1))), σ)
    else
      some (some (.inl 0), σ)
set_option maxRecDepth 20000 in
theorem eX2_entry (E : zE) (p0 : Option Nat) (p1 : Int32) (σ : zS) : zM tX2_entry 2 (0, 0) E [.inr (.inl p0), .inl p1] σ = fX2_entry E p0 p1 σ :=
  (zun_at (fun pc => (oX2_entry pc).1) E (fun _ => false) 13 0 (0, 0) (zls0 [.inr (.inl p0), .inl p1] 2) [] σ).trans rfl
noncomputable def fX3_init (E : zE) (p0 : Nat) (σ : zS) : zO :=
  chk (zkd (zno σ 3) (znx σ) = 3) <|
  bnV (E mX4_init [.inr (.inl (some (znx σ)))] (zno σ 3)) fun s1 =>
  chk (zkd s1 p0 = 2) <| zlt (zsr s1 134 p0 (some (znx σ))) fun s2 =>
  some (none, s2)
set_option maxRecDepth 20000 in
theorem eX3_init (E : zE) (p0 : Nat) (σ : zS) : zM tX3_init 1 (2, 27) E [.inr (.inl (some p0))] σ = fX3_init E p0 σ :=
  (zun_at (fun pc => (oX3_init pc).1) E (fun _ => false) 9 0 (2, 27) (zls0 [.inr (.inl (some p0))] 1) [] σ).trans rfl
noncomputable def fX3_startAs (E : zE) (p0 : Nat) (p1 : Int32) (p2 : Int32) (p3 : Int32) (σ : zS) : zO :=
  chk (zkd σ p0 = 2) <| zlt (zsi σ 128 p0 p1) fun s1 =>
  chk (zkd s1 p0 = 2) <| zlt (zsi s1 129 p0 p2) fun s2 =>
  chk (zkd s2 p0 = 2) <| zlt (zsi s2 130 p0 p3) fun s3 =>
  chk (zkd s3 p0 = 2) <| zlt (zsi s3 131 p0 0) fun s4 =>
  chk (zkd s4 p0 = 2) <| zlt (zsi s4 132 p0 100) fun s5 =>
  chk (zkd s5 p0 = 2 ∧ zB 1) <| zlt (zsi s5 133 p0 1) fun s6 =>
  chk (zkd s6 p0 = 2) <|
  onR (zr s6 134 p0) fun a7 =>
  chk (zkd s6 a7 = 3) <|
  bnV (E mX4_startAnew [.inr (.inl (zr s6 134 p0))] s6) fun s8 =>
  some (none, s8)
set_option maxRecDepth 20000 in
theorem eX3_startAs (E : zE) (p0 : Nat) (p1 : Int32) (p2 : Int32) (p3 : Int32) (σ : zS) : zM tX3_startAs 4 (0, 0) E [.inr (.inl (some p0)), .inl p1, .inl p2, .inl p3] σ = fX3_startAs E p0 p1 p2 p3 σ :=
  (zun_at (fun pc => (oX3_startAs pc).1) E (fun _ => false) 23 0 (0, 0) (zls0 [.inr (.inl (some p0)), .inl p1, .inl p2, .inl p3] 4) [] σ).trans rfl
noncomputable def fX3_copyFrom (E : zE) (p0 : Nat) (p1 : Option Nat) (σ : zS) : zO :=
  onR p1 fun a1 =>
  chk (zkd σ a1 = 2) <|
  chk (zkd σ p0 = 2) <| zlt (zsi σ 128 p0 (zi σ 128 a1)) fun s2 =>
  onR p1 fun a3 =>
  chk (zkd s2 a3 = 2) <|
  chk (zkd s2 p0 = 2) <| zlt (zsi s2 129 p0 (zi s2 129 a3)) fun s4 =>
  onR p1 fun a5 =>
  chk (zkd s4 a5 = 2) <|
  chk (zkd s4 p0 = 2) <| zlt (zsi s4 130 p0 (zi s4 130 a5)) fun s6 =>
  onR p1 fun a7 =>
  chk (zkd s6 a7 = 2) <|
  chk (zkd s6 p0 = 2) <| zlt (zsi s6 131 p0 (zi s6 131 a7)) fun s8 =>
  onR p1 fun a9 =>
  chk (zkd s8 a9 = 2) <|
  chk (zkd s8 p0 = 2) <| zlt (zsi s8 132 p0 (zi s8 132 a9)) fun s10 =>
  onR p1 fun a11 =>
  chk (zkd s10 a11 = 2) <|
  chk (zkd s10 p0 = 2 ∧ zB (zi s10 133 a11)) <| zlt (zsi s10 133 p0 (zi s10 133 a11)) fun s12 =>
  chk (zkd s12 p0 = 2) <|
  onR p1 fun a13 =>
  chk (zkd s12 a13 = 2) <|
  onR (zr s12 134 p0) fun a14 =>
  chk (zkd s12 a14 = 3) <|
  bnV (E mX4_copyFrom [.inr (.inl (zr s12 134 p0)), .inr (.inl (zr s12 134 a13))] s12) fun s15 =>
  some (none, s15)
set_option maxRecDepth 20000 in
theorem eX3_copyFrom (E : zE) (p0 : Nat) (p1 : Option Nat) (σ : zS) : zM tX3_copyFrom 2 (0, 0) E [.inr (.inl (some p0)), .inr (.inl p1)] σ = fX3_copyFrom E p0 p1 σ :=
  (zun_at (fun pc => (oX3_copyFrom pc).1) E (fun _ => false) 31 0 (0, 0) (zls0 [.inr (.inl (some p0)), .inr (.inl p1)] 2) [] σ).trans rfl
noncomputable def fX3_seesNeighbourhood (E : zE) (p0 : Nat) (σ : zS) : zO :=
  chk (zkd σ p0 = 2) <|
  bnI (E mX10_within [.inl (zi σ 128 p0), .inl 6, .inl 10] σ) fun v2 s1 =>
  chk (zB v2) (some (some (.inl v2), s1))
set_option maxRecDepth 20000 in
theorem eX3_seesNeighbourhood (E : zE) (p0 : Nat) (σ : zS) : zM tX3_seesNeighbourhood 1 (0, 0) E [.inr (.inl (some p0))] σ = fX3_seesNeighbourhood E p0 σ :=
  (zun_at (fun pc => (oX3_seesNeighbourhood pc).1) E (fun _ => false) 7 0 (0, 0) (zls0 [.inr (.inl (some p0))] 1) [] σ).trans rfl
noncomputable def fX3_reach (E : zE) (p0 : Nat) (σ : zS) : zO :=
  chk (zkd σ p0 = 2) <|
  bnI (E mX3_seesNeighbourhood [.inr (.inl (some p0))] σ) fun v2 s1 =>
  if (v2 : Int32) = 0 then
    chk (zkd s1 p0 = 2) <|
    if ((zi s1 128 p0) : Int32) = 11 then
      chk (zkd s1 p0 = 2) <|
      bnI (E mJ9_abs_0f7a4 [.inl (zi s1 129 p0)] s1) fun v4 s3 =>
      chk (zkd s3 p0 = 2) <|
      bnI (E mJ9_abs_0f7a4 [.inl (zi s3 130 p0)] s3) fun v6 s5 =>
      bnI (E mJ9_max_7cf53 [.inl v4, .inl v6] s5) fun v8 s7 =>
      some (some (.inl v8), s7)
    else
      chk (zkd s1 p0 = 2) <|
      if ((zi s1 128 p0) : Int32) = 13 then
        some (some (.inl 16), s1)
      else
        some (some (.inl 0), s1)
  else
    chk (zkd s1 p0 = 2) <|
    some (some (.inl (zi s1 129 p0)), s1)
set_option maxRecDepth 20000 in
theorem eX3_reach (E : zE) (p0 : Nat) (σ : zS) : zM tX3_reach 1 (0, 0) E [.inr (.inl (some p0))] σ = fX3_reach E p0 σ :=
  (zun_at (fun pc => (oX3_reach pc).1) E (fun _ => false) 27 0 (0, 0) (zls0 [.inr (.inl (some p0))] 1) [] σ).trans rfl
noncomputable def fX4_init (E : zE) (p0 : Nat) (σ : zS) : zO :=
  chk (zkd (zna σ 11 18) p0 = 3) <| zlt (zsr (zna σ 11 18) 200 p0 (some (znx σ))) fun s1 =>
  some (none, s1)
set_option maxRecDepth 20000 in
theorem eX4_init (E : zE) (p0 : Nat) (σ : zS) : zM tX4_init 1 (1, 18) E [.inr (.inl (some p0))] σ = fX4_init E p0 σ :=
  (zun_at (fun pc => (oX4_init pc).1) E (fun _ => false) 8 0 (1, 18) (zls0 [.inr (.inl (some p0))] 1) [] σ).trans rfl
noncomputable def fX4_allows (E : zE) (p0 : Int32) (p1 : Int32) (p2 : Int32) (p3 : Int32) (p4 : Int32) (σ : zS) : zO :=
  if (p0 : Int32) = 0 then
    if (p1 : Int32) = 0 then
      if (p2 : Int32) = 0 then
        if (p3 : Int32) = 0 then
          if (p4 : Int32) = 0 then
            chk (zB 1) (some (some (.inl 1), σ))
          else
            chk (zB 0) (some (some (.inl 0), σ))
        else
          chk (zB 0) (some (some (.inl 0), σ))
      else
        chk (zB 0) (some (some (.inl 0), σ))
    else
      chk (zB 0) (some (some (.inl 0), σ))
  else if (p0 : Int32) = 1 then
    bnI (E mX10_within [.inl p1, .inl 0, .inl 15] σ) fun v2 s1 =>
    if (v2 : Int32) = 0 then
      chk (zB 0) (some (some (.inl 0), s1))
    else
      bnI (E mX10_within [.inl p3, .inl p1, .inl 15] s1) fun v4 s3 =>
      if (v4 : Int32) = 0 then
        chk (zB 0) (some (some (.inl 0), s3))
      else
        bnI (E mX10_within [.inl p2, .inl 0, .inl 15] s3) fun v6 s5 =>
        if (v6 : Int32) = 0 then
          chk (zB 0) (some (some (.inl 0), s5))
        else
          bnI (E mX10_within [.inl p4, .inl p2, .inl 15] s5) fun v8 s7 =>
          if (v8 : Int32) = 0 then
            chk (zB 0) (some (some (.inl 0), s7))
          else
            chk (zB 1) (some (some (.inl 1), s7))
  else if (p0 : Int32) = 2 then
    bnI (E mX10_within [.inl p1, .inl 0, .inl 14] σ) fun v10 s9 =>
    if (v10 : Int32) = 0 then
      chk (zB 0) (some (some (.inl 0), s9))
    else
      bnI (E mX10_within [.inl p3, .inl (p1 + 1), .inl 15] s9) fun v12 s11 =>
      if (v12 : Int32) = 0 then
        chk (zB 0) (some (some (.inl 0), s11))
      else
        if (p2 : Int32) = 0 then
          if (p4 : Int32) = 0 then
            chk (zB 1) (some (some (.inl 1), s11))
          else
            chk (zB 0) (some (some (.inl 0), s11))
        else
          chk (zB 0) (some (some (.inl 0), s11))
  else if (p0 : Int32) = 3 then
    if (p1 : Int32) = 0 then
      if (p2 : Int32) = 0 then
        if (p3 : Int32) = 0 then
          if (p4 : Int32) = 0 then
            chk (zB 1) (some (some (.inl 1), σ))
          else
            chk (zB 0) (some (some (.inl 0), σ))
        else
          chk (zB 0) (some (some (.inl 0), σ))
      else
        chk (zB 0) (some (some (.inl 0), σ))
    else
      chk (zB 0) (some (some (.inl 0), σ))
  else if (p0 : Int32) = 4 then
    if (p1 : Int32) = 0 then
      if (p2 : Int32) = 0 then
        if (p3 : Int32) = 0 then
          if (p4 : Int32) = 0 then
            chk (zB 1) (some (some (.inl 1), σ))
          else
            chk (zB 0) (some (some (.inl 0), σ))
        else
          chk (zB 0) (some (some (.inl 0), σ))
      else
        chk (zB 0) (some (some (.inl 0), σ))
    else
      chk (zB 0) (some (some (.inl 0), σ))
  else 
    chk (zB 0) (some (some (.inl 0), σ))
set_option maxRecDepth 20000 in
theorem eX4_allows (E : zE) (p0 : Int32) (p1 : Int32) (p2 : Int32) (p3 : Int32) (p4 : Int32) (σ : zS) : zM tX4_allows 5 (0, 0) E [.inl p0, .inl p1, .inl p2, .inl p3, .inl p4] σ = fX4_allows E p0 p1 p2 p3 p4 σ :=
  (zun_at (fun pc => (oX4_allows pc).1) E (fun _ => false) 61 0 (0, 0) (zls0 [.inl p0, .inl p1, .inl p2, .inl p3, .inl p4] 5) [] σ).trans rfl
noncomputable def fX4_define (E : zE) (p0 : Nat) (p1 : Int32) (p2 : Int32) (p3 : Int32) (p4 : Int32) (p5 : Int32) (σ : zS) : zO :=
  chk (zkd σ p0 = 3) <| zlt (zsi σ 192 p0 p1) fun s1 =>
  chk (zkd s1 p0 = 3) <| zlt (zsi s1 193 p0 p2) fun s2 =>
  chk (zkd s2 p0 = 3) <| zlt (zsi s2 194 p0 p3) fun s3 =>
  chk (zkd s3 p0 = 3) <| zlt (zsi s3 195 p0 p4) fun s4 =>
  chk (zkd s4 p0 = 3) <| zlt (zsi s4 196 p0 p5) fun s5 =>
  some (none, s5)
set_option maxRecDepth 20000 in
theorem eX4_define (E : zE) (p0 : Nat) (p1 : Int32) (p2 : Int32) (p3 : Int32) (p4 : Int32) (p5 : Int32) (σ : zS) : zM tX4_define 6 (0, 0) E [.inr (.inl (some p0)), .inl p1, .inl p2, .inl p3, .inl p4, .inl p5] σ = fX4_define E p0 p1 p2 p3 p4 p5 σ :=
  (zun_at (fun pc => (oX4_define pc).1) E (fun _ => false) 17 0 (0, 0) (zls0 [.inr (.inl (some p0)), .inl p1, .inl p2, .inl p3, .inl p4, .inl p5] 6) [] σ).trans rfl
noncomputable def fX4_startAnew (E : zE) (p0 : Nat) (σ : zS) : zO :=
  chk (zkd σ p0 = 3) <|
  bnV (E mX4_define [.inr (.inl (some p0)), .inl 0, .inl 0, .inl 0, .inl 0, .inl 0] σ) fun s1 =>
  chk (zkd s1 p0 = 3) <| zlt (zsi s1 197 p0 0) fun s2 =>
  chk (zkd s2 p0 = 3 ∧ zB 0) <| zlt (zsi s2 198 p0 0) fun s3 =>
  chk (zkd s3 p0 = 3) <| zlt (zsi s3 199 p0 0) fun s4 =>
  some (none, s4)
set_option maxRecDepth 20000 in
theorem eX4_startAnew (E : zE) (p0 : Nat) (σ : zS) : zM tX4_startAnew 1 (0, 0) E [.inr (.inl (some p0))] σ = fX4_startAnew E p0 σ :=
  (zun_at (fun pc => (oX4_startAnew pc).1) E (fun _ => false) 18 0 (0, 0) (zls0 [.inr (.inl (some p0))] 1) [] σ).trans rfl
noncomputable def LX4_copyFrom_50 (E : zE) (l0 : Nat) (l1 : Option Nat) (l2 : Int32) (σ : zS) : zO := zF tX4_copyFrom E 50 (0, 0) [.inr (.inl (some l0)), .inr (.inl l1), .inl l2] [] σ
set_option maxRecDepth 20000 in
theorem uX4_copyFrom_50 (E : zE) (l0 : Nat) (l1 : Option Nat) (l2 : Int32) (σ : zS) : LX4_copyFrom_50 E l0 l1 l2 σ =
  (chk (zkd σ l0 = 3) <|
  onR (zr σ 200 l0) fun a1 =>
  chk (zkd σ a1 = 11) <|
  if (l2 : Int32) < (Int32.ofNat (zln σ a1)) then
    onR l1 fun a2 =>
    chk (zkd σ a2 = 3) <|
    onR (zr σ 200 a2) fun a3 =>
    chk (zkd σ a3 = 11) <|
    if (l2 : Int32) < (Int32.ofNat (zln σ a3)) then
      chk (zkd σ l0 = 3) <|
      onR l1 fun a4 =>
      chk (zkd σ a4 = 3) <|
      onR (zr σ 200 a4) fun a5 =>
      chk (zkd σ a5 = 11 ∧ zin l2 (zln σ a5)) <|
      onR (zr σ 200 l0) fun a6 =>
      chk (zkd σ a6 = 11 ∧ zin l2 (zln σ a6)) <| zlt (zsa σ a6 (Int32.toNatClampNeg l2) (zai σ a5 (Int32.toNatClampNeg l2))) fun s7 =>
      zlt (α := Int32) (l2 + 1) fun v8 =>
      LX4_copyFrom_50 E l0 l1 v8 s7
    else
      some (none, σ)
  else
    some (none, σ)) :=
  (zun_at (fun pc => (oX4_copyFrom pc).1) E (fun q => Nat.beq q 50) 48 50 (0, 0) [.inr (.inl (some l0)), .inr (.inl l1), .inl l2] [] σ).trans rfl
noncomputable def fX4_copyFrom (E : zE) (p0 : Nat) (p1 : Option Nat) (σ : zS) : zO :=
  onR p1 fun a1 =>
  chk (zkd σ a1 = 3) <|
  onR p1 fun a2 =>
  chk (zkd σ a2 = 3) <|
  onR p1 fun a3 =>
  chk (zkd σ a3 = 3) <|
  onR p1 fun a4 =>
  chk (zkd σ a4 = 3) <|
  onR p1 fun a5 =>
  chk (zkd σ a5 = 3) <|
  chk (zkd σ p0 = 3) <|
  bnV (E mX4_define [.inr (.inl (some p0)), .inl (zi σ 192 a1), .inl (zi σ 193 a2), .inl (zi σ 194 a3), .inl (zi σ 195 a4), .inl (zi σ 196 a5)] σ) fun s6 =>
  onR p1 fun a7 =>
  chk (zkd s6 a7 = 3) <|
  chk (zkd s6 p0 = 3) <| zlt (zsi s6 197 p0 (zi s6 197 a7)) fun s8 =>
  onR p1 fun a9 =>
  chk (zkd s8 a9 = 3) <|
  chk (zkd s8 p0 = 3 ∧ zB (zi s8 198 a9)) <| zlt (zsi s8 198 p0 (zi s8 198 a9)) fun s10 =>
  onR p1 fun a11 =>
  chk (zkd s10 a11 = 3) <|
  chk (zkd s10 p0 = 3) <| zlt (zsi s10 199 p0 (zi s10 199 a11)) fun s12 =>
  zlt (α := Int32) 0 fun v13 =>
  LX4_copyFrom_50 E p0 p1 v13 s12
set_option maxRecDepth 20000 in
theorem eX4_copyFrom (E : zE) (p0 : Nat) (p1 : Option Nat) (σ : zS) : zM tX4_copyFrom 3 (0, 0) E [.inr (.inl (some p0)), .inr (.inl p1)] σ = fX4_copyFrom E p0 p1 σ :=
  (zun_at (fun pc => (oX4_copyFrom pc).1) E (fun q => Nat.beq q 50) 48 0 (0, 0) (zls0 [.inr (.inl (some p0)), .inr (.inl p1)] 3) [] σ).trans rfl
noncomputable def fX4_addDab (E : zE) (p0 : Nat) (p1 : Int32) (p2 : Int32) (p3 : Int32) (σ : zS) : zO :=
  chk (zkd σ p0 = 3) <|
  zlt (α := Int32) (3 * (zi σ 199 p0)) fun v1 =>
  if (v1 : Int32) < 0 then
    some (none, σ)
  else
    chk (zkd σ p0 = 3) <|
    onR (zr σ 200 p0) fun a2 =>
    chk (zkd σ a2 = 11) <|
    if ((v1 + 2) : Int32) < (Int32.ofNat (zln σ a2)) then
      chk (zkd σ p0 = 3) <|
      onR (zr σ 200 p0) fun a3 =>
      chk (zkd σ a3 = 11 ∧ zin v1 (zln σ a3)) <| zlt (zsa σ a3 (Int32.toNatClampNeg v1) p1) fun s4 =>
      chk (zkd s4 p0 = 3) <|
      onR (zr s4 200 p0) fun a5 =>
      chk (zkd s4 a5 = 11 ∧ zin (v1 + 1) (zln s4 a5)) <| zlt (zsa s4 a5 (Int32.toNatClampNeg (v1 + 1)) p2) fun s6 =>
      chk (zkd s6 p0 = 3) <|
      onR (zr s6 200 p0) fun a7 =>
      chk (zkd s6 a7 = 11 ∧ zin (v1 + 2) (zln s6 a7)) <| zlt (zsa s6 a7 (Int32.toNatClampNeg (v1 + 2)) p3) fun s8 =>
      chk (zkd s8 p0 = 3) <|
      chk (zkd s8 p0 = 3) <| zlt (zsi s8 199 p0 ((zi s8 199 p0) + 1)) fun s9 =>
      some (none, s9)
    else
      some (none, σ)
set_option maxRecDepth 20000 in
theorem eX4_addDab (E : zE) (p0 : Nat) (p1 : Int32) (p2 : Int32) (p3 : Int32) (σ : zS) : zM tX4_addDab 5 (0, 0) E [.inr (.inl (some p0)), .inl p1, .inl p2, .inl p3] σ = fX4_addDab E p0 p1 p2 p3 σ :=
  (zun_at (fun pc => (oX4_addDab pc).1) E (fun _ => false) 42 0 (0, 0) (zls0 [.inr (.inl (some p0)), .inl p1, .inl p2, .inl p3] 5) [] σ).trans rfl
noncomputable def LX4_weightAt_80 (E : zE) (l0 : Nat) (l1 : zV) (l2 : zV) (l3 : zV) (l4 : zV) (k0 : Int32) (σ : zS) : zO := zF tX4_weightAt E 80 (0, 0) [.inr (.inl (some l0)), l1, l2, l3, l4] [.inl k0] σ
set_option maxRecDepth 20000 in
theorem uX4_weightAt_80 (E : zE) (l0 : Nat) (l1 : zV) (l2 : zV) (l3 : zV) (l4 : zV) (k0 : Int32) (σ : zS) : LX4_weightAt_80 E l0 l1 l2 l3 l4 k0 σ =
  (zlt (α := Int32) k0 fun v1 =>
  chk (zkd σ l0 = 3) <|
  if ((zi σ 198 l0) : Int32) = 0 then
    some (some (.inl v1), σ)
  else
    some (some (.inl (255 - v1)), σ)) :=
  (zun_at (fun pc => (oX4_weightAt pc).1) E (fun q => Nat.beq q 80) 51 80 (0, 0) [.inr (.inl (some l0)), l1, l2, l3, l4] [.inl k0] σ).trans rfl
noncomputable def fX4_weightAt (E : zE) (p0 : Nat) (p1 : Int32) (p2 : Int32) (p3 : Int32) (σ : zS) : zO :=
  zlt (α := Int32) 255 fun v1 =>
  chk (zkd σ p0 = 3) <|
  if ((zi σ 192 p0) : Int32) = 1 then
    chk (zkd σ p0 = 3) <|
    bnI (E mX4_rectangleWeightAt [.inr (.inl (some p0)), .inl p1, .inl p2] σ) fun v3 s2 =>
    zlt (α := Int32) v3 fun v4 =>
    chk (zkd s2 p0 = 3) <|
    if ((zi s2 198 p0) : Int32) = 0 then
      some (some (.inl v4), s2)
    else
      some (some (.inl (255 - v4)), s2)
  else
    chk (zkd σ p0 = 3) <|
    if ((zi σ 192 p0) : Int32) = 2 then
      chk (zkd σ p0 = 3) <|
      bnI (E mX4_gradientWeightAt [.inr (.inl (some p0)), .inl p1] σ) fun v6 s5 =>
      zlt (α := Int32) v6 fun v7 =>
      chk (zkd s5 p0 = 3) <|
      if ((zi s5 198 p0) : Int32) = 0 then
        some (some (.inl v7), s5)
      else
        some (some (.inl (255 - v7)), s5)
    else
      chk (zkd σ p0 = 3) <|
      if ((zi σ 192 p0) : Int32) = 3 then
        zlt (α := Int32) p3 fun v8 =>
        chk (zkd σ p0 = 3) <|
        if ((zi σ 198 p0) : Int32) = 0 then
          some (some (.inl v8), σ)
        else
          some (some (.inl (255 - v8)), σ)
      else
        chk (zkd σ p0 = 3) <|
        if ((zi σ 192 p0) : Int32) = 4 then
          chk (zkd σ p0 = 3) <|
          bnI (E mX4_isDabbed [.inr (.inl (some p0)), .inl p1, .inl p2] σ) fun v10 s9 =>
          if (v10 : Int32) = 0 then
            LX4_weightAt_80 E p0 (.inl p1) (.inl p2) (.inl p3) (.inl v1) 0 s9
          else
            LX4_weightAt_80 E p0 (.inl p1) (.inl p2) (.inl p3) (.inl v1) 255 s9
        else
          chk (zkd σ p0 = 3) <|
          if ((zi σ 198 p0) : Int32) = 0 then
            some (some (.inl v1), σ)
          else
            some (some (.inl (255 - v1)), σ)
set_option maxRecDepth 20000 in
theorem eX4_weightAt (E : zE) (p0 : Nat) (p1 : Int32) (p2 : Int32) (p3 : Int32) (σ : zS) : zM tX4_weightAt 5 (0, 0) E [.inr (.inl (some p0)), .inl p1, .inl p2, .inl p3] σ = fX4_weightAt E p0 p1 p2 p3 σ :=
  (zun_at (fun pc => (oX4_weightAt pc).1) E (fun q => Nat.beq q 80) 51 0 (0, 0) (zls0 [.inr (.inl (some p0)), .inl p1, .inl p2, .inl p3] 5) [] σ).trans rfl
noncomputable def fX4_rectangleWeightAt (E : zE) (p0 : Nat) (p1 : Int32) (p2 : Int32) (σ : zS) : zO :=
  chk (zkd σ p0 = 3) <|
  chk (zkd σ p0 = 3) <|
  bnI (E mJ9_max_7cf53 [.inl ((zi σ 193 p0) - p1), .inl (p1 - (zi σ 195 p0))] σ) fun v2 s1 =>
  zlt (α := Int32) v2 fun v3 =>
  chk (zkd s1 p0 = 3) <|
  chk (zkd s1 p0 = 3) <|
  bnI (E mJ9_max_7cf53 [.inl ((zi s1 194 p0) - p2), .inl (p2 - (zi s1 196 p0))] s1) fun v5 s4 =>
  zlt (α := Int32) v5 fun v6 =>
  bnI (E mJ9_max_7cf53 [.inl v3, .inl v6] s4) fun v8 s7 =>
  bnI (E mJ9_max_7cf53 [.inl 0, .inl v8] s7) fun v10 s9 =>
  zlt (α := Int32) v10 fun v11 =>
  chk (zkd s9 p0 = 3) <|
  zlt (α := Int32) ((zi s9 197 p0) + 1) fun v12 =>
  if (v12 : Int32) ≤ 0 then
    some (some (.inl 0), s9)
  else
    if (v11 : Int32) < v12 then
      if (v12 : Int32) = 0 then none else
      some (some (.inl ((255 * (v12 - v11)) / v12)), s9)
    else
      some (some (.inl 0), s9)
set_option maxRecDepth 20000 in
theorem eX4_rectangleWeightAt (E : zE) (p0 : Nat) (p1 : Int32) (p2 : Int32) (σ : zS) : zM tX4_rectangleWeightAt 7 (0, 0) E [.inr (.inl (some p0)), .inl p1, .inl p2] σ = fX4_rectangleWeightAt E p0 p1 p2 σ :=
  (zun_at (fun pc => (oX4_rectangleWeightAt pc).1) E (fun _ => false) 47 0 (0, 0) (zls0 [.inr (.inl (some p0)), .inl p1, .inl p2] 7) [] σ).trans rfl
noncomputable def fX4_gradientWeightAt (E : zE) (p0 : Nat) (p1 : Int32) (σ : zS) : zO :=
  chk (zkd σ p0 = 3) <|
  if (p1 : Int32) ≤ (zi σ 193 p0) then
    some (some (.inl 0), σ)
  else
    chk (zkd σ p0 = 3) <|
    chk (zkd σ p0 = 3) <|
    zlt (α := Int32) ((zi σ 195 p0) - (zi σ 193 p0)) fun v1 =>
    chk (zkd σ p0 = 3) <|
    if (p1 : Int32) < (zi σ 195 p0) then
      if (v1 : Int32) ≤ 0 then
        some (some (.inl 255), σ)
      else
        chk (zkd σ p0 = 3) <|
        if (v1 : Int32) = 0 then none else
        some (some (.inl ((255 * (p1 - (zi σ 193 p0))) / v1)), σ)
    else
      some (some (.inl 255), σ)
set_option maxRecDepth 20000 in
theorem eX4_gradientWeightAt (E : zE) (p0 : Nat) (p1 : Int32) (σ : zS) : zM tX4_gradientWeightAt 3 (0, 0) E [.inr (.inl (some p0)), .inl p1] σ = fX4_gradientWeightAt E p0 p1 σ :=
  (zun_at (fun pc => (oX4_gradientWeightAt pc).1) E (fun _ => false) 30 0 (0, 0) (zls0 [.inr (.inl (some p0)), .inl p1] 3) [] σ).trans rfl
noncomputable def LX4_isDabbed_10 (E : zE) (l0 : Nat) (l1 : Int32) (l2 : Int32) (l3 : Int32) (l4 : Int32) (l5 : zV) (l6 : zV) (l7 : zV) (σ : zS) : zO := zF tX4_isDabbed E 10 (0, 0) [.inr (.inl (some l0)), .inl l1, .inl l2, .inl l3, .inl l4, l5, l6, l7] [] σ
set_option maxRecDepth 20000 in
theorem uX4_isDabbed_10 (E : zE) (l0 : Nat) (l1 : Int32) (l2 : Int32) (l3 : Int32) (l4 : Int32) (l5 : zV) (l6 : zV) (l7 : zV) (σ : zS) : LX4_isDabbed_10 E l0 l1 l2 l3 l4 l5 l6 l7 σ =
  (chk (zkd σ l0 = 3) <|
  onR (zr σ 200 l0) fun a1 =>
  chk (zkd σ a1 = 11) <|
  if ((l4 + 2) : Int32) < (Int32.ofNat (zln σ a1)) then
    if (l4 : Int32) < l3 then
      chk (zkd σ l0 = 3) <|
      onR (zr σ 200 l0) fun a2 =>
      chk (zkd σ a2 = 11 ∧ zin l4 (zln σ a2)) <|
      zlt (α := Int32) (l1 - (zai σ a2 (Int32.toNatClampNeg l4))) fun v3 =>
      chk (zkd σ l0 = 3) <|
      onR (zr σ 200 l0) fun a4 =>
      chk (zkd σ a4 = 11 ∧ zin (l4 + 1) (zln σ a4)) <|
      zlt (α := Int32) (l2 - (zai σ a4 (Int32.toNatClampNeg (l4 + 1)))) fun v5 =>
      chk (zkd σ l0 = 3) <|
      onR (zr σ 200 l0) fun a6 =>
      chk (zkd σ a6 = 11 ∧ zin (l4 + 2) (zln σ a6)) <|
      zlt (α := Int32) (zai σ a6 (Int32.toNatClampNeg (l4 + 2))) fun v7 =>
      if (((v3 * v3) + (v5 * v5)) : Int32) ≤ (v7 * v7) then
        chk (zB 1) (some (some (.inl 1), σ))
      else
        zlt (α := Int32) (l4 + 3) fun v8 =>
        LX4_isDabbed_10 E l0 l1 l2 l3 v8 (.inl v3) (.inl v5) (.inl v7) σ
    else
      chk (zB 0) (some (some (.inl 0), σ))
  else
    chk (zB 0) (some (some (.inl 0), σ))) :=
  (zun_at (fun pc => (oX4_isDabbed pc).1) E (fun q => Nat.beq q 10) 58 10 (0, 0) [.inr (.inl (some l0)), .inl l1, .inl l2, .inl l3, .inl l4, l5, l6, l7] [] σ).trans rfl
noncomputable def fX4_isDabbed (E : zE) (p0 : Nat) (p1 : Int32) (p2 : Int32) (σ : zS) : zO :=
  chk (zkd σ p0 = 3) <|
  zlt (α := Int32) (3 * (zi σ 199 p0)) fun v1 =>
  zlt (α := Int32) 0 fun v2 =>
  LX4_isDabbed_10 E p0 p1 p2 v1 v2 (.inr (.inr none)) (.inr (.inr none)) (.inr (.inr none)) σ
set_option maxRecDepth 20000 in
theorem eX4_isDabbed (E : zE) (p0 : Nat) (p1 : Int32) (p2 : Int32) (σ : zS) : zM tX4_isDabbed 8 (0, 0) E [.inr (.inl (some p0)), .inl p1, .inl p2] σ = fX4_isDabbed E p0 p1 p2 σ :=
  (zun_at (fun pc => (oX4_isDabbed pc).1) E (fun q => Nat.beq q 10) 58 0 (0, 0) (zls0 [.inr (.inl (some p0)), .inl p1, .inl p2] 8) [] σ).trans rfl
noncomputable def fX5_blended (E : zE) (p0 : Int32) (p1 : Int32) (p2 : Int32) (σ : zS) : zO :=
  if (p0 : Int32) = 1 then
    bnI (E mX10_divided [.inl (p1 * p2), .inl 255] σ) fun v2 s1 =>
    some (some (.inl v2), s1)
  else if (p0 : Int32) = 2 then
    bnI (E mX10_divided [.inl ((255 - p1) * (255 - p2)), .inl 255] σ) fun v4 s3 =>
    some (some (.inl (255 - v4)), s3)
  else if (p0 : Int32) = 3 then
    bnI (E mJ9_max_7cf53 [.inl p1, .inl p2] σ) fun v6 s5 =>
    some (some (.inl v6), s5)
  else if (p0 : Int32) = 4 then
    bnI (E mJ9_min_7cf53 [.inl p1, .inl p2] σ) fun v8 s7 =>
    some (some (.inl v8), s7)
  else if (p0 : Int32) = 5 then
    bnI (E mJ9_abs_0f7a4 [.inl (p1 - p2)] σ) fun v10 s9 =>
    some (some (.inl v10), s9)
  else if (p0 : Int32) = 6 then
    bnI (E mX10_clamped [.inl (p1 + p2)] σ) fun v12 s11 =>
    some (some (.inl v12), s11)
  else if (p0 : Int32) = 7 then
    bnI (E mX10_clamped [.inl (p1 - p2)] σ) fun v14 s13 =>
    some (some (.inl v14), s13)
  else 
    some (some (.inl p2), σ)
set_option maxRecDepth 20000 in
theorem eX5_blended (E : zE) (p0 : Int32) (p1 : Int32) (p2 : Int32) (σ : zS) : zM tX5_blended 3 (0, 0) E [.inl p0, .inl p1, .inl p2] σ = fX5_blended E p0 p1 p2 σ :=
  (zun_at (fun pc => (oX5_blended pc).1) E (fun _ => false) 46 0 (0, 0) (zls0 [.inl p0, .inl p1, .inl p2] 3) [] σ).trans rfl
noncomputable def fX6_init (E : zE) (p0 : Nat) (σ : zS) : zO :=
  chk (zkd (zna σ 11 256) p0 = 4) <| zlt (zsr (zna σ 11 256) 256 p0 (some (znx σ))) fun s1 =>
  some (none, s1)
set_option maxRecDepth 20000 in
theorem eX6_init (E : zE) (p0 : Nat) (σ : zS) : zM tX6_init 1 (1, 256) E [.inr (.inl (some p0))] σ = fX6_init E p0 σ :=
  (zun_at (fun pc => (oX6_init pc).1) E (fun _ => false) 8 0 (1, 256) (zls0 [.inr (.inl (some p0))] 1) [] σ).trans rfl
noncomputable def LX6_startAs_12 (E : zE) (l0 : Nat) (l1 : zV) (l2 : zV) (l3 : Int32) (l4 : zV) (σ : zS) : zO := zF tX6_startAs E 12 (0, 0) [.inr (.inl (some l0)), l1, l2, .inl l3, l4] [] σ
noncomputable def LX6_startAs_23 (E : zE) (l0 : Nat) (l1 : zV) (l2 : zV) (l3 : Int32) (l4 : Int32) (σ : zS) : zO := zF tX6_startAs E 23 (0, 0) [.inr (.inl (some l0)), l1, l2, .inl l3, .inl l4] [] σ
set_option maxRecDepth 20000 in
theorem uX6_startAs_12 (E : zE) (l0 : Nat) (l1 : zV) (l2 : zV) (l3 : Int32) (l4 : zV) (σ : zS) : LX6_startAs_12 E l0 l1 l2 l3 l4 σ =
  (chk (zkd σ l0 = 4) <|
  if (l3 : Int32) < (zi σ 258 l0) then
    zlt (α := Int32) 0 fun v1 =>
    LX6_startAs_23 E l0 (l1) (l2) l3 v1 σ
  else
    some (none, σ)) :=
  (zun_at (fun pc => (oX6_startAs pc).1) E (fun q => Nat.beq q 12 || Nat.beq q 23) 37 12 (0, 0) [.inr (.inl (some l0)), l1, l2, .inl l3, l4] [] σ).trans rfl
set_option maxRecDepth 20000 in
theorem uX6_startAs_23 (E : zE) (l0 : Nat) (l1 : zV) (l2 : zV) (l3 : Int32) (l4 : Int32) (σ : zS) : LX6_startAs_23 E l0 l1 l2 l3 l4 σ =
  (chk (zkd σ l0 = 4) <|
  if (l4 : Int32) < (zi σ 257 l0) then
    chk (zkd σ l0 = 4) <|
    bnV (E mX6_put [.inr (.inl (some l0)), .inl l4, .inl l3, .inl (((17 * l4) + (29 * l3)) &&& 255)] σ) fun s1 =>
    zlt (α := Int32) (l4 + 1) fun v2 =>
    LX6_startAs_23 E l0 (l1) (l2) l3 v2 s1
  else
    zlt (α := Int32) (l3 + 1) fun v3 =>
    LX6_startAs_12 E l0 (l1) (l2) v3 (.inl l4) σ) :=
  (zun_at (fun pc => (oX6_startAs pc).1) E (fun q => Nat.beq q 12 || Nat.beq q 23) 37 23 (0, 0) [.inr (.inl (some l0)), l1, l2, .inl l3, .inl l4] [] σ).trans rfl
noncomputable def fX6_startAs (E : zE) (p0 : Nat) (p1 : Int32) (p2 : Int32) (σ : zS) : zO :=
  chk (zkd σ p0 = 4) <| zlt (zsi σ 257 p0 p1) fun s1 =>
  chk (zkd s1 p0 = 4) <| zlt (zsi s1 258 p0 p2) fun s2 =>
  zlt (α := Int32) 0 fun v3 =>
  LX6_startAs_12 E p0 (.inl p1) (.inl p2) v3 (.inr (.inr none)) s2
set_option maxRecDepth 20000 in
theorem eX6_startAs (E : zE) (p0 : Nat) (p1 : Int32) (p2 : Int32) (σ : zS) : zM tX6_startAs 5 (0, 0) E [.inr (.inl (some p0)), .inl p1, .inl p2] σ = fX6_startAs E p0 p1 p2 σ :=
  (zun_at (fun pc => (oX6_startAs pc).1) E (fun q => Nat.beq q 12 || Nat.beq q 23) 37 0 (0, 0) (zls0 [.inr (.inl (some p0)), .inl p1, .inl p2] 5) [] σ).trans rfl
noncomputable def fX6_contains (E : zE) (p0 : Nat) (p1 : Int32) (p2 : Int32) (σ : zS) : zO :=
  if (p1 : Int32) < 0 then
    chk (zB 0) (some (some (.inl 0), σ))
  else
    chk (zkd σ p0 = 4) <|
    if (p1 : Int32) < (zi σ 257 p0) then
      if (p2 : Int32) < 0 then
        chk (zB 0) (some (some (.inl 0), σ))
      else
        chk (zkd σ p0 = 4) <|
        if (p2 : Int32) < (zi σ 258 p0) then
          chk (zB 1) (some (some (.inl 1), σ))
        else
          chk (zB 0) (some (some (.inl 0), σ))
    else
      chk (zB 0) (some (some (.inl 0), σ))
set_option maxRecDepth 20000 in
theorem eX6_contains (E : zE) (p0 : Nat) (p1 : Int32) (p2 : Int32) (σ : zS) : zM tX6_contains 3 (0, 0) E [.inr (.inl (some p0)), .inl p1, .inl p2] σ = fX6_contains E p0 p1 p2 σ :=
  (zun_at (fun pc => (oX6_contains pc).1) E (fun _ => false) 17 0 (0, 0) (zls0 [.inr (.inl (some p0)), .inl p1, .inl p2] 3) [] σ).trans rfl
noncomputable def fX6_at (E : zE) (p0 : Nat) (p1 : Int32) (p2 : Int32) (σ : zS) : zO :=
  zlt (α := Int32) ((p2 * 16) + p1) fun v1 =>
  if (v1 : Int32) < 0 then
    some (some (.inl 0), σ)
  else
    chk (zkd σ p0 = 4) <|
    onR (zr σ 256 p0) fun a2 =>
    chk (zkd σ a2 = 11) <|
    if (v1 : Int32) < (Int32.ofNat (zln σ a2)) then
      chk (zkd σ p0 = 4) <|
      onR (zr σ 256 p0) fun a3 =>
      chk (zkd σ a3 = 11 ∧ zin v1 (zln σ a3)) <|
      some (some (.inl (zai σ a3 (Int32.toNatClampNeg v1))), σ)
    else
      some (some (.inl 0), σ)
set_option maxRecDepth 20000 in
theorem eX6_at (E : zE) (p0 : Nat) (p1 : Int32) (p2 : Int32) (σ : zS) : zM tX6_at 4 (0, 0) E [.inr (.inl (some p0)), .inl p1, .inl p2] σ = fX6_at E p0 p1 p2 σ :=
  (zun_at (fun pc => (oX6_at pc).1) E (fun _ => false) 21 0 (0, 0) (zls0 [.inr (.inl (some p0)), .inl p1, .inl p2] 4) [] σ).trans rfl
noncomputable def fX6_atNearest (E : zE) (p0 : Nat) (p1 : Int32) (p2 : Int32) (σ : zS) : zO :=
  chk (zkd σ p0 = 4) <|
  bnI (E mJ9_min_7cf53 [.inl p1, .inl ((zi σ 257 p0) - 1)] σ) fun v2 s1 =>
  bnI (E mJ9_max_7cf53 [.inl 0, .inl v2] s1) fun v4 s3 =>
  chk (zkd s3 p0 = 4) <|
  bnI (E mJ9_min_7cf53 [.inl p2, .inl ((zi s3 258 p0) - 1)] s3) fun v6 s5 =>
  bnI (E mJ9_max_7cf53 [.inl 0, .inl v6] s5) fun v8 s7 =>
  chk (zkd s7 p0 = 4) <|
  bnI (E mX6_at [.inr (.inl (some p0)), .inl v4, .inl v8] s7) fun v10 s9 =>
  some (some (.inl v10), s9)
set_option maxRecDepth 20000 in
theorem eX6_atNearest (E : zE) (p0 : Nat) (p1 : Int32) (p2 : Int32) (σ : zS) : zM tX6_atNearest 3 (0, 0) E [.inr (.inl (some p0)), .inl p1, .inl p2] σ = fX6_atNearest E p0 p1 p2 σ :=
  (zun_at (fun pc => (oX6_atNearest pc).1) E (fun _ => false) 20 0 (0, 0) (zls0 [.inr (.inl (some p0)), .inl p1, .inl p2] 3) [] σ).trans rfl
noncomputable def fX6_put (E : zE) (p0 : Nat) (p1 : Int32) (p2 : Int32) (p3 : Int32) (σ : zS) : zO :=
  zlt (α := Int32) ((p2 * 16) + p1) fun v1 =>
  if (v1 : Int32) < 0 then
    some (none, σ)
  else
    chk (zkd σ p0 = 4) <|
    onR (zr σ 256 p0) fun a2 =>
    chk (zkd σ a2 = 11) <|
    if (v1 : Int32) < (Int32.ofNat (zln σ a2)) then
      chk (zkd σ p0 = 4) <|
      onR (zr σ 256 p0) fun a3 =>
      chk (zkd σ a3 = 11 ∧ zin v1 (zln σ a3)) <| zlt (zsa σ a3 (Int32.toNatClampNeg v1) p3) fun s4 =>
      some (none, s4)
    else
      some (none, σ)
set_option maxRecDepth 20000 in
theorem eX6_put (E : zE) (p0 : Nat) (p1 : Int32) (p2 : Int32) (p3 : Int32) (σ : zS) : zM tX6_put 5 (0, 0) E [.inr (.inl (some p0)), .inl p1, .inl p2, .inl p3] σ = fX6_put E p0 p1 p2 p3 σ :=
  (zun_at (fun pc => (oX6_put pc).1) E (fun _ => false) 20 0 (0, 0) (zls0 [.inr (.inl (some p0)), .inl p1, .inl p2, .inl p3] 5) [] σ).trans rfl
noncomputable def LX6_copyFrom_7 (E : zE) (l0 : Nat) (l1 : Option Nat) (l2 : Int32) (l3 : zV) (σ : zS) : zO := zF tX6_copyFrom E 7 (0, 0) [.inr (.inl (some l0)), .inr (.inl l1), .inl l2, l3] [] σ
noncomputable def LX6_copyFrom_17 (E : zE) (l0 : Nat) (l1 : Option Nat) (l2 : Int32) (l3 : Int32) (σ : zS) : zO := zF tX6_copyFrom E 17 (0, 0) [.inr (.inl (some l0)), .inr (.inl l1), .inl l2, .inl l3] [] σ
set_option maxRecDepth 20000 in
theorem uX6_copyFrom_7 (E : zE) (l0 : Nat) (l1 : Option Nat) (l2 : Int32) (l3 : zV) (σ : zS) : LX6_copyFrom_7 E l0 l1 l2 l3 σ =
  (chk (zkd σ l0 = 4) <|
  if (l2 : Int32) < (zi σ 258 l0) then
    zlt (α := Int32) 0 fun v1 =>
    LX6_copyFrom_17 E l0 l1 l2 v1 σ
  else
    some (none, σ)) :=
  (zun_at (fun pc => (oX6_copyFrom pc).1) E (fun q => Nat.beq q 7 || Nat.beq q 17) 29 7 (0, 0) [.inr (.inl (some l0)), .inr (.inl l1), .inl l2, l3] [] σ).trans rfl
set_option maxRecDepth 20000 in
theorem uX6_copyFrom_17 (E : zE) (l0 : Nat) (l1 : Option Nat) (l2 : Int32) (l3 : Int32) (σ : zS) : LX6_copyFrom_17 E l0 l1 l2 l3 σ =
  (chk (zkd σ l0 = 4) <|
  if (l3 : Int32) < (zi σ 257 l0) then
    onR l1 fun a1 =>
    chk (zkd σ a1 = 4) <|
    bnI (E mX6_at [.inr (.inl l1), .inl l3, .inl l2] σ) fun v3 s2 =>
    chk (zkd s2 l0 = 4) <|
    bnV (E mX6_put [.inr (.inl (some l0)), .inl l3, .inl l2, .inl v3] s2) fun s4 =>
    zlt (α := Int32) (l3 + 1) fun v5 =>
    LX6_copyFrom_17 E l0 l1 l2 v5 s4
  else
    zlt (α := Int32) (l2 + 1) fun v6 =>
    LX6_copyFrom_7 E l0 l1 v6 (.inl l3) σ) :=
  (zun_at (fun pc => (oX6_copyFrom pc).1) E (fun q => Nat.beq q 7 || Nat.beq q 17) 29 17 (0, 0) [.inr (.inl (some l0)), .inr (.inl l1), .inl l2, .inl l3] [] σ).trans rfl
noncomputable def fX6_copyFrom (E : zE) (p0 : Nat) (p1 : Option Nat) (σ : zS) : zO :=
  chk (zkd σ p0 = 4) <|
  bnV (E mX6_takeSizeOf [.inr (.inl (some p0)), .inr (.inl p1)] σ) fun s1 =>
  zlt (α := Int32) 0 fun v2 =>
  LX6_copyFrom_7 E p0 p1 v2 (.inr (.inr none)) s1
set_option maxRecDepth 20000 in
theorem eX6_copyFrom (E : zE) (p0 : Nat) (p1 : Option Nat) (σ : zS) : zM tX6_copyFrom 4 (0, 0) E [.inr (.inl (some p0)), .inr (.inl p1)] σ = fX6_copyFrom E p0 p1 σ :=
  (zun_at (fun pc => (oX6_copyFrom pc).1) E (fun q => Nat.beq q 7 || Nat.beq q 17) 29 0 (0, 0) (zls0 [.inr (.inl (some p0)), .inr (.inl p1)] 4) [] σ).trans rfl
noncomputable def fX6_takeSizeOf (E : zE) (p0 : Nat) (p1 : Option Nat) (σ : zS) : zO :=
  onR p1 fun a1 =>
  chk (zkd σ a1 = 4) <|
  chk (zkd σ p0 = 4) <| zlt (zsi σ 257 p0 (zi σ 257 a1)) fun s2 =>
  onR p1 fun a3 =>
  chk (zkd s2 a3 = 4) <|
  chk (zkd s2 p0 = 4) <| zlt (zsi s2 258 p0 (zi s2 258 a3)) fun s4 =>
  some (none, s4)
set_option maxRecDepth 20000 in
theorem eX6_takeSizeOf (E : zE) (p0 : Nat) (p1 : Option Nat) (σ : zS) : zM tX6_takeSizeOf 2 (0, 0) E [.inr (.inl (some p0)), .inr (.inl p1)] σ = fX6_takeSizeOf E p0 p1 σ :=
  (zun_at (fun pc => (oX6_takeSizeOf pc).1) E (fun _ => false) 10 0 (0, 0) (zls0 [.inr (.inl (some p0)), .inr (.inl p1)] 2) [] σ).trans rfl
noncomputable def fX6_hasSizeOf (E : zE) (p0 : Nat) (p1 : Option Nat) (σ : zS) : zO :=
  chk (zkd σ p0 = 4) <|
  onR p1 fun a1 =>
  chk (zkd σ a1 = 4) <|
  if ((zi σ 257 p0) : Int32) = (zi σ 257 a1) then
    chk (zkd σ p0 = 4) <|
    onR p1 fun a2 =>
    chk (zkd σ a2 = 4) <|
    if ((zi σ 258 p0) : Int32) = (zi σ 258 a2) then
      chk (zB 1) (some (some (.inl 1), σ))
    else
      chk (zB 0) (some (some (.inl 0), σ))
  else
    chk (zB 0) (some (some (.inl 0), σ))
set_option maxRecDepth 20000 in
theorem eX6_hasSizeOf (E : zE) (p0 : Nat) (p1 : Option Nat) (σ : zS) : zM tX6_hasSizeOf 2 (0, 0) E [.inr (.inl (some p0)), .inr (.inl p1)] σ = fX6_hasSizeOf E p0 p1 σ :=
  (zun_at (fun pc => (oX6_hasSizeOf pc).1) E (fun _ => false) 15 0 (0, 0) (zls0 [.inr (.inl (some p0)), .inr (.inl p1)] 2) [] σ).trans rfl
noncomputable def LX6_absoluteDifference_4 (E : zE) (l0 : Nat) (l1 : Option Nat) (l2 : Int32) (l3 : Int32) (l4 : zV) (σ : zS) : zO := zF tX6_absoluteDifference E 4 (0, 0) [.inr (.inl (some l0)), .inr (.inl l1), .inl l2, .inl l3, l4] [] σ
noncomputable def LX6_absoluteDifference_15 (E : zE) (l0 : Nat) (l1 : Option Nat) (l2 : Int32) (l3 : Int32) (l4 : Int32) (σ : zS) : zO := zF tX6_absoluteDifference E 15 (0, 0) [.inr (.inl (some l0)), .inr (.inl l1), .inl l2, .inl l3, .inl l4] [] σ
set_option maxRecDepth 20000 in
theorem uX6_absoluteDifference_4 (E : zE) (l0 : Nat) (l1 : Option Nat) (l2 : Int32) (l3 : Int32) (l4 : zV) (σ : zS) : LX6_absoluteDifference_4 E l0 l1 l2 l3 l4 σ =
  (chk (zkd σ l0 = 4) <|
  if (l3 : Int32) < (zi σ 258 l0) then
    zlt (α := Int32) 0 fun v1 =>
    LX6_absoluteDifference_15 E l0 l1 l2 l3 v1 σ
  else
    some (some (.inl l2), σ)) :=
  (zun_at (fun pc => (oX6_absoluteDifference pc).1) E (fun q => Nat.beq q 4 || Nat.beq q 15) 34 4 (0, 0) [.inr (.inl (some l0)), .inr (.inl l1), .inl l2, .inl l3, l4] [] σ).trans rfl
set_option maxRecDepth 20000 in
theorem uX6_absoluteDifference_15 (E : zE) (l0 : Nat) (l1 : Option Nat) (l2 : Int32) (l3 : Int32) (l4 : Int32) (σ : zS) : LX6_absoluteDifference_15 E l0 l1 l2 l3 l4 σ =
  (chk (zkd σ l0 = 4) <|
  if (l4 : Int32) < (zi σ 257 l0) then
    chk (zkd σ l0 = 4) <|
    bnI (E mX6_at [.inr (.inl (some l0)), .inl l4, .inl l3] σ) fun v2 s1 =>
    onR l1 fun a3 =>
    chk (zkd s1 a3 = 4) <|
    bnI (E mX6_at [.inr (.inl l1), .inl l4, .inl l3] s1) fun v5 s4 =>
    bnI (E mJ9_abs_0f7a4 [.inl (v2 - v5)] s4) fun v7 s6 =>
    zlt (α := Int32) (l2 + v7) fun v8 =>
    zlt (α := Int32) (l4 + 1) fun v9 =>
    LX6_absoluteDifference_15 E l0 l1 v8 l3 v9 s6
  else
    zlt (α := Int32) (l3 + 1) fun v10 =>
    LX6_absoluteDifference_4 E l0 l1 l2 v10 (.inl l4) σ) :=
  (zun_at (fun pc => (oX6_absoluteDifference pc).1) E (fun q => Nat.beq q 4 || Nat.beq q 15) 34 15 (0, 0) [.inr (.inl (some l0)), .inr (.inl l1), .inl l2, .inl l3, .inl l4] [] σ).trans rfl
noncomputable def fX6_absoluteDifference (E : zE) (p0 : Nat) (p1 : Option Nat) (σ : zS) : zO :=
  zlt (α := Int32) 0 fun v1 =>
  zlt (α := Int32) 0 fun v2 =>
  LX6_absoluteDifference_4 E p0 p1 v1 v2 (.inr (.inr none)) σ
set_option maxRecDepth 20000 in
theorem eX6_absoluteDifference (E : zE) (p0 : Nat) (p1 : Option Nat) (σ : zS) : zM tX6_absoluteDifference 5 (0, 0) E [.inr (.inl (some p0)), .inr (.inl p1)] σ = fX6_absoluteDifference E p0 p1 σ :=
  (zun_at (fun pc => (oX6_absoluteDifference pc).1) E (fun q => Nat.beq q 4 || Nat.beq q 15) 34 0 (0, 0) (zls0 [.inr (.inl (some p0)), .inr (.inl p1)] 5) [] σ).trans rfl
noncomputable def LX6_differingPixels_4 (E : zE) (l0 : Nat) (l1 : Option Nat) (l2 : Int32) (l3 : Int32) (l4 : zV) (σ : zS) : zO := zF tX6_differingPixels E 4 (0, 0) [.inr (.inl (some l0)), .inr (.inl l1), .inl l2, .inl l3, l4] [] σ
noncomputable def LX6_differingPixels_15 (E : zE) (l0 : Nat) (l1 : Option Nat) (l2 : Int32) (l3 : Int32) (l4 : Int32) (σ : zS) : zO := zF tX6_differingPixels E 15 (0, 0) [.inr (.inl (some l0)), .inr (.inl l1), .inl l2, .inl l3, .inl l4] [] σ
set_option maxRecDepth 20000 in
theorem uX6_differingPixels_4 (E : zE) (l0 : Nat) (l1 : Option Nat) (l2 : Int32) (l3 : Int32) (l4 : zV) (σ : zS) : LX6_differingPixels_4 E l0 l1 l2 l3 l4 σ =
  (chk (zkd σ l0 = 4) <|
  if (l3 : Int32) < (zi σ 258 l0) then
    zlt (α := Int32) 0 fun v1 =>
    LX6_differingPixels_15 E l0 l1 l2 l3 v1 σ
  else
    some (some (.inl l2), σ)) :=
  (zun_at (fun pc => (oX6_differingPixels pc).1) E (fun q => Nat.beq q 4 || Nat.beq q 15) 31 4 (0, 0) [.inr (.inl (some l0)), .inr (.inl l1), .inl l2, .inl l3, l4] [] σ).trans rfl
set_option maxRecDepth 20000 in
theorem uX6_differingPixels_15 (E : zE) (l0 : Nat) (l1 : Option Nat) (l2 : Int32) (l3 : Int32) (l4 : Int32) (σ : zS) : LX6_differingPixels_15 E l0 l1 l2 l3 l4 σ =
  (chk (zkd σ l0 = 4) <|
  if (l4 : Int32) < (zi σ 257 l0) then
    chk (zkd σ l0 = 4) <|
    bnI (E mX6_at [.inr (.inl (some l0)), .inl l4, .inl l3] σ) fun v2 s1 =>
    onR l1 fun a3 =>
    chk (zkd s1 a3 = 4) <|
    bnI (E mX6_at [.inr (.inl l1), .inl l4, .inl l3] s1) fun v5 s4 =>
    if (v2 : Int32) = v5 then
      zlt (α := Int32) (l4 + 1) fun v6 =>
      LX6_differingPixels_15 E l0 l1 l2 l3 v6 s4
    else
      zlt (α := Int32) (l2 + 1) fun v7 =>
      zlt (α := Int32) (l4 + 1) fun v8 =>
      LX6_differingPixels_15 E l0 l1 v7 l3 v8 s4
  else
    zlt (α := Int32) (l3 + 1) fun v9 =>
    LX6_differingPixels_4 E l0 l1 l2 v9 (.inl l4) σ) :=
  (zun_at (fun pc => (oX6_differingPixels pc).1) E (fun q => Nat.beq q 4 || Nat.beq q 15) 31 15 (0, 0) [.inr (.inl (some l0)), .inr (.inl l1), .inl l2, .inl l3, .inl l4] [] σ).trans rfl
noncomputable def fX6_differingPixels (E : zE) (p0 : Nat) (p1 : Option Nat) (σ : zS) : zO :=
  zlt (α := Int32) 0 fun v1 =>
  zlt (α := Int32) 0 fun v2 =>
  LX6_differingPixels_4 E p0 p1 v1 v2 (.inr (.inr none)) σ
set_option maxRecDepth 20000 in
theorem eX6_differingPixels (E : zE) (p0 : Nat) (p1 : Option Nat) (σ : zS) : zM tX6_differingPixels 5 (0, 0) E [.inr (.inl (some p0)), .inr (.inl p1)] σ = fX6_differingPixels E p0 p1 σ :=
  (zun_at (fun pc => (oX6_differingPixels pc).1) E (fun q => Nat.beq q 4 || Nat.beq q 15) 31 0 (0, 0) (zls0 [.inr (.inl (some p0)), .inr (.inl p1)] 5) [] σ).trans rfl
noncomputable def fJ9_floorDiv_7cf53 (E : zE) (p0 : Int32) (p1 : Int32) (σ : zS) : zO :=
  if (p1 : Int32) = 0 then none else
  zlt (α := Int32) (p0 / p1) fun v1 =>
  if ((p0 ^^^ p1) : Int32) < 0 then
    if ((v1 * p1) : Int32) = p0 then
      some (some (.inl v1), σ)
    else
      some (some (.inl (v1 - 1)), σ)
  else
    some (some (.inl v1), σ)
set_option maxRecDepth 20000 in
theorem eJ9_floorDiv_7cf53 (E : zE) (p0 : Int32) (p1 : Int32) (σ : zS) : zM tJ9_floorDiv_7cf53 3 (0, 0) E [.inl p0, .inl p1] σ = fJ9_floorDiv_7cf53 E p0 p1 σ :=
  (zun_at (fun pc => (oJ9_floorDiv_7cf53 pc).1) E (fun _ => false) 20 0 (0, 0) (zls0 [.inl p0, .inl p1] 3) [] σ).trans rfl
noncomputable def fJ9_abs_0f7a4 (E : zE) (p0 : Int32) (σ : zS) : zO :=
  if (p0 : Int32) < 0 then
    some (some (.inl (-p0)), σ)
  else
    some (some (.inl p0), σ)
set_option maxRecDepth 20000 in
theorem eJ9_abs_0f7a4 (E : zE) (p0 : Int32) (σ : zS) : zM tJ9_abs_0f7a4 1 (0, 0) E [.inl p0] σ = fJ9_abs_0f7a4 E p0 σ :=
  (zun_at (fun pc => (oJ9_abs_0f7a4 pc).1) E (fun _ => false) 8 0 (0, 0) (zls0 [.inl p0] 1) [] σ).trans rfl
noncomputable def fJ9_max_7cf53 (E : zE) (p0 : Int32) (p1 : Int32) (σ : zS) : zO :=
  if (p0 : Int32) < p1 then
    some (some (.inl p1), σ)
  else
    some (some (.inl p0), σ)
set_option maxRecDepth 20000 in
theorem eJ9_max_7cf53 (E : zE) (p0 : Int32) (p1 : Int32) (σ : zS) : zM tJ9_max_7cf53 2 (0, 0) E [.inl p0, .inl p1] σ = fJ9_max_7cf53 E p0 p1 σ :=
  (zun_at (fun pc => (oJ9_max_7cf53 pc).1) E (fun _ => false) 8 0 (0, 0) (zls0 [.inl p0, .inl p1] 2) [] σ).trans rfl
noncomputable def fJ9_min_7cf53 (E : zE) (p0 : Int32) (p1 : Int32) (σ : zS) : zO :=
  if (p0 : Int32) ≤ p1 then
    some (some (.inl p0), σ)
  else
    some (some (.inl p1), σ)
set_option maxRecDepth 20000 in
theorem eJ9_min_7cf53 (E : zE) (p0 : Int32) (p1 : Int32) (σ : zS) : zM tJ9_min_7cf53 2 (0, 0) E [.inl p0, .inl p1] σ = fJ9_min_7cf53 E p0 p1 σ :=
  (zun_at (fun pc => (oJ9_min_7cf53 pc).1) E (fun _ => false) 8 0 (0, 0) (zls0 [.inl p0, .inl p1] 2) [] σ).trans rfl
