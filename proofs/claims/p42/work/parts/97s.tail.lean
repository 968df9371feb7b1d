/-! the law's end: errors change nothing; the snapshot comes back -/
theorem no_m1 (n : Nat) : ¬ zin (-1) n := by
  have e : (-1 : Int32).toInt = -1 := rfl
  unfold zin
  omega
theorem z_577 {b o n : Nat} {xs : Nat → Int32} {σ : zS} {A : zW} {B : Nat} {Cs : zC} (h : LI b o n xs σ A B) (hB : B < 2 ^ 29) (s0 : aS A 0 = some Cs) (s1 : aS A 1 = none) (l0 l5 l6 l7 l8 l9 l10 l11 l12 : zV) (bb : Nat × Nat) (d : Nat) : Fi (LL_law_577 (zEv (d + 31)) l0 (some o) (nI (cN Cs)) (dgC Cs) l5 l6 l7 l8 l9 l10 l11 l12 bb σ) := by
  have h8 := h.1.1.2.2.1
  have b1 : zB 1 = True := eq_true (Or.inr rfl)
  obtain ⟨t1, a1, h1⟩ := w_digest h hB d
  obtain ⟨t2, a2, h2⟩ := y_setPixel h1 hB (-1) 0 0 d
  have r2 : rPix A (-1) 0 0 = -1001 := if_neg (fun q => no_m1 _ q.1.1)
  have e2 : tPix A (-1) 0 0 = A := if_neg (fun q => no_m1 _ q.1.1)
  rw [e2] at h2
  obtain ⟨t3, a3, h3⟩ := y_addLayer h2 hB 6 4 0 d
  have r3 : rAdd A 6 4 0 = -1001 := if_neg (by decide)
  have e3 : tAdd A 6 4 0 = A := if_neg (by decide)
  rw [e3] at h3
  obtain ⟨t4, a4, h4⟩ := y_dab h3 hB 8 0 0 0 d
  have no8 : ¬ zin 8 (cN (aC A)) := by
    have e : (8 : Int32).toInt = 8 := rfl
    unfold zin
    omega
  have r4 : rDab A 8 0 0 0 = -1001 := if_neg (fun q => no8 q.1)
  have e4 : tDab A 8 0 0 0 = A := if_neg (fun q => no8 q.1)
  rw [e4] at h4
  obtain ⟨t5, a5, h5⟩ := y_newImage h4 hB 3 4 d
  have r5 : rNew 3 4 = -1001 := if_neg (by decide)
  have e5 : tNew A 3 4 = A := if_neg (by decide)
  rw [e5] at h5
  obtain ⟨t6, a6, h6⟩ := y_restore h5 hB 2 d
  have r6 : rRest A 2 = -1001 := if_neg (by decide)
  have e6 : tRest A 2 = A := if_neg (by decide)
  rw [e6] at h6
  obtain ⟨t7, a7, h7⟩ := y_restore h6 hB 1 d
  have n1 : (1 : Int32).toNatClampNeg = 1 := rfl
  have r7 : rRest A 1 = -1002 := by
    unfold rRest
    rw [if_pos (by decide), n1, s1]
  have e7 : tRest A 1 = A := by
    unfold tRest
    rw [if_pos (by decide), n1, s1]
  rw [e7] at h7
  obtain ⟨t8, a8, h8'⟩ := y_setTileSize h7 hB 1 d
  have r8 : rTs A 1 = -1001 := if_neg (by decide)
  have e8 : tTs A 1 = A := if_neg (by decide)
  rw [e8] at h8'
  obtain ⟨t9, a9, h9⟩ := w_digest h8' hB d
  obtain ⟨u1, x1, g1⟩ := y_restore h9 hB 0 d
  have n0 : (0 : Int32).toNatClampNeg = 0 := rfl
  have q1 : rRest A 0 = nI (cN Cs) := by
    unfold rRest
    rw [if_pos (by decide), n0, s0]
  have f1 : tRest A 0 = aTil (aSet (aHis A 0) Cs) (fun _ => 0) := by
    unfold tRest
    rw [if_pos (by decide), n0, s0]
  rw [f1] at g1
  obtain ⟨u2, x2, g2⟩ := w_digest g1 hB d
  have f2 : aC (aTil (aSet (aHis A 0) Cs) (fun _ => 0)) = Cs := rfl
  rw [f2] at x2
  obtain ⟨u3, x3, g3⟩ := y_undo g2 hB d
  have q3 : rUndo (aTil (aSet (aHis A 0) Cs) (fun _ => 0)) = -1002 := if_pos rfl
  have f3 : tUndo (aTil (aSet (aHis A 0) Cs) (fun _ => 0)) = aTil (aSet (aHis A 0) Cs) (fun _ => 0) := if_pos rfl
  rw [f3] at g3
  obtain ⟨u4, x4, g4⟩ := y_snapshotDifference g3 hB 0 d
  have q4 : rSnap (aTil (aSet (aHis A 0) Cs) (fun _ => 0)) 0 = 0 := by
    have s0' : aS (aTil (aSet (aHis A 0) Cs) (fun _ => 0)) 0 = some Cs := s0
    unfold rSnap
    rw [if_pos (by decide), n0, s0']
    show (if cW Cs = cW Cs ∧ cH Cs = cH Cs then iI (difI Cs Cs) else -1002) = 0
    rw [if_pos ⟨rfl, rfl⟩, dif_0 rfl]
    rfl
  refine ⟨u4, ?_⟩
  rw [uL_law_577]
  simp only [a1, bnL, zlt_e, onR_s, chk_e, h1.o8, if_true, a2, r2, bnI_s, h2.o8, a3, r3, h3.o8, a4, r4, h4.o8, a5, r5, h5.o8, a6, r6, h6.o8, a7, r7, h7.o8, a8, r8, a9, cmp_self, h9.o8, x1, q1, x2, g2.o8, x3, q3, g3.o8, x4, q4, b1]
