/-! what tiles tell is what outputs are without them -/
def Sm (A A' : zW) : Prop := aC A' = aC A ∧ aS A' = aS A ∧ aHn A' = aHn A ∧ aHk A' = aHk A
theorem Sm.rf (A : zW) : Sm A A := ⟨rfl, rfl, rfl, rfl⟩
theorem Sm.tr {A A' A2 : zW} (h : Sm A A') (g : Sm A' A2) : Sm A A2 := ⟨g.1.trans h.1, g.2.1.trans h.2.1, g.2.2.1.trans h.2.2.1, g.2.2.2.trans h.2.2.2⟩
theorem Sm.px (A : zW) (x i j : Int32) : Sm A (tPx A x i j) := by
  unfold tPx
  split
  · exact ⟨rfl, rfl, rfl, rfl⟩
  · exact Sm.rf A
theorem Sm.pre (A : zW) (x : Int32) : Sm A (tPre A x) := by
  unfold tPre
  split
  · exact ⟨rfl, rfl, rfl, rfl⟩
  · exact Sm.rf A
theorem px_is {A : zW} {l x y : Nat} (hl : l < cN (aC A)) (h8 : cN (aC A) ≤ 8) (hx : x < cW (aC A)) (hy : y < cH (aC A)) (hw : cW (aC A) ≤ 16) (hh : cH (aC A) ≤ 16) : rPx A (nI l) (nI x) (nI y) = iI (outI (aC A) (l + 1) x y) := by
  have e : (nI l).toInt = l := nI_toInt (by omega)
  unfold rPx
  rw [if_pos ⟨by omega, (n_zin (by omega)).mpr hx, (n_zin (by omega)).mpr hy⟩, e, n_tn (by omega), n_tn (by omega)]
  congr 2
theorem sum_is {A : zW} {l : Nat} (hl : l < cN (aC A)) (h8 : cN (aC A) ≤ 8) : rSum A (nI l) = iI (sm (lin (cW (aC A)) (outI (aC A) (l + 1))) (cH (aC A) * cW (aC A))) := by
  have e : (nI l).toInt = l := nI_toInt (by omega)
  unfold rSum
  rw [if_pos (by omega), e]
  congr 2
theorem hist_is {A : zW} {l : Nat} (G : GC (aC A)) (hl : l < cN (aC A)) : rHist A (nI l) 0 255 = nI (cH (aC A) * cW (aC A)) := by
  have h8 := G.2.2.1
  have e : (nI l).toInt = l := nI_toInt (by omega)
  have e0 : (0 : Int32).toInt = 0 := rfl
  have e5 : (255 : Int32).toInt = 255 := rfl
  have k := hist_all G (show l + 1 ≤ cN (aC A) by omega)
  unfold rHist
  rw [e0, e5, if_pos ⟨by omega, by omega, by omega, by omega⟩, e]
  have e1 : ((l : Int) + 1).toNat = l + 1 := by omega
  rw [e1, k, i_nI]
theorem ct_is {A : zW} {k : Nat} (hk : k < cN (aC A)) (h8 : cN (aC A) ≤ 8) : rCt A (nI k) = nI (cnF (aU A) (64 * k) 64) := by
  unfold rCt
  rw [if_pos ((n_zin (by omega)).mpr hk), n_tn (by omega)]
theorem w_isTold {b o n : Nat} {xs : Nat → Int32} {σ : zS} {A : zW} {B l : Nat} (h : LI b o n xs σ A B) (hB : B + 33000 * 256 < 2 ^ 29) (hl : l < cN (aC A)) (d : Nat) : ∃ τ A', zEv (d + 31) mL_isTold [.inr (.inl (some o)), .inl (nI l)] σ = some (some (.inl 1), τ) ∧ LI b o n xs τ A' (B + 33000 * 256) ∧ Sm A A' := by
  have G := h.1.1
  have h8 := G.2.2.1
  have hw := G.1
  have hh := G.2.1
  have b1 : zB 1 = True := eq_true (Or.inr rfl)
  have hwh : cH (aC A) * cW (aC A) ≤ 256 := Nat.mul_le_mul hh.2 hw.2
  rw [vL_isTold]
  unfold fL_isTold
  simp only [zlt_e]
  obtain ⟨⟨v, z4, z5, t⟩, l1, l2, A1, l3, l4⟩ := grid (fun y (s : Int32 × zV × zV × zS) => LL_isTold_4 (zEv (d + 30)) (some o) (nI l) s.1 (nI y) s.2.1 s.2.2.1 s.2.2.2) (fun y x s => LL_isTold_16 (zEv (d + 30)) (some o) (nI l) s.1 (nI y) (nI x) s.2.2.1 s.2.2.2)
    (fun y x s => s.1 = iI (sm (lin (cW (aC A)) (outI (aC A) (l + 1))) (y * cW (aC A) + x)) ∧ ∃ A', LI b o n xs s.2.2.2 A' (B + 33000 * (y * cW (aC A) + x)) ∧ Sm A A') (cW (aC A)) (cH (aC A)) (fun s => LL_isTold_4 (zEv (d + 30)) (some o) (nI l) s.1 (nI (cH (aC A))) s.2.1 s.2.2.1 s.2.2.2) (0, .inr (.inr none), .inr (.inr none), σ)
    ⟨by rw [Nat.zero_mul]; rfl, A, h.mono (Nat.le_add_right _ _), Sm.rf A⟩
    (fun y s hy hI => by
      obtain ⟨e, A', g, hS⟩ := hI
      have hm : y * cW (aC A) + 0 < cH (aC A) * cW (aC A) := lin_ix (by omega) hy
      obtain ⟨t, a1, g1⟩ := w_size g (by omega) 1 d
      have c1 : (nI y < nI (cH (aC A))) = True := eq_true ((n_lt (by omega) (by omega)).mpr hy)
      refine ⟨(s.1, .inl 0, s.2.2.1, t), ?_, e, A', g1, hS⟩
      show LL_isTold_4 _ _ _ _ _ _ _ _ = LL_isTold_16 _ _ _ _ _ _ _ _
      rw [uL_isTold_4]
      simp only [onR_s, chk_e, g.o8, if_true, a1, bnI_s, size_1, hS.1, c1, zlt_e]
      rfl)
    (fun y x s hy hx hI => by
      obtain ⟨e, A', g, hS⟩ := hI
      have hm : y * cW (aC A) + x < cH (aC A) * cW (aC A) := lin_ix hx hy
      obtain ⟨t1, a1, g1⟩ := w_size g (by omega) 0 d
      obtain ⟨t2, a2, g2⟩ := w_pixel g1 (by omega) (nI l) (nI x) (nI y) d
      have c1 : (nI x < nI (cW (aC A))) = True := eq_true ((n_lt (by omega) (by omega)).mpr hx)
      have R := outI_R G (l + 1) (by omega) x y hx hy
      have ep : rPx A' (nI l) (nI x) (nI y) = iI (outI (aC A) (l + 1) x y) := by
        rw [px_is (by rw [hS.1]; exact hl) (by rw [hS.1]; exact h8) (by rw [hS.1]; exact hx) (by rw [hS.1]; exact hy) (by rw [hS.1]; exact hw.2) (by rw [hS.1]; exact hh.2), hS.1]
      have c2 : (iI (outI (aC A) (l + 1) x y) < 0) = False := eq_false (by rw [show (0 : Int32) = iI 0 from rfl, i_lt (by omega) (by omega) (by omega) (by omega)]; omega)
      have c3 : (iI (outI (aC A) (l + 1) x y) ≤ 255) = True := eq_true (by rw [show (255 : Int32) = iI 255 from rfl, i_le (by omega) (by omega) (by omega) (by omega)]; omega)
      refine ⟨(iI (sm (lin (cW (aC A)) (outI (aC A) (l + 1))) (y * cW (aC A) + x) + outI (aC A) (l + 1) x y), s.2.1, .inl (iI (outI (aC A) (l + 1) x y)), t2), ?_, ?_, _, g2.mono (by omega), hS.tr (Sm.px _ _ _ _)⟩
      · show LL_isTold_16 _ _ _ _ _ _ _ _ = LL_isTold_16 _ _ _ _ _ _ _ _
        rw [uL_isTold_16]
        simp only [onR_s, chk_e, g.o8, g1.o8, if_true, a1, bnI_s, size_0, hS.1, c1, a2, ep, zlt_e, c2, if_false, c3, e, i_add, nI_1]
      · show iI _ = iI _
        rw [sm_next _ hx])
    (fun y s hy hI => by
      obtain ⟨e, A', g, hS⟩ := hI
      have hm : y * cW (aC A) + 0 < cH (aC A) * cW (aC A) := lin_ix (by omega) hy
      have hm2 : (y + 1) * cW (aC A) ≤ cH (aC A) * cW (aC A) := Nat.mul_le_mul_right _ hy
      rw [Nat.succ_mul y] at hm2
      obtain ⟨t, a1, g1⟩ := w_size g (by omega) 0 d
      have c1 : (nI (cW (aC A)) < nI (cW (aC A))) = False := eq_false (fun q => Nat.lt_irrefl _ ((n_lt (by omega) (by omega)).mp q))
      refine ⟨(s.1, .inl (nI (cW (aC A))), s.2.2.1, t), ?_, by rw [← sm_row]; exact e, A', g1.mono (by rw [Nat.succ_mul y (cW (aC A))]; omega), hS⟩
      show LL_isTold_16 _ _ _ _ _ _ _ _ = LL_isTold_4 _ _ _ _ _ _ _ _
      rw [uL_isTold_16]
      simp only [onR_s, chk_e, g.o8, if_true, a1, bnI_s, size_0, hS.1, c1, if_false, zlt_e, nI_1])
    (fun s _ => rfl)
  have hS := l4
  obtain ⟨t1, a1, g1⟩ := w_size l3 (by omega) 1 d
  have e0 : LL_isTold_4 (zEv (d + 30)) (some o) (nI l) v (nI (cH (aC A))) z4 z5 t = LL_isTold_73 (zEv (d + 30)) (some o) (nI l) v (nI 0) (nI 0) z5 t1 := by
    have c1 : (nI (cH (aC A)) < nI (cH (aC A))) = False := eq_false (fun q => Nat.lt_irrefl _ ((n_lt (by omega) (by omega)).mp q))
    rw [uL_isTold_4]
    simp only [onR_s, chk_e, l3.o8, if_true, a1, bnI_s, size_1, hS.1, c1, if_false, zlt_e]
    rfl
  have hB1 : B + 33000 * (cH (aC A) * cW (aC A) + 0) < 2 ^ 29 := by omega
  obtain ⟨⟨v3, t2⟩, m1, m2, m3⟩ := loop_from (fun k (s : Int32 × zS) => LL_isTold_73 (zEv (d + 30)) (some o) (nI l) v s.1 (nI k) z5 s.2) (fun k s => s.1 = nI (cnt (aU A1) (64 * k)) ∧ LI b o n xs s.2 A1 (B + 33000 * (cH (aC A) * cW (aC A) + 0))) 0 (cN (aC A)) (fun s => LL_isTold_73 (zEv (d + 30)) (some o) (nI l) v s.1 (nI (cN (aC A))) z5 s.2) (nI 0, t1) (Nat.zero_le _) ⟨rfl, g1⟩
    (fun k s hk hI => by
      obtain ⟨e, g⟩ := hI
      obtain ⟨t3, a3, g3⟩ := w_size g hB1 2 d
      obtain ⟨t4, a4, g4⟩ := w_cachedTiles g3 hB1 (nI k) d
      have c1 : (nI k < nI (cN (aC A))) = True := eq_true ((n_lt (by omega) (by omega)).mpr hk)
      refine ⟨(nI (cnt (aU A1) (64 * (k + 1))), t4), ?_, rfl, g4⟩
      show LL_isTold_73 _ _ _ _ _ _ _ _ = LL_isTold_73 _ _ _ _ _ _ _ _
      have ec : cnt (aU A1) (64 * k) + cnF (aU A1) (64 * k) 64 = cnt (aU A1) (64 * (k + 1)) := by
        rw [Nat.mul_succ]
        exact (cnt_add _ _ _).symm
      rw [uL_isTold_73]
      simp only [onR_s, chk_e, g.o8, g3.o8, if_true, a3, bnI_s, size_2, hS.1, c1, a4, ct_is (A := A1) (by rw [hS.1]; exact hk) (by rw [hS.1]; exact h8), zlt_e, e, nI_add, ec, nI_1])
    (fun s _ => rfl)
  obtain ⟨u1, x1, q1⟩ := w_size m3 hB1 2 d
  obtain ⟨u2, x2, q2⟩ := w_sum q1 hB1 (nI l) d
  obtain ⟨u3, x3, q3⟩ := w_histogram q2 hB1 (nI l) 0 255 d
  obtain ⟨u4, x4, q4⟩ := w_size q3 hB1 0 d
  obtain ⟨u5, x5, q5⟩ := w_size q4 hB1 1 d
  obtain ⟨u6, x6, q6⟩ := w_size q5 hB1 5 d
  obtain ⟨u7, x7, q7⟩ := w_counter q6 hB1 0 d
  obtain ⟨u8, x8, q8⟩ := w_counter q7 hB1 2 d
  refine ⟨u8, A1, ?_, q8.mono (by omega), hS⟩
  have hl1 : l < cN (aC A1) := by rw [hS.1]; exact hl
  have l1 : LL_isTold_4 (zEv (d + 30)) (some o) (nI l) 0 0 (.inr (.inr none)) (.inr (.inr none)) σ = LL_isTold_4 (zEv (d + 30)) (some o) (nI l) v (nI (cH (aC A))) z4 z5 t := l1
  have m1 : LL_isTold_73 (zEv (d + 30)) (some o) (nI l) v (nI 0) (nI 0) z5 t1 = LL_isTold_73 (zEv (d + 30)) (some o) (nI l) v v3 (nI (cN (aC A))) z5 t2 := m1
  have l2 : v = iI (sm (lin (cW (aC A)) (outI (aC A) (l + 1))) (cH (aC A) * cW (aC A))) := l2
  have m2 : v3 = nI (cnt (aU A1) (64 * cN (aC A))) := m2
  have GA1 := q8.1
  have LG1 := q8.2.1
  have KT1 := q8.2.2.1
  have hck : tCk (aT A1) ≤ _ := GA1.2.2.2.2.2.2.2.2
  have hlm := GA1.2.2.2.2.2.1
  have hup := cnt_up (aU A1) (64 * cN (aC A)) 512 (by omega)
  have hc5 := cnt_le (aU A1) 512
  unfold LG at LG1
  unfold KT at KT1
  have c1 : (nI (cN (aC A)) < nI (cN (aC A))) = False := eq_false (fun q => Nat.lt_irrefl _ ((n_lt (by omega) (by omega)).mp q))
  have es : rSum A1 (nI l) = v := by rw [sum_is hl1 (by rw [hS.1]; exact h8), hS.1, l2]
  have eh : rHist A1 (nI l) 0 255 = nI (cW (aC A)) * nI (cH (aC A)) := by rw [hist_is (by rw [hS.1]; exact G) hl1, hS.1, pk_mul, Nat.mul_comm]
  have c2 : (v3 ≤ nI (tLm (aT A1))) = True := eq_true (by rw [m2, n_le (by omega) (by omega)]; omega)
  have er0 : rCtr A1 0 = nI (tCp (aT A1)) := if_pos rfl
  have er2 : rCtr A1 2 = nI (tDr (aT A1)) := by
    unfold rCtr
    rw [if_neg (by decide), if_neg (by decide), if_pos rfl]
  have c3 : (nI (tCp (aT A1)) - nI (tDr (aT A1)) < v3) = False := eq_false (by rw [m2, nI_sub (by omega), n_lt (by omega) (by omega)]; omega)
  rw [l1, e0, m1, uL_isTold_73]
  simp only [onR_s, chk_e, m3.o8, q1.o8, q2.o8, q3.o8, q4.o8, q5.o8, q6.o8, q7.o8, if_true, x1, bnI_s, size_2, size_0, size_1, size_5, hS.1, c1, if_false, x2, es, x3, eh, x4, x5, x6, c2, x7, x8, er0, er2, c3, b1]
