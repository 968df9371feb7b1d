/-! the reference: a layer's output -/
theorem s_madjusted {σ : zS} {m i n x y : Nat} {C : zC} {px : Nat → Nat → Int} (hM : MS σ m) (hV : MV σ (m + 1) 0 C) (hw : 1 ≤ cW C ∧ cW C ≤ 16) (hh : 1 ≤ cH C ∧ cH C ≤ 16) (hn8 : cN C ≤ 8) (hg : GL (cL C i)) (hi : i < cN C) (hn : n ≤ 8) (hO : OV σ m n (cW C) (cH C) px) (hp : pxR (cW C) (cH C) px) (hx : x < cW C) (hy : y < cH C) (hE1 : zi σ 601 m = iI (loPx (cW C) (cH C) px)) (hE2 : zi σ 602 m = iI (hiPx (cW C) (cH C) px)) (d : Nat) : ∃ τ, zEv (d + 4) mX11_adjusted [.inr (.inl (some m)), .inl (nI (259 + 32 * i)), .inl (nI (256 * n)), .inl (nI x), .inl (nI y)] σ = some (some (.inl (iI (adI (cW C) (cH C) px (cL C i 0) (cL C i 1) (cL C i 2) x y))), τ) ∧ zFr (fun a => a = m + 18) σ τ ∧ (∀ g a, zi τ g a = zi σ g a) := by
  have v0 : zai σ (m + 1) (259 + 32 * i) = iI (cL C i 0) := hV.r hi (show 0 < 32 by decide)
  have v1 := hV.r hi (show 1 < 32 by decide)
  have v2 := hV.r hi (show 2 < 32 by decide)
  have hv0 : zai σ (m + 1) 0 = nI (cW C) := hV.1
  have hv1 : zai σ (m + 1) 1 = nI (cH C) := hV.2.1
  have t0 : (nI 0).toNatClampNeg = 0 := rfl
  have t1 : (nI 1).toNatClampNeg = 1 := rfl
  have z0 : zin (nI 0) 515 = True := eq_true (by decide)
  have z1 : zin (nI 1) 515 = True := eq_true (by decide)
  have hk := hg.1
  have hok := hg.2.1
  have hP := hp x y hx hy
  unfold okP loA hiA loB hiB at hok
  have q : ∀ k : Int, 0 ≤ k → k ≤ 13 → ((iI (cL C i 0) = iI k) ↔ cL C i 0 = k) := fun k h1 h2 => i_eq (by omega) (by omega) (by omega) (by omega)
  have q0 := q 0 (by decide) (by decide)
  have q1 := q 1 (by decide) (by decide)
  have q2 := q 2 (by decide) (by decide)
  have q3 := q 3 (by decide) (by decide)
  have q4 := q 4 (by decide) (by decide)
  have q5 := q 5 (by decide) (by decide)
  have q6 := q 6 (by decide) (by decide)
  have q7 := q 7 (by decide) (by decide)
  have q8 := q 8 (by decide) (by decide)
  have q9 := q 9 (by decide) (by decide)
  have q10 := q 10 (by decide) (by decide)
  have q11 := q 11 (by decide) (by decide)
  have q12 := q 12 (by decide) (by decide)
  have q13 := q 13 (by decide) (by decide)
  -- the simple kinds
  have pt : (cL C i 0 ≤ 5 ∨ cL C i 0 = 12) → ∀ d, zEv (d + 2) mX11_point [.inr (.inl (some m)), .inl (iI (cL C i 0)), .inl (iI (cL C i 1)), .inl (iI (cL C i 2)), .inl (iI (px x y))] σ = some (some (.inl (iI (adI (cW C) (cH C) px (cL C i 0) (cL C i 1) (cL C i 2) x y))), σ) := by
    intro hs d
    rw [vX11_point]
    unfold fX11_point adI
    rw [show (0 : Int32) = iI 0 from rfl, show (1 : Int32) = iI 1 from rfl, show (2 : Int32) = iI 2 from rfl, show (3 : Int32) = iI 3 from rfl, show (4 : Int32) = iI 4 from rfl, show (5 : Int32) = iI 5 from rfl, show (255 : Int32) = iI 255 from rfl, show (256 : Int32) = iI 256 from rfl, show (128 : Int32) = iI 128 from rfl, show (100 : Int32) = iI 100 from rfl]
    simp only [q0, q1, q2, q3, q4, q5, i_add, i_sub, i_mul]
    by_cases c0 : cL C i 0 = 0
    · rw [if_pos c0, if_pos c0]
      rw [c0] at hok
      simp at hok
      have y1 : (iI (px x y) ≤ iI (cL C i 1)) ↔ px x y ≤ cL C i 1 := i_le (by omega) (by omega) (by omega) (by omega)
      have y2 : (iI (px x y) < iI (cL C i 2)) ↔ px x y < cL C i 2 := i_lt (by omega) (by omega) (by omega) (by omega)
      have y3 : (iI (cL C i 2 - cL C i 1) = iI 0) ↔ cL C i 2 - cL C i 1 = 0 := i_eq (by omega) (by omega) (by omega) (by omega)
      simp only [y1, y2, y3]
      by_cases e1 : px x y ≤ cL C i 1
      · rw [if_pos e1, if_pos e1]
      rw [if_neg e1, if_neg e1]
      by_cases e2 : px x y < cL C i 2
      · rw [if_pos e2, if_pos e2, if_neg (by omega), i_div (by omega) (by omega) (by omega) (by omega), Int.tdiv_eq_ediv_of_nonneg (by omega)]
      · rw [if_neg e2, if_neg e2]
    rw [if_neg c0, if_neg c0]
    by_cases c1 : cL C i 0 = 1
    · rw [if_pos c1, if_pos c1]
      rw [c1] at hok
      simp at hok
      rw [s_clamp (d) σ (by omega) (by omega)]
      rfl
    rw [if_neg c1, if_neg c1]
    by_cases c2 : cL C i 0 = 2
    · rw [if_pos c2, if_pos c2]
      rw [c2] at hok
      simp at hok
      have hb : -51200 ≤ (px x y - 128) * cL C i 1 ∧ (px x y - 128) * cL C i 1 ≤ 51200 := by
        rcases Int.le_total 0 (px x y - 128) with h | h
        · have := Int.mul_le_mul (show px x y - 128 ≤ 128 by omega) hok.1.2 (by omega) (by decide)
          have := Int.mul_nonneg h (show 0 ≤ cL C i 1 by omega)
          omega
        · have h1 := Int.mul_le_mul (show -(px x y - 128) ≤ 128 by omega) hok.1.2 (by omega) (by decide)
          have h2 := Int.mul_nonneg (show 0 ≤ -(px x y - 128) by omega) (show 0 ≤ cL C i 1 by omega)
          rw [Int.neg_mul] at h1 h2
          omega
      rw [s_floor (d) σ (by omega) (by omega) (by decide) (by decide)]
      simp only [zlt_e, onR_s, nul_s, nul_n, chk_e, bnI_s, bnR_s, bnV_s, zi_si, zi_sr, zi_sl, zi_sa, zi_sq, zr_si, zr_sr, zr_sl, zr_sa, zr_sq, zl_si, zl_sr, zl_sl, zl_sa, zl_sq, zai_si, zai_sr, zai_sl, zai_sa, zai_sq, zar_si, zar_sr, zar_sl, zar_sa, zar_sq, zkd_si, zkd_sr, zkd_sl, zkd_sa, zkd_sq, zln_si, zln_sr, zln_sl, zln_sa, zln_sq, znx_si, znx_sr, znx_sl, znx_sa, znx_sq]
      rw [i_add, s_clamp (d) σ (by omega) (by omega)]
      rfl
    rw [if_neg c2, if_neg c2]
    by_cases c3 : cL C i 0 = 3
    · rw [if_pos c3, if_pos c3]
      rw [c3] at hok
      simp at hok
      have hb0 : 0 ≤ px x y * cL C i 1 := Int.mul_nonneg hP.1 (by omega)
      have hb1 : px x y * cL C i 1 ≤ 255 * 16 := Int.mul_le_mul hP.2 (by omega) (by omega) (by decide)
      have y3 : (iI (cL C i 1 - 1) = iI 0) ↔ cL C i 1 - 1 = 0 := i_eq (by omega) (by omega) (by omega) (by omega)
      rw [if_neg (by decide)]
      simp only [y3]
      rw [if_neg (by omega), i_div (by omega) (by omega) (by decide) (by decide), Int.tdiv_eq_ediv_of_nonneg hb0, i_mul, i_div (by omega) (by omega) (by omega) (by omega), Int.tdiv_eq_ediv_of_nonneg (by omega)]
    rw [if_neg c3, if_neg c3]
    by_cases c4 : cL C i 0 = 4
    · rw [if_pos c4, if_pos c4]
    rw [if_neg c4, if_neg c4]
    by_cases c5 : cL C i 0 = 5
    · rw [if_pos c5, if_pos c5]
      rw [c5] at hok
      simp at hok
      have y1 : (iI (px x y) < iI (cL C i 1)) ↔ px x y < cL C i 1 := i_lt (by omega) (by omega) (by omega) (by omega)
      simp only [y1]
      by_cases e1 : px x y < cL C i 1
      · rw [if_pos e1, if_pos e1]
      · rw [if_neg e1, if_neg e1]
    rw [if_neg c5, if_neg c5]
    have c12 : cL C i 0 = 12 := by omega
    rw [if_neg (by omega), if_neg (by omega), if_neg (by omega), if_neg (by omega), if_neg (by omega), if_neg (by omega), if_pos c12]
  have ei := s_inputAt hM hV hw.2 hh.2 hn hO hx hy
  rw [vX11_adjusted]
  unfold fX11_adjusted
  rw [show (0 : Int32) = nI 0 from rfl, show (1 : Int32) = nI 1 from rfl, show (2 : Int32) = nI 2 from rfl]
  simp only [zlt_e, onR_s, nul_s, nul_n, chk_e, bnI_s, bnR_s, bnV_s, zi_si, zi_sr, zi_sl, zi_sa, zi_sq, zr_si, zr_sr, zr_sl, zr_sa, zr_sq, zl_si, zl_sr, zl_sl, zl_sa, zl_sq, zai_si, zai_sr, zai_sl, zai_sa, zai_sq, zar_si, zar_sr, zar_sl, zar_sa, zar_sq, zkd_si, zkd_sr, zkd_sl, zkd_sa, zkd_sq, zln_si, zln_sr, zln_sl, zln_sa, zln_sq, znx_si, znx_sr, znx_sl, znx_sa, znx_sq, hM.k, hM.s.1, hM.s.2.1, hM.s.2.2, if_true, nI_add, Nat.add_zero, n_zin (show 259 + 32 * i < 2 ^ 31 by omega), n_tn (show 259 + 32 * i < 2 ^ 31 by omega), show 259 + 32 * i < 515 by omega, n_zin (show 259 + 32 * i + 1 < 2 ^ 31 by omega), n_tn (show 259 + 32 * i + 1 < 2 ^ 31 by omega), show 259 + 32 * i + 1 < 515 by omega, n_zin (show 259 + 32 * i + 2 < 2 ^ 31 by omega), n_tn (show 259 + 32 * i + 2 < 2 ^ 31 by omega), show 259 + 32 * i + 2 < 515 by omega, and_self, v0, v1, v2, ei]
  rw [show (6 : Int32) = iI 6 from rfl, show (7 : Int32) = iI 7 from rfl, show (8 : Int32) = iI 8 from rfl, show (9 : Int32) = iI 9 from rfl, show (10 : Int32) = iI 10 from rfl, show (11 : Int32) = iI 11 from rfl, show (12 : Int32) = iI 12 from rfl, show (13 : Int32) = iI 13 from rfl]
  simp only [q6, q7, q8, q9, q10, q11, q12, q13]
  by_cases hs : 6 ≤ cL C i 0 ∧ cL C i 0 ≤ 10
  · have ha : 0 ≤ cL C i 1 ∧ cL C i 1 ≤ 3 := by
      rcases (by omega : cL C i 0 = 6 ∨ cL C i 0 = 7 ∨ cL C i 0 = 8 ∨ cL C i 0 = 9 ∨ cL C i 0 = 10) with h | h | h | h | h <;> rw [h] at hok <;> simp at hok <;> omega
    obtain ⟨r, hr⟩ : ∃ r : Nat, cL C i 1 = r := ⟨(cL C i 1).toNat, by omega⟩
    have hr3 : r ≤ 3 := by omega
    have hn1 := nbN_pos (r := r) hx hy
    have hn9 := nbN_le (w := cW C) (h := cH C) (x := x) (y := y) hr3
    have hnr : ∀ k, k < nbN (cW C) (cH C) x y r → 0 ≤ nbF (cW C) px x y r k ∧ nbF (cW C) px x y r k ≤ 255 := fun k hk => nbF_R hp hx hy hk
    have eb := s_blur hM hV hw hh hn hO hp hx hy hr3 d
    obtain ⟨τ, g1, g2, g3, g4⟩ := s_mgather hM hV hw hh hn hO hp hx hy hr3 d
    have hM' := hM.fr g2
    unfold adI
    rw [if_neg (show ¬ cL C i 0 = 0 by omega), if_neg (show ¬ cL C i 0 = 1 by omega), if_neg (show ¬ cL C i 0 = 2 by omega), if_neg (show ¬ cL C i 0 = 3 by omega), if_neg (show ¬ cL C i 0 = 4 by omega), if_neg (show ¬ cL C i 0 = 5 by omega), hr, ← i_nI r, Int.toNat_natCast]
    by_cases c6 : cL C i 0 = 6
    · rw [if_pos c6, if_pos c6]
      simp only [zlt_e, onR_s, nul_s, nul_n, chk_e, bnI_s, bnR_s, bnV_s, zi_si, zi_sr, zi_sl, zi_sa, zi_sq, zr_si, zr_sr, zr_sl, zr_sa, zr_sq, zl_si, zl_sr, zl_sl, zl_sa, zl_sq, zai_si, zai_sr, zai_sl, zai_sa, zai_sq, zar_si, zar_sr, zar_sl, zar_sa, zar_sq, zkd_si, zkd_sr, zkd_sl, zkd_sa, zkd_sq, zln_si, zln_sr, zln_sl, zln_sa, zln_sq, znx_si, znx_sr, znx_sl, znx_sa, znx_sq, hM.k, if_true, eb]
      exact ⟨σ, rfl, zFr.rf σ, fun _ _ => rfl⟩
    rw [if_neg c6, if_neg c6]
    by_cases c7 : cL C i 0 = 7
    · rw [if_pos c7, if_pos c7]
      have e : (nI (nbN (cW C) (cH C) x y r) - nI 1) / nI 2 = nI ((nbN (cW C) (cH C) x y r - 1) / 2) := by
        rw [nI_sub hn1, i_nI (nbN _ _ _ _ _ - 1), show nI 2 = iI 2 from rfl, i_div (by omega) (by omega) (by decide) (by decide), Int.tdiv_eq_ediv_of_nonneg (by omega), i_nI]
        rfl
      simp only [zlt_e, onR_s, nul_s, nul_n, chk_e, bnI_s, bnR_s, bnV_s, zi_si, zi_sr, zi_sl, zi_sa, zi_sq, zr_si, zr_sr, zr_sl, zr_sa, zr_sq, zl_si, zl_sr, zl_sl, zl_sa, zl_sq, zai_si, zai_sr, zai_sl, zai_sa, zai_sq, zar_si, zar_sr, zar_sl, zar_sa, zar_sq, zkd_si, zkd_sr, zkd_sl, zkd_sa, zkd_sq, zln_si, zln_sr, zln_sl, zln_sa, zln_sq, znx_si, znx_sr, znx_sl, znx_sa, znx_sq, hM.k, if_true, g1, hM.so.1, hM'.so.2.1, hM'.so.2.2, e, n_zin (show (nbN (cW C) (cH C) x y r - 1) / 2 < 2 ^ 31 by omega), n_tn (show (nbN (cW C) (cH C) x y r - 1) / 2 < 2 ^ 31 by omega), show (nbN (cW C) (cH C) x y r - 1) / 2 < 49 by omega, and_self, g4 _ (show (nbN (cW C) (cH C) x y r - 1) / 2 < nbN (cW C) (cH C) x y r by omega)]
      rw [if_neg (by decide)]
      exact ⟨τ, rfl, g2, g3⟩
    rw [if_neg c7, if_neg c7]
    by_cases c8 : cL C i 0 = 8
    · rw [if_pos c8, if_pos c8]
      have eL : srt (nbF (cW C) px x y r) (nbN (cW C) (cH C) x y r) (nbN (cW C) (cH C) x y r - 1) = mxI (nbF (cW C) px x y r) (nbN (cW C) (cH C) x y r) := by
        obtain ⟨k, hk⟩ : ∃ k, nbN (cW C) (cH C) x y r = k + 1 := ⟨nbN (cW C) (cH C) x y r - 1, by omega⟩
        rw [hk] at hnr ⊢
        exact srt_last _ k (fun j hj => (hnr j hj).1)
      simp only [zlt_e, onR_s, nul_s, nul_n, chk_e, bnI_s, bnR_s, bnV_s, zi_si, zi_sr, zi_sl, zi_sa, zi_sq, zr_si, zr_sr, zr_sl, zr_sa, zr_sq, zl_si, zl_sr, zl_sl, zl_sa, zl_sq, zai_si, zai_sr, zai_sl, zai_sa, zai_sq, zar_si, zar_sr, zar_sl, zar_sa, zar_sq, zkd_si, zkd_sr, zkd_sl, zkd_sa, zkd_sq, zln_si, zln_sr, zln_sl, zln_sa, zln_sq, znx_si, znx_sr, znx_sl, znx_sa, znx_sq, hM.k, if_true, g1, hM.so.1, hM'.so.2.1, hM'.so.2.2, nI_sub hn1, n_zin (show nbN (cW C) (cH C) x y r - 1 < 2 ^ 31 by omega), n_tn (show nbN (cW C) (cH C) x y r - 1 < 2 ^ 31 by omega), show nbN (cW C) (cH C) x y r - 1 < 49 by omega, and_self, g4 _ (show nbN (cW C) (cH C) x y r - 1 < nbN (cW C) (cH C) x y r by omega), eL]
      exact ⟨τ, rfl, g2, g3⟩
    rw [if_neg c8, if_neg c8]
    by_cases c9 : cL C i 0 = 9
    · rw [if_pos c9, if_pos c9]
      have eF : srt (nbF (cW C) px x y r) (nbN (cW C) (cH C) x y r) 0 = mnI (nbF (cW C) px x y r) (nbN (cW C) (cH C) x y r) := by
        obtain ⟨k, hk⟩ : ∃ k, nbN (cW C) (cH C) x y r = k + 1 := ⟨nbN (cW C) (cH C) x y r - 1, by omega⟩
        rw [hk] at hnr ⊢
        exact srt_first _ k (fun j hj => (hnr j hj).2)
      simp only [zlt_e, onR_s, nul_s, nul_n, chk_e, bnI_s, bnR_s, bnV_s, zi_si, zi_sr, zi_sl, zi_sa, zi_sq, zr_si, zr_sr, zr_sl, zr_sa, zr_sq, zl_si, zl_sr, zl_sl, zl_sa, zl_sq, zai_si, zai_sr, zai_sl, zai_sa, zai_sq, zar_si, zar_sr, zar_sl, zar_sa, zar_sq, zkd_si, zkd_sr, zkd_sl, zkd_sa, zkd_sq, zln_si, zln_sr, zln_sl, zln_sa, zln_sq, znx_si, znx_sr, znx_sl, znx_sa, znx_sq, hM.k, if_true, g1, hM'.k, hM'.so.1, hM'.so.2.1, hM'.so.2.2, n_le (show nbN (cW C) (cH C) x y r < 2 ^ 31 by omega) (show 0 < 2 ^ 31 by decide), show ¬ nbN (cW C) (cH C) x y r ≤ 0 by omega, if_false, n_zin (show 0 < 2 ^ 31 by decide), t0, show 0 < 49 by decide, and_self, g4 0 (by omega), eF]
      exact ⟨τ, rfl, g2, g3⟩
    rw [if_neg c9, if_neg c9]
    have c10 : cL C i 0 = 10 := by omega
    rw [if_pos c10, if_pos c10]
    rw [c10] at hok
    simp at hok
    have hav := avI_R (r := r) hp hx hy
    have hm1 : -76500 ≤ (px x y - avI (cW C) (cH C) px x y r) * cL C i 2 ∧ (px x y - avI (cW C) (cH C) px x y r) * cL C i 2 ≤ 76500 := by
      rcases Int.le_total 0 (px x y - avI (cW C) (cH C) px x y r) with h5 | h5
      · have := Int.mul_le_mul (show px x y - avI (cW C) (cH C) px x y r ≤ 255 by omega) hok.2.2 (by omega) (by decide)
        have := Int.mul_nonneg h5 (show 0 ≤ cL C i 2 by omega)
        omega
      · have h1 := Int.mul_le_mul (show -(px x y - avI (cW C) (cH C) px x y r) ≤ 255 by omega) hok.2.2 (by omega) (by decide)
        have h2 := Int.mul_nonneg (show 0 ≤ -(px x y - avI (cW C) (cH C) px x y r) by omega) (show 0 ≤ cL C i 2 by omega)
        rw [Int.neg_mul] at h1 h2
        omega
    simp only [zlt_e, onR_s, nul_s, nul_n, chk_e, bnI_s, bnR_s, bnV_s, zi_si, zi_sr, zi_sl, zi_sa, zi_sq, zr_si, zr_sr, zr_sl, zr_sa, zr_sq, zl_si, zl_sr, zl_sl, zl_sa, zl_sq, zai_si, zai_sr, zai_sl, zai_sa, zai_sq, zar_si, zar_sr, zar_sl, zar_sa, zar_sq, zkd_si, zkd_sr, zkd_sl, zkd_sa, zkd_sq, zln_si, zln_sr, zln_sl, zln_sa, zln_sq, znx_si, znx_sr, znx_sl, znx_sa, znx_sq, hM.k, if_true, eb, i_sub, i_mul]
    rw [show (100 : Int32) = iI 100 from rfl, s_floor (d + 2) σ (by omega) (by omega) (by decide) (by decide)]
    simp only [zlt_e, onR_s, nul_s, nul_n, chk_e, bnI_s, bnR_s, bnV_s, zi_si, zi_sr, zi_sl, zi_sa, zi_sq, zr_si, zr_sr, zr_sl, zr_sa, zr_sq, zl_si, zl_sr, zl_sl, zl_sa, zl_sq, zai_si, zai_sr, zai_sl, zai_sa, zai_sq, zar_si, zar_sr, zar_sl, zar_sa, zar_sq, zkd_si, zkd_sr, zkd_sl, zkd_sa, zkd_sq, zln_si, zln_sr, zln_sl, zln_sa, zln_sq, znx_si, znx_sr, znx_sl, znx_sa, znx_sq]
    rw [i_add, s_clamp (d + 2) σ (by omega) (by omega)]
    exact ⟨σ, rfl, zFr.rf σ, fun _ _ => rfl⟩
  · rw [if_neg (show ¬ cL C i 0 = 6 by omega), if_neg (show ¬ cL C i 0 = 7 by omega), if_neg (show ¬ cL C i 0 = 8 by omega), if_neg (show ¬ cL C i 0 = 9 by omega), if_neg (show ¬ cL C i 0 = 10 by omega)]
    by_cases c11 : cL C i 0 = 11
    · rw [if_pos c11]
      have e : adI (cW C) (cH C) px (cL C i 0) (cL C i 1) (cL C i 2) x y = px (nrI (x - cL C i 1) (cW C)) (nrI (y - cL C i 2) (cH C)) := by
        unfold adI
        rw [c11]
        rfl
      rw [c11] at hok
      simp at hok
      have hX : nrI (x - cL C i 1) (cW C) < cW C := by unfold nrI; omega
      have hY : nrI (y - cL C i 2) (cH C) < cH C := by unfold nrI; omega
      rw [e]
      simp only [zlt_e, onR_s, nul_s, nul_n, chk_e, bnI_s, bnR_s, bnV_s, zi_si, zi_sr, zi_sl, zi_sa, zi_sq, zr_si, zr_sr, zr_sl, zr_sa, zr_sq, zl_si, zl_sr, zl_sl, zl_sa, zl_sq, zai_si, zai_sr, zai_sl, zai_sa, zai_sq, zar_si, zar_sr, zar_sl, zar_sa, zar_sq, zkd_si, zkd_sr, zkd_sl, zkd_sa, zkd_sq, zln_si, zln_sr, zln_sl, zln_sa, zln_sq, znx_si, znx_sr, znx_sl, znx_sa, znx_sq, hM.k, hM.s.1, hM.s.2.1, hM.s.2.2, if_true, z0, z1, t0, t1, hv0, hv1, and_self]
      rw [i_nI x, i_sub, s_nearest (d + 2) σ hw.1 hw.2 (by omega) (by omega)]
      simp only [zlt_e, onR_s, nul_s, nul_n, chk_e, bnI_s, bnR_s, bnV_s, zi_si, zi_sr, zi_sl, zi_sa, zi_sq, zr_si, zr_sr, zr_sl, zr_sa, zr_sq, zl_si, zl_sr, zl_sl, zl_sa, zl_sq, zai_si, zai_sr, zai_sl, zai_sa, zai_sq, zar_si, zar_sr, zar_sl, zar_sa, zar_sq, zkd_si, zkd_sr, zkd_sl, zkd_sa, zkd_sq, zln_si, zln_sr, zln_sl, zln_sa, zln_sq, znx_si, znx_sr, znx_sl, znx_sa, znx_sq, hM.k, hM.s.1, hM.s.2.1, hM.s.2.2, if_true, z1, t1, hv1, and_self]
      rw [i_nI y, i_sub, s_nearest (d + 2) σ hh.1 hh.2 (by omega) (by omega)]
      simp only [zlt_e, onR_s, nul_s, nul_n, chk_e, bnI_s, bnR_s, bnV_s, zi_si, zi_sr, zi_sl, zi_sa, zi_sq, zr_si, zr_sr, zr_sl, zr_sa, zr_sq, zl_si, zl_sr, zl_sl, zl_sa, zl_sq, zai_si, zai_sr, zai_sl, zai_sa, zai_sq, zar_si, zar_sr, zar_sl, zar_sa, zar_sq, zkd_si, zkd_sr, zkd_sl, zkd_sa, zkd_sq, zln_si, zln_sr, zln_sl, zln_sa, zln_sq, znx_si, znx_sr, znx_sl, znx_sa, znx_sq, hM.k, if_true, s_inputAt hM hV hw.2 hh.2 hn hO hX hY]
      exact ⟨σ, rfl, zFr.rf σ, fun _ _ => rfl⟩
    rw [if_neg c11]
    by_cases c12 : cL C i 0 = 12
    · rw [if_pos c12]
      simp only [zlt_e, onR_s, nul_s, nul_n, chk_e, bnI_s, bnR_s, bnV_s, zi_si, zi_sr, zi_sl, zi_sa, zi_sq, zr_si, zr_sr, zr_sl, zr_sa, zr_sq, zl_si, zl_sr, zl_sl, zl_sa, zl_sq, zai_si, zai_sr, zai_sl, zai_sa, zai_sq, zar_si, zar_sr, zar_sl, zar_sa, zar_sq, zkd_si, zkd_sr, zkd_sl, zkd_sa, zkd_sq, zln_si, zln_sr, zln_sl, zln_sa, zln_sq, znx_si, znx_sr, znx_sl, znx_sa, znx_sq, hM.k, if_true, pt (Or.inr c12) (d + 1)]
      exact ⟨σ, rfl, zFr.rf σ, fun _ _ => rfl⟩
    rw [if_neg c12]
    by_cases c13 : cL C i 0 = 13
    · rw [if_pos c13]
      have r1 := mnI_R _ (fun k hk => lin_R (h := cH C) hp (by omega) k hk)
      have r2 := mxI_R (m := 255) (by decide) _ (fun k hk => lin_R (h := cH C) hp (by omega) k hk)
      have hix := lin_ix hx hy
      have m1 := mxI_ge (f := lin (cW C) px) (cH C * cW C) _ hix
      have m2 := mnI_ge (f := lin (cW C) px) (cH C * cW C) _ hix
      rw [lin_at px hx] at m1 m2
      have r1 : 0 ≤ loPx (cW C) (cH C) px ∧ loPx (cW C) (cH C) px ≤ 255 := r1
      have r2 : 0 ≤ hiPx (cW C) (cH C) px ∧ hiPx (cW C) (cH C) px ≤ 255 := r2
      have m1 : px x y ≤ hiPx (cW C) (cH C) px := m1
      have m2 : loPx (cW C) (cH C) px ≤ px x y := m2
      have e : adI (cW C) (cH C) px (cL C i 0) (cL C i 1) (cL C i 2) x y = if hiPx (cW C) (cH C) px ≤ loPx (cW C) (cH C) px then px x y else (px x y - loPx (cW C) (cH C) px) * 255 / (hiPx (cW C) (cH C) px - loPx (cW C) (cH C) px) := by
        unfold adI
        rw [c13]
        rfl
      rw [e]
      have y1 : (iI (hiPx (cW C) (cH C) px) = iI (loPx (cW C) (cH C) px)) ↔ hiPx (cW C) (cH C) px = loPx (cW C) (cH C) px := i_eq (by omega) (by omega) (by omega) (by omega)
      have y2 : (iI (hiPx (cW C) (cH C) px - loPx (cW C) (cH C) px) = nI 0) ↔ hiPx (cW C) (cH C) px - loPx (cW C) (cH C) px = 0 := i_eq (b := 0) (by omega) (by omega) (by omega) (by omega)
      rw [show (255 : Int32) = iI 255 from rfl]
      simp only [zlt_e, onR_s, nul_s, nul_n, chk_e, bnI_s, bnR_s, bnV_s, zi_si, zi_sr, zi_sl, zi_sa, zi_sq, zr_si, zr_sr, zr_sl, zr_sa, zr_sq, zl_si, zl_sr, zl_sl, zl_sa, zl_sq, zai_si, zai_sr, zai_sl, zai_sa, zai_sq, zar_si, zar_sr, zar_sl, zar_sa, zar_sq, zkd_si, zkd_sr, zkd_sl, zkd_sa, zkd_sq, zln_si, zln_sr, zln_sl, zln_sa, zln_sq, znx_si, znx_sr, znx_sl, znx_sa, znx_sq, hM.k, if_true, hE1, hE2, y1, i_sub, i_mul, y2]
      by_cases e1 : hiPx (cW C) (cH C) px = loPx (cW C) (cH C) px
      · rw [if_pos e1, if_pos (by omega)]
        exact ⟨σ, rfl, zFr.rf σ, fun _ _ => rfl⟩
      · rw [if_neg e1, if_neg (by omega), if_neg (by omega), i_div (by omega) (by omega) (by omega) (by omega), Int.tdiv_eq_ediv_of_nonneg (by omega)]
        exact ⟨σ, rfl, zFr.rf σ, fun _ _ => rfl⟩
    rw [if_neg c13]
    simp only [zlt_e, onR_s, nul_s, nul_n, chk_e, bnI_s, bnR_s, bnV_s, zi_si, zi_sr, zi_sl, zi_sa, zi_sq, zr_si, zr_sr, zr_sl, zr_sa, zr_sq, zl_si, zl_sr, zl_sl, zl_sa, zl_sq, zai_si, zai_sr, zai_sl, zai_sa, zai_sq, zar_si, zar_sr, zar_sl, zar_sa, zar_sq, zkd_si, zkd_sr, zkd_sl, zkd_sa, zkd_sq, zln_si, zln_sr, zln_sl, zln_sa, zln_sq, znx_si, znx_sr, znx_sl, znx_sa, znx_sq, hM.k, if_true, pt (Or.inl (by omega)) (d + 1)]
    exact ⟨σ, rfl, zFr.rf σ, fun _ _ => rfl⟩
