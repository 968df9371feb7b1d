/-! the reference: masks -/
theorem MV.r {σ : zS} {m i j : Nat} {C : zC} (h : MV σ (m + 1) 0 C) (hi : i < cN C) (hj : j < 32) : zai σ (m + 1) (259 + 32 * i + j) = iI (cL C i j) := by
  have := h.2.2.2.2 i hi j hj
  rwa [Nat.zero_add] at this
theorem s_misDabbed {σ : zS} {m i x y : Nat} {C : zC} (hM : MS σ m) (hV : MV σ (m + 1) 0 C) (hn8 : cN C ≤ 8) (hg : GL (cL C i)) (hi : i < cN C) (hx : x < 16) (hy : y < 16) (d : Nat) : zEv (d + 1) mX11_isDabbed [.inr (.inl (some m)), .inl (nI (259 + 32 * i)), .inl (nI x), .inl (nI y)] σ = some (some (.inl (zb (dbI (cL C i) x y (cL C i 13).toNat = true))), σ) := by
  have hr := hg.2.2.2.2.2.2.2.2.2.2
  obtain ⟨n, hn⟩ : ∃ n : Nat, cL C i 13 = n := ⟨(cL C i 13).toNat, by have := hg.2.2.2.2.2.2.2.2.2.1; omega⟩
  have hn6 : n ≤ 6 := by have := hg.2.2.2.2.2.2.2.2.2.1; omega
  have v13 : zai σ (m + 1) (259 + 32 * i + 13) = nI n := by rw [hV.r hi (by decide), hn, i_nI]
  rw [vX11_isDabbed]
  unfold fX11_isDabbed
  simp only [zlt_e, onR_s, nul_s, nul_n, chk_e, bnI_s, bnR_s, bnV_s, zi_si, zi_sr, zi_sl, zi_sa, zi_sq, zr_si, zr_sr, zr_sl, zr_sa, zr_sq, zl_si, zl_sr, zl_sl, zl_sa, zl_sq, zai_si, zai_sr, zai_sl, zai_sa, zai_sq, zar_si, zar_sr, zar_sl, zar_sa, zar_sq, zkd_si, zkd_sr, zkd_sl, zkd_sa, zkd_sq, zln_si, zln_sr, zln_sl, zln_sa, zln_sq, znx_si, znx_sr, znx_sl, znx_sa, znx_sq]
  rw [hn, Int.toNat_natCast]
  obtain ⟨⟨t, z1, z2, z3⟩, h1, h2⟩ := loop_from (fun k (s : Int32 × zV × zV × zV) => LX11_isDabbed_6 (zEv d) m (nI (259 + 32 * i)) (nI x) (nI y) s.1 (nI k) s.2.1 s.2.2.1 s.2.2.2 σ) (fun k s => s.1 = zb (dbI (cL C i) x y k = true)) 0 n (fun s => some (some (.inl s.1), σ)) (0, .inr (.inr 0), .inr (.inr 0), .inr (.inr 0)) (Nat.zero_le _) rfl
    (fun k s hk hI => by
      have hI : s.1 = _ := hI
      have v0 : zai σ (m + 1) (259 + 32 * i + 14 + 3 * k) = iI (cL C i (14 + 3 * k)) := by rw [show 259 + 32 * i + 14 + 3 * k = 259 + 32 * i + (14 + 3 * k) by omega]; exact hV.r hi (show 14 + 3 * k < 32 by omega)
      have v1 : zai σ (m + 1) (259 + 32 * i + 14 + 3 * k + 1) = iI (cL C i (14 + 3 * k + 1)) := by rw [show 259 + 32 * i + 14 + 3 * k + 1 = 259 + 32 * i + (14 + 3 * k + 1) by omega]; exact hV.r hi (show 14 + 3 * k + 1 < 32 by omega)
      have v2 : zai σ (m + 1) (259 + 32 * i + 14 + 3 * k + 2) = iI (cL C i (14 + 3 * k + 2)) := by rw [show 259 + 32 * i + 14 + 3 * k + 2 = 259 + 32 * i + (14 + 3 * k + 2) by omega]; exact hV.r hi (show 14 + 3 * k + 2 < 32 by omega)
      have r0 := hr (3 * k) (by omega)
      have r1 := hr (3 * k + 1) (by omega)
      have r2 := hr (3 * k + 2) (by omega)
      have r1 : 0 ≤ cL C i (14 + 3 * k + 1) ∧ cL C i (14 + 3 * k + 1) ≤ 15 := r1
      have r2 : 0 ≤ cL C i (14 + 3 * k + 2) ∧ cL C i (14 + 3 * k + 2) ≤ 15 := r2
      have s0 := sq_R (a := (x : Int) - cL C i (14 + 3 * k)) (by omega) (by omega)
      have s1 := sq_R (a := (y : Int) - cL C i (14 + 3 * k + 1)) (by omega) (by omega)
      have s2 := sq_R (a := cL C i (14 + 3 * k + 2)) (by omega) (by omega)
      have hle : (iI (((x : Int) - cL C i (14 + 3 * k)) * ((x : Int) - cL C i (14 + 3 * k)) + ((y : Int) - cL C i (14 + 3 * k + 1)) * ((y : Int) - cL C i (14 + 3 * k + 1))) ≤ iI (cL C i (14 + 3 * k + 2) * cL C i (14 + 3 * k + 2))) ↔ _ := i_le (by omega) (by omega) (by omega) (by omega)
      have ek : dbI (cL C i) x y (k + 1) = (dbI (cL C i) x y k || decide (((x : Int) - cL C i (14 + 3 * k)) * ((x : Int) - cL C i (14 + 3 * k)) + ((y : Int) - cL C i (14 + 3 * k + 1)) * ((y : Int) - cL C i (14 + 3 * k + 1)) ≤ cL C i (14 + 3 * k + 2) * cL C i (14 + 3 * k + 2))) := rfl
      have e3 : nI 3 * nI k = nI (3 * k) := pk_mul 3 k
      have exx : nI x - iI (cL C i (14 + 3 * k)) = iI ((x : Int) - cL C i (14 + 3 * k)) := by rw [i_nI, i_sub]
      have eyy : nI y - iI (cL C i (14 + 3 * k + 1)) = iI ((y : Int) - cL C i (14 + 3 * k + 1)) := by rw [i_nI, i_sub]
      refine ⟨(zb (dbI (cL C i) x y (k + 1) = true), .inl (iI ((x : Int) - cL C i (14 + 3 * k))), .inl (iI ((y : Int) - cL C i (14 + 3 * k + 1))), .inl (iI (cL C i (14 + 3 * k + 2)))), ?_, rfl⟩
      show LX11_isDabbed_6 _ _ _ _ _ _ _ _ _ _ _ = LX11_isDabbed_6 _ _ _ _ _ _ _ _ _ _ _
      rw [uX11_isDabbed_6, show (13 : Int32) = nI 13 from rfl, show (14 : Int32) = nI 14 from rfl, show (3 : Int32) = nI 3 from rfl, show (2 : Int32) = nI 2 from rfl]
      simp only [zlt_e, onR_s, nul_s, nul_n, chk_e, bnI_s, bnR_s, bnV_s, zi_si, zi_sr, zi_sl, zi_sa, zi_sq, zr_si, zr_sr, zr_sl, zr_sa, zr_sq, zl_si, zl_sr, zl_sl, zl_sa, zl_sq, zai_si, zai_sr, zai_sl, zai_sa, zai_sq, zar_si, zar_sr, zar_sl, zar_sa, zar_sq, zkd_si, zkd_sr, zkd_sl, zkd_sa, zkd_sq, zln_si, zln_sr, zln_sl, zln_sa, zln_sq, znx_si, znx_sr, znx_sl, znx_sa, znx_sq, hM.k, hM.s.1, hM.s.2.1, hM.s.2.2, if_true, nI_add, nI_1, e3, n_zin (show 259 + 32 * i + 13 < 2 ^ 31 by omega), n_tn (show 259 + 32 * i + 13 < 2 ^ 31 by omega), show 259 + 32 * i + 13 < 515 by omega, v13, n_lt (show k < 2 ^ 31 by omega) (show n < 2 ^ 31 by omega), hk, n_zin (show 259 + 32 * i + 14 + 3 * k < 2 ^ 31 by omega), n_tn (show 259 + 32 * i + 14 + 3 * k < 2 ^ 31 by omega), show 259 + 32 * i + 14 + 3 * k < 515 by omega, n_zin (show 259 + 32 * i + 14 + 3 * k + 1 < 2 ^ 31 by omega), n_tn (show 259 + 32 * i + 14 + 3 * k + 1 < 2 ^ 31 by omega), show 259 + 32 * i + 14 + 3 * k + 1 < 515 by omega, n_zin (show 259 + 32 * i + 14 + 3 * k + 2 < 2 ^ 31 by omega), n_tn (show 259 + 32 * i + 14 + 3 * k + 2 < 2 ^ 31 by omega), show 259 + 32 * i + 14 + 3 * k + 2 < 515 by omega, and_self, v0, v1, v2, exx, eyy, i_mul, i_add, hle, hI, zb_0]
      cases hb : dbI (cL C i) x y k with
      | true =>
        rw [if_neg (by simp), ek, hb, Bool.true_or]
        rfl
      | false =>
        rw [if_pos (by simp), ek, hb, Bool.false_or]
        by_cases hc : ((x : Int) - cL C i (14 + 3 * k)) * ((x : Int) - cL C i (14 + 3 * k)) + ((y : Int) - cL C i (14 + 3 * k + 1)) * ((y : Int) - cL C i (14 + 3 * k + 1)) ≤ cL C i (14 + 3 * k + 2) * cL C i (14 + 3 * k + 2)
        · rw [if_pos hc, zb_t (by simpa using hc)]
        · rw [if_neg hc, zb_f (by simpa using hc)])
    (fun s hI => by
      have hI : s.1 = _ := hI
      rw [uX11_isDabbed_6, show (13 : Int32) = nI 13 from rfl]
      simp only [zlt_e, onR_s, nul_s, nul_n, chk_e, bnI_s, bnR_s, bnV_s, zi_si, zi_sr, zi_sl, zi_sa, zi_sq, zr_si, zr_sr, zr_sl, zr_sa, zr_sq, zl_si, zl_sr, zl_sl, zl_sa, zl_sq, zai_si, zai_sr, zai_sl, zai_sa, zai_sq, zar_si, zar_sr, zar_sl, zar_sa, zar_sq, zkd_si, zkd_sr, zkd_sl, zkd_sa, zkd_sq, zln_si, zln_sr, zln_sl, zln_sa, zln_sq, znx_si, znx_sr, znx_sl, znx_sa, znx_sq, hM.k, hM.s.1, hM.s.2.1, hM.s.2.2, if_true, nI_add, n_zin (show 259 + 32 * i + 13 < 2 ^ 31 by omega), n_tn (show 259 + 32 * i + 13 < 2 ^ 31 by omega), show 259 + 32 * i + 13 < 515 by omega, v13, n_lt (show n < 2 ^ 31 by omega) (show n < 2 ^ 31 by omega), Nat.lt_irrefl, if_false, and_self, hI]
      rw [if_pos zb_B])
  have h2 : t = _ := h2
  rw [h2] at h1
  exact h1
theorem s_mplain {σ : zS} {m i x y : Nat} {C : zC} {v : Int} (hM : MS σ m) (hV : MV σ (m + 1) 0 C) (hn8 : cN C ≤ 8) (hg : GL (cL C i)) (hi : i < cN C) (hx : x < 16) (hy : y < 16) (hv : 0 ≤ v ∧ v ≤ 255) (d : Nat) : zEv (d + 2) mX11_plainMask [.inr (.inl (some m)), .inl (nI (259 + 32 * i)), .inl (nI x), .inl (nI y), .inl (iI v)] σ = some (some (.inl (iI (mkI (cL C i) x y v))), σ) := by
  have v6 := hV.r hi (show 6 < 32 by decide)
  have v7 := hV.r hi (show 7 < 32 by decide)
  have v8 := hV.r hi (show 8 < 32 by decide)
  have v9 := hV.r hi (show 9 < 32 by decide)
  have v10 := hV.r hi (show 10 < 32 by decide)
  have v11 := hV.r hi (show 11 < 32 by decide)
  have hk := hg.2.2.2.2.2.1
  have hm := hg.2.2.2.2.2.2.1
  have hf := hg.2.2.2.2.2.2.2.1
  unfold okM at hm
  have q : ∀ k : Int, 0 ≤ k → k ≤ 4 → ((iI (cL C i 6) = iI k) ↔ cL C i 6 = k) := fun k h1 h2 => i_eq (by omega) (by omega) (by omega) (by omega)
  have q0 : (iI (cL C i 6) = 0) ↔ cL C i 6 = 0 := q 0 (by decide) (by decide)
  have q1 : (iI (cL C i 6) = 1) ↔ cL C i 6 = 1 := q 1 (by decide) (by decide)
  have q2 : (iI (cL C i 6) = 2) ↔ cL C i 6 = 2 := q 2 (by decide) (by decide)
  have q3 : (iI (cL C i 6) = 3) ↔ cL C i 6 = 3 := q 3 (by decide) (by decide)
  rw [vX11_plainMask]
  unfold fX11_plainMask
  rw [show (7 : Int32) = nI 7 from rfl, show (6 : Int32) = nI 6 from rfl]
  simp only [zlt_e, onR_s, nul_s, nul_n, chk_e, bnI_s, bnR_s, bnV_s, zi_si, zi_sr, zi_sl, zi_sa, zi_sq, zr_si, zr_sr, zr_sl, zr_sa, zr_sq, zl_si, zl_sr, zl_sl, zl_sa, zl_sq, zai_si, zai_sr, zai_sl, zai_sa, zai_sq, zar_si, zar_sr, zar_sl, zar_sa, zar_sq, zkd_si, zkd_sr, zkd_sl, zkd_sa, zkd_sq, zln_si, zln_sr, zln_sl, zln_sa, zln_sq, znx_si, znx_sr, znx_sl, znx_sa, znx_sq, hM.k, hM.s.1, hM.s.2.1, hM.s.2.2, if_true, nI_add, nI_1]
  rw [show (2 : Int32) = nI 2 from rfl, show (3 : Int32) = nI 3 from rfl]
  simp only [nI_add, Nat.add_assoc, show 7 + 1 = 8 from rfl, show 7 + 2 = 9 from rfl, show 7 + 3 = 10 from rfl]
  simp only [← Nat.add_assoc]
  simp only [n_zin (show 259 + 32 * i + 7 < 2 ^ 31 by omega), n_tn (show 259 + 32 * i + 7 < 2 ^ 31 by omega), show 259 + 32 * i + 7 < 515 by omega, n_zin (show 259 + 32 * i + 8 < 2 ^ 31 by omega), n_tn (show 259 + 32 * i + 8 < 2 ^ 31 by omega), show 259 + 32 * i + 8 < 515 by omega, n_zin (show 259 + 32 * i + 9 < 2 ^ 31 by omega), n_tn (show 259 + 32 * i + 9 < 2 ^ 31 by omega), show 259 + 32 * i + 9 < 515 by omega, n_zin (show 259 + 32 * i + 10 < 2 ^ 31 by omega), n_tn (show 259 + 32 * i + 10 < 2 ^ 31 by omega), show 259 + 32 * i + 10 < 515 by omega, n_zin (show 259 + 32 * i + 6 < 2 ^ 31 by omega), n_tn (show 259 + 32 * i + 6 < 2 ^ 31 by omega), show 259 + 32 * i + 6 < 515 by omega, and_self, if_true, v6, v7, v8, v9, v10, v11, show nI 2 = (2 : Int32) from rfl, show nI 3 = (3 : Int32) from rfl, q0, q1, q2, q3]
  unfold mkI
  by_cases c0 : cL C i 6 = 0
  · rw [if_pos c0, if_neg (by omega), if_neg (by omega), if_neg (by omega), if_neg (by omega)]
    rfl
  rw [if_neg c0]
  by_cases c1 : cL C i 6 = 1
  · rw [if_pos c1] at hm
    rw [if_pos c1, if_pos c1, i_nI x, s_beyond d σ (by omega) (by omega) (by omega) (by omega)]
    simp only [zlt_e, onR_s, nul_s, nul_n, chk_e, bnI_s, bnR_s, bnV_s, zi_si, zi_sr, zi_sl, zi_sa, zi_sq, zr_si, zr_sr, zr_sl, zr_sa, zr_sq, zl_si, zl_sr, zl_sl, zl_sa, zl_sq, zai_si, zai_sr, zai_sl, zai_sa, zai_sq, zar_si, zar_sr, zar_sl, zar_sa, zar_sq, zkd_si, zkd_sr, zkd_sl, zkd_sa, zkd_sq, zln_si, zln_sr, zln_sl, zln_sa, zln_sq, znx_si, znx_sr, znx_sl, znx_sa, znx_sq]
    rw [i_nI y, s_beyond d σ (by omega) (by omega) (by omega) (by omega)]
    simp only [zlt_e, onR_s, nul_s, nul_n, chk_e, bnI_s, bnR_s, bnV_s, zi_si, zi_sr, zi_sl, zi_sa, zi_sq, zr_si, zr_sr, zr_sl, zr_sa, zr_sq, zl_si, zl_sr, zl_sl, zl_sa, zl_sq, zai_si, zai_sr, zai_sl, zai_sa, zai_sq, zar_si, zar_sr, zar_sl, zar_sa, zar_sq, zkd_si, zkd_sr, zkd_sl, zkd_sa, zkd_sq, zln_si, zln_sr, zln_sl, zln_sa, zln_sq, znx_si, znx_sr, znx_sl, znx_sa, znx_sq]
    generalize hA : max 0 (max (cL C i 7 - (x : Int)) ((x : Int) - cL C i 9)) = A
    generalize hB : max 0 (max (cL C i 8 - (y : Int)) ((y : Int) - cL C i 10)) = B
    have eD : max 0 (max (max (cL C i 7 - (x : Int)) ((x : Int) - cL C i 9)) (max (cL C i 8 - (y : Int)) ((y : Int) - cL C i 10))) = max A B := by omega
    rw [eD]
    have fin : ∀ D : Int, D = max A B → LX11_plainMask_126 (zEv (d + 1)) m (nI (259 + 32 * i)) (.inl (iI x)) (.inl (iI y)) (.inl (iI v)) (.inl (iI (cL C i 7))) (.inl (iI (cL C i 8))) (.inl (iI (cL C i 9))) (.inl (iI (cL C i 10))) (.inl (iI A)) (.inl (iI B)) (iI D) σ = some (some (.inl (iI (if max A B < cL C i 11 + 1 then 255 * (cL C i 11 + 1 - max A B) / (cL C i 11 + 1) else 0))), σ) := by
      intro D hD
      have hD2 : 0 ≤ D ∧ D ≤ 1000 := by omega
      rw [uX11_plainMask_126, show (11 : Int32) = nI 11 from rfl, show (0 : Int32) = iI 0 from rfl, show (1 : Int32) = iI 1 from rfl, show (255 : Int32) = iI 255 from rfl]
      have z1 : (iI D = iI 0) ↔ D = 0 := i_eq (by omega) (by omega) (by omega) (by omega)
      have z2 : (iI D ≤ iI (cL C i 11)) ↔ D ≤ cL C i 11 := i_le (by omega) (by omega) (by omega) (by omega)
      have z3 : (iI (cL C i 11 + 1) = iI 0) ↔ cL C i 11 + 1 = 0 := i_eq (by omega) (by omega) (by omega) (by omega)
      simp only [zlt_e, onR_s, nul_s, nul_n, chk_e, bnI_s, bnR_s, bnV_s, zi_si, zi_sr, zi_sl, zi_sa, zi_sq, zr_si, zr_sr, zr_sl, zr_sa, zr_sq, zl_si, zl_sr, zl_sl, zl_sa, zl_sq, zai_si, zai_sr, zai_sl, zai_sa, zai_sq, zar_si, zar_sr, zar_sl, zar_sa, zar_sq, zkd_si, zkd_sr, zkd_sl, zkd_sa, zkd_sq, zln_si, zln_sr, zln_sl, zln_sa, zln_sq, znx_si, znx_sr, znx_sl, znx_sa, znx_sq, hM.k, hM.s.1, hM.s.2.1, hM.s.2.2, if_true, nI_add, n_zin (show 259 + 32 * i + 11 < 2 ^ 31 by omega), n_tn (show 259 + 32 * i + 11 < 2 ^ 31 by omega), show 259 + 32 * i + 11 < 515 by omega, and_self, v11, i_add, i_sub, i_mul, z1, z2, z3]
      rw [← hD]
      by_cases d0 : D = 0
      · rw [if_pos d0, if_pos (by omega), d0, Int.sub_zero, Int.mul_ediv_cancel _ (by omega)]
      · rw [if_neg d0]
        by_cases d1 : D ≤ cL C i 11
        · rw [if_pos d1, if_neg (by omega), if_pos (by omega), i_div (by omega) (by omega) (by omega) (by omega), Int.tdiv_eq_ediv_of_nonneg (by omega)]
        · rw [if_neg d1, if_neg (by omega)]
    have zAB : (iI A ≤ iI B) ↔ A ≤ B := i_le (by omega) (by omega) (by omega) (by omega)
    simp only [zAB]
    by_cases hAB : A ≤ B
    · rw [if_pos hAB]; exact fin B (by omega)
    · rw [if_neg hAB]; exact fin A (by omega)
  rw [if_neg c1, if_neg c1]
  rw [if_neg c1] at hm
  by_cases c2 : cL C i 6 = 2
  · rw [if_pos c2] at hm
    rw [if_pos c2, if_pos c2, i_nI x]
    rw [show (0 : Int32) = iI 0 from rfl, show (255 : Int32) = iI 255 from rfl]
    have z1 : (iI (x : Int) ≤ iI (cL C i 7)) ↔ (x : Int) ≤ cL C i 7 := i_le (by omega) (by omega) (by omega) (by omega)
    have z2 : (iI (x : Int) < iI (cL C i 9)) ↔ (x : Int) < cL C i 9 := i_lt (by omega) (by omega) (by omega) (by omega)
    have z3 : (iI (cL C i 9 - cL C i 7) = iI 0) ↔ cL C i 9 - cL C i 7 = 0 := i_eq (by omega) (by omega) (by omega) (by omega)
    simp only [i_sub, i_mul, z1, z2, z3]
    by_cases e1 : (x : Int) ≤ cL C i 7
    · rw [if_pos e1, if_pos e1]
    · rw [if_neg e1, if_neg e1]
      by_cases e2 : (x : Int) < cL C i 9
      · rw [if_pos e2, if_pos e2, if_neg (by omega), i_div (by omega) (by omega) (by omega) (by omega), Int.tdiv_eq_ediv_of_nonneg (by omega)]
      · rw [if_neg e2, if_neg e2]
  rw [if_neg c2, if_neg c2]
  by_cases c3 : cL C i 6 = 3
  · rw [if_pos c3, if_pos c3]
  rw [if_neg c3, if_neg c3, if_pos (show cL C i 6 = 4 by omega), s_misDabbed hM hV hn8 hg hi hx hy d]
  simp only [zlt_e, onR_s, nul_s, nul_n, chk_e, bnI_s, bnR_s, bnV_s, zi_si, zi_sr, zi_sl, zi_sa, zi_sq, zr_si, zr_sr, zr_sl, zr_sa, zr_sq, zl_si, zl_sr, zl_sl, zl_sa, zl_sq, zai_si, zai_sr, zai_sl, zai_sa, zai_sq, zar_si, zar_sr, zar_sl, zar_sa, zar_sq, zkd_si, zkd_sr, zkd_sl, zkd_sa, zkd_sq, zln_si, zln_sr, zln_sl, zln_sa, zln_sq, znx_si, znx_sr, znx_sl, znx_sa, znx_sq, zb_0]
  cases hb : dbI (cL C i) x y (cL C i 13).toNat with
  | true => rw [if_neg (by simp), if_pos rfl]; rfl
  | false => rw [if_pos (by simp), if_neg (by simp)]; rfl
theorem s_mmaskAt {σ : zS} {m i x y : Nat} {C : zC} {v : Int} (hM : MS σ m) (hV : MV σ (m + 1) 0 C) (hn8 : cN C ≤ 8) (hg : GL (cL C i)) (hi : i < cN C) (hx : x < 16) (hy : y < 16) (hv : 0 ≤ v ∧ v ≤ 255) (d : Nat) : zEv (d + 3) mX11_maskAt [.inr (.inl (some m)), .inl (nI (259 + 32 * i)), .inl (nI x), .inl (nI y), .inl (iI v)] σ = some (some (.inl (iI (wtI (cL C i) x y v))), σ) := by
  have v12 := hV.r hi (show 12 < 32 by decide)
  have q1 : (iI (cL C i 12) = 1) ↔ cL C i 12 = 1 := by rcases hg.2.2.2.2.2.2.2.2.1 with h | h <;> rw [h] <;> decide
  rw [vX11_maskAt]
  unfold fX11_maskAt
  simp only [zlt_e, onR_s, nul_s, nul_n, chk_e, bnI_s, bnR_s, bnV_s, zi_si, zi_sr, zi_sl, zi_sa, zi_sq, zr_si, zr_sr, zr_sl, zr_sa, zr_sq, zl_si, zl_sr, zl_sl, zl_sa, zl_sq, zai_si, zai_sr, zai_sl, zai_sa, zai_sq, zar_si, zar_sr, zar_sl, zar_sa, zar_sq, zkd_si, zkd_sr, zkd_sl, zkd_sa, zkd_sq, zln_si, zln_sr, zln_sl, zln_sa, zln_sq, znx_si, znx_sr, znx_sl, znx_sa, znx_sq, hM.k, hM.s.1, hM.s.2.1, hM.s.2.2, if_true, s_mplain hM hV hn8 hg hi hx hy hv, nL 12, nI_add, n_zin (show 259 + 32 * i + 12 < 2 ^ 31 by omega), n_tn (show 259 + 32 * i + 12 < 2 ^ 31 by omega), show 259 + 32 * i + 12 < 515 by omega, and_self, v12, q1]
  unfold wtI
  by_cases c : cL C i 12 = 1
  · rw [if_pos c, if_pos c, show (255 : Int32) = iI 255 from rfl, i_sub]
  · rw [if_neg c, if_neg c]
