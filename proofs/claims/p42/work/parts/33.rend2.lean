/-- the class sorts the neighbours where they lie -/
theorem s_sort {σ : zS} {R n : Nat} {f : Nat → Int} (hR : RdS σ R) (hN : NbV σ R n f) (h0 : 1 ≤ n) (hn : n ≤ 49) (hf : ∀ k, k < n → 0 ≤ f k ∧ f k ≤ 255) (d : Nat) : ∃ τ, zEv (d + 1) mX7_sortNeighbours [.inr (.inl (some R))] σ = some (none, τ) ∧ zFr (inN R) σ τ ∧ (∀ g a, zi τ g a = zi σ g a) ∧ NbV τ R n (srt f n) := by
  rw [vX7_sortNeighbours]
  unfold fX7_sortNeighbours
  simp only [zlt_e, onR_s, nul_s, nul_n, chk_e, bnI_s, bnR_s, bnV_s, zi_si, zi_sr, zi_sl, zi_sa, zi_sq, zr_si, zr_sr, zr_sl, zr_sa, zr_sq, zl_si, zl_sr, zl_sl, zl_sa, zl_sq, zai_si, zai_sr, zai_sl, zai_sa, zai_sq, zar_si, zar_sr, zar_sl, zar_sa, zar_sq, zkd_si, zkd_sr, zkd_sl, zkd_sa, zkd_sq, zln_si, zln_sr, zln_sl, zln_sa, zln_sq, znx_si, znx_sr, znx_sl, znx_sa, znx_sq]
  -- one value finds its place
  have put : ∀ (i : Nat) (τ : zS), i < n → zFr (inN R) σ τ → (∀ g a, zi τ g a = zi σ g a) → (∀ k, k < n → zai τ (R + 3) k = iI (if k < i then srt f i k else f k)) → ∃ τ' z, LX7_sortNeighbours_28 (zEv d) R (nI i) (iI (f i)) (nI i) τ = LX7_sortNeighbours_2 (zEv d) R (nI (i + 1)) (.inl (iI (f i))) z τ' ∧ zFr (inN R) σ τ' ∧ (∀ g a, zi τ' g a = zi σ g a) ∧ ∀ k, k < n → zai τ' (R + 3) k = iI (if k < i + 1 then srt f (i + 1) k else f k) := by
    intro i τ hi g gi ga
    have hfi := hf i hi
    -- places above j have been moved up
    have go : ∀ j (υ : zS), j ≤ i → posI (srt f i) (f i) i = posI (srt f i) (f i) j → zFr (inN R) σ υ → (∀ g a, zi υ g a = zi σ g a) → (∀ k, k < n → k ≠ j → zai υ (R + 3) k = iI (if k < j then srt f i k else if k ≤ i then srt f i (k - 1) else f k)) → ∃ τ' z, LX7_sortNeighbours_28 (zEv d) R (nI i) (iI (f i)) (nI j) υ = LX7_sortNeighbours_2 (zEv d) R (nI (i + 1)) (.inl (iI (f i))) z τ' ∧ zFr (inN R) σ τ' ∧ (∀ g a, zi τ' g a = zi σ g a) ∧ ∀ k, k < n → zai τ' (R + 3) k = iI (if k < i + 1 then srt f (i + 1) k else f k) := by
      intro j
      induction j with
      | zero =>
        intro υ hj hp g gi ga
        have hR' := hR.fr g
        refine ⟨zsa υ (R + 3) 0 (iI (f i)), .inl (nI 0), ?_, g.tr (zFr.sa _ (Or.inr rfl)), gi, fun k hk => ?_⟩
        · rw [uX7_sortNeighbours_28]
          simp only [zlt_e, onR_s, nul_s, nul_n, chk_e, bnI_s, bnR_s, bnV_s, zi_si, zi_sr, zi_sl, zi_sa, zi_sq, zr_si, zr_sr, zr_sl, zr_sa, zr_sq, zl_si, zl_sr, zl_sl, zl_sa, zl_sq, zai_si, zai_sr, zai_sl, zai_sa, zai_sq, zar_si, zar_sr, zar_sl, zar_sa, zar_sq, zkd_si, zkd_sr, zkd_sl, zkd_sa, zkd_sq, zln_si, zln_sr, zln_sl, zln_sa, zln_sq, znx_si, znx_sr, znx_sl, znx_sa, znx_sq, nL 0, n_le (show 0 < 2 ^ 31 by decide) (show 0 < 2 ^ 31 by decide), Nat.le_refl, if_true, hR'.1, hR'.2.2.2.1, hR'.2.2.2.2.1, hR'.2.2.2.2.2, n_zin (show 0 < 2 ^ 31 by decide), n_tn (show 0 < 2 ^ 31 by decide), show 0 < 49 by decide, and_self, nI_1]
        · rw [zai_sa]
          have hp0 : posI (srt f i) (f i) i = 0 := hp
          show _ = iI (if k < i + 1 then insI (srt f i) i (f i) k else f k)
          unfold insI
          rw [hp0]
          by_cases hk0 : k = 0
          · rw [if_pos ⟨rfl, hk0⟩, if_pos (by omega), if_neg (by omega), if_pos hk0]
          · rw [if_neg (by omega), ga k hk hk0, if_neg (by omega)]
            by_cases hki : k ≤ i
            · rw [if_pos hki, if_pos (by omega), if_neg (by omega), if_neg hk0]
            · rw [if_neg hki, if_neg (by omega)]
      | succ j ih =>
        intro υ hj hp g gi ga
        have hR' := hR.fr g
        have hs := srt_R (lo := 0) (hi := 255) i (fun k hk => hf k (by omega)) j (by omega)
        have ej : zai υ (R + 3) j = iI (srt f i j) := by
          rw [ga j (by omega) (by omega), if_pos (by omega)]
        have hle : (iI (srt f i j) ≤ iI (f i)) ↔ srt f i j ≤ f i := i_le (by omega) (by omega) (by omega) (by omega)
        have e : posI (srt f i) (f i) (j + 1) = if srt f i j > f i then posI (srt f i) (f i) j else j + 1 := rfl
        rw [uX7_sortNeighbours_28]
        simp only [zlt_e, onR_s, nul_s, nul_n, chk_e, bnI_s, bnR_s, bnV_s, zi_si, zi_sr, zi_sl, zi_sa, zi_sq, zr_si, zr_sr, zr_sl, zr_sa, zr_sq, zl_si, zl_sr, zl_sl, zl_sa, zl_sq, zai_si, zai_sr, zai_sl, zai_sa, zai_sq, zar_si, zar_sr, zar_sl, zar_sa, zar_sq, zkd_si, zkd_sr, zkd_sl, zkd_sa, zkd_sq, zln_si, zln_sr, zln_sl, zln_sa, zln_sq, znx_si, znx_sr, znx_sl, znx_sa, znx_sq, nL 0, n_le (show j + 1 < 2 ^ 31 by omega) (show 0 < 2 ^ 31 by decide), show ¬ j + 1 ≤ 0 by omega, if_false, if_true, hR'.1, hR'.2.2.2.1, hR'.2.2.2.2.1, hR'.2.2.2.2.2, nI_m, nI_p, n_zin (show j < 2 ^ 31 by omega), n_tn (show j < 2 ^ 31 by omega), n_zin (show j + 1 < 2 ^ 31 by omega), n_tn (show j + 1 < 2 ^ 31 by omega), show j < 49 by omega, show j + 1 < 49 by omega, and_self, ej, hle]
        by_cases hl : srt f i j ≤ f i
        · rw [if_pos hl]
          rw [e, if_neg (by omega)] at hp
          refine ⟨zsa υ (R + 3) (j + 1) (iI (f i)), .inl (nI (j + 1)), by simp only [nI_1], g.tr (zFr.sa _ (Or.inr rfl)), gi, fun k hk => ?_⟩
          rw [zai_sa]
          show _ = iI (if k < i + 1 then insI (srt f i) i (f i) k else f k)
          unfold insI
          rw [hp]
          by_cases hk0 : k = j + 1
          · rw [if_pos ⟨rfl, hk0⟩, if_pos (by omega), if_neg (by omega), if_pos hk0]
          · rw [if_neg (by omega), ga k hk hk0]
            by_cases hkj : k < j + 1
            · rw [if_pos hkj, if_pos (by omega), if_pos hkj]
            · rw [if_neg hkj]
              by_cases hki : k ≤ i
              · rw [if_pos hki, if_pos (by omega), if_neg hkj, if_neg hk0]
              · rw [if_neg hki, if_neg (by omega)]
        · rw [if_neg hl]
          rw [e, if_pos (by omega)] at hp
          refine ih (zsa υ (R + 3) (j + 1) (iI (srt f i j))) (by omega) hp (g.tr (zFr.sa _ (Or.inr rfl))) gi (fun k hk hkj => ?_)
          rw [zai_sa]
          by_cases hk0 : k = j + 1
          · rw [if_pos ⟨rfl, hk0⟩, if_neg (by omega), if_pos (by omega), hk0]
            rfl
          · rw [if_neg (by omega), ga k hk hk0]
            by_cases hk2 : k < j
            · rw [if_pos (by omega), if_pos hk2]
            · rw [if_neg (by omega), if_neg hk2]
    exact go i τ (Nat.le_refl _) rfl g gi (fun k hk hki => by
      rw [ga k hk]
      by_cases h : k < i
      · rw [if_pos h, if_pos h]
      · rw [if_neg h, if_neg h, if_neg (by omega)])
  obtain ⟨⟨τ, z1, z2⟩, h1, h2⟩ := loop_from (fun i (s : zS × zV × zV) => LX7_sortNeighbours_2 (zEv d) R (nI i) s.2.1 s.2.2 s.1) (fun i s => zFr (inN R) σ s.1 ∧ (∀ g a, zi s.1 g a = zi σ g a) ∧ ∀ k, k < n → zai s.1 (R + 3) k = iI (if k < i then srt f i k else f k)) 1 n (fun s => some (none, s.1)) (σ, .inr (.inr none), .inr (.inr none)) h0 ⟨zFr.rf σ, fun _ _ => rfl, fun k hk => by
      rw [hN.2 k hk]
      by_cases hk0 : k = 0
      · subst hk0
        rfl
      · rw [if_neg (by omega)]⟩
    (fun i s hi hI => by
      obtain ⟨g, gi, ga⟩ := hI
      have hR' := hR.fr g
      have en : zi s.1 322 R = nI n := (gi _ _).trans hN.1
      have ev : zai s.1 (R + 3) i = iI (f i) := by rw [ga i hi, if_neg (by omega)]
      obtain ⟨τ', z, k1, k2, k3, k4⟩ := put i s.1 hi g gi ga
      refine ⟨(τ', .inl (iI (f i)), z), ?_, k2, k3, k4⟩
      show LX7_sortNeighbours_2 _ _ _ _ _ _ = LX7_sortNeighbours_2 _ _ _ _ _ _
      rw [uX7_sortNeighbours_2]
      simp only [zlt_e, onR_s, nul_s, nul_n, chk_e, bnI_s, bnR_s, bnV_s, zi_si, zi_sr, zi_sl, zi_sa, zi_sq, zr_si, zr_sr, zr_sl, zr_sa, zr_sq, zl_si, zl_sr, zl_sl, zl_sa, zl_sq, zai_si, zai_sr, zai_sl, zai_sa, zai_sq, zar_si, zar_sr, zar_sl, zar_sa, zar_sq, zkd_si, zkd_sr, zkd_sl, zkd_sa, zkd_sq, zln_si, zln_sr, zln_sl, zln_sa, zln_sq, znx_si, znx_sr, znx_sl, znx_sa, znx_sq, hR'.1, hR'.2.2.2.1, hR'.2.2.2.2.1, hR'.2.2.2.2.2, if_true, en, n_ofNat, n_lt (show i < 2 ^ 31 by omega) (show n < 2 ^ 31 by omega), n_lt (show i < 2 ^ 31 by omega) (show 49 < 2 ^ 31 by decide), hi, show i < 49 by omega, n_zin (show i < 2 ^ 31 by omega), n_tn (show i < 2 ^ 31 by omega), and_self, ev]
      exact k1)
    (fun s hI => by
      have hR' := hR.fr hI.1
      have en : zi s.1 322 R = nI n := (hI.2.1 _ _).trans hN.1
      rw [uX7_sortNeighbours_2]
      simp only [zlt_e, onR_s, nul_s, nul_n, chk_e, bnI_s, bnR_s, bnV_s, zi_si, zi_sr, zi_sl, zi_sa, zi_sq, zr_si, zr_sr, zr_sl, zr_sa, zr_sq, zl_si, zl_sr, zl_sl, zl_sa, zl_sq, zai_si, zai_sr, zai_sl, zai_sa, zai_sq, zar_si, zar_sr, zar_sl, zar_sa, zar_sq, zkd_si, zkd_sr, zkd_sl, zkd_sa, zkd_sq, zln_si, zln_sr, zln_sl, zln_sa, zln_sq, znx_si, znx_sr, znx_sl, znx_sa, znx_sq, hR'.1, if_true, en, n_lt (show n < 2 ^ 31 by omega) (show n < 2 ^ 31 by omega), Nat.lt_irrefl, if_false])
  exact ⟨τ, h1, h2.1, h2.2.1, (h2.2.1 _ _).trans hN.1, fun k hk => by rw [h2.2.2 k hk, if_pos hk]⟩
theorem s_median {σ : zS} {R n : Nat} {f : Nat → Int} (hR : RdS σ R) (hN : NbV σ R n f) (h0 : 1 ≤ n) (hn : n ≤ 49) (hf : ∀ k, k < n → 0 ≤ f k ∧ f k ≤ 255) (d : Nat) : ∃ τ, zEv (d + 2) mX7_median [.inr (.inl (some R))] σ = some (some (.inl (iI (srt f n ((n - 1) / 2)))), τ) ∧ zFr (inN R) σ τ ∧ (∀ g a, zi τ g a = zi σ g a) := by
  obtain ⟨τ, h1, h2, h3, h4⟩ := s_sort hR hN h0 hn hf d
  have hR' := hR.fr h2
  obtain ⟨m, hm⟩ : ∃ m, n = m + 1 := ⟨n - 1, by omega⟩
  have e : (nI n - 1) / 2 = nI ((n - 1) / 2) := by
    rw [hm, nI_m, i_nI m, show (2 : Int32) = iI 2 from rfl, i_div (by omega) (by omega) (by decide) (by decide), Int.tdiv_eq_ediv_of_nonneg (by omega), i_nI]
    congr 1
  refine ⟨τ, ?_, h2, h3⟩
  rw [vX7_median]
  unfold fX7_median
  have hlt : (n - 1) / 2 < n := by omega
  simp only [zlt_e, onR_s, nul_s, nul_n, chk_e, bnI_s, bnR_s, bnV_s, zi_si, zi_sr, zi_sl, zi_sa, zi_sq, zr_si, zr_sr, zr_sl, zr_sa, zr_sq, zl_si, zl_sr, zl_sl, zl_sa, zl_sq, zai_si, zai_sr, zai_sl, zai_sa, zai_sq, zar_si, zar_sr, zar_sl, zar_sa, zar_sq, zkd_si, zkd_sr, zkd_sl, zkd_sa, zkd_sq, zln_si, zln_sr, zln_sl, zln_sa, zln_sq, znx_si, znx_sr, znx_sl, znx_sa, znx_sq, hR.1, if_true, h1, hR'.1, h4.1, e, hR'.2.2.2.1, hR'.2.2.2.2.1, hR'.2.2.2.2.2, nL 0, n_ofNat, n_lt (show (n - 1) / 2 < 2 ^ 31 by omega) (show 0 < 2 ^ 31 by decide), n_lt (show (n - 1) / 2 < 2 ^ 31 by omega) (show 49 < 2 ^ 31 by decide), Nat.not_lt_zero, if_false, show (n - 1) / 2 < 49 by omega, n_zin (show (n - 1) / 2 < 2 ^ 31 by omega), n_tn (show (n - 1) / 2 < 2 ^ 31 by omega), and_self, h4.2 _ hlt]
  rw [if_neg (by decide)]
theorem s_blended {m v n : Int} (hm : 0 ≤ m ∧ m ≤ 7) (hv : 0 ≤ v ∧ v ≤ 255) (hn : 0 ≤ n ∧ n ≤ 255) (d : Nat) (σ : zS) : zEv (d + 3) mX5_blended [.inl (iI m), .inl (iI v), .inl (iI n)] σ = some (some (.inl (iI (blI m v n))), σ) := by
  have p1 := mul_R hv hn
  have p2 := mul_R (a := 255 - v) (b := 255 - n) (by omega) (by omega)
  have d2 := dv_R (d := 255) (by decide) p2.1 p2.2
  have q : ∀ k : Int, 0 ≤ k → k ≤ 7 → ((iI m = iI k) ↔ m = k) := fun k h1 h2 => i_eq (by omega) (by omega) (by omega) (by omega)
  have q1 := q 1 (by decide) (by decide)
  have q2 := q 2 (by decide) (by decide)
  have q3 := q 3 (by decide) (by decide)
  have q4 := q 4 (by decide) (by decide)
  have q5 := q 5 (by decide) (by decide)
  have q6 := q 6 (by decide) (by decide)
  have q7 := q 7 (by decide) (by decide)
  rw [vX5_blended]
  unfold fX5_blended blI
  rw [show (1 : Int32) = iI 1 from rfl, show (2 : Int32) = iI 2 from rfl, show (3 : Int32) = iI 3 from rfl, show (4 : Int32) = iI 4 from rfl, show (5 : Int32) = iI 5 from rfl, show (6 : Int32) = iI 6 from rfl, show (7 : Int32) = iI 7 from rfl, show (255 : Int32) = iI 255 from rfl]
  simp only [q1, q2, q3, q4, q5, q6, q7, i_mul, i_sub, i_add]
  by_cases k1 : m = 1
  · rw [if_pos k1, if_pos k1, s_divided d σ (by omega) (by omega) (by decide) (by decide)]; rfl
  rw [if_neg k1, if_neg k1]
  by_cases k2 : m = 2
  · rw [if_pos k2, if_pos k2, s_divided d σ (by omega) (by omega) (by decide) (by decide), bnI_s, i_sub]
  rw [if_neg k2, if_neg k2]
  by_cases k3 : m = 3
  · rw [if_pos k3, if_pos k3, s_imax (d + 1) σ (by omega) (by omega) (by omega) (by omega)]; rfl
  rw [if_neg k3, if_neg k3]
  by_cases k4 : m = 4
  · rw [if_pos k4, if_pos k4, s_imin (d + 1) σ (by omega) (by omega) (by omega) (by omega)]; rfl
  rw [if_neg k4, if_neg k4]
  by_cases k5 : m = 5
  · rw [if_pos k5, if_pos k5, s_iabs (d + 1) σ (by omega) (by omega)]; rfl
  rw [if_neg k5, if_neg k5]
  by_cases k6 : m = 6
  · rw [if_pos k6, if_pos k6, s_clamped d σ (by omega) (by omega)]; rfl
  rw [if_neg k6, if_neg k6]
  by_cases k7 : m = 7
  · rw [if_pos k7, if_pos k7, s_clamped d σ (by omega) (by omega)]; rfl
  rw [if_neg k7, if_neg k7]
