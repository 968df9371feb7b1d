/-! the class's renderer: neighbours -/
def RdS (σ : zS) (R : Nat) : Prop := zkd σ R = 5 ∧ zr σ 320 R = some (R + 1) ∧ PicS σ (R + 1) ∧ zr σ 321 R = some (R + 3) ∧ zkd σ (R + 3) = 11 ∧ zln σ (R + 3) = 49
/-- the cells that hold the neighbours -/
def inN (R a : Nat) : Prop := a = R ∨ a = R + 3
theorem RdS.fr {P : Nat → Prop} {σ τ : zS} {R : Nat} (h : RdS σ R) (g : zFr P σ τ) : RdS τ R := by
  refine ⟨?_, ?_, h.2.2.1.fr g, ?_, ?_, ?_⟩
  · rw [g.kd]; exact h.1
  · rw [g.r]; exact h.2.1
  · rw [g.r]; exact h.2.2.2.1
  · rw [g.kd]; exact h.2.2.2.2.1
  · rw [g.ln]; exact h.2.2.2.2.2
/-- n neighbours are gathered -/
def NbV (σ : zS) (R n : Nat) (f : Nat → Int) : Prop := zi σ 322 R = nI n ∧ ∀ k, k < n → zai σ (R + 3) k = iI (f k)
theorem s_gather {σ : zS} {R p w h x y r : Nat} {px : Nat → Nat → Int} (hR : RdS σ R) (hp : PicS σ p) (hv : PicV σ p w h px) (hw : w ≤ 16) (hh : h ≤ 16) (hx : x < w) (hy : y < h) (hr : r ≤ 3) (hd : R ≠ p ∧ R + 3 ≠ p ∧ R ≠ p + 1 ∧ R + 3 ≠ p + 1) (d : Nat) : ∃ τ, zEv (d + 2) mX7_gatherNeighbours [.inr (.inl (some R)), .inr (.inl (some p)), .inl (nI x), .inl (nI y), .inl (nI r)] σ = some (none, τ) ∧ zFr (inN R) σ τ ∧ zi τ 323 R = zi σ 323 R ∧ zi τ 324 R = zi σ 324 R ∧ NbV τ R (nbN w h x y r) (nbF w px x y r) := by
  have e1 : (1 : Int32) = iI 1 := rfl
  have e0 : (0 : Int32) = iI 0 := rfl
  have hne : p ≠ R := fun e => hd.1 e.symm
  have eR : iI (min ((x : Int) + r) ((w : Int) - 1)) = nI (min (x + r) (w - 1)) := by rw [i_nI]; congr 1; omega
  have eB : iI (min ((y : Int) + r) ((h : Int) - 1)) = nI (min (y + r) (h - 1)) := by rw [i_nI]; congr 1; omega
  have eT : iI (max 0 ((y : Int) - r)) = nI (y - r) := by rw [i_nI]; congr 1; omega
  have eL : iI (max 0 ((x : Int) - r)) = nI (x - r) := by rw [i_nI]; congr 1; omega
  have hF : zFr (inN R) σ (zsi σ 322 R 0) := zFr.si σ (Or.inl rfl)
  have hW := nbW_le (w := w) (x := x) hr
  have hH := nbW_le (w := h) (x := y) hr
  rw [vX7_gatherNeighbours]
  unfold fX7_gatherNeighbours
  simp only [zlt_e, onR_s, nul_s, nul_n, chk_e, bnI_s, bnR_s, bnV_s, zi_si, zi_sr, zi_sl, zi_sa, zi_sq, zr_si, zr_sr, zr_sl, zr_sa, zr_sq, zl_si, zl_sr, zl_sl, zl_sa, zl_sq, zai_si, zai_sr, zai_sl, zai_sa, zai_sq, zar_si, zar_sr, zar_sl, zar_sa, zar_sq, zkd_si, zkd_sr, zkd_sl, zkd_sa, zkd_sq, zln_si, zln_sr, zln_sl, zln_sa, zln_sq, znx_si, znx_sr, znx_sl, znx_sa, znx_sq, hR.1, hp.1, hv.1, hv.2.1, if_true, hne, and_false, if_false]
  rw [i_nI x, i_nI r, i_add, i_nI w, e1, i_sub, s_imin d _ (by omega) (by omega) (by omega) (by omega)]
  simp only [zlt_e, onR_s, nul_s, nul_n, chk_e, bnI_s, bnR_s, bnV_s, zi_si, zi_sr, zi_sl, zi_sa, zi_sq, zr_si, zr_sr, zr_sl, zr_sa, zr_sq, zl_si, zl_sr, zl_sl, zl_sa, zl_sq, zai_si, zai_sr, zai_sl, zai_sa, zai_sq, zar_si, zar_sr, zar_sl, zar_sa, zar_sq, zkd_si, zkd_sr, zkd_sl, zkd_sa, zkd_sq, zln_si, zln_sr, zln_sl, zln_sa, zln_sq, znx_si, znx_sr, znx_sl, znx_sa, znx_sq, hp.1, hv.2.1, if_true, hne, and_false, if_false]
  rw [i_nI y, i_add, i_nI h, i_sub, s_imin d _ (by omega) (by omega) (by omega) (by omega)]
  simp only [zlt_e, onR_s, nul_s, nul_n, chk_e, bnI_s, bnR_s, bnV_s, zi_si, zi_sr, zi_sl, zi_sa, zi_sq, zr_si, zr_sr, zr_sl, zr_sa, zr_sq, zl_si, zl_sr, zl_sl, zl_sa, zl_sq, zai_si, zai_sr, zai_sl, zai_sa, zai_sq, zar_si, zar_sr, zar_sl, zar_sa, zar_sq, zkd_si, zkd_sr, zkd_sl, zkd_sa, zkd_sq, zln_si, zln_sr, zln_sl, zln_sa, zln_sq, znx_si, znx_sr, znx_sl, znx_sa, znx_sq]
  rw [i_sub, e0, s_imax d _ (by omega) (by omega) (by omega) (by omega)]
  simp only [zlt_e, onR_s, nul_s, nul_n, chk_e, bnI_s, bnR_s, bnV_s, zi_si, zi_sr, zi_sl, zi_sa, zi_sq, zr_si, zr_sr, zr_sl, zr_sa, zr_sq, zl_si, zl_sr, zl_sl, zl_sa, zl_sq, zai_si, zai_sr, zai_sl, zai_sa, zai_sq, zar_si, zar_sr, zar_sl, zar_sa, zar_sq, zkd_si, zkd_sr, zkd_sl, zkd_sa, zkd_sq, zln_si, zln_sr, zln_sl, zln_sa, zln_sq, znx_si, znx_sr, znx_sl, znx_sa, znx_sq, eR, eB, eT]
  have hbef : ∀ {i j}, i < nbW w x r → j < nbW h y r → j * nbW w x r + i < 49 := fun {i j} hi hj => by
    have := lin_ix hi hj
    have := nbN_le (w := w) (h := h) (x := x) (y := y) hr
    unfold nbN at this
    omega
  rw [← e0, ← i_nI x, ← i_nI y, ← i_nI r]
  obtain ⟨⟨τ, z1, z2⟩, h1, h2⟩ := grid (fun j (s : zS × zV × zV) => LX7_gatherNeighbours_45 (zEv (d + 1)) R (some p) (nI x) s.2.1 (nI r) (nI (min (x + r) (w - 1))) (nI (min (y + r) (h - 1))) (nI (y - r + j)) s.2.2 s.1)
    (fun j i s => LX7_gatherNeighbours_62 (zEv (d + 1)) R (some p) (nI x) s.2.1 (nI r) (nI (min (x + r) (w - 1))) (nI (min (y + r) (h - 1))) (nI (y - r + j)) (nI (x - r + i)) s.1)
    (fun j i s => zFr (inN R) σ s.1 ∧ zi s.1 323 R = zi σ 323 R ∧ zi s.1 324 R = zi σ 324 R ∧ NbV s.1 R (j * nbW w x r + i) (nbF w px x y r)) (nbW w x r) (nbW h y r) (fun s => some (none, s.1)) (zsi σ 322 R 0, .inl (nI y), .inr (.inr none)) ⟨hF, by simp [zi_si], by simp [zi_si], by simp [zi_si]; rfl, fun k hk => by simp at hk⟩
    (fun j s hj hI => ⟨s, by
      show LX7_gatherNeighbours_45 _ _ _ _ _ _ _ _ _ _ _ = LX7_gatherNeighbours_62 _ _ _ _ _ _ _ _ _ _ _
      rw [uX7_gatherNeighbours_45]
      simp only [n_le (show y - r + j < 2 ^ 31 by omega) (show min (y + r) (h - 1) < 2 ^ 31 by omega)]
      rw [if_pos (by unfold nbW at hj; omega), i_nI x, i_nI r, i_sub, e0, s_imax d _ (by omega) (by omega) (by omega) (by omega)]
      simp only [zlt_e, onR_s, nul_s, nul_n, chk_e, bnI_s, bnR_s, bnV_s, zi_si, zi_sr, zi_sl, zi_sa, zi_sq, zr_si, zr_sr, zr_sl, zr_sa, zr_sq, zl_si, zl_sr, zl_sl, zl_sa, zl_sq, zai_si, zai_sr, zai_sl, zai_sa, zai_sq, zar_si, zar_sr, zar_sl, zar_sa, zar_sq, zkd_si, zkd_sr, zkd_sl, zkd_sa, zkd_sq, zln_si, zln_sr, zln_sl, zln_sa, zln_sq, znx_si, znx_sr, znx_sl, znx_sa, znx_sq, eL]
      rfl, hI⟩)
    (fun j i s hj hi hI => by
      obtain ⟨g, g3, g4, gn, ga⟩ := hI
      have hR' := hR.fr g
      have hp' := hp.fr g
      have hxi := nbW_in hx hi
      have hyj := nbW_in hy hj
      have hk := hbef hi hj
      have ev : zai s.1 (p + 1) (16 * (y - r + j) + (x - r + i)) = iI (px (x - r + i) (y - r + j)) := by
        rw [g.ai (by unfold inN; omega)]
        exact hv.2.2 _ _ hxi hyj
      refine ⟨(zsi (zsa s.1 (R + 3) (j * nbW w x r + i) (iI (px (x - r + i) (y - r + j)))) 322 R (nI (j * nbW w x r + i + 1)), s.2), ?_, (g.tr (zFr.sa _ (Or.inr rfl))).tr (zFr.si _ (Or.inl rfl)), by simpa [zi_si, zi_sa] using g3, by simpa [zi_si, zi_sa] using g4, by simp [zi_si]; rfl, fun k hk => ?_⟩
      · show LX7_gatherNeighbours_62 _ _ _ _ _ _ _ _ _ _ _ = LX7_gatherNeighbours_62 _ _ _ _ _ _ _ _ _ _ _
        rw [uX7_gatherNeighbours_62]
        simp only [n_le (show x - r + i < 2 ^ 31 by omega) (show min (x + r) (w - 1) < 2 ^ 31 by omega)]
        rw [if_pos (by unfold nbW at hi; omega)]
        simp only [zlt_e, onR_s, nul_s, nul_n, chk_e, bnI_s, bnR_s, bnV_s, zi_si, zi_sr, zi_sl, zi_sa, zi_sq, zr_si, zr_sr, zr_sl, zr_sa, zr_sq, zl_si, zl_sr, zl_sl, zl_sa, zl_sq, zai_si, zai_sr, zai_sl, zai_sa, zai_sq, zar_si, zar_sr, zar_sl, zar_sa, zar_sq, zkd_si, zkd_sr, zkd_sl, zkd_sa, zkd_sq, zln_si, zln_sr, zln_sl, zln_sa, zln_sq, znx_si, znx_sr, znx_sl, znx_sa, znx_sq, hR'.1, hR'.2.2.2.1, hR'.2.2.2.2.1, hR'.2.2.2.2.2, hp'.1, if_true, gn, n_ofNat, n_lt (show j * nbW w x r + i < 2 ^ 31 by omega) (show 49 < 2 ^ 31 by decide), hk, s_at hp' (show x - r + i < 16 by omega) (show y - r + j < 16 by omega), ev, n_zin (show j * nbW w x r + i < 2 ^ 31 by omega), n_tn (show j * nbW w x r + i < 2 ^ 31 by omega), and_self, nI_1]
        rfl
      · rw [zai_si, zai_sa]
        by_cases hke : k = j * nbW w x r + i
        · rw [if_pos ⟨rfl, hke⟩, hke]
          unfold nbF
          rw [lin_at _ hi]
        · rw [if_neg (by omega)]
          exact ga k (by omega))
    (fun j s hj hI => ⟨(s.1, s.2.1, .inl (nI (x - r + nbW w x r))), by
      show LX7_gatherNeighbours_62 _ _ _ _ _ _ _ _ _ _ _ = LX7_gatherNeighbours_45 _ _ _ _ _ _ _ _ _ _ _
      rw [uX7_gatherNeighbours_62]
      simp only [n_le (show x - r + nbW w x r < 2 ^ 31 by omega) (show min (x + r) (w - 1) < 2 ^ 31 by omega)]
      rw [if_neg (by unfold nbW; omega)]
      simp only [zlt_e, onR_s, nul_s, nul_n, chk_e, bnI_s, bnR_s, bnV_s, zi_si, zi_sr, zi_sl, zi_sa, zi_sq, zr_si, zr_sr, zr_sl, zr_sa, zr_sq, zl_si, zl_sr, zl_sl, zl_sa, zl_sq, zai_si, zai_sr, zai_sl, zai_sa, zai_sq, zar_si, zar_sr, zar_sl, zar_sa, zar_sq, zkd_si, zkd_sr, zkd_sl, zkd_sa, zkd_sq, zln_si, zln_sr, zln_sl, zln_sa, zln_sq, znx_si, znx_sr, znx_sl, znx_sa, znx_sq, nI_1]
      rfl, by
      obtain ⟨g, g3, g4, gn⟩ := hI
      refine ⟨g, g3, g4, ?_⟩
      rw [Nat.succ_mul, Nat.add_zero]
      exact gn⟩)
    (fun s hI => by
      show LX7_gatherNeighbours_45 _ _ _ _ _ _ _ _ _ _ _ = _
      rw [uX7_gatherNeighbours_45]
      simp only [n_le (show y - r + nbW h y r < 2 ^ 31 by omega) (show min (y + r) (h - 1) < 2 ^ 31 by omega)]
      rw [if_neg (by unfold nbW; omega)])
  exact ⟨τ, h1, h2⟩
theorem s_average {σ : zS} {R n : Nat} {f : Nat → Int} (hR : RdS σ R) (hN : NbV σ R n f) (h0 : 1 ≤ n) (hn : n ≤ 49) (hf : ∀ k, k < n → 0 ≤ f k ∧ f k ≤ 255) (d : Nat) : zEv (d + 1) mX7_average [.inr (.inl (some R))] σ = some (some (.inl (iI (sm f n / (n : Int)))), σ) := by
  rw [vX7_average]
  unfold fX7_average
  simp only [zlt_e, onR_s, nul_s, nul_n, chk_e, bnI_s, bnR_s, bnV_s, zi_si, zi_sr, zi_sl, zi_sa, zi_sq, zr_si, zr_sr, zr_sl, zr_sa, zr_sq, zl_si, zl_sr, zl_sl, zl_sa, zl_sq, zai_si, zai_sr, zai_sl, zai_sa, zai_sq, zar_si, zar_sr, zar_sl, zar_sa, zar_sq, zkd_si, zkd_sr, zkd_sl, zkd_sa, zkd_sq, zln_si, zln_sr, zln_sl, zln_sa, zln_sq, znx_si, znx_sr, znx_sl, znx_sa, znx_sq]
  obtain ⟨t, h1, h2⟩ := loop_from (fun k (t : Int32) => LX7_average_4 (zEv d) R t (nI k) σ) (fun k t => t = iI (sm f k)) 0 n (fun t => LX7_average_36 (zEv d) R t (.inl (nI n)) σ) 0 (Nat.zero_le _) rfl
    (fun k t hk hI => ⟨iI (sm f (k + 1)), by
      show LX7_average_4 _ _ _ _ _ = LX7_average_4 _ _ _ _ _
      have hI : t = _ := hI
      rw [uX7_average_4]
      simp only [zlt_e, onR_s, nul_s, nul_n, chk_e, bnI_s, bnR_s, bnV_s, zi_si, zi_sr, zi_sl, zi_sa, zi_sq, zr_si, zr_sr, zr_sl, zr_sa, zr_sq, zl_si, zl_sr, zl_sl, zl_sa, zl_sq, zai_si, zai_sr, zai_sl, zai_sa, zai_sq, zar_si, zar_sr, zar_sl, zar_sa, zar_sq, zkd_si, zkd_sr, zkd_sl, zkd_sa, zkd_sq, zln_si, zln_sr, zln_sl, zln_sa, zln_sq, znx_si, znx_sr, znx_sl, znx_sa, znx_sq, hR.1, hR.2.2.2.1, hR.2.2.2.2.1, hR.2.2.2.2.2, if_true, hN.1, n_ofNat, n_lt (show k < 2 ^ 31 by omega) (show n < 2 ^ 31 by omega), n_lt (show k < 2 ^ 31 by omega) (show 49 < 2 ^ 31 by decide), hk, show k < 49 by omega, n_zin (show k < 2 ^ 31 by omega), n_tn (show k < 2 ^ 31 by omega), and_self, hN.2 k hk, nI_1, hI, i_add]
      rfl, rfl⟩)
    (fun t hI => by
      rw [uX7_average_4]
      simp only [zlt_e, onR_s, nul_s, nul_n, chk_e, bnI_s, bnR_s, bnV_s, zi_si, zi_sr, zi_sl, zi_sa, zi_sq, zr_si, zr_sr, zr_sl, zr_sa, zr_sq, zl_si, zl_sr, zl_sl, zl_sa, zl_sq, zai_si, zai_sr, zai_sl, zai_sa, zai_sq, zar_si, zar_sr, zar_sl, zar_sa, zar_sq, zkd_si, zkd_sr, zkd_sl, zkd_sa, zkd_sq, zln_si, zln_sr, zln_sl, zln_sa, zln_sq, znx_si, znx_sr, znx_sl, znx_sa, znx_sq, hR.1, if_true, hN.1, n_lt (show n < 2 ^ 31 by omega) (show n < 2 ^ 31 by omega), Nat.lt_irrefl, if_false])
  have h1 : LX7_average_4 (zEv d) R 0 0 σ = _ := h1
  have h2 : t = _ := h2
  have hs := sm_R n hf
  rw [h1, uX7_average_36, h2]
  simp only [zlt_e, onR_s, nul_s, nul_n, chk_e, bnI_s, bnR_s, bnV_s, zi_si, zi_sr, zi_sl, zi_sa, zi_sq, zr_si, zr_sr, zr_sl, zr_sa, zr_sq, zl_si, zl_sr, zl_sl, zl_sa, zl_sq, zai_si, zai_sr, zai_sl, zai_sa, zai_sq, zar_si, zar_sr, zar_sl, zar_sa, zar_sq, zkd_si, zkd_sr, zkd_sl, zkd_sa, zkd_sq, zln_si, zln_sr, zln_sl, zln_sa, zln_sq, znx_si, znx_sr, znx_sl, znx_sa, znx_sq, hR.1, if_true, hN.1, nL 0, n_le (show n < 2 ^ 31 by omega) (show 0 < 2 ^ 31 by decide), n_eq (show n < 2 ^ 31 by omega) (show 0 < 2 ^ 31 by decide), show ¬ n ≤ 0 by omega, show ¬ n = 0 by omega, if_false]
  rw [i_nI n, i_div (by omega) (by omega) (by omega) (by omega), Int.tdiv_eq_ediv_of_nonneg hs.1]
theorem s_greatest {σ : zS} {R n : Nat} {f : Nat → Int} (hR : RdS σ R) (hN : NbV σ R n f) (hn : n ≤ 49) (hf : ∀ k, k < n → 0 ≤ f k ∧ f k ≤ 255) (d : Nat) : zEv (d + 2) mX7_greatest [.inr (.inl (some R))] σ = some (some (.inl (iI (mxI f n))), σ) := by
  rw [vX7_greatest]
  unfold fX7_greatest
  simp only [zlt_e, onR_s, nul_s, nul_n, chk_e, bnI_s, bnR_s, bnV_s, zi_si, zi_sr, zi_sl, zi_sa, zi_sq, zr_si, zr_sr, zr_sl, zr_sa, zr_sq, zl_si, zl_sr, zl_sl, zl_sa, zl_sq, zai_si, zai_sr, zai_sl, zai_sa, zai_sq, zar_si, zar_sr, zar_sl, zar_sa, zar_sq, zkd_si, zkd_sr, zkd_sl, zkd_sa, zkd_sq, zln_si, zln_sr, zln_sl, zln_sa, zln_sq, znx_si, znx_sr, znx_sl, znx_sa, znx_sq]
  obtain ⟨t, h1, h2⟩ := loop_from (fun k (t : Int32) => LX7_greatest_4 (zEv (d + 1)) R t (nI k) σ) (fun k t => t = iI (mxI f k)) 0 n (fun t => some (some (.inl t), σ)) 0 (Nat.zero_le _) rfl
    (fun k t hk hI => ⟨iI (mxI f (k + 1)), by
      show LX7_greatest_4 _ _ _ _ _ = LX7_greatest_4 _ _ _ _ _
      have hI : t = _ := hI
      have := hf k hk
      have := mxI_R (m := 255) (by decide) k (fun j hj => hf j (by omega))
      rw [uX7_greatest_4]
      simp only [zlt_e, onR_s, nul_s, nul_n, chk_e, bnI_s, bnR_s, bnV_s, zi_si, zi_sr, zi_sl, zi_sa, zi_sq, zr_si, zr_sr, zr_sl, zr_sa, zr_sq, zl_si, zl_sr, zl_sl, zl_sa, zl_sq, zai_si, zai_sr, zai_sl, zai_sa, zai_sq, zar_si, zar_sr, zar_sl, zar_sa, zar_sq, zkd_si, zkd_sr, zkd_sl, zkd_sa, zkd_sq, zln_si, zln_sr, zln_sl, zln_sa, zln_sq, znx_si, znx_sr, znx_sl, znx_sa, znx_sq, hR.1, hR.2.2.2.1, hR.2.2.2.2.1, hR.2.2.2.2.2, if_true, hN.1, n_ofNat, n_lt (show k < 2 ^ 31 by omega) (show n < 2 ^ 31 by omega), n_lt (show k < 2 ^ 31 by omega) (show 49 < 2 ^ 31 by decide), hk, show k < 49 by omega, n_zin (show k < 2 ^ 31 by omega), n_tn (show k < 2 ^ 31 by omega), and_self, hN.2 k hk, nI_1, hI]
      rw [s_imax d σ (by omega) (by omega) (by omega) (by omega)]
      rfl, rfl⟩)
    (fun t hI => by
      rw [uX7_greatest_4]
      simp only [zlt_e, onR_s, nul_s, nul_n, chk_e, bnI_s, bnR_s, bnV_s, zi_si, zi_sr, zi_sl, zi_sa, zi_sq, zr_si, zr_sr, zr_sl, zr_sa, zr_sq, zl_si, zl_sr, zl_sl, zl_sa, zl_sq, zai_si, zai_sr, zai_sl, zai_sa, zai_sq, zar_si, zar_sr, zar_sl, zar_sa, zar_sq, zkd_si, zkd_sr, zkd_sl, zkd_sa, zkd_sq, zln_si, zln_sr, zln_sl, zln_sa, zln_sq, znx_si, znx_sr, znx_sl, znx_sa, znx_sq, hR.1, if_true, hN.1, n_lt (show n < 2 ^ 31 by omega) (show n < 2 ^ 31 by omega), Nat.lt_irrefl, if_false])
  have h1 : LX7_greatest_4 (zEv (d + 1)) R 0 0 σ = _ := h1
  have h2 : t = _ := h2
  rw [h1, h2]
theorem s_smallest {σ : zS} {R n : Nat} {f : Nat → Int} (hR : RdS σ R) (hN : NbV σ R n f) (hn : n ≤ 49) (hf : ∀ k, k < n → 0 ≤ f k ∧ f k ≤ 255) (d : Nat) : zEv (d + 2) mX7_smallest [.inr (.inl (some R))] σ = some (some (.inl (iI (mnI f n))), σ) := by
  rw [vX7_smallest]
  unfold fX7_smallest
  simp only [zlt_e, onR_s, nul_s, nul_n, chk_e, bnI_s, bnR_s, bnV_s, zi_si, zi_sr, zi_sl, zi_sa, zi_sq, zr_si, zr_sr, zr_sl, zr_sa, zr_sq, zl_si, zl_sr, zl_sl, zl_sa, zl_sq, zai_si, zai_sr, zai_sl, zai_sa, zai_sq, zar_si, zar_sr, zar_sl, zar_sa, zar_sq, zkd_si, zkd_sr, zkd_sl, zkd_sa, zkd_sq, zln_si, zln_sr, zln_sl, zln_sa, zln_sq, znx_si, znx_sr, znx_sl, znx_sa, znx_sq]
  obtain ⟨t, h1, h2⟩ := loop_from (fun k (t : Int32) => LX7_smallest_6 (zEv (d + 1)) R t (nI k) σ) (fun k t => t = iI (mnI f k)) 0 n (fun t => some (some (.inl t), σ)) 255 (Nat.zero_le _) rfl
    (fun k t hk hI => ⟨iI (mnI f (k + 1)), by
      show LX7_smallest_6 _ _ _ _ _ = LX7_smallest_6 _ _ _ _ _
      have hI : t = _ := hI
      have := hf k hk
      have := mnI_R k (fun j hj => hf j (by omega))
      rw [uX7_smallest_6]
      simp only [zlt_e, onR_s, nul_s, nul_n, chk_e, bnI_s, bnR_s, bnV_s, zi_si, zi_sr, zi_sl, zi_sa, zi_sq, zr_si, zr_sr, zr_sl, zr_sa, zr_sq, zl_si, zl_sr, zl_sl, zl_sa, zl_sq, zai_si, zai_sr, zai_sl, zai_sa, zai_sq, zar_si, zar_sr, zar_sl, zar_sa, zar_sq, zkd_si, zkd_sr, zkd_sl, zkd_sa, zkd_sq, zln_si, zln_sr, zln_sl, zln_sa, zln_sq, znx_si, znx_sr, znx_sl, znx_sa, znx_sq, hR.1, hR.2.2.2.1, hR.2.2.2.2.1, hR.2.2.2.2.2, if_true, hN.1, n_ofNat, n_lt (show k < 2 ^ 31 by omega) (show n < 2 ^ 31 by omega), n_lt (show k < 2 ^ 31 by omega) (show 49 < 2 ^ 31 by decide), hk, show k < 49 by omega, n_zin (show k < 2 ^ 31 by omega), n_tn (show k < 2 ^ 31 by omega), and_self, hN.2 k hk, nI_1, hI]
      rw [s_imin d σ (by omega) (by omega) (by omega) (by omega)]
      rfl, rfl⟩)
    (fun t hI => by
      rw [uX7_smallest_6]
      simp only [zlt_e, onR_s, nul_s, nul_n, chk_e, bnI_s, bnR_s, bnV_s, zi_si, zi_sr, zi_sl, zi_sa, zi_sq, zr_si, zr_sr, zr_sl, zr_sa, zr_sq, zl_si, zl_sr, zl_sl, zl_sa, zl_sq, zai_si, zai_sr, zai_sl, zai_sa, zai_sq, zar_si, zar_sr, zar_sl, zar_sa, zar_sq, zkd_si, zkd_sr, zkd_sl, zkd_sa, zkd_sq, zln_si, zln_sr, zln_sl, zln_sa, zln_sq, znx_si, znx_sr, znx_sl, znx_sa, znx_sq, hR.1, if_true, hN.1, n_lt (show n < 2 ^ 31 by omega) (show n < 2 ^ 31 by omega), Nat.lt_irrefl, if_false])
  have h1 : LX7_smallest_6 (zEv (d + 1)) R 255 0 σ = _ := h1
  have h2 : t = _ := h2
  rw [h1, h2]
