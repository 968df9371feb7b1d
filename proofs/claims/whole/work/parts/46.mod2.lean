/-! the reference: neighbourhoods -/
def OV (σ : zS) (m n w h : Nat) (px : Nat → Nat → Int) : Prop := ∀ x y, x < w → y < h → zai σ (m + 17) (256 * n + (y * w + x)) = iI (px x y)
theorem OV.fr {P : Nat → Prop} {σ τ : zS} {m n w h : Nat} {px : Nat → Nat → Int} (H : OV σ m n w h px) (g : zFr P σ τ) (hn : ¬ P (m + 17)) : OV τ m n w h px := fun x y hx hy => (g.ai hn _).trans (H x y hx hy)
theorem lin256 {w h x y : Nat} (hw : w ≤ 16) (hh : h ≤ 16) (hx : x < w) (hy : y < h) : y * w + x < 256 := by
  have h1 := lin_ix hx hy
  have h2 : h * w ≤ 16 * 16 := Nat.mul_le_mul hh hw
  omega
theorem s_inputAt {σ : zS} {m n x y : Nat} {C : zC} {px : Nat → Nat → Int} (hM : MS σ m) (hV : MV σ (m + 1) 0 C) (hw : cW C ≤ 16) (hh : cH C ≤ 16) (hn : n ≤ 8) (hO : OV σ m n (cW C) (cH C) px) (hx : x < cW C) (hy : y < cH C) (d : Nat) : zEv (d + 1) mX11_inputAt [.inr (.inl (some m)), .inl (nI (256 * n)), .inl (nI x), .inl (nI y)] σ = some (some (.inl (iI (px x y))), σ) := by
  have e0 : (0 : Int32).toNatClampNeg = 0 := rfl
  have z0 : zin 0 515 = True := eq_true (by decide)
  have hv0 : zai σ (m + 1) 0 = nI (cW C) := hV.1
  have hi := lin256 hw hh hx hy
  have e : nI (256 * n) + nI y * nI (cW C) + nI x = nI (256 * n + (y * cW C + x)) := by rw [pk_mul, nI_add, nI_add, Nat.add_assoc]
  rw [vX11_inputAt]
  unfold fX11_inputAt
  simp only [zlt_e, onR_s, nul_s, nul_n, chk_e, bnI_s, bnR_s, bnV_s, zi_si, zi_sr, zi_sl, zi_sa, zi_sq, zr_si, zr_sr, zr_sl, zr_sa, zr_sq, zl_si, zl_sr, zl_sl, zl_sa, zl_sq, zai_si, zai_sr, zai_sl, zai_sa, zai_sq, zar_si, zar_sr, zar_sl, zar_sa, zar_sq, zkd_si, zkd_sr, zkd_sl, zkd_sa, zkd_sq, zln_si, zln_sr, zln_sl, zln_sa, zln_sq, znx_si, znx_sr, znx_sl, znx_sa, znx_sq, hM.k, hM.s.1, hM.s.2.1, hM.s.2.2, hM.o.1, hM.o.2.1, hM.o.2.2, if_true, z0, and_self, e0, hv0, e, n_zin (show 256 * n + (y * cW C + x) < 2 ^ 31 by omega), n_tn (show 256 * n + (y * cW C + x) < 2 ^ 31 by omega), show 256 * n + (y * cW C + x) < 2304 by omega, hO x y hx hy]
/-- how many places of the neighbourhood come before (i, j) of its square -/
def kNb (w h x y r j i : Nat) : Nat := min (j - (r - y)) (nbW h y r) * nbW w x r + if r - y ≤ j ∧ j < r - y + nbW h y r then min (i - (r - x)) (nbW w x r) else 0
theorem kNb_0 {w h x y r : Nat} : kNb w h x y r 0 0 = 0 := by
  unfold kNb
  rw [Nat.zero_sub, Nat.zero_min, Nat.zero_mul]
  split
  · rw [Nat.zero_sub, Nat.zero_min]
  · rfl
theorem kNb_in {w h x y r j i : Nat} (px : Nat → Nat → Int) (hj : r - y ≤ j ∧ j < r - y + nbW h y r) (hi : r - x ≤ i ∧ i < r - x + nbW w x r) : kNb w h x y r j (i + 1) = kNb w h x y r j i + 1 ∧ kNb w h x y r j i < nbN w h x y r ∧ nbF w px x y r (kNb w h x y r j i) = px (x - r + (i - (r - x))) (y - r + (j - (r - y))) := by
  have e1 : kNb w h x y r j i = (j - (r - y)) * nbW w x r + (i - (r - x)) := by
    unfold kNb
    rw [if_pos hj, Nat.min_eq_left (by omega), Nat.min_eq_left (by omega)]
  have e2 : kNb w h x y r j (i + 1) = (j - (r - y)) * nbW w x r + (i + 1 - (r - x)) := by
    unfold kNb
    rw [if_pos hj, Nat.min_eq_left (by omega), Nat.min_eq_left (by omega)]
  refine ⟨by rw [e1, e2]; omega, ?_, ?_⟩
  · rw [e1]
    exact lin_ix (show i - (r - x) < nbW w x r by omega) (show j - (r - y) < nbW h y r by omega)
  · rw [e1]
    unfold nbF
    rw [lin_at _ (show i - (r - x) < nbW w x r by omega)]
theorem kNb_out {w h x y r j i : Nat} (hji : ¬ ((r - y ≤ j ∧ j < r - y + nbW h y r) ∧ r - x ≤ i ∧ i < r - x + nbW w x r)) : kNb w h x y r j (i + 1) = kNb w h x y r j i := by
  unfold kNb
  by_cases hj : r - y ≤ j ∧ j < r - y + nbW h y r
  · rw [if_pos hj, if_pos hj]
    congr 1
    omega
  · rw [if_neg hj, if_neg hj]
theorem kNb_row {w h x y r j : Nat} (hx : x < w) : kNb w h x y r j (2 * r + 1) = kNb w h x y r (j + 1) 0 := by
  have hW : r - x + nbW w x r ≤ 2 * r + 1 := by unfold nbW; omega
  unfold kNb
  have e0 : min (0 - (r - x)) (nbW w x r) = 0 := by omega
  rw [e0]
  have e1 : (if r - y ≤ j + 1 ∧ j + 1 < r - y + nbW h y r then 0 else 0) = 0 := by split <;> rfl
  rw [e1]
  by_cases hj : r - y ≤ j ∧ j < r - y + nbW h y r
  · rw [if_pos hj, Nat.min_eq_right (show nbW w x r ≤ 2 * r + 1 - (r - x) by omega), show min (j + 1 - (r - y)) (nbW h y r) = min (j - (r - y)) (nbW h y r) + 1 by omega, Nat.succ_mul, Nat.add_zero]
  · rw [if_neg hj, show min (j + 1 - (r - y)) (nbW h y r) = min (j - (r - y)) (nbW h y r) by omega]
theorem kNb_end {w h x y r : Nat} (hy : y < h) : kNb w h x y r (2 * r + 1) 0 = nbN w h x y r := by
  have hH : r - y + nbW h y r ≤ 2 * r + 1 := by unfold nbW; omega
  unfold kNb nbN
  rw [if_neg (by omega), Nat.add_zero, Nat.min_eq_right (by omega)]
theorem kNb_zin {w x r i : Nat} (hx : x < w) (hw : w ≤ 16) (hr : r ≤ 3) (hi : i < 2 * r + 1) : zin (iI ((x : Int) - r + i)) w ↔ r - x ≤ i ∧ i < r - x + nbW w x r := by
  unfold zin nbW
  rw [i_toInt (by omega) (by omega)]
  omega
theorem kNb_nI {w x r i : Nat} (h : r - x ≤ i ∧ i < r - x + nbW w x r) : iI ((x : Int) - r + i) = nI (x - r + (i - (r - x))) := by
  rw [i_nI]
  congr 1
  omega
theorem s_blur {σ : zS} {m n x y r : Nat} {C : zC} {px : Nat → Nat → Int} (hM : MS σ m) (hV : MV σ (m + 1) 0 C) (hw : 1 ≤ cW C ∧ cW C ≤ 16) (hh : 1 ≤ cH C ∧ cH C ≤ 16) (hn : n ≤ 8) (hO : OV σ m n (cW C) (cH C) px) (hp : pxR (cW C) (cH C) px) (hx : x < cW C) (hy : y < cH C) (hr : r ≤ 3) (d : Nat) : zEv (d + 3) mX11_blur [.inr (.inl (some m)), .inl (nI (256 * n)), .inl (nI x), .inl (nI y), .inl (nI r)] σ = some (some (.inl (iI (avI (cW C) (cH C) px x y r))), σ) := by
  rw [vX11_blur]
  unfold fX11_blur
  simp only [zlt_e, onR_s, nul_s, nul_n, chk_e, bnI_s, bnR_s, bnV_s, zi_si, zi_sr, zi_sl, zi_sa, zi_sq, zr_si, zr_sr, zr_sl, zr_sa, zr_sq, zl_si, zl_sr, zl_sl, zl_sa, zl_sq, zai_si, zai_sr, zai_sl, zai_sa, zai_sq, zar_si, zar_sr, zar_sl, zar_sa, zar_sq, zkd_si, zkd_sr, zkd_sl, zkd_sa, zkd_sq, zln_si, zln_sr, zln_sl, zln_sa, zln_sq, znx_si, znx_sr, znx_sl, znx_sa, znx_sq]
  have hn1 := nbN_pos (r := r) hx hy
  have hn9 := nbN_le (w := cW C) (h := cH C) (x := x) (y := y) hr
  have hfr : ∀ k, k < nbN (cW C) (cH C) x y r → 0 ≤ nbF (cW C) px x y r k ∧ nbF (cW C) px x y r k ≤ 255 := fun k hk => nbF_R hp hx hy hk
  have ele : ∀ (a j : Nat), a < 16 → j ≤ 2 * r + 1 → ((iI ((a : Int) - r + j) ≤ nI a + nI r) ↔ j < 2 * r + 1) := fun a j ha hj => by
    rw [nI_add, i_nI, i_le (by omega) (by omega) (by omega) (by omega)]
    omega
  have es : ∀ a : Nat, nI a - nI r = iI ((a : Int) - r + (0 : Nat)) := fun a => by rw [i_nI a, i_nI r, i_sub]; congr 1; omega
  have ea : ∀ (a j : Nat), iI ((a : Int) - r + j) + 1 = iI ((a : Int) - r + (j + 1 : Nat)) := fun a j => by rw [show (1 : Int32) = iI 1 from rfl, i_add]; congr 1; omega
  obtain ⟨⟨t, z⟩, h1, h2⟩ := grid (fun j (s : Int32 × zV) => LX11_blur_12 (zEv (d + 2)) m (nI (256 * n)) (nI x) (nI y) (nI r) (nI (kNb (cW C) (cH C) x y r j 0)) s.1 (iI ((y : Int) - r + j)) s.2 σ)
    (fun j i s => LX11_blur_27 (zEv (d + 2)) m (nI (256 * n)) (nI x) (nI y) (nI r) (nI (kNb (cW C) (cH C) x y r j i)) s.1 (iI ((y : Int) - r + j)) (iI ((x : Int) - r + i)) σ)
    (fun j i s => s.1 = iI (sm (nbF (cW C) px x y r) (kNb (cW C) (cH C) x y r j i))) (2 * r + 1) (2 * r + 1) (fun s => some (some (.inl (s.1 / nI (nbN (cW C) (cH C) x y r))), σ)) (0, .inr (.inr 0)) (by show (0 : Int32) = _; rw [kNb_0]; rfl)
    (fun j s hj hI => ⟨s, by
      show LX11_blur_12 _ _ _ _ _ _ _ _ _ _ _ = LX11_blur_27 _ _ _ _ _ _ _ _ _ _ _
      rw [uX11_blur_12, if_pos ((ele y j (by omega) (by omega)).mpr hj), zlt_e, es x], hI⟩)
    (fun j i s hj hi hI => by
      have hI : s.1 = _ := hI
      have zj := kNb_zin hy hh.2 hr hj
      have zi' := kNb_zin hx hw.2 hr hi
      by_cases hin : (r - y ≤ j ∧ j < r - y + nbW (cH C) y r) ∧ r - x ≤ i ∧ i < r - x + nbW (cW C) x r
      · obtain ⟨f1, f2, f3⟩ := kNb_in (w := cW C) (h := cH C) px hin.1 hin.2
        have hX := nbW_in (r := r) hx (show i - (r - x) < nbW (cW C) x r by omega)
        have hY := nbW_in (r := r) hy (show j - (r - y) < nbW (cH C) y r by omega)
        refine ⟨(iI (sm (nbF (cW C) px x y r) (kNb (cW C) (cH C) x y r j (i + 1))), s.2), ?_, rfl⟩
        show LX11_blur_27 _ _ _ _ _ _ _ _ _ _ _ = LX11_blur_27 _ _ _ _ _ _ _ _ _ _ _
        rw [uX11_blur_27, if_pos ((ele x i (by omega) (by omega)).mpr hi)]
        simp only [zlt_e, onR_s, nul_s, nul_n, chk_e, bnI_s, bnR_s, bnV_s, zi_si, zi_sr, zi_sl, zi_sa, zi_sq, zr_si, zr_sr, zr_sl, zr_sa, zr_sq, zl_si, zl_sr, zl_sl, zl_sa, zl_sq, zai_si, zai_sr, zai_sl, zai_sa, zai_sq, zar_si, zar_sr, zar_sl, zar_sa, zar_sq, zkd_si, zkd_sr, zkd_sl, zkd_sa, zkd_sq, zln_si, zln_sr, zln_sl, zln_sa, zln_sq, znx_si, znx_sr, znx_sl, znx_sa, znx_sq, hM.k, if_true, s_misPixel hM hV hw hh, zb_0]
        rw [if_neg (by rw [zj, zi']; exact fun q => q ⟨hin.2, hin.1⟩), ea, kNb_nI hin.1, kNb_nI hin.2]
        simp only [zlt_e, onR_s, nul_s, nul_n, chk_e, bnI_s, bnR_s, bnV_s, zi_si, zi_sr, zi_sl, zi_sa, zi_sq, zr_si, zr_sr, zr_sl, zr_sa, zr_sq, zl_si, zl_sr, zl_sl, zl_sa, zl_sq, zai_si, zai_sr, zai_sl, zai_sa, zai_sq, zar_si, zar_sr, zar_sl, zar_sa, zar_sq, zkd_si, zkd_sr, zkd_sl, zkd_sa, zkd_sq, zln_si, zln_sr, zln_sl, zln_sa, zln_sq, znx_si, znx_sr, znx_sl, znx_sa, znx_sq, s_inputAt hM hV hw.2 hh.2 hn hO hX hY, nI_1, f1, hI, i_add]
        rw [← f3]
        rfl
      · refine ⟨s, ?_, ?_⟩
        · show LX11_blur_27 _ _ _ _ _ _ _ _ _ _ _ = LX11_blur_27 _ _ _ _ _ _ _ _ _ _ _
          rw [uX11_blur_27, if_pos ((ele x i (by omega) (by omega)).mpr hi)]
          simp only [zlt_e, onR_s, nul_s, nul_n, chk_e, bnI_s, bnR_s, bnV_s, zi_si, zi_sr, zi_sl, zi_sa, zi_sq, zr_si, zr_sr, zr_sl, zr_sa, zr_sq, zl_si, zl_sr, zl_sl, zl_sa, zl_sq, zai_si, zai_sr, zai_sl, zai_sa, zai_sq, zar_si, zar_sr, zar_sl, zar_sa, zar_sq, zkd_si, zkd_sr, zkd_sl, zkd_sa, zkd_sq, zln_si, zln_sr, zln_sl, zln_sa, zln_sq, znx_si, znx_sr, znx_sl, znx_sa, znx_sq, hM.k, if_true, s_misPixel hM hV hw hh, zb_0]
          rw [if_pos (by rw [zj, zi']; exact fun q => hin ⟨q.2, q.1⟩), ea, kNb_out hin]
        · show s.1 = _
          rw [kNb_out hin]
          exact hI)
    (fun j s hj hI => ⟨(s.1, .inl (iI ((x : Int) - r + (2 * r + 1 : Nat)))), by
      show LX11_blur_27 _ _ _ _ _ _ _ _ _ _ _ = LX11_blur_12 _ _ _ _ _ _ _ _ _ _ _
      rw [uX11_blur_27, if_neg (fun q => absurd ((ele x (2 * r + 1) (by omega) (by omega)).mp q) (by omega)), zlt_e, ea, kNb_row hx], by
      show s.1 = _
      rw [← kNb_row hx]
      exact hI⟩)
    (fun s hI => by
      show LX11_blur_12 _ _ _ _ _ _ _ _ _ _ _ = _
      rw [uX11_blur_12, if_neg (fun q => absurd ((ele y (2 * r + 1) (by omega) (by omega)).mp q) (by omega)), kNb_end hy]
      rw [if_neg (by rw [show (0 : Int32) = nI 0 from rfl, n_eq (by omega) (by decide)]; omega)])
  have h2 : t = _ := h2
  rw [kNb_end hy] at h2
  have hs := sm_R _ hfr
  have h1 : LX11_blur_12 (zEv (d + 2)) m (nI (256 * n)) (nI x) (nI y) (nI r) (nI (kNb (cW C) (cH C) x y r 0 0)) 0 (iI ((y : Int) - r + (0 : Nat))) (.inr (.inr 0)) σ = some (some (.inl (t / nI (nbN (cW C) (cH C) x y r))), σ) := h1
  rw [kNb_0, ← es y] at h1
  have h1 : LX11_blur_12 (zEv (d + 2)) m (nI (256 * n)) (nI x) (nI y) (nI r) 0 0 (nI y - nI r) (.inr (.inr 0)) σ = some (some (.inl (t / nI (nbN (cW C) (cH C) x y r))), σ) := h1
  rw [h1, h2, i_nI (nbN _ _ _ _ _), i_div (by omega) (by omega) (by omega) (by omega), Int.tdiv_eq_ediv_of_nonneg hs.1]
  rfl
