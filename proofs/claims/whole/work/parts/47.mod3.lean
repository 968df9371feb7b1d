theorem s_mgather {σ : zS} {m n x y r : Nat} {C : zC} {px : Nat → Nat → Int} (hM : MS σ m) (hV : MV σ (m + 1) 0 C) (hw : 1 ≤ cW C ∧ cW C ≤ 16) (hh : 1 ≤ cH C ∧ cH C ≤ 16) (hn : n ≤ 8) (hO : OV σ m n (cW C) (cH C) px) (hp : pxR (cW C) (cH C) px) (hx : x < cW C) (hy : y < cH C) (hr : r ≤ 3) (d : Nat) : ∃ τ, zEv (d + 3) mX11_gather [.inr (.inl (some m)), .inl (nI (256 * n)), .inl (nI x), .inl (nI y), .inl (nI r)] σ = some (some (.inl (nI (nbN (cW C) (cH C) x y r))), τ) ∧ zFr (fun a => a = m + 18) σ τ ∧ (∀ g a, zi τ g a = zi σ g a) ∧ ∀ k, k < nbN (cW C) (cH C) x y r → zai τ (m + 18) k = iI (srt (nbF (cW C) px x y r) (nbN (cW C) (cH C) x y r) k) := by
  rw [vX11_gather]
  unfold fX11_gather
  simp only [zlt_e, onR_s, nul_s, nul_n, chk_e, bnI_s, bnR_s, bnV_s, zi_si, zi_sr, zi_sl, zi_sa, zi_sq, zr_si, zr_sr, zr_sl, zr_sa, zr_sq, zl_si, zl_sr, zl_sl, zl_sa, zl_sq, zai_si, zai_sr, zai_sl, zai_sa, zai_sq, zar_si, zar_sr, zar_sl, zar_sa, zar_sq, zkd_si, zkd_sr, zkd_sl, zkd_sa, zkd_sq, zln_si, zln_sr, zln_sl, zln_sa, zln_sq, znx_si, znx_sr, znx_sl, znx_sa, znx_sq]
  have hn1 := nbN_pos (r := r) hx hy
  have hn9 := nbN_le (w := cW C) (h := cH C) (x := x) (y := y) hr
  have hfr : ∀ k, k < nbN (cW C) (cH C) x y r → 0 ≤ nbF (cW C) px x y r k ∧ nbF (cW C) px x y r k ≤ 255 := fun k hk => nbF_R hp hx hy hk
  have ele : ∀ (a j : Nat), a < 16 → j ≤ 2 * r + 1 → ((iI ((a : Int) - r + j) ≤ nI a + nI r) ↔ j < 2 * r + 1) := fun a j ha hj => by
    rw [nI_add, i_nI, i_le (by omega) (by omega) (by omega) (by omega)]
    omega
  have es : ∀ a : Nat, nI a - nI r = iI ((a : Int) - r + (0 : Nat)) := fun a => by rw [i_nI a, i_nI r, i_sub]; congr 1; omega
  have ea : ∀ (a j : Nat), iI ((a : Int) - r + j) + 1 = iI ((a : Int) - r + (j + 1 : Nat)) := fun a j => by rw [show (1 : Int32) = iI 1 from rfl, i_add]; congr 1; omega
  have P0 : (fun a => a = m + 18) (m + 18) := rfl
  generalize hf : nbF (cW C) px x y r = f at *
  -- one value finds its place
  have put : ∀ (i : Nat) (v6 v7 : Int32) (τ : zS), i < nbN (cW C) (cH C) x y r → zFr (fun a => a = m + 18) σ τ → (∀ g a, zi τ g a = zi σ g a) → (∀ k, k < i → zai τ (m + 18) k = iI (srt f i k)) → ∃ τ' z, LX11_gather_59 (zEv (d + 2)) m (nI (256 * n)) (nI x) (nI y) (nI r) (nI i) v6 v7 (iI (f i)) (nI i) τ = LX11_gather_24 (zEv (d + 2)) m (nI (256 * n)) (nI x) (nI y) (nI r) (nI (i + 1)) v6 (v7 + 1) (.inl (iI (f i))) z τ' ∧ zFr (fun a => a = m + 18) σ τ' ∧ (∀ g a, zi τ' g a = zi σ g a) ∧ ∀ k, k < i + 1 → zai τ' (m + 18) k = iI (srt f (i + 1) k) := by
    intro i v6 v7 τ hi g gi ga
    have hfi := hfr i hi
    have go : ∀ j (υ : zS), j ≤ i → posI (srt f i) (f i) i = posI (srt f i) (f i) j → zFr (fun a => a = m + 18) σ υ → (∀ g a, zi υ g a = zi σ g a) → (∀ k, k < i + 1 → k ≠ j → zai υ (m + 18) k = iI (if k < j then srt f i k else srt f i (k - 1))) → ∃ τ' z, LX11_gather_59 (zEv (d + 2)) m (nI (256 * n)) (nI x) (nI y) (nI r) (nI i) v6 v7 (iI (f i)) (nI j) υ = LX11_gather_24 (zEv (d + 2)) m (nI (256 * n)) (nI x) (nI y) (nI r) (nI (i + 1)) v6 (v7 + 1) (.inl (iI (f i))) z τ' ∧ zFr (fun a => a = m + 18) σ τ' ∧ (∀ g a, zi τ' g a = zi σ g a) ∧ ∀ k, k < i + 1 → zai τ' (m + 18) k = iI (srt f (i + 1) k) := by
      intro j
      induction j with
      | zero =>
        intro υ hj hp g gi ga
        have hM' := hM.fr g
        refine ⟨zsa υ (m + 18) 0 (iI (f i)), .inl (nI 0), ?_, g.tr (zFr.sa _ P0), gi, fun k hk => ?_⟩
        · rw [uX11_gather_59]
          simp only [zlt_e, onR_s, nul_s, nul_n, chk_e, bnI_s, bnR_s, bnV_s, zi_si, zi_sr, zi_sl, zi_sa, zi_sq, zr_si, zr_sr, zr_sl, zr_sa, zr_sq, zl_si, zl_sr, zl_sl, zl_sa, zl_sq, zai_si, zai_sr, zai_sl, zai_sa, zai_sq, zar_si, zar_sr, zar_sl, zar_sa, zar_sq, zkd_si, zkd_sr, zkd_sl, zkd_sa, zkd_sq, zln_si, zln_sr, zln_sl, zln_sa, zln_sq, znx_si, znx_sr, znx_sl, znx_sa, znx_sq, nL 0, n_le (show 0 < 2 ^ 31 by decide) (show 0 < 2 ^ 31 by decide), Nat.le_refl, if_true, hM'.k, hM'.so.1, hM'.so.2.1, hM'.so.2.2, n_zin (show 0 < 2 ^ 31 by decide), n_tn (show 0 < 2 ^ 31 by decide), show 0 < 49 by decide, and_self, nI_1]
        · rw [zai_sa]
          have hp0 : posI (srt f i) (f i) i = 0 := hp
          show _ = iI (insI (srt f i) i (f i) k)
          unfold insI
          rw [hp0]
          by_cases hk0 : k = 0
          · rw [if_pos ⟨rfl, hk0⟩, if_neg (by omega), if_pos hk0]
          · rw [if_neg (by omega), ga k hk hk0, if_neg (by omega), if_neg (by omega), if_neg hk0]
      | succ j ih =>
        intro υ hj hp g gi ga
        have hM' := hM.fr g
        have hs := srt_R (lo := 0) (hi := 255) i (fun k hk => hfr k (by omega)) j (by omega)
        have ej : zai υ (m + 18) j = iI (srt f i j) := by
          rw [ga j (by omega) (by omega), if_pos (by omega)]
        have hle : (iI (srt f i j) ≤ iI (f i)) ↔ srt f i j ≤ f i := i_le (by omega) (by omega) (by omega) (by omega)
        have e : posI (srt f i) (f i) (j + 1) = if srt f i j > f i then posI (srt f i) (f i) j else j + 1 := rfl
        rw [uX11_gather_59]
        simp only [zlt_e, onR_s, nul_s, nul_n, chk_e, bnI_s, bnR_s, bnV_s, zi_si, zi_sr, zi_sl, zi_sa, zi_sq, zr_si, zr_sr, zr_sl, zr_sa, zr_sq, zl_si, zl_sr, zl_sl, zl_sa, zl_sq, zai_si, zai_sr, zai_sl, zai_sa, zai_sq, zar_si, zar_sr, zar_sl, zar_sa, zar_sq, zkd_si, zkd_sr, zkd_sl, zkd_sa, zkd_sq, zln_si, zln_sr, zln_sl, zln_sa, zln_sq, znx_si, znx_sr, znx_sl, znx_sa, znx_sq, nL 0, n_le (show j + 1 < 2 ^ 31 by omega) (show 0 < 2 ^ 31 by decide), show ¬ j + 1 ≤ 0 by omega, if_false, if_true, hM'.k, hM'.so.1, hM'.so.2.1, hM'.so.2.2, nI_m, nI_p, n_zin (show j < 2 ^ 31 by omega), n_tn (show j < 2 ^ 31 by omega), n_zin (show j + 1 < 2 ^ 31 by omega), n_tn (show j + 1 < 2 ^ 31 by omega), show j < 49 by omega, show j + 1 < 49 by omega, and_self, ej, hle]
        by_cases hl : srt f i j ≤ f i
        · rw [if_pos hl]
          rw [e, if_neg (by omega)] at hp
          refine ⟨zsa υ (m + 18) (j + 1) (iI (f i)), .inl (nI (j + 1)), by simp only [nI_1], g.tr (zFr.sa _ P0), gi, fun k hk => ?_⟩
          rw [zai_sa]
          show _ = iI (insI (srt f i) i (f i) k)
          unfold insI
          rw [hp]
          by_cases hk0 : k = j + 1
          · rw [if_pos ⟨rfl, hk0⟩, if_neg (by omega), if_pos hk0]
          · rw [if_neg (by omega), ga k hk hk0]
            by_cases hkj : k < j + 1
            · rw [if_pos hkj, if_pos hkj]
            · rw [if_neg hkj, if_neg hkj, if_neg hk0]
        · rw [if_neg hl]
          rw [e, if_pos (by omega)] at hp
          refine ih (zsa υ (m + 18) (j + 1) (iI (srt f i j))) (by omega) hp (g.tr (zFr.sa _ P0)) gi (fun k hk hkj => ?_)
          rw [zai_sa]
          by_cases hk0 : k = j + 1
          · rw [if_pos ⟨rfl, hk0⟩, if_neg (by omega), hk0]
            rfl
          · rw [if_neg (by omega), ga k hk hk0]
            by_cases hk2 : k < j
            · rw [if_pos (by omega), if_pos hk2]
            · rw [if_neg (by omega), if_neg hk2]
    exact go i τ (Nat.le_refl _) rfl g gi (fun k hk hki => by
      rw [ga k (by omega), if_pos (by omega)])
  obtain ⟨⟨τ, z1, z2, z3⟩, h1, h2⟩ := grid (fun j (s : zS × zV × zV × zV) => LX11_gather_9 (zEv (d + 2)) m (nI (256 * n)) (nI x) (nI y) (nI r) (nI (kNb (cW C) (cH C) x y r j 0)) (iI ((y : Int) - r + j)) s.2.1 s.2.2.1 s.2.2.2 s.1)
    (fun j i s => LX11_gather_24 (zEv (d + 2)) m (nI (256 * n)) (nI x) (nI y) (nI r) (nI (kNb (cW C) (cH C) x y r j i)) (iI ((y : Int) - r + j)) (iI ((x : Int) - r + i)) s.2.2.1 s.2.2.2 s.1)
    (fun j i s => zFr (fun a => a = m + 18) σ s.1 ∧ (∀ g a, zi s.1 g a = zi σ g a) ∧ ∀ k, k < kNb (cW C) (cH C) x y r j i → zai s.1 (m + 18) k = iI (srt f (kNb (cW C) (cH C) x y r j i) k)) (2 * r + 1) (2 * r + 1) (fun s => some (some (.inl (nI (nbN (cW C) (cH C) x y r))), s.1)) (σ, .inr (.inr 0), .inr (.inr 0), .inr (.inr 0)) ⟨zFr.rf σ, fun _ _ => rfl, fun k hk => by rw [kNb_0] at hk; omega⟩
    (fun j s hj hI => ⟨s, by
      show LX11_gather_9 _ _ _ _ _ _ _ _ _ _ _ _ = LX11_gather_24 _ _ _ _ _ _ _ _ _ _ _ _
      rw [uX11_gather_9, if_pos ((ele y j (by omega) (by omega)).mpr hj), zlt_e, es x], hI⟩)
    (fun j i s hj hi hI => by
      obtain ⟨g, gi, ga⟩ := hI
      have hM' := hM.fr g
      have hV' : MV s.1 (m + 1) 0 C := hV.fr g (by omega)
      have hO' : OV s.1 m n (cW C) (cH C) px := hO.fr g (by omega)
      have zj := kNb_zin hy hh.2 hr hj
      have zi' := kNb_zin hx hw.2 hr hi
      by_cases hin : (r - y ≤ j ∧ j < r - y + nbW (cH C) y r) ∧ r - x ≤ i ∧ i < r - x + nbW (cW C) x r
      · obtain ⟨f1, f2, f3⟩ := kNb_in (w := cW C) (h := cH C) px hin.1 hin.2
        rw [hf] at f3
        have hX := nbW_in (r := r) hx (show i - (r - x) < nbW (cW C) x r by omega)
        have hY := nbW_in (r := r) hy (show j - (r - y) < nbW (cH C) y r by omega)
        obtain ⟨τ', z, k1, k2, k3, k4⟩ := put (kNb (cW C) (cH C) x y r j i) (iI ((y : Int) - r + j)) (iI ((x : Int) - r + i)) s.1 f2 g gi ga
        refine ⟨(τ', s.2.1, .inl (iI (f (kNb (cW C) (cH C) x y r j i))), z), ?_, k2, k3, by rw [f1]; exact k4⟩
        show LX11_gather_24 _ _ _ _ _ _ _ _ _ _ _ _ = LX11_gather_24 _ _ _ _ _ _ _ _ _ _ _ _
        rw [f1, ← ea, ← k1, uX11_gather_24, if_pos ((ele x i (by omega) (by omega)).mpr hi)]
        simp only [zlt_e, onR_s, nul_s, nul_n, chk_e, bnI_s, bnR_s, bnV_s, zi_si, zi_sr, zi_sl, zi_sa, zi_sq, zr_si, zr_sr, zr_sl, zr_sa, zr_sq, zl_si, zl_sr, zl_sl, zl_sa, zl_sq, zai_si, zai_sr, zai_sl, zai_sa, zai_sq, zar_si, zar_sr, zar_sl, zar_sa, zar_sq, zkd_si, zkd_sr, zkd_sl, zkd_sa, zkd_sq, zln_si, zln_sr, zln_sl, zln_sa, zln_sq, znx_si, znx_sr, znx_sl, znx_sa, znx_sq, hM'.k, if_true, s_misPixel hM' hV' hw hh, zb_0]
        rw [if_neg (by rw [zj, zi']; exact fun q => q ⟨hin.2, hin.1⟩), f3]
        have e1 := s_inputAt hM' hV' hw.2 hh.2 hn hO' hX hY (d + 1)
        rw [← kNb_nI hin.1, ← kNb_nI hin.2] at e1
        simp only [zlt_e, onR_s, nul_s, nul_n, chk_e, bnI_s, bnR_s, bnV_s, zi_si, zi_sr, zi_sl, zi_sa, zi_sq, zr_si, zr_sr, zr_sl, zr_sa, zr_sq, zl_si, zl_sr, zl_sl, zl_sa, zl_sq, zai_si, zai_sr, zai_sl, zai_sa, zai_sq, zar_si, zar_sr, zar_sl, zar_sa, zar_sq, zkd_si, zkd_sr, zkd_sl, zkd_sa, zkd_sq, zln_si, zln_sr, zln_sl, zln_sa, zln_sq, znx_si, znx_sr, znx_sl, znx_sa, znx_sq, e1]
      · refine ⟨s, ?_, g, gi, by rw [kNb_out hin]; exact ga⟩
        show LX11_gather_24 _ _ _ _ _ _ _ _ _ _ _ _ = LX11_gather_24 _ _ _ _ _ _ _ _ _ _ _ _
        rw [uX11_gather_24, if_pos ((ele x i (by omega) (by omega)).mpr hi)]
        simp only [zlt_e, onR_s, nul_s, nul_n, chk_e, bnI_s, bnR_s, bnV_s, zi_si, zi_sr, zi_sl, zi_sa, zi_sq, zr_si, zr_sr, zr_sl, zr_sa, zr_sq, zl_si, zl_sr, zl_sl, zl_sa, zl_sq, zai_si, zai_sr, zai_sl, zai_sa, zai_sq, zar_si, zar_sr, zar_sl, zar_sa, zar_sq, zkd_si, zkd_sr, zkd_sl, zkd_sa, zkd_sq, zln_si, zln_sr, zln_sl, zln_sa, zln_sq, znx_si, znx_sr, znx_sl, znx_sa, znx_sq, hM'.k, if_true, s_misPixel hM' hV' hw hh, zb_0]
        rw [if_pos (by rw [zj, zi']; exact fun q => hin ⟨q.2, q.1⟩), ea, kNb_out hin])
    (fun j s hj hI => ⟨(s.1, .inl (iI ((x : Int) - r + (2 * r + 1 : Nat))), s.2.2), by
      show LX11_gather_24 _ _ _ _ _ _ _ _ _ _ _ _ = LX11_gather_9 _ _ _ _ _ _ _ _ _ _ _ _
      rw [uX11_gather_24, if_neg (fun q => absurd ((ele x (2 * r + 1) (by omega) (by omega)).mp q) (by omega)), zlt_e, ea, kNb_row hx], by
      rw [← kNb_row hx]
      exact hI⟩)
    (fun s hI => by
      show LX11_gather_9 _ _ _ _ _ _ _ _ _ _ _ _ = _
      rw [uX11_gather_9, if_neg (fun q => absurd ((ele y (2 * r + 1) (by omega) (by omega)).mp q) (by omega)), kNb_end hy])
  rw [kNb_end hy] at h2
  have h1 : LX11_gather_9 (zEv (d + 2)) m (nI (256 * n)) (nI x) (nI y) (nI r) (nI (kNb (cW C) (cH C) x y r 0 0)) (iI ((y : Int) - r + (0 : Nat))) (.inr (.inr 0)) (.inr (.inr 0)) (.inr (.inr 0)) σ = some (some (.inl (nI (nbN (cW C) (cH C) x y r))), τ) := h1
  rw [kNb_0, ← es y] at h1
  exact ⟨τ, h1, h2.1, h2.2.1, h2.2.2⟩
theorem s_findRange {σ : zS} {m n : Nat} {C : zC} {px : Nat → Nat → Int} (hM : MS σ m) (hV : MV σ (m + 1) 0 C) (hw : 1 ≤ cW C ∧ cW C ≤ 16) (hh : 1 ≤ cH C ∧ cH C ≤ 16) (hn : n ≤ 8) (hO : OV σ m n (cW C) (cH C) px) (hp : pxR (cW C) (cH C) px) (d : Nat) : ∃ τ, zEv (d + 1) mX11_findRange [.inr (.inl (some m)), .inl (nI (256 * n))] σ = some (none, τ) ∧ zFr (fun a => a = m) σ τ ∧ (∀ f, f ≠ 601 → f ≠ 602 → zi τ f m = zi σ f m) ∧ zi τ 601 m = iI (loPx (cW C) (cH C) px) ∧ zi τ 602 m = iI (hiPx (cW C) (cH C) px) := by
  have e0 : (0 : Int32).toNatClampNeg = 0 := rfl
  have e1 : (1 : Int32).toNatClampNeg = 1 := rfl
  have z0 : zin 0 515 = True := eq_true (by decide)
  have z1 : zin 1 515 = True := eq_true (by decide)
  rw [vX11_findRange]
  unfold fX11_findRange
  simp only [zlt_e, onR_s, nul_s, nul_n, chk_e, bnI_s, bnR_s, bnV_s, zi_si, zi_sr, zi_sl, zi_sa, zi_sq, zr_si, zr_sr, zr_sl, zr_sa, zr_sq, zl_si, zl_sr, zl_sl, zl_sa, zl_sq, zai_si, zai_sr, zai_sl, zai_sa, zai_sq, zar_si, zar_sr, zar_sl, zar_sa, zar_sq, zkd_si, zkd_sr, zkd_sl, zkd_sa, zkd_sq, zln_si, zln_sr, zln_sl, zln_sa, zln_sq, znx_si, znx_sr, znx_sl, znx_sa, znx_sq, hM.k, if_true]
  have hF : zFr (fun a => a = m) σ (zsi (zsi σ 601 m 255) 602 m 0) := (zFr.si (P := fun a => a = m) σ rfl).tr (zFr.si _ rfl)
  have hlen : cH C * cW C ≤ 16 * 16 := Nat.mul_le_mul hh.2 hw.2
  obtain ⟨τ, h1, h2⟩ := loop_from (fun k τ => LX11_findRange_14 (zEv d) m (nI (256 * n)) (nI k) τ) (fun k τ => zFr (fun a => a = m) σ τ ∧ (∀ f, f ≠ 601 → f ≠ 602 → zi τ f m = zi σ f m) ∧ zi τ 601 m = iI (mnI (lin (cW C) px) k) ∧ zi τ 602 m = iI (mxI (lin (cW C) px) k)) 0 (cH C * cW C) (fun τ => some (none, τ)) (zsi (zsi σ 601 m 255) 602 m 0) (Nat.zero_le _) ⟨hF, fun f a b => by simp [zi_si, a, b], by simp [zi_si]; rfl, by simp [zi_si]; rfl⟩
    (fun k τ hk hI => by
      obtain ⟨g, gf, gl, gh⟩ := hI
      have hM' := hM.fr g
      have hV' : MV τ (m + 1) 0 C := hV.fr g (by omega)
      have hv0 : zai τ (m + 1) 0 = nI (cW C) := hV'.1
      have hv1 : zai τ (m + 1) 1 = nI (cH C) := hV'.2.1
      have hO' : OV τ m n (cW C) (cH C) px := hO.fr g (by omega)
      have hX : k % cW C < cW C := Nat.mod_lt _ (by omega)
      have hY : k / cW C < cH C := (Nat.div_lt_iff_lt_mul (by omega)).mpr hk
      have ek : k / cW C * cW C + k % cW C = k := by rw [Nat.mul_comm]; exact Nat.div_add_mod k (cW C)
      have ev : zai τ (m + 17) (256 * n + k) = iI (lin (cW C) px k) := by
        have := hO' _ _ hX hY
        rwa [ek] at this
      have hl : ∀ j, j < cH C * cW C → 0 ≤ lin (cW C) px j ∧ lin (cW C) px j ≤ 255 := lin_R hp hw.1
      have r1 := mnI_R k (fun j hj => hl j (by omega))
      have r2 := mxI_R (m := 255) (by decide) k (fun j hj => hl j (by omega))
      have r0 := hl k hk
      have q1 : (iI (lin (cW C) px k) < iI (mnI (lin (cW C) px) k)) ↔ _ := i_lt (by omega) (by omega) (by omega) (by omega)
      have q2 : (iI (lin (cW C) px k) ≤ iI (mxI (lin (cW C) px) k)) ↔ _ := i_le (by omega) (by omega) (by omega) (by omega)
      have x1 : mnI (lin (cW C) px) (k + 1) = min (mnI (lin (cW C) px) k) (lin (cW C) px k) := rfl
      have x2 : mxI (lin (cW C) px) (k + 1) = max (mxI (lin (cW C) px) k) (lin (cW C) px k) := rfl
      refine ⟨zsi (zsi τ 601 m (iI (mnI (lin (cW C) px) (k + 1)))) 602 m (iI (mxI (lin (cW C) px) (k + 1))), ?_, (g.tr (zFr.si (P := fun a => a = m) _ rfl)).tr (zFr.si _ rfl), fun f a b => by rw [zi_si, if_neg (by omega), zi_si, if_neg (by omega)]; exact gf f a b, by simp [zi_si], by simp [zi_si]⟩
      have j62 : LX11_findRange_62 (zEv d) m (nI (256 * n)) (nI k) (some m) (iI (mnI (lin (cW C) px) (k + 1))) τ = LX11_findRange_14 (zEv d) m (nI (256 * n)) (nI (k + 1)) (zsi (zsi τ 601 m (iI (mnI (lin (cW C) px) (k + 1)))) 602 m (iI (mxI (lin (cW C) px) (k + 1)))) := by
        rw [uX11_findRange_62]
        simp only [zlt_e, onR_s, nul_s, nul_n, chk_e, bnI_s, bnR_s, bnV_s, zi_si, zi_sr, zi_sl, zi_sa, zi_sq, zr_si, zr_sr, zr_sl, zr_sa, zr_sq, zl_si, zl_sr, zl_sl, zl_sa, zl_sq, zai_si, zai_sr, zai_sl, zai_sa, zai_sq, zar_si, zar_sr, zar_sl, zar_sa, zar_sq, zkd_si, zkd_sr, zkd_sl, zkd_sa, zkd_sq, zln_si, zln_sr, zln_sl, zln_sa, zln_sq, znx_si, znx_sr, znx_sl, znx_sa, znx_sq, hM'.k, hM'.o.1, hM'.o.2.1, hM'.o.2.2, if_true, nI_add, n_zin (show 256 * n + k < 2 ^ 31 by omega), n_tn (show 256 * n + k < 2 ^ 31 by omega), show 256 * n + k < 2304 by omega, and_self, ev, gh, nI_1]
        simp only [show ((602 : Nat) = 601) = False from by decide, false_and, if_false, gh, q2]
        by_cases c : lin (cW C) px k ≤ mxI (lin (cW C) px) k
        · rw [if_pos c, x2, show max (mxI (lin (cW C) px) k) (lin (cW C) px k) = mxI (lin (cW C) px) k by omega]
        · rw [if_neg c, x2, show max (mxI (lin (cW C) px) k) (lin (cW C) px k) = lin (cW C) px k by omega]
      show LX11_findRange_14 _ _ _ _ _ = LX11_findRange_14 _ _ _ _ _
      rw [← j62, uX11_findRange_14]
      simp only [zlt_e, onR_s, nul_s, nul_n, chk_e, bnI_s, bnR_s, bnV_s, zi_si, zi_sr, zi_sl, zi_sa, zi_sq, zr_si, zr_sr, zr_sl, zr_sa, zr_sq, zl_si, zl_sr, zl_sl, zl_sa, zl_sq, zai_si, zai_sr, zai_sl, zai_sa, zai_sq, zar_si, zar_sr, zar_sl, zar_sa, zar_sq, zkd_si, zkd_sr, zkd_sl, zkd_sa, zkd_sq, zln_si, zln_sr, zln_sl, zln_sa, zln_sq, znx_si, znx_sr, znx_sl, znx_sa, znx_sq, hM'.k, hM'.s.1, hM'.s.2.1, hM'.s.2.2, hM'.o.1, hM'.o.2.1, hM'.o.2.2, if_true, z0, z1, e0, e1, hv0, hv1, pk_mul, n_lt (show k < 2 ^ 31 by omega) (show cW C * cH C < 2 ^ 31 by rw [Nat.mul_comm]; omega), show k < cW C * cH C by rw [Nat.mul_comm]; exact hk, nI_add, n_zin (show 256 * n + k < 2 ^ 31 by omega), n_tn (show 256 * n + k < 2 ^ 31 by omega), show 256 * n + k < 2304 by omega, and_self, ev, gl, q1]
      by_cases c : lin (cW C) px k < mnI (lin (cW C) px) k
      · rw [if_pos c, x1, show min (mnI (lin (cW C) px) k) (lin (cW C) px k) = lin (cW C) px k by omega]
      · rw [if_neg c, x1, show min (mnI (lin (cW C) px) k) (lin (cW C) px k) = mnI (lin (cW C) px) k by omega])
    (fun τ hI => by
      have hM' := hM.fr hI.1
      have hV' : MV τ (m + 1) 0 C := hV.fr hI.1 (by omega)
      have hv0 : zai τ (m + 1) 0 = nI (cW C) := hV'.1
      have hv1 : zai τ (m + 1) 1 = nI (cH C) := hV'.2.1
      rw [uX11_findRange_14]
      simp only [zlt_e, onR_s, nul_s, nul_n, chk_e, bnI_s, bnR_s, bnV_s, zi_si, zi_sr, zi_sl, zi_sa, zi_sq, zr_si, zr_sr, zr_sl, zr_sa, zr_sq, zl_si, zl_sr, zl_sl, zl_sa, zl_sq, zai_si, zai_sr, zai_sl, zai_sa, zai_sq, zar_si, zar_sr, zar_sl, zar_sa, zar_sq, zkd_si, zkd_sr, zkd_sl, zkd_sa, zkd_sq, zln_si, zln_sr, zln_sl, zln_sa, zln_sq, znx_si, znx_sr, znx_sl, znx_sa, znx_sq, hM'.k, hM'.s.1, hM'.s.2.1, hM'.s.2.2, if_true, z0, z1, e0, e1, hv0, hv1, pk_mul, and_self, n_lt (show cH C * cW C < 2 ^ 31 by omega) (show cW C * cH C < 2 ^ 31 by rw [Nat.mul_comm]; omega)]
      rw [if_neg (by rw [Nat.mul_comm]; exact Nat.lt_irrefl _)])
  exact ⟨τ, h1, h2⟩
