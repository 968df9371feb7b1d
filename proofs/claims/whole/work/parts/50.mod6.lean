/-- the cells that computing changes -/
def inM (m a : Nat) : Prop := a = m ∨ a = m + 17 ∨ a = m + 18
def keepM (m : Nat) (σ τ : zS) : Prop := ∀ f, f ≠ 601 → f ≠ 602 → zi τ f m = zi σ f m
theorem lin_inj {w x y x' y' : Nat} (hx : x < w) (hx' : x' < w) (h : y' * w + x' = y * w + x) : x' = x ∧ y' = y := by
  have h1 : (y' * w + x') % w = x' := by rw [Nat.mul_comm, Nat.mul_add_mod, Nat.mod_eq_of_lt hx']
  have h2 : (y * w + x) % w = x := by rw [Nat.mul_comm, Nat.mul_add_mod, Nat.mod_eq_of_lt hx]
  have e : x' = x := by rw [← h1, ← h2, h]
  refine ⟨e, ?_⟩
  have h3 : y' * w = y * w := by omega
  exact Nat.eq_of_mul_eq_mul_right (by omega) h3
theorem s_computeLayer {σ : zS} {m i : Nat} {C : zC} {px : Nat → Nat → Int} (hM : MS σ m) (hV : MV σ (m + 1) 0 C) (hw : 1 ≤ cW C ∧ cW C ≤ 16) (hh : 1 ≤ cH C ∧ cH C ≤ 16) (hn8 : cN C ≤ 8) (hg : GL (cL C i)) (hi : i < cN C) (hO : OV σ m i (cW C) (cH C) px) (hp : pxR (cW C) (cH C) px) (d : Nat) : ∃ τ, zEv (d + 5) mX11_computeLayer [.inr (.inl (some m)), .inl (nI i)] σ = some (none, τ) ∧ zFr (inM m) σ τ ∧ keepM m σ τ ∧ OV τ m (i + 1) (cW C) (cH C) (if cL C i 5 = 1 then lyI (cW C) (cH C) (cL C i) px else px) := by
  have t0 : (0 : Int32).toNatClampNeg = 0 := rfl
  have t1 : (1 : Int32).toNatClampNeg = 1 := rfl
  have z0 : zin 0 515 = True := eq_true (by decide)
  have z1 : zin 1 515 = True := eq_true (by decide)
  obtain ⟨τ0, a1, a2, a3, a4, a5⟩ := s_findRange hM hV hw hh (show i ≤ 8 by omega) hO hp (d + 3)
  have e256 : 256 * nI i = nI (256 * i) := pk_mul 256 i
  rw [vX11_computeLayer]
  unfold fX11_computeLayer
  simp only [zlt_e, onR_s, nul_s, nul_n, chk_e, bnI_s, bnR_s, bnV_s, zi_si, zi_sr, zi_sl, zi_sa, zi_sq, zr_si, zr_sr, zr_sl, zr_sa, zr_sq, zl_si, zl_sr, zl_sl, zl_sa, zl_sq, zai_si, zai_sr, zai_sl, zai_sa, zai_sq, zar_si, zar_sr, zar_sl, zar_sa, zar_sq, zkd_si, zkd_sr, zkd_sl, zkd_sa, zkd_sq, zln_si, zln_sr, zln_sl, zln_sa, zln_sq, znx_si, znx_sr, znx_sl, znx_sa, znx_sq, s_mat, e256, hM.k, if_true, a1]
  generalize hN : (if cL C i 5 = 1 then lyI (cW C) (cH C) (cL C i) px else px) = nx
  obtain ⟨⟨τ, w1, w2, w3, w4⟩, h1, h2⟩ := grid (fun y (s : zS × zV × zV × zV × zV) => LX11_computeLayer_19 (zEv (d + 4)) m (nI i) (nI (259 + 32 * i)) (nI (256 * i)) (nI y) s.2.1 s.2.2.1 s.2.2.2.1 s.2.2.2.2 s.1)
    (fun y x s => LX11_computeLayer_33 (zEv (d + 4)) m (nI i) (nI (259 + 32 * i)) (nI (256 * i)) (nI y) (nI x) s.2.2.1 s.2.2.2.1 s.2.2.2.2 s.1)
    (fun y x s => zFr (inM m) σ s.1 ∧ keepM m σ s.1 ∧ (zi s.1 601 m = iI (loPx (cW C) (cH C) px) ∧ zi s.1 602 m = iI (hiPx (cW C) (cH C) px)) ∧ (∀ j, j < 256 * (i + 1) → zai s.1 (m + 17) j = zai σ (m + 17) j) ∧ ∀ x' y', bef (cW C) x y x' y' → zai s.1 (m + 17) (256 * (i + 1) + (y' * cW C + x')) = iI (nx x' y')) (cW C) (cH C) (fun s => some (none, s.1)) (τ0, .inr (.inr 0), .inr (.inr 0), .inr (.inr 0), .inr (.inr 0))
    ⟨a2.mono (fun a ha => Or.inl ha), a3, ⟨a4, a5⟩, fun j hj => a2.ai (by omega) j, fun x' y' hb => by unfold bef at hb; omega⟩
    (fun y s hy hI => ⟨s, by
      have hV' : MV s.1 (m + 1) 0 C := hV.fr hI.1 (by unfold inM; omega)
      have hv1 : zai s.1 (m + 1) 1 = nI (cH C) := hV'.2.1
      show LX11_computeLayer_19 _ _ _ _ _ _ _ _ _ _ _ = LX11_computeLayer_33 _ _ _ _ _ _ _ _ _ _ _
      rw [uX11_computeLayer_19]
      simp only [zlt_e, onR_s, nul_s, nul_n, chk_e, bnI_s, bnR_s, bnV_s, zi_si, zi_sr, zi_sl, zi_sa, zi_sq, zr_si, zr_sr, zr_sl, zr_sa, zr_sq, zl_si, zl_sr, zl_sl, zl_sa, zl_sq, zai_si, zai_sr, zai_sl, zai_sa, zai_sq, zar_si, zar_sr, zar_sl, zar_sa, zar_sq, zkd_si, zkd_sr, zkd_sl, zkd_sa, zkd_sq, zln_si, zln_sr, zln_sl, zln_sa, zln_sq, znx_si, znx_sr, znx_sl, znx_sa, znx_sq, (hM.fr hI.1).k, (hM.fr hI.1).s.1, (hM.fr hI.1).s.2.1, (hM.fr hI.1).s.2.2, z1, t1, and_self, if_true, hv1, n_lt (show y < 2 ^ 31 by omega) (show cH C < 2 ^ 31 by omega), hy]
      rfl, hI⟩)
    (fun y x s hy hx hI => by
      obtain ⟨g, gk, ge, go, gd⟩ := hI
      have hM' := hM.fr g
      have hV' : MV s.1 (m + 1) 0 C := hV.fr g (by unfold inM; omega)
      have hO' : OV s.1 m i (cW C) (cH C) px := fun x y hx hy => by
        rw [go _ (by have := lin256 hw.2 hh.2 hx hy; omega)]
        exact hO x y hx hy
      have hL := lin256 hw.2 hh.2 hx hy
      have hP := hp x y hx hy
      obtain ⟨υ, k1, k2, k3⟩ := s_madjusted hM' hV' hw hh hn8 hg hi (show i ≤ 8 by omega) hO' hp hx hy ge.1 ge.2 d
      have hMu := hM'.fr k2
      have hVu : MV υ (m + 1) 0 C := hV'.fr k2 (by omega)
      have hv0 : zai s.1 (m + 1) 0 = nI (cW C) := hV'.1
      have hv0u : zai υ (m + 1) 0 = nI (cW C) := hVu.1
      have v3 := hV'.r hi (show 3 < 32 by decide)
      have v4 := hVu.r hi (show 4 < 32 by decide)
      have hA := adI_R (x := x) (y := y) hp hx hy hg.1 hg.2.1
      have hB := blI_R (m := cL C i 3) hP hA
      have hW := wtI_R (x := x) (y := y) hg hP
      have hb := lyI_B hP hB hg.2.2.2.1 hW
      have em := s_mmaskAt hMu hVu hn8 hg hi (show x < 16 by omega) (show y < 16 by omega) hP (d + 1)
      have eo := s_misOn hMu hVu hn8 hg hi (d + 2)
      have ix : nI (256 * i) + 256 + nI y * nI (cW C) + nI x = nI (256 * (i + 1) + (y * cW C + x)) := by
        rw [show (256 : Int32) = nI 256 from rfl, pk_mul, nI_add, nI_add, nI_add]
        congr 1
        omega
      have hlt : 256 * (i + 1) + (y * cW C + x) < 2304 := by omega
      have k2' : zFr (inM m) s.1 υ := k2.mono (fun a ha => Or.inr (Or.inr ha))
      refine ⟨(zsa υ (m + 17) (256 * (i + 1) + (y * cW C + x)) (iI (nx x y)), s.2.1, .inl (iI (px x y)), .inl (iI (blI (cL C i 3) (px x y) (adI (cW C) (cH C) px (cL C i 0) (cL C i 1) (cL C i 2) x y))), .inl (iI (lyI (cW C) (cH C) (cL C i) px x y))), ?_, (g.tr k2').tr (zFr.sa _ (Or.inr (Or.inl rfl))), fun f f1 f2 => (k3 _ _).trans (gk f f1 f2), ⟨(k3 _ _).trans ge.1, (k3 _ _).trans ge.2⟩, fun j hj => ?_, fun x' y' hbef => ?_⟩
      · show LX11_computeLayer_33 _ _ _ _ _ _ _ _ _ _ _ = LX11_computeLayer_33 _ _ _ _ _ _ _ _ _ _ _
        rw [uX11_computeLayer_33, show (3 : Int32) = nI 3 from rfl, show (4 : Int32) = nI 4 from rfl]
        simp only [zlt_e, onR_s, nul_s, nul_n, chk_e, bnI_s, bnR_s, bnV_s, zi_si, zi_sr, zi_sl, zi_sa, zi_sq, zr_si, zr_sr, zr_sl, zr_sa, zr_sq, zl_si, zl_sr, zl_sl, zl_sa, zl_sq, zai_si, zai_sr, zai_sl, zai_sa, zai_sq, zar_si, zar_sr, zar_sl, zar_sa, zar_sq, zkd_si, zkd_sr, zkd_sl, zkd_sa, zkd_sq, zln_si, zln_sr, zln_sl, zln_sa, zln_sq, znx_si, znx_sr, znx_sl, znx_sa, znx_sq, hM'.k, hM'.s.1, hM'.s.2.1, hM'.s.2.2, z0, t0, and_self, if_true, hv0, n_lt (show x < 2 ^ 31 by omega) (show cW C < 2 ^ 31 by omega), hx, s_inputAt hM' hV' hw.2 hh.2 (show i ≤ 8 by omega) hO' hx hy, nI_add, n_zin (show 259 + 32 * i + 3 < 2 ^ 31 by omega), n_tn (show 259 + 32 * i + 3 < 2 ^ 31 by omega), show 259 + 32 * i + 3 < 515 by omega, k1, v3, s_mblend hg.2.2.1 hP hA]
        simp only [zlt_e, onR_s, nul_s, nul_n, chk_e, bnI_s, bnR_s, bnV_s, zi_si, zi_sr, zi_sl, zi_sa, zi_sq, zr_si, zr_sr, zr_sl, zr_sa, zr_sq, zl_si, zl_sr, zl_sl, zl_sa, zl_sq, zai_si, zai_sr, zai_sl, zai_sa, zai_sq, zar_si, zar_sr, zar_sl, zar_sa, zar_sq, zkd_si, zkd_sr, zkd_sl, zkd_sa, zkd_sq, zln_si, zln_sr, zln_sl, zln_sa, zln_sq, znx_si, znx_sr, znx_sl, znx_sa, znx_sq, hMu.k, hMu.s.1, hMu.s.2.1, hMu.s.2.2, hMu.o.1, hMu.o.2.1, hMu.o.2.2, z0, t0, and_self, if_true, hv0u, n_zin (show 259 + 32 * i + 4 < 2 ^ 31 by omega), n_tn (show 259 + 32 * i + 4 < 2 ^ 31 by omega), show 259 + 32 * i + 4 < 515 by omega, em, v4, i_sub, i_mul]
        rw [show (25500 : Int32) = iI 25500 from rfl, s_floor (d + 3) υ (by omega) (by omega) (by decide) (by decide)]
        simp only [zlt_e, onR_s, nul_s, nul_n, chk_e, bnI_s, bnR_s, bnV_s, zi_si, zi_sr, zi_sl, zi_sa, zi_sq, zr_si, zr_sr, zr_sl, zr_sa, zr_sq, zl_si, zl_sr, zl_sl, zl_sa, zl_sq, zai_si, zai_sr, zai_sl, zai_sa, zai_sq, zar_si, zar_sr, zar_sl, zar_sa, zar_sq, zkd_si, zkd_sr, zkd_sl, zkd_sa, zkd_sq, zln_si, zln_sr, zln_sl, zln_sa, zln_sq, znx_si, znx_sr, znx_sl, znx_sa, znx_sq, hMu.k, hMu.s.1, hMu.s.2.1, hMu.s.2.2, hMu.o.1, hMu.o.2.1, hMu.o.2.2, z0, t0, and_self, if_true, hv0u, eo, zb_0, i_add, ix, n_zin (show 256 * (i + 1) + (y * cW C + x) < 2 ^ 31 by omega), n_tn (show 256 * (i + 1) + (y * cW C + x) < 2 ^ 31 by omega), hlt, nI_1]
        by_cases ho : cL C i 5 = 1
        · rw [if_pos ho] at hN
          rw [if_neg (by simpa using ho), ← hN]
          rfl
        · rw [if_neg ho] at hN
          rw [if_pos ho, ← hN]
          rfl
      · rw [zai_sa, if_neg (by omega), k2.ai (by omega)]
        exact go j hj
      · rw [zai_sa]
        by_cases hxy : x' = x ∧ y' = y
        · rw [if_pos ⟨rfl, by rw [hxy.1, hxy.2]⟩, hxy.1, hxy.2]
        · have hx' : x' < cW C := by unfold bef at hbef; omega
          rw [if_neg (fun q => hxy (lin_inj hx hx' (by omega))), k2.ai (by omega)]
          exact gd x' y' (by unfold bef at hbef ⊢; omega))
    (fun y s hy hI => ⟨(s.1, .inl (nI (cW C)), s.2.2), by
      have hV' : MV s.1 (m + 1) 0 C := hV.fr hI.1 (by unfold inM; omega)
      have hv0 : zai s.1 (m + 1) 0 = nI (cW C) := hV'.1
      show LX11_computeLayer_33 _ _ _ _ _ _ _ _ _ _ _ = LX11_computeLayer_19 _ _ _ _ _ _ _ _ _ _ _
      rw [uX11_computeLayer_33]
      simp only [zlt_e, onR_s, nul_s, nul_n, chk_e, bnI_s, bnR_s, bnV_s, zi_si, zi_sr, zi_sl, zi_sa, zi_sq, zr_si, zr_sr, zr_sl, zr_sa, zr_sq, zl_si, zl_sr, zl_sl, zl_sa, zl_sq, zai_si, zai_sr, zai_sl, zai_sa, zai_sq, zar_si, zar_sr, zar_sl, zar_sa, zar_sq, zkd_si, zkd_sr, zkd_sl, zkd_sa, zkd_sq, zln_si, zln_sr, zln_sl, zln_sa, zln_sq, znx_si, znx_sr, znx_sl, znx_sa, znx_sq, (hM.fr hI.1).k, (hM.fr hI.1).s.1, (hM.fr hI.1).s.2.1, (hM.fr hI.1).s.2.2, z0, t0, and_self, if_true, hv0, n_lt (show cW C < 2 ^ 31 by omega) (show cW C < 2 ^ 31 by omega), Nat.lt_irrefl, if_false, nI_1], hI.1, hI.2.1, hI.2.2.1, hI.2.2.2.1, fun x' y' hb => hI.2.2.2.2 x' y' (by unfold bef at hb ⊢; omega)⟩)
    (fun s hI => by
      have hV' : MV s.1 (m + 1) 0 C := hV.fr hI.1 (by unfold inM; omega)
      have hv1 : zai s.1 (m + 1) 1 = nI (cH C) := hV'.2.1
      show LX11_computeLayer_19 _ _ _ _ _ _ _ _ _ _ _ = _
      rw [uX11_computeLayer_19]
      simp only [zlt_e, onR_s, nul_s, nul_n, chk_e, bnI_s, bnR_s, bnV_s, zi_si, zi_sr, zi_sl, zi_sa, zi_sq, zr_si, zr_sr, zr_sl, zr_sa, zr_sq, zl_si, zl_sr, zl_sl, zl_sa, zl_sq, zai_si, zai_sr, zai_sl, zai_sa, zai_sq, zar_si, zar_sr, zar_sl, zar_sa, zar_sq, zkd_si, zkd_sr, zkd_sl, zkd_sa, zkd_sq, zln_si, zln_sr, zln_sl, zln_sa, zln_sq, znx_si, znx_sr, znx_sl, znx_sa, znx_sq, (hM.fr hI.1).k, (hM.fr hI.1).s.1, (hM.fr hI.1).s.2.1, (hM.fr hI.1).s.2.2, z1, t1, and_self, if_true, hv1, n_lt (show cH C < 2 ^ 31 by omega) (show cH C < 2 ^ 31 by omega), Nat.lt_irrefl, if_false])
  exact ⟨τ, h1, h2.1, h2.2.1, fun x y hx hy => h2.2.2.2.2 x y (by unfold bef; omega)⟩
theorem s_compute {σ : zS} {m k : Nat} {C : zC} (hM : MS σ m) (hV : MV σ (m + 1) 0 C) (G : GC C) (hk : k ≤ cN C) (d : Nat) : ∃ τ, zEv (d + 6) mX11_compute [.inr (.inl (some m)), .inl (iI ((k : Int) - 1))] σ = some (some (.inl (nI (256 * k))), τ) ∧ zFr (inM m) σ τ ∧ keepM m σ τ ∧ OV τ m k (cW C) (cH C) (outI C k) := by
  have hw := G.1
  have hh := G.2.1
  have hn8 := G.2.2.1
  rw [vX11_compute]
  unfold fX11_compute
  simp only [zlt_e, onR_s, nul_s, nul_n, chk_e, bnI_s, bnR_s, bnV_s, zi_si, zi_sr, zi_sl, zi_sa, zi_sq, zr_si, zr_sr, zr_sl, zr_sa, zr_sq, zl_si, zl_sr, zl_sl, zl_sa, zl_sq, zai_si, zai_sr, zai_sl, zai_sa, zai_sq, zar_si, zar_sr, zar_sl, zar_sa, zar_sq, zkd_si, zkd_sr, zkd_sl, zkd_sa, zkd_sq, zln_si, zln_sr, zln_sl, zln_sa, zln_sq, znx_si, znx_sr, znx_sl, znx_sa, znx_sq]
  obtain ⟨τ0, a1, a2⟩ := loop_from (fun j τ => LX11_compute_2 (zEv (d + 5)) m (iI ((k : Int) - 1)) (nI j) τ) (fun j τ => zFr (inM m) σ τ ∧ (∀ f a, zi τ f a = zi σ f a) ∧ ∀ j', j' < j → zai τ (m + 17) j' = zai σ (m + 1) (2 + j')) 0 256 (fun τ => LX11_compute_31 (zEv (d + 5)) m (iI ((k : Int) - 1)) (nI 0) τ) σ (by decide) ⟨zFr.rf σ, fun _ _ => rfl, fun j hj => absurd hj (Nat.not_lt_zero _)⟩
    (fun j τ hj hI => by
      obtain ⟨g, gi, ga⟩ := hI
      have hM' := hM.fr g
      have ev : zai τ (m + 1) (2 + j) = zai σ (m + 1) (2 + j) := g.ai (by unfold inM; omega) _
      refine ⟨zsa τ (m + 17) j (zai σ (m + 1) (2 + j)), ?_, g.tr (zFr.sa _ (Or.inr (Or.inl rfl))), gi, fun j' hj' => ?_⟩
      · show LX11_compute_2 _ _ _ _ _ = LX11_compute_2 _ _ _ _ _
        rw [uX11_compute_2, show (256 : Int32) = nI 256 from rfl, show (2 : Int32) = nI 2 from rfl]
        simp only [zlt_e, onR_s, nul_s, nul_n, chk_e, bnI_s, bnR_s, bnV_s, zi_si, zi_sr, zi_sl, zi_sa, zi_sq, zr_si, zr_sr, zr_sl, zr_sa, zr_sq, zl_si, zl_sr, zl_sl, zl_sa, zl_sq, zai_si, zai_sr, zai_sl, zai_sa, zai_sq, zar_si, zar_sr, zar_sl, zar_sa, zar_sq, zkd_si, zkd_sr, zkd_sl, zkd_sa, zkd_sq, zln_si, zln_sr, zln_sl, zln_sa, zln_sq, znx_si, znx_sr, znx_sl, znx_sa, znx_sq, n_lt (show j < 2 ^ 31 by omega) (show 256 < 2 ^ 31 by decide), hj, if_true, hM'.k, hM'.s.1, hM'.s.2.1, hM'.s.2.2, hM'.o.1, hM'.o.2.1, hM'.o.2.2, nI_add, n_zin (show 2 + j < 2 ^ 31 by omega), n_tn (show 2 + j < 2 ^ 31 by omega), show 2 + j < 515 by omega, n_zin (show j < 2 ^ 31 by omega), n_tn (show j < 2 ^ 31 by omega), show j < 2304 by omega, and_self, ev, nI_1]
      · rw [zai_sa]
        by_cases e : j' = j
        · rw [if_pos ⟨rfl, e⟩, e]
        · rw [if_neg (by omega)]
          exact ga j' (by omega))
    (fun τ hI => by
      rw [uX11_compute_2, show (256 : Int32) = nI 256 from rfl]
      simp only [zlt_e, onR_s, nul_s, nul_n, chk_e, bnI_s, bnR_s, bnV_s, zi_si, zi_sr, zi_sl, zi_sa, zi_sq, zr_si, zr_sr, zr_sl, zr_sa, zr_sq, zl_si, zl_sr, zl_sl, zl_sa, zl_sq, zai_si, zai_sr, zai_sl, zai_sa, zai_sq, zar_si, zar_sr, zar_sl, zar_sa, zar_sq, zkd_si, zkd_sr, zkd_sl, zkd_sa, zkd_sq, zln_si, zln_sr, zln_sl, zln_sa, zln_sq, znx_si, znx_sr, znx_sl, znx_sa, znx_sq, n_lt (show 256 < 2 ^ 31 by decide) (show 256 < 2 ^ 31 by decide), Nat.lt_irrefl, if_false]
      rfl)
  have a1 : LX11_compute_2 (zEv (d + 5)) m (iI ((k : Int) - 1)) 0 σ = _ := a1
  rw [a1]
  obtain ⟨g0, gi0, ga0⟩ := a2
  have hO0 : OV τ0 m 0 (cW C) (cH C) (outI C 0) := fun x y hx hy => by
    have hL := lin256 hw.2 hh.2 hx hy
    rw [Nat.mul_zero, Nat.zero_add, ga0 _ hL]
    have := hV.2.2.1 x y hx hy
    rwa [Nat.zero_add] at this
  obtain ⟨τ, h1, h2⟩ := loop_from (fun j τ => LX11_compute_31 (zEv (d + 5)) m (iI ((k : Int) - 1)) (nI j) τ) (fun j τ => zFr (inM m) σ τ ∧ keepM m σ τ ∧ OV τ m j (cW C) (cH C) (outI C j)) 0 k (fun τ => some (some (.inl (nI (256 * k))), τ)) τ0 (Nat.zero_le _) ⟨g0, fun f _ _ => gi0 f m, hO0⟩
    (fun j τ hj hI => by
      obtain ⟨g, gk, gO⟩ := hI
      have hV' : MV τ (m + 1) 0 C := hV.fr g (by unfold inM; omega)
      obtain ⟨υ, k1, k2, k3, k4⟩ := s_computeLayer (hM.fr g) hV' (by omega) (by omega) hn8 (G.2.2.2.2 j (by omega)) (show j < cN C by omega) gO (outI_R G j (by omega)) d
      have hle : (nI j ≤ iI ((k : Int) - 1)) ↔ j < k := by rw [i_nI, i_le (by omega) (by omega) (by omega) (by omega)]; omega
      refine ⟨υ, ?_, g.tr k2, fun f f1 f2 => (k3 f f1 f2).trans (gk f f1 f2), k4⟩
      show LX11_compute_31 _ _ _ _ _ = LX11_compute_31 _ _ _ _ _
      rw [uX11_compute_31]
      simp only [zlt_e, onR_s, nul_s, nul_n, chk_e, bnI_s, bnR_s, bnV_s, zi_si, zi_sr, zi_sl, zi_sa, zi_sq, zr_si, zr_sr, zr_sl, zr_sa, zr_sq, zl_si, zl_sr, zl_sl, zl_sa, zl_sq, zai_si, zai_sr, zai_sl, zai_sa, zai_sq, zar_si, zar_sr, zar_sl, zar_sa, zar_sq, zkd_si, zkd_sr, zkd_sl, zkd_sa, zkd_sq, zln_si, zln_sr, zln_sl, zln_sa, zln_sq, znx_si, znx_sr, znx_sl, znx_sa, znx_sq, hle, hj, if_true, (hM.fr g).k, k1, nI_1])
    (fun τ hI => by
      have hle : (nI k ≤ iI ((k : Int) - 1)) ↔ k < k := by rw [i_nI, i_le (by omega) (by omega) (by omega) (by omega)]; omega
      rw [uX11_compute_31, if_neg (by rw [hle]; omega), show (256 : Int32) = nI 256 from rfl]
      have e : iI ((k : Int) - 1) + 1 = nI k := by rw [show (1 : Int32) = iI 1 from rfl, i_add, i_nI]; congr 1; omega
      rw [e, pk_mul])
  exact ⟨τ, h1, h2⟩
