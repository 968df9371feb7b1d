/-! flatten: the reference -/
theorem s_pixels' {σ : zS} {m w h : Nat} (hM : MS σ m) (v0 : zai σ (m + 1) 0 = nI w) (v1 : zai σ (m + 1) 1 = nI h) (d : Nat) : zEv (d + 1) mX11_pixels [.inr (.inl (some m))] σ = some (some (.inl (nI (h * w))), σ) := by
  have t0 : (0 : Int32).toNatClampNeg = 0 := rfl
  have t1 : (1 : Int32).toNatClampNeg = 1 := rfl
  have z0 : zin 0 515 = True := eq_true (by decide)
  have z1 : zin 1 515 = True := eq_true (by decide)
  rw [vX11_pixels]
  unfold fX11_pixels
  simp only [chk_e, onR_s, hM.k, hM.s.1, hM.s.2.1, hM.s.2.2, z0, t0, z1, t1, and_self, if_true, v0, v1, pk_mul]
  rw [Nat.mul_comm]
theorem m_flatten {σ : zS} {m b : Nat} {A : zW} (hG : GA A b) (hb : b < 2 ^ 30) (hI : MIx σ m A) (x : Int32) (d : Nat) : zOM m (zEv (d + 20) mX11_flatten [.inr (.inl (some m)), .inl x] σ) (rFla A x) (tFla A x) σ := by
  have hn8 := hG.1.2.2.1
  have hw := hG.1.1
  have hh := hG.1.2.1
  have hwh := wh256 hw.2 hh.2
  have hI1 := hI.th
  have g0 : zFr (fun a => m ≤ a ∧ a < m + 22) σ (zsi σ 576 m 0) := zFr.si σ (by omega)
  have key : ∀ r, zOM m (some (some (.inl r), zsi σ 576 m 0)) r A σ := fun r => zOM.same hI r
  have t2 : (258 : Int32).toNatClampNeg = 258 := rfl
  have z258 : zin 258 515 = True := eq_true (by decide)
  rw [vX11_flatten]
  unfold fX11_flatten rFla tFla
  simp only [zlt_e, chk_e, hI.1.k, if_true]
  generalize zsi σ 576 m 0 = σ1 at *
  simp only [zlt_e, chk_e, bnI_s, hI1.1.k, if_true, s_misLayer hI1.1 hI1.2.1 hn8, zb_0]
  by_cases hx : zin x (cN (aC A))
  · obtain ⟨ex, hk⟩ := zin_n hx
    generalize x.toNatClampNeg = k at *
    subst ex
    rw [if_neg (fun q => q hx), if_pos hx, if_pos hx]
    obtain ⟨τ0, k1, k2, k3⟩ := s_mpush hG hI1 (d + 18)
    have hG1 := hG.push
    obtain ⟨τ, l1, l2, l3, l4⟩ := s_compute (k := k + 1) k2.1 k2.2.1 hG.1 (show k + 1 ≤ cN (aC A) by omega) (d + 13)
    have ek : iI (((k + 1 : Nat) : Int) - 1) = nI k := by rw [i_nI]; congr 1; omega
    rw [ek] at l1
    have hI2 := k2.cmp l2 l3
    have V := hI2.2.1
    simp only [hI1.1.k, k1, bnV_s, bnI_s, k2.1.k, if_true, l1]
    -- the base image is the output
    obtain ⟨υ, a1, a2⟩ := loop_from (fun j υ => LX11_flatten_29 (zEv (d + 19)) m (nI k) (nI (256 * (k + 1))) (nI j) υ) (fun j υ => zFr (fun x => x = m + 1) τ υ ∧ (∀ f x, zi υ f x = zi τ f x) ∧ (∀ p, p < 2 ∨ 258 ≤ p → zai υ (m + 1) p = zai τ (m + 1) p) ∧ ∀ i, i < j → zai υ (m + 1) (2 + i) = iI (lin (cW (aC A)) (outI (aC A) (k + 1)) i)) 0 (cH (aC A) * cW (aC A)) (fun υ => LX11_flatten_29 (zEv (d + 19)) m (nI k) (nI (256 * (k + 1))) (nI (cH (aC A) * cW (aC A))) υ) τ (Nat.zero_le _) ⟨zFr.rf τ, fun _ _ => rfl, fun _ _ => rfl, fun i hi => absurd hi (Nat.not_lt_zero _)⟩
      (fun j υ hj hIj => by
        obtain ⟨g, gi, gp, gj⟩ := hIj
        have hM' := hI2.1.fr g
        have ev : zai υ (m + 17) (256 * (k + 1) + j) = iI (lin (cW (aC A)) (outI (aC A) (k + 1)) j) := (g.ai (by omega) _).trans (l4.lin hj (show 1 ≤ cW (aC A) by omega))
        have v0 : zai υ (m + 1) 0 = nI (cW (aC A)) := (gp 0 (by omega)).trans V.1
        have v1 : zai υ (m + 1) 1 = nI (cH (aC A)) := (gp 1 (by omega)).trans V.2.1
        have ep := s_pixels' hM' v0 v1 (d + 18)
        have e2 : (2 : Int32) + nI j = nI (2 + j) := nI_add 2 j
        refine ⟨zsa υ (m + 1) (2 + j) (iI (lin (cW (aC A)) (outI (aC A) (k + 1)) j)), ?_, g.tr (zFr.sa _ rfl), gi, fun p hp => by rw [zai_sa, if_neg (by omega)]; exact gp p hp, fun i hi => ?_⟩
        · show LX11_flatten_29 _ _ _ _ _ _ = LX11_flatten_29 _ _ _ _ _ _
          rw [uX11_flatten_29]
          simp only [zlt_e, chk_e, onR_s, bnI_s, hM'.k, hM'.s.1, hM'.s.2.1, hM'.s.2.2, hM'.o.1, hM'.o.2.1, hM'.o.2.2, if_true, ep, n_lt (show j < 2 ^ 31 by omega) (show cH (aC A) * cW (aC A) < 2 ^ 31 by omega), hj, e2, nI_add, n_zin (show 256 * (k + 1) + j < 2 ^ 31 by omega), n_tn (show 256 * (k + 1) + j < 2 ^ 31 by omega), show 256 * (k + 1) + j < 2304 by omega, n_zin (show 2 + j < 2 ^ 31 by omega), n_tn (show 2 + j < 2 ^ 31 by omega), show 2 + j < 515 by omega, and_self, ev, nI_1]
        · rw [zai_sa]
          by_cases e : i = j
          · rw [if_pos ⟨rfl, by omega⟩, e]
          · rw [if_neg (by omega)]
            exact gj i (by omega))
      (fun υ hIj => rfl)
    have a1 : LX11_flatten_29 (zEv (d + 19)) m (nI k) (nI (256 * (k + 1))) 0 τ = _ := a1
    obtain ⟨g, gi, gp, gj⟩ := a2
    have hM2 := hI2.1.fr g
    have hV2 : MV υ (m + 1) 0 (cW (aC A), cH (aC A), cN (aC A), outI (aC A) (k + 1), cL (aC A)) := by
      refine ⟨(gp 0 (by omega)).trans V.1, (gp 1 (by omega)).trans V.2.1, fun x y hx hy => ?_, (gp 258 (by omega)).trans V.2.2.2.1, fun r hr t ht => (gp _ (by omega)).trans (V.2.2.2.2 r hr t ht)⟩
      have hx : x < cW (aC A) := hx
      have hy : y < cH (aC A) := hy
      show zai υ (m + 1) (0 + 2 + (y * cW (aC A) + x)) = iI (outI (aC A) (k + 1) x y)
      rw [Nat.zero_add, gj _ (lin_ix hx hy), lin_at _ hx]
    have hV2p := hV2
    have ep : zEv (d + 19) mX11_pixels [.inr (.inl (some m))] υ = some (some (.inl (nI (cH (aC A) * cW (aC A)))), υ) := s_pixels' hM2 hV2p.1 hV2p.2.1 (d + 18)
    obtain ⟨ω, b1, b2, b3, b4⟩ := s_cut (a := 0) (b := k + 1) (C := (cW (aC A), cH (aC A), cN (aC A), outI (aC A) (k + 1), cL (aC A))) hM2 hV2 hw.2 hh.2 hn8 (show 0 + (k + 1) ≤ cN (aC A) by omega) (d + 17)
    have eC : cutN (cW (aC A), cH (aC A), cN (aC A), outI (aC A) (k + 1), cL (aC A)) 0 (k + 1) = flC (aC A) k := by
      unfold cutN flC
      have : (fun i => if i < 0 then cL (cW (aC A), cH (aC A), cN (aC A), outI (aC A) (k + 1), cL (aC A)) i else cL (cW (aC A), cH (aC A), cN (aC A), outI (aC A) (k + 1), cL (aC A)) (i + (k + 1))) = fun i => cL (aC A) (i + (k + 1)) := by
        funext i
        rw [if_neg (Nat.not_lt_zero _)]
        rfl
      rw [this]
      rfl
    rw [eC] at b4
    have b1' : zEv (d + 19) mX11_cutLayers [.inr (.inl (some m)), .inl 0, .inl (nI (k + 1))] υ = some (none, ω) := b1
    have hI3 : MIx ω m (aSet (aPush A) (flC (aC A) k)) := hI2.comp (g.tr b2) (fun a _ _ => by omega) (fun f _ => (b3 f m).trans (gi f m)) b4
    have hU3 := hI3.2.2.2.1
    have e64 : ∀ j : Nat, nI j + (64 : Int32) * nI (k + 1) = nI (j + 64 * (k + 1)) := fun j => by rw [nL 64, pk_mul, nI_add]
    have en : nI k + 1 = nI (k + 1) := nI_1 k
    -- the moments move
    obtain ⟨⟨ψ, z⟩, c1, c2⟩ := loop_from (fun j (s : zS × zV) => LX11_flatten_69 (zEv (d + 19)) m (nI k) (.inl (nI (256 * (k + 1)))) (nI j) s.2 s.1) (fun j s => zFr (fun x => x = m + 6) ω s.1 ∧ (∀ f x, zi s.1 f x = zi ω f x) ∧ ∀ p, p < 512 → zai s.1 (m + 6) p = nI (if p < j then shU (aU A) (k + 1) p else aU A p)) 0 512 (fun s => some (some (.inl (nI (cN (aC A) - (k + 1)))), s.1)) (ω, .inr (.inr 0)) (by decide) ⟨zFr.rf ω, fun _ _ => rfl, fun p hp => by rw [if_neg (Nat.not_lt_zero _)]; exact hU3 p hp⟩
      (fun j s hj hIj => by
        obtain ⟨g', gi', ga'⟩ := hIj
        have hM' := hI3.1.fr g'
        have hlt : (nI (j + 64 * (k + 1)) < 512) ↔ j + 64 * (k + 1) < 512 := n_lt (by omega) (by decide)
        have fin : ∀ v, v = nI (shU (aU A) (k + 1) j) → ∀ p, p < 512 → zai (zsa s.1 (m + 6) j v) (m + 6) p = nI (if p < j + 1 then shU (aU A) (k + 1) p else aU A p) := fun v hv p hp => by
          rw [zai_sa]
          by_cases e : p = j
          · rw [if_pos ⟨rfl, e⟩, if_pos (by omega), e, hv]
          · rw [if_neg (by omega), ga' p hp]
            by_cases c : p < j
            · rw [if_pos c, if_pos (by omega)]
            · rw [if_neg c, if_neg (by omega)]
        have hjj : nI j < 512 := (n_lt (show j < 2 ^ 31 by omega) (show 512 < 2 ^ 31 by decide)).mpr hj
        by_cases c : j + 64 * (k + 1) < 512
        · have ev : zai s.1 (m + 6) (j + 64 * (k + 1)) = nI (shU (aU A) (k + 1) j) := by
            rw [ga' _ c, if_neg (by omega)]
            congr 1
            unfold shU
            rw [if_pos c]
          refine ⟨(zsa s.1 (m + 6) j (nI (shU (aU A) (k + 1) j)), .inl (nI (j + 64 * (k + 1)))), ?_, g'.tr (zFr.sa _ rfl), gi', fin _ rfl⟩
          show LX11_flatten_69 _ _ _ _ _ _ _ = LX11_flatten_69 _ _ _ _ _ _ _
          rw [uX11_flatten_69, if_pos hjj]
          simp only [zlt_e, chk_e, onR_s, hM'.k, hM'.u.1, hM'.u.2.1, hM'.u.2.2, if_true, e64, hlt, c, n_zin (show j + 64 * (k + 1) < 2 ^ 31 by omega), n_tn (show j + 64 * (k + 1) < 2 ^ 31 by omega), n_zin (show j < 2 ^ 31 by omega), n_tn (show j < 2 ^ 31 by omega), hj, and_self, ev, nI_1]
        · refine ⟨(zsa s.1 (m + 6) j 0, .inl (nI (j + 64 * (k + 1)))), ?_, g'.tr (zFr.sa _ rfl), gi', fin 0 (by unfold shU; rw [if_neg c]; rfl)⟩
          show LX11_flatten_69 _ _ _ _ _ _ _ = LX11_flatten_69 _ _ _ _ _ _ _
          rw [uX11_flatten_69, if_pos hjj]
          simp only [zlt_e, chk_e, onR_s, hM'.k, hM'.u.1, hM'.u.2.1, hM'.u.2.2, if_true, e64, hlt, c, if_false, n_zin (show j < 2 ^ 31 by omega), n_tn (show j < 2 ^ 31 by omega), hj, and_self, nI_1])
      (fun s hIj => by
        obtain ⟨g', gi', ga'⟩ := hIj
        have hM' := hI3.1.fr g'
        have vn : zai s.1 (m + 1) 258 = nI (cN (aC A) - (k + 1)) := (g'.ai (by omega) _).trans hI3.2.1.2.2.2.1
        rw [uX11_flatten_69, if_neg (by decide)]
        simp only [zlt_e, chk_e, onR_s, hM'.k, hM'.s.1, hM'.s.2.1, hM'.s.2.2, z258, t2, and_self, if_true, vn])
    obtain ⟨g', gi', ga'⟩ := c2
    have hI4 : MIx ψ m (aTil (aSet (aPush A) (flC (aC A) k)) (shU (aU A) (k + 1))) := hI3.tiles g' (fun a _ _ h => h) (fun f _ => gi' f m) (fun p hp => by rw [ga' p hp, if_pos hp])
    have c1 : LX11_flatten_69 (zEv (d + 19)) m (nI k) (.inl (nI (256 * (k + 1)))) 0 (.inr (.inr 0)) ω = _ := c1
    rw [a1, uX11_flatten_29]
    simp only [zlt_e, chk_e, bnI_s, bnV_s, hM2.k, if_true, ep, n_lt (show cH (aC A) * cW (aC A) < 2 ^ 31 by omega) (show cH (aC A) * cW (aC A) < 2 ^ 31 by omega), Nat.lt_irrefl, if_false, en, b1', c1]
    exact ⟨ψ, rfl, hI4, (g0.tr (k3.mono (fun a ha => by omega))).tr ((l2.mono (fun a ha => by unfold inM at ha; omega)).tr ((g.mono (fun a ha => by omega)).tr ((b2.mono (fun a ha => by omega)).tr (g'.mono (fun a ha => by omega)))))⟩
  · rw [if_pos hx, if_neg hx, if_neg hx]
    exact key _
