/-! the reference: duplicateLayer, cutLayers, removeLayer -/
theorem m_duplicateLayer {σ : zS} {m B : Nat} {A : zW} (hG : GA A B) (hB : B < 2 ^ 30) (hI : MIx σ m A) (x : Int32) (d : Nat) : zOM m (zEv (d + 20) mX11_duplicateLayer [.inr (.inl (some m)), .inl x] σ) (rDup A x) (tDup A x) σ := by
  have hn8 := hG.1.2.2.1
  have hw := hG.1.1.2
  have hh := hG.1.2.1.2
  have hI1 := hI.th
  have g0 : zFr (fun a => m ≤ a ∧ a < m + 22) σ (zsi σ 576 m 0) := zFr.si σ (by omega)
  have key : ∀ r, zOM m (some (some (.inl r), zsi σ 576 m 0)) r A σ := fun r => zOM.same hI r
  have t2 : (258 : Int32).toNatClampNeg = 258 := rfl
  have z258 : zin 258 515 = True := eq_true (by decide)
  have vn : zai (zsi σ 576 m 0) (m + 1) 258 = nI (cN (aC A)) := hI1.2.1.2.2.2.1
  have e8 : (nI (cN (aC A)) = 8) ↔ cN (aC A) = 8 := n_eq (by omega) (by decide)
  rw [vX11_duplicateLayer]
  unfold fX11_duplicateLayer rDup tDup
  simp only [zlt_e, chk_e, hI.1.k, if_true]
  generalize zsi σ 576 m 0 = σ1 at *
  simp only [zlt_e, chk_e, bnI_s, hI1.1.k, if_true, s_misLayer hI1.1 hI1.2.1 hn8, zb_0]
  by_cases hx : zin x (cN (aC A))
  · obtain ⟨ex, hk⟩ := zin_n hx
    generalize x.toNatClampNeg = l at *
    subst ex
    rw [if_neg (fun q => q hx), if_pos hx, if_pos hx]
    simp only [onR_s, hI1.1.s.1, hI1.1.s.2.1, hI1.1.s.2.2, z258, t2, and_self, if_true, vn, e8]
    by_cases h8 : cN (aC A) = 8
    · rw [if_pos h8, if_pos h8, if_pos h8]; exact key _
    · rw [if_neg h8, if_neg h8, if_neg h8]
      obtain ⟨τ, k1, k2, k3⟩ := s_mpush hG hI1 (d + 18)
      have vn2 : zai τ (m + 1) 258 = nI (cN (aC A)) := k2.2.1.2.2.2.1
      generalize hN : cN (aC A) = N at *
      have e0 : nI (259 + 32 * N) - 1 = nI (258 + 32 * N - 0) := by
        rw [show 259 + 32 * N = (258 + 32 * N) + 1 by omega, nI_m]; rfl
      simp only [k1, bnV_s, bnI_s, onR_s, zlt_e, s_mat, k2.1.k, k2.1.s.1, k2.1.s.2.1, k2.1.s.2.2, z258, t2, and_self, if_true, vn2, e0]
      obtain ⟨υ, h1, h2⟩ := loop_from (fun i υ => LX11_duplicateLayer_52 (zEv (d + 19)) m (nI l) (nI (258 + 32 * N - i)) υ) (fun i υ => zFr (fun x => x = m + 1) τ υ ∧ (∀ f x, zi υ f x = zi τ f x) ∧ ∀ p, zai υ (m + 1) p = zai τ (m + 1) (if 259 + 32 * N + 32 - i ≤ p ∧ p < 259 + 32 * N + 32 then p - 32 else p)) 0 (32 * (N - l)) (fun υ => LX11_duplicateLayer_52 (zEv (d + 19)) m (nI l) (nI (258 + 32 * l)) υ) τ (by omega) ⟨zFr.rf τ, fun _ _ => rfl, fun p => by rw [if_neg (by omega)]⟩
        (fun i υ hi hI => by
          obtain ⟨g, gi, ga⟩ := hI
          have hM' := k2.1.fr g
          obtain ⟨k, hk'⟩ : ∃ k, 258 + 32 * N - i = k + 1 := ⟨258 + 32 * N - i - 1, by omega⟩
          have va : zai υ (m + 1) (k + 1) = zai τ (m + 1) (k + 1) := by rw [ga, if_neg (by omega)]
          refine ⟨zsa υ (m + 1) (k + 1 + 32) (zai τ (m + 1) (k + 1)), ?_, g.tr (zFr.sa _ rfl), gi, fun p => ?_⟩
          · show LX11_duplicateLayer_52 _ _ _ _ _ = LX11_duplicateLayer_52 _ _ _ _ _
            rw [uX11_duplicateLayer_52, hk', show 258 + 32 * N - (i + 1) = k by omega, show (32 : Int32) = nI 32 from rfl]
            simp only [zlt_e, chk_e, onR_s, bnI_s, s_mat, n_lt (show k + 1 < 2 ^ 31 by omega) (show 259 + 32 * l < 2 ^ 31 by omega), show ¬ k + 1 < 259 + 32 * l by omega, if_false, if_true, hM'.k, hM'.s.1, hM'.s.2.1, hM'.s.2.2, nI_add, n_zin (show k + 1 < 2 ^ 31 by omega), n_tn (show k + 1 < 2 ^ 31 by omega), n_zin (show k + 1 + 32 < 2 ^ 31 by omega), n_tn (show k + 1 + 32 < 2 ^ 31 by omega), show k + 1 < 515 by omega, show k + 1 + 32 < 515 by omega, and_self, va, nI_p]
          · rw [zai_sa]
            by_cases e : p = k + 1 + 32
            · rw [if_pos ⟨rfl, e⟩, if_pos (by omega), e]
              rfl
            · rw [if_neg (by omega), ga]
              by_cases c : 259 + 32 * N + 32 - i ≤ p ∧ p < 259 + 32 * N + 32
              · rw [if_pos c, if_pos (by omega)]
              · rw [if_neg c, if_neg (by omega)])
        (fun υ hI => by
          show LX11_duplicateLayer_52 _ _ _ _ _ = LX11_duplicateLayer_52 _ _ _ _ _
          rw [show 258 + 32 * N - 32 * (N - l) = 258 + 32 * l by omega])
      rw [h1]
      obtain ⟨g, gi, ga⟩ := h2
      have hM' := k2.1.fr g
      have un : zai υ (m + 1) 258 = nI N := by rw [ga, if_neg (by omega)]; exact vn2
      have gs : zFr (fun x => x = m + 1) τ (zsa υ (m + 1) 258 (nI (N + 1))) := g.tr (zFr.sa _ rfl)
      have hV : MV (zsa υ (m + 1) 258 (nI (N + 1))) (m + 1) 0 (dupC (aC A) l) := by
        have V := k2.2.1
        refine ⟨?_, ?_, fun x y hx hy => ?_, ?_, fun i hi j hj => ?_⟩
        · rw [zai_sa, if_neg (by omega), ga, if_neg (by omega)]; exact V.1
        · rw [zai_sa, if_neg (by omega), ga, if_neg (by omega)]; exact V.2.1
        · have := lin256 hw hh hx hy
          have h256 : y * cW (aC A) + x < 256 := this
          show zai _ _ (0 + 2 + (y * cW (aC A) + x)) = _
          rw [zai_sa, if_neg (by omega), ga, if_neg (by omega)]; exact V.2.2.1 x y hx hy
        · rw [zai_sa, if_pos ⟨rfl, rfl⟩]
          show nI (N + 1) = nI (cN (aC A) + 1)
          rw [hN]
        · have hi : i < cN (aC A) + 1 := hi
          rw [zai_sa, if_neg (by omega), ga]
          show _ = iI ((if i ≤ l then cL (aC A) i else cL (aC A) (i - 1)) j)
          by_cases c : i ≤ l
          · rw [if_neg (by omega), if_pos c]
            exact V.2.2.2.2 i (by show i < cN (aC A); omega) j hj
          · rw [if_pos (by omega), if_neg c]
            have := V.2.2.2.2 (i - 1) (by show i - 1 < cN (aC A); omega) j hj
            rw [show 0 + 259 + 32 * i + j - 32 = 0 + 259 + 32 * (i - 1) + j by omega]
            exact this
      have hI3 : MIx (zsa υ (m + 1) 258 (nI (N + 1))) m (aSet (aPush A) (dupC (aC A) l)) := k2.comp gs (fun a _ _ => by omega) (fun f _ => gi f m) hV
      obtain ⟨ω, n, n1, n2, n3, n4⟩ := s_mtil (A := aSet (aPush A) (dupC (aC A) l)) (hG.u31 hB) hI3 (show l + 1 ≤ 8 by omega) (d + 18)
      rw [uX11_duplicateLayer_52]
      simp only [zlt_e, chk_e, onR_s, bnI_s, s_mat, n_lt (show 258 + 32 * l < 2 ^ 31 by omega) (show 259 + 32 * l < 2 ^ 31 by omega), show 258 + 32 * l < 259 + 32 * l by omega, if_true, hM'.k, hM'.s.1, hM'.s.2.1, hM'.s.2.2, z258, t2, and_self, un, nI_1, zkd_sa, n1]
      exact ⟨ω, rfl, n2, (g0.tr (k3.mono (fun a ha => by omega))).tr ((gs.mono (fun a ha => by omega)).tr (n3.mono (fun a ha => by omega)))⟩
  · rw [if_pos hx, if_neg hx, if_neg hx]
    exact key _
/-- some rows from one on are taken out -/
def cutN (C : zC) (from_ many : Nat) : zC := (cW C, cH C, cN C - many, cP C, fun i => if i < from_ then cL C i else cL C (i + many))
theorem s_cut {σ : zS} {m a b : Nat} {C : zC} (hM : MS σ m) (hV : MV σ (m + 1) 0 C) (hw : cW C ≤ 16) (hh : cH C ≤ 16) (hn8 : cN C ≤ 8) (hab : a + b ≤ cN C) (d : Nat) : ∃ τ, zEv (d + 2) mX11_cutLayers [.inr (.inl (some m)), .inl (nI a), .inl (nI b)] σ = some (none, τ) ∧ zFr (fun x => x = m + 1) σ τ ∧ (∀ f x, zi τ f x = zi σ f x) ∧ MV τ (m + 1) 0 (cutN C a b) := by
  have t2 : (258 : Int32).toNatClampNeg = 258 := rfl
  have z258 : zin 258 515 = True := eq_true (by decide)
  have vn : zai σ (m + 1) 258 = nI (cN C) := hV.2.2.2.1
  have e32 : (32 : Int32) * nI b = nI (32 * b) := pk_mul 32 b
  rw [vX11_cutLayers]
  unfold fX11_cutLayers
  simp only [zlt_e, nI_add, s_mat, bnI_s]
  obtain ⟨υ, h1, h2⟩ := loop_from (fun i υ => LX11_cutLayers_7 (zEv (d + 1)) m (.inl (nI a)) (nI b) (nI (259 + 32 * (a + b) + i)) υ) (fun i υ => zFr (fun x => x = m + 1) σ υ ∧ (∀ f x, zi υ f x = zi σ f x) ∧ ∀ p, zai υ (m + 1) p = zai σ (m + 1) (if 259 + 32 * a ≤ p ∧ p < 259 + 32 * a + i then p + 32 * b else p)) 0 (32 * (cN C - (a + b))) (fun υ => LX11_cutLayers_7 (zEv (d + 1)) m (.inl (nI a)) (nI b) (nI (259 + 32 * cN C)) υ) σ (by omega) ⟨zFr.rf σ, fun _ _ => rfl, fun p => by rw [if_neg (by omega)]⟩
    (fun i υ hi hI => by
      obtain ⟨g, gi, ga⟩ := hI
      have hM' := hM.fr g
      have un : zai υ (m + 1) 258 = nI (cN C) := by rw [ga, if_neg (by omega)]; exact vn
      have va : zai υ (m + 1) (259 + 32 * (a + b) + i) = zai σ (m + 1) (259 + 32 * (a + b) + i) := by rw [ga, if_neg (by omega)]
      have es : nI (259 + 32 * (a + b) + i) - nI (32 * b) = nI (259 + 32 * a + i) := by rw [nI_sub (by omega)]; congr 1; omega
      refine ⟨zsa υ (m + 1) (259 + 32 * a + i) (zai σ (m + 1) (259 + 32 * (a + b) + i)), ?_, g.tr (zFr.sa _ rfl), gi, fun p => ?_⟩
      · show LX11_cutLayers_7 _ _ _ _ _ _ = LX11_cutLayers_7 _ _ _ _ _ _
        rw [uX11_cutLayers_7]
        simp only [zlt_e, chk_e, onR_s, bnI_s, s_mat, hM'.k, hM'.s.1, hM'.s.2.1, hM'.s.2.2, z258, t2, and_self, if_true, un, n_lt (show 259 + 32 * (a + b) + i < 2 ^ 31 by omega) (show 259 + 32 * cN C < 2 ^ 31 by omega), show 259 + 32 * (a + b) + i < 259 + 32 * cN C by omega, e32, es, n_zin (show 259 + 32 * (a + b) + i < 2 ^ 31 by omega), n_tn (show 259 + 32 * (a + b) + i < 2 ^ 31 by omega), n_zin (show 259 + 32 * a + i < 2 ^ 31 by omega), n_tn (show 259 + 32 * a + i < 2 ^ 31 by omega), show 259 + 32 * (a + b) + i < 515 by omega, show 259 + 32 * a + i < 515 by omega, va, nI_1]
        rfl
      · rw [zai_sa]
        by_cases e : p = 259 + 32 * a + i
        · rw [if_pos ⟨rfl, e⟩, if_pos (by omega), e]
          congr 1
          omega
        · rw [if_neg (by omega), ga]
          by_cases c : 259 + 32 * a ≤ p ∧ p < 259 + 32 * a + i
          · rw [if_pos c, if_pos (by omega)]
          · rw [if_neg c, if_neg (by omega)])
    (fun υ hI => by
      show LX11_cutLayers_7 _ _ _ _ _ _ = LX11_cutLayers_7 _ _ _ _ _ _
      rw [show 259 + 32 * (a + b) + 32 * (cN C - (a + b)) = 259 + 32 * cN C by omega])
  have h1 : LX11_cutLayers_7 (zEv (d + 1)) m (.inl (nI a)) (nI b) (nI (259 + 32 * (a + b))) σ = _ := h1
  rw [h1]
  obtain ⟨g, gi, ga⟩ := h2
  have hM' := hM.fr g
  have un : zai υ (m + 1) 258 = nI (cN C) := by rw [ga, if_neg (by omega)]; exact vn
  have es : nI (cN C) - nI b = nI (cN C - b) := nI_sub (by omega)
  rw [uX11_cutLayers_7]
  simp only [zlt_e, chk_e, onR_s, bnI_s, s_mat, hM'.k, hM'.s.1, hM'.s.2.1, hM'.s.2.2, z258, t2, and_self, if_true, un, n_lt (show 259 + 32 * cN C < 2 ^ 31 by omega) (show 259 + 32 * cN C < 2 ^ 31 by omega), Nat.lt_irrefl, if_false, es, zkd_sa, zln_sa, zr_sa, zai_sa]
  have gs : zFr (fun x => x = m + 1) σ (zsa υ (m + 1) 258 (nI (cN C - b))) := g.tr (zFr.sa _ rfl)
  have ga2 : ∀ p, zai (zsa υ (m + 1) 258 (nI (cN C - b))) (m + 1) p = if p = 258 then nI (cN C - b) else zai σ (m + 1) (if 259 + 32 * a ≤ p ∧ p < 259 + 32 * a + 32 * (cN C - (a + b)) then p + 32 * b else p) := fun p => by
    rw [zai_sa]
    by_cases e : p = 258
    · rw [if_pos ⟨rfl, e⟩, if_pos e]
    · rw [if_neg (by omega), if_neg e, ga]
  have gi2 : ∀ f x, zi (zsa υ (m + 1) 258 (nI (cN C - b))) f x = zi σ f x := gi
  generalize zsa υ (m + 1) 258 (nI (cN C - b)) = υ2 at *
  obtain ⟨ω, o1, o2⟩ := loop_ge (fun k ω => LX11_cutLayers_69 (zEv (d + 1)) m (.inl (nI a)) (.inl (nI b)) (nI k) ω) (fun k ω => zFr (fun x => x = m + 1) υ2 ω ∧ (∀ f x, zi ω f x = zi υ2 f x) ∧ ∀ p, p < 259 + 32 * (cN C - b) → zai ω (m + 1) p = zai υ2 (m + 1) p) (259 + 32 * (cN C - b)) 515 (fun ω => some (none, ω)) υ2 (by omega) ⟨zFr.rf υ2, fun _ _ => rfl, fun _ _ => rfl⟩
    (fun k ω hk0 hk hI => by
      obtain ⟨k', ki, ka⟩ := hI
      have hM2 := (hM.fr gs).fr k'
      refine ⟨zsa ω (m + 1) k 0, ?_, k'.tr (zFr.sa _ rfl), ki, fun p hp => by rw [zai_sa, if_neg (by omega)]; exact ka p hp⟩
      show LX11_cutLayers_69 _ _ _ _ _ _ = LX11_cutLayers_69 _ _ _ _ _ _
      rw [uX11_cutLayers_69, if_pos (show nI k < 515 from (n_lt (show k < 2 ^ 31 by omega) (show 515 < 2 ^ 31 by decide)).mpr hk)]
      simp only [zlt_e, chk_e, onR_s, hM2.k, hM2.s.1, hM2.s.2.1, hM2.s.2.2, if_true, n_zin (show k < 2 ^ 31 by omega), n_tn (show k < 2 ^ 31 by omega), hk, and_self, nI_1])
    (fun ω hI => by
      rw [uX11_cutLayers_69, if_neg (by decide)])
  obtain ⟨k', ki, ka⟩ := o2
  refine ⟨ω, o1, gs.tr k', fun f x => (ki f x).trans (gi2 f x), ?_, ?_, fun x y hx hy => ?_, ?_, fun i hi j hj => ?_⟩
  · rw [ka _ (by omega), ga2, if_neg (by omega), if_neg (by omega)]; exact hV.1
  · rw [ka _ (by omega), ga2, if_neg (by omega), if_neg (by omega)]; exact hV.2.1
  · have h256 : y * cW C + x < 256 := lin256 hw hh hx hy
    show zai _ _ (0 + 2 + (y * cW C + x)) = _
    rw [ka _ (by omega), ga2, if_neg (by omega), if_neg (by omega)]; exact hV.2.2.1 x y hx hy
  · rw [ka _ (by omega), ga2, if_pos (by omega)]; rfl
  · have hi : i < cN C - b := hi
    rw [ka _ (by omega), ga2, if_neg (by omega)]
    show _ = iI ((if i < a then cL C i else cL C (i + b)) j)
    by_cases c : i < a
    · rw [if_neg (by omega), if_pos c]
      exact hV.2.2.2.2 i (by omega) j hj
    · rw [if_pos (by omega), if_neg c, show 0 + 259 + 32 * i + j + 32 * b = 0 + 259 + 32 * (i + b) + j by omega]
      exact hV.2.2.2.2 (i + b) (by omega) j hj
theorem m_removeLayer {σ : zS} {m B : Nat} {A : zW} (hG : GA A B) (hB : B < 2 ^ 30) (hI : MIx σ m A) (x : Int32) (d : Nat) : zOM m (zEv (d + 20) mX11_removeLayer [.inr (.inl (some m)), .inl x] σ) (rRem A x) (tRem A x) σ := by
  have hn8 := hG.1.2.2.1
  have hw := hG.1.1.2
  have hh := hG.1.2.1.2
  have hI1 := hI.th
  have g0 : zFr (fun a => m ≤ a ∧ a < m + 22) σ (zsi σ 576 m 0) := zFr.si σ (by omega)
  have key : ∀ r, zOM m (some (some (.inl r), zsi σ 576 m 0)) r A σ := fun r => zOM.same hI r
  have t2 : (258 : Int32).toNatClampNeg = 258 := rfl
  have z258 : zin 258 515 = True := eq_true (by decide)
  rw [vX11_removeLayer]
  unfold fX11_removeLayer rRem tRem
  simp only [zlt_e, chk_e, hI.1.k, if_true]
  generalize zsi σ 576 m 0 = σ1 at *
  simp only [zlt_e, chk_e, bnI_s, hI1.1.k, if_true, s_misLayer hI1.1 hI1.2.1 hn8, zb_0]
  by_cases hx : zin x (cN (aC A))
  · obtain ⟨ex, hk⟩ := zin_n hx
    generalize x.toNatClampNeg = l at *
    subst ex
    rw [if_neg (fun q => q hx), if_pos hx, if_pos hx]
    obtain ⟨τ, k1, k2, k3⟩ := s_mpush hG hI1 (d + 18)
    obtain ⟨υ, l1, l2, l3, l4⟩ := s_cut (a := l) (b := 1) k2.1 k2.2.1 hw hh hn8 (show l + 1 ≤ cN (aC A) by omega) (d + 17)
    have hI3 : MIx υ m (aSet (aPush A) (cutC (aC A) l)) := k2.comp l2 (fun a _ _ => by omega) (fun f _ => l3 f m) l4
    obtain ⟨ω, n, n1, n2, n3, n4⟩ := s_mtil (A := aSet (aPush A) (cutC (aC A) l)) (hG.u31 hB) hI3 (show l ≤ 8 by omega) (d + 18)
    have wn : zai ω (m + 1) 258 = nI (cN (aC A) - 1) := n2.2.1.2.2.2.1
    have l1' : zEv (d + 19) mX11_cutLayers [.inr (.inl (some m)), .inl (nI l), .inl 1] τ = some (none, υ) := l1
    simp only [k1, bnV_s, bnI_s, onR_s, k2.1.k, if_true, l1', hI3.1.k, n1, n2.1.k, n2.1.s.1, n2.1.s.2.1, n2.1.s.2.2, z258, t2, and_self, wn]
    exact ⟨ω, rfl, n2, (g0.tr (k3.mono (fun a ha => by omega))).tr ((l2.mono (fun a ha => by omega)).tr (n3.mono (fun a ha => by omega)))⟩
  · rw [if_pos hx, if_neg hx, if_neg hx]
    exact key _
