def inRP (R p a : Nat) : Prop := (R ≤ a ∧ a ≤ R + 3) ∨ inP p a
theorem s_renderStack {σ : zS} {R c p k : Nat} {q : Nat → Nat} {C : zC} (hR : RdS σ R) (hc : CmS σ c) (hq : CmQ σ c q) (hv : CmV σ c q C) (G : GC C) (hp : PicS σ p) (hk : k ≤ cN C) (hRp : R + 3 < p ∨ p + 1 < R) (hRc : R + 3 < c ∨ c + 27 < R) (hpc : p + 1 < c ∨ c + 27 < p) (d : Nat) : ∃ τ, zEv (d + 6) mX7_renderStack [.inr (.inl (some R)), .inr (.inl (some c)), .inl (iI ((k : Int) - 1)), .inr (.inl (some p))] σ = some (none, τ) ∧ zFr (inRP R p) σ τ ∧ PicV τ p (cW C) (cH C) (outI C k) := by
  have hw := G.1.2
  have hh := G.2.1.2
  have hn8 := G.2.2.1
  obtain ⟨τ0, b1, b2, b3⟩ := s_copyFrom hp hc.2.2.2.1 (by omega) hv.1 hw hh (d + 3)
  have b2' : zFr (inRP R p) σ τ0 := b2.mono (fun a ha => Or.inr ha)
  rw [vX7_renderStack]
  unfold fX7_renderStack
  simp only [zlt_e, onR_s, nul_s, nul_n, chk_e, bnI_s, bnR_s, bnV_s, zi_si, zi_sr, zi_sl, zi_sa, zi_sq, zr_si, zr_sr, zr_sl, zr_sa, zr_sq, zl_si, zl_sr, zl_sl, zl_sa, zl_sq, zai_si, zai_sr, zai_sl, zai_sa, zai_sq, zar_si, zar_sr, zar_sl, zar_sa, zar_sq, zkd_si, zkd_sr, zkd_sl, zkd_sa, zkd_sq, zln_si, zln_sr, zln_sl, zln_sa, zln_sq, znx_si, znx_sr, znx_sl, znx_sa, znx_sq, hc.1, hp.1, hc.2.1, if_true, b1]
  obtain ⟨⟨τ, z⟩, h1, h2⟩ := loop_from (fun i (s : zS × zV) => LX7_renderStack_11 (zEv (d + 5)) R (some c) (iI ((k : Int) - 1)) (some p) (nI i) s.2 s.1) (fun i s => zFr (inRP R p) σ s.1 ∧ PicV s.1 p (cW C) (cH C) (outI C i)) 0 k (fun s => some (none, s.1)) (τ0, .inr (.inr none)) (Nat.zero_le _) ⟨b2', b3⟩
    (fun i s hi hI => by
      obtain ⟨g, gp⟩ := hI
      have hqi := (hq.1 i (by omega)).2
      have hR' := hR.fr g
      have hc' := hc.fr g
      have hp' := hp.fr g
      have hq' : CmQ s.1 c q := hq.fr g (by unfold inRP inP; omega)
      have hv' : CmV s.1 c q C := hv.fr hq hn8 g (fun a ha => by unfold inC at ha; unfold inRP inP; omega)
      have hG := G.2.2.2.2 i (by omega)
      have a5 : zi s.1 133 (c + 4 + 3 * q i) = iI (cL C i 5) := (hv'.2.2 i (by omega)).1 5 (by decide)
      have hle : (nI i ≤ iI ((k : Int) - 1)) ↔ i < k := by rw [i_nI, i_le (by omega) (by omega) (by omega) (by omega)]; omega
      have e0 : outI C (i + 1) = if cL C i 5 = 1 then lyI (cW C) (cH C) (cL C i) (outI C i) else outI C i := rfl
      by_cases ho : cL C i 5 = 1
      · obtain ⟨υ, k1, k2, k3, k4, k5, -⟩ := s_render (left := 0) (top := 0) (side := 16) hR' (hc'.2.2.2.2.2.2 (q i) hqi) (hv'.2.2 i (by omega)) hG hp' gp hR'.2.2.1 hw hh (outI_R G i (by omega)) hRp (by omega) (by omega) (by omega) (by omega) (by omega) (by decide) (by decide) (by decide) d
        have k2' : zFr (inRP R p) s.1 υ := k2.mono (fun a ha => by unfold inO inP at ha; unfold inRP; omega)
        have hpv : PicV υ (R + 1) (cW C) (cH C) (lyI (cW C) (cH C) (cL C i) (outI C i)) := ⟨k3, k4, fun x y hx hy => k5 x y (by unfold inSq; omega)⟩
        have hRu := hR'.fr k2
        obtain ⟨ω, m1, m2, m3⟩ := s_copyFrom (hp'.fr k2) hRu.2.2.1 (by omega) hpv hw hh (d + 3)
        have m2' : zFr (inRP R p) υ ω := m2.mono (fun a ha => Or.inr ha)
        refine ⟨(ω, .inr (.inl (some (c + 4 + 3 * q i)))), ?_, (g.tr k2').tr m2', ?_⟩
        · show LX7_renderStack_11 _ _ _ _ _ _ _ _ = LX7_renderStack_11 _ _ _ _ _ _ _ _
          rw [uX7_renderStack_11]
          simp only [zlt_e, onR_s, nul_s, nul_n, chk_e, bnI_s, bnR_s, bnV_s, zi_si, zi_sr, zi_sl, zi_sa, zi_sq, zr_si, zr_sr, zr_sl, zr_sa, zr_sq, zl_si, zl_sr, zl_sl, zl_sa, zl_sq, zai_si, zai_sr, zai_sl, zai_sa, zai_sq, zar_si, zar_sr, zar_sl, zar_sa, zar_sq, zkd_si, zkd_sr, zkd_sl, zkd_sa, zkd_sq, zln_si, zln_sr, zln_sl, zln_sa, zln_sq, znx_si, znx_sr, znx_sl, znx_sa, znx_sq, hle, hi, if_true, hc'.1, s_layerCount hc', hv'.2.1, n_lt (show i < 2 ^ 31 by omega) (show cN C < 2 ^ 31 by omega), show i < cN C by omega, s_layerAt hc' hq' hv'.2.1 hn8 (show i < cN C by omega), (hc'.2.2.2.2.2.2 (q i) hqi).1, a5, on_0 hG, ho, not_true_eq_false, if_false, hR'.1, hR'.2.1]
          rw [show (0 : Int32) = nI 0 from rfl, show (16 : Int32) = nI 16 from rfl, k1]
          simp only [zlt_e, onR_s, nul_s, nul_n, chk_e, bnI_s, bnR_s, bnV_s, zi_si, zi_sr, zi_sl, zi_sa, zi_sq, zr_si, zr_sr, zr_sl, zr_sa, zr_sq, zl_si, zl_sr, zl_sl, zl_sa, zl_sq, zai_si, zai_sr, zai_sl, zai_sa, zai_sq, zar_si, zar_sr, zar_sl, zar_sa, zar_sq, zkd_si, zkd_sr, zkd_sl, zkd_sa, zkd_sq, zln_si, zln_sr, zln_sl, zln_sa, zln_sq, znx_si, znx_sr, znx_sl, znx_sa, znx_sq, hRu.1, hRu.2.1, (hp'.fr k2).1, if_true, m1, nI_1]
          rw [if_neg (by decide)]
        · rw [e0, if_pos ho]; exact m3
      · refine ⟨(s.1, .inr (.inl (some (c + 4 + 3 * q i)))), ?_, g, ?_⟩
        · show LX7_renderStack_11 _ _ _ _ _ _ _ _ = LX7_renderStack_11 _ _ _ _ _ _ _ _
          rw [uX7_renderStack_11]
          simp only [zlt_e, onR_s, nul_s, nul_n, chk_e, bnI_s, bnR_s, bnV_s, zi_si, zi_sr, zi_sl, zi_sa, zi_sq, zr_si, zr_sr, zr_sl, zr_sa, zr_sq, zl_si, zl_sr, zl_sl, zl_sa, zl_sq, zai_si, zai_sr, zai_sl, zai_sa, zai_sq, zar_si, zar_sr, zar_sl, zar_sa, zar_sq, zkd_si, zkd_sr, zkd_sl, zkd_sa, zkd_sq, zln_si, zln_sr, zln_sl, zln_sa, zln_sq, znx_si, znx_sr, znx_sl, znx_sa, znx_sq, hle, hi, if_true, hc'.1, s_layerCount hc', hv'.2.1, n_lt (show i < 2 ^ 31 by omega) (show cN C < 2 ^ 31 by omega), show i < cN C by omega, s_layerAt hc' hq' hv'.2.1 hn8 (show i < cN C by omega), (hc'.2.2.2.2.2.2 (q i) hqi).1, a5, on_0 hG, ho, not_false_eq_true, nI_1]
        · rw [e0, if_neg ho]; exact gp)
    (fun s hI => by
      rw [uX7_renderStack_11]
      have hle : (nI k ≤ iI ((k : Int) - 1)) ↔ k < k := by rw [i_nI, i_le (by omega) (by omega) (by omega) (by omega)]; omega
      rw [if_neg (by rw [hle]; omega)])
  exact ⟨τ, h1, h2.1, h2.2⟩
