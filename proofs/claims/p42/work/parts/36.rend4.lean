/-- the cells that a rendering changes -/
def inO (R o a : Nat) : Prop := a = R ∨ a = R + 3 ∨ inP o a
def inSq (w h left top side x y : Nat) : Prop := (left ≤ x ∧ x < left + side ∧ x < w) ∧ top ≤ y ∧ y < top + side ∧ y < h
theorem s_render {σ : zS} {R p o m w h left top side : Nat} {px : Nat → Nat → Int} {l : Nat → Int} (hR : RdS σ R) (hm : LyS σ m) (hl : LyV σ m l) (hg : GL l) (hp : PicS σ p) (hv : PicV σ p w h px) (ho : PicS σ o) (hw : w ≤ 16) (hh : h ≤ 16) (hpx : pxR w h px) (hd : R + 3 < p ∨ p + 1 < R) (hdm : R + 3 < m ∨ m + 2 < R) (hop : o + 1 < p ∨ p + 1 < o) (hom : o + 1 < m ∨ m + 2 < o) (hoR : o ≠ R ∧ o + 1 ≠ R) (hoN : o ≠ R + 3 ∧ o + 1 ≠ R + 3) (hL : left < 1000) (hT : top < 1000) (hS : side < 1000) (d : Nat) : ∃ τ, zEv (d + 5) mX7_render [.inr (.inl (some R)), .inr (.inl (some m)), .inr (.inl (some p)), .inr (.inl (some o)), .inl (nI left), .inl (nI top), .inl (nI side)] σ = some (none, τ) ∧ zFr (inO R o) σ τ ∧ zi τ 257 o = nI w ∧ zi τ 258 o = nI h ∧ (∀ x y, inSq w h left top side x y → zai τ (o + 1) (16 * y + x) = iI (lyI w h l px x y)) ∧ ∀ x y, x < 16 → y < 16 → ¬ inSq w h left top side x y → zai τ (o + 1) (16 * y + x) = zai σ (o + 1) (16 * y + x) := by
  have hk := hg.1
  -- the loops, from a state where the size is taken and the extremes are found
  have main : ∀ (σ1 : zS), zFr (inO R o) σ σ1 → zi σ1 257 o = nI w → zi σ1 258 o = nI h → (∀ i, zai σ1 (o + 1) i = zai σ (o + 1) i) → (l 0 = 13 → ExV σ1 R w h px) → ∃ τ, LX7_render_23 (zEv (d + 4)) R (some m) (some p) (some o) (nI left) (nI top) (nI side) (nI top) (.inr (.inr none)) (.inr (.inr none)) (.inr (.inr none)) (.inr (.inr none)) σ1 = some (none, τ) ∧ zFr (inO R o) σ τ ∧ zi τ 257 o = nI w ∧ zi τ 258 o = nI h ∧ (∀ x y, inSq w h left top side x y → zai τ (o + 1) (16 * y + x) = iI (lyI w h l px x y)) ∧ ∀ x y, x < 16 → y < 16 → ¬ inSq w h left top side x y → zai τ (o + 1) (16 * y + x) = zai σ (o + 1) (16 * y + x) := by
    intro σ1 g1 ow oh oa ex
    obtain ⟨⟨τ, z1, z2, z3, z4⟩, h1, h2⟩ := grid (fun j (s : zS × zV × zV × zV × zV) => LX7_render_23 (zEv (d + 4)) R (some m) (some p) (some o) (nI left) (nI top) (nI side) (nI (top + j)) s.2.1 s.2.2.1 s.2.2.2.1 s.2.2.2.2 s.1)
      (fun j i s => LX7_render_46 (zEv (d + 4)) R (some m) (some p) (some o) (nI left) (nI top) (nI side) (nI (top + j)) (nI (left + i)) s.2.2.1 s.2.2.2.1 s.2.2.2.2 s.1)
      (fun j i s => zFr (inO R o) σ s.1 ∧ (zi s.1 257 o = nI w ∧ zi s.1 258 o = nI h) ∧ (l 0 = 13 → ExV s.1 R w h px) ∧ (∀ x y, inSq w h left top side x y → (y < top + j ∨ (y = top + j ∧ x < left + i)) → zai s.1 (o + 1) (16 * y + x) = iI (lyI w h l px x y)) ∧ ∀ x y, x < 16 → y < 16 → (¬ inSq w h left top side x y ∨ ¬ (y < top + j ∨ (y = top + j ∧ x < left + i))) → zai s.1 (o + 1) (16 * y + x) = zai σ (o + 1) (16 * y + x))
      (min (left + side) w - left) (min (top + side) h - top) (fun s => some (none, s.1)) (σ1, .inr (.inr none), .inr (.inr none), .inr (.inr none), .inr (.inr none)) ⟨g1, ⟨ow, oh⟩, ex, fun x y q b => by unfold inSq at q; omega, fun x y _ _ _ => oa _⟩
      (fun j s hj hI => ⟨s, by
        show LX7_render_23 _ _ _ _ _ _ _ _ _ _ _ _ _ _ = LX7_render_46 _ _ _ _ _ _ _ _ _ _ _ _ _ _
        have hv' : PicV s.1 p w h px := hv.fr hI.1 (by unfold inO inP; omega) (by unfold inO inP; omega)
        rw [uX7_render_23]
        simp only [zlt_e, onR_s, nul_s, nul_n, chk_e, bnI_s, bnR_s, bnV_s, zi_si, zi_sr, zi_sl, zi_sa, zi_sq, zr_si, zr_sr, zr_sl, zr_sa, zr_sq, zl_si, zl_sr, zl_sl, zl_sa, zl_sq, zai_si, zai_sr, zai_sl, zai_sa, zai_sq, zar_si, zar_sr, zar_sl, zar_sa, zar_sq, zkd_si, zkd_sr, zkd_sl, zkd_sa, zkd_sq, zln_si, zln_sr, zln_sl, zln_sa, zln_sq, znx_si, znx_sr, znx_sl, znx_sa, znx_sq, nI_add, n_lt (show top + j < 2 ^ 31 by omega) (show top + side < 2 ^ 31 by omega), n_lt (show top + j < 2 ^ 31 by omega) (show h < 2 ^ 31 by omega), show top + j < top + side by omega, show top + j < h by omega, (hp.fr hI.1).1, hv'.2.1, if_true]
        rfl, hI⟩)
      (fun j i s hj hi hI => by
        obtain ⟨g, ⟨gw, gh⟩, gE, gd, gu⟩ := hI
        have hR' := hR.fr g
        have hm' := hm.fr g
        have hp' := hp.fr g
        have hv' : PicV s.1 p w h px := hv.fr g (by unfold inO inP; omega) (by unfold inO inP; omega)
        have hl' : LyV s.1 m l := hl.fr g (fun a ha => by unfold inL at ha; unfold inO inP; omega)
        have hX : left + i < w := by omega
        have hY : top + j < h := by omega
        have hV := hpx _ _ hX hY
        obtain ⟨υ, k1, k2, k3, k4⟩ := s_adjusted hR' hm' hl' hg hp' hv' hw hh hpx hX hY hd hdm gE d
        have k2' : zFr (inO R o) s.1 υ := k2.mono (fun a ha => by unfold inN at ha; unfold inO; omega)
        have hm2 := hm'.fr k2
        have hl2 : LyV υ m l := hl'.fr k2 (fun a ha => by unfold inL at ha; unfold inN; omega)
        have ho2 := (ho.fr g).fr k2
        have a3 : zi s.1 131 m = iI (l 3) := hl'.1 3 (by decide)
        have a4 : zi υ 132 m = iI (l 4) := hl2.1 4 (by decide)
        have hA := adI_R hpx hX hY hg.1 hg.2.1
        have hB := blI_R (m := l 3) hV hA
        have hW := wtI_R (x := left + i) (y := top + j) hg hV
        have hb := lyI_B hV hB hg.2.2.2.1 hW
        have e1 := s_weightAt hm2 hl2 hg (show left + i < 16 by omega) (show top + j < 16 by omega) hV
        have ea : nI (left + i) + 1 = nI (left + (i + 1)) := nI_1 (left + i)
        refine ⟨(zsa υ (o + 1) (16 * (top + j) + (left + i)) (iI (lyI w h l px (left + i) (top + j))), s.2.1, .inl (iI (px (left + i) (top + j))), .inl (iI (blI (l 3) (px (left + i) (top + j)) (adI w h px (l 0) (l 1) (l 2) (left + i) (top + j)))), .inl (iI (wtI l (left + i) (top + j) (px (left + i) (top + j))))), ?_, (g.tr k2').tr (zFr.sa _ (Or.inr (Or.inr (Or.inr rfl)))), ⟨?_, ?_⟩, fun h13 => ?_, fun x y q b => ?_, fun x y hx16 hy16 q => ?_⟩
        · show LX7_render_46 _ _ _ _ _ _ _ _ _ _ _ _ _ _ = LX7_render_46 _ _ _ _ _ _ _ _ _ _ _ _ _ _
          rw [uX7_render_46]
          simp only [zlt_e, onR_s, nul_s, nul_n, chk_e, bnI_s, bnR_s, bnV_s, zi_si, zi_sr, zi_sl, zi_sa, zi_sq, zr_si, zr_sr, zr_sl, zr_sa, zr_sq, zl_si, zl_sr, zl_sl, zl_sa, zl_sq, zai_si, zai_sr, zai_sl, zai_sa, zai_sq, zar_si, zar_sr, zar_sl, zar_sa, zar_sq, zkd_si, zkd_sr, zkd_sl, zkd_sa, zkd_sq, zln_si, zln_sr, zln_sl, zln_sa, zln_sq, znx_si, znx_sr, znx_sl, znx_sa, znx_sq, nI_add, n_lt (show left + i < 2 ^ 31 by omega) (show left + side < 2 ^ 31 by omega), n_lt (show left + i < 2 ^ 31 by omega) (show w < 2 ^ 31 by omega), show left + i < left + side by omega, hX, hp'.1, hv'.1, hm'.1, hR'.1, if_true, s_at hp' (show left + i < 16 by omega) (show top + j < 16 by omega), hv'.2.2 _ _ hX hY, k1, a3, s_blended hg.2.2.1 hV hA]
          simp only [zlt_e, onR_s, nul_s, nul_n, chk_e, bnI_s, bnR_s, bnV_s, zi_si, zi_sr, zi_sl, zi_sa, zi_sq, zr_si, zr_sr, zr_sl, zr_sa, zr_sq, zl_si, zl_sr, zl_sl, zl_sa, zl_sq, zai_si, zai_sr, zai_sl, zai_sa, zai_sq, zar_si, zar_sr, zar_sl, zar_sa, zar_sq, zkd_si, zkd_sr, zkd_sl, zkd_sa, zkd_sq, zln_si, zln_sr, zln_sl, zln_sa, zln_sq, znx_si, znx_sr, znx_sl, znx_sa, znx_sq, hm2.1, hm2.2.1, hm2.2.2.1, if_true, e1, a4, i_sub, i_mul]
          rw [show (25500 : Int32) = iI 25500 from rfl, s_divided (d + 2) υ (by omega) (by omega) (by decide) (by decide)]
          simp only [zlt_e, onR_s, nul_s, nul_n, chk_e, bnI_s, bnR_s, bnV_s, zi_si, zi_sr, zi_sl, zi_sa, zi_sq, zr_si, zr_sr, zr_sl, zr_sa, zr_sq, zl_si, zl_sr, zl_sl, zl_sa, zl_sq, zai_si, zai_sr, zai_sl, zai_sa, zai_sq, zar_si, zar_sr, zar_sl, zar_sa, zar_sq, zkd_si, zkd_sr, zkd_sl, zkd_sa, zkd_sq, zln_si, zln_sr, zln_sl, zln_sa, zln_sq, znx_si, znx_sr, znx_sl, znx_sa, znx_sq, ho2.1, if_true, s_put ho2 (show left + i < 16 by omega) (show top + j < 16 by omega), i_add, ea]
          rfl
        · rw [zi_sa, k2.i (by unfold inN; have := hoR; omega)]; exact gw
        · rw [zi_sa, k2.i (by unfold inN; have := hoR; omega)]; exact gh
        · have := gE h13
          unfold ExV
          rw [zi_sa, k3, k4]
          exact this
        · rw [zai_sa]
          by_cases hxy : x = left + i ∧ y = top + j
          · rw [if_pos ⟨rfl, by rw [hxy.1, hxy.2]⟩, hxy.1, hxy.2]
          · rw [if_neg (by unfold inSq at q; omega), k2.ai (by unfold inN; omega)]
            exact gd x y q (by unfold inSq at q; omega)
        · rw [zai_sa]
          rw [if_neg (by unfold inSq at q; omega), k2.ai (by unfold inN; omega)]
          exact gu x y hx16 hy16 (by unfold inSq at q ⊢; omega))
      (fun j s hj hI => ⟨(s.1, .inl (nI (left + (min (left + side) w - left))), s.2.2), by
        show LX7_render_46 _ _ _ _ _ _ _ _ _ _ _ _ _ _ = LX7_render_23 _ _ _ _ _ _ _ _ _ _ _ _ _ _
        have hv' : PicV s.1 p w h px := hv.fr hI.1 (by unfold inO inP; omega) (by unfold inO inP; omega)
        have ea : nI (top + j) + 1 = nI (top + (j + 1)) := nI_1 (top + j)
        rw [uX7_render_46]
        simp only [zlt_e, onR_s, nul_s, nul_n, chk_e, bnI_s, bnR_s, bnV_s, zi_si, zi_sr, zi_sl, zi_sa, zi_sq, zr_si, zr_sr, zr_sl, zr_sa, zr_sq, zl_si, zl_sr, zl_sl, zl_sa, zl_sq, zai_si, zai_sr, zai_sl, zai_sa, zai_sq, zar_si, zar_sr, zar_sl, zar_sa, zar_sq, zkd_si, zkd_sr, zkd_sl, zkd_sa, zkd_sq, zln_si, zln_sr, zln_sl, zln_sa, zln_sq, znx_si, znx_sr, znx_sl, znx_sa, znx_sq, nI_add, n_lt (show left + (min (left + side) w - left) < 2 ^ 31 by omega) (show left + side < 2 ^ 31 by omega), n_lt (show left + (min (left + side) w - left) < 2 ^ 31 by omega) (show w < 2 ^ 31 by omega), (hp.fr hI.1).1, hv'.1, if_true, ea]
        split
        · rw [if_neg (by omega)]
        · rfl, hI.1, hI.2.1, hI.2.2.1, fun x y q b => hI.2.2.2.1 x y q (by unfold inSq at q; omega), fun x y hx hy q => hI.2.2.2.2 x y hx hy (by unfold inSq at q ⊢; omega)⟩)
      (fun s hI => by
        show LX7_render_23 _ _ _ _ _ _ _ _ _ _ _ _ _ _ = _
        have hv' : PicV s.1 p w h px := hv.fr hI.1 (by unfold inO inP; omega) (by unfold inO inP; omega)
        rw [uX7_render_23]
        simp only [zlt_e, onR_s, nul_s, nul_n, chk_e, bnI_s, bnR_s, bnV_s, zi_si, zi_sr, zi_sl, zi_sa, zi_sq, zr_si, zr_sr, zr_sl, zr_sa, zr_sq, zl_si, zl_sr, zl_sl, zl_sa, zl_sq, zai_si, zai_sr, zai_sl, zai_sa, zai_sq, zar_si, zar_sr, zar_sl, zar_sa, zar_sq, zkd_si, zkd_sr, zkd_sl, zkd_sa, zkd_sq, zln_si, zln_sr, zln_sl, zln_sa, zln_sq, znx_si, znx_sr, znx_sl, znx_sa, znx_sq, nI_add, n_lt (show top + (min (top + side) h - top) < 2 ^ 31 by omega) (show top + side < 2 ^ 31 by omega), n_lt (show top + (min (top + side) h - top) < 2 ^ 31 by omega) (show h < 2 ^ 31 by omega), (hp.fr hI.1).1, hv'.2.1, if_true]
        split
        · rw [if_neg (by omega)]
        · rfl)
    exact ⟨τ, h1, h2.1, h2.2.1.1, h2.2.1.2, fun x y q => h2.2.2.2.1 x y q (by unfold inSq at q; omega), fun x y hx hy q => h2.2.2.2.2 x y hx hy (Or.inl q)⟩
  have P0 : inO R o o := Or.inr (Or.inr (Or.inl rfl))
  have hF : zFr (inO R o) σ (zsi (zsi σ 257 o (nI w)) 258 o (nI h)) := (zFr.si σ P0).tr (zFr.si _ P0)
  have a0 : zi σ 128 m = iI (l 0) := hl.1 0 (by decide)
  have q13 : (iI (l 0) = 13) ↔ l 0 = 13 := i_eq (b := 13) (by omega) (by omega) (by omega) (by omega)
  rw [vX7_render]
  unfold fX7_render
  simp only [zlt_e, onR_s, nul_s, nul_n, chk_e, bnI_s, bnR_s, bnV_s, zi_si, zi_sr, zi_sl, zi_sa, zi_sq, zr_si, zr_sr, zr_sl, zr_sa, zr_sq, zl_si, zl_sr, zl_sl, zl_sa, zl_sq, zai_si, zai_sr, zai_sl, zai_sa, zai_sq, zar_si, zar_sr, zar_sl, zar_sa, zar_sq, zkd_si, zkd_sr, zkd_sl, zkd_sa, zkd_sq, zln_si, zln_sr, zln_sl, zln_sa, zln_sq, znx_si, znx_sr, znx_sl, znx_sa, znx_sq, ho.1, hm.1, if_true, s_takeSizeOf ho hp (show o ≠ p by omega), hv.1, hv.2.1, a0]
  simp only [show ((128 : Nat) = 258) = False from by decide, show ((128 : Nat) = 257) = False from by decide, false_and, if_false, q13]
  by_cases h13 : l 0 = 13
  · rw [if_pos h13]
    have hv2 : PicV (zsi (zsi σ 257 o (nI w)) 258 o (nI h)) p w h px := hv.fr hF (by unfold inO inP; omega) (by unfold inO inP; omega)
    obtain ⟨υ, k1, k2, k3⟩ := s_extremes (hR.fr hF) (hp.fr hF) hv2 hw hh hpx (by omega) (d + 2)
    simp only [zlt_e, onR_s, nul_s, nul_n, chk_e, bnI_s, bnR_s, bnV_s, zi_si, zi_sr, zi_sl, zi_sa, zi_sq, zr_si, zr_sr, zr_sl, zr_sa, zr_sq, zl_si, zl_sr, zl_sl, zl_sa, zl_sq, zai_si, zai_sr, zai_sl, zai_sa, zai_sq, zar_si, zar_sr, zar_sl, zar_sa, zar_sq, zkd_si, zkd_sr, zkd_sl, zkd_sa, zkd_sq, zln_si, zln_sr, zln_sl, zln_sa, zln_sq, znx_si, znx_sr, znx_sl, znx_sa, znx_sq, hR.1, if_true, k1]
    refine main υ (hF.tr (k2.mono (fun a ha => Or.inl ha))) ?_ ?_ (fun i => ?_) (fun _ => k3)
    · rw [k2.i hoR.1]; simp [zi_si]
    · rw [k2.i hoR.1]; simp [zi_si]
    · rw [k2.ai hoR.2]; rfl
  · rw [if_neg h13]
    exact main _ hF (by simp [zi_si]) (by simp [zi_si]) (fun i => rfl) (fun h => absurd h h13)
