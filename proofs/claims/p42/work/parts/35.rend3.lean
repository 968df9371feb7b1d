/-! the class's renderer: a layer's output -/
/-- extremes are found -/
def ExV (σ : zS) (R w h : Nat) (px : Nat → Nat → Int) : Prop := zi σ 323 R = iI (loPx w h px) ∧ zi σ 324 R = iI (hiPx w h px)
theorem s_extremes {σ : zS} {R p w h : Nat} {px : Nat → Nat → Int} (hR : RdS σ R) (hp : PicS σ p) (hv : PicV σ p w h px) (hw : w ≤ 16) (hh : h ≤ 16) (hpx : pxR w h px) (hd : R ≠ p ∧ R ≠ p + 1) (d : Nat) : ∃ τ, zEv (d + 2) mX7_findExtremes [.inr (.inl (some R)), .inr (.inl (some p))] σ = some (none, τ) ∧ zFr (fun a => a = R) σ τ ∧ ExV τ R w h px := by
  rw [vX7_findExtremes]
  unfold fX7_findExtremes
  simp only [zlt_e, onR_s, nul_s, nul_n, chk_e, bnI_s, bnR_s, bnV_s, zi_si, zi_sr, zi_sl, zi_sa, zi_sq, zr_si, zr_sr, zr_sl, zr_sa, zr_sq, zl_si, zl_sr, zl_sl, zl_sa, zl_sq, zai_si, zai_sr, zai_sl, zai_sa, zai_sq, zar_si, zar_sr, zar_sl, zar_sa, zar_sq, zkd_si, zkd_sr, zkd_sl, zkd_sa, zkd_sq, zln_si, zln_sr, zln_sl, zln_sa, zln_sq, znx_si, znx_sr, znx_sl, znx_sa, znx_sq, hR.1, if_true]
  have hF : zFr (fun a => a = R) σ (zsi (zsi σ 323 R 255) 324 R 0) := (zFr.si (P := fun a => a = R) σ rfl).tr (zFr.si _ rfl)
  obtain ⟨⟨τ, z1, z2⟩, h1, h2⟩ := grid (fun y (s : zS × zV × zV) => LX7_findExtremes_14 (zEv (d + 1)) R (some p) (nI y) s.2.1 s.2.2 s.1) (fun y x s => LX7_findExtremes_24 (zEv (d + 1)) R (some p) (nI y) (nI x) s.2.2 s.1)
    (fun y x s => zFr (fun a => a = R) σ s.1 ∧ zi s.1 323 R = iI (mnI (lin w px) (y * w + x)) ∧ zi s.1 324 R = iI (mxI (lin w px) (y * w + x))) w h (fun s => some (none, s.1)) (zsi (zsi σ 323 R 255) 324 R 0, .inr (.inr none), .inr (.inr none)) ⟨hF, by simp [zi_si, mnI]; rfl, by simp [zi_si, mxI]; rfl⟩
    (fun y s hy hI => ⟨s, by
      show LX7_findExtremes_14 _ _ _ _ _ _ _ = LX7_findExtremes_24 _ _ _ _ _ _ _
      have hv' : PicV s.1 p w h px := hv.fr hI.1 (fun e => hd.1 e.symm) (fun e => hd.2 e.symm)
      rw [uX7_findExtremes_14]
      simp only [zlt_e, onR_s, nul_s, nul_n, chk_e, bnI_s, bnR_s, bnV_s, zi_si, zi_sr, zi_sl, zi_sa, zi_sq, zr_si, zr_sr, zr_sl, zr_sa, zr_sq, zl_si, zl_sr, zl_sl, zl_sa, zl_sq, zai_si, zai_sr, zai_sl, zai_sa, zai_sq, zar_si, zar_sr, zar_sl, zar_sa, zar_sq, zkd_si, zkd_sr, zkd_sl, zkd_sa, zkd_sq, zln_si, zln_sr, zln_sl, zln_sa, zln_sq, znx_si, znx_sr, znx_sl, znx_sa, znx_sq, (hp.fr hI.1).1, hv'.2.1, if_true, n_lt (show y < 2 ^ 31 by omega) (show h < 2 ^ 31 by omega), hy]
      rfl, hI⟩)
    (fun y x s hy hx hI => by
      obtain ⟨g, g3, g4⟩ := hI
      have hR' := hR.fr g
      have hp' := hp.fr g
      have hv' : PicV s.1 p w h px := hv.fr g (fun e => hd.1 e.symm) (fun e => hd.2 e.symm)
      have hl : ∀ k, k < y * w + x → 0 ≤ lin w px k ∧ lin w px k ≤ 255 := fun k hk => lin_R hpx (by omega) k (by have := lin_ix hx hy; omega)
      have r1 := mnI_R _ hl
      have r2 := mxI_R (m := 255) (by decide) _ hl
      have r0 := hpx x y hx hy
      have e1 : mnI (lin w px) (y * w + (x + 1)) = min (mnI (lin w px) (y * w + x)) (px x y) := by
        show min (mnI (lin w px) (y * w + x)) (lin w px (y * w + x)) = _
        rw [lin_at px hx]
      have e2 : mxI (lin w px) (y * w + (x + 1)) = max (mxI (lin w px) (y * w + x)) (px x y) := by
        show max (mxI (lin w px) (y * w + x)) (lin w px (y * w + x)) = _
        rw [lin_at px hx]
      refine ⟨(zsi (zsi s.1 323 R (iI (mnI (lin w px) (y * w + (x + 1))))) 324 R (iI (mxI (lin w px) (y * w + (x + 1)))), s.2.1, .inl (iI (px x y))), ?_, (g.tr (zFr.si _ rfl)).tr (zFr.si _ rfl), by simp [zi_si], by simp [zi_si]⟩
      show LX7_findExtremes_24 _ _ _ _ _ _ _ = LX7_findExtremes_24 _ _ _ _ _ _ _
      rw [uX7_findExtremes_24]
      simp only [zlt_e, onR_s, nul_s, nul_n, chk_e, bnI_s, bnR_s, bnV_s, zi_si, zi_sr, zi_sl, zi_sa, zi_sq, zr_si, zr_sr, zr_sl, zr_sa, zr_sq, zl_si, zl_sr, zl_sl, zl_sa, zl_sq, zai_si, zai_sr, zai_sl, zai_sa, zai_sq, zar_si, zar_sr, zar_sl, zar_sa, zar_sq, zkd_si, zkd_sr, zkd_sl, zkd_sa, zkd_sq, zln_si, zln_sr, zln_sl, zln_sa, zln_sq, znx_si, znx_sr, znx_sl, znx_sa, znx_sq, hp'.1, hR'.1, hv'.1, if_true, n_lt (show x < 2 ^ 31 by omega) (show w < 2 ^ 31 by omega), hx, s_at hp' (show x < 16 by omega) (show y < 16 by omega), hv'.2.2 x y hx hy, g3, g4]
      rw [s_imin d s.1 (by omega) (by omega) (by omega) (by omega)]
      simp only [zlt_e, onR_s, nul_s, nul_n, chk_e, bnI_s, bnR_s, bnV_s, zi_si, zi_sr, zi_sl, zi_sa, zi_sq, zr_si, zr_sr, zr_sl, zr_sa, zr_sq, zl_si, zl_sr, zl_sl, zl_sa, zl_sq, zai_si, zai_sr, zai_sl, zai_sa, zai_sq, zar_si, zar_sr, zar_sl, zar_sa, zar_sq, zkd_si, zkd_sr, zkd_sl, zkd_sa, zkd_sq, zln_si, zln_sr, zln_sl, zln_sa, zln_sq, znx_si, znx_sr, znx_sl, znx_sa, znx_sq, hR'.1, if_true, g4]
      rw [if_neg (by decide), s_imax d _ (by omega) (by omega) (by omega) (by omega)]
      simp only [zlt_e, onR_s, nul_s, nul_n, chk_e, bnI_s, bnR_s, bnV_s, zi_si, zi_sr, zi_sl, zi_sa, zi_sq, zr_si, zr_sr, zr_sl, zr_sa, zr_sq, zl_si, zl_sr, zl_sl, zl_sa, zl_sq, zai_si, zai_sr, zai_sl, zai_sa, zai_sq, zar_si, zar_sr, zar_sl, zar_sa, zar_sq, zkd_si, zkd_sr, zkd_sl, zkd_sa, zkd_sq, zln_si, zln_sr, zln_sl, zln_sa, zln_sq, znx_si, znx_sr, znx_sl, znx_sa, znx_sq, hR'.1, if_true, nI_1, e1, e2])
    (fun y s hy hI => ⟨(s.1, .inl (nI w), s.2.2), by
      show LX7_findExtremes_24 _ _ _ _ _ _ _ = LX7_findExtremes_14 _ _ _ _ _ _ _
      have hv' : PicV s.1 p w h px := hv.fr hI.1 (fun e => hd.1 e.symm) (fun e => hd.2 e.symm)
      rw [uX7_findExtremes_24]
      simp only [zlt_e, onR_s, nul_s, nul_n, chk_e, bnI_s, bnR_s, bnV_s, zi_si, zi_sr, zi_sl, zi_sa, zi_sq, zr_si, zr_sr, zr_sl, zr_sa, zr_sq, zl_si, zl_sr, zl_sl, zl_sa, zl_sq, zai_si, zai_sr, zai_sl, zai_sa, zai_sq, zar_si, zar_sr, zar_sl, zar_sa, zar_sq, zkd_si, zkd_sr, zkd_sl, zkd_sa, zkd_sq, zln_si, zln_sr, zln_sl, zln_sa, zln_sq, znx_si, znx_sr, znx_sl, znx_sa, znx_sq, (hp.fr hI.1).1, hv'.1, if_true, n_lt (show w < 2 ^ 31 by omega) (show w < 2 ^ 31 by omega), Nat.lt_irrefl, if_false, nI_1], by
      obtain ⟨g, g3, g4⟩ := hI
      refine ⟨g, ?_, ?_⟩
      · rw [Nat.succ_mul, Nat.add_zero]; exact g3
      · rw [Nat.succ_mul, Nat.add_zero]; exact g4⟩)
    (fun s hI => by
      show LX7_findExtremes_14 _ _ _ _ _ _ _ = _
      have hv' : PicV s.1 p w h px := hv.fr hI.1 (fun e => hd.1 e.symm) (fun e => hd.2 e.symm)
      rw [uX7_findExtremes_14]
      simp only [zlt_e, onR_s, nul_s, nul_n, chk_e, bnI_s, bnR_s, bnV_s, zi_si, zi_sr, zi_sl, zi_sa, zi_sq, zr_si, zr_sr, zr_sl, zr_sa, zr_sq, zl_si, zl_sr, zl_sl, zl_sa, zl_sq, zai_si, zai_sr, zai_sl, zai_sa, zai_sq, zar_si, zar_sr, zar_sl, zar_sa, zar_sq, zkd_si, zkd_sr, zkd_sl, zkd_sa, zkd_sq, zln_si, zln_sr, zln_sl, zln_sa, zln_sq, znx_si, znx_sr, znx_sl, znx_sa, znx_sq, (hp.fr hI.1).1, hv'.2.1, if_true, n_lt (show h < 2 ^ 31 by omega) (show h < 2 ^ 31 by omega), Nat.lt_irrefl, if_false])
  exact ⟨τ, h1, h2⟩
theorem s_adjusted {σ : zS} {R p m w h x y : Nat} {px : Nat → Nat → Int} {l : Nat → Int} (hR : RdS σ R) (hm : LyS σ m) (hl : LyV σ m l) (hg : GL l) (hp : PicS σ p) (hv : PicV σ p w h px) (hw : w ≤ 16) (hh : h ≤ 16) (hpx : pxR w h px) (hx : x < w) (hy : y < h) (hd : R + 3 < p ∨ p + 1 < R) (hdm : R + 3 < m ∨ m + 2 < R) (hE : l 0 = 13 → ExV σ R w h px) (d : Nat) : ∃ τ, zEv (d + 4) mX7_adjusted [.inr (.inl (some R)), .inr (.inl (some m)), .inr (.inl (some p)), .inl (nI x), .inl (nI y)] σ = some (some (.inl (iI (adI w h px (l 0) (l 1) (l 2) x y))), τ) ∧ zFr (inN R) σ τ ∧ zi τ 323 R = zi σ 323 R ∧ zi τ 324 R = zi σ 324 R := by
  have a0 : zi σ 128 m = iI (l 0) := hl.1 0 (by decide)
  have a1 : zi σ 129 m = iI (l 1) := hl.1 1 (by decide)
  have a2 : zi σ 130 m = iI (l 2) := hl.1 2 (by decide)
  have hk := hg.1
  have hok := hg.2.1
  have hV := hpx x y hx hy
  unfold okP loA hiA loB hiB at hok
  have q : ∀ k : Int, 0 ≤ k → k ≤ 13 → ((iI (l 0) = iI k) ↔ l 0 = k) := fun k h1 h2 => i_eq (by omega) (by omega) (by omega) (by omega)
  have q0 := q 0 (by decide) (by decide)
  have q1 := q 1 (by decide) (by decide)
  have q2 := q 2 (by decide) (by decide)
  have q3 := q 3 (by decide) (by decide)
  have q4 := q 4 (by decide) (by decide)
  have q5 := q 5 (by decide) (by decide)
  have q6 := q 6 (by decide) (by decide)
  have q7 := q 7 (by decide) (by decide)
  have q8 := q 8 (by decide) (by decide)
  have q9 := q 9 (by decide) (by decide)
  have q10 := q 10 (by decide) (by decide)
  have q11 := q 11 (by decide) (by decide)
  have q12 := q 12 (by decide) (by decide)
  have q13 := q 13 (by decide) (by decide)
  rw [vX7_adjusted]
  unfold fX7_adjusted
  simp only [zlt_e, onR_s, nul_s, nul_n, chk_e, bnI_s, bnR_s, bnV_s, zi_si, zi_sr, zi_sl, zi_sa, zi_sq, zr_si, zr_sr, zr_sl, zr_sa, zr_sq, zl_si, zl_sr, zl_sl, zl_sa, zl_sq, zai_si, zai_sr, zai_sl, zai_sa, zai_sq, zar_si, zar_sr, zar_sl, zar_sa, zar_sq, zkd_si, zkd_sr, zkd_sl, zkd_sa, zkd_sq, zln_si, zln_sr, zln_sl, zln_sa, zln_sq, znx_si, znx_sr, znx_sl, znx_sa, znx_sq, hp.1, hm.1, if_true, s_at hp (show x < 16 by omega) (show y < 16 by omega), hv.2.2 x y hx hy, a0, a1, a2, s_sees hm hl hg, zb_0, hR.1]
  by_cases hs : 6 ≤ l 0 ∧ l 0 ≤ 10
  · -- with neighbours
    rw [if_neg (by simpa using hs)]
    have ha : 0 ≤ l 1 ∧ l 1 ≤ 3 := by
      rcases (by omega : l 0 = 6 ∨ l 0 = 7 ∨ l 0 = 8 ∨ l 0 = 9 ∨ l 0 = 10) with h | h | h | h | h <;> rw [h] at hok <;> simp at hok <;> omega
    obtain ⟨r, hr⟩ : ∃ r : Nat, l 1 = r := ⟨(l 1).toNat, by omega⟩
    obtain ⟨τ, k1, k2, k3, k4, k5⟩ := s_gather hR hp hv hw hh hx hy (show r ≤ 3 by omega) (by omega) (d + 1)
    rw [hr, ← i_nI r, k1, bnV_s, uX7_adjusted_38]
    have hR' := hR.fr k2
    have hm' := hm.fr k2
    have b0 : zi τ 128 m = iI (l 0) := by rw [k2.i (by unfold inN; omega)]; exact a0
    have hn0 := nbN_pos (r := r) hx hy
    have hn9 := nbN_le (w := w) (h := h) (x := x) (y := y) (show r ≤ 3 by omega)
    have hnr : ∀ k, k < nbN w h x y r → 0 ≤ nbF w px x y r k ∧ nbF w px x y r k ≤ 255 := fun k hk => nbF_R hpx hx hy hk
    rw [show (1 : Int32) = iI 1 from rfl, show (2 : Int32) = iI 2 from rfl, show (3 : Int32) = iI 3 from rfl, show (4 : Int32) = iI 4 from rfl, show (5 : Int32) = iI 5 from rfl, show (6 : Int32) = iI 6 from rfl, show (7 : Int32) = iI 7 from rfl, show (8 : Int32) = iI 8 from rfl, show (9 : Int32) = iI 9 from rfl, show (10 : Int32) = iI 10 from rfl, show (0 : Int32) = iI 0 from rfl]
    unfold adI
    rw [if_neg (show ¬ l 0 = 0 by omega), if_neg (show ¬ l 0 = 1 by omega), if_neg (show ¬ l 0 = 2 by omega), if_neg (show ¬ l 0 = 3 by omega), if_neg (show ¬ l 0 = 4 by omega), if_neg (show ¬ l 0 = 5 by omega)]
    simp only [zlt_e, onR_s, nul_s, nul_n, chk_e, bnI_s, bnR_s, bnV_s, zi_si, zi_sr, zi_sl, zi_sa, zi_sq, zr_si, zr_sr, zr_sl, zr_sa, zr_sq, zl_si, zl_sr, zl_sl, zl_sa, zl_sq, zai_si, zai_sr, zai_sl, zai_sa, zai_sq, zar_si, zar_sr, zar_sl, zar_sa, zar_sq, zkd_si, zkd_sr, zkd_sl, zkd_sa, zkd_sq, zln_si, zln_sr, zln_sl, zln_sa, zln_sq, znx_si, znx_sr, znx_sl, znx_sa, znx_sq, hm'.1, hR'.1, if_true, b0, q0, q1, q2, q3, q4, q5, q6, q7, q8, q9, q10, Int.toNat_natCast]
    rw [if_neg (show ¬ l 0 = 0 by omega), if_neg (show ¬ l 0 = 1 by omega), if_neg (show ¬ l 0 = 2 by omega), if_neg (show ¬ l 0 = 3 by omega), if_neg (show ¬ l 0 = 4 by omega), if_neg (show ¬ l 0 = 5 by omega)]
    by_cases c6 : l 0 = 6
    · rw [if_pos c6, if_pos c6, s_average hR' k5 hn0 hn9 hnr (d + 2)]
      exact ⟨τ, rfl, k2, k3, k4⟩
    rw [if_neg c6, if_neg c6]
    by_cases c7 : l 0 = 7
    · rw [if_pos c7, if_pos c7]
      obtain ⟨υ, m1, m2, m3⟩ := s_median hR' k5 hn0 hn9 hnr (d + 1)
      rw [m1]
      exact ⟨υ, rfl, k2.tr m2, (m3 _ _).trans k3, (m3 _ _).trans k4⟩
    rw [if_neg c7, if_neg c7]
    by_cases c8 : l 0 = 8
    · rw [if_pos c8, if_pos c8, s_greatest hR' k5 hn9 hnr (d + 1)]
      exact ⟨τ, rfl, k2, k3, k4⟩
    rw [if_neg c8, if_neg c8]
    by_cases c9 : l 0 = 9
    · rw [if_pos c9, if_pos c9, s_smallest hR' k5 hn9 hnr (d + 1)]
      exact ⟨τ, rfl, k2, k3, k4⟩
    rw [if_neg c9, if_neg c9]
    have c10 : l 0 = 10 := by omega
    rw [c10] at hok
    simp at hok
    have hav := avI_R (r := r) hpx hx hy
    have hm1 : -76500 ≤ (px x y - avI w h px x y r) * l 2 ∧ (px x y - avI w h px x y r) * l 2 ≤ 76500 := by
      rcases Int.le_total 0 (px x y - avI w h px x y r) with h5 | h5
      · have := Int.mul_le_mul (show px x y - avI w h px x y r ≤ 255 by omega) hok.2.2 (by omega) (by decide)
        have := Int.mul_nonneg h5 (show 0 ≤ l 2 by omega)
        omega
      · have h1 := Int.mul_le_mul (show -(px x y - avI w h px x y r) ≤ 255 by omega) hok.2.2 (by omega) (by decide)
        have h2 := Int.mul_nonneg (show 0 ≤ -(px x y - avI w h px x y r) by omega) (show 0 ≤ l 2 by omega)
        rw [Int.neg_mul] at h1 h2
        omega
    rw [if_pos c10, if_pos c10, s_average hR' k5 hn0 hn9 hnr (d + 2)]
    simp only [zlt_e, onR_s, nul_s, nul_n, chk_e, bnI_s, bnR_s, bnV_s, zi_si, zi_sr, zi_sl, zi_sa, zi_sq, zr_si, zr_sr, zr_sl, zr_sa, zr_sq, zl_si, zl_sr, zl_sl, zl_sa, zl_sq, zai_si, zai_sr, zai_sl, zai_sa, zai_sq, zar_si, zar_sr, zar_sl, zar_sa, zar_sq, zkd_si, zkd_sr, zkd_sl, zkd_sa, zkd_sq, zln_si, zln_sr, zln_sl, zln_sa, zln_sq, znx_si, znx_sr, znx_sl, znx_sa, znx_sq]
    rw [show iI (sm (nbF w px x y r) (nbN w h x y r) / (nbN w h x y r : Int)) = iI (avI w h px x y r) from rfl, i_sub, i_mul, show (100 : Int32) = iI 100 from rfl, s_divided (d + 1) τ (by omega) (by omega) (by decide) (by decide)]
    simp only [zlt_e, onR_s, nul_s, nul_n, chk_e, bnI_s, bnR_s, bnV_s, zi_si, zi_sr, zi_sl, zi_sa, zi_sq, zr_si, zr_sr, zr_sl, zr_sa, zr_sq, zl_si, zl_sr, zl_sl, zl_sa, zl_sq, zai_si, zai_sr, zai_sl, zai_sa, zai_sq, zar_si, zar_sr, zar_sl, zar_sa, zar_sq, zkd_si, zkd_sr, zkd_sl, zkd_sa, zkd_sq, zln_si, zln_sr, zln_sl, zln_sa, zln_sq, znx_si, znx_sr, znx_sl, znx_sa, znx_sq]
    rw [i_add, s_clamped (d + 1) τ (by omega) (by omega)]
    exact ⟨τ, rfl, k2, k3, k4⟩
  · rw [if_pos hs, uX7_adjusted_38]
    rw [show (1 : Int32) = iI 1 from rfl, show (2 : Int32) = iI 2 from rfl, show (3 : Int32) = iI 3 from rfl, show (4 : Int32) = iI 4 from rfl, show (5 : Int32) = iI 5 from rfl, show (6 : Int32) = iI 6 from rfl, show (7 : Int32) = iI 7 from rfl, show (8 : Int32) = iI 8 from rfl, show (9 : Int32) = iI 9 from rfl, show (10 : Int32) = iI 10 from rfl, show (0 : Int32) = iI 0 from rfl, show (11 : Int32) = iI 11 from rfl, show (12 : Int32) = iI 12 from rfl, show (13 : Int32) = iI 13 from rfl, show (255 : Int32) = iI 255 from rfl, show (100 : Int32) = iI 100 from rfl, show (256 : Int32) = iI 256 from rfl, show (128 : Int32) = iI 128 from rfl]
    simp only [zlt_e, onR_s, nul_s, nul_n, chk_e, bnI_s, bnR_s, bnV_s, zi_si, zi_sr, zi_sl, zi_sa, zi_sq, zr_si, zr_sr, zr_sl, zr_sa, zr_sq, zl_si, zl_sr, zl_sl, zl_sa, zl_sq, zai_si, zai_sr, zai_sl, zai_sa, zai_sq, zar_si, zar_sr, zar_sl, zar_sa, zar_sq, zkd_si, zkd_sr, zkd_sl, zkd_sa, zkd_sq, zln_si, zln_sr, zln_sl, zln_sa, zln_sq, znx_si, znx_sr, znx_sl, znx_sa, znx_sq, hm.1, hR.1, hp.1, if_true, a0, q0, q1, q2, q3, q4, q5, q6, q7, q8, q9, q10, q11, q12, q13]
    unfold adI
    by_cases c0 : l 0 = 0
    · rw [if_pos c0, if_pos c0]
      rw [c0] at hok
      simp at hok
      have z1 : (iI (px x y) ≤ iI (l 1)) ↔ _ := i_le (by omega) (by omega) (by omega) (by omega)
      have z2 : (iI (px x y) < iI (l 2)) ↔ _ := i_lt (by omega) (by omega) (by omega) (by omega)
      simp only [z1, z2]
      by_cases e1 : px x y ≤ l 1
      · rw [if_pos e1, if_pos e1]; exact ⟨σ, rfl, zFr.rf σ, rfl, rfl⟩
      rw [if_neg e1, if_neg e1]
      by_cases e2 : px x y < l 2
      · rw [if_pos e2, if_pos e2, i_sub, i_mul, i_sub, s_divided (d + 1) σ (by omega) (by omega) (by omega) (by omega)]
        exact ⟨σ, rfl, zFr.rf σ, rfl, rfl⟩
      rw [if_neg e2, if_neg e2]
      exact ⟨σ, rfl, zFr.rf σ, rfl, rfl⟩
    rw [if_neg c0, if_neg c0]
    by_cases c1 : l 0 = 1
    · rw [if_pos c1, if_pos c1]
      rw [c1] at hok
      simp at hok
      rw [i_add, s_clamped (d + 1) σ (by omega) (by omega)]
      exact ⟨σ, rfl, zFr.rf σ, rfl, rfl⟩
    rw [if_neg c1, if_neg c1]
    by_cases c2 : l 0 = 2
    · rw [if_pos c2, if_pos c2]
      rw [c2] at hok
      simp at hok
      have hb : -51200 ≤ (px x y - 128) * l 1 ∧ (px x y - 128) * l 1 ≤ 51200 := by
        rcases Int.le_total 0 (px x y - 128) with h | h
        · have := Int.mul_le_mul (show px x y - 128 ≤ 128 by omega) hok.1.2 (by omega) (by decide)
          have := Int.mul_nonneg h (show 0 ≤ l 1 by omega)
          omega
        · have h1 := Int.mul_le_mul (show -(px x y - 128) ≤ 128 by omega) hok.1.2 (by omega) (by decide)
          have h2 := Int.mul_nonneg (show 0 ≤ -(px x y - 128) by omega) (show 0 ≤ l 1 by omega)
          rw [Int.neg_mul] at h1 h2
          omega
      rw [i_sub, i_mul, s_divided (d + 1) σ (by omega) (by omega) (by decide) (by decide)]
      simp only [zlt_e, onR_s, nul_s, nul_n, chk_e, bnI_s, bnR_s, bnV_s, zi_si, zi_sr, zi_sl, zi_sa, zi_sq, zr_si, zr_sr, zr_sl, zr_sa, zr_sq, zl_si, zl_sr, zl_sl, zl_sa, zl_sq, zai_si, zai_sr, zai_sl, zai_sa, zai_sq, zar_si, zar_sr, zar_sl, zar_sa, zar_sq, zkd_si, zkd_sr, zkd_sl, zkd_sa, zkd_sq, zln_si, zln_sr, zln_sl, zln_sa, zln_sq, znx_si, znx_sr, znx_sl, znx_sa, znx_sq]
      rw [i_add, s_clamped (d + 1) σ (by omega) (by omega)]
      exact ⟨σ, rfl, zFr.rf σ, rfl, rfl⟩
    rw [if_neg c2, if_neg c2]
    by_cases c3 : l 0 = 3
    · rw [if_pos c3, if_pos c3]
      rw [c3] at hok
      simp at hok
      have hb0 : 0 ≤ px x y * l 1 := Int.mul_nonneg hV.1 (by omega)
      have hb1 : px x y * l 1 ≤ 255 * 16 := Int.mul_le_mul hV.2 (by omega) (by omega) (by decide)
      rw [i_mul, s_divided (d + 1) σ (by omega) (by omega) (by decide) (by decide)]
      simp only [zlt_e, onR_s, nul_s, nul_n, chk_e, bnI_s, bnR_s, bnV_s, zi_si, zi_sr, zi_sl, zi_sa, zi_sq, zr_si, zr_sr, zr_sl, zr_sa, zr_sq, zl_si, zl_sr, zl_sl, zl_sa, zl_sq, zai_si, zai_sr, zai_sl, zai_sa, zai_sq, zar_si, zar_sr, zar_sl, zar_sa, zar_sq, zkd_si, zkd_sr, zkd_sl, zkd_sa, zkd_sq, zln_si, zln_sr, zln_sl, zln_sa, zln_sq, znx_si, znx_sr, znx_sl, znx_sa, znx_sq]
      rw [i_mul, i_sub, s_divided (d + 1) σ (by omega) (by omega) (by omega) (by omega)]
      exact ⟨σ, rfl, zFr.rf σ, rfl, rfl⟩
    rw [if_neg c3, if_neg c3]
    by_cases c4 : l 0 = 4
    · rw [if_pos c4, if_pos c4, i_sub]
      exact ⟨σ, rfl, zFr.rf σ, rfl, rfl⟩
    rw [if_neg c4, if_neg c4]
    by_cases c5 : l 0 = 5
    · rw [if_pos c5, if_pos c5]
      rw [c5] at hok
      simp at hok
      have z1 : (iI (px x y) < iI (l 1)) ↔ _ := i_lt (by omega) (by omega) (by omega) (by omega)
      simp only [z1]
      by_cases e1 : px x y < l 1
      · rw [if_pos e1, if_pos e1]; exact ⟨σ, rfl, zFr.rf σ, rfl, rfl⟩
      · rw [if_neg e1, if_neg e1]; exact ⟨σ, rfl, zFr.rf σ, rfl, rfl⟩
    rw [if_neg c5, if_neg c5]
    rw [if_neg (show ¬ l 0 = 6 by omega), if_neg (show ¬ l 0 = 7 by omega), if_neg (show ¬ l 0 = 8 by omega), if_neg (show ¬ l 0 = 9 by omega), if_neg (show ¬ l 0 = 10 by omega), if_neg (show ¬ l 0 = 6 by omega), if_neg (show ¬ l 0 = 7 by omega), if_neg (show ¬ l 0 = 8 by omega), if_neg (show ¬ l 0 = 9 by omega), if_neg (show ¬ l 0 = 10 by omega)]
    by_cases c11 : l 0 = 11
    · rw [if_pos c11, if_pos c11]
      rw [c11] at hok
      simp at hok
      rw [i_nI x, i_nI y, i_sub, i_sub, s_atNearest hp hv (by omega) (by omega) hw hh (by omega) (by omega) (by omega) (by omega) (d + 1)]
      exact ⟨σ, rfl, zFr.rf σ, rfl, rfl⟩
    rw [if_neg c11, if_neg c11]
    by_cases c12 : l 0 = 12
    · rw [if_pos c12, if_pos c12]
      exact ⟨σ, rfl, zFr.rf σ, rfl, rfl⟩
    rw [if_neg c12, if_neg c12]
    have c13 : l 0 = 13 := by omega
    rw [if_pos c13]
    obtain ⟨x1, x2⟩ := hE c13
    have r1 := mnI_R _ (fun k hk => lin_R (h := h) hpx (by omega) k hk)
    have r2 := mxI_R (m := 255) (by decide) _ (fun k hk => lin_R (h := h) hpx (by omega) k hk)
    have r1 : 0 ≤ loPx w h px ∧ loPx w h px ≤ 255 := r1
    have r2 : 0 ≤ hiPx w h px ∧ hiPx w h px ≤ 255 := r2
    simp only [x1, x2]
    have z1 : (iI (hiPx w h px) ≤ iI (loPx w h px)) ↔ _ := i_le (by omega) (by omega) (by omega) (by omega)
    simp only [z1]
    by_cases e1 : hiPx w h px ≤ loPx w h px
    · rw [if_pos e1, if_pos e1]; exact ⟨σ, rfl, zFr.rf σ, x1, x2⟩
    · rw [if_neg e1, if_neg e1, i_sub, i_mul, i_sub, s_divided (d + 1) σ (by omega) (by omega) (by omega) (by omega)]
      exact ⟨σ, rfl, zFr.rf σ, x1, x2⟩
