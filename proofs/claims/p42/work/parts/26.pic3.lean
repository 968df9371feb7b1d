/-! pictures: more loops; sums -/
theorem grid {S : Type} (fo : Nat → S → zO) (fi : Nat → Nat → S → zO) (I : Nat → Nat → S → Prop) (w h : Nat) (g : S → zO) (s0 : S) (h0 : I 0 0 s0)
    (ho : ∀ y s, y < h → I y 0 s → ∃ s', fo y s = fi y 0 s' ∧ I y 0 s') (hi : ∀ y x s, y < h → x < w → I y x s → ∃ s', fi y x s = fi y (x + 1) s' ∧ I y (x + 1) s')
    (hn : ∀ y s, y < h → I y w s → ∃ s', fi y w s = fo (y + 1) s' ∧ I (y + 1) 0 s') (he : ∀ s, I h 0 s → fo h s = g s) : ∃ s', fo 0 s0 = g s' ∧ I h 0 s' := by
  refine loop_from fo (fun y s => I y 0 s) 0 h g s0 (Nat.zero_le _) h0 (fun y s hy hI => ?_) he
  obtain ⟨s1, a1, a2⟩ := ho y s hy hI
  obtain ⟨s2, b1, b2⟩ := loop_from (fi y) (I y) 0 w (fi y w) s1 (Nat.zero_le _) a2 (fun x s hx hI => hi y x s hy hx hI) (fun _ _ => rfl)
  obtain ⟨s3, c1, c2⟩ := hn y s2 hy b2
  exact ⟨s3, a1.trans (b1.trans c1), c2⟩
/-- a sum of the first n -/
def sm (f : Nat → Int) : Nat → Int
  | 0 => 0
  | n + 1 => sm f n + f n
/-- a value by the row-by-row number of its place -/
def lin (w : Nat) (f : Nat → Nat → Int) (k : Nat) : Int := f (k % w) (k / w)
theorem lin_at {w x y : Nat} (f : Nat → Nat → Int) (hx : x < w) : lin w f (y * w + x) = f x y := by
  unfold lin
  rw [Nat.mul_comm, Nat.mul_add_mod, Nat.mod_eq_of_lt hx, Nat.mul_add_div (by omega), Nat.div_eq_of_lt hx, Nat.add_zero]
theorem sm_next {w x y : Nat} (f : Nat → Nat → Int) (hx : x < w) : sm (lin w f) (y * w + x) + f x y = sm (lin w f) (y * w + (x + 1)) := by
  rw [← Nat.add_assoc]
  show _ = sm (lin w f) (y * w + x) + lin w f (y * w + x)
  rw [lin_at f hx]
theorem sm_row (w y : Nat) (f : Nat → Int) : sm f (y * w + w) = sm f ((y + 1) * w + 0) := by rw [Nat.succ_mul, Nat.add_zero]
def dI (a b : Int) : Int := if a - b < 0 then -(a - b) else a - b
def pxR (w h : Nat) (px : Nat → Nat → Int) : Prop := ∀ x y, x < w → y < h → 0 ≤ px x y ∧ px x y ≤ 255
theorem s_absDiff {σ : zS} {p q w h : Nat} {px qx : Nat → Nat → Int} (hp : PicS σ p) (hq : PicS σ q) (hv : PicV σ p w h px) (hu : PicV σ q w h qx) (hw : w ≤ 16) (hh : h ≤ 16) (hpx : pxR w h px) (hqx : pxR w h qx) (d : Nat) : zEv (d + 2) mX6_absoluteDifference [.inr (.inl (some p)), .inr (.inl (some q))] σ = some (some (.inl (iI (sm (lin w fun x y => dI (px x y) (qx x y)) (h * w)))), σ) := by
  rw [vX6_absoluteDifference]
  unfold fX6_absoluteDifference
  simp only [zlt_e, onR_s, nul_s, nul_n, chk_e, bnI_s, bnR_s, bnV_s, zi_si, zi_sr, zi_sl, zi_sa, zi_sq, zr_si, zr_sr, zr_sl, zr_sa, zr_sq, zl_si, zl_sr, zl_sl, zl_sa, zl_sq, zai_si, zai_sr, zai_sl, zai_sa, zai_sq, zar_si, zar_sr, zar_sl, zar_sa, zar_sq, zkd_si, zkd_sr, zkd_sl, zkd_sa, zkd_sq, zln_si, zln_sr, zln_sl, zln_sa, zln_sq, znx_si, znx_sr, znx_sl, znx_sa, znx_sq]
  obtain ⟨⟨t, z⟩, h1, h2⟩ := grid (fun y (s : Int32 × zV) => LX6_absoluteDifference_4 (zEv (d + 1)) p (some q) s.1 (nI y) s.2 σ) (fun y x s => LX6_absoluteDifference_15 (zEv (d + 1)) p (some q) s.1 (nI y) (nI x) σ) (fun y x s => s.1 = iI (sm (lin w fun x y => dI (px x y) (qx x y)) (y * w + x))) w h (fun s => some (some (.inl s.1), σ)) (0, .inr (.inr none)) (by simp only [Nat.zero_mul, Nat.add_zero]; rfl)
    (fun y s hy hI => ⟨s, by
      show LX6_absoluteDifference_4 _ _ _ _ _ _ _ = LX6_absoluteDifference_15 _ _ _ _ _ _ _
      rw [uX6_absoluteDifference_4]
      simp only [zlt_e, onR_s, nul_s, nul_n, chk_e, bnI_s, bnR_s, bnV_s, zi_si, zi_sr, zi_sl, zi_sa, zi_sq, zr_si, zr_sr, zr_sl, zr_sa, zr_sq, zl_si, zl_sr, zl_sl, zl_sa, zl_sq, zai_si, zai_sr, zai_sl, zai_sa, zai_sq, zar_si, zar_sr, zar_sl, zar_sa, zar_sq, zkd_si, zkd_sr, zkd_sl, zkd_sa, zkd_sq, zln_si, zln_sr, zln_sl, zln_sa, zln_sq, znx_si, znx_sr, znx_sl, znx_sa, znx_sq, hp.1, hv.2.1, if_true, n_lt (show y < 2 ^ 31 by omega) (show h < 2 ^ 31 by omega), hy]
      rfl, hI⟩)
    (fun y x s hy hx hI => ⟨(iI (sm (lin w fun x y => dI (px x y) (qx x y)) (y * w + (x + 1))), s.2), by
      show LX6_absoluteDifference_15 _ _ _ _ _ _ _ = LX6_absoluteDifference_15 _ _ _ _ _ _ _
      have hI : s.1 = _ := hI
      obtain ⟨p1, p2⟩ := hpx x y hx hy
      obtain ⟨q1, q2⟩ := hqx x y hx hy
      rw [uX6_absoluteDifference_15]
      simp only [zlt_e, onR_s, nul_s, nul_n, chk_e, bnI_s, bnR_s, bnV_s, zi_si, zi_sr, zi_sl, zi_sa, zi_sq, zr_si, zr_sr, zr_sl, zr_sa, zr_sq, zl_si, zl_sr, zl_sl, zl_sa, zl_sq, zai_si, zai_sr, zai_sl, zai_sa, zai_sq, zar_si, zar_sr, zar_sl, zar_sa, zar_sq, zkd_si, zkd_sr, zkd_sl, zkd_sa, zkd_sq, zln_si, zln_sr, zln_sl, zln_sa, zln_sq, znx_si, znx_sr, znx_sl, znx_sa, znx_sq, hp.1, hq.1, hv.1, if_true, n_lt (show x < 2 ^ 31 by omega) (show w < 2 ^ 31 by omega), hx, s_at hp (show x < 16 by omega) (show y < 16 by omega), s_at hq (show x < 16 by omega) (show y < 16 by omega), hv.2.2 x y hx hy, hu.2.2 x y hx hy, i_sub, s_iabs d σ (show -2147483648 ≤ px x y - qx x y by omega) (show px x y - qx x y < 2147483648 by omega), hI, i_add, nI_1]
      rw [← sm_next _ hx]
      rfl, rfl⟩)
    (fun y s hy hI => ⟨(s.1, .inl (nI w)), by
      show LX6_absoluteDifference_15 _ _ _ _ _ _ _ = LX6_absoluteDifference_4 _ _ _ _ _ _ _
      rw [uX6_absoluteDifference_15]
      simp only [zlt_e, onR_s, nul_s, nul_n, chk_e, bnI_s, bnR_s, bnV_s, zi_si, zi_sr, zi_sl, zi_sa, zi_sq, zr_si, zr_sr, zr_sl, zr_sa, zr_sq, zl_si, zl_sr, zl_sl, zl_sa, zl_sq, zai_si, zai_sr, zai_sl, zai_sa, zai_sq, zar_si, zar_sr, zar_sl, zar_sa, zar_sq, zkd_si, zkd_sr, zkd_sl, zkd_sa, zkd_sq, zln_si, zln_sr, zln_sl, zln_sa, zln_sq, znx_si, znx_sr, znx_sl, znx_sa, znx_sq, hp.1, hv.1, if_true, n_lt (show w < 2 ^ 31 by omega) (show w < 2 ^ 31 by omega), Nat.lt_irrefl, if_false, nI_1], by rw [← sm_row]; exact hI⟩)
    (fun s hI => by
      show LX6_absoluteDifference_4 _ _ _ _ _ _ _ = _
      rw [uX6_absoluteDifference_4]
      simp only [zlt_e, onR_s, nul_s, nul_n, chk_e, bnI_s, bnR_s, bnV_s, zi_si, zi_sr, zi_sl, zi_sa, zi_sq, zr_si, zr_sr, zr_sl, zr_sa, zr_sq, zl_si, zl_sr, zl_sl, zl_sa, zl_sq, zai_si, zai_sr, zai_sl, zai_sa, zai_sq, zar_si, zar_sr, zar_sl, zar_sa, zar_sq, zkd_si, zkd_sr, zkd_sl, zkd_sa, zkd_sq, zln_si, zln_sr, zln_sl, zln_sa, zln_sq, znx_si, znx_sr, znx_sl, znx_sa, znx_sq, hp.1, hv.2.1, if_true, n_lt (show h < 2 ^ 31 by omega) (show h < 2 ^ 31 by omega), Nat.lt_irrefl, if_false])
  refine h1.trans ?_
  rw [h2]
  rfl
def neI (a b : Int) : Int := if a = b then 0 else 1
theorem s_difPix {σ : zS} {p q w h : Nat} {px qx : Nat → Nat → Int} (hp : PicS σ p) (hq : PicS σ q) (hv : PicV σ p w h px) (hu : PicV σ q w h qx) (hw : w ≤ 16) (hh : h ≤ 16) (hpx : pxR w h px) (hqx : pxR w h qx) (d : Nat) : zEv (d + 2) mX6_differingPixels [.inr (.inl (some p)), .inr (.inl (some q))] σ = some (some (.inl (iI (sm (lin w fun x y => neI (px x y) (qx x y)) (h * w)))), σ) := by
  rw [vX6_differingPixels]
  unfold fX6_differingPixels
  simp only [zlt_e, onR_s, nul_s, nul_n, chk_e, bnI_s, bnR_s, bnV_s, zi_si, zi_sr, zi_sl, zi_sa, zi_sq, zr_si, zr_sr, zr_sl, zr_sa, zr_sq, zl_si, zl_sr, zl_sl, zl_sa, zl_sq, zai_si, zai_sr, zai_sl, zai_sa, zai_sq, zar_si, zar_sr, zar_sl, zar_sa, zar_sq, zkd_si, zkd_sr, zkd_sl, zkd_sa, zkd_sq, zln_si, zln_sr, zln_sl, zln_sa, zln_sq, znx_si, znx_sr, znx_sl, znx_sa, znx_sq]
  obtain ⟨⟨t, z⟩, h1, h2⟩ := grid (fun y (s : Int32 × zV) => LX6_differingPixels_4 (zEv (d + 1)) p (some q) s.1 (nI y) s.2 σ) (fun y x s => LX6_differingPixels_15 (zEv (d + 1)) p (some q) s.1 (nI y) (nI x) σ) (fun y x s => s.1 = iI (sm (lin w fun x y => neI (px x y) (qx x y)) (y * w + x))) w h (fun s => some (some (.inl s.1), σ)) (0, .inr (.inr none)) (by simp only [Nat.zero_mul, Nat.add_zero]; rfl)
    (fun y s hy hI => ⟨s, by
      show LX6_differingPixels_4 _ _ _ _ _ _ _ = LX6_differingPixels_15 _ _ _ _ _ _ _
      rw [uX6_differingPixels_4]
      simp only [zlt_e, onR_s, nul_s, nul_n, chk_e, bnI_s, bnR_s, bnV_s, zi_si, zi_sr, zi_sl, zi_sa, zi_sq, zr_si, zr_sr, zr_sl, zr_sa, zr_sq, zl_si, zl_sr, zl_sl, zl_sa, zl_sq, zai_si, zai_sr, zai_sl, zai_sa, zai_sq, zar_si, zar_sr, zar_sl, zar_sa, zar_sq, zkd_si, zkd_sr, zkd_sl, zkd_sa, zkd_sq, zln_si, zln_sr, zln_sl, zln_sa, zln_sq, znx_si, znx_sr, znx_sl, znx_sa, znx_sq, hp.1, hv.2.1, if_true, n_lt (show y < 2 ^ 31 by omega) (show h < 2 ^ 31 by omega), hy]
      rfl, hI⟩)
    (fun y x s hy hx hI => ⟨(iI (sm (lin w fun x y => neI (px x y) (qx x y)) (y * w + (x + 1))), s.2), by
      show LX6_differingPixels_15 _ _ _ _ _ _ _ = LX6_differingPixels_15 _ _ _ _ _ _ _
      have hI : s.1 = _ := hI
      obtain ⟨p1, p2⟩ := hpx x y hx hy
      obtain ⟨q1, q2⟩ := hqx x y hx hy
      rw [uX6_differingPixels_15]
      simp only [zlt_e, onR_s, nul_s, nul_n, chk_e, bnI_s, bnR_s, bnV_s, zi_si, zi_sr, zi_sl, zi_sa, zi_sq, zr_si, zr_sr, zr_sl, zr_sa, zr_sq, zl_si, zl_sr, zl_sl, zl_sa, zl_sq, zai_si, zai_sr, zai_sl, zai_sa, zai_sq, zar_si, zar_sr, zar_sl, zar_sa, zar_sq, zkd_si, zkd_sr, zkd_sl, zkd_sa, zkd_sq, zln_si, zln_sr, zln_sl, zln_sa, zln_sq, znx_si, znx_sr, znx_sl, znx_sa, znx_sq, hp.1, hq.1, hv.1, if_true, n_lt (show x < 2 ^ 31 by omega) (show w < 2 ^ 31 by omega), hx, s_at hp (show x < 16 by omega) (show y < 16 by omega), s_at hq (show x < 16 by omega) (show y < 16 by omega), hv.2.2 x y hx hy, hu.2.2 x y hx hy, i_eq (show -2147483648 ≤ px x y by omega) (show px x y < 2147483648 by omega) (show -2147483648 ≤ qx x y by omega) (show qx x y < 2147483648 by omega), hI, nI_1]
      rw [← sm_next _ hx]
      by_cases he : px x y = qx x y
      · rw [if_pos he]
        simp only [neI, he, if_true, Int.add_zero]
      · rw [if_neg he]
        simp only [neI, he, if_false]
        rw [show (1 : Int32) = iI 1 from rfl, i_add], rfl⟩)
    (fun y s hy hI => ⟨(s.1, .inl (nI w)), by
      show LX6_differingPixels_15 _ _ _ _ _ _ _ = LX6_differingPixels_4 _ _ _ _ _ _ _
      rw [uX6_differingPixels_15]
      simp only [zlt_e, onR_s, nul_s, nul_n, chk_e, bnI_s, bnR_s, bnV_s, zi_si, zi_sr, zi_sl, zi_sa, zi_sq, zr_si, zr_sr, zr_sl, zr_sa, zr_sq, zl_si, zl_sr, zl_sl, zl_sa, zl_sq, zai_si, zai_sr, zai_sl, zai_sa, zai_sq, zar_si, zar_sr, zar_sl, zar_sa, zar_sq, zkd_si, zkd_sr, zkd_sl, zkd_sa, zkd_sq, zln_si, zln_sr, zln_sl, zln_sa, zln_sq, znx_si, znx_sr, znx_sl, znx_sa, znx_sq, hp.1, hv.1, if_true, n_lt (show w < 2 ^ 31 by omega) (show w < 2 ^ 31 by omega), Nat.lt_irrefl, if_false, nI_1], by rw [← sm_row]; exact hI⟩)
    (fun s hI => by
      show LX6_differingPixels_4 _ _ _ _ _ _ _ = _
      rw [uX6_differingPixels_4]
      simp only [zlt_e, onR_s, nul_s, nul_n, chk_e, bnI_s, bnR_s, bnV_s, zi_si, zi_sr, zi_sl, zi_sa, zi_sq, zr_si, zr_sr, zr_sl, zr_sa, zr_sq, zl_si, zl_sr, zl_sl, zl_sa, zl_sq, zai_si, zai_sr, zai_sl, zai_sa, zai_sq, zar_si, zar_sr, zar_sl, zar_sa, zar_sq, zkd_si, zkd_sr, zkd_sl, zkd_sa, zkd_sq, zln_si, zln_sr, zln_sl, zln_sa, zln_sq, znx_si, znx_sr, znx_sl, znx_sa, znx_sq, hp.1, hv.2.1, if_true, n_lt (show h < 2 ^ 31 by omega) (show h < 2 ^ 31 by omega), Nat.lt_irrefl, if_false])
  refine h1.trans ?_
  rw [h2]
  rfl
def pxNew (x y : Nat) : Int := ((17 * x + 29 * y) % 256 : Nat)
theorem s_startAs {σ : zS} {p w h : Nat} (hp : PicS σ p) (hw : w ≤ 16) (hh : h ≤ 16) (d : Nat) : ∃ τ, zEv (d + 2) mX6_startAs [.inr (.inl (some p)), .inl (nI w), .inl (nI h)] σ = some (none, τ) ∧ zFr (inP p) σ τ ∧ PicV τ p w h pxNew := by
  rw [vX6_startAs]
  unfold fX6_startAs
  simp only [zlt_e, onR_s, nul_s, nul_n, chk_e, bnI_s, bnR_s, bnV_s, zi_si, zi_sr, zi_sl, zi_sa, zi_sq, zr_si, zr_sr, zr_sl, zr_sa, zr_sq, zl_si, zl_sr, zl_sl, zl_sa, zl_sq, zai_si, zai_sr, zai_sl, zai_sa, zai_sq, zar_si, zar_sr, zar_sl, zar_sa, zar_sq, zkd_si, zkd_sr, zkd_sl, zkd_sa, zkd_sq, zln_si, zln_sr, zln_sl, zln_sa, zln_sq, znx_si, znx_sr, znx_sl, znx_sa, znx_sq, hp.1, if_true]
  have hF : zFr (inP p) σ (zsi (zsi σ 257 p (nI w)) 258 p (nI h)) := (zFr.si σ (Or.inl rfl)).tr (zFr.si _ (Or.inl rfl))
  have hw0 : zi (zsi (zsi σ 257 p (nI w)) 258 p (nI h)) 257 p = nI w := by simp [zi_si]
  have hh0 : zi (zsi (zsi σ 257 p (nI w)) 258 p (nI h)) 258 p = nI h := by simp [zi_si]
  generalize zsi (zsi σ 257 p (nI w)) 258 p (nI h) = σ1 at hF hw0 hh0 ⊢
  obtain ⟨⟨τ, z⟩, h1, h2⟩ := grid (fun y (s : zS × zV) => LX6_startAs_12 (zEv (d + 1)) p (.inl (nI w)) (.inl (nI h)) (nI y) s.2 s.1) (fun y x s => LX6_startAs_23 (zEv (d + 1)) p (.inl (nI w)) (.inl (nI h)) (nI y) (nI x) s.1)
    (fun y x s => zFr (inP p) σ s.1 ∧ zi s.1 257 p = nI w ∧ zi s.1 258 p = nI h ∧ ∀ x' y', bef w x y x' y' → zai s.1 (p + 1) (16 * y' + x') = iI (pxNew x' y')) w h (fun s => some (none, s.1)) (σ1, .inr (.inr none)) ⟨hF, hw0, hh0, fun x' y' hb => by unfold bef at hb; omega⟩
    (fun y s hy hI => ⟨s, by
      show LX6_startAs_12 _ _ _ _ _ _ _ = LX6_startAs_23 _ _ _ _ _ _ _
      rw [uX6_startAs_12]
      simp only [zlt_e, onR_s, nul_s, nul_n, chk_e, bnI_s, bnR_s, bnV_s, zi_si, zi_sr, zi_sl, zi_sa, zi_sq, zr_si, zr_sr, zr_sl, zr_sa, zr_sq, zl_si, zl_sr, zl_sl, zl_sa, zl_sq, zai_si, zai_sr, zai_sl, zai_sa, zai_sq, zar_si, zar_sr, zar_sl, zar_sa, zar_sq, zkd_si, zkd_sr, zkd_sl, zkd_sa, zkd_sq, zln_si, zln_sr, zln_sl, zln_sa, zln_sq, znx_si, znx_sr, znx_sl, znx_sa, znx_sq, (hp.fr hI.1).1, hI.2.2.1, if_true, n_lt (show y < 2 ^ 31 by omega) (show h < 2 ^ 31 by omega), hy]
      rfl, hI⟩)
    (fun y x s hy hx hI => by
      obtain ⟨g, gw, gh, gp⟩ := hI
      have hp' := hp.fr g
      refine ⟨(zsa s.1 (p + 1) (16 * y + x) (iI (pxNew x y)), s.2), ?_, g.tr (zFr.sa _ (Or.inr rfl)), gw, gh, fun x' y' hb => ?_⟩
      · have e : (17 * nI x + 29 * nI y) &&& 255 = iI (pxNew x y) := by
          rw [nL 17, nL 29, pk_mul, pk_mul, nI_add, pk_andN (by omega) 8 (by decide), i_nI]
          rfl
        show LX6_startAs_23 _ _ _ _ _ _ _ = LX6_startAs_23 _ _ _ _ _ _ _
        rw [uX6_startAs_23]
        simp only [zlt_e, onR_s, nul_s, nul_n, chk_e, bnI_s, bnR_s, bnV_s, zi_si, zi_sr, zi_sl, zi_sa, zi_sq, zr_si, zr_sr, zr_sl, zr_sa, zr_sq, zl_si, zl_sr, zl_sl, zl_sa, zl_sq, zai_si, zai_sr, zai_sl, zai_sa, zai_sq, zar_si, zar_sr, zar_sl, zar_sa, zar_sq, zkd_si, zkd_sr, zkd_sl, zkd_sa, zkd_sq, zln_si, zln_sr, zln_sl, zln_sa, zln_sq, znx_si, znx_sr, znx_sl, znx_sa, znx_sq, hp'.1, gw, if_true, n_lt (show x < 2 ^ 31 by omega) (show w < 2 ^ 31 by omega), hx, s_put hp' (show x < 16 by omega) (show y < 16 by omega), nI_1, e]
      · rw [zai_sa]
        by_cases hxy : x' = x ∧ y' = y
        · rw [if_pos ⟨rfl, by rw [hxy.1, hxy.2]⟩, hxy.1, hxy.2]
        · rw [if_neg (by unfold bef at hb; omega)]
          exact gp x' y' (by unfold bef at hb ⊢; omega))
    (fun y s hy hI => ⟨(s.1, .inl (nI w)), by
      show LX6_startAs_23 _ _ _ _ _ _ _ = LX6_startAs_12 _ _ _ _ _ _ _
      rw [uX6_startAs_23]
      simp only [zlt_e, onR_s, nul_s, nul_n, chk_e, bnI_s, bnR_s, bnV_s, zi_si, zi_sr, zi_sl, zi_sa, zi_sq, zr_si, zr_sr, zr_sl, zr_sa, zr_sq, zl_si, zl_sr, zl_sl, zl_sa, zl_sq, zai_si, zai_sr, zai_sl, zai_sa, zai_sq, zar_si, zar_sr, zar_sl, zar_sa, zar_sq, zkd_si, zkd_sr, zkd_sl, zkd_sa, zkd_sq, zln_si, zln_sr, zln_sl, zln_sa, zln_sq, znx_si, znx_sr, znx_sl, znx_sa, znx_sq, (hp.fr hI.1).1, hI.2.1, if_true, n_lt (show w < 2 ^ 31 by omega) (show w < 2 ^ 31 by omega), Nat.lt_irrefl, if_false, nI_1], hI.1, hI.2.1, hI.2.2.1, fun x' y' hb => hI.2.2.2 x' y' (by unfold bef at hb ⊢; omega)⟩)
    (fun s hI => by
      show LX6_startAs_12 _ _ _ _ _ _ _ = _
      rw [uX6_startAs_12]
      simp only [zlt_e, onR_s, nul_s, nul_n, chk_e, bnI_s, bnR_s, bnV_s, zi_si, zi_sr, zi_sl, zi_sa, zi_sq, zr_si, zr_sr, zr_sl, zr_sa, zr_sq, zl_si, zl_sr, zl_sl, zl_sa, zl_sq, zai_si, zai_sr, zai_sl, zai_sa, zai_sq, zar_si, zar_sr, zar_sl, zar_sa, zar_sq, zkd_si, zkd_sr, zkd_sl, zkd_sa, zkd_sq, zln_si, zln_sr, zln_sl, zln_sa, zln_sq, znx_si, znx_sr, znx_sl, znx_sa, znx_sq, (hp.fr hI.1).1, hI.2.2.1, if_true, n_lt (show h < 2 ^ 31 by omega) (show h < 2 ^ 31 by omega), Nat.lt_irrefl, if_false])
  exact ⟨τ, h1, h2.1, h2.2.1, h2.2.2.1, fun x y hx hy => h2.2.2.2 x y (by unfold bef; omega)⟩
theorem s_contains {σ : zS} {p w h : Nat} {px : Nat → Nat → Int} (hp : PicS σ p) (hv : PicV σ p w h px) (hw : w ≤ 16) (hh : h ≤ 16) (x y : Int32) (d : Nat) : zEv (d + 1) mX6_contains [.inr (.inl (some p)), .inl x, .inl y] σ = some (some (.inl (zb (zin x w ∧ zin y h))), σ) := by
  rw [vX6_contains]
  unfold fX6_contains
  simp only [zlt_e, onR_s, nul_s, nul_n, chk_e, bnI_s, bnR_s, bnV_s, zi_si, zi_sr, zi_sl, zi_sa, zi_sq, zr_si, zr_sr, zr_sl, zr_sa, zr_sq, zl_si, zl_sr, zl_sl, zl_sa, zl_sq, zai_si, zai_sr, zai_sl, zai_sa, zai_sq, zar_si, zar_sr, zar_sl, zar_sa, zar_sq, zkd_si, zkd_sr, zkd_sl, zkd_sa, zkd_sq, zln_si, zln_sr, zln_sl, zln_sa, zln_sq, znx_si, znx_sr, znx_sl, znx_sa, znx_sq, hp.1, hv.1, hv.2.1, if_true, Int32.lt_iff_toInt_lt, nI_toInt (show w < 2 ^ 31 by omega), nI_toInt (show h < 2 ^ 31 by omega)]
  have e0 : (0 : Int32).toInt = 0 := rfl
  rw [e0]
  unfold zin zb zB
  by_cases h1 : x.toInt < 0
  · simp [h1, show ¬ 0 ≤ x.toInt by omega]
  · by_cases h2 : x.toInt < w
    · by_cases h3 : y.toInt < 0
      · simp [h1, h2, h3, show ¬ 0 ≤ y.toInt by omega]
      · by_cases h4 : y.toInt < h
        · simp [h1, h2, h3, h4, show 0 ≤ x.toInt by omega, show 0 ≤ y.toInt by omega]
        · simp [h1, h2, h3, h4]
    · simp [h1, h2]
theorem s_hasSizeOf {σ : zS} {p q w h w' h' : Nat} {px qx : Nat → Nat → Int} (hp : PicS σ p) (hq : PicS σ q) (hv : PicV σ p w h px) (hu : PicV σ q w' h' qx) (hw : w ≤ 16) (hh : h ≤ 16) (hw' : w' ≤ 16) (hh' : h' ≤ 16) (d : Nat) : zEv (d + 1) mX6_hasSizeOf [.inr (.inl (some p)), .inr (.inl (some q))] σ = some (some (.inl (zb (w = w' ∧ h = h'))), σ) := by
  rw [vX6_hasSizeOf]
  unfold fX6_hasSizeOf
  simp only [zlt_e, onR_s, nul_s, nul_n, chk_e, bnI_s, bnR_s, bnV_s, zi_si, zi_sr, zi_sl, zi_sa, zi_sq, zr_si, zr_sr, zr_sl, zr_sa, zr_sq, zl_si, zl_sr, zl_sl, zl_sa, zl_sq, zai_si, zai_sr, zai_sl, zai_sa, zai_sq, zar_si, zar_sr, zar_sl, zar_sa, zar_sq, zkd_si, zkd_sr, zkd_sl, zkd_sa, zkd_sq, zln_si, zln_sr, zln_sl, zln_sa, zln_sq, znx_si, znx_sr, znx_sl, znx_sa, znx_sq, hp.1, hq.1, hv.1, hv.2.1, hu.1, hu.2.1, if_true, n_eq (show w < 2 ^ 31 by omega) (show w' < 2 ^ 31 by omega), n_eq (show h < 2 ^ 31 by omega) (show h' < 2 ^ 31 by omega)]
  unfold zb zB
  by_cases h1 : w = w' <;> by_cases h2 : h = h' <;> simp [h1, h2]
/-- nearest within -/
def nrI (z : Int) (n : Nat) : Nat := (max 0 (min z (n - 1))).toNat
theorem s_atNearest {σ : zS} {p w h : Nat} {px : Nat → Nat → Int} (hp : PicS σ p) (hv : PicV σ p w h px) (hw0 : 1 ≤ w) (hh0 : 1 ≤ h) (hw : w ≤ 16) (hh : h ≤ 16) {x y : Int} (hx1 : -1000 ≤ x) (hx2 : x ≤ 1000) (hy1 : -1000 ≤ y) (hy2 : y ≤ 1000) (d : Nat) : zEv (d + 2) mX6_atNearest [.inr (.inl (some p)), .inl (iI x), .inl (iI y)] σ = some (some (.inl (iI (px (nrI x w) (nrI y h)))), σ) := by
  have e1 : (1 : Int32) = iI 1 := rfl
  have e0 : (0 : Int32) = iI 0 := rfl
  have hX : nrI x w < w := by unfold nrI; omega
  have hY : nrI y h < h := by unfold nrI; omega
  have eX : iI (max 0 (min x ((w : Int) - 1))) = nI (nrI x w) := by rw [i_nI]; congr 1; unfold nrI; omega
  have eY : iI (max 0 (min y ((h : Int) - 1))) = nI (nrI y h) := by rw [i_nI]; congr 1; unfold nrI; omega
  rw [vX6_atNearest]
  unfold fX6_atNearest
  simp only [zlt_e, onR_s, nul_s, nul_n, chk_e, bnI_s, bnR_s, bnV_s, zi_si, zi_sr, zi_sl, zi_sa, zi_sq, zr_si, zr_sr, zr_sl, zr_sa, zr_sq, zl_si, zl_sr, zl_sl, zl_sa, zl_sq, zai_si, zai_sr, zai_sl, zai_sa, zai_sq, zar_si, zar_sr, zar_sl, zar_sa, zar_sq, zkd_si, zkd_sr, zkd_sl, zkd_sa, zkd_sq, zln_si, zln_sr, zln_sl, zln_sa, zln_sq, znx_si, znx_sr, znx_sl, znx_sa, znx_sq, hp.1, hv.1, hv.2.1, if_true]
  rw [e1, e0, i_nI w, i_sub, s_imin d σ (by omega) (by omega) (by omega) (by omega)]
  simp only [zlt_e, onR_s, nul_s, nul_n, chk_e, bnI_s, bnR_s, bnV_s, zi_si, zi_sr, zi_sl, zi_sa, zi_sq, zr_si, zr_sr, zr_sl, zr_sa, zr_sq, zl_si, zl_sr, zl_sl, zl_sa, zl_sq, zai_si, zai_sr, zai_sl, zai_sa, zai_sq, zar_si, zar_sr, zar_sl, zar_sa, zar_sq, zkd_si, zkd_sr, zkd_sl, zkd_sa, zkd_sq, zln_si, zln_sr, zln_sl, zln_sa, zln_sq, znx_si, znx_sr, znx_sl, znx_sa, znx_sq, hp.1, hv.2.1, if_true]
  rw [s_imax d σ (by omega) (by omega) (by omega) (by omega)]
  simp only [zlt_e, onR_s, nul_s, nul_n, chk_e, bnI_s, bnR_s, bnV_s, zi_si, zi_sr, zi_sl, zi_sa, zi_sq, zr_si, zr_sr, zr_sl, zr_sa, zr_sq, zl_si, zl_sr, zl_sl, zl_sa, zl_sq, zai_si, zai_sr, zai_sl, zai_sa, zai_sq, zar_si, zar_sr, zar_sl, zar_sa, zar_sq, zkd_si, zkd_sr, zkd_sl, zkd_sa, zkd_sq, zln_si, zln_sr, zln_sl, zln_sa, zln_sq, znx_si, znx_sr, znx_sl, znx_sa, znx_sq, hp.1, hv.2.1, if_true]
  rw [i_nI h, i_sub, s_imin d σ (by omega) (by omega) (by omega) (by omega)]
  simp only [zlt_e, onR_s, nul_s, nul_n, chk_e, bnI_s, bnR_s, bnV_s, zi_si, zi_sr, zi_sl, zi_sa, zi_sq, zr_si, zr_sr, zr_sl, zr_sa, zr_sq, zl_si, zl_sr, zl_sl, zl_sa, zl_sq, zai_si, zai_sr, zai_sl, zai_sa, zai_sq, zar_si, zar_sr, zar_sl, zar_sa, zar_sq, zkd_si, zkd_sr, zkd_sl, zkd_sa, zkd_sq, zln_si, zln_sr, zln_sl, zln_sa, zln_sq, znx_si, znx_sr, znx_sl, znx_sa, znx_sq, hp.1, hv.2.1, if_true]
  rw [s_imax d σ (by omega) (by omega) (by omega) (by omega)]
  simp only [zlt_e, onR_s, nul_s, nul_n, chk_e, bnI_s, bnR_s, bnV_s, zi_si, zi_sr, zi_sl, zi_sa, zi_sq, zr_si, zr_sr, zr_sl, zr_sa, zr_sq, zl_si, zl_sr, zl_sl, zl_sa, zl_sq, zai_si, zai_sr, zai_sl, zai_sa, zai_sq, zar_si, zar_sr, zar_sl, zar_sa, zar_sq, zkd_si, zkd_sr, zkd_sl, zkd_sa, zkd_sq, zln_si, zln_sr, zln_sl, zln_sa, zln_sq, znx_si, znx_sr, znx_sl, znx_sa, znx_sq, eX, eY, s_at hp (show nrI x w < 16 by omega) (show nrI y h < 16 by omega), hv.2.2 _ _ hX hY, hp.1, if_true]
