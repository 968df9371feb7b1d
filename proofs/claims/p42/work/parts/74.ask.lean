/-! calls that render: the class's side -/
/-- the cells that an asking call changes: the draft, the renderer, the two pictures -/
def inAsk (o a : Nat) : Prop := (o + 29 ≤ a ∧ a < o + 57) ∨ (o + 249 ≤ a ∧ a < o + 257)
theorem CIx.ask {σ τ : zS} {o B : Nat} {A : zW} {q u P r : Nat → Nat} (hG : GA A B) (h : CIx σ o A q u P) (g : zFr (inAsk o) σ τ) (hr : CmQ τ (o + 29) r) : CIx τ o A q u P := by
  obtain ⟨hR, -, hHQ, hHV, hS, hT⟩ := h
  exact ⟨hR.fr hG.1.2.2.1 g (fun a ha => by unfold inC at ha; unfold inAsk; omega), ⟨r, hr⟩, hHQ.fr g (by unfold inAsk; omega), hHV.fr hHQ hG.2.1.1 (fun i hi => (hG.2.1.2 i hi).2.2.1) g (fun a ha => by unfold inH at ha; unfold inAsk; omega), hS.fr hG.2.2.1 g (by unfold inAsk; omega) (fun a ha => by unfold inAsk; omega), hT.fr g (by unfold inAsk; omega) (by unfold inAsk; omega)⟩
/-- the cells of the renderer and the two pictures -/
def inRS (o a : Nat) : Prop := o + 249 ≤ a ∧ a < o + 257
theorem CIx.rs {σ τ : zS} {o B : Nat} {A : zW} {q u P : Nat → Nat} (hG : GA A B) (h : CIx σ o A q u P) (g : zFr (inRS o) σ τ) : CIx τ o A q u P := by
  obtain ⟨r, hr⟩ := h.2.1
  exact h.ask hG (g.mono (fun a ha => Or.inr ha)) (hr.fr g (by unfold inRS; omega))
theorem s_shown {σ : zS} {o B k : Nat} {A : zW} {q u P : Nat → Nat} (hG : GA A B) (hI : CIx σ o A q u P) (hk : k ≤ cN (aC A)) (d : Nat) : ∃ τ, zEv (d + 6) mX7_renderStack [.inr (.inl (some (o + 249))), .inr (.inl (some (o + 1))), .inl (iI ((k : Int) - 1)), .inr (.inl (some (o + 253)))] σ = some (none, τ) ∧ zFr (fun a => o + 249 ≤ a ∧ a < o + 255) σ τ ∧ CIx τ o A q u P ∧ PicV τ (o + 253) (cW (aC A)) (cH (aC A)) (outI (aC A) k) := by
  have hR := hI.1
  have hO := hR.1
  obtain ⟨τ, h1, h2, h3⟩ := s_renderStack hO.rd hO.c hR.2.1 hR.2.2.1 hG.1 hO.sh hk (by omega) (by omega) (by omega) d
  have g : zFr (fun a => o + 249 ≤ a ∧ a < o + 255) σ τ := h2.mono (fun a ha => by unfold inRP inP at ha; omega)
  exact ⟨τ, h1, g, hI.rs hG (g.mono (fun a ha => by unfold inRS; omega)), h3⟩
def hOut (x : Int32) (n : Nat) : Prop := -1 ≤ x.toInt ∧ x.toInt < n
theorem hOut_n {x : Int32} {n : Nat} (h : -1 ≤ x.toInt ∧ x.toInt < n) : ∃ k : Nat, x = iI ((k : Int) - 1) ∧ k ≤ n ∧ (x.toInt + 1).toNat = k := by
  refine ⟨(x.toInt + 1).toNat, ?_, by omega, rfl⟩
  rw [show (((x.toInt + 1).toNat : Nat) : Int) - 1 = x.toInt by omega]
  exact i_of x
theorem s_hasOutput {σ : zS} {o B : Nat} {A : zW} {q u P : Nat → Nat} (hG : GA A B) (hI : CIx σ o A q u P) (x : Int32) (d : Nat) : zEv (d + 2) mX10_hasOutput [.inr (.inl (some o)), .inl x] σ = some (some (.inl (zb (-1 ≤ x.toInt ∧ x.toInt < cN (aC A)))), σ) := by
  have hO := hI.1.1
  have hn8 := hG.1.2.2.1
  have b1 : zB 1 = True := eq_true (Or.inr rfl)
  have b0 : zB 0 = True := eq_true (Or.inl rfl)
  have w1 : x < (-1) ↔ x.toInt < -1 := Int32.lt_iff_toInt_lt
  have w2 : x < nI (cN (aC A)) ↔ x.toInt < cN (aC A) := by rw [Int32.lt_iff_toInt_lt, nI_toInt (by omega)]
  rw [vX10_hasOutput]
  unfold fX10_hasOutput
  simp only [zlt_e, onR_s, nul_s, nul_n, chk_e, bnI_s, bnR_s, bnV_s, zi_si, zi_sr, zi_sl, zi_sa, zi_sq, zr_si, zr_sr, zr_sl, zr_sa, zr_sq, zl_si, zl_sr, zl_sl, zl_sa, zl_sq, zai_si, zai_sr, zai_sl, zai_sa, zai_sq, zar_si, zar_sr, zar_sl, zar_sa, zar_sq, zkd_si, zkd_sr, zkd_sl, zkd_sa, zkd_sq, zln_si, zln_sr, zln_sl, zln_sa, zln_sq, znx_si, znx_sr, znx_sl, znx_sa, znx_sq, hO.f.1, hO.f.2.1, hO.c.1, if_true, s_layerCount hO.c, hI.1.2.2.1.2.1, b1, b0, w1, w2]
  by_cases h1 : x.toInt < -1
  · rw [if_pos h1, zb_f (by omega)]
  · rw [if_neg h1]
    by_cases h2 : x.toInt < cN (aC A)
    · rw [if_pos h2, zb_t (by omega)]
    · rw [if_neg h2, zb_f (by omega)]
def inI (lo hi v : Int) : Int := if lo ≤ v ∧ v ≤ hi then 1 else 0
def rHist (A : zW) (x lo hi : Int32) : Int32 := if (-1 ≤ x.toInt ∧ x.toInt < cN (aC A)) ∧ (0 ≤ lo.toInt ∧ lo.toInt ≤ 255) ∧ lo.toInt ≤ hi.toInt ∧ hi.toInt ≤ 255 then iI (sm (lin (cW (aC A)) fun i j => inI lo.toInt hi.toInt (outI (aC A) (x.toInt + 1).toNat i j)) (cH (aC A) * cW (aC A))) else -1001
def rSum (A : zW) (x : Int32) : Int32 := if -1 ≤ x.toInt ∧ x.toInt < cN (aC A) then iI (sm (lin (cW (aC A)) (outI (aC A) (x.toInt + 1).toNat)) (cH (aC A) * cW (aC A))) else -1001
theorem c_sum {σ : zS} {o B : Nat} {A : zW} {q u P : Nat → Nat} (hG : GA A B) (hI : CIx σ o A q u P) (x : Int32) (d : Nat) : zOC o (zEv (d + 20) mX10_sum [.inr (.inl (some o)), .inl x] σ) (rSum A x) A σ := by
  have hO := hI.1.1
  have hw := hG.1.1
  have hh := hG.1.2.1
  have key : ∀ r, zOC o (some (some (.inl r), σ)) r A σ := fun r => zOC.same hI r
  rw [vX10_sum]
  unfold fX10_sum rSum
  simp only [chk_e, bnI_s, hO.f.1, if_true, s_hasOutput hG hI x (d + 17), zb_0]
  by_cases hx : -1 ≤ x.toInt ∧ x.toInt < cN (aC A)
  · rw [if_neg (fun q => q hx), if_pos hx]
    obtain ⟨k, ex, hk, ek⟩ := hOut_n hx
    obtain ⟨τ, h1, h2, h3, h4⟩ := s_shown hG hI hk (d + 13)
    have hO2 := h3.1.1
    rw [ek, ex]
    simp only [zlt_e, onR_s, nul_s, nul_n, chk_e, bnI_s, bnR_s, bnV_s, zi_si, zi_sr, zi_sl, zi_sa, zi_sq, zr_si, zr_sr, zr_sl, zr_sa, zr_sq, zl_si, zl_sr, zl_sl, zl_sa, zl_sq, zai_si, zai_sr, zai_sl, zai_sa, zai_sq, zar_si, zar_sr, zar_sl, zar_sa, zar_sq, zkd_si, zkd_sr, zkd_sl, zkd_sa, zkd_sq, zln_si, zln_sr, zln_sl, zln_sa, zln_sq, znx_si, znx_sr, znx_sl, znx_sa, znx_sq, hO.f.1, hO.f.2.1, hO.f.2.2.2.2.2.2.2.1, hO.f.2.2.2.2.2.2.2.2.1, hO.rd.1, if_true, h1]
    obtain ⟨⟨t, z⟩, a1, a2⟩ := grid (fun y (s : Int32 × zV) => LX10_sum_32 (zEv (d + 19)) o (.inl (iI ((k : Int) - 1))) s.1 (nI y) s.2 τ) (fun y x s => LX10_sum_46 (zEv (d + 19)) o (.inl (iI ((k : Int) - 1))) s.1 (nI y) (nI x) τ) (fun y x s => s.1 = iI (sm (lin (cW (aC A)) (outI (aC A) k)) (y * cW (aC A) + x))) (cW (aC A)) (cH (aC A)) (fun s => some (some (.inl s.1), τ)) (0, .inr (.inr none)) (by simp only [Nat.zero_mul, Nat.add_zero]; rfl)
      (fun y s hy hI => ⟨s, by
        show LX10_sum_32 _ _ _ _ _ _ _ = LX10_sum_46 _ _ _ _ _ _ _
        rw [uX10_sum_32]
        simp only [zlt_e, onR_s, nul_s, nul_n, chk_e, bnI_s, bnR_s, bnV_s, zi_si, zi_sr, zi_sl, zi_sa, zi_sq, zr_si, zr_sr, zr_sl, zr_sa, zr_sq, zl_si, zl_sr, zl_sl, zl_sa, zl_sq, zai_si, zai_sr, zai_sl, zai_sa, zai_sq, zar_si, zar_sr, zar_sl, zar_sa, zar_sq, zkd_si, zkd_sr, zkd_sl, zkd_sa, zkd_sq, zln_si, zln_sr, zln_sl, zln_sa, zln_sq, znx_si, znx_sr, znx_sl, znx_sa, znx_sq, hO2.f.1, hO2.f.2.2.2.2.2.2.2.2.1, hO2.sh.1, h4.2.1, if_true, n_lt (show y < 2 ^ 31 by omega) (show cH (aC A) < 2 ^ 31 by omega), hy]
        rfl, hI⟩)
      (fun y x s hy hx hI => ⟨(iI (sm (lin (cW (aC A)) (outI (aC A) k)) (y * cW (aC A) + (x + 1))), s.2), by
        show LX10_sum_46 _ _ _ _ _ _ _ = LX10_sum_46 _ _ _ _ _ _ _
        have hI : s.1 = _ := hI
        rw [uX10_sum_46]
        simp only [zlt_e, onR_s, nul_s, nul_n, chk_e, bnI_s, bnR_s, bnV_s, zi_si, zi_sr, zi_sl, zi_sa, zi_sq, zr_si, zr_sr, zr_sl, zr_sa, zr_sq, zl_si, zl_sr, zl_sl, zl_sa, zl_sq, zai_si, zai_sr, zai_sl, zai_sa, zai_sq, zar_si, zar_sr, zar_sl, zar_sa, zar_sq, zkd_si, zkd_sr, zkd_sl, zkd_sa, zkd_sq, zln_si, zln_sr, zln_sl, zln_sa, zln_sq, znx_si, znx_sr, znx_sl, znx_sa, znx_sq, hO2.f.1, hO2.f.2.2.2.2.2.2.2.2.1, hO2.sh.1, h4.1, if_true, n_lt (show x < 2 ^ 31 by omega) (show cW (aC A) < 2 ^ 31 by omega), hx, s_at hO2.sh (show x < 16 by omega) (show y < 16 by omega), h4.2.2 x y hx hy, hI, i_add, nI_1]
        rw [← sm_next _ hx], rfl⟩)
      (fun y s hy hI => ⟨(s.1, .inl (nI (cW (aC A)))), by
        show LX10_sum_46 _ _ _ _ _ _ _ = LX10_sum_32 _ _ _ _ _ _ _
        rw [uX10_sum_46]
        simp only [zlt_e, onR_s, nul_s, nul_n, chk_e, bnI_s, bnR_s, bnV_s, zi_si, zi_sr, zi_sl, zi_sa, zi_sq, zr_si, zr_sr, zr_sl, zr_sa, zr_sq, zl_si, zl_sr, zl_sl, zl_sa, zl_sq, zai_si, zai_sr, zai_sl, zai_sa, zai_sq, zar_si, zar_sr, zar_sl, zar_sa, zar_sq, zkd_si, zkd_sr, zkd_sl, zkd_sa, zkd_sq, zln_si, zln_sr, zln_sl, zln_sa, zln_sq, znx_si, znx_sr, znx_sl, znx_sa, znx_sq, hO2.f.1, hO2.f.2.2.2.2.2.2.2.2.1, hO2.sh.1, h4.1, if_true, n_lt (show cW (aC A) < 2 ^ 31 by omega) (show cW (aC A) < 2 ^ 31 by omega), Nat.lt_irrefl, if_false, nI_1], by rw [← sm_row]; exact hI⟩)
      (fun s hI => by
        show LX10_sum_32 _ _ _ _ _ _ _ = _
        rw [uX10_sum_32]
        simp only [zlt_e, onR_s, nul_s, nul_n, chk_e, bnI_s, bnR_s, bnV_s, zi_si, zi_sr, zi_sl, zi_sa, zi_sq, zr_si, zr_sr, zr_sl, zr_sa, zr_sq, zl_si, zl_sr, zl_sl, zl_sa, zl_sq, zai_si, zai_sr, zai_sl, zai_sa, zai_sq, zar_si, zar_sr, zar_sl, zar_sa, zar_sq, zkd_si, zkd_sr, zkd_sl, zkd_sa, zkd_sq, zln_si, zln_sr, zln_sl, zln_sa, zln_sq, znx_si, znx_sr, znx_sl, znx_sa, znx_sq, hO2.f.1, hO2.f.2.2.2.2.2.2.2.2.1, hO2.sh.1, h4.2.1, if_true, n_lt (show cH (aC A) < 2 ^ 31 by omega) (show cH (aC A) < 2 ^ 31 by omega), Nat.lt_irrefl, if_false])
    have a2 : t = _ := a2
    rw [Nat.add_zero] at a2
    have a1 : LX10_sum_32 (zEv (d + 19)) o (.inl (iI ((k : Int) - 1))) 0 0 (.inr (.inr none)) τ = some (some (.inl t), τ) := a1
    rw [a1, a2]
    exact ⟨τ, q, u, P, rfl, h3, h2.mono (fun a ha => by omega)⟩
  · rw [if_pos hx, if_neg hx]
    exact key _
theorem c_histogram {σ : zS} {o B : Nat} {A : zW} {q u P : Nat → Nat} (hG : GA A B) (hI : CIx σ o A q u P) (x lo hi : Int32) (d : Nat) : zOC o (zEv (d + 20) mX10_histogram [.inr (.inl (some o)), .inl x, .inl lo, .inl hi] σ) (rHist A x lo hi) A σ := by
  have hO := hI.1.1
  have hw := hG.1.1
  have hh := hG.1.2.1
  have key : ∀ r, zOC o (some (some (.inl r), σ)) r A σ := fun r => zOC.same hI r
  have w1 : ((0 : Int32) ≤ lo ∧ lo ≤ 255) ↔ 0 ≤ lo.toInt ∧ lo.toInt ≤ 255 := w_in (a := 0) (b := 255) (by decide) (by decide) (by decide) (by decide)
  have w2 : (lo ≤ hi ∧ hi ≤ 255) ↔ lo.toInt ≤ hi.toInt ∧ hi.toInt ≤ 255 := by rw [Int32.le_iff_toInt_le, Int32.le_iff_toInt_le]; exact Iff.rfl
  rw [vX10_histogram]
  unfold fX10_histogram rHist
  simp only [chk_e, bnI_s, hO.f.1, if_true, s_hasOutput hG hI x (d + 17), zb_0, s_within, w1, w2]
  by_cases hx : -1 ≤ x.toInt ∧ x.toInt < cN (aC A)
  · rw [if_neg (fun q => q hx)]
    by_cases hl : 0 ≤ lo.toInt ∧ lo.toInt ≤ 255
    · rw [if_neg (fun q => q hl)]
      by_cases hb : lo.toInt ≤ hi.toInt ∧ hi.toInt ≤ 255
      · rw [if_neg (fun q => q hb)]
        have hc : (-1 ≤ x.toInt ∧ x.toInt < cN (aC A)) ∧ (0 ≤ lo.toInt ∧ lo.toInt ≤ 255) ∧ lo.toInt ≤ hi.toInt ∧ hi.toInt ≤ 255 := ⟨hx, hl, hb⟩
        rw [if_pos hc]
        obtain ⟨k, ex, hk, ek⟩ := hOut_n hx
        obtain ⟨τ, h1, h2, h3, h4⟩ := s_shown hG hI hk (d + 13)
        have hO2 := h3.1.1
        rw [ek, ex]
        simp only [zlt_e, onR_s, nul_s, nul_n, chk_e, bnI_s, bnR_s, bnV_s, zi_si, zi_sr, zi_sl, zi_sa, zi_sq, zr_si, zr_sr, zr_sl, zr_sa, zr_sq, zl_si, zl_sr, zl_sl, zl_sa, zl_sq, zai_si, zai_sr, zai_sl, zai_sa, zai_sq, zar_si, zar_sr, zar_sl, zar_sa, zar_sq, zkd_si, zkd_sr, zkd_sl, zkd_sa, zkd_sq, zln_si, zln_sr, zln_sl, zln_sa, zln_sq, znx_si, znx_sr, znx_sl, znx_sa, znx_sq, hO.f.1, hO.f.2.1, hO.f.2.2.2.2.2.2.2.1, hO.f.2.2.2.2.2.2.2.2.1, hO.rd.1, if_true, h1]
        obtain ⟨⟨t, z⟩, a1, a2⟩ := grid (fun y (s : Int32 × zV) => LX10_histogram_56 (zEv (d + 19)) o (.inl (iI ((k : Int) - 1))) lo hi s.1 (nI y) s.2 τ) (fun y x s => LX10_histogram_71 (zEv (d + 19)) o (.inl (iI ((k : Int) - 1))) lo hi s.1 (nI y) (nI x) τ) (fun y x s => s.1 = iI (sm (lin (cW (aC A)) fun i j => inI lo.toInt hi.toInt (outI (aC A) k i j)) (y * cW (aC A) + x))) (cW (aC A)) (cH (aC A)) (fun s => some (some (.inl s.1), τ)) (0, .inr (.inr none)) (by simp only [Nat.zero_mul, Nat.add_zero]; rfl)
          (fun y s hy hI => ⟨s, by
            show LX10_histogram_56 _ _ _ _ _ _ _ _ _ = LX10_histogram_71 _ _ _ _ _ _ _ _ _
            rw [uX10_histogram_56]
            simp only [zlt_e, onR_s, nul_s, nul_n, chk_e, bnI_s, bnR_s, bnV_s, zi_si, zi_sr, zi_sl, zi_sa, zi_sq, zr_si, zr_sr, zr_sl, zr_sa, zr_sq, zl_si, zl_sr, zl_sl, zl_sa, zl_sq, zai_si, zai_sr, zai_sl, zai_sa, zai_sq, zar_si, zar_sr, zar_sl, zar_sa, zar_sq, zkd_si, zkd_sr, zkd_sl, zkd_sa, zkd_sq, zln_si, zln_sr, zln_sl, zln_sa, zln_sq, znx_si, znx_sr, znx_sl, znx_sa, znx_sq, hO2.f.1, hO2.f.2.2.2.2.2.2.2.2.1, hO2.sh.1, h4.2.1, if_true, n_lt (show y < 2 ^ 31 by omega) (show cH (aC A) < 2 ^ 31 by omega), hy]
            rfl, hI⟩)
          (fun y x s hy hx hI => ⟨(iI (sm (lin (cW (aC A)) fun i j => inI lo.toInt hi.toInt (outI (aC A) k i j)) (y * cW (aC A) + (x + 1))), s.2), by
            show LX10_histogram_71 _ _ _ _ _ _ _ _ _ = LX10_histogram_71 _ _ _ _ _ _ _ _ _
            have hI : s.1 = _ := hI
            have hp := outI_R hG.1 k hk x y hx hy
            have wv : (lo ≤ iI (outI (aC A) k x y) ∧ iI (outI (aC A) k x y) ≤ hi) ↔ lo.toInt ≤ outI (aC A) k x y ∧ outI (aC A) k x y ≤ hi.toInt := by
              rw [Int32.le_iff_toInt_le, Int32.le_iff_toInt_le, i_toInt (by omega) (by omega)]
            rw [uX10_histogram_71]
            simp only [zlt_e, onR_s, nul_s, nul_n, chk_e, bnI_s, bnR_s, bnV_s, zi_si, zi_sr, zi_sl, zi_sa, zi_sq, zr_si, zr_sr, zr_sl, zr_sa, zr_sq, zl_si, zl_sr, zl_sl, zl_sa, zl_sq, zai_si, zai_sr, zai_sl, zai_sa, zai_sq, zar_si, zar_sr, zar_sl, zar_sa, zar_sq, zkd_si, zkd_sr, zkd_sl, zkd_sa, zkd_sq, zln_si, zln_sr, zln_sl, zln_sa, zln_sq, znx_si, znx_sr, znx_sl, znx_sa, znx_sq, hO2.f.1, hO2.f.2.2.2.2.2.2.2.2.1, hO2.sh.1, h4.1, if_true, n_lt (show x < 2 ^ 31 by omega) (show cW (aC A) < 2 ^ 31 by omega), hx, s_at hO2.sh (show x < 16 by omega) (show y < 16 by omega), h4.2.2 x y hx hy, hI, s_within, wv, zb_0, nI_1]
            rw [← sm_next _ hx]
            by_cases hv : lo.toInt ≤ outI (aC A) k x y ∧ outI (aC A) k x y ≤ hi.toInt
            · rw [if_neg (fun q => q hv)]
              have : inI lo.toInt hi.toInt (outI (aC A) k x y) = 1 := if_pos hv
              rw [this, show (1 : Int32) = iI 1 from rfl, i_add]
            · rw [if_pos hv]
              have : inI lo.toInt hi.toInt (outI (aC A) k x y) = 0 := if_neg hv
              rw [this, Int.add_zero], rfl⟩)
          (fun y s hy hI => ⟨(s.1, .inl (nI (cW (aC A)))), by
            show LX10_histogram_71 _ _ _ _ _ _ _ _ _ = LX10_histogram_56 _ _ _ _ _ _ _ _ _
            rw [uX10_histogram_71]
            simp only [zlt_e, onR_s, nul_s, nul_n, chk_e, bnI_s, bnR_s, bnV_s, zi_si, zi_sr, zi_sl, zi_sa, zi_sq, zr_si, zr_sr, zr_sl, zr_sa, zr_sq, zl_si, zl_sr, zl_sl, zl_sa, zl_sq, zai_si, zai_sr, zai_sl, zai_sa, zai_sq, zar_si, zar_sr, zar_sl, zar_sa, zar_sq, zkd_si, zkd_sr, zkd_sl, zkd_sa, zkd_sq, zln_si, zln_sr, zln_sl, zln_sa, zln_sq, znx_si, znx_sr, znx_sl, znx_sa, znx_sq, hO2.f.1, hO2.f.2.2.2.2.2.2.2.2.1, hO2.sh.1, h4.1, if_true, n_lt (show cW (aC A) < 2 ^ 31 by omega) (show cW (aC A) < 2 ^ 31 by omega), Nat.lt_irrefl, if_false, nI_1], by rw [← sm_row]; exact hI⟩)
          (fun s hI => by
            show LX10_histogram_56 _ _ _ _ _ _ _ _ _ = _
            rw [uX10_histogram_56]
            simp only [zlt_e, onR_s, nul_s, nul_n, chk_e, bnI_s, bnR_s, bnV_s, zi_si, zi_sr, zi_sl, zi_sa, zi_sq, zr_si, zr_sr, zr_sl, zr_sa, zr_sq, zl_si, zl_sr, zl_sl, zl_sa, zl_sq, zai_si, zai_sr, zai_sl, zai_sa, zai_sq, zar_si, zar_sr, zar_sl, zar_sa, zar_sq, zkd_si, zkd_sr, zkd_sl, zkd_sa, zkd_sq, zln_si, zln_sr, zln_sl, zln_sa, zln_sq, znx_si, znx_sr, znx_sl, znx_sa, znx_sq, hO2.f.1, hO2.f.2.2.2.2.2.2.2.2.1, hO2.sh.1, h4.2.1, if_true, n_lt (show cH (aC A) < 2 ^ 31 by omega) (show cH (aC A) < 2 ^ 31 by omega), Nat.lt_irrefl, if_false])
        have a2 : t = _ := a2
        rw [Nat.add_zero] at a2
        have a1 : LX10_histogram_56 (zEv (d + 19)) o (.inl (iI ((k : Int) - 1))) lo hi 0 0 (.inr (.inr none)) τ = some (some (.inl t), τ) := a1
        rw [a1, a2]
        exact ⟨τ, q, u, P, rfl, h3, h2.mono (fun a ha => by omega)⟩
      · rw [if_pos hb, if_neg (fun q => hb q.2.2)]
        exact key _
    · rw [if_pos hl, if_neg (fun q => hl q.2.1)]
      exact key _
  · rw [if_pos hx, if_neg (fun q => hx q.1)]
    exact key _
def rMv_ (A : zW) (l x y : Int32) : Int32 := if zin l (cN (aC A)) ∧ zin x (cW (aC A)) ∧ zin y (cH (aC A)) then iI (wtI (cL (aC A) l.toNatClampNeg) x.toNatClampNeg y.toNatClampNeg (outI (aC A) l.toNatClampNeg x.toNatClampNeg y.toNatClampNeg)) else -1001
