/-! dab -/
def lDabs (l : Nat → Int) (x y r : Int) : Nat → Int := upR (upR (upR (upR l (14 + 3 * (l 13).toNat) x) (14 + 3 * (l 13).toNat + 1) y) (14 + 3 * (l 13).toNat + 2) r) 13 (l 13 + 1)
def lDab (l : Nat → Int) (x y r : Int) : Nat → Int := lMask (lDabs l x y r) 4 0 0 0 0
theorem lDab_at {l : Nat → Int} (h13 : 0 ≤ l 13) (x y r : Int) (i : Nat) : lDab l x y r i = if i = 6 then 4 else if 7 ≤ i ∧ i ≤ 10 then 0 else if i = 13 then l 13 + 1 else if i = 14 + 3 * (l 13).toNat + 2 then r else if i = 14 + 3 * (l 13).toNat + 1 then y else if i = 14 + 3 * (l 13).toNat then x else l i := by
  unfold lDab lMask lDabs upR
  generalize (l 13).toNat = n
  by_cases a6 : i = 6
  · subst a6; simp
  by_cases a7 : i = 7
  · subst a7; simp
  by_cases a8 : i = 8
  · subst a8; simp
  by_cases a9 : i = 9
  · subst a9; simp
  by_cases a10 : i = 10
  · subst a10; simp
  have : ¬ (7 ≤ i ∧ i ≤ 10) := by omega
  simp only [a6, a7, a8, a9, a10, this, if_false]
theorem GL.dab {l : Nat → Int} (h : GL l) {x y r : Int} (hn : l 13 < 6) (hx : 0 ≤ x ∧ x ≤ 15) (hy : 0 ≤ y ∧ y ≤ 15) (hr : 0 ≤ r ∧ r ≤ 8) : GL (lDab l x y r) := by
  obtain ⟨h0, h1, h2, h3, h4, h5, h6, h7, h8, h9, h10⟩ := h
  have at_ := lDab_at (l := l) h9.1 x y r
  have e : ∀ i, i ≤ 12 → ¬ (6 ≤ i ∧ i ≤ 10) → lDab l x y r i = l i := fun i hi hn => by
    rw [at_, if_neg (by omega), if_neg (by omega), if_neg (by omega), if_neg (by omega), if_neg (by omega), if_neg (by omega)]
  have e6 : lDab l x y r 6 = 4 := by rw [at_]; rfl
  have e7 : lDab l x y r 7 = 0 := by rw [at_]; rfl
  have e8 : lDab l x y r 8 = 0 := by rw [at_]; rfl
  have e9 : lDab l x y r 9 = 0 := by rw [at_]; rfl
  have e10 : lDab l x y r 10 = 0 := by rw [at_]; rfl
  have e13 : lDab l x y r 13 = l 13 + 1 := by rw [at_]; rfl
  unfold GL
  rw [e 0 (by decide) (by decide), e 1 (by decide) (by decide), e 2 (by decide) (by decide), e 3 (by decide) (by decide), e 4 (by decide) (by decide), e 5 (by decide) (by decide), e 11 (by decide) (by decide), e 12 (by decide) (by decide), e6, e7, e8, e9, e10, e13]
  refine ⟨h0, h1, h2, h3, h4, by decide, by unfold okM; simp, h7, h8, by omega, fun j hj => ?_⟩
  rw [at_, if_neg (by omega), if_neg (by omega), if_neg (by omega)]
  split
  · omega
  split
  · omega
  split
  · omega
  · exact h10 j (by omega)
def gDab (x y r : Int32) : Prop := (0 ≤ x.toInt ∧ x.toInt ≤ 15) ∧ (0 ≤ y.toInt ∧ y.toInt ≤ 15) ∧ 0 ≤ r.toInt ∧ r.toInt ≤ 8
def rDab (A : zW) (k x y r : Int32) : Int32 := if zin k (cN (aC A)) ∧ (0 ≤ x.toInt ∧ x.toInt ≤ 15) ∧ (0 ≤ y.toInt ∧ y.toInt ≤ 15) ∧ 0 ≤ r.toInt ∧ r.toInt ≤ 8 then (if cL (aC A) k.toNatClampNeg 13 < 6 then iI (cL (aC A) k.toNatClampNeg 13 + 1) else -1003) else -1001
def tDab (A : zW) (k x y r : Int32) : zW := if zin k (cN (aC A)) ∧ (0 ≤ x.toInt ∧ x.toInt ≤ 15) ∧ (0 ≤ y.toInt ∧ y.toInt ≤ 15) ∧ 0 ≤ r.toInt ∧ r.toInt ≤ 8 then (if cL (aC A) k.toNatClampNeg 13 < 6 then aRow A k.toNatClampNeg (lDab (cL (aC A) k.toNatClampNeg) x.toInt y.toInt r.toInt) else A) else A
theorem GA.dab {A : zW} {B : Nat} (hG : GA A B) (k x y r : Int32) : GA (tDab A k x y r) B := by
  unfold tDab
  split
  · next h =>
    split
    · next h6 =>
      have hk := (zin_n h.1).2
      exact hG.row hk ((hG.1.2.2.2.2 _ hk).dab h6 h.2.1 h.2.2.1 h.2.2.2)
    · exact hG
  · exact hG
theorem s_addDab {σ : zS} {p : Nat} {l : Nat → Int} (hp : LyS σ p) (hv : LyV σ p l) (hn : 0 ≤ l 13 ∧ l 13 < 6) (x y r : Int) (d : Nat) : ∃ τ, zEv (d + 1) mX4_addDab [.inr (.inl (some (p + 1))), .inl (iI x), .inl (iI y), .inl (iI r)] σ = some (none, τ) ∧ zFr (inL p) σ τ ∧ LyV τ p (lDabs l x y r) := by
  obtain ⟨n, hn'⟩ : ∃ n : Nat, l 13 = n := ⟨(l 13).toNat, by omega⟩
  have a13 : zi σ 199 (p + 1) = nI n := by rw [i_nI, ← hn']; exact hv.2.1 7 (by decide)
  have e3 : (3 : Int32) * nI n = nI (3 * n) := pk_mul 3 n
  have n18 : Int32.ofNat 18 = nI 18 := rfl
  have P1 : inL p (p + 1) := by unfold inL; omega
  have P2 : inL p (p + 2) := by unfold inL; omega
  refine ⟨zsi (zsa (zsa (zsa σ (p + 2) (3 * n) (iI x)) (p + 2) (3 * n + 1) (iI y)) (p + 2) (3 * n + 2) (iI r)) 199 (p + 1) (nI (n + 1)), ?_, (((zFr.sa _ P2).tr (zFr.sa _ P2)).tr (zFr.sa _ P2)).tr (zFr.si _ P1), fun k hk => ?_, fun k hk => ?_, fun j hj => ?_⟩
  · rw [vX4_addDab]
    unfold fX4_addDab
    rw [show (1 : Int32) = nI 1 from rfl, show (2 : Int32) = nI 2 from rfl]
    simp only [zlt_e, chk_e, onR_s, hp.2.2.1, hp.2.2.2.1, hp.2.2.2.2.1, hp.2.2.2.2.2, if_true, a13, e3, nI_add, n18, zkd_sa, zkd_si, zln_sa, zr_sa, zi_sa, nL 0, n_lt (show 3 * n < 2 ^ 31 by omega) (show 0 < 2 ^ 31 by decide), Nat.not_lt_zero, if_false, n_lt (show 3 * n + 2 < 2 ^ 31 by omega) (show 18 < 2 ^ 31 by decide), show 3 * n + 2 < 18 by omega, show 3 * n + 1 < 18 by omega, show 3 * n < 18 by omega, n_zin (show 3 * n < 2 ^ 31 by omega), n_zin (show 3 * n + 1 < 2 ^ 31 by omega), n_zin (show 3 * n + 2 < 2 ^ 31 by omega), n_tn (show 3 * n < 2 ^ 31 by omega), n_tn (show 3 * n + 1 < 2 ^ 31 by omega), n_tn (show 3 * n + 2 < 2 ^ 31 by omega), and_self]
  · rw [zi_si, if_neg (by omega)]
    unfold lDabs
    rw [upR_ne (by omega), upR_ne (by omega), upR_ne (by omega), upR_ne (by omega)]
    exact hv.1 k hk
  · rw [zi_si]
    unfold lDabs
    by_cases e : k = 7
    · subst e
      rw [if_pos ⟨rfl, rfl⟩, i_nI]
      show _ = iI (upR _ 13 _ 13)
      unfold upR
      rw [if_pos rfl, hn']
      rfl
    · rw [if_neg (by omega), upR_ne (by omega), upR_ne (by omega), upR_ne (by omega), upR_ne (by omega)]
      exact hv.2.1 k hk
  · have e13 : lDabs l x y r 13 = l 13 + 1 := rfl
    rw [e13] at hj
    rw [zai_si, zai_sa, zai_sa, zai_sa]
    have ent : (l 13).toNat = n := by omega
    unfold lDabs
    rw [ent, upR_ne (show 14 + j ≠ 13 by omega)]
    unfold upR
    have old : j < 3 * n → zai σ (p + 2) j = iI (l (14 + j)) := fun h => hv.2.2 j (by omega)
    repeat' split
    all_goals (first | rfl | (exfalso; omega) | exact old (by omega))
/-- the order in which a mask's numbers and its dabs are laid makes no difference -/
theorem lDab_com (l : Nat → Int) (h13 : 0 ≤ l 13) (x y r : Int) : lDabs (lMask l 4 0 0 0 0) x y r = lDab l x y r := by
  funext i
  rw [lDab_at h13]
  have e13 : lMask l 4 0 0 0 0 13 = l 13 := rfl
  unfold lDabs
  rw [e13]
  unfold lMask upR
  generalize (l 13).toNat = n
  by_cases a6 : i = 6
  · subst a6
    rw [if_neg (by omega), if_neg (by omega), if_neg (by omega), if_neg (by omega)]; rfl
  by_cases a7 : i = 7
  · subst a7
    rw [if_neg (by omega), if_neg (by omega), if_neg (by omega), if_neg (by omega)]; rfl
  by_cases a8 : i = 8
  · subst a8
    rw [if_neg (by omega), if_neg (by omega), if_neg (by omega), if_neg (by omega)]; rfl
  by_cases a9 : i = 9
  · subst a9
    rw [if_neg (by omega), if_neg (by omega), if_neg (by omega), if_neg (by omega)]; rfl
  by_cases a10 : i = 10
  · subst a10
    rw [if_neg (by omega), if_neg (by omega), if_neg (by omega), if_neg (by omega)]; rfl
  have : ¬ (7 ≤ i ∧ i ≤ 10) := by omega
  simp only [a6, a7, a8, a9, a10, this, if_false]
theorem c_dab {σ : zS} {o B : Nat} {A : zW} {q u P : Nat → Nat} (hG : GA A B) (hB : B < 2 ^ 30) (hI : CIx σ o A q u P) (k x y r : Int32) (d : Nat) : zOC o (zEv (d + 20) mX10_dab [.inr (.inl (some o)), .inl k, .inl x, .inl y, .inl r] σ) (rDab A k x y r) (tDab A k x y r) σ := by
  have hR := hI.1
  have hO := hR.1
  have hn8 := hG.1.2.2.1
  have key : ∀ r, zOC o (some (some (.inl r), σ)) r A σ := fun r => zOC.same hI r
  have w1 : ∀ v : Int32, ((0 : Int32) ≤ v ∧ v ≤ 15) ↔ 0 ≤ v.toInt ∧ v.toInt ≤ 15 := fun v => w_in (a := 0) (b := 15) (by decide) (by decide) (by decide) (by decide)
  have w2 : ((0 : Int32) ≤ r ∧ r ≤ 8) ↔ 0 ≤ r.toInt ∧ r.toInt ≤ 8 := w_in (a := 0) (b := 8) (by decide) (by decide) (by decide) (by decide)
  rw [vX10_dab]
  unfold fX10_dab rDab tDab
  simp only [zlt_e, onR_s, nul_s, nul_n, chk_e, bnI_s, bnR_s, bnV_s, zi_si, zi_sr, zi_sl, zi_sa, zi_sq, zr_si, zr_sr, zr_sl, zr_sa, zr_sq, zl_si, zl_sr, zl_sl, zl_sa, zl_sq, zai_si, zai_sr, zai_sl, zai_sa, zai_sq, zar_si, zar_sr, zar_sl, zar_sa, zar_sq, zkd_si, zkd_sr, zkd_sl, zkd_sa, zkd_sq, zln_si, zln_sr, zln_sl, zln_sa, zln_sq, znx_si, znx_sr, znx_sl, znx_sa, znx_sq, hO.f.1, hO.f.2.1, hO.c.1, if_true]
  by_cases hx : zin k (cN (aC A))
  · obtain ⟨ex, hk⟩ := zin_n hx
    generalize k.toNatClampNeg = j at *
    subst ex
    have hqk := (hR.2.1.1 j (by omega)).2
    have hls := hO.c.2.2.2.2.2.2 (q j) hqk
    have hg := hG.1.2.2.2.2 j hk
    have h13 := hg.2.2.2.2.2.2.2.2.2.1
    have a13 : zi σ 199 (o + 1 + 4 + 3 * q j + 1) = iI (cL (aC A) j 13) := (hR.2.2.1.2.2 j hk).2.1 7 (by decide)
    have e6 : (iI (cL (aC A) j 13) < 6) ↔ cL (aC A) j 13 < 6 := i_lt (b := 6) (by omega) (by omega) (by decide) (by decide)
    simp only [zlt_e, onR_s, nul_s, nul_n, chk_e, bnI_s, bnR_s, bnV_s, zi_si, zi_sr, zi_sl, zi_sa, zi_sq, zr_si, zr_sr, zr_sl, zr_sa, zr_sq, zl_si, zl_sr, zl_sl, zl_sa, zl_sq, zai_si, zai_sr, zai_sl, zai_sa, zai_sq, zar_si, zar_sr, zar_sl, zar_sa, zar_sq, zkd_si, zkd_sr, zkd_sl, zkd_sa, zkd_sq, zln_si, zln_sr, zln_sl, zln_sa, zln_sq, znx_si, znx_sr, znx_sl, znx_sa, znx_sq, s_layerAt hO.c hR.2.1 hR.2.2.1.2.1 hn8 hk, s_within, w1, w2, zb_0, hls.1, hls.2.1, hls.2.2.1, if_true, a13, e6, hO.f.1]
    by_cases h1 : 0 ≤ x.toInt ∧ x.toInt ≤ 15
    · rw [if_neg (fun q => q h1)]
      by_cases h2 : 0 ≤ y.toInt ∧ y.toInt ≤ 15
      · rw [if_neg (fun q => q h2)]
        by_cases h3 : 0 ≤ r.toInt ∧ r.toInt ≤ 8
        · have hc : zin (nI j) (cN (aC A)) ∧ (0 ≤ x.toInt ∧ x.toInt ≤ 15) ∧ (0 ≤ y.toInt ∧ y.toInt ≤ 15) ∧ 0 ≤ r.toInt ∧ r.toInt ≤ 8 := ⟨hx, h1, h2, h3⟩
          rw [if_neg (fun q => q h3), if_pos hc, if_pos hc]
          by_cases h6 : cL (aC A) j 13 < 6
          · rw [if_pos h6, if_pos h6, if_pos h6]
            obtain ⟨τ, u', k1, k2, k3⟩ := s_startChange hG hB hI (show j ≤ 8 by omega) (d + 12)
            have hls' := k3.1.1.c.2.2.2.2.2.2 (q j) hqk
            have hlv := k3.1.2.2.1.2.2 j hk
            have P1 : inL (o + 1 + 4 + 3 * q j) (o + 1 + 4 + 3 * q j + 1) := by unfold inL; omega
            have g1 : zFr (inL (o + 1 + 4 + 3 * q j)) τ (zsi (zsi (zsi (zsi (zsi τ 192 (o + 1 + 4 + 3 * q j + 1) 4) 193 (o + 1 + 4 + 3 * q j + 1) 0) 194 (o + 1 + 4 + 3 * q j + 1) 0) 195 (o + 1 + 4 + 3 * q j + 1) 0) 196 (o + 1 + 4 + 3 * q j + 1) 0) := ((((zFr.si _ P1).tr (zFr.si _ P1)).tr (zFr.si _ P1)).tr (zFr.si _ P1)).tr (zFr.si _ P1)
            have hl2 : LyV (zsi (zsi (zsi (zsi (zsi τ 192 (o + 1 + 4 + 3 * q j + 1) 4) 193 (o + 1 + 4 + 3 * q j + 1) 0) 194 (o + 1 + 4 + 3 * q j + 1) 0) 195 (o + 1 + 4 + 3 * q j + 1) 0) 196 (o + 1 + 4 + 3 * q j + 1) 0) (o + 1 + 4 + 3 * q j) (lMask (cL (aC A) j) 4 0 0 0 0) := ((((hlv.sm (j := 0) (by decide) 4).sm (j := 1) (by decide) 0).sm (j := 2) (by decide) 0).sm (j := 3) (by decide) 0).sm (j := 4) (by decide) 0
            simp only [zlt_e, onR_s, nul_s, nul_n, chk_e, bnI_s, bnR_s, bnV_s, zi_si, zi_sr, zi_sl, zi_sa, zi_sq, zr_si, zr_sr, zr_sl, zr_sa, zr_sq, zl_si, zl_sr, zl_sl, zl_sa, zl_sq, zai_si, zai_sr, zai_sl, zai_sa, zai_sq, zar_si, zar_sr, zar_sl, zar_sa, zar_sq, zkd_si, zkd_sr, zkd_sl, zkd_sa, zkd_sq, zln_si, zln_sr, zln_sl, zln_sa, zln_sq, znx_si, znx_sr, znx_sl, znx_sa, znx_sq, k1, hls'.1, hls'.2.1, hls'.2.2.1, if_true, s_define hls']
            have hO2 : zFr (fun a => o ≤ a ∧ a < o + 257) σ τ := k2.mono (fun a ha => by unfold inHU inH inU at ha; omega)
            have hlst := hls'
            generalize zsi (zsi (zsi (zsi (zsi τ 192 (o + 1 + 4 + 3 * q j + 1) 4) 193 (o + 1 + 4 + 3 * q j + 1) 0) 194 (o + 1 + 4 + 3 * q j + 1) 0) 195 (o + 1 + 4 + 3 * q j + 1) 0) 196 (o + 1 + 4 + 3 * q j + 1) 0 = τ2 at *
            have hls2 := hls'.fr g1
            obtain ⟨υ, l1, l2, l3⟩ := s_addDab hls2 hl2 ⟨h13.1, h6⟩ x.toInt y.toInt r.toInt (d + 18)
            rw [← i_of x, ← i_of y, ← i_of r] at l1
            rw [lDab_com _ h13.1] at l3
            have hls3 := hls2.fr l2
            have g2 := g1.tr l2
            have n13 : zi υ 199 (o + 1 + 4 + 3 * q j + 1) = iI (cL (aC A) j 13 + 1) := by
              have : zi υ 199 (o + 1 + 4 + 3 * q j + 1) = iI (lDab (cL (aC A) j) x.toInt y.toInt r.toInt 13) := l3.2.1 7 (by decide)
              rw [this, lDab_at h13.1]
              rfl
            simp only [onR_s, bnV_s, hls2.1, hls2.2.1, hls2.2.2.1, if_true, l1, hls3.1, hls3.2.1, hls3.2.2.1, n13]
            exact ⟨υ, q, u', P, rfl, k3.row hG hk g2 l3, hO2.tr (g2.mono (fun a ha => by unfold inL at ha; omega))⟩
          · rw [if_neg h6, if_neg h6, if_neg h6]
            exact key _
        · rw [if_pos h3, if_neg (fun q => h3 q.2.2.2), if_neg (fun q => h3 q.2.2.2)]
          exact key _
      · rw [if_pos h2, if_neg (fun q => h2 q.2.2.1), if_neg (fun q => h2 q.2.2.1)]
        exact key _
    · rw [if_pos h1, if_neg (fun q => h1 q.2.1), if_neg (fun q => h1 q.2.1)]
      exact key _
  · rw [if_neg (fun q => hx q.1), if_neg (fun q => hx q.1)]
    simp only [zlt_e, onR_s, nul_s, nul_n, chk_e, bnI_s, bnR_s, bnV_s, zi_si, zi_sr, zi_sl, zi_sa, zi_sq, zr_si, zr_sr, zr_sl, zr_sa, zr_sq, zl_si, zl_sr, zl_sl, zl_sa, zl_sq, zai_si, zai_sr, zai_sl, zai_sa, zai_sq, zar_si, zar_sr, zar_sl, zar_sa, zar_sq, zkd_si, zkd_sr, zkd_sl, zkd_sa, zkd_sq, zln_si, zln_sr, zln_sl, zln_sa, zln_sq, znx_si, znx_sr, znx_sl, znx_sa, znx_sq, s_layerNo hO.c hR.2.2.1.2.1 hn8 hx]
    exact key _
