/-! setMask, dab -/
def lMask (l : Nat → Int) (k c d e f : Int) : Nat → Int := upR (upR (upR (upR (upR l 6 k) 7 c) 8 d) 9 e) 10 f
def gMask (k c d e f : Int) : Prop := (0 ≤ k ∧ k ≤ 4) ∧ okM k c d e f
def bMask (k c d e f : Int) : Bool := decide (0 ≤ k ∧ k ≤ 4) && (if k = 1 then decide ((0 ≤ c ∧ c ≤ 15) ∧ (c ≤ e ∧ e ≤ 15) ∧ (0 ≤ d ∧ d ≤ 15) ∧ d ≤ f ∧ f ≤ 15) else if k = 2 then decide ((0 ≤ c ∧ c ≤ 14) ∧ (c + 1 ≤ e ∧ e ≤ 15) ∧ d = 0 ∧ f = 0) else decide (c = 0 ∧ d = 0 ∧ e = 0 ∧ f = 0))
theorem bMask_iff (k c d e f : Int) : bMask k c d e f = true ↔ gMask k c d e f := by
  unfold bMask gMask okM
  by_cases h1 : k = 1
  · simp only [h1, if_true, Bool.and_eq_true, decide_eq_true_eq]
  · by_cases h2 : k = 2
    · simp only [h1, h2, if_true, if_false, Bool.and_eq_true, decide_eq_true_eq]
      simp
    · simp only [h1, h2, if_false, Bool.and_eq_true, decide_eq_true_eq]
theorem ch4 {α : Type} (a b c d : Prop) [Decidable (¬ a)] [Decidable (¬ b)] [Decidable (¬ c)] [Decidable (¬ d)] [Decidable (a ∧ b ∧ c ∧ d)] (r0 r1 : α) : (if ¬ a then r0 else if ¬ b then r0 else if ¬ c then r0 else if ¬ d then r0 else r1) = if a ∧ b ∧ c ∧ d then r1 else r0 := by
  by_cases h1 : a <;> by_cases h2 : b <;> by_cases h3 : c <;> by_cases h4 : d <;> simp [h1, h2, h3, h4]
theorem ch4b {α : Type} (a b c d : Prop) [Decidable (¬ a)] [Decidable (¬ b)] [Decidable c] [Decidable d] [Decidable (a ∧ b ∧ c ∧ d)] (r0 r1 : α) : (if ¬ a then r0 else if ¬ b then r0 else if c then if d then r1 else r0 else r0) = if a ∧ b ∧ c ∧ d then r1 else r0 := by
  by_cases h1 : a <;> by_cases h2 : b <;> by_cases h3 : c <;> by_cases h4 : d <;> simp [h1, h2, h3, h4]
theorem ch4c {α : Type} (a b c d : Prop) [Decidable a] [Decidable b] [Decidable c] [Decidable d] [Decidable (a ∧ b ∧ c ∧ d)] (r0 r1 : α) : (if a then if b then if c then if d then r1 else r0 else r0 else r0 else r0) = if a ∧ b ∧ c ∧ d then r1 else r0 := by
  by_cases h1 : a <;> by_cases h2 : b <;> by_cases h3 : c <;> by_cases h4 : d <;> simp [h1, h2, h3, h4]
theorem zb_ite {c : Prop} [Decidable c] (σ : zS) : (if c then (some (some (.inl 1), σ) : zO) else some (some (.inl 0), σ)) = some (some (.inl (zb c)), σ) := by
  by_cases h : c
  · rw [if_pos h, zb_t h]
  · rw [if_neg h, zb_f h]
theorem zb_cg {c c' : Prop} [Decidable c] [Decidable c'] (h : c ↔ c') : zb c = zb c' := by
  by_cases q : c
  · rw [zb_t q, zb_t (h.mp q)]
  · rw [zb_f q, zb_f (fun r => q (h.mpr r))]
theorem upR_ne {l : Nat → Int} {j i : Nat} {v : Int} (h : i ≠ j) : upR l j v i = l i := if_neg h
theorem GL.mask {l : Nat → Int} (h : GL l) {k c d e f : Int} (hm : gMask k c d e f) : GL (lMask l k c d e f) := by
  obtain ⟨h0, h1, h2, h3, h4, h5, h6, h7, h8, h9, h10⟩ := h
  refine ⟨h0, h1, h2, h3, h4, hm.1, hm.2, h7, h8, h9, fun j hj => ?_⟩
  have hj : (j : Int) < 3 * l 13 := hj
  have e : lMask l k c d e f (14 + j) = l (14 + j) := by unfold lMask; rw [upR_ne (by omega), upR_ne (by omega), upR_ne (by omega), upR_ne (by omega), upR_ne (by omega)]
  rw [e]
  exact h10 j hj
/-- what the class and the reference say of a mask -/
theorem ok_eqs (k c d e f : Int32) : (okM k.toInt c.toInt d.toInt e.toInt f.toInt) ↔ if k = 1 then ((0 : Int32) ≤ c ∧ c ≤ 15) ∧ (c ≤ e ∧ e ≤ 15) ∧ ((0 : Int32) ≤ d ∧ d ≤ 15) ∧ d ≤ f ∧ f ≤ 15 else if k = 2 then ((0 : Int32) ≤ c ∧ c ≤ 14) ∧ (c + 1 ≤ e ∧ e ≤ 15) ∧ d = 0 ∧ f = 0 else c = 0 ∧ d = 0 ∧ e = 0 ∧ f = 0 := by
  have eq : ∀ (x : Int32) (n : Int), -2147483648 ≤ n → n < 2147483648 → (x = iI n ↔ x.toInt = n) := fun x n h1 h2 => by
    rw [← Int32.toInt_inj, i_toInt h1 h2]
  have k1 : k = 1 ↔ k.toInt = 1 := eq k 1 (by decide) (by decide)
  have k2 : k = 2 ↔ k.toInt = 2 := eq k 2 (by decide) (by decide)
  have z0 : ∀ x : Int32, x = 0 ↔ x.toInt = 0 := fun x => eq x 0 (by decide) (by decide)
  have t0 : Int32.toInt 0 = 0 := rfl
  have t14 : Int32.toInt 14 = 14 := rfl
  have t15 : Int32.toInt 15 = 15 := rfl
  simp only [k1, k2, z0, Int32.le_iff_toInt_le, t0, t14, t15]
  unfold okM
  by_cases h1 : k.toInt = 1
  · rw [if_pos h1, if_pos h1]
  · rw [if_neg h1, if_neg h1]
    by_cases h2 : k.toInt = 2
    · rw [if_pos h2, if_pos h2]
      by_cases h3 : 0 ≤ c.toInt ∧ c.toInt ≤ 14
      · have e1 : (c + 1).toInt = c.toInt + 1 := by
          have : c + 1 = iI (c.toInt + 1) := by rw [← i_add, ← i_of c]; rfl
          rw [this, i_toInt (by omega) (by omega)]
        rw [e1]
      · simp only [h3, false_and]
    · rw [if_neg h2, if_neg h2]
theorem s_allows (k c e f g : Int32) (d : Nat) (σ : zS) : zEv (d + 2) mX4_allows [.inl k, .inl c, .inl e, .inl f, .inl g] σ = some (some (.inl (zb (bMask k.toInt c.toInt e.toInt f.toInt g.toInt = true))), σ) := by
  have b1 : zB 1 = True := eq_true (Or.inr rfl)
  have b0 : zB 0 = True := eq_true (Or.inl rfl)
  have eqs := ok_eqs k c e f g
  have bm := bMask_iff k.toInt c.toInt e.toInt f.toInt g.toInt
  have eqk : ∀ (n : Int), -2147483648 ≤ n → n < 2147483648 → (k = iI n ↔ k.toInt = n) := fun n h1 h2 => by
    rw [← Int32.toInt_inj, i_toInt h1 h2]
  have i0 : k = 0 ↔ k.toInt = 0 := eqk 0 (by decide) (by decide)
  have i1 : k = 1 ↔ k.toInt = 1 := eqk 1 (by decide) (by decide)
  have i2 : k = 2 ↔ k.toInt = 2 := eqk 2 (by decide) (by decide)
  have i3 : k = 3 ↔ k.toInt = 3 := eqk 3 (by decide) (by decide)
  have i4 : k = 4 ↔ k.toInt = 4 := eqk 4 (by decide) (by decide)
  rw [vX4_allows]
  unfold fX4_allows
  simp only [s_within, bnI_s, zb_0, chk_e, b1, b0, if_true, ch4, ch4b, ch4c]
  by_cases h0 : k = 0
  · rw [if_pos h0]
    rw [zb_ite]
    refine congrArg (fun z => (some (some (.inl z), σ) : zO)) (zb_cg ?_)
    rw [bm, gMask, eqs, if_neg (show ¬ k = 1 by rw [h0]; decide), if_neg (show ¬ k = 2 by rw [h0]; decide)]
    have := i0.mp h0
    exact ⟨fun q => ⟨by omega, q⟩, fun q => q.2⟩
  rw [if_neg h0]
  by_cases h1 : k = 1
  · rw [if_pos h1]
    rw [zb_ite]
    refine congrArg (fun z => (some (some (.inl z), σ) : zO)) (zb_cg ?_)
    rw [bm, gMask, eqs, if_pos h1]
    have := i1.mp h1
    exact ⟨fun q => ⟨by omega, q⟩, fun q => q.2⟩
  rw [if_neg h1]
  by_cases h2 : k = 2
  · rw [if_pos h2]
    rw [zb_ite]
    refine congrArg (fun z => (some (some (.inl z), σ) : zO)) (zb_cg ?_)
    rw [bm, gMask, eqs, if_neg h1, if_pos h2]
    have := i2.mp h2
    exact ⟨fun q => ⟨by omega, q⟩, fun q => q.2⟩
  rw [if_neg h2]
  by_cases h3 : k = 3
  · rw [if_pos h3]
    rw [zb_ite]
    refine congrArg (fun z => (some (some (.inl z), σ) : zO)) (zb_cg ?_)
    rw [bm, gMask, eqs, if_neg h1, if_neg h2]
    have := i3.mp h3
    exact ⟨fun q => ⟨by omega, q⟩, fun q => q.2⟩
  rw [if_neg h3]
  by_cases h4 : k = 4
  · rw [if_pos h4]
    rw [zb_ite]
    refine congrArg (fun z => (some (some (.inl z), σ) : zO)) (zb_cg ?_)
    rw [bm, gMask, eqs, if_neg h1, if_neg h2]
    have := i4.mp h4
    exact ⟨fun q => ⟨by omega, q⟩, fun q => q.2⟩
  rw [if_neg h4, zb_f]
  rw [bm, gMask]
  rintro ⟨q, -⟩
  rcases (by omega : k.toInt = 0 ∨ k.toInt = 1 ∨ k.toInt = 2 ∨ k.toInt = 3 ∨ k.toInt = 4) with e | e | e | e | e
  · exact h0 (i0.mpr e)
  · exact h1 (i1.mpr e)
  · exact h2 (i2.mpr e)
  · exact h3 (i3.mpr e)
  · exact h4 (i4.mpr e)
def rMask (A : zW) (x k c d e f : Int32) : Int32 := if zin x (cN (aC A)) ∧ bMask k.toInt c.toInt d.toInt e.toInt f.toInt = true then iI (cL (aC A) x.toNatClampNeg 6) else -1001
def tMask (A : zW) (x k c d e f : Int32) : zW := if zin x (cN (aC A)) ∧ bMask k.toInt c.toInt d.toInt e.toInt f.toInt = true then aRow A x.toNatClampNeg (lMask (cL (aC A) x.toNatClampNeg) k.toInt c.toInt d.toInt e.toInt f.toInt) else A
theorem GA.mask {A : zW} {B : Nat} (hG : GA A B) (x k c d e f : Int32) : GA (tMask A x k c d e f) B := by
  unfold tMask
  split
  · next h =>
    have hk := (zin_n h.1).2
    exact hG.row hk ((hG.1.2.2.2.2 _ hk).mask ((bMask_iff _ _ _ _ _).mp h.2))
  · exact hG
theorem c_setMask {σ : zS} {o B : Nat} {A : zW} {q u P : Nat → Nat} (hG : GA A B) (hB : B < 2 ^ 30) (hI : CIx σ o A q u P) (x k c e f g : Int32) (d : Nat) : zOC o (zEv (d + 20) mX10_setMask [.inr (.inl (some o)), .inl x, .inl k, .inl c, .inl e, .inl f, .inl g] σ) (rMask A x k c e f g) (tMask A x k c e f g) σ := by
  have hR := hI.1
  have hO := hR.1
  have hn8 := hG.1.2.2.1
  have key : ∀ r, zOC o (some (some (.inl r), σ)) r A σ := fun r => zOC.same hI r
  rw [vX10_setMask]
  unfold fX10_setMask rMask tMask
  simp only [zlt_e, onR_s, nul_s, nul_n, chk_e, bnI_s, bnR_s, bnV_s, zi_si, zi_sr, zi_sl, zi_sa, zi_sq, zr_si, zr_sr, zr_sl, zr_sa, zr_sq, zl_si, zl_sr, zl_sl, zl_sa, zl_sq, zai_si, zai_sr, zai_sl, zai_sa, zai_sq, zar_si, zar_sr, zar_sl, zar_sa, zar_sq, zkd_si, zkd_sr, zkd_sl, zkd_sa, zkd_sq, zln_si, zln_sr, zln_sl, zln_sa, zln_sq, znx_si, znx_sr, znx_sl, znx_sa, znx_sq, hO.f.1, hO.f.2.1, hO.c.1, if_true]
  by_cases hx : zin x (cN (aC A))
  · obtain ⟨ex, hk⟩ := zin_n hx
    generalize x.toNatClampNeg = j at *
    subst ex
    have hqk := (hR.2.1.1 j (by omega)).2
    have hls := hO.c.2.2.2.2.2.2 (q j) hqk
    have a6 : zi σ 192 (o + 1 + 4 + 3 * q j + 1) = iI (cL (aC A) j 6) := (hR.2.2.1.2.2 j hk).2.1 0 (by decide)
    simp only [zlt_e, onR_s, nul_s, nul_n, chk_e, bnI_s, bnR_s, bnV_s, zi_si, zi_sr, zi_sl, zi_sa, zi_sq, zr_si, zr_sr, zr_sl, zr_sa, zr_sq, zl_si, zl_sr, zl_sl, zl_sa, zl_sq, zai_si, zai_sr, zai_sl, zai_sa, zai_sq, zar_si, zar_sr, zar_sl, zar_sa, zar_sq, zkd_si, zkd_sr, zkd_sl, zkd_sa, zkd_sq, zln_si, zln_sr, zln_sl, zln_sa, zln_sq, znx_si, znx_sr, znx_sl, znx_sa, znx_sq, s_layerAt hO.c hR.2.1 hR.2.2.1.2.1 hn8 hk, s_allows, zb_0]
    by_cases hm : bMask k.toInt c.toInt e.toInt f.toInt g.toInt = true
    · have hc : zin (nI j) (cN (aC A)) ∧ bMask k.toInt c.toInt e.toInt f.toInt g.toInt = true := ⟨hx, hm⟩
      rw [if_neg (fun q => q hm), if_pos hc, if_pos hc]
      obtain ⟨τ, u', k1, k2, k3⟩ := s_startChange hG hB hI (show j ≤ 8 by omega) (d + 12)
      have hls' := k3.1.1.c.2.2.2.2.2.2 (q j) hqk
      have hlv := k3.1.2.2.1.2.2 j hk
      simp only [zlt_e, onR_s, nul_s, nul_n, chk_e, bnI_s, bnR_s, bnV_s, zi_si, zi_sr, zi_sl, zi_sa, zi_sq, zr_si, zr_sr, zr_sl, zr_sa, zr_sq, zl_si, zl_sr, zl_sl, zl_sa, zl_sq, zai_si, zai_sr, zai_sl, zai_sa, zai_sq, zar_si, zar_sr, zar_sl, zar_sa, zar_sq, zkd_si, zkd_sr, zkd_sl, zkd_sa, zkd_sq, zln_si, zln_sr, zln_sl, zln_sa, zln_sq, znx_si, znx_sr, znx_sl, znx_sa, znx_sq, hls.1, hls.2.1, hls.2.2.1, if_true, a6, hO.f.1, k1, hls'.1, hls'.2.1, hls'.2.2.1, s_define hls']
      have P1 : inL (o + 1 + 4 + 3 * q j) (o + 1 + 4 + 3 * q j + 1) := by unfold inL; omega
      have g1 : zFr (inL (o + 1 + 4 + 3 * q j)) τ (zsi (zsi (zsi (zsi (zsi τ 192 (o + 1 + 4 + 3 * q j + 1) k) 193 (o + 1 + 4 + 3 * q j + 1) c) 194 (o + 1 + 4 + 3 * q j + 1) e) 195 (o + 1 + 4 + 3 * q j + 1) f) 196 (o + 1 + 4 + 3 * q j + 1) g) := ((((zFr.si _ P1).tr (zFr.si _ P1)).tr (zFr.si _ P1)).tr (zFr.si _ P1)).tr (zFr.si _ P1)
      have hl2 := ((((hlv.sm (j := 0) (by decide) k.toInt).sm (j := 1) (by decide) c.toInt).sm (j := 2) (by decide) e.toInt).sm (j := 3) (by decide) f.toInt).sm (j := 4) (by decide) g.toInt
      rw [← i_of k, ← i_of c, ← i_of e, ← i_of f, ← i_of g] at hl2
      exact ⟨_, q, u', P, rfl, k3.row hG hk g1 hl2, (k2.mono (fun a ha => by unfold inHU inH inU at ha; omega)).tr (g1.mono (fun a ha => by unfold inL at ha; omega))⟩
    · rw [if_pos hm, if_neg (fun q => hm q.2), if_neg (fun q => hm q.2)]
      exact key _
  · rw [if_neg (fun q => hx q.1), if_neg (fun q => hx q.1)]
    simp only [zlt_e, onR_s, nul_s, nul_n, chk_e, bnI_s, bnR_s, bnV_s, zi_si, zi_sr, zi_sl, zi_sa, zi_sq, zr_si, zr_sr, zr_sl, zr_sa, zr_sq, zl_si, zl_sr, zl_sl, zl_sa, zl_sq, zai_si, zai_sr, zai_sl, zai_sa, zai_sq, zar_si, zar_sr, zar_sl, zar_sa, zar_sq, zkd_si, zkd_sr, zkd_sl, zkd_sa, zkd_sq, zln_si, zln_sr, zln_sl, zln_sa, zln_sq, znx_si, znx_sr, znx_sl, znx_sa, znx_sq, s_layerNo hO.c hR.2.2.1.2.1 hn8 hx]
    exact key _
theorem ix_w {k j n : Nat} (hk : k < 8) (hj : j < 32) (e : n = 259 + 32 * k + j) : (zin (nI n) 515 = True) ∧ (nI n).toNatClampNeg = 259 + 32 * k + j := by
  subst e
  exact ⟨eq_true ((n_zin (by omega)).mpr (by omega)), n_tn (by omega)⟩
