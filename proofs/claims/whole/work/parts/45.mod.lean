/-! the reference: its rows, one behind another -/
def MA (σ : zS) (m f j k n : Nat) : Prop := zr σ f m = some (m + j) ∧ zkd σ (m + j) = k ∧ zln σ (m + j) = n
def MS (σ : zS) (m : Nat) : Prop := zkd σ m = 9 ∧ MA σ m 577 1 11 515 ∧ MA σ m 578 2 11 3090 ∧ MA σ m 580 3 11 1030 ∧ MA σ m 581 4 12 2 ∧ MA σ m 582 5 11 160 ∧ MA σ m 586 6 11 512 ∧ MA σ m 588 7 11 3 ∧ MA σ m 589 8 11 9 ∧ MA σ m 590 9 11 9 ∧ MA σ m 591 10 11 9 ∧ MA σ m 592 11 11 9 ∧ MA σ m 593 12 11 9 ∧ MA σ m 594 13 11 9 ∧ MA σ m 595 14 11 9 ∧ MA σ m 596 15 11 9 ∧ MA σ m 597 16 12 9 ∧ MA σ m 599 17 11 2304 ∧ MA σ m 600 18 11 49 ∧ MA σ m 609 19 11 256 ∧ MA σ m 614 20 11 256 ∧ MA σ m 615 21 11 515
theorem MA.fr {P : Nat → Prop} {σ τ : zS} {m f j k n : Nat} (h : MA σ m f j k n) (g : zFr P σ τ) : MA τ m f j k n := by
  unfold MA
  rw [g.r, g.kd, g.ln]
  exact h
theorem MS.fr {P : Nat → Prop} {σ τ : zS} {m : Nat} (h : MS σ m) (g : zFr P σ τ) : MS τ m := by
  unfold MS MA at *
  rw [g.r, g.kd, g.ln]
  exact h
theorem MS.k {σ : zS} {m : Nat} (h : MS σ m) : zkd σ m = 9 := h.1
theorem MS.s {σ : zS} {m : Nat} (h : MS σ m) : MA σ m 577 1 11 515 := h.2.1
theorem MS.sv {σ : zS} {m : Nat} (h : MS σ m) : MA σ m 578 2 11 3090 := h.2.2.1
theorem MS.sl {σ : zS} {m : Nat} (h : MS σ m) : MA σ m 580 3 11 1030 := h.2.2.2.1
theorem MS.fi {σ : zS} {m : Nat} (h : MS σ m) : MA σ m 581 4 12 2 := h.2.2.2.2.1
theorem MS.tx {σ : zS} {m : Nat} (h : MS σ m) : MA σ m 582 5 11 160 := h.2.2.2.2.2.1
theorem MS.u {σ : zS} {m : Nat} (h : MS σ m) : MA σ m 586 6 11 512 := h.2.2.2.2.2.2.1
theorem MS.ct {σ : zS} {m : Nat} (h : MS σ m) : MA σ m 588 7 11 3 := h.2.2.2.2.2.2.2.1
theorem MS.fl {σ : zS} {m : Nat} (h : MS σ m) : MA σ m 589 8 11 9 := h.2.2.2.2.2.2.2.2.1
theorem MS.ft {σ : zS} {m : Nat} (h : MS σ m) : MA σ m 590 9 11 9 := h.2.2.2.2.2.2.2.2.2.1
theorem MS.be {σ : zS} {m : Nat} (h : MS σ m) : MA σ m 591 10 11 9 := h.2.2.2.2.2.2.2.2.2.2.1
theorem MS.fc {σ : zS} {m : Nat} (h : MS σ m) : MA σ m 592 11 11 9 := h.2.2.2.2.2.2.2.2.2.2.2.1
theorem MS.lc {σ : zS} {m : Nat} (h : MS σ m) : MA σ m 593 12 11 9 := h.2.2.2.2.2.2.2.2.2.2.2.2.1
theorem MS.lr {σ : zS} {m : Nat} (h : MS σ m) : MA σ m 594 13 11 9 := h.2.2.2.2.2.2.2.2.2.2.2.2.2.1
theorem MS.nc {σ : zS} {m : Nat} (h : MS σ m) : MA σ m 595 14 11 9 := h.2.2.2.2.2.2.2.2.2.2.2.2.2.2.1
theorem MS.nr {σ : zS} {m : Nat} (h : MS σ m) : MA σ m 596 15 11 9 := h.2.2.2.2.2.2.2.2.2.2.2.2.2.2.2.1
theorem MS.ib {σ : zS} {m : Nat} (h : MS σ m) : MA σ m 597 16 12 9 := h.2.2.2.2.2.2.2.2.2.2.2.2.2.2.2.2.1
theorem MS.o {σ : zS} {m : Nat} (h : MS σ m) : MA σ m 599 17 11 2304 := h.2.2.2.2.2.2.2.2.2.2.2.2.2.2.2.2.2.1
theorem MS.so {σ : zS} {m : Nat} (h : MS σ m) : MA σ m 600 18 11 49 := h.2.2.2.2.2.2.2.2.2.2.2.2.2.2.2.2.2.2.1
theorem MS.dr {σ : zS} {m : Nat} (h : MS σ m) : MA σ m 609 19 11 256 := h.2.2.2.2.2.2.2.2.2.2.2.2.2.2.2.2.2.2.2.1
theorem MS.bs {σ : zS} {m : Nat} (h : MS σ m) : MA σ m 614 20 11 256 := h.2.2.2.2.2.2.2.2.2.2.2.2.2.2.2.2.2.2.2.2.1
theorem MS.as {σ : zS} {m : Nat} (h : MS σ m) : MA σ m 615 21 11 515 := h.2.2.2.2.2.2.2.2.2.2.2.2.2.2.2.2.2.2.2.2.2
/-- a composition in a row of 515 ints, from b on -/
def MV (σ : zS) (a b : Nat) (C : zC) : Prop := zai σ a b = nI (cW C) ∧ zai σ a (b + 1) = nI (cH C) ∧ (∀ x y, x < cW C → y < cH C → zai σ a (b + 2 + (y * cW C + x)) = iI (cP C x y)) ∧ zai σ a (b + 258) = nI (cN C) ∧ ∀ i, i < cN C → ∀ j, j < 32 → zai σ a (b + 259 + 32 * i + j) = iI (cL C i j)
theorem MV.fr {P : Nat → Prop} {σ τ : zS} {a b : Nat} {C : zC} (h : MV σ a b C) (g : zFr P σ τ) (hn : ¬ P a) : MV τ a b C := by
  unfold MV
  rw [g.ai hn, g.ai hn, g.ai hn]
  exact ⟨h.1, h.2.1, fun x y hx hy => by rw [g.ai hn]; exact h.2.2.1 x y hx hy, h.2.2.2.1, fun i hi j hj => by rw [g.ai hn]; exact h.2.2.2.2 i hi j hj⟩
theorem s_in (d : Nat) (v lo hi : Int32) (σ : zS) : zEv (d + 1) mX11_in [.inl v, .inl lo, .inl hi] σ = some (some (.inl (zb (lo ≤ v ∧ v ≤ hi))), σ) := by
  rw [vX11_in]; unfold fX11_in
  by_cases h1 : v < lo
  · simp [h1, chk_e, zB, zb, Int32.not_le.mpr h1]
  · have h1' := Int32.not_lt.mp h1
    by_cases h2 : v ≤ hi
    · simp [h1, h1', h2, chk_e, zB, zb]
    · simp [h1, h1', h2, chk_e, zB, zb]
theorem s_floor {a b : Int} (d : Nat) (σ : zS) (ha1 : -1000000000 < a) (ha2 : a < 1000000000) (hb1 : 0 < b) (hb2 : b < 1000000) : zEv (d + 1) mX11_floor [.inl (iI a), .inl (iI b)] σ = some (some (.inl (iI (a / b))), σ) := by
  rw [vX11_floor]; unfold fX11_floor
  have z1 : (iI a < iI 0) ↔ a < 0 := i_lt (by omega) (by omega) (by omega) (by omega)
  have z2 : (iI b = iI 0) ↔ b = 0 := i_eq (by omega) (by omega) (by omega) (by omega)
  rw [show (0 : Int32) = iI 0 from rfl, show (1 : Int32) = iI 1 from rfl]
  simp only [z1, z2]
  by_cases h : a < 0
  · rw [if_pos h, if_neg (by omega), i_sub, i_sub, i_div (by omega) (by omega) (by omega) (by omega), i_neg, Int.tdiv_eq_ediv_of_nonneg (by omega)]
    have : -((b - 1 - a) / b) = a / b := by
      have h1 := Int.mul_ediv_add_emod a b
      have h2 := Int.emod_nonneg a (show b ≠ 0 by omega)
      have h3 := Int.emod_lt_of_pos a hb1
      have e : b - 1 - a = (b - 1 - a % b) + b * (-(a / b)) := by rw [Int.mul_neg]; omega
      have e3 : (b - 1 - a % b) / b = 0 := Int.ediv_eq_zero_of_lt (by omega) (by omega)
      rw [e, Int.add_mul_ediv_left _ _ (by omega), e3]
      omega
    rw [this]
  · rw [if_neg h, if_neg (by omega), i_div (by omega) (by omega) (by omega) (by omega), Int.tdiv_eq_ediv_of_nonneg (by omega)]
theorem s_clamp {a : Int} (d : Nat) (σ : zS) (ha1 : -2147483648 ≤ a) (ha2 : a < 2147483648) : zEv (d + 1) mX11_clamp [.inl (iI a)] σ = some (some (.inl (iI (clI a))), σ) := by
  rw [vX11_clamp]; unfold fX11_clamp clI
  have z1 : (iI a < iI 0) ↔ a < 0 := i_lt (by omega) (by omega) (by omega) (by omega)
  have z2 : (iI a ≤ iI 255) ↔ a ≤ 255 := i_le (by omega) (by omega) (by omega) (by omega)
  rw [show (0 : Int32) = iI 0 from rfl, show (255 : Int32) = iI 255 from rfl]
  simp only [z1, z2]
  by_cases h : a < 0
  · rw [if_pos h, show max 0 (min a 255) = 0 by omega]
  · rw [if_neg h]
    by_cases h2 : a ≤ 255
    · rw [if_pos h2, show max 0 (min a 255) = a by omega]
    · rw [if_neg h2, show max 0 (min a 255) = 255 by omega]
theorem s_mabs {a : Int} (d : Nat) (σ : zS) (ha1 : -2147483648 ≤ a) (ha2 : a < 2147483648) : zEv (d + 1) mX11_abs [.inl (iI a)] σ = some (some (.inl (iI (if a < 0 then -a else a))), σ) := by
  rw [vX11_abs]; unfold fX11_abs
  rw [show (0 : Int32) = iI 0 from rfl]
  have z1 : (iI a < iI 0) ↔ a < 0 := i_lt (by omega) (by omega) (by omega) (by omega)
  simp only [z1]
  by_cases h : a < 0
  · rw [if_pos h, if_pos h, i_neg]
  · rw [if_neg h, if_neg h]
theorem s_nearest {z : Int} {n : Nat} (d : Nat) (σ : zS) (hn : 1 ≤ n) (hn2 : n ≤ 16) (h1 : -1000 ≤ z) (h2 : z ≤ 1000) : zEv (d + 1) mX11_nearest [.inl (iI z), .inl (nI n)] σ = some (some (.inl (nI (nrI z n))), σ) := by
  rw [vX11_nearest]; unfold fX11_nearest
  rw [show (0 : Int32) = iI 0 from rfl, show (1 : Int32) = iI 1 from rfl, i_nI n, i_sub]
  have z1 : (iI z < iI 0) ↔ z < 0 := i_lt (by omega) (by omega) (by omega) (by omega)
  have z2 : (iI z < iI n) ↔ z < n := i_lt (by omega) (by omega) (by omega) (by omega)
  simp only [z1, z2]
  rw [i_nI (nrI z n)]
  unfold nrI
  by_cases h : z < 0
  · rw [if_pos h, show ((max 0 (min z ((n : Int) - 1))).toNat : Int) = 0 by omega]
  · rw [if_neg h]
    by_cases h3 : z < n
    · rw [if_pos h3, show ((max 0 (min z ((n : Int) - 1))).toNat : Int) = z by omega]
    · rw [if_neg h3, show ((max 0 (min z ((n : Int) - 1))).toNat : Int) = (n : Int) - 1 by omega]
theorem s_mblend {m v n : Int} (hm : 0 ≤ m ∧ m ≤ 7) (hv : 0 ≤ v ∧ v ≤ 255) (hn : 0 ≤ n ∧ n ≤ 255) (d : Nat) (σ : zS) : zEv (d + 2) mX11_blend [.inl (iI m), .inl (iI v), .inl (iI n)] σ = some (some (.inl (iI (blI m v n))), σ) := by
  have p1 := mul_R hv hn
  have p2 := mul_R (a := 255 - v) (b := 255 - n) (by omega) (by omega)
  have d2 := dv_R (d := 255) (by decide) p2.1 p2.2
  have q : ∀ k : Int, 0 ≤ k → k ≤ 7 → ((iI m = iI k) ↔ m = k) := fun k h1 h2 => i_eq (by omega) (by omega) (by omega) (by omega)
  have q0 := q 0 (by decide) (by decide)
  have q1 := q 1 (by decide) (by decide)
  have q2 := q 2 (by decide) (by decide)
  have q3 := q 3 (by decide) (by decide)
  have q4 := q 4 (by decide) (by decide)
  have q5 := q 5 (by decide) (by decide)
  have q6 := q 6 (by decide) (by decide)
  have z1 : (iI v ≤ iI n) ↔ v ≤ n := i_le (by omega) (by omega) (by omega) (by omega)
  have z2 : (iI v < iI n) ↔ v < n := i_lt (by omega) (by omega) (by omega) (by omega)
  have z3 : (iI 255 = iI 0) ↔ (255 : Int) = 0 := i_eq (by omega) (by omega) (by omega) (by omega)
  rw [vX11_blend]
  unfold fX11_blend blI
  rw [show (0 : Int32) = iI 0 from rfl, show (1 : Int32) = iI 1 from rfl, show (2 : Int32) = iI 2 from rfl, show (3 : Int32) = iI 3 from rfl, show (4 : Int32) = iI 4 from rfl, show (5 : Int32) = iI 5 from rfl, show (6 : Int32) = iI 6 from rfl, show (255 : Int32) = iI 255 from rfl]
  simp only [q0, q1, q2, q3, q4, q5, q6, i_mul, i_sub, i_add, z1, z2, z3]
  by_cases k0 : m = 0
  · rw [if_pos k0, if_neg (by omega), if_neg (by omega), if_neg (by omega), if_neg (by omega), if_neg (by omega), if_neg (by omega), if_neg (by omega)]
  rw [if_neg k0]
  by_cases k1 : m = 1
  · rw [if_pos k1, if_pos k1, if_neg (by decide), i_div (by omega) (by omega) (by decide) (by decide), Int.tdiv_eq_ediv_of_nonneg (by omega)]
  rw [if_neg k1, if_neg k1]
  by_cases k2 : m = 2
  · rw [if_pos k2, if_pos k2, if_neg (by decide), i_div (by omega) (by omega) (by decide) (by decide), Int.tdiv_eq_ediv_of_nonneg (by omega), i_sub]
  rw [if_neg k2, if_neg k2]
  by_cases k3 : m = 3
  · rw [if_pos k3, if_pos k3]
    by_cases h : v ≤ n
    · rw [if_pos h, show max v n = n by omega]
    · rw [if_neg h, show max v n = v by omega]
  rw [if_neg k3, if_neg k3]
  by_cases k4 : m = 4
  · rw [if_pos k4, if_pos k4]
    by_cases h : v < n
    · rw [if_pos h, show min v n = v by omega]
    · rw [if_neg h, show min v n = n by omega]
  rw [if_neg k4, if_neg k4]
  by_cases k5 : m = 5
  · rw [if_pos k5, if_pos k5, s_mabs d σ (by omega) (by omega)]; rfl
  rw [if_neg k5, if_neg k5]
  by_cases k6 : m = 6
  · rw [if_pos k6, if_pos k6, s_clamp d σ (by omega) (by omega)]; rfl
  rw [if_neg k6, if_neg k6, if_pos (by omega), s_clamp d σ (by omega) (by omega)]; rfl
theorem s_beyond {v lo hi : Int} (d : Nat) (σ : zS) (h1 : -1000 < v ∧ v < 1000) (h2 : -1000 < lo ∧ lo < 1000) (h3 : -1000 < hi ∧ hi < 1000) (h : lo ≤ hi) : zEv (d + 1) mX11_beyond [.inl (iI v), .inl (iI lo), .inl (iI hi)] σ = some (some (.inl (iI (max 0 (max (lo - v) (v - hi))))), σ) := by
  rw [vX11_beyond]; unfold fX11_beyond
  have z1 : (iI v < iI lo) ↔ v < lo := i_lt (by omega) (by omega) (by omega) (by omega)
  have z2 : (iI v ≤ iI hi) ↔ v ≤ hi := i_le (by omega) (by omega) (by omega) (by omega)
  simp only [z1, z2, i_sub]
  by_cases k1 : v < lo
  · rw [if_pos k1, show max 0 (max (lo - v) (v - hi)) = lo - v by omega]
  · rw [if_neg k1]
    by_cases k2 : v ≤ hi
    · rw [if_pos k2, show max 0 (max (lo - v) (v - hi)) = 0 by omega]; rfl
    · rw [if_neg k2, show max 0 (max (lo - v) (v - hi)) = v - hi by omega]
theorem s_mat (i : Nat) (d : Nat) (σ : zS) : zEv (d + 1) mX11_at [.inl (nI i)] σ = some (some (.inl (nI (259 + 32 * i))), σ) := by
  rw [vX11_at]; unfold fX11_at
  rw [nL 259, nL 32, pk_mul, nI_add]
theorem zb_in {x : Int32} {n : Nat} (hn : n < 1000) (h0 : 1 ≤ n) : zb ((0 : Int32) ≤ x ∧ x ≤ nI n - 1) = zb (zin x n) := by
  have e : nI n - 1 = nI (n - 1) := by rw [show (1 : Int32) = nI 1 from rfl, nI_sub h0]
  have h1 : ((0 : Int32) ≤ x) ↔ 0 ≤ x.toInt := Int32.le_iff_toInt_le
  have h2 : (x ≤ nI (n - 1)) ↔ x.toInt ≤ ((n - 1 : Nat) : Int) := by rw [Int32.le_iff_toInt_le, nI_toInt (by omega)]
  rw [e]
  unfold zb zin
  simp only [h1, h2]
  by_cases c : 0 ≤ x.toInt ∧ x.toInt ≤ ((n - 1 : Nat) : Int)
  · rw [if_pos c, if_pos (by omega)]
  · rw [if_neg c, if_neg (by omega)]
theorem p_in {x : Int32} {n : Nat} (hn : n < 1000) (h0 : 1 ≤ n) : ((0 : Int32) ≤ x ∧ x ≤ nI n - 1) ↔ zin x n := by
  have e : nI n - 1 = nI (n - 1) := by rw [show (1 : Int32) = nI 1 from rfl, nI_sub h0]
  have h1 : ((0 : Int32) ≤ x) ↔ 0 ≤ x.toInt := Int32.le_iff_toInt_le
  have h2 : (x ≤ nI (n - 1)) ↔ x.toInt ≤ ((n - 1 : Nat) : Int) := by rw [Int32.le_iff_toInt_le, nI_toInt (by omega)]
  rw [e, h1, h2]
  unfold zin
  omega
theorem zb_in0 {x : Int32} : zb ((0 : Int32) ≤ x ∧ x ≤ nI 0 - 1) = zb (zin x 0) := by
  have h1 : ((0 : Int32) ≤ x) ↔ 0 ≤ x.toInt := Int32.le_iff_toInt_le
  have h2 : (x ≤ nI 0 - 1) ↔ x.toInt ≤ -1 := by rw [Int32.le_iff_toInt_le]; rfl
  unfold zb zin
  simp only [h1, h2]
  rw [if_neg (by omega), if_neg (by omega)]
theorem s_misLayer {σ : zS} {m : Nat} {C : zC} (hM : MS σ m) (hV : MV σ (m + 1) 0 C) (hn8 : cN C ≤ 8) (x : Int32) (d : Nat) : zEv (d + 2) mX11_isLayer [.inr (.inl (some m)), .inl x] σ = some (some (.inl (zb (zin x (cN C)))), σ) := by
  have e258 : (258 : Int32).toNatClampNeg = 258 := rfl
  have z258 : zin 258 515 = True := eq_true (by decide)
  have hv : zai σ (m + 1) 258 = nI (cN C) := hV.2.2.2.1
  rw [vX11_isLayer]
  unfold fX11_isLayer
  simp only [zlt_e, onR_s, nul_s, nul_n, chk_e, bnI_s, bnR_s, bnV_s, zi_si, zi_sr, zi_sl, zi_sa, zi_sq, zr_si, zr_sr, zr_sl, zr_sa, zr_sq, zl_si, zl_sr, zl_sl, zl_sa, zl_sq, zai_si, zai_sr, zai_sl, zai_sa, zai_sq, zar_si, zar_sr, zar_sl, zar_sa, zar_sq, zkd_si, zkd_sr, zkd_sl, zkd_sa, zkd_sq, zln_si, zln_sr, zln_sl, zln_sa, zln_sq, znx_si, znx_sr, znx_sl, znx_sa, znx_sq, hM.k, hM.s.1, hM.s.2.1, hM.s.2.2, if_true, z258, and_self, e258, hv, s_in]
  by_cases h0 : cN C = 0
  · rw [h0, zb_in0, if_pos zb_B]
  · rw [zb_in (by omega) (by omega), if_pos zb_B]
theorem s_misPixel {σ : zS} {m : Nat} {C : zC} (hM : MS σ m) (hV : MV σ (m + 1) 0 C) (hw : 1 ≤ cW C ∧ cW C ≤ 16) (hh : 1 ≤ cH C ∧ cH C ≤ 16) (x y : Int32) (d : Nat) : zEv (d + 2) mX11_isPixel [.inr (.inl (some m)), .inl x, .inl y] σ = some (some (.inl (zb (zin x (cW C) ∧ zin y (cH C)))), σ) := by
  have e0 : (0 : Int32).toNatClampNeg = 0 := rfl
  have z0 : zin 0 515 = True := eq_true (by decide)
  have e1 : (1 : Int32).toNatClampNeg = 1 := rfl
  have z1 : zin 1 515 = True := eq_true (by decide)
  have hv0 : zai σ (m + 1) 0 = nI (cW C) := hV.1
  have hv1 : zai σ (m + 1) 1 = nI (cH C) := hV.2.1
  rw [vX11_isPixel]
  unfold fX11_isPixel
  simp only [zlt_e, onR_s, nul_s, nul_n, chk_e, bnI_s, bnR_s, bnV_s, zi_si, zi_sr, zi_sl, zi_sa, zi_sq, zr_si, zr_sr, zr_sl, zr_sa, zr_sq, zl_si, zl_sr, zl_sl, zl_sa, zl_sq, zai_si, zai_sr, zai_sl, zai_sa, zai_sq, zar_si, zar_sr, zar_sl, zar_sa, zar_sq, zkd_si, zkd_sr, zkd_sl, zkd_sa, zkd_sq, zln_si, zln_sr, zln_sl, zln_sa, zln_sq, znx_si, znx_sr, znx_sl, znx_sa, znx_sq, hM.k, hM.s.1, hM.s.2.1, hM.s.2.2, if_true, z0, z1, and_self, e0, e1, hv0, hv1, s_in, p_in (show cW C < 1000 by omega) hw.1, p_in (show cH C < 1000 by omega) hh.1, zb_0]
  by_cases c1 : zin x (cW C)
  · rw [if_neg (by simpa using c1)]
    by_cases c2 : zin y (cH C)
    · rw [if_neg (by simpa using c2), zb_t ⟨c1, c2⟩]
      exact if_pos (c := zB 1) (Or.inr rfl)
    · rw [if_pos c2, zb_f (fun q => c2 q.2)]
      exact if_pos (c := zB 0) (Or.inl rfl)
  · rw [if_pos c1, zb_f (fun q => c1 q.1)]
    exact if_pos (c := zB 0) (Or.inl rfl)
theorem s_misOn {σ : zS} {m i : Nat} {C : zC} (hM : MS σ m) (hV : MV σ (m + 1) 0 C) (hn8 : cN C ≤ 8) (hg : GL (cL C i)) (hi : i < cN C) (d : Nat) : zEv (d + 2) mX11_isOn [.inr (.inl (some m)), .inl (nI i)] σ = some (some (.inl (zb (cL C i 5 = 1))), σ) := by
  have hv : zai σ (m + 1) (259 + 32 * i + 5) = iI (cL C i 5) := by have := hV.2.2.2.2 i hi 5 (by decide); rwa [Nat.zero_add] at this
  have e1 : (iI (cL C i 5) = 1) ↔ cL C i 5 = 1 := by rcases hg.2.2.2.2.1 with h | h <;> rw [h] <;> decide
  rw [vX11_isOn]
  unfold fX11_isOn
  simp only [zlt_e, onR_s, nul_s, nul_n, chk_e, bnI_s, bnR_s, bnV_s, zi_si, zi_sr, zi_sl, zi_sa, zi_sq, zr_si, zr_sr, zr_sl, zr_sa, zr_sq, zl_si, zl_sr, zl_sl, zl_sa, zl_sq, zai_si, zai_sr, zai_sl, zai_sa, zai_sq, zar_si, zar_sr, zar_sl, zar_sa, zar_sq, zkd_si, zkd_sr, zkd_sl, zkd_sa, zkd_sq, zln_si, zln_sr, zln_sl, zln_sa, zln_sq, znx_si, znx_sr, znx_sl, znx_sa, znx_sq, hM.k, hM.s.1, hM.s.2.1, hM.s.2.2, if_true, s_mat, nL 5, nI_add, n_zin (show 259 + 32 * i + 5 < 2 ^ 31 by omega), n_tn (show 259 + 32 * i + 5 < 2 ^ 31 by omega), show 259 + 32 * i + 5 < 515 by omega, and_self, hv, e1]
  by_cases c : cL C i 5 = 1
  · rw [if_pos c, zb_t c]
    exact if_pos (c := zB 1) (Or.inr rfl)
  · rw [if_neg c, zb_f c]
    exact if_pos (c := zB 0) (Or.inl rfl)
