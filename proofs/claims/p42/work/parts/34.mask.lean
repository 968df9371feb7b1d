/-! the class's masks -/
theorem sq_R {a : Int} (h1 : -15 ≤ a) (h2 : a ≤ 15) : 0 ≤ a * a ∧ a * a ≤ 225 := by
  rcases Int.le_total 0 a with h | h
  · exact ⟨Int.mul_nonneg h h, Int.mul_le_mul h2 h2 h (by decide)⟩
  · have e : a * a = (-a) * (-a) := (Int.neg_mul_neg a a).symm
    rw [e]
    exact ⟨Int.mul_nonneg (by omega) (by omega), Int.mul_le_mul (show -a ≤ 15 by omega) (show -a ≤ 15 by omega) (by omega) (by decide)⟩
theorem dbI_mono (l : Nat → Int) (x y : Int) {j k : Nat} (h : j ≤ k) (hj : dbI l x y j = true) : dbI l x y k = true := by
  induction k with
  | zero =>
    have : j = 0 := by omega
    rw [this] at hj; exact hj
  | succ k ih =>
    by_cases e : j = k + 1
    · rw [← e]; exact hj
    · show (dbI l x y k || _) = true
      rw [ih (by omega), Bool.true_or]
theorem s_isDabbed {σ : zS} {p x y : Nat} {l : Nat → Int} (hp : LyS σ p) (hv : LyV σ p l) (hg : GL l) (hx : x < 16) (hy : y < 16) (d : Nat) : zEv (d + 1) mX4_isDabbed [.inr (.inl (some (p + 1))), .inl (nI x), .inl (nI y)] σ = some (some (.inl (zb (dbI l x y (l 13).toNat = true))), σ) := by
  have a7 : zi σ 199 (p + 1) = iI (l 13) := hv.2.1 7 (by decide)
  obtain ⟨n, hn⟩ : ∃ n : Nat, l 13 = n := ⟨(l 13).toNat, by have := hg.2.2.2.2.2.2.2.2.2.1; omega⟩
  have hn6 : n ≤ 6 := by have := hg.2.2.2.2.2.2.2.2.2.1; omega
  have hr := hg.2.2.2.2.2.2.2.2.2.2
  have e3 : 3 * iI (l 13) = nI (3 * n) := by rw [hn, ← i_nI, nL 3, pk_mul]
  rw [vX4_isDabbed]
  unfold fX4_isDabbed
  simp only [zlt_e, onR_s, nul_s, nul_n, chk_e, bnI_s, bnR_s, bnV_s, zi_si, zi_sr, zi_sl, zi_sa, zi_sq, zr_si, zr_sr, zr_sl, zr_sa, zr_sq, zl_si, zl_sr, zl_sl, zl_sa, zl_sq, zai_si, zai_sr, zai_sl, zai_sa, zai_sq, zar_si, zar_sr, zar_sl, zar_sa, zar_sq, zkd_si, zkd_sr, zkd_sl, zkd_sa, zkd_sq, zln_si, zln_sr, zln_sl, zln_sa, zln_sq, znx_si, znx_sr, znx_sl, znx_sa, znx_sq, hp.2.2.1, if_true, a7, e3]
  rw [hn, Int.toNat_natCast]
  -- none of the first k holds it
  have go : ∀ m k, k + m = n → dbI l x y k = false → ∀ z5 z6 z7, LX4_isDabbed_10 (zEv d) (p + 1) (nI x) (nI y) (nI (3 * n)) (nI (3 * k)) z5 z6 z7 σ = some (some (.inl (zb (dbI l x y n = true))), σ) := by
    intro m
    induction m with
    | zero =>
      intro k hk hb z5 z6 z7
      have hk : k = n := by omega
      subst hk
      rw [uX4_isDabbed_10]
      simp only [zlt_e, onR_s, nul_s, nul_n, chk_e, bnI_s, bnR_s, bnV_s, zi_si, zi_sr, zi_sl, zi_sa, zi_sq, zr_si, zr_sr, zr_sl, zr_sa, zr_sq, zl_si, zl_sr, zl_sl, zl_sa, zl_sq, zai_si, zai_sr, zai_sl, zai_sa, zai_sq, zar_si, zar_sr, zar_sl, zar_sa, zar_sq, zkd_si, zkd_sr, zkd_sl, zkd_sa, zkd_sq, zln_si, zln_sr, zln_sl, zln_sa, zln_sq, znx_si, znx_sr, znx_sl, znx_sa, znx_sq, hp.2.2.1, hp.2.2.2.1, hp.2.2.2.2.1, hp.2.2.2.2.2, if_true, nL 2, nI_add, n_ofNat, n_lt (show 3 * k + 2 < 2 ^ 31 by omega) (show 18 < 2 ^ 31 by decide), n_lt (show 3 * k < 2 ^ 31 by omega) (show 3 * k < 2 ^ 31 by omega), Nat.lt_irrefl, if_false]
      rw [hb, if_pos (Or.inl rfl)]
      simp [zb]
    | succ m ih =>
      intro k hk hb z5 z6 z7
      have v0 : zai σ (p + 2) (3 * k) = iI (l (14 + 3 * k)) := hv.2.2 (3 * k) (by omega)
      have v1 : zai σ (p + 2) (3 * k + 1) = iI (l (14 + 3 * k + 1)) := hv.2.2 (3 * k + 1) (by omega)
      have v2 : zai σ (p + 2) (3 * k + 2) = iI (l (14 + 3 * k + 2)) := hv.2.2 (3 * k + 2) (by omega)
      have r0 := hr (3 * k) (by omega)
      have r1 := hr (3 * k + 1) (by omega)
      have r2 := hr (3 * k + 2) (by omega)
      have r1 : 0 ≤ l (14 + 3 * k + 1) ∧ l (14 + 3 * k + 1) ≤ 15 := r1
      have r2 : 0 ≤ l (14 + 3 * k + 2) ∧ l (14 + 3 * k + 2) ≤ 15 := r2
      have s0 := sq_R (a := (x : Int) - l (14 + 3 * k)) (by omega) (by omega)
      have s1 := sq_R (a := (y : Int) - l (14 + 3 * k + 1)) (by omega) (by omega)
      have s2 := sq_R (a := l (14 + 3 * k + 2)) (by omega) (by omega)
      have hnext := ih (k + 1) (by omega)
      rw [uX4_isDabbed_10]
      simp only [zlt_e, onR_s, nul_s, nul_n, chk_e, bnI_s, bnR_s, bnV_s, zi_si, zi_sr, zi_sl, zi_sa, zi_sq, zr_si, zr_sr, zr_sl, zr_sa, zr_sq, zl_si, zl_sr, zl_sl, zl_sa, zl_sq, zai_si, zai_sr, zai_sl, zai_sa, zai_sq, zar_si, zar_sr, zar_sl, zar_sa, zar_sq, zkd_si, zkd_sr, zkd_sl, zkd_sa, zkd_sq, zln_si, zln_sr, zln_sl, zln_sa, zln_sq, znx_si, znx_sr, znx_sl, znx_sa, znx_sq, hp.2.2.1, hp.2.2.2.1, hp.2.2.2.2.1, hp.2.2.2.2.2, if_true, nL 2, nL 3, nI_add, nI_1, n_ofNat, n_lt (show 3 * k + 2 < 2 ^ 31 by omega) (show 18 < 2 ^ 31 by decide), n_lt (show 3 * k < 2 ^ 31 by omega) (show 3 * n < 2 ^ 31 by omega), show 3 * k + 2 < 18 by omega, show 3 * k + 1 < 18 by omega, show 3 * k < 18 by omega, show 3 * k < 3 * n by omega, n_zin (show 3 * k < 2 ^ 31 by omega), n_zin (show 3 * k + 1 < 2 ^ 31 by omega), n_zin (show 3 * k + 2 < 2 ^ 31 by omega), n_tn (show 3 * k < 2 ^ 31 by omega), n_tn (show 3 * k + 1 < 2 ^ 31 by omega), n_tn (show 3 * k + 2 < 2 ^ 31 by omega), and_self, v0, v1, v2]
      rw [i_nI x, i_nI y, i_sub, i_sub, i_mul, i_mul, i_mul, i_add]
      have hle : (iI (((x : Int) - l (14 + 3 * k)) * ((x : Int) - l (14 + 3 * k)) + ((y : Int) - l (14 + 3 * k + 1)) * ((y : Int) - l (14 + 3 * k + 1))) ≤ iI (l (14 + 3 * k + 2) * l (14 + 3 * k + 2))) ↔ _ := i_le (by omega) (by omega) (by omega) (by omega)
      simp only [hle]
      have ek : dbI l x y (k + 1) = (dbI l x y k || decide (((x : Int) - l (14 + 3 * k)) * ((x : Int) - l (14 + 3 * k)) + ((y : Int) - l (14 + 3 * k + 1)) * ((y : Int) - l (14 + 3 * k + 1)) ≤ l (14 + 3 * k + 2) * l (14 + 3 * k + 2))) := rfl
      by_cases hc : ((x : Int) - l (14 + 3 * k)) * ((x : Int) - l (14 + 3 * k)) + ((y : Int) - l (14 + 3 * k + 1)) * ((y : Int) - l (14 + 3 * k + 1)) ≤ l (14 + 3 * k + 2) * l (14 + 3 * k + 2)
      · rw [if_pos hc, if_pos (Or.inr rfl)]
        have : dbI l x y n = true := dbI_mono l x y (j := k + 1) (by omega) (by rw [ek]; simp [hc])
        rw [this]
        rfl
      · rw [if_neg hc]
        have hb' : dbI l x y (k + 1) = false := by rw [ek, hb]; simp [hc]
        rw [← i_nI x, ← i_nI y]
        exact hnext hb' _ _ _
  have h0 := go n 0 (by omega) rfl (.inr (.inr none)) (.inr (.inr none)) (.inr (.inr none))
  exact h0
theorem s_rectW {σ : zS} {p x y : Nat} {l : Nat → Int} (hp : LyS σ p) (hv : LyV σ p l) (hg : GL l) (h1 : l 6 = 1) (hx : x < 16) (hy : y < 16) (d : Nat) : zEv (d + 2) mX4_rectangleWeightAt [.inr (.inl (some (p + 1))), .inl (nI x), .inl (nI y)] σ = some (some (.inl (iI (mkI l x y 0))), σ) := by
  have a1 : zi σ 193 (p + 1) = iI (l 7) := hv.2.1 1 (by decide)
  have a2 : zi σ 194 (p + 1) = iI (l 8) := hv.2.1 2 (by decide)
  have a3 : zi σ 195 (p + 1) = iI (l 9) := hv.2.1 3 (by decide)
  have a4 : zi σ 196 (p + 1) = iI (l 10) := hv.2.1 4 (by decide)
  have a5 : zi σ 197 (p + 1) = iI (l 11) := hv.2.1 5 (by decide)
  have hm := hg.2.2.2.2.2.2.1
  have hf := hg.2.2.2.2.2.2.2.1
  unfold okM at hm
  rw [if_pos h1] at hm
  rw [vX4_rectangleWeightAt]
  unfold fX4_rectangleWeightAt mkI
  rw [if_pos h1]
  simp only [zlt_e, onR_s, nul_s, nul_n, chk_e, bnI_s, bnR_s, bnV_s, zi_si, zi_sr, zi_sl, zi_sa, zi_sq, zr_si, zr_sr, zr_sl, zr_sa, zr_sq, zl_si, zl_sr, zl_sl, zl_sa, zl_sq, zai_si, zai_sr, zai_sl, zai_sa, zai_sq, zar_si, zar_sr, zar_sl, zar_sa, zar_sq, zkd_si, zkd_sr, zkd_sl, zkd_sa, zkd_sq, zln_si, zln_sr, zln_sl, zln_sa, zln_sq, znx_si, znx_sr, znx_sl, znx_sa, znx_sq, hp.2.2.1, if_true, a1, a2, a3, a4, a5]
  rw [i_nI x, i_sub, i_sub, s_imax d σ (by omega) (by omega) (by omega) (by omega)]
  simp only [zlt_e, onR_s, nul_s, nul_n, chk_e, bnI_s, bnR_s, bnV_s, zi_si, zi_sr, zi_sl, zi_sa, zi_sq, zr_si, zr_sr, zr_sl, zr_sa, zr_sq, zl_si, zl_sr, zl_sl, zl_sa, zl_sq, zai_si, zai_sr, zai_sl, zai_sa, zai_sq, zar_si, zar_sr, zar_sl, zar_sa, zar_sq, zkd_si, zkd_sr, zkd_sl, zkd_sa, zkd_sq, zln_si, zln_sr, zln_sl, zln_sa, zln_sq, znx_si, znx_sr, znx_sl, znx_sa, znx_sq, hp.2.2.1, if_true, a1, a2, a3, a4, a5]
  rw [i_nI y, i_sub, i_sub, s_imax d σ (by omega) (by omega) (by omega) (by omega)]
  simp only [zlt_e, onR_s, nul_s, nul_n, chk_e, bnI_s, bnR_s, bnV_s, zi_si, zi_sr, zi_sl, zi_sa, zi_sq, zr_si, zr_sr, zr_sl, zr_sa, zr_sq, zl_si, zl_sr, zl_sl, zl_sa, zl_sq, zai_si, zai_sr, zai_sl, zai_sa, zai_sq, zar_si, zar_sr, zar_sl, zar_sa, zar_sq, zkd_si, zkd_sr, zkd_sl, zkd_sa, zkd_sq, zln_si, zln_sr, zln_sl, zln_sa, zln_sq, znx_si, znx_sr, znx_sl, znx_sa, znx_sq, hp.2.2.1, if_true, a1, a2, a3, a4, a5]
  rw [s_imax d σ (by omega) (by omega) (by omega) (by omega)]
  simp only [zlt_e, onR_s, nul_s, nul_n, chk_e, bnI_s, bnR_s, bnV_s, zi_si, zi_sr, zi_sl, zi_sa, zi_sq, zr_si, zr_sr, zr_sl, zr_sa, zr_sq, zl_si, zl_sr, zl_sl, zl_sa, zl_sq, zai_si, zai_sr, zai_sl, zai_sa, zai_sq, zar_si, zar_sr, zar_sl, zar_sa, zar_sq, zkd_si, zkd_sr, zkd_sl, zkd_sa, zkd_sq, zln_si, zln_sr, zln_sl, zln_sa, zln_sq, znx_si, znx_sr, znx_sl, znx_sa, znx_sq]
  rw [show (0 : Int32) = iI 0 from rfl, s_imax d σ (by omega) (by omega) (by omega) (by omega)]
  simp only [zlt_e, onR_s, nul_s, nul_n, chk_e, bnI_s, bnR_s, bnV_s, zi_si, zi_sr, zi_sl, zi_sa, zi_sq, zr_si, zr_sr, zr_sl, zr_sa, zr_sq, zl_si, zl_sr, zl_sl, zl_sa, zl_sq, zai_si, zai_sr, zai_sl, zai_sa, zai_sq, zar_si, zar_sr, zar_sl, zar_sa, zar_sq, zkd_si, zkd_sr, zkd_sl, zkd_sa, zkd_sq, zln_si, zln_sr, zln_sl, zln_sa, zln_sq, znx_si, znx_sr, znx_sl, znx_sa, znx_sq, hp.2.2.1, if_true, a1, a2, a3, a4, a5]
  generalize hD : max (0 : Int) (max (max (l 7 - x) (x - l 9)) (max (l 8 - y) (y - l 10))) = D
  rw [show (1 : Int32) = iI 1 from rfl, show (255 : Int32) = iI 255 from rfl, i_add, i_sub, i_mul]
  have q1 : (iI (l 11 + 1) ≤ iI 0) ↔ _ := i_le (by omega) (by omega) (by omega) (by omega)
  have q2 : (iI D < iI (l 11 + 1)) ↔ _ := i_lt (by omega) (by omega) (by omega) (by omega)
  have q3 : (iI (l 11 + 1) = iI 0) ↔ _ := i_eq (by omega) (by omega) (by omega) (by omega)
  simp only [q1, q2, q3]
  rw [if_neg (by omega)]
  by_cases hl : D < l 11 + 1
  · rw [if_pos hl, if_pos hl, if_neg (by omega), i_div (by omega) (by omega) (by omega) (by omega), Int.tdiv_eq_ediv_of_nonneg (by omega)]
  · rw [if_neg hl, if_neg hl]
theorem s_gradW {σ : zS} {p x y : Nat} {l : Nat → Int} (hp : LyS σ p) (hv : LyV σ p l) (hg : GL l) (h2 : l 6 = 2) (hx : x < 16) (d : Nat) : zEv (d + 1) mX4_gradientWeightAt [.inr (.inl (some (p + 1))), .inl (nI x)] σ = some (some (.inl (iI (mkI l x y 0))), σ) := by
  have a1 : zi σ 193 (p + 1) = iI (l 7) := hv.2.1 1 (by decide)
  have a3 : zi σ 195 (p + 1) = iI (l 9) := hv.2.1 3 (by decide)
  have hm := hg.2.2.2.2.2.2.1
  unfold okM at hm
  rw [if_neg (by omega), if_pos h2] at hm
  rw [vX4_gradientWeightAt]
  unfold fX4_gradientWeightAt mkI
  rw [if_neg (show ¬ l 6 = 1 by omega), if_pos h2]
  simp only [zlt_e, onR_s, nul_s, nul_n, chk_e, bnI_s, bnR_s, bnV_s, zi_si, zi_sr, zi_sl, zi_sa, zi_sq, zr_si, zr_sr, zr_sl, zr_sa, zr_sq, zl_si, zl_sr, zl_sl, zl_sa, zl_sq, zai_si, zai_sr, zai_sl, zai_sa, zai_sq, zar_si, zar_sr, zar_sl, zar_sa, zar_sq, zkd_si, zkd_sr, zkd_sl, zkd_sa, zkd_sq, zln_si, zln_sr, zln_sl, zln_sa, zln_sq, znx_si, znx_sr, znx_sl, znx_sa, znx_sq, hp.2.2.1, if_true, a1, a3]
  rw [i_nI x, i_sub, i_sub, show (0 : Int32) = iI 0 from rfl, show (255 : Int32) = iI 255 from rfl, i_mul]
  have q1 : (iI (x : Int) ≤ iI (l 7)) ↔ _ := i_le (by omega) (by omega) (by omega) (by omega)
  have q2 : (iI (x : Int) < iI (l 9)) ↔ _ := i_lt (by omega) (by omega) (by omega) (by omega)
  have q3 : (iI (l 9 - l 7) ≤ iI 0) ↔ _ := i_le (by omega) (by omega) (by omega) (by omega)
  have q4 : (iI (l 9 - l 7) = iI 0) ↔ _ := i_eq (by omega) (by omega) (by omega) (by omega)
  simp only [q1, q2, q3, q4]
  by_cases k1 : (x : Int) ≤ l 7
  · rw [if_pos k1, if_pos k1]
  · rw [if_neg k1, if_neg k1]
    by_cases k2 : (x : Int) < l 9
    · rw [if_pos k2, if_pos k2, if_neg (by omega), if_neg (by omega), i_div (by omega) (by omega) (by omega) (by omega), Int.tdiv_eq_ediv_of_nonneg (by omega)]
    · rw [if_neg k2, if_neg k2]
theorem s_weightAt {σ : zS} {p x y : Nat} {l : Nat → Int} {v : Int} (hp : LyS σ p) (hv : LyV σ p l) (hg : GL l) (hx : x < 16) (hy : y < 16) (hV : 0 ≤ v ∧ v ≤ 255) (d : Nat) : zEv (d + 3) mX4_weightAt [.inr (.inl (some (p + 1))), .inl (nI x), .inl (nI y), .inl (iI v)] σ = some (some (.inl (iI (wtI l x y v))), σ) := by
  have a0 : zi σ 192 (p + 1) = iI (l 6) := hv.2.1 0 (by decide)
  have a6 : zi σ 198 (p + 1) = iI (l 12) := hv.2.1 6 (by decide)
  have hk := hg.2.2.2.2.2.1
  have hi := hg.2.2.2.2.2.2.2.2.1
  have hmR := mkI_R (x := x) (y := y) hg hV
  have q : ∀ k : Int, 0 ≤ k → k ≤ 4 → ((iI (l 6) = iI k) ↔ l 6 = k) := fun k h1 h2 => i_eq (by omega) (by omega) (by omega) (by omega)
  have q1 := q 1 (by decide) (by decide)
  have q2 := q 2 (by decide) (by decide)
  have q3 := q 3 (by decide) (by decide)
  have q4 := q 4 (by decide) (by decide)
  have q0 : (iI (l 12) = iI 0) ↔ l 12 = 0 := i_eq (by omega) (by omega) (by omega) (by omega)
  have fin : ∀ m, mkI l x y v = m → (if l 12 = 0 then (some (some (.inl (iI m)), σ) : zO) else some (some (.inl (iI 255 - iI m)), σ)) = some (some (.inl (iI (wtI l x y v))), σ) := by
    intro m hm
    unfold wtI
    rw [hm]
    by_cases h : l 12 = 0
    · rw [if_pos h, if_neg (by omega)]
    · rw [if_neg h, if_pos (by omega), i_sub]
  rw [vX4_weightAt]
  unfold fX4_weightAt
  rw [show (1 : Int32) = iI 1 from rfl, show (2 : Int32) = iI 2 from rfl, show (3 : Int32) = iI 3 from rfl, show (4 : Int32) = iI 4 from rfl, show (0 : Int32) = iI 0 from rfl, show (255 : Int32) = iI 255 from rfl]
  simp only [zlt_e, onR_s, nul_s, nul_n, chk_e, bnI_s, bnR_s, bnV_s, zi_si, zi_sr, zi_sl, zi_sa, zi_sq, zr_si, zr_sr, zr_sl, zr_sa, zr_sq, zl_si, zl_sr, zl_sl, zl_sa, zl_sq, zai_si, zai_sr, zai_sl, zai_sa, zai_sq, zar_si, zar_sr, zar_sl, zar_sa, zar_sq, zkd_si, zkd_sr, zkd_sl, zkd_sa, zkd_sq, zln_si, zln_sr, zln_sl, zln_sa, zln_sq, znx_si, znx_sr, znx_sl, znx_sa, znx_sq, hp.2.2.1, if_true, a0, a6, q0, q1, q2, q3, q4]
  by_cases k1 : l 6 = 1
  · rw [if_pos k1, s_rectW hp hv hg k1 hx hy d]
    simp only [zlt_e, onR_s, nul_s, nul_n, chk_e, bnI_s, bnR_s, bnV_s, zi_si, zi_sr, zi_sl, zi_sa, zi_sq, zr_si, zr_sr, zr_sl, zr_sa, zr_sq, zl_si, zl_sr, zl_sl, zl_sa, zl_sq, zai_si, zai_sr, zai_sl, zai_sa, zai_sq, zar_si, zar_sr, zar_sl, zar_sa, zar_sq, zkd_si, zkd_sr, zkd_sl, zkd_sa, zkd_sq, zln_si, zln_sr, zln_sl, zln_sa, zln_sq, znx_si, znx_sr, znx_sl, znx_sa, znx_sq, hp.2.2.1, if_true, a6, q0]
    exact fin _ (by unfold mkI; rw [if_pos k1, if_pos k1])
  rw [if_neg k1]
  by_cases k2 : l 6 = 2
  · rw [if_pos k2, s_gradW (y := y) hp hv hg k2 hx (d + 1)]
    simp only [zlt_e, onR_s, nul_s, nul_n, chk_e, bnI_s, bnR_s, bnV_s, zi_si, zi_sr, zi_sl, zi_sa, zi_sq, zr_si, zr_sr, zr_sl, zr_sa, zr_sq, zl_si, zl_sr, zl_sl, zl_sa, zl_sq, zai_si, zai_sr, zai_sl, zai_sa, zai_sq, zar_si, zar_sr, zar_sl, zar_sa, zar_sq, zkd_si, zkd_sr, zkd_sl, zkd_sa, zkd_sq, zln_si, zln_sr, zln_sl, zln_sa, zln_sq, znx_si, znx_sr, znx_sl, znx_sa, znx_sq, hp.2.2.1, if_true, a6, q0]
    exact fin _ (by unfold mkI; rw [if_neg k1, if_pos k2, if_neg k1, if_pos k2])
  rw [if_neg k2]
  by_cases k3 : l 6 = 3
  · rw [if_pos k3]
    exact fin _ (by unfold mkI; rw [if_neg k1, if_neg k2, if_pos k3])
  rw [if_neg k3]
  by_cases k4 : l 6 = 4
  · rw [if_pos k4, s_isDabbed hp hv hg hx hy (d + 1), bnI_s, show iI 0 = (0 : Int32) from rfl]
    simp only [zb_0]
    have e : mkI l x y v = if dbI l x y (l 13).toNat then 255 else 0 := by unfold mkI; rw [if_neg k1, if_neg k2, if_neg k3, if_pos k4]
    by_cases hb : dbI l x y (l 13).toNat = true
    · rw [if_neg (by simpa using hb), uX4_weightAt_80]
      rw [show (255 : Int32) = iI 255 from rfl, show (0 : Int32) = iI 0 from rfl]
      simp only [zlt_e, onR_s, nul_s, nul_n, chk_e, bnI_s, bnR_s, bnV_s, zi_si, zi_sr, zi_sl, zi_sa, zi_sq, zr_si, zr_sr, zr_sl, zr_sa, zr_sq, zl_si, zl_sr, zl_sl, zl_sa, zl_sq, zai_si, zai_sr, zai_sl, zai_sa, zai_sq, zar_si, zar_sr, zar_sl, zar_sa, zar_sq, zkd_si, zkd_sr, zkd_sl, zkd_sa, zkd_sq, zln_si, zln_sr, zln_sl, zln_sa, zln_sq, znx_si, znx_sr, znx_sl, znx_sa, znx_sq, hp.2.2.1, if_true, a6, q0]
      exact fin 255 (by rw [e, if_pos hb])
    · rw [if_pos hb, uX4_weightAt_80]
      rw [show (255 : Int32) = iI 255 from rfl, show (0 : Int32) = iI 0 from rfl]
      simp only [zlt_e, onR_s, nul_s, nul_n, chk_e, bnI_s, bnR_s, bnV_s, zi_si, zi_sr, zi_sl, zi_sa, zi_sq, zr_si, zr_sr, zr_sl, zr_sa, zr_sq, zl_si, zl_sr, zl_sl, zl_sa, zl_sq, zai_si, zai_sr, zai_sl, zai_sa, zai_sq, zar_si, zar_sr, zar_sl, zar_sa, zar_sq, zkd_si, zkd_sr, zkd_sl, zkd_sa, zkd_sq, zln_si, zln_sr, zln_sl, zln_sa, zln_sq, znx_si, znx_sr, znx_sl, znx_sa, znx_sq, hp.2.2.1, if_true, a6, q0]
      exact fin 0 (by rw [e, if_neg hb])
  rw [if_neg k4]
  exact fin 255 (by unfold mkI; rw [if_neg k1, if_neg k2, if_neg k3, if_neg k4])
