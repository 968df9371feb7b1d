/-! small functions of numbers -/
theorem s_max (d : Nat) (a b : Int32) (σ : zS) : zEv (d + 1) mJ9_max_7cf53 [.inl a, .inl b] σ = some (some (.inl (if a < b then b else a)), σ) := by
  rw [vJ9_max_7cf53]; unfold fJ9_max_7cf53; split <;> rfl
theorem s_min (d : Nat) (a b : Int32) (σ : zS) : zEv (d + 1) mJ9_min_7cf53 [.inl a, .inl b] σ = some (some (.inl (if a ≤ b then a else b)), σ) := by
  rw [vJ9_min_7cf53]; unfold fJ9_min_7cf53; split <;> rfl
theorem s_abs (d : Nat) (a : Int32) (σ : zS) : zEv (d + 1) mJ9_abs_0f7a4 [.inl a] σ = some (some (.inl (if a < 0 then -a else a)), σ) := by
  rw [vJ9_abs_0f7a4]; unfold fJ9_abs_0f7a4; split <;> rfl
theorem n_max {a b : Nat} (ha : a < 2 ^ 31) (hb : b < 2 ^ 31) : (if nI a < nI b then nI b else nI a) = nI (max a b) := by
  by_cases h : a < b
  · rw [if_pos ((n_lt ha hb).mpr h), Nat.max_eq_right (Nat.le_of_lt h)]
  · rw [if_neg (fun q => h ((n_lt ha hb).mp q)), Nat.max_eq_left (Nat.le_of_not_lt h)]
theorem n_min {a b : Nat} (ha : a < 2 ^ 31) (hb : b < 2 ^ 31) : (if nI a ≤ nI b then nI a else nI b) = nI (min a b) := by
  by_cases h : a ≤ b
  · rw [if_pos ((n_le ha hb).mpr h), Nat.min_eq_left h]
  · rw [if_neg (fun q => h ((n_le ha hb).mp q)), Nat.min_eq_right (Nat.le_of_not_le h)]
theorem s_imax {a b : Int} (d : Nat) (σ : zS) (ha1 : -2147483648 ≤ a) (ha2 : a < 2147483648) (hb1 : -2147483648 ≤ b) (hb2 : b < 2147483648) : zEv (d + 1) mJ9_max_7cf53 [.inl (iI a), .inl (iI b)] σ = some (some (.inl (iI (max a b))), σ) := by
  rw [s_max]
  by_cases h : a < b
  · rw [if_pos ((i_lt ha1 ha2 hb1 hb2).mpr h), Int.max_eq_right (Int.le_of_lt h)]
  · rw [if_neg (fun q => h ((i_lt ha1 ha2 hb1 hb2).mp q)), Int.max_eq_left (by omega)]
theorem s_imin {a b : Int} (d : Nat) (σ : zS) (ha1 : -2147483648 ≤ a) (ha2 : a < 2147483648) (hb1 : -2147483648 ≤ b) (hb2 : b < 2147483648) : zEv (d + 1) mJ9_min_7cf53 [.inl (iI a), .inl (iI b)] σ = some (some (.inl (iI (min a b))), σ) := by
  rw [s_min]
  by_cases h : a ≤ b
  · rw [if_pos ((i_le ha1 ha2 hb1 hb2).mpr h), Int.min_eq_left h]
  · rw [if_neg (fun q => h ((i_le ha1 ha2 hb1 hb2).mp q)), Int.min_eq_right (by omega)]
theorem s_iabs {a : Int} (d : Nat) (σ : zS) (ha1 : -2147483648 ≤ a) (ha2 : a < 2147483648) : zEv (d + 1) mJ9_abs_0f7a4 [.inl (iI a)] σ = some (some (.inl (iI (if a < 0 then -a else a))), σ) := by
  rw [s_abs, show (0 : Int32) = iI 0 from rfl]
  by_cases h : a < 0
  · rw [if_pos ((i_lt ha1 ha2 (by decide) (by decide)).mpr h), if_pos h, i_neg]
  · rw [if_neg (fun q => h ((i_lt ha1 ha2 (by decide) (by decide)).mp q)), if_neg h]
theorem s_within (d : Nat) (v lo hi : Int32) (σ : zS) : zEv (d + 1) mX10_within [.inl v, .inl lo, .inl hi] σ = some (some (.inl (zb (lo ≤ v ∧ v ≤ hi))), σ) := by
  rw [vX10_within]; unfold fX10_within
  by_cases h1 : v < lo
  · simp [h1, chk_e, zB, zb, Int32.not_le.mpr h1]
  · have h1' := Int32.not_lt.mp h1
    by_cases h2 : v ≤ hi
    · simp [h1, h1', h2, chk_e, zB, zb]
    · simp [h1, h1', h2, chk_e, zB, zb]
theorem tdiv_floor {a b : Int} (hb : 0 < b) : a / b = if (a < 0 ∧ a.tdiv b * b ≠ a) then a.tdiv b - 1 else a.tdiv b := by
  by_cases ha : 0 ≤ a
  · rw [if_neg (by omega), Int.tdiv_eq_ediv_of_nonneg ha]
  · have h1 := Int.mul_tdiv_add_tmod a b
    have h2 := Int.mul_ediv_add_emod a b
    have h3 := Int.emod_nonneg a (by omega : b ≠ 0)
    have h4 := Int.emod_lt_of_pos a hb
    have h5 : a.tmod b ≤ 0 := by
      have := Int.tmod_nonneg b (show 0 ≤ -a by omega)
      rw [Int.neg_tmod] at this
      omega
    have h6 := (tmod_bounds (a := a) hb).1
    have hc : b * a.tdiv b = a.tdiv b * b := Int.mul_comm _ _
    by_cases hz : a.tmod b = 0
    · rw [if_neg (by intro q; exact q.2 (by omega))]
      have e : b * a.tdiv b = a := by omega
      have : b * (a / b) = b * a.tdiv b - a % b := by omega
      have hk : b * (a.tdiv b - a / b) = a % b := by rw [Int.mul_sub]; omega
      have : a.tdiv b - a / b = 0 := by
        rcases Int.lt_trichotomy (a.tdiv b - a / b) 0 with q | q | q
        · exfalso
          have := Int.mul_neg_of_pos_of_neg hb q
          omega
        · exact q
        · exfalso
          have := Int.mul_le_mul_of_nonneg_left (show 1 ≤ a.tdiv b - a / b by omega) (Int.le_of_lt hb)
          omega
      omega
    · rw [if_pos ⟨by omega, by omega⟩]
      have hk : b * (a.tdiv b - a / b) = a % b - a.tmod b := by rw [Int.mul_sub]; omega
      have : a.tdiv b - a / b = 1 := by
        rcases Int.lt_trichotomy (a.tdiv b - a / b) 1 with q | q | q
        · exfalso
          have := Int.mul_le_mul_of_nonneg_left (show a.tdiv b - a / b ≤ 0 by omega) (Int.le_of_lt hb)
          omega
        · exact q
        · exfalso
          have := Int.mul_le_mul_of_nonneg_left (show 2 ≤ a.tdiv b - a / b by omega) (Int.le_of_lt hb)
          omega
      omega
theorem s_floorDiv {a b : Int} (d : Nat) (σ : zS) (ha1 : -2147483648 < a) (ha2 : a < 2147483648) (hb1 : 0 < b) (hb2 : b < 2147483648) : zEv (d + 1) mJ9_floorDiv_7cf53 [.inl (iI a), .inl (iI b)] σ = some (some (.inl (iI (a / b))), σ) := by
  have e0 : (0 : Int32) = iI 0 := rfl
  have e1 : (1 : Int32) = iI 1 := rfl
  have hbn : ¬ iI b = 0 := by rw [e0, i_eq (by omega) hb2 (by decide) (by decide)]; omega
  have hx : (iI a ^^^ iI b) < 0 ↔ a < 0 := by
    rw [Int32.lt_iff_toInt_lt]
    have h1 : (iI a ^^^ iI b).toInt = (iI a ^^^ iI b).toBitVec.toInt := rfl
    have h2 : (iI a ^^^ iI b).toBitVec.msb = (Bool.xor (iI a).toBitVec.msb (iI b).toBitVec.msb) := by
      rw [Int32.toBitVec_xor, BitVec.msb_xor]
    have h3 : ∀ x : Int32, x.toBitVec.msb = decide (x.toInt < 0) := fun x => by rw [BitVec.msb_eq_toInt]; rfl
    have h4 : (iI a ^^^ iI b).toInt < 0 ↔ (iI a ^^^ iI b).toBitVec.msb = true := by rw [h3]; simp
    rw [show (0 : Int32).toInt = 0 from rfl, h4, h2, h3, h3, i_toInt (by omega) ha2, i_toInt (by omega) hb2]
    have : ¬ b < 0 := by omega
    simp [this]
  have hm : iI (a.tdiv b) * iI b = iI a ↔ a.tdiv b * b = a := by
    rw [i_mul]
    have hle : (a.tdiv b * b).natAbs ≤ a.natAbs := by
      rw [Int.natAbs_mul, Int.natAbs_tdiv]
      exact Nat.div_mul_le_self _ _
    exact i_eq (by omega) (by omega) (by omega) ha2
  rw [vJ9_floorDiv_7cf53]
  unfold fJ9_floorDiv_7cf53
  rw [if_neg hbn, zlt_e, i_div ha1 ha2 (by omega) hb2, tdiv_floor hb1]
  by_cases h1 : a < 0
  · rw [if_pos (hx.mpr h1)]
    by_cases h2 : a.tdiv b * b = a
    · rw [if_pos (hm.mpr h2), if_neg (fun q => q.2 h2)]
    · rw [if_neg (fun q => h2 (hm.mp q)), if_pos ⟨h1, h2⟩, e1, i_sub]
  · rw [if_neg (fun q => h1 (hx.mp q)), if_neg (fun q => h1 q.1)]
theorem s_divided {a b : Int} (d : Nat) (σ : zS) (ha1 : -2147483648 < a) (ha2 : a < 2147483648) (hb1 : 0 < b) (hb2 : b < 2147483648) : zEv (d + 2) mX10_divided [.inl (iI a), .inl (iI b)] σ = some (some (.inl (iI (a / b))), σ) := by
  have e0 : (0 : Int32) = iI 0 := rfl
  rw [vX10_divided]
  unfold fX10_divided
  rw [e0, if_neg (by rw [i_le (by omega) hb2 (by decide) (by decide)]; omega), s_floorDiv d σ ha1 ha2 hb1 hb2]
  rfl
def clI (z : Int) : Int := max 0 (min z 255)
theorem s_clamped {a : Int} (d : Nat) (σ : zS) (ha1 : -2147483648 ≤ a) (ha2 : a < 2147483648) : zEv (d + 2) mX10_clamped [.inl (iI a)] σ = some (some (.inl (iI (clI a))), σ) := by
  rw [vX10_clamped]
  unfold fX10_clamped
  rw [show (255 : Int32) = iI 255 from rfl, s_imin d σ ha1 ha2 (by decide) (by decide), bnI_s, show (0 : Int32) = iI 0 from rfl, s_imax d σ (by decide) (by decide) (by omega) (by omega)]
  rfl
