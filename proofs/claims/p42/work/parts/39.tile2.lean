/-! the cache's other numbers: side, limit, clock, computed, found, dropped -/
abbrev zT : Type := Nat × Nat × Nat × Nat × Nat × Nat
def tSd (T : zT) : Nat := T.1
def tLm (T : zT) : Nat := T.2.1
def tCk (T : zT) : Nat := T.2.2.1
def tCp (T : zT) : Nat := T.2.2.2.1
def tFd (T : zT) : Nat := T.2.2.2.2.1
def tDr (T : zT) : Nat := T.2.2.2.2.2
def TcF (σ : zS) (X : Nat) (T : zT) : Prop := zi σ 450 X = nI (tSd T) ∧ zi σ 451 X = nI (tLm T) ∧ zi σ 453 X = nI (tCk T) ∧ zi σ 454 X = nI (tCp T) ∧ zi σ 455 X = nI (tFd T) ∧ zi σ 456 X = nI (tDr T)
theorem TcF.fr {P : Nat → Prop} {σ τ : zS} {X : Nat} {T : zT} (h : TcF σ X T) (g : zFr P σ τ) (hn : ¬ P X) : TcF τ X T := by
  unfold TcF
  rw [g.i hn, g.i hn, g.i hn, g.i hn, g.i hn, g.i hn]
  exact h
theorem TcF.kp {σ τ : zS} {X : Nat} {T : zT} (h : TcF σ X T) (g : keepU X σ τ) : TcF τ X T := by
  unfold TcF
  rw [g 450 (by decide), g 451 (by decide), g 453 (by decide), g 454 (by decide), g 455 (by decide), g 456 (by decide)]
  exact h
def sN (layer column row : Nat) : Nat := 64 * layer + 8 * row + column
theorem sN_lt {l c r : Nat} (hl : l < 8) (hc : c < 8) (hr : r < 8) : sN l c r < 512 := by unfold sN; omega
theorem s_slotOf (l c r : Nat) (d : Nat) (σ : zS) : zEv (d + 1) mX9_slotOf [.inl (nI l), .inl (nI c), .inl (nI r)] σ = some (some (.inl (nI (sN l c r))), σ) := by
  rw [vX9_slotOf]
  unfold fX9_slotOf sN
  rw [nL 64, nL 8, pk_mul, pk_mul, nI_add, nI_add, Nat.mul_comm l, Nat.mul_comm r]
theorem s_tileOf {σ : zS} {X x : Nat} {T : zT} (hX : TcS σ X) (hT : TcF σ X T) (hs : 1 ≤ tSd T) (hs2 : tSd T < 1000) (hx : x < 1000) (d : Nat) : zEv (d + 3) mX9_tileOf [.inr (.inl (some X)), .inl (nI x)] σ = some (some (.inl (nI (x / tSd T))), σ) := by
  rw [vX9_tileOf]
  unfold fX9_tileOf
  simp only [zlt_e, onR_s, nul_s, nul_n, chk_e, bnI_s, bnR_s, bnV_s, zi_si, zi_sr, zi_sl, zi_sa, zi_sq, zr_si, zr_sr, zr_sl, zr_sa, zr_sq, zl_si, zl_sr, zl_sl, zl_sa, zl_sq, zai_si, zai_sr, zai_sl, zai_sa, zai_sq, zar_si, zar_sr, zar_sl, zar_sa, zar_sq, zkd_si, zkd_sr, zkd_sl, zkd_sa, zkd_sq, zln_si, zln_sr, zln_sl, zln_sa, zln_sq, znx_si, znx_sr, znx_sl, znx_sa, znx_sq, hX.1, if_true, hT.1]
  rw [i_nI x, i_nI (tSd T), s_divided d σ (by omega) (by omega) (by omega) (by omega), bnI_s, i_nI]
  rfl
theorem s_outputAt {σ : zS} {X k : Nat} (hX : TcS σ X) (hQ : TcQ σ X) (hk : k < 8) (d : Nat) : zEv (d + 1) mX9_outputAt [.inr (.inl (some X)), .inl (nI k)] σ = some (some (.inr (.inl (some (X + 3 + 2 * k)))), σ) := by
  rw [vX9_outputAt]
  unfold fX9_outputAt
  simp only [zlt_e, onR_s, nul_s, nul_n, chk_e, bnI_s, bnR_s, bnV_s, zi_si, zi_sr, zi_sl, zi_sa, zi_sq, zr_si, zr_sr, zr_sl, zr_sa, zr_sq, zl_si, zl_sr, zl_sl, zl_sa, zl_sq, zai_si, zai_sr, zai_sl, zai_sa, zai_sq, zar_si, zar_sr, zar_sl, zar_sa, zar_sq, zkd_si, zkd_sr, zkd_sl, zkd_sa, zkd_sq, zln_si, zln_sr, zln_sl, zln_sa, zln_sq, znx_si, znx_sr, znx_sl, znx_sa, znx_sq, nL 0, n_ofNat, n_lt (show k < 2 ^ 31 by omega) (show 0 < 2 ^ 31 by decide), Nat.not_lt_zero, if_false, if_true, hX.1, hX.2.1, hX.2.2.1, hX.2.2.2.1, n_lt (show k < 2 ^ 31 by omega) (show 8 < 2 ^ 31 by decide), hk, n_zin (show k < 2 ^ 31 by omega), n_tn (show k < 2 ^ 31 by omega), and_self, hQ k hk]
theorem s_outputNo {σ : zS} {X : Nat} (d : Nat) : zEv (d + 1) mX9_outputAt [.inr (.inl (some X)), .inl (iI (-1))] σ = some (some (.inr (.inl none)), σ) := by
  rw [vX9_outputAt]
  unfold fX9_outputAt
  rw [if_pos (by decide)]
theorem s_holds {σ : zS} {X l c r : Nat} {u : Nat → Nat} (hX : TcS σ X) (hU : TcU σ X u) (hB : ∀ k, k < 512 → u k < 2 ^ 31) (hl : l < 8) (hc : c < 8) (hr : r < 8) (d : Nat) : zEv (d + 2) mX9_holds [.inr (.inl (some X)), .inl (nI l), .inl (nI c), .inl (nI r)] σ = some (some (.inl (zb (u (sN l c r) ≠ 0))), σ) := by
  have hs := sN_lt hl hc hr
  have hle : (nI (u (sN l c r)) ≤ nI 0) ↔ u (sN l c r) ≤ 0 := n_le (hB _ hs) (by decide)
  rw [vX9_holds]
  unfold fX9_holds
  simp only [zlt_e, onR_s, nul_s, nul_n, chk_e, bnI_s, bnR_s, bnV_s, zi_si, zi_sr, zi_sl, zi_sa, zi_sq, zr_si, zr_sr, zr_sl, zr_sa, zr_sq, zl_si, zl_sr, zl_sl, zl_sa, zl_sq, zai_si, zai_sr, zai_sl, zai_sa, zai_sq, zar_si, zar_sr, zar_sl, zar_sa, zar_sq, zkd_si, zkd_sr, zkd_sl, zkd_sa, zkd_sq, zln_si, zln_sr, zln_sl, zln_sa, zln_sq, znx_si, znx_sr, znx_sl, znx_sa, znx_sq, s_slotOf, nL 0, n_ofNat, n_lt (show sN l c r < 2 ^ 31 by omega) (show 0 < 2 ^ 31 by decide), Nat.not_lt_zero, if_false, if_true, hX.1, hX.2.2.2.2.1, hX.2.2.2.2.2.1, hX.2.2.2.2.2.2.1, n_lt (show sN l c r < 2 ^ 31 by omega) (show 512 < 2 ^ 31 by decide), hs, n_zin (show sN l c r < 2 ^ 31 by omega), n_tn (show sN l c r < 2 ^ 31 by omega), and_self, hU.2 _ hs, hle]
  by_cases h : u (sN l c r) = 0
  · rw [if_pos (by omega), zb_f (by simpa using h)]
    exact if_pos (c := zB (nI 0)) (Or.inl rfl)
  · rw [if_neg (by omega), if_pos (Or.inr rfl), zb_t h]
def stU (u : Nat → Nat) (k v j : Nat) : Nat := if j = k then v else u j
theorem cnt_st (u : Nat → Nat) (k v n : Nat) (hv : v ≠ 0) (hk : k < n) : cnt (stU u k v) n = cnt u n + if u k = 0 then 1 else 0 := by
  induction n with
  | zero => omega
  | succ n ih =>
    show cnt (stU u k v) n + (if stU u k v n = 0 then 0 else 1) = cnt u n + (if u n = 0 then 0 else 1) + _
    by_cases h : k = n
    · subst h
      have e : cnt (stU u k v) k = cnt u k := cnt_congr k (fun j hj => by unfold stU; rw [if_neg (by omega)])
      have e2 : stU u k v k = v := if_pos rfl
      rw [e, e2, if_neg hv]
      split <;> omega
    · have := ih (by omega)
      have e2 : stU u k v n = u n := if_neg (fun q => h q.symm)
      rw [e2, this]
      omega
theorem s_use {σ : zS} {X k : Nat} (hX : TcS σ X) (hk : k < 512) (d : Nat) : zEv (d + 1) mX9_use [.inr (.inl (some X)), .inl (nI k)] σ = some (none, zsa (zsi σ 453 X (zi σ 453 X + 1)) (X + 2) k (zi σ 453 X + 1)) := by
  rw [vX9_use]
  unfold fX9_use
  simp only [zlt_e, onR_s, nul_s, nul_n, chk_e, bnI_s, bnR_s, bnV_s, zi_si, zi_sr, zi_sl, zi_sa, zi_sq, zr_si, zr_sr, zr_sl, zr_sa, zr_sq, zl_si, zl_sr, zl_sl, zl_sa, zl_sq, zai_si, zai_sr, zai_sl, zai_sa, zai_sq, zar_si, zar_sr, zar_sl, zar_sa, zar_sq, zkd_si, zkd_sr, zkd_sl, zkd_sa, zkd_sq, zln_si, zln_sr, zln_sl, zln_sa, zln_sq, znx_si, znx_sr, znx_sl, znx_sa, znx_sq, nL 0, n_ofNat, n_lt (show k < 2 ^ 31 by omega) (show 0 < 2 ^ 31 by decide), Nat.not_lt_zero, if_false, if_true, hX.1, hX.2.2.2.2.1, hX.2.2.2.2.2.1, hX.2.2.2.2.2.2.1, n_lt (show k < 2 ^ 31 by omega) (show 512 < 2 ^ 31 by decide), hk, n_zin (show k < 2 ^ 31 by omega), n_tn (show k < 2 ^ 31 by omega), and_self]
/-- a tile that is there is asked for -/
def tFo (T : zT) : zT := (tSd T, tLm T, tCk T + 1, tCp T, tFd T + 1, tDr T)
/-- a tile is computed -/
def tCo (T : zT) : zT := (tSd T, tLm T, tCk T + 1, tCp T + 1, tFd T, tDr T)
theorem s_noteFound {σ : zS} {X l c r : Nat} {u : Nat → Nat} {T : zT} (hX : TcS σ X) (hU : TcU σ X u) (hT : TcF σ X T) (hl : l < 8) (hc : c < 8) (hr : r < 8) (hu : u (sN l c r) ≠ 0) (d : Nat) : ∃ τ, zEv (d + 2) mX9_noteFound [.inr (.inl (some X)), .inl (nI l), .inl (nI c), .inl (nI r)] σ = some (none, τ) ∧ zFr (inU X) σ τ ∧ TcU τ X (stU u (sN l c r) (tCk T + 1)) ∧ TcF τ X (tFo T) := by
  have hs := sN_lt hl hc hr
  have P0 : inU X X := Or.inl rfl
  have hF : zFr (inU X) σ (zsi σ 455 X (nI (tFd T + 1))) := zFr.si σ P0
  rw [vX9_noteFound]
  unfold fX9_noteFound
  obtain ⟨t1, t2, t3, t4, t5, t6⟩ := hT
  simp only [zlt_e, onR_s, nul_s, nul_n, chk_e, bnI_s, bnR_s, bnV_s, zi_si, zi_sr, zi_sl, zi_sa, zi_sq, zr_si, zr_sr, zr_sl, zr_sa, zr_sq, zl_si, zl_sr, zl_sl, zl_sa, zl_sq, zai_si, zai_sr, zai_sl, zai_sa, zai_sq, zar_si, zar_sr, zar_sl, zar_sa, zar_sq, zkd_si, zkd_sr, zkd_sl, zkd_sa, zkd_sq, zln_si, zln_sr, zln_sl, zln_sa, zln_sq, znx_si, znx_sr, znx_sl, znx_sa, znx_sq, hX.1, if_true, t5, nI_1, s_slotOf, s_use (hX.fr hF) hs, t3]
  simp only [show ((453 : Nat) = 455) = False from by decide, false_and, if_false, t3, nI_1]
  refine ⟨_, rfl, (hF.tr (zFr.si _ P0)).tr (zFr.sa _ (Or.inr rfl)), ⟨?_, fun k hk => ?_⟩, ?_⟩
  · rw [cnt_st u _ _ 512 (by omega) hs, if_neg hu]
    simp [zi_si, zi_sa, hU.1]
  · rw [zai_sa, zai_si, zai_si]
    unfold stU
    by_cases hk2 : k = sN l c r
    · rw [if_pos ⟨rfl, hk2⟩, if_pos hk2]
    · rw [if_neg (by omega), if_neg hk2]; exact hU.2 k hk
  · unfold TcF tFo tSd tLm tCk tCp tFd tDr at *
    simp [zi_si, zi_sa, t1, t2, t3, t4, t5, t6]
theorem s_noteComputed {σ : zS} {X l c r : Nat} {u : Nat → Nat} {T : zT} (hX : TcS σ X) (hU : TcU σ X u) (hT : TcF σ X T) (hl : l < 8) (hc : c < 8) (hr : r < 8) (hu : u (sN l c r) = 0) (d : Nat) : ∃ τ, zEv (d + 2) mX9_noteComputed [.inr (.inl (some X)), .inl (nI l), .inl (nI c), .inl (nI r)] σ = some (none, τ) ∧ zFr (inU X) σ τ ∧ TcU τ X (stU u (sN l c r) (tCk T + 1)) ∧ TcF τ X (tCo T) := by
  have hs := sN_lt hl hc hr
  have P0 : inU X X := Or.inl rfl
  have hF : zFr (inU X) σ (zsi (zsi σ 454 X (nI (tCp T + 1))) 452 X (nI (cnt u 512 + 1))) := (zFr.si σ P0).tr (zFr.si _ P0)
  rw [vX9_noteComputed]
  unfold fX9_noteComputed
  obtain ⟨t1, t2, t3, t4, t5, t6⟩ := hT
  simp only [zlt_e, onR_s, nul_s, nul_n, chk_e, bnI_s, bnR_s, bnV_s, zi_si, zi_sr, zi_sl, zi_sa, zi_sq, zr_si, zr_sr, zr_sl, zr_sa, zr_sq, zl_si, zl_sr, zl_sl, zl_sa, zl_sq, zai_si, zai_sr, zai_sl, zai_sa, zai_sq, zar_si, zar_sr, zar_sl, zar_sa, zar_sq, zkd_si, zkd_sr, zkd_sl, zkd_sa, zkd_sq, zln_si, zln_sr, zln_sl, zln_sa, zln_sq, znx_si, znx_sr, znx_sl, znx_sa, znx_sq, hX.1, if_true, t4, nI_1]
  simp only [show ((452 : Nat) = 454) = False from by decide, false_and, if_false, hU.1, nI_1]
  simp only [zlt_e, onR_s, nul_s, nul_n, chk_e, bnI_s, bnR_s, bnV_s, zi_si, zi_sr, zi_sl, zi_sa, zi_sq, zr_si, zr_sr, zr_sl, zr_sa, zr_sq, zl_si, zl_sr, zl_sl, zl_sa, zl_sq, zai_si, zai_sr, zai_sl, zai_sa, zai_sq, zar_si, zar_sr, zar_sl, zar_sa, zar_sq, zkd_si, zkd_sr, zkd_sl, zkd_sa, zkd_sq, zln_si, zln_sr, zln_sl, zln_sa, zln_sq, znx_si, znx_sr, znx_sl, znx_sa, znx_sq, hX.1, if_true, s_slotOf, s_use (hX.fr hF) hs]
  simp only [show ((453 : Nat) = 454) = False from by decide, show ((453 : Nat) = 452) = False from by decide, false_and, if_false, t3, nI_1]
  refine ⟨_, rfl, (hF.tr (zFr.si _ P0)).tr (zFr.sa _ (Or.inr rfl)), ⟨?_, fun k hk => ?_⟩, ?_⟩
  · rw [cnt_st u _ _ 512 (by omega) hs, if_pos hu]
    simp [zi_si, zi_sa]
  · rw [zai_sa, zai_si, zai_si, zai_si]
    unfold stU
    by_cases hk2 : k = sN l c r
    · rw [if_pos ⟨rfl, hk2⟩, if_pos hk2]
    · rw [if_neg (by omega), if_neg hk2]; exact hU.2 k hk
  · unfold TcF tCo tSd tLm tCk tCp tFd tDr at *
    simp [zi_si, zi_sa, t1, t2, t3, t4, t5, t6]
/-- how many there are from a on, n places -/
def cnF (u : Nat → Nat) (a n : Nat) : Nat := cnt (fun k => u (a + k)) n
theorem s_tilesOf {σ : zS} {X l : Nat} {u : Nat → Nat} (hX : TcS σ X) (hU : TcU σ X u) (hB : ∀ k, k < 512 → u k < 2 ^ 31) (hl : l < 8) (d : Nat) : zEv (d + 2) mX9_tilesOf [.inr (.inl (some X)), .inl (nI l)] σ = some (some (.inl (nI (cnF u (64 * l) 64))), σ) := by
  rw [vX9_tilesOf]
  unfold fX9_tilesOf
  have e1 : (nI l + 1) * 64 = nI (64 * l + 64) := by rw [nI_1, nL 64, pk_mul]; congr 1; omega
  have e2 : nI (64 * l + 64) - 64 = nI (64 * l) := by rw [nL 64, nI_sub (by omega)]; congr 1
  have e3 : (if (0 : Int32) < nI (64 * l) then nI (64 * l) else 0) = nI (64 * l) := by
    have : ((0 : Int32) < nI (64 * l)) ↔ 0 < 64 * l := n_lt (by decide) (by omega)
    by_cases h : 0 < 64 * l
    · rw [if_pos (this.mpr h)]
    · rw [if_neg (fun q => h (this.mp q)), show 64 * l = 0 by omega]; rfl
  simp only [zlt_e, onR_s, nul_s, nul_n, chk_e, bnI_s, bnR_s, bnV_s, zi_si, zi_sr, zi_sl, zi_sa, zi_sq, zr_si, zr_sr, zr_sl, zr_sa, zr_sq, zl_si, zl_sr, zl_sl, zl_sa, zl_sq, zai_si, zai_sr, zai_sl, zai_sa, zai_sq, zar_si, zar_sr, zar_sl, zar_sa, zar_sq, zkd_si, zkd_sr, zkd_sl, zkd_sa, zkd_sq, zln_si, zln_sr, zln_sl, zln_sa, zln_sq, znx_si, znx_sr, znx_sl, znx_sa, znx_sq, e1, e2, s_max, e3]
  obtain ⟨t, h1, h2⟩ := loop_from (fun k (t : Int32) => LX9_tilesOf_19 (zEv (d + 1)) X (.inl (nI l)) t (nI (64 * l + 64)) (nI (64 * l + k)) σ) (fun k t => t = nI (cnF u (64 * l) k)) 0 64 (fun t => some (some (.inl t), σ)) 0 (by decide) rfl
    (fun k t hk hI => by
      have hI : t = _ := hI
      refine ⟨nI (cnF u (64 * l) (k + 1)), ?_, rfl⟩
      have hle : (nI (u (64 * l + k)) ≤ nI 0) ↔ u (64 * l + k) ≤ 0 := n_le (hB _ (by omega)) (by decide)
      have ea : nI (64 * l + k) + 1 = nI (64 * l + (k + 1)) := nI_1 (64 * l + k)
      show LX9_tilesOf_19 _ _ _ _ _ _ _ = LX9_tilesOf_19 _ _ _ _ _ _ _
      rw [uX9_tilesOf_19]
      simp only [zlt_e, onR_s, nul_s, nul_n, chk_e, bnI_s, bnR_s, bnV_s, zi_si, zi_sr, zi_sl, zi_sa, zi_sq, zr_si, zr_sr, zr_sl, zr_sa, zr_sq, zl_si, zl_sr, zl_sl, zl_sa, zl_sq, zai_si, zai_sr, zai_sl, zai_sa, zai_sq, zar_si, zar_sr, zar_sl, zar_sa, zar_sq, zkd_si, zkd_sr, zkd_sl, zkd_sa, zkd_sq, zln_si, zln_sr, zln_sl, zln_sa, zln_sq, znx_si, znx_sr, znx_sl, znx_sa, znx_sq, nL 0, n_ofNat, n_lt (show 64 * l + k < 2 ^ 31 by omega) (show 64 * l + 64 < 2 ^ 31 by omega), show 64 * l + k < 64 * l + 64 by omega, if_true, hX.1, hX.2.2.2.2.1, hX.2.2.2.2.2.1, hX.2.2.2.2.2.2.1, n_lt (show 64 * l + k < 2 ^ 31 by omega) (show 512 < 2 ^ 31 by decide), show 64 * l + k < 512 by omega, n_zin (show 64 * l + k < 2 ^ 31 by omega), n_tn (show 64 * l + k < 2 ^ 31 by omega), and_self, hU.2 _ (show 64 * l + k < 512 by omega), hle, ea, hI, nI_1]
      have e : cnF u (64 * l) (k + 1) = cnF u (64 * l) k + if u (64 * l + k) = 0 then 0 else 1 := rfl
      by_cases h0 : u (64 * l + k) = 0
      · rw [if_pos (by omega), e, if_pos h0, Nat.add_zero (cnF u (64 * l) k)]
      · rw [if_neg (by omega), e, if_neg h0])
    (fun t hI => by
      rw [uX9_tilesOf_19]
      simp only [n_lt (show 64 * l + 64 < 2 ^ 31 by omega) (show 64 * l + 64 < 2 ^ 31 by omega), Nat.lt_irrefl, if_false])
  have h2 : t = _ := h2
  rw [h2] at h1
  exact h1
def oInt (o : Option Nat) : Int := match o with
  | none => -1
  | some j => j
theorem s_oldestSlot {σ : zS} {X : Nat} {u : Nat → Nat} {T : zT} (hX : TcS σ X) (hU : TcU σ X u) (hT : TcF σ X T) (hB : ∀ k, k < 512 → u k ≤ tCk T) (hC : tCk T < 2 ^ 30) (d : Nat) : zEv (d + 1) mX9_oldestSlot [.inr (.inl (some X))] σ = some (some (.inl (iI (oInt (oldU u 512)))), σ) := by
  rw [vX9_oldestSlot]
  unfold fX9_oldestSlot
  simp only [zlt_e, onR_s, nul_s, nul_n, chk_e, bnI_s, bnR_s, bnV_s, zi_si, zi_sr, zi_sl, zi_sa, zi_sq, zr_si, zr_sr, zr_sl, zr_sa, zr_sq, zl_si, zl_sr, zl_sl, zl_sa, zl_sq, zai_si, zai_sr, zai_sl, zai_sa, zai_sq, zar_si, zar_sr, zar_sl, zar_sa, zar_sq, zkd_si, zkd_sr, zkd_sl, zkd_sa, zkd_sq, zln_si, zln_sr, zln_sl, zln_sa, zln_sq, znx_si, znx_sr, znx_sl, znx_sa, znx_sq, hX.1, if_true, hT.2.2.1, nI_1]
  let ea : Option Nat → Nat := fun o => match o with
    | none => tCk T + 1
    | some j => u j
  obtain ⟨⟨t, e⟩, h1, h2⟩ := loop_from (fun k (s : Int32 × Int32) => LX9_oldestSlot_11 (zEv d) X s.1 s.2 (nI k) σ) (fun k s => s.1 = iI (oInt (oldU u k)) ∧ s.2 = nI (ea (oldU u k))) 0 512 (fun s => some (some (.inl s.1), σ)) (-1, nI (tCk T + 1)) (by decide) ⟨rfl, rfl⟩
    (fun k s hk hI => by
      obtain ⟨i1, i2⟩ := hI
      have huk := hB k hk
      have hle : (nI (u k) ≤ nI 0) ↔ u k ≤ 0 := n_le (by omega) (by decide)
      have e1 : oldU u (k + 1) = match oldU u k with
        | none => if u k = 0 then none else some k
        | some j => if u k = 0 then some j else if u k < u j then some k else some j := rfl
      have hea : ea (oldU u k) < 2 ^ 31 := by
        cases ho : oldU u k with
        | none => show tCk T + 1 < 2 ^ 31; omega
        | some j =>
          have := oldU_lt u k j ho
          have := hB j (by omega)
          show u j < 2 ^ 31; omega
      have hlt : (nI (u k) < nI (ea (oldU u k))) ↔ u k < ea (oldU u k) := n_lt (by omega) hea
      have main : LX9_oldestSlot_11 (zEv d) X s.1 s.2 (nI k) σ = LX9_oldestSlot_11 (zEv d) X (iI (oInt (oldU u (k + 1)))) (nI (ea (oldU u (k + 1)))) (nI (k + 1)) σ := by
        rw [uX9_oldestSlot_11]
        simp only [zlt_e, onR_s, nul_s, nul_n, chk_e, bnI_s, bnR_s, bnV_s, zi_si, zi_sr, zi_sl, zi_sa, zi_sq, zr_si, zr_sr, zr_sl, zr_sa, zr_sq, zl_si, zl_sr, zl_sl, zl_sa, zl_sq, zai_si, zai_sr, zai_sl, zai_sa, zai_sq, zar_si, zar_sr, zar_sl, zar_sa, zar_sq, zkd_si, zkd_sr, zkd_sl, zkd_sa, zkd_sq, zln_si, zln_sr, zln_sl, zln_sa, zln_sq, znx_si, znx_sr, znx_sl, znx_sa, znx_sq, nL 0, n_ofNat, if_true, hX.1, hX.2.2.2.2.1, hX.2.2.2.2.2.1, hX.2.2.2.2.2.2.1, n_lt (show k < 2 ^ 31 by omega) (show 512 < 2 ^ 31 by decide), hk, n_zin (show k < 2 ^ 31 by omega), n_tn (show k < 2 ^ 31 by omega), and_self, hU.2 k hk, hle, i1, i2, hlt, nI_1]
        by_cases h0 : u k = 0
        · rw [if_pos (by omega)]
          have : oldU u (k + 1) = oldU u k := by rw [e1]; cases oldU u k <;> simp [h0]
          rw [this]
        · rw [if_neg (by omega)]
          cases ho : oldU u k with
          | none =>
            have : oldU u (k + 1) = some k := by rw [e1, ho]; simp [h0]
            rw [this, if_pos (show u k < tCk T + 1 by omega)]
            show LX9_oldestSlot_11 _ _ (nI k) _ _ _ = LX9_oldestSlot_11 _ _ (iI (k : Int)) _ _ _
            rw [i_nI]
          | some j =>
            by_cases hj : u k < u j
            · have : oldU u (k + 1) = some k := by rw [e1, ho]; simp [h0, hj]
              rw [this, if_pos (show u k < ea (some j) from hj)]
              show LX9_oldestSlot_11 _ _ (nI k) _ _ _ = LX9_oldestSlot_11 _ _ (iI (k : Int)) _ _ _
              rw [i_nI]
            · have : oldU u (k + 1) = some j := by rw [e1, ho]; simp [h0, hj]
              rw [this, if_neg (show ¬ u k < ea (some j) from hj)]
      exact ⟨(iI (oInt (oldU u (k + 1))), nI (ea (oldU u (k + 1)))), main, rfl, rfl⟩)
    (fun s hI => by
      rw [uX9_oldestSlot_11]
      simp only [zlt_e, onR_s, nul_s, nul_n, chk_e, bnI_s, bnR_s, bnV_s, zi_si, zi_sr, zi_sl, zi_sa, zi_sq, zr_si, zr_sr, zr_sl, zr_sa, zr_sq, zl_si, zl_sr, zl_sl, zl_sa, zl_sq, zai_si, zai_sr, zai_sl, zai_sa, zai_sq, zar_si, zar_sr, zar_sl, zar_sa, zar_sq, zkd_si, zkd_sr, zkd_sl, zkd_sa, zkd_sq, zln_si, zln_sr, zln_sl, zln_sa, zln_sq, znx_si, znx_sr, znx_sl, znx_sa, znx_sq, n_ofNat, if_true, hX.1, hX.2.2.2.2.1, hX.2.2.2.2.2.1, hX.2.2.2.2.2.2.1, n_lt (show 512 < 2 ^ 31 by decide) (show 512 < 2 ^ 31 by decide), Nat.lt_irrefl, if_false])
  have h2 : t = _ ∧ _ := h2
  rw [h2.1] at h1
  exact h1
