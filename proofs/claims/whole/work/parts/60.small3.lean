/-! small calls: counter; the reference's oldest tile and trim -/
def rCtr (A : zW) (x : Int32) : Int32 := if x = 0 then nI (tCp (aT A)) else if x = 1 then nI (tFd (aT A)) else if x = 2 then nI (tDr (aT A)) else -1001
theorem c_counter {σ : zS} {o : Nat} {A : zW} {q u P : Nat → Nat} (hI : CIx σ o A q u P) (x : Int32) (d : Nat) : zOC o (zEv (d + 20) mX10_counter [.inr (.inl (some o)), .inl x] σ) (rCtr A x) A σ := by
  have hR := hI.1
  have hO := hR.1
  have hT := hR.2.2.2.2.2.1
  rw [vX10_counter]
  unfold fX10_counter rCtr
  simp only [zlt_e, onR_s, nul_s, nul_n, chk_e, bnI_s, bnR_s, bnV_s, zi_si, zi_sr, zi_sl, zi_sa, zi_sq, zr_si, zr_sr, zr_sl, zr_sa, zr_sq, zl_si, zl_sr, zl_sl, zl_sa, zl_sq, zai_si, zai_sr, zai_sl, zai_sa, zai_sq, zar_si, zar_sr, zar_sl, zar_sa, zar_sq, zkd_si, zkd_sr, zkd_sl, zkd_sa, zkd_sq, zln_si, zln_sr, zln_sl, zln_sa, zln_sq, znx_si, znx_sr, znx_sl, znx_sa, znx_sq, hO.f.1, hO.f.2.2.2.2.2.2.1, hO.tc.1, if_true, hT.2.2.2.1, hT.2.2.2.2.1, hT.2.2.2.2.2]
  by_cases h0 : x = 0
  · rw [if_pos h0, if_pos h0]; exact ⟨σ, q, u, P, rfl, hI, zFr.rf σ⟩
  rw [if_neg h0, if_neg h0]
  by_cases h1 : x = 1
  · rw [if_pos h1, if_pos h1]; exact ⟨σ, q, u, P, rfl, hI, zFr.rf σ⟩
  rw [if_neg h1, if_neg h1]
  by_cases h2 : x = 2
  · rw [if_pos h2, if_pos h2]; exact ⟨σ, q, u, P, rfl, hI, zFr.rf σ⟩
  rw [if_neg h2, if_neg h2]; exact ⟨σ, q, u, P, rfl, hI, zFr.rf σ⟩
theorem m_counter {σ : zS} {m : Nat} {A : zW} (hI : MIx σ m A) (x : Int32) (d : Nat) : zOM m (zEv (d + 20) mX11_counter [.inr (.inl (some m)), .inl x] σ) (rCtr A x) A σ := by
  have hI1 := hI.th
  have g0 : zFr (fun a => m ≤ a ∧ a < m + 22) σ (zsi σ 576 m 0) := zFr.si σ (by omega)
  have w1 : ((0 : Int32) ≤ x ∧ x ≤ 2) ↔ 0 ≤ x.toInt ∧ x.toInt ≤ 2 := w_in (a := 0) (b := 2) (by decide) (by decide) (by decide) (by decide)
  obtain ⟨-, -, -, z7, z8, z9⟩ := hI.2.2.2.2
  have t0 : (0 : Int32).toNatClampNeg = 0 := rfl
  have t1 : (1 : Int32).toNatClampNeg = 1 := rfl
  have t2 : (2 : Int32).toNatClampNeg = 2 := rfl
  have i0 : zin 0 3 = True := eq_true (by decide)
  have i1 : zin 1 3 = True := eq_true (by decide)
  have i2 : zin 2 3 = True := eq_true (by decide)
  rw [vX11_counter]
  unfold fX11_counter rCtr
  simp only [zlt_e, onR_s, nul_s, nul_n, chk_e, bnI_s, bnR_s, bnV_s, zi_si, zi_sr, zi_sl, zi_sa, zi_sq, zr_si, zr_sr, zr_sl, zr_sa, zr_sq, zl_si, zl_sr, zl_sl, zl_sa, zl_sq, zai_si, zai_sr, zai_sl, zai_sa, zai_sq, zar_si, zar_sr, zar_sl, zar_sa, zar_sq, zkd_si, zkd_sr, zkd_sl, zkd_sa, zkd_sq, zln_si, zln_sr, zln_sl, zln_sa, zln_sq, znx_si, znx_sr, znx_sl, znx_sa, znx_sq, hI.1.k, if_true, s_in, zb_0, w1]
  by_cases h0 : x = 0
  · subst h0
    rw [if_neg (by decide), if_pos rfl]
    simp only [onR_s, hI.1.ct.1, hI.1.ct.2.1, hI.1.ct.2.2, i0, t0, and_self, if_true, z7]
    exact ⟨_, rfl, hI1, g0⟩
  by_cases h1 : x = 1
  · subst h1
    rw [if_neg (by decide), if_neg (by decide), if_pos rfl]
    simp only [onR_s, hI.1.ct.1, hI.1.ct.2.1, hI.1.ct.2.2, i1, t1, and_self, if_true, z8]
    exact ⟨_, rfl, hI1, g0⟩
  by_cases h2 : x = 2
  · subst h2
    rw [if_neg (by decide), if_neg (by decide), if_neg (by decide), if_pos rfl]
    simp only [onR_s, hI.1.ct.1, hI.1.ct.2.1, hI.1.ct.2.2, i2, t2, and_self, if_true, z9]
    exact ⟨_, rfl, hI1, g0⟩
  rw [if_neg h0, if_neg h1, if_neg h2, if_pos (fun q => by
    have ex := i_of x
    rcases (by omega : x.toInt = 0 ∨ x.toInt = 1 ∨ x.toInt = 2) with e | e | e <;> rw [e] at ex
    · exact h0 ex
    · exact h1 ex
    · exact h2 ex)]
  exact ⟨_, rfl, hI1, g0⟩
def oMInt (o : Option Nat) : Int := match o with
  | none => -1009
  | some j => j
theorem s_moldest {σ : zS} {m B : Nat} {u : Nat → Nat} (hM : MS σ m) (hU : MU σ m u) (hB : ∀ k, k < 512 → u k ≤ B) (hB2 : B < 2 ^ 30) (d : Nat) : zEv (d + 1) mX11_oldest [.inr (.inl (some m))] σ = some (some (.inl (iI (oMInt (oldU u 512)))), σ) := by
  rw [vX11_oldest]
  unfold fX11_oldest
  simp only [zlt_e, onR_s, nul_s, nul_n, chk_e, bnI_s, bnR_s, bnV_s, zi_si, zi_sr, zi_sl, zi_sa, zi_sq, zr_si, zr_sr, zr_sl, zr_sa, zr_sq, zl_si, zl_sr, zl_sl, zl_sa, zl_sq, zai_si, zai_sr, zai_sl, zai_sa, zai_sq, zar_si, zar_sr, zar_sl, zar_sa, zar_sq, zkd_si, zkd_sr, zkd_sl, zkd_sa, zkd_sq, zln_si, zln_sr, zln_sl, zln_sa, zln_sq, znx_si, znx_sr, znx_sl, znx_sa, znx_sq]
  obtain ⟨t, h1, h2⟩ := loop_from (fun k (t : Int32) => LX11_oldest_6 (zEv d) m t (nI k) σ) (fun k t => t = iI (oMInt (oldU u k))) 0 512 (fun t => some (some (.inl t), σ)) (-1009) (by decide) rfl
    (fun k t hk hI => by
      have hI : t = _ := hI
      have huk := hB k hk
      have hle : (nI (u k) ≤ nI 0) ↔ u k ≤ 0 := n_le (by omega) (by decide)
      have e1 : oldU u (k + 1) = match oldU u k with
        | none => if u k = 0 then none else some k
        | some j => if u k = 0 then some j else if u k < u j then some k else some j := rfl
      have main : LX11_oldest_6 (zEv d) m t (nI k) σ = LX11_oldest_6 (zEv d) m (iI (oMInt (oldU u (k + 1)))) (nI (k + 1)) σ := by
        rw [uX11_oldest_6, hI]
        simp only [zlt_e, onR_s, nul_s, nul_n, chk_e, bnI_s, bnR_s, bnV_s, zi_si, zi_sr, zi_sl, zi_sa, zi_sq, zr_si, zr_sr, zr_sl, zr_sa, zr_sq, zl_si, zl_sr, zl_sl, zl_sa, zl_sq, zai_si, zai_sr, zai_sl, zai_sa, zai_sq, zar_si, zar_sr, zar_sl, zar_sa, zar_sq, zkd_si, zkd_sr, zkd_sl, zkd_sa, zkd_sq, zln_si, zln_sr, zln_sl, zln_sa, zln_sq, znx_si, znx_sr, znx_sl, znx_sa, znx_sq, nL 0, nL 512, n_lt (show k < 2 ^ 31 by omega) (show 512 < 2 ^ 31 by decide), hk, if_true, hM.k, hM.u.1, hM.u.2.1, hM.u.2.2, n_zin (show k < 2 ^ 31 by omega), n_tn (show k < 2 ^ 31 by omega), and_self, hU k hk, hle, nI_1]
        by_cases h0 : u k = 0
        · rw [if_pos (by omega)]
          have : oldU u (k + 1) = oldU u k := by rw [e1]; cases oldU u k <;> simp [h0]
          rw [this]
        · rw [if_neg (by omega)]
          cases ho : oldU u k with
          | none =>
            have : oldU u (k + 1) = some k := by rw [e1, ho]; simp [h0]
            rw [this, if_pos (show iI (oMInt none) = (-1009 : Int32) from rfl)]
            show LX11_oldest_6 _ _ (nI k) _ _ = LX11_oldest_6 _ _ (iI (k : Int)) _ _
            rw [i_nI]
          | some j =>
            have hj := oldU_lt u k j ho
            have huj := hB j (by omega)
            have ej : iI (oMInt (some j)) = nI j := (i_nI j).symm
            have en : ¬ (nI j = (-1009 : Int32)) := by
              rw [i_nI, show (-1009 : Int32) = iI (-1009) from rfl, i_eq (by omega) (by omega) (by decide) (by decide)]
              omega
            rw [ej, if_neg en]
            simp only [n_zin (show j < 2 ^ 31 by omega), n_tn (show j < 2 ^ 31 by omega), show j < 512 by omega, and_self, if_true, hU j (by omega), n_lt (show u k < 2 ^ 31 by omega) (show u j < 2 ^ 31 by omega)]
            by_cases hlt : u k < u j
            · have : oldU u (k + 1) = some k := by rw [e1, ho]; simp [h0, hlt]
              rw [this, if_pos hlt]
              show LX11_oldest_6 _ _ (nI k) _ _ = LX11_oldest_6 _ _ (iI (k : Int)) _ _
              rw [i_nI]
            · have : oldU u (k + 1) = some j := by rw [e1, ho]; simp [h0, hlt]
              rw [this, if_neg hlt, ej]
      exact ⟨_, main, rfl⟩)
    (fun t hI => by
      rw [uX11_oldest_6, if_neg (by decide)])
  have h2 : t = _ := h2
  rw [h2] at h1
  exact h1
