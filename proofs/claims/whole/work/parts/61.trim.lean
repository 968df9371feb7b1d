/-! the reference's count of tiles, and its trim -/
theorem s_mcached {σ : zS} {m : Nat} {u : Nat → Nat} (hM : MS σ m) (hU : MU σ m u) (hB : ∀ k, k < 512 → u k < 2 ^ 31) (d : Nat) : zEv (d + 1) mX11_cached [.inr (.inl (some m))] σ = some (some (.inl (nI (cnt u 512))), σ) := by
  rw [vX11_cached]
  unfold fX11_cached
  simp only [zlt_e, onR_s, nul_s, nul_n, chk_e, bnI_s, bnR_s, bnV_s, zi_si, zi_sr, zi_sl, zi_sa, zi_sq, zr_si, zr_sr, zr_sl, zr_sa, zr_sq, zl_si, zl_sr, zl_sl, zl_sa, zl_sq, zai_si, zai_sr, zai_sl, zai_sa, zai_sq, zar_si, zar_sr, zar_sl, zar_sa, zar_sq, zkd_si, zkd_sr, zkd_sl, zkd_sa, zkd_sq, zln_si, zln_sr, zln_sl, zln_sa, zln_sq, znx_si, znx_sr, znx_sl, znx_sa, znx_sq]
  obtain ⟨t, h1, h2⟩ := loop_from (fun k (t : Int32) => LX11_cached_4 (zEv d) m t (nI k) σ) (fun k t => t = nI (cnt u k)) 0 512 (fun t => some (some (.inl t), σ)) 0 (by decide) rfl
    (fun k t hk hI => by
      have hI : t = _ := hI
      have hle : (nI (u k) ≤ nI 0) ↔ u k ≤ 0 := n_le (hB k hk) (by decide)
      refine ⟨nI (cnt u (k + 1)), ?_, rfl⟩
      show LX11_cached_4 _ _ _ _ _ = LX11_cached_4 _ _ _ _ _
      rw [uX11_cached_4, hI]
      simp only [zlt_e, onR_s, nul_s, nul_n, chk_e, bnI_s, bnR_s, bnV_s, zi_si, zi_sr, zi_sl, zi_sa, zi_sq, zr_si, zr_sr, zr_sl, zr_sa, zr_sq, zl_si, zl_sr, zl_sl, zl_sa, zl_sq, zai_si, zai_sr, zai_sl, zai_sa, zai_sq, zar_si, zar_sr, zar_sl, zar_sa, zar_sq, zkd_si, zkd_sr, zkd_sl, zkd_sa, zkd_sq, zln_si, zln_sr, zln_sl, zln_sa, zln_sq, znx_si, znx_sr, znx_sl, znx_sa, znx_sq, nL 0, nL 512, n_lt (show k < 2 ^ 31 by omega) (show 512 < 2 ^ 31 by decide), hk, if_true, hM.k, hM.u.1, hM.u.2.1, hM.u.2.2, n_zin (show k < 2 ^ 31 by omega), n_tn (show k < 2 ^ 31 by omega), and_self, hU k hk, hle, nI_1, nI_add]
      have e : cnt u (k + 1) = cnt u k + if u k = 0 then 0 else 1 := rfl
      by_cases h0 : u k = 0
      · rw [if_pos (by omega), e, if_pos h0]
      · rw [if_neg (by omega), e, if_neg h0])
    (fun t hI => by
      rw [uX11_cached_4, if_neg (by decide)])
  have h2 : t = _ := h2
  rw [h2] at h1
  exact h1
theorem s_mtrim {σ : zS} {m B lm dr : Nat} {u : Nat → Nat} (hM : MS σ m) (hU : MU σ m u) (hB : ∀ k, k < 512 → u k ≤ B) (hB2 : B < 2 ^ 30) (hL : zi σ 585 m = nI lm) (hl : lm < 1000) (hD : zai σ (m + 7) 2 = nI dr) (d : Nat) : ∃ τ, zEv (d + 2) mX11_trim [.inr (.inl (some m))] σ = some (some (.inl (nI (cnt u 512 - lm))), τ) ∧ zFr (fun x => x = m + 6 ∨ x = m + 7) σ τ ∧ (∀ f x, zi τ f x = zi σ f x) ∧ MU τ m (drpU 512 u (cnt u 512 - lm)) ∧ zai τ (m + 7) 0 = zai σ (m + 7) 0 ∧ zai τ (m + 7) 1 = zai σ (m + 7) 1 ∧ zai τ (m + 7) 2 = nI (dr + (cnt u 512 - lm)) := by
  have hc := cnt_le u 512
  have t2 : (2 : Int32).toNatClampNeg = 2 := rfl
  have i2 : zin 2 3 = True := eq_true (by decide)
  rw [vX11_trim]
  unfold fX11_trim
  simp only [zlt_e, onR_s, nul_s, nul_n, chk_e, bnI_s, bnR_s, bnV_s, zi_si, zi_sr, zi_sl, zi_sa, zi_sq, zr_si, zr_sr, zr_sl, zr_sa, zr_sq, zl_si, zl_sr, zl_sl, zl_sa, zl_sq, zai_si, zai_sr, zai_sl, zai_sa, zai_sq, zar_si, zar_sr, zar_sl, zar_sa, zar_sq, zkd_si, zkd_sr, zkd_sl, zkd_sa, zkd_sq, zln_si, zln_sr, zln_sl, zln_sa, zln_sq, znx_si, znx_sr, znx_sl, znx_sa, znx_sq, hM.k, if_true, s_mcached hM hU (fun k hk => by have := hB k hk; omega), hL]
  -- n more
  have go : ∀ n k (u : Nat → Nat) (τ : zS), k + n < 2 ^ 30 → n ≤ cnt u 512 → zFr (fun x => x = m + 6 ∨ x = m + 7) σ τ → (∀ f x, zi τ f x = zi σ f x) → MU τ m u → (∀ k, k < 512 → u k ≤ B) → (zai τ (m + 7) 0 = zai σ (m + 7) 0 ∧ zai τ (m + 7) 1 = zai σ (m + 7) 1) → zai τ (m + 7) 2 = nI (dr + k) → ∃ υ, LX11_trim_12 (zEv (d + 1)) m (nI k) (nI n) τ = some (some (.inl (nI (k + n))), υ) ∧ zFr (fun x => x = m + 6 ∨ x = m + 7) σ υ ∧ (∀ f x, zi υ f x = zi σ f x) ∧ MU υ m (drpU 512 u n) ∧ zai υ (m + 7) 0 = zai σ (m + 7) 0 ∧ zai υ (m + 7) 1 = zai σ (m + 7) 1 ∧ zai υ (m + 7) 2 = nI (dr + (k + n)) := by
    intro n
    induction n with
    | zero =>
      intro k u τ hk hn g gi gU gB gc gd
      refine ⟨τ, ?_, g, gi, gU, gc.1, gc.2, gd⟩
      rw [uX11_trim_12, if_pos (by decide)]
      rfl
    | succ n ih =>
      intro k u τ hk hn g gi gU gB gc gd
      have hM' := hM.fr g
      cases ho : oldU u 512 with
      | none =>
        have := oldU_none u 512 ho
        omega
      | some j =>
        have hj := oldU_lt u 512 j ho
        have ec := cnt_old ho
        have eo : iI (oMInt (some j)) = nI j := (i_nI j).symm
        have gs : zFr (fun x => x = m + 6 ∨ x = m + 7) τ (zsa (zsa τ (m + 6) j 0) (m + 7) 2 (nI (dr + k) + 1)) := (zFr.sa _ (Or.inl rfl)).tr (zFr.sa _ (Or.inr rfl))
        obtain ⟨υ, a1, a2, a3, a4, a5⟩ := ih (k + 1) (clr u j) (zsa (zsa τ (m + 6) j 0) (m + 7) 2 (nI (dr + k) + 1)) (by omega) (by omega) (g.tr gs) gi (fun i hi => by
          rw [zai_sa, if_neg (by omega), zai_sa]
          unfold clr
          by_cases e : i = j
          · rw [if_pos ⟨rfl, e⟩, if_pos e]; rfl
          · rw [if_neg (by omega), if_neg e]; exact gU i hi) (clr_le gB j) ⟨by rw [zai_sa, if_neg (by omega), zai_sa, if_neg (by omega)]; exact gc.1, by rw [zai_sa, if_neg (by omega), zai_sa, if_neg (by omega)]; exact gc.2⟩ (by rw [zai_sa, if_pos ⟨rfl, rfl⟩, nI_1]; rfl)
        rw [show k + (n + 1) = k + 1 + n by omega, drpU_some n ho]
        refine ⟨υ, ?_, a2, a3, a4, a5⟩
        have hne : (m + 7 = m + 6) = False := eq_false (by omega)
        have hle : ¬ (nI (n + 1) ≤ 0) := by
          have : (nI (n + 1) ≤ (0 : Int32)) ↔ n + 1 ≤ 0 := n_le (by omega) (by decide)
          rw [this]; omega
        rw [uX11_trim_12, if_neg hle]
        simp only [zlt_e, onR_s, nul_s, nul_n, chk_e, bnI_s, bnR_s, bnV_s, zi_si, zi_sr, zi_sl, zi_sa, zi_sq, zr_si, zr_sr, zr_sl, zr_sa, zr_sq, zl_si, zl_sr, zl_sl, zl_sa, zl_sq, zai_si, zai_sr, zai_sl, zai_sa, zai_sq, zar_si, zar_sr, zar_sl, zar_sa, zar_sq, zkd_si, zkd_sr, zkd_sl, zkd_sa, zkd_sq, zln_si, zln_sr, zln_sl, zln_sa, zln_sq, znx_si, znx_sr, znx_sl, znx_sa, znx_sq, hM'.k, if_true, s_moldest hM' gU gB hB2, ho, eo, hM'.u.1, hM'.u.2.1, hM'.u.2.2, hM'.ct.1, hM'.ct.2.1, hM'.ct.2.2, n_zin (show j < 2 ^ 31 by omega), n_tn (show j < 2 ^ 31 by omega), hj.1, and_self, i2, t2, hne, false_and, if_false, gd, nI_p]
        rw [nI_1 k]
        exact a1
  by_cases hlt : lm ≤ cnt u 512
  · rw [nI_sub hlt]
    obtain ⟨υ, a1, a2⟩ := go (cnt u 512 - lm) 0 u σ (by omega) (by omega) (zFr.rf σ) (fun _ _ => rfl) hU hB ⟨rfl, rfl⟩ hD
    rw [Nat.zero_add] at a1 a2
    exact ⟨υ, a1, a2⟩
  · have e0 : cnt u 512 - lm = 0 := by omega
    rw [e0]
    refine ⟨σ, ?_, zFr.rf σ, fun _ _ => rfl, hU, rfl, rfl, hD⟩
    have hle : nI (cnt u 512) - nI lm ≤ 0 := by
      rw [i_nI, i_nI lm, i_sub, show (0 : Int32) = iI 0 from rfl, i_le (by omega) (by omega) (by decide) (by decide)]
      omega
    rw [uX11_trim_12, if_pos hle]
    rfl
