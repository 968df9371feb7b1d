/-! the reference: what it keeps, and its tiles -/
theorem MV.copy {σ τ : zS} {a b a' b' : Nat} {C : zC} (h : MV σ a b C) (hw : cW C ≤ 16) (hh : cH C ≤ 16) (hn8 : cN C ≤ 8) (e : ∀ j, j < 515 → zai τ a' (b' + j) = zai σ a (b + j)) : MV τ a' b' C := by
  refine ⟨(e 0 (by decide)).trans h.1, (e 1 (by decide)).trans h.2.1, fun x y hx hy => ?_, (e 258 (by decide)).trans h.2.2.2.1, fun i hi j hj => ?_⟩
  · have := lin256 hw hh hx hy
    rw [Nat.add_assoc, e _ (by omega), ← Nat.add_assoc]
    exact h.2.2.1 x y hx hy
  · rw [Nat.add_assoc, Nat.add_assoc, e _ (by omega), ← Nat.add_assoc, ← Nat.add_assoc]
    exact h.2.2.2.2 i hi j hj
def MU (σ : zS) (m : Nat) (u : Nat → Nat) : Prop := ∀ k, k < 512 → zai σ (m + 6) k = nI (u k)
theorem s_mremoveTiles {σ : zS} {m a : Nat} {u : Nat → Nat} (hM : MS σ m) (hU : MU σ m u) (hB : ∀ k, k < 512 → u k < 2 ^ 31) (ha : a ≤ 8) (d : Nat) : ∃ τ n, zEv (d + 1) mX11_removeTiles [.inr (.inl (some m)), .inl (nI a), .inl 7] σ = some (some (.inl (nI n)), τ) ∧ zFr (fun x => x = m + 6) σ τ ∧ (∀ f x, zi τ f x = zi σ f x) ∧ MU τ m (zrU u (64 * a) 512) ∧ n + cnt (zrU u (64 * a) 512) 512 = cnt u 512 := by
  have e64 : (64 : Int32) * nI a = nI (64 * a) := pk_mul 64 a
  have e8 : (64 : Int32) * (7 + 1) = nI 512 := by decide
  rw [vX11_removeTiles]
  unfold fX11_removeTiles
  simp only [zlt_e, onR_s, nul_s, nul_n, chk_e, bnI_s, bnR_s, bnV_s, zi_si, zi_sr, zi_sl, zi_sa, zi_sq, zr_si, zr_sr, zr_sl, zr_sa, zr_sq, zl_si, zl_sr, zl_sl, zl_sa, zl_sq, zai_si, zai_sr, zai_sl, zai_sa, zai_sq, zar_si, zar_sr, zar_sl, zar_sa, zar_sq, zkd_si, zkd_sr, zkd_sl, zkd_sa, zkd_sq, zln_si, zln_sr, zln_sl, zln_sa, zln_sq, znx_si, znx_sr, znx_sl, znx_sa, znx_sq, e64]
  obtain ⟨⟨τ, n⟩, h1, h2⟩ := loop_ge (fun k (s : zS × Nat) => LX11_removeTiles_8 (zEv d) m (.inl (nI a)) 7 (nI s.2) (nI k) s.1) (fun k s => zFr (fun x => x = m + 6) σ s.1 ∧ (∀ f x, zi s.1 f x = zi σ f x) ∧ MU s.1 m (zrU u (64 * a) k) ∧ s.2 + cnt (zrU u (64 * a) k) 512 = cnt u 512) (64 * a) 512 (fun s => some (some (.inl (nI s.2)), s.1)) (σ, 0) (by omega) ⟨zFr.rf σ, fun _ _ => rfl, fun k hk => by rw [hU k hk]; unfold zrU; rw [if_neg (by omega)], by
      show 0 + _ = _
      rw [Nat.zero_add]
      exact cnt_congr 512 (fun k hk => by unfold zrU; rw [if_neg (by omega)])⟩
    (fun k s hak hk hI => by
      obtain ⟨g, gi, gU, gn⟩ := hI
      have hM' := hM.fr g
      have hz : zrU u (64 * a) k k = u k := by unfold zrU; rw [if_neg (by omega)]
      have ev : zai s.1 (m + 6) k = nI (u k) := by rw [gU k hk, hz]
      have hle : (nI (u k) ≤ 0) ↔ u k ≤ 0 := n_le (hB k hk) (by decide)
      have e : ∀ j, j < 512 → clr (zrU u (64 * a) k) k j = zrU u (64 * a) (k + 1) j := fun j hj => by
        unfold clr zrU
        by_cases hjk : j = k
        · rw [if_pos hjk, if_pos (by omega)]
        · rw [if_neg hjk]
          by_cases hj2 : 64 * a ≤ j ∧ j < k
          · rw [if_pos hj2, if_pos (by omega)]
          · rw [if_neg hj2, if_neg (by omega)]
      have ec := cnt_clr (zrU u (64 * a) k) k 512 hk
      rw [cnt_congr 512 (fun j hj => by rw [e j hj]), hz] at ec
      refine ⟨(zsa s.1 (m + 6) k 0, s.2 + (if u k = 0 then 0 else 1)), ?_, g.tr (zFr.sa _ rfl), gi, fun j hj => ?_, ?_⟩
      · show LX11_removeTiles_8 _ _ _ _ _ _ _ = LX11_removeTiles_8 _ _ _ _ _ _ _
        rw [uX11_removeTiles_8, e8]
        simp only [zlt_e, onR_s, nul_s, nul_n, chk_e, bnI_s, bnR_s, bnV_s, zi_si, zi_sr, zi_sl, zi_sa, zi_sq, zr_si, zr_sr, zr_sl, zr_sa, zr_sq, zl_si, zl_sr, zl_sl, zl_sa, zl_sq, zai_si, zai_sr, zai_sl, zai_sa, zai_sq, zar_si, zar_sr, zar_sl, zar_sa, zar_sq, zkd_si, zkd_sr, zkd_sl, zkd_sa, zkd_sq, zln_si, zln_sr, zln_sl, zln_sa, zln_sq, znx_si, znx_sr, znx_sl, znx_sa, znx_sq, n_lt (show k < 2 ^ 31 by omega) (show 512 < 2 ^ 31 by decide), hk, if_true, hM'.k, hM'.u.1, hM'.u.2.1, hM'.u.2.2, n_zin (show k < 2 ^ 31 by omega), n_tn (show k < 2 ^ 31 by omega), and_self, ev, hle, nI_1]
        by_cases h0 : u k = 0
        · rw [if_pos (by omega), if_pos h0]
          have : nI s.2 + 0 = nI (s.2 + 0) := nI_add s.2 0
          rw [this]
        · rw [if_neg (by omega), if_neg h0]
      · rw [zai_sa]
        by_cases hjk : j = k
        · rw [if_pos ⟨rfl, hjk⟩, hjk]
          unfold zrU
          rw [if_pos (by omega)]
          rfl
        · rw [if_neg (by omega), gU j hj, ← e j hj]
          unfold clr
          rw [if_neg hjk]
      · have gn : s.2 + cnt (zrU u (64 * a) k) 512 = cnt u 512 := gn
        show s.2 + _ + _ = _
        omega)
    (fun s hI => by
      rw [uX11_removeTiles_8, e8]
      simp only [n_lt (show 512 < 2 ^ 31 by decide) (show 512 < 2 ^ 31 by decide), Nat.lt_irrefl, if_false])
  exact ⟨τ, n, h1, h2⟩
/-- the states that undo can bring back -/
def MH (σ : zS) (m n : Nat) (K : Nat → zC) : Prop := zi σ 579 m = nI n ∧ ∀ i, i < n → MV σ (m + 2) (515 * i) (K i)
theorem s_keep {σ : zS} {m n : Nat} {K : Nat → zC} {C : zC} (hM : MS σ m) (hV : MV σ (m + 1) 0 C) (G : GC C) (hH : MH σ m n K) (hn6 : n ≤ 6) (hK : ∀ i, i < n → GC (K i)) (d : Nat) : ∃ τ, zEv (d + 1) mX11_keep [.inr (.inl (some m))] σ = some (none, τ) ∧ zFr (fun x => x = m ∨ x = m + 2) σ τ ∧ (∀ f, f ≠ 579 → zi τ f m = zi σ f m) ∧ MH τ m (psN n) (psK n K C) := by
  -- the last part, where there is room
  have fin : ∀ (τ : zS) (n : Nat) (K : Nat → zC), n < 6 → (∀ i, i < n → GC (K i)) → zFr (fun x => x = m ∨ x = m + 2) σ τ → (∀ f, f ≠ 579 → zi τ f m = zi σ f m) → MH τ m n K → ∃ υ, LX11_keep_52 (zEv d) m 0 τ = some (none, υ) ∧ zFr (fun x => x = m ∨ x = m + 2) σ υ ∧ (∀ f, f ≠ 579 → zi υ f m = zi σ f m) ∧ MH υ m (n + 1) (fun i => if i < n then K i else C) := by
    intro τ n K hn hK g gf hH
    have hV' : MV τ (m + 1) 0 C := hV.fr g (by omega)
    obtain ⟨υ, h1, h2⟩ := loop_from (fun j υ => LX11_keep_52 (zEv d) m (nI j) υ) (fun j υ => zFr (fun x => x = m + 2) τ υ ∧ (∀ f x, zi υ f x = zi τ f x) ∧ (∀ i, i < 515 * n → zai υ (m + 2) i = zai τ (m + 2) i) ∧ ∀ i, i < j → zai υ (m + 2) (515 * n + i) = zai τ (m + 1) (0 + i)) 0 515 (fun υ => some (none, zsi υ 579 m (nI (n + 1)))) τ (by decide) ⟨zFr.rf τ, fun _ _ => rfl, fun _ _ => rfl, fun i hi => absurd hi (Nat.not_lt_zero _)⟩
      (fun j υ hj hI => by
        obtain ⟨k, ki, kl, ka⟩ := hI
        have hM' := (hM.fr g).fr k
        have en : zi υ 579 m = nI n := (ki _ _).trans hH.1
        have e515 : (515 : Int32) * nI n = nI (515 * n) := pk_mul 515 n
        refine ⟨zsa υ (m + 2) (515 * n + j) (zai υ (m + 1) j), ?_, k.tr (zFr.sa _ rfl), ki, fun i hi => by rw [zai_sa, if_neg (by omega)]; exact kl i hi, fun i hi => ?_⟩
        · show LX11_keep_52 _ _ _ _ = LX11_keep_52 _ _ _ _
          rw [uX11_keep_52]
          simp only [zlt_e, onR_s, nul_s, nul_n, chk_e, bnI_s, bnR_s, bnV_s, zi_si, zi_sr, zi_sl, zi_sa, zi_sq, zr_si, zr_sr, zr_sl, zr_sa, zr_sq, zl_si, zl_sr, zl_sl, zl_sa, zl_sq, zai_si, zai_sr, zai_sl, zai_sa, zai_sq, zar_si, zar_sr, zar_sl, zar_sa, zar_sq, zkd_si, zkd_sr, zkd_sl, zkd_sa, zkd_sq, zln_si, zln_sr, zln_sl, zln_sa, zln_sq, znx_si, znx_sr, znx_sl, znx_sa, znx_sq, en, e515, nI_add]
          rw [if_pos (show nI j < 515 from (n_lt (show j < 2 ^ 31 by omega) (show 515 < 2 ^ 31 by decide)).mpr hj)]
          simp only [hM'.k, hM'.s.1, hM'.s.2.1, hM'.s.2.2, hM'.sv.1, hM'.sv.2.1, hM'.sv.2.2, onR_s, if_true, n_zin (show j < 2 ^ 31 by omega), n_tn (show j < 2 ^ 31 by omega), hj, n_zin (show 515 * n + j < 2 ^ 31 by omega), n_tn (show 515 * n + j < 2 ^ 31 by omega), show 515 * n + j < 3090 by omega, and_self, nI_1]
        · rw [zai_sa]
          by_cases e : i = j
          · rw [if_pos ⟨rfl, by omega⟩, e, Nat.zero_add]
            exact k.ai (by omega) _
          · rw [if_neg (by omega)]
            exact ka i (by omega))
      (fun υ hI => by
        have hM' := (hM.fr g).fr hI.1
        have en : zi υ 579 m = nI n := (hI.2.1 _ _).trans hH.1
        rw [uX11_keep_52, if_neg (by decide)]
        simp only [zlt_e, onR_s, nul_s, nul_n, chk_e, bnI_s, bnR_s, bnV_s, zi_si, zi_sr, zi_sl, zi_sa, zi_sq, zr_si, zr_sr, zr_sl, zr_sa, zr_sq, zl_si, zl_sr, zl_sl, zl_sa, zl_sq, zai_si, zai_sr, zai_sl, zai_sa, zai_sq, zar_si, zar_sr, zar_sl, zar_sa, zar_sq, zkd_si, zkd_sr, zkd_sl, zkd_sa, zkd_sq, zln_si, zln_sr, zln_sl, zln_sa, zln_sq, znx_si, znx_sr, znx_sl, znx_sa, znx_sq, hM'.k, if_true, en, nI_1])
    obtain ⟨k, ki, kl, ka⟩ := h2
    have hF : zFr (fun x => x = m ∨ x = m + 2) υ (zsi υ 579 m (nI (n + 1))) := zFr.si _ (Or.inl rfl)
    refine ⟨_, h1, (g.tr (k.mono (fun a ha => Or.inr ha))).tr hF, fun f hf => ?_, by rw [zi_si, if_pos ⟨rfl, rfl⟩], fun i hi => ?_⟩
    · rw [zi_si, if_neg (by omega), ki]; exact gf f hf
    · by_cases hin : i < n
      · show MV _ _ _ (if i < n then K i else C)
        rw [if_pos hin]
        have hG := hK i hin
        exact (hH.2 i hin).copy hG.1.2 hG.2.1.2 hG.2.2.1 (fun j hj => by
          show zai υ (m + 2) (515 * i + j) = _
          have : 515 * i + 515 ≤ 515 * n := by omega
          exact kl _ (by omega))
      · have e : i = n := by omega
        show MV _ _ _ (if i < n then K i else C)
        rw [if_neg hin, e]
        exact hV'.copy G.1.2 G.2.1.2 G.2.2.1 (fun j hj => ka j hj)
  rw [vX11_keep]
  unfold fX11_keep
  have e6 : (nI n = 6) ↔ n = 6 := n_eq (by omega) (by decide)
  simp only [zlt_e, onR_s, nul_s, nul_n, chk_e, bnI_s, bnR_s, bnV_s, zi_si, zi_sr, zi_sl, zi_sa, zi_sq, zr_si, zr_sr, zr_sl, zr_sa, zr_sq, zl_si, zl_sr, zl_sl, zl_sa, zl_sq, zai_si, zai_sr, zai_sl, zai_sa, zai_sq, zar_si, zar_sr, zar_sl, zar_sa, zar_sq, zkd_si, zkd_sr, zkd_sl, zkd_sa, zkd_sq, zln_si, zln_sr, zln_sl, zln_sa, zln_sq, znx_si, znx_sr, znx_sl, znx_sa, znx_sq, hM.k, if_true, hH.1, e6]
  by_cases h6 : n = 6
  · rw [if_pos h6]
    subst h6
    obtain ⟨τ, h1, h2⟩ := loop_from (fun j τ => LX11_keep_11 (zEv d) m (nI j) τ) (fun j τ => zFr (fun x => x = m + 2) σ τ ∧ (∀ f x, zi τ f x = zi σ f x) ∧ (∀ i, j ≤ i → zai τ (m + 2) i = zai σ (m + 2) i) ∧ ∀ i, i < j → zai τ (m + 2) i = zai σ (m + 2) (515 + i)) 0 2575 (fun τ => LX11_keep_52 (zEv d) m 0 (zsi τ 579 m (nI 5))) σ (by decide) ⟨zFr.rf σ, fun _ _ => rfl, fun _ _ => rfl, fun i hi => absurd hi (Nat.not_lt_zero _)⟩
      (fun j τ hj hI => by
        obtain ⟨k, ki, kl, ka⟩ := hI
        have hM' := hM.fr k
        have ev : zai τ (m + 2) (515 + j) = zai σ (m + 2) (515 + j) := kl _ (by omega)
        have ea : (515 : Int32) + nI j = nI (515 + j) := nI_add 515 j
        refine ⟨zsa τ (m + 2) j (zai σ (m + 2) (515 + j)), ?_, k.tr (zFr.sa _ rfl), ki, fun i hi => by rw [zai_sa, if_neg (by omega)]; exact kl i (by omega), fun i hi => ?_⟩
        · show LX11_keep_11 _ _ _ _ = LX11_keep_11 _ _ _ _
          rw [uX11_keep_11, if_pos (show nI j < 2575 from (n_lt (show j < 2 ^ 31 by omega) (show 2575 < 2 ^ 31 by decide)).mpr hj)]
          simp only [zlt_e, onR_s, nul_s, nul_n, chk_e, bnI_s, bnR_s, bnV_s, zi_si, zi_sr, zi_sl, zi_sa, zi_sq, zr_si, zr_sr, zr_sl, zr_sa, zr_sq, zl_si, zl_sr, zl_sl, zl_sa, zl_sq, zai_si, zai_sr, zai_sl, zai_sa, zai_sq, zar_si, zar_sr, zar_sl, zar_sa, zar_sq, zkd_si, zkd_sr, zkd_sl, zkd_sa, zkd_sq, zln_si, zln_sr, zln_sl, zln_sa, zln_sq, znx_si, znx_sr, znx_sl, znx_sa, znx_sq, hM'.k, hM'.sv.1, hM'.sv.2.1, hM'.sv.2.2, if_true, ea, n_zin (show 515 + j < 2 ^ 31 by omega), n_tn (show 515 + j < 2 ^ 31 by omega), show 515 + j < 3090 by omega, n_zin (show j < 2 ^ 31 by omega), n_tn (show j < 2 ^ 31 by omega), show j < 3090 by omega, and_self, ev, nI_1]
        · rw [zai_sa]
          by_cases e : i = j
          · rw [if_pos ⟨rfl, e⟩, e]
          · rw [if_neg (by omega)]
            exact ka i (by omega))
      (fun τ hI => by
        have hM' := hM.fr hI.1
        have en : zi τ 579 m = nI 6 := (hI.2.1 _ _).trans hH.1
        have e5 : nI 6 - 1 = nI 5 := nI_m 5
        rw [uX11_keep_11, if_neg (by decide)]
        simp only [zlt_e, onR_s, nul_s, nul_n, chk_e, bnI_s, bnR_s, bnV_s, zi_si, zi_sr, zi_sl, zi_sa, zi_sq, zr_si, zr_sr, zr_sl, zr_sa, zr_sq, zl_si, zl_sr, zl_sl, zl_sa, zl_sq, zai_si, zai_sr, zai_sl, zai_sa, zai_sq, zar_si, zar_sr, zar_sl, zar_sa, zar_sq, zkd_si, zkd_sr, zkd_sl, zkd_sa, zkd_sq, zln_si, zln_sr, zln_sl, zln_sa, zln_sq, znx_si, znx_sr, znx_sl, znx_sa, znx_sq, hM'.k, if_true, en, e5])
    have h1 : LX11_keep_11 (zEv d) m 0 σ = _ := h1
    rw [h1]
    obtain ⟨k, ki, kl, ka⟩ := h2
    have hF : zFr (fun x => x = m ∨ x = m + 2) τ (zsi τ 579 m (nI 5)) := zFr.si _ (Or.inl rfl)
    obtain ⟨υ, a1, a2, a3, a4⟩ := fin (zsi τ 579 m (nI 5)) 5 (fun i => K (i + 1)) (by decide) (fun i hi => hK (i + 1) (by omega)) ((k.mono (fun a ha => Or.inr ha)).tr hF) (fun f hf => by rw [zi_si, if_neg (by omega), ki]) ⟨by rw [zi_si, if_pos ⟨rfl, rfl⟩], fun i hi => by
      have hG := hK (i + 1) (by omega)
      exact (hH.2 (i + 1) (by omega)).copy hG.1.2 hG.2.1.2 hG.2.2.1 (fun j hj => by
        show zai τ (m + 2) (515 * i + j) = _
        rw [ka _ (by omega)]
        congr 1
        omega)⟩
    exact ⟨υ, a1, a2, a3, a4⟩
  · rw [if_neg h6]
    obtain ⟨υ, a1, a2, a3, a4⟩ := fin σ n K (by omega) hK (zFr.rf σ) (fun _ _ => rfl) hH
    refine ⟨υ, a1, a2, a3, ?_⟩
    unfold psN psK
    simp only [if_neg h6]
    exact a4
