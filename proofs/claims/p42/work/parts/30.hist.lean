/-! the history: six compositions behind a row -/
def inH (H a : Nat) : Prop := H ≤ a ∧ a < H + 170
def HiS (σ : zS) (H : Nat) : Prop := zkd σ H = 1 ∧ zr σ 64 H = some (H + 1) ∧ zkd σ (H + 1) = 13 ∧ zln σ (H + 1) = 6 ∧ ∀ j, j < 6 → CmS σ (H + 2 + 28 * j)
def HiQ (σ : zS) (H : Nat) (u : Nat → Nat) : Prop := (∀ i, i < 6 → zar σ (H + 1) i = some (H + 2 + 28 * u i) ∧ u i < 6) ∧ ∀ i j, i < 6 → j < 6 → u i = u j → i = j
def HiV (σ : zS) (H : Nat) (u : Nat → Nat) (n : Nat) (K : Nat → zC) : Prop := zi σ 65 H = nI n ∧ (∀ i, i < 6 → CmQ σ (H + 2 + 28 * i) (fun x => x)) ∧ ∀ i, i < n → CmV σ (H + 2 + 28 * u i) (fun x => x) (K i)
theorem HiS.fr {P : Nat → Prop} {σ τ : zS} {H : Nat} (h : HiS σ H) (g : zFr P σ τ) : HiS τ H := by
  refine ⟨?_, ?_, ?_, ?_, fun k hk => (h.2.2.2.2 k hk).fr g⟩
  · rw [g.kd]; exact h.1
  · rw [g.r]; exact h.2.1
  · rw [g.kd]; exact h.2.2.1
  · rw [g.ln]; exact h.2.2.2.1
theorem HiQ.fr {P : Nat → Prop} {σ τ : zS} {H : Nat} {u : Nat → Nat} (h : HiQ σ H u) (g : zFr P σ τ) (hn : ¬ P (H + 1)) : HiQ τ H u :=
  ⟨fun i hi => ⟨(g.ar hn i).trans (h.1 i hi).1, (h.1 i hi).2⟩, h.2⟩
theorem HiV.fr {P : Nat → Prop} {σ τ : zS} {H n : Nat} {u : Nat → Nat} {K : Nat → zC} (h : HiV σ H u n K) (hu : HiQ σ H u) (hn6 : n ≤ 6) (hK : ∀ i, i < n → cN (K i) ≤ 8) (g : zFr P σ τ) (hn : ∀ a, inH H a → ¬ P a) : HiV τ H u n K :=
  ⟨(g.i (hn H (by unfold inH; omega)) _).trans h.1, fun i hi => (h.2.1 i hi).fr g (hn _ (by unfold inH; omega)), fun i hi => (h.2.2 i hi).fr (h.2.1 _ (hu.1 i (by omega)).2) (hK i hi) g (fun a ha => hn a (by have := (hu.1 i (by omega)).2; unfold inC at ha; unfold inH; omega))⟩
theorem nI_sub {a b : Nat} (h : b ≤ a) : nI a - nI b = nI (a - b) := by
  rw [i_nI, i_nI, i_sub, i_nI]
  congr 1
  omega
/-- a turn of the row: each place takes the next one's, the last one the first one's -/
def rot6 (i : Nat) : Nat := if i = 5 then 0 else i + 1
theorem s_discard {σ : zS} {H : Nat} {u : Nat → Nat} {n : Nat} (hs : HiS σ H) (hu : HiQ σ H u) (hn : zi σ 65 H = nI (n + 1)) (d : Nat) : ∃ τ, zEv (d + 1) mX1_discardOldest [.inr (.inl (some H))] σ = some (none, τ) ∧ zFr (fun a => a = H ∨ a = H + 1) σ τ ∧ zi τ 65 H = nI n ∧ HiQ τ H (fun i => u (rot6 i)) := by
  rw [vX1_discardOldest]
  unfold fX1_discardOldest
  have e0 : (0 : Int32).toNatClampNeg = 0 := rfl
  have z0 : zin 0 6 := by decide
  simp only [zlt_e, onR_s, nul_s, nul_n, chk_e, bnI_s, bnR_s, bnV_s, zi_si, zi_sr, zi_sl, zi_sa, zi_sq, zr_si, zr_sr, zr_sl, zr_sa, zr_sq, zl_si, zl_sr, zl_sl, zl_sa, zl_sq, zai_si, zai_sr, zai_sl, zai_sa, zai_sq, zar_si, zar_sr, zar_sl, zar_sa, zar_sq, zkd_si, zkd_sr, zkd_sl, zkd_sa, zkd_sq, zln_si, zln_sr, zln_sl, zln_sa, zln_sq, znx_si, znx_sr, znx_sl, znx_sa, znx_sq, hs.1, hs.2.1, hs.2.2.1, hs.2.2.2.1, if_true, z0, and_self, e0, (hu.1 0 (by decide)).1]
  obtain ⟨τ, h1, h2⟩ := loop_from (fun k τ => LX1_discardOldest_9 (zEv d) H (some (H + 2 + 28 * u 0)) (nI k) τ) (fun k τ => zFr (fun a => a = H ∨ a = H + 1) σ τ ∧ zi τ 65 H = nI (n + 1) ∧ ∀ i, i < 6 → zar τ (H + 1) i = some (H + 2 + 28 * (if i < k then u (i + 1) else u i))) 0 5 (fun τ => LX1_discardOldest_9 (zEv d) H (some (H + 2 + 28 * u 0)) (nI 5) τ) σ (by decide) ⟨zFr.rf σ, hn, fun i hi => by rw [if_neg (Nat.not_lt_zero _)]; exact (hu.1 i hi).1⟩
    (fun k τ hk hI => by
      obtain ⟨g, gn, ga⟩ := hI
      have hs' := hs.fr g
      have ez : zar τ (H + 1) (k + 1) = some (H + 2 + 28 * u (k + 1)) := by rw [ga (k + 1) (by omega), if_neg (by omega)]
      refine ⟨zsq τ (H + 1) k (some (H + 2 + 28 * u (k + 1))), ?_, g.tr (zFr.sq _ (Or.inr rfl)), gn, fun i hi => ?_⟩
      · show LX1_discardOldest_9 _ _ _ _ _ = LX1_discardOldest_9 _ _ _ _ _
        rw [uX1_discardOldest_9]
        simp only [zlt_e, onR_s, nul_s, nul_n, chk_e, bnI_s, bnR_s, bnV_s, zi_si, zi_sr, zi_sl, zi_sa, zi_sq, zr_si, zr_sr, zr_sl, zr_sa, zr_sq, zl_si, zl_sr, zl_sl, zl_sa, zl_sq, zai_si, zai_sr, zai_sl, zai_sa, zai_sq, zar_si, zar_sr, zar_sl, zar_sa, zar_sq, zkd_si, zkd_sr, zkd_sl, zkd_sa, zkd_sq, zln_si, zln_sr, zln_sl, zln_sa, zln_sq, znx_si, znx_sr, znx_sl, znx_sa, znx_sq, hs'.1, hs'.2.1, hs'.2.2.1, hs'.2.2.2.1, if_true, nI_1, n_ofNat, n_lt (show k + 1 < 2 ^ 31 by omega) (show 6 < 2 ^ 31 by decide), show k + 1 < 6 by omega, show k < 6 by omega, n_zin (show k + 1 < 2 ^ 31 by omega), n_zin (show k < 2 ^ 31 by omega), n_tn (show k + 1 < 2 ^ 31 by omega), n_tn (show k < 2 ^ 31 by omega), ez, (hs'.2.2.2.2 (u (k + 1)) (hu.1 (k + 1) (by omega)).2).1, and_self]
      · rw [zar_sq]
        by_cases hik : i = k
        · rw [if_pos ⟨rfl, hik⟩, if_pos (by omega), hik]
        · rw [if_neg (by omega), ga i hi]
          by_cases h3 : i < k
          · rw [if_pos h3, if_pos (by omega)]
          · rw [if_neg h3, if_neg (by omega)])
    (fun τ hI => rfl)
  have h1 : LX1_discardOldest_9 (zEv d) H (some (H + 2 + 28 * u 0)) 0 σ = _ := h1
  rw [h1, uX1_discardOldest_9]
  obtain ⟨g, gn, ga⟩ := h2
  have hs' := hs.fr g
  have e5 : nI 6 - 1 = nI 5 := nI_m 5
  simp only [zlt_e, onR_s, nul_s, nul_n, chk_e, bnI_s, bnR_s, bnV_s, zi_si, zi_sr, zi_sl, zi_sa, zi_sq, zr_si, zr_sr, zr_sl, zr_sa, zr_sq, zl_si, zl_sr, zl_sl, zl_sa, zl_sq, zai_si, zai_sr, zai_sl, zai_sa, zai_sq, zar_si, zar_sr, zar_sl, zar_sa, zar_sq, zkd_si, zkd_sr, zkd_sl, zkd_sa, zkd_sq, zln_si, zln_sr, zln_sl, zln_sa, zln_sq, znx_si, znx_sr, znx_sl, znx_sa, znx_sq, hs'.1, hs'.2.1, hs'.2.2.1, hs'.2.2.2.1, if_true, nI_1, n_ofNat, n_lt (show 5 + 1 < 2 ^ 31 by decide) (show 6 < 2 ^ 31 by decide), Nat.lt_irrefl, if_false, e5, n_zin (show 5 < 2 ^ 31 by decide), n_tn (show 5 < 2 ^ 31 by decide), (hs'.2.2.2.2 (u 0) (hu.1 0 (by omega)).2).1, show 5 < 6 by decide, and_self, gn, nI_m]
  have hF : zFr (fun a => a = H ∨ a = H + 1) τ (zsi (zsq τ (H + 1) 5 (some (H + 2 + 28 * u 0))) 65 H (nI n)) := (zFr.sq _ (Or.inr rfl)).tr (zFr.si _ (Or.inl rfl))
  refine ⟨_, rfl, g.tr hF, by rw [zi_si, if_pos ⟨rfl, rfl⟩], fun i hi => ⟨?_, (hu.1 _ (by unfold rot6; split <;> omega)).2⟩, fun i j hi hj e => ?_⟩
  · show zar (zsi (zsq τ (H + 1) 5 (some (H + 2 + 28 * u 0))) 65 H (nI n)) (H + 1) i = some (H + 2 + 28 * u (rot6 i))
    rw [zar_si, zar_sq]
    unfold rot6
    by_cases h5 : i = 5
    · rw [if_pos ⟨rfl, h5⟩, if_pos h5]
    · rw [if_neg (by omega), if_neg h5, ga i hi, if_pos (by omega)]
  · have := hu.2 _ _ (show rot6 i < 6 by unfold rot6; split <;> omega) (show rot6 j < 6 by unfold rot6; split <;> omega) e
    unfold rot6 at this
    split at this <;> split at this <;> omega
/-- the states behind a push -/
def psN (n : Nat) : Nat := if n = 6 then 6 else n + 1
def psK (n : Nat) (K : Nat → zC) (C : zC) (i : Nat) : zC := if n = 6 then (if i < 5 then K (i + 1) else C) else if i < n then K i else C
theorem s_push {σ : zS} {H s n : Nat} {u r : Nat → Nat} {K : Nat → zC} {C : zC} (hs : HiS σ H) (hu : HiQ σ H u) (hv : HiV σ H u n K) (hn6 : n ≤ 6) (hK : ∀ i, i < n → cN (K i) ≤ 8) (hc : CmS σ s) (hr : CmQ σ s r) (hC : CmV σ s r C) (G : GC C) (hd : H + 170 ≤ s ∨ s + 28 ≤ H) (d : Nat) : ∃ τ u', zEv (d + 6) mX1_push [.inr (.inl (some H)), .inr (.inl (some s))] σ = some (none, τ) ∧ zFr (inH H) σ τ ∧ HiQ τ H u' ∧ HiV τ H u' (psN n) (psK n K C) := by
  -- the last part, where there is room
  have fin : ∀ (τ : zS) (u : Nat → Nat) (m : Nat) (M : Nat → zC), m < 6 → (∀ i, i < m → cN (M i) ≤ 8) → zFr (inH H) σ τ → HiQ τ H u → HiV τ H u m M → ∃ υ, LX1_push_16 (zEv (d + 5)) H (some s) τ = some (none, υ) ∧ zFr (inH H) σ υ ∧ HiQ υ H u ∧ HiV υ H u (m + 1) (fun i => if i < m then M i else C) := by
    intro τ u m M hm hM g hu hv
    have hs' := hs.fr g
    have hc' := hc.fr g
    have hr' := hr.fr g (by unfold inH; omega)
    have hC' := hC.fr hr G.2.2.1 g (fun a ha hb => by unfold inC at ha; unfold inH at hb; omega)
    have hum := (hu.1 m hm).2
    obtain ⟨υ, k1, k2, k3⟩ := s_ccopy (hs'.2.2.2.2 (u m) hum) hc' (by omega) (hv.2.1 _ hum) hr' hC' G d
    have k2' : zFr (inH H) τ υ := k2.mono (fun a ha => by unfold inC at ha; unfold inH; omega)
    have hF : zFr (fun a => a = H) υ (zsi υ 65 H (nI (m + 1))) := zFr.si υ rfl
    have hn' : zi υ 65 H = nI m := by rw [k2.i (by unfold inC; omega)]; exact hv.1
    refine ⟨zsi υ 65 H (nI (m + 1)), ?_, (g.tr k2').tr (hF.mono (fun a ha => by unfold inH; omega)), (hu.fr k2 (by unfold inC; omega)).fr hF (by omega), by rw [zi_si, if_pos ⟨rfl, rfl⟩], fun i hi => ?_, fun i hi => ?_⟩
    · rw [uX1_push_16]
      simp only [zlt_e, onR_s, nul_s, nul_n, chk_e, bnI_s, bnR_s, bnV_s, zi_si, zi_sr, zi_sl, zi_sa, zi_sq, zr_si, zr_sr, zr_sl, zr_sa, zr_sq, zl_si, zl_sr, zl_sl, zl_sa, zl_sq, zai_si, zai_sr, zai_sl, zai_sa, zai_sq, zar_si, zar_sr, zar_sl, zar_sa, zar_sq, zkd_si, zkd_sr, zkd_sl, zkd_sa, zkd_sq, zln_si, zln_sr, zln_sl, zln_sa, zln_sq, znx_si, znx_sr, znx_sl, znx_sa, znx_sq, hs'.1, hs'.2.1, hs'.2.2.1, hs'.2.2.2.1, if_true, hv.1, nL 0, n_ofNat, n_lt (show m < 2 ^ 31 by omega) (show 0 < 2 ^ 31 by decide), n_lt (show m < 2 ^ 31 by omega) (show 6 < 2 ^ 31 by decide), Nat.not_lt_zero, if_false, hm, n_zin (show m < 2 ^ 31 by omega), n_tn (show m < 2 ^ 31 by omega), and_self, (hu.1 m hm).1, (hs'.2.2.2.2 (u m) hum).1, k1, (hs'.fr k2).1, hn', nI_1]
    · by_cases hi2 : i = u m
      · refine (CmQ.fr (P := fun a => inC (H + 2 + 28 * u m) a ∧ a ≠ H + 2 + 28 * u m + 3) ?_ k2 ?_).fr hF (by omega)
        · rw [hi2]; exact hv.2.1 _ hum
        · rw [hi2]; unfold inC; omega
      · exact ((hv.2.1 i hi).fr k2 (by unfold inC; omega)).fr hF (by omega)
    · have hi6 : i < 6 := by omega
      have hui := (hu.1 i hi6).2
      by_cases him : i < m
      · have hne : u i ≠ u m := fun e => by have := hu.2 i m hi6 hm e; omega
        show CmV _ _ _ (if i < m then M i else C)
        rw [if_pos him]
        have q1 := (hv.2.2 i him).fr (hv.2.1 _ hui) (hM i him) k2 (fun a ha hb => by unfold inC at ha hb; omega)
        exact q1.fr ((hv.2.1 _ hui).fr k2 (by unfold inC; omega)) (hM i him) hF (fun a ha => by unfold inC at ha; omega)
      · have him' : i = m := by omega
        show CmV _ _ _ (if i < m then M i else C)
        rw [if_neg him, him']
        exact k3.fr ((hv.2.1 _ hum).fr k2 (by omega)) G.2.2.1 hF (fun a ha => by unfold inC at ha; omega)
  rw [vX1_push]
  unfold fX1_push
  simp only [zlt_e, onR_s, nul_s, nul_n, chk_e, bnI_s, bnR_s, bnV_s, zi_si, zi_sr, zi_sl, zi_sa, zi_sq, zr_si, zr_sr, zr_sl, zr_sa, zr_sq, zl_si, zl_sr, zl_sl, zl_sa, zl_sq, zai_si, zai_sr, zai_sl, zai_sa, zai_sq, zar_si, zar_sr, zar_sl, zar_sa, zar_sq, zkd_si, zkd_sr, zkd_sl, zkd_sa, zkd_sq, zln_si, zln_sr, zln_sl, zln_sa, zln_sq, znx_si, znx_sr, znx_sl, znx_sa, znx_sq, hs.1, hs.2.1, hs.2.2.1, hs.2.2.2.1, if_true, hv.1, n_ofNat, n_lt (show n < 2 ^ 31 by omega) (show 6 < 2 ^ 31 by decide)]
  by_cases h6 : n < 6
  · rw [if_pos h6]
    obtain ⟨υ, a1, a2, a3, a4⟩ := fin σ u n K h6 hK (zFr.rf σ) hu hv
    refine ⟨υ, u, a1, a2, a3, ?_⟩
    unfold psN psK
    simp only [if_neg (show ¬ n = 6 by omega)]
    exact a4
  · rw [if_neg h6]
    have hn : n = 6 := by omega
    subst hn
    obtain ⟨τ, b1, b2, b3, b4⟩ := s_discard (n := 5) hs hu hv.1 (d + 4)
    have b2' : zFr (inH H) σ τ := b2.mono (fun a ha => by unfold inH; omega)
    rw [b1, bnV_s]
    obtain ⟨υ, a1, a2, a3, a4⟩ := fin τ (fun i => u (rot6 i)) 5 (fun i => K (i + 1)) (by decide) (fun i hi => hK (i + 1) (by omega)) b2' b4 ⟨b3, fun i hi => (hv.2.1 i hi).fr b2 (by omega), fun i hi => by
      have e : rot6 i = i + 1 := by unfold rot6; rw [if_neg (by omega)]
      show CmV τ (H + 2 + 28 * u (rot6 i)) _ _
      rw [e]
      have hui := (hu.1 (i + 1) (by omega)).2
      exact (hv.2.2 (i + 1) (by omega)).fr (hv.2.1 _ hui) (hK _ (by omega)) b2 (fun a ha => by unfold inC at ha; omega)⟩
    exact ⟨υ, _, a1, a2, a3, a4⟩
theorem s_pop {σ : zS} {H s n : Nat} {u r : Nat → Nat} {K : Nat → zC} (hs : HiS σ H) (hu : HiQ σ H u) (hv : HiV σ H u (n + 1) K) (hn6 : n + 1 ≤ 6) (hK : ∀ i, i < n + 1 → GC (K i)) (hc : CmS σ s) (hr : CmQ σ s r) (hd : H + 170 ≤ s ∨ s + 28 ≤ H) (d : Nat) : ∃ τ, zEv (d + 6) mX1_pop [.inr (.inl (some H)), .inr (.inl (some s))] σ = some (none, τ) ∧ zFr (fun a => a = H ∨ (inC s a ∧ a ≠ s + 3)) σ τ ∧ zi τ 65 H = nI n ∧ CmV τ s r (K n) := by
  have hF : zFr (fun a => a = H) σ (zsi σ 65 H (nI n)) := zFr.si σ rfl
  have hun := (hu.1 n (by omega)).2
  have hs' := hs.fr hF
  have hq' := (hv.2.1 _ hun).fr hF (by omega)
  have hv' := (hv.2.2 n (by omega)).fr (hv.2.1 _ hun) (hK n (by omega)).2.2.1 hF (fun a ha => by unfold inC at ha; omega)
  obtain ⟨τ, k1, k2, k3⟩ := s_ccopy (hc.fr hF) (hs'.2.2.2.2 (u n) hun) (by omega) (hr.fr hF (by omega)) hq' hv' (hK n (by omega)) d
  refine ⟨τ, ?_, (hF.mono (fun a ha => Or.inl ha)).tr (k2.mono (fun a ha => Or.inr ha)), ?_, k3⟩
  · rw [vX1_pop]
    unfold fX1_pop
    simp only [zlt_e, onR_s, nul_s, nul_n, chk_e, bnI_s, bnR_s, bnV_s, zi_si, zi_sr, zi_sl, zi_sa, zi_sq, zr_si, zr_sr, zr_sl, zr_sa, zr_sq, zl_si, zl_sr, zl_sl, zl_sa, zl_sq, zai_si, zai_sr, zai_sl, zai_sa, zai_sq, zar_si, zar_sr, zar_sl, zar_sa, zar_sq, zkd_si, zkd_sr, zkd_sl, zkd_sa, zkd_sq, zln_si, zln_sr, zln_sl, zln_sa, zln_sq, znx_si, znx_sr, znx_sl, znx_sa, znx_sq, hs.1, hs.2.1, hs.2.2.1, hs.2.2.2.1, if_true, hv.1, nL 0, n_ofNat, n_le (show n + 1 < 2 ^ 31 by omega) (show 0 < 2 ^ 31 by decide), n_le (show n + 1 < 2 ^ 31 by omega) (show 6 < 2 ^ 31 by decide), show ¬ n + 1 ≤ 0 by omega, if_false, hn6, nI_m, n_zin (show n < 2 ^ 31 by omega), n_tn (show n < 2 ^ 31 by omega), and_self, (hu.1 n (by omega)).1, show n < 6 by omega, hc.1, k1]
  · rw [k2.i (by unfold inC; omega), zi_si, if_pos ⟨rfl, rfl⟩]
