/-! compositions: a picture and up to 8 layers, in 28 cells -/
abbrev zC : Type := Nat × Nat × Nat × (Nat → Nat → Int) × (Nat → Nat → Int)
def cW (C : zC) : Nat := C.1
def cH (C : zC) : Nat := C.2.1
def cN (C : zC) : Nat := C.2.2.1
def cP (C : zC) : Nat → Nat → Int := C.2.2.2.1
def cL (C : zC) : Nat → Nat → Int := C.2.2.2.2
def GC (C : zC) : Prop := (4 ≤ cW C ∧ cW C ≤ 16) ∧ (4 ≤ cH C ∧ cH C ≤ 16) ∧ cN C ≤ 8 ∧ pxR (cW C) (cH C) (cP C) ∧ ∀ i, i < cN C → GL (cL C i)
def inC (c a : Nat) : Prop := c ≤ a ∧ a < c + 28
/-- the cells that a change of layers changes -/
def inD (c a : Nat) : Prop := a = c ∨ (c + 4 ≤ a ∧ a < c + 28)
def CmS (σ : zS) (c : Nat) : Prop := zkd σ c = 0 ∧ zr σ 0 c = some (c + 1) ∧ zr σ 1 c = some (c + 3) ∧ PicS σ (c + 1) ∧ zkd σ (c + 3) = 14 ∧ zln σ (c + 3) = 8 ∧ ∀ k, k < 8 → LyS σ (c + 4 + 3 * k)
def CmQ (σ : zS) (c : Nat) (q : Nat → Nat) : Prop := (∀ i, i < 8 → zar σ (c + 3) i = some (c + 4 + 3 * q i) ∧ q i < 8) ∧ ∀ i j, i < 8 → j < 8 → q i = q j → i = j
def CmV (σ : zS) (c : Nat) (q : Nat → Nat) (C : zC) : Prop := PicV σ (c + 1) (cW C) (cH C) (cP C) ∧ zi σ 2 c = nI (cN C) ∧ ∀ i, i < cN C → LyV σ (c + 4 + 3 * q i) (cL C i)
theorem CmS.fr {P : Nat → Prop} {σ τ : zS} {c : Nat} (h : CmS σ c) (g : zFr P σ τ) : CmS τ c := by
  refine ⟨?_, ?_, ?_, h.2.2.2.1.fr g, ?_, ?_, fun k hk => (h.2.2.2.2.2.2 k hk).fr g⟩
  · rw [g.kd]; exact h.1
  · rw [g.r]; exact h.2.1
  · rw [g.r]; exact h.2.2.1
  · rw [g.kd]; exact h.2.2.2.2.1
  · rw [g.ln]; exact h.2.2.2.2.2.1
theorem CmQ.fr {P : Nat → Prop} {σ τ : zS} {c : Nat} {q : Nat → Nat} (h : CmQ σ c q) (g : zFr P σ τ) (hn : ¬ P (c + 3)) : CmQ τ c q :=
  ⟨fun i hi => ⟨(g.ar hn i).trans (h.1 i hi).1, (h.1 i hi).2⟩, h.2⟩
theorem CmV.fr {P : Nat → Prop} {σ τ : zS} {c : Nat} {q : Nat → Nat} {C : zC} (h : CmV σ c q C) (hq : CmQ σ c q) (hn8 : cN C ≤ 8) (g : zFr P σ τ) (hn : ∀ a, inC c a → ¬ P a) : CmV τ c q C :=
  ⟨h.1.fr g (hn _ (by unfold inC; omega)) (hn _ (by unfold inC; omega)), (g.i (hn c (by unfold inC; omega)) _).trans h.2.1, fun i hi => (h.2.2 i hi).fr g (fun a ha => hn a (by have := (hq.1 i (by omega)).2; unfold inL at ha; unfold inC; omega))⟩
theorem s_layerAt {σ : zS} {c n k : Nat} {q : Nat → Nat} (hc : CmS σ c) (hq : CmQ σ c q) (hn : zi σ 2 c = nI n) (hn8 : n ≤ 8) (hk : k < n) (d : Nat) : zEv (d + 1) mX0_layerAt [.inr (.inl (some c)), .inl (nI k)] σ = some (some (.inr (.inl (some (c + 4 + 3 * q k)))), σ) := by
  rw [vX0_layerAt]
  unfold fX0_layerAt
  simp only [zlt_e, onR_s, nul_s, nul_n, chk_e, bnI_s, bnR_s, bnV_s, zi_si, zi_sr, zi_sl, zi_sa, zi_sq, zr_si, zr_sr, zr_sl, zr_sa, zr_sq, zl_si, zl_sr, zl_sl, zl_sa, zl_sq, zai_si, zai_sr, zai_sl, zai_sa, zai_sq, zar_si, zar_sr, zar_sl, zar_sa, zar_sq, zkd_si, zkd_sr, zkd_sl, zkd_sa, zkd_sq, zln_si, zln_sr, zln_sl, zln_sa, zln_sq, znx_si, znx_sr, znx_sl, znx_sa, znx_sq, hc.1, hc.2.2.1, hc.2.2.2.2.1, hc.2.2.2.2.2.1, hn, if_true, n_ofNat, nL 0, n_lt (show k < 2 ^ 31 by omega) (show 0 < 2 ^ 31 by decide), Nat.not_lt_zero, if_false, n_lt (show k < 2 ^ 31 by omega) (show n < 2 ^ 31 by omega), hk, n_lt (show k < 2 ^ 31 by omega) (show 8 < 2 ^ 31 by decide), show k < 8 by omega, n_zin (show k < 2 ^ 31 by omega), n_tn (show k < 2 ^ 31 by omega), and_self, (hq.1 k (by omega)).1]
theorem s_layerNo {σ : zS} {c n : Nat} {x : Int32} (hc : CmS σ c) (hn : zi σ 2 c = nI n) (hn8 : n ≤ 8) (hx : ¬ zin x n) (d : Nat) : zEv (d + 1) mX0_layerAt [.inr (.inl (some c)), .inl x] σ = some (some (.inr (.inl none)), σ) := by
  rw [vX0_layerAt]
  unfold fX0_layerAt
  have h0 : x < 0 ↔ x.toInt < 0 := Int32.lt_iff_toInt_lt
  have h1 : x < nI n ↔ x.toInt < n := by rw [Int32.lt_iff_toInt_lt, nI_toInt (by omega)]
  simp only [zlt_e, onR_s, nul_s, nul_n, chk_e, bnI_s, bnR_s, bnV_s, zi_si, zi_sr, zi_sl, zi_sa, zi_sq, zr_si, zr_sr, zr_sl, zr_sa, zr_sq, zl_si, zl_sr, zl_sl, zl_sa, zl_sq, zai_si, zai_sr, zai_sl, zai_sa, zai_sq, zar_si, zar_sr, zar_sl, zar_sa, zar_sq, zkd_si, zkd_sr, zkd_sl, zkd_sa, zkd_sq, zln_si, zln_sr, zln_sl, zln_sa, zln_sq, znx_si, znx_sr, znx_sl, znx_sa, znx_sq, hc.1, hn, if_true, h0, h1]
  by_cases q : x.toInt < 0
  · rw [if_pos q]
  · rw [if_neg q, if_neg (by unfold zin at hx; omega)]
theorem s_isFull {σ : zS} {c n : Nat} (hc : CmS σ c) (hn : zi σ 2 c = nI n) (hn8 : n ≤ 8) (d : Nat) : zEv (d + 1) mX0_isFull [.inr (.inl (some c))] σ = some (some (.inl (zb (n = 8))), σ) := by
  rw [vX0_isFull]
  unfold fX0_isFull
  simp only [zlt_e, onR_s, nul_s, nul_n, chk_e, bnI_s, bnR_s, bnV_s, zi_si, zi_sr, zi_sl, zi_sa, zi_sq, zr_si, zr_sr, zr_sl, zr_sa, zr_sq, zl_si, zl_sr, zl_sl, zl_sa, zl_sq, zai_si, zai_sr, zai_sl, zai_sa, zai_sq, zar_si, zar_sr, zar_sl, zar_sa, zar_sq, zkd_si, zkd_sr, zkd_sl, zkd_sa, zkd_sq, zln_si, zln_sr, zln_sl, zln_sa, zln_sq, znx_si, znx_sr, znx_sl, znx_sa, znx_sq, hc.1, hc.2.2.1, hc.2.2.2.2.1, hc.2.2.2.2.2.1, hn, if_true, n_ofNat, n_lt (show n < 2 ^ 31 by omega) (show 8 < 2 ^ 31 by decide)]
  unfold zb zB
  by_cases h : n = 8
  · subst h; simp
  · simp [h, show n < 8 by omega]
theorem s_layerCount {σ : zS} {c : Nat} (hc : CmS σ c) (d : Nat) : zEv (d + 1) mX0_layerCount [.inr (.inl (some c))] σ = some (some (.inl (zi σ 2 c)), σ) := by
  rw [vX0_layerCount]
  unfold fX0_layerCount
  simp only [zlt_e, onR_s, nul_s, nul_n, chk_e, bnI_s, bnR_s, bnV_s, zi_si, zi_sr, zi_sl, zi_sa, zi_sq, zr_si, zr_sr, zr_sl, zr_sa, zr_sq, zl_si, zl_sr, zl_sl, zl_sa, zl_sq, zai_si, zai_sr, zai_sl, zai_sa, zai_sq, zar_si, zar_sr, zar_sl, zar_sa, zar_sq, zkd_si, zkd_sr, zkd_sl, zkd_sa, zkd_sq, zln_si, zln_sr, zln_sl, zln_sa, zln_sq, znx_si, znx_sr, znx_sl, znx_sa, znx_sq, hc.1, if_true]
theorem s_nextLayer {σ : zS} {c n : Nat} {q : Nat → Nat} (hc : CmS σ c) (hq : CmQ σ c q) (hn : zi σ 2 c = nI n) (hn8 : n < 8) (d : Nat) : zEv (d + 2) mX0_nextLayer [.inr (.inl (some c))] σ = some (some (.inr (.inl (some (c + 4 + 3 * q n)))), zsi σ 2 c (nI (n + 1))) := by
  rw [vX0_nextLayer]
  unfold fX0_nextLayer
  have e : nI (n + 1) - 1 = nI n := by rw [i_nI, show (1 : Int32) = iI 1 from rfl, i_sub, i_nI]; congr 1; omega
  have hF : zFr (fun a => a = c) σ (zsi σ 2 c (nI (n + 1))) := zFr.si σ rfl
  have hA := s_layerAt (k := n) (n := n + 1) (hc.fr hF) (hq.fr hF (by omega)) (by simp [zi_si]) (by omega) (by omega)
  simp only [zlt_e, onR_s, nul_s, nul_n, chk_e, bnI_s, bnR_s, bnV_s, zi_si, zi_sr, zi_sl, zi_sa, zi_sq, zr_si, zr_sr, zr_sl, zr_sa, zr_sq, zl_si, zl_sr, zl_sl, zl_sa, zl_sq, zai_si, zai_sr, zai_sl, zai_sa, zai_sq, zar_si, zar_sr, zar_sl, zar_sa, zar_sq, zkd_si, zkd_sr, zkd_sl, zkd_sa, zkd_sq, zln_si, zln_sr, zln_sl, zln_sa, zln_sq, znx_si, znx_sr, znx_sl, znx_sa, znx_sq, hc.1, if_true, s_isFull hc hn (show n ≤ 8 by omega), zb_0, hn, nI_1, and_self, e, hA]
  rw [if_pos (by omega)]
theorem s_nextNo {σ : zS} {c : Nat} (hc : CmS σ c) (hn : zi σ 2 c = nI 8) (d : Nat) : zEv (d + 2) mX0_nextLayer [.inr (.inl (some c))] σ = some (some (.inr (.inl none)), σ) := by
  rw [vX0_nextLayer]
  unfold fX0_nextLayer
  simp only [zlt_e, onR_s, nul_s, nul_n, chk_e, bnI_s, bnR_s, bnV_s, zi_si, zi_sr, zi_sl, zi_sa, zi_sq, zr_si, zr_sr, zr_sl, zr_sa, zr_sq, zl_si, zl_sr, zl_sl, zl_sa, zl_sq, zai_si, zai_sr, zai_sl, zai_sa, zai_sq, zar_si, zar_sr, zar_sl, zar_sa, zar_sq, zkd_si, zkd_sr, zkd_sl, zkd_sa, zkd_sq, zln_si, zln_sr, zln_sl, zln_sa, zln_sq, znx_si, znx_sr, znx_sl, znx_sa, znx_sq, hc.1, if_true, s_isFull hc hn (show 8 ≤ 8 by decide), zb_0]
  rw [if_neg (by simp)]
theorem s_copyLayers {σ : zS} {c s : Nat} {q r : Nat → Nat} {C : zC} (hc : CmS σ c) (hs : CmS σ s) (hd : c + 28 ≤ s ∨ s + 28 ≤ c) (hq : CmQ σ c q) (hr : CmQ σ s r) (hv : CmV σ s r C) (hn8 : cN C ≤ 8) (hg : ∀ i, i < cN C → GL (cL C i)) (d : Nat) : ∃ τ, zEv (d + 4) mX0_copyLayersFrom [.inr (.inl (some c)), .inr (.inl (some s))] σ = some (none, τ) ∧ zFr (inD c) σ τ ∧ zi τ 2 c = nI (cN C) ∧ ∀ i, i < cN C → LyV τ (c + 4 + 3 * q i) (cL C i) := by
  have e1 : zEv (d + 3) mX0_removeLayers [.inr (.inl (some c))] σ = some (none, zsi σ 2 c 0) := by
    rw [vX0_removeLayers]
    unfold fX0_removeLayers
    simp only [zlt_e, onR_s, nul_s, nul_n, chk_e, bnI_s, bnR_s, bnV_s, zi_si, zi_sr, zi_sl, zi_sa, zi_sq, zr_si, zr_sr, zr_sl, zr_sa, zr_sq, zl_si, zl_sr, zl_sl, zl_sa, zl_sq, zai_si, zai_sr, zai_sl, zai_sa, zai_sq, zar_si, zar_sr, zar_sl, zar_sa, zar_sq, zkd_si, zkd_sr, zkd_sl, zkd_sa, zkd_sq, zln_si, zln_sr, zln_sl, zln_sa, zln_sq, znx_si, znx_sr, znx_sl, znx_sa, znx_sq, hc.1, if_true]
  rw [vX0_copyLayersFrom]
  unfold fX0_copyLayersFrom
  simp only [zlt_e, onR_s, nul_s, nul_n, chk_e, bnI_s, bnR_s, bnV_s, zi_si, zi_sr, zi_sl, zi_sa, zi_sq, zr_si, zr_sr, zr_sl, zr_sa, zr_sq, zl_si, zl_sr, zl_sl, zl_sa, zl_sq, zai_si, zai_sr, zai_sl, zai_sa, zai_sq, zar_si, zar_sr, zar_sl, zar_sa, zar_sq, zkd_si, zkd_sr, zkd_sl, zkd_sa, zkd_sq, zln_si, zln_sr, zln_sl, zln_sa, zln_sq, znx_si, znx_sr, znx_sl, znx_sa, znx_sq, hc.1, if_true, e1]
  obtain ⟨⟨τ, z⟩, h1, h2⟩ := loop_from (fun i (t : zS × (zV × zV)) => LX0_copyLayersFrom_6 (zEv (d + 3)) c (some s) (nI i) t.2.1 t.2.2 t.1) (fun i t => zFr (inD c) σ t.1 ∧ zi t.1 2 c = nI i ∧ ∀ j, j < i → LyV t.1 (c + 4 + 3 * q j) (cL C j)) 0 (cN C) (fun t => some (none, t.1)) (zsi σ 2 c 0, .inr (.inr none), .inr (.inr none)) (Nat.zero_le _) ⟨zFr.si σ (Or.inl rfl), by simp [zi_si]; rfl, fun j hj => absurd hj (Nat.not_lt_zero _)⟩
    (fun i t hi hI => by
      obtain ⟨g, gn, gl⟩ := hI
      have hqi := (hq.1 i (by omega)).2
      have hri := (hr.1 i (by omega)).2
      have hc' := hc.fr g
      have hs' := hs.fr g
      have hq' : CmQ t.1 c q := hq.fr g (by unfold inD; omega)
      have hr' : CmQ t.1 s r := hr.fr g (by unfold inD; omega)
      have hv' : CmV t.1 s r C := hv.fr hr hn8 g (fun a ha => by unfold inC at ha; unfold inD; omega)
      have hF1 : zFr (inD c) t.1 (zsi t.1 2 c (nI (i + 1))) := zFr.si _ (Or.inl rfl)
      obtain ⟨υ, k1, k2, k3⟩ := s_lcopy ((hc'.fr hF1).2.2.2.2.2.2 (q i) hqi) ((hs'.fr hF1).2.2.2.2.2.2 (r i) hri) (by omega) (((hv'.fr hr' hn8 hF1 (fun a ha => by unfold inC at ha; unfold inD; omega)).2.2 i hi)) (hg i hi) d
      have k2' : zFr (inD c) (zsi t.1 2 c (nI (i + 1))) υ := k2.mono (fun a ha => by unfold inL at ha; unfold inD; omega)
      refine ⟨(υ, .inr (.inl (some (s + 4 + 3 * r i))), .inr (.inl (some (c + 4 + 3 * q i)))), ?_, (g.tr hF1).tr k2', ?_, fun j hj => ?_⟩
      · show LX0_copyLayersFrom_6 _ _ _ _ _ _ _ = LX0_copyLayersFrom_6 _ _ _ _ _ _ _
        rw [uX0_copyLayersFrom_6]
        simp only [zlt_e, onR_s, nul_s, nul_n, chk_e, bnI_s, bnR_s, bnV_s, zi_si, zi_sr, zi_sl, zi_sa, zi_sq, zr_si, zr_sr, zr_sl, zr_sa, zr_sq, zl_si, zl_sr, zl_sl, zl_sa, zl_sq, zai_si, zai_sr, zai_sl, zai_sa, zai_sq, zar_si, zar_sr, zar_sl, zar_sa, zar_sq, zkd_si, zkd_sr, zkd_sl, zkd_sa, zkd_sq, zln_si, zln_sr, zln_sl, zln_sa, zln_sq, znx_si, znx_sr, znx_sl, znx_sa, znx_sq, hc'.1, hs'.1, if_true, hv'.2.1, n_lt (show i < 2 ^ 31 by omega) (show cN C < 2 ^ 31 by omega), hi, s_layerAt hs' hr' hv'.2.1 hn8 hi, s_nextLayer hc' hq' gn (show i < 8 by omega), (hc'.2.2.2.2.2.2 (q i) hqi).1, k1, nI_1]
      · rw [k2.i (by unfold inL; omega), zi_si, if_pos ⟨rfl, rfl⟩]
      · by_cases hji : j = i
        · rw [hji]; exact k3
        · have hqj : q j ≠ q i := fun e => hji (hq.2 j i (by omega) (by omega) e)
          have hF1' : zFr (fun a => a = c) t.1 (zsi t.1 2 c (nI (i + 1))) := zFr.si _ rfl
          exact (((gl j (by omega)).fr hF1' (fun a ha => by unfold inL at ha; show ¬ a = c; omega)).fr k2 (fun a ha hb => by unfold inL at ha hb; omega)))
    (fun t hI => by
      rw [uX0_copyLayersFrom_6]
      have hv' : CmV t.1 s r C := hv.fr hr hn8 hI.1 (fun a ha => by unfold inC at ha; unfold inD; omega)
      simp only [zlt_e, onR_s, nul_s, nul_n, chk_e, bnI_s, bnR_s, bnV_s, zi_si, zi_sr, zi_sl, zi_sa, zi_sq, zr_si, zr_sr, zr_sl, zr_sa, zr_sq, zl_si, zl_sr, zl_sl, zl_sa, zl_sq, zai_si, zai_sr, zai_sl, zai_sa, zai_sq, zar_si, zar_sr, zar_sl, zar_sa, zar_sq, zkd_si, zkd_sr, zkd_sl, zkd_sa, zkd_sq, zln_si, zln_sr, zln_sl, zln_sa, zln_sq, znx_si, znx_sr, znx_sl, znx_sa, znx_sq, (hs.fr hI.1).1, if_true, hv'.2.1, n_lt (show cN C < 2 ^ 31 by omega) (show cN C < 2 ^ 31 by omega), Nat.lt_irrefl, if_false])
  exact ⟨τ, h1, h2.1, h2.2.1, h2.2.2⟩
