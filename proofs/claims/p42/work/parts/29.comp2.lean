theorem s_ccopy {σ : zS} {c s : Nat} {q r : Nat → Nat} {C : zC} (hc : CmS σ c) (hs : CmS σ s) (hd : c + 28 ≤ s ∨ s + 28 ≤ c) (hq : CmQ σ c q) (hr : CmQ σ s r) (hv : CmV σ s r C) (G : GC C) (d : Nat) : ∃ τ, zEv (d + 5) mX0_copyFrom [.inr (.inl (some c)), .inr (.inl (some s))] σ = some (none, τ) ∧ zFr (fun a => inC c a ∧ a ≠ c + 3) σ τ ∧ CmV τ c q C := by
  rw [vX0_copyFrom]
  unfold fX0_copyFrom
  obtain ⟨τ, h1, h2, h3⟩ := s_copyFrom hc.2.2.2.1 hs.2.2.2.1 (by omega) hv.1 G.1.2 G.2.1.2 (d + 2)
  have h2' : zFr (fun a => inC c a ∧ a ≠ c + 3) σ τ := h2.mono (fun a ha => by unfold inP at ha; unfold inC; omega)
  have hv' : CmV τ s r C := hv.fr hr G.2.2.1 h2' (fun a ha hb => by unfold inC at ha hb; omega)
  obtain ⟨υ, k1, k2, k3, k4⟩ := s_copyLayers (hc.fr h2') (hs.fr h2') hd (hq.fr h2' (by omega)) (hr.fr h2' (by unfold inC; omega)) hv' G.2.2.1 G.2.2.2.2 d
  simp only [zlt_e, onR_s, nul_s, nul_n, chk_e, bnI_s, bnR_s, bnV_s, zi_si, zi_sr, zi_sl, zi_sa, zi_sq, zr_si, zr_sr, zr_sl, zr_sa, zr_sq, zl_si, zl_sr, zl_sl, zl_sa, zl_sq, zai_si, zai_sr, zai_sl, zai_sa, zai_sq, zar_si, zar_sr, zar_sl, zar_sa, zar_sq, zkd_si, zkd_sr, zkd_sl, zkd_sa, zkd_sq, zln_si, zln_sr, zln_sl, zln_sa, zln_sq, znx_si, znx_sr, znx_sl, znx_sa, znx_sq, hc.1, hs.1, hc.2.1, hs.2.1, hc.2.2.2.1.1, if_true, h1, (hc.fr h2').1, k1]
  exact ⟨υ, rfl, h2'.tr (k2.mono (fun a ha => by unfold inD at ha; unfold inC; omega)), h3.fr k2 (by unfold inD; omega) (by unfold inD; omega), k3, k4⟩
/-- how many are on -/
def onN (L : Nat → Nat → Int) : Nat → Nat
  | 0 => 0
  | n + 1 => onN L n + if L n 5 = 1 then 1 else 0
theorem onN_le (L : Nat → Nat → Int) (n : Nat) : onN L n ≤ n := by
  induction n with
  | zero => exact Nat.le_refl _
  | succ n ih => show onN L n + (if _ then _ else _) ≤ _; split <;> omega
theorem on_0 {l : Nat → Int} (g : GL l) : (iI (l 5) = 0) ↔ ¬ l 5 = 1 := by
  rcases g.2.2.2.2.1 with h | h <;> rw [h] <;> decide
theorem s_enabledCount {σ : zS} {c : Nat} {q : Nat → Nat} {C : zC} (hc : CmS σ c) (hq : CmQ σ c q) (hv : CmV σ c q C) (hn8 : cN C ≤ 8) (hg : ∀ i, i < cN C → GL (cL C i)) (d : Nat) : zEv (d + 2) mX0_enabledCount [.inr (.inl (some c))] σ = some (some (.inl (nI (onN (cL C) (cN C)))), σ) := by
  rw [vX0_enabledCount]
  unfold fX0_enabledCount
  simp only [zlt_e, onR_s, nul_s, nul_n, chk_e, bnI_s, bnR_s, bnV_s, zi_si, zi_sr, zi_sl, zi_sa, zi_sq, zr_si, zr_sr, zr_sl, zr_sa, zr_sq, zl_si, zl_sr, zl_sl, zl_sa, zl_sq, zai_si, zai_sr, zai_sl, zai_sa, zai_sq, zar_si, zar_sr, zar_sl, zar_sa, zar_sq, zkd_si, zkd_sr, zkd_sl, zkd_sa, zkd_sq, zln_si, zln_sr, zln_sl, zln_sa, zln_sq, znx_si, znx_sr, znx_sl, znx_sa, znx_sq]
  obtain ⟨⟨k, z⟩, h1, h2⟩ := loop_from (fun i (t : Int32 × zV) => LX0_enabledCount_4 (zEv (d + 1)) c t.1 (nI i) t.2 σ) (fun i t => t.1 = nI (onN (cL C) i)) 0 (cN C) (fun t => some (some (.inl t.1), σ)) (0, .inr (.inr none)) (Nat.zero_le _) rfl
    (fun i t hi hI => by
      have hqi := (hq.1 i (by omega)).2
      have a5 : zi σ 133 (c + 4 + 3 * q i) = iI (cL C i 5) := (hv.2.2 i hi).1 5 (by decide)
      refine ⟨(nI (onN (cL C) (i + 1)), .inr (.inl (some (c + 4 + 3 * q i)))), ?_, rfl⟩
      show LX0_enabledCount_4 _ _ _ _ _ _ = LX0_enabledCount_4 _ _ _ _ _ _
      rw [uX0_enabledCount_4]
      have hI : t.1 = nI _ := hI
      simp only [zlt_e, onR_s, nul_s, nul_n, chk_e, bnI_s, bnR_s, bnV_s, zi_si, zi_sr, zi_sl, zi_sa, zi_sq, zr_si, zr_sr, zr_sl, zr_sa, zr_sq, zl_si, zl_sr, zl_sl, zl_sa, zl_sq, zai_si, zai_sr, zai_sl, zai_sa, zai_sq, zar_si, zar_sr, zar_sl, zar_sa, zar_sq, zkd_si, zkd_sr, zkd_sl, zkd_sa, zkd_sq, zln_si, zln_sr, zln_sl, zln_sa, zln_sq, znx_si, znx_sr, znx_sl, znx_sa, znx_sq, hc.1, if_true, hv.2.1, n_lt (show i < 2 ^ 31 by omega) (show cN C < 2 ^ 31 by omega), hi, s_layerAt hc hq hv.2.1 hn8 hi, (hc.2.2.2.2.2.2 (q i) hqi).1, a5, on_0 (hg i hi), hI, nI_1]
      by_cases ho : cL C i 5 = 1
      · rw [if_neg (by simpa using ho)]
        simp only [onN, ho, if_true]
      · rw [if_pos ho]
        simp only [onN, ho, if_false, Nat.add_zero])
    (fun t hI => by
      rw [uX0_enabledCount_4]
      simp only [zlt_e, onR_s, nul_s, nul_n, chk_e, bnI_s, bnR_s, bnV_s, zi_si, zi_sr, zi_sl, zi_sa, zi_sq, zr_si, zr_sr, zr_sl, zr_sa, zr_sq, zl_si, zl_sr, zl_sl, zl_sa, zl_sq, zai_si, zai_sr, zai_sl, zai_sa, zai_sq, zar_si, zar_sr, zar_sl, zar_sa, zar_sq, zkd_si, zkd_sr, zkd_sl, zkd_sa, zkd_sq, zln_si, zln_sr, zln_sl, zln_sa, zln_sq, znx_si, znx_sr, znx_sl, znx_sa, znx_sq, hc.1, if_true, hv.2.1, n_lt (show cN C < 2 ^ 31 by omega) (show cN C < 2 ^ 31 by omega), Nat.lt_irrefl, if_false])
  refine h1.trans ?_
  show (some (some (Sum.inl k), σ) : zO) = _
  rw [show k = _ from h2]
/-- the greatest number below n of one that is on, and one more; or 0 -/
def onB (L : Nat → Nat → Int) : Nat → Nat
  | 0 => 0
  | n + 1 => if L n 5 = 1 then n + 1 else onB L n
theorem onB_le (L : Nat → Nat → Int) (n : Nat) : onB L n ≤ n := by
  induction n with
  | zero => exact Nat.le_refl _
  | succ n ih =>
    show (if L n 5 = 1 then n + 1 else onB L n) ≤ n + 1
    split <;> omega
theorem onB_on (L : Nat → Nat → Int) (n k : Nat) (h : onB L n = k + 1) : L k 5 = 1 := by
  induction n with
  | zero => cases h
  | succ n ih =>
    have h : (if L n 5 = 1 then n + 1 else onB L n) = k + 1 := h
    by_cases ho : L n 5 = 1
    · rw [if_pos ho] at h
      have : n = k := by omega
      rw [← this]; exact ho
    · rw [if_neg ho] at h
      exact ih h
theorem nI_p (i : Nat) : nI (i + 1) + (-1) = nI i := by
  rw [i_nI, i_nI, show (-1 : Int32) = iI (-1) from rfl, i_add]
  congr 1
  omega
theorem nI_m (i : Nat) : nI (i + 1) - 1 = nI i := by
  rw [i_nI, i_nI, show (1 : Int32) = iI 1 from rfl, i_sub]
  congr 1
  omega
theorem s_enabledAtMost {σ : zS} {c : Nat} {q : Nat → Nat} {C : zC} (hc : CmS σ c) (hq : CmQ σ c q) (hv : CmV σ c q C) (hn8 : cN C ≤ 8) (hg : ∀ i, i < cN C → GL (cL C i)) (d : Nat) (n : Nat) (hn : n ≤ cN C) : zEv (d + 2) mX0_enabledAtMost [.inr (.inl (some c)), .inl (iI ((n : Int) - 1))] σ = some (some (.inl (iI ((onB (cL C) n : Nat) - 1))), σ) := by
  rw [vX0_enabledAtMost]
  unfold fX0_enabledAtMost
  simp only [zlt_e, onR_s, nul_s, nul_n, chk_e, bnI_s, bnR_s, bnV_s, zi_si, zi_sr, zi_sl, zi_sa, zi_sq, zr_si, zr_sr, zr_sl, zr_sa, zr_sq, zl_si, zl_sr, zl_sl, zl_sa, zl_sq, zai_si, zai_sr, zai_sl, zai_sa, zai_sq, zar_si, zar_sr, zar_sl, zar_sa, zar_sq, zkd_si, zkd_sr, zkd_sl, zkd_sa, zkd_sq, zln_si, zln_sr, zln_sl, zln_sa, zln_sq, znx_si, znx_sr, znx_sl, znx_sa, znx_sq]
  generalize (.inl (iI ((n : Int) - 1)) : zV) = z1
  generalize (.inr (.inr none) : zV) = z2
  induction n generalizing z2 with
  | zero =>
    rw [uX0_enabledAtMost_2, if_pos (by decide)]
    rfl
  | succ i ih =>
    have hqi := (hq.1 i (by omega)).2
    have hi : i < cN C := hn
    have a5 : zi σ 133 (c + 4 + 3 * q i) = iI (cL C i 5) := (hv.2.2 i hi).1 5 (by decide)
    have e : iI (((i + 1 : Nat) : Int) - 1) = nI i := by rw [i_nI]; congr 1; omega
    have e2 : nI i + (-1) = iI ((i : Int) - 1) := by rw [i_nI, show (-1 : Int32) = iI (-1) from rfl, i_add]; congr 1
    rw [e, uX0_enabledAtMost_2]
    simp only [zlt_e, onR_s, nul_s, nul_n, chk_e, bnI_s, bnR_s, bnV_s, zi_si, zi_sr, zi_sl, zi_sa, zi_sq, zr_si, zr_sr, zr_sl, zr_sa, zr_sq, zl_si, zl_sr, zl_sl, zl_sa, zl_sq, zai_si, zai_sr, zai_sl, zai_sa, zai_sq, zar_si, zar_sr, zar_sl, zar_sa, zar_sq, zkd_si, zkd_sr, zkd_sl, zkd_sa, zkd_sq, zln_si, zln_sr, zln_sl, zln_sa, zln_sq, znx_si, znx_sr, znx_sl, znx_sa, znx_sq, nL 0, n_lt (show i < 2 ^ 31 by omega) (show 0 < 2 ^ 31 by decide), Nat.not_lt_zero, if_false, hc.1, if_true, s_layerAt hc hq hv.2.1 hn8 hi, (hc.2.2.2.2.2.2 (q i) hqi).1, a5, e2]
    rw [← nL 0]
    simp only [on_0 (hg i hi)]
    by_cases ho : cL C i 5 = 1
    · rw [if_neg (by simpa using ho)]
      show _ = (some (some (Sum.inl (iI (((if cL C i 5 = 1 then i + 1 else onB (cL C) i : Nat) : Int) - 1))), σ) : zO)
      rw [if_pos ho, e]
    · rw [if_pos ho]
      show _ = (some (some (Sum.inl (iI (((if cL C i 5 = 1 then i + 1 else onB (cL C) i : Nat) : Int) - 1))), σ) : zO)
      rw [if_neg ho]
      exact ih (by omega) _
/-- what stands at a place when one has been moved -/
def mvN (f t i : Nat) : Nat := if i = t then f else if f ≤ i ∧ i < t then i + 1 else if t < i ∧ i ≤ f then i - 1 else i
theorem mvN_lt {f t i n : Nat} (hf : f < n) (ht : t < n) (hi : i < n) : mvN f t i < n := by
  unfold mvN; split
  · exact hf
  · split
    · omega
    · split <;> omega
theorem mvN_inj {f t i j : Nat} (h : mvN f t i = mvN f t j) : i = j := by
  unfold mvN at h
  split at h <;> split at h <;> (try split at h) <;> (try split at h) <;> (try split at h) <;> (try split at h) <;> omega
theorem s_shift {σ : zS} {c n f t : Nat} {q : Nat → Nat} (hc : CmS σ c) (hq : CmQ σ c q) (hn : zi σ 2 c = nI n) (hn8 : n ≤ 8) (hf : f < n) (ht : t < n) (d : Nat) : ∃ τ, zEv (d + 2) mX0_shift [.inr (.inl (some c)), .inl (nI f), .inl (nI t)] σ = some (none, τ) ∧ zFr (fun a => a = c + 3) σ τ ∧ (∀ a, zai τ a = zai σ a) ∧ (∀ a g, zi τ g a = zi σ g a) ∧ CmQ τ c (fun i => q (mvN f t i)) := by
  rw [vX0_shift]
  unfold fX0_shift
  simp only [zlt_e, onR_s, nul_s, nul_n, chk_e, bnI_s, bnR_s, bnV_s, zi_si, zi_sr, zi_sl, zi_sa, zi_sq, zr_si, zr_sr, zr_sl, zr_sa, zr_sq, zl_si, zl_sr, zl_sl, zl_sa, zl_sq, zai_si, zai_sr, zai_sl, zai_sa, zai_sq, zar_si, zar_sr, zar_sl, zar_sa, zar_sq, zkd_si, zkd_sr, zkd_sl, zkd_sa, zkd_sq, zln_si, zln_sr, zln_sl, zln_sa, zln_sq, znx_si, znx_sr, znx_sl, znx_sa, znx_sq, hc.1, if_true, s_layerAt hc hq hn hn8 hf, s_layerAt hc hq hn hn8 ht]
  let I : (Nat → Nat) → zS → Prop := fun m τ => zFr (fun a => a = c + 3) σ τ ∧ (∀ a, zai τ a = zai σ a) ∧ (∀ a g, zi τ g a = zi σ g a) ∧ ∀ i, i < 8 → zar τ (c + 3) i = some (c + 4 + 3 * q (m i))
  -- a place taken over
  have step : ∀ (m : Nat → Nat) (τ : zS) (i j : Nat), j < 8 → I m τ → I (fun x => if x = i then j else m x) (zsq τ (c + 3) i (some (c + 4 + 3 * q j))) := by
    intro m τ i j hj hI
    refine ⟨hI.1.tr (zFr.sq _ rfl), hI.2.1, hI.2.2.1, fun x hx => ?_⟩
    show zar (zsq τ (c + 3) i (some (c + 4 + 3 * q j))) (c + 3) x = some (c + 4 + 3 * q (if x = i then j else m x))
    rw [zar_sq]
    by_cases hxi : x = i
    · rw [if_pos ⟨rfl, hxi⟩, if_pos hxi]
    · rw [if_neg (by omega), if_neg hxi]
      exact hI.2.2.2 x hx
  have I0 : I (fun x => x) σ := ⟨zFr.rf σ, fun _ => rfl, fun _ _ => rfl, fun i hi => (hq.1 i hi).1⟩
  obtain ⟨τ1, a1, a2⟩ : ∃ τ1, LX0_shift_22 (zEv (d + 1)) c (nI f) (nI t) (some (c + 4 + 3 * q f)) (nI f) σ = LX0_shift_53 (zEv (d + 1)) c (.inl (nI f)) (nI t) (some (c + 4 + 3 * q f)) (nI f) τ1 ∧ I (fun x => if f ≤ x ∧ x < t then x + 1 else x) τ1 := by
    by_cases hft : f ≤ t
    · obtain ⟨τ1, b1, b2⟩ := loop_from (fun i τ => LX0_shift_22 (zEv (d + 1)) c (nI f) (nI t) (some (c + 4 + 3 * q f)) (nI i) τ) (fun i τ => f ≤ i ∧ I (fun x => if f ≤ x ∧ x < i then x + 1 else x) τ) f t (fun τ => LX0_shift_53 (zEv (d + 1)) c (.inl (nI f)) (nI t) (some (c + 4 + 3 * q f)) (nI f) τ) σ hft ⟨Nat.le_refl _, by
          have : (fun x => if f ≤ x ∧ x < f then x + 1 else x) = fun x : Nat => x := by funext x; rw [if_neg (by omega)]
          rw [this]; exact I0⟩
        (fun i τ hi hI => by
          obtain ⟨hfi, hI⟩ := hI
          have hc' := hc.fr hI.1
          have ez : zar τ (c + 3) (i + 1) = some (c + 4 + 3 * q (i + 1)) := by
            rw [hI.2.2.2 (i + 1) (by omega)]
            show some (c + 4 + 3 * q (if f ≤ i + 1 ∧ i + 1 < i then i + 1 + 1 else i + 1)) = _
            rw [if_neg (by omega)]
          refine ⟨zsq τ (c + 3) i (some (c + 4 + 3 * q (i + 1))), ?_, (show f ≤ i + 1 by omega), ?_⟩
          rotate_left
          · have := step _ τ i (i + 1) (by omega) hI
            have e : (fun x => if x = i then i + 1 else if f ≤ x ∧ x < i then x + 1 else x) = fun x => if f ≤ x ∧ x < i + 1 then x + 1 else x := by
              funext x
              by_cases hx : x = i
              · rw [if_pos hx, if_pos (by omega), hx]
              · rw [if_neg hx]
                by_cases h2 : f ≤ x ∧ x < i
                · rw [if_pos h2, if_pos (by omega)]
                · rw [if_neg h2, if_neg (by omega)]
            rw [← e]
            exact this
          · show LX0_shift_22 _ _ _ _ _ _ _ = LX0_shift_22 _ _ _ _ _ _ _
            rw [uX0_shift_22]
            simp only [zlt_e, onR_s, nul_s, nul_n, chk_e, bnI_s, bnR_s, bnV_s, zi_si, zi_sr, zi_sl, zi_sa, zi_sq, zr_si, zr_sr, zr_sl, zr_sa, zr_sq, zl_si, zl_sr, zl_sl, zl_sa, zl_sq, zai_si, zai_sr, zai_sl, zai_sa, zai_sq, zar_si, zar_sr, zar_sl, zar_sa, zar_sq, zkd_si, zkd_sr, zkd_sl, zkd_sa, zkd_sq, zln_si, zln_sr, zln_sl, zln_sa, zln_sq, znx_si, znx_sr, znx_sl, znx_sa, znx_sq, n_lt (show i < 2 ^ 31 by omega) (show t < 2 ^ 31 by omega), hi, if_true, hc'.1, hc'.2.2.1, hc'.2.2.2.2.1, hc'.2.2.2.2.2.1, nI_1, n_zin (show i + 1 < 2 ^ 31 by omega), n_zin (show i < 2 ^ 31 by omega), n_tn (show i + 1 < 2 ^ 31 by omega), n_tn (show i < 2 ^ 31 by omega), ez, (hc'.2.2.2.2.2.2 (q (i + 1)) (hq.1 (i + 1) (by omega)).2).1, show i + 1 < 8 by omega, show i < 8 by omega, and_self])
        (fun τ hI => by
          rw [uX0_shift_22]
          simp only [zlt_e, onR_s, nul_s, nul_n, chk_e, bnI_s, bnR_s, bnV_s, zi_si, zi_sr, zi_sl, zi_sa, zi_sq, zr_si, zr_sr, zr_sl, zr_sa, zr_sq, zl_si, zl_sr, zl_sl, zl_sa, zl_sq, zai_si, zai_sr, zai_sl, zai_sa, zai_sq, zar_si, zar_sr, zar_sl, zar_sa, zar_sq, zkd_si, zkd_sr, zkd_sl, zkd_sa, zkd_sq, zln_si, zln_sr, zln_sl, zln_sa, zln_sq, znx_si, znx_sr, znx_sl, znx_sa, znx_sq, n_lt (show t < 2 ^ 31 by omega) (show t < 2 ^ 31 by omega), Nat.lt_irrefl, if_false])
      exact ⟨τ1, b1, b2.2⟩
    · refine ⟨σ, ?_, ?_⟩
      · rw [uX0_shift_22]
        simp only [zlt_e, onR_s, nul_s, nul_n, chk_e, bnI_s, bnR_s, bnV_s, zi_si, zi_sr, zi_sl, zi_sa, zi_sq, zr_si, zr_sr, zr_sl, zr_sa, zr_sq, zl_si, zl_sr, zl_sl, zl_sa, zl_sq, zai_si, zai_sr, zai_sl, zai_sa, zai_sq, zar_si, zar_sr, zar_sl, zar_sa, zar_sq, zkd_si, zkd_sr, zkd_sl, zkd_sa, zkd_sq, zln_si, zln_sr, zln_sl, zln_sa, zln_sq, znx_si, znx_sr, znx_sl, znx_sa, znx_sq, n_lt (show f < 2 ^ 31 by omega) (show t < 2 ^ 31 by omega), show ¬ f < t by omega, if_false]
      · have : (fun x => if f ≤ x ∧ x < t then x + 1 else x) = fun x : Nat => x := by funext x; rw [if_neg (by omega)]
        rw [this]; exact I0
  rw [a1]
  -- the last store
  have fin : ∀ (m : Nat → Nat) (τ : zS) (i : Nat) (z : zV), i ≤ t → i < 8 → I m τ → (∀ x, x < 8 → (if x = t then f else m x) = mvN f t x) → ∃ υ, LX0_shift_53 (zEv (d + 1)) c z (nI t) (some (c + 4 + 3 * q f)) (nI i) τ = some (none, υ) ∧ zFr (fun a => a = c + 3) σ υ ∧ (∀ a, zai υ a = zai σ a) ∧ (∀ a g, zi υ g a = zi σ g a) ∧ CmQ υ c (fun i => q (mvN f t i)) := by
    intro m τ i z hi hi8 hI hm
    have hc' := hc.fr hI.1
    have h2 := step m τ t f (by omega) hI
    refine ⟨_, ?_, h2.1, h2.2.1, h2.2.2.1, fun x hx => ⟨?_, (hq.1 _ (mvN_lt (by omega) (by omega) hx)).2⟩, fun i j hi hj e => mvN_inj (hq.2 _ _ (mvN_lt (by omega) (by omega) hi) (mvN_lt (by omega) (by omega) hj) e)⟩
    · rw [uX0_shift_53]
      simp only [zlt_e, onR_s, nul_s, nul_n, chk_e, bnI_s, bnR_s, bnV_s, zi_si, zi_sr, zi_sl, zi_sa, zi_sq, zr_si, zr_sr, zr_sl, zr_sa, zr_sq, zl_si, zl_sr, zl_sl, zl_sa, zl_sq, zai_si, zai_sr, zai_sl, zai_sa, zai_sq, zar_si, zar_sr, zar_sl, zar_sa, zar_sq, zkd_si, zkd_sr, zkd_sl, zkd_sa, zkd_sq, zln_si, zln_sr, zln_sl, zln_sa, zln_sq, znx_si, znx_sr, znx_sl, znx_sa, znx_sq, n_le (show i < 2 ^ 31 by omega) (show t < 2 ^ 31 by omega), hi, if_true, hc'.1, hc'.2.2.1, hc'.2.2.2.2.1, hc'.2.2.2.2.2.1, n_zin (show t < 2 ^ 31 by omega), n_tn (show t < 2 ^ 31 by omega), (hc'.2.2.2.2.2.2 (q f) (hq.1 f (by omega)).2).1, show t < 8 by omega, and_self]
    · rw [h2.2.2.2 x hx]
      show some (c + 4 + 3 * q (if x = t then f else m x)) = some (c + 4 + 3 * q (mvN f t x))
      rw [hm x hx]
  by_cases hft : f ≤ t
  · refine fin _ τ1 f _ hft (by omega) a2 (fun x hx => ?_)
    unfold mvN
    by_cases h1 : x = t
    · rw [if_pos h1, if_pos h1]
    · rw [if_neg h1, if_neg h1]
      by_cases h2 : f ≤ x ∧ x < t
      · rw [if_pos h2, if_pos h2]
      · rw [if_neg h2, if_neg h2, if_neg (by omega)]
  · have e0 : (fun x => if f ≤ x ∧ x < t then x + 1 else x) = fun x => if f - 0 < x ∧ x ≤ f then x - 1 else x := by funext x; rw [if_neg (by omega), if_neg (by omega)]
    rw [e0] at a2
    obtain ⟨⟨τ2, z2⟩, b1, b2⟩ := loop_from (fun k (s : zS × zV) => LX0_shift_53 (zEv (d + 1)) c s.2 (nI t) (some (c + 4 + 3 * q f)) (nI (f - k)) s.1) (fun k s => I (fun x => if f - k < x ∧ x ≤ f then x - 1 else x) s.1) 0 (f - t) (fun s => LX0_shift_53 (zEv (d + 1)) c s.2 (nI t) (some (c + 4 + 3 * q f)) (nI t) s.1) (τ1, .inl (nI f)) (Nat.zero_le _) a2
      (fun k s hk hI => by
        have hI : I _ s.1 := hI
        have hc' := hc.fr hI.1
        obtain ⟨i, hi⟩ : ∃ i, f - k = i + 1 := ⟨f - k - 1, by omega⟩
        have ez : zar s.1 (c + 3) i = some (c + 4 + 3 * q i) := by
          rw [hI.2.2.2 i (by omega)]
          show some (c + 4 + 3 * q (if f - k < i ∧ i ≤ f then i - 1 else i)) = _
          rw [if_neg (by omega)]
        refine ⟨(zsq s.1 (c + 3) (i + 1) (some (c + 4 + 3 * q i)), s.2), ?_, ?_⟩
        · show LX0_shift_53 _ _ _ _ _ _ _ = LX0_shift_53 _ _ _ _ _ _ _
          rw [uX0_shift_53, hi, show f - (k + 1) = i by omega]
          simp only [zlt_e, onR_s, nul_s, nul_n, chk_e, bnI_s, bnR_s, bnV_s, zi_si, zi_sr, zi_sl, zi_sa, zi_sq, zr_si, zr_sr, zr_sl, zr_sa, zr_sq, zl_si, zl_sr, zl_sl, zl_sa, zl_sq, zai_si, zai_sr, zai_sl, zai_sa, zai_sq, zar_si, zar_sr, zar_sl, zar_sa, zar_sq, zkd_si, zkd_sr, zkd_sl, zkd_sa, zkd_sq, zln_si, zln_sr, zln_sl, zln_sa, zln_sq, znx_si, znx_sr, znx_sl, znx_sa, znx_sq, n_le (show i + 1 < 2 ^ 31 by omega) (show t < 2 ^ 31 by omega), show ¬ i + 1 ≤ t by omega, if_false, if_true, hc'.1, hc'.2.2.1, hc'.2.2.2.2.1, hc'.2.2.2.2.2.1, nI_m, nI_p, n_zin (show i + 1 < 2 ^ 31 by omega), n_zin (show i < 2 ^ 31 by omega), n_tn (show i + 1 < 2 ^ 31 by omega), n_tn (show i < 2 ^ 31 by omega), ez, (hc'.2.2.2.2.2.2 (q i) (hq.1 i (by omega)).2).1, show i + 1 < 8 by omega, show i < 8 by omega, and_self]
        · have := step _ s.1 (i + 1) i (by omega) hI
          have e : (fun x => if x = i + 1 then i else if f - k < x ∧ x ≤ f then x - 1 else x) = fun x => if f - (k + 1) < x ∧ x ≤ f then x - 1 else x := by
            funext x
            by_cases hx : x = i + 1
            · rw [if_pos hx, if_pos (by omega), hx]; omega
            · rw [if_neg hx]
              by_cases h2 : f - k < x ∧ x ≤ f
              · rw [if_pos h2, if_pos (by omega)]
              · rw [if_neg h2, if_neg (by omega)]
          show I _ _
          rw [← e]
          exact this)
      (fun s hI => by
        show LX0_shift_53 _ _ _ _ _ _ _ = LX0_shift_53 _ _ _ _ _ _ _
        rw [show f - (f - t) = t by omega])
    have b1 : LX0_shift_53 (zEv (d + 1)) c (.inl (nI f)) (nI t) (some (c + 4 + 3 * q f)) (nI f) τ1 = _ := b1
    rw [b1]
    refine fin _ τ2 t _ (Nat.le_refl _) (by omega) b2 (fun x hx => ?_)
    unfold mvN
    by_cases h1 : x = t
    · rw [if_pos h1, if_pos h1]
    · rw [if_neg h1, if_neg h1, show f - (f - t) = t by omega, if_neg (show ¬ (f ≤ x ∧ x < t) by omega)]
def lMv (L : Nat → Nat → Int) (f t i : Nat) : Nat → Int := L (mvN f t i)
theorem s_addFresh {σ : zS} {c n : Nat} {q : Nat → Nat} (hc : CmS σ c) (hq : CmQ σ c q) (hn : zi σ 2 c = nI n) (hn8 : n < 8) (k a b : Int) (d : Nat) : ∃ τ, zEv (d + 4) mX0_addFresh [.inr (.inl (some c)), .inl (iI k), .inl (iI a), .inl (iI b)] σ = some (some (.inr (.inl (some (c + 4 + 3 * q n)))), τ) ∧ zFr (fun x => x = c ∨ inL (c + 4 + 3 * q n) x) σ τ ∧ zi τ 2 c = nI (n + 1) ∧ LyV τ (c + 4 + 3 * q n) (lNew k a b) := by
  have hqn := (hq.1 n hn8).2
  have hF : zFr (fun x => x = c ∨ inL (c + 4 + 3 * q n) x) σ (zsi σ 2 c (nI (n + 1))) := zFr.si σ (Or.inl rfl)
  obtain ⟨τ, h1, h2, h3⟩ := s_lstart ((hc.fr hF).2.2.2.2.2.2 (q n) hqn) k a b d
  rw [vX0_addFresh]
  unfold fX0_addFresh
  simp only [zlt_e, onR_s, nul_s, nul_n, chk_e, bnI_s, bnR_s, bnV_s, zi_si, zi_sr, zi_sl, zi_sa, zi_sq, zr_si, zr_sr, zr_sl, zr_sa, zr_sq, zl_si, zl_sr, zl_sl, zl_sa, zl_sq, zai_si, zai_sr, zai_sl, zai_sa, zai_sq, zar_si, zar_sr, zar_sl, zar_sa, zar_sq, zkd_si, zkd_sr, zkd_sl, zkd_sa, zkd_sq, zln_si, zln_sr, zln_sl, zln_sa, zln_sq, znx_si, znx_sr, znx_sl, znx_sa, znx_sq, hc.1, if_true, s_nextLayer hc hq hn hn8, ((hc.fr hF).2.2.2.2.2.2 (q n) hqn).1, h1]
  refine ⟨τ, ?_, hF.tr (h2.mono (fun x hx => Or.inr hx)), ?_, h3⟩
  · rw [if_pos (hc.2.2.2.2.2.2 (q n) hqn).1]
  · rw [h2.i (by unfold inL; omega), zi_si, if_pos ⟨rfl, rfl⟩]
/-- rows with a copy of one laid above it -/
def lDup (L : Nat → Nat → Int) (k i : Nat) : Nat → Int := if i ≤ k then L i else L (i - 1)
theorem s_addCopyAbove {σ : zS} {c k : Nat} {q : Nat → Nat} {C : zC} (hc : CmS σ c) (hq : CmQ σ c q) (hv : CmV σ c q C) (hn8 : cN C < 8) (hg : ∀ i, i < cN C → GL (cL C i)) (hk : k < cN C) (d : Nat) : ∃ τ q', zEv (d + 4) mX0_addCopyAbove [.inr (.inl (some c)), .inl (nI k)] σ = some (none, τ) ∧ zFr (fun x => inC c x ∧ ¬ inP (c + 1) x) σ τ ∧ CmQ τ c q' ∧ zi τ 2 c = nI (cN C + 1) ∧ ∀ i, i < cN C + 1 → LyV τ (c + 4 + 3 * q' i) (lDup (cL C) k i) := by
  have hqn := (hq.1 (cN C) hn8).2
  have hqk := (hq.1 k (by omega)).2
  have hne : q k ≠ q (cN C) := fun e => by have := hq.2 k (cN C) (by omega) (by omega) e; omega
  have hF : zFr (fun x => x = c) σ (zsi σ 2 c (nI (cN C + 1))) := zFr.si σ rfl
  have hcf := hc.fr hF
  obtain ⟨τ, h1, h2, h3⟩ := s_lcopy (hcf.2.2.2.2.2.2 (q (cN C)) hqn) (hcf.2.2.2.2.2.2 (q k) hqk) (by omega) ((hv.2.2 k hk).fr hF (fun a ha => by unfold inL at ha; omega)) (hg k hk) d
  have hF2 : zFr (fun x => x = c ∨ inL (c + 4 + 3 * q (cN C)) x) σ τ := (hF.mono (fun x hx => Or.inl hx)).tr (h2.mono (fun x hx => Or.inr hx))
  have hc2 := hc.fr hF2
  have hq2 : CmQ τ c q := hq.fr hF2 (by unfold inL; omega)
  have hn2 : zi τ 2 c = nI (cN C + 1) := by rw [h2.i (by unfold inL; omega), zi_si, if_pos ⟨rfl, rfl⟩]
  have e1 : nI (cN C + 1) - 1 = nI (cN C) := nI_m _
  obtain ⟨υ, k1, k2, k3, k4, k5⟩ := s_shift hc2 hq2 hn2 (by omega) (show cN C < cN C + 1 by omega) (show k + 1 < cN C + 1 by omega) (d + 1)
  rw [vX0_addCopyAbove]
  unfold fX0_addCopyAbove
  simp only [zlt_e, onR_s, nul_s, nul_n, chk_e, bnI_s, bnR_s, bnV_s, zi_si, zi_sr, zi_sl, zi_sa, zi_sq, zr_si, zr_sr, zr_sl, zr_sa, zr_sq, zl_si, zl_sr, zl_sl, zl_sa, zl_sq, zai_si, zai_sr, zai_sl, zai_sa, zai_sq, zar_si, zar_sr, zar_sl, zar_sa, zar_sq, zkd_si, zkd_sr, zkd_sl, zkd_sa, zkd_sq, zln_si, zln_sr, zln_sl, zln_sa, zln_sq, znx_si, znx_sr, znx_sl, znx_sa, znx_sq, hc.1, if_true, s_layerAt hc hq hv.2.1 (Nat.le_of_lt hn8) hk, s_nextLayer hc hq hv.2.1 hn8]
  rw [uX0_addCopyAbove_18]
  simp only [zlt_e, onR_s, nul_s, nul_n, chk_e, bnI_s, bnR_s, bnV_s, zi_si, zi_sr, zi_sl, zi_sa, zi_sq, zr_si, zr_sr, zr_sl, zr_sa, zr_sq, zl_si, zl_sr, zl_sl, zl_sa, zl_sq, zai_si, zai_sr, zai_sl, zai_sa, zai_sq, zar_si, zar_sr, zar_sl, zar_sa, zar_sq, zkd_si, zkd_sr, zkd_sl, zkd_sa, zkd_sq, zln_si, zln_sr, zln_sl, zln_sa, zln_sq, znx_si, znx_sr, znx_sl, znx_sa, znx_sq, (hc.2.2.2.2.2.2 (q (cN C)) hqn).1, if_true, h1, hc2.1, hn2, e1, nI_1, k1]
  refine ⟨υ, fun i => q (mvN (cN C) (k + 1) i), rfl, (hF2.mono (fun x hx => by unfold inL at hx; unfold inC inP; omega)).tr (k2.mono (fun x hx => by unfold inC inP; omega)), k5, by rw [k4]; exact hn2, fun i hi => ?_⟩
  have base : ∀ j, j < cN C → LyV υ (c + 4 + 3 * q j) (cL C j) := fun j hj => by
    have hqj := (hq.1 j (by omega)).2
    have hnj : q j ≠ q (cN C) := fun e => by have := hq.2 j (cN C) (by omega) (by omega) e; omega
    exact ((hv.2.2 j hj).fr hF2 (fun a ha => by unfold inL at ha ⊢; omega)).fr k2 (fun a ha => by unfold inL at ha; omega)
  have top : LyV υ (c + 4 + 3 * q (cN C)) (cL C k) := h3.fr k2 (fun a ha => by unfold inL at ha; omega)
  show LyV υ (c + 4 + 3 * q (mvN (cN C) (k + 1) i)) (lDup (cL C) k i)
  unfold mvN lDup
  by_cases i1 : i = k + 1
  · rw [if_pos i1, if_neg (by omega), show i - 1 = k by omega]; exact top
  · rw [if_neg i1, if_neg (by omega)]
    by_cases i2 : k + 1 < i ∧ i ≤ cN C
    · rw [if_pos i2, if_neg (by omega)]; exact base _ (by omega)
    · rw [if_neg i2, if_pos (by omega)]; exact base _ (by omega)
/-- rows with one taken out -/
def lCut (L : Nat → Nat → Int) (k i : Nat) : Nat → Int := if i < k then L i else L (i + 1)
theorem s_takeOut {σ : zS} {c k : Nat} {q : Nat → Nat} {C : zC} (hc : CmS σ c) (hq : CmQ σ c q) (hv : CmV σ c q C) (hn8 : cN C ≤ 8) (hk : k < cN C) (d : Nat) : ∃ τ q', zEv (d + 3) mX0_takeOut [.inr (.inl (some c)), .inl (nI k)] σ = some (none, τ) ∧ zFr (fun x => x = c ∨ x = c + 3) σ τ ∧ CmQ τ c q' ∧ zi τ 2 c = nI (cN C - 1) ∧ ∀ i, i < cN C - 1 → LyV τ (c + 4 + 3 * q' i) (lCut (cL C) k i) := by
  obtain ⟨m, hm⟩ : ∃ m, cN C = m + 1 := ⟨cN C - 1, by omega⟩
  have hvn : zi σ 2 c = nI (m + 1) := by rw [← hm]; exact hv.2.1
  have e1 : nI (m + 1) - 1 = nI m := nI_m _
  obtain ⟨υ, k1, k2, k3, k4, k5⟩ := s_shift hc hq hvn (by omega) (show k < m + 1 by omega) (show m < m + 1 by omega) d
  have hc2 := hc.fr k2
  have hn2 : zi υ 2 c = nI (m + 1) := (k4 c 2).trans hvn
  rw [vX0_takeOut]
  unfold fX0_takeOut
  simp only [zlt_e, onR_s, nul_s, nul_n, chk_e, bnI_s, bnR_s, bnV_s, zi_si, zi_sr, zi_sl, zi_sa, zi_sq, zr_si, zr_sr, zr_sl, zr_sa, zr_sq, zl_si, zl_sr, zl_sl, zl_sa, zl_sq, zai_si, zai_sr, zai_sl, zai_sa, zai_sq, zar_si, zar_sr, zar_sl, zar_sa, zar_sq, zkd_si, zkd_sr, zkd_sl, zkd_sa, zkd_sq, zln_si, zln_sr, zln_sl, zln_sa, zln_sq, znx_si, znx_sr, znx_sl, znx_sa, znx_sq, hc.1, if_true, s_layerAt hc hq hv.2.1 hn8 hk, hvn, e1, k1, hc2.1, hn2]
  have hF : zFr (fun x => x = c ∨ x = c + 3) υ (zsi υ 2 c (nI m)) := zFr.si υ (Or.inl rfl)
  refine ⟨_, fun i => q (mvN k m i), rfl, (k2.mono (fun x hx => Or.inr hx)).tr hF, ?_, by rw [zi_si, if_pos ⟨rfl, rfl⟩, show cN C - 1 = m by omega], fun i hi => ?_⟩
  · exact ⟨fun i hi => k5.1 i hi, k5.2⟩
  · have hj : mvN k m i < cN C := mvN_lt (by omega) (by omega) (by omega)
    have hqj := (hq.1 (mvN k m i) (by omega)).2
    have hy : LyV υ (c + 4 + 3 * q (mvN k m i)) (cL C (mvN k m i)) := (hv.2.2 _ hj).fr k2 (fun a ha => by unfold inL at ha; omega)
    have e : lCut (cL C) k i = cL C (mvN k m i) := by
      unfold lCut mvN
      rw [if_neg (show ¬ i = m by omega)]
      by_cases h : i < k
      · rw [if_pos h, if_neg (by omega), if_neg (by omega)]
      · rw [if_neg h, if_pos (by omega)]
    rw [e]
    exact hy.fr (zFr.si (P := fun x => x = c) υ rfl) (fun a ha => by unfold inL at ha; omega)
