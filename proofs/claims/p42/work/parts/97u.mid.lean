/-! the law from its third part on: effects, a copy, prefetching -/
theorem z_551 {b o n : Nat} {xs : Nat → Int32} {σ : zS} {A : zW} {B : Nat} {Cs : zC} (h : LI b o n xs σ A B) (hB : B + 33000 < 2 ^ 29) (s0 : aS A 0 = some Cs) (s1 : aS A 1 = none) (x : Int32) (hp : x = 0 → rPre A 0 = 0) (l0 l6 l7 l8 l9 l10 l11 l12 : zV) (bb : Nat × Nat) (d : Nat) : Fi (LL_law_551 (zEv (d + 31)) l0 (some o) (nI (cN Cs)) (dgC Cs) x l6 l7 l8 l9 l10 l11 l12 bb σ) := by
  rw [uL_law_551]
  by_cases hx : x = 0
  · subst hx
    obtain ⟨t1, a1, h1⟩ := y_size h (by omega) 4 d
    simp only [if_true, onR_s, chk_e, h.o8, a1, bnI_s]
    by_cases c : rSize A 4 ≤ 64
    · rw [if_pos c]
      obtain ⟨t2, a2, h2⟩ := y_prefetch h1 (by omega) 0 d
      simp only [h1.o8, if_true, a2, bnI_s, hp rfl]
      exact z_577 h2 hB ((congrFun (Sm.pre A 0).2.1 0).trans s0) ((congrFun (Sm.pre A 0).2.1 1).trans s1) _ _ _ _ _ _ _ _ _ _ _
    · rw [if_neg c]
      exact z_577 h1 (by omega) s0 s1 _ _ _ _ _ _ _ _ _ _ _
  · rw [if_neg hx]
    exact z_577 h (by omega) s0 s1 _ _ _ _ _ _ _ _ _ _ _
theorem l64 : (1 : Int) ≤ (64 : Int32).toInt ∧ (64 : Int32).toInt ≤ 64 := by decide
theorem lim_is (A : zW) : tLim A 64 = aDrop A (tLimT (aT A) (64 : Int32).toNatClampNeg) := if_pos l64
theorem lim_r (A : zW) : ¬ rLim A 64 < 0 := by
  have e : rLim A 64 = nI (cnt (aU A) 512 - (64 : Int32).toNatClampNeg) := if_pos l64
  have h := cnt_le (aU A) 512
  rw [e]
  exact nI_pos (Nat.lt_of_le_of_lt (Nat.sub_le _ _) (Nat.lt_of_le_of_lt h (by decide)))
theorem cnt_nn (u : Nat → Nat) : ¬ nI (cnt u 512) < 0 := nI_pos (Nat.lt_of_le_of_lt (cnt_le u 512) (by decide))
theorem lim_C (A : zW) : aC (tClearC (tLim A 64)) = aC A := by rw [lim_is]; rfl
theorem lim_S (A : zW) : aS (tClearC (tLim A 64)) = aS A := by rw [lim_is]; rfl
theorem lim_L (A : zW) : tLm (aT (tClearC (tLim A 64))) = 64 := by
  rw [lim_is]
  show (64 : Int32).toNatClampNeg = 64
  decide
theorem z_519 {b o n : Nat} {xs : Nat → Int32} {σ : zS} {A : zW} {B : Nat} {Cs : zC} (h : LI b o n xs σ A B) (hB : B + 33000 + 33000 < 2 ^ 29) (s0 : aS A 0 = some Cs) (s1 : aS A 1 = none) (x : Int32) (hx : x = iI ((cN (aC A) : Int) - 1)) (l0 l6 l7 l8 l9 l10 l11 l12 : zV) (bb : Nat × Nat) (d : Nat) : Fi (LL_law_519 (zEv (d + 31)) l0 (some o) (nI (cN Cs)) (dgC Cs) x l6 l7 l8 l9 l10 l11 l12 bb σ) := by
  have h8 := h.1.1.2.2.1
  rw [uL_law_519]
  by_cases h0 : cN (aC A) = 0
  · have c : x < 0 := by
      rw [hx, show (0 : Int32) = iI 0 from rfl, i_lt (by omega) (by omega) (by omega) (by omega)]
      omega
    rw [if_pos c]
    refine z_551 h (by omega) s0 s1 x (fun e => ?_) _ _ _ _ _ _ _ _ _ _
    rw [e] at c
    exact absurd c (by decide)
  · have ex : x = nI (cN (aC A) - 1) := by
      rw [hx, i_nI]
      congr 1
      omega
    have c : ¬ x < 0 := by
      rw [ex]
      exact nI_pos (by omega)
    rw [if_neg c]
    obtain ⟨t1, a1, h1⟩ := y_setCacheLimit h (by omega) 64 d
    obtain ⟨t2, a2, h2⟩ := y_clearCache h1 (by omega) d
    obtain ⟨t3, a3, h3⟩ := y_prefetch h2 (by omega) x d
    have r1 : ¬ rLim A 64 < 0 := lim_r A
    have r2 : ¬ nI (cnt (aU (tLim A 64)) 512) < 0 := cnt_nn _
    have eC : aC (tClearC (tLim A 64)) = aC A := lim_C A
    have eS : aS (tClearC (tLim A 64)) = aS A := lim_S A
    have eL : tLm (aT (tClearC (tLim A 64))) = 64 := lim_L A
    have hz : zin x (cN (aC (tClearC (tLim A 64)))) := by
      rw [eC, ex]
      exact (n_zin (by omega)).mpr (by omega)
    have r3 : ¬ rPre (tClearC (tLim A 64)) x < 0 := pre_nn hz h3.1 h3.2.2.1 (by omega)
    simp only [onR_s, chk_e, h.o8, h1.o8, h2.o8, if_true, a1, bnI_s, r1, if_false, a2, r2, a3, r3]
    have s0' : aS (tPre (tClearC (tLim A 64)) x) 0 = some Cs := (congrFun (Sm.pre (tClearC (tLim A 64)) x).2.1 0).trans ((congrFun eS 0).trans s0)
    have s1' : aS (tPre (tClearC (tLim A 64)) x) 1 = none := (congrFun (Sm.pre (tClearC (tLim A 64)) x).2.1 1).trans ((congrFun eS 1).trans s1)
    refine z_551 h3 hB s0' s1' x (fun e => ?_) _ _ _ _ _ _ _ _ _ _
    · have h1' : cN (aC A) = 1 := by
        rw [e] at ex
        have := (n_eq (a := 0) (b := cN (aC A) - 1) (by decide) (by omega)).mp ex
        omega
      rw [e]
      exact pre_2 h2.1 (by rw [eC]; exact h1') eL
/-- what undo does behind a change -/
theorem und {A A' : zW} {C : zC} (h : Pu A A' C) (h6 : aHn A ≤ 6) : ¬ rUndo A' < 0 ∧ aC (tUndo A') = aC A ∧ aS (tUndo A') = aS A := by
  obtain ⟨-, h2, h3, h4⟩ := h
  have hn : aHn A' ≠ 0 := by
    rw [h3]
    unfold psN
    split <;> omega
  have hle : aHn A' ≤ 6 := by
    rw [h3]
    unfold psN
    split <;> omega
  have e : tUndo A' = aTil (aSet (aHis A' (aHn A' - 1)) (aHk A' (aHn A' - 1))) (fun _ => 0) := if_neg hn
  have e2 : rUndo A' = nI (aHn A' - 1) := if_neg hn
  refine ⟨by rw [e2]; exact nI_pos (by omega), ?_, by rw [e]; exact h2⟩
  rw [e]
  show aHk A' (aHn A' - 1) = aC A
  rw [h3, h4]
  unfold psN psK
  by_cases q : aHn A = 6
  · rw [if_pos q, if_pos q]
    rfl
  · rw [if_neg q, if_neg q, if_neg (by omega)]
theorem z_395e {b o n : Nat} {xs : Nat → Int32} {σ : zS} {A : zW} {B : Nat} {Cs : zC} (h : LI b o n xs σ A B) (hB : B + 33000 + 33000 < 2 ^ 29) (s0 : aS A 0 = some Cs) (s1 : aS A 1 = none) (l0 l7 l8 l9 l10 l11 l12 : zV) (bb : Nat × Nat) (d : Nat) : Fi (LL_law_395 (zEv (d + 31)) l0 (some o) (nI (cN Cs)) (dgC Cs) (iI ((cN (aC A) : Int) - 1)) (nI (cN (aC A))) l7 l8 l9 l10 l11 l12 bb σ) := by
  have h8 := h.1.1.2.2.1
  have c0 : ¬ nI (cN (aC A)) ≤ iI ((cN (aC A) : Int) - 1) := by
    rw [i_nI, i_le (by omega) (by omega) (by omega) (by omega)]
    omega
  rw [uL_law_395, if_neg c0]
  by_cases h0 : cN (aC A) = 0
  · have c : iI ((cN (aC A) : Int) - 1) < 0 := by
      rw [show (0 : Int32) = iI 0 from rfl, i_lt (by omega) (by omega) (by omega) (by omega)]
      omega
    rw [if_pos c]
    exact z_519 h hB s0 s1 _ rfl _ _ _ _ _ _ _ _ _ _
  · have ex : iI ((cN (aC A) : Int) - 1) = nI (cN (aC A) - 1) := by
      rw [i_nI]
      congr 1
      omega
    have c : ¬ iI ((cN (aC A) : Int) - 1) < 0 := by
      rw [ex]
      exact nI_pos (by omega)
    rw [if_neg c]
    obtain ⟨t1, a1, h1⟩ := y_size h (by omega) 2 d
    simp only [onR_s, chk_e, h.o8, if_true, a1, bnI_s, size_2]
    by_cases c8 : nI (cN (aC A)) < 8
    · have h7 : cN (aC A) < 8 := (n_lt (b := 8) (by omega) (by decide)).mp c8
      rw [if_pos c8]
      obtain ⟨t2, a2, h2⟩ := y_duplicateLayer h1 (by omega) (iI ((cN (aC A) : Int) - 1)) d
      obtain ⟨t3, a3, h3⟩ := y_exchangeDifference h2 (by omega) (iI ((cN (aC A) : Int) - 1)) d
      obtain ⟨t4, a4, h4⟩ := y_undo h3 (by omega) d
      have hz : zin (iI ((cN (aC A) : Int) - 1)) (cN (aC A)) := by
        rw [ex]
        exact (n_zin (by omega)).mpr (by omega)
      have hk : (iI ((cN (aC A) : Int) - 1)).toNatClampNeg = cN (aC A) - 1 := by rw [ex]; exact n_tn (by omega)
      have r2 : rDup A (iI ((cN (aC A) : Int) - 1)) = iI ((cN (aC A) : Int) - 1) + 1 := by
        unfold rDup
        rw [if_pos hz, if_neg (by omega), hk, ex, nI_1]
      have e2 : tDup A (iI ((cN (aC A) : Int) - 1)) = aSet (aCh A (cN (aC A) - 1 + 1)) (dupC (aC A) (cN (aC A) - 1)) := by
        unfold tDup
        rw [if_pos hz, if_neg (by omega), hk]
      have r3 : rExc (tDup A (iI ((cN (aC A) : Int) - 1))) (iI ((cN (aC A) : Int) - 1)) = 0 := by
        have eC : aC (tDup A (iI ((cN (aC A) : Int) - 1))) = dupC (aC A) (cN (aC A) - 1) := by rw [e2]; rfl
        have ti : (iI ((cN (aC A) : Int) - 1)).toInt = (cN (aC A) : Int) - 1 := i_toInt (by omega) (by omega)
        unfold rExc
        rw [eC, if_pos ⟨by omega, by rw [ti]; show (cN (aC A) : Int) - 1 + 1 < ((cN (aC A) + 1 : Nat) : Int); omega⟩, hk, dup_exc]
        rfl
      have hU := und (A := A) (A' := tDup A (iI ((cN (aC A) : Int) - 1))) (C := dupC (aC A) (cN (aC A) - 1)) (by rw [e2]; exact ⟨rfl, rfl, rfl, rfl⟩) h.1.2.1.1
      simp only [h1.o8, h2.o8, h3.o8, if_true, a2, bnI_s, r2, zlt_e, a3, r3, a4, hU.1, if_false]
      exact z_519 h4 hB (by rw [hU.2.2]; exact s0) (by rw [hU.2.2]; exact s1) _ (by rw [hU.2.1]) _ _ _ _ _ _ _ _ _ _
    · rw [if_neg c8]
      exact z_519 h1 hB s0 s1 _ rfl _ _ _ _ _ _ _ _ _ _
theorem lyr_5 {A : zW} {k : Nat} (hk : k < cN (aC A)) (h8 : cN (aC A) ≤ 8) : rLyr A (nI k) 5 = iI (cL (aC A) k 5) := by
  unfold rLyr
  rw [if_pos ((n_zin (by omega)).mpr hk), n_tn (by omega), if_neg (by decide), if_neg (by decide), if_neg (by decide), if_neg (by decide), if_neg (by decide), if_pos rfl]
theorem lyr_4 {A : zW} {k : Nat} (hk : k < cN (aC A)) (h8 : cN (aC A) ≤ 8) : rLyr A (nI k) 4 = iI (cL (aC A) k 4) := by
  unfold rLyr
  rw [if_pos ((n_zin (by omega)).mpr hk), n_tn (by omega), if_neg (by decide), if_neg (by decide), if_neg (by decide), if_neg (by decide), if_pos rfl]
theorem eff_is {A : zW} {k : Nat} (hk : k < cN (aC A)) (h8 : cN (aC A) ≤ 8) : rEff A (nI k) = iI (effI (aC A) k) := by
  unfold rEff
  rw [if_pos ((n_zin (by omega)).mpr hk), n_tn (by omega)]
theorem z_442 {b o n : Nat} {xs : Nat → Int32} {σ : zS} {A : zW} {B k : Nat} (h : LI b o n xs σ A B) (hB : B < 2 ^ 29) (hk : k < cN (aC A)) (l0 l7 l8 l9 l10 l11 l12 : zV) (l2 : Int32) (l3 : Int64) (l5 : Int32) (bb : Nat × Nat) (d : Nat) : ∃ τ, LL_law_442 (zEv (d + 31)) l0 (some o) l2 l3 l5 (nI k) l7 l8 l9 l10 l11 l12 bb σ = LL_law_395 (zEv (d + 31)) l0 (some o) l2 l3 l5 (nI (k + 1)) l7 l8 l9 l10 l11 l12 bb τ ∧ LI b o n xs τ A B := by
  have G := h.1.1
  have h8 := G.2.2.1
  have g4 := (G.2.2.2.2 k hk).2.2.2.1
  obtain ⟨t1, a1, h1⟩ := y_layer h hB (nI k) 4 d
  rw [uL_law_442]
  simp only [onR_s, chk_e, h.o8, if_true, a1, bnI_s, lyr_4 hk h8]
  by_cases c : iI (cL (aC A) k 4) = 0
  · rw [if_pos c]
    have e4 : cL (aC A) k 4 = 0 := by
      rw [show (0 : Int32) = iI 0 from rfl, i_eq (by omega) (by omega) (by omega) (by omega)] at c
      exact c
    obtain ⟨t2, a2, h2⟩ := y_effect h1 hB (nI k) d
    have e0 : rEff A (nI k) = 0 := by rw [eff_is hk h8, eff_0 (Or.inr e4)]; rfl
    simp only [h1.o8, if_true, a2, bnI_s, e0, zlt_e, nI_1]
    exact ⟨t2, rfl, h2⟩
  · rw [if_neg c]
    simp only [zlt_e, nI_1]
    exact ⟨t1, rfl, h1⟩
theorem z_395s {b o n : Nat} {xs : Nat → Int32} {σ : zS} {A : zW} {B k : Nat} (h : LI b o n xs σ A B) (hB : B < 2 ^ 29) (hk : k < cN (aC A)) (l0 l7 l8 l9 l10 l11 l12 : zV) (l2 : Int32) (l3 : Int64) (bb : Nat × Nat) (d : Nat) : ∃ τ l7', LL_law_395 (zEv (d + 31)) l0 (some o) l2 l3 (iI ((cN (aC A) : Int) - 1)) (nI k) l7 l8 l9 l10 l11 l12 bb σ = LL_law_395 (zEv (d + 31)) l0 (some o) l2 l3 (iI ((cN (aC A) : Int) - 1)) (nI (k + 1)) l7' l8 l9 l10 l11 l12 bb τ ∧ LI b o n xs τ A B := by
  have G := h.1.1
  have h8 := G.2.2.1
  have g5 := (G.2.2.2.2 k hk).2.2.2.2.1
  obtain ⟨ks, s1, s2, s3⟩ := stg_is G (cN (aC A)) (Nat.le_refl _) (by omega)
  have hst : rStg A = nI ks := by
    unfold rStg
    rw [s2, i_nI]
  obtain ⟨t1, a1, h1⟩ := y_strongestLayer h hB d
  obtain ⟨t2, a2, h2⟩ := y_effect h1 hB (nI k) d
  obtain ⟨t3, a3, h3⟩ := y_effect h2 hB (nI ks) d
  obtain ⟨t4, a4, h4⟩ := y_layer h3 hB (nI k) 5 d
  have r1 := effI_R G hk
  have r2 := effI_R G s1
  have c0 : nI k ≤ iI ((cN (aC A) : Int) - 1) := by
    rw [i_nI, i_le (by omega) (by omega) (by omega) (by omega)]
    omega
  have c1 : (iI (effI (aC A) k) ≤ iI (effI (aC A) ks)) = True := eq_true (by
    rw [i_le (by omega) (by omega) (by omega) (by omega)]
    exact s3 k hk)
  rw [uL_law_395, if_pos c0]
  simp only [onR_s, chk_e, h.o8, h1.o8, h2.o8, h3.o8, if_true, a1, bnI_s, hst, zlt_e, a2, eff_is hk h8, a3, eff_is s1 h8, c1, a4, lyr_5 hk h8]
  by_cases c : iI (cL (aC A) k 5) = 0
  · rw [if_pos c]
    have e5 : cL (aC A) k 5 ≠ 1 := by
      rw [show (0 : Int32) = iI 0 from rfl, i_eq (by omega) (by omega) (by omega) (by omega)] at c
      omega
    obtain ⟨t5, a5, h5⟩ := y_effect h4 hB (nI k) d
    have e0 : rEff A (nI k) = 0 := by rw [eff_is hk h8, eff_0 (Or.inl e5)]; rfl
    simp only [h4.o8, if_true, a5, bnI_s, e0]
    obtain ⟨τ, e, hτ⟩ := z_442 h5 hB hk l0 (.inl (nI ks)) l8 l9 l10 l11 l12 l2 l3 (iI ((cN (aC A) : Int) - 1)) bb d
    exact ⟨τ, _, e, hτ⟩
  · rw [if_neg c]
    obtain ⟨τ, e, hτ⟩ := z_442 h4 hB hk l0 (.inl (nI ks)) l8 l9 l10 l11 l12 l2 l3 (iI ((cN (aC A) : Int) - 1)) bb d
    exact ⟨τ, _, e, hτ⟩
theorem z_395 {b o n : Nat} {xs : Nat → Int32} {A : zW} {B : Nat} {Cs : zC} (hB : B + 33000 + 33000 < 2 ^ 29) (s0 : aS A 0 = some Cs) (s1 : aS A 1 = none) (l0 l8 l9 l10 l11 l12 : zV) (bb : Nat × Nat) (d : Nat) : ∀ (m k : Nat) (l7 : zV) (σ : zS), k + m = cN (aC A) → LI b o n xs σ A B → Fi (LL_law_395 (zEv (d + 31)) l0 (some o) (nI (cN Cs)) (dgC Cs) (iI ((cN (aC A) : Int) - 1)) (nI k) l7 l8 l9 l10 l11 l12 bb σ) := by
  intro m
  induction m with
  | zero =>
    intro k l7 σ hk h
    rw [Nat.add_zero] at hk
    rw [hk]
    exact z_395e h hB s0 s1 _ _ _ _ _ _ _ _ _
  | succ m ih =>
    intro k l7 σ hk h
    obtain ⟨τ, l7', e, hτ⟩ := z_395s h (by omega) (show k < cN (aC A) by omega) l0 l7 l8 l9 l10 l11 l12 (nI (cN Cs)) (dgC Cs) bb d
    rw [e]
    exact ih (k + 1) l7' τ (by omega) hτ
