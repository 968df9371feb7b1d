/-! the law from its entry: an object, its image, its layers, the snapshot -/
theorem z_add {b o n : Nat} {xs : Nat → Int32} {σ : zS} {A : zW} {B k : Nat} (h : LI b o n xs σ A B) (hB : B < 2 ^ 29) (hk : cN (aC A) = k) (hk8 : k < 8) (K a : Int32) (hp : bPar K.toInt a.toInt (0 : Int32).toInt = true) (d : Nat) : ∃ τ A', zEv (d + 31) mX10_addLayer [.inr (.inl (some o)), .inl K, .inl a, .inl 0] σ = some (some (.inl (nI k)), τ) ∧ LI b o n xs τ A' B ∧ cN (aC A') = k + 1 ∧ aS A' = aS A := by
  obtain ⟨τ, a1, h1⟩ := y_addLayer h hB K a 0 d
  have r : rAdd A K a 0 = nI k := by
    unfold rAdd
    rw [if_pos hp, if_neg (by omega), hk]
  have e : tAdd A K a 0 = aSet (aPush A) (addC (aC A) K.toInt a.toInt (0 : Int32).toInt) := by
    unfold tAdd
    rw [if_pos hp, if_neg (by omega)]
  rw [r] at a1
  refine ⟨τ, _, a1, h1, ?_, ?_⟩
  · rw [e]
    show cN (aC A) + 1 = k + 1
    rw [hk]
  · rw [e]
    rfl
theorem z_164 {b o n : Nat} {xs : Nat → Int32} {σ : zS} {A : zW} {B k j : Nat} (h : LI b o n xs σ A B) (hB : B < 2 ^ 29) (hk : cN (aC A) = k) (hk8 : k < 8) (l0 : Option Nat) (l2 : Int32) (l4 kk aa : Int32) (hp : bPar kk.toInt aa.toInt (0 : Int32).toInt = true) (ha : aa = if l4 = 0 then 40 else if l4 = 1 then 1 else if l4 = 3 then 1 else 0) (bb : Nat × Nat) (d : Nat) : ∃ τ A' j4, LL_law_164 (zEv (d + 31)) l0 (some o) l2 (nI k) l4 (some o) kk bb σ = LL_law_102 (zEv (d + 31)) l0 (some o) l2 (nI (k + 1)) j4 bb τ ∧ LI b o n xs τ A' B ∧ cN (aC A') = k + 1 ∧ aS A' = aS A := by
  obtain ⟨τ, A', a1, h1, h2, h3⟩ := z_add h hB hk hk8 kk aa hp d
  have t186 : ∀ j4, aa = 1 → LL_law_186 (zEv (d + 31)) l0 (some o) l2 (nI k) j4 (some o) kk bb σ = LL_law_102 (zEv (d + 31)) l0 (some o) l2 (nI (k + 1)) j4 bb τ := by
    intro j4 e
    rw [e] at a1
    rw [uL_law_186]
    simp only [onR_s, chk_e, h.o8, if_true, a1, bnI_s, zlt_e, nI_1]
  rw [uL_law_164]
  by_cases c0 : l4 = 0
  · rw [if_pos c0] at ha
    rw [if_pos c0]
    rw [ha] at a1
    simp only [onR_s, chk_e, h.o8, if_true, a1, bnI_s, zlt_e, nI_1]
    exact ⟨τ, A', _, rfl, h1, h2, h3⟩
  · rw [if_neg c0] at ha
    rw [if_neg c0]
    by_cases c1 : l4 = 1
    · rw [if_pos c1] at ha
      rw [if_pos c1, t186 _ ha]
      exact ⟨τ, A', _, rfl, h1, h2, h3⟩
    · rw [if_neg c1] at ha
      rw [if_neg c1]
      by_cases c3 : l4 = 3
      · rw [if_pos c3] at ha
        rw [if_pos c3, t186 _ ha]
        exact ⟨τ, A', _, rfl, h1, h2, h3⟩
      · rw [if_neg c3] at ha
        rw [if_neg c3]
        rw [ha] at a1
        simp only [onR_s, chk_e, h.o8, if_true, a1, bnI_s, zlt_e, nI_1]
        exact ⟨τ, A', _, rfl, h1, h2, h3⟩
theorem z_102s {b o n : Nat} {xs : Nat → Int32} {σ : zS} {A : zW} {B k many : Nat} (h : LI b o n xs σ A B) (hn : n < 2 ^ 31) (hB : B < 2 ^ 29) (hk : cN (aC A) = k) (hkm : k < many) (hm : many ≤ 3) (l4 : zV) (bb : Nat × Nat) (d : Nat) : ∃ τ A' j4, LL_law_102 (zEv (d + 31)) (some b) (some o) (nI many) (nI k) l4 bb σ = LL_law_102 (zEv (d + 31)) (some b) (some o) (nI many) (nI (k + 1)) j4 bb τ ∧ LI b o n xs τ A' B ∧ cN (aC A') = k + 1 ∧ aS A' = aS A := by
  have c0 : nI k < nI many := (n_lt (by omega) (by omega)).mpr hkm
  obtain ⟨v, a1⟩ := y_cell h hn (x := 2 + nI k) (k := 2 + k) (nI_add 2 k) (by omega) d
  have a2 : zEv (d + 31) mL_low [.inl v, .inl 5] σ = some (some (.inl (lowI v 5)), σ) := y_low _ _ (by decide) σ d
  obtain ⟨j, ej, hj⟩ := low_R (v := v) (n := 5) (m := 5) rfl (by decide) (by decide)
  rw [ej] at a2
  rw [uL_law_102, if_pos c0]
  simp only [a1, bnI_s, a2, zlt_e]
  have hj : j = 0 ∨ j = 1 ∨ j = 2 ∨ j = 3 ∨ j = 4 := by omega
  rcases hj with rfl | rfl | rfl | rfl | rfl
  · rw [if_pos (by decide)]
    exact z_164 (j := 0) h hB hk (by omega) (some b) (nI many) (nI 0) 1 40 (by decide) (by decide) bb d
  · rw [if_neg (by decide), if_pos (by decide)]
    exact z_164 (j := 0) h hB hk (by omega) (some b) (nI many) (nI 1) 6 1 (by decide) (by decide) bb d
  · rw [if_neg (by decide), if_neg (by decide), if_pos (by decide)]
    exact z_164 (j := 0) h hB hk (by omega) (some b) (nI many) (nI 2) 13 0 (by decide) (by decide) bb d
  · rw [if_neg (by decide), if_neg (by decide), if_neg (by decide), if_pos (by decide)]
    exact z_164 (j := 0) h hB hk (by omega) (some b) (nI many) (nI 3) 7 1 (by decide) (by decide) bb d
  · rw [if_neg (by decide), if_neg (by decide), if_neg (by decide), if_neg (by decide)]
    exact z_164 (j := 0) h hB hk (by omega) (some b) (nI many) (nI 4) 4 0 (by decide) (by decide) bb d
theorem z_102e {b o n : Nat} {xs : Nat → Int32} {σ : zS} {A : zW} {many : Nat} (h : LI b o n xs σ A 0) (hn : n < 2 ^ 31) (hk : cN (aC A) = many) (h1 : aS A 1 = none) (l4 : zV) (bb : Nat × Nat) (hb : (zfit bb (28, 542) && true) = true) (d : Nat) : Fi (LL_law_102 (zEv (d + 31)) (some b) (some o) (nI many) (nI many) l4 bb σ) := by
  have h8 := h.1.1.2.2.1
  have c0 : ¬ nI many < nI many := fun q => Nat.lt_irrefl _ ((n_lt (by omega) (by omega)).mp q)
  have n0 : (0 : Int32).toNatClampNeg = 0 := rfl
  obtain ⟨t1, a1, g1⟩ := y_save h (by decide) 0 d
  have r1 : rSav A 0 = nI many := by
    unfold rSav
    rw [if_pos (by decide), hk]
  have e1 : tSav A 0 = aSn A (fun k => if k = 0 then some (aC A) else aS A k) := by
    unfold tSav
    rw [if_pos (by decide), n0]
  obtain ⟨t2, a2, g2⟩ := w_digest g1 (by decide) d
  have eC : aC (tSav A 0) = aC A := by rw [e1]; rfl
  rw [eC] at a2
  have hS : SnK (aC A) (tSav A 0) := by
    rw [e1]
    refine ⟨?_, ?_⟩
    · show (if (0 : Nat) = 0 then some (aC A) else aS A 0) = some (aC A)
      rw [if_pos rfl]
    · show (if (1 : Nat) = 0 then some (aC A) else aS A 1) = none
      rw [if_neg (by decide)]
      exact h1
  rw [uL_law_102, if_neg c0]
  simp only [onR_s, chk_e, h.o8, if_true, hb, zgd, a1, bnI_s, r1, a2, bnL, zlt_e]
  rw [← hk]
  exact z_226 hn _ d 8 0 t2 _ 0 _ _ _ _ _ _ _ rfl g2 RmB_8 hS
theorem z_102 {b o n : Nat} {xs : Nat → Int32} {many : Nat} (hn : n < 2 ^ 31) (hm : many ≤ 3) (bb : Nat × Nat) (hb : (zfit bb (28, 542) && true) = true) (d : Nat) : ∀ (m k : Nat) (σ : zS) (A : zW) (l4 : zV), k + m = many → LI b o n xs σ A 0 → cN (aC A) = k → aS A 1 = none → Fi (LL_law_102 (zEv (d + 31)) (some b) (some o) (nI many) (nI k) l4 bb σ) := by
  intro m
  induction m with
  | zero =>
    intro k σ A l4 hkm h hk h1
    rw [Nat.add_zero] at hkm
    rw [hkm]
    exact z_102e h hn (hk.trans hkm) h1 l4 bb hb d
  | succ m ih =>
    intro k σ A l4 hkm h hk h1
    obtain ⟨τ, A', j4, e, hτ, hc, hS⟩ := z_102s h hn (by decide) hk (show k < many by omega) hm l4 bb d
    rw [e]
    exact ih (k + 1) τ A' j4 (by omega) hτ hc (by rw [hS]; exact h1)
theorem law_run {σ : zS} {b o n : Nat} {xs : Nat → Int32} (ho : znx σ = o) (hn : n ≤ 260) (hK : StK σ o) (hb : b < o) (hbk : zkd σ b = 16) (hbl : zln σ b = n) (hbx : ∀ i, i < n → zai σ b i = xs i) (d : Nat) : ∃ τ, zM tL_law 13 (600000, 7302250) (zEv (d + 31)) [.inr (.inl (some b))] σ = some (some (.inl 1), τ) := by
  have hn31 : n < 2 ^ 31 := by omega
  have k0 := kd_no σ 8
  have g0 : zEq (fun a => a < o) σ (zno σ 8) := zEq.no σ 8 (by omega)
  obtain ⟨τ, c1, c2, c3, q, u, P, hC⟩ := c_init (σ := zno σ 8) (o := o) (by rw [← ho]; exact k0) (by rw [nx_no, ho]) (d + 26)
  have c1' : zEv (d + 31) mX10_init [.inr (.inl (some o))] (zno σ 8) = some (none, τ) := c1
  have gB : zEq (fun a => a < o) σ τ := g0.tr c2
  have h0 : LI b o n xs τ A0 0 := ⟨GA0, LG0, KT0, ⟨q, u, P, hC⟩, hK.eq gB (fun a h => h), ⟨hb, (gB.kd hb).trans hbk, (gB.ln hb).trans hbl, fun i hi => (gB.ai hb i).trans (hbx i hi)⟩, by rw [c3]; exact Nat.le_refl _⟩
  have hB : (0 : Nat) < 2 ^ 29 := by decide
  obtain ⟨v0, x0⟩ := y_cell h0 hn31 (x := 0) (k := 0) rfl (by decide) d
  have y0 : zEv (d + 31) mL_low [.inl v0, .inl 6] τ = some (some (.inl (lowI v0 6)), τ) := y_low _ _ (by decide) τ d
  obtain ⟨j0, ej0, hj0⟩ := low_R (v := v0) (n := 6) (m := 6) rfl (by decide) (by decide)
  have y1 : zEv (d + 31) mL_low [.inl (v0 >>> (3 &&& 31)), .inl 6] τ = some (some (.inl (lowI (v0 >>> (3 &&& 31)) 6)), τ) := y_low _ _ (by decide) τ d
  obtain ⟨j1, ej1, hj1⟩ := low_R (v := v0 >>> (3 &&& 31)) (n := 6) (m := 6) rfl (by decide) (by decide)
  rw [ej0] at y0
  rw [ej1] at y1
  have e4 : ∀ j, (4 : Int32) + nI j = nI (4 + j) := fun j => nI_add 4 j
  obtain ⟨t1, a1, h1⟩ := y_newImage h0 hB (nI (4 + j0)) (nI (4 + j1)) d
  have i0 : (nI (4 + j0)).toInt = ((4 + j0 : Nat) : Int) := nI_toInt (by omega)
  have i1 : (nI (4 + j1)).toInt = ((4 + j1 : Nat) : Int) := nI_toInt (by omega)
  have wN : (4 ≤ (nI (4 + j0)).toInt ∧ (nI (4 + j0)).toInt ≤ 16) ∧ 4 ≤ (nI (4 + j1)).toInt ∧ (nI (4 + j1)).toInt ≤ 16 := by rw [i0, i1]; omega
  have rN : ¬ rNew (nI (4 + j0)) (nI (4 + j1)) < 16 := by
    have hp : 4 * 4 ≤ (4 + j0) * (4 + j1) := Nat.mul_le_mul (Nat.le_add_right _ _) (Nat.le_add_right _ _)
    have hq : (4 + j0) * (4 + j1) ≤ 9 * 9 := Nat.mul_le_mul (by omega) (by omega)
    unfold rNew
    rw [if_pos wN, pk_mul]
    intro q
    have := (n_lt (b := 16) (by omega) (by decide)).mp q
    omega
  have eN : tNew A0 (nI (4 + j0)) (nI (4 + j1)) = aTil (aSet (aPush A0) (imgC (aC A0) (nI (4 + j0)).toNatClampNeg (nI (4 + j1)).toNatClampNeg)) (fun _ => 0) := if_pos wN
  have N1 : cN (aC (tNew A0 (nI (4 + j0)) (nI (4 + j1)))) = 0 := by rw [eN]; rfl
  have S1 : aS (tNew A0 (nI (4 + j0)) (nI (4 + j1))) = aS A0 := by rw [eN]; rfl
  generalize tNew A0 (nI (4 + j0)) (nI (4 + j1)) = A1 at *
  obtain ⟨v2, x2⟩ := y_cell h1 hn31 (x := 0) (k := 0) rfl (by decide) d
  have y2 : zEv (d + 31) mL_low [.inl (v2 >>> (6 &&& 31)), .inl 4] t1 = some (some (.inl (lowI (v2 >>> (6 &&& 31)) 4)), t1) := y_low _ _ (by decide) t1 d
  obtain ⟨j2, ej2, hj2⟩ := low_R (v := v2 >>> (6 &&& 31)) (n := 4) (m := 4) rfl (by decide) (by decide)
  rw [ej2] at y2
  have e2 : ∀ j, (2 : Int32) + nI j = nI (2 + j) := fun j => nI_add 2 j
  obtain ⟨t2, a2, h2⟩ := y_setTileSize h1 hB (nI (2 + j2)) d
  have i2 : (nI (2 + j2)).toInt = ((2 + j2 : Nat) : Int) := nI_toInt (by omega)
  have w2 : 2 ≤ (nI (2 + j2)).toInt ∧ (nI (2 + j2)).toInt ≤ 8 := by rw [i2]; omega
  have r2 : ¬ rTs A1 (nI (2 + j2)) < 0 := by
    unfold rTs
    rw [if_pos w2]
    exact cnt_nn _
  have N2 : cN (aC (tTs A1 (nI (2 + j2)))) = 0 := by
    unfold tTs
    rw [if_pos w2]
    exact N1
  have S2 : aS (tTs A1 (nI (2 + j2))) = aS A0 := by
    unfold tTs
    rw [if_pos w2]
    exact S1
  generalize tTs A1 (nI (2 + j2)) = A2 at *
  obtain ⟨v3, x3⟩ := y_cell h2 hn31 (x := 0) (k := 0) rfl (by decide) d
  have y3 : zEv (d + 31) mL_low [.inl (v3 >>> (8 &&& 31)), .inl 20] t2 = some (some (.inl (lowI (v3 >>> (8 &&& 31)) 20)), t2) := y_low _ _ (by decide) t2 d
  obtain ⟨j3, ej3, hj3⟩ := low_R (v := v3 >>> (8 &&& 31)) (n := 20) (m := 20) rfl (by decide) (by decide)
  rw [ej3] at y3
  have e1 : ∀ j, (1 : Int32) + nI j = nI (1 + j) := fun j => nI_add 1 j
  obtain ⟨t3, a3, h3⟩ := y_setCacheLimit h2 hB (nI (1 + j3)) d
  have i3 : (nI (1 + j3)).toInt = ((1 + j3 : Nat) : Int) := nI_toInt (by omega)
  have w3 : 1 ≤ (nI (1 + j3)).toInt ∧ (nI (1 + j3)).toInt ≤ 64 := by rw [i3]; omega
  have r3 : ¬ rLim A2 (nI (1 + j3)) < 0 := by
    unfold rLim
    rw [if_pos w3]
    exact nI_pos (Nat.lt_of_le_of_lt (Nat.sub_le _ _) (Nat.lt_of_le_of_lt (cnt_le _ 512) (by decide)))
  have N3 : cN (aC (tLim A2 (nI (1 + j3)))) = 0 := by
    unfold tLim
    rw [if_pos w3]
    exact N2
  have S3 : aS (tLim A2 (nI (1 + j3))) = aS A0 := by
    unfold tLim
    rw [if_pos w3]
    exact S2
  generalize tLim A2 (nI (1 + j3)) = A3 at *
  obtain ⟨v4, x4⟩ := y_cell h3 hn31 (x := 1) (k := 1) rfl (by decide) d
  have y4 : zEv (d + 31) mL_low [.inl v4, .inl 3] t3 = some (some (.inl (lowI v4 3)), t3) := y_low _ _ (by decide) t3 d
  obtain ⟨j4, ej4, hj4⟩ := low_R (v := v4) (n := 3) (m := 3) rfl (by decide) (by decide)
  rw [ej4] at y4
  obtain ⟨ψ, hψ⟩ := z_102 (xs := xs) (many := 1 + j4) hn31 (by omega) (599743, 7294296) (by decide) d (1 + j4) 0 t3 A3 (.inr (.inr none)) (Nat.zero_add _) h3 N3 (by rw [S3]; rfl)
  refine ⟨ψ, ?_⟩
  rw [eL_law]
  unfold fL_law
  rw [ho] at k0
  simp only [chk_e, ho, k0, if_true, c1', bnV_s, x0, bnI_s, y0, y1, e4, h0.o8, a1, rN, if_false, x2, y2, e2, h1.o8, a2, r2, x3, y3, e1, h2.o8, a3, r3, x4, y4, zlt_e]
  exact hψ
