/-! the tiles kept are never more than the limit -/
theorem LG_of {A A' : zW} (h : LG A) (h1 : tLm (aT A') = tLm (aT A)) (h2 : ∀ k, k < 512 → aU A' k = 0 ∨ aU A' k = aU A k) : LG A' := by
  have go : ∀ n, n ≤ 512 → cnt (aU A') n ≤ cnt (aU A) n := by
    intro n
    induction n with
    | zero => intro _; exact Nat.le_refl _
    | succ n ih =>
      intro hn
      have ih := ih (by omega)
      show cnt (aU A') n + (if aU A' n = 0 then 0 else 1) ≤ cnt (aU A) n + (if aU A n = 0 then 0 else 1)
      rcases h2 n (by omega) with e | e
      · rw [if_pos e]; split <;> omega
      · rw [e]; omega
  have := go 512 (Nat.le_refl _)
  unfold LG at h ⊢
  omega
theorem LG.row {A : zW} (h : LG A) (k : Nat) (l : Nat → Int) : LG (aRow A k l) := LG_of h rfl (fun j _ => zrU_or _ _ _ j)
theorem LG.chs {A : zW} (h : LG A) (k : Nat) (C : zC) : LG (aSet (aCh A k) C) := LG_of h rfl (fun j _ => zrU_or _ _ _ j)
theorem LG.nil {A A' : zW} (h : LG A) (h1 : tLm (aT A') = tLm (aT A)) (h2 : ∀ k, aU A' k = 0) : LG A' := LG_of h h1 (fun k _ => Or.inl (h2 k))
theorem LG.eq {A A' : zW} (h : LG A) (h1 : tLm (aT A') = tLm (aT A)) (h2 : aU A' = aU A) : LG A' := LG_of h h1 (fun k _ => Or.inr (by rw [h2]))
theorem cnt_drp : ∀ n (u : Nat → Nat), cnt (drpU 512 u n) 512 ≤ cnt u 512 - n
  | 0, u => Nat.le_refl _
  | n + 1, u => by
    cases ho : oldU u 512 with
    | none =>
      rw [drpU_none n ho]
      have : cnt u 512 = 0 := oldU_none u 512 ho
      omega
    | some j =>
      rw [drpU_some n ho]
      have := cnt_drp n (clr u j)
      have e := cnt_old ho
      omega
theorem LG.drop (A : zW) (F : zT) : LG (aDrop A F) := by
  have h := cnt_drp (cnt (aU A) 512 - tLm F) (aU A)
  show cnt (drpU 512 (aU A) (cnt (aU A) 512 - tLm F)) 512 ≤ tLm F
  have := Nat.le_refl (cnt (aU A) 512)
  by_cases c : cnt (aU A) 512 ≤ tLm F
  · omega
  · omega
theorem cnt_shU (u : Nat → Nat) (k : Nat) : cnt (shU u k) 512 ≤ cnt u 512 := by
  have mono : ∀ a b, cnt u a ≤ cnt u (a + b) := by
    intro a b
    induction b with
    | zero => exact Nat.le_refl _
    | succ b ih => exact Nat.le_trans ih (by show cnt u (a + b) ≤ cnt u (a + b) + _; omega)
  have go : ∀ n, cnt (shU u k) n ≤ cnt u (min (n + 64 * k) 512) := by
    intro n
    induction n with
    | zero => exact Nat.zero_le _
    | succ n ih =>
      show cnt (shU u k) n + (if shU u k n = 0 then 0 else 1) ≤ _
      unfold shU at ih ⊢
      by_cases c : n + 64 * k < 512
      · have e1 : min (n + 64 * k) 512 = n + 64 * k := by omega
        have e2 : min (n + 1 + 64 * k) 512 = (n + 64 * k) + 1 := by omega
        rw [e1] at ih
        rw [e2]
        simp only [if_pos c]
        show _ ≤ cnt u (n + 64 * k) + (if u (n + 64 * k) = 0 then 0 else 1)
        omega
      · have e1 : min (n + 64 * k) 512 = 512 := by omega
        have e2 : min (n + 1 + 64 * k) 512 = 512 := by omega
        rw [e1] at ih
        rw [e2]
        simp only [if_neg c, if_true]
        omega
  have := go 512
  rw [show min (512 + 64 * k) 512 = 512 by omega] at this
  exact this
theorem LG.new {A : zW} (h : LG A) (x y : Int32) : LG (tNew A x y) := by
  unfold tNew
  split
  · exact h.nil rfl (fun _ => rfl)
  · exact h
theorem LG.pix {A : zW} (h : LG A) (x y v : Int32) : LG (tPix A x y v) := by
  unfold tPix aPt
  split
  · exact LG_of h rfl (fun j _ => seeU_or _ _ _ _ _ _ _ _ j)
  · exact h
theorem LG.fil {A : zW} (h : LG A) (x y w g v : Int32) : LG (tFil A x y w g v) := by
  unfold tFil aPt
  split
  · exact LG_of h rfl (fun j _ => seeU_or _ _ _ _ _ _ _ _ j)
  · exact h
theorem LG.add {A : zW} (h : LG A) (x y v : Int32) : LG (tAdd A x y v) := by
  unfold tAdd
  split
  · split
    · exact h
    · exact h.eq rfl rfl
  · exact h
theorem LG.par {A : zW} (h : LG A) (x y v : Int32) : LG (tPar A x y v) := by
  unfold tPar
  split
  · exact h.row _ _
  · exact h
theorem LG.blend {A : zW} (h : LG A) (x y v : Int32) : LG (tBlend A x y v) := by
  unfold tBlend
  split
  · exact h.row _ _
  · exact h
theorem LG.en {A : zW} (h : LG A) (x y : Int32) : LG (tEn A x y) := by
  unfold tEn
  split
  · split
    · exact h
    · exact h.row _ _
  · exact h
theorem LG.mv {A : zW} (h : LG A) (x y : Int32) : LG (tMv A x y) := by
  unfold tMv
  split
  · exact h.chs _ _
  · exact h
theorem LG.dup {A : zW} (h : LG A) (x : Int32) : LG (tDup A x) := by
  unfold tDup
  split
  · split
    · exact h
    · exact h.chs _ _
  · exact h
theorem LG.rem {A : zW} (h : LG A) (x : Int32) : LG (tRem A x) := by
  unfold tRem
  split
  · exact h.chs _ _
  · exact h
theorem LG.fla {A : zW} (h : LG A) (x : Int32) : LG (tFla A x) := by
  unfold tFla
  split
  · have := cnt_shU (aU A) (x.toNatClampNeg + 1)
    unfold LG at h ⊢
    show cnt (shU (aU A) (x.toNatClampNeg + 1)) 512 ≤ tLm (aT A)
    omega
  · exact h
theorem LG.mask {A : zW} (h : LG A) (x k c d e f : Int32) : LG (tMask A x k c d e f) := by
  unfold tMask
  split
  · exact h.row _ _
  · exact h
theorem LG.feather {A : zW} (h : LG A) (x y : Int32) : LG (tFeather A x y) := by
  unfold tFeather
  split
  · exact h.row _ _
  · exact h
theorem LG.invert {A : zW} (h : LG A) (x : Int32) : LG (tInvert A x) := by
  unfold tInvert
  split
  · exact h.row _ _
  · exact h
theorem LG.dab {A : zW} (h : LG A) (k x y r : Int32) : LG (tDab A k x y r) := by
  unfold tDab
  split
  · split
    · exact h.row _ _
    · exact h
  · exact h
theorem LG.app {A : zW} (h : LG A) (x : Int32) : LG (tApp A x) := by
  unfold tApp
  split
  · split
    · exact h
    · exact h.eq rfl rfl
  · exact h
theorem LG.clearT {A : zW} (h : LG A) : LG (tClearT A) := h.eq rfl rfl
theorem LG.load {A : zW} (h : LG A) : LG (tLoad A) := by
  unfold tLoad
  split
  · exact h.nil rfl (fun _ => rfl)
  · exact h
theorem LG.px {A : zW} (h : LG A) (x i j : Int32) : LG (tPx A x i j) := by
  unfold tPx
  split
  · exact LG.drop _ _
  · exact h
theorem LG.pre {A : zW} (h : LG A) (x : Int32) : LG (tPre A x) := by
  unfold tPre
  split
  · exact LG.drop _ _
  · exact h
theorem LG.lim {A : zW} (h : LG A) (x : Int32) : LG (tLim A x) := by
  unfold tLim
  split
  · exact LG.drop _ _
  · exact h
theorem LG.ts {A : zW} (h : LG A) (x : Int32) : LG (tTs A x) := by
  unfold tTs
  split
  · exact h.nil rfl (fun _ => rfl)
  · exact h
theorem LG.clearC {A : zW} (h : LG A) : LG (tClearC A) := h.nil rfl (fun _ => rfl)
theorem LG.undo {A : zW} (h : LG A) : LG (tUndo A) := by
  unfold tUndo
  split
  · exact h
  · exact h.nil rfl (fun _ => rfl)
theorem LG.sav {A : zW} (h : LG A) (x : Int32) : LG (tSav A x) := by
  unfold tSav
  split
  · exact h.eq rfl rfl
  · exact h
theorem LG.rest {A : zW} (h : LG A) (x : Int32) : LG (tRest A x) := by
  unfold tRest
  split
  · split
    · exact h
    · exact h.nil rfl (fun _ => rfl)
  · exact h
/-! the law's loop -/
/-- what holds at the loop's head: the object at o, the reference at o + 257, the script at b -/
def LInv (σ : zS) (b o n : Nat) (xs : Nat → Int32) (A : zW) (B : Nat) : Prop := GA A B ∧ LG A ∧ (∃ q u P, CIx σ o A q u P) ∧ MIx σ (o + 257) A ∧ StK σ o ∧ StW σ o ∧ b < o ∧ zkd σ b = 16 ∧ zln σ b = n ∧ o + 279 ≤ znx σ ∧ ∀ i, i < n → zai σ b i = xs i
theorem GA.mono {A : zW} {B B' : Nat} (h : GA A B) (hB : B ≤ B') : GA A B' := by
  obtain ⟨h1, h2, h3, h4, h5, h6, h7, h8, h9⟩ := h
  exact ⟨h1, h2, h3, h4, h5, h6, h7, h8, Nat.le_trans h9 hB⟩
theorem LInv.mono {σ : zS} {b o n : Nat} {xs : Nat → Int32} {A : zW} {B B' : Nat} (h : LInv σ b o n xs A B) (hB : B ≤ B') : LInv σ b o n xs A B' := ⟨h.1.mono hB, h.2⟩
theorem LInv.o8 {σ : zS} {b o n : Nat} {xs : Nat → Int32} {A : zW} {B : Nat} (h : LInv σ b o n xs A B) : zkd σ o = 8 := by
  obtain ⟨q, u, P, hI⟩ := h.2.2.1
  exact hI.1.1.f.1
theorem L_step {σ : zS} {b o n : Nat} {xs : Nat → Int32} {A A' : zW} {B B' : Nat} {r : Int32} {z1 z2 : zS → zO} (h : LInv σ b o n xs A B) (hG' : GA A' B') (hL' : LG A') (h1 : ∀ q u P, CIx σ o A q u P → zOS o (z1 σ) r A' σ) (h2 : ∀ τ, MIx τ (o + 257) A → zOM (o + 257) (z2 τ) r A' τ) :
    ∃ τ1 τ2, z1 σ = some (some (.inl r), τ1) ∧ z2 τ1 = some (some (.inl r), τ2) ∧ LInv τ2 b o n xs A' B' ∧ zkd τ1 b = 16 ∧ zln τ1 b = n ∧ (∀ i, i < n → zai τ1 b i = xs i) ∧ zkd τ1 (o + 257) = 9 := by
  obtain ⟨hG, hL, ⟨q, u, P, hI⟩, hM, hK, hW, hbo, hbk, hbl, hnx, hxs⟩ := h
  obtain ⟨τ1, q', u', P', k1, k2, k3, k4⟩ := h1 q u P hI
  have hM1 : MIx τ1 (o + 257) A := hM.eq k3 (fun a h1 h2 => Or.inr ⟨h1, by omega⟩)
  obtain ⟨τ2, l1, l2, l3⟩ := h2 τ1 hM1
  have hK1 : StK τ1 o := hK.eq k3 (fun a ha => Or.inl ha)
  have hW1 : StW τ1 o := hW.eq k3 (fun a ha => Or.inl ha)
  have b1 := (k3.kd (Or.inl hbo)).trans hbk
  have b2 := (k3.ln (Or.inl hbo)).trans hbl
  have b3 : ∀ i, i < n → zai τ1 b i = xs i := fun i hi => (k3.ai (Or.inl hbo) i).trans (hxs i hi)
  exact ⟨τ1, τ2, k1, l1, ⟨hG', hL', ⟨q', u', P', k2.fr hG' l3 (fun a h1 h2 => by omega) (fun a ha => by omega)⟩, l2, hK1.fr l3 (fun a ha => by omega), hW1.fr l3 (fun a ha => by omega), hbo, by rw [l3.kd]; exact b1, by rw [l3.ln]; exact b2, by rw [l3.nx]; omega, fun i hi => (l3.ai (by omega) i).trans (b3 i hi)⟩, b1, b2, b3, hM1.1.k⟩
theorem L_ix {i n j : Nat} (h : i + j < n) (hn : n ≤ 3584) : zin (nI i + nI j) n = True ∧ (nI i + nI j).toNatClampNeg = i + j := by
  rw [nI_add]
  exact ⟨eq_true ((n_zin (by omega)).mpr h), n_tn (by omega)⟩
theorem zfit_t {b : Nat × Nat} (h : 28 ≤ b.1 ∧ 542 ≤ b.2) : (zfit b (28, 542) && true) = true := by
  unfold zfit
  rw [Nat.ble_eq_true_of_le h.1, Nat.ble_eq_true_of_le h.2]
  rfl
def LNext (X : zO) (b o n i : Nat) (xs : Nat → Int32) (bb : Nat × Nat) (B d : Nat) : Prop := ∃ τ A' bb', X = LL_law_1373 (zEv (d + 30)) (some b) (some o) (some (o + 257)) (nI i) bb' τ ∧ LInv τ b o n xs A' (B + 33000) ∧ bb.1 ≤ bb'.1 + 28 ∧ bb.2 ≤ bb'.2 + 542
theorem w_newImage {σ : zS} {b o n i B : Nat} {xs : Nat → Int32} {A : zW} {bb : Nat × Nat} (h : LInv σ b o n xs A B) (hB : B < 2 ^ 29) (hn : n ≤ 3584) (hi : i + 7 ≤ n) (hb : 28 ≤ bb.1 ∧ 542 ≤ bb.2) (d : Nat) : LNext (LL_law_204 (zEv (d + 30)) (some b) (some o) (some (o + 257)) (nI i) bb σ) b o n i xs bb B d := by
  obtain ⟨τ1, τ2, k1, k2, k3, k4, k5, k6, k7⟩ := L_step (A' := (tNew A (xs (i + 1)) (xs (i + 2)))) (B' := B) (r := (rNew (xs (i + 1)) (xs (i + 2)))) (z1 := fun σ => zEv (d + 30) mX10_newImage [.inr (.inl (some o)), .inl (xs (i + 1)), .inl (xs (i + 2))] σ) (z2 := fun σ => zEv (d + 30) mX11_newImage [.inr (.inl (some (o + 257))), .inl (xs (i + 1)), .inl (xs (i + 2))] σ) h (h.1.new (xs (i + 1)) (xs (i + 2))) (LG.new h.2.1 (xs (i + 1)) (xs (i + 2))) (fun q u P hI => (c_newImage h.1 (by omega) hI (xs (i + 1)) (xs (i + 2)) (d + 10)).os) (fun τ hI => m_newImage h.1 (by omega) hI (xs (i + 1)) (xs (i + 2)) (d + 10))
  have e1 : zin (nI i + 1) n = True ∧ (nI i + 1).toNatClampNeg = i + 1 := L_ix (j := 1) (by omega) hn
  have e2 : zin (nI i + 2) n = True ∧ (nI i + 2).toNatClampNeg = i + 2 := L_ix (j := 2) (by omega) hn
  have k1 : zEv (d + 30) mX10_newImage [.inr (.inl (some o)), .inl (xs (i + 1)), .inl (xs (i + 2))] σ = some (some (.inl (rNew (xs (i + 1)) (xs (i + 2)))), τ1) := k1
  have k2 : zEv (d + 30) mX11_newImage [.inr (.inl (some (o + 257))), .inl (xs (i + 1)), .inl (xs (i + 2))] τ1 = some (some (.inl (rNew (xs (i + 1)) (xs (i + 2)))), τ2) := k2
  rw [uL_law_204]
  simp only [onR_s, chk_e, h.2.2.2.2.2.2.2.1, h.2.2.2.2.2.2.2.2.1, h.o8, k4, k5, k7, and_self, if_true, zlt_e, bnI_s, e1.1, e1.2, h.2.2.2.2.2.2.2.2.2.2 (i + 1) (by omega), k6 (i + 1) (by omega), e2.1, e2.2, h.2.2.2.2.2.2.2.2.2.2 (i + 2) (by omega), k6 (i + 2) (by omega), k1, k2]
  exact ⟨τ2, _, bb, rfl, k3.mono (by omega), by omega, by omega⟩
theorem w_setPixel {σ : zS} {b o n i B : Nat} {xs : Nat → Int32} {A : zW} {bb : Nat × Nat} (h : LInv σ b o n xs A B) (hB : B < 2 ^ 29) (hn : n ≤ 3584) (hi : i + 7 ≤ n) (hb : 28 ≤ bb.1 ∧ 542 ≤ bb.2) (d : Nat) : LNext (LL_law_237 (zEv (d + 30)) (some b) (some o) (some (o + 257)) (nI i) bb σ) b o n i xs bb B d := by
  obtain ⟨τ1, τ2, k1, k2, k3, k4, k5, k6, k7⟩ := L_step (A' := (tPix A (xs (i + 1)) (xs (i + 2)) (xs (i + 3)))) (B' := B) (r := (rPix A (xs (i + 1)) (xs (i + 2)) (xs (i + 3)))) (z1 := fun σ => zEv (d + 30) mX10_setPixel [.inr (.inl (some o)), .inl (xs (i + 1)), .inl (xs (i + 2)), .inl (xs (i + 3))] σ) (z2 := fun σ => zEv (d + 30) mX11_setPixel [.inr (.inl (some (o + 257))), .inl (xs (i + 1)), .inl (xs (i + 2)), .inl (xs (i + 3))] σ) h (h.1.pix (xs (i + 1)) (xs (i + 2)) (xs (i + 3))) (LG.pix h.2.1 (xs (i + 1)) (xs (i + 2)) (xs (i + 3))) (fun q u P hI => (c_setPixel h.1 (by omega) hI (xs (i + 1)) (xs (i + 2)) (xs (i + 3)) (d + 10)).os) (fun τ hI => m_setPixel h.1 (by omega) hI (xs (i + 1)) (xs (i + 2)) (xs (i + 3)) (d + 10))
  have e1 : zin (nI i + 1) n = True ∧ (nI i + 1).toNatClampNeg = i + 1 := L_ix (j := 1) (by omega) hn
  have e2 : zin (nI i + 2) n = True ∧ (nI i + 2).toNatClampNeg = i + 2 := L_ix (j := 2) (by omega) hn
  have e3 : zin (nI i + 3) n = True ∧ (nI i + 3).toNatClampNeg = i + 3 := L_ix (j := 3) (by omega) hn
  have k1 : zEv (d + 30) mX10_setPixel [.inr (.inl (some o)), .inl (xs (i + 1)), .inl (xs (i + 2)), .inl (xs (i + 3))] σ = some (some (.inl (rPix A (xs (i + 1)) (xs (i + 2)) (xs (i + 3)))), τ1) := k1
  have k2 : zEv (d + 30) mX11_setPixel [.inr (.inl (some (o + 257))), .inl (xs (i + 1)), .inl (xs (i + 2)), .inl (xs (i + 3))] τ1 = some (some (.inl (rPix A (xs (i + 1)) (xs (i + 2)) (xs (i + 3)))), τ2) := k2
  rw [uL_law_237]
  simp only [onR_s, chk_e, h.2.2.2.2.2.2.2.1, h.2.2.2.2.2.2.2.2.1, h.o8, k4, k5, k7, and_self, if_true, zlt_e, bnI_s, e1.1, e1.2, h.2.2.2.2.2.2.2.2.2.2 (i + 1) (by omega), k6 (i + 1) (by omega), e2.1, e2.2, h.2.2.2.2.2.2.2.2.2.2 (i + 2) (by omega), k6 (i + 2) (by omega), e3.1, e3.2, h.2.2.2.2.2.2.2.2.2.2 (i + 3) (by omega), k6 (i + 3) (by omega), k1, k2]
  exact ⟨τ2, _, bb, rfl, k3.mono (by omega), by omega, by omega⟩
theorem w_fillRectangle {σ : zS} {b o n i B : Nat} {xs : Nat → Int32} {A : zW} {bb : Nat × Nat} (h : LInv σ b o n xs A B) (hB : B < 2 ^ 29) (hn : n ≤ 3584) (hi : i + 7 ≤ n) (hb : 28 ≤ bb.1 ∧ 542 ≤ bb.2) (d : Nat) : LNext (LL_law_280 (zEv (d + 30)) (some b) (some o) (some (o + 257)) (nI i) bb σ) b o n i xs bb B d := by
  obtain ⟨τ1, τ2, k1, k2, k3, k4, k5, k6, k7⟩ := L_step (A' := (tFil A (xs (i + 1)) (xs (i + 2)) (xs (i + 3)) (xs (i + 4)) (xs (i + 5)))) (B' := B) (r := (rFil A (xs (i + 1)) (xs (i + 2)) (xs (i + 3)) (xs (i + 4)) (xs (i + 5)))) (z1 := fun σ => zEv (d + 30) mX10_fillRectangle [.inr (.inl (some o)), .inl (xs (i + 1)), .inl (xs (i + 2)), .inl (xs (i + 3)), .inl (xs (i + 4)), .inl (xs (i + 5))] σ) (z2 := fun σ => zEv (d + 30) mX11_fillRectangle [.inr (.inl (some (o + 257))), .inl (xs (i + 1)), .inl (xs (i + 2)), .inl (xs (i + 3)), .inl (xs (i + 4)), .inl (xs (i + 5))] σ) h (h.1.fil (xs (i + 1)) (xs (i + 2)) (xs (i + 3)) (xs (i + 4)) (xs (i + 5))) (LG.fil h.2.1 (xs (i + 1)) (xs (i + 2)) (xs (i + 3)) (xs (i + 4)) (xs (i + 5))) (fun q u P hI => (c_fillRectangle h.1 (by omega) hI (xs (i + 1)) (xs (i + 2)) (xs (i + 3)) (xs (i + 4)) (xs (i + 5)) (d + 10)).os) (fun τ hI => m_fillRectangle h.1 (by omega) hI (xs (i + 1)) (xs (i + 2)) (xs (i + 3)) (xs (i + 4)) (xs (i + 5)) (d + 10))
  have e1 : zin (nI i + 1) n = True ∧ (nI i + 1).toNatClampNeg = i + 1 := L_ix (j := 1) (by omega) hn
  have e2 : zin (nI i + 2) n = True ∧ (nI i + 2).toNatClampNeg = i + 2 := L_ix (j := 2) (by omega) hn
  have e3 : zin (nI i + 3) n = True ∧ (nI i + 3).toNatClampNeg = i + 3 := L_ix (j := 3) (by omega) hn
  have e4 : zin (nI i + 4) n = True ∧ (nI i + 4).toNatClampNeg = i + 4 := L_ix (j := 4) (by omega) hn
  have e5 : zin (nI i + 5) n = True ∧ (nI i + 5).toNatClampNeg = i + 5 := L_ix (j := 5) (by omega) hn
  have k1 : zEv (d + 30) mX10_fillRectangle [.inr (.inl (some o)), .inl (xs (i + 1)), .inl (xs (i + 2)), .inl (xs (i + 3)), .inl (xs (i + 4)), .inl (xs (i + 5))] σ = some (some (.inl (rFil A (xs (i + 1)) (xs (i + 2)) (xs (i + 3)) (xs (i + 4)) (xs (i + 5)))), τ1) := k1
  have k2 : zEv (d + 30) mX11_fillRectangle [.inr (.inl (some (o + 257))), .inl (xs (i + 1)), .inl (xs (i + 2)), .inl (xs (i + 3)), .inl (xs (i + 4)), .inl (xs (i + 5))] τ1 = some (some (.inl (rFil A (xs (i + 1)) (xs (i + 2)) (xs (i + 3)) (xs (i + 4)) (xs (i + 5)))), τ2) := k2
  rw [uL_law_280]
  simp only [onR_s, chk_e, h.2.2.2.2.2.2.2.1, h.2.2.2.2.2.2.2.2.1, h.o8, k4, k5, k7, and_self, if_true, zlt_e, bnI_s, e1.1, e1.2, h.2.2.2.2.2.2.2.2.2.2 (i + 1) (by omega), k6 (i + 1) (by omega), e2.1, e2.2, h.2.2.2.2.2.2.2.2.2.2 (i + 2) (by omega), k6 (i + 2) (by omega), e3.1, e3.2, h.2.2.2.2.2.2.2.2.2.2 (i + 3) (by omega), k6 (i + 3) (by omega), e4.1, e4.2, h.2.2.2.2.2.2.2.2.2.2 (i + 4) (by omega), k6 (i + 4) (by omega), e5.1, e5.2, h.2.2.2.2.2.2.2.2.2.2 (i + 5) (by omega), k6 (i + 5) (by omega), k1, k2]
  exact ⟨τ2, _, bb, rfl, k3.mono (by omega), by omega, by omega⟩
theorem w_size {σ : zS} {b o n i B : Nat} {xs : Nat → Int32} {A : zW} {bb : Nat × Nat} (h : LInv σ b o n xs A B) (hB : B < 2 ^ 29) (hn : n ≤ 3584) (hi : i + 7 ≤ n) (hb : 28 ≤ bb.1 ∧ 542 ≤ bb.2) (d : Nat) : LNext (LL_law_343 (zEv (d + 30)) (some b) (some o) (some (o + 257)) (nI i) bb σ) b o n i xs bb B d := by
  obtain ⟨τ1, τ2, k1, k2, k3, k4, k5, k6, k7⟩ := L_step (A' := A) (B' := B) (r := (rSize A (xs (i + 1)))) (z1 := fun σ => zEv (d + 30) mX10_size [.inr (.inl (some o)), .inl (xs (i + 1))] σ) (z2 := fun σ => zEv (d + 30) mX11_size [.inr (.inl (some (o + 257))), .inl (xs (i + 1))] σ) h h.1 h.2.1 (fun q u P hI => (c_size h.1 hI (xs (i + 1)) (d + 10)).os) (fun τ hI => m_size h.1 hI (xs (i + 1)) (d + 10))
  have e1 : zin (nI i + 1) n = True ∧ (nI i + 1).toNatClampNeg = i + 1 := L_ix (j := 1) (by omega) hn
  have k1 : zEv (d + 30) mX10_size [.inr (.inl (some o)), .inl (xs (i + 1))] σ = some (some (.inl (rSize A (xs (i + 1)))), τ1) := k1
  have k2 : zEv (d + 30) mX11_size [.inr (.inl (some (o + 257))), .inl (xs (i + 1))] τ1 = some (some (.inl (rSize A (xs (i + 1)))), τ2) := k2
  rw [uL_law_343]
  simp only [onR_s, chk_e, h.2.2.2.2.2.2.2.1, h.2.2.2.2.2.2.2.2.1, h.o8, k4, k5, k7, and_self, if_true, zlt_e, bnI_s, e1.1, e1.2, h.2.2.2.2.2.2.2.2.2.2 (i + 1) (by omega), k6 (i + 1) (by omega), k1, k2]
  exact ⟨τ2, _, bb, rfl, k3.mono (by omega), by omega, by omega⟩
theorem w_addLayer {σ : zS} {b o n i B : Nat} {xs : Nat → Int32} {A : zW} {bb : Nat × Nat} (h : LInv σ b o n xs A B) (hB : B < 2 ^ 29) (hn : n ≤ 3584) (hi : i + 7 ≤ n) (hb : 28 ≤ bb.1 ∧ 542 ≤ bb.2) (d : Nat) : LNext (LL_law_366 (zEv (d + 30)) (some b) (some o) (some (o + 257)) (nI i) bb σ) b o n i xs bb B d := by
  obtain ⟨τ1, τ2, k1, k2, k3, k4, k5, k6, k7⟩ := L_step (A' := (tAdd A (xs (i + 1)) (xs (i + 2)) (xs (i + 3)))) (B' := B) (r := (rAdd A (xs (i + 1)) (xs (i + 2)) (xs (i + 3)))) (z1 := fun σ => zEv (d + 30) mX10_addLayer [.inr (.inl (some o)), .inl (xs (i + 1)), .inl (xs (i + 2)), .inl (xs (i + 3))] σ) (z2 := fun σ => zEv (d + 30) mX11_addLayer [.inr (.inl (some (o + 257))), .inl (xs (i + 1)), .inl (xs (i + 2)), .inl (xs (i + 3))] σ) h (h.1.add (xs (i + 1)) (xs (i + 2)) (xs (i + 3))) (LG.add h.2.1 (xs (i + 1)) (xs (i + 2)) (xs (i + 3))) (fun q u P hI => (c_addLayer h.1 h.2.2.2.2.1 hI (xs (i + 1)) (xs (i + 2)) (xs (i + 3)) (d + 10)).os) (fun τ hI => m_addLayer h.1 hI (xs (i + 1)) (xs (i + 2)) (xs (i + 3)) (d + 10))
  have e1 : zin (nI i + 1) n = True ∧ (nI i + 1).toNatClampNeg = i + 1 := L_ix (j := 1) (by omega) hn
  have e2 : zin (nI i + 2) n = True ∧ (nI i + 2).toNatClampNeg = i + 2 := L_ix (j := 2) (by omega) hn
  have e3 : zin (nI i + 3) n = True ∧ (nI i + 3).toNatClampNeg = i + 3 := L_ix (j := 3) (by omega) hn
  have k1 : zEv (d + 30) mX10_addLayer [.inr (.inl (some o)), .inl (xs (i + 1)), .inl (xs (i + 2)), .inl (xs (i + 3))] σ = some (some (.inl (rAdd A (xs (i + 1)) (xs (i + 2)) (xs (i + 3)))), τ1) := k1
  have k2 : zEv (d + 30) mX11_addLayer [.inr (.inl (some (o + 257))), .inl (xs (i + 1)), .inl (xs (i + 2)), .inl (xs (i + 3))] τ1 = some (some (.inl (rAdd A (xs (i + 1)) (xs (i + 2)) (xs (i + 3)))), τ2) := k2
  rw [uL_law_366]
  simp only [onR_s, chk_e, h.2.2.2.2.2.2.2.1, h.2.2.2.2.2.2.2.2.1, h.o8, k4, k5, k7, and_self, if_true, zlt_e, bnI_s, e1.1, e1.2, h.2.2.2.2.2.2.2.2.2.2 (i + 1) (by omega), k6 (i + 1) (by omega), e2.1, e2.2, h.2.2.2.2.2.2.2.2.2.2 (i + 2) (by omega), k6 (i + 2) (by omega), e3.1, e3.2, h.2.2.2.2.2.2.2.2.2.2 (i + 3) (by omega), k6 (i + 3) (by omega), k1, k2]
  exact ⟨τ2, _, bb, rfl, k3.mono (by omega), by omega, by omega⟩
theorem w_setParameters {σ : zS} {b o n i B : Nat} {xs : Nat → Int32} {A : zW} {bb : Nat × Nat} (h : LInv σ b o n xs A B) (hB : B < 2 ^ 29) (hn : n ≤ 3584) (hi : i + 7 ≤ n) (hb : 28 ≤ bb.1 ∧ 542 ≤ bb.2) (d : Nat) : LNext (LL_law_409 (zEv (d + 30)) (some b) (some o) (some (o + 257)) (nI i) bb σ) b o n i xs bb B d := by
  obtain ⟨τ1, τ2, k1, k2, k3, k4, k5, k6, k7⟩ := L_step (A' := (tPar A (xs (i + 1)) (xs (i + 2)) (xs (i + 3)))) (B' := B) (r := (rPar A (xs (i + 1)) (xs (i + 2)) (xs (i + 3)))) (z1 := fun σ => zEv (d + 30) mX10_setParameters [.inr (.inl (some o)), .inl (xs (i + 1)), .inl (xs (i + 2)), .inl (xs (i + 3))] σ) (z2 := fun σ => zEv (d + 30) mX11_setParameters [.inr (.inl (some (o + 257))), .inl (xs (i + 1)), .inl (xs (i + 2)), .inl (xs (i + 3))] σ) h (h.1.par (xs (i + 1)) (xs (i + 2)) (xs (i + 3))) (LG.par h.2.1 (xs (i + 1)) (xs (i + 2)) (xs (i + 3))) (fun q u P hI => (c_setParameters h.1 (by omega) h.2.2.2.2.1 hI (xs (i + 1)) (xs (i + 2)) (xs (i + 3)) (d + 10)).os) (fun τ hI => m_setParameters h.1 (by omega) hI (xs (i + 1)) (xs (i + 2)) (xs (i + 3)) (d + 10))
  have e1 : zin (nI i + 1) n = True ∧ (nI i + 1).toNatClampNeg = i + 1 := L_ix (j := 1) (by omega) hn
  have e2 : zin (nI i + 2) n = True ∧ (nI i + 2).toNatClampNeg = i + 2 := L_ix (j := 2) (by omega) hn
  have e3 : zin (nI i + 3) n = True ∧ (nI i + 3).toNatClampNeg = i + 3 := L_ix (j := 3) (by omega) hn
  have k1 : zEv (d + 30) mX10_setParameters [.inr (.inl (some o)), .inl (xs (i + 1)), .inl (xs (i + 2)), .inl (xs (i + 3))] σ = some (some (.inl (rPar A (xs (i + 1)) (xs (i + 2)) (xs (i + 3)))), τ1) := k1
  have k2 : zEv (d + 30) mX11_setParameters [.inr (.inl (some (o + 257))), .inl (xs (i + 1)), .inl (xs (i + 2)), .inl (xs (i + 3))] τ1 = some (some (.inl (rPar A (xs (i + 1)) (xs (i + 2)) (xs (i + 3)))), τ2) := k2
  rw [uL_law_409]
  simp only [onR_s, chk_e, h.2.2.2.2.2.2.2.1, h.2.2.2.2.2.2.2.2.1, h.o8, k4, k5, k7, and_self, if_true, zlt_e, bnI_s, e1.1, e1.2, h.2.2.2.2.2.2.2.2.2.2 (i + 1) (by omega), k6 (i + 1) (by omega), e2.1, e2.2, h.2.2.2.2.2.2.2.2.2.2 (i + 2) (by omega), k6 (i + 2) (by omega), e3.1, e3.2, h.2.2.2.2.2.2.2.2.2.2 (i + 3) (by omega), k6 (i + 3) (by omega), k1, k2]
  exact ⟨τ2, _, bb, rfl, k3.mono (by omega), by omega, by omega⟩
theorem w_setBlend {σ : zS} {b o n i B : Nat} {xs : Nat → Int32} {A : zW} {bb : Nat × Nat} (h : LInv σ b o n xs A B) (hB : B < 2 ^ 29) (hn : n ≤ 3584) (hi : i + 7 ≤ n) (hb : 28 ≤ bb.1 ∧ 542 ≤ bb.2) (d : Nat) : LNext (LL_law_452 (zEv (d + 30)) (some b) (some o) (some (o + 257)) (nI i) bb σ) b o n i xs bb B d := by
  obtain ⟨τ1, τ2, k1, k2, k3, k4, k5, k6, k7⟩ := L_step (A' := (tBlend A (xs (i + 1)) (xs (i + 2)) (xs (i + 3)))) (B' := B) (r := (rBlend A (xs (i + 1)) (xs (i + 2)) (xs (i + 3)))) (z1 := fun σ => zEv (d + 30) mX10_setBlend [.inr (.inl (some o)), .inl (xs (i + 1)), .inl (xs (i + 2)), .inl (xs (i + 3))] σ) (z2 := fun σ => zEv (d + 30) mX11_setBlend [.inr (.inl (some (o + 257))), .inl (xs (i + 1)), .inl (xs (i + 2)), .inl (xs (i + 3))] σ) h (h.1.blend (xs (i + 1)) (xs (i + 2)) (xs (i + 3))) (LG.blend h.2.1 (xs (i + 1)) (xs (i + 2)) (xs (i + 3))) (fun q u P hI => (c_setBlend h.1 (by omega) hI (xs (i + 1)) (xs (i + 2)) (xs (i + 3)) (d + 10)).os) (fun τ hI => m_setBlend h.1 (by omega) hI (xs (i + 1)) (xs (i + 2)) (xs (i + 3)) (d + 10))
  have e1 : zin (nI i + 1) n = True ∧ (nI i + 1).toNatClampNeg = i + 1 := L_ix (j := 1) (by omega) hn
  have e2 : zin (nI i + 2) n = True ∧ (nI i + 2).toNatClampNeg = i + 2 := L_ix (j := 2) (by omega) hn
  have e3 : zin (nI i + 3) n = True ∧ (nI i + 3).toNatClampNeg = i + 3 := L_ix (j := 3) (by omega) hn
  have k1 : zEv (d + 30) mX10_setBlend [.inr (.inl (some o)), .inl (xs (i + 1)), .inl (xs (i + 2)), .inl (xs (i + 3))] σ = some (some (.inl (rBlend A (xs (i + 1)) (xs (i + 2)) (xs (i + 3)))), τ1) := k1
  have k2 : zEv (d + 30) mX11_setBlend [.inr (.inl (some (o + 257))), .inl (xs (i + 1)), .inl (xs (i + 2)), .inl (xs (i + 3))] τ1 = some (some (.inl (rBlend A (xs (i + 1)) (xs (i + 2)) (xs (i + 3)))), τ2) := k2
  rw [uL_law_452]
  simp only [onR_s, chk_e, h.2.2.2.2.2.2.2.1, h.2.2.2.2.2.2.2.2.1, h.o8, k4, k5, k7, and_self, if_true, zlt_e, bnI_s, e1.1, e1.2, h.2.2.2.2.2.2.2.2.2.2 (i + 1) (by omega), k6 (i + 1) (by omega), e2.1, e2.2, h.2.2.2.2.2.2.2.2.2.2 (i + 2) (by omega), k6 (i + 2) (by omega), e3.1, e3.2, h.2.2.2.2.2.2.2.2.2.2 (i + 3) (by omega), k6 (i + 3) (by omega), k1, k2]
  exact ⟨τ2, _, bb, rfl, k3.mono (by omega), by omega, by omega⟩
theorem w_setEnabled {σ : zS} {b o n i B : Nat} {xs : Nat → Int32} {A : zW} {bb : Nat × Nat} (h : LInv σ b o n xs A B) (hB : B < 2 ^ 29) (hn : n ≤ 3584) (hi : i + 7 ≤ n) (hb : 28 ≤ bb.1 ∧ 542 ≤ bb.2) (d : Nat) : LNext (LL_law_495 (zEv (d + 30)) (some b) (some o) (some (o + 257)) (nI i) bb σ) b o n i xs bb B d := by
  obtain ⟨τ1, τ2, k1, k2, k3, k4, k5, k6, k7⟩ := L_step (A' := (tEn A (xs (i + 1)) (xs (i + 2)))) (B' := B) (r := (rEn A (xs (i + 1)) (xs (i + 2)))) (z1 := fun σ => zEv (d + 30) mX10_setEnabled [.inr (.inl (some o)), .inl (xs (i + 1)), .inl (xs (i + 2))] σ) (z2 := fun σ => zEv (d + 30) mX11_setEnabled [.inr (.inl (some (o + 257))), .inl (xs (i + 1)), .inl (xs (i + 2))] σ) h (h.1.en (xs (i + 1)) (xs (i + 2))) (LG.en h.2.1 (xs (i + 1)) (xs (i + 2))) (fun q u P hI => (c_setEnabled h.1 (by omega) hI (xs (i + 1)) (xs (i + 2)) (d + 10)).os) (fun τ hI => m_setEnabled h.1 (by omega) hI (xs (i + 1)) (xs (i + 2)) (d + 10))
  have e1 : zin (nI i + 1) n = True ∧ (nI i + 1).toNatClampNeg = i + 1 := L_ix (j := 1) (by omega) hn
  have e2 : zin (nI i + 2) n = True ∧ (nI i + 2).toNatClampNeg = i + 2 := L_ix (j := 2) (by omega) hn
  have k1 : zEv (d + 30) mX10_setEnabled [.inr (.inl (some o)), .inl (xs (i + 1)), .inl (xs (i + 2))] σ = some (some (.inl (rEn A (xs (i + 1)) (xs (i + 2)))), τ1) := k1
  have k2 : zEv (d + 30) mX11_setEnabled [.inr (.inl (some (o + 257))), .inl (xs (i + 1)), .inl (xs (i + 2))] τ1 = some (some (.inl (rEn A (xs (i + 1)) (xs (i + 2)))), τ2) := k2
  rw [uL_law_495]
  simp only [onR_s, chk_e, h.2.2.2.2.2.2.2.1, h.2.2.2.2.2.2.2.2.1, h.o8, k4, k5, k7, and_self, if_true, zlt_e, bnI_s, e1.1, e1.2, h.2.2.2.2.2.2.2.2.2.2 (i + 1) (by omega), k6 (i + 1) (by omega), e2.1, e2.2, h.2.2.2.2.2.2.2.2.2.2 (i + 2) (by omega), k6 (i + 2) (by omega), k1, k2]
  exact ⟨τ2, _, bb, rfl, k3.mono (by omega), by omega, by omega⟩
theorem w_moveLayer {σ : zS} {b o n i B : Nat} {xs : Nat → Int32} {A : zW} {bb : Nat × Nat} (h : LInv σ b o n xs A B) (hB : B < 2 ^ 29) (hn : n ≤ 3584) (hi : i + 7 ≤ n) (hb : 28 ≤ bb.1 ∧ 542 ≤ bb.2) (d : Nat) : LNext (LL_law_528 (zEv (d + 30)) (some b) (some o) (some (o + 257)) (nI i) bb σ) b o n i xs bb B d := by
  obtain ⟨τ1, τ2, k1, k2, k3, k4, k5, k6, k7⟩ := L_step (A' := (tMv A (xs (i + 1)) (xs (i + 2)))) (B' := B) (r := (rMv A (xs (i + 1)) (xs (i + 2)))) (z1 := fun σ => zEv (d + 30) mX10_moveLayer [.inr (.inl (some o)), .inl (xs (i + 1)), .inl (xs (i + 2))] σ) (z2 := fun σ => zEv (d + 30) mX11_moveLayer [.inr (.inl (some (o + 257))), .inl (xs (i + 1)), .inl (xs (i + 2))] σ) h (h.1.mv (xs (i + 1)) (xs (i + 2))) (LG.mv h.2.1 (xs (i + 1)) (xs (i + 2))) (fun q u P hI => (c_moveLayer h.1 (by omega) hI (xs (i + 1)) (xs (i + 2)) (d + 10)).os) (fun τ hI => m_moveLayer h.1 (by omega) hI (xs (i + 1)) (xs (i + 2)) (d + 10))
  have e1 : zin (nI i + 1) n = True ∧ (nI i + 1).toNatClampNeg = i + 1 := L_ix (j := 1) (by omega) hn
  have e2 : zin (nI i + 2) n = True ∧ (nI i + 2).toNatClampNeg = i + 2 := L_ix (j := 2) (by omega) hn
  have k1 : zEv (d + 30) mX10_moveLayer [.inr (.inl (some o)), .inl (xs (i + 1)), .inl (xs (i + 2))] σ = some (some (.inl (rMv A (xs (i + 1)) (xs (i + 2)))), τ1) := k1
  have k2 : zEv (d + 30) mX11_moveLayer [.inr (.inl (some (o + 257))), .inl (xs (i + 1)), .inl (xs (i + 2))] τ1 = some (some (.inl (rMv A (xs (i + 1)) (xs (i + 2)))), τ2) := k2
  rw [uL_law_528]
  simp only [onR_s, chk_e, h.2.2.2.2.2.2.2.1, h.2.2.2.2.2.2.2.2.1, h.o8, k4, k5, k7, and_self, if_true, zlt_e, bnI_s, e1.1, e1.2, h.2.2.2.2.2.2.2.2.2.2 (i + 1) (by omega), k6 (i + 1) (by omega), e2.1, e2.2, h.2.2.2.2.2.2.2.2.2.2 (i + 2) (by omega), k6 (i + 2) (by omega), k1, k2]
  exact ⟨τ2, _, bb, rfl, k3.mono (by omega), by omega, by omega⟩
theorem w_duplicateLayer {σ : zS} {b o n i B : Nat} {xs : Nat → Int32} {A : zW} {bb : Nat × Nat} (h : LInv σ b o n xs A B) (hB : B < 2 ^ 29) (hn : n ≤ 3584) (hi : i + 7 ≤ n) (hb : 28 ≤ bb.1 ∧ 542 ≤ bb.2) (d : Nat) : LNext (LL_law_561 (zEv (d + 30)) (some b) (some o) (some (o + 257)) (nI i) bb σ) b o n i xs bb B d := by
  obtain ⟨τ1, τ2, k1, k2, k3, k4, k5, k6, k7⟩ := L_step (A' := (tDup A (xs (i + 1)))) (B' := B) (r := (rDup A (xs (i + 1)))) (z1 := fun σ => zEv (d + 30) mX10_duplicateLayer [.inr (.inl (some o)), .inl (xs (i + 1))] σ) (z2 := fun σ => zEv (d + 30) mX11_duplicateLayer [.inr (.inl (some (o + 257))), .inl (xs (i + 1))] σ) h (h.1.dup (xs (i + 1))) (LG.dup h.2.1 (xs (i + 1))) (fun q u P hI => (c_duplicateLayer h.1 (by omega) hI (xs (i + 1)) (d + 10)).os) (fun τ hI => m_duplicateLayer h.1 (by omega) hI (xs (i + 1)) (d + 10))
  have e1 : zin (nI i + 1) n = True ∧ (nI i + 1).toNatClampNeg = i + 1 := L_ix (j := 1) (by omega) hn
  have k1 : zEv (d + 30) mX10_duplicateLayer [.inr (.inl (some o)), .inl (xs (i + 1))] σ = some (some (.inl (rDup A (xs (i + 1)))), τ1) := k1
  have k2 : zEv (d + 30) mX11_duplicateLayer [.inr (.inl (some (o + 257))), .inl (xs (i + 1))] τ1 = some (some (.inl (rDup A (xs (i + 1)))), τ2) := k2
  rw [uL_law_561]
  simp only [onR_s, chk_e, h.2.2.2.2.2.2.2.1, h.2.2.2.2.2.2.2.2.1, h.o8, k4, k5, k7, and_self, if_true, zlt_e, bnI_s, e1.1, e1.2, h.2.2.2.2.2.2.2.2.2.2 (i + 1) (by omega), k6 (i + 1) (by omega), k1, k2]
  exact ⟨τ2, _, bb, rfl, k3.mono (by omega), by omega, by omega⟩
theorem w_removeLayer {σ : zS} {b o n i B : Nat} {xs : Nat → Int32} {A : zW} {bb : Nat × Nat} (h : LInv σ b o n xs A B) (hB : B < 2 ^ 29) (hn : n ≤ 3584) (hi : i + 7 ≤ n) (hb : 28 ≤ bb.1 ∧ 542 ≤ bb.2) (d : Nat) : LNext (LL_law_584 (zEv (d + 30)) (some b) (some o) (some (o + 257)) (nI i) bb σ) b o n i xs bb B d := by
  obtain ⟨τ1, τ2, k1, k2, k3, k4, k5, k6, k7⟩ := L_step (A' := (tRem A (xs (i + 1)))) (B' := B) (r := (rRem A (xs (i + 1)))) (z1 := fun σ => zEv (d + 30) mX10_removeLayer [.inr (.inl (some o)), .inl (xs (i + 1))] σ) (z2 := fun σ => zEv (d + 30) mX11_removeLayer [.inr (.inl (some (o + 257))), .inl (xs (i + 1))] σ) h (h.1.rem (xs (i + 1))) (LG.rem h.2.1 (xs (i + 1))) (fun q u P hI => (c_removeLayer h.1 (by omega) hI (xs (i + 1)) (d + 10)).os) (fun τ hI => m_removeLayer h.1 (by omega) hI (xs (i + 1)) (d + 10))
  have e1 : zin (nI i + 1) n = True ∧ (nI i + 1).toNatClampNeg = i + 1 := L_ix (j := 1) (by omega) hn
  have k1 : zEv (d + 30) mX10_removeLayer [.inr (.inl (some o)), .inl (xs (i + 1))] σ = some (some (.inl (rRem A (xs (i + 1)))), τ1) := k1
  have k2 : zEv (d + 30) mX11_removeLayer [.inr (.inl (some (o + 257))), .inl (xs (i + 1))] τ1 = some (some (.inl (rRem A (xs (i + 1)))), τ2) := k2
  rw [uL_law_584]
  simp only [onR_s, chk_e, h.2.2.2.2.2.2.2.1, h.2.2.2.2.2.2.2.2.1, h.o8, k4, k5, k7, and_self, if_true, zlt_e, bnI_s, e1.1, e1.2, h.2.2.2.2.2.2.2.2.2.2 (i + 1) (by omega), k6 (i + 1) (by omega), k1, k2]
  exact ⟨τ2, _, bb, rfl, k3.mono (by omega), by omega, by omega⟩
theorem w_flatten {σ : zS} {b o n i B : Nat} {xs : Nat → Int32} {A : zW} {bb : Nat × Nat} (h : LInv σ b o n xs A B) (hB : B < 2 ^ 29) (hn : n ≤ 3584) (hi : i + 7 ≤ n) (hb : 28 ≤ bb.1 ∧ 542 ≤ bb.2) (d : Nat) : LNext (LL_law_607 (zEv (d + 30)) (some b) (some o) (some (o + 257)) (nI i) bb σ) b o n i xs bb B d := by
  obtain ⟨τ1, τ2, k1, k2, k3, k4, k5, k6, k7⟩ := L_step (A' := (tFla A (xs (i + 1)))) (B' := B) (r := (rFla A (xs (i + 1)))) (z1 := fun σ => zEv (d + 30) mX10_flatten [.inr (.inl (some o)), .inl (xs (i + 1))] σ) (z2 := fun σ => zEv (d + 30) mX11_flatten [.inr (.inl (some (o + 257))), .inl (xs (i + 1))] σ) h (h.1.fla (xs (i + 1))) (LG.fla h.2.1 (xs (i + 1))) (fun q u P hI => (c_flatten h.1 (by omega) hI (xs (i + 1)) (d + 10)).os) (fun τ hI => m_flatten h.1 (by omega) hI (xs (i + 1)) (d + 10))
  have e1 : zin (nI i + 1) n = True ∧ (nI i + 1).toNatClampNeg = i + 1 := L_ix (j := 1) (by omega) hn
  have k1 : zEv (d + 30) mX10_flatten [.inr (.inl (some o)), .inl (xs (i + 1))] σ = some (some (.inl (rFla A (xs (i + 1)))), τ1) := k1
  have k2 : zEv (d + 30) mX11_flatten [.inr (.inl (some (o + 257))), .inl (xs (i + 1))] τ1 = some (some (.inl (rFla A (xs (i + 1)))), τ2) := k2
  rw [uL_law_607]
  simp only [onR_s, chk_e, h.2.2.2.2.2.2.2.1, h.2.2.2.2.2.2.2.2.1, h.o8, k4, k5, k7, and_self, if_true, zlt_e, bnI_s, e1.1, e1.2, h.2.2.2.2.2.2.2.2.2.2 (i + 1) (by omega), k6 (i + 1) (by omega), k1, k2]
  exact ⟨τ2, _, bb, rfl, k3.mono (by omega), by omega, by omega⟩
theorem w_layer {σ : zS} {b o n i B : Nat} {xs : Nat → Int32} {A : zW} {bb : Nat × Nat} (h : LInv σ b o n xs A B) (hB : B < 2 ^ 29) (hn : n ≤ 3584) (hi : i + 7 ≤ n) (hb : 28 ≤ bb.1 ∧ 542 ≤ bb.2) (d : Nat) : LNext (LL_law_630 (zEv (d + 30)) (some b) (some o) (some (o + 257)) (nI i) bb σ) b o n i xs bb B d := by
  obtain ⟨τ1, τ2, k1, k2, k3, k4, k5, k6, k7⟩ := L_step (A' := A) (B' := B) (r := (rLyr A (xs (i + 1)) (xs (i + 2)))) (z1 := fun σ => zEv (d + 30) mX10_layer [.inr (.inl (some o)), .inl (xs (i + 1)), .inl (xs (i + 2))] σ) (z2 := fun σ => zEv (d + 30) mX11_layer [.inr (.inl (some (o + 257))), .inl (xs (i + 1)), .inl (xs (i + 2))] σ) h h.1 h.2.1 (fun q u P hI => (c_layer h.1 hI (xs (i + 1)) (xs (i + 2)) (d + 10)).os) (fun τ hI => m_layer h.1 hI (xs (i + 1)) (xs (i + 2)) (d + 10))
  have e1 : zin (nI i + 1) n = True ∧ (nI i + 1).toNatClampNeg = i + 1 := L_ix (j := 1) (by omega) hn
  have e2 : zin (nI i + 2) n = True ∧ (nI i + 2).toNatClampNeg = i + 2 := L_ix (j := 2) (by omega) hn
  have k1 : zEv (d + 30) mX10_layer [.inr (.inl (some o)), .inl (xs (i + 1)), .inl (xs (i + 2))] σ = some (some (.inl (rLyr A (xs (i + 1)) (xs (i + 2)))), τ1) := k1
  have k2 : zEv (d + 30) mX11_layer [.inr (.inl (some (o + 257))), .inl (xs (i + 1)), .inl (xs (i + 2))] τ1 = some (some (.inl (rLyr A (xs (i + 1)) (xs (i + 2)))), τ2) := k2
  rw [uL_law_630]
  simp only [onR_s, chk_e, h.2.2.2.2.2.2.2.1, h.2.2.2.2.2.2.2.2.1, h.o8, k4, k5, k7, and_self, if_true, zlt_e, bnI_s, e1.1, e1.2, h.2.2.2.2.2.2.2.2.2.2 (i + 1) (by omega), k6 (i + 1) (by omega), e2.1, e2.2, h.2.2.2.2.2.2.2.2.2.2 (i + 2) (by omega), k6 (i + 2) (by omega), k1, k2]
  exact ⟨τ2, _, bb, rfl, k3.mono (by omega), by omega, by omega⟩
theorem w_setMask {σ : zS} {b o n i B : Nat} {xs : Nat → Int32} {A : zW} {bb : Nat × Nat} (h : LInv σ b o n xs A B) (hB : B < 2 ^ 29) (hn : n ≤ 3584) (hi : i + 7 ≤ n) (hb : 28 ≤ bb.1 ∧ 542 ≤ bb.2) (d : Nat) : LNext (LL_law_663 (zEv (d + 30)) (some b) (some o) (some (o + 257)) (nI i) bb σ) b o n i xs bb B d := by
  obtain ⟨τ1, τ2, k1, k2, k3, k4, k5, k6, k7⟩ := L_step (A' := (tMask A (xs (i + 1)) (xs (i + 2)) (xs (i + 3)) (xs (i + 4)) (xs (i + 5)) (xs (i + 6)))) (B' := B) (r := (rMask A (xs (i + 1)) (xs (i + 2)) (xs (i + 3)) (xs (i + 4)) (xs (i + 5)) (xs (i + 6)))) (z1 := fun σ => zEv (d + 30) mX10_setMask [.inr (.inl (some o)), .inl (xs (i + 1)), .inl (xs (i + 2)), .inl (xs (i + 3)), .inl (xs (i + 4)), .inl (xs (i + 5)), .inl (xs (i + 6))] σ) (z2 := fun σ => zEv (d + 30) mX11_setMask [.inr (.inl (some (o + 257))), .inl (xs (i + 1)), .inl (xs (i + 2)), .inl (xs (i + 3)), .inl (xs (i + 4)), .inl (xs (i + 5)), .inl (xs (i + 6))] σ) h (h.1.mask (xs (i + 1)) (xs (i + 2)) (xs (i + 3)) (xs (i + 4)) (xs (i + 5)) (xs (i + 6))) (LG.mask h.2.1 (xs (i + 1)) (xs (i + 2)) (xs (i + 3)) (xs (i + 4)) (xs (i + 5)) (xs (i + 6))) (fun q u P hI => (c_setMask h.1 (by omega) hI (xs (i + 1)) (xs (i + 2)) (xs (i + 3)) (xs (i + 4)) (xs (i + 5)) (xs (i + 6)) (d + 10)).os) (fun τ hI => m_setMask h.1 (by omega) hI (xs (i + 1)) (xs (i + 2)) (xs (i + 3)) (xs (i + 4)) (xs (i + 5)) (xs (i + 6)) (d + 10))
  have e1 : zin (nI i + 1) n = True ∧ (nI i + 1).toNatClampNeg = i + 1 := L_ix (j := 1) (by omega) hn
  have e2 : zin (nI i + 2) n = True ∧ (nI i + 2).toNatClampNeg = i + 2 := L_ix (j := 2) (by omega) hn
  have e3 : zin (nI i + 3) n = True ∧ (nI i + 3).toNatClampNeg = i + 3 := L_ix (j := 3) (by omega) hn
  have e4 : zin (nI i + 4) n = True ∧ (nI i + 4).toNatClampNeg = i + 4 := L_ix (j := 4) (by omega) hn
  have e5 : zin (nI i + 5) n = True ∧ (nI i + 5).toNatClampNeg = i + 5 := L_ix (j := 5) (by omega) hn
  have e6 : zin (nI i + 6) n = True ∧ (nI i + 6).toNatClampNeg = i + 6 := L_ix (j := 6) (by omega) hn
  have k1 : zEv (d + 30) mX10_setMask [.inr (.inl (some o)), .inl (xs (i + 1)), .inl (xs (i + 2)), .inl (xs (i + 3)), .inl (xs (i + 4)), .inl (xs (i + 5)), .inl (xs (i + 6))] σ = some (some (.inl (rMask A (xs (i + 1)) (xs (i + 2)) (xs (i + 3)) (xs (i + 4)) (xs (i + 5)) (xs (i + 6)))), τ1) := k1
  have k2 : zEv (d + 30) mX11_setMask [.inr (.inl (some (o + 257))), .inl (xs (i + 1)), .inl (xs (i + 2)), .inl (xs (i + 3)), .inl (xs (i + 4)), .inl (xs (i + 5)), .inl (xs (i + 6))] τ1 = some (some (.inl (rMask A (xs (i + 1)) (xs (i + 2)) (xs (i + 3)) (xs (i + 4)) (xs (i + 5)) (xs (i + 6)))), τ2) := k2
  rw [uL_law_663]
  simp only [onR_s, chk_e, h.2.2.2.2.2.2.2.1, h.2.2.2.2.2.2.2.2.1, h.o8, k4, k5, k7, and_self, if_true, zlt_e, bnI_s, e1.1, e1.2, h.2.2.2.2.2.2.2.2.2.2 (i + 1) (by omega), k6 (i + 1) (by omega), e2.1, e2.2, h.2.2.2.2.2.2.2.2.2.2 (i + 2) (by omega), k6 (i + 2) (by omega), e3.1, e3.2, h.2.2.2.2.2.2.2.2.2.2 (i + 3) (by omega), k6 (i + 3) (by omega), e4.1, e4.2, h.2.2.2.2.2.2.2.2.2.2 (i + 4) (by omega), k6 (i + 4) (by omega), e5.1, e5.2, h.2.2.2.2.2.2.2.2.2.2 (i + 5) (by omega), k6 (i + 5) (by omega), e6.1, e6.2, h.2.2.2.2.2.2.2.2.2.2 (i + 6) (by omega), k6 (i + 6) (by omega), k1, k2]
  exact ⟨τ2, _, bb, rfl, k3.mono (by omega), by omega, by omega⟩
theorem w_setFeather {σ : zS} {b o n i B : Nat} {xs : Nat → Int32} {A : zW} {bb : Nat × Nat} (h : LInv σ b o n xs A B) (hB : B < 2 ^ 29) (hn : n ≤ 3584) (hi : i + 7 ≤ n) (hb : 28 ≤ bb.1 ∧ 542 ≤ bb.2) (d : Nat) : LNext (LL_law_738 (zEv (d + 30)) (some b) (some o) (some (o + 257)) (nI i) bb σ) b o n i xs bb B d := by
  obtain ⟨τ1, τ2, k1, k2, k3, k4, k5, k6, k7⟩ := L_step (A' := (tFeather A (xs (i + 1)) (xs (i + 2)))) (B' := B) (r := (rFeather A (xs (i + 1)) (xs (i + 2)))) (z1 := fun σ => zEv (d + 30) mX10_setFeather [.inr (.inl (some o)), .inl (xs (i + 1)), .inl (xs (i + 2))] σ) (z2 := fun σ => zEv (d + 30) mX11_setFeather [.inr (.inl (some (o + 257))), .inl (xs (i + 1)), .inl (xs (i + 2))] σ) h (h.1.feather (xs (i + 1)) (xs (i + 2))) (LG.feather h.2.1 (xs (i + 1)) (xs (i + 2))) (fun q u P hI => (c_setFeather h.1 (by omega) hI (xs (i + 1)) (xs (i + 2)) (d + 10)).os) (fun τ hI => m_setFeather h.1 (by omega) hI (xs (i + 1)) (xs (i + 2)) (d + 10))
  have e1 : zin (nI i + 1) n = True ∧ (nI i + 1).toNatClampNeg = i + 1 := L_ix (j := 1) (by omega) hn
  have e2 : zin (nI i + 2) n = True ∧ (nI i + 2).toNatClampNeg = i + 2 := L_ix (j := 2) (by omega) hn
  have k1 : zEv (d + 30) mX10_setFeather [.inr (.inl (some o)), .inl (xs (i + 1)), .inl (xs (i + 2))] σ = some (some (.inl (rFeather A (xs (i + 1)) (xs (i + 2)))), τ1) := k1
  have k2 : zEv (d + 30) mX11_setFeather [.inr (.inl (some (o + 257))), .inl (xs (i + 1)), .inl (xs (i + 2))] τ1 = some (some (.inl (rFeather A (xs (i + 1)) (xs (i + 2)))), τ2) := k2
  rw [uL_law_738]
  simp only [onR_s, chk_e, h.2.2.2.2.2.2.2.1, h.2.2.2.2.2.2.2.2.1, h.o8, k4, k5, k7, and_self, if_true, zlt_e, bnI_s, e1.1, e1.2, h.2.2.2.2.2.2.2.2.2.2 (i + 1) (by omega), k6 (i + 1) (by omega), e2.1, e2.2, h.2.2.2.2.2.2.2.2.2.2 (i + 2) (by omega), k6 (i + 2) (by omega), k1, k2]
  exact ⟨τ2, _, bb, rfl, k3.mono (by omega), by omega, by omega⟩
theorem w_invertMask {σ : zS} {b o n i B : Nat} {xs : Nat → Int32} {A : zW} {bb : Nat × Nat} (h : LInv σ b o n xs A B) (hB : B < 2 ^ 29) (hn : n ≤ 3584) (hi : i + 7 ≤ n) (hb : 28 ≤ bb.1 ∧ 542 ≤ bb.2) (d : Nat) : LNext (LL_law_771 (zEv (d + 30)) (some b) (some o) (some (o + 257)) (nI i) bb σ) b o n i xs bb B d := by
  obtain ⟨τ1, τ2, k1, k2, k3, k4, k5, k6, k7⟩ := L_step (A' := (tInvert A (xs (i + 1)))) (B' := B) (r := (rInvert A (xs (i + 1)))) (z1 := fun σ => zEv (d + 30) mX10_invertMask [.inr (.inl (some o)), .inl (xs (i + 1))] σ) (z2 := fun σ => zEv (d + 30) mX11_invertMask [.inr (.inl (some (o + 257))), .inl (xs (i + 1))] σ) h (h.1.invert (xs (i + 1))) (LG.invert h.2.1 (xs (i + 1))) (fun q u P hI => (c_invertMask h.1 (by omega) hI (xs (i + 1)) (d + 10)).os) (fun τ hI => m_invertMask h.1 (by omega) hI (xs (i + 1)) (d + 10))
  have e1 : zin (nI i + 1) n = True ∧ (nI i + 1).toNatClampNeg = i + 1 := L_ix (j := 1) (by omega) hn
  have k1 : zEv (d + 30) mX10_invertMask [.inr (.inl (some o)), .inl (xs (i + 1))] σ = some (some (.inl (rInvert A (xs (i + 1)))), τ1) := k1
  have k2 : zEv (d + 30) mX11_invertMask [.inr (.inl (some (o + 257))), .inl (xs (i + 1))] τ1 = some (some (.inl (rInvert A (xs (i + 1)))), τ2) := k2
  rw [uL_law_771]
  simp only [onR_s, chk_e, h.2.2.2.2.2.2.2.1, h.2.2.2.2.2.2.2.2.1, h.o8, k4, k5, k7, and_self, if_true, zlt_e, bnI_s, e1.1, e1.2, h.2.2.2.2.2.2.2.2.2.2 (i + 1) (by omega), k6 (i + 1) (by omega), k1, k2]
  exact ⟨τ2, _, bb, rfl, k3.mono (by omega), by omega, by omega⟩
theorem w_dab {σ : zS} {b o n i B : Nat} {xs : Nat → Int32} {A : zW} {bb : Nat × Nat} (h : LInv σ b o n xs A B) (hB : B < 2 ^ 29) (hn : n ≤ 3584) (hi : i + 7 ≤ n) (hb : 28 ≤ bb.1 ∧ 542 ≤ bb.2) (d : Nat) : LNext (LL_law_794 (zEv (d + 30)) (some b) (some o) (some (o + 257)) (nI i) bb σ) b o n i xs bb B d := by
  obtain ⟨τ1, τ2, k1, k2, k3, k4, k5, k6, k7⟩ := L_step (A' := (tDab A (xs (i + 1)) (xs (i + 2)) (xs (i + 3)) (xs (i + 4)))) (B' := B) (r := (rDab A (xs (i + 1)) (xs (i + 2)) (xs (i + 3)) (xs (i + 4)))) (z1 := fun σ => zEv (d + 30) mX10_dab [.inr (.inl (some o)), .inl (xs (i + 1)), .inl (xs (i + 2)), .inl (xs (i + 3)), .inl (xs (i + 4))] σ) (z2 := fun σ => zEv (d + 30) mX11_dab [.inr (.inl (some (o + 257))), .inl (xs (i + 1)), .inl (xs (i + 2)), .inl (xs (i + 3)), .inl (xs (i + 4))] σ) h (h.1.dab (xs (i + 1)) (xs (i + 2)) (xs (i + 3)) (xs (i + 4))) (LG.dab h.2.1 (xs (i + 1)) (xs (i + 2)) (xs (i + 3)) (xs (i + 4))) (fun q u P hI => (c_dab h.1 (by omega) hI (xs (i + 1)) (xs (i + 2)) (xs (i + 3)) (xs (i + 4)) (d + 10)).os) (fun τ hI => m_dab h.1 (by omega) hI (xs (i + 1)) (xs (i + 2)) (xs (i + 3)) (xs (i + 4)) (d + 10))
  have e1 : zin (nI i + 1) n = True ∧ (nI i + 1).toNatClampNeg = i + 1 := L_ix (j := 1) (by omega) hn
  have e2 : zin (nI i + 2) n = True ∧ (nI i + 2).toNatClampNeg = i + 2 := L_ix (j := 2) (by omega) hn
  have e3 : zin (nI i + 3) n = True ∧ (nI i + 3).toNatClampNeg = i + 3 := L_ix (j := 3) (by omega) hn
  have e4 : zin (nI i + 4) n = True ∧ (nI i + 4).toNatClampNeg = i + 4 := L_ix (j := 4) (by omega) hn
  have k1 : zEv (d + 30) mX10_dab [.inr (.inl (some o)), .inl (xs (i + 1)), .inl (xs (i + 2)), .inl (xs (i + 3)), .inl (xs (i + 4))] σ = some (some (.inl (rDab A (xs (i + 1)) (xs (i + 2)) (xs (i + 3)) (xs (i + 4)))), τ1) := k1
  have k2 : zEv (d + 30) mX11_dab [.inr (.inl (some (o + 257))), .inl (xs (i + 1)), .inl (xs (i + 2)), .inl (xs (i + 3)), .inl (xs (i + 4))] τ1 = some (some (.inl (rDab A (xs (i + 1)) (xs (i + 2)) (xs (i + 3)) (xs (i + 4)))), τ2) := k2
  rw [uL_law_794]
  simp only [onR_s, chk_e, h.2.2.2.2.2.2.2.1, h.2.2.2.2.2.2.2.2.1, h.o8, k4, k5, k7, and_self, if_true, zlt_e, bnI_s, e1.1, e1.2, h.2.2.2.2.2.2.2.2.2.2 (i + 1) (by omega), k6 (i + 1) (by omega), e2.1, e2.2, h.2.2.2.2.2.2.2.2.2.2 (i + 2) (by omega), k6 (i + 2) (by omega), e3.1, e3.2, h.2.2.2.2.2.2.2.2.2.2 (i + 3) (by omega), k6 (i + 3) (by omega), e4.1, e4.2, h.2.2.2.2.2.2.2.2.2.2 (i + 4) (by omega), k6 (i + 4) (by omega), k1, k2]
  exact ⟨τ2, _, bb, rfl, k3.mono (by omega), by omega, by omega⟩
theorem w_maskValue {σ : zS} {b o n i B : Nat} {xs : Nat → Int32} {A : zW} {bb : Nat × Nat} (h : LInv σ b o n xs A B) (hB : B < 2 ^ 29) (hn : n ≤ 3584) (hi : i + 7 ≤ n) (hb : 28 ≤ bb.1 ∧ 542 ≤ bb.2) (d : Nat) : LNext (LL_law_847 (zEv (d + 30)) (some b) (some o) (some (o + 257)) (nI i) bb σ) b o n i xs bb B d := by
  obtain ⟨τ1, τ2, k1, k2, k3, k4, k5, k6, k7⟩ := L_step (A' := A) (B' := B) (r := (rMv_ A (xs (i + 1)) (xs (i + 2)) (xs (i + 3)))) (z1 := fun σ => zEv (d + 30) mX10_maskValue [.inr (.inl (some o)), .inl (xs (i + 1)), .inl (xs (i + 2)), .inl (xs (i + 3))] σ) (z2 := fun σ => zEv (d + 30) mX11_maskValue [.inr (.inl (some (o + 257))), .inl (xs (i + 1)), .inl (xs (i + 2)), .inl (xs (i + 3))] σ) h h.1 h.2.1 (fun q u P hI => (c_maskValue h.1 hI (xs (i + 1)) (xs (i + 2)) (xs (i + 3)) (d + 10)).os) (fun τ hI => m_maskValue h.1 hI (xs (i + 1)) (xs (i + 2)) (xs (i + 3)) (d + 10))
  have e1 : zin (nI i + 1) n = True ∧ (nI i + 1).toNatClampNeg = i + 1 := L_ix (j := 1) (by omega) hn
  have e2 : zin (nI i + 2) n = True ∧ (nI i + 2).toNatClampNeg = i + 2 := L_ix (j := 2) (by omega) hn
  have e3 : zin (nI i + 3) n = True ∧ (nI i + 3).toNatClampNeg = i + 3 := L_ix (j := 3) (by omega) hn
  have k1 : zEv (d + 30) mX10_maskValue [.inr (.inl (some o)), .inl (xs (i + 1)), .inl (xs (i + 2)), .inl (xs (i + 3))] σ = some (some (.inl (rMv_ A (xs (i + 1)) (xs (i + 2)) (xs (i + 3)))), τ1) := k1
  have k2 : zEv (d + 30) mX11_maskValue [.inr (.inl (some (o + 257))), .inl (xs (i + 1)), .inl (xs (i + 2)), .inl (xs (i + 3))] τ1 = some (some (.inl (rMv_ A (xs (i + 1)) (xs (i + 2)) (xs (i + 3)))), τ2) := k2
  rw [uL_law_847]
  simp only [onR_s, chk_e, h.2.2.2.2.2.2.2.1, h.2.2.2.2.2.2.2.2.1, h.o8, k4, k5, k7, and_self, if_true, zlt_e, bnI_s, e1.1, e1.2, h.2.2.2.2.2.2.2.2.2.2 (i + 1) (by omega), k6 (i + 1) (by omega), e2.1, e2.2, h.2.2.2.2.2.2.2.2.2.2 (i + 2) (by omega), k6 (i + 2) (by omega), e3.1, e3.2, h.2.2.2.2.2.2.2.2.2.2 (i + 3) (by omega), k6 (i + 3) (by omega), k1, k2]
  exact ⟨τ2, _, bb, rfl, k3.mono (by omega), by omega, by omega⟩
theorem w_append {σ : zS} {b o n i B : Nat} {xs : Nat → Int32} {A : zW} {bb : Nat × Nat} (h : LInv σ b o n xs A B) (hB : B < 2 ^ 29) (hn : n ≤ 3584) (hi : i + 7 ≤ n) (hb : 28 ≤ bb.1 ∧ 542 ≤ bb.2) (d : Nat) : LNext (LL_law_890 (zEv (d + 30)) (some b) (some o) (some (o + 257)) (nI i) bb σ) b o n i xs bb B d := by
  obtain ⟨τ1, τ2, k1, k2, k3, k4, k5, k6, k7⟩ := L_step (A' := (tApp A (xs (i + 1)))) (B' := B) (r := (rApp A (xs (i + 1)))) (z1 := fun σ => zEv (d + 30) mX10_append [.inr (.inl (some o)), .inl (xs (i + 1))] σ) (z2 := fun σ => zEv (d + 30) mX11_append [.inr (.inl (some (o + 257))), .inl (xs (i + 1))] σ) h (h.1.app (xs (i + 1))) (LG.app h.2.1 (xs (i + 1))) (fun q u P hI => (c_append h.1 hI (xs (i + 1)) (d + 10)).os) (fun τ hI => m_append h.1 hI (xs (i + 1)) (d + 10))
  have e1 : zin (nI i + 1) n = True ∧ (nI i + 1).toNatClampNeg = i + 1 := L_ix (j := 1) (by omega) hn
  have k1 : zEv (d + 30) mX10_append [.inr (.inl (some o)), .inl (xs (i + 1))] σ = some (some (.inl (rApp A (xs (i + 1)))), τ1) := k1
  have k2 : zEv (d + 30) mX11_append [.inr (.inl (some (o + 257))), .inl (xs (i + 1))] τ1 = some (some (.inl (rApp A (xs (i + 1)))), τ2) := k2
  rw [uL_law_890]
  simp only [onR_s, chk_e, h.2.2.2.2.2.2.2.1, h.2.2.2.2.2.2.2.2.1, h.o8, k4, k5, k7, and_self, if_true, zlt_e, bnI_s, e1.1, e1.2, h.2.2.2.2.2.2.2.2.2.2 (i + 1) (by omega), k6 (i + 1) (by omega), k1, k2]
  exact ⟨τ2, _, bb, rfl, k3.mono (by omega), by omega, by omega⟩
theorem w_clearText {σ : zS} {b o n i B : Nat} {xs : Nat → Int32} {A : zW} {bb : Nat × Nat} (h : LInv σ b o n xs A B) (hB : B < 2 ^ 29) (hn : n ≤ 3584) (hi : i + 7 ≤ n) (hb : 28 ≤ bb.1 ∧ 542 ≤ bb.2) (d : Nat) : LNext (LL_law_913 (zEv (d + 30)) (some b) (some o) (some (o + 257)) (nI i) bb σ) b o n i xs bb B d := by
  obtain ⟨τ1, τ2, k1, k2, k3, k4, k5, k6, k7⟩ := L_step (A' := (tClearT A)) (B' := B) (r := (nI (aTn A))) (z1 := fun σ => zEv (d + 30) mX10_clearText [.inr (.inl (some o))] σ) (z2 := fun σ => zEv (d + 30) mX11_clearText [.inr (.inl (some (o + 257)))] σ) h (h.1.clearT) (LG.clearT h.2.1) (fun q u P hI => (c_clearText h.1 hI (d + 10)).os) (fun τ hI => m_clearText hI (d + 10))
  have k1 : zEv (d + 30) mX10_clearText [.inr (.inl (some o))] σ = some (some (.inl (nI (aTn A))), τ1) := k1
  have k2 : zEv (d + 30) mX11_clearText [.inr (.inl (some (o + 257)))] τ1 = some (some (.inl (nI (aTn A))), τ2) := k2
  rw [uL_law_913]
  simp only [onR_s, chk_e, h.2.2.2.2.2.2.2.1, h.2.2.2.2.2.2.2.2.1, h.o8, k4, k5, k7, and_self, if_true, zlt_e, bnI_s, k1, k2]
  exact ⟨τ2, _, bb, rfl, k3.mono (by omega), by omega, by omega⟩
theorem w_loadStack {σ : zS} {b o n i B : Nat} {xs : Nat → Int32} {A : zW} {bb : Nat × Nat} (h : LInv σ b o n xs A B) (hB : B < 2 ^ 29) (hn : n ≤ 3584) (hi : i + 7 ≤ n) (hb : 28 ≤ bb.1 ∧ 542 ≤ bb.2) (d : Nat) : LNext (LL_law_926 (zEv (d + 30)) (some b) (some o) (some (o + 257)) (nI i) bb σ) b o n i xs bb B d := by
  obtain ⟨τ1, τ2, k1, k2, k3, k4, k5, k6, k7⟩ := L_step (A' := (tLoad A)) (B' := B) (r := (rLoad A)) (z1 := fun σ => zEv (d + 30) mX10_loadStack [.inr (.inl (some o))] σ) (z2 := fun σ => zEv (d + 30) mX11_loadStack [.inr (.inl (some (o + 257)))] σ) h (h.1.load) (LG.load h.2.1) (fun q u P hI => (c_loadStack h.1 (by omega) h.2.2.2.2.1 h.2.2.2.2.2.1 hI (d + 10)).os) (fun τ hI => m_loadStack h.1 (by omega) hI (d + 10))
  have k1 : zEv (d + 30) mX10_loadStack [.inr (.inl (some o))] σ = some (some (.inl (rLoad A)), τ1) := k1
  have k2 : zEv (d + 30) mX11_loadStack [.inr (.inl (some (o + 257)))] τ1 = some (some (.inl (rLoad A)), τ2) := k2
  rw [uL_law_926]
  simp only [onR_s, chk_e, h.2.2.2.2.2.2.2.1, h.2.2.2.2.2.2.2.2.1, h.o8, k4, k5, k7, and_self, if_true, zlt_e, bnI_s, k1, k2]
  exact ⟨τ2, _, bb, rfl, k3.mono (by omega), by omega, by omega⟩
theorem w_pixel {σ : zS} {b o n i B : Nat} {xs : Nat → Int32} {A : zW} {bb : Nat × Nat} (h : LInv σ b o n xs A B) (hB : B < 2 ^ 29) (hn : n ≤ 3584) (hi : i + 7 ≤ n) (hb : 28 ≤ bb.1 ∧ 542 ≤ bb.2) (d : Nat) : LNext (LL_law_939 (zEv (d + 30)) (some b) (some o) (some (o + 257)) (nI i) bb σ) b o n i xs bb B d := by
  obtain ⟨τ1, τ2, k1, k2, k3, k4, k5, k6, k7⟩ := L_step (A' := (tPx A (xs (i + 1)) (xs (i + 2)) (xs (i + 3)))) (B' := (B + 33000)) (r := (rPx A (xs (i + 1)) (xs (i + 2)) (xs (i + 3)))) (z1 := fun σ => zEv (d + 30) mX10_pixel [.inr (.inl (some o)), .inl (xs (i + 1)), .inl (xs (i + 2)), .inl (xs (i + 3))] σ) (z2 := fun σ => zEv (d + 30) mX11_pixel [.inr (.inl (some (o + 257))), .inl (xs (i + 1)), .inl (xs (i + 2)), .inl (xs (i + 3))] σ) h (h.1.px (xs (i + 1)) (xs (i + 2)) (xs (i + 3))) (LG.px h.2.1 (xs (i + 1)) (xs (i + 2)) (xs (i + 3))) (fun q u P hI => (c_pixel h.1 (by omega) hI (xs (i + 1)) (xs (i + 2)) (xs (i + 3)) d).os) (fun τ hI => m_pixel h.1 h.2.1 (by omega) hI (xs (i + 1)) (xs (i + 2)) (xs (i + 3)) d)
  have e1 : zin (nI i + 1) n = True ∧ (nI i + 1).toNatClampNeg = i + 1 := L_ix (j := 1) (by omega) hn
  have e2 : zin (nI i + 2) n = True ∧ (nI i + 2).toNatClampNeg = i + 2 := L_ix (j := 2) (by omega) hn
  have e3 : zin (nI i + 3) n = True ∧ (nI i + 3).toNatClampNeg = i + 3 := L_ix (j := 3) (by omega) hn
  have k1 : zEv (d + 30) mX10_pixel [.inr (.inl (some o)), .inl (xs (i + 1)), .inl (xs (i + 2)), .inl (xs (i + 3))] σ = some (some (.inl (rPx A (xs (i + 1)) (xs (i + 2)) (xs (i + 3)))), τ1) := k1
  have k2 : zEv (d + 30) mX11_pixel [.inr (.inl (some (o + 257))), .inl (xs (i + 1)), .inl (xs (i + 2)), .inl (xs (i + 3))] τ1 = some (some (.inl (rPx A (xs (i + 1)) (xs (i + 2)) (xs (i + 3)))), τ2) := k2
  rw [uL_law_939]
  simp only [onR_s, chk_e, h.2.2.2.2.2.2.2.1, h.2.2.2.2.2.2.2.2.1, h.o8, k4, k5, k7, and_self, if_true, zlt_e, bnI_s, e1.1, e1.2, h.2.2.2.2.2.2.2.2.2.2 (i + 1) (by omega), k6 (i + 1) (by omega), e2.1, e2.2, h.2.2.2.2.2.2.2.2.2.2 (i + 2) (by omega), k6 (i + 2) (by omega), e3.1, e3.2, h.2.2.2.2.2.2.2.2.2.2 (i + 3) (by omega), k6 (i + 3) (by omega), k1, k2]
  exact ⟨τ2, _, bb, rfl, k3.mono (by omega), by omega, by omega⟩
theorem w_prefetch {σ : zS} {b o n i B : Nat} {xs : Nat → Int32} {A : zW} {bb : Nat × Nat} (h : LInv σ b o n xs A B) (hB : B < 2 ^ 29) (hn : n ≤ 3584) (hi : i + 7 ≤ n) (hb : 28 ≤ bb.1 ∧ 542 ≤ bb.2) (d : Nat) : LNext (LL_law_982 (zEv (d + 30)) (some b) (some o) (some (o + 257)) (nI i) bb σ) b o n i xs bb B d := by
  obtain ⟨τ1, τ2, k1, k2, k3, k4, k5, k6, k7⟩ := L_step (A' := (tPre A (xs (i + 1)))) (B' := (B + 33000)) (r := (rPre A (xs (i + 1)))) (z1 := fun σ => zEv (d + 30) mX10_prefetch [.inr (.inl (some o)), .inl (xs (i + 1))] σ) (z2 := fun σ => zEv (d + 30) mX11_prefetch [.inr (.inl (some (o + 257))), .inl (xs (i + 1))] σ) h (h.1.pre (xs (i + 1))) (LG.pre h.2.1 (xs (i + 1))) (fun q u P hI => (c_prefetch h.1 (by omega) hI (xs (i + 1)) d).os) (fun τ hI => m_prefetch h.1 (by omega) hI (xs (i + 1)) d)
  have e1 : zin (nI i + 1) n = True ∧ (nI i + 1).toNatClampNeg = i + 1 := L_ix (j := 1) (by omega) hn
  have k1 : zEv (d + 30) mX10_prefetch [.inr (.inl (some o)), .inl (xs (i + 1))] σ = some (some (.inl (rPre A (xs (i + 1)))), τ1) := k1
  have k2 : zEv (d + 30) mX11_prefetch [.inr (.inl (some (o + 257))), .inl (xs (i + 1))] τ1 = some (some (.inl (rPre A (xs (i + 1)))), τ2) := k2
  rw [uL_law_982]
  simp only [onR_s, chk_e, h.2.2.2.2.2.2.2.1, h.2.2.2.2.2.2.2.2.1, h.o8, k4, k5, k7, and_self, if_true, zlt_e, bnI_s, e1.1, e1.2, h.2.2.2.2.2.2.2.2.2.2 (i + 1) (by omega), k6 (i + 1) (by omega), k1, k2]
  exact ⟨τ2, _, bb, rfl, k3.mono (by omega), by omega, by omega⟩
theorem w_setCacheLimit {σ : zS} {b o n i B : Nat} {xs : Nat → Int32} {A : zW} {bb : Nat × Nat} (h : LInv σ b o n xs A B) (hB : B < 2 ^ 29) (hn : n ≤ 3584) (hi : i + 7 ≤ n) (hb : 28 ≤ bb.1 ∧ 542 ≤ bb.2) (d : Nat) : LNext (LL_law_1005 (zEv (d + 30)) (some b) (some o) (some (o + 257)) (nI i) bb σ) b o n i xs bb B d := by
  obtain ⟨τ1, τ2, k1, k2, k3, k4, k5, k6, k7⟩ := L_step (A' := (tLim A (xs (i + 1)))) (B' := B) (r := (rLim A (xs (i + 1)))) (z1 := fun σ => zEv (d + 30) mX10_setCacheLimit [.inr (.inl (some o)), .inl (xs (i + 1))] σ) (z2 := fun σ => zEv (d + 30) mX11_setCacheLimit [.inr (.inl (some (o + 257))), .inl (xs (i + 1))] σ) h (h.1.lim (xs (i + 1))) (LG.lim h.2.1 (xs (i + 1))) (fun q u P hI => (c_setCacheLimit h.1 (by omega) hI (xs (i + 1)) (d + 10)).os) (fun τ hI => m_setCacheLimit h.1 (by omega) hI (xs (i + 1)) (d + 10))
  have e1 : zin (nI i + 1) n = True ∧ (nI i + 1).toNatClampNeg = i + 1 := L_ix (j := 1) (by omega) hn
  have k1 : zEv (d + 30) mX10_setCacheLimit [.inr (.inl (some o)), .inl (xs (i + 1))] σ = some (some (.inl (rLim A (xs (i + 1)))), τ1) := k1
  have k2 : zEv (d + 30) mX11_setCacheLimit [.inr (.inl (some (o + 257))), .inl (xs (i + 1))] τ1 = some (some (.inl (rLim A (xs (i + 1)))), τ2) := k2
  rw [uL_law_1005]
  simp only [onR_s, chk_e, h.2.2.2.2.2.2.2.1, h.2.2.2.2.2.2.2.2.1, h.o8, k4, k5, k7, and_self, if_true, zlt_e, bnI_s, e1.1, e1.2, h.2.2.2.2.2.2.2.2.2.2 (i + 1) (by omega), k6 (i + 1) (by omega), k1, k2]
  exact ⟨τ2, _, bb, rfl, k3.mono (by omega), by omega, by omega⟩
theorem w_setTileSize {σ : zS} {b o n i B : Nat} {xs : Nat → Int32} {A : zW} {bb : Nat × Nat} (h : LInv σ b o n xs A B) (hB : B < 2 ^ 29) (hn : n ≤ 3584) (hi : i + 7 ≤ n) (hb : 28 ≤ bb.1 ∧ 542 ≤ bb.2) (d : Nat) : LNext (LL_law_1028 (zEv (d + 30)) (some b) (some o) (some (o + 257)) (nI i) bb σ) b o n i xs bb B d := by
  obtain ⟨τ1, τ2, k1, k2, k3, k4, k5, k6, k7⟩ := L_step (A' := (tTs A (xs (i + 1)))) (B' := B) (r := (rTs A (xs (i + 1)))) (z1 := fun σ => zEv (d + 30) mX10_setTileSize [.inr (.inl (some o)), .inl (xs (i + 1))] σ) (z2 := fun σ => zEv (d + 30) mX11_setTileSize [.inr (.inl (some (o + 257))), .inl (xs (i + 1))] σ) h (h.1.ts (xs (i + 1))) (LG.ts h.2.1 (xs (i + 1))) (fun q u P hI => (c_setTileSize h.1 (by omega) hI (xs (i + 1)) (d + 10)).os) (fun τ hI => m_setTileSize h.1 (by omega) hI (xs (i + 1)) (d + 10))
  have e1 : zin (nI i + 1) n = True ∧ (nI i + 1).toNatClampNeg = i + 1 := L_ix (j := 1) (by omega) hn
  have k1 : zEv (d + 30) mX10_setTileSize [.inr (.inl (some o)), .inl (xs (i + 1))] σ = some (some (.inl (rTs A (xs (i + 1)))), τ1) := k1
  have k2 : zEv (d + 30) mX11_setTileSize [.inr (.inl (some (o + 257))), .inl (xs (i + 1))] τ1 = some (some (.inl (rTs A (xs (i + 1)))), τ2) := k2
  rw [uL_law_1028]
  simp only [onR_s, chk_e, h.2.2.2.2.2.2.2.1, h.2.2.2.2.2.2.2.2.1, h.o8, k4, k5, k7, and_self, if_true, zlt_e, bnI_s, e1.1, e1.2, h.2.2.2.2.2.2.2.2.2.2 (i + 1) (by omega), k6 (i + 1) (by omega), k1, k2]
  exact ⟨τ2, _, bb, rfl, k3.mono (by omega), by omega, by omega⟩
theorem w_clearCache {σ : zS} {b o n i B : Nat} {xs : Nat → Int32} {A : zW} {bb : Nat × Nat} (h : LInv σ b o n xs A B) (hB : B < 2 ^ 29) (hn : n ≤ 3584) (hi : i + 7 ≤ n) (hb : 28 ≤ bb.1 ∧ 542 ≤ bb.2) (d : Nat) : LNext (LL_law_1051 (zEv (d + 30)) (some b) (some o) (some (o + 257)) (nI i) bb σ) b o n i xs bb B d := by
  obtain ⟨τ1, τ2, k1, k2, k3, k4, k5, k6, k7⟩ := L_step (A' := (tClearC A)) (B' := B) (r := (nI (cnt (aU A) 512))) (z1 := fun σ => zEv (d + 30) mX10_clearCache [.inr (.inl (some o))] σ) (z2 := fun σ => zEv (d + 30) mX11_clearCache [.inr (.inl (some (o + 257)))] σ) h (h.1.clearC) (LG.clearC h.2.1) (fun q u P hI => (c_clearCache h.1 (by omega) hI (d + 10)).os) (fun τ hI => m_clearCache h.1 (by omega) hI (d + 10))
  have k1 : zEv (d + 30) mX10_clearCache [.inr (.inl (some o))] σ = some (some (.inl (nI (cnt (aU A) 512))), τ1) := k1
  have k2 : zEv (d + 30) mX11_clearCache [.inr (.inl (some (o + 257)))] τ1 = some (some (.inl (nI (cnt (aU A) 512))), τ2) := k2
  rw [uL_law_1051]
  simp only [onR_s, chk_e, h.2.2.2.2.2.2.2.1, h.2.2.2.2.2.2.2.2.1, h.o8, k4, k5, k7, and_self, if_true, zlt_e, bnI_s, k1, k2]
  exact ⟨τ2, _, bb, rfl, k3.mono (by omega), by omega, by omega⟩
theorem w_isCached {σ : zS} {b o n i B : Nat} {xs : Nat → Int32} {A : zW} {bb : Nat × Nat} (h : LInv σ b o n xs A B) (hB : B < 2 ^ 29) (hn : n ≤ 3584) (hi : i + 7 ≤ n) (hb : 28 ≤ bb.1 ∧ 542 ≤ bb.2) (d : Nat) : LNext (LL_law_1064 (zEv (d + 30)) (some b) (some o) (some (o + 257)) (nI i) bb σ) b o n i xs bb B d := by
  obtain ⟨τ1, τ2, k1, k2, k3, k4, k5, k6, k7⟩ := L_step (A' := A) (B' := B) (r := (rIsC A (xs (i + 1)) (xs (i + 2)) (xs (i + 3)))) (z1 := fun σ => zEv (d + 30) mX10_isCached [.inr (.inl (some o)), .inl (xs (i + 1)), .inl (xs (i + 2)), .inl (xs (i + 3))] σ) (z2 := fun σ => zEv (d + 30) mX11_isCached [.inr (.inl (some (o + 257))), .inl (xs (i + 1)), .inl (xs (i + 2)), .inl (xs (i + 3))] σ) h h.1 h.2.1 (fun q u P hI => (c_isCached h.1 (by omega) hI (xs (i + 1)) (xs (i + 2)) (xs (i + 3)) (d + 10)).os) (fun τ hI => m_isCached h.1 (by omega) hI (xs (i + 1)) (xs (i + 2)) (xs (i + 3)) (d + 10))
  have e1 : zin (nI i + 1) n = True ∧ (nI i + 1).toNatClampNeg = i + 1 := L_ix (j := 1) (by omega) hn
  have e2 : zin (nI i + 2) n = True ∧ (nI i + 2).toNatClampNeg = i + 2 := L_ix (j := 2) (by omega) hn
  have e3 : zin (nI i + 3) n = True ∧ (nI i + 3).toNatClampNeg = i + 3 := L_ix (j := 3) (by omega) hn
  have k1 : zEv (d + 30) mX10_isCached [.inr (.inl (some o)), .inl (xs (i + 1)), .inl (xs (i + 2)), .inl (xs (i + 3))] σ = some (some (.inl (rIsC A (xs (i + 1)) (xs (i + 2)) (xs (i + 3)))), τ1) := k1
  have k2 : zEv (d + 30) mX11_isCached [.inr (.inl (some (o + 257))), .inl (xs (i + 1)), .inl (xs (i + 2)), .inl (xs (i + 3))] τ1 = some (some (.inl (rIsC A (xs (i + 1)) (xs (i + 2)) (xs (i + 3)))), τ2) := k2
  rw [uL_law_1064]
  simp only [onR_s, chk_e, h.2.2.2.2.2.2.2.1, h.2.2.2.2.2.2.2.2.1, h.o8, k4, k5, k7, and_self, if_true, zlt_e, bnI_s, e1.1, e1.2, h.2.2.2.2.2.2.2.2.2.2 (i + 1) (by omega), k6 (i + 1) (by omega), e2.1, e2.2, h.2.2.2.2.2.2.2.2.2.2 (i + 2) (by omega), k6 (i + 2) (by omega), e3.1, e3.2, h.2.2.2.2.2.2.2.2.2.2 (i + 3) (by omega), k6 (i + 3) (by omega), k1, k2]
  exact ⟨τ2, _, bb, rfl, k3.mono (by omega), by omega, by omega⟩
theorem w_cachedTiles {σ : zS} {b o n i B : Nat} {xs : Nat → Int32} {A : zW} {bb : Nat × Nat} (h : LInv σ b o n xs A B) (hB : B < 2 ^ 29) (hn : n ≤ 3584) (hi : i + 7 ≤ n) (hb : 28 ≤ bb.1 ∧ 542 ≤ bb.2) (d : Nat) : LNext (LL_law_1107 (zEv (d + 30)) (some b) (some o) (some (o + 257)) (nI i) bb σ) b o n i xs bb B d := by
  obtain ⟨τ1, τ2, k1, k2, k3, k4, k5, k6, k7⟩ := L_step (A' := A) (B' := B) (r := (rCt A (xs (i + 1)))) (z1 := fun σ => zEv (d + 30) mX10_cachedTiles [.inr (.inl (some o)), .inl (xs (i + 1))] σ) (z2 := fun σ => zEv (d + 30) mX11_cachedTiles [.inr (.inl (some (o + 257))), .inl (xs (i + 1))] σ) h h.1 h.2.1 (fun q u P hI => (c_cachedTiles h.1 (by omega) hI (xs (i + 1)) (d + 10)).os) (fun τ hI => m_cachedTiles h.1 (by omega) hI (xs (i + 1)) (d + 10))
  have e1 : zin (nI i + 1) n = True ∧ (nI i + 1).toNatClampNeg = i + 1 := L_ix (j := 1) (by omega) hn
  have k1 : zEv (d + 30) mX10_cachedTiles [.inr (.inl (some o)), .inl (xs (i + 1))] σ = some (some (.inl (rCt A (xs (i + 1)))), τ1) := k1
  have k2 : zEv (d + 30) mX11_cachedTiles [.inr (.inl (some (o + 257))), .inl (xs (i + 1))] τ1 = some (some (.inl (rCt A (xs (i + 1)))), τ2) := k2
  rw [uL_law_1107]
  simp only [onR_s, chk_e, h.2.2.2.2.2.2.2.1, h.2.2.2.2.2.2.2.2.1, h.o8, k4, k5, k7, and_self, if_true, zlt_e, bnI_s, e1.1, e1.2, h.2.2.2.2.2.2.2.2.2.2 (i + 1) (by omega), k6 (i + 1) (by omega), k1, k2]
  exact ⟨τ2, _, bb, rfl, k3.mono (by omega), by omega, by omega⟩
theorem w_counter {σ : zS} {b o n i B : Nat} {xs : Nat → Int32} {A : zW} {bb : Nat × Nat} (h : LInv σ b o n xs A B) (hB : B < 2 ^ 29) (hn : n ≤ 3584) (hi : i + 7 ≤ n) (hb : 28 ≤ bb.1 ∧ 542 ≤ bb.2) (d : Nat) : LNext (LL_law_1130 (zEv (d + 30)) (some b) (some o) (some (o + 257)) (nI i) bb σ) b o n i xs bb B d := by
  obtain ⟨τ1, τ2, k1, k2, k3, k4, k5, k6, k7⟩ := L_step (A' := A) (B' := B) (r := (rCtr A (xs (i + 1)))) (z1 := fun σ => zEv (d + 30) mX10_counter [.inr (.inl (some o)), .inl (xs (i + 1))] σ) (z2 := fun σ => zEv (d + 30) mX11_counter [.inr (.inl (some (o + 257))), .inl (xs (i + 1))] σ) h h.1 h.2.1 (fun q u P hI => (c_counter hI (xs (i + 1)) (d + 10)).os) (fun τ hI => m_counter hI (xs (i + 1)) (d + 10))
  have e1 : zin (nI i + 1) n = True ∧ (nI i + 1).toNatClampNeg = i + 1 := L_ix (j := 1) (by omega) hn
  have k1 : zEv (d + 30) mX10_counter [.inr (.inl (some o)), .inl (xs (i + 1))] σ = some (some (.inl (rCtr A (xs (i + 1)))), τ1) := k1
  have k2 : zEv (d + 30) mX11_counter [.inr (.inl (some (o + 257))), .inl (xs (i + 1))] τ1 = some (some (.inl (rCtr A (xs (i + 1)))), τ2) := k2
  rw [uL_law_1130]
  simp only [onR_s, chk_e, h.2.2.2.2.2.2.2.1, h.2.2.2.2.2.2.2.2.1, h.o8, k4, k5, k7, and_self, if_true, zlt_e, bnI_s, e1.1, e1.2, h.2.2.2.2.2.2.2.2.2.2 (i + 1) (by omega), k6 (i + 1) (by omega), k1, k2]
  exact ⟨τ2, _, bb, rfl, k3.mono (by omega), by omega, by omega⟩
theorem w_oldestTile {σ : zS} {b o n i B : Nat} {xs : Nat → Int32} {A : zW} {bb : Nat × Nat} (h : LInv σ b o n xs A B) (hB : B < 2 ^ 29) (hn : n ≤ 3584) (hi : i + 7 ≤ n) (hb : 28 ≤ bb.1 ∧ 542 ≤ bb.2) (d : Nat) : LNext (LL_law_1153 (zEv (d + 30)) (some b) (some o) (some (o + 257)) (nI i) bb σ) b o n i xs bb B d := by
  obtain ⟨τ1, τ2, k1, k2, k3, k4, k5, k6, k7⟩ := L_step (A' := A) (B' := B) (r := (rOld A)) (z1 := fun σ => zEv (d + 30) mX10_oldestTile [.inr (.inl (some o))] σ) (z2 := fun σ => zEv (d + 30) mX11_oldestTile [.inr (.inl (some (o + 257)))] σ) h h.1 h.2.1 (fun q u P hI => (c_oldestTile h.1 (by omega) hI (d + 10)).os) (fun τ hI => m_oldestTile h.1 (by omega) hI (d + 10))
  have k1 : zEv (d + 30) mX10_oldestTile [.inr (.inl (some o))] σ = some (some (.inl (rOld A)), τ1) := k1
  have k2 : zEv (d + 30) mX11_oldestTile [.inr (.inl (some (o + 257)))] τ1 = some (some (.inl (rOld A)), τ2) := k2
  rw [uL_law_1153]
  simp only [onR_s, chk_e, h.2.2.2.2.2.2.2.1, h.2.2.2.2.2.2.2.2.1, h.o8, k4, k5, k7, and_self, if_true, zlt_e, bnI_s, k1, k2]
  exact ⟨τ2, _, bb, rfl, k3.mono (by omega), by omega, by omega⟩
theorem w_histogram {σ : zS} {b o n i B : Nat} {xs : Nat → Int32} {A : zW} {bb : Nat × Nat} (h : LInv σ b o n xs A B) (hB : B < 2 ^ 29) (hn : n ≤ 3584) (hi : i + 7 ≤ n) (hb : 28 ≤ bb.1 ∧ 542 ≤ bb.2) (d : Nat) : LNext (LL_law_1166 (zEv (d + 30)) (some b) (some o) (some (o + 257)) (nI i) bb σ) b o n i xs bb B d := by
  obtain ⟨τ1, τ2, k1, k2, k3, k4, k5, k6, k7⟩ := L_step (A' := A) (B' := B) (r := (rHist A (xs (i + 1)) (xs (i + 2)) (xs (i + 3)))) (z1 := fun σ => zEv (d + 30) mX10_histogram [.inr (.inl (some o)), .inl (xs (i + 1)), .inl (xs (i + 2)), .inl (xs (i + 3))] σ) (z2 := fun σ => zEv (d + 30) mX11_histogram [.inr (.inl (some (o + 257))), .inl (xs (i + 1)), .inl (xs (i + 2)), .inl (xs (i + 3))] σ) h h.1 h.2.1 (fun q u P hI => (c_histogram h.1 hI (xs (i + 1)) (xs (i + 2)) (xs (i + 3)) (d + 10)).os) (fun τ hI => m_histogram h.1 hI (xs (i + 1)) (xs (i + 2)) (xs (i + 3)) (d + 10))
  have e1 : zin (nI i + 1) n = True ∧ (nI i + 1).toNatClampNeg = i + 1 := L_ix (j := 1) (by omega) hn
  have e2 : zin (nI i + 2) n = True ∧ (nI i + 2).toNatClampNeg = i + 2 := L_ix (j := 2) (by omega) hn
  have e3 : zin (nI i + 3) n = True ∧ (nI i + 3).toNatClampNeg = i + 3 := L_ix (j := 3) (by omega) hn
  have k1 : zEv (d + 30) mX10_histogram [.inr (.inl (some o)), .inl (xs (i + 1)), .inl (xs (i + 2)), .inl (xs (i + 3))] σ = some (some (.inl (rHist A (xs (i + 1)) (xs (i + 2)) (xs (i + 3)))), τ1) := k1
  have k2 : zEv (d + 30) mX11_histogram [.inr (.inl (some (o + 257))), .inl (xs (i + 1)), .inl (xs (i + 2)), .inl (xs (i + 3))] τ1 = some (some (.inl (rHist A (xs (i + 1)) (xs (i + 2)) (xs (i + 3)))), τ2) := k2
  rw [uL_law_1166]
  simp only [onR_s, chk_e, h.2.2.2.2.2.2.2.1, h.2.2.2.2.2.2.2.2.1, h.o8, k4, k5, k7, and_self, if_true, zlt_e, bnI_s, e1.1, e1.2, h.2.2.2.2.2.2.2.2.2.2 (i + 1) (by omega), k6 (i + 1) (by omega), e2.1, e2.2, h.2.2.2.2.2.2.2.2.2.2 (i + 2) (by omega), k6 (i + 2) (by omega), e3.1, e3.2, h.2.2.2.2.2.2.2.2.2.2 (i + 3) (by omega), k6 (i + 3) (by omega), k1, k2]
  exact ⟨τ2, _, bb, rfl, k3.mono (by omega), by omega, by omega⟩
theorem w_sum {σ : zS} {b o n i B : Nat} {xs : Nat → Int32} {A : zW} {bb : Nat × Nat} (h : LInv σ b o n xs A B) (hB : B < 2 ^ 29) (hn : n ≤ 3584) (hi : i + 7 ≤ n) (hb : 28 ≤ bb.1 ∧ 542 ≤ bb.2) (d : Nat) : LNext (LL_law_1209 (zEv (d + 30)) (some b) (some o) (some (o + 257)) (nI i) bb σ) b o n i xs bb B d := by
  obtain ⟨τ1, τ2, k1, k2, k3, k4, k5, k6, k7⟩ := L_step (A' := A) (B' := B) (r := (rSum A (xs (i + 1)))) (z1 := fun σ => zEv (d + 30) mX10_sum [.inr (.inl (some o)), .inl (xs (i + 1))] σ) (z2 := fun σ => zEv (d + 30) mX11_sum [.inr (.inl (some (o + 257))), .inl (xs (i + 1))] σ) h h.1 h.2.1 (fun q u P hI => (c_sum h.1 hI (xs (i + 1)) (d + 10)).os) (fun τ hI => m_sum h.1 hI (xs (i + 1)) (d + 10))
  have e1 : zin (nI i + 1) n = True ∧ (nI i + 1).toNatClampNeg = i + 1 := L_ix (j := 1) (by omega) hn
  have k1 : zEv (d + 30) mX10_sum [.inr (.inl (some o)), .inl (xs (i + 1))] σ = some (some (.inl (rSum A (xs (i + 1)))), τ1) := k1
  have k2 : zEv (d + 30) mX11_sum [.inr (.inl (some (o + 257))), .inl (xs (i + 1))] τ1 = some (some (.inl (rSum A (xs (i + 1)))), τ2) := k2
  rw [uL_law_1209]
  simp only [onR_s, chk_e, h.2.2.2.2.2.2.2.1, h.2.2.2.2.2.2.2.2.1, h.o8, k4, k5, k7, and_self, if_true, zlt_e, bnI_s, e1.1, e1.2, h.2.2.2.2.2.2.2.2.2.2 (i + 1) (by omega), k6 (i + 1) (by omega), k1, k2]
  exact ⟨τ2, _, bb, rfl, k3.mono (by omega), by omega, by omega⟩
theorem w_effect {σ : zS} {b o n i B : Nat} {xs : Nat → Int32} {A : zW} {bb : Nat × Nat} (h : LInv σ b o n xs A B) (hB : B < 2 ^ 29) (hn : n ≤ 3584) (hi : i + 7 ≤ n) (hb : 28 ≤ bb.1 ∧ 542 ≤ bb.2) (d : Nat) : LNext (LL_law_1232 (zEv (d + 30)) (some b) (some o) (some (o + 257)) (nI i) bb σ) b o n i xs bb B d := by
  obtain ⟨τ1, τ2, k1, k2, k3, k4, k5, k6, k7⟩ := L_step (A' := A) (B' := B) (r := (rEff A (xs (i + 1)))) (z1 := fun σ => zEv (d + 30) mX10_effect [.inr (.inl (some o)), .inl (xs (i + 1))] σ) (z2 := fun σ => zEv (d + 30) mX11_effect [.inr (.inl (some (o + 257))), .inl (xs (i + 1))] σ) h h.1 h.2.1 (fun q u P hI => (c_effect h.1 hI (xs (i + 1)) (d + 10)).os) (fun τ hI => m_effect h.1 hI (xs (i + 1)) (d + 10))
  have e1 : zin (nI i + 1) n = True ∧ (nI i + 1).toNatClampNeg = i + 1 := L_ix (j := 1) (by omega) hn
  have k1 : zEv (d + 30) mX10_effect [.inr (.inl (some o)), .inl (xs (i + 1))] σ = some (some (.inl (rEff A (xs (i + 1)))), τ1) := k1
  have k2 : zEv (d + 30) mX11_effect [.inr (.inl (some (o + 257))), .inl (xs (i + 1))] τ1 = some (some (.inl (rEff A (xs (i + 1)))), τ2) := k2
  rw [uL_law_1232]
  simp only [onR_s, chk_e, h.2.2.2.2.2.2.2.1, h.2.2.2.2.2.2.2.2.1, h.o8, k4, k5, k7, and_self, if_true, zlt_e, bnI_s, e1.1, e1.2, h.2.2.2.2.2.2.2.2.2.2 (i + 1) (by omega), k6 (i + 1) (by omega), k1, k2]
  exact ⟨τ2, _, bb, rfl, k3.mono (by omega), by omega, by omega⟩
theorem w_strongestLayer {σ : zS} {b o n i B : Nat} {xs : Nat → Int32} {A : zW} {bb : Nat × Nat} (h : LInv σ b o n xs A B) (hB : B < 2 ^ 29) (hn : n ≤ 3584) (hi : i + 7 ≤ n) (hb : 28 ≤ bb.1 ∧ 542 ≤ bb.2) (d : Nat) : LNext (LL_law_1255 (zEv (d + 30)) (some b) (some o) (some (o + 257)) (nI i) bb σ) b o n i xs bb B d := by
  obtain ⟨τ1, τ2, k1, k2, k3, k4, k5, k6, k7⟩ := L_step (A' := A) (B' := B) (r := (rStg A)) (z1 := fun σ => zEv (d + 30) mX10_strongestLayer [.inr (.inl (some o))] σ) (z2 := fun σ => zEv (d + 30) mX11_strongestLayer [.inr (.inl (some (o + 257)))] σ) h h.1 h.2.1 (fun q u P hI => (c_strongestLayer h.1 hI (d + 10)).os) (fun τ hI => m_strongestLayer h.1 hI (d + 10))
  have k1 : zEv (d + 30) mX10_strongestLayer [.inr (.inl (some o))] σ = some (some (.inl (rStg A)), τ1) := k1
  have k2 : zEv (d + 30) mX11_strongestLayer [.inr (.inl (some (o + 257)))] τ1 = some (some (.inl (rStg A)), τ2) := k2
  rw [uL_law_1255]
  simp only [onR_s, chk_e, h.2.2.2.2.2.2.2.1, h.2.2.2.2.2.2.2.2.1, h.o8, k4, k5, k7, and_self, if_true, zlt_e, bnI_s, k1, k2]
  exact ⟨τ2, _, bb, rfl, k3.mono (by omega), by omega, by omega⟩
theorem w_exchangeDifference {σ : zS} {b o n i B : Nat} {xs : Nat → Int32} {A : zW} {bb : Nat × Nat} (h : LInv σ b o n xs A B) (hB : B < 2 ^ 29) (hn : n ≤ 3584) (hi : i + 7 ≤ n) (hb : 28 ≤ bb.1 ∧ 542 ≤ bb.2) (d : Nat) : LNext (LL_law_1268 (zEv (d + 30)) (some b) (some o) (some (o + 257)) (nI i) bb σ) b o n i xs bb B d := by
  obtain ⟨τ1, τ2, k1, k2, k3, k4, k5, k6, k7⟩ := L_step (A' := A) (B' := B) (r := (rExc A (xs (i + 1)))) (z1 := fun σ => zEv (d + 30) mX10_exchangeDifference [.inr (.inl (some o)), .inl (xs (i + 1))] σ) (z2 := fun σ => zEv (d + 30) mX11_exchangeDifference [.inr (.inl (some (o + 257))), .inl (xs (i + 1))] σ) h h.1 h.2.1 (fun q u P hI => (c_exchangeDifference h.1 hI (xs (i + 1)) (d + 10)).os) (fun τ hI => m_exchangeDifference h.1 hI (xs (i + 1)) (d + 10))
  have e1 : zin (nI i + 1) n = True ∧ (nI i + 1).toNatClampNeg = i + 1 := L_ix (j := 1) (by omega) hn
  have k1 : zEv (d + 30) mX10_exchangeDifference [.inr (.inl (some o)), .inl (xs (i + 1))] σ = some (some (.inl (rExc A (xs (i + 1)))), τ1) := k1
  have k2 : zEv (d + 30) mX11_exchangeDifference [.inr (.inl (some (o + 257))), .inl (xs (i + 1))] τ1 = some (some (.inl (rExc A (xs (i + 1)))), τ2) := k2
  rw [uL_law_1268]
  simp only [onR_s, chk_e, h.2.2.2.2.2.2.2.1, h.2.2.2.2.2.2.2.2.1, h.o8, k4, k5, k7, and_self, if_true, zlt_e, bnI_s, e1.1, e1.2, h.2.2.2.2.2.2.2.2.2.2 (i + 1) (by omega), k6 (i + 1) (by omega), k1, k2]
  exact ⟨τ2, _, bb, rfl, k3.mono (by omega), by omega, by omega⟩
theorem w_snapshotDifference {σ : zS} {b o n i B : Nat} {xs : Nat → Int32} {A : zW} {bb : Nat × Nat} (h : LInv σ b o n xs A B) (hB : B < 2 ^ 29) (hn : n ≤ 3584) (hi : i + 7 ≤ n) (hb : 28 ≤ bb.1 ∧ 542 ≤ bb.2) (d : Nat) : LNext (LL_law_1291 (zEv (d + 30)) (some b) (some o) (some (o + 257)) (nI i) bb σ) b o n i xs bb B d := by
  obtain ⟨τ1, τ2, k1, k2, k3, k4, k5, k6, k7⟩ := L_step (A' := A) (B' := B) (r := (rSnap A (xs (i + 1)))) (z1 := fun σ => zEv (d + 30) mX10_snapshotDifference [.inr (.inl (some o)), .inl (xs (i + 1))] σ) (z2 := fun σ => zEv (d + 30) mX11_snapshotDifference [.inr (.inl (some (o + 257))), .inl (xs (i + 1))] σ) h h.1 h.2.1 (fun q u P hI => (c_snapshotDifference h.1 hI (xs (i + 1)) (d + 10)).os) (fun τ hI => m_snapshotDifference h.1 hI (xs (i + 1)) (d + 10))
  have e1 : zin (nI i + 1) n = True ∧ (nI i + 1).toNatClampNeg = i + 1 := L_ix (j := 1) (by omega) hn
  have k1 : zEv (d + 30) mX10_snapshotDifference [.inr (.inl (some o)), .inl (xs (i + 1))] σ = some (some (.inl (rSnap A (xs (i + 1)))), τ1) := k1
  have k2 : zEv (d + 30) mX11_snapshotDifference [.inr (.inl (some (o + 257))), .inl (xs (i + 1))] τ1 = some (some (.inl (rSnap A (xs (i + 1)))), τ2) := k2
  rw [uL_law_1291]
  simp only [onR_s, chk_e, h.2.2.2.2.2.2.2.1, h.2.2.2.2.2.2.2.2.1, h.o8, k4, k5, k7, and_self, if_true, zlt_e, bnI_s, e1.1, e1.2, h.2.2.2.2.2.2.2.2.2.2 (i + 1) (by omega), k6 (i + 1) (by omega), k1, k2]
  exact ⟨τ2, _, bb, rfl, k3.mono (by omega), by omega, by omega⟩
theorem w_undo {σ : zS} {b o n i B : Nat} {xs : Nat → Int32} {A : zW} {bb : Nat × Nat} (h : LInv σ b o n xs A B) (hB : B < 2 ^ 29) (hn : n ≤ 3584) (hi : i + 7 ≤ n) (hb : 28 ≤ bb.1 ∧ 542 ≤ bb.2) (d : Nat) : LNext (LL_law_1314 (zEv (d + 30)) (some b) (some o) (some (o + 257)) (nI i) bb σ) b o n i xs bb B d := by
  obtain ⟨τ1, τ2, k1, k2, k3, k4, k5, k6, k7⟩ := L_step (A' := (tUndo A)) (B' := B) (r := (rUndo A)) (z1 := fun σ => zEv (d + 30) mX10_undo [.inr (.inl (some o))] σ) (z2 := fun σ => zEv (d + 30) mX11_undo [.inr (.inl (some (o + 257)))] σ) h (h.1.undo) (LG.undo h.2.1) (fun q u P hI => (c_undo h.1 (by omega) hI (d + 10)).os) (fun τ hI => m_undo h.1 (by omega) hI (d + 10))
  have k1 : zEv (d + 30) mX10_undo [.inr (.inl (some o))] σ = some (some (.inl (rUndo A)), τ1) := k1
  have k2 : zEv (d + 30) mX11_undo [.inr (.inl (some (o + 257)))] τ1 = some (some (.inl (rUndo A)), τ2) := k2
  rw [uL_law_1314]
  simp only [onR_s, chk_e, h.2.2.2.2.2.2.2.1, h.2.2.2.2.2.2.2.2.1, h.o8, k4, k5, k7, and_self, if_true, zlt_e, bnI_s, k1, k2]
  exact ⟨τ2, _, bb, rfl, k3.mono (by omega), by omega, by omega⟩
theorem w_save {σ : zS} {b o n i B : Nat} {xs : Nat → Int32} {A : zW} {bb : Nat × Nat} (h : LInv σ b o n xs A B) (hB : B < 2 ^ 29) (hn : n ≤ 3584) (hi : i + 7 ≤ n) (hb : 28 ≤ bb.1 ∧ 542 ≤ bb.2) (d : Nat) : LNext (LL_law_1327 (zEv (d + 30)) (some b) (some o) (some (o + 257)) (nI i) bb σ) b o n i xs bb B d := by
  obtain ⟨τ1, τ2, k1, k2, k3, k4, k5, k6, k7⟩ := L_step (A' := (tSav A (xs (i + 1)))) (B' := B) (r := (rSav A (xs (i + 1)))) (z1 := fun σ => zEv (d + 30) mX10_save [.inr (.inl (some o)), .inl (xs (i + 1))] σ) (z2 := fun σ => zEv (d + 30) mX11_save [.inr (.inl (some (o + 257))), .inl (xs (i + 1))] σ) h (h.1.sav (xs (i + 1))) (LG.sav h.2.1 (xs (i + 1))) (fun q u P hI => (c_save h.1 h.2.2.2.2.2.2.2.2.2.1 hI (xs (i + 1)) (d + 10))) (fun τ hI => m_save h.1 hI (xs (i + 1)) (d + 10))
  have e1 : zin (nI i + 1) n = True ∧ (nI i + 1).toNatClampNeg = i + 1 := L_ix (j := 1) (by omega) hn
  have k1 : zEv (d + 30) mX10_save [.inr (.inl (some o)), .inl (xs (i + 1))] σ = some (some (.inl (rSav A (xs (i + 1)))), τ1) := k1
  have k2 : zEv (d + 30) mX11_save [.inr (.inl (some (o + 257))), .inl (xs (i + 1))] τ1 = some (some (.inl (rSav A (xs (i + 1)))), τ2) := k2
  rw [uL_law_1327]
  simp only [onR_s, chk_e, h.2.2.2.2.2.2.2.1, h.2.2.2.2.2.2.2.2.1, h.o8, k4, k5, k7, and_self, if_true, zlt_e, bnI_s, e1.1, e1.2, h.2.2.2.2.2.2.2.2.2.2 (i + 1) (by omega), k6 (i + 1) (by omega), zgd_t, zfit_t hb, k1, k2]
  exact ⟨τ2, _, (bb.1 - 28, bb.2 - 542), rfl, k3.mono (by omega), by show bb.1 ≤ bb.1 - 28 + 28; omega, by show bb.2 ≤ bb.2 - 542 + 542; omega⟩
theorem w_restore {σ : zS} {b o n i B : Nat} {xs : Nat → Int32} {A : zW} {bb : Nat × Nat} (h : LInv σ b o n xs A B) (hB : B < 2 ^ 29) (hn : n ≤ 3584) (hi : i + 7 ≤ n) (hb : 28 ≤ bb.1 ∧ 542 ≤ bb.2) (d : Nat) : LNext (LL_law_1350 (zEv (d + 30)) (some b) (some o) (some (o + 257)) (nI i) bb σ) b o n i xs bb B d := by
  obtain ⟨τ1, τ2, k1, k2, k3, k4, k5, k6, k7⟩ := L_step (A' := (tRest A (xs (i + 1)))) (B' := B) (r := (rRest A (xs (i + 1)))) (z1 := fun σ => zEv (d + 30) mX10_restore [.inr (.inl (some o)), .inl (xs (i + 1))] σ) (z2 := fun σ => zEv (d + 30) mX11_restore [.inr (.inl (some (o + 257))), .inl (xs (i + 1))] σ) h (h.1.rest (xs (i + 1))) (LG.rest h.2.1 (xs (i + 1))) (fun q u P hI => (c_restore h.1 (by omega) hI (xs (i + 1)) (d + 10)).os) (fun τ hI => m_restore h.1 (by omega) hI (xs (i + 1)) (d + 10))
  have e1 : zin (nI i + 1) n = True ∧ (nI i + 1).toNatClampNeg = i + 1 := L_ix (j := 1) (by omega) hn
  have k1 : zEv (d + 30) mX10_restore [.inr (.inl (some o)), .inl (xs (i + 1))] σ = some (some (.inl (rRest A (xs (i + 1)))), τ1) := k1
  have k2 : zEv (d + 30) mX11_restore [.inr (.inl (some (o + 257))), .inl (xs (i + 1))] τ1 = some (some (.inl (rRest A (xs (i + 1)))), τ2) := k2
  rw [uL_law_1350]
  simp only [onR_s, chk_e, h.2.2.2.2.2.2.2.1, h.2.2.2.2.2.2.2.2.1, h.o8, k4, k5, k7, and_self, if_true, zlt_e, bnI_s, e1.1, e1.2, h.2.2.2.2.2.2.2.2.2.2 (i + 1) (by omega), k6 (i + 1) (by omega), k1, k2]
  exact ⟨τ2, _, bb, rfl, k3.mono (by omega), by omega, by omega⟩
theorem w_all {σ : zS} {b o n i B : Nat} {xs : Nat → Int32} {A : zW} {bb : Nat × Nat} (h : LInv σ b o n xs A B) (hB : B < 2 ^ 29) (hn : n ≤ 3584) (hi : i + 7 ≤ n) (hb : 28 ≤ bb.1 ∧ 542 ≤ bb.2) (d : Nat) : LNext (LL_law_27 (zEv (d + 30)) (some b) (some o) (some (o + 257)) (nI i) bb σ) b o n i xs bb B d := by
  rw [uL_law_27]
  simp only [onR_s, chk_e, h.2.2.2.2.2.2.2.1, h.2.2.2.2.2.2.2.2.1, n_zin (show i < 2 ^ 31 by omega), show i < n by omega, and_self, if_true, n_tn (show i < 2 ^ 31 by omega)]
  by_cases c0 : zai σ b i &&& 63 = 0
  · rw [if_pos c0]
    exact w_newImage h hB hn hi hb d
  rw [if_neg c0]
  by_cases c1 : zai σ b i &&& 63 = 1
  · rw [if_pos c1]
    exact w_setPixel h hB hn hi hb d
  rw [if_neg c1]
  by_cases c2 : zai σ b i &&& 63 = 2
  · rw [if_pos c2]
    exact w_fillRectangle h hB hn hi hb d
  rw [if_neg c2]
  by_cases c3 : zai σ b i &&& 63 = 3
  · rw [if_pos c3]
    exact w_size h hB hn hi hb d
  rw [if_neg c3]
  by_cases c4 : zai σ b i &&& 63 = 4
  · rw [if_pos c4]
    exact w_addLayer h hB hn hi hb d
  rw [if_neg c4]
  by_cases c5 : zai σ b i &&& 63 = 5
  · rw [if_pos c5]
    exact w_setParameters h hB hn hi hb d
  rw [if_neg c5]
  by_cases c6 : zai σ b i &&& 63 = 6
  · rw [if_pos c6]
    exact w_setBlend h hB hn hi hb d
  rw [if_neg c6]
  by_cases c7 : zai σ b i &&& 63 = 7
  · rw [if_pos c7]
    exact w_setEnabled h hB hn hi hb d
  rw [if_neg c7]
  by_cases c8 : zai σ b i &&& 63 = 8
  · rw [if_pos c8]
    exact w_moveLayer h hB hn hi hb d
  rw [if_neg c8]
  by_cases c9 : zai σ b i &&& 63 = 9
  · rw [if_pos c9]
    exact w_duplicateLayer h hB hn hi hb d
  rw [if_neg c9]
  by_cases c10 : zai σ b i &&& 63 = 10
  · rw [if_pos c10]
    exact w_removeLayer h hB hn hi hb d
  rw [if_neg c10]
  by_cases c11 : zai σ b i &&& 63 = 11
  · rw [if_pos c11]
    exact w_flatten h hB hn hi hb d
  rw [if_neg c11]
  by_cases c12 : zai σ b i &&& 63 = 12
  · rw [if_pos c12]
    exact w_layer h hB hn hi hb d
  rw [if_neg c12]
  by_cases c13 : zai σ b i &&& 63 = 13
  · rw [if_pos c13]
    exact w_setMask h hB hn hi hb d
  rw [if_neg c13]
  by_cases c14 : zai σ b i &&& 63 = 14
  · rw [if_pos c14]
    exact w_setFeather h hB hn hi hb d
  rw [if_neg c14]
  by_cases c15 : zai σ b i &&& 63 = 15
  · rw [if_pos c15]
    exact w_invertMask h hB hn hi hb d
  rw [if_neg c15]
  by_cases c16 : zai σ b i &&& 63 = 16
  · rw [if_pos c16]
    exact w_dab h hB hn hi hb d
  rw [if_neg c16]
  by_cases c17 : zai σ b i &&& 63 = 17
  · rw [if_pos c17]
    exact w_maskValue h hB hn hi hb d
  rw [if_neg c17]
  by_cases c18 : zai σ b i &&& 63 = 18
  · rw [if_pos c18]
    exact w_append h hB hn hi hb d
  rw [if_neg c18]
  by_cases c19 : zai σ b i &&& 63 = 19
  · rw [if_pos c19]
    exact w_clearText h hB hn hi hb d
  rw [if_neg c19]
  by_cases c20 : zai σ b i &&& 63 = 20
  · rw [if_pos c20]
    exact w_loadStack h hB hn hi hb d
  rw [if_neg c20]
  by_cases c21 : zai σ b i &&& 63 = 21
  · rw [if_pos c21]
    exact w_pixel h hB hn hi hb d
  rw [if_neg c21]
  by_cases c22 : zai σ b i &&& 63 = 22
  · rw [if_pos c22]
    exact w_prefetch h hB hn hi hb d
  rw [if_neg c22]
  by_cases c23 : zai σ b i &&& 63 = 23
  · rw [if_pos c23]
    exact w_setCacheLimit h hB hn hi hb d
  rw [if_neg c23]
  by_cases c24 : zai σ b i &&& 63 = 24
  · rw [if_pos c24]
    exact w_setTileSize h hB hn hi hb d
  rw [if_neg c24]
  by_cases c25 : zai σ b i &&& 63 = 25
  · rw [if_pos c25]
    exact w_clearCache h hB hn hi hb d
  rw [if_neg c25]
  by_cases c26 : zai σ b i &&& 63 = 26
  · rw [if_pos c26]
    exact w_isCached h hB hn hi hb d
  rw [if_neg c26]
  by_cases c27 : zai σ b i &&& 63 = 27
  · rw [if_pos c27]
    exact w_cachedTiles h hB hn hi hb d
  rw [if_neg c27]
  by_cases c28 : zai σ b i &&& 63 = 28
  · rw [if_pos c28]
    exact w_counter h hB hn hi hb d
  rw [if_neg c28]
  by_cases c29 : zai σ b i &&& 63 = 29
  · rw [if_pos c29]
    exact w_oldestTile h hB hn hi hb d
  rw [if_neg c29]
  by_cases c30 : zai σ b i &&& 63 = 30
  · rw [if_pos c30]
    exact w_histogram h hB hn hi hb d
  rw [if_neg c30]
  by_cases c31 : zai σ b i &&& 63 = 31
  · rw [if_pos c31]
    exact w_sum h hB hn hi hb d
  rw [if_neg c31]
  by_cases c32 : zai σ b i &&& 63 = 32
  · rw [if_pos c32]
    exact w_effect h hB hn hi hb d
  rw [if_neg c32]
  by_cases c33 : zai σ b i &&& 63 = 33
  · rw [if_pos c33]
    exact w_strongestLayer h hB hn hi hb d
  rw [if_neg c33]
  by_cases c34 : zai σ b i &&& 63 = 34
  · rw [if_pos c34]
    exact w_exchangeDifference h hB hn hi hb d
  rw [if_neg c34]
  by_cases c35 : zai σ b i &&& 63 = 35
  · rw [if_pos c35]
    exact w_snapshotDifference h hB hn hi hb d
  rw [if_neg c35]
  by_cases c36 : zai σ b i &&& 63 = 36
  · rw [if_pos c36]
    exact w_undo h hB hn hi hb d
  rw [if_neg c36]
  by_cases c37 : zai σ b i &&& 63 = 37
  · rw [if_pos c37]
    exact w_save h hB hn hi hb d
  rw [if_neg c37]
  by_cases c38 : zai σ b i &&& 63 = 38
  · rw [if_pos c38]
    exact w_restore h hB hn hi hb d
  rw [if_neg c38]
  exact ⟨σ, A, bb, rfl, h.mono (by omega), by omega, by omega⟩
theorem L_loop {b o n : Nat} {xs : Nat → Int32} (hn : n ≤ 3584) (d : Nat) : ∀ (f i : Nat) (σ : zS) (A : zW) (B : Nat) (bb : Nat × Nat), n ≤ i + 7 * f + 6 → i ≤ 4000 → LInv σ b o n xs A B → B + 33000 * f < 2 ^ 29 → 28 * f ≤ bb.1 → 542 * f ≤ bb.2 → ∃ τ, LL_law_18 (zEv (d + 30)) (some b) (some o) (some (o + 257)) (nI i) bb σ = some (some (.inl 1), τ) := by
  have b1 : zB 1 = True := eq_true (Or.inr rfl)
  have hd : ∀ i : Nat, i ≤ 4000 → ((nI i ≤ nI n - 7) ↔ i + 7 ≤ n) := fun i hi => by
    have e : nI n - 7 = iI ((n : Int) - 7) := by
      show nI n - iI 7 = _
      rw [i_nI, i_sub]
    rw [e, i_nI, i_le (by omega) (by omega) (by omega) (by omega)]
    omega
  intro f
  induction f with
  | zero =>
    intro i σ A B bb hf hi h _ _ _
    rw [uL_law_18]
    simp only [onR_s, chk_e, h.2.2.2.2.2.2.2.1, h.2.2.2.2.2.2.2.2.1, if_true, n_ofNat, hd i hi, show ¬ i + 7 ≤ n by omega, if_false, b1]
    exact ⟨σ, rfl⟩
  | succ f ih =>
    intro i σ A B bb hf hi h hB hb1 hb2
    rw [uL_law_18]
    simp only [onR_s, chk_e, h.2.2.2.2.2.2.2.1, h.2.2.2.2.2.2.2.2.1, if_true, n_ofNat, hd i hi, b1]
    by_cases c : i + 7 ≤ n
    · rw [if_pos c]
      obtain ⟨τ, A', bb', k1, k2, k3, k4⟩ := w_all h (by omega) hn c (show 28 ≤ bb.1 ∧ 542 ≤ bb.2 by omega) d
      rw [k1, uL_law_1373]
      simp only [zlt_e]
      have e7 : nI i + 7 = nI (i + 7) := nI_add i 7
      rw [e7]
      exact ih (i + 7) τ A' (B + 33000) bb' (by omega) (by omega) k2 (by omega) (by omega) (by omega)
    · rw [if_neg c]
      exact ⟨σ, rfl⟩
