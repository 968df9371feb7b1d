/-! the reference's view of the whole state -/
def MZ (σ : zS) (m : Nat) (A : zW) : Prop := (∀ s, s < 2 → (aS A s = none → zai σ (m + 4) s = 0) ∧ ∀ C, aS A s = some C → zai σ (m + 4) s = 1 ∧ MV σ (m + 3) (515 * s) C) ∧ (zi σ 583 m = nI (aTn A) ∧ ∀ i, i < aTn A → zai σ (m + 5) i = nI (aTx A i)) ∧ (zi σ 584 m = nI (tSd (aT A)) ∧ zi σ 585 m = nI (tLm (aT A)) ∧ zi σ 587 m = nI (tCk (aT A))) ∧ zai σ (m + 7) 0 = nI (tCp (aT A)) ∧ zai σ (m + 7) 1 = nI (tFd (aT A)) ∧ zai σ (m + 7) 2 = nI (tDr (aT A))
def MIx (σ : zS) (m : Nat) (A : zW) : Prop := MS σ m ∧ MV σ (m + 1) 0 (aC A) ∧ MH σ m (aHn A) (aHk A) ∧ MU σ m (aU A) ∧ MZ σ m A
theorem MZ.fr {Q : Nat → Prop} {σ τ : zS} {m : Nat} {A : zW} (h : MZ σ m A) (g : zFr Q σ τ) (h3 : ¬ Q (m + 3)) (h4 : ¬ Q (m + 4)) (h5 : ¬ Q (m + 5)) (h7 : ¬ Q (m + 7)) (hf : ∀ f, f ≠ 576 → f ≠ 579 → zi τ f m = zi σ f m) : MZ τ m A := by
  obtain ⟨a1, ⟨a2, a3⟩, ⟨a4, a5, a6⟩, a7, a8, a9⟩ := h
  refine ⟨fun s hs => ⟨fun e => (g.ai h4 s).trans ((a1 s hs).1 e), fun C e => ⟨(g.ai h4 s).trans ((a1 s hs).2 C e).1, ((a1 s hs).2 C e).2.fr g h3⟩⟩, ⟨(hf _ (by decide) (by decide)).trans a2, fun i hi => (g.ai h5 i).trans (a3 i hi)⟩, ⟨(hf _ (by decide) (by decide)).trans a4, (hf _ (by decide) (by decide)).trans a5, (hf _ (by decide) (by decide)).trans a6⟩, (g.ai h7 _).trans a7, (g.ai h7 _).trans a8, (g.ai h7 _).trans a9⟩
theorem MH.fr {Q : Nat → Prop} {σ τ : zS} {m n : Nat} {K : Nat → zC} (h : MH σ m n K) (g : zFr Q σ τ) (h2 : ¬ Q (m + 2)) (hf : zi τ 579 m = zi σ 579 m) : MH τ m n K := ⟨hf.trans h.1, fun i hi => (h.2 i hi).fr g h2⟩
theorem MU.fr {Q : Nat → Prop} {σ τ : zS} {m : Nat} {u : Nat → Nat} (h : MU σ m u) (g : zFr Q σ τ) (h6 : ¬ Q (m + 6)) : MU τ m u := fun k hk => (g.ai h6 k).trans (h k hk)
theorem stC_stC (C : zC) (k : Nat) (l l' : Nat → Int) : stC (stC C k l) k l' = stC C k l' := by
  unfold stC
  have : (fun i => if i = k then l' else cL (cW C, cH C, cN C, cP C, fun i => if i = k then l else cL C i) i) = fun i => if i = k then l' else cL C i := by
    funext i
    by_cases e : i = k
    · rw [if_pos e, if_pos e]
    · rw [if_neg e, if_neg e]
      show (if i = k then l else cL C i) = cL C i
      rw [if_neg e]
  rw [this]
  rfl
theorem stC_self (C : zC) (k : Nat) : stC C k (cL C k) = C := by
  have : (fun i => if i = k then cL C k else cL C i) = cL C := by
    funext i
    by_cases e : i = k
    · rw [if_pos e, e]
    · rw [if_neg e]
  unfold stC
  rw [this]
  rfl
/-- one int of a layer's row is stored -/
theorem MV.st {σ : zS} {m k j : Nat} {C : zC} {l : Nat → Int} (h : MV σ (m + 1) 0 (stC C k l)) (hw : cW C ≤ 16) (hh : cH C ≤ 16) (hj : j < 32) (v : Int) : MV (zsa σ (m + 1) (259 + 32 * k + j) (iI v)) (m + 1) 0 (stC C k (upR l j v)) := by
  refine ⟨by rw [zai_sa, if_neg (by omega)]; exact h.1, by rw [zai_sa, if_neg (by omega)]; exact h.2.1, fun x y hx hy => ?_, by rw [zai_sa, if_neg (by omega)]; exact h.2.2.2.1, fun i hi j' hj' => ?_⟩
  · have := lin256 hw hh hx hy
    rw [zai_sa, if_neg (by
      have e : cW (stC C k (upR l j v)) = cW C := rfl
      rw [e]
      omega)]
    exact h.2.2.1 x y hx hy
  · have old := h.2.2.2.2 i hi j' hj'
    rw [zai_sa]
    show _ = iI ((if i = k then upR l j v else cL C i) j')
    have old : zai σ (m + 1) (0 + 259 + 32 * i + j') = iI ((if i = k then l else cL C i) j') := old
    by_cases e : i = k
    · rw [if_pos e] at old ⊢
      unfold upR
      by_cases ej : j' = j
      · rw [if_pos ⟨rfl, by omega⟩, if_pos ej]
      · rw [if_neg (by omega), if_neg ej]; exact old
    · rw [if_neg e] at old ⊢
      rw [if_neg (by omega)]
      exact old
/-- a call of the reference: answers r and leaves A -/
def zOM (m : Nat) (z : zO) (r : Int32) (A : zW) (σ : zS) : Prop := ∃ τ, z = some (some (.inl r), τ) ∧ MIx τ m A ∧ zFr (fun a => m ≤ a ∧ a < m + 22) σ τ
theorem MIx.th {σ : zS} {m : Nat} {A : zW} (h : MIx σ m A) : MIx (zsi σ 576 m 0) m A := by
  have g : zFr (fun x => x = m) σ (zsi σ 576 m 0) := zFr.si σ rfl
  have hf : ∀ f, f ≠ 576 → zi (zsi σ 576 m 0) f m = zi σ f m := fun f hf => by rw [zi_si, if_neg (by omega)]
  exact ⟨h.1.fr g, h.2.1.fr g (by omega), h.2.2.1.fr g (by omega) (hf _ (by decide)), h.2.2.2.1.fr g (by omega), h.2.2.2.2.fr g (by omega) (by omega) (by omega) (by omega) (fun f h1 _ => hf f h1)⟩
/-- the end of a change of one layer: the tiles from it on go -/
theorem s_mend {σ τ : zS} {m k B : Nat} {A : zW} {l : Nat → Int} (hG : GA A B) (hB : B < 2 ^ 30) (hI : MIx σ m A) (g : zFr (fun x => x = m ∨ x = m + 1 ∨ x = m + 2) σ τ) (gf : ∀ f, f ≠ 576 → f ≠ 579 → zi τ f m = zi σ f m) (hV : MV τ (m + 1) 0 (stC (aC A) k l)) (hH : MH τ m (psN (aHn A)) (psK (aHn A) (aHk A) (aC A))) (hk : k < 8) (d : Nat) : ∃ υ n, zEv (d + 1) mX11_removeTiles [.inr (.inl (some m)), .inl (nI k), .inl 7] τ = some (some (.inl (nI n)), υ) ∧ MIx υ m (aRow A k l) ∧ zFr (fun a => m ≤ a ∧ a < m + 22) σ υ ∧ (∀ i, zai υ (m + 1) i = zai τ (m + 1) i) := by
  obtain ⟨hM, hV0, hH0, hU, hZ⟩ := hI
  obtain ⟨υ, n, h1, h2, h3, h4, h5⟩ := s_mremoveTiles (hM.fr g) (hU.fr g (by omega)) (hG.u31 hB) (show k ≤ 8 by omega) d
  exact ⟨υ, n, h1, ⟨(hM.fr g).fr h2, hV.fr h2 (by omega), hH.fr h2 (by omega) (h3 _ _), h4, (hZ.fr g (by omega) (by omega) (by omega) (by omega) gf).fr h2 (by omega) (by omega) (by omega) (by omega) (fun f _ _ => h3 _ _)⟩, (g.mono (fun a ha => by omega)).tr (h2.mono (fun a ha => by omega)), fun i => h2.ai (by omega) i⟩
theorem m_setBlend {σ : zS} {m B : Nat} {A : zW} (hG : GA A B) (hB : B < 2 ^ 30) (hI : MIx σ m A) (x mo p : Int32) (d : Nat) : zOM m (zEv (d + 20) mX11_setBlend [.inr (.inl (some m)), .inl x, .inl mo, .inl p] σ) (rBlend A x mo p) (tBlend A x mo p) σ := by
  have hn8 := hG.1.2.2.1
  have hI1 := hI.th
  have g0 : zFr (fun a => m ≤ a ∧ a < m + 22) σ (zsi σ 576 m 0) := zFr.si σ (by omega)
  have w1 : ((0 : Int32) ≤ mo ∧ mo ≤ 7) ↔ 0 ≤ mo.toInt ∧ mo.toInt ≤ 7 := w_in (a := 0) (b := 7) (by decide) (by decide) (by decide) (by decide)
  have w2 : ((0 : Int32) ≤ p ∧ p ≤ 100) ↔ 0 ≤ p.toInt ∧ p.toInt ≤ 100 := w_in (a := 0) (b := 100) (by decide) (by decide) (by decide) (by decide)
  rw [vX11_setBlend]
  unfold fX11_setBlend rBlend tBlend
  simp only [zlt_e, chk_e, bnI_s, hI.1.k, if_true, zkd_si, s_misLayer hI1.1 hI1.2.1 hn8, zb_0, s_in, w1, w2]
  by_cases hx : zin x (cN (aC A))
  · obtain ⟨ex, hk⟩ := zin_n hx
    generalize x.toNatClampNeg = k at *
    subst ex
    rw [if_neg (fun q => q hx)]
    by_cases hm : 0 ≤ mo.toInt ∧ mo.toInt ≤ 7
    · rw [if_neg (fun q => q hm)]
      by_cases hp : 0 ≤ p.toInt ∧ p.toInt ≤ 100
      · rw [if_neg (fun q => q hp), if_pos ⟨hx, hm, hp⟩, if_pos ⟨hx, hm, hp⟩]
        obtain ⟨τ, k1, k2, k3, k4⟩ := s_keep hI1.1 hI1.2.1 hG.1 hI1.2.2.1 hG.2.1.1 hG.2.1.2 (d + 18)
        have hM2 := hI1.1.fr k2
        have hV2 : MV τ (m + 1) 0 (aC A) := hI1.2.1.fr k2 (by omega)
        have v4 := hV2.r hk (show 4 < 32 by decide)
        have em : mo = iI mo.toInt := i_of mo
        have ep : p = iI p.toInt := i_of p
        have hV3 := (MV.st (l := cL (aC A) k) (by rw [stC_self]; exact hV2) hG.1.1.2 hG.1.2.1.2 (show 3 < 32 by decide) mo.toInt)
        have hV4 := hV3.st hG.1.1.2 hG.1.2.1.2 (show 4 < 32 by decide) p.toInt
        rw [← em] at hV3 hV4
        rw [← ep] at hV4
        have gs : zFr (fun x => x = m + 1) τ (zsa (zsa τ (m + 1) (259 + 32 * k + 3) mo) (m + 1) (259 + 32 * k + 4) p) := (zFr.sa (P := fun x => x = m + 1) _ rfl).tr (zFr.sa _ rfl)
        have gall : zFr (fun x => x = m ∨ x = m + 1 ∨ x = m + 2) σ (zsa (zsa τ (m + 1) (259 + 32 * k + 3) mo) (m + 1) (259 + 32 * k + 4) p) := ((zFr.si (P := fun x => x = m ∨ x = m + 1 ∨ x = m + 2) σ (f := 576) (v := 0) (Or.inl rfl)).tr (k2.mono (fun a ha => by omega))).tr (gs.mono (fun a ha => by omega))
        obtain ⟨υ, n, l1, l2, l3, l4⟩ := s_mend hG hB hI gall (fun f f1 f2 => by rw [zi_sa, zi_sa, k3 f f2, zi_si, if_neg (by omega)]) hV4 (k4.fr gs (by omega) rfl) (show k < 8 by omega) (d + 18)
        simp only [zlt_e, onR_s, nul_s, nul_n, chk_e, bnI_s, bnR_s, bnV_s, zi_si, zi_sr, zi_sl, zi_sa, zi_sq, zr_si, zr_sr, zr_sl, zr_sa, zr_sq, zl_si, zl_sr, zl_sl, zl_sa, zl_sq, zai_si, zai_sr, zai_sl, zai_sa, zai_sq, zar_si, zar_sr, zar_sl, zar_sa, zar_sq, zkd_si, zkd_sr, zkd_sl, zkd_sa, zkd_sq, zln_si, zln_sr, zln_sl, zln_sa, zln_sq, znx_si, znx_sr, znx_sl, znx_sa, znx_sq, k1, hM2.k, hM2.s.1, hM2.s.2.1, hM2.s.2.2, if_true, s_mat, nL 4, nL 3, nI_add, n_zin (show 259 + 32 * k + 4 < 2 ^ 31 by omega), n_tn (show 259 + 32 * k + 4 < 2 ^ 31 by omega), show 259 + 32 * k + 4 < 515 by omega, n_zin (show 259 + 32 * k + 3 < 2 ^ 31 by omega), n_tn (show 259 + 32 * k + 3 < 2 ^ 31 by omega), show 259 + 32 * k + 3 < 515 by omega, and_self, v4, l1]
        exact ⟨υ, rfl, l2, l3⟩
      · rw [if_pos hp, if_neg (fun q => hp q.2.2), if_neg (fun q => hp q.2.2)]
        exact ⟨_, rfl, hI1, g0⟩
    · rw [if_pos hm, if_neg (fun q => hm q.2.1), if_neg (fun q => hm q.2.1)]
      exact ⟨_, rfl, hI1, g0⟩
  · rw [if_pos hx, if_neg (fun q => hx q.1), if_neg (fun q => hx q.1)]
    exact ⟨_, rfl, hI1, g0⟩
