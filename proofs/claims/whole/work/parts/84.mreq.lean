/-! requests: the reference's stack -/
theorem clipM {a w : Nat} (ha : a < 1000) (hw : 1 ≤ w) (hw2 : w < 1000) (f : Int32 → zO) [Decidable (nI a < nI w)] : (if nI a < nI w then f (nI a) else f (nI w - 1)) = f (nI (min a (w - 1))) := by
  have e : (nI a < nI w) ↔ a < w := n_lt (by omega) (by omega)
  by_cases h : a < w
  · rw [if_pos (e.mpr h), show min a (w - 1) = a by omega]
  · rw [if_neg (fun q => h (e.mp q)), show min a (w - 1) = w - 1 by omega]
    congr 1
    exact nI_sub (b := 1) (by omega)
theorem s_enabledFrom {σ : zS} {m : Nat} {C : zC} (hM : MS σ m) (hV : MV σ (m + 1) 0 C) (G : GC C) (d : Nat) : ∀ n, n ≤ cN C → zEv (d + 3) mX11_enabledFrom [.inr (.inl (some m)), .inl (iI ((n : Int) - 1))] σ = some (some (.inl (iI ((onB (cL C) n : Nat) - 1))), σ) := by
  have hn8 := G.2.2.1
  intro n hn
  rw [vX11_enabledFrom]
  unfold fX11_enabledFrom
  simp only [zlt_e]
  generalize (.inl (iI ((n : Int) - 1)) : zV) = z1
  induction n with
  | zero =>
    rw [uX11_enabledFrom_2, if_pos (by decide)]
    rfl
  | succ i ih =>
    have hi : i < cN C := hn
    have hg := G.2.2.2.2 i hi
    have e : iI (((i + 1 : Nat) : Int) - 1) = nI i := by rw [i_nI]; congr 1; omega
    have e2 : nI i + (-1) = iI ((i : Int) - 1) := by rw [i_nI, show (-1 : Int32) = iI (-1) from rfl, i_add]; congr 1
    have hneg : ¬ (nI i < 0) := by
      have : (nI i < (0 : Int32)) ↔ i < 0 := n_lt (by omega) (by decide)
      rw [this]; omega
    rw [e, uX11_enabledFrom_2, if_neg hneg]
    simp only [zlt_e, onR_s, nul_s, nul_n, chk_e, bnI_s, bnR_s, bnV_s, zi_si, zi_sr, zi_sl, zi_sa, zi_sq, zr_si, zr_sr, zr_sl, zr_sa, zr_sq, zl_si, zl_sr, zl_sl, zl_sa, zl_sq, zai_si, zai_sr, zai_sl, zai_sa, zai_sq, zar_si, zar_sr, zar_sl, zar_sa, zar_sq, zkd_si, zkd_sr, zkd_sl, zkd_sa, zkd_sq, zln_si, zln_sr, zln_sl, zln_sa, zln_sq, znx_si, znx_sr, znx_sl, znx_sa, znx_sq, hM.k, if_true, s_misOn hM hV hn8 hg hi, zb_0, e2]
    by_cases ho : cL C i 5 = 1
    · rw [if_neg (fun q => q ho)]
      show _ = (some (some (Sum.inl (iI (((if cL C i 5 = 1 then i + 1 else onB (cL C) i : Nat) : Int) - 1))), σ) : zO)
      rw [if_pos ho, e]
    · rw [if_pos ho]
      show _ = (some (some (Sum.inl (iI (((if cL C i 5 = 1 then i + 1 else onB (cL C) i : Nat) : Int) - 1))), σ) : zO)
      rw [if_neg ho]
      exact ih (by omega)
/-- what requests work on -/
def RQM (σ : zS) (m : Nat) (C : zC) (sd : Nat) (s : zU) : Prop := MS σ m ∧ MV σ (m + 1) 0 C ∧ zi σ 584 m = nI sd ∧ MU σ m s.1 ∧ zi σ 587 m = nI (tCk s.2) ∧ zai σ (m + 7) 0 = nI (tCp s.2) ∧ zai σ (m + 7) 1 = nI (tFd s.2)
def inQ (m a : Nat) : Prop := a = m ∨ (m + 6 ≤ a ∧ a ≤ m + 16)
def inF (m a : Nat) : Prop := m + 8 ≤ a ∧ a ≤ m + 16
/-- requests leave the rest, and the frames below f -/
def KQ (m f : Nat) (σ τ : zS) : Prop := zFr (inQ m) σ τ ∧ (∀ g, g ≠ 587 → g ≠ 598 → zi τ g m = zi σ g m) ∧ zai τ (m + 7) 2 = zai σ (m + 7) 2 ∧ ∀ a, inF m a → ∀ p, p < f → zai τ a p = zai σ a p
theorem KQ.rf {m f : Nat} (σ : zS) : KQ m f σ σ := ⟨zFr.rf σ, fun _ _ _ => rfl, rfl, fun _ _ _ _ => rfl⟩
theorem KQ.tr {m f f' : Nat} {σ τ υ : zS} (h : KQ m f σ τ) (g : KQ m f' τ υ) (hf : f ≤ f') : KQ m f σ υ := ⟨h.1.tr g.1, fun k a b => (g.2.1 k a b).trans (h.2.1 k a b), g.2.2.1.trans h.2.2.1, fun a ha p hp => (g.2.2.2 a ha p (by omega)).trans (h.2.2.2 a ha p hp)⟩
theorem KQ.sf {m f a i : Nat} {v : Int32} (σ : zS) (ha : inF m a) (hi : f ≤ i) : KQ m f σ (zsa σ a i v) := ⟨zFr.sa σ (by unfold inF at ha; unfold inQ; omega), fun _ _ _ => rfl, by rw [zai_sa, if_neg (by unfold inF at ha; omega)], fun b _ p hp => by rw [zai_sa, if_neg (by omega)]⟩
theorem KQ.sd {m f : Nat} {v : Int32} (σ : zS) : KQ m f σ (zsi σ 598 m v) := ⟨zFr.si σ (Or.inl rfl), fun g _ hg => by rw [zi_si, if_neg (by omega)], rfl, fun _ _ _ _ => rfl⟩
theorem RQM.sf {σ : zS} {m sd a i : Nat} {C : zC} {s : zU} {v : Int32} (h : RQM σ m C sd s) (ha : inF m a) : RQM (zsa σ a i v) m C sd s := by
  have g : zFr (fun x => x = a) σ (zsa σ a i v) := zFr.sa σ rfl
  obtain ⟨hM, hV, h1, hU, h2, h3, h4⟩ := h
  unfold inF at ha
  exact ⟨hM.fr g, hV.fr g (by omega), h1, hU.fr g (by omega), h2, (g.ai (by omega) _).trans h3, (g.ai (by omega) _).trans h4⟩
theorem RQM.sd {σ : zS} {m sd : Nat} {C : zC} {s : zU} {v : Int32} (h : RQM σ m C sd s) : RQM (zsi σ 598 m v) m C sd s := by
  have g : zFr (fun x => x = m) σ (zsi σ 598 m v) := zFr.si σ rfl
  obtain ⟨hM, hV, h1, hU, h2, h3, h4⟩ := h
  exact ⟨hM.fr g, hV.fr g (by omega), by rw [zi_si, if_neg (by omega)]; exact h1, hU.fr g (by omega), by rw [zi_si, if_neg (by omega)]; exact h2, h3, h4⟩
/-- a frame is laid -/
def pshS (σ : zS) (m f : Nat) (x y : Int32) : zS := zsi (zsa (zsa (zsa σ (m + 8) f x) (m + 9) f y) (m + 16) f 0) 598 m (nI (f + 1))
theorem s_mPush {σ : zS} {m f : Nat} (hM : MS σ m) (hd : zi σ 598 m = nI f) (hf : f < 9) (x y : Int32) (d : Nat) : zEv (d + 1) mX11_push [.inr (.inl (some m)), .inl x, .inl y] σ = some (none, pshS σ m f x y) := by
  have b0 : vp_nar .boolean 0 = 0 := rfl
  rw [vX11_push]
  unfold fX11_push pshS
  simp only [zlt_e, onR_s, nul_s, nul_n, chk_e, bnI_s, bnR_s, bnV_s, zi_si, zi_sr, zi_sl, zi_sa, zi_sq, zr_si, zr_sr, zr_sl, zr_sa, zr_sq, zl_si, zl_sr, zl_sl, zl_sa, zl_sq, zai_si, zai_sr, zai_sl, zai_sa, zai_sq, zar_si, zar_sr, zar_sl, zar_sa, zar_sq, zkd_si, zkd_sr, zkd_sl, zkd_sa, zkd_sq, zln_si, zln_sr, zln_sl, zln_sa, zln_sq, znx_si, znx_sr, znx_sl, znx_sa, znx_sq, hM.k, hM.fl.1, hM.fl.2.1, hM.fl.2.2, hM.ft.1, hM.ft.2.1, hM.ft.2.2, hM.ib.1, hM.ib.2.1, hM.ib.2.2, if_true, hd, n_zin (show f < 2 ^ 31 by omega), n_tn (show f < 2 ^ 31 by omega), hf, and_self, b0, nI_1]
/-- a tile is used -/
def useS (σ : zS) (m k t : Nat) : zS := zsa (zsi σ 587 m (nI (t + 1))) (m + 6) k (nI (t + 1))
theorem s_mUse {σ : zS} {m l y t : Nat} (hM : MS σ m) (hd : zi σ 587 m = nI t) (hk : 64 * l + y < 512) (d : Nat) : zEv (d + 1) mX11_use [.inr (.inl (some m)), .inl (nI l), .inl (nI y)] σ = some (none, useS σ m (64 * l + y) t) := by
  have e64 : (64 : Int32) * nI l = nI (64 * l) := pk_mul 64 l
  rw [vX11_use]
  unfold fX11_use useS
  simp only [zlt_e, onR_s, nul_s, nul_n, chk_e, bnI_s, bnR_s, bnV_s, zi_si, zi_sr, zi_sl, zi_sa, zi_sq, zr_si, zr_sr, zr_sl, zr_sa, zr_sq, zl_si, zl_sr, zl_sl, zl_sa, zl_sq, zai_si, zai_sr, zai_sl, zai_sa, zai_sq, zar_si, zar_sr, zar_sl, zar_sa, zar_sq, zkd_si, zkd_sr, zkd_sl, zkd_sa, zkd_sq, zln_si, zln_sr, zln_sl, zln_sa, zln_sq, znx_si, znx_sr, znx_sl, znx_sa, znx_sq, hM.k, hM.u.1, hM.u.2.1, hM.u.2.2, if_true, hd, e64, nI_add, n_zin (show 64 * l + y < 2 ^ 31 by omega), n_tn (show 64 * l + y < 2 ^ 31 by omega), hk, and_self, nI_1]
/-- a frame is begun -/
def begS (σ : zS) (m f : Nat) (b : Int32) (c0 c1 r0 r1 : Nat) : zS := zsa (zsa (zsa (zsa (zsa (zsa (zsa σ (m + 16) f 1) (m + 10) f b) (m + 11) f (nI c0)) (m + 14) f (nI c0)) (m + 15) f (nI r0)) (m + 12) f (nI c1)) (m + 13) f (nI r1)
theorem s_begin {σ : zS} {m l c r f sd : Nat} {C : zC} {s : zU} (h : RQM σ m C sd s) (G : GC C) (hl : l < cN C) (hf : f < 9) (hs : 1 ≤ sd) (hs2 : sd ≤ 8) (hc : c < 8) (hr : r < 8) (hL : zai σ (m + 8) f = nI l) (hT : zai σ (m + 9) f = nI (8 * r + c)) (d : Nat) : zEv (d + 4) mX11_begin [.inr (.inl (some m)), .inl (nI f)] σ = some (none, begS σ m f (iI ((onB (cL C) l : Nat) - 1)) (tlo sd c (rch (cL C l))) (thi sd c (rch (cL C l)) (cW C)) (tlo sd r (rch (cL C l))) (thi sd r (rch (cL C l)) (cH C))) := by
  obtain ⟨hM, hV, vs, hU, h2, h3, h4⟩ := h
  have hn8 := G.2.2.1
  have hw := G.1
  have hh := G.2.1
  have hg := G.2.2.2.2 l hl
  have rr := rch_R hg
  have b1 : vp_nar .boolean 1 = 1 := rfl
  have t0 : (0 : Int32).toNatClampNeg = 0 := rfl
  have t1 : (1 : Int32).toNatClampNeg = 1 := rfl
  have z0 : zin 0 515 = True := eq_true (by decide)
  have z1 : zin 1 515 = True := eq_true (by decide)
  have e8 : ¬ ((8 : Int32) = 0) := by decide
  have hne : ¬ (nI sd = 0) := by
    have : (nI sd = (0 : Int32)) ↔ sd = 0 := n_eq (by omega) (by decide)
    rw [this]; omega
  have v0 : zai σ (m + 1) 0 = nI (cW C) := hV.1
  have v1 : zai σ (m + 1) 1 = nI (cH C) := hV.2.1
  have zf : zin (nI f) 9 = True := eq_true ((n_zin (by omega)).mpr hf)
  have tf : (nI f).toNatClampNeg = f := n_tn (by omega)
  have el : nI l - 1 = iI ((l : Int) - 1) := by rw [i_nI, show (1 : Int32) = iI 1 from rfl, i_sub]
  have ed : nI (8 * r + c) / 8 = nI r := by
    have : nI (8 * r + c) / nI 8 = nI ((8 * r + c) / 8) := n_div (by omega) (by decide) (by decide)
    rw [nL 8, this]
    congr 1
    omega
  have em : nI (8 * r + c) - nI r * 8 = nI c := by
    rw [nL 8, pk_mul, nI_sub (by omega)]
    congr 1
    omega
  have hcs : c * sd ≤ 7 * 8 := Nat.mul_le_mul (by omega) hs2
  have hrs : r * sd ≤ 7 * 8 := Nat.mul_le_mul (by omega) hs2
  have ea : ∀ x : Nat, nI (x * sd) + nI sd - 1 = nI (x * sd + sd - 1) := fun x => by rw [nI_add]; exact nI_sub (b := 1) (by omega)
  -- the frame is marked, the layer below is looked up
  have hF1 : zFr (fun x => x = m + 16) σ (zsa σ (m + 16) f 1) := zFr.sa σ rfl
  have eF := s_enabledFrom (hM.fr hF1) (hV.fr hF1 (by omega)) G d l (by omega)
  have hF2 : zFr (fun x => x = m + 16 ∨ x = m + 10) σ (zsa (zsa σ (m + 16) f 1) (m + 10) f (iI ((onB (cL C) l : Nat) - 1))) := (zFr.sa σ (Or.inl rfl)).tr (zFr.sa _ (Or.inr rfl))
  have eR := s_mreach (hM.fr hF2) (hV.fr hF2 (by omega)) hg hl hn8 (d + 1)
  rw [rr.2] at eR
  rw [vX11_begin]
  unfold fX11_begin
  have n1 : (m + 8 = m + 16) = False := eq_false (by omega)
  have n2 : (m + 8 = m + 10) = False := eq_false (by omega)
  have n3 : (m + 9 = m + 16) = False := eq_false (by omega)
  have n4 : (m + 9 = m + 10) = False := eq_false (by omega)
  have n5 : (m + 1 = m + 16) = False := eq_false (by omega)
  have n6 : (m + 1 = m + 10) = False := eq_false (by omega)
  simp only [zlt_e, onR_s, nul_s, nul_n, chk_e, bnI_s, bnR_s, bnV_s, zi_si, zi_sr, zi_sl, zi_sa, zi_sq, zr_si, zr_sr, zr_sl, zr_sa, zr_sq, zl_si, zl_sr, zl_sl, zl_sa, zl_sq, zai_si, zai_sr, zai_sl, zai_sa, zai_sq, zar_si, zar_sr, zar_sl, zar_sa, zar_sq, zkd_si, zkd_sr, zkd_sl, zkd_sa, zkd_sq, zln_si, zln_sr, zln_sl, zln_sa, zln_sq, znx_si, znx_sr, znx_sl, znx_sa, znx_sq, hM.k, hM.ib.1, hM.ib.2.1, hM.ib.2.2, hM.fl.1, hM.fl.2.1, hM.fl.2.2, hM.ft.1, hM.ft.2.1, hM.ft.2.2, hM.be.1, hM.be.2.1, hM.be.2.2, hM.s.1, hM.s.2.1, hM.s.2.2, if_true, zf, tf, z0, t0, and_self, b1, n1, n2, n3, n4, n5, n6, false_and, if_false, hL, el, eF, eR, hT, e8, ed, em, vs, pk_mul, ea, v0]
  refine (clipM (a := c * sd + sd - 1) (w := cW C) (by omega) (by omega) (by omega) (fun v => LX11_begin_133 (zEv (d + 3)) m _ _ _ _ _ _ _ _ v _)).trans ?_
  rw [uX11_begin_133]
  simp only [zlt_e, onR_s, nul_s, nul_n, chk_e, bnI_s, bnR_s, bnV_s, zi_si, zi_sr, zi_sl, zi_sa, zi_sq, zr_si, zr_sr, zr_sl, zr_sa, zr_sq, zl_si, zl_sr, zl_sl, zl_sa, zl_sq, zai_si, zai_sr, zai_sl, zai_sa, zai_sq, zar_si, zar_sr, zar_sl, zar_sa, zar_sq, zkd_si, zkd_sr, zkd_sl, zkd_sa, zkd_sq, zln_si, zln_sr, zln_sl, zln_sa, zln_sq, znx_si, znx_sr, znx_sl, znx_sa, znx_sq, hM.k, hM.s.1, hM.s.2.1, hM.s.2.2, if_true, z1, t1, and_self, n5, n6, false_and, if_false, v1, nI_add]
  refine (clipM (a := r * sd + sd - 1) (w := cH C) (by omega) (by omega) (by omega) (fun v => LX11_begin_161 (zEv (d + 3)) m _ _ _ _ _ _ _ _ v _)).trans ?_
  rw [uX11_begin_161]
  simp only [zlt_e, onR_s, nul_s, nul_n, chk_e, bnI_s, bnR_s, bnV_s, zi_si, zi_sr, zi_sl, zi_sa, zi_sq, zr_si, zr_sr, zr_sl, zr_sa, zr_sq, zl_si, zl_sr, zl_sl, zl_sa, zl_sq, zai_si, zai_sr, zai_sl, zai_sa, zai_sq, zar_si, zar_sr, zar_sl, zar_sa, zar_sq, zkd_si, zkd_sr, zkd_sl, zkd_sa, zkd_sq, zln_si, zln_sr, zln_sl, zln_sa, zln_sq, znx_si, znx_sr, znx_sl, znx_sa, znx_sq, hM.k, if_true, nI_add]
  refine (clipL (a := c * sd) (r := rch (cL C l)) (by omega) (by omega) (fun v => LX11_begin_181 (zEv (d + 3)) m _ _ _ _ _ _ _ _ _ _ v _)).trans ?_
  rw [uX11_begin_181]
  have d1 : nI (c * sd - rch (cL C l)) / nI sd = nI (tlo sd c (rch (cL C l))) := n_div (by omega) (by omega) (by omega)
  have d2 : nI (r * sd - rch (cL C l)) / nI sd = nI (tlo sd r (rch (cL C l))) := n_div (by omega) (by omega) (by omega)
  simp only [zlt_e, onR_s, nul_s, nul_n, chk_e, bnI_s, bnR_s, bnV_s, zi_si, zi_sr, zi_sl, zi_sa, zi_sq, zr_si, zr_sr, zr_sl, zr_sa, zr_sq, zl_si, zl_sr, zl_sl, zl_sa, zl_sq, zai_si, zai_sr, zai_sl, zai_sa, zai_sq, zar_si, zar_sr, zar_sl, zar_sa, zar_sq, zkd_si, zkd_sr, zkd_sl, zkd_sa, zkd_sq, zln_si, zln_sr, zln_sl, zln_sa, zln_sq, znx_si, znx_sr, znx_sl, znx_sa, znx_sq, hM.k, hM.fc.1, hM.fc.2.1, hM.fc.2.2, hM.nc.1, hM.nc.2.1, hM.nc.2.2, hM.nr.1, if_true, vs, hne, if_false, zf, tf, and_self, d1]
  refine (clipL (a := r * sd) (r := rch (cL C l)) (by omega) (by omega) (fun v => LX11_begin_215 (zEv (d + 3)) m _ _ _ _ _ _ _ _ _ _ v _)).trans ?_
  rw [uX11_begin_215]
  have p5 : (m + 1 = m + 15) = False := eq_false (by omega)
  have p4 : (m + 1 = m + 14) = False := eq_false (by omega)
  have p1 : (m + 1 = m + 11) = False := eq_false (by omega)
  have p2 : (m + 1 = m + 12) = False := eq_false (by omega)
  simp only [zlt_e, onR_s, nul_s, nul_n, chk_e, bnI_s, bnR_s, bnV_s, zi_si, zi_sr, zi_sl, zi_sa, zi_sq, zr_si, zr_sr, zr_sl, zr_sa, zr_sq, zl_si, zl_sr, zl_sl, zl_sa, zl_sq, zai_si, zai_sr, zai_sl, zai_sa, zai_sq, zar_si, zar_sr, zar_sl, zar_sa, zar_sq, zkd_si, zkd_sr, zkd_sl, zkd_sa, zkd_sq, zln_si, zln_sr, zln_sl, zln_sa, zln_sq, znx_si, znx_sr, znx_sl, znx_sa, znx_sq, hM.k, hM.nr.2.1, hM.nr.2.2, hM.s.1, hM.s.2.1, hM.s.2.2, hM.lc.1, if_true, vs, hne, if_false, zf, tf, z0, t0, and_self, d2, n5, n6, p1, p4, p5, false_and, v0]
  refine (clipM (a := min (c * sd + sd - 1) (cW C - 1) + rch (cL C l)) (w := cW C) (by omega) (by omega) (by omega) (fun v => LX11_begin_250 (zEv (d + 3)) m _ _ _ _ _ _ _ _ _ _ v _)).trans ?_
  rw [uX11_begin_250]
  have ec : min (min (c * sd + sd - 1) (cW C - 1) + rch (cL C l)) (cW C - 1) = min ((c + 1) * sd - 1 + rch (cL C l)) (cW C - 1) := by rw [Nat.succ_mul]; omega
  have er : min (min (r * sd + sd - 1) (cH C - 1) + rch (cL C l)) (cH C - 1) = min ((r + 1) * sd - 1 + rch (cL C l)) (cH C - 1) := by rw [Nat.succ_mul]; omega
  have d3 : nI (min ((c + 1) * sd - 1 + rch (cL C l)) (cW C - 1)) / nI sd = nI (thi sd c (rch (cL C l)) (cW C)) := n_div (by omega) (by omega) (by omega)
  have d4 : nI (min ((r + 1) * sd - 1 + rch (cL C l)) (cH C - 1)) / nI sd = nI (thi sd r (rch (cL C l)) (cH C)) := n_div (by omega) (by omega) (by omega)
  rw [ec]
  simp only [zlt_e, onR_s, nul_s, nul_n, chk_e, bnI_s, bnR_s, bnV_s, zi_si, zi_sr, zi_sl, zi_sa, zi_sq, zr_si, zr_sr, zr_sl, zr_sa, zr_sq, zl_si, zl_sr, zl_sl, zl_sa, zl_sq, zai_si, zai_sr, zai_sl, zai_sa, zai_sq, zar_si, zar_sr, zar_sl, zar_sa, zar_sq, zkd_si, zkd_sr, zkd_sl, zkd_sa, zkd_sq, zln_si, zln_sr, zln_sl, zln_sa, zln_sq, znx_si, znx_sr, znx_sl, znx_sa, znx_sq, hM.k, hM.lc.2.1, hM.lc.2.2, hM.lr.1, hM.lr.2.1, hM.lr.2.2, hM.s.1, hM.s.2.1, hM.s.2.2, if_true, vs, hne, if_false, zf, tf, z1, t1, and_self, d3, n5, n6, p1, p2, p4, p5, false_and, v1]
  refine (clipM (a := min (r * sd + sd - 1) (cH C - 1) + rch (cL C l)) (w := cH C) (by omega) (by omega) (by omega) (fun v => some (none, zsa _ (m + 13) f (v / nI sd)))).trans ?_
  rw [er, d4]
  rfl
