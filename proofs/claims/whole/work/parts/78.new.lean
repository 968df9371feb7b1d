/-! newImage -/
def imgC (C : zC) (w h : Nat) : zC := (w, h, cN C, pxNew, cL C)
theorem pxNew_R (w h : Nat) : pxR w h pxNew := fun x y _ _ => by unfold pxNew; omega
theorem GC.img {C : zC} (h : GC C) {w k : Nat} (hw : 4 ≤ w ∧ w ≤ 16) (hk : 4 ≤ k ∧ k ≤ 16) : GC (imgC C w k) := ⟨hw, hk, h.2.2.1, pxNew_R _ _, h.2.2.2.2⟩
def rNew (x y : Int32) : Int32 := if (4 ≤ x.toInt ∧ x.toInt ≤ 16) ∧ 4 ≤ y.toInt ∧ y.toInt ≤ 16 then x * y else -1001
def tNew (A : zW) (x y : Int32) : zW := if (4 ≤ x.toInt ∧ x.toInt ≤ 16) ∧ 4 ≤ y.toInt ∧ y.toInt ≤ 16 then aTil (aSet (aPush A) (imgC (aC A) x.toNatClampNeg y.toNatClampNeg)) (fun _ => 0) else A
theorem clamp16 {x : Int32} (h : 4 ≤ x.toInt ∧ x.toInt ≤ 16) : x = nI x.toNatClampNeg ∧ 4 ≤ x.toNatClampNeg ∧ x.toNatClampNeg ≤ 16 := by
  have e : x.toNatClampNeg = x.toInt.toNat := rfl
  exact ⟨n_of (by omega), by omega, by omega⟩
theorem GA.new {A : zW} {B : Nat} (hG : GA A B) (x y : Int32) : GA (tNew A x y) B := by
  unfold tNew
  split
  · next h =>
    have hx := clamp16 h.1
    have hy := clamp16 h.2
    exact (hG.push).anew (n := aHn (aPush A)) (hG.1.img hx.2 hy.2) (Nat.le_refl _)
  · exact hG
theorem c_newImage {σ : zS} {o B : Nat} {A : zW} {q u P : Nat → Nat} (hG : GA A B) (hB : B < 2 ^ 30) (hI : CIx σ o A q u P) (x y : Int32) (d : Nat) : zOC o (zEv (d + 20) mX10_newImage [.inr (.inl (some o)), .inl x, .inl y] σ) (rNew x y) (tNew A x y) σ := by
  have hO := hI.1.1
  have hn8 := hG.1.2.2.1
  have key : ∀ r, zOC o (some (some (.inl r), σ)) r A σ := fun r => zOC.same hI r
  have w1 : ((4 : Int32) ≤ x ∧ x ≤ 16) ↔ 4 ≤ x.toInt ∧ x.toInt ≤ 16 := w_in (a := 4) (b := 16) (by decide) (by decide) (by decide) (by decide)
  have w2 : ((4 : Int32) ≤ y ∧ y ≤ 16) ↔ 4 ≤ y.toInt ∧ y.toInt ≤ 16 := w_in (a := 4) (b := 16) (by decide) (by decide) (by decide) (by decide)
  rw [vX10_newImage]
  unfold fX10_newImage rNew tNew
  simp only [bnI_s, s_within, zb_0, w1, w2]
  by_cases hx : 4 ≤ x.toInt ∧ x.toInt ≤ 16
  · rw [if_neg (fun q => q hx)]
    by_cases hy : 4 ≤ y.toInt ∧ y.toInt ≤ 16
    · have hc : (4 ≤ x.toInt ∧ x.toInt ≤ 16) ∧ 4 ≤ y.toInt ∧ y.toInt ≤ 16 := ⟨hx, hy⟩
      rw [if_neg (fun q => q hy), if_pos hc, if_pos hc]
      obtain ⟨ex, bx⟩ := clamp16 hx
      obtain ⟨ey, by_⟩ := clamp16 hy
      generalize x.toNatClampNeg = w at *
      generalize y.toNatClampNeg = h at *
      subst ex
      subst ey
      obtain ⟨τ, u', k1, k2, k3⟩ := s_cpush hG hI (d + 13)
      have hO2 := k3.1.1
      obtain ⟨υ, l1, l2, l3⟩ := s_startAs (w := w) (h := h) hO2.c.2.2.2.1 bx.2 by_.2 (d + 17)
      have g : zFr (inNew o) τ υ := l2.mono (fun a ha => by unfold inP at ha; unfold inNew inC; omega)
      have hO3 := hO2.fr g
      have hU3 : TcU υ (o + 230) (aU A) := k3.1.2.2.2.2.1.fr g (by unfold inNew inC; omega) (by unfold inNew inC; omega)
      have hv3 : CmV υ (o + 1) q (imgC (aC A) w h) := ⟨l3, (l2.i (by unfold inP; omega) _).trans k3.1.2.2.1.2.1, fun i hi => by
        have hi : i < cN (aC A) := hi
        have hqi := (k3.1.2.1.1 i (by omega)).2
        exact (k3.1.2.2.1.2.2 i hi).fr l2 (fun a ha => by unfold inL at ha; unfold inP; omega)⟩
      obtain ⟨ω, m1, m2, m3, m4⟩ := s_removeAll hO3.tc hU3 (hG.u31 hB) (d + 15)
      have hn3 : zi υ 65 (o + 57) = nI (aHn (aPush A)) := (l2.i (by unfold inP; omega) _).trans k3.2.2.2.1.1
      simp only [zlt_e, onR_s, nul_s, nul_n, chk_e, bnI_s, bnR_s, bnV_s, zi_si, zi_sr, zi_sl, zi_sa, zi_sq, zr_si, zr_sr, zr_sl, zr_sa, zr_sq, zl_si, zl_sr, zl_sl, zl_sa, zl_sq, zai_si, zai_sr, zai_sl, zai_sa, zai_sq, zar_si, zar_sr, zar_sl, zar_sa, zar_sq, zkd_si, zkd_sr, zkd_sl, zkd_sa, zkd_sq, zln_si, zln_sr, zln_sl, zln_sa, zln_sq, znx_si, znx_sr, znx_sl, znx_sa, znx_sq, hO.f.1, hO.f.2.1, hO.f.2.2.2.1, hO.h.1, if_true, k1, hO2.f.1, hO2.f.2.1, hO2.c.1, hO2.c.2.1, hO2.c.2.2.2.1.1, l1, hO3.f.1, hO3.f.2.2.2.2.2.2.1, hO3.tc.1, m1]
      exact ⟨ω, q, u', P, rfl, k3.anew (hG.push) g m2 m4 m3 hv3 (hG.1.img bx by_) hn3 (Nat.le_refl _), (k2.mono (fun a ha => by unfold inH at ha; omega)).tr ((g.mono (fun a ha => by unfold inNew inC at ha; omega)).tr (m2.mono (fun a ha => by unfold inU at ha; omega)))⟩
    · rw [if_pos hy, if_neg (fun q => hy q.2), if_neg (fun q => hy q.2)]
      exact key _
  · rw [if_pos hx, if_neg (fun q => hx q.1), if_neg (fun q => hx q.1)]
    exact key _
theorem s_makeImage {σ : zS} {m w h : Nat} {C : zC} (hM : MS σ m) (hV : MV σ (m + 1) 0 C) (hn8 : cN C ≤ 8) (hw : 4 ≤ w ∧ w ≤ 16) (hh : 4 ≤ h ∧ h ≤ 16) (d : Nat) : ∃ τ, zEv (d + 2) mX11_makeImage [.inr (.inl (some m)), .inl (nI w), .inl (nI h)] σ = some (none, τ) ∧ zFr (fun x => x = m + 1) σ τ ∧ (∀ f x, zi τ f x = zi σ f x) ∧ MV τ (m + 1) 0 (imgC C w h) := by
  have hwh : h * w ≤ 256 := wh256 hw.2 hh.2
  have hwh1 : 1 ≤ h * w := Nat.mul_le_mul (show 1 ≤ h by omega) (show 1 ≤ w by omega)
  have t0 : (0 : Int32).toNatClampNeg = 0 := rfl
  have t1 : (1 : Int32).toNatClampNeg = 1 := rfl
  have z0 : zin 0 515 = True := eq_true (by decide)
  have z1 : zin 1 515 = True := eq_true (by decide)
  have en : ¬ (nI w = 0) := by
    have : (nI w = (0 : Int32)) ↔ w = 0 := n_eq (by omega) (by decide)
    rw [this]; omega
  have e256 : ¬ ((256 : Int32) = 0) := by decide
  rw [vX11_makeImage]
  unfold fX11_makeImage
  simp only [zlt_e, chk_e, onR_s, zkd_sa, zln_sa, zr_sa, hM.k, hM.s.1, hM.s.2.1, hM.s.2.2, z0, t0, z1, t1, and_self, if_true]
  have g0 : zFr (fun x => x = m + 1) σ (zsa (zsa σ (m + 1) 0 (nI w)) (m + 1) 1 (nI h)) := (zFr.sa (P := fun x => x = m + 1) _ rfl).tr (zFr.sa _ rfl)
  obtain ⟨τ, a1, a2⟩ := loop_from (fun k τ => LX11_makeImage_16 (zEv (d + 1)) m (nI w) (nI h) (nI k) τ) (fun k τ => zFr (fun x => x = m + 1) σ τ ∧ (∀ f x, zi τ f x = zi σ f x) ∧ (zai τ (m + 1) 0 = nI w ∧ zai τ (m + 1) 1 = nI h) ∧ (∀ p, 258 ≤ p → zai τ (m + 1) p = zai σ (m + 1) p) ∧ ∀ j, j < k → j < h * w → zai τ (m + 1) (2 + j) = iI (lin w pxNew j)) 0 256 (fun τ => some (none, τ)) (zsa (zsa σ (m + 1) 0 (nI w)) (m + 1) 1 (nI h)) (by decide) ⟨g0, fun _ _ => rfl, ⟨by rw [zai_sa, if_neg (by omega), zai_sa, if_pos ⟨rfl, rfl⟩], by rw [zai_sa, if_pos ⟨rfl, rfl⟩]⟩, fun p hp => by rw [zai_sa, if_neg (by omega), zai_sa, if_neg (by omega)], fun j hj => absurd hj (Nat.not_lt_zero _)⟩
    (fun k τ hk hI => by
      obtain ⟨g, gi, ⟨ga, gb⟩, gc, gd⟩ := hI
      have hM' := hM.fr g
      have ei : ((0 : Int32) ≤ nI k ∧ nI k ≤ nI (w * h) - 1) ↔ k < h * w := by
        rw [Nat.mul_comm w h, p_in (by omega) hwh1, n_zin (by omega)]
      have hkk : nI k < 256 := (n_lt (show k < 2 ^ 31 by omega) (show 256 < 2 ^ 31 by decide)).mpr hk
      have e2 : (2 : Int32) + nI k = nI (2 + k) := nI_add 2 k
      have fin : ∀ v, (k < h * w → v = iI (lin w pxNew k)) → (zFr (fun x => x = m + 1) σ (zsa τ (m + 1) (2 + k) v) ∧ (∀ f x, zi (zsa τ (m + 1) (2 + k) v) f x = zi σ f x) ∧ (zai (zsa τ (m + 1) (2 + k) v) (m + 1) 0 = nI w ∧ zai (zsa τ (m + 1) (2 + k) v) (m + 1) 1 = nI h) ∧ (∀ p, 258 ≤ p → zai (zsa τ (m + 1) (2 + k) v) (m + 1) p = zai σ (m + 1) p) ∧ ∀ j, j < k + 1 → j < h * w → zai (zsa τ (m + 1) (2 + k) v) (m + 1) (2 + j) = iI (lin w pxNew j)) := by
        intro v hv
        refine ⟨g.tr (zFr.sa _ rfl), gi, ⟨by rw [zai_sa, if_neg (by omega)]; exact ga, by rw [zai_sa, if_neg (by omega)]; exact gb⟩, fun p hp => by rw [zai_sa, if_neg (by omega)]; exact gc p hp, fun j hj hj2 => ?_⟩
        rw [zai_sa]
        by_cases e : j = k
        · rw [if_pos ⟨rfl, by omega⟩, e]
          exact hv (by omega)
        · rw [if_neg (by omega)]
          exact gd j (by omega) hj2
      by_cases hin : k < h * w
      · have hd : nI k / nI w = nI (k / w) := n_div (by omega) (by omega) (by omega)
        have hm := Nat.div_add_mod k w
        have hm2 : k / w * w + k % w = k := by rw [Nat.mul_comm]; exact hm
        have hmod : nI k - nI (k / w * w) = nI (k % w) := by rw [nI_sub (by omega)]; congr 1; omega
        have hkw : k % w < w := Nat.mod_lt _ (by omega)
        have hkd : k / w < 16 := by
          have := (Nat.div_lt_iff_lt_mul (show 0 < w by omega)).mpr hin
          omega
        have ev : 17 * nI (k % w) + 29 * nI (k / w) = nI (17 * (k % w) + 29 * (k / w)) := by
          rw [nL 17, nL 29, pk_mul, pk_mul, nI_add]
        have ev2 : nI (17 * (k % w) + 29 * (k / w)) - nI (17 * (k % w) + 29 * (k / w)) / 256 * 256 = iI (lin w pxNew k) := by
          have : nI (17 * (k % w) + 29 * (k / w)) / nI 256 = nI ((17 * (k % w) + 29 * (k / w)) / 256) := n_div (by omega) (by decide) (by decide)
          rw [show (256 : Int32) = nI 256 from rfl, this, pk_mul, nI_sub (by omega), i_nI]
          unfold lin pxNew
          congr 2
          omega
        refine ⟨zsa τ (m + 1) (2 + k) (iI (lin w pxNew k)), ?_, fin _ (fun _ => rfl)⟩
        show LX11_makeImage_16 _ _ _ _ _ _ = LX11_makeImage_16 _ _ _ _ _ _
        rw [uX11_makeImage_16, if_pos hkk]
        simp only [zlt_e, chk_e, onR_s, bnI_s, hM'.k, hM'.s.1, hM'.s.2.1, hM'.s.2.2, s_in, ei, zb_0, if_true, hin, not_true_eq_false, if_false, en, e256, e2, n_zin (show 2 + k < 2 ^ 31 by omega), n_tn (show 2 + k < 2 ^ 31 by omega), show 2 + k < 515 by omega, and_self, hd, pk_mul, hmod, nI_1]
        rw [ev, ev2]
      · refine ⟨zsa τ (m + 1) (2 + k) 0, ?_, fin _ (fun q => absurd q hin)⟩
        show LX11_makeImage_16 _ _ _ _ _ _ = LX11_makeImage_16 _ _ _ _ _ _
        rw [uX11_makeImage_16, if_pos hkk]
        simp only [zlt_e, chk_e, onR_s, bnI_s, hM'.k, hM'.s.1, hM'.s.2.1, hM'.s.2.2, s_in, ei, zb_0, if_true, hin, not_false_eq_true, e2, pk_mul, n_zin (show 2 + k < 2 ^ 31 by omega), n_tn (show 2 + k < 2 ^ 31 by omega), show 2 + k < 515 by omega, and_self, nI_1])
    (fun τ hI => by
      rw [uX11_makeImage_16, if_neg (by decide)])
  obtain ⟨g, gi, ⟨ga, gb⟩, gc, gd⟩ := a2
  refine ⟨τ, a1, g, gi, ga, gb, fun x y hx hy => ?_, ?_, fun i hi j hj => ?_⟩
  · have hx : x < w := hx
    have hy : y < h := hy
    have hlt : y * w + x < h * w := lin_ix hx hy
    show zai τ (m + 1) (0 + 2 + (y * w + x)) = iI (pxNew x y)
    rw [Nat.zero_add, gd _ (by omega) hlt, lin_at _ hx]
  · show zai τ (m + 1) (0 + 258) = nI (cN C)
    rw [gc _ (by omega)]
    exact hV.2.2.2.1
  · have hi : i < cN C := hi
    show zai τ (m + 1) (0 + 259 + 32 * i + j) = iI (cL C i j)
    rw [gc _ (by omega)]
    exact hV.2.2.2.2 i hi j hj
theorem m_newImage {σ : zS} {m B : Nat} {A : zW} (hG : GA A B) (hB : B < 2 ^ 30) (hI : MIx σ m A) (x y : Int32) (d : Nat) : zOM m (zEv (d + 20) mX11_newImage [.inr (.inl (some m)), .inl x, .inl y] σ) (rNew x y) (tNew A x y) σ := by
  have hI1 := hI.th
  have hn8 := hG.1.2.2.1
  have g0 : zFr (fun a => m ≤ a ∧ a < m + 22) σ (zsi σ 576 m 0) := zFr.si σ (by omega)
  have key : ∀ r, zOM m (some (some (.inl r), zsi σ 576 m 0)) r A σ := fun r => zOM.same hI r
  have w1 : ((4 : Int32) ≤ x ∧ x ≤ 16) ↔ 4 ≤ x.toInt ∧ x.toInt ≤ 16 := w_in (a := 4) (b := 16) (by decide) (by decide) (by decide) (by decide)
  have w2 : ((4 : Int32) ≤ y ∧ y ≤ 16) ↔ 4 ≤ y.toInt ∧ y.toInt ≤ 16 := w_in (a := 4) (b := 16) (by decide) (by decide) (by decide) (by decide)
  rw [vX11_newImage]
  unfold fX11_newImage rNew tNew
  simp only [zlt_e, chk_e, hI.1.k, if_true]
  generalize zsi σ 576 m 0 = σ1 at *
  simp only [bnI_s, s_in, zb_0, w1, w2]
  by_cases hx : 4 ≤ x.toInt ∧ x.toInt ≤ 16
  · rw [if_neg (fun q => q hx)]
    by_cases hy : 4 ≤ y.toInt ∧ y.toInt ≤ 16
    · have hc : (4 ≤ x.toInt ∧ x.toInt ≤ 16) ∧ 4 ≤ y.toInt ∧ y.toInt ≤ 16 := ⟨hx, hy⟩
      rw [if_neg (fun q => q hy), if_pos hc, if_pos hc]
      obtain ⟨ex, bx⟩ := clamp16 hx
      obtain ⟨ey, by_⟩ := clamp16 hy
      generalize x.toNatClampNeg = w at *
      generalize y.toNatClampNeg = h at *
      subst ex
      subst ey
      obtain ⟨τ, k1, k2, k3⟩ := s_mpush hG hI1 (d + 18)
      obtain ⟨υ, l1, l2, l3, l4⟩ := s_makeImage (w := w) (h := h) k2.1 k2.2.1 hn8 bx by_ (d + 17)
      have hI3 : MIx υ m (aSet (aPush A) (imgC (aC A) w h)) := k2.comp l2 (fun a _ _ => by omega) (fun f _ => l3 f m) l4
      obtain ⟨ω, n1, n2, n3⟩ := s_mall (A := aSet (aPush A) (imgC (aC A) w h)) (hG.u31 hB) hI3 (d + 17)
      simp only [hI1.1.k, if_true, k1, bnV_s, bnI_s, k2.1.k, l1, hI3.1.k, n1]
      exact ⟨ω, rfl, n2, (g0.tr (k3.mono (fun a ha => by omega))).tr ((l2.mono (fun a ha => by omega)).tr (n3.mono (fun a ha => by omega)))⟩
    · rw [if_pos hy, if_neg (fun q => hy q.2), if_neg (fun q => hy q.2)]
      exact key _
  · rw [if_pos hx, if_neg (fun q => hx q.1), if_neg (fun q => hx q.1)]
    exact key _
