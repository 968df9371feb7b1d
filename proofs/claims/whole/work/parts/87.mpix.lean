/-! pixel, prefetch: the reference -/
theorem RQM.of {σ : zS} {m : Nat} {A : zW} (h : MIx σ m A) : RQM σ m (aC A) (tSd (aT A)) (aU A, aT A) := ⟨h.1, h.2.1, h.2.2.2.2.2.2.1.1, h.2.2.2.1, h.2.2.2.2.2.2.1.2.2, h.2.2.2.2.2.2.2.1, h.2.2.2.2.2.2.2.2.1⟩
theorem KQ.m {m f : Nat} {σ τ : zS} (k : KQ m f σ τ) : zFr (fun a => m ≤ a ∧ a < m + 22) σ τ := k.1.mono (fun a ha => by unfold inQ at ha; omega)
/-- a request as a whole -/
theorem s_mrequest {σ : zS} {m sd n c r : Nat} {C : zC} {s : zU} (G : GC C) (hs : 1 ≤ sd) (hs2 : sd ≤ 8) (hW8 : (cW C - 1) / sd < 8) (hH8 : (cH C - 1) / sd < 8) (hn : n ≤ cN C) (h : RQM σ m C sd s) (hc : c ≤ (cW C - 1) / sd) (hr : r ≤ (cH C - 1) / sd) (hP : potU s + 65 * n + 100 < 2 ^ 30) (huB : ∀ k, k < 512 → s.1 k ≤ tCk s.2) (d : Nat) : ∃ τ, zEv (d + 10) mX11_request [.inr (.inl (some m)), .inl (iI ((n : Int) - 1)), .inl (nI (8 * r + c))] σ = some (none, τ) ∧ KQ m 0 σ τ ∧ RQM τ m C sd (reqT C sd n c r s) := by
  have hM := h.1
  have hn8 := G.2.2.1
  have hon := onB_le (cL C) n
  have exit_ : ∀ (υ : zS) (z1 z2 z3 z : zV), MS υ m → zi υ 598 m = nI 0 → L21 d m z1 z2 z3 z υ = some (none, υ) := fun υ z1 z2 z3 z hM hd => by
    show LX11_request_21 _ _ _ _ _ _ _ = _
    rw [uX11_request_21]
    have : zi υ 598 m ≤ 0 := by rw [hd]; decide
    simp only [chk_e, hM.k, if_true, this]
  have hR0 : RQM (zsi σ 598 m 0) m C sd s := h.sd
  have hK0 : KQ m 0 σ (zsi σ 598 m 0) := KQ.sd σ
  have hd0 : zi (zsi σ 598 m 0) 598 m = nI 0 := by rw [zi_si, if_pos ⟨rfl, rfl⟩]; rfl
  rw [req_onB, vX11_request]
  unfold fX11_request
  simp only [zlt_e, onR_s, nul_s, nul_n, chk_e, bnI_s, bnR_s, bnV_s, zi_si, zi_sr, zi_sl, zi_sa, zi_sq, zr_si, zr_sr, zr_sl, zr_sa, zr_sq, zl_si, zl_sr, zl_sl, zl_sa, zl_sq, zai_si, zai_sr, zai_sl, zai_sa, zai_sq, zar_si, zar_sr, zar_sl, zar_sa, zar_sq, zkd_si, zkd_sr, zkd_sl, zkd_sa, zkd_sq, zln_si, zln_sr, zln_sl, zln_sa, zln_sq, znx_si, znx_sr, znx_sl, znx_sa, znx_sq, hM.k, if_true, s_enabledFrom hM h.2.1 G (d + 6) n hn]
  cases hb : onB (cL C) n with
  | zero =>
    rw [if_pos (by decide)]
    exact ⟨_, exit_ _ _ _ _ _ hR0.1 hd0, hK0, hR0⟩
  | succ b =>
    have e : iI (((b + 1 : Nat) : Int) - 1) = nI b := by rw [i_nI]; congr 1; omega
    have hneg : ¬ (nI b < 0) := by
      have : (nI b < (0 : Int32)) ↔ b < 0 := n_lt (by omega) (by decide)
      rw [this]; omega
    have ep := s_mPush hR0.1 hd0 (by decide) (nI b) (nI (8 * r + c)) (d + 8)
    have hRp : RQM (pshS (zsi σ 598 m 0) m 0 (nI b) (nI (8 * r + c))) m C sd s := (((hR0.sf (a := m + 8) (by unfold inF; omega)).sf (a := m + 9) (by unfold inF; omega)).sf (a := m + 16) (by unfold inF; omega)).sd
    have hKp : KQ m 0 (zsi σ 598 m 0) (pshS (zsi σ 598 m 0) m 0 (nI b) (nI (8 * r + c))) := (((KQ.sf (f := 0) (a := m + 8) _ (by unfold inF; omega) (Nat.le_refl 0)).tr (KQ.sf (f := 0) (a := m + 9) _ (by unfold inF; omega) (Nat.le_refl 0)) (Nat.le_refl _)).tr (KQ.sf (f := 0) (a := m + 16) _ (by unfold inF; omega) (Nat.le_refl 0)) (Nat.le_refl _)).tr (KQ.sd (f := 0) _) (Nat.le_refl _)
    have q8 : zai (pshS (zsi σ 598 m 0) m 0 (nI b) (nI (8 * r + c))) (m + 8) 0 = nI b := by
      show zai (zsa (zsa (zsa (zsi σ 598 m 0) (m + 8) 0 _) (m + 9) 0 _) (m + 16) 0 0) (m + 8) 0 = _
      rw [zai_sa, if_neg (by omega), zai_sa, if_neg (by omega), zai_sa, if_pos ⟨rfl, rfl⟩]
    have q9 : zai (pshS (zsi σ 598 m 0) m 0 (nI b) (nI (8 * r + c))) (m + 9) 0 = nI (8 * r + c) := by
      show zai (zsa (zsa (zsa (zsi σ 598 m 0) (m + 8) 0 _) (m + 9) 0 _) (m + 16) 0 0) (m + 9) 0 = _
      rw [zai_sa, if_neg (by omega), zai_sa, if_pos ⟨rfl, rfl⟩]
    have q16 : zai (pshS (zsi σ 598 m 0) m 0 (nI b) (nI (8 * r + c))) (m + 16) 0 = 0 := by
      show zai (zsa (zsa (zsa (zsi σ 598 m 0) (m + 8) 0 _) (m + 9) 0 _) (m + 16) 0 0) (m + 16) 0 = _
      rw [zai_sa, if_pos ⟨rfl, rfl⟩]
    have qd : zi (pshS (zsi σ 598 m 0) m 0 (nI b) (nI (8 * r + c))) 598 m = nI (0 + 1) := by
      unfold pshS
      rw [zi_si, if_pos ⟨rfl, rfl⟩]
    have main : ∀ z1 z2 z3 z, ∃ τ, L21 d m z1 z2 z3 z (pshS (zsi σ 598 m 0) m 0 (nI b) (nI (8 * r + c))) = some (none, τ) ∧ KQ m 0 σ τ ∧ RQM τ m C sd (reqT C sd (b + 1) c r s) := fun z1 z2 z3 z => by
      obtain ⟨τ, z', h1, h2, h3, h4⟩ := s_mreq G hs hs2 hW8 hH8 z1 z2 z3 d b (by omega) _ s c r 0 z (onB_on (cL C) n b hb) hRp hc hr (by omega) qd q8 q9 q16 (by omega) huB
      exact ⟨τ, h1.trans (exit_ _ _ _ _ _ h3.1 h4), (hK0.tr hKp (Nat.le_refl _)).tr h2 (Nat.le_refl _), h3⟩
    rw [e, if_neg hneg]
    have k0 : zkd (zsi σ 598 m 0) m = 9 := hM.k
    simp only [ep, bnV_s]
    exact main _ _ _ _
theorem m_pixel {σ : zS} {m B : Nat} {A : zW} (hG : GA A B) (hL : LG A) (hB : B < 2 ^ 29) (hI : MIx σ m A) (x i j : Int32) (d : Nat) : zOM m (zEv (d + 30) mX11_pixel [.inr (.inl (some m)), .inl x, .inl i, .inl j] σ) (rPx A x i j) (tPx A x i j) σ := by
  have hI1 := hI.th
  have hn8 := hG.1.2.2.1
  have hw := hG.1.1
  have hh := hG.1.2.1
  have hs := hG.2.2.2.2.1
  have g0 : zFr (fun a => m ≤ a ∧ a < m + 22) σ (zsi σ 576 m 0) := zFr.si σ (by omega)
  have key : ∀ r, zOM m (some (some (.inl r), zsi σ 576 m 0)) r A σ := fun r => zOM.same hI r
  have w1 : x = (-1) ↔ x.toInt = -1 := by
    rw [show (-1 : Int32) = iI (-1) from rfl, ← Int32.toInt_inj, i_toInt (by decide) (by decide)]
  rw [vX11_pixel]
  unfold fX11_pixel rPx tPx
  simp only [zlt_e, chk_e, hI.1.k, if_true]
  generalize zsi σ 576 m 0 = σ1 at *
  -- the layer is a number of an output
  have main : (-1 ≤ x.toInt ∧ x.toInt < cN (aC A)) → zOM m (LX11_pixel_18 (zEv (d + 29)) m x i j σ1) (if (-1 ≤ x.toInt ∧ x.toInt < cN (aC A)) ∧ zin i (cW (aC A)) ∧ zin j (cH (aC A)) then iI (outI (aC A) (x.toInt + 1).toNat i.toNatClampNeg j.toNatClampNeg) else -1001) (if (-1 ≤ x.toInt ∧ x.toInt < cN (aC A)) ∧ zin i (cW (aC A)) ∧ zin j (cH (aC A)) then aDrop (aCac A (sPx A (x.toInt + 1).toNat i.toNatClampNeg j.toNatClampNeg)) (sPx A (x.toInt + 1).toNat i.toNatClampNeg j.toNatClampNeg).2 else A) σ := by
    intro hx
    rw [uX11_pixel_18]
    simp only [chk_e, bnI_s, hI1.1.k, if_true, s_misPixel hI1.1 hI1.2.1 (show 1 ≤ cW (aC A) ∧ cW (aC A) ≤ 16 by omega) (show 1 ≤ cH (aC A) ∧ cH (aC A) ≤ 16 by omega), zb_0]
    by_cases hij : zin i (cW (aC A)) ∧ zin j (cH (aC A))
    · have hc : (-1 ≤ x.toInt ∧ x.toInt < cN (aC A)) ∧ zin i (cW (aC A)) ∧ zin j (cH (aC A)) := ⟨hx, hij⟩
      rw [if_neg (fun q => q hij), if_pos hc, if_pos hc]
      obtain ⟨k, ex, hk, ek⟩ := hOut_n hx
      rw [ek]
      obtain ⟨ei, hi⟩ := zin_n hij.1
      obtain ⟨ej, hj⟩ := zin_n hij.2
      generalize i.toNatClampNeg = i' at *
      generalize j.toNatClampNeg = j' at *
      subst ei
      subst ej
      rw [ex]
      have hp := outI_R hG.1 k hk
      by_cases hk0 : k = 0
      · -- the base image
        subst hk0
        have eT : aDrop (aCac A (sPx A 0 i' j')) (sPx A 0 i' j').2 = A := by
          show aDrop A (aT A) = A
          unfold aDrop
          have : cnt (aU A) 512 - tLm (aT A) = 0 := by unfold LG at hL; omega
          rw [this]
          rfl
        rw [eT]
        obtain ⟨τ, h1, h2, h3, h4⟩ := s_compute (k := 0) hI1.1 hI1.2.1 hG.1 (Nat.zero_le _) (d + 23)
        have hI2 := hI1.cmp h2 h3
        have neg : (iI (((0 : Nat) : Int) - 1)) < 0 := by decide
        simp only [neg, if_true, h1, bnI_s, zlt_e, hI2.1.k, s_inputAt hI2.1 hI2.2.1 hw.2 hh.2 (show 0 ≤ 8 by decide) h4 hi hj]
        exact ⟨τ, rfl, hI2, g0.tr (h2.mono (fun a ha => by unfold inM at ha; omega))⟩
      · have vs : zi σ1 584 m = nI (tSd (aT A)) := hI1.2.2.2.2.2.2.1.1
        have hne : ¬ (nI (tSd (aT A)) = 0) := by
          have : (nI (tSd (aT A)) = (0 : Int32)) ↔ tSd (aT A) = 0 := n_eq (by omega) (by decide)
          rw [this]; omega
        have neg : ¬ ((iI ((k : Int) - 1)) < 0) := by
          rw [show (0 : Int32) = iI 0 from rfl, i_lt (by omega) (by omega) (by decide) (by decide)]
          omega
        have dx : nI i' / nI (tSd (aT A)) = nI (i' / tSd (aT A)) := n_div (by omega) (by omega) (by omega)
        have dy : nI j' / nI (tSd (aT A)) = nI (j' / tSd (aT A)) := n_div (by omega) (by omega) (by omega)
        have e8 : (8 : Int32) * nI (j' / tSd (aT A)) + nI (i' / tSd (aT A)) = nI (8 * (j' / tSd (aT A)) + i' / tSd (aT A)) := by rw [nL 8, pk_mul, nI_add]
        have hpot := pot_B hG
        have hcx : i' / tSd (aT A) ≤ (cW (aC A) - 1) / tSd (aT A) := Nat.div_le_div_right (by omega)
        have hcy : j' / tSd (aT A) ≤ (cH (aC A) - 1) / tSd (aT A) := Nat.div_le_div_right (by omega)
        obtain ⟨τ, k1, k2, k3⟩ := s_mrequest hG.1 (show 1 ≤ tSd (aT A) by omega) hs.2 (div8 hw.2 hs.1) (div8 hh.2 hs.1) hk (RQM.of hI1) hcx hcy (by omega) hG.2.2.2.2.2.2.1 (d + 19)
        have rq := rq_sPx hG hk hi hj
        have hI2 : MIx τ m (aCac A (sPx A k i' j')) := hI1.req k2 k3 rq.1.1 rq.1.2.1 rq.1.2.2
        have hG2 := hG.req hk (show 1 ≤ 64 by decide) rq
        obtain ⟨υ, n, n1, n2, n3⟩ := s_mdrop hG2 (by omega) hI2 (d + 27)
        obtain ⟨ω, h1, h2, h3, h4⟩ := s_compute (C := aC A) (k := k) n2.1 n2.2.1 hG.1 hk (d + 23)
        have hI3 := n2.cmp h2 h3
        simp only [neg, if_false, vs, hne, dx, dy, e8, k1, bnV_s, hI2.1.k, if_true, n1, bnI_s, n2.1.k, h1, zlt_e, hI3.1.k]
        have ei := s_inputAt (C := aC A) hI3.1 hI3.2.1 hw.2 hh.2 (show k ≤ 8 by omega) h4 hi hj (d + 28)
        simp only [ei, bnI_s]
        exact ⟨ω, rfl, hI3, (g0.tr k2.m).tr ((n3.mono (fun a ha => by omega)).tr (h2.mono (fun a ha => by unfold inM at ha; omega)))⟩
    · rw [if_pos hij, if_neg (fun q => hij q.2), if_neg (fun q => hij q.2)]
      exact key _
  simp only [w1]
  by_cases hx1 : x.toInt = -1
  · rw [if_pos hx1]
    exact main (by omega)
  · rw [if_neg hx1]
    simp only [chk_e, bnI_s, hI1.1.k, if_true, s_misLayer hI1.1 hI1.2.1 hn8, zb_0]
    by_cases hz : zin x (cN (aC A))
    · rw [if_neg (fun q => q hz)]
      exact main (by have := hz.1; have := hz.2; omega)
    · rw [if_pos hz, if_neg (fun q => hz ⟨by have := q.1.1; omega, q.1.2⟩), if_neg (fun q => hz ⟨by have := q.1.1; omega, q.1.2⟩)]
      exact key _
theorem m_prefetch {σ : zS} {m B : Nat} {A : zW} (hG : GA A B) (hB : B < 2 ^ 29) (hI : MIx σ m A) (x : Int32) (d : Nat) : zOM m (zEv (d + 30) mX11_prefetch [.inr (.inl (some m)), .inl x] σ) (rPre A x) (tPre A x) σ := by
  have hI1 := hI.th
  have hn8 := hG.1.2.2.1
  have hw := hG.1.1
  have hh := hG.1.2.1
  have hs := hG.2.2.2.2.1
  have g0 : zFr (fun a => m ≤ a ∧ a < m + 22) σ (zsi σ 576 m 0) := zFr.si σ (by omega)
  have key : ∀ r, zOM m (some (some (.inl r), zsi σ 576 m 0)) r A σ := fun r => zOM.same hI r
  have t0 : (0 : Int32).toNatClampNeg = 0 := rfl
  have z0 : zin 0 3 = True := eq_true (by decide)
  rw [vX11_prefetch]
  unfold fX11_prefetch rPre tPre
  simp only [zlt_e, chk_e, hI.1.k, if_true]
  generalize zsi σ 576 m 0 = σ1 at *
  simp only [zlt_e, chk_e, bnI_s, hI1.1.k, if_true, s_misLayer hI1.1 hI1.2.1 hn8, zb_0]
  by_cases hx : zin x (cN (aC A))
  · obtain ⟨ex, hk⟩ := zin_n hx
    generalize x.toNatClampNeg = k at *
    subst ex
    rw [if_neg (fun q => q hx), if_pos hx, if_pos hx]
    have hp := pot_B hG
    have d8x := div8 hw.2 hs.1
    have d8y := div8 hh.2 hs.1
    have ek : iI (((k + 1 : Nat) : Int) - 1) = nI k := by rw [i_nI]; congr 1; omega
    have v0 : zai σ1 (m + 7) 0 = nI (tCp (aT A)) := hI1.2.2.2.2.2.2.2.1
    simp only [onR_s, hI1.1.ct.1, hI1.1.ct.2.1, hI1.1.ct.2.2, z0, t0, and_self, if_true, v0]
    obtain ⟨⟨υ, zz⟩, h1, h2⟩ := grid (fun j (s : zS × zV) => LX11_prefetch_26 (zEv (d + 29)) m (nI k) (nI (tCp (aT A))) (nI j) s.2 s.1) (fun j i s => LX11_prefetch_37 (zEv (d + 29)) m (nI k) (nI (tCp (aT A))) (nI j) (nI i) s.1)
      (fun j i s => KQ m 0 σ1 s.1 ∧ RQM s.1 m (aC A) (tSd (aT A)) (stP A k j i)) ((cW (aC A) - 1) / tSd (aT A) + 1) ((cH (aC A) - 1) / tSd (aT A) + 1) (fun s => LX11_prefetch_26 (zEv (d + 29)) m (nI k) (nI (tCp (aT A))) (nI ((cH (aC A) - 1) / tSd (aT A) + 1)) s.2 s.1) (σ1, .inr (.inr 0)) ⟨KQ.rf σ1, RQM.of hI1⟩
      (fun j s hj hIj => ⟨s, by
        obtain ⟨g, gR⟩ := hIj
        have rq := rq_stP hG hk (show j ≤ _ by omega) (Nat.zero_le _) (Or.inl hj)
        have hI' := hI1.req g gR rq.1.1 rq.1.2.1 rq.1.2.2
        have hG' := hG.req (show k + 1 ≤ cN (aC A) by omega) (Nat.le_refl 64) rq
        have er := s_mrows hG' hI' (d + 28)
        have e : tSd (aT (aCac A (stP A k j 0))) = tSd (aT A) := rq.1.1
        rw [e] at er
        have er : zEv (d + 29) mX11_rows [.inr (.inl (some m))] s.1 = some (some (.inl (nI ((cH (aC A) - 1) / tSd (aT A) + 1))), s.1) := er
        show LX11_prefetch_26 _ _ _ _ _ _ _ = LX11_prefetch_37 _ _ _ _ _ _ _
        rw [uX11_prefetch_26]
        simp only [zlt_e, onR_s, nul_s, nul_n, chk_e, bnI_s, bnR_s, bnV_s, zi_si, zi_sr, zi_sl, zi_sa, zi_sq, zr_si, zr_sr, zr_sl, zr_sa, zr_sq, zl_si, zl_sr, zl_sl, zl_sa, zl_sq, zai_si, zai_sr, zai_sl, zai_sa, zai_sq, zar_si, zar_sr, zar_sl, zar_sa, zar_sq, zkd_si, zkd_sr, zkd_sl, zkd_sa, zkd_sq, zln_si, zln_sr, zln_sl, zln_sa, zln_sq, znx_si, znx_sr, znx_sl, znx_sa, znx_sq, gR.1.k, if_true, er, n_lt (show j < 2 ^ 31 by omega) (show (cH (aC A) - 1) / tSd (aT A) + 1 < 2 ^ 31 by omega), hj]
        rfl, hIj⟩)
      (fun j i s hj hi hIj => by
        obtain ⟨g, gR⟩ := hIj
        have rq := rq_stP hG hk (show j ≤ _ by omega) (show i ≤ _ by omega) (Or.inl hj)
        have hI' := hI1.req g gR rq.1.1 rq.1.2.1 rq.1.2.2
        have hG' := hG.req (show k + 1 ≤ cN (aC A) by omega) (Nat.le_refl 64) rq
        have ec := s_mcolumns hG' hI' (d + 28)
        have e : tSd (aT (aCac A (stP A k j i))) = tSd (aT A) := rq.1.1
        rw [e] at ec
        have ec : zEv (d + 29) mX11_columns [.inr (.inl (some m))] s.1 = some (some (.inl (nI ((cW (aC A) - 1) / tSd (aT A) + 1))), s.1) := ec
        have rp := rq.2.2.2.2.1
        obtain ⟨τ, k1, k2, k3⟩ := s_mrequest hG.1 (show 1 ≤ tSd (aT A) by omega) hs.2 d8x d8y (show k + 1 ≤ cN (aC A) by omega) gR (show i ≤ _ by omega) (show j ≤ _ by omega) (by omega) (rq.2.2.2.1 hG.2.2.2.2.2.2.1) (d + 19)
        rw [ek] at k1
        have e8 : (8 : Int32) * nI j + nI i = nI (8 * j + i) := by rw [nL 8, pk_mul, nI_add]
        refine ⟨(τ, s.2), ?_, g.tr k2 (Nat.le_refl _), ?_⟩
        · show LX11_prefetch_37 _ _ _ _ _ _ _ = LX11_prefetch_37 _ _ _ _ _ _ _
          rw [uX11_prefetch_37]
          simp only [zlt_e, onR_s, nul_s, nul_n, chk_e, bnI_s, bnR_s, bnV_s, zi_si, zi_sr, zi_sl, zi_sa, zi_sq, zr_si, zr_sr, zr_sl, zr_sa, zr_sq, zl_si, zl_sr, zl_sl, zl_sa, zl_sq, zai_si, zai_sr, zai_sl, zai_sa, zai_sq, zar_si, zar_sr, zar_sl, zar_sa, zar_sq, zkd_si, zkd_sr, zkd_sl, zkd_sa, zkd_sq, zln_si, zln_sr, zln_sl, zln_sa, zln_sq, znx_si, znx_sr, znx_sl, znx_sa, znx_sq, gR.1.k, if_true, ec, n_lt (show i < 2 ^ 31 by omega) (show (cW (aC A) - 1) / tSd (aT A) + 1 < 2 ^ 31 by omega), hi, e8, k1, nI_1]
        · have e : stP A k j (i + 1) = reqT (aC A) (tSd (aT A)) (k + 1) i j (stP A k j i) := by
            show reqT (aC A) (tSd (aT A)) (k + 1) (0 + i) (0 + j) (stP A k j i) = _
            rw [Nat.zero_add, Nat.zero_add]
          rw [e]
          exact k3)
      (fun j s hj hIj => ⟨(s.1, .inl (nI ((cW (aC A) - 1) / tSd (aT A) + 1))), by
        obtain ⟨g, gR⟩ := hIj
        have rq := rq_stP hG hk (show j ≤ _ by omega) (Nat.le_refl _) (Or.inl hj)
        have hI' := hI1.req g gR rq.1.1 rq.1.2.1 rq.1.2.2
        have hG' := hG.req (show k + 1 ≤ cN (aC A) by omega) (Nat.le_refl 64) rq
        have ec := s_mcolumns hG' hI' (d + 28)
        have e : tSd (aT (aCac A (stP A k j ((cW (aC A) - 1) / tSd (aT A) + 1)))) = tSd (aT A) := rq.1.1
        rw [e] at ec
        have ec : zEv (d + 29) mX11_columns [.inr (.inl (some m))] s.1 = some (some (.inl (nI ((cW (aC A) - 1) / tSd (aT A) + 1))), s.1) := ec
        show LX11_prefetch_37 _ _ _ _ _ _ _ = LX11_prefetch_26 _ _ _ _ _ _ _
        rw [uX11_prefetch_37]
        simp only [zlt_e, onR_s, nul_s, nul_n, chk_e, bnI_s, bnR_s, bnV_s, zi_si, zi_sr, zi_sl, zi_sa, zi_sq, zr_si, zr_sr, zr_sl, zr_sa, zr_sq, zl_si, zl_sr, zl_sl, zl_sa, zl_sq, zai_si, zai_sr, zai_sl, zai_sa, zai_sq, zar_si, zar_sr, zar_sl, zar_sa, zar_sq, zkd_si, zkd_sr, zkd_sl, zkd_sa, zkd_sq, zln_si, zln_sr, zln_sl, zln_sa, zln_sq, znx_si, znx_sr, znx_sl, znx_sa, znx_sq, gR.1.k, if_true, ec, n_lt (show (cW (aC A) - 1) / tSd (aT A) + 1 < 2 ^ 31 by omega) (show (cW (aC A) - 1) / tSd (aT A) + 1 < 2 ^ 31 by omega), Nat.lt_irrefl, if_false, nI_1], hIj⟩)
      (fun s hIj => rfl)
    have h1 : LX11_prefetch_26 (zEv (d + 29)) m (nI k) (nI (tCp (aT A))) 0 (.inr (.inr 0)) σ1 = _ := h1
    obtain ⟨g, gR⟩ := h2
    have gR : RQM υ m (aC A) (tSd (aT A)) (sPre A k) := gR
    have rq := rq_sPre hG hk
    have hI' := hI1.req g gR rq.1.1 rq.1.2.1 rq.1.2.2
    have hG' := hG.req (show k + 1 ≤ cN (aC A) by omega) (Nat.le_refl 64) rq
    have er := s_mrows hG' hI' (d + 28)
    have e : tSd (aT (aCac A (sPre A k))) = tSd (aT A) := rq.1.1
    rw [e] at er
    have er : zEv (d + 29) mX11_rows [.inr (.inl (some m))] υ = some (some (.inl (nI ((cH (aC A) - 1) / tSd (aT A) + 1))), υ) := er
    obtain ⟨ω, n, n1, n2, n3⟩ := s_mdrop hG' (by omega) hI' (d + 27)
    have vω : zai ω (m + 7) 0 = nI (tCp (sPre A k).2) := n2.2.2.2.2.2.2.2.1
    rw [h1, uX11_prefetch_26]
    simp only [zlt_e, onR_s, nul_s, nul_n, chk_e, bnI_s, bnR_s, bnV_s, zi_si, zi_sr, zi_sl, zi_sa, zi_sq, zr_si, zr_sr, zr_sl, zr_sa, zr_sq, zl_si, zl_sr, zl_sl, zl_sa, zl_sq, zai_si, zai_sr, zai_sl, zai_sa, zai_sq, zar_si, zar_sr, zar_sl, zar_sa, zar_sq, zkd_si, zkd_sr, zkd_sl, zkd_sa, zkd_sq, zln_si, zln_sr, zln_sl, zln_sa, zln_sq, znx_si, znx_sr, znx_sl, znx_sa, znx_sq, gR.1.k, if_true, er, n_lt (show (cH (aC A) - 1) / tSd (aT A) + 1 < 2 ^ 31 by omega) (show (cH (aC A) - 1) / tSd (aT A) + 1 < 2 ^ 31 by omega), Nat.lt_irrefl, if_false, n1, n2.1.k, n2.1.ct.1, n2.1.ct.2.1, n2.1.ct.2.2, z0, t0, and_self, vω]
    exact ⟨ω, rfl, n2, (g0.tr g.m).tr (n3.mono (fun a ha => by omega))⟩
  · rw [if_pos hx, if_neg hx, if_neg hx]
    exact key _
