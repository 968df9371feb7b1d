/-! new objects -/
def mkA (σ : zS) (f p c n : Nat) : zS := zsr (zna σ c n) f p (some (znx σ))
theorem mkA_nx (σ : zS) (f p c n : Nat) : znx (mkA σ f p c n) = znx σ + 1 := rfl
theorem mkA_i (σ : zS) (f p c n g a : Nat) : zi (mkA σ f p c n) g a = zi σ g a := rfl
theorem mkA_eq {P : Nat → Prop} (σ : zS) {f p c n : Nat} (hf : f < 640) (h : ¬ P (znx σ)) (h2 : ¬ P p) : zEq P σ (mkA σ f p c n) := (zEq.na σ c n h).tr (zEq.sr _ hf h2)
theorem mkA_r (σ : zS) (f p c n g a : Nat) : zr (mkA σ f p c n) g a = if g = f ∧ a = p then some (znx σ) else zr σ g a := rfl
theorem mkA_kd {σ : zS} {f p c n a : Nat} (h : a ≠ znx σ) : zkd (mkA σ f p c n) a = zkd σ a := by
  show va_up (zkd σ) (znx σ) c a = _
  unfold va_up
  rw [if_neg h]
theorem mkA_ln {σ : zS} {f p c n a : Nat} (h : a ≠ znx σ) : zln (mkA σ f p c n) a = zln σ a := by
  show va_up (zln σ) (znx σ) n a = _
  unfold va_up
  rw [if_neg h]
theorem mkA_kd' (σ : zS) (f p c n : Nat) : zkd (mkA σ f p c n) (znx σ) = c := kd_na σ c n
theorem mkA_ln' (σ : zS) (f p c n : Nat) : zln (mkA σ f p c n) (znx σ) = n := ln_na σ c n
theorem mkA_ai (σ : zS) (f p c n i : Nat) : zai (mkA σ f p c n) (znx σ) i = 0 := ai_na σ c n i
theorem mkA_ar (σ : zS) (f p c n i : Nat) : zar (mkA σ f p c n) (znx σ) i = none := ar_na σ c n i
theorem na_kd {σ : zS} {c n a : Nat} (h : a ≠ znx σ) : zkd (zna σ c n) a = zkd σ a := by
  show va_up (zkd σ) (znx σ) c a = _
  unfold va_up
  rw [if_neg h]
theorem s_i6 {σ : zS} {p : Nat} (hk : zkd σ p = 4) (hx : znx σ = p + 1) (d : Nat) : ∃ τ, zEv (d + 1) mX6_init [.inr (.inl (some p))] σ = some (none, τ) ∧ zEq (fun a => a < p) σ τ ∧ znx τ = p + 2 ∧ PicS τ p ∧ (∀ f, zi τ f p = zi σ f p) ∧ ∀ j, zai τ (p + 1) j = 0 := by
  have k1 : zkd (zna σ 11 256) p = 4 := (na_kd (by omega)).trans hk
  refine ⟨mkA σ 256 p 11 256, ?_, mkA_eq σ (by decide) (by omega) (by omega), by rw [mkA_nx]; omega, ⟨(mkA_kd (by omega)).trans hk, by rw [mkA_r, if_pos ⟨rfl, rfl⟩, hx], by rw [← hx]; exact mkA_kd' .., by rw [← hx]; exact mkA_ln' ..⟩, fun _ => rfl, fun j => by rw [← hx]; exact mkA_ai ..⟩
  rw [vX6_init]
  unfold fX6_init
  simp only [zlt_e, chk_e, k1, if_true]
  rfl
theorem s_i3 {σ : zS} {p : Nat} (hk : zkd σ p = 2) (hx : znx σ = p + 1) (d : Nat) : ∃ τ, zEv (d + 2) mX3_init [.inr (.inl (some p))] σ = some (none, τ) ∧ zEq (fun a => a < p) σ τ ∧ znx τ = p + 3 ∧ LyS τ p := by
  have k0 := kd_no σ 3
  have g0 : zEq (fun a => a < p + 1) σ (zno σ 3) := zEq.no σ 3 (by omega)
  have k1 : zkd (zna (zno σ 3) 11 18) (znx σ) = 3 := (na_kd (by rw [nx_no]; omega)).trans k0
  have g1 : zEq (fun a => a < p + 1) (zno σ 3) (mkA (zno σ 3) 200 (znx σ) 11 18) := mkA_eq _ (by decide) (by rw [nx_no]; omega) (by omega)
  have e1 : zEv (d + 1) mX4_init [.inr (.inl (some (znx σ)))] (zno σ 3) = some (none, mkA (zno σ 3) 200 (znx σ) 11 18) := by
    rw [vX4_init]
    unfold fX4_init
    simp only [zlt_e, chk_e, k1, if_true]
    rfl
  have k2 : zkd (mkA (zno σ 3) 200 (znx σ) 11 18) p = 2 := ((g0.tr g1).kd (by omega)).trans hk
  have k3 : zkd (mkA (zno σ 3) 200 (znx σ) 11 18) (p + 1) = 3 := by rw [mkA_kd (by rw [nx_no]; omega), ← hx]; exact k0
  have r3 : zr (mkA (zno σ 3) 200 (znx σ) 11 18) 200 (p + 1) = some (p + 2) := by rw [mkA_r, if_pos ⟨rfl, hx.symm⟩, nx_no, hx]
  have k4 : zkd (mkA (zno σ 3) 200 (znx σ) 11 18) (p + 2) = 11 := by rw [show p + 2 = znx (zno σ 3) from by rw [nx_no, hx]]; exact mkA_kd' ..
  have l4 : zln (mkA (zno σ 3) 200 (znx σ) 11 18) (p + 2) = 18 := by rw [show p + 2 = znx (zno σ 3) from by rw [nx_no, hx]]; exact mkA_ln' ..
  have n4 : znx (mkA (zno σ 3) 200 (znx σ) 11 18) = p + 3 := by rw [mkA_nx, nx_no, hx]
  generalize mkA (zno σ 3) 200 (znx σ) 11 18 = τ at *
  refine ⟨zsr τ 134 p (some (p + 1)), ?_, ((g0.tr g1).mono (fun a ha => by omega)).tr (zEq.sr τ (by decide) (by omega)), n4, ⟨k2, by rw [zr_sr, if_pos ⟨rfl, rfl⟩], k3, by rw [zr_sr, if_neg (by omega)]; exact r3, k4, l4⟩⟩
  rw [vX3_init]
  unfold fX3_init
  rw [hx] at k0 e1
  simp only [zlt_e, chk_e, if_true, hx, k0, e1, bnV_s, k2]
theorem CmQ_id {σ : zS} {c : Nat} (h : ∀ i, i < 8 → zar σ (c + 3) i = some (c + 4 + 3 * i)) : CmQ σ c (fun x => x) := ⟨fun i hi => ⟨h i hi, hi⟩, fun i j _ _ e => e⟩
theorem zgd_t (x : zO) : zgd true x = x := rfl
theorem s_i0 {σ : zS} {c : Nat} (hk : zkd σ c = 0) (hx : znx σ = c + 1) (d : Nat) : ∃ τ, zEv (d + 3) mX0_init [.inr (.inl (some c))] σ = some (none, τ) ∧ zEq (fun a => a < c) σ τ ∧ znx τ = c + 28 ∧ CmS τ c ∧ CmQ τ c (fun x => x) ∧ (∀ f, zi τ f c = zi σ f c) ∧ (∀ f, zi τ f (c + 1) = 0) ∧ ∀ j, zai τ (c + 2) j = 0 := by
  have k0 := kd_no σ 4
  have g0 : zEq (fun a => a < c + 1) σ (zno σ 4) := zEq.no σ 4 (by omega)
  obtain ⟨τ, e1, g1, n1, h1, i1, a1⟩ := s_i6 (σ := zno σ 4) (p := c + 1) (by rw [← hx]; exact k0) (by rw [nx_no, hx]) (d + 1)
  have i1' : ∀ f, zi τ f (c + 1) = 0 := fun f => (i1 f).trans (by rw [← hx]; exact i_no σ 4 f)
  have g2 : zEq (fun a => a < c + 1) σ τ := g0.tr g1
  have k2 : zkd τ c = 0 := (g2.kd (by omega)).trans hk
  have g3 : zEq (fun a => a < c ∨ a = c + 1 ∨ a = c + 2) τ (zsr τ 0 c (some (c + 1))) := zEq.sr τ (by decide) (by omega)
  have g4 : zEq (fun a => a < c ∨ a = c + 1 ∨ a = c + 2) (zsr τ 0 c (some (c + 1))) (mkA (zsr τ 0 c (some (c + 1))) 1 c 14 8) := mkA_eq _ (by decide) (by rw [znx_sr, n1]; omega) (by omega)
  have kd4 : zkd (zna (zsr τ 0 c (some (c + 1))) 14 8) c = 0 := (na_kd (by rw [znx_sr, n1]; omega)).trans k2
  have r0 : zr (mkA (zsr τ 0 c (some (c + 1))) 1 c 14 8) 0 c = some (c + 1) := by rw [mkA_r, if_neg (by omega), zr_sr, if_pos ⟨rfl, rfl⟩]
  have r1 : zr (mkA (zsr τ 0 c (some (c + 1))) 1 c 14 8) 1 c = some (c + 3) := by rw [mkA_r, if_pos ⟨rfl, rfl⟩, znx_sr, n1]
  have k5 : zkd (mkA (zsr τ 0 c (some (c + 1))) 1 c 14 8) c = 0 := kd4
  have k6 : zkd (mkA (zsr τ 0 c (some (c + 1))) 1 c 14 8) (c + 3) = 14 := by rw [show c + 3 = znx (zsr τ 0 c (some (c + 1))) from by rw [znx_sr, n1]]; exact mkA_kd' ..
  have l6 : zln (mkA (zsr τ 0 c (some (c + 1))) 1 c 14 8) (c + 3) = 8 := by rw [show c + 3 = znx (zsr τ 0 c (some (c + 1))) from by rw [znx_sr, n1]]; exact mkA_ln' ..
  have n6 : znx (mkA (zsr τ 0 c (some (c + 1))) 1 c 14 8) = c + 4 := by rw [mkA_nx, znx_sr, n1]
  have i6 : ∀ f, zi (mkA (zsr τ 0 c (some (c + 1))) 1 c 14 8) f c = zi σ f c := fun f => g2.i (by omega) f
  have hP6 := h1.eq (g3.tr g4) (fun a _ _ => by omega)
  have i7 : ∀ f, zi (mkA (zsr τ 0 c (some (c + 1))) 1 c 14 8) f (c + 1) = 0 := fun f => ((g3.tr g4).i (by omega) f).trans (i1' f)
  have a7 : ∀ j, zai (mkA (zsr τ 0 c (some (c + 1))) 1 c 14 8) (c + 2) j = 0 := fun j => ((g3.tr g4).ai (by omega) j).trans (a1 j)
  have g7 : zEq (fun a => a < c) σ (mkA (zsr τ 0 c (some (c + 1))) 1 c 14 8) := (g2.mono (fun a ha => by omega)).tr ((g3.tr g4).mono (fun a ha => by omega))
  have e7 : zEv (d + 3) mX0_init [.inr (.inl (some c))] σ = LX0_init_26 (zEv (d + 2)) c 0 (24, 272) (mkA (zsr τ 0 c (some (c + 1))) 1 c 14 8) := by
    rw [vX0_init]
    unfold fX0_init
    rw [hx] at k0
    simp only [zlt_e, chk_e, k0, if_true, hx, e1, bnV_s, k2, kd4]
    rfl
  clear kd4
  generalize mkA (zsr τ 0 c (some (c + 1))) 1 c 14 8 = σ0 at *
  obtain ⟨υ, f1, f2⟩ := loop_from (fun j υ => LX0_init_26 (zEv (d + 2)) c (nI j) (24 - 3 * j, 272 - 34 * j) υ) (fun j υ => zEq (fun a => a < c + 3) σ0 υ ∧ zkd υ (c + 3) = 14 ∧ zln υ (c + 3) = 8 ∧ znx υ = c + 4 + 3 * j ∧ (∀ i, i < j → zar υ (c + 3) i = some (c + 4 + 3 * i) ∧ LyS υ (c + 4 + 3 * i))) 0 8 (fun υ => some (none, υ)) σ0 (by decide) ⟨zEq.rf _, k6, l6, n6, fun i hi => absurd hi (Nat.not_lt_zero _)⟩
    (fun j υ hj hI => by
      obtain ⟨b1, b2, b3, b4, b5⟩ := hI
      have q0 := kd_no υ 2
      have p0 : zEq (fun a => a < c + 4 + 3 * j) υ (zno υ 2) := zEq.no υ 2 (by omega)
      obtain ⟨ω, c1, c2, c3, c4⟩ := s_i3 (σ := zno υ 2) (p := c + 4 + 3 * j) (by rw [← b4]; exact q0) (by rw [nx_no, b4]) d
      have p1 := p0.tr c2
      have q1 : zkd ω (c + 3) = 14 := (p1.kd (by omega)).trans b2
      have q2 : zln ω (c + 3) = 8 := (p1.ln (by omega)).trans b3
      have p2 : zEq (fun a => a ≠ c + 3) ω (zsq ω (c + 3) j (some (c + 4 + 3 * j))) := zEq.sq ω (by omega)
      have x1 : 1 ≤ 24 - 3 * j ∧ 7 ≤ 272 - 34 * j := by omega
      have x2 : zfit (24 - 3 * j - 1, 272 - 34 * j - 7) (2, 27) = true := by
        unfold zfit
        rw [Bool.and_eq_true, Nat.ble_eq, Nat.ble_eq]
        show 2 ≤ 24 - 3 * j - 1 ∧ 27 ≤ 272 - 34 * j - 7
        omega
      have x3 : (24 - 3 * j - 1 - 2, 272 - 34 * j - 7 - 27) = (24 - 3 * (j + 1), 272 - 34 * (j + 1)) := by
        rw [Prod.mk.injEq]
        omega
      refine ⟨zsq ω (c + 3) j (some (c + 4 + 3 * j)), ?_, (b1.tr (p1.mono (fun a ha => by omega))).tr (p2.mono (fun a ha => by omega)), q1, q2, ?_, fun i hi => ?_⟩
      · show LX0_init_26 _ _ _ _ _ = LX0_init_26 _ _ _ _ _
        rw [uX0_init_26, ← x3]
        rw [b4] at q0
        simp only [zlt_e, onR_s, nul_s, nul_n, chk_e, bnI_s, bnR_s, bnV_s, zi_si, zi_sr, zi_sl, zi_sa, zi_sq, zr_si, zr_sr, zr_sl, zr_sa, zr_sq, zl_si, zl_sr, zl_sl, zl_sa, zl_sq, zai_si, zai_sr, zai_sl, zai_sa, zai_sq, zar_si, zar_sr, zar_sl, zar_sa, zar_sq, zkd_si, zkd_sr, zkd_sl, zkd_sa, zkd_sq, zln_si, zln_sr, zln_sl, zln_sa, zln_sq, znx_si, znx_sr, znx_sl, znx_sa, znx_sq, (b1.kd (by omega)).trans k5, (b1.r (by omega) _).trans r1, b2, b3, if_true, n_ofNat, n_lt (show j < 2 ^ 31 by omega) (show 8 < 2 ^ 31 by decide), hj, x1, and_self, x2, Bool.and_self, zgd_t, q0, b4, c1, c4.1, q1, q2, n_zin (show j < 2 ^ 31 by omega), n_tn (show j < 2 ^ 31 by omega), nI_1, nI_add]
        try rfl
      · show znx ω = _
        rw [c3]
        omega
      · by_cases e : i = j
        · subst e
          exact ⟨by rw [zar_sq, if_pos ⟨rfl, rfl⟩], c4.eq p2 (fun a _ _ => by omega)⟩
        · obtain ⟨y1, y2⟩ := b5 i (by omega)
          exact ⟨by rw [zar_sq, if_neg (by omega)]; exact (p1.ar (by omega) _).trans y1, (y2.eq p1 (fun a _ _ => by omega)).eq p2 (fun a _ _ => by omega)⟩)
    (fun υ hI => by
      obtain ⟨b1, b2, b3, b4, b5⟩ := hI
      show LX0_init_26 _ _ _ _ _ = _
      rw [uX0_init_26]
      simp only [zlt_e, onR_s, nul_s, nul_n, chk_e, bnI_s, bnR_s, bnV_s, zi_si, zi_sr, zi_sl, zi_sa, zi_sq, zr_si, zr_sr, zr_sl, zr_sa, zr_sq, zl_si, zl_sr, zl_sl, zl_sa, zl_sq, zai_si, zai_sr, zai_sl, zai_sa, zai_sq, zar_si, zar_sr, zar_sl, zar_sa, zar_sq, zkd_si, zkd_sr, zkd_sl, zkd_sa, zkd_sq, zln_si, zln_sr, zln_sl, zln_sa, zln_sq, znx_si, znx_sr, znx_sl, znx_sa, znx_sq, (b1.kd (by omega)).trans k5, (b1.r (by omega) _).trans r1, b2, b3, if_true, n_ofNat]
      rfl)
  obtain ⟨b1, b2, b3, b4, b5⟩ := f2
  refine ⟨υ, e7.trans f1, g7.tr (b1.mono (fun a ha => by omega)), b4, ⟨(b1.kd (by omega)).trans k5, (b1.r (by omega) _).trans r0, (b1.r (by omega) _).trans r1, hP6.eq b1 (fun a _ _ => by omega), b2, b3, fun k hk => (b5 k hk).2⟩, CmQ_id (fun i hi => (b5 i hi).1), fun f => (b1.i (by omega) f).trans (i6 f), fun f => (b1.i (by omega) f).trans (i7 f), fun j => (b1.ai (by omega) j).trans (a7 j)⟩
