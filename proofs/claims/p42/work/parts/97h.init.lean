/-! the constructors of the class -/
theorem s_i8 {σ : zS} {x : Nat} (hk : zkd σ x = 6) (hx : znx σ = x + 1) (d : Nat) : ∃ τ, zEv (d + 1) mX8_init [.inr (.inl (some x))] σ = some (none, τ) ∧ zEq (fun a => a < x) σ τ ∧ znx τ = x + 2 ∧ TxS τ x ∧ ∀ f, zi τ f x = zi σ f x := by
  have k1 : zkd (zna σ 10 160) x = 6 := (na_kd (by omega)).trans hk
  refine ⟨mkA σ 384 x 10 160, ?_, mkA_eq σ (by decide) (by omega) (by omega), by rw [mkA_nx]; omega, ⟨(mkA_kd (by omega)).trans hk, by rw [mkA_r, if_pos ⟨rfl, rfl⟩, hx], by rw [← hx]; exact mkA_kd' .., by rw [← hx]; exact mkA_ln' ..⟩, fun _ => rfl⟩
  rw [vX8_init]
  unfold fX8_init
  simp only [zlt_e, chk_e, k1, if_true]
  rfl
theorem s_i7 {σ : zS} {R : Nat} (hk : zkd σ R = 5) (hx : znx σ = R + 1) (d : Nat) : ∃ τ, zEv (d + 2) mX7_init [.inr (.inl (some R))] σ = some (none, τ) ∧ zEq (fun a => a < R) σ τ ∧ znx τ = R + 4 ∧ RdS τ R := by
  have k0 := kd_no σ 4
  have g0 : zEq (fun a => a < R + 1) σ (zno σ 4) := zEq.no σ 4 (by omega)
  obtain ⟨τ, e1, g1, n1, h1, i1, a1⟩ := s_i6 (σ := zno σ 4) (p := R + 1) (by rw [← hx]; exact k0) (by rw [nx_no, hx]) d
  have g2 : zEq (fun a => a < R + 1) σ τ := g0.tr g1
  have k2 : zkd τ R = 5 := (g2.kd (by omega)).trans hk
  have g3 : zEq (fun a => a ≠ R ∧ a < R + 3) τ (zsr τ 320 R (some (R + 1))) := zEq.sr τ (by decide) (by omega)
  have g4 : zEq (fun a => a ≠ R ∧ a < R + 3) (zsr τ 320 R (some (R + 1))) (mkA (zsr τ 320 R (some (R + 1))) 321 R 11 49) := mkA_eq _ (by decide) (by rw [znx_sr, n1]; omega) (by omega)
  have kd4 : zkd (zna (zsr τ 320 R (some (R + 1))) 11 49) R = 5 := (na_kd (by rw [znx_sr, n1]; omega)).trans k2
  have nn : znx (zsr τ 320 R (some (R + 1))) = R + 3 := by rw [znx_sr, n1]
  refine ⟨mkA (zsr τ 320 R (some (R + 1))) 321 R 11 49, ?_, (g2.mono (fun a ha => by omega)).tr ((g3.tr g4).mono (fun a ha => by omega)), by rw [mkA_nx, nn], ⟨kd4, by rw [mkA_r, if_neg (by omega), zr_sr, if_pos ⟨rfl, rfl⟩], h1.eq (g3.tr g4) (fun a _ _ => by omega), by rw [mkA_r, if_pos ⟨rfl, rfl⟩, nn], by rw [← nn]; exact mkA_kd' .., by rw [← nn]; exact mkA_ln' ..⟩⟩
  rw [vX7_init]
  unfold fX7_init
  rw [hx] at k0
  simp only [zlt_e, chk_e, k0, if_true, hx, e1, bnV_s, k2, kd4]
  rfl
theorem s_i1 {σ : zS} {H : Nat} (hk : zkd σ H = 1) (hx : znx σ = H + 1) (d : Nat) : ∃ τ, zEv (d + 4) mX1_init [.inr (.inl (some H))] σ = some (none, τ) ∧ zEq (fun a => a < H) σ τ ∧ znx τ = H + 170 ∧ HiS τ H ∧ HiQ τ H (fun x => x) ∧ (∀ i, i < 6 → CmQ τ (H + 2 + 28 * i) (fun x => x)) ∧ ∀ f, zi τ f H = zi σ f H := by
  have k1 : zkd (zna σ 13 6) H = 1 := (na_kd (by omega)).trans hk
  have k5 : zkd (mkA σ 64 H 13 6) H = 1 := k1
  have r0 : zr (mkA σ 64 H 13 6) 64 H = some (H + 1) := by rw [mkA_r, if_pos ⟨rfl, rfl⟩, hx]
  have k6 : zkd (mkA σ 64 H 13 6) (H + 1) = 13 := by rw [← hx]; exact mkA_kd' ..
  have l6 : zln (mkA σ 64 H 13 6) (H + 1) = 6 := by rw [← hx]; exact mkA_ln' ..
  have n6 : znx (mkA σ 64 H 13 6) = H + 2 := by rw [mkA_nx, hx]
  have i6 : ∀ f, zi (mkA σ 64 H 13 6) f H = zi σ f H := fun f => rfl
  have g7 : zEq (fun a => a < H) σ (mkA σ 64 H 13 6) := mkA_eq σ (by decide) (by omega) (by omega)
  have e7 : zEv (d + 4) mX1_init [.inr (.inl (some H))] σ = LX1_init_15 (zEv (d + 3)) H 0 (168, 3252) (mkA σ 64 H 13 6) := by
    rw [vX1_init]
    unfold fX1_init
    simp only [zlt_e, chk_e, k1, if_true]
    rfl
  clear k1
  generalize mkA σ 64 H 13 6 = σ0 at *
  obtain ⟨υ, f1, f2⟩ := loop_from (fun j υ => LX1_init_15 (zEv (d + 3)) H (nI j) (168 - 28 * j, 3252 - 542 * j) υ) (fun j υ => zEq (fun a => a < H + 1) σ0 υ ∧ zkd υ (H + 1) = 13 ∧ zln υ (H + 1) = 6 ∧ znx υ = H + 2 + 28 * j ∧ (∀ i, i < j → zar υ (H + 1) i = some (H + 2 + 28 * i) ∧ CmS υ (H + 2 + 28 * i) ∧ CmQ υ (H + 2 + 28 * i) (fun x => x))) 0 6 (fun υ => some (none, υ)) σ0 (by decide) ⟨zEq.rf _, k6, l6, n6, fun i hi => absurd hi (Nat.not_lt_zero _)⟩
    (fun j υ hj hI => by
      obtain ⟨b1, b2, b3, b4, b5⟩ := hI
      have q0 := kd_no υ 0
      have p0 : zEq (fun a => a < H + 2 + 28 * j) υ (zno υ 0) := zEq.no υ 0 (by omega)
      obtain ⟨ω, c1, c2, c3, c4, c5, c6, c7⟩ := s_i0 (σ := zno υ 0) (c := H + 2 + 28 * j) (by rw [← b4]; exact q0) (by rw [nx_no, b4]) d
      have p1 := p0.tr c2
      have q1 : zkd ω (H + 1) = 13 := (p1.kd (by omega)).trans b2
      have q2 : zln ω (H + 1) = 6 := (p1.ln (by omega)).trans b3
      have p2 : zEq (fun a => a ≠ H + 1) ω (zsq ω (H + 1) j (some (H + 2 + 28 * j))) := zEq.sq ω (by omega)
      have x1 : 1 ≤ 168 - 28 * j ∧ 3 ≤ 3252 - 542 * j := by omega
      have x2 : zfit (168 - 28 * j - 1, 3252 - 542 * j - 3) (27, 539) = true := by
        unfold zfit
        rw [Bool.and_eq_true, Nat.ble_eq, Nat.ble_eq]
        show 27 ≤ 168 - 28 * j - 1 ∧ 539 ≤ 3252 - 542 * j - 3
        omega
      have x3 : (168 - 28 * j - 1 - 27, 3252 - 542 * j - 3 - 539) = (168 - 28 * (j + 1), 3252 - 542 * (j + 1)) := by
        rw [Prod.mk.injEq]
        omega
      refine ⟨zsq ω (H + 1) j (some (H + 2 + 28 * j)), ?_, (b1.tr (p1.mono (fun a ha => by omega))).tr (p2.mono (fun a ha => by omega)), q1, q2, ?_, fun i hi => ?_⟩
      · show LX1_init_15 _ _ _ _ _ = LX1_init_15 _ _ _ _ _
        rw [uX1_init_15, ← x3]
        rw [b4] at q0
        simp only [zlt_e, onR_s, nul_s, nul_n, chk_e, bnI_s, bnR_s, bnV_s, zi_si, zi_sr, zi_sl, zi_sa, zi_sq, zr_si, zr_sr, zr_sl, zr_sa, zr_sq, zl_si, zl_sr, zl_sl, zl_sa, zl_sq, zai_si, zai_sr, zai_sl, zai_sa, zai_sq, zar_si, zar_sr, zar_sl, zar_sa, zar_sq, zkd_si, zkd_sr, zkd_sl, zkd_sa, zkd_sq, zln_si, zln_sr, zln_sl, zln_sa, zln_sq, znx_si, znx_sr, znx_sl, znx_sa, znx_sq, (b1.kd (by omega)).trans k5, (b1.r (by omega) _).trans r0, b2, b3, if_true, n_ofNat, n_lt (show j < 2 ^ 31 by omega) (show 6 < 2 ^ 31 by decide), hj, x1, and_self, x2, Bool.and_self, zgd_t, q0, b4, c1, c4.1, q1, q2, n_zin (show j < 2 ^ 31 by omega), n_tn (show j < 2 ^ 31 by omega), nI_1, nI_add]
        try rfl
      · show znx ω = _
        rw [c3]
        omega
      · by_cases e : i = j
        · subst e
          exact ⟨by rw [zar_sq, if_pos ⟨rfl, rfl⟩], c4.eq p2 (fun a _ _ => by omega), c5.eq p2 (by omega)⟩
        · obtain ⟨y1, y2, y3⟩ := b5 i (by omega)
          exact ⟨by rw [zar_sq, if_neg (by omega)]; exact (p1.ar (by omega) _).trans y1, (y2.eq p1 (fun a _ _ => by omega)).eq p2 (fun a _ _ => by omega), (y3.eq p1 (by omega)).eq p2 (by omega)⟩)
    (fun υ hI => by
      obtain ⟨b1, b2, b3, b4, b5⟩ := hI
      show LX1_init_15 _ _ _ _ _ = _
      rw [uX1_init_15]
      simp only [zlt_e, onR_s, nul_s, nul_n, chk_e, bnI_s, bnR_s, bnV_s, zi_si, zi_sr, zi_sl, zi_sa, zi_sq, zr_si, zr_sr, zr_sl, zr_sa, zr_sq, zl_si, zl_sr, zl_sl, zl_sa, zl_sq, zai_si, zai_sr, zai_sl, zai_sa, zai_sq, zar_si, zar_sr, zar_sl, zar_sa, zar_sq, zkd_si, zkd_sr, zkd_sl, zkd_sa, zkd_sq, zln_si, zln_sr, zln_sl, zln_sa, zln_sq, znx_si, znx_sr, znx_sl, znx_sa, znx_sq, (b1.kd (by omega)).trans k5, (b1.r (by omega) _).trans r0, b2, b3, if_true, n_ofNat]
      rfl)
  obtain ⟨b1, b2, b3, b4, b5⟩ := f2
  refine ⟨υ, e7.trans f1, g7.tr (b1.mono (fun a ha => by omega)), b4, ⟨(b1.kd (by omega)).trans k5, (b1.r (by omega) _).trans r0, b2, b3, fun k hk => (b5 k hk).2.1⟩, ⟨fun i hi => ⟨(b5 i hi).1, hi⟩, fun i j _ _ e => e⟩, fun i hi => (b5 i hi).2.2, fun f => (b1.i (by omega) f).trans (i6 f)⟩
theorem s_i9 {σ : zS} {X : Nat} (hk : zkd σ X = 7) (hx : znx σ = X + 1) (hz : ∀ f, zi σ f X = 0) (d : Nat) : ∃ τ, zEv (d + 2) mX9_init [.inr (.inl (some X))] σ = some (none, τ) ∧ zEq (fun a => a < X) σ τ ∧ znx τ = X + 19 ∧ TcS τ X ∧ TcQ τ X ∧ TcU τ X (fun _ => 0) ∧ TcF τ X (4, 16, 0, 0, 0, 0) ∧ OutR τ X := by
  have k1 : zkd (zna σ 15 8) X = 7 := (na_kd (by omega)).trans hk
  have n1 : znx (mkA σ 448 X 15 8) = X + 2 := by rw [mkA_nx, hx]
  have k2 : zkd (zna (mkA σ 448 X 15 8) 11 512) X = 7 := (na_kd (by rw [n1]; omega)).trans k1
  have g0 : zEq (fun a => a < X) σ (mkA σ 448 X 15 8) := mkA_eq σ (by decide) (by omega) (by omega)
  have g1 : zEq (fun a => a < X + 2 ∧ a ≠ X) (mkA σ 448 X 15 8) (mkA (mkA σ 448 X 15 8) 449 X 11 512) := mkA_eq _ (by decide) (by rw [n1]; omega) (by omega)
  have g2 : zEq (fun a => a ≠ X) (mkA (mkA σ 448 X 15 8) 449 X 11 512) (zsi (zsi (mkA (mkA σ 448 X 15 8) 449 X 11 512) 450 X 4) 451 X 16) := (zEq.si _ (by omega)).tr (zEq.si _ (by omega))
  have ka : zkd (mkA σ 448 X 15 8) (X + 1) = 15 := by rw [← hx]; exact mkA_kd' ..
  have la : zln (mkA σ 448 X 15 8) (X + 1) = 8 := by rw [← hx]; exact mkA_ln' ..
  have r1 : zr (zsi (zsi (mkA (mkA σ 448 X 15 8) 449 X 11 512) 450 X 4) 451 X 16) 448 X = some (X + 1) := by rw [zr_si, zr_si, mkA_r, if_neg (by omega), mkA_r, if_pos ⟨rfl, rfl⟩, hx]
  have r2 : zr (zsi (zsi (mkA (mkA σ 448 X 15 8) 449 X 11 512) 450 X 4) 451 X 16) 449 X = some (X + 2) := by rw [zr_si, zr_si, mkA_r, if_pos ⟨rfl, rfl⟩, n1]
  have k5 : zkd (zsi (zsi (mkA (mkA σ 448 X 15 8) 449 X 11 512) 450 X 4) 451 X 16) X = 7 := k2
  have k6 : zkd (zsi (zsi (mkA (mkA σ 448 X 15 8) 449 X 11 512) 450 X 4) 451 X 16) (X + 1) = 15 := ((g1.tr (g2.mono (fun a ha => ha.2))).kd (by omega)).trans ka
  have l6 : zln (zsi (zsi (mkA (mkA σ 448 X 15 8) 449 X 11 512) 450 X 4) 451 X 16) (X + 1) = 8 := ((g1.tr (g2.mono (fun a ha => ha.2))).ln (by omega)).trans la
  have k7 : zkd (zsi (zsi (mkA (mkA σ 448 X 15 8) 449 X 11 512) 450 X 4) 451 X 16) (X + 2) = 11 := by rw [zkd_si, zkd_si, ← n1]; exact mkA_kd' ..
  have l7 : zln (zsi (zsi (mkA (mkA σ 448 X 15 8) 449 X 11 512) 450 X 4) 451 X 16) (X + 2) = 512 := by rw [zln_si, zln_si, ← n1]; exact mkA_ln' ..
  have a7 : ∀ j, zai (zsi (zsi (mkA (mkA σ 448 X 15 8) 449 X 11 512) 450 X 4) 451 X 16) (X + 2) j = 0 := fun j => by rw [zai_si, zai_si, ← n1]; exact mkA_ai ..
  have n7 : znx (zsi (zsi (mkA (mkA σ 448 X 15 8) 449 X 11 512) 450 X 4) 451 X 16) = X + 3 := by rw [znx_si, znx_si, mkA_nx, n1]
  have i7 : ∀ f, f ≠ 450 → f ≠ 451 → zi (zsi (zsi (mkA (mkA σ 448 X 15 8) 449 X 11 512) 450 X 4) 451 X 16) f X = 0 := fun f h1 h2 => by rw [zi_si, if_neg (by omega), zi_si, if_neg (by omega)]; exact hz f
  have i450 : zi (zsi (zsi (mkA (mkA σ 448 X 15 8) 449 X 11 512) 450 X 4) 451 X 16) 450 X = nI 4 := by rw [zi_si, if_neg (by omega), zi_si, if_pos ⟨rfl, rfl⟩]; rfl
  have i451 : zi (zsi (zsi (mkA (mkA σ 448 X 15 8) 449 X 11 512) 450 X 4) 451 X 16) 451 X = nI 16 := by rw [zi_si, if_pos ⟨rfl, rfl⟩]; rfl
  have g7 : zEq (fun a => a < X) σ (zsi (zsi (mkA (mkA σ 448 X 15 8) 449 X 11 512) 450 X 4) 451 X 16) := g0.tr ((g1.mono (fun a ha => by omega)).tr (g2.mono (fun a ha => by omega)))
  have e7 : zEv (d + 2) mX9_init [.inr (.inl (some X))] σ = LX9_init_35 (zEv (d + 1)) X 0 (16, 2072) (zsi (zsi (mkA (mkA σ 448 X 15 8) 449 X 11 512) 450 X 4) 451 X 16) := by
    rw [vX9_init]
    unfold fX9_init
    have k2' : zkd (zna (zsr (zna σ 15 8) 448 X (some (znx σ))) 11 512) X = 7 := k2
    have k3' : zkd (zsr (zna (zsr (zna σ 15 8) 448 X (some (znx σ))) 11 512) 449 X (some (znx (zsr (zna σ 15 8) 448 X (some (znx σ)))))) X = 7 := k2
    simp only [zlt_e, chk_e, k1, k2', k3', zkd_si, if_true]
    rfl
  clear k1 k2 ka la g0 g1 g2
  generalize zsi (zsi (mkA (mkA σ 448 X 15 8) 449 X 11 512) 450 X 4) 451 X 16 = σ0 at *
  obtain ⟨υ, f1, f2⟩ := loop_from (fun j υ => LX9_init_35 (zEv (d + 1)) X (nI j) (16 - 2 * j, 2072 - 259 * j) υ) (fun j υ => zEq (fun a => a < X + 3 ∧ a ≠ X + 1) σ0 υ ∧ zkd υ (X + 1) = 15 ∧ zln υ (X + 1) = 8 ∧ znx υ = X + 3 + 2 * j ∧ (∀ i, i < j → zar υ (X + 1) i = some (X + 3 + 2 * i) ∧ PicS υ (X + 3 + 2 * i) ∧ (∀ f, zi υ f (X + 3 + 2 * i) = 0) ∧ ∀ p, zai υ (X + 3 + 2 * i + 1) p = 0)) 0 8 (fun υ => some (none, υ)) σ0 (by decide) ⟨zEq.rf _, k6, l6, n7, fun i hi => absurd hi (Nat.not_lt_zero _)⟩
    (fun j υ hj hI => by
      obtain ⟨b1, b2, b3, b4, b5⟩ := hI
      have q0 := kd_no υ 4
      have p0 : zEq (fun a => a < X + 3 + 2 * j) υ (zno υ 4) := zEq.no υ 4 (by omega)
      obtain ⟨ω, c1, c2, c3, c4, c5, c6⟩ := s_i6 (σ := zno υ 4) (p := X + 3 + 2 * j) (by rw [← b4]; exact q0) (by rw [nx_no, b4]) d
      have c5' : ∀ f, zi ω f (X + 3 + 2 * j) = 0 := fun f => (c5 f).trans (by rw [← b4]; exact i_no υ 4 f)
      have p1 := p0.tr c2
      have q1 : zkd ω (X + 1) = 15 := (p1.kd (by omega)).trans b2
      have q2 : zln ω (X + 1) = 8 := (p1.ln (by omega)).trans b3
      have p2 : zEq (fun a => a ≠ X + 1) ω (zsq ω (X + 1) j (some (X + 3 + 2 * j))) := zEq.sq ω (by omega)
      have x1 : 1 ≤ 16 - 2 * j ∧ 3 ≤ 2072 - 259 * j := by omega
      have x2 : zfit (16 - 2 * j - 1, 2072 - 259 * j - 3) (1, 256) = true := by
        unfold zfit
        rw [Bool.and_eq_true, Nat.ble_eq, Nat.ble_eq]
        show 1 ≤ 16 - 2 * j - 1 ∧ 256 ≤ 2072 - 259 * j - 3
        omega
      have x3 : (16 - 2 * j - 1 - 1, 2072 - 259 * j - 3 - 256) = (16 - 2 * (j + 1), 2072 - 259 * (j + 1)) := by
        rw [Prod.mk.injEq]
        omega
      refine ⟨zsq ω (X + 1) j (some (X + 3 + 2 * j)), ?_, (b1.tr (p1.mono (fun a ha => by omega))).tr (p2.mono (fun a ha => by omega)), q1, q2, ?_, fun i hi => ?_⟩
      · show LX9_init_35 _ _ _ _ _ = LX9_init_35 _ _ _ _ _
        rw [uX9_init_35, ← x3]
        rw [b4] at q0
        simp only [zlt_e, onR_s, nul_s, nul_n, chk_e, bnI_s, bnR_s, bnV_s, zi_si, zi_sr, zi_sl, zi_sa, zi_sq, zr_si, zr_sr, zr_sl, zr_sa, zr_sq, zl_si, zl_sr, zl_sl, zl_sa, zl_sq, zai_si, zai_sr, zai_sl, zai_sa, zai_sq, zar_si, zar_sr, zar_sl, zar_sa, zar_sq, zkd_si, zkd_sr, zkd_sl, zkd_sa, zkd_sq, zln_si, zln_sr, zln_sl, zln_sa, zln_sq, znx_si, znx_sr, znx_sl, znx_sa, znx_sq, (b1.kd (by omega)).trans k5, (b1.r (by omega) _).trans r1, b2, b3, if_true, n_ofNat, n_lt (show j < 2 ^ 31 by omega) (show 8 < 2 ^ 31 by decide), hj, x1, and_self, x2, Bool.and_self, zgd_t, q0, b4, c1, c4.1, q1, q2, n_zin (show j < 2 ^ 31 by omega), n_tn (show j < 2 ^ 31 by omega), nI_1, nI_add]
        try rfl
      · show znx ω = _
        rw [c3]
        omega
      · by_cases e : i = j
        · subst e
          exact ⟨by rw [zar_sq, if_pos ⟨rfl, rfl⟩], c4.eq p2 (fun a _ _ => by omega), fun f => (p2.i (by omega) f).trans (c5' f), fun p => (p2.ai (by omega) p).trans (c6 p)⟩
        · obtain ⟨y1, y2, y3, y4⟩ := b5 i (by omega)
          exact ⟨by rw [zar_sq, if_neg (by omega)]; exact (p1.ar (by omega) _).trans y1, (y2.eq p1 (fun a _ _ => by omega)).eq p2 (fun a _ _ => by omega), fun f => (p2.i (by omega) f).trans ((p1.i (by omega) f).trans (y3 f)), fun p => (p2.ai (by omega) p).trans ((p1.ai (by omega) p).trans (y4 p))⟩)
    (fun υ hI => by
      obtain ⟨b1, b2, b3, b4, b5⟩ := hI
      show LX9_init_35 _ _ _ _ _ = _
      rw [uX9_init_35]
      simp only [zlt_e, onR_s, nul_s, nul_n, chk_e, bnI_s, bnR_s, bnV_s, zi_si, zi_sr, zi_sl, zi_sa, zi_sq, zr_si, zr_sr, zr_sl, zr_sa, zr_sq, zl_si, zl_sr, zl_sl, zl_sa, zl_sq, zai_si, zai_sr, zai_sl, zai_sa, zai_sq, zar_si, zar_sr, zar_sl, zar_sa, zar_sq, zkd_si, zkd_sr, zkd_sl, zkd_sa, zkd_sq, zln_si, zln_sr, zln_sl, zln_sa, zln_sq, znx_si, znx_sr, znx_sl, znx_sa, znx_sq, (b1.kd (by omega)).trans k5, (b1.r (by omega) _).trans r1, b2, b3, if_true, n_ofNat]
      rfl)
  obtain ⟨b1, b2, b3, b4, b5⟩ := f2
  have ix : ∀ f, f ≠ 450 → f ≠ 451 → zi υ f X = 0 := fun f h1 h2 => (b1.i (by omega) f).trans (i7 f h1 h2)
  refine ⟨υ, e7.trans f1, g7.tr (b1.mono (fun a ha => by omega)), b4, ⟨(b1.kd (by omega)).trans k5, (b1.r (by omega) _).trans r1, b2, b3, (b1.r (by omega) _).trans r2, (b1.kd (by omega)).trans k7, (b1.ln (by omega)).trans l7, fun i hi => (b5 i hi).2.1⟩, fun i hi => (b5 i hi).1, ⟨?_, fun k _ => (b1.ai (by omega) k).trans (a7 k)⟩, ⟨(b1.i (by omega) _).trans i450, (b1.i (by omega) _).trans i451, ix 453 (by decide) (by decide), ix 454 (by decide) (by decide), ix 455 (by decide) (by decide), ix 456 (by decide) (by decide)⟩, fun i hi => ⟨⟨0, 0, by decide, by decide, (b5 i hi).2.2.1 257, (b5 i hi).2.2.1 258⟩, fun j _ => ⟨0, by decide, (b5 i hi).2.2.2 j⟩⟩⟩
  rw [cnt_zero]
  exact ix 452 (by decide) (by decide)
