/-! small calls on both sides: clearCache, clearText -/
def tClearC (A : zW) : zW := (aC A, (aHn A, aHk A), aS A, (aTn A, aTx A), fun _ => 0, aT A)
theorem cnt_zero : ∀ n, cnt (fun _ => 0) n = 0
  | 0 => rfl
  | n + 1 => by show cnt (fun _ => 0) n + 0 = 0; rw [cnt_zero n]
theorem GA.clearC {A : zW} {B : Nat} (hG : GA A B) : GA (tClearC A) B := by
  obtain ⟨hC, hH, hS, hT, hs, hlm, hu, hv, hb⟩ := hG
  exact ⟨hC, hH, hS, hT, hs, hlm, fun _ _ => Nat.zero_le _, fun _ _ h => absurd rfl h, hb⟩
theorem CIx.rem {σ τ : zS} {o B : Nat} {A : zW} {q u P : Nat → Nat} {v : Nat → Nat} (hG : GA A B) (hI : CIx σ o A q u P) (g : zFr (inU (o + 230)) σ τ) (k : keepU (o + 230) σ τ) (hU : TcU τ (o + 230) v) (hv : ∀ j, j < 512 → v j = 0 ∨ v j = aU A j) : CIx τ o (aC A, (aHn A, aHk A), aS A, (aTn A, aTx A), v, aT A) q u P := by
  obtain ⟨hR, ⟨r, hr⟩, hHQ, hHV, hS, hT⟩ := hI
  have hn8 := hG.1.2.2.1
  exact ⟨hR.rem hn8 g k hU hv, ⟨r, hr.fr g (by unfold inU; omega)⟩, hHQ.fr g (by unfold inU; omega), hHV.fr hHQ hG.2.1.1 (fun i hi => (hG.2.1.2 i hi).2.2.1) g (fun a ha => by unfold inH at ha; unfold inU; omega), hS.fr hG.2.2.1 g (by unfold inU; omega) (fun a ha => by unfold inU; omega), hT.fr g (by unfold inU; omega) (by unfold inU; omega)⟩
theorem c_clearCache {σ : zS} {o B : Nat} {A : zW} {q u P : Nat → Nat} (hG : GA A B) (hB : B < 2 ^ 30) (hI : CIx σ o A q u P) (d : Nat) : zOC o (zEv (d + 20) mX10_clearCache [.inr (.inl (some o))] σ) (nI (cnt (aU A) 512)) (tClearC A) σ := by
  have hR := hI.1
  have hO := hR.1
  obtain ⟨τ, h1, h2, h3, h4⟩ := s_removeAll hO.tc hR.2.2.2.2.1 (hG.u31 hB) (d + 15)
  rw [vX10_clearCache]
  unfold fX10_clearCache
  simp only [zlt_e, onR_s, nul_s, nul_n, chk_e, bnI_s, bnR_s, bnV_s, zi_si, zi_sr, zi_sl, zi_sa, zi_sq, zr_si, zr_sr, zr_sl, zr_sa, zr_sq, zl_si, zl_sr, zl_sl, zl_sa, zl_sq, zai_si, zai_sr, zai_sl, zai_sa, zai_sq, zar_si, zar_sr, zar_sl, zar_sa, zar_sq, zkd_si, zkd_sr, zkd_sl, zkd_sa, zkd_sq, zln_si, zln_sr, zln_sl, zln_sa, zln_sq, znx_si, znx_sr, znx_sl, znx_sa, znx_sq, hO.f.1, hO.f.2.2.2.2.2.2.1, hO.tc.1, if_true, h1]
  exact ⟨τ, q, u, P, rfl, hI.rem hG h2 h4 h3 (fun _ _ => Or.inl rfl), h2.mono (fun a ha => by unfold inU at ha; omega)⟩
theorem s_mremoveAll {σ : zS} {m : Nat} {u : Nat → Nat} (hM : MS σ m) (hU : MU σ m u) (hB : ∀ k, k < 512 → u k < 2 ^ 31) (d : Nat) : ∃ τ, zEv (d + 2) mX11_removeAll [.inr (.inl (some m))] σ = some (some (.inl (nI (cnt u 512))), τ) ∧ zFr (fun x => x = m + 6) σ τ ∧ (∀ f x, zi τ f x = zi σ f x) ∧ MU τ m (fun _ => 0) := by
  obtain ⟨τ, n, h1, h2, h3, h4, h5⟩ := s_mremoveTiles (a := 0) hM hU hB (by decide) d
  have hz : ∀ k, k < 512 → zrU u (64 * 0) 512 k = 0 := fun k hk => zrU_z _ _ _ (by omega) hk
  have hc : cnt (zrU u (64 * 0) 512) 512 = 0 := by
    rw [cnt_congr (v := fun _ => 0) 512 (fun k hk => by rw [hz k hk])]
    exact cnt_zero 512
  rw [hc, Nat.add_zero] at h5
  refine ⟨τ, ?_, h2, h3, fun k hk => by rw [h4 k hk, hz k hk]⟩
  rw [vX11_removeAll]
  unfold fX11_removeAll
  have h1 : zEv (d + 1) mX11_removeTiles [.inr (.inl (some m)), .inl 0, .inl 7] σ = _ := h1
  simp only [zlt_e, onR_s, nul_s, nul_n, chk_e, bnI_s, bnR_s, bnV_s, zi_si, zi_sr, zi_sl, zi_sa, zi_sq, zr_si, zr_sr, zr_sl, zr_sa, zr_sq, zl_si, zl_sr, zl_sl, zl_sa, zl_sq, zai_si, zai_sr, zai_sl, zai_sa, zai_sq, zar_si, zar_sr, zar_sl, zar_sa, zar_sq, zkd_si, zkd_sr, zkd_sl, zkd_sa, zkd_sq, zln_si, zln_sr, zln_sl, zln_sa, zln_sq, znx_si, znx_sr, znx_sl, znx_sa, znx_sq, hM.k, if_true, h1, h5]
theorem m_clearCache {σ : zS} {m B : Nat} {A : zW} (hG : GA A B) (hB : B < 2 ^ 30) (hI : MIx σ m A) (d : Nat) : zOM m (zEv (d + 20) mX11_clearCache [.inr (.inl (some m))] σ) (nI (cnt (aU A) 512)) (tClearC A) σ := by
  have hI1 := hI.th
  have g0 : zFr (fun a => m ≤ a ∧ a < m + 22) σ (zsi σ 576 m 0) := zFr.si σ (by omega)
  obtain ⟨τ, h1, h2, h3, h4⟩ := s_mremoveAll hI1.1 hI1.2.2.2.1 (hG.u31 hB) (d + 17)
  rw [vX11_clearCache]
  unfold fX11_clearCache
  simp only [zlt_e, chk_e, bnI_s, hI.1.k, if_true, zkd_si, h1]
  exact ⟨τ, rfl, ⟨hI1.1.fr h2, hI1.2.1.fr h2 (by omega), hI1.2.2.1.fr h2 (by omega) (h3 _ _), h4, hI1.2.2.2.2.fr h2 (by omega) (by omega) (by omega) (by omega) (fun f _ _ => h3 _ _)⟩, g0.tr (h2.mono (fun a ha => by omega))⟩
def tClearT (A : zW) : zW := (aC A, (aHn A, aHk A), aS A, (0, aTx A), aU A, aT A)
theorem GA.clearT {A : zW} {B : Nat} (hG : GA A B) : GA (tClearT A) B := by
  obtain ⟨hC, hH, hS, hT, hs, hlm, hu, hv, hb⟩ := hG
  exact ⟨hC, hH, hS, ⟨Nat.zero_le _, fun i hi => absurd hi (Nat.not_lt_zero _)⟩, hs, hlm, hu, hv, hb⟩
theorem c_clearText {σ : zS} {o B : Nat} {A : zW} {q u P : Nat → Nat} (hG : GA A B) (hI : CIx σ o A q u P) (d : Nat) : zOC o (zEv (d + 20) mX10_clearText [.inr (.inl (some o))] σ) (nI (aTn A)) (tClearT A) σ := by
  obtain ⟨hR, ⟨r, hr⟩, hHQ, hHV, hS, hT⟩ := hI
  have hO := hR.1
  have g : zFr (fun x => x = o + 228) σ (zsi σ 385 (o + 228) 0) := zFr.si σ rfl
  rw [vX10_clearText]
  unfold fX10_clearText
  simp only [zlt_e, onR_s, nul_s, nul_n, chk_e, bnI_s, bnR_s, bnV_s, zi_si, zi_sr, zi_sl, zi_sa, zi_sq, zr_si, zr_sr, zr_sl, zr_sa, zr_sq, zl_si, zl_sr, zl_sl, zl_sa, zl_sq, zai_si, zai_sr, zai_sl, zai_sa, zai_sq, zar_si, zar_sr, zar_sl, zar_sa, zar_sq, zkd_si, zkd_sr, zkd_sl, zkd_sa, zkd_sq, zln_si, zln_sr, zln_sl, zln_sa, zln_sq, znx_si, znx_sr, znx_sl, znx_sa, znx_sq, hO.f.1, hO.f.2.2.2.2.2.1, hO.tx.1, if_true, hT.1]
  exact ⟨_, q, u, P, rfl, ⟨hR.fr hG.1.2.2.1 g (fun a ha => by unfold inC at ha; omega), ⟨r, hr.fr g (by omega)⟩, hHQ.fr g (by omega), hHV.fr hHQ hG.2.1.1 (fun i hi => (hG.2.1.2 i hi).2.2.1) g (fun a ha => by unfold inH at ha; omega), hS.fr hG.2.2.1 g (by omega) (fun a ha => by omega), by rw [zi_si, if_pos ⟨rfl, rfl⟩]; rfl, fun i hi => absurd hi (Nat.not_lt_zero _)⟩, g.mono (fun a ha => by omega)⟩
theorem m_clearText {σ : zS} {m : Nat} {A : zW} (hI : MIx σ m A) (d : Nat) : zOM m (zEv (d + 20) mX11_clearText [.inr (.inl (some m))] σ) (nI (aTn A)) (tClearT A) σ := by
  obtain ⟨hM, hV, hH, hU, hZ⟩ := hI.th
  have g0 : zFr (fun a => m ≤ a ∧ a < m + 22) σ (zsi σ 576 m 0) := zFr.si σ (by omega)
  have g : zFr (fun x => x = m) (zsi σ 576 m 0) (zsi (zsi σ 576 m 0) 583 m 0) := zFr.si _ rfl
  have ev : zi σ 583 m = nI (aTn A) := hI.2.2.2.2.2.1.1
  have hf : ∀ f, f ≠ 583 → zi (zsi (zsi σ 576 m 0) 583 m 0) f m = zi (zsi σ 576 m 0) f m := fun f hf => by rw [zi_si, if_neg (by omega)]
  rw [vX11_clearText]
  unfold fX11_clearText
  simp only [zlt_e, onR_s, nul_s, nul_n, chk_e, bnI_s, bnR_s, bnV_s, zi_si, zi_sr, zi_sl, zi_sa, zi_sq, zr_si, zr_sr, zr_sl, zr_sa, zr_sq, zl_si, zl_sr, zl_sl, zl_sa, zl_sq, zai_si, zai_sr, zai_sl, zai_sa, zai_sq, zar_si, zar_sr, zar_sl, zar_sa, zar_sq, zkd_si, zkd_sr, zkd_sl, zkd_sa, zkd_sq, zln_si, zln_sr, zln_sl, zln_sa, zln_sq, znx_si, znx_sr, znx_sl, znx_sa, znx_sq, hI.1.k, if_true]
  simp only [show ((583 : Nat) = 576) = False from by decide, false_and, if_false, ev]
  refine ⟨_, rfl, ⟨hM.fr g, hV.fr g (by omega), hH.fr g (by omega) (hf _ (by decide)), hU.fr g (by omega), ?_⟩, g0.tr (g.mono (fun a ha => by omega))⟩
  obtain ⟨a1, ⟨a2, a3⟩, ⟨a4, a5, a6⟩, a7, a8, a9⟩ := hZ
  exact ⟨fun s hs => ⟨fun e => (g.ai (by omega) s).trans ((a1 s hs).1 e), fun C e => ⟨(g.ai (by omega) s).trans ((a1 s hs).2 C e).1, ((a1 s hs).2 C e).2.fr g (by omega)⟩⟩, ⟨by rw [zi_si, if_pos ⟨rfl, rfl⟩]; rfl, fun i hi => absurd hi (Nat.not_lt_zero _)⟩, ⟨(hf _ (by decide)).trans a4, (hf _ (by decide)).trans a5, (hf _ (by decide)).trans a6⟩, (g.ai (by omega) _).trans a7, (g.ai (by omega) _).trans a8, (g.ai (by omega) _).trans a9⟩
