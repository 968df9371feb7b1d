/-! small calls on both sides: clearCache, clearText -/
def tClearC (A : zW) : zW := (aC A, (aHn A, aHk A), aS A, (aTn A, aTx A), fun _ => 0, aT A)
theorem cnt_zero : ∀ n, cnt (fun _ => 0) n = 0
  | 0 => rfl
  | n + 1 => by show cnt (fun _ => 0) n + 0 = 0; rw [cnt_zero n]
theorem GA.clearC {A : zW} {B : Nat} (hG : GA A B) : GA (tClearC A) B := by
  obtain ⟨hC, hH, hS, hT, hs, hlm, hu, hv, hb⟩ := hG
  exact ⟨hC, hH, hS, hT, hs, hlm, fun _ _ => Nat.zero_le _, fun _ _ h => absurd rfl h, hb⟩
theorem CIx.rem {σ τ : zS} {o B : Nat} {A : zW} {q u P : Nat → Nat} {v : Nat → Nat} (hG : GA A B) (hI : CIx σ o A q u P) (g : zFr (inU (o + 230)) σ τ) (k : keepU (o + 230) σ τ) (hU : TcU τ (o + 230) v) (hv : ∀ j, j < 512 → v j = 0 ∨ v j = aU A j) : CIx τ o (aC A, (aHn A, aHk A), aS A, (aTn A, aTx A), v, aT A) q u P := by
  obtain ⟨hR, ⟨r, hr⟩, hHQ, hHV, hS, hT⟩ := hI
  have hn8 := hG.1.2.2.1
  exact ⟨hR.rem hn8 g k hU hv, ⟨r, hr.fr g (by unfold inU; omega)⟩, hHQ.fr g (by unfold inU; omega), hHV.fr hHQ hG.2.1.1 (fun i hi => (hG.2.1.2 i hi).2.2.1) g (fun a ha => by unfold inH at ha; unfold inU; omega), hS.fr hG.2.2.1 g (by unfold inU; omega) (fun a ha => by unfold inU; omega), hT.fr g (by unfold inU; omega) (by unfold inU; omega)⟩
theorem c_clearCache {σ : zS} {o B : Nat} {A : zW} {q u P : Nat → Nat} (hG : GA A B) (hB : B < 2 ^ 30) (hI : CIx σ o A q u P) (d : Nat) : zOC o (zEv (d + 20) mX10_clearCache [.inr (.inl (some o))] σ) (nI (cnt (aU A) 512)) (tClearC A) σ := by
  have hR := hI.1
  have hO := hR.1
  obtain ⟨τ, h1, h2, h3, h4⟩ := s_removeAll hO.tc hR.2.2.2.2.1 (hG.u31 hB) (d + 15)
  rw [vX10_clearCache]
  unfold fX10_clearCache
  simp only [zlt_e, onR_s, nul_s, nul_n, chk_e, bnI_s, bnR_s, bnV_s, zi_si, zi_sr, zi_sl, zi_sa, zi_sq, zr_si, zr_sr, zr_sl, zr_sa, zr_sq, zl_si, zl_sr, zl_sl, zl_sa, zl_sq, zai_si, zai_sr, zai_sl, zai_sa, zai_sq, zar_si, zar_sr, zar_sl, zar_sa, zar_sq, zkd_si, zkd_sr, zkd_sl, zkd_sa, zkd_sq, zln_si, zln_sr, zln_sl, zln_sa, zln_sq, znx_si, znx_sr, znx_sl, znx_sa, znx_sq, hO.f.1, hO.f.2.2.2.2.2.2.1, hO.tc.1, if_true, h1]
  exact ⟨τ, q, u, P, rfl, hI.rem hG h2 h4 h3 (fun _ _ => Or.inl rfl), h2.mono (fun a ha => by unfold inU at ha; omega)⟩
def tClearT (A : zW) : zW := (aC A, (aHn A, aHk A), aS A, (0, aTx A), aU A, aT A)
theorem GA.clearT {A : zW} {B : Nat} (hG : GA A B) : GA (tClearT A) B := by
  obtain ⟨hC, hH, hS, hT, hs, hlm, hu, hv, hb⟩ := hG
  exact ⟨hC, hH, hS, ⟨Nat.zero_le _, fun i hi => absurd hi (Nat.not_lt_zero _)⟩, hs, hlm, hu, hv, hb⟩
