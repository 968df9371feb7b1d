/-! setTileSize -/
def tTsT (T : zT) (n : Nat) : zT := (n, tLm T, tCk T, tCp T, tFd T, tDr T)
def tTs (A : zW) (x : Int32) : zW := if 2 ≤ x.toInt ∧ x.toInt ≤ 8 then (aC A, (aHn A, aHk A), aS A, (aTn A, aTx A), fun _ => 0, tTsT (aT A) x.toNatClampNeg) else A
def rTs (A : zW) (x : Int32) : Int32 := if 2 ≤ x.toInt ∧ x.toInt ≤ 8 then nI (cnt (aU A) 512) else -1001
theorem GA.ts {A : zW} {B : Nat} (hG : GA A B) (x : Int32) : GA (tTs A x) B := by
  unfold tTs
  split
  · next hx =>
    obtain ⟨hC, hH, hS, hT, hs, hlm, hu, hv, hb⟩ := hG
    have ex : x.toNatClampNeg = x.toInt.toNat := rfl
    refine ⟨hC, hH, hS, hT, ?_, hlm, fun _ _ => Nat.zero_le _, fun _ _ h => absurd rfl h, hb⟩
    show 2 ≤ x.toNatClampNeg ∧ x.toNatClampNeg ≤ 8
    omega
  · exact hG
theorem c_setTileSize {σ : zS} {o B : Nat} {A : zW} {q u P : Nat → Nat} (hG : GA A B) (hB : B < 2 ^ 30) (hI : CIx σ o A q u P) (x : Int32) (d : Nat) : zOC o (zEv (d + 20) mX10_setTileSize [.inr (.inl (some o)), .inl x] σ) (rTs A x) (tTs A x) σ := by
  have hI0 := hI
  obtain ⟨hR, ⟨r, hr⟩, hHQ, hHV, hS, hT⟩ := hI
  have hO := hR.1
  have hn8 := hG.1.2.2.1
  have w1 : ((2 : Int32) ≤ x ∧ x ≤ 8) ↔ 2 ≤ x.toInt ∧ x.toInt ≤ 8 := w_in (a := 2) (b := 8) (by decide) (by decide) (by decide) (by decide)
  rw [vX10_setTileSize]
  unfold fX10_setTileSize rTs tTs
  simp only [zlt_e, onR_s, nul_s, nul_n, chk_e, bnI_s, bnR_s, bnV_s, zi_si, zi_sr, zi_sl, zi_sa, zi_sq, zr_si, zr_sr, zr_sl, zr_sa, zr_sq, zl_si, zl_sr, zl_sl, zl_sa, zl_sq, zai_si, zai_sr, zai_sl, zai_sa, zai_sq, zar_si, zar_sr, zar_sl, zar_sa, zar_sq, zkd_si, zkd_sr, zkd_sl, zkd_sa, zkd_sq, zln_si, zln_sr, zln_sl, zln_sa, zln_sq, znx_si, znx_sr, znx_sl, znx_sa, znx_sq, s_within, w1, zb_0, hO.f.1, hO.f.2.2.2.2.2.2.1, hO.tc.1, if_true]
  by_cases hx : 2 ≤ x.toInt ∧ x.toInt ≤ 8
  · rw [if_neg (fun q => q hx), if_pos hx, if_pos hx]
    have ek : x.toNatClampNeg = x.toInt.toNat := rfl
    have ex : x = nI x.toNatClampNeg := n_of (by omega)
    generalize x.toNatClampNeg = k at *
    subst ex
    have g1 : zFr (inU (o + 230)) σ (zsi σ 450 (o + 230) (nI k)) := zFr.si σ (Or.inl rfl)
    obtain ⟨t1, t2, t3, t4, t5, t6⟩ := hR.2.2.2.2.2.1
    have hTF : TcF (zsi σ 450 (o + 230) (nI k)) (o + 230) (tTsT (aT A) k) := ⟨by rw [zi_si, if_pos ⟨rfl, rfl⟩]; rfl, by rw [zi_si, if_neg (by omega)]; exact t2, by rw [zi_si, if_neg (by omega)]; exact t3, by rw [zi_si, if_neg (by omega)]; exact t4, by rw [zi_si, if_neg (by omega)]; exact t5, by rw [zi_si, if_neg (by omega)]; exact t6⟩
    have hTU : TcU (zsi σ 450 (o + 230) (nI k)) (o + 230) (aU A) := ⟨by rw [zi_si, if_neg (by omega)]; exact hR.2.2.2.2.1.1, hR.2.2.2.2.1.2⟩
    obtain ⟨τ, h1, h2, h3, h4⟩ := s_removeAll (hO.fr g1).tc hTU (hG.u31 hB) (d + 15)
    have g := g1.tr h2
    simp only [h1, bnI_s]
    refine ⟨τ, q, u, P, rfl, ⟨⟨hO.fr g, hR.2.1.fr g (by unfold inU; omega), hR.2.2.1.fr hR.2.1 hn8 g (fun a ha => by unfold inC at ha; unfold inU; omega), hR.2.2.2.1.fr g (by unfold inU; omega), h3, hTF.kp h4, hR.2.2.2.2.2.2.1.fr g (fun a h1 h2 => by unfold inU; omega), fun j hj hz => absurd rfl hz, rfl, fun _ _ => Nat.zero_le _⟩, ⟨r, hr.fr g (by unfold inU; omega)⟩, hHQ.fr g (by unfold inU; omega), hHV.fr hHQ hG.2.1.1 (fun i hi => (hG.2.1.2 i hi).2.2.1) g (fun a ha => by unfold inH at ha; unfold inU; omega), hS.fr hG.2.2.1 g (by unfold inU; omega) (fun a ha => by unfold inU; omega), hT.fr g (by unfold inU; omega) (by unfold inU; omega)⟩, g.mono (fun a ha => by unfold inU at ha; omega)⟩
  · rw [if_pos hx, if_neg hx, if_neg hx]
    exact ⟨σ, q, u, P, rfl, hI0, zFr.rf σ⟩
