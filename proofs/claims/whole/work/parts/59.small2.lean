/-! small calls: append, counter -/
def tApp (A : zW) (x : Int32) : zW := if 1 ≤ x.toInt ∧ x.toInt ≤ 255 then (if aTn A = 160 then A else (aC A, (aHn A, aHk A), aS A, (aTn A + 1, fun i => if i = aTn A then x.toNatClampNeg else aTx A i), aU A, aT A)) else A
def rApp (A : zW) (x : Int32) : Int32 := if 1 ≤ x.toInt ∧ x.toInt ≤ 255 then (if aTn A = 160 then -1003 else nI (aTn A + 1)) else -1001
theorem GA.app {A : zW} {B : Nat} (hG : GA A B) (x : Int32) : GA (tApp A x) B := by
  unfold tApp
  split
  · next hx =>
    split
    · exact hG
    · next hn =>
      obtain ⟨hC, hH, hS, hT, hs, hlm, hu, hv, hb⟩ := hG
      refine ⟨hC, hH, hS, ⟨by show aTn A + 1 ≤ 160; omega, fun i hi => ?_⟩, hs, hlm, hu, hv, hb⟩
      have hi : i < aTn A + 1 := hi
      show 1 ≤ (if i = aTn A then x.toNatClampNeg else aTx A i) ∧ (if i = aTn A then x.toNatClampNeg else aTx A i) ≤ 255
      by_cases e : i = aTn A
      · rw [if_pos e]
        have ex : x.toNatClampNeg = x.toInt.toNat := rfl
        omega
      · rw [if_neg e]
        exact hT.2 i (by omega)
  · exact hG
theorem m_append {σ : zS} {m B : Nat} {A : zW} (hG : GA A B) (hI : MIx σ m A) (x : Int32) (d : Nat) : zOM m (zEv (d + 20) mX11_append [.inr (.inl (some m)), .inl x] σ) (rApp A x) (tApp A x) σ := by
  have hI1 := hI.th
  have g0 : zFr (fun a => m ≤ a ∧ a < m + 22) σ (zsi σ 576 m 0) := zFr.si σ (by omega)
  have ev : zi (zsi σ 576 m 0) 583 m = nI (aTn A) := hI1.2.2.2.2.2.1.1
  have w1 : ((1 : Int32) ≤ x ∧ x ≤ 255) ↔ 1 ≤ x.toInt ∧ x.toInt ≤ 255 := w_in (a := 1) (b := 255) (by decide) (by decide) (by decide) (by decide)
  have hn := hG.2.2.2.1.1
  rw [vX11_append]
  unfold fX11_append rApp tApp
  simp only [zlt_e, chk_e, bnI_s, hI.1.k, if_true, zkd_si, s_in, zb_0, w1, ev]
  by_cases hx : 1 ≤ x.toInt ∧ x.toInt ≤ 255
  · rw [if_neg (fun q => q hx), if_pos hx, if_pos hx]
    have e160 : (nI (aTn A) = 160) ↔ aTn A = 160 := n_eq (by omega) (by decide)
    simp only [e160]
    by_cases hf : aTn A = 160
    · rw [if_pos hf, if_pos hf, if_pos hf]
      exact ⟨_, rfl, hI1, g0⟩
    · rw [if_neg hf, if_neg hf, if_neg hf]
      have hM := hI1.1
      have g : zFr (fun y => y = m ∨ y = m + 5) (zsi σ 576 m 0) (zsi (zsa (zsi σ 576 m 0) (m + 5) (aTn A) x) 583 m (nI (aTn A + 1))) := (zFr.sa _ (Or.inr rfl)).tr (zFr.si _ (Or.inl rfl))
      have hfz : ∀ f, f ≠ 583 → zi (zsi (zsa (zsi σ 576 m 0) (m + 5) (aTn A) x) 583 m (nI (aTn A + 1))) f m = zi (zsi σ 576 m 0) f m := fun f hf => by rw [zi_si, if_neg (by omega), zi_sa]
      have ex : x = nI x.toNatClampNeg := n_of (by omega)
      simp only [onR_s, hM.tx.1, hM.tx.2.1, hM.tx.2.2, n_zin (show aTn A < 2 ^ 31 by omega), n_tn (show aTn A < 2 ^ 31 by omega), show aTn A < 160 by omega, and_self, if_true, zkd_sa, zkd_si, hI.1.k, zi_sa, zi_si]
      rw [show zi σ 583 m = nI (aTn A) from hI.2.2.2.2.2.1.1]
      simp only [show ((583 : Nat) = 576) = False from by decide, false_and, if_false, nI_1, hI.1.k, hI.1.tx.2.1, if_true, and_self]
      refine ⟨_, rfl, ⟨hM.fr g, hI1.2.1.fr g (by omega), hI1.2.2.1.fr g (by omega) (hfz _ (by decide)), hI1.2.2.2.1.fr g (by omega), ?_⟩, g0.tr (g.mono (fun a ha => by omega))⟩
      obtain ⟨a1, ⟨a2, a3⟩, ⟨a4, a5, a6⟩, a7, a8, a9⟩ := hI1.2.2.2.2
      refine ⟨fun s hs => ⟨fun e => (g.ai (by omega) s).trans ((a1 s hs).1 e), fun C e => ⟨(g.ai (by omega) s).trans ((a1 s hs).2 C e).1, ((a1 s hs).2 C e).2.fr g (by omega)⟩⟩, ⟨by rw [zi_si, if_pos ⟨rfl, rfl⟩]; rfl, fun i hi => ?_⟩, ⟨(hfz _ (by decide)).trans a4, (hfz _ (by decide)).trans a5, (hfz _ (by decide)).trans a6⟩, (g.ai (by omega) _).trans a7, (g.ai (by omega) _).trans a8, (g.ai (by omega) _).trans a9⟩
      have hi : i < aTn A + 1 := hi
      rw [zai_si, zai_sa]
      show _ = nI (if i = aTn A then x.toNatClampNeg else aTx A i)
      by_cases e : i = aTn A
      · rw [if_pos ⟨rfl, e⟩, if_pos e, ← ex]
      · rw [if_neg (by omega), if_neg e]
        exact a3 i (by omega)
  · rw [if_pos hx, if_neg hx, if_neg hx]
    exact ⟨_, rfl, hI1, g0⟩
set_option maxRecDepth 20000 in
theorem ch_n {k : Nat} (hk : k < 256) : ((nI k).toUInt32 % 65536).toInt32 = nI k ∧ vp_nar .char (nI k) = nI k := by
  have h : ∀ k : Fin 256, ((nI k.1).toUInt32 % 65536).toInt32 = nI k.1 ∧ vp_nar .char (nI k.1) = nI k.1 := by decide
  exact h ⟨k, hk⟩
theorem c_append {σ : zS} {o B : Nat} {A : zW} {q u P : Nat → Nat} (hG : GA A B) (hI : CIx σ o A q u P) (x : Int32) (d : Nat) : zOC o (zEv (d + 20) mX10_append [.inr (.inl (some o)), .inl x] σ) (rApp A x) (tApp A x) σ := by
  have hI0 := hI
  obtain ⟨hR, ⟨r, hr⟩, hHQ, hHV, hS, hT⟩ := hI
  have hO := hR.1
  have w1 : ((1 : Int32) ≤ x ∧ x ≤ 255) ↔ 1 ≤ x.toInt ∧ x.toInt ≤ 255 := w_in (a := 1) (b := 255) (by decide) (by decide) (by decide) (by decide)
  have hn := hG.2.2.2.1.1
  have e160 : (nI (aTn A) < 160) ↔ aTn A < 160 := n_lt (by omega) (by decide)
  rw [vX10_append]
  unfold fX10_append rApp tApp
  simp only [zlt_e, onR_s, nul_s, nul_n, chk_e, bnI_s, bnR_s, bnV_s, zi_si, zi_sr, zi_sl, zi_sa, zi_sq, zr_si, zr_sr, zr_sl, zr_sa, zr_sq, zl_si, zl_sr, zl_sl, zl_sa, zl_sq, zai_si, zai_sr, zai_sl, zai_sa, zai_sq, zar_si, zar_sr, zar_sl, zar_sa, zar_sq, zkd_si, zkd_sr, zkd_sl, zkd_sa, zkd_sq, zln_si, zln_sr, zln_sl, zln_sa, zln_sq, znx_si, znx_sr, znx_sl, znx_sa, znx_sq, s_within, w1, zb_0, hO.f.1, hO.f.2.2.2.2.2.1, hO.tx.1, if_true, hT.1, e160]
  by_cases hx : 1 ≤ x.toInt ∧ x.toInt ≤ 255
  · rw [if_neg (fun q => q hx), if_pos hx, if_pos hx]
    by_cases hf : aTn A = 160
    · rw [if_neg (by omega), if_pos hf, if_pos hf]
      exact ⟨σ, q, u, P, rfl, hI0, zFr.rf σ⟩
    · rw [if_pos (by omega), if_neg hf, if_neg hf]
      have ek : x.toNatClampNeg = x.toInt.toNat := rfl
      have ex : x = nI x.toNatClampNeg := n_of (by omega)
      have hk : x.toNatClampNeg < 256 := by omega
      generalize hK : x.toNatClampNeg = k at *
      subst ex
      obtain ⟨c1, c2⟩ := ch_n hk
      have g : zFr (fun y => y = o + 228 ∨ y = o + 229) σ (zsi (zsa σ (o + 229) (aTn A) (nI k)) 385 (o + 228) (nI (aTn A + 1))) := (zFr.sa _ (Or.inr rfl)).tr (zFr.si _ (Or.inl rfl))
      have e1 : zEv (d + 19) mX8_add [.inr (.inl (some (o + 228))), .inl (nI k)] σ = some (none, zsi (zsa σ (o + 229) (aTn A) (nI k)) 385 (o + 228) (nI (aTn A + 1))) := by
        rw [vX8_add]
        unfold fX8_add
        simp only [zlt_e, onR_s, nul_s, nul_n, chk_e, bnI_s, bnR_s, bnV_s, zi_si, zi_sr, zi_sl, zi_sa, zi_sq, zr_si, zr_sr, zr_sl, zr_sa, zr_sq, zl_si, zl_sr, zl_sl, zl_sa, zl_sq, zai_si, zai_sr, zai_sl, zai_sa, zai_sq, zar_si, zar_sr, zar_sl, zar_sa, zar_sq, zkd_si, zkd_sr, zkd_sl, zkd_sa, zkd_sq, zln_si, zln_sr, zln_sl, zln_sa, zln_sq, znx_si, znx_sr, znx_sl, znx_sa, znx_sq, hO.tx.1, hO.tx.2.1, hO.tx.2.2.1, hO.tx.2.2.2, if_true, hT.1, nL 0, n_ofNat, n_lt (show aTn A < 2 ^ 31 by omega) (show 0 < 2 ^ 31 by decide), Nat.not_lt_zero, if_false, n_lt (show aTn A < 2 ^ 31 by omega) (show 160 < 2 ^ 31 by decide), show aTn A < 160 by omega, n_zin (show aTn A < 2 ^ 31 by omega), n_tn (show aTn A < 2 ^ 31 by omega), c1, c2, and_self, nI_1]
      simp only [zlt_e, onR_s, nul_s, nul_n, chk_e, bnI_s, bnR_s, bnV_s, zi_si, zi_sr, zi_sl, zi_sa, zi_sq, zr_si, zr_sr, zr_sl, zr_sa, zr_sq, zl_si, zl_sr, zl_sl, zl_sa, zl_sq, zai_si, zai_sr, zai_sl, zai_sa, zai_sq, zar_si, zar_sr, zar_sl, zar_sa, zar_sq, zkd_si, zkd_sr, zkd_sl, zkd_sa, zkd_sq, zln_si, zln_sr, zln_sl, zln_sa, zln_sq, znx_si, znx_sr, znx_sl, znx_sa, znx_sq, e1, hO.f.1, hO.f.2.2.2.2.2.1, hO.tx.1, if_true, and_self]
      refine ⟨_, q, u, P, rfl, ⟨hR.fr hG.1.2.2.1 g (fun a ha => by unfold inC at ha; omega), ⟨r, hr.fr g (by omega)⟩, hHQ.fr g (by omega), hHV.fr hHQ hG.2.1.1 (fun i hi => (hG.2.1.2 i hi).2.2.1) g (fun a ha => by unfold inH at ha; omega), hS.fr hG.2.2.1 g (by omega) (fun a ha => by omega), by rw [zi_si, if_pos ⟨rfl, rfl⟩]; rfl, fun i hi => ?_⟩, g.mono (fun a ha => by omega)⟩
      have hi : i < aTn A + 1 := hi
      rw [zai_si, zai_sa]
      show _ = nI (if i = aTn A then k else aTx A i)
      by_cases e : i = aTn A
      · rw [if_pos ⟨rfl, e⟩, if_pos e]
      · rw [if_neg (by omega), if_neg e]
        exact hT.2 i (by omega)
  · rw [if_pos hx, if_neg hx, if_neg hx]
    exact ⟨σ, q, u, P, rfl, hI0, zFr.rf σ⟩
