/-! loadStack: the class -/
theorem PicV.any (σ : zS) (p : Nat) : ∃ w h px, PicV σ p w h px := by
  have e : ∀ x : Int32, ∃ n, x = nI n := fun x => ⟨x.toBitVec.toNat, Int32.toBitVec_inj.1 (by
    show x.toBitVec = BitVec.ofNat 32 x.toBitVec.toNat
    simp)⟩
  obtain ⟨w, hw⟩ := e (zi σ 257 p)
  obtain ⟨h, hh⟩ := e (zi σ 258 p)
  exact ⟨w, h, fun x y => (zai σ (p + 1) (16 * y + x)).toInt, hw, hh, fun x y _ _ => i_of _⟩
theorem CIx.rd {σ τ : zS} {o B : Nat} {A : zW} {q u P r : Nat → Nat} (hG : GA A B) (h : CIx σ o A q u P) (g : zFr (inRd (o + 228) (o + 29)) σ τ) (h385 : zi τ 385 (o + 228) = zi σ 385 (o + 228)) (hr : CmQ τ (o + 29) r) : CIx τ o A q u P := by
  obtain ⟨hR, -, hHQ, hHV, hS, hT⟩ := h
  exact ⟨hR.fr hG.1.2.2.1 g (fun a ha => by unfold inC at ha; unfold inRd; omega), ⟨r, hr⟩, hHQ.fr g (by unfold inRd; omega), hHV.fr hHQ hG.2.1.1 (fun i hi => (hG.2.1.2 i hi).2.2.1) g (fun a ha => by unfold inH at ha; unfold inRd; omega), hS.fr hG.2.2.1 g (by unfold inRd; omega) (fun a ha => by unfold inRd; omega), h385.trans hT.1, fun i hi => (g.ai (by unfold inRd; omega) i).trans (hT.2 i hi)⟩
def aPs (A : zW) : zPa := pS (aTn A) (aTx A)
def rLoad (A : zW) : Int32 := if (aPs A).1 = true then nI (aPs A).2.2.1 else (-10) - nI (kS (aPs A).2.1)
def loadC (A : zW) : zC := (cW (aC A), cH (aC A), (aPs A).2.2.1, cP (aC A), (aPs A).2.2.2)
def tLoad (A : zW) : zW := if (aPs A).1 = true then tClearT (aTil (aSet (aPush A) (loadC A)) (fun _ => 0)) else A
theorem pS_G (A : zW) : kS (aPs A).2.1 ≤ aTn A ∧ ((aPs A).1 = true → (aPs A).2.2.1 ≤ 8 ∧ ∀ i, i < (aPs A).2.2.1 → GL ((aPs A).2.2.2 i)) := pA_G 9 _ 0 _ rfl (Nat.zero_le _) (nx_G (Nat.zero_le _)) (fun i hi => absurd hi (Nat.not_lt_zero _))
theorem GC.load {A : zW} {B : Nat} (hG : GA A B) (h : (aPs A).1 = true) : GC (loadC A) := ⟨hG.1.1, hG.1.2.1, ((pS_G A).2 h).1, hG.1.2.2.2.1, ((pS_G A).2 h).2⟩
theorem GA.clr {A : zW} {B : Nat} {C : zC} (hG : GA A B) (hC : GC C) : GA (aTil (aSet A C) (fun _ => 0)) B := by
  obtain ⟨h1, h2, h3, h4, h5, h6, h7, h8, h9⟩ := hG
  exact ⟨hC, h2, h3, h4, h5, h6, fun _ _ => Nat.zero_le _, fun _ _ h => absurd rfl h, h9⟩
theorem GA.load {A : zW} {B : Nat} (hG : GA A B) : GA (tLoad A) B := by
  unfold tLoad
  by_cases h : (aPs A).1 = true
  · rw [if_pos h]
    exact (hG.push.clr (GC.load hG h)).clearT
  · rw [if_neg h]
    exact hG
theorem CIx.clrT {σ : zS} {o B : Nat} {A : zW} {q u P : Nat → Nat} (hG : GA A B) (hI : CIx σ o A q u P) : CIx (zsi σ 385 (o + 228) 0) o (tClearT A) q u P := by
  obtain ⟨hR, ⟨r, hr⟩, hHQ, hHV, hS, hT⟩ := hI
  have g : zFr (fun x => x = o + 228) σ (zsi σ 385 (o + 228) 0) := zFr.si σ rfl
  exact ⟨hR.fr hG.1.2.2.1 g (fun a ha => by unfold inC at ha; omega), ⟨r, hr.fr g (by omega)⟩, hHQ.fr g (by omega), hHV.fr hHQ hG.2.1.1 (fun i hi => (hG.2.1.2 i hi).2.2.1) g (fun a ha => by unfold inH at ha; omega), hS.fr hG.2.2.1 g (by omega) (fun a ha => by omega), by rw [zi_si, if_pos ⟨rfl, rfl⟩]; rfl, fun i hi => absurd hi (Nat.not_lt_zero _)⟩
theorem c_loadStack {σ : zS} {o B : Nat} {A : zW} {q u P : Nat → Nat} (hG : GA A B) (hB : B < 2 ^ 30) (hK : StK σ o) (hW : StW σ o) (hI : CIx σ o A q u P) (d : Nat) : zOC o (zEv (d + 20) mX10_loadStack [.inr (.inl (some o))] σ) (rLoad A) (tLoad A) σ := by
  have hO := hI.1.1
  obtain ⟨r, hr⟩ := hI.2.1
  have hTx := hI.2.2.2.2.2
  have hTR : TR σ (o + 228) (aTn A) (aTx A) := ⟨hO.tx, hTx, hG.2.2.2.1.1, hG.2.2.2.1.2⟩
  obtain ⟨τ, k1, k2, k3, k4⟩ := s_readInto hTR (show o ≤ o + 29 by omega) (by omega) hK hW hO.dr hr (d + 9)
  have k1' : zEv (d + 19) mX8_readInto [.inr (.inl (some (o + 228))), .inr (.inl (some (o + 29)))] σ = some (some (.inl (if (aPs A).1 = true then -1 else nI (kS (aPs A).2.1))), τ) := k1
  have k4' : (aPs A).1 = true → zi τ 2 (o + 29) = nI (aPs A).2.2.1 ∧ ∀ i, i < (aPs A).2.2.1 → LyV τ (o + 29 + 4 + 3 * r i) ((aPs A).2.2.2 i) := k4
  have hr2 := hr.fr k2 (by unfold inRd; omega)
  have hI2 := hI.rd hG k2 k3 hr2
  have hO2 := hI2.1.1
  have hPG := pS_G A
  have hkS : kS (aPs A).2.1 ≤ 160 := Nat.le_trans hPG.1 hG.2.2.2.1.1
  have fR : zFr (fun a => o ≤ a ∧ a < o + 257) σ τ := k2.mono (fun a ha => by unfold inRd at ha; omega)
  rw [vX10_loadStack]
  unfold fX10_loadStack rLoad tLoad
  by_cases hp : (aPs A).1 = true
  · rw [if_pos hp] at k1'
    simp only [zlt_e, onR_s, nul_s, nul_n, chk_e, bnI_s, bnR_s, bnV_s, zi_si, zi_sr, zi_sl, zi_sa, zi_sq, zr_si, zr_sr, zr_sl, zr_sa, zr_sq, zl_si, zl_sr, zl_sl, zl_sa, zl_sq, zai_si, zai_sr, zai_sl, zai_sa, zai_sq, zar_si, zar_sr, zar_sl, zar_sa, zar_sq, zkd_si, zkd_sr, zkd_sl, zkd_sa, zkd_sq, zln_si, zln_sr, zln_sl, zln_sa, zln_sq, znx_si, znx_sr, znx_sl, znx_sa, znx_sq, hO.f.1, hO.f.2.1, hO.f.2.2.1, hO.f.2.2.2.2.2.1, hO.tx.1, if_true, k1', if_pos hp, show ((-1 : Int32) < 0) = True from by decide]
    obtain ⟨k5, k6⟩ := k4' hp
    obtain ⟨g1, g2⟩ := hPG.2 hp
    obtain ⟨υ, u', l1, l2, l3⟩ := s_cpush hG hI2 (d + 13)
    have hO3 := l3.1.1
    have hr3 := hr2.fr l2 (by unfold inH; omega)
    obtain ⟨w, h, px, hpx⟩ := PicV.any υ (o + 30)
    have hv3 : CmV υ (o + 29) r (w, h, (aPs A).2.2.1, px, (aPs A).2.2.2) := ⟨hpx, (l2.i (by unfold inH; omega) _).trans k5, fun i hi => (k6 i hi).fr l2 (fun a ha => by
      have hi : i < (aPs A).2.2.1 := hi
      have := (hr.1 i (by omega)).2
      unfold inL at ha
      unfold inH
      omega)⟩
    obtain ⟨ω, m1, m2, m3, m4⟩ := s_copyLayers (c := o + 1) (s := o + 29) hO3.c hO3.dr (by omega) l3.1.2.1 hr3 hv3 g1 g2 (d + 15)
    have g : zFr (inNew o) υ ω := m2.mono (fun a ha => by unfold inD at ha; unfold inNew inC; omega)
    have hO4 := hO3.fr g
    have hU4 : TcU ω (o + 230) (aU A) := l3.1.2.2.2.2.1.fr g (by unfold inNew inC; omega) (by unfold inNew inC; omega)
    have hv4 : CmV ω (o + 1) q (loadC A) := ⟨l3.1.2.2.1.1.fr m2 (by unfold inD; omega) (by unfold inD; omega), m3, m4⟩
    obtain ⟨ψ, n1, n2, n3, n4⟩ := s_removeAll hO4.tc hU4 (hG.u31 hB) (d + 15)
    have hn4 : zi ω 65 (o + 57) = nI (aHn (aPush A)) := (m2.i (by unfold inD; omega) _).trans l3.2.2.2.1.1
    have hI5 := l3.anew hG.push g n2 n4 n3 hv4 (GC.load hG hp) hn4 (Nat.le_refl _)
    have hO5 := hI5.1.1
    have hI6 := hI5.clrT (hG.push.clr (GC.load hG hp))
    have hO6 := hI6.1.1
    have hc6 : zi (zsi ψ 385 (o + 228) 0) 2 (o + 1) = nI (aPs A).2.2.1 := hI6.1.2.2.1.2.1
    simp only [zlt_e, onR_s, nul_s, nul_n, chk_e, bnI_s, bnR_s, bnV_s, zi_si, zi_sr, zi_sl, zi_sa, zi_sq, zr_si, zr_sr, zr_sl, zr_sa, zr_sq, zl_si, zl_sr, zl_sl, zl_sa, zl_sq, zai_si, zai_sr, zai_sl, zai_sa, zai_sq, zar_si, zar_sr, zar_sl, zar_sa, zar_sq, zkd_si, zkd_sr, zkd_sl, zkd_sa, zkd_sq, zln_si, zln_sr, zln_sl, zln_sa, zln_sq, znx_si, znx_sr, znx_sl, znx_sa, znx_sq, hO2.f.1, hO2.f.2.1, hO2.f.2.2.2.1, hO2.h.1, if_true, l1, hO3.f.1, hO3.f.2.1, hO3.f.2.2.1, hO3.c.1, m1, hO4.f.1, hO4.f.2.2.2.2.2.2.1, hO4.tc.1, n1, hO5.f.1, hO5.f.2.1, hO5.f.2.2.2.2.2.1, hO5.tx.1, hO5.c.1, s_layerCount hO6.c]
    exact ⟨zsi ψ 385 (o + 228) 0, q, u', P, by rw [if_neg (by omega), ← hc6, zi_si, if_neg (by omega)], hI6, ((fR.tr (l2.mono (fun a ha => by unfold inH at ha; omega))).tr ((g.mono (fun a ha => by unfold inNew inC at ha; omega)).tr (n2.mono (fun a ha => by unfold inU at ha; omega)))).tr (zFr.si _ (by omega))⟩
  · rw [if_neg hp] at k1'
    have hneg : ¬ (nI (kS (aPs A).2.1) < 0) := fun q => by have := (n_lt (a := kS (aPs A).2.1) (b := 0) (by omega) (by decide)).mp q; omega
    simp only [zlt_e, onR_s, nul_s, nul_n, chk_e, bnI_s, bnR_s, bnV_s, zi_si, zi_sr, zi_sl, zi_sa, zi_sq, zr_si, zr_sr, zr_sl, zr_sa, zr_sq, zl_si, zl_sr, zl_sl, zl_sa, zl_sq, zai_si, zai_sr, zai_sl, zai_sa, zai_sq, zar_si, zar_sr, zar_sl, zar_sa, zar_sq, zkd_si, zkd_sr, zkd_sl, zkd_sa, zkd_sq, zln_si, zln_sr, zln_sl, zln_sa, zln_sq, znx_si, znx_sr, znx_sl, znx_sa, znx_sq, hO.f.1, hO.f.2.1, hO.f.2.2.1, hO.f.2.2.2.2.2.1, hO.tx.1, if_true, k1', if_neg hp, if_neg hneg]
    exact ⟨τ, q, u, P, rfl, hI2, fR⟩
