/-! undo, restore -/
def aHis (A : zW) (n : Nat) : zW := (aC A, (n, aHk A), aS A, (aTn A, aTx A), aU A, aT A)
def inNew (o a : Nat) : Prop := a = o + 57 ∨ (inC (o + 1) a ∧ a ≠ o + 4)
/-- another composition, and no tiles -/
theorem CIx.anew {σ τ υ : zS} {o n B : Nat} {A : zW} {q u P : Nat → Nat} {C : zC} (hG : GA A B) (hI : CIx σ o A q u P) (g : zFr (inNew o) σ τ) (gu : zFr (inU (o + 230)) τ υ) (k : keepU (o + 230) τ υ) (hU : TcU υ (o + 230) (fun _ => 0)) (hv : CmV τ (o + 1) q C) (hC : GC C) (hn : zi τ 65 (o + 57) = nI n) (hn2 : n ≤ aHn A) : CIx υ o (aTil (aSet (aHis A n) C) (fun _ => 0)) q u P := by
  obtain ⟨hR, ⟨r, hr⟩, hHQ, hHV, hS, hT⟩ := hI
  have hn6 := hG.2.1.1
  have g2 : zFr (fun a => inNew o a ∨ inU (o + 230) a) σ υ := (g.mono (fun a ha => Or.inl ha)).tr (gu.mono (fun a ha => Or.inr ha))
  have hTF : TcF τ (o + 230) (aT A) := hR.2.2.2.2.2.1.fr g (by unfold inNew inC; omega)
  refine ⟨⟨hR.1.fr g2, hR.2.1.fr g2 (by unfold inNew inC inU; omega), hv.fr (hR.2.1.fr g (by unfold inNew inC; omega)) hC.2.2.1 gu (fun a ha => by unfold inC at ha; unfold inU; omega), hR.2.2.2.1.fr g2 (by unfold inNew inC inU; omega), hU, hTF.kp k, hR.2.2.2.2.2.2.1.fr g2 (fun a h1 h2 => by unfold inNew inC inU; omega), fun j hj hz => absurd rfl hz, rfl, fun _ _ => Nat.zero_le _⟩, ⟨r, hr.fr g2 (by unfold inNew inC inU; omega)⟩, hHQ.fr g2 (by unfold inNew inC inU; omega), ⟨(gu.i (by unfold inU; omega) _).trans hn, fun i hi => (hHV.2.1 i hi).fr g2 (by unfold inNew inC inU; omega), fun i hi => ?_⟩, hS.fr hG.2.2.1 g2 (by unfold inNew inC inU; omega) (fun a ha => by unfold inNew inC inU; omega), hT.fr g2 (by unfold inNew inC inU; omega) (by unfold inNew inC inU; omega)⟩
  have hi : i < n := hi
  have hui := (hHQ.1 i (by omega)).2
  exact (hHV.2.2 i (by omega)).fr (hHV.2.1 _ hui) (hG.2.1.2 i (by omega)).2.2.1 g2 (fun a ha => by unfold inC at ha; unfold inNew inC inU; omega)
theorem GA.anew {A : zW} {B n : Nat} {C : zC} (hG : GA A B) (hC : GC C) (hn : n ≤ aHn A) : GA (aTil (aSet (aHis A n) C) (fun _ => 0)) B := by
  obtain ⟨_, hH, hS, hT, hs, hlm, hu, hv, hb⟩ := hG
  exact ⟨hC, ⟨Nat.le_trans hn hH.1, fun i hi => hH.2 i (Nat.lt_of_lt_of_le hi hn)⟩, hS, hT, hs, hlm, fun _ _ => Nat.zero_le _, fun _ _ h => absurd rfl h, hb⟩
/-- the reference: a row of 515 ints is copied over the present one -/
theorem MIx.his {Q : Nat → Prop} {σ τ : zS} {m n : Nat} {A : zW} (h : MIx σ m A) (g : zFr Q σ τ) (hn : ∀ a, m + 1 ≤ a → a ≤ m + 7 → ¬ Q a) (gi : ∀ f, f < 588 → f ≠ 579 → zi τ f m = zi σ f m) (hN : zi τ 579 m = nI n) (hn2 : n ≤ aHn A) : MIx τ m (aHis A n) := by
  obtain ⟨hM, hV, hH, hU, a1, ⟨a2, a3⟩, ⟨a4, a5, a6⟩, a7, a8, a9⟩ := h
  have h4 := hn (m + 4) (by omega) (by omega)
  have h3 := hn (m + 3) (by omega) (by omega)
  have h5 := hn (m + 5) (by omega) (by omega)
  have h7 := hn (m + 7) (by omega) (by omega)
  exact ⟨hM.fr g, hV.fr g (hn _ (by omega) (by omega)), ⟨hN, fun i hi => (hH.2 i (Nat.lt_of_lt_of_le hi hn2)).fr g (hn _ (by omega) (by omega))⟩, hU.fr g (hn _ (by omega) (by omega)), fun s hs => ⟨fun e => (g.ai h4 s).trans ((a1 s hs).1 e), fun C e => ⟨(g.ai h4 s).trans ((a1 s hs).2 C e).1, ((a1 s hs).2 C e).2.fr g h3⟩⟩, ⟨(gi _ (by decide) (by decide)).trans a2, fun i hi => (g.ai h5 i).trans (a3 i hi)⟩, ⟨(gi _ (by decide) (by decide)).trans a4, (gi _ (by decide) (by decide)).trans a5, (gi _ (by decide) (by decide)).trans a6⟩, (g.ai h7 _).trans a7, (g.ai h7 _).trans a8, (g.ai h7 _).trans a9⟩
def rUndo (A : zW) : Int32 := if aHn A = 0 then -1002 else nI (aHn A - 1)
def tUndo (A : zW) : zW := if aHn A = 0 then A else aTil (aSet (aHis A (aHn A - 1)) (aHk A (aHn A - 1))) (fun _ => 0)
theorem GA.undo {A : zW} {B : Nat} (hG : GA A B) : GA (tUndo A) B := by
  unfold tUndo
  split
  · exact hG
  · next h => exact hG.anew (hG.2.1.2 _ (by omega)) (by omega)
theorem c_undo {σ : zS} {o B : Nat} {A : zW} {q u P : Nat → Nat} (hG : GA A B) (hB : B < 2 ^ 30) (hI : CIx σ o A q u P) (d : Nat) : zOC o (zEv (d + 20) mX10_undo [.inr (.inl (some o))] σ) (rUndo A) (tUndo A) σ := by
  have hI0 := hI
  obtain ⟨hR, ⟨r, hr⟩, hHQ, hHV, hS, hT⟩ := hI
  have hO := hR.1
  have h6 := hG.2.1.1
  have e0 : (nI (aHn A) = 0) ↔ aHn A = 0 := n_eq (by omega) (by decide)
  rw [vX10_undo]
  unfold fX10_undo rUndo tUndo
  simp only [zlt_e, onR_s, nul_s, nul_n, chk_e, bnI_s, bnR_s, bnV_s, zi_si, zi_sr, zi_sl, zi_sa, zi_sq, zr_si, zr_sr, zr_sl, zr_sa, zr_sq, zl_si, zl_sr, zl_sl, zl_sa, zl_sq, zai_si, zai_sr, zai_sl, zai_sa, zai_sq, zar_si, zar_sr, zar_sl, zar_sa, zar_sq, zkd_si, zkd_sr, zkd_sl, zkd_sa, zkd_sq, zln_si, zln_sr, zln_sl, zln_sa, zln_sq, znx_si, znx_sr, znx_sl, znx_sa, znx_sq, hO.f.1, hO.f.2.1, hO.f.2.2.2.1, hO.h.1, if_true, hHV.1, e0]
  by_cases h0 : aHn A = 0
  · rw [if_pos h0, if_pos h0, if_pos h0]
    exact zOC.same hI0 _
  · rw [if_neg h0, if_neg h0, if_neg h0]
    obtain ⟨n, hn⟩ : ∃ n, aHn A = n + 1 := ⟨aHn A - 1, by omega⟩
    have hHV' : HiV σ (o + 57) u (n + 1) (aHk A) := by rw [← hn]; exact hHV
    obtain ⟨τ, k1, k2, k3, k4⟩ := s_pop hO.h hHQ hHV' (by omega) (fun i hi => hG.2.1.2 i (by omega)) hO.c hR.2.1 (by omega) (d + 13)
    have g : zFr (inNew o) σ τ := k2.mono (fun a ha => by unfold inNew; omega)
    have hO2 := hO.fr g
    have hU2 : TcU τ (o + 230) (aU A) := hR.2.2.2.2.1.fr g (by unfold inNew inC; omega) (by unfold inNew inC; omega)
    obtain ⟨υ, l1, l2, l3, l4⟩ := s_removeAll hO2.tc hU2 (hG.u31 hB) (d + 15)
    have hO3 := hO2.fr l2
    have hn3 : zi υ 65 (o + 57) = nI n := (l2.i (by unfold inU; omega) _).trans k3
    simp only [zlt_e, onR_s, nul_s, nul_n, chk_e, bnI_s, bnR_s, bnV_s, zi_si, zi_sr, zi_sl, zi_sa, zi_sq, zr_si, zr_sr, zr_sl, zr_sa, zr_sq, zl_si, zl_sr, zl_sl, zl_sa, zl_sq, zai_si, zai_sr, zai_sl, zai_sa, zai_sq, zar_si, zar_sr, zar_sl, zar_sa, zar_sq, zkd_si, zkd_sr, zkd_sl, zkd_sa, zkd_sq, zln_si, zln_sr, zln_sl, zln_sa, zln_sq, znx_si, znx_sr, znx_sl, znx_sa, znx_sq, k1, hO2.f.1, hO2.f.2.2.2.2.2.2.1, hO2.tc.1, if_true, l1, hO3.f.1, hO3.f.2.2.2.1, hO3.h.1, hn3]
    have e : aHn A - 1 = n := by omega
    rw [e]
    exact ⟨υ, q, u, P, rfl, hI0.anew hG g l2 l4 l3 k4 (hG.2.1.2 n (by omega)) k3 (by omega), (g.mono (fun a ha => by unfold inNew inC at ha; omega)).tr (l2.mono (fun a ha => by unfold inU at ha; omega))⟩
theorem m_undo {σ : zS} {m B : Nat} {A : zW} (hG : GA A B) (hB : B < 2 ^ 30) (hI : MIx σ m A) (d : Nat) : zOM m (zEv (d + 20) mX11_undo [.inr (.inl (some m))] σ) (rUndo A) (tUndo A) σ := by
  have hI1 := hI.th
  have g0 : zFr (fun a => m ≤ a ∧ a < m + 22) σ (zsi σ 576 m 0) := zFr.si σ (by omega)
  have key : ∀ r, zOM m (some (some (.inl r), zsi σ 576 m 0)) r A σ := fun r => zOM.same hI r
  have h6 := hG.2.1.1
  have e0 : (nI (aHn A) = 0) ↔ aHn A = 0 := n_eq (by omega) (by decide)
  have vn : zi (zsi σ 576 m 0) 579 m = nI (aHn A) := hI1.2.2.1.1
  rw [vX11_undo]
  unfold fX11_undo rUndo tUndo
  simp only [zlt_e, chk_e, hI.1.k, if_true]
  generalize zsi σ 576 m 0 = σ1 at *
  simp only [zlt_e, chk_e, hI1.1.k, if_true, vn, e0]
  by_cases h0 : aHn A = 0
  · rw [if_pos h0, if_pos h0, if_pos h0]
    exact key _
  · rw [if_neg h0, if_neg h0, if_neg h0]
    obtain ⟨n, hn⟩ : ∃ n, aHn A = n + 1 := ⟨aHn A - 1, by omega⟩
    have e1 : nI (aHn A) - 1 = nI n := by rw [hn]; exact nI_m n
    have e2 : aHn A - 1 = n := by omega
    rw [e1, e2]
    have gA : zFr (fun x => x = m) σ1 (zsi σ1 579 m (nI n)) := zFr.si _ rfl
    have hIh : MIx (zsi σ1 579 m (nI n)) m (aHis A n) := hI1.his gA (fun a _ _ => by omega) (fun f _ hf => by rw [zi_si, if_neg (by omega)]) (by rw [zi_si, if_pos ⟨rfl, rfl⟩]) (by omega)
    have vnn : zi (zsi σ1 579 m (nI n)) 579 m = nI n := by rw [zi_si, if_pos ⟨rfl, rfl⟩]
    have hMV : MV (zsi σ1 579 m (nI n)) (m + 2) (515 * n) (aHk A n) := (hI1.2.2.1.2 n (by omega)).fr gA (by omega)
    have hGn := hG.2.1.2 n (by omega)
    generalize zsi σ1 579 m (nI n) = σ2 at *
    obtain ⟨υ, h1, h2⟩ := loop_from (fun j υ => LX11_undo_28 (zEv (d + 19)) m (nI j) υ) (fun j υ => zFr (fun x => x = m + 1) σ2 υ ∧ (∀ f x, zi υ f x = zi σ2 f x) ∧ ∀ i, i < j → zai υ (m + 1) (0 + i) = zai σ2 (m + 2) (515 * n + i)) 0 515 (fun υ => LX11_undo_28 (zEv (d + 19)) m (nI 515) υ) σ2 (by decide) ⟨zFr.rf σ2, fun _ _ => rfl, fun i hi => absurd hi (Nat.not_lt_zero _)⟩
      (fun j υ hj hI => by
        obtain ⟨k, ki, ka⟩ := hI
        have hM' := hIh.1.fr k
        have en : zi υ 579 m = nI n := (ki _ _).trans vnn
        have e515 : (515 : Int32) * nI n = nI (515 * n) := pk_mul 515 n
        have ev : zai υ (m + 2) (515 * n + j) = zai σ2 (m + 2) (515 * n + j) := k.ai (by omega) _
        refine ⟨zsa υ (m + 1) j (zai σ2 (m + 2) (515 * n + j)), ?_, k.tr (zFr.sa _ rfl), ki, fun i hi => ?_⟩
        · show LX11_undo_28 _ _ _ _ = LX11_undo_28 _ _ _ _
          rw [uX11_undo_28]
          simp only [zlt_e, onR_s, nul_s, nul_n, chk_e, bnI_s, bnR_s, bnV_s, zi_si, zi_sr, zi_sl, zi_sa, zi_sq, zr_si, zr_sr, zr_sl, zr_sa, zr_sq, zl_si, zl_sr, zl_sl, zl_sa, zl_sq, zai_si, zai_sr, zai_sl, zai_sa, zai_sq, zar_si, zar_sr, zar_sl, zar_sa, zar_sq, zkd_si, zkd_sr, zkd_sl, zkd_sa, zkd_sq, zln_si, zln_sr, zln_sl, zln_sa, zln_sq, znx_si, znx_sr, znx_sl, znx_sa, znx_sq, en, e515, nI_add]
          rw [if_pos (show nI j < 515 from (n_lt (show j < 2 ^ 31 by omega) (show 515 < 2 ^ 31 by decide)).mpr hj)]
          simp only [hM'.k, hM'.s.1, hM'.s.2.1, hM'.s.2.2, hM'.sv.1, hM'.sv.2.1, hM'.sv.2.2, onR_s, if_true, n_zin (show j < 2 ^ 31 by omega), n_tn (show j < 2 ^ 31 by omega), hj, n_zin (show 515 * n + j < 2 ^ 31 by omega), n_tn (show 515 * n + j < 2 ^ 31 by omega), show 515 * n + j < 3090 by omega, and_self, nI_1, ev]
        · rw [zai_sa, Nat.zero_add]
          by_cases e : i = j
          · rw [if_pos ⟨rfl, e⟩, e]
          · rw [if_neg (by omega)]
            have := ka i (by omega)
            rwa [Nat.zero_add] at this)
      (fun υ hI => rfl)
    have h1 : LX11_undo_28 (zEv (d + 19)) m 0 σ2 = _ := h1
    obtain ⟨k, ki, ka⟩ := h2
    have hIs : MIx υ m (aSet (aHis A n) (aHk A n)) := hIh.comp k (fun a _ _ => by omega) (fun f _ => ki f m) (hMV.copy hGn.1.2 hGn.2.1.2 hGn.2.2.1 ka)
    obtain ⟨ω, l1, l2, l3⟩ := s_mall (A := aSet (aHis A n) (aHk A n)) (hG.u31 hB) hIs (d + 17)
    have nω : zi ω 579 m = nI n := l2.2.2.1.1
    rw [h1, uX11_undo_28, if_neg (by decide)]
    simp only [zlt_e, onR_s, nul_s, nul_n, chk_e, bnI_s, bnR_s, bnV_s, zi_si, zi_sr, zi_sl, zi_sa, zi_sq, zr_si, zr_sr, zr_sl, zr_sa, zr_sq, zl_si, zl_sr, zl_sl, zl_sa, zl_sq, zai_si, zai_sr, zai_sl, zai_sa, zai_sq, zar_si, zar_sr, zar_sl, zar_sa, zar_sq, zkd_si, zkd_sr, zkd_sl, zkd_sa, zkd_sq, zln_si, zln_sr, zln_sl, zln_sa, zln_sq, znx_si, znx_sr, znx_sl, znx_sa, znx_sq, hIs.1.k, if_true, l1, l2.1.k, nω]
    exact ⟨ω, rfl, l2, (g0.tr (gA.mono (fun a ha => by omega))).tr ((k.mono (fun a ha => by omega)).tr (l3.mono (fun a ha => by omega)))⟩
/-! restore -/
def rRest (A : zW) (x : Int32) : Int32 := if zin x 2 then (match aS A x.toNatClampNeg with
  | none => -1002
  | some C => nI (cN C)) else -1001
def tRest (A : zW) (x : Int32) : zW := if zin x 2 then (match aS A x.toNatClampNeg with
  | none => A
  | some C => aTil (aSet (aHis A 0) C) (fun _ => 0)) else A
theorem GA.rest {A : zW} {B : Nat} (hG : GA A B) (x : Int32) : GA (tRest A x) B := by
  unfold tRest
  split
  · next h =>
    have hk := (zin_n h).2
    cases e : aS A x.toNatClampNeg with
    | none => exact hG
    | some C => exact hG.anew (hG.2.2.1 _ hk C e) (Nat.zero_le _)
  · exact hG
theorem c_restore {σ : zS} {o B : Nat} {A : zW} {q u P : Nat → Nat} (hG : GA A B) (hB : B < 2 ^ 30) (hI : CIx σ o A q u P) (x : Int32) (d : Nat) : zOC o (zEv (d + 20) mX10_restore [.inr (.inl (some o)), .inl x] σ) (rRest A x) (tRest A x) σ := by
  have hI0 := hI
  obtain ⟨hR, ⟨r, hr⟩, hHQ, hHV, hS, hT⟩ := hI
  have hO := hR.1
  have n2 : Int32.ofNat 2 = nI 2 := rfl
  have w1 : x < 0 ↔ x.toInt < 0 := Int32.lt_iff_toInt_lt
  have w2 : x < nI 2 ↔ x.toInt < 2 := by rw [Int32.lt_iff_toInt_lt]; exact Iff.rfl
  rw [vX10_restore]
  unfold fX10_restore rRest tRest
  simp only [zlt_e, onR_s, nul_s, nul_n, chk_e, bnI_s, bnR_s, bnV_s, zi_si, zi_sr, zi_sl, zi_sa, zi_sq, zr_si, zr_sr, zr_sl, zr_sa, zr_sq, zl_si, zl_sr, zl_sl, zl_sa, zl_sq, zai_si, zai_sr, zai_sl, zai_sa, zai_sq, zar_si, zar_sr, zar_sl, zar_sa, zar_sq, zkd_si, zkd_sr, zkd_sl, zkd_sa, zkd_sq, zln_si, zln_sr, zln_sl, zln_sa, zln_sq, znx_si, znx_sr, znx_sl, znx_sa, znx_sq, hO.f.1, hO.f.2.2.2.2.1, hO.sn.1, hO.sn.2, if_true, w1, w2, n2]
  by_cases hx : zin x 2
  · rw [if_neg (by have := hx.1; omega), if_pos (by exact hx.2), if_pos hx, if_pos hx]
    obtain ⟨ex, hk⟩ := zin_n hx
    generalize x.toNatClampNeg = k at *
    subst ex
    simp only [eq_true hx, and_self, if_true]
    rcases hS.1 k hk with ⟨e1, e2⟩ | ⟨C, e1, e2, e3, e4, e5, e6, e7⟩
    · rw [e1, e2]
      exact zOC.same hI0 _
    · have hC := hG.2.2.1 k hk C e1
      obtain ⟨τ, k1, k2, k3⟩ := s_ccopy hO.c e5 (by omega) hR.2.1 e6 e7 hC (d + 14)
      have g : zFr (inNew o) σ τ := k2.mono (fun a ha => Or.inr ha)
      have hO2 := hO.fr g
      have gs : zFr (inNew o) τ (zsi τ 65 (o + 57) 0) := zFr.si τ (Or.inl rfl)
      have g2 := g.tr gs
      have hU2 : TcU (zsi τ 65 (o + 57) 0) (o + 230) (aU A) := hR.2.2.2.2.1.fr g2 (by unfold inNew inC; omega) (by unfold inNew inC; omega)
      have hv2 : CmV (zsi τ 65 (o + 57) 0) (o + 1) q C := k3.fr (hR.2.1.fr g (by unfold inNew inC; omega)) hC.2.2.1 (zFr.si (P := fun a => a = o + 57) τ rfl) (fun a ha => by unfold inC at ha; omega)
      obtain ⟨υ, l1, l2, l3, l4⟩ := s_removeAll (hO.fr g2).tc hU2 (hG.u31 hB) (d + 15)
      have hO3 := (hO.fr g2).fr l2
      have nυ : zi υ 2 (o + 1) = nI (cN C) := (l2.i (by unfold inU; omega) _).trans hv2.2.1
      rw [e1, e2]
      simp only [zlt_e, onR_s, nul_s, nul_n, chk_e, bnI_s, bnR_s, bnV_s, zi_si, zi_sr, zi_sl, zi_sa, zi_sq, zr_si, zr_sr, zr_sl, zr_sa, zr_sq, zl_si, zl_sr, zl_sl, zl_sa, zl_sq, zai_si, zai_sr, zai_sl, zai_sa, zai_sq, zar_si, zar_sr, zar_sl, zar_sa, zar_sq, zkd_si, zkd_sr, zkd_sl, zkd_sa, zkd_sq, zln_si, zln_sr, zln_sl, zln_sa, zln_sq, znx_si, znx_sr, znx_sl, znx_sa, znx_sq, hO.f.1, hO.f.2.1, hO.c.1, if_true, k1, hO2.f.1, hO2.f.2.2.2.1, hO2.h.1, hO2.f.2.2.2.2.2.2.1, hO2.tc.1, l1, hO3.f.1, hO3.f.2.1, hO3.c.1, s_layerCount hO3.c, nυ]
      exact ⟨υ, q, u, P, rfl, hI0.anew hG g2 l2 l4 l3 hv2 hC (by rw [zi_si, if_pos ⟨rfl, rfl⟩]; rfl) (Nat.zero_le _), (g2.mono (fun a ha => by unfold inNew inC at ha; omega)).tr (l2.mono (fun a ha => by unfold inU at ha; omega))⟩
  · have hx' : ¬ (0 ≤ x.toInt ∧ x.toInt < 2) := hx
    rw [if_neg hx, if_neg hx]
    by_cases h1 : x.toInt < 0
    · rw [if_pos h1]; exact zOC.same hI0 _
    · rw [if_neg h1, if_neg (by omega)]; exact zOC.same hI0 _
theorem m_restore {σ : zS} {m B : Nat} {A : zW} (hG : GA A B) (hB : B < 2 ^ 30) (hI : MIx σ m A) (x : Int32) (d : Nat) : zOM m (zEv (d + 20) mX11_restore [.inr (.inl (some m)), .inl x] σ) (rRest A x) (tRest A x) σ := by
  have hI1 := hI.th
  have g0 : zFr (fun a => m ≤ a ∧ a < m + 22) σ (zsi σ 576 m 0) := zFr.si σ (by omega)
  have key : ∀ r, zOM m (some (some (.inl r), zsi σ 576 m 0)) r A σ := fun r => zOM.same hI r
  have w1 : ((0 : Int32) ≤ x ∧ x ≤ 1) ↔ zin x 2 := by
    rw [show ((0 : Int32) ≤ x ∧ x ≤ 1) ↔ 0 ≤ x.toInt ∧ x.toInt ≤ 1 from w_in (a := 0) (b := 1) (by decide) (by decide) (by decide) (by decide)]
    unfold zin
    omega
  rw [vX11_restore]
  unfold fX11_restore rRest tRest
  simp only [zlt_e, chk_e, hI.1.k, if_true]
  generalize zsi σ 576 m 0 = σ1 at *
  simp only [zlt_e, chk_e, bnI_s, s_in, zb_0, w1]
  by_cases hx : zin x 2
  · rw [if_neg (fun q => q hx), if_pos hx, if_pos hx]
    obtain ⟨ex, hk⟩ := zin_n hx
    generalize x.toNatClampNeg = k at *
    subst ex
    have z1 := hI1.2.2.2.2.1 k hk
    simp only [zlt_e, chk_e, onR_s, hI1.1.k, hI1.1.fi.1, hI1.1.fi.2.1, hI1.1.fi.2.2, eq_true hx, and_self, if_true]
    cases e : aS A k with
    | none =>
      rw [z1.1 e, if_pos rfl]
      exact key _
    | some C =>
      obtain ⟨z2, hMV⟩ := z1.2 C e
      have hC := hG.2.2.1 k hk C e
      rw [z2, if_neg (by decide)]
      obtain ⟨υ, h1, h2⟩ := loop_from (fun j υ => LX11_restore_33 (zEv (d + 19)) m (nI k) (nI j) υ) (fun j υ => zFr (fun x => x = m + 1) σ1 υ ∧ (∀ f x, zi υ f x = zi σ1 f x) ∧ ∀ i, i < j → zai υ (m + 1) (0 + i) = zai σ1 (m + 3) (515 * k + i)) 0 515 (fun υ => LX11_restore_33 (zEv (d + 19)) m (nI k) (nI 515) υ) σ1 (by decide) ⟨zFr.rf σ1, fun _ _ => rfl, fun i hi => absurd hi (Nat.not_lt_zero _)⟩
        (fun j υ hj hI => by
          obtain ⟨k', ki, ka⟩ := hI
          have hM' := hI1.1.fr k'
          have e515 : (515 : Int32) * nI k = nI (515 * k) := pk_mul 515 k
          have ev : zai υ (m + 3) (515 * k + j) = zai σ1 (m + 3) (515 * k + j) := k'.ai (by omega) _
          refine ⟨zsa υ (m + 1) j (zai σ1 (m + 3) (515 * k + j)), ?_, k'.tr (zFr.sa _ rfl), ki, fun i hi => ?_⟩
          · show LX11_restore_33 _ _ _ _ _ = LX11_restore_33 _ _ _ _ _
            rw [uX11_restore_33]
            simp only [zlt_e, onR_s, nul_s, nul_n, chk_e, bnI_s, bnR_s, bnV_s, zi_si, zi_sr, zi_sl, zi_sa, zi_sq, zr_si, zr_sr, zr_sl, zr_sa, zr_sq, zl_si, zl_sr, zl_sl, zl_sa, zl_sq, zai_si, zai_sr, zai_sl, zai_sa, zai_sq, zar_si, zar_sr, zar_sl, zar_sa, zar_sq, zkd_si, zkd_sr, zkd_sl, zkd_sa, zkd_sq, zln_si, zln_sr, zln_sl, zln_sa, zln_sq, znx_si, znx_sr, znx_sl, znx_sa, znx_sq, e515, nI_add]
            rw [if_pos (show nI j < 515 from (n_lt (show j < 2 ^ 31 by omega) (show 515 < 2 ^ 31 by decide)).mpr hj)]
            simp only [hM'.k, hM'.s.1, hM'.s.2.1, hM'.s.2.2, hM'.sl.1, hM'.sl.2.1, hM'.sl.2.2, onR_s, if_true, n_zin (show j < 2 ^ 31 by omega), n_tn (show j < 2 ^ 31 by omega), hj, n_zin (show 515 * k + j < 2 ^ 31 by omega), n_tn (show 515 * k + j < 2 ^ 31 by omega), show 515 * k + j < 1030 by omega, and_self, nI_1, ev]
          · rw [zai_sa, Nat.zero_add]
            by_cases e : i = j
            · rw [if_pos ⟨rfl, e⟩, e]
            · rw [if_neg (by omega)]
              have := ka i (by omega)
              rwa [Nat.zero_add] at this)
        (fun υ hI => rfl)
      have h1 : LX11_restore_33 (zEv (d + 19)) m (nI k) 0 σ1 = _ := h1
      obtain ⟨k', ki, ka⟩ := h2
      have hIs : MIx υ m (aSet A C) := hI1.comp k' (fun a _ _ => by omega) (fun f _ => ki f m) (hMV.copy hC.1.2 hC.2.1.2 hC.2.2.1 ka)
      have gA : zFr (fun x => x = m) υ (zsi υ 579 m 0) := zFr.si _ rfl
      have hIh : MIx (zsi υ 579 m 0) m (aSet (aHis A 0) C) := hIs.his gA (fun a _ _ => by omega) (fun f _ hf => by rw [zi_si, if_neg (by omega)]) (by rw [zi_si, if_pos ⟨rfl, rfl⟩]; rfl) (Nat.zero_le _)
      obtain ⟨ω, l1, l2, l3⟩ := s_mall (A := aSet (aHis A 0) C) (hG.u31 hB) hIh (d + 17)
      have t2 : (258 : Int32).toNatClampNeg = 258 := rfl
      have z258 : zin 258 515 = True := eq_true (by decide)
      have nω : zai ω (m + 1) 258 = nI (cN C) := l2.2.1.2.2.2.1
      rw [h1, uX11_restore_33, if_neg (by decide)]
      simp only [zlt_e, onR_s, nul_s, nul_n, chk_e, bnI_s, bnR_s, bnV_s, zi_si, zi_sr, zi_sl, zi_sa, zi_sq, zr_si, zr_sr, zr_sl, zr_sa, zr_sq, zl_si, zl_sr, zl_sl, zl_sa, zl_sq, zai_si, zai_sr, zai_sl, zai_sa, zai_sq, zar_si, zar_sr, zar_sl, zar_sa, zar_sq, zkd_si, zkd_sr, zkd_sl, zkd_sa, zkd_sq, zln_si, zln_sr, zln_sl, zln_sa, zln_sq, znx_si, znx_sr, znx_sl, znx_sa, znx_sq, hIs.1.k, if_true, l1, l2.1.k, l2.1.s.1, l2.1.s.2.1, l2.1.s.2.2, z258, t2, and_self, nω]
      exact ⟨ω, rfl, l2, ((g0.tr (k'.mono (fun a ha => by omega)))).tr ((gA.mono (fun a ha => by omega)).tr (l3.mono (fun a ha => by omega)))⟩
  · rw [if_pos hx, if_neg hx, if_neg hx]
    exact key _
