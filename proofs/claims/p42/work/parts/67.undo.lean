/-! undo, restore -/
def aHis (A : zW) (n : Nat) : zW := (aC A, (n, aHk A), aS A, (aTn A, aTx A), aU A, aT A)
def inNew (o a : Nat) : Prop := a = o + 57 ∨ (inC (o + 1) a ∧ a ≠ o + 4)
/-- another composition, and no tiles -/
theorem CIx.anew {σ τ υ : zS} {o n B : Nat} {A : zW} {q u P : Nat → Nat} {C : zC} (hG : GA A B) (hI : CIx σ o A q u P) (g : zFr (inNew o) σ τ) (gu : zFr (inU (o + 230)) τ υ) (k : keepU (o + 230) τ υ) (hU : TcU υ (o + 230) (fun _ => 0)) (hv : CmV τ (o + 1) q C) (hC : GC C) (hn : zi τ 65 (o + 57) = nI n) (hn2 : n ≤ aHn A) : CIx υ o (aTil (aSet (aHis A n) C) (fun _ => 0)) q u P := by
  obtain ⟨hR, ⟨r, hr⟩, hHQ, hHV, hS, hT⟩ := hI
  have hn6 := hG.2.1.1
  have g2 : zFr (fun a => inNew o a ∨ inU (o + 230) a) σ υ := (g.mono (fun a ha => Or.inl ha)).tr (gu.mono (fun a ha => Or.inr ha))
  have hTF : TcF τ (o + 230) (aT A) := hR.2.2.2.2.2.1.fr g (by unfold inNew inC; omega)
  refine ⟨⟨hR.1.fr g2, hR.2.1.fr g2 (by unfold inNew inC inU; omega), hv.fr (hR.2.1.fr g (by unfold inNew inC; omega)) hC.2.2.1 gu (fun a ha => by unfold inC at ha; unfold inU; omega), hR.2.2.2.1.fr g2 (by unfold inNew inC inU; omega), hU, hTF.kp k, hR.2.2.2.2.2.2.1.fr g2 (fun a h1 h2 => by unfold inNew inC inU; omega), fun j hj hz => absurd rfl hz, rfl, fun _ _ => Nat.zero_le _⟩, ⟨r, hr.fr g2 (by unfold inNew inC inU; omega)⟩, hHQ.fr g2 (by unfold inNew inC inU; omega), ⟨(gu.i (by unfold inU; omega) _).trans hn, fun i hi => (hHV.2.1 i hi).fr g2 (by unfold inNew inC inU; omega), fun i hi => ?_⟩, hS.fr hG.2.2.1 g2 (by unfold inNew inC inU; omega) (fun a ha => by unfold inNew inC inU; omega), hT.fr g2 (by unfold inNew inC inU; omega) (by unfold inNew inC inU; omega)⟩
  have hi : i < n := hi
  have hui := (hHQ.1 i (by omega)).2
  exact (hHV.2.2 i (by omega)).fr (hHV.2.1 _ hui) (hG.2.1.2 i (by omega)).2.2.1 g2 (fun a ha => by unfold inC at ha; unfold inNew inC inU; omega)
theorem GA.anew {A : zW} {B n : Nat} {C : zC} (hG : GA A B) (hC : GC C) (hn : n ≤ aHn A) : GA (aTil (aSet (aHis A n) C) (fun _ => 0)) B := by
  obtain ⟨_, hH, hS, hT, hs, hlm, hu, hv, hb⟩ := hG
  exact ⟨hC, ⟨Nat.le_trans hn hH.1, fun i hi => hH.2 i (Nat.lt_of_lt_of_le hi hn)⟩, hS, hT, hs, hlm, fun _ _ => Nat.zero_le _, fun _ _ h => absurd rfl h, hb⟩
/-- the reference: a row of 515 ints is copied over the present one -/
def rUndo (A : zW) : Int32 := if aHn A = 0 then -1002 else nI (aHn A - 1)
def tUndo (A : zW) : zW := if aHn A = 0 then A else aTil (aSet (aHis A (aHn A - 1)) (aHk A (aHn A - 1))) (fun _ => 0)
theorem GA.undo {A : zW} {B : Nat} (hG : GA A B) : GA (tUndo A) B := by
  unfold tUndo
  split
  · exact hG
  · next h => exact hG.anew (hG.2.1.2 _ (by omega)) (by omega)
theorem c_undo {σ : zS} {o B : Nat} {A : zW} {q u P : Nat → Nat} (hG : GA A B) (hB : B < 2 ^ 30) (hI : CIx σ o A q u P) (d : Nat) : zOC o (zEv (d + 20) mX10_undo [.inr (.inl (some o))] σ) (rUndo A) (tUndo A) σ := by
  have hI0 := hI
  obtain ⟨hR, ⟨r, hr⟩, hHQ, hHV, hS, hT⟩ := hI
  have hO := hR.1
  have h6 := hG.2.1.1
  have e0 : (nI (aHn A) = 0) ↔ aHn A = 0 := n_eq (by omega) (by decide)
  rw [vX10_undo]
  unfold fX10_undo rUndo tUndo
  simp only [zlt_e, onR_s, nul_s, nul_n, chk_e, bnI_s, bnR_s, bnV_s, zi_si, zi_sr, zi_sl, zi_sa, zi_sq, zr_si, zr_sr, zr_sl, zr_sa, zr_sq, zl_si, zl_sr, zl_sl, zl_sa, zl_sq, zai_si, zai_sr, zai_sl, zai_sa, zai_sq, zar_si, zar_sr, zar_sl, zar_sa, zar_sq, zkd_si, zkd_sr, zkd_sl, zkd_sa, zkd_sq, zln_si, zln_sr, zln_sl, zln_sa, zln_sq, znx_si, znx_sr, znx_sl, znx_sa, znx_sq, hO.f.1, hO.f.2.1, hO.f.2.2.2.1, hO.h.1, if_true, hHV.1, e0]
  by_cases h0 : aHn A = 0
  · rw [if_pos h0, if_pos h0, if_pos h0]
    exact zOC.same hI0 _
  · rw [if_neg h0, if_neg h0, if_neg h0]
    obtain ⟨n, hn⟩ : ∃ n, aHn A = n + 1 := ⟨aHn A - 1, by omega⟩
    have hHV' : HiV σ (o + 57) u (n + 1) (aHk A) := by rw [← hn]; exact hHV
    obtain ⟨τ, k1, k2, k3, k4⟩ := s_pop hO.h hHQ hHV' (by omega) (fun i hi => hG.2.1.2 i (by omega)) hO.c hR.2.1 (by omega) (d + 13)
    have g : zFr (inNew o) σ τ := k2.mono (fun a ha => by unfold inNew; omega)
    have hO2 := hO.fr g
    have hU2 : TcU τ (o + 230) (aU A) := hR.2.2.2.2.1.fr g (by unfold inNew inC; omega) (by unfold inNew inC; omega)
    obtain ⟨υ, l1, l2, l3, l4⟩ := s_removeAll hO2.tc hU2 (hG.u31 hB) (d + 15)
    have hO3 := hO2.fr l2
    have hn3 : zi υ 65 (o + 57) = nI n := (l2.i (by unfold inU; omega) _).trans k3
    simp only [zlt_e, onR_s, nul_s, nul_n, chk_e, bnI_s, bnR_s, bnV_s, zi_si, zi_sr, zi_sl, zi_sa, zi_sq, zr_si, zr_sr, zr_sl, zr_sa, zr_sq, zl_si, zl_sr, zl_sl, zl_sa, zl_sq, zai_si, zai_sr, zai_sl, zai_sa, zai_sq, zar_si, zar_sr, zar_sl, zar_sa, zar_sq, zkd_si, zkd_sr, zkd_sl, zkd_sa, zkd_sq, zln_si, zln_sr, zln_sl, zln_sa, zln_sq, znx_si, znx_sr, znx_sl, znx_sa, znx_sq, k1, hO2.f.1, hO2.f.2.2.2.2.2.2.1, hO2.tc.1, if_true, l1, hO3.f.1, hO3.f.2.2.2.1, hO3.h.1, hn3]
    have e : aHn A - 1 = n := by omega
    rw [e]
    exact ⟨υ, q, u, P, rfl, hI0.anew hG g l2 l4 l3 k4 (hG.2.1.2 n (by omega)) k3 (by omega), (g.mono (fun a ha => by unfold inNew inC at ha; omega)).tr (l2.mono (fun a ha => by unfold inU at ha; omega))⟩
/-! restore -/
def rRest (A : zW) (x : Int32) : Int32 := if zin x 2 then (match aS A x.toNatClampNeg with
  | none => -1002
  | some C => nI (cN C)) else -1001
def tRest (A : zW) (x : Int32) : zW := if zin x 2 then (match aS A x.toNatClampNeg with
  | none => A
  | some C => aTil (aSet (aHis A 0) C) (fun _ => 0)) else A
theorem GA.rest {A : zW} {B : Nat} (hG : GA A B) (x : Int32) : GA (tRest A x) B := by
  unfold tRest
  split
  · next h =>
    have hk := (zin_n h).2
    cases e : aS A x.toNatClampNeg with
    | none => exact hG
    | some C => exact hG.anew (hG.2.2.1 _ hk C e) (Nat.zero_le _)
  · exact hG
theorem c_restore {σ : zS} {o B : Nat} {A : zW} {q u P : Nat → Nat} (hG : GA A B) (hB : B < 2 ^ 30) (hI : CIx σ o A q u P) (x : Int32) (d : Nat) : zOC o (zEv (d + 20) mX10_restore [.inr (.inl (some o)), .inl x] σ) (rRest A x) (tRest A x) σ := by
  have hI0 := hI
  obtain ⟨hR, ⟨r, hr⟩, hHQ, hHV, hS, hT⟩ := hI
  have hO := hR.1
  have n2 : Int32.ofNat 2 = nI 2 := rfl
  have w1 : x < 0 ↔ x.toInt < 0 := Int32.lt_iff_toInt_lt
  have w2 : x < nI 2 ↔ x.toInt < 2 := by rw [Int32.lt_iff_toInt_lt]; exact Iff.rfl
  rw [vX10_restore]
  unfold fX10_restore rRest tRest
  simp only [zlt_e, onR_s, nul_s, nul_n, chk_e, bnI_s, bnR_s, bnV_s, zi_si, zi_sr, zi_sl, zi_sa, zi_sq, zr_si, zr_sr, zr_sl, zr_sa, zr_sq, zl_si, zl_sr, zl_sl, zl_sa, zl_sq, zai_si, zai_sr, zai_sl, zai_sa, zai_sq, zar_si, zar_sr, zar_sl, zar_sa, zar_sq, zkd_si, zkd_sr, zkd_sl, zkd_sa, zkd_sq, zln_si, zln_sr, zln_sl, zln_sa, zln_sq, znx_si, znx_sr, znx_sl, znx_sa, znx_sq, hO.f.1, hO.f.2.2.2.2.1, hO.sn.1, hO.sn.2, if_true, w1, w2, n2]
  by_cases hx : zin x 2
  · rw [if_neg (by have := hx.1; omega), if_pos (by exact hx.2), if_pos hx, if_pos hx]
    obtain ⟨ex, hk⟩ := zin_n hx
    generalize x.toNatClampNeg = k at *
    subst ex
    simp only [eq_true hx, and_self, if_true]
    rcases hS.1 k hk with ⟨e1, e2⟩ | ⟨C, e1, e2, e3, e4, e5, e6, e7⟩
    · rw [e1, e2]
      exact zOC.same hI0 _
    · have hC := hG.2.2.1 k hk C e1
      obtain ⟨τ, k1, k2, k3⟩ := s_ccopy hO.c e5 (by omega) hR.2.1 e6 e7 hC (d + 14)
      have g : zFr (inNew o) σ τ := k2.mono (fun a ha => Or.inr ha)
      have hO2 := hO.fr g
      have gs : zFr (inNew o) τ (zsi τ 65 (o + 57) 0) := zFr.si τ (Or.inl rfl)
      have g2 := g.tr gs
      have hU2 : TcU (zsi τ 65 (o + 57) 0) (o + 230) (aU A) := hR.2.2.2.2.1.fr g2 (by unfold inNew inC; omega) (by unfold inNew inC; omega)
      have hv2 : CmV (zsi τ 65 (o + 57) 0) (o + 1) q C := k3.fr (hR.2.1.fr g (by unfold inNew inC; omega)) hC.2.2.1 (zFr.si (P := fun a => a = o + 57) τ rfl) (fun a ha => by unfold inC at ha; omega)
      obtain ⟨υ, l1, l2, l3, l4⟩ := s_removeAll (hO.fr g2).tc hU2 (hG.u31 hB) (d + 15)
      have hO3 := (hO.fr g2).fr l2
      have nυ : zi υ 2 (o + 1) = nI (cN C) := (l2.i (by unfold inU; omega) _).trans hv2.2.1
      rw [e1, e2]
      simp only [zlt_e, onR_s, nul_s, nul_n, chk_e, bnI_s, bnR_s, bnV_s, zi_si, zi_sr, zi_sl, zi_sa, zi_sq, zr_si, zr_sr, zr_sl, zr_sa, zr_sq, zl_si, zl_sr, zl_sl, zl_sa, zl_sq, zai_si, zai_sr, zai_sl, zai_sa, zai_sq, zar_si, zar_sr, zar_sl, zar_sa, zar_sq, zkd_si, zkd_sr, zkd_sl, zkd_sa, zkd_sq, zln_si, zln_sr, zln_sl, zln_sa, zln_sq, znx_si, znx_sr, znx_sl, znx_sa, znx_sq, hO.f.1, hO.f.2.1, hO.c.1, if_true, k1, hO2.f.1, hO2.f.2.2.2.1, hO2.h.1, hO2.f.2.2.2.2.2.2.1, hO2.tc.1, l1, hO3.f.1, hO3.f.2.1, hO3.c.1, s_layerCount hO3.c, nυ]
      exact ⟨υ, q, u, P, rfl, hI0.anew hG g2 l2 l4 l3 hv2 hC (by rw [zi_si, if_pos ⟨rfl, rfl⟩]; rfl) (Nat.zero_le _), (g2.mono (fun a ha => by unfold inNew inC at ha; omega)).tr (l2.mono (fun a ha => by unfold inU at ha; omega))⟩
  · have hx' : ¬ (0 ≤ x.toInt ∧ x.toInt < 2) := hx
    rw [if_neg hx, if_neg hx]
    by_cases h1 : x.toInt < 0
    · rw [if_pos h1]; exact zOC.same hI0 _
    · rw [if_neg h1, if_neg (by omega)]; exact zOC.same hI0 _
