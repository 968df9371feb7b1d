/-! newImage -/
def imgC (C : zC) (w h : Nat) : zC := (w, h, cN C, pxNew, cL C)
theorem pxNew_R (w h : Nat) : pxR w h pxNew := fun x y _ _ => by unfold pxNew; omega
theorem GC.img {C : zC} (h : GC C) {w k : Nat} (hw : 4 ≤ w ∧ w ≤ 16) (hk : 4 ≤ k ∧ k ≤ 16) : GC (imgC C w k) := ⟨hw, hk, h.2.2.1, pxNew_R _ _, h.2.2.2.2⟩
def rNew (x y : Int32) : Int32 := if (4 ≤ x.toInt ∧ x.toInt ≤ 16) ∧ 4 ≤ y.toInt ∧ y.toInt ≤ 16 then x * y else -1001
def tNew (A : zW) (x y : Int32) : zW := if (4 ≤ x.toInt ∧ x.toInt ≤ 16) ∧ 4 ≤ y.toInt ∧ y.toInt ≤ 16 then aTil (aSet (aPush A) (imgC (aC A) x.toNatClampNeg y.toNatClampNeg)) (fun _ => 0) else A
theorem clamp16 {x : Int32} (h : 4 ≤ x.toInt ∧ x.toInt ≤ 16) : x = nI x.toNatClampNeg ∧ 4 ≤ x.toNatClampNeg ∧ x.toNatClampNeg ≤ 16 := by
  have e : x.toNatClampNeg = x.toInt.toNat := rfl
  exact ⟨n_of (by omega), by omega, by omega⟩
theorem GA.new {A : zW} {B : Nat} (hG : GA A B) (x y : Int32) : GA (tNew A x y) B := by
  unfold tNew
  split
  · next h =>
    have hx := clamp16 h.1
    have hy := clamp16 h.2
    exact (hG.push).anew (n := aHn (aPush A)) (hG.1.img hx.2 hy.2) (Nat.le_refl _)
  · exact hG
theorem c_newImage {σ : zS} {o B : Nat} {A : zW} {q u P : Nat → Nat} (hG : GA A B) (hB : B < 2 ^ 30) (hI : CIx σ o A q u P) (x y : Int32) (d : Nat) : zOC o (zEv (d + 20) mX10_newImage [.inr (.inl (some o)), .inl x, .inl y] σ) (rNew x y) (tNew A x y) σ := by
  have hO := hI.1.1
  have hn8 := hG.1.2.2.1
  have key : ∀ r, zOC o (some (some (.inl r), σ)) r A σ := fun r => zOC.same hI r
  have w1 : ((4 : Int32) ≤ x ∧ x ≤ 16) ↔ 4 ≤ x.toInt ∧ x.toInt ≤ 16 := w_in (a := 4) (b := 16) (by decide) (by decide) (by decide) (by decide)
  have w2 : ((4 : Int32) ≤ y ∧ y ≤ 16) ↔ 4 ≤ y.toInt ∧ y.toInt ≤ 16 := w_in (a := 4) (b := 16) (by decide) (by decide) (by decide) (by decide)
  rw [vX10_newImage]
  unfold fX10_newImage rNew tNew
  simp only [bnI_s, s_within, zb_0, w1, w2]
  by_cases hx : 4 ≤ x.toInt ∧ x.toInt ≤ 16
  · rw [if_neg (fun q => q hx)]
    by_cases hy : 4 ≤ y.toInt ∧ y.toInt ≤ 16
    · have hc : (4 ≤ x.toInt ∧ x.toInt ≤ 16) ∧ 4 ≤ y.toInt ∧ y.toInt ≤ 16 := ⟨hx, hy⟩
      rw [if_neg (fun q => q hy), if_pos hc, if_pos hc]
      obtain ⟨ex, bx⟩ := clamp16 hx
      obtain ⟨ey, by_⟩ := clamp16 hy
      generalize x.toNatClampNeg = w at *
      generalize y.toNatClampNeg = h at *
      subst ex
      subst ey
      obtain ⟨τ, u', k1, k2, k3⟩ := s_cpush hG hI (d + 13)
      have hO2 := k3.1.1
      obtain ⟨υ, l1, l2, l3⟩ := s_startAs (w := w) (h := h) hO2.c.2.2.2.1 bx.2 by_.2 (d + 17)
      have g : zFr (inNew o) τ υ := l2.mono (fun a ha => by unfold inP at ha; unfold inNew inC; omega)
      have hO3 := hO2.fr g
      have hU3 : TcU υ (o + 230) (aU A) := k3.1.2.2.2.2.1.fr g (by unfold inNew inC; omega) (by unfold inNew inC; omega)
      have hv3 : CmV υ (o + 1) q (imgC (aC A) w h) := ⟨l3, (l2.i (by unfold inP; omega) _).trans k3.1.2.2.1.2.1, fun i hi => by
        have hi : i < cN (aC A) := hi
        have hqi := (k3.1.2.1.1 i (by omega)).2
        exact (k3.1.2.2.1.2.2 i hi).fr l2 (fun a ha => by unfold inL at ha; unfold inP; omega)⟩
      obtain ⟨ω, m1, m2, m3, m4⟩ := s_removeAll hO3.tc hU3 (hG.u31 hB) (d + 15)
      have hn3 : zi υ 65 (o + 57) = nI (aHn (aPush A)) := (l2.i (by unfold inP; omega) _).trans k3.2.2.2.1.1
      simp only [zlt_e, onR_s, nul_s, nul_n, chk_e, bnI_s, bnR_s, bnV_s, zi_si, zi_sr, zi_sl, zi_sa, zi_sq, zr_si, zr_sr, zr_sl, zr_sa, zr_sq, zl_si, zl_sr, zl_sl, zl_sa, zl_sq, zai_si, zai_sr, zai_sl, zai_sa, zai_sq, zar_si, zar_sr, zar_sl, zar_sa, zar_sq, zkd_si, zkd_sr, zkd_sl, zkd_sa, zkd_sq, zln_si, zln_sr, zln_sl, zln_sa, zln_sq, znx_si, znx_sr, znx_sl, znx_sa, znx_sq, hO.f.1, hO.f.2.1, hO.f.2.2.2.1, hO.h.1, if_true, k1, hO2.f.1, hO2.f.2.1, hO2.c.1, hO2.c.2.1, hO2.c.2.2.2.1.1, l1, hO3.f.1, hO3.f.2.2.2.2.2.2.1, hO3.tc.1, m1]
      exact ⟨ω, q, u', P, rfl, k3.anew (hG.push) g m2 m4 m3 hv3 (hG.1.img bx by_) hn3 (Nat.le_refl _), (k2.mono (fun a ha => by unfold inH at ha; omega)).tr ((g.mono (fun a ha => by unfold inNew inC at ha; omega)).tr (m2.mono (fun a ha => by unfold inU at ha; omega)))⟩
    · rw [if_pos hy, if_neg (fun q => hy q.2), if_neg (fun q => hy q.2)]
      exact key _
  · rw [if_pos hx, if_neg (fun q => hx q.1), if_neg (fun q => hx q.1)]
    exact key _
