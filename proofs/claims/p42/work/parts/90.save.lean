/-! save -/
theorem CIx.eq {Q : Nat → Prop} {σ τ : zS} {o B : Nat} {A : zW} {q u P : Nat → Nat} (hG : GA A B) (h : CIx σ o A q u P) (g : zEq Q σ τ) (hP : ∀ a, o ≤ a → a < o + 257 → Q a) (hP2 : ∀ a, o + 257 ≤ a → a < znx σ → Q a) (hx : znx σ ≤ znx τ) : CIx τ o A q u P := by
  obtain ⟨hR, ⟨r, hr⟩, hHQ, hHV, hS, hT⟩ := h
  refine ⟨hR.eq hG.1.2.2.1 g hP, ⟨r, hr.eq g (hP _ (by omega) (by omega))⟩, hHQ.eq g (hP _ (by omega) (by omega)), hHV.eq (fun i hi => (hHQ.1 i (by have := hG.2.1.1; omega)).2) (fun i hi => (hG.2.1.2 i hi).2.2.1) g (fun a _ _ => hP a (by omega) (by omega)), ⟨fun s hs => ?_, hS.2⟩, hT.eq g (hP _ (by omega) (by omega)) (hP _ (by omega) (by omega))⟩
  have h227 := hP (o + 227) (by omega) (by omega)
  rcases hS.1 s hs with ⟨e1, e2⟩ | ⟨C, e1, e2, e3, e4, e5, e6, e7⟩
  · exact Or.inl ⟨e1, (g.ar h227 s).trans e2⟩
  · have hC := hG.2.2.1 s hs C e1
    exact Or.inr ⟨C, e1, (g.ar h227 s).trans e2, e3, by omega, e5.eq g (fun a _ _ => hP2 a (by omega) (by omega)), e6.eq g (hP2 _ (by omega) (by omega)), e7.eq (fun i hi => by have := hC.2.2.1; omega) g (fun a _ _ => hP2 a (by omega) (by omega))⟩
theorem SnV.put {Q : Nat → Prop} {σ τ : zS} {o s c : Nat} {P : Nat → Nat} {S : Nat → Option zC} {C : zC} (h : SnV σ o P S) (hg : ∀ s, s < 2 → ∀ C, S s = some C → GC C) (g : zFr Q σ τ) (hQ : ∀ a, Q a → a = o + 227 ∨ inC c a) (h2 : ∀ k, k ≠ s → zar τ (o + 227) k = zar σ (o + 227) k) (h1 : zar τ (o + 227) s = some c) (hc : o + 257 ≤ c) (hx : c + 28 ≤ znx τ) (hd : ∀ k, k < 2 → k ≠ s → S k ≠ none → P k + 28 ≤ c ∨ c + 28 ≤ P k) (hS : CmS τ c) (hq : CmQ τ c (fun x => x)) (hv : CmV τ c (fun x => x) C) : SnV τ o (fun k => if k = s then c else P k) (fun k => if k = s then some C else S k) := by
  refine ⟨fun k hk => ?_, fun a b => ?_⟩
  · show (((if k = s then some C else S k) = none ∧ _) ∨ ∃ C', (if k = s then some C else S k) = some C' ∧ zar τ (o + 227) k = some (if k = s then c else P k) ∧ o + 257 ≤ (if k = s then c else P k) ∧ (if k = s then c else P k) + 28 ≤ znx τ ∧ CmS τ (if k = s then c else P k) ∧ CmQ τ (if k = s then c else P k) _ ∧ CmV τ (if k = s then c else P k) _ C')
    by_cases e : k = s
    · simp only [if_pos e]
      subst e
      exact Or.inr ⟨C, rfl, h1, hc, hx, hS, hq, hv⟩
    · simp only [if_neg e]
      rcases h.1 k hk with ⟨e1, e2⟩ | ⟨C', e1, e2, e3, e4, e5, e6, e7⟩
      · exact Or.inl ⟨e1, (h2 k e).trans e2⟩
      · have dj := hd k hk e (by rw [e1]; exact fun q => nomatch q)
        have nQ : ∀ a, P k ≤ a → a < P k + 28 → ¬ Q a := fun a x1 x2 x3 => by
          rcases hQ a x3 with y | y
          · omega
          · unfold inC at y
            omega
        exact Or.inr ⟨C', e1, (h2 k e).trans e2, e3, by rw [g.nx]; exact e4, e5.fr g, e6.fr g (nQ _ (by omega) (by omega)), e7.fr e6 (hg k hk C' e1).2.2.1 g (fun a ha => nQ a (by unfold inC at ha; omega) (by unfold inC at ha; omega))⟩
  · show (if 0 = s then c else P 0) + 28 ≤ (if 1 = s then c else P 1) ∨ (if 1 = s then c else P 1) + 28 ≤ (if 0 = s then c else P 0)
    have a : (if 0 = s then some C else S 0) ≠ none := a
    have b : (if 1 = s then some C else S 1) ≠ none := b
    by_cases e0 : 0 = s
    · rw [if_pos e0, if_neg (by omega)]
      rw [if_neg (by omega)] at b
      have := hd 1 (by omega) (by omega) b
      omega
    · by_cases e1 : 1 = s
      · rw [if_neg e0, if_pos e1]
        rw [if_neg e0] at a
        exact hd 0 (by omega) e0 a
      · rw [if_neg e0, if_neg e1]
        rw [if_neg e0] at a
        rw [if_neg e1] at b
        exact h.2 a b
def aSn (A : zW) (S : Nat → Option zC) : zW := (aC A, (aHn A, aHk A), S, (aTn A, aTx A), aU A, aT A)
theorem CIx.snf {Q : Nat → Prop} {σ τ : zS} {o B : Nat} {A : zW} {q u P P' : Nat → Nat} {S : Nat → Option zC} (hG : GA A B) (h : CIx σ o A q u P) (g : zFr Q σ τ) (h1 : ∀ a, o ≤ a → a < o + 249 → a ≠ o + 227 → ¬ Q a) (hS : SnV τ o P' S) : CIx τ o (aSn A S) q u P' := by
  obtain ⟨hR, ⟨r, hr⟩, hHQ, hHV, _, hT⟩ := h
  exact ⟨hR.fr hG.1.2.2.1 g (fun a ha => h1 a (by unfold inC at ha; omega) (by unfold inC at ha; omega) (by unfold inC at ha; omega)), ⟨r, hr.fr g (h1 _ (by omega) (by omega) (by omega))⟩, hHQ.fr g (h1 _ (by omega) (by omega) (by omega)), hHV.fr hHQ hG.2.1.1 (fun i hi => (hG.2.1.2 i hi).2.2.1) g (fun a ha => h1 a (by unfold inH at ha; omega) (by unfold inH at ha; omega) (by unfold inH at ha; omega)), hS, hT.fr g (h1 _ (by omega) (by omega) (by omega)) (h1 _ (by omega) (by omega) (by omega))⟩
def rSav (A : zW) (x : Int32) : Int32 := if zin x 2 then nI (cN (aC A)) else -1001
def tSav (A : zW) (x : Int32) : zW := if zin x 2 then aSn A (fun k => if k = x.toNatClampNeg then some (aC A) else aS A k) else A
theorem GA.sav {A : zW} {B : Nat} (hG : GA A B) (x : Int32) : GA (tSav A x) B := by
  unfold tSav
  split
  · obtain ⟨hC, hH, hS, hT, hs, hlm, hu, hv, hb⟩ := hG
    refine ⟨hC, hH, fun s hs2 C e => ?_, hT, hs, hlm, hu, hv, hb⟩
    have e : (if s = x.toNatClampNeg then some (aC A) else aS A s) = some C := e
    by_cases e2 : s = x.toNatClampNeg
    · rw [if_pos e2] at e
      injection e with e
      rw [← e]
      exact hC
    · rw [if_neg e2] at e
      exact hS s hs2 C e
  · exact hG
/-- a call of the class that may make objects -/
def zOS (o : Nat) (z : zO) (r : Int32) (A : zW) (σ : zS) : Prop := ∃ τ q u P, z = some (some (.inl r), τ) ∧ CIx τ o A q u P ∧ zEq (fun a => a < o ∨ (o + 257 ≤ a ∧ a < o + 257)) σ τ ∧ znx σ ≤ znx τ
theorem zOC.os {o : Nat} {z : zO} {r : Int32} {A : zW} {σ : zS} (h : zOC o z r A σ) : zOS o z r A σ := by
  obtain ⟨τ, q, u, P, h1, h2, h3⟩ := h
  exact ⟨τ, q, u, P, h1, h2, h3.eq (fun a ha => by omega), by rw [h3.nx]; exact Nat.le_refl _⟩
theorem c_save {σ : zS} {o B : Nat} {A : zW} {q u P : Nat → Nat} (hG : GA A B) (hx : o + 257 ≤ znx σ) (hI : CIx σ o A q u P) (x : Int32) (d : Nat) : zOS o (zEv (d + 20) mX10_save [.inr (.inl (some o)), .inl x] σ) (rSav A x) (tSav A x) σ := by
  have hI0 := hI
  obtain ⟨hR, ⟨r, hr⟩, hHQ, hHV, hS, hT⟩ := hI
  have hO := hR.1
  have hC := hG.1
  have n2 : Int32.ofNat 2 = nI 2 := rfl
  have w1 : x < 0 ↔ x.toInt < 0 := Int32.lt_iff_toInt_lt
  have w2 : x < nI 2 ↔ x.toInt < 2 := by rw [Int32.lt_iff_toInt_lt]; exact Iff.rfl
  rw [vX10_save]
  unfold fX10_save rSav tSav
  simp only [zlt_e, onR_s, nul_s, nul_n, chk_e, bnI_s, bnR_s, bnV_s, zi_si, zi_sr, zi_sl, zi_sa, zi_sq, zr_si, zr_sr, zr_sl, zr_sa, zr_sq, zl_si, zl_sr, zl_sl, zl_sa, zl_sq, zai_si, zai_sr, zai_sl, zai_sa, zai_sq, zar_si, zar_sr, zar_sl, zar_sa, zar_sq, zkd_si, zkd_sr, zkd_sl, zkd_sa, zkd_sq, zln_si, zln_sr, zln_sl, zln_sa, zln_sq, znx_si, znx_sr, znx_sl, znx_sa, znx_sq, hO.f.1, hO.f.2.2.2.2.1, hO.sn.1, hO.sn.2, if_true, w1, w2, n2]
  by_cases hz : zin x 2
  · rw [if_neg (by have := hz.1; omega), if_pos (by exact hz.2), if_pos hz, if_pos hz]
    obtain ⟨ex, hk⟩ := zin_n hz
    generalize x.toNatClampNeg = k at *
    subst ex
    simp only [eq_true hz, and_self, if_true]
    rcases hS.1 k hk with ⟨e1, e2⟩ | ⟨C, e1, e2, e3, e4, e5, e6, e7⟩
    · have k0 := kd_no σ 0
      generalize ec : znx σ = c at *
      have p0 : zEq (fun a => a < c) σ (zno σ 0) := zEq.no σ 0 (by omega)
      obtain ⟨τ, f1, f2, f3, f4, f5, _, _, _⟩ := s_i0 (σ := zno σ 0) (c := c) k0 (by rw [nx_no, ec]) (d + 16)
      have p1 := p0.tr f2
      have hI1 : CIx τ o A q u P := hI0.eq hG p1 (fun a _ _ => by omega) (fun a _ h => by omega) (by omega)
      have gs : zFr (fun a => a = o + 227 ∨ inC c a) τ (zsq τ (o + 227) k (some c)) := zFr.sq τ (Or.inl rfl)
      have gs' : zFr (fun a => a = o + 227) τ (zsq τ (o + 227) k (some c)) := zFr.sq τ rfl
      have hO1 := hI1.1.1
      have hO2 := hO1.fr gs
      obtain ⟨υ, l1, l2, l3⟩ := s_ccopy (f4.fr gs) hO2.c (by omega) (f5.fr gs' (by omega)) (hI1.1.2.1.fr gs (by unfold inC; omega)) (hI1.1.2.2.1.fr hI1.1.2.1 hC.2.2.1 gs (fun a ha => by unfold inC at ha; unfold inC; omega)) hC (d + 14)
      have gu : zFr (fun a => a = o + 227 ∨ inC c a) (zsq τ (o + 227) k (some c)) υ := l2.mono (fun a ha => Or.inr ha.1)
      have g2 := gs.tr gu
      have hO3 := hO2.fr gu
      have nυ : zi υ 2 (o + 1) = nI (cN (aC A)) := (g2.i (by unfold inC; omega) _).trans hI1.1.2.2.1.2.1
      have kc : zkd τ c = 0 := f4.1
      have h227 : ∀ k', zar υ (o + 227) k' = zar (zsq τ (o + 227) k (some c)) (o + 227) k' := fun k' => l2.ar (by unfold inC; omega) k'
      rw [e2]
      simp only [zlt_e, onR_s, nul_s, nul_n, chk_e, bnI_s, bnR_s, bnV_s, zi_si, zi_sr, zi_sl, zi_sa, zi_sq, zr_si, zr_sr, zr_sl, zr_sa, zr_sq, zl_si, zl_sr, zl_sl, zl_sa, zl_sq, zai_si, zai_sr, zai_sl, zai_sa, zai_sq, zar_si, zar_sr, zar_sl, zar_sa, zar_sq, zkd_si, zkd_sr, zkd_sl, zkd_sa, zkd_sq, zln_si, zln_sr, zln_sl, zln_sa, zln_sq, znx_si, znx_sr, znx_sl, znx_sa, znx_sq, k0, if_true, f1, hO1.f.1, hO1.f.2.1, hO1.f.2.2.2.2.1, hO1.sn.1, hO1.sn.2, eq_true hz, and_self, kc, l1, hO3.f.1, hO3.f.2.1, hO3.c.1, s_layerCount hO3.c, nυ, n_tn (show k < 2 ^ 31 by omega)]
      refine ⟨υ, q, u, _, rfl, hI1.snf hG g2 (fun a h1 h2 h3 => by unfold inC; omega) (hI1.2.2.2.2.1.put (s := k) (c := c) hG.2.2.1 g2 (fun a ha => ha) (fun k' hk' => by rw [h227, zar_sq, if_neg (by omega)]) (by rw [h227, zar_sq, if_pos ⟨rfl, rfl⟩]) (by omega) (by rw [g2.nx]; omega) (fun k' hk' ne hn => ?_) (f4.fr g2) ((f5.fr gs' (by omega)).fr l2 (by omega)) l3), (p1.mono (fun a ha => by omega)).tr (g2.eq (fun a ha => by unfold inC; omega)), by rw [g2.nx]; omega⟩
      rcases hS.1 k' hk' with ⟨y1, y2⟩ | ⟨C', y1, y2, y3, y4, _⟩
      · exact absurd y1 hn
      · exact Or.inl (by omega)
    · obtain ⟨υ, l1, l2, l3⟩ := s_ccopy e5 hO.c (by omega) e6 hR.2.1 hR.2.2.1 hC (d + 14)
      have g2 : zFr (fun a => a = o + 227 ∨ inC (P k) a) σ υ := l2.mono (fun a ha => Or.inr ha.1)
      have hO3 := hO.fr g2
      have nυ : zi υ 2 (o + 1) = nI (cN (aC A)) := (g2.i (by unfold inC; omega) _).trans hR.2.2.1.2.1
      have h227 : ∀ k', zar υ (o + 227) k' = zar σ (o + 227) k' := fun k' => l2.ar (by unfold inC; omega) k'
      rw [e2]
      simp only [zlt_e, onR_s, nul_s, nul_n, chk_e, bnI_s, bnR_s, bnV_s, zi_si, zi_sr, zi_sl, zi_sa, zi_sq, zr_si, zr_sr, zr_sl, zr_sa, zr_sq, zl_si, zl_sr, zl_sl, zl_sa, zl_sq, zai_si, zai_sr, zai_sl, zai_sa, zai_sq, zar_si, zar_sr, zar_sl, zar_sa, zar_sq, zkd_si, zkd_sr, zkd_sl, zkd_sa, zkd_sq, zln_si, zln_sr, zln_sl, zln_sa, zln_sq, znx_si, znx_sr, znx_sl, znx_sa, znx_sq, e5.1, hO.f.1, hO.f.2.1, if_true, l1, hO3.f.1, hO3.f.2.1, hO3.c.1, s_layerCount hO3.c, nυ]
      refine ⟨υ, q, u, _, rfl, hI0.snf hG g2 (fun a h1 h2 h3 => by unfold inC; omega) (hS.put (s := k) (c := P k) hG.2.2.1 g2 (fun a ha => ha) (fun k' _ => h227 k') ((h227 k).trans e2) e3 (by rw [g2.nx]; exact e4) (fun k' hk' ne hn => ?_) (e5.fr g2) (e6.fr l2 (by omega)) l3), g2.eq (fun a ha => by unfold inC; omega), by rw [g2.nx]; exact Nat.le_refl _⟩
      have hsk : aS A k ≠ none := by rw [e1]; exact fun q => nomatch q
      have dj := hS.2
      rcases (show (k = 0 ∧ k' = 1) ∨ (k = 1 ∧ k' = 0) by omega) with ⟨y1, y2⟩ | ⟨y1, y2⟩
      · subst y1; subst y2
        exact (dj hsk hn).symm
      · subst y1; subst y2
        exact dj hn hsk
  · have hz' : ¬ (0 ≤ x.toInt ∧ x.toInt < 2) := hz
    rw [if_neg hz, if_neg hz]
    by_cases h1 : x.toInt < 0
    · rw [if_pos h1]; exact (zOC.same hI0 _).os
    · rw [if_neg h1, if_neg (by omega)]; exact (zOC.same hI0 _).os
