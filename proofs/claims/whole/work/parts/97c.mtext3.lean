/-! text: the reference's options -/
def RD (σ : zS) (m c : Nat) (l : Nat → Int) : Prop := ∀ j, j < 32 → zai σ (m + 19) (32 * c + j) = iI (l j)
theorem RD.fr {P : Nat → Prop} {σ τ : zS} {m c : Nat} {l : Nat → Int} (h : RD σ m c l) (g : zFr P σ τ) (hn : ¬ P (m + 19)) : RD τ m c l := fun j hj => (g.ai hn _).trans (h j hj)
theorem RD.st {σ : zS} {m c j : Nat} {l : Nat → Int} (h : RD σ m c l) (v : Int) : RD (zsa σ (m + 19) (32 * c + j) (iI v)) m c (upR l j v) := fun i hi => by
  rw [zai_sa]
  unfold upR
  by_cases e : i = j
  · rw [if_pos ⟨rfl, by omega⟩, if_pos e]
  · rw [if_neg (by omega), if_neg e]; exact h i hi
def b01 (a : Bool) : Int32 := if a then 1 else 0
def FL (σ : zS) (m : Nat) (a b c : Bool) : Prop := zi σ 611 m = b01 a ∧ zi σ 612 m = b01 b ∧ zi σ 613 m = b01 c
theorem b01_0 : ∀ a, (b01 a = 0) ↔ a = false := by decide
theorem kwO_c {t : Nat → Nat} {T : zTk} : (kwO t T = 0 ↔ eqW t T (nmW 15)) ∧ (kwO t T = 1 ↔ eqW t T (nmW 16)) ∧ (kwO t T = 2 ↔ eqW t T (nmW 17)) ∧ kwO t T ≤ 3 := by
  have l15 : (nmW 15).length = 7 := rfl
  have l16 : (nmW 16).length = 4 := rfl
  have l17 : (nmW 17).length = 3 := rfl
  have hle : kwO t T ≤ 3 := (fnd_le _ 3 0).2
  refine ⟨?_, ?_, ?_, hle⟩ <;> unfold kwO
  · by_cases e0 : eqW t T (nmW 15)
    · rw [fnd_s (decide_eq_true e0)]; exact ⟨fun _ => e0, fun _ => rfl⟩
    · rw [fnd_n (fun q => e0 (of_decide_eq_true q))]
      have := (fnd_le (fun k => decide (eqW t T (nmW (15 + k)))) 2 (0 + 1)).1
      exact ⟨fun q => by omega, fun q => absurd q e0⟩
  · by_cases e0 : eqW t T (nmW 15)
    · rw [fnd_s (decide_eq_true e0)]
      exact ⟨fun q => absurd q (by decide), fun q => by have := q.2.1; have := e0.2.1; omega⟩
    · rw [fnd_n (fun q => e0 (of_decide_eq_true q))]
      by_cases e1 : eqW t T (nmW 16)
      · rw [fnd_s (decide_eq_true e1)]; exact ⟨fun _ => e1, fun _ => rfl⟩
      · rw [fnd_n (fun q => e1 (of_decide_eq_true q))]
        have := (fnd_le (fun k => decide (eqW t T (nmW (15 + k)))) 1 (0 + 1 + 1)).1
        exact ⟨fun q => by omega, fun q => absurd q e1⟩
  · by_cases e0 : eqW t T (nmW 15)
    · rw [fnd_s (decide_eq_true e0)]
      exact ⟨fun q => absurd q (by decide), fun q => by have := q.2.1; have := e0.2.1; omega⟩
    · rw [fnd_n (fun q => e0 (of_decide_eq_true q))]
      by_cases e1 : eqW t T (nmW 16)
      · rw [fnd_s (decide_eq_true e1)]
        exact ⟨fun q => absurd q (by decide), fun q => by have := q.2.1; have := e1.2.1; omega⟩
      · rw [fnd_n (fun q => e1 (of_decide_eq_true q))]
        by_cases e2 : eqW t T (nmW 17)
        · rw [fnd_s (decide_eq_true e2)]; exact ⟨fun _ => e2, fun _ => rfl⟩
        · rw [fnd_n (fun q => e2 (of_decide_eq_true q))]
          exact ⟨fun q => absurd (show (3 : Nat) = 2 from q) (by decide), fun q => absurd q e2⟩
theorem s_modeAny {σ : zS} {m : Nat} (hM : MS σ m) (d : Nat) : ∃ v, zEv (d + 1) mX11_modeOf [.inr (.inl (some m))] σ = some (some (.inl v), σ) := by
  rw [vX11_modeOf]
  unfold fX11_modeOf
  simp only [chk_e, hM.k, if_true]
  repeat' split
  all_goals exact ⟨_, rfl⟩
/-- one option -/
theorem s_option {σ : zS} {m n k : Nat} {t : Nat → Nat} {T : zTk} {l : Nat → Int} {a b c : Bool} (h : RT σ m n t) (hR : RW σ m t T) (hT : TkG n t T) (hf : zi σ 608 m = -1009) (h1 : kK T = 1) (hk : k < 8) (hF : FL σ m a b c) (hD : RD σ m k l) (d : Nat) :
    ∃ τ, zEv (d + 6) mX11_readOption [.inr (.inl (some m)), .inl (nI (32 * k))] σ = some (none, τ) ∧ zFr (fun x => x = m ∨ x = m + 19) σ τ ∧ (∀ f, f < 603 ∨ f = 610 → zi τ f m = zi σ f m) ∧ (∀ p, p < 32 * k → zai τ (m + 19) p = zai σ (m + 19) p) ∧
      (kwO t T = 0 ∧ a = false → ((pN n t 0 100 (nx n t (kE T))).1 = true → zi τ 608 m = -1009 ∧ RW τ m t (pN n t 0 100 (nx n t (kE T))).2.1 ∧ RD τ m k (upR l 4 (pN n t 0 100 (nx n t (kE T))).2.2) ∧ FL τ m true b c) ∧ (¬ (pN n t 0 100 (nx n t (kE T))).1 = true → zi τ 608 m = nI (kS (pN n t 0 100 (nx n t (kE T))).2.1))) ∧
      (kwO t T = 1 ∧ b = false → (kwM t (nx n t (kE T)) < 8 → zi τ 608 m = -1009 ∧ RW τ m t (nx n t (kE (nx n t (kE T)))) ∧ RD τ m k (upR l 3 (kwM t (nx n t (kE T)))) ∧ FL τ m a true c) ∧ (¬ kwM t (nx n t (kE T)) < 8 → zi τ 608 m = nI (kS (nx n t (kE T))))) ∧
      (kwO t T = 2 ∧ c = false → zi τ 608 m = -1009 ∧ RW τ m t (nx n t (kE T)) ∧ RD τ m k (upR l 5 0) ∧ FL τ m a b true) ∧
      (¬ (kwO t T = 0 ∧ a = false) → ¬ (kwO t T = 1 ∧ b = false) → ¬ (kwO t T = 2 ∧ c = false) → zi τ 608 m = nI (kS T)) := by
  have hn := h.2.2.2.1
  have hw := hR.2.2.2.2 h1
  obtain ⟨o0, o1, o2, o3⟩ := kwO_c (t := t) (T := T)
  have c0 : (lg_cmp (zl σ 606 m) 6041487463 = 0) ↔ kwO t T = 0 := by rw [hw, o0]; exact lc_W hT h1 (by decide) (by decide) (by decide)
  have c1 : (lg_cmp (zl σ 606 m) 266927 = 0) ↔ kwO t T = 1 := by rw [hw, o1]; exact lc_W hT h1 (by decide) (by decide) (by decide)
  have c2 : (lg_cmp (zl σ 606 m) 11103 = 0) ↔ kwO t T = 2 := by rw [hw, o2]; exact lc_W hT h1 (by decide) (by decide) (by decide)
  have b1 : zB 1 = True := eq_true (Or.inr rfl)
  have hT1 := nx_G (t := t) hT.2.2.1
  have sx : ∀ j : Nat, j < 32 → (nI (32 * k) + nI j).toNatClampNeg = 32 * k + j ∧ (zin (nI (32 * k) + nI j) 256 = True) := fun j hj => by
    rw [nI_add, n_tn (by omega)]
    exact ⟨rfl, eq_true ((n_zin (by omega)).mpr (by omega))⟩
  have sx3 : (nI (32 * k) + 3).toNatClampNeg = 32 * k + 3 ∧ (zin (nI (32 * k) + 3) 256 = True) := sx 3 (by decide)
  have sx4 : (nI (32 * k) + 4).toNatClampNeg = 32 * k + 4 ∧ (zin (nI (32 * k) + 4) 256 = True) := sx 4 (by decide)
  have sx5 : (nI (32 * k) + 5).toNatClampNeg = 32 * k + 5 ∧ (zin (nI (32 * k) + 5) 256 = True) := sx 5 (by decide)
  have hsT : kS T ≤ 1000 := by have := hT.2.1; have := hT.2.2.1; omega
  have hsT1 : kS (nx n t (kE T)) ≤ 1000 := by have := hT1.2.1; have := hT1.2.2.1; omega
  -- the last road: the word must be "off", once
  have off : ¬ (kwO t T = 0 ∧ a = false) → ¬ (kwO t T = 1 ∧ b = false) → ∃ τ, LX11_readOption_115 (zEv (d + 5)) m (nI (32 * k)) σ = some (none, τ) ∧ zFr (fun x => x = m ∨ x = m + 19) σ τ ∧ (∀ f, f < 603 ∨ f = 610 → zi τ f m = zi σ f m) ∧ (∀ p, p < 32 * k → zai τ (m + 19) p = zai σ (m + 19) p) ∧ (kwO t T = 2 ∧ c = false → zi τ 608 m = -1009 ∧ RW τ m t (nx n t (kE T)) ∧ RD τ m k (upR l 5 0) ∧ FL τ m a b true) ∧ (¬ (kwO t T = 2 ∧ c = false) → zi τ 608 m = nI (kS T)) := by
    intro n0 n1
    have no : ¬ (kwO t T = 2 ∧ c = false) → ∃ τ, LX11_readOption_139 (zEv (d + 5)) m (nI (32 * k)) (some m) 0 σ = some (none, τ) ∧ zFr (fun x => x = m ∨ x = m + 19) σ τ ∧ (∀ f, f < 603 ∨ f = 610 → zi τ f m = zi σ f m) ∧ (∀ p, p < 32 * k → zai τ (m + 19) p = zai σ (m + 19) p) ∧ (kwO t T = 2 ∧ c = false → zi τ 608 m = -1009 ∧ RW τ m t (nx n t (kE T)) ∧ RD τ m k (upR l 5 0) ∧ FL τ m a b true) ∧ (¬ (kwO t T = 2 ∧ c = false) → zi τ 608 m = nI (kS T)) := by
      intro n2
      rw [uX11_readOption_139]
      simp only [onR_s, chk_e, h.1.k, if_true, s_takeN h.1 hR.2.1 hsT hf (d + 3), bnV_s, zlt_e, zkd_si, zr_si, zln_si, b1, and_self, h.1.dr.1, h.1.dr.2.1, h.1.dr.2.2, sx5.1, sx5.2]
      refine ⟨_, rfl, ((zFr.si (P := fun x => x = m ∨ x = m + 19) σ (Or.inl rfl)).tr (zFr.si _ (Or.inl rfl))).tr (zFr.sa _ (Or.inr rfl)), fun f hf' => by rw [zi_sa, zi_si, if_neg (by omega), zi_si, if_neg (by omega)], fun p hp => by rw [zai_sa, if_neg (by omega), zai_si, zai_si], fun q => absurd q n2, fun _ => by rw [zi_sa, zi_si, if_neg (by omega), zi_si, if_pos ⟨rfl, rfl⟩]⟩
    rw [uX11_readOption_115]
    simp only [chk_e, h.1.k, if_true, c2, hF.2.2, b01_0]
    by_cases e2 : kwO t T = 2
    · rw [if_pos e2]
      by_cases ec : c = false
      · rw [if_pos ec, uX11_readOption_139]
        obtain ⟨τ, k1, k2, k3, k4⟩ := s_takeY h hR hT hf (d + 1)
        have k1' : zEv (d + 5) mX11_take [.inr (.inl (some m)), .inl 1] σ = some (none, τ) := k1
        have hM' := h.1.fr k2
        simp only [onR_s, chk_e, h.1.k, if_true, k1', bnV_s, zlt_e, hM'.k, zkd_si, zr_si, zln_si, b1, and_self, hM'.dr.1, hM'.dr.2.1, hM'.dr.2.2, sx5.1, sx5.2]
        have hD' : RD (zsi τ 613 m 1) m k l := (hD.fr k2 (by omega)).fr (zFr.si (P := fun x => x = m) τ rfl) (by omega)
        refine ⟨_, rfl, ((k2.mono (fun x hx => Or.inl hx)).tr (zFr.si _ (Or.inl rfl))).tr (zFr.sa _ (Or.inr rfl)), fun f hf' => by rw [zi_sa, zi_si, if_neg (by omega)]; exact k3 f (by unfold inTk; omega), fun p hp => by rw [zai_sa, if_neg (by omega), zai_si]; exact k2.ai (by omega) p, fun _ => ⟨?_, ?_, hD'.st 0, ?_⟩, fun q => absurd ⟨e2, ec⟩ q⟩
        · rw [zi_sa, zi_si, if_neg (by omega)]; exact (k3 608 (by unfold inTk; omega)).trans hf
        · exact k4.to (fun f _ _ => by rw [zi_sa, zi_si, if_neg (by omega)]) (by rw [zl_sa, zl_si])
        · refine ⟨?_, ?_, ?_⟩
          · rw [zi_sa, zi_si, if_neg (by omega)]; exact (k3 611 (by unfold inTk; omega)).trans hF.1
          · rw [zi_sa, zi_si, if_neg (by omega)]; exact (k3 612 (by unfold inTk; omega)).trans hF.2.1
          · rw [zi_sa, zi_si, if_pos ⟨rfl, rfl⟩]; rfl
      · rw [if_neg ec]
        exact no (fun q => ec q.2)
    · rw [if_neg e2]
      exact no (fun q => e2 q.1)
  -- "mode", once
  have md : ¬ (kwO t T = 0 ∧ a = false) → ∃ τ, LX11_readOption_46 (zEv (d + 5)) m (nI (32 * k)) σ = some (none, τ) ∧ zFr (fun x => x = m ∨ x = m + 19) σ τ ∧ (∀ f, f < 603 ∨ f = 610 → zi τ f m = zi σ f m) ∧ (∀ p, p < 32 * k → zai τ (m + 19) p = zai σ (m + 19) p) ∧
      (kwO t T = 1 ∧ b = false → (kwM t (nx n t (kE T)) < 8 → zi τ 608 m = -1009 ∧ RW τ m t (nx n t (kE (nx n t (kE T)))) ∧ RD τ m k (upR l 3 (kwM t (nx n t (kE T)))) ∧ FL τ m a true c) ∧ (¬ kwM t (nx n t (kE T)) < 8 → zi τ 608 m = nI (kS (nx n t (kE T))))) ∧
      (kwO t T = 2 ∧ c = false → zi τ 608 m = -1009 ∧ RW τ m t (nx n t (kE T)) ∧ RD τ m k (upR l 5 0) ∧ FL τ m a b true) ∧
      (¬ (kwO t T = 1 ∧ b = false) → ¬ (kwO t T = 2 ∧ c = false) → zi τ 608 m = nI (kS T)) := by
    intro n0
    have other : ¬ (kwO t T = 1 ∧ b = false) → ∃ τ, LX11_readOption_115 (zEv (d + 5)) m (nI (32 * k)) σ = some (none, τ) ∧ zFr (fun x => x = m ∨ x = m + 19) σ τ ∧ (∀ f, f < 603 ∨ f = 610 → zi τ f m = zi σ f m) ∧ (∀ p, p < 32 * k → zai τ (m + 19) p = zai σ (m + 19) p) ∧
      (kwO t T = 1 ∧ b = false → (kwM t (nx n t (kE T)) < 8 → zi τ 608 m = -1009 ∧ RW τ m t (nx n t (kE (nx n t (kE T)))) ∧ RD τ m k (upR l 3 (kwM t (nx n t (kE T)))) ∧ FL τ m a true c) ∧ (¬ kwM t (nx n t (kE T)) < 8 → zi τ 608 m = nI (kS (nx n t (kE T))))) ∧
      (kwO t T = 2 ∧ c = false → zi τ 608 m = -1009 ∧ RW τ m t (nx n t (kE T)) ∧ RD τ m k (upR l 5 0) ∧ FL τ m a b true) ∧
      (¬ (kwO t T = 1 ∧ b = false) → ¬ (kwO t T = 2 ∧ c = false) → zi τ 608 m = nI (kS T)) := fun n1 => by
      obtain ⟨τ, k1, k2, k3, k4, k5, k6⟩ := off n0 n1
      exact ⟨τ, k1, k2, k3, k4, fun q => absurd q n1, k5, fun _ q => k6 q⟩
    rw [uX11_readOption_46]
    simp only [chk_e, h.1.k, if_true, c1, hF.2.1, b01_0]
    by_cases e1 : kwO t T = 1
    · rw [if_pos e1]
      by_cases eb : b = false
      · rw [if_pos eb]
        have g0 : zFr (fun x => x = m) σ (zsi σ 612 m 1) := zFr.si σ rfl
        have h0 : RT (zsi σ 612 m 1) m n t := h.fr g0 (by omega) (by rw [zi_si, if_neg (by omega)])
        have hR0 : RW (zsi σ 612 m 1) m t T := hR.to (fun f _ _ => by rw [zi_si, if_neg (by omega)]) (by rw [zl_si])
        obtain ⟨τ, k1, k2, k3, k4⟩ := s_takeY h0 hR0 hT (by rw [zi_si, if_neg (by omega)]; exact hf) (d + 1)
        have k1' : zEv (d + 5) mX11_take [.inr (.inl (some m)), .inl 1] (zsi σ 612 m 1) = some (none, τ) := k1
        have h' : RT τ m n t := h0.fr k2 (by omega) (k3 _ (by unfold inTk; omega))
        have f8 : zi τ 608 m = -1009 := (k3 608 (by unfold inTk; omega)).trans (by rw [zi_si, if_neg (by omega)]; exact hf)
        have gi : ∀ f, ¬ inTk f → f ≠ 612 → zi τ f m = zi σ f m := fun f hf' h6 => (k3 f hf').trans (by rw [zi_si, if_neg (by omega)])
        have g12 : zi τ 612 m = b01 true := (k3 612 (by unfold inTk; omega)).trans (by rw [zi_si, if_pos ⟨rfl, rfl⟩]; rfl)
        have gg := g0.tr k2
        have q1 : (nI (kK (nx n t (kE T))) = 1) ↔ kK (nx n t (kE T)) = 1 := n_eq (by have := hT1.1; omega) (by decide)
        have bad : ∀ v : Int32, ∃ υ, LX11_readOption_99 (zEv (d + 5)) m (nI (32 * k)) v (some m) τ = some (none, υ) ∧ zFr (fun x => x = m ∨ x = m + 19) σ υ ∧ (∀ f, f < 603 ∨ f = 610 → zi υ f m = zi σ f m) ∧ (∀ p, p < 32 * k → zai υ (m + 19) p = zai σ (m + 19) p) ∧ zi υ 608 m = nI (kS (nx n t (kE T))) := fun v => by
          rw [uX11_readOption_99]
          simp only [onR_s, chk_e, h'.1.k, if_true, s_takeN h'.1 k4.2.1 hsT1 f8 (d + 3), bnV_s, zlt_e, zkd_si, zr_si, zln_si, and_self, h'.1.dr.1, h'.1.dr.2.1, h'.1.dr.2.2, sx3.1, sx3.2]
          refine ⟨_, rfl, ((gg.mono (fun x hx => Or.inl hx)).tr (zFr.si _ (Or.inl rfl))).tr (zFr.sa _ (Or.inr rfl)), fun f hf' => by rw [zi_sa, zi_si, if_neg (by omega)]; exact gi f (by unfold inTk; omega) (by omega), fun p hp => by rw [zai_sa, if_neg (by omega), zai_si]; exact gg.ai (by omega) p, by rw [zi_sa, zi_si, if_pos ⟨rfl, rfl⟩]⟩
        have fin : ∀ υ X, X = some ((none : Option zV), υ) → zFr (fun x => x = m ∨ x = m + 19) σ υ → (∀ f, f < 603 ∨ f = 610 → zi υ f m = zi σ f m) → (∀ p, p < 32 * k → zai υ (m + 19) p = zai σ (m + 19) p) → zi υ 608 m = nI (kS (nx n t (kE T))) → ¬ kwM t (nx n t (kE T)) < 8 → ∃ τ, X = some (none, τ) ∧ zFr (fun x => x = m ∨ x = m + 19) σ τ ∧ (∀ f, f < 603 ∨ f = 610 → zi τ f m = zi σ f m) ∧ (∀ p, p < 32 * k → zai τ (m + 19) p = zai σ (m + 19) p) ∧
      (kwO t T = 1 ∧ b = false → (kwM t (nx n t (kE T)) < 8 → zi τ 608 m = -1009 ∧ RW τ m t (nx n t (kE (nx n t (kE T)))) ∧ RD τ m k (upR l 3 (kwM t (nx n t (kE T)))) ∧ FL τ m a true c) ∧ (¬ kwM t (nx n t (kE T)) < 8 → zi τ 608 m = nI (kS (nx n t (kE T))))) ∧
      (kwO t T = 2 ∧ c = false → zi τ 608 m = -1009 ∧ RW τ m t (nx n t (kE T)) ∧ RD τ m k (upR l 5 0) ∧ FL τ m a b true) ∧
      (¬ (kwO t T = 1 ∧ b = false) → ¬ (kwO t T = 2 ∧ c = false) → zi τ 608 m = nI (kS T)) := fun υ X x1 x2 x3 x4 x5 x6 => ⟨υ, x1, x2, x3, x4, fun _ => ⟨fun q => absurd q x6, fun _ => x5⟩, fun q => by have := q.1; omega, fun q => absurd ⟨e1, eb⟩ q⟩
        simp only [zlt_e, b1, and_self, if_true, zkd_si, h.1.k, k1', bnV_s, h'.1.k]
        by_cases e5 : kK (nx n t (kE T)) = 1
        · simp only [s_modeOf h'.1 k4 hT1 e5 (d + 4), bnI_s, k4.1, q1, if_pos e5, h'.1.k, if_true]
          by_cases em : kwM t (nx n t (kE T)) < 8
          · have nm : ¬ (nI (kwM t (nx n t (kE T))) = -1009) := nI_err (by omega)
            obtain ⟨υ, l1, l2, l3, l4⟩ := s_takeY h' k4 hT1 f8 (d + 1)
            have l1' : zEv (d + 5) mX11_take [.inr (.inl (some m)), .inl 1] τ = some (none, υ) := l1
            have hM2 := h'.1.fr l2
            simp only [if_pos em, nm, if_false, h'.1.k, l1', bnV_s, hM2.k, hM2.dr.1, hM2.dr.2.1, hM2.dr.2.2, onR_s, sx3.1, sx3.2, and_self, if_true]
            have hD' : RD υ m k l := (hD.fr gg (by omega)).fr l2 (by omega)
            have gi2 : ∀ f, ¬ inTk f → f ≠ 612 → zi υ f m = zi σ f m := fun f a b => (l3 f a).trans (gi f a b)
            refine ⟨_, rfl, ((gg.tr l2).mono (fun x hx => Or.inl hx)).tr (zFr.sa _ (Or.inr rfl)), fun f hf' => by rw [zi_sa]; exact gi2 f (by unfold inTk; omega) (by omega), fun p hp => by rw [zai_sa, if_neg (by omega)]; exact (gg.tr l2).ai (by omega) p, fun _ => ⟨fun _ => ⟨?_, ?_, ?_, ?_⟩, fun q => absurd em q⟩, fun q => by have := q.1; omega, fun q => absurd ⟨e1, eb⟩ q⟩
            · rw [zi_sa]; exact (l3 608 (by unfold inTk; omega)).trans f8
            · exact l4.to (fun f _ _ => by rw [zi_sa]) (by rw [zl_sa])
            · rw [i_nI]; exact hD'.st _
            · exact ⟨by rw [zi_sa]; exact (gi2 611 (by unfold inTk; omega) (by omega)).trans hF.1, by rw [zi_sa]; exact (l3 612 (by unfold inTk; omega)).trans g12, by rw [zi_sa]; exact (gi2 613 (by unfold inTk; omega) (by omega)).trans hF.2.2⟩
          · simp only [if_neg em, h'.1.k, if_true]
            obtain ⟨υ, x1, x2, x3, x4, x5⟩ := bad (-1009)
            exact fin υ _ x1 x2 x3 x4 x5 em
        · obtain ⟨v, hv⟩ := s_modeAny h'.1 (d + 4)
          simp only [hv, bnI_s, k4.1, q1, if_neg e5, h'.1.k, if_true]
          obtain ⟨υ, x1, x2, x3, x4, x5⟩ := bad v
          have em : ¬ kwM t (nx n t (kE T)) < 8 := fun q => by
            have : ∀ f i, (∀ k, ¬ eqW t (nx n t (kE T)) (nmW (18 + k))) → fnd (fun k => decide (eqW t (nx n t (kE T)) (nmW (18 + k)))) f i = i + f := by
              intro f
              induction f with
              | zero => intro i _; rfl
              | succ f ih => intro i hh; rw [fnd_n (fun q => hh i (of_decide_eq_true q)), ih _ hh]; omega
            have := this 8 0 (fun k q => e5 q.1)
            unfold kwM at q
            omega
          exact fin υ _ x1 x2 x3 x4 x5 em
      · rw [if_neg eb]
        exact other (fun q => eb q.2)
    · rw [if_neg e1]
      exact other (fun q => e1 q.1)
  have rest : ¬ (kwO t T = 0 ∧ a = false) → ∃ τ, LX11_readOption_46 (zEv (d + 5)) m (nI (32 * k)) σ = some (none, τ) ∧ zFr (fun x => x = m ∨ x = m + 19) σ τ ∧ (∀ f, f < 603 ∨ f = 610 → zi τ f m = zi σ f m) ∧ (∀ p, p < 32 * k → zai τ (m + 19) p = zai σ (m + 19) p) ∧
      (kwO t T = 0 ∧ a = false → ((pN n t 0 100 (nx n t (kE T))).1 = true → zi τ 608 m = -1009 ∧ RW τ m t (pN n t 0 100 (nx n t (kE T))).2.1 ∧ RD τ m k (upR l 4 (pN n t 0 100 (nx n t (kE T))).2.2) ∧ FL τ m true b c) ∧ (¬ (pN n t 0 100 (nx n t (kE T))).1 = true → zi τ 608 m = nI (kS (pN n t 0 100 (nx n t (kE T))).2.1))) ∧
      (kwO t T = 1 ∧ b = false → (kwM t (nx n t (kE T)) < 8 → zi τ 608 m = -1009 ∧ RW τ m t (nx n t (kE (nx n t (kE T)))) ∧ RD τ m k (upR l 3 (kwM t (nx n t (kE T)))) ∧ FL τ m a true c) ∧ (¬ kwM t (nx n t (kE T)) < 8 → zi τ 608 m = nI (kS (nx n t (kE T))))) ∧
      (kwO t T = 2 ∧ c = false → zi τ 608 m = -1009 ∧ RW τ m t (nx n t (kE T)) ∧ RD τ m k (upR l 5 0) ∧ FL τ m a b true) ∧
      (¬ (kwO t T = 0 ∧ a = false) → ¬ (kwO t T = 1 ∧ b = false) → ¬ (kwO t T = 2 ∧ c = false) → zi τ 608 m = nI (kS T)) := fun n0 => by
    obtain ⟨τ, k1, k2, k3, k4, k5, k6, k7⟩ := md n0
    exact ⟨τ, k1, k2, k3, k4, fun q => absurd q n0, k5, k6, fun _ => k7⟩
  rw [vX11_readOption]
  unfold fX11_readOption
  simp only [chk_e, h.1.k, if_true, c0, hF.1, b01_0]
  by_cases e0 : kwO t T = 0
  · rw [if_pos e0]
    by_cases ea : a = false
    · rw [if_pos ea]
      have g0 : zFr (fun x => x = m) σ (zsi σ 611 m 1) := zFr.si σ rfl
      have h0 : RT (zsi σ 611 m 1) m n t := h.fr g0 (by omega) (by rw [zi_si, if_neg (by omega)])
      have hR0 : RW (zsi σ 611 m 1) m t T := hR.to (fun f _ _ => by rw [zi_si, if_neg (by omega)]) (by rw [zl_si])
      obtain ⟨τ, k1, k2, k3, k4⟩ := s_takeY h0 hR0 hT (by rw [zi_si, if_neg (by omega)]; exact hf) (d + 1)
      have k1' : zEv (d + 5) mX11_take [.inr (.inl (some m)), .inl 1] (zsi σ 611 m 1) = some (none, τ) := k1
      have h' : RT τ m n t := h0.fr k2 (by omega) (k3 _ (by unfold inTk; omega))
      have f8 : zi τ 608 m = -1009 := (k3 608 (by unfold inTk; omega)).trans (by rw [zi_si, if_neg (by omega)]; exact hf)
      obtain ⟨υ, v, l1, l2, l3, l4, l5⟩ := s_mnum (lo := 0) (hi := 100) h' k4 hT1 (by decide) (by decide) f8 d
      have l1' : zEv (d + 5) mX11_readNumber [.inr (.inl (some m)), .inl 0, .inl 100] τ = some (some (.inl v), υ) := l1
      have hM2 := h'.1.fr l2
      have gi : ∀ f, ¬ inTk f → f ≠ 611 → f ≠ 608 → zi υ f m = zi σ f m := fun f a b c => ((l3 f a c).trans (k3 f a)).trans (by rw [zi_si, if_neg (by omega)])
      have g11 : zi υ 611 m = b01 true := ((l3 611 (by unfold inTk; omega) (by omega)).trans (k3 611 (by unfold inTk; omega))).trans (by rw [zi_si, if_pos ⟨rfl, rfl⟩]; rfl)
      have gg := (g0.tr k2).tr l2
      have hD' : RD υ m k l := hD.fr gg (by omega)
      simp only [zlt_e, b1, and_self, if_true, zkd_si, h.1.k, k1', bnV_s, h'.1.k, l1', bnI_s, h'.1.dr.1, hM2.dr.2.1, hM2.dr.2.2, onR_s, sx4.1, sx4.2]
      refine ⟨_, rfl, (gg.mono (fun x hx => Or.inl hx)).tr (zFr.sa _ (Or.inr rfl)), fun f hf' => by rw [zi_sa]; exact gi f (by unfold inTk; omega) (by omega) (by omega), fun p hp => by rw [zai_sa, if_neg (by omega)]; exact gg.ai (by omega) p, fun _ => ⟨fun hN => ?_, fun hN => by rw [zi_sa]; exact l5 hN⟩, fun q => by have := q.1; omega, fun q => by have := q.1; omega, fun q => absurd ⟨e0, ea⟩ q⟩
      obtain ⟨m1, m2, m3⟩ := l4 hN
      refine ⟨by rw [zi_sa]; exact m2, m3.to (fun f _ _ => by rw [zi_sa]) (by rw [zl_sa]), by rw [m1]; exact hD'.st _, by rw [zi_sa]; exact g11, by rw [zi_sa]; exact (gi 612 (by unfold inTk; omega) (by omega) (by omega)).trans hF.2.1, by rw [zi_sa]; exact (gi 613 (by unfold inTk; omega) (by omega) (by omega)).trans hF.2.2⟩
    · rw [if_neg ea]
      exact rest (fun q => ea q.2)
  · rw [if_neg e0]
    exact rest (fun q => e0 q.1)
