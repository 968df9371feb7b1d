/-! text: the reference's layers -/
def uns (a b c : Bool) : Nat := (if a then 0 else 1) + (if b then 0 else 1) + (if c then 0 else 1)
theorem uns_0 : ∀ a b c, uns a b c = 0 → a = true ∧ b = true ∧ c = true := by decide
theorem uns_s : ∀ b c, uns false b c = uns true b c + 1 ∧ uns b false c = uns b true c + 1 ∧ uns b c false = uns b c true + 1 := by decide
theorem s_mopts {m n k : Nat} {t : Nat → Nat} (hk : k < 8) (d : Nat) : ∀ (f : Nat) (a b c : Bool) (T : zTk) (l : Nat → Int) (σ : zS) (z1 z3 z4 : zV), uns a b c = f → RT σ m n t → RW σ m t T → TkG n t T → zi σ 608 m = -1009 → FL σ m a b c → RD σ m k l →
    ∃ τ, LX11_readLayer_132 (zEv (d + 6)) m z1 (nI (32 * k)) z3 z4 σ = LX11_readLayer_155 (zEv (d + 6)) m z1 (.inl (nI (32 * k))) z3 z4 τ ∧ zFr (fun x => x = m ∨ x = m + 19) σ τ ∧ (∀ f, f < 603 ∨ f = 610 → zi τ f m = zi σ f m) ∧ (∀ p, p < 32 * k → zai τ (m + 19) p = zai σ (m + 19) p) ∧
      ((pO n t f a b c T l).1 = true ∧ kK (pO n t f a b c T l).2.1 ≠ 1 → zi τ 608 m = -1009 ∧ RW τ m t (pO n t f a b c T l).2.1 ∧ RD τ m k (pO n t f a b c T l).2.2) ∧
      (¬ ((pO n t f a b c T l).1 = true ∧ kK (pO n t f a b c T l).2.1 ≠ 1) → zi τ 608 m = nI (kS (pO n t f a b c T l).2.1)) := by
  have stop : ∀ (σ : zS) (z1 z3 z4 : zV), MS σ m → ¬ (zi σ 608 m = -1009) → LX11_readLayer_132 (zEv (d + 6)) m z1 (nI (32 * k)) z3 z4 σ = LX11_readLayer_155 (zEv (d + 6)) m z1 (.inl (nI (32 * k))) z3 z4 σ := fun σ z1 z3 z4 hM hf => by
    rw [uX11_readLayer_132]
    simp only [chk_e, hM.k, if_true, s_isFine hM, bnI_s, zb_0, hf, not_false_eq_true]
  have quit : ∀ (f : Nat) (a b c : Bool) (T : zTk) (l : Nat → Int) (σ : zS) (z1 z3 z4 : zV), RT σ m n t → RW σ m t T → TkG n t T → zi σ 608 m = -1009 → RD σ m k l → ¬ kK T = 1 → ∃ τ, LX11_readLayer_132 (zEv (d + 6)) m z1 (nI (32 * k)) z3 z4 σ = LX11_readLayer_155 (zEv (d + 6)) m z1 (.inl (nI (32 * k))) z3 z4 τ ∧ zFr (fun x => x = m ∨ x = m + 19) σ τ ∧ (∀ f, f < 603 ∨ f = 610 → zi τ f m = zi σ f m) ∧ (∀ p, p < 32 * k → zai τ (m + 19) p = zai σ (m + 19) p) ∧
      ((pO n t f a b c T l).1 = true ∧ kK (pO n t f a b c T l).2.1 ≠ 1 → zi τ 608 m = -1009 ∧ RW τ m t (pO n t f a b c T l).2.1 ∧ RD τ m k (pO n t f a b c T l).2.2) ∧
      (¬ ((pO n t f a b c T l).1 = true ∧ kK (pO n t f a b c T l).2.1 ≠ 1) → zi τ 608 m = nI (kS (pO n t f a b c T l).2.1)) := by
    intro f a b c T l σ z1 z3 z4 h hR hT hf hD h1
    have e : pO n t f a b c T l = (true, T, l) := by
      cases f with
      | zero => rfl
      | succ f => exact if_neg h1
    have q1 : (nI (kK T) = 1) ↔ kK T = 1 := n_eq (by have := hT.1; omega) (by decide)
    refine ⟨σ, ?_, zFr.rf σ, fun _ _ => rfl, fun _ _ => rfl, ?_, ?_⟩
    · rw [uX11_readLayer_132]
      simp only [chk_e, h.1.k, if_true, s_isFine h.1, bnI_s, zb_0, hf, not_true_eq_false, if_false, hR.1, q1, h1]
    · rw [e]; exact fun _ => ⟨hf, hR, hD⟩
    · rw [e]; exact fun q => absurd ⟨rfl, h1⟩ q
  intro f
  induction f with
  | zero =>
    intro a b c T l σ z1 z3 z4 hu h hR hT hf hF hD
    by_cases h1 : kK T = 1
    · obtain ⟨ea, eb, ec⟩ := uns_0 a b c hu
      obtain ⟨τ, k1, k2, k3, k4, -, -, -, k8⟩ := s_option h hR hT hf h1 hk hF hD d
      have q1 : (nI (kK T) = 1) ↔ kK T = 1 := n_eq (by have := hT.1; omega) (by decide)
      have e8 := k8 (fun q => by rw [ea] at q; exact absurd q.2 (by decide)) (fun q => by rw [eb] at q; exact absurd q.2 (by decide)) (fun q => by rw [ec] at q; exact absurd q.2 (by decide))
      have hs : kS T ≤ 1000 := by have := hT.2.1; have := hT.2.2.1; have := h.2.2.2.1; omega
      refine ⟨τ, ?_, k2, k3, k4, fun q => absurd h1 q.2, fun _ => e8⟩
      rw [uX11_readLayer_132]
      simp only [chk_e, h.1.k, if_true, s_isFine h.1, bnI_s, zb_0, hf, not_true_eq_false, if_false, hR.1, q1, h1, k1, bnV_s]
      exact stop τ z1 z3 z4 (h.1.fr k2) (by rw [e8]; exact nI_err hs)
    · exact quit 0 a b c T l σ z1 z3 z4 h hR hT hf hD h1
  | succ f ih =>
    intro a b c T l σ z1 z3 z4 hu h hR hT hf hF hD
    by_cases h1 : kK T = 1
    · obtain ⟨τ, k1, k2, k3, k4, k5, k6, k7, k8⟩ := s_option h hR hT hf h1 hk hF hD d
      have q1 : (nI (kK T) = 1) ↔ kK T = 1 := n_eq (by have := hT.1; omega) (by decide)
      have h' : RT τ m n t := h.fr k2 (by omega) (k3 _ (by omega))
      have hT1 := nx_G (t := t) hT.2.2.1
      have sm : ∀ T' : zTk, TkG n t T' → kS T' ≤ 1000 := fun T' hT' => by have := hT'.2.1; have := hT'.2.2.1; have := h.2.2.2.1; omega
      rw [uX11_readLayer_132]
      simp only [chk_e, h.1.k, if_true, s_isFine h.1, bnI_s, zb_0, hf, not_true_eq_false, if_false, hR.1, q1, h1, k1, bnV_s]
      have bad : ∀ T' l', TkG n t T' → zi τ 608 m = nI (kS T') → pO n t (f + 1) a b c T l = (false, T', l') → ∃ υ, LX11_readLayer_132 (zEv (d + 6)) m z1 (nI (32 * k)) z3 z4 τ = LX11_readLayer_155 (zEv (d + 6)) m z1 (.inl (nI (32 * k))) z3 z4 υ ∧ zFr (fun x => x = m ∨ x = m + 19) σ υ ∧ (∀ f, f < 603 ∨ f = 610 → zi υ f m = zi σ f m) ∧ (∀ p, p < 32 * k → zai υ (m + 19) p = zai σ (m + 19) p) ∧
        ((pO n t (f + 1) a b c T l).1 = true ∧ kK (pO n t (f + 1) a b c T l).2.1 ≠ 1 → zi υ 608 m = -1009 ∧ RW υ m t (pO n t (f + 1) a b c T l).2.1 ∧ RD υ m k (pO n t (f + 1) a b c T l).2.2) ∧
        (¬ ((pO n t (f + 1) a b c T l).1 = true ∧ kK (pO n t (f + 1) a b c T l).2.1 ≠ 1) → zi υ 608 m = nI (kS (pO n t (f + 1) a b c T l).2.1)) := fun T' l' hT' e8 e => by
        rw [e]
        exact ⟨τ, stop τ z1 z3 z4 h'.1 (by rw [e8]; exact nI_err (sm T' hT')), k2, k3, k4, fun q => absurd (show false = true from q.1) (by decide), fun _ => e8⟩
      have good : ∀ a' b' c' T' l', uns a' b' c' = f → TkG n t T' → zi τ 608 m = -1009 ∧ RW τ m t T' ∧ RD τ m k l' ∧ FL τ m a' b' c' → pO n t (f + 1) a b c T l = pO n t f a' b' c' T' l' → ∃ υ, LX11_readLayer_132 (zEv (d + 6)) m z1 (nI (32 * k)) z3 z4 τ = LX11_readLayer_155 (zEv (d + 6)) m z1 (.inl (nI (32 * k))) z3 z4 υ ∧ zFr (fun x => x = m ∨ x = m + 19) σ υ ∧ (∀ f, f < 603 ∨ f = 610 → zi υ f m = zi σ f m) ∧ (∀ p, p < 32 * k → zai υ (m + 19) p = zai σ (m + 19) p) ∧
        ((pO n t (f + 1) a b c T l).1 = true ∧ kK (pO n t (f + 1) a b c T l).2.1 ≠ 1 → zi υ 608 m = -1009 ∧ RW υ m t (pO n t (f + 1) a b c T l).2.1 ∧ RD υ m k (pO n t (f + 1) a b c T l).2.2) ∧
        (¬ ((pO n t (f + 1) a b c T l).1 = true ∧ kK (pO n t (f + 1) a b c T l).2.1 ≠ 1) → zi υ 608 m = nI (kS (pO n t (f + 1) a b c T l).2.1)) := fun a' b' c' T' l' hu' hT' hh e => by
        obtain ⟨i1, i2, i3, i4⟩ := hh
        rw [e]
        obtain ⟨υ, l1, l2, l3, l4, l5, l6⟩ := ih a' b' c' T' l' τ z1 z3 z4 hu' h' i2 hT' i1 i4 i3
        exact ⟨υ, l1, k2.tr l2, fun f hf' => (l3 f hf').trans (k3 f hf'), fun p hp => (l4 p hp).trans (k4 p hp), l5, l6⟩
      by_cases c0 : kwO t T = 0 ∧ a = false
      · obtain ⟨g1, g2⟩ := k5 c0
        have ea := c0.2
        subst ea
        by_cases hN : (pN n t 0 100 (nx n t (kE T))).1 = true
        · exact good true b c _ (upR l 4 (pN n t 0 100 (nx n t (kE T))).2.2) (by have := (uns_s b c).1; omega) (pN_G hT1 0 100).1 (g1 hN) (by
            show (if _ then (if _ then (if _ then _ else _) else _) else _) = _
            rw [if_pos h1, if_pos c0, if_pos hN])
        · exact bad _ l (pN_G hT1 0 100).1 (g2 hN) (by
            show (if _ then (if _ then (if _ then _ else _) else _) else _) = _
            rw [if_pos h1, if_pos c0, if_neg hN])
      · by_cases c1 : kwO t T = 1 ∧ b = false
        · obtain ⟨g1, g2⟩ := k6 c1
          have eb := c1.2
          subst eb
          by_cases hN : kwM t (nx n t (kE T)) < 8
          · exact good a true c _ (upR l 3 (kwM t (nx n t (kE T)))) (by have := (uns_s a c).2.1; omega) (nx_G hT1.2.2.1) (g1 hN) (by
              show (if _ then (if _ then _ else (if _ then (if _ then _ else _) else _)) else _) = _
              rw [if_pos h1, if_neg c0, if_pos c1, if_pos hN])
          · exact bad _ l hT1 (g2 hN) (by
              show (if _ then (if _ then _ else (if _ then (if _ then _ else _) else _)) else _) = _
              rw [if_pos h1, if_neg c0, if_pos c1, if_neg hN])
        · by_cases c2 : kwO t T = 2 ∧ c = false
          · have ec := c2.2
            subst ec
            exact good a b true _ (upR l 5 0) (by have := (uns_s a b).2.2; omega) hT1 (k7 c2) (by
              show (if _ then (if _ then _ else (if _ then _ else (if _ then _ else _))) else _) = _
              rw [if_pos h1, if_neg c0, if_neg c1, if_pos c2])
          · exact bad T l hT (k8 c0 c1 c2) (by
              show (if _ then (if _ then _ else (if _ then _ else (if _ then _ else _))) else _) = _
              rw [if_pos h1, if_neg c0, if_neg c1, if_neg c2])
    · exact quit (f + 1) a b c T l σ z1 z3 z4 h hR hT hf hD h1
theorem s_hasA {k : Nat} (hk : k < 14) (d : Nat) (σ : zS) : zEv (d + 1) mX11_hasA [.inl (nI k)] σ = some (some (.inl (zb (hasA k))), σ) := by
  have q4 : (nI k = 4) ↔ k = 4 := n_eq (by omega) (by decide)
  have q13 : (nI k = 13) ↔ k = 13 := n_eq (by omega) (by decide)
  have b1 : zB 1 = True := eq_true (Or.inr rfl)
  have b0 : zB 0 = True := eq_true (Or.inl rfl)
  rw [vX11_hasA]
  unfold fX11_hasA
  simp only [q4, q13, chk_e, b1, b0, if_true]
  by_cases h4 : k = 4
  · rw [if_pos h4, zb_f (fun q => q.1 h4)]
  · rw [if_neg h4]
    by_cases h13 : k = 13
    · rw [if_pos h13, zb_f (fun q => q.2 h13)]
    · rw [if_neg h13, zb_t ⟨h4, h13⟩]
theorem s_hasB {k : Nat} (hk : k < 14) (d : Nat) (σ : zS) : zEv (d + 1) mX11_hasB [.inl (nI k)] σ = some (some (.inl (zb (hasB k))), σ) := by
  have q0 : (nI k = 0) ↔ k = 0 := n_eq (by omega) (by decide)
  have q10 : (nI k = 10) ↔ k = 10 := n_eq (by omega) (by decide)
  have q11 : (nI k = 11) ↔ k = 11 := n_eq (by omega) (by decide)
  have b1 : zB 1 = True := eq_true (Or.inr rfl)
  have b0 : zB 0 = True := eq_true (Or.inl rfl)
  rw [vX11_hasB]
  unfold fX11_hasB
  simp only [q0, q10, q11, chk_e, b1, b0, if_true]
  by_cases h0 : k = 0
  · rw [if_pos h0, zb_t (Or.inl h0)]
  · rw [if_neg h0]
    by_cases h10 : k = 10
    · rw [if_pos h10, zb_t (Or.inr (Or.inl h10))]
    · rw [if_neg h10]
      by_cases h11 : k = 11
      · rw [if_pos h11, zb_t (Or.inr (Or.inr h11))]
      · rw [if_neg h11, zb_f (by omega)]
/-- the row is laid, its options are read: from a good state -/
theorem s_ml102 {σ : zS} {m n k : Nat} {t : Nat → Nat} {T : zTk} {K : Nat} {a b : Int} (h : RT σ m n t) (hR : RW σ m t T) (hT : TkG n t T) (hf : zi σ 608 m = -1009) (hk : k < 8) (h10 : zi σ 610 m = nI k) (hg : GL (lNew K a b)) (d : Nat) :
    ∃ τ, LX11_readLayer_102 (zEv (d + 6)) m (nI K) (nI (32 * k)) (iI a) (iI b) σ = some (none, τ) ∧ zFr (fun x => x = m ∨ x = m + 19) σ τ ∧ (∀ f, f < 603 → zi τ f m = zi σ f m) ∧ (∀ p, p < 32 * k → zai τ (m + 19) p = zai σ (m + 19) p) ∧
      ((pO n t 3 false false false T (lNew K a b)).1 = true ∧ kK (pO n t 3 false false false T (lNew K a b)).2.1 = 4 → zi τ 608 m = -1009 ∧ RW τ m t (nx n t (kE (pO n t 3 false false false T (lNew K a b)).2.1)) ∧ RD τ m k (pO n t 3 false false false T (lNew K a b)).2.2 ∧ zi τ 610 m = nI (k + 1)) ∧
      (¬ ((pO n t 3 false false false T (lNew K a b)).1 = true ∧ kK (pO n t 3 false false false T (lNew K a b)).2.1 = 4) → zi τ 608 m = nI (kS (pO n t 3 false false false T (lNew K a b)).2.1)) := by
  have b0 : zB 0 = True := eq_true (Or.inl rfl)
  obtain ⟨τ, k1, k2, k3, k4, k5⟩ := s_layLayer (m := m) (t := m + 19) (r := 32 * k) h.1.dr.2.1 h.1.dr.2.2 (by decide) (by omega) (K : Int) a b (d + 5)
  have k1' : zEv (d + 6) mX11_layLayer [.inr (.inl (some m)), .inr (.inl (some (m + 19))), .inl (nI (32 * k)), .inl (nI K), .inl (iI a), .inl (iI b)] σ = some (none, τ) := by rw [i_nI K]; exact k1
  have g1 : zFr (fun x => x = m) τ (zsi (zsi (zsi τ 611 m 0) 612 m 0) 613 m 0) := ((zFr.si (P := fun x => x = m) τ rfl).tr (zFr.si _ rfl)).tr (zFr.si _ rfl)
  have g : zFr (fun x => x = m ∨ x = m + 19) σ (zsi (zsi (zsi τ 611 m 0) 612 m 0) 613 m 0) := (k2.mono (fun x hx => Or.inr hx)).tr (g1.mono (fun x hx => Or.inl hx))
  have gi : ∀ f, f < 611 → zi (zsi (zsi (zsi τ 611 m 0) 612 m 0) 613 m 0) f m = zi σ f m := fun f hf' => by rw [zi_si, if_neg (by omega), zi_si, if_neg (by omega), zi_si, if_neg (by omega)]; exact k3 f m
  have ga : ∀ p, p < 32 * k → zai (zsi (zsi (zsi τ 611 m 0) 612 m 0) 613 m 0) (m + 19) p = zai σ (m + 19) p := fun p hp => by rw [zai_si, zai_si, zai_si]; exact k4 p (by omega)
  have gl : zl (zsi (zsi (zsi τ 611 m 0) 612 m 0) 613 m 0) 606 m = zl σ 606 m := by rw [zl_si, zl_si, zl_si]; exact k2.l (by omega) _
  have hD : RD (zsi (zsi (zsi τ 611 m 0) 612 m 0) 613 m 0) m k (lNew K a b) := fun j hj => by rw [zai_si, zai_si, zai_si]; exact k5 j hj
  have hFL : FL (zsi (zsi (zsi τ 611 m 0) 612 m 0) 613 m 0) m false false false := ⟨by rw [zi_si, if_neg (by omega), zi_si, if_neg (by omega), zi_si, if_pos ⟨rfl, rfl⟩]; rfl, by rw [zi_si, if_neg (by omega), zi_si, if_pos ⟨rfl, rfl⟩]; rfl, by rw [zi_si, if_pos ⟨rfl, rfl⟩]; rfl⟩
  have hM' := h.1.fr k2
  rw [uX11_readLayer_102]
  simp only [zlt_e, chk_e, h.1.k, if_true, h.1.dr.1, k1', bnV_s, zkd_si, hM'.k, b0, and_self]
  generalize zsi (zsi (zsi τ 611 m 0) 612 m 0) 613 m 0 = σ1 at *
  have h1 : RT σ1 m n t := h.fr g (by omega) (gi _ (by omega))
  have hR1 : RW σ1 m t T := hR.to (fun f _ h2 => gi f (by omega)) gl
  obtain ⟨υ, l1, l2, l3, l4, l5, l6⟩ := s_mopts hk d 3 false false false T (lNew K a b) σ1 (.inl (nI K)) (.inl (iI a)) (.inl (iI b)) rfl h1 hR1 hT ((gi _ (by omega)).trans hf) hFL hD
  rw [l1, uX11_readLayer_155]
  have hO := pO_G 3 false false false T (lNew K a b) hT hg
  generalize pO n t 3 false false false T (lNew K a b) = O at *
  have h2 : RT υ m n t := h1.fr l2 (by omega) (l3 _ (by omega))
  have gg := g.tr l2
  have ggi : ∀ f, f < 603 ∨ f = 610 → zi υ f m = zi σ f m := fun f hf' => (l3 f hf').trans (gi f (by omega))
  have gga : ∀ p, p < 32 * k → zai υ (m + 19) p = zai σ (m + 19) p := fun p hp => (l4 p hp).trans (ga p hp)
  have v10 : zi υ 610 m = nI k := (ggi 610 (by omega)).trans h10
  have hs : kS O.2.1 ≤ 1000 := by have := hO.1.2.1; have := hO.1.2.2.1; have := h.2.2.2.1; omega
  have tail : ∀ ω, zFr (fun x => x = m) υ ω → MS ω m → (∀ f, ¬ inTk f → f ≠ 608 → zi ω f m = zi υ f m) → ∃ ψ, (some (none, zsi ω 610 m (zi ω 610 m + 1)) : zO) = some (none, ψ) ∧ zFr (fun x => x = m ∨ x = m + 19) σ ψ ∧ (∀ f, f < 603 → zi ψ f m = zi σ f m) ∧ (∀ p, p < 32 * k → zai ψ (m + 19) p = zai σ (m + 19) p) ∧ (∀ f, f ≠ 610 → zi ψ f m = zi ω f m) ∧ zl ψ 606 m = zl ω 606 m ∧ (∀ p, zai ψ (m + 19) p = zai υ (m + 19) p) ∧ zi ψ 610 m = nI (k + 1) := fun ω gω hMω iω => by
    refine ⟨_, rfl, (gg.tr (gω.mono (fun x hx => Or.inl hx))).tr (zFr.si _ (Or.inl rfl)), fun f hf' => by rw [zi_si, if_neg (by omega)]; exact (iω f (by unfold inTk; omega) (by omega)).trans (ggi f (by omega)), fun p hp => by rw [zai_si]; exact (gω.ai (by omega) p).trans (gga p hp), fun f hf' => by rw [zi_si, if_neg (by omega)], by rw [zl_si], fun p => by rw [zai_si]; exact gω.ai (by omega) p, ?_⟩
    rw [zi_si, if_pos ⟨rfl, rfl⟩, (iω 610 (by unfold inTk; omega) (by omega)).trans v10]
    exact nI_add k 1
  by_cases fine : O.1 = true ∧ kK O.2.1 ≠ 1
  · obtain ⟨f8, hR2, hD2⟩ := l5 fine
    have q4 : (nI (kK O.2.1) = 4) ↔ kK O.2.1 = 4 := n_eq (by have := hO.1.1; omega) (by decide)
    simp only [chk_e, h2.1.k, if_true, hR2.1, q4]
    by_cases e4 : kK O.2.1 = 4
    · rw [if_pos e4]
      obtain ⟨ω, m1, m2, m3, m4⟩ := s_takeY h2 hR2 hO.1 f8 (d + 2)
      have m1' : zEv (d + 6) mX11_take [.inr (.inl (some m)), .inl 1] υ = some (none, ω) := m1
      have hMω := h2.1.fr m2
      simp only [m1', bnV_s, hMω.k, if_true, zlt_e]
      obtain ⟨ψ, n1, n2, n3, n4, n5, n6, n7, n8⟩ := tail ω m2 hMω (fun f a _ => m3 f a)
      refine ⟨ψ, n1, n2, n3, n4, fun _ => ⟨?_, m4.to (fun f _ h2 => n5 f (by omega)) n6, fun j hj => (n7 _).trans (hD2 j hj), n8⟩, fun q => absurd ⟨fine.1, e4⟩ q⟩
      exact ((n5 608 (by omega)).trans (m3 608 (by unfold inTk; omega))).trans f8
    · rw [if_neg e4]
      have m1' := s_takeN h2.1 hR2.2.1 hs f8 (d + 4)
      have gω : zFr (fun x => x = m) υ (zsi υ 608 m (nI (kS O.2.1))) := zFr.si _ rfl
      have hMω := h2.1.fr gω
      simp only [m1', bnV_s, hMω.k, if_true, zlt_e]
      obtain ⟨ψ, n1, n2, n3, n4, n5, n6, n7, n8⟩ := tail _ gω hMω (fun f _ b => by rw [zi_si, if_neg (by omega)])
      exact ⟨ψ, n1, n2, n3, n4, fun q => absurd q.2 e4, fun _ => (n5 608 (by omega)).trans (by rw [zi_si, if_pos ⟨rfl, rfl⟩])⟩
  · have f8 := l6 fine
    have nf : ¬ (zi υ 608 m = -1009) := by rw [f8]; exact nI_err hs
    have no : ¬ (O.1 = true ∧ kK O.2.1 = 4) := fun q => fine ⟨q.1, by have := q.2; omega⟩
    obtain ⟨ψ, n1, n2, n3, n4, n5, n6, n7, n8⟩ := tail υ (zFr.rf υ) h2.1 (fun _ _ _ => rfl)
    simp only [chk_e, h2.1.k, if_true, s_takeF h2.1 nf _ (d + 4), bnV_s, zlt_e, ite_self]
    exact ⟨ψ, n1, n2, n3, n4, fun q => absurd q no, fun _ => (n5 608 (by omega)).trans f8⟩
theorem s_ml102F {σ : zS} {m k s : Nat} (hM : MS σ m) (hk : k < 8) (h8 : zi σ 608 m = nI s) (hs : s ≤ 1000) (K a b : Int32) (d : Nat) :
    ∃ τ, LX11_readLayer_102 (zEv (d + 6)) m K (nI (32 * k)) a b σ = some (none, τ) ∧ zFr (fun x => x = m ∨ x = m + 19) σ τ ∧ (∀ f, f < 603 → zi τ f m = zi σ f m) ∧ (∀ p, p < 32 * k → zai τ (m + 19) p = zai σ (m + 19) p) ∧ zi τ 608 m = nI s := by
  have b0 : zB 0 = True := eq_true (Or.inl rfl)
  obtain ⟨τ, k1, k2, k3, k4, k5⟩ := s_layLayer (m := m) (t := m + 19) (r := 32 * k) hM.dr.2.1 hM.dr.2.2 (by decide) (by omega) K.toInt a.toInt b.toInt (d + 5)
  rw [← i_of K, ← i_of a, ← i_of b] at k1
  have hM' := hM.fr k2
  have g1 : zFr (fun x => x = m) τ (zsi (zsi (zsi τ 611 m 0) 612 m 0) 613 m 0) := ((zFr.si (P := fun x => x = m) τ rfl).tr (zFr.si _ rfl)).tr (zFr.si _ rfl)
  have gi : ∀ f, f < 611 → zi (zsi (zsi (zsi τ 611 m 0) 612 m 0) 613 m 0) f m = zi σ f m := fun f hf' => by rw [zi_si, if_neg (by omega), zi_si, if_neg (by omega), zi_si, if_neg (by omega)]; exact k3 f m
  have ga : ∀ p, p < 32 * k → zai (zsi (zsi (zsi τ 611 m 0) 612 m 0) 613 m 0) (m + 19) p = zai σ (m + 19) p := fun p hp => by rw [zai_si, zai_si, zai_si]; exact k4 p (by omega)
  have g : zFr (fun x => x = m ∨ x = m + 19) σ (zsi (zsi (zsi τ 611 m 0) 612 m 0) 613 m 0) := (k2.mono (fun x hx => Or.inr hx)).tr (g1.mono (fun x hx => Or.inl hx))
  rw [uX11_readLayer_102]
  simp only [zlt_e, chk_e, hM.k, if_true, hM.dr.1, k1, bnV_s, zkd_si, hM'.k, b0, and_self]
  generalize zsi (zsi (zsi τ 611 m 0) 612 m 0) 613 m 0 = σ1 at *
  have hM1 := hM.fr g
  have e8 : zi σ1 608 m = nI s := (gi _ (by omega)).trans h8
  have nf : ¬ (zi σ1 608 m = -1009) := by rw [e8]; exact nI_err hs
  rw [uX11_readLayer_132]
  simp only [chk_e, hM1.k, if_true, s_isFine hM1, bnI_s, zb_0, nf, not_false_eq_true]
  rw [uX11_readLayer_155]
  simp only [chk_e, hM1.k, if_true, s_takeF hM1 nf _ (d + 4), bnV_s, zlt_e, ite_self]
  exact ⟨_, rfl, g.tr (zFr.si _ (Or.inl rfl)), fun f hf' => by rw [zi_si, if_neg (by omega)]; exact gi f (by omega), fun p hp => by rw [zai_si]; exact ga p hp, by rw [zi_si, if_neg (by omega)]; exact e8⟩
theorem s_kindAny {σ : zS} {m : Nat} (hM : MS σ m) (d : Nat) : ∃ v, zEv (d + 1) mX11_kindOf [.inr (.inl (some m))] σ = some (some (.inl v), σ) := by
  rw [vX11_kindOf]
  unfold fX11_kindOf
  simp only [chk_e, hM.k, if_true]
  have st : ∀ (c : Prop) [Decidable c] (i : Int32) (X : zO), (∃ v : Int32, X = some (some (.inl v), σ)) → ∃ v : Int32, (if c then some (some (.inl i), σ) else X) = some (some (.inl v), σ) := fun c _ i X hX => by
    by_cases h : c
    · exact ⟨i, if_pos h⟩
    · obtain ⟨v, hv⟩ := hX
      exact ⟨v, (if_neg h).trans hv⟩
  exact st _ _ _ (st _ _ _ (st _ _ _ (st _ _ _ (st _ _ _ (st _ _ _ (st _ _ _ (st _ _ _ (st _ _ _ (st _ _ _ (st _ _ _ (st _ _ _ (st _ _ _ (st _ _ _ ⟨_, rfl⟩)))))))))))))
/-- a layer of the reference -/
theorem s_mlayer {σ : zS} {m n k : Nat} {t : Nat → Nat} {T : zTk} (h : RT σ m n t) (hR : RW σ m t T) (hT : TkG n t T) (hf : zi σ 608 m = -1009) (hk : k ≤ 8) (h10 : zi σ 610 m = nI k) (d : Nat) :
    ∃ τ, zEv (d + 7) mX11_readLayer [.inr (.inl (some m))] σ = some (none, τ) ∧ zFr (fun x => x = m ∨ x = m + 19) σ τ ∧ (∀ f, f < 603 → zi τ f m = zi σ f m) ∧ (∀ p, p < 32 * k → zai τ (m + 19) p = zai σ (m + 19) p) ∧
      ((pL n t T k).1 = true → zi τ 608 m = -1009 ∧ RW τ m t (pL n t T k).2.1 ∧ RD τ m k (pL n t T k).2.2 ∧ zi τ 610 m = nI (k + 1)) ∧
      (¬ (pL n t T k).1 = true → zi τ 608 m = nI (kS (pL n t T k).2.1)) := by
  have hs : ∀ T' : zTk, TkG n t T' → kS T' ≤ 1000 := fun T' hT' => by have := hT'.2.1; have := hT'.2.2.1; have := h.2.2.2.1; omega
  have q1 : (nI (kK T) = 1) ↔ kK T = 1 := n_eq (by have := hT.1; omega) (by decide)
  have q8 : (nI k < 8) ↔ k < 8 := n_lt (by omega) (by decide)
  have z1 : ((1 : Int32) = 0) = False := eq_false (by decide)
  -- not allowed
  have bad : ¬ (kwK t T < 14 ∧ k < 8) → ∀ v, ∃ τ, LX11_readLayer_35 (zEv (d + 6)) m v (some m) 0 σ = some (none, τ) ∧ zFr (fun x => x = m ∨ x = m + 19) σ τ ∧ (∀ f, f < 603 → zi τ f m = zi σ f m) ∧ (∀ p, p < 32 * k → zai τ (m + 19) p = zai σ (m + 19) p) ∧
      ((pL n t T k).1 = true → zi τ 608 m = -1009 ∧ RW τ m t (pL n t T k).2.1 ∧ RD τ m k (pL n t T k).2.2 ∧ zi τ 610 m = nI (k + 1)) ∧
      (¬ (pL n t T k).1 = true → zi τ 608 m = nI (kS (pL n t T k).2.1)) := fun no v => by
    have e : pL n t T k = (false, T, fun _ => 0) := if_neg no
    have e8 : zi (zsi σ 608 m (nI (kS T))) 608 m = nI (kS T) := by rw [zi_si, if_pos ⟨rfl, rfl⟩]
    have hM' : MS (zsi σ 608 m (nI (kS T))) m := h.1.fr (zFr.si (P := fun a => a = m) σ rfl)
    rw [uX11_readLayer_35]
    simp only [onR_s, chk_e, h.1.k, if_true, s_takeN h.1 hR.2.1 (hs T hT) hf (d + 4), bnV_s, zkd_si, s_isFine hM', bnI_s, zb_0, e8, nI_err (hs T hT), not_false_eq_true]
    rw [e]
    exact ⟨_, rfl, zFr.si _ (Or.inl rfl), fun f hf' => by rw [zi_si, if_neg (by omega)], fun p _ => by rw [zai_si], fun q => absurd (show false = true from q) (by decide), fun _ => e8⟩
  rw [vX11_readLayer]
  unfold fX11_readLayer
  simp only [chk_e, h.1.k, if_true, zlt_e]
  by_cases h1 : kK T = 1
  · have c1 : (nI (kK T) = 1) = True := eq_true (q1.mpr h1)
    simp only [s_kindOf h.1 hR hT h1 (d + 5), bnI_s, h.1.k, if_true, hR.1, c1, h10, q8]
    by_cases hK : kwK t T < 14
    · have nm : ¬ (nI (kwK t T) = -1009) := nI_err (by omega)
      simp only [if_pos hK, nm, if_false]
      by_cases h8 : k < 8
      · rw [if_pos h8, uX11_readLayer_35]
        obtain ⟨τ, k1, k2, k3, k4⟩ := s_takeY h hR hT hf (d + 2)
        have k1' : zEv (d + 6) mX11_take [.inr (.inl (some m)), .inl 1] σ = some (none, τ) := k1
        have h' : RT τ m n t := h.fr k2 (by omega) (k3 _ (by unfold inTk; omega))
        have f8 : zi τ 608 m = -1009 := (k3 608 (by unfold inTk; omega)).trans hf
        have v10 : zi τ 610 m = nI k := (k3 610 (by unfold inTk; omega)).trans h10
        have hT1 := nx_G (t := t) hT.2.2.1
        have e32 : (32 : Int32) * nI k = nI (32 * k) := by
          show iI 32 * nI k = _
          rw [i_nI, i_nI, i_mul]
          congr 1
        have lr := lo_R (k := kwK t T) (by omega)
        have hAG := pM_G hT1 (hasA (kwK t T)) (loA (kwK t T)) (hiA (kwK t T))
        have hBG := pM_G hAG.1 (hasB (kwK t T)) (loB (kwK t T) (pRA n t T).2.2) (hiB (kwK t T))
        have hAR := pRA_R hT hK
        have lb := loB_R (k := kwK t T) (a := (pRA n t T).2.2) hAR
        have gm : zFr (fun x => x = m ∨ x = m + 19) σ τ := k2.mono (fun x hx => Or.inl hx)
        simp only [onR_s, chk_e, h.1.k, if_true, k1', bnV_s, h'.1.k, s_isFine h'.1, bnI_s, zb_0, f8, not_true_eq_false, if_false, zlt_e, v10, e32, s_hasA hK (d + 5)]
        -- from a failure on
        have fail : ∀ (υ : zS) (T' : zTk) (v w : Int32), MS υ m → TkG n t T' → zi υ 608 m = nI (kS T') → zFr (fun x => x = m) σ υ → (∀ f, f < 603 → zi υ f m = zi σ f m) → pL n t T k = (false, T', fun _ => 0) → ∃ τ, LX11_readLayer_102 (zEv (d + 6)) m (nI (kwK t T)) (nI (32 * k)) v w υ = some (none, τ) ∧ zFr (fun x => x = m ∨ x = m + 19) σ τ ∧ (∀ f, f < 603 → zi τ f m = zi σ f m) ∧ (∀ p, p < 32 * k → zai τ (m + 19) p = zai σ (m + 19) p) ∧
      ((pL n t T k).1 = true → zi τ 608 m = -1009 ∧ RW τ m t (pL n t T k).2.1 ∧ RD τ m k (pL n t T k).2.2 ∧ zi τ 610 m = nI (k + 1)) ∧
      (¬ (pL n t T k).1 = true → zi τ 608 m = nI (kS (pL n t T k).2.1)) := fun υ T' v w hM hT' e8 g gi e => by
          obtain ⟨ω, l1, l2, l3, l4, l5⟩ := s_ml102F hM h8 e8 (hs T' hT') (nI (kwK t T)) v w d
          rw [e]
          exact ⟨ω, l1, (g.mono (fun x hx => Or.inl hx)).tr l2, fun f hf' => (l3 f hf').trans (gi f hf'), fun p hp => (l4 p hp).trans (g.ai (by omega) p), fun q => absurd (show false = true from q) (by decide), fun _ => l5⟩
        -- behind the first number
        have go : ∀ υ : zS, (pRA n t T).1 = true → RT υ m n t → RW υ m t (pRA n t T).2.1 → zi υ 608 m = -1009 → zFr (fun x => x = m) σ υ → (∀ f, f < 603 ∨ f = 610 → zi υ f m = zi σ f m) → ∃ τ, LX11_readLayer_77 (zEv (d + 6)) m (nI (kwK t T)) (nI (32 * k)) (iI (pRA n t T).2.2) υ = some (none, τ) ∧ zFr (fun x => x = m ∨ x = m + 19) σ τ ∧ (∀ f, f < 603 → zi τ f m = zi σ f m) ∧ (∀ p, p < 32 * k → zai τ (m + 19) p = zai σ (m + 19) p) ∧
      ((pL n t T k).1 = true → zi τ 608 m = -1009 ∧ RW τ m t (pL n t T k).2.1 ∧ RD τ m k (pL n t T k).2.2 ∧ zi τ 610 m = nI (k + 1)) ∧
      (¬ (pL n t T k).1 = true → zi τ 608 m = nI (kS (pL n t T k).2.1)) := by
          intro υ ha hυ hRυ e8 g gi
          have done : ∀ ω : zS, (pRB n t T).1 = true → RT ω m n t → RW ω m t (pRB n t T).2.1 → zi ω 608 m = -1009 → zFr (fun x => x = m) σ ω → (∀ f, f < 603 ∨ f = 610 → zi ω f m = zi σ f m) → ∃ τ, LX11_readLayer_102 (zEv (d + 6)) m (nI (kwK t T)) (nI (32 * k)) (iI (pRA n t T).2.2) (iI (pRB n t T).2.2) ω = some (none, τ) ∧ zFr (fun x => x = m ∨ x = m + 19) σ τ ∧ (∀ f, f < 603 → zi τ f m = zi σ f m) ∧ (∀ p, p < 32 * k → zai τ (m + 19) p = zai σ (m + 19) p) ∧
      ((pL n t T k).1 = true → zi τ 608 m = -1009 ∧ RW τ m t (pL n t T k).2.1 ∧ RD τ m k (pL n t T k).2.2 ∧ zi τ 610 m = nI (k + 1)) ∧
      (¬ (pL n t T k).1 = true → zi τ 608 m = nI (kS (pL n t T k).2.1)) := by
            intro ω hb hω hRω w8 gω giω
            obtain ⟨ψ, l1, l2, l3, l4, l5, l6⟩ := s_ml102 (K := kwK t T) (a := (pRA n t T).2.2) (b := (pRB n t T).2.2) hω hRω hBG.1 w8 h8 ((giω 610 (by omega)).trans h10) (GL.new (by omega) (pL_ok hT hK ha hb)) d
            have eO : pO n t 3 false false false (pRB n t T).2.1 (lNew (kwK t T) (pRA n t T).2.2 (pRB n t T).2.2) = pRO n t T := rfl
            rw [eO] at l5 l6
            refine ⟨ψ, l1, (gω.mono (fun x hx => Or.inl hx)).tr l2, fun f hf' => (l3 f hf').trans (giω f (by omega)), fun p hp => (l4 p hp).trans (gω.ai (by omega) p), ?_⟩
            by_cases hc : (pRO n t T).1 = true ∧ kK (pRO n t T).2.1 = 4
            · have e : pL n t T k = (true, nx n t (kE (pRO n t T).2.1), (pRO n t T).2.2) := (pL_1 hK h8 ha hb).trans (if_pos hc)
              rw [e]
              exact ⟨fun _ => l5 hc, fun q => absurd rfl q⟩
            · have e : pL n t T k = (false, (pRO n t T).2.1, fun _ => 0) := (pL_1 hK h8 ha hb).trans (if_neg hc)
              rw [e]
              exact ⟨fun q => absurd (show false = true from q) (by decide), fun _ => l6 hc⟩
          rw [uX11_readLayer_77]
          simp only [zlt_e, s_hasB hK (d + 5), bnI_s, zb_0]
          by_cases hb : hasB (kwK t T)
          · rw [if_neg (fun q => q hb)]
            obtain ⟨ω, v, l1, l2, l3, l4, l5⟩ := s_mnum (lo := loB (kwK t T) (pRA n t T).2.2) (hi := hiB (kwK t T)) hυ hRυ hAG.1 (by omega) (by omega) e8 (d + 1)
            have l1' : zEv (d + 6) mX11_readNumber [.inr (.inl (some m)), .inl (iI (loB (kwK t T) (pRA n t T).2.2)), .inl (iI (hiB (kwK t T)))] υ = some (some (.inl v), ω) := l1
            have eB : pRB n t T = pN n t (loB (kwK t T) (pRA n t T).2.2) (hiB (kwK t T)) (pRA n t T).2.1 := if_pos hb
            rw [← eB] at l4 l5
            have cB : zEv (d + 6) mX11_leastB [.inl (nI (kwK t T)), .inl (iI (pRA n t T).2.2)] υ = some (some (.inl (iI (loB (kwK t T) (pRA n t T).2.2))), υ) := by rw [i_nI]; exact s_leastB (by omega) _ (d + 5) υ
            have cH : zEv (d + 6) mX11_mostB [.inl (nI (kwK t T))] υ = some (some (.inl (iI (hiB (kwK t T)))), υ) := by rw [i_nI]; exact s_mostB (by omega) (d + 5) υ
            simp only [cB, cH, bnI_s, chk_e, hυ.1.k, if_true, l1']
            have gω := g.tr l2
            have giω : ∀ f, f < 603 ∨ f = 610 → zi ω f m = zi σ f m := fun f hf' => (l3 f (by unfold inTk; omega) (by omega)).trans (gi f hf')
            by_cases hB : (pRB n t T).1 = true
            · obtain ⟨x1, x2, x3⟩ := l4 hB
              rw [x1]
              exact done ω hB (hυ.fr l2 (by omega) (l3 _ (by unfold inTk; omega) (by omega))) x3 x2 gω giω
            · exact fail ω (pRB n t T).2.1 _ _ (hυ.1.fr l2) hBG.1 (l5 hB) gω (fun f hf' => giω f (by omega)) (pL_2 hK h8 ha hB)
          · rw [if_pos hb]
            have eB : pRB n t T = (true, (pRA n t T).2.1, 0) := if_neg hb
            have := done υ (by rw [eB]) hυ (by rw [eB]; exact hRυ) e8 g gi
            rw [eB] at this
            exact this
        have gi0 : ∀ f, f < 603 ∨ f = 610 → zi τ f m = zi σ f m := fun f hf' => k3 f (by unfold inTk; omega)
        by_cases hA : hasA (kwK t T)
        · rw [if_neg (fun q => q hA)]
          obtain ⟨ω, v, l1, l2, l3, l4, l5⟩ := s_mnum (lo := loA (kwK t T)) (hi := hiA (kwK t T)) h' k4 hT1 (by omega) (by omega) f8 (d + 1)
          have l1' : zEv (d + 6) mX11_readNumber [.inr (.inl (some m)), .inl (iI (loA (kwK t T))), .inl (iI (hiA (kwK t T)))] τ = some (some (.inl v), ω) := l1
          have eA : pRA n t T = pN n t (loA (kwK t T)) (hiA (kwK t T)) (nx n t (kE T)) := if_pos hA
          rw [← eA] at l4 l5
          have cA : zEv (d + 6) mX11_leastA [.inl (nI (kwK t T))] τ = some (some (.inl (iI (loA (kwK t T)))), τ) := by rw [i_nI]; exact s_leastA (by omega) (d + 4) τ
          have cH : zEv (d + 6) mX11_mostA [.inl (nI (kwK t T))] τ = some (some (.inl (iI (hiA (kwK t T)))), τ) := by rw [i_nI]; exact s_mostA (by omega) (d + 5) τ
          simp only [cA, cH, bnI_s, h'.1.k, if_true, l1']
          have gω := k2.tr l2
          have giω : ∀ f, f < 603 ∨ f = 610 → zi ω f m = zi σ f m := fun f hf' => (l3 f (by unfold inTk; omega) (by omega)).trans (gi0 f hf')
          by_cases ha : (pRA n t T).1 = true
          · obtain ⟨x1, x2, x3⟩ := l4 ha
            rw [x1]
            exact go ω ha (h'.fr l2 (by omega) (l3 _ (by unfold inTk; omega) (by omega))) x3 x2 gω giω
          · -- the first number is wrong: what follows changes nothing
            have hMω := h'.1.fr l2
            have e8 := l5 ha
            have nf : ¬ (zi ω 608 m = -1009) := by rw [e8]; exact nI_err (hs _ hAG.1)
            rw [uX11_readLayer_77]
            simp only [zlt_e, s_hasB hK (d + 5), bnI_s, zb_0]
            by_cases hb : hasB (kwK t T)
            · rw [if_neg (fun q => q hb)]
              have cB : zEv (d + 6) mX11_leastB [.inl (nI (kwK t T)), .inl v] ω = some (some (.inl (iI (loB (kwK t T) v.toInt))), ω) := by
                have := s_leastB (k := kwK t T) (by omega) v.toInt (d + 5) ω
                rw [← i_of v] at this
                rw [i_nI]
                exact this
              have cH : zEv (d + 6) mX11_mostB [.inl (nI (kwK t T))] ω = some (some (.inl (iI (hiB (kwK t T)))), ω) := by rw [i_nI]; exact s_mostB (by omega) (d + 5) ω
              obtain ⟨w, hw⟩ := s_mnumF hMω nf (iI (loB (kwK t T) v.toInt)) (iI (hiB (kwK t T))) (d + 1)
              simp only [cB, cH, bnI_s, chk_e, hMω.k, if_true, hw]
              exact fail ω (pRA n t T).2.1 _ _ hMω hAG.1 e8 gω (fun f hf' => giω f (by omega)) (pL_3 hK h8 ha)
            · rw [if_pos hb]
              exact fail ω (pRA n t T).2.1 _ _ hMω hAG.1 e8 gω (fun f hf' => giω f (by omega)) (pL_3 hK h8 ha)
        · rw [if_pos hA]
          have eA : pRA n t T = (true, nx n t (kE T), 0) := if_neg hA
          have := go τ (by rw [eA]) h' (by rw [eA]; exact k4) f8 k2 gi0
          rw [eA] at this
          exact this
      · rw [if_neg h8]
        exact bad (fun q => h8 q.2) _
    · simp only [if_neg hK, if_true]
      exact bad (fun q => hK q.1) _
  · obtain ⟨v, hv⟩ := s_kindAny h.1 (d + 5)
    have c1 : (nI (kK T) = 1) = False := eq_false (fun q => h1 (q1.mp q))
    simp only [hv, bnI_s, h.1.k, if_true, hR.1, c1, if_false]
    have no : ¬ (kwK t T < 14 ∧ k < 8) := fun q => by
      have : ∀ f i, (∀ k, ¬ eqW t T (nmW k)) → fnd (fun k => decide (eqW t T (nmW k))) f i = i + f := by
        intro f
        induction f with
        | zero => intro i _; rfl
        | succ f ih => intro i hh; rw [fnd_n (fun q => hh i (of_decide_eq_true q)), ih _ hh]; omega
      have := this 14 0 (fun k q => h1 q.1)
      have q1 := q.1
      unfold kwK at q1
      omega
    exact bad no v
