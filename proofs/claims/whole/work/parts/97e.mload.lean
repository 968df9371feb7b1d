/-! loadStack: the reference -/
theorem s_mloop {m n : Nat} {t : Nat → Nat} (d : Nat) : ∀ (f k : Nat) (T : zTk) (L : Nat → Nat → Int) (σ : zS), k + f = 9 → k ≤ 8 → RT σ m n t → RW σ m t T → TkG n t T → zi σ 608 m = -1009 → zi σ 610 m = nI k → (∀ i, i < k → RD σ m i (L i)) →
    ∃ τ, LX11_loadStack_26 (zEv (d + 8)) m σ = LX11_loadStack_47 (zEv (d + 8)) m τ ∧ zFr (fun x => x = m ∨ x = m + 19) σ τ ∧ (∀ f, f < 603 → zi τ f m = zi σ f m) ∧ ((pA n t f T k L).1 = true → zi τ 608 m = -1009 ∧ zi τ 610 m = nI (pA n t f T k L).2.2.1 ∧ ∀ i, i < (pA n t f T k L).2.2.1 → RD τ m i ((pA n t f T k L).2.2.2 i)) ∧ (¬ (pA n t f T k L).1 = true → zi τ 608 m = nI (kS (pA n t f T k L).2.1)) := by
  intro f
  induction f with
  | zero => intro k T L σ hk h8; omega
  | succ f ih =>
    intro k T L σ hk h8 h hR hT hf h10 hL
    have q0 : (nI (kK T) = 0) ↔ kK T = 0 := n_eq (by have := hT.1; omega) (by decide)
    rw [uX11_loadStack_26]
    simp only [chk_e, h.1.k, if_true, s_isFine h.1, bnI_s, zb_0, hf, not_true_eq_false, if_false, hR.1, q0]
    unfold pA
    by_cases h0 : kK T = 0
    · simp only [if_pos h0]
      exact ⟨σ, rfl, zFr.rf σ, fun _ _ => rfl, fun _ => ⟨hf, h10, hL⟩, fun q => absurd trivial q⟩
    · obtain ⟨τ, k1, k2, k3, k4, k5, k6⟩ := s_mlayer h hR hT hf h8 h10 (d + 1)
      have k1' : zEv (d + 8) mX11_readLayer [.inr (.inl (some m))] σ = some (none, τ) := k1
      simp only [if_neg h0, k1', bnV_s]
      have h' : RT τ m n t := h.fr k2 (by omega) (k3 _ (by omega))
      by_cases hp : (pL n t T k).1 = true
      · simp only [if_pos hp]
        obtain ⟨x1, x2, x3, x4⟩ := k5 hp
        have hm8 : k < 8 := by
          by_cases q : kwK t T < 14 ∧ k < 8
          · exact q.2
          · have e : pL n t T k = (false, T, fun _ => 0) := if_neg q
            rw [e] at hp
            exact absurd (show false = true from hp) (by decide)
        obtain ⟨υ, l1, l2, l3, l4, l5⟩ := ih (k + 1) (pL n t T k).2.1 (fun i => if i = k then (pL n t T k).2.2 else L i) τ (by omega) (by omega) h' x2 (pL_G hT k).1 x1 x4 (fun i hi => by
          by_cases e : i = k
          · simp only [if_pos e]; rw [e]; exact x3
          · simp only [if_neg e]; exact fun j hj => (k4 _ (by omega)).trans (hL i (by omega) j hj))
        exact ⟨υ, l1, k2.tr l2, fun f hf' => (l3 f hf').trans (k3 f hf'), l4, l5⟩
      · simp only [if_neg hp]
        have e8 := k6 hp
        have hs : kS (pL n t T k).2.1 ≤ 1000 := by have := (pL_G hT k).1.2.1; have := (pL_G hT k).1.2.2.1; have := h.2.2.2.1; omega
        have nf : ¬ (zi τ 608 m = -1009) := by rw [e8]; exact nI_err hs
        rw [uX11_loadStack_26]
        simp only [chk_e, h'.1.k, if_true, s_isFine h'.1, bnI_s, zb_0, nf, not_false_eq_true]
        exact ⟨τ, rfl, k2, k3, fun q => absurd (show false = true from q) (by decide), fun _ => e8⟩
theorem MIx.clrT {σ : zS} {m : Nat} {A : zW} (hI : MIx σ m A) : MIx (zsi σ 583 m 0) m (tClearT A) := by
  obtain ⟨hM, hV, hH, hU, hZ⟩ := hI
  have g : zFr (fun x => x = m) σ (zsi σ 583 m 0) := zFr.si _ rfl
  have hf : ∀ f, f ≠ 583 → zi (zsi σ 583 m 0) f m = zi σ f m := fun f hf => by rw [zi_si, if_neg (by omega)]
  refine ⟨hM.fr g, hV.fr g (by omega), hH.fr g (by omega) (hf _ (by decide)), hU.fr g (by omega), ?_⟩
  obtain ⟨a1, ⟨a2, a3⟩, ⟨a4, a5, a6⟩, a7, a8, a9⟩ := hZ
  exact ⟨fun s hs => ⟨fun e => (g.ai (by omega) s).trans ((a1 s hs).1 e), fun C e => ⟨(g.ai (by omega) s).trans ((a1 s hs).2 C e).1, ((a1 s hs).2 C e).2.fr g (by omega)⟩⟩, ⟨by rw [zi_si, if_pos ⟨rfl, rfl⟩]; rfl, fun i hi => absurd hi (Nat.not_lt_zero _)⟩, ⟨(hf _ (by decide)).trans a4, (hf _ (by decide)).trans a5, (hf _ (by decide)).trans a6⟩, (g.ai (by omega) _).trans a7, (g.ai (by omega) _).trans a8, (g.ai (by omega) _).trans a9⟩
theorem s_mcopyDraft {σ : zS} {m N : Nat} (hM : MS σ m) (h10 : zi σ 610 m = nI N) (hN : N ≤ 8) (d : Nat) : ∃ τ, LX11_loadStack_68 (zEv (d + 8)) m 0 σ = LX11_loadStack_68 (zEv (d + 8)) m (nI 256) τ ∧ zFr (fun x => x = m + 1) σ τ ∧ (∀ f x, zi τ f x = zi σ f x) ∧ (∀ p, p < 259 → zai τ (m + 1) p = zai σ (m + 1) p) ∧ ∀ p, p < 32 * N → zai τ (m + 1) (259 + p) = zai σ (m + 19) p := by
  obtain ⟨τ, h1, h2, h3, h4, h5⟩ := loop_from (fun k τ => LX11_loadStack_68 (zEv (d + 8)) m (nI k) τ) (fun k τ => zFr (fun x => x = m + 1) σ τ ∧ (∀ f x, zi τ f x = zi σ f x) ∧ (∀ p, p < 259 → zai τ (m + 1) p = zai σ (m + 1) p) ∧ ∀ p, p < 32 * N → p < k → zai τ (m + 1) (259 + p) = zai σ (m + 19) p) 0 256 (fun τ => LX11_loadStack_68 (zEv (d + 8)) m (nI 256) τ) σ (by decide) ⟨zFr.rf σ, fun _ _ => rfl, fun _ _ => rfl, fun p _ h => absurd h (Nat.not_lt_zero _)⟩
    (fun k τ hk hI => by
      obtain ⟨g, gi, ga, gb⟩ := hI
      have hM' := hM.fr g
      have q : nI k < 256 := (n_lt (a := k) (b := 256) (by omega) (by decide)).mpr hk
      have e32 : (32 : Int32) * nI N = nI (32 * N) := by
        show iI 32 * nI N = _
        rw [i_nI, i_nI, i_mul]
        congr 1
      have q2 : (nI k < nI (32 * N)) ↔ k < 32 * N := n_lt (by omega) (by omega)
      have e259 : (259 : Int32) + nI k = nI (259 + k) := nI_add 259 k
      have h10' : zi τ 610 m = nI N := (gi _ _).trans h10
      have st : ∀ v : Int32, (k < 32 * N → v = zai σ (m + 19) k) → zFr (fun x => x = m + 1) σ (zsa τ (m + 1) (259 + k) v) ∧ (∀ f x, zi (zsa τ (m + 1) (259 + k) v) f x = zi σ f x) ∧ (∀ p, p < 259 → zai (zsa τ (m + 1) (259 + k) v) (m + 1) p = zai σ (m + 1) p) ∧ ∀ p, p < 32 * N → p < k + 1 → zai (zsa τ (m + 1) (259 + k) v) (m + 1) (259 + p) = zai σ (m + 19) p := fun v hv =>
        ⟨g.tr (zFr.sa _ rfl), fun f x => by rw [zi_sa]; exact gi f x, fun p hp => by rw [zai_sa, if_neg (by omega)]; exact ga p hp, fun p hp1 hp2 => by
          rw [zai_sa]
          by_cases e : p = k
          · rw [if_pos ⟨rfl, by omega⟩, e]; exact hv (by omega)
          · rw [if_neg (by omega)]; exact gb p hp1 (by omega)⟩
      show ∃ τ', LX11_loadStack_68 _ _ _ _ = LX11_loadStack_68 _ _ _ _ ∧ _
      rw [uX11_loadStack_68, if_pos q]
      simp only [chk_e, hM'.k, if_true, h10', e32, q2, hM'.dr.1, hM'.dr.2.1, hM'.dr.2.2, hM'.s.1, hM'.s.2.1, hM'.s.2.2, onR_s, n_zin (show k < 2 ^ 31 by omega), hk, and_self, e259, n_zin (show 259 + k < 2 ^ 31 by omega), show 259 + k < 515 by omega, n_tn (show k < 2 ^ 31 by omega), n_tn (show 259 + k < 2 ^ 31 by omega), zlt_e, nI_1, nI_add]
      by_cases c : k < 32 * N
      · rw [if_pos c]
        exact ⟨_, rfl, st _ (fun _ => g.ai (by omega) k)⟩
      · rw [if_neg c]
        exact ⟨_, rfl, st _ (fun q => absurd q c)⟩)
    (fun τ _ => rfl)
  exact ⟨τ, h1, h2, h3, h4, fun p hp => h5 p hp (by omega)⟩
theorem m_loadStack {σ : zS} {m B : Nat} {A : zW} (hG : GA A B) (hB : B < 2 ^ 30) (hI : MIx σ m A) (d : Nat) : zOM m (zEv (d + 20) mX11_loadStack [.inr (.inl (some m))] σ) (rLoad A) (tLoad A) σ := by
  have gA : zFr (fun x => x = m) σ (zsi (zsi (zsi (zsi σ 576 m 0) 603 m 0) 608 m (-1009)) 610 m 0) := (((zFr.si (P := fun x => x = m) σ rfl).tr (zFr.si _ rfl)).tr (zFr.si _ rfl)).tr (zFr.si _ rfl)
  have gA' : zFr (fun x => x = m) (zsi σ 576 m 0) (zsi (zsi (zsi (zsi σ 576 m 0) 603 m 0) 608 m (-1009)) 610 m 0) := ((zFr.si (P := fun x => x = m) _ rfl).tr (zFr.si _ rfl)).tr (zFr.si _ rfl)
  have hI4 : MIx (zsi (zsi (zsi (zsi σ 576 m 0) 603 m 0) 608 m (-1009)) 610 m 0) m A := hI.th.fr gA' (fun a h1 h2 => by omega) (fun f hf => by rw [zi_si, if_neg (by omega), zi_si, if_neg (by omega), zi_si, if_neg (by omega)])
  have i603 : zi (zsi (zsi (zsi (zsi σ 576 m 0) 603 m 0) 608 m (-1009)) 610 m 0) 603 m = nI 0 := by rw [zi_si, if_neg (by omega), zi_si, if_neg (by omega), zi_si, if_pos ⟨rfl, rfl⟩]; rfl
  have i608 : zi (zsi (zsi (zsi (zsi σ 576 m 0) 603 m 0) 608 m (-1009)) 610 m 0) 608 m = -1009 := by rw [zi_si, if_neg (by omega), zi_si, if_pos ⟨rfl, rfl⟩]
  have i610 : zi (zsi (zsi (zsi (zsi σ 576 m 0) 603 m 0) 608 m (-1009)) 610 m 0) 610 m = nI 0 := by rw [zi_si, if_pos ⟨rfl, rfl⟩]; rfl
  rw [vX11_loadStack]
  unfold fX11_loadStack
  simp only [zlt_e, chk_e, hI.1.k, if_true, zkd_si]
  generalize zsi (zsi (zsi (zsi σ 576 m 0) 603 m 0) 608 m (-1009)) 610 m 0 = σ4 at *
  have hT : RT σ4 m (aTn A) (aTx A) := ⟨hI4.1, hI4.2.2.2.2.2.1.1, hI4.2.2.2.2.2.1.2, hG.2.2.2.1.1, hG.2.2.2.1.2⟩
  obtain ⟨τ, k1, k2, k3, k4⟩ := s_advance hT i603 (Nat.zero_le _) (d + 16)
  have k1' : zEv (d + 19) mX11_advance [.inr (.inl (some m))] σ4 = some (none, τ) := k1
  have hT1 : RT τ m (aTn A) (aTx A) := hT.fr k2 (by omega) (k3 _ (by unfold inTk; omega))
  obtain ⟨υ, l1, l2, l3, l4, l5⟩ := s_mloop (d + 11) 9 0 (nx (aTn A) (aTx A) 0) (fun _ _ => 0) τ rfl (Nat.zero_le _) hT1 k4 (nx_G (Nat.zero_le _)) ((k3 608 (by unfold inTk; omega)).trans i608) ((k3 610 (by unfold inTk; omega)).trans i610) (fun i hi => absurd hi (Nat.not_lt_zero _))
  have l1' : LX11_loadStack_26 (zEv (d + 19)) m τ = LX11_loadStack_47 (zEv (d + 19)) m υ := l1
  have l4' : (aPs A).1 = true → zi υ 608 m = -1009 ∧ zi υ 610 m = nI (aPs A).2.2.1 ∧ ∀ i, i < (aPs A).2.2.1 → RD υ m i ((aPs A).2.2.2 i) := l4
  have l5' : ¬ (aPs A).1 = true → zi υ 608 m = nI (kS (aPs A).2.1) := l5
  have g5 : zFr (fun x => x = m ∨ x = m + 19) σ4 υ := (k2.mono (fun x hx => Or.inl hx)).tr l2
  have hI5 : MIx υ m A := hI4.fr g5 (fun a h1 h2 => by omega) (fun f hf => (l3 f (by omega)).trans (k3 f (by unfold inTk; omega)))
  have gg : zFr (fun a => m ≤ a ∧ a < m + 22) σ υ := (gA.mono (fun x hx => by omega)).tr (g5.mono (fun x hx => by omega))
  simp only [k1', bnV_s, l1']
  rw [uX11_loadStack_47]
  have hPG := pS_G A
  have hs : kS (aPs A).2.1 ≤ 1000 := by have := hG.2.2.2.1.1; omega
  unfold rLoad tLoad
  simp only [chk_e, hI5.1.k, if_true, s_isFine hI5.1, bnI_s, zb_0]
  by_cases hp : (aPs A).1 = true
  · obtain ⟨x1, x2, x3⟩ := l4' hp
    obtain ⟨g1, g2⟩ := hPG.2 hp
    simp only [if_pos hp, x1, not_true_eq_false, if_false, zlt_e]
    obtain ⟨ω, m1, m2, m3, m4⟩ := s_keep hI5.1 hI5.2.1 hG.1 hI5.2.2.1 hG.2.1.1 hG.2.1.2 (d + 18)
    have m1' : zEv (d + 19) mX11_keep [.inr (.inl (some m))] υ = some (none, ω) := m1
    have hI6 : MIx ω m (aPush A) := ⟨hI5.1.fr m2, hI5.2.1.fr m2 (by omega), m4, hI5.2.2.2.1.fr m2 (by omega), hI5.2.2.2.2.fr m2 (by omega) (by omega) (by omega) (by omega) (fun f _ hf => m3 f hf)⟩
    obtain ⟨ψ, n1, n2, n3, n4, n5⟩ := s_mcopyDraft hI6.1 ((m3 610 (by omega)).trans x2) g1 (d + 11)
    have n1' : LX11_loadStack_68 (zEv (d + 19)) m 0 ω = LX11_loadStack_68 (zEv (d + 19)) m (nI 256) ψ := n1
    have hMψ := hI6.1.fr n2
    simp only [m1', bnV_s, n1']
    rw [uX11_loadStack_68, if_neg (show ¬ (nI 256 : Int32) < 256 by decide)]
    have t258 : (258 : Int32).toNatClampNeg = 258 := rfl
    have z258 : zin 258 515 = True := eq_true (by decide)
    have v10 : zi ψ 610 m = nI (aPs A).2.2.1 := ((n3 _ _).trans (m3 610 (by omega))).trans x2
    have gs : zFr (fun x => x = m + 1) ω (zsa ψ (m + 1) 258 (nI (aPs A).2.2.1)) := n2.tr (zFr.sa _ rfl)
    have V := hI6.2.1
    have hw := hG.1.1
    have hh := hG.1.2.1
    have hV : MV (zsa ψ (m + 1) 258 (nI (aPs A).2.2.1)) (m + 1) 0 (loadC A) := by
      refine ⟨?_, ?_, fun x y hx hy => ?_, ?_, fun i hi j hj => ?_⟩
      · rw [zai_sa, if_neg (by omega), n4 _ (by omega)]; exact V.1
      · rw [zai_sa, if_neg (by omega), n4 _ (by omega)]; exact V.2.1
      · have h256 : y * cW (aC A) + x < 256 := lin256 hw.2 hh.2 hx hy
        show zai _ _ (0 + 2 + (y * cW (aC A) + x)) = _
        rw [zai_sa, if_neg (by omega), n4 _ (by omega)]; exact V.2.2.1 x y hx hy
      · rw [zai_sa, if_pos ⟨rfl, rfl⟩]; rfl
      · have hi : i < (aPs A).2.2.1 := hi
        rw [zai_sa, if_neg (by omega)]
        have e : 0 + 259 + 32 * i + j = 259 + (32 * i + j) := by omega
        rw [e, n5 _ (by omega), m2.ai (by omega)]
        exact x3 i hi j hj
    have hI7 : MIx (zsa ψ (m + 1) 258 (nI (aPs A).2.2.1)) m (aSet (aPush A) (loadC A)) := hI6.comp gs (fun a _ _ => by omega) (fun f _ => by rw [zi_sa]; exact n3 f m) hV
    obtain ⟨φ, o1, o2, o3⟩ := s_mall (A := aSet (aPush A) (loadC A)) (hG.u31 hB) hI7 (d + 17)
    have o1' : zEv (d + 19) mX11_removeAll [.inr (.inl (some m))] (zsa ψ (m + 1) 258 (nI (aPs A).2.2.1)) = some (some (.inl (nI (cnt (aU A) 512))), φ) := o1
    have w10 : zi (zsi φ 583 m 0) 610 m = nI (aPs A).2.2.1 := by
      rw [zi_si, if_neg (by omega), o3.i (by omega), zi_sa]
      exact v10
    simp only [chk_e, hMψ.k, if_true, hMψ.s.1, hMψ.s.2.1, hMψ.s.2.2, z258, t258, onR_s, v10, and_self, zlt_e, hI7.1.k, o1', bnI_s, o2.1.k, zkd_si, w10]
    exact ⟨_, rfl, o2.clrT, (((gg.tr (m2.mono (fun a ha => by omega))).tr (gs.mono (fun a ha => by omega))).tr (o3.mono (fun a ha => by omega))).tr (zFr.si _ (by omega))⟩
  · have e8 := l5' hp
    have nf := nI_err hs
    simp only [if_neg hp, nf, not_false_eq_true, if_true, e8]
    exact ⟨υ, rfl, hI5, gg⟩
