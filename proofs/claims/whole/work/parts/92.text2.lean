/-! text: the class reads a token -/
theorem s_nt155 {σ : zS} {x n s : Nat} {t : Nat → Nat} (h : TR σ x n t) (h1 : zi σ 387 x = nI s) (hs : s < n) (hc : ¬ (97 ≤ t s ∧ t s ≤ 122)) (hd : ¬ (48 ≤ t s ∧ t s ≤ 57)) (E : zE) : ∃ τ, LX8_nextToken_155 E x (nI (t s)) σ = some (none, τ) ∧ zFr (fun a => a = x) σ τ ∧ (∀ f, f ≠ 386 → f ≠ 388 → f ≠ 389 → zi τ f x = zi σ f x) ∧ RV τ x (tkAt n t s) := by
  have hn := h.2.2.1
  have ht := h.2.2.2 s hs
  have ek : tkAt n t s = ((if t s = 45 then 3 else if t s = 59 then 4 else 5), s, s + 1, 0) := by
    unfold tkAt
    rw [if_pos hs, if_neg hc, if_neg hd]
  have q45 : (nI (t s) = 45) ↔ t s = 45 := n_eq (by omega) (by decide)
  have q59 : (nI (t s) = 59) ↔ t s = 59 := n_eq (by omega) (by decide)
  have key : ∀ v : Nat, v = (if t s = 45 then 3 else if t s = 59 then 4 else 5) → v ≠ 2 → ∃ τ, (some (none, zsi (zsi σ 386 x (nI v)) 388 x (nI (s + 1))) : zO) = some (none, τ) ∧ zFr (fun a => a = x) σ τ ∧ (∀ f, f ≠ 386 → f ≠ 388 → f ≠ 389 → zi τ f x = zi σ f x) ∧ RV τ x (tkAt n t s) := by
    intro v hv h2
    refine ⟨_, rfl, (zFr.si (P := fun a => a = x) σ rfl).tr (zFr.si _ rfl), fun f a b _ => by rw [zi_si, if_neg (by omega), zi_si, if_neg (by omega)], ?_⟩
    rw [ek, ← hv]
    refine ⟨?_, ?_, ?_, fun q => absurd q h2⟩
    · rw [zi_si, if_neg (by omega), zi_si, if_pos ⟨rfl, rfl⟩]; rfl
    · rw [zi_si, if_neg (by omega), zi_si, if_neg (by omega)]; exact h1
    · rw [zi_si, if_pos ⟨rfl, rfl⟩]; rfl
  rw [uX8_nextToken_155]
  simp only [zlt_e, onR_s, nul_s, nul_n, chk_e, bnI_s, bnR_s, bnV_s, zi_si, zi_sr, zi_sl, zi_sa, zi_sq, zr_si, zr_sr, zr_sl, zr_sa, zr_sq, zl_si, zl_sr, zl_sl, zl_sa, zl_sq, zai_si, zai_sr, zai_sl, zai_sa, zai_sq, zar_si, zar_sr, zar_sl, zar_sa, zar_sq, zkd_si, zkd_sr, zkd_sl, zkd_sa, zkd_sq, zln_si, zln_sr, zln_sl, zln_sa, zln_sq, znx_si, znx_sr, znx_sl, znx_sa, znx_sq, h.1.1, if_true, q45, q59, Nat.reduceEqDiff, false_and, if_false, h1, nI_1, nI_add]
  by_cases a45 : t s = 45
  · rw [if_pos a45]
    exact key 3 (by rw [if_pos a45]) (by decide)
  · rw [if_neg a45]
    by_cases a59 : t s = 59
    · rw [if_pos a59]
      exact key 4 (by rw [if_neg a45, if_pos a59]) (by decide)
    · rw [if_neg a59]
      exact key 5 (by rw [if_neg a45, if_neg a59]) (by decide)
theorem s_nt88 {σ : zS} {x n s : Nat} {t : Nat → Nat} (h : TR σ x n t) (h1 : zi σ 387 x = nI s) (hs : s < n) (hc : ¬ (97 ≤ t s ∧ t s ≤ 122)) (d : Nat) : ∃ τ, LX8_nextToken_88 (zEv (d + 2)) x (nI (t s)) σ = some (none, τ) ∧ zFr (fun a => a = x) σ τ ∧ (∀ f, f ≠ 386 → f ≠ 388 → f ≠ 389 → zi τ f x = zi σ f x) ∧ RV τ x (tkAt n t s) := by
  have hn := h.2.2.1
  have ht := h.2.2.2 s hs
  have q48 : (nI (t s) < 48) ↔ t s < 48 := n_lt (by omega) (by decide)
  have q57 : (nI (t s) ≤ 57) ↔ t s ≤ 57 := n_le (by omega) (by decide)
  rw [uX8_nextToken_88]
  simp only [q48, q57]
  by_cases a1 : t s < 48
  · rw [if_pos a1]
    exact s_nt155 h h1 hs hc (by omega) _
  · rw [if_neg a1]
    by_cases a2 : t s ≤ 57
    · rw [if_pos a2]
      have hd : 48 ≤ t s ∧ t s ≤ 57 := by omega
      obtain ⟨e1, e2, e3⟩ := rn_p n t 48 57 s
      have e4 : rn n t 48 57 s = rn n t 48 57 (s + 1) := rn_y ⟨hs, hd⟩
      have e5 := (rn_p n t 48 57 (s + 1)).1
      have f1 : zEv (d + 2) mX8_endOfRun [.inr (.inl (some x)), .inl (nI s), .inl 48, .inl 57] σ = some (some (.inl (nI (rn n t 48 57 s))), σ) := s_eor h (by decide) (by decide) (by omega) d
      have g1 : zFr (fun a => a = x) σ (zsi σ 388 x (nI (rn n t 48 57 s))) := zFr.si σ rfl
      have h' : TR (zsi σ 388 x (nI (rn n t 48 57 s))) x n t := h.fr g1 (by rw [zi_si, if_neg (by omega)]) (by omega)
      have k1 : zi (zsi σ 388 x (nI (rn n t 48 57 s))) 387 x = nI s := by rw [zi_si, if_neg (by omega)]; exact h1
      have k2 : zi (zsi σ 388 x (nI (rn n t 48 57 s))) 388 x = nI (rn n t 48 57 s) := by rw [zi_si, if_pos ⟨rfl, rfl⟩]
      have k0 : ∀ f, f ≠ 388 → zi (zsi σ 388 x (nI (rn n t 48 57 s))) f x = zi σ f x := fun f hf => by rw [zi_si, if_neg (by omega)]
      have f2 := s_isNumber h' k1 k2 ⟨e1, by omega⟩ hs d
      have ek : tkAt n t s = if isNum t s (rn n t 48 57 s) then (2, s, rn n t 48 57 s, dv t s (rn n t 48 57 s - s)) else (5, s, rn n t 48 57 s, 0) := by
        unfold tkAt
        rw [if_pos hs, if_neg hc, if_pos hd]
      simp only [zlt_e, onR_s, nul_s, nul_n, chk_e, bnI_s, bnR_s, bnV_s, zi_si, zi_sr, zi_sl, zi_sa, zi_sq, zr_si, zr_sr, zr_sl, zr_sa, zr_sq, zl_si, zl_sr, zl_sl, zl_sa, zl_sq, zai_si, zai_sr, zai_sl, zai_sa, zai_sq, zar_si, zar_sr, zar_sl, zar_sa, zar_sq, zkd_si, zkd_sr, zkd_sl, zkd_sa, zkd_sq, zln_si, zln_sr, zln_sl, zln_sa, zln_sq, znx_si, znx_sr, znx_sl, znx_sa, znx_sq, h.1.1, if_true, h1, f1, f2, zb_0]
      generalize zsi σ 388 x (nI (rn n t 48 57 s)) = σ1 at *
      by_cases hN : isNum t s (rn n t 48 57 s)
      · rw [if_neg (fun q => q hN), uX8_nextToken_129]
        have g2 : zFr (fun a => a = x) σ1 (zsi σ1 386 x 2) := zFr.si σ1 rfl
        have h2 : TR (zsi σ1 386 x 2) x n t := h'.fr g2 (by rw [zi_si, if_neg (by omega)]) (by omega)
        have f3 := s_value h2 (by rw [zi_si, if_neg (by omega)]; exact k1) (by rw [zi_si, if_neg (by omega)]; exact k2) ⟨e1, by omega⟩ e3 (by rcases hN with q | q <;> omega) d
        simp only [zlt_e, onR_s, nul_s, nul_n, chk_e, bnI_s, bnR_s, bnV_s, zi_si, zi_sr, zi_sl, zi_sa, zi_sq, zr_si, zr_sr, zr_sl, zr_sa, zr_sq, zl_si, zl_sr, zl_sl, zl_sa, zl_sq, zai_si, zai_sr, zai_sl, zai_sa, zai_sq, zar_si, zar_sr, zar_sl, zar_sa, zar_sq, zkd_si, zkd_sr, zkd_sl, zkd_sa, zkd_sq, zln_si, zln_sr, zln_sl, zln_sa, zln_sq, znx_si, znx_sr, znx_sl, znx_sa, znx_sq, h'.1.1, if_true, and_self, f3]
        refine ⟨_, rfl, g1.tr (g2.tr (zFr.si _ rfl)), fun f a b c => ?_, ?_⟩
        · rw [zi_si, if_neg (by omega), zi_si, if_neg (by omega)]
          exact k0 f b
        · rw [ek, if_pos hN]
          refine ⟨?_, ?_, ?_, fun _ => ?_⟩
          · rw [zi_si, if_neg (by omega), zi_si, if_pos ⟨rfl, rfl⟩]; rfl
          · rw [zi_si, if_neg (by omega), zi_si, if_neg (by omega)]; exact k1
          · rw [zi_si, if_neg (by omega), zi_si, if_neg (by omega)]; exact k2
          · rw [zi_si, if_pos ⟨rfl, rfl⟩]; rfl
      · rw [if_pos hN, uX8_nextToken_129]
        simp only [zlt_e, onR_s, nul_s, nul_n, chk_e, bnI_s, bnR_s, bnV_s, zi_si, zi_sr, zi_sl, zi_sa, zi_sq, zr_si, zr_sr, zr_sl, zr_sa, zr_sq, zl_si, zl_sr, zl_sl, zl_sa, zl_sq, zai_si, zai_sr, zai_sl, zai_sa, zai_sq, zar_si, zar_sr, zar_sl, zar_sa, zar_sq, zkd_si, zkd_sr, zkd_sl, zkd_sa, zkd_sq, zln_si, zln_sr, zln_sl, zln_sa, zln_sq, znx_si, znx_sr, znx_sl, znx_sa, znx_sq, h'.1.1, if_true, and_self, show ((5 : Int32) = 2) = False from by decide, if_false]
        refine ⟨_, rfl, g1.tr ((zFr.si (P := fun a => a = x) σ1 rfl).tr (zFr.si _ rfl)), fun f a b c => ?_, ?_⟩
        · rw [zi_si, if_neg (by omega), zi_si, if_neg (by omega)]
          exact k0 f b
        · rw [ek, if_neg hN]
          refine ⟨?_, ?_, ?_, fun q => absurd (show (5 : Nat) = 2 from q) (by decide)⟩
          · rw [zi_si, if_neg (by omega), zi_si, if_pos ⟨rfl, rfl⟩]; rfl
          · rw [zi_si, if_neg (by omega), zi_si, if_neg (by omega)]; exact k1
          · rw [zi_si, if_neg (by omega), zi_si, if_neg (by omega)]; exact k2
    · rw [if_neg a2]
      exact s_nt155 h h1 hs hc (by omega) _
theorem s_nextToken {σ : zS} {x n e : Nat} {t : Nat → Nat} (h : TR σ x n t) (h2 : zi σ 388 x = nI e) (he : e ≤ n) (d : Nat) : ∃ τ, zEv (d + 3) mX8_nextToken [.inr (.inl (some x))] σ = some (none, τ) ∧ zFr (fun a => a = x) σ τ ∧ (∀ f, f < 386 ∨ 389 < f → zi τ f x = zi σ f x) ∧ RV τ x (nx n t e) := by
  have hn := h.2.2.1
  obtain ⟨p1, p2, p3⟩ := rn_p n t 32 32 e
  have f1 : zEv (d + 2) mX8_endOfRun [.inr (.inl (some x)), .inl (nI e), .inl 32, .inl 32] σ = some (some (.inl (nI (rn n t 32 32 e))), σ) := s_eor h (by decide) (by decide) (by omega) d
  have hs : rn n t 32 32 e ≤ n := by omega
  rw [vX8_nextToken]
  unfold fX8_nextToken nx
  simp only [zlt_e, onR_s, nul_s, nul_n, chk_e, bnI_s, bnR_s, bnV_s, zi_si, zi_sr, zi_sl, zi_sa, zi_sq, zr_si, zr_sr, zr_sl, zr_sa, zr_sq, zl_si, zl_sr, zl_sl, zl_sa, zl_sq, zai_si, zai_sr, zai_sl, zai_sa, zai_sq, zar_si, zar_sr, zar_sl, zar_sa, zar_sq, zkd_si, zkd_sr, zkd_sl, zkd_sa, zkd_sq, zln_si, zln_sr, zln_sl, zln_sa, zln_sq, znx_si, znx_sr, znx_sl, znx_sa, znx_sq, h.1.1, if_true, h2, f1]
  generalize rn n t 32 32 e = s at *
  have g1 : zFr (fun a => a = x) σ (zsi σ 387 x (nI s)) := zFr.si σ rfl
  have h' : TR (zsi σ 387 x (nI s)) x n t := h.fr g1 (by rw [zi_si, if_neg (by omega)]) (by omega)
  have k1 : zi (zsi σ 387 x (nI s)) 387 x = nI s := by rw [zi_si, if_pos ⟨rfl, rfl⟩]
  have k0 : ∀ f, f ≠ 387 → zi (zsi σ 387 x (nI s)) f x = zi σ f x := fun f hf => by rw [zi_si, if_neg (by omega)]
  have kl : zi σ 385 x = nI n := h.2.1.1
  simp only [and_self, if_true, s_chAt h' (show s < 1000 by omega) (d + 1), bnI_s, Nat.reduceEqDiff, false_and, if_false, kl, n_lt (show s < 2 ^ 31 by omega) (show n < 2 ^ 31 by omega), zkd_si, chk_e, h.1.1, zlt_e]
  generalize zsi σ 387 x (nI s) = σ1 at *
  have kn : zi σ1 385 x = nI n := (k0 _ (by omega)).trans kl
  simp only [k1, kn, h'.1.1, if_true, n_lt (show s < 2 ^ 31 by omega) (show n < 2 ^ 31 by omega)]
  by_cases hin : s < n
  · have ht := h.2.2.2 s hin
    have hc : chT n t s = t s := if_pos hin
    have q97 : (nI (t s) < 97) ↔ t s < 97 := n_lt (by omega) (by decide)
    have q122 : (nI (t s) ≤ 122) ↔ t s ≤ 122 := n_le (by omega) (by decide)
    rw [if_pos hin, hc]
    simp only [q97, q122]
    have other : ¬ (97 ≤ t s ∧ t s ≤ 122) → ∃ τ, LX8_nextToken_88 (zEv (d + 2)) x (nI (t s)) σ1 = some (none, τ) ∧ zFr (fun a => a = x) σ τ ∧ (∀ f, f < 386 ∨ 389 < f → zi τ f x = zi σ f x) ∧ RV τ x (tkAt n t s) := fun hc => by
      obtain ⟨τ, b1, b2, b3, b4⟩ := s_nt88 h' k1 hin hc d
      exact ⟨τ, b1, g1.tr b2, fun f hf => (b3 f (by omega) (by omega) (by omega)).trans (k0 f (by omega)), b4⟩
    by_cases a1 : t s < 97
    · rw [if_pos a1]
      exact other (by omega)
    · rw [if_neg a1]
      by_cases a2 : t s ≤ 122
      · rw [if_pos a2]
        have g2 : zFr (fun a => a = x) σ1 (zsi σ1 386 x 1) := zFr.si σ1 rfl
        have h3 : TR (zsi σ1 386 x 1) x n t := h'.fr g2 (by rw [zi_si, if_neg (by omega)]) (by omega)
        have f3 : zEv (d + 2) mX8_endOfRun [.inr (.inl (some x)), .inl (nI s), .inl 97, .inl 122] (zsi σ1 386 x 1) = some (some (.inl (nI (rn n t 97 122 s))), zsi σ1 386 x 1) := s_eor h3 (by decide) (by decide) (by omega) d
        simp only [zlt_e, onR_s, nul_s, nul_n, chk_e, bnI_s, bnR_s, bnV_s, zi_si, zi_sr, zi_sl, zi_sa, zi_sq, zr_si, zr_sr, zr_sl, zr_sa, zr_sq, zl_si, zl_sr, zl_sl, zl_sa, zl_sq, zai_si, zai_sr, zai_sl, zai_sa, zai_sq, zar_si, zar_sr, zar_sl, zar_sa, zar_sq, zkd_si, zkd_sr, zkd_sl, zkd_sa, zkd_sq, zln_si, zln_sr, zln_sl, zln_sa, zln_sq, znx_si, znx_sr, znx_sl, znx_sa, znx_sq, h'.1.1, if_true, Nat.reduceEqDiff, false_and, if_false, k1, f3]
        refine ⟨_, rfl, g1.tr (g2.tr (zFr.si _ rfl)), fun f hf => by rw [zi_si, if_neg (by omega), zi_si, if_neg (by omega)]; exact k0 f (by omega), ?_⟩
        have ek : tkAt n t s = (1, s, rn n t 97 122 s, 0) := by
          unfold tkAt
          rw [if_pos hin, if_pos (by omega)]
        rw [ek]
        refine ⟨?_, ?_, ?_, fun q => absurd (show (1 : Nat) = 2 from q) (by decide)⟩
        · rw [zi_si, if_neg (by omega), zi_si, if_pos ⟨rfl, rfl⟩]; rfl
        · rw [zi_si, if_neg (by omega), zi_si, if_neg (by omega)]; exact k1
        · rw [zi_si, if_pos ⟨rfl, rfl⟩]; rfl
      · rw [if_neg a2]
        exact other (by omega)
  · rw [if_neg hin]
    refine ⟨_, rfl, g1.tr ((zFr.si (P := fun a => a = x) σ1 rfl).tr (zFr.si _ rfl)), fun f hf => by rw [zi_si, if_neg (by omega), zi_si, if_neg (by omega)]; exact k0 f (by omega), ?_⟩
    have ek : tkAt n t s = (0, s, s, 0) := by
      unfold tkAt
      rw [if_neg hin]
    rw [ek]
    refine ⟨?_, ?_, ?_, fun q => absurd (show (0 : Nat) = 2 from q) (by decide)⟩
    · rw [zi_si, if_neg (by omega), zi_si, if_pos ⟨rfl, rfl⟩]; rfl
    · rw [zi_si, if_neg (by omega), zi_si, if_neg (by omega)]; exact k1
    · rw [zi_si, if_pos ⟨rfl, rfl⟩]; rfl
/-! text: words -/
def StW (σ : zS) (o : Nat) : Prop := ∀ k, k < 26 → k ≠ 14 → ∃ s v, zr σ 641 k = some s ∧ s < o ∧ zr σ 642 s = some v ∧ v < o ∧ zkd σ v = 18 ∧ zln σ v = (nmW k).length ∧ ∀ i, i < (nmW k).length → zai σ v i = nI ((nmW k).getD i 0)
theorem StW.fr {P : Nat → Prop} {σ τ : zS} {o : Nat} (h : StW σ o) (g : zFr P σ τ) (hn : ∀ a, a < o → ¬ P a) : StW τ o := fun k hk h14 => by
  obtain ⟨s, v, a1, a2, a4, a5, a6, a7, a8⟩ := h k hk h14
  exact ⟨s, v, by rw [g.r]; exact a1, a2, by rw [g.r]; exact a4, a5, by rw [g.kd]; exact a6, by rw [g.ln]; exact a7, fun i hi => (g.ai (hn _ a5) i).trans (a8 i hi)⟩
theorem StW.eq {P : Nat → Prop} {σ τ : zS} {o : Nat} (h : StW σ o) (g : zEq P σ τ) (hP : ∀ a, a < o → P a) : StW τ o := fun k hk h14 => by
  obtain ⟨s, v, a1, a2, a4, a5, a6, a7, a8⟩ := h k hk h14
  exact ⟨s, v, (g.1 641 k (by decide)).trans a1, a2, (g.1 642 s (by decide)).trans a4, a5, (g.kd (hP _ a5)).trans a6, (g.ln (hP _ a5)).trans a7, fun i hi => (g.ai (hP _ a5) i).trans (a8 i hi)⟩
theorem s_jlen {σ : zS} {a v n : Nat} (h2 : zr σ 642 a = some v) (h3 : zkd σ v = 18) (h4 : zln σ v = n) (d : Nat) : zEv (d + 2) mJ0_length_8abf5 [.inr (.inl (some a))] σ = some (some (.inl (nI n)), σ) := by
  have c : zEv (d + 1) mJ0_coder_7d493 [.inr (.inl (some a))] σ = some (some (.inl 0), σ) := by
    rw [vJ0_coder_7d493]
    unfold fJ0_coder_7d493
    simp +decide only [chk_e, h2, Option.isSome_some, if_true, if_false]
  rw [vJ0_length_8abf5]
  unfold fJ0_length_8abf5
  simp only [zlt_e, onR_s, nul_s, nul_n, chk_e, bnI_s, bnR_s, bnV_s, zi_si, zi_sr, zi_sl, zi_sa, zi_sq, zr_si, zr_sr, zr_sl, zr_sa, zr_sq, zl_si, zl_sr, zl_sl, zl_sa, zl_sq, zai_si, zai_sr, zai_sl, zai_sa, zai_sq, zar_si, zar_sr, zar_sl, zar_sa, zar_sq, zkd_si, zkd_sr, zkd_sl, zkd_sa, zkd_sq, zln_si, zln_sr, zln_sl, zln_sa, zln_sq, znx_si, znx_sr, znx_sl, znx_sa, znx_sq, h2, Option.isSome_some, h3, h4, if_true, c, show ((0 : Int32) &&& 31) = 0 from by decide, Int32.shiftRight_zero, n_ofNat]
theorem s_jcheck {i n : Nat} (hi : i < n) (hn : n < 2 ^ 31) (σ : zS) (d : Nat) : zEv (d + 2) mJ0_checkIndex_df160 [.inl (nI i), .inl (nI n)] σ = some (none, σ) := by
  have c : zEv (d + 1) mJ3_checkIndex_8e157 [.inl (nI i), .inl (nI n), .inr (.inl (zr σ 643 0))] σ = some (some (.inl (nI i)), σ) := by
    rw [vJ3_checkIndex_8e157]
    unfold fJ3_checkIndex_8e157
    have q0 : ¬ (nI i < 0) := fun q => by have := (n_lt (a := i) (b := 0) (by omega) (by decide)).mp q; omega
    rw [if_neg q0, if_pos ((n_lt (by omega) hn).mpr hi)]
  rw [vJ0_checkIndex_df160]
  unfold fJ0_checkIndex_df160
  simp only [c, bnI_s]
theorem and255 : ∀ c, c < 128 → (nI c &&& 255) = nI c := by decide
theorem s_jchar {σ : zS} {a v n i c : Nat} (h2 : zr σ 642 a = some v) (h3 : zkd σ v = 18) (h4 : zln σ v = n) (hn : n < 100) (hi : i < n) (hv : zai σ v i = nI c) (hc : c < 128) (d : Nat) : zEv (d + 4) mJ0_charAt_5068e [.inr (.inl (some a)), .inl (nI i)] σ = some (some (.inl (nI c)), σ) := by
  have c1 : zEv (d + 3) mJ0_isLatin1_aae02 [.inr (.inl (some a))] σ = some (some (.inl 1), σ) := by
    rw [vJ0_isLatin1_aae02]
    unfold fJ0_isLatin1_aae02
    simp +decide only [chk_e, h2, Option.isSome_some, if_true, if_false]
  have c2 : zEv (d + 3) mJ1_charAt_3b067 [.inr (.inl (some v)), .inl (nI i)] σ = some (some (.inl (nI c)), σ) := by
    rw [vJ1_charAt_3b067]
    unfold fJ1_charAt_3b067
    simp only [onR_s, chk_e, h3, h4, if_true, n_ofNat, s_jcheck hi (show n < 2 ^ 31 by omega), bnV_s, n_zin (show i < 2 ^ 31 by omega), hi, and_self, n_tn (show i < 2 ^ 31 by omega), hv, and255 c hc, (ch_n (k := c) (by omega)).1, (ch_n (k := c) (by omega)).2]
  rw [vJ0_charAt_5068e]
  unfold fJ0_charAt_5068e
  simp only [onR_s, chk_e, h2, Option.isSome_some, if_true, c1, c2, bnI_s, show ((1 : Int32) = 0) = False from by decide, if_false, (ch_n (k := c) (by omega)).2]
