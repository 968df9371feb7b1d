/-! the law's edits: eight of them, each second one undone and done again -/
def K8 : Nat := 33000 * 256
theorem y_isTold {b o n : Nat} {xs : Nat → Int32} {σ : zS} {A : zW} {B l : Nat} (h : LI b o n xs σ A B) (hB : B + K8 < 2 ^ 29) (hl : l < cN (aC A)) (d : Nat) : ∃ τ A', zEv (d + 31) mL_isTold [.inr (.inl (some o)), .inl (nI l)] σ = some (some (.inl 1), τ) ∧ LI b o n xs τ A' (B + K8) ∧ Sm A A' := w_isTold h hB hl d
def SnK (Cs : zC) (A : zW) : Prop := aS A 0 = some Cs ∧ aS A 1 = none
theorem SnK.eq {Cs : zC} {A A' : zW} (h : SnK Cs A) (e : aS A' = aS A) : SnK Cs A' := by
  unfold SnK
  rw [e]
  exact h
theorem Pu.sm {A A1 A2 : zW} {C : zC} (h : Pu A A1 C) (g : Sm A1 A2) : Pu A A2 C := ⟨g.1.trans h.1, g.2.1.trans h.2.1, g.2.2.1.trans h.2.2.1, g.2.2.2.trans h.2.2.2⟩
theorem z_308 {b o n : Nat} {xs : Nat → Int32} {σ : zS} {A A2 : zW} {B B0 : Nat} {y : Int32} {r : zW → Int32} {t : zW → zW} (h : LI b o n xs σ A2 B) (hB : B < 2 ^ 29) (hA : GA A B0) (d : Nat) (hop : Op r t)
    (hed : ∀ (σ : zS) (A' : zW) (B : Nat), LI b o n xs σ A' B → B < 2 ^ 29 → aC A' = aC A → ∃ τ, zEv (d + 31) mL_edit [.inr (.inl (some o)), .inl y] σ = some (some (.inl (r A')), τ) ∧ LI b o n xs τ (t A') B) (hS : Sm (t A) A2) (l0 : Option Nat) (l2 : Int32) (l3 : Int64) (tt : Nat) (l11 l12 : zV) (bb : Nat × Nat) :
    ∃ τ A3 j6 j7 j8 j9 j10 j11 j12, LL_law_308 (zEv (d + 31)) l0 (some o) l2 l3 (nI tt) y (dgC (aC A)) (nI (cN (aC A))) (r A) l11 l12 bb σ = LL_law_226 (zEv (d + 31)) l0 (some o) l2 l3 (nI (tt + 1)) j6 j7 j8 j9 j10 j11 j12 bb τ ∧ LI b o n xs τ A3 B ∧ aS A3 = aS A := by
  obtain ⟨g, f, hop⟩ := hop
  obtain ⟨hp, hn⟩ := hop A B0 hA
  rw [uL_law_308]
  simp only [zlt_e, nI_1]
  by_cases hr : r A < 0
  · rw [if_pos hr]
    have hg : ¬ g (aC A) := fun q => (hp q).1 hr
    have e := (hn hg).2
    rw [e] at hS
    exact ⟨_, A2, _, _, _, _, _, _, _, rfl, h, hS.2.1⟩
  · rw [if_neg hr]
    have hg : g (aC A) := Classical.byContradiction (fun q => hr (hn q).1)
    have hP := (hp hg).2.sm hS
    by_cases ho : (nI tt &&& 1 : Int32) = 1
    · rw [if_pos ho]
      obtain ⟨u1, u2, u3⟩ := und hP hA.2.1.1
      obtain ⟨t1, a1, h1⟩ := w_digest h hB d
      obtain ⟨t2, a2, h2⟩ := y_undo h1 hB d
      obtain ⟨t3, a3, h3⟩ := w_digest h2 hB d
      obtain ⟨t4, a4, h4⟩ := y_size h3 hB 2 d
      obtain ⟨t5, a5, h5⟩ := hed t4 (tUndo A2) B h4 hB u2
      obtain ⟨t6, a6, h6⟩ := w_digest h5 hB d
      obtain ⟨hp2, hn2⟩ := hop (tUndo A2) B h4.1
      have hp2 := hp2 (by rw [u2]; exact hg)
      have r2 : ¬ r (tUndo A2) < 0 := hp2.1
      have e6 : aC (t (tUndo A2)) = aC A2 := by rw [hp2.2.1, u2, hP.1]
      have eS : aS (t (tUndo A2)) = aS A := by rw [hp2.2.2.1, u3]
      simp only [a1, bnL, onR_s, chk_e, h1.o8, if_true, a2, bnI_s, u1, if_false, a3, u2, cmp_self, h3.o8, a4, size_2, a5, r2, a6, e6]
      exact ⟨_, _, _, _, _, _, _, _, _, rfl, h6, eS⟩
    · rw [if_neg ho]
      exact ⟨_, A2, _, _, _, _, _, _, _, rfl, h, hP.2.1⟩
theorem z_279 {b o n : Nat} {xs : Nat → Int32} {σ : zS} {A : zW} {B : Nat} (h : LI b o n xs σ A B) (hB : B + K8 < 2 ^ 29) (d : Nat) (l0 : Option Nat) (l2 l5 y l9 l10 : Int32) (l3 l7 : Int64) (l11 l12 : zV) (bb : Nat × Nat) :
    ∃ τ A2, LL_law_279 (zEv (d + 31)) l0 (some o) l2 l3 l5 y l7 l9 l10 l11 l12 bb σ = LL_law_308 (zEv (d + 31)) l0 (some o) l2 l3 l5 y l7 l9 l10 l11 l12 bb τ ∧ LI b o n xs τ A2 (B + K8) ∧ Sm A A2 := by
  have h8 := h.1.1.2.2.1
  have hB1 : B < 2 ^ 29 := Nat.lt_of_le_of_lt (Nat.le_add_right _ _) hB
  obtain ⟨t1, a1, h1⟩ := y_size h hB1 2 d
  rw [uL_law_279]
  simp only [onR_s, chk_e, h.o8, if_true, a1, bnI_s, size_2]
  by_cases c : nI (cN (aC A)) ≤ 0
  · rw [if_pos c]
    exact ⟨t1, A, rfl, h1.mono (Nat.le_add_right _ _), Sm.rf A⟩
  · have h0 : 0 < cN (aC A) := by
      rcases Nat.eq_zero_or_pos (cN (aC A)) with q | q
      · rw [q] at c; exact absurd (by decide : nI 0 ≤ 0) c
      · exact q
    rw [if_neg c]
    obtain ⟨t2, a2, h2⟩ := y_size h1 hB1 2 d
    have a3 : zEv (d + 31) mL_low [.inl (y >>> (2 &&& 31)), .inl (nI (cN (aC A)))] t2 = some (some (.inl (lowI (y >>> (2 &&& 31)) (nI (cN (aC A))))), t2) := y_low _ _ (nI_ne0 h0 (by omega)) t2 d
    obtain ⟨k, ek, hk⟩ := low_R (v := y >>> (2 &&& 31)) (n := nI (cN (aC A))) (m := cN (aC A)) rfl h0 (by omega)
    rw [ek] at a3
    obtain ⟨t4, A2, a4, h4, hS⟩ := y_isTold h2 hB hk d
    have c1 : ((1 : Int32) = 0) = False := eq_false (by decide)
    simp only [h1.o8, if_true, a2, bnI_s, size_2, a3, a4, c1, if_false]
    exact ⟨t4, A2, rfl, h4, hS⟩
theorem z_step {b o n : Nat} {xs : Nat → Int32} {σ : zS} {A : zW} {B tt : Nat} (h : LI b o n xs σ A B) (hn : n < 2 ^ 31) (hB : B + K8 < 2 ^ 29) (ht : tt < 8) (d : Nat) (l2 : Int32) (l3 : Int64) (l6 l7 l8 l9 l10 l11 l12 : zV) (bb : Nat × Nat) :
    ∃ τ A3 j6 j7 j8 j9 j10 j11 j12, LL_law_226 (zEv (d + 31)) (some b) (some o) l2 l3 (nI tt) l6 l7 l8 l9 l10 l11 l12 bb σ = LL_law_226 (zEv (d + 31)) (some b) (some o) l2 l3 (nI (tt + 1)) j6 j7 j8 j9 j10 j11 j12 bb τ ∧ LI b o n xs τ A3 (B + K8) ∧ aS A3 = aS A := by
  have hB1 : B < 2 ^ 29 := Nat.lt_of_le_of_lt (Nat.le_add_right _ _) hB
  have c0 : nI tt < 8 := (n_lt (b := 8) (by omega) (by decide)).mpr ht
  obtain ⟨y, a1⟩ := y_cell h hn (x := 5 + nI tt) (k := 5 + tt) (nI_add 5 tt) (by omega) d
  obtain ⟨t2, a2, h2⟩ := w_digest h hB1 d
  obtain ⟨t3, a3, h3⟩ := y_size h2 hB1 2 d
  obtain ⟨r, t, hop, hed⟩ := w_edit (b := b) (o := o) (n := n) (xs := xs) y (aC A) h.1.1 d
  obtain ⟨t4, a4, h4⟩ := hed t3 A B h3 hB1 rfl
  have key : ∀ (σ : zS), LI b o n xs σ (t A) B → ∃ τ A3 j6 j7 j8 j9 j10 j11 j12, LL_law_279 (zEv (d + 31)) (some b) (some o) l2 l3 (nI tt) y (dgC (aC A)) (nI (cN (aC A))) (r A) l11 l12 bb σ = LL_law_226 (zEv (d + 31)) (some b) (some o) l2 l3 (nI (tt + 1)) j6 j7 j8 j9 j10 j11 j12 bb τ ∧ LI b o n xs τ A3 (B + K8) ∧ aS A3 = aS A := by
    intro σ hσ
    obtain ⟨τ, A2, e, hτ, hS⟩ := z_279 hσ hB d (some b) l2 (nI tt) y (nI (cN (aC A))) (r A) l3 (dgC (aC A)) l11 l12 bb
    rw [e]
    exact z_308 hτ hB h.1 d hop hed hS (some b) l2 l3 tt l11 l12 bb
  rw [uL_law_226, if_pos c0]
  simp only [a1, bnI_s, zlt_e, a2, bnL, onR_s, chk_e, h2.o8, if_true, a3, size_2, a4]
  by_cases hr : r A < 0
  · rw [if_pos hr]
    obtain ⟨g, f, hop'⟩ := hop
    obtain ⟨hp, hng⟩ := hop' A B h.1
    have hg : ¬ g (aC A) := fun q => (hp q).1 hr
    have e := (hng hg).2
    obtain ⟨t5, a5, h5⟩ := w_digest h4 hB1 d
    rw [e] at a5
    simp only [a5, cmp_self, if_true]
    exact key t5 h5
  · rw [if_neg hr]
    exact key t4 h4
theorem b_33 {B : Nat} (h : B + 33000 + 33000 < 2 ^ 29) : B < 2 ^ 29 := Nat.lt_of_le_of_lt (Nat.le_trans (Nat.le_add_right B 33000) (Nat.le_add_right _ 33000)) h
theorem z_226z {b o n : Nat} {xs : Nat → Int32} {Cs : zC} (bb : Nat × Nat) (d : Nat) (σ : zS) (A : zW) (B : Nat) (l6 l7 l8 l9 l10 l11 l12 : zV) (h : LI b o n xs σ A B) (hB : B + 33000 + 33000 < 2 ^ 29) (hS : SnK Cs A) : Fi (LL_law_226 (zEv (d + 31)) (some b) (some o) (nI (cN Cs)) (dgC Cs) (nI 8) l6 l7 l8 l9 l10 l11 l12 bb σ) := by
  have h8 := h.1.1.2.2.1
  have c0 : ¬ nI 8 < 8 := by decide
  obtain ⟨t1, a1, h1⟩ := y_size h (b_33 hB) 2 d
  have e : nI (cN (aC A)) - 1 = iI ((cN (aC A) : Int) - 1) := by rw [i_nI, show (1 : Int32) = iI 1 from rfl, i_sub]
  rw [uL_law_226, if_neg c0]
  simp only [onR_s, chk_e, h.o8, if_true, a1, bnI_s, size_2, zlt_e, e]
  exact z_395 hB hS.1 hS.2 _ _ _ _ _ _ bb d (cN (aC A)) 0 _ t1 (Nat.zero_add _) h1
/-- what is left of the clock's room, m edits before the end -/
def RmB (B : Nat) : Nat → Prop
  | 0 => B + 33000 + 33000 < 2 ^ 29
  | m + 1 => B + K8 < 2 ^ 29 ∧ RmB (B + K8) m
theorem z_226 {b o n : Nat} {xs : Nat → Int32} {Cs : zC} (hn : n < 2 ^ 31) (bb : Nat × Nat) (d : Nat) : ∀ (m tt : Nat) (σ : zS) (A : zW) (B : Nat) (l6 l7 l8 l9 l10 l11 l12 : zV), tt + m = 8 → LI b o n xs σ A B → RmB B m → SnK Cs A → Fi (LL_law_226 (zEv (d + 31)) (some b) (some o) (nI (cN Cs)) (dgC Cs) (nI tt) l6 l7 l8 l9 l10 l11 l12 bb σ) := by
  intro m
  induction m with
  | zero =>
    intro tt σ A B l6 l7 l8 l9 l10 l11 l12 ht h hB hS
    rw [Nat.add_zero] at ht
    rw [ht]
    exact z_226z bb d σ A B l6 l7 l8 l9 l10 l11 l12 h hB hS
  | succ m ih =>
    intro tt σ A B l6 l7 l8 l9 l10 l11 l12 ht h hB hS
    obtain ⟨τ, A3, j6, j7, j8, j9, j10, j11, j12, e, hτ, eS⟩ := z_step h hn hB.1 (show tt < 8 by omega) d (nI (cN Cs)) (dgC Cs) l6 l7 l8 l9 l10 l11 l12 bb
    rw [e]
    exact ih (tt + 1) τ A3 (B + K8) j6 j7 j8 j9 j10 j11 j12 (by omega) hτ hB.2 (hS.eq eS)
theorem RmB_8 : RmB 0 8 := by
  refine ⟨?_, ?_, ?_, ?_, ?_, ?_, ?_, ?_, ?_⟩ <;> exact Nat.le_of_ble_eq_true rfl
