/-! text: the class finds words -/
theorem nmW_c : ∀ k, k < 26 → (nmW k).length < 100 ∧ ∀ i, i < (nmW k).length → (nmW k).getD i 0 < 128 := by decide
theorem s_wordIs {σ : zS} {x n o k : Nat} {t : Nat → Nat} {T : zTk} (h : TR σ x n t) (hR : RV σ x T) (hT : TkG n t T) (hW : StW σ o) (hk : k < 26) (h14 : k ≠ 14) : ∃ s, zr σ 641 k = some s ∧ ∀ d, zEv (d + 5) mX8_wordIs [.inr (.inl (some x)), .inr (.inl (some s))] σ = some (some (.inl (zb (eqW t T (nmW k)))), σ) := by
  obtain ⟨s, v, a1, a2, a4, a5, a6, a7, a8⟩ := hW k hk h14
  have a3 : (zr σ 642 s).isSome = true := by rw [a4]; rfl
  obtain ⟨w1, w2⟩ := nmW_c k hk
  refine ⟨s, a1, fun d => ?_⟩
  have hn := h.2.2.1
  obtain ⟨g1, g2, g3, g4, g5⟩ := hT
  have b1 : zB 1 = True := eq_true (Or.inr rfl)
  have b0 : zB 0 = True := eq_true (Or.inl rfl)
  have q1 : (nI (kK T) = 1) ↔ kK T = 1 := n_eq (by omega) (by decide)
  have es : nI (kE T) - nI (kS T) = nI (kE T - kS T) := nI_sub g2
  rw [vX8_wordIs]
  unfold fX8_wordIs
  simp only [zlt_e, onR_s, nul_s, nul_n, chk_e, bnI_s, bnR_s, bnV_s, zi_si, zi_sr, zi_sl, zi_sa, zi_sq, zr_si, zr_sr, zr_sl, zr_sa, zr_sq, zl_si, zl_sr, zl_sl, zl_sa, zl_sq, zai_si, zai_sr, zai_sl, zai_sa, zai_sq, zar_si, zar_sr, zar_sl, zar_sa, zar_sq, zkd_si, zkd_sr, zkd_sl, zkd_sa, zkd_sq, zln_si, zln_sr, zln_sl, zln_sa, zln_sq, znx_si, znx_sr, znx_sl, znx_sa, znx_sq, h.1.1, if_true, hR.1, hR.2.1, hR.2.2.1, q1, es, b1, b0, a3]
  by_cases hw : kK T = 1
  · rw [if_pos hw]
    simp only [s_jlen a4 a6 a7 (d + 2), bnI_s, h.1.1, if_true, hR.2.1, hR.2.2.1, es, n_eq (show (nmW k).length < 2 ^ 31 by omega) (show kE T - kS T < 2 ^ 31 by omega)]
    by_cases hl : (nmW k).length = kE T - kS T
    · rw [if_pos hl]
      have lp : ∀ f i, i + f = (nmW k).length → (∀ j, j < i → t (kS T + j) = (nmW k).getD j 0) → LX8_wordIs_28 (zEv (d + 4)) x (some s) (nI i) σ = some (some (.inl (zb (eqW t T (nmW k)))), σ) := by
        intro f
        induction f with
        | zero =>
          intro i hi hj
          rw [uX8_wordIs_28]
          simp only [onR_s, chk_e, a3, if_true, s_jlen a4 a6 a7 (d + 2), bnI_s, n_lt (show i < 2 ^ 31 by omega) (show (nmW k).length < 2 ^ 31 by omega), show ¬ i < (nmW k).length by omega, if_false, b1]
          rw [zb_t ⟨hw, hl, fun j hj' => hj j (by omega)⟩]
        | succ f ih =>
          intro i hi hj
          have hil : i < (nmW k).length := by omega
          have hc := w2 i hil
          obtain ⟨_, g6⟩ := g4 hw
          have hch : chT n t (kS T + i) = t (kS T + i) := if_pos (by omega)
          have ht := g6 (kS T + i) (by omega) (by omega)
          rw [uX8_wordIs_28]
          simp only [onR_s, chk_e, a3, if_true, s_jlen a4 a6 a7 (d + 2), bnI_s, n_lt (show i < 2 ^ 31 by omega) (show (nmW k).length < 2 ^ 31 by omega), hil, s_jchar a4 a6 a7 w1 hil (a8 i hil) hc d, h.1.1, hR.2.1, nI_add, s_chAt h (show kS T + i < 1000 by omega) (d + 3), hch, n_eq (show (nmW k).getD i 0 < 2 ^ 31 by omega) (show t (kS T + i) < 2 ^ 31 by omega), zlt_e, nI_1, b0]
          by_cases e : (nmW k).getD i 0 = t (kS T + i)
          · rw [if_pos e]
            exact ih (i + 1) (by omega) (fun j hj' => by
              by_cases ej : j = i
              · rw [ej]; exact e.symm
              · exact hj j (by omega))
          · rw [if_neg e, zb_f (fun q => e (q.2.2 i hil).symm)]
      exact lp (nmW k).length 0 (by omega) (fun j hj => absurd hj (Nat.not_lt_zero _))
    · rw [if_neg hl, zb_f (fun q => hl q.2.1)]
  · rw [if_neg hw, zb_f (fun q => hw q.1)]
theorem s_kname {σ : zS} {k s : Nat} (hk : k < 14) (hs : zr σ 641 k = some s) (d : Nat) : zEv (d + 1) mX2_nameOf [.inl (nI k)] σ = some (some (.inr (.inl (some s))), σ) := by
  rw [vX2_nameOf]
  unfold fX2_nameOf
  rcases (show k = 0 ∨ k = 1 ∨ k = 2 ∨ k = 3 ∨ k = 4 ∨ k = 5 ∨ k = 6 ∨ k = 7 ∨ k = 8 ∨ k = 9 ∨ k = 10 ∨ k = 11 ∨ k = 12 ∨ k = 13 by omega) with e | e | e | e | e | e | e | e | e | e | e | e | e | e <;> subst e <;> simp +decide only [hs, onR_s, if_true, if_false]
theorem s_mname {σ : zS} {k s : Nat} (hk : k < 8) (hs : zr σ 641 (18 + k) = some s) (d : Nat) : zEv (d + 1) mX5_nameOf [.inl (nI k)] σ = some (some (.inr (.inl (some s))), σ) := by
  rw [vX5_nameOf]
  unfold fX5_nameOf
  rcases (show k = 0 ∨ k = 1 ∨ k = 2 ∨ k = 3 ∨ k = 4 ∨ k = 5 ∨ k = 6 ∨ k = 7 by omega) with e | e | e | e | e | e | e | e <;> subst e <;> simp +decide only [hs, onR_s, if_true, if_false]
theorem fnd_s {p : Nat → Bool} {f i : Nat} (h : p i = true) : fnd p (f + 1) i = i := if_pos h
theorem fnd_n {p : Nat → Bool} {f i : Nat} (h : ¬ p i = true) : fnd p (f + 1) i = fnd p f (i + 1) := if_neg h
/-- an index found, or -1 -/
def orN (v m : Nat) : Int32 := if v < m then nI v else -1
theorem orN_lt {v m : Nat} (hv : v ≤ 100) : (orN v m < 0) ↔ ¬ v < m := by
  unfold orN
  by_cases h : v < m
  · rw [if_pos h]
    have := n_lt (a := v) (b := 0) (by omega) (by decide)
    exact ⟨fun q => absurd (this.mp q) (Nat.not_lt_zero _), fun q => absurd h q⟩
  · rw [if_neg h]
    exact ⟨fun _ => h, fun _ => by decide⟩
theorem orN_y {v m : Nat} (h : v < m) : orN v m = nI v := if_pos h
theorem s_kindW {σ : zS} {x n o : Nat} {t : Nat → Nat} {T : zTk} (h : TR σ x n t) (hR : RV σ x T) (hT : TkG n t T) (hW : StW σ o) (d : Nat) : zEv (d + 6) mX8_kindOfWord [.inr (.inl (some x))] σ = some (some (.inl (orN (kwK t T) 14)), σ) := by
  have lp : ∀ f i, i + f = 14 → LX8_kindOfWord_2 (zEv (d + 5)) x (nI i) σ = some (some (.inl (orN (fnd (fun k => decide (eqW t T (nmW k))) f i) 14)), σ) := by
    intro f
    induction f with
    | zero =>
      intro i hi
      have e : i = 14 := by omega
      subst e
      rw [uX8_kindOfWord_2, if_neg (by decide)]
      rfl
    | succ f ih =>
      intro i hi
      obtain ⟨s, a1, a2⟩ := s_wordIs h hR hT hW (show i < 26 by omega) (by omega)
      rw [uX8_kindOfWord_2, if_pos (show nI i < 14 from (n_lt (a := i) (b := 14) (by omega) (by decide)).mpr (by omega))]
      simp only [s_kname (show i < 14 by omega) a1, bnR_s, chk_e, h.1.1, if_true, a2 d, bnI_s, zb_0, zlt_e, nI_1, nI_add]
      by_cases e : eqW t T (nmW i)
      · rw [if_neg (fun q => q e), fnd_s (decide_eq_true e), orN_y (show i < 14 by omega)]
      · rw [if_pos e, fnd_n (fun q => e (of_decide_eq_true q))]
        exact ih (i + 1) (by omega)
  rw [vX8_kindOfWord]
  unfold fX8_kindOfWord
  rw [zlt_e]
  exact lp 14 0 rfl
theorem s_modeW {σ : zS} {x n o : Nat} {t : Nat → Nat} {T : zTk} (h : TR σ x n t) (hR : RV σ x T) (hT : TkG n t T) (hW : StW σ o) (d : Nat) : zEv (d + 6) mX8_modeOfWord [.inr (.inl (some x))] σ = some (some (.inl (orN (kwM t T) 8)), σ) := by
  have lp : ∀ f i, i + f = 8 → LX8_modeOfWord_2 (zEv (d + 5)) x (nI i) σ = some (some (.inl (orN (fnd (fun k => decide (eqW t T (nmW (18 + k)))) f i) 8)), σ) := by
    intro f
    induction f with
    | zero =>
      intro i hi
      have e : i = 8 := by omega
      subst e
      rw [uX8_modeOfWord_2, if_neg (by decide)]
      rfl
    | succ f ih =>
      intro i hi
      obtain ⟨s, a1, a2⟩ := s_wordIs h hR hT hW (show 18 + i < 26 by omega) (by omega)
      rw [uX8_modeOfWord_2, if_pos (show nI i < 8 from (n_lt (a := i) (b := 8) (by omega) (by decide)).mpr (by omega))]
      simp only [s_mname (show i < 8 by omega) a1, bnR_s, chk_e, h.1.1, if_true, a2 d, bnI_s, zb_0, zlt_e, nI_1, nI_add]
      by_cases e : eqW t T (nmW (18 + i))
      · rw [if_neg (fun q => q e), fnd_s (decide_eq_true e), orN_y (show i < 8 by omega)]
      · rw [if_pos e, fnd_n (fun q => e (of_decide_eq_true q))]
        exact ih (i + 1) (by omega)
  rw [vX8_modeOfWord]
  unfold fX8_modeOfWord
  rw [zlt_e]
  exact lp 8 0 rfl
theorem s_optW {σ : zS} {x n o : Nat} {t : Nat → Nat} {T : zTk} (h : TR σ x n t) (hR : RV σ x T) (hT : TkG n t T) (hW : StW σ o) (d : Nat) : zEv (d + 6) mX8_optionOfWord [.inr (.inl (some x))] σ = some (some (.inl (orN (kwO t T) 3)), σ) := by
  obtain ⟨s0, a1, a2⟩ := s_wordIs h hR hT hW (show 15 < 26 by decide) (by decide)
  obtain ⟨s1, b1, b2⟩ := s_wordIs h hR hT hW (show 16 < 26 by decide) (by decide)
  obtain ⟨s2, c1, c2⟩ := s_wordIs h hR hT hW (show 17 < 26 by decide) (by decide)
  rw [vX8_optionOfWord]
  unfold fX8_optionOfWord kwO
  simp only [a1, b1, c1, onR_s, chk_e, h.1.1, if_true, a2 d, b2 d, c2 d, bnI_s, zb_0]
  by_cases e0 : eqW t T (nmW 15)
  · rw [if_neg (fun q => q e0), fnd_s (decide_eq_true e0)]; rfl
  · rw [if_pos e0, fnd_n (fun q => e0 (of_decide_eq_true q))]
    by_cases e1 : eqW t T (nmW 16)
    · rw [if_neg (fun q => q e1), fnd_s (decide_eq_true e1)]; rfl
    · rw [if_pos e1, fnd_n (fun q => e1 (of_decide_eq_true q))]
      by_cases e2 : eqW t T (nmW 17)
      · rw [if_neg (fun q => q e2), fnd_s (decide_eq_true e2)]; rfl
      · rw [if_pos e2, fnd_n (fun q => e2 (of_decide_eq_true q))]; rfl
/-! text: the plain parser -/
def pT1 (n : Nat) (t : Nat → Nat) (lo : Int) (T : zTk) : zTk := if lo < 0 ∧ kK T = 3 then nx n t (kE T) else T
def pV (n : Nat) (t : Nat → Nat) (lo : Int) (T : zTk) : Int := if lo < 0 ∧ kK T = 3 then -(kV (pT1 n t lo T) : Int) else kV (pT1 n t lo T)
abbrev pNo (n : Nat) (t : Nat → Nat) (lo hi : Int) (T : zTk) : Prop := kK (pT1 n t lo T) = 2 ∧ lo ≤ pV n t lo T ∧ pV n t lo T ≤ hi
abbrev zPr : Type := Bool × zTk × Int
/-- a number -/
def pN (n : Nat) (t : Nat → Nat) (lo hi : Int) (T : zTk) : zPr := if pNo n t lo hi T then (true, nx n t (kE (pT1 n t lo T)), pV n t lo T) else (false, pT1 n t lo T, 0)
def pM (n : Nat) (t : Nat → Nat) (b : Prop) [Decidable b] (lo hi : Int) (T : zTk) : zPr := if b then pN n t lo hi T else (true, T, 0)
abbrev zPl : Type := Bool × zTk × (Nat → Int)
/-- the options of a layer -/
def pO (n : Nat) (t : Nat → Nat) : Nat → Bool → Bool → Bool → zTk → (Nat → Int) → zPl
  | 0, _, _, _, T, l => (true, T, l)
  | f + 1, a, b, c, T, l =>
    if kK T = 1 then
      if kwO t T = 0 ∧ a = false then
        if (pN n t 0 100 (nx n t (kE T))).1 = true then pO n t f true b c (pN n t 0 100 (nx n t (kE T))).2.1 (upR l 4 (pN n t 0 100 (nx n t (kE T))).2.2) else (false, (pN n t 0 100 (nx n t (kE T))).2.1, l)
      else if kwO t T = 1 ∧ b = false then
        if kwM t (nx n t (kE T)) < 8 then pO n t f a true c (nx n t (kE (nx n t (kE T)))) (upR l 3 (kwM t (nx n t (kE T)))) else (false, nx n t (kE T), l)
      else if kwO t T = 2 ∧ c = false then pO n t f a b true (nx n t (kE T)) (upR l 5 0)
      else (false, T, l)
    else (true, T, l)
abbrev hasA (k : Nat) : Prop := k ≠ 4 ∧ k ≠ 13
abbrev hasB (k : Nat) : Prop := k = 0 ∨ k = 10 ∨ k = 11
def pRA (n : Nat) (t : Nat → Nat) (T : zTk) : zPr := pM n t (hasA (kwK t T)) (loA (kwK t T)) (hiA (kwK t T)) (nx n t (kE T))
def pRB (n : Nat) (t : Nat → Nat) (T : zTk) : zPr := pM n t (hasB (kwK t T)) (loB (kwK t T) (pRA n t T).2.2) (hiB (kwK t T)) (pRA n t T).2.1
def pRO (n : Nat) (t : Nat → Nat) (T : zTk) : zPl := pO n t 3 false false false (pRB n t T).2.1 (lNew (kwK t T) (pRA n t T).2.2 (pRB n t T).2.2)
/-- a layer -/
def pL (n : Nat) (t : Nat → Nat) (T : zTk) (c : Nat) : zPl :=
  if kwK t T < 14 ∧ c < 8 then
    if (pRA n t T).1 = true then
      if (pRB n t T).1 = true then
        if (pRO n t T).1 = true ∧ kK (pRO n t T).2.1 = 4 then (true, nx n t (kE (pRO n t T).2.1), (pRO n t T).2.2) else (false, (pRO n t T).2.1, fun _ => 0)
      else (false, (pRB n t T).2.1, fun _ => 0)
    else (false, (pRA n t T).2.1, fun _ => 0)
  else (false, T, fun _ => 0)
abbrev zPa : Type := Bool × zTk × Nat × (Nat → Nat → Int)
/-- all layers -/
def pA (n : Nat) (t : Nat → Nat) : Nat → zTk → Nat → (Nat → Nat → Int) → zPa
  | 0, T, c, L => (true, T, c, L)
  | f + 1, T, c, L => if kK T = 0 then (true, T, c, L) else if (pL n t T c).1 = true then pA n t f (pL n t T c).2.1 (c + 1) (fun i => if i = c then (pL n t T c).2.2 else L i) else (false, (pL n t T c).2.1, c, L)
theorem pT1_G {n : Nat} {t : Nat → Nat} {T : zTk} (h : TkG n t T) (lo : Int) : TkG n t (pT1 n t lo T) := by
  unfold pT1
  split
  · exact nx_G h.2.2.1
  · exact h
theorem pN_G {n : Nat} {t : Nat → Nat} {T : zTk} (h : TkG n t T) (lo hi : Int) : TkG n t (pN n t lo hi T).2.1 ∧ ((pN n t lo hi T).1 = true → lo ≤ (pN n t lo hi T).2.2 ∧ (pN n t lo hi T).2.2 ≤ hi) := by
  unfold pN
  split
  · next q => exact ⟨nx_G (pT1_G h lo).2.2.1, fun _ => q.2⟩
  · exact ⟨pT1_G h lo, fun q => absurd (show false = true from q) (by decide)⟩
theorem pM_G {n : Nat} {t : Nat → Nat} {T : zTk} (h : TkG n t T) (b : Prop) [Decidable b] (lo hi : Int) : TkG n t (pM n t b lo hi T).2.1 ∧ ((pM n t b lo hi T).1 = true → b → lo ≤ (pM n t b lo hi T).2.2 ∧ (pM n t b lo hi T).2.2 ≤ hi) ∧ (¬ b → (pM n t b lo hi T).2.2 = 0) := by
  unfold pM
  by_cases hb : b
  · rw [if_pos hb]
    exact ⟨(pN_G h lo hi).1, fun q _ => (pN_G h lo hi).2 q, fun q => absurd hb q⟩
  · rw [if_neg hb]
    exact ⟨h, fun _ q => absurd q hb, fun _ => rfl⟩
theorem GL.up3 {l : Nat → Int} (h : GL l) {m : Nat} (hm : m < 8) : GL (upR l 3 m) := by
  obtain ⟨h1, h2, h3, h4, h5, h6, h7, h8, h9, h10, h11⟩ := h
  exact ⟨h1, h2, (by show 0 ≤ (m : Int) ∧ (m : Int) ≤ 7; omega), h4, h5, h6, h7, h8, h9, h10, fun j hj => by
    have e : upR l 3 m (14 + j) = l (14 + j) := if_neg (by omega)
    rw [e]; exact h11 j hj⟩
theorem GL.upo {l : Nat → Int} (h : GL l) {v : Int} (hv : 0 ≤ v ∧ v ≤ 100) : GL (upR l 4 v) := by
  obtain ⟨h1, h2, h3, h4, h5, h6, h7, h8, h9, h10, h11⟩ := h
  exact ⟨h1, h2, h3, hv, h5, h6, h7, h8, h9, h10, fun j hj => by
    have e : upR l 4 v (14 + j) = l (14 + j) := if_neg (by omega)
    rw [e]; exact h11 j hj⟩
theorem GL.up50 {l : Nat → Int} (h : GL l) : GL (upR l 5 0) := by
  obtain ⟨h1, h2, h3, h4, h5, h6, h7, h8, h9, h10, h11⟩ := h
  exact ⟨h1, h2, h3, h4, Or.inl rfl, h6, h7, h8, h9, h10, fun j hj => by
    have e : upR l 5 0 (14 + j) = l (14 + j) := if_neg (by omega)
    rw [e]; exact h11 j hj⟩
theorem pO_G {n : Nat} {t : Nat → Nat} : ∀ f a b c T l, TkG n t T → GL l → TkG n t (pO n t f a b c T l).2.1 ∧ ((pO n t f a b c T l).1 = true → GL (pO n t f a b c T l).2.2)
  | 0, _, _, _, _, _, hT, hl => ⟨hT, fun _ => hl⟩
  | f + 1, a, b, c, T, l, hT, hl => by
    have h1 := nx_G (t := t) hT.2.2.1
    have h2 := pN_G h1 0 100
    have h3 := nx_G (t := t) h1.2.2.1
    unfold pO
    split
    · split
      · split
        · next q => exact pO_G f _ _ _ _ _ h2.1 (hl.upo (h2.2 q))
        · exact ⟨h2.1, fun q => absurd (show false = true from q) (by decide)⟩
      · split
        · split
          · next q => exact pO_G f _ _ _ _ _ h3 (hl.up3 q)
          · exact ⟨h1, fun q => absurd (show false = true from q) (by decide)⟩
        · split
          · exact pO_G f _ _ _ _ _ h1 hl.up50
          · exact ⟨hT, fun q => absurd (show false = true from q) (by decide)⟩
    · exact ⟨hT, fun _ => hl⟩
theorem has_k : ∀ k, k < 14 → (¬ hasA k → loA k ≤ 0 ∧ 0 ≤ hiA k) ∧ (¬ hasB k → loB k 0 ≤ 0 ∧ 0 ≤ hiB k ∧ k ≠ 0) := by decide
theorem loB_no {k : Int} (h : k ≠ 0) (a : Int) : loB k a = loB k 0 := by
  unfold loB
  rw [if_neg h, if_neg h]
theorem pL_1 {n : Nat} {t : Nat → Nat} {T : zTk} {c : Nat} (hk : kwK t T < 14) (hc : c < 8) (ha : (pRA n t T).1 = true) (hb : (pRB n t T).1 = true) : pL n t T c = if (pRO n t T).1 = true ∧ kK (pRO n t T).2.1 = 4 then (true, nx n t (kE (pRO n t T).2.1), (pRO n t T).2.2) else (false, (pRO n t T).2.1, fun _ => 0) := by
  unfold pL
  rw [if_pos ⟨hk, hc⟩, if_pos ha, if_pos hb]
theorem pL_2 {n : Nat} {t : Nat → Nat} {T : zTk} {c : Nat} (hk : kwK t T < 14) (hc : c < 8) (ha : (pRA n t T).1 = true) (hb : ¬ (pRB n t T).1 = true) : pL n t T c = (false, (pRB n t T).2.1, fun _ => 0) := by
  unfold pL
  rw [if_pos ⟨hk, hc⟩, if_pos ha, if_neg hb]
theorem pL_3 {n : Nat} {t : Nat → Nat} {T : zTk} {c : Nat} (hk : kwK t T < 14) (hc : c < 8) (ha : ¬ (pRA n t T).1 = true) : pL n t T c = (false, (pRA n t T).2.1, fun _ => 0) := by
  unfold pL
  rw [if_pos ⟨hk, hc⟩, if_neg ha]
theorem pL_ok {n : Nat} {t : Nat → Nat} {T : zTk} (hT : TkG n t T) (hk : kwK t T < 14) (ha : (pRA n t T).1 = true) (hb : (pRB n t T).1 = true) : okP (kwK t T) (pRA n t T).2.2 (pRB n t T).2.2 := by
  obtain ⟨h1, h2⟩ := has_k _ hk
  have hA := pM_G (nx_G (t := t) hT.2.2.1) (hasA (kwK t T)) (loA (kwK t T)) (hiA (kwK t T))
  have hB := pM_G hA.1 (hasB (kwK t T)) (loB (kwK t T) (pRA n t T).2.2) (hiB (kwK t T))
  refine ⟨?_, ?_⟩
  · by_cases e : hasA (kwK t T)
    · exact hA.2.1 ha e
    · have := hA.2.2 e
      have h1 := h1 e
      unfold pRA
      omega
  · by_cases e : hasB (kwK t T)
    · exact hB.2.1 hb e
    · have h0 : (pRB n t T).2.2 = 0 := hB.2.2 e
      have h2 := h2 e
      rw [loB_no (by omega), h0]
      omega
theorem pL_G {n : Nat} {t : Nat → Nat} {T : zTk} (hT : TkG n t T) (c : Nat) : TkG n t (pL n t T c).2.1 ∧ ((pL n t T c).1 = true → GL (pL n t T c).2.2) := by
  have hA := pM_G (nx_G (t := t) hT.2.2.1) (hasA (kwK t T)) (loA (kwK t T)) (hiA (kwK t T))
  have hB := pM_G hA.1 (hasB (kwK t T)) (loB (kwK t T) (pRA n t T).2.2) (hiB (kwK t T))
  unfold pL
  split
  · next q =>
    split
    · next qa =>
      split
      · next qb =>
        have hl : GL (lNew (kwK t T) (pRA n t T).2.2 (pRB n t T).2.2) := GL.new (by omega) (pL_ok hT q.1 qa qb)
        have hO := pO_G 3 false false false (pRB n t T).2.1 _ hB.1 hl
        split
        · next qo => exact ⟨nx_G hO.1.2.2.1, fun _ => hO.2 qo.1⟩
        · exact ⟨hO.1, fun q => absurd (show false = true from q) (by decide)⟩
      · exact ⟨hB.1, fun q => absurd (show false = true from q) (by decide)⟩
    · exact ⟨hA.1, fun q => absurd (show false = true from q) (by decide)⟩
  · exact ⟨hT, fun q => absurd (show false = true from q) (by decide)⟩
