/-! text: plain functions -/
def rnE (n : Nat) (t : Nat → Nat) (lo hi : Nat) : Nat → Nat → Nat
  | 0, i => i
  | f + 1, i => if i < n ∧ lo ≤ t i ∧ t i ≤ hi then rnE n t lo hi f (i + 1) else i
/-- where a run of characters ends -/
def rn (n : Nat) (t : Nat → Nat) (lo hi i : Nat) : Nat := rnE n t lo hi (n - i) i
theorem rn_y {n : Nat} {t : Nat → Nat} {lo hi i : Nat} (h : i < n ∧ lo ≤ t i ∧ t i ≤ hi) : rn n t lo hi i = rn n t lo hi (i + 1) := by
  unfold rn
  obtain ⟨f, hf⟩ : ∃ f, n - i = f + 1 := ⟨n - i - 1, by omega⟩
  rw [hf, show n - (i + 1) = f by omega]
  show (if _ then _ else _) = _
  rw [if_pos h]
theorem rn_n {n : Nat} {t : Nat → Nat} {lo hi i : Nat} (h : ¬ (i < n ∧ lo ≤ t i ∧ t i ≤ hi)) : rn n t lo hi i = i := by
  unfold rn
  cases n - i with
  | zero => rfl
  | succ f =>
    show (if _ then _ else _) = _
    rw [if_neg h]
theorem rnE_p (n : Nat) (t : Nat → Nat) (lo hi : Nat) : ∀ f i, i + f = n ∨ f = 0 → i ≤ rnE n t lo hi f i ∧ (rnE n t lo hi f i ≤ n ∨ rnE n t lo hi f i = i) ∧ (∀ j, i ≤ j → j < rnE n t lo hi f i → lo ≤ t j ∧ t j ≤ hi)
  | 0, i, _ => ⟨Nat.le_refl _, Or.inr rfl, fun j h1 h2 => by have h2 : j < i := h2; omega⟩
  | f + 1, i, h => by
    unfold rnE
    by_cases hc : i < n ∧ lo ≤ t i ∧ t i ≤ hi
    · simp only [if_pos hc]
      obtain ⟨h1, h2, h3⟩ := rnE_p n t lo hi f (i + 1) (by omega)
      refine ⟨by omega, by omega, fun j hj1 hj2 => ?_⟩
      by_cases e : j = i
      · rw [e]; exact hc.2
      · exact h3 j (by omega) hj2
    · simp only [if_neg hc]
      exact ⟨Nat.le_refl _, Or.inr trivial, fun j h1 h2 => by omega⟩
theorem rn_p (n : Nat) (t : Nat → Nat) (lo hi i : Nat) : i ≤ rn n t lo hi i ∧ (rn n t lo hi i ≤ n ∨ rn n t lo hi i = i) ∧ (∀ j, i ≤ j → j < rn n t lo hi i → lo ≤ t j ∧ t j ≤ hi) := rnE_p n t lo hi (n - i) i (by omega)
/-- the number of some digits -/
def dv (t : Nat → Nat) (s : Nat) : Nat → Nat
  | 0 => 0
  | j + 1 => 10 * dv t s j + (t (s + j) - 48)
/-- a token: what it is, where it begins and ends, its number -/
abbrev zTk : Type := Nat × Nat × Nat × Nat
def kK (T : zTk) : Nat := T.1
def kS (T : zTk) : Nat := T.2.1
def kE (T : zTk) : Nat := T.2.2.1
def kV (T : zTk) : Nat := T.2.2.2
abbrev isNum (t : Nat → Nat) (s e : Nat) : Prop := e - s = 1 ∨ (e - s ≤ 3 ∧ t s ≠ 48)
def tkAt (n : Nat) (t : Nat → Nat) (s : Nat) : zTk :=
  if s < n then
    if 97 ≤ t s ∧ t s ≤ 122 then (1, s, rn n t 97 122 s, 0)
    else if 48 ≤ t s ∧ t s ≤ 57 then
      if isNum t s (rn n t 48 57 s) then (2, s, rn n t 48 57 s, dv t s (rn n t 48 57 s - s)) else (5, s, rn n t 48 57 s, 0)
    else ((if t s = 45 then 3 else if t s = 59 then 4 else 5), s, s + 1, 0)
  else (0, s, s, 0)
/-- the next token behind a place -/
def nx (n : Nat) (t : Nat → Nat) (e : Nat) : zTk := tkAt n t (rn n t 32 32 e)
theorem dv_le {t : Nat → Nat} {s : Nat} : ∀ j, j ≤ 3 → (∀ i, i < j → 48 ≤ t (s + i) ∧ t (s + i) ≤ 57) → dv t s j < 10 ^ j
  | 0, _, _ => by show 0 < 10 ^ 0; decide
  | j + 1, hj, h => by
    have ih := dv_le (t := t) (s := s) j (by omega) (fun i hi => h i (by omega))
    have := h j (by omega)
    show 10 * dv t s j + (t (s + j) - 48) < 10 ^ (j + 1)
    rw [Nat.pow_succ]
    omega
theorem dv_lt {t : Nat → Nat} {s m : Nat} (hm : m ≤ 3) (h : ∀ i, i < m → 48 ≤ t (s + i) ∧ t (s + i) ≤ 57) : dv t s m < 1000 := by
  have l := dv_le (t := t) (s := s) m hm h
  rcases (show m = 0 ∨ m = 1 ∨ m = 2 ∨ m = 3 by omega) with e | e | e | e <;> subst e <;> omega
/-- a good token of a text -/
def TkG (n : Nat) (t : Nat → Nat) (T : zTk) : Prop := kK T ≤ 5 ∧ kS T ≤ kE T ∧ kE T ≤ n ∧ (kK T = 1 → kS T < kE T ∧ ∀ j, kS T ≤ j → j < kE T → 97 ≤ t j ∧ t j ≤ 122) ∧ (kK T = 2 → kV T < 1000)
theorem tkAt_p {n : Nat} {t : Nat → Nat} {s : Nat} (hs : s ≤ n) : kS (tkAt n t s) = s ∧ TkG n t (tkAt n t s) := by
  obtain ⟨a1, a2, a3⟩ := rn_p n t 97 122 s
  obtain ⟨b1, b2, b3⟩ := rn_p n t 48 57 s
  unfold tkAt
  by_cases h : s < n
  · rw [if_pos h]
    by_cases h1 : 97 ≤ t s ∧ t s ≤ 122
    · rw [if_pos h1]
      have e : rn n t 97 122 s = rn n t 97 122 (s + 1) := rn_y ⟨h, h1⟩
      obtain ⟨c1, c2, c3⟩ := rn_p n t 97 122 (s + 1)
      refine ⟨rfl, (by decide : (1 : Nat) ≤ 5), a1, (show rn n t 97 122 s ≤ n by omega), fun _ => ⟨(show s < rn n t 97 122 s by omega), a3⟩, fun q => absurd (show (1 : Nat) = 2 from q) (by decide)⟩
    · rw [if_neg h1]
      by_cases h2 : 48 ≤ t s ∧ t s ≤ 57
      · rw [if_pos h2]
        by_cases h3 : isNum t s (rn n t 48 57 s)
        · rw [if_pos h3]
          refine ⟨rfl, (by decide : (2 : Nat) ≤ 5), b1, (show rn n t 48 57 s ≤ n by omega), fun q => absurd (show (2 : Nat) = 1 from q) (by decide), fun _ => ?_⟩
          show dv t s (rn n t 48 57 s - s) < 1000
          exact dv_lt (by rcases h3 with q | q <;> omega) (fun i hi => b3 (s + i) (by omega) (by omega))
        · rw [if_neg h3]
          exact ⟨rfl, (by decide : (5 : Nat) ≤ 5), b1, (show rn n t 48 57 s ≤ n by omega), fun q => absurd (show (5 : Nat) = 1 from q) (by decide), fun q => absurd (show (5 : Nat) = 2 from q) (by decide)⟩
      · rw [if_neg h2]
        have k : ∀ v : Nat, v = (if t s = 45 then 3 else if t s = 59 then 4 else 5) → v = 3 ∨ v = 4 ∨ v = 5 := fun v hv => by
          split at hv
          · exact Or.inl hv
          · split at hv
            · exact Or.inr (Or.inl hv)
            · exact Or.inr (Or.inr hv)
        have k := k _ rfl
        refine ⟨rfl, ?_, Nat.le_succ s, h, fun q => ?_, fun q => ?_⟩
        · show (if t s = 45 then 3 else if t s = 59 then 4 else 5) ≤ 5
          omega
        · have q : (if t s = 45 then 3 else if t s = 59 then 4 else 5) = 1 := q
          omega
        · have q : (if t s = 45 then 3 else if t s = 59 then 4 else 5) = 2 := q
          omega
  · rw [if_neg h]
    exact ⟨rfl, (by decide : (0 : Nat) ≤ 5), Nat.le_refl s, hs, fun q => absurd (show (0 : Nat) = 1 from q) (by decide), fun q => absurd (show (0 : Nat) = 2 from q) (by decide)⟩
theorem nx_G {n : Nat} {t : Nat → Nat} {e : Nat} (he : e ≤ n) : TkG n t (nx n t e) := (tkAt_p (by have := rn_p n t 32 32 e; omega)).2
/-- the words of the document -/
def nmW : Nat → List Nat
  | 0 => [108, 101, 118, 101, 108, 115]
  | 1 => [98, 114, 105, 103, 104, 116, 110, 101, 115, 115]
  | 2 => [99, 111, 110, 116, 114, 97, 115, 116]
  | 3 => [112, 111, 115, 116, 101, 114, 105, 122, 101]
  | 4 => [105, 110, 118, 101, 114, 116]
  | 5 => [116, 104, 114, 101, 115, 104, 111, 108, 100]
  | 6 => [98, 108, 117, 114]
  | 7 => [109, 101, 100, 105, 97, 110]
  | 8 => [100, 105, 108, 97, 116, 101]
  | 9 => [101, 114, 111, 100, 101]
  | 10 => [115, 104, 97, 114, 112, 101, 110]
  | 11 => [111, 102, 102, 115, 101, 116]
  | 12 => [102, 105, 108, 108]
  | 13 => [115, 116, 114, 101, 116, 99, 104]
  | 15 => [111, 112, 97, 99, 105, 116, 121]
  | 16 => [109, 111, 100, 101]
  | 17 => [111, 102, 102]
  | 18 => [110, 111, 114, 109, 97, 108]
  | 19 => [109, 117, 108, 116, 105, 112, 108, 121]
  | 20 => [115, 99, 114, 101, 101, 110]
  | 21 => [108, 105, 103, 104, 116, 101, 110]
  | 22 => [100, 97, 114, 107, 101, 110]
  | 23 => [100, 105, 102, 102, 101, 114, 101, 110, 99, 101]
  | 24 => [97, 100, 100]
  | 25 => [115, 117, 98, 116, 114, 97, 99, 116]
  | _ => []
/-- a token is a word -/
abbrev eqW (t : Nat → Nat) (T : zTk) (w : List Nat) : Prop := kK T = 1 ∧ w.length = kE T - kS T ∧ ∀ j, j < w.length → t (kS T + j) = w.getD j 0
def fnd (p : Nat → Bool) : Nat → Nat → Nat
  | 0, i => i
  | f + 1, i => if p i = true then i else fnd p f (i + 1)
def kwK (t : Nat → Nat) (T : zTk) : Nat := fnd (fun k => decide (eqW t T (nmW k))) 14 0
def kwM (t : Nat → Nat) (T : zTk) : Nat := fnd (fun k => decide (eqW t T (nmW (18 + k)))) 8 0
def kwO (t : Nat → Nat) (T : zTk) : Nat := fnd (fun k => decide (eqW t T (nmW (15 + k)))) 3 0
theorem fnd_le (p : Nat → Bool) : ∀ f i, i ≤ fnd p f i ∧ fnd p f i ≤ i + f
  | 0, i => ⟨Nat.le_refl _, Nat.le_refl _⟩
  | f + 1, i => by
    obtain ⟨h1, h2⟩ := fnd_le p f (i + 1)
    show i ≤ (if _ then _ else _) ∧ (if _ then _ else _) ≤ _
    split <;> omega
/-! text: the class -/
def RV (σ : zS) (x : Nat) (T : zTk) : Prop := zi σ 386 x = nI (kK T) ∧ zi σ 387 x = nI (kS T) ∧ zi σ 388 x = nI (kE T) ∧ (kK T = 2 → zi σ 389 x = nI (kV T))
/-- the reader of the class: its text, and that it may be read -/
def TR (σ : zS) (x n : Nat) (t : Nat → Nat) : Prop := TxS σ x ∧ TxV σ x n t ∧ n ≤ 160 ∧ ∀ i, i < n → 1 ≤ t i ∧ t i ≤ 255
theorem TR.fr {P : Nat → Prop} {σ τ : zS} {x n : Nat} {t : Nat → Nat} (h : TR σ x n t) (g : zFr P σ τ) (hi : zi τ 385 x = zi σ 385 x) (h1 : ¬ P (x + 1)) : TR τ x n t :=
  ⟨⟨by rw [g.kd]; exact h.1.1, by rw [g.r]; exact h.1.2.1, by rw [g.kd]; exact h.1.2.2.1, by rw [g.ln]; exact h.1.2.2.2⟩, ⟨hi.trans h.2.1.1, fun i hi => (g.ai h1 i).trans (h.2.1.2 i hi)⟩, h.2.2⟩
def chT (n : Nat) (t : Nat → Nat) (i : Nat) : Nat := if i < n then t i else 0
theorem s_chAt {σ : zS} {x n i : Nat} {t : Nat → Nat} (h : TR σ x n t) (hi : i < 1000) (d : Nat) : zEv (d + 1) mX8_characterAt [.inr (.inl (some x)), .inl (nI i)] σ = some (some (.inl (nI (chT n t i))), σ) := by
  obtain ⟨⟨a1, a2, a3, a4⟩, ⟨b1, b2⟩, h3, h4⟩ := h
  have c0 : vp_nar .char 0 = 0 := (ch_n (k := 0) (by decide)).2
  rw [vX8_characterAt]
  unfold fX8_characterAt chT
  simp only [zlt_e, onR_s, nul_s, nul_n, chk_e, bnI_s, bnR_s, bnV_s, zi_si, zi_sr, zi_sl, zi_sa, zi_sq, zr_si, zr_sr, zr_sl, zr_sa, zr_sq, zl_si, zl_sr, zl_sl, zl_sa, zl_sq, zai_si, zai_sr, zai_sl, zai_sa, zai_sq, zar_si, zar_sr, zar_sl, zar_sa, zar_sq, zkd_si, zkd_sr, zkd_sl, zkd_sa, zkd_sq, zln_si, zln_sr, zln_sl, zln_sa, zln_sq, znx_si, znx_sr, znx_sl, znx_sa, znx_sq, nL 0, n_lt (show i < 2 ^ 31 by omega) (show 0 < 2 ^ 31 by decide), Nat.not_lt_zero, if_false, a1, a2, a3, a4, b1, if_true, n_ofNat, n_lt (show i < 2 ^ 31 by omega) (show n < 2 ^ 31 by omega), n_lt (show i < 2 ^ 31 by omega) (show 160 < 2 ^ 31 by decide)]
  by_cases hin : i < n
  · simp only [hin, if_true, show i < 160 by omega, n_zin (show i < 2 ^ 31 by omega), n_tn (show i < 2 ^ 31 by omega), and_self, b2 i hin, (ch_n (k := t i) (by have := h4 i hin; omega)).2]
  · simp only [hin, if_false]
    exact if_pos c0
theorem s_endOfRun {σ : zS} {x n lo hi : Nat} {t : Nat → Nat} (h : TR σ x n t) (hlo : lo < 1000) (hhi : hi < 1000) (d : Nat) : ∀ (f i : Nat) (z : zV), i + f = n ∨ (n < i ∧ i < 999 ∧ f = 0) → LX8_endOfRun_3 (zEv (d + 1)) x z (nI lo) (nI hi) (nI i) σ = some (some (.inl (nI (rn n t lo hi i))), σ) := by
  have hn := h.2.2.1
  intro f
  induction f with
  | zero =>
    intro i z hq
    rw [uX8_endOfRun_3]
    simp only [zlt_e, onR_s, nul_s, nul_n, chk_e, bnI_s, bnR_s, bnV_s, zi_si, zi_sr, zi_sl, zi_sa, zi_sq, zr_si, zr_sr, zr_sl, zr_sa, zr_sq, zl_si, zl_sr, zl_sl, zl_sa, zl_sq, zai_si, zai_sr, zai_sl, zai_sa, zai_sq, zar_si, zar_sr, zar_sl, zar_sa, zar_sq, zkd_si, zkd_sr, zkd_sl, zkd_sa, zkd_sq, zln_si, zln_sr, zln_sl, zln_sa, zln_sq, znx_si, znx_sr, znx_sl, znx_sa, znx_sq, h.1.1, h.2.1.1, if_true, n_lt (show i < 2 ^ 31 by omega) (show n < 2 ^ 31 by omega), show ¬ i < n by omega, if_false]
    rw [rn_n (by omega)]
  | succ f ih =>
    intro i z hq
    have hin : i < n := by omega
    have hc : chT n t i = t i := if_pos hin
    have ht := h.2.2.2 i hin
    rw [uX8_endOfRun_3]
    simp only [zlt_e, onR_s, nul_s, nul_n, chk_e, bnI_s, bnR_s, bnV_s, zi_si, zi_sr, zi_sl, zi_sa, zi_sq, zr_si, zr_sr, zr_sl, zr_sa, zr_sq, zl_si, zl_sr, zl_sl, zl_sa, zl_sq, zai_si, zai_sr, zai_sl, zai_sa, zai_sq, zar_si, zar_sr, zar_sl, zar_sa, zar_sq, zkd_si, zkd_sr, zkd_sl, zkd_sa, zkd_sq, zln_si, zln_sr, zln_sl, zln_sa, zln_sq, znx_si, znx_sr, znx_sl, znx_sa, znx_sq, h.1.1, h.2.1.1, if_true, n_lt (show i < 2 ^ 31 by omega) (show n < 2 ^ 31 by omega), hin, s_chAt h (show i < 1000 by omega), hc, n_lt (show t i < 2 ^ 31 by omega) (show lo < 2 ^ 31 by omega), n_le (show t i < 2 ^ 31 by omega) (show hi < 2 ^ 31 by omega), nI_1, nI_add, ih (i + 1) z (by omega)]
    by_cases h1 : t i < lo
    · rw [if_pos h1, rn_n (by omega)]
    · rw [if_neg h1]
      by_cases h2 : t i ≤ hi
      · rw [if_pos h2, rn_y ⟨hin, by omega, h2⟩]
      · rw [if_neg h2, rn_n (by omega)]
theorem s_eor {σ : zS} {x n lo hi i : Nat} {t : Nat → Nat} (h : TR σ x n t) (hlo : lo < 1000) (hhi : hi < 1000) (hi' : i < 999) (d : Nat) : zEv (d + 2) mX8_endOfRun [.inr (.inl (some x)), .inl (nI i), .inl (nI lo), .inl (nI hi)] σ = some (some (.inl (nI (rn n t lo hi i))), σ) := by
  rw [vX8_endOfRun]
  unfold fX8_endOfRun
  rw [zlt_e]
  exact s_endOfRun h hlo hhi d (n - i) i _ (by omega)
theorem s_isNumber {σ : zS} {x n s e : Nat} {t : Nat → Nat} (h : TR σ x n t) (h1 : zi σ 387 x = nI s) (h2 : zi σ 388 x = nI e) (he : s ≤ e ∧ e ≤ n) (hs : s < n) (d : Nat) : zEv (d + 2) mX8_isNumber [.inr (.inl (some x))] σ = some (some (.inl (zb (isNum t s e))), σ) := by
  have hn := h.2.2.1
  have b1 : zB 1 = True := eq_true (Or.inr rfl)
  have b0 : zB 0 = True := eq_true (Or.inl rfl)
  have ht := h.2.2.2 s hs
  have hc : chT n t s = t s := if_pos hs
  have es : nI e - nI s = nI (e - s) := nI_sub he.1
  have q1 : (nI (e - s) = 1) ↔ e - s = 1 := n_eq (by omega) (by decide)
  have q3 : (nI (e - s) ≤ 3) ↔ e - s ≤ 3 := n_le (b := 3) (by omega) (by decide)
  have q48 : (nI (t s) = 48) ↔ t s = 48 := n_eq (by omega) (by decide)
  rw [vX8_isNumber]
  unfold fX8_isNumber
  simp only [zlt_e, onR_s, nul_s, nul_n, chk_e, bnI_s, bnR_s, bnV_s, zi_si, zi_sr, zi_sl, zi_sa, zi_sq, zr_si, zr_sr, zr_sl, zr_sa, zr_sq, zl_si, zl_sr, zl_sl, zl_sa, zl_sq, zai_si, zai_sr, zai_sl, zai_sa, zai_sq, zar_si, zar_sr, zar_sl, zar_sa, zar_sq, zkd_si, zkd_sr, zkd_sl, zkd_sa, zkd_sq, zln_si, zln_sr, zln_sl, zln_sa, zln_sq, znx_si, znx_sr, znx_sl, znx_sa, znx_sq, h.1.1, if_true, h1, h2, es, q1, q3, s_chAt h (show s < 1000 by omega), hc, q48, b1, b0]
  by_cases e1 : e - s = 1
  · rw [if_pos e1, zb_t (Or.inl e1)]
  · rw [if_neg e1]
    by_cases e2 : e - s ≤ 3
    · rw [if_pos e2]
      by_cases e3 : t s = 48
      · rw [if_pos e3, zb_f (by omega)]
      · rw [if_neg e3, zb_t (Or.inr ⟨e2, e3⟩)]
    · rw [if_neg e2, zb_f (by omega)]
theorem s_value {σ : zS} {x n s e : Nat} {t : Nat → Nat} (h : TR σ x n t) (h1 : zi σ 387 x = nI s) (h2 : zi σ 388 x = nI e) (he : s ≤ e ∧ e ≤ n) (hd : ∀ j, s ≤ j → j < e → 48 ≤ t j ∧ t j ≤ 57) (h3 : e - s ≤ 3) (d : Nat) : zEv (d + 2) mX8_valueOfDigits [.inr (.inl (some x))] σ = some (some (.inl (nI (dv t s (e - s)))), σ) := by
  have hn := h.2.2.1
  rw [vX8_valueOfDigits]
  unfold fX8_valueOfDigits
  simp only [zlt_e, onR_s, nul_s, nul_n, chk_e, bnI_s, bnR_s, bnV_s, zi_si, zi_sr, zi_sl, zi_sa, zi_sq, zr_si, zr_sr, zr_sl, zr_sa, zr_sq, zl_si, zl_sr, zl_sl, zl_sa, zl_sq, zai_si, zai_sr, zai_sl, zai_sa, zai_sq, zar_si, zar_sr, zar_sl, zar_sa, zar_sq, zkd_si, zkd_sr, zkd_sl, zkd_sa, zkd_sq, zln_si, zln_sr, zln_sl, zln_sa, zln_sq, znx_si, znx_sr, znx_sl, znx_sa, znx_sq, h.1.1, if_true, h1]
  obtain ⟨υ, k1, k2⟩ := loop_from (fun j υ => LX8_valueOfDigits_7 (zEv (d + 1)) x (nI (dv t s j)) (nI (s + j)) υ) (fun j υ => υ = σ) 0 (e - s) (fun υ => some (some (.inl (nI (dv t s (e - s)))), υ)) σ (Nat.zero_le _) rfl
    (fun j υ hj hI => by
      refine ⟨σ, ?_, rfl⟩
      subst hI
      have hc : chT n t (s + j) = t (s + j) := if_pos (by omega)
      have hdj := hd (s + j) (by omega) (by omega)
      show LX8_valueOfDigits_7 _ _ _ _ _ = LX8_valueOfDigits_7 _ _ _ _ _
      have l := dv_le (t := t) (s := s) j (by omega) (fun i hi => hd (s + i) (by omega) (by omega))
      have l2 : dv t s j < 1000 := Nat.lt_of_lt_of_le l (by
        rcases (show j = 0 ∨ j = 1 ∨ j = 2 by omega) with e | e | e <;> subst e <;> decide)
      have ev : (10 : Int32) * nI (dv t s j) + nI (t (s + j)) - 48 = nI (dv t s (j + 1)) := by
        show iI 10 * _ + _ - iI 48 = _
        rw [i_nI, i_nI, i_nI, i_mul, i_add, i_sub]
        congr 1
        show _ = ((10 * dv t s j + (t (s + j) - 48) : Nat) : Int)
        omega
      rw [uX8_valueOfDigits_7]
      simp only [zlt_e, onR_s, nul_s, nul_n, chk_e, bnI_s, bnR_s, bnV_s, zi_si, zi_sr, zi_sl, zi_sa, zi_sq, zr_si, zr_sr, zr_sl, zr_sa, zr_sq, zl_si, zl_sr, zl_sl, zl_sa, zl_sq, zai_si, zai_sr, zai_sl, zai_sa, zai_sq, zar_si, zar_sr, zar_sl, zar_sa, zar_sq, zkd_si, zkd_sr, zkd_sl, zkd_sa, zkd_sq, zln_si, zln_sr, zln_sl, zln_sa, zln_sq, znx_si, znx_sr, znx_sl, znx_sa, znx_sq, h.1.1, if_true, h2, n_lt (show s + j < 2 ^ 31 by omega) (show e < 2 ^ 31 by omega), show s + j < e by omega, s_chAt h (show s + j < 1000 by omega), hc, ev, nI_1, nI_add, Nat.add_assoc])
    (fun υ hI => by
      subst hI
      show LX8_valueOfDigits_7 _ _ _ _ _ = _
      rw [uX8_valueOfDigits_7]
      simp only [zlt_e, onR_s, nul_s, nul_n, chk_e, bnI_s, bnR_s, bnV_s, zi_si, zi_sr, zi_sl, zi_sa, zi_sq, zr_si, zr_sr, zr_sl, zr_sa, zr_sq, zl_si, zl_sr, zl_sl, zl_sa, zl_sq, zai_si, zai_sr, zai_sl, zai_sa, zai_sq, zar_si, zar_sr, zar_sl, zar_sa, zar_sq, zkd_si, zkd_sr, zkd_sl, zkd_sa, zkd_sq, zln_si, zln_sr, zln_sl, zln_sa, zln_sq, znx_si, znx_sr, znx_sl, znx_sa, znx_sq, h.1.1, if_true, h2, n_lt (show s + (e - s) < 2 ^ 31 by omega) (show e < 2 ^ 31 by omega), show ¬ s + (e - s) < e by omega, if_false])
  subst k2
  exact k1
