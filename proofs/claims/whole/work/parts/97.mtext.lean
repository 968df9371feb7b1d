/-! text: the reference -/
def RT (σ : zS) (m n : Nat) (t : Nat → Nat) : Prop := MS σ m ∧ zi σ 583 m = nI n ∧ (∀ i, i < n → zai σ (m + 5) i = nI (t i)) ∧ n ≤ 160 ∧ ∀ i, i < n → 1 ≤ t i ∧ t i ≤ 255
theorem RT.fr {P : Nat → Prop} {σ τ : zS} {m n : Nat} {t : Nat → Nat} (h : RT σ m n t) (g : zFr P σ τ) (h5 : ¬ P (m + 5)) (hf : zi τ 583 m = zi σ 583 m) : RT τ m n t := ⟨h.1.fr g, hf.trans h.2.1, fun i hi => (g.ai h5 i).trans (h.2.2.1 i hi), h.2.2.2⟩
/-- the reference's number of a word -/
def hN (t : Nat → Nat) (s : Nat) : Nat → Nat
  | 0 => 0
  | j + 1 => 27 * hN t s j + (t (s + j) - 96)
def hsh (t : Nat → Nat) (s j : Nat) : Int64 := if j ≤ 12 then Int64.ofInt (hN t s j : Nat) else -1
theorem hN_lt {t : Nat → Nat} {s : Nat} : ∀ j, (∀ i, i < j → 97 ≤ t (s + i) ∧ t (s + i) ≤ 122) → hN t s j < 27 ^ j
  | 0, _ => by show 0 < 27 ^ 0; decide
  | j + 1, h => by
    have ih := hN_lt (t := t) (s := s) j (fun i hi => h i (by omega))
    have := h j (by omega)
    show 27 * hN t s j + (t (s + j) - 96) < 27 ^ (j + 1)
    rw [Nat.pow_succ]
    omega
theorem hN_inj {t t' : Nat → Nat} {s s' : Nat} : ∀ j j', (∀ i, i < j → 97 ≤ t (s + i) ∧ t (s + i) ≤ 122) → (∀ i, i < j' → 97 ≤ t' (s' + i) ∧ t' (s' + i) ≤ 122) → hN t s j = hN t' s' j' → j = j' ∧ ∀ i, i < j → t (s + i) = t' (s' + i)
  | 0, 0, _, _, _ => ⟨rfl, fun i hi => absurd hi (Nat.not_lt_zero _)⟩
  | 0, j' + 1, _, h', e => by
    have := h' j' (by omega)
    have e : 0 = 27 * hN t' s' j' + (t' (s' + j') - 96) := e
    omega
  | j + 1, 0, h, _, e => by
    have := h j (by omega)
    have e : 27 * hN t s j + (t (s + j) - 96) = 0 := e
    omega
  | j + 1, j' + 1, h, h', e => by
    have a := h j (by omega)
    have b := h' j' (by omega)
    have e : 27 * hN t s j + (t (s + j) - 96) = 27 * hN t' s' j' + (t' (s' + j') - 96) := e
    obtain ⟨i1, i2⟩ := hN_inj j j' (fun i hi => h i (by omega)) (fun i hi => h' i (by omega)) (by omega)
    subst i1
    refine ⟨rfl, fun i hi => ?_⟩
    by_cases q : i = j
    · rw [q]; omega
    · exact i2 i (by omega)
/-- a word's number is the number of one of the words -/
theorem lc_0 (x : Int64) (y : Int64) : (lg_cmp x y = 0) ↔ x = y := by
  unfold lg_cmp
  by_cases h : x > y
  · rw [if_pos h]
    refine ⟨fun q => absurd q (by decide), fun q => ?_⟩
    rw [q] at h
    have h := Int64.lt_iff_toInt_lt.mp h
    omega
  · rw [if_neg h]
    by_cases e : x = y
    · rw [if_pos e]; exact ⟨fun _ => e, fun _ => rfl⟩
    · rw [if_neg e]; exact ⟨fun q => absurd q (by decide), fun q => absurd q e⟩
def wN (w : List Nat) : Nat := hN (fun i => w.getD i 0) 0 w.length
theorem wd_c : ∀ k, k < 26 → k ≠ 14 → (nmW k).length ≤ 12 ∧ ∀ i, i < (nmW k).length → 97 ≤ (nmW k).getD i 0 ∧ (nmW k).getD i 0 ≤ 122 := by decide
theorem lc_W {t : Nat → Nat} {T : zTk} {n k : Nat} (hT : TkG n t T) (h1 : kK T = 1) (hk : k < 26) (h14 : k ≠ 14) {c : Int64} (hc : c = Int64.ofInt (wN (nmW k) : Nat)) : (lg_cmp (hsh t (kS T) (kE T - kS T)) c = 0) ↔ eqW t T (nmW k) := by
  rw [lc_0, hc]
  obtain ⟨w1, w2⟩ := wd_c k hk h14
  obtain ⟨_, g2⟩ := hT.2.2.2.1 h1
  have w3 : wN (nmW k) < 27 ^ (nmW k).length := hN_lt _ (fun i hi => by rw [Nat.zero_add]; exact w2 i hi)
  have p12 : 27 ^ (nmW k).length ≤ 27 ^ 12 := Nat.pow_le_pow_right (by decide) w1
  have c12 : (27 : Nat) ^ 12 < 2 ^ 62 := by decide
  have c62 : (2 : Nat) ^ 62 = 4611686018427387904 := by decide
  unfold hsh
  by_cases hj : kE T - kS T ≤ 12
  · rw [if_pos hj]
    have l1 : hN t (kS T) (kE T - kS T) < 27 ^ (kE T - kS T) := hN_lt _ (fun i hi => g2 (kS T + i) (by omega) (by omega))
    have p2 : 27 ^ (kE T - kS T) ≤ 27 ^ 12 := Nat.pow_le_pow_right (by decide) hj
    rw [← Int64.toInt_inj, Int64.toInt_ofInt_of_le (by omega) (by omega), Int64.toInt_ofInt_of_le (by omega) (by omega)]
    constructor
    · intro e
      obtain ⟨i1, i2⟩ := hN_inj (t := t) (t' := fun i => (nmW k).getD i 0) (s' := 0) _ _ (fun i hi => g2 (kS T + i) (by omega) (by omega)) (fun i hi => by rw [Nat.zero_add]; exact w2 i hi) (Int.ofNat.inj e)
      refine ⟨h1, i1.symm, fun j hj' => ?_⟩
      have := i2 j (by omega)
      rw [Nat.zero_add] at this
      exact this
    · intro e
      have : ∀ j, j ≤ (nmW k).length → hN t (kS T) j = hN (fun i => (nmW k).getD i 0) 0 j := by
        intro j
        induction j with
        | zero => intro _; rfl
        | succ j ih =>
          intro hj'
          show 27 * _ + _ = 27 * hN _ 0 j + ((nmW k).getD (0 + j) 0 - 96)
          rw [ih (by omega), Nat.zero_add, e.2.2 j (by omega)]
      rw [← e.2.1, this _ (Nat.le_refl _)]
      rfl
  · rw [if_neg hj]
    constructor
    · intro e
      have := congrArg Int64.toInt e
      rw [Int64.toInt_ofInt_of_le (by omega) (by omega)] at this
      have m1 : (-1 : Int64).toInt = -1 := by decide
      rw [m1] at this
      omega
    · intro e
      have := e.2.1
      omega
def RW (σ : zS) (m : Nat) (t : Nat → Nat) (T : zTk) : Prop := zi σ 605 m = nI (kK T) ∧ zi σ 604 m = nI (kS T) ∧ zi σ 603 m = nI (kE T) ∧ (kK T = 2 → zi σ 607 m = nI (kV T)) ∧ (kK T = 1 → zl σ 606 m = hsh t (kS T) (kE T - kS T))
theorem RW.to {σ τ : zS} {m : Nat} {t : Nat → Nat} {T : zTk} (h : RW σ m t T) (g : ∀ f, 603 ≤ f → f ≤ 607 → zi τ f m = zi σ f m) (gl : zl τ 606 m = zl σ 606 m) : RW τ m t T :=
  ⟨(g 605 (by decide) (by decide)).trans h.1, (g 604 (by decide) (by decide)).trans h.2.1, (g 603 (by decide) (by decide)).trans h.2.2.1, fun q => (g 607 (by decide) (by decide)).trans (h.2.2.2.1 q), fun q => gl.trans (h.2.2.2.2 q)⟩
def heI (n : Nat) (t : Nat → Nat) (i : Nat) : Int := if i < n then t i else -1
theorem s_here {σ : zS} {m n i : Nat} {t : Nat → Nat} (h : RT σ m n t) (hi : zi σ 603 m = nI i) (hi' : i < 1000) (d : Nat) : zEv (d + 1) mX11_here [.inr (.inl (some m))] σ = some (some (.inl (iI (heI n t i))), σ) := by
  have hn := h.2.2.2.1
  rw [vX11_here]
  unfold fX11_here heI
  simp only [zlt_e, onR_s, nul_s, nul_n, chk_e, bnI_s, bnR_s, bnV_s, zi_si, zi_sr, zi_sl, zi_sa, zi_sq, zr_si, zr_sr, zr_sl, zr_sa, zr_sq, zl_si, zl_sr, zl_sl, zl_sa, zl_sq, zai_si, zai_sr, zai_sl, zai_sa, zai_sq, zar_si, zar_sr, zar_sl, zar_sa, zar_sq, zkd_si, zkd_sr, zkd_sl, zkd_sa, zkd_sq, zln_si, zln_sr, zln_sl, zln_sa, zln_sq, znx_si, znx_sr, znx_sl, znx_sa, znx_sq, h.1.k, if_true, hi, h.2.1, n_lt (show i < 2 ^ 31 by omega) (show n < 2 ^ 31 by omega), h.1.tx.1, h.1.tx.2.1, h.1.tx.2.2, n_zin (show i < 2 ^ 31 by omega), n_tn (show i < 2 ^ 31 by omega)]
  by_cases hin : i < n
  · simp only [if_pos hin, show i < 160 by omega, and_self, if_true, h.2.2.1 i hin, i_nI]
  · simp only [if_neg hin]
    rfl
theorem s_isFine {σ : zS} {m : Nat} (hM : MS σ m) (d : Nat) : zEv (d + 1) mX11_isFine [.inr (.inl (some m))] σ = some (some (.inl (zb (zi σ 608 m = -1009))), σ) := by
  rw [vX11_isFine]
  unfold fX11_isFine
  simp only [chk_e, hM.k, if_true]
  by_cases h : zi σ 608 m = -1009
  · rw [if_pos h, zb_t h]; rfl
  · rw [if_neg h, zb_f h]; rfl
theorem heI_in {n : Nat} {t : Nat → Nat} {i lo hi : Nat} (ht : ∀ i, i < n → 1 ≤ t i ∧ t i ≤ 255) (hlo : lo < 1000) (hhi : hi < 1000) : (iI lo ≤ iI (heI n t i) ∧ iI (heI n t i) ≤ iI hi) ↔ (i < n ∧ lo ≤ t i ∧ t i ≤ hi) := by
  unfold heI
  by_cases h : i < n
  · have := ht i h
    rw [if_pos h, i_le (by omega) (by omega) (by omega) (by omega), i_le (by omega) (by omega) (by omega) (by omega)]
    omega
  · rw [if_neg h, i_le (by omega) (by omega) (by omega) (by omega), i_le (by omega) (by omega) (by omega) (by omega)]
    omega
theorem hsh_s {t : Nat → Nat} {s j c : Nat} (hc : t (s + j) = c) (h : 97 ≤ c ∧ c ≤ 122) (hj : j ≤ 11) : (((27 : Int64) * hsh t s j + (iI (c : Int)).toInt64) - 97) + 1 = hsh t s (j + 1) := by
  have e1 : (iI (c : Int)).toInt64 = Int64.ofInt c := by
    rw [← Int64.ofInt_int32ToInt, i_toInt (by omega) (by omega)]
  have e2 : (27 : Int64) = Int64.ofInt 27 := rfl
  have e3 : (97 : Int64) = Int64.ofInt 97 := rfl
  have e4 : (1 : Int64) = Int64.ofInt 1 := rfl
  unfold hsh
  rw [if_pos (by omega), if_pos (by omega), e1, e2, e3, e4, ← Int64.ofInt_mul, ← Int64.ofInt_add, ← Int64.ofInt_sub, ← Int64.ofInt_add]
  congr 1
  show _ = ((27 * hN t s j + (t (s + j) - 96) : Nat) : Int)
  rw [hc]
  omega
theorem s_readWord {σ : zS} {m n s : Nat} {t : Nat → Nat} (h : RT σ m n t) (h3 : zi σ 603 m = nI s) (h4 : zi σ 604 m = nI s) (hs : s ≤ n) (d : Nat) : ∃ τ, zEv (d + 2) mX11_readWord [.inr (.inl (some m))] σ = some (none, τ) ∧ zFr (fun a => a = m) σ τ ∧ (∀ f, f ≠ 603 → f ≠ 605 → zi τ f m = zi σ f m) ∧ zi τ 605 m = 1 ∧ zi τ 603 m = nI (rn n t 97 122 s) ∧ zl τ 606 m = hsh t s (rn n t 97 122 s - s) := by
  have hn := h.2.2.2.1
  have lp : ∀ f j τ, s + j + f = n → rn n t 97 122 (s + j) = rn n t 97 122 s → zFr (fun a => a = m) σ τ → (∀ f, f ≠ 603 → f ≠ 605 → zi τ f m = zi σ f m) → zi τ 605 m = 1 → zi τ 603 m = nI (s + j) → zl τ 606 m = hsh t s j → ∃ υ, LX11_readWord_10 (zEv (d + 1)) m τ = some (none, υ) ∧ zFr (fun a => a = m) σ υ ∧ (∀ f, f ≠ 603 → f ≠ 605 → zi υ f m = zi σ f m) ∧ zi υ 605 m = 1 ∧ zi υ 603 m = nI (rn n t 97 122 s) ∧ zl υ 606 m = hsh t s (rn n t 97 122 s - s) := by
    intro f
    induction f with
    | zero =>
      intro j τ hj er g gi g5 g3 gl
      have h' : RT τ m n t := h.fr g (by omega) (gi _ (by omega) (by omega))
      have hin : ¬ (s + j < n ∧ 97 ≤ t (s + j) ∧ t (s + j) ≤ 122) := by omega
      have q := (heI_in (n := n) (t := t) (i := s + j) (lo := 97) (hi := 122) h.2.2.2.2 (by decide) (by decide))
      have q' : ((97 : Int32) ≤ iI (heI n t (s + j)) ∧ iI (heI n t (s + j)) ≤ 122) ↔ _ := q
      rw [uX11_readWord_10]
      simp only [chk_e, h'.1.k, if_true, s_here h' g3 (show s + j < 1000 by omega), bnI_s, s_in, zb_0, q', hin, not_false_eq_true]
      have e : rn n t 97 122 s = s + j := by rw [← er, rn_n hin]
      exact ⟨τ, rfl, g, gi, g5, by rw [e]; exact g3, by rw [e, show s + j - s = j by omega]; exact gl⟩
    | succ f ih =>
      intro j τ hj er g gi g5 g3 gl
      have h' : RT τ m n t := h.fr g (by omega) (gi _ (by omega) (by omega))
      have q := (heI_in (n := n) (t := t) (i := s + j) (lo := 97) (hi := 122) h.2.2.2.2 (by decide) (by decide))
      have q' : ((97 : Int32) ≤ iI (heI n t (s + j)) ∧ iI (heI n t (s + j)) ≤ 122) ↔ _ := q
      rw [uX11_readWord_10]
      simp only [chk_e, h'.1.k, if_true, s_here h' g3 (show s + j < 1000 by omega), bnI_s, s_in, zb_0, q']
      by_cases hin : s + j < n ∧ 97 ≤ t (s + j) ∧ t (s + j) ≤ 122
      · rw [if_neg (fun q => q hin)]
        have eh : heI n t (s + j) = t (s + j) := if_pos hin.1
        have es : nI (s + j) - nI s = nI j := by rw [nI_sub (by omega)]; congr 1; omega
        have e4 : zi τ 604 m = nI s := (gi _ (by omega) (by omega)).trans h4
        have q11 : (nI j ≤ 11) ↔ j ≤ 11 := n_le (by omega) (by decide)
        simp only [zlt_e, g3, e4, es, q11]
        have er' : rn n t 97 122 (s + (j + 1)) = rn n t 97 122 s := by rw [← er, rn_y hin]; rfl
        by_cases h11 : j ≤ 11
        · rw [if_pos h11]
          have eu := hsh_s (t := t) (s := s) (j := j) rfl hin.2 h11
          simp only [eh, gl, eu, zkd_sl, zi_sl, h'.1.k, if_true, g3, nI_1, nI_add]
          exact ih (j + 1) _ (by omega) er' ((g.tr (zFr.sl _ rfl)).tr (zFr.si _ rfl)) (fun f a b => by rw [zi_si, if_neg (by omega), zi_sl]; exact gi f a b) (by rw [zi_si, if_neg (by omega), zi_sl]; exact g5) (by rw [zi_si, if_pos ⟨rfl, rfl⟩]; rfl) (by rw [zl_si, zl_sl, if_pos ⟨rfl, rfl⟩])
        · rw [if_neg h11]
          simp only [zkd_sl, zi_sl, h'.1.k, if_true, g3, nI_1, nI_add]
          exact ih (j + 1) _ (by omega) er' ((g.tr (zFr.sl _ rfl)).tr (zFr.si _ rfl)) (fun f a b => by rw [zi_si, if_neg (by omega), zi_sl]; exact gi f a b) (by rw [zi_si, if_neg (by omega), zi_sl]; exact g5) (by rw [zi_si, if_pos ⟨rfl, rfl⟩]; rfl) (by rw [zl_si, zl_sl, if_pos ⟨rfl, rfl⟩]; unfold hsh; rw [if_neg (by omega)])
      · rw [if_pos hin]
        have e : rn n t 97 122 s = s + j := by rw [← er, rn_n hin]
        exact ⟨τ, rfl, g, gi, g5, by rw [e]; exact g3, by rw [e, show s + j - s = j by omega]; exact gl⟩
  rw [vX11_readWord]
  unfold fX11_readWord
  simp only [zlt_e, chk_e, h.1.k, if_true, zkd_si]
  exact lp (n - s) 0 _ (by omega) rfl ((zFr.si (P := fun a => a = m) σ rfl).tr (zFr.sl _ rfl)) (fun f a b => by rw [zi_sl, zi_si, if_neg (by omega)]) (by rw [zi_sl, zi_si, if_pos ⟨rfl, rfl⟩]) (by rw [zi_sl, zi_si, if_neg (by omega)]; exact h3) (by rw [zl_sl, if_pos ⟨rfl, rfl⟩]; rfl)
theorem s_readDigits {σ : zS} {m n s : Nat} {t : Nat → Nat} (h : RT σ m n t) (h3 : zi σ 603 m = nI s) (h4 : zi σ 604 m = nI s) (hs : s < n) (d : Nat) : ∃ τ, zEv (d + 2) mX11_readDigits [.inr (.inl (some m))] σ = some (none, τ) ∧ zFr (fun a => a = m) σ τ ∧ (∀ f, f ≠ 603 → f ≠ 605 → f ≠ 607 → zi τ f m = zi σ f m) ∧ zi τ 605 m = nI (if isNum t s (rn n t 48 57 s) then 2 else 5) ∧ zi τ 603 m = nI (rn n t 48 57 s) ∧ (isNum t s (rn n t 48 57 s) → zi τ 607 m = nI (dv t s (rn n t 48 57 s - s))) := by
  have hn := h.2.2.2.1
  have hp := rn_p n t 48 57 s
  have lp : ∀ f j τ, s + j + f = n → rn n t 48 57 (s + j) = rn n t 48 57 s → zFr (fun a => a = m) σ τ → (∀ f, f ≠ 603 → f ≠ 605 → f ≠ 607 → zi τ f m = zi σ f m) → zi τ 603 m = nI (s + j) → (j ≤ 3 → zi τ 607 m = nI (dv t s j)) → ∃ υ, LX11_readDigits_5 (zEv (d + 1)) m τ = some (none, υ) ∧ zFr (fun a => a = m) σ υ ∧ (∀ f, f ≠ 603 → f ≠ 605 → f ≠ 607 → zi υ f m = zi σ f m) ∧ zi υ 605 m = nI (if isNum t s (rn n t 48 57 s) then 2 else 5) ∧ zi υ 603 m = nI (rn n t 48 57 s) ∧ (isNum t s (rn n t 48 57 s) → zi υ 607 m = nI (dv t s (rn n t 48 57 s - s))) := by
    have fin : ∀ j τ, s + j ≤ n → ¬ (s + j < n ∧ 48 ≤ t (s + j) ∧ t (s + j) ≤ 57) → rn n t 48 57 (s + j) = rn n t 48 57 s → zFr (fun a => a = m) σ τ → (∀ f, f ≠ 603 → f ≠ 605 → f ≠ 607 → zi τ f m = zi σ f m) → zi τ 603 m = nI (s + j) → (j ≤ 3 → zi τ 607 m = nI (dv t s j)) → ∃ υ, LX11_readDigits_5 (zEv (d + 1)) m τ = some (none, υ) ∧ zFr (fun a => a = m) σ υ ∧ (∀ f, f ≠ 603 → f ≠ 605 → f ≠ 607 → zi υ f m = zi σ f m) ∧ zi υ 605 m = nI (if isNum t s (rn n t 48 57 s) then 2 else 5) ∧ zi υ 603 m = nI (rn n t 48 57 s) ∧ (isNum t s (rn n t 48 57 s) → zi υ 607 m = nI (dv t s (rn n t 48 57 s - s))) := by
      intro j τ hj hin er g gi g3 gv
      have h' : RT τ m n t := h.fr g (by omega) (gi _ (by omega) (by omega) (by omega))
      have q := (heI_in (n := n) (t := t) (i := s + j) (lo := 48) (hi := 57) h.2.2.2.2 (by decide) (by decide))
      have q' : ((48 : Int32) ≤ iI (heI n t (s + j)) ∧ iI (heI n t (s + j)) ≤ 57) ↔ _ := q
      have e : rn n t 48 57 s = s + j := by rw [← er, rn_n hin]
      have es : nI (s + j) - nI s = nI j := by rw [nI_sub (by omega)]; congr 1; omega
      have e4 : zi τ 604 m = nI s := (gi _ (by omega) (by omega) (by omega)).trans h4
      have q1 : (nI j = 1) ↔ j = 1 := n_eq (by omega) (by decide)
      have q4 : (nI j < 4) ↔ j < 4 := n_lt (by omega) (by decide)
      have ht := h.2.2.2.2 s hs
      have q48 : (nI (t s) = 48) ↔ t s = 48 := n_eq (by omega) (by decide)
      have ej : s + j - s = j := by omega
      have key : ∀ v : Nat, v = (if isNum t s (s + j) then 2 else 5) → ∃ υ, (some (none, zsi τ 605 m (nI v)) : zO) = some (none, υ) ∧ zFr (fun a => a = m) σ υ ∧ (∀ f, f ≠ 603 → f ≠ 605 → f ≠ 607 → zi υ f m = zi σ f m) ∧ zi υ 605 m = nI (if isNum t s (s + j) then 2 else 5) ∧ zi υ 603 m = nI (s + j) ∧ (isNum t s (s + j) → zi υ 607 m = nI (dv t s (s + j - s))) := fun v hv =>
        ⟨_, rfl, g.tr (zFr.si _ rfl), fun f a b c => by rw [zi_si, if_neg (by omega)]; exact gi f a b c, by rw [zi_si, if_pos ⟨rfl, rfl⟩, hv], by rw [zi_si, if_neg (by omega)]; exact g3, fun qn => by rw [zi_si, if_neg (by omega), ej]; exact gv (by rcases qn with a | a <;> omega)⟩
      rw [e, uX11_readDigits_5]
      simp only [chk_e, h'.1.k, if_true, s_here h' g3 (show s + j < 1000 by omega), bnI_s, s_in, zb_0, q', hin, not_false_eq_true, zlt_e, g3, e4, es, q1, q4, h'.1.tx.1, h'.1.tx.2.1, h'.1.tx.2.2, onR_s, n_zin (show s < 2 ^ 31 by omega), n_tn (show s < 2 ^ 31 by omega), show s < 160 by omega, and_self, h'.2.2.1 s hs, q48]
      by_cases a1 : j = 1
      · rw [if_pos a1]
        exact key 2 (by rw [if_pos (Or.inl (by omega))])
      · rw [if_neg a1]
        by_cases a2 : j < 4
        · rw [if_pos a2]
          by_cases a3 : t s = 48
          · rw [if_pos a3]
            exact key 5 (by rw [if_neg (by omega)])
          · rw [if_neg a3]
            exact key 2 (by rw [if_pos (Or.inr ⟨by omega, a3⟩)])
        · rw [if_neg a2]
          exact key 5 (by rw [if_neg (by omega)])
    intro f
    induction f with
    | zero =>
      intro j τ hj er g gi g3 gv
      exact fin j τ (by omega) (by omega) er g gi g3 gv
    | succ f ih =>
      intro j τ hj er g gi g3 gv
      by_cases hin : s + j < n ∧ 48 ≤ t (s + j) ∧ t (s + j) ≤ 57
      · have h' : RT τ m n t := h.fr g (by omega) (gi _ (by omega) (by omega) (by omega))
        have q := (heI_in (n := n) (t := t) (i := s + j) (lo := 48) (hi := 57) h.2.2.2.2 (by decide) (by decide))
        have q' : ((48 : Int32) ≤ iI (heI n t (s + j)) ∧ iI (heI n t (s + j)) ≤ 57) ↔ _ := q
        have eh : heI n t (s + j) = t (s + j) := if_pos hin.1
        have er' : rn n t 48 57 (s + (j + 1)) = rn n t 48 57 s := by rw [← er, rn_y hin]; rfl
        have hd : ∀ i, i < j → 48 ≤ t (s + i) ∧ t (s + i) ≤ 57 := fun i hi => hp.2.2 (s + i) (by omega) (by
          have := (rn_p n t 48 57 (s + j)).1
          omega)
        rw [uX11_readDigits_5]
        simp only [chk_e, h'.1.k, if_true, s_here h' g3 (show s + j < 1000 by omega), bnI_s, s_in, zb_0, q', hin, and_self, not_true_eq_false, if_false, zlt_e, zkd_si]
        have stay : ∀ v : Int32, (j + 1 ≤ 3 → v = nI (dv t s (j + 1))) → ∃ υ, LX11_readDigits_5 (zEv (d + 1)) m (zsi (zsi τ 607 m v) 603 m (nI (s + j) + 1)) = some (none, υ) ∧ zFr (fun a => a = m) σ υ ∧ (∀ f, f ≠ 603 → f ≠ 605 → f ≠ 607 → zi υ f m = zi σ f m) ∧ zi υ 605 m = nI (if isNum t s (rn n t 48 57 s) then 2 else 5) ∧ zi υ 603 m = nI (rn n t 48 57 s) ∧ (isNum t s (rn n t 48 57 s) → zi υ 607 m = nI (dv t s (rn n t 48 57 s - s))) := fun v hv => by
          have e1 : nI (s + j) + 1 = nI (s + (j + 1)) := nI_add (s + j) 1
          rw [e1]
          exact ih (j + 1) _ (by omega) er' ((g.tr (zFr.si _ rfl)).tr (zFr.si _ rfl)) (fun f a b c => by rw [zi_si, if_neg (by omega), zi_si, if_neg (by omega)]; exact gi f a b c) (by rw [zi_si, if_pos ⟨rfl, rfl⟩]) (fun h3 => by rw [zi_si, if_neg (by omega), zi_si, if_pos ⟨rfl, rfl⟩]; exact hv h3)
        have e603 : ∀ v : Int32, zi (zsi τ 607 m v) 603 m = nI (s + j) := fun v => by rw [zi_si, if_neg (by omega)]; exact g3
        have e604 : ∀ v : Int32, zi τ 603 m = nI (s + j) := fun _ => g3
        simp only [e603]
        by_cases c9 : zi τ 607 m ≤ 999
        · rw [if_pos c9]
          refine stay _ (fun h3 => ?_)
          have l3 := dv_lt (t := t) (s := s) (m := j + 1) h3 (fun i hi => by
            by_cases ei : i = j
            · rw [ei]; exact hin.2
            · exact hd i (by omega))
          rw [gv (by omega), eh]
          show iI 10 * _ + _ - iI 48 = _
          rw [i_nI, i_nI, i_mul, i_add, i_sub]
          congr 1
          show _ = ((10 * dv t s j + (t (s + j) - 48) : Nat) : Int)
          omega
        · rw [if_neg c9]
          refine stay _ (fun h3 => absurd ?_ c9)
          rw [gv (by omega)]
          have l3 := dv_lt (t := t) (s := s) (m := j) (by omega) hd
          exact (n_le (b := 999) (by omega) (by decide)).mpr (by omega)
      · exact fin j τ (by omega) hin er g gi g3 gv
  rw [vX11_readDigits]
  unfold fX11_readDigits
  simp only [zlt_e, chk_e, h.1.k, if_true]
  exact lp (n - s) 0 _ (by omega) rfl (zFr.si _ rfl) (fun f a b c => by rw [zi_si, if_neg (by omega)]) (by rw [zi_si, if_neg (by omega)]; exact h3) (fun _ => by rw [zi_si, if_pos ⟨rfl, rfl⟩]; rfl)
