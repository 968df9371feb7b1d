/-! text: the reference -/
def RT (σ : zS) (m n : Nat) (t : Nat → Nat) : Prop := MS σ m ∧ zi σ 583 m = nI n ∧ (∀ i, i < n → zai σ (m + 5) i = nI (t i)) ∧ n ≤ 160 ∧ ∀ i, i < n → 1 ≤ t i ∧ t i ≤ 255
theorem RT.fr {P : Nat → Prop} {σ τ : zS} {m n : Nat} {t : Nat → Nat} (h : RT σ m n t) (g : zFr P σ τ) (h5 : ¬ P (m + 5)) (hf : zi τ 583 m = zi σ 583 m) : RT τ m n t := ⟨h.1.fr g, hf.trans h.2.1, fun i hi => (g.ai h5 i).trans (h.2.2.1 i hi), h.2.2.2⟩
/-- the reference's number of a word -/
def hN (t : Nat → Nat) (s : Nat) : Nat → Nat
  | 0 => 0
  | j + 1 => 27 * hN t s j + (t (s + j) - 96)
def hsh (t : Nat → Nat) (s j : Nat) : Int64 := if j ≤ 12 then Int64.ofInt (hN t s j : Nat) else -1
theorem hN_lt {t : Nat → Nat} {s : Nat} : ∀ j, (∀ i, i < j → 97 ≤ t (s + i) ∧ t (s + i) ≤ 122) → hN t s j < 27 ^ j
  | 0, _ => by show 0 < 27 ^ 0; decide
  | j + 1, h => by
    have ih := hN_lt (t := t) (s := s) j (fun i hi => h i (by omega))
    have := h j (by omega)
    show 27 * hN t s j + (t (s + j) - 96) < 27 ^ (j + 1)
    rw [Nat.pow_succ]
    omega
theorem hN_inj {t t' : Nat → Nat} {s s' : Nat} : ∀ j j', (∀ i, i < j → 97 ≤ t (s + i) ∧ t (s + i) ≤ 122) → (∀ i, i < j' → 97 ≤ t' (s' + i) ∧ t' (s' + i) ≤ 122) → hN t s j = hN t' s' j' → j = j' ∧ ∀ i, i < j → t (s + i) = t' (s' + i)
  | 0, 0, _, _, _ => ⟨rfl, fun i hi => absurd hi (Nat.not_lt_zero _)⟩
  | 0, j' + 1, _, h', e => by
    have := h' j' (by omega)
    have e : 0 = 27 * hN t' s' j' + (t' (s' + j') - 96) := e
    omega
  | j + 1, 0, h, _, e => by
    have := h j (by omega)
    have e : 27 * hN t s j + (t (s + j) - 96) = 0 := e
    omega
  | j + 1, j' + 1, h, h', e => by
    have a := h j (by omega)
    have b := h' j' (by omega)
    have e : 27 * hN t s j + (t (s + j) - 96) = 27 * hN t' s' j' + (t' (s' + j') - 96) := e
    obtain ⟨i1, i2⟩ := hN_inj j j' (fun i hi => h i (by omega)) (fun i hi => h' i (by omega)) (by omega)
    subst i1
    refine ⟨rfl, fun i hi => ?_⟩
    by_cases q : i = j
    · rw [q]; omega
    · exact i2 i (by omega)
/-- a word's number is the number of one of the words -/
theorem lc_0 (x : Int64) (y : Int64) : (lg_cmp x y = 0) ↔ x = y := by
  unfold lg_cmp
  by_cases h : x > y
  · rw [if_pos h]
    refine ⟨fun q => absurd q (by decide), fun q => ?_⟩
    rw [q] at h
    have h := Int64.lt_iff_toInt_lt.mp h
    omega
  · rw [if_neg h]
    by_cases e : x = y
    · rw [if_pos e]; exact ⟨fun _ => e, fun _ => rfl⟩
    · rw [if_neg e]; exact ⟨fun q => absurd q (by decide), fun q => absurd q e⟩
def wN (w : List Nat) : Nat := hN (fun i => w.getD i 0) 0 w.length
theorem wd_c : ∀ k, k < 26 → k ≠ 14 → (nmW k).length ≤ 12 ∧ ∀ i, i < (nmW k).length → 97 ≤ (nmW k).getD i 0 ∧ (nmW k).getD i 0 ≤ 122 := by decide
theorem lc_W {t : Nat → Nat} {T : zTk} {n k : Nat} (hT : TkG n t T) (h1 : kK T = 1) (hk : k < 26) (h14 : k ≠ 14) {c : Int64} (hc : c = Int64.ofInt (wN (nmW k) : Nat)) : (lg_cmp (hsh t (kS T) (kE T - kS T)) c = 0) ↔ eqW t T (nmW k) := by
  rw [lc_0, hc]
  obtain ⟨w1, w2⟩ := wd_c k hk h14
  obtain ⟨_, g2⟩ := hT.2.2.2.1 h1
  have w3 : wN (nmW k) < 27 ^ (nmW k).length := hN_lt _ (fun i hi => by rw [Nat.zero_add]; exact w2 i hi)
  have p12 : 27 ^ (nmW k).length ≤ 27 ^ 12 := Nat.pow_le_pow_right (by decide) w1
  have c12 : (27 : Nat) ^ 12 < 2 ^ 62 := by decide
  have c62 : (2 : Nat) ^ 62 = 4611686018427387904 := by decide
  unfold hsh
  by_cases hj : kE T - kS T ≤ 12
  · rw [if_pos hj]
    have l1 : hN t (kS T) (kE T - kS T) < 27 ^ (kE T - kS T) := hN_lt _ (fun i hi => g2 (kS T + i) (by omega) (by omega))
    have p2 : 27 ^ (kE T - kS T) ≤ 27 ^ 12 := Nat.pow_le_pow_right (by decide) hj
    rw [← Int64.toInt_inj, Int64.toInt_ofInt_of_le (by omega) (by omega), Int64.toInt_ofInt_of_le (by omega) (by omega)]
    constructor
    · intro e
      obtain ⟨i1, i2⟩ := hN_inj (t := t) (t' := fun i => (nmW k).getD i 0) (s' := 0) _ _ (fun i hi => g2 (kS T + i) (by omega) (by omega)) (fun i hi => by rw [Nat.zero_add]; exact w2 i hi) (Int.ofNat.inj e)
      refine ⟨h1, i1.symm, fun j hj' => ?_⟩
      have := i2 j (by omega)
      rw [Nat.zero_add] at this
      exact this
    · intro e
      have : ∀ j, j ≤ (nmW k).length → hN t (kS T) j = hN (fun i => (nmW k).getD i 0) 0 j := by
        intro j
        induction j with
        | zero => intro _; rfl
        | succ j ih =>
          intro hj'
          show 27 * _ + _ = 27 * hN _ 0 j + ((nmW k).getD (0 + j) 0 - 96)
          rw [ih (by omega), Nat.zero_add, e.2.2 j (by omega)]
      rw [← e.2.1, this _ (Nat.le_refl _)]
      rfl
  · rw [if_neg hj]
    constructor
    · intro e
      have := congrArg Int64.toInt e
      rw [Int64.toInt_ofInt_of_le (by omega) (by omega)] at this
      have m1 : (-1 : Int64).toInt = -1 := by decide
      rw [m1] at this
      omega
    · intro e
      have := e.2.1
      omega
def RW (σ : zS) (m : Nat) (t : Nat → Nat) (T : zTk) : Prop := zi σ 605 m = nI (kK T) ∧ zi σ 604 m = nI (kS T) ∧ zi σ 603 m = nI (kE T) ∧ (kK T = 2 → zi σ 607 m = nI (kV T)) ∧ (kK T = 1 → zl σ 606 m = hsh t (kS T) (kE T - kS T))
theorem RW.to {σ τ : zS} {m : Nat} {t : Nat → Nat} {T : zTk} (h : RW σ m t T) (g : ∀ f, 603 ≤ f → f ≤ 607 → zi τ f m = zi σ f m) (gl : zl τ 606 m = zl σ 606 m) : RW τ m t T :=
  ⟨(g 605 (by decide) (by decide)).trans h.1, (g 604 (by decide) (by decide)).trans h.2.1, (g 603 (by decide) (by decide)).trans h.2.2.1, fun q => (g 607 (by decide) (by decide)).trans (h.2.2.2.1 q), fun q => gl.trans (h.2.2.2.2 q)⟩
def heI (n : Nat) (t : Nat → Nat) (i : Nat) : Int := if i < n then t i else -1
theorem s_here {σ : zS} {m n i : Nat} {t : Nat → Nat} (h : RT σ m n t) (hi : zi σ 603 m = nI i) (hi' : i < 1000) (d : Nat) : zEv (d + 1) mX11_here [.inr (.inl (some m))] σ = some (some (.inl (iI (heI n t i))), σ) := by
  have hn := h.2.2.2.1
  rw [vX11_here]
  unfold fX11_here heI
  simp only [zlt_e, onR_s, nul_s, nul_n, chk_e, bnI_s, bnR_s, bnV_s, zi_si, zi_sr, zi_sl, zi_sa, zi_sq, zr_si, zr_sr, zr_sl, zr_sa, zr_sq, zl_si, zl_sr, zl_sl, zl_sa, zl_sq, zai_si, zai_sr, zai_sl, zai_sa, zai_sq, zar_si, zar_sr, zar_sl, zar_sa, zar_sq, zkd_si, zkd_sr, zkd_sl, zkd_sa, zkd_sq, zln_si, zln_sr, zln_sl, zln_sa, zln_sq, znx_si, znx_sr, znx_sl, znx_sa, znx_sq, h.1.k, if_true, hi, h.2.1, n_lt (show i < 2 ^ 31 by omega) (show n < 2 ^ 31 by omega), h.1.tx.1, h.1.tx.2.1, h.1.tx.2.2, n_zin (show i < 2 ^ 31 by omega), n_tn (show i < 2 ^ 31 by omega)]
  by_cases hin : i < n
  · simp only [if_pos hin, show i < 160 by omega, and_self, if_true, h.2.2.1 i hin, i_nI]
  · simp only [if_neg hin]
    rfl
theorem s_isFine {σ : zS} {m : Nat} (hM : MS σ m) (d : Nat) : zEv (d + 1) mX11_isFine [.inr (.inl (some m))] σ = some (some (.inl (zb (zi σ 608 m = -1009))), σ) := by
  rw [vX11_isFine]
  unfold fX11_isFine
  simp only [chk_e, hM.k, if_true]
  by_cases h : zi σ 608 m = -1009
  · rw [if_pos h, zb_t h]; rfl
  · rw [if_neg h, zb_f h]; rfl
theorem heI_in {n : Nat} {t : Nat → Nat} {i lo hi : Nat} (ht : ∀ i, i < n → 1 ≤ t i ∧ t i ≤ 255) (hlo : lo < 1000) (hhi : hi < 1000) : (iI lo ≤ iI (heI n t i) ∧ iI (heI n t i) ≤ iI hi) ↔ (i < n ∧ lo ≤ t i ∧ t i ≤ hi) := by
  unfold heI
  by_cases h : i < n
  · have := ht i h
    rw [if_pos h, i_le (by omega) (by omega) (by omega) (by omega), i_le (by omega) (by omega) (by omega) (by omega)]
    omega
  · rw [if_neg h, i_le (by omega) (by omega) (by omega) (by omega), i_le (by omega) (by omega) (by omega) (by omega)]
    omega
theorem hsh_s {t : Nat → Nat} {s j c : Nat} (hc : t (s + j) = c) (h : 97 ≤ c ∧ c ≤ 122) (hj : j ≤ 11) : (((27 : Int64) * hsh t s j + (iI (c : Int)).toInt64) - 97) + 1 = hsh t s (j + 1) := by
  have e1 : (iI (c : Int)).toInt64 = Int64.ofInt c := by
    rw [← Int64.ofInt_int32ToInt, i_toInt (by omega) (by omega)]
  have e2 : (27 : Int64) = Int64.ofInt 27 := rfl
  have e3 : (97 : Int64) = Int64.ofInt 97 := rfl
  have e4 : (1 : Int64) = Int64.ofInt 1 := rfl
  unfold hsh
  rw [if_pos (by omega), if_pos (by omega), e1, e2, e3, e4, ← Int64.ofInt_mul, ← Int64.ofInt_add, ← Int64.ofInt_sub, ← Int64.ofInt_add]
  congr 1
  show _ = ((27 * hN t s j + (t (s + j) - 96) : Nat) : Int)
  rw [hc]
  omega
theorem s_readWord {σ : zS} {m n s : Nat} {t : Nat → Nat} (h : RT σ m n t) (h3 : zi σ 603 m = nI s) (h4 : zi σ 604 m = nI s) (hs : s ≤ n) (d : Nat) : ∃ τ, zEv (d + 2) mX11_readWord [.inr (.inl (some m))] σ = some (none, τ) ∧ zFr (fun a => a = m) σ τ ∧ (∀ f, f ≠ 603 → f ≠ 605 → zi τ f m = zi σ f m) ∧ zi τ 605 m = 1 ∧ zi τ 603 m = nI (rn n t 97 122 s) ∧ zl τ 606 m = hsh t s (rn n t 97 122 s - s) := by
  have hn := h.2.2.2.1
  have lp : ∀ f j τ, s + j + f = n → rn n t 97 122 (s + j) = rn n t 97 122 s → zFr (fun a => a = m) σ τ → (∀ f, f ≠ 603 → f ≠ 605 → zi τ f m = zi σ f m) → zi τ 605 m = 1 → zi τ 603 m = nI (s + j) → zl τ 606 m = hsh t s j → ∃ υ, LX11_readWord_10 (zEv (d + 1)) m τ = some (none, υ) ∧ zFr (fun a => a = m) σ υ ∧ (∀ f, f ≠ 603 → f ≠ 605 → zi υ f m = zi σ f m) ∧ zi υ 605 m = 1 ∧ zi υ 603 m = nI (rn n t 97 122 s) ∧ zl υ 606 m = hsh t s (rn n t 97 122 s - s) := by
    intro f
    induction f with
    | zero =>
      intro j τ hj er g gi g5 g3 gl
      have h' : RT τ m n t := h.fr g (by omega) (gi _ (by omega) (by omega))
      have hin : ¬ (s + j < n ∧ 97 ≤ t (s + j) ∧ t (s + j) ≤ 122) := by omega
      have q := (heI_in (n := n) (t := t) (i := s + j) (lo := 97) (hi := 122) h.2.2.2.2 (by decide) (by decide))
      have q' : ((97 : Int32) ≤ iI (heI n t (s + j)) ∧ iI (heI n t (s + j)) ≤ 122) ↔ _ := q
      rw [uX11_readWord_10]
      simp only [chk_e, h'.1.k, if_true, s_here h' g3 (show s + j < 1000 by omega), bnI_s, s_in, zb_0, q', hin, not_false_eq_true]
      have e : rn n t 97 122 s = s + j := by rw [← er, rn_n hin]
      exact ⟨τ, rfl, g, gi, g5, by rw [e]; exact g3, by rw [e, show s + j - s = j by omega]; exact gl⟩
    | succ f ih =>
      intro j τ hj er g gi g5 g3 gl
      have h' : RT τ m n t := h.fr g (by omega) (gi _ (by omega) (by omega))
      have q := (heI_in (n := n) (t := t) (i := s + j) (lo := 97) (hi := 122) h.2.2.2.2 (by decide) (by decide))
      have q' : ((97 : Int32) ≤ iI (heI n t (s + j)) ∧ iI (heI n t (s + j)) ≤ 122) ↔ _ := q
      rw [uX11_readWord_10]
      simp only [chk_e, h'.1.k, if_true, s_here h' g3 (show s + j < 1000 by omega), bnI_s, s_in, zb_0, q']
      by_cases hin : s + j < n ∧ 97 ≤ t (s + j) ∧ t (s + j) ≤ 122
      · rw [if_neg (fun q => q hin)]
        have eh : heI n t (s + j) = t (s + j) := if_pos hin.1
        have es : nI (s + j) - nI s = nI j := by rw [nI_sub (by omega)]; congr 1; omega
        have e4 : zi τ 604 m = nI s := (gi _ (by omega) (by omega)).trans h4
        have q11 : (nI j ≤ 11) ↔ j ≤ 11 := n_le (by omega) (by decide)
        simp only [zlt_e, g3, e4, es, q11]
        have er' : rn n t 97 122 (s + (j + 1)) = rn n t 97 122 s := by rw [← er, rn_y hin]; rfl
        by_cases h11 : j ≤ 11
        · rw [if_pos h11]
          have eu := hsh_s (t := t) (s := s) (j := j) rfl hin.2 h11
          simp only [eh, gl, eu, zkd_sl, zi_sl, h'.1.k, if_true, g3, nI_1, nI_add]
          exact ih (j + 1) _ (by omega) er' ((g.tr (zFr.sl _ rfl)).tr (zFr.si _ rfl)) (fun f a b => by rw [zi_si, if_neg (by omega), zi_sl]; exact gi f a b) (by rw [zi_si, if_neg (by omega), zi_sl]; exact g5) (by rw [zi_si, if_pos ⟨rfl, rfl⟩]; rfl) (by rw [zl_si, zl_sl, if_pos ⟨rfl, rfl⟩])
        · rw [if_neg h11]
          simp only [zkd_sl, zi_sl, h'.1.k, if_true, g3, nI_1, nI_add]
          exact ih (j + 1) _ (by omega) er' ((g.tr (zFr.sl _ rfl)).tr (zFr.si _ rfl)) (fun f a b => by rw [zi_si, if_neg (by omega), zi_sl]; exact gi f a b) (by rw [zi_si, if_neg (by omega), zi_sl]; exact g5) (by rw [zi_si, if_pos ⟨rfl, rfl⟩]; rfl) (by rw [zl_si, zl_sl, if_pos ⟨rfl, rfl⟩]; unfold hsh; rw [if_neg (by omega)])
      · rw [if_pos hin]
        have e : rn n t 97 122 s = s + j := by rw [← er, rn_n hin]
        exact ⟨τ, rfl, g, gi, g5, by rw [e]; exact g3, by rw [e, show s + j - s = j by omega]; exact gl⟩
  rw [vX11_readWord]
  unfold fX11_readWord
  simp only [zlt_e, chk_e, h.1.k, if_true, zkd_si]
  exact lp (n - s) 0 _ (by omega) rfl ((zFr.si (P := fun a => a = m) σ rfl).tr (zFr.sl _ rfl)) (fun f a b => by rw [zi_sl, zi_si, if_neg (by omega)]) (by rw [zi_sl, zi_si, if_pos ⟨rfl, rfl⟩]) (by rw [zi_sl, zi_si, if_neg (by omega)]; exact h3) (by rw [zl_sl, if_pos ⟨rfl, rfl⟩]; rfl)
theorem s_readDigits {σ : zS} {m n s : Nat} {t : Nat → Nat} (h : RT σ m n t) (h3 : zi σ 603 m = nI s) (h4 : zi σ 604 m = nI s) (hs : s < n) (d : Nat) : ∃ τ, zEv (d + 2) mX11_readDigits [.inr (.inl (some m))] σ = some (none, τ) ∧ zFr (fun a => a = m) σ τ ∧ (∀ f, f ≠ 603 → f ≠ 605 → f ≠ 607 → zi τ f m = zi σ f m) ∧ zi τ 605 m = nI (if isNum t s (rn n t 48 57 s) then 2 else 5) ∧ zi τ 603 m = nI (rn n t 48 57 s) ∧ (isNum t s (rn n t 48 57 s) → zi τ 607 m = nI (dv t s (rn n t 48 57 s - s))) := by
  have hn := h.2.2.2.1
  have hp := rn_p n t 48 57 s
  have lp : ∀ f j τ, s + j + f = n → rn n t 48 57 (s + j) = rn n t 48 57 s → zFr (fun a => a = m) σ τ → (∀ f, f ≠ 603 → f ≠ 605 → f ≠ 607 → zi τ f m = zi σ f m) → zi τ 603 m = nI (s + j) → (j ≤ 3 → zi τ 607 m = nI (dv t s j)) → ∃ υ, LX11_readDigits_5 (zEv (d + 1)) m τ = some (none, υ) ∧ zFr (fun a => a = m) σ υ ∧ (∀ f, f ≠ 603 → f ≠ 605 → f ≠ 607 → zi υ f m = zi σ f m) ∧ zi υ 605 m = nI (if isNum t s (rn n t 48 57 s) then 2 else 5) ∧ zi υ 603 m = nI (rn n t 48 57 s) ∧ (isNum t s (rn n t 48 57 s) → zi υ 607 m = nI (dv t s (rn n t 48 57 s - s))) := by
    have fin : ∀ j τ, s + j ≤ n → ¬ (s + j < n ∧ 48 ≤ t (s + j) ∧ t (s + j) ≤ 57) → rn n t 48 57 (s + j) = rn n t 48 57 s → zFr (fun a => a = m) σ τ → (∀ f, f ≠ 603 → f ≠ 605 → f ≠ 607 → zi τ f m = zi σ f m) → zi τ 603 m = nI (s + j) → (j ≤ 3 → zi τ 607 m = nI (dv t s j)) → ∃ υ, LX11_readDigits_5 (zEv (d + 1)) m τ = some (none, υ) ∧ zFr (fun a => a = m) σ υ ∧ (∀ f, f ≠ 603 → f ≠ 605 → f ≠ 607 → zi υ f m = zi σ f m) ∧ zi υ 605 m = nI (if isNum t s (rn n t 48 57 s) then 2 else 5) ∧ zi υ 603 m = nI (rn n t 48 57 s) ∧ (isNum t s (rn n t 48 57 s) → zi υ 607 m = nI (dv t s (rn n t 48 57 s - s))) := by
      intro j τ hj hin er g gi g3 gv
      have h' : RT τ m n t := h.fr g (by omega) (gi _ (by omega) (by omega) (by omega))
      have q := (heI_in (n := n) (t := t) (i := s + j) (lo := 48) (hi := 57) h.2.2.2.2 (by decide) (by decide))
      have q' : ((48 : Int32) ≤ iI (heI n t (s + j)) ∧ iI (heI n t (s + j)) ≤ 57) ↔ _ := q
      have e : rn n t 48 57 s = s + j := by rw [← er, rn_n hin]
      have es : nI (s + j) - nI s = nI j := by rw [nI_sub (by omega)]; congr 1; omega
      have e4 : zi τ 604 m = nI s := (gi _ (by omega) (by omega) (by omega)).trans h4
      have q1 : (nI j = 1) ↔ j = 1 := n_eq (by omega) (by decide)
      have q4 : (nI j < 4) ↔ j < 4 := n_lt (by omega) (by decide)
      have ht := h.2.2.2.2 s hs
      have q48 : (nI (t s) = 48) ↔ t s = 48 := n_eq (by omega) (by decide)
      have ej : s + j - s = j := by omega
      have key : ∀ v : Nat, v = (if isNum t s (s + j) then 2 else 5) → ∃ υ, (some (none, zsi τ 605 m (nI v)) : zO) = some (none, υ) ∧ zFr (fun a => a = m) σ υ ∧ (∀ f, f ≠ 603 → f ≠ 605 → f ≠ 607 → zi υ f m = zi σ f m) ∧ zi υ 605 m = nI (if isNum t s (s + j) then 2 else 5) ∧ zi υ 603 m = nI (s + j) ∧ (isNum t s (s + j) → zi υ 607 m = nI (dv t s (s + j - s))) := fun v hv =>
        ⟨_, rfl, g.tr (zFr.si _ rfl), fun f a b c => by rw [zi_si, if_neg (by omega)]; exact gi f a b c, by rw [zi_si, if_pos ⟨rfl, rfl⟩, hv], by rw [zi_si, if_neg (by omega)]; exact g3, fun qn => by rw [zi_si, if_neg (by omega), ej]; exact gv (by rcases qn with a | a <;> omega)⟩
      rw [e, uX11_readDigits_5]
      simp only [chk_e, h'.1.k, if_true, s_here h' g3 (show s + j < 1000 by omega), bnI_s, s_in, zb_0, q', hin, not_false_eq_true, zlt_e, g3, e4, es, q1, q4, h'.1.tx.1, h'.1.tx.2.1, h'.1.tx.2.2, onR_s, n_zin (show s < 2 ^ 31 by omega), n_tn (show s < 2 ^ 31 by omega), show s < 160 by omega, and_self, h'.2.2.1 s hs, q48]
      by_cases a1 : j = 1
      · rw [if_pos a1]
        exact key 2 (by rw [if_pos (Or.inl (by omega))])
      · rw [if_neg a1]
        by_cases a2 : j < 4
        · rw [if_pos a2]
          by_cases a3 : t s = 48
          · rw [if_pos a3]
            exact key 5 (by rw [if_neg (by omega)])
          · rw [if_neg a3]
            exact key 2 (by rw [if_pos (Or.inr ⟨by omega, a3⟩)])
        · rw [if_neg a2]
          exact key 5 (by rw [if_neg (by omega)])
    intro f
    induction f with
    | zero =>
      intro j τ hj er g gi g3 gv
      exact fin j τ (by omega) (by omega) er g gi g3 gv
    | succ f ih =>
      intro j τ hj er g gi g3 gv
      by_cases hin : s + j < n ∧ 48 ≤ t (s + j) ∧ t (s + j) ≤ 57
      · have h' : RT τ m n t := h.fr g (by omega) (gi _ (by omega) (by omega) (by omega))
        have q := (heI_in (n := n) (t := t) (i := s + j) (lo := 48) (hi := 57) h.2.2.2.2 (by decide) (by decide))
        have q' : ((48 : Int32) ≤ iI (heI n t (s + j)) ∧ iI (heI n t (s + j)) ≤ 57) ↔ _ := q
        have eh : heI n t (s + j) = t (s + j) := if_pos hin.1
        have er' : rn n t 48 57 (s + (j + 1)) = rn n t 48 57 s := by rw [← er, rn_y hin]; rfl
        have hd : ∀ i, i < j → 48 ≤ t (s + i) ∧ t (s + i) ≤ 57 := fun i hi => hp.2.2 (s + i) (by omega) (by
          have := (rn_p n t 48 57 (s + j)).1
          omega)
        rw [uX11_readDigits_5]
        simp only [chk_e, h'.1.k, if_true, s_here h' g3 (show s + j < 1000 by omega), bnI_s, s_in, zb_0, q', hin, and_self, not_true_eq_false, if_false, zlt_e, zkd_si]
        have stay : ∀ v : Int32, (j + 1 ≤ 3 → v = nI (dv t s (j + 1))) → ∃ υ, LX11_readDigits_5 (zEv (d + 1)) m (zsi (zsi τ 607 m v) 603 m (nI (s + j) + 1)) = some (none, υ) ∧ zFr (fun a => a = m) σ υ ∧ (∀ f, f ≠ 603 → f ≠ 605 → f ≠ 607 → zi υ f m = zi σ f m) ∧ zi υ 605 m = nI (if isNum t s (rn n t 48 57 s) then 2 else 5) ∧ zi υ 603 m = nI (rn n t 48 57 s) ∧ (isNum t s (rn n t 48 57 s) → zi υ 607 m = nI (dv t s (rn n t 48 57 s - s))) := fun v hv => by
          have e1 : nI (s + j) + 1 = nI (s + (j + 1)) := nI_add (s + j) 1
          rw [e1]
          exact ih (j + 1) _ (by omega) er' ((g.tr (zFr.si _ rfl)).tr (zFr.si _ rfl)) (fun f a b c => by rw [zi_si, if_neg (by omega), zi_si, if_neg (by omega)]; exact gi f a b c) (by rw [zi_si, if_pos ⟨rfl, rfl⟩]) (fun h3 => by rw [zi_si, if_neg (by omega), zi_si, if_pos ⟨rfl, rfl⟩]; exact hv h3)
        have e603 : ∀ v : Int32, zi (zsi τ 607 m v) 603 m = nI (s + j) := fun v => by rw [zi_si, if_neg (by omega)]; exact g3
        have e604 : ∀ v : Int32, zi τ 603 m = nI (s + j) := fun _ => g3
        simp only [e603]
        by_cases c9 : zi τ 607 m ≤ 999
        · rw [if_pos c9]
          refine stay _ (fun h3 => ?_)
          have l3 := dv_lt (t := t) (s := s) (m := j + 1) h3 (fun i hi => by
            by_cases ei : i = j
            · rw [ei]; exact hin.2
            · exact hd i (by omega))
          rw [gv (by omega), eh]
          show iI 10 * _ + _ - iI 48 = _
          rw [i_nI, i_nI, i_mul, i_add, i_sub]
          congr 1
          show _ = ((10 * dv t s j + (t (s + j) - 48) : Nat) : Int)
          omega
        · rw [if_neg c9]
          refine stay _ (fun h3 => absurd ?_ c9)
          rw [gv (by omega)]
          have l3 := dv_lt (t := t) (s := s) (m := j) (by omega) hd
          exact (n_le (b := 999) (by omega) (by decide)).mpr (by omega)
      · exact fin j τ (by omega) hin er g gi g3 gv
  rw [vX11_readDigits]
  unfold fX11_readDigits
  simp only [zlt_e, chk_e, h.1.k, if_true]
  exact lp (n - s) 0 _ (by omega) rfl (zFr.si _ rfl) (fun f a b c => by rw [zi_si, if_neg (by omega)]) (by rw [zi_si, if_neg (by omega)]; exact h3) (fun _ => by rw [zi_si, if_pos ⟨rfl, rfl⟩]; rfl)
/-! text: the reference's tokens -/
def inTk (f : Nat) : Prop := f = 603 ∨ f = 604 ∨ f = 605 ∨ f = 607
theorem s_advance {σ : zS} {m n e : Nat} {t : Nat → Nat} (h : RT σ m n t) (h3 : zi σ 603 m = nI e) (he : e ≤ n) (d : Nat) : ∃ τ, zEv (d + 3) mX11_advance [.inr (.inl (some m))] σ = some (none, τ) ∧ zFr (fun a => a = m) σ τ ∧ (∀ f, ¬ inTk f → zi τ f m = zi σ f m) ∧ RW τ m t (nx n t e) := by
  have hn := h.2.2.2.1
  have p0 := rn_p n t 32 32 e
  have fin : ∀ s τ, s ≤ n → ¬ (s < n ∧ 32 ≤ t s ∧ t s ≤ 32) → zFr (fun a => a = m) σ τ → (∀ f, ¬ inTk f → zi τ f m = zi σ f m) → zi τ 603 m = nI s → ∃ υ, LX11_advance_0 (zEv (d + 2)) m τ = some (none, υ) ∧ zFr (fun a => a = m) σ υ ∧ (∀ f, ¬ inTk f → zi υ f m = zi σ f m) ∧ RW υ m t (tkAt n t s) := by
    intro s τ hs hin g gi g3
    have h' : RT τ m n t := h.fr g (by omega) (gi _ (by unfold inTk; omega))
    have q32 : (iI (heI n t s) = 32) ↔ (s < n ∧ 32 ≤ t s ∧ t s ≤ 32) := by
      have hq : (iI (heI n t s) = iI 32) ↔ heI n t s = 32 := by
        unfold heI
        by_cases q : s < n
        · have := h.2.2.2.2 s q
          rw [if_pos q]
          exact i_eq (by omega) (by omega) (by omega) (by omega)
        · rw [if_neg q]
          exact i_eq (by omega) (by omega) (by omega) (by omega)
      refine hq.trans ?_
      unfold heI
      by_cases q : s < n
      · rw [if_pos q]; omega
      · rw [if_neg q]; omega
    have g4 : zFr (fun a => a = m) τ (zsi τ 604 m (nI s)) := zFr.si τ rfl
    have h4 : RT (zsi τ 604 m (nI s)) m n t := h'.fr g4 (by omega) (by rw [zi_si, if_neg (by omega)])
    have i3 : zi (zsi τ 604 m (nI s)) 603 m = nI s := by rw [zi_si, if_neg (by omega)]; exact g3
    have i4 : zi (zsi τ 604 m (nI s)) 604 m = nI s := by rw [zi_si, if_pos ⟨rfl, rfl⟩]
    have gi4 : ∀ f, ¬ inTk f → zi (zsi τ 604 m (nI s)) f m = zi σ f m := fun f hf => by rw [zi_si, if_neg (by unfold inTk at hf; omega)]; exact gi f hf
    have gg := g.tr g4
    rw [uX11_advance_0]
    simp only [chk_e, h'.1.k, if_true, s_here h' g3 (show s < 1000 by omega), bnI_s, q32, hin, if_false, zlt_e, g3, h4.1.k, s_here h4 i3 (show s < 1000 by omega)]
    generalize zsi τ 604 m (nI s) = τ1 at *
    by_cases hsn : s < n
    · have ht := h.2.2.2.2 s hsn
      have eh : heI n t s = t s := if_pos hsn
      have q0 : ¬ (iI (heI n t s) < 0) := by
        rw [eh]
        exact fun q => absurd ((i_lt (b := 0) (by omega) (by omega) (by decide) (by decide)).mp q) (by omega)
      have qa := heI_in (n := n) (t := t) (i := s) (lo := 97) (hi := 122) h.2.2.2.2 (by decide) (by decide)
      have qa' : ((97 : Int32) ≤ iI (heI n t s) ∧ iI (heI n t s) ≤ 122) ↔ _ := qa
      have qd := heI_in (n := n) (t := t) (i := s) (lo := 48) (hi := 57) h.2.2.2.2 (by decide) (by decide)
      have qd' : ((48 : Int32) ≤ iI (heI n t s) ∧ iI (heI n t s) ≤ 57) ↔ _ := qd
      rw [if_neg q0]
      simp only [s_in, bnI_s, zb_0, qa', qd']
      by_cases ha : 97 ≤ t s ∧ t s ≤ 122
      · have hx : s < n ∧ 97 ≤ t s ∧ t s ≤ 122 := ⟨hsn, ha⟩
        rw [if_neg (fun q => q hx)]
        obtain ⟨υ, k1, k2, k3, k4, k5, k6⟩ := s_readWord h4 i3 i4 hs d
        simp only [h4.1.k, if_true, k1, bnV_s]
        have ek : tkAt n t s = (1, s, rn n t 97 122 s, 0) := by
          unfold tkAt
          rw [if_pos hsn, if_pos ha]
        rw [ek]
        exact ⟨υ, rfl, gg.tr k2, fun f hf => (k3 f (by unfold inTk at hf; omega) (by unfold inTk at hf; omega)).trans (gi4 f hf), k4, (k3 604 (by omega) (by omega)).trans i4, k5, fun q => absurd (show (1 : Nat) = 2 from q) (by decide), fun _ => k6⟩
      · have hx : ¬ (s < n ∧ 97 ≤ t s ∧ t s ≤ 122) := fun q => ha q.2
        rw [if_pos hx]
        by_cases hd : 48 ≤ t s ∧ t s ≤ 57
        · have hy : s < n ∧ 48 ≤ t s ∧ t s ≤ 57 := ⟨hsn, hd⟩
          rw [if_neg (fun q => q hy)]
          obtain ⟨υ, k1, k2, k3, k4, k5, k6⟩ := s_readDigits h4 i3 i4 hsn d
          simp only [h4.1.k, if_true, k1, bnV_s]
          have ek : tkAt n t s = if isNum t s (rn n t 48 57 s) then (2, s, rn n t 48 57 s, dv t s (rn n t 48 57 s - s)) else (5, s, rn n t 48 57 s, 0) := by
            unfold tkAt
            rw [if_pos hsn, if_neg ha, if_pos hd]
          rw [ek]
          refine ⟨υ, rfl, gg.tr k2, fun f hf => (k3 f (by unfold inTk at hf; omega) (by unfold inTk at hf; omega) (by unfold inTk at hf; omega)).trans (gi4 f hf), ?_⟩
          have e604 := (k3 604 (by omega) (by omega) (by omega)).trans i4
          by_cases hN : isNum t s (rn n t 48 57 s)
          · rw [if_pos hN] at k4
            rw [if_pos hN]
            exact ⟨k4, e604, k5, fun _ => k6 hN, fun q => absurd (show (2 : Nat) = 1 from q) (by decide)⟩
          · rw [if_neg hN] at k4
            rw [if_neg hN]
            exact ⟨k4, e604, k5, fun q => absurd (show (5 : Nat) = 2 from q) (by decide), fun q => absurd (show (5 : Nat) = 1 from q) (by decide)⟩
        · have hy : ¬ (s < n ∧ 48 ≤ t s ∧ t s ≤ 57) := fun q => hd q.2
          rw [if_pos hy]
          have ek : tkAt n t s = ((if t s = 45 then 3 else if t s = 59 then 4 else 5), s, s + 1, 0) := by
            unfold tkAt
            rw [if_pos hsn, if_neg ha, if_neg hd]
          have q45 : (iI (heI n t s) = 45) ↔ t s = 45 := by
            rw [eh]
            have := i_eq (a := t s) (b := 45) (by omega) (by omega) (by decide) (by decide)
            exact this.trans (by omega)
          have q59 : (iI (heI n t s) = 59) ↔ t s = 59 := by
            rw [eh]
            have := i_eq (a := t s) (b := 59) (by omega) (by omega) (by decide) (by decide)
            exact this.trans (by omega)
          have key : ∀ v : Nat, v = (if t s = 45 then 3 else if t s = 59 then 4 else 5) → v ≠ 2 → v ≠ 1 → ∃ υ, (some (none, zsi (zsi τ1 605 m (nI v)) 603 m (nI s + 1)) : zO) = some (none, υ) ∧ zFr (fun a => a = m) σ υ ∧ (∀ f, ¬ inTk f → zi υ f m = zi σ f m) ∧ RW υ m t (tkAt n t s) := fun v hv v2 v1 => by
            rw [ek, ← hv]
            refine ⟨_, rfl, gg.tr ((zFr.si (P := fun a => a = m) τ1 rfl).tr (zFr.si _ rfl)), fun f hf => by rw [zi_si, if_neg (by unfold inTk at hf; omega), zi_si, if_neg (by unfold inTk at hf; omega)]; exact gi4 f hf, ?_, ?_, ?_, fun q => absurd q v2, fun q => absurd q v1⟩
            · rw [zi_si, if_neg (by omega), zi_si, if_pos ⟨rfl, rfl⟩]; rfl
            · rw [zi_si, if_neg (by omega), zi_si, if_neg (by omega)]; exact i4
            · rw [zi_si, if_pos ⟨rfl, rfl⟩]; exact nI_add s 1
          have e603 : ∀ v : Int32, zi (zsi τ1 605 m v) 603 m = nI s := fun v => by rw [zi_si, if_neg (by omega)]; exact i3
          simp only [q45, q59, h4.1.k, if_true, zkd_si, e603]
          by_cases a45 : t s = 45
          · rw [if_pos a45]
            exact key 3 (by rw [if_pos a45]) (by decide) (by decide)
          · rw [if_neg a45]
            by_cases a59 : t s = 59
            · rw [if_pos a59]
              exact key 4 (by rw [if_neg a45, if_pos a59]) (by decide) (by decide)
            · rw [if_neg a59]
              exact key 5 (by rw [if_neg a45, if_neg a59]) (by decide) (by decide)
    · have eh : heI n t s = -1 := if_neg hsn
      have q0 : iI (heI n t s) < 0 := by rw [eh]; decide
      rw [if_pos q0]
      have ek : tkAt n t s = (0, s, s, 0) := by
        unfold tkAt
        rw [if_neg hsn]
      rw [ek]
      exact ⟨_, rfl, gg.tr (zFr.si τ1 rfl), fun f hf => by rw [zi_si, if_neg (by unfold inTk at hf; omega)]; exact gi4 f hf, by rw [zi_si, if_pos ⟨rfl, rfl⟩]; rfl, by rw [zi_si, if_neg (by omega)]; exact i4, by rw [zi_si, if_neg (by omega)]; exact i3, fun q => absurd (show (0 : Nat) = 2 from q) (by decide), fun q => absurd (show (0 : Nat) = 1 from q) (by decide)⟩
  have lp : ∀ f i τ, i + f = n → rn n t 32 32 i = rn n t 32 32 e → zFr (fun a => a = m) σ τ → (∀ f, ¬ inTk f → zi τ f m = zi σ f m) → zi τ 603 m = nI i → ∃ υ, LX11_advance_0 (zEv (d + 2)) m τ = some (none, υ) ∧ zFr (fun a => a = m) σ υ ∧ (∀ f, ¬ inTk f → zi υ f m = zi σ f m) ∧ RW υ m t (nx n t e) := by
    intro f
    induction f with
    | zero =>
      intro i τ hi er g gi g3
      have hin : ¬ (i < n ∧ 32 ≤ t i ∧ t i ≤ 32) := by omega
      have := fin i τ (by omega) hin g gi g3
      unfold nx
      rw [← er, rn_n hin]
      exact this
    | succ f ih =>
      intro i τ hi er g gi g3
      by_cases hin : i < n ∧ 32 ≤ t i ∧ t i ≤ 32
      · have h' : RT τ m n t := h.fr g (by omega) (gi _ (by unfold inTk; omega))
        have eh : iI (heI n t i) = 32 := by
          have e : heI n t i = 32 := (if_pos hin.1).trans (by omega)
          rw [e]; rfl
        rw [uX11_advance_0]
        simp only [chk_e, h'.1.k, if_true, s_here h' g3 (show i < 1000 by omega), bnI_s, eh, zlt_e, g3, nI_1, nI_add]
        exact ih (i + 1) _ (by omega) (by rw [← er, rn_y hin]) (g.tr (zFr.si _ rfl)) (fun f hf => by rw [zi_si, if_neg (by unfold inTk at hf; omega)]; exact gi f hf) (by rw [zi_si, if_pos ⟨rfl, rfl⟩])
      · have := fin i τ (by omega) hin g gi g3
        unfold nx
        rw [← er, rn_n hin]
        exact this
  rw [vX11_advance]
  unfold fX11_advance
  exact lp (n - e) e σ (by omega) rfl (zFr.rf σ) (fun _ _ => rfl) h3
/-- a token is taken -/
theorem s_takeY {σ : zS} {m n : Nat} {t : Nat → Nat} {T : zTk} (h : RT σ m n t) (hR : RW σ m t T) (hT : TkG n t T) (hf : zi σ 608 m = -1009) (d : Nat) : ∃ τ, zEv (d + 4) mX11_take [.inr (.inl (some m)), .inl 1] σ = some (none, τ) ∧ zFr (fun a => a = m) σ τ ∧ (∀ f, ¬ inTk f → zi τ f m = zi σ f m) ∧ RW τ m t (nx n t (kE T)) := by
  obtain ⟨τ, k1, k2, k3, k4⟩ := s_advance h hR.2.2.1 hT.2.2.1 d
  have z1 : ((1 : Int32) = 0) = False := eq_false (by decide)
  rw [vX11_take]
  unfold fX11_take
  simp only [chk_e, h.1.k, if_true, s_isFine h.1, bnI_s, zb_0, hf, not_true_eq_false, if_false, z1, k1, bnV_s]
  exact ⟨τ, rfl, k2, k3, k4⟩
theorem nI_err {s : Nat} (h : s ≤ 1000) : ¬ (nI s = -1009) := fun q => by
  have e : (-1009 : Int32) = iI (-1009) := rfl
  rw [i_nI, e, i_eq (by omega) (by omega) (by omega) (by omega)] at q
  omega
theorem s_takeN {σ : zS} {m s : Nat} (hM : MS σ m) (h4 : zi σ 604 m = nI s) (hs : s ≤ 1000) (hf : zi σ 608 m = -1009) (d : Nat) : zEv (d + 2) mX11_take [.inr (.inl (some m)), .inl 0] σ = some (none, zsi σ 608 m (nI s)) := by
  have hM' : MS (zsi σ 608 m (nI s)) m := hM.fr (zFr.si (P := fun a => a = m) σ rfl)
  have e : zi (zsi σ 608 m (nI s)) 608 m = nI s := by rw [zi_si, if_pos ⟨rfl, rfl⟩]
  rw [vX11_take]
  unfold fX11_take
  simp only [chk_e, hM.k, if_true, s_isFine hM, bnI_s, zb_0, hf, not_true_eq_false, if_false, zlt_e, h4, hM'.k, s_isFine hM', e, nI_err hs, not_false_eq_true]
theorem s_takeF {σ : zS} {m : Nat} (hM : MS σ m) (hf : ¬ (zi σ 608 m = -1009)) (v : Int32) (d : Nat) : zEv (d + 2) mX11_take [.inr (.inl (some m)), .inl v] σ = some (none, σ) := by
  rw [vX11_take]
  unfold fX11_take
  simp only [chk_e, hM.k, if_true, s_isFine hM, bnI_s, zb_0, hf, not_false_eq_true]
/-! text: the reference's words and numbers -/
theorem s_kindOf {σ : zS} {m n : Nat} {t : Nat → Nat} {T : zTk} (hM : MS σ m) (hR : RW σ m t T) (hT : TkG n t T) (h1 : kK T = 1) (d : Nat) : zEv (d + 1) mX11_kindOf [.inr (.inl (some m))] σ = some (some (.inl (if kwK t T < 14 then nI (kwK t T) else -1009)), σ) := by
  have hw := hR.2.2.2.2 h1
  have c : ∀ k, k < 14 → ∀ c : Int64, c = Int64.ofInt (wN (nmW k) : Nat) → ((lg_cmp (zl σ 606 m) c = 0) ↔ eqW t T (nmW k)) := fun k hk c hc => by
    rw [hw]
    exact lc_W hT h1 (by omega) (by omega) hc
  rw [vX11_kindOf]
  unfold fX11_kindOf kwK
  simp only [chk_e, hM.k, if_true, c 0 (by decide) 175281103 (by decide), c 1 (by decide) 20431907448697 (by decide), c 2 (by decide) 37404236018 (by decide), c 3 (by decide) 4683428867939 (by decide), c 4 (by decide) 137017514 (by decide), c 5 (by decide) 5739329134687 (by decide), c 6 (by decide) 48699 (by decide), c 7 (by decide) 189278330 (by decide), c 8 (by decide) 62416067 (by decide), c 9 (by decide) 3022547 (by decide), c 10 (by decide) 7476678095 (by decide), c 11 (by decide) 218554355 (by decide), c 12 (by decide) 124995 (by decide), c 13 (by decide) 7657646453 (by decide)]
  have st : ∀ f i (X : zO), i + (f + 1) = 14 → (¬ eqW t T (nmW i) → X = some (some (.inl (if fnd (fun k => decide (eqW t T (nmW k))) f (i + 1) < 14 then nI (fnd (fun k => decide (eqW t T (nmW k))) f (i + 1)) else -1009)), σ)) → (if eqW t T (nmW i) then some (some (.inl (nI i)), σ) else X) = some (some (.inl (if fnd (fun k => decide (eqW t T (nmW k))) (f + 1) i < 14 then nI (fnd (fun k => decide (eqW t T (nmW k))) (f + 1) i) else -1009)), σ) := fun f i X hi hX => by
    by_cases e : eqW t T (nmW i)
    · rw [if_pos e, fnd_s (decide_eq_true e), if_pos (show i < 14 by omega)]
    · rw [if_neg e, fnd_n (fun q => e (of_decide_eq_true q))]
      exact hX e
  exact st 13 0 _ rfl fun _ => st 12 1 _ rfl fun _ => st 11 2 _ rfl fun _ => st 10 3 _ rfl fun _ => st 9 4 _ rfl fun _ => st 8 5 _ rfl fun _ => st 7 6 _ rfl fun _ => st 6 7 _ rfl fun _ => st 5 8 _ rfl fun _ => st 4 9 _ rfl fun _ => st 3 10 _ rfl fun _ => st 2 11 _ rfl fun _ => st 1 12 _ rfl fun _ => st 0 13 _ rfl fun _ => rfl
theorem s_modeOf {σ : zS} {m n : Nat} {t : Nat → Nat} {T : zTk} (hM : MS σ m) (hR : RW σ m t T) (hT : TkG n t T) (h1 : kK T = 1) (d : Nat) : zEv (d + 1) mX11_modeOf [.inr (.inl (some m))] σ = some (some (.inl (if kwM t T < 8 then nI (kwM t T) else -1009)), σ) := by
  have hw := hR.2.2.2.2 h1
  have c : ∀ k, k < 8 → ∀ c : Int64, c = Int64.ofInt (wN (nmW (18 + k)) : Nat) → ((lg_cmp (zl σ 606 m) c = 0) ↔ eqW t T (nmW (18 + k))) := fun k hk c hc => by
    rw [hw]
    exact lc_W hT h1 (by omega) (by omega) hc
  rw [vX11_modeOf]
  unfold fX11_modeOf kwM
  simp only [chk_e, hM.k, if_true, c 0 (by decide) 209220123 (by decide), c 1 (by decide) 144303426772 (by decide), c 2 (by decide) 274581644 (by decide), c 3 (by decide) 4782078311 (by decide), c 4 (by decide) 58289531 (by decide), c 5 (by decide) 33109423829609 (by decide), c 6 (by decide) 841 (by decide), c 7 (by decide) 206922222884 (by decide)]
  have st : ∀ f i (X : zO), i + (f + 1) = 8 → (¬ eqW t T (nmW (18 + i)) → X = some (some (.inl (if fnd (fun k => decide (eqW t T (nmW (18 + k)))) f (i + 1) < 8 then nI (fnd (fun k => decide (eqW t T (nmW (18 + k)))) f (i + 1)) else -1009)), σ)) → (if eqW t T (nmW (18 + i)) then some (some (.inl (nI i)), σ) else X) = some (some (.inl (if fnd (fun k => decide (eqW t T (nmW (18 + k)))) (f + 1) i < 8 then nI (fnd (fun k => decide (eqW t T (nmW (18 + k)))) (f + 1) i) else -1009)), σ) := fun f i X hi hX => by
    by_cases e : eqW t T (nmW (18 + i))
    · rw [if_pos e, fnd_s (decide_eq_true e), if_pos (show i < 8 by omega)]
    · rw [if_neg e, fnd_n (fun q => e (of_decide_eq_true q))]
      exact hX e
  exact st 7 0 _ rfl fun _ => st 6 1 _ rfl fun _ => st 5 2 _ rfl fun _ => st 4 3 _ rfl fun _ => st 3 4 _ rfl fun _ => st 2 5 _ rfl fun _ => st 1 6 _ rfl fun _ => st 0 7 _ rfl fun _ => rfl
theorem s_mnum {σ : zS} {m n : Nat} {t : Nat → Nat} {T : zTk} {lo hi : Int} (h : RT σ m n t) (hR : RW σ m t T) (hT : TkG n t T) (hlo : -1000 ≤ lo ∧ lo ≤ 1001) (hhi : -1000 ≤ hi ∧ hi ≤ 1001) (hf : zi σ 608 m = -1009) (d : Nat) : ∃ τ v, zEv (d + 5) mX11_readNumber [.inr (.inl (some m)), .inl (iI lo), .inl (iI hi)] σ = some (some (.inl v), τ) ∧ zFr (fun a => a = m) σ τ ∧ (∀ f, ¬ inTk f → f ≠ 608 → zi τ f m = zi σ f m) ∧ ((pN n t lo hi T).1 = true → v = iI (pN n t lo hi T).2.2 ∧ zi τ 608 m = -1009 ∧ RW τ m t (pN n t lo hi T).2.1) ∧ (¬ (pN n t lo hi T).1 = true → zi τ 608 m = nI (kS (pN n t lo hi T).2.1)) := by
  have hn := h.2.2.2.1
  have ql : (iI lo < 0) ↔ lo < 0 := i_lt (b := 0) (by omega) (by omega) (by decide) (by decide)
  have q3 : (nI (kK T) = 3) ↔ kK T = 3 := n_eq (by have := hT.1; omega) (by decide)
  have z1 : ((1 : Int32) = 0) = False := eq_false (by decide)
  -- the last step: a number or not, from a token on
  have last : ∀ τ (T1 : zTk) (w : Int) (k0 v0 : Int32), RT τ m n t → RW τ m t T1 → TkG n t T1 → zi τ 608 m = -1009 → zFr (fun a => a = m) σ τ → (∀ f, ¬ inTk f → f ≠ 608 → zi τ f m = zi σ f m) → T1 = pT1 n t lo T → w = pV n t lo T → (kK T1 = 2 → v0 = iI w ∧ (if k0 = 0 then zi τ 607 m else -(zi τ 607 m)) = iI w ∧ -1000 ≤ w ∧ w ≤ 1000) → ∃ υ v, LX11_readNumber_54 (zEv (d + 4)) m (iI lo) (iI hi) k0 v0 τ = some (some (.inl v), υ) ∧ zFr (fun a => a = m) σ υ ∧ (∀ f, ¬ inTk f → f ≠ 608 → zi υ f m = zi σ f m) ∧ ((pN n t lo hi T).1 = true → v = iI (pN n t lo hi T).2.2 ∧ zi υ 608 m = -1009 ∧ RW υ m t (pN n t lo hi T).2.1) ∧ (¬ (pN n t lo hi T).1 = true → zi υ 608 m = nI (kS (pN n t lo hi T).2.1)) := by
    intro τ T1 w k0 v0 h' hR' hT' hf' g gi e1 e2 hv
    have q2 : (nI (kK T1) = 2) ↔ kK T1 = 2 := n_eq (by have := hT'.1; omega) (by decide)
    have hs : kS T1 ≤ 1000 := by have := hT'.2.1; have := hT'.2.2.1; omega
    have no : ¬ (kK T1 = 2 ∧ lo ≤ w ∧ w ≤ hi) → pN n t lo hi T = (false, T1, 0) := fun q => by
      unfold pN
      rw [if_neg (by subst e1; subst e2; exact q), e1]
    have ye : kK T1 = 2 ∧ lo ≤ w ∧ w ≤ hi → pN n t lo hi T = (true, nx n t (kE T1), w) := fun q => by
      unfold pN
      rw [if_pos (by subst e1; subst e2; exact q), e1, e2]
    have bad : ¬ (kK T1 = 2 ∧ lo ≤ w ∧ w ≤ hi) → ∃ υ v, (some (some (.inl v0), zsi τ 608 m (nI (kS T1))) : zO) = some (some (.inl v), υ) ∧ zFr (fun a => a = m) σ υ ∧ (∀ f, ¬ inTk f → f ≠ 608 → zi υ f m = zi σ f m) ∧ ((pN n t lo hi T).1 = true → v = iI (pN n t lo hi T).2.2 ∧ zi υ 608 m = -1009 ∧ RW υ m t (pN n t lo hi T).2.1) ∧ (¬ (pN n t lo hi T).1 = true → zi υ 608 m = nI (kS (pN n t lo hi T).2.1)) := fun q => by
      rw [no q]
      exact ⟨_, _, rfl, g.tr (zFr.si _ rfl), fun f a b => by rw [zi_si, if_neg (by omega)]; exact gi f a b, fun q => absurd (show false = true from q) (by decide), fun _ => by rw [zi_si, if_pos ⟨rfl, rfl⟩]⟩
    rw [uX11_readNumber_54]
    simp only [zlt_e, chk_e, h'.1.k, if_true, hR'.1, q2]
    by_cases hk : kK T1 = 2
    · obtain ⟨v1, v2, v3⟩ := hv hk
      have r81 : ∃ υ v, LX11_readNumber_81 (zEv (d + 4)) m (iI lo) (iI hi) (.inl k0) v0 (some m) (iI w) τ = some (some (.inl v), υ) ∧ zFr (fun a => a = m) σ υ ∧ (∀ f, ¬ inTk f → f ≠ 608 → zi υ f m = zi σ f m) ∧ ((pN n t lo hi T).1 = true → v = iI (pN n t lo hi T).2.2 ∧ zi υ 608 m = -1009 ∧ RW υ m t (pN n t lo hi T).2.1) ∧ (¬ (pN n t lo hi T).1 = true → zi υ 608 m = nI (kS (pN n t lo hi T).2.1)) := by
        rw [uX11_readNumber_81]
        simp only [s_in, bnI_s, zb_0, i_le (show -2147483648 ≤ lo by omega) (show lo < 2147483648 by omega) (show -2147483648 ≤ w by omega) (show w < 2147483648 by omega), i_le (show -2147483648 ≤ w by omega) (show w < 2147483648 by omega) (show -2147483648 ≤ hi by omega) (show hi < 2147483648 by omega), onR_s, chk_e, h'.1.k, if_true]
        by_cases hr : lo ≤ w ∧ w ≤ hi
        · rw [if_neg (fun q => q hr)]
          obtain ⟨υ, k1, k2, k3, k4⟩ := s_takeY h' hR' hT' hf' d
          simp only [k1, bnV_s]
          rw [ye ⟨hk, hr⟩]
          exact ⟨υ, v0, rfl, g.tr k2, fun f a b => (k3 f a).trans (gi f a b), fun _ => ⟨v1, (k3 608 (by unfold inTk; omega)).trans hf', k4⟩, fun q => absurd rfl q⟩
        · rw [if_pos hr]
          simp only [s_takeN h'.1 hR'.2.1 hs hf' (d + 2), bnV_s]
          exact bad (fun q => hr q.2)
      rw [if_pos hk]
      by_cases k00 : k0 = 0
      · rw [if_pos k00] at v2
        rw [if_pos k00, v2]
        exact r81
      · rw [if_neg k00] at v2
        rw [if_neg k00, v2]
        exact r81
    · rw [if_neg hk]
      simp only [s_takeN h'.1 hR'.2.1 hs hf' (d + 2), bnV_s]
      exact bad (fun q => hk q.1)
  rw [vX11_readNumber]
  unfold fX11_readNumber
  simp only [chk_e, h.1.k, if_true, s_isFine h.1, bnI_s, zb_0, hf, not_true_eq_false, if_false, hR.1, q3]
  by_cases c3 : kK T = 3
  · rw [if_pos c3, uX11_readNumber_20]
    simp only [zlt_e, z1, if_false, ql]
    by_cases cl : lo < 0
    · rw [if_pos cl, uX11_readNumber_35]
      obtain ⟨τ, k1, k2, k3, k4⟩ := s_takeY h hR hT hf d
      have h' : RT τ m n t := h.fr k2 (by omega) (k3 _ (by unfold inTk; omega))
      have hT' := nx_G (t := t) hT.2.2.1
      have e1 : nx n t (kE T) = pT1 n t lo T := (if_pos ⟨cl, c3⟩).symm
      have e2 : -(kV (nx n t (kE T)) : Int) = pV n t lo T := by
        unfold pV
        rw [if_pos ⟨cl, c3⟩, ← e1]
      simp only [onR_s, chk_e, h.1.k, if_true, k1, bnV_s, z1, if_false, h'.1.k]
      have ev : kK (nx n t (kE T)) = 2 → -(zi τ 607 m) = iI (-(kV (nx n t (kE T)) : Int)) := fun q => by rw [k4.2.2.2.1 q, i_nI, i_neg]
      exact last τ _ _ 1 _ h' k4 hT' ((k3 608 (by unfold inTk; omega)).trans hf) k2 (fun f a _ => k3 f a) e1 e2 (fun q => ⟨ev q, by rw [if_neg (by decide)]; exact ev q, by have := hT'.2.2.2.2 q; omega, by omega⟩)
    · rw [if_neg cl, uX11_readNumber_35]
      have hs : kS T ≤ 1000 := by have := hT.2.1; have := hT.2.2.1; omega
      simp only [onR_s, chk_e, h.1.k, if_true, s_takeN h.1 hR.2.1 hs hf (d + 2), bnV_s, z1, if_false, zkd_si]
      have hM' : MS (zsi σ 608 m (nI (kS T))) m := h.1.fr (zFr.si (P := fun a => a = m) σ rfl)
      have e5 : zi (zsi σ 608 m (nI (kS T))) 605 m = nI (kK T) := by rw [zi_si, if_neg (by omega)]; exact hR.1
      have e8 : zi (zsi σ 608 m (nI (kS T))) 608 m = nI (kS T) := by rw [zi_si, if_pos ⟨rfl, rfl⟩]
      have ep : pN n t lo hi T = (false, T, 0) := by
        have et : pT1 n t lo T = T := if_neg (fun q => cl q.1)
        unfold pN
        rw [if_neg (fun q => by have := q.1; rw [et] at this; omega), et]
      have n2 : ¬ (nI (kK T) = 2) := fun q => by have := (n_eq (b := 2) (by omega) (by decide)).mp q; omega
      rw [uX11_readNumber_54]
      simp only [zlt_e, chk_e, hM'.k, if_true, e5, n2, if_false, s_takeF hM' (by rw [e8]; exact nI_err hs) 0 (d + 2), bnV_s]
      rw [ep]
      exact ⟨_, _, rfl, zFr.si _ rfl, fun f a b => by rw [zi_si, if_neg (by omega)], fun q => absurd (show false = true from q) (by decide), fun _ => e8⟩
  · rw [if_neg c3, uX11_readNumber_20]
    have e1 : T = pT1 n t lo T := (if_neg (fun q => c3 q.2)).symm
    have e2 : (kV T : Int) = pV n t lo T := by
      unfold pV
      rw [if_neg (fun q => c3 q.2), ← e1]
    have ev : kK T = 2 → zi σ 607 m = iI (kV T : Int) := fun q => by rw [hR.2.2.2.1 q, i_nI]
    simp only [zlt_e, if_true, chk_e, h.1.k]
    exact last σ T _ 0 _ h hR hT hf (zFr.rf σ) (fun _ _ _ => rfl) e1 e2 (fun q => ⟨ev q, by rw [if_pos rfl]; exact ev q, by omega, by have := hT.2.2.2.2 q; omega⟩)
theorem s_mnumF {σ : zS} {m : Nat} (hM : MS σ m) (hf : ¬ (zi σ 608 m = -1009)) (lo hi : Int32) (d : Nat) : ∃ v, zEv (d + 5) mX11_readNumber [.inr (.inl (some m)), .inl lo, .inl hi] σ = some (some (.inl v), σ) := by
  rw [vX11_readNumber]
  unfold fX11_readNumber
  simp only [chk_e, hM.k, if_true, s_isFine hM, bnI_s, zb_0, hf, not_false_eq_true]
  rw [uX11_readNumber_20]
  simp only [zlt_e, if_true, chk_e, hM.k]
  rw [uX11_readNumber_54]
  simp only [zlt_e, if_true, chk_e, hM.k]
  by_cases c : zi σ 605 m = 2
  · rw [if_pos c, uX11_readNumber_81]
    simp only [s_in, bnI_s, onR_s, chk_e, hM.k, if_true, s_takeF hM hf, bnV_s, ite_self]
    exact ⟨_, rfl⟩
  · rw [if_neg c]
    simp only [s_takeF hM hf, bnV_s]
    exact ⟨_, rfl⟩
/-! text: the reference's options -/
def RD (σ : zS) (m c : Nat) (l : Nat → Int) : Prop := ∀ j, j < 32 → zai σ (m + 19) (32 * c + j) = iI (l j)
theorem RD.fr {P : Nat → Prop} {σ τ : zS} {m c : Nat} {l : Nat → Int} (h : RD σ m c l) (g : zFr P σ τ) (hn : ¬ P (m + 19)) : RD τ m c l := fun j hj => (g.ai hn _).trans (h j hj)
theorem RD.st {σ : zS} {m c j : Nat} {l : Nat → Int} (h : RD σ m c l) (v : Int) : RD (zsa σ (m + 19) (32 * c + j) (iI v)) m c (upR l j v) := fun i hi => by
  rw [zai_sa]
  unfold upR
  by_cases e : i = j
  · rw [if_pos ⟨rfl, by omega⟩, if_pos e]
  · rw [if_neg (by omega), if_neg e]; exact h i hi
def b01 (a : Bool) : Int32 := if a then 1 else 0
def FL (σ : zS) (m : Nat) (a b c : Bool) : Prop := zi σ 611 m = b01 a ∧ zi σ 612 m = b01 b ∧ zi σ 613 m = b01 c
theorem b01_0 : ∀ a, (b01 a = 0) ↔ a = false := by decide
theorem kwO_c {t : Nat → Nat} {T : zTk} : (kwO t T = 0 ↔ eqW t T (nmW 15)) ∧ (kwO t T = 1 ↔ eqW t T (nmW 16)) ∧ (kwO t T = 2 ↔ eqW t T (nmW 17)) ∧ kwO t T ≤ 3 := by
  have l15 : (nmW 15).length = 7 := rfl
  have l16 : (nmW 16).length = 4 := rfl
  have l17 : (nmW 17).length = 3 := rfl
  have hle : kwO t T ≤ 3 := (fnd_le _ 3 0).2
  refine ⟨?_, ?_, ?_, hle⟩ <;> unfold kwO
  · by_cases e0 : eqW t T (nmW 15)
    · rw [fnd_s (decide_eq_true e0)]; exact ⟨fun _ => e0, fun _ => rfl⟩
    · rw [fnd_n (fun q => e0 (of_decide_eq_true q))]
      have := (fnd_le (fun k => decide (eqW t T (nmW (15 + k)))) 2 (0 + 1)).1
      exact ⟨fun q => by omega, fun q => absurd q e0⟩
  · by_cases e0 : eqW t T (nmW 15)
    · rw [fnd_s (decide_eq_true e0)]
      exact ⟨fun q => absurd q (by decide), fun q => by have := q.2.1; have := e0.2.1; omega⟩
    · rw [fnd_n (fun q => e0 (of_decide_eq_true q))]
      by_cases e1 : eqW t T (nmW 16)
      · rw [fnd_s (decide_eq_true e1)]; exact ⟨fun _ => e1, fun _ => rfl⟩
      · rw [fnd_n (fun q => e1 (of_decide_eq_true q))]
        have := (fnd_le (fun k => decide (eqW t T (nmW (15 + k)))) 1 (0 + 1 + 1)).1
        exact ⟨fun q => by omega, fun q => absurd q e1⟩
  · by_cases e0 : eqW t T (nmW 15)
    · rw [fnd_s (decide_eq_true e0)]
      exact ⟨fun q => absurd q (by decide), fun q => by have := q.2.1; have := e0.2.1; omega⟩
    · rw [fnd_n (fun q => e0 (of_decide_eq_true q))]
      by_cases e1 : eqW t T (nmW 16)
      · rw [fnd_s (decide_eq_true e1)]
        exact ⟨fun q => absurd q (by decide), fun q => by have := q.2.1; have := e1.2.1; omega⟩
      · rw [fnd_n (fun q => e1 (of_decide_eq_true q))]
        by_cases e2 : eqW t T (nmW 17)
        · rw [fnd_s (decide_eq_true e2)]; exact ⟨fun _ => e2, fun _ => rfl⟩
        · rw [fnd_n (fun q => e2 (of_decide_eq_true q))]
          exact ⟨fun q => absurd (show (3 : Nat) = 2 from q) (by decide), fun q => absurd q e2⟩
theorem s_modeAny {σ : zS} {m : Nat} (hM : MS σ m) (d : Nat) : ∃ v, zEv (d + 1) mX11_modeOf [.inr (.inl (some m))] σ = some (some (.inl v), σ) := by
  rw [vX11_modeOf]
  unfold fX11_modeOf
  simp only [chk_e, hM.k, if_true]
  repeat' split
  all_goals exact ⟨_, rfl⟩
/-- one option -/
theorem s_option {σ : zS} {m n k : Nat} {t : Nat → Nat} {T : zTk} {l : Nat → Int} {a b c : Bool} (h : RT σ m n t) (hR : RW σ m t T) (hT : TkG n t T) (hf : zi σ 608 m = -1009) (h1 : kK T = 1) (hk : k < 8) (hF : FL σ m a b c) (hD : RD σ m k l) (d : Nat) :
    ∃ τ, zEv (d + 6) mX11_readOption [.inr (.inl (some m)), .inl (nI (32 * k))] σ = some (none, τ) ∧ zFr (fun x => x = m ∨ x = m + 19) σ τ ∧ (∀ f, f < 603 ∨ f = 610 → zi τ f m = zi σ f m) ∧ (∀ p, p < 32 * k → zai τ (m + 19) p = zai σ (m + 19) p) ∧
      (kwO t T = 0 ∧ a = false → ((pN n t 0 100 (nx n t (kE T))).1 = true → zi τ 608 m = -1009 ∧ RW τ m t (pN n t 0 100 (nx n t (kE T))).2.1 ∧ RD τ m k (upR l 4 (pN n t 0 100 (nx n t (kE T))).2.2) ∧ FL τ m true b c) ∧ (¬ (pN n t 0 100 (nx n t (kE T))).1 = true → zi τ 608 m = nI (kS (pN n t 0 100 (nx n t (kE T))).2.1))) ∧
      (kwO t T = 1 ∧ b = false → (kwM t (nx n t (kE T)) < 8 → zi τ 608 m = -1009 ∧ RW τ m t (nx n t (kE (nx n t (kE T)))) ∧ RD τ m k (upR l 3 (kwM t (nx n t (kE T)))) ∧ FL τ m a true c) ∧ (¬ kwM t (nx n t (kE T)) < 8 → zi τ 608 m = nI (kS (nx n t (kE T))))) ∧
      (kwO t T = 2 ∧ c = false → zi τ 608 m = -1009 ∧ RW τ m t (nx n t (kE T)) ∧ RD τ m k (upR l 5 0) ∧ FL τ m a b true) ∧
      (¬ (kwO t T = 0 ∧ a = false) → ¬ (kwO t T = 1 ∧ b = false) → ¬ (kwO t T = 2 ∧ c = false) → zi τ 608 m = nI (kS T)) := by
  have hn := h.2.2.2.1
  have hw := hR.2.2.2.2 h1
  obtain ⟨o0, o1, o2, o3⟩ := kwO_c (t := t) (T := T)
  have c0 : (lg_cmp (zl σ 606 m) 6041487463 = 0) ↔ kwO t T = 0 := by rw [hw, o0]; exact lc_W hT h1 (by decide) (by decide) (by decide)
  have c1 : (lg_cmp (zl σ 606 m) 266927 = 0) ↔ kwO t T = 1 := by rw [hw, o1]; exact lc_W hT h1 (by decide) (by decide) (by decide)
  have c2 : (lg_cmp (zl σ 606 m) 11103 = 0) ↔ kwO t T = 2 := by rw [hw, o2]; exact lc_W hT h1 (by decide) (by decide) (by decide)
  have b1 : zB 1 = True := eq_true (Or.inr rfl)
  have hT1 := nx_G (t := t) hT.2.2.1
  have sx : ∀ j : Nat, j < 32 → (nI (32 * k) + nI j).toNatClampNeg = 32 * k + j ∧ (zin (nI (32 * k) + nI j) 256 = True) := fun j hj => by
    rw [nI_add, n_tn (by omega)]
    exact ⟨rfl, eq_true ((n_zin (by omega)).mpr (by omega))⟩
  have sx3 : (nI (32 * k) + 3).toNatClampNeg = 32 * k + 3 ∧ (zin (nI (32 * k) + 3) 256 = True) := sx 3 (by decide)
  have sx4 : (nI (32 * k) + 4).toNatClampNeg = 32 * k + 4 ∧ (zin (nI (32 * k) + 4) 256 = True) := sx 4 (by decide)
  have sx5 : (nI (32 * k) + 5).toNatClampNeg = 32 * k + 5 ∧ (zin (nI (32 * k) + 5) 256 = True) := sx 5 (by decide)
  have hsT : kS T ≤ 1000 := by have := hT.2.1; have := hT.2.2.1; omega
  have hsT1 : kS (nx n t (kE T)) ≤ 1000 := by have := hT1.2.1; have := hT1.2.2.1; omega
  -- the last road: the word must be "off", once
  have off : ¬ (kwO t T = 0 ∧ a = false) → ¬ (kwO t T = 1 ∧ b = false) → ∃ τ, LX11_readOption_115 (zEv (d + 5)) m (nI (32 * k)) σ = some (none, τ) ∧ zFr (fun x => x = m ∨ x = m + 19) σ τ ∧ (∀ f, f < 603 ∨ f = 610 → zi τ f m = zi σ f m) ∧ (∀ p, p < 32 * k → zai τ (m + 19) p = zai σ (m + 19) p) ∧ (kwO t T = 2 ∧ c = false → zi τ 608 m = -1009 ∧ RW τ m t (nx n t (kE T)) ∧ RD τ m k (upR l 5 0) ∧ FL τ m a b true) ∧ (¬ (kwO t T = 2 ∧ c = false) → zi τ 608 m = nI (kS T)) := by
    intro n0 n1
    have no : ¬ (kwO t T = 2 ∧ c = false) → ∃ τ, LX11_readOption_139 (zEv (d + 5)) m (nI (32 * k)) (some m) 0 σ = some (none, τ) ∧ zFr (fun x => x = m ∨ x = m + 19) σ τ ∧ (∀ f, f < 603 ∨ f = 610 → zi τ f m = zi σ f m) ∧ (∀ p, p < 32 * k → zai τ (m + 19) p = zai σ (m + 19) p) ∧ (kwO t T = 2 ∧ c = false → zi τ 608 m = -1009 ∧ RW τ m t (nx n t (kE T)) ∧ RD τ m k (upR l 5 0) ∧ FL τ m a b true) ∧ (¬ (kwO t T = 2 ∧ c = false) → zi τ 608 m = nI (kS T)) := by
      intro n2
      rw [uX11_readOption_139]
      simp only [onR_s, chk_e, h.1.k, if_true, s_takeN h.1 hR.2.1 hsT hf (d + 3), bnV_s, zlt_e, zkd_si, zr_si, zln_si, b1, and_self, h.1.dr.1, h.1.dr.2.1, h.1.dr.2.2, sx5.1, sx5.2]
      refine ⟨_, rfl, ((zFr.si (P := fun x => x = m ∨ x = m + 19) σ (Or.inl rfl)).tr (zFr.si _ (Or.inl rfl))).tr (zFr.sa _ (Or.inr rfl)), fun f hf' => by rw [zi_sa, zi_si, if_neg (by omega), zi_si, if_neg (by omega)], fun p hp => by rw [zai_sa, if_neg (by omega), zai_si, zai_si], fun q => absurd q n2, fun _ => by rw [zi_sa, zi_si, if_neg (by omega), zi_si, if_pos ⟨rfl, rfl⟩]⟩
    rw [uX11_readOption_115]
    simp only [chk_e, h.1.k, if_true, c2, hF.2.2, b01_0]
    by_cases e2 : kwO t T = 2
    · rw [if_pos e2]
      by_cases ec : c = false
      · rw [if_pos ec, uX11_readOption_139]
        obtain ⟨τ, k1, k2, k3, k4⟩ := s_takeY h hR hT hf (d + 1)
        have k1' : zEv (d + 5) mX11_take [.inr (.inl (some m)), .inl 1] σ = some (none, τ) := k1
        have hM' := h.1.fr k2
        simp only [onR_s, chk_e, h.1.k, if_true, k1', bnV_s, zlt_e, hM'.k, zkd_si, zr_si, zln_si, b1, and_self, hM'.dr.1, hM'.dr.2.1, hM'.dr.2.2, sx5.1, sx5.2]
        have hD' : RD (zsi τ 613 m 1) m k l := (hD.fr k2 (by omega)).fr (zFr.si (P := fun x => x = m) τ rfl) (by omega)
        refine ⟨_, rfl, ((k2.mono (fun x hx => Or.inl hx)).tr (zFr.si _ (Or.inl rfl))).tr (zFr.sa _ (Or.inr rfl)), fun f hf' => by rw [zi_sa, zi_si, if_neg (by omega)]; exact k3 f (by unfold inTk; omega), fun p hp => by rw [zai_sa, if_neg (by omega), zai_si]; exact k2.ai (by omega) p, fun _ => ⟨?_, ?_, hD'.st 0, ?_⟩, fun q => absurd ⟨e2, ec⟩ q⟩
        · rw [zi_sa, zi_si, if_neg (by omega)]; exact (k3 608 (by unfold inTk; omega)).trans hf
        · exact k4.to (fun f _ _ => by rw [zi_sa, zi_si, if_neg (by omega)]) (by rw [zl_sa, zl_si])
        · refine ⟨?_, ?_, ?_⟩
          · rw [zi_sa, zi_si, if_neg (by omega)]; exact (k3 611 (by unfold inTk; omega)).trans hF.1
          · rw [zi_sa, zi_si, if_neg (by omega)]; exact (k3 612 (by unfold inTk; omega)).trans hF.2.1
          · rw [zi_sa, zi_si, if_pos ⟨rfl, rfl⟩]; rfl
      · rw [if_neg ec]
        exact no (fun q => ec q.2)
    · rw [if_neg e2]
      exact no (fun q => e2 q.1)
  -- "mode", once
  have md : ¬ (kwO t T = 0 ∧ a = false) → ∃ τ, LX11_readOption_46 (zEv (d + 5)) m (nI (32 * k)) σ = some (none, τ) ∧ zFr (fun x => x = m ∨ x = m + 19) σ τ ∧ (∀ f, f < 603 ∨ f = 610 → zi τ f m = zi σ f m) ∧ (∀ p, p < 32 * k → zai τ (m + 19) p = zai σ (m + 19) p) ∧
      (kwO t T = 1 ∧ b = false → (kwM t (nx n t (kE T)) < 8 → zi τ 608 m = -1009 ∧ RW τ m t (nx n t (kE (nx n t (kE T)))) ∧ RD τ m k (upR l 3 (kwM t (nx n t (kE T)))) ∧ FL τ m a true c) ∧ (¬ kwM t (nx n t (kE T)) < 8 → zi τ 608 m = nI (kS (nx n t (kE T))))) ∧
      (kwO t T = 2 ∧ c = false → zi τ 608 m = -1009 ∧ RW τ m t (nx n t (kE T)) ∧ RD τ m k (upR l 5 0) ∧ FL τ m a b true) ∧
      (¬ (kwO t T = 1 ∧ b = false) → ¬ (kwO t T = 2 ∧ c = false) → zi τ 608 m = nI (kS T)) := by
    intro n0
    have other : ¬ (kwO t T = 1 ∧ b = false) → ∃ τ, LX11_readOption_115 (zEv (d + 5)) m (nI (32 * k)) σ = some (none, τ) ∧ zFr (fun x => x = m ∨ x = m + 19) σ τ ∧ (∀ f, f < 603 ∨ f = 610 → zi τ f m = zi σ f m) ∧ (∀ p, p < 32 * k → zai τ (m + 19) p = zai σ (m + 19) p) ∧
      (kwO t T = 1 ∧ b = false → (kwM t (nx n t (kE T)) < 8 → zi τ 608 m = -1009 ∧ RW τ m t (nx n t (kE (nx n t (kE T)))) ∧ RD τ m k (upR l 3 (kwM t (nx n t (kE T)))) ∧ FL τ m a true c) ∧ (¬ kwM t (nx n t (kE T)) < 8 → zi τ 608 m = nI (kS (nx n t (kE T))))) ∧
      (kwO t T = 2 ∧ c = false → zi τ 608 m = -1009 ∧ RW τ m t (nx n t (kE T)) ∧ RD τ m k (upR l 5 0) ∧ FL τ m a b true) ∧
      (¬ (kwO t T = 1 ∧ b = false) → ¬ (kwO t T = 2 ∧ c = false) → zi τ 608 m = nI (kS T)) := fun n1 => by
      obtain ⟨τ, k1, k2, k3, k4, k5, k6⟩ := off n0 n1
      exact ⟨τ, k1, k2, k3, k4, fun q => absurd q n1, k5, fun _ q => k6 q⟩
    rw [uX11_readOption_46]
    simp only [chk_e, h.1.k, if_true, c1, hF.2.1, b01_0]
    by_cases e1 : kwO t T = 1
    · rw [if_pos e1]
      by_cases eb : b = false
      · rw [if_pos eb]
        have g0 : zFr (fun x => x = m) σ (zsi σ 612 m 1) := zFr.si σ rfl
        have h0 : RT (zsi σ 612 m 1) m n t := h.fr g0 (by omega) (by rw [zi_si, if_neg (by omega)])
        have hR0 : RW (zsi σ 612 m 1) m t T := hR.to (fun f _ _ => by rw [zi_si, if_neg (by omega)]) (by rw [zl_si])
        obtain ⟨τ, k1, k2, k3, k4⟩ := s_takeY h0 hR0 hT (by rw [zi_si, if_neg (by omega)]; exact hf) (d + 1)
        have k1' : zEv (d + 5) mX11_take [.inr (.inl (some m)), .inl 1] (zsi σ 612 m 1) = some (none, τ) := k1
        have h' : RT τ m n t := h0.fr k2 (by omega) (k3 _ (by unfold inTk; omega))
        have f8 : zi τ 608 m = -1009 := (k3 608 (by unfold inTk; omega)).trans (by rw [zi_si, if_neg (by omega)]; exact hf)
        have gi : ∀ f, ¬ inTk f → f ≠ 612 → zi τ f m = zi σ f m := fun f hf' h6 => (k3 f hf').trans (by rw [zi_si, if_neg (by omega)])
        have g12 : zi τ 612 m = b01 true := (k3 612 (by unfold inTk; omega)).trans (by rw [zi_si, if_pos ⟨rfl, rfl⟩]; rfl)
        have gg := g0.tr k2
        have q1 : (nI (kK (nx n t (kE T))) = 1) ↔ kK (nx n t (kE T)) = 1 := n_eq (by have := hT1.1; omega) (by decide)
        have bad : ∀ v : Int32, ∃ υ, LX11_readOption_99 (zEv (d + 5)) m (nI (32 * k)) v (some m) τ = some (none, υ) ∧ zFr (fun x => x = m ∨ x = m + 19) σ υ ∧ (∀ f, f < 603 ∨ f = 610 → zi υ f m = zi σ f m) ∧ (∀ p, p < 32 * k → zai υ (m + 19) p = zai σ (m + 19) p) ∧ zi υ 608 m = nI (kS (nx n t (kE T))) := fun v => by
          rw [uX11_readOption_99]
          simp only [onR_s, chk_e, h'.1.k, if_true, s_takeN h'.1 k4.2.1 hsT1 f8 (d + 3), bnV_s, zlt_e, zkd_si, zr_si, zln_si, and_self, h'.1.dr.1, h'.1.dr.2.1, h'.1.dr.2.2, sx3.1, sx3.2]
          refine ⟨_, rfl, ((gg.mono (fun x hx => Or.inl hx)).tr (zFr.si _ (Or.inl rfl))).tr (zFr.sa _ (Or.inr rfl)), fun f hf' => by rw [zi_sa, zi_si, if_neg (by omega)]; exact gi f (by unfold inTk; omega) (by omega), fun p hp => by rw [zai_sa, if_neg (by omega), zai_si]; exact gg.ai (by omega) p, by rw [zi_sa, zi_si, if_pos ⟨rfl, rfl⟩]⟩
        have fin : ∀ υ X, X = some ((none : Option zV), υ) → zFr (fun x => x = m ∨ x = m + 19) σ υ → (∀ f, f < 603 ∨ f = 610 → zi υ f m = zi σ f m) → (∀ p, p < 32 * k → zai υ (m + 19) p = zai σ (m + 19) p) → zi υ 608 m = nI (kS (nx n t (kE T))) → ¬ kwM t (nx n t (kE T)) < 8 → ∃ τ, X = some (none, τ) ∧ zFr (fun x => x = m ∨ x = m + 19) σ τ ∧ (∀ f, f < 603 ∨ f = 610 → zi τ f m = zi σ f m) ∧ (∀ p, p < 32 * k → zai τ (m + 19) p = zai σ (m + 19) p) ∧
      (kwO t T = 1 ∧ b = false → (kwM t (nx n t (kE T)) < 8 → zi τ 608 m = -1009 ∧ RW τ m t (nx n t (kE (nx n t (kE T)))) ∧ RD τ m k (upR l 3 (kwM t (nx n t (kE T)))) ∧ FL τ m a true c) ∧ (¬ kwM t (nx n t (kE T)) < 8 → zi τ 608 m = nI (kS (nx n t (kE T))))) ∧
      (kwO t T = 2 ∧ c = false → zi τ 608 m = -1009 ∧ RW τ m t (nx n t (kE T)) ∧ RD τ m k (upR l 5 0) ∧ FL τ m a b true) ∧
      (¬ (kwO t T = 1 ∧ b = false) → ¬ (kwO t T = 2 ∧ c = false) → zi τ 608 m = nI (kS T)) := fun υ X x1 x2 x3 x4 x5 x6 => ⟨υ, x1, x2, x3, x4, fun _ => ⟨fun q => absurd q x6, fun _ => x5⟩, fun q => by have := q.1; omega, fun q => absurd ⟨e1, eb⟩ q⟩
        simp only [zlt_e, b1, and_self, if_true, zkd_si, h.1.k, k1', bnV_s, h'.1.k]
        by_cases e5 : kK (nx n t (kE T)) = 1
        · simp only [s_modeOf h'.1 k4 hT1 e5 (d + 4), bnI_s, k4.1, q1, if_pos e5, h'.1.k, if_true]
          by_cases em : kwM t (nx n t (kE T)) < 8
          · have nm : ¬ (nI (kwM t (nx n t (kE T))) = -1009) := nI_err (by omega)
            obtain ⟨υ, l1, l2, l3, l4⟩ := s_takeY h' k4 hT1 f8 (d + 1)
            have l1' : zEv (d + 5) mX11_take [.inr (.inl (some m)), .inl 1] τ = some (none, υ) := l1
            have hM2 := h'.1.fr l2
            simp only [if_pos em, nm, if_false, h'.1.k, l1', bnV_s, hM2.k, hM2.dr.1, hM2.dr.2.1, hM2.dr.2.2, onR_s, sx3.1, sx3.2, and_self, if_true]
            have hD' : RD υ m k l := (hD.fr gg (by omega)).fr l2 (by omega)
            have gi2 : ∀ f, ¬ inTk f → f ≠ 612 → zi υ f m = zi σ f m := fun f a b => (l3 f a).trans (gi f a b)
            refine ⟨_, rfl, ((gg.tr l2).mono (fun x hx => Or.inl hx)).tr (zFr.sa _ (Or.inr rfl)), fun f hf' => by rw [zi_sa]; exact gi2 f (by unfold inTk; omega) (by omega), fun p hp => by rw [zai_sa, if_neg (by omega)]; exact (gg.tr l2).ai (by omega) p, fun _ => ⟨fun _ => ⟨?_, ?_, ?_, ?_⟩, fun q => absurd em q⟩, fun q => by have := q.1; omega, fun q => absurd ⟨e1, eb⟩ q⟩
            · rw [zi_sa]; exact (l3 608 (by unfold inTk; omega)).trans f8
            · exact l4.to (fun f _ _ => by rw [zi_sa]) (by rw [zl_sa])
            · rw [i_nI]; exact hD'.st _
            · exact ⟨by rw [zi_sa]; exact (gi2 611 (by unfold inTk; omega) (by omega)).trans hF.1, by rw [zi_sa]; exact (l3 612 (by unfold inTk; omega)).trans g12, by rw [zi_sa]; exact (gi2 613 (by unfold inTk; omega) (by omega)).trans hF.2.2⟩
          · simp only [if_neg em, h'.1.k, if_true]
            obtain ⟨υ, x1, x2, x3, x4, x5⟩ := bad (-1009)
            exact fin υ _ x1 x2 x3 x4 x5 em
        · obtain ⟨v, hv⟩ := s_modeAny h'.1 (d + 4)
          simp only [hv, bnI_s, k4.1, q1, if_neg e5, h'.1.k, if_true]
          obtain ⟨υ, x1, x2, x3, x4, x5⟩ := bad v
          have em : ¬ kwM t (nx n t (kE T)) < 8 := fun q => by
            have : ∀ f i, (∀ k, ¬ eqW t (nx n t (kE T)) (nmW (18 + k))) → fnd (fun k => decide (eqW t (nx n t (kE T)) (nmW (18 + k)))) f i = i + f := by
              intro f
              induction f with
              | zero => intro i _; rfl
              | succ f ih => intro i hh; rw [fnd_n (fun q => hh i (of_decide_eq_true q)), ih _ hh]; omega
            have := this 8 0 (fun k q => e5 q.1)
            unfold kwM at q
            omega
          exact fin υ _ x1 x2 x3 x4 x5 em
      · rw [if_neg eb]
        exact other (fun q => eb q.2)
    · rw [if_neg e1]
      exact other (fun q => e1 q.1)
  have rest : ¬ (kwO t T = 0 ∧ a = false) → ∃ τ, LX11_readOption_46 (zEv (d + 5)) m (nI (32 * k)) σ = some (none, τ) ∧ zFr (fun x => x = m ∨ x = m + 19) σ τ ∧ (∀ f, f < 603 ∨ f = 610 → zi τ f m = zi σ f m) ∧ (∀ p, p < 32 * k → zai τ (m + 19) p = zai σ (m + 19) p) ∧
      (kwO t T = 0 ∧ a = false → ((pN n t 0 100 (nx n t (kE T))).1 = true → zi τ 608 m = -1009 ∧ RW τ m t (pN n t 0 100 (nx n t (kE T))).2.1 ∧ RD τ m k (upR l 4 (pN n t 0 100 (nx n t (kE T))).2.2) ∧ FL τ m true b c) ∧ (¬ (pN n t 0 100 (nx n t (kE T))).1 = true → zi τ 608 m = nI (kS (pN n t 0 100 (nx n t (kE T))).2.1))) ∧
      (kwO t T = 1 ∧ b = false → (kwM t (nx n t (kE T)) < 8 → zi τ 608 m = -1009 ∧ RW τ m t (nx n t (kE (nx n t (kE T)))) ∧ RD τ m k (upR l 3 (kwM t (nx n t (kE T)))) ∧ FL τ m a true c) ∧ (¬ kwM t (nx n t (kE T)) < 8 → zi τ 608 m = nI (kS (nx n t (kE T))))) ∧
      (kwO t T = 2 ∧ c = false → zi τ 608 m = -1009 ∧ RW τ m t (nx n t (kE T)) ∧ RD τ m k (upR l 5 0) ∧ FL τ m a b true) ∧
      (¬ (kwO t T = 0 ∧ a = false) → ¬ (kwO t T = 1 ∧ b = false) → ¬ (kwO t T = 2 ∧ c = false) → zi τ 608 m = nI (kS T)) := fun n0 => by
    obtain ⟨τ, k1, k2, k3, k4, k5, k6, k7⟩ := md n0
    exact ⟨τ, k1, k2, k3, k4, fun q => absurd q n0, k5, k6, fun _ => k7⟩
  rw [vX11_readOption]
  unfold fX11_readOption
  simp only [chk_e, h.1.k, if_true, c0, hF.1, b01_0]
  by_cases e0 : kwO t T = 0
  · rw [if_pos e0]
    by_cases ea : a = false
    · rw [if_pos ea]
      have g0 : zFr (fun x => x = m) σ (zsi σ 611 m 1) := zFr.si σ rfl
      have h0 : RT (zsi σ 611 m 1) m n t := h.fr g0 (by omega) (by rw [zi_si, if_neg (by omega)])
      have hR0 : RW (zsi σ 611 m 1) m t T := hR.to (fun f _ _ => by rw [zi_si, if_neg (by omega)]) (by rw [zl_si])
      obtain ⟨τ, k1, k2, k3, k4⟩ := s_takeY h0 hR0 hT (by rw [zi_si, if_neg (by omega)]; exact hf) (d + 1)
      have k1' : zEv (d + 5) mX11_take [.inr (.inl (some m)), .inl 1] (zsi σ 611 m 1) = some (none, τ) := k1
      have h' : RT τ m n t := h0.fr k2 (by omega) (k3 _ (by unfold inTk; omega))
      have f8 : zi τ 608 m = -1009 := (k3 608 (by unfold inTk; omega)).trans (by rw [zi_si, if_neg (by omega)]; exact hf)
      obtain ⟨υ, v, l1, l2, l3, l4, l5⟩ := s_mnum (lo := 0) (hi := 100) h' k4 hT1 (by decide) (by decide) f8 d
      have l1' : zEv (d + 5) mX11_readNumber [.inr (.inl (some m)), .inl 0, .inl 100] τ = some (some (.inl v), υ) := l1
      have hM2 := h'.1.fr l2
      have gi : ∀ f, ¬ inTk f → f ≠ 611 → f ≠ 608 → zi υ f m = zi σ f m := fun f a b c => ((l3 f a c).trans (k3 f a)).trans (by rw [zi_si, if_neg (by omega)])
      have g11 : zi υ 611 m = b01 true := ((l3 611 (by unfold inTk; omega) (by omega)).trans (k3 611 (by unfold inTk; omega))).trans (by rw [zi_si, if_pos ⟨rfl, rfl⟩]; rfl)
      have gg := (g0.tr k2).tr l2
      have hD' : RD υ m k l := hD.fr gg (by omega)
      simp only [zlt_e, b1, and_self, if_true, zkd_si, h.1.k, k1', bnV_s, h'.1.k, l1', bnI_s, h'.1.dr.1, hM2.dr.2.1, hM2.dr.2.2, onR_s, sx4.1, sx4.2]
      refine ⟨_, rfl, (gg.mono (fun x hx => Or.inl hx)).tr (zFr.sa _ (Or.inr rfl)), fun f hf' => by rw [zi_sa]; exact gi f (by unfold inTk; omega) (by omega) (by omega), fun p hp => by rw [zai_sa, if_neg (by omega)]; exact gg.ai (by omega) p, fun _ => ⟨fun hN => ?_, fun hN => by rw [zi_sa]; exact l5 hN⟩, fun q => by have := q.1; omega, fun q => by have := q.1; omega, fun q => absurd ⟨e0, ea⟩ q⟩
      obtain ⟨m1, m2, m3⟩ := l4 hN
      refine ⟨by rw [zi_sa]; exact m2, m3.to (fun f _ _ => by rw [zi_sa]) (by rw [zl_sa]), by rw [m1]; exact hD'.st _, by rw [zi_sa]; exact g11, by rw [zi_sa]; exact (gi 612 (by unfold inTk; omega) (by omega) (by omega)).trans hF.2.1, by rw [zi_sa]; exact (gi 613 (by unfold inTk; omega) (by omega) (by omega)).trans hF.2.2⟩
    · rw [if_neg ea]
      exact rest (fun q => ea q.2)
  · rw [if_neg e0]
    exact rest (fun q => e0 q.1)
