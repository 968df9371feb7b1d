/-! text: the reference's tokens -/
def inTk (f : Nat) : Prop := f = 603 ∨ f = 604 ∨ f = 605 ∨ f = 607
theorem s_advance {σ : zS} {m n e : Nat} {t : Nat → Nat} (h : RT σ m n t) (h3 : zi σ 603 m = nI e) (he : e ≤ n) (d : Nat) : ∃ τ, zEv (d + 3) mX11_advance [.inr (.inl (some m))] σ = some (none, τ) ∧ zFr (fun a => a = m) σ τ ∧ (∀ f, ¬ inTk f → zi τ f m = zi σ f m) ∧ RW τ m t (nx n t e) := by
  have hn := h.2.2.2.1
  have p0 := rn_p n t 32 32 e
  have fin : ∀ s τ, s ≤ n → ¬ (s < n ∧ 32 ≤ t s ∧ t s ≤ 32) → zFr (fun a => a = m) σ τ → (∀ f, ¬ inTk f → zi τ f m = zi σ f m) → zi τ 603 m = nI s → ∃ υ, LX11_advance_0 (zEv (d + 2)) m τ = some (none, υ) ∧ zFr (fun a => a = m) σ υ ∧ (∀ f, ¬ inTk f → zi υ f m = zi σ f m) ∧ RW υ m t (tkAt n t s) := by
    intro s τ hs hin g gi g3
    have h' : RT τ m n t := h.fr g (by omega) (gi _ (by unfold inTk; omega))
    have q32 : (iI (heI n t s) = 32) ↔ (s < n ∧ 32 ≤ t s ∧ t s ≤ 32) := by
      have hq : (iI (heI n t s) = iI 32) ↔ heI n t s = 32 := by
        unfold heI
        by_cases q : s < n
        · have := h.2.2.2.2 s q
          rw [if_pos q]
          exact i_eq (by omega) (by omega) (by omega) (by omega)
        · rw [if_neg q]
          exact i_eq (by omega) (by omega) (by omega) (by omega)
      refine hq.trans ?_
      unfold heI
      by_cases q : s < n
      · rw [if_pos q]; omega
      · rw [if_neg q]; omega
    have g4 : zFr (fun a => a = m) τ (zsi τ 604 m (nI s)) := zFr.si τ rfl
    have h4 : RT (zsi τ 604 m (nI s)) m n t := h'.fr g4 (by omega) (by rw [zi_si, if_neg (by omega)])
    have i3 : zi (zsi τ 604 m (nI s)) 603 m = nI s := by rw [zi_si, if_neg (by omega)]; exact g3
    have i4 : zi (zsi τ 604 m (nI s)) 604 m = nI s := by rw [zi_si, if_pos ⟨rfl, rfl⟩]
    have gi4 : ∀ f, ¬ inTk f → zi (zsi τ 604 m (nI s)) f m = zi σ f m := fun f hf => by rw [zi_si, if_neg (by unfold inTk at hf; omega)]; exact gi f hf
    have gg := g.tr g4
    rw [uX11_advance_0]
    simp only [chk_e, h'.1.k, if_true, s_here h' g3 (show s < 1000 by omega), bnI_s, q32, hin, if_false, zlt_e, g3, h4.1.k, s_here h4 i3 (show s < 1000 by omega)]
    generalize zsi τ 604 m (nI s) = τ1 at *
    by_cases hsn : s < n
    · have ht := h.2.2.2.2 s hsn
      have eh : heI n t s = t s := if_pos hsn
      have q0 : ¬ (iI (heI n t s) < 0) := by
        rw [eh]
        exact fun q => absurd ((i_lt (b := 0) (by omega) (by omega) (by decide) (by decide)).mp q) (by omega)
      have qa := heI_in (n := n) (t := t) (i := s) (lo := 97) (hi := 122) h.2.2.2.2 (by decide) (by decide)
      have qa' : ((97 : Int32) ≤ iI (heI n t s) ∧ iI (heI n t s) ≤ 122) ↔ _ := qa
      have qd := heI_in (n := n) (t := t) (i := s) (lo := 48) (hi := 57) h.2.2.2.2 (by decide) (by decide)
      have qd' : ((48 : Int32) ≤ iI (heI n t s) ∧ iI (heI n t s) ≤ 57) ↔ _ := qd
      rw [if_neg q0]
      simp only [s_in, bnI_s, zb_0, qa', qd']
      by_cases ha : 97 ≤ t s ∧ t s ≤ 122
      · have hx : s < n ∧ 97 ≤ t s ∧ t s ≤ 122 := ⟨hsn, ha⟩
        rw [if_neg (fun q => q hx)]
        obtain ⟨υ, k1, k2, k3, k4, k5, k6⟩ := s_readWord h4 i3 i4 hs d
        simp only [h4.1.k, if_true, k1, bnV_s]
        have ek : tkAt n t s = (1, s, rn n t 97 122 s, 0) := by
          unfold tkAt
          rw [if_pos hsn, if_pos ha]
        rw [ek]
        exact ⟨υ, rfl, gg.tr k2, fun f hf => (k3 f (by unfold inTk at hf; omega) (by unfold inTk at hf; omega)).trans (gi4 f hf), k4, (k3 604 (by omega) (by omega)).trans i4, k5, fun q => absurd (show (1 : Nat) = 2 from q) (by decide), fun _ => k6⟩
      · have hx : ¬ (s < n ∧ 97 ≤ t s ∧ t s ≤ 122) := fun q => ha q.2
        rw [if_pos hx]
        by_cases hd : 48 ≤ t s ∧ t s ≤ 57
        · have hy : s < n ∧ 48 ≤ t s ∧ t s ≤ 57 := ⟨hsn, hd⟩
          rw [if_neg (fun q => q hy)]
          obtain ⟨υ, k1, k2, k3, k4, k5, k6⟩ := s_readDigits h4 i3 i4 hsn d
          simp only [h4.1.k, if_true, k1, bnV_s]
          have ek : tkAt n t s = if isNum t s (rn n t 48 57 s) then (2, s, rn n t 48 57 s, dv t s (rn n t 48 57 s - s)) else (5, s, rn n t 48 57 s, 0) := by
            unfold tkAt
            rw [if_pos hsn, if_neg ha, if_pos hd]
          rw [ek]
          refine ⟨υ, rfl, gg.tr k2, fun f hf => (k3 f (by unfold inTk at hf; omega) (by unfold inTk at hf; omega) (by unfold inTk at hf; omega)).trans (gi4 f hf), ?_⟩
          have e604 := (k3 604 (by omega) (by omega) (by omega)).trans i4
          by_cases hN : isNum t s (rn n t 48 57 s)
          · rw [if_pos hN] at k4
            rw [if_pos hN]
            exact ⟨k4, e604, k5, fun _ => k6 hN, fun q => absurd (show (2 : Nat) = 1 from q) (by decide)⟩
          · rw [if_neg hN] at k4
            rw [if_neg hN]
            exact ⟨k4, e604, k5, fun q => absurd (show (5 : Nat) = 2 from q) (by decide), fun q => absurd (show (5 : Nat) = 1 from q) (by decide)⟩
        · have hy : ¬ (s < n ∧ 48 ≤ t s ∧ t s ≤ 57) := fun q => hd q.2
          rw [if_pos hy]
          have ek : tkAt n t s = ((if t s = 45 then 3 else if t s = 59 then 4 else 5), s, s + 1, 0) := by
            unfold tkAt
            rw [if_pos hsn, if_neg ha, if_neg hd]
          have q45 : (iI (heI n t s) = 45) ↔ t s = 45 := by
            rw [eh]
            have := i_eq (a := t s) (b := 45) (by omega) (by omega) (by decide) (by decide)
            exact this.trans (by omega)
          have q59 : (iI (heI n t s) = 59) ↔ t s = 59 := by
            rw [eh]
            have := i_eq (a := t s) (b := 59) (by omega) (by omega) (by decide) (by decide)
            exact this.trans (by omega)
          have key : ∀ v : Nat, v = (if t s = 45 then 3 else if t s = 59 then 4 else 5) → v ≠ 2 → v ≠ 1 → ∃ υ, (some (none, zsi (zsi τ1 605 m (nI v)) 603 m (nI s + 1)) : zO) = some (none, υ) ∧ zFr (fun a => a = m) σ υ ∧ (∀ f, ¬ inTk f → zi υ f m = zi σ f m) ∧ RW υ m t (tkAt n t s) := fun v hv v2 v1 => by
            rw [ek, ← hv]
            refine ⟨_, rfl, gg.tr ((zFr.si (P := fun a => a = m) τ1 rfl).tr (zFr.si _ rfl)), fun f hf => by rw [zi_si, if_neg (by unfold inTk at hf; omega), zi_si, if_neg (by unfold inTk at hf; omega)]; exact gi4 f hf, ?_, ?_, ?_, fun q => absurd q v2, fun q => absurd q v1⟩
            · rw [zi_si, if_neg (by omega), zi_si, if_pos ⟨rfl, rfl⟩]; rfl
            · rw [zi_si, if_neg (by omega), zi_si, if_neg (by omega)]; exact i4
            · rw [zi_si, if_pos ⟨rfl, rfl⟩]; exact nI_add s 1
          have e603 : ∀ v : Int32, zi (zsi τ1 605 m v) 603 m = nI s := fun v => by rw [zi_si, if_neg (by omega)]; exact i3
          simp only [q45, q59, h4.1.k, if_true, zkd_si, e603]
          by_cases a45 : t s = 45
          · rw [if_pos a45]
            exact key 3 (by rw [if_pos a45]) (by decide) (by decide)
          · rw [if_neg a45]
            by_cases a59 : t s = 59
            · rw [if_pos a59]
              exact key 4 (by rw [if_neg a45, if_pos a59]) (by decide) (by decide)
            · rw [if_neg a59]
              exact key 5 (by rw [if_neg a45, if_neg a59]) (by decide) (by decide)
    · have eh : heI n t s = -1 := if_neg hsn
      have q0 : iI (heI n t s) < 0 := by rw [eh]; decide
      rw [if_pos q0]
      have ek : tkAt n t s = (0, s, s, 0) := by
        unfold tkAt
        rw [if_neg hsn]
      rw [ek]
      exact ⟨_, rfl, gg.tr (zFr.si τ1 rfl), fun f hf => by rw [zi_si, if_neg (by unfold inTk at hf; omega)]; exact gi4 f hf, by rw [zi_si, if_pos ⟨rfl, rfl⟩]; rfl, by rw [zi_si, if_neg (by omega)]; exact i4, by rw [zi_si, if_neg (by omega)]; exact i3, fun q => absurd (show (0 : Nat) = 2 from q) (by decide), fun q => absurd (show (0 : Nat) = 1 from q) (by decide)⟩
  have lp : ∀ f i τ, i + f = n → rn n t 32 32 i = rn n t 32 32 e → zFr (fun a => a = m) σ τ → (∀ f, ¬ inTk f → zi τ f m = zi σ f m) → zi τ 603 m = nI i → ∃ υ, LX11_advance_0 (zEv (d + 2)) m τ = some (none, υ) ∧ zFr (fun a => a = m) σ υ ∧ (∀ f, ¬ inTk f → zi υ f m = zi σ f m) ∧ RW υ m t (nx n t e) := by
    intro f
    induction f with
    | zero =>
      intro i τ hi er g gi g3
      have hin : ¬ (i < n ∧ 32 ≤ t i ∧ t i ≤ 32) := by omega
      have := fin i τ (by omega) hin g gi g3
      unfold nx
      rw [← er, rn_n hin]
      exact this
    | succ f ih =>
      intro i τ hi er g gi g3
      by_cases hin : i < n ∧ 32 ≤ t i ∧ t i ≤ 32
      · have h' : RT τ m n t := h.fr g (by omega) (gi _ (by unfold inTk; omega))
        have eh : iI (heI n t i) = 32 := by
          have e : heI n t i = 32 := (if_pos hin.1).trans (by omega)
          rw [e]; rfl
        rw [uX11_advance_0]
        simp only [chk_e, h'.1.k, if_true, s_here h' g3 (show i < 1000 by omega), bnI_s, eh, zlt_e, g3, nI_1, nI_add]
        exact ih (i + 1) _ (by omega) (by rw [← er, rn_y hin]) (g.tr (zFr.si _ rfl)) (fun f hf => by rw [zi_si, if_neg (by unfold inTk at hf; omega)]; exact gi f hf) (by rw [zi_si, if_pos ⟨rfl, rfl⟩])
      · have := fin i τ (by omega) hin g gi g3
        unfold nx
        rw [← er, rn_n hin]
        exact this
  rw [vX11_advance]
  unfold fX11_advance
  exact lp (n - e) e σ (by omega) rfl (zFr.rf σ) (fun _ _ => rfl) h3
/-- a token is taken -/
theorem s_takeY {σ : zS} {m n : Nat} {t : Nat → Nat} {T : zTk} (h : RT σ m n t) (hR : RW σ m t T) (hT : TkG n t T) (hf : zi σ 608 m = -1009) (d : Nat) : ∃ τ, zEv (d + 4) mX11_take [.inr (.inl (some m)), .inl 1] σ = some (none, τ) ∧ zFr (fun a => a = m) σ τ ∧ (∀ f, ¬ inTk f → zi τ f m = zi σ f m) ∧ RW τ m t (nx n t (kE T)) := by
  obtain ⟨τ, k1, k2, k3, k4⟩ := s_advance h hR.2.2.1 hT.2.2.1 d
  have z1 : ((1 : Int32) = 0) = False := eq_false (by decide)
  rw [vX11_take]
  unfold fX11_take
  simp only [chk_e, h.1.k, if_true, s_isFine h.1, bnI_s, zb_0, hf, not_true_eq_false, if_false, z1, k1, bnV_s]
  exact ⟨τ, rfl, k2, k3, k4⟩
theorem nI_err {s : Nat} (h : s ≤ 1000) : ¬ (nI s = -1009) := fun q => by
  have e : (-1009 : Int32) = iI (-1009) := rfl
  rw [i_nI, e, i_eq (by omega) (by omega) (by omega) (by omega)] at q
  omega
theorem s_takeN {σ : zS} {m s : Nat} (hM : MS σ m) (h4 : zi σ 604 m = nI s) (hs : s ≤ 1000) (hf : zi σ 608 m = -1009) (d : Nat) : zEv (d + 2) mX11_take [.inr (.inl (some m)), .inl 0] σ = some (none, zsi σ 608 m (nI s)) := by
  have hM' : MS (zsi σ 608 m (nI s)) m := hM.fr (zFr.si (P := fun a => a = m) σ rfl)
  have e : zi (zsi σ 608 m (nI s)) 608 m = nI s := by rw [zi_si, if_pos ⟨rfl, rfl⟩]
  rw [vX11_take]
  unfold fX11_take
  simp only [chk_e, hM.k, if_true, s_isFine hM, bnI_s, zb_0, hf, not_true_eq_false, if_false, zlt_e, h4, hM'.k, s_isFine hM', e, nI_err hs, not_false_eq_true]
theorem s_takeF {σ : zS} {m : Nat} (hM : MS σ m) (hf : ¬ (zi σ 608 m = -1009)) (v : Int32) (d : Nat) : zEv (d + 2) mX11_take [.inr (.inl (some m)), .inl v] σ = some (none, σ) := by
  rw [vX11_take]
  unfold fX11_take
  simp only [chk_e, hM.k, if_true, s_isFine hM, bnI_s, zb_0, hf, not_false_eq_true]
/-! text: the reference's words and numbers -/
theorem s_kindOf {σ : zS} {m n : Nat} {t : Nat → Nat} {T : zTk} (hM : MS σ m) (hR : RW σ m t T) (hT : TkG n t T) (h1 : kK T = 1) (d : Nat) : zEv (d + 1) mX11_kindOf [.inr (.inl (some m))] σ = some (some (.inl (if kwK t T < 14 then nI (kwK t T) else -1009)), σ) := by
  have hw := hR.2.2.2.2 h1
  have c : ∀ k, k < 14 → ∀ c : Int64, c = Int64.ofInt (wN (nmW k) : Nat) → ((lg_cmp (zl σ 606 m) c = 0) ↔ eqW t T (nmW k)) := fun k hk c hc => by
    rw [hw]
    exact lc_W hT h1 (by omega) (by omega) hc
  rw [vX11_kindOf]
  unfold fX11_kindOf kwK
  simp only [chk_e, hM.k, if_true, c 0 (by decide) 175281103 (by decide), c 1 (by decide) 20431907448697 (by decide), c 2 (by decide) 37404236018 (by decide), c 3 (by decide) 4683428867939 (by decide), c 4 (by decide) 137017514 (by decide), c 5 (by decide) 5739329134687 (by decide), c 6 (by decide) 48699 (by decide), c 7 (by decide) 189278330 (by decide), c 8 (by decide) 62416067 (by decide), c 9 (by decide) 3022547 (by decide), c 10 (by decide) 7476678095 (by decide), c 11 (by decide) 218554355 (by decide), c 12 (by decide) 124995 (by decide), c 13 (by decide) 7657646453 (by decide)]
  have st : ∀ f i (X : zO), i + (f + 1) = 14 → (¬ eqW t T (nmW i) → X = some (some (.inl (if fnd (fun k => decide (eqW t T (nmW k))) f (i + 1) < 14 then nI (fnd (fun k => decide (eqW t T (nmW k))) f (i + 1)) else -1009)), σ)) → (if eqW t T (nmW i) then some (some (.inl (nI i)), σ) else X) = some (some (.inl (if fnd (fun k => decide (eqW t T (nmW k))) (f + 1) i < 14 then nI (fnd (fun k => decide (eqW t T (nmW k))) (f + 1) i) else -1009)), σ) := fun f i X hi hX => by
    by_cases e : eqW t T (nmW i)
    · rw [if_pos e, fnd_s (decide_eq_true e), if_pos (show i < 14 by omega)]
    · rw [if_neg e, fnd_n (fun q => e (of_decide_eq_true q))]
      exact hX e
  exact st 13 0 _ rfl fun _ => st 12 1 _ rfl fun _ => st 11 2 _ rfl fun _ => st 10 3 _ rfl fun _ => st 9 4 _ rfl fun _ => st 8 5 _ rfl fun _ => st 7 6 _ rfl fun _ => st 6 7 _ rfl fun _ => st 5 8 _ rfl fun _ => st 4 9 _ rfl fun _ => st 3 10 _ rfl fun _ => st 2 11 _ rfl fun _ => st 1 12 _ rfl fun _ => st 0 13 _ rfl fun _ => rfl
theorem s_modeOf {σ : zS} {m n : Nat} {t : Nat → Nat} {T : zTk} (hM : MS σ m) (hR : RW σ m t T) (hT : TkG n t T) (h1 : kK T = 1) (d : Nat) : zEv (d + 1) mX11_modeOf [.inr (.inl (some m))] σ = some (some (.inl (if kwM t T < 8 then nI (kwM t T) else -1009)), σ) := by
  have hw := hR.2.2.2.2 h1
  have c : ∀ k, k < 8 → ∀ c : Int64, c = Int64.ofInt (wN (nmW (18 + k)) : Nat) → ((lg_cmp (zl σ 606 m) c = 0) ↔ eqW t T (nmW (18 + k))) := fun k hk c hc => by
    rw [hw]
    exact lc_W hT h1 (by omega) (by omega) hc
  rw [vX11_modeOf]
  unfold fX11_modeOf kwM
  simp only [chk_e, hM.k, if_true, c 0 (by decide) 209220123 (by decide), c 1 (by decide) 144303426772 (by decide), c 2 (by decide) 274581644 (by decide), c 3 (by decide) 4782078311 (by decide), c 4 (by decide) 58289531 (by decide), c 5 (by decide) 33109423829609 (by decide), c 6 (by decide) 841 (by decide), c 7 (by decide) 206922222884 (by decide)]
  have st : ∀ f i (X : zO), i + (f + 1) = 8 → (¬ eqW t T (nmW (18 + i)) → X = some (some (.inl (if fnd (fun k => decide (eqW t T (nmW (18 + k)))) f (i + 1) < 8 then nI (fnd (fun k => decide (eqW t T (nmW (18 + k)))) f (i + 1)) else -1009)), σ)) → (if eqW t T (nmW (18 + i)) then some (some (.inl (nI i)), σ) else X) = some (some (.inl (if fnd (fun k => decide (eqW t T (nmW (18 + k)))) (f + 1) i < 8 then nI (fnd (fun k => decide (eqW t T (nmW (18 + k)))) (f + 1) i) else -1009)), σ) := fun f i X hi hX => by
    by_cases e : eqW t T (nmW (18 + i))
    · rw [if_pos e, fnd_s (decide_eq_true e), if_pos (show i < 8 by omega)]
    · rw [if_neg e, fnd_n (fun q => e (of_decide_eq_true q))]
      exact hX e
  exact st 7 0 _ rfl fun _ => st 6 1 _ rfl fun _ => st 5 2 _ rfl fun _ => st 4 3 _ rfl fun _ => st 3 4 _ rfl fun _ => st 2 5 _ rfl fun _ => st 1 6 _ rfl fun _ => st 0 7 _ rfl fun _ => rfl
theorem s_mnum {σ : zS} {m n : Nat} {t : Nat → Nat} {T : zTk} {lo hi : Int} (h : RT σ m n t) (hR : RW σ m t T) (hT : TkG n t T) (hlo : -1000 ≤ lo ∧ lo ≤ 1001) (hhi : -1000 ≤ hi ∧ hi ≤ 1001) (hf : zi σ 608 m = -1009) (d : Nat) : ∃ τ v, zEv (d + 5) mX11_readNumber [.inr (.inl (some m)), .inl (iI lo), .inl (iI hi)] σ = some (some (.inl v), τ) ∧ zFr (fun a => a = m) σ τ ∧ (∀ f, ¬ inTk f → f ≠ 608 → zi τ f m = zi σ f m) ∧ ((pN n t lo hi T).1 = true → v = iI (pN n t lo hi T).2.2 ∧ zi τ 608 m = -1009 ∧ RW τ m t (pN n t lo hi T).2.1) ∧ (¬ (pN n t lo hi T).1 = true → zi τ 608 m = nI (kS (pN n t lo hi T).2.1)) := by
  have hn := h.2.2.2.1
  have ql : (iI lo < 0) ↔ lo < 0 := i_lt (b := 0) (by omega) (by omega) (by decide) (by decide)
  have q3 : (nI (kK T) = 3) ↔ kK T = 3 := n_eq (by have := hT.1; omega) (by decide)
  have z1 : ((1 : Int32) = 0) = False := eq_false (by decide)
  -- the last step: a number or not, from a token on
  have last : ∀ τ (T1 : zTk) (w : Int) (k0 v0 : Int32), RT τ m n t → RW τ m t T1 → TkG n t T1 → zi τ 608 m = -1009 → zFr (fun a => a = m) σ τ → (∀ f, ¬ inTk f → f ≠ 608 → zi τ f m = zi σ f m) → T1 = pT1 n t lo T → w = pV n t lo T → (kK T1 = 2 → v0 = iI w ∧ (if k0 = 0 then zi τ 607 m else -(zi τ 607 m)) = iI w ∧ -1000 ≤ w ∧ w ≤ 1000) → ∃ υ v, LX11_readNumber_54 (zEv (d + 4)) m (iI lo) (iI hi) k0 v0 τ = some (some (.inl v), υ) ∧ zFr (fun a => a = m) σ υ ∧ (∀ f, ¬ inTk f → f ≠ 608 → zi υ f m = zi σ f m) ∧ ((pN n t lo hi T).1 = true → v = iI (pN n t lo hi T).2.2 ∧ zi υ 608 m = -1009 ∧ RW υ m t (pN n t lo hi T).2.1) ∧ (¬ (pN n t lo hi T).1 = true → zi υ 608 m = nI (kS (pN n t lo hi T).2.1)) := by
    intro τ T1 w k0 v0 h' hR' hT' hf' g gi e1 e2 hv
    have q2 : (nI (kK T1) = 2) ↔ kK T1 = 2 := n_eq (by have := hT'.1; omega) (by decide)
    have hs : kS T1 ≤ 1000 := by have := hT'.2.1; have := hT'.2.2.1; omega
    have no : ¬ (kK T1 = 2 ∧ lo ≤ w ∧ w ≤ hi) → pN n t lo hi T = (false, T1, 0) := fun q => by
      unfold pN
      rw [if_neg (by subst e1; subst e2; exact q), e1]
    have ye : kK T1 = 2 ∧ lo ≤ w ∧ w ≤ hi → pN n t lo hi T = (true, nx n t (kE T1), w) := fun q => by
      unfold pN
      rw [if_pos (by subst e1; subst e2; exact q), e1, e2]
    have bad : ¬ (kK T1 = 2 ∧ lo ≤ w ∧ w ≤ hi) → ∃ υ v, (some (some (.inl v0), zsi τ 608 m (nI (kS T1))) : zO) = some (some (.inl v), υ) ∧ zFr (fun a => a = m) σ υ ∧ (∀ f, ¬ inTk f → f ≠ 608 → zi υ f m = zi σ f m) ∧ ((pN n t lo hi T).1 = true → v = iI (pN n t lo hi T).2.2 ∧ zi υ 608 m = -1009 ∧ RW υ m t (pN n t lo hi T).2.1) ∧ (¬ (pN n t lo hi T).1 = true → zi υ 608 m = nI (kS (pN n t lo hi T).2.1)) := fun q => by
      rw [no q]
      exact ⟨_, _, rfl, g.tr (zFr.si _ rfl), fun f a b => by rw [zi_si, if_neg (by omega)]; exact gi f a b, fun q => absurd (show false = true from q) (by decide), fun _ => by rw [zi_si, if_pos ⟨rfl, rfl⟩]⟩
    rw [uX11_readNumber_54]
    simp only [zlt_e, chk_e, h'.1.k, if_true, hR'.1, q2]
    by_cases hk : kK T1 = 2
    · obtain ⟨v1, v2, v3⟩ := hv hk
      have r81 : ∃ υ v, LX11_readNumber_81 (zEv (d + 4)) m (iI lo) (iI hi) (.inl k0) v0 (some m) (iI w) τ = some (some (.inl v), υ) ∧ zFr (fun a => a = m) σ υ ∧ (∀ f, ¬ inTk f → f ≠ 608 → zi υ f m = zi σ f m) ∧ ((pN n t lo hi T).1 = true → v = iI (pN n t lo hi T).2.2 ∧ zi υ 608 m = -1009 ∧ RW υ m t (pN n t lo hi T).2.1) ∧ (¬ (pN n t lo hi T).1 = true → zi υ 608 m = nI (kS (pN n t lo hi T).2.1)) := by
        rw [uX11_readNumber_81]
        simp only [s_in, bnI_s, zb_0, i_le (show -2147483648 ≤ lo by omega) (show lo < 2147483648 by omega) (show -2147483648 ≤ w by omega) (show w < 2147483648 by omega), i_le (show -2147483648 ≤ w by omega) (show w < 2147483648 by omega) (show -2147483648 ≤ hi by omega) (show hi < 2147483648 by omega), onR_s, chk_e, h'.1.k, if_true]
        by_cases hr : lo ≤ w ∧ w ≤ hi
        · rw [if_neg (fun q => q hr)]
          obtain ⟨υ, k1, k2, k3, k4⟩ := s_takeY h' hR' hT' hf' d
          simp only [k1, bnV_s]
          rw [ye ⟨hk, hr⟩]
          exact ⟨υ, v0, rfl, g.tr k2, fun f a b => (k3 f a).trans (gi f a b), fun _ => ⟨v1, (k3 608 (by unfold inTk; omega)).trans hf', k4⟩, fun q => absurd rfl q⟩
        · rw [if_pos hr]
          simp only [s_takeN h'.1 hR'.2.1 hs hf' (d + 2), bnV_s]
          exact bad (fun q => hr q.2)
      rw [if_pos hk]
      by_cases k00 : k0 = 0
      · rw [if_pos k00] at v2
        rw [if_pos k00, v2]
        exact r81
      · rw [if_neg k00] at v2
        rw [if_neg k00, v2]
        exact r81
    · rw [if_neg hk]
      simp only [s_takeN h'.1 hR'.2.1 hs hf' (d + 2), bnV_s]
      exact bad (fun q => hk q.1)
  rw [vX11_readNumber]
  unfold fX11_readNumber
  simp only [chk_e, h.1.k, if_true, s_isFine h.1, bnI_s, zb_0, hf, not_true_eq_false, if_false, hR.1, q3]
  by_cases c3 : kK T = 3
  · rw [if_pos c3, uX11_readNumber_20]
    simp only [zlt_e, z1, if_false, ql]
    by_cases cl : lo < 0
    · rw [if_pos cl, uX11_readNumber_35]
      obtain ⟨τ, k1, k2, k3, k4⟩ := s_takeY h hR hT hf d
      have h' : RT τ m n t := h.fr k2 (by omega) (k3 _ (by unfold inTk; omega))
      have hT' := nx_G (t := t) hT.2.2.1
      have e1 : nx n t (kE T) = pT1 n t lo T := (if_pos ⟨cl, c3⟩).symm
      have e2 : -(kV (nx n t (kE T)) : Int) = pV n t lo T := by
        unfold pV
        rw [if_pos ⟨cl, c3⟩, ← e1]
      simp only [onR_s, chk_e, h.1.k, if_true, k1, bnV_s, z1, if_false, h'.1.k]
      have ev : kK (nx n t (kE T)) = 2 → -(zi τ 607 m) = iI (-(kV (nx n t (kE T)) : Int)) := fun q => by rw [k4.2.2.2.1 q, i_nI, i_neg]
      exact last τ _ _ 1 _ h' k4 hT' ((k3 608 (by unfold inTk; omega)).trans hf) k2 (fun f a _ => k3 f a) e1 e2 (fun q => ⟨ev q, by rw [if_neg (by decide)]; exact ev q, by have := hT'.2.2.2.2 q; omega, by omega⟩)
    · rw [if_neg cl, uX11_readNumber_35]
      have hs : kS T ≤ 1000 := by have := hT.2.1; have := hT.2.2.1; omega
      simp only [onR_s, chk_e, h.1.k, if_true, s_takeN h.1 hR.2.1 hs hf (d + 2), bnV_s, z1, if_false, zkd_si]
      have hM' : MS (zsi σ 608 m (nI (kS T))) m := h.1.fr (zFr.si (P := fun a => a = m) σ rfl)
      have e5 : zi (zsi σ 608 m (nI (kS T))) 605 m = nI (kK T) := by rw [zi_si, if_neg (by omega)]; exact hR.1
      have e8 : zi (zsi σ 608 m (nI (kS T))) 608 m = nI (kS T) := by rw [zi_si, if_pos ⟨rfl, rfl⟩]
      have ep : pN n t lo hi T = (false, T, 0) := by
        have et : pT1 n t lo T = T := if_neg (fun q => cl q.1)
        unfold pN
        rw [if_neg (fun q => by have := q.1; rw [et] at this; omega), et]
      have n2 : ¬ (nI (kK T) = 2) := fun q => by have := (n_eq (b := 2) (by omega) (by decide)).mp q; omega
      rw [uX11_readNumber_54]
      simp only [zlt_e, chk_e, hM'.k, if_true, e5, n2, if_false, s_takeF hM' (by rw [e8]; exact nI_err hs) 0 (d + 2), bnV_s]
      rw [ep]
      exact ⟨_, _, rfl, zFr.si _ rfl, fun f a b => by rw [zi_si, if_neg (by omega)], fun q => absurd (show false = true from q) (by decide), fun _ => e8⟩
  · rw [if_neg c3, uX11_readNumber_20]
    have e1 : T = pT1 n t lo T := (if_neg (fun q => c3 q.2)).symm
    have e2 : (kV T : Int) = pV n t lo T := by
      unfold pV
      rw [if_neg (fun q => c3 q.2), ← e1]
    have ev : kK T = 2 → zi σ 607 m = iI (kV T : Int) := fun q => by rw [hR.2.2.2.1 q, i_nI]
    simp only [zlt_e, if_true, chk_e, h.1.k]
    exact last σ T _ 0 _ h hR hT hf (zFr.rf σ) (fun _ _ _ => rfl) e1 e2 (fun q => ⟨ev q, by rw [if_pos rfl]; exact ev q, by omega, by have := hT.2.2.2.2 q; omega⟩)
theorem s_mnumF {σ : zS} {m : Nat} (hM : MS σ m) (hf : ¬ (zi σ 608 m = -1009)) (lo hi : Int32) (d : Nat) : ∃ v, zEv (d + 5) mX11_readNumber [.inr (.inl (some m)), .inl lo, .inl hi] σ = some (some (.inl v), σ) := by
  rw [vX11_readNumber]
  unfold fX11_readNumber
  simp only [chk_e, hM.k, if_true, s_isFine hM, bnI_s, zb_0, hf, not_false_eq_true]
  rw [uX11_readNumber_20]
  simp only [zlt_e, if_true, chk_e, hM.k]
  rw [uX11_readNumber_54]
  simp only [zlt_e, if_true, chk_e, hM.k]
  by_cases c : zi σ 605 m = 2
  · rw [if_pos c, uX11_readNumber_81]
    simp only [s_in, bnI_s, onR_s, chk_e, hM.k, if_true, s_takeF hM hf, bnV_s, ite_self]
    exact ⟨_, rfl⟩
  · rw [if_neg c]
    simp only [s_takeF hM hf, bnV_s]
    exact ⟨_, rfl⟩
