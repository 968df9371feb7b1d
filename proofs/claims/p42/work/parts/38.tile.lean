/-! tiles: the class's cache -/
/-- how many of the first n are used -/
def cnt (u : Nat → Nat) : Nat → Nat
  | 0 => 0
  | n + 1 => cnt u n + if u n = 0 then 0 else 1
def clr (u : Nat → Nat) (k j : Nat) : Nat := if j = k then 0 else u j
theorem cnt_le (u : Nat → Nat) (n : Nat) : cnt u n ≤ n := by
  induction n with
  | zero => exact Nat.le_refl _
  | succ n ih => show cnt u n + (if u n = 0 then 0 else 1) ≤ n + 1; split <;> omega
theorem cnt_congr {u v : Nat → Nat} : ∀ n, (∀ k, k < n → (u k = 0 ↔ v k = 0)) → cnt u n = cnt v n
  | 0, _ => rfl
  | n + 1, h => by
    have ih := cnt_congr n (fun k hk => h k (by omega))
    have := h n (by omega)
    show cnt u n + (if u n = 0 then 0 else 1) = cnt v n + (if v n = 0 then 0 else 1)
    rw [ih]
    by_cases h0 : u n = 0
    · rw [if_pos h0, if_pos (this.mp h0)]
    · rw [if_neg h0, if_neg (fun q => h0 (this.mpr q))]
theorem cnt_clr (u : Nat → Nat) (k n : Nat) (hk : k < n) : cnt (clr u k) n + (if u k = 0 then 0 else 1) = cnt u n := by
  induction n with
  | zero => omega
  | succ n ih =>
    show cnt (clr u k) n + (if clr u k n = 0 then 0 else 1) + _ = cnt u n + (if u n = 0 then 0 else 1)
    by_cases h : k = n
    · subst h
      have e : cnt (clr u k) k = cnt u k := cnt_congr k (fun j hj => by unfold clr; rw [if_neg (by omega)])
      have e2 : clr u k k = 0 := if_pos rfl
      rw [e, e2, if_pos rfl]
      omega
    · have := ih (by omega)
      have e2 : clr u k n = u n := if_neg (fun q => h q.symm)
      rw [e2]
      omega
theorem cnt_none (u : Nat → Nat) (n : Nat) (h : cnt u n = 0) : ∀ k, k < n → u k = 0 := by
  induction n with
  | zero => intro k hk; omega
  | succ n ih =>
    have h : cnt u n + (if u n = 0 then 0 else 1) = 0 := h
    intro k hk
    by_cases h0 : u n = 0
    · by_cases e : k = n
      · rw [e]; exact h0
      · exact ih (by omega) k (by omega)
    · rw [if_neg h0] at h; omega
/-- the one that was used first among the first n -/
def oldU (u : Nat → Nat) : Nat → Option Nat
  | 0 => none
  | n + 1 => match oldU u n with
    | none => if u n = 0 then none else some n
    | some j => if u n = 0 then some j else if u n < u j then some n else some j
theorem oldU_lt (u : Nat → Nat) (n j : Nat) (h : oldU u n = some j) : j < n ∧ u j ≠ 0 := by
  induction n generalizing j with
  | zero => cases h
  | succ n ih =>
    unfold oldU at h
    cases ho : oldU u n with
    | none =>
      rw [ho] at h
      by_cases h0 : u n = 0
      · simp [h0] at h
      · simp [h0] at h
        subst h
        exact ⟨by omega, h0⟩
    | some i =>
      have := ih i ho
      rw [ho] at h
      by_cases h0 : u n = 0
      · simp [h0] at h
        subst h
        exact ⟨by omega, this.2⟩
      · by_cases h1 : u n < u i
        · simp [h0, h1] at h
          subst h
          exact ⟨by omega, h0⟩
        · simp [h0, h1] at h
          subst h
          exact ⟨by omega, this.2⟩
theorem oldU_none (u : Nat → Nat) (n : Nat) (h : oldU u n = none) : cnt u n = 0 := by
  induction n with
  | zero => rfl
  | succ n ih =>
    unfold oldU at h
    cases ho : oldU u n with
    | none =>
      rw [ho] at h
      by_cases h0 : u n = 0
      · show cnt u n + (if u n = 0 then 0 else 1) = 0
        rw [ih ho, if_pos h0]
      · simp [h0] at h
    | some i =>
      rw [ho] at h
      by_cases h0 : u n = 0
      · simp [h0] at h
      · by_cases h1 : u n < u i <;> simp [h0, h1] at h
/-- m times the oldest one goes -/
def drpU (N : Nat) (u : Nat → Nat) : Nat → Nat → Nat
  | 0 => u
  | m + 1 => match oldU u N with
    | none => u
    | some j => drpU N (clr u j) m
theorem drpU_none {N : Nat} {u : Nat → Nat} (m : Nat) (h : oldU u N = none) : drpU N u (m + 1) = u := by
  unfold drpU
  rw [h]
theorem drpU_some {N : Nat} {u : Nat → Nat} (m : Nat) {j : Nat} (h : oldU u N = some j) : drpU N u (m + 1) = drpU N (clr u j) m := by
  rw [drpU, h]
theorem clr_le {u : Nat → Nat} {m N : Nat} (h : ∀ k, k < N → u k ≤ m) (j : Nat) : ∀ k, k < N → clr u j k ≤ m := fun k hk => by
  unfold clr
  split
  · omega
  · exact h k hk
theorem drpU_le (N : Nat) (u : Nat → Nat) (m : Nat) : ∀ n, (∀ k, k < N → u k ≤ m) → ∀ k, k < N → drpU N u n k ≤ m := by
  intro n
  induction n generalizing u with
  | zero => intro h; exact h
  | succ n ih =>
    intro h k hk
    cases ho : oldU u N with
    | none => rw [drpU_none n ho]; exact h k hk
    | some j => rw [drpU_some n ho]; exact ih (clr u j) (clr_le h j) k hk
/-- a loop whose counter has a least value -/
theorem loop_ge {S : Type} (f : Nat → S → zO) (I : Nat → S → Prop) (i n : Nat) (g : S → zO) (s : S) (hi : i ≤ n) (h0 : I i s) (hstep : ∀ k s, i ≤ k → k < n → I k s → ∃ s', f k s = f (k + 1) s' ∧ I (k + 1) s') (hend : ∀ s, I n s → f n s = g s) : ∃ s', f i s = g s' ∧ I n s' := by
  obtain ⟨s', h1, h2⟩ := loop_from f (fun k s => i ≤ k ∧ I k s) i n g s hi ⟨Nat.le_refl _, h0⟩ (fun k s hk hI => by
    obtain ⟨s', h1, h2⟩ := hstep k s hI.1 hk hI.2
    exact ⟨s', h1, by omega, h2⟩) (fun s hI => hend s hI.2)
  exact ⟨s', h1, h2.2⟩
/-! the cells of the cache -/
def inU (X a : Nat) : Prop := a = X ∨ a = X + 2
def TcS (σ : zS) (X : Nat) : Prop := zkd σ X = 7 ∧ zr σ 448 X = some (X + 1) ∧ zkd σ (X + 1) = 15 ∧ zln σ (X + 1) = 8 ∧ zr σ 449 X = some (X + 2) ∧ zkd σ (X + 2) = 11 ∧ zln σ (X + 2) = 512 ∧ ∀ i, i < 8 → PicS σ (X + 3 + 2 * i)
def TcQ (σ : zS) (X : Nat) : Prop := ∀ i, i < 8 → zar σ (X + 1) i = some (X + 3 + 2 * i)
def TcU (σ : zS) (X : Nat) (u : Nat → Nat) : Prop := zi σ 452 X = nI (cnt u 512) ∧ ∀ k, k < 512 → zai σ (X + 2) k = nI (u k)
theorem TcS.fr {P : Nat → Prop} {σ τ : zS} {X : Nat} (h : TcS σ X) (g : zFr P σ τ) : TcS τ X := by
  refine ⟨?_, ?_, ?_, ?_, ?_, ?_, ?_, fun i hi => (h.2.2.2.2.2.2.2 i hi).fr g⟩
  · rw [g.kd]; exact h.1
  · rw [g.r]; exact h.2.1
  · rw [g.kd]; exact h.2.2.1
  · rw [g.ln]; exact h.2.2.2.1
  · rw [g.r]; exact h.2.2.2.2.1
  · rw [g.kd]; exact h.2.2.2.2.2.1
  · rw [g.ln]; exact h.2.2.2.2.2.2.1
theorem TcQ.fr {P : Nat → Prop} {σ τ : zS} {X : Nat} (h : TcQ σ X) (g : zFr P σ τ) (hn : ¬ P (X + 1)) : TcQ τ X := fun i hi => (g.ar hn i).trans (h i hi)
theorem TcU.fr {P : Nat → Prop} {σ τ : zS} {X : Nat} {u : Nat → Nat} (h : TcU σ X u) (g : zFr P σ τ) (hn : ¬ P X) (hn2 : ¬ P (X + 2)) : TcU τ X u := ⟨(g.i hn _).trans h.1, fun k hk => (g.ai hn2 k).trans (h.2 k hk)⟩
theorem TcU.congr {σ : zS} {X : Nat} {u v : Nat → Nat} (h : TcU σ X u) (e : ∀ k, k < 512 → u k = v k) : TcU σ X v :=
  ⟨by rw [h.1, cnt_congr 512 (fun k hk => by rw [e k hk])], fun k hk => by rw [h.2 k hk, e k hk]⟩
/-- what the counts of the cache become: fields other than the number of tiles stay -/
def keepU (X : Nat) (σ τ : zS) : Prop := ∀ f, f ≠ 452 → zi τ f X = zi σ f X
theorem s_remove {σ : zS} {X k : Nat} {u : Nat → Nat} (hX : TcS σ X) (hU : TcU σ X u) (hB : ∀ k, k < 512 → u k < 2 ^ 31) (hk : k < 512) (d : Nat) : ∃ τ, zEv (d + 1) mX9_remove [.inr (.inl (some X)), .inl (nI k)] σ = some (some (.inl (nI (if u k = 0 then 0 else 1))), τ) ∧ zFr (inU X) σ τ ∧ TcU τ X (clr u k) ∧ keepU X σ τ := by
  have e : (nI (u k) = 0) ↔ u k = 0 := n_eq (hB k hk) (by decide)
  have hc := cnt_clr u k 512 hk
  rw [vX9_remove]
  unfold fX9_remove
  simp only [zlt_e, onR_s, nul_s, nul_n, chk_e, bnI_s, bnR_s, bnV_s, zi_si, zi_sr, zi_sl, zi_sa, zi_sq, zr_si, zr_sr, zr_sl, zr_sa, zr_sq, zl_si, zl_sr, zl_sl, zl_sa, zl_sq, zai_si, zai_sr, zai_sl, zai_sa, zai_sq, zar_si, zar_sr, zar_sl, zar_sa, zar_sq, zkd_si, zkd_sr, zkd_sl, zkd_sa, zkd_sq, zln_si, zln_sr, zln_sl, zln_sa, zln_sq, znx_si, znx_sr, znx_sl, znx_sa, znx_sq, hX.1, hX.2.2.2.2.1, hX.2.2.2.2.2.1, hX.2.2.2.2.2.2.1, nL 0, n_ofNat, n_lt (show k < 2 ^ 31 by omega) (show 0 < 2 ^ 31 by decide), n_lt (show k < 2 ^ 31 by omega) (show 512 < 2 ^ 31 by decide), Nat.not_lt_zero, if_false, if_true, hk, n_zin (show k < 2 ^ 31 by omega), n_tn (show k < 2 ^ 31 by omega), and_self, hU.2 k hk, hU.1]
  rw [← nL 0]
  simp only [e]
  by_cases h0 : u k = 0
  · rw [if_pos h0, if_pos h0]
    refine ⟨σ, rfl, zFr.rf σ, hU.congr (fun j hj => ?_), fun _ _ => rfl⟩
    unfold clr
    split
    · next h => rw [h]; exact h0
    · rfl
  · rw [if_neg h0, if_neg h0]
    rw [if_neg h0] at hc
    have P0 : inU X X := Or.inl rfl
    refine ⟨_, rfl, (zFr.sa _ (Or.inr rfl)).tr (zFr.si _ P0), ⟨?_, fun j hj => ?_⟩, fun f hf => ?_⟩
    · rw [zi_si, if_pos ⟨rfl, rfl⟩, ← hc, nI_m]
    · rw [zai_si, zai_sa]
      unfold clr
      by_cases hjk : j = k
      · rw [if_pos ⟨rfl, hjk⟩, if_pos hjk]; rfl
      · rw [if_neg (by omega), if_neg hjk]; exact hU.2 j hj
    · rw [zi_si, if_neg (by omega)]; rfl
/-- all from a on up to b go -/
def zrU (u : Nat → Nat) (a b k : Nat) : Nat := if a ≤ k ∧ k < b then 0 else u k
theorem s_removeSlots {σ : zS} {X a b : Nat} {u : Nat → Nat} (hX : TcS σ X) (hU : TcU σ X u) (hB : ∀ k, k < 512 → u k < 2 ^ 31) (hab : a ≤ b) (hb : b ≤ 512) (d : Nat) : ∃ τ n, zEv (d + 2) mX9_removeSlots [.inr (.inl (some X)), .inl (nI a), .inl (nI b)] σ = some (some (.inl (nI n)), τ) ∧ zFr (inU X) σ τ ∧ TcU τ X (zrU u a b) ∧ keepU X σ τ ∧ n + cnt (zrU u a b) 512 = cnt u 512 := by
  rw [vX9_removeSlots]
  unfold fX9_removeSlots
  simp only [zlt_e, onR_s, nul_s, nul_n, chk_e, bnI_s, bnR_s, bnV_s, zi_si, zi_sr, zi_sl, zi_sa, zi_sq, zr_si, zr_sr, zr_sl, zr_sa, zr_sq, zl_si, zl_sr, zl_sl, zl_sa, zl_sq, zai_si, zai_sr, zai_sl, zai_sa, zai_sq, zar_si, zar_sr, zar_sl, zar_sa, zar_sq, zkd_si, zkd_sr, zkd_sl, zkd_sa, zkd_sq, zln_si, zln_sr, zln_sl, zln_sa, zln_sq, znx_si, znx_sr, znx_sl, znx_sa, znx_sq, s_max]
  have e0 : (if (0 : Int32) < nI a then nI a else 0) = nI a := by
    have : ((0 : Int32) < nI a) ↔ 0 < a := n_lt (by decide) (by omega)
    by_cases h : 0 < a
    · rw [if_pos (this.mpr h)]
    · rw [if_neg (fun q => h (this.mp q)), show a = 0 by omega]; rfl
  rw [e0]
  obtain ⟨⟨τ, n⟩, h1, h2⟩ := loop_ge (fun k (s : zS × Nat) => LX9_removeSlots_9 (zEv (d + 1)) X (.inl (nI a)) (nI b) (nI s.2) (nI k) s.1) (fun k s => zFr (inU X) σ s.1 ∧ TcU s.1 X (zrU u a k) ∧ keepU X σ s.1 ∧ s.2 + cnt (zrU u a k) 512 = cnt u 512) a b (fun s => some (some (.inl (nI s.2)), s.1)) (σ, 0) hab ⟨zFr.rf σ, hU.congr (fun k hk => by unfold zrU; rw [if_neg (by omega)]), fun _ _ => rfl, by
      show 0 + _ = _
      rw [Nat.zero_add]
      exact cnt_congr 512 (fun k hk => by unfold zrU; rw [if_neg (by omega)])⟩
    (fun k s hak hk hI => by
      obtain ⟨g, gU, gk, gn⟩ := hI
      have hX' := hX.fr g
      have hB' : ∀ j, j < 512 → zrU u a k j < 2 ^ 31 := fun j hj => by
        unfold zrU
        split
        · decide
        · exact hB j hj
      obtain ⟨υ, k1, k2, k3, k4⟩ := s_remove hX' gU hB' (show k < 512 by omega) d
      have e : ∀ j, j < 512 → clr (zrU u a k) k j = zrU u a (k + 1) j := fun j hj => by
        unfold clr zrU
        by_cases hjk : j = k
        · rw [if_pos hjk]
          rw [if_pos (by omega)]
        · rw [if_neg hjk]
          by_cases hj2 : a ≤ j ∧ j < k
          · rw [if_pos hj2, if_pos (by omega)]
          · rw [if_neg hj2, if_neg (by omega)]
      refine ⟨(υ, s.2 + (if zrU u a k k = 0 then 0 else 1)), ?_, g.tr k2, k3.congr e, fun f hf => (k4 f hf).trans (gk f hf), ?_⟩
      · show LX9_removeSlots_9 _ _ _ _ _ _ _ = LX9_removeSlots_9 _ _ _ _ _ _ _
        rw [uX9_removeSlots_9]
        simp only [zlt_e, onR_s, nul_s, nul_n, chk_e, bnI_s, bnR_s, bnV_s, zi_si, zi_sr, zi_sl, zi_sa, zi_sq, zr_si, zr_sr, zr_sl, zr_sa, zr_sq, zl_si, zl_sr, zl_sl, zl_sa, zl_sq, zai_si, zai_sr, zai_sl, zai_sa, zai_sq, zar_si, zar_sr, zar_sl, zar_sa, zar_sq, zkd_si, zkd_sr, zkd_sl, zkd_sa, zkd_sq, zln_si, zln_sr, zln_sl, zln_sa, zln_sq, znx_si, znx_sr, znx_sl, znx_sa, znx_sq, hX'.1, hX'.2.2.2.2.1, hX'.2.2.2.2.2.1, hX'.2.2.2.2.2.2.1, if_true, n_ofNat, n_lt (show k < 2 ^ 31 by omega) (show b < 2 ^ 31 by omega), n_lt (show k < 2 ^ 31 by omega) (show 512 < 2 ^ 31 by decide), hk, show k < 512 by omega, k1, nI_add, nI_1]
      · have := cnt_clr (zrU u a k) k 512 (by omega)
        rw [cnt_congr 512 (fun j hj => by rw [e j hj])] at this
        show s.2 + _ + _ = _
        have gn : s.2 + cnt (zrU u a k) 512 = cnt u 512 := gn
        omega)
    (fun s hI => by
      rw [uX9_removeSlots_9]
      simp only [n_lt (show b < 2 ^ 31 by omega) (show b < 2 ^ 31 by omega), Nat.lt_irrefl, if_false])
  exact ⟨τ, n, h1, h2⟩
