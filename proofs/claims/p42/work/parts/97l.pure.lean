/-! outputs: pure facts -/
theorem sm_0 {f : Nat → Int} : ∀ n, (∀ k, k < n → f k = 0) → sm f n = 0
  | 0, _ => rfl
  | n + 1, h => by
    show sm f n + f n = 0
    rw [sm_0 n (fun k hk => h k (by omega)), h n (by omega)]
    rfl
theorem sm_1 {f : Nat → Int} : ∀ n, (∀ k, k < n → f k = 1) → sm f n = n
  | 0, _ => rfl
  | n + 1, h => by
    show sm f n + f n = ((n + 1 : Nat) : Int)
    rw [sm_1 n (fun k hk => h k (by omega)), h n (by omega)]
    omega
theorem dI_self (a : Int) : dI a a = 0 := by unfold dI; split <;> omega
theorem neI_self (a : Int) : neI a a = 0 := if_pos rfl
/-- a layer that is off, or has the opacity 0, leaves no trace: the outputs are those without it -/
theorem off_out {C : zC} {n : Nat} (h : cL C n 5 ≠ 1 ∨ cL C n 4 = 0) : ∀ k, outI (offC C n) k = outI C k
  | 0 => rfl
  | k + 1 => by
    have ih := off_out h k
    have e : outI (offC C n) (k + 1) = if cL (offC C n) k 5 = 1 then lyI (cW C) (cH C) (cL (offC C n) k) (outI (offC C n) k) else outI (offC C n) k := rfl
    have e2 : outI C (k + 1) = if cL C k 5 = 1 then lyI (cW C) (cH C) (cL C k) (outI C k) else outI C k := rfl
    rw [e, e2, ih]
    by_cases hk : k = n
    · subst hk
      have e5 : cL (offC C k) k 5 = 0 := by
        show (if k = k then upR (cL C k) 5 0 else cL C k) 5 = 0
        rw [if_pos rfl]
        rfl
      rw [e5, if_neg (by decide)]
      rcases h with h | h
      · rw [if_neg h]
      · split
        · funext x y
          unfold lyI
          rw [h, Int.mul_zero, Int.zero_mul]
          show _ = outI C k x y + 0
          omega
        · rfl
    · have el : cL (offC C n) k = cL C k := by
        show (if k = n then upR (cL C n) 5 0 else cL C k) = cL C k
        rw [if_neg hk]
      rw [el]
theorem eff_0 {C : zC} {n : Nat} (h : cL C n 5 ≠ 1 ∨ cL C n 4 = 0) : effI C n = 0 := by
  unfold effI
  refine sm_0 _ (fun k _ => ?_)
  unfold lin
  rw [off_out h]
  exact dI_self _
theorem dif_0 {C D : zC} (h : outI C (cN C) = outI D (cN D)) : difI C D = 0 := by
  unfold difI
  refine sm_0 _ (fun k _ => ?_)
  unfold lin
  rw [h]
  exact neI_self _
/-- a copy and what it is a copy of change places -/
theorem dup_exc (C : zC) (k : Nat) : difI (dupC C k) (mvC (dupC C k) k (k + 1)) = 0 := by
  refine dif_0 (outI_congr (C := dupC C k) (C' := mvC (dupC C k) k (k + 1)) rfl rfl rfl _ (fun i hi => ?_)).symm
  show lDup (cL C) k (mvN k (k + 1) i) = lDup (cL C) k i
  unfold mvN lDup
  by_cases h1 : i = k + 1
  · subst h1
    rw [if_pos rfl, if_pos (Nat.le_refl k), if_neg (by omega), Nat.add_sub_cancel]
  · rw [if_neg h1]
    by_cases h2 : i = k
    · subst h2
      rw [if_pos (show i ≤ i ∧ i < i + 1 by omega), if_neg (show ¬ (i + 1 ≤ i) by omega), if_pos (show i ≤ i by omega), Nat.add_sub_cancel]
    · rw [if_neg (show ¬ (k ≤ i ∧ i < k + 1) by omega), if_neg (show ¬ (k + 1 < i ∧ i ≤ k) by omega)]
/-- the strongest layer -/
theorem stg_is {C : zC} (G : GC C) : ∀ n, n ≤ cN C → 1 ≤ n → ∃ k, k < n ∧ stgI C n = ((k : Int), effI C k) ∧ ∀ j, j < n → effI C j ≤ effI C k
  | 0, _, h => absurd h (by decide)
  | n + 1, hn, _ => by
    have he := effI_R G (show n < cN C by omega)
    have e : stgI C (n + 1) = if effI C n ≤ (stgI C n).2 then stgI C n else ((n : Int), effI C n) := rfl
    by_cases h0 : n = 0
    · subst h0
      refine ⟨0, by decide, ?_, fun j hj => by rw [show j = 0 by omega]; exact Int.le_refl _⟩
      rw [e, if_neg]
      show ¬ effI C 0 ≤ -1
      omega
    · obtain ⟨k, k1, k2, k3⟩ := stg_is G n (by omega) (by omega)
      rw [e, k2]
      by_cases h : effI C n ≤ effI C k
      · rw [if_pos h]
        refine ⟨k, by omega, rfl, fun j hj => ?_⟩
        by_cases hj2 : j = n
        · rw [hj2]; exact h
        · exact k3 j (by omega)
      · rw [if_neg h]
        refine ⟨n, by omega, rfl, fun j hj => ?_⟩
        by_cases hj2 : j = n
        · rw [hj2]; exact Int.le_refl _
        · have := k3 j (by omega)
          omega
/-- pixels are in their range: a histogram over all of it counts every place -/
theorem hist_all {C : zC} (G : GC C) {k : Nat} (hk : k ≤ cN C) : sm (lin (cW C) fun i j => inI 0 255 (outI C k i j)) (cH C * cW C) = ((cH C * cW C : Nat) : Int) := by
  refine sm_1 _ (fun p hp => ?_)
  have h := lin_R (outI_R G k hk) (show 1 ≤ cW C by have := G.1; omega) p hp
  exact if_pos h
/-! tiles of all layers -/
theorem cnt_add (u : Nat → Nat) (a : Nat) : ∀ b, cnt u (a + b) = cnt u a + cnF u a b
  | 0 => rfl
  | b + 1 => by
    have ih := cnt_add u a b
    show cnt u (a + b) + (if u (a + b) = 0 then 0 else 1) = cnt u a + (cnF u a b + if u (a + b) = 0 then 0 else 1)
    omega
theorem cnt_up (u : Nat → Nat) (a b : Nat) (h : a ≤ b) : cnt u a ≤ cnt u b := by
  have := cnt_add u a (b - a)
  rw [show a + (b - a) = b by omega] at this
  omega
