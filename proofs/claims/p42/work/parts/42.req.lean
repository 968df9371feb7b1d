/-! what requests change -/
/-- the clock, and 64 for each place that is free -/
def potU (s : zU) : Nat := tCk s.2 + 64 * (512 - cnt s.1 512)
/-- s comes of s0 by at most m requests of tiles below n -/
def RQ (C : zC) (sd n m : Nat) (s0 s : zU) : Prop :=
  (tSd s.2 = tSd s0.2 ∧ tLm s.2 = tLm s0.2 ∧ tDr s.2 = tDr s0.2) ∧ (∀ k, k < 512 → n ≤ k / 64 → s.1 k = s0.1 k) ∧ (∀ k, k < 512 → s0.1 k ≠ 0 → s.1 k ≠ 0) ∧ ((∀ k, k < 512 → s0.1 k ≤ tCk s0.2) → ∀ k, k < 512 → s.1 k ≤ tCk s.2) ∧ potU s ≤ potU s0 + m ∧ (∀ k, k < 512 → s.1 k ≠ 0 → s0.1 k ≠ 0 ∨ (cL C (k / 64) 5 = 1 ∧ k % 8 ≤ (cW C - 1) / sd ∧ k / 8 % 8 ≤ (cH C - 1) / sd)) ∧ tCk s0.2 ≤ tCk s.2
theorem RQ.rf {C : zC} {sd n : Nat} (s : zU) : RQ C sd n 0 s s := ⟨⟨rfl, rfl, rfl⟩, fun _ _ _ => rfl, fun _ _ h => h, fun h => h, Nat.le_refl _, fun _ _ h => Or.inl h, Nat.le_refl _⟩
theorem RQ.tr {C : zC} {sd n a b : Nat} {s0 s1 s2 : zU} (h : RQ C sd n a s0 s1) (g : RQ C sd n b s1 s2) : RQ C sd n (a + b) s0 s2 := by
  obtain ⟨⟨h1, h2, h3⟩, h4, h5, h6, h7, h8, h9⟩ := h
  obtain ⟨⟨g1, g2, g3⟩, g4, g5, g6, g7, g8, g9⟩ := g
  refine ⟨⟨g1.trans h1, g2.trans h2, g3.trans h3⟩, fun k hk hn => (g4 k hk hn).trans (h4 k hk hn), fun k hk q => g5 k hk (h5 k hk q), fun q => g6 (h6 q), by omega, fun k hk q => ?_, Nat.le_trans h9 g9⟩
  rcases g8 k hk q with q | q
  · exact h8 k hk q
  · exact Or.inr q
theorem RQ.mono {C : zC} {sd n n' a b : Nat} {s0 s1 : zU} (h : RQ C sd n a s0 s1) (hn : n ≤ n') (hab : a ≤ b) : RQ C sd n' b s0 s1 := by
  obtain ⟨h1, h4, h5, h6, h7, h8⟩ := h
  exact ⟨h1, fun k hk q => h4 k hk (by omega), h5, h6, by omega, h8⟩
theorem rq_itC {C : zC} {sd n m : Nat} {f : Nat → zU → zU} : ∀ (j : Nat) (s : zU), (∀ i s, i < j → RQ C sd n m s (f i s)) → RQ C sd n (j * m) s (itC f j s)
  | 0, s, _ => by rw [Nat.zero_mul]; exact RQ.rf s
  | j + 1, s, h => by
    have ih := rq_itC j s (fun i s hi => h i s (by omega))
    have := ih.tr (h j (itC f j s) (by omega))
    rw [Nat.succ_mul]
    exact this
/-- tiles that a valid tile sees are valid -/
theorem tlo_le {sd c r w : Nat} (hs : 1 ≤ sd) (hw : 1 ≤ w) (hc : c ≤ (w - 1) / sd) : tlo sd c r ≤ thi sd c r w := by
  unfold tlo thi
  have : c * sd ≤ w - 1 := (Nat.le_div_iff_mul_le hs).mp hc
  exact Nat.div_le_div_right (by rw [Nat.succ_mul]; omega)
theorem thi_le {sd c r w : Nat} : thi sd c r w ≤ (w - 1) / sd := by
  unfold thi
  exact Nat.div_le_div_right (Nat.min_le_right _ _)
theorem rq_itR {C : zC} {sd n : Nat} {f : Nat → Nat → zU → zU} {c0 c1 r0 r1 : Nat} (s : zU) (hc : c1 < 8) (hr : r1 < 8) (h : ∀ c r s, c ≤ c1 → r ≤ r1 → RQ C sd n 1 s (f c r s)) : RQ C sd n 64 s (itR f c0 c1 r0 r1 s) := by
  have h1 : RQ C sd n ((r1 + 1 - r0) * ((c1 + 1 - c0) * 1)) s (itR f c0 c1 r0 r1 s) := rq_itC _ s (fun j s hj => rq_itC _ s (fun i s hi => h _ _ s (by omega) (by omega)))
  exact h1.mono (Nat.le_refl _) (Nat.mul_le_mul (show r1 + 1 - r0 ≤ 8 by omega) (show (c1 + 1 - c0) * 1 ≤ 8 by omega))
theorem rq_req {C : zC} {sd : Nat} (hs : 1 ≤ sd) (hw : (cW C - 1) / sd < 8) (hh : (cH C - 1) / sd < 8) : ∀ n, n ≤ 8 → ∀ c r s, c ≤ (cW C - 1) / sd → r ≤ (cH C - 1) / sd → RQ C sd n 1 s (reqT C sd n c r s)
  | 0, _, c, r, s, _, _ => (RQ.rf s).mono (Nat.le_refl _) (by decide)
  | n + 1, hn, c, r, s, hc, hr => by
    have ih := rq_req hs hw hh n (by omega)
    have hk : sN n c r < 512 := sN_lt (by omega) (by omega) (by omega)
    have hd := sN_dec (l := n) (show c < 8 by omega) (show r < 8 by omega)
    unfold reqT
    by_cases ho : cL C n 5 = 1
    · rw [if_pos ho]
      by_cases hu : s.1 (sN n c r) = 0
      · rw [if_pos hu]
        have h64 : RQ C sd n 64 s (itR (reqT C sd n) (tlo sd c (rch (cL C n))) (thi sd c (rch (cL C n)) (cW C)) (tlo sd r (rch (cL C n))) (thi sd r (rch (cL C n)) (cH C)) s) :=
          rq_itR s (Nat.lt_of_le_of_lt thi_le hw) (Nat.lt_of_le_of_lt thi_le hh) (fun c r s hc hr => ih c r s (Nat.le_trans hc thi_le) (Nat.le_trans hr thi_le))
        generalize itR (reqT C sd n) (tlo sd c (rch (cL C n))) (thi sd c (rch (cL C n)) (cW C)) (tlo sd r (rch (cL C n))) (thi sd r (rch (cL C n)) (cH C)) s = s' at h64
        obtain ⟨⟨g1, g2, g3⟩, g4, g5, g6, g7, g8, g9⟩ := h64
        have hu' : s'.1 (sN n c r) = 0 := by rw [g4 _ hk (by omega)]; exact hu
        have hcn := cnt_st s'.1 (sN n c r) (tCk s'.2 + 1) 512 (by omega) hk
        rw [if_pos hu'] at hcn
        have hc5 := cnt_le (stU s'.1 (sN n c r) (tCk s'.2 + 1)) 512
        refine ⟨⟨g1, g2, g3⟩, fun k hk2 q => ?_, fun k hk2 q => ?_, fun q k hk2 => ?_, ?_, fun k hk2 q => ?_, Nat.le_succ_of_le g9⟩
        · show stU s'.1 (sN n c r) (tCk s'.2 + 1) k = s.1 k
          unfold stU
          rw [if_neg (fun e => by rw [e] at q; omega)]
          exact g4 k hk2 (by omega)
        · show stU s'.1 (sN n c r) (tCk s'.2 + 1) k ≠ 0
          unfold stU
          split
          · omega
          · exact g5 k hk2 q
        · show stU s'.1 (sN n c r) (tCk s'.2 + 1) k ≤ tCk s'.2 + 1
          unfold stU
          split
          · omega
          · exact Nat.le_succ_of_le (g6 q k hk2)
        · show tCk s'.2 + 1 + 64 * (512 - cnt (stU s'.1 (sN n c r) (tCk s'.2 + 1)) 512) ≤ _
          unfold potU at g7 ⊢
          omega
        · have q : stU s'.1 (sN n c r) (tCk s'.2 + 1) k ≠ 0 := q
          unfold stU at q
          by_cases e : k = sN n c r
          · rw [e, hd.1, hd.2.1, hd.2.2]
            exact Or.inr ⟨ho, hc, hr⟩
          · rw [if_neg e] at q
            exact g8 k hk2 q
      · rw [if_neg hu]
        have hcn := cnt_st s.1 (sN n c r) (tCk s.2 + 1) 512 (by omega) hk
        rw [if_neg hu] at hcn
        refine ⟨⟨rfl, rfl, rfl⟩, fun k hk2 q => ?_, fun k hk2 q => ?_, fun q k hk2 => ?_, ?_, fun k hk2 q => ?_, Nat.le_succ _⟩
        · show stU s.1 (sN n c r) (tCk s.2 + 1) k = s.1 k
          unfold stU
          rw [if_neg (fun e => by rw [e] at q; omega)]
        · show stU s.1 (sN n c r) (tCk s.2 + 1) k ≠ 0
          unfold stU
          split
          · omega
          · exact q
        · show stU s.1 (sN n c r) (tCk s.2 + 1) k ≤ tCk s.2 + 1
          unfold stU
          split
          · omega
          · exact Nat.le_succ_of_le (q k hk2)
        · show tCk s.2 + 1 + 64 * (512 - cnt (stU s.1 (sN n c r) (tCk s.2 + 1)) 512) ≤ _
          unfold potU
          omega
        · have q : stU s.1 (sN n c r) (tCk s.2 + 1) k ≠ 0 := q
          unfold stU at q
          by_cases e : k = sN n c r
          · rw [e]; exact Or.inl hu
          · rw [if_neg e] at q
            exact Or.inl q
    · rw [if_neg ho]
      exact (ih c r s hc hr).mono (by omega) (Nat.le_refl _)
/-- behind a request the tile is there -/
theorem req_in {C : zC} {sd : Nat} : ∀ n c r s m, onB (cL C) n = m + 1 → (reqT C sd n c r s).1 (sN m c r) ≠ 0
  | 0, c, r, s, m, h => by cases h
  | n + 1, c, r, s, m, h => by
    have h : (if cL C n 5 = 1 then n + 1 else onB (cL C) n) = m + 1 := h
    unfold reqT
    by_cases ho : cL C n 5 = 1
    · rw [if_pos ho] at h
      have e : m = n := by omega
      subst e
      rw [if_pos ho]
      split
      · show stU _ _ _ _ ≠ 0
        unfold stU
        rw [if_pos rfl]
        omega
      · show stU _ _ _ _ ≠ 0
        unfold stU
        rw [if_pos rfl]
        omega
    · rw [if_neg ho] at h ⊢
      exact req_in n c r s m h
theorem req_none {C : zC} {sd : Nat} : ∀ n c r s, onB (cL C) n = 0 → reqT C sd n c r s = s
  | 0, c, r, s, h => rfl
  | n + 1, c, r, s, h => by
    have h : (if cL C n 5 = 1 then n + 1 else onB (cL C) n) = 0 := h
    unfold reqT
    by_cases ho : cL C n 5 = 1
    · rw [if_pos ho] at h; omega
    · rw [if_neg ho] at h ⊢
      exact req_none n c r s h
/-- a request below n is one below the place of the greatest one that is on -/
theorem req_onB {C : zC} {sd : Nat} : ∀ n c r s, reqT C sd n c r s = reqT C sd (onB (cL C) n) c r s
  | 0, c, r, s => rfl
  | n + 1, c, r, s => by
    show _ = reqT C sd (if cL C n 5 = 1 then n + 1 else onB (cL C) n) c r s
    by_cases ho : cL C n 5 = 1
    · rw [if_pos ho]
    · rw [if_neg ho]
      have : reqT C sd (n + 1) c r s = reqT C sd n c r s := by rw [reqT, if_neg ho]
      rw [this]
      exact req_onB n c r s
