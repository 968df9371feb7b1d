/-! the law's digest: a number of the composition alone -/
def aOf (C : zC) : zW := (C, (0, fun _ => C), fun _ => none, (0, fun _ => 0), fun _ => 0, (2, 1, 0, 0, 0, 0))
def dgL (C : zC) (x : Int32) (h : Int64) : Nat → Int64
  | 0 => h
  | m + 1 => 31 * dgL C x h m + (rLyr (aOf C) x (nI m)).toInt64
def dgH (C : zC) (x : Int32) (h : Int64) : Int64 := 31 * (31 * h + (rSum (aOf C) x).toInt64) + (rHist (aOf C) x 0 127).toInt64
def dgO (C : zC) : Nat → Int64
  | 0 => (nI (cW C) * 100 + nI (cH C)).toInt64
  | k + 1 => if k = 0 then dgH C (iI ((k : Int) - 1)) (dgO C k) else dgL C (iI ((k : Int) - 1)) (dgH C (iI ((k : Int) - 1)) (dgO C k)) 9
def dgC (C : zC) : Int64 := dgO C (cN C + 1)
theorem size_0 (A : zW) : rSize A 0 = nI (cW (aC A)) := if_pos rfl
theorem size_1 (A : zW) : rSize A 1 = nI (cH (aC A)) := by
  unfold rSize
  rw [if_neg (by decide), if_pos rfl]
theorem size_2 (A : zW) : rSize A 2 = nI (cN (aC A)) := by
  unfold rSize
  rw [if_neg (by decide), if_neg (by decide), if_pos rfl]
theorem size_5 (A : zW) : rSize A 5 = nI (tLm (aT A)) := by
  unfold rSize
  rw [if_neg (by decide), if_neg (by decide), if_neg (by decide), if_neg (by decide), if_neg (by decide), if_pos rfl]
theorem iI_up (k : Nat) : iI ((k : Int) - 1) + 1 = iI (((k + 1 : Nat) : Int) - 1) := by
  rw [show (1 : Int32) = iI 1 from rfl, i_add]
  congr 1
  omega
theorem w_digest {b o n : Nat} {xs : Nat → Int32} {σ : zS} {A : zW} {B : Nat} (h : LI b o n xs σ A B) (hB : B < 2 ^ 29) (d : Nat) : ∃ τ, zEv (d + 31) mL_digest [.inr (.inl (some o))] σ = some (some (.inr (.inr (some (dgC (aC A))))), τ) ∧ LI b o n xs τ A B := by
  have h8 := h.1.1.2.2.1
  have b1 : zB 1 = True := eq_true (Or.inr rfl)
  rw [vL_digest]
  unfold fL_digest
  obtain ⟨τ1, k1, h1⟩ := w_size h hB 0 d
  obtain ⟨τ2, k2, h2⟩ := w_size h1 hB 1 d
  simp only [onR_s, chk_e, h.o8, h1.o8, if_true, k1, bnI_s, k2, zlt_e, size_0, size_1]
  have go : ∀ (k : Nat) (s : Int64 × zV × zS), k < cN (aC A) + 1 → (s.1 = dgO (aC A) k ∧ LI b o n xs s.2.2 A B) → ∃ s' : Int64 × zV × zS, LL_digest_18 (zEv (d + 30)) (some o) s.1 (iI ((k : Int) - 1)) s.2.1 s.2.2 = LL_digest_18 (zEv (d + 30)) (some o) s'.1 (iI (((k + 1 : Nat) : Int) - 1)) s'.2.1 s'.2.2 ∧ (s'.1 = dgO (aC A) (k + 1) ∧ LI b o n xs s'.2.2 A B) := by
    intro k s hk hI
    obtain ⟨e, g⟩ := hI
    obtain ⟨s1, a1, g1⟩ := w_size g hB 2 d
    obtain ⟨s2, a2, g2⟩ := w_sum g1 hB (iI ((k : Int) - 1)) d
    obtain ⟨s3, a3, g3⟩ := w_histogram g2 hB (iI ((k : Int) - 1)) 0 127 d
    have c1 : (iI ((k : Int) - 1) < nI (cN (aC A))) = True := eq_true (by rw [i_nI, i_lt (by omega) (by omega) (by omega) (by omega)]; omega)
    have l18 : LL_digest_18 (zEv (d + 30)) (some o) s.1 (iI ((k : Int) - 1)) s.2.1 s.2.2 = LL_digest_59 (zEv (d + 30)) (some o) (dgH (aC A) (iI ((k : Int) - 1)) (dgO (aC A) k)) (iI ((k : Int) - 1)) (nI 0) s3 := by
      rw [uL_digest_18]
      simp only [onR_s, chk_e, g.o8, g1.o8, g2.o8, if_true, a1, bnI_s, size_2, c1, a2, a3, zlt_e, e]
      rfl
    by_cases k0 : k = 0
    · refine ⟨(dgH (aC A) (iI ((k : Int) - 1)) (dgO (aC A) k), .inl (nI 0), s3), ?_, ?_, g3⟩
      · rw [l18, uL_digest_59]
        have c2 : ((nI 0 : Int32) < 9) = True := eq_true (by decide)
        have c3 : (iI ((k : Int) - 1) < 0) = True := eq_true (by rw [show (0 : Int32) = iI 0 from rfl, i_lt (by omega) (by omega) (by omega) (by omega)]; omega)
        simp only [c2, c3, if_true, zlt_e, iI_up]
      · show _ = (if k = 0 then _ else _)
        rw [if_pos k0]
    · have c3 : (iI ((k : Int) - 1) < 0) = False := eq_false (by rw [show (0 : Int32) = iI 0 from rfl, i_lt (by omega) (by omega) (by omega) (by omega)]; omega)
      obtain ⟨⟨x, t⟩, l1, l2, l3⟩ := loop_from (fun m (s : Int64 × zS) => LL_digest_59 (zEv (d + 30)) (some o) s.1 (iI ((k : Int) - 1)) (nI m) s.2) (fun m s => s.1 = dgL (aC A) (iI ((k : Int) - 1)) (dgH (aC A) (iI ((k : Int) - 1)) (dgO (aC A) k)) m ∧ LI b o n xs s.2 A B) 0 9 (fun s => LL_digest_59 (zEv (d + 30)) (some o) s.1 (iI ((k : Int) - 1)) (nI 9) s.2) (dgH (aC A) (iI ((k : Int) - 1)) (dgO (aC A) k), s3) (by decide) ⟨rfl, g3⟩
        (fun m s hm hJ => by
          obtain ⟨f, gm⟩ := hJ
          obtain ⟨t, a4, g4⟩ := w_layer gm hB (iI ((k : Int) - 1)) (nI m) d
          have c4 : ((nI m : Int32) < 9) = True := eq_true ((n_lt (show m < 2 ^ 31 by omega) (show 9 < 2 ^ 31 by decide)).mpr hm)
          refine ⟨(31 * s.1 + (rLyr A (iI ((k : Int) - 1)) (nI m)).toInt64, t), ?_, ?_, g4⟩
          · show LL_digest_59 _ _ _ _ _ _ = LL_digest_59 _ _ _ _ _ _
            rw [uL_digest_59]
            simp only [onR_s, chk_e, gm.o8, if_true, c4, c3, if_false, a4, bnI_s, zlt_e, nI_1]
          · show 31 * s.1 + _ = 31 * dgL _ _ _ m + _
            rw [f]
            rfl)
        (fun s _ => rfl)
      refine ⟨(x, .inl (nI 9), t), ?_, ?_, l3⟩
      · rw [l18]
        refine l1.trans ?_
        show LL_digest_59 _ _ _ _ _ _ = _
        rw [uL_digest_59]
        have c5 : ((nI 9 : Int32) < 9) = False := eq_false (by decide)
        simp only [c5, if_false, zlt_e, iI_up]
      · show x = (if k = 0 then _ else _)
        rw [if_neg k0]
        exact l2
  obtain ⟨⟨x, v, t⟩, l1, l2, l3⟩ := loop_from (fun k (s : Int64 × zV × zS) => LL_digest_18 (zEv (d + 30)) (some o) s.1 (iI ((k : Int) - 1)) s.2.1 s.2.2) (fun k s => s.1 = dgO (aC A) k ∧ LI b o n xs s.2.2 A B) 0 (cN (aC A) + 1) (fun s => LL_digest_18 (zEv (d + 30)) (some o) s.1 (iI (((cN (aC A) + 1 : Nat) : Int) - 1)) s.2.1 s.2.2) (dgO (aC A) 0, .inr (.inr none), τ2) (Nat.zero_le _) ⟨rfl, h2⟩ go (fun s _ => rfl)
  obtain ⟨s1, a1, g1⟩ := w_size l3 hB 2 d
  have c1 : (iI (((cN (aC A) + 1 : Nat) : Int) - 1) < nI (cN (aC A))) = False := eq_false (by rw [i_nI, i_lt (by omega) (by omega) (by omega) (by omega)]; omega)
  refine ⟨s1, ?_, g1⟩
  refine Eq.trans (show _ = _ from l1) ?_
  show LL_digest_18 _ _ x _ v t = _
  rw [uL_digest_18]
  simp only [onR_s, chk_e, l3.o8, if_true, a1, bnI_s, size_2, c1, if_false]
  have e : x = dgC (aC A) := l2
  rw [e]
