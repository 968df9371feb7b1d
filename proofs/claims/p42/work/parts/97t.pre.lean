/-! prefetching: it never counts down; a second time, of one layer, it counts nothing -/
theorem cp_req {C : zC} {sd : Nat} : ∀ n c r (s : zU), tCp s.2 ≤ tCp (reqT C sd n c r s).2 := by
  intro n
  induction n with
  | zero => intro c r s; exact Nat.le_refl _
  | succ n ih =>
    intro c r s
    unfold reqT
    by_cases ho : cL C n 5 = 1
    · rw [if_pos ho]
      by_cases hu : s.1 (sN n c r) = 0
      · rw [if_pos hu]
        have h2 : tCp s.2 ≤ tCp (itR (reqT C sd n) (tlo sd c (rch (cL C n))) (thi sd c (rch (cL C n)) (cW C)) (tlo sd r (rch (cL C n))) (thi sd r (rch (cL C n)) (cH C)) s).2 :=
          itR_keep (P := fun s' => tCp s.2 ≤ tCp s'.2) (fun c r s' _ _ hp => Nat.le_trans hp (ih c r s')) s (Nat.le_refl _)
        exact Nat.le_succ_of_le h2
      · rw [if_neg hu]
        exact Nat.le_refl _
    · rw [if_neg ho]
      exact ih c r s
theorem cp_pre (A : zW) (k : Nat) : tCp (aT A) ≤ tCp (sPre A k).2 :=
  itR_keep (P := fun s' => tCp (aT A) ≤ tCp s'.2) (fun c r s' _ _ hp => Nat.le_trans hp (cp_req _ c r s')) _ (Nat.le_refl _)
theorem pre_nn {A : zW} {B : Nat} {x : Int32} (hx : zin x (cN (aC A))) (hG : GA (tPre A x) B) (hK : KT (tPre A x)) (hB : B < 2 ^ 29) : ¬ rPre A x < 0 := by
  have h1 := cp_pre A x.toNatClampNeg
  have e1 : tPre A x = aDrop (aCac A (sPre A x.toNatClampNeg)) (sPre A x.toNatClampNeg).2 := if_pos hx
  have e2 : tCp (aT (tPre A x)) = tCp (sPre A x.toNatClampNeg).2 := by rw [e1]; rfl
  have h2 : tCk (aT (tPre A x)) ≤ B := hG.2.2.2.2.2.2.2.2
  have h3 := hK.2
  unfold rPre
  rw [if_pos hx, nI_sub h1]
  exact nI_pos (by omega)
theorem cnt_z {u : Nat → Nat} : ∀ n, (∀ k, k < n → u k = 0) → cnt u n = 0
  | 0, _ => rfl
  | n + 1, h => by
    show cnt u n + (if u n = 0 then 0 else 1) = 0
    rw [cnt_z n (fun k hk => h k (by omega)), if_pos (h n (by omega))]
theorem cnt_64 {u : Nat → Nat} (h : ∀ k, k < 512 → u k ≠ 0 → k / 64 < 1) : cnt u 512 ≤ 64 := by
  have e : cnt u 512 = cnt u 64 + cnF u 64 448 := cnt_add u 64 448
  have z : cnF u 64 448 = 0 := cnt_z 448 (fun k hk => by
    rcases Nat.eq_zero_or_pos (u (64 + k)) with q | q
    · exact q
    · have := h (64 + k) (by omega) (by omega)
      omega)
  have := cnt_le u 64
  omega
/-- all tiles of the one layer are there -/
def AllT (C : zC) (sd : Nat) (u : Nat → Nat) : Prop := cL C 0 5 = 1 → ∀ c r, c ≤ (cW C - 1) / sd → r ≤ (cH C - 1) / sd → u (sN 0 c r) ≠ 0
theorem req_same {C : zC} {sd : Nat} (c r : Nat) (s : zU) (hc : c ≤ (cW C - 1) / sd) (hr : r ≤ (cH C - 1) / sd) (h : AllT C sd s.1) : tCp (reqT C sd 1 c r s).2 = tCp s.2 ∧ AllT C sd (reqT C sd 1 c r s).1 := by
  unfold reqT
  by_cases ho : cL C 0 5 = 1
  · rw [if_pos ho, if_neg (h ho c r hc hr)]
    refine ⟨rfl, fun _ c' r' hc' hr' => ?_⟩
    show stU s.1 (sN 0 c r) (tCk s.2 + 1) (sN 0 c' r') ≠ 0
    unfold stU
    split
    · omega
    · exact h ho c' r' hc' hr'
  · rw [if_neg ho]
    exact ⟨rfl, h⟩
theorem pre_2 {A : zW} {B : Nat} (hG : GA A B) (h1 : cN (aC A) = 1) (hl : tLm (aT A) = 64) : rPre (tPre A 0) 0 = 0 := by
  have hw := hG.1.1
  have hh := hG.1.2.1
  have hs := hG.2.2.2.2.1
  have hz : zin 0 (cN (aC A)) := by rw [h1]; decide
  have n0 : (0 : Int32).toNatClampNeg = 0 := rfl
  have e1 : tPre A 0 = aDrop (aCac A (sPre A 0)) (sPre A 0).2 := if_pos hz
  have hR := rq_sPre (k := 0) hG (by omega)
  have hG2 := hG.req (s := sPre A 0) (n := 0 + 1) (m := 64) (by omega) (by omega) hR
  have hlm : tLm (sPre A 0).2 = 64 := hR.1.2.1.trans hl
  have hc : cnt (sPre A 0).1 512 ≤ 64 := cnt_64 (fun k hk q => by
    have := (hG2.2.2.2.2.2.2.2.1 k hk q).1
    have e : cN (aC (aCac A (sPre A 0))) = cN (aC A) := rfl
    omega)
  have hn : cnt (sPre A 0).1 512 - tLm (sPre A 0).2 = 0 := by omega
  have eU : aU (tPre A 0) = (sPre A 0).1 := by
    rw [e1]
    show drpU 512 (sPre A 0).1 (cnt (sPre A 0).1 512 - tLm (sPre A 0).2) = _
    rw [hn]
    rfl
  have eC : aC (tPre A 0) = aC A := by rw [e1]; rfl
  have eS : tSd (aT (tPre A 0)) = tSd (aT A) := by rw [e1]; exact hR.1.1
  have hA : AllT (aC A) (tSd (aT A)) (sPre A 0).1 := by
    intro ho c r hc hr
    have hon : onB (cL (aC A)) 1 = 0 + 1 := by
      show (if cL (aC A) 0 5 = 1 then 0 + 1 else 0) = 0 + 1
      rw [if_pos ho]
    have hc8 := div8 hw.2 hs.1
    have hh8 := div8 hh.2 hs.1
    exact itR_all (P := fun c r s => sN 0 c r < 512 → s.1 (sN 0 c r) ≠ 0) (fun c r s _ _ _ => req_in 1 c r s 0 hon) (fun c r c' r' s hc hr hp e => (rq_req (by omega) hc8 hh8 1 (by decide) c r s hc hr).2.2.1 _ e (hp e)) _ (Nat.zero_le _) hc (Nat.zero_le _) hr (sN_lt (by decide) (by omega) (by omega))
  have hz2 : zin 0 (cN (aC (tPre A 0))) := by rw [eC]; exact hz
  have key : tCp (sPre (tPre A 0) 0).2 = tCp (aT (tPre A 0)) := by
    unfold sPre
    rw [eC, eS]
    exact (itR_keep (P := fun s => tCp s.2 = tCp (aT (tPre A 0)) ∧ AllT (aC A) (tSd (aT A)) s.1) (fun c r s hc hr hp => by
      obtain ⟨k1, k2⟩ := req_same c r s hc hr hp.2
      exact ⟨k1.trans hp.1, k2⟩) (aU (tPre A 0), aT (tPre A 0)) ⟨rfl, by rw [eU]; exact hA⟩).1
  unfold rPre
  rw [if_pos hz2, n0, key]
  exact Int32.sub_self _
