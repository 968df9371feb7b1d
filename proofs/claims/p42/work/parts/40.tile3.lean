theorem cnt_old {u : Nat → Nat} {j : Nat} (h : oldU u 512 = some j) : cnt (clr u j) 512 + 1 = cnt u 512 := by
  have h1 := oldU_lt u 512 j h
  have := cnt_clr u j 512 h1.1
  rw [if_neg h1.2] at this
  exact this
def tDp (T : zT) (n : Nat) : zT := (tSd T, tLm T, tCk T, tCp T, tFd T, tDr T + n)
theorem s_dropSurplus {σ : zS} {X : Nat} {u : Nat → Nat} {T : zT} (hX : TcS σ X) (hU : TcU σ X u) (hT : TcF σ X T) (hB : ∀ k, k < 512 → u k ≤ tCk T) (hC : tCk T < 2 ^ 30) (hL : tLm T < 1000) (d : Nat) : ∃ τ, zEv (d + 2) mX9_dropSurplus [.inr (.inl (some X))] σ = some (some (.inl (nI (cnt u 512 - tLm T))), τ) ∧ zFr (inU X) σ τ ∧ TcU τ X (drpU 512 u (cnt u 512 - tLm T)) ∧ TcF τ X (tDp T (cnt u 512 - tLm T)) := by
  have hc := cnt_le u 512
  rw [vX9_dropSurplus]
  unfold fX9_dropSurplus
  simp only [zlt_e, onR_s, nul_s, nul_n, chk_e, bnI_s, bnR_s, bnV_s, zi_si, zi_sr, zi_sl, zi_sa, zi_sq, zr_si, zr_sr, zr_sl, zr_sa, zr_sq, zl_si, zl_sr, zl_sl, zl_sa, zl_sq, zai_si, zai_sr, zai_sl, zai_sa, zai_sq, zar_si, zar_sr, zar_sl, zar_sa, zar_sq, zkd_si, zkd_sr, zkd_sl, zkd_sa, zkd_sq, zln_si, zln_sr, zln_sl, zln_sa, zln_sq, znx_si, znx_sr, znx_sl, znx_sa, znx_sq, hX.1, if_true, hU.1, hT.2.1]
  have e : iI (max 0 ((cnt u 512 : Int) - (tLm T : Int))) = nI (cnt u 512 - tLm T) := by rw [i_nI]; congr 1; omega
  rw [i_nI (cnt u 512), i_nI (tLm T), i_sub, show (0 : Int32) = iI 0 from rfl, s_imax d σ (by omega) (by omega) (by omega) (by omega)]
  simp only [zlt_e, onR_s, nul_s, nul_n, chk_e, bnI_s, bnR_s, bnV_s, zi_si, zi_sr, zi_sl, zi_sa, zi_sq, zr_si, zr_sr, zr_sl, zr_sa, zr_sq, zl_si, zl_sr, zl_sl, zl_sa, zl_sq, zai_si, zai_sr, zai_sl, zai_sa, zai_sq, zar_si, zar_sr, zar_sl, zar_sa, zar_sq, zkd_si, zkd_sr, zkd_sl, zkd_sa, zkd_sq, zln_si, zln_sr, zln_sl, zln_sa, zln_sq, znx_si, znx_sr, znx_sl, znx_sa, znx_sq, e]
  -- n more of m
  have go : ∀ n k (u : Nat → Nat) (τ : zS), k + n < 2 ^ 30 → n ≤ cnt u 512 → zFr (inU X) σ τ → TcU τ X u → TcF τ X T → (∀ k, k < 512 → u k ≤ tCk T) → ∃ υ, LX9_dropSurplus_16 (zEv (d + 1)) X (nI (k + n)) (nI k) τ = some (some (.inl (nI (k + n))), υ) ∧ zFr (inU X) σ υ ∧ TcU υ X (drpU 512 u n) ∧ TcF υ X (tDp T (k + n)) := by
    intro n
    induction n with
    | zero =>
      intro k u τ hk hn g gU gT gB
      refine ⟨zsi τ 456 X (nI (tDr T) + nI k), ?_, g.tr (zFr.si _ (Or.inl rfl)), ⟨?_, fun j hj => ?_⟩, ?_⟩
      · rw [uX9_dropSurplus_16]
        simp only [zlt_e, onR_s, nul_s, nul_n, chk_e, bnI_s, bnR_s, bnV_s, zi_si, zi_sr, zi_sl, zi_sa, zi_sq, zr_si, zr_sr, zr_sl, zr_sa, zr_sq, zl_si, zl_sr, zl_sl, zl_sa, zl_sq, zai_si, zai_sr, zai_sl, zai_sa, zai_sq, zar_si, zar_sr, zar_sl, zar_sa, zar_sq, zkd_si, zkd_sr, zkd_sl, zkd_sa, zkd_sq, zln_si, zln_sr, zln_sl, zln_sa, zln_sq, znx_si, znx_sr, znx_sl, znx_sa, znx_sq, Nat.add_zero, n_lt (show k < 2 ^ 31 by omega) (show k < 2 ^ 31 by omega), Nat.lt_irrefl, if_false, (hX.fr g).1, if_true, gT.2.2.2.2.2]
      · rw [zi_si, if_neg (by omega)]; exact gU.1
      · rw [zai_si]; exact gU.2 j hj
      · obtain ⟨t1, t2, t3, t4, t5, t6⟩ := gT
        unfold TcF tDp tSd tLm tCk tCp tFd tDr at *
        simp [zi_si, t1, t2, t3, t4, t5, nI_add]
    | succ n ih =>
      intro k u τ hk hn g gU gT gB
      have hX' := hX.fr g
      cases ho : oldU u 512 with
      | none =>
        have := oldU_none u 512 ho
        omega
      | some j =>
        have hj := oldU_lt u 512 j ho
        have ec := cnt_old ho
        obtain ⟨υ, k1, k2, k3, k4⟩ := s_remove hX' gU (fun k hk => by have := gB k hk; omega) hj.1 d
        have gT' : TcF υ X T := gT.kp k4
        obtain ⟨ω, m1, m2, m3, m4⟩ := ih (k + 1) (clr u j) υ (by omega) (by omega) (g.tr k2) k3 gT' (clr_le gB j)
        refine ⟨ω, ?_, m2, ?_, ?_⟩
        · rw [uX9_dropSurplus_16]
          have eo : iI (oInt (some j)) = nI j := (i_nI j).symm
          rw [show k + (n + 1) = k + 1 + n by omega]
          simp only [zlt_e, onR_s, nul_s, nul_n, chk_e, bnI_s, bnR_s, bnV_s, zi_si, zi_sr, zi_sl, zi_sa, zi_sq, zr_si, zr_sr, zr_sl, zr_sa, zr_sq, zl_si, zl_sr, zl_sl, zl_sa, zl_sq, zai_si, zai_sr, zai_sl, zai_sa, zai_sq, zar_si, zar_sr, zar_sl, zar_sa, zar_sq, zkd_si, zkd_sr, zkd_sl, zkd_sa, zkd_sq, zln_si, zln_sr, zln_sl, zln_sa, zln_sq, znx_si, znx_sr, znx_sl, znx_sa, znx_sq, n_lt (show k < 2 ^ 31 by omega) (show k + 1 + n < 2 ^ 31 by omega), show k < k + 1 + n by omega, if_true, hX'.1, s_oldestSlot hX' gU gT gB hC, ho, eo, k1, nI_1]
          exact m1
        · rw [drpU_some n ho]; exact m3
        · rw [show k + (n + 1) = k + 1 + n by omega]; exact m4
  obtain ⟨υ, h1, h2, h3, h4⟩ := go (cnt u 512 - tLm T) 0 u σ (by omega) (by omega) (zFr.rf σ) hU hT hB
  rw [Nat.zero_add] at h1 h4
  exact ⟨υ, h1, h2, h3, h4⟩
theorem s_removeFrom {σ : zS} {X l : Nat} {u : Nat → Nat} (hX : TcS σ X) (hU : TcU σ X u) (hB : ∀ k, k < 512 → u k < 2 ^ 31) (hl : l ≤ 8) (d : Nat) : ∃ τ n, zEv (d + 3) mX9_removeFrom [.inr (.inl (some X)), .inl (nI l)] σ = some (some (.inl (nI n)), τ) ∧ zFr (inU X) σ τ ∧ TcU τ X (zrU u (64 * l) 512) ∧ keepU X σ τ ∧ n + cnt (zrU u (64 * l) 512) 512 = cnt u 512 := by
  obtain ⟨τ, n, h1, h2⟩ := s_removeSlots hX hU hB (show 64 * l ≤ 512 by omega) (by decide) d
  refine ⟨τ, n, ?_, h2⟩
  rw [vX9_removeFrom]
  unfold fX9_removeFrom
  have e : nI l * 64 = nI (64 * l) := by rw [nL 64, pk_mul, Nat.mul_comm]
  simp only [zlt_e, onR_s, nul_s, nul_n, chk_e, bnI_s, bnR_s, bnV_s, zi_si, zi_sr, zi_sl, zi_sa, zi_sq, zr_si, zr_sr, zr_sl, zr_sa, zr_sq, zl_si, zl_sr, zl_sl, zl_sa, zl_sq, zai_si, zai_sr, zai_sl, zai_sa, zai_sq, zar_si, zar_sr, zar_sl, zar_sa, zar_sq, zkd_si, zkd_sr, zkd_sl, zkd_sa, zkd_sq, zln_si, zln_sr, zln_sl, zln_sa, zln_sq, znx_si, znx_sr, znx_sl, znx_sa, znx_sq, hX.1, hX.2.2.2.2.1, hX.2.2.2.2.2.1, hX.2.2.2.2.2.2.1, if_true, e, n_ofNat, h1]
theorem s_removeAll {σ : zS} {X : Nat} {u : Nat → Nat} (hX : TcS σ X) (hU : TcU σ X u) (hB : ∀ k, k < 512 → u k < 2 ^ 31) (d : Nat) : ∃ τ, zEv (d + 4) mX9_removeAll [.inr (.inl (some X))] σ = some (some (.inl (nI (cnt u 512))), τ) ∧ zFr (inU X) σ τ ∧ TcU τ X (fun _ => 0) ∧ keepU X σ τ := by
  obtain ⟨τ, n, h1, h2, h3, h4, h5⟩ := s_removeFrom (l := 0) hX hU hB (by decide) d
  have hz : ∀ k, k < 512 → zrU u (64 * 0) 512 k = 0 := fun k hk => by unfold zrU; rw [if_pos (by omega)]
  have hc : cnt (zrU u (64 * 0) 512) 512 = 0 := by
    have : ∀ n, cnt (fun _ => 0) n = 0 := fun n => by
      induction n with
      | zero => rfl
      | succ n ih => show cnt (fun _ => 0) n + 0 = 0; rw [ih]
    rw [cnt_congr (v := fun _ => 0) 512 (fun k hk => by rw [hz k hk])]
    exact this 512
  rw [hc, Nat.add_zero] at h5
  refine ⟨τ, ?_, h2, h3.congr hz, h4⟩
  rw [vX9_removeAll]
  unfold fX9_removeAll
  have h1 : zEv (d + 3) mX9_removeFrom [.inr (.inl (some X)), .inl 0] σ = _ := h1
  simp only [zlt_e, onR_s, nul_s, nul_n, chk_e, bnI_s, bnR_s, bnV_s, zi_si, zi_sr, zi_sl, zi_sa, zi_sq, zr_si, zr_sr, zr_sl, zr_sa, zr_sq, zl_si, zl_sr, zl_sl, zl_sa, zl_sq, zai_si, zai_sr, zai_sl, zai_sa, zai_sq, zar_si, zar_sr, zar_sl, zar_sa, zar_sq, zkd_si, zkd_sr, zkd_sl, zkd_sa, zkd_sq, zln_si, zln_sr, zln_sl, zln_sa, zln_sq, znx_si, znx_sr, znx_sl, znx_sa, znx_sq, hX.1, if_true, h1, h5]
/-- the tiles of a layer in a rectangle of tiles go -/
def tchU (u : Nat → Nat) (l c0 c1 r0 r1 k : Nat) : Nat := if k / 64 = l ∧ (c0 ≤ k % 8 ∧ k % 8 ≤ c1) ∧ r0 ≤ k / 8 % 8 ∧ k / 8 % 8 ≤ r1 then 0 else u k
theorem sN_dec {l c r : Nat} (hc : c < 8) (hr : r < 8) : sN l c r / 64 = l ∧ sN l c r % 8 = c ∧ sN l c r / 8 % 8 = r := by unfold sN; omega
theorem sN_eq {k : Nat} : sN (k / 64) (k % 8) (k / 8 % 8) = k := by unfold sN; omega
theorem sN_zin {l c r : Nat} (hl : l < 8) (hc : c < 8) (hr : r < 8) : sN l c r < 512 := sN_lt hl hc hr
theorem s_removeTouched {σ : zS} {X l c0 c1 r0 r1 a b a' b' : Nat} {u : Nat → Nat} {T : zT} (hX : TcS σ X) (hU : TcU σ X u) (hT : TcF σ X T) (hB : ∀ k, k < 512 → u k < 2 ^ 31) (hl : l < 8) (hs : 1 ≤ tSd T) (hs2 : tSd T < 1000) (ha : a < 1000) (hb : b < 1000) (ha' : a' < 1000) (hb' : b' < 1000) (e0 : a / tSd T = c0) (e1 : a' / tSd T = c1) (e2 : b / tSd T = r0) (e3 : b' / tSd T = r1) (hc1 : c1 < 8) (hr1 : r1 < 8) (hc : c0 ≤ c1) (hr : r0 ≤ r1) (d : Nat) : ∃ τ n, zEv (d + 4) mX9_removeTouched [.inr (.inl (some X)), .inl (nI l), .inl (nI a), .inl (nI b), .inl (nI a'), .inl (nI b')] σ = some (some (.inl (nI n)), τ) ∧ zFr (inU X) σ τ ∧ TcU τ X (tchU u l c0 c1 r0 r1) ∧ keepU X σ τ ∧ n + cnt (tchU u l c0 c1 r0 r1) 512 = cnt u 512 := by
  rw [vX9_removeTouched]
  unfold fX9_removeTouched
  simp only [zlt_e, onR_s, nul_s, nul_n, chk_e, bnI_s, bnR_s, bnV_s, zi_si, zi_sr, zi_sl, zi_sa, zi_sq, zr_si, zr_sr, zr_sl, zr_sa, zr_sq, zl_si, zl_sr, zl_sl, zl_sa, zl_sq, zai_si, zai_sr, zai_sl, zai_sa, zai_sq, zar_si, zar_sr, zar_sl, zar_sa, zar_sq, zkd_si, zkd_sr, zkd_sl, zkd_sa, zkd_sq, zln_si, zln_sr, zln_sl, zln_sa, zln_sq, znx_si, znx_sr, znx_sl, znx_sa, znx_sq, hX.1, if_true, s_tileOf hX hT hs hs2 hb, e2]
  -- what has gone before the place (c0 + i, r0 + j)
  let gone : Nat → Nat → Nat → Nat := fun j i k => if k / 64 = l ∧ (c0 ≤ k % 8 ∧ k % 8 ≤ c1) ∧ r0 ≤ k / 8 % 8 ∧ k / 8 % 8 ≤ r1 ∧ (k / 8 % 8 < r0 + j ∨ (k / 8 % 8 = r0 + j ∧ k % 8 < c0 + i)) then 0 else u k
  have gB : ∀ j i k, k < 512 → gone j i k < 2 ^ 31 := fun j i k hk => by
    show (if _ then _ else _) < _
    split
    · decide
    · exact hB k hk
  obtain ⟨⟨τ, n, z⟩, h1, h2⟩ := grid (fun j (s : zS × Nat × zV) => LX9_removeTouched_10 (zEv (d + 3)) X (nI l) (nI a) (.inl (nI b)) (nI a') (nI b') (nI s.2.1) (nI (r0 + j)) s.2.2 s.1) (fun j i s => LX9_removeTouched_28 (zEv (d + 3)) X (nI l) (nI a) (.inl (nI b)) (nI a') (nI b') (nI s.2.1) (nI (r0 + j)) (nI (c0 + i)) s.1)
    (fun j i s => zFr (inU X) σ s.1 ∧ TcU s.1 X (gone j i) ∧ keepU X σ s.1 ∧ s.2.1 + cnt (gone j i) 512 = cnt u 512) (c1 + 1 - c0) (r1 + 1 - r0) (fun s => some (some (.inl (nI s.2.1)), s.1)) (σ, 0, .inr (.inr none)) ⟨zFr.rf σ, hU.congr (fun k hk => by show _ = (if _ then _ else _); rw [if_neg (by omega)]), fun _ _ => rfl, by
      show 0 + _ = _
      rw [Nat.zero_add]
      exact cnt_congr 512 (fun k hk => by show (if _ then _ else _) = _ ↔ _; rw [if_neg (by omega)])⟩
    (fun j s hj hI => ⟨s, by
      obtain ⟨g, gU, gk, gn⟩ := hI
      show LX9_removeTouched_10 _ _ _ _ _ _ _ _ _ _ _ = LX9_removeTouched_28 _ _ _ _ _ _ _ _ _ _ _
      rw [uX9_removeTouched_10]
      simp only [zlt_e, onR_s, nul_s, nul_n, chk_e, bnI_s, bnR_s, bnV_s, zi_si, zi_sr, zi_sl, zi_sa, zi_sq, zr_si, zr_sr, zr_sl, zr_sa, zr_sq, zl_si, zl_sr, zl_sl, zl_sa, zl_sq, zai_si, zai_sr, zai_sl, zai_sa, zai_sq, zar_si, zar_sr, zar_sl, zar_sa, zar_sq, zkd_si, zkd_sr, zkd_sl, zkd_sa, zkd_sq, zln_si, zln_sr, zln_sl, zln_sa, zln_sq, znx_si, znx_sr, znx_sl, znx_sa, znx_sq, (hX.fr g).1, if_true, s_tileOf (hX.fr g) (hT.kp gk) hs hs2 hb', s_tileOf (hX.fr g) (hT.kp gk) hs hs2 ha, e3, e0, n_le (show r0 + j < 2 ^ 31 by omega) (show r1 < 2 ^ 31 by omega)]
      rw [if_pos (by omega)]
      rfl, hI⟩)
    (fun j i s hj hi hI => by
      obtain ⟨g, gU, gk, gn⟩ := hI
      have hX' := hX.fr g
      have hk : sN l (c0 + i) (r0 + j) < 512 := sN_lt hl (by omega) (by omega)
      have hd := sN_dec (l := l) (show c0 + i < 8 by omega) (show r0 + j < 8 by omega)
      obtain ⟨υ, k1, k2, k3, k4⟩ := s_remove hX' gU (gB j i) hk (d + 2)
      have ee : ∀ k, k < 512 → clr (gone j i) (sN l (c0 + i) (r0 + j)) k = gone j (i + 1) k := fun k hk => by
        show (if k = sN l (c0 + i) (r0 + j) then 0 else if _ then 0 else u k) = if _ then 0 else u k
        by_cases hk2 : k = sN l (c0 + i) (r0 + j)
        · rw [if_pos hk2, if_pos (by rw [hk2, hd.1, hd.2.1, hd.2.2]; omega)]
        · rw [if_neg hk2]
          have hne : ¬ (k / 64 = l ∧ k % 8 = c0 + i ∧ k / 8 % 8 = r0 + j) := fun q => hk2 (by rw [← sN_eq (k := k), q.1, q.2.1, q.2.2])
          by_cases q : k / 64 = l ∧ (c0 ≤ k % 8 ∧ k % 8 ≤ c1) ∧ r0 ≤ k / 8 % 8 ∧ k / 8 % 8 ≤ r1 ∧ (k / 8 % 8 < r0 + j ∨ (k / 8 % 8 = r0 + j ∧ k % 8 < c0 + i))
          · rw [if_pos q, if_pos (by omega)]
          · rw [if_neg q, if_neg (by omega)]
      have ea : nI (c0 + i) + 1 = nI (c0 + (i + 1)) := nI_1 (c0 + i)
      refine ⟨(υ, s.2.1 + (if gone j i (sN l (c0 + i) (r0 + j)) = 0 then 0 else 1), s.2.2), ?_, g.tr k2, k3.congr ee, fun f hf => (k4 f hf).trans (gk f hf), ?_⟩
      · show LX9_removeTouched_28 _ _ _ _ _ _ _ _ _ _ _ = LX9_removeTouched_28 _ _ _ _ _ _ _ _ _ _ _
        rw [uX9_removeTouched_28]
        simp only [zlt_e, onR_s, nul_s, nul_n, chk_e, bnI_s, bnR_s, bnV_s, zi_si, zi_sr, zi_sl, zi_sa, zi_sq, zr_si, zr_sr, zr_sl, zr_sa, zr_sq, zl_si, zl_sr, zl_sl, zl_sa, zl_sq, zai_si, zai_sr, zai_sl, zai_sa, zai_sq, zar_si, zar_sr, zar_sl, zar_sa, zar_sq, zkd_si, zkd_sr, zkd_sl, zkd_sa, zkd_sq, zln_si, zln_sr, zln_sl, zln_sa, zln_sq, znx_si, znx_sr, znx_sl, znx_sa, znx_sq, hX'.1, if_true, s_tileOf hX' (hT.kp gk) hs hs2 ha', e1, n_le (show c0 + i < 2 ^ 31 by omega) (show c1 < 2 ^ 31 by omega), show c0 + i ≤ c1 by omega, s_slotOf, k1, nI_add, ea]
      · have := cnt_clr (gone j i) (sN l (c0 + i) (r0 + j)) 512 hk
        rw [cnt_congr 512 (fun k hk => by rw [ee k hk])] at this
        have gn : s.2.1 + cnt (gone j i) 512 = cnt u 512 := gn
        show s.2.1 + _ + _ = _
        omega)
    (fun j s hj hI => ⟨(s.1, s.2.1, .inl (nI (c0 + (c1 + 1 - c0)))), by
      obtain ⟨g, gU, gk, gn⟩ := hI
      have ea : nI (r0 + j) + 1 = nI (r0 + (j + 1)) := nI_1 (r0 + j)
      show LX9_removeTouched_28 _ _ _ _ _ _ _ _ _ _ _ = LX9_removeTouched_10 _ _ _ _ _ _ _ _ _ _ _
      rw [uX9_removeTouched_28]
      simp only [zlt_e, onR_s, nul_s, nul_n, chk_e, bnI_s, bnR_s, bnV_s, zi_si, zi_sr, zi_sl, zi_sa, zi_sq, zr_si, zr_sr, zr_sl, zr_sa, zr_sq, zl_si, zl_sr, zl_sl, zl_sa, zl_sq, zai_si, zai_sr, zai_sl, zai_sa, zai_sq, zar_si, zar_sr, zar_sl, zar_sa, zar_sq, zkd_si, zkd_sr, zkd_sl, zkd_sa, zkd_sq, zln_si, zln_sr, zln_sl, zln_sa, zln_sq, znx_si, znx_sr, znx_sl, znx_sa, znx_sq, (hX.fr g).1, if_true, s_tileOf (hX.fr g) (hT.kp gk) hs hs2 ha', e1, n_le (show c0 + (c1 + 1 - c0) < 2 ^ 31 by omega) (show c1 < 2 ^ 31 by omega), ea]
      rw [if_neg (by omega)], by
      obtain ⟨g, gU, gk, gn⟩ := hI
      have ee : ∀ k, gone j (c1 + 1 - c0) k = gone (j + 1) 0 k := fun k => by
        show (if _ then 0 else u k) = if _ then 0 else u k
        by_cases q : k / 64 = l ∧ (c0 ≤ k % 8 ∧ k % 8 ≤ c1) ∧ r0 ≤ k / 8 % 8 ∧ k / 8 % 8 ≤ r1 ∧ (k / 8 % 8 < r0 + j ∨ (k / 8 % 8 = r0 + j ∧ k % 8 < c0 + (c1 + 1 - c0)))
        · rw [if_pos q, if_pos (by omega)]
        · rw [if_neg q, if_neg (by omega)]
      exact ⟨g, gU.congr (fun k _ => ee k), gk, by rw [← cnt_congr (u := gone j (c1 + 1 - c0)) 512 (fun k _ => by rw [ee k])]; exact gn⟩⟩)
    (fun s hI => by
      obtain ⟨g, gU, gk, gn⟩ := hI
      show LX9_removeTouched_10 _ _ _ _ _ _ _ _ _ _ _ = _
      rw [uX9_removeTouched_10]
      simp only [zlt_e, onR_s, nul_s, nul_n, chk_e, bnI_s, bnR_s, bnV_s, zi_si, zi_sr, zi_sl, zi_sa, zi_sq, zr_si, zr_sr, zr_sl, zr_sa, zr_sq, zl_si, zl_sr, zl_sl, zl_sa, zl_sq, zai_si, zai_sr, zai_sl, zai_sa, zai_sq, zar_si, zar_sr, zar_sl, zar_sa, zar_sq, zkd_si, zkd_sr, zkd_sl, zkd_sa, zkd_sq, zln_si, zln_sr, zln_sl, zln_sa, zln_sq, znx_si, znx_sr, znx_sl, znx_sa, znx_sq, (hX.fr g).1, if_true, s_tileOf (hX.fr g) (hT.kp gk) hs hs2 hb', e3, n_le (show r0 + (r1 + 1 - r0) < 2 ^ 31 by omega) (show r1 < 2 ^ 31 by omega)]
      rw [if_neg (by omega)])
  have ee : ∀ k, k < 512 → gone (r1 + 1 - r0) 0 k = tchU u l c0 c1 r0 r1 k := fun k _ => by
    show (if _ then 0 else u k) = if _ then 0 else u k
    by_cases q : k / 64 = l ∧ (c0 ≤ k % 8 ∧ k % 8 ≤ c1) ∧ r0 ≤ k / 8 % 8 ∧ k / 8 % 8 ≤ r1 ∧ (k / 8 % 8 < r0 + (r1 + 1 - r0) ∨ (k / 8 % 8 = r0 + (r1 + 1 - r0) ∧ k % 8 < c0 + 0))
    · rw [if_pos q, if_pos (by omega)]
    · rw [if_neg q, if_neg (by omega)]
  obtain ⟨g, gU, gk, gn⟩ := h2
  exact ⟨τ, n, h1, g, gU.congr ee, gk, by rw [← cnt_congr (u := gone (r1 + 1 - r0) 0) 512 (fun k hk => by rw [ee k hk])]; exact gn⟩
