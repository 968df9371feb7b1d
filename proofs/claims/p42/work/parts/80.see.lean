/-! a rectangle of the base image is painted: what may be seen of it -/
def ptC (C : zC) (L T R B : Nat) (v : Int) : zC := (cW C, cH C, cN C, fun x y => if (L ≤ x ∧ x ≤ R) ∧ T ≤ y ∧ y ≤ B then v else cP C x y, cL C)
/-- the reaches of the first n added up, as far as they are on -/
def rsN (C : zC) : Nat → Nat
  | 0 => 0
  | n + 1 => if cL C n 5 = 1 then rsN C n + rch (cL C n) else rsN C n
/-- the tiles that are left -/
def seeU (C : zC) (sd : Nat) (u : Nat → Nat) (L T R B : Nat) : Nat → Nat → Nat
  | 0 => u
  | n + 1 => if cL C n 5 = 1 then tchU (seeU C sd u L T R B n) n ((L - rsN C (n + 1)) / sd) (min (R + rsN C (n + 1)) (cW C - 1) / sd) ((T - rsN C (n + 1)) / sd) (min (B + rsN C (n + 1)) (cH C - 1) / sd) else seeU C sd u L T R B n
theorem tchU_or (u : Nat → Nat) (l c0 c1 r0 r1 k : Nat) : tchU u l c0 c1 r0 r1 k = 0 ∨ tchU u l c0 c1 r0 r1 k = u k := by
  unfold tchU
  split
  · exact Or.inl rfl
  · exact Or.inr rfl
theorem seeU_or (C : zC) (sd : Nat) (u : Nat → Nat) (L T R B : Nat) : ∀ n k, seeU C sd u L T R B n k = 0 ∨ seeU C sd u L T R B n k = u k
  | 0, k => Or.inr rfl
  | n + 1, k => by
    have ih := seeU_or C sd u L T R B n k
    unfold seeU
    split
    · rcases tchU_or (seeU C sd u L T R B n) n ((L - rsN C (n + 1)) / sd) (min (R + rsN C (n + 1)) (cW C - 1) / sd) ((T - rsN C (n + 1)) / sd) (min (B + rsN C (n + 1)) (cH C - 1) / sd) k with e | e
      · exact Or.inl e
      · rw [e]; exact ih
    · exact ih
theorem seeU_z {C : zC} {sd : Nat} {u : Nat → Nat} {L T R B l k : Nat} (hk : k / 64 = l) (ho : cL C l 5 = 1) (hc : (L - rsN C (l + 1)) / sd ≤ k % 8 ∧ k % 8 ≤ min (R + rsN C (l + 1)) (cW C - 1) / sd) (hr : (T - rsN C (l + 1)) / sd ≤ k / 8 % 8 ∧ k / 8 % 8 ≤ min (B + rsN C (l + 1)) (cH C - 1) / sd) : ∀ n, l < n → seeU C sd u L T R B n k = 0
  | 0, h => absurd h (Nat.not_lt_zero _)
  | n + 1, h => by
    unfold seeU
    by_cases e : l = n
    · subst e
      rw [if_pos ho]
      unfold tchU
      rw [if_pos ⟨hk, hc, hr⟩]
    · have ih := seeU_z (u := u) hk ho hc hr n (by omega)
      split
      · rcases tchU_or (seeU C sd u L T R B n) n ((L - rsN C (n + 1)) / sd) (min (R + rsN C (n + 1)) (cW C - 1) / sd) ((T - rsN C (n + 1)) / sd) (min (B + rsN C (n + 1)) (cH C - 1) / sd) k with e | e
        · exact e
        · rw [e]; exact ih
      · exact ih
/-- a pixel sees the rectangle through ρ -/
def hitR (L T R B ρ x y : Nat) : Prop := (L ≤ x + ρ ∧ x ≤ R + ρ) ∧ T ≤ y + ρ ∧ y ≤ B + ρ
theorem GC.pt {C : zC} (h : GC C) (L T R B : Nat) {v : Int} (hv : 0 ≤ v ∧ v ≤ 255) : GC (ptC C L T R B v) :=
  ⟨h.1, h.2.1, h.2.2.1, fun x y hx hy => by
    show 0 ≤ (if (L ≤ x ∧ x ≤ R) ∧ T ≤ y ∧ y ≤ B then v else cP C x y) ∧ (if (L ≤ x ∧ x ≤ R) ∧ T ≤ y ∧ y ≤ B then v else cP C x y) ≤ 255
    split
    · exact hv
    · exact h.2.2.2.1 x y hx hy, h.2.2.2.2⟩
theorem out_pt {C : zC} (h : GC C) (L T R B : Nat) (v : Int) : ∀ n, n ≤ cN C → ∀ x y, x < cW C → y < cH C → ¬ hitR L T R B (rsN C n) x y → outI (ptC C L T R B v) n x y = outI C n x y
  | 0, _, x, y, hx, hy, hn => by
    show (if (L ≤ x ∧ x ≤ R) ∧ T ≤ y ∧ y ≤ B then v else cP C x y) = cP C x y
    rw [if_neg]
    intro q
    exact hn (by show hitR L T R B 0 x y; unfold hitR; omega)
  | n + 1, hnN, x, y, hx, hy, hn => by
    have ih := out_pt h L T R B v n (by omega)
    show (if cL C n 5 = 1 then lyI (cW C) (cH C) (cL C n) (outI (ptC C L T R B v) n) else outI (ptC C L T R B v) n) x y = (if cL C n 5 = 1 then lyI (cW C) (cH C) (cL C n) (outI C n) else outI C n) x y
    by_cases ho : cL C n 5 = 1
    · rw [if_pos ho, if_pos ho]
      have e : rsN C (n + 1) = rsN C n + rch (cL C n) := by show (if _ then _ else _) = _; rw [if_pos ho]
      rw [e] at hn
      refine lyI_congr h.1.2 h.2.1.2 hx hy (h.2.2.2.2 n (by omega)) (fun x' y' hx' hy' a b => ih x' y' hx' hy' (fun q => hn ?_))
      have a : x' ≤ x + rch (cL C n) ∧ x ≤ x' + rch (cL C n) := a
      have b : y' ≤ y + rch (cL C n) ∧ y ≤ y' + rch (cL C n) := b
      unfold hitR at q ⊢
      omega
    · rw [if_neg ho, if_neg ho]
      have e : rsN C (n + 1) = rsN C n := by show (if _ then _ else _) = _; rw [if_neg ho]
      rw [e] at hn
      exact ih x y hx hy hn
/-- a pixel of a tile that is left does not see the rectangle -/
theorem see_no {C : zC} {sd : Nat} {u : Nat → Nat} {L T R B k x y : Nat} (hs : 1 ≤ sd) (hk : k / 64 < cN C) (ho : cL C (k / 64) 5 = 1) (hz : seeU C sd u L T R B (cN C) k ≠ 0) (hx : x < cW C) (hy : y < cH C) (hc : x / sd = k % 8) (hr : y / sd = k / 8 % 8) : ¬ hitR L T R B (rsN C (k / 64 + 1)) x y := by
  intro q
  refine hz (seeU_z rfl ho ⟨?_, ?_⟩ ⟨?_, ?_⟩ (cN C) hk)
  · rw [← hc]; exact Nat.div_le_div_right (by unfold hitR at q; omega)
  · rw [← hc]; exact Nat.div_le_div_right (by unfold hitR at q; omega)
  · rw [← hr]; exact Nat.div_le_div_right (by unfold hitR at q; omega)
  · rw [← hr]; exact Nat.div_le_div_right (by unfold hitR at q; omega)
theorem rch_R {l : Nat → Int} (h : GL l) : rch l ≤ 16 ∧ iI (rchI (l 0) (l 1) (l 2)) = nI (rch l) := by
  have := rchI_R h.1 h.2.1
  have e : rch l = (rchI (l 0) (l 1) (l 2)).toNat := rfl
  refine ⟨by omega, ?_⟩
  rw [i_nI]
  congr 1
  omega
theorem rsN_R {C : zC} (h : GC C) : ∀ n, n ≤ cN C → rsN C n ≤ 16 * n
  | 0, _ => Nat.le_refl _
  | n + 1, hn => by
    have ih := rsN_R h n (by omega)
    have hr := (rch_R (h.2.2.2.2 n (by omega))).1
    show (if cL C n 5 = 1 then rsN C n + rch (cL C n) else rsN C n) ≤ _
    split <;> omega
theorem seeU_B {C : zC} {sd : Nat} {u : Nat → Nat} {L T R B : Nat} (hu : ∀ k, k < 512 → u k < 2 ^ 31) (n : Nat) : ∀ k, k < 512 → seeU C sd u L T R B n k < 2 ^ 31 := fun k hk => by
  rcases seeU_or C sd u L T R B n k with e | e <;> rw [e]
  · decide
  · exact hu k hk
/-- the class: the tiles that see the rectangle go -/
theorem s_seeTiles {σ : zS} {o L T R B : Nat} {C : zC} {q u : Nat → Nat} {F : zT} (hO : OS σ o) (hq : CmQ σ (o + 1) q) (hv : CmV σ (o + 1) q C) (G : GC C) (hU : TcU σ (o + 230) u) (hF : TcF σ (o + 230) F) (hu : ∀ k, k < 512 → u k < 2 ^ 31) (hs : 2 ≤ tSd F ∧ tSd F ≤ 8) (hL : L ≤ R) (hR : R < cW C) (hT : T ≤ B) (hB : B < cH C) (d : Nat) : ∃ τ n, zEv (d + 5) mX10_removeTilesThatSee [.inr (.inl (some o)), .inl (nI L), .inl (nI T), .inl (nI R), .inl (nI B)] σ = some (some (.inl (nI n)), τ) ∧ zFr (inU (o + 230)) σ τ ∧ TcU τ (o + 230) (seeU C (tSd F) u L T R B (cN C)) ∧ keepU (o + 230) σ τ ∧ n + cnt (seeU C (tSd F) u L T R B (cN C)) 512 = cnt u 512 := by
  have hw := G.1
  have hh := G.2.1
  have hn8 := G.2.2.1
  rw [vX10_removeTilesThatSee]
  unfold fX10_removeTilesThatSee
  simp only [zlt_e]
  obtain ⟨⟨τ, n, z⟩, h1, h2⟩ := loop_from (fun k (s : zS × Nat × zV) => LX10_removeTilesThatSee_9 (zEv (d + 4)) o (nI L) (nI T) (nI R) (nI B) (nI (rsN C k)) (nI s.2.1) (nI k) s.2.2 s.1) (fun k s => zFr (inU (o + 230)) σ s.1 ∧ TcU s.1 (o + 230) (seeU C (tSd F) u L T R B k) ∧ keepU (o + 230) σ s.1 ∧ s.2.1 + cnt (seeU C (tSd F) u L T R B k) 512 = cnt u 512) 0 (cN C) (fun s => some (some (.inl (nI s.2.1)), s.1)) (σ, 0, .inr (.inr none)) (Nat.zero_le _) ⟨zFr.rf σ, hU, fun _ _ => rfl, by show 0 + cnt u 512 = cnt u 512; omega⟩
    (fun k s hk hI => by
      obtain ⟨g, gU, gk, gn⟩ := hI
      have hO' := hO.fr g
      have hq' : CmQ s.1 (o + 1) q := hq.fr g (by unfold inU; omega)
      have hv' : CmV s.1 (o + 1) q C := hv.fr hq hn8 g (fun a ha => by unfold inC at ha; unfold inU; omega)
      have hqk := (hq.1 k (by omega)).2
      have hls := hO'.c.2.2.2.2.2.2 (q k) hqk
      have hlv := hv'.2.2 k hk
      have hg := G.2.2.2.2 k hk
      have a5 : zi s.1 133 (o + 1 + 4 + 3 * q k) = iI (cL C k 5) := hlv.1 5 (by decide)
      by_cases ho : cL C k 5 = 1
      · have rr := rch_R hg
        have r0 := rsN_R G k (by omega)
        have e : rsN C (k + 1) = rsN C k + rch (cL C k) := by show (if _ then _ else _) = _; rw [if_pos ho]
        have eS : seeU C (tSd F) u L T R B (k + 1) = tchU (seeU C (tSd F) u L T R B k) k ((L - rsN C (k + 1)) / tSd F) (min (R + rsN C (k + 1)) (cW C - 1) / tSd F) ((T - rsN C (k + 1)) / tSd F) (min (B + rsN C (k + 1)) (cH C - 1) / tSd F) := by show (if _ then _ else _) = _; rw [if_pos ho]
        have hρ : rsN C (k + 1) ≤ 128 := by omega
        have ea : nI (rsN C k) + iI (rchI (cL C k 0) (cL C k 1) (cL C k 2)) = nI (rsN C (k + 1)) := by rw [rr.2, nI_add, e]
        generalize rsN C (k + 1) = ρ at *
        have mx : ∀ a : Nat, a < 16 → zEv (d + 4) mJ9_max_7cf53 [.inl (nI a - nI ρ), .inl 0] s.1 = some (some (.inl (nI (a - ρ))), s.1) := fun a ha => by
          have := s_imax (a := (a : Int) - ρ) (b := 0) (d + 3) s.1 (by omega) (by omega) (by decide) (by decide)
          rw [i_nI a, i_nI ρ, i_sub, i_nI (a - ρ)]
          rw [show ((a - ρ : Nat) : Int) = max ((a : Int) - ρ) 0 by omega]
          exact this
        have hcols : (L - ρ) / tSd F ≤ min (R + ρ) (cW C - 1) / tSd F := Nat.div_le_div_right (by omega)
        have hrows : (T - ρ) / tSd F ≤ min (B + ρ) (cH C - 1) / tSd F := Nat.div_le_div_right (by omega)
        have b8 : ∀ z, z ≤ 15 → z / tSd F < 8 := fun z hz => by
          have : z / tSd F ≤ 15 / 2 := Nat.le_trans (Nat.div_le_div_right hz) (Nat.div_le_div_left hs.1 (by decide))
          omega
        obtain ⟨υ, n, k1, k2, k3, k4, k5⟩ := s_removeTouched (l := k) (a := L - ρ) (b := T - ρ) (a' := min (R + ρ) (cW C - 1)) (b' := min (B + ρ) (cH C - 1)) hO'.tc gU (hF.kp gk) (seeU_B hu k) (by omega) (by omega) (by omega) (by omega) (by omega) (by omega) (by omega) rfl rfl rfl rfl (b8 _ (by omega)) (b8 _ (by omega)) hcols hrows d
        rw [← eS] at k3 k5
        have ew : nI (cW C) - 1 = nI (cW C - 1) := nI_sub (b := 1) (by omega)
        have eh : nI (cH C) - 1 = nI (cH C - 1) := nI_sub (b := 1) (by omega)
        refine ⟨(υ, s.2.1 + n, .inr (.inl (some (o + 1 + 4 + 3 * q k)))), ?_, g.tr k2, k3, fun f hf => (k4 f hf).trans (gk f hf), ?_⟩
        · show LX10_removeTilesThatSee_9 _ _ _ _ _ _ _ _ _ _ _ = LX10_removeTilesThatSee_9 _ _ _ _ _ _ _ _ _ _ _
          rw [uX10_removeTilesThatSee_9]
          simp only [zlt_e, onR_s, nul_s, nul_n, chk_e, bnI_s, bnR_s, bnV_s, zi_si, zi_sr, zi_sl, zi_sa, zi_sq, zr_si, zr_sr, zr_sl, zr_sa, zr_sq, zl_si, zl_sr, zl_sl, zl_sa, zl_sq, zai_si, zai_sr, zai_sl, zai_sa, zai_sq, zar_si, zar_sr, zar_sl, zar_sa, zar_sq, zkd_si, zkd_sr, zkd_sl, zkd_sa, zkd_sq, zln_si, zln_sr, zln_sl, zln_sa, zln_sq, znx_si, znx_sr, znx_sl, znx_sa, znx_sq, hO'.f.1, hO'.f.2.1, hO'.c.1, hO'.c.2.1, hO'.c.2.2.2.1.1, if_true, s_layerCount hO'.c, hv'.2.1, n_lt (show k < 2 ^ 31 by omega) (show cN C < 2 ^ 31 by omega), hk, s_layerAt hO'.c hq' hv'.2.1 hn8 hk, hls.1, a5, on_0 hg, ho, not_true_eq_false, if_false, s_reach hls hlv hg, ea, mx L (by omega), mx T (by omega), nI_add, hv'.1.1, hv'.1.2.1, ew, eh, s_min, n_min (show R + ρ < 2 ^ 31 by omega) (show cW C - 1 < 2 ^ 31 by omega), n_min (show B + ρ < 2 ^ 31 by omega) (show cH C - 1 < 2 ^ 31 by omega), hO'.f.2.2.2.2.2.2.1, hO'.tc.1, k1, nI_1]
          rw [if_neg (by decide)]
        · have gn : s.2.1 + cnt (seeU C (tSd F) u L T R B k) 512 = cnt u 512 := gn
          show s.2.1 + n + _ = _
          omega
      · have e : rsN C (k + 1) = rsN C k := by show (if _ then _ else _) = _; rw [if_neg ho]
        have eS : seeU C (tSd F) u L T R B (k + 1) = seeU C (tSd F) u L T R B k := by show (if _ then _ else _) = _; rw [if_neg ho]
        refine ⟨(s.1, s.2.1, .inr (.inl (some (o + 1 + 4 + 3 * q k)))), ?_, g, by rw [eS]; exact gU, gk, by rw [eS]; exact gn⟩
        show LX10_removeTilesThatSee_9 _ _ _ _ _ _ _ _ _ _ _ = LX10_removeTilesThatSee_9 _ _ _ _ _ _ _ _ _ _ _
        rw [uX10_removeTilesThatSee_9, e]
        simp only [zlt_e, onR_s, nul_s, nul_n, chk_e, bnI_s, bnR_s, bnV_s, zi_si, zi_sr, zi_sl, zi_sa, zi_sq, zr_si, zr_sr, zr_sl, zr_sa, zr_sq, zl_si, zl_sr, zl_sl, zl_sa, zl_sq, zai_si, zai_sr, zai_sl, zai_sa, zai_sq, zar_si, zar_sr, zar_sl, zar_sa, zar_sq, zkd_si, zkd_sr, zkd_sl, zkd_sa, zkd_sq, zln_si, zln_sr, zln_sl, zln_sa, zln_sq, znx_si, znx_sr, znx_sl, znx_sa, znx_sq, hO'.f.1, hO'.f.2.1, hO'.c.1, if_true, s_layerCount hO'.c, hv'.2.1, n_lt (show k < 2 ^ 31 by omega) (show cN C < 2 ^ 31 by omega), hk, s_layerAt hO'.c hq' hv'.2.1 hn8 hk, hls.1, a5, on_0 hg, ho, not_false_eq_true, nI_1])
    (fun s hI => by
      obtain ⟨g, gU, gk, gn⟩ := hI
      have hO' := hO.fr g
      have hv' : CmV s.1 (o + 1) q C := hv.fr hq hn8 g (fun a ha => by unfold inC at ha; unfold inU; omega)
      rw [uX10_removeTilesThatSee_9]
      simp only [zlt_e, onR_s, nul_s, nul_n, chk_e, bnI_s, bnR_s, bnV_s, zi_si, zi_sr, zi_sl, zi_sa, zi_sq, zr_si, zr_sr, zr_sl, zr_sa, zr_sq, zl_si, zl_sr, zl_sl, zl_sa, zl_sq, zai_si, zai_sr, zai_sl, zai_sa, zai_sq, zar_si, zar_sr, zar_sl, zar_sa, zar_sq, zkd_si, zkd_sr, zkd_sl, zkd_sa, zkd_sq, zln_si, zln_sr, zln_sl, zln_sa, zln_sq, znx_si, znx_sr, znx_sl, znx_sa, znx_sq, hO'.f.1, hO'.f.2.1, hO'.c.1, if_true, s_layerCount hO'.c, hv'.2.1, n_lt (show cN C < 2 ^ 31 by omega) (show cN C < 2 ^ 31 by omega), Nat.lt_irrefl, if_false])
  have h1 : LX10_removeTilesThatSee_9 (zEv (d + 4)) o (nI L) (nI T) (nI R) (nI B) 0 0 0 (.inr (.inr none)) σ = _ := h1
  exact ⟨τ, n, h1, h2⟩
theorem CIx.comp2 {σ τ : zS} {o B : Nat} {A : zW} {q q' u P v : Nat → Nat} {C : zC} (hG : GA A B) (h : CIx σ o A q u P) (g : zFr (fun a => inC (o + 1) a ∨ inU (o + 230) a) σ τ) (hq : CmQ τ (o + 1) q') (hv : CmV τ (o + 1) q' C) (hU : TcU τ (o + 230) v) (hF : TcF τ (o + 230) (aT A)) (hor : ∀ k, k < 512 → v k = 0 ∨ v k = aU A k) (hc : ∀ k, k < 512 → v k ≠ 0 → cW C = cW (aC A) ∧ cH C = cH (aC A) ∧ ∀ x y, x < cW C → y < cH C → x / tSd (aT A) = k % 8 → y / tSd (aT A) = k / 8 % 8 → outI C (k / 64 + 1) x y = outI (aC A) (k / 64 + 1) x y) : CIx τ o (aTil (aSet A C) v) q' u P := by
  obtain ⟨hR, ⟨r, hr⟩, hHQ, hHV, hS, hT⟩ := h
  have hCh := hR.2.2.2.2.2.2.2.1.fr g (fun a h1 h2 => by unfold inC inU; omega)
  refine ⟨⟨hR.1.fr g, hq, hv, hR.2.2.2.1.fr g (by unfold inC inU; omega), hU, hF, hR.2.2.2.2.2.2.1.fr g (fun a h1 h2 => by unfold inC inU; omega), fun k hk hz => ?_, rfl, fun k hk => ?_⟩, ⟨r, hr.fr g (by unfold inC inU; omega)⟩, hHQ.fr g (by unfold inC inU; omega), hHV.fr hHQ hG.2.1.1 (fun i hi => (hG.2.1.2 i hi).2.2.1) g (fun a ha => by unfold inH at ha; unfold inC inU; omega), hS.fr hG.2.2.1 g (by unfold inC inU; omega) (fun a ha => by unfold inC inU; omega), hT.fr g (by unfold inC inU; omega) (by unfold inC inU; omega)⟩
  · have hz : v k ≠ 0 := hz
    have hz0 : aU A k ≠ 0 := by
      rcases hor k hk with e | e
      · exact absurd e hz
      · rw [← e]; exact hz
    obtain ⟨c1, c2, c3⟩ := hc k hk hz
    obtain ⟨d1, d2, d3⟩ := hCh k hk hz0
    refine ⟨by show zi τ 257 _ = nI (cW C); rw [c1]; exact d1, by show zi τ 258 _ = nI (cH C); rw [c2]; exact d2, fun x y hx hy ex ey => ?_⟩
    show zai τ _ _ = iI (outI C (k / 64 + 1) x y)
    rw [c3 x y hx hy ex ey]
    exact d3 x y (by rw [← c1]; exact hx) (by rw [← c2]; exact hy) ex ey
  · show v k ≤ tCk (aT A)
    rcases hor k hk with e | e <;> rw [e]
    · omega
    · exact hG.2.2.2.2.2.2.1 k hk
/-- the state behind a painting -/
def aPt (A : zW) (L T R B : Nat) (v : Int) : zW := aTil (aSet (aPush A) (ptC (aC A) L T R B v)) (seeU (aC A) (tSd (aT A)) (aU A) L T R B (cN (aC A)))
theorem GA.pt {A : zW} {b : Nat} (hG : GA A b) (L T R B : Nat) {v : Int} (hv : 0 ≤ v ∧ v ≤ 255) : GA (aPt A L T R B v) b := by
  have h1 : GA (aSet (aPush A) (ptC (aC A) L T R B v)) b := (hG.push).set (hG.1.pt L T R B hv) (fun k hk hz => by
    have := hG.2.2.2.2.2.2.2.1 k hk hz
    exact ⟨this.1, this.2.1, rfl, rfl⟩)
  exact h1.til (fun j _ => seeU_or _ _ _ _ _ _ _ _ j)
theorem s_paint {σ : zS} {o b L T R B : Nat} {A : zW} {q u P : Nat → Nat} {v : Int} (hvv : 0 ≤ v ∧ v ≤ 255) (hG : GA A b) (hb : b < 2 ^ 30) (hI : CIx σ o A q u P) (hL : L ≤ R) (hR : R < cW (aC A)) (hT : T ≤ B) (hB : B < cH (aC A)) (d : Nat) : ∃ τ n u', zEv (d + 7) mX10_paint [.inr (.inl (some o)), .inl (nI L), .inl (nI T), .inl (nI R), .inl (nI B), .inl (iI v)] σ = some (some (.inl (nI n)), τ) ∧ CIx τ o (aPt A L T R B v) q u' P ∧ zFr (fun a => o ≤ a ∧ a < o + 257) σ τ ∧ n + cnt (seeU (aC A) (tSd (aT A)) (aU A) L T R B (cN (aC A))) 512 = cnt (aU A) 512 := by
  have hw := hG.1.1
  have hh := hG.1.2.1
  have hn8 := hG.1.2.2.1
  have hO := hI.1.1
  obtain ⟨τ0, u', k1, k2, k3⟩ := s_cpush hG hI d
  have hO2 := k3.1.1
  have hv2 : CmV τ0 (o + 1) q (aC A) := k3.1.2.2.1
  rw [vX10_paint]
  unfold fX10_paint
  simp only [zlt_e, onR_s, nul_s, nul_n, chk_e, bnI_s, bnR_s, bnV_s, zi_si, zi_sr, zi_sl, zi_sa, zi_sq, zr_si, zr_sr, zr_sl, zr_sa, zr_sq, zl_si, zl_sr, zl_sl, zl_sa, zl_sq, zai_si, zai_sr, zai_sl, zai_sa, zai_sq, zar_si, zar_sr, zar_sl, zar_sa, zar_sq, zkd_si, zkd_sr, zkd_sl, zkd_sa, zkd_sq, zln_si, zln_sr, zln_sl, zln_sa, zln_sq, znx_si, znx_sr, znx_sl, znx_sa, znx_sq, hO.f.1, hO.f.2.1, hO.f.2.2.2.1, hO.h.1, if_true, k1]
  obtain ⟨⟨τ, z⟩, h1, h2⟩ := grid (fun j (s : zS × zV) => LX10_paint_14 (zEv (d + 6)) o (nI L) (nI T) (nI R) (nI B) (iI v) (nI (T + j)) s.2 s.1) (fun j i s => LX10_paint_24 (zEv (d + 6)) o (nI L) (nI T) (nI R) (nI B) (iI v) (nI (T + j)) (nI (L + i)) s.1)
    (fun j i s => zFr (fun a => a = o + 3) τ0 s.1 ∧ (∀ f a, zi s.1 f a = zi τ0 f a) ∧ ∀ x y, x < cW (aC A) → y < cH (aC A) → zai s.1 (o + 1 + 1 + 1) (16 * y + x) = iI (if (L ≤ x ∧ x ≤ R) ∧ T ≤ y ∧ (y < T + j ∨ (y = T + j ∧ x < L + i)) then v else cP (aC A) x y)) (R + 1 - L) (B + 1 - T) (fun s => LX10_paint_14 (zEv (d + 6)) o (nI L) (nI T) (nI R) (nI B) (iI v) (nI (B + 1)) s.2 s.1) (τ0, .inr (.inr none)) ⟨zFr.rf τ0, fun _ _ => rfl, fun x y hx hy => by rw [if_neg (by omega)]; exact hv2.1.2.2 x y hx hy⟩
    (fun j s hj hIj => ⟨s, by
      show LX10_paint_14 _ _ _ _ _ _ _ _ _ _ = LX10_paint_24 _ _ _ _ _ _ _ _ _ _
      rw [uX10_paint_14]
      simp only [n_le (show T + j < 2 ^ 31 by omega) (show B < 2 ^ 31 by omega), show T + j ≤ B by omega, if_true]
      rfl, hIj⟩)
    (fun j i s hj hi hIj => by
      obtain ⟨g, gi, ga⟩ := hIj
      have hO' := hO2.fr g
      have ea : nI (L + i) + 1 = nI (L + (i + 1)) := nI_1 (L + i)
      refine ⟨(zsa s.1 (o + 1 + 1 + 1) (16 * (T + j) + (L + i)) (iI v), s.2), ?_, g.tr (zFr.sa _ (by omega)), gi, fun x y hx hy => ?_⟩
      · show LX10_paint_24 _ _ _ _ _ _ _ _ _ _ = LX10_paint_24 _ _ _ _ _ _ _ _ _ _
        rw [uX10_paint_24]
        simp only [zlt_e, onR_s, nul_s, nul_n, chk_e, bnI_s, bnR_s, bnV_s, zi_si, zi_sr, zi_sl, zi_sa, zi_sq, zr_si, zr_sr, zr_sl, zr_sa, zr_sq, zl_si, zl_sr, zl_sl, zl_sa, zl_sq, zai_si, zai_sr, zai_sl, zai_sa, zai_sq, zar_si, zar_sr, zar_sl, zar_sa, zar_sq, zkd_si, zkd_sr, zkd_sl, zkd_sa, zkd_sq, zln_si, zln_sr, zln_sl, zln_sa, zln_sq, znx_si, znx_sr, znx_sl, znx_sa, znx_sq, n_le (show L + i < 2 ^ 31 by omega) (show R < 2 ^ 31 by omega), show L + i ≤ R by omega, if_true, hO'.f.1, hO'.f.2.1, hO'.c.1, hO'.c.2.1, hO'.c.2.2.2.1.1, s_put hO'.c.2.2.2.1 (show L + i < 16 by omega) (show T + j < 16 by omega), ea]
      · rw [zai_sa]
        by_cases e : x = L + i ∧ y = T + j
        · rw [if_pos ⟨rfl, by rw [e.1, e.2]⟩, if_pos (by omega)]
        · rw [if_neg (by omega), ga x y hx hy]
          by_cases c : (L ≤ x ∧ x ≤ R) ∧ T ≤ y ∧ (y < T + j ∨ (y = T + j ∧ x < L + i))
          · rw [if_pos c, if_pos (by omega)]
          · rw [if_neg c, if_neg (by omega)])
    (fun j s hj hIj => ⟨(s.1, .inl (nI (L + (R + 1 - L)))), by
      have ea : nI (T + j) + 1 = nI (T + (j + 1)) := nI_1 (T + j)
      show LX10_paint_24 _ _ _ _ _ _ _ _ _ _ = LX10_paint_14 _ _ _ _ _ _ _ _ _ _
      rw [uX10_paint_24]
      simp only [zlt_e, n_le (show L + (R + 1 - L) < 2 ^ 31 by omega) (show R < 2 ^ 31 by omega), show ¬ L + (R + 1 - L) ≤ R by omega, if_false, ea], hIj.1, hIj.2.1, fun x y hx hy => by
      rw [hIj.2.2 x y hx hy]
      by_cases c : (L ≤ x ∧ x ≤ R) ∧ T ≤ y ∧ (y < T + j ∨ (y = T + j ∧ x < L + (R + 1 - L)))
      · rw [if_pos c, if_pos (by omega)]
      · rw [if_neg c, if_neg (by omega)]⟩)
    (fun s hIj => by
      show LX10_paint_14 _ _ _ _ _ _ _ _ _ _ = LX10_paint_14 _ _ _ _ _ _ _ _ _ _
      rw [show T + (B + 1 - T) = B + 1 by omega])
  have h1 : LX10_paint_14 (zEv (d + 6)) o (nI L) (nI T) (nI R) (nI B) (iI v) (nI T) (.inr (.inr none)) τ0 = _ := h1
  obtain ⟨g, gi, ga⟩ := h2
  have hO3 := hO2.fr g
  have hq3 : CmQ τ (o + 1) q := k3.1.2.1.fr g (by omega)
  have hv3 : CmV τ (o + 1) q (ptC (aC A) L T R B v) := ⟨⟨(gi _ _).trans hv2.1.1, (gi _ _).trans hv2.1.2.1, fun x y hx hy => by
      have hx : x < cW (aC A) := hx
      have hy : y < cH (aC A) := hy
      rw [ga x y hx hy]
      show _ = iI (if (L ≤ x ∧ x ≤ R) ∧ T ≤ y ∧ y ≤ B then v else cP (aC A) x y)
      by_cases c : (L ≤ x ∧ x ≤ R) ∧ T ≤ y ∧ y ≤ B
      · rw [if_pos c, if_pos (by omega)]
      · rw [if_neg c, if_neg (by omega)]⟩, (gi _ _).trans hv2.2.1, fun i hi => by
      have hi : i < cN (aC A) := hi
      have hqi := (k3.1.2.1.1 i (by omega)).2
      exact (hv2.2.2 i hi).fr g (fun a ha => by unfold inL at ha; omega)⟩
  have hU3 : TcU τ (o + 230) (aU A) := k3.1.2.2.2.2.1.fr g (by omega) (by omega)
  have hF3 : TcF τ (o + 230) (aT A) := k3.1.2.2.2.2.2.1.fr g (by omega)
  -- the rows of layers are the same; their pixels are not asked for
  have hv3' : CmV τ (o + 1) q (ptC (aC A) L T R B v) := hv3
  have eS : ∀ n, seeU (ptC (aC A) L T R B v) (tSd (aT A)) (aU A) L T R B n = seeU (aC A) (tSd (aT A)) (aU A) L T R B n := by
    have er : ∀ n, rsN (ptC (aC A) L T R B v) n = rsN (aC A) n := fun n => by
      induction n with
      | zero => rfl
      | succ n ih => show (if cL (aC A) n 5 = 1 then rsN (ptC (aC A) L T R B v) n + rch (cL (aC A) n) else rsN (ptC (aC A) L T R B v) n) = _; rw [ih]; rfl
    intro n
    induction n with
    | zero => rfl
    | succ n ih =>
      show (if cL (aC A) n 5 = 1 then tchU (seeU (ptC (aC A) L T R B v) (tSd (aT A)) (aU A) L T R B n) n ((L - rsN (ptC (aC A) L T R B v) (n + 1)) / tSd (aT A)) (min (R + rsN (ptC (aC A) L T R B v) (n + 1)) (cW (aC A) - 1) / tSd (aT A)) ((T - rsN (ptC (aC A) L T R B v) (n + 1)) / tSd (aT A)) (min (B + rsN (ptC (aC A) L T R B v) (n + 1)) (cH (aC A) - 1) / tSd (aT A)) else seeU (ptC (aC A) L T R B v) (tSd (aT A)) (aU A) L T R B n) = _
      rw [ih, er]
      rfl
  obtain ⟨υ, n, l1, l2, l3, l4, l5⟩ := s_seeTiles (C := ptC (aC A) L T R B v) (L := L) (T := T) (R := R) (B := B) hO3 hq3 hv3 (hG.1.pt L T R B hvv) hU3 hF3 (hG.u31 hb) hG.2.2.2.2.1 hL hR hT hB (d + 1)
  rw [eS] at l3 l5
  have l3 : TcU υ (o + 230) (seeU (aC A) (tSd (aT A)) (aU A) L T R B (cN (aC A))) := l3
  have gall : zFr (fun a => inC (o + 1) a ∨ inU (o + 230) a) τ0 υ := (g.mono (fun a ha => by unfold inC; omega)).tr (l2.mono (fun a ha => Or.inr ha))
  have hI4 : CIx υ o (aPt A L T R B v) q u' P := k3.comp2 (hG.push) gall (hq3.fr l2 (by unfold inU; omega)) (hv3.fr hq3 (show cN (ptC (aC A) L T R B v) ≤ 8 from hn8) l2 (fun a ha => by unfold inC at ha; unfold inU; omega)) l3 (hF3.kp l4) (fun k _ => seeU_or _ _ _ _ _ _ _ _ k) (fun k hk hz => ⟨rfl, rfl, fun x y hx hy ex ey => by
    have hz0 : aU A k ≠ 0 := by
      rcases seeU_or (aC A) (tSd (aT A)) (aU A) L T R B (cN (aC A)) k with e | e
      · exact absurd e hz
      · rw [← e]; exact hz
    have hk2 := hG.2.2.2.2.2.2.2.1 k hk hz0
    have hs := hG.2.2.2.2.1
    exact out_pt hG.1 L T R B v _ (by omega) x y hx hy (see_no (by omega) hk2.1 hk2.2.1 hz hx hy ex ey)⟩)
  refine ⟨υ, n, u', ?_, hI4, (k2.mono (fun a ha => by unfold inH at ha; omega)).tr ((g.mono (fun a ha => by omega)).tr (l2.mono (fun a ha => by unfold inU at ha; omega))), l5⟩
  rw [h1, uX10_paint_14]
  simp only [zlt_e, onR_s, nul_s, nul_n, chk_e, bnI_s, bnR_s, bnV_s, zi_si, zi_sr, zi_sl, zi_sa, zi_sq, zr_si, zr_sr, zr_sl, zr_sa, zr_sq, zl_si, zl_sr, zl_sl, zl_sa, zl_sq, zai_si, zai_sr, zai_sl, zai_sa, zai_sq, zar_si, zar_sr, zar_sl, zar_sa, zar_sq, zkd_si, zkd_sr, zkd_sl, zkd_sa, zkd_sq, zln_si, zln_sr, zln_sl, zln_sa, zln_sq, znx_si, znx_sr, znx_sl, znx_sa, znx_sq, n_le (show B + 1 < 2 ^ 31 by omega) (show B < 2 ^ 31 by omega), show ¬ B + 1 ≤ B by omega, if_false, hO3.f.1, if_true, l1]
/-! setPixel, fillRectangle: the class -/
def rPt (A : zW) (L T R B : Nat) : Int32 := nI (cnt (aU A) 512 - cnt (seeU (aC A) (tSd (aT A)) (aU A) L T R B (cN (aC A))) 512)
def gPx (A : zW) (x y v : Int32) : Prop := (zin x (cW (aC A)) ∧ zin y (cH (aC A))) ∧ 0 ≤ v.toInt ∧ v.toInt ≤ 255
def rPix (A : zW) (x y v : Int32) : Int32 := if (zin x (cW (aC A)) ∧ zin y (cH (aC A))) ∧ 0 ≤ v.toInt ∧ v.toInt ≤ 255 then rPt A x.toNatClampNeg y.toNatClampNeg x.toNatClampNeg y.toNatClampNeg else -1001
def tPix (A : zW) (x y v : Int32) : zW := if (zin x (cW (aC A)) ∧ zin y (cH (aC A))) ∧ 0 ≤ v.toInt ∧ v.toInt ≤ 255 then aPt A x.toNatClampNeg y.toNatClampNeg x.toNatClampNeg y.toNatClampNeg v.toInt else A
theorem GA.pix {A : zW} {b : Nat} (hG : GA A b) (x y v : Int32) : GA (tPix A x y v) b := by
  unfold tPix
  split
  · next h => exact hG.pt _ _ _ _ h.2
  · exact hG
theorem c_setPixel {σ : zS} {o b : Nat} {A : zW} {q u P : Nat → Nat} (hG : GA A b) (hb : b < 2 ^ 30) (hI : CIx σ o A q u P) (x y v : Int32) (d : Nat) : zOC o (zEv (d + 20) mX10_setPixel [.inr (.inl (some o)), .inl x, .inl y, .inl v] σ) (rPix A x y v) (tPix A x y v) σ := by
  have hR := hI.1
  have hO := hR.1
  have key : ∀ r, zOC o (some (some (.inl r), σ)) r A σ := fun r => zOC.same hI r
  have w1 : ((0 : Int32) ≤ v ∧ v ≤ 255) ↔ 0 ≤ v.toInt ∧ v.toInt ≤ 255 := w_in (a := 0) (b := 255) (by decide) (by decide) (by decide) (by decide)
  rw [vX10_setPixel]
  unfold fX10_setPixel rPix tPix
  simp only [zlt_e, onR_s, nul_s, nul_n, chk_e, bnI_s, bnR_s, bnV_s, zi_si, zi_sr, zi_sl, zi_sa, zi_sq, zr_si, zr_sr, zr_sl, zr_sa, zr_sq, zl_si, zl_sr, zl_sl, zl_sa, zl_sq, zai_si, zai_sr, zai_sl, zai_sa, zai_sq, zar_si, zar_sr, zar_sl, zar_sa, zar_sq, zkd_si, zkd_sr, zkd_sl, zkd_sa, zkd_sq, zln_si, zln_sr, zln_sl, zln_sa, zln_sq, znx_si, znx_sr, znx_sl, znx_sa, znx_sq, hO.f.1, hO.f.2.1, hO.c.1, hO.c.2.1, hO.c.2.2.2.1.1, if_true, s_contains hO.c.2.2.2.1 hR.2.2.1.1 hG.1.1.2 hG.1.2.1.2, zb_0, s_within, w1]
  by_cases hxy : zin x (cW (aC A)) ∧ zin y (cH (aC A))
  · rw [if_neg (fun q => q hxy)]
    by_cases hv : 0 ≤ v.toInt ∧ v.toInt ≤ 255
    · have hc : (zin x (cW (aC A)) ∧ zin y (cH (aC A))) ∧ 0 ≤ v.toInt ∧ v.toInt ≤ 255 := ⟨hxy, hv⟩
      rw [if_neg (fun q => q hv), if_pos hc, if_pos hc]
      obtain ⟨ex, hx⟩ := zin_n hxy.1
      obtain ⟨ey, hy⟩ := zin_n hxy.2
      generalize x.toNatClampNeg = i at *
      generalize y.toNatClampNeg = j at *
      subst ex
      subst ey
      obtain ⟨τ, n, u', k1, k2, k3, k4⟩ := s_paint (L := i) (T := j) (R := i) (B := j) hv hG hb hI (Nat.le_refl _) hx (Nat.le_refl _) hy (d + 12)
      rw [← i_of v] at k1
      simp only [k1, bnI_s]
      have en : n = cnt (aU A) 512 - cnt (seeU (aC A) (tSd (aT A)) (aU A) i j i j (cN (aC A))) 512 := by omega
      exact ⟨τ, q, u', P, by rw [en]; rfl, k2, k3⟩
    · rw [if_pos hv, if_neg (fun q => hv q.2), if_neg (fun q => hv q.2)]
      exact key _
  · rw [if_pos hxy, if_neg (fun q => hxy q.1), if_neg (fun q => hxy q.1)]
    exact key _
def rFil (A : zW) (x y w h v : Int32) : Int32 := if (zin x (cW (aC A)) ∧ zin y (cH (aC A))) ∧ ((1 ≤ w.toInt ∧ x.toInt + w.toInt ≤ cW (aC A)) ∧ 1 ≤ h.toInt ∧ y.toInt + h.toInt ≤ cH (aC A)) ∧ 0 ≤ v.toInt ∧ v.toInt ≤ 255 then rPt A x.toNatClampNeg y.toNatClampNeg (x.toNatClampNeg + w.toNatClampNeg - 1) (y.toNatClampNeg + h.toNatClampNeg - 1) else -1001
def tFil (A : zW) (x y w h v : Int32) : zW := if (zin x (cW (aC A)) ∧ zin y (cH (aC A))) ∧ ((1 ≤ w.toInt ∧ x.toInt + w.toInt ≤ cW (aC A)) ∧ 1 ≤ h.toInt ∧ y.toInt + h.toInt ≤ cH (aC A)) ∧ 0 ≤ v.toInt ∧ v.toInt ≤ 255 then aPt A x.toNatClampNeg y.toNatClampNeg (x.toNatClampNeg + w.toNatClampNeg - 1) (y.toNatClampNeg + h.toNatClampNeg - 1) v.toInt else A
theorem GA.fil {A : zW} {b : Nat} (hG : GA A b) (x y w h v : Int32) : GA (tFil A x y w h v) b := by
  unfold tFil
  split
  · next h => exact hG.pt _ _ _ _ h.2.2
  · exact hG
theorem c_fillRectangle {σ : zS} {o b : Nat} {A : zW} {q u P : Nat → Nat} (hG : GA A b) (hb : b < 2 ^ 30) (hI : CIx σ o A q u P) (x y w h v : Int32) (d : Nat) : zOC o (zEv (d + 20) mX10_fillRectangle [.inr (.inl (some o)), .inl x, .inl y, .inl w, .inl h, .inl v] σ) (rFil A x y w h v) (tFil A x y w h v) σ := by
  have hR := hI.1
  have hO := hR.1
  have hW := hG.1.1
  have hH := hG.1.2.1
  have key : ∀ r, zOC o (some (some (.inl r), σ)) r A σ := fun r => zOC.same hI r
  have w1 : ((0 : Int32) ≤ v ∧ v ≤ 255) ↔ 0 ≤ v.toInt ∧ v.toInt ≤ 255 := w_in (a := 0) (b := 255) (by decide) (by decide) (by decide) (by decide)
  rw [vX10_fillRectangle]
  unfold fX10_fillRectangle rFil tFil
  simp only [zlt_e, onR_s, nul_s, nul_n, chk_e, bnI_s, bnR_s, bnV_s, zi_si, zi_sr, zi_sl, zi_sa, zi_sq, zr_si, zr_sr, zr_sl, zr_sa, zr_sq, zl_si, zl_sr, zl_sl, zl_sa, zl_sq, zai_si, zai_sr, zai_sl, zai_sa, zai_sq, zar_si, zar_sr, zar_sl, zar_sa, zar_sq, zkd_si, zkd_sr, zkd_sl, zkd_sa, zkd_sq, zln_si, zln_sr, zln_sl, zln_sa, zln_sq, znx_si, znx_sr, znx_sl, znx_sa, znx_sq, hO.f.1, hO.f.2.1, hO.c.1, hO.c.2.1, hO.c.2.2.2.1.1, if_true, s_contains hO.c.2.2.2.1 hR.2.2.1.1 hW.2 hH.2, zb_0, s_within, hR.2.2.1.1.1, hR.2.2.1.1.2.1]
  have no : ∀ z, zOC o (LX10_fillRectangle_55 (zEv (d + 19)) o x y w h v z 0 σ) (-1001) A σ := fun z => by
    rw [uX10_fillRectangle_55]
    simp only [zlt_e, if_true]
    exact key _
  by_cases hxy : zin x (cW (aC A)) ∧ zin y (cH (aC A))
  · rw [if_neg (fun q => q hxy)]
    obtain ⟨ex, hx⟩ := zin_n hxy.1
    obtain ⟨ey, hy⟩ := zin_n hxy.2
    have tx : x.toInt = (x.toNatClampNeg : Int) := by have : x.toNatClampNeg = x.toInt.toNat := rfl; have := hxy.1.1; omega
    have ty : y.toInt = (y.toNatClampNeg : Int) := by have : y.toNatClampNeg = y.toInt.toNat := rfl; have := hxy.2.1; omega
    simp only [tx, ty]
    generalize x.toNatClampNeg = i at *
    generalize y.toNatClampNeg = j at *
    subst ex
    subst ey
    have ew : nI (cW (aC A)) - nI i = nI (cW (aC A) - i) := nI_sub (by omega)
    have eh : nI (cH (aC A)) - nI j = nI (cH (aC A) - j) := nI_sub (by omega)
    have w2 : ((1 : Int32) ≤ w ∧ w ≤ nI (cW (aC A) - i)) ↔ 1 ≤ w.toInt ∧ (i : Int) + w.toInt ≤ cW (aC A) := by
      rw [i_nI, show ((1 : Int32) ≤ w ∧ w ≤ iI ((cW (aC A) - i : Nat) : Int)) ↔ 1 ≤ w.toInt ∧ w.toInt ≤ ((cW (aC A) - i : Nat) : Int) from w_in (a := 1) (b := ((cW (aC A) - i : Nat) : Int)) (by decide) (by decide) (by omega) (by omega)]
      omega
    have w3 : ((1 : Int32) ≤ h ∧ h ≤ nI (cH (aC A) - j)) ↔ 1 ≤ h.toInt ∧ (j : Int) + h.toInt ≤ cH (aC A) := by
      rw [i_nI, show ((1 : Int32) ≤ h ∧ h ≤ iI ((cH (aC A) - j : Nat) : Int)) ↔ 1 ≤ h.toInt ∧ h.toInt ≤ ((cH (aC A) - j : Nat) : Int) from w_in (a := 1) (b := ((cH (aC A) - j : Nat) : Int)) (by decide) (by decide) (by omega) (by omega)]
      omega
    simp only [ew, eh, w2, w3]
    by_cases hw : 1 ≤ w.toInt ∧ (i : Int) + w.toInt ≤ cW (aC A)
    · rw [if_neg (fun q => q hw)]
      by_cases hh : 1 ≤ h.toInt ∧ (j : Int) + h.toInt ≤ cH (aC A)
      · rw [if_neg (fun q => q hh), uX10_fillRectangle_55]
        simp only [zlt_e, onR_s, nul_s, nul_n, chk_e, bnI_s, bnR_s, bnV_s, zi_si, zi_sr, zi_sl, zi_sa, zi_sq, zr_si, zr_sr, zr_sl, zr_sa, zr_sq, zl_si, zl_sr, zl_sl, zl_sa, zl_sq, zai_si, zai_sr, zai_sl, zai_sa, zai_sq, zar_si, zar_sr, zar_sl, zar_sa, zar_sq, zkd_si, zkd_sr, zkd_sl, zkd_sa, zkd_sq, zln_si, zln_sr, zln_sl, zln_sa, zln_sq, znx_si, znx_sr, znx_sl, znx_sa, znx_sq, s_within, w1, zb_0]
        rw [if_neg (by decide)]
        by_cases hv : 0 ≤ v.toInt ∧ v.toInt ≤ 255
        · have hc : (zin (nI i) (cW (aC A)) ∧ zin (nI j) (cH (aC A))) ∧ ((1 ≤ w.toInt ∧ (i : Int) + w.toInt ≤ cW (aC A)) ∧ 1 ≤ h.toInt ∧ (j : Int) + h.toInt ≤ cH (aC A)) ∧ 0 ≤ v.toInt ∧ v.toInt ≤ 255 := ⟨hxy, ⟨hw, hh⟩, hv⟩
          rw [if_neg (fun q => q hv), if_pos hc, if_pos hc]
          have ew2 : w = nI w.toNatClampNeg := n_of (by omega)
          have eh2 : h = nI h.toNatClampNeg := n_of (by omega)
          have tw : w.toNatClampNeg = w.toInt.toNat := rfl
          have th : h.toNatClampNeg = h.toInt.toNat := rfl
          have bw : 1 ≤ w.toNatClampNeg ∧ i + w.toNatClampNeg ≤ cW (aC A) := by omega
          have bh : 1 ≤ h.toNatClampNeg ∧ j + h.toNatClampNeg ≤ cH (aC A) := by omega
          generalize w.toNatClampNeg = w' at *
          generalize h.toNatClampNeg = h' at *
          subst ew2
          subst eh2
          have es : nI i + nI w' - 1 = nI (i + w' - 1) := by rw [nI_add]; exact nI_sub (b := 1) (by omega)
          have et : nI j + nI h' - 1 = nI (j + h' - 1) := by rw [nI_add]; exact nI_sub (b := 1) (by omega)
          obtain ⟨τ, n, u', k1, k2, k3, k4⟩ := s_paint (L := i) (T := j) (R := i + w' - 1) (B := j + h' - 1) hv hG hb hI (by omega) (by omega) (by omega) (by omega) (d + 12)
          rw [← i_of v] at k1
          simp only [hO.f.1, if_true, es, et, k1, bnI_s]
          have en : n = cnt (aU A) 512 - cnt (seeU (aC A) (tSd (aT A)) (aU A) i j (i + w' - 1) (j + h' - 1) (cN (aC A))) 512 := by omega
          exact ⟨τ, q, u', P, by rw [en]; rfl, k2, k3⟩
        · rw [if_pos hv, if_neg (fun q => hv q.2.2), if_neg (fun q => hv q.2.2)]
          exact key _
      · rw [if_pos hh, if_neg (fun q => hh q.2.1.2), if_neg (fun q => hh q.2.1.2)]
        exact no _
    · rw [if_pos hw, if_neg (fun q => hw q.2.1.1), if_neg (fun q => hw q.2.1.1)]
      exact no _
  · rw [if_pos hxy, if_neg (fun q => hxy q.1), if_neg (fun q => hxy q.1)]
    exact no _
