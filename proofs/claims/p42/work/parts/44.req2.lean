/-! the class asks for tiles -/
theorem itC_id {n : Nat} (s : zU) : itC (fun _ s => s) n s = s := by
  induction n with
  | zero => rfl
  | succ n ih => exact ih
theorem s_requestIn {o : Nat} {q : Nat → Nat} {C : zC} {sd m : Nat} (G : GC C) (hs : 1 ≤ sd) (hs2 : sd ≤ 8) (hW8 : (cW C - 1) / sd < 8) (hH8 : (cH C - 1) / sd < 8) (hm8 : m < 8) (e : Nat) (IH : ∀ (σ : zS) (s : zU) (c r : Nat), RqI σ o q C sd s → c ≤ (cW C - 1) / sd → r ≤ (cH C - 1) / sd → potU s + 65 * m + 100 < 2 ^ 30 → ∃ τ, zEv (e + 5) mX10_requestTile [.inr (.inl (some o)), .inl (iI ((m : Int) - 1)), .inl (nI c), .inl (nI r)] σ = some (none, τ) ∧ zFr (inK o) σ τ ∧ RqI τ o q C sd (reqT C sd m c r s)) {σ : zS} {s : zU} {c r ρ : Nat} (hI : RqI σ o q C sd s) (hc : c ≤ (cW C - 1) / sd) (hr : r ≤ (cH C - 1) / sd) (hρ : ρ ≤ 16) (hP : potU s + 65 * (m + 1) + 100 < 2 ^ 30) : ∃ τ, zEv (e + 6) mX10_requestInput [.inr (.inl (some o)), .inl (iI ((m : Int) - 1)), .inl (nI c), .inl (nI r), .inl (nI ρ)] σ = some (none, τ) ∧ zFr (inK o) σ τ ∧ RqI τ o q C sd (itR (reqT C sd m) (tlo sd c ρ) (thi sd c ρ (cW C)) (tlo sd r ρ) (thi sd r ρ (cH C)) s) := by
  have hI0 := hI
  obtain ⟨hO, hQ, hV, hTQ, hTU, hTF, hOR, hCo, hsd, huB⟩ := hI
  have hn8 := G.2.2.1
  have hw := G.1
  have hh := G.2.1
  rw [vX10_requestInput]
  unfold fX10_requestInput
  by_cases hm0 : m = 0
  · subst hm0
    rw [if_pos (by decide)]
    have e : itR (reqT C sd 0) (tlo sd c ρ) (thi sd c ρ (cW C)) (tlo sd r ρ) (thi sd r ρ (cH C)) s = s := by
      show itC (fun j s => itC (fun i s => s) _ s) _ s = s
      have e2 : (fun (j : Nat) (s : zU) => itC (fun (i : Nat) (s : zU) => s) (thi sd c ρ (cW C) + 1 - tlo sd c ρ) s) = fun j s => s := by
        funext j s; exact itC_id s
      rw [e2]
      exact itC_id s
    rw [e]
    exact ⟨σ, rfl, zFr.rf σ, hI0⟩
  · rw [if_neg (by rw [show (0 : Int32) = iI 0 from rfl, i_lt (by omega) (by omega) (by decide) (by decide)]; omega)]
    have hcs : c * sd ≤ 7 * 8 := Nat.mul_le_mul (by omega) hs2
    have hrs : r * sd ≤ 7 * 8 := Nat.mul_le_mul (by omega) hs2
    have hT1 : zi σ 450 (o + 230) = nI sd := by rw [← hsd]; exact hTF.1
    have tl : ∀ (x : Nat), x < 1000 → zEv (e + 5) mX9_tileOf [.inr (.inl (some (o + 230))), .inl (nI x)] σ = some (some (.inl (nI (x / sd))), σ) := fun x hx => by
      rw [← hsd]
      exact s_tileOf hO.tc hTF (by omega) (by omega) hx (e + 2)
    have mx : ∀ (z b : Nat), z ≤ 100 → b ≤ 100 → zEv (e + 5) mJ9_max_7cf53 [.inl (nI z - nI b), .inl 0] σ = some (some (.inl (nI (z - b))), σ) := fun z b hz hb => by
      rw [i_nI z, i_nI b, i_sub, show (0 : Int32) = iI 0 from rfl, s_imax (e + 4) σ (by omega) (by omega) (by decide) (by decide), i_nI, show max ((z : Int) - b) 0 = ((z - b : Nat) : Int) by omega]
    have mn : ∀ (z b : Nat), z ≤ 100 → b ≤ 100 → zEv (e + 5) mJ9_min_7cf53 [.inl (nI z), .inl (nI b)] σ = some (some (.inl (nI (min z b))), σ) := fun z b hz hb => by
      rw [s_min, n_min (by omega) (by omega)]
    have ec : nI ((c + 1) * sd) - 1 + nI ρ = nI ((c + 1) * sd - 1 + ρ) := by
      have : 1 ≤ (c + 1) * sd := Nat.mul_le_mul (show 1 ≤ c + 1 by omega) hs
      rw [show (1 : Int32) = nI 1 from rfl, nI_sub this, nI_add]
    have er : nI ((r + 1) * sd) - 1 + nI ρ = nI ((r + 1) * sd - 1 + ρ) := by
      have : 1 ≤ (r + 1) * sd := Nat.mul_le_mul (show 1 ≤ r + 1 by omega) hs
      rw [show (1 : Int32) = nI 1 from rfl, nI_sub this, nI_add]
    have ew : nI (cW C) - 1 = nI (cW C - 1) := by rw [show (1 : Int32) = nI 1 from rfl, nI_sub (by omega)]
    have eh : nI (cH C) - 1 = nI (cH C - 1) := by rw [show (1 : Int32) = nI 1 from rfl, nI_sub (by omega)]
    have hc1 : (c + 1) * sd ≤ 8 * 8 := Nat.mul_le_mul (by omega) hs2
    have hr1 : (r + 1) * sd ≤ 8 * 8 := Nat.mul_le_mul (by omega) hs2
    have m1 := mx (c * sd) ρ (by omega) (by omega)
    have m2 := mx (r * sd) ρ (by omega) (by omega)
    have m3 := mn ((c + 1) * sd - 1 + ρ) (cW C - 1) (by omega) (by omega)
    have m4 := mn ((r + 1) * sd - 1 + ρ) (cH C - 1) (by omega) (by omega)
    have t1 := tl (c * sd - ρ) (by omega)
    have t2 := tl (r * sd - ρ) (by omega)
    have t3 := tl (min ((c + 1) * sd - 1 + ρ) (cW C - 1)) (by omega)
    have t4 := tl (min ((r + 1) * sd - 1 + ρ) (cH C - 1)) (by omega)
    simp only [zlt_e, onR_s, nul_s, nul_n, chk_e, bnI_s, bnR_s, bnV_s, zi_si, zi_sr, zi_sl, zi_sa, zi_sq, zr_si, zr_sr, zr_sl, zr_sa, zr_sq, zl_si, zl_sr, zl_sl, zl_sa, zl_sq, zai_si, zai_sr, zai_sl, zai_sa, zai_sq, zar_si, zar_sr, zar_sl, zar_sa, zar_sq, zkd_si, zkd_sr, zkd_sl, zkd_sa, zkd_sq, zln_si, zln_sr, zln_sl, zln_sa, zln_sq, znx_si, znx_sr, znx_sl, znx_sa, znx_sq, hO.f.1, hO.f.2.1, hO.f.2.2.2.2.2.2.1, hO.tc.1, hO.c.1, hO.c.2.1, hO.c.2.2.2.1.1, hV.1.1, hV.1.2.1, if_true, hT1, pk_mul, nI_1, ew, eh, m1, m2, t1, t2, ec, er, m3, m4, t3, t4]
    rw [show (c * sd - ρ) / sd = tlo sd c ρ from rfl, show (r * sd - ρ) / sd = tlo sd r ρ from rfl, show min ((c + 1) * sd - 1 + ρ) (cW C - 1) / sd = thi sd c ρ (cW C) from rfl, show min ((r + 1) * sd - 1 + ρ) (cH C - 1) / sd = thi sd r ρ (cH C) from rfl]
    have b1 := tlo_le (r := ρ) hs (show 1 ≤ cW C by omega) hc
    have b2 := tlo_le (r := ρ) hs (show 1 ≤ cH C by omega) hr
    have b3 := thi_le (sd := sd) (c := c) (r := ρ) (w := cW C)
    have b4 := thi_le (sd := sd) (c := r) (r := ρ) (w := cH C)
    generalize tlo sd c ρ = c0 at *
    generalize thi sd c ρ (cW C) = c1 at *
    generalize tlo sd r ρ = r0 at *
    generalize thi sd r ρ (cH C) = r1 at *
    have rqm : ∀ c r s, c ≤ c1 → r ≤ r1 → RQ C sd m 1 s (reqT C sd m c r s) := fun c r s hc hr => rq_req hs hW8 hH8 m (by omega) c r s (Nat.le_trans hc b3) (Nat.le_trans hr b4)
    let row : Nat → zU → zU := fun j s => itC (fun i s => reqT C sd m (c0 + i) (r0 + j) s) (c1 + 1 - c0) s
    let st : Nat → Nat → zU := fun j i => itC (fun i s => reqT C sd m (c0 + i) (r0 + j) s) i (itC row j s)
    have pot : ∀ j i, j < r1 + 1 - r0 → i ≤ c1 + 1 - c0 → potU (st j i) ≤ potU s + 64 := fun j i hj hi => by
      have p1 : RQ C sd m (j * ((c1 + 1 - c0) * 1)) s (itC row j s) := rq_itC j s (fun j' s hj' => rq_itC _ s (fun i s hi => rqm _ _ s (by omega) (by omega)))
      have p2 : RQ C sd m (i * 1) (itC row j s) (st j i) := rq_itC i _ (fun i' s hi' => rqm _ _ s (by omega) (by omega))
      have p3 := (p1.tr p2).2.2.2.2.1
      have p4 : (j + 1) * (c1 + 1 - c0) ≤ 8 * 8 := Nat.mul_le_mul (by omega) (by omega)
      rw [Nat.succ_mul] at p4
      rw [Nat.mul_one] at p3
      omega
    obtain ⟨⟨τ, z⟩, h1, h2⟩ := grid (fun j (t : zS × zV) => LX10_requestInput_128 (zEv (e + 5)) o (iI ((m : Int) - 1)) (.inl (nI c)) (.inl (nI r)) (.inl (nI ρ)) (.inl (nI sd)) (nI c0) (nI c1) (.inl (nI r0)) (nI r1) (nI (r0 + j)) t.2 t.1)
      (fun j i t => LX10_requestInput_139 (zEv (e + 5)) o (iI ((m : Int) - 1)) (.inl (nI c)) (.inl (nI r)) (.inl (nI ρ)) (.inl (nI sd)) (nI c0) (nI c1) (.inl (nI r0)) (nI r1) (nI (r0 + j)) (nI (c0 + i)) t.1)
      (fun j i t => zFr (inK o) σ t.1 ∧ RqI t.1 o q C sd (st j i)) (c1 + 1 - c0) (r1 + 1 - r0) (fun t => some (none, t.1)) (σ, .inr (.inr none)) ⟨zFr.rf σ, hI0⟩
      (fun j t hj hI => ⟨t, by
        show LX10_requestInput_128 _ _ _ _ _ _ _ _ _ _ _ _ _ _ = LX10_requestInput_139 _ _ _ _ _ _ _ _ _ _ _ _ _ _
        rw [uX10_requestInput_128]
        simp only [n_le (show r0 + j < 2 ^ 31 by omega) (show r1 < 2 ^ 31 by omega)]
        rw [if_pos (by omega)]
        rfl, hI⟩)
      (fun j i t hj hi hI => by
        have hpot := pot j i hj (by omega)
        obtain ⟨τ, k1, k2, k3⟩ := IH t.1 (st j i) (c0 + i) (r0 + j) hI.2 (by omega) (by omega) (by omega)
        have ea : nI (c0 + i) + 1 = nI (c0 + (i + 1)) := nI_1 (c0 + i)
        refine ⟨(τ, t.2), ?_, hI.1.tr k2, k3⟩
        show LX10_requestInput_139 _ _ _ _ _ _ _ _ _ _ _ _ _ _ = LX10_requestInput_139 _ _ _ _ _ _ _ _ _ _ _ _ _ _
        rw [uX10_requestInput_139]
        simp only [zlt_e, onR_s, nul_s, nul_n, chk_e, bnI_s, bnR_s, bnV_s, zi_si, zi_sr, zi_sl, zi_sa, zi_sq, zr_si, zr_sr, zr_sl, zr_sa, zr_sq, zl_si, zl_sr, zl_sl, zl_sa, zl_sq, zai_si, zai_sr, zai_sl, zai_sa, zai_sq, zar_si, zar_sr, zar_sl, zar_sa, zar_sq, zkd_si, zkd_sr, zkd_sl, zkd_sa, zkd_sq, zln_si, zln_sr, zln_sl, zln_sa, zln_sq, znx_si, znx_sr, znx_sl, znx_sa, znx_sq, n_le (show c0 + i < 2 ^ 31 by omega) (show c1 < 2 ^ 31 by omega), show c0 + i ≤ c1 by omega, if_true, hI.2.1.f.1, k1, ea])
      (fun j t hj hI => ⟨(t.1, .inl (nI (c0 + (c1 + 1 - c0)))), by
        have ea : nI (r0 + j) + 1 = nI (r0 + (j + 1)) := nI_1 (r0 + j)
        show LX10_requestInput_139 _ _ _ _ _ _ _ _ _ _ _ _ _ _ = LX10_requestInput_128 _ _ _ _ _ _ _ _ _ _ _ _ _ _
        rw [uX10_requestInput_139]
        simp only [zlt_e, onR_s, nul_s, nul_n, chk_e, bnI_s, bnR_s, bnV_s, zi_si, zi_sr, zi_sl, zi_sa, zi_sq, zr_si, zr_sr, zr_sl, zr_sa, zr_sq, zl_si, zl_sr, zl_sl, zl_sa, zl_sq, zai_si, zai_sr, zai_sl, zai_sa, zai_sq, zar_si, zar_sr, zar_sl, zar_sa, zar_sq, zkd_si, zkd_sr, zkd_sl, zkd_sa, zkd_sq, zln_si, zln_sr, zln_sl, zln_sa, zln_sq, znx_si, znx_sr, znx_sl, znx_sa, znx_sq, n_le (show c0 + (c1 + 1 - c0) < 2 ^ 31 by omega) (show c1 < 2 ^ 31 by omega), ea]
        rw [if_neg (by omega)], hI⟩)
      (fun t hI => by
        show LX10_requestInput_128 _ _ _ _ _ _ _ _ _ _ _ _ _ _ = _
        rw [uX10_requestInput_128]
        simp only [n_le (show r0 + (r1 + 1 - r0) < 2 ^ 31 by omega) (show r1 < 2 ^ 31 by omega)]
        rw [if_neg (by omega)])
    exact ⟨τ, h1, h2⟩
theorem s_request {o : Nat} {q : Nat → Nat} {C : zC} {sd : Nat} (G : GC C) (hs : 1 ≤ sd) (hs2 : sd ≤ 8) (hW8 : (cW C - 1) / sd < 8) (hH8 : (cH C - 1) / sd < 8) : ∀ n, n ≤ cN C → ∀ (σ : zS) (s : zU) (c r D : Nat), RqI σ o q C sd s → c ≤ (cW C - 1) / sd → r ≤ (cH C - 1) / sd → potU s + 65 * n + 100 < 2 ^ 30 → 2 * n + 9 ≤ D → ∃ τ, zEv D mX10_requestTile [.inr (.inl (some o)), .inl (iI ((n : Int) - 1)), .inl (nI c), .inl (nI r)] σ = some (none, τ) ∧ zFr (inK o) σ τ ∧ RqI τ o q C sd (reqT C sd n c r s) := by
  intro n
  induction n using Nat.strongRecOn with
  | ind n IH =>
  intro hn σ s c r D hI hc hr hP hD
  obtain ⟨D, rfl⟩ : ∃ e, D = e + 9 := ⟨D - 9, by omega⟩
  obtain ⟨hO, hQ, hV, hTQ, hTU, hTF, hOR, hCo, hsd, huB⟩ := hI
  have hn8 := G.2.2.1
  have hw := G.1
  have hh := G.2.1
  have hck : tCk s.2 < 2 ^ 30 := by unfold potU at hP; omega
  have hB31 : ∀ k, k < 512 → s.1 k < 2 ^ 31 := fun k hk => by have := huB k hk; omega
  rw [req_onB, vX10_requestTile]
  unfold fX10_requestTile
  simp only [zlt_e, onR_s, nul_s, nul_n, chk_e, bnI_s, bnR_s, bnV_s, zi_si, zi_sr, zi_sl, zi_sa, zi_sq, zr_si, zr_sr, zr_sl, zr_sa, zr_sq, zl_si, zl_sr, zl_sl, zl_sa, zl_sq, zai_si, zai_sr, zai_sl, zai_sa, zai_sq, zar_si, zar_sr, zar_sl, zar_sa, zar_sq, zkd_si, zkd_sr, zkd_sl, zkd_sa, zkd_sq, zln_si, zln_sr, zln_sl, zln_sa, zln_sq, znx_si, znx_sr, znx_sl, znx_sa, znx_sq, hO.f.1, hO.f.2.1, hO.c.1, if_true, s_enabledAtMost hO.c hQ hV hn8 G.2.2.2.2 (D + 6) n hn]
  cases hb : onB (cL C) n with
  | zero =>
    have hno : ¬ zin (iI (((0 : Nat) : Int) - 1)) (cN C) := by
      unfold zin
      rw [i_toInt (by omega) (by omega)]
      omega
    simp only [zlt_e, onR_s, nul_s, nul_n, chk_e, bnI_s, bnR_s, bnV_s, zi_si, zi_sr, zi_sl, zi_sa, zi_sq, zr_si, zr_sr, zr_sl, zr_sa, zr_sq, zl_si, zl_sr, zl_sl, zl_sa, zl_sq, zai_si, zai_sr, zai_sl, zai_sa, zai_sq, zar_si, zar_sr, zar_sl, zar_sa, zar_sq, zkd_si, zkd_sr, zkd_sl, zkd_sa, zkd_sq, zln_si, zln_sr, zln_sl, zln_sa, zln_sq, znx_si, znx_sr, znx_sl, znx_sa, znx_sq, s_layerNo hO.c hV.2.1 hn8 hno]
    exact ⟨σ, rfl, zFr.rf σ, hO, hQ, hV, hTQ, hTU, hTF, hOR, hCo, hsd, huB⟩
  | succ m =>
    have hmn : m < n := by have := onB_le (cL C) n; omega
    have hm8 : m < 8 := by omega
    have hmN : m < cN C := by omega
    have hon := onB_on (cL C) n m hb
    have hgm := G.2.2.2.2 m hmN
    have hqm := (hQ.1 m hm8).2
    have hk : sN m c r < 512 := sN_lt hm8 (by omega) (by omega)
    have em : iI (((m + 1 : Nat) : Int) - 1) = nI m := by rw [i_nI]; congr 1; omega
    have em1 : nI m - 1 = iI ((m : Int) - 1) := by rw [i_nI, show (1 : Int32) = iI 1 from rfl, i_sub]
    have ereq : reqT C sd (m + 1) c r s = if s.1 (sN m c r) = 0 then
        ((stU (itR (reqT C sd m) (tlo sd c (rch (cL C m))) (thi sd c (rch (cL C m)) (cW C)) (tlo sd r (rch (cL C m))) (thi sd r (rch (cL C m)) (cH C)) s).1 (sN m c r) (tCk (itR (reqT C sd m) (tlo sd c (rch (cL C m))) (thi sd c (rch (cL C m)) (cW C)) (tlo sd r (rch (cL C m))) (thi sd r (rch (cL C m)) (cH C)) s).2 + 1)),
          tCo (itR (reqT C sd m) (tlo sd c (rch (cL C m))) (thi sd c (rch (cL C m)) (cW C)) (tlo sd r (rch (cL C m))) (thi sd r (rch (cL C m)) (cH C)) s).2)
      else (stU s.1 (sN m c r) (tCk s.2 + 1), tFo s.2) := by rw [reqT, if_pos hon]
    have rqm : RQ C sd n 1 s (reqT C sd (m + 1) c r s) := (rq_req hs hW8 hH8 (m + 1) (by omega) c r s hc hr).mono (by omega) (Nat.le_refl _)
    simp only [em, zlt_e, onR_s, nul_s, nul_n, chk_e, bnI_s, bnR_s, bnV_s, zi_si, zi_sr, zi_sl, zi_sa, zi_sq, zr_si, zr_sr, zr_sl, zr_sa, zr_sq, zl_si, zl_sr, zl_sl, zl_sa, zl_sq, zai_si, zai_sr, zai_sl, zai_sa, zai_sq, zar_si, zar_sr, zar_sl, zar_sa, zar_sq, zkd_si, zkd_sr, zkd_sl, zkd_sa, zkd_sq, zln_si, zln_sr, zln_sl, zln_sa, zln_sq, znx_si, znx_sr, znx_sl, znx_sa, znx_sq, s_layerAt hO.c hQ hV.2.1 hn8 hmN, hO.f.1, hO.f.2.2.2.2.2.2.1, hO.tc.1, if_true, s_holds hO.tc hTU hB31 hm8 (show c < 8 by omega) (show r < 8 by omega), zb_0]
    by_cases hu : s.1 (sN m c r) = 0
    · rw [if_pos (by simpa using hu)]
      have hls := hO.c.2.2.2.2.2.2 (q m) hqm
      have hR0 := rchI_R hgm.1 hgm.2.1
      have hrch : rchI (cL C m 0) (cL C m 1) (cL C m 2) = (rch (cL C m) : Int) := by unfold rch; omega
      have hrl : rch (cL C m) ≤ 16 := by omega
      simp only [zlt_e, onR_s, nul_s, nul_n, chk_e, bnI_s, bnR_s, bnV_s, zi_si, zi_sr, zi_sl, zi_sa, zi_sq, zr_si, zr_sr, zr_sl, zr_sa, zr_sq, zl_si, zl_sr, zl_sl, zl_sa, zl_sq, zai_si, zai_sr, zai_sl, zai_sa, zai_sq, zar_si, zar_sr, zar_sl, zar_sa, zar_sq, zkd_si, zkd_sr, zkd_sl, zkd_sa, zkd_sq, zln_si, zln_sr, zln_sl, zln_sa, zln_sq, znx_si, znx_sr, znx_sl, znx_sa, znx_sq, hls.1, if_true, s_reach hls (hV.2.2 m hmN) hgm, hO.f.1, em1]
      rw [hrch, ← i_nI]
      -- the tiles below
      generalize hρ : rch (cL C m) = ρ at *
      have hin : ∃ τ, zEv (D + 8) mX10_requestInput [.inr (.inl (some o)), .inl (iI ((m : Int) - 1)), .inl (nI c), .inl (nI r), .inl (nI ρ)] σ = some (none, τ) ∧ zFr (inK o) σ τ ∧ RqI τ o q C sd (itR (reqT C sd m) (tlo sd c ρ) (thi sd c ρ (cW C)) (tlo sd r ρ) (thi sd r ρ (cH C)) s) := by
        exact s_requestIn G hs hs2 hW8 hH8 hm8 (D + 2) (fun σ s c r hI hc hr hP => IH m hmn (by omega) σ s c r (D + 7) hI hc hr hP (by omega)) ⟨hO, hQ, hV, hTQ, hTU, hTF, hOR, hCo, hsd, huB⟩ hc hr hrl (by omega)
      obtain ⟨τ, k1, k2, k3⟩ := hin
      rw [ereq, if_pos hu] at rqm ⊢
      have hall : ∀ c' r' k, onB (cL C) m = k + 1 → tlo sd c ρ ≤ c' → c' ≤ thi sd c ρ (cW C) → tlo sd r ρ ≤ r' → r' ≤ thi sd r ρ (cH C) → (itR (reqT C sd m) (tlo sd c ρ) (thi sd c ρ (cW C)) (tlo sd r ρ) (thi sd r ρ (cH C)) s).1 (sN k c' r') ≠ 0 := fun c' r' k hkb a1 a2 a3 a4 => by
        have hkm := onB_le (cL C) m
        have b3 := thi_le (sd := sd) (c := c) (r := ρ) (w := cW C)
        have b4 := thi_le (sd := sd) (c := r) (r := ρ) (w := cH C)
        exact itR_all (f := reqT C sd m) (P := fun c r s => c < 8 → r < 8 → s.1 (sN k c r) ≠ 0) (c0 := tlo sd c ρ) (c1 := thi sd c ρ (cW C)) (r0 := tlo sd r ρ) (r1 := thi sd r ρ (cH C)) (fun c r s hc hr _ _ => req_in m c r s k hkb) (fun c r c' r' s hc hr hp h1 h2 => (rq_req hs hW8 hH8 m (by omega) c r s (Nat.le_trans hc b3) (Nat.le_trans hr b4)).2.2.1 _ (sN_lt (by omega) h1 h2) (hp h1 h2)) s a1 a2 a3 a4 (by omega) (by omega)
      have hlow : (itR (reqT C sd m) (tlo sd c ρ) (thi sd c ρ (cW C)) (tlo sd r ρ) (thi sd r ρ (cH C)) s).1 (sN m c r) = 0 := by
        have b3 := thi_le (sd := sd) (c := c) (r := ρ) (w := cW C)
        have b4 := thi_le (sd := sd) (c := r) (r := ρ) (w := cH C)
        have h64 : RQ C sd m 64 s (itR (reqT C sd m) (tlo sd c ρ) (thi sd c ρ (cW C)) (tlo sd r ρ) (thi sd r ρ (cH C)) s) :=
          rq_itR s (Nat.lt_of_le_of_lt b3 hW8) (Nat.lt_of_le_of_lt b4 hH8) (fun c r s hc hr => rq_req hs hW8 hH8 m (by omega) c r s (Nat.le_trans hc b3) (Nat.le_trans hr b4))
        rw [h64.2.1 _ hk (by rw [(sN_dec (l := m) (show c < 8 by omega) (show r < 8 by omega)).1]; exact Nat.le_refl _)]
        exact hu
      generalize itR (reqT C sd m) (tlo sd c ρ) (thi sd c ρ (cW C)) (tlo sd r ρ) (thi sd r ρ (cH C)) s = s' at *
      obtain ⟨jO, jQ, jV, jTQ, jTU, jTF, jOR, jCo, jsd, juB⟩ := k3
      have jls := jO.c.2.2.2.2.2.2 (q m) hqm
      have jT1 : zi τ 450 (o + 230) = nI sd := by rw [← jsd]; exact jTF.1
      -- the picture below, as it is
      have hb8 : onB (cL C) m ≤ 8 := Nat.le_trans (onB_le (cL C) m) (by omega)
      obtain ⟨p, hp⟩ : ∃ p, p = if onB (cL C) m = 0 then o + 2 else o + 230 + 3 + 2 * (onB (cL C) m - 1) := ⟨_, rfl⟩
      have hpp : p = o + 2 ∨ (o + 233 ≤ p ∧ p + 1 < o + 249 ∧ p + 1 < o + 233 + 2 * m) := by
        rw [hp]
        by_cases hb0 : onB (cL C) m = 0
        · rw [if_pos hb0]; exact Or.inl rfl
        · rw [if_neg hb0]
          have := onB_le (cL C) m
          right; omega
      have hpic : PicS τ p ∧ ∃ px, PicV τ p (cW C) (cH C) px ∧ pxR (cW C) (cH C) px ∧ ∀ x y, x < cW C → y < cH C → x / sd = c → y / sd = r → nearE (cW C) (cH C) px (outI C m) ρ x y := by
        rw [hp]
        by_cases hb0 : onB (cL C) m = 0
        · rw [if_pos hb0]
          refine ⟨jO.c.2.2.2.1, cP C, jV.1, G.2.2.2.1, fun x y _ _ _ _ x' y' _ _ _ _ => ?_⟩
          rw [outI_onB, hb0]
          rfl
        · obtain ⟨k, hkb⟩ : ∃ k, onB (cL C) m = k + 1 := ⟨onB (cL C) m - 1, by omega⟩
          have hk8 : k < 8 := by omega
          rw [if_neg hb0, hkb, show k + 1 - 1 = k from rfl]
          have used : ∀ x' y', x' < cW C → y' < cH C → (tlo sd c ρ ≤ x' / sd ∧ x' / sd ≤ thi sd c ρ (cW C)) → (tlo sd r ρ ≤ y' / sd ∧ y' / sd ≤ thi sd r ρ (cH C)) → zi τ 257 (o + 230 + 3 + 2 * k) = nI (cW C) ∧ zi τ 258 (o + 230 + 3 + 2 * k) = nI (cH C) ∧ zai τ (o + 230 + 3 + 2 * k + 1) (16 * y' + x') = iI (outI C (k + 1) x' y') := fun x' y' hx' hy' hxr hyr => by
            have b3 := thi_le (sd := sd) (c := c) (r := ρ) (w := cW C)
            have b4 := thi_le (sd := sd) (c := r) (r := ρ) (w := cH C)
            have hcx : x' / sd < 8 := by omega
            have hcy : y' / sd < 8 := by omega
            have hd := sN_dec (l := k) hcx hcy
            have hu1 := hall (x' / sd) (y' / sd) k hkb hxr.1 hxr.2 hyr.1 hyr.2
            have := jCo _ (sN_lt hk8 hcx hcy) hu1
            rw [hd.1, hd.2.1, hd.2.2] at this
            exact ⟨this.1, this.2.1, this.2.2 x' y' hx' hy' rfl rfl⟩
          have hcs : c * sd < cW C := by have := (Nat.le_div_iff_mul_le (show 0 < sd by omega)).mp hc; omega
          have hrs : r * sd < cH C := by have := (Nat.le_div_iff_mul_le (show 0 < sd by omega)).mp hr; omega
          have hcd : c * sd / sd = c := Nat.mul_div_cancel _ (by omega)
          have hrd : r * sd / sd = r := Nat.mul_div_cancel _ (by omega)
          have u0 := used (c * sd) (r * sd) hcs hrs (tile_in hs hcs hcs hcd (by omega) (by omega)) (tile_in hs hrs hrs hrd (by omega) (by omega))
          refine ⟨jO.tc.2.2.2.2.2.2.2 k hk8, fun x y => (zai τ (o + 230 + 3 + 2 * k + 1) (16 * y + x)).toInt, ⟨u0.1, u0.2.1, fun x y _ _ => i_of _⟩, fun x y hx hy => ?_, fun x y hx hy hxc hyr x' y' hx' hy' h1 h2 => ?_⟩
          · obtain ⟨v, hv1, hv2⟩ := (jOR k hk8).2 (16 * y + x) (by omega)
            show 0 ≤ (zai τ (o + 230 + 3 + 2 * k + 1) (16 * y + x)).toInt ∧ (zai τ (o + 230 + 3 + 2 * k + 1) (16 * y + x)).toInt ≤ 255
            rw [hv2, i_toInt (by omega) (by omega)]
            exact hv1
          · have := used x' y' hx' hy' (tile_in hs hx hx' hxc h1.1 h1.2) (tile_in hs hy hy' hyr h2.1 h2.2)
            have hR := outI_R G (k + 1) (by have := onB_le (cL C) m; omega) x' y' hx' hy'
            show (zai τ (o + 230 + 3 + 2 * k + 1) (16 * y' + x')).toInt = _
            rw [this.2.2, i_toInt (by omega) (by omega), outI_onB C m, hkb]
      obtain ⟨hpS, px, hpV, hpR, hpN⟩ := hpic
      have hcs : c * sd ≤ 7 * 8 := Nat.mul_le_mul (by omega) hs2
      have hrs : r * sd ≤ 7 * 8 := Nat.mul_le_mul (by omega) hs2
      have houtS := jO.tc.2.2.2.2.2.2.2 m hm8
      obtain ⟨υ, l1, l2, l3, l4, l5, l6⟩ := s_render (left := c * sd) (top := r * sd) (side := sd) jO.rd jls (jV.2.2 m hmN) hgm hpS hpV houtS hw.2 hh.2 hpR (by omega) (by omega) (by omega) (by omega) (by omega) (by omega) (by omega) (by omega) (by omega) (D + 3)
      have l2' : zFr (inK o) τ υ := l2.mono (fun a ha => by unfold inO inP at ha; unfold inK; omega)
      have iTU : TcU υ (o + 230) s'.1 := jTU.fr l2 (by unfold inO inP; omega) (by unfold inO inP; omega)
      have iTF : TcF υ (o + 230) s'.2 := jTF.fr l2 (by unfold inO inP; omega)
      obtain ⟨ω, n1, n2, n3, n4⟩ := s_noteComputed (jO.fr l2).tc iTU iTF hm8 (show c < 8 by omega) (show r < 8 by omega) hlow (D + 6)
      have n2' : zFr (inK o) υ ω := n2.mono (fun a ha => by unfold inU at ha; unfold inK; omega)
      have epic : zEv (D + 8) mX10_pictureOf [.inr (.inl (some o)), .inl (iI ((onB (cL C) m : Nat) - 1))] τ = some (some (.inr (.inl (some p))), τ) := by
        rw [hp]
        exact s_pictureOf jO jTQ hb8 (D + 6)
      have eam := s_enabledAtMost jO.c jQ jV hn8 G.2.2.2.2 (D + 6) m (by omega)
      have eoa := s_outputAt jO.tc jTQ hm8 (D + 7)
      simp only [zlt_e, onR_s, nul_s, nul_n, chk_e, bnI_s, bnR_s, bnV_s, zi_si, zi_sr, zi_sl, zi_sa, zi_sq, zr_si, zr_sr, zr_sl, zr_sa, zr_sq, zl_si, zl_sr, zl_sl, zl_sa, zl_sq, zai_si, zai_sr, zai_sl, zai_sa, zai_sq, zar_si, zar_sr, zar_sl, zar_sa, zar_sq, zkd_si, zkd_sr, zkd_sl, zkd_sa, zkd_sq, zln_si, zln_sr, zln_sl, zln_sa, zln_sq, znx_si, znx_sr, znx_sl, znx_sa, znx_sq, k1, jO.f.1, jO.f.2.1, jO.c.1, jO.f.2.2.2.2.2.2.1, jO.f.2.2.2.2.2.2.2.1, jO.tc.1, jO.rd.1, if_true, eoa, jT1, eam, epic, pk_mul, l1, (jO.fr l2).f.1, (jO.fr l2).f.2.2.2.2.2.2.1, (jO.fr l2).tc.1, n1]
      have oO : OS ω o := (jO.fr l2).fr n2
      have oQ : CmQ υ (o + 1) q := jQ.fr l2 (by unfold inO inP; omega)
      have oV : CmV υ (o + 1) q C := jV.fr jQ hn8 l2 (fun a ha => by unfold inC at ha; unfold inO inP; omega)
      have oOR : OutR υ (o + 230) := fun i hi => by
        by_cases him : i = m
        · rw [him]
          refine ⟨⟨cW C, cH C, hw.2, hh.2, l3, l4⟩, fun j hj => ?_⟩
          have ej : 16 * (j / 16) + j % 16 = j := by omega
          by_cases hsq : inSq (cW C) (cH C) (c * sd) (r * sd) sd (j % 16) (j / 16)
          · have := l5 _ _ hsq
            rw [ej] at this
            exact ⟨_, lyI_R hpR hgm hsq.1.2.2 hsq.2.2.2, this⟩
          · have := l6 _ _ (by omega) (by omega) hsq
            rw [ej] at this
            obtain ⟨v, hv1, hv2⟩ := (jOR m hm8).2 j hj
            exact ⟨v, hv1, this.trans hv2⟩
        · rw [l2.i (by unfold inO inP; omega), l2.i (by unfold inO inP; omega)]
          exact ⟨(jOR i hi).1, fun j hj => by rw [l2.ai (by unfold inO inP; omega)]; exact (jOR i hi).2 j hj⟩
      have oCo : Coh υ (o + 230) C sd (stU s'.1 (sN m c r) (tCk s'.2 + 1)) := fun k hk2 hku => by
        have hd := sN_dec (l := m) (show c < 8 by omega) (show r < 8 by omega)
        by_cases hke : k = sN m c r
        · rw [hke, hd.1, hd.2.1, hd.2.2]
          refine ⟨l3, l4, fun x y hx hy hxc hyr => ?_⟩
          have q1 := (tile_sq hs).mpr hxc
          have q2 := (tile_sq hs).mpr hyr
          rw [l5 x y (by unfold inSq; omega)]
          have e : outI C (m + 1) = lyI (cW C) (cH C) (cL C m) (outI C m) := by rw [outI, if_pos hon]
          rw [e, lyI_congr hw.2 hh.2 hx hy hgm (by have := hpN x y hx hy hxc hyr; rw [← hρ] at this; exact this)]
        · have hku : s'.1 k ≠ 0 := by
            unfold stU at hku
            rw [if_neg hke] at hku
            exact hku
          have old := jCo k hk2 hku
          by_cases hkm : k / 64 = m
          · rw [hkm] at old ⊢
            refine ⟨l3, l4, fun x y hx hy hxc hyr => ?_⟩
            rw [l6 x y (by omega) (by omega) (fun hsq => ?_)]
            · exact old.2.2 x y hx hy hxc hyr
            · unfold inSq at hsq
              have q1 := (tile_sq (x := x) (c := c) hs).mp (by omega)
              have q2 := (tile_sq (x := y) (c := r) hs).mp (by omega)
              exact hke (by rw [← sN_eq (k := k), hkm, ← hxc, ← hyr, q1, q2])
          · have h8 : k / 64 < 8 := by omega
            rw [l2.i (by unfold inO inP; omega), l2.i (by unfold inO inP; omega)]
            exact ⟨old.1, old.2.1, fun x y a b c d => by rw [l2.ai (by unfold inO inP; omega)]; exact old.2.2 x y a b c d⟩
      exact ⟨ω, rfl, (k2.tr l2').tr n2', oO, oQ.fr n2 (by unfold inU; omega), oV.fr oQ hn8 n2 (fun a ha => by unfold inC at ha; unfold inU; omega), (jTQ.fr l2 (by unfold inO inP; omega)).fr n2 (by unfold inU; omega), n3, n4, oOR.fr n2 (fun a h1 h2 => by unfold inU; omega), oCo.fr n2 (fun a h1 h2 => by unfold inU; omega), jsd, rqm.2.2.2.1 huB⟩
    · rw [if_neg (by simpa using hu)]
      obtain ⟨τ, k1, k2, k3, k4⟩ := s_noteFound hO.tc hTU hTF hm8 (show c < 8 by omega) (show r < 8 by omega) hu (D + 6)
      simp only [zlt_e, onR_s, nul_s, nul_n, chk_e, bnI_s, bnR_s, bnV_s, zi_si, zi_sr, zi_sl, zi_sa, zi_sq, zr_si, zr_sr, zr_sl, zr_sa, zr_sq, zl_si, zl_sr, zl_sl, zl_sa, zl_sq, zai_si, zai_sr, zai_sl, zai_sa, zai_sq, zar_si, zar_sr, zar_sl, zar_sa, zar_sq, zkd_si, zkd_sr, zkd_sl, zkd_sa, zkd_sq, zln_si, zln_sr, zln_sl, zln_sa, zln_sq, znx_si, znx_sr, znx_sl, znx_sa, znx_sq, hO.f.1, hO.f.2.2.2.2.2.2.1, hO.tc.1, if_true, k1]
      have k2' : zFr (inK o) σ τ := k2.mono (fun a ha => by unfold inU at ha; unfold inK; omega)
      rw [ereq, if_neg hu] at rqm ⊢
      refine ⟨τ, rfl, k2', hO.fr k2, hQ.fr k2 (by unfold inU; omega), hV.fr hQ hn8 k2 (fun a ha => by unfold inC at ha; unfold inU; omega), hTQ.fr k2 (by unfold inU; omega), k3, k4, hOR.fr k2 (fun a h1 h2 => by unfold inU; omega), (hCo.fr k2 (fun a h1 h2 => by unfold inU; omega)).mono (fun k hk h => ?_), hsd, rqm.2.2.2.1 huB⟩
      have h : stU s.1 (sN m c r) (tCk s.2 + 1) k ≠ 0 := h
      unfold stU at h
      by_cases e : k = sN m c r
      · rw [e]; exact hu
      · rw [if_neg e] at h; exact h
