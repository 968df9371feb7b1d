/-! pixel, prefetch -/
def aCac (A : zW) (s : zU) : zW := (aC A, (aHn A, aHk A), aS A, (aTn A, aTx A), s.1, s.2)
def LG (A : zW) : Prop := cnt (aU A) 512 ≤ tLm (aT A)
theorem div8 {w sd : Nat} (hw : w ≤ 16) (hs : 2 ≤ sd) : (w - 1) / sd < 8 := by
  have : (w - 1) / sd ≤ 15 / 2 := Nat.le_trans (Nat.div_le_div_right (by omega)) (Nat.div_le_div_left hs (by decide))
  omega
theorem pot_B {A : zW} {B : Nat} (hG : GA A B) : potU (aU A, aT A) ≤ B + 32768 := by
  have : tCk (aT A) ≤ B := hG.2.2.2.2.2.2.2.2
  show tCk (aT A) + 64 * (512 - cnt (aU A) 512) ≤ _
  omega
/-- a state behind requests is good -/
theorem GA.req {A : zW} {B n m : Nat} {s : zU} (hG : GA A B) (hn : n ≤ cN (aC A)) (hm : m ≤ 64) (h : RQ (aC A) (tSd (aT A)) n m (aU A, aT A) s) : GA (aCac A s) (B + 33000) := by
  obtain ⟨hC, hH, hS, hT, hs, hlm, hu, hv, hb⟩ := id hG
  have hp := pot_B hG
  obtain ⟨⟨g1, g2, g3⟩, g4, g5, g6, g7, g8, g9⟩ := h
  have g1 : tSd s.2 = tSd (aT A) := g1
  have g2 : tLm s.2 = tLm (aT A) := g2
  refine ⟨hC, hH, hS, hT, by show 2 ≤ tSd s.2 ∧ tSd s.2 ≤ 8; rw [g1]; exact hs, by show 1 ≤ tLm s.2 ∧ tLm s.2 ≤ 64; rw [g2]; exact hlm, g6 hu, fun k hk hz => ?_, ?_⟩
  · have hz : s.1 k ≠ 0 := hz
    show k / 64 < cN (aC A) ∧ cL (aC A) (k / 64) 5 = 1 ∧ k % 8 ≤ (cW (aC A) - 1) / tSd s.2 ∧ k / 8 % 8 ≤ (cH (aC A) - 1) / tSd s.2
    rw [g1]
    rcases g8 k hk hz with q | q
    · exact hv k hk q
    · refine ⟨?_, q⟩
      rcases Nat.lt_or_ge (k / 64) n with c | c
      · omega
      · have e : s.1 k = aU A k := g4 k hk c
        exact (hv k hk (by rw [← e]; exact hz)).1
  · show tCk s.2 ≤ B + 33000
    have : potU s ≤ potU (aU A, aT A) + m := g7
    have h2 : tCk s.2 ≤ potU s := Nat.le_add_right _ _
    omega
theorem CIx.req {σ τ : zS} {o : Nat} {A : zW} {q u P : Nat → Nat} {s : zU} {B : Nat} (hG : GA A B) (h : CIx σ o A q u P) (g : zFr (inK o) σ τ) (hR : RqI τ o q (aC A) (tSd (aT A)) s) : CIx τ o (aCac A s) q u P := by
  obtain ⟨_, ⟨r, hr⟩, hHQ, hHV, hS, hT⟩ := h
  refine ⟨?_, ⟨r, hr.fr g (by unfold inK; omega)⟩, hHQ.fr g (by unfold inK; omega), hHV.fr hHQ hG.2.1.1 (fun i hi => (hG.2.1.2 i hi).2.2.1) g (fun a ha => by unfold inH at ha; unfold inK; omega), hS.fr hG.2.2.1 g (by unfold inK; omega) (fun a ha => by unfold inK; omega), hT.fr g (by unfold inK; omega) (by unfold inK; omega)⟩
  have e := hR.2.2.2.2.2.2.2.2.1
  show RqI τ o q (aC A) (tSd s.2) (s.1, s.2)
  rw [e]
  exact hR
theorem s_cdrop {σ : zS} {o B : Nat} {A : zW} {q u P : Nat → Nat} (hG : GA A B) (hB : B < 2 ^ 30) (hI : CIx σ o A q u P) (d : Nat) : ∃ τ n, zEv (d + 2) mX9_dropSurplus [.inr (.inl (some (o + 230)))] σ = some (some (.inl (nI n)), τ) ∧ CIx τ o (aDrop A (aT A)) q u P ∧ zFr (inU (o + 230)) σ τ := by
  obtain ⟨hR, ⟨r, hr⟩, hHQ, hHV, hS, hT⟩ := hI
  have hO := hR.1
  have hn8 := hG.1.2.2.1
  have hck : tCk (aT A) ≤ B := hG.2.2.2.2.2.2.2.2
  have hl := hG.2.2.2.2.2.1
  obtain ⟨τ, h1, g, h3, h4⟩ := s_dropSurplus hO.tc hR.2.2.2.2.1 hR.2.2.2.2.2.1 hG.2.2.2.2.2.2.1 (by show tCk (aT A) < _; omega) (by show tLm (aT A) < 1000; omega) d
  exact ⟨τ, _, h1, ⟨⟨hO.fr g, hR.2.1.fr g (by unfold inU; omega), hR.2.2.1.fr hR.2.1 hn8 g (fun a ha => by unfold inC at ha; unfold inU; omega), hR.2.2.2.1.fr g (by unfold inU; omega), h3, h4, hR.2.2.2.2.2.2.1.fr g (fun a h1 h2 => by unfold inU; omega), (hR.2.2.2.2.2.2.2.1.fr g (fun a h1 h2 => by unfold inU; omega)).mono (fun j hj hz => drpU_nz 512 _ _ j hz), rfl, drpU_le 512 (aU A) (tCk (aT A)) _ hG.2.2.2.2.2.2.1⟩, ⟨r, hr.fr g (by unfold inU; omega)⟩, hHQ.fr g (by unfold inU; omega), hHV.fr hHQ hG.2.1.1 (fun i hi => (hG.2.1.2 i hi).2.2.1) g (fun a ha => by unfold inH at ha; unfold inU; omega), hS.fr hG.2.2.1 g (by unfold inU; omega) (fun a ha => by unfold inU; omega), hT.fr g (by unfold inU; omega) (by unfold inU; omega)⟩, g⟩
theorem GA.drop {A : zW} {B : Nat} (hG : GA A B) : GA (aDrop A (aT A)) B := by
  obtain ⟨hC, hH, hS, hT, hs, hlm, hu, hv, hb⟩ := hG
  exact ⟨hC, hH, hS, hT, hs, hlm, drpU_le 512 (aU A) (tCk (aT A)) _ hu, fun k hk hz => hv k hk (drpU_nz 512 _ _ k hz), hb⟩
def sPx (A : zW) (k i j : Nat) : zU := reqT (aC A) (tSd (aT A)) k (i / tSd (aT A)) (j / tSd (aT A)) (aU A, aT A)
def rPx (A : zW) (x i j : Int32) : Int32 := if (-1 ≤ x.toInt ∧ x.toInt < cN (aC A)) ∧ zin i (cW (aC A)) ∧ zin j (cH (aC A)) then iI (outI (aC A) (x.toInt + 1).toNat i.toNatClampNeg j.toNatClampNeg) else -1001
def tPx (A : zW) (x i j : Int32) : zW := if (-1 ≤ x.toInt ∧ x.toInt < cN (aC A)) ∧ zin i (cW (aC A)) ∧ zin j (cH (aC A)) then aDrop (aCac A (sPx A (x.toInt + 1).toNat i.toNatClampNeg j.toNatClampNeg)) (sPx A (x.toInt + 1).toNat i.toNatClampNeg j.toNatClampNeg).2 else A
theorem rq_sPx {A : zW} {B k i j : Nat} (hG : GA A B) (hk : k ≤ cN (aC A)) (hi : i < cW (aC A)) (hj : j < cH (aC A)) : RQ (aC A) (tSd (aT A)) k 1 (aU A, aT A) (sPx A k i j) := by
  have hs := hG.2.2.2.2.1
  have hn8 := hG.1.2.2.1
  exact rq_req (by omega) (div8 hG.1.1.2 hs.1) (div8 hG.1.2.1.2 hs.1) k (by omega) _ _ _ (Nat.div_le_div_right (by omega)) (Nat.div_le_div_right (by omega))
theorem GA.px {A : zW} {B : Nat} (hG : GA A B) (x i j : Int32) : GA (tPx A x i j) (B + 33000) := by
  unfold tPx
  split
  · next h =>
    obtain ⟨k, ex, hk, ek⟩ := hOut_n h.1
    rw [ek]
    exact (hG.req hk (show 1 ≤ 64 by decide) (rq_sPx hG hk (zin_n h.2.1).2 (zin_n h.2.2).2)).drop
  · obtain ⟨hC, hH, hS, hT, hs, hlm, hu, hv, hb⟩ := hG
    exact ⟨hC, hH, hS, hT, hs, hlm, hu, hv, by omega⟩
theorem c_pixel {σ : zS} {o B : Nat} {A : zW} {q u P : Nat → Nat} (hG : GA A B) (hB : B < 2 ^ 29) (hI : CIx σ o A q u P) (x i j : Int32) (d : Nat) : zOC o (zEv (d + 30) mX10_pixel [.inr (.inl (some o)), .inl x, .inl i, .inl j] σ) (rPx A x i j) (tPx A x i j) σ := by
  have hR := hI.1
  have hO := hR.1
  have hn8 := hG.1.2.2.1
  have hw := hG.1.1
  have hh := hG.1.2.1
  have hs := hG.2.2.2.2.1
  have key : ∀ r, zOC o (some (some (.inl r), σ)) r A σ := fun r => zOC.same hI r
  rw [vX10_pixel]
  unfold fX10_pixel rPx tPx
  simp only [zlt_e, onR_s, nul_s, nul_n, chk_e, bnI_s, bnR_s, bnV_s, zi_si, zi_sr, zi_sl, zi_sa, zi_sq, zr_si, zr_sr, zr_sl, zr_sa, zr_sq, zl_si, zl_sr, zl_sl, zl_sa, zl_sq, zai_si, zai_sr, zai_sl, zai_sa, zai_sq, zar_si, zar_sr, zar_sl, zar_sa, zar_sq, zkd_si, zkd_sr, zkd_sl, zkd_sa, zkd_sq, zln_si, zln_sr, zln_sl, zln_sa, zln_sq, znx_si, znx_sr, znx_sl, znx_sa, znx_sq, hO.f.1, hO.f.2.1, hO.c.1, hO.c.2.1, hO.c.2.2.2.1.1, if_true, s_hasOutput hG hI x (d + 27), s_contains hO.c.2.2.2.1 hR.2.2.1.1 hw.2 hh.2, zb_0]
  by_cases hx : -1 ≤ x.toInt ∧ x.toInt < cN (aC A)
  · rw [if_neg (fun q => q hx)]
    by_cases hij : zin i (cW (aC A)) ∧ zin j (cH (aC A))
    · have hc : (-1 ≤ x.toInt ∧ x.toInt < cN (aC A)) ∧ zin i (cW (aC A)) ∧ zin j (cH (aC A)) := ⟨hx, hij⟩
      rw [if_neg (fun q => q hij), if_pos hc, if_pos hc]
      obtain ⟨k, ex, hk, ek⟩ := hOut_n hx
      rw [ek]
      obtain ⟨ei, hi⟩ := zin_n hij.1
      obtain ⟨ej, hj⟩ := zin_n hij.2
      generalize i.toNatClampNeg = i' at *
      generalize j.toNatClampNeg = j' at *
      subst ei
      subst ej
      rw [ex]
      have hp := pot_B hG
      have hcx : i' / tSd (aT A) ≤ (cW (aC A) - 1) / tSd (aT A) := Nat.div_le_div_right (by omega)
      have hcy : j' / tSd (aT A) ≤ (cH (aC A) - 1) / tSd (aT A) := Nat.div_le_div_right (by omega)
      have d8x := div8 hw.2 hs.1
      have d8y := div8 hh.2 hs.1
      obtain ⟨τ, k1, k2, k3⟩ := s_request hG.1 (show 1 ≤ tSd (aT A) by omega) hs.2 d8x d8y k hk σ (aU A, aT A) (i' / tSd (aT A)) (j' / tSd (aT A)) (d + 29) hR hcx hcy (by omega) (by omega)
      have k3 : RqI τ o q (aC A) (tSd (aT A)) (sPx A k i' j') := k3
      have hI2 : CIx τ o (aCac A (sPx A k i' j')) q u P := hI.req hG k2 k3
      have hG2 := hG.req hk (show 1 ≤ 64 by decide) (rq_sPx hG hk hi hj)
      have jO := k3.1
      have eam := s_enabledAtMost jO.c k3.2.1 k3.2.2.1 hn8 hG.1.2.2.2.2 (d + 27) k hk
      have hb8 : onB (cL (aC A)) k ≤ 8 := Nat.le_trans (onB_le _ _) (by omega)
      have epic := s_pictureOf jO k3.2.2.2.1 hb8 (d + 27)
      obtain ⟨ω, n, n1, n2, n3⟩ := s_cdrop hG2 (by omega) hI2 (d + 27)
      have t1 := s_tileOf (x := i') hO.tc hR.2.2.2.2.2.1 (show 1 ≤ tSd (aT A) by omega) (show tSd (aT A) < 1000 by omega) (by omega) (d + 26)
      have t2 := s_tileOf (x := j') hO.tc hR.2.2.2.2.2.1 (show 1 ≤ tSd (aT A) by omega) (show tSd (aT A) < 1000 by omega) (by omega) (d + 26)
      -- the pixel, out of the picture that holds it
      have hval : ∃ p, (if onB (cL (aC A)) k = 0 then o + 2 else o + 230 + 3 + 2 * (onB (cL (aC A)) k - 1)) = p ∧ PicS τ p ∧ zai τ (p + 1) (16 * j' + i') = iI (outI (aC A) k i' j') := by
        cases hb : onB (cL (aC A)) k with
        | zero =>
          refine ⟨o + 2, if_pos rfl, jO.c.2.2.2.1, ?_⟩
          rw [outI_onB, hb]
          exact k3.2.2.1.1.2.2 i' j' hi hj
        | succ b =>
          have hbk : b < k := by have := onB_le (cL (aC A)) k; omega
          refine ⟨o + 230 + 3 + 2 * b, by rw [if_neg (by omega)]; rfl, jO.tc.2.2.2.2.2.2.2 b (by omega), ?_⟩
          have hin := req_in (C := aC A) (sd := tSd (aT A)) k (i' / tSd (aT A)) (j' / tSd (aT A)) (aU A, aT A) b hb
          have hd := sN_dec (l := b) (show i' / tSd (aT A) < 8 by omega) (show j' / tSd (aT A) < 8 by omega)
          have hco := k3.2.2.2.2.2.2.2.1 _ (sN_lt (show b < 8 by omega) (show i' / tSd (aT A) < 8 by omega) (show j' / tSd (aT A) < 8 by omega)) hin
          rw [hd.1, hd.2.1, hd.2.2] at hco
          rw [outI_onB, hb]
          exact hco.2.2 i' j' hi hj rfl rfl
      obtain ⟨p, ep, hpS, hpv⟩ := hval
      rw [ep] at epic
      simp only [zlt_e, onR_s, nul_s, nul_n, chk_e, bnI_s, bnR_s, bnV_s, zi_si, zi_sr, zi_sl, zi_sa, zi_sq, zr_si, zr_sr, zr_sl, zr_sa, zr_sq, zl_si, zl_sr, zl_sl, zl_sa, zl_sq, zai_si, zai_sr, zai_sl, zai_sa, zai_sq, zar_si, zar_sr, zar_sl, zar_sa, zar_sq, zkd_si, zkd_sr, zkd_sl, zkd_sa, zkd_sq, zln_si, zln_sr, zln_sl, zln_sa, zln_sq, znx_si, znx_sr, znx_sl, znx_sa, znx_sq, hO.f.1, hO.f.2.2.2.2.2.2.1, hO.tc.1, if_true, t1, t2, k1, jO.f.1, jO.f.2.1, jO.c.1, eam, epic, hpS.1, s_at hpS (show i' < 16 by omega) (show j' < 16 by omega), hpv, jO.f.2.2.2.2.2.2.1, jO.tc.1, n1]
      exact ⟨ω, q, u, P, rfl, n2, (k2.mono (fun a ha => by unfold inK at ha; omega)).tr (n3.mono (fun a ha => by unfold inU at ha; omega))⟩
    · rw [if_pos hij, if_neg (fun q => hij q.2), if_neg (fun q => hij q.2)]
      exact key _
  · rw [if_pos hx, if_neg (fun q => hx q.1), if_neg (fun q => hx q.1)]
    exact key _
/-- the tiles of a whole output are asked for -/
def sPre (A : zW) (k : Nat) : zU := itR (reqT (aC A) (tSd (aT A)) (k + 1)) 0 ((cW (aC A) - 1) / tSd (aT A)) 0 ((cH (aC A) - 1) / tSd (aT A)) (aU A, aT A)
def rPre (A : zW) (x : Int32) : Int32 := if zin x (cN (aC A)) then nI (tCp (sPre A x.toNatClampNeg).2) - nI (tCp (aT A)) else -1001
def tPre (A : zW) (x : Int32) : zW := if zin x (cN (aC A)) then aDrop (aCac A (sPre A x.toNatClampNeg)) (sPre A x.toNatClampNeg).2 else A
theorem rq_sPre {A : zW} {B k : Nat} (hG : GA A B) (hk : k < cN (aC A)) : RQ (aC A) (tSd (aT A)) (k + 1) 64 (aU A, aT A) (sPre A k) := by
  have hs := hG.2.2.2.2.1
  have hn8 := hG.1.2.2.1
  have d8x := div8 hG.1.1.2 hs.1
  have d8y := div8 hG.1.2.1.2 hs.1
  exact rq_itR _ d8x d8y (fun c r s hc hr => rq_req (by omega) d8x d8y (k + 1) (by omega) c r s hc hr)
theorem GA.pre {A : zW} {B : Nat} (hG : GA A B) (x : Int32) : GA (tPre A x) (B + 33000) := by
  unfold tPre
  split
  · next h =>
    have hk := (zin_n h).2
    exact (hG.req (show x.toNatClampNeg + 1 ≤ cN (aC A) by omega) (Nat.le_refl 64) (rq_sPre hG hk)).drop
  · obtain ⟨hC, hH, hS, hT, hs, hlm, hu, hv, hb⟩ := hG
    exact ⟨hC, hH, hS, hT, hs, hlm, hu, hv, by omega⟩
/-- what has been asked for before the place (i, j) -/
def stP (A : zW) (k j i : Nat) : zU := itC (fun i s => reqT (aC A) (tSd (aT A)) (k + 1) (0 + i) (0 + j) s) i (itC (fun j s => itC (fun i s => reqT (aC A) (tSd (aT A)) (k + 1) (0 + i) (0 + j) s) ((cW (aC A) - 1) / tSd (aT A) + 1 - 0) s) j (aU A, aT A))
theorem rq_stP {A : zW} {B k j i : Nat} (hG : GA A B) (hk : k < cN (aC A)) (hj : j ≤ (cH (aC A) - 1) / tSd (aT A) + 1) (hi : i ≤ (cW (aC A) - 1) / tSd (aT A) + 1) (hji : j < (cH (aC A) - 1) / tSd (aT A) + 1 ∨ i = 0) : RQ (aC A) (tSd (aT A)) (k + 1) 64 (aU A, aT A) (stP A k j i) := by
  have hs := hG.2.2.2.2.1
  have hn8 := hG.1.2.2.1
  have d8x := div8 hG.1.1.2 hs.1
  have d8y := div8 hG.1.2.1.2 hs.1
  have rq1 : ∀ c r s, c ≤ (cW (aC A) - 1) / tSd (aT A) → r ≤ (cH (aC A) - 1) / tSd (aT A) → RQ (aC A) (tSd (aT A)) (k + 1) 1 s (reqT (aC A) (tSd (aT A)) (k + 1) c r s) := fun c r s hc hr => rq_req (by omega) d8x d8y (k + 1) (by omega) c r s hc hr
  have o1 : RQ (aC A) (tSd (aT A)) (k + 1) (j * 8) (aU A, aT A) (itC (fun j s => itC (fun i s => reqT (aC A) (tSd (aT A)) (k + 1) (0 + i) (0 + j) s) ((cW (aC A) - 1) / tSd (aT A) + 1 - 0) s) j (aU A, aT A)) := rq_itC j _ (fun j' s' hj' => itC_R s' (fun i s hi => rq1 _ _ _ (by omega) (by omega)) (by omega))
  have o2 : RQ (aC A) (tSd (aT A)) (k + 1) (i * 1) (itC (fun j s => itC (fun i s => reqT (aC A) (tSd (aT A)) (k + 1) (0 + i) (0 + j) s) ((cW (aC A) - 1) / tSd (aT A) + 1 - 0) s) j (aU A, aT A)) (stP A k j i) := rq_itC i _ (fun i' s' hi' => rq1 _ _ _ (by omega) (by omega))
  exact (o1.tr o2).mono (Nat.le_refl _) (by omega)
theorem c_prefetch {σ : zS} {o B : Nat} {A : zW} {q u P : Nat → Nat} (hG : GA A B) (hB : B < 2 ^ 29) (hI : CIx σ o A q u P) (x : Int32) (d : Nat) : zOC o (zEv (d + 30) mX10_prefetch [.inr (.inl (some o)), .inl x] σ) (rPre A x) (tPre A x) σ := by
  have hR := hI.1
  have hO := hR.1
  have hn8 := hG.1.2.2.1
  have hw := hG.1.1
  have hh := hG.1.2.1
  have hs := hG.2.2.2.2.1
  rw [vX10_prefetch]
  unfold fX10_prefetch rPre tPre
  simp only [zlt_e, onR_s, nul_s, nul_n, chk_e, bnI_s, bnR_s, bnV_s, zi_si, zi_sr, zi_sl, zi_sa, zi_sq, zr_si, zr_sr, zr_sl, zr_sa, zr_sq, zl_si, zl_sr, zl_sl, zl_sa, zl_sq, zai_si, zai_sr, zai_sl, zai_sa, zai_sq, zar_si, zar_sr, zar_sl, zar_sa, zar_sq, zkd_si, zkd_sr, zkd_sl, zkd_sa, zkd_sq, zln_si, zln_sr, zln_sl, zln_sa, zln_sq, znx_si, znx_sr, znx_sl, znx_sa, znx_sq, hO.f.1, hO.f.2.1, hO.c.1, if_true]
  by_cases hx : zin x (cN (aC A))
  · obtain ⟨ex, hk⟩ := zin_n hx
    generalize x.toNatClampNeg = k at *
    subst ex
    rw [if_pos hx, if_pos hx]
    have hp := pot_B hG
    have d8x := div8 hw.2 hs.1
    have d8y := div8 hh.2 hs.1
    have ek : iI (((k + 1 : Nat) : Int) - 1) = nI k := by rw [i_nI]; congr 1; omega
    have v454 : zi σ 454 (o + 230) = nI (tCp (aT A)) := hR.2.2.2.2.2.1.2.2.2.1
    simp only [zlt_e, onR_s, nul_s, nul_n, chk_e, bnI_s, bnR_s, bnV_s, zi_si, zi_sr, zi_sl, zi_sa, zi_sq, zr_si, zr_sr, zr_sl, zr_sa, zr_sq, zl_si, zl_sr, zl_sl, zl_sa, zl_sq, zai_si, zai_sr, zai_sl, zai_sa, zai_sq, zar_si, zar_sr, zar_sl, zar_sa, zar_sq, zkd_si, zkd_sr, zkd_sl, zkd_sa, zkd_sq, zln_si, zln_sr, zln_sl, zln_sa, zln_sq, znx_si, znx_sr, znx_sl, znx_sa, znx_sq, s_layerAt hO.c hR.2.1 hR.2.2.1.2.1 hn8 hk, hO.f.1, hO.f.2.2.2.2.2.2.1, hO.tc.1, if_true, v454]
    obtain ⟨⟨υ, zz⟩, h1, h2⟩ := grid (fun j (s : zS × zV) => LX10_prefetch_25 (zEv (d + 29)) o (nI k) (nI (tCp (aT A))) (nI j) s.2 s.1) (fun j i s => LX10_prefetch_36 (zEv (d + 29)) o (nI k) (nI (tCp (aT A))) (nI j) (nI i) s.1)
      (fun j i s => zFr (inK o) σ s.1 ∧ RqI s.1 o q (aC A) (tSd (aT A)) (stP A k j i)) ((cW (aC A) - 1) / tSd (aT A) + 1) ((cH (aC A) - 1) / tSd (aT A) + 1) (fun s => LX10_prefetch_25 (zEv (d + 29)) o (nI k) (nI (tCp (aT A))) (nI ((cH (aC A) - 1) / tSd (aT A) + 1)) s.2 s.1) (σ, .inr (.inr none)) ⟨zFr.rf σ, hR⟩
      (fun j s hj hIj => ⟨s, by
        obtain ⟨g, gR⟩ := hIj
        have hI' := hI.req hG g gR
        have hG' := hG.req (show k + 1 ≤ cN (aC A) by omega) (Nat.le_refl 64) (rq_stP hG hk (show j ≤ _ by omega) (Nat.zero_le _) (Or.inl hj))
        have er := s_tileRows hG' hI' (d + 25)
        have e : tSd (aT (aCac A (stP A k j 0))) = tSd (aT A) := gR.2.2.2.2.2.2.2.2.1
        rw [e] at er
        have er : zEv (d + 29) mX10_tileRows [.inr (.inl (some o))] s.1 = some (some (.inl (nI ((cH (aC A) - 1) / tSd (aT A) + 1))), s.1) := er
        show LX10_prefetch_25 _ _ _ _ _ _ _ = LX10_prefetch_36 _ _ _ _ _ _ _
        rw [uX10_prefetch_25]
        simp only [zlt_e, onR_s, nul_s, nul_n, chk_e, bnI_s, bnR_s, bnV_s, zi_si, zi_sr, zi_sl, zi_sa, zi_sq, zr_si, zr_sr, zr_sl, zr_sa, zr_sq, zl_si, zl_sr, zl_sl, zl_sa, zl_sq, zai_si, zai_sr, zai_sl, zai_sa, zai_sq, zar_si, zar_sr, zar_sl, zar_sa, zar_sq, zkd_si, zkd_sr, zkd_sl, zkd_sa, zkd_sq, zln_si, zln_sr, zln_sl, zln_sa, zln_sq, znx_si, znx_sr, znx_sl, znx_sa, znx_sq, gR.1.f.1, if_true, er, n_lt (show j < 2 ^ 31 by omega) (show (cH (aC A) - 1) / tSd (aT A) + 1 < 2 ^ 31 by omega), hj]
        rfl, hIj⟩)
      (fun j i s hj hi hIj => by
        obtain ⟨g, gR⟩ := hIj
        have hI' := hI.req hG g gR
        have rq := rq_stP hG hk (show j ≤ _ by omega) (show i ≤ _ by omega) (Or.inl hj)
        have hG' := hG.req (show k + 1 ≤ cN (aC A) by omega) (Nat.le_refl 64) rq
        have ec := s_tileColumns hG' hI' (d + 25)
        have e : tSd (aT (aCac A (stP A k j i))) = tSd (aT A) := gR.2.2.2.2.2.2.2.2.1
        rw [e] at ec
        have ec : zEv (d + 29) mX10_tileColumns [.inr (.inl (some o))] s.1 = some (some (.inl (nI ((cW (aC A) - 1) / tSd (aT A) + 1))), s.1) := ec
        have rp := rq.2.2.2.2.1
        obtain ⟨τ, k1, k2, k3⟩ := s_request hG.1 (show 1 ≤ tSd (aT A) by omega) hs.2 d8x d8y (k + 1) (by omega) s.1 (stP A k j i) i j (d + 29) gR (by omega) (by omega) (by omega) (by omega)
        rw [ek] at k1
        refine ⟨(τ, s.2), ?_, g.tr k2, ?_⟩
        · show LX10_prefetch_36 _ _ _ _ _ _ _ = LX10_prefetch_36 _ _ _ _ _ _ _
          rw [uX10_prefetch_36]
          simp only [zlt_e, onR_s, nul_s, nul_n, chk_e, bnI_s, bnR_s, bnV_s, zi_si, zi_sr, zi_sl, zi_sa, zi_sq, zr_si, zr_sr, zr_sl, zr_sa, zr_sq, zl_si, zl_sr, zl_sl, zl_sa, zl_sq, zai_si, zai_sr, zai_sl, zai_sa, zai_sq, zar_si, zar_sr, zar_sl, zar_sa, zar_sq, zkd_si, zkd_sr, zkd_sl, zkd_sa, zkd_sq, zln_si, zln_sr, zln_sl, zln_sa, zln_sq, znx_si, znx_sr, znx_sl, znx_sa, znx_sq, gR.1.f.1, if_true, ec, n_lt (show i < 2 ^ 31 by omega) (show (cW (aC A) - 1) / tSd (aT A) + 1 < 2 ^ 31 by omega), hi, k1, nI_1]
        · have e : stP A k j (i + 1) = reqT (aC A) (tSd (aT A)) (k + 1) i j (stP A k j i) := by
            show reqT (aC A) (tSd (aT A)) (k + 1) (0 + i) (0 + j) (stP A k j i) = _
            rw [Nat.zero_add, Nat.zero_add]
          rw [e]
          exact k3)
      (fun j s hj hIj => ⟨(s.1, .inl (nI ((cW (aC A) - 1) / tSd (aT A) + 1))), by
        obtain ⟨g, gR⟩ := hIj
        have hI' := hI.req hG g gR
        have hG' := hG.req (show k + 1 ≤ cN (aC A) by omega) (Nat.le_refl 64) (rq_stP hG hk (show j ≤ _ by omega) (Nat.le_refl _) (Or.inl hj))
        have ec := s_tileColumns hG' hI' (d + 25)
        have e : tSd (aT (aCac A (stP A k j ((cW (aC A) - 1) / tSd (aT A) + 1)))) = tSd (aT A) := gR.2.2.2.2.2.2.2.2.1
        rw [e] at ec
        have ec : zEv (d + 29) mX10_tileColumns [.inr (.inl (some o))] s.1 = some (some (.inl (nI ((cW (aC A) - 1) / tSd (aT A) + 1))), s.1) := ec
        show LX10_prefetch_36 _ _ _ _ _ _ _ = LX10_prefetch_25 _ _ _ _ _ _ _
        rw [uX10_prefetch_36]
        simp only [zlt_e, onR_s, nul_s, nul_n, chk_e, bnI_s, bnR_s, bnV_s, zi_si, zi_sr, zi_sl, zi_sa, zi_sq, zr_si, zr_sr, zr_sl, zr_sa, zr_sq, zl_si, zl_sr, zl_sl, zl_sa, zl_sq, zai_si, zai_sr, zai_sl, zai_sa, zai_sq, zar_si, zar_sr, zar_sl, zar_sa, zar_sq, zkd_si, zkd_sr, zkd_sl, zkd_sa, zkd_sq, zln_si, zln_sr, zln_sl, zln_sa, zln_sq, znx_si, znx_sr, znx_sl, znx_sa, znx_sq, gR.1.f.1, if_true, ec, n_lt (show (cW (aC A) - 1) / tSd (aT A) + 1 < 2 ^ 31 by omega) (show (cW (aC A) - 1) / tSd (aT A) + 1 < 2 ^ 31 by omega), Nat.lt_irrefl, if_false, nI_1], hIj⟩)
      (fun s hIj => rfl)
    have h1 : LX10_prefetch_25 (zEv (d + 29)) o (nI k) (nI (tCp (aT A))) 0 (.inr (.inr none)) σ = _ := h1
    obtain ⟨g, gR⟩ := h2
    have gR : RqI υ o q (aC A) (tSd (aT A)) (sPre A k) := gR
    have hI' := hI.req hG g gR
    have hG' := hG.req (show k + 1 ≤ cN (aC A) by omega) (Nat.le_refl 64) (rq_sPre hG hk)
    have er := s_tileRows hG' hI' (d + 25)
    have e : tSd (aT (aCac A (sPre A k))) = tSd (aT A) := gR.2.2.2.2.2.2.2.2.1
    rw [e] at er
    have er : zEv (d + 29) mX10_tileRows [.inr (.inl (some o))] υ = some (some (.inl (nI ((cH (aC A) - 1) / tSd (aT A) + 1))), υ) := er
    obtain ⟨ω, n, n1, n2, n3⟩ := s_cdrop hG' (by omega) hI' (d + 27)
    have vω : zi ω 454 (o + 230) = nI (tCp (sPre A k).2) := n2.1.2.2.2.2.2.1.2.2.2.1
    have hOω := n2.1.1
    rw [h1, uX10_prefetch_25]
    simp only [zlt_e, onR_s, nul_s, nul_n, chk_e, bnI_s, bnR_s, bnV_s, zi_si, zi_sr, zi_sl, zi_sa, zi_sq, zr_si, zr_sr, zr_sl, zr_sa, zr_sq, zl_si, zl_sr, zl_sl, zl_sa, zl_sq, zai_si, zai_sr, zai_sl, zai_sa, zai_sq, zar_si, zar_sr, zar_sl, zar_sa, zar_sq, zkd_si, zkd_sr, zkd_sl, zkd_sa, zkd_sq, zln_si, zln_sr, zln_sl, zln_sa, zln_sq, znx_si, znx_sr, znx_sl, znx_sa, znx_sq, gR.1.f.1, gR.1.f.2.2.2.2.2.2.1, gR.1.tc.1, if_true, er, n_lt (show (cH (aC A) - 1) / tSd (aT A) + 1 < 2 ^ 31 by omega) (show (cH (aC A) - 1) / tSd (aT A) + 1 < 2 ^ 31 by omega), Nat.lt_irrefl, if_false, n1, hOω.f.1, hOω.f.2.2.2.2.2.2.1, hOω.tc.1, vω]
    exact ⟨ω, q, u, P, rfl, n2, (g.mono (fun a ha => by unfold inK at ha; omega)).tr (n3.mono (fun a ha => by unfold inU at ha; omega))⟩
  · rw [if_neg hx, if_neg hx]
    simp only [zlt_e, onR_s, nul_s, nul_n, chk_e, bnI_s, bnR_s, bnV_s, zi_si, zi_sr, zi_sl, zi_sa, zi_sq, zr_si, zr_sr, zr_sl, zr_sa, zr_sq, zl_si, zl_sr, zl_sl, zl_sa, zl_sq, zai_si, zai_sr, zai_sl, zai_sa, zai_sq, zar_si, zar_sr, zar_sl, zar_sa, zar_sq, zkd_si, zkd_sr, zkd_sl, zkd_sa, zkd_sq, zln_si, zln_sr, zln_sl, zln_sa, zln_sq, znx_si, znx_sr, znx_sl, znx_sa, znx_sq, s_layerNo hO.c hR.2.2.1.2.1 hn8 hx]
    exact zOC.same hI _
