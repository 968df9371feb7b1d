/-! requests: the reference's loop is reqT -/
noncomputable abbrev L21 (d m : Nat) (z1 z2 z3 z : zV) (σ : zS) : zO := LX11_request_21 (zEv (d + 9)) m z1 z2 z3 z σ
theorem fz {f : Nat} (hf : f < 9) : zin (nI f) 9 = True := eq_true ((n_zin (by omega)).mpr hf)
theorem l21_head {σ : zS} {m f : Nat} (hM : MS σ m) (hd : zi σ 598 m = nI (f + 1)) (hf : f < 9) : ¬ (zi σ 598 m ≤ 0) ∧ zi σ 598 m - 1 = nI f := by
  rw [hd]
  have : (nI (f + 1) ≤ (0 : Int32)) ↔ f + 1 ≤ 0 := n_le (by omega) (by decide)
  exact ⟨by rw [this]; omega, nI_m f⟩
/-- one turn over a frame that is begun -/
theorem l21_on {σ : zS} {m f : Nat} (hM : MS σ m) (hd : zi σ 598 m = nI (f + 1)) (hf : f < 9) (hb : zai σ (m + 16) f = 1) (z1 z2 z3 z : zV) (d : Nat) : L21 d m z1 z2 z3 z σ = bnV (LX11_goOn_14 (zEv (d + 8)) m (nI f) σ) (fun s => L21 d m z1 z2 z3 (.inl (nI f)) s) := by
  obtain ⟨h1, h2⟩ := l21_head hM hd hf
  show LX11_request_21 _ _ _ _ _ _ _ = _
  rw [uX11_request_21]
  have e1 : ¬ ((1 : Int32) = 0) := by decide
  have eg : zEv (d + 9) mX11_goOn [.inr (.inl (some m)), .inl (nI f)] σ = LX11_goOn_14 (zEv (d + 8)) m (nI f) σ := by
    rw [vX11_goOn]
    unfold fX11_goOn
    simp only [chk_e, onR_s, hM.k, hM.ib.1, hM.ib.2.1, hM.ib.2.2, fz hf, n_tn (show f < 2 ^ 31 by omega), and_self, if_true, hb, e1, if_false]
  simp only [chk_e, zlt_e, onR_s, hM.k, hM.ib.1, hM.ib.2.1, hM.ib.2.2, if_true, h1, if_false, h2, fz hf, n_tn (show f < 2 ^ 31 by omega), and_self, hb, e1, eg]
/-- one turn over a fresh frame whose tile is not there -/
theorem l21_new {σ : zS} {m l c r f sd : Nat} {C : zC} {s : zU} (h : RQM σ m C sd s) (G : GC C) (hl : l < cN C) (hf : f < 9) (hs : 1 ≤ sd) (hs2 : sd ≤ 8) (hc : c < 8) (hr : r < 8) (hd : zi σ 598 m = nI (f + 1)) (hL : zai σ (m + 8) f = nI l) (hT : zai σ (m + 9) f = nI (8 * r + c)) (hb : zai σ (m + 16) f = 0) (hu : s.1 (sN l c r) = 0) (z1 z2 z3 z : zV) (d : Nat) : L21 d m z1 z2 z3 z σ = bnV (LX11_goOn_14 (zEv (d + 8)) m (nI f) (begS σ m f (iI ((onB (cL C) l : Nat) - 1)) (tlo sd c (rch (cL C l))) (thi sd c (rch (cL C l)) (cW C)) (tlo sd r (rch (cL C l))) (thi sd r (rch (cL C l)) (cH C)))) (fun s => L21 d m z1 z2 z3 (.inl (nI f)) s) := by
  have hM := h.1
  have hU := h.2.2.2.1
  have hn8 := G.2.2.1
  obtain ⟨h1, h2⟩ := l21_head hM hd hf
  have hk : sN l c r < 512 := sN_lt (by omega) hc hr
  have eb := s_begin h G hl hf hs hs2 hc hr hL hT (d + 4)
  show LX11_request_21 _ _ _ _ _ _ _ = _
  rw [uX11_request_21]
  have ei : (64 : Int32) * nI l + nI (8 * r + c) = nI (sN l c r) := by
    rw [nL 64, pk_mul, nI_add]
    unfold sN
    congr 1
    omega
  have ev : zai σ (m + 6) (sN l c r) = 0 := by rw [hU _ hk, hu]; rfl
  have e0 : (0 : Int32) ≤ 0 := by decide
  have eg : zEv (d + 9) mX11_goOn [.inr (.inl (some m)), .inl (nI f)] σ = LX11_goOn_14 (zEv (d + 8)) m (nI f) (begS σ m f (iI ((onB (cL C) l : Nat) - 1)) (tlo sd c (rch (cL C l))) (thi sd c (rch (cL C l)) (cW C)) (tlo sd r (rch (cL C l))) (thi sd r (rch (cL C l)) (cH C))) := by
    rw [vX11_goOn]
    unfold fX11_goOn
    simp only [chk_e, onR_s, bnV_s, hM.k, hM.ib.1, hM.ib.2.1, hM.ib.2.2, fz hf, n_tn (show f < 2 ^ 31 by omega), and_self, if_true, hb, eb]
  simp only [chk_e, zlt_e, onR_s, hM.k, hM.ib.1, hM.ib.2.1, hM.ib.2.2, hM.fl.1, hM.fl.2.1, hM.fl.2.2, hM.ft.1, hM.ft.2.1, hM.ft.2.2, hM.u.1, hM.u.2.1, hM.u.2.2, if_true, h1, if_false, h2, fz hf, n_tn (show f < 2 ^ 31 by omega), and_self, hb, hL, hT, ei, n_zin (show sN l c r < 2 ^ 31 by omega), n_tn (show sN l c r < 2 ^ 31 by omega), hk, ev, e0, eg]
theorem useS.fr {P : Nat → Prop} (σ : zS) {m k t : Nat} (h1 : P m) (h2 : P (m + 6)) : zFr P σ (useS σ m k t) := by
  unfold useS
  exact (zFr.si σ h1).tr (zFr.sa _ h2)
/-- one turn over a fresh frame whose tile is there -/
theorem l21_fnd {σ : zS} {m l c r f sd : Nat} {C : zC} {s : zU} (h : RQM σ m C sd s) (hl : l < 8) (hf : f < 9) (hc : c < 8) (hr : r < 8) (hd : zi σ 598 m = nI (f + 1)) (hL : zai σ (m + 8) f = nI l) (hT : zai σ (m + 9) f = nI (8 * r + c)) (hb : zai σ (m + 16) f = 0) (hu : s.1 (sN l c r) ≠ 0) (hB : ∀ k, k < 512 → s.1 k < 2 ^ 31) (z1 z2 z3 z : zV) (d : Nat) : ∃ τ, L21 d m z1 z2 z3 z σ = L21 d m z1 z2 z3 (.inl (nI f)) τ ∧ KQ m f σ τ ∧ RQM τ m C sd (stU s.1 (sN l c r) (tCk s.2 + 1), tFo s.2) ∧ zi τ 598 m = nI f := by
  obtain ⟨hM, hV, vs, hU, h2, h3, h4⟩ := h
  obtain ⟨e1, e2⟩ := l21_head hM hd hf
  have hk : sN l c r < 512 := sN_lt hl hc hr
  have ek : 64 * l + (8 * r + c) = sN l c r := by unfold sN; omega
  have ei : (64 : Int32) * nI l + nI (8 * r + c) = nI (sN l c r) := by
    rw [nL 64, pk_mul, nI_add, ek]
  have ev : zai σ (m + 6) (sN l c r) = nI (s.1 (sN l c r)) := hU _ hk
  have hle : ¬ (nI (s.1 (sN l c r)) ≤ 0) := by
    have : (nI (s.1 (sN l c r)) ≤ (0 : Int32)) ↔ s.1 (sN l c r) ≤ 0 := n_le (hB _ hk) (by decide)
    rw [this]; omega
  have t1 : (1 : Int32).toNatClampNeg = 1 := rfl
  have z1' : zin 1 3 = True := eq_true (by decide)
  have g1 : zFr (fun x => x = m + 7) σ (zsa σ (m + 7) 1 (nI (tFd s.2 + 1))) := zFr.sa σ rfl
  have eu := s_mUse (l := l) (y := 8 * r + c) (t := tCk s.2) (hM.fr g1) h2 (by omega) (d + 8)
  rw [ek] at eu
  have n8 : (m + 8 = m + 7) = False := eq_false (by omega)
  have n9 : (m + 9 = m + 7) = False := eq_false (by omega)
  refine ⟨zsi (useS (zsa σ (m + 7) 1 (nI (tFd s.2 + 1))) m (sN l c r) (tCk s.2)) 598 m (nI f), ?_, ⟨?_, fun g a b => ?_, ?_, fun a ha p hp => ?_⟩, ?_, by rw [zi_si, if_pos ⟨rfl, rfl⟩]⟩
  · show LX11_request_21 _ _ _ _ _ _ _ = _
    rw [uX11_request_21]
    have ed : zi (useS (zsa σ (m + 7) 1 (nI (tFd s.2 + 1))) m (sN l c r) (tCk s.2)) 598 m - 1 = nI f := by
      show zi (zsi σ 587 m (nI (tCk s.2 + 1))) 598 m - 1 = _
      rw [zi_si, if_neg (by omega)]
      exact e2
    have ku : zkd (useS (zsa σ (m + 7) 1 (nI (tFd s.2 + 1))) m (sN l c r) (tCk s.2)) m = 9 := hM.k
    simp only [zlt_e, onR_s, nul_s, nul_n, chk_e, bnI_s, bnR_s, bnV_s, zi_si, zi_sr, zi_sl, zi_sa, zi_sq, zr_si, zr_sr, zr_sl, zr_sa, zr_sq, zl_si, zl_sr, zl_sl, zl_sa, zl_sq, zai_si, zai_sr, zai_sl, zai_sa, zai_sq, zar_si, zar_sr, zar_sl, zar_sa, zar_sq, zkd_si, zkd_sr, zkd_sl, zkd_sa, zkd_sq, zln_si, zln_sr, zln_sl, zln_sa, zln_sq, znx_si, znx_sr, znx_sl, znx_sa, znx_sq, hM.k, hM.ib.1, hM.ib.2.1, hM.ib.2.2, hM.fl.1, hM.fl.2.1, hM.fl.2.2, hM.ft.1, hM.ft.2.1, hM.ft.2.2, hM.u.1, hM.u.2.1, hM.u.2.2, hM.ct.1, hM.ct.2.1, hM.ct.2.2, if_true, e1, if_false, e2, fz hf, n_tn (show f < 2 ^ 31 by omega), and_self, hb, hL, hT, ei, n_zin (show sN l c r < 2 ^ 31 by omega), n_tn (show sN l c r < 2 ^ 31 by omega), hk, ev, hle, z1', t1, h4, nI_1, n8, n9, false_and, eu, ku, ed]
  · exact ((g1.mono (fun a ha => by unfold inQ; omega)).tr (useS.fr _ (Or.inl rfl) (by unfold inQ; omega))).tr (zFr.si _ (Or.inl rfl))
  · rw [zi_si, if_neg (by omega)]
    show zi (zsi σ 587 m (nI (tCk s.2 + 1))) g m = _
    rw [zi_si, if_neg (by omega)]
  · show zai (zsa (zsa σ (m + 7) 1 _) (m + 6) (sN l c r) _) (m + 7) 2 = _
    rw [zai_sa, if_neg (by omega), zai_sa, if_neg (by omega)]
  · unfold inF at ha
    show zai (zsa (zsa σ (m + 7) 1 _) (m + 6) (sN l c r) _) a p = _
    rw [zai_sa, if_neg (by omega), zai_sa, if_neg (by omega)]
  · have gall : zFr (fun x => x = m ∨ x = m + 6 ∨ x = m + 7) σ (zsi (useS (zsa σ (m + 7) 1 (nI (tFd s.2 + 1))) m (sN l c r) (tCk s.2)) 598 m (nI f)) := ((g1.mono (fun a ha => by omega)).tr (useS.fr _ (Or.inl rfl) (by omega))).tr (zFr.si _ (Or.inl rfl))
    refine ⟨hM.fr gall, hV.fr gall (by omega), ?_, fun k hk2 => ?_, ?_, ?_, ?_⟩
    · rw [zi_si, if_neg (by omega)]
      show zi (zsi σ 587 m (nI (tCk s.2 + 1))) 584 m = _
      rw [zi_si, if_neg (by omega)]; exact vs
    · show zai (zsa (zsa σ (m + 7) 1 _) (m + 6) (sN l c r) _) (m + 6) k = nI (stU s.1 (sN l c r) (tCk s.2 + 1) k)
      rw [zai_sa]
      unfold stU
      by_cases e : k = sN l c r
      · rw [if_pos ⟨rfl, e⟩, if_pos e]
      · rw [if_neg (by omega), if_neg e, zai_sa, if_neg (by omega)]; exact hU k hk2
    · rw [zi_si, if_neg (by omega)]
      show zi (zsi σ 587 m (nI (tCk s.2 + 1))) 587 m = _
      rw [zi_si, if_pos ⟨rfl, rfl⟩]; rfl
    · show zai (zsa (zsa σ (m + 7) 1 _) (m + 6) (sN l c r) _) (m + 7) 0 = _
      rw [zai_sa, if_neg (by omega), zai_sa, if_neg (by omega)]; exact h3
    · show zai (zsa (zsa σ (m + 7) 1 _) (m + 6) (sN l c r) _) (m + 7) 1 = _
      rw [zai_sa, if_neg (by omega), zai_sa, if_pos ⟨rfl, rfl⟩]; rfl
/-- the end of a frame: its tile is computed -/
theorem l21_end {σ : zS} {m l c r f sd : Nat} {C : zC} {s : zU} (h : RQM σ m C sd s) (hl : l < 8) (hf : f < 9) (hc : c < 8) (hr : r < 8) (hd : zi σ 598 m = nI (f + 1)) (hL : zai σ (m + 8) f = nI l) (hT : zai σ (m + 9) f = nI (8 * r + c)) (d : Nat) : ∃ τ, LX11_goOn_38 (zEv (d + 8)) m (nI f) σ = some (none, τ) ∧ KQ m f σ τ ∧ RQM τ m C sd (stU s.1 (sN l c r) (tCk s.2 + 1), tCo s.2) ∧ zi τ 598 m = nI f := by
  obtain ⟨hM, hV, vs, hU, h2, h3, h4⟩ := h
  obtain ⟨e1, e2⟩ := l21_head hM hd hf
  have hk : sN l c r < 512 := sN_lt hl hc hr
  have ek : 64 * l + (8 * r + c) = sN l c r := by unfold sN; omega
  have t0 : (0 : Int32).toNatClampNeg = 0 := rfl
  have z0' : zin 0 3 = True := eq_true (by decide)
  have g1 : zFr (fun x => x = m + 7) σ (zsa σ (m + 7) 0 (nI (tCp s.2 + 1))) := zFr.sa σ rfl
  have eu := s_mUse (l := l) (y := 8 * r + c) (t := tCk s.2) (hM.fr g1) h2 (by omega) (d + 7)
  rw [ek] at eu
  have n8 : (m + 8 = m + 7) = False := eq_false (by omega)
  have n9 : (m + 9 = m + 7) = False := eq_false (by omega)
  refine ⟨zsi (useS (zsa σ (m + 7) 0 (nI (tCp s.2 + 1))) m (sN l c r) (tCk s.2)) 598 m (nI f), ?_, ⟨?_, fun g a b => ?_, ?_, fun a ha p hp => ?_⟩, ?_, by rw [zi_si, if_pos ⟨rfl, rfl⟩]⟩
  · rw [uX11_goOn_38]
    have ed : zi (useS (zsa σ (m + 7) 0 (nI (tCp s.2 + 1))) m (sN l c r) (tCk s.2)) 598 m - 1 = nI f := by
      show zi (zsi σ 587 m (nI (tCk s.2 + 1))) 598 m - 1 = _
      rw [zi_si, if_neg (by omega)]
      exact e2
    have ku : zkd (useS (zsa σ (m + 7) 0 (nI (tCp s.2 + 1))) m (sN l c r) (tCk s.2)) m = 9 := hM.k
    simp only [zlt_e, onR_s, nul_s, nul_n, chk_e, bnI_s, bnR_s, bnV_s, zi_si, zi_sr, zi_sl, zi_sa, zi_sq, zr_si, zr_sr, zr_sl, zr_sa, zr_sq, zl_si, zl_sr, zl_sl, zl_sa, zl_sq, zai_si, zai_sr, zai_sl, zai_sa, zai_sq, zar_si, zar_sr, zar_sl, zar_sa, zar_sq, zkd_si, zkd_sr, zkd_sl, zkd_sa, zkd_sq, zln_si, zln_sr, zln_sl, zln_sa, zln_sq, znx_si, znx_sr, znx_sl, znx_sa, znx_sq, hM.k, hM.fl.1, hM.fl.2.1, hM.fl.2.2, hM.ft.1, hM.ft.2.1, hM.ft.2.2, hM.ct.1, hM.ct.2.1, hM.ct.2.2, if_true, fz hf, n_tn (show f < 2 ^ 31 by omega), and_self, hL, hT, z0', t0, h3, nI_1, n8, n9, false_and, if_false, eu, ku, ed]
  · exact ((g1.mono (fun a ha => by unfold inQ; omega)).tr (useS.fr _ (Or.inl rfl) (by unfold inQ; omega))).tr (zFr.si _ (Or.inl rfl))
  · rw [zi_si, if_neg (by omega)]
    show zi (zsi σ 587 m (nI (tCk s.2 + 1))) g m = _
    rw [zi_si, if_neg (by omega)]
  · show zai (zsa (zsa σ (m + 7) 0 _) (m + 6) (sN l c r) _) (m + 7) 2 = _
    rw [zai_sa, if_neg (by omega), zai_sa, if_neg (by omega)]
  · unfold inF at ha
    show zai (zsa (zsa σ (m + 7) 0 _) (m + 6) (sN l c r) _) a p = _
    rw [zai_sa, if_neg (by omega), zai_sa, if_neg (by omega)]
  · have gall : zFr (fun x => x = m ∨ x = m + 6 ∨ x = m + 7) σ (zsi (useS (zsa σ (m + 7) 0 (nI (tCp s.2 + 1))) m (sN l c r) (tCk s.2)) 598 m (nI f)) := ((g1.mono (fun a ha => by omega)).tr (useS.fr _ (Or.inl rfl) (by omega))).tr (zFr.si _ (Or.inl rfl))
    refine ⟨hM.fr gall, hV.fr gall (by omega), ?_, fun k hk2 => ?_, ?_, ?_, ?_⟩
    · rw [zi_si, if_neg (by omega)]
      show zi (zsi σ 587 m (nI (tCk s.2 + 1))) 584 m = _
      rw [zi_si, if_neg (by omega)]; exact vs
    · show zai (zsa (zsa σ (m + 7) 0 _) (m + 6) (sN l c r) _) (m + 6) k = nI (stU s.1 (sN l c r) (tCk s.2 + 1) k)
      rw [zai_sa]
      unfold stU
      by_cases e : k = sN l c r
      · rw [if_pos ⟨rfl, e⟩, if_pos e]
      · rw [if_neg (by omega), if_neg e, zai_sa, if_neg (by omega)]; exact hU k hk2
    · rw [zi_si, if_neg (by omega)]
      show zi (zsi σ 587 m (nI (tCk s.2 + 1))) 587 m = _
      rw [zi_si, if_pos ⟨rfl, rfl⟩]; rfl
    · show zai (zsa (zsa σ (m + 7) 0 _) (m + 6) (sN l c r) _) (m + 7) 0 = _
      rw [zai_sa, if_neg (by omega), zai_sa, if_pos ⟨rfl, rfl⟩]; rfl
    · show zai (zsa (zsa σ (m + 7) 0 _) (m + 6) (sN l c r) _) (m + 7) 1 = _
      rw [zai_sa, if_neg (by omega), zai_sa, if_neg (by omega)]; exact h4
/-- a begun frame: where it stands -/
def BGf (σ : zS) (m f l t : Nat) (b : Int32) (c0 c1 r1 x y : Nat) : Prop := zai σ (m + 8) f = nI l ∧ zai σ (m + 9) f = nI t ∧ zai σ (m + 16) f = 1 ∧ zai σ (m + 10) f = b ∧ zai σ (m + 11) f = nI c0 ∧ zai σ (m + 12) f = nI c1 ∧ zai σ (m + 13) f = nI r1 ∧ zai σ (m + 14) f = nI x ∧ zai σ (m + 15) f = nI y
def BG (σ : zS) (m f l t : Nat) (b : Int32) (c0 c1 r1 x y : Nat) : Prop := zi σ 598 m = nI (f + 1) ∧ BGf σ m f l t b c0 c1 r1 x y
theorem BGf.kq {σ τ : zS} {m f l t : Nat} {b : Int32} {c0 c1 r1 x y : Nat} (h : BGf σ m f l t b c0 c1 r1 x y) (k : KQ m (f + 1) σ τ) : BGf τ m f l t b c0 c1 r1 x y := by
  obtain ⟨a2, a3, a4, a5, a6, a7, a8, a9, a10⟩ := h
  have e : ∀ j, 8 ≤ j → j ≤ 16 → zai τ (m + j) f = zai σ (m + j) f := fun j h1 h2 => k.2.2.2 (m + j) (by unfold inF; omega) f (by omega)
  exact ⟨(e 8 (by decide) (by decide)).trans a2, (e 9 (by decide) (by decide)).trans a3, (e 16 (by decide) (by decide)).trans a4, (e 10 (by decide) (by decide)).trans a5, (e 11 (by decide) (by decide)).trans a6, (e 12 (by decide) (by decide)).trans a7, (e 13 (by decide) (by decide)).trans a8, (e 14 (by decide) (by decide)).trans a9, (e 15 (by decide) (by decide)).trans a10⟩
/-- a turn of a begun frame that asks for one more tile -/
theorem l21_push {σ : zS} {m l t f sd b c0 c1 r1 x y : Nat} {C : zC} {s : zU} (h : RQM σ m C sd s) (hf : f + 1 < 9) (hB : BG σ m f l t (nI b) c0 c1 r1 x y) (hx : x ≤ c1) (hy : y ≤ r1) (h1 : c0 < 100) (h2 : c1 < 100) (h3 : r1 < 100) (hb : b < 100) (d : Nat) : ∃ τ, LX11_goOn_14 (zEv (d + 8)) m (nI f) σ = some (none, τ) ∧ KQ m f σ τ ∧ RQM τ m C sd s ∧ zi τ 598 m = nI (f + 2) ∧ zai τ (m + 8) (f + 1) = nI b ∧ zai τ (m + 9) (f + 1) = nI (8 * y + x) ∧ zai τ (m + 16) (f + 1) = 0 ∧ (∀ υ, KQ m (f + 1) τ υ → zi υ 598 m = nI (f + 1) → BG υ m f l t (nI b) c0 c1 r1 (if x = c1 then c0 else x + 1) (if x = c1 then y + 1 else y)) := by
  have hM := h.1
  obtain ⟨a1, a2, a3, a4, a5, a6, a7, a8, a9, a10⟩ := hB
  have hbn : ¬ (nI b < 0) := by
    have : (nI b < (0 : Int32)) ↔ b < 0 := n_lt (by omega) (by decide)
    rw [this]; omega
  have hyr : nI y ≤ nI r1 := (n_le (by omega) (by omega)).mpr hy
  have ex : (8 : Int32) * nI y + nI x = nI (8 * y + x) := by rw [nL 8, pk_mul, nI_add]
  have ep := s_mPush hM a1 hf (nI b) (nI (8 * y + x)) (d + 7)
  have hMp : MS (pshS σ m (f + 1) (nI b) (nI (8 * y + x))) m := by
    have g : zFr (fun a => a = m ∨ inF m a) σ (pshS σ m (f + 1) (nI b) (nI (8 * y + x))) := (((zFr.sa (a := m + 8) σ (by unfold inF; omega)).tr (zFr.sa (a := m + 9) _ (by unfold inF; omega))).tr (zFr.sa (a := m + 16) _ (by unfold inF; omega))).tr (zFr.si _ (Or.inl rfl))
    exact hM.fr g
  have hRp : RQM (pshS σ m (f + 1) (nI b) (nI (8 * y + x))) m C sd s := (((h.sf (a := m + 8) (by unfold inF; omega)).sf (a := m + 9) (by unfold inF; omega)).sf (a := m + 16) (by unfold inF; omega)).sd
  have hKp : KQ m f σ (pshS σ m (f + 1) (nI b) (nI (8 * y + x))) := (((KQ.sf (f := f) (a := m + 8) σ (by unfold inF; omega) (Nat.le_succ f)).tr (KQ.sf (f := f) (a := m + 9) _ (by unfold inF; omega) (Nat.le_succ f)) (Nat.le_refl _)).tr (KQ.sf (f := f) (a := m + 16) _ (by unfold inF; omega) (Nat.le_succ f)) (Nat.le_refl _)).tr (KQ.sd (f := f) _) (Nat.le_refl _)
  -- what the fresh frame holds, and what the frame below it still holds
  have q8 : zai (pshS σ m (f + 1) (nI b) (nI (8 * y + x))) (m + 8) (f + 1) = nI b := by
    show zai (zsa (zsa (zsa σ (m + 8) (f + 1) _) (m + 9) (f + 1) _) (m + 16) (f + 1) 0) (m + 8) (f + 1) = _
    rw [zai_sa, if_neg (by omega), zai_sa, if_neg (by omega), zai_sa, if_pos ⟨rfl, rfl⟩]
  have q9 : zai (pshS σ m (f + 1) (nI b) (nI (8 * y + x))) (m + 9) (f + 1) = nI (8 * y + x) := by
    show zai (zsa (zsa (zsa σ (m + 8) (f + 1) _) (m + 9) (f + 1) _) (m + 16) (f + 1) 0) (m + 9) (f + 1) = _
    rw [zai_sa, if_neg (by omega), zai_sa, if_pos ⟨rfl, rfl⟩]
  have q16 : zai (pshS σ m (f + 1) (nI b) (nI (8 * y + x))) (m + 16) (f + 1) = 0 := by
    show zai (zsa (zsa (zsa σ (m + 8) (f + 1) _) (m + 9) (f + 1) _) (m + 16) (f + 1) 0) (m + 16) (f + 1) = _
    rw [zai_sa, if_pos ⟨rfl, rfl⟩]
  have qd : zi (pshS σ m (f + 1) (nI b) (nI (8 * y + x))) 598 m = nI (f + 2) := by
    unfold pshS
    rw [zi_si, if_pos ⟨rfl, rfl⟩]
  have ql : ∀ j, 8 ≤ j → j ≤ 16 → zai (pshS σ m (f + 1) (nI b) (nI (8 * y + x))) (m + j) f = zai σ (m + j) f := fun j _ _ => by
    show zai (zsa (zsa (zsa σ (m + 8) (f + 1) _) (m + 9) (f + 1) _) (m + 16) (f + 1) 0) (m + j) f = _
    rw [zai_sa, if_neg (by omega), zai_sa, if_neg (by omega), zai_sa, if_neg (by omega)]
  have l14 := (ql 14 (by decide) (by decide)).trans a9
  have l15 := (ql 15 (by decide) (by decide)).trans a10
  have l12 := (ql 12 (by decide) (by decide)).trans a7
  have l11 := (ql 11 (by decide) (by decide)).trans a6
  have key : LX11_goOn_14 (zEv (d + 8)) m (nI f) σ = if x = c1 then some (none, zsa (zsa (zsa (pshS σ m (f + 1) (nI b) (nI (8 * y + x))) (m + 14) f (nI (x + 1))) (m + 14) f (nI c0)) (m + 15) f (nI (y + 1))) else some (none, zsa (pshS σ m (f + 1) (nI b) (nI (8 * y + x))) (m + 14) f (nI (x + 1))) := by
    rw [uX11_goOn_14]
    have f9 : f < 9 := by omega
    have k1 : (m + 12 = m + 14) = False := eq_false (by omega)
    have k2 : (m + 11 = m + 14) = False := eq_false (by omega)
    have k3 : (m + 15 = m + 14) = False := eq_false (by omega)
    have hle : (nI (x + 1) ≤ nI c1) ↔ x + 1 ≤ c1 := n_le (by omega) (by omega)
    simp only [chk_e, onR_s, hM.k, hM.be.1, hM.be.2.1, hM.be.2.2, hM.nr.1, hM.nr.2.1, hM.nr.2.2, hM.lr.1, hM.lr.2.1, hM.lr.2.2, hM.nc.1, hM.nc.2.1, hM.nc.2.2, if_true, fz f9, n_tn (show f < 2 ^ 31 by omega), and_self, a5, hbn, if_false, a10, a8, hyr, a9, ex, ep, bnV_s]
    generalize pshS σ m (f + 1) (nI b) (nI (8 * y + x)) = π at *
    simp only [zlt_e, onR_s, nul_s, nul_n, chk_e, bnI_s, bnR_s, bnV_s, zi_si, zi_sr, zi_sl, zi_sa, zi_sq, zr_si, zr_sr, zr_sl, zr_sa, zr_sq, zl_si, zl_sr, zl_sl, zl_sa, zl_sq, zai_si, zai_sr, zai_sl, zai_sa, zai_sq, zar_si, zar_sr, zar_sl, zar_sa, zar_sq, zkd_si, zkd_sr, zkd_sl, zkd_sa, zkd_sq, zln_si, zln_sr, zln_sl, zln_sa, zln_sq, znx_si, znx_sr, znx_sl, znx_sa, znx_sq, hMp.k, hMp.nc.1, hMp.nc.2.1, hMp.nc.2.2, hMp.lc.1, hMp.lc.2.1, hMp.lc.2.2, hMp.fc.1, hMp.fc.2.1, hMp.fc.2.2, hMp.nr.1, hMp.nr.2.1, hMp.nr.2.2, if_true, fz f9, n_tn (show f < 2 ^ 31 by omega), and_self, l14, l12, l11, l15, nI_1, hle, k1, k2, k3, false_and, if_false]
    by_cases e : x = c1
    · rw [if_neg (by omega), if_pos e]
    · rw [if_pos (by omega), if_neg e]
  by_cases e : x = c1
  · rw [if_pos e] at key
    have hK2 : KQ m f (pshS σ m (f + 1) (nI b) (nI (8 * y + x))) (zsa (zsa (zsa (pshS σ m (f + 1) (nI b) (nI (8 * y + x))) (m + 14) f (nI (x + 1))) (m + 14) f (nI c0)) (m + 15) f (nI (y + 1))) := ((KQ.sf (f := f) (a := m + 14) _ (by unfold inF; omega) (Nat.le_refl f)).tr (KQ.sf (f := f) (a := m + 14) _ (by unfold inF; omega) (Nat.le_refl f)) (Nat.le_refl _)).tr (KQ.sf (f := f) (a := m + 15) _ (by unfold inF; omega) (Nat.le_refl f)) (Nat.le_refl _)
    have up : ∀ a, inF m a → zai (zsa (zsa (zsa (pshS σ m (f + 1) (nI b) (nI (8 * y + x))) (m + 14) f (nI (x + 1))) (m + 14) f (nI c0)) (m + 15) f (nI (y + 1))) a (f + 1) = zai (pshS σ m (f + 1) (nI b) (nI (8 * y + x))) a (f + 1) := fun a _ => by
      rw [zai_sa, if_neg (by omega), zai_sa, if_neg (by omega), zai_sa, if_neg (by omega)]
    refine ⟨_, key, hKp.tr hK2 (Nat.le_refl _), ((hRp.sf (by unfold inF; omega)).sf (by unfold inF; omega)).sf (by unfold inF; omega), qd, (up _ (by unfold inF; omega)).trans q8, (up _ (by unfold inF; omega)).trans q9, (up _ (by unfold inF; omega)).trans q16, fun υ k hd2 => ?_⟩
    rw [if_pos e, if_pos e]
    have et : ∀ j, 8 ≤ j → j ≤ 16 → j ≠ 14 → j ≠ 15 → zai (zsa (zsa (zsa (pshS σ m (f + 1) (nI b) (nI (8 * y + x))) (m + 14) f (nI (x + 1))) (m + 14) f (nI c0)) (m + 15) f (nI (y + 1))) (m + j) f = zai σ (m + j) f := fun j h1 h2 h3 h4 => by
      rw [zai_sa, if_neg (by omega), zai_sa, if_neg (by omega), zai_sa, if_neg (by omega)]
      exact ql j h1 h2
    have hBf : BGf (zsa (zsa (zsa (pshS σ m (f + 1) (nI b) (nI (8 * y + x))) (m + 14) f (nI (x + 1))) (m + 14) f (nI c0)) (m + 15) f (nI (y + 1))) m f l t (nI b) c0 c1 r1 c0 (y + 1) := ⟨(et 8 (by decide) (by decide) (by decide) (by decide)).trans a2, (et 9 (by decide) (by decide) (by decide) (by decide)).trans a3, (et 16 (by decide) (by decide) (by decide) (by decide)).trans a4, (et 10 (by decide) (by decide) (by decide) (by decide)).trans a5, (et 11 (by decide) (by decide) (by decide) (by decide)).trans a6, (et 12 (by decide) (by decide) (by decide) (by decide)).trans a7, (et 13 (by decide) (by decide) (by decide) (by decide)).trans a8, by rw [zai_sa, if_neg (by omega), zai_sa, if_pos ⟨rfl, rfl⟩], by rw [zai_sa, if_pos ⟨rfl, rfl⟩]⟩
    exact ⟨hd2, hBf.kq k⟩
  · rw [if_neg e] at key
    have hK2 : KQ m f (pshS σ m (f + 1) (nI b) (nI (8 * y + x))) (zsa (pshS σ m (f + 1) (nI b) (nI (8 * y + x))) (m + 14) f (nI (x + 1))) := KQ.sf (f := f) (a := m + 14) _ (by unfold inF; omega) (Nat.le_refl f)
    have up : ∀ a, inF m a → zai (zsa (pshS σ m (f + 1) (nI b) (nI (8 * y + x))) (m + 14) f (nI (x + 1))) a (f + 1) = zai (pshS σ m (f + 1) (nI b) (nI (8 * y + x))) a (f + 1) := fun a _ => by
      rw [zai_sa, if_neg (by omega)]
    refine ⟨_, key, hKp.tr hK2 (Nat.le_refl _), hRp.sf (by unfold inF; omega), qd, (up _ (by unfold inF; omega)).trans q8, (up _ (by unfold inF; omega)).trans q9, (up _ (by unfold inF; omega)).trans q16, fun υ k hd2 => ?_⟩
    rw [if_neg e, if_neg e]
    have et : ∀ j, 8 ≤ j → j ≤ 16 → j ≠ 14 → zai (zsa (pshS σ m (f + 1) (nI b) (nI (8 * y + x))) (m + 14) f (nI (x + 1))) (m + j) f = zai σ (m + j) f := fun j h1 h2 h3 => by
      rw [zai_sa, if_neg (by omega)]
      exact ql j h1 h2
    have hBf : BGf (zsa (pshS σ m (f + 1) (nI b) (nI (8 * y + x))) (m + 14) f (nI (x + 1))) m f l t (nI b) c0 c1 r1 (x + 1) y := ⟨(et 8 (by decide) (by decide) (by decide)).trans a2, (et 9 (by decide) (by decide) (by decide)).trans a3, (et 16 (by decide) (by decide) (by decide)).trans a4, (et 10 (by decide) (by decide) (by decide)).trans a5, (et 11 (by decide) (by decide) (by decide)).trans a6, (et 12 (by decide) (by decide) (by decide)).trans a7, (et 13 (by decide) (by decide) (by decide)).trans a8, by rw [zai_sa, if_pos ⟨rfl, rfl⟩], (et 15 (by decide) (by decide) (by decide)).trans a10⟩
    exact ⟨hd2, hBf.kq k⟩
theorem itC_R {C : zC} {sd n k : Nat} {f : Nat → zU → zU} (s : zU) (h : ∀ i s, i < k → RQ C sd n 1 s (f i s)) (hk : k ≤ 8) : RQ C sd n 8 s (itC f k s) := (rq_itC (m := 1) k s h).mono (Nat.le_refl _) (by omega)
/-- the reference's loop asks for a tile as reqT does -/
theorem s_mreq {m sd : Nat} {C : zC} (G : GC C) (hs : 1 ≤ sd) (hs2 : sd ≤ 8) (hW8 : (cW C - 1) / sd < 8) (hH8 : (cH C - 1) / sd < 8) (z1 z2 z3 : zV) (d : Nat) : ∀ l, l < cN C → ∀ (σ : zS) (s : zU) (c r f : Nat) (z : zV), cL C l 5 = 1 → RQM σ m C sd s → c ≤ (cW C - 1) / sd → r ≤ (cH C - 1) / sd → f + l < 9 → zi σ 598 m = nI (f + 1) → zai σ (m + 8) f = nI l → zai σ (m + 9) f = nI (8 * r + c) → zai σ (m + 16) f = 0 → potU s + 65 * (l + 1) + 100 < 2 ^ 30 → (∀ k, k < 512 → s.1 k ≤ tCk s.2) → ∃ τ z', L21 d m z1 z2 z3 z σ = L21 d m z1 z2 z3 z' τ ∧ KQ m f σ τ ∧ RQM τ m C sd (reqT C sd (l + 1) c r s) ∧ zi τ 598 m = nI f := by
  have hn8 := G.2.2.1
  have hw := G.1
  have hh := G.2.1
  intro l
  induction l using Nat.strongRecOn with
  | ind l IH =>
  intro hl σ s c r f z ho hR hc hr hfl hd hL hT hb hP huB
  have hck : tCk s.2 < 2 ^ 30 := by unfold potU at hP; omega
  have hB31 : ∀ k, k < 512 → s.1 k < 2 ^ 31 := fun k hk => by have := huB k hk; omega
  have ereq : reqT C sd (l + 1) c r s = if s.1 (sN l c r) = 0 then
      ((stU (itR (reqT C sd l) (tlo sd c (rch (cL C l))) (thi sd c (rch (cL C l)) (cW C)) (tlo sd r (rch (cL C l))) (thi sd r (rch (cL C l)) (cH C)) s).1 (sN l c r) (tCk (itR (reqT C sd l) (tlo sd c (rch (cL C l))) (thi sd c (rch (cL C l)) (cW C)) (tlo sd r (rch (cL C l))) (thi sd r (rch (cL C l)) (cH C)) s).2 + 1)),
        tCo (itR (reqT C sd l) (tlo sd c (rch (cL C l))) (thi sd c (rch (cL C l)) (cW C)) (tlo sd r (rch (cL C l))) (thi sd r (rch (cL C l)) (cH C)) s).2)
    else (stU s.1 (sN l c r) (tCk s.2 + 1), tFo s.2) := by rw [reqT, if_pos ho]
  by_cases hu : s.1 (sN l c r) = 0
  · rw [ereq, if_pos hu]
    have e1 := l21_new hR G hl (show f < 9 by omega) hs hs2 (show c < 8 by omega) (show r < 8 by omega) hd hL hT hb hu z1 z2 z3 z d
    have b1 := thi_le (sd := sd) (c := c) (r := rch (cL C l)) (w := cW C)
    have b2 := thi_le (sd := sd) (c := r) (r := rch (cL C l)) (w := cH C)
    have b3 := tlo_le (r := rch (cL C l)) hs (show 1 ≤ cW C by omega) hc
    have b4 := tlo_le (r := rch (cL C l)) hs (show 1 ≤ cH C by omega) hr
    generalize tlo sd c (rch (cL C l)) = c0 at *
    generalize thi sd c (rch (cL C l)) (cW C) = c1 at *
    generalize tlo sd r (rch (cL C l)) = r0 at *
    generalize thi sd r (rch (cL C l)) (cH C) = r1 at *
    have hf9 : f < 9 := by omega
    -- the state behind the beginning
    obtain ⟨π, hπ⟩ : ∃ π, π = begS σ m f (iI ((onB (cL C) l : Nat) - 1)) c0 c1 r0 r1 := ⟨_, rfl⟩
    rw [← hπ] at e1
    have hKπ : KQ m f σ π := by
      rw [hπ]
      unfold begS
      exact ((((((KQ.sf (f := f) (a := m + 16) _ (by unfold inF; omega) (Nat.le_refl f)).tr (KQ.sf (f := f) (a := m + 10) _ (by unfold inF; omega) (Nat.le_refl f)) (Nat.le_refl _)).tr (KQ.sf (f := f) (a := m + 11) _ (by unfold inF; omega) (Nat.le_refl f)) (Nat.le_refl _)).tr (KQ.sf (f := f) (a := m + 14) _ (by unfold inF; omega) (Nat.le_refl f)) (Nat.le_refl _)).tr (KQ.sf (f := f) (a := m + 15) _ (by unfold inF; omega) (Nat.le_refl f)) (Nat.le_refl _)).tr (KQ.sf (f := f) (a := m + 12) _ (by unfold inF; omega) (Nat.le_refl f)) (Nat.le_refl _)).tr (KQ.sf (f := f) (a := m + 13) _ (by unfold inF; omega) (Nat.le_refl f)) (Nat.le_refl _)
    have hRπ : RQM π m C sd s := by
      rw [hπ]
      unfold begS
      exact ((((((hR.sf (a := m + 16) (by unfold inF; omega)).sf (a := m + 10) (by unfold inF; omega)).sf (a := m + 11) (by unfold inF; omega)).sf (a := m + 14) (by unfold inF; omega)).sf (a := m + 15) (by unfold inF; omega)).sf (a := m + 12) (by unfold inF; omega)).sf (a := m + 13) (by unfold inF; omega)
    have hBπ : BG π m f l (8 * r + c) (iI ((onB (cL C) l : Nat) - 1)) c0 c1 r1 c0 r0 := by
      rw [hπ]
      unfold begS
      refine ⟨hd, ?_, ?_, ?_, ?_, ?_, ?_, ?_, ?_, ?_⟩
      · rw [zai_sa, if_neg (by omega), zai_sa, if_neg (by omega), zai_sa, if_neg (by omega), zai_sa, if_neg (by omega), zai_sa, if_neg (by omega), zai_sa, if_neg (by omega), zai_sa, if_neg (by omega)]; exact hL
      · rw [zai_sa, if_neg (by omega), zai_sa, if_neg (by omega), zai_sa, if_neg (by omega), zai_sa, if_neg (by omega), zai_sa, if_neg (by omega), zai_sa, if_neg (by omega), zai_sa, if_neg (by omega)]; exact hT
      · rw [zai_sa, if_neg (by omega), zai_sa, if_neg (by omega), zai_sa, if_neg (by omega), zai_sa, if_neg (by omega), zai_sa, if_neg (by omega), zai_sa, if_neg (by omega), zai_sa, if_pos ⟨rfl, rfl⟩]
      · rw [zai_sa, if_neg (by omega), zai_sa, if_neg (by omega), zai_sa, if_neg (by omega), zai_sa, if_neg (by omega), zai_sa, if_neg (by omega), zai_sa, if_pos ⟨rfl, rfl⟩]
      · rw [zai_sa, if_neg (by omega), zai_sa, if_neg (by omega), zai_sa, if_neg (by omega), zai_sa, if_neg (by omega), zai_sa, if_pos ⟨rfl, rfl⟩]
      · rw [zai_sa, if_neg (by omega), zai_sa, if_pos ⟨rfl, rfl⟩]
      · rw [zai_sa, if_pos ⟨rfl, rfl⟩]
      · rw [zai_sa, if_neg (by omega), zai_sa, if_neg (by omega), zai_sa, if_neg (by omega), zai_sa, if_pos ⟨rfl, rfl⟩]
      · rw [zai_sa, if_neg (by omega), zai_sa, if_neg (by omega), zai_sa, if_pos ⟨rfl, rfl⟩]
    -- a turn over the begun frame is the same as the first
    have e2 : L21 d m z1 z2 z3 z σ = L21 d m z1 z2 z3 (.inl (nI f)) π := by
      rw [e1, l21_on hRπ.1 hBπ.1 hf9 hBπ.2.2.2.1]
    -- the end, from a state where all has been asked for
    have fin : ∀ (υ : zS) (s' : zU) (x y : Nat) (zz : zV), KQ m f π υ → RQM υ m C sd s' → BG υ m f l (8 * r + c) (iI ((onB (cL C) l : Nat) - 1)) c0 c1 r1 x y → (onB (cL C) l = 0 ∨ r1 < y) → y < 100 → ∃ τ z', L21 d m z1 z2 z3 zz υ = L21 d m z1 z2 z3 z' τ ∧ KQ m f σ τ ∧ RQM τ m C sd (stU s'.1 (sN l c r) (tCk s'.2 + 1), tCo s'.2) ∧ zi τ 598 m = nI f := by
      intro υ s' x y zz k hRυ hBυ hend hy
      obtain ⟨a1, a2, a3, a4, a5, a6, a7, a8, a9, a10⟩ := hBυ
      obtain ⟨τ, g1, g2, g3, g4⟩ := l21_end hRυ (show l < 8 by omega) hf9 (show c < 8 by omega) (show r < 8 by omega) a1 a2 a3 d
      have hM := hRυ.1
      have e14 : LX11_goOn_14 (zEv (d + 8)) m (nI f) υ = LX11_goOn_38 (zEv (d + 8)) m (nI f) υ := by
        rw [uX11_goOn_14]
        have hon := onB_le (cL C) l
        by_cases h0 : onB (cL C) l = 0
        · have hneg : (iI ((onB (cL C) l : Nat) - 1)) < 0 := by rw [h0]; decide
          simp only [chk_e, onR_s, hM.k, hM.be.1, hM.be.2.1, hM.be.2.2, if_true, fz hf9, n_tn (show f < 2 ^ 31 by omega), and_self, a5, hneg]
        · have hneg : ¬ ((iI ((onB (cL C) l : Nat) - 1)) < 0) := by
            rw [show (0 : Int32) = iI 0 from rfl, i_lt (by omega) (by omega) (by decide) (by decide)]
            omega
          have hyr : ¬ (nI y ≤ nI r1) := by
            rw [n_le (by omega) (by omega)]
            omega
          simp only [chk_e, onR_s, hM.k, hM.be.1, hM.be.2.1, hM.be.2.2, hM.nr.1, hM.nr.2.1, hM.nr.2.2, hM.lr.1, hM.lr.2.1, hM.lr.2.2, if_true, fz hf9, n_tn (show f < 2 ^ 31 by omega), and_self, a5, hneg, if_false, a10, a8, hyr]
      refine ⟨τ, .inl (nI f), ?_, (hKπ.tr k (Nat.le_refl _)).tr g2 (Nat.le_refl _), g3, g4⟩
      rw [l21_on hM a1 hf9 a4, e14, g1, bnV_s]
    cases hbn : onB (cL C) l with
    | zero =>
      have eit : itR (reqT C sd l) c0 c1 r0 r1 s = s := by
        have ef : ∀ c r s, reqT C sd l c r s = s := fun c r s => req_none l c r s hbn
        have ei : ∀ (j : Nat) (k : Nat) (s : zU), itC (fun i s => reqT C sd l (c0 + i) (r0 + j) s) k s = s := fun j k s => by
          induction k with
          | zero => rfl
          | succ k ih => show reqT C sd l _ _ _ = s; rw [ef, ih]
        have eo : ∀ (k : Nat) (s : zU), itC (fun j s => itC (fun i s => reqT C sd l (c0 + i) (r0 + j) s) (c1 + 1 - c0) s) k s = s := fun k s => by
          induction k with
          | zero => rfl
          | succ k ih => exact (ei k (c1 + 1 - c0) (itC (fun j s => itC (fun i s => reqT C sd l (c0 + i) (r0 + j) s) (c1 + 1 - c0) s) k s)).trans ih
        exact eo _ _
      rw [eit]
      obtain ⟨τ, z', h1, h2⟩ := fin π s c0 r0 (.inl (nI f)) (KQ.rf π) hRπ hBπ (Or.inl hbn) (by omega)
      exact ⟨τ, z', e2.trans h1, h2⟩
    | succ b =>
      have hbl : b < l := by have := onB_le (cL C) l; omega
      have hob := onB_on (cL C) l b hbn
      have eb : iI ((onB (cL C) l : Nat) - 1) = nI b := by rw [hbn, i_nI]; congr 1; omega
      have erq : ∀ c r s, reqT C sd l c r s = reqT C sd (b + 1) c r s := fun c r s => by rw [req_onB, hbn]
      have rq1 : ∀ c' r' s', c' ≤ c1 → r' ≤ r1 → RQ C sd l 1 s' (reqT C sd l c' r' s') := fun c' r' s' h1 h2 => rq_req hs hW8 hH8 l (by omega) c' r' s' (Nat.le_trans h1 b1) (Nat.le_trans h2 b2)
      -- what has been asked for before the place (i, j)
      let st : Nat → Nat → zU := fun j i => itC (fun i s => reqT C sd l (c0 + i) (r0 + j) s) i (itC (fun j s => itC (fun i s => reqT C sd l (c0 + i) (r0 + j) s) (c1 + 1 - c0) s) j s)
      have rqs : ∀ j i, j ≤ r1 + 1 - r0 → i ≤ c1 + 1 - c0 → (j < r1 + 1 - r0 ∨ i = 0) → RQ C sd l 64 s (st j i) := fun j i hj hi hji => by
        have o1 : RQ C sd l (j * 8) s (itC (fun j s => itC (fun i s => reqT C sd l (c0 + i) (r0 + j) s) (c1 + 1 - c0) s) j s) := rq_itC j s (fun j' s' hj' => itC_R s' (fun i s hi => rq1 _ _ _ (by omega) (by omega)) (by omega))
        have o2 : RQ C sd l (i * 1) (itC (fun j s => itC (fun i s => reqT C sd l (c0 + i) (r0 + j) s) (c1 + 1 - c0) s) j s) (st j i) := rq_itC i _ (fun i' s' hi' => rq1 _ _ _ (by omega) (by omega))
        exact (o1.tr o2).mono (Nat.le_refl _) (by omega)
      obtain ⟨⟨υ, zz⟩, h1, h2⟩ := grid (fun (_ : Nat) (q : zS × zV) => L21 d m z1 z2 z3 q.2 q.1) (fun (_ _ : Nat) (q : zS × zV) => L21 d m z1 z2 z3 q.2 q.1)
        (fun j i q => KQ m f π q.1 ∧ RQM q.1 m C sd (st j i) ∧ BG q.1 m f l (8 * r + c) (nI b) c0 c1 r1 (if i = c1 + 1 - c0 then c0 else c0 + i) (if i = c1 + 1 - c0 then r0 + j + 1 else r0 + j)) (c1 + 1 - c0) (r1 + 1 - r0) (fun q => L21 d m z1 z2 z3 q.2 q.1) (π, .inl (nI f)) ⟨KQ.rf π, hRπ, by rw [if_neg (by omega), if_neg (by omega)]; rw [eb] at hBπ; exact hBπ⟩
        (fun j q hj hIq => ⟨q, rfl, hIq⟩)
        (fun j i q hj hi hIq => by
          obtain ⟨k, kR, kB⟩ := hIq
          rw [if_neg (by omega), if_neg (by omega)] at kB
          obtain ⟨τ1, p1, p2, p3, p4, p5, p6, p7, p8⟩ := l21_push kR (show f + 1 < 9 by omega) kB (show c0 + i ≤ c1 by omega) (show r0 + j ≤ r1 by omega) (by omega) (by omega) (by omega) (by omega) d
          have rj := rqs j i (by omega) (by omega) (Or.inl hj)
          obtain ⟨τ2, z', n1, n2, n3, n4⟩ := IH b hbl (by omega) τ1 (st j i) (c0 + i) (r0 + j) (f + 1) (.inl (nI f)) hob p3 (by omega) (by omega) (by omega) p4 p5 p6 p7 (by have := rj.2.2.2.2.1; omega) (rj.2.2.2.1 huB)
          refine ⟨(τ2, z'), ?_, (k.tr p2 (Nat.le_refl _)).tr n2 (Nat.le_succ f), ?_, ?_⟩
          · show L21 d m z1 z2 z3 q.2 q.1 = L21 d m z1 z2 z3 z' τ2
            rw [l21_on kR.1 kB.1 hf9 kB.2.2.2.1, p1, bnV_s]
            exact n1
          · show RQM τ2 m C sd (reqT C sd l (c0 + i) (r0 + j) (st j i))
            rw [erq]
            exact n3
          · have := p8 τ2 n2 n4
            by_cases e : c0 + i = c1
            · rw [if_pos e, if_pos e] at this
              rw [if_pos (by omega), if_pos (by omega)]
              exact this
            · rw [if_neg e, if_neg e] at this
              rw [if_neg (by omega), if_neg (by omega)]
              exact this)
        (fun j q hj hIq => ⟨q, rfl, hIq.1, hIq.2.1, by
          have kB := hIq.2.2
          rw [if_pos rfl, if_pos rfl] at kB
          rw [if_neg (by omega), if_neg (by omega)]
          exact kB⟩)
        (fun q hIq => rfl)
      obtain ⟨k, kR, kB⟩ := h2
      rw [if_neg (by omega), if_neg (by omega), ← eb] at kB
      obtain ⟨τ, z', n1, n2⟩ := fin υ (st (r1 + 1 - r0) 0) c0 (r0 + (r1 + 1 - r0)) zz k kR kB (Or.inr (by omega)) (by omega)
      refine ⟨τ, z', e2.trans (h1.trans n1), n2⟩
  · rw [ereq, if_neg hu]
    obtain ⟨τ, h1, h2, h3, h4⟩ := l21_fnd hR (show l < 8 by omega) (show f < 9 by omega) (show c < 8 by omega) (show r < 8 by omega) hd hL hT hb hu hB31 z1 z2 z3 z d
    exact ⟨τ, _, h1, h2, h3, h4⟩
