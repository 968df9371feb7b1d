/-! one layer's row changes -/
def upR (l : Nat → Int) (j : Nat) (v : Int) (i : Nat) : Int := if i = j then v else l i
def stC (C : zC) (k : Nat) (l : Nat → Int) : zC := (cW C, cH C, cN C, cP C, fun i => if i = k then l else cL C i)
theorem outI_congr {C C' : zC} (hw : cW C' = cW C) (hh : cH C' = cH C) (hp : cP C' = cP C) : ∀ n, (∀ i, i < n → cL C' i = cL C i) → outI C' n = outI C n
  | 0, _ => hp
  | n + 1, h => by
    have ih := outI_congr hw hh hp n (fun i hi => h i (by omega))
    show (if cL C' n 5 = 1 then lyI (cW C') (cH C') (cL C' n) (outI C' n) else outI C' n) = (if cL C n 5 = 1 then lyI (cW C) (cH C) (cL C n) (outI C n) else outI C n)
    rw [ih, h n (by omega), hw, hh]
theorem RqI.setRow {σ τ : zS} {o k : Nat} {q : Nat → Nat} {C : zC} {sd : Nat} {s : zU} {l : Nat → Int} (h : RqI σ o q C sd s) (hn8 : cN C ≤ 8) (hk : k < cN C) (hz : ∀ j, j < 512 → 64 * k ≤ j → s.1 j = 0) (g : zFr (inL (o + 1 + 4 + 3 * q k)) σ τ) (hl : LyV τ (o + 1 + 4 + 3 * q k) l) : RqI τ o q (stC C k l) sd s := by
  have hqk := (h.2.1.1 k (by omega)).2
  refine ⟨h.1.fr g, h.2.1.fr g (by unfold inL; omega), ⟨h.2.2.1.1.fr g (by unfold inL; omega) (by unfold inL; omega), (g.i (by unfold inL; omega) _).trans h.2.2.1.2.1, fun i hi => ?_⟩, h.2.2.2.1.fr g (by unfold inL; omega), h.2.2.2.2.1.fr g (by unfold inL; omega) (by unfold inL; omega), h.2.2.2.2.2.1.fr g (by unfold inL; omega), h.2.2.2.2.2.2.1.fr g (fun a h1 h2 => by unfold inL; omega), fun j hj hu => ?_, h.2.2.2.2.2.2.2.2⟩
  · have hi : i < cN C := hi
    show LyV τ (o + 1 + 4 + 3 * q i) (if i = k then l else cL C i)
    by_cases e : i = k
    · rw [if_pos e, e]; exact hl
    · rw [if_neg e]
      have hqi := (h.2.1.1 i (by omega)).2
      have hne : q i ≠ q k := fun q' => e (h.2.1.2 i k (by omega) (by omega) q')
      exact (h.2.2.1.2.2 i hi).fr g (fun a ha hb => by unfold inL at ha hb; omega)
  · have hlt : j < 64 * k := by
      rcases Nat.lt_or_ge j (64 * k) with q' | q'
      · exact q'
      · exact absurd (hz j hj q') hu
    have := (h.2.2.2.2.2.2.2.1.fr g (fun a h1 h2 => by unfold inL; omega)) j hj hu
    have e : outI (stC C k l) (j / 64 + 1) = outI C (j / 64 + 1) := outI_congr (C := C) (C' := stC C k l) rfl rfl rfl _ (fun i hi => by
      show (if i = k then l else cL C i) = cL C i
      rw [if_neg (by omega)])
    rw [e]
    exact this
theorem zrU_z (u : Nat → Nat) (a j : Nat) (h1 : a ≤ j) (h2 : j < 512) : zrU u a 512 j = 0 := by
  unfold zrU
  rw [if_pos ⟨h1, h2⟩]
/-- a state with one layer's row set, as a change -/
def aRow (A : zW) (k : Nat) (l : Nat → Int) : zW := (stC (aC A) k l, (psN (aHn A), psK (aHn A) (aHk A) (aC A)), aS A, (aTn A, aTx A), zrU (aU A) (64 * k) 512, aT A)
theorem psK_n {A : zW} {B : Nat} (hG : GA A B) (i : Nat) (hi : i < psN (aHn A)) : cN (psK (aHn A) (aHk A) (aC A) i) ≤ 8 := by
  have h6 := hG.2.1.1
  have hn8 := hG.1.2.2.1
  unfold psN at hi
  unfold psK
  by_cases e6 : aHn A = 6
  · rw [if_pos e6]
    by_cases e5 : i < 5
    · rw [if_pos e5]; exact (hG.2.1.2 (i + 1) (by omega)).2.2.1
    · rw [if_neg e5]; exact hn8
  · rw [if_neg e6]
    by_cases e7 : i < aHn A
    · rw [if_pos e7]; exact (hG.2.1.2 i e7).2.2.1
    · rw [if_neg e7]; exact hn8
theorem CIx.row {σ τ : zS} {o k B : Nat} {A : zW} {q u P : Nat → Nat} {l : Nat → Int} (hG : GA A B) (h : CIx σ o (aCh A k) q u P) (hk : k < cN (aC A)) (g : zFr (inL (o + 1 + 4 + 3 * q k)) σ τ) (hl : LyV τ (o + 1 + 4 + 3 * q k) l) : CIx τ o (aRow A k l) q u P := by
  obtain ⟨hR, ⟨r, hr⟩, hHQ, hHV, hS, hT⟩ := h
  have hn8 := hG.1.2.2.1
  have hqk := (hR.2.1.1 k (by omega)).2
  refine ⟨hR.setRow (C := aC A) hn8 hk (fun j hj hkj => zrU_z _ _ _ hkj hj) g hl, ⟨r, hr.fr g (by unfold inL; omega)⟩, hHQ.fr g (by unfold inL; omega), hHV.fr hHQ (by show psN (aHn A) ≤ 6; have := hG.2.1.1; unfold psN; split <;> omega) (fun i hi => psK_n hG i hi) g (fun a ha => by unfold inH at ha; unfold inL; omega), hS.fr hG.2.2.1 g (by unfold inL; omega) (fun a ha => by unfold inL; omega), hT.fr g (by unfold inL; omega) (by unfold inL; omega)⟩
/-- one field of a layer is stored -/
theorem LyV.si {σ : zS} {a j : Nat} {l : Nat → Int} (h : LyV σ a l) (hj : j < 6) (v : Int) : LyV (zsi σ (128 + j) a (iI v)) a (upR l j v) := by
  refine ⟨fun k hk => ?_, fun k hk => ?_, fun i hi => ?_⟩
  · rw [zi_si]
    unfold upR
    by_cases e : k = j
    · rw [if_pos ⟨by omega, rfl⟩, if_pos e]
    · rw [if_neg (by omega), if_neg e]; exact h.1 k hk
  · rw [zi_si, if_neg (by omega)]
    unfold upR
    rw [if_neg (by omega)]
    exact h.2.1 k hk
  · have e13 : upR l j v 13 = l 13 := by unfold upR; rw [if_neg (by omega)]
    rw [e13] at hi
    unfold upR
    rw [if_neg (by omega)]
    exact h.2.2 i hi
/-- one field of a mask is stored -/
theorem LyV.sm {σ : zS} {a j : Nat} {l : Nat → Int} (h : LyV σ a l) (hj : j < 7) (v : Int) : LyV (zsi σ (192 + j) (a + 1) (iI v)) a (upR l (6 + j) v) := by
  refine ⟨fun k hk => ?_, fun k hk => ?_, fun i hi => ?_⟩
  · rw [zi_si, if_neg (by omega)]
    unfold upR
    rw [if_neg (by omega)]
    exact h.1 k hk
  · rw [zi_si]
    unfold upR
    by_cases e : k = j
    · rw [if_pos ⟨by omega, rfl⟩, if_pos (by omega)]
    · rw [if_neg (by omega), if_neg (by omega)]; exact h.2.1 k hk
  · have e13 : upR l (6 + j) v 13 = l 13 := by unfold upR; rw [if_neg (by omega)]
    rw [e13] at hi
    unfold upR
    rw [if_neg (by omega)]
    exact h.2.2 i hi
/-- an int within two bounds -/
theorem w_in {x : Int32} {a b : Int} (h1 : -2147483648 ≤ a) (h2 : a < 2147483648) (h3 : -2147483648 ≤ b) (h4 : b < 2147483648) : (iI a ≤ x ∧ x ≤ iI b) ↔ a ≤ x.toInt ∧ x.toInt ≤ b := by
  rw [Int32.le_iff_toInt_le, Int32.le_iff_toInt_le, i_toInt h1 h2, i_toInt h3 h4]
theorem zin_n {x : Int32} {n : Nat} (h : zin x n) : x = nI x.toNatClampNeg ∧ x.toNatClampNeg < n := by
  refine ⟨n_of h.1, ?_⟩
  have e : x.toNatClampNeg = x.toInt.toNat := rfl
  have := h.1
  have := h.2
  omega
/-- what setBlend answers, and what it leaves -/
def rBlend (A : zW) (x m p : Int32) : Int32 := if zin x (cN (aC A)) ∧ (0 ≤ m.toInt ∧ m.toInt ≤ 7) ∧ 0 ≤ p.toInt ∧ p.toInt ≤ 100 then iI (cL (aC A) x.toNatClampNeg 4) else -1001
def tBlend (A : zW) (x m p : Int32) : zW := if zin x (cN (aC A)) ∧ (0 ≤ m.toInt ∧ m.toInt ≤ 7) ∧ 0 ≤ p.toInt ∧ p.toInt ≤ 100 then aRow A x.toNatClampNeg (upR (upR (cL (aC A) x.toNatClampNeg) 3 m.toInt) 4 p.toInt) else A
/-- a call of the class: answers r and leaves A -/
def zOC (o : Nat) (z : zO) (r : Int32) (A : zW) (σ : zS) : Prop := ∃ τ q u P, z = some (some (.inl r), τ) ∧ CIx τ o A q u P ∧ zFr (fun a => o ≤ a ∧ a < o + 257) σ τ
theorem c_setBlend {σ : zS} {o B : Nat} {A : zW} {q u P : Nat → Nat} (hG : GA A B) (hB : B < 2 ^ 30) (hI : CIx σ o A q u P) (x m p : Int32) (d : Nat) : zOC o (zEv (d + 20) mX10_setBlend [.inr (.inl (some o)), .inl x, .inl m, .inl p] σ) (rBlend A x m p) (tBlend A x m p) σ := by
  have hR := hI.1
  have hO := hR.1
  have hn8 := hG.1.2.2.1
  have w1 : ((0 : Int32) ≤ m ∧ m ≤ 7) ↔ 0 ≤ m.toInt ∧ m.toInt ≤ 7 := w_in (a := 0) (b := 7) (by decide) (by decide) (by decide) (by decide)
  have w2 : ((0 : Int32) ≤ p ∧ p ≤ 100) ↔ 0 ≤ p.toInt ∧ p.toInt ≤ 100 := w_in (a := 0) (b := 100) (by decide) (by decide) (by decide) (by decide)
  rw [vX10_setBlend]
  unfold fX10_setBlend rBlend tBlend
  simp only [zlt_e, onR_s, nul_s, nul_n, chk_e, bnI_s, bnR_s, bnV_s, zi_si, zi_sr, zi_sl, zi_sa, zi_sq, zr_si, zr_sr, zr_sl, zr_sa, zr_sq, zl_si, zl_sr, zl_sl, zl_sa, zl_sq, zai_si, zai_sr, zai_sl, zai_sa, zai_sq, zar_si, zar_sr, zar_sl, zar_sa, zar_sq, zkd_si, zkd_sr, zkd_sl, zkd_sa, zkd_sq, zln_si, zln_sr, zln_sl, zln_sa, zln_sq, znx_si, znx_sr, znx_sl, znx_sa, znx_sq, hO.f.1, hO.f.2.1, hO.c.1, if_true]
  by_cases hx : zin x (cN (aC A))
  · obtain ⟨ex, hk⟩ := zin_n hx
    generalize x.toNatClampNeg = k at *
    subst ex
    have hqk := (hR.2.1.1 k (by omega)).2
    have hls := hO.c.2.2.2.2.2.2 (q k) hqk
    have a4 : zi σ 132 (o + 1 + 4 + 3 * q k) = iI (cL (aC A) k 4) := (hR.2.2.1.2.2 k hk).1 4 (by decide)
    simp only [zlt_e, onR_s, nul_s, nul_n, chk_e, bnI_s, bnR_s, bnV_s, zi_si, zi_sr, zi_sl, zi_sa, zi_sq, zr_si, zr_sr, zr_sl, zr_sa, zr_sq, zl_si, zl_sr, zl_sl, zl_sa, zl_sq, zai_si, zai_sr, zai_sl, zai_sa, zai_sq, zar_si, zar_sr, zar_sl, zar_sa, zar_sq, zkd_si, zkd_sr, zkd_sl, zkd_sa, zkd_sq, zln_si, zln_sr, zln_sl, zln_sa, zln_sq, znx_si, znx_sr, znx_sl, znx_sa, znx_sq, s_layerAt hO.c hR.2.1 hR.2.2.1.2.1 hn8 hk, s_within, w1, w2, zb_0, hls.1, if_true, a4, hO.f.1]
    by_cases hm : 0 ≤ m.toInt ∧ m.toInt ≤ 7
    · rw [if_neg (by simpa using hm)]
      by_cases hp : 0 ≤ p.toInt ∧ p.toInt ≤ 100
      · rw [if_neg (by simpa using hp), if_pos ⟨hx, hm, hp⟩, if_pos ⟨hx, hm, hp⟩]
        obtain ⟨τ, u', k1, k2, k3⟩ := s_startChange hG hB hI (show k ≤ 8 by omega) (d + 12)
        have hls' := k3.1.1.c.2.2.2.2.2.2 (q k) hqk
        have hlv := k3.1.2.2.1.2.2 k hk
        have em : m = iI m.toInt := i_of m
        have ep : p = iI p.toInt := i_of p
        simp only [zlt_e, onR_s, nul_s, nul_n, chk_e, bnI_s, bnR_s, bnV_s, zi_si, zi_sr, zi_sl, zi_sa, zi_sq, zr_si, zr_sr, zr_sl, zr_sa, zr_sq, zl_si, zl_sr, zl_sl, zl_sa, zl_sq, zai_si, zai_sr, zai_sl, zai_sa, zai_sq, zar_si, zar_sr, zar_sl, zar_sa, zar_sq, zkd_si, zkd_sr, zkd_sl, zkd_sa, zkd_sq, zln_si, zln_sr, zln_sl, zln_sa, zln_sq, znx_si, znx_sr, znx_sl, znx_sa, znx_sq, k1, hls'.1, if_true]
        have g1 : zFr (inL (o + 1 + 4 + 3 * q k)) τ (zsi (zsi τ (128 + 3) (o + 1 + 4 + 3 * q k) (iI m.toInt)) (128 + 4) (o + 1 + 4 + 3 * q k) (iI p.toInt)) := (zFr.si _ (by unfold inL; omega)).tr (zFr.si _ (by unfold inL; omega))
        refine ⟨_, q, u', P, rfl, ?_, ?_⟩
        · rw [em, ep]
          have e1 : (iI m.toInt).toInt = m.toInt := by rw [← em]
          have e2 : (iI p.toInt).toInt = p.toInt := by rw [← ep]
          rw [e1, e2]
          exact k3.row hG hk g1 ((hlv.si (j := 3) (by decide) _).si (j := 4) (by decide) _)
        · rw [em, ep]
          refine (k2.mono (fun a ha => by unfold inHU inH inU at ha; omega)).tr (g1.mono (fun a ha => by unfold inL at ha; omega))
      · rw [if_pos hp, if_neg (fun q => hp q.2.2), if_neg (fun q => hp q.2.2)]
        exact ⟨σ, q, u, P, rfl, hI, zFr.rf σ⟩
    · rw [if_pos hm, if_neg (fun q => hm q.2.1), if_neg (fun q => hm q.2.1)]
      exact ⟨σ, q, u, P, rfl, hI, zFr.rf σ⟩
  · rw [if_neg (fun q => hx q.1), if_neg (fun q => hx q.1)]
    simp only [zlt_e, onR_s, nul_s, nul_n, chk_e, bnI_s, bnR_s, bnV_s, zi_si, zi_sr, zi_sl, zi_sa, zi_sq, zr_si, zr_sr, zr_sl, zr_sa, zr_sq, zl_si, zl_sr, zl_sl, zl_sa, zl_sq, zai_si, zai_sr, zai_sl, zai_sa, zai_sq, zar_si, zar_sr, zar_sl, zar_sa, zar_sq, zkd_si, zkd_sr, zkd_sl, zkd_sa, zkd_sq, zln_si, zln_sr, zln_sl, zln_sa, zln_sq, znx_si, znx_sr, znx_sl, znx_sa, znx_sq, s_layerNo hO.c hR.2.2.1.2.1 hn8 hx]
    exact ⟨σ, q, u, P, rfl, hI, zFr.rf σ⟩
