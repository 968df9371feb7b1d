/-! flatten: the class -/
theorem s_copyFrom2 {σ : zS} {p q w h : Nat} {px : Nat → Nat → Int} (hp : PicS σ p) (hq : PicS σ q) (hpq : p ≠ q ∧ p + 1 ≠ q ∧ p ≠ q + 1) (hv : PicV σ q w h px) (hw : w ≤ 16) (hh : h ≤ 16) (d : Nat) : ∃ τ, zEv (d + 2) mX6_copyFrom [.inr (.inl (some p)), .inr (.inl (some q))] σ = some (none, τ) ∧ zFr (inP p) σ τ ∧ PicV τ p w h px ∧ ∀ j, (∀ x y, x < w → y < h → j ≠ 16 * y + x) → zai τ (p + 1) j = zai σ (p + 1) j := by
  rw [vX6_copyFrom]
  unfold fX6_copyFrom
  simp only [zlt_e, onR_s, nul_s, nul_n, chk_e, bnI_s, bnR_s, bnV_s, zi_si, zi_sr, zi_sl, zi_sa, zi_sq, zr_si, zr_sr, zr_sl, zr_sa, zr_sq, zl_si, zl_sr, zl_sl, zl_sa, zl_sq, zai_si, zai_sr, zai_sl, zai_sa, zai_sq, zar_si, zar_sr, zar_sl, zar_sa, zar_sq, zkd_si, zkd_sr, zkd_sl, zkd_sa, zkd_sq, zln_si, zln_sr, zln_sl, zln_sa, zln_sq, znx_si, znx_sr, znx_sl, znx_sa, znx_sq, hp.1, if_true, s_takeSizeOf hp hq hpq.1]
  have hF : zFr (inP p) σ (zsi (zsi σ 257 p (zi σ 257 q)) 258 p (zi σ 258 q)) := (zFr.si σ (Or.inl rfl)).tr (zFr.si _ (Or.inl rfl))
  have hw0 : zi (zsi (zsi σ 257 p (zi σ 257 q)) 258 p (zi σ 258 q)) 257 p = nI w := by simp [zi_si, hv.1]
  have hh0 : zi (zsi (zsi σ 257 p (zi σ 257 q)) 258 p (zi σ 258 q)) 258 p = nI h := by simp [zi_si, hv.2.1]
  have hz0 : ∀ j, zai (zsi (zsi σ 257 p (zi σ 257 q)) 258 p (zi σ 258 q)) (p + 1) j = zai σ (p + 1) j := fun _ => rfl
  generalize zsi (zsi σ 257 p (zi σ 257 q)) 258 p (zi σ 258 q) = σ1 at hF hw0 hh0 hz0 ⊢
  obtain ⟨⟨τ, z⟩, h1, h2⟩ := grid (fun y (s : zS × zV) => LX6_copyFrom_7 (zEv (d + 1)) p (some q) (nI y) s.2 s.1) (fun y x s => LX6_copyFrom_17 (zEv (d + 1)) p (some q) (nI y) (nI x) s.1)
    (fun y x s => zFr (inP p) σ s.1 ∧ (zi s.1 257 p = nI w ∧ zi s.1 258 p = nI h) ∧ (∀ x' y', bef w x y x' y' → zai s.1 (p + 1) (16 * y' + x') = iI (px x' y')) ∧ ∀ j, (∀ x y, x < w → y < h → j ≠ 16 * y + x) → zai s.1 (p + 1) j = zai σ (p + 1) j) w h (fun s => some (none, s.1)) (σ1, .inr (.inr none)) ⟨hF, ⟨hw0, hh0⟩, fun x' y' hb => by unfold bef at hb; omega, fun j _ => hz0 j⟩
    (fun y s hy hI => ⟨s, by
      show LX6_copyFrom_7 _ _ _ _ _ _ = LX6_copyFrom_17 _ _ _ _ _ _
      rw [uX6_copyFrom_7]
      simp only [zlt_e, onR_s, nul_s, nul_n, chk_e, bnI_s, bnR_s, bnV_s, zi_si, zi_sr, zi_sl, zi_sa, zi_sq, zr_si, zr_sr, zr_sl, zr_sa, zr_sq, zl_si, zl_sr, zl_sl, zl_sa, zl_sq, zai_si, zai_sr, zai_sl, zai_sa, zai_sq, zar_si, zar_sr, zar_sl, zar_sa, zar_sq, zkd_si, zkd_sr, zkd_sl, zkd_sa, zkd_sq, zln_si, zln_sr, zln_sl, zln_sa, zln_sq, znx_si, znx_sr, znx_sl, znx_sa, znx_sq, (hp.fr hI.1).1, hI.2.1.2, if_true, n_lt (show y < 2 ^ 31 by omega) (show h < 2 ^ 31 by omega), hy]
      rfl, hI⟩)
    (fun y x s hy hx hI => by
      obtain ⟨g, ⟨gw, gh⟩, gp, gu⟩ := hI
      have hp' := hp.fr g
      have hq' := hq.fr g
      have e1 : zai s.1 (q + 1) (16 * y + x) = iI (px x y) := by
        rw [g.ai (by unfold inP; omega)]
        exact hv.2.2 x y hx hy
      refine ⟨(zsa s.1 (p + 1) (16 * y + x) (iI (px x y)), s.2), ?_, g.tr (zFr.sa _ (Or.inr rfl)), ⟨gw, gh⟩, fun x' y' hb => ?_, fun j hj => ?_⟩
      · show LX6_copyFrom_17 _ _ _ _ _ _ = LX6_copyFrom_17 _ _ _ _ _ _
        rw [uX6_copyFrom_17]
        simp only [zlt_e, onR_s, nul_s, nul_n, chk_e, bnI_s, bnR_s, bnV_s, zi_si, zi_sr, zi_sl, zi_sa, zi_sq, zr_si, zr_sr, zr_sl, zr_sa, zr_sq, zl_si, zl_sr, zl_sl, zl_sa, zl_sq, zai_si, zai_sr, zai_sl, zai_sa, zai_sq, zar_si, zar_sr, zar_sl, zar_sa, zar_sq, zkd_si, zkd_sr, zkd_sl, zkd_sa, zkd_sq, zln_si, zln_sr, zln_sl, zln_sa, zln_sq, znx_si, znx_sr, znx_sl, znx_sa, znx_sq, hp'.1, hq'.1, gw, if_true, n_lt (show x < 2 ^ 31 by omega) (show w < 2 ^ 31 by omega), hx, s_at hq' (show x < 16 by omega) (show y < 16 by omega), s_put hp' (show x < 16 by omega) (show y < 16 by omega), nI_1, e1]
      · rw [zai_sa]
        by_cases hxy : x' = x ∧ y' = y
        · rw [if_pos ⟨rfl, by rw [hxy.1, hxy.2]⟩, hxy.1, hxy.2]
        · rw [if_neg (by unfold bef at hb; omega)]
          exact gp x' y' (by unfold bef at hb ⊢; omega)
      · rw [zai_sa, if_neg (fun q => hj x y hx hy q.2)]
        exact gu j hj)
    (fun y s hy hI => ⟨(s.1, .inl (nI w)), by
      show LX6_copyFrom_17 _ _ _ _ _ _ = LX6_copyFrom_7 _ _ _ _ _ _
      rw [uX6_copyFrom_17]
      simp only [zlt_e, onR_s, nul_s, nul_n, chk_e, bnI_s, bnR_s, bnV_s, zi_si, zi_sr, zi_sl, zi_sa, zi_sq, zr_si, zr_sr, zr_sl, zr_sa, zr_sq, zl_si, zl_sr, zl_sl, zl_sa, zl_sq, zai_si, zai_sr, zai_sl, zai_sa, zai_sq, zar_si, zar_sr, zar_sl, zar_sa, zar_sq, zkd_si, zkd_sr, zkd_sl, zkd_sa, zkd_sq, zln_si, zln_sr, zln_sl, zln_sa, zln_sq, znx_si, znx_sr, znx_sl, znx_sa, znx_sq, (hp.fr hI.1).1, hI.2.1.1, if_true, n_lt (show w < 2 ^ 31 by omega) (show w < 2 ^ 31 by omega), Nat.lt_irrefl, if_false, nI_1], hI.1, hI.2.1, fun x' y' hb => hI.2.2.1 x' y' (by unfold bef at hb ⊢; omega), hI.2.2.2⟩)
    (fun s hI => by
      show LX6_copyFrom_7 _ _ _ _ _ _ = _
      rw [uX6_copyFrom_7]
      simp only [zlt_e, onR_s, nul_s, nul_n, chk_e, bnI_s, bnR_s, bnV_s, zi_si, zi_sr, zi_sl, zi_sa, zi_sq, zr_si, zr_sr, zr_sl, zr_sa, zr_sq, zl_si, zl_sr, zl_sl, zl_sa, zl_sq, zai_si, zai_sr, zai_sl, zai_sa, zai_sq, zar_si, zar_sr, zar_sl, zar_sa, zar_sq, zkd_si, zkd_sr, zkd_sl, zkd_sa, zkd_sq, zln_si, zln_sr, zln_sl, zln_sa, zln_sq, znx_si, znx_sr, znx_sl, znx_sa, znx_sq, (hp.fr hI.1).1, hI.2.1.2, if_true, n_lt (show h < 2 ^ 31 by omega) (show h < 2 ^ 31 by omega), Nat.lt_irrefl, if_false])
  exact ⟨τ, h1, h2.1, ⟨h2.2.1.1, h2.2.1.2, fun x y hx hy => h2.2.2.1 x y (by unfold bef; omega)⟩, h2.2.2.2⟩
/-- tiles of the lowest k layers are gone, those above have moved down -/
def shU (u : Nat → Nat) (k p : Nat) : Nat := if p + 64 * k < 512 then u (p + 64 * k) else 0
/-- on the way, all places before s done -/
def shS (u : Nat → Nat) (g s p : Nat) : Nat := if p + g < s then u (p + g) else if p < s then 0 else u p
theorem shS_cnt {u : Nat → Nat} {g s : Nat} (hg : 1 ≤ g) (hs : g ≤ s) (h5 : s < 512) : cnt (shS u g (s + 1)) 512 = cnt (shS u g s) 512 := by
  have e0 : shS u g s (s - g) = 0 := by unfold shS; rw [if_neg (by omega), if_pos (by omega)]
  have e1 : shS u g s s = u s := by unfold shS; rw [if_neg (by omega), if_neg (by omega)]
  by_cases hz : u s = 0
  · refine cnt_congr 512 (fun p hp => ?_)
    unfold shS
    by_cases a : p = s - g
    · rw [if_pos (by omega), if_neg (by omega), if_pos (by omega), show p + g = s by omega, hz]
    · by_cases b : p = s
      · subst b
        rw [if_neg (by omega), if_pos (by omega), if_neg (by omega), if_neg (by omega), hz]
      · by_cases c : p + g < s
        · rw [if_pos (by omega), if_pos c]
        · rw [if_neg (by omega), if_neg c]
          by_cases c2 : p < s
          · rw [if_pos (by omega), if_pos c2]
          · rw [if_neg (by omega), if_neg c2]
  · have a1 := cnt_st (shS u g s) (s - g) (u s) 512 hz (by omega)
    have a2 := cnt_clr (stU (shS u g s) (s - g) (u s)) s 512 h5
    have e2 : stU (shS u g s) (s - g) (u s) s = u s := by unfold stU; rw [if_neg (by omega), e1]
    rw [e2, if_neg hz] at a2
    rw [e0, if_pos rfl] at a1
    have e3 : cnt (clr (stU (shS u g s) (s - g) (u s)) s) 512 = cnt (shS u g (s + 1)) 512 := cnt_congr 512 (fun p hp => by
      have : clr (stU (shS u g s) (s - g) (u s)) s p = shS u g (s + 1) p := by
        unfold clr stU shS
        by_cases b : p = s
        · rw [if_pos b, if_neg (by omega), if_pos (by omega)]
        · rw [if_neg b]
          by_cases a : p = s - g
          · rw [if_pos a, if_pos (by omega)]
            congr 1
            omega
          · rw [if_neg a]
            by_cases c : p + g < s
            · rw [if_pos c, if_pos (by omega)]
            · rw [if_neg c, if_neg (show ¬ p + g < s + 1 by omega)]
              by_cases c2 : p < s
              · rw [if_pos c2, if_pos (by omega)]
              · rw [if_neg c2, if_neg (by omega)]
      rw [this])
    omega
theorem s_removeLowest {σ : zS} {X k : Nat} {u : Nat → Nat} (hX : TcS σ X) (hQ : TcQ σ X) (hU : TcU σ X u) (hB : ∀ k, k < 512 → u k < 2 ^ 31) (hO : OutR σ X) (hk1 : 1 ≤ k) (hk : k ≤ 8) (d : Nat) : ∃ τ, zEv (d + 3) mX9_removeLowest [.inr (.inl (some X)), .inl (nI k)] σ = some (none, τ) ∧ zFr (fun a => inU X a ∨ (X + 3 ≤ a ∧ a < X + 19)) σ τ ∧ TcU τ X (shU u k) ∧ keepU X σ τ ∧ OutR τ X ∧ ∀ i, i + k < 8 → zi τ 257 (X + 3 + 2 * i) = zi σ 257 (X + 3 + 2 * (i + k)) ∧ zi τ 258 (X + 3 + 2 * i) = zi σ 258 (X + 3 + 2 * (i + k)) ∧ ∀ w h x y, w ≤ 16 → h ≤ 16 → zi σ 257 (X + 3 + 2 * (i + k)) = nI w → zi σ 258 (X + 3 + 2 * (i + k)) = nI h → x < w → y < h → zai τ (X + 3 + 2 * i + 1) (16 * y + x) = zai σ (X + 3 + 2 * (i + k) + 1) (16 * y + x) := by
  have e1 : ¬ (nI k < 1) := by
    have : (nI k < (1 : Int32)) ↔ k < 1 := n_lt (by omega) (by decide)
    rw [this]; omega
  have e64 : nI k * 64 = nI (64 * k) := by rw [nL 64, pk_mul, Nat.mul_comm]
  have n512 : Int32.ofNat 512 = nI 512 := rfl
  have n8 : Int32.ofNat 8 = nI 8 := rfl
  obtain ⟨τ0, n, a1, a2, a3, a4, a5⟩ := s_removeSlots (a := 0) (b := 64 * k) hX hU hB (by omega) (by omega) d
  have a1' : zEv (d + 2) mX9_removeSlots [.inr (.inl (some X)), .inl 0, .inl (nI (64 * k))] σ = some (some (.inl (nI n)), τ0) := a1
  rw [vX9_removeLowest]
  unfold fX9_removeLowest
  rw [if_neg e1]
  simp only [zlt_e, onR_s, nul_s, nul_n, chk_e, bnI_s, bnR_s, bnV_s, zi_si, zi_sr, zi_sl, zi_sa, zi_sq, zr_si, zr_sr, zr_sl, zr_sa, zr_sq, zl_si, zl_sr, zl_sl, zl_sa, zl_sq, zai_si, zai_sr, zai_sl, zai_sa, zai_sq, zar_si, zar_sr, zar_sl, zar_sa, zar_sq, zkd_si, zkd_sr, zkd_sl, zkd_sa, zkd_sq, zln_si, zln_sr, zln_sl, zln_sa, zln_sq, znx_si, znx_sr, znx_sl, znx_sa, znx_sq, e64, hX.1, if_true, a1']
  have hz0 : ∀ p, p < 512 → zrU u 0 (64 * k) p = shS u (64 * k) (64 * k) p := fun p hp => by
    unfold zrU shS
    by_cases c : p < 64 * k
    · rw [if_pos (by omega), if_neg (by omega), if_pos c]
    · rw [if_neg (by omega), if_neg (by omega), if_neg c]
  have hU0 := a3.congr hz0
  -- the moments move
  obtain ⟨τ1, b1, b2⟩ := loop_ge (fun s τ => LX9_removeLowest_20 (zEv (d + 2)) X (nI k) (nI (64 * k)) (nI s) τ) (fun s τ => zFr (inU X) σ τ ∧ keepU X σ τ ∧ TcU τ X (shS u (64 * k) s)) (64 * k) 512 (fun τ => LX9_removeLowest_58 (zEv (d + 2)) X (nI k) (.inl (nI (64 * k))) (nI k) (.inr (.inr none)) (.inr (.inr none)) τ) τ0 (by omega) ⟨a2, a4, hU0⟩
    (fun s τ hs1 hs hI => by
      obtain ⟨g, gk, gU⟩ := hI
      have hX' := hX.fr g
      have ev : zai τ (X + 2) s = nI (u s) := by rw [gU.2 s hs]; congr 1; unfold shS; rw [if_neg (by omega), if_neg (by omega)]
      have es : nI s - nI (64 * k) = nI (s - 64 * k) := nI_sub (by omega)
      refine ⟨zsa (zsa τ (X + 2) (s - 64 * k) (nI (u s))) (X + 2) s 0, ?_, g.tr ((zFr.sa _ (Or.inr rfl)).tr (zFr.sa _ (Or.inr rfl))), gk, ?_, fun p hp => ?_⟩
      · show LX9_removeLowest_20 _ _ _ _ _ _ = LX9_removeLowest_20 _ _ _ _ _ _
        rw [uX9_removeLowest_20]
        simp only [zlt_e, onR_s, nul_s, nul_n, chk_e, bnI_s, bnR_s, bnV_s, zi_si, zi_sr, zi_sl, zi_sa, zi_sq, zr_si, zr_sr, zr_sl, zr_sa, zr_sq, zl_si, zl_sr, zl_sl, zl_sa, zl_sq, zai_si, zai_sr, zai_sl, zai_sa, zai_sq, zar_si, zar_sr, zar_sl, zar_sa, zar_sq, zkd_si, zkd_sr, zkd_sl, zkd_sa, zkd_sq, zln_si, zln_sr, zln_sl, zln_sa, zln_sq, znx_si, znx_sr, znx_sl, znx_sa, znx_sq, hX'.1, hX'.2.2.2.2.1, hX'.2.2.2.2.2.1, hX'.2.2.2.2.2.2.1, if_true, n512, n_lt (show s < 2 ^ 31 by omega) (show 512 < 2 ^ 31 by decide), hs, es, n_zin (show s < 2 ^ 31 by omega), n_tn (show s < 2 ^ 31 by omega), n_zin (show s - 64 * k < 2 ^ 31 by omega), n_tn (show s - 64 * k < 2 ^ 31 by omega), show s - 64 * k < 512 by omega, and_self, ev, nI_1]
      · rw [shS_cnt (by omega) hs1 hs]
        exact gU.1
      · rw [zai_sa, zai_sa]
        by_cases c1 : p = s
        · rw [if_pos ⟨rfl, c1⟩]
          unfold shS
          rw [if_neg (by omega), if_pos (by omega)]
          rfl
        · rw [if_neg (by omega)]
          by_cases c2 : p = s - 64 * k
          · rw [if_pos ⟨rfl, c2⟩]
            unfold shS
            rw [if_pos (by omega)]
            congr 2
            omega
          · rw [if_neg (by omega), gU.2 p hp]
            congr 1
            unfold shS
            by_cases c3 : p + 64 * k < s
            · rw [if_pos c3, if_pos (by omega)]
            · rw [if_neg c3, if_neg (show ¬ p + 64 * k < s + 1 by omega)]
              by_cases c4 : p < s
              · rw [if_pos c4, if_pos (by omega)]
              · rw [if_neg c4, if_neg (by omega)])
    (fun τ hI => by
      have hX' := hX.fr hI.1
      rw [uX9_removeLowest_20]
      simp only [zlt_e, onR_s, nul_s, nul_n, chk_e, bnI_s, bnR_s, bnV_s, zi_si, zi_sr, zi_sl, zi_sa, zi_sq, zr_si, zr_sr, zr_sl, zr_sa, zr_sq, zl_si, zl_sr, zl_sl, zl_sa, zl_sq, zai_si, zai_sr, zai_sl, zai_sa, zai_sq, zar_si, zar_sr, zar_sl, zar_sa, zar_sq, zkd_si, zkd_sr, zkd_sl, zkd_sa, zkd_sq, zln_si, zln_sr, zln_sl, zln_sa, zln_sq, znx_si, znx_sr, znx_sl, znx_sa, znx_sq, hX'.1, hX'.2.2.2.2.1, hX'.2.2.2.2.2.1, hX'.2.2.2.2.2.2.1, if_true, n512, n_lt (show 512 < 2 ^ 31 by decide) (show 512 < 2 ^ 31 by decide), Nat.lt_irrefl, if_false])
  rw [b1]
  obtain ⟨g1, gk1, gU1⟩ := b2
  have hU1 : TcU τ1 X (shU u k) := gU1.congr (fun p hp => by
    unfold shS shU
    by_cases c : p + 64 * k < 512
    · rw [if_pos c, if_pos c]
    · rw [if_neg c, if_neg c, if_pos hp])
  have hO1 : OutR τ1 X := hO.fr g1 (fun a h1 h2 => by unfold inU; omega)
  -- the pictures move
  obtain ⟨⟨τ, y1, y2⟩, c1, c2⟩ := loop_ge (fun i (s : zS × zV × zV) => LX9_removeLowest_58 (zEv (d + 2)) X (nI k) (.inl (nI (64 * k))) (nI i) s.2.1 s.2.2 s.1) (fun i s => zFr (fun a => X + 3 ≤ a ∧ a < X + 3 + 2 * (i - k)) τ1 s.1 ∧ OutR s.1 X ∧ ∀ j, j + k < i → zi s.1 257 (X + 3 + 2 * j) = zi τ1 257 (X + 3 + 2 * (j + k)) ∧ zi s.1 258 (X + 3 + 2 * j) = zi τ1 258 (X + 3 + 2 * (j + k)) ∧ ∀ w h x y, w ≤ 16 → h ≤ 16 → zi τ1 257 (X + 3 + 2 * (j + k)) = nI w → zi τ1 258 (X + 3 + 2 * (j + k)) = nI h → x < w → y < h → zai s.1 (X + 3 + 2 * j + 1) (16 * y + x) = zai τ1 (X + 3 + 2 * (j + k) + 1) (16 * y + x)) k 8 (fun s => some (none, s.1)) (τ1, .inr (.inr none), .inr (.inr none)) hk ⟨zFr.rf τ1, hO1, fun j hj => by omega⟩
    (fun i s hi1 hi hI => by
      obtain ⟨g, gO, gp⟩ := hI
      have hX' := (hX.fr g1).fr g
      have hQ' : TcQ s.1 X := (hQ.fr g1 (by unfold inU; omega)).fr g (by omega)
      have es : nI i - nI k = nI (i - k) := nI_sub (by omega)
      obtain ⟨⟨w, h, w16, h16, ew, eh⟩, hv⟩ := gO i hi
      have hpx : ∃ px : Nat → Nat → Int, (∀ x y, x < w → y < h → zai s.1 (X + 3 + 2 * i + 1) (16 * y + x) = iI (px x y)) ∧ ∀ x y, x < w → y < h → 0 ≤ px x y ∧ px x y ≤ 255 := by
        refine ⟨fun x y => (zai s.1 (X + 3 + 2 * i + 1) (16 * y + x)).toInt, fun x y _ _ => i_of _, fun x y hx hy => ?_⟩
        obtain ⟨v, hv1, hv2⟩ := hv (16 * y + x) (by omega)
        show 0 ≤ (zai s.1 (X + 3 + 2 * i + 1) (16 * y + x)).toInt ∧ (zai s.1 (X + 3 + 2 * i + 1) (16 * y + x)).toInt ≤ 255
        rw [hv2, i_toInt (by omega) (by omega)]
        exact hv1
      obtain ⟨px, hpx1, hpx2⟩ := hpx
      obtain ⟨υ, k1, k2, k3, k4⟩ := s_copyFrom2 (p := X + 3 + 2 * (i - k)) (q := X + 3 + 2 * i) (hX'.2.2.2.2.2.2.2 (i - k) (by omega)) (hX'.2.2.2.2.2.2.2 i hi) (by omega) ⟨ew, eh, hpx1⟩ w16 h16 d
      refine ⟨(υ, .inr (.inl (some (X + 3 + 2 * i))), .inr (.inl (some (X + 3 + 2 * (i - k))))), ?_, (g.mono (fun a ha => by omega)).tr (k2.mono (fun a ha => by unfold inP at ha; omega)), fun j hj => ?_, fun j hj => ?_⟩
      · show LX9_removeLowest_58 _ _ _ _ _ _ _ _ = LX9_removeLowest_58 _ _ _ _ _ _ _ _
        rw [uX9_removeLowest_58]
        simp only [zlt_e, onR_s, nul_s, nul_n, chk_e, bnI_s, bnR_s, bnV_s, zi_si, zi_sr, zi_sl, zi_sa, zi_sq, zr_si, zr_sr, zr_sl, zr_sa, zr_sq, zl_si, zl_sr, zl_sl, zl_sa, zl_sq, zai_si, zai_sr, zai_sl, zai_sa, zai_sq, zar_si, zar_sr, zar_sl, zar_sa, zar_sq, zkd_si, zkd_sr, zkd_sl, zkd_sa, zkd_sq, zln_si, zln_sr, zln_sl, zln_sa, zln_sq, znx_si, znx_sr, znx_sl, znx_sa, znx_sq, hX'.1, hX'.2.1, hX'.2.2.1, hX'.2.2.2.1, if_true, n8, n_lt (show i < 2 ^ 31 by omega) (show 8 < 2 ^ 31 by decide), hi, es, n_zin (show i < 2 ^ 31 by omega), n_tn (show i < 2 ^ 31 by omega), n_zin (show i - k < 2 ^ 31 by omega), n_tn (show i - k < 2 ^ 31 by omega), show i - k < 8 by omega, and_self, hQ' i hi, hQ' (i - k) (by omega), (hX'.2.2.2.2.2.2.2 (i - k) (by omega)).1, k1, nI_1]
      · by_cases e : j = i - k
        · rw [e]
          refine ⟨⟨w, h, w16, h16, k3.1, k3.2.1⟩, fun p hp => ?_⟩
          by_cases c : p % 16 < w ∧ p / 16 < h
          · refine ⟨px (p % 16) (p / 16), hpx2 _ _ c.1 c.2, ?_⟩
            have := k3.2.2 _ _ c.1 c.2
            rwa [show 16 * (p / 16) + p % 16 = p by omega] at this
          · rw [k4 p (fun x y hx hy e => c (by omega))]
            exact (gO (i - k) (by omega)).2 p hp
        · have f : zFr (inP (X + 3 + 2 * (i - k))) s.1 υ := k2
          rw [f.i (by unfold inP; omega), f.i (by unfold inP; omega)]
          exact ⟨(gO j hj).1, fun p hp => by rw [f.ai (by unfold inP; omega)]; exact (gO j hj).2 p hp⟩
      · by_cases e : j = i - k
        · subst e
          have ei : i - k + k = i := by omega
          rw [ei]
          have q1 : zi s.1 257 (X + 3 + 2 * i) = zi τ1 257 (X + 3 + 2 * i) := g.i (by omega) _
          have q2 : zi s.1 258 (X + 3 + 2 * i) = zi τ1 258 (X + 3 + 2 * i) := g.i (by omega) _
          refine ⟨by rw [k3.1, ← ew, q1], by rw [k3.2.1, ← eh, q2], fun w' h' x y hw' hh' ew' eh' hx hy => ?_⟩
          have hww : w' = w := by
            rw [← q1, ew] at ew'
            exact ((n_eq (by omega) (by omega)).mp ew').symm
          have hhh : h' = h := by
            rw [← q2, eh] at eh'
            exact ((n_eq (by omega) (by omega)).mp eh').symm
          rw [k3.2.2 x y (by omega) (by omega), ← hpx1 x y (by omega) (by omega)]
          exact g.ai (by omega) _
        · obtain ⟨p1, p2, p3⟩ := gp j (by omega)
          refine ⟨(k2.i (by unfold inP; omega) _).trans p1, (k2.i (by unfold inP; omega) _).trans p2, fun w' h' x y hw' hh' ew' eh' hx hy => ?_⟩
          rw [k2.ai (by unfold inP; omega)]
          exact p3 w' h' x y hw' hh' ew' eh' hx hy)
    (fun s hI => by
      have hX' := (hX.fr g1).fr hI.1
      rw [uX9_removeLowest_58]
      simp only [zlt_e, onR_s, nul_s, nul_n, chk_e, bnI_s, bnR_s, bnV_s, zi_si, zi_sr, zi_sl, zi_sa, zi_sq, zr_si, zr_sr, zr_sl, zr_sa, zr_sq, zl_si, zl_sr, zl_sl, zl_sa, zl_sq, zai_si, zai_sr, zai_sl, zai_sa, zai_sq, zar_si, zar_sr, zar_sl, zar_sa, zar_sq, zkd_si, zkd_sr, zkd_sl, zkd_sa, zkd_sq, zln_si, zln_sr, zln_sl, zln_sa, zln_sq, znx_si, znx_sr, znx_sl, znx_sa, znx_sq, hX'.1, hX'.2.1, hX'.2.2.1, hX'.2.2.2.1, if_true, n8, n_lt (show 8 < 2 ^ 31 by decide) (show 8 < 2 ^ 31 by decide), Nat.lt_irrefl, if_false])
  obtain ⟨g, gO, gp⟩ := c2
  have sz : ∀ f a, X + 3 ≤ a → zi τ1 f a = zi σ f a := fun f a ha => g1.i (by unfold inU; omega) f
  have sa : ∀ a j, X + 3 ≤ a → zai τ1 a j = zai σ a j := fun a j ha => g1.ai (by unfold inU; omega) j
  refine ⟨τ, c1, (g1.mono (fun a ha => Or.inl ha)).tr (g.mono (fun a ha => Or.inr (by omega))), hU1.fr g (by omega) (by omega), fun f hf => (g.i (by omega) f).trans (gk1 f hf), gO, fun i hi => ?_⟩
  obtain ⟨p1, p2, p3⟩ := gp i hi
  refine ⟨by rw [p1, sz _ _ (by omega)], by rw [p2, sz _ _ (by omega)], fun w h x y hw hh ew eh hx hy => ?_⟩
  rw [p3 w h x y hw hh (by rw [sz _ _ (by omega)]; exact ew) (by rw [sz _ _ (by omega)]; exact eh) hx hy, sa _ _ (by omega)]
/-- the composition behind flatten -/
def flC (C : zC) (k : Nat) : zC := (cW C, cH C, cN C - (k + 1), outI C (k + 1), fun i => cL C (i + (k + 1)))
theorem out_fl (C : zC) (k : Nat) : ∀ n, outI (flC C k) n = outI C (n + (k + 1))
  | 0 => by rw [Nat.zero_add]; rfl
  | n + 1 => by
    have ih := out_fl C k n
    rw [show n + 1 + (k + 1) = (n + (k + 1)) + 1 by omega]
    show (if cL C (n + (k + 1)) 5 = 1 then lyI (cW C) (cH C) (cL C (n + (k + 1))) (outI (flC C k) n) else outI (flC C k) n) = (if cL C (n + (k + 1)) 5 = 1 then lyI (cW C) (cH C) (cL C (n + (k + 1))) (outI C (n + (k + 1))) else outI C (n + (k + 1)))
    rw [ih]
theorem GC.fl {C : zC} (h : GC C) {k : Nat} (hk : k < cN C) : GC (flC C k) :=
  ⟨h.1, h.2.1, by show cN C - (k + 1) ≤ 8; have := h.2.2.1; omega, outI_R h (k + 1) hk, fun i hi => h.2.2.2.2 _ (by have hi : i < cN C - (k + 1) := hi; omega)⟩
def rFla (A : zW) (x : Int32) : Int32 := if zin x (cN (aC A)) then nI (cN (aC A) - (x.toNatClampNeg + 1)) else -1001
def tFla (A : zW) (x : Int32) : zW := if zin x (cN (aC A)) then aTil (aSet (aPush A) (flC (aC A) x.toNatClampNeg)) (shU (aU A) (x.toNatClampNeg + 1)) else A
theorem shU_nz {u : Nat → Nat} {k p : Nat} (h : shU u k p ≠ 0) : p + 64 * k < 512 ∧ u (p + 64 * k) ≠ 0 := by
  unfold shU at h
  by_cases c : p + 64 * k < 512
  · rw [if_pos c] at h; exact ⟨c, h⟩
  · rw [if_neg c] at h; exact absurd rfl h
theorem GA.fla {A : zW} {b : Nat} (hG : GA A b) (x : Int32) : GA (tFla A x) b := by
  unfold tFla
  split
  · next h =>
    have hk := (zin_n h).2
    generalize x.toNatClampNeg = k at *
    obtain ⟨hC, hH, hS, hT, hs, hlm, hu, hv, hb⟩ := hG.push
    refine ⟨hG.1.fl hk, hH, hS, hT, hs, hlm, fun p hp => ?_, fun p hp hz => ?_, hb⟩
    · show shU (aU A) (k + 1) p ≤ tCk (aT A)
      by_cases e : shU (aU A) (k + 1) p = 0
      · omega
      · have := shU_nz e
        have e2 : shU (aU A) (k + 1) p = aU A (p + 64 * (k + 1)) := by unfold shU; rw [if_pos this.1]
        rw [e2]
        exact hu _ this.1
    · have hz := shU_nz (u := aU A) hz
      have hv' := hv _ hz.1 hz.2
      have e1 : (p + 64 * (k + 1)) / 64 = p / 64 + (k + 1) := by omega
      have e2 : (p + 64 * (k + 1)) % 8 = p % 8 := by omega
      have e3 : (p + 64 * (k + 1)) / 8 % 8 = p / 8 % 8 := by omega
      rw [e1, e2, e3] at hv'
      exact ⟨by show p / 64 < cN (aC A) - (k + 1); have : p / 64 + (k + 1) < cN (aC A) := hv'.1; omega, hv'.2.1, hv'.2.2⟩
  · exact hG
theorem c_flatten {σ : zS} {o b : Nat} {A : zW} {q u P : Nat → Nat} (hG : GA A b) (hb : b < 2 ^ 30) (hI : CIx σ o A q u P) (x : Int32) (d : Nat) : zOC o (zEv (d + 20) mX10_flatten [.inr (.inl (some o)), .inl x] σ) (rFla A x) (tFla A x) σ := by
  have hR := hI.1
  have hO := hR.1
  have hn8 := hG.1.2.2.1
  have hw := hG.1.1
  have hh := hG.1.2.1
  rw [vX10_flatten]
  unfold fX10_flatten rFla tFla
  simp only [zlt_e, onR_s, nul_s, nul_n, chk_e, bnI_s, bnR_s, bnV_s, zi_si, zi_sr, zi_sl, zi_sa, zi_sq, zr_si, zr_sr, zr_sl, zr_sa, zr_sq, zl_si, zl_sr, zl_sl, zl_sa, zl_sq, zai_si, zai_sr, zai_sl, zai_sa, zai_sq, zar_si, zar_sr, zar_sl, zar_sa, zar_sq, zkd_si, zkd_sr, zkd_sl, zkd_sa, zkd_sq, zln_si, zln_sr, zln_sl, zln_sa, zln_sq, znx_si, znx_sr, znx_sl, znx_sa, znx_sq, hO.f.1, hO.f.2.1, hO.c.1, if_true]
  by_cases hx : zin x (cN (aC A))
  · obtain ⟨ex, hk⟩ := zin_n hx
    generalize x.toNatClampNeg = k at *
    subst ex
    rw [if_pos hx, if_pos hx]
    obtain ⟨τ0, u', k1, k2, k3⟩ := s_cpush hG hI (d + 13)
    have hG1 := hG.push
    have hO1 := k3.1.1
    obtain ⟨τ1, l1, l2, l3, l4⟩ := s_shown (k := k + 1) hG1 k3 (show k + 1 ≤ cN (aC A) by omega) (d + 13)
    have ek : iI (((k + 1 : Nat) : Int) - 1) = nI k := by rw [i_nI]; congr 1; omega
    rw [ek] at l1
    have hO2 := l3.1.1
    obtain ⟨τ2, m1, m2, m3⟩ := s_copyFrom hO2.c.2.2.2.1 hO2.sh (by omega) l4 hw.2 hh.2 (d + 17)
    have hO3 := hO2.fr m2
    have m3 : PicV τ2 (o + 1 + 1) (cW (aC A)) (cH (aC A)) (outI (aC A) (k + 1)) := m3
    have hq3 : CmQ τ2 (o + 1) q := l3.1.2.1.fr m2 (by unfold inP; omega)
    have hv3 : CmV τ2 (o + 1) q (cW (aC A), cH (aC A), cN (aC A) - 0, outI (aC A) (k + 1), fun i => cL (aC A) (i + 0)) := ⟨m3, (m2.i (by unfold inP; omega) _).trans l3.1.2.2.1.2.1, fun i hi => by
      have hi : i < cN (aC A) := hi
      have hqi := (l3.1.2.1.1 i (by omega)).2
      exact (l3.1.2.2.1.2.2 i hi).fr m2 (fun a ha => by unfold inL at ha; unfold inP; omega)⟩
    simp only [zlt_e, onR_s, nul_s, nul_n, chk_e, bnI_s, bnR_s, bnV_s, zi_si, zi_sr, zi_sl, zi_sa, zi_sq, zr_si, zr_sr, zr_sl, zr_sa, zr_sq, zl_si, zl_sr, zl_sl, zl_sa, zl_sq, zai_si, zai_sr, zai_sl, zai_sa, zai_sq, zar_si, zar_sr, zar_sl, zar_sa, zar_sq, zkd_si, zkd_sr, zkd_sl, zkd_sa, zkd_sq, zln_si, zln_sr, zln_sl, zln_sa, zln_sq, znx_si, znx_sr, znx_sl, znx_sa, znx_sq, s_layerAt hO.c hR.2.1 hR.2.2.1.2.1 hn8 hk, hO.f.1, hO.f.2.1, hO.f.2.2.2.1, hO.h.1, if_true, k1, hO1.f.1, hO1.f.2.1, hO1.f.2.2.2.2.2.2.2.1, hO1.f.2.2.2.2.2.2.2.2.1, hO1.rd.1, l1, hO2.f.1, hO2.f.2.1, hO2.c.1, hO2.c.2.1, hO2.c.2.2.2.1.1, hO2.f.2.2.2.2.2.2.2.2.1, m1]
    -- the layers go, one after another
    obtain ⟨⟨τ3, q3⟩, n1, n2⟩ := loop_from (fun i (s : zS × (Nat → Nat)) => LX10_flatten_58 (zEv (d + 19)) o (nI k) (nI i) s.1) (fun i s => zFr (fun a => a = o + 1 ∨ a = o + 4) τ2 s.1 ∧ CmQ s.1 (o + 1) s.2 ∧ CmV s.1 (o + 1) s.2 (cW (aC A), cH (aC A), cN (aC A) - i, outI (aC A) (k + 1), fun j => cL (aC A) (j + i))) 0 (k + 1) (fun s => LX10_flatten_58 (zEv (d + 19)) o (nI k) (nI (k + 1)) s.1) (τ2, q) (by omega) ⟨zFr.rf τ2, hq3, hv3⟩
      (fun i s hi hIi => by
        obtain ⟨g, gq, gv⟩ := hIi
        have hO' := hO3.fr g
        obtain ⟨υ, q', o1, o2, o3, o4, o5⟩ := s_takeOut (k := 0) hO'.c gq gv (show cN (aC A) - i ≤ 8 by omega) (show 0 < cN (aC A) - i by omega) (d + 16)
        refine ⟨(υ, q'), ?_, g.tr (o2.mono (fun a ha => by omega)), o3, gv.1.fr o2 (by omega) (by omega), ?_, fun j hj => ?_⟩
        · have o1' : zEv (d + 19) mX0_takeOut [.inr (.inl (some (o + 1))), .inl 0] s.1 = some (none, υ) := o1
          show LX10_flatten_58 _ _ _ _ _ = LX10_flatten_58 _ _ _ _ _
          rw [uX10_flatten_58]
          simp only [zlt_e, onR_s, nul_s, nul_n, chk_e, bnI_s, bnR_s, bnV_s, zi_si, zi_sr, zi_sl, zi_sa, zi_sq, zr_si, zr_sr, zr_sl, zr_sa, zr_sq, zl_si, zl_sr, zl_sl, zl_sa, zl_sq, zai_si, zai_sr, zai_sl, zai_sa, zai_sq, zar_si, zar_sr, zar_sl, zar_sa, zar_sq, zkd_si, zkd_sr, zkd_sl, zkd_sa, zkd_sq, zln_si, zln_sr, zln_sl, zln_sa, zln_sq, znx_si, znx_sr, znx_sl, znx_sa, znx_sq, n_le (show i < 2 ^ 31 by omega) (show k < 2 ^ 31 by omega), show i ≤ k by omega, if_true, hO'.f.1, hO'.f.2.1, hO'.c.1, o1', nI_1]
        · rw [o4]
          show nI (cN (aC A) - i - 1) = nI (cN (aC A) - (i + 1))
          congr 1
        · have hj : j < cN (aC A) - (i + 1) := hj
          have := o5 j (show j < cN (aC A) - i - 1 by omega)
          show LyV υ (o + 1 + 4 + 3 * q' j) (cL (aC A) (j + (i + 1)))
          have e : lCut (fun j => cL (aC A) (j + i)) 0 j = cL (aC A) (j + (i + 1)) := by
            unfold lCut
            rw [if_neg (Nat.not_lt_zero _)]
            show cL (aC A) (j + 1 + i) = _
            congr 1
            omega
          rw [← e]
          exact this)
      (fun s hIi => rfl)
    have n1 : LX10_flatten_58 (zEv (d + 19)) o (nI k) 0 τ2 = LX10_flatten_58 (zEv (d + 19)) o (nI k) (nI (k + 1)) τ3 := n1
    obtain ⟨g3, gq3, gv3⟩ := n2
    have gv3 : CmV τ3 (o + 1) q3 (flC (aC A) k) := gv3
    have hO4 := hO3.fr g3
    have gl : zFr (fun a => a = o + 1 ∨ a = o + 2 ∨ a = o + 3 ∨ a = o + 4) τ1 τ3 := (m2.mono (fun a ha => by unfold inP at ha; omega)).tr (g3.mono (fun a ha => by omega))
    have hU3 : TcU τ3 (o + 230) (aU A) := l3.1.2.2.2.2.1.fr gl (by omega) (by omega)
    have hOut3 : OutR τ3 (o + 230) := l3.1.2.2.2.2.2.2.1.fr gl (fun a h1 h2 => by omega)
    have hQ3 : TcQ τ3 (o + 230) := l3.1.2.2.2.1.fr gl (by omega)
    have hF3 : TcF τ3 (o + 230) (aT A) := l3.1.2.2.2.2.2.1.fr gl (by omega)
    have hCo3 := l3.1.2.2.2.2.2.2.2.1.fr gl (fun a h1 h2 => by omega)
    obtain ⟨τ4, p1, p2, p3, p4, p5, p6⟩ := s_removeLowest (k := k + 1) hO4.tc hQ3 hU3 (hG.u31 hb) hOut3 (by omega) (by omega) (d + 16)
    have hO5 := hO4.fr p2
    have hv5 : CmV τ4 (o + 1) q3 (flC (aC A) k) := gv3.fr gq3 (show cN (aC A) - (k + 1) ≤ 8 by omega) p2 (fun a ha => by unfold inC at ha; unfold inU; omega)
    have n5 : zi τ4 2 (o + 1) = nI (cN (aC A) - (k + 1)) := hv5.2.1
    have gAll : zFr (fun a => (o + 1 ≤ a ∧ a ≤ o + 4) ∨ (o + 230 ≤ a ∧ a < o + 249 ∧ a ≠ o + 231)) τ1 τ4 := (gl.mono (fun a ha => by omega)).tr (p2.mono (fun a ha => by unfold inU at ha; omega))
    have en : nI k + 1 = nI (k + 1) := nI_1 k
    rw [n1, uX10_flatten_58]
    simp only [zlt_e, onR_s, nul_s, nul_n, chk_e, bnI_s, bnR_s, bnV_s, zi_si, zi_sr, zi_sl, zi_sa, zi_sq, zr_si, zr_sr, zr_sl, zr_sa, zr_sq, zl_si, zl_sr, zl_sl, zl_sa, zl_sq, zai_si, zai_sr, zai_sl, zai_sa, zai_sq, zar_si, zar_sr, zar_sl, zar_sa, zar_sq, zkd_si, zkd_sr, zkd_sl, zkd_sa, zkd_sq, zln_si, zln_sr, zln_sl, zln_sa, zln_sq, znx_si, znx_sr, znx_sl, znx_sa, znx_sq, n_le (show k + 1 < 2 ^ 31 by omega) (show k < 2 ^ 31 by omega), show ¬ k + 1 ≤ k by omega, if_false, hO4.f.1, hO4.f.2.2.2.2.2.2.1, hO4.tc.1, if_true, en, p1, hO5.f.1, hO5.f.2.1, hO5.c.1, s_layerCount hO5.c, n5]
    obtain ⟨hR2, ⟨r, hr⟩, hHQ, hHV, hS, hT⟩ := l3
    refine ⟨τ4, q3, u', P, rfl, ⟨⟨hO5, gq3.fr p2 (by unfold inU; omega), hv5, hQ3.fr p2 (by unfold inU; omega), p3, hF3.kp p4, p5, fun j hj hz => ?_, rfl, fun j hj => (hG.fla (nI k) |> fun h => ?_)⟩, ⟨r, hr.fr gAll (by omega)⟩, hHQ.fr gAll (by omega), hHV.fr hHQ hG1.2.1.1 (fun i hi => (hG1.2.1.2 i hi).2.2.1) gAll (fun a ha => by unfold inH at ha; omega), hS.fr hG1.2.2.1 gAll (by omega) (fun a ha => by omega), hT.fr gAll (by omega) (by omega)⟩, (k2.mono (fun a ha => by unfold inH at ha; omega)).tr ((l2.mono (fun a ha => by omega)).tr (gAll.mono (fun a ha => by omega)))⟩
    · have hz := shU_nz (u := aU A) hz
      have e1 : (j + 64 * (k + 1)) / 64 = j / 64 + (k + 1) := by omega
      have e2 : (j + 64 * (k + 1)) % 8 = j % 8 := by omega
      have e3 : (j + 64 * (k + 1)) / 8 % 8 = j / 8 % 8 := by omega
      have hc := hCo3 _ hz.1 hz.2
      rw [e1, e2, e3] at hc
      obtain ⟨c1, c2, c3⟩ := hc
      obtain ⟨d1, d2, d3⟩ := p6 (j / 64) (by omega)
      refine ⟨d1.trans c1, d2.trans c2, fun x y hx hy ex ey => ?_⟩
      rw [d3 _ _ x y hw.2 hh.2 c1 c2 hx hy, c3 x y hx hy ex ey]
      show iI (outI (aC A) (j / 64 + (k + 1) + 1) x y) = iI (outI (flC (aC A) k) (j / 64 + 1) x y)
      rw [out_fl, show j / 64 + 1 + (k + 1) = j / 64 + (k + 1) + 1 by omega]
    · have e : tFla A (nI k) = aTil (aSet (aPush A) (flC (aC A) (nI k).toNatClampNeg)) (shU (aU A) ((nI k).toNatClampNeg + 1)) := if_pos hx
      rw [e, n_tn (show k < 2 ^ 31 by omega)] at h
      exact h.2.2.2.2.2.2.1 j hj
  · rw [if_neg hx, if_neg hx]
    simp only [zlt_e, onR_s, nul_s, nul_n, chk_e, bnI_s, bnR_s, bnV_s, zi_si, zi_sr, zi_sl, zi_sa, zi_sq, zr_si, zr_sr, zr_sl, zr_sa, zr_sq, zl_si, zl_sr, zl_sl, zl_sa, zl_sq, zai_si, zai_sr, zai_sl, zai_sa, zai_sq, zar_si, zar_sr, zar_sl, zar_sa, zar_sq, zkd_si, zkd_sr, zkd_sl, zkd_sa, zkd_sq, zln_si, zln_sr, zln_sl, zln_sa, zln_sq, znx_si, znx_sr, znx_sl, znx_sa, znx_sq, s_layerNo hO.c hR.2.2.1.2.1 hn8 hx]
    exact zOC.same hI _
