/-! pictures: whole loops -/
theorem zz {a b c : Nat} (h : a < b) : a ≤ b := Nat.le_of_lt h
theorem s_takeSizeOf {σ : zS} {p q : Nat} (hp : PicS σ p) (hq : PicS σ q) (hpq : p ≠ q) (d : Nat) : zEv (d + 1) mX6_takeSizeOf [.inr (.inl (some p)), .inr (.inl (some q))] σ = some (none, zsi (zsi σ 257 p (zi σ 257 q)) 258 p (zi σ 258 q)) := by
  rw [vX6_takeSizeOf]
  unfold fX6_takeSizeOf
  simp only [zlt_e, onR_s, nul_s, nul_n, chk_e, bnI_s, bnR_s, bnV_s, zi_si, zi_sr, zi_sl, zi_sa, zi_sq, zr_si, zr_sr, zr_sl, zr_sa, zr_sq, zl_si, zl_sr, zl_sl, zl_sa, zl_sq, zai_si, zai_sr, zai_sl, zai_sa, zai_sq, zar_si, zar_sr, zar_sl, zar_sa, zar_sq, zkd_si, zkd_sr, zkd_sl, zkd_sa, zkd_sq, zln_si, zln_sr, zln_sl, zln_sa, zln_sq, znx_si, znx_sr, znx_sl, znx_sa, znx_sq, hp.1, hq.1, if_true]
  simp
/-- what a row-by-row loop has done: all rows before y, and in row y all before x -/
def bef (w x y x' y' : Nat) : Prop := (y' < y ∧ x' < w) ∨ (y' = y ∧ x' < x)
theorem s_copyFrom {σ : zS} {p q w h : Nat} {px : Nat → Nat → Int} (hp : PicS σ p) (hq : PicS σ q) (hpq : p ≠ q ∧ p + 1 ≠ q ∧ p ≠ q + 1) (hv : PicV σ q w h px) (hw : w ≤ 16) (hh : h ≤ 16) (d : Nat) : ∃ τ, zEv (d + 2) mX6_copyFrom [.inr (.inl (some p)), .inr (.inl (some q))] σ = some (none, τ) ∧ zFr (inP p) σ τ ∧ PicV τ p w h px := by
  rw [vX6_copyFrom]
  unfold fX6_copyFrom
  simp only [zlt_e, onR_s, nul_s, nul_n, chk_e, bnI_s, bnR_s, bnV_s, zi_si, zi_sr, zi_sl, zi_sa, zi_sq, zr_si, zr_sr, zr_sl, zr_sa, zr_sq, zl_si, zl_sr, zl_sl, zl_sa, zl_sq, zai_si, zai_sr, zai_sl, zai_sa, zai_sq, zar_si, zar_sr, zar_sl, zar_sa, zar_sq, zkd_si, zkd_sr, zkd_sl, zkd_sa, zkd_sq, zln_si, zln_sr, zln_sl, zln_sa, zln_sq, znx_si, znx_sr, znx_sl, znx_sa, znx_sq, hp.1, if_true, s_takeSizeOf hp hq hpq.1]
  have hF : zFr (inP p) σ (zsi (zsi σ 257 p (zi σ 257 q)) 258 p (zi σ 258 q)) := (zFr.si σ (Or.inl rfl)).tr (zFr.si _ (Or.inl rfl))
  have hw0 : zi (zsi (zsi σ 257 p (zi σ 257 q)) 258 p (zi σ 258 q)) 257 p = nI w := by simp [zi_si, hv.1]
  have hh0 : zi (zsi (zsi σ 257 p (zi σ 257 q)) 258 p (zi σ 258 q)) 258 p = nI h := by simp [zi_si, hv.2.1]
  generalize zsi (zsi σ 257 p (zi σ 257 q)) 258 p (zi σ 258 q) = σ1 at hF hw0 hh0 ⊢
  let I : Nat → Nat → zS → Prop := fun y x τ => zFr (inP p) σ τ ∧ zi τ 257 p = nI w ∧ zi τ 258 p = nI h ∧ ∀ x' y', bef w x y x' y' → zai τ (p + 1) (16 * y' + x') = iI (px x' y')
  have inner : ∀ y τ, y < h → I y 0 τ → ∃ τ', LX6_copyFrom_17 (zEv (d + 1)) p (some q) (nI y) (nI 0) τ = LX6_copyFrom_7 (zEv (d + 1)) p (some q) (nI (y + 1)) (.inl (nI w)) τ' ∧ I (y + 1) 0 τ' := by
    intro y τ hy hI
    obtain ⟨τ', h1, h2⟩ := loop_from (fun x τ => LX6_copyFrom_17 (zEv (d + 1)) p (some q) (nI y) (nI x) τ) (I y) 0 w (fun τ => LX6_copyFrom_7 (zEv (d + 1)) p (some q) (nI (y + 1)) (.inl (nI w)) τ) τ (Nat.zero_le _) hI
      (fun x τ hx hI => by
        obtain ⟨g, gw, gh, gp⟩ := hI
        have hp' := hp.fr g
        have hq' := hq.fr g
        refine ⟨zsa τ (p + 1) (16 * y + x) (iI (px x y)), ?_, g.tr (zFr.sa _ (Or.inr rfl)), gw, gh, fun x' y' hb => ?_⟩
        · have e1 : zai τ (q + 1) (16 * y + x) = iI (px x y) := by
            rw [g.ai (by unfold inP; omega)]
            exact hv.2.2 x y hx hy
          show LX6_copyFrom_17 _ _ _ _ _ _ = LX6_copyFrom_17 _ _ _ _ _ _
          rw [uX6_copyFrom_17]
          simp only [zlt_e, onR_s, nul_s, nul_n, chk_e, bnI_s, bnR_s, bnV_s, zi_si, zi_sr, zi_sl, zi_sa, zi_sq, zr_si, zr_sr, zr_sl, zr_sa, zr_sq, zl_si, zl_sr, zl_sl, zl_sa, zl_sq, zai_si, zai_sr, zai_sl, zai_sa, zai_sq, zar_si, zar_sr, zar_sl, zar_sa, zar_sq, zkd_si, zkd_sr, zkd_sl, zkd_sa, zkd_sq, zln_si, zln_sr, zln_sl, zln_sa, zln_sq, znx_si, znx_sr, znx_sl, znx_sa, znx_sq, hp'.1, hq'.1, gw, if_true, n_lt (show x < 2 ^ 31 by omega) (show w < 2 ^ 31 by omega), hx, s_at hq' (show x < 16 by omega) (show y < 16 by omega), s_put hp' (show x < 16 by omega) (show y < 16 by omega), nI_1, e1]
        · rw [zai_sa]
          by_cases hxy : x' = x ∧ y' = y
          · rw [if_pos ⟨rfl, by rw [hxy.1, hxy.2]⟩, hxy.1, hxy.2]
          · rw [if_neg (by unfold bef at hb; omega)]
            exact gp x' y' (by unfold bef at hb ⊢; omega))
      (fun τ hI => by
        obtain ⟨g, gw, gh, gp⟩ := hI
        rw [uX6_copyFrom_17]
        simp only [zlt_e, onR_s, nul_s, nul_n, chk_e, bnI_s, bnR_s, bnV_s, zi_si, zi_sr, zi_sl, zi_sa, zi_sq, zr_si, zr_sr, zr_sl, zr_sa, zr_sq, zl_si, zl_sr, zl_sl, zl_sa, zl_sq, zai_si, zai_sr, zai_sl, zai_sa, zai_sq, zar_si, zar_sr, zar_sl, zar_sa, zar_sq, zkd_si, zkd_sr, zkd_sl, zkd_sa, zkd_sq, zln_si, zln_sr, zln_sl, zln_sa, zln_sq, znx_si, znx_sr, znx_sl, znx_sa, znx_sq, (hp.fr g).1, gw, if_true, n_lt (show w < 2 ^ 31 by omega) (show w < 2 ^ 31 by omega), Nat.lt_irrefl, if_false, nI_1])
    refine ⟨τ', h1, h2.1, h2.2.1, h2.2.2.1, fun x' y' hb => h2.2.2.2 x' y' (by unfold bef at hb ⊢; omega)⟩
  obtain ⟨⟨τ, z⟩, h1, h2⟩ := loop_from (fun y (s : zS × zV) => LX6_copyFrom_7 (zEv (d + 1)) p (some q) (nI y) s.2 s.1) (fun y s => I y 0 s.1) 0 h (fun s => some (none, s.1)) (σ1, .inr (.inr none)) (Nat.zero_le _) ⟨hF, hw0, hh0, fun x' y' hb => by unfold bef at hb; omega⟩
    (fun y s hy hI => by
      obtain ⟨τ', h3, h4⟩ := inner y s.1 hy hI
      refine ⟨(τ', .inl (nI w)), ?_, h4⟩
      show LX6_copyFrom_7 _ _ _ _ _ _ = LX6_copyFrom_7 _ _ _ _ _ _
      rw [uX6_copyFrom_7]
      simp only [zlt_e, onR_s, nul_s, nul_n, chk_e, bnI_s, bnR_s, bnV_s, zi_si, zi_sr, zi_sl, zi_sa, zi_sq, zr_si, zr_sr, zr_sl, zr_sa, zr_sq, zl_si, zl_sr, zl_sl, zl_sa, zl_sq, zai_si, zai_sr, zai_sl, zai_sa, zai_sq, zar_si, zar_sr, zar_sl, zar_sa, zar_sq, zkd_si, zkd_sr, zkd_sl, zkd_sa, zkd_sq, zln_si, zln_sr, zln_sl, zln_sa, zln_sq, znx_si, znx_sr, znx_sl, znx_sa, znx_sq, (hp.fr hI.1).1, hI.2.2.1, if_true, n_lt (show y < 2 ^ 31 by omega) (show h < 2 ^ 31 by omega), hy]
      exact h3)
    (fun s hI => by
      rw [uX6_copyFrom_7]
      simp only [zlt_e, onR_s, nul_s, nul_n, chk_e, bnI_s, bnR_s, bnV_s, zi_si, zi_sr, zi_sl, zi_sa, zi_sq, zr_si, zr_sr, zr_sl, zr_sa, zr_sq, zl_si, zl_sr, zl_sl, zl_sa, zl_sq, zai_si, zai_sr, zai_sl, zai_sa, zai_sq, zar_si, zar_sr, zar_sl, zar_sa, zar_sq, zkd_si, zkd_sr, zkd_sl, zkd_sa, zkd_sq, zln_si, zln_sr, zln_sl, zln_sa, zln_sq, znx_si, znx_sr, znx_sl, znx_sa, znx_sq, (hp.fr hI.1).1, hI.2.2.1, if_true, n_lt (show h < 2 ^ 31 by omega) (show h < 2 ^ 31 by omega), Nat.lt_irrefl, if_false])
  refine ⟨τ, h1, h2.1, h2.2.1, h2.2.2.1, fun x y hx hy => h2.2.2.2 x y (by unfold bef; omega)⟩
