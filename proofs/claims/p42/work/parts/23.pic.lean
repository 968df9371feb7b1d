/-! pictures -/
def PicS (σ : zS) (p : Nat) : Prop := zkd σ p = 4 ∧ zr σ 256 p = some (p + 1) ∧ zkd σ (p + 1) = 11 ∧ zln σ (p + 1) = 256
def PicV (σ : zS) (p w h : Nat) (px : Nat → Nat → Int) : Prop := zi σ 257 p = nI w ∧ zi σ 258 p = nI h ∧ ∀ x y, x < w → y < h → zai σ (p + 1) (16 * y + x) = iI (px x y)
def inP (p a : Nat) : Prop := a = p ∨ a = p + 1
theorem PicS.fr {P : Nat → Prop} {σ τ : zS} {p : Nat} (h : PicS σ p) (g : zFr P σ τ) : PicS τ p := by
  unfold PicS
  rw [g.kd, g.r, g.ln]
  exact h
theorem PicV.fr {P : Nat → Prop} {σ τ : zS} {p w h : Nat} {px : Nat → Nat → Int} (H : PicV σ p w h px) (g : zFr P σ τ) (h1 : ¬ P p) (h2 : ¬ P (p + 1)) : PicV τ p w h px := by
  unfold PicV
  rw [g.i h1, g.i h1]
  exact ⟨H.1, H.2.1, fun x y hx hy => by rw [g.ai h2]; exact H.2.2 x y hx hy⟩
theorem ix16 {x y : Nat} (hx : x < 16) (hy : y < 16) : nI y * 16 + nI x = nI (16 * y + x) := by
  rw [nL 16, pk_mul, nI_add, Nat.mul_comm]
theorem s_at {σ : zS} {p x y : Nat} (hS : PicS σ p) (hx : x < 16) (hy : y < 16) (d : Nat) : zEv (d + 1) mX6_at [.inr (.inl (some p)), .inl (nI x), .inl (nI y)] σ = some (some (.inl (zai σ (p + 1) (16 * y + x))), σ) := by
  obtain ⟨h1, h2, h3, h4⟩ := hS
  have hb : 16 * y + x < 256 := by omega
  rw [vX6_at]
  unfold fX6_at
  simp only [zlt_e, onR_s, nul_s, nul_n, chk_e, bnI_s, bnR_s, bnV_s, zi_si, zi_sr, zi_sl, zi_sa, zi_sq, zr_si, zr_sr, zr_sl, zr_sa, zr_sq, zl_si, zl_sr, zl_sl, zl_sa, zl_sq, zai_si, zai_sr, zai_sl, zai_sa, zai_sq, zar_si, zar_sr, zar_sl, zar_sa, zar_sq, zkd_si, zkd_sr, zkd_sl, zkd_sa, zkd_sq, zln_si, zln_sr, zln_sl, zln_sa, zln_sq, znx_si, znx_sr, znx_sl, znx_sa, znx_sq, ix16 hx hy, h1, h2, h3, h4, n_ofNat, n_zin (show 16 * y + x < 2 ^ 31 by omega), n_tn (show 16 * y + x < 2 ^ 31 by omega), n_lt (show 16 * y + x < 2 ^ 31 by omega) (show (256 : Nat) < 2 ^ 31 by decide), nL 0, n_lt (show 16 * y + x < 2 ^ 31 by omega) (show (0 : Nat) < 2 ^ 31 by decide), hb, Nat.not_lt_zero, if_true, if_false, true_and, and_self, ite_true, ite_false]
theorem s_put {σ : zS} {p x y : Nat} {v : Int32} (hS : PicS σ p) (hx : x < 16) (hy : y < 16) (d : Nat) : zEv (d + 1) mX6_put [.inr (.inl (some p)), .inl (nI x), .inl (nI y), .inl v] σ = some (none, zsa σ (p + 1) (16 * y + x) v) := by
  obtain ⟨h1, h2, h3, h4⟩ := hS
  have hb : 16 * y + x < 256 := by omega
  rw [vX6_put]
  unfold fX6_put
  simp only [zlt_e, onR_s, nul_s, nul_n, chk_e, bnI_s, bnR_s, bnV_s, zi_si, zi_sr, zi_sl, zi_sa, zi_sq, zr_si, zr_sr, zr_sl, zr_sa, zr_sq, zl_si, zl_sr, zl_sl, zl_sa, zl_sq, zai_si, zai_sr, zai_sl, zai_sa, zai_sq, zar_si, zar_sr, zar_sl, zar_sa, zar_sq, zkd_si, zkd_sr, zkd_sl, zkd_sa, zkd_sq, zln_si, zln_sr, zln_sl, zln_sa, zln_sq, znx_si, znx_sr, znx_sl, znx_sa, znx_sq, ix16 hx hy, h1, h2, h3, h4, n_ofNat, n_zin (show 16 * y + x < 2 ^ 31 by omega), n_tn (show 16 * y + x < 2 ^ 31 by omega), n_lt (show 16 * y + x < 2 ^ 31 by omega) (show (256 : Nat) < 2 ^ 31 by decide), nL 0, n_lt (show 16 * y + x < 2 ^ 31 by omega) (show (0 : Nat) < 2 ^ 31 by decide), hb, Nat.not_lt_zero, if_true, if_false, true_and, and_self, ite_true, ite_false]
