/-! layers: the three cells of one, and its row of numbers -/
def LyS (σ : zS) (a : Nat) : Prop := zkd σ a = 2 ∧ zr σ 134 a = some (a + 1) ∧ zkd σ (a + 1) = 3 ∧ zr σ 200 (a + 1) = some (a + 2) ∧ zkd σ (a + 2) = 11 ∧ zln σ (a + 2) = 18
def LyV (σ : zS) (a : Nat) (l : Nat → Int) : Prop := (∀ k, k < 6 → zi σ (128 + k) a = iI (l k)) ∧ (∀ k, k < 8 → zi σ (192 + k) (a + 1) = iI (l (6 + k))) ∧ ∀ j : Nat, (j : Int) < 3 * l 13 → zai σ (a + 2) j = iI (l (14 + j))
def inL (p a : Nat) : Prop := p ≤ a ∧ a ≤ p + 2
theorem LyS.fr {P : Nat → Prop} {σ τ : zS} {p : Nat} (h : LyS σ p) (g : zFr P σ τ) : LyS τ p := by
  unfold LyS
  rw [g.kd, g.r, g.ln]
  exact h
theorem LyV.fr {P : Nat → Prop} {σ τ : zS} {p : Nat} {l : Nat → Int} (H : LyV σ p l) (g : zFr P σ τ) (hn : ∀ a, inL p a → ¬ P a) : LyV τ p l :=
  ⟨fun k hk => (g.i (hn p (by unfold inL; omega)) _).trans (H.1 k hk), fun k hk => (g.i (hn (p + 1) (by unfold inL; omega)) _).trans (H.2.1 k hk), fun j hj => (g.ai (hn (p + 2) (by unfold inL; omega)) _).trans (H.2.2 j hj)⟩
/-- limits of the parameters -/
def loA (k : Int) : Int := if k = 1 then -255 else if k = 3 then 2 else if k = 11 then -3 else if 6 ≤ k ∧ k ≤ 10 then 1 else 0
def hiA (k : Int) : Int := if k = 0 then 254 else if k = 1 then 255 else if k = 12 then 255 else if k = 2 then 400 else if k = 3 then 16 else if k = 5 then 256 else if k = 7 then 2 else if k = 4 then 0 else if k = 13 then 0 else 3
def loB (k a : Int) : Int := if k = 0 then a + 1 else if k = 11 then -3 else 0
def hiB (k : Int) : Int := if k = 0 then 255 else if k = 10 then 300 else if k = 11 then 3 else 0
def okP (k a b : Int) : Prop := (loA k ≤ a ∧ a ≤ hiA k) ∧ loB k a ≤ b ∧ b ≤ hiB k
def okM (k c d e f : Int) : Prop := if k = 1 then (0 ≤ c ∧ c ≤ 15) ∧ (c ≤ e ∧ e ≤ 15) ∧ (0 ≤ d ∧ d ≤ 15) ∧ d ≤ f ∧ f ≤ 15 else if k = 2 then (0 ≤ c ∧ c ≤ 14) ∧ (c + 1 ≤ e ∧ e ≤ 15) ∧ d = 0 ∧ f = 0 else c = 0 ∧ d = 0 ∧ e = 0 ∧ f = 0
def GL (l : Nat → Int) : Prop := (0 ≤ l 0 ∧ l 0 ≤ 13) ∧ okP (l 0) (l 1) (l 2) ∧ (0 ≤ l 3 ∧ l 3 ≤ 7) ∧ (0 ≤ l 4 ∧ l 4 ≤ 100) ∧ (l 5 = 0 ∨ l 5 = 1) ∧ (0 ≤ l 6 ∧ l 6 ≤ 4) ∧ okM (l 6) (l 7) (l 8) (l 9) (l 10) ∧ (0 ≤ l 11 ∧ l 11 ≤ 5) ∧ (l 12 = 0 ∨ l 12 = 1) ∧ (0 ≤ l 13 ∧ l 13 ≤ 6) ∧ ∀ j : Nat, (j : Int) < 3 * l 13 → 0 ≤ l (14 + j) ∧ l (14 + j) ≤ 15
theorem iI_zB {z : Int} (h : z = 0 ∨ z = 1) : zB (iI z) := by
  rcases h with h | h <;> rw [h]
  · exact Or.inl rfl
  · exact Or.inr rfl
theorem s_define {σ : zS} {p : Nat} (hp : LyS σ p) (k c d' e f : Int32) (d : Nat) : zEv (d + 1) mX4_define [.inr (.inl (some (p + 1))), .inl k, .inl c, .inl d', .inl e, .inl f] σ = some (none, zsi (zsi (zsi (zsi (zsi σ 192 (p + 1) k) 193 (p + 1) c) 194 (p + 1) d') 195 (p + 1) e) 196 (p + 1) f) := by
  rw [vX4_define]
  unfold fX4_define
  simp only [zlt_e, onR_s, nul_s, nul_n, chk_e, bnI_s, bnR_s, bnV_s, zi_si, zi_sr, zi_sl, zi_sa, zi_sq, zr_si, zr_sr, zr_sl, zr_sa, zr_sq, zl_si, zl_sr, zl_sl, zl_sa, zl_sq, zai_si, zai_sr, zai_sl, zai_sa, zai_sq, zar_si, zar_sr, zar_sl, zar_sa, zar_sq, zkd_si, zkd_sr, zkd_sl, zkd_sa, zkd_sq, zln_si, zln_sr, zln_sl, zln_sa, zln_sq, znx_si, znx_sr, znx_sl, znx_sa, znx_sq, hp.2.2.1, if_true]
theorem s_mcopy {σ : zS} {p q : Nat} {l : Nat → Int} (hp : LyS σ p) (hq : LyS σ q) (hpq : p + 2 < q ∨ q + 2 < p) (hv : LyV σ q l) (hg : GL l) (d : Nat) : ∃ τ, zEv (d + 2) mX4_copyFrom [.inr (.inl (some (p + 1))), .inr (.inl (some (q + 1)))] σ = some (none, τ) ∧ zFr (inL p) σ τ ∧ (∀ f, zi τ f p = zi σ f p) ∧ (∀ k, k < 8 → zi τ (192 + k) (p + 1) = iI (l (6 + k))) ∧ ∀ j : Nat, (j : Int) < 3 * l 13 → zai τ (p + 2) j = iI (l (14 + j)) := by
  have hne : q + 1 ≠ p + 1 := by omega
  have a0 : zi σ 192 (q + 1) = iI (l 6) := hv.2.1 0 (by decide)
  have a1 : zi σ 193 (q + 1) = iI (l 7) := hv.2.1 1 (by decide)
  have a2 : zi σ 194 (q + 1) = iI (l 8) := hv.2.1 2 (by decide)
  have a3 : zi σ 195 (q + 1) = iI (l 9) := hv.2.1 3 (by decide)
  have a4 : zi σ 196 (q + 1) = iI (l 10) := hv.2.1 4 (by decide)
  have a5 : zi σ 197 (q + 1) = iI (l 11) := hv.2.1 5 (by decide)
  have a6 : zi σ 198 (q + 1) = iI (l 12) := hv.2.1 6 (by decide)
  have a7 : zi σ 199 (q + 1) = iI (l 13) := hv.2.1 7 (by decide)
  have hb : zB (iI (l 12)) := iI_zB hg.2.2.2.2.2.2.2.2.1
  rw [vX4_copyFrom]
  unfold fX4_copyFrom
  simp only [zlt_e, onR_s, nul_s, nul_n, chk_e, bnI_s, bnR_s, bnV_s, zi_si, zi_sr, zi_sl, zi_sa, zi_sq, zr_si, zr_sr, zr_sl, zr_sa, zr_sq, zl_si, zl_sr, zl_sl, zl_sa, zl_sq, zai_si, zai_sr, zai_sl, zai_sa, zai_sq, zar_si, zar_sr, zar_sl, zar_sa, zar_sq, zkd_si, zkd_sr, zkd_sl, zkd_sa, zkd_sq, zln_si, zln_sr, zln_sl, zln_sa, zln_sq, znx_si, znx_sr, znx_sl, znx_sa, znx_sq, hp.2.2.1, hq.2.2.1, if_true, s_define hp, a0, a1, a2, a3, a4, a5, a6, a7, hne, and_false, if_false, hb, and_true]
  have P1 : inL p (p + 1) := by unfold inL; omega
  have P2 : inL p (p + 2) := by unfold inL; omega
  have hF : zFr (inL p) σ (zsi (zsi (zsi (zsi (zsi (zsi (zsi (zsi σ 192 (p + 1) (iI (l 6))) 193 (p + 1) (iI (l 7))) 194 (p + 1) (iI (l 8))) 195 (p + 1) (iI (l 9))) 196 (p + 1) (iI (l 10))) 197 (p + 1) (iI (l 11))) 198 (p + 1) (iI (l 12))) 199 (p + 1) (iI (l 13))) :=
    (((((((zFr.si _ P1).tr (zFr.si _ P1)).tr (zFr.si _ P1)).tr (zFr.si _ P1)).tr (zFr.si _ P1)).tr (zFr.si _ P1)).tr (zFr.si _ P1)).tr (zFr.si _ P1)
  have hK : ∀ k, k < 8 → zi (zsi (zsi (zsi (zsi (zsi (zsi (zsi (zsi σ 192 (p + 1) (iI (l 6))) 193 (p + 1) (iI (l 7))) 194 (p + 1) (iI (l 8))) 195 (p + 1) (iI (l 9))) 196 (p + 1) (iI (l 10))) 197 (p + 1) (iI (l 11))) 198 (p + 1) (iI (l 12))) 199 (p + 1) (iI (l 13))) (192 + k) (p + 1) = iI (l (6 + k)) := by
    intro k hk
    rcases (by omega : k = 0 ∨ k = 1 ∨ k = 2 ∨ k = 3 ∨ k = 4 ∨ k = 5 ∨ k = 6 ∨ k = 7) with h | h | h | h | h | h | h | h <;> subst h <;> simp [zi_si]
  have hO : ∀ f, zi (zsi (zsi (zsi (zsi (zsi (zsi (zsi (zsi σ 192 (p + 1) (iI (l 6))) 193 (p + 1) (iI (l 7))) 194 (p + 1) (iI (l 8))) 195 (p + 1) (iI (l 9))) 196 (p + 1) (iI (l 10))) 197 (p + 1) (iI (l 11))) 198 (p + 1) (iI (l 12))) 199 (p + 1) (iI (l 13))) f p = zi σ f p := by
    intro f
    simp [zi_si]
  generalize zsi (zsi (zsi (zsi (zsi (zsi (zsi (zsi σ 192 (p + 1) (iI (l 6))) 193 (p + 1) (iI (l 7))) 194 (p + 1) (iI (l 8))) 195 (p + 1) (iI (l 9))) 196 (p + 1) (iI (l 10))) 197 (p + 1) (iI (l 11))) 198 (p + 1) (iI (l 12))) 199 (p + 1) (iI (l 13)) = σ1 at hF hK hO ⊢
  obtain ⟨τ, h1, h2⟩ := loop_from (fun j τ => LX4_copyFrom_50 (zEv (d + 1)) (p + 1) (some (q + 1)) (nI j) τ) (fun j τ => zFr (inL p) σ τ ∧ (∀ f a, zi τ f a = zi σ1 f a) ∧ ∀ i, i < j → zai τ (p + 2) i = zai σ (q + 2) i) 0 18 (fun τ => some (none, τ)) σ1 (by decide) ⟨hF, fun _ _ => rfl, fun i hi => absurd hi (Nat.not_lt_zero _)⟩
    (fun j τ hj hI => by
      obtain ⟨g, gi, ga⟩ := hI
      refine ⟨zsa τ (p + 2) j (zai σ (q + 2) j), ?_, g.tr (zFr.sa _ P2), gi, fun i hi => ?_⟩
      · show LX4_copyFrom_50 _ _ _ _ _ = LX4_copyFrom_50 _ _ _ _ _
        rw [uX4_copyFrom_50]
        have e1 : zai τ (q + 2) j = zai σ (q + 2) j := g.ai (by unfold inL; omega) _
        simp only [zlt_e, onR_s, nul_s, nul_n, chk_e, bnI_s, bnR_s, bnV_s, zi_si, zi_sr, zi_sl, zi_sa, zi_sq, zr_si, zr_sr, zr_sl, zr_sa, zr_sq, zl_si, zl_sr, zl_sl, zl_sa, zl_sq, zai_si, zai_sr, zai_sl, zai_sa, zai_sq, zar_si, zar_sr, zar_sl, zar_sa, zar_sq, zkd_si, zkd_sr, zkd_sl, zkd_sa, zkd_sq, zln_si, zln_sr, zln_sl, zln_sa, zln_sq, znx_si, znx_sr, znx_sl, znx_sa, znx_sq, (hp.fr g).2.2.1, (hq.fr g).2.2.1, (hp.fr g).2.2.2.1, (hq.fr g).2.2.2.1, (hp.fr g).2.2.2.2.1, (hq.fr g).2.2.2.2.1, (hp.fr g).2.2.2.2.2, (hq.fr g).2.2.2.2.2, if_true, n_ofNat, n_lt (show j < 2 ^ 31 by omega) (show 18 < 2 ^ 31 by decide), hj, n_zin (show j < 2 ^ 31 by omega), n_tn (show j < 2 ^ 31 by omega), nI_1, e1, and_self, and_true]
      · rw [zai_sa]
        by_cases h : i = j
        · rw [if_pos ⟨rfl, h⟩, h]
        · rw [if_neg (by omega)]
          exact ga i (by omega))
    (fun τ hI => by
      rw [uX4_copyFrom_50]
      simp only [zlt_e, onR_s, nul_s, nul_n, chk_e, bnI_s, bnR_s, bnV_s, zi_si, zi_sr, zi_sl, zi_sa, zi_sq, zr_si, zr_sr, zr_sl, zr_sa, zr_sq, zl_si, zl_sr, zl_sl, zl_sa, zl_sq, zai_si, zai_sr, zai_sl, zai_sa, zai_sq, zar_si, zar_sr, zar_sl, zar_sa, zar_sq, zkd_si, zkd_sr, zkd_sl, zkd_sa, zkd_sq, zln_si, zln_sr, zln_sl, zln_sa, zln_sq, znx_si, znx_sr, znx_sl, znx_sa, znx_sq, (hp.fr hI.1).2.2.1, (hp.fr hI.1).2.2.2.1, (hp.fr hI.1).2.2.2.2.1, (hp.fr hI.1).2.2.2.2.2, if_true, n_ofNat, n_lt (show 18 < 2 ^ 31 by decide) (show 18 < 2 ^ 31 by decide), Nat.lt_irrefl, if_false])
  have hm := hg.2.2.2.2.2.2.2.2.2.1
  exact ⟨τ, h1, h2.1, fun f => (h2.2.1 f p).trans (hO f), fun k hk => (h2.2.1 _ _).trans (hK k hk), fun j hj => (h2.2.2 j (by omega)).trans (hv.2.2 j hj)⟩
theorem s_lcopy {σ : zS} {p q : Nat} {l : Nat → Int} (hp : LyS σ p) (hq : LyS σ q) (hpq : p + 2 < q ∨ q + 2 < p) (hv : LyV σ q l) (hg : GL l) (d : Nat) : ∃ τ, zEv (d + 3) mX3_copyFrom [.inr (.inl (some p)), .inr (.inl (some q))] σ = some (none, τ) ∧ zFr (inL p) σ τ ∧ LyV τ p l := by
  have hne : q ≠ p := by omega
  have a0 : zi σ 128 q = iI (l 0) := hv.1 0 (by decide)
  have a1 : zi σ 129 q = iI (l 1) := hv.1 1 (by decide)
  have a2 : zi σ 130 q = iI (l 2) := hv.1 2 (by decide)
  have a3 : zi σ 131 q = iI (l 3) := hv.1 3 (by decide)
  have a4 : zi σ 132 q = iI (l 4) := hv.1 4 (by decide)
  have a5 : zi σ 133 q = iI (l 5) := hv.1 5 (by decide)
  have hb : zB (iI (l 5)) := iI_zB hg.2.2.2.2.1
  have P0 : inL p p := by unfold inL; omega
  have hF : zFr (inL p) σ (zsi (zsi (zsi (zsi (zsi (zsi σ 128 p (iI (l 0))) 129 p (iI (l 1))) 130 p (iI (l 2))) 131 p (iI (l 3))) 132 p (iI (l 4))) 133 p (iI (l 5))) :=
    (((((zFr.si _ P0).tr (zFr.si _ P0)).tr (zFr.si _ P0)).tr (zFr.si _ P0)).tr (zFr.si _ P0)).tr (zFr.si _ P0)
  have hK : ∀ k, k < 6 → zi (zsi (zsi (zsi (zsi (zsi (zsi σ 128 p (iI (l 0))) 129 p (iI (l 1))) 130 p (iI (l 2))) 131 p (iI (l 3))) 132 p (iI (l 4))) 133 p (iI (l 5))) (128 + k) p = iI (l k) := by
    intro k hk
    rcases (by omega : k = 0 ∨ k = 1 ∨ k = 2 ∨ k = 3 ∨ k = 4 ∨ k = 5) with h | h | h | h | h | h <;> subst h <;> simp [zi_si]
  rw [vX3_copyFrom]
  unfold fX3_copyFrom
  simp only [zlt_e, onR_s, nul_s, nul_n, chk_e, bnI_s, bnR_s, bnV_s, zi_si, zi_sr, zi_sl, zi_sa, zi_sq, zr_si, zr_sr, zr_sl, zr_sa, zr_sq, zl_si, zl_sr, zl_sl, zl_sa, zl_sq, zai_si, zai_sr, zai_sl, zai_sa, zai_sq, zar_si, zar_sr, zar_sl, zar_sa, zar_sq, zkd_si, zkd_sr, zkd_sl, zkd_sa, zkd_sq, zln_si, zln_sr, zln_sl, zln_sa, zln_sq, znx_si, znx_sr, znx_sl, znx_sa, znx_sq, hp.1, hq.1, if_true, a0, a1, a2, a3, a4, a5, hne, and_false, if_false, hb, and_true, hp.2.1, hq.2.1, hp.2.2.1]
  generalize zsi (zsi (zsi (zsi (zsi (zsi σ 128 p (iI (l 0))) 129 p (iI (l 1))) 130 p (iI (l 2))) 131 p (iI (l 3))) 132 p (iI (l 4))) 133 p (iI (l 5)) = σ1 at hF hK ⊢
  obtain ⟨τ, h1, h2, h3, h4, h5⟩ := s_mcopy (hp.fr hF) (hq.fr hF) hpq (hv.fr hF (fun a ha hb => by unfold inL at ha hb; omega)) hg d
  rw [h1]
  exact ⟨τ, rfl, hF.tr h2, fun k hk => (h3 _).trans (hK k hk), h4, h5⟩
/-- the row of a fresh layer -/
def lNew (k a b : Int) (j : Nat) : Int := if j = 0 then k else if j = 1 then a else if j = 2 then b else if j = 4 then 100 else if j = 5 then 1 else 0
theorem s_startAnew {σ : zS} {p : Nat} (hp : LyS σ p) (d : Nat) : ∃ τ, zEv (d + 2) mX4_startAnew [.inr (.inl (some (p + 1)))] σ = some (none, τ) ∧ zFr (inL p) σ τ ∧ (∀ f, zi τ f p = zi σ f p) ∧ ∀ k, k < 8 → zi τ (192 + k) (p + 1) = 0 := by
  have P1 : inL p (p + 1) := by unfold inL; omega
  rw [vX4_startAnew]
  unfold fX4_startAnew
  simp only [zlt_e, onR_s, nul_s, nul_n, chk_e, bnI_s, bnR_s, bnV_s, zi_si, zi_sr, zi_sl, zi_sa, zi_sq, zr_si, zr_sr, zr_sl, zr_sa, zr_sq, zl_si, zl_sr, zl_sl, zl_sa, zl_sq, zai_si, zai_sr, zai_sl, zai_sa, zai_sq, zar_si, zar_sr, zar_sl, zar_sa, zar_sq, zkd_si, zkd_sr, zkd_sl, zkd_sa, zkd_sq, zln_si, zln_sr, zln_sl, zln_sa, zln_sq, znx_si, znx_sr, znx_sl, znx_sa, znx_sq, hp.2.2.1, if_true, s_define hp, true_and]
  rw [if_pos (Or.inl rfl)]
  refine ⟨_, rfl, (((((((zFr.si _ P1).tr (zFr.si _ P1)).tr (zFr.si _ P1)).tr (zFr.si _ P1)).tr (zFr.si _ P1)).tr (zFr.si _ P1)).tr (zFr.si _ P1)).tr (zFr.si _ P1), fun f => by simp [zi_si], fun k hk => ?_⟩
  rcases (by omega : k = 0 ∨ k = 1 ∨ k = 2 ∨ k = 3 ∨ k = 4 ∨ k = 5 ∨ k = 6 ∨ k = 7) with h | h | h | h | h | h | h | h <;> subst h <;> simp [zi_si]
theorem s_lstart {σ : zS} {p : Nat} (hp : LyS σ p) (k a b : Int) (d : Nat) : ∃ τ, zEv (d + 3) mX3_startAs [.inr (.inl (some p)), .inl (iI k), .inl (iI a), .inl (iI b)] σ = some (none, τ) ∧ zFr (inL p) σ τ ∧ LyV τ p (lNew k a b) := by
  have P0 : inL p p := by unfold inL; omega
  have hF : zFr (inL p) σ (zsi (zsi (zsi (zsi (zsi (zsi σ 128 p (iI k)) 129 p (iI a)) 130 p (iI b)) 131 p 0) 132 p 100) 133 p 1) :=
    (((((zFr.si _ P0).tr (zFr.si _ P0)).tr (zFr.si _ P0)).tr (zFr.si _ P0)).tr (zFr.si _ P0)).tr (zFr.si _ P0)
  have hK : ∀ j, j < 6 → zi (zsi (zsi (zsi (zsi (zsi (zsi σ 128 p (iI k)) 129 p (iI a)) 130 p (iI b)) 131 p 0) 132 p 100) 133 p 1) (128 + j) p = iI (lNew k a b j) := by
    intro k hk
    rcases (by omega : k = 0 ∨ k = 1 ∨ k = 2 ∨ k = 3 ∨ k = 4 ∨ k = 5) with h | h | h | h | h | h <;> subst h <;> simp [zi_si, lNew] <;> rfl
  rw [vX3_startAs]
  unfold fX3_startAs
  simp only [zlt_e, onR_s, nul_s, nul_n, chk_e, bnI_s, bnR_s, bnV_s, zi_si, zi_sr, zi_sl, zi_sa, zi_sq, zr_si, zr_sr, zr_sl, zr_sa, zr_sq, zl_si, zl_sr, zl_sl, zl_sa, zl_sq, zai_si, zai_sr, zai_sl, zai_sa, zai_sq, zar_si, zar_sr, zar_sl, zar_sa, zar_sq, zkd_si, zkd_sr, zkd_sl, zkd_sa, zkd_sq, zln_si, zln_sr, zln_sl, zln_sa, zln_sq, znx_si, znx_sr, znx_sl, znx_sa, znx_sq, hp.1, if_true, hp.2.1, hp.2.2.1, true_and]
  rw [if_pos (Or.inr rfl)]
  generalize zsi (zsi (zsi (zsi (zsi (zsi σ 128 p (iI k)) 129 p (iI a)) 130 p (iI b)) 131 p 0) 132 p 100) 133 p 1 = σ1 at hF hK ⊢
  obtain ⟨τ, h1, h2, h3, h4⟩ := s_startAnew (hp.fr hF) d
  rw [h1]
  refine ⟨τ, rfl, hF.tr h2, fun k hk => (h3 _).trans (hK k hk), fun k hk => (h4 k hk).trans ?_, fun j hj => ?_⟩
  · unfold lNew
    rw [if_neg (by omega), if_neg (by omega), if_neg (by omega), if_neg (by omega), if_neg (by omega)]
    rfl
  · have : lNew k a b 13 = 0 := rfl
    omega
def rchI (k a b : Int) : Int := if 6 ≤ k ∧ k ≤ 10 then a else if k = 11 then max (if a < 0 then -a else a) (if b < 0 then -b else b) else if k = 13 then 16 else 0
theorem s_sees {σ : zS} {p : Nat} {l : Nat → Int} (hp : LyS σ p) (hv : LyV σ p l) (hg : GL l) (d : Nat) : zEv (d + 2) mX3_seesNeighbourhood [.inr (.inl (some p))] σ = some (some (.inl (zb (6 ≤ l 0 ∧ l 0 ≤ 10))), σ) := by
  have a0 : zi σ 128 p = iI (l 0) := hv.1 0 (by decide)
  have h0 := hg.1
  rw [vX3_seesNeighbourhood]
  unfold fX3_seesNeighbourhood
  have e : (zb ((6 : Int32) ≤ iI (l 0) ∧ iI (l 0) ≤ 10)) = zb (6 ≤ l 0 ∧ l 0 ≤ 10) := by
    have q1 : ((6 : Int32) ≤ iI (l 0)) ↔ 6 ≤ l 0 := i_le (a := 6) (by omega) (by omega) (by omega) (by omega)
    have q2 : (iI (l 0) ≤ (10 : Int32)) ↔ l 0 ≤ 10 := i_le (b := 10) (by omega) (by omega) (by omega) (by omega)
    unfold zb
    simp only [q1, q2]
  simp only [zlt_e, onR_s, nul_s, nul_n, chk_e, bnI_s, bnR_s, bnV_s, zi_si, zi_sr, zi_sl, zi_sa, zi_sq, zr_si, zr_sr, zr_sl, zr_sa, zr_sq, zl_si, zl_sr, zl_sl, zl_sa, zl_sq, zai_si, zai_sr, zai_sl, zai_sa, zai_sq, zar_si, zar_sr, zar_sl, zar_sa, zar_sq, zkd_si, zkd_sr, zkd_sl, zkd_sa, zkd_sq, zln_si, zln_sr, zln_sl, zln_sa, zln_sq, znx_si, znx_sr, znx_sl, znx_sa, znx_sq, hp.1, if_true, a0, s_within, e]
  rw [if_pos zb_B]
theorem s_reach {σ : zS} {p : Nat} {l : Nat → Int} (hp : LyS σ p) (hv : LyV σ p l) (hg : GL l) (d : Nat) : zEv (d + 3) mX3_reach [.inr (.inl (some p))] σ = some (some (.inl (iI (rchI (l 0) (l 1) (l 2)))), σ) := by
  have a0 : zi σ 128 p = iI (l 0) := hv.1 0 (by decide)
  have a1 : zi σ 129 p = iI (l 1) := hv.1 1 (by decide)
  have a2 : zi σ 130 p = iI (l 2) := hv.1 2 (by decide)
  have h0 := hg.1
  have h1 := hg.2.1
  rw [vX3_reach]
  unfold fX3_reach
  simp only [zlt_e, onR_s, nul_s, nul_n, chk_e, bnI_s, bnR_s, bnV_s, zi_si, zi_sr, zi_sl, zi_sa, zi_sq, zr_si, zr_sr, zr_sl, zr_sa, zr_sq, zl_si, zl_sr, zl_sl, zl_sa, zl_sq, zai_si, zai_sr, zai_sl, zai_sa, zai_sq, zar_si, zar_sr, zar_sl, zar_sa, zar_sq, zkd_si, zkd_sr, zkd_sl, zkd_sa, zkd_sq, zln_si, zln_sr, zln_sl, zln_sa, zln_sq, znx_si, znx_sr, znx_sl, znx_sa, znx_sq, hp.1, if_true, s_sees hp hv hg, zb_0, a0, a1, a2]
  unfold rchI
  by_cases h6 : 6 ≤ l 0 ∧ l 0 ≤ 10
  · rw [if_neg (by simpa using h6), if_pos h6]
  · rw [if_pos h6, if_neg h6]
    have q1 : (iI (l 0) = (11 : Int32)) ↔ l 0 = 11 := i_eq (b := 11) (by omega) (by omega) (by omega) (by omega)
    have q2 : (iI (l 0) = (13 : Int32)) ↔ l 0 = 13 := i_eq (b := 13) (by omega) (by omega) (by omega) (by omega)
    simp only [q1, q2]
    by_cases h11 : l 0 = 11
    · rw [if_pos h11, if_pos h11]
      unfold okP loA hiA loB hiB at h1
      rw [h11] at h1
      simp at h1
      rw [s_iabs (d + 1) σ (by omega) (by omega)]
      simp only [zlt_e, onR_s, nul_s, nul_n, chk_e, bnI_s, bnR_s, bnV_s, zi_si, zi_sr, zi_sl, zi_sa, zi_sq, zr_si, zr_sr, zr_sl, zr_sa, zr_sq, zl_si, zl_sr, zl_sl, zl_sa, zl_sq, zai_si, zai_sr, zai_sl, zai_sa, zai_sq, zar_si, zar_sr, zar_sl, zar_sa, zar_sq, zkd_si, zkd_sr, zkd_sl, zkd_sa, zkd_sq, zln_si, zln_sr, zln_sl, zln_sa, zln_sq, znx_si, znx_sr, znx_sl, znx_sa, znx_sq, hp.1, if_true, a2]
      rw [s_iabs (d + 1) σ (by omega) (by omega)]
      simp only [zlt_e, onR_s, nul_s, nul_n, chk_e, bnI_s, bnR_s, bnV_s, zi_si, zi_sr, zi_sl, zi_sa, zi_sq, zr_si, zr_sr, zr_sl, zr_sa, zr_sq, zl_si, zl_sr, zl_sl, zl_sa, zl_sq, zai_si, zai_sr, zai_sl, zai_sa, zai_sq, zar_si, zar_sr, zar_sl, zar_sa, zar_sq, zkd_si, zkd_sr, zkd_sl, zkd_sa, zkd_sq, zln_si, zln_sr, zln_sl, zln_sa, zln_sq, znx_si, znx_sr, znx_sl, znx_sa, znx_sq]
      rw [s_imax (d + 1) σ (by split <;> omega) (by split <;> omega) (by split <;> omega) (by split <;> omega)]
      rfl
    · rw [if_neg h11, if_neg h11]
      by_cases h13 : l 0 = 13
      · rw [if_pos h13, if_pos h13]; rfl
      · rw [if_neg h13, if_neg h13]; rfl
