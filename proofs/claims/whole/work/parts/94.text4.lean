/-! text: the class parses -/
theorem RV.to {σ τ : zS} {x : Nat} {T : zTk} (h : RV σ x T) (g : ∀ f, 386 ≤ f → f ≤ 389 → zi τ f x = zi σ f x) : RV τ x T :=
  ⟨(g 386 (by decide) (by decide)).trans h.1, (g 387 (by decide) (by decide)).trans h.2.1, (g 388 (by decide) (by decide)).trans h.2.2.1, fun q => (g 389 (by decide) (by decide)).trans (h.2.2.2 q)⟩
theorem s_rn51 {σ : zS} {x n : Nat} {t : Nat → Nat} {T : zTk} {w lo hi : Int} (h : TR σ x n t) (hR : RV σ x T) (hT : TkG n t T) (v : Int32) (hv : kK T = 2 → v = iI w ∧ -1000 ≤ w ∧ w ≤ 1000) (hlo : -1000 ≤ lo ∧ lo ≤ 1001) (hhi : -1000 ≤ hi ∧ hi ≤ 1001) (hf : zi σ 390 x = 0) (z : zV) (d : Nat) : ∃ τ, LX8_readNumber_51 (zEv (d + 3)) x (iI lo) (iI hi) z v σ = some (some (.inl (iI (if kK T = 2 ∧ lo ≤ w ∧ w ≤ hi then w else 0))), τ) ∧ zFr (fun a => a = x) σ τ ∧ zi τ 385 x = zi σ 385 x ∧ zi τ 390 x = (if kK T = 2 ∧ lo ≤ w ∧ w ≤ hi then 0 else 1) ∧ RV τ x (if kK T = 2 ∧ lo ≤ w ∧ w ≤ hi then nx n t (kE T) else T) := by
  have b1 : zB 1 = True := eq_true (Or.inr rfl)
  have q2 : (nI (kK T) = 2) ↔ kK T = 2 := n_eq (by have := hT.1; omega) (by decide)
  have fail : ¬ (kK T = 2 ∧ lo ≤ w ∧ w ≤ hi) → ∃ τ, (some (some (.inl 0), zsi σ 390 x 1) : zO) = some (some (.inl (iI (if kK T = 2 ∧ lo ≤ w ∧ w ≤ hi then w else 0))), τ) ∧ zFr (fun a => a = x) σ τ ∧ zi τ 385 x = zi σ 385 x ∧ zi τ 390 x = (if kK T = 2 ∧ lo ≤ w ∧ w ≤ hi then 0 else 1) ∧ RV τ x (if kK T = 2 ∧ lo ≤ w ∧ w ≤ hi then nx n t (kE T) else T) := fun hn => by
    simp only [if_neg hn]
    exact ⟨_, rfl, zFr.si σ rfl, by rw [zi_si, if_neg (by omega)], by rw [zi_si, if_pos ⟨rfl, rfl⟩], hR.to (fun f a b => by rw [zi_si, if_neg (by omega)])⟩
  rw [uX8_readNumber_51]
  simp only [zlt_e, onR_s, nul_s, nul_n, chk_e, bnI_s, bnR_s, bnV_s, zi_si, zi_sr, zi_sl, zi_sa, zi_sq, zr_si, zr_sr, zr_sl, zr_sa, zr_sq, zl_si, zl_sr, zl_sl, zl_sa, zl_sq, zai_si, zai_sr, zai_sl, zai_sa, zai_sq, zar_si, zar_sr, zar_sl, zar_sa, zar_sq, zkd_si, zkd_sr, zkd_sl, zkd_sa, zkd_sq, zln_si, zln_sr, zln_sl, zln_sa, zln_sq, znx_si, znx_sr, znx_sl, znx_sa, znx_sq, h.1.1, if_true, and_self, b1, hR.1, q2, s_within]
  by_cases hk : kK T = 2
  · obtain ⟨e1, e2, e3⟩ := hv hk
    rw [if_pos hk, e1]
    simp only [zb_0, i_le (show -2147483648 ≤ lo by omega) (show lo < 2147483648 by omega) (show -2147483648 ≤ w by omega) (show w < 2147483648 by omega), i_le (show -2147483648 ≤ w by omega) (show w < 2147483648 by omega) (show -2147483648 ≤ hi by omega) (show hi < 2147483648 by omega)]
    by_cases hr : lo ≤ w ∧ w ≤ hi
    · rw [if_neg (fun q => q hr)]
      obtain ⟨τ, k1, k2, k3, k4⟩ := s_nextToken h hR.2.2.1 hT.2.2.1 d
      simp only [k1, bnV_s, if_pos (show kK T = 2 ∧ lo ≤ w ∧ w ≤ hi from ⟨hk, hr⟩)]
      exact ⟨τ, rfl, k2, k3 _ (by omega), (k3 _ (by omega)).trans hf, k4⟩
    · rw [if_pos hr]
      exact fail (fun q => hr q.2)
  · rw [if_neg hk]
    exact fail (fun q => hk q.1)
theorem s_readNumber {σ : zS} {x n : Nat} {t : Nat → Nat} {T : zTk} {lo hi : Int} (h : TR σ x n t) (hR : RV σ x T) (hT : TkG n t T) (hlo : -1000 ≤ lo ∧ lo ≤ 1001) (hhi : -1000 ≤ hi ∧ hi ≤ 1001) (hf : zi σ 390 x = 0) (d : Nat) : ∃ τ, zEv (d + 4) mX8_readNumber [.inr (.inl (some x)), .inl (iI lo), .inl (iI hi)] σ = some (some (.inl (iI (pN n t lo hi T).2.2)), τ) ∧ zFr (fun a => a = x) σ τ ∧ zi τ 385 x = zi σ 385 x ∧ zi τ 390 x = (if (pN n t lo hi T).1 = true then 0 else 1) ∧ RV τ x (pN n t lo hi T).2.1 := by
  have ql : (iI lo < 0) ↔ lo < 0 := i_lt (b := 0) (by omega) (by omega) (by decide) (by decide)
  have q3 : (nI (kK T) = 3) ↔ kK T = 3 := n_eq (by have := hT.1; omega) (by decide)
  have z1 : ((1 : Int32) = 0) = False := eq_false (by decide)
  have fin : ∀ τ (w : Int) (T1 : zTk), T1 = pT1 n t lo T → w = pV n t lo T → (zi τ 390 x = (if kK T1 = 2 ∧ lo ≤ w ∧ w ≤ hi then 0 else 1)) → RV τ x (if kK T1 = 2 ∧ lo ≤ w ∧ w ≤ hi then nx n t (kE T1) else T1) → iI (if kK T1 = 2 ∧ lo ≤ w ∧ w ≤ hi then w else 0) = iI (pN n t lo hi T).2.2 ∧ zi τ 390 x = (if (pN n t lo hi T).1 = true then 0 else 1) ∧ RV τ x (pN n t lo hi T).2.1 := fun τ w T1 e1 e2 a1 a2 => by
    subst e1
    subst e2
    unfold pN
    by_cases c : pNo n t lo hi T
    · rw [if_pos c] at a1 a2 ⊢
      rw [if_pos c]
      exact ⟨rfl, a1, a2⟩
    · rw [if_neg c] at a1 a2 ⊢
      rw [if_neg c]
      exact ⟨rfl, a1, a2⟩
  rw [vX8_readNumber]
  unfold fX8_readNumber
  simp only [zlt_e, onR_s, nul_s, nul_n, chk_e, bnI_s, bnR_s, bnV_s, zi_si, zi_sr, zi_sl, zi_sa, zi_sq, zr_si, zr_sr, zr_sl, zr_sa, zr_sq, zl_si, zl_sr, zl_sl, zl_sa, zl_sq, zai_si, zai_sr, zai_sl, zai_sa, zai_sq, zar_si, zar_sr, zar_sl, zar_sa, zar_sq, zkd_si, zkd_sr, zkd_sl, zkd_sa, zkd_sq, zln_si, zln_sr, zln_sl, zln_sa, zln_sq, znx_si, znx_sr, znx_sl, znx_sa, znx_sq, h.1.1, if_true, hf, hR.1, ql, q3]
  have pos : ¬ (lo < 0 ∧ kK T = 3) → ∃ τ, LX8_readNumber_26 (zEv (d + 3)) x (iI lo) (iI hi) 0 σ = some (some (.inl (iI (pN n t lo hi T).2.2)), τ) ∧ zFr (fun a => a = x) σ τ ∧ zi τ 385 x = zi σ 385 x ∧ zi τ 390 x = (if (pN n t lo hi T).1 = true then 0 else 1) ∧ RV τ x (pN n t lo hi T).2.1 := fun hc => by
    have e1 : T = pT1 n t lo T := (if_neg hc).symm
    have e2 : (kV T : Int) = pV n t lo T := by
      unfold pV
      rw [if_neg hc, ← e1]
    obtain ⟨τ, k1, k2, k3, k4, k5⟩ := s_rn51 h hR hT (zi σ 389 x) (w := kV T) (lo := lo) (hi := hi) (fun q => ⟨(hR.2.2.2 q).trans (i_nI _), by omega, by have := hT.2.2.2.2 q; omega⟩) hlo hhi hf (.inl 0) d
    obtain ⟨f1, f2, f3⟩ := fin τ _ T e1 e2 k4 k5
    rw [uX8_readNumber_26]
    simp only [zlt_e, if_true, chk_e, h.1.1, k1, f1]
    exact ⟨τ, rfl, k2, k3, f2, f3⟩
  by_cases c1 : lo < 0
  · rw [if_pos c1]
    by_cases c2 : kK T = 3
    · rw [if_pos c2]
      obtain ⟨τ, a1, a2, a3, a4⟩ := s_nextToken h hR.2.2.1 hT.2.2.1 d
      have h' := h.fr a2 (a3 _ (by omega)) (by omega)
      have hT' := nx_G (t := t) hT.2.2.1
      have e1 : nx n t (kE T) = pT1 n t lo T := (if_pos ⟨c1, c2⟩).symm
      have e2 : -(kV (nx n t (kE T)) : Int) = pV n t lo T := by
        unfold pV
        rw [if_pos ⟨c1, c2⟩, ← e1]
      obtain ⟨υ, k1, k2, k3, k4, k5⟩ := s_rn51 h' a4 hT' (-(zi τ 389 x)) (w := -(kV (nx n t (kE T)) : Int)) (lo := lo) (hi := hi) (fun q => ⟨by rw [a4.2.2.2 q, i_nI, i_neg], by have := hT'.2.2.2.2 q; omega, by omega⟩) hlo hhi ((a3 _ (by omega)).trans hf) (.inl 1) d
      obtain ⟨f1, f2, f3⟩ := fin υ _ _ e1 e2 k4 k5
      rw [uX8_readNumber_26]
      simp only [zlt_e, onR_s, nul_s, nul_n, chk_e, bnI_s, bnR_s, bnV_s, zi_si, zi_sr, zi_sl, zi_sa, zi_sq, zr_si, zr_sr, zr_sl, zr_sa, zr_sq, zl_si, zl_sr, zl_sl, zl_sa, zl_sq, zai_si, zai_sr, zai_sl, zai_sa, zai_sq, zar_si, zar_sr, zar_sl, zar_sa, zar_sq, zkd_si, zkd_sr, zkd_sl, zkd_sa, zkd_sq, zln_si, zln_sr, zln_sl, zln_sa, zln_sq, znx_si, znx_sr, znx_sl, znx_sa, znx_sq, z1, if_false, h.1.1, if_true, a1, h'.1.1, k1, f1]
      exact ⟨υ, rfl, a2.tr k2, k3.trans (a3 _ (by omega)), f2, f3⟩
    · rw [if_neg c2]
      exact pos (fun q => c2 q.2)
  · rw [if_neg c1]
    exact pos (fun q => c1 q.1)
theorem s_readNumberF {σ : zS} {x : Nat} (hk : zkd σ x = 6) (hf : zi σ 390 x = 1) (lo hi : Int32) (d : Nat) : zEv (d + 1) mX8_readNumber [.inr (.inl (some x)), .inl lo, .inl hi] σ = some (some (.inl 0), σ) := by
  rw [vX8_readNumber]
  unfold fX8_readNumber
  simp only [chk_e, hk, if_true, hf, show ((1 : Int32) = 0) = False from by decide, if_false]
theorem s_readMode {σ : zS} {x n o y : Nat} {t : Nat → Nat} {T : zTk} {l : Nat → Int} (h : TR σ x n t) (hR : RV σ x T) (hT : TkG n t T) (hW : StW σ o) (hy : LyS σ y) (hv : LyV σ y l) (hxy : y + 2 < x) (hf : zi σ 390 x = 0) (d : Nat) : ∃ τ, zEv (d + 7) mX8_readMode [.inr (.inl (some x)), .inr (.inl (some y))] σ = some (none, τ) ∧ zFr (fun a => a = x ∨ a = y) σ τ ∧ zi τ 385 x = zi σ 385 x ∧ zi τ 390 x = (if kwM t T < 8 then 0 else 1) ∧ RV τ x (if kwM t T < 8 then nx n t (kE T) else T) ∧ (kwM t T < 8 → LyV τ y (upR l 3 (kwM t T))) := by
  have b1 : zB 1 = True := eq_true (Or.inr rfl)
  have hle : kwM t T ≤ 8 := (fnd_le _ 8 0).2
  rw [vX8_readMode]
  unfold fX8_readMode
  simp only [zlt_e, onR_s, nul_s, nul_n, chk_e, bnI_s, bnR_s, bnV_s, zi_si, zi_sr, zi_sl, zi_sa, zi_sq, zr_si, zr_sr, zr_sl, zr_sa, zr_sq, zl_si, zl_sr, zl_sl, zl_sa, zl_sq, zai_si, zai_sr, zai_sl, zai_sa, zai_sq, zar_si, zar_sr, zar_sl, zar_sa, zar_sq, zkd_si, zkd_sr, zkd_sl, zkd_sa, zkd_sq, zln_si, zln_sr, zln_sl, zln_sa, zln_sq, znx_si, znx_sr, znx_sl, znx_sa, znx_sq, h.1.1, if_true, and_self, b1, s_modeW h hR hT hW d, orN_lt (show kwM t T ≤ 100 by omega)]
  by_cases hm : kwM t T < 8
  · rw [if_neg (fun q => q hm), orN_y hm]
    have g1 : zFr (fun a => a = y) σ (zsi σ 131 y (nI (kwM t T))) := zFr.si σ rfl
    have h' : TR (zsi σ 131 y (nI (kwM t T))) x n t := h.fr g1 (g1.i (by omega) _) (by omega)
    have hv' : LyV (zsi σ 131 y (nI (kwM t T))) y (upR l 3 (kwM t T)) := by
      rw [i_nI]
      exact hv.si (j := 3) (by decide) _
    obtain ⟨τ, k1, k2, k3, k4⟩ := s_nextToken h' ((g1.i (show ¬ x = y by omega) _).trans hR.2.2.1) hT.2.2.1 (d + 3)
    simp only [zlt_e, onR_s, nul_s, nul_n, chk_e, bnI_s, bnR_s, bnV_s, zi_si, zi_sr, zi_sl, zi_sa, zi_sq, zr_si, zr_sr, zr_sl, zr_sa, zr_sq, zl_si, zl_sr, zl_sl, zl_sa, zl_sq, zai_si, zai_sr, zai_sl, zai_sa, zai_sq, zar_si, zar_sr, zar_sl, zar_sa, zar_sq, zkd_si, zkd_sr, zkd_sl, zkd_sa, zkd_sq, zln_si, zln_sr, zln_sl, zln_sa, zln_sq, znx_si, znx_sr, znx_sl, znx_sa, znx_sq, hy.1, h.1.1, if_true, k1, if_pos hm]
    exact ⟨τ, rfl, (g1.mono (fun a ha => Or.inr ha)).tr (k2.mono (fun a ha => Or.inl ha)), (k3 _ (by omega)).trans (g1.i (by omega) _), ((k3 _ (by omega)).trans (g1.i (by omega) _)).trans hf, k4, fun _ => hv'.fr k2 (fun a ha => by unfold inL at ha; omega)⟩
  · rw [if_pos hm]
    simp only [if_neg hm]
    exact ⟨_, rfl, zFr.si σ (Or.inl rfl), by rw [zi_si, if_neg (by omega)], by rw [zi_si, if_pos ⟨rfl, rfl⟩], hR.to (fun f a b => by rw [zi_si, if_neg (by omega)]), fun q => absurd q hm⟩
def prI (a b c : Bool) : Int32 := (if a then 1 else 0) ||| (if b then 2 else 0) ||| (if c then 4 else 0)
theorem pr_0 : ∀ a b c, (((prI a b c >>> (nI 0 &&& 31)) &&& 1 = 1) ↔ a = true) ∧ prI a b c ||| (1 <<< (nI 0 &&& 31)) = prI true b c := by decide
theorem pr_1 : ∀ a b c, (((prI a b c >>> (nI 1 &&& 31)) &&& 1 = 1) ↔ b = true) ∧ prI a b c ||| (1 <<< (nI 1 &&& 31)) = prI a true c := by decide
theorem pr_2 : ∀ a b c, (((prI a b c >>> (nI 2 &&& 31)) &&& 1 = 1) ↔ c = true) ∧ prI a b c ||| (1 <<< (nI 2 &&& 31)) = prI a b true := by decide
theorem s_optStop {σ : zS} {x : Nat} (hk : zkd σ x = 6) (hf : zi σ 390 x = 1) (E : zE) (y : Option Nat) (p i : Int32) (z : zV) : LX8_readOptions_4 E x y p i z σ = some (none, σ) := by
  rw [uX8_readOptions_4]
  simp only [chk_e, hk, if_true, hf, show ((1 : Int32) = 0) = False from by decide, if_false, ite_self]
theorem s_optLoop {x n o y : Nat} {t : Nat → Nat} (hxy : y + 2 < x) (hoy : o ≤ y) (d : Nat) : ∀ (f i : Nat) (a b c : Bool) (T : zTk) (l : Nat → Int) (z : zV) (σ : zS), i + f = 3 → TR σ x n t → RV σ x T → TkG n t T → StW σ o → LyS σ y → LyV σ y l → zi σ 390 x = 0 → ∃ τ, LX8_readOptions_4 (zEv (d + 7)) x (some y) (prI a b c) (nI i) z σ = some (none, τ) ∧ zFr (fun q => q = x ∨ q = y) σ τ ∧ zi τ 385 x = zi σ 385 x ∧ zi τ 390 x = (if (pO n t f a b c T l).1 = true then 0 else 1) ∧ RV τ x (pO n t f a b c T l).2.1 ∧ ((pO n t f a b c T l).1 = true → LyV τ y (pO n t f a b c T l).2.2) := by
  have b1 : zB 1 = True := eq_true (Or.inr rfl)
  have b0 : zB 0 = True := eq_true (Or.inl rfl)
  intro f
  induction f with
  | zero =>
    intro i a b c T l z σ hi h hR hT hW hy hv hf
    have e : i = 3 := by omega
    subst e
    rw [uX8_readOptions_4, if_neg (by decide)]
    exact ⟨σ, rfl, zFr.rf σ, rfl, hf, hR, fun _ => hv⟩
  | succ f ih =>
    intro i a b c T l z σ hi h hR hT hW hy hv hf
    have q1 : (nI (kK T) = 1) ↔ kK T = 1 := n_eq (by have := hT.1; omega) (by decide)
    have hle : kwO t T ≤ 3 := (fnd_le _ 3 0).2
    have c3 : nI i < 3 := (n_lt (a := i) (b := 3) (by omega) (by decide)).mpr (by omega)
    have fail : ∃ τ, (some (none, zsi σ 390 x 1) : zO) = some (none, τ) ∧ zFr (fun q => q = x ∨ q = y) σ τ ∧ zi τ 385 x = zi σ 385 x ∧ zi τ 390 x = 1 ∧ RV τ x T := ⟨_, rfl, zFr.si σ (Or.inl rfl), by rw [zi_si, if_neg (by omega)], by rw [zi_si, if_pos ⟨rfl, rfl⟩], hR.to (fun f a b => by rw [zi_si, if_neg (by omega)])⟩
    rw [uX8_readOptions_4, if_pos c3]
    unfold pO
    simp only [zlt_e, onR_s, nul_s, nul_n, chk_e, bnI_s, bnR_s, bnV_s, zi_si, zi_sr, zi_sl, zi_sa, zi_sq, zr_si, zr_sr, zr_sl, zr_sa, zr_sq, zl_si, zl_sr, zl_sl, zl_sa, zl_sq, zai_si, zai_sr, zai_sl, zai_sa, zai_sq, zar_si, zar_sr, zar_sl, zar_sa, zar_sq, zkd_si, zkd_sr, zkd_sl, zkd_sa, zkd_sq, zln_si, zln_sr, zln_sl, zln_sa, zln_sq, znx_si, znx_sr, znx_sl, znx_sa, znx_sq, h.1.1, if_true, hR.1, q1, hf, and_self, b1, b0]
    by_cases hw : kK T = 1
    · rw [if_pos hw]
      simp only [if_pos hw, s_optW h hR hT hW (d + 1), bnI_s, orN_lt (show kwO t T ≤ 100 by omega)]
      by_cases ho : kwO t T < 3
      · rw [if_neg (fun q => q ho)]
        simp only [orN_y ho]
        have hT1 := nx_G (t := t) hT.2.2.1
        rcases (show kwO t T = 0 ∨ kwO t T = 1 ∨ kwO t T = 2 by omega) with e | e | e
        · simp only [e, (pr_0 a b c).1, (pr_0 a b c).2, true_and, show (nI 0 = 2) = False from by decide, show (nI 0 = 0) = True from by decide, if_true, if_false]
          cases a with
          | true =>
            obtain ⟨τ, k1, k2, k3, k4, k5⟩ := fail
            simp only [h.1.1, and_self, if_true, show ((0 : Nat) = 1) = False from by decide, show ((0 : Nat) = 2) = False from by decide, false_and, if_false, show (true = false) = False from by decide]
            exact ⟨τ, k1, k2, k3, k4, k5, fun q => absurd (show false = true from q) (by decide)⟩
          | false =>
            obtain ⟨τ, k1, k2, k3, k4⟩ := s_nextToken h hR.2.2.1 hT.2.2.1 (d + 4)
            have h' := h.fr k2 (k3 _ (by omega)) (by omega)
            have k1' : zEv (d + 7) mX8_nextToken [.inr (.inl (some x))] σ = some (none, τ) := k1
            obtain ⟨υ, l1, l2, l3, l4, l5⟩ := s_readNumber (lo := 0) (hi := 100) h' k4 hT1 (by decide) (by decide) ((k3 _ (by omega)).trans hf) (d + 3)
            have l1' : zEv (d + 7) mX8_readNumber [.inr (.inl (some x)), .inl 0, .inl 100] τ = some (some (.inl (iI (pN n t 0 100 (nx n t (kE T))).2.2)), υ) := l1
            have g1 : zFr (fun q => q = x ∨ q = y) σ υ := (k2.tr l2).mono (fun a ha => Or.inl ha)
            have hy2 := (hy.fr k2).fr l2
            have hv2 : LyV υ y l := (hv.fr k2 (fun a ha => by unfold inL at ha; omega)).fr l2 (fun a ha => by unfold inL at ha; omega)
            have g2 : zFr (fun q => q = y) υ (zsi υ 132 y (iI (pN n t 0 100 (nx n t (kE T))).2.2)) := zFr.si υ rfl
            have hv3 : LyV (zsi υ 132 y (iI (pN n t 0 100 (nx n t (kE T))).2.2)) y (upR l 4 (pN n t 0 100 (nx n t (kE T))).2.2) := hv2.si (j := 4) (by decide) _
            have h3 := (h'.fr l2 l3 (by omega)).fr g2 (g2.i (by omega) _) (by omega)
            have hR3 : RV (zsi υ 132 y (iI (pN n t 0 100 (nx n t (kE T))).2.2)) x (pN n t 0 100 (nx n t (kE T))).2.1 := l5.to (fun f _ _ => g2.i (show ¬ x = y by omega) f)
            have g3 := g1.tr (g2.mono (fun a ha => Or.inr ha))
            have e385 := (g2.i (show ¬ x = y by omega) 385).trans (l3.trans (k3 385 (by omega)))
            have e390 := (g2.i (show ¬ x = y by omega) 390).trans l4
            simp only [h.1.1, and_self, zkd_si, if_false, if_true, show (false = true) = False from by decide, k1', bnV_s, h'.1.1, l1', bnI_s, hy2.1, nI_1, nI_add]
            by_cases hN : (pN n t 0 100 (nx n t (kE T))).1 = true
            · rw [if_pos hN] at e390
              simp only [if_pos hN]
              obtain ⟨ω, m1, m2, m3, m4, m5, m6⟩ := ih (i + 1) true b c _ (upR l 4 (pN n t 0 100 (nx n t (kE T))).2.2) (.inl (nI 0)) _ (by omega) h3 hR3 (pN_G hT1 0 100).1 (hW.fr g3 (fun a ha => by omega)) (hy2.fr g2) hv3 e390
              exact ⟨ω, m1, g3.tr m2, m3.trans e385, m4, m5, m6⟩
            · rw [if_neg hN] at e390
              simp only [if_neg hN]
              rw [s_optStop h3.1.1 e390]
              exact ⟨_, rfl, g3, e385, e390, hR3, fun q => absurd (show false = true from q) (by decide)⟩
        · simp only [e, (pr_1 a b c).1, (pr_1 a b c).2, true_and, show (nI 1 = 2) = False from by decide, show (nI 1 = 0) = False from by decide, show ((1 : Nat) = 0) = False from by decide, false_and, if_true, if_false]
          cases b with
          | true =>
            obtain ⟨τ, k1, k2, k3, k4, k5⟩ := fail
            simp only [h.1.1, and_self, if_true, show ((1 : Nat) = 2) = False from by decide, false_and, if_false, show (true = false) = False from by decide]
            exact ⟨τ, k1, k2, k3, k4, k5, fun q => absurd (show false = true from q) (by decide)⟩
          | false =>
            obtain ⟨τ, k1, k2, k3, k4⟩ := s_nextToken h hR.2.2.1 hT.2.2.1 (d + 4)
            have h' := h.fr k2 (k3 _ (by omega)) (by omega)
            have k1' : zEv (d + 7) mX8_nextToken [.inr (.inl (some x))] σ = some (none, τ) := k1
            have hy2 := hy.fr k2
            have hv2 : LyV τ y l := hv.fr k2 (fun a ha => by unfold inL at ha; omega)
            have g1 : zFr (fun q => q = x ∨ q = y) σ τ := k2.mono (fun a ha => Or.inl ha)
            obtain ⟨υ, l1, l2, l3, l4, l5, l6⟩ := s_readMode h' k4 hT1 (hW.fr g1 (fun a ha => by omega)) hy2 hv2 hxy ((k3 _ (by omega)).trans hf) d
            have h3 := h'.fr l2 l3 (by omega)
            have g3 := g1.tr l2
            simp only [h.1.1, and_self, zkd_si, if_false, if_true, show (false = true) = False from by decide, k1', bnV_s, h'.1.1, l1, nI_1, nI_add]
            by_cases hN : kwM t (nx n t (kE T)) < 8
            · rw [if_pos hN] at l4 l5
              simp only [if_pos hN]
              obtain ⟨ω, m1, m2, m3, m4, m5, m6⟩ := ih (i + 1) a true c _ (upR l 3 (kwM t (nx n t (kE T)))) (.inl (nI 1)) _ (by omega) h3 l5 (nx_G hT1.2.2.1) (hW.fr g3 (fun a ha => by omega)) (hy2.fr l2) (l6 hN) l4
              exact ⟨ω, m1, g3.tr m2, m3.trans (l3.trans (k3 385 (by omega))), m4, m5, m6⟩
            · rw [if_neg hN] at l4 l5
              simp only [if_neg hN]
              rw [s_optStop h3.1.1 l4]
              exact ⟨_, rfl, g3, l3.trans (k3 385 (by omega)), l4, l5, fun q => absurd (show false = true from q) (by decide)⟩
        · simp only [e, (pr_2 a b c).1, (pr_2 a b c).2, true_and, show (nI 2 = 2) = True from by decide, show ((2 : Nat) = 0) = False from by decide, show ((2 : Nat) = 1) = False from by decide, false_and, if_true, if_false]
          cases c with
          | true =>
            obtain ⟨τ, k1, k2, k3, k4, k5⟩ := fail
            simp only [h.1.1, and_self, if_true, if_false, show (true = false) = False from by decide]
            exact ⟨τ, k1, k2, k3, k4, k5, fun q => absurd (show false = true from q) (by decide)⟩
          | false =>
            obtain ⟨τ, k1, k2, k3, k4⟩ := s_nextToken h hR.2.2.1 hT.2.2.1 (d + 4)
            have h' := h.fr k2 (k3 _ (by omega)) (by omega)
            have k1' : zEv (d + 7) mX8_nextToken [.inr (.inl (some x))] σ = some (none, τ) := k1
            have hy2 := hy.fr k2
            have hv2 : LyV τ y l := hv.fr k2 (fun a ha => by unfold inL at ha; omega)
            have g2 : zFr (fun q => q = y) τ (zsi τ 133 y 0) := zFr.si τ rfl
            have g3 : zFr (fun q => q = x ∨ q = y) σ (zsi τ 133 y 0) := (k2.mono (fun a ha => Or.inl ha)).tr (g2.mono (fun a ha => Or.inr ha))
            have hv3 : LyV (zsi τ 133 y 0) y (upR l 5 0) := hv2.si (j := 5) (by decide) 0
            have h3 := h'.fr g2 (g2.i (by omega) _) (by omega)
            have hR3 : RV (zsi τ 133 y 0) x (nx n t (kE T)) := k4.to (fun f _ _ => g2.i (show ¬ x = y by omega) f)
            simp only [h.1.1, and_self, zkd_si, if_false, if_true, show (false = true) = False from by decide, k1', bnV_s, hy2.1, nI_1, nI_add]
            obtain ⟨ω, m1, m2, m3, m4, m5, m6⟩ := ih (i + 1) a b true _ (upR l 5 0) (.inl (nI 2)) _ (by omega) h3 hR3 hT1 (hW.fr g3 (fun a ha => by omega)) (hy2.fr g2) hv3 (((g2.i (show ¬ x = y by omega) 390).trans (k3 _ (by omega))).trans hf)
            exact ⟨ω, m1, g3.tr m2, m3.trans ((g2.i (show ¬ x = y by omega) 385).trans (k3 385 (by omega))), m4, m5, m6⟩
      · rw [if_pos ho]
        obtain ⟨τ, k1, k2, k3, k4, k5⟩ := fail
        have n0 : ¬ kwO t T = 0 := by omega
        have n1 : ¬ kwO t T = 1 := by omega
        have n2 : ¬ kwO t T = 2 := by omega
        simp only [n0, n1, n2, false_and, if_false, h.1.1, and_self, if_true]
        exact ⟨τ, k1, k2, k3, k4, k5, fun q => absurd (show false = true from q) (by decide)⟩
    · rw [if_neg hw]
      simp only [if_neg hw]
      exact ⟨σ, rfl, zFr.rf σ, rfl, hf, hR, fun _ => hv⟩
