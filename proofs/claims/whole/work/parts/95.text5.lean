/-! text: the class reads layers -/
theorem s_param {σ : zS} {o k : Nat} (h : StK σ o) (hk : k < 14) (d : Nat) : zEv (d + 2) mX2_parametersOf [.inl (nI k)] σ = some (some (.inl (iI (tbK 0 k))), σ) := by
  obtain ⟨s, a1, a2⟩ := s_entry h (show 0 < 5 by decide) hk d
  rw [vX2_parametersOf]
  unfold fX2_parametersOf
  simp only [a1, onR_s, a2, bnI_s]
theorem tb_has : ∀ k, k < 14 → ((iI (tbK 0 k) ≤ 0) ↔ ¬ hasA k) ∧ ((iI (tbK 0 k) ≤ 1) ↔ ¬ hasB k) := by decide
def inRd (x c a : Nat) : Prop := a = x ∨ (c ≤ a ∧ a < c + 28 ∧ a ≠ c + 3)
theorem pRA_R {n : Nat} {t : Nat → Nat} {T : zTk} (hT : TkG n t T) (hk : kwK t T < 14) : -1000 ≤ (pRA n t T).2.2 ∧ (pRA n t T).2.2 ≤ 1000 := by
  have hA := pM_G (nx_G (t := t) hT.2.2.1) (hasA (kwK t T)) (loA (kwK t T)) (hiA (kwK t T))
  have hR := lo_R (k := kwK t T) (by omega)
  by_cases e : hasA (kwK t T)
  · by_cases q : (pRA n t T).1 = true
    · have := hA.2.1 q e
      unfold pRA
      omega
    · unfold pRA pM at q ⊢
      rw [if_pos e] at q ⊢
      unfold pN at q ⊢
      by_cases q2 : pNo n t (loA (kwK t T)) (hiA (kwK t T)) (nx n t (kE T))
      · rw [if_pos q2] at q; exact absurd rfl q
      · rw [if_neg q2]
        show -1000 ≤ (0 : Int) ∧ (0 : Int) ≤ 1000
        decide
  · have := hA.2.2 e
    unfold pRA
    omega
theorem s_rl76 {σ : zS} {x c n o m : Nat} {t : Nat → Nat} {T : zTk} {L : Nat → Nat → Int} {q : Nat → Nat} {a b : Int} (h : TR σ x n t) (hR : RV σ x T) (hT : TkG n t T) (hW : StW σ o) (hoc : o ≤ c) (hcx : c + 28 ≤ x) (hS : CmS σ c) (hq : CmQ σ c q) (hn : zi σ 2 c = nI m) (hm : m < 8) (hL : ∀ i, i < m → LyV σ (c + 4 + 3 * q i) (L i)) (hf : zi σ 390 x = 0) (k : Nat) (hg : GL (lNew k a b)) (z : zV) (d : Nat) :
    ∃ τ, LX8_readLayer_76 (zEv (d + 8)) x (some c) (nI k) z (iI a) (iI b) σ = some (none, τ) ∧ zFr (inRd x c) σ τ ∧ zi τ 385 x = zi σ 385 x ∧ zi τ 390 x = (if (pO n t 3 false false false T (lNew k a b)).1 = true ∧ kK (pO n t 3 false false false T (lNew k a b)).2.1 = 4 then 0 else 1) ∧ RV τ x (if (pO n t 3 false false false T (lNew k a b)).1 = true ∧ kK (pO n t 3 false false false T (lNew k a b)).2.1 = 4 then nx n t (kE (pO n t 3 false false false T (lNew k a b)).2.1) else (pO n t 3 false false false T (lNew k a b)).2.1) ∧ ((pO n t 3 false false false T (lNew k a b)).1 = true ∧ kK (pO n t 3 false false false T (lNew k a b)).2.1 = 4 → zi τ 2 c = nI (m + 1) ∧ ∀ i, i < m + 1 → LyV τ (c + 4 + 3 * q i) (if i = m then (pO n t 3 false false false T (lNew k a b)).2.2 else L i)) := by
  have b1 : zB 1 = True := eq_true (Or.inr rfl)
  have hqm := (hq.1 m hm).2
  obtain ⟨τ, k1, k2, k3, k4⟩ := s_addFresh hS hq hn hm k a b (d + 4)
  have k1' : zEv (d + 8) mX0_addFresh [.inr (.inl (some c)), .inl (nI k), .inl (iI a), .inl (iI b)] σ = some (some (.inr (.inl (some (c + 4 + 3 * q m)))), τ) := by rw [i_nI]; exact k1
  have g1 : zFr (inRd x c) σ τ := k2.mono (fun p hp => by unfold inL at hp; unfold inRd; omega)
  have h' : TR τ x n t := h.fr k2 (k2.i (by unfold inL; omega) _) (by unfold inL; omega)
  have hR' : RV τ x T := hR.to (fun f _ _ => k2.i (by unfold inL; omega) f)
  have hS' := hS.fr k2
  have hy := hS'.2.2.2.2.2.2 (q m) hqm
  have f390 : zi τ 390 x = 0 := (k2.i (by unfold inL; omega) _).trans hf
  obtain ⟨υ, l1, l2, l3, l4, l5, l6⟩ := s_optLoop (x := x) (n := n) (o := o) (y := c + 4 + 3 * q m) (t := t) (by omega) (by omega) d 3 0 false false false T (lNew k a b) (.inr (.inr 0)) τ rfl h' hR' hT (hW.fr g1 (fun p hp => by unfold inRd; omega)) hy k4 f390
  have l1' : zEv (d + 8) mX8_readOptions [.inr (.inl (some x)), .inr (.inl (some (c + 4 + 3 * q m)))] τ = some (none, υ) := by
    rw [vX8_readOptions]
    unfold fX8_readOptions
    simp only [zlt_e]
    exact l1
  have hO := pO_G 3 false false false T (lNew k a b) hT hg
  generalize pO n t 3 false false false T (lNew k a b) = O at *
  have g2 : zFr (inRd x c) σ υ := g1.tr (l2.mono (fun p hp => by unfold inRd; omega))
  have h2 := h'.fr l2 l3 (by omega)
  have e385 : zi υ 385 x = zi σ 385 x := l3.trans (k2.i (by unfold inL; omega) _)
  have q4 : (nI (kK O.2.1) = 4) ↔ kK O.2.1 = 4 := n_eq (by have := hO.1.1; omega) (by decide)
  have hcn : zi υ 2 c = nI (m + 1) := (l2.i (by omega) _).trans k3
  have hLy : O.1 = true → ∀ i, i < m + 1 → LyV υ (c + 4 + 3 * q i) (if i = m then O.2.2 else L i) := fun ho i hi => by
    by_cases e : i = m
    · rw [if_pos e, e]; exact l6 ho
    · rw [if_neg e]
      have hqi := (hq.1 i (by omega)).2
      have hne : q i ≠ q m := fun q' => e (hq.2 i _ (by omega) (by omega) q')
      exact ((hL i (by omega)).fr k2 (fun p hp => by unfold inL at hp ⊢; omega)).fr l2 (fun p hp => by unfold inL at hp; omega)
  rw [uX8_readLayer_76]
  simp only [zlt_e, chk_e, h.1.1, if_true, hf, onR_s, hS.1, k1', bnR_s]
  rw [uX8_readLayer_98]
  simp only [nul_s, chk_e, h'.1.1, if_true, l1', bnV_s, h2.1.1, l4, l5.1, q4]
  by_cases ho : O.1 = true
  · simp only [if_pos ho]
    by_cases h4 : kK O.2.1 = 4
    · obtain ⟨ω, m1, m2, m3, m4⟩ := s_nextToken h2 l5.2.2.1 hO.1.2.2.1 (d + 5)
      have m1' : zEv (d + 8) mX8_nextToken [.inr (.inl (some x))] υ = some (none, ω) := m1
      simp only [if_pos h4, m1', bnV_s, if_pos (show O.1 = true ∧ kK O.2.1 = 4 from ⟨ho, h4⟩), if_true]
      refine ⟨ω, rfl, g2.tr (m2.mono (fun p hp => Or.inl hp)), (m3 _ (by omega)).trans e385, (m3 _ (by omega)).trans (by rw [l4, if_pos ho]), m4, fun _ => ⟨(m2.i (by omega) _).trans hcn, fun i hi => (hLy ho i hi).fr m2 (fun p hp => by
        have hqi := (hq.1 i (by omega)).2
        unfold inL at hp
        omega)⟩⟩
    · have hx : ¬ (O.1 = true ∧ kK O.2.1 = 4) := fun q => h4 q.2
      simp only [if_neg h4, if_neg hx, if_true, b1, and_self, zlt_e]
      exact ⟨_, rfl, g2.tr (zFr.si _ (Or.inl rfl)), by rw [zi_si, if_neg (by omega)]; exact e385, by rw [zi_si, if_pos ⟨rfl, rfl⟩], l5.to (fun f _ _ => by rw [zi_si, if_neg (by omega)]), fun q => absurd q hx⟩
  · have hx : ¬ (O.1 = true ∧ kK O.2.1 = 4) := fun q => ho q.1
    simp only [if_neg ho, if_neg hx, show ((1 : Int32) = 0) = False from by decide, if_false, b1, and_self, if_true, zlt_e]
    exact ⟨_, rfl, g2.tr (zFr.si _ (Or.inl rfl)), by rw [zi_si, if_neg (by omega)]; exact e385, by rw [zi_si, if_pos ⟨rfl, rfl⟩], l5.to (fun f _ _ => by rw [zi_si, if_neg (by omega)]), fun q => absurd q hx⟩
theorem s_rl76F {σ : zS} {x : Nat} (hk : zkd σ x = 6) (hf : zi σ 390 x = 1) (E : zE) (c : Option Nat) (k a b : Int32) (z : zV) : LX8_readLayer_76 E x c k z a b σ = some (none, σ) := by
  rw [uX8_readLayer_76]
  simp only [zlt_e, chk_e, hk, if_true, hf, show ((1 : Int32) = 0) = False from by decide, if_false]
  rw [uX8_readLayer_98]
  rfl
theorem s_rl51 {σ : zS} {x c n o m : Nat} {t : Nat → Nat} {T : zTk} {L : Nat → Nat → Int} {q : Nat → Nat} (h : TR σ x n t) (hT : TkG n t T) (hR : RV σ x (pRA n t T).2.1) (hK : StK σ o) (hW : StW σ o) (hoc : o ≤ c) (hcx : c + 28 ≤ x) (hS : CmS σ c) (hq : CmQ σ c q) (hn : zi σ 2 c = nI m) (hm : m < 8) (hL : ∀ i, i < m → LyV σ (c + 4 + 3 * q i) (L i)) (hk : kwK t T < 14) (hf : zi σ 390 x = (if (pRA n t T).1 = true then 0 else 1)) (d : Nat) :
    ∃ τ, LX8_readLayer_51 (zEv (d + 8)) x (some c) (nI (kwK t T)) (iI (tbK 0 (kwK t T))) (iI (pRA n t T).2.2) σ = some (none, τ) ∧ zFr (inRd x c) σ τ ∧ zi τ 385 x = zi σ 385 x ∧ zi τ 390 x = (if (pL n t T m).1 = true then 0 else 1) ∧ RV τ x (pL n t T m).2.1 ∧ ((pL n t T m).1 = true → zi τ 2 c = nI (m + 1) ∧ ∀ i, i < m + 1 → LyV τ (c + 4 + 3 * q i) (if i = m then (pL n t T m).2.2 else L i)) := by
  have hAG := pM_G (nx_G (t := t) hT.2.2.1) (hasA (kwK t T)) (loA (kwK t T)) (hiA (kwK t T))
  have hBG := pM_G hAG.1 (hasB (kwK t T)) (loB (kwK t T) (pRA n t T).2.2) (hiB (kwK t T))
  have hAR := pRA_R hT hk
  obtain ⟨-, tB⟩ := tb_has _ hk
  have hlb := loB_R (k := kwK t T) (a := (pRA n t T).2.2) hAR
  have hlr := lo_R (k := kwK t T) (by omega)
  rw [uX8_readLayer_51]
  simp only [zlt_e, tB]
  by_cases ha : (pRA n t T).1 = true
  · rw [if_pos ha] at hf
    -- with the first number
    have go : ∀ υ, TR υ x n t → RV υ x (pRB n t T).2.1 → zi υ 390 x = (if (pRB n t T).1 = true then 0 else 1) → zFr (fun a => a = x) σ υ → zi υ 385 x = zi σ 385 x → ∃ τ, LX8_readLayer_76 (zEv (d + 8)) x (some c) (nI (kwK t T)) (.inl (iI (tbK 0 (kwK t T)))) (iI (pRA n t T).2.2) (iI (pRB n t T).2.2) υ = some (none, τ) ∧ zFr (inRd x c) σ τ ∧ zi τ 385 x = zi σ 385 x ∧ zi τ 390 x = (if (pL n t T m).1 = true then 0 else 1) ∧ RV τ x (pL n t T m).2.1 ∧ ((pL n t T m).1 = true → zi τ 2 c = nI (m + 1) ∧ ∀ i, i < m + 1 → LyV τ (c + 4 + 3 * q i) (if i = m then (pL n t T m).2.2 else L i)) := by
      intro υ h' hR' hf' g e385
      have gm : zFr (inRd x c) σ υ := g.mono (fun p hp => Or.inl hp)
      by_cases hb : (pRB n t T).1 = true
      · rw [if_pos hb] at hf'
        obtain ⟨τ, k1, k2, k3, k4, k5, k6⟩ := s_rl76 (a := (pRA n t T).2.2) (b := (pRB n t T).2.2) h' hR' hBG.1 (hW.fr g (fun a ha => by omega)) hoc hcx (hS.fr g) (hq.fr g (by omega)) ((g.i (by omega) _).trans hn) hm (fun i hi => (hL i hi).fr g (fun p hp => by
          have hqi := (hq.1 i (by omega)).2
          unfold inL at hp
          omega)) hf' (kwK t T) (GL.new (by omega) (pL_ok hT hk ha hb)) (.inl (iI (tbK 0 (kwK t T)))) d
        have eO : pO n t 3 false false false (pRB n t T).2.1 (lNew (kwK t T) (pRA n t T).2.2 (pRB n t T).2.2) = pRO n t T := rfl
        rw [eO] at k4 k5 k6
        refine ⟨τ, k1, gm.tr k2, k3.trans e385, ?_⟩
        by_cases hc : (pRO n t T).1 = true ∧ kK (pRO n t T).2.1 = 4
        · rw [if_pos hc] at k4 k5
          have e : pL n t T m = (true, nx n t (kE (pRO n t T).2.1), (pRO n t T).2.2) := (pL_1 hk hm ha hb).trans (if_pos hc)
          rw [e]
          exact ⟨k4, k5, fun _ => k6 hc⟩
        · rw [if_neg hc] at k4 k5
          have e : pL n t T m = (false, (pRO n t T).2.1, fun _ => 0) := (pL_1 hk hm ha hb).trans (if_neg hc)
          rw [e]
          exact ⟨k4, k5, fun q => absurd (show false = true from q) (by decide)⟩
      · rw [if_neg hb] at hf'
        rw [pL_2 hk hm ha hb, s_rl76F h'.1.1 hf']
        exact ⟨υ, rfl, gm, e385, hf', hR', fun q => absurd (show false = true from q) (by decide)⟩
    by_cases hb : hasB (kwK t T)
    · rw [if_neg (fun q => q hb)]
      obtain ⟨υ, k1, k2, k3, k4, k5⟩ := s_readNumber (lo := loB (kwK t T) (pRA n t T).2.2) (hi := hiB (kwK t T)) h hR hAG.1 (by omega) (by omega) hf (d + 4)
      have k1' : zEv (d + 8) mX8_readNumber [.inr (.inl (some x)), .inl (iI (loB (kwK t T) (pRA n t T).2.2)), .inl (iI (hiB (kwK t T)))] σ = _ := k1
      have eB : pRB n t T = pN n t (loB (kwK t T) (pRA n t T).2.2) (hiB (kwK t T)) (pRA n t T).2.1 := if_pos hb
      rw [← eB] at k1' k4 k5
      simp only [s_lowestB hK hk (pRA n t T).2.2 (d + 6), s_highestB hK hk (d + 6), bnI_s, chk_e, h.1.1, if_true, k1']
      exact go υ (h.fr k2 k3 (by omega)) k5 k4 k2 k3
    · rw [if_pos hb]
      have eB : pRB n t T = (true, (pRA n t T).2.1, 0) := if_neg hb
      have := go σ h (by rw [eB]; exact hR) (by rw [eB]; exact hf) (zFr.rf σ) rfl
      rw [eB] at this
      exact this
  · rw [if_neg ha] at hf
    have e : pL n t T m = (false, (pRA n t T).2.1, fun _ => 0) := pL_3 hk hm ha
    have fin : ∃ τ, (some (none, σ) : zO) = some (none, τ) ∧ zFr (inRd x c) σ τ ∧ zi τ 385 x = zi σ 385 x ∧ zi τ 390 x = (if (pL n t T m).1 = true then 0 else 1) ∧ RV τ x (pL n t T m).2.1 ∧ ((pL n t T m).1 = true → zi τ 2 c = nI (m + 1) ∧ ∀ i, i < m + 1 → LyV τ (c + 4 + 3 * q i) (if i = m then (pL n t T m).2.2 else L i)) := by
      rw [e]
      exact ⟨σ, rfl, zFr.rf σ, rfl, hf, hR, fun q => absurd (show false = true from q) (by decide)⟩
    by_cases hb : hasB (kwK t T)
    · rw [if_neg (fun q => q hb)]
      simp only [s_lowestB hK hk (pRA n t T).2.2 (d + 6), s_highestB hK hk (d + 6), bnI_s, chk_e, h.1.1, if_true, s_readNumberF h.1.1 hf _ _ (d + 7), s_rl76F h.1.1 hf]
      exact fin
    · rw [if_pos hb, s_rl76F h.1.1 hf]
      exact fin
theorem s_readLayer {σ : zS} {x c n o m : Nat} {t : Nat → Nat} {T : zTk} {L : Nat → Nat → Int} {q : Nat → Nat} (h : TR σ x n t) (hT : TkG n t T) (hR : RV σ x T) (hK : StK σ o) (hW : StW σ o) (hoc : o ≤ c) (hcx : c + 28 ≤ x) (hS : CmS σ c) (hq : CmQ σ c q) (hn : zi σ 2 c = nI m) (hm : m ≤ 8) (hL : ∀ i, i < m → LyV σ (c + 4 + 3 * q i) (L i)) (hf : zi σ 390 x = 0) (d : Nat) :
    ∃ τ, zEv (d + 9) mX8_readLayer [.inr (.inl (some x)), .inr (.inl (some c))] σ = some (none, τ) ∧ zFr (inRd x c) σ τ ∧ zi τ 385 x = zi σ 385 x ∧ zi τ 390 x = (if (pL n t T m).1 = true then 0 else 1) ∧ RV τ x (pL n t T m).2.1 ∧ ((pL n t T m).1 = true → zi τ 2 c = nI (m + 1) ∧ ∀ i, i < m + 1 → LyV τ (c + 4 + 3 * q i) (if i = m then (pL n t T m).2.2 else L i)) := by
  have b1 : zB 1 = True := eq_true (Or.inr rfl)
  have hle : kwK t T ≤ 14 := (fnd_le _ 14 0).2
  have fail : ¬ (kwK t T < 14 ∧ m < 8) → ∃ τ, (some (none, zsi σ 390 x 1) : zO) = some (none, τ) ∧ zFr (inRd x c) σ τ ∧ zi τ 385 x = zi σ 385 x ∧ zi τ 390 x = (if (pL n t T m).1 = true then 0 else 1) ∧ RV τ x (pL n t T m).2.1 ∧ ((pL n t T m).1 = true → zi τ 2 c = nI (m + 1) ∧ ∀ i, i < m + 1 → LyV τ (c + 4 + 3 * q i) (if i = m then (pL n t T m).2.2 else L i)) := fun hx => by
    have e : pL n t T m = (false, T, fun _ => 0) := if_neg hx
    rw [e]
    exact ⟨_, rfl, zFr.si σ (Or.inl rfl), by rw [zi_si, if_neg (by omega)], by rw [zi_si, if_pos ⟨rfl, rfl⟩]; rfl, hR.to (fun f a b => by rw [zi_si, if_neg (by omega)]), fun q => absurd (show false = true from q) (by decide)⟩
  rw [vX8_readLayer]
  unfold fX8_readLayer
  simp only [chk_e, h.1.1, if_true, s_kindW h hR hT hW (d + 2), bnI_s, zlt_e, orN_lt (show kwK t T ≤ 100 by omega), b1, and_self]
  by_cases hk : kwK t T < 14
  · rw [if_neg (fun q => q hk)]
    simp only [orN_y hk, onR_s, hS.1, if_true, s_isFull hS hn hm (d + 7), bnI_s, zb_0, h.1.1, and_self, zlt_e]
    by_cases h8 : m = 8
    · rw [if_neg (fun q => q h8)]
      exact fail (fun q => by omega)
    · rw [if_pos h8]
      obtain ⟨τ, k1, k2, k3, k4⟩ := s_nextToken h hR.2.2.1 hT.2.2.1 (d + 5)
      have k1' : zEv (d + 8) mX8_nextToken [.inr (.inl (some x))] σ = some (none, τ) := k1
      have h' := h.fr k2 (k3 _ (by omega)) (by omega)
      have hK' : StK τ o := hK.fr k2 (fun a ha => by omega)
      obtain ⟨tA, -⟩ := tb_has _ hk
      have hlr := lo_R (k := kwK t T) (by omega)
      simp only [k1', bnV_s, s_param hK' hk (d + 6), bnI_s, tA]
      have go : ∀ υ, TR υ x n t → RV υ x (pRA n t T).2.1 → zi υ 390 x = (if (pRA n t T).1 = true then 0 else 1) → zFr (fun a => a = x) σ υ → zi υ 385 x = zi σ 385 x → ∃ τ, LX8_readLayer_51 (zEv (d + 8)) x (some c) (nI (kwK t T)) (iI (tbK 0 (kwK t T))) (iI (pRA n t T).2.2) υ = some (none, τ) ∧ zFr (inRd x c) σ τ ∧ zi τ 385 x = zi σ 385 x ∧ zi τ 390 x = (if (pL n t T m).1 = true then 0 else 1) ∧ RV τ x (pL n t T m).2.1 ∧ ((pL n t T m).1 = true → zi τ 2 c = nI (m + 1) ∧ ∀ i, i < m + 1 → LyV τ (c + 4 + 3 * q i) (if i = m then (pL n t T m).2.2 else L i)) := by
        intro υ h' hR' hf' g e385
        obtain ⟨ω, l1, l2, l3, l4, l5, l6⟩ := s_rl51 h' hT hR' (hK.fr g (fun a ha => by omega)) (hW.fr g (fun a ha => by omega)) hoc hcx (hS.fr g) (hq.fr g (by omega)) ((g.i (by omega) _).trans hn) (show m < 8 by omega) (fun i hi => (hL i hi).fr g (fun p hp => by
          have hqi := (hq.1 i (by omega)).2
          unfold inL at hp
          omega)) hk hf' d
        exact ⟨ω, l1, (g.mono (fun p hp => Or.inl hp)).tr l2, l3.trans e385, l4, l5, l6⟩
      by_cases ha : hasA (kwK t T)
      · rw [if_neg (fun q => q ha)]
        obtain ⟨υ, l1, l2, l3, l4, l5⟩ := s_readNumber (lo := loA (kwK t T)) (hi := hiA (kwK t T)) h' k4 (nx_G hT.2.2.1) (by omega) (by omega) ((k3 _ (by omega)).trans hf) (d + 4)
        have l1' : zEv (d + 8) mX8_readNumber [.inr (.inl (some x)), .inl (iI (loA (kwK t T))), .inl (iI (hiA (kwK t T)))] τ = _ := l1
        have eA : pRA n t T = pN n t (loA (kwK t T)) (hiA (kwK t T)) (nx n t (kE T)) := if_pos ha
        rw [← eA] at l1' l4 l5
        simp only [s_lowestA hK' hk (d + 6), s_highestA hK' hk (d + 6), bnI_s, h'.1.1, if_true, l1']
        exact go υ (h'.fr l2 l3 (by omega)) l5 l4 (k2.tr l2) (l3.trans (k3 _ (by omega)))
      · rw [if_pos ha]
        have eA : pRA n t T = (true, nx n t (kE T), 0) := if_neg ha
        have := go τ h' (by rw [eA]; exact k4) (by rw [eA]; exact (k3 _ (by omega)).trans hf) k2 (k3 _ (by omega))
        rw [eA] at this
        exact this
  · rw [if_pos hk]
    exact fail (fun q => hk q.1)
theorem s_riStop {σ : zS} {x : Nat} (hk : zkd σ x = 6) (hf : zi σ 390 x = 1) (E : zE) (c : Option Nat) (i : Int32) : LX8_readInto_20 E x c i σ = some (some (.inl (zi σ 387 x)), σ) := by
  rw [uX8_readInto_20]
  simp only [chk_e, hk, if_true, hf, show ((1 : Int32) = 0) = False from by decide, if_false, ite_self]
theorem s_riLoop {x c n o : Nat} {t : Nat → Nat} {q : Nat → Nat} (hoc : o ≤ c) (hcx : c + 28 ≤ x) (d : Nat) : ∀ (f m : Nat) (T : zTk) (L : Nat → Nat → Int) (σ : zS), m + f = 9 → m ≤ 8 → TR σ x n t → TkG n t T → RV σ x T → StK σ o → StW σ o → CmS σ c → CmQ σ c q → zi σ 2 c = nI m → (∀ i, i < m → LyV σ (c + 4 + 3 * q i) (L i)) → zi σ 390 x = 0 →
    ∃ τ, LX8_readInto_20 (zEv (d + 9)) x (some c) (nI m) σ = some (some (.inl (if (pA n t f T m L).1 = true then -1 else nI (kS (pA n t f T m L).2.1))), τ) ∧ zFr (inRd x c) σ τ ∧ zi τ 385 x = zi σ 385 x ∧ ((pA n t f T m L).1 = true → zi τ 2 c = nI (pA n t f T m L).2.2.1 ∧ ∀ i, i < (pA n t f T m L).2.2.1 → LyV τ (c + 4 + 3 * q i) ((pA n t f T m L).2.2.2 i)) := by
  intro f
  induction f with
  | zero => intro m T L σ hm h8; omega
  | succ f ih =>
    intro m T L σ hm h8 h hT hR hK hW hS hq hn hL hf
    have q0 : (nI (kK T) = 0) ↔ kK T = 0 := n_eq (by have := hT.1; omega) (by decide)
    have q8 : nI m ≤ 8 := (n_le (a := m) (b := 8) (by omega) (by decide)).mpr (by omega)
    rw [uX8_readInto_20, if_pos q8]
    simp only [chk_e, h.1.1, if_true, hR.1, q0, hf]
    unfold pA
    by_cases h0 : kK T = 0
    · simp only [if_pos h0, if_true]
      exact ⟨σ, rfl, zFr.rf σ, rfl, fun _ => ⟨hn, hL⟩⟩
    · obtain ⟨τ, k1, k2, k3, k4, k5, k6⟩ := s_readLayer h hT hR hK hW hoc hcx hS hq hn h8 hL hf d
      have hx : ¬ inRd x c (x + 1) := by unfold inRd; omega
      have h' := h.fr k2 k3 hx
      simp only [if_neg h0, k1, bnV_s, zlt_e, nI_1, nI_add]
      by_cases hp : (pL n t T m).1 = true
      · simp only [if_pos hp] at k4 ⊢
        obtain ⟨k6, k7⟩ := k6 hp
        have hm8 : m < 8 := by
          by_cases q : kwK t T < 14 ∧ m < 8
          · exact q.2
          · have e : pL n t T m = (false, T, fun _ => 0) := if_neg q
            rw [e] at hp
            exact absurd (show false = true from hp) (by decide)
        obtain ⟨υ, l1, l2, l3, l4⟩ := ih (m + 1) (pL n t T m).2.1 (fun i => if i = m then (pL n t T m).2.2 else L i) τ (by omega) (by omega) h' (pL_G hT m).1 k5 (hK.fr k2 (fun a ha => by unfold inRd; omega)) (hW.fr k2 (fun a ha => by unfold inRd; omega)) (hS.fr k2) (hq.fr k2 (by unfold inRd; omega)) k6 k7 k4
        exact ⟨υ, l1, k2.tr l2, l3.trans k3, l4⟩
      · simp only [if_neg hp] at k4 ⊢
        rw [s_riStop h'.1.1 k4, k5.2.1]
        exact ⟨τ, rfl, k2, k3, fun q => absurd (show false = true from q) (by decide)⟩
/-- the whole text, parsed -/
def pS (n : Nat) (t : Nat → Nat) : zPa := pA n t 9 (nx n t 0) 0 (fun _ _ => 0)
theorem s_readInto {σ : zS} {x c n o : Nat} {t : Nat → Nat} {q : Nat → Nat} (h : TR σ x n t) (hoc : o ≤ c) (hcx : c + 28 ≤ x) (hK : StK σ o) (hW : StW σ o) (hS : CmS σ c) (hq : CmQ σ c q) (d : Nat) : ∃ τ, zEv (d + 10) mX8_readInto [.inr (.inl (some x)), .inr (.inl (some c))] σ = some (some (.inl (if (pS n t).1 = true then -1 else nI (kS (pS n t).2.1))), τ) ∧ zFr (inRd x c) σ τ ∧ zi τ 385 x = zi σ 385 x ∧ ((pS n t).1 = true → zi τ 2 c = nI (pS n t).2.2.1 ∧ ∀ i, i < (pS n t).2.2.1 → LyV τ (c + 4 + 3 * q i) ((pS n t).2.2.2 i)) := by
  have b0 : zB 0 = True := eq_true (Or.inl rfl)
  have e1 : zEv (d + 9) mX0_removeLayers [.inr (.inl (some c))] σ = some (none, zsi σ 2 c 0) := by
    rw [vX0_removeLayers]
    unfold fX0_removeLayers
    simp only [zlt_e, onR_s, nul_s, nul_n, chk_e, bnI_s, bnR_s, bnV_s, zi_si, zi_sr, zi_sl, zi_sa, zi_sq, zr_si, zr_sr, zr_sl, zr_sa, zr_sq, zl_si, zl_sr, zl_sl, zl_sa, zl_sq, zai_si, zai_sr, zai_sl, zai_sa, zai_sq, zar_si, zar_sr, zar_sl, zar_sa, zar_sq, zkd_si, zkd_sr, zkd_sl, zkd_sa, zkd_sq, zln_si, zln_sr, zln_sl, zln_sa, zln_sq, znx_si, znx_sr, znx_sl, znx_sa, znx_sq, hS.1, if_true]
  have g0 : zFr (inRd x c) σ (zsi (zsi (zsi σ 2 c 0) 390 x 0) 388 x 0) := ((zFr.si σ (by unfold inRd; omega)).tr (zFr.si _ (Or.inl rfl))).tr (zFr.si _ (Or.inl rfl))
  have i385 : zi (zsi (zsi (zsi σ 2 c 0) 390 x 0) 388 x 0) 385 x = zi σ 385 x := by
    rw [zi_si, if_neg (by omega), zi_si, if_neg (by omega), zi_si, if_neg (by omega)]
  have i2 : zi (zsi (zsi (zsi σ 2 c 0) 390 x 0) 388 x 0) 2 c = nI 0 := by
    rw [zi_si, if_neg (by omega), zi_si, if_neg (by omega), zi_si, if_pos ⟨rfl, rfl⟩]; rfl
  have i390 : zi (zsi (zsi (zsi σ 2 c 0) 390 x 0) 388 x 0) 390 x = 0 := by
    rw [zi_si, if_neg (by omega), zi_si, if_pos ⟨rfl, rfl⟩]
  have i388 : zi (zsi (zsi (zsi σ 2 c 0) 390 x 0) 388 x 0) 388 x = nI 0 := by
    rw [zi_si, if_pos ⟨rfl, rfl⟩]; rfl
  rw [vX8_readInto]
  unfold fX8_readInto
  simp only [onR_s, chk_e, hS.1, if_true, e1, bnV_s, zkd_si, h.1.1, b0, and_self, zlt_e]
  have hx : ¬ inRd x c (x + 1) := by unfold inRd; omega
  have h1 := h.fr g0 i385 hx
  have hS1 := hS.fr g0
  have hq1 := hq.fr g0 (by unfold inRd; omega)
  have hK1 : StK _ o := hK.fr g0 (fun a ha => by unfold inRd; omega)
  have hW1 : StW _ o := hW.fr g0 (fun a ha => by unfold inRd; omega)
  generalize zsi (zsi (zsi σ 2 c 0) 390 x 0) 388 x 0 = σ1 at *
  obtain ⟨τ, k1, k2, k3, k4⟩ := s_nextToken h1 i388 (Nat.zero_le _) (d + 6)
  have k1' : zEv (d + 9) mX8_nextToken [.inr (.inl (some x))] σ1 = some (none, τ) := k1
  obtain ⟨υ, l1, l2, l3, l4⟩ := s_riLoop hoc hcx d 9 0 (nx n t 0) (fun _ _ => 0) τ rfl (Nat.zero_le _) (h1.fr k2 (k3 _ (by omega)) (by omega)) (nx_G (Nat.zero_le _)) k4 (hK1.fr k2 (fun a ha => by omega)) (hW1.fr k2 (fun a ha => by omega)) (hS1.fr k2) (hq1.fr k2 (by omega)) ((k2.i (by omega) _).trans i2) (fun i hi => absurd hi (Nat.not_lt_zero _)) ((k3 _ (by omega)).trans i390)
  have l1' : LX8_readInto_20 (zEv (d + 9)) x (some c) 0 τ = _ := l1
  simp only [k1', bnV_s, l1']
  exact ⟨υ, rfl, (g0.tr (k2.mono (fun p hp => Or.inl hp))).tr l2, (l3.trans (k3 _ (by omega))).trans i385, l4⟩
theorem pA_G {n : Nat} {t : Nat → Nat} : ∀ f T m L, m + f = 9 → m ≤ 8 → TkG n t T → (∀ i, i < m → GL (L i)) → kS (pA n t f T m L).2.1 ≤ n ∧ ((pA n t f T m L).1 = true → (pA n t f T m L).2.2.1 ≤ 8 ∧ ∀ i, i < (pA n t f T m L).2.2.1 → GL ((pA n t f T m L).2.2.2 i))
  | 0, T, m, L, h, h8, _, _ => by omega
  | f + 1, T, m, L, h, h8, hT, hL => by
    unfold pA
    split
    · exact ⟨Nat.le_trans hT.2.1 hT.2.2.1, fun _ => ⟨h8, hL⟩⟩
    · have hG := pL_G hT m
      split
      · next hp =>
        have hm8 : m < 8 := by
          by_cases q : kwK t T < 14 ∧ m < 8
          · exact q.2
          · have e : pL n t T m = (false, T, fun _ => 0) := if_neg q
            rw [e] at hp
            exact absurd (show false = true from hp) (by decide)
        exact pA_G f _ (m + 1) _ (by omega) (by omega) hG.1 (fun i hi => by
          by_cases e : i = m
          · simp only [if_pos e]; exact hG.2 hp
          · simp only [if_neg e]; exact hL i (by omega))
      · exact ⟨Nat.le_trans hG.1.2.1 hG.1.2.2.1, fun q => absurd (show false = true from q) (by decide)⟩
