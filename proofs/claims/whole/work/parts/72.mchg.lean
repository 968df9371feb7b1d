/-! the reference: two rows change places -/
def swL (L : Nat → Nat → Int) (i j k : Nat) : Nat → Int := if k = i then L j else if k = j then L i else L k
def swC (C : zC) (i j : Nat) : zC := (cW C, cH C, cN C, cP C, swL (cL C) i j)
def swP (i j k p : Nat) : Nat := if 259 + 32 * i ≤ p ∧ p < 259 + 32 * i + k then p + 32 * j - 32 * i else if 259 + 32 * j ≤ p ∧ p < 259 + 32 * j + k then p + 32 * i - 32 * j else p
theorem s_exchange {σ : zS} {m i j : Nat} {C : zC} (hM : MS σ m) (hV : MV σ (m + 1) 0 C) (hw : cW C ≤ 16) (hh : cH C ≤ 16) (hn8 : cN C ≤ 8) (hi : i < cN C) (hj : j < cN C) (hij : i ≠ j) (d : Nat) : ∃ τ, zEv (d + 2) mX11_exchange [.inr (.inl (some m)), .inl (nI i), .inl (nI j)] σ = some (none, τ) ∧ zFr (fun x => x = m + 1) σ τ ∧ (∀ f x, zi τ f x = zi σ f x) ∧ MV τ (m + 1) 0 (swC C i j) := by
  rw [vX11_exchange]
  unfold fX11_exchange
  simp only [zlt_e]
  obtain ⟨⟨τ, z⟩, h1, h2⟩ := loop_from (fun k (s : zS × zV) => LX11_exchange_2 (zEv (d + 1)) m (nI i) (nI j) (nI k) s.2 s.1) (fun k s => zFr (fun x => x = m + 1) σ s.1 ∧ (∀ f x, zi s.1 f x = zi σ f x) ∧ ∀ p, p < 515 → zai s.1 (m + 1) p = zai σ (m + 1) (swP i j k p)) 0 32 (fun s => some (none, s.1)) (σ, .inr (.inr 0)) (by decide) ⟨zFr.rf σ, fun _ _ => rfl, fun p hp => by unfold swP; rw [if_neg (by omega), if_neg (by omega)]⟩
    (fun k s hk hI => by
      obtain ⟨g, gi, ga⟩ := hI
      have hM' := hM.fr g
      have xa := ix_r (k := i) (j := k) (by omega) hk
      have xb := ix_r (k := j) (j := k) (by omega) hk
      have va : zai s.1 (m + 1) (259 + 32 * i + k) = zai σ (m + 1) (259 + 32 * i + k) := by rw [ga _ (by omega)]; unfold swP; rw [if_neg (by omega), if_neg (by omega)]
      have vb : zai s.1 (m + 1) (259 + 32 * j + k) = zai σ (m + 1) (259 + 32 * j + k) := by rw [ga _ (by omega)]; unfold swP; rw [if_neg (by omega), if_neg (by omega)]
      refine ⟨(zsa (zsa s.1 (m + 1) (259 + 32 * i + k) (zai σ (m + 1) (259 + 32 * j + k))) (m + 1) (259 + 32 * j + k) (zai σ (m + 1) (259 + 32 * i + k)), .inl (zai σ (m + 1) (259 + 32 * i + k))), ?_, (g.tr (zFr.sa _ rfl)).tr (zFr.sa _ rfl), gi, fun p hp => ?_⟩
      · show LX11_exchange_2 _ _ _ _ _ _ _ = LX11_exchange_2 _ _ _ _ _ _ _
        rw [uX11_exchange_2, if_pos (show nI k < 32 from (n_lt (show k < 2 ^ 31 by omega) (show 32 < 2 ^ 31 by decide)).mpr hk)]
        simp only [zlt_e, chk_e, onR_s, bnI_s, zkd_sa, zln_sa, zr_sa, s_mat, hM'.k, hM'.s.1, hM'.s.2.1, hM'.s.2.2, xa, xb, and_self, if_true, va, vb, nI_1]
      · rw [zai_sa, zai_sa]
        by_cases e2 : p = 259 + 32 * j + k
        · rw [if_pos ⟨rfl, e2⟩]
          unfold swP
          rw [if_neg (by omega), if_pos (by omega)]
          congr 1
          omega
        · rw [if_neg (by omega)]
          by_cases e1 : p = 259 + 32 * i + k
          · rw [if_pos ⟨rfl, e1⟩]
            unfold swP
            rw [if_pos (by omega)]
            congr 1
            omega
          · rw [if_neg (by omega), ga p hp]
            congr 1
            unfold swP
            repeat' split
            all_goals omega)
    (fun s hI => by
      show LX11_exchange_2 _ _ _ _ _ _ _ = _
      rw [uX11_exchange_2, if_neg (by decide)])
  obtain ⟨g, gi, ga⟩ := h2
  have low : ∀ p, p < 259 → zai τ (m + 1) p = zai σ (m + 1) p := fun p hp => by rw [ga p (by omega)]; unfold swP; rw [if_neg (by omega), if_neg (by omega)]
  refine ⟨τ, h1, g, gi, ?_, ?_, fun x y hx hy => ?_, ?_, fun k hk t ht => ?_⟩
  · exact (low _ (by decide)).trans hV.1
  · exact (low _ (by decide)).trans hV.2.1
  · have := lin256 hw hh hx hy
    rw [low _ (by show 0 + 2 + (y * cW C + x) < 259; have : y * cW C + x < 256 := this; omega)]
    exact hV.2.2.1 x y hx hy
  · exact (low _ (by decide)).trans hV.2.2.2.1
  · have hk : k < cN C := hk
    rw [ga _ (by omega)]
    show _ = iI ((if k = i then cL C j else if k = j then cL C i else cL C k) t)
    unfold swP
    by_cases e1 : k = i
    · rw [if_pos e1, if_pos (by omega), ← hV.2.2.2.2 j hj t ht]
      congr 1
      omega
    · rw [if_neg e1, if_neg (by omega)]
      by_cases e2 : k = j
      · rw [if_pos e2, if_pos (by omega), ← hV.2.2.2.2 i hi t ht]
        congr 1
        omega
      · rw [if_neg e2, if_neg (by omega)]
        exact hV.2.2.2.2 k hk t ht
theorem sw_up (L : Nat → Nat → Int) {f k : Nat} (h : f ≤ k) : swL (lMv L f k) k (k + 1) = lMv L f (k + 1) := by
  funext p
  unfold swL lMv
  by_cases e1 : p = k
  · rw [if_pos e1]
    congr 1
    unfold mvN
    repeat' split
    all_goals omega
  · rw [if_neg e1]
    by_cases e2 : p = k + 1
    · rw [if_pos e2]
      congr 1
      unfold mvN
      rw [if_pos rfl, if_pos e2]
    · rw [if_neg e2]
      congr 1
      unfold mvN
      repeat' split
      all_goals omega
theorem sw_down (L : Nat → Nat → Int) {f k : Nat} (h : k + 1 ≤ f) : swL (lMv L f (k + 1)) (k + 1) k = lMv L f k := by
  funext p
  unfold swL lMv
  by_cases e1 : p = k + 1
  · rw [if_pos e1]
    congr 1
    unfold mvN
    repeat' split
    all_goals omega
  · rw [if_neg e1]
    by_cases e2 : p = k
    · rw [if_pos e2]
      congr 1
      unfold mvN
      rw [if_pos rfl, if_pos e2]
    · rw [if_neg e2]
      congr 1
      unfold mvN
      repeat' split
      all_goals omega
theorem mv_self (C : zC) (f : Nat) : mvC C f f = C := by
  have : lMv (cL C) f f = cL C := by
    funext p
    unfold lMv
    congr 1
    unfold mvN
    by_cases e : p = f
    · rw [if_pos e, e]
    · rw [if_neg e, if_neg (by omega), if_neg (by omega)]
  unfold mvC
  rw [this]
  rfl
theorem m_moveLayer {σ : zS} {m B : Nat} {A : zW} (hG : GA A B) (hB : B < 2 ^ 30) (hI : MIx σ m A) (x y : Int32) (d : Nat) : zOM m (zEv (d + 20) mX11_moveLayer [.inr (.inl (some m)), .inl x, .inl y] σ) (rMv A x y) (tMv A x y) σ := by
  have hn8 := hG.1.2.2.1
  have hw := hG.1.1.2
  have hh := hG.1.2.1.2
  have hI1 := hI.th
  have g0 : zFr (fun a => m ≤ a ∧ a < m + 22) σ (zsi σ 576 m 0) := zFr.si σ (by omega)
  have key : ∀ r, zOM m (some (some (.inl r), zsi σ 576 m 0)) r A σ := fun r => zOM.same hI r
  rw [vX11_moveLayer]
  unfold fX11_moveLayer rMv tMv
  simp only [zlt_e, chk_e, hI.1.k, if_true]
  generalize zsi σ 576 m 0 = σ1 at *
  simp only [zlt_e, chk_e, bnI_s, hI1.1.k, if_true, s_misLayer hI1.1 hI1.2.1 hn8, zb_0]
  by_cases hx : zin x (cN (aC A))
  · rw [if_neg (fun q => q hx)]
    by_cases hy : zin y (cN (aC A))
    · rw [if_neg (fun q => q hy)]
      obtain ⟨ex, hf⟩ := zin_n hx
      obtain ⟨ey, ht⟩ := zin_n hy
      generalize x.toNatClampNeg = f at *
      generalize y.toNatClampNeg = t at *
      subst ex
      subst ey
      simp only [n_eq (show f < 2 ^ 31 by omega) (show t < 2 ^ 31 by omega)]
      by_cases hft : f = t
      · rw [if_pos hft, if_neg (fun q => q.2.2 hft), if_neg (fun q => q.2.2 hft)]
        exact key _
      · rw [if_neg hft, if_pos ⟨hx, hy, hft⟩, if_pos ⟨hx, hy, hft⟩]
        obtain ⟨τ, k1, k2, k3⟩ := s_mpush hG hI1 (d + 18)
        have x0 := ix_r (k := f) (j := 0) (by omega) (by decide)
        have v0 := k2.2.1.r hf (show 0 < 32 by decide)
        rw [show (0 : Int32) = nI 0 from rfl]
        simp only [k1, bnV_s, bnI_s, onR_s, s_mat, k2.1.k, k2.1.s.1, k2.1.s.2.1, k2.1.s.2.2, x0, and_self, if_true, v0]
        -- the rows in their new order
        have fin : ∀ (υ : zS) (z : Nat), (z = f ∨ z = t) → z ≤ t → zFr (fun x => x = m + 1) τ υ → (∀ f x, zi υ f x = zi τ f x) → MV υ (m + 1) 0 (mvC (aC A) f t) → zOM m (LX11_moveLayer_74 (zEv (d + 19)) m (nI f) (nI t) (iI (cL (aC (aPush A)) f 0)) (nI z) υ) (iI (cL (aC A) f 0)) (aSet (aCh A (min f t)) (mvC (aC A) f t)) σ := by
          intro υ z hz hzt g gi hV
          have hI3 : MIx υ m (aSet (aPush A) (mvC (aC A) f t)) := k2.comp g (fun a _ _ => by omega) (fun f _ => gi f m) hV
          rw [uX11_moveLayer_74]
          simp only [n_le (show z < 2 ^ 31 by omega) (show t < 2 ^ 31 by omega), hzt, if_true, n_lt (show f < 2 ^ 31 by omega) (show t < 2 ^ 31 by omega), hI3.1.k, chk_e]
          by_cases hlt : f < t
          · obtain ⟨ω, n, n1, n2, n3, n4⟩ := s_mtil (A := aSet (aPush A) (mvC (aC A) f t)) (hG.u31 hB) hI3 (show f ≤ 8 by omega) (d + 18)
            rw [if_pos hlt, n1, show min f t = f by omega]
            exact ⟨ω, rfl, n2, (g0.tr (k3.mono (fun a ha => by omega))).tr ((g.mono (fun a ha => by omega)).tr (n3.mono (fun a ha => by omega)))⟩
          · obtain ⟨ω, n, n1, n2, n3, n4⟩ := s_mtil (A := aSet (aPush A) (mvC (aC A) f t)) (hG.u31 hB) hI3 (show t ≤ 8 by omega) (d + 18)
            rw [if_neg hlt, n1, show min f t = t by omega]
            exact ⟨ω, rfl, n2, (g0.tr (k3.mono (fun a ha => by omega))).tr ((g.mono (fun a ha => by omega)).tr (n3.mono (fun a ha => by omega)))⟩
        by_cases hlt : f < t
        · obtain ⟨υ, h1, h2⟩ := loop_ge (fun k υ => LX11_moveLayer_49 (zEv (d + 19)) m (nI f) (nI t) (iI (cL (aC (aPush A)) f 0)) (nI k) υ) (fun k υ => zFr (fun x => x = m + 1) τ υ ∧ (∀ f x, zi υ f x = zi τ f x) ∧ MV υ (m + 1) 0 (mvC (aC A) f k)) f t (fun υ => LX11_moveLayer_74 (zEv (d + 19)) m (nI f) (nI t) (iI (cL (aC (aPush A)) f 0)) (nI f) υ) τ (by omega) ⟨zFr.rf τ, fun _ _ => rfl, by rw [mv_self]; exact k2.2.1⟩
            (fun k υ hfk hk hI => by
              obtain ⟨g, gi, gV⟩ := hI
              obtain ⟨ω, o1, o2, o3, o4⟩ := s_exchange (C := mvC (aC A) f k) (k2.1.fr g) gV hw hh hn8 (show k < cN (aC A) by omega) (show k + 1 < cN (aC A) by omega) (by omega) (d + 17)
              refine ⟨ω, ?_, g.tr o2, fun f x => (o3 f x).trans (gi f x), ?_⟩
              · show LX11_moveLayer_49 _ _ _ _ _ _ _ = LX11_moveLayer_49 _ _ _ _ _ _ _
                rw [uX11_moveLayer_49]
                simp only [zlt_e, chk_e, n_lt (show k < 2 ^ 31 by omega) (show t < 2 ^ 31 by omega), hk, if_true, (k2.1.fr g).k, nI_1, o1, bnV_s]
              · have e : swC (mvC (aC A) f k) k (k + 1) = mvC (aC A) f (k + 1) := by
                  show (cW (aC A), cH (aC A), cN (aC A), cP (aC A), swL (lMv (cL (aC A)) f k) k (k + 1)) = _
                  rw [sw_up _ hfk]
                  rfl
                rw [← e]
                exact o4)
            (fun υ hI => by
              rw [uX11_moveLayer_49]
              simp only [zlt_e, n_lt (show t < 2 ^ 31 by omega) (show t < 2 ^ 31 by omega), Nat.lt_irrefl, if_false])
          rw [h1]
          exact fin υ f (Or.inl rfl) (by omega) h2.1 h2.2.1 h2.2.2
        · obtain ⟨υ, h1, h2⟩ := loop_from (fun i υ => LX11_moveLayer_74 (zEv (d + 19)) m (nI f) (nI t) (iI (cL (aC (aPush A)) f 0)) (nI (f - i)) υ) (fun i υ => zFr (fun x => x = m + 1) τ υ ∧ (∀ f x, zi υ f x = zi τ f x) ∧ MV υ (m + 1) 0 (mvC (aC A) f (f - i))) 0 (f - t) (fun υ => LX11_moveLayer_74 (zEv (d + 19)) m (nI f) (nI t) (iI (cL (aC (aPush A)) f 0)) (nI t) υ) τ (by omega) ⟨zFr.rf τ, fun _ _ => rfl, by rw [Nat.sub_zero, mv_self]; exact k2.2.1⟩
            (fun i υ hi hI => by
              obtain ⟨g, gi, gV⟩ := hI
              obtain ⟨k, hk⟩ : ∃ k, f - i = k + 1 := ⟨f - i - 1, by omega⟩
              rw [hk] at gV
              obtain ⟨ω, o1, o2, o3, o4⟩ := s_exchange (C := mvC (aC A) f (k + 1)) (k2.1.fr g) gV hw hh hn8 (show k + 1 < cN (aC A) by omega) (show k < cN (aC A) by omega) (by omega) (d + 17)
              refine ⟨ω, ?_, g.tr o2, fun f x => (o3 f x).trans (gi f x), ?_⟩
              · show LX11_moveLayer_74 _ _ _ _ _ _ _ = LX11_moveLayer_74 _ _ _ _ _ _ _
                rw [uX11_moveLayer_74, hk, show f - (i + 1) = k by omega]
                simp only [zlt_e, chk_e, n_le (show k + 1 < 2 ^ 31 by omega) (show t < 2 ^ 31 by omega), show ¬ k + 1 ≤ t by omega, if_false, if_true, (k2.1.fr g).k, nI_m, nI_p, o1, bnV_s]
              · have e : swC (mvC (aC A) f (k + 1)) (k + 1) k = mvC (aC A) f (f - (i + 1)) := by
                  rw [show f - (i + 1) = k by omega]
                  show (cW (aC A), cH (aC A), cN (aC A), cP (aC A), swL (lMv (cL (aC A)) f (k + 1)) (k + 1) k) = _
                  rw [sw_down _ (by omega)]
                  rfl
                rw [← e]
                exact o4)
            (fun υ hI => by
              show LX11_moveLayer_74 _ _ _ _ _ _ _ = LX11_moveLayer_74 _ _ _ _ _ _ _
              rw [show f - (f - t) = t by omega])
          have h1 : LX11_moveLayer_74 (zEv (d + 19)) m (nI f) (nI t) (iI (cL (aC (aPush A)) f 0)) (nI f) τ = _ := h1
          rw [uX11_moveLayer_49]
          simp only [zlt_e, n_lt (show f < 2 ^ 31 by omega) (show t < 2 ^ 31 by omega), hlt, if_false]
          rw [h1]
          refine fin υ t (Or.inr rfl) (by omega) h2.1 h2.2.1 ?_
          have := h2.2.2
          rwa [show f - (f - t) = t by omega] at this
    · rw [if_pos hy, if_neg (fun q => hy q.2.1), if_neg (fun q => hy q.2.1)]
      exact key _
  · rw [if_pos hx, if_neg (fun q => hx q.1), if_neg (fun q => hx q.1)]
    exact key _
