/-! setPixel, fillRectangle: the reference -/
theorem clipL {a r : Nat} (ha : a < 1000) (hr : r < 1000) (f : Int32 → zO) [Decidable (nI a - nI r < 0)] : (if nI a - nI r < 0 then f 0 else f (nI a - nI r)) = f (nI (a - r)) := by
  have e : (nI a - nI r < 0) ↔ a < r := by
    rw [i_nI a, i_nI r, i_sub, show (0 : Int32) = iI 0 from rfl, i_lt (by omega) (by omega) (by decide) (by decide)]
    omega
  by_cases h : a < r
  · rw [if_pos (e.mpr h), show a - r = 0 by omega]; rfl
  · rw [if_neg (fun q => h (e.mp q)), nI_sub (by omega)]
theorem clipR {a r w : Nat} (ha : a < 1000) (hr : r < 1000) (hw : 1 ≤ w) (hw2 : w < 1000) (f : Int32 → zO) [Decidable (nI (a + r) < nI w)] : (if nI (a + r) < nI w then f (nI (a + r)) else f (nI w - 1)) = f (nI (min (a + r) (w - 1))) := by
  have e : (nI (a + r) < nI w) ↔ a + r < w := n_lt (by omega) (by omega)
  by_cases h : a + r < w
  · rw [if_pos (e.mpr h), show min (a + r) (w - 1) = a + r by omega]
  · rw [if_neg (fun q => h (e.mp q)), show min (a + r) (w - 1) = w - 1 by omega]
    congr 1
    exact nI_sub (b := 1) (by omega)
/-- the tiles of a layer in a rectangle of tiles go -/
theorem s_mtouch {σ : zS} {m n0 l left right low high sd : Nat} {u : Nat → Nat} (hM : MS σ m) (hU : MU σ m u) (hsd : zi σ 584 m = nI sd) (hB : ∀ k, k < 512 → u k < 2 ^ 31) (hl : l < 8) (hs : 1 ≤ sd) (hs2 : sd < 1000) (ha : left < 1000) (hb : low < 1000) (ha' : right < 1000) (hb' : high < 1000) (hc1 : right / sd < 8) (hr1 : high / sd < 8) (hc : left / sd ≤ right / sd) (hr : low / sd ≤ high / sd) (z1 z2 z3 z4 z11 z13 z14 : zV) (d : Nat) : ∃ τ n y12 y13 y14, LX11_removeAfter_168 (zEv d) m z1 z2 z3 z4 (nI n0) (nI left) (nI right) (nI low) (nI high) (nI l) z11 (nI (low / sd)) z13 z14 σ = LX11_removeAfter_27 (zEv d) m z1 z2 z3 z4 (nI n) (nI left) (nI right) (nI low) (nI high) (nI (l + 1)) z11 y12 y13 y14 τ ∧ zFr (fun x => x = m + 6) σ τ ∧ (∀ f x, zi τ f x = zi σ f x) ∧ MU τ m (tchU u l (left / sd) (right / sd) (low / sd) (high / sd)) ∧ n + cnt (tchU u l (left / sd) (right / sd) (low / sd) (high / sd)) 512 = n0 + cnt u 512 := by
  have d1 : nI left / nI sd = nI (left / sd) := n_div (by omega) (by omega) (by omega)
  have d2 : nI right / nI sd = nI (right / sd) := n_div (by omega) (by omega) (by omega)
  have d3 : nI high / nI sd = nI (high / sd) := n_div (by omega) (by omega) (by omega)
  have hne : ¬ (nI sd = 0) := by
    have : (nI sd = (0 : Int32)) ↔ sd = 0 := n_eq (by omega) (by decide)
    rw [this]; omega
  generalize left / sd = c0 at *
  generalize right / sd = c1 at *
  generalize low / sd = r0 at *
  generalize high / sd = r1 at *
  let gone : Nat → Nat → Nat → Nat := fun j i k => if k / 64 = l ∧ (c0 ≤ k % 8 ∧ k % 8 ≤ c1) ∧ r0 ≤ k / 8 % 8 ∧ k / 8 % 8 ≤ r1 ∧ (k / 8 % 8 < r0 + j ∨ (k / 8 % 8 = r0 + j ∧ k % 8 < c0 + i)) then 0 else u k
  have gB : ∀ j i k, k < 512 → gone j i k < 2 ^ 31 := fun j i k hk => by
    show (if _ then _ else _) < _
    split
    · decide
    · exact hB k hk
  obtain ⟨⟨τ, n, y1, y2⟩, h1, h2⟩ := grid (fun j (s : zS × Nat × zV × zV) => LX11_removeAfter_168 (zEv d) m z1 z2 z3 z4 (nI s.2.1) (nI left) (nI right) (nI low) (nI high) (nI l) z11 (nI (r0 + j)) s.2.2.1 s.2.2.2 s.1) (fun j i s => LX11_removeAfter_189 (zEv d) m z1 z2 z3 z4 (nI s.2.1) (nI left) (nI right) (nI low) (nI high) (nI l) z11 (nI (r0 + j)) (nI (c0 + i)) s.2.2.2 s.1)
    (fun j i s => zFr (fun x => x = m + 6) σ s.1 ∧ (∀ f x, zi s.1 f x = zi σ f x) ∧ MU s.1 m (gone j i) ∧ s.2.1 + cnt (gone j i) 512 = n0 + cnt u 512) (c1 + 1 - c0) (r1 + 1 - r0) (fun s => LX11_removeAfter_27 (zEv d) m z1 z2 z3 z4 (nI s.2.1) (nI left) (nI right) (nI low) (nI high) (nI (l + 1)) z11 (.inl (nI (r1 + 1))) s.2.2.1 s.2.2.2 s.1) (σ, n0, z13, z14) ⟨zFr.rf σ, fun _ _ => rfl, fun k hk => by rw [hU k hk]; show _ = nI (if _ then _ else _); rw [if_neg (by omega)], by
      have e : cnt (gone 0 0) 512 = cnt u 512 := cnt_congr 512 (fun k hk => by show (if _ then _ else _) = _ ↔ _; rw [if_neg (by omega)])
      show n0 + cnt (gone 0 0) 512 = _
      rw [e]⟩
    (fun j s hj hI => ⟨s, by
      obtain ⟨g, gi, gU, gn⟩ := hI
      have es : zi s.1 584 m = nI sd := (gi _ _).trans hsd
      show LX11_removeAfter_168 _ _ _ _ _ _ _ _ _ _ _ _ _ _ _ _ _ = LX11_removeAfter_189 _ _ _ _ _ _ _ _ _ _ _ _ _ _ _ _ _
      rw [uX11_removeAfter_168]
      simp only [zlt_e, chk_e, (hM.fr g).k, if_true, es, hne, if_false, d1, d3, n_le (show r0 + j < 2 ^ 31 by omega) (show r1 < 2 ^ 31 by omega)]
      rw [if_pos (by omega)]
      rfl, hI⟩)
    (fun j i s hj hi hI => by
      obtain ⟨g, gi, gU, gn⟩ := hI
      have hM' := hM.fr g
      have es : zi s.1 584 m = nI sd := (gi _ _).trans hsd
      have hk : sN l (c0 + i) (r0 + j) < 512 := sN_lt hl (by omega) (by omega)
      have hd := sN_dec (l := l) (show c0 + i < 8 by omega) (show r0 + j < 8 by omega)
      have ei : ((64 * nI l) + (8 * nI (r0 + j))) + nI (c0 + i) = nI (sN l (c0 + i) (r0 + j)) := by
        rw [nL 64, nL 8, pk_mul, pk_mul, nI_add, nI_add]
        rfl
      have ev : zai s.1 (m + 6) (sN l (c0 + i) (r0 + j)) = nI (gone j i (sN l (c0 + i) (r0 + j))) := gU _ hk
      have hle : (nI (gone j i (sN l (c0 + i) (r0 + j))) ≤ 0) ↔ gone j i (sN l (c0 + i) (r0 + j)) ≤ 0 := n_le (gB j i _ hk) (by decide)
      have ee : ∀ k, k < 512 → clr (gone j i) (sN l (c0 + i) (r0 + j)) k = gone j (i + 1) k := fun k hk => by
        show (if k = sN l (c0 + i) (r0 + j) then 0 else if _ then 0 else u k) = if _ then 0 else u k
        by_cases hk2 : k = sN l (c0 + i) (r0 + j)
        · rw [if_pos hk2, if_pos (by rw [hk2, hd.1, hd.2.1, hd.2.2]; omega)]
        · rw [if_neg hk2]
          have hne : ¬ (k / 64 = l ∧ k % 8 = c0 + i ∧ k / 8 % 8 = r0 + j) := fun q => hk2 (by rw [← sN_eq (k := k), q.1, q.2.1, q.2.2])
          by_cases q : k / 64 = l ∧ (c0 ≤ k % 8 ∧ k % 8 ≤ c1) ∧ r0 ≤ k / 8 % 8 ∧ k / 8 % 8 ≤ r1 ∧ (k / 8 % 8 < r0 + j ∨ (k / 8 % 8 = r0 + j ∧ k % 8 < c0 + i))
          · rw [if_pos q, if_pos (by omega)]
          · rw [if_neg q, if_neg (by omega)]
      have ea : nI (c0 + i) + 1 = nI (c0 + (i + 1)) := nI_1 (c0 + i)
      refine ⟨(zsa s.1 (m + 6) (sN l (c0 + i) (r0 + j)) 0, s.2.1 + (if gone j i (sN l (c0 + i) (r0 + j)) = 0 then 0 else 1), s.2.2.1, .inl (nI (sN l (c0 + i) (r0 + j)))), ?_, g.tr (zFr.sa _ rfl), gi, fun k hk3 => ?_, ?_⟩
      · show LX11_removeAfter_189 _ _ _ _ _ _ _ _ _ _ _ _ _ _ _ _ _ = LX11_removeAfter_189 _ _ _ _ _ _ _ _ _ _ _ _ _ _ _ _ _
        rw [uX11_removeAfter_189]
        simp only [zlt_e, chk_e, onR_s, hM'.k, hM'.u.1, hM'.u.2.1, hM'.u.2.2, if_true, es, hne, if_false, d2, n_le (show c0 + i < 2 ^ 31 by omega) (show c1 < 2 ^ 31 by omega), show c0 + i ≤ c1 by omega, ei, n_zin (show sN l (c0 + i) (r0 + j) < 2 ^ 31 by omega), n_tn (show sN l (c0 + i) (r0 + j) < 2 ^ 31 by omega), hk, and_self, ev, hle, nI_1, ea]
        by_cases h0 : gone j i (sN l (c0 + i) (r0 + j)) = 0
        · rw [if_pos (by omega), if_pos h0]
          have : nI s.2.1 + 0 = nI (s.2.1 + 0) := nI_add s.2.1 0
          rw [this]
        · rw [if_neg (by omega), if_neg h0]
      · rw [zai_sa]
        by_cases e : k = sN l (c0 + i) (r0 + j)
        · rw [if_pos ⟨rfl, e⟩, ← ee k hk3]
          unfold clr
          rw [if_pos e]
          rfl
        · rw [if_neg (by omega), gU k hk3, ← ee k hk3]
          unfold clr
          rw [if_neg e]
      · have := cnt_clr (gone j i) (sN l (c0 + i) (r0 + j)) 512 hk
        rw [cnt_congr 512 (fun k hk => by rw [ee k hk])] at this
        have gn : s.2.1 + cnt (gone j i) 512 = n0 + cnt u 512 := gn
        show s.2.1 + _ + _ = _
        omega)
    (fun j s hj hI => ⟨(s.1, s.2.1, .inl (nI (c0 + (c1 + 1 - c0))), s.2.2.2), by
      obtain ⟨g, gi, gU, gn⟩ := hI
      have es : zi s.1 584 m = nI sd := (gi _ _).trans hsd
      have ea : nI (r0 + j) + 1 = nI (r0 + (j + 1)) := nI_1 (r0 + j)
      show LX11_removeAfter_189 _ _ _ _ _ _ _ _ _ _ _ _ _ _ _ _ _ = LX11_removeAfter_168 _ _ _ _ _ _ _ _ _ _ _ _ _ _ _ _ _
      rw [uX11_removeAfter_189]
      simp only [zlt_e, chk_e, (hM.fr g).k, if_true, es, hne, if_false, d2, n_le (show c0 + (c1 + 1 - c0) < 2 ^ 31 by omega) (show c1 < 2 ^ 31 by omega), ea]
      rw [if_neg (by omega)], by
      obtain ⟨g, gi, gU, gn⟩ := hI
      have ee : ∀ k, gone j (c1 + 1 - c0) k = gone (j + 1) 0 k := fun k => by
        show (if _ then 0 else u k) = if _ then 0 else u k
        by_cases q : k / 64 = l ∧ (c0 ≤ k % 8 ∧ k % 8 ≤ c1) ∧ r0 ≤ k / 8 % 8 ∧ k / 8 % 8 ≤ r1 ∧ (k / 8 % 8 < r0 + j ∨ (k / 8 % 8 = r0 + j ∧ k % 8 < c0 + (c1 + 1 - c0)))
        · rw [if_pos q, if_pos (by omega)]
        · rw [if_neg q, if_neg (by omega)]
      exact ⟨g, gi, fun k hk => by rw [← ee k]; exact gU k hk, by rw [← cnt_congr (u := gone j (c1 + 1 - c0)) 512 (fun k _ => by rw [ee k])]; exact gn⟩⟩)
    (fun s hI => by
      obtain ⟨g, gi, gU, gn⟩ := hI
      have es : zi s.1 584 m = nI sd := (gi _ _).trans hsd
      show LX11_removeAfter_168 _ _ _ _ _ _ _ _ _ _ _ _ _ _ _ _ _ = _
      rw [uX11_removeAfter_168]
      simp only [zlt_e, chk_e, (hM.fr g).k, if_true, es, hne, if_false, d3, n_le (show r0 + (r1 + 1 - r0) < 2 ^ 31 by omega) (show r1 < 2 ^ 31 by omega), nI_1]
      rw [if_neg (by omega), show r0 + (r1 + 1 - r0) = r1 + 1 by omega])
  have ee : ∀ k, gone (r1 + 1 - r0) 0 k = tchU u l c0 c1 r0 r1 k := fun k => by
    show (if _ then 0 else u k) = if _ then 0 else u k
    by_cases q : k / 64 = l ∧ (c0 ≤ k % 8 ∧ k % 8 ≤ c1) ∧ r0 ≤ k / 8 % 8 ∧ k / 8 % 8 ≤ r1 ∧ (k / 8 % 8 < r0 + (r1 + 1 - r0) ∨ (k / 8 % 8 = r0 + (r1 + 1 - r0) ∧ k % 8 < c0 + 0))
    · rw [if_pos q, if_pos (by omega)]
    · rw [if_neg q, if_neg (by omega)]
  obtain ⟨g, gi, gU, gn⟩ := h2
  exact ⟨τ, n, _, y1, y2, h1, g, gi, fun k hk => by rw [← ee k]; exact gU k hk, by rw [← cnt_congr (u := gone (r1 + 1 - r0) 0) 512 (fun k _ => by rw [ee k])]; exact gn⟩
theorem s_removeAfter {σ : zS} {m L T R B : Nat} {A : zW} (G : GC (aC A)) (hI : MIx σ m A) (hu : ∀ k, k < 512 → aU A k < 2 ^ 31) (hs : 2 ≤ tSd (aT A) ∧ tSd (aT A) ≤ 8) (hL : L ≤ R) (hR : R < cW (aC A)) (hT : T ≤ B) (hB : B < cH (aC A)) (d : Nat) : ∃ τ n, zEv (d + 4) mX11_removeAfter [.inr (.inl (some m)), .inl (nI L), .inl (nI T), .inl (nI (R + 1 - L)), .inl (nI (B + 1 - T))] σ = some (some (.inl (nI n)), τ) ∧ MIx τ m (aTil A (seeU (aC A) (tSd (aT A)) (aU A) L T R B (cN (aC A)))) ∧ zFr (fun x => x = m + 6) σ τ ∧ n + cnt (seeU (aC A) (tSd (aT A)) (aU A) L T R B (cN (aC A))) 512 = cnt (aU A) 512 := by
  have hM := hI.1
  have hV := hI.2.1
  have hU := hI.2.2.2.1
  have hw := G.1
  have hh := G.2.1
  have hn8 := G.2.2.1
  have vs : zi σ 584 m = nI (tSd (aT A)) := hI.2.2.2.2.2.2.1.1
  have t2 : (258 : Int32).toNatClampNeg = 258 := rfl
  have z258 : zin 258 515 = True := eq_true (by decide)
  have t0 : (0 : Int32).toNatClampNeg = 0 := rfl
  have t1 : (1 : Int32).toNatClampNeg = 1 := rfl
  have z0 : zin 0 515 = True := eq_true (by decide)
  have z1 : zin 1 515 = True := eq_true (by decide)
  have eR : nI L + nI (R + 1 - L) - 1 = nI R := by rw [nI_add]; have : nI (L + (R + 1 - L)) - 1 = nI (L + (R + 1 - L) - 1) := nI_sub (b := 1) (by omega); rw [this]; congr 1; omega
  have eB : nI T + nI (B + 1 - T) - 1 = nI B := by rw [nI_add]; have : nI (T + (B + 1 - T)) - 1 = nI (T + (B + 1 - T) - 1) := nI_sub (b := 1) (by omega); rw [this]; congr 1; omega
  have hne : ¬ (nI (tSd (aT A)) = 0) := by
    have : (nI (tSd (aT A)) = (0 : Int32)) ↔ tSd (aT A) = 0 := n_eq (by omega) (by decide)
    rw [this]; omega
  rw [vX11_removeAfter]
  unfold fX11_removeAfter
  simp only [zlt_e, eR, eB]
  obtain ⟨⟨τ, n, y1, y2, y3, y4⟩, h1, h2⟩ := loop_from (fun k (s : zS × Nat × zV × zV × zV × zV) => LX11_removeAfter_27 (zEv (d + 3)) m (.inl (nI L)) (.inl (nI T)) (.inl (nI (R + 1 - L))) (.inl (nI (B + 1 - T))) (nI s.2.1) (nI (L - rsN (aC A) k)) (nI (min (R + rsN (aC A) k) (cW (aC A) - 1))) (nI (T - rsN (aC A) k)) (nI (min (B + rsN (aC A) k) (cH (aC A) - 1))) (nI k) s.2.2.1 s.2.2.2.1 s.2.2.2.2.1 s.2.2.2.2.2 s.1) (fun k s => zFr (fun x => x = m + 6) σ s.1 ∧ (∀ f x, zi s.1 f x = zi σ f x) ∧ MU s.1 m (seeU (aC A) (tSd (aT A)) (aU A) L T R B k) ∧ s.2.1 + cnt (seeU (aC A) (tSd (aT A)) (aU A) L T R B k) 512 = cnt (aU A) 512) 0 (cN (aC A)) (fun s => some (some (.inl (nI s.2.1)), s.1)) (σ, 0, .inr (.inr 0), .inr (.inr 0), .inr (.inr 0), .inr (.inr 0)) (Nat.zero_le _) ⟨zFr.rf σ, fun _ _ => rfl, hU, by show 0 + cnt (aU A) 512 = _; omega⟩
    (fun k s hk hIk => by
      obtain ⟨g, gi, gU, gn⟩ := hIk
      have hM' := hM.fr g
      have hV' : MV s.1 (m + 1) 0 (aC A) := hV.fr g (by omega)
      have hg := G.2.2.2.2 k hk
      have vn : zai s.1 (m + 1) 258 = nI (cN (aC A)) := hV'.2.2.2.1
      have v0 : zai s.1 (m + 1) 0 = nI (cW (aC A)) := hV'.1
      have v1 : zai s.1 (m + 1) 1 = nI (cH (aC A)) := hV'.2.1
      have es : zi s.1 584 m = nI (tSd (aT A)) := (gi _ _).trans vs
      by_cases ho : cL (aC A) k 5 = 1
      · have rr := rch_R hg
        have r0 := rsN_R G k (by omega)
        have e : rsN (aC A) (k + 1) = rsN (aC A) k + rch (cL (aC A) k) := by show (if _ then _ else _) = _; rw [if_pos ho]
        have eS : seeU (aC A) (tSd (aT A)) (aU A) L T R B (k + 1) = tchU (seeU (aC A) (tSd (aT A)) (aU A) L T R B k) k ((L - rsN (aC A) (k + 1)) / tSd (aT A)) (min (R + rsN (aC A) (k + 1)) (cW (aC A) - 1) / tSd (aT A)) ((T - rsN (aC A) (k + 1)) / tSd (aT A)) (min (B + rsN (aC A) (k + 1)) (cH (aC A) - 1) / tSd (aT A)) := by show (if _ then _ else _) = _; rw [if_pos ho]
        have eL : L - rsN (aC A) k - rch (cL (aC A) k) = L - rsN (aC A) (k + 1) := by omega
        have eT : T - rsN (aC A) k - rch (cL (aC A) k) = T - rsN (aC A) (k + 1) := by omega
        have eR2 : min (min (R + rsN (aC A) k) (cW (aC A) - 1) + rch (cL (aC A) k)) (cW (aC A) - 1) = min (R + rsN (aC A) (k + 1)) (cW (aC A) - 1) := by omega
        have eB2 : min (min (B + rsN (aC A) k) (cH (aC A) - 1) + rch (cL (aC A) k)) (cH (aC A) - 1) = min (B + rsN (aC A) (k + 1)) (cH (aC A) - 1) := by omega
        have hρ : rsN (aC A) (k + 1) ≤ 128 := by omega
        have b8 : ∀ z, z ≤ 15 → z / tSd (aT A) < 8 := fun z hz => by
          have : z / tSd (aT A) ≤ 15 / 2 := Nat.le_trans (Nat.div_le_div_right hz) (Nat.div_le_div_left hs.1 (by decide))
          omega
        obtain ⟨υ, n', w1, w2, w3, k1, k2, k3, k4, k5⟩ := s_mtouch (n0 := s.2.1) (l := k) (left := L - rsN (aC A) (k + 1)) (right := min (R + rsN (aC A) (k + 1)) (cW (aC A) - 1)) (low := T - rsN (aC A) (k + 1)) (high := min (B + rsN (aC A) (k + 1)) (cH (aC A) - 1)) (sd := tSd (aT A)) hM' gU es (seeU_B hu k) (by omega) (by omega) (by omega) (by omega) (by omega) (by omega) (by omega) (b8 _ (by omega)) (b8 _ (by omega)) (Nat.div_le_div_right (by omega)) (Nat.div_le_div_right (by omega)) (.inl (nI L)) (.inl (nI T)) (.inl (nI (R + 1 - L))) (.inl (nI (B + 1 - T))) (.inl (nI (rch (cL (aC A) k)))) s.2.2.2.2.1 s.2.2.2.2.2 (d + 3)
        rw [← eS] at k4 k5
        have gn : s.2.1 + cnt (seeU (aC A) (tSd (aT A)) (aU A) L T R B k) 512 = cnt (aU A) 512 := gn
        refine ⟨(υ, n', .inl (nI (rch (cL (aC A) k))), w1, w2, w3), ?_, g.tr k2, fun f x => (k3 f x).trans (gi f x), k4, by show n' + _ = _; omega⟩
        show LX11_removeAfter_27 _ _ _ _ _ _ _ _ _ _ _ _ _ _ _ _ _ = LX11_removeAfter_27 _ _ _ _ _ _ _ _ _ _ _ _ _ _ _ _ _
        rw [uX11_removeAfter_27]
        simp only [zlt_e, chk_e, onR_s, bnI_s, hM'.k, hM'.s.1, hM'.s.2.1, hM'.s.2.2, z258, t2, and_self, if_true, vn, n_lt (show k < 2 ^ 31 by omega) (show cN (aC A) < 2 ^ 31 by omega), hk, s_misOn hM' hV' hn8 hg hk, zb_0, ho, not_true_eq_false, if_false, s_mreach hM' hV' hg hk hn8, rr.2]
        refine (clipL (a := L - rsN (aC A) k) (r := rch (cL (aC A) k)) (by omega) (by omega) (fun v => LX11_removeAfter_74 (zEv (d + 3)) m _ _ _ _ _ _ _ _ _ _ _ _ _ _ v _)).trans ?_
        rw [eL, uX11_removeAfter_74]
        simp only [zlt_e]
        refine (clipL (a := T - rsN (aC A) k) (r := rch (cL (aC A) k)) (by omega) (by omega) (fun v => LX11_removeAfter_93 (zEv (d + 3)) m _ _ _ _ _ _ _ _ _ _ _ _ _ _ v _)).trans ?_
        rw [eT, uX11_removeAfter_93]
        simp only [zlt_e, chk_e, onR_s, hM'.k, hM'.s.1, hM'.s.2.1, hM'.s.2.2, z0, t0, and_self, if_true, v0, nI_add]
        refine (clipR (a := min (R + rsN (aC A) k) (cW (aC A) - 1)) (r := rch (cL (aC A) k)) (by omega) (by omega) (by omega) (by omega) (fun v => LX11_removeAfter_125 (zEv (d + 3)) m _ _ _ _ _ _ _ _ _ _ _ _ _ _ v _)).trans ?_
        rw [eR2, uX11_removeAfter_125]
        have dT : nI (T - rsN (aC A) (k + 1)) / nI (tSd (aT A)) = nI ((T - rsN (aC A) (k + 1)) / tSd (aT A)) := n_div (by omega) (by omega) (by omega)
        simp only [zlt_e, chk_e, onR_s, hM'.k, hM'.s.1, hM'.s.2.1, hM'.s.2.2, z1, t1, and_self, if_true, v1, nI_add, es, hne, if_false, dT]
        refine (clipR (a := min (B + rsN (aC A) k) (cH (aC A) - 1)) (r := rch (cL (aC A) k)) (by omega) (by omega) (by omega) (by omega) (fun v => LX11_removeAfter_168 (zEv (d + 3)) m _ _ _ _ _ _ _ _ v _ _ _ _ _ _)).trans ?_
        rw [eB2]
        exact k1
      · have e : rsN (aC A) (k + 1) = rsN (aC A) k := by show (if _ then _ else _) = _; rw [if_neg ho]
        have eS : seeU (aC A) (tSd (aT A)) (aU A) L T R B (k + 1) = seeU (aC A) (tSd (aT A)) (aU A) L T R B k := by show (if _ then _ else _) = _; rw [if_neg ho]
        refine ⟨s, ?_, g, gi, by rw [eS]; exact gU, by rw [eS]; exact gn⟩
        show LX11_removeAfter_27 _ _ _ _ _ _ _ _ _ _ _ _ _ _ _ _ _ = LX11_removeAfter_27 _ _ _ _ _ _ _ _ _ _ _ _ _ _ _ _ _
        rw [uX11_removeAfter_27, e]
        simp only [zlt_e, chk_e, onR_s, bnI_s, hM'.k, hM'.s.1, hM'.s.2.1, hM'.s.2.2, z258, t2, and_self, if_true, vn, n_lt (show k < 2 ^ 31 by omega) (show cN (aC A) < 2 ^ 31 by omega), hk, s_misOn hM' hV' hn8 hg hk, zb_0, ho, not_false_eq_true, nI_1])
    (fun s hIk => by
      obtain ⟨g, gi, gU, gn⟩ := hIk
      have hM' := hM.fr g
      have hV' : MV s.1 (m + 1) 0 (aC A) := hV.fr g (by omega)
      have vn : zai s.1 (m + 1) 258 = nI (cN (aC A)) := hV'.2.2.2.1
      rw [uX11_removeAfter_27]
      simp only [zlt_e, chk_e, onR_s, hM'.k, hM'.s.1, hM'.s.2.1, hM'.s.2.2, z258, t2, and_self, if_true, vn, n_lt (show cN (aC A) < 2 ^ 31 by omega) (show cN (aC A) < 2 ^ 31 by omega), Nat.lt_irrefl, if_false])
  obtain ⟨g, gi, gU, gn⟩ := h2
  refine ⟨τ, n, ?_, hI.tiles g (fun a _ _ h => h) (fun f _ => gi f m) gU, g, gn⟩
  have e1 : nI (min (R + rsN (aC A) 0) (cW (aC A) - 1)) = nI R := by congr 1; show min (R + 0) (cW (aC A) - 1) = R; omega
  have e2 : nI (min (B + rsN (aC A) 0) (cH (aC A) - 1)) = nI B := by congr 1; show min (B + 0) (cH (aC A) - 1) = B; omega
  rw [e1, e2] at h1
  exact h1
/-- a painting has no say in which tiles go -/
theorem seeU_pt (C : zC) (sd : Nat) (u : Nat → Nat) (L T R B L' T' R' B' : Nat) (v : Int) : ∀ n, seeU (ptC C L' T' R' B' v) sd u L T R B n = seeU C sd u L T R B n := by
  have er : ∀ n, rsN (ptC C L' T' R' B' v) n = rsN C n := fun n => by
    induction n with
    | zero => rfl
    | succ n ih => show (if cL C n 5 = 1 then rsN (ptC C L' T' R' B' v) n + rch (cL C n) else rsN (ptC C L' T' R' B' v) n) = _; rw [ih]; rfl
  intro n
  induction n with
  | zero => rfl
  | succ n ih =>
    show (if cL C n 5 = 1 then tchU (seeU (ptC C L' T' R' B' v) sd u L T R B n) n ((L - rsN (ptC C L' T' R' B' v) (n + 1)) / sd) (min (R + rsN (ptC C L' T' R' B' v) (n + 1)) (cW C - 1) / sd) ((T - rsN (ptC C L' T' R' B' v) (n + 1)) / sd) (min (B + rsN (ptC C L' T' R' B' v) (n + 1)) (cH C - 1) / sd) else seeU (ptC C L' T' R' B' v) sd u L T R B n) = _
    rw [ih, er]
    rfl
theorem m_setPixel {σ : zS} {m b : Nat} {A : zW} (hG : GA A b) (hb : b < 2 ^ 30) (hI : MIx σ m A) (x y v : Int32) (d : Nat) : zOM m (zEv (d + 20) mX11_setPixel [.inr (.inl (some m)), .inl x, .inl y, .inl v] σ) (rPix A x y v) (tPix A x y v) σ := by
  have hI1 := hI.th
  have hw := hG.1.1
  have hh := hG.1.2.1
  have hn8 := hG.1.2.2.1
  have g0 : zFr (fun a => m ≤ a ∧ a < m + 22) σ (zsi σ 576 m 0) := zFr.si σ (by omega)
  have key : ∀ r, zOM m (some (some (.inl r), zsi σ 576 m 0)) r A σ := fun r => zOM.same hI r
  have w1 : ((0 : Int32) ≤ v ∧ v ≤ 255) ↔ 0 ≤ v.toInt ∧ v.toInt ≤ 255 := w_in (a := 0) (b := 255) (by decide) (by decide) (by decide) (by decide)
  have t0 : (0 : Int32).toNatClampNeg = 0 := rfl
  have z0 : zin 0 515 = True := eq_true (by decide)
  rw [vX11_setPixel]
  unfold fX11_setPixel rPix tPix
  simp only [zlt_e, chk_e, hI.1.k, if_true]
  generalize zsi σ 576 m 0 = σ1 at *
  simp only [bnI_s, hI1.1.k, if_true, s_misPixel hI1.1 hI1.2.1 (show 1 ≤ cW (aC A) ∧ cW (aC A) ≤ 16 by omega) (show 1 ≤ cH (aC A) ∧ cH (aC A) ≤ 16 by omega), zb_0, s_in, w1]
  by_cases hxy : zin x (cW (aC A)) ∧ zin y (cH (aC A))
  · rw [if_neg (fun q => q hxy)]
    by_cases hv : 0 ≤ v.toInt ∧ v.toInt ≤ 255
    · have hc : (zin x (cW (aC A)) ∧ zin y (cH (aC A))) ∧ 0 ≤ v.toInt ∧ v.toInt ≤ 255 := ⟨hxy, hv⟩
      rw [if_neg (fun q => q hv), if_pos hc, if_pos hc]
      obtain ⟨ex, hx⟩ := zin_n hxy.1
      obtain ⟨ey, hy⟩ := zin_n hxy.2
      generalize x.toNatClampNeg = i at *
      generalize y.toNatClampNeg = j at *
      subst ex
      subst ey
      obtain ⟨τ, k1, k2, k3⟩ := s_mpush hG hI1 (d + 18)
      have v0 : zai τ (m + 1) 0 = nI (cW (aC A)) := k2.2.1.1
      have hl : j * cW (aC A) + i < 256 := lin256 hw.2 hh.2 hx hy
      have ei : ((2 : Int32) + (nI j * nI (cW (aC A)))) + nI i = nI (2 + (j * cW (aC A) + i)) := by
        rw [nL 2, pk_mul, nI_add, nI_add, Nat.add_assoc]
      have gs : zFr (fun x => x = m + 1) τ (zsa τ (m + 1) (2 + (j * cW (aC A) + i)) v) := zFr.sa _ rfl
      have V := k2.2.1
      have hV : MV (zsa τ (m + 1) (2 + (j * cW (aC A) + i)) v) (m + 1) 0 (ptC (aC A) i j i j v.toInt) := by
        refine ⟨?_, ?_, fun x y hx' hy' => ?_, ?_, fun r hr t ht => ?_⟩
        · rw [zai_sa, if_neg (by omega)]; exact V.1
        · rw [zai_sa, if_neg (by omega)]; exact V.2.1
        · have hx' : x < cW (aC A) := hx'
          have hy' : y < cH (aC A) := hy'
          show zai _ _ (0 + 2 + (y * cW (aC A) + x)) = iI (if (i ≤ x ∧ x ≤ i) ∧ j ≤ y ∧ y ≤ j then v.toInt else cP (aC A) x y)
          rw [zai_sa]
          by_cases e : x = i ∧ y = j
          · rw [if_pos ⟨rfl, by rw [e.1, e.2, Nat.zero_add]⟩, if_pos (by omega)]
            exact i_of v
          · rw [if_neg (fun q => e (lin_inj hx hx' (by have := q.2; omega))), if_neg (by omega)]
            exact V.2.2.1 x y hx' hy'
        · rw [zai_sa, if_neg (by omega)]; exact V.2.2.2.1
        · rw [zai_sa, if_neg (by omega)]; exact V.2.2.2.2 r hr t ht
      have hI3 : MIx (zsa τ (m + 1) (2 + (j * cW (aC A) + i)) v) m (aSet (aPush A) (ptC (aC A) i j i j v.toInt)) := k2.comp gs (fun a _ _ => by omega) (fun f _ => rfl) hV
      obtain ⟨ω, n, n1, n2, n3, n4⟩ := s_removeAfter (A := aSet (aPush A) (ptC (aC A) i j i j v.toInt)) (L := i) (T := j) (R := i) (B := j) (hG.1.pt i j i j hv) hI3 (hG.u31 hb) hG.2.2.2.2.1 (Nat.le_refl _) hx (Nat.le_refl _) hy (d + 15)
      rw [show i + 1 - i = 1 by omega, show j + 1 - j = 1 by omega] at n1
      have n1' : zEv (d + 19) mX11_removeAfter [.inr (.inl (some m)), .inl (nI i), .inl (nI j), .inl 1, .inl 1] (zsa τ (m + 1) (2 + (j * cW (aC A) + i)) v) = some (some (.inl (nI n)), ω) := n1
      have eS := seeU_pt (aC A) (tSd (aT A)) (aU A) i j i j i j i j v.toInt (cN (aC A))
      have n4' : n + cnt (seeU (ptC (aC A) i j i j v.toInt) (tSd (aT A)) (aU A) i j i j (cN (aC A))) 512 = cnt (aU A) 512 := n4
      have n2' : MIx ω m (aTil (aSet (aPush A) (ptC (aC A) i j i j v.toInt)) (seeU (ptC (aC A) i j i j v.toInt) (tSd (aT A)) (aU A) i j i j (cN (aC A)))) := n2
      rw [eS] at n4' n2'
      have en : n = cnt (aU A) 512 - cnt (seeU (aC A) (tSd (aT A)) (aU A) i j i j (cN (aC A))) 512 := by omega
      simp only [zlt_e, onR_s, nul_s, nul_n, chk_e, bnI_s, bnR_s, bnV_s, zi_si, zi_sr, zi_sl, zi_sa, zi_sq, zr_si, zr_sr, zr_sl, zr_sa, zr_sq, zl_si, zl_sr, zl_sl, zl_sa, zl_sq, zai_si, zai_sr, zai_sl, zai_sa, zai_sq, zar_si, zar_sr, zar_sl, zar_sa, zar_sq, zkd_si, zkd_sr, zkd_sl, zkd_sa, zkd_sq, zln_si, zln_sr, zln_sl, zln_sa, zln_sq, znx_si, znx_sr, znx_sl, znx_sa, znx_sq, hI1.1.k, k1, k2.1.k, k2.1.s.1, k2.1.s.2.1, k2.1.s.2.2, z0, t0, and_self, if_true, v0, ei, n_zin (show 2 + (j * cW (aC A) + i) < 2 ^ 31 by omega), n_tn (show 2 + (j * cW (aC A) + i) < 2 ^ 31 by omega), show 2 + (j * cW (aC A) + i) < 515 by omega, n1']
      exact ⟨ω, by rw [en]; rfl, n2', (g0.tr (k3.mono (fun a ha => by omega))).tr ((gs.mono (fun a ha => by omega)).tr (n3.mono (fun a ha => by omega)))⟩
    · rw [if_pos hv, if_neg (fun q => hv q.2), if_neg (fun q => hv q.2)]
      exact key _
  · rw [if_pos hxy, if_neg (fun q => hxy q.1), if_neg (fun q => hxy q.1)]
    exact key _
theorem m_fillRectangle {σ : zS} {m b : Nat} {A : zW} (hG : GA A b) (hb : b < 2 ^ 30) (hI : MIx σ m A) (x y w h v : Int32) (d : Nat) : zOM m (zEv (d + 20) mX11_fillRectangle [.inr (.inl (some m)), .inl x, .inl y, .inl w, .inl h, .inl v] σ) (rFil A x y w h v) (tFil A x y w h v) σ := by
  have hI1 := hI.th
  have hW := hG.1.1
  have hH := hG.1.2.1
  have hn8 := hG.1.2.2.1
  have g0 : zFr (fun a => m ≤ a ∧ a < m + 22) σ (zsi σ 576 m 0) := zFr.si σ (by omega)
  have key : ∀ r, zOM m (some (some (.inl r), zsi σ 576 m 0)) r A σ := fun r => zOM.same hI r
  have w1 : ((0 : Int32) ≤ v ∧ v ≤ 255) ↔ 0 ≤ v.toInt ∧ v.toInt ≤ 255 := w_in (a := 0) (b := 255) (by decide) (by decide) (by decide) (by decide)
  have w2 : ∀ z : Int32, ((1 : Int32) ≤ z ∧ z ≤ 16) ↔ 1 ≤ z.toInt ∧ z.toInt ≤ 16 := fun z => w_in (a := 1) (b := 16) (by decide) (by decide) (by decide) (by decide)
  have t0 : (0 : Int32).toNatClampNeg = 0 := rfl
  have z0 : zin 0 515 = True := eq_true (by decide)
  rw [vX11_fillRectangle]
  unfold fX11_fillRectangle rFil tFil
  simp only [zlt_e, chk_e, hI.1.k, if_true]
  generalize zsi σ 576 m 0 = σ1 at *
  have px := s_misPixel hI1.1 hI1.2.1 (show 1 ≤ cW (aC A) ∧ cW (aC A) ≤ 16 by omega) (show 1 ≤ cH (aC A) ∧ cH (aC A) ≤ 16 by omega)
  simp only [bnI_s, hI1.1.k, if_true, px, zb_0, s_in, w1, w2]
  have no : zOM m (LX11_fillRectangle_52 (zEv (d + 19)) m x y w h v 0 σ1) (-1001) A σ := by
    rw [uX11_fillRectangle_52]
    simp only [zlt_e, if_true]
    exact key _
  by_cases hxy : zin x (cW (aC A)) ∧ zin y (cH (aC A))
  · rw [if_neg (fun q => q hxy)]
    obtain ⟨ex, hx⟩ := zin_n hxy.1
    obtain ⟨ey, hy⟩ := zin_n hxy.2
    have tx : x.toInt = (x.toNatClampNeg : Int) := by have : x.toNatClampNeg = x.toInt.toNat := rfl; have := hxy.1.1; omega
    have ty : y.toInt = (y.toNatClampNeg : Int) := by have : y.toNatClampNeg = y.toInt.toNat := rfl; have := hxy.2.1; omega
    simp only [tx, ty]
    generalize x.toNatClampNeg = i at *
    generalize y.toNatClampNeg = j at *
    subst ex
    subst ey
    by_cases hw : 1 ≤ w.toInt ∧ w.toInt ≤ 16
    · rw [if_neg (fun q => q hw)]
      by_cases hh : 1 ≤ h.toInt ∧ h.toInt ≤ 16
      · rw [if_neg (fun q => q hh)]
        by_cases hv : 0 ≤ v.toInt ∧ v.toInt ≤ 255
        · rw [if_neg (fun q => q hv), uX11_fillRectangle_52]
          have ew2 : w = nI w.toNatClampNeg := n_of (by omega)
          have eh2 : h = nI h.toNatClampNeg := n_of (by omega)
          have tw : w.toInt = (w.toNatClampNeg : Int) := by have : w.toNatClampNeg = w.toInt.toNat := rfl; omega
          have th : h.toInt = (h.toNatClampNeg : Int) := by have : h.toNatClampNeg = h.toInt.toNat := rfl; omega
          simp only [tw, th]
          rw [tw] at hw
          rw [th] at hh
          generalize w.toNatClampNeg = w' at *
          generalize h.toNatClampNeg = h' at *
          subst ew2
          subst eh2
          have es : nI i + nI w' - 1 = nI (i + w' - 1) := by rw [nI_add]; exact nI_sub (b := 1) (by omega)
          have et : nI j + nI h' - 1 = nI (j + h' - 1) := by rw [nI_add]; exact nI_sub (b := 1) (by omega)
          have ein : (zin (nI (i + w' - 1)) (cW (aC A)) ∧ zin (nI (j + h' - 1)) (cH (aC A))) ↔ i + w' ≤ cW (aC A) ∧ j + h' ≤ cH (aC A) := by
            rw [n_zin (by omega), n_zin (by omega)]
            omega
          simp only [zlt_e, chk_e, bnI_s, hI1.1.k, if_true, es, et, px, zb_0, ein]
          rw [if_neg (by decide)]
          by_cases hin : i + w' ≤ cW (aC A) ∧ j + h' ≤ cH (aC A)
          · have hc : (zin (nI i) (cW (aC A)) ∧ zin (nI j) (cH (aC A))) ∧ ((1 ≤ (w' : Int) ∧ (i : Int) + (w' : Int) ≤ cW (aC A)) ∧ 1 ≤ (h' : Int) ∧ (j : Int) + (h' : Int) ≤ cH (aC A)) ∧ 0 ≤ v.toInt ∧ v.toInt ≤ 255 := ⟨hxy, by omega, hv⟩
            rw [if_neg (fun q => q hin), if_pos hc, if_pos hc]
            obtain ⟨τ, k1, k2, k3⟩ := s_mpush hG hI1 (d + 18)
            have V := k2.2.1
            have ev : v = iI v.toInt := i_of v
            simp only [k1, bnV_s]
            obtain ⟨⟨υ, z⟩, h1, h2⟩ := grid (fun b' (s : zS × zV) => LX11_fillRectangle_88 (zEv (d + 19)) m (nI i) (nI j) (nI w') (nI h') v (.inl 1) (nI (j + b')) s.2 s.1) (fun b' a' s => LX11_fillRectangle_100 (zEv (d + 19)) m (nI i) (nI j) (nI w') (nI h') v (.inl 1) (nI (j + b')) (nI (i + a')) s.1)
              (fun b' a' s => zFr (fun x => x = m + 1) τ s.1 ∧ (∀ f x, zi s.1 f x = zi τ f x) ∧ (∀ p, p < 2 ∨ 258 ≤ p → zai s.1 (m + 1) p = zai τ (m + 1) p) ∧ ∀ x y, x < cW (aC A) → y < cH (aC A) → zai s.1 (m + 1) (2 + (y * cW (aC A) + x)) = iI (if (i ≤ x ∧ x ≤ i + w' - 1) ∧ j ≤ y ∧ (y < j + b' ∨ (y = j + b' ∧ x < i + a')) then v.toInt else cP (aC A) x y)) w' h' (fun s => LX11_fillRectangle_88 (zEv (d + 19)) m (nI i) (nI j) (nI w') (nI h') v (.inl 1) (nI (j + h')) s.2 s.1) (τ, .inr (.inr 0)) ⟨zFr.rf τ, fun _ _ => rfl, fun _ _ => rfl, fun x y hx hy => by
                rw [if_neg (by omega)]
                have := V.2.2.1 x y hx hy
                rwa [Nat.zero_add] at this⟩
              (fun b' s hb' hIj => ⟨s, by
                show LX11_fillRectangle_88 _ _ _ _ _ _ _ _ _ _ _ = LX11_fillRectangle_100 _ _ _ _ _ _ _ _ _ _ _
                rw [uX11_fillRectangle_88]
                simp only [nI_add, n_lt (show j + b' < 2 ^ 31 by omega) (show j + h' < 2 ^ 31 by omega), show j + b' < j + h' by omega, if_true]
                rfl, hIj⟩)
              (fun b' a' s hb' ha' hIj => by
                obtain ⟨g, gi, gp, ga⟩ := hIj
                have hM' := k2.1.fr g
                have v0 : zai s.1 (m + 1) 0 = nI (cW (aC A)) := (gp 0 (by omega)).trans V.1
                have hl : (j + b') * cW (aC A) + (i + a') < 256 := lin256 hW.2 hH.2 (show i + a' < cW (aC A) by omega) (show j + b' < cH (aC A) by omega)
                have ei : ((2 : Int32) + (nI (j + b') * nI (cW (aC A)))) + nI (i + a') = nI (2 + ((j + b') * cW (aC A) + (i + a'))) := by
                  rw [nL 2, pk_mul, nI_add, nI_add, Nat.add_assoc]
                have ea : nI (i + a') + 1 = nI (i + (a' + 1)) := nI_1 (i + a')
                refine ⟨(zsa s.1 (m + 1) (2 + ((j + b') * cW (aC A) + (i + a'))) v, s.2), ?_, g.tr (zFr.sa _ rfl), gi, fun p hp => by rw [zai_sa, if_neg (by omega)]; exact gp p hp, fun x y hx hy => ?_⟩
                · show LX11_fillRectangle_100 _ _ _ _ _ _ _ _ _ _ _ = LX11_fillRectangle_100 _ _ _ _ _ _ _ _ _ _ _
                  rw [uX11_fillRectangle_100]
                  simp only [zlt_e, chk_e, onR_s, hM'.k, hM'.s.1, hM'.s.2.1, hM'.s.2.2, z0, t0, and_self, if_true, v0, ei, n_zin (show 2 + ((j + b') * cW (aC A) + (i + a')) < 2 ^ 31 by omega), n_tn (show 2 + ((j + b') * cW (aC A) + (i + a')) < 2 ^ 31 by omega), show 2 + ((j + b') * cW (aC A) + (i + a')) < 515 by omega, ea, nI_add, n_lt (show i + a' < 2 ^ 31 by omega) (show i + w' < 2 ^ 31 by omega), show i + a' < i + w' by omega]
                · rw [zai_sa]
                  by_cases e : x = i + a' ∧ y = j + b'
                  · rw [if_pos ⟨rfl, by rw [e.1, e.2]⟩, if_pos (by omega)]
                    exact ev
                  · rw [if_neg (fun q => e (lin_inj (show i + a' < cW (aC A) by omega) hx (by have := q.2; omega))), ga x y hx hy]
                    by_cases c : (i ≤ x ∧ x ≤ i + w' - 1) ∧ j ≤ y ∧ (y < j + b' ∨ (y = j + b' ∧ x < i + a'))
                    · rw [if_pos c, if_pos (by omega)]
                    · rw [if_neg c, if_neg (by omega)])
              (fun b' s hb' hIj => ⟨(s.1, .inl (nI (i + w'))), by
                have ea : nI (j + b') + 1 = nI (j + (b' + 1)) := nI_1 (j + b')
                show LX11_fillRectangle_100 _ _ _ _ _ _ _ _ _ _ _ = LX11_fillRectangle_88 _ _ _ _ _ _ _ _ _ _ _
                rw [uX11_fillRectangle_100]
                simp only [zlt_e, nI_add, n_lt (show i + w' < 2 ^ 31 by omega) (show i + w' < 2 ^ 31 by omega), Nat.lt_irrefl, if_false]
                rw [← ea], hIj.1, hIj.2.1, hIj.2.2.1, fun x y hx hy => by
                rw [hIj.2.2.2 x y hx hy]
                by_cases c : (i ≤ x ∧ x ≤ i + w' - 1) ∧ j ≤ y ∧ (y < j + b' ∨ (y = j + b' ∧ x < i + w'))
                · rw [if_pos c, if_pos (by omega)]
                · rw [if_neg c, if_neg (by omega)]⟩)
              (fun s hIj => rfl)
            have h1 : LX11_fillRectangle_88 (zEv (d + 19)) m (nI i) (nI j) (nI w') (nI h') v (.inl 1) (nI j) (.inr (.inr 0)) τ = _ := h1
            obtain ⟨g, gi, gp, ga⟩ := h2
            have hV : MV υ (m + 1) 0 (ptC (aC A) i j (i + w' - 1) (j + h' - 1) v.toInt) := by
              refine ⟨(gp 0 (by omega)).trans V.1, (gp 1 (by omega)).trans V.2.1, fun x y hx' hy' => ?_, (gp 258 (by omega)).trans V.2.2.2.1, fun r hr t ht => (gp _ (by omega)).trans (V.2.2.2.2 r hr t ht)⟩
              have hx' : x < cW (aC A) := hx'
              have hy' : y < cH (aC A) := hy'
              show zai υ (m + 1) (0 + 2 + (y * cW (aC A) + x)) = iI (if (i ≤ x ∧ x ≤ i + w' - 1) ∧ j ≤ y ∧ y ≤ j + h' - 1 then v.toInt else cP (aC A) x y)
              rw [Nat.zero_add, ga x y hx' hy']
              by_cases c : (i ≤ x ∧ x ≤ i + w' - 1) ∧ j ≤ y ∧ y ≤ j + h' - 1
              · rw [if_pos c, if_pos (by omega)]
              · rw [if_neg c, if_neg (by omega)]
            have hI3 : MIx υ m (aSet (aPush A) (ptC (aC A) i j (i + w' - 1) (j + h' - 1) v.toInt)) := k2.comp g (fun a _ _ => by omega) (fun f _ => gi f m) hV
            obtain ⟨ω, n, n1, n2, n3, n4⟩ := s_removeAfter (A := aSet (aPush A) (ptC (aC A) i j (i + w' - 1) (j + h' - 1) v.toInt)) (L := i) (T := j) (R := i + w' - 1) (B := j + h' - 1) (hG.1.pt i j (i + w' - 1) (j + h' - 1) hv) hI3 (hG.u31 hb) hG.2.2.2.2.1 (by omega) (show i + w' - 1 < cW (aC A) by omega) (by omega) (show j + h' - 1 < cH (aC A) by omega) (d + 15)
            rw [show i + w' - 1 + 1 - i = w' by omega, show j + h' - 1 + 1 - j = h' by omega] at n1
            have eS := seeU_pt (aC A) (tSd (aT A)) (aU A) i j (i + w' - 1) (j + h' - 1) i j (i + w' - 1) (j + h' - 1) v.toInt (cN (aC A))
            have n4' : n + cnt (seeU (ptC (aC A) i j (i + w' - 1) (j + h' - 1) v.toInt) (tSd (aT A)) (aU A) i j (i + w' - 1) (j + h' - 1) (cN (aC A))) 512 = cnt (aU A) 512 := n4
            have n2' : MIx ω m (aTil (aSet (aPush A) (ptC (aC A) i j (i + w' - 1) (j + h' - 1) v.toInt)) (seeU (ptC (aC A) i j (i + w' - 1) (j + h' - 1) v.toInt) (tSd (aT A)) (aU A) i j (i + w' - 1) (j + h' - 1) (cN (aC A)))) := n2
            rw [eS] at n4' n2'
            have en : n = cnt (aU A) 512 - cnt (seeU (aC A) (tSd (aT A)) (aU A) i j (i + w' - 1) (j + h' - 1) (cN (aC A))) 512 := by omega
            rw [h1, uX11_fillRectangle_88]
            simp only [zlt_e, chk_e, bnI_s, nI_add, n_lt (show j + h' < 2 ^ 31 by omega) (show j + h' < 2 ^ 31 by omega), Nat.lt_irrefl, if_false, hI3.1.k, if_true, n1]
            exact ⟨ω, by rw [en]; rfl, n2', (g0.tr (k3.mono (fun a ha => by omega))).tr ((g.mono (fun a ha => by omega)).tr (n3.mono (fun a ha => by omega)))⟩
          · rw [if_pos hin, if_neg (fun q => hin (by omega)), if_neg (fun q => hin (by omega))]
            exact key _
        · rw [if_pos hv, if_neg (fun q => hv q.2.2), if_neg (fun q => hv q.2.2)]
          exact no
      · rw [if_pos hh, if_neg (fun q => hh (by omega)), if_neg (fun q => hh (by omega))]
        exact no
    · rw [if_pos hw, if_neg (fun q => hw (by omega)), if_neg (fun q => hw (by omega))]
      exact no
  · rw [if_pos hxy, if_neg (fun q => hxy q.1), if_neg (fun q => hxy q.1)]
    exact no
