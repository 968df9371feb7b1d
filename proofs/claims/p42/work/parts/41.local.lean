/-! what a pixel of a layer's output depends on -/
theorem sm_congr {f g : Nat → Int} : ∀ n, (∀ k, k < n → f k = g k) → sm f n = sm g n
  | 0, _ => rfl
  | n + 1, h => by
    show sm f n + f n = sm g n + g n
    rw [sm_congr n (fun k hk => h k (by omega)), h n (by omega)]
theorem mxI_congr {f g : Nat → Int} : ∀ n, (∀ k, k < n → f k = g k) → mxI f n = mxI g n
  | 0, _ => rfl
  | n + 1, h => by
    show max (mxI f n) (f n) = max (mxI g n) (g n)
    rw [mxI_congr n (fun k hk => h k (by omega)), h n (by omega)]
theorem mnI_congr {f g : Nat → Int} : ∀ n, (∀ k, k < n → f k = g k) → mnI f n = mnI g n
  | 0, _ => rfl
  | n + 1, h => by
    show min (mnI f n) (f n) = min (mnI g n) (g n)
    rw [mnI_congr n (fun k hk => h k (by omega)), h n (by omega)]
theorem srt_congr {f g : Nat → Int} : ∀ n, (∀ k, k < n → f k = g k) → srt f n = srt g n
  | 0, _ => rfl
  | n + 1, h => by
    show insI (srt f n) n (f n) = insI (srt g n) n (g n)
    rw [srt_congr n (fun k hk => h k (by omega)), h n (by omega)]
/-- two pictures are alike within r of a place -/
def nearE (w h : Nat) (px qx : Nat → Nat → Int) (r x y : Nat) : Prop := ∀ x' y', x' < w → y' < h → (x' ≤ x + r ∧ x ≤ x' + r) → (y' ≤ y + r ∧ y ≤ y' + r) → px x' y' = qx x' y'
theorem nbW_near {w x r i : Nat} (hx : x < w) (hi : i < nbW w x r) : x - r + i ≤ x + r ∧ x ≤ x - r + i + r := by unfold nbW at hi; omega
theorem nbF_congr {w h x y r k : Nat} {px qx : Nat → Nat → Int} (he : nearE w h px qx r x y) (hx : x < w) (hy : y < h) (hk : k < nbN w h x y r) : nbF w px x y r k = nbF w qx x y r k := by
  unfold nbF lin
  have h1 : k % nbW w x r < nbW w x r := Nat.mod_lt _ (nbW_pos hx)
  have h2 : k / nbW w x r < nbW h y r := (Nat.div_lt_iff_lt_mul (nbW_pos hx)).mpr hk
  exact he _ _ (nbW_in hx h1) (nbW_in hy h2) (nbW_near hx h1) (nbW_near hy h2)
theorem adI_congr {w h x y : Nat} {px qx : Nat → Nat → Int} {k a b : Int} (hw : w ≤ 16) (hh : h ≤ 16) (hx : x < w) (hy : y < h) (hk : 0 ≤ k ∧ k ≤ 13) (hok : okP k a b) (he : nearE w h px qx (rchI k a b).toNat x y) : adI w h px k a b x y = adI w h qx k a b x y := by
  have hv : px x y = qx x y := he x y hx hy (by omega) (by omega)
  unfold okP loA hiA loB hiB at hok
  by_cases hs : 6 ≤ k ∧ k ≤ 10
  · have hr : rchI k a b = a := by unfold rchI; rw [if_pos hs]
    rw [hr] at he
    have e : ∀ j, j < nbN w h x y a.toNat → nbF w px x y a.toNat j = nbF w qx x y a.toNat j := fun j hj => nbF_congr he hx hy hj
    have ea : avI w h px x y a.toNat = avI w h qx x y a.toNat := by unfold avI; rw [sm_congr _ e]
    unfold adI
    rw [hv, ea, srt_congr _ e, mxI_congr _ e, mnI_congr _ e]
    rw [if_neg (show ¬ k = 0 by omega), if_neg (show ¬ k = 1 by omega), if_neg (show ¬ k = 2 by omega), if_neg (show ¬ k = 3 by omega), if_neg (show ¬ k = 4 by omega), if_neg (show ¬ k = 5 by omega), if_neg (show ¬ k = 0 by omega), if_neg (show ¬ k = 1 by omega), if_neg (show ¬ k = 2 by omega), if_neg (show ¬ k = 3 by omega), if_neg (show ¬ k = 4 by omega), if_neg (show ¬ k = 5 by omega)]
    by_cases c6 : k = 6
    · rw [if_pos c6, if_pos c6]
    rw [if_neg c6, if_neg c6]
    by_cases c7 : k = 7
    · rw [if_pos c7, if_pos c7]
    rw [if_neg c7, if_neg c7]
    by_cases c8 : k = 8
    · rw [if_pos c8, if_pos c8]
    rw [if_neg c8, if_neg c8]
    by_cases c9 : k = 9
    · rw [if_pos c9, if_pos c9]
    rw [if_neg c9, if_neg c9, if_pos (show k = 10 by omega), if_pos (show k = 10 by omega)]
  · by_cases h11 : k = 11
    · have hr : rchI k a b = max (if a < 0 then -a else a) (if b < 0 then -b else b) := by unfold rchI; rw [if_neg hs, if_pos h11]
      rw [hr] at he
      unfold adI
      subst h11
      simp at hok ⊢
      refine he _ _ (by unfold nrI; omega) (by unfold nrI; omega) ?_ ?_
      · unfold nrI; split <;> split <;> omega
      · unfold nrI; split <;> split <;> omega
    · by_cases h13 : k = 13
      · have hr : rchI k a b = 16 := by unfold rchI; rw [if_neg hs, if_neg h11, if_pos h13]
        rw [hr] at he
        have e : ∀ j, j < h * w → lin w px j = lin w qx j := fun j hj => by
          unfold lin
          have h1 : j % w < w := Nat.mod_lt _ (by omega)
          have h2 : j / w < h := (Nat.div_lt_iff_lt_mul (by omega)).mpr hj
          have e16 : (16 : Int).toNat = 16 := rfl
          rw [e16] at he
          have z1 := Nat.zero_le (j / w)
          have z2 := Nat.zero_le (j % w)
          generalize j / w = a1 at h2 z1
          generalize j % w = a2 at h1 z2
          exact he _ _ h1 h2 (by omega) (by omega)
        have e1 : hiPx w h px = hiPx w h qx := mxI_congr _ e
        have e2 : loPx w h px = loPx w h qx := mnI_congr _ e
        unfold adI
        subst h13
        simp [e1, e2, hv]
      · unfold adI
        rw [hv]
        rcases (by omega : k = 0 ∨ k = 1 ∨ k = 2 ∨ k = 3 ∨ k = 4 ∨ k = 5 ∨ k = 12) with h | h | h | h | h | h | h <;> subst h <;> simp
theorem lyI_congr {w h x y : Nat} {px qx : Nat → Nat → Int} {l : Nat → Int} (hw : w ≤ 16) (hh : h ≤ 16) (hx : x < w) (hy : y < h) (hg : GL l) (he : nearE w h px qx (rchI (l 0) (l 1) (l 2)).toNat x y) : lyI w h l px x y = lyI w h l qx x y := by
  have hv : px x y = qx x y := he x y hx hy (by omega) (by omega)
  unfold lyI
  rw [hv, adI_congr hw hh hx hy hg.1 hg.2.1 he]
theorem rchI_R {k a b : Int} (hk : 0 ≤ k ∧ k ≤ 13) (hok : okP k a b) : 0 ≤ rchI k a b ∧ rchI k a b ≤ 16 := by
  unfold okP loA hiA loB hiB at hok
  unfold rchI
  split
  · next h =>
    rcases (by omega : k = 6 ∨ k = 7 ∨ k = 8 ∨ k = 9 ∨ k = 10) with h | h | h | h | h <;> subst h <;> simp at hok <;> omega
  · split
    · next h =>
      subst h
      simp at hok
      split <;> split <;> omega
    · split <;> exact ⟨by decide, by decide⟩
/-! asking for tiles -/
def itC {S : Type} (f : Nat → S → S) : Nat → S → S
  | 0, s => s
  | n + 1, s => f n (itC f n s)
abbrev zU : Type := (Nat → Nat) × zT
/-- the tiles of a rectangle of tiles, row by row -/
def itR (f : Nat → Nat → zU → zU) (c0 c1 r0 r1 : Nat) (s : zU) : zU := itC (fun j s => itC (fun i s => f (c0 + i) (r0 + j) s) (c1 + 1 - c0) s) (r1 + 1 - r0) s
/-- the least and the greatest column (or row) of tiles that a tile sees -/
def tlo (sd c r : Nat) : Nat := (c * sd - r) / sd
def thi (sd c r w : Nat) : Nat := min ((c + 1) * sd - 1 + r) (w - 1) / sd
def rch (l : Nat → Int) : Nat := (rchI (l 0) (l 1) (l 2)).toNat
/-- a tile of the output below n is asked for -/
def reqT (C : zC) (sd : Nat) : Nat → Nat → Nat → zU → zU
  | 0, _, _, s => s
  | n + 1, c, r, s => if cL C n 5 = 1 then
      (if s.1 (sN n c r) = 0 then
        ((stU (itR (reqT C sd n) (tlo sd c (rch (cL C n))) (thi sd c (rch (cL C n)) (cW C)) (tlo sd r (rch (cL C n))) (thi sd r (rch (cL C n)) (cH C)) s).1 (sN n c r) (tCk (itR (reqT C sd n) (tlo sd c (rch (cL C n))) (thi sd c (rch (cL C n)) (cW C)) (tlo sd r (rch (cL C n))) (thi sd r (rch (cL C n)) (cH C)) s).2 + 1)),
          tCo (itR (reqT C sd n) (tlo sd c (rch (cL C n))) (thi sd c (rch (cL C n)) (cW C)) (tlo sd r (rch (cL C n))) (thi sd r (rch (cL C n)) (cH C)) s).2)
      else (stU s.1 (sN n c r) (tCk s.2 + 1), tFo s.2))
    else reqT C sd n c r s
