/-! setPixel, fillRectangle: the reference -/
theorem clipL {a r : Nat} (ha : a < 1000) (hr : r < 1000) (f : Int32 → zO) [Decidable (nI a - nI r < 0)] : (if nI a - nI r < 0 then f 0 else f (nI a - nI r)) = f (nI (a - r)) := by
  have e : (nI a - nI r < 0) ↔ a < r := by
    rw [i_nI a, i_nI r, i_sub, show (0 : Int32) = iI 0 from rfl, i_lt (by omega) (by omega) (by decide) (by decide)]
    omega
  by_cases h : a < r
  · rw [if_pos (e.mpr h), show a - r = 0 by omega]; rfl
  · rw [if_neg (fun q => h (e.mp q)), nI_sub (by omega)]
theorem clipR {a r w : Nat} (ha : a < 1000) (hr : r < 1000) (hw : 1 ≤ w) (hw2 : w < 1000) (f : Int32 → zO) [Decidable (nI (a + r) < nI w)] : (if nI (a + r) < nI w then f (nI (a + r)) else f (nI w - 1)) = f (nI (min (a + r) (w - 1))) := by
  have e : (nI (a + r) < nI w) ↔ a + r < w := n_lt (by omega) (by omega)
  by_cases h : a + r < w
  · rw [if_pos (e.mpr h), show min (a + r) (w - 1) = a + r by omega]
  · rw [if_neg (fun q => h (e.mp q)), show min (a + r) (w - 1) = w - 1 by omega]
    congr 1
    exact nI_sub (b := 1) (by omega)
/-- a painting has no say in which tiles go -/
theorem seeU_pt (C : zC) (sd : Nat) (u : Nat → Nat) (L T R B L' T' R' B' : Nat) (v : Int) : ∀ n, seeU (ptC C L' T' R' B' v) sd u L T R B n = seeU C sd u L T R B n := by
  have er : ∀ n, rsN (ptC C L' T' R' B' v) n = rsN C n := fun n => by
    induction n with
    | zero => rfl
    | succ n ih => show (if cL C n 5 = 1 then rsN (ptC C L' T' R' B' v) n + rch (cL C n) else rsN (ptC C L' T' R' B' v) n) = _; rw [ih]; rfl
  intro n
  induction n with
  | zero => rfl
  | succ n ih =>
    show (if cL C n 5 = 1 then tchU (seeU (ptC C L' T' R' B' v) sd u L T R B n) n ((L - rsN (ptC C L' T' R' B' v) (n + 1)) / sd) (min (R + rsN (ptC C L' T' R' B' v) (n + 1)) (cW C - 1) / sd) ((T - rsN (ptC C L' T' R' B' v) (n + 1)) / sd) (min (B + rsN (ptC C L' T' R' B' v) (n + 1)) (cH C - 1) / sd) else seeU (ptC C L' T' R' B' v) sd u L T R B n) = _
    rw [ih, er]
    rfl
