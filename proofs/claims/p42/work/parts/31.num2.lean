/-! what a layer makes of a pixel: plain functions -/
/-- how many places there are within r of x and within the first w -/
def nbW (w x r : Nat) : Nat := min (x + r) (w - 1) + 1 - (x - r)
def nbF (w : Nat) (px : Nat → Nat → Int) (x y r : Nat) : Nat → Int := lin (nbW w x r) fun i j => px (x - r + i) (y - r + j)
def nbN (w h x y r : Nat) : Nat := nbW h y r * nbW w x r
theorem nbW_pos {w x r : Nat} (hx : x < w) : 1 ≤ nbW w x r := by unfold nbW; omega
theorem nbW_le {w x r : Nat} (hr : r ≤ 3) : nbW w x r ≤ 7 := by unfold nbW; omega
theorem nbW_in {w x r i : Nat} (hx : x < w) (hi : i < nbW w x r) : x - r + i < w := by unfold nbW at hi; omega
theorem nbN_pos {w h x y r : Nat} (hx : x < w) (hy : y < h) : 1 ≤ nbN w h x y r := Nat.mul_le_mul (nbW_pos hy) (nbW_pos hx)
theorem nbN_le {w h x y r : Nat} (hr : r ≤ 3) : nbN w h x y r ≤ 49 := Nat.mul_le_mul (nbW_le hr) (nbW_le hr)
theorem nbF_R {w h x y r k : Nat} {px : Nat → Nat → Int} (hp : pxR w h px) (hx : x < w) (hy : y < h) (hk : k < nbN w h x y r) : 0 ≤ nbF w px x y r k ∧ nbF w px x y r k ≤ 255 := by
  unfold nbF lin
  have h1 : k % nbW w x r < nbW w x r := Nat.mod_lt _ (nbW_pos hx)
  have h2 : k / nbW w x r < nbW h y r := (Nat.div_lt_iff_lt_mul (nbW_pos hx)).mpr hk
  exact hp _ _ (nbW_in hx h1) (nbW_in hy h2)
/-- where a value goes that is put into an ascending row -/
def posI (g : Nat → Int) (v : Int) : Nat → Nat
  | 0 => 0
  | p + 1 => if g p > v then posI g v p else p + 1
def insI (g : Nat → Int) (n : Nat) (v : Int) (k : Nat) : Int := if k < posI g v n then g k else if k = posI g v n then v else g (k - 1)
/-- the first n, put into order one after another -/
def srt (f : Nat → Int) : Nat → Nat → Int
  | 0 => fun _ => 0
  | n + 1 => insI (srt f n) n (f n)
theorem posI_le (g : Nat → Int) (v : Int) (n : Nat) : posI g v n ≤ n := by
  induction n with
  | zero => exact Nat.le_refl _
  | succ n ih =>
    show (if g n > v then posI g v n else n + 1) ≤ n + 1
    split <;> omega
theorem posI_gt (g : Nat → Int) (v : Int) (n : Nat) : ∀ k, posI g v n ≤ k → k < n → g k > v := by
  induction n with
  | zero => intro k _ h; omega
  | succ n ih =>
    intro k h1 h2
    have h1 : (if g n > v then posI g v n else n + 1) ≤ k := h1
    by_cases h : g n > v
    · rw [if_pos h] at h1
      by_cases hk : k = n
      · rw [hk]; exact h
      · exact ih k h1 (by omega)
    · rw [if_neg h] at h1; omega
theorem posI_ng (g : Nat → Int) (v : Int) (n : Nat) (h : 0 < posI g v n) : g (posI g v n - 1) ≤ v := by
  induction n with
  | zero => exact absurd h (Nat.lt_irrefl _)
  | succ n ih =>
    have e : posI g v (n + 1) = if g n > v then posI g v n else n + 1 := rfl
    rw [e] at h ⊢
    by_cases hg : g n > v
    · rw [if_pos hg] at h ⊢; exact ih h
    · rw [if_neg hg]; show g n ≤ v; omega
def mxI (f : Nat → Int) : Nat → Int
  | 0 => 0
  | n + 1 => max (mxI f n) (f n)
def mnI (f : Nat → Int) : Nat → Int
  | 0 => 255
  | n + 1 => min (mnI f n) (f n)
theorem srt_R {f : Nat → Int} {lo hi : Int} : ∀ n, (∀ k, k < n → lo ≤ f k ∧ f k ≤ hi) → ∀ k, k < n → lo ≤ srt f n k ∧ srt f n k ≤ hi
  | 0, _, k, hk => absurd hk (Nat.not_lt_zero _)
  | n + 1, hf, k, hk => by
    have ih := srt_R n (fun k hk => hf k (by omega))
    have hp := posI_le (srt f n) (f n) n
    show lo ≤ insI (srt f n) n (f n) k ∧ insI (srt f n) n (f n) k ≤ hi
    unfold insI
    by_cases h1 : k < posI (srt f n) (f n) n
    · rw [if_pos h1]; exact ih k (by omega)
    · rw [if_neg h1]
      by_cases h2 : k = posI (srt f n) (f n) n
      · rw [if_pos h2]; exact hf n (by omega)
      · rw [if_neg h2]; exact ih (k - 1) (by omega)
theorem srt_last (f : Nat → Int) : ∀ n, (∀ k, k < n + 1 → 0 ≤ f k) → srt f (n + 1) n = mxI f (n + 1)
  | 0, hf => by
    have := hf 0 (by omega)
    show insI (srt f 0) 0 (f 0) 0 = max 0 (f 0)
    unfold insI posI
    simp
    omega
  | n + 1, hf => by
    have ih := srt_last f n (fun k hk => hf k (by omega))
    show insI (srt f (n + 1)) (n + 1) (f (n + 1)) (n + 1) = max (mxI f (n + 1)) (f (n + 1))
    rw [← ih]
    unfold insI
    have e : posI (srt f (n + 1)) (f (n + 1)) (n + 1) = if srt f (n + 1) n > f (n + 1) then posI (srt f (n + 1)) (f (n + 1)) n else n + 1 := rfl
    have hp := posI_le (srt f (n + 1)) (f (n + 1)) n
    rw [e]
    by_cases h : srt f (n + 1) n > f (n + 1)
    · rw [if_pos h, if_neg (by omega), if_neg (by omega)]
      show srt f (n + 1) n = _
      omega
    · rw [if_neg h, if_neg (by omega), if_pos rfl]
      omega
theorem srt_least (f : Nat → Int) : ∀ n k, k < n → srt f n 0 ≤ srt f n k
  | 0, k, hk => absurd hk (Nat.not_lt_zero _)
  | n + 1, k, hk => by
    have ih := srt_least f n
    have hp := posI_le (srt f n) (f n) n
    have hg := posI_gt (srt f n) (f n) n
    have hn := posI_ng (srt f n) (f n) n
    show insI (srt f n) n (f n) 0 ≤ insI (srt f n) n (f n) k
    unfold insI
    by_cases h0 : 0 < posI (srt f n) (f n) n
    · rw [if_pos h0]
      by_cases h1 : k < posI (srt f n) (f n) n
      · rw [if_pos h1]; exact ih k (by omega)
      · rw [if_neg h1]
        by_cases h2 : k = posI (srt f n) (f n) n
        · rw [if_pos h2]
          exact Int.le_trans (ih _ (by omega)) (hn h0)
        · rw [if_neg h2]; exact ih _ (by omega)
    · rw [if_neg h0, if_pos (by omega)]
      by_cases h2 : k = posI (srt f n) (f n) n
      · rw [if_neg (by omega), if_pos h2]; exact Int.le_refl _
      · rw [if_neg (by omega), if_neg h2]
        have := hg (k - 1) (by omega) (by omega)
        omega
theorem srt_first (f : Nat → Int) : ∀ n, (∀ k, k < n + 1 → f k ≤ 255) → srt f (n + 1) 0 = mnI f (n + 1)
  | 0, hf => by
    have := hf 0 (by omega)
    show insI (srt f 0) 0 (f 0) 0 = min 255 (f 0)
    unfold insI posI
    simp
    omega
  | n + 1, hf => by
    have ih := srt_first f n (fun k hk => hf k (by omega))
    have hp := posI_le (srt f (n + 1)) (f (n + 1)) (n + 1)
    have hg := posI_gt (srt f (n + 1)) (f (n + 1)) (n + 1)
    have hn := posI_ng (srt f (n + 1)) (f (n + 1)) (n + 1)
    have hl := srt_least f (n + 1)
    show insI (srt f (n + 1)) (n + 1) (f (n + 1)) 0 = min (mnI f (n + 1)) (f (n + 1))
    rw [← ih]
    unfold insI
    by_cases h0 : 0 < posI (srt f (n + 1)) (f (n + 1)) (n + 1)
    · rw [if_pos h0]
      have h3 := hn h0
      have := hl (posI (srt f (n + 1)) (f (n + 1)) (n + 1) - 1) (by omega)
      omega
    · rw [if_neg h0, if_pos (by omega)]
      have := hg 0 (by omega) (by omega)
      omega
theorem sm_R {f : Nat → Int} {m : Int} : ∀ n, (∀ k, k < n → 0 ≤ f k ∧ f k ≤ m) → 0 ≤ sm f n ∧ sm f n ≤ m * n
  | 0, _ => by simp [sm]
  | n + 1, hf => by
    have ih := sm_R n (fun k hk => hf k (by omega))
    have := hf n (by omega)
    show 0 ≤ sm f n + f n ∧ sm f n + f n ≤ m * ((n + 1 : Nat) : Int)
    rw [Int.natCast_succ, Int.mul_add, Int.mul_one]
    omega
theorem mxI_R {f : Nat → Int} {m : Int} (hm : 0 ≤ m) : ∀ n, (∀ k, k < n → 0 ≤ f k ∧ f k ≤ m) → 0 ≤ mxI f n ∧ mxI f n ≤ m
  | 0, _ => ⟨Int.le_refl _, hm⟩
  | n + 1, hf => by
    have ih := mxI_R hm n (fun k hk => hf k (by omega))
    have := hf n (by omega)
    show 0 ≤ max (mxI f n) (f n) ∧ max (mxI f n) (f n) ≤ m
    omega
theorem mnI_R {f : Nat → Int} : ∀ n, (∀ k, k < n → 0 ≤ f k ∧ f k ≤ 255) → 0 ≤ mnI f n ∧ mnI f n ≤ 255
  | 0, _ => ⟨(by decide : (0 : Int) ≤ 255), (by decide : (255 : Int) ≤ 255)⟩
  | n + 1, hf => by
    have ih := mnI_R n (fun k hk => hf k (by omega))
    have := hf n (by omega)
    show 0 ≤ min (mnI f n) (f n) ∧ min (mnI f n) (f n) ≤ 255
    omega
theorem mxI_ge {f : Nat → Int} : ∀ n k, k < n → f k ≤ mxI f n
  | 0, k, hk => absurd hk (Nat.not_lt_zero _)
  | n + 1, k, hk => by
    show f k ≤ max (mxI f n) (f n)
    by_cases h : k = n
    · rw [h]; omega
    · have := mxI_ge (f := f) n k (by omega); omega
theorem mnI_ge {f : Nat → Int} : ∀ n k, k < n → mnI f n ≤ f k
  | 0, k, hk => absurd hk (Nat.not_lt_zero _)
  | n + 1, k, hk => by
    show min (mnI f n) (f n) ≤ f k
    by_cases h : k = n
    · rw [h]; omega
    · have := mnI_ge (f := f) n k (by omega); omega
/-- quotients of numbers in [0, m] times d by d -/
theorem dv_R {a d m : Int} (hd : 0 < d) (h0 : 0 ≤ a) (h1 : a ≤ m * d) : 0 ≤ a / d ∧ a / d ≤ m := by
  constructor
  · exact Int.ediv_nonneg h0 (Int.le_of_lt hd)
  · have := Int.ediv_le_ediv hd h1
    rwa [Int.mul_ediv_cancel _ (by omega)] at this
/-- the average around a place -/
def avI (w h : Nat) (px : Nat → Nat → Int) (x y r : Nat) : Int := sm (nbF w px x y r) (nbN w h x y r) / (nbN w h x y r : Int)
def loPx (w h : Nat) (px : Nat → Nat → Int) : Int := mnI (lin w px) (h * w)
def hiPx (w h : Nat) (px : Nat → Nat → Int) : Int := mxI (lin w px) (h * w)
def adI (w h : Nat) (px : Nat → Nat → Int) (k a b : Int) (x y : Nat) : Int :=
  if k = 0 then (if px x y ≤ a then 0 else if px x y < b then (px x y - a) * 255 / (b - a) else 255)
  else if k = 1 then clI (px x y + a)
  else if k = 2 then clI (128 + (px x y - 128) * a / 100)
  else if k = 3 then px x y * a / 256 * 255 / (a - 1)
  else if k = 4 then 255 - px x y
  else if k = 5 then (if px x y < a then 0 else 255)
  else if k = 6 then avI w h px x y a.toNat
  else if k = 7 then srt (nbF w px x y a.toNat) (nbN w h x y a.toNat) ((nbN w h x y a.toNat - 1) / 2)
  else if k = 8 then mxI (nbF w px x y a.toNat) (nbN w h x y a.toNat)
  else if k = 9 then mnI (nbF w px x y a.toNat) (nbN w h x y a.toNat)
  else if k = 10 then clI (px x y + (px x y - avI w h px x y a.toNat) * b / 100)
  else if k = 11 then px (nrI (x - a) w) (nrI (y - b) h)
  else if k = 12 then a
  else if hiPx w h px ≤ loPx w h px then px x y else (px x y - loPx w h px) * 255 / (hiPx w h px - loPx w h px)
theorem clI_R (z : Int) : 0 ≤ clI z ∧ clI z ≤ 255 := by unfold clI; omega
theorem avI_R {w h x y r : Nat} {px : Nat → Nat → Int} (hp : pxR w h px) (hx : x < w) (hy : y < h) : 0 ≤ avI w h px x y r ∧ avI w h px x y r ≤ 255 := by
  have hn := nbN_pos (r := r) hx hy
  have hs := sm_R (f := nbF w px x y r) (nbN w h x y r) (fun k hk => nbF_R hp hx hy hk)
  exact dv_R (by omega) hs.1 hs.2
theorem lin_R {w h : Nat} {px : Nat → Nat → Int} (hp : pxR w h px) (hw : 1 ≤ w) : ∀ k, k < h * w → 0 ≤ lin w px k ∧ lin w px k ≤ 255 := fun k hk =>
  hp _ _ (Nat.mod_lt _ hw) ((Nat.div_lt_iff_lt_mul hw).mpr hk)
theorem lin_ix {w h x y : Nat} (hx : x < w) (hy : y < h) : y * w + x < h * w := by
  have : (y + 1) * w ≤ h * w := Nat.mul_le_mul_right _ hy
  rw [Nat.succ_mul] at this
  omega
theorem adI_R {w h x y : Nat} {px : Nat → Nat → Int} {k a b : Int} (hp : pxR w h px) (hx : x < w) (hy : y < h) (hk : 0 ≤ k ∧ k ≤ 13) (hok : okP k a b) : 0 ≤ adI w h px k a b x y ∧ adI w h px k a b x y ≤ 255 := by
  have hv := hp x y hx hy
  unfold okP loA hiA loB hiB at hok
  have hr : ∀ j, j < nbN w h x y a.toNat → 0 ≤ nbF w px x y a.toNat j ∧ nbF w px x y a.toNat j ≤ 255 := fun j hj => nbF_R hp hx hy hj
  have hn := nbN_pos (r := a.toNat) hx hy
  unfold adI
  by_cases k0 : k = 0
  · rw [if_pos k0]
    subst k0
    simp at hok
    split
    · exact ⟨by decide, by decide⟩
    · split
      · exact dv_R (by omega) (by omega) (by omega)
      · exact ⟨by decide, by decide⟩
  rw [if_neg k0]
  by_cases k1 : k = 1
  · rw [if_pos k1]; exact clI_R _
  rw [if_neg k1]
  by_cases k2 : k = 2
  · rw [if_pos k2]; exact clI_R _
  rw [if_neg k2]
  by_cases k3 : k = 3
  · rw [if_pos k3]
    subst k3
    simp at hok
    obtain ⟨⟨ha1, ha2⟩, -⟩ := hok
    have q0 : 0 ≤ px x y * a := Int.mul_nonneg hv.1 (by omega)
    have q1 : px x y * a ≤ 255 * a := Int.mul_le_mul_of_nonneg_right hv.2 (by omega)
    have q2 : px x y * a / 256 ≤ a - 1 := by omega
    have q3 : 0 ≤ px x y * a / 256 := by omega
    exact dv_R (by omega) (by omega) (by omega)
  rw [if_neg k3]
  by_cases k4 : k = 4
  · rw [if_pos k4]; omega
  rw [if_neg k4]
  by_cases k5 : k = 5
  · rw [if_pos k5]; split <;> exact ⟨by decide, by decide⟩
  rw [if_neg k5]
  by_cases k6 : k = 6
  · rw [if_pos k6]; exact avI_R hp hx hy
  rw [if_neg k6]
  by_cases k7 : k = 7
  · rw [if_pos k7]; exact srt_R _ hr _ (by omega)
  rw [if_neg k7]
  by_cases k8 : k = 8
  · rw [if_pos k8]; exact mxI_R (by decide) _ hr
  rw [if_neg k8]
  by_cases k9 : k = 9
  · rw [if_pos k9]; exact mnI_R _ hr
  rw [if_neg k9]
  by_cases k10 : k = 10
  · rw [if_pos k10]; exact clI_R _
  rw [if_neg k10]
  by_cases k11 : k = 11
  · rw [if_pos k11]; exact hp _ _ (by unfold nrI; omega) (by unfold nrI; omega)
  rw [if_neg k11]
  by_cases k12 : k = 12
  · rw [if_pos k12]
    subst k12
    simp at hok
    omega
  rw [if_neg k12]
  by_cases hl : hiPx w h px ≤ loPx w h px
  · rw [if_pos hl]; exact hv
  · rw [if_neg hl]
    have hw : 1 ≤ w := by omega
    have hi := lin_ix hx hy
    have m1 := mxI_ge (f := lin w px) (h * w) _ hi
    have m2 := mnI_ge (f := lin w px) (h * w) _ hi
    rw [lin_at px hx] at m1 m2
    have m1 : px x y ≤ hiPx w h px := m1
    have m2 : loPx w h px ≤ px x y := m2
    exact dv_R (by omega) (by omega) (by omega)
def blI (m v n : Int) : Int :=
  if m = 1 then v * n / 255 else if m = 2 then 255 - (255 - v) * (255 - n) / 255 else if m = 3 then max v n else if m = 4 then min v n
  else if m = 5 then dI v n else if m = 6 then clI (v + n) else if m = 7 then clI (v - n) else n
theorem mul_R {a b : Int} (ha : 0 ≤ a ∧ a ≤ 255) (hb : 0 ≤ b ∧ b ≤ 255) : 0 ≤ a * b ∧ a * b ≤ 255 * 255 :=
  ⟨Int.mul_nonneg ha.1 hb.1, Int.mul_le_mul ha.2 hb.2 hb.1 (by decide)⟩
theorem blI_R {m v n : Int} (hv : 0 ≤ v ∧ v ≤ 255) (hn : 0 ≤ n ∧ n ≤ 255) : 0 ≤ blI m v n ∧ blI m v n ≤ 255 := by
  unfold blI
  have h1 := mul_R hv hn
  have h2 := mul_R (a := 255 - v) (b := 255 - n) (by omega) (by omega)
  have d1 := dv_R (d := 255) (by decide) h1.1 h1.2
  have d2 := dv_R (d := 255) (by decide) h2.1 h2.2
  split
  · exact d1
  split
  · omega
  split
  · omega
  split
  · omega
  split
  · unfold dI; split <;> omega
  split
  · exact clI_R _
  split
  · exact clI_R _
  · exact hn
/-- the plain value of a mask -/
def dbI (l : Nat → Int) (x y : Int) : Nat → Bool
  | 0 => false
  | k + 1 => dbI l x y k || decide ((x - l (14 + 3 * k)) * (x - l (14 + 3 * k)) + (y - l (14 + 3 * k + 1)) * (y - l (14 + 3 * k + 1)) ≤ l (14 + 3 * k + 2) * l (14 + 3 * k + 2))
def mkI (l : Nat → Int) (x y : Nat) (v : Int) : Int :=
  if l 6 = 1 then
    (if max 0 (max (max (l 7 - x) (x - l 9)) (max (l 8 - y) (y - l 10))) < l 11 + 1 then 255 * (l 11 + 1 - max 0 (max (max (l 7 - x) (x - l 9)) (max (l 8 - y) (y - l 10)))) / (l 11 + 1) else 0)
  else if l 6 = 2 then (if x ≤ l 7 then 0 else if x < l 9 then 255 * (x - l 7) / (l 9 - l 7) else 255)
  else if l 6 = 3 then v
  else if l 6 = 4 then (if dbI l x y (l 13).toNat then 255 else 0)
  else 255
def wtI (l : Nat → Int) (x y : Nat) (v : Int) : Int := if l 12 = 1 then 255 - mkI l x y v else mkI l x y v
theorem mkI_R {l : Nat → Int} {x y : Nat} {v : Int} (hg : GL l) (hv : 0 ≤ v ∧ v ≤ 255) : 0 ≤ mkI l x y v ∧ mkI l x y v ≤ 255 := by
  have hm := hg.2.2.2.2.2.2.1
  have hf := hg.2.2.2.2.2.2.2.1
  unfold okM at hm
  unfold mkI
  by_cases k1 : l 6 = 1
  · rw [if_pos k1]
    split
    · exact dv_R (by omega) (by omega) (by omega)
    · exact ⟨by decide, by decide⟩
  rw [if_neg k1]
  rw [if_neg k1] at hm
  by_cases k2 : l 6 = 2
  · rw [if_pos k2]
    rw [if_pos k2] at hm
    split
    · exact ⟨by decide, by decide⟩
    · split
      · exact dv_R (by omega) (by omega) (by omega)
      · exact ⟨by decide, by decide⟩
  rw [if_neg k2]
  split
  · exact hv
  split
  · split <;> exact ⟨by decide, by decide⟩
  · exact ⟨by decide, by decide⟩
theorem wtI_R {l : Nat → Int} {x y : Nat} {v : Int} (hg : GL l) (hv : 0 ≤ v ∧ v ≤ 255) : 0 ≤ wtI l x y v ∧ wtI l x y v ≤ 255 := by
  have := mkI_R (x := x) (y := y) hg hv
  unfold wtI
  split <;> omega
/-- a pixel of a layer's output -/
def lyI (w h : Nat) (l : Nat → Int) (px : Nat → Nat → Int) (x y : Nat) : Int :=
  px x y + (blI (l 3) (px x y) (adI w h px (l 0) (l 1) (l 2) x y) - px x y) * l 4 * wtI l x y (px x y) / 25500
theorem lyI_B {v t o m : Int} (hv : 0 ≤ v ∧ v ≤ 255) (ht : 0 ≤ t ∧ t ≤ 255) (ho : 0 ≤ o ∧ o ≤ 100) (hm : 0 ≤ m ∧ m ≤ 255) : (-6502500 ≤ (t - v) * o * m ∧ (t - v) * o * m ≤ 6502500) ∧ 0 ≤ v + (t - v) * o * m / 25500 ∧ v + (t - v) * o * m / 25500 ≤ 255 := by
  have q1 : 0 ≤ o * m := Int.mul_nonneg ho.1 hm.1
  have q2 : o * m ≤ 25500 := Int.mul_le_mul ho.2 hm.2 hm.1 (by decide)
  rw [Int.mul_assoc]
  generalize o * m = k at q1 q2
  rcases Int.le_total v t with h | h
  · have p1 : 0 ≤ (t - v) * k := Int.mul_nonneg (by omega) q1
    have p2 : (t - v) * k ≤ (t - v) * 25500 := Int.mul_le_mul_of_nonneg_left q2 (by omega)
    have := dv_R (a := (t - v) * k) (d := 25500) (m := t - v) (by decide) p1 p2
    omega
  · have p1 : 0 ≤ (v - t) * k := Int.mul_nonneg (by omega) q1
    have p2 : (v - t) * k ≤ (v - t) * 25500 := Int.mul_le_mul_of_nonneg_left q2 (by omega)
    have e : (t - v) * k = -((v - t) * k) := by rw [← Int.neg_mul]; congr 1; omega
    rw [e]
    omega
theorem lyI_R {w h x y : Nat} {l : Nat → Int} {px : Nat → Nat → Int} (hp : pxR w h px) (hg : GL l) (hx : x < w) (hy : y < h) : 0 ≤ lyI w h l px x y ∧ lyI w h l px x y ≤ 255 :=
  (lyI_B (hp x y hx hy) (blI_R (hp x y hx hy) (adI_R hp hx hy hg.1 hg.2.1)) hg.2.2.2.1 (wtI_R hg (hp x y hx hy))).2
/-- the output up to the first n layers -/
def outI (C : zC) : Nat → Nat → Nat → Int
  | 0 => cP C
  | n + 1 => if cL C n 5 = 1 then lyI (cW C) (cH C) (cL C n) (outI C n) else outI C n
theorem outI_R {C : zC} (G : GC C) : ∀ n, n ≤ cN C → pxR (cW C) (cH C) (outI C n)
  | 0, _ => G.2.2.2.1
  | n + 1, h => by
    have ih := outI_R G n (by omega)
    intro x y hx hy
    show 0 ≤ (if cL C n 5 = 1 then lyI (cW C) (cH C) (cL C n) (outI C n) else outI C n) x y ∧ (if cL C n 5 = 1 then lyI (cW C) (cH C) (cL C n) (outI C n) else outI C n) x y ≤ 255
    split
    · exact lyI_R ih (G.2.2.2.2 n (by omega)) hx hy
    · exact ih x y hx hy
