/-! good states stay good -/
theorem psK_G {A : zW} {B : Nat} (hG : GA A B) (i : Nat) (hi : i < psN (aHn A)) : GC (psK (aHn A) (aHk A) (aC A) i) := by
  have h6 := hG.2.1.1
  unfold psN at hi
  unfold psK
  by_cases e6 : aHn A = 6
  · rw [if_pos e6]
    by_cases e5 : i < 5
    · rw [if_pos e5]; exact hG.2.1.2 (i + 1) (by omega)
    · rw [if_neg e5]; exact hG.1
  · rw [if_neg e6]
    by_cases e7 : i < aHn A
    · rw [if_pos e7]; exact hG.2.1.2 i e7
    · rw [if_neg e7]; exact hG.1
theorem psN_le {n : Nat} (h : n ≤ 6) : psN n ≤ 6 := by
  unfold psN
  split <;> omega
theorem GA.row {A : zW} {B k : Nat} {l : Nat → Int} (hG : GA A B) (hk : k < cN (aC A)) (hl : GL l) : GA (aRow A k l) B := by
  obtain ⟨hC, hH, hS, hT, hs, hlm, hu, hv, hb⟩ := id hG
  refine ⟨⟨hC.1, hC.2.1, hC.2.2.1, hC.2.2.2.1, fun i hi => ?_⟩, ⟨psN_le hH.1, psK_G hG⟩, hS, hT, hs, hlm, fun j hj => ?_, fun j hj hz => ?_, hb⟩
  · show GL (if i = k then l else cL (aC A) i)
    split
    · exact hl
    · exact hC.2.2.2.2 i hi
  · show zrU (aU A) (64 * k) 512 j ≤ tCk (aT A)
    rcases zrU_or (aU A) (64 * k) 512 j with e | e <;> rw [e]
    · omega
    · exact hu j hj
  · have hz : zrU (aU A) (64 * k) 512 j ≠ 0 := hz
    have hlt : j < 64 * k := by
      rcases Nat.lt_or_ge j (64 * k) with q | q
      · exact q
      · exact absurd (zrU_z _ _ _ q hj) hz
    have hz' : aU A j ≠ 0 := by
      rcases zrU_or (aU A) (64 * k) 512 j with e | e
      · exact absurd e hz
      · rw [← e]; exact hz
    have := hv j hj hz'
    refine ⟨this.1, ?_, this.2.2⟩
    show (if j / 64 = k then l else cL (aC A) (j / 64)) 5 = 1
    rw [if_neg (by omega)]
    exact this.2.1
theorem GL.up4 {l : Nat → Int} (h : GL l) {m p : Int} (hm : 0 ≤ m ∧ m ≤ 7) (hp : 0 ≤ p ∧ p ≤ 100) : GL (upR (upR l 3 m) 4 p) := by
  obtain ⟨h0, h1, h2, h3, h4, h5, h6, h7, h8, h9, h10⟩ := h
  refine ⟨h0, h1, hm, hp, h4, h5, h6, h7, h8, h9, fun j hj => ?_⟩
  have hj : (j : Int) < 3 * l 13 := hj
  have e : upR (upR l 3 m) 4 p (14 + j) = l (14 + j) := by unfold upR; rw [if_neg (by omega), if_neg (by omega)]
  rw [e]
  exact h10 j hj
theorem GL.up11 {l : Nat → Int} (h : GL l) {p : Int} (hp : 0 ≤ p ∧ p ≤ 5) : GL (upR l 11 p) := by
  obtain ⟨h0, h1, h2, h3, h4, h5, h6, h7, h8, h9, h10⟩ := h
  refine ⟨h0, h1, h2, h3, h4, h5, h6, hp, h8, h9, fun j hj => ?_⟩
  have hj : (j : Int) < 3 * l 13 := hj
  have e : upR l 11 p (14 + j) = l (14 + j) := by unfold upR; rw [if_neg (by omega)]
  rw [e]
  exact h10 j hj
theorem GL.up12 {l : Nat → Int} (h : GL l) : GL (upR l 12 (1 - l 12)) := by
  obtain ⟨h0, h1, h2, h3, h4, h5, h6, h7, h8, h9, h10⟩ := h
  refine ⟨h0, h1, h2, h3, h4, h5, h6, h7, ?_, h9, fun j hj => ?_⟩
  · show (1 - l 12) = 0 ∨ (1 - l 12) = 1
    omega
  have hj : (j : Int) < 3 * l 13 := hj
  have e : upR l 12 (1 - l 12) (14 + j) = l (14 + j) := by unfold upR; rw [if_neg (by omega)]
  rw [e]
  exact h10 j hj
theorem GA.blend {A : zW} {B : Nat} (hG : GA A B) (x m p : Int32) : GA (tBlend A x m p) B := by
  unfold tBlend
  split
  · next h =>
    have hk := (zin_n h.1).2
    exact hG.row hk ((hG.1.2.2.2.2 _ hk).up4 h.2.1 h.2.2)
  · exact hG
theorem GA.feather {A : zW} {B : Nat} (hG : GA A B) (x p : Int32) : GA (tFeather A x p) B := by
  unfold tFeather
  split
  · next h =>
    have hk := (zin_n h.1).2
    exact hG.row hk ((hG.1.2.2.2.2 _ hk).up11 h.2)
  · exact hG
theorem GA.invert {A : zW} {B : Nat} (hG : GA A B) (x : Int32) : GA (tInvert A x) B := by
  unfold tInvert
  split
  · next h =>
    have hk := (zin_n h).2
    exact hG.row hk ((hG.1.2.2.2.2 _ hk).up12)
  · exact hG
