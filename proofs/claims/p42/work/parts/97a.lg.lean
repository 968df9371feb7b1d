/-! the tiles kept are never more than the limit -/
theorem LG_of {A A' : zW} (h : LG A) (h1 : tLm (aT A') = tLm (aT A)) (h2 : ∀ k, k < 512 → aU A' k = 0 ∨ aU A' k = aU A k) : LG A' := by
  have go : ∀ n, n ≤ 512 → cnt (aU A') n ≤ cnt (aU A) n := by
    intro n
    induction n with
    | zero => intro _; exact Nat.le_refl _
    | succ n ih =>
      intro hn
      have ih := ih (by omega)
      show cnt (aU A') n + (if aU A' n = 0 then 0 else 1) ≤ cnt (aU A) n + (if aU A n = 0 then 0 else 1)
      rcases h2 n (by omega) with e | e
      · rw [if_pos e]; split <;> omega
      · rw [e]; omega
  have := go 512 (Nat.le_refl _)
  unfold LG at h ⊢
  omega
theorem LG.row {A : zW} (h : LG A) (k : Nat) (l : Nat → Int) : LG (aRow A k l) := LG_of h rfl (fun j _ => zrU_or _ _ _ j)
theorem LG.chs {A : zW} (h : LG A) (k : Nat) (C : zC) : LG (aSet (aCh A k) C) := LG_of h rfl (fun j _ => zrU_or _ _ _ j)
theorem LG.nil {A A' : zW} (h : LG A) (h1 : tLm (aT A') = tLm (aT A)) (h2 : ∀ k, aU A' k = 0) : LG A' := LG_of h h1 (fun k _ => Or.inl (h2 k))
theorem LG.eq {A A' : zW} (h : LG A) (h1 : tLm (aT A') = tLm (aT A)) (h2 : aU A' = aU A) : LG A' := LG_of h h1 (fun k _ => Or.inr (by rw [h2]))
theorem cnt_drp : ∀ n (u : Nat → Nat), cnt (drpU 512 u n) 512 ≤ cnt u 512 - n
  | 0, u => Nat.le_refl _
  | n + 1, u => by
    cases ho : oldU u 512 with
    | none =>
      rw [drpU_none n ho]
      have : cnt u 512 = 0 := oldU_none u 512 ho
      omega
    | some j =>
      rw [drpU_some n ho]
      have := cnt_drp n (clr u j)
      have e := cnt_old ho
      omega
theorem LG.drop (A : zW) (F : zT) : LG (aDrop A F) := by
  have h := cnt_drp (cnt (aU A) 512 - tLm F) (aU A)
  show cnt (drpU 512 (aU A) (cnt (aU A) 512 - tLm F)) 512 ≤ tLm F
  have := Nat.le_refl (cnt (aU A) 512)
  by_cases c : cnt (aU A) 512 ≤ tLm F
  · omega
  · omega
theorem cnt_shU (u : Nat → Nat) (k : Nat) : cnt (shU u k) 512 ≤ cnt u 512 := by
  have mono : ∀ a b, cnt u a ≤ cnt u (a + b) := by
    intro a b
    induction b with
    | zero => exact Nat.le_refl _
    | succ b ih => exact Nat.le_trans ih (by show cnt u (a + b) ≤ cnt u (a + b) + _; omega)
  have go : ∀ n, cnt (shU u k) n ≤ cnt u (min (n + 64 * k) 512) := by
    intro n
    induction n with
    | zero => exact Nat.zero_le _
    | succ n ih =>
      show cnt (shU u k) n + (if shU u k n = 0 then 0 else 1) ≤ _
      unfold shU at ih ⊢
      by_cases c : n + 64 * k < 512
      · have e1 : min (n + 64 * k) 512 = n + 64 * k := by omega
        have e2 : min (n + 1 + 64 * k) 512 = (n + 64 * k) + 1 := by omega
        rw [e1] at ih
        rw [e2]
        simp only [if_pos c]
        show _ ≤ cnt u (n + 64 * k) + (if u (n + 64 * k) = 0 then 0 else 1)
        omega
      · have e1 : min (n + 64 * k) 512 = 512 := by omega
        have e2 : min (n + 1 + 64 * k) 512 = 512 := by omega
        rw [e1] at ih
        rw [e2]
        simp only [if_neg c, if_true]
        omega
  have := go 512
  rw [show min (512 + 64 * k) 512 = 512 by omega] at this
  exact this
theorem LG.new {A : zW} (h : LG A) (x y : Int32) : LG (tNew A x y) := by
  unfold tNew
  split
  · exact h.nil rfl (fun _ => rfl)
  · exact h
theorem LG.pix {A : zW} (h : LG A) (x y v : Int32) : LG (tPix A x y v) := by
  unfold tPix aPt
  split
  · exact LG_of h rfl (fun j _ => seeU_or _ _ _ _ _ _ _ _ j)
  · exact h
theorem LG.fil {A : zW} (h : LG A) (x y w g v : Int32) : LG (tFil A x y w g v) := by
  unfold tFil aPt
  split
  · exact LG_of h rfl (fun j _ => seeU_or _ _ _ _ _ _ _ _ j)
  · exact h
theorem LG.add {A : zW} (h : LG A) (x y v : Int32) : LG (tAdd A x y v) := by
  unfold tAdd
  split
  · split
    · exact h
    · exact h.eq rfl rfl
  · exact h
theorem LG.blend {A : zW} (h : LG A) (x y v : Int32) : LG (tBlend A x y v) := by
  unfold tBlend
  split
  · exact h.row _ _
  · exact h
theorem LG.en {A : zW} (h : LG A) (x y : Int32) : LG (tEn A x y) := by
  unfold tEn
  split
  · split
    · exact h
    · exact h.row _ _
  · exact h
theorem LG.mv {A : zW} (h : LG A) (x y : Int32) : LG (tMv A x y) := by
  unfold tMv
  split
  · exact h.chs _ _
  · exact h
theorem LG.dup {A : zW} (h : LG A) (x : Int32) : LG (tDup A x) := by
  unfold tDup
  split
  · split
    · exact h
    · exact h.chs _ _
  · exact h
theorem LG.rem {A : zW} (h : LG A) (x : Int32) : LG (tRem A x) := by
  unfold tRem
  split
  · exact h.chs _ _
  · exact h
theorem LG.fla {A : zW} (h : LG A) (x : Int32) : LG (tFla A x) := by
  unfold tFla
  split
  · have := cnt_shU (aU A) (x.toNatClampNeg + 1)
    unfold LG at h ⊢
    show cnt (shU (aU A) (x.toNatClampNeg + 1)) 512 ≤ tLm (aT A)
    omega
  · exact h
theorem LG.mask {A : zW} (h : LG A) (x k c d e f : Int32) : LG (tMask A x k c d e f) := by
  unfold tMask
  split
  · exact h.row _ _
  · exact h
theorem LG.feather {A : zW} (h : LG A) (x y : Int32) : LG (tFeather A x y) := by
  unfold tFeather
  split
  · exact h.row _ _
  · exact h
theorem LG.invert {A : zW} (h : LG A) (x : Int32) : LG (tInvert A x) := by
  unfold tInvert
  split
  · exact h.row _ _
  · exact h
theorem LG.dab {A : zW} (h : LG A) (k x y r : Int32) : LG (tDab A k x y r) := by
  unfold tDab
  split
  · split
    · exact h.row _ _
    · exact h
  · exact h
theorem LG.px {A : zW} (h : LG A) (x i j : Int32) : LG (tPx A x i j) := by
  unfold tPx
  split
  · exact LG.drop _ _
  · exact h
theorem LG.pre {A : zW} (h : LG A) (x : Int32) : LG (tPre A x) := by
  unfold tPre
  split
  · exact LG.drop _ _
  · exact h
theorem LG.lim {A : zW} (h : LG A) (x : Int32) : LG (tLim A x) := by
  unfold tLim
  split
  · exact LG.drop _ _
  · exact h
theorem LG.ts {A : zW} (h : LG A) (x : Int32) : LG (tTs A x) := by
  unfold tTs
  split
  · exact h.nil rfl (fun _ => rfl)
  · exact h
theorem LG.clearC {A : zW} (h : LG A) : LG (tClearC A) := h.nil rfl (fun _ => rfl)
theorem LG.undo {A : zW} (h : LG A) : LG (tUndo A) := by
  unfold tUndo
  split
  · exact h
  · exact h.nil rfl (fun _ => rfl)
theorem LG.sav {A : zW} (h : LG A) (x : Int32) : LG (tSav A x) := by
  unfold tSav
  split
  · exact h.eq rfl rfl
  · exact h
theorem LG.rest {A : zW} (h : LG A) (x : Int32) : LG (tRest A x) := by
  unfold tRest
  split
  · split
    · exact h
    · exact h.nil rfl (fun _ => rfl)
  · exact h
