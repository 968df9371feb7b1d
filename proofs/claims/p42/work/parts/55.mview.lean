/-! the reference's view of the whole state -/
theorem stC_stC (C : zC) (k : Nat) (l l' : Nat → Int) : stC (stC C k l) k l' = stC C k l' := by
  unfold stC
  have : (fun i => if i = k then l' else cL (cW C, cH C, cN C, cP C, fun i => if i = k then l else cL C i) i) = fun i => if i = k then l' else cL C i := by
    funext i
    by_cases e : i = k
    · rw [if_pos e, if_pos e]
    · rw [if_neg e, if_neg e]
      show (if i = k then l else cL C i) = cL C i
      rw [if_neg e]
  rw [this]
  rfl
theorem stC_self (C : zC) (k : Nat) : stC C k (cL C k) = C := by
  have : (fun i => if i = k then cL C k else cL C i) = cL C := by
    funext i
    by_cases e : i = k
    · rw [if_pos e, e]
    · rw [if_neg e]
  unfold stC
  rw [this]
  rfl
