/-! small calls: append, counter -/
def tApp (A : zW) (x : Int32) : zW := if 1 ≤ x.toInt ∧ x.toInt ≤ 255 then (if aTn A = 160 then A else (aC A, (aHn A, aHk A), aS A, (aTn A + 1, fun i => if i = aTn A then x.toNatClampNeg else aTx A i), aU A, aT A)) else A
def rApp (A : zW) (x : Int32) : Int32 := if 1 ≤ x.toInt ∧ x.toInt ≤ 255 then (if aTn A = 160 then -1003 else nI (aTn A + 1)) else -1001
theorem GA.app {A : zW} {B : Nat} (hG : GA A B) (x : Int32) : GA (tApp A x) B := by
  unfold tApp
  split
  · next hx =>
    split
    · exact hG
    · next hn =>
      obtain ⟨hC, hH, hS, hT, hs, hlm, hu, hv, hb⟩ := hG
      refine ⟨hC, hH, hS, ⟨by show aTn A + 1 ≤ 160; omega, fun i hi => ?_⟩, hs, hlm, hu, hv, hb⟩
      have hi : i < aTn A + 1 := hi
      show 1 ≤ (if i = aTn A then x.toNatClampNeg else aTx A i) ∧ (if i = aTn A then x.toNatClampNeg else aTx A i) ≤ 255
      by_cases e : i = aTn A
      · rw [if_pos e]
        have ex : x.toNatClampNeg = x.toInt.toNat := rfl
        omega
      · rw [if_neg e]
        exact hT.2 i (by omega)
  · exact hG
set_option maxRecDepth 20000 in
theorem ch_n {k : Nat} (hk : k < 256) : ((nI k).toUInt32 % 65536).toInt32 = nI k ∧ vp_nar .char (nI k) = nI k := by
  have h : ∀ k : Fin 256, ((nI k.1).toUInt32 % 65536).toInt32 = nI k.1 ∧ vp_nar .char (nI k.1) = nI k.1 := by decide
  exact h ⟨k, hk⟩
