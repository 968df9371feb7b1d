/-! a switch -/
theorem tsel_some {x : Int32} {f : Nat → zO} {d : zO} {out : Option zV × zS} : ∀ {cs : List (Int32 × Nat)}, tsel x f d cs = some out → (∃ (j : Nat) (q : Int32 × Nat), cs[j]? = some q ∧ x = q.1 ∧ f q.2 = some out) ∨ ((∀ q ∈ cs, x ≠ q.1) ∧ d = some out) := by
  intro cs
  induction cs with
  | nil => intro h; exact Or.inr ⟨fun q hq => absurd hq List.not_mem_nil, h⟩
  | cons q r ih =>
    intro h
    unfold tsel at h
    by_cases hx : x = q.1
    · rw [if_pos hx] at h
      exact Or.inl ⟨0, q, rfl, hx, h⟩
    · rw [if_neg hx] at h
      rcases ih h with ⟨j, q', h1, h2⟩ | ⟨h1, h2⟩
      · exact Or.inl ⟨j + 1, q', h1, h2⟩
      · refine Or.inr ⟨fun q' hq' => ?_, h2⟩
        rcases List.mem_cons.mp hq' with rfl | hq'
        · exact hx
        · exact h1 q' hq'
theorem lin_tsel {x : Int32} {op : zK → zO} {f : zK → Nat → zO} {d : zK → zO} (hf : ∀ t, ∃ pc b' ls' st' σ', ∀ k, f k t = k pc b' ls' st' σ') (hd : ∃ pc b' ls' st' σ', ∀ k, d k = k pc b' ls' st' σ') : ∀ (cs : List (Int32 × Nat)), (∀ k, op k = tsel x (f k) (d k) cs) → (∃ c, ∀ k, op k = c) ∨ ∃ pc b' ls' st' σ', ∀ k, op k = k pc b' ls' st' σ' := by
  intro cs
  induction cs with
  | nil =>
    intro h
    obtain ⟨pc, b', ls', st', σ', h1⟩ := hd
    exact Or.inr ⟨pc, b', ls', st', σ', fun k => (h k).trans (h1 k)⟩
  | cons q r ih =>
    intro h
    by_cases hx : x = q.1
    · obtain ⟨pc, b', ls', st', σ', h1⟩ := hf q.2
      exact Or.inr ⟨pc, b', ls', st', σ', fun k => (h k).trans ((if_pos hx).trans (h1 k))⟩
    · exact ih fun k => (h k).trans (if_neg hx)
def zTbl (cs : List (Int32 × Nat)) (pc : Nat) (lo : Int) (offs : Array Int) : Bool := (List.range cs.length).all fun j => match cs[j]?, offs[j]? with
  | some q, some o => decide (q.1.toInt = lo + j) && decide ((pc : Int) + o = q.2)
  | _, _ => false
section TBL
variable {mi : Nat → MethodName × ByteArray × Nat × Option FieldType × Nat × Nat} {own : String} {cc : ByteArray} {nL : Nat} {ret : Option FieldType} {ini : Bool} {pc : Nat}
theorem ok_tbl {dflt lo hi : Int} {offs : Array Int} {len dt : Nat} {cs : List (Int32 × Nat)} (hd : decode cc pc = .ok (.tableswitch dflt lo hi offs, len)) (hdt : (pc : Int) + dflt = dt) (hcs : zTbl cs pc lo offs = true) (hhi : hi - lo + 1 = cs.length) : zOk mi own cc nL ret ini pc (oTbl cs dt) := by
  have key : ∀ (j : Nat) (q : Int32 × Nat), cs[j]? = some q → q.1.toInt = lo + j ∧ ∃ o, offs[j]? = some o ∧ (pc : Int) + o = q.2 := by
    intro j q hj
    have hl := (List.getElem?_eq_some_iff.mp hj).1
    have h1 := List.all_eq_true.mp hcs j (List.mem_range.mpr hl)
    rw [hj] at h1
    cases ho : offs[j]? with
    | none => rw [ho] at h1; cases h1
    | some o =>
      rw [ho] at h1
      simp only [Bool.and_eq_true, decide_eq_true_eq] at h1
      exact ⟨h1.1, o, rfl, h1.2⟩
  refine ⟨fun E b ls st σ => ?_, fun D cy d p l e R s m args below meth c σ0 out Q E hE hC k b ls st σ h hk H locs cells slots lsA hP hM hS hL hc hs => ?_⟩
  · unfold oTbl
    split
    · exact lin_tsel (fun t => ⟨_, _, _, _, _, fun _ => rfl⟩) ⟨_, _, _, _, _, fun _ => rfl⟩ cs fun _ => rfl
    · exact Or.inl ⟨_, fun _ => rfl⟩
  · unfold oTbl at h
    split at h
    · next x st =>
      rcases tsel_some h with ⟨j, q, hj, hx, h⟩ | ⟨hn, h⟩
      · obtain ⟨k1, o, k2, k3⟩ := key j q hj
        have hl := (List.getElem?_eq_some_iff.mp hj).1
        rw [← hx] at k1
        refine lv_tableIn hC.1 hC.2.1 hd (by omega) (by omega) (off := o) ?_ k3 (hk _ _ _ _ _ h H locs cells slots lsA hP hM hS hL hc hs)
        rw [show (x.toInt - lo).toNat = j by omega]
        exact k2
      · refine lv_tableOut hC.1 hC.2.1 hd ?_ hdt (hk _ _ _ _ _ h H locs cells slots lsA hP hM hS hL hc hs)
        rcases Int.lt_or_le x.toInt lo with h1 | h1
        · exact Or.inl h1
        · rcases Int.lt_or_le hi x.toInt with h2 | h2
          · exact Or.inr h2
          · exfalso
            have hj : (x.toInt - lo).toNat < cs.length := by omega
            obtain ⟨k1, -⟩ := key _ _ (List.getElem?_eq_getElem hj)
            exact hn _ (List.getElem_mem hj) (Int32.toInt_inj.mp (by rw [k1]; omega))
    · cases h
end TBL
