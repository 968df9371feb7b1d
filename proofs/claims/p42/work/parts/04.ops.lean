/-! THE STEPS ARE THE MACHINE'S: one lemma a kind of step. -/
def zMx (cc : ByteArray) (ret : Option FieldType) (D : va_G) (cy : Nat → ClassId) (p : Program) (l : Launch) (e : Env) (R : Room) (s : State) (m : MethodId) (args : Array Value) (below : List Frame) (meth : Method) (c : Code) (σ0 : zS) (out : Option zV × zS) (Q : State → Prop) : Prop :=
  ∀ (pc : Nat) (lsA : Array Slot) (H : Heap) (locs : List Loc) (cells slots : Nat), zPool D cy out.2 H → zSm σ0 out.2 → va_S (zA σ0) s.heap H locs → cells ≤ R.cells → slots ≤ R.slots →
    (decode cc pc = .ok (.ireturn, 1) → ∀ x, out.1 = some (.inl x) → (∃ ty, ret = some ty ∧ narrow ty (.int x) = .int x) → W p l e R s m args below meth c H locs cells slots Q (F0 m pc lsA [.int x])) ∧
    (decode cc pc = .ok (.areturn, 1) → ∀ o, out.1 = some (.inr (.inl o)) → (∃ rt, ret = some rt ∧ ((∃ n, rt = .object n) ∨ ∃ t, rt = .array t)) → W p l e R s m args below meth c H locs cells slots Q (F0 m pc lsA [va_rf o])) ∧
    (decode cc pc = .ok (.return_, 1) → out.1 = none → ret = none → W p l e R s m args below meth c H locs cells slots Q (F0 m pc lsA [])) ∧
    (decode cc pc = .ok (.lreturn, 1) → ∀ w, out.1 = some (.inr (.inr (some w))) → ret = some .long → W p l e R s m args below meth c H locs cells slots Q (F0 m pc lsA [.long w]))
def zCtx (D : va_G) (cy : Nat → ClassId) (d : Nat) (p : Program) (l : Launch) (e : Env) (R : Room) (s : State) (m : MethodId) (args : Array Value) (below : List Frame) (meth : Method) (c : Code) (own : String) (cc : ByteArray) (nL : Nat) (ret : Option FieldType) (ini : Bool) (σ0 : zS) (out : Option zV × zS) (Q : State → Prop) : Prop :=
  p.tables.exec = Jvm.exec ∧ c.code = cc ∧ c.maxLocals = nL ∧ s.vm.findClass own = some m.cls ∧ zTb s ∧ va_K D vwCl (zTys cy) s ∧ zExt (zA σ0) s σ0 s.heap ∧ s.heap.size = znx σ0 ∧ (d + 1 ≤ R.frames ∧ 40 * d + 40 ≤ R.locals) ∧ (ini = true → meth.name = "<init>") ∧ zMx cc ret D cy p l e R s m args below meth c σ0 out Q
def zGo (D : va_G) (cy : Nat → ClassId) (p : Program) (l : Launch) (e : Env) (R : Room) (s : State) (m : MethodId) (args : Array Value) (below : List Frame) (meth : Method) (c : Code) (nL : Nat) (σ0 : zS) (Q : State → Prop) (pc : Nat) (b : Nat × Nat) (ls st : List zV) (σ : zS) : Prop :=
  ∀ (H : Heap) (locs : List Loc) (cells slots : Nat) (lsA : Array Slot), zPool D cy σ H → zSm σ0 σ → va_S (zA σ0) s.heap H locs → zLs lsA nL ls → cells + b.1 ≤ R.cells → slots + b.2 ≤ R.slots → W p l e R s m args below meth c H locs cells slots Q (F0 m pc lsA (st.map zTo))
/-- a method's contract out of a run: the answer, the picture behind it -/
def zPc (D : va_G) (cy : Nat → ClassId) (as : List zV) (σ : zS) : Array Value → State → Prop := fun v U => v = (as.map zTo).toArray ∧ zTb U ∧ va_K D vwCl (zTys cy) U ∧ zExt (zA σ) U σ U.heap ∧ zPool D cy σ U.heap
def zQc (D : va_G) (cy : Nat → ClassId) (σ : zS) (out : Option zV × zS) : Array Value → State → Outcome → State → Prop := fun _ st o t => o = .returned (out.1.map zTo) ∧ zPool D cy out.2 t.heap ∧ zSm σ out.2 ∧ va_F (zA σ) st t
def zES (mi : Nat → MethodName × ByteArray × Nat × Option FieldType × Nat × Nat) (D : va_G) (cy : Nat → ClassId) (l : Launch) (d : Nat) (E : zE) : Prop :=
  ∀ (y : Nat) (as : List zV) (σ : zS) (out : Option zV × zS), E y as σ = some out →
    Met l (mi y).1 [Cond.code (mi y).1 (mi y).2.1 (mi y).2.2.1 (mi y).2.2.2.1] ({ frames := d, cells := (mi y).2.2.2.2.1, slots := (mi y).2.2.2.2.2, locals := 40 * d }) (zPc D cy as σ) (zQc D cy σ out) (mi y).2.2.2.2.1 (mi y).2.2.2.2.2 (zA σ)
def zSnd (mi : Nat → MethodName × ByteArray × Nat × Option FieldType × Nat × Nat) (own : String) (cc : ByteArray) (nL : Nat) (ret : Option FieldType) (ini : Bool) (pc : Nat) (op : zOp) : Prop :=
  ∀ (D : va_G) (cy : Nat → ClassId) (d : Nat) (p : Program) (l : Launch) (e : Env) (R : Room) (s : State) (m : MethodId) (args : Array Value) (below : List Frame) (meth : Method) (c : Code) (σ0 : zS) (out : Option zV × zS) (Q : State → Prop) (E : zE),
    zES mi D cy l d E → zCtx D cy d p l e R s m args below meth c own cc nL ret ini σ0 out Q →
    ∀ (k : zK) (b : Nat × Nat) (ls st : List zV) (σ : zS), op E k b ls st σ = some out → (∀ pc' b' ls' st' σ', k pc' b' ls' st' σ' = some out → zGo D cy p l e R s m args below meth c nL σ0 Q pc' b' ls' st' σ') → zGo D cy p l e R s m args below meth c nL σ0 Q pc b ls st σ
def zOk (mi : Nat → MethodName × ByteArray × Nat × Option FieldType × Nat × Nat) (own : String) (cc : ByteArray) (nL : Nat) (ret : Option FieldType) (ini : Bool) (pc : Nat) (op : zOp) : Prop := zLin op ∧ zSnd mi own cc nL ret ini pc op
theorem chk_some {c : Prop} [Decidable c] {x : zO} {o : Option zV × zS} (h : chk c x = some o) : c ∧ x = some o := by
  unfold chk at h
  split at h
  · exact ⟨by assumption, h⟩
  · cases h
theorem onR_some {r : Option Nat} {f : Nat → zO} {o : Option zV × zS} (h : onR r f = some o) : ∃ a, r = some a ∧ f a = some o := by
  cases r with
  | none => cases h
  | some a => exact ⟨a, rfl, h⟩
theorem zLs.at {lsA : Array Slot} {nL : Nat} {ls : List zV} (h : zLs lsA nL ls) {i : Nat} {v : zV} (hi : ls[i]? = some v) (hc : zcat v = 1) : lsA[i]? = some (.val (zTo v)) := h.2.2.2.1 i v hi hc
theorem zLs.atL {lsA : Array Slot} {nL : Nat} {ls : List zV} (h : zLs lsA nL ls) {i : Nat} {w : Int64} (hi : ls[i]? = some (.inr (.inr (some w)))) (hn : ls[i + 1]? = some (.inr (.inr none))) : lsA[i]? = some (.val (.long w)) := h.2.2.2.2 i w hi hn
def zA1 (ls : List zV) (i : Nat) : Option (Nat × Value) := match ls[i]? with
  | some (.inl x) => some (i, .int x)
  | some (.inr (.inl o)) => some (i, va_rf o)
  | some (.inr (.inr (some w))) => match ls[i + 1]? with
    | some (.inr (.inr none)) => some (i, .long w)
    | _ => none
  | _ => none
def zAs (ls : List zV) : List (Nat × Value) := (List.range ls.length).filterMap (zA1 ls)
theorem zcat_1 {v : zV} (h : zcat v = 1) : (zTo v).category = 1 := by
  rcases v with x | o | w
  · rfl
  · cases o <;> rfl
  · cases h
theorem zA1_1 {ls : List zV} {i : Nat} {v : zV} (h : ls[i]? = some v) (hc : zcat v = 1) : zA1 ls i = some (i, zTo v) := by
  unfold zA1
  rw [h]
  rcases v with x | o | w
  · rfl
  · rfl
  · cases hc
theorem zA1_2 {ls : List zV} {i : Nat} {w : Int64} (h : ls[i]? = some (.inr (.inr (some w)))) (hn : ls[i + 1]? = some (.inr (.inr none))) : zA1 ls i = some (i, .long w) := by
  unfold zA1
  rw [h, hn]
theorem zA1_is {ls : List zV} {i : Nat} {q : Nat × Value} (h : zA1 ls i = some q) : (∃ v, ls[i]? = some v ∧ zcat v = 1 ∧ q = (i, zTo v)) ∨ ∃ w, ls[i]? = some (.inr (.inr (some w))) ∧ ls[i + 1]? = some (.inr (.inr none)) ∧ q = (i, .long w) := by
  unfold zA1 at h
  split at h
  · next x hx => cases h; exact Or.inl ⟨_, hx, rfl, rfl⟩
  · next x hx => cases h; exact Or.inl ⟨_, hx, rfl, rfl⟩
  · next w hw =>
    split at h
    · next hn => cases h; exact Or.inr ⟨_, hw, hn, rfl⟩
    · cases h
  · cases h
theorem zLs.has {lsA : Array Slot} {nL : Nat} {ls : List zV} (h : zLs lsA nL ls) : lv_has lsA nL (zAs ls) := by
  refine ⟨h.1, h.2.1, fun q hq => ?_⟩
  obtain ⟨i, -, hi⟩ := List.mem_filterMap.mp hq
  rcases zA1_is hi with ⟨v, h1, h2, rfl⟩ | ⟨w, h1, h2, rfl⟩
  · exact h.2.2.2.1 i v h1 h2
  · exact h.2.2.2.2 i w h1 h2
theorem zAs_mem {ls : List zV} {i : Nat} {v : zV} (h : ls[i]? = some v) (hc : zcat v = 1) : (i, zTo v) ∈ zAs ls :=
  List.mem_filterMap.mpr ⟨i, List.mem_range.mpr (List.getElem?_eq_some_iff.mp h).1, zA1_1 h hc⟩
theorem zAs_memL {ls : List zV} {i : Nat} {w : Int64} (h : ls[i]? = some (.inr (.inr (some w)))) (hn : ls[i + 1]? = some (.inr (.inr none))) : (i, Value.long w) ∈ zAs ls :=
  List.mem_filterMap.mpr ⟨i, List.mem_range.mpr (List.getElem?_eq_some_iff.mp h).1, zA1_2 h hn⟩
theorem zLs.set {lsA : Array Slot} {nL : Nat} {ls : List zV} {i : Nat} {v : zV} {ls' : Array Slot} (h : zLs lsA nL ls) (hi : i < nL) (hc : zcat v = 1) (h' : lv_has ls' nL ((i, zTo v) :: (zAs ls).filter (fun q => !(q.1 == i) && !(q.1 + 1 == i && q.2.category == 2)))) : zLs ls' nL (ls.set i v) := by
  have hil : i < ls.length := by rw [h.2.2.1]; exact hi
  refine ⟨h'.1, h'.2.1, by rw [List.length_set]; exact h.2.2.1, fun j w hj hw => ?_, fun j w hj hn => ?_⟩
  · by_cases hji : j = i
    · subst hji
      rw [List.getElem?_set_self hil] at hj
      cases hj
      exact h'.2.2 (j, zTo v) List.mem_cons_self
    · rw [List.getElem?_set_ne (Ne.symm hji)] at hj
      have := zcat_1 hw
      refine h'.2.2 (j, zTo w) (List.mem_cons_of_mem _ (List.mem_filter.mpr ⟨zAs_mem hj hw, ?_⟩))
      simp [hji, this]
  · by_cases hji : j = i
    · subst hji
      rw [List.getElem?_set_self hil] at hj
      cases hj
      cases hc
    · by_cases hji' : j + 1 = i
      · subst hji'
        rw [List.getElem?_set_self hil] at hn
        cases hn
        cases hc
      · rw [List.getElem?_set_ne (Ne.symm hji)] at hj
        rw [List.getElem?_set_ne (Ne.symm hji')] at hn
        refine h'.2.2 (j, .long w) (List.mem_cons_of_mem _ (List.mem_filter.mpr ⟨zAs_memL hj hn, ?_⟩))
        simp [hji, hji']
theorem zLs.setL {lsA : Array Slot} {nL : Nat} {ls : List zV} {i : Nat} {x : Int64} {ls' : Array Slot} (h : zLs lsA nL ls) (hi : i + 1 < nL) (h' : lv_has ls' nL ((i, Value.long x) :: (zAs ls).filter (fun q => !(q.1 == i) && (!(q.1 == i + 1) && !(q.1 + 1 == i && q.2.category == 2))))) : zLs ls' nL ((ls.set i (.inr (.inr (some x)))).set (i + 1) (.inr (.inr none))) := by
  have hl := h.2.2.1
  have g : ∀ j : Nat, ((ls.set i (.inr (.inr (some x)))).set (i + 1) (.inr (.inr none)))[j]? = if j = i + 1 then some (.inr (.inr none)) else if j = i then some (.inr (.inr (some x))) else ls[j]? := by
    intro j
    by_cases h1 : j = i + 1
    · subst h1
      rw [if_pos rfl, List.getElem?_set_self (by rw [List.length_set]; omega)]
    · rw [if_neg h1, List.getElem?_set_ne (Ne.symm h1)]
      by_cases h2 : j = i
      · subst h2
        rw [if_pos rfl, List.getElem?_set_self (by omega)]
      · rw [if_neg h2, List.getElem?_set_ne (Ne.symm h2)]
  refine ⟨h'.1, h'.2.1, by rw [List.length_set, List.length_set]; exact hl, fun j w hj hw => ?_, fun j w hj hn => ?_⟩
  · rw [g] at hj
    by_cases h1 : j = i + 1
    · rw [if_pos h1] at hj; cases hj; cases hw
    · by_cases h2 : j = i
      · rw [if_neg h1, if_pos h2] at hj; cases hj; cases hw
      · rw [if_neg h1, if_neg h2] at hj
        have := zcat_1 hw
        refine h'.2.2 (j, zTo w) (List.mem_cons_of_mem _ (List.mem_filter.mpr ⟨zAs_mem hj hw, ?_⟩))
        simp [h1, h2, this]
  · rw [g] at hj hn
    by_cases h1 : j = i + 1
    · rw [if_pos h1] at hj; cases hj
    · by_cases h2 : j = i
      · rw [if_neg h1, if_pos h2] at hj
        cases hj
        subst h2
        exact h'.2.2 (j, .long x) List.mem_cons_self
      · rw [if_neg h1, if_neg h2] at hj
        by_cases h3 : j + 1 = i
        · rw [if_neg (by omega), if_pos h3] at hn; cases hn
        · rw [if_neg (by omega), if_neg h3] at hn
          refine h'.2.2 (j, .long w) (List.mem_cons_of_mem _ (List.mem_filter.mpr ⟨zAs_memL hj hn, ?_⟩))
          simp [h1, h2, h3]
theorem zLs.len {lsA : Array Slot} {nL : Nat} {ls : List zV} (h : zLs lsA nL ls) {i : Nat} {v : zV} (hi : ls[i]? = some v) : i < nL := by
  rw [← h.2.2.1]
  exact (List.getElem?_eq_some_iff.mp hi).1
theorem zcats {st : List zV} (h : (st.map zcat).sum ≤ 8) : ((st.map zTo).map fun v => v.category).sum ≤ 8 := by
  have e : ((st.map zTo).map fun v => v.category) = st.map zcat := by
    rw [List.map_map]
    refine List.map_congr_left fun v _ => ?_
    rcases v with x | o | w
    · rfl
    · cases o <;> rfl
    · cases w <;> rfl
  rw [e]
  exact h
section OPS
variable {mi : Nat → MethodName × ByteArray × Nat × Option FieldType × Nat × Nat} {own : String} {cc : ByteArray} {nL : Nat} {ret : Option FieldType} {ini : Bool} {pc : Nat}
theorem ok_stk : zOk mi own cc nL ret ini pc stk := ⟨fun _ _ _ _ _ => Or.inl ⟨none, fun _ => rfl⟩, fun _ _ _ _ _ _ _ _ _ _ _ _ _ _ _ _ _ _ _ _ _ _ _ _ h => by cases h⟩
theorem ok_iconst {n : Int} {v : Int32} (hd : decode cc pc = .ok (.iconst n, 1)) (hv : Int32.ofInt n = v) : zOk mi own cc nL ret ini pc (oCst (.inl v) (pc + 1)) :=
  ⟨fun E b ls st σ => Or.inr ⟨_, _, _, _, _, fun k => rfl⟩, fun D cy d p l e R s m args below meth c σ0 out Q E hE hC k b ls st σ h hk H locs cells slots lsA hP hM hS hL hc hs =>
    lv_iconst hC.1 hC.2.1 hd hv (hk _ _ _ _ _ h H locs cells slots lsA hP hM hS hL hc hs)⟩
theorem ok_bipush {n : Int} {v : Int32} (hd : decode cc pc = .ok (.bipush n, 2)) (hv : (Int8.ofInt n).toInt32 = v) : zOk mi own cc nL ret ini pc (oCst (.inl v) (pc + 2)) :=
  ⟨fun E b ls st σ => Or.inr ⟨_, _, _, _, _, fun k => rfl⟩, fun D cy d p l e R s m args below meth c σ0 out Q E hE hC k b ls st σ h hk H locs cells slots lsA hP hM hS hL hc hs =>
    lv_bipush hC.1 hC.2.1 hd hv (hk _ _ _ _ _ h H locs cells slots lsA hP hM hS hL hc hs)⟩
theorem ok_sipush {n : Int} {v : Int32} (hd : decode cc pc = .ok (.sipush n, 3)) (hv : (Int16.ofInt n).toInt32 = v) : zOk mi own cc nL ret ini pc (oCst (.inl v) (pc + 3)) :=
  ⟨fun E b ls st σ => Or.inr ⟨_, _, _, _, _, fun k => rfl⟩, fun D cy d p l e R s m args below meth c σ0 out Q E hE hC k b ls st σ h hk H locs cells slots lsA hP hM hS hL hc hs =>
    lv_sipush hC.1 hC.2.1 hd hv (hk _ _ _ _ _ h H locs cells slots lsA hP hM hS hL hc hs)⟩
theorem ok_aconst (hd : decode cc pc = .ok (.aconst_null, 1)) : zOk mi own cc nL ret ini pc (oCst (.inr (.inl none)) (pc + 1)) :=
  ⟨fun E b ls st σ => Or.inr ⟨_, _, _, _, _, fun k => rfl⟩, fun D cy d p l e R s m args below meth c σ0 out Q E hE hC k b ls st σ h hk H locs cells slots lsA hP hM hS hL hc hs =>
    lv_null hC.1 hC.2.1 hd (hk _ _ _ _ _ h H locs cells slots lsA hP hM hS hL hc hs)⟩
theorem ok_iload {i : Nat} (hd : decode cc pc = .ok (.iload i, 2)) : zOk mi own cc nL ret ini pc (oLdI i (pc + 2)) := by
  refine ⟨fun E b ls st σ => ?_, fun D cy d p l e R s m args below meth c σ0 out Q E hE hC k b ls st σ h hk H locs cells slots lsA hP hM hS hL hc hs => ?_⟩
  · unfold oLdI
    rcases ls[i]? with _ | x | o
    · exact Or.inl ⟨_, fun _ => rfl⟩
    · exact Or.inr ⟨_, _, _, _, _, fun _ => rfl⟩
    · exact Or.inl ⟨_, fun _ => rfl⟩
  · unfold oLdI at h
    rcases hx : ls[i]? with _ | x | o <;> rw [hx] at h
    · cases h
    · exact lv_iload hC.1 hC.2.1 hd (hL.at hx rfl) (hk _ _ _ _ _ h H locs cells slots lsA hP hM hS hL hc hs)
    · cases h
theorem ok_iload_n {k0 : Fin 4} {i : Nat} (hd : decode cc pc = .ok (.iload_n k0, 1)) (hi : (k0 : Nat) = i) : zOk mi own cc nL ret ini pc (oLdI i (pc + 1)) := by
  refine ⟨fun E b ls st σ => ?_, fun D cy d p l e R s m args below meth c σ0 out Q E hE hC k b ls st σ h hk H locs cells slots lsA hP hM hS hL hc hs => ?_⟩
  · unfold oLdI
    rcases ls[i]? with _ | x | o
    · exact Or.inl ⟨_, fun _ => rfl⟩
    · exact Or.inr ⟨_, _, _, _, _, fun _ => rfl⟩
    · exact Or.inl ⟨_, fun _ => rfl⟩
  · unfold oLdI at h
    rcases hx : ls[i]? with _ | x | o <;> rw [hx] at h
    · cases h
    · exact lv_iload_n hC.1 hC.2.1 hd hi (hL.at hx rfl) (hk _ _ _ _ _ h H locs cells slots lsA hP hM hS hL hc hs)
    · cases h
theorem ok_aload {i : Nat} (hd : decode cc pc = .ok (.aload i, 2)) : zOk mi own cc nL ret ini pc (oLdR i (pc + 2)) := by
  refine ⟨fun E b ls st σ => ?_, fun D cy d p l e R s m args below meth c σ0 out Q E hE hC k b ls st σ h hk H locs cells slots lsA hP hM hS hL hc hs => ?_⟩
  · unfold oLdR
    split
    · exact Or.inr ⟨_, _, _, _, _, fun _ => rfl⟩
    · exact Or.inl ⟨_, fun _ => rfl⟩
  · unfold oLdR at h
    split at h
    · next x hx =>
      cases x with
      | none => exact lv_aloadN hC.1 hC.2.1 hd (hL.at hx rfl) (hk _ _ _ _ _ h H locs cells slots lsA hP hM hS hL hc hs)
      | some x => exact lv_aload hC.1 hC.2.1 hd (hL.at hx rfl) (hk _ _ _ _ _ h H locs cells slots lsA hP hM hS hL hc hs)
    · cases h
theorem ok_aload_n {k0 : Fin 4} {i : Nat} (hd : decode cc pc = .ok (.aload_n k0, 1)) (hi : (k0 : Nat) = i) : zOk mi own cc nL ret ini pc (oLdR i (pc + 1)) := by
  refine ⟨fun E b ls st σ => ?_, fun D cy d p l e R s m args below meth c σ0 out Q E hE hC k b ls st σ h hk H locs cells slots lsA hP hM hS hL hc hs => ?_⟩
  · unfold oLdR
    split
    · exact Or.inr ⟨_, _, _, _, _, fun _ => rfl⟩
    · exact Or.inl ⟨_, fun _ => rfl⟩
  · unfold oLdR at h
    split at h
    · next x hx =>
      cases x with
      | none => exact lv_aload_nN hC.1 hC.2.1 hd hi (hL.at hx rfl) (hk _ _ _ _ _ h H locs cells slots lsA hP hM hS hL hc hs)
      | some x => exact lv_aload_n hC.1 hC.2.1 hd hi (hL.at hx rfl) (hk _ _ _ _ _ h H locs cells slots lsA hP hM hS hL hc hs)
    · cases h
theorem ok_istore {i : Nat} (hd : decode cc pc = .ok (.istore i, 2)) (hlt : i < nL) : zOk mi own cc nL ret ini pc (oStI i (pc + 2)) := by
  refine ⟨fun E b ls st σ => ?_, fun D cy d p l e R s m args below meth c σ0 out Q E hE hC k b ls st σ h hk H locs cells slots lsA hP hM hS hL hc hs => ?_⟩
  · unfold oStI
    split
    · exact Or.inr ⟨_, _, _, _, _, fun _ => rfl⟩
    · exact Or.inl ⟨_, fun _ => rfl⟩
  · unfold oStI at h
    split at h
    · exact lv_istore hC.1 hC.2.1 hd hL.has hlt rfl fun ls2 h2 => (hk _ _ _ _ _ h H locs cells slots ls2 hP hM hS (hL.set hlt rfl h2) hc hs)
    · cases h
theorem ok_istore_n {k0 : Fin 4} {i : Nat} (hd : decode cc pc = .ok (.istore_n k0, 1)) (hi : (k0 : Nat) = i) (hlt : i < nL) : zOk mi own cc nL ret ini pc (oStI i (pc + 1)) := by
  refine ⟨fun E b ls st σ => ?_, fun D cy d p l e R s m args below meth c σ0 out Q E hE hC k b ls st σ h hk H locs cells slots lsA hP hM hS hL hc hs => ?_⟩
  · unfold oStI
    split
    · exact Or.inr ⟨_, _, _, _, _, fun _ => rfl⟩
    · exact Or.inl ⟨_, fun _ => rfl⟩
  · unfold oStI at h
    split at h
    · exact lv_istore_n hC.1 hC.2.1 hd hi hL.has hlt rfl fun ls2 h2 => (hk _ _ _ _ _ h H locs cells slots ls2 hP hM hS (hL.set hlt rfl h2) hc hs)
    · cases h
theorem ok_astore {i : Nat} (hd : decode cc pc = .ok (.astore i, 2)) (hlt : i < nL) : zOk mi own cc nL ret ini pc (oStR i (pc + 2)) := by
  refine ⟨fun E b ls st σ => ?_, fun D cy d p l e R s m args below meth c σ0 out Q E hE hC k b ls st σ h hk H locs cells slots lsA hP hM hS hL hc hs => ?_⟩
  · unfold oStR
    split
    · exact Or.inr ⟨_, _, _, _, _, fun _ => rfl⟩
    · exact Or.inl ⟨_, fun _ => rfl⟩
  · unfold oStR at h
    split at h
    · next x st =>
      cases x with
      | none => exact lv_astoreN hC.1 hC.2.1 hd hL.has hlt rfl fun ls2 h2 => (hk _ _ _ _ _ h H locs cells slots ls2 hP hM hS (hL.set hlt rfl h2) hc hs)
      | some x => exact lv_astore hC.1 hC.2.1 hd hL.has hlt rfl fun ls2 h2 => (hk _ _ _ _ _ h H locs cells slots ls2 hP hM hS (hL.set hlt rfl h2) hc hs)
    · cases h
theorem ok_astore_n {k0 : Fin 4} {i : Nat} (hd : decode cc pc = .ok (.astore_n k0, 1)) (hi : (k0 : Nat) = i) (hlt : i < nL) : zOk mi own cc nL ret ini pc (oStR i (pc + 1)) := by
  refine ⟨fun E b ls st σ => ?_, fun D cy d p l e R s m args below meth c σ0 out Q E hE hC k b ls st σ h hk H locs cells slots lsA hP hM hS hL hc hs => ?_⟩
  · unfold oStR
    split
    · exact Or.inr ⟨_, _, _, _, _, fun _ => rfl⟩
    · exact Or.inl ⟨_, fun _ => rfl⟩
  · unfold oStR at h
    split at h
    · next x st =>
      cases x with
      | none => exact lv_astore_nN hC.1 hC.2.1 hd hi hL.has hlt rfl fun ls2 h2 => (hk _ _ _ _ _ h H locs cells slots ls2 hP hM hS (hL.set hlt rfl h2) hc hs)
      | some x => exact lv_astore_n hC.1 hC.2.1 hd hi hL.has hlt rfl fun ls2 h2 => (hk _ _ _ _ _ h H locs cells slots ls2 hP hM hS (hL.set hlt rfl h2) hc hs)
    · cases h
theorem ok_lload {i : Nat} (hd : decode cc pc = .ok (.lload i, 2)) : zOk mi own cc nL ret ini pc (oLdL i (pc + 2)) := by
  refine ⟨fun E b ls st σ => ?_, fun D cy d p l e R s m args below meth c σ0 out Q E hE hC k b ls st σ h hk H locs cells slots lsA hP hM hS hL hc hs => ?_⟩
  · unfold oLdL
    split
    · exact Or.inr ⟨_, _, _, _, _, fun _ => rfl⟩
    · exact Or.inl ⟨_, fun _ => rfl⟩
  · unfold oLdL at h
    split at h
    · next w hx hn => exact lv_lload hC.1 hC.2.1 hd (hL.atL hx hn) (hk _ _ _ _ _ h H locs cells slots lsA hP hM hS hL hc hs)
    · cases h
theorem ok_lload_n {k0 : Fin 4} {i : Nat} (hd : decode cc pc = .ok (.lload_n k0, 1)) (hi : (k0 : Nat) = i) : zOk mi own cc nL ret ini pc (oLdL i (pc + 1)) := by
  refine ⟨fun E b ls st σ => ?_, fun D cy d p l e R s m args below meth c σ0 out Q E hE hC k b ls st σ h hk H locs cells slots lsA hP hM hS hL hc hs => ?_⟩
  · unfold oLdL
    split
    · exact Or.inr ⟨_, _, _, _, _, fun _ => rfl⟩
    · exact Or.inl ⟨_, fun _ => rfl⟩
  · unfold oLdL at h
    split at h
    · next w hx hn => exact lv_lload_n hC.1 hC.2.1 hd hi (hL.atL hx hn) (hk _ _ _ _ _ h H locs cells slots lsA hP hM hS hL hc hs)
    · cases h
theorem ok_lstore {i : Nat} (hd : decode cc pc = .ok (.lstore i, 2)) (hlt : i + 1 < nL) : zOk mi own cc nL ret ini pc (oStL i (pc + 2)) := by
  refine ⟨fun E b ls st σ => ?_, fun D cy d p l e R s m args below meth c σ0 out Q E hE hC k b ls st σ h hk H locs cells slots lsA hP hM hS hL hc hs => ?_⟩
  · unfold oStL
    split
    · exact Or.inr ⟨_, _, _, _, _, fun _ => rfl⟩
    · exact Or.inl ⟨_, fun _ => rfl⟩
  · unfold oStL at h
    split at h
    · exact lv_lstore hC.1 hC.2.1 hd hL.has hlt rfl fun ls2 h2 => (hk _ _ _ _ _ h H locs cells slots ls2 hP hM hS (hL.setL hlt h2) hc hs)
    · cases h
theorem ok_lstore_n {k0 : Fin 4} {i : Nat} (hd : decode cc pc = .ok (.lstore_n k0, 1)) (hi : (k0 : Nat) = i) (hlt : i + 1 < nL) : zOk mi own cc nL ret ini pc (oStL i (pc + 1)) := by
  refine ⟨fun E b ls st σ => ?_, fun D cy d p l e R s m args below meth c σ0 out Q E hE hC k b ls st σ h hk H locs cells slots lsA hP hM hS hL hc hs => ?_⟩
  · unfold oStL
    split
    · exact Or.inr ⟨_, _, _, _, _, fun _ => rfl⟩
    · exact Or.inl ⟨_, fun _ => rfl⟩
  · unfold oStL at h
    split at h
    · exact lv_lstore_n hC.1 hC.2.1 hd hi hL.has hlt rfl fun ls2 h2 => (hk _ _ _ _ _ h H locs cells slots ls2 hP hM hS (hL.setL hlt h2) hc hs)
    · cases h
theorem ok_iinc {i : Nat} {w0 : Int} {w : Int32} (hd : decode cc pc = .ok (.iinc i w0, 3)) (hw : Int32.ofInt w0 = w) : zOk mi own cc nL ret ini pc (oInc i w (pc + 3)) := by
  refine ⟨fun E b ls st σ => ?_, fun D cy d p l e R s m args below meth c σ0 out Q E hE hC k b ls st σ h hk H locs cells slots lsA hP hM hS hL hc hs => ?_⟩
  · unfold oInc
    split
    · exact Or.inr ⟨_, _, _, _, _, fun _ => rfl⟩
    · exact Or.inl ⟨_, fun _ => rfl⟩
  · subst hw
    unfold oInc at h
    split at h
    · next x hx =>
      have hlt := hL.len hx
      obtain ⟨j, hj⟩ := List.getElem?_of_mem (zAs_mem hx rfl)
      exact lv_iinc hC.1 hC.2.1 hd hL.has hj rfl hlt rfl fun ls2 h2 => (hk _ _ _ _ _ h H locs cells slots ls2 hP hM hS (hL.set hlt rfl h2) hc hs)
    · cases h
theorem ok_iadd (hd : decode cc pc = .ok (.iadd, 1)) : zOk mi own cc nL ret ini pc (oBin (fun x y => x + y) (pc + 1)) := by
  refine ⟨fun E b ls st σ => ?_, fun D cy d p l e R s m args below meth c σ0 out Q E hE hC k b ls st σ h hk H locs cells slots lsA hP hM hS hL hc hs => ?_⟩
  · unfold oBin
    split
    · exact Or.inr ⟨_, _, _, _, _, fun _ => rfl⟩
    · exact Or.inl ⟨_, fun _ => rfl⟩
  · unfold oBin at h
    split at h
    · exact lv_iadd hC.1 hC.2.1 hd (hk _ _ _ _ _ h H locs cells slots lsA hP hM hS hL hc hs)
    · cases h
theorem ok_isub (hd : decode cc pc = .ok (.isub, 1)) : zOk mi own cc nL ret ini pc (oBin (fun x y => x - y) (pc + 1)) := by
  refine ⟨fun E b ls st σ => ?_, fun D cy d p l e R s m args below meth c σ0 out Q E hE hC k b ls st σ h hk H locs cells slots lsA hP hM hS hL hc hs => ?_⟩
  · unfold oBin
    split
    · exact Or.inr ⟨_, _, _, _, _, fun _ => rfl⟩
    · exact Or.inl ⟨_, fun _ => rfl⟩
  · unfold oBin at h
    split at h
    · exact lv_isub hC.1 hC.2.1 hd (hk _ _ _ _ _ h H locs cells slots lsA hP hM hS hL hc hs)
    · cases h
theorem ok_imul (hd : decode cc pc = .ok (.imul, 1)) : zOk mi own cc nL ret ini pc (oBin (fun x y => x * y) (pc + 1)) := by
  refine ⟨fun E b ls st σ => ?_, fun D cy d p l e R s m args below meth c σ0 out Q E hE hC k b ls st σ h hk H locs cells slots lsA hP hM hS hL hc hs => ?_⟩
  · unfold oBin
    split
    · exact Or.inr ⟨_, _, _, _, _, fun _ => rfl⟩
    · exact Or.inl ⟨_, fun _ => rfl⟩
  · unfold oBin at h
    split at h
    · exact lv_imul hC.1 hC.2.1 hd (hk _ _ _ _ _ h H locs cells slots lsA hP hM hS hL hc hs)
    · cases h
theorem ok_iand (hd : decode cc pc = .ok (.iand, 1)) : zOk mi own cc nL ret ini pc (oBin (fun x y => x &&& y) (pc + 1)) := by
  refine ⟨fun E b ls st σ => ?_, fun D cy d p l e R s m args below meth c σ0 out Q E hE hC k b ls st σ h hk H locs cells slots lsA hP hM hS hL hc hs => ?_⟩
  · unfold oBin
    split
    · exact Or.inr ⟨_, _, _, _, _, fun _ => rfl⟩
    · exact Or.inl ⟨_, fun _ => rfl⟩
  · unfold oBin at h
    split at h
    · exact lv_iand hC.1 hC.2.1 hd (hk _ _ _ _ _ h H locs cells slots lsA hP hM hS hL hc hs)
    · cases h
theorem ok_ior (hd : decode cc pc = .ok (.ior, 1)) : zOk mi own cc nL ret ini pc (oBin (fun x y => x ||| y) (pc + 1)) := by
  refine ⟨fun E b ls st σ => ?_, fun D cy d p l e R s m args below meth c σ0 out Q E hE hC k b ls st σ h hk H locs cells slots lsA hP hM hS hL hc hs => ?_⟩
  · unfold oBin
    split
    · exact Or.inr ⟨_, _, _, _, _, fun _ => rfl⟩
    · exact Or.inl ⟨_, fun _ => rfl⟩
  · unfold oBin at h
    split at h
    · exact lv_ior hC.1 hC.2.1 hd (hk _ _ _ _ _ h H locs cells slots lsA hP hM hS hL hc hs)
    · cases h
theorem ok_ixor (hd : decode cc pc = .ok (.ixor, 1)) : zOk mi own cc nL ret ini pc (oBin (fun x y => x ^^^ y) (pc + 1)) := by
  refine ⟨fun E b ls st σ => ?_, fun D cy d p l e R s m args below meth c σ0 out Q E hE hC k b ls st σ h hk H locs cells slots lsA hP hM hS hL hc hs => ?_⟩
  · unfold oBin
    split
    · exact Or.inr ⟨_, _, _, _, _, fun _ => rfl⟩
    · exact Or.inl ⟨_, fun _ => rfl⟩
  · unfold oBin at h
    split at h
    · exact lv_ixor hC.1 hC.2.1 hd (hk _ _ _ _ _ h H locs cells slots lsA hP hM hS hL hc hs)
    · cases h
theorem ok_ishl (hd : decode cc pc = .ok (.ishl, 1)) : zOk mi own cc nL ret ini pc (oBin (fun x y => x <<< (y &&& 31)) (pc + 1)) := by
  refine ⟨fun E b ls st σ => ?_, fun D cy d p l e R s m args below meth c σ0 out Q E hE hC k b ls st σ h hk H locs cells slots lsA hP hM hS hL hc hs => ?_⟩
  · unfold oBin
    split
    · exact Or.inr ⟨_, _, _, _, _, fun _ => rfl⟩
    · exact Or.inl ⟨_, fun _ => rfl⟩
  · unfold oBin at h
    split at h
    · exact lv_ishl hC.1 hC.2.1 hd (hk _ _ _ _ _ h H locs cells slots lsA hP hM hS hL hc hs)
    · cases h
theorem ok_ishr (hd : decode cc pc = .ok (.ishr, 1)) : zOk mi own cc nL ret ini pc (oBin (fun x y => x >>> (y &&& 31)) (pc + 1)) := by
  refine ⟨fun E b ls st σ => ?_, fun D cy d p l e R s m args below meth c σ0 out Q E hE hC k b ls st σ h hk H locs cells slots lsA hP hM hS hL hc hs => ?_⟩
  · unfold oBin
    split
    · exact Or.inr ⟨_, _, _, _, _, fun _ => rfl⟩
    · exact Or.inl ⟨_, fun _ => rfl⟩
  · unfold oBin at h
    split at h
    · exact lv_ishr hC.1 hC.2.1 hd (hk _ _ _ _ _ h H locs cells slots lsA hP hM hS hL hc hs)
    · cases h
theorem ok_idiv (hd : decode cc pc = .ok (.idiv, 1)) : zOk mi own cc nL ret ini pc (oDvd (fun x y => x / y) (pc + 1)) := by
  refine ⟨fun E b ls st σ => ?_, fun D cy d p l e R s m args below meth c σ0 out Q E hE hC k b ls st σ h hk H locs cells slots lsA hP hM hS hL hc hs => ?_⟩
  · unfold oDvd
    split
    · split
      · exact Or.inl ⟨_, fun _ => rfl⟩
      · exact Or.inr ⟨_, _, _, _, _, fun _ => rfl⟩
    · exact Or.inl ⟨_, fun _ => rfl⟩
  · unfold oDvd at h
    split at h
    · split at h
      · cases h
      · next hy => exact lv_idiv hC.1 hC.2.1 hd hy (hk _ _ _ _ _ h H locs cells slots lsA hP hM hS hL hc hs)
    · cases h
theorem ok_irem (hd : decode cc pc = .ok (.irem, 1)) : zOk mi own cc nL ret ini pc (oDvd (fun x y => x - x / y * y) (pc + 1)) := by
  refine ⟨fun E b ls st σ => ?_, fun D cy d p l e R s m args below meth c σ0 out Q E hE hC k b ls st σ h hk H locs cells slots lsA hP hM hS hL hc hs => ?_⟩
  · unfold oDvd
    split
    · split
      · exact Or.inl ⟨_, fun _ => rfl⟩
      · exact Or.inr ⟨_, _, _, _, _, fun _ => rfl⟩
    · exact Or.inl ⟨_, fun _ => rfl⟩
  · unfold oDvd at h
    split at h
    · split at h
      · cases h
      · next hy => exact lv_irem hC.1 hC.2.1 hd hy (hk _ _ _ _ _ h H locs cells slots lsA hP hM hS hL hc hs)
    · cases h
theorem ok_ineg (hd : decode cc pc = .ok (.ineg, 1)) : zOk mi own cc nL ret ini pc (oUn (fun x => -x) (pc + 1)) := by
  refine ⟨fun E b ls st σ => ?_, fun D cy d p l e R s m args below meth c σ0 out Q E hE hC k b ls st σ h hk H locs cells slots lsA hP hM hS hL hc hs => ?_⟩
  · unfold oUn
    split
    · exact Or.inr ⟨_, _, _, _, _, fun _ => rfl⟩
    · exact Or.inl ⟨_, fun _ => rfl⟩
  · unfold oUn at h
    split at h
    · exact lv_ineg hC.1 hC.2.1 hd (hk _ _ _ _ _ h H locs cells slots lsA hP hM hS hL hc hs)
    · cases h
theorem ok_i2c (hd : decode cc pc = .ok (.i2c, 1)) : zOk mi own cc nL ret ini pc (oUn (fun x => (x.toUInt32 % 65536).toInt32) (pc + 1)) := by
  refine ⟨fun E b ls st σ => ?_, fun D cy d p l e R s m args below meth c σ0 out Q E hE hC k b ls st σ h hk H locs cells slots lsA hP hM hS hL hc hs => ?_⟩
  · unfold oUn
    split
    · exact Or.inr ⟨_, _, _, _, _, fun _ => rfl⟩
    · exact Or.inl ⟨_, fun _ => rfl⟩
  · unfold oUn at h
    split at h
    · exact lv_i2c hC.1 hC.2.1 hd rfl (hk _ _ _ _ _ h H locs cells slots lsA hP hM hS hL hc hs)
    · cases h
theorem ok_i2l (hd : decode cc pc = .ok (.i2l, 1)) : zOk mi own cc nL ret ini pc (oI2l (pc + 1)) := by
  refine ⟨fun E b ls st σ => ?_, fun D cy d p l e R s m args below meth c σ0 out Q E hE hC k b ls st σ h hk H locs cells slots lsA hP hM hS hL hc hs => ?_⟩
  · unfold oI2l
    split
    · exact Or.inr ⟨_, _, _, _, _, fun _ => rfl⟩
    · exact Or.inl ⟨_, fun _ => rfl⟩
  · unfold oI2l at h
    split at h
    · exact lv_i2l hC.1 hC.2.1 hd rfl (hk _ _ _ _ _ h H locs cells slots lsA hP hM hS hL hc hs)
    · cases h
theorem ok_ladd (hd : decode cc pc = .ok (.ladd, 1)) : zOk mi own cc nL ret ini pc (oBinL (fun x y => x + y) (pc + 1)) := by
  refine ⟨fun E b ls st σ => ?_, fun D cy d p l e R s m args below meth c σ0 out Q E hE hC k b ls st σ h hk H locs cells slots lsA hP hM hS hL hc hs => ?_⟩
  · unfold oBinL
    split
    · exact Or.inr ⟨_, _, _, _, _, fun _ => rfl⟩
    · exact Or.inl ⟨_, fun _ => rfl⟩
  · unfold oBinL at h
    split at h
    · exact lv_ladd hC.1 hC.2.1 hd (hk _ _ _ _ _ h H locs cells slots lsA hP hM hS hL hc hs)
    · cases h
theorem ok_lsub (hd : decode cc pc = .ok (.lsub, 1)) : zOk mi own cc nL ret ini pc (oBinL (fun x y => x - y) (pc + 1)) := by
  refine ⟨fun E b ls st σ => ?_, fun D cy d p l e R s m args below meth c σ0 out Q E hE hC k b ls st σ h hk H locs cells slots lsA hP hM hS hL hc hs => ?_⟩
  · unfold oBinL
    split
    · exact Or.inr ⟨_, _, _, _, _, fun _ => rfl⟩
    · exact Or.inl ⟨_, fun _ => rfl⟩
  · unfold oBinL at h
    split at h
    · exact lv_lsub hC.1 hC.2.1 hd (hk _ _ _ _ _ h H locs cells slots lsA hP hM hS hL hc hs)
    · cases h
theorem ok_lmul (hd : decode cc pc = .ok (.lmul, 1)) : zOk mi own cc nL ret ini pc (oBinL (fun x y => x * y) (pc + 1)) := by
  refine ⟨fun E b ls st σ => ?_, fun D cy d p l e R s m args below meth c σ0 out Q E hE hC k b ls st σ h hk H locs cells slots lsA hP hM hS hL hc hs => ?_⟩
  · unfold oBinL
    split
    · exact Or.inr ⟨_, _, _, _, _, fun _ => rfl⟩
    · exact Or.inl ⟨_, fun _ => rfl⟩
  · unfold oBinL at h
    split at h
    · exact lv_lmul hC.1 hC.2.1 hd (hk _ _ _ _ _ h H locs cells slots lsA hP hM hS hL hc hs)
    · cases h
theorem ok_lcmp (hd : decode cc pc = .ok (.lcmp, 1)) : zOk mi own cc nL ret ini pc (oLcmp (pc + 1)) := by
  refine ⟨fun E b ls st σ => ?_, fun D cy d p l e R s m args below meth c σ0 out Q E hE hC k b ls st σ h hk H locs cells slots lsA hP hM hS hL hc hs => ?_⟩
  · unfold oLcmp
    split
    · exact Or.inr ⟨_, _, _, _, _, fun _ => rfl⟩
    · exact Or.inl ⟨_, fun _ => rfl⟩
  · unfold oLcmp at h
    split at h
    · exact W.lcmp hC.1 hC.2.1 hd (hk _ _ _ _ _ h H locs cells slots lsA hP hM hS hL hc hs)
    · cases h
theorem ok_lconst {n : Fin 2} {v : Int64} (hd : decode cc pc = .ok (.lconst n, 1)) (hv : Int64.ofNat (n : Nat) = v) : zOk mi own cc nL ret ini pc (oCst (.inr (.inr (some v))) (pc + 1)) :=
  ⟨fun E b ls st σ => Or.inr ⟨_, _, _, _, _, fun k => rfl⟩, fun D cy d p l e R s m args below meth c σ0 out Q E hE hC k b ls st σ h hk H locs cells slots lsA hP hM hS hL hc hs => 
    lv_lconst hC.1 hC.2.1 hd hv (hk _ _ _ _ _ h H locs cells slots lsA hP hM hS hL hc hs)⟩
theorem ok_ldc2 {index : Nat} {v : Int64} (hd : decode cc pc = .ok (.ldc2_w index, 3)) (hw : Cond.constantLong own index v ∈ lw_tbl) : zOk mi own cc nL ret ini pc (oCst (.inr (.inr (some v))) (pc + 3)) :=
  ⟨fun E b ls st σ => Or.inr ⟨_, _, _, _, _, fun k => rfl⟩, fun D cy d p l e R s m args below meth c σ0 out Q E hE hC k b ls st σ h hk H locs cells slots lsA hP hM hS hL hc hs => 
    lv_ldc2 hC.1 hC.2.1 hC.2.2.2.1 (hC.2.2.2.2.1 _ hw rfl _) hd (hk _ _ _ _ _ h H locs cells slots lsA hP hM hS hL hc hs)⟩
theorem ok_ldc {index : Nat} {v : Int32} (hd : decode cc pc = .ok (.ldc index, 2)) (hw : Cond.constant own index v ∈ lw_tbl) : zOk mi own cc nL ret ini pc (oCst (.inl v) (pc + 2)) :=
  ⟨fun E b ls st σ => Or.inr ⟨_, _, _, _, _, fun k => rfl⟩, fun D cy d p l e R s m args below meth c σ0 out Q E hE hC k b ls st σ h hk H locs cells slots lsA hP hM hS hL hc hs => 
    lv_ldc hC.1 hC.2.1 hC.2.2.2.1 (hC.2.2.2.2.1 _ hw rfl _) hd (hk _ _ _ _ _ h H locs cells slots lsA hP hM hS hL hc hs)⟩
theorem ok_dup (hd : decode cc pc = .ok (.dup, 1)) : zOk mi own cc nL ret ini pc (oDup (pc + 1)) := by
  refine ⟨fun E b ls st σ => ?_, fun D cy d p l e R s m args below meth c σ0 out Q E hE hC k b ls st σ h hk H locs cells slots lsA hP hM hS hL hc hs => ?_⟩
  · unfold oDup
    split
    · exact Or.inr ⟨_, _, _, _, _, fun _ => rfl⟩
    · exact Or.inr ⟨_, _, _, _, _, fun _ => rfl⟩
    · exact Or.inl ⟨_, fun _ => rfl⟩
  · unfold oDup at h
    split at h
    · exact lv_dup hC.1 hC.2.1 hd rfl (hk _ _ _ _ _ h H locs cells slots lsA hP hM hS hL hc hs)
    · next x st => exact lv_dup hC.1 hC.2.1 hd (zcat_1 (v := .inr (.inl x)) rfl) (hk _ _ _ _ _ h H locs cells slots lsA hP hM hS hL hc hs)
    · cases h
theorem ok_dup2 (hd : decode cc pc = .ok (.dup2, 1)) : zOk mi own cc nL ret ini pc (oDup2 (pc + 1)) := by
  refine ⟨fun E b ls st σ => ?_, fun D cy d p l e R s m args below meth c σ0 out Q E hE hC k b ls st σ h hk H locs cells slots lsA hP hM hS hL hc hs => ?_⟩
  · unfold oDup2
    split
    · exact Or.inr ⟨_, _, _, _, _, fun _ => rfl⟩
    · exact Or.inl ⟨_, fun _ => rfl⟩
  · unfold oDup2 at h
    split at h
    · next x y st => exact lv_dup2_11 hC.1 hC.2.1 hd rfl (zcat_1 (v := .inr (.inl y)) rfl) (hk _ _ _ _ _ h H locs cells slots lsA hP hM hS hL hc hs)
    · cases h
theorem ok_pop (hd : decode cc pc = .ok (.pop, 1)) : zOk mi own cc nL ret ini pc (oPop (pc + 1)) := by
  refine ⟨fun E b ls st σ => ?_, fun D cy d p l e R s m args below meth c σ0 out Q E hE hC k b ls st σ h hk H locs cells slots lsA hP hM hS hL hc hs => ?_⟩
  · unfold oPop
    split
    · exact Or.inr ⟨_, _, _, _, _, fun _ => rfl⟩
    · exact Or.inr ⟨_, _, _, _, _, fun _ => rfl⟩
    · exact Or.inl ⟨_, fun _ => rfl⟩
  · unfold oPop at h
    split at h
    · exact lv_pop hC.1 hC.2.1 hd rfl (hk _ _ _ _ _ h H locs cells slots lsA hP hM hS hL hc hs)
    · next x st => exact lv_pop hC.1 hC.2.1 hd (zcat_1 (v := .inr (.inl x)) rfl) (hk _ _ _ _ _ h H locs cells slots lsA hP hM hS hL hc hs)
    · cases h
theorem ok_icmp_eq {off : Int} {tgt : Nat} (hd : decode cc pc = .ok (.if_icmp .eq off, 3)) (ht : (pc : Int) + off = (tgt : Int)) : zOk mi own cc nL ret ini pc (oEq tgt (pc + 3)) := by
  refine ⟨fun E b ls st σ => ?_, fun D cy d p l e R s m args below meth c σ0 out Q E hE hC k b ls st σ h hk H locs cells slots lsA hP hM hS hL hc hs => ?_⟩
  · unfold oEq
    split
    · split
      · exact Or.inr ⟨_, _, _, _, _, fun _ => rfl⟩
      · exact Or.inr ⟨_, _, _, _, _, fun _ => rfl⟩
    · exact Or.inl ⟨_, fun _ => rfl⟩
  · unfold oEq at h
    split at h
    · 
      exact lv_icmp_eq hC.1 hC.2.1 hd ht (fun q => by rw [if_pos q] at h; exact (hk _ _ _ _ _ h H locs cells slots lsA hP hM hS hL hc hs)) (fun q => by rw [if_neg q] at h; exact (hk _ _ _ _ _ h H locs cells slots lsA hP hM hS hL hc hs))
    · cases h
theorem ok_if_eq {off : Int} {tgt : Nat} (hd : decode cc pc = .ok (.ifCond .eq off, 3)) (ht : (pc : Int) + off = (tgt : Int)) : zOk mi own cc nL ret ini pc (oEq0 tgt (pc + 3)) := by
  refine ⟨fun E b ls st σ => ?_, fun D cy d p l e R s m args below meth c σ0 out Q E hE hC k b ls st σ h hk H locs cells slots lsA hP hM hS hL hc hs => ?_⟩
  · unfold oEq0
    split
    · split
      · exact Or.inr ⟨_, _, _, _, _, fun _ => rfl⟩
      · exact Or.inr ⟨_, _, _, _, _, fun _ => rfl⟩
    · exact Or.inl ⟨_, fun _ => rfl⟩
  · unfold oEq0 at h
    split at h
    · 
      exact lv_if_eq hC.1 hC.2.1 hd ht (fun q => by rw [if_pos q] at h; exact (hk _ _ _ _ _ h H locs cells slots lsA hP hM hS hL hc hs)) (fun q => by rw [if_neg q] at h; exact (hk _ _ _ _ _ h H locs cells slots lsA hP hM hS hL hc hs))
    · cases h
theorem ok_icmp_ne {off : Int} {tgt : Nat} (hd : decode cc pc = .ok (.if_icmp .ne off, 3)) (ht : (pc : Int) + off = (tgt : Int)) : zOk mi own cc nL ret ini pc (oEq (pc + 3) tgt) := by
  refine ⟨fun E b ls st σ => ?_, fun D cy d p l e R s m args below meth c σ0 out Q E hE hC k b ls st σ h hk H locs cells slots lsA hP hM hS hL hc hs => ?_⟩
  · unfold oEq
    split
    · split
      · exact Or.inr ⟨_, _, _, _, _, fun _ => rfl⟩
      · exact Or.inr ⟨_, _, _, _, _, fun _ => rfl⟩
    · exact Or.inl ⟨_, fun _ => rfl⟩
  · unfold oEq at h
    split at h
    · 
      exact lv_icmp_ne hC.1 hC.2.1 hd ht (fun q => by rw [if_neg (q)] at h; exact (hk _ _ _ _ _ h H locs cells slots lsA hP hM hS hL hc hs)) (fun q => by rw [if_pos (q)] at h; exact (hk _ _ _ _ _ h H locs cells slots lsA hP hM hS hL hc hs))
    · cases h
theorem ok_if_ne {off : Int} {tgt : Nat} (hd : decode cc pc = .ok (.ifCond .ne off, 3)) (ht : (pc : Int) + off = (tgt : Int)) : zOk mi own cc nL ret ini pc (oEq0 (pc + 3) tgt) := by
  refine ⟨fun E b ls st σ => ?_, fun D cy d p l e R s m args below meth c σ0 out Q E hE hC k b ls st σ h hk H locs cells slots lsA hP hM hS hL hc hs => ?_⟩
  · unfold oEq0
    split
    · split
      · exact Or.inr ⟨_, _, _, _, _, fun _ => rfl⟩
      · exact Or.inr ⟨_, _, _, _, _, fun _ => rfl⟩
    · exact Or.inl ⟨_, fun _ => rfl⟩
  · unfold oEq0 at h
    split at h
    · 
      exact lv_if_ne hC.1 hC.2.1 hd ht (fun q => by rw [if_neg (q)] at h; exact (hk _ _ _ _ _ h H locs cells slots lsA hP hM hS hL hc hs)) (fun q => by rw [if_pos (q)] at h; exact (hk _ _ _ _ _ h H locs cells slots lsA hP hM hS hL hc hs))
    · cases h
theorem ok_icmp_lt {off : Int} {tgt : Nat} (hd : decode cc pc = .ok (.if_icmp .lt off, 3)) (ht : (pc : Int) + off = (tgt : Int)) : zOk mi own cc nL ret ini pc (oLt tgt (pc + 3)) := by
  refine ⟨fun E b ls st σ => ?_, fun D cy d p l e R s m args below meth c σ0 out Q E hE hC k b ls st σ h hk H locs cells slots lsA hP hM hS hL hc hs => ?_⟩
  · unfold oLt
    split
    · split
      · exact Or.inr ⟨_, _, _, _, _, fun _ => rfl⟩
      · exact Or.inr ⟨_, _, _, _, _, fun _ => rfl⟩
    · exact Or.inl ⟨_, fun _ => rfl⟩
  · unfold oLt at h
    split at h
    · 
      exact lv_icmp_lt hC.1 hC.2.1 hd ht (fun q => by rw [if_pos q] at h; exact (hk _ _ _ _ _ h H locs cells slots lsA hP hM hS hL hc hs)) (fun q => by rw [if_neg q] at h; exact (hk _ _ _ _ _ h H locs cells slots lsA hP hM hS hL hc hs))
    · cases h
theorem ok_if_lt {off : Int} {tgt : Nat} (hd : decode cc pc = .ok (.ifCond .lt off, 3)) (ht : (pc : Int) + off = (tgt : Int)) : zOk mi own cc nL ret ini pc (oLt0 tgt (pc + 3)) := by
  refine ⟨fun E b ls st σ => ?_, fun D cy d p l e R s m args below meth c σ0 out Q E hE hC k b ls st σ h hk H locs cells slots lsA hP hM hS hL hc hs => ?_⟩
  · unfold oLt0
    split
    · split
      · exact Or.inr ⟨_, _, _, _, _, fun _ => rfl⟩
      · exact Or.inr ⟨_, _, _, _, _, fun _ => rfl⟩
    · exact Or.inl ⟨_, fun _ => rfl⟩
  · unfold oLt0 at h
    split at h
    · 
      exact lv_if_lt hC.1 hC.2.1 hd ht (fun q => by rw [if_pos q] at h; exact (hk _ _ _ _ _ h H locs cells slots lsA hP hM hS hL hc hs)) (fun q => by rw [if_neg q] at h; exact (hk _ _ _ _ _ h H locs cells slots lsA hP hM hS hL hc hs))
    · cases h
theorem ok_icmp_ge {off : Int} {tgt : Nat} (hd : decode cc pc = .ok (.if_icmp .ge off, 3)) (ht : (pc : Int) + off = (tgt : Int)) : zOk mi own cc nL ret ini pc (oLt (pc + 3) tgt) := by
  refine ⟨fun E b ls st σ => ?_, fun D cy d p l e R s m args below meth c σ0 out Q E hE hC k b ls st σ h hk H locs cells slots lsA hP hM hS hL hc hs => ?_⟩
  · unfold oLt
    split
    · split
      · exact Or.inr ⟨_, _, _, _, _, fun _ => rfl⟩
      · exact Or.inr ⟨_, _, _, _, _, fun _ => rfl⟩
    · exact Or.inl ⟨_, fun _ => rfl⟩
  · unfold oLt at h
    split at h
    · 
      exact lv_icmp_ge hC.1 hC.2.1 hd ht (fun q => by rw [if_neg (Int32.not_lt.mpr q)] at h; exact (hk _ _ _ _ _ h H locs cells slots lsA hP hM hS hL hc hs)) (fun q => by rw [if_pos (Int32.not_le.mp q)] at h; exact (hk _ _ _ _ _ h H locs cells slots lsA hP hM hS hL hc hs))
    · cases h
theorem ok_if_ge {off : Int} {tgt : Nat} (hd : decode cc pc = .ok (.ifCond .ge off, 3)) (ht : (pc : Int) + off = (tgt : Int)) : zOk mi own cc nL ret ini pc (oLt0 (pc + 3) tgt) := by
  refine ⟨fun E b ls st σ => ?_, fun D cy d p l e R s m args below meth c σ0 out Q E hE hC k b ls st σ h hk H locs cells slots lsA hP hM hS hL hc hs => ?_⟩
  · unfold oLt0
    split
    · split
      · exact Or.inr ⟨_, _, _, _, _, fun _ => rfl⟩
      · exact Or.inr ⟨_, _, _, _, _, fun _ => rfl⟩
    · exact Or.inl ⟨_, fun _ => rfl⟩
  · unfold oLt0 at h
    split at h
    · 
      exact lv_if_ge hC.1 hC.2.1 hd ht (fun q => by rw [if_neg (Int32.not_lt.mpr q)] at h; exact (hk _ _ _ _ _ h H locs cells slots lsA hP hM hS hL hc hs)) (fun q => by rw [if_pos (Int32.not_le.mp q)] at h; exact (hk _ _ _ _ _ h H locs cells slots lsA hP hM hS hL hc hs))
    · cases h
theorem ok_icmp_le {off : Int} {tgt : Nat} (hd : decode cc pc = .ok (.if_icmp .le off, 3)) (ht : (pc : Int) + off = (tgt : Int)) : zOk mi own cc nL ret ini pc (oLe tgt (pc + 3)) := by
  refine ⟨fun E b ls st σ => ?_, fun D cy d p l e R s m args below meth c σ0 out Q E hE hC k b ls st σ h hk H locs cells slots lsA hP hM hS hL hc hs => ?_⟩
  · unfold oLe
    split
    · split
      · exact Or.inr ⟨_, _, _, _, _, fun _ => rfl⟩
      · exact Or.inr ⟨_, _, _, _, _, fun _ => rfl⟩
    · exact Or.inl ⟨_, fun _ => rfl⟩
  · unfold oLe at h
    split at h
    · 
      exact lv_icmp_le hC.1 hC.2.1 hd ht (fun q => by rw [if_pos q] at h; exact (hk _ _ _ _ _ h H locs cells slots lsA hP hM hS hL hc hs)) (fun q => by rw [if_neg q] at h; exact (hk _ _ _ _ _ h H locs cells slots lsA hP hM hS hL hc hs))
    · cases h
theorem ok_if_le {off : Int} {tgt : Nat} (hd : decode cc pc = .ok (.ifCond .le off, 3)) (ht : (pc : Int) + off = (tgt : Int)) : zOk mi own cc nL ret ini pc (oLe0 tgt (pc + 3)) := by
  refine ⟨fun E b ls st σ => ?_, fun D cy d p l e R s m args below meth c σ0 out Q E hE hC k b ls st σ h hk H locs cells slots lsA hP hM hS hL hc hs => ?_⟩
  · unfold oLe0
    split
    · split
      · exact Or.inr ⟨_, _, _, _, _, fun _ => rfl⟩
      · exact Or.inr ⟨_, _, _, _, _, fun _ => rfl⟩
    · exact Or.inl ⟨_, fun _ => rfl⟩
  · unfold oLe0 at h
    split at h
    · 
      exact lv_if_le hC.1 hC.2.1 hd ht (fun q => by rw [if_pos q] at h; exact (hk _ _ _ _ _ h H locs cells slots lsA hP hM hS hL hc hs)) (fun q => by rw [if_neg q] at h; exact (hk _ _ _ _ _ h H locs cells slots lsA hP hM hS hL hc hs))
    · cases h
theorem ok_icmp_gt {off : Int} {tgt : Nat} (hd : decode cc pc = .ok (.if_icmp .gt off, 3)) (ht : (pc : Int) + off = (tgt : Int)) : zOk mi own cc nL ret ini pc (oLe (pc + 3) tgt) := by
  refine ⟨fun E b ls st σ => ?_, fun D cy d p l e R s m args below meth c σ0 out Q E hE hC k b ls st σ h hk H locs cells slots lsA hP hM hS hL hc hs => ?_⟩
  · unfold oLe
    split
    · split
      · exact Or.inr ⟨_, _, _, _, _, fun _ => rfl⟩
      · exact Or.inr ⟨_, _, _, _, _, fun _ => rfl⟩
    · exact Or.inl ⟨_, fun _ => rfl⟩
  · unfold oLe at h
    split at h
    · 
      exact lv_icmp_gt hC.1 hC.2.1 hd ht (fun q => by rw [if_neg (Int32.not_le.mpr q)] at h; exact (hk _ _ _ _ _ h H locs cells slots lsA hP hM hS hL hc hs)) (fun q => by rw [if_pos (Int32.not_lt.mp q)] at h; exact (hk _ _ _ _ _ h H locs cells slots lsA hP hM hS hL hc hs))
    · cases h
theorem ok_if_gt {off : Int} {tgt : Nat} (hd : decode cc pc = .ok (.ifCond .gt off, 3)) (ht : (pc : Int) + off = (tgt : Int)) : zOk mi own cc nL ret ini pc (oLe0 (pc + 3) tgt) := by
  refine ⟨fun E b ls st σ => ?_, fun D cy d p l e R s m args below meth c σ0 out Q E hE hC k b ls st σ h hk H locs cells slots lsA hP hM hS hL hc hs => ?_⟩
  · unfold oLe0
    split
    · split
      · exact Or.inr ⟨_, _, _, _, _, fun _ => rfl⟩
      · exact Or.inr ⟨_, _, _, _, _, fun _ => rfl⟩
    · exact Or.inl ⟨_, fun _ => rfl⟩
  · unfold oLe0 at h
    split at h
    · 
      exact lv_if_gt hC.1 hC.2.1 hd ht (fun q => by rw [if_neg (Int32.not_le.mpr q)] at h; exact (hk _ _ _ _ _ h H locs cells slots lsA hP hM hS hL hc hs)) (fun q => by rw [if_pos (Int32.not_lt.mp q)] at h; exact (hk _ _ _ _ _ h H locs cells slots lsA hP hM hS hL hc hs))
    · cases h
theorem ok_ifnull {off : Int} {tgt : Nat} (hd : decode cc pc = .ok (.ifnull off, 3)) (ht : (pc : Int) + off = (tgt : Int)) : zOk mi own cc nL ret ini pc (oNul tgt (pc + 3)) := by
  refine ⟨fun E b ls st σ => ?_, fun D cy d p l e R s m args below meth c σ0 out Q E hE hC k b ls st σ h hk H locs cells slots lsA hP hM hS hL hc hs => ?_⟩
  · unfold oNul
    split
    · next x st =>
      cases x with
      | none => exact Or.inr ⟨_, _, _, _, _, fun _ => rfl⟩
      | some x => exact Or.inr ⟨_, _, _, _, _, fun _ => rfl⟩
    · exact Or.inl ⟨_, fun _ => rfl⟩
  · unfold oNul at h
    split at h
    · next x st =>
      cases x with
      | none => exact lv_ifnullN hC.1 hC.2.1 hd ht (hk _ _ _ _ _ h H locs cells slots lsA hP hM hS hL hc hs)
      | some x => exact lv_ifnull hC.1 hC.2.1 hd (hk _ _ _ _ _ h H locs cells slots lsA hP hM hS hL hc hs)
    · cases h
theorem ok_ifnonnull {off : Int} {tgt : Nat} (hd : decode cc pc = .ok (.ifnonnull off, 3)) (ht : (pc : Int) + off = (tgt : Int)) : zOk mi own cc nL ret ini pc (oNul (pc + 3) tgt) := by
  refine ⟨fun E b ls st σ => ?_, fun D cy d p l e R s m args below meth c σ0 out Q E hE hC k b ls st σ h hk H locs cells slots lsA hP hM hS hL hc hs => ?_⟩
  · unfold oNul
    split
    · next x st =>
      cases x with
      | none => exact Or.inr ⟨_, _, _, _, _, fun _ => rfl⟩
      | some x => exact Or.inr ⟨_, _, _, _, _, fun _ => rfl⟩
    · exact Or.inl ⟨_, fun _ => rfl⟩
  · unfold oNul at h
    split at h
    · next x st =>
      cases x with
      | none => exact lv_ifnonnullN hC.1 hC.2.1 hd (hk _ _ _ _ _ h H locs cells slots lsA hP hM hS hL hc hs)
      | some x => exact lv_ifnonnull hC.1 hC.2.1 hd ht (hk _ _ _ _ _ h H locs cells slots lsA hP hM hS hL hc hs)
    · cases h
theorem ok_goto {off : Int} {tgt : Nat} (hd : decode cc pc = .ok (.goto off, 3)) (ht : (pc : Int) + off = (tgt : Int)) : zOk mi own cc nL ret ini pc (oGo tgt) :=
  ⟨fun E b ls st σ => Or.inr ⟨_, _, _, _, _, fun k => rfl⟩, fun D cy d p l e R s m args below meth c σ0 out Q E hE hC k b ls st σ h hk H locs cells slots lsA hP hM hS hL hc hs => 
    lv_goto hC.1 hC.2.1 hd ht (hk _ _ _ _ _ h H locs cells slots lsA hP hM hS hL hc hs)⟩
end OPS
