/-! A RUN IS THE MACHINE'S; the limit of runs; unrolling. -/
def zls0 (as : List zV) (nL : Nat) : List zV := as ++ List.replicate (nL - as.length) (.inr (.inr none))
def zargs (as : List zV) (nL : Nat) : Bool := as.all (fun v => Nat.beq (zcat v) 1) && Nat.ble as.length nL
theorem zcat_val {as : List zV} {nL : Nat} (h : zargs as nL = true) : (∀ v ∈ as, zcat v = 1) ∧ as.length ≤ nL := by
  unfold zargs at h
  rw [Bool.and_eq_true] at h
  refine ⟨fun v hv => Nat.eq_of_beq_eq_true (List.all_eq_true.mp h.1 v hv), Nat.le_of_ble_eq_true h.2⟩
theorem zlg_sl : ∀ (as : List zV), (∀ v ∈ as, zcat v = 1) → lg_sl (as.map zTo) = (as.map zTo).map Slot.val := by
  intro as
  induction as with
  | nil => intro _; rfl
  | cons v as ih =>
    intro h
    have h1 := zcat_1 (h v List.mem_cons_self)
    have h2 := ih (fun w hw => h w (List.mem_cons_of_mem _ hw))
    unfold lg_sl at h2 ⊢
    simp only [List.map_cons, List.flatMap_cons]
    rw [h2]
    simp [h1]
theorem zls_entry {as : List zV} {nL : Nat} (h : zargs as nL = true) : zLs ((lg_sl (as.map zTo) ++ List.replicate (nL - (lg_sl (as.map zTo)).length) Slot.unset).toArray) nL (zls0 as nL) := by
  obtain ⟨h1, h2⟩ := zcat_val h
  have e := zlg_sl as h1
  have hl : (lg_sl (as.map zTo)).length = as.length := by rw [e]; simp
  have he := lv_entry (as.map zTo) (n := nL) (by rw [hl]; exact h2)
  have key : ∀ (i : Nat) (v : zV), (zls0 as nL)[i]? = some v → (i < as.length ∧ as[i]? = some v) ∨ v = .inr (.inr none) := by
    intro i v hi
    unfold zls0 at hi
    by_cases hil : i < as.length
    · rw [List.getElem?_append_left hil] at hi
      exact Or.inl ⟨hil, hi⟩
    · rw [List.getElem?_append_right (by omega)] at hi
      have := List.mem_of_getElem? hi
      rw [List.mem_replicate] at this
      exact Or.inr this.2
  refine ⟨he.1, he.2.1, by unfold zls0; simp; omega, fun i v hi hc => ?_, fun i w hi hn => ?_⟩
  · rcases key i v hi with ⟨hil, hi⟩ | rfl
    · rw [e]
      simp only [List.getElem?_toArray]
      rw [List.getElem?_append_left (by simp; exact hil)]
      simp [hi]
    · cases hc
  · rcases key i _ hi with ⟨hil, hi⟩ | h0
    · have := h1 _ (List.mem_of_getElem? hi)
      cases this
    · cases h0
/-- a contract out of a walk of the body, the method (not its class) plainly named -/
theorem zMet_ofW {l : Launch} {y : MethodName} {ws ws' : List Cond} {rm : Room} {Pc : Array Value → State → Prop} {Qc : Array Value → State → Outcome → State → Prop} {mc ms : Nat} {free : Addr → Prop} {cc : ByteArray} {maxL : Nat} {ret : Option FieldType}
    (hy : plainFor y = true) (hw : ws = Cond.code y cc maxL ret :: ws')
    (body : ∀ p e s m args below meth c s₁, BodyLoose p l y (headSpec ws rm) cc maxL ret e s m args below meth c s₁ → c.maxLocals = maxL → Pc args s →
      W p l e (headSpec ws rm).room s m args below meth c s.heap [] 0 0 (MQ below Qc args s mc ms free) (entryFrame m args maxL)) : Met l y ws rm Pc Qc mc ms free := by
  refine MetFree.of_bodySF (code := cc) (maxLocals := maxL) (ret := ret) hy (fun args s m h hn => ?_) (fun p e s m args below meth c s₁ B hml hP _ => ?_)
  · obtain ⟨meth, c, h1, h2, h3, h4, h5, h6, -, -⟩ := Cond.code_spec hn (atoms_spec (ws := ws) h _ (by rw [hw]; exact List.mem_cons_self))
    exact ⟨meth, c, h1, h2, h3, h4, h5, h6⟩
  · obtain ⟨t, a1, o, b1, b2, b3⟩ := body p e s m args below meth c s₁ B hml hP s₁ (by rw [B.state]; rfl) (Stand.of_body B)
    exact ⟨t, o, a1, b1, b2, ⟨b3.1, b3.2⟩⟩
section RUN
variable {mi : Nat → MethodName × ByteArray × Nat × Option FieldType × Nat × Nat} {own : String} {cc : ByteArray} {nL : Nat} {ret : Option FieldType} {ini : Bool}
theorem zrun_go {tab : Nat → zOp} (hok : ∀ pc, zOk mi own cc nL ret ini pc (tab pc)) {D : va_G} {cy : Nat → ClassId} {d : Nat} {p : Program} {l : Launch} {e : Env} {R : Room} {s : State} {m : MethodId} {args : Array Value} {below : List Frame} {meth : Method} {c : Code} {σ0 : zS} {out : Option zV × zS} {Q : State → Prop} {E : zE}
    (hE : zES mi D cy l d E) (hC : zCtx D cy d p l e R s m args below meth c own cc nL ret ini σ0 out Q) : ∀ (n pc : Nat) (b : Nat × Nat) (ls st : List zV) (σ : zS), zrun tab E n pc b ls st σ = some out → zGo D cy p l e R s m args below meth c nL σ0 Q pc b ls st σ := by
  intro n
  induction n with
  | zero => intro pc b ls st σ h; cases h
  | succ n ih =>
    intro pc b ls st σ h
    exact (hok pc).2 D cy d p l e R s m args below meth c σ0 out Q E hE hC (zrun tab E n) b ls st σ h ih
theorem zrun_met {yn : MethodName} {tab : Nat → zOp} (hok : ∀ pc, zOk mi own cc nL ret ini pc (tab pc)) (hown : own = yn.cls) (hpl : plainFor yn = true) (hini : ini = true → yn.name = "<init>") {D : va_G} {cy : Nat → ClassId} {l : Launch} {d : Nat} {E : zE} (hE : zES mi D cy l d E) {mc ms n : Nat} {as : List zV} {σ : zS} {out : Option zV × zS} (ha : zargs as nL = true) (h : zrun tab E n 0 (mc, ms) (zls0 as nL) [] σ = some out) :
    Met l yn [Cond.code yn cc nL ret] ({ frames := d + 1, cells := mc, slots := ms, locals := 40 * (d + 1) }) (zPc D cy as σ) (zQc D cy σ out) mc ms (zA σ) := by
  refine zMet_ofW (cc := cc) (maxL := nL) (ret := ret) hpl rfl ?_
  intro p e s m args below meth c s₁ B hml hv
  obtain ⟨rfl, hT, hK, hX, hP⟩ := hv
  have hl : zLs _ nL (zls0 as nL) := zls_entry ha
  rw [lg_entry_eq]
  have hC : zCtx D cy d p l e (headSpec [Cond.code yn cc nL ret] ({ frames := d + 1, cells := mc, slots := ms, locals := 40 * (d + 1) } : Room)).room s m (as.map zTo).toArray below meth c own cc nL ret ini σ out (MQ below (zQc D cy σ out) (as.map zTo).toArray s mc ms (zA σ)) := by
    refine ⟨B.exec, B.bytes, hml, by rw [hown]; exact findClass_of_methodNamed B.named, hT, hK, hX, hP.1, ⟨Nat.le_refl _, by show 40 * d + 40 ≤ 40 * (d + 1); omega⟩, fun hi => (name_of_methodNamed B.named B.method).1.trans (hini hi), ?_⟩
    intro pc lsA H locs cells slots hP2 hM2 hS2 hc hs
    have hr := B.returns
    have hx := B.exec
    have hb := B.bytes
    have hlk := B.notSynchronized
    have hq : ∀ (v : Option zV), out.1 = v → ∀ t : State, t.heap = H → s.WarmedH t.vm → zQc D cy σ out (as.map zTo).toArray s (.returned (v.map zTo)) t := fun v hv t ht _ => ⟨by rw [hv], by rw [ht]; exact hP2, hM2, hS2.F ht⟩
    refine ⟨fun hd x ho hty => ?_, fun hd o ho hty => ?_, fun hd ho hrn => ?_, fun hd w ho hrl => ?_⟩
    · obtain ⟨ty, hrt, hn⟩ := hty
      refine W.widen (k := mc) (n := ms) hc hs ?_
      exact W.zret hx hb (by rw [hr, hrt]) hn (fun t ht hw => hq _ ho t ht hw) hS2.2.2 hd hlk
    · obtain ⟨rt, hrt, hro⟩ := hty
      refine W.widen (k := mc) (n := ms) hc hs ?_
      exact W.aret hx hb (by rw [hr, hrt]) hro (va_rf_or o) (fun t ht hw => hq _ ho t ht hw) hS2.2.2 hd hlk
    · refine W.widen (k := mc) (n := ms) hc hs ?_
      exact W.vret hx hb (by rw [hr, hrn]) (fun t ht hw => hq _ ho t ht hw) hS2.2.2 hd hlk
    · refine W.widen (k := mc) (n := ms) hc hs ?_
      exact W.lret hx hb (by rw [hr, hrl]) (fun t ht hw => hq _ ho t ht hw) hS2.2.2 hd hlk
  exact zrun_go hok hE hC n 0 (mc, ms) (zls0 as nL) [] σ h s.heap [] 0 0 _ hP (zSm.rf σ) va_S.rf hl (by show 0 + mc ≤ mc; omega) (by show 0 + ms ≤ ms; omega)
end RUN
section TREE
variable {mi : Nat → MethodName × ByteArray × Nat × Option FieldType × Nat × Nat} {own : String} {cc : ByteArray} {nL : Nat} {ret : Option FieldType} {ini : Bool}
theorem ok_nd (n : Nat) {f g : Nat → zOp} (hf : ∀ pc, zOk mi own cc nL ret ini pc (f pc)) (hg : ∀ pc, zOk mi own cc nL ret ini pc (g pc)) : ∀ pc, zOk mi own cc nL ret ini pc (nd n f g pc) := by
  intro pc
  unfold nd
  cases Nat.blt pc n
  · exact hg pc
  · exact hf pc
theorem ok_lf (n : Nat) {op : zOp} (h : zOk mi own cc nL ret ini n op) : ∀ pc, zOk mi own cc nL ret ini pc (lf n op pc) := by
  intro pc
  unfold lf
  cases hb : Nat.beq pc n
  · exact ok_stk
  · have := Nat.eq_of_beq_eq_true hb
    subst this
    exact h
end TREE
noncomputable def zlim (f : Nat → zO) : zO := match Classical.propDecidable (∃ n, (f n).isSome = true) with
  | .isTrue h => f (Classical.choose h)
  | .isFalse _ => none
theorem zlim_some {f : Nat → zO} {o : Option zV × zS} (h : zlim f = some o) : ∃ n, f n = some o := by
  unfold zlim at h
  split at h
  · exact ⟨_, h⟩
  · cases h
theorem zlim_is {f : Nat → zO} {o : Option zV × zS} {n : Nat} (h : f n = some o) (hu : ∀ m o', f m = some o' → o' = o) : zlim f = some o := by
  unfold zlim
  split
  · next hx _ =>
    have h1 := Classical.choose_spec hx
    obtain ⟨o', ho'⟩ := Option.isSome_iff_exists.mp h1
    rw [ho', hu _ _ ho']
  · next hx _ => exact absurd ⟨n, by rw [h]; rfl⟩ hx
theorem zlim_none {f : Nat → zO} (h : ∀ n, f n = none) : zlim f = none := by
  unfold zlim
  split
  · exact h _
  · rfl
noncomputable def zF (tab : Nat → zOp) (E : zE) : zK := fun pc b ls st σ => zlim fun n => zrun tab E n pc b ls st σ
theorem zrun_mono {tab : Nat → zOp} (hl : ∀ pc, zLin (tab pc)) {E : zE} {o : Option zV × zS} : ∀ (n pc : Nat) (b : Nat × Nat) (ls st : List zV) (σ : zS), zrun tab E n pc b ls st σ = some o → zrun tab E (n + 1) pc b ls st σ = some o := by
  intro n
  induction n with
  | zero => intro pc b ls st σ h; cases h
  | succ n ih =>
    intro pc b ls st σ h
    rcases hl pc E b ls st σ with ⟨c, hc⟩ | ⟨pc', b', ls', st', σ', hc⟩
    · have h1 : tab pc E (zrun tab E n) b ls st σ = some o := h
      show tab pc E (zrun tab E (n + 1)) b ls st σ = some o
      rw [hc] at h1 ⊢
      exact h1
    · have h1 : tab pc E (zrun tab E n) b ls st σ = some o := h
      show tab pc E (zrun tab E (n + 1)) b ls st σ = some o
      rw [hc] at h1 ⊢
      exact ih _ _ _ _ _ h1
theorem zrun_le {tab : Nat → zOp} (hl : ∀ pc, zLin (tab pc)) {E : zE} {o : Option zV × zS} {n m pc : Nat} {b : Nat × Nat} {ls st : List zV} {σ : zS} (h : zrun tab E n pc b ls st σ = some o) (hm : n ≤ m) : zrun tab E m pc b ls st σ = some o := by
  induction hm with
  | refl => exact h
  | step _ ih => exact zrun_mono hl _ _ _ _ _ _ ih
theorem zrun_det {tab : Nat → zOp} (hl : ∀ pc, zLin (tab pc)) {E : zE} {o o' : Option zV × zS} {n m pc : Nat} {b : Nat × Nat} {ls st : List zV} {σ : zS} (h : zrun tab E n pc b ls st σ = some o) (h' : zrun tab E m pc b ls st σ = some o') : o' = o := by
  have a := zrun_le hl h (Nat.le_max_left n m)
  have b := zrun_le hl h' (Nat.le_max_right n m)
  exact Option.some.inj (b.symm.trans a)
theorem zF_iff {tab : Nat → zOp} (hl : ∀ pc, zLin (tab pc)) {E : zE} {o : Option zV × zS} {pc : Nat} {b : Nat × Nat} {ls st : List zV} {σ : zS} : zF tab E pc b ls st σ = some o ↔ ∃ n, zrun tab E n pc b ls st σ = some o :=
  ⟨fun h => zlim_some h, fun ⟨n, h⟩ => zlim_is h fun _ _ h' => zrun_det hl h h'⟩
theorem zF_step {tab : Nat → zOp} (hl : ∀ pc, zLin (tab pc)) (E : zE) (pc : Nat) (b : Nat × Nat) (ls st : List zV) (σ : zS) : zF tab E pc b ls st σ = tab pc E (zF tab E) b ls st σ := by
  apply Option.ext
  intro o
  rw [zF_iff hl]
  rcases hl pc E b ls st σ with ⟨c, hc⟩ | ⟨pc', b', ls', st', σ', hc⟩
  · rw [hc]
    constructor
    · rintro ⟨n, h⟩
      cases n with
      | zero => cases h
      | succ n => exact (hc _).symm.trans h
    · intro h
      exact ⟨1, (hc _).trans h⟩
  · rw [hc]
    constructor
    · rintro ⟨n, h⟩
      cases n with
      | zero => cases h
      | succ n => exact (zF_iff hl).mpr ⟨n, (hc _).symm.trans h⟩
    · intro h
      obtain ⟨n, hn⟩ := (zF_iff hl).mp h
      exact ⟨n + 1, (hc _).trans hn⟩
/-- unrolling, up to the places of cut -/
def zun (tab : Nat → zOp) (E : zE) (k : zK) (cut : Nat → Bool) : Nat → zK
  | 0 => k
  | n + 1 => fun pc b ls st σ => tab pc E (fun pc' b' ls' st' σ' => match cut pc' with
    | true => k pc' b' ls' st' σ'
    | false => zun tab E k cut n pc' b' ls' st' σ') b ls st σ
theorem zun_eq {tab : Nat → zOp} (hl : ∀ pc, zLin (tab pc)) (E : zE) (cut : Nat → Bool) : ∀ n, zun tab E (zF tab E) cut n = zF tab E := by
  intro n
  induction n with
  | zero => rfl
  | succ n ih =>
    funext pc b ls st σ
    rw [zF_step hl]
    show tab pc E _ b ls st σ = _
    congr 1
    funext pc' b' ls' st' σ'
    rw [ih]
    cases cut pc' <;> rfl
/-- a method: its text's steps, its room, its locals -/
noncomputable def zM (tab : Nat → zOp) (nL : Nat) (q : Nat × Nat) (E : zE) (as : List zV) (σ : zS) : zO := match zargs as nL with
  | true => zF tab E 0 q (zls0 as nL) [] σ
  | false => none
theorem zun_at {tab : Nat → zOp} (hl : ∀ pc, zLin (tab pc)) (E : zE) (cut : Nat → Bool) (n pc : Nat) (b : Nat × Nat) (ls st : List zV) (σ : zS) : zF tab E pc b ls st σ = zun tab E (zF tab E) cut n pc b ls st σ := by rw [zun_eq hl]
