/-! the steps on fields, rows, new cells -/
def zCl (c : Nat) (C : String) (T : u_T) (N : Nat) (ty : Nat → FieldType) : Prop :=
  vwCl[c]? = some (C, T, N) ∧ (∀ w ∈ u_ws C T N, w ∈ lw_tbl) ∧ (∀ k, k < N → parseFieldDescriptor (T k).2.2.1 = some (ty k)) ∧ (∀ a, a < N → ∀ b, b < N → a ≠ b → (T a).2.1 ≠ (T b).2.1) ∧ (ztg c).length = N ∧ c < 10
theorem zCl.words {c N : Nat} {C : String} {T : u_T} {ty : Nat → FieldType} (h : zCl c C T N ty) {s : State} (hT : zTb s) (A : Array Value) : ∀ w ∈ u_ws C T N, w.before A s = true := by
  intro w hw
  refine hT w (h.2.1 w hw) ?_ A
  obtain ⟨k, -, rfl⟩ := List.mem_map.mp hw
  unfold u_lay
  split <;> rfl
theorem zent_o {cy : Nat → ClassId} {σ : zS} {a c : Nat} (h : zkd σ a = c) (hc : c < 10) : zent cy σ a = .inr (c, zfl σ a c) := by
  unfold zent
  rw [h, if_pos hc]
theorem zent_i {cy : Nat → ClassId} {σ : zS} {a c : Nat} (h : zkd σ a = c) (h1 : 10 ≤ c) (h2 : c < 13) : zent cy σ a = .inl (cy c, zln σ a, .inl (zai σ a)) := by
  unfold zent
  rw [h, if_neg (Nat.not_lt.mpr h1), if_pos h2]
theorem zent_q {cy : Nat → ClassId} {σ : zS} {a c : Nat} (h : zkd σ a = c) (h1 : 13 ≤ c) : zent cy σ a = .inl (cy c, zln σ a, .inr (.inr (.inr (.inr (zar σ a))))) := by
  unfold zent
  rw [h, if_neg (by omega), if_neg (by omega)]
theorem zPool.get {D : va_G} {cy : Nat → ClassId} {σ : zS} {H : Heap} (h : zPool D cy σ H) {a : Nat} (ha : zkd σ a < 16) : ∃ q0 : Nat, (va_pl (zdm σ) (zent cy σ))[q0]? = some (a, zent cy σ a) :=
  va_pl_get (X := []) (h.2.2.2.1 a ha)
theorem zPool.D0 {D : va_G} {cy : Nat → ClassId} {σ σ0 : zS} {H : Heap} (h : zPool D cy σ H) (hM : zSm σ0 σ) : va_D (zA σ0) (va_pl (zdm σ) (zent cy σ)) := by
  refine ⟨h.2.2.1.1, fun k q hq => ?_⟩
  obtain ⟨a, ha, rfl⟩ := List.mem_map.mp (List.mem_of_getElem? hq)
  exact zA.mono hM (Or.inl (h.2.2.2.2 a ha))
/-- one cell has changed, not its kind -/
theorem zPool.put {D : va_G} {cy : Nat → ClassId} {σ τ : zS} {H H1 : Heap} (h : zPool D cy σ H) {a q0 : Nat} {e : va_E} (ha : zkd σ a < 16) (hq : (va_pl (zdm σ) (zent cy σ))[q0]? = some (a, zent cy σ a)) (hz : H1.size = H.size)
    (hP : va_P D vwCl ((va_pl (zdm σ) (zent cy σ)).set q0 (a, e)) H1) (hd : zdm τ = zdm σ) (hk : ∀ b, zkd τ b = zkd σ b) (hn : znx τ = znx σ) (he : ∀ b, zent cy τ b = va_up (zent cy σ) a e b) : zPool D cy τ H1 := by
  have e1 : (va_pl (zdm σ) (zent cy σ)).set q0 (a, e) = va_pl (zdm τ) (zent cy τ) := by
    rw [hd, show zent cy τ = va_up (zent cy σ) a e from funext he]
    exact va_pl_set (X := []) h.2.2.1 (h.2.2.2.1 a ha) hq
  refine ⟨by rw [hz, hn]; exact h.1, by rw [← e1]; exact hP, by rw [← e1]; exact h.2.2.1.set hq, fun b hb => ?_, fun b hb => ?_⟩
  · rw [hd]
    exact h.2.2.2.1 b (by rw [← hk b]; exact hb)
  · rw [hk b]
    exact h.2.2.2.2 b (by rw [← hd]; exact hb)
theorem zfl_get {σ : zS} {a c k t : Nat} (ht : (ztg c)[k]? = some t) : (zfl σ a c)[k]? = some (zfv σ t (64 * c + k) a) := by
  unfold zfl
  rw [List.getElem?_mapIdx, ht]
  rfl
theorem zfl_len {σ : zS} {a c : Nat} : (zfl σ a c).length = (ztg c).length := by unfold zfl; rw [List.length_mapIdx]
/-- a field store, seen from the cells: tags t at k, the rest of the fields and of the cells as before -/
theorem zent_up {cy : Nat → ClassId} {σ τ : zS} {a c k t : Nat} {v : Value} (hka : zkd σ a = c) (hc : c < 10) (ht : (ztg c)[k]? = some t) (hk : zkd τ = zkd σ) (hl : zln τ = zln σ) (hai : zai τ = zai σ) (har : zar τ = zar σ)
    (hv : zfv τ t (64 * c + k) a = v) (ho : ∀ (t' f b : Nat), ¬ (t' = t ∧ f = 64 * c + k ∧ b = a) → t' < 3 → zfv τ t' f b = zfv σ t' f b) (hr : ∀ c', c' < 10 → ∀ t' ∈ ztg c', t' < 3) : ∀ b, zent cy τ b = va_up (zent cy σ) a (.inr (c, (zfl σ a c).set k v)) b := by
  intro b
  have hkl : k < (ztg c).length := (List.getElem?_eq_some_iff.mp ht).1
  by_cases hb : b = a
  · subst hb
    rw [va_up_self, zent_o (c := c) (by rw [hk]; exact hka) hc]
    congr 2
    apply List.ext_getElem?
    intro j
    by_cases hj : j = k
    · subst hj
      rw [zfl_get ht, List.getElem?_set_self (by rw [zfl_len]; exact hkl), hv]
    · rw [List.getElem?_set_ne (Ne.symm hj)]
      cases hjt : (ztg c)[j]? with
      | none =>
        have : (ztg c).length ≤ j := List.getElem?_eq_none_iff.mp hjt
        rw [List.getElem?_eq_none_iff.mpr (by rw [zfl_len]; exact this), List.getElem?_eq_none_iff.mpr (by rw [zfl_len]; exact this)]
      | some t' =>
        rw [zfl_get hjt, zfl_get hjt, ho t' _ _ (fun q => hj (by omega)) (hr c hc t' (List.mem_of_getElem? hjt))]
  · rw [va_up_ne _ _ hb]
    unfold zent
    rw [hk, hl, hai, har]
    by_cases hkb : zkd σ b < 10
    · rw [if_pos hkb, if_pos hkb]
      congr 2
      unfold zfl
      apply List.ext_getElem?
      intro j
      rw [List.getElem?_mapIdx, List.getElem?_mapIdx]
      cases hjt : (ztg (zkd σ b))[j]? with
      | none => rfl
      | some t' => exact congrArg some (ho t' _ _ (fun q => hb q.2.2) (hr _ hkb t' (List.mem_of_getElem? hjt)))
    · rw [if_neg hkb, if_neg hkb]
theorem ztg_3 : ∀ c', c' < 10 → ∀ t' ∈ ztg c', t' < 3 := by decide +kernel
theorem zfv_si {σ : zS} {f a : Nat} {x : Int32} : ∀ (t' f' b : Nat), ¬ (t' = 0 ∧ f' = f ∧ b = a) → t' < 3 → zfv (zsi σ f a x) t' f' b = zfv σ t' f' b := by
  intro t' f' b h h3
  match t', h3 with
  | 0, _ => simp only [zfv, zi, zsi, zu2]; rw [if_neg (fun q => h ⟨rfl, q⟩)]
  | 1, _ => rfl
  | 2, _ => rfl
theorem zfv_sr {σ : zS} {f a : Nat} {x : Option Nat} : ∀ (t' f' b : Nat), ¬ (t' = 1 ∧ f' = f ∧ b = a) → t' < 3 → zfv (zsr σ f a x) t' f' b = zfv σ t' f' b := by
  intro t' f' b h h3
  match t', h3 with
  | 0, _ => rfl
  | 1, _ => simp only [zfv, zr, zsr, zu2]; rw [if_neg (fun q => h ⟨rfl, q⟩)]
  | 2, _ => rfl
theorem zfv_sl {σ : zS} {f a : Nat} {x : Int64} : ∀ (t' f' b : Nat), ¬ (t' = 2 ∧ f' = f ∧ b = a) → t' < 3 → zfv (zsl σ f a x) t' f' b = zfv σ t' f' b := by
  intro t' f' b h h3
  match t', h3 with
  | 0, _ => rfl
  | 1, _ => rfl
  | 2, _ => simp only [zfv, zl, zsl, zu2]; rw [if_neg (fun q => h ⟨rfl, q⟩)]
theorem zSm_si {σ0 σ : zS} (h : zSm σ0 σ) (f a : Nat) (x : Int32) : zSm σ0 (zsi σ f a x) := h
theorem zSm_sl {σ0 σ : zS} (h : zSm σ0 σ) (f a : Nat) (x : Int64) : zSm σ0 (zsl σ f a x) := h
theorem zSm_sr {σ0 σ : zS} (h : zSm σ0 σ) {f : Nat} (hf : f < 640) (a : Nat) (x : Option Nat) : zSm σ0 (zsr σ f a x) := by
  refine ⟨h.1, h.2.1, fun g hg j => ?_, h.2.2.2⟩
  show zu2 σ.2.1 f a x g j = _
  unfold zu2
  rw [if_neg (fun q => by omega)]
  exact h.2.2.1 g hg j
theorem zSm_sa {σ0 σ : zS} (h : zSm σ0 σ) {a : Nat} (ha : zkd σ a < 16) (i : Nat) (x : Int32) : zSm σ0 (zsa σ a i x) := by
  refine ⟨h.1, h.2.1, h.2.2.1, fun q hq => ?_⟩
  obtain ⟨h1, h2, h3⟩ := h.2.2.2 q hq
  refine ⟨h1, h2, fun j => ?_⟩
  show zu2 σ.2.2.2.1 a i x q j = _
  unfold zu2
  rw [if_neg]
  · exact h3 j
  · rintro ⟨rfl, -⟩
    exact absurd ha (Nat.not_lt.mpr hq)
theorem zSm_sq {σ0 σ : zS} (h : zSm σ0 σ) (a i : Nat) (x : Option Nat) : zSm σ0 (zsq σ a i x) := h
section HEAP
variable {mi : Nat → MethodName × ByteArray × Nat × Option FieldType × Nat × Nat} {own : String} {cc : ByteArray} {nL : Nat} {ret : Option FieldType} {ini : Bool} {pc : Nat}
theorem lin_chk {op : zK → zO} {c : Prop} [Decidable c] {pc' : Nat} {b' : Nat × Nat} {ls' st' : List zV} {σ' : zS} (h : ∀ k, op k = chk c (k pc' b' ls' st' σ')) : (∃ c, ∀ k, op k = c) ∨ ∃ pc b' ls' st' σ', ∀ k, op k = k pc b' ls' st' σ' := by
  by_cases hc : c
  · exact Or.inr ⟨_, _, _, _, _, fun k => by rw [h k]; exact if_pos hc⟩
  · exact Or.inl ⟨none, fun k => by rw [h k]; exact if_neg hc⟩
theorem lin_onR {op : zK → zO} {o : Option Nat} {g : zK → Nat → zO} (h : ∀ k, op k = onR o (g k)) (hg : ∀ a, (∃ c, ∀ k, g k a = c) ∨ ∃ pc b' ls' st' σ', ∀ k, g k a = k pc b' ls' st' σ') : (∃ c, ∀ k, op k = c) ∨ ∃ pc b' ls' st' σ', ∀ k, op k = k pc b' ls' st' σ' := by
  cases o with
  | none => exact Or.inl ⟨none, fun k => by rw [h k]; rfl⟩
  | some a =>
    rcases hg a with ⟨c, hc⟩ | ⟨pc, b', ls', st', σ', hc⟩
    · exact Or.inl ⟨c, fun k => by rw [h k]; exact hc k⟩
    · exact Or.inr ⟨pc, b', ls', st', σ', fun k => by rw [h k]; exact hc k⟩
variable {p : Program} {l : Launch} {e : Env} {R : Room} {s : State} {m : MethodId} {args : Array Value} {below : List Frame} {meth : Method} {c : Code} {H : Heap} {locs : List Loc} {cells slots : Nat} {Q : State → Prop}
variable {ls : Array Slot} {rest : List Value} {D : va_G} {A : Nat → Prop} {a : Nat} {tys : List (ClassId × FieldType)} {ws : va_W} {H0 : Heap}
/-- an object's field is written, whatever road the link took -/
theorem x_put (hexec : p.tables.exec = Jvm.exec) (hb : c.code = cc) {C : String} {T : u_T} {N ci index : Nat} {ty : Nat → FieldType} (hCl : zCl ci C T N ty) (hT : zTb s) (hown : s.vm.findClass own = some m.cls) (hK : va_K D vwCl tys s) (hP : va_P D vwCl ws H) (hD : va_D A ws) (hS0 : va_S A H0 H locs) (q0 : Nat) {fs : List Value} (he : ws[q0]? = some (a, .inr (ci, fs))) (k : Nat) (hk : k < N) {v : Value} (hn : narrow (ty k) v = v) (hfit : fits (ty k) v = true) (hl : k < fs.length)
    (hlink : (Cond.fieldLink own index C (T k).2.1 (T k).2.2.1 ∈ lw_tbl ∧ (T k).2.2.2 = false ∧ (T k).1 = C) ∨ (∃ host, Cond.fieldLinkNest own index C (T k).2.1 (T k).2.2.1 host ∈ lw_tbl ∧ (T k).2.2.2 = false ∧ (T k).1 = C) ∨ (Cond.fieldLink own index C (T k).2.1 (T k).2.2.1 ∈ lw_tbl ∧ (T k).2.2.2 = true ∧ (T k).1 = C ∧ C = own ∧ meth.name = "<init>"))
    (hdg : decode cc pc = .ok (.putfield index, 3)) (kk : ∀ (H1 : Heap) (locs1 : List Loc), H1.size = H.size → va_P D vwCl (ws.set q0 (a, .inr (ci, fs.set k v))) H1 → va_S A H0 H1 locs1 → W p l e R s m args below meth c H1 locs1 cells slots Q (F0 m (pc + 3) ls rest)) : W p l e R s m args below meth c H locs cells slots Q (F0 m pc ls (v :: .ref a :: rest)) := by
  have hts := hCl.words hT args
  have hin : ∀ w ∈ u_ws C T N, w ∈ u_ws C T N := fun _ h => h
  have hc := hCl.1
  have hty := hCl.2.2.1
  have hap := va_apart (own := own) hts hin ty hty hCl.2.2.2.1 hK hc
  obtain ⟨r, h1, cell, q1, q2, q3, q4⟩ := hP q0 _ he
  have hr : r = (C, T, N) := Option.some.inj (h1.symm.trans hc)
  subst hr
  obtain ⟨hS, hfc, kC, hkC, hkind⟩ := hK.1 ci _ hc
  obtain ⟨cf, kf, fi, f, hi, hsl⟩ := hS k hk
  have hlay := hts _ (hin _ (u_in_lay hk))
  unfold u_lay at hlay
  have hst := (u_facts hfc hkC (u_lays hts hin hk) hi).1
  have fin : ∀ (H' : Heap) (L : List Loc), H'[a]? = some (cell.setSlot (D.2 ci k) v) → H'.size = H.size → (∀ q, q ≠ a → H'[q]? = H[q]?) → va_S A H0 H' L → W p l e R s m args below meth c H' L cells slots Q (F0 m (pc + 3) ls rest) := fun H' L e1 e2 e3 hL =>
    kk H' L e2 (hP.set hD he ⟨_, hc, t_OB.to (V := updV (vp_V fs) k v) ⟨_, e1, q2, q3, t_set q4 hap hk v⟩ (fun j _ => vp_updV_set hl v j)⟩ e3) hL
  rcases hlink with ⟨hw, hfin, hTC⟩ | ⟨host, hw, hfin, hTC⟩ | ⟨hw, hfin, hTC, hCo, hnm⟩
  · rw [if_neg (by rw [hfin]; decide)] at hlay
    have h6 := u_store hfc hkC hkind hlay hi (hty k hk) hn hfit
    rw [hTC] at hi
    refine W.putK hexec hb (f := f) ⟨hown, hT _ hw rfl _, ⟨_, _, _, hi⟩, hst⟩ (by rw [q2]; exact h6) q1 q3 (by rw [hsl]; exact k2_hasslot (q4 k hk)) rfl rfl hdg fun H' e1 e2 e3 => ?_
    rw [hsl] at e1 ⊢
    exact fin H' _ e1 e2 e3 (hS0.put e2 e3 (hD.2 q0 _ he))
  · rw [if_neg (by rw [hfin]; decide)] at hlay
    have h6 := u_store hfc hkC hkind hlay hi (hty k hk) hn hfit
    rw [hTC] at hi
    refine va_WputK hexec hb (f := f) hown (hT _ hw rfl _) hi hst (by rw [q2]; exact h6) q1 q3 (by rw [hsl]; exact k2_hasslot (q4 k hk)) rfl rfl hdg fun H' e1 e2 e3 => ?_
    rw [hsl] at e1 ⊢
    exact fin H' _ e1 e2 e3 (hS0.put e2 e3 (hD.2 q0 _ he))
  · rw [if_pos hfin] at hlay
    have h6 := u_fits hfc hkC hkind (Or.inr hlay) hi (hty k hk) hn hfit
    have hcf : m.cls = cf := by
      obtain ⟨_, _, c', _, _, _, -, -, hf', -, -, -, hown2, -⟩ := Cond.laysFinal_spec hlay
      have e1 : c' = cf := (Prod.mk.inj (Option.some.inj (hi.symm.trans hf'))).1.symm
      rw [hTC, hCo] at hown2
      exact (Option.some.inj (hown.symm.trans hown2)).trans e1
    rw [hTC] at hi
    refine W.putFinK hexec hb hown (hT _ hw rfl _) hi hst hcf hnm (by rw [q2]; exact h6) q1 q3 (by rw [hsl]; exact k2_hasslot (q4 k hk)) rfl rfl hdg fun H' e1 e2 e3 => ?_
    rw [hsl] at e1 ⊢
    exact fin H' _ e1 e2 e3 (hS0.put e2 e3 (hD.2 q0 _ he))
theorem x_get (hexec : p.tables.exec = Jvm.exec) (hb : c.code = cc) {C : String} {T : u_T} {N ci index : Nat} {ty : Nat → FieldType} (hCl : zCl ci C T N ty) (hT : zTb s) (hown : s.vm.findClass own = some m.cls) (hK : va_K D vwCl tys s) (hP : va_P D vwCl ws H) (q0 : Nat) {fs : List Value} (he : ws[q0]? = some (a, .inr (ci, fs))) (k : Nat) (hk : k < N) {v : Value} (hv : fs[k]? = some v)
    (hlink : (T k).1 = C ∧ (Cond.fieldLink own index C (T k).2.1 (T k).2.2.1 ∈ lw_tbl ∨ ∃ host, Cond.fieldLinkNest own index C (T k).2.1 (T k).2.2.1 host ∈ lw_tbl))
    (hdg : decode cc pc = .ok (.getfield index, 3)) (kk : W p l e R s m args below meth c H locs cells slots Q (F0 m (pc + 3) ls (v :: rest))) : W p l e R s m args below meth c H locs cells slots Q (F0 m pc ls (.ref a :: rest)) := by
  obtain ⟨hTC, hw | ⟨host, hw⟩⟩ := hlink
  · exact va_get (C := C) (T := T) (N := N) (ref := C) hexec hb (hCl.words hT args) (fun _ h => h) hown hK hP q0 he hCl.1 k hk (hT _ hw rfl _) (fun x h => by rw [← hTC]; exact h) hv hdg kk
  · exact va_getN (C := C) (T := T) (N := N) (ref := C) hexec hb (hCl.words hT args) (fun _ h => h) hown hK hP q0 he hCl.1 k hk (hT _ hw rfl _) (fun x h => by rw [← hTC]; exact h) hv hdg kk
theorem ok_getI {ci : Nat} {C : String} {T : u_T} {N index : Nat} {ty : Nat → FieldType} (hCl : zCl ci C T N ty) (k0 : Nat) (ht : (ztg ci)[k0]? = some 0) (hd : decode cc pc = .ok (.getfield index, 3))
    (hlink : (T k0).1 = C ∧ (Cond.fieldLink own index C (T k0).2.1 (T k0).2.2.1 ∈ lw_tbl ∨ ∃ host, Cond.fieldLinkNest own index C (T k0).2.1 (T k0).2.2.1 host ∈ lw_tbl)) : zOk mi own cc nL ret ini pc (oGetI (64 * ci + k0) ci (pc + 3)) := by
  refine ⟨fun E b ls st σ => ?_, fun D cy d p l e R s m args below meth c σ0 out Q E hE hC k b ls st σ h hk H locs cells slots lsA hP hM hS hL hc hs => ?_⟩
  · unfold oGetI
    split
    · exact lin_onR (fun _ => rfl) fun a => lin_chk fun _ => rfl
    · exact Or.inl ⟨_, fun _ => rfl⟩
  · unfold oGetI at h
    split at h
    · obtain ⟨a, rfl, h⟩ := onR_some h
      obtain ⟨hka, h⟩ := chk_some h
      have hN : k0 < N := by rw [← hCl.2.2.2.2.1]; exact (List.getElem?_eq_some_iff.mp ht).1
      obtain ⟨q0, hq⟩ := hP.get (a := a) (by rw [hka]; exact Nat.lt_trans hCl.2.2.2.2.2 (by decide))
      rw [zent_o hka hCl.2.2.2.2.2] at hq
      exact x_get hC.1 hC.2.1 hCl hC.2.2.2.2.1 hC.2.2.2.1 hC.2.2.2.2.2.1 hP.2.1 q0 hq k0 hN (zfl_get ht) hlink hd (hk _ _ _ _ _ h H locs cells slots lsA hP hM hS hL hc hs)
    · cases h
theorem ok_getR {ci : Nat} {C : String} {T : u_T} {N index : Nat} {ty : Nat → FieldType} (hCl : zCl ci C T N ty) (k0 : Nat) (ht : (ztg ci)[k0]? = some 1) (hd : decode cc pc = .ok (.getfield index, 3))
    (hlink : (T k0).1 = C ∧ (Cond.fieldLink own index C (T k0).2.1 (T k0).2.2.1 ∈ lw_tbl ∨ ∃ host, Cond.fieldLinkNest own index C (T k0).2.1 (T k0).2.2.1 host ∈ lw_tbl)) : zOk mi own cc nL ret ini pc (oGetR (64 * ci + k0) ci (pc + 3)) := by
  refine ⟨fun E b ls st σ => ?_, fun D cy d p l e R s m args below meth c σ0 out Q E hE hC k b ls st σ h hk H locs cells slots lsA hP hM hS hL hc hs => ?_⟩
  · unfold oGetR
    split
    · exact lin_onR (fun _ => rfl) fun a => lin_chk fun _ => rfl
    · exact Or.inl ⟨_, fun _ => rfl⟩
  · unfold oGetR at h
    split at h
    · obtain ⟨a, rfl, h⟩ := onR_some h
      obtain ⟨hka, h⟩ := chk_some h
      have hN : k0 < N := by rw [← hCl.2.2.2.2.1]; exact (List.getElem?_eq_some_iff.mp ht).1
      obtain ⟨q0, hq⟩ := hP.get (a := a) (by rw [hka]; exact Nat.lt_trans hCl.2.2.2.2.2 (by decide))
      rw [zent_o hka hCl.2.2.2.2.2] at hq
      exact x_get hC.1 hC.2.1 hCl hC.2.2.2.2.1 hC.2.2.2.1 hC.2.2.2.2.2.1 hP.2.1 q0 hq k0 hN (zfl_get ht) hlink hd (hk _ _ _ _ _ h H locs cells slots lsA hP hM hS hL hc hs)
    · cases h
theorem ztg_64 (c : Nat) : (ztg c).length ≤ 64 := by unfold ztg; split <;> decide
theorem ok_putI {ci : Nat} {C : String} {T : u_T} {N index : Nat} {ty : Nat → FieldType} (hCl : zCl ci C T N ty) (k0 : Nat) (ht : (ztg ci)[k0]? = some 0) (hty : ty k0 = .int) (hd : decode cc pc = .ok (.putfield index, 3))
    (hlink : (Cond.fieldLink own index C (T k0).2.1 (T k0).2.2.1 ∈ lw_tbl ∧ (T k0).2.2.2 = false ∧ (T k0).1 = C) ∨ (∃ host, Cond.fieldLinkNest own index C (T k0).2.1 (T k0).2.2.1 host ∈ lw_tbl ∧ (T k0).2.2.2 = false ∧ (T k0).1 = C) ∨ (Cond.fieldLink own index C (T k0).2.1 (T k0).2.2.1 ∈ lw_tbl ∧ (T k0).2.2.2 = true ∧ (T k0).1 = C ∧ C = own ∧ ini = true)) : zOk mi own cc nL ret ini pc (oPutI (64 * ci + k0) ci (pc + 3)) := by
  refine ⟨fun E b ls st σ => ?_, fun D cy d p l e R s m args below meth c σ0 out Q E hE hC k b ls st σ h hk H locs cells slots lsA hP hM hS hL hc hs => ?_⟩
  · unfold oPutI
    split
    · exact lin_onR (fun _ => rfl) fun a => lin_chk fun _ => rfl
    · exact Or.inl ⟨_, fun _ => rfl⟩
  · unfold oPutI at h
    split at h
    · next x o st =>
      obtain ⟨a, rfl, h⟩ := onR_some h
      obtain ⟨hka, h⟩ := chk_some h
      have hN : k0 < N := by rw [← hCl.2.2.2.2.1]; exact (List.getElem?_eq_some_iff.mp ht).1
      have h16 : zkd σ a < 16 := by rw [hka]; exact Nat.lt_trans hCl.2.2.2.2.2 (by decide)
      obtain ⟨q0, hq⟩ := hP.get h16
      have hq' := hq
      rw [zent_o hka hCl.2.2.2.2.2] at hq
      refine x_put hC.1 hC.2.1 hCl hC.2.2.2.2.1 hC.2.2.2.1 hC.2.2.2.2.2.1 hP.2.1 (hP.D0 hM) hS q0 hq k0 hN (v := .int x) (by rw [hty]; rfl) (by rw [hty]; rfl) (by rw [zfl_len, hCl.2.2.2.2.1]; exact hN) (hlink.imp id (Or.imp id fun q => ⟨q.1, q.2.1, q.2.2.1, q.2.2.2.1, hC.2.2.2.2.2.2.2.2.2.1 q.2.2.2.2⟩)) hd fun H1 locs1 hz hP1 hS1 => ?_
      refine hk _ _ _ _ _ h H1 locs1 cells slots lsA (hP.put h16 hq' hz hP1 rfl (fun _ => rfl) rfl (zent_up hka hCl.2.2.2.2.2 ht rfl rfl rfl rfl (by simp [zfv, zsi, zi, zr, zl, zu2]) zfv_si ztg_3)) hM hS1 hL hc hs
    · cases h
theorem ok_putZ {ci : Nat} {C : String} {T : u_T} {N index : Nat} {ty : Nat → FieldType} (hCl : zCl ci C T N ty) (k0 : Nat) (ht : (ztg ci)[k0]? = some 0) (hty : ty k0 = .boolean) (hd : decode cc pc = .ok (.putfield index, 3))
    (hlink : (Cond.fieldLink own index C (T k0).2.1 (T k0).2.2.1 ∈ lw_tbl ∧ (T k0).2.2.2 = false ∧ (T k0).1 = C) ∨ (∃ host, Cond.fieldLinkNest own index C (T k0).2.1 (T k0).2.2.1 host ∈ lw_tbl ∧ (T k0).2.2.2 = false ∧ (T k0).1 = C) ∨ (Cond.fieldLink own index C (T k0).2.1 (T k0).2.2.1 ∈ lw_tbl ∧ (T k0).2.2.2 = true ∧ (T k0).1 = C ∧ C = own ∧ ini = true)) : zOk mi own cc nL ret ini pc (oPutZ (64 * ci + k0) ci (pc + 3)) := by
  refine ⟨fun E b ls st σ => ?_, fun D cy d p l e R s m args below meth c σ0 out Q E hE hC k b ls st σ h hk H locs cells slots lsA hP hM hS hL hc hs => ?_⟩
  · unfold oPutZ
    split
    · exact lin_onR (fun _ => rfl) fun a => lin_chk fun _ => rfl
    · exact Or.inl ⟨_, fun _ => rfl⟩
  · unfold oPutZ at h
    split at h
    · next x o st =>
      obtain ⟨a, rfl, h⟩ := onR_some h
      obtain ⟨⟨hka, hx⟩, h⟩ := chk_some h
      have hN : k0 < N := by rw [← hCl.2.2.2.2.1]; exact (List.getElem?_eq_some_iff.mp ht).1
      have h16 : zkd σ a < 16 := by rw [hka]; exact Nat.lt_trans hCl.2.2.2.2.2 (by decide)
      obtain ⟨q0, hq⟩ := hP.get h16
      have hq' := hq
      rw [zent_o hka hCl.2.2.2.2.2] at hq
      refine x_put hC.1 hC.2.1 hCl hC.2.2.2.2.1 hC.2.2.2.1 hC.2.2.2.2.2.1 hP.2.1 (hP.D0 hM) hS q0 hq k0 hN (v := .int x) (by rw [hty]; rcases hx with rfl | rfl <;> decide) (by rw [hty]; rcases hx with rfl | rfl <;> decide) (by rw [zfl_len, hCl.2.2.2.2.1]; exact hN) (hlink.imp id (Or.imp id fun q => ⟨q.1, q.2.1, q.2.2.1, q.2.2.2.1, hC.2.2.2.2.2.2.2.2.2.1 q.2.2.2.2⟩)) hd fun H1 locs1 hz hP1 hS1 => ?_
      refine hk _ _ _ _ _ h H1 locs1 cells slots lsA (hP.put h16 hq' hz hP1 rfl (fun _ => rfl) rfl (zent_up hka hCl.2.2.2.2.2 ht rfl rfl rfl rfl (by simp [zfv, zsi, zi, zr, zl, zu2]) zfv_si ztg_3)) hM hS1 hL hc hs
    · cases h
theorem ok_putR {ci : Nat} {C : String} {T : u_T} {N index : Nat} {ty : Nat → FieldType} (hCl : zCl ci C T N ty) (k0 : Nat) (ht : (ztg ci)[k0]? = some 1) (hty : (∃ n, ty k0 = .object n) ∨ ∃ t, ty k0 = .array t) (hd : decode cc pc = .ok (.putfield index, 3))
    (hlink : (Cond.fieldLink own index C (T k0).2.1 (T k0).2.2.1 ∈ lw_tbl ∧ (T k0).2.2.2 = false ∧ (T k0).1 = C) ∨ (∃ host, Cond.fieldLinkNest own index C (T k0).2.1 (T k0).2.2.1 host ∈ lw_tbl ∧ (T k0).2.2.2 = false ∧ (T k0).1 = C) ∨ (Cond.fieldLink own index C (T k0).2.1 (T k0).2.2.1 ∈ lw_tbl ∧ (T k0).2.2.2 = true ∧ (T k0).1 = C ∧ C = own ∧ ini = true)) : zOk mi own cc nL ret ini pc (oPutR (64 * ci + k0) ci (pc + 3)) := by
  refine ⟨fun E b ls st σ => ?_, fun D cy d p l e R s m args below meth c σ0 out Q E hE hC k b ls st σ h hk H locs cells slots lsA hP hM hS hL hc hs => ?_⟩
  · unfold oPutR
    split
    · exact lin_onR (fun _ => rfl) fun a => lin_chk fun _ => rfl
    · exact Or.inl ⟨_, fun _ => rfl⟩
  · unfold oPutR at h
    split at h
    · next x o st =>
      obtain ⟨a, rfl, h⟩ := onR_some h
      obtain ⟨hka, h⟩ := chk_some h
      have hN : k0 < N := by rw [← hCl.2.2.2.2.1]; exact (List.getElem?_eq_some_iff.mp ht).1
      have h16 : zkd σ a < 16 := by rw [hka]; exact Nat.lt_trans hCl.2.2.2.2.2 (by decide)
      obtain ⟨q0, hq⟩ := hP.get h16
      have hq' := hq
      rw [zent_o hka hCl.2.2.2.2.2] at hq
      refine x_put hC.1 hC.2.1 hCl hC.2.2.2.2.1 hC.2.2.2.1 hC.2.2.2.2.2.1 hP.2.1 (hP.D0 hM) hS q0 hq k0 hN (v := va_rf x) (by rcases hty with ⟨n, q⟩ | ⟨n, q⟩ <;> rw [q] <;> cases x <;> rfl) (by rcases hty with ⟨n, q⟩ | ⟨n, q⟩ <;> rw [q] <;> cases x <;> rfl) (by rw [zfl_len, hCl.2.2.2.2.1]; exact hN) (hlink.imp id (Or.imp id fun q => ⟨q.1, q.2.1, q.2.2.1, q.2.2.2.1, hC.2.2.2.2.2.2.2.2.2.1 q.2.2.2.2⟩)) hd fun H1 locs1 hz hP1 hS1 => ?_
      refine hk _ _ _ _ _ h H1 locs1 cells slots lsA (hP.put h16 hq' hz hP1 rfl (fun _ => rfl) rfl (zent_up hka hCl.2.2.2.2.2 ht rfl rfl rfl rfl (by simp [zfv, zsr, zi, zr, zl, zu2]) zfv_sr ztg_3)) (zSm_sr hM (by have := hCl.2.2.2.2.2; have := hCl.2.2.2.2.1; have : (ztg ci).length ≤ 64 := ztg_64 ci; omega) _ _) hS1 hL hc hs
    · cases h
end HEAP
