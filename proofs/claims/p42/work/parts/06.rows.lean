/-! the steps on rows and new cells -/
theorem zin_vp {i : Int32} {n : Nat} (h : zin i n) : vp_in i n := vp_in_iff.mpr h
theorem zent_sa {cy : Nat → ClassId} {σ : zS} {a c i : Nat} {x : Int32} (hk : zkd σ a = c) (h1 : 10 ≤ c) (h2 : c < 13) : ∀ b, zent cy (zsa σ a i x) b = va_up (zent cy σ) a (.inl (cy c, zln σ a, .inl (upd (zai σ a) i x))) b := by
  intro b
  by_cases hb : b = a
  · subst hb
    rw [va_up_self, zent_i (c := c) (show zkd (zsa σ b i x) b = c from hk) h1 h2]
    have : zai (zsa σ b i x) b = upd (zai σ b) i x := by
      funext j
      show zu2 σ.2.2.2.1 b i x b j = upd (zai σ b) i x j
      unfold zu2 upd
      by_cases hj : j = i
      · simp [hj]
      · simp [hj, zai]
    rw [this]
    rfl
  · rw [va_up_ne _ _ hb]
    have : zai (zsa σ a i x) b = zai σ b := by
      funext j
      show zu2 σ.2.2.2.1 a i x b j = _
      unfold zu2
      rw [if_neg (fun q => hb q.1)]
      rfl
    unfold zent
    rw [this]
    rfl
theorem zent_sq {cy : Nat → ClassId} {σ : zS} {a c i : Nat} {x : Option Nat} (hk : zkd σ a = c) (h1 : 13 ≤ c) : ∀ b, zent cy (zsq σ a i x) b = va_up (zent cy σ) a (.inl (cy c, zln σ a, .inr (.inr (.inr (.inr (va_up (zar σ a) i x)))))) b := by
  intro b
  by_cases hb : b = a
  · subst hb
    rw [va_up_self, zent_q (c := c) (show zkd (zsq σ b i x) b = c from hk) h1]
    have : zar (zsq σ b i x) b = va_up (zar σ b) i x := by
      funext j
      show zu2 σ.2.2.2.2.1 b i x b j = va_up (zar σ b) i x j
      unfold zu2 va_up
      by_cases hj : j = i
      · simp [hj]
      · simp [hj, zar]
    rw [this]
    rfl
  · rw [va_up_ne _ _ hb]
    have : zar (zsq σ a i x) b = zar σ b := by
      funext j
      show zu2 σ.2.2.2.2.1 a i x b j = _
      unfold zu2
      rw [if_neg (fun q => hb q.1)]
      rfl
    unfold zent
    rw [this]
    rfl
/-- one cell has been made at the heap's end -/
theorem zPool.push {D : va_G} {cy : Nat → ClassId} {σ τ : zS} {H H1 : Heap} (h : zPool D cy σ H) {c : Nat} {e : va_E} (hc : c < 16) (hz : H1.size = H.size + 1) (ho : ∀ q, q < H.size → H1[q]? = H[q]?)
    (he : va_at D vwCl (znx σ, e) H1) (hd : zdm τ = zdm σ ++ [znx σ]) (hk : zkd τ = va_up (zkd σ) (znx σ) c) (hn : znx τ = znx σ + 1) (hen : ∀ b, zent cy τ b = va_up (zent cy σ) (znx σ) e b) : zPool D cy τ H1 := by
  obtain ⟨p1, p2, p3, p4, p5⟩ := h
  have hlt : ∀ a, a ∈ zdm σ → a < H.size := fun a ha => by
    obtain ⟨q0, hq⟩ := va_pl_get (X := []) (f := zent cy σ) ha
    exact (p2 q0 _ hq).lt
  have hnm : znx σ ∉ zdm σ := fun q => Nat.lt_irrefl _ (by rw [← p1] at q; exact hlt _ q)
  have e1 : va_pl (zdm σ) (zent cy σ) ++ [(znx σ, e)] = va_pl (zdm τ) (zent cy τ) := by
    rw [va_pl_push hnm, hd, show zent cy τ = va_up (zent cy σ) (znx σ) e from funext hen]
  refine ⟨by rw [hz, hn, p1], ?_, ?_, fun a ha => ?_, fun a ha => ?_⟩
  · rw [← e1]
    refine (p2.kept fun k x hx => ho _ ((p2 k x hx).lt)).app fun k x hx => ?_
    have hz : k < 1 := (List.getElem?_eq_some_iff.mp hx).1
    rw [show k = 0 by omega] at hx
    cases hx
    exact he
  · rw [← e1]
    exact p3.push p2 p1.symm trivial
  · rw [hd]
    rw [hk] at ha
    by_cases hx : a = znx σ
    · exact List.mem_append_right _ (List.mem_singleton.mpr hx)
    · rw [va_up_ne _ _ hx] at ha
      exact List.mem_append_left _ (p4 a ha)
  · rw [hk]
    by_cases hx : a = znx σ
    · rw [hx, va_up_self]
      exact hc
    · rw [va_up_ne _ _ hx]
      rw [hd] at ha
      rcases List.mem_append.mp ha with ha | ha
      · exact p5 a ha
      · exact absurd (List.mem_singleton.mp ha) hx
theorem zSm_new {σ0 σ τ : zS} (h : zSm σ0 σ) {c : Nat} (hc : c < 16) (hn : znx τ = znx σ + 1) (hk : zkd τ = va_up (zkd σ) (znx σ) c) (hl : ∀ q, q ≠ znx σ → zln τ q = zln σ q) (ha : ∀ q, q ≠ znx σ → ∀ i, zai τ q i = zai σ q i) (hr : ∀ f, 640 ≤ f → ∀ j, zr τ f j = zr σ f j) : zSm σ0 τ := by
  refine ⟨by rw [hn]; exact Nat.le_succ_of_le h.1, fun q hq => ?_, fun f hf j => (hr f hf j).trans (h.2.2.1 f hf j), fun q hq => ?_⟩
  · have hne : q ≠ znx σ := fun e => by have := h.1; omega
    rw [hk, va_up_ne _ _ hne, hl q hne]
    exact h.2.1 q hq
  · by_cases hne : q = znx σ
    · rw [hk, hne, va_up_self] at hq
      omega
    · rw [hk, va_up_ne _ _ hne] at hq ⊢
      obtain ⟨a1, a2, a3⟩ := h.2.2.2 q hq
      exact ⟨a1, (hl q hne).trans a2, fun i => (ha q hne i).trans (a3 i)⟩
theorem va_S.grow {A : Nat → Prop} {H0 H H1 : Heap} {locs : List Loc} (h : va_S A H0 H locs) (z : H1.size = H.size + 1) (o : ∀ q : Nat, q < H.size → H1[q]? = H[q]?) : va_S A H0 H1 locs :=
  ⟨Nat.le_trans h.1 (by omega), fun q h1 h2 => (o q (Nat.lt_of_lt_of_le h1 h.1)).trans (h.2.1 q h1 h2), h.2.2⟩
theorem zna_ent {cy : Nat → ClassId} {σ : zS} {c n : Nat} {e : va_E} (he : zent cy (zna σ c n) (znx σ) = e) : ∀ b, zent cy (zna σ c n) b = va_up (zent cy σ) (znx σ) e b := by
  intro b
  by_cases hb : b = znx σ
  · subst hb
    rw [va_up_self]
    exact he
  · rw [va_up_ne _ _ hb]
    have k1 : zkd (zna σ c n) b = zkd σ b := va_up_ne _ _ hb
    have k2 : zln (zna σ c n) b = zln σ b := va_up_ne _ _ hb
    have k3 : zai (zna σ c n) b = zai σ b := by
      funext j
      show (if b = znx σ then (0 : Int32) else σ.2.2.2.1 b j) = _
      rw [if_neg hb]
      rfl
    have k4 : zar (zna σ c n) b = zar σ b := by
      funext j
      show (if b = znx σ then (none : Option Nat) else σ.2.2.2.2.1 b j) = _
      rw [if_neg hb]
      rfl
    unfold zent
    rw [k1, k2, k3, k4]
    rfl
theorem zfv_no {σ : zS} {c : Nat} {t f b : Nat} (hb : b ≠ znx σ) : zfv (zno σ c) t f b = zfv σ t f b := by
  match t with
  | 0 => simp only [zfv, zi, zno]; rw [if_neg hb]
  | 1 => simp only [zfv, zr, zno]; rw [if_neg (fun q => hb q.1)]
  | n + 2 => simp only [zfv, zl, zno]; rw [if_neg hb]
theorem zno_ent {cy : Nat → ClassId} {σ : zS} {c : Nat} {e : va_E} (he : zent cy (zno σ c) (znx σ) = e) : ∀ b, zent cy (zno σ c) b = va_up (zent cy σ) (znx σ) e b := by
  intro b
  by_cases hb : b = znx σ
  · subst hb
    rw [va_up_self]
    exact he
  · rw [va_up_ne _ _ hb]
    have k1 : zkd (zno σ c) b = zkd σ b := va_up_ne _ _ hb
    have k5 : ∀ c', zfl (zno σ c) b c' = zfl σ b c' := fun c' => by
      unfold zfl
      apply List.ext_getElem?
      intro j
      rw [List.getElem?_mapIdx, List.getElem?_mapIdx]
      cases (ztg c')[j]? with
      | none => rfl
      | some t' => exact congrArg some (zfv_no hb)
    unfold zent
    rw [k1, k5]
    rfl
section ROWS
variable {mi : Nat → MethodName × ByteArray × Nat × Option FieldType × Nat × Nat} {own : String} {cc : ByteArray} {nL : Nat} {ret : Option FieldType} {ini : Bool} {pc : Nat}
theorem ok_ald10 (hd : decode cc pc = .ok (.caload, 1)) : zOk mi own cc nL ret ini pc (oAld 10 (pc + 1)) := by
  refine ⟨fun E b ls st σ => ?_, fun D cy d p l e R s m args below meth c σ0 out Q E hE hC k b ls st σ h hk H locs cells slots lsA hP hM hS hL hc hs => ?_⟩
  · unfold oAld
    split
    · exact lin_onR (fun _ => rfl) fun a => lin_chk fun _ => rfl
    · exact Or.inl ⟨_, fun _ => rfl⟩
  · unfold oAld at h
    split at h
    · obtain ⟨a, rfl, h⟩ := onR_some h
      obtain ⟨⟨hka, hi⟩, h⟩ := chk_some h
      obtain ⟨q0, hq⟩ := hP.get (a := a) (by rw [hka]; decide)
      rw [zent_i hka (by decide) (by decide)] at hq
      exact va_cald hC.1 hC.2.1 hC.2.2.2.2.2.1 hP.2.1 q0 0 hq rfl (zin_vp hi) hd (hk _ _ _ _ _ h H locs cells slots lsA hP hM hS hL hc hs)
    · cases h
theorem ok_ald11 (hd : decode cc pc = .ok (.iaload, 1)) : zOk mi own cc nL ret ini pc (oAld 11 (pc + 1)) := by
  refine ⟨fun E b ls st σ => ?_, fun D cy d p l e R s m args below meth c σ0 out Q E hE hC k b ls st σ h hk H locs cells slots lsA hP hM hS hL hc hs => ?_⟩
  · unfold oAld
    split
    · exact lin_onR (fun _ => rfl) fun a => lin_chk fun _ => rfl
    · exact Or.inl ⟨_, fun _ => rfl⟩
  · unfold oAld at h
    split at h
    · obtain ⟨a, rfl, h⟩ := onR_some h
      obtain ⟨⟨hka, hi⟩, h⟩ := chk_some h
      obtain ⟨q0, hq⟩ := hP.get (a := a) (by rw [hka]; decide)
      rw [zent_i hka (by decide) (by decide)] at hq
      exact va_iald hC.1 hC.2.1 hC.2.2.2.2.2.1 hP.2.1 q0 1 hq rfl (zin_vp hi) hd (hk _ _ _ _ _ h H locs cells slots lsA hP hM hS hL hc hs)
    · cases h
theorem ok_ald13 (hd : decode cc pc = .ok (.aaload, 1)) : zOk mi own cc nL ret ini pc (oAldR 13 (pc + 1)) := by
  refine ⟨fun E b ls st σ => ?_, fun D cy d p l e R s m args below meth c σ0 out Q E hE hC k b ls st σ h hk H locs cells slots lsA hP hM hS hL hc hs => ?_⟩
  · unfold oAldR
    split
    · exact lin_onR (fun _ => rfl) fun a => lin_chk fun _ => rfl
    · exact Or.inl ⟨_, fun _ => rfl⟩
  · unfold oAldR at h
    split at h
    · obtain ⟨a, rfl, h⟩ := onR_some h
      obtain ⟨⟨hka, hi⟩, h⟩ := chk_some h
      obtain ⟨q0, hq⟩ := hP.get (a := a) (by rw [hka]; decide)
      rw [zent_q hka (by decide)] at hq
      exact va_aldq hC.1 hC.2.1 hC.2.2.2.2.2.1 hP.2.1 q0 2 hq rfl (zin_vp hi) hd (hk _ _ _ _ _ h H locs cells slots lsA hP hM hS hL hc hs)
    · cases h
theorem ok_ald14 (hd : decode cc pc = .ok (.aaload, 1)) : zOk mi own cc nL ret ini pc (oAldR 14 (pc + 1)) := by
  refine ⟨fun E b ls st σ => ?_, fun D cy d p l e R s m args below meth c σ0 out Q E hE hC k b ls st σ h hk H locs cells slots lsA hP hM hS hL hc hs => ?_⟩
  · unfold oAldR
    split
    · exact lin_onR (fun _ => rfl) fun a => lin_chk fun _ => rfl
    · exact Or.inl ⟨_, fun _ => rfl⟩
  · unfold oAldR at h
    split at h
    · obtain ⟨a, rfl, h⟩ := onR_some h
      obtain ⟨⟨hka, hi⟩, h⟩ := chk_some h
      obtain ⟨q0, hq⟩ := hP.get (a := a) (by rw [hka]; decide)
      rw [zent_q hka (by decide)] at hq
      exact va_aldq hC.1 hC.2.1 hC.2.2.2.2.2.1 hP.2.1 q0 3 hq rfl (zin_vp hi) hd (hk _ _ _ _ _ h H locs cells slots lsA hP hM hS hL hc hs)
    · cases h
theorem ok_ald15 (hd : decode cc pc = .ok (.aaload, 1)) : zOk mi own cc nL ret ini pc (oAldR 15 (pc + 1)) := by
  refine ⟨fun E b ls st σ => ?_, fun D cy d p l e R s m args below meth c σ0 out Q E hE hC k b ls st σ h hk H locs cells slots lsA hP hM hS hL hc hs => ?_⟩
  · unfold oAldR
    split
    · exact lin_onR (fun _ => rfl) fun a => lin_chk fun _ => rfl
    · exact Or.inl ⟨_, fun _ => rfl⟩
  · unfold oAldR at h
    split at h
    · obtain ⟨a, rfl, h⟩ := onR_some h
      obtain ⟨⟨hka, hi⟩, h⟩ := chk_some h
      obtain ⟨q0, hq⟩ := hP.get (a := a) (by rw [hka]; decide)
      rw [zent_q hka (by decide)] at hq
      exact va_aldq hC.1 hC.2.1 hC.2.2.2.2.2.1 hP.2.1 q0 4 hq rfl (zin_vp hi) hd (hk _ _ _ _ _ h H locs cells slots lsA hP hM hS hL hc hs)
    · cases h
theorem ok_len10 (hd : decode cc pc = .ok (.arraylength, 1)) : zOk mi own cc nL ret ini pc (oLen 10 (pc + 1)) := by
  refine ⟨fun E b ls st σ => ?_, fun D cy d p l e R s m args below meth c σ0 out Q E hE hC k b ls st σ h hk H locs cells slots lsA hP hM hS hL hc hs => ?_⟩
  · unfold oLen
    split
    · exact lin_onR (fun _ => rfl) fun a => lin_chk fun _ => rfl
    · exact Or.inl ⟨_, fun _ => rfl⟩
  · unfold oLen at h
    split at h
    · obtain ⟨a, rfl, h⟩ := onR_some h
      obtain ⟨hka, h⟩ := chk_some h
      obtain ⟨q0, hq⟩ := hP.get (a := a) (by rw [hka]; decide)
      rw [zent_i hka (by decide) (by decide)] at hq
      exact va_alen hC.1 hC.2.1 hC.2.2.2.2.2.1 hP.2.1 q0 0 hq rfl rfl hd (hk _ _ _ _ _ h H locs cells slots lsA hP hM hS hL hc hs)
    · cases h
theorem ok_len11 (hd : decode cc pc = .ok (.arraylength, 1)) : zOk mi own cc nL ret ini pc (oLen 11 (pc + 1)) := by
  refine ⟨fun E b ls st σ => ?_, fun D cy d p l e R s m args below meth c σ0 out Q E hE hC k b ls st σ h hk H locs cells slots lsA hP hM hS hL hc hs => ?_⟩
  · unfold oLen
    split
    · exact lin_onR (fun _ => rfl) fun a => lin_chk fun _ => rfl
    · exact Or.inl ⟨_, fun _ => rfl⟩
  · unfold oLen at h
    split at h
    · obtain ⟨a, rfl, h⟩ := onR_some h
      obtain ⟨hka, h⟩ := chk_some h
      obtain ⟨q0, hq⟩ := hP.get (a := a) (by rw [hka]; decide)
      rw [zent_i hka (by decide) (by decide)] at hq
      exact va_alen hC.1 hC.2.1 hC.2.2.2.2.2.1 hP.2.1 q0 1 hq rfl rfl hd (hk _ _ _ _ _ h H locs cells slots lsA hP hM hS hL hc hs)
    · cases h
theorem ok_len13 (hd : decode cc pc = .ok (.arraylength, 1)) : zOk mi own cc nL ret ini pc (oLen 13 (pc + 1)) := by
  refine ⟨fun E b ls st σ => ?_, fun D cy d p l e R s m args below meth c σ0 out Q E hE hC k b ls st σ h hk H locs cells slots lsA hP hM hS hL hc hs => ?_⟩
  · unfold oLen
    split
    · exact lin_onR (fun _ => rfl) fun a => lin_chk fun _ => rfl
    · exact Or.inl ⟨_, fun _ => rfl⟩
  · unfold oLen at h
    split at h
    · obtain ⟨a, rfl, h⟩ := onR_some h
      obtain ⟨hka, h⟩ := chk_some h
      obtain ⟨q0, hq⟩ := hP.get (a := a) (by rw [hka]; decide)
      rw [zent_q hka (by decide)] at hq
      exact va_alen hC.1 hC.2.1 hC.2.2.2.2.2.1 hP.2.1 q0 2 hq rfl rfl hd (hk _ _ _ _ _ h H locs cells slots lsA hP hM hS hL hc hs)
    · cases h
theorem ok_len14 (hd : decode cc pc = .ok (.arraylength, 1)) : zOk mi own cc nL ret ini pc (oLen 14 (pc + 1)) := by
  refine ⟨fun E b ls st σ => ?_, fun D cy d p l e R s m args below meth c σ0 out Q E hE hC k b ls st σ h hk H locs cells slots lsA hP hM hS hL hc hs => ?_⟩
  · unfold oLen
    split
    · exact lin_onR (fun _ => rfl) fun a => lin_chk fun _ => rfl
    · exact Or.inl ⟨_, fun _ => rfl⟩
  · unfold oLen at h
    split at h
    · obtain ⟨a, rfl, h⟩ := onR_some h
      obtain ⟨hka, h⟩ := chk_some h
      obtain ⟨q0, hq⟩ := hP.get (a := a) (by rw [hka]; decide)
      rw [zent_q hka (by decide)] at hq
      exact va_alen hC.1 hC.2.1 hC.2.2.2.2.2.1 hP.2.1 q0 3 hq rfl rfl hd (hk _ _ _ _ _ h H locs cells slots lsA hP hM hS hL hc hs)
    · cases h
theorem ok_len15 (hd : decode cc pc = .ok (.arraylength, 1)) : zOk mi own cc nL ret ini pc (oLen 15 (pc + 1)) := by
  refine ⟨fun E b ls st σ => ?_, fun D cy d p l e R s m args below meth c σ0 out Q E hE hC k b ls st σ h hk H locs cells slots lsA hP hM hS hL hc hs => ?_⟩
  · unfold oLen
    split
    · exact lin_onR (fun _ => rfl) fun a => lin_chk fun _ => rfl
    · exact Or.inl ⟨_, fun _ => rfl⟩
  · unfold oLen at h
    split at h
    · obtain ⟨a, rfl, h⟩ := onR_some h
      obtain ⟨hka, h⟩ := chk_some h
      obtain ⟨q0, hq⟩ := hP.get (a := a) (by rw [hka]; decide)
      rw [zent_q hka (by decide)] at hq
      exact va_alen hC.1 hC.2.1 hC.2.2.2.2.2.1 hP.2.1 q0 4 hq rfl rfl hd (hk _ _ _ _ _ h H locs cells slots lsA hP hM hS hL hc hs)
    · cases h
theorem ok_ast10 (hd : decode cc pc = .ok (.castore, 1)) : zOk mi own cc nL ret ini pc (oAstN 10 .char (pc + 1)) := by
  refine ⟨fun E b ls st σ => ?_, fun D cy d p l e R s m args below meth c σ0 out Q E hE hC k b ls st σ h hk H locs cells slots lsA hP hM hS hL hc hs => ?_⟩
  · unfold oAstN
    split
    · exact lin_onR (fun _ => rfl) fun a => lin_chk fun _ => rfl
    · exact Or.inl ⟨_, fun _ => rfl⟩
  · unfold oAstN at h
    split at h
    · next x i o st =>
      obtain ⟨a, rfl, h⟩ := onR_some h
      obtain ⟨⟨⟨hka, hi⟩, hnr⟩, h⟩ := chk_some h
      have h16 : zkd σ a < 16 := by rw [hka]; decide
      obtain ⟨q0, hq⟩ := hP.get h16
      have hq' := hq
      rw [zent_i hka (by decide) (by decide)] at hq
      refine W.cast hC.1 hC.2.1 (hP.2.1 q0 _ hq) ((hC.2.2.2.2.2.1.2 0 _ rfl).1 (zln σ a) (fun j => .int (zai σ a j))) (fun q => by cases q) (by show ¬ (i < 0 ∨ (arrV _ _ _).slots.size ≤ _); rw [arrV_size]; exact zin_vp hi) rfl rfl hd fun H1 e1 z oq => ?_
      refine hk _ _ _ _ _ h H1 _ cells slots lsA (hP.put h16 hq' z (hP.2.1.set (hP.D0 hM) hq ?_ oq) rfl (fun _ => rfl) rfl (zent_sa hka (by decide) (by decide))) (zSm_sa hM h16 _ _) (hS.put z oq ((hP.D0 hM).2 q0 _ hq)) hL hc hs
      show H1[a]? = some (vp_cell _ _)
      rw [e1]
      rw [vp_cell_i, vp_cell_i, arrV_store]
      congr 2
      funext q
      by_cases hq : q = i.toNatClampNeg
      · subst hq
        simp only [updV, upd, if_true]; rw [show narrow .char (.int x) = .int (vp_nar .char x) from rfl, hnr]
      · simp [updV, upd, hq]
    · cases h
theorem ok_ast11 (hd : decode cc pc = .ok (.iastore, 1)) : zOk mi own cc nL ret ini pc (oAst (pc + 1)) := by
  refine ⟨fun E b ls st σ => ?_, fun D cy d p l e R s m args below meth c σ0 out Q E hE hC k b ls st σ h hk H locs cells slots lsA hP hM hS hL hc hs => ?_⟩
  · unfold oAst
    split
    · exact lin_onR (fun _ => rfl) fun a => lin_chk fun _ => rfl
    · exact Or.inl ⟨_, fun _ => rfl⟩
  · unfold oAst at h
    split at h
    · next x i o st =>
      obtain ⟨a, rfl, h⟩ := onR_some h
      obtain ⟨⟨hka, hi⟩, h⟩ := chk_some h
      have h16 : zkd σ a < 16 := by rw [hka]; decide
      obtain ⟨q0, hq⟩ := hP.get h16
      have hq' := hq
      rw [zent_i hka (by decide) (by decide)] at hq
      refine W.iast hC.1 hC.2.1 (hP.2.1 q0 _ hq) ((hC.2.2.2.2.2.1.2 1 _ rfl).1 (zln σ a) (fun j => .int (zai σ a j))) (fun q => by cases q) (by show ¬ (i < 0 ∨ (arrV _ _ _).slots.size ≤ _); rw [arrV_size]; exact zin_vp hi) rfl rfl hd fun H1 e1 z oq => ?_
      refine hk _ _ _ _ _ h H1 _ cells slots lsA (hP.put h16 hq' z (hP.2.1.set (hP.D0 hM) hq ?_ oq) rfl (fun _ => rfl) rfl (zent_sa hka (by decide) (by decide))) (zSm_sa hM h16 _ _) (hS.put z oq ((hP.D0 hM).2 q0 _ hq)) hL hc hs
      show H1[a]? = some (vp_cell _ _)
      rw [e1]
      rw [vp_cell_i, vp_cell_i, arrV_store]
      congr 2
      funext q
      by_cases hq : q = i.toNatClampNeg
      · subst hq
        simp [updV, upd]
      · simp [updV, upd, hq]
    · cases h
theorem ok_ast13 (hd : decode cc pc = .ok (.aastore, 1)) : zOk mi own cc nL ret ini pc (oAstR 13 0 (pc + 1)) := by
  refine ⟨fun E b ls st σ => ?_, fun D cy d p l e R s m args below meth c σ0 out Q E hE hC k b ls st σ h hk H locs cells slots lsA hP hM hS hL hc hs => ?_⟩
  · unfold oAstR
    split
    · exact lin_onR (fun _ => rfl) fun w => lin_onR (fun _ => rfl) fun a => lin_chk fun _ => rfl
    · exact Or.inl ⟨_, fun _ => rfl⟩
  · unfold oAstR at h
    split at h
    · next v i o st =>
      obtain ⟨w, rfl, h2⟩ := onR_some h
      obtain ⟨a, rfl, h3⟩ := onR_some h2
      clear h h2
      obtain ⟨⟨⟨hka, hi⟩, hkw⟩, h⟩ := chk_some h3
      have h16 : zkd σ a < 16 := by rw [hka]; decide
      have hw16 : zkd σ w < 16 := by rw [hkw]; decide
      obtain ⟨q0, hq⟩ := hP.get h16
      obtain ⟨qw, hqw⟩ := hP.get hw16
      have hq' := hq
      rw [zent_q hka (by decide)] at hq
      rw [zent_o hkw (by decide)] at hqw
      obtain ⟨r', hr', cellV, g1, g2, g3, -⟩ := hP.2.1 qw _ hqw
      have hcls := (hC.2.2.2.2.2.1.1 0 _ rfl).2
      obtain ⟨kA, comp, k1, k2, k3, -⟩ := (hC.2.2.2.2.2.1.2 2 _ rfl).2
      have hcomp : comp = D.1 0 := Option.some.inj (k3.symm.trans hcls.1)
      subst hcomp
      obtain ⟨kC, hkC, -⟩ := hcls.2
      have hin := zin_vp hi
      have hlt : i.toNatClampNeg < zln σ a := Nat.not_le.mp fun q => hin (Or.inr q)
      refine W.aast hC.1 hC.2.1 (hP.2.1 q0 _ hq) (fun q h => by cases h) (fun h => by cases h) k1 k2 rfl hkC ⟨fun q => hin (Or.inl q), by show _ < (arrV _ _ _).slots.size; rw [arrV_size]; exact hlt⟩ g1 (fun q h => by rw [g3] at h; cases h) (by rw [g2]; exact hkC) (by rw [g2]; exact va_assign hcls) rfl rfl hd fun H1 e1 z oq => ?_
      refine hk _ _ _ _ _ h H1 _ cells slots lsA (hP.put h16 hq' z (hP.2.1.set (hP.D0 hM) hq ?_ oq) rfl (fun _ => rfl) rfl (zent_sq hka (by decide))) (zSm_sq hM _ _ _) (hS.put z oq ((hP.D0 hM).2 q0 _ hq)) hL hc hs
      show H1[a]? = some (vp_cell _ _)
      rw [e1]
      rw [vp_cell_q, vp_cell_q, arrV_store]
      congr 2
      funext q
      by_cases hq : q = i.toNatClampNeg
      · subst hq
        simp [updV, va_up, va_rf]
      · simp [updV, va_up, hq]
    · cases h
theorem ok_ast14 (hd : decode cc pc = .ok (.aastore, 1)) : zOk mi own cc nL ret ini pc (oAstR 14 2 (pc + 1)) := by
  refine ⟨fun E b ls st σ => ?_, fun D cy d p l e R s m args below meth c σ0 out Q E hE hC k b ls st σ h hk H locs cells slots lsA hP hM hS hL hc hs => ?_⟩
  · unfold oAstR
    split
    · exact lin_onR (fun _ => rfl) fun w => lin_onR (fun _ => rfl) fun a => lin_chk fun _ => rfl
    · exact Or.inl ⟨_, fun _ => rfl⟩
  · unfold oAstR at h
    split at h
    · next v i o st =>
      obtain ⟨w, rfl, h2⟩ := onR_some h
      obtain ⟨a, rfl, h3⟩ := onR_some h2
      clear h h2
      obtain ⟨⟨⟨hka, hi⟩, hkw⟩, h⟩ := chk_some h3
      have h16 : zkd σ a < 16 := by rw [hka]; decide
      have hw16 : zkd σ w < 16 := by rw [hkw]; decide
      obtain ⟨q0, hq⟩ := hP.get h16
      obtain ⟨qw, hqw⟩ := hP.get hw16
      have hq' := hq
      rw [zent_q hka (by decide)] at hq
      rw [zent_o hkw (by decide)] at hqw
      obtain ⟨r', hr', cellV, g1, g2, g3, -⟩ := hP.2.1 qw _ hqw
      have hcls := (hC.2.2.2.2.2.1.1 2 _ rfl).2
      obtain ⟨kA, comp, k1, k2, k3, -⟩ := (hC.2.2.2.2.2.1.2 3 _ rfl).2
      have hcomp : comp = D.1 2 := Option.some.inj (k3.symm.trans hcls.1)
      subst hcomp
      obtain ⟨kC, hkC, -⟩ := hcls.2
      have hin := zin_vp hi
      have hlt : i.toNatClampNeg < zln σ a := Nat.not_le.mp fun q => hin (Or.inr q)
      refine W.aast hC.1 hC.2.1 (hP.2.1 q0 _ hq) (fun q h => by cases h) (fun h => by cases h) k1 k2 rfl hkC ⟨fun q => hin (Or.inl q), by show _ < (arrV _ _ _).slots.size; rw [arrV_size]; exact hlt⟩ g1 (fun q h => by rw [g3] at h; cases h) (by rw [g2]; exact hkC) (by rw [g2]; exact va_assign hcls) rfl rfl hd fun H1 e1 z oq => ?_
      refine hk _ _ _ _ _ h H1 _ cells slots lsA (hP.put h16 hq' z (hP.2.1.set (hP.D0 hM) hq ?_ oq) rfl (fun _ => rfl) rfl (zent_sq hka (by decide))) (zSm_sq hM _ _ _) (hS.put z oq ((hP.D0 hM).2 q0 _ hq)) hL hc hs
      show H1[a]? = some (vp_cell _ _)
      rw [e1]
      rw [vp_cell_q, vp_cell_q, arrV_store]
      congr 2
      funext q
      by_cases hq : q = i.toNatClampNeg
      · subst hq
        simp [updV, va_up, va_rf]
      · simp [updV, va_up, hq]
    · cases h
theorem ok_ast15 (hd : decode cc pc = .ok (.aastore, 1)) : zOk mi own cc nL ret ini pc (oAstR 15 4 (pc + 1)) := by
  refine ⟨fun E b ls st σ => ?_, fun D cy d p l e R s m args below meth c σ0 out Q E hE hC k b ls st σ h hk H locs cells slots lsA hP hM hS hL hc hs => ?_⟩
  · unfold oAstR
    split
    · exact lin_onR (fun _ => rfl) fun w => lin_onR (fun _ => rfl) fun a => lin_chk fun _ => rfl
    · exact Or.inl ⟨_, fun _ => rfl⟩
  · unfold oAstR at h
    split at h
    · next v i o st =>
      obtain ⟨w, rfl, h2⟩ := onR_some h
      obtain ⟨a, rfl, h3⟩ := onR_some h2
      clear h h2
      obtain ⟨⟨⟨hka, hi⟩, hkw⟩, h⟩ := chk_some h3
      have h16 : zkd σ a < 16 := by rw [hka]; decide
      have hw16 : zkd σ w < 16 := by rw [hkw]; decide
      obtain ⟨q0, hq⟩ := hP.get h16
      obtain ⟨qw, hqw⟩ := hP.get hw16
      have hq' := hq
      rw [zent_q hka (by decide)] at hq
      rw [zent_o hkw (by decide)] at hqw
      obtain ⟨r', hr', cellV, g1, g2, g3, -⟩ := hP.2.1 qw _ hqw
      have hcls := (hC.2.2.2.2.2.1.1 4 _ rfl).2
      obtain ⟨kA, comp, k1, k2, k3, -⟩ := (hC.2.2.2.2.2.1.2 4 _ rfl).2
      have hcomp : comp = D.1 4 := Option.some.inj (k3.symm.trans hcls.1)
      subst hcomp
      obtain ⟨kC, hkC, -⟩ := hcls.2
      have hin := zin_vp hi
      have hlt : i.toNatClampNeg < zln σ a := Nat.not_le.mp fun q => hin (Or.inr q)
      refine W.aast hC.1 hC.2.1 (hP.2.1 q0 _ hq) (fun q h => by cases h) (fun h => by cases h) k1 k2 rfl hkC ⟨fun q => hin (Or.inl q), by show _ < (arrV _ _ _).slots.size; rw [arrV_size]; exact hlt⟩ g1 (fun q h => by rw [g3] at h; cases h) (by rw [g2]; exact hkC) (by rw [g2]; exact va_assign hcls) rfl rfl hd fun H1 e1 z oq => ?_
      refine hk _ _ _ _ _ h H1 _ cells slots lsA (hP.put h16 hq' z (hP.2.1.set (hP.D0 hM) hq ?_ oq) rfl (fun _ => rfl) rfl (zent_sq hka (by decide))) (zSm_sq hM _ _ _) (hS.put z oq ((hP.D0 hM).2 q0 _ hq)) hL hc hs
      show H1[a]? = some (vp_cell _ _)
      rw [e1]
      rw [vp_cell_q, vp_cell_q, arrV_store]
      congr 2
      funext q
      by_cases hq : q = i.toNatClampNeg
      · subst hq
        simp [updV, va_up, va_rf]
      · simp [updV, va_up, hq]
    · cases h
end ROWS
