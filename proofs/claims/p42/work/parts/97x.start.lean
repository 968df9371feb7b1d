/-! the start: what the tables say -/
theorem st_tb {s : State} {A0 : Array Value} (hts : ∀ w ∈ lw_tbl, w.before A0 s = true) : zTb s := by
  intro w hw hk A
  have h0 := hts w hw
  cases w with
  | fieldLinkNest a i b n d hh => exact va_tabs rfl rfl h0
  | methodLinkNest a i x hh => exact va_tabs rfl rfl h0
  | arrayOver ty =>
    cases ty with
    | object C => exact va_AO.use (va_AO.of h0)
    | _ => exact word_at (args := A0) (State.WarmedH.refl s) (good_of_word hk) h0
  | _ => exact word_at (args := A0) (State.WarmedH.refl s) (good_of_word hk) h0
theorem st_arr {s : State} {c : ClassId} {k : Class} {comp : ClassId} {ty : FieldType} (hk : s.vm.classes[c]? = some k) (hkk : k.kind = .array comp ty) : ArrOfT s c ty := fun n z => ⟨fun _ h => (by cases h), k, hk, comp, hkk⟩
theorem st_K {s : State} {A0 : Array Value} (hts : ∀ w ∈ lw_tbl, w.before A0 s = true) : ∃ (D : va_G) (cy : Nat → ClassId), va_K D vwCl (zTys cy) s := by
  obtain ⟨c0, i0, h0⟩ := u_known (C := RX0) (T := TX0) (N := 3) (n := 3) hts ziX0 (hts _ k_49)
  obtain ⟨c1, i1, h1⟩ := u_known (C := RX1) (T := TX1) (N := 2) (n := 2) hts ziX1 (hts _ k_170)
  obtain ⟨c2, i2, h2⟩ := u_known (C := RX3) (T := TX3) (N := 7) (n := 7) hts ziX3 (hts _ k_77)
  obtain ⟨c3, i3, h3⟩ := u_known (C := RX4) (T := TX4) (N := 9) (n := 9) hts ziX4 (hts _ k_83)
  obtain ⟨c4, i4, h4⟩ := u_known (C := RX6) (T := TX6) (N := 3) (n := 3) hts ziX6 (hts _ k_55)
  obtain ⟨c5, i5, h5⟩ := u_known (C := RX7) (T := TX7) (N := 5) (n := 5) hts ziX7 (hts _ k_252)
  obtain ⟨c6, i6, h6⟩ := u_known (C := RX8) (T := TX8) (N := 7) (n := 7) hts ziX8 (hts _ k_187)
  obtain ⟨c7, i7, h7⟩ := u_known (C := RX9) (T := TX9) (N := 9) (n := 9) hts ziX9 (hts _ k_210)
  obtain ⟨c8, i8, h8⟩ := u_known (C := RX10) (T := TX10) (N := 9) (n := 9) hts ziX10 (hts _ k_41)
  obtain ⟨a0, ka0, p0, f0, g0, e0⟩ := Cond.arrayClass_spec (hts _ k_208)
  obtain ⟨a1, ka1, p1, f1, g1, e1⟩ := Cond.arrayClass_spec (hts _ k_74)
  obtain ⟨p3, a3, ka3, q3, -, g3, e3, f3⟩ := Cond.arrayOver_spec (hts _ k_176)
  obtain ⟨p4, a4, ka4, q4, -, g4, e4, f4⟩ := Cond.arrayOver_spec (hts _ k_76)
  obtain ⟨p5, a5, ka5, q5, -, g5, e5, f5⟩ := Cond.arrayOver_spec (hts _ k_216)
  refine ⟨(fun k => match k with | 0 => c0 | 1 => c1 | 2 => c2 | 3 => c3 | 4 => c4 | 5 => c5 | 6 => c6 | 7 => c7 | _ => c8, fun k => match k with | 0 => i0 | 1 => i1 | 2 => i2 | 3 => i3 | 4 => i4 | 5 => i5 | 6 => i6 | 7 => i7 | _ => i8), fun k => match k with | 10 => a0 | 11 => a1 | 13 => a3 | 14 => a4 | _ => a5, fun c q hq => ?_, fun k q hq => ?_⟩
  · match c, hq with
    | 0, hq => cases hq; exact h0
    | 1, hq => cases hq; exact h1
    | 2, hq => cases hq; exact h2
    | 3, hq => cases hq; exact h3
    | 4, hq => cases hq; exact h4
    | 5, hq => cases hq; exact h5
    | 6, hq => cases hq; exact h6
    | 7, hq => cases hq; exact h7
    | 8, hq => cases hq; exact h8
    | c + 9, hq => simp [vwCl] at hq
  · match k, hq with
    | 0, hq => cases hq; exact ⟨st_arr g0 e0, f0⟩
    | 1, hq => cases hq; exact ⟨st_arr g1 e1, f1⟩
    | 2, hq => cases hq; exact ⟨st_arr g3 e3, ka3, p3, g3, e3, q3, f3⟩
    | 3, hq => cases hq; exact ⟨st_arr g4 e4, ka4, p4, g4, e4, q4, f4⟩
    | 4, hq => cases hq; exact ⟨st_arr g5 e5, ka5, p5, g5, e5, q5, f5⟩
    | k + 5, hq => simp [zTys] at hq
/-! what lies in the heap at the start, and nobody writes -/
def xA (s : State) : Nat → Prop := fun q => s.heap.size ≤ q
theorem xA_no (s : State) : ∀ a : Nat, a < s.heap.size → ¬ xA s a := fun a h => Nat.not_le.mpr h
def P16 (s : State) (a : Nat) (p : Nat × (Nat → Int32)) : Prop := p.1 < 2 ^ 31 ∧ va_T .int a p.1 (fun i => .int (p.2 i)) (xA s) s s.heap
theorem T_uniq {s : State} {a : Nat} {ty : FieldType} {p q : Nat × (Nat → Int32)} (hp : p.1 < 2 ^ 31) (hq : q.1 < 2 ^ 31) (h : va_T ty a p.1 (fun i => .int (p.2 i)) (xA s) s s.heap) (g : va_T ty a q.1 (fun i => .int (q.2 i)) (xA s) s s.heap) : p.1 = q.1 ∧ ∀ j, j < p.1 → p.2 j = q.2 j := by
  obtain ⟨c, h1, h2, h3, h4, h5, h6, -⟩ := h
  obtain ⟨c', g1, g2, g3, g4, g5, g6, -⟩ := g
  cases h1.symm.trans g1
  have e : p.1 = q.1 := (n_eq hp hq).mp (h5.symm.trans g5)
  exact ⟨e, fun j hj => Value.int.inj (Option.some.inj ((h6 j hj).symm.trans (g6 j (e ▸ hj))))⟩
theorem T_lt {s : State} {a N : Nat} {ty : FieldType} {f : Nat → Value} {A : Nat → Prop} (h : va_T ty a N f A s s.heap) : a < s.heap.size := by
  obtain ⟨c, h1, -⟩ := h
  exact (Array.getElem?_eq_some_iff.mp h1).1
/-- a picture of the start: choices of what the heap holds -/
theorem st_pic (s : State) (tb : Nat → Nat) : ∃ σ : zS, znx σ = s.heap.size ∧ zdm σ = [] ∧ (∀ a, 16 ≤ zkd σ a) ∧ (∀ a p, P16 s a p → zkd σ a = 16 ∧ zln σ a = p.1 ∧ ∀ j, j < p.1 → zai σ a j = p.2 j) ∧ (∀ a, zkd σ a = 16 → ∃ p, P16 s a p) ∧ ∀ j, zr σ 640 j = if 1 ≤ j ∧ j < 5 then some (tb j) else none := by
  have hk : ∀ a, ∃ k : Nat × Nat × (Nat → Int32), 16 ≤ k.1 ∧ (∀ p, P16 s a p → k.1 = 16 ∧ k.2.1 = p.1 ∧ ∀ j, j < p.1 → k.2.2 j = p.2 j) ∧ (k.1 = 16 → ∃ p, P16 s a p) := by
    intro a
    by_cases h6 : ∃ p, P16 s a p
    · obtain ⟨p, hp⟩ := h6
      refine ⟨(16, p.1, p.2), Nat.le_refl _, fun q hq => ?_, fun _ => ⟨p, hp⟩⟩
      obtain ⟨e1, e2⟩ := T_uniq hp.1 hq.1 hp.2 hq.2
      exact ⟨rfl, e1, fun j hj => e2 j (e1 ▸ hj)⟩
    · exact ⟨(99, 0, fun _ => 0), (by decide : (16 : Nat) ≤ 99), fun q hq => (h6 ⟨q, hq⟩).elim, fun e => absurd (show (99 : Nat) = 16 from e) (by decide)⟩
  obtain ⟨kf, hkf⟩ := Classical.axiomOfChoice hk
  exact ⟨(fun _ _ => 0, fun f a => if f = 640 then (if 1 ≤ a ∧ a < 5 then some (tb a) else none) else none, fun _ _ => 0, fun a i => (kf a).2.2 i, fun _ _ => none, fun a => (kf a).2.1, fun a => (kf a).1, s.heap.size, []), rfl, rfl, fun a => (hkf a).1, fun a p hp => (hkf a).2.1 p hp, fun a e => (hkf a).2.2 e, fun j => rfl⟩
/-! what the Statement says of the start, by its places -/
abbrev sFL : List Cond := flatC (Jvm.Cond.and given_1 narrow_1)
def pT (j : Nat) : Nat := match j with
  | 1 => 5
  | 2 => 22
  | 3 => 39
  | _ => 56
abbrev tmT (j : Nat) : Term := .static RX2 (zStN j) "[I"
set_option maxRecDepth 100000 in
theorem f_tA : ∀ j, j < 5 → 1 ≤ j → sFL[pT j]? = some (Cond.arrayOf (tmT j) .int) := by decide +kernel
set_option maxRecDepth 100000 in
theorem f_tL : ∀ j, j < 5 → 1 ≤ j → sFL[pT j + 1]? = some (Cond.eq (.length (tmT j)) (.int 14)) := by decide +kernel
set_option maxRecDepth 100000 in
theorem f_tE : ∀ j, j < 5 → 1 ≤ j → ∀ i, i < 14 → sFL[pT j + 2 + i]? = some (Cond.eq (.elem (tmT j) (.int (Int32.ofNat i))) (.int (iI (tbK j i)))) := by decide +kernel
theorem l_st : ∀ j, j < 5 → 1 ≤ j → Cond.laysStatic RX2 (zStN j) "[I" ∈ lw_tbl := by decide +kernel
theorem l_si : Cond.initialized RX2 ∈ lw_tbl := by decide +kernel
/-- the picture at the start -/
theorem st_ext {s : State} {b L : Nat} {xs : Nat → Int32} (hL : L ≤ 260) (hts : ∀ w ∈ lw_tbl, w.before #[Value.ref b] s = true) (hX : va_X b L xs s s.heap) (hgv : (Jvm.Cond.and given_1 narrow_1).before #[Value.ref b] s = true) :
    ∃ σ : zS, znx σ = s.heap.size ∧ zdm σ = [] ∧ (∀ a, 16 ≤ zkd σ a) ∧ zExt (zA σ) s σ s.heap ∧ StK σ s.heap.size ∧ zkd σ b = 16 ∧ zln σ b = L ∧ ∀ i, i < L → zai σ b i = xs i := by
  have hs := flat_of_before _ hgv
  have at_ : ∀ (i : Nat) (w : Cond), sFL[i]? = some w → w.before #[Value.ref b] s = true := fun i w h => hs w (List.mem_of_getElem? h)
  have hA := xA_no s
  -- the script
  have hb : P16 s b (L, xs) := by
    obtain ⟨c, h1, h2, h3, h4, h5⟩ := hX
    refine ⟨(show L < 2 ^ 31 by omega), c, h1, h2, h3, (show L ≤ c.slots.size by omega), ?_, h5, hA b (Array.getElem?_eq_some_iff.mp h1).1⟩
    rw [h4]
  -- the static rows
  have ht : ∀ j, ∃ t, (1 ≤ j ∧ j < 5) → (tmT j).eval #[Value.ref b] s none [] s = some (.ref t) ∧ P16 s t (14, fun i => iI (tbK j i)) := by
    intro j
    by_cases hj : 1 ≤ j ∧ j < 5
    · obtain ⟨t, e, hT⟩ := va_Tof (N := 14) (f := fun i => .int (iI (tbK j i))) (A := xA s) (by decide) (at_ _ _ (f_tA j hj.2 hj.1)) (va_eqt (at_ _ _ (f_tL j hj.2 hj.1))) (fun i hi => va_eqt (at_ _ _ (f_tE j hj.2 hj.1 i hi))) hA
      exact ⟨t, fun _ => ⟨e, (by decide : (14 : Nat) < 2 ^ 31), hT⟩⟩
    · exact ⟨0, fun h => absurd h hj⟩
  obtain ⟨tb, htb⟩ := Classical.axiomOfChoice ht
  obtain ⟨σ, n1, n2, n3, n4, n6, n8⟩ := st_pic s tb
  have nar : ∀ q, zA σ q → xA s q := fun q h => by
    rcases h with h | h
    · have := n3 q; omega
    · rw [n1] at h; exact h
  have hz : zExt (zA σ) s σ s.heap := by
    refine ⟨fun j t hj e => ?_, fun a hk => ?_⟩
    · rw [n8] at e
      by_cases hj1 : 1 ≤ j ∧ j < 5
      · rw [if_pos hj1] at e
        cases e
        exact (va_Zof (hts _ (l_st j hj hj1.1)) (hts _ l_si) (htb j hj1).1 hA).narrow nar
      · rw [if_neg hj1] at e
        cases e
    · obtain ⟨p, hp⟩ := n6 a hk
      obtain ⟨e1, e2, e3⟩ := n4 a p hp
      obtain ⟨c, h1, h2, h3, h4, h5, h6, h7⟩ := hp.2
      refine ⟨c, h1, h2, h3, by rw [e2]; exact h4, by rw [e2]; exact h5, fun i hi => ?_, fun z => h7 (nar a z)⟩
      rw [e2] at hi
      show _ = some (Value.int (zai σ a i))
      rw [e3 i hi]
      exact h6 i hi
  refine ⟨σ, n1, n2, n3, hz, fun j hj => ?_, (n4 b _ hb).1, (n4 b _ hb).2.1, (n4 b _ hb).2.2⟩
  obtain ⟨e1, hp⟩ := htb j hj
  obtain ⟨g1, g2, g3⟩ := n4 _ _ hp
  exact ⟨tb j, by rw [n8, if_pos hj], T_lt hp.2, g1, g2, g3⟩
