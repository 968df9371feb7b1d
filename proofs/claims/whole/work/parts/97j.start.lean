/-! the start: what the tables say -/
theorem st_tb {s : State} {A0 : Array Value} (hts : ∀ w ∈ lw_tbl, w.before A0 s = true) : zTb s := by
  intro w hw hk A
  have h0 := hts w hw
  cases w with
  | fieldLinkNest a i b n d hh => exact va_tabs rfl rfl h0
  | methodLinkNest a i x hh => exact va_tabs rfl rfl h0
  | arrayOver ty =>
    cases ty with
    | object C => exact va_AO.use (va_AO.of h0)
    | _ => exact word_at (args := A0) (State.WarmedH.refl s) (good_of_word hk) h0
  | _ => exact word_at (args := A0) (State.WarmedH.refl s) (good_of_word hk) h0
theorem st_arr {s : State} {c : ClassId} {k : Class} {comp : ClassId} {ty : FieldType} (hk : s.vm.classes[c]? = some k) (hkk : k.kind = .array comp ty) : ArrOfT s c ty := fun n z => ⟨fun _ h => (by cases h), k, hk, comp, hkk⟩
theorem st_K {s : State} {A0 : Array Value} (hts : ∀ w ∈ lw_tbl, w.before A0 s = true) : ∃ (D : va_G) (cy : Nat → ClassId), va_K D vwCl (zTys cy) s := by
  obtain ⟨c0, i0, h0⟩ := u_known (C := RX0) (T := TX0) (N := 3) (n := 3) hts ziX0 (hts _ k_119)
  obtain ⟨c1, i1, h1⟩ := u_known (C := RX1) (T := TX1) (N := 2) (n := 2) hts ziX1 (hts _ k_243)
  obtain ⟨c2, i2, h2⟩ := u_known (C := RX3) (T := TX3) (N := 7) (n := 7) hts ziX3 (hts _ k_147)
  obtain ⟨c3, i3, h3⟩ := u_known (C := RX4) (T := TX4) (N := 9) (n := 9) hts ziX4 (hts _ k_153)
  obtain ⟨c4, i4, h4⟩ := u_known (C := RX6) (T := TX6) (N := 3) (n := 3) hts ziX6 (hts _ k_125)
  obtain ⟨c5, i5, h5⟩ := u_known (C := RX7) (T := TX7) (N := 5) (n := 5) hts ziX7 (hts _ k_332)
  obtain ⟨c6, i6, h6⟩ := u_known (C := RX8) (T := TX8) (N := 7) (n := 7) hts ziX8 (hts _ k_260)
  obtain ⟨c7, i7, h7⟩ := u_known (C := RX9) (T := TX9) (N := 9) (n := 9) hts ziX9 (hts _ k_290)
  obtain ⟨c8, i8, h8⟩ := u_known (C := RX10) (T := TX10) (N := 9) (n := 9) hts ziX10 (hts _ k_111)
  obtain ⟨c9, i9, h9⟩ := u_known (C := RX11) (T := TX11) (N := 40) (n := 40) hts ziX11 (hts _ k_1097)
  obtain ⟨a0, ka0, p0, f0, g0, e0⟩ := Cond.arrayClass_spec (hts _ k_288)
  obtain ⟨a1, ka1, p1, f1, g1, e1⟩ := Cond.arrayClass_spec (hts _ k_144)
  obtain ⟨a2, ka2, p2, f2, g2, e2⟩ := Cond.arrayClass_spec (hts _ k_1230)
  obtain ⟨p3, a3, ka3, q3, -, g3, e3, f3⟩ := Cond.arrayOver_spec (hts _ k_249)
  obtain ⟨p4, a4, ka4, q4, -, g4, e4, f4⟩ := Cond.arrayOver_spec (hts _ k_146)
  obtain ⟨p5, a5, ka5, q5, -, g5, e5, f5⟩ := Cond.arrayOver_spec (hts _ k_296)
  refine ⟨(fun k => match k with | 0 => c0 | 1 => c1 | 2 => c2 | 3 => c3 | 4 => c4 | 5 => c5 | 6 => c6 | 7 => c7 | 8 => c8 | _ => c9, fun k => match k with | 0 => i0 | 1 => i1 | 2 => i2 | 3 => i3 | 4 => i4 | 5 => i5 | 6 => i6 | 7 => i7 | 8 => i8 | _ => i9), fun k => match k with | 10 => a0 | 11 => a1 | 12 => a2 | 13 => a3 | 14 => a4 | _ => a5, fun c q hq => ?_, fun k q hq => ?_⟩
  · match c, hq with
    | 0, hq => cases hq; exact h0
    | 1, hq => cases hq; exact h1
    | 2, hq => cases hq; exact h2
    | 3, hq => cases hq; exact h3
    | 4, hq => cases hq; exact h4
    | 5, hq => cases hq; exact h5
    | 6, hq => cases hq; exact h6
    | 7, hq => cases hq; exact h7
    | 8, hq => cases hq; exact h8
    | 9, hq => cases hq; exact h9
    | c + 10, hq => simp [vwCl] at hq
  · match k, hq with
    | 0, hq => cases hq; exact ⟨st_arr g0 e0, f0⟩
    | 1, hq => cases hq; exact ⟨st_arr g1 e1, f1⟩
    | 2, hq => cases hq; exact ⟨st_arr g2 e2, f2⟩
    | 3, hq => cases hq; exact ⟨st_arr g3 e3, ka3, p3, g3, e3, q3, f3⟩
    | 4, hq => cases hq; exact ⟨st_arr g4 e4, ka4, p4, g4, e4, q4, f4⟩
    | 5, hq => cases hq; exact ⟨st_arr g5 e5, ka5, p5, g5, e5, q5, f5⟩
    | k + 6, hq => simp [zTys] at hq
/-! what lies in the heap at the start, and nobody writes -/
def xA (s : State) : Nat → Prop := fun q => s.heap.size ≤ q
theorem xA_no (s : State) : ∀ a : Nat, a < s.heap.size → ¬ xA s a := fun a h => Nat.not_le.mpr h
def P16 (s : State) (a : Nat) (p : Nat × (Nat → Int32)) : Prop := p.1 < 2 ^ 31 ∧ va_T .int a p.1 (fun i => .int (p.2 i)) (xA s) s s.heap
def P18 (s : State) (a : Nat) (p : Nat × (Nat → Int32)) : Prop := p.1 < 2 ^ 31 ∧ va_T .byte a p.1 (fun i => .int (p.2 i)) (xA s) s s.heap
def Q17 (s : State) (a v : Nat) : Prop := va_O "java/lang/String" a (xA s) s s.heap ∧ va_OF "java/lang/String" "coder" "B" (.int 0) a (xA s) s s.heap ∧ va_OF "java/lang/String" "value" "[B" (.ref v) a (xA s) s s.heap
theorem T_uniq {s : State} {a : Nat} {ty : FieldType} {p q : Nat × (Nat → Int32)} (hp : p.1 < 2 ^ 31) (hq : q.1 < 2 ^ 31) (h : va_T ty a p.1 (fun i => .int (p.2 i)) (xA s) s s.heap) (g : va_T ty a q.1 (fun i => .int (q.2 i)) (xA s) s s.heap) : p.1 = q.1 ∧ ∀ j, j < p.1 → p.2 j = q.2 j := by
  obtain ⟨c, h1, h2, h3, h4, h5, h6, -⟩ := h
  obtain ⟨c', g1, g2, g3, g4, g5, g6, -⟩ := g
  cases h1.symm.trans g1
  have e : p.1 = q.1 := (n_eq hp hq).mp (h5.symm.trans g5)
  exact ⟨e, fun j hj => Value.int.inj (Option.some.inj ((h6 j hj).symm.trans (g6 j (e ▸ hj))))⟩
theorem T_apart {s : State} {a : Nat} {p q : Nat × (Nat → Int32)} (h : P16 s a p) (g : P18 s a q) : False := by
  obtain ⟨-, c, h1, ⟨-, k, h2, comp, h3⟩, -⟩ := h
  obtain ⟨-, c', g1, ⟨-, k', g2, comp', g3⟩, -⟩ := g
  cases h1.symm.trans g1
  cases h2.symm.trans g2
  cases h3.symm.trans g3
theorem Q_uniq {s : State} {a v w : Nat} (h : Q17 s a v) (g : Q17 s a w) : v = w := by
  obtain ⟨cf, k, i, f, c, h1, h2, h3, h4, h5, -⟩ := h.2.2
  obtain ⟨cf', k', i', f', c', g1, g2, g3, g4, g5, -⟩ := g.2.2
  cases h1.symm.trans g1
  cases h3.symm.trans g3
  exact Value.ref.inj (Option.some.inj (h5.symm.trans g5))
theorem T_lt {s : State} {a N : Nat} {ty : FieldType} {f : Nat → Value} {A : Nat → Prop} (h : va_T ty a N f A s s.heap) : a < s.heap.size := by
  obtain ⟨c, h1, -⟩ := h
  exact (Array.getElem?_eq_some_iff.mp h1).1
theorem O_lt {s : State} {a : Nat} {A : Nat → Prop} {E : String} (h : va_O E a A s s.heap) : a < s.heap.size := by
  obtain ⟨c, h1, -⟩ := h
  exact (Array.getElem?_eq_some_iff.mp h1).1
/-- a picture of the start: choices of what the heap holds -/
theorem st_pic (s : State) (tb : Nat → Nat) (st : Nat → Nat) (fm : Option Nat) : ∃ σ : zS, znx σ = s.heap.size ∧ zdm σ = [] ∧ (∀ a, 16 ≤ zkd σ a) ∧ (∀ a p, P16 s a p → zkd σ a = 16 ∧ zln σ a = p.1 ∧ ∀ j, j < p.1 → zai σ a j = p.2 j) ∧ (∀ a p, P18 s a p → zkd σ a = 18 ∧ zln σ a = p.1 ∧ ∀ j, j < p.1 → zai σ a j = p.2 j) ∧ (∀ a, zkd σ a = 16 → ∃ p, P16 s a p) ∧ (∀ a, zkd σ a = 18 → ∃ p, P18 s a p) ∧ (∀ j, zr σ 640 j = if j < 5 then some (tb j) else none) ∧ (∀ k, zr σ 641 k = if k < 27 then some (st k) else none) ∧ (∀ a v, zr σ 642 a = some v ↔ Q17 s a v) ∧ zr σ 643 0 = fm := by
  have hk : ∀ a, ∃ k : Nat × Nat × (Nat → Int32), 16 ≤ k.1 ∧ (∀ p, P16 s a p → k.1 = 16 ∧ k.2.1 = p.1 ∧ ∀ j, j < p.1 → k.2.2 j = p.2 j) ∧ (∀ p, P18 s a p → k.1 = 18 ∧ k.2.1 = p.1 ∧ ∀ j, j < p.1 → k.2.2 j = p.2 j) ∧ (k.1 = 16 → ∃ p, P16 s a p) ∧ (k.1 = 18 → ∃ p, P18 s a p) := by
    intro a
    by_cases h6 : ∃ p, P16 s a p
    · obtain ⟨p, hp⟩ := h6
      refine ⟨(16, p.1, p.2), Nat.le_refl _, fun q hq => ?_, fun q hq => (T_apart hp hq).elim, fun _ => ⟨p, hp⟩, fun e => absurd (show (16 : Nat) = 18 from e) (by decide)⟩
      obtain ⟨e1, e2⟩ := T_uniq hp.1 hq.1 hp.2 hq.2
      exact ⟨rfl, e1, fun j hj => e2 j (e1 ▸ hj)⟩
    · by_cases h8 : ∃ p, P18 s a p
      · obtain ⟨p, hp⟩ := h8
        refine ⟨(18, p.1, p.2), (by decide : (16 : Nat) ≤ 18), fun q hq => (h6 ⟨q, hq⟩).elim, fun q hq => ?_, fun e => absurd (show (18 : Nat) = 16 from e) (by decide), fun _ => ⟨p, hp⟩⟩
        obtain ⟨e1, e2⟩ := T_uniq hp.1 hq.1 hp.2 hq.2
        exact ⟨rfl, e1, fun j hj => e2 j (e1 ▸ hj)⟩
      · exact ⟨(99, 0, fun _ => 0), (by decide : (16 : Nat) ≤ 99), fun q hq => (h6 ⟨q, hq⟩).elim, fun q hq => (h8 ⟨q, hq⟩).elim, fun e => absurd (show (99 : Nat) = 16 from e) (by decide), fun e => absurd (show (99 : Nat) = 18 from e) (by decide)⟩
  have hv : ∀ a, ∃ o : Option Nat, ∀ v, o = some v ↔ Q17 s a v := by
    intro a
    by_cases h7 : ∃ v, Q17 s a v
    · obtain ⟨v, hv⟩ := h7
      exact ⟨some v, fun w => ⟨fun e => Option.some.inj e ▸ hv, fun g => by rw [Q_uniq hv g]⟩⟩
    · exact ⟨none, fun w => ⟨fun e => (by cases e), fun g => (h7 ⟨w, g⟩).elim⟩⟩
  obtain ⟨kf, hkf⟩ := Classical.axiomOfChoice hk
  obtain ⟨vf, hvf⟩ := Classical.axiomOfChoice hv
  refine ⟨(fun _ _ => 0, fun f a => if f = 640 then (if a < 5 then some (tb a) else none) else if f = 641 then (if a < 27 then some (st a) else none) else if f = 642 then vf a else if f = 643 then fm else none, fun _ _ => 0, fun a i => (kf a).2.2 i, fun _ _ => none, fun a => (kf a).2.1, fun a => (kf a).1, s.heap.size, []), rfl, rfl, fun a => (hkf a).1, fun a p hp => (hkf a).2.1 p hp, fun a p hp => (hkf a).2.2.1 p hp, fun a e => (hkf a).2.2.2.1 e, fun a e => (hkf a).2.2.2.2 e, fun j => rfl, fun k => rfl, fun a v => hvf a v, rfl⟩
/-! what the Statement says of the start, by its places -/
abbrev sFL : List Cond := flatC (Jvm.Cond.and given_1 narrow_1)
def pT (j : Nat) : Nat := match j with
  | 0 => 78
  | 1 => 5
  | 2 => 22
  | 3 => 39
  | _ => 56
def pSt (k : Nat) : Nat := [94, 104, 118, 130, 143, 153, 166, 174, 184, 194, 203, 214, 224, 232, 243, 247, 258, 266, 273, 283, 295, 305, 316, 326, 340, 347, 359].getD k 0
abbrev tmT (j : Nat) : Term := .static RX2 (zStN j) "[I"
abbrev tmS (k : Nat) : Term := .string (zSk k).1 (zSk k).2.1
set_option maxRecDepth 100000 in
theorem f_tA : ∀ j, j < 5 → sFL[pT j]? = some (Cond.arrayOf (tmT j) .int) := by decide +kernel
set_option maxRecDepth 100000 in
theorem f_tL : ∀ j, j < 5 → sFL[pT j + 1]? = some (Cond.eq (.length (tmT j)) (.int 14)) := by decide +kernel
set_option maxRecDepth 100000 in
theorem f_tE : ∀ j, j < 5 → ∀ i, i < 14 → sFL[pT j + 2 + i]? = some (Cond.eq (.elem (tmT j) (.int (Int32.ofNat i))) (.int (iI (tbK j i)))) := by decide +kernel
set_option maxRecDepth 100000 in
theorem f_sX : ∀ k, k < 27 → sFL[pSt k]? = some (Cond.exactly (tmS k) "java/lang/String") := by decide +kernel
set_option maxRecDepth 100000 in
theorem f_sC : ∀ k, k < 27 → sFL[pSt k + 1]? = some (Cond.eq (.field (tmS k) "java/lang/String" "coder" "B") (.int 0)) := by decide +kernel
set_option maxRecDepth 100000 in
theorem f_sA : ∀ k, k < 27 → sFL[pSt k + 2]? = some (Cond.arrayOf (.field (tmS k) "java/lang/String" "value" "[B") .byte) := by decide +kernel
set_option maxRecDepth 100000 in
theorem f_sL : ∀ k, k < 27 → sFL[pSt k + 3]? = some (Cond.eq (.length (.field (tmS k) "java/lang/String" "value" "[B")) (.int (Int32.ofNat (nmW k).length))) := by decide +kernel
set_option maxRecDepth 100000 in
theorem f_sE : ∀ k, k < 27 → ∀ i, i < (nmW k).length → sFL[pSt k + 4 + i]? = some (Cond.eq (.elem (.field (tmS k) "java/lang/String" "value" "[B") (.int (Int32.ofNat i))) (.int (nI ((nmW k).getD i 0)))) := by decide +kernel
set_option maxRecDepth 100000 in
theorem f_cs : sFL[72]? = some (Cond.eq (.static "java/lang/String" "COMPACT_STRINGS" "Z") (.int 1)) := by decide +kernel
set_option maxRecDepth 100000 in
theorem f_fm : sFL[73]? = some (Cond.isRef (.static "jdk/internal/util/Preconditions" "SIOOBE_FORMATTER" "Ljava/util/function/BiFunction;")) := by decide +kernel
theorem l_st : ∀ j, j < 5 → Cond.laysStatic RX2 (zStN j) "[I" ∈ lw_tbl := by decide +kernel
theorem l_si : Cond.initialized RX2 ∈ lw_tbl := by decide +kernel
theorem l_cs : Cond.laysStatic "java/lang/String" "COMPACT_STRINGS" "Z" ∈ lw_tbl := by decide +kernel
theorem l_ci : Cond.initialized "java/lang/String" ∈ lw_tbl := by decide +kernel
theorem l_fm : Cond.laysStatic "jdk/internal/util/Preconditions" "SIOOBE_FORMATTER" "Ljava/util/function/BiFunction;" ∈ lw_tbl := by decide +kernel
theorem l_fi : Cond.initialized "jdk/internal/util/Preconditions" ∈ lw_tbl := by decide +kernel
theorem l_sr : ∀ k, k < 27 → Cond.stringRef (zSk k).1 (zSk k).2.1 (zSk k).2.2 ∈ lw_tbl := by decide +kernel
theorem rf_of {v : Value} (h : v.isRef = true) : ∃ o, v = va_rf o := by
  cases v with
  | ref a => exact ⟨some a, rfl⟩
  | null => exact ⟨none, rfl⟩
  | _ => exact nomatch h
/-- the picture at the start -/
theorem st_ext {s : State} {b L : Nat} {xs : Nat → Int32} (hL : L ≤ 3584) (hts : ∀ w ∈ lw_tbl, w.before #[Value.ref b] s = true) (hX : va_X b L xs s s.heap) (hgv : (Jvm.Cond.and given_1 narrow_1).before #[Value.ref b] s = true) :
    ∃ σ : zS, znx σ = s.heap.size ∧ zdm σ = [] ∧ (∀ a, 16 ≤ zkd σ a) ∧ zExt zSk (zA σ) s σ s.heap ∧ StK σ s.heap.size ∧ StW σ s.heap.size ∧ zkd σ b = 16 ∧ zln σ b = L ∧ ∀ i, i < L → zai σ b i = xs i := by
  have hs := flat_of_before _ hgv
  have at_ : ∀ (i : Nat) (w : Cond), sFL[i]? = some w → w.before #[Value.ref b] s = true := fun i w h => hs w (List.mem_of_getElem? h)
  have hA := xA_no s
  -- the script
  have hb : P16 s b (L, xs) := by
    obtain ⟨c, h1, h2, h3, h4, h5⟩ := hX
    refine ⟨(show L < 2 ^ 31 by omega), c, h1, h2, h3, (show L ≤ c.slots.size by omega), ?_, h5, hA b (Array.getElem?_eq_some_iff.mp h1).1⟩
    rw [h4]
  -- the static rows
  have ht : ∀ j, ∃ t, j < 5 → (tmT j).eval #[Value.ref b] s none [] s = some (.ref t) ∧ P16 s t (14, fun i => iI (tbK j i)) := by
    intro j
    by_cases hj : j < 5
    · obtain ⟨t, e, hT⟩ := va_Tof (N := 14) (f := fun i => .int (iI (tbK j i))) (A := xA s) (by decide) (at_ _ _ (f_tA j hj)) (va_eqt (at_ _ _ (f_tL j hj))) (fun i hi => va_eqt (at_ _ _ (f_tE j hj i hi))) hA
      exact ⟨t, fun _ => ⟨e, (by decide : (14 : Nat) < 2 ^ 31), hT⟩⟩
    · exact ⟨0, fun h => absurd h hj⟩
  obtain ⟨tb, htb⟩ := Classical.axiomOfChoice ht
  -- the strings
  have hstr : ∀ k, ∃ q : Nat × Nat, k < 27 → (tmS k).eval #[Value.ref b] s none [] s = some (.ref q.1) ∧ Q17 s q.1 q.2 ∧ P18 s q.2 ((nmW k).length, fun i => nI ((nmW k).getD i 0)) := by
    intro k
    by_cases hk : k < 27
    · have hlen : ∀ k, k < 27 → (nmW k).length < 100 := by decide
      obtain ⟨a, c, cA, kA, q1, q2, q3, q4, q5, q6, -⟩ := Cond.exactly_spec (args := #[Value.ref b]) (first := s) (o := none) (s := s) (idx := []) (t := tmS k) (cls := "java/lang/String") (at_ _ _ (f_sX k hk))
      obtain ⟨v, hv, hT⟩ := va_Tof (N := (nmW k).length) (f := fun i => .int (nI ((nmW k).getD i 0))) (A := xA s) (by have := hlen k hk; omega) (at_ _ _ (f_sA k hk)) (va_eqt (at_ _ _ (f_sL k hk))) (fun i hi => va_eqt (at_ _ _ (f_sE k hk i hi))) hA
      exact ⟨(a, v), fun _ => ⟨q1, ⟨⟨cA, q3, q5, by rw [q6]; exact q2, hA a (Array.getElem?_eq_some_iff.mp q3).1⟩, vk_OFof q1 (va_eqt (at_ _ _ (f_sC k hk))) hA, vk_OFof q1 hv hA⟩, (by have := hlen k hk; show (nmW k).length < 2 ^ 31; omega), hT⟩⟩
    · exact ⟨(0, 0), fun h => absurd h hk⟩
  obtain ⟨sv, hsv⟩ := Classical.axiomOfChoice hstr
  -- the formatter
  obtain ⟨fv, hf1, hf2⟩ := Cond.isRef_spec (at_ _ _ f_fm)
  obtain ⟨fm, rfl⟩ := rf_of hf2
  obtain ⟨σ, n1, n2, n3, n4, n5, n6, n7, n8, n9, n10, n11⟩ := st_pic s tb (fun k => (sv k).1) fm
  have nar : ∀ q, zA σ q → xA s q := fun q h => by
    rcases h with h | h
    · have := n3 q; omega
    · rw [n1] at h; exact h
  have hz : zExt zSk (zA σ) s σ s.heap := by
    refine ⟨fun j t hj e => ?_, fun a hk => ?_, fun k t e => ?_, fun a v hv => ?_, fun a hk => ?_, ?_, ?_⟩
    · rw [n8, if_pos hj] at e
      cases e
      exact (va_Zof (hts _ (l_st j hj)) (hts _ l_si) (htb j hj).1 hA).narrow nar
    · obtain ⟨p, hp⟩ := n6 a hk
      obtain ⟨e1, e2, e3⟩ := n4 a p hp
      obtain ⟨c, h1, h2, h3, h4, h5, h6, h7⟩ := hp.2
      refine ⟨c, h1, h2, h3, by rw [e2]; exact h4, by rw [e2]; exact h5, fun i hi => ?_, fun z => h7 (nar a z)⟩
      rw [e2] at hi
      show _ = some (Value.int (zai σ a i))
      rw [e3 i hi]
      exact h6 i hi
    · rw [n9] at e
      by_cases hk : k < 27
      · rw [if_pos hk] at e
        cases e
        exact vk_R.of (hts _ (l_sr k hk)) (hsv k hk).1
      · rw [if_neg hk] at e
        cases e
    · obtain ⟨g1, g2, g3⟩ := (n10 a v).mp hv
      exact ⟨g1.narrow nar, g2.narrow nar, g3.narrow nar⟩
    · obtain ⟨p, hp⟩ := n7 a hk
      obtain ⟨e1, e2, e3⟩ := n5 a p hp
      obtain ⟨c, h1, h2, h3, h4, h5, h6, h7⟩ := hp.2
      refine ⟨c, h1, h2, h3, by rw [e2]; exact h4, by rw [e2]; exact h5, fun i hi => ?_, fun z => h7 (nar a z)⟩
      rw [e2] at hi
      show _ = some (Value.int (zai σ a i))
      rw [e3 i hi]
      exact h6 i hi
    · exact (va_Zof (hts _ l_cs) (hts _ l_ci) (va_eqi (at_ _ _ f_cs)) hA).narrow nar
    · rw [n11]
      exact (va_Zof (hts _ l_fm) (hts _ l_fi) hf1 hA).narrow nar
  refine ⟨σ, n1, n2, n3, hz, fun j hj => ?_, fun k hk h14 => ?_, (n4 b _ hb).1, (n4 b _ hb).2.1, (n4 b _ hb).2.2⟩
  · obtain ⟨e1, hp⟩ := htb j hj
    obtain ⟨g1, g2, g3⟩ := n4 _ _ hp
    exact ⟨tb j, by rw [n8, if_pos hj], T_lt hp.2, g1, g2, g3⟩
  · obtain ⟨e1, hq, hp⟩ := hsv k (by omega)
    obtain ⟨g1, g2, g3⟩ := n5 _ _ hp
    exact ⟨(sv k).1, (sv k).2, by rw [n9, if_pos (show k < 27 by omega)], O_lt hq.1, (n10 _ _).mpr hq, T_lt hp.2, g1, g2, g3⟩
/-! the law's run -/
theorem law_run {σ : zS} {b o n : Nat} {xs : Nat → Int32} (ho : znx σ = o) (hn : n ≤ 3584) (hK : StK σ o) (hW : StW σ o) (hb : b < o) (hbk : zkd σ b = 16) (hbl : zln σ b = n) (hbx : ∀ i, i < n → zai σ b i = xs i) (d : Nat) : ∃ τ, zM tL_law 4 (600000, 7302250) (zEv (d + 30)) [.inr (.inl (some b))] σ = some (some (.inl 1), τ) := by
  have k0 := kd_no σ 8
  have g0 : zEq (fun a => a < o) σ (zno σ 8) := zEq.no σ 8 (by omega)
  obtain ⟨τ, c1, c2, c3, q, u, P, hC⟩ := c_init (σ := zno σ 8) (o := o) (by rw [← ho]; exact k0) (by rw [nx_no, ho]) (d + 25)
  have c1' : zEv (d + 30) mX10_init [.inr (.inl (some o))] (zno σ 8) = some (none, τ) := c1
  have k1 := kd_no τ 9
  have g1 : zEq (fun a => a < o + 257) τ (zno τ 9) := zEq.no τ 9 (by omega)
  obtain ⟨υ, m1, m2, m3, hM⟩ := m_init (σ := zno τ 9) (m := o + 257) (by rw [← c3]; exact k1) (by rw [nx_no, c3]) (fun f => by rw [← c3]; exact i_no τ 9 f) (d + 26)
  have m1' : zEv (d + 30) mX11_init [.inr (.inl (some (o + 257)))] (zno τ 9) = some (none, υ) := m1
  have gA : zEq (fun a => a < o + 257) τ υ := g1.tr m2
  have gB : zEq (fun a => a < o) σ υ := g0.tr (c2.tr (gA.mono (fun a ha => by omega)))
  have hC2 : CIx υ o A0 q u P := hC.eq GA0 gA (fun a _ h => h) (fun a h1 h2 => by omega) (by rw [c3, m3]; omega)
  have hI : LInv υ b o n xs A0 0 := ⟨GA0, LG0, ⟨q, u, P, hC2⟩, hM, hK.eq gB (fun a h => h), hW.eq gB (fun a h => h), hb, (gB.kd hb).trans hbk, (gB.ln hb).trans hbl, by rw [m3]; omega, fun i hi => (gB.ai hb i).trans (hbx i hi)⟩
  obtain ⟨ψ, hψ⟩ := L_loop hn d 512 0 υ A0 0 (599721, 7285483) (by omega) (by decide) hI (by decide) (by decide) (by decide)
  refine ⟨ψ, ?_⟩
  rw [eL_law]
  unfold fL_law
  rw [ho] at k0
  rw [c3] at k1
  simp only [chk_e, ho, k0, if_true, c1', bnV_s, c3, k1, m1', zlt_e]
  exact hψ
