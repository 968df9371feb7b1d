/-! WHAT A PICTURE SAYS OF A HEAP, and what a step owes. -/
def ztg (c : Nat) : List Nat := match c with
  | 0 => [1, 1, 0]
  | 1 => [1, 0]
  | 2 => [0, 0, 0, 0, 0, 0, 1]
  | 3 => [0, 0, 0, 0, 0, 0, 0, 0, 1]
  | 4 => [1, 0, 0]
  | 5 => [1, 1, 0, 0, 0]
  | 6 => [1, 0, 0, 0, 0, 0, 0]
  | 7 => [1, 1, 0, 0, 0, 0, 0, 0, 0]
  | 8 => [1, 1, 1, 1, 1, 1, 1, 1, 1]
  | _ => [0, 1, 1, 0, 1, 1, 1, 0, 0, 0, 1, 0, 1, 1, 1, 1, 1, 1, 1, 1, 1, 1, 0, 1, 1, 0, 0, 0, 0, 0, 2, 0, 0, 1, 0, 0, 0, 0, 1, 1]
def zfv (σ : zS) (t f a : Nat) : Value := match t with
  | 0 => .int (zi σ f a)
  | 1 => va_rf (zr σ f a)
  | _ => .long (zl σ f a)
def zfl (σ : zS) (a c : Nat) : List Value := (ztg c).mapIdx fun i t => zfv σ t (64 * c + i) a
def zent (cy : Nat → ClassId) (σ : zS) (a : Nat) : va_E :=
  if zkd σ a < 10 then .inr (zkd σ a, zfl σ a (zkd σ a))
  else if zkd σ a < 13 then .inl (cy (zkd σ a), zln σ a, .inl (zai σ a))
  else .inl (cy (zkd σ a), zln σ a, .inr (.inr (.inr (.inr (zar σ a)))))
def zPool (D : va_G) (cy : Nat → ClassId) (σ : zS) (H : Heap) : Prop :=
  H.size = znx σ ∧ va_P D vwCl (va_pl (zdm σ) (zent cy σ)) H ∧ va_D (fun _ => True) (va_pl (zdm σ) (zent cy σ)) ∧ (∀ a, zkd σ a < 16 → a ∈ zdm σ) ∧ ∀ a, a ∈ zdm σ → zkd σ a < 16
def zA (σ : zS) (q : Nat) : Prop := zkd σ q < 16 ∨ znx σ ≤ q
/-- what never changes from one picture to a later one -/
def zSm (σ τ : zS) : Prop := znx σ ≤ znx τ ∧ (∀ q, q < znx σ → zkd τ q = zkd σ q ∧ zln τ q = zln σ q) ∧ (∀ f, 640 ≤ f → ∀ j, zr τ f j = zr σ f j) ∧ ∀ q, 16 ≤ zkd τ q → zkd σ q = zkd τ q ∧ zln τ q = zln σ q ∧ ∀ i, zai τ q i = zai σ q i
def zTys (cy : Nat → ClassId) : List (ClassId × FieldType) := [(cy 10, .char), (cy 11, .int), (cy 13, .object RX0), (cy 14, .object RX3), (cy 15, .object RX6)]
def zwok : Cond → Bool
  | .fieldLinkNest .. => true
  | .methodLinkNest .. => true
  | .arrayOver (.object _) => true
  | w => goodWord w
def zTb (U : State) : Prop := ∀ w ∈ lw_tbl, zwok w = true → ∀ A : Array Value, w.before A U = true
def zStN (j : Nat) : String := match j with
  | 0 => "PARAMETERS"
  | 1 => "LOWEST_A"
  | 2 => "HIGHEST_A"
  | 3 => "LOWEST_B"
  | _ => "HIGHEST_B"
/-- the cells that nobody writes: the static rows, the script -/
def zExt (A : Nat → Prop) (U : State) (σ : zS) (H : Heap) : Prop :=
  (∀ j t, j < 5 → zr σ 640 j = some t → va_Z RX2 (zStN j) "[I" (.ref t) A U H) ∧ ∀ a, zkd σ a = 16 → va_T .int a (zln σ a) (fun i => .int (zai σ a i)) A U H
def zLs (lsA : Array Slot) (nL : Nat) (ls : List zV) : Prop := lsA.size = nL ∧ lv_wf lsA ∧ ls.length = nL ∧ (∀ (i : Nat) (v : zV), ls[i]? = some v → zcat v = 1 → lsA[i]? = some (.val (zTo v))) ∧ ∀ (i : Nat) (w : Int64), ls[i]? = some (.inr (.inr (some w))) → ls[i + 1]? = some (.inr (.inr none)) → lsA[i]? = some (.val (.long w))
theorem zSm.rf (σ : zS) : zSm σ σ := ⟨Nat.le_refl _, fun _ _ => ⟨rfl, rfl⟩, fun _ _ _ => rfl, fun _ _ => ⟨rfl, rfl, fun _ => rfl⟩⟩
theorem zSm.tr {σ τ υ : zS} (h : zSm σ τ) (g : zSm τ υ) : zSm σ υ := by
  obtain ⟨h1, h2, h3, h4⟩ := h
  obtain ⟨g1, g2, g3, g4⟩ := g
  refine ⟨Nat.le_trans h1 g1, fun q hq => ?_, fun f hf j => (g3 f hf j).trans (h3 f hf j), fun q hq => ?_⟩
  · have a := g2 q (Nat.lt_of_lt_of_le hq h1)
    have b := h2 q hq
    exact ⟨a.1.trans b.1, a.2.trans b.2⟩
  · obtain ⟨a1, a2, a3⟩ := g4 q hq
    have hq' : 16 ≤ zkd τ q := by rw [a1]; exact hq
    obtain ⟨b1, b2, b3⟩ := h4 q hq'
    exact ⟨b1.trans a1, a2.trans b2, fun i => (a3 i).trans (b3 i)⟩
theorem zA.mono {σ τ : zS} (h : zSm σ τ) {q : Nat} (g : zA τ q) : zA σ q := by
  rcases Nat.lt_or_ge q (znx σ) with hq | hq
  · rcases g with g | g
    · exact Or.inl (by rw [← (h.2.1 q hq).1]; exact g)
    · exact absurd (Nat.lt_of_lt_of_le hq h.1) (Nat.not_lt.mpr g)
  · exact Or.inr hq
theorem zTb.moved {s U : State} (hW : s.WarmedH U.vm) (h : zTb s) : zTb U := by
  intro w hw hk A
  have h0 := h w hw hk
  cases w with
  | fieldLinkNest a i b n d hh => exact va_tabs rfl rfl (va_Nw.warmF hW (h0 #[]))
  | methodLinkNest a i x hh => exact va_tabs rfl rfl (va_Nw.warmM hW (h0 #[]))
  | arrayOver ty =>
    cases ty with
    | object C => exact va_AO.use (va_AO.moved hW.alike (va_AO.of (h0 #[])))
    | _ => exact word_at (args := #[]) hW (good_of_word hk) (h0 #[])
  | _ => exact word_at (args := #[]) hW (good_of_word hk) (h0 #[])
theorem zTb.same {s U : State} (hv : U.vm = s.vm) (h : zTb s) : zTb U := zTb.moved (by rw [hv]; exact State.WarmedH.refl s) h
theorem zExt.to {A B : Nat → Prop} {s U : State} {σ τ : zS} {H H1 : Heap} (h : zExt A s σ H) (hW : s.WarmedH U.vm) (hq : ∀ a : Nat, a < H.size → ¬ A a → H1[a]? = H[a]?) (hS : zSm σ τ) (hAB : ∀ q, B q → A q) : zExt B U τ H1 := by
  obtain ⟨h1, h2⟩ := h
  have ha := hW.alike
  refine ⟨fun j t hj ht => ?_, fun a hk => ?_⟩
  · rw [hS.2.2.1 640 (Nat.le_refl _) j] at ht
    exact (((h1 j t hj ht).kept hq).moved ha).narrow hAB
  · obtain ⟨b1, b2, b3⟩ := hS.2.2.2 a (by rw [hk]; exact Nat.le_refl _)
    have := (((h2 a (b1.trans hk)).kept hq).moved ha).narrow hAB
    rw [b2, show (fun i => Value.int (zai τ a i)) = (fun i => Value.int (zai σ a i)) from funext fun i => by rw [b3 i]]
    exact this
