/-! PLAIN LEAN FROM HERE: reading a picture behind a store -/
theorem zlt_e {α : Type} (x : α) (f : α → zO) : zlt x f = f x := rfl
theorem onR_s (a : Nat) (f : Nat → zO) : onR (some a) f = f a := rfl
theorem nul_s (a : Nat) (A B : zO) : nul (some a) A B = B := rfl
theorem nul_n (A B : zO) : nul none A B = A := rfl
theorem chk_e (c : Prop) (h : Decidable c) (x : zO) : @chk c h x = @ite zO c h x none := rfl
theorem bnI_s (x : Int32) (σ : zS) (f : Int32 → zS → zO) : bnI (some (some (.inl x), σ)) f = f x σ := rfl
theorem bnR_s (x : Option Nat) (σ : zS) (f : Option Nat → zS → zO) : bnR (some (some (.inr (.inl x)), σ)) f = f x σ := rfl
theorem bnV_s (σ : zS) (f : zS → zO) : bnV (some (none, σ)) f = f σ := rfl
theorem zi_si (σ : zS) (f a : Nat) (v : Int32) (g b : Nat) : zi (zsi σ f a v) g b = if g = f ∧ b = a then v else zi σ g b := rfl
theorem zi_sr (σ : zS) (f a : Nat) (v : Option Nat) : zi (zsr σ f a v) = zi σ := rfl
theorem zi_sl (σ : zS) (f a : Nat) (v : Int64) : zi (zsl σ f a v) = zi σ := rfl
theorem zi_sa (σ : zS) (a i : Nat) (v : Int32) : zi (zsa σ a i v) = zi σ := rfl
theorem zi_sq (σ : zS) (a i : Nat) (v : Option Nat) : zi (zsq σ a i v) = zi σ := rfl
theorem zr_si (σ : zS) (f a : Nat) (v : Int32) : zr (zsi σ f a v) = zr σ := rfl
theorem zr_sr (σ : zS) (f a : Nat) (v : Option Nat) (g b : Nat) : zr (zsr σ f a v) g b = if g = f ∧ b = a then v else zr σ g b := rfl
theorem zr_sl (σ : zS) (f a : Nat) (v : Int64) : zr (zsl σ f a v) = zr σ := rfl
theorem zr_sa (σ : zS) (a i : Nat) (v : Int32) : zr (zsa σ a i v) = zr σ := rfl
theorem zr_sq (σ : zS) (a i : Nat) (v : Option Nat) : zr (zsq σ a i v) = zr σ := rfl
theorem zl_si (σ : zS) (f a : Nat) (v : Int32) : zl (zsi σ f a v) = zl σ := rfl
theorem zl_sr (σ : zS) (f a : Nat) (v : Option Nat) : zl (zsr σ f a v) = zl σ := rfl
theorem zl_sl (σ : zS) (f a : Nat) (v : Int64) (g b : Nat) : zl (zsl σ f a v) g b = if g = f ∧ b = a then v else zl σ g b := rfl
theorem zl_sa (σ : zS) (a i : Nat) (v : Int32) : zl (zsa σ a i v) = zl σ := rfl
theorem zl_sq (σ : zS) (a i : Nat) (v : Option Nat) : zl (zsq σ a i v) = zl σ := rfl
theorem zai_si (σ : zS) (f a : Nat) (v : Int32) : zai (zsi σ f a v) = zai σ := rfl
theorem zai_sr (σ : zS) (f a : Nat) (v : Option Nat) : zai (zsr σ f a v) = zai σ := rfl
theorem zai_sl (σ : zS) (f a : Nat) (v : Int64) : zai (zsl σ f a v) = zai σ := rfl
theorem zai_sa (σ : zS) (a i : Nat) (v : Int32) (b j : Nat) : zai (zsa σ a i v) b j = if b = a ∧ j = i then v else zai σ b j := rfl
theorem zai_sq (σ : zS) (a i : Nat) (v : Option Nat) : zai (zsq σ a i v) = zai σ := rfl
theorem zar_si (σ : zS) (f a : Nat) (v : Int32) : zar (zsi σ f a v) = zar σ := rfl
theorem zar_sr (σ : zS) (f a : Nat) (v : Option Nat) : zar (zsr σ f a v) = zar σ := rfl
theorem zar_sl (σ : zS) (f a : Nat) (v : Int64) : zar (zsl σ f a v) = zar σ := rfl
theorem zar_sa (σ : zS) (a i : Nat) (v : Int32) : zar (zsa σ a i v) = zar σ := rfl
theorem zar_sq (σ : zS) (a i : Nat) (v : Option Nat) (b j : Nat) : zar (zsq σ a i v) b j = if b = a ∧ j = i then v else zar σ b j := rfl
theorem zkd_si (σ : zS) (f a : Nat) (v : Int32) : zkd (zsi σ f a v) = zkd σ := rfl
theorem zkd_sr (σ : zS) (f a : Nat) (v : Option Nat) : zkd (zsr σ f a v) = zkd σ := rfl
theorem zkd_sl (σ : zS) (f a : Nat) (v : Int64) : zkd (zsl σ f a v) = zkd σ := rfl
theorem zkd_sa (σ : zS) (a i : Nat) (v : Int32) : zkd (zsa σ a i v) = zkd σ := rfl
theorem zkd_sq (σ : zS) (a i : Nat) (v : Option Nat) : zkd (zsq σ a i v) = zkd σ := rfl
theorem zln_si (σ : zS) (f a : Nat) (v : Int32) : zln (zsi σ f a v) = zln σ := rfl
theorem zln_sr (σ : zS) (f a : Nat) (v : Option Nat) : zln (zsr σ f a v) = zln σ := rfl
theorem zln_sl (σ : zS) (f a : Nat) (v : Int64) : zln (zsl σ f a v) = zln σ := rfl
theorem zln_sa (σ : zS) (a i : Nat) (v : Int32) : zln (zsa σ a i v) = zln σ := rfl
theorem zln_sq (σ : zS) (a i : Nat) (v : Option Nat) : zln (zsq σ a i v) = zln σ := rfl
theorem znx_si (σ : zS) (f a : Nat) (v : Int32) : znx (zsi σ f a v) = znx σ := rfl
theorem znx_sr (σ : zS) (f a : Nat) (v : Option Nat) : znx (zsr σ f a v) = znx σ := rfl
theorem znx_sl (σ : zS) (f a : Nat) (v : Int64) : znx (zsl σ f a v) = znx σ := rfl
theorem znx_sa (σ : zS) (a i : Nat) (v : Int32) : znx (zsa σ a i v) = znx σ := rfl
theorem znx_sq (σ : zS) (a i : Nat) (v : Option Nat) : znx (zsq σ a i v) = znx σ := rfl
/-! small numbers -/
theorem nL (n : Nat) : (OfNat.ofNat n : Int32) = nI n := rfl
theorem n_zin {k n : Nat} (hk : k < 2 ^ 31) : zin (nI k) n ↔ k < n := by
  unfold zin
  rw [nI_toInt hk]
  constructor
  · intro h; omega
  · intro h; omega
theorem n_lt {a b : Nat} (ha : a < 2 ^ 31) (hb : b < 2 ^ 31) : (nI a < nI b) ↔ a < b := nI_ltI ha hb
theorem n_le {a b : Nat} (ha : a < 2 ^ 31) (hb : b < 2 ^ 31) : (nI a ≤ nI b) ↔ a ≤ b := nI_leI ha hb
theorem n_eq {a b : Nat} (ha : a < 2 ^ 31) (hb : b < 2 ^ 31) : (nI a = nI b) ↔ a = b := nI_eq ha hb
theorem n_tn {k : Nat} (hk : k < 2 ^ 31) : (nI k).toNatClampNeg = k := nI_clamp hk
theorem n_ofNat (k : Nat) : Int32.ofNat k = nI k := rfl
/-- an int as a number: not negative -/
theorem n_of {x : Int32} (h : 0 ≤ x.toInt) : x = nI x.toNatClampNeg := by
  apply Int32.toInt_inj.mp
  have h2 : x.toInt < 2 ^ 31 := Int32.toInt_lt x
  have e : x.toNatClampNeg = x.toInt.toNat := rfl
  rw [e, nI_toInt (by omega)]
  omega
/-! loops -/
theorem loop_up {S : Type} (f : Nat → S → zO) (I : Nat → S → Prop) (n : Nat) (g : S → zO) (hstep : ∀ i s, i < n → I i s → ∃ s', f i s = f (i + 1) s' ∧ I (i + 1) s') (hend : ∀ s, I n s → f n s = g s) : ∀ (m i : Nat) (s : S), i + m = n → I i s → ∃ s', f i s = g s' ∧ I n s' := by
  intro m
  induction m with
  | zero =>
    intro i s h hI
    rw [Nat.add_zero] at h
    subst h
    exact ⟨s, hend s hI, hI⟩
  | succ m ih =>
    intro i s h hI
    obtain ⟨s', h1, h2⟩ := hstep i s (by omega) hI
    obtain ⟨s2, h3, h4⟩ := ih (i + 1) s' (by omega) h2
    exact ⟨s2, h1.trans h3, h4⟩
theorem loop_from {S : Type} (f : Nat → S → zO) (I : Nat → S → Prop) (i n : Nat) (g : S → zO) (s : S) (hi : i ≤ n) (h0 : I i s) (hstep : ∀ i s, i < n → I i s → ∃ s', f i s = f (i + 1) s' ∧ I (i + 1) s') (hend : ∀ s, I n s → f n s = g s) : ∃ s', f i s = g s' ∧ I n s' :=
  loop_up f I n g hstep hend (n - i) i s (by omega) h0
/-! what stays: only cells of P have changed, and only ints in them; references, kinds, lengths as before -/
def zFr (P : Nat → Prop) (σ τ : zS) : Prop := zr τ = zr σ ∧ zkd τ = zkd σ ∧ zln τ = zln σ ∧ znx τ = znx σ ∧ (∀ a, ¬ P a → (∀ f, zi τ f a = zi σ f a) ∧ (∀ i, zai τ a i = zai σ a i) ∧ (∀ f, zl τ f a = zl σ f a) ∧ ∀ i, zar τ a i = zar σ a i)
theorem zFr.rf {P : Nat → Prop} (σ : zS) : zFr P σ σ := ⟨rfl, rfl, rfl, rfl, fun _ _ => ⟨fun _ => rfl, fun _ => rfl, fun _ => rfl, fun _ => rfl⟩⟩
theorem zFr.tr {P : Nat → Prop} {σ τ υ : zS} (h : zFr P σ τ) (g : zFr P τ υ) : zFr P σ υ :=
  ⟨g.1.trans h.1, g.2.1.trans h.2.1, g.2.2.1.trans h.2.2.1, g.2.2.2.1.trans h.2.2.2.1, fun a ha => ⟨fun f => ((g.2.2.2.2 a ha).1 f).trans ((h.2.2.2.2 a ha).1 f), fun i => ((g.2.2.2.2 a ha).2.1 i).trans ((h.2.2.2.2 a ha).2.1 i), fun i => ((g.2.2.2.2 a ha).2.2.1 i).trans ((h.2.2.2.2 a ha).2.2.1 i), fun i => ((g.2.2.2.2 a ha).2.2.2 i).trans ((h.2.2.2.2 a ha).2.2.2 i)⟩⟩
theorem zFr.mono {P Q : Nat → Prop} {σ τ : zS} (h : zFr P σ τ) (hPQ : ∀ a, P a → Q a) : zFr Q σ τ :=
  ⟨h.1, h.2.1, h.2.2.1, h.2.2.2.1, fun a ha => h.2.2.2.2 a (fun q => ha (hPQ a q))⟩
theorem zFr.r {P : Nat → Prop} {σ τ : zS} (h : zFr P σ τ) : zr τ = zr σ := h.1
theorem zFr.kd {P : Nat → Prop} {σ τ : zS} (h : zFr P σ τ) : zkd τ = zkd σ := h.2.1
theorem zFr.ln {P : Nat → Prop} {σ τ : zS} (h : zFr P σ τ) : zln τ = zln σ := h.2.2.1
theorem zFr.nx {P : Nat → Prop} {σ τ : zS} (h : zFr P σ τ) : znx τ = znx σ := h.2.2.2.1
theorem zFr.i {P : Nat → Prop} {σ τ : zS} (h : zFr P σ τ) {a : Nat} (ha : ¬ P a) (f : Nat) : zi τ f a = zi σ f a := (h.2.2.2.2 a ha).1 f
theorem zFr.ai {P : Nat → Prop} {σ τ : zS} (h : zFr P σ τ) {a : Nat} (ha : ¬ P a) (i : Nat) : zai τ a i = zai σ a i := (h.2.2.2.2 a ha).2.1 i
theorem zFr.l {P : Nat → Prop} {σ τ : zS} (h : zFr P σ τ) {a : Nat} (ha : ¬ P a) (f : Nat) : zl τ f a = zl σ f a := (h.2.2.2.2 a ha).2.2.1 f
theorem zFr.ar {P : Nat → Prop} {σ τ : zS} (h : zFr P σ τ) {a : Nat} (ha : ¬ P a) (i : Nat) : zar τ a i = zar σ a i := (h.2.2.2.2 a ha).2.2.2 i
theorem zFr.si {P : Nat → Prop} (σ : zS) {f a : Nat} {v : Int32} (ha : P a) : zFr P σ (zsi σ f a v) := by
  refine ⟨rfl, rfl, rfl, rfl, fun b hb => ⟨fun g => ?_, fun _ => rfl, fun _ => rfl, fun _ => rfl⟩⟩
  rw [zi_si, if_neg]
  rintro ⟨-, rfl⟩
  exact hb ha
theorem zFr.sl {P : Nat → Prop} (σ : zS) {f a : Nat} {v : Int64} (ha : P a) : zFr P σ (zsl σ f a v) := by
  refine ⟨rfl, rfl, rfl, rfl, fun b hb => ⟨fun g => rfl, fun _ => rfl, fun g => ?_, fun _ => rfl⟩⟩
  rw [zl_sl, if_neg]
  rintro ⟨-, rfl⟩
  exact hb ha
theorem zFr.sa {P : Nat → Prop} (σ : zS) {a i : Nat} {v : Int32} (ha : P a) : zFr P σ (zsa σ a i v) := by
  refine ⟨rfl, rfl, rfl, rfl, fun b hb => ⟨fun g => rfl, fun j => ?_, fun _ => rfl, fun _ => rfl⟩⟩
  rw [zai_sa, if_neg]
  rintro ⟨rfl, -⟩
  exact hb ha
theorem zFr.sq {P : Nat → Prop} (σ : zS) {a i : Nat} {v : Option Nat} (ha : P a) : zFr P σ (zsq σ a i v) := by
  refine ⟨rfl, rfl, rfl, rfl, fun b hb => ⟨fun g => rfl, fun _ => rfl, fun _ => rfl, fun j => ?_⟩⟩
  rw [zar_sq, if_neg]
  rintro ⟨rfl, -⟩
  exact hb ha
/-! ints as numbers -/
def iI (z : Int) : Int32 := Int32.ofInt z
theorem i_nI (n : Nat) : nI n = iI (n : Int) := by
  exact (Int32.ofInt_eq_ofNat (n := n)).symm
theorem i_add (a b : Int) : iI a + iI b = iI (a + b) := (Int32.ofInt_add a b).symm
theorem i_mul (a b : Int) : iI a * iI b = iI (a * b) := (Int32.ofInt_mul a b).symm
theorem i_sub (a b : Int) : iI a - iI b = iI (a - b) := by
  rw [Int.sub_eq_add_neg, Int32.sub_eq_add_neg]
  show _ = Int32.ofInt _
  rw [Int32.ofInt_add, Int32.ofInt_neg]
  rfl
theorem i_neg (a : Int) : -iI a = iI (-a) := (Int32.ofInt_neg a).symm
theorem i_toInt {z : Int} (h1 : -2147483648 ≤ z) (h2 : z < 2147483648) : (iI z).toInt = z := Int32.toInt_ofInt_of_le h1 h2
theorem i_of (x : Int32) : x = iI x.toInt := (Int32.ofInt_toInt x).symm
theorem i_lt {a b : Int} (ha1 : -2147483648 ≤ a) (ha2 : a < 2147483648) (hb1 : -2147483648 ≤ b) (hb2 : b < 2147483648) : iI a < iI b ↔ a < b := by
  rw [Int32.lt_iff_toInt_lt, i_toInt ha1 ha2, i_toInt hb1 hb2]
theorem i_le {a b : Int} (ha1 : -2147483648 ≤ a) (ha2 : a < 2147483648) (hb1 : -2147483648 ≤ b) (hb2 : b < 2147483648) : iI a ≤ iI b ↔ a ≤ b := by
  rw [Int32.le_iff_toInt_le, i_toInt ha1 ha2, i_toInt hb1 hb2]
theorem i_eq {a b : Int} (ha1 : -2147483648 ≤ a) (ha2 : a < 2147483648) (hb1 : -2147483648 ≤ b) (hb2 : b < 2147483648) : iI a = iI b ↔ a = b := by
  rw [← Int32.toInt_inj, i_toInt ha1 ha2, i_toInt hb1 hb2]
theorem i_div {a b : Int} (ha1 : -2147483648 < a) (ha2 : a < 2147483648) (hb1 : -2147483648 ≤ b) (hb2 : b < 2147483648) : iI a / iI b = iI (a.tdiv b) := by
  apply Int32.toInt_inj.mp
  rw [Int32.toInt_div, i_toInt (by omega) ha2, i_toInt hb1 hb2]
  show _ = (Int32.ofInt _).toInt
  rw [Int32.toInt_ofInt]
theorem i_lit (n : Nat) : (OfNat.ofNat n : Int32) = iI (n : Int) := i_nI n
theorem i_m1001 : (-1001 : Int32) = iI (-1001) := rfl
/-- a truth value as an int -/
def zb (c : Prop) [Decidable c] : Int32 := if c then 1 else 0
theorem zb_0 {c : Prop} [Decidable c] : zb c = 0 ↔ ¬ c := by
  unfold zb
  split
  · next h => exact ⟨fun q => absurd q (by decide), fun q => absurd h q⟩
  · next h => exact ⟨fun _ => h, fun _ => rfl⟩
theorem zb_B {c : Prop} [Decidable c] : zB (zb c) := by
  unfold zb
  split
  · exact Or.inr rfl
  · exact Or.inl rfl
theorem zb_t {c : Prop} [Decidable c] (h : c) : zb c = 1 := if_pos h
theorem zb_f {c : Prop} [Decidable c] (h : ¬ c) : zb c = 0 := if_neg h
