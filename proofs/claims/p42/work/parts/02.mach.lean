/-! THE SMALL MACHINE: a picture of the cells (fields by number 64 * class + place, and by address; arrays by address and place), one step a function. -/
abbrev zV : Type := Int32 ⊕ (Option Nat ⊕ Option Int64)
def zTo (v : zV) : Value := match v with
  | .inl x => .int x
  | .inr (.inl o) => va_rf o
  | .inr (.inr (some w)) => .long w
  | .inr (.inr none) => .long 0
abbrev zS : Type := (Nat → Nat → Int32) × (Nat → Nat → Option Nat) × (Nat → Nat → Int64) × (Nat → Nat → Int32) × (Nat → Nat → Option Nat) × (Nat → Nat) × (Nat → Nat) × Nat × List Nat
def zi (σ : zS) (f a : Nat) : Int32 := σ.1 f a
def zr (σ : zS) (f a : Nat) : Option Nat := σ.2.1 f a
def zl (σ : zS) (f a : Nat) : Int64 := σ.2.2.1 f a
def zai (σ : zS) (a i : Nat) : Int32 := σ.2.2.2.1 a i
def zar (σ : zS) (a i : Nat) : Option Nat := σ.2.2.2.2.1 a i
def zln (σ : zS) (a : Nat) : Nat := σ.2.2.2.2.2.1 a
def zkd (σ : zS) (a : Nat) : Nat := σ.2.2.2.2.2.2.1 a
def znx (σ : zS) : Nat := σ.2.2.2.2.2.2.2.1
def zdm (σ : zS) : List Nat := σ.2.2.2.2.2.2.2.2
def zu2 {α : Type} (f : Nat → Nat → α) (a b : Nat) (v : α) : Nat → Nat → α := fun x y => if x = a ∧ y = b then v else f x y
def zsi (σ : zS) (f a : Nat) (v : Int32) : zS := (zu2 σ.1 f a v, σ.2)
def zsr (σ : zS) (f a : Nat) (v : Option Nat) : zS := (σ.1, zu2 σ.2.1 f a v, σ.2.2)
def zsl (σ : zS) (f a : Nat) (v : Int64) : zS := (σ.1, σ.2.1, zu2 σ.2.2.1 f a v, σ.2.2.2)
def zsa (σ : zS) (a i : Nat) (v : Int32) : zS := (σ.1, σ.2.1, σ.2.2.1, zu2 σ.2.2.2.1 a i v, σ.2.2.2.2)
def zsq (σ : zS) (a i : Nat) (v : Option Nat) : zS := (σ.1, σ.2.1, σ.2.2.1, σ.2.2.2.1, zu2 σ.2.2.2.2.1 a i v, σ.2.2.2.2.2)
def zno (σ : zS) (c : Nat) : zS := (fun f a => if a = znx σ then 0 else σ.1 f a, fun f a => if a = znx σ ∧ f < 640 then none else σ.2.1 f a, fun f a => if a = znx σ then 0 else σ.2.2.1 f a, σ.2.2.2.1, σ.2.2.2.2.1, σ.2.2.2.2.2.1, va_up σ.2.2.2.2.2.2.1 (znx σ) c, znx σ + 1, zdm σ ++ [znx σ])
def zna (σ : zS) (c n : Nat) : zS := (σ.1, σ.2.1, σ.2.2.1, fun a i => if a = znx σ then 0 else σ.2.2.2.1 a i, fun a i => if a = znx σ then none else σ.2.2.2.2.1 a i, va_up σ.2.2.2.2.2.1 (znx σ) n, va_up σ.2.2.2.2.2.2.1 (znx σ) c, znx σ + 1, zdm σ ++ [znx σ])
abbrev zO : Type := Option (Option zV × zS)
abbrev zE : Type := Nat → List zV → zS → zO
abbrev zK : Type := Nat → Nat × Nat → List zV → List zV → zS → zO
abbrev zOp : Type := zE → zK → Nat × Nat → List zV → List zV → zS → zO
abbrev zB (x : Int32) : Prop := x = 0 ∨ x = 1
abbrev zin (i : Int32) (n : Nat) : Prop := 0 ≤ i.toInt ∧ i.toInt < n
def onR (o : Option Nat) (f : Nat → zO) : zO := match o with
  | some a => f a
  | none => none
def nul (o : Option Nat) (A B : zO) : zO := match o with
  | some _ => B
  | none => A
def chk (c : Prop) [Decidable c] (x : zO) : zO := if c then x else none
def bnI (o : zO) (f : Int32 → zS → zO) : zO := match o with
  | some (some (.inl x), σ) => f x σ
  | _ => none
def bnR (o : zO) (f : Option Nat → zS → zO) : zO := match o with
  | some (some (.inr (.inl r)), σ) => f r σ
  | _ => none
def bnV (o : zO) (f : zS → zO) : zO := match o with
  | some (none, σ) => f σ
  | _ => none
def bnL (o : zO) (f : Int64 → zS → zO) : zO := match o with
  | some (some (.inr (.inr (some w))), σ) => f w σ
  | _ => none
/-- a name for a value -/
def zlt {α : Type} (x : α) (f : α → zO) : zO := f x
def tsel (x : Int32) (f : Nat → zO) (d : zO) : List (Int32 × Nat) → zO
  | [] => d
  | q :: r => if x = q.1 then f q.2 else tsel x f d r
def zcat (v : zV) : Nat := match v with
  | .inr (.inr _) => 2
  | _ => 1
def stk : zOp := fun _ _ _ _ _ _ => none
def oLdI (i n : Nat) : zOp := fun _ k b ls st σ => match ls[i]? with
  | some (.inl x) => k n b ls (.inl x :: st) σ
  | _ => none
def oLdR (i n : Nat) : zOp := fun _ k b ls st σ => match ls[i]? with
  | some (.inr (.inl x)) => k n b ls (.inr (.inl x) :: st) σ
  | _ => none
def oStI (i n : Nat) : zOp := fun _ k b ls st σ => match st with
  | .inl x :: st => zlt x fun v => k n b (ls.set i (.inl v)) st σ
  | _ => none
def oStR (i n : Nat) : zOp := fun _ k b ls st σ => match st with
  | .inr (.inl x) :: st => k n b (ls.set i (.inr (.inl x))) st σ
  | _ => none
/-- a long local: it lies in two places, and is known while nothing has been stored in the second -/
def oLdL (i n : Nat) : zOp := fun _ k b ls st σ => match ls[i]?, ls[i + 1]? with
  | some (.inr (.inr (some w))), some (.inr (.inr none)) => k n b ls (.inr (.inr (some w)) :: st) σ
  | _, _ => none
def oStL (i n : Nat) : zOp := fun _ k b ls st σ => match st with
  | .inr (.inr (some w)) :: st => zlt w fun v => k n b ((ls.set i (.inr (.inr (some v)))).set (i + 1) (.inr (.inr none))) st σ
  | _ => none
def oInc (i : Nat) (w : Int32) (n : Nat) : zOp := fun _ k b ls st σ => match ls[i]? with
  | some (.inl x) => zlt (x + w) fun v => k n b (ls.set i (.inl v)) st σ
  | _ => none
def oCst (v : zV) (n : Nat) : zOp := fun _ k b ls st σ => k n b ls (v :: st) σ
def oBin (f : Int32 → Int32 → Int32) (n : Nat) : zOp := fun _ k b ls st σ => match st with
  | .inl y :: .inl x :: st => k n b ls (.inl (f x y) :: st) σ
  | _ => none
def oDvd (f : Int32 → Int32 → Int32) (n : Nat) : zOp := fun _ k b ls st σ => match st with
  | .inl y :: .inl x :: st => if y = 0 then none else k n b ls (.inl (f x y) :: st) σ
  | _ => none
def oUn (f : Int32 → Int32) (n : Nat) : zOp := fun _ k b ls st σ => match st with
  | .inl x :: st => k n b ls (.inl (f x) :: st) σ
  | _ => none
def oI2l (n : Nat) : zOp := fun _ k b ls st σ => match st with
  | .inl x :: st => k n b ls (.inr (.inr (some x.toInt64)) :: st) σ
  | _ => none
def oBinL (f : Int64 → Int64 → Int64) (n : Nat) : zOp := fun _ k b ls st σ => match st with
  | .inr (.inr (some y)) :: .inr (.inr (some x)) :: st => k n b ls (.inr (.inr (some (f x y))) :: st) σ
  | _ => none
def oLcmp (n : Nat) : zOp := fun _ k b ls st σ => match st with
  | .inr (.inr (some y)) :: .inr (.inr (some x)) :: st => k n b ls (.inl (lg_cmp x y) :: st) σ
  | _ => none
def oDup (n : Nat) : zOp := fun _ k b ls st σ => match st with
  | .inl x :: st => k n b ls (.inl x :: .inl x :: st) σ
  | .inr (.inl x) :: st => k n b ls (.inr (.inl x) :: .inr (.inl x) :: st) σ
  | _ => none
def oDup2 (n : Nat) : zOp := fun _ k b ls st σ => match st with
  | .inl x :: .inr (.inl y) :: st => k n b ls (.inl x :: .inr (.inl y) :: .inl x :: .inr (.inl y) :: st) σ
  | _ => none
def oPop (n : Nat) : zOp := fun _ k b ls st σ => match st with
  | .inl _ :: st => k n b ls st σ
  | .inr (.inl _) :: st => k n b ls st σ
  | _ => none
def oEq (t n : Nat) : zOp := fun _ k b ls st σ => match st with
  | .inl y :: .inl x :: st => if x = y then k t b ls st σ else k n b ls st σ
  | _ => none
def oLt (t n : Nat) : zOp := fun _ k b ls st σ => match st with
  | .inl y :: .inl x :: st => if x < y then k t b ls st σ else k n b ls st σ
  | _ => none
def oLe (t n : Nat) : zOp := fun _ k b ls st σ => match st with
  | .inl y :: .inl x :: st => if x ≤ y then k t b ls st σ else k n b ls st σ
  | _ => none
def oEq0 (t n : Nat) : zOp := fun _ k b ls st σ => match st with
  | .inl x :: st => if x = 0 then k t b ls st σ else k n b ls st σ
  | _ => none
def oLt0 (t n : Nat) : zOp := fun _ k b ls st σ => match st with
  | .inl x :: st => if x < 0 then k t b ls st σ else k n b ls st σ
  | _ => none
def oLe0 (t n : Nat) : zOp := fun _ k b ls st σ => match st with
  | .inl x :: st => if x ≤ 0 then k t b ls st σ else k n b ls st σ
  | _ => none
def oNul (t n : Nat) : zOp := fun _ k b ls st σ => match st with
  | .inr (.inl x) :: st => nul x (k t b ls st σ) (k n b ls st σ)
  | _ => none
def oGo (t : Nat) : zOp := fun _ k b ls st σ => k t b ls st σ
def oTbl (cs : List (Int32 × Nat)) (d : Nat) : zOp := fun _ k b ls st σ => match st with
  | .inl x :: st => tsel x (fun t => k t b ls st σ) (k d b ls st σ) cs
  | _ => none
def oGetI (f c n : Nat) : zOp := fun _ k b ls st σ => match st with
  | .inr (.inl o) :: st => onR o fun a => chk (zkd σ a = c) (k n b ls (.inl (zi σ f a) :: st) σ)
  | _ => none
def oGetR (f c n : Nat) : zOp := fun _ k b ls st σ => match st with
  | .inr (.inl o) :: st => onR o fun a => chk (zkd σ a = c) (k n b ls (.inr (.inl (zr σ f a)) :: st) σ)
  | _ => none
def oPutI (f c n : Nat) : zOp := fun _ k b ls st σ => match st with
  | .inl x :: .inr (.inl o) :: st => onR o fun a => chk (zkd σ a = c) (zlt (zsi σ f a x) fun σ => k n b ls st σ)
  | _ => none
def oPutZ (f c n : Nat) : zOp := fun _ k b ls st σ => match st with
  | .inl x :: .inr (.inl o) :: st => onR o fun a => chk (zkd σ a = c ∧ zB x) (zlt (zsi σ f a x) fun σ => k n b ls st σ)
  | _ => none
def oPutR (f c n : Nat) : zOp := fun _ k b ls st σ => match st with
  | .inr (.inl x) :: .inr (.inl o) :: st => onR o fun a => chk (zkd σ a = c) (zlt (zsr σ f a x) fun σ => k n b ls st σ)
  | _ => none
def oAld (c n : Nat) : zOp := fun _ k b ls st σ => match st with
  | .inl i :: .inr (.inl o) :: st => onR o fun a => chk (zkd σ a = c ∧ zin i (zln σ a)) (k n b ls (.inl (zai σ a i.toNatClampNeg) :: st) σ)
  | _ => none
def oAldR (c n : Nat) : zOp := fun _ k b ls st σ => match st with
  | .inl i :: .inr (.inl o) :: st => onR o fun a => chk (zkd σ a = c ∧ zin i (zln σ a)) (k n b ls (.inr (.inl (zar σ a i.toNatClampNeg)) :: st) σ)
  | _ => none
def oAst (n : Nat) : zOp := fun _ k b ls st σ => match st with
  | .inl x :: .inl i :: .inr (.inl o) :: st => onR o fun a => chk (zkd σ a = 11 ∧ zin i (zln σ a)) (zlt (zsa σ a i.toNatClampNeg x) fun σ => k n b ls st σ)
  | _ => none
def oAstN (c : Nat) (ty : FieldType) (n : Nat) : zOp := fun _ k b ls st σ => match st with
  | .inl x :: .inl i :: .inr (.inl o) :: st => onR o fun a => chk ((zkd σ a = c ∧ zin i (zln σ a)) ∧ vp_nar ty x = x) (zlt (zsa σ a i.toNatClampNeg x) fun σ => k n b ls st σ)
  | _ => none
def oAstR (c e n : Nat) : zOp := fun _ k b ls st σ => match st with
  | .inr (.inl v) :: .inl i :: .inr (.inl o) :: st => onR v fun w => onR o fun a => chk ((zkd σ a = c ∧ zin i (zln σ a)) ∧ zkd σ w = e) (zlt (zsq σ a i.toNatClampNeg (some w)) fun σ => k n b ls st σ)
  | _ => none
def oLen (c n : Nat) : zOp := fun _ k b ls st σ => match st with
  | .inr (.inl o) :: st => onR o fun a => chk (zkd σ a = c) (k n b ls (.inl (Int32.ofNat (zln σ a)) :: st) σ)
  | _ => none
def oNew (c N n : Nat) : zOp := fun _ k b ls st σ => if 1 ≤ b.1 ∧ N ≤ b.2 then k n (b.1 - 1, b.2 - N) ls (.inr (.inl (some (znx σ))) :: st) (zno σ c) else none
def oNewA (c n : Nat) : zOp := fun _ k b ls st σ => match st with
  | .inl x :: st => if (0 ≤ x.toInt ∧ x.toInt ≤ 65536) ∧ 1 ≤ b.1 ∧ x.toNatClampNeg ≤ b.2 then k n (b.1 - 1, b.2 - x.toNatClampNeg) ls (.inr (.inl (some (znx σ))) :: st) (zna σ c x.toNatClampNeg) else none
  | _ => none
def oObj (n : Nat) : zOp := fun _ k b ls st σ => match st with
  | .inr (.inl (some _)) :: st => if (st.map zcat).sum ≤ 8 then k n b ls st σ else none
  | _ => none
def zfit (b q : Nat × Nat) : Bool := Nat.ble q.1 b.1 && Nat.ble q.2 b.2
def zroom (a : Nat) (st : List zV) : Bool := Nat.ble a st.length && Nat.ble ((st.drop a).map zcat).sum 8
def zgd (c : Bool) (x : zO) : zO := match c with
  | true => x
  | false => none
def oCaI (y a : Nat) (q : Nat × Nat) (n : Nat) : zOp := fun E k b ls st σ => zgd (zfit b q && zroom a st) (bnI (E y (st.take a).reverse σ) fun x σ => k n (b.1 - q.1, b.2 - q.2) ls (.inl x :: st.drop a) σ)
def oCaR (y a : Nat) (q : Nat × Nat) (n : Nat) : zOp := fun E k b ls st σ => zgd (zfit b q && zroom a st) (bnR (E y (st.take a).reverse σ) fun x σ => k n (b.1 - q.1, b.2 - q.2) ls (.inr (.inl x) :: st.drop a) σ)
def oCaL (y a : Nat) (q : Nat × Nat) (n : Nat) : zOp := fun E k b ls st σ => zgd (zfit b q && zroom a st) (bnL (E y (st.take a).reverse σ) fun x σ => k n (b.1 - q.1, b.2 - q.2) ls (.inr (.inr (some x)) :: st.drop a) σ)
def oCaV (y a : Nat) (q : Nat × Nat) (n : Nat) : zOp := fun E k b ls st σ => zgd (zfit b q && zroom a st) (bnV (E y (st.take a).reverse σ) fun σ => k n (b.1 - q.1, b.2 - q.2) ls (st.drop a) σ)
/-- a call with a receiver: it lies a places deep, and is of the kind c -/
def oRcv (c a : Nat) (op : zOp) : zOp := fun E k b ls st σ => match st[a]? with
  | some (.inr (.inl o)) => onR o fun x => chk (zkd σ x = c) (op E k b ls st σ)
  | _ => none
def oRtI : zOp := fun _ _ _ _ st σ => match st with
  | [.inl x] => some (some (.inl x), σ)
  | _ => none
def oRtZ : zOp := fun _ _ _ _ st σ => match st with
  | [.inl x] => chk (zB x) (some (some (.inl x), σ))
  | _ => none
def oRtN (ty : FieldType) : zOp := fun _ _ _ _ st σ => match st with
  | [.inl x] => chk (vp_nar ty x = x) (some (some (.inl x), σ))
  | _ => none
def oRtR : zOp := fun _ _ _ _ st σ => match st with
  | [.inr (.inl o)] => some (some (.inr (.inl o)), σ)
  | _ => none
def oRtL : zOp := fun _ _ _ _ st σ => match st with
  | [.inr (.inr (some w))] => some (some (.inr (.inr (some w))), σ)
  | _ => none
def oRtV : zOp := fun _ _ _ _ st σ => match st with
  | [] => some (none, σ)
  | _ => none
def oSta (f j n : Nat) : zOp := fun _ k b ls st σ => onR (zr σ f j) fun t => k n b ls (.inr (.inl (some t)) :: st) σ
/-- one run of a method's text: tab gives each place its step -/
def nd (n : Nat) (f g : Nat → zOp) : Nat → zOp := fun pc => cond (Nat.blt pc n) (f pc) (g pc)
def lf (n : Nat) (op : zOp) : Nat → zOp := fun pc => cond (Nat.beq pc n) op stk
def zrun (tab : Nat → zOp) (E : zE) : Nat → zK
  | 0, _, _, _, _, _ => none
  | n + 1, pc, b, ls, st, σ => tab pc E (zrun tab E n) b ls st σ
/-- an op asks its continuation at one place at most -/
def zLin (op : zOp) : Prop := ∀ E b ls st σ, (∃ c, ∀ k, op E k b ls st σ = c) ∨ ∃ pc b' ls' st' σ', ∀ k, op E k b ls st σ = k pc b' ls' st' σ'
