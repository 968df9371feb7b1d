/-! cells that stay: where P holds nothing has changed, wherever else cells were made or changed -/
def zEq (P : Nat → Prop) (σ τ : zS) : Prop := (∀ f a, 640 ≤ f → zr τ f a = zr σ f a) ∧ ∀ a, P a → (∀ f, zi τ f a = zi σ f a) ∧ (∀ f, zr τ f a = zr σ f a) ∧ (∀ f, zl τ f a = zl σ f a) ∧ (∀ i, zai τ a i = zai σ a i) ∧ (∀ i, zar τ a i = zar σ a i) ∧ zln τ a = zln σ a ∧ zkd τ a = zkd σ a
theorem zEq.rf {P : Nat → Prop} (σ : zS) : zEq P σ σ := ⟨fun _ _ _ => rfl, fun _ _ => ⟨fun _ => rfl, fun _ => rfl, fun _ => rfl, fun _ => rfl, fun _ => rfl, rfl, rfl⟩⟩
theorem zEq.tr {P : Nat → Prop} {σ τ υ : zS} (h : zEq P σ τ) (g : zEq P τ υ) : zEq P σ υ :=
  ⟨fun f a hf => (g.1 f a hf).trans (h.1 f a hf), fun a ha => ⟨fun f => ((g.2 a ha).1 f).trans ((h.2 a ha).1 f), fun f => ((g.2 a ha).2.1 f).trans ((h.2 a ha).2.1 f), fun f => ((g.2 a ha).2.2.1 f).trans ((h.2 a ha).2.2.1 f), fun f => ((g.2 a ha).2.2.2.1 f).trans ((h.2 a ha).2.2.2.1 f), fun f => ((g.2 a ha).2.2.2.2.1 f).trans ((h.2 a ha).2.2.2.2.1 f), (g.2 a ha).2.2.2.2.2.1.trans (h.2 a ha).2.2.2.2.2.1, (g.2 a ha).2.2.2.2.2.2.trans (h.2 a ha).2.2.2.2.2.2⟩⟩
theorem zEq.mono {P Q : Nat → Prop} {σ τ : zS} (h : zEq P σ τ) (hPQ : ∀ a, Q a → P a) : zEq Q σ τ := ⟨h.1, fun a ha => h.2 a (hPQ a ha)⟩
theorem zEq.i {P : Nat → Prop} {σ τ : zS} (h : zEq P σ τ) {a : Nat} (ha : P a) (f : Nat) : zi τ f a = zi σ f a := (h.2 a ha).1 f
theorem zEq.r {P : Nat → Prop} {σ τ : zS} (h : zEq P σ τ) {a : Nat} (ha : P a) (f : Nat) : zr τ f a = zr σ f a := (h.2 a ha).2.1 f
theorem zEq.l {P : Nat → Prop} {σ τ : zS} (h : zEq P σ τ) {a : Nat} (ha : P a) (f : Nat) : zl τ f a = zl σ f a := (h.2 a ha).2.2.1 f
theorem zEq.ai {P : Nat → Prop} {σ τ : zS} (h : zEq P σ τ) {a : Nat} (ha : P a) (i : Nat) : zai τ a i = zai σ a i := (h.2 a ha).2.2.2.1 i
theorem zEq.ar {P : Nat → Prop} {σ τ : zS} (h : zEq P σ τ) {a : Nat} (ha : P a) (i : Nat) : zar τ a i = zar σ a i := (h.2 a ha).2.2.2.2.1 i
theorem zEq.ln {P : Nat → Prop} {σ τ : zS} (h : zEq P σ τ) {a : Nat} (ha : P a) : zln τ a = zln σ a := (h.2 a ha).2.2.2.2.2.1
theorem zEq.kd {P : Nat → Prop} {σ τ : zS} (h : zEq P σ τ) {a : Nat} (ha : P a) : zkd τ a = zkd σ a := (h.2 a ha).2.2.2.2.2.2
theorem zFr.eq {P Q : Nat → Prop} {σ τ : zS} (h : zFr Q σ τ) (hn : ∀ a, P a → ¬ Q a) : zEq P σ τ :=
  ⟨fun f a _ => by rw [h.r], fun a ha => ⟨fun f => h.i (hn a ha) f, fun f => by rw [h.r], fun f => h.l (hn a ha) f, fun f => h.ai (hn a ha) f, fun f => h.ar (hn a ha) f, by rw [h.ln], by rw [h.kd]⟩⟩
theorem zEq.no {P : Nat → Prop} (σ : zS) (c : Nat) (h : ¬ P (znx σ)) : zEq P σ (zno σ c) := by
  have ne : ∀ a, P a → a ≠ znx σ := fun a ha e => h (e ▸ ha)
  refine ⟨fun f a hf => ?_, fun a ha => ⟨fun f => ?_, fun f => ?_, fun f => ?_, fun _ => rfl, fun _ => rfl, rfl, ?_⟩⟩
  · show (if a = znx σ ∧ f < 640 then none else zr σ f a) = _
    rw [if_neg (by omega)]
  · show (if a = znx σ then 0 else zi σ f a) = _
    rw [if_neg (ne a ha)]
  · show (if a = znx σ ∧ f < 640 then none else zr σ f a) = _
    rw [if_neg (fun q => ne a ha q.1)]
  · show (if a = znx σ then 0 else zl σ f a) = _
    rw [if_neg (ne a ha)]
  · show va_up (zkd σ) (znx σ) c a = _
    unfold va_up
    rw [if_neg (ne a ha)]
theorem zEq.na {P : Nat → Prop} (σ : zS) (c n : Nat) (h : ¬ P (znx σ)) : zEq P σ (zna σ c n) := by
  have ne : ∀ a, P a → a ≠ znx σ := fun a ha e => h (e ▸ ha)
  refine ⟨fun f a hf => rfl, fun a ha => ⟨fun f => rfl, fun f => rfl, fun f => rfl, fun i => ?_, fun i => ?_, ?_, ?_⟩⟩
  · show (if a = znx σ then 0 else zai σ a i) = _
    rw [if_neg (ne a ha)]
  · show (if a = znx σ then none else zar σ a i) = _
    rw [if_neg (ne a ha)]
  · show va_up (zln σ) (znx σ) n a = _
    unfold va_up
    rw [if_neg (ne a ha)]
  · show va_up (zkd σ) (znx σ) c a = _
    unfold va_up
    rw [if_neg (ne a ha)]
theorem zEq.sr {P : Nat → Prop} (σ : zS) {f a : Nat} {v : Option Nat} (hf : f < 640) (h : ¬ P a) : zEq P σ (zsr σ f a v) := by
  refine ⟨fun g b hg => ?_, fun b hb => ⟨fun _ => rfl, fun g => ?_, fun _ => rfl, fun _ => rfl, fun _ => rfl, rfl, rfl⟩⟩
  · rw [zr_sr, if_neg (by omega)]
  · rw [zr_sr, if_neg (fun q : g = f ∧ b = a => h (q.2 ▸ hb))]
theorem zEq.si {P : Nat → Prop} (σ : zS) {f a : Nat} {v : Int32} (h : ¬ P a) : zEq P σ (zsi σ f a v) := (zFr.si (P := fun x => x = a) σ rfl).eq (fun b hb e => h (e ▸ hb))
theorem zEq.sa {P : Nat → Prop} (σ : zS) {a i : Nat} {v : Int32} (h : ¬ P a) : zEq P σ (zsa σ a i v) := (zFr.sa (P := fun x => x = a) σ rfl).eq (fun b hb e => h (e ▸ hb))
theorem zEq.sq {P : Nat → Prop} (σ : zS) {a i : Nat} {v : Option Nat} (h : ¬ P a) : zEq P σ (zsq σ a i v) := (zFr.sq (P := fun x => x = a) σ rfl).eq (fun b hb e => h (e ▸ hb))
/-! fresh cells -/
theorem kd_no (σ : zS) (c : Nat) : zkd (zno σ c) (znx σ) = c := by
  show va_up (zkd σ) (znx σ) c (znx σ) = _
  unfold va_up
  rw [if_pos rfl]
theorem nx_no (σ : zS) (c : Nat) : znx (zno σ c) = znx σ + 1 := rfl
theorem i_no (σ : zS) (c f : Nat) : zi (zno σ c) f (znx σ) = 0 := if_pos rfl
theorem l_no (σ : zS) (c f : Nat) : zl (zno σ c) f (znx σ) = 0 := if_pos rfl
theorem kd_na (σ : zS) (c n : Nat) : zkd (zna σ c n) (znx σ) = c := by
  show va_up (zkd σ) (znx σ) c (znx σ) = _
  unfold va_up
  rw [if_pos rfl]
theorem ln_na (σ : zS) (c n : Nat) : zln (zna σ c n) (znx σ) = n := by
  show va_up (zln σ) (znx σ) n (znx σ) = _
  unfold va_up
  rw [if_pos rfl]
theorem nx_na (σ : zS) (c n : Nat) : znx (zna σ c n) = znx σ + 1 := rfl
theorem ai_na (σ : zS) (c n i : Nat) : zai (zna σ c n) (znx σ) i = 0 := if_pos rfl
theorem ar_na (σ : zS) (c n i : Nat) : zar (zna σ c n) (znx σ) i = none := if_pos rfl
/-! what holds of cells that stay -/
theorem PicS.eq {P : Nat → Prop} {σ τ : zS} {p : Nat} (h : PicS σ p) (g : zEq P σ τ) (hP : ∀ a, p ≤ a → a < p + 2 → P a) : PicS τ p := by
  have h0 := hP p (by omega) (by omega)
  have h1 := hP (p + 1) (by omega) (by omega)
  exact ⟨(g.kd h0).trans h.1, (g.r h0 _).trans h.2.1, (g.kd h1).trans h.2.2.1, (g.ln h1).trans h.2.2.2⟩
theorem PicV.eq {P : Nat → Prop} {σ τ : zS} {p w h : Nat} {px : Nat → Nat → Int} (k : PicV σ p w h px) (g : zEq P σ τ) (hP : ∀ a, p ≤ a → a < p + 2 → P a) : PicV τ p w h px := by
  have h0 := hP p (by omega) (by omega)
  have h1 := hP (p + 1) (by omega) (by omega)
  exact ⟨(g.i h0 _).trans k.1, (g.i h0 _).trans k.2.1, fun x y hx hy => (g.ai h1 _).trans (k.2.2 x y hx hy)⟩
theorem LyS.eq {P : Nat → Prop} {σ τ : zS} {p : Nat} (h : LyS σ p) (g : zEq P σ τ) (hP : ∀ a, p ≤ a → a < p + 3 → P a) : LyS τ p := by
  have h0 := hP p (by omega) (by omega)
  have h1 := hP (p + 1) (by omega) (by omega)
  have h2 := hP (p + 2) (by omega) (by omega)
  exact ⟨(g.kd h0).trans h.1, (g.r h0 _).trans h.2.1, (g.kd h1).trans h.2.2.1, (g.r h1 _).trans h.2.2.2.1, (g.kd h2).trans h.2.2.2.2.1, (g.ln h2).trans h.2.2.2.2.2⟩
theorem LyV.eq {P : Nat → Prop} {σ τ : zS} {p : Nat} {l : Nat → Int} (h : LyV σ p l) (g : zEq P σ τ) (hP : ∀ a, p ≤ a → a < p + 3 → P a) : LyV τ p l := by
  have h0 := hP p (by omega) (by omega)
  have h1 := hP (p + 1) (by omega) (by omega)
  have h2 := hP (p + 2) (by omega) (by omega)
  exact ⟨fun k hk => (g.i h0 _).trans (h.1 k hk), fun k hk => (g.i h1 _).trans (h.2.1 k hk), fun j hj => (g.ai h2 _).trans (h.2.2 j hj)⟩
theorem CmS.eq {P : Nat → Prop} {σ τ : zS} {c : Nat} (h : CmS σ c) (g : zEq P σ τ) (hP : ∀ a, c ≤ a → a < c + 28 → P a) : CmS τ c := by
  have h0 := hP c (by omega) (by omega)
  have h3 := hP (c + 3) (by omega) (by omega)
  exact ⟨(g.kd h0).trans h.1, (g.r h0 _).trans h.2.1, (g.r h0 _).trans h.2.2.1, h.2.2.2.1.eq g (fun a _ _ => hP a (by omega) (by omega)), (g.kd h3).trans h.2.2.2.2.1, (g.ln h3).trans h.2.2.2.2.2.1, fun k hk => (h.2.2.2.2.2.2 k hk).eq g (fun a _ _ => hP a (by omega) (by omega))⟩
theorem CmQ.eq {P : Nat → Prop} {σ τ : zS} {c : Nat} {q : Nat → Nat} (h : CmQ σ c q) (g : zEq P σ τ) (hP : P (c + 3)) : CmQ τ c q := ⟨fun i hi => ⟨(g.ar hP i).trans (h.1 i hi).1, (h.1 i hi).2⟩, h.2⟩
theorem CmV.eq {P : Nat → Prop} {σ τ : zS} {c : Nat} {q : Nat → Nat} {C : zC} (h : CmV σ c q C) (hq : ∀ i, i < cN C → q i < 8) (g : zEq P σ τ) (hP : ∀ a, c ≤ a → a < c + 28 → P a) : CmV τ c q C :=
  ⟨h.1.eq g (fun a _ _ => hP a (by omega) (by omega)), (g.i (hP c (by omega) (by omega)) _).trans h.2.1, fun i hi => (h.2.2 i hi).eq g (fun a _ _ => hP a (by omega) (by have := hq i hi; omega))⟩
theorem HiS.eq {P : Nat → Prop} {σ τ : zS} {H : Nat} (h : HiS σ H) (g : zEq P σ τ) (hP : ∀ a, H ≤ a → a < H + 170 → P a) : HiS τ H := by
  have h0 := hP H (by omega) (by omega)
  have h1 := hP (H + 1) (by omega) (by omega)
  exact ⟨(g.kd h0).trans h.1, (g.r h0 _).trans h.2.1, (g.kd h1).trans h.2.2.1, (g.ln h1).trans h.2.2.2.1, fun k hk => (h.2.2.2.2 k hk).eq g (fun a _ _ => hP a (by omega) (by omega))⟩
theorem HiQ.eq {P : Nat → Prop} {σ τ : zS} {H : Nat} {u : Nat → Nat} (h : HiQ σ H u) (g : zEq P σ τ) (hP : P (H + 1)) : HiQ τ H u := ⟨fun i hi => ⟨(g.ar hP i).trans (h.1 i hi).1, (h.1 i hi).2⟩, h.2⟩
theorem HiV.eq {P : Nat → Prop} {σ τ : zS} {H n : Nat} {u : Nat → Nat} {K : Nat → zC} (h : HiV σ H u n K) (hu : ∀ i, i < n → u i < 6) (hn : ∀ i, i < n → cN (K i) ≤ 8) (g : zEq P σ τ) (hP : ∀ a, H ≤ a → a < H + 170 → P a) : HiV τ H u n K :=
  ⟨(g.i (hP H (by omega) (by omega)) _).trans h.1, fun i hi => (h.2.1 i hi).eq g (hP _ (by omega) (by omega)), fun i hi => (h.2.2 i hi).eq (fun j hj => by have := hn i hi; omega) g (fun a _ _ => hP a (by omega) (by have := hu i hi; omega))⟩
theorem RdS.eq {P : Nat → Prop} {σ τ : zS} {R : Nat} (h : RdS σ R) (g : zEq P σ τ) (hP : ∀ a, R ≤ a → a < R + 4 → P a) : RdS τ R := by
  have h0 := hP R (by omega) (by omega)
  have h3 := hP (R + 3) (by omega) (by omega)
  exact ⟨(g.kd h0).trans h.1, (g.r h0 _).trans h.2.1, h.2.2.1.eq g (fun a _ _ => hP a (by omega) (by omega)), (g.r h0 _).trans h.2.2.2.1, (g.kd h3).trans h.2.2.2.2.1, (g.ln h3).trans h.2.2.2.2.2⟩
theorem TcS.eq {P : Nat → Prop} {σ τ : zS} {X : Nat} (h : TcS σ X) (g : zEq P σ τ) (hP : ∀ a, X ≤ a → a < X + 19 → P a) : TcS τ X := by
  have h0 := hP X (by omega) (by omega)
  have h1 := hP (X + 1) (by omega) (by omega)
  have h2 := hP (X + 2) (by omega) (by omega)
  exact ⟨(g.kd h0).trans h.1, (g.r h0 _).trans h.2.1, (g.kd h1).trans h.2.2.1, (g.ln h1).trans h.2.2.2.1, (g.r h0 _).trans h.2.2.2.2.1, (g.kd h2).trans h.2.2.2.2.2.1, (g.ln h2).trans h.2.2.2.2.2.2.1, fun k hk => (h.2.2.2.2.2.2.2 k hk).eq g (fun a _ _ => hP a (by omega) (by omega))⟩
theorem TcQ.eq {P : Nat → Prop} {σ τ : zS} {X : Nat} (h : TcQ σ X) (g : zEq P σ τ) (hP : P (X + 1)) : TcQ τ X := fun i hi => (g.ar hP i).trans (h i hi)
theorem TcU.eq {P : Nat → Prop} {σ τ : zS} {X : Nat} {u : Nat → Nat} (h : TcU σ X u) (g : zEq P σ τ) (h0 : P X) (h2 : P (X + 2)) : TcU τ X u := ⟨(g.i h0 _).trans h.1, fun k hk => (g.ai h2 _).trans (h.2 k hk)⟩
theorem TcF.eq {P : Nat → Prop} {σ τ : zS} {X : Nat} {T : zT} (h : TcF σ X T) (g : zEq P σ τ) (h0 : P X) : TcF τ X T := ⟨(g.i h0 _).trans h.1, (g.i h0 _).trans h.2.1, (g.i h0 _).trans h.2.2.1, (g.i h0 _).trans h.2.2.2.1, (g.i h0 _).trans h.2.2.2.2.1, (g.i h0 _).trans h.2.2.2.2.2⟩
theorem OF.eq {P : Nat → Prop} {σ τ : zS} {o : Nat} (h : OF σ o) (g : zEq P σ τ) (h0 : P o) : OF τ o := ⟨(g.kd h0).trans h.1, (g.r h0 _).trans h.2.1, (g.r h0 _).trans h.2.2.1, (g.r h0 _).trans h.2.2.2.1, (g.r h0 _).trans h.2.2.2.2.1, (g.r h0 _).trans h.2.2.2.2.2.1, (g.r h0 _).trans h.2.2.2.2.2.2.1, (g.r h0 _).trans h.2.2.2.2.2.2.2.1, (g.r h0 _).trans h.2.2.2.2.2.2.2.2.1, (g.r h0 _).trans h.2.2.2.2.2.2.2.2.2⟩
theorem OS.eq {P : Nat → Prop} {σ τ : zS} {o : Nat} (h : OS σ o) (g : zEq P σ τ) (hP : ∀ a, o ≤ a → a < o + 257 → P a) : OS τ o := by
  obtain ⟨h1, h2, h3, h4, h5, h6, h7, h8, h9, h10⟩ := h
  have q1 := hP (o + 227) (by omega) (by omega)
  have q2 := hP (o + 228) (by omega) (by omega)
  have q3 := hP (o + 228 + 1) (by omega) (by omega)
  exact ⟨h1.eq g (hP o (by omega) (by omega)), h2.eq g (fun a _ _ => hP a (by omega) (by omega)), h3.eq g (fun a _ _ => hP a (by omega) (by omega)), h4.eq g (fun a _ _ => hP a (by omega) (by omega)), ⟨(g.kd q1).trans h5.1, (g.ln q1).trans h5.2⟩, ⟨(g.kd q2).trans h6.1, (g.r q2 _).trans h6.2.1, (g.kd q3).trans h6.2.2.1, (g.ln q3).trans h6.2.2.2⟩, h7.eq g (fun a _ _ => hP a (by omega) (by omega)), h8.eq g (fun a _ _ => hP a (by omega) (by omega)), h9.eq g (fun a _ _ => hP a (by omega) (by omega)), h10.eq g (fun a _ _ => hP a (by omega) (by omega))⟩
theorem OutR.eq {P : Nat → Prop} {σ τ : zS} {X : Nat} (h : OutR σ X) (g : zEq P σ τ) (hP : ∀ a, X ≤ a → a < X + 19 → P a) : OutR τ X := by
  intro i hi
  have h0 := hP (X + 3 + 2 * i) (by omega) (by omega)
  have h1 := hP (X + 3 + 2 * i + 1) (by omega) (by omega)
  obtain ⟨⟨w, h', e1, e2, e3, e4⟩, e5⟩ := h i hi
  refine ⟨⟨w, h', e1, e2, (g.i h0 _).trans e3, (g.i h0 _).trans e4⟩, fun j hj => ?_⟩
  obtain ⟨v, f1, f2⟩ := e5 j hj
  exact ⟨v, f1, (g.ai h1 _).trans f2⟩
theorem Coh.eq {P : Nat → Prop} {σ τ : zS} {X sd : Nat} {C : zC} {u : Nat → Nat} (h : Coh σ X C sd u) (g : zEq P σ τ) (hP : ∀ a, X ≤ a → a < X + 19 → P a) : Coh τ X C sd u := by
  intro k hk hz
  have h0 := hP (X + 3 + 2 * (k / 64)) (by omega) (by omega)
  have h1 := hP (X + 3 + 2 * (k / 64) + 1) (by omega) (by omega)
  obtain ⟨e1, e2, e3⟩ := h k hk hz
  exact ⟨(g.i h0 _).trans e1, (g.i h0 _).trans e2, fun x y hx hy ex ey => (g.ai h1 _).trans (e3 x y hx hy ex ey)⟩
theorem TxV.eq {P : Nat → Prop} {σ τ : zS} {a n : Nat} {t : Nat → Nat} (h : TxV σ a n t) (g : zEq P σ τ) (h0 : P a) (h1 : P (a + 1)) : TxV τ a n t := ⟨(g.i h0 _).trans h.1, fun i hi => (g.ai h1 _).trans (h.2 i hi)⟩
theorem RqI.eq {P : Nat → Prop} {σ τ : zS} {o : Nat} {q : Nat → Nat} {C : zC} {sd : Nat} {s : zU} (h : RqI σ o q C sd s) (hn8 : cN C ≤ 8) (g : zEq P σ τ) (hP : ∀ a, o ≤ a → a < o + 257 → P a) : RqI τ o q C sd s :=
  ⟨h.1.eq g hP, h.2.1.eq g (hP _ (by omega) (by omega)), h.2.2.1.eq (fun i hi => (h.2.1.1 i (by omega)).2) g (fun a _ _ => hP a (by omega) (by omega)), h.2.2.2.1.eq g (hP _ (by omega) (by omega)), h.2.2.2.2.1.eq g (hP _ (by omega) (by omega)) (hP _ (by omega) (by omega)), h.2.2.2.2.2.1.eq g (hP _ (by omega) (by omega)), h.2.2.2.2.2.2.1.eq g (fun a _ _ => hP a (by omega) (by omega)), h.2.2.2.2.2.2.2.1.eq g (fun a _ _ => hP a (by omega) (by omega)), h.2.2.2.2.2.2.2.2⟩
theorem MA.eq {P : Nat → Prop} {σ τ : zS} {m f j k n : Nat} (h : MA σ m f j k n) (g : zEq P σ τ) (h0 : P m) (h1 : P (m + j)) : MA τ m f j k n := ⟨(g.r h0 _).trans h.1, (g.kd h1).trans h.2.1, (g.ln h1).trans h.2.2⟩
theorem StK.eq {P : Nat → Prop} {σ τ : zS} {o : Nat} (h : StK σ o) (g : zEq P σ τ) (hP : ∀ a, a < o → P a) : StK τ o := by
  intro j hj
  obtain ⟨t, e1, e2, e3, e4, e5⟩ := h j hj
  exact ⟨t, (g.1 _ _ (by decide)).trans e1, e2, (g.kd (hP t e2)).trans e3, (g.ln (hP t e2)).trans e4, fun k hk => (g.ai (hP t e2) k).trans (e5 k hk)⟩
