/-! the whole state, and the class's view of it -/
abbrev zW : Type := zC × (Nat × (Nat → zC)) × (Nat → Option zC) × (Nat × (Nat → Nat)) × (Nat → Nat) × zT
def aC (A : zW) : zC := A.1
def aHn (A : zW) : Nat := A.2.1.1
def aHk (A : zW) : Nat → zC := A.2.1.2
def aS (A : zW) : Nat → Option zC := A.2.2.1
def aTn (A : zW) : Nat := A.2.2.2.1.1
def aTx (A : zW) : Nat → Nat := A.2.2.2.1.2
def aU (A : zW) : Nat → Nat := A.2.2.2.2.1
def aT (A : zW) : zT := A.2.2.2.2.2
/-- a good state; B bounds the clock -/
def GA (A : zW) (B : Nat) : Prop := GC (aC A) ∧ (aHn A ≤ 6 ∧ ∀ i, i < aHn A → GC (aHk A i)) ∧ (∀ s, s < 2 → ∀ C, aS A s = some C → GC C) ∧ (aTn A ≤ 160 ∧ ∀ i, i < aTn A → 1 ≤ aTx A i ∧ aTx A i ≤ 255) ∧ (2 ≤ tSd (aT A) ∧ tSd (aT A) ≤ 8) ∧ (1 ≤ tLm (aT A) ∧ tLm (aT A) ≤ 64) ∧ (∀ k, k < 512 → aU A k ≤ tCk (aT A)) ∧ (∀ k, k < 512 → aU A k ≠ 0 → k / 64 < cN (aC A) ∧ cL (aC A) (k / 64) 5 = 1 ∧ k % 8 ≤ (cW (aC A) - 1) / tSd (aT A) ∧ k / 8 % 8 ≤ (cH (aC A) - 1) / tSd (aT A)) ∧ tCk (aT A) ≤ B
def TxV (σ : zS) (a n : Nat) (t : Nat → Nat) : Prop := zi σ 385 a = nI n ∧ ∀ i, i < n → zai σ (a + 1) i = nI (t i)
def SnV (σ : zS) (o : Nat) (P : Nat → Nat) (S : Nat → Option zC) : Prop := (∀ s, s < 2 → (S s = none ∧ zar σ (o + 227) s = none) ∨ ∃ C, S s = some C ∧ zar σ (o + 227) s = some (P s) ∧ o + 257 ≤ P s ∧ P s + 28 ≤ znx σ ∧ CmS σ (P s) ∧ CmQ σ (P s) (fun x => x) ∧ CmV σ (P s) (fun x => x) C) ∧ (S 0 ≠ none → S 1 ≠ none → P 0 + 28 ≤ P 1 ∨ P 1 + 28 ≤ P 0)
theorem TxV.fr {Q : Nat → Prop} {σ τ : zS} {a n : Nat} {t : Nat → Nat} (h : TxV σ a n t) (g : zFr Q σ τ) (h1 : ¬ Q a) (h2 : ¬ Q (a + 1)) : TxV τ a n t := ⟨(g.i h1 _).trans h.1, fun i hi => (g.ai h2 i).trans (h.2 i hi)⟩
theorem SnV.fr {Q : Nat → Prop} {σ τ : zS} {o : Nat} {P : Nat → Nat} {S : Nat → Option zC} (h : SnV σ o P S) (hg : ∀ s, s < 2 → ∀ C, S s = some C → GC C) (g : zFr Q σ τ) (h1 : ¬ Q (o + 227)) (h2 : ∀ a, o + 257 ≤ a → ¬ Q a) : SnV τ o P S := by
  refine ⟨fun s hs => ?_, h.2⟩
  rcases h.1 s hs with ⟨e1, e2⟩ | ⟨C, e1, e2, e3, e4, e5, e6, e7⟩
  · exact Or.inl ⟨e1, (g.ar h1 s).trans e2⟩
  · refine Or.inr ⟨C, e1, (g.ar h1 s).trans e2, e3, by rw [g.nx]; exact e4, e5.fr g, e6.fr g (h2 _ (by omega)), e7.fr e6 (hg s hs C e1).2.2.1 g (fun a ha => h2 a (by unfold inC at ha; omega))⟩
def CIx (σ : zS) (o : Nat) (A : zW) (q u P : Nat → Nat) : Prop := RqI σ o q (aC A) (tSd (aT A)) (aU A, aT A) ∧ (∃ r, CmQ σ (o + 29) r) ∧ HiQ σ (o + 57) u ∧ HiV σ (o + 57) u (aHn A) (aHk A) ∧ SnV σ o P (aS A) ∧ TxV σ (o + 228) (aTn A) (aTx A)
theorem RqI.fr {Q : Nat → Prop} {σ τ : zS} {o : Nat} {q : Nat → Nat} {C : zC} {sd : Nat} {s : zU} (h : RqI σ o q C sd s) (hn8 : cN C ≤ 8) (g : zFr Q σ τ) (hn : ∀ a, inC (o + 1) a ∨ (o + 230 ≤ a ∧ a < o + 249) → ¬ Q a) : RqI τ o q C sd s :=
  ⟨h.1.fr g, h.2.1.fr g (hn _ (by unfold inC; omega)), h.2.2.1.fr h.2.1 hn8 g (fun a ha => hn a (Or.inl ha)), h.2.2.2.1.fr g (hn _ (by omega)), h.2.2.2.2.1.fr g (hn _ (by omega)) (hn _ (by omega)), h.2.2.2.2.2.1.fr g (hn _ (by omega)), h.2.2.2.2.2.2.1.fr g (fun a h1 h2 => hn a (by omega)), h.2.2.2.2.2.2.2.1.fr g (fun a h1 h2 => hn a (by omega)), h.2.2.2.2.2.2.2.2⟩
/-- tiles that are gone from a request's state -/
theorem RqI.rem {σ τ : zS} {o : Nat} {q : Nat → Nat} {C : zC} {sd : Nat} {s : zU} {v : Nat → Nat} (h : RqI σ o q C sd s) (hn8 : cN C ≤ 8) (g : zFr (inU (o + 230)) σ τ) (k : keepU (o + 230) σ τ) (hU : TcU τ (o + 230) v) (hv : ∀ j, j < 512 → v j = 0 ∨ v j = s.1 j) : RqI τ o q C sd (v, s.2) :=
  ⟨h.1.fr g, h.2.1.fr g (by unfold inU; omega), h.2.2.1.fr h.2.1 hn8 g (fun a ha => by unfold inC at ha; unfold inU; omega), h.2.2.2.1.fr g (by unfold inU; omega), hU, h.2.2.2.2.2.1.kp k, h.2.2.2.2.2.2.1.fr g (fun a h1 h2 => by unfold inU; omega), (h.2.2.2.2.2.2.2.1.fr g (fun a h1 h2 => by unfold inU; omega)).mono (fun j hj hz => (hv j hj).elim (fun e => absurd e hz) (fun e => by rw [← e]; exact hz)), h.2.2.2.2.2.2.2.2.1, fun j hj => by have := h.2.2.2.2.2.2.2.2.2 j hj; show v j ≤ tCk s.2; rcases hv j hj with e | e <;> rw [e] <;> omega⟩
theorem GA.u31 {A : zW} {B : Nat} (h : GA A B) (hB : B < 2 ^ 30) : ∀ k, k < 512 → aU A k < 2 ^ 31 := fun k hk => by
  have h1 := h.2.2.2.2.2.2.1 k hk
  have h2 := h.2.2.2.2.2.2.2.2
  omega
/-- a change is about to be made, from a layer on -/
def aCh (A : zW) (l : Nat) : zW := (aC A, (psN (aHn A), psK (aHn A) (aHk A) (aC A)), aS A, (aTn A, aTx A), zrU (aU A) (64 * l) 512, aT A)
theorem zrU_or (u : Nat → Nat) (a b k : Nat) : zrU u a b k = 0 ∨ zrU u a b k = u k := by
  unfold zrU
  split
  · exact Or.inl rfl
  · exact Or.inr rfl
def inHU (o a : Nat) : Prop := inH (o + 57) a ∨ inU (o + 230) a
theorem s_startChange {σ : zS} {o l B : Nat} {A : zW} {q u P : Nat → Nat} (hG : GA A B) (hB : B < 2 ^ 30) (hI : CIx σ o A q u P) (hl : l ≤ 8) (d : Nat) : ∃ τ u', zEv (d + 7) mX10_startChangeOf [.inr (.inl (some o)), .inl (nI l)] σ = some (none, τ) ∧ zFr (inHU o) σ τ ∧ CIx τ o (aCh A l) q u' P := by
  obtain ⟨hR, ⟨r, hr⟩, hHQ, hHV, hS, hT⟩ := hI
  have hO := hR.1
  have hn8 := hG.1.2.2.1
  obtain ⟨τ, u', a1, a2, a3, a4⟩ := s_push hO.h hHQ hHV hG.2.1.1 (fun i hi => (hG.2.1.2 i hi).2.2.1) hO.c hR.2.1 hR.2.2.1 hG.1 (by omega) d
  have hR2 := hR.fr hn8 a2 (fun a ha => by unfold inC at ha; unfold inH; omega)
  obtain ⟨υ, n, b1, b2, b3, b4, b5⟩ := s_removeFrom hR2.1.tc hR2.2.2.2.2.1 (hG.u31 hB) hl (d + 3)
  have hR3 := hR2.rem hn8 b2 b4 b3 (fun j hj => zrU_or _ _ _ _)
  have hF : zFr (inHU o) σ υ := (a2.mono (fun a ha => Or.inl ha)).tr (b2.mono (fun a ha => Or.inr ha))
  refine ⟨υ, u', ?_, hF, hR3, ⟨r, hr.fr hF (by unfold inHU inH inU; omega)⟩, a3.fr b2 (by unfold inU; omega), a4.fr a3 (by show psN (aHn A) ≤ 6; have := hG.2.1.1; unfold psN; split <;> omega) (fun i hi => ?_) b2 (fun a ha => by unfold inH at ha; unfold inU; omega), hS.fr hG.2.2.1 hF (by unfold inHU inH inU; omega) (fun a ha => by unfold inHU inH inU; omega), hT.fr hF (by unfold inHU inH inU; omega) (by unfold inHU inH inU; omega)⟩
  · rw [vX10_startChangeOf]
    unfold fX10_startChangeOf
    simp only [zlt_e, onR_s, nul_s, nul_n, chk_e, bnI_s, bnR_s, bnV_s, zi_si, zi_sr, zi_sl, zi_sa, zi_sq, zr_si, zr_sr, zr_sl, zr_sa, zr_sq, zl_si, zl_sr, zl_sl, zl_sa, zl_sq, zai_si, zai_sr, zai_sl, zai_sa, zai_sq, zar_si, zar_sr, zar_sl, zar_sa, zar_sq, zkd_si, zkd_sr, zkd_sl, zkd_sa, zkd_sq, zln_si, zln_sr, zln_sl, zln_sa, zln_sq, znx_si, znx_sr, znx_sl, znx_sa, znx_sq, hO.f.1, hO.f.2.1, hO.f.2.2.2.1, hO.h.1, if_true, a1, hR2.1.f.1, hR2.1.f.2.2.2.2.2.2.1, hR2.1.tc.1, b1]
  · have hi : i < psN (aHn A) := hi
    have h6 := hG.2.1.1
    unfold psN at hi
    unfold psK
    by_cases e6 : aHn A = 6
    · rw [if_pos e6]
      by_cases e5 : i < 5
      · rw [if_pos e5]; exact (hG.2.1.2 (i + 1) (by omega)).2.2.1
      · rw [if_neg e5]; exact hn8
    · rw [if_neg e6]
      by_cases e7 : i < aHn A
      · rw [if_pos e7]; exact (hG.2.1.2 i e7).2.2.1
      · rw [if_neg e7]; exact hn8
