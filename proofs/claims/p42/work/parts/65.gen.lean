/-! parts of a change, on both sides -/
def aPush (A : zW) : zW := (aC A, (psN (aHn A), psK (aHn A) (aHk A) (aC A)), aS A, (aTn A, aTx A), aU A, aT A)
def aSet (A : zW) (C : zC) : zW := (C, (aHn A, aHk A), aS A, (aTn A, aTx A), aU A, aT A)
def aTil (A : zW) (v : Nat → Nat) : zW := (aC A, (aHn A, aHk A), aS A, (aTn A, aTx A), v, aT A)
theorem GA.push {A : zW} {B : Nat} (hG : GA A B) : GA (aPush A) B := by
  obtain ⟨hC, hH, hS, hT, hs, hlm, hu, hv, hb⟩ := id hG
  exact ⟨hC, ⟨psN_le hH.1, psK_G hG⟩, hS, hT, hs, hlm, hu, hv, hb⟩
theorem GA.til {A : zW} {B : Nat} {v : Nat → Nat} (hG : GA A B) (h : ∀ j, j < 512 → v j = 0 ∨ v j = aU A j) : GA (aTil A v) B := by
  obtain ⟨hC, hH, hS, hT, hs, hlm, hu, hv, hb⟩ := hG
  refine ⟨hC, hH, hS, hT, hs, hlm, fun k hk => ?_, fun k hk hz => ?_, hb⟩
  · show v k ≤ tCk (aT A)
    rcases h k hk with e | e <;> rw [e]
    · omega
    · exact hu k hk
  · have hz : v k ≠ 0 := hz
    rcases h k hk with e | e
    · exact absurd e hz
    · exact hv k hk (by rw [← e]; exact hz)
theorem GA.set {A : zW} {B : Nat} {C : zC} (hG : GA A B) (hC' : GC C) (h : ∀ k, k < 512 → aU A k ≠ 0 → k / 64 < cN C ∧ cL C (k / 64) 5 = 1 ∧ cW C = cW (aC A) ∧ cH C = cH (aC A)) : GA (aSet A C) B := by
  obtain ⟨hC, hH, hS, hT, hs, hlm, hu, hv, hb⟩ := hG
  refine ⟨hC', hH, hS, hT, hs, hlm, hu, fun k hk hz => ?_, hb⟩
  obtain ⟨h1, h2, h3, h4⟩ := h k hk hz
  refine ⟨h1, h2, ?_⟩
  show k % 8 ≤ (cW C - 1) / tSd (aT A) ∧ k / 8 % 8 ≤ (cH C - 1) / tSd (aT A)
  rw [h3, h4]
  exact (hv k hk hz).2.2
theorem s_cpush {σ : zS} {o B : Nat} {A : zW} {q u P : Nat → Nat} (hG : GA A B) (hI : CIx σ o A q u P) (d : Nat) : ∃ τ u', zEv (d + 6) mX1_push [.inr (.inl (some (o + 57))), .inr (.inl (some (o + 1)))] σ = some (none, τ) ∧ zFr (inH (o + 57)) σ τ ∧ CIx τ o (aPush A) q u' P := by
  obtain ⟨hR, ⟨r, hr⟩, hHQ, hHV, hS, hT⟩ := hI
  have hO := hR.1
  have hn8 := hG.1.2.2.1
  obtain ⟨τ, u', a1, a2, a3, a4⟩ := s_push hO.h hHQ hHV hG.2.1.1 (fun i hi => (hG.2.1.2 i hi).2.2.1) hO.c hR.2.1 hR.2.2.1 hG.1 (by omega) d
  exact ⟨τ, u', a1, a2, hR.fr hn8 a2 (fun a ha => by unfold inC at ha; unfold inH; omega), ⟨r, hr.fr a2 (by unfold inH; omega)⟩, a3, a4, hS.fr hG.2.2.1 a2 (by unfold inH; omega) (fun a ha => by unfold inH; omega), hT.fr a2 (by unfold inH; omega) (by unfold inH; omega)⟩
theorem CIx.comp {σ τ : zS} {o B : Nat} {A : zW} {q q' u P : Nat → Nat} {C : zC} (hG : GA A B) (h : CIx σ o A q u P) (g : zFr (inC (o + 1)) σ τ) (hq : CmQ τ (o + 1) q') (hv : CmV τ (o + 1) q' C) (hc : ∀ k, k < 512 → aU A k ≠ 0 → cW C = cW (aC A) ∧ cH C = cH (aC A) ∧ ∀ x y, x < cW C → y < cH C → x / tSd (aT A) = k % 8 → y / tSd (aT A) = k / 8 % 8 → outI C (k / 64 + 1) x y = outI (aC A) (k / 64 + 1) x y) : CIx τ o (aSet A C) q' u P := by
  obtain ⟨hR, ⟨r, hr⟩, hHQ, hHV, hS, hT⟩ := h
  have hCh := hR.2.2.2.2.2.2.2.1.fr g (fun a h1 h2 => by unfold inC; omega)
  refine ⟨⟨hR.1.fr g, hq, hv, hR.2.2.2.1.fr g (by unfold inC; omega), hR.2.2.2.2.1.fr g (by unfold inC; omega) (by unfold inC; omega), hR.2.2.2.2.2.1.fr g (by unfold inC; omega), hR.2.2.2.2.2.2.1.fr g (fun a h1 h2 => by unfold inC; omega), fun k hk hz => ?_, hR.2.2.2.2.2.2.2.2⟩, ⟨r, hr.fr g (by unfold inC; omega)⟩, hHQ.fr g (by unfold inC; omega), hHV.fr hHQ hG.2.1.1 (fun i hi => (hG.2.1.2 i hi).2.2.1) g (fun a ha => by unfold inH at ha; unfold inC; omega), hS.fr hG.2.2.1 g (by unfold inC; omega) (fun a ha => by unfold inC; omega), hT.fr g (by unfold inC; omega) (by unfold inC; omega)⟩
  obtain ⟨c1, c2, c3⟩ := hc k hk hz
  obtain ⟨d1, d2, d3⟩ := hCh k hk hz
  refine ⟨by show zi τ 257 _ = nI (cW C); rw [c1]; exact d1, by show zi τ 258 _ = nI (cH C); rw [c2]; exact d2, fun x y hx hy ex ey => ?_⟩
  show zai τ _ _ = iI (outI C (k / 64 + 1) x y)
  rw [c3 x y hx hy ex ey]
  exact d3 x y (by rw [← c1]; exact hx) (by rw [← c2]; exact hy) ex ey
/-- the object's view stands where other cells change -/
theorem CIx.fr {Q : Nat → Prop} {σ τ : zS} {o B : Nat} {A : zW} {q u P : Nat → Nat} (hG : GA A B) (h : CIx σ o A q u P) (g : zFr Q σ τ) (h1 : ∀ a, o ≤ a → a < o + 249 → ¬ Q a) (h2 : ∀ a, o + 257 ≤ a → ¬ Q a) : CIx τ o A q u P := by
  obtain ⟨hR, ⟨r, hr⟩, hHQ, hHV, hS, hT⟩ := h
  exact ⟨hR.fr hG.1.2.2.1 g (fun a ha => h1 a (by unfold inC at ha; omega) (by unfold inC at ha; omega)), ⟨r, hr.fr g (h1 _ (by omega) (by omega))⟩, hHQ.fr g (h1 _ (by omega) (by omega)), hHV.fr hHQ hG.2.1.1 (fun i hi => (hG.2.1.2 i hi).2.2.1) g (fun a ha => h1 a (by unfold inH at ha; omega) (by unfold inH at ha; omega)), hS.fr hG.2.2.1 g (h1 _ (by omega) (by omega)) h2, hT.fr g (h1 _ (by omega) (by omega)) (h1 _ (by omega) (by omega))⟩
theorem s_ctil {σ : zS} {o l B : Nat} {A : zW} {q u P : Nat → Nat} (hG : GA A B) (hB : B < 2 ^ 30) (hI : CIx σ o A q u P) (hl : l ≤ 8) (d : Nat) : ∃ τ n, zEv (d + 3) mX9_removeFrom [.inr (.inl (some (o + 230))), .inl (nI l)] σ = some (some (.inl (nI n)), τ) ∧ zFr (inU (o + 230)) σ τ ∧ CIx τ o (aTil A (zrU (aU A) (64 * l) 512)) q u P ∧ n + cnt (zrU (aU A) (64 * l) 512) 512 = cnt (aU A) 512 := by
  obtain ⟨τ, n, b1, b2, b3, b4, b5⟩ := s_removeFrom hI.1.1.tc hI.1.2.2.2.2.1 (hG.u31 hB) hl d
  exact ⟨τ, n, b1, b2, hI.rem hG b2 b4 b3 (fun j _ => zrU_or _ _ _ _), b5⟩
theorem s_call {σ : zS} {o B : Nat} {A : zW} {q u P : Nat → Nat} (hG : GA A B) (hB : B < 2 ^ 30) (hI : CIx σ o A q u P) (d : Nat) : ∃ τ, zEv (d + 4) mX9_removeAll [.inr (.inl (some (o + 230)))] σ = some (some (.inl (nI (cnt (aU A) 512))), τ) ∧ zFr (inU (o + 230)) σ τ ∧ CIx τ o (aTil A (fun _ => 0)) q u P := by
  obtain ⟨τ, b1, b2, b3, b4⟩ := s_removeAll hI.1.1.tc hI.1.2.2.2.2.1 (hG.u31 hB) d
  exact ⟨τ, b1, b2, hI.rem hG b2 b4 b3 (fun j _ => Or.inl rfl)⟩
/-! the reference's side -/
/-- nothing of a refused or asking call stays in the reference but what it calls thrown -/
theorem zOC.same {σ : zS} {o : Nat} {A : zW} {q u P : Nat → Nat} (hI : CIx σ o A q u P) (r : Int32) : zOC o (some (some (.inl r), σ)) r A σ := ⟨σ, q, u, P, rfl, hI, zFr.rf σ⟩
