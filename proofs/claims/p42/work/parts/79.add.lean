/-! kinds: the class's tables -/
def tbK (j k : Nat) : Int := match j with
  | 0 => ([2, 1, 1, 1, 0, 1, 1, 1, 1, 1, 2, 2, 1, 0] : List Int).getD k 0
  | 1 => ([0, -255, 0, 2, 0, 0, 1, 1, 1, 1, 1, -3, 0, 0] : List Int).getD k 0
  | 2 => ([254, 255, 400, 16, 0, 256, 3, 2, 3, 3, 3, 3, 255, 0] : List Int).getD k 0
  | 3 => ([1, 0, 0, 0, 0, 0, 0, 0, 0, 0, 0, -3, 0, 0] : List Int).getD k 0
  | _ => ([255, 0, 0, 0, 0, 0, 0, 0, 0, 0, 300, 3, 0, 0] : List Int).getD k 0
/-- the class's tables stand below o -/
def StK (σ : zS) (o : Nat) : Prop := ∀ j, 1 ≤ j ∧ j < 5 → ∃ t, zr σ 640 j = some t ∧ t < o ∧ zkd σ t = 16 ∧ zln σ t = 14 ∧ ∀ k, k < 14 → zai σ t k = iI (tbK j k)
theorem StK.fr {P : Nat → Prop} {σ τ : zS} {o : Nat} (h : StK σ o) (g : zFr P σ τ) (hn : ∀ a, a < o → ¬ P a) : StK τ o := fun j hj => by
  obtain ⟨t, h1, h2, h3, h4, h5⟩ := h j hj
  exact ⟨t, by rw [g.r]; exact h1, h2, by rw [g.kd]; exact h3, by rw [g.ln]; exact h4, fun k hk => (g.ai (hn t h2) k).trans (h5 k hk)⟩
theorem s_entry {σ : zS} {o j k : Nat} (h : StK σ o) (hj : 1 ≤ j ∧ j < 5) (hk : k < 14) (d : Nat) : ∃ t, zr σ 640 j = some t ∧ zEv (d + 1) mX2_entry [.inr (.inl (some t)), .inl (nI k)] σ = some (some (.inl (iI (tbK j k))), σ) := by
  obtain ⟨t, h1, h2, h3, h4, h5⟩ := h j hj
  refine ⟨t, h1, ?_⟩
  have n14 : Int32.ofNat 14 = nI 14 := rfl
  rw [vX2_entry]
  unfold fX2_entry
  simp only [zlt_e, onR_s, nul_s, nul_n, chk_e, bnI_s, bnR_s, bnV_s, zi_si, zi_sr, zi_sl, zi_sa, zi_sq, zr_si, zr_sr, zr_sl, zr_sa, zr_sq, zl_si, zl_sr, zl_sl, zl_sa, zl_sq, zai_si, zai_sr, zai_sl, zai_sa, zai_sq, zar_si, zar_sr, zar_sl, zar_sa, zar_sq, zkd_si, zkd_sr, zkd_sl, zkd_sa, zkd_sq, zln_si, zln_sr, zln_sl, zln_sa, zln_sq, znx_si, znx_sr, znx_sl, znx_sa, znx_sq, h3, h4, n14, nL 0, n_lt (show k < 2 ^ 31 by omega) (show 0 < 2 ^ 31 by decide), Nat.not_lt_zero, if_false, if_true, n_lt (show k < 2 ^ 31 by omega) (show 14 < 2 ^ 31 by decide), hk, n_zin (show k < 2 ^ 31 by omega), n_tn (show k < 2 ^ 31 by omega), and_self, h5 k hk]
theorem tb_eq : ∀ k, k < 14 → tbK 1 k = loA k ∧ tbK 2 k = hiA k ∧ (k ≠ 0 → tbK 3 k = loB k 0) ∧ tbK 4 k = hiB k := by decide
theorem s_lowestA {σ : zS} {o k : Nat} (h : StK σ o) (hk : k < 14) (d : Nat) : zEv (d + 2) mX2_lowestA [.inl (nI k)] σ = some (some (.inl (iI (loA k))), σ) := by
  obtain ⟨t, h1, h2⟩ := s_entry h (show 1 ≤ 1 ∧ 1 < 5 by decide) hk d
  rw [vX2_lowestA]
  unfold fX2_lowestA
  simp only [zlt_e, onR_s, nul_s, nul_n, chk_e, bnI_s, bnR_s, bnV_s, zi_si, zi_sr, zi_sl, zi_sa, zi_sq, zr_si, zr_sr, zr_sl, zr_sa, zr_sq, zl_si, zl_sr, zl_sl, zl_sa, zl_sq, zai_si, zai_sr, zai_sl, zai_sa, zai_sq, zar_si, zar_sr, zar_sl, zar_sa, zar_sq, zkd_si, zkd_sr, zkd_sl, zkd_sa, zkd_sq, zln_si, zln_sr, zln_sl, zln_sa, zln_sq, znx_si, znx_sr, znx_sl, znx_sa, znx_sq, h1, h2, (tb_eq k hk).1]
theorem s_highestA {σ : zS} {o k : Nat} (h : StK σ o) (hk : k < 14) (d : Nat) : zEv (d + 2) mX2_highestA [.inl (nI k)] σ = some (some (.inl (iI (hiA k))), σ) := by
  obtain ⟨t, h1, h2⟩ := s_entry h (show 1 ≤ 2 ∧ 2 < 5 by decide) hk d
  rw [vX2_highestA]
  unfold fX2_highestA
  simp only [zlt_e, onR_s, nul_s, nul_n, chk_e, bnI_s, bnR_s, bnV_s, zi_si, zi_sr, zi_sl, zi_sa, zi_sq, zr_si, zr_sr, zr_sl, zr_sa, zr_sq, zl_si, zl_sr, zl_sl, zl_sa, zl_sq, zai_si, zai_sr, zai_sl, zai_sa, zai_sq, zar_si, zar_sr, zar_sl, zar_sa, zar_sq, zkd_si, zkd_sr, zkd_sl, zkd_sa, zkd_sq, zln_si, zln_sr, zln_sl, zln_sa, zln_sq, znx_si, znx_sr, znx_sl, znx_sa, znx_sq, h1, h2, (tb_eq k hk).2.1]
theorem s_highestB {σ : zS} {o k : Nat} (h : StK σ o) (hk : k < 14) (d : Nat) : zEv (d + 2) mX2_highestB [.inl (nI k)] σ = some (some (.inl (iI (hiB k))), σ) := by
  obtain ⟨t, h1, h2⟩ := s_entry h (show 1 ≤ 4 ∧ 4 < 5 by decide) hk d
  rw [vX2_highestB]
  unfold fX2_highestB
  simp only [zlt_e, onR_s, nul_s, nul_n, chk_e, bnI_s, bnR_s, bnV_s, zi_si, zi_sr, zi_sl, zi_sa, zi_sq, zr_si, zr_sr, zr_sl, zr_sa, zr_sq, zl_si, zl_sr, zl_sl, zl_sa, zl_sq, zai_si, zai_sr, zai_sl, zai_sa, zai_sq, zar_si, zar_sr, zar_sl, zar_sa, zar_sq, zkd_si, zkd_sr, zkd_sl, zkd_sa, zkd_sq, zln_si, zln_sr, zln_sl, zln_sa, zln_sq, znx_si, znx_sr, znx_sl, znx_sa, znx_sq, h1, h2, (tb_eq k hk).2.2.2]
theorem s_lowestB {σ : zS} {o k : Nat} (h : StK σ o) (hk : k < 14) (a : Int) (d : Nat) : zEv (d + 2) mX2_lowestB [.inl (nI k), .inl (iI a)] σ = some (some (.inl (iI (loB k a))), σ) := by
  obtain ⟨t, h1, h2⟩ := s_entry h (show 1 ≤ 3 ∧ 3 < 5 by decide) hk d
  have e0 : (nI k = 0) ↔ k = 0 := n_eq (by omega) (by decide)
  rw [vX2_lowestB]
  unfold fX2_lowestB
  simp only [e0]
  by_cases h0 : k = 0
  · rw [if_pos h0, h0, show (1 : Int32) = iI 1 from rfl, i_add]
    rfl
  · rw [if_neg h0]
    have hk0 : ¬ ((k : Int) = 0) := by omega
    have e : loB k a = loB k 0 := by unfold loB; rw [if_neg hk0, if_neg hk0]
    simp only [zlt_e, onR_s, nul_s, nul_n, chk_e, bnI_s, bnR_s, bnV_s, zi_si, zi_sr, zi_sl, zi_sa, zi_sq, zr_si, zr_sr, zr_sl, zr_sa, zr_sq, zl_si, zl_sr, zl_sl, zl_sa, zl_sq, zai_si, zai_sr, zai_sl, zai_sa, zai_sq, zar_si, zar_sr, zar_sl, zar_sa, zar_sq, zkd_si, zkd_sr, zkd_sl, zkd_sa, zkd_sq, zln_si, zln_sr, zln_sl, zln_sa, zln_sq, znx_si, znx_sr, znx_sl, znx_sa, znx_sq, h1, h2, (tb_eq k hk).2.2.1 h0, e]
def bPar (k a b : Int) : Bool := decide (0 ≤ k ∧ k ≤ 13) && (decide (loA k ≤ a ∧ a ≤ hiA k) && decide (loB k a ≤ b ∧ b ≤ hiB k))
theorem bPar_iff (k a b : Int) : bPar k a b = true ↔ (0 ≤ k ∧ k ≤ 13) ∧ okP k a b := by
  unfold bPar okP
  simp only [Bool.and_eq_true, decide_eq_true_eq]
theorem lo_R {k : Int} (hk : 0 ≤ k ∧ k ≤ 13) : (-255 ≤ loA k ∧ loA k ≤ 2) ∧ (0 ≤ hiA k ∧ hiA k ≤ 400) ∧ 0 ≤ hiB k ∧ hiB k ≤ 300 := by
  unfold loA hiA hiB
  repeat' split
  all_goals omega
theorem loB_R {k a : Int} (ha : -1000 ≤ a ∧ a ≤ 1000) : -1000 ≤ loB k a ∧ loB k a ≤ 1001 := by
  unfold loB
  repeat' split
  all_goals omega
theorem s_allow {σ : zS} {o : Nat} (h : StK σ o) (k a b : Int32) (d : Nat) : zEv (d + 3) mX2_allow [.inl k, .inl a, .inl b] σ = some (some (.inl (zb (bPar k.toInt a.toInt b.toInt = true))), σ) := by
  have b1 : zB 1 = True := eq_true (Or.inr rfl)
  have b0 : zB 0 = True := eq_true (Or.inl rfl)
  have bp := bPar_iff k.toInt a.toInt b.toInt
  have w1 : ((0 : Int32) ≤ k ∧ k ≤ 13) ↔ 0 ≤ k.toInt ∧ k.toInt ≤ 13 := w_in (a := 0) (b := 13) (by decide) (by decide) (by decide) (by decide)
  rw [vX2_allow]
  unfold fX2_allow
  simp only [bnI_s, s_within, zb_0, w1, chk_e, b1, b0, if_true]
  by_cases hk : 0 ≤ k.toInt ∧ k.toInt ≤ 13
  · rw [if_neg (fun q => q hk)]
    have ek : k = nI k.toNatClampNeg := n_of hk.1
    have et : k.toNatClampNeg = k.toInt.toNat := rfl
    have hk14 : k.toNatClampNeg < 14 := by omega
    have ez : k.toInt = (k.toNatClampNeg : Int) := by omega
    rw [ez] at bp ⊢
    generalize k.toNatClampNeg = j at *
    subst ek
    have r1 := lo_R (k := (j : Int)) (by omega)
    have w2 : (iI (loA j) ≤ a ∧ a ≤ iI (hiA j)) ↔ loA j ≤ a.toInt ∧ a.toInt ≤ hiA j := w_in (by omega) (by omega) (by omega) (by omega)
    have ea : a = iI a.toInt := i_of a
    simp only [s_lowestA h hk14 d, s_highestA h hk14 d, s_within, bnI_s, zb_0, w2]
    by_cases h2 : loA j ≤ a.toInt ∧ a.toInt ≤ hiA j
    · rw [if_neg (fun q => q h2)]
      have el := s_lowestB h hk14 a.toInt d
      rw [← ea] at el
      have r2 := loB_R (k := (j : Int)) (a := a.toInt) (by omega)
      have w3 : (iI (loB j a.toInt) ≤ b ∧ b ≤ iI (hiB j)) ↔ loB j a.toInt ≤ b.toInt ∧ b.toInt ≤ hiB j := w_in (by omega) (by omega) (by omega) (by omega)
      simp only [el, s_highestB h hk14 d, s_within, bnI_s, zb_0, w3]
      by_cases h3 : loB j a.toInt ≤ b.toInt ∧ b.toInt ≤ hiB j
      · rw [if_neg (fun q => q h3), zb_t (bp.mpr ⟨by omega, h2, h3⟩)]
      · rw [if_pos h3, zb_f (fun q => h3 (bp.mp q).2.2)]
    · rw [if_pos h2, zb_f (fun q => h2 (bp.mp q).2.1)]
  · rw [if_pos hk, zb_f (fun q => hk (bp.mp q).1)]
/-! kinds: the reference -/
/-! addLayer -/
def addC (C : zC) (k a b : Int) : zC := (cW C, cH C, cN C + 1, cP C, fun i => if i = cN C then lNew k a b else cL C i)
theorem GL.new {k a b : Int} (hk : 0 ≤ k ∧ k ≤ 13) (h : okP k a b) : GL (lNew k a b) := by
  refine ⟨hk, h, ⟨by show (0 : Int) ≤ 0; decide, by show (0 : Int) ≤ 7; decide⟩, ⟨by show (0 : Int) ≤ 100; decide, by show (100 : Int) ≤ 100; decide⟩, Or.inr rfl, ⟨by show (0 : Int) ≤ 0; decide, by show (0 : Int) ≤ 4; decide⟩, ?_, ⟨by show (0 : Int) ≤ 0; decide, by show (0 : Int) ≤ 5; decide⟩, Or.inl rfl, ⟨by show (0 : Int) ≤ 0; decide, by show (0 : Int) ≤ 6; decide⟩, fun j hj => ?_⟩
  · show okM 0 0 0 0 0
    unfold okM
    simp
  · have : lNew k a b 13 = 0 := rfl
    omega
theorem GC.add {C : zC} (h : GC C) {k a b : Int} (hk : 0 ≤ k ∧ k ≤ 13) (hp : okP k a b) (hn : cN C < 8) : GC (addC C k a b) :=
  ⟨h.1, h.2.1, hn, h.2.2.2.1, fun i hi => by
    have hi : i < cN C + 1 := hi
    show GL (if i = cN C then lNew k a b else cL C i)
    split
    · exact GL.new hk hp
    · exact h.2.2.2.2 i (by omega)⟩
def rAdd (A : zW) (k a b : Int32) : Int32 := if bPar k.toInt a.toInt b.toInt = true then (if cN (aC A) = 8 then -1003 else nI (cN (aC A))) else -1001
def tAdd (A : zW) (k a b : Int32) : zW := if bPar k.toInt a.toInt b.toInt = true then (if cN (aC A) = 8 then A else aSet (aPush A) (addC (aC A) k.toInt a.toInt b.toInt)) else A
theorem GA.add {A : zW} {B : Nat} (hG : GA A B) (k a b : Int32) : GA (tAdd A k a b) B := by
  unfold tAdd
  split
  · next h =>
    have hp := (bPar_iff _ _ _).mp h
    split
    · exact hG
    · next h8 =>
      have hn8 := hG.1.2.2.1
      refine (hG.push).set (hG.1.add hp.1 hp.2 (by omega)) (fun j hj hz => ?_)
      have := hG.2.2.2.2.2.2.2.1 j hj hz
      refine ⟨by show _ < cN (aC A) + 1; omega, ?_, rfl, rfl⟩
      show (if j / 64 = cN (aC A) then lNew k.toInt a.toInt b.toInt else cL (aC A) (j / 64)) 5 = 1
      rw [if_neg (by omega)]
      exact this.2.1
  · exact hG
theorem c_addLayer {σ : zS} {o B : Nat} {A : zW} {q u P : Nat → Nat} (hG : GA A B) (hK : StK σ o) (hI : CIx σ o A q u P) (k a b : Int32) (d : Nat) : zOC o (zEv (d + 20) mX10_addLayer [.inr (.inl (some o)), .inl k, .inl a, .inl b] σ) (rAdd A k a b) (tAdd A k a b) σ := by
  have hO := hI.1.1
  have hn8 := hG.1.2.2.1
  have key : ∀ r, zOC o (some (some (.inl r), σ)) r A σ := fun r => zOC.same hI r
  rw [vX10_addLayer]
  unfold fX10_addLayer rAdd tAdd
  simp only [zlt_e, onR_s, nul_s, nul_n, chk_e, bnI_s, bnR_s, bnV_s, zi_si, zi_sr, zi_sl, zi_sa, zi_sq, zr_si, zr_sr, zr_sl, zr_sa, zr_sq, zl_si, zl_sr, zl_sl, zl_sa, zl_sq, zai_si, zai_sr, zai_sl, zai_sa, zai_sq, zar_si, zar_sr, zar_sl, zar_sa, zar_sq, zkd_si, zkd_sr, zkd_sl, zkd_sa, zkd_sq, zln_si, zln_sr, zln_sl, zln_sa, zln_sq, znx_si, znx_sr, znx_sl, znx_sa, znx_sq, s_allow hK k a b (d + 16), zb_0]
  by_cases hp : bPar k.toInt a.toInt b.toInt = true
  · rw [if_neg (fun q => q hp), if_pos hp, if_pos hp]
    simp only [zlt_e, onR_s, nul_s, nul_n, chk_e, bnI_s, bnR_s, bnV_s, zi_si, zi_sr, zi_sl, zi_sa, zi_sq, zr_si, zr_sr, zr_sl, zr_sa, zr_sq, zl_si, zl_sr, zl_sl, zl_sa, zl_sq, zai_si, zai_sr, zai_sl, zai_sa, zai_sq, zar_si, zar_sr, zar_sl, zar_sa, zar_sq, zkd_si, zkd_sr, zkd_sl, zkd_sa, zkd_sq, zln_si, zln_sr, zln_sl, zln_sa, zln_sq, znx_si, znx_sr, znx_sl, znx_sa, znx_sq, hO.f.1, hO.f.2.1, hO.c.1, if_true, s_isFull hO.c hI.1.2.2.1.2.1 hn8, zb_0]
    by_cases h8 : cN (aC A) = 8
    · rw [if_neg (fun q => q h8), if_pos h8, if_pos h8]
      exact key _
    · rw [if_pos h8, if_neg h8, if_neg h8]
      obtain ⟨τ, u', k1, k2, k3⟩ := s_cpush hG hI (d + 13)
      have hO2 := k3.1.1
      obtain ⟨υ, l1, l2, l3, l4⟩ := s_addFresh (n := cN (aC A)) hO2.c k3.1.2.1 k3.1.2.2.1.2.1 (show cN (aC A) < 8 by omega) k.toInt a.toInt b.toInt (d + 15)
      rw [← i_of k, ← i_of a, ← i_of b] at l1
      have hqn := (k3.1.2.1.1 (cN (aC A)) (by omega)).2
      have g : zFr (inC (o + 1)) τ υ := l2.mono (fun x hx => by unfold inL at hx; unfold inC; omega)
      have hq3 := k3.1.2.1.fr l2 (by unfold inL; omega)
      have hv3 : CmV υ (o + 1) q (addC (aC A) k.toInt a.toInt b.toInt) := ⟨k3.1.2.2.1.1.fr l2 (by unfold inL; omega) (by unfold inL; omega), l3, fun i hi => by
        have hi : i < cN (aC A) + 1 := hi
        show LyV υ (o + 1 + 4 + 3 * q i) (if i = cN (aC A) then lNew k.toInt a.toInt b.toInt else cL (aC A) i)
        by_cases e : i = cN (aC A)
        · rw [if_pos e, e]; exact l4
        · rw [if_neg e]
          have hqi := (k3.1.2.1.1 i (by omega)).2
          have hne : q i ≠ q (cN (aC A)) := fun q' => e (k3.1.2.1.2 i _ (by omega) (by omega) q')
          exact (k3.1.2.2.1.2.2 i (show i < cN (aC A) by omega)).fr l2 (fun x hx => by unfold inL at hx ⊢; omega)⟩
      have hO3 := hO2.fr l2
      have en : nI (cN (aC A) + 1) - 1 = nI (cN (aC A)) := nI_m _
      simp only [zlt_e, onR_s, nul_s, nul_n, chk_e, bnI_s, bnR_s, bnV_s, zi_si, zi_sr, zi_sl, zi_sa, zi_sq, zr_si, zr_sr, zr_sl, zr_sa, zr_sq, zl_si, zl_sr, zl_sl, zl_sa, zl_sq, zai_si, zai_sr, zai_sl, zai_sa, zai_sq, zar_si, zar_sr, zar_sl, zar_sa, zar_sq, zkd_si, zkd_sr, zkd_sl, zkd_sa, zkd_sq, zln_si, zln_sr, zln_sl, zln_sa, zln_sq, znx_si, znx_sr, znx_sl, znx_sa, znx_sq, hO.f.1, hO.f.2.1, hO.f.2.2.2.1, hO.h.1, if_true, k1, hO2.f.1, hO2.f.2.1, hO2.c.1, l1, hO3.f.1, hO3.f.2.1, hO3.c.1, s_layerCount hO3.c, l3, en]
      refine ⟨υ, q, u', P, rfl, k3.comp (hG.push) g hq3 hv3 (fun j hj hz => ⟨rfl, rfl, fun x y _ _ _ _ => ?_⟩), (k2.mono (fun a ha => by unfold inH at ha; omega)).tr (g.mono (fun a ha => by unfold inC at ha; omega))⟩
      have hz := hG.2.2.2.2.2.2.2.1 j hj hz
      have e : outI (addC (aC A) k.toInt a.toInt b.toInt) (j / 64 + 1) = outI (aC A) (j / 64 + 1) := outI_congr (C := aC A) (C' := addC (aC A) k.toInt a.toInt b.toInt) rfl rfl rfl _ (fun i hi => by
        show (if i = cN (aC A) then lNew k.toInt a.toInt b.toInt else cL (aC A) i) = cL (aC A) i
        rw [if_neg (by omega)])
      rw [e]
      rfl
  · rw [if_pos hp, if_neg hp, if_neg hp]
    exact key _
/-! setParameters -/
def rPar (A : zW) (x a b : Int32) : Int32 := if zin x (cN (aC A)) ∧ bPar (cL (aC A) x.toNatClampNeg 0) a.toInt b.toInt = true then iI (cL (aC A) x.toNatClampNeg 1) + 1000 else -1001
def tPar (A : zW) (x a b : Int32) : zW := if zin x (cN (aC A)) ∧ bPar (cL (aC A) x.toNatClampNeg 0) a.toInt b.toInt = true then aRow A x.toNatClampNeg (upR (upR (cL (aC A) x.toNatClampNeg) 1 a.toInt) 2 b.toInt) else A
theorem GL.up12p {l : Nat → Int} (h : GL l) {a b : Int} (hp : okP (l 0) a b) : GL (upR (upR l 1 a) 2 b) := by
  obtain ⟨h0, h1, h2, h3, h4, h5, h6, h7, h8, h9, h10⟩ := h
  refine ⟨h0, hp, h2, h3, h4, h5, h6, h7, h8, h9, fun j hj => ?_⟩
  have hj : (j : Int) < 3 * l 13 := hj
  have e : upR (upR l 1 a) 2 b (14 + j) = l (14 + j) := by rw [upR_ne (by omega), upR_ne (by omega)]
  rw [e]
  exact h10 j hj
theorem GA.par {A : zW} {B : Nat} (hG : GA A B) (x a b : Int32) : GA (tPar A x a b) B := by
  unfold tPar
  split
  · next h =>
    have hk := (zin_n h.1).2
    exact hG.row hk ((hG.1.2.2.2.2 _ hk).up12p ((bPar_iff _ _ _).mp h.2).2)
  · exact hG
