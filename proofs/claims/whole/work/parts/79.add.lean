/-! kinds: the class's tables -/
def tbK (j k : Nat) : Int := match j with
  | 0 => ([2, 1, 1, 1, 0, 1, 1, 1, 1, 1, 2, 2, 1, 0] : List Int).getD k 0
  | 1 => ([0, -255, 0, 2, 0, 0, 1, 1, 1, 1, 1, -3, 0, 0] : List Int).getD k 0
  | 2 => ([254, 255, 400, 16, 0, 256, 3, 2, 3, 3, 3, 3, 255, 0] : List Int).getD k 0
  | 3 => ([1, 0, 0, 0, 0, 0, 0, 0, 0, 0, 0, -3, 0, 0] : List Int).getD k 0
  | _ => ([255, 0, 0, 0, 0, 0, 0, 0, 0, 0, 300, 3, 0, 0] : List Int).getD k 0
/-- the class's tables stand below o -/
def StK (σ : zS) (o : Nat) : Prop := ∀ j, j < 5 → ∃ t, zr σ 640 j = some t ∧ t < o ∧ zkd σ t = 16 ∧ zln σ t = 14 ∧ ∀ k, k < 14 → zai σ t k = iI (tbK j k)
theorem StK.fr {P : Nat → Prop} {σ τ : zS} {o : Nat} (h : StK σ o) (g : zFr P σ τ) (hn : ∀ a, a < o → ¬ P a) : StK τ o := fun j hj => by
  obtain ⟨t, h1, h2, h3, h4, h5⟩ := h j hj
  exact ⟨t, by rw [g.r]; exact h1, h2, by rw [g.kd]; exact h3, by rw [g.ln]; exact h4, fun k hk => (g.ai (hn t h2) k).trans (h5 k hk)⟩
theorem s_entry {σ : zS} {o j k : Nat} (h : StK σ o) (hj : j < 5) (hk : k < 14) (d : Nat) : ∃ t, zr σ 640 j = some t ∧ zEv (d + 1) mX2_entry [.inr (.inl (some t)), .inl (nI k)] σ = some (some (.inl (iI (tbK j k))), σ) := by
  obtain ⟨t, h1, h2, h3, h4, h5⟩ := h j hj
  refine ⟨t, h1, ?_⟩
  have n14 : Int32.ofNat 14 = nI 14 := rfl
  rw [vX2_entry]
  unfold fX2_entry
  simp only [zlt_e, onR_s, nul_s, nul_n, chk_e, bnI_s, bnR_s, bnV_s, zi_si, zi_sr, zi_sl, zi_sa, zi_sq, zr_si, zr_sr, zr_sl, zr_sa, zr_sq, zl_si, zl_sr, zl_sl, zl_sa, zl_sq, zai_si, zai_sr, zai_sl, zai_sa, zai_sq, zar_si, zar_sr, zar_sl, zar_sa, zar_sq, zkd_si, zkd_sr, zkd_sl, zkd_sa, zkd_sq, zln_si, zln_sr, zln_sl, zln_sa, zln_sq, znx_si, znx_sr, znx_sl, znx_sa, znx_sq, h3, h4, n14, nL 0, n_lt (show k < 2 ^ 31 by omega) (show 0 < 2 ^ 31 by decide), Nat.not_lt_zero, if_false, if_true, n_lt (show k < 2 ^ 31 by omega) (show 14 < 2 ^ 31 by decide), hk, n_zin (show k < 2 ^ 31 by omega), n_tn (show k < 2 ^ 31 by omega), and_self, h5 k hk]
theorem tb_eq : ∀ k, k < 14 → tbK 1 k = loA k ∧ tbK 2 k = hiA k ∧ (k ≠ 0 → tbK 3 k = loB k 0) ∧ tbK 4 k = hiB k := by decide
theorem s_lowestA {σ : zS} {o k : Nat} (h : StK σ o) (hk : k < 14) (d : Nat) : zEv (d + 2) mX2_lowestA [.inl (nI k)] σ = some (some (.inl (iI (loA k))), σ) := by
  obtain ⟨t, h1, h2⟩ := s_entry h (show 1 < 5 by decide) hk d
  rw [vX2_lowestA]
  unfold fX2_lowestA
  simp only [zlt_e, onR_s, nul_s, nul_n, chk_e, bnI_s, bnR_s, bnV_s, zi_si, zi_sr, zi_sl, zi_sa, zi_sq, zr_si, zr_sr, zr_sl, zr_sa, zr_sq, zl_si, zl_sr, zl_sl, zl_sa, zl_sq, zai_si, zai_sr, zai_sl, zai_sa, zai_sq, zar_si, zar_sr, zar_sl, zar_sa, zar_sq, zkd_si, zkd_sr, zkd_sl, zkd_sa, zkd_sq, zln_si, zln_sr, zln_sl, zln_sa, zln_sq, znx_si, znx_sr, znx_sl, znx_sa, znx_sq, h1, h2, (tb_eq k hk).1]
theorem s_highestA {σ : zS} {o k : Nat} (h : StK σ o) (hk : k < 14) (d : Nat) : zEv (d + 2) mX2_highestA [.inl (nI k)] σ = some (some (.inl (iI (hiA k))), σ) := by
  obtain ⟨t, h1, h2⟩ := s_entry h (show 2 < 5 by decide) hk d
  rw [vX2_highestA]
  unfold fX2_highestA
  simp only [zlt_e, onR_s, nul_s, nul_n, chk_e, bnI_s, bnR_s, bnV_s, zi_si, zi_sr, zi_sl, zi_sa, zi_sq, zr_si, zr_sr, zr_sl, zr_sa, zr_sq, zl_si, zl_sr, zl_sl, zl_sa, zl_sq, zai_si, zai_sr, zai_sl, zai_sa, zai_sq, zar_si, zar_sr, zar_sl, zar_sa, zar_sq, zkd_si, zkd_sr, zkd_sl, zkd_sa, zkd_sq, zln_si, zln_sr, zln_sl, zln_sa, zln_sq, znx_si, znx_sr, znx_sl, znx_sa, znx_sq, h1, h2, (tb_eq k hk).2.1]
theorem s_highestB {σ : zS} {o k : Nat} (h : StK σ o) (hk : k < 14) (d : Nat) : zEv (d + 2) mX2_highestB [.inl (nI k)] σ = some (some (.inl (iI (hiB k))), σ) := by
  obtain ⟨t, h1, h2⟩ := s_entry h (show 4 < 5 by decide) hk d
  rw [vX2_highestB]
  unfold fX2_highestB
  simp only [zlt_e, onR_s, nul_s, nul_n, chk_e, bnI_s, bnR_s, bnV_s, zi_si, zi_sr, zi_sl, zi_sa, zi_sq, zr_si, zr_sr, zr_sl, zr_sa, zr_sq, zl_si, zl_sr, zl_sl, zl_sa, zl_sq, zai_si, zai_sr, zai_sl, zai_sa, zai_sq, zar_si, zar_sr, zar_sl, zar_sa, zar_sq, zkd_si, zkd_sr, zkd_sl, zkd_sa, zkd_sq, zln_si, zln_sr, zln_sl, zln_sa, zln_sq, znx_si, znx_sr, znx_sl, znx_sa, znx_sq, h1, h2, (tb_eq k hk).2.2.2]
theorem s_lowestB {σ : zS} {o k : Nat} (h : StK σ o) (hk : k < 14) (a : Int) (d : Nat) : zEv (d + 2) mX2_lowestB [.inl (nI k), .inl (iI a)] σ = some (some (.inl (iI (loB k a))), σ) := by
  obtain ⟨t, h1, h2⟩ := s_entry h (show 3 < 5 by decide) hk d
  have e0 : (nI k = 0) ↔ k = 0 := n_eq (by omega) (by decide)
  rw [vX2_lowestB]
  unfold fX2_lowestB
  simp only [e0]
  by_cases h0 : k = 0
  · rw [if_pos h0, h0, show (1 : Int32) = iI 1 from rfl, i_add]
    rfl
  · rw [if_neg h0]
    have hk0 : ¬ ((k : Int) = 0) := by omega
    have e : loB k a = loB k 0 := by unfold loB; rw [if_neg hk0, if_neg hk0]
    simp only [zlt_e, onR_s, nul_s, nul_n, chk_e, bnI_s, bnR_s, bnV_s, zi_si, zi_sr, zi_sl, zi_sa, zi_sq, zr_si, zr_sr, zr_sl, zr_sa, zr_sq, zl_si, zl_sr, zl_sl, zl_sa, zl_sq, zai_si, zai_sr, zai_sl, zai_sa, zai_sq, zar_si, zar_sr, zar_sl, zar_sa, zar_sq, zkd_si, zkd_sr, zkd_sl, zkd_sa, zkd_sq, zln_si, zln_sr, zln_sl, zln_sa, zln_sq, znx_si, znx_sr, znx_sl, znx_sa, znx_sq, h1, h2, (tb_eq k hk).2.2.1 h0, e]
def bPar (k a b : Int) : Bool := decide (0 ≤ k ∧ k ≤ 13) && (decide (loA k ≤ a ∧ a ≤ hiA k) && decide (loB k a ≤ b ∧ b ≤ hiB k))
theorem bPar_iff (k a b : Int) : bPar k a b = true ↔ (0 ≤ k ∧ k ≤ 13) ∧ okP k a b := by
  unfold bPar okP
  simp only [Bool.and_eq_true, decide_eq_true_eq]
theorem lo_R {k : Int} (hk : 0 ≤ k ∧ k ≤ 13) : (-255 ≤ loA k ∧ loA k ≤ 2) ∧ (0 ≤ hiA k ∧ hiA k ≤ 400) ∧ 0 ≤ hiB k ∧ hiB k ≤ 300 := by
  unfold loA hiA hiB
  repeat' split
  all_goals omega
theorem loB_R {k a : Int} (ha : -1000 ≤ a ∧ a ≤ 1000) : -1000 ≤ loB k a ∧ loB k a ≤ 1001 := by
  unfold loB
  repeat' split
  all_goals omega
theorem s_allow {σ : zS} {o : Nat} (h : StK σ o) (k a b : Int32) (d : Nat) : zEv (d + 3) mX2_allow [.inl k, .inl a, .inl b] σ = some (some (.inl (zb (bPar k.toInt a.toInt b.toInt = true))), σ) := by
  have b1 : zB 1 = True := eq_true (Or.inr rfl)
  have b0 : zB 0 = True := eq_true (Or.inl rfl)
  have bp := bPar_iff k.toInt a.toInt b.toInt
  have w1 : ((0 : Int32) ≤ k ∧ k ≤ 13) ↔ 0 ≤ k.toInt ∧ k.toInt ≤ 13 := w_in (a := 0) (b := 13) (by decide) (by decide) (by decide) (by decide)
  rw [vX2_allow]
  unfold fX2_allow
  simp only [bnI_s, s_within, zb_0, w1, chk_e, b1, b0, if_true]
  by_cases hk : 0 ≤ k.toInt ∧ k.toInt ≤ 13
  · rw [if_neg (fun q => q hk)]
    have ek : k = nI k.toNatClampNeg := n_of hk.1
    have et : k.toNatClampNeg = k.toInt.toNat := rfl
    have hk14 : k.toNatClampNeg < 14 := by omega
    have ez : k.toInt = (k.toNatClampNeg : Int) := by omega
    rw [ez] at bp ⊢
    generalize k.toNatClampNeg = j at *
    subst ek
    have r1 := lo_R (k := (j : Int)) (by omega)
    have w2 : (iI (loA j) ≤ a ∧ a ≤ iI (hiA j)) ↔ loA j ≤ a.toInt ∧ a.toInt ≤ hiA j := w_in (by omega) (by omega) (by omega) (by omega)
    have ea : a = iI a.toInt := i_of a
    simp only [s_lowestA h hk14 d, s_highestA h hk14 d, s_within, bnI_s, zb_0, w2]
    by_cases h2 : loA j ≤ a.toInt ∧ a.toInt ≤ hiA j
    · rw [if_neg (fun q => q h2)]
      have el := s_lowestB h hk14 a.toInt d
      rw [← ea] at el
      have r2 := loB_R (k := (j : Int)) (a := a.toInt) (by omega)
      have w3 : (iI (loB j a.toInt) ≤ b ∧ b ≤ iI (hiB j)) ↔ loB j a.toInt ≤ b.toInt ∧ b.toInt ≤ hiB j := w_in (by omega) (by omega) (by omega) (by omega)
      simp only [el, s_highestB h hk14 d, s_within, bnI_s, zb_0, w3]
      by_cases h3 : loB j a.toInt ≤ b.toInt ∧ b.toInt ≤ hiB j
      · rw [if_neg (fun q => q h3), zb_t (bp.mpr ⟨by omega, h2, h3⟩)]
      · rw [if_pos h3, zb_f (fun q => h3 (bp.mp q).2.2)]
    · rw [if_pos h2, zb_f (fun q => h2 (bp.mp q).2.1)]
  · rw [if_pos hk, zb_f (fun q => hk (bp.mp q).1)]
/-! kinds: the reference -/
theorem s_leastA {k : Int} (hk : 0 ≤ k ∧ k ≤ 13) (d : Nat) (σ : zS) : zEv (d + 2) mX11_leastA [.inl (iI k)] σ = some (some (.inl (iI (loA k))), σ) := by
  have q : ∀ j : Int, 0 ≤ j → j ≤ 13 → ((iI k = iI j) ↔ k = j) := fun j h1 h2 => i_eq (by omega) (by omega) (by omega) (by omega)
  have q1 : (iI k = 1) ↔ k = 1 := q 1 (by decide) (by decide)
  have q3 : (iI k = 3) ↔ k = 3 := q 3 (by decide) (by decide)
  have q11 : (iI k = 11) ↔ k = 11 := q 11 (by decide) (by decide)
  have q6 : ((6 : Int32) ≤ iI k ∧ iI k ≤ 10) ↔ 6 ≤ k ∧ k ≤ 10 := by
    have := w_in (x := iI k) (a := 6) (b := 10) (by decide) (by decide) (by decide) (by decide)
    rw [i_toInt (by omega) (by omega)] at this
    exact this
  rw [vX11_leastA]
  unfold fX11_leastA loA
  simp only [q1, q3, q11, s_in, bnI_s, q6, zb_0]
  by_cases h1 : k = 1
  · rw [if_pos h1, if_pos h1]; rfl
  rw [if_neg h1, if_neg h1]
  by_cases h3 : k = 3
  · rw [if_pos h3, if_pos h3]; rfl
  rw [if_neg h3, if_neg h3]
  by_cases h11 : k = 11
  · rw [if_pos h11, if_pos h11]; rfl
  rw [if_neg h11, if_neg h11]
  by_cases h6 : 6 ≤ k ∧ k ≤ 10
  · rw [if_neg (fun q => q h6), if_pos h6]; rfl
  rw [if_pos h6, if_neg h6]; rfl
theorem s_mostA {k : Int} (hk : 0 ≤ k ∧ k ≤ 13) (d : Nat) (σ : zS) : zEv (d + 1) mX11_mostA [.inl (iI k)] σ = some (some (.inl (iI (hiA k))), σ) := by
  rw [vX11_mostA]
  unfold fX11_mostA
  rcases (by omega : k = 0 ∨ k = 1 ∨ k = 2 ∨ k = 3 ∨ k = 4 ∨ k = 5 ∨ k = 6 ∨ k = 7 ∨ k = 8 ∨ k = 9 ∨ k = 10 ∨ k = 11 ∨ k = 12 ∨ k = 13) with e | e | e | e | e | e | e | e | e | e | e | e | e | e <;> subst e <;> rfl
theorem s_leastB {k : Int} (hk : 0 ≤ k ∧ k ≤ 13) (a : Int) (d : Nat) (σ : zS) : zEv (d + 1) mX11_leastB [.inl (iI k), .inl (iI a)] σ = some (some (.inl (iI (loB k a))), σ) := by
  have q0 : (iI k = 0) ↔ k = 0 := i_eq (b := 0) (by omega) (by omega) (by omega) (by omega)
  have q11 : (iI k = 11) ↔ k = 11 := i_eq (b := 11) (by omega) (by omega) (by omega) (by omega)
  rw [vX11_leastB]
  unfold fX11_leastB loB
  simp only [q0, q11]
  by_cases h0 : k = 0
  · rw [if_pos h0, if_pos h0, show (1 : Int32) = iI 1 from rfl, i_add]
  rw [if_neg h0, if_neg h0]
  by_cases h11 : k = 11
  · rw [if_pos h11, if_pos h11]; rfl
  rw [if_neg h11, if_neg h11]; rfl
theorem s_mostB {k : Int} (hk : 0 ≤ k ∧ k ≤ 13) (d : Nat) (σ : zS) : zEv (d + 1) mX11_mostB [.inl (iI k)] σ = some (some (.inl (iI (hiB k))), σ) := by
  have q0 : (iI k = 0) ↔ k = 0 := i_eq (b := 0) (by omega) (by omega) (by omega) (by omega)
  have q10 : (iI k = 10) ↔ k = 10 := i_eq (b := 10) (by omega) (by omega) (by omega) (by omega)
  have q11 : (iI k = 11) ↔ k = 11 := i_eq (b := 11) (by omega) (by omega) (by omega) (by omega)
  rw [vX11_mostB]
  unfold fX11_mostB hiB
  simp only [q0, q10, q11]
  by_cases h0 : k = 0
  · rw [if_pos h0, if_pos h0]; rfl
  rw [if_neg h0, if_neg h0]
  by_cases h10 : k = 10
  · rw [if_pos h10, if_pos h10]; rfl
  rw [if_neg h10, if_neg h10]
  by_cases h11 : k = 11
  · rw [if_pos h11, if_pos h11]; rfl
  rw [if_neg h11, if_neg h11]; rfl
theorem s_isPossible {k : Int} (hk : 0 ≤ k ∧ k ≤ 13) (a b : Int32) (d : Nat) (σ : zS) : zEv (d + 3) mX11_isPossible [.inl (iI k), .inl a, .inl b] σ = some (some (.inl (zb (bPar k a.toInt b.toInt = true))), σ) := by
  have b1 : zB 1 = True := eq_true (Or.inr rfl)
  have b0 : zB 0 = True := eq_true (Or.inl rfl)
  have bp := bPar_iff k a.toInt b.toInt
  have r1 := lo_R hk
  have w2 : (iI (loA k) ≤ a ∧ a ≤ iI (hiA k)) ↔ loA k ≤ a.toInt ∧ a.toInt ≤ hiA k := w_in (by omega) (by omega) (by omega) (by omega)
  have ea : a = iI a.toInt := i_of a
  rw [vX11_isPossible]
  unfold fX11_isPossible
  simp only [s_leastA hk d, s_mostA hk (d + 1), s_in, bnI_s, zb_0, w2, chk_e, b1, b0, if_true]
  by_cases h2 : loA k ≤ a.toInt ∧ a.toInt ≤ hiA k
  · rw [if_neg (fun q => q h2)]
    have el := s_leastB hk a.toInt (d + 1) σ
    rw [← ea] at el
    have r2 := loB_R (k := k) (a := a.toInt) (by omega)
    have w3 : (iI (loB k a.toInt) ≤ b ∧ b ≤ iI (hiB k)) ↔ loB k a.toInt ≤ b.toInt ∧ b.toInt ≤ hiB k := w_in (by omega) (by omega) (by omega) (by omega)
    simp only [el, s_mostB hk (d + 1), s_in, bnI_s, zb_0, w3]
    by_cases h3 : loB k a.toInt ≤ b.toInt ∧ b.toInt ≤ hiB k
    · rw [if_neg (fun q => q h3), zb_t (bp.mpr ⟨hk, h2, h3⟩)]
    · rw [if_pos h3, zb_f (fun q => h3 (bp.mp q).2.2)]
  · rw [if_pos h2, zb_f (fun q => h2 (bp.mp q).2.1)]
/-! addLayer -/
def addC (C : zC) (k a b : Int) : zC := (cW C, cH C, cN C + 1, cP C, fun i => if i = cN C then lNew k a b else cL C i)
theorem GL.new {k a b : Int} (hk : 0 ≤ k ∧ k ≤ 13) (h : okP k a b) : GL (lNew k a b) := by
  refine ⟨hk, h, ⟨by show (0 : Int) ≤ 0; decide, by show (0 : Int) ≤ 7; decide⟩, ⟨by show (0 : Int) ≤ 100; decide, by show (100 : Int) ≤ 100; decide⟩, Or.inr rfl, ⟨by show (0 : Int) ≤ 0; decide, by show (0 : Int) ≤ 4; decide⟩, ?_, ⟨by show (0 : Int) ≤ 0; decide, by show (0 : Int) ≤ 5; decide⟩, Or.inl rfl, ⟨by show (0 : Int) ≤ 0; decide, by show (0 : Int) ≤ 6; decide⟩, fun j hj => ?_⟩
  · show okM 0 0 0 0 0
    unfold okM
    simp
  · have : lNew k a b 13 = 0 := rfl
    omega
theorem GC.add {C : zC} (h : GC C) {k a b : Int} (hk : 0 ≤ k ∧ k ≤ 13) (hp : okP k a b) (hn : cN C < 8) : GC (addC C k a b) :=
  ⟨h.1, h.2.1, hn, h.2.2.2.1, fun i hi => by
    have hi : i < cN C + 1 := hi
    show GL (if i = cN C then lNew k a b else cL C i)
    split
    · exact GL.new hk hp
    · exact h.2.2.2.2 i (by omega)⟩
def rAdd (A : zW) (k a b : Int32) : Int32 := if bPar k.toInt a.toInt b.toInt = true then (if cN (aC A) = 8 then -1003 else nI (cN (aC A))) else -1001
def tAdd (A : zW) (k a b : Int32) : zW := if bPar k.toInt a.toInt b.toInt = true then (if cN (aC A) = 8 then A else aSet (aPush A) (addC (aC A) k.toInt a.toInt b.toInt)) else A
theorem GA.add {A : zW} {B : Nat} (hG : GA A B) (k a b : Int32) : GA (tAdd A k a b) B := by
  unfold tAdd
  split
  · next h =>
    have hp := (bPar_iff _ _ _).mp h
    split
    · exact hG
    · next h8 =>
      have hn8 := hG.1.2.2.1
      refine (hG.push).set (hG.1.add hp.1 hp.2 (by omega)) (fun j hj hz => ?_)
      have := hG.2.2.2.2.2.2.2.1 j hj hz
      refine ⟨by show _ < cN (aC A) + 1; omega, ?_, rfl, rfl⟩
      show (if j / 64 = cN (aC A) then lNew k.toInt a.toInt b.toInt else cL (aC A) (j / 64)) 5 = 1
      rw [if_neg (by omega)]
      exact this.2.1
  · exact hG
theorem c_addLayer {σ : zS} {o B : Nat} {A : zW} {q u P : Nat → Nat} (hG : GA A B) (hK : StK σ o) (hI : CIx σ o A q u P) (k a b : Int32) (d : Nat) : zOC o (zEv (d + 20) mX10_addLayer [.inr (.inl (some o)), .inl k, .inl a, .inl b] σ) (rAdd A k a b) (tAdd A k a b) σ := by
  have hO := hI.1.1
  have hn8 := hG.1.2.2.1
  have key : ∀ r, zOC o (some (some (.inl r), σ)) r A σ := fun r => zOC.same hI r
  rw [vX10_addLayer]
  unfold fX10_addLayer rAdd tAdd
  simp only [zlt_e, onR_s, nul_s, nul_n, chk_e, bnI_s, bnR_s, bnV_s, zi_si, zi_sr, zi_sl, zi_sa, zi_sq, zr_si, zr_sr, zr_sl, zr_sa, zr_sq, zl_si, zl_sr, zl_sl, zl_sa, zl_sq, zai_si, zai_sr, zai_sl, zai_sa, zai_sq, zar_si, zar_sr, zar_sl, zar_sa, zar_sq, zkd_si, zkd_sr, zkd_sl, zkd_sa, zkd_sq, zln_si, zln_sr, zln_sl, zln_sa, zln_sq, znx_si, znx_sr, znx_sl, znx_sa, znx_sq, s_allow hK k a b (d + 16), zb_0]
  by_cases hp : bPar k.toInt a.toInt b.toInt = true
  · rw [if_neg (fun q => q hp), if_pos hp, if_pos hp]
    simp only [zlt_e, onR_s, nul_s, nul_n, chk_e, bnI_s, bnR_s, bnV_s, zi_si, zi_sr, zi_sl, zi_sa, zi_sq, zr_si, zr_sr, zr_sl, zr_sa, zr_sq, zl_si, zl_sr, zl_sl, zl_sa, zl_sq, zai_si, zai_sr, zai_sl, zai_sa, zai_sq, zar_si, zar_sr, zar_sl, zar_sa, zar_sq, zkd_si, zkd_sr, zkd_sl, zkd_sa, zkd_sq, zln_si, zln_sr, zln_sl, zln_sa, zln_sq, znx_si, znx_sr, znx_sl, znx_sa, znx_sq, hO.f.1, hO.f.2.1, hO.c.1, if_true, s_isFull hO.c hI.1.2.2.1.2.1 hn8, zb_0]
    by_cases h8 : cN (aC A) = 8
    · rw [if_neg (fun q => q h8), if_pos h8, if_pos h8]
      exact key _
    · rw [if_pos h8, if_neg h8, if_neg h8]
      obtain ⟨τ, u', k1, k2, k3⟩ := s_cpush hG hI (d + 13)
      have hO2 := k3.1.1
      obtain ⟨υ, l1, l2, l3, l4⟩ := s_addFresh (n := cN (aC A)) hO2.c k3.1.2.1 k3.1.2.2.1.2.1 (show cN (aC A) < 8 by omega) k.toInt a.toInt b.toInt (d + 15)
      rw [← i_of k, ← i_of a, ← i_of b] at l1
      have hqn := (k3.1.2.1.1 (cN (aC A)) (by omega)).2
      have g : zFr (inC (o + 1)) τ υ := l2.mono (fun x hx => by unfold inL at hx; unfold inC; omega)
      have hq3 := k3.1.2.1.fr l2 (by unfold inL; omega)
      have hv3 : CmV υ (o + 1) q (addC (aC A) k.toInt a.toInt b.toInt) := ⟨k3.1.2.2.1.1.fr l2 (by unfold inL; omega) (by unfold inL; omega), l3, fun i hi => by
        have hi : i < cN (aC A) + 1 := hi
        show LyV υ (o + 1 + 4 + 3 * q i) (if i = cN (aC A) then lNew k.toInt a.toInt b.toInt else cL (aC A) i)
        by_cases e : i = cN (aC A)
        · rw [if_pos e, e]; exact l4
        · rw [if_neg e]
          have hqi := (k3.1.2.1.1 i (by omega)).2
          have hne : q i ≠ q (cN (aC A)) := fun q' => e (k3.1.2.1.2 i _ (by omega) (by omega) q')
          exact (k3.1.2.2.1.2.2 i (show i < cN (aC A) by omega)).fr l2 (fun x hx => by unfold inL at hx ⊢; omega)⟩
      have hO3 := hO2.fr l2
      have en : nI (cN (aC A) + 1) - 1 = nI (cN (aC A)) := nI_m _
      simp only [zlt_e, onR_s, nul_s, nul_n, chk_e, bnI_s, bnR_s, bnV_s, zi_si, zi_sr, zi_sl, zi_sa, zi_sq, zr_si, zr_sr, zr_sl, zr_sa, zr_sq, zl_si, zl_sr, zl_sl, zl_sa, zl_sq, zai_si, zai_sr, zai_sl, zai_sa, zai_sq, zar_si, zar_sr, zar_sl, zar_sa, zar_sq, zkd_si, zkd_sr, zkd_sl, zkd_sa, zkd_sq, zln_si, zln_sr, zln_sl, zln_sa, zln_sq, znx_si, znx_sr, znx_sl, znx_sa, znx_sq, hO.f.1, hO.f.2.1, hO.f.2.2.2.1, hO.h.1, if_true, k1, hO2.f.1, hO2.f.2.1, hO2.c.1, l1, hO3.f.1, hO3.f.2.1, hO3.c.1, s_layerCount hO3.c, l3, en]
      refine ⟨υ, q, u', P, rfl, k3.comp (hG.push) g hq3 hv3 (fun j hj hz => ⟨rfl, rfl, fun x y _ _ _ _ => ?_⟩), (k2.mono (fun a ha => by unfold inH at ha; omega)).tr (g.mono (fun a ha => by unfold inC at ha; omega))⟩
      have hz := hG.2.2.2.2.2.2.2.1 j hj hz
      have e : outI (addC (aC A) k.toInt a.toInt b.toInt) (j / 64 + 1) = outI (aC A) (j / 64 + 1) := outI_congr (C := aC A) (C' := addC (aC A) k.toInt a.toInt b.toInt) rfl rfl rfl _ (fun i hi => by
        show (if i = cN (aC A) then lNew k.toInt a.toInt b.toInt else cL (aC A) i) = cL (aC A) i
        rw [if_neg (by omega)])
      rw [e]
      rfl
  · rw [if_pos hp, if_neg hp, if_neg hp]
    exact key _
/-- the reference lays a new layer's row -/
theorem s_layLayer {σ : zS} {m t r n : Nat} (ht : zkd σ t = 11) (hl : zln σ t = n) (hn : n < 10000) (hr : r + 32 ≤ n) (k a b : Int) (d : Nat) : ∃ τ, zEv (d + 1) mX11_layLayer [.inr (.inl (some m)), .inr (.inl (some t)), .inl (nI r), .inl (iI k), .inl (iI a), .inl (iI b)] σ = some (none, τ) ∧ zFr (fun x => x = t) σ τ ∧ (∀ f x, zi τ f x = zi σ f x) ∧ (∀ p, ¬ (r ≤ p ∧ p < r + 32) → zai τ t p = zai σ t p) ∧ ∀ j, j < 32 → zai τ t (r + j) = iI (lNew k a b j) := by
  rw [vX11_layLayer]
  unfold fX11_layLayer
  simp only [zlt_e]
  obtain ⟨τ, a1, a2⟩ := loop_from (fun j τ => LX11_layLayer_3 (zEv d) m (some t) (nI r) (iI k) (iI a) (iI b) (nI j) τ) (fun j τ => zFr (fun x => x = t) σ τ ∧ (∀ f x, zi τ f x = zi σ f x) ∧ (∀ p, ¬ (r ≤ p ∧ p < r + 32) → zai τ t p = zai σ t p) ∧ ∀ i, i < j → zai τ t (r + i) = 0) 0 32 (fun τ => LX11_layLayer_3 (zEv d) m (some t) (nI r) (iI k) (iI a) (iI b) (nI 32) τ) σ (by decide) ⟨zFr.rf σ, fun _ _ => rfl, fun _ _ => rfl, fun i hi => absurd hi (Nat.not_lt_zero _)⟩
    (fun j τ hj hI => by
      obtain ⟨g, gi, gp, gj⟩ := hI
      have hk : zkd τ t = 11 := by rw [g.kd]; exact ht
      have hln : zln τ t = n := by rw [g.ln]; exact hl
      refine ⟨zsa τ t (r + j) 0, ?_, g.tr (zFr.sa _ rfl), gi, fun p hp => by rw [zai_sa, if_neg (by omega)]; exact gp p hp, fun i hi => ?_⟩
      · show LX11_layLayer_3 _ _ _ _ _ _ _ _ _ = LX11_layLayer_3 _ _ _ _ _ _ _ _ _
        rw [uX11_layLayer_3, if_pos (show nI j < 32 from (n_lt (show j < 2 ^ 31 by omega) (show 32 < 2 ^ 31 by decide)).mpr hj)]
        simp only [zlt_e, chk_e, onR_s, hk, hln, nI_add, n_zin (show r + j < 2 ^ 31 by omega), n_tn (show r + j < 2 ^ 31 by omega), show r + j < n by omega, and_self, if_true, nI_1]
      · rw [zai_sa]
        by_cases e : i = j
        · rw [if_pos ⟨rfl, by omega⟩]
        · rw [if_neg (by omega)]; exact gj i (by omega))
    (fun τ hI => rfl)
  have a1 : LX11_layLayer_3 (zEv d) m (some t) (nI r) (iI k) (iI a) (iI b) 0 σ = _ := a1
  obtain ⟨g, gi, gp, gj⟩ := a2
  have hk : zkd τ t = 11 := by rw [g.kd]; exact ht
  have hln : zln τ t = n := by rw [g.ln]; exact hl
  have s1 : ∀ i v (τ : zS), zFr (fun x => x = t) τ (zsa τ t i v) := fun i v τ => zFr.sa (P := fun x => x = t) τ rfl
  refine ⟨zsa (zsa (zsa (zsa (zsa τ t (r + 0) (iI k)) t (r + 1) (iI a)) t (r + 2) (iI b)) t (r + 4) 100) t (r + 5) 1, ?_, g.tr (((((s1 _ _ _).tr (s1 _ _ _)).tr (s1 _ _ _)).tr (s1 _ _ _)).tr (s1 _ _ _)), gi, fun p hp => ?_, fun j hj => ?_⟩
  · rw [a1, uX11_layLayer_3, if_neg (by decide), show (5 : Int32) = nI 5 from rfl, show (4 : Int32) = nI 4 from rfl, show (2 : Int32) = nI 2 from rfl]
    have e1 : nI r + 1 = nI (r + 1) := nI_1 r
    have e0 : nI r + 0 = nI (r + 0) := nI_add r 0
    simp only [zlt_e, chk_e, onR_s, zkd_sa, zln_sa, hk, hln, e0, e1, nI_add, n_zin (show r + 0 < 2 ^ 31 by omega), n_tn (show r + 0 < 2 ^ 31 by omega), show r + 0 < n by omega, n_zin (show r + 1 < 2 ^ 31 by omega), n_tn (show r + 1 < 2 ^ 31 by omega), show r + 1 < n by omega, n_zin (show r + 2 < 2 ^ 31 by omega), n_tn (show r + 2 < 2 ^ 31 by omega), show r + 2 < n by omega, n_zin (show r + 4 < 2 ^ 31 by omega), n_tn (show r + 4 < 2 ^ 31 by omega), show r + 4 < n by omega, n_zin (show r + 5 < 2 ^ 31 by omega), n_tn (show r + 5 < 2 ^ 31 by omega), show r + 5 < n by omega, and_self, if_true]
  · rw [zai_sa, if_neg (by omega), zai_sa, if_neg (by omega), zai_sa, if_neg (by omega), zai_sa, if_neg (by omega), zai_sa, if_neg (by omega)]
    exact gp p hp
  · rw [zai_sa, zai_sa, zai_sa, zai_sa, zai_sa]
    unfold lNew
    have hz := gj j hj
    by_cases j5 : j = 5
    · rw [if_pos ⟨rfl, by omega⟩, if_neg (by omega), if_neg (by omega), if_neg (by omega), if_neg (by omega), if_pos j5]; rfl
    rw [if_neg (by omega)]
    by_cases j4 : j = 4
    · rw [if_pos ⟨rfl, by omega⟩, if_neg (by omega), if_neg (by omega), if_neg (by omega), if_pos j4]; rfl
    rw [if_neg (by omega)]
    by_cases j2 : j = 2
    · rw [if_pos ⟨rfl, by omega⟩, if_neg (by omega), if_neg (by omega), if_pos j2]
    rw [if_neg (by omega)]
    by_cases j1 : j = 1
    · rw [if_pos ⟨rfl, by omega⟩, if_neg (by omega), if_pos j1]
    rw [if_neg (by omega)]
    by_cases j0 : j = 0
    · rw [if_pos ⟨rfl, by omega⟩, if_pos j0]
    rw [if_neg (by omega), hz, if_neg j0, if_neg j1, if_neg j2, if_neg j4, if_neg j5]
    rfl
theorem m_addLayer {σ : zS} {m B : Nat} {A : zW} (hG : GA A B) (hI : MIx σ m A) (k a b : Int32) (d : Nat) : zOM m (zEv (d + 20) mX11_addLayer [.inr (.inl (some m)), .inl k, .inl a, .inl b] σ) (rAdd A k a b) (tAdd A k a b) σ := by
  have hI1 := hI.th
  have hn8 := hG.1.2.2.1
  have hw := hG.1.1
  have hh := hG.1.2.1
  have g0 : zFr (fun a => m ≤ a ∧ a < m + 22) σ (zsi σ 576 m 0) := zFr.si σ (by omega)
  have key : ∀ r, zOM m (some (some (.inl r), zsi σ 576 m 0)) r A σ := fun r => zOM.same hI r
  have w1 : ((0 : Int32) ≤ k ∧ k ≤ 13) ↔ 0 ≤ k.toInt ∧ k.toInt ≤ 13 := w_in (a := 0) (b := 13) (by decide) (by decide) (by decide) (by decide)
  have bp := bPar_iff k.toInt a.toInt b.toInt
  have t2 : (258 : Int32).toNatClampNeg = 258 := rfl
  have z258 : zin 258 515 = True := eq_true (by decide)
  have e8 : (nI (cN (aC A)) = 8) ↔ cN (aC A) = 8 := n_eq (by omega) (by decide)
  rw [vX11_addLayer]
  unfold fX11_addLayer rAdd tAdd
  simp only [zlt_e, chk_e, hI.1.k, if_true]
  generalize zsi σ 576 m 0 = σ1 at *
  simp only [bnI_s, s_in, zb_0, w1]
  by_cases hk : 0 ≤ k.toInt ∧ k.toInt ≤ 13
  · rw [if_neg (fun q => q hk)]
    have ek : k = iI k.toInt := i_of k
    have ep := s_isPossible hk a b (d + 16) σ1
    rw [← ek] at ep
    simp only [ep, bnI_s, zb_0]
    by_cases hp : bPar k.toInt a.toInt b.toInt = true
    · rw [if_neg (fun q => q hp), if_pos hp, if_pos hp]
      have vn : zai σ1 (m + 1) 258 = nI (cN (aC A)) := hI1.2.1.2.2.2.1
      simp only [hI1.1.k, hI1.1.s.1, hI1.1.s.2.1, hI1.1.s.2.2, onR_s, z258, t2, and_self, if_true, vn, e8]
      by_cases h8 : cN (aC A) = 8
      · rw [if_pos h8, if_pos h8, if_pos h8]
        exact key _
      · rw [if_neg h8, if_neg h8, if_neg h8]
        obtain ⟨τ, k1, k2, k3⟩ := s_mpush hG hI1 (d + 18)
        have vn2 : zai τ (m + 1) 258 = nI (cN (aC A)) := k2.2.1.2.2.2.1
        obtain ⟨υ, l1, l2, l3, l4, l5⟩ := s_layLayer (m := m) (t := m + 1) (r := 259 + 32 * cN (aC A)) k2.1.s.2.1 k2.1.s.2.2 (by decide) (by omega) k.toInt a.toInt b.toInt (d + 18)
        rw [← ek, ← i_of a, ← i_of b] at l1
        have hM2 := k2.1.fr l2
        have un : zai υ (m + 1) 258 = nI (cN (aC A)) := by rw [l4 _ (by omega)]; exact vn2
        have gs : zFr (fun x => x = m + 1) τ (zsa υ (m + 1) 258 (nI (cN (aC A) + 1))) := l2.tr (zFr.sa _ rfl)
        have V := k2.2.1
        have hV : MV (zsa υ (m + 1) 258 (nI (cN (aC A) + 1))) (m + 1) 0 (addC (aC A) k.toInt a.toInt b.toInt) := by
          refine ⟨?_, ?_, fun x y hx hy => ?_, ?_, fun i hi j hj => ?_⟩
          · rw [zai_sa, if_neg (by omega), l4 _ (by omega)]; exact V.1
          · rw [zai_sa, if_neg (by omega), l4 _ (by omega)]; exact V.2.1
          · have h256 : y * cW (aC A) + x < 256 := lin256 hw.2 hh.2 hx hy
            show zai _ _ (0 + 2 + (y * cW (aC A) + x)) = _
            rw [zai_sa, if_neg (by omega), l4 _ (by omega)]; exact V.2.2.1 x y hx hy
          · rw [zai_sa, if_pos ⟨rfl, rfl⟩]; rfl
          · have hi : i < cN (aC A) + 1 := hi
            rw [zai_sa, if_neg (by omega)]
            show _ = iI ((if i = cN (aC A) then lNew k.toInt a.toInt b.toInt else cL (aC A) i) j)
            by_cases e : i = cN (aC A)
            · rw [if_pos e, e, Nat.zero_add]; exact l5 j hj
            · rw [if_neg e, l4 _ (by omega)]; exact V.2.2.2.2 i (by show i < cN (aC A); omega) j hj
        have hI3 : MIx (zsa υ (m + 1) 258 (nI (cN (aC A) + 1))) m (aSet (aPush A) (addC (aC A) k.toInt a.toInt b.toInt)) := k2.comp gs (fun a _ _ => by omega) (fun f _ => l3 f m) hV
        have en : nI (cN (aC A) + 1) - 1 = nI (cN (aC A)) := nI_m _
        have e258 : ∀ x : Nat, (x = x ∧ 258 = 258) = True := fun x => by simp
        simp only [zlt_e, onR_s, nul_s, nul_n, chk_e, bnI_s, bnR_s, bnV_s, zi_si, zi_sr, zi_sl, zi_sa, zi_sq, zr_si, zr_sr, zr_sl, zr_sa, zr_sq, zl_si, zl_sr, zl_sl, zl_sa, zl_sq, zai_si, zai_sr, zai_sl, zai_sa, zai_sq, zar_si, zar_sr, zar_sl, zar_sa, zar_sq, zkd_si, zkd_sr, zkd_sl, zkd_sa, zkd_sq, zln_si, zln_sr, zln_sl, zln_sa, zln_sq, znx_si, znx_sr, znx_sl, znx_sa, znx_sq, k1, k2.1.k, k2.1.s.1, k2.1.s.2.1, k2.1.s.2.2, z258, t2, and_self, if_true, vn2, s_mat, l1, hM2.k, hM2.s.1, hM2.s.2.1, hM2.s.2.2, un, nI_1, en]
        exact ⟨_, rfl, hI3, (g0.tr (k3.mono (fun a ha => by omega))).tr (gs.mono (fun a ha => by omega))⟩
    · rw [if_pos hp, if_neg hp, if_neg hp]
      exact key _
  · rw [if_pos hk, if_neg (fun q => hk (bp.mp q).1), if_neg (fun q => hk (bp.mp q).1)]
    exact key _
/-! setParameters -/
def rPar (A : zW) (x a b : Int32) : Int32 := if zin x (cN (aC A)) ∧ bPar (cL (aC A) x.toNatClampNeg 0) a.toInt b.toInt = true then iI (cL (aC A) x.toNatClampNeg 1) + 1000 else -1001
def tPar (A : zW) (x a b : Int32) : zW := if zin x (cN (aC A)) ∧ bPar (cL (aC A) x.toNatClampNeg 0) a.toInt b.toInt = true then aRow A x.toNatClampNeg (upR (upR (cL (aC A) x.toNatClampNeg) 1 a.toInt) 2 b.toInt) else A
theorem GL.up12p {l : Nat → Int} (h : GL l) {a b : Int} (hp : okP (l 0) a b) : GL (upR (upR l 1 a) 2 b) := by
  obtain ⟨h0, h1, h2, h3, h4, h5, h6, h7, h8, h9, h10⟩ := h
  refine ⟨h0, hp, h2, h3, h4, h5, h6, h7, h8, h9, fun j hj => ?_⟩
  have hj : (j : Int) < 3 * l 13 := hj
  have e : upR (upR l 1 a) 2 b (14 + j) = l (14 + j) := by rw [upR_ne (by omega), upR_ne (by omega)]
  rw [e]
  exact h10 j hj
theorem GA.par {A : zW} {B : Nat} (hG : GA A B) (x a b : Int32) : GA (tPar A x a b) B := by
  unfold tPar
  split
  · next h =>
    have hk := (zin_n h.1).2
    exact hG.row hk ((hG.1.2.2.2.2 _ hk).up12p ((bPar_iff _ _ _).mp h.2).2)
  · exact hG
theorem c_setParameters {σ : zS} {o B : Nat} {A : zW} {q u P : Nat → Nat} (hG : GA A B) (hB : B < 2 ^ 30) (hK : StK σ o) (hI : CIx σ o A q u P) (x a b : Int32) (d : Nat) : zOC o (zEv (d + 20) mX10_setParameters [.inr (.inl (some o)), .inl x, .inl a, .inl b] σ) (rPar A x a b) (tPar A x a b) σ := by
  have hR := hI.1
  have hO := hR.1
  have hn8 := hG.1.2.2.1
  have key : ∀ r, zOC o (some (some (.inl r), σ)) r A σ := fun r => zOC.same hI r
  rw [vX10_setParameters]
  unfold fX10_setParameters rPar tPar
  simp only [zlt_e, onR_s, nul_s, nul_n, chk_e, bnI_s, bnR_s, bnV_s, zi_si, zi_sr, zi_sl, zi_sa, zi_sq, zr_si, zr_sr, zr_sl, zr_sa, zr_sq, zl_si, zl_sr, zl_sl, zl_sa, zl_sq, zai_si, zai_sr, zai_sl, zai_sa, zai_sq, zar_si, zar_sr, zar_sl, zar_sa, zar_sq, zkd_si, zkd_sr, zkd_sl, zkd_sa, zkd_sq, zln_si, zln_sr, zln_sl, zln_sa, zln_sq, znx_si, znx_sr, znx_sl, znx_sa, znx_sq, hO.f.1, hO.f.2.1, hO.c.1, if_true]
  by_cases hx : zin x (cN (aC A))
  · obtain ⟨ex, hk⟩ := zin_n hx
    generalize x.toNatClampNeg = k at *
    subst ex
    have hqk := (hR.2.1.1 k (by omega)).2
    have hls := hO.c.2.2.2.2.2.2 (q k) hqk
    have hg := hG.1.2.2.2.2 k hk
    have h0 := hg.1
    have a0 : zi σ 128 (o + 1 + 4 + 3 * q k) = iI (cL (aC A) k 0) := (hR.2.2.1.2.2 k hk).1 0 (by decide)
    have a1 : zi σ 129 (o + 1 + 4 + 3 * q k) = iI (cL (aC A) k 1) := (hR.2.2.1.2.2 k hk).1 1 (by decide)
    have et : (iI (cL (aC A) k 0)).toInt = cL (aC A) k 0 := i_toInt (by omega) (by omega)
    simp only [zlt_e, onR_s, nul_s, nul_n, chk_e, bnI_s, bnR_s, bnV_s, zi_si, zi_sr, zi_sl, zi_sa, zi_sq, zr_si, zr_sr, zr_sl, zr_sa, zr_sq, zl_si, zl_sr, zl_sl, zl_sa, zl_sq, zai_si, zai_sr, zai_sl, zai_sa, zai_sq, zar_si, zar_sr, zar_sl, zar_sa, zar_sq, zkd_si, zkd_sr, zkd_sl, zkd_sa, zkd_sq, zln_si, zln_sr, zln_sl, zln_sa, zln_sq, znx_si, znx_sr, znx_sl, znx_sa, znx_sq, s_layerAt hO.c hR.2.1 hR.2.2.1.2.1 hn8 hk, hls.1, if_true, a0, s_allow hK _ a b (d + 16), et, zb_0]
    by_cases hp : bPar (cL (aC A) k 0) a.toInt b.toInt = true
    · have hc : zin (nI k) (cN (aC A)) ∧ bPar (cL (aC A) k 0) a.toInt b.toInt = true := ⟨hx, hp⟩
      rw [if_neg (fun q => q hp), if_pos hc, if_pos hc]
      obtain ⟨τ, u', k1, k2, k3⟩ := s_startChange hG hB hI (show k ≤ 8 by omega) (d + 12)
      have hls' := k3.1.1.c.2.2.2.2.2.2 (q k) hqk
      have hlv := k3.1.2.2.1.2.2 k hk
      have ea : a = iI a.toInt := i_of a
      have eb : b = iI b.toInt := i_of b
      simp only [zlt_e, onR_s, nul_s, nul_n, chk_e, bnI_s, bnR_s, bnV_s, zi_si, zi_sr, zi_sl, zi_sa, zi_sq, zr_si, zr_sr, zr_sl, zr_sa, zr_sq, zl_si, zl_sr, zl_sl, zl_sa, zl_sq, zai_si, zai_sr, zai_sl, zai_sa, zai_sq, zar_si, zar_sr, zar_sl, zar_sa, zar_sq, zkd_si, zkd_sr, zkd_sl, zkd_sa, zkd_sq, zln_si, zln_sr, zln_sl, zln_sa, zln_sq, znx_si, znx_sr, znx_sl, znx_sa, znx_sq, hls.1, a1, hO.f.1, k1, hls'.1, if_true]
      have g1 : zFr (inL (o + 1 + 4 + 3 * q k)) τ (zsi (zsi τ (128 + 1) (o + 1 + 4 + 3 * q k) (iI a.toInt)) (128 + 2) (o + 1 + 4 + 3 * q k) (iI b.toInt)) := (zFr.si _ (by unfold inL; omega)).tr (zFr.si _ (by unfold inL; omega))
      have hl2 := (hlv.si (j := 1) (by decide) a.toInt).si (j := 2) (by decide) b.toInt
      rw [← ea, ← eb] at g1 hl2
      exact ⟨_, q, u', P, rfl, k3.row hG hk g1 hl2, (k2.mono (fun a ha => by unfold inHU inH inU at ha; omega)).tr (g1.mono (fun a ha => by unfold inL at ha; omega))⟩
    · rw [if_pos hp, if_neg (fun q => hp q.2), if_neg (fun q => hp q.2)]
      exact key _
  · rw [if_neg (fun q => hx q.1), if_neg (fun q => hx q.1)]
    simp only [zlt_e, onR_s, nul_s, nul_n, chk_e, bnI_s, bnR_s, bnV_s, zi_si, zi_sr, zi_sl, zi_sa, zi_sq, zr_si, zr_sr, zr_sl, zr_sa, zr_sq, zl_si, zl_sr, zl_sl, zl_sa, zl_sq, zai_si, zai_sr, zai_sl, zai_sa, zai_sq, zar_si, zar_sr, zar_sl, zar_sa, zar_sq, zkd_si, zkd_sr, zkd_sl, zkd_sa, zkd_sq, zln_si, zln_sr, zln_sl, zln_sa, zln_sq, znx_si, znx_sr, znx_sl, znx_sa, znx_sq, s_layerNo hO.c hR.2.2.1.2.1 hn8 hx]
    exact key _
theorem m_setParameters {σ : zS} {m B : Nat} {A : zW} (hG : GA A B) (hB : B < 2 ^ 30) (hI : MIx σ m A) (x a b : Int32) (d : Nat) : zOM m (zEv (d + 20) mX11_setParameters [.inr (.inl (some m)), .inl x, .inl a, .inl b] σ) (rPar A x a b) (tPar A x a b) σ := by
  have hn8 := hG.1.2.2.1
  have hI1 := hI.th
  have g0 : zFr (fun a => m ≤ a ∧ a < m + 22) σ (zsi σ 576 m 0) := zFr.si σ (by omega)
  have key : ∀ r, zOM m (some (some (.inl r), zsi σ 576 m 0)) r A σ := fun r => zOM.same hI r
  rw [vX11_setParameters]
  unfold fX11_setParameters rPar tPar
  simp only [zlt_e, chk_e, hI.1.k, if_true]
  generalize zsi σ 576 m 0 = σ1 at *
  simp only [zlt_e, chk_e, bnI_s, hI1.1.k, if_true, s_misLayer hI1.1 hI1.2.1 hn8, zb_0]
  by_cases hx : zin x (cN (aC A))
  · obtain ⟨ex, hk⟩ := zin_n hx
    generalize x.toNatClampNeg = k at *
    subst ex
    rw [if_neg (fun q => q hx)]
    have hg := hG.1.2.2.2.2 k hk
    have x0 := ix_r (k := k) (j := 0) (by omega) (by decide)
    have x1 := ix_r (k := k) (j := 1) (by omega) (by decide)
    have x2 := ix_r (k := k) (j := 2) (by omega) (by decide)
    have v0 := hI1.2.1.r hk (show 0 < 32 by decide)
    rw [show (1 : Int32) = nI 1 from rfl, show (2 : Int32) = nI 2 from rfl, show (0 : Int32) = nI 0 from rfl]
    simp only [s_mat, onR_s, bnI_s, hI1.1.s.1, hI1.1.s.2.1, hI1.1.s.2.2, x0, and_self, if_true, v0, s_isPossible hg.1 a b (d + 16) σ1]
    rw [show nI 0 = (0 : Int32) from rfl]
    simp only [zb_0]
    by_cases hp : bPar (cL (aC A) k 0) a.toInt b.toInt = true
    · have hc : zin (nI k) (cN (aC A)) ∧ bPar (cL (aC A) k 0) a.toInt b.toInt = true := ⟨hx, hp⟩
      rw [if_neg (fun q => q hp), if_pos hc, if_pos hc]
      obtain ⟨τ, k1, k2, k3⟩ := s_mpush hG hI1 (d + 18)
      have v1 := k2.2.1.r hk (show 1 < 32 by decide)
      have ea : a = iI a.toInt := i_of a
      have eb : b = iI b.toInt := i_of b
      have hV3 := ((MV.st (l := cL (aC A) k) (by rw [stC_self]; exact k2.2.1) hG.1.1.2 hG.1.2.1.2 (show 1 < 32 by decide) a.toInt).st hG.1.1.2 hG.1.2.1.2 (show 2 < 32 by decide) b.toInt)
      rw [← ea, ← eb] at hV3
      have gs : zFr (fun x => x = m + 1) τ (zsa (zsa τ (m + 1) (259 + 32 * k + 1) a) (m + 1) (259 + 32 * k + 2) b) := (zFr.sa (P := fun x => x = m + 1) _ rfl).tr (zFr.sa _ rfl)
      have hI3 : MIx (zsa (zsa τ (m + 1) (259 + 32 * k + 1) a) (m + 1) (259 + 32 * k + 2) b) m (aSet (aPush A) (stC (aC A) k (upR (upR (cL (aC A) k) 1 a.toInt) 2 b.toInt))) := k2.comp gs (fun a _ _ => by omega) (fun f _ => rfl) hV3
      obtain ⟨υ, n, l1, l2, l3, l4⟩ := s_mtil (A := aSet (aPush A) (stC (aC A) k (upR (upR (cL (aC A) k) 1 a.toInt) 2 b.toInt))) (hG.u31 hB) hI3 (show k ≤ 8 by omega) (d + 18)
      simp only [zlt_e, onR_s, nul_s, nul_n, chk_e, bnI_s, bnR_s, bnV_s, zi_si, zi_sr, zi_sl, zi_sa, zi_sq, zr_si, zr_sr, zr_sl, zr_sa, zr_sq, zl_si, zl_sr, zl_sl, zl_sa, zl_sq, zai_si, zai_sr, zai_sl, zai_sa, zai_sq, zar_si, zar_sr, zar_sl, zar_sa, zar_sq, zkd_si, zkd_sr, zkd_sl, zkd_sa, zkd_sq, zln_si, zln_sr, zln_sl, zln_sa, zln_sq, znx_si, znx_sr, znx_sl, znx_sa, znx_sq, hI1.1.k, k1, k2.1.k, k2.1.s.1, k2.1.s.2.1, k2.1.s.2.2, s_mat, x1, x2, and_self, if_true, v1, l1]
      exact ⟨υ, rfl, l2, (g0.tr (k3.mono (fun a ha => by omega))).tr ((gs.mono (fun a ha => by omega)).tr (l3.mono (fun a ha => by omega)))⟩
    · rw [if_pos hp, if_neg (fun q => hp q.2), if_neg (fun q => hp q.2)]
      exact key _
  · rw [if_pos hx, if_neg (fun q => hx q.1), if_neg (fun q => hx q.1)]
    exact key _
