/-! the object of the class: its cells -/
def OF (σ : zS) (o : Nat) : Prop := zkd σ o = 8 ∧ zr σ 512 o = some (o + 1) ∧ zr σ 513 o = some (o + 29) ∧ zr σ 514 o = some (o + 57) ∧ zr σ 515 o = some (o + 227) ∧ zr σ 516 o = some (o + 228) ∧ zr σ 517 o = some (o + 230) ∧ zr σ 518 o = some (o + 249) ∧ zr σ 519 o = some (o + 253) ∧ zr σ 520 o = some (o + 255)
def SnS (σ : zS) (a : Nat) : Prop := zkd σ a = 13 ∧ zln σ a = 2
def TxS (σ : zS) (a : Nat) : Prop := zkd σ a = 6 ∧ zr σ 384 a = some (a + 1) ∧ zkd σ (a + 1) = 10 ∧ zln σ (a + 1) = 160
def OS (σ : zS) (o : Nat) : Prop := OF σ o ∧ CmS σ (o + 1) ∧ CmS σ (o + 29) ∧ HiS σ (o + 57) ∧ SnS σ (o + 227) ∧ TxS σ (o + 228) ∧ TcS σ (o + 230) ∧ RdS σ (o + 249) ∧ PicS σ (o + 253) ∧ PicS σ (o + 255)
theorem OF.fr {P : Nat → Prop} {σ τ : zS} {o : Nat} (h : OF σ o) (g : zFr P σ τ) : OF τ o := by
  unfold OF
  rw [g.kd, g.r]
  exact h
theorem SnS.fr {P : Nat → Prop} {σ τ : zS} {o : Nat} (h : SnS σ o) (g : zFr P σ τ) : SnS τ o := by
  unfold SnS
  rw [g.kd, g.ln]
  exact h
theorem TxS.fr {P : Nat → Prop} {σ τ : zS} {o : Nat} (h : TxS σ o) (g : zFr P σ τ) : TxS τ o := by
  unfold TxS
  rw [g.kd, g.ln, g.r]
  exact h
theorem OS.fr {P : Nat → Prop} {σ τ : zS} {o : Nat} (h : OS σ o) (g : zFr P σ τ) : OS τ o :=
  ⟨h.1.fr g, h.2.1.fr g, h.2.2.1.fr g, h.2.2.2.1.fr g, h.2.2.2.2.1.fr g, h.2.2.2.2.2.1.fr g, h.2.2.2.2.2.2.1.fr g, h.2.2.2.2.2.2.2.1.fr g, h.2.2.2.2.2.2.2.2.1.fr g, h.2.2.2.2.2.2.2.2.2.fr g⟩
theorem OS.f {σ : zS} {o : Nat} (h : OS σ o) : OF σ o := h.1
theorem OS.c {σ : zS} {o : Nat} (h : OS σ o) : CmS σ (o + 1) := h.2.1
theorem OS.dr {σ : zS} {o : Nat} (h : OS σ o) : CmS σ (o + 29) := h.2.2.1
theorem OS.h {σ : zS} {o : Nat} (h : OS σ o) : HiS σ (o + 57) := h.2.2.2.1
theorem OS.sn {σ : zS} {o : Nat} (h : OS σ o) : SnS σ (o + 227) := h.2.2.2.2.1
theorem OS.tx {σ : zS} {o : Nat} (h : OS σ o) : TxS σ (o + 228) := h.2.2.2.2.2.1
theorem OS.tc {σ : zS} {o : Nat} (h : OS σ o) : TcS σ (o + 230) := h.2.2.2.2.2.2.1
theorem OS.rd {σ : zS} {o : Nat} (h : OS σ o) : RdS σ (o + 249) := h.2.2.2.2.2.2.2.1
theorem OS.sh {σ : zS} {o : Nat} (h : OS σ o) : PicS σ (o + 253) := h.2.2.2.2.2.2.2.2.1
theorem OS.cp {σ : zS} {o : Nat} (h : OS σ o) : PicS σ (o + 255) := h.2.2.2.2.2.2.2.2.2
/-- the outputs hold pixels of some size -/
def OutR (σ : zS) (X : Nat) : Prop := ∀ i, i < 8 → (∃ w h, w ≤ 16 ∧ h ≤ 16 ∧ zi σ 257 (X + 3 + 2 * i) = nI w ∧ zi σ 258 (X + 3 + 2 * i) = nI h) ∧ ∀ j, j < 256 → ∃ v : Int, (0 ≤ v ∧ v ≤ 255) ∧ zai σ (X + 3 + 2 * i + 1) j = iI v
/-- a tile that is there is right -/
def Coh (σ : zS) (X : Nat) (C : zC) (sd : Nat) (u : Nat → Nat) : Prop := ∀ k, k < 512 → u k ≠ 0 → zi σ 257 (X + 3 + 2 * (k / 64)) = nI (cW C) ∧ zi σ 258 (X + 3 + 2 * (k / 64)) = nI (cH C) ∧ ∀ x y, x < cW C → y < cH C → x / sd = k % 8 → y / sd = k / 8 % 8 → zai σ (X + 3 + 2 * (k / 64) + 1) (16 * y + x) = iI (outI C (k / 64 + 1) x y)
theorem OutR.fr {P : Nat → Prop} {σ τ : zS} {X : Nat} (h : OutR σ X) (g : zFr P σ τ) (hn : ∀ a, X + 3 ≤ a → a < X + 19 → ¬ P a) : OutR τ X := fun i hi => by
  rw [g.i (hn _ (by omega) (by omega)), g.i (hn _ (by omega) (by omega))]
  exact ⟨(h i hi).1, fun j hj => by rw [g.ai (hn _ (by omega) (by omega))]; exact (h i hi).2 j hj⟩
theorem Coh.fr {P : Nat → Prop} {σ τ : zS} {X : Nat} {C : zC} {sd : Nat} {u : Nat → Nat} (h : Coh σ X C sd u) (g : zFr P σ τ) (hn : ∀ a, X + 3 ≤ a → a < X + 19 → ¬ P a) : Coh τ X C sd u := fun k hk hu => by
  rw [g.i (hn _ (by omega) (by omega)), g.i (hn _ (by omega) (by omega))]
  exact ⟨(h k hk hu).1, (h k hk hu).2.1, fun x y a b c d => by rw [g.ai (hn _ (by omega) (by omega))]; exact (h k hk hu).2.2 x y a b c d⟩
theorem Coh.mono {σ : zS} {X : Nat} {C : zC} {sd : Nat} {u v : Nat → Nat} (h : Coh σ X C sd u) (e : ∀ k, k < 512 → v k ≠ 0 → u k ≠ 0) : Coh σ X C sd v := fun k hk hv => h k hk (e k hk hv)
/-- what requests work on -/
def inK (o a : Nat) : Prop := o + 230 ≤ a ∧ a ≤ o + 252 ∧ a ≠ o + 231
def RqI (σ : zS) (o : Nat) (q : Nat → Nat) (C : zC) (sd : Nat) (s : zU) : Prop := OS σ o ∧ CmQ σ (o + 1) q ∧ CmV σ (o + 1) q C ∧ TcQ σ (o + 230) ∧ TcU σ (o + 230) s.1 ∧ TcF σ (o + 230) s.2 ∧ OutR σ (o + 230) ∧ Coh σ (o + 230) C sd s.1 ∧ tSd s.2 = sd ∧ ∀ k, k < 512 → s.1 k ≤ tCk s.2
theorem outI_onB (C : zC) : ∀ n, outI C n = outI C (onB (cL C) n)
  | 0 => rfl
  | n + 1 => by
    show _ = outI C (if cL C n 5 = 1 then n + 1 else onB (cL C) n)
    by_cases ho : cL C n 5 = 1
    · rw [if_pos ho]
    · rw [if_neg ho]
      have : outI C (n + 1) = outI C n := by rw [outI, if_neg ho]
      rw [this]
      exact outI_onB C n
theorem s_pictureOf {σ : zS} {o k : Nat} (hO : OS σ o) (hQ : TcQ σ (o + 230)) (hk : k ≤ 8) (d : Nat) : zEv (d + 2) mX10_pictureOf [.inr (.inl (some o)), .inl (iI ((k : Int) - 1))] σ = some (some (.inr (.inl (some (if k = 0 then o + 2 else o + 230 + 3 + 2 * (k - 1))))), σ) := by
  rw [vX10_pictureOf]
  unfold fX10_pictureOf
  by_cases h : k = 0
  · subst h
    have e : iI (((0 : Nat) : Int) - 1) = iI (-1) := rfl
    simp only [zlt_e, onR_s, nul_s, nul_n, chk_e, bnI_s, bnR_s, bnV_s, zi_si, zi_sr, zi_sl, zi_sa, zi_sq, zr_si, zr_sr, zr_sl, zr_sa, zr_sq, zl_si, zl_sr, zl_sl, zl_sa, zl_sq, zai_si, zai_sr, zai_sl, zai_sa, zai_sq, zar_si, zar_sr, zar_sl, zar_sa, zar_sq, zkd_si, zkd_sr, zkd_sl, zkd_sa, zkd_sq, zln_si, zln_sr, zln_sl, zln_sa, zln_sq, znx_si, znx_sr, znx_sl, znx_sa, znx_sq, hO.f.1, hO.f.2.2.2.2.2.2.1, hO.tc.1, if_true, e, s_outputNo, hO.f.2.1, hO.c.1, hO.c.2.1]
  · have e : iI ((k : Int) - 1) = nI (k - 1) := by rw [i_nI]; congr 1; omega
    simp only [zlt_e, onR_s, nul_s, nul_n, chk_e, bnI_s, bnR_s, bnV_s, zi_si, zi_sr, zi_sl, zi_sa, zi_sq, zr_si, zr_sr, zr_sl, zr_sa, zr_sq, zl_si, zl_sr, zl_sl, zl_sa, zl_sq, zai_si, zai_sr, zai_sl, zai_sa, zai_sq, zar_si, zar_sr, zar_sl, zar_sa, zar_sq, zkd_si, zkd_sr, zkd_sl, zkd_sa, zkd_sq, zln_si, zln_sr, zln_sl, zln_sa, zln_sq, znx_si, znx_sr, znx_sl, znx_sa, znx_sq, hO.f.1, hO.f.2.2.2.2.2.2.1, hO.tc.1, if_true, e, s_outputAt hO.tc hQ (show k - 1 < 8 by omega), h, if_false]
theorem itC_all {S : Type} (f : Nat → S → S) (P : Nat → S → Prop) : ∀ n, (∀ i s, i < n → P i (f i s)) → (∀ i j s, i < n → P j s → P j (f i s)) → ∀ s i, i < n → P i (itC f n s)
  | 0, _, _, s, i, h => absurd h (Nat.not_lt_zero _)
  | n + 1, h1, h2, s, i, h => by
    show P i (f n (itC f n s))
    by_cases e : i = n
    · rw [e]; exact h1 n _ (by omega)
    · exact h2 n i _ (by omega) (itC_all f P n (fun i s hi => h1 i s (by omega)) (fun i j s hi => h2 i j s (by omega)) s i (by omega))
theorem itC_keep {S : Type} (f : Nat → S → S) (P : S → Prop) : ∀ n, (∀ i s, i < n → P s → P (f i s)) → ∀ s, P s → P (itC f n s)
  | 0, _, s, h => h
  | n + 1, h1, s, h => h1 n _ (by omega) (itC_keep f P n (fun i s hi => h1 i s (by omega)) s h)
theorem itR_all {f : Nat → Nat → zU → zU} {P : Nat → Nat → zU → Prop} {c0 c1 r0 r1 : Nat} (h1 : ∀ c r s, c ≤ c1 → r ≤ r1 → P c r (f c r s)) (h2 : ∀ c r c' r' s, c ≤ c1 → r ≤ r1 → P c' r' s → P c' r' (f c r s)) (s : zU) {c r : Nat} (hc0 : c0 ≤ c) (hc1 : c ≤ c1) (hr0 : r0 ≤ r) (hr1 : r ≤ r1) : P c r (itR f c0 c1 r0 r1 s) := by
  have key := itC_all (fun j s => itC (fun i s => f (c0 + i) (r0 + j) s) (c1 + 1 - c0) s) (fun j s => ∀ i, i < c1 + 1 - c0 → P (c0 + i) (r0 + j) s) (r1 + 1 - r0)
    (fun j s hj => fun i hi => itC_all (fun i s => f (c0 + i) (r0 + j) s) (fun i s => P (c0 + i) (r0 + j) s) (c1 + 1 - c0) (fun i s hi => h1 _ _ s (by omega) (by omega)) (fun i i' s hi hp => h2 _ _ _ _ s (by omega) (by omega) hp) s i hi)
    (fun j j' s hj hp => fun i hi => itC_keep (fun i s => f (c0 + i) (r0 + j) s) (fun s => P (c0 + i) (r0 + j') s) (c1 + 1 - c0) (fun i' s hi' hp => h2 _ _ _ _ s (by omega) (by omega) hp) s (hp i hi))
    s (r - r0) (by omega) (c - c0) (by omega)
  rw [show c0 + (c - c0) = c by omega, show r0 + (r - r0) = r by omega] at key
  exact key
/-- a place within reach lies in a tile that is asked for -/
theorem tile_in {sd c r w x x' : Nat} (hs : 1 ≤ sd) (hx : x < w) (hx' : x' < w) (hc : x / sd = c) (h1 : x' ≤ x + r) (h2 : x ≤ x' + r) : tlo sd c r ≤ x' / sd ∧ x' / sd ≤ thi sd c r w := by
  have hm := Nat.div_add_mod x sd
  have hl := Nat.mod_lt x (show 0 < sd by omega)
  rw [hc, Nat.mul_comm] at hm
  unfold tlo thi
  refine ⟨Nat.div_le_div_right (by omega), Nat.div_le_div_right ?_⟩
  rw [Nat.succ_mul]
  omega
theorem tile_sq {sd c x : Nat} (hs : 1 ≤ sd) : (c * sd ≤ x ∧ x < c * sd + sd) ↔ x / sd = c := by
  constructor
  · rintro ⟨h1, h2⟩
    have a := (Nat.le_div_iff_mul_le (show 0 < sd by omega)).mpr h1
    have b := (Nat.div_lt_iff_lt_mul (show 0 < sd by omega)).mpr (show x < (c + 1) * sd by rw [Nat.succ_mul]; exact h2)
    omega
  · rintro rfl
    have hm := Nat.div_add_mod x sd
    have hl := Nat.mod_lt x (show 0 < sd by omega)
    rw [Nat.mul_comm] at hm
    omega
