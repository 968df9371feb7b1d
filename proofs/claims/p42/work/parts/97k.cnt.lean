/-! the tiles' counts: what is cached has been computed, and not dropped -/
def KT (A : zW) : Prop := cnt (aU A) 512 + tDr (aT A) ≤ tCp (aT A) ∧ tCp (aT A) ≤ tCk (aT A)
theorem cnt_or {u v : Nat → Nat} : ∀ n, (∀ k, k < n → v k = 0 ∨ v k = u k) → cnt v n ≤ cnt u n
  | 0, _ => Nat.le_refl _
  | n + 1, h => by
    have ih := cnt_or n (fun k hk => h k (by omega))
    show cnt v n + (if v n = 0 then 0 else 1) ≤ cnt u n + (if u n = 0 then 0 else 1)
    rcases h n (by omega) with e | e
    · rw [if_pos e]; split <;> omega
    · rw [e]; omega
theorem KT.of {A A' : zW} (h : KT A) (h1 : tDr (aT A') = tDr (aT A)) (h2 : tCp (aT A') = tCp (aT A)) (h3 : tCk (aT A') = tCk (aT A)) (h4 : cnt (aU A') 512 ≤ cnt (aU A) 512) : KT A' := by
  unfold KT at h ⊢
  omega
theorem KT.eq {A A' : zW} (h : KT A) (h1 : aT A' = aT A) (h2 : aU A' = aU A) : KT A' := h.of (by rw [h1]) (by rw [h1]) (by rw [h1]) (by rw [h2]; exact Nat.le_refl _)
theorem KT.nil {A A' : zW} (h : KT A) (h1 : aT A' = aT A) (h2 : ∀ k, aU A' k = 0) : KT A' := h.of (by rw [h1]) (by rw [h1]) (by rw [h1]) (cnt_or 512 (fun k _ => Or.inl (h2 k)))
theorem KT.row {A : zW} (h : KT A) (k : Nat) (l : Nat → Int) : KT (aRow A k l) := h.of rfl rfl rfl (cnt_or 512 (fun j _ => zrU_or _ _ _ j))
theorem KT.chs {A : zW} (h : KT A) (k : Nat) (C : zC) : KT (aSet (aCh A k) C) := h.of rfl rfl rfl (cnt_or 512 (fun j _ => zrU_or _ _ _ j))
theorem KT0 : KT A0 := by
  have e : cnt (aU A0) 512 = 0 := cnt_zero 512
  unfold KT
  rw [e]
  decide
theorem cnt_drpE : ∀ n (u : Nat → Nat), n ≤ cnt u 512 → cnt (drpU 512 u n) 512 + n = cnt u 512
  | 0, u, _ => by
    rw [show drpU 512 u 0 = u from rfl, Nat.add_zero]
  | n + 1, u, h => by
    cases ho : oldU u 512 with
    | none =>
      have : cnt u 512 = 0 := oldU_none u 512 ho
      omega
    | some j =>
      rw [drpU_some n ho]
      have e := cnt_old ho
      have := cnt_drpE n (clr u j) (by omega)
      omega
theorem KT.drop {A : zW} {F : zT} (h : KT A) (h1 : tDr F = tDr (aT A)) (h2 : tCp F = tCp (aT A)) (h3 : tCk F = tCk (aT A)) : KT (aDrop A F) := by
  have hc := cnt_drpE (cnt (aU A) 512 - tLm F) (aU A) (Nat.sub_le _ _)
  have e1 : aU (aDrop A F) = drpU 512 (aU A) (cnt (aU A) 512 - tLm F) := rfl
  have e2 : aT (aDrop A F) = tDp F (cnt (aU A) 512 - tLm F) := rfl
  have e3 : ∀ n, tDr (tDp F n) = tDr F + n := fun _ => rfl
  have e4 : ∀ n, tCp (tDp F n) = tCp F := fun _ => rfl
  have e5 : ∀ n, tCk (tDp F n) = tCk F := fun _ => rfl
  unfold KT at h ⊢
  rw [e1, e2, e3, e4, e5]
  omega
theorem KT.new {A : zW} (h : KT A) (x y : Int32) : KT (tNew A x y) := by
  unfold tNew
  split
  · exact h.nil rfl (fun _ => rfl)
  · exact h
theorem KT.pt {A : zW} (h : KT A) (L T R B : Nat) (v : Int) : KT (aPt A L T R B v) := h.of rfl rfl rfl (cnt_or 512 (fun j _ => seeU_or _ _ _ _ _ _ _ _ j))
theorem KT.pix {A : zW} (h : KT A) (x y v : Int32) : KT (tPix A x y v) := by
  unfold tPix
  split
  · exact h.pt _ _ _ _ _
  · exact h
theorem KT.fil {A : zW} (h : KT A) (x y w g v : Int32) : KT (tFil A x y w g v) := by
  unfold tFil
  split
  · exact h.pt _ _ _ _ _
  · exact h
theorem KT.add {A : zW} (h : KT A) (x y v : Int32) : KT (tAdd A x y v) := by
  unfold tAdd
  split
  · split
    · exact h
    · exact h.eq rfl rfl
  · exact h
theorem KT.blend {A : zW} (h : KT A) (x y v : Int32) : KT (tBlend A x y v) := by
  unfold tBlend
  split
  · exact h.row _ _
  · exact h
theorem KT.en {A : zW} (h : KT A) (x y : Int32) : KT (tEn A x y) := by
  unfold tEn
  split
  · split
    · exact h
    · exact h.row _ _
  · exact h
theorem KT.mv {A : zW} (h : KT A) (x y : Int32) : KT (tMv A x y) := by
  unfold tMv
  split
  · exact h.chs _ _
  · exact h
theorem KT.dup {A : zW} (h : KT A) (x : Int32) : KT (tDup A x) := by
  unfold tDup
  split
  · split
    · exact h
    · exact h.chs _ _
  · exact h
theorem KT.rem {A : zW} (h : KT A) (x : Int32) : KT (tRem A x) := by
  unfold tRem
  split
  · exact h.chs _ _
  · exact h
theorem KT.fla {A : zW} (h : KT A) (x : Int32) : KT (tFla A x) := by
  unfold tFla
  split
  · exact h.of rfl rfl rfl (cnt_shU _ _)
  · exact h
theorem KT.mask {A : zW} (h : KT A) (x k c d e f : Int32) : KT (tMask A x k c d e f) := by
  unfold tMask
  split
  · exact h.row _ _
  · exact h
theorem KT.feather {A : zW} (h : KT A) (x y : Int32) : KT (tFeather A x y) := by
  unfold tFeather
  split
  · exact h.row _ _
  · exact h
theorem KT.invert {A : zW} (h : KT A) (x : Int32) : KT (tInvert A x) := by
  unfold tInvert
  split
  · exact h.row _ _
  · exact h
theorem KT.dab {A : zW} (h : KT A) (k x y r : Int32) : KT (tDab A k x y r) := by
  unfold tDab
  split
  · split
    · exact h.row _ _
    · exact h
  · exact h
theorem KT.lim {A : zW} (h : KT A) (x : Int32) : KT (tLim A x) := by
  unfold tLim
  split
  · exact h.drop rfl rfl rfl
  · exact h
theorem KT.ts {A : zW} (h : KT A) (x : Int32) : KT (tTs A x) := by
  unfold tTs
  split
  · exact h.of rfl rfl rfl (cnt_or 512 (fun _ _ => Or.inl rfl))
  · exact h
theorem KT.clearC {A : zW} (h : KT A) : KT (tClearC A) := h.nil rfl (fun _ => rfl)
theorem KT.undo {A : zW} (h : KT A) : KT (tUndo A) := by
  unfold tUndo
  split
  · exact h
  · exact h.nil rfl (fun _ => rfl)
theorem KT.sav {A : zW} (h : KT A) (x : Int32) : KT (tSav A x) := by
  unfold tSav
  split
  · exact h.eq rfl rfl
  · exact h
theorem KT.rest {A : zW} (h : KT A) (x : Int32) : KT (tRest A x) := by
  unfold tRest
  split
  · split
    · exact h
    · exact h.nil rfl (fun _ => rfl)
  · exact h
/-! requests -/
def RK (s : zU) : Prop := cnt s.1 512 + tDr s.2 ≤ tCp s.2 ∧ tCp s.2 ≤ tCk s.2
theorem itR_keep {f : Nat → Nat → zU → zU} {P : zU → Prop} {c0 c1 r0 r1 : Nat} (h : ∀ c r s, c ≤ c1 → r ≤ r1 → P s → P (f c r s)) (s : zU) (hs : P s) : P (itR f c0 c1 r0 r1 s) :=
  itC_keep _ P _ (fun j s hj hp => itC_keep _ P _ (fun i s hi hp => h _ _ s (by omega) (by omega) hp) s hp) s hs
theorem rk_req {C : zC} {sd : Nat} (hs : 1 ≤ sd) (hw : (cW C - 1) / sd < 8) (hh : (cH C - 1) / sd < 8) : ∀ n, n ≤ 8 → ∀ c r s, c ≤ (cW C - 1) / sd → r ≤ (cH C - 1) / sd → RK s → RK (reqT C sd n c r s) := by
  intro n
  induction n with
  | zero =>
    intro _ c r s _ _ h
    rw [show reqT C sd 0 c r s = s from rfl]
    exact h
  | succ n ih =>
    intro hn c r s hc hr h
    have hk : sN n c r < 512 := sN_lt (by omega) (by omega) (by omega)
    have hd := sN_dec (l := n) (show c < 8 by omega) (show r < 8 by omega)
    unfold reqT
    by_cases ho : cL C n 5 = 1
    · rw [if_pos ho]
      by_cases hu : s.1 (sN n c r) = 0
      · rw [if_pos hu]
        have h64 : RQ C sd n 64 s (itR (reqT C sd n) (tlo sd c (rch (cL C n))) (thi sd c (rch (cL C n)) (cW C)) (tlo sd r (rch (cL C n))) (thi sd r (rch (cL C n)) (cH C)) s) :=
          rq_itR s (Nat.lt_of_le_of_lt thi_le hw) (Nat.lt_of_le_of_lt thi_le hh) (fun c r s hc hr => rq_req hs hw hh n (by omega) c r s (Nat.le_trans hc thi_le) (Nat.le_trans hr thi_le))
        have h2 : RK (itR (reqT C sd n) (tlo sd c (rch (cL C n))) (thi sd c (rch (cL C n)) (cW C)) (tlo sd r (rch (cL C n))) (thi sd r (rch (cL C n)) (cH C)) s) :=
          itR_keep (P := RK) (fun c r s hc hr hp => ih (by omega) c r s (Nat.le_trans hc thi_le) (Nat.le_trans hr thi_le) hp) s h
        generalize itR (reqT C sd n) (tlo sd c (rch (cL C n))) (thi sd c (rch (cL C n)) (cW C)) (tlo sd r (rch (cL C n))) (thi sd r (rch (cL C n)) (cH C)) s = s' at h64 h2
        have hu' : s'.1 (sN n c r) = 0 := by rw [h64.2.1 _ hk (by omega)]; exact hu
        have hcn := cnt_st s'.1 (sN n c r) (tCk s'.2 + 1) 512 (by omega) hk
        rw [if_pos hu'] at hcn
        have e3 : tDr (tCo s'.2) = tDr s'.2 := rfl
        have e4 : tCp (tCo s'.2) = tCp s'.2 + 1 := rfl
        have e5 : tCk (tCo s'.2) = tCk s'.2 + 1 := rfl
        unfold RK at h2 ⊢
        dsimp only
        rw [e3, e4, e5]
        omega
      · rw [if_neg hu]
        have hcn := cnt_st s.1 (sN n c r) (tCk s.2 + 1) 512 (by omega) hk
        rw [if_neg hu] at hcn
        have e3 : tDr (tFo s.2) = tDr s.2 := rfl
        have e4 : tCp (tFo s.2) = tCp s.2 := rfl
        have e5 : tCk (tFo s.2) = tCk s.2 + 1 := rfl
        unfold RK at h ⊢
        dsimp only
        rw [e3, e4, e5]
        omega
    · rw [if_neg ho]
      exact ih (by omega) c r s hc hr h
theorem KT.cac {A : zW} {s : zU} (h : RK s) : KT (aDrop (aCac A s) s.2) := KT.drop (A := aCac A s) h rfl rfl rfl
theorem KT.px {A : zW} {B : Nat} (hG : GA A B) (h : KT A) (x i j : Int32) : KT (tPx A x i j) := by
  unfold tPx
  split
  · next hx =>
    have hw := hG.1.1
    have hh := hG.1.2.1
    have hs := hG.2.2.2.2.1
    have hi := (zin_n hx.2.1).2
    have hj := (zin_n hx.2.2).2
    refine KT.cac (rk_req (by omega) (div8 hw.2 hs.1) (div8 hh.2 hs.1) _ (by have := hG.1.2.2.1; omega) _ _ _ (Nat.div_le_div_right (by omega)) (Nat.div_le_div_right (by omega)) h)
  · exact h
theorem KT.pre {A : zW} {B : Nat} (hG : GA A B) (h : KT A) (x : Int32) : KT (tPre A x) := by
  unfold tPre
  split
  · next hx =>
    have hw := hG.1.1
    have hh := hG.1.2.1
    have hs := hG.2.2.2.2.1
    have hk := (zin_n hx).2
    have h8 := hG.1.2.2.1
    exact KT.cac (itR_keep (P := RK) (fun c r s hc hr hp => rk_req (by omega) (div8 hw.2 hs.1) (div8 hh.2 hs.1) _ (by omega) c r s hc hr hp) _ h)
  · exact h
