/-! small calls: counter; the reference's oldest tile and trim -/
def rCtr (A : zW) (x : Int32) : Int32 := if x = 0 then nI (tCp (aT A)) else if x = 1 then nI (tFd (aT A)) else if x = 2 then nI (tDr (aT A)) else -1001
theorem c_counter {σ : zS} {o : Nat} {A : zW} {q u P : Nat → Nat} (hI : CIx σ o A q u P) (x : Int32) (d : Nat) : zOC o (zEv (d + 20) mX10_counter [.inr (.inl (some o)), .inl x] σ) (rCtr A x) A σ := by
  have hR := hI.1
  have hO := hR.1
  have hT := hR.2.2.2.2.2.1
  rw [vX10_counter]
  unfold fX10_counter rCtr
  simp only [zlt_e, onR_s, nul_s, nul_n, chk_e, bnI_s, bnR_s, bnV_s, zi_si, zi_sr, zi_sl, zi_sa, zi_sq, zr_si, zr_sr, zr_sl, zr_sa, zr_sq, zl_si, zl_sr, zl_sl, zl_sa, zl_sq, zai_si, zai_sr, zai_sl, zai_sa, zai_sq, zar_si, zar_sr, zar_sl, zar_sa, zar_sq, zkd_si, zkd_sr, zkd_sl, zkd_sa, zkd_sq, zln_si, zln_sr, zln_sl, zln_sa, zln_sq, znx_si, znx_sr, znx_sl, znx_sa, znx_sq, hO.f.1, hO.f.2.2.2.2.2.2.1, hO.tc.1, if_true, hT.2.2.2.1, hT.2.2.2.2.1, hT.2.2.2.2.2]
  by_cases h0 : x = 0
  · rw [if_pos h0, if_pos h0]; exact ⟨σ, q, u, P, rfl, hI, zFr.rf σ⟩
  rw [if_neg h0, if_neg h0]
  by_cases h1 : x = 1
  · rw [if_pos h1, if_pos h1]; exact ⟨σ, q, u, P, rfl, hI, zFr.rf σ⟩
  rw [if_neg h1, if_neg h1]
  by_cases h2 : x = 2
  · rw [if_pos h2, if_pos h2]; exact ⟨σ, q, u, P, rfl, hI, zFr.rf σ⟩
  rw [if_neg h2, if_neg h2]; exact ⟨σ, q, u, P, rfl, hI, zFr.rf σ⟩
def oMInt (o : Option Nat) : Int := match o with
  | none => -1009
  | some j => j
