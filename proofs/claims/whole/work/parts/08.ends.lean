/-! the ends; what nobody writes -/
section ENDS
variable {sk : Nat → String × Nat × String} {mi : Nat → MethodName × ByteArray × Nat × Option FieldType × Nat × Nat} {own : String} {cc : ByteArray} {nL : Nat} {ret : Option FieldType} {ini : Bool} {pc : Nat}
theorem ok_rtI (hr : ret = some .int) (hd : decode cc pc = .ok (.ireturn, 1)) : zOk sk mi own cc nL ret ini pc oRtI := by
  refine ⟨fun E b ls st σ => Or.inl ⟨_, fun _ => rfl⟩, fun D cy d p l e R s m args below meth c σ0 out Q E hE hC k b ls st σ h hk H locs cells slots lsA hP hM hS hL hc hs => ?_⟩
  unfold oRtI at h
  split at h
  · next x =>
    cases h
    exact ((hC.2.2.2.2.2.2.2.2.2.2 pc lsA H locs cells slots hP hM hS (by omega) (by omega)).1 hd x rfl ⟨_, hr, rfl⟩)
  · cases h
theorem ok_rtZ (hr : ret = some .boolean) (hd : decode cc pc = .ok (.ireturn, 1)) : zOk sk mi own cc nL ret ini pc oRtZ := by
  refine ⟨fun E b ls st σ => Or.inl ⟨_, fun _ => rfl⟩, fun D cy d p l e R s m args below meth c σ0 out Q E hE hC k b ls st σ h hk H locs cells slots lsA hP hM hS hL hc hs => ?_⟩
  unfold oRtZ at h
  split at h
  · next x =>
    obtain ⟨hx, h⟩ := chk_some h
    cases h
    exact ((hC.2.2.2.2.2.2.2.2.2.2 pc lsA H locs cells slots hP hM hS (by omega) (by omega)).1 hd x rfl ⟨_, hr, by rcases hx with rfl | rfl <;> decide⟩)
  · cases h
theorem ok_rtC (hr : ret = some .char) (hd : decode cc pc = .ok (.ireturn, 1)) : zOk sk mi own cc nL ret ini pc (oRtN .char) := by
  refine ⟨fun E b ls st σ => Or.inl ⟨_, fun _ => rfl⟩, fun D cy d p l e R s m args below meth c σ0 out Q E hE hC k b ls st σ h hk H locs cells slots lsA hP hM hS hL hc hs => ?_⟩
  unfold oRtN at h
  split at h
  · next x =>
    obtain ⟨hx, h⟩ := chk_some h
    cases h
    exact ((hC.2.2.2.2.2.2.2.2.2.2 pc lsA H locs cells slots hP hM hS (by omega) (by omega)).1 hd x rfl ⟨_, hr, by rw [show narrow .char (.int x) = .int (vp_nar .char x) from rfl, hx]⟩)
  · cases h
theorem ok_rtB (hr : ret = some .byte) (hd : decode cc pc = .ok (.ireturn, 1)) : zOk sk mi own cc nL ret ini pc (oRtN .byte) := by
  refine ⟨fun E b ls st σ => Or.inl ⟨_, fun _ => rfl⟩, fun D cy d p l e R s m args below meth c σ0 out Q E hE hC k b ls st σ h hk H locs cells slots lsA hP hM hS hL hc hs => ?_⟩
  unfold oRtN at h
  split at h
  · next x =>
    obtain ⟨hx, h⟩ := chk_some h
    cases h
    exact ((hC.2.2.2.2.2.2.2.2.2.2 pc lsA H locs cells slots hP hM hS (by omega) (by omega)).1 hd x rfl ⟨_, hr, by rw [show narrow .byte (.int x) = .int (vp_nar .byte x) from rfl, hx]⟩)
  · cases h
theorem ok_rtR {rt : FieldType} (hr : ret = some rt) (hrt : (∃ n, rt = .object n) ∨ ∃ t, rt = .array t) (hd : decode cc pc = .ok (.areturn, 1)) : zOk sk mi own cc nL ret ini pc oRtR := by
  refine ⟨fun E b ls st σ => Or.inl ⟨_, fun _ => rfl⟩, fun D cy d p l e R s m args below meth c σ0 out Q E hE hC k b ls st σ h hk H locs cells slots lsA hP hM hS hL hc hs => ?_⟩
  unfold oRtR at h
  split at h
  · next x =>
    cases h
    exact ((hC.2.2.2.2.2.2.2.2.2.2 pc lsA H locs cells slots hP hM hS (by omega) (by omega)).2.1 hd x rfl ⟨_, hr, hrt⟩)
  · cases h
theorem ok_rtV (hr : ret = none) (hd : decode cc pc = .ok (.return_, 1)) : zOk sk mi own cc nL ret ini pc oRtV := by
  refine ⟨fun E b ls st σ => Or.inl ⟨_, fun _ => rfl⟩, fun D cy d p l e R s m args below meth c σ0 out Q E hE hC k b ls st σ h hk H locs cells slots lsA hP hM hS hL hc hs => ?_⟩
  unfold oRtV at h
  split at h
  · cases h
    exact ((hC.2.2.2.2.2.2.2.2.2.2 pc lsA H locs cells slots hP hM hS (by omega) (by omega)).2.2 hd rfl hr)
  · cases h
theorem ok_sta {j index : Nat} (hj : j < 5) (hw : Cond.fieldLink own index RX2 (zStN j) "[I" ∈ lw_tbl) (hd : decode cc pc = .ok (.getstatic index, 3)) : zOk sk mi own cc nL ret ini pc (oSta 640 j (pc + 3)) := by
  refine ⟨fun E b ls st σ => ?_, fun D cy d p l e R s m args below meth c σ0 out Q E hE hC k b ls st σ h hk H locs cells slots lsA hP hM hS hL hc hs => ?_⟩
  · unfold oSta
    exact lin_onR (fun _ => rfl) fun a => Or.inr ⟨_, _, _, _, _, fun _ => rfl⟩
  · unfold oSta at h
    obtain ⟨t, ht, h⟩ := onR_some h
    have ht0 : zr σ0 640 j = some t := (hM.2.2.1 640 (Nat.le_refl _) j).symm.trans ht
    exact va_gets hC.1 hC.2.1 (hC.2.2.2.2.2.2.1.1 j t hj ht0) hS hC.2.2.2.1 (hC.2.2.2.2.1 _ hw rfl _) (fun _ h => h) hd (hk _ _ _ _ _ h H locs cells slots lsA hP hM hS hL hc hs)
theorem ok_compact {index : Nat} (hw : Cond.fieldLink own index "java/lang/String" "COMPACT_STRINGS" "Z" ∈ lw_tbl) (hd : decode cc pc = .ok (.getstatic index, 3)) : zOk sk mi own cc nL ret ini pc (oCst (.inl 1) (pc + 3)) := by
  refine ⟨fun E b ls st σ => Or.inr ⟨_, _, _, _, _, fun k => rfl⟩, fun D cy d p l e R s m args below meth c σ0 out Q E hE hC k b ls st σ h hk H locs cells slots lsA hP hM hS hL hc hs => ?_⟩
  exact va_gets hC.1 hC.2.1 hC.2.2.2.2.2.2.1.2.2.2.2.2.1 hS hC.2.2.2.1 (hC.2.2.2.2.1 _ hw rfl _) (fun _ h => h) hd (hk _ _ _ _ _ h H locs cells slots lsA hP hM hS hL hc hs)
theorem ok_sioobe {index : Nat} (hw : Cond.fieldLink own index "jdk/internal/util/Preconditions" "SIOOBE_FORMATTER" "Ljava/util/function/BiFunction;" ∈ lw_tbl) (hd : decode cc pc = .ok (.getstatic index, 3)) : zOk sk mi own cc nL ret ini pc (oStv 643 0 (pc + 3)) := by
  refine ⟨fun E b ls st σ => Or.inr ⟨_, _, _, _, _, fun k => rfl⟩, fun D cy d p l e R s m args below meth c σ0 out Q E hE hC k b ls st σ h hk H locs cells slots lsA hP hM hS hL hc hs => ?_⟩
  have e0 : zr σ 643 0 = zr σ0 643 0 := hM.2.2.1 643 (by decide) 0
  have := hk _ _ _ _ _ h H locs cells slots lsA hP hM hS hL hc hs
  refine va_gets hC.1 hC.2.1 hC.2.2.2.2.2.2.1.2.2.2.2.2.2 hS hC.2.2.2.1 (hC.2.2.2.2.1 _ hw rfl _) (fun _ h => h) hd ?_
  rw [← e0]
  exact this
theorem ok_str {k0 index : Nat} {tx : String} (hsk : sk k0 = (own, index, tx)) (hd : decode cc pc = .ok (.ldc index, 2)) : zOk sk mi own cc nL ret ini pc (oSta 641 k0 (pc + 2)) := by
  refine ⟨fun E b ls st σ => ?_, fun D cy d p l e R s m args below meth c σ0 out Q E hE hC k b ls st σ h hk H locs cells slots lsA hP hM hS hL hc hs => ?_⟩
  · unfold oSta
    exact lin_onR (fun _ => rfl) fun a => Or.inr ⟨_, _, _, _, _, fun _ => rfl⟩
  · unfold oSta at h
    obtain ⟨t, ht, h⟩ := onR_some h
    have ht0 : zr σ0 641 k0 = some t := (hM.2.2.1 641 (by decide) k0).symm.trans ht
    have hR := hC.2.2.2.2.2.2.1.2.2.1 k0 t ht0
    rw [hsk] at hR
    exact va_ldcS hC.1 hC.2.1 hC.2.2.2.1 hR hd (hk _ _ _ _ _ h H locs cells slots lsA hP hM hS hL hc hs)
theorem ok_ald16 (hd : decode cc pc = .ok (.iaload, 1)) : zOk sk mi own cc nL ret ini pc (oAld 16 (pc + 1)) := by
  refine ⟨fun E b ls st σ => ?_, fun D cy d p l e R s m args below meth c σ0 out Q E hE hC k b ls st σ h hk H locs cells slots lsA hP hM hS hL hc hs => ?_⟩
  · unfold oAld
    split
    · exact lin_onR (fun _ => rfl) fun a => lin_chk fun _ => rfl
    · exact Or.inl ⟨_, fun _ => rfl⟩
  · unfold oAld at h
    split at h
    · obtain ⟨a, rfl, h⟩ := onR_some h
      obtain ⟨⟨hka, hi⟩, h⟩ := chk_some h
      obtain ⟨b1, b2, b3⟩ := hM.2.2.2 a (by rw [hka]; decide)
      rw [b2] at hi
      exact va_ti hC.1 hC.2.1 (hC.2.2.2.2.2.2.1.2.1 a (b1.trans hka)) hS (zin_vp hi) (congrArg Value.int (b3 _).symm) hd (hk _ _ _ _ _ h H locs cells slots lsA hP hM hS hL hc hs)
    · cases h
theorem ok_len16 (hd : decode cc pc = .ok (.arraylength, 1)) : zOk sk mi own cc nL ret ini pc (oLen 16 (pc + 1)) := by
  refine ⟨fun E b ls st σ => ?_, fun D cy d p l e R s m args below meth c σ0 out Q E hE hC k b ls st σ h hk H locs cells slots lsA hP hM hS hL hc hs => ?_⟩
  · unfold oLen
    split
    · exact lin_onR (fun _ => rfl) fun a => lin_chk fun _ => rfl
    · exact Or.inl ⟨_, fun _ => rfl⟩
  · unfold oLen at h
    split at h
    · obtain ⟨a, rfl, h⟩ := onR_some h
      obtain ⟨hka, h⟩ := chk_some h
      obtain ⟨b1, b2, b3⟩ := hM.2.2.2 a (by rw [hka]; decide)
      exact va_tlen hC.1 hC.2.1 (hC.2.2.2.2.2.2.1.2.1 a (b1.trans hka)) hS (by rw [b2]) hd (hk _ _ _ _ _ h H locs cells slots lsA hP hM hS hL hc hs)
    · cases h
theorem ok_ald18 (hd : decode cc pc = .ok (.baload, 1)) : zOk sk mi own cc nL ret ini pc (oAld 18 (pc + 1)) := by
  refine ⟨fun E b ls st σ => ?_, fun D cy d p l e R s m args below meth c σ0 out Q E hE hC k b ls st σ h hk H locs cells slots lsA hP hM hS hL hc hs => ?_⟩
  · unfold oAld
    split
    · exact lin_onR (fun _ => rfl) fun a => lin_chk fun _ => rfl
    · exact Or.inl ⟨_, fun _ => rfl⟩
  · unfold oAld at h
    split at h
    · obtain ⟨a, rfl, h⟩ := onR_some h
      obtain ⟨⟨hka, hi⟩, h⟩ := chk_some h
      obtain ⟨b1, b2, b3⟩ := hM.2.2.2 a (by rw [hka]; decide)
      rw [b2] at hi
      exact va_tb hC.1 hC.2.1 (hC.2.2.2.2.2.2.1.2.2.2.2.1 a (b1.trans hka)) hS (zin_vp hi) (congrArg Value.int (b3 _).symm) hd (hk _ _ _ _ _ h H locs cells slots lsA hP hM hS hL hc hs)
    · cases h
theorem ok_len18 (hd : decode cc pc = .ok (.arraylength, 1)) : zOk sk mi own cc nL ret ini pc (oLen 18 (pc + 1)) := by
  refine ⟨fun E b ls st σ => ?_, fun D cy d p l e R s m args below meth c σ0 out Q E hE hC k b ls st σ h hk H locs cells slots lsA hP hM hS hL hc hs => ?_⟩
  · unfold oLen
    split
    · exact lin_onR (fun _ => rfl) fun a => lin_chk fun _ => rfl
    · exact Or.inl ⟨_, fun _ => rfl⟩
  · unfold oLen at h
    split at h
    · obtain ⟨a, rfl, h⟩ := onR_some h
      obtain ⟨hka, h⟩ := chk_some h
      obtain ⟨b1, b2, b3⟩ := hM.2.2.2 a (by rw [hka]; decide)
      exact va_tlen hC.1 hC.2.1 (hC.2.2.2.2.2.2.1.2.2.2.2.1 a (b1.trans hka)) hS (by rw [b2]) hd (hk _ _ _ _ _ h H locs cells slots lsA hP hM hS hL hc hs)
    · cases h
theorem ok_svl {index : Nat} (hw : Cond.fieldLink own index "java/lang/String" "value" "[B" ∈ lw_tbl) (hd : decode cc pc = .ok (.getfield index, 3)) : zOk sk mi own cc nL ret ini pc (oSvl (pc + 3)) := by
  refine ⟨fun E b ls st σ => ?_, fun D cy d p l e R s m args below meth c σ0 out Q E hE hC k b ls st σ h hk H locs cells slots lsA hP hM hS hL hc hs => ?_⟩
  · unfold oSvl
    split
    · exact lin_onR (fun _ => rfl) fun a => lin_chk fun _ => rfl
    · exact Or.inl ⟨_, fun _ => rfl⟩
  · unfold oSvl at h
    split at h
    · obtain ⟨a, rfl, h⟩ := onR_some h
      obtain ⟨hka, h⟩ := chk_some h
      obtain ⟨v, e0⟩ := Option.isSome_iff_exists.mp hka
      obtain ⟨g1, g2, g4⟩ := hC.2.2.2.2.2.2.1.2.2.2.1 a v ((hM.2.2.1 642 (by decide) a).symm.trans e0)
      rw [e0] at h
      exact vk_getf hC.1 hC.2.1 g4 hS hC.2.2.2.1 (hC.2.2.2.2.1 _ hw rfl _) (fun _ h => h) hd (hk _ _ _ _ _ h H locs cells slots lsA hP hM hS hL hc hs)
    · cases h
theorem ok_sco {index : Nat} (hw : Cond.fieldLink own index "java/lang/String" "coder" "B" ∈ lw_tbl) (hd : decode cc pc = .ok (.getfield index, 3)) : zOk sk mi own cc nL ret ini pc (oSco (pc + 3)) := by
  refine ⟨fun E b ls st σ => ?_, fun D cy d p l e R s m args below meth c σ0 out Q E hE hC k b ls st σ h hk H locs cells slots lsA hP hM hS hL hc hs => ?_⟩
  · unfold oSco
    split
    · exact lin_onR (fun _ => rfl) fun a => lin_chk fun _ => rfl
    · exact Or.inl ⟨_, fun _ => rfl⟩
  · unfold oSco at h
    split at h
    · obtain ⟨a, rfl, h⟩ := onR_some h
      obtain ⟨hka, h⟩ := chk_some h
      obtain ⟨v, e0⟩ := Option.isSome_iff_exists.mp hka
      obtain ⟨g1, g2, g4⟩ := hC.2.2.2.2.2.2.1.2.2.2.1 a v ((hM.2.2.1 642 (by decide) a).symm.trans e0)
      exact vk_getf hC.1 hC.2.1 g2 hS hC.2.2.2.1 (hC.2.2.2.2.1 _ hw rfl _) (fun _ h => h) hd (hk _ _ _ _ _ h H locs cells slots lsA hP hM hS hL hc hs)
    · cases h
theorem lin_rcs {a : Nat} {op : zOp} (h : zLin op) : zLin (oRcS a op) := by
  intro E b ls st σ
  unfold oRcS
  split
  · next o ho =>
    refine lin_onR (fun _ => rfl) fun x => ?_
    by_cases hx : (zr σ 642 x).isSome = true
    · rcases h E b ls st σ with ⟨c, hc⟩ | ⟨pc, b', ls', st', σ', hc⟩
      · exact Or.inl ⟨c, fun k => (if_pos hx).trans (hc k)⟩
      · exact Or.inr ⟨pc, b', ls', st', σ', fun k => (if_pos hx).trans (hc k)⟩
    · exact Or.inl ⟨none, fun k => if_neg hx⟩
  · exact Or.inl ⟨_, fun _ => rfl⟩
theorem ok_caTI {y n mc ms index mL : Nat} {yn : MethodName} {cb : ByteArray} {rt : Option FieldType} (hmi : mi y = (yn, cb, mL, rt, mc, ms)) (hy : zYok yn n) (hmL : mL ≤ 20) (hw1 : Cond.methodLink own index yn ∈ lw_tbl) (hw2 : Cond.instanceMethod yn ∈ lw_tbl) (hw6 : Cond.selects yn.cls yn yn ∈ lw_tbl) (hcl : yn.cls = "java/lang/String") (hw3 : Cond.initialized yn.cls ∈ lw_tbl) (hw4 : Cond.code yn cb mL rt ∈ lw_tbl)
    (hd : decode cc pc = .ok (.invokevirtual index, 3)) : zOk sk mi own cc nL ret ini pc (oRcS n (oCaI y (n + 1) (mc, ms) (pc + 3))) := by
  refine ⟨lin_rcs lin_caI, fun D cy d p l e R s m args below meth c σ0 out Q E hE hC k b ls st σ h hk H locs cells slots lsA hP hM hS hL hc hs => ?_⟩
  unfold oRcS at h
  split at h
  case h_2 => cases h
  next o ho =>
  obtain ⟨x, rfl, h⟩ := onR_some h
  obtain ⟨hkx, h⟩ := chk_some h
  obtain ⟨hg, h⟩ := zgd_some h
  rw [Bool.and_eq_true] at hg
  obtain ⟨hg1, hg2⟩ := hg
  have hf := zfit_of hg1
  dsimp only at hf
  unfold zroom at hg2
  rw [Bool.and_eq_true] at hg2
  obtain ⟨hg3, hg2⟩ := hg2
  obtain ⟨r, σ1, hEy, h⟩ := bnI_some h
  have hMet := hE y _ σ _ hEy
  rw [hmi] at hMet
  dsimp only at hMet
  have hT := hC.2.2.2.2.1
  have hR := hC.2.2.2.2.2.2.2.2.1
  have hcb : ∀ w ∈ [Cond.code yn cb mL rt], ∀ (a' : Array Value) (U : State), s.WarmedH U.vm → w.before a' U = true := fun w hw a' U hW => by
    rw [List.mem_singleton] at hw
    subst hw
    exact hT.moved hW _ hw4 rfl _
  obtain ⟨es, em⟩ := zst_rcv ho
  rw [es] at hMet
  have hrv : ∃ cell : Cell, H[x]? = some cell ∧ cell.vm.isStatics = false ∧ s.vm.findClass yn.cls = some cell.cls := by
    obtain ⟨v, e0⟩ := Option.isSome_iff_exists.mp hkx
    obtain ⟨cell, g1, g2, g3, -⟩ := (hC.2.2.2.2.2.2.1.2.2.2.1 x v ((hM.2.2.1 642 (by decide) x).symm.trans e0)).1.kept hS.2.1
    exact ⟨cell, g1, g2, by rw [hcl]; exact g3⟩
  have hlen : ((st.take n).reverse.map zTo).length = n := by
    rw [List.length_map, List.length_reverse, List.length_take]
    exact Nat.min_eq_left (Nat.le_of_lt (List.getElem?_eq_some_iff.mp ho).1)
  refine x_after (va_runV (C := yn.cls) (b := x) (As := ((st.take n).reverse.map zTo)) (rest := (st.drop (n + 1)).map zTo) (g := F0 m pc lsA (st.map zTo)) (cells := cells) (slots := slots) (locs := locs) ⟨hC.1, hC.2.1, hC.2.2.1, hC.2.2.2.1, fun w hw => absurd hw List.not_mem_nil⟩ hMet ⟨⟨rfl, rfl, hR.1, (by show 8 + (mL + 11) + 40 * d ≤ R.locals; omega), hcb, List.mem_singleton.mpr rfl, hT _ hw4 rfl _, hT _ hw3 rfl _, hy.1, hy.sig, hT _ hw1 rfl _⟩, hT _ hw2 rfl _, hT _ hw6 rfl _⟩ ⟨zPc_blind, hrv, zPc_here (as := .inr (.inl (some x)) :: (st.take n).reverse) hT hC.2.2.2.2.2.1 hC.2.2.2.2.2.2.1 hP hM hS⟩ rfl hlen hL.1 em (lv_room (zcats (Nat.le_of_ble_eq_true hg2))) hd ⟨by omega, by omega⟩) hM hS fun H1 locs1 hP1 hM1 hS1 => ?_
  exact hk _ _ _ _ _ h H1 locs1 (cells + mc) (slots + ms) lsA hP1 hM1 hS1 hL (by show cells + mc + (b.1 - mc) ≤ R.cells; omega) (by show slots + ms + (b.2 - ms) ≤ R.slots; omega)
end ENDS
