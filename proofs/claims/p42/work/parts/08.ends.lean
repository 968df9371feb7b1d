/-! the ends; what nobody writes -/
section ENDS
variable {mi : Nat → MethodName × ByteArray × Nat × Option FieldType × Nat × Nat} {own : String} {cc : ByteArray} {nL : Nat} {ret : Option FieldType} {ini : Bool} {pc : Nat}
theorem ok_rtI (hr : ret = some .int) (hd : decode cc pc = .ok (.ireturn, 1)) : zOk mi own cc nL ret ini pc oRtI := by
  refine ⟨fun E b ls st σ => Or.inl ⟨_, fun _ => rfl⟩, fun D cy d p l e R s m args below meth c σ0 out Q E hE hC k b ls st σ h hk H locs cells slots lsA hP hM hS hL hc hs => ?_⟩
  unfold oRtI at h
  split at h
  · next x =>
    cases h
    exact ((hC.2.2.2.2.2.2.2.2.2.2 pc lsA H locs cells slots hP hM hS (by omega) (by omega)).1 hd x rfl ⟨_, hr, rfl⟩)
  · cases h
theorem ok_rtZ (hr : ret = some .boolean) (hd : decode cc pc = .ok (.ireturn, 1)) : zOk mi own cc nL ret ini pc oRtZ := by
  refine ⟨fun E b ls st σ => Or.inl ⟨_, fun _ => rfl⟩, fun D cy d p l e R s m args below meth c σ0 out Q E hE hC k b ls st σ h hk H locs cells slots lsA hP hM hS hL hc hs => ?_⟩
  unfold oRtZ at h
  split at h
  · next x =>
    obtain ⟨hx, h⟩ := chk_some h
    cases h
    exact ((hC.2.2.2.2.2.2.2.2.2.2 pc lsA H locs cells slots hP hM hS (by omega) (by omega)).1 hd x rfl ⟨_, hr, by rcases hx with rfl | rfl <;> decide⟩)
  · cases h
theorem ok_rtR {rt : FieldType} (hr : ret = some rt) (hrt : (∃ n, rt = .object n) ∨ ∃ t, rt = .array t) (hd : decode cc pc = .ok (.areturn, 1)) : zOk mi own cc nL ret ini pc oRtR := by
  refine ⟨fun E b ls st σ => Or.inl ⟨_, fun _ => rfl⟩, fun D cy d p l e R s m args below meth c σ0 out Q E hE hC k b ls st σ h hk H locs cells slots lsA hP hM hS hL hc hs => ?_⟩
  unfold oRtR at h
  split at h
  · next x =>
    cases h
    exact ((hC.2.2.2.2.2.2.2.2.2.2 pc lsA H locs cells slots hP hM hS (by omega) (by omega)).2.1 hd x rfl ⟨_, hr, hrt⟩)
  · cases h
theorem ok_rtV (hr : ret = none) (hd : decode cc pc = .ok (.return_, 1)) : zOk mi own cc nL ret ini pc oRtV := by
  refine ⟨fun E b ls st σ => Or.inl ⟨_, fun _ => rfl⟩, fun D cy d p l e R s m args below meth c σ0 out Q E hE hC k b ls st σ h hk H locs cells slots lsA hP hM hS hL hc hs => ?_⟩
  unfold oRtV at h
  split at h
  · cases h
    exact ((hC.2.2.2.2.2.2.2.2.2.2 pc lsA H locs cells slots hP hM hS (by omega) (by omega)).2.2.1 hd rfl hr)
  · cases h
theorem ok_rtL (hr : ret = some .long) (hd : decode cc pc = .ok (.lreturn, 1)) : zOk mi own cc nL ret ini pc oRtL := by
  refine ⟨fun E b ls st σ => Or.inl ⟨_, fun _ => rfl⟩, fun D cy d p l e R s m args below meth c σ0 out Q E hE hC k b ls st σ h hk H locs cells slots lsA hP hM hS hL hc hs => ?_⟩
  unfold oRtL at h
  split at h
  · next w =>
    cases h
    exact ((hC.2.2.2.2.2.2.2.2.2.2 pc lsA H locs cells slots hP hM hS (by omega) (by omega)).2.2.2 hd w rfl hr)
  · cases h
theorem ok_sta {j index : Nat} (hj : j < 5) (hw : Cond.fieldLink own index RX2 (zStN j) "[I" ∈ lw_tbl) (hd : decode cc pc = .ok (.getstatic index, 3)) : zOk mi own cc nL ret ini pc (oSta 640 j (pc + 3)) := by
  refine ⟨fun E b ls st σ => ?_, fun D cy d p l e R s m args below meth c σ0 out Q E hE hC k b ls st σ h hk H locs cells slots lsA hP hM hS hL hc hs => ?_⟩
  · unfold oSta
    exact lin_onR (fun _ => rfl) fun a => Or.inr ⟨_, _, _, _, _, fun _ => rfl⟩
  · unfold oSta at h
    obtain ⟨t, ht, h⟩ := onR_some h
    have ht0 : zr σ0 640 j = some t := (hM.2.2.1 640 (Nat.le_refl _) j).symm.trans ht
    exact va_gets hC.1 hC.2.1 (hC.2.2.2.2.2.2.1.1 j t hj ht0) hS hC.2.2.2.1 (hC.2.2.2.2.1 _ hw rfl _) (fun _ h => h) hd (hk _ _ _ _ _ h H locs cells slots lsA hP hM hS hL hc hs)
theorem ok_ald16 (hd : decode cc pc = .ok (.iaload, 1)) : zOk mi own cc nL ret ini pc (oAld 16 (pc + 1)) := by
  refine ⟨fun E b ls st σ => ?_, fun D cy d p l e R s m args below meth c σ0 out Q E hE hC k b ls st σ h hk H locs cells slots lsA hP hM hS hL hc hs => ?_⟩
  · unfold oAld
    split
    · exact lin_onR (fun _ => rfl) fun a => lin_chk fun _ => rfl
    · exact Or.inl ⟨_, fun _ => rfl⟩
  · unfold oAld at h
    split at h
    · obtain ⟨a, rfl, h⟩ := onR_some h
      obtain ⟨⟨hka, hi⟩, h⟩ := chk_some h
      obtain ⟨b1, b2, b3⟩ := hM.2.2.2 a (by rw [hka]; decide)
      rw [b2] at hi
      exact va_ti hC.1 hC.2.1 (hC.2.2.2.2.2.2.1.2 a (b1.trans hka)) hS (zin_vp hi) (congrArg Value.int (b3 _).symm) hd (hk _ _ _ _ _ h H locs cells slots lsA hP hM hS hL hc hs)
    · cases h
theorem ok_len16 (hd : decode cc pc = .ok (.arraylength, 1)) : zOk mi own cc nL ret ini pc (oLen 16 (pc + 1)) := by
  refine ⟨fun E b ls st σ => ?_, fun D cy d p l e R s m args below meth c σ0 out Q E hE hC k b ls st σ h hk H locs cells slots lsA hP hM hS hL hc hs => ?_⟩
  · unfold oLen
    split
    · exact lin_onR (fun _ => rfl) fun a => lin_chk fun _ => rfl
    · exact Or.inl ⟨_, fun _ => rfl⟩
  · unfold oLen at h
    split at h
    · obtain ⟨a, rfl, h⟩ := onR_some h
      obtain ⟨hka, h⟩ := chk_some h
      obtain ⟨b1, b2, b3⟩ := hM.2.2.2 a (by rw [hka]; decide)
      exact va_tlen hC.1 hC.2.1 (hC.2.2.2.2.2.2.1.2 a (b1.trans hka)) hS (by rw [b2]) hd (hk _ _ _ _ _ h H locs cells slots lsA hP hM hS hL hc hs)
    · cases h
end ENDS
