/-! the steps that make cells, call, return, read what nobody writes -/
section CALLS
variable {mi : Nat → MethodName × ByteArray × Nat × Option FieldType × Nat × Nat} {own : String} {cc : ByteArray} {nL : Nat} {ret : Option FieldType} {ini : Bool} {pc : Nat}
theorem ok_new {ci : Nat} {C : String} {T : u_T} {N index : Nat} {ty : Nat → FieldType} (hCl : zCl ci C T N ty) (hdef : ∀ j, j < N → ∀ t, (ztg ci)[j]? = some t → defaultValue (ty j) = (match t with | 0 => .int 0 | 1 => .null | _ => .long 0)) (hw1 : Cond.classLink own index C ∈ lw_tbl) (hw2 : Cond.instantiable C N ∈ lw_tbl) (hw3 : Cond.initialized C ∈ lw_tbl)
    (hd : decode cc pc = .ok (.new index, 3)) : zOk mi own cc nL ret ini pc (oNew ci N (pc + 3)) := by
  refine ⟨fun E b ls st σ => ?_, fun D cy d p l e R s m args below meth c σ0 out Q E hE hC k b ls st σ h hk H locs cells slots lsA hP hM hS hL hc hs => ?_⟩
  · unfold oNew
    split
    · exact Or.inr ⟨_, _, _, _, _, fun _ => rfl⟩
    · exact Or.inl ⟨_, fun _ => rfl⟩
  · unfold oNew at h
    split at h
    · next hb =>
      have hT := hC.2.2.2.2.1
      have hKn := hC.2.2.2.2.2.1.1 ci _ hCl.1
      have h10 := hCl.2.2.2.2.2
      refine W.newcK hC.1 hC.2.1 hC.2.2.2.1 (hT _ hw1 rfl _) (hT _ hw2 rfl _) (hT _ hw3 rfl _) rfl hd (by omega) (by omega) hKn.2.1 hP.1 fun H1 kC hkC e1 z1 o1 => ?_
      rw [← hP.1] at o1 z1
      have hen : zent cy (zno σ ci) (znx σ) = .inr (ci, zfl (zno σ ci) (znx σ) ci) := zent_o (show zkd (zno σ ci) (znx σ) = ci from va_up_self _ _ _) h10
      refine hk _ _ _ _ _ h H1 locs (cells + 1) (slots + N) lsA (hP.push (c := ci) (by omega) z1 o1 ?_ rfl rfl rfl (zno_ent hen)) (zSm_new hM (c := ci) (by omega) rfl rfl (fun q hq => rfl) (fun q hq i => rfl) (fun f hf j => ?_)) (hS.grow z1 o1) hL (by show cells + 1 + (b.1 - 1) ≤ R.cells; omega) (by show slots + N + (b.2 - N) ≤ R.slots; omega)
      · refine ⟨_, hCl.1, (u_born ty (hCl.words hT args) (fun _ h => h) hKn hkC e1 hCl.2.2.1).to fun j hj => ?_⟩
        have hj' : j < (ztg ci).length := by rw [hCl.2.2.2.2.1]; exact hj
        have hjt : (ztg ci)[j]? = some (ztg ci)[j] := List.getElem?_eq_getElem hj'
        have h64 : j < 64 := Nat.lt_of_lt_of_le hj' (ztg_64 ci)
        have h3 := ztg_3 ci h10 _ (List.getElem_mem hj')
        show defaultValue (ty j) = (zfl (zno σ ci) (znx σ) ci).getD j .null
        rw [List.getD_eq_getElem?_getD, zfl_get hjt, hdef j hj _ hjt]
        show _ = zfv (zno σ ci) (ztg ci)[j] (64 * ci + j) (znx σ)
        generalize (ztg ci)[j] = t at h3 ⊢
        match t, h3 with
        | 0, _ => simp [zfv, zi, zno]
        | 1, _ =>
          simp only [zfv, zr, zno]
          rw [if_pos ⟨trivial, by omega⟩]
          rfl
        | 2, _ => simp [zfv, zl, zno]
      · show (if j = znx σ ∧ f < 640 then none else σ.2.1 f j) = zr σ f j
        rw [if_neg (fun q => by omega)]
        rfl
    · cases h
theorem ok_newa10 (hw : Cond.arrayClass .char ∈ lw_tbl) (hd : decode cc pc = .ok (.newarray .char, 2)) : zOk mi own cc nL ret ini pc (oNewA 10 (pc + 2)) := by
  refine ⟨fun E b ls st σ => ?_, fun D cy d p l e R s m args below meth c σ0 out Q E hE hC k b ls st σ h hk H locs cells slots lsA hP hM hS hL hc hs => ?_⟩
  · unfold oNewA
    split
    · split
      · exact Or.inr ⟨_, _, _, _, _, fun _ => rfl⟩
      · exact Or.inl ⟨_, fun _ => rfl⟩
    · exact Or.inl ⟨_, fun _ => rfl⟩
  · unfold oNewA at h
    split at h
    · next x st =>
      split at h
      · next hb =>
        obtain ⟨⟨hx0, hx1⟩, hb1, hb2⟩ := hb
        have hT := hC.2.2.2.2.1
        have hxn : x.toNatClampNeg ≤ 65536 := by show x.toInt.toNat ≤ 65536; omega
        refine va_newaK (atype := .char) hC.1 hC.2.1 (hT _ hw rfl _) rfl hd rfl (fun q => by have := Int32.lt_iff_toInt_lt.mp q; simp at this; omega) (N := x.toNatClampNeg) rfl (Nat.le_trans (Nat.mul_le_mul_right _ hxn) (by decide)) (by omega) (by omega) hP.1 fun H1 cA e1 z1 o1 hAr hNm => ?_
        rw [← hP.1] at o1 z1
        have hcA : cA = cy 10 := Option.some.inj (hNm.symm.trans (hC.2.2.2.2.2.1.2 0 _ rfl).2)
        subst hcA
        have hen : zent cy (zna σ 10 x.toNatClampNeg) (znx σ) = .inl (cy 10, x.toNatClampNeg, .inl (fun _ => 0)) := by
          rw [zent_i (c := 10) (show zkd (zna σ 10 x.toNatClampNeg) (znx σ) = 10 from va_up_self _ _ _) (by decide) (by decide)]
          rw [show zln (zna σ 10 x.toNatClampNeg) (znx σ) = x.toNatClampNeg from va_up_self _ _ _, show zai (zna σ 10 x.toNatClampNeg) (znx σ) = fun _ => 0 from funext fun i => if_pos rfl]
        refine hk _ _ _ _ _ h H1 locs (cells + 1) (slots + x.toNatClampNeg) lsA (hP.push (c := 10) (by decide) z1 o1 ?_ rfl rfl rfl (zna_ent hen)) (zSm_new hM (c := 10) (by decide) rfl rfl (fun q hq => va_up_ne _ _ hq) (fun q hq i => if_neg hq) (fun f hf j => rfl)) (hS.grow z1 o1) hL (by show cells + 1 + (b.1 - 1) ≤ R.cells; omega) (by show slots + x.toNatClampNeg + (b.2 - x.toNatClampNeg) ≤ R.slots; omega)
        exact e1
      · cases h
    · cases h
theorem ok_newa11 (hw : Cond.arrayClass .int ∈ lw_tbl) (hd : decode cc pc = .ok (.newarray .int, 2)) : zOk mi own cc nL ret ini pc (oNewA 11 (pc + 2)) := by
  refine ⟨fun E b ls st σ => ?_, fun D cy d p l e R s m args below meth c σ0 out Q E hE hC k b ls st σ h hk H locs cells slots lsA hP hM hS hL hc hs => ?_⟩
  · unfold oNewA
    split
    · split
      · exact Or.inr ⟨_, _, _, _, _, fun _ => rfl⟩
      · exact Or.inl ⟨_, fun _ => rfl⟩
    · exact Or.inl ⟨_, fun _ => rfl⟩
  · unfold oNewA at h
    split at h
    · next x st =>
      split at h
      · next hb =>
        obtain ⟨⟨hx0, hx1⟩, hb1, hb2⟩ := hb
        have hT := hC.2.2.2.2.1
        have hxn : x.toNatClampNeg ≤ 65536 := by show x.toInt.toNat ≤ 65536; omega
        refine va_newaK (atype := .int) hC.1 hC.2.1 (hT _ hw rfl _) rfl hd rfl (fun q => by have := Int32.lt_iff_toInt_lt.mp q; simp at this; omega) (N := x.toNatClampNeg) rfl (Nat.le_trans (Nat.mul_le_mul_right _ hxn) (by decide)) (by omega) (by omega) hP.1 fun H1 cA e1 z1 o1 hAr hNm => ?_
        rw [← hP.1] at o1 z1
        have hcA : cA = cy 11 := Option.some.inj (hNm.symm.trans (hC.2.2.2.2.2.1.2 1 _ rfl).2)
        subst hcA
        have hen : zent cy (zna σ 11 x.toNatClampNeg) (znx σ) = .inl (cy 11, x.toNatClampNeg, .inl (fun _ => 0)) := by
          rw [zent_i (c := 11) (show zkd (zna σ 11 x.toNatClampNeg) (znx σ) = 11 from va_up_self _ _ _) (by decide) (by decide)]
          rw [show zln (zna σ 11 x.toNatClampNeg) (znx σ) = x.toNatClampNeg from va_up_self _ _ _, show zai (zna σ 11 x.toNatClampNeg) (znx σ) = fun _ => 0 from funext fun i => if_pos rfl]
        refine hk _ _ _ _ _ h H1 locs (cells + 1) (slots + x.toNatClampNeg) lsA (hP.push (c := 11) (by decide) z1 o1 ?_ rfl rfl rfl (zna_ent hen)) (zSm_new hM (c := 11) (by decide) rfl rfl (fun q hq => va_up_ne _ _ hq) (fun q hq i => if_neg hq) (fun f hf j => rfl)) (hS.grow z1 o1) hL (by show cells + 1 + (b.1 - 1) ≤ R.cells; omega) (by show slots + x.toNatClampNeg + (b.2 - x.toNatClampNeg) ≤ R.slots; omega)
        exact e1
      · cases h
    · cases h
theorem ok_newa13 {index : Nat} (hw : Cond.classLink own index RX0 ∈ lw_tbl) (hw2 : Cond.arrayOver (.object RX0) ∈ lw_tbl) (hd : decode cc pc = .ok (.anewarray index, 3)) : zOk mi own cc nL ret ini pc (oNewA 13 (pc + 3)) := by
  refine ⟨fun E b ls st σ => ?_, fun D cy d p l e R s m args below meth c σ0 out Q E hE hC k b ls st σ h hk H locs cells slots lsA hP hM hS hL hc hs => ?_⟩
  · unfold oNewA
    split
    · split
      · exact Or.inr ⟨_, _, _, _, _, fun _ => rfl⟩
      · exact Or.inl ⟨_, fun _ => rfl⟩
    · exact Or.inl ⟨_, fun _ => rfl⟩
  · unfold oNewA at h
    split at h
    · next x st =>
      split at h
      · next hb =>
        obtain ⟨⟨hx0, hx1⟩, hb1, hb2⟩ := hb
        have hT := hC.2.2.2.2.1
        have hxn : x.toNatClampNeg ≤ 65536 := by show x.toInt.toNat ≤ 65536; omega
        refine W.anew hC.1 hC.2.1 hC.2.2.2.1 (hT _ hw rfl _) (hT _ hw2 rfl _) rfl hd rfl (fun q => by have := Int32.lt_iff_toInt_lt.mp q; simp at this; omega) (Nat.le_trans (Nat.mul_le_mul_right _ hxn) (by decide)) (by omega) (by omega) fun cA kA comp f1 f2 f3 f4 => ?_
        generalize hH1 : H.push ({ cls := cA, slots := Array.replicate x.toNatClampNeg .null, vm := .none } : Cell) = H1
        have z1 : H1.size = H.size + 1 := by rw [← hH1, Array.size_push]
        have e1 : H1[H.size]? = some (arrV cA x.toNatClampNeg (fun _ => .null)) := by rw [← hH1, Array.getElem?_push_size, ← arrV_new]
        have o1 : ∀ q : Nat, q < H.size → H1[q]? = H[q]? := fun q hq => by rw [← hH1, Array.getElem?_push, if_neg (Nat.ne_of_lt hq)]
        obtain ⟨kA', comp', g1, g2, g3, g4⟩ := (hC.2.2.2.2.2.1.2 2 _ rfl).2
        have hcA : cA = cy 13 := Option.some.inj (f1.symm.trans g4)
        subst hcA
        rw [hP.1] at e1
        have hen : zent cy (zna σ 13 x.toNatClampNeg) (znx σ) = .inl (cy 13, x.toNatClampNeg, .inr (.inr (.inr (.inr (fun _ => none))))) := by
          rw [zent_q (c := 13) (show zkd (zna σ 13 x.toNatClampNeg) (znx σ) = 13 from va_up_self _ _ _) (by decide)]
          rw [show zln (zna σ 13 x.toNatClampNeg) (znx σ) = x.toNatClampNeg from va_up_self _ _ _, show zar (zna σ 13 x.toNatClampNeg) (znx σ) = fun _ => none from funext fun i => if_pos rfl]
        rw [hP.1]
        refine hk _ _ _ _ _ h H1 locs (cells + 1) (slots + x.toNatClampNeg) lsA (hP.push (c := 13) (by decide) z1 o1 ?_ rfl rfl rfl (zna_ent hen)) (zSm_new hM (c := 13) (by decide) rfl rfl (fun q hq => va_up_ne _ _ hq) (fun q hq i => if_neg hq) (fun f hf j => rfl)) (hS.grow z1 o1) hL (by show cells + 1 + (b.1 - 1) ≤ R.cells; omega) (by show slots + x.toNatClampNeg + (b.2 - x.toNatClampNeg) ≤ R.slots; omega)
        exact e1
      · cases h
    · cases h
theorem ok_newa14 {index : Nat} (hw : Cond.classLink own index RX3 ∈ lw_tbl) (hw2 : Cond.arrayOver (.object RX3) ∈ lw_tbl) (hd : decode cc pc = .ok (.anewarray index, 3)) : zOk mi own cc nL ret ini pc (oNewA 14 (pc + 3)) := by
  refine ⟨fun E b ls st σ => ?_, fun D cy d p l e R s m args below meth c σ0 out Q E hE hC k b ls st σ h hk H locs cells slots lsA hP hM hS hL hc hs => ?_⟩
  · unfold oNewA
    split
    · split
      · exact Or.inr ⟨_, _, _, _, _, fun _ => rfl⟩
      · exact Or.inl ⟨_, fun _ => rfl⟩
    · exact Or.inl ⟨_, fun _ => rfl⟩
  · unfold oNewA at h
    split at h
    · next x st =>
      split at h
      · next hb =>
        obtain ⟨⟨hx0, hx1⟩, hb1, hb2⟩ := hb
        have hT := hC.2.2.2.2.1
        have hxn : x.toNatClampNeg ≤ 65536 := by show x.toInt.toNat ≤ 65536; omega
        refine W.anew hC.1 hC.2.1 hC.2.2.2.1 (hT _ hw rfl _) (hT _ hw2 rfl _) rfl hd rfl (fun q => by have := Int32.lt_iff_toInt_lt.mp q; simp at this; omega) (Nat.le_trans (Nat.mul_le_mul_right _ hxn) (by decide)) (by omega) (by omega) fun cA kA comp f1 f2 f3 f4 => ?_
        generalize hH1 : H.push ({ cls := cA, slots := Array.replicate x.toNatClampNeg .null, vm := .none } : Cell) = H1
        have z1 : H1.size = H.size + 1 := by rw [← hH1, Array.size_push]
        have e1 : H1[H.size]? = some (arrV cA x.toNatClampNeg (fun _ => .null)) := by rw [← hH1, Array.getElem?_push_size, ← arrV_new]
        have o1 : ∀ q : Nat, q < H.size → H1[q]? = H[q]? := fun q hq => by rw [← hH1, Array.getElem?_push, if_neg (Nat.ne_of_lt hq)]
        obtain ⟨kA', comp', g1, g2, g3, g4⟩ := (hC.2.2.2.2.2.1.2 3 _ rfl).2
        have hcA : cA = cy 14 := Option.some.inj (f1.symm.trans g4)
        subst hcA
        rw [hP.1] at e1
        have hen : zent cy (zna σ 14 x.toNatClampNeg) (znx σ) = .inl (cy 14, x.toNatClampNeg, .inr (.inr (.inr (.inr (fun _ => none))))) := by
          rw [zent_q (c := 14) (show zkd (zna σ 14 x.toNatClampNeg) (znx σ) = 14 from va_up_self _ _ _) (by decide)]
          rw [show zln (zna σ 14 x.toNatClampNeg) (znx σ) = x.toNatClampNeg from va_up_self _ _ _, show zar (zna σ 14 x.toNatClampNeg) (znx σ) = fun _ => none from funext fun i => if_pos rfl]
        rw [hP.1]
        refine hk _ _ _ _ _ h H1 locs (cells + 1) (slots + x.toNatClampNeg) lsA (hP.push (c := 14) (by decide) z1 o1 ?_ rfl rfl rfl (zna_ent hen)) (zSm_new hM (c := 14) (by decide) rfl rfl (fun q hq => va_up_ne _ _ hq) (fun q hq i => if_neg hq) (fun f hf j => rfl)) (hS.grow z1 o1) hL (by show cells + 1 + (b.1 - 1) ≤ R.cells; omega) (by show slots + x.toNatClampNeg + (b.2 - x.toNatClampNeg) ≤ R.slots; omega)
        exact e1
      · cases h
    · cases h
theorem ok_newa15 {index : Nat} (hw : Cond.classLink own index RX6 ∈ lw_tbl) (hw2 : Cond.arrayOver (.object RX6) ∈ lw_tbl) (hd : decode cc pc = .ok (.anewarray index, 3)) : zOk mi own cc nL ret ini pc (oNewA 15 (pc + 3)) := by
  refine ⟨fun E b ls st σ => ?_, fun D cy d p l e R s m args below meth c σ0 out Q E hE hC k b ls st σ h hk H locs cells slots lsA hP hM hS hL hc hs => ?_⟩
  · unfold oNewA
    split
    · split
      · exact Or.inr ⟨_, _, _, _, _, fun _ => rfl⟩
      · exact Or.inl ⟨_, fun _ => rfl⟩
    · exact Or.inl ⟨_, fun _ => rfl⟩
  · unfold oNewA at h
    split at h
    · next x st =>
      split at h
      · next hb =>
        obtain ⟨⟨hx0, hx1⟩, hb1, hb2⟩ := hb
        have hT := hC.2.2.2.2.1
        have hxn : x.toNatClampNeg ≤ 65536 := by show x.toInt.toNat ≤ 65536; omega
        refine W.anew hC.1 hC.2.1 hC.2.2.2.1 (hT _ hw rfl _) (hT _ hw2 rfl _) rfl hd rfl (fun q => by have := Int32.lt_iff_toInt_lt.mp q; simp at this; omega) (Nat.le_trans (Nat.mul_le_mul_right _ hxn) (by decide)) (by omega) (by omega) fun cA kA comp f1 f2 f3 f4 => ?_
        generalize hH1 : H.push ({ cls := cA, slots := Array.replicate x.toNatClampNeg .null, vm := .none } : Cell) = H1
        have z1 : H1.size = H.size + 1 := by rw [← hH1, Array.size_push]
        have e1 : H1[H.size]? = some (arrV cA x.toNatClampNeg (fun _ => .null)) := by rw [← hH1, Array.getElem?_push_size, ← arrV_new]
        have o1 : ∀ q : Nat, q < H.size → H1[q]? = H[q]? := fun q hq => by rw [← hH1, Array.getElem?_push, if_neg (Nat.ne_of_lt hq)]
        obtain ⟨kA', comp', g1, g2, g3, g4⟩ := (hC.2.2.2.2.2.1.2 4 _ rfl).2
        have hcA : cA = cy 15 := Option.some.inj (f1.symm.trans g4)
        subst hcA
        rw [hP.1] at e1
        have hen : zent cy (zna σ 15 x.toNatClampNeg) (znx σ) = .inl (cy 15, x.toNatClampNeg, .inr (.inr (.inr (.inr (fun _ => none))))) := by
          rw [zent_q (c := 15) (show zkd (zna σ 15 x.toNatClampNeg) (znx σ) = 15 from va_up_self _ _ _) (by decide)]
          rw [show zln (zna σ 15 x.toNatClampNeg) (znx σ) = x.toNatClampNeg from va_up_self _ _ _, show zar (zna σ 15 x.toNatClampNeg) (znx σ) = fun _ => none from funext fun i => if_pos rfl]
        rw [hP.1]
        refine hk _ _ _ _ _ h H1 locs (cells + 1) (slots + x.toNatClampNeg) lsA (hP.push (c := 15) (by decide) z1 o1 ?_ rfl rfl rfl (zna_ent hen)) (zSm_new hM (c := 15) (by decide) rfl rfl (fun q hq => va_up_ne _ _ hq) (fun q hq i => if_neg hq) (fun f hf j => rfl)) (hS.grow z1 o1) hL (by show cells + 1 + (b.1 - 1) ≤ R.cells; omega) (by show slots + x.toNatClampNeg + (b.2 - x.toNatClampNeg) ≤ R.slots; omega)
        exact e1
      · cases h
    · cases h
theorem ok_obj {index : Nat} (hw1 : Cond.methodLink own index Lib.objectInit ∈ lw_tbl) (hw2 : Cond.instanceMethod Lib.objectInit ∈ lw_tbl) (hw3 : Cond.code Lib.objectInit ⟨#[0xb1]⟩ 1 none ∈ lw_tbl) (hd : decode cc pc = .ok (.invokespecial index, 3)) : zOk mi own cc nL ret ini pc (oObj (pc + 3)) := by
  refine ⟨fun E b ls st σ => ?_, fun D cy d p l e R s m args below meth c σ0 out Q E hE hC k b ls st σ h hk H locs cells slots lsA hP hM hS hL hc hs => ?_⟩
  · unfold oObj
    split
    · split
      · exact Or.inr ⟨_, _, _, _, _, fun _ => rfl⟩
      · exact Or.inl ⟨_, fun _ => rfl⟩
    · exact Or.inl ⟨_, fun _ => rfl⟩
  · unfold oObj at h
    split at h
    · split at h
      · next a st h8 =>
        have hT := hC.2.2.2.2.1
        have hR := hC.2.2.2.2.2.2.2.2.1
        exact W.objInit hC.1 hC.2.1 hC.2.2.2.1 (hT _ hw1 rfl _) (hT _ hw2 rfl _) (hT _ hw3 rfl _) rfl (by rw [hC.2.2.1]; exact hL.1) rfl hd (by omega) (by have := zcats h8; have e0 : (F0 m pc lsA (List.map zTo (Sum.inr (Sum.inl (some a)) :: st))).monitorRoom = 0 := rfl; rw [e0]; omega) (hk _ _ _ _ _ h H locs cells slots lsA hP hM hS hL hc hs)
      · cases h
    · cases h
theorem zPc_blind {D : va_G} {cy : Nat → ClassId} {as : List zV} {σ : zS} : FrameBlind (zPc D cy as σ) := by
  intro a U g mk h
  obtain ⟨h1, h2, h3, h4, h5⟩ := h
  exact ⟨h1, zTb.same (s := U) rfl h2, va_K.moved (u := U) (U := U.calling g mk a) (Vm.Alike.refl U.vm) h3, h4.to (U := U.calling g mk a) (State.WarmedH.refl U) (fun _ _ _ => rfl) (zSm.rf σ) (fun _ h => h), h5⟩
theorem zPc_here {D : va_G} {cy : Nat → ClassId} {as : List zV} {σ σ0 : zS} {s : State} {H : Heap} {locs : List Loc} (hT : zTb s) (hK : va_K D vwCl (zTys cy) s) (hX : zExt (zA σ0) s σ0 s.heap) (hP : zPool D cy σ H) (hM : zSm σ0 σ) (hS : va_S (zA σ0) s.heap H locs) :
    ∀ U : State, U.heap = H → s.WarmedH U.vm → zPc D cy as σ ((as.map zTo).toArray) U := by
  intro U hU hW
  refine ⟨rfl, hT.moved hW, va_K.moved hW.alike hK, ?_, by rw [hU]; exact hP⟩
  rw [hU]
  exact hX.to hW hS.2.1 hM (fun q h => zA.mono hM h)
theorem x_after {D : va_G} {cy : Nat → ClassId} {p : Program} {l : Launch} {e : Env} {R : Room} {s : State} {m : MethodId} {args : Array Value} {below : List Frame} {meth : Method} {c : Code} {H : Heap} {locs : List Loc} {cells slots mc ms : Nat} {Q : State → Prop} {lsA : Array Slot} {st0 rest : List Value} {σ σ0 : zS} {o : Option zV × zS} {a : Array Value}
    (hr : va_Run p l e R s m args below meth c H locs cells slots mc ms (F0 m pc lsA st0) rest (zQc D cy σ o a) (zA σ)) (hM : zSm σ0 σ) (hS : va_S (zA σ0) s.heap H locs)
    (kk : ∀ (H1 : Heap) (locs1 : List Loc), zPool D cy o.2 H1 → zSm σ0 o.2 → va_S (zA σ0) s.heap H1 locs1 → W p l e R s m args below meth c H1 locs1 (cells + mc) (slots + ms) Q (F0 m (pc + 3) lsA ((o.1.map zTo).toList ++ rest))) : W p l e R s m args below meth c H locs cells slots Q (F0 m pc lsA st0) := by
  intro T hT X
  obtain ⟨v, st₀, t, T', L, h0, X', hL, e1, e2, ⟨hv, hp, hm, hz, hk⟩, stp⟩ := hr T hT X
  cases hv
  rw [h0] at hz hk
  obtain ⟨t2, a1, b1⟩ := kk T'.heap (locs ++ L) (by rw [e1]; exact hp) (hM.tr hm) ⟨Nat.le_trans hS.1 (by rw [e1]; exact hz), fun q h1 h2 => by
      rw [e1, hk q (Nat.lt_of_lt_of_le h1 hS.1) (fun z => h2 (zA.mono hM z))]
      exact hS.2.1 q h1 h2, fun q hq => by
      rcases List.mem_append.mp hq with h | h
      · exact hS.2.2 q h
      · exact zA.mono hM (hL q h)⟩ T' rfl X'
  exact ⟨t2, stp t2 a1, b1⟩
theorem zfit_of {b q : Nat × Nat} (h : zfit b q = true) : q.1 ≤ b.1 ∧ q.2 ≤ b.2 := by
  unfold zfit at h
  rw [Bool.and_eq_true] at h
  exact ⟨Nat.le_of_ble_eq_true h.1, Nat.le_of_ble_eq_true h.2⟩
theorem zgd_some {c : Bool} {x : zO} {o : Option zV × zS} (h : zgd c x = some o) : c = true ∧ x = some o := by
  cases c with
  | true => exact ⟨rfl, h⟩
  | false => cases h
theorem bnI_some {o : zO} {f : Int32 → zS → zO} {r : Option zV × zS} (h : bnI o f = some r) : ∃ x σ, o = some (some (.inl x), σ) ∧ f x σ = some r := by
  unfold bnI at h
  split at h
  · exact ⟨_, _, rfl, h⟩
  · cases h
theorem bnR_some {o : zO} {f : Option Nat → zS → zO} {r : Option zV × zS} (h : bnR o f = some r) : ∃ x σ, o = some (some (.inr (.inl x)), σ) ∧ f x σ = some r := by
  unfold bnR at h
  split at h
  · exact ⟨_, _, rfl, h⟩
  · cases h
theorem bnL_some {o : zO} {f : Int64 → zS → zO} {r : Option zV × zS} (h : bnL o f = some r) : ∃ x σ, o = some (some (.inr (.inr (some x))), σ) ∧ f x σ = some r := by
  unfold bnL at h
  split at h
  · exact ⟨_, _, rfl, h⟩
  · cases h
theorem bnV_some {o : zO} {f : zS → zO} {r : Option zV × zS} (h : bnV o f = some r) : ∃ σ, o = some (none, σ) ∧ f σ = some r := by
  unfold bnV at h
  split at h
  · exact ⟨_, rfl, h⟩
  · cases h
theorem zst_split (st : List zV) (a : Nat) : st.map zTo = ((st.take a).reverse.map zTo).reverse ++ (st.drop a).map zTo := by
  rw [List.map_reverse, List.reverse_reverse, ← List.map_append, List.take_append_drop]
theorem zst_rcv {st : List zV} {a : Nat} {v : zV} (h : st[a]? = some v) : (st.take (a + 1)).reverse = v :: (st.take a).reverse ∧ st.map zTo = ((st.take a).reverse.map zTo).reverse ++ zTo v :: (st.drop (a + 1)).map zTo := by
  have e : st.take (a + 1) = st.take a ++ [v] := by rw [List.take_succ, h]; rfl
  refine ⟨by rw [e, List.reverse_append]; rfl, ?_⟩
  have := zst_split st (a + 1)
  rw [this, e, List.reverse_append]
  simp
def zYok (yn : MethodName) (n : Nat) : Prop := (yn.cls ≠ "java/lang/invoke/MethodHandle" ∧ yn.cls ≠ "java/lang/invoke/VarHandle") ∧ (parseMethodDescriptor yn.desc).map (fun d => d.parameters.length) = some n
theorem zYok.sig {yn : MethodName} {n : Nat} (h : zYok yn n) : ∀ sig, parseMethodDescriptor yn.desc = some sig → n = sig.parameters.length := by
  intro sig hs
  have h2 := h.2
  rw [hs] at h2
  exact (Option.some.inj h2).symm
theorem lin_gd {op : zK → zO} {c : Bool} {g : zK → zO} (h : ∀ k, op k = zgd c (g k)) (hg : (∃ c, ∀ k, g k = c) ∨ ∃ pc b' ls' st' σ', ∀ k, g k = k pc b' ls' st' σ') : (∃ c, ∀ k, op k = c) ∨ ∃ pc b' ls' st' σ', ∀ k, op k = k pc b' ls' st' σ' := by
  cases c with
  | false => exact Or.inl ⟨none, fun k => by rw [h k]; rfl⟩
  | true =>
    rcases hg with ⟨c, hc⟩ | ⟨pc, b', ls', st', σ', hc⟩
    · exact Or.inl ⟨c, fun k => by rw [h k]; exact hc k⟩
    · exact Or.inr ⟨pc, b', ls', st', σ', fun k => by rw [h k]; exact hc k⟩
theorem lin_caI {y a n : Nat} {q : Nat × Nat} : zLin (oCaI y a q n) := by
  intro E b ls st σ
  refine lin_gd (fun _ => rfl) ?_
  generalize E y (st.take a).reverse σ = o
  rcases o with _ | ⟨_ | x | x | x | x, σ'⟩
  · exact Or.inl ⟨_, fun _ => rfl⟩
  · exact Or.inl ⟨_, fun _ => rfl⟩
  · exact Or.inr ⟨_, _, _, _, _, fun _ => rfl⟩
  · exact Or.inl ⟨_, fun _ => rfl⟩
  · exact Or.inl ⟨_, fun _ => rfl⟩
  · exact Or.inl ⟨_, fun _ => rfl⟩
theorem lin_caR {y a n : Nat} {q : Nat × Nat} : zLin (oCaR y a q n) := by
  intro E b ls st σ
  refine lin_gd (fun _ => rfl) ?_
  generalize E y (st.take a).reverse σ = o
  rcases o with _ | ⟨_ | x | x | x | x, σ'⟩
  · exact Or.inl ⟨_, fun _ => rfl⟩
  · exact Or.inl ⟨_, fun _ => rfl⟩
  · exact Or.inl ⟨_, fun _ => rfl⟩
  · exact Or.inr ⟨_, _, _, _, _, fun _ => rfl⟩
  · exact Or.inl ⟨_, fun _ => rfl⟩
  · exact Or.inl ⟨_, fun _ => rfl⟩
theorem lin_caL {y a n : Nat} {q : Nat × Nat} : zLin (oCaL y a q n) := by
  intro E b ls st σ
  refine lin_gd (fun _ => rfl) ?_
  generalize E y (st.take a).reverse σ = o
  rcases o with _ | ⟨_ | x | x | x | x, σ'⟩
  · exact Or.inl ⟨_, fun _ => rfl⟩
  · exact Or.inl ⟨_, fun _ => rfl⟩
  · exact Or.inl ⟨_, fun _ => rfl⟩
  · exact Or.inl ⟨_, fun _ => rfl⟩
  · exact Or.inl ⟨_, fun _ => rfl⟩
  · exact Or.inr ⟨_, _, _, _, _, fun _ => rfl⟩
theorem lin_caV {y a n : Nat} {q : Nat × Nat} : zLin (oCaV y a q n) := by
  intro E b ls st σ
  refine lin_gd (fun _ => rfl) ?_
  generalize E y (st.take a).reverse σ = o
  rcases o with _ | ⟨_ | x | x | x | x, σ'⟩
  · exact Or.inl ⟨_, fun _ => rfl⟩
  · exact Or.inr ⟨_, _, _, _, _, fun _ => rfl⟩
  · exact Or.inl ⟨_, fun _ => rfl⟩
  · exact Or.inl ⟨_, fun _ => rfl⟩
  · exact Or.inl ⟨_, fun _ => rfl⟩
  · exact Or.inl ⟨_, fun _ => rfl⟩
theorem lin_rcv {c a : Nat} {op : zOp} (h : zLin op) : zLin (oRcv c a op) := by
  intro E b ls st σ
  unfold oRcv
  split
  · next o ho =>
    refine lin_onR (fun _ => rfl) fun x => ?_
    by_cases hx : zkd σ x = c
    · rcases h E b ls st σ with ⟨c, hc⟩ | ⟨pc, b', ls', st', σ', hc⟩
      · exact Or.inl ⟨c, fun k => (if_pos hx).trans (hc k)⟩
      · exact Or.inr ⟨pc, b', ls', st', σ', fun k => (if_pos hx).trans (hc k)⟩
    · exact Or.inl ⟨none, fun k => if_neg hx⟩
  · exact Or.inl ⟨_, fun _ => rfl⟩
theorem ok_caSI {y n mc ms index mL : Nat} {yn : MethodName} {cb : ByteArray} {rt : Option FieldType} (hmi : mi y = (yn, cb, mL, rt, mc, ms)) (hy : zYok yn n) (hmL : mL ≤ 20) (hw1 : Cond.methodLink own index yn ∈ lw_tbl) (hw2 : Cond.static yn ∈ lw_tbl) (hw3 : Cond.initialized yn.cls ∈ lw_tbl) (hw4 : Cond.code yn cb mL rt ∈ lw_tbl)
    (hd : decode cc pc = .ok (.invokestatic index, 3)) : zOk mi own cc nL ret ini pc (oCaI y n (mc, ms) (pc + 3)) := by
  refine ⟨lin_caI, fun D cy d p l e R s m args below meth c σ0 out Q E hE hC k b ls st σ h hk H locs cells slots lsA hP hM hS hL hc hs => ?_⟩
  obtain ⟨hg, h⟩ := zgd_some h
  rw [Bool.and_eq_true] at hg
  obtain ⟨hg1, hg2⟩ := hg
  have hf := zfit_of hg1
  dsimp only at hf
  unfold zroom at hg2
  rw [Bool.and_eq_true] at hg2
  obtain ⟨hg3, hg2⟩ := hg2
  obtain ⟨r, σ1, hEy, h⟩ := bnI_some h
  have hMet := hE y _ σ _ hEy
  rw [hmi] at hMet
  dsimp only at hMet
  have hT := hC.2.2.2.2.1
  have hR := hC.2.2.2.2.2.2.2.2.1
  have hcb : ∀ w ∈ [Cond.code yn cb mL rt], ∀ (a' : Array Value) (U : State), s.WarmedH U.vm → w.before a' U = true := fun w hw a' U hW => by
    rw [List.mem_singleton] at hw
    subst hw
    exact hT.moved hW _ hw4 rfl _
  have hlen : ((st.take n).reverse.map zTo).length = n := by
    rw [List.length_map, List.length_reverse, List.length_take]
    exact Nat.min_eq_left (Nat.le_of_ble_eq_true hg3)
  refine x_after (va_runS (As := ((st.take n).reverse.map zTo)) (rest := (st.drop n).map zTo) (g := F0 m pc lsA (st.map zTo)) (cells := cells) (slots := slots) (locs := locs) ⟨hC.1, hC.2.1, hC.2.2.1, hC.2.2.2.1, fun w hw => absurd hw List.not_mem_nil⟩ hMet ⟨⟨rfl, rfl, hR.1, (by show 8 + (mL + 11) + 40 * d ≤ R.locals; omega), hcb, List.mem_singleton.mpr rfl, hT _ hw4 rfl _, hT _ hw3 rfl _, hy.1, hy.sig, hT _ hw1 rfl _⟩, hT _ hw2 rfl _⟩ ⟨zPc_blind, zPc_here hT hC.2.2.2.2.2.1 hC.2.2.2.2.2.2.1 hP hM hS⟩ rfl hlen hL.1 (zst_split st n) (lv_room (zcats (Nat.le_of_ble_eq_true hg2))) hd ⟨by omega, by omega⟩) hM hS fun H1 locs1 hP1 hM1 hS1 => ?_
  exact hk _ _ _ _ _ h H1 locs1 (cells + mc) (slots + ms) lsA hP1 hM1 hS1 hL (by show cells + mc + (b.1 - mc) ≤ R.cells; omega) (by show slots + ms + (b.2 - ms) ≤ R.slots; omega)
theorem ok_caSR {y n mc ms index mL : Nat} {yn : MethodName} {cb : ByteArray} {rt : Option FieldType} (hmi : mi y = (yn, cb, mL, rt, mc, ms)) (hy : zYok yn n) (hmL : mL ≤ 20) (hw1 : Cond.methodLink own index yn ∈ lw_tbl) (hw2 : Cond.static yn ∈ lw_tbl) (hw3 : Cond.initialized yn.cls ∈ lw_tbl) (hw4 : Cond.code yn cb mL rt ∈ lw_tbl)
    (hd : decode cc pc = .ok (.invokestatic index, 3)) : zOk mi own cc nL ret ini pc (oCaR y n (mc, ms) (pc + 3)) := by
  refine ⟨lin_caR, fun D cy d p l e R s m args below meth c σ0 out Q E hE hC k b ls st σ h hk H locs cells slots lsA hP hM hS hL hc hs => ?_⟩
  obtain ⟨hg, h⟩ := zgd_some h
  rw [Bool.and_eq_true] at hg
  obtain ⟨hg1, hg2⟩ := hg
  have hf := zfit_of hg1
  dsimp only at hf
  unfold zroom at hg2
  rw [Bool.and_eq_true] at hg2
  obtain ⟨hg3, hg2⟩ := hg2
  obtain ⟨r, σ1, hEy, h⟩ := bnR_some h
  have hMet := hE y _ σ _ hEy
  rw [hmi] at hMet
  dsimp only at hMet
  have hT := hC.2.2.2.2.1
  have hR := hC.2.2.2.2.2.2.2.2.1
  have hcb : ∀ w ∈ [Cond.code yn cb mL rt], ∀ (a' : Array Value) (U : State), s.WarmedH U.vm → w.before a' U = true := fun w hw a' U hW => by
    rw [List.mem_singleton] at hw
    subst hw
    exact hT.moved hW _ hw4 rfl _
  have hlen : ((st.take n).reverse.map zTo).length = n := by
    rw [List.length_map, List.length_reverse, List.length_take]
    exact Nat.min_eq_left (Nat.le_of_ble_eq_true hg3)
  refine x_after (va_runS (As := ((st.take n).reverse.map zTo)) (rest := (st.drop n).map zTo) (g := F0 m pc lsA (st.map zTo)) (cells := cells) (slots := slots) (locs := locs) ⟨hC.1, hC.2.1, hC.2.2.1, hC.2.2.2.1, fun w hw => absurd hw List.not_mem_nil⟩ hMet ⟨⟨rfl, rfl, hR.1, (by show 8 + (mL + 11) + 40 * d ≤ R.locals; omega), hcb, List.mem_singleton.mpr rfl, hT _ hw4 rfl _, hT _ hw3 rfl _, hy.1, hy.sig, hT _ hw1 rfl _⟩, hT _ hw2 rfl _⟩ ⟨zPc_blind, zPc_here hT hC.2.2.2.2.2.1 hC.2.2.2.2.2.2.1 hP hM hS⟩ rfl hlen hL.1 (zst_split st n) (lv_room (zcats (Nat.le_of_ble_eq_true hg2))) hd ⟨by omega, by omega⟩) hM hS fun H1 locs1 hP1 hM1 hS1 => ?_
  exact hk _ _ _ _ _ h H1 locs1 (cells + mc) (slots + ms) lsA hP1 hM1 hS1 hL (by show cells + mc + (b.1 - mc) ≤ R.cells; omega) (by show slots + ms + (b.2 - ms) ≤ R.slots; omega)
theorem ok_caSL {y n mc ms index mL : Nat} {yn : MethodName} {cb : ByteArray} {rt : Option FieldType} (hmi : mi y = (yn, cb, mL, rt, mc, ms)) (hy : zYok yn n) (hmL : mL ≤ 20) (hw1 : Cond.methodLink own index yn ∈ lw_tbl) (hw2 : Cond.static yn ∈ lw_tbl) (hw3 : Cond.initialized yn.cls ∈ lw_tbl) (hw4 : Cond.code yn cb mL rt ∈ lw_tbl)
    (hd : decode cc pc = .ok (.invokestatic index, 3)) : zOk mi own cc nL ret ini pc (oCaL y n (mc, ms) (pc + 3)) := by
  refine ⟨lin_caL, fun D cy d p l e R s m args below meth c σ0 out Q E hE hC k b ls st σ h hk H locs cells slots lsA hP hM hS hL hc hs => ?_⟩
  obtain ⟨hg, h⟩ := zgd_some h
  rw [Bool.and_eq_true] at hg
  obtain ⟨hg1, hg2⟩ := hg
  have hf := zfit_of hg1
  dsimp only at hf
  unfold zroom at hg2
  rw [Bool.and_eq_true] at hg2
  obtain ⟨hg3, hg2⟩ := hg2
  obtain ⟨r, σ1, hEy, h⟩ := bnL_some h
  have hMet := hE y _ σ _ hEy
  rw [hmi] at hMet
  dsimp only at hMet
  have hT := hC.2.2.2.2.1
  have hR := hC.2.2.2.2.2.2.2.2.1
  have hcb : ∀ w ∈ [Cond.code yn cb mL rt], ∀ (a' : Array Value) (U : State), s.WarmedH U.vm → w.before a' U = true := fun w hw a' U hW => by
    rw [List.mem_singleton] at hw
    subst hw
    exact hT.moved hW _ hw4 rfl _
  have hlen : ((st.take n).reverse.map zTo).length = n := by
    rw [List.length_map, List.length_reverse, List.length_take]
    exact Nat.min_eq_left (Nat.le_of_ble_eq_true hg3)
  refine x_after (va_runS (As := ((st.take n).reverse.map zTo)) (rest := (st.drop n).map zTo) (g := F0 m pc lsA (st.map zTo)) (cells := cells) (slots := slots) (locs := locs) ⟨hC.1, hC.2.1, hC.2.2.1, hC.2.2.2.1, fun w hw => absurd hw List.not_mem_nil⟩ hMet ⟨⟨rfl, rfl, hR.1, (by show 8 + (mL + 11) + 40 * d ≤ R.locals; omega), hcb, List.mem_singleton.mpr rfl, hT _ hw4 rfl _, hT _ hw3 rfl _, hy.1, hy.sig, hT _ hw1 rfl _⟩, hT _ hw2 rfl _⟩ ⟨zPc_blind, zPc_here hT hC.2.2.2.2.2.1 hC.2.2.2.2.2.2.1 hP hM hS⟩ rfl hlen hL.1 (zst_split st n) (lv_room (zcats (Nat.le_of_ble_eq_true hg2))) hd ⟨by omega, by omega⟩) hM hS fun H1 locs1 hP1 hM1 hS1 => ?_
  exact hk _ _ _ _ _ h H1 locs1 (cells + mc) (slots + ms) lsA hP1 hM1 hS1 hL (by show cells + mc + (b.1 - mc) ≤ R.cells; omega) (by show slots + ms + (b.2 - ms) ≤ R.slots; omega)
theorem ok_caSV {y n mc ms index mL : Nat} {yn : MethodName} {cb : ByteArray} {rt : Option FieldType} (hmi : mi y = (yn, cb, mL, rt, mc, ms)) (hy : zYok yn n) (hmL : mL ≤ 20) (hw1 : Cond.methodLink own index yn ∈ lw_tbl) (hw2 : Cond.static yn ∈ lw_tbl) (hw3 : Cond.initialized yn.cls ∈ lw_tbl) (hw4 : Cond.code yn cb mL rt ∈ lw_tbl)
    (hd : decode cc pc = .ok (.invokestatic index, 3)) : zOk mi own cc nL ret ini pc (oCaV y n (mc, ms) (pc + 3)) := by
  refine ⟨lin_caV, fun D cy d p l e R s m args below meth c σ0 out Q E hE hC k b ls st σ h hk H locs cells slots lsA hP hM hS hL hc hs => ?_⟩
  obtain ⟨hg, h⟩ := zgd_some h
  rw [Bool.and_eq_true] at hg
  obtain ⟨hg1, hg2⟩ := hg
  have hf := zfit_of hg1
  dsimp only at hf
  unfold zroom at hg2
  rw [Bool.and_eq_true] at hg2
  obtain ⟨hg3, hg2⟩ := hg2
  obtain ⟨σ1, hEy, h⟩ := bnV_some h
  have hMet := hE y _ σ _ hEy
  rw [hmi] at hMet
  dsimp only at hMet
  have hT := hC.2.2.2.2.1
  have hR := hC.2.2.2.2.2.2.2.2.1
  have hcb : ∀ w ∈ [Cond.code yn cb mL rt], ∀ (a' : Array Value) (U : State), s.WarmedH U.vm → w.before a' U = true := fun w hw a' U hW => by
    rw [List.mem_singleton] at hw
    subst hw
    exact hT.moved hW _ hw4 rfl _
  have hlen : ((st.take n).reverse.map zTo).length = n := by
    rw [List.length_map, List.length_reverse, List.length_take]
    exact Nat.min_eq_left (Nat.le_of_ble_eq_true hg3)
  refine x_after (va_runS (As := ((st.take n).reverse.map zTo)) (rest := (st.drop n).map zTo) (g := F0 m pc lsA (st.map zTo)) (cells := cells) (slots := slots) (locs := locs) ⟨hC.1, hC.2.1, hC.2.2.1, hC.2.2.2.1, fun w hw => absurd hw List.not_mem_nil⟩ hMet ⟨⟨rfl, rfl, hR.1, (by show 8 + (mL + 11) + 40 * d ≤ R.locals; omega), hcb, List.mem_singleton.mpr rfl, hT _ hw4 rfl _, hT _ hw3 rfl _, hy.1, hy.sig, hT _ hw1 rfl _⟩, hT _ hw2 rfl _⟩ ⟨zPc_blind, zPc_here hT hC.2.2.2.2.2.1 hC.2.2.2.2.2.2.1 hP hM hS⟩ rfl hlen hL.1 (zst_split st n) (lv_room (zcats (Nat.le_of_ble_eq_true hg2))) hd ⟨by omega, by omega⟩) hM hS fun H1 locs1 hP1 hM1 hS1 => ?_
  exact hk _ _ _ _ _ h H1 locs1 (cells + mc) (slots + ms) lsA hP1 hM1 hS1 hL (by show cells + mc + (b.1 - mc) ≤ R.cells; omega) (by show slots + ms + (b.2 - ms) ≤ R.slots; omega)
theorem ok_caSNI {y n mc ms index mL : Nat} {yn : MethodName} {cb : ByteArray} {rt : Option FieldType} {host : String} (hmi : mi y = (yn, cb, mL, rt, mc, ms)) (hy : zYok yn n) (hmL : mL ≤ 20) (hw1 : Cond.methodLinkNest own index yn host ∈ lw_tbl) (hw2 : Cond.static yn ∈ lw_tbl) (hw3 : Cond.initialized yn.cls ∈ lw_tbl) (hw4 : Cond.code yn cb mL rt ∈ lw_tbl)
    (hd : decode cc pc = .ok (.invokestatic index, 3)) : zOk mi own cc nL ret ini pc (oCaI y n (mc, ms) (pc + 3)) := by
  refine ⟨lin_caI, fun D cy d p l e R s m args below meth c σ0 out Q E hE hC k b ls st σ h hk H locs cells slots lsA hP hM hS hL hc hs => ?_⟩
  obtain ⟨hg, h⟩ := zgd_some h
  rw [Bool.and_eq_true] at hg
  obtain ⟨hg1, hg2⟩ := hg
  have hf := zfit_of hg1
  dsimp only at hf
  unfold zroom at hg2
  rw [Bool.and_eq_true] at hg2
  obtain ⟨hg3, hg2⟩ := hg2
  obtain ⟨r, σ1, hEy, h⟩ := bnI_some h
  have hMet := hE y _ σ _ hEy
  rw [hmi] at hMet
  dsimp only at hMet
  have hT := hC.2.2.2.2.1
  have hR := hC.2.2.2.2.2.2.2.2.1
  have hcb : ∀ w ∈ [Cond.code yn cb mL rt], ∀ (a' : Array Value) (U : State), s.WarmedH U.vm → w.before a' U = true := fun w hw a' U hW => by
    rw [List.mem_singleton] at hw
    subst hw
    exact hT.moved hW _ hw4 rfl _
  have hlen : ((st.take n).reverse.map zTo).length = n := by
    rw [List.length_map, List.length_reverse, List.length_take]
    exact Nat.min_eq_left (Nat.le_of_ble_eq_true hg3)
  refine x_after (va_runSN (As := ((st.take n).reverse.map zTo)) (rest := (st.drop n).map zTo) (g := F0 m pc lsA (st.map zTo)) (cells := cells) (slots := slots) (locs := locs) ⟨hC.1, hC.2.1, hC.2.2.1, hC.2.2.2.1, fun w hw => absurd hw List.not_mem_nil⟩ hMet ⟨⟨⟨rfl, rfl, hR.1, (by show 8 + (mL + 11) + 40 * d ≤ R.locals; omega), hcb, List.mem_singleton.mpr rfl⟩, hT _ hw4 rfl _, hT _ hw3 rfl _, hy.1, hy.sig, hT _ hw1 rfl _⟩, hT _ hw2 rfl _, trivial⟩ ⟨zPc_blind, zPc_here hT hC.2.2.2.2.2.1 hC.2.2.2.2.2.2.1 hP hM hS⟩ rfl hlen hL.1 (zst_split st n) (lv_room (zcats (Nat.le_of_ble_eq_true hg2))) hd ⟨by omega, by omega⟩) hM hS fun H1 locs1 hP1 hM1 hS1 => ?_
  exact hk _ _ _ _ _ h H1 locs1 (cells + mc) (slots + ms) lsA hP1 hM1 hS1 hL (by show cells + mc + (b.1 - mc) ≤ R.cells; omega) (by show slots + ms + (b.2 - ms) ≤ R.slots; omega)
theorem ok_caSNR {y n mc ms index mL : Nat} {yn : MethodName} {cb : ByteArray} {rt : Option FieldType} {host : String} (hmi : mi y = (yn, cb, mL, rt, mc, ms)) (hy : zYok yn n) (hmL : mL ≤ 20) (hw1 : Cond.methodLinkNest own index yn host ∈ lw_tbl) (hw2 : Cond.static yn ∈ lw_tbl) (hw3 : Cond.initialized yn.cls ∈ lw_tbl) (hw4 : Cond.code yn cb mL rt ∈ lw_tbl)
    (hd : decode cc pc = .ok (.invokestatic index, 3)) : zOk mi own cc nL ret ini pc (oCaR y n (mc, ms) (pc + 3)) := by
  refine ⟨lin_caR, fun D cy d p l e R s m args below meth c σ0 out Q E hE hC k b ls st σ h hk H locs cells slots lsA hP hM hS hL hc hs => ?_⟩
  obtain ⟨hg, h⟩ := zgd_some h
  rw [Bool.and_eq_true] at hg
  obtain ⟨hg1, hg2⟩ := hg
  have hf := zfit_of hg1
  dsimp only at hf
  unfold zroom at hg2
  rw [Bool.and_eq_true] at hg2
  obtain ⟨hg3, hg2⟩ := hg2
  obtain ⟨r, σ1, hEy, h⟩ := bnR_some h
  have hMet := hE y _ σ _ hEy
  rw [hmi] at hMet
  dsimp only at hMet
  have hT := hC.2.2.2.2.1
  have hR := hC.2.2.2.2.2.2.2.2.1
  have hcb : ∀ w ∈ [Cond.code yn cb mL rt], ∀ (a' : Array Value) (U : State), s.WarmedH U.vm → w.before a' U = true := fun w hw a' U hW => by
    rw [List.mem_singleton] at hw
    subst hw
    exact hT.moved hW _ hw4 rfl _
  have hlen : ((st.take n).reverse.map zTo).length = n := by
    rw [List.length_map, List.length_reverse, List.length_take]
    exact Nat.min_eq_left (Nat.le_of_ble_eq_true hg3)
  refine x_after (va_runSN (As := ((st.take n).reverse.map zTo)) (rest := (st.drop n).map zTo) (g := F0 m pc lsA (st.map zTo)) (cells := cells) (slots := slots) (locs := locs) ⟨hC.1, hC.2.1, hC.2.2.1, hC.2.2.2.1, fun w hw => absurd hw List.not_mem_nil⟩ hMet ⟨⟨⟨rfl, rfl, hR.1, (by show 8 + (mL + 11) + 40 * d ≤ R.locals; omega), hcb, List.mem_singleton.mpr rfl⟩, hT _ hw4 rfl _, hT _ hw3 rfl _, hy.1, hy.sig, hT _ hw1 rfl _⟩, hT _ hw2 rfl _, trivial⟩ ⟨zPc_blind, zPc_here hT hC.2.2.2.2.2.1 hC.2.2.2.2.2.2.1 hP hM hS⟩ rfl hlen hL.1 (zst_split st n) (lv_room (zcats (Nat.le_of_ble_eq_true hg2))) hd ⟨by omega, by omega⟩) hM hS fun H1 locs1 hP1 hM1 hS1 => ?_
  exact hk _ _ _ _ _ h H1 locs1 (cells + mc) (slots + ms) lsA hP1 hM1 hS1 hL (by show cells + mc + (b.1 - mc) ≤ R.cells; omega) (by show slots + ms + (b.2 - ms) ≤ R.slots; omega)
theorem ok_caSNV {y n mc ms index mL : Nat} {yn : MethodName} {cb : ByteArray} {rt : Option FieldType} {host : String} (hmi : mi y = (yn, cb, mL, rt, mc, ms)) (hy : zYok yn n) (hmL : mL ≤ 20) (hw1 : Cond.methodLinkNest own index yn host ∈ lw_tbl) (hw2 : Cond.static yn ∈ lw_tbl) (hw3 : Cond.initialized yn.cls ∈ lw_tbl) (hw4 : Cond.code yn cb mL rt ∈ lw_tbl)
    (hd : decode cc pc = .ok (.invokestatic index, 3)) : zOk mi own cc nL ret ini pc (oCaV y n (mc, ms) (pc + 3)) := by
  refine ⟨lin_caV, fun D cy d p l e R s m args below meth c σ0 out Q E hE hC k b ls st σ h hk H locs cells slots lsA hP hM hS hL hc hs => ?_⟩
  obtain ⟨hg, h⟩ := zgd_some h
  rw [Bool.and_eq_true] at hg
  obtain ⟨hg1, hg2⟩ := hg
  have hf := zfit_of hg1
  dsimp only at hf
  unfold zroom at hg2
  rw [Bool.and_eq_true] at hg2
  obtain ⟨hg3, hg2⟩ := hg2
  obtain ⟨σ1, hEy, h⟩ := bnV_some h
  have hMet := hE y _ σ _ hEy
  rw [hmi] at hMet
  dsimp only at hMet
  have hT := hC.2.2.2.2.1
  have hR := hC.2.2.2.2.2.2.2.2.1
  have hcb : ∀ w ∈ [Cond.code yn cb mL rt], ∀ (a' : Array Value) (U : State), s.WarmedH U.vm → w.before a' U = true := fun w hw a' U hW => by
    rw [List.mem_singleton] at hw
    subst hw
    exact hT.moved hW _ hw4 rfl _
  have hlen : ((st.take n).reverse.map zTo).length = n := by
    rw [List.length_map, List.length_reverse, List.length_take]
    exact Nat.min_eq_left (Nat.le_of_ble_eq_true hg3)
  refine x_after (va_runSN (As := ((st.take n).reverse.map zTo)) (rest := (st.drop n).map zTo) (g := F0 m pc lsA (st.map zTo)) (cells := cells) (slots := slots) (locs := locs) ⟨hC.1, hC.2.1, hC.2.2.1, hC.2.2.2.1, fun w hw => absurd hw List.not_mem_nil⟩ hMet ⟨⟨⟨rfl, rfl, hR.1, (by show 8 + (mL + 11) + 40 * d ≤ R.locals; omega), hcb, List.mem_singleton.mpr rfl⟩, hT _ hw4 rfl _, hT _ hw3 rfl _, hy.1, hy.sig, hT _ hw1 rfl _⟩, hT _ hw2 rfl _, trivial⟩ ⟨zPc_blind, zPc_here hT hC.2.2.2.2.2.1 hC.2.2.2.2.2.2.1 hP hM hS⟩ rfl hlen hL.1 (zst_split st n) (lv_room (zcats (Nat.le_of_ble_eq_true hg2))) hd ⟨by omega, by omega⟩) hM hS fun H1 locs1 hP1 hM1 hS1 => ?_
  exact hk _ _ _ _ _ h H1 locs1 (cells + mc) (slots + ms) lsA hP1 hM1 hS1 hL (by show cells + mc + (b.1 - mc) ≤ R.cells; omega) (by show slots + ms + (b.2 - ms) ≤ R.slots; omega)
theorem ok_caVI {y n mc ms index mL : Nat} {yn : MethodName} {cb : ByteArray} {rt : Option FieldType} (hmi : mi y = (yn, cb, mL, rt, mc, ms)) (hy : zYok yn n) (hmL : mL ≤ 20) (hw1 : Cond.methodLink own index yn ∈ lw_tbl) (hw2 : Cond.instanceMethod yn ∈ lw_tbl) (hw6 : Cond.selects yn.cls yn yn ∈ lw_tbl) {ci : Nat} {r : vw_C} (hci : vwCl[ci]? = some r) (hrc : r.1 = yn.cls) (hc10 : ci < 10) (hw3 : Cond.initialized yn.cls ∈ lw_tbl) (hw4 : Cond.code yn cb mL rt ∈ lw_tbl)
    (hd : decode cc pc = .ok (.invokevirtual index, 3)) : zOk mi own cc nL ret ini pc (oRcv ci n (oCaI y (n + 1) (mc, ms) (pc + 3))) := by
  refine ⟨lin_rcv lin_caI, fun D cy d p l e R s m args below meth c σ0 out Q E hE hC k b ls st σ h hk H locs cells slots lsA hP hM hS hL hc hs => ?_⟩
  unfold oRcv at h
  split at h
  case h_2 => cases h
  next o ho =>
  obtain ⟨x, rfl, h⟩ := onR_some h
  obtain ⟨hkx, h⟩ := chk_some h
  obtain ⟨hg, h⟩ := zgd_some h
  rw [Bool.and_eq_true] at hg
  obtain ⟨hg1, hg2⟩ := hg
  have hf := zfit_of hg1
  dsimp only at hf
  unfold zroom at hg2
  rw [Bool.and_eq_true] at hg2
  obtain ⟨hg3, hg2⟩ := hg2
  obtain ⟨r, σ1, hEy, h⟩ := bnI_some h
  have hMet := hE y _ σ _ hEy
  rw [hmi] at hMet
  dsimp only at hMet
  have hT := hC.2.2.2.2.1
  have hR := hC.2.2.2.2.2.2.2.2.1
  have hcb : ∀ w ∈ [Cond.code yn cb mL rt], ∀ (a' : Array Value) (U : State), s.WarmedH U.vm → w.before a' U = true := fun w hw a' U hW => by
    rw [List.mem_singleton] at hw
    subst hw
    exact hT.moved hW _ hw4 rfl _
  obtain ⟨es, em⟩ := zst_rcv ho
  rw [es] at hMet
  obtain ⟨q0, hq⟩ := hP.get (a := x) (by rw [hkx]; omega)
  rw [zent_o hkx hc10] at hq
  have hrv := va_recv hC.2.2.2.2.2.1 hP.2.1 hci hq
  rw [hrc] at hrv
  have hlen : ((st.take n).reverse.map zTo).length = n := by
    rw [List.length_map, List.length_reverse, List.length_take]
    exact Nat.min_eq_left (Nat.le_of_lt (List.getElem?_eq_some_iff.mp ho).1)
  refine x_after (va_runV (C := yn.cls) (b := x) (As := ((st.take n).reverse.map zTo)) (rest := (st.drop (n + 1)).map zTo) (g := F0 m pc lsA (st.map zTo)) (cells := cells) (slots := slots) (locs := locs) ⟨hC.1, hC.2.1, hC.2.2.1, hC.2.2.2.1, fun w hw => absurd hw List.not_mem_nil⟩ hMet ⟨⟨rfl, rfl, hR.1, (by show 8 + (mL + 11) + 40 * d ≤ R.locals; omega), hcb, List.mem_singleton.mpr rfl, hT _ hw4 rfl _, hT _ hw3 rfl _, hy.1, hy.sig, hT _ hw1 rfl _⟩, hT _ hw2 rfl _, hT _ hw6 rfl _⟩ ⟨zPc_blind, hrv, zPc_here (as := .inr (.inl (some x)) :: (st.take n).reverse) hT hC.2.2.2.2.2.1 hC.2.2.2.2.2.2.1 hP hM hS⟩ rfl hlen hL.1 em (lv_room (zcats (Nat.le_of_ble_eq_true hg2))) hd ⟨by omega, by omega⟩) hM hS fun H1 locs1 hP1 hM1 hS1 => ?_
  exact hk _ _ _ _ _ h H1 locs1 (cells + mc) (slots + ms) lsA hP1 hM1 hS1 hL (by show cells + mc + (b.1 - mc) ≤ R.cells; omega) (by show slots + ms + (b.2 - ms) ≤ R.slots; omega)
theorem ok_caVR {y n mc ms index mL : Nat} {yn : MethodName} {cb : ByteArray} {rt : Option FieldType} (hmi : mi y = (yn, cb, mL, rt, mc, ms)) (hy : zYok yn n) (hmL : mL ≤ 20) (hw1 : Cond.methodLink own index yn ∈ lw_tbl) (hw2 : Cond.instanceMethod yn ∈ lw_tbl) (hw6 : Cond.selects yn.cls yn yn ∈ lw_tbl) {ci : Nat} {r : vw_C} (hci : vwCl[ci]? = some r) (hrc : r.1 = yn.cls) (hc10 : ci < 10) (hw3 : Cond.initialized yn.cls ∈ lw_tbl) (hw4 : Cond.code yn cb mL rt ∈ lw_tbl)
    (hd : decode cc pc = .ok (.invokevirtual index, 3)) : zOk mi own cc nL ret ini pc (oRcv ci n (oCaR y (n + 1) (mc, ms) (pc + 3))) := by
  refine ⟨lin_rcv lin_caR, fun D cy d p l e R s m args below meth c σ0 out Q E hE hC k b ls st σ h hk H locs cells slots lsA hP hM hS hL hc hs => ?_⟩
  unfold oRcv at h
  split at h
  case h_2 => cases h
  next o ho =>
  obtain ⟨x, rfl, h⟩ := onR_some h
  obtain ⟨hkx, h⟩ := chk_some h
  obtain ⟨hg, h⟩ := zgd_some h
  rw [Bool.and_eq_true] at hg
  obtain ⟨hg1, hg2⟩ := hg
  have hf := zfit_of hg1
  dsimp only at hf
  unfold zroom at hg2
  rw [Bool.and_eq_true] at hg2
  obtain ⟨hg3, hg2⟩ := hg2
  obtain ⟨r, σ1, hEy, h⟩ := bnR_some h
  have hMet := hE y _ σ _ hEy
  rw [hmi] at hMet
  dsimp only at hMet
  have hT := hC.2.2.2.2.1
  have hR := hC.2.2.2.2.2.2.2.2.1
  have hcb : ∀ w ∈ [Cond.code yn cb mL rt], ∀ (a' : Array Value) (U : State), s.WarmedH U.vm → w.before a' U = true := fun w hw a' U hW => by
    rw [List.mem_singleton] at hw
    subst hw
    exact hT.moved hW _ hw4 rfl _
  obtain ⟨es, em⟩ := zst_rcv ho
  rw [es] at hMet
  obtain ⟨q0, hq⟩ := hP.get (a := x) (by rw [hkx]; omega)
  rw [zent_o hkx hc10] at hq
  have hrv := va_recv hC.2.2.2.2.2.1 hP.2.1 hci hq
  rw [hrc] at hrv
  have hlen : ((st.take n).reverse.map zTo).length = n := by
    rw [List.length_map, List.length_reverse, List.length_take]
    exact Nat.min_eq_left (Nat.le_of_lt (List.getElem?_eq_some_iff.mp ho).1)
  refine x_after (va_runV (C := yn.cls) (b := x) (As := ((st.take n).reverse.map zTo)) (rest := (st.drop (n + 1)).map zTo) (g := F0 m pc lsA (st.map zTo)) (cells := cells) (slots := slots) (locs := locs) ⟨hC.1, hC.2.1, hC.2.2.1, hC.2.2.2.1, fun w hw => absurd hw List.not_mem_nil⟩ hMet ⟨⟨rfl, rfl, hR.1, (by show 8 + (mL + 11) + 40 * d ≤ R.locals; omega), hcb, List.mem_singleton.mpr rfl, hT _ hw4 rfl _, hT _ hw3 rfl _, hy.1, hy.sig, hT _ hw1 rfl _⟩, hT _ hw2 rfl _, hT _ hw6 rfl _⟩ ⟨zPc_blind, hrv, zPc_here (as := .inr (.inl (some x)) :: (st.take n).reverse) hT hC.2.2.2.2.2.1 hC.2.2.2.2.2.2.1 hP hM hS⟩ rfl hlen hL.1 em (lv_room (zcats (Nat.le_of_ble_eq_true hg2))) hd ⟨by omega, by omega⟩) hM hS fun H1 locs1 hP1 hM1 hS1 => ?_
  exact hk _ _ _ _ _ h H1 locs1 (cells + mc) (slots + ms) lsA hP1 hM1 hS1 hL (by show cells + mc + (b.1 - mc) ≤ R.cells; omega) (by show slots + ms + (b.2 - ms) ≤ R.slots; omega)
theorem ok_caVV {y n mc ms index mL : Nat} {yn : MethodName} {cb : ByteArray} {rt : Option FieldType} (hmi : mi y = (yn, cb, mL, rt, mc, ms)) (hy : zYok yn n) (hmL : mL ≤ 20) (hw1 : Cond.methodLink own index yn ∈ lw_tbl) (hw2 : Cond.instanceMethod yn ∈ lw_tbl) (hw6 : Cond.selects yn.cls yn yn ∈ lw_tbl) {ci : Nat} {r : vw_C} (hci : vwCl[ci]? = some r) (hrc : r.1 = yn.cls) (hc10 : ci < 10) (hw3 : Cond.initialized yn.cls ∈ lw_tbl) (hw4 : Cond.code yn cb mL rt ∈ lw_tbl)
    (hd : decode cc pc = .ok (.invokevirtual index, 3)) : zOk mi own cc nL ret ini pc (oRcv ci n (oCaV y (n + 1) (mc, ms) (pc + 3))) := by
  refine ⟨lin_rcv lin_caV, fun D cy d p l e R s m args below meth c σ0 out Q E hE hC k b ls st σ h hk H locs cells slots lsA hP hM hS hL hc hs => ?_⟩
  unfold oRcv at h
  split at h
  case h_2 => cases h
  next o ho =>
  obtain ⟨x, rfl, h⟩ := onR_some h
  obtain ⟨hkx, h⟩ := chk_some h
  obtain ⟨hg, h⟩ := zgd_some h
  rw [Bool.and_eq_true] at hg
  obtain ⟨hg1, hg2⟩ := hg
  have hf := zfit_of hg1
  dsimp only at hf
  unfold zroom at hg2
  rw [Bool.and_eq_true] at hg2
  obtain ⟨hg3, hg2⟩ := hg2
  obtain ⟨σ1, hEy, h⟩ := bnV_some h
  have hMet := hE y _ σ _ hEy
  rw [hmi] at hMet
  dsimp only at hMet
  have hT := hC.2.2.2.2.1
  have hR := hC.2.2.2.2.2.2.2.2.1
  have hcb : ∀ w ∈ [Cond.code yn cb mL rt], ∀ (a' : Array Value) (U : State), s.WarmedH U.vm → w.before a' U = true := fun w hw a' U hW => by
    rw [List.mem_singleton] at hw
    subst hw
    exact hT.moved hW _ hw4 rfl _
  obtain ⟨es, em⟩ := zst_rcv ho
  rw [es] at hMet
  obtain ⟨q0, hq⟩ := hP.get (a := x) (by rw [hkx]; omega)
  rw [zent_o hkx hc10] at hq
  have hrv := va_recv hC.2.2.2.2.2.1 hP.2.1 hci hq
  rw [hrc] at hrv
  have hlen : ((st.take n).reverse.map zTo).length = n := by
    rw [List.length_map, List.length_reverse, List.length_take]
    exact Nat.min_eq_left (Nat.le_of_lt (List.getElem?_eq_some_iff.mp ho).1)
  refine x_after (va_runV (C := yn.cls) (b := x) (As := ((st.take n).reverse.map zTo)) (rest := (st.drop (n + 1)).map zTo) (g := F0 m pc lsA (st.map zTo)) (cells := cells) (slots := slots) (locs := locs) ⟨hC.1, hC.2.1, hC.2.2.1, hC.2.2.2.1, fun w hw => absurd hw List.not_mem_nil⟩ hMet ⟨⟨rfl, rfl, hR.1, (by show 8 + (mL + 11) + 40 * d ≤ R.locals; omega), hcb, List.mem_singleton.mpr rfl, hT _ hw4 rfl _, hT _ hw3 rfl _, hy.1, hy.sig, hT _ hw1 rfl _⟩, hT _ hw2 rfl _, hT _ hw6 rfl _⟩ ⟨zPc_blind, hrv, zPc_here (as := .inr (.inl (some x)) :: (st.take n).reverse) hT hC.2.2.2.2.2.1 hC.2.2.2.2.2.2.1 hP hM hS⟩ rfl hlen hL.1 em (lv_room (zcats (Nat.le_of_ble_eq_true hg2))) hd ⟨by omega, by omega⟩) hM hS fun H1 locs1 hP1 hM1 hS1 => ?_
  exact hk _ _ _ _ _ h H1 locs1 (cells + mc) (slots + ms) lsA hP1 hM1 hS1 hL (by show cells + mc + (b.1 - mc) ≤ R.cells; omega) (by show slots + ms + (b.2 - ms) ≤ R.slots; omega)
theorem ok_caVNI {y n mc ms index mL : Nat} {yn : MethodName} {cb : ByteArray} {rt : Option FieldType} {host : String} (hmi : mi y = (yn, cb, mL, rt, mc, ms)) (hy : zYok yn n) (hmL : mL ≤ 20) (hw1 : Cond.methodLinkNest own index yn host ∈ lw_tbl) (hw2 : Cond.instanceMethod yn ∈ lw_tbl) (hw6 : Cond.selects yn.cls yn yn ∈ lw_tbl) {ci : Nat} {r : vw_C} (hci : vwCl[ci]? = some r) (hrc : r.1 = yn.cls) (hc10 : ci < 10) (hw3 : Cond.initialized yn.cls ∈ lw_tbl) (hw4 : Cond.code yn cb mL rt ∈ lw_tbl)
    (hd : decode cc pc = .ok (.invokevirtual index, 3)) : zOk mi own cc nL ret ini pc (oRcv ci n (oCaI y (n + 1) (mc, ms) (pc + 3))) := by
  refine ⟨lin_rcv lin_caI, fun D cy d p l e R s m args below meth c σ0 out Q E hE hC k b ls st σ h hk H locs cells slots lsA hP hM hS hL hc hs => ?_⟩
  unfold oRcv at h
  split at h
  case h_2 => cases h
  next o ho =>
  obtain ⟨x, rfl, h⟩ := onR_some h
  obtain ⟨hkx, h⟩ := chk_some h
  obtain ⟨hg, h⟩ := zgd_some h
  rw [Bool.and_eq_true] at hg
  obtain ⟨hg1, hg2⟩ := hg
  have hf := zfit_of hg1
  dsimp only at hf
  unfold zroom at hg2
  rw [Bool.and_eq_true] at hg2
  obtain ⟨hg3, hg2⟩ := hg2
  obtain ⟨r, σ1, hEy, h⟩ := bnI_some h
  have hMet := hE y _ σ _ hEy
  rw [hmi] at hMet
  dsimp only at hMet
  have hT := hC.2.2.2.2.1
  have hR := hC.2.2.2.2.2.2.2.2.1
  have hcb : ∀ w ∈ [Cond.code yn cb mL rt], ∀ (a' : Array Value) (U : State), s.WarmedH U.vm → w.before a' U = true := fun w hw a' U hW => by
    rw [List.mem_singleton] at hw
    subst hw
    exact hT.moved hW _ hw4 rfl _
  obtain ⟨es, em⟩ := zst_rcv ho
  rw [es] at hMet
  obtain ⟨q0, hq⟩ := hP.get (a := x) (by rw [hkx]; omega)
  rw [zent_o hkx hc10] at hq
  have hrv := va_recv hC.2.2.2.2.2.1 hP.2.1 hci hq
  rw [hrc] at hrv
  have hlen : ((st.take n).reverse.map zTo).length = n := by
    rw [List.length_map, List.length_reverse, List.length_take]
    exact Nat.min_eq_left (Nat.le_of_lt (List.getElem?_eq_some_iff.mp ho).1)
  refine x_after (va_runVN (C := yn.cls) (b := x) (As := ((st.take n).reverse.map zTo)) (rest := (st.drop (n + 1)).map zTo) (g := F0 m pc lsA (st.map zTo)) (cells := cells) (slots := slots) (locs := locs) ⟨hC.1, hC.2.1, hC.2.2.1, hC.2.2.2.1, fun w hw => absurd hw List.not_mem_nil⟩ hMet ⟨⟨⟨rfl, rfl, hR.1, (by show 8 + (mL + 11) + 40 * d ≤ R.locals; omega), hcb, List.mem_singleton.mpr rfl⟩, hT _ hw4 rfl _, hT _ hw3 rfl _, hy.1, hy.sig, hT _ hw1 rfl _⟩, hT _ hw2 rfl _, hT _ hw6 rfl _⟩ ⟨zPc_blind, hrv, zPc_here (as := .inr (.inl (some x)) :: (st.take n).reverse) hT hC.2.2.2.2.2.1 hC.2.2.2.2.2.2.1 hP hM hS⟩ rfl hlen hL.1 em (lv_room (zcats (Nat.le_of_ble_eq_true hg2))) hd ⟨by omega, by omega⟩) hM hS fun H1 locs1 hP1 hM1 hS1 => ?_
  exact hk _ _ _ _ _ h H1 locs1 (cells + mc) (slots + ms) lsA hP1 hM1 hS1 hL (by show cells + mc + (b.1 - mc) ≤ R.cells; omega) (by show slots + ms + (b.2 - ms) ≤ R.slots; omega)
theorem ok_caVNR {y n mc ms index mL : Nat} {yn : MethodName} {cb : ByteArray} {rt : Option FieldType} {host : String} (hmi : mi y = (yn, cb, mL, rt, mc, ms)) (hy : zYok yn n) (hmL : mL ≤ 20) (hw1 : Cond.methodLinkNest own index yn host ∈ lw_tbl) (hw2 : Cond.instanceMethod yn ∈ lw_tbl) (hw6 : Cond.selects yn.cls yn yn ∈ lw_tbl) {ci : Nat} {r : vw_C} (hci : vwCl[ci]? = some r) (hrc : r.1 = yn.cls) (hc10 : ci < 10) (hw3 : Cond.initialized yn.cls ∈ lw_tbl) (hw4 : Cond.code yn cb mL rt ∈ lw_tbl)
    (hd : decode cc pc = .ok (.invokevirtual index, 3)) : zOk mi own cc nL ret ini pc (oRcv ci n (oCaR y (n + 1) (mc, ms) (pc + 3))) := by
  refine ⟨lin_rcv lin_caR, fun D cy d p l e R s m args below meth c σ0 out Q E hE hC k b ls st σ h hk H locs cells slots lsA hP hM hS hL hc hs => ?_⟩
  unfold oRcv at h
  split at h
  case h_2 => cases h
  next o ho =>
  obtain ⟨x, rfl, h⟩ := onR_some h
  obtain ⟨hkx, h⟩ := chk_some h
  obtain ⟨hg, h⟩ := zgd_some h
  rw [Bool.and_eq_true] at hg
  obtain ⟨hg1, hg2⟩ := hg
  have hf := zfit_of hg1
  dsimp only at hf
  unfold zroom at hg2
  rw [Bool.and_eq_true] at hg2
  obtain ⟨hg3, hg2⟩ := hg2
  obtain ⟨r, σ1, hEy, h⟩ := bnR_some h
  have hMet := hE y _ σ _ hEy
  rw [hmi] at hMet
  dsimp only at hMet
  have hT := hC.2.2.2.2.1
  have hR := hC.2.2.2.2.2.2.2.2.1
  have hcb : ∀ w ∈ [Cond.code yn cb mL rt], ∀ (a' : Array Value) (U : State), s.WarmedH U.vm → w.before a' U = true := fun w hw a' U hW => by
    rw [List.mem_singleton] at hw
    subst hw
    exact hT.moved hW _ hw4 rfl _
  obtain ⟨es, em⟩ := zst_rcv ho
  rw [es] at hMet
  obtain ⟨q0, hq⟩ := hP.get (a := x) (by rw [hkx]; omega)
  rw [zent_o hkx hc10] at hq
  have hrv := va_recv hC.2.2.2.2.2.1 hP.2.1 hci hq
  rw [hrc] at hrv
  have hlen : ((st.take n).reverse.map zTo).length = n := by
    rw [List.length_map, List.length_reverse, List.length_take]
    exact Nat.min_eq_left (Nat.le_of_lt (List.getElem?_eq_some_iff.mp ho).1)
  refine x_after (va_runVN (C := yn.cls) (b := x) (As := ((st.take n).reverse.map zTo)) (rest := (st.drop (n + 1)).map zTo) (g := F0 m pc lsA (st.map zTo)) (cells := cells) (slots := slots) (locs := locs) ⟨hC.1, hC.2.1, hC.2.2.1, hC.2.2.2.1, fun w hw => absurd hw List.not_mem_nil⟩ hMet ⟨⟨⟨rfl, rfl, hR.1, (by show 8 + (mL + 11) + 40 * d ≤ R.locals; omega), hcb, List.mem_singleton.mpr rfl⟩, hT _ hw4 rfl _, hT _ hw3 rfl _, hy.1, hy.sig, hT _ hw1 rfl _⟩, hT _ hw2 rfl _, hT _ hw6 rfl _⟩ ⟨zPc_blind, hrv, zPc_here (as := .inr (.inl (some x)) :: (st.take n).reverse) hT hC.2.2.2.2.2.1 hC.2.2.2.2.2.2.1 hP hM hS⟩ rfl hlen hL.1 em (lv_room (zcats (Nat.le_of_ble_eq_true hg2))) hd ⟨by omega, by omega⟩) hM hS fun H1 locs1 hP1 hM1 hS1 => ?_
  exact hk _ _ _ _ _ h H1 locs1 (cells + mc) (slots + ms) lsA hP1 hM1 hS1 hL (by show cells + mc + (b.1 - mc) ≤ R.cells; omega) (by show slots + ms + (b.2 - ms) ≤ R.slots; omega)
theorem ok_caVNV {y n mc ms index mL : Nat} {yn : MethodName} {cb : ByteArray} {rt : Option FieldType} {host : String} (hmi : mi y = (yn, cb, mL, rt, mc, ms)) (hy : zYok yn n) (hmL : mL ≤ 20) (hw1 : Cond.methodLinkNest own index yn host ∈ lw_tbl) (hw2 : Cond.instanceMethod yn ∈ lw_tbl) (hw6 : Cond.selects yn.cls yn yn ∈ lw_tbl) {ci : Nat} {r : vw_C} (hci : vwCl[ci]? = some r) (hrc : r.1 = yn.cls) (hc10 : ci < 10) (hw3 : Cond.initialized yn.cls ∈ lw_tbl) (hw4 : Cond.code yn cb mL rt ∈ lw_tbl)
    (hd : decode cc pc = .ok (.invokevirtual index, 3)) : zOk mi own cc nL ret ini pc (oRcv ci n (oCaV y (n + 1) (mc, ms) (pc + 3))) := by
  refine ⟨lin_rcv lin_caV, fun D cy d p l e R s m args below meth c σ0 out Q E hE hC k b ls st σ h hk H locs cells slots lsA hP hM hS hL hc hs => ?_⟩
  unfold oRcv at h
  split at h
  case h_2 => cases h
  next o ho =>
  obtain ⟨x, rfl, h⟩ := onR_some h
  obtain ⟨hkx, h⟩ := chk_some h
  obtain ⟨hg, h⟩ := zgd_some h
  rw [Bool.and_eq_true] at hg
  obtain ⟨hg1, hg2⟩ := hg
  have hf := zfit_of hg1
  dsimp only at hf
  unfold zroom at hg2
  rw [Bool.and_eq_true] at hg2
  obtain ⟨hg3, hg2⟩ := hg2
  obtain ⟨σ1, hEy, h⟩ := bnV_some h
  have hMet := hE y _ σ _ hEy
  rw [hmi] at hMet
  dsimp only at hMet
  have hT := hC.2.2.2.2.1
  have hR := hC.2.2.2.2.2.2.2.2.1
  have hcb : ∀ w ∈ [Cond.code yn cb mL rt], ∀ (a' : Array Value) (U : State), s.WarmedH U.vm → w.before a' U = true := fun w hw a' U hW => by
    rw [List.mem_singleton] at hw
    subst hw
    exact hT.moved hW _ hw4 rfl _
  obtain ⟨es, em⟩ := zst_rcv ho
  rw [es] at hMet
  obtain ⟨q0, hq⟩ := hP.get (a := x) (by rw [hkx]; omega)
  rw [zent_o hkx hc10] at hq
  have hrv := va_recv hC.2.2.2.2.2.1 hP.2.1 hci hq
  rw [hrc] at hrv
  have hlen : ((st.take n).reverse.map zTo).length = n := by
    rw [List.length_map, List.length_reverse, List.length_take]
    exact Nat.min_eq_left (Nat.le_of_lt (List.getElem?_eq_some_iff.mp ho).1)
  refine x_after (va_runVN (C := yn.cls) (b := x) (As := ((st.take n).reverse.map zTo)) (rest := (st.drop (n + 1)).map zTo) (g := F0 m pc lsA (st.map zTo)) (cells := cells) (slots := slots) (locs := locs) ⟨hC.1, hC.2.1, hC.2.2.1, hC.2.2.2.1, fun w hw => absurd hw List.not_mem_nil⟩ hMet ⟨⟨⟨rfl, rfl, hR.1, (by show 8 + (mL + 11) + 40 * d ≤ R.locals; omega), hcb, List.mem_singleton.mpr rfl⟩, hT _ hw4 rfl _, hT _ hw3 rfl _, hy.1, hy.sig, hT _ hw1 rfl _⟩, hT _ hw2 rfl _, hT _ hw6 rfl _⟩ ⟨zPc_blind, hrv, zPc_here (as := .inr (.inl (some x)) :: (st.take n).reverse) hT hC.2.2.2.2.2.1 hC.2.2.2.2.2.2.1 hP hM hS⟩ rfl hlen hL.1 em (lv_room (zcats (Nat.le_of_ble_eq_true hg2))) hd ⟨by omega, by omega⟩) hM hS fun H1 locs1 hP1 hM1 hS1 => ?_
  exact hk _ _ _ _ _ h H1 locs1 (cells + mc) (slots + ms) lsA hP1 hM1 hS1 hL (by show cells + mc + (b.1 - mc) ≤ R.cells; omega) (by show slots + ms + (b.2 - ms) ≤ R.slots; omega)
theorem ok_caIV {y n mc ms index mL : Nat} {yn : MethodName} {cb : ByteArray} {rt : Option FieldType} (hmi : mi y = (yn, cb, mL, none, mc, ms)) (hy : zYok yn n) (hmL : mL ≤ 20) (hw1 : Cond.methodLink own index yn ∈ lw_tbl) (hw2 : Cond.instanceMethod yn ∈ lw_tbl) (hy1 : yn.name = "<init>") {ci : Nat} (hw3 : Cond.initialized yn.cls ∈ lw_tbl) (hw4 : Cond.code yn cb mL none ∈ lw_tbl)
    (hd : decode cc pc = .ok (.invokespecial index, 3)) : zOk mi own cc nL ret ini pc (oRcv ci n (oCaV y (n + 1) (mc, ms) (pc + 3))) := by
  refine ⟨lin_rcv lin_caV, fun D cy d p l e R s m args below meth c σ0 out Q E hE hC k b ls st σ h hk H locs cells slots lsA hP hM hS hL hc hs => ?_⟩
  unfold oRcv at h
  split at h
  case h_2 => cases h
  next o ho =>
  obtain ⟨x, rfl, h⟩ := onR_some h
  obtain ⟨hkx, h⟩ := chk_some h
  obtain ⟨hg, h⟩ := zgd_some h
  rw [Bool.and_eq_true] at hg
  obtain ⟨hg1, hg2⟩ := hg
  have hf := zfit_of hg1
  dsimp only at hf
  unfold zroom at hg2
  rw [Bool.and_eq_true] at hg2
  obtain ⟨hg3, hg2⟩ := hg2
  obtain ⟨σ1, hEy, h⟩ := bnV_some h
  have hMet := hE y _ σ _ hEy
  rw [hmi] at hMet
  dsimp only at hMet
  have hT := hC.2.2.2.2.1
  have hR := hC.2.2.2.2.2.2.2.2.1
  have hcb : ∀ w ∈ [Cond.code yn cb mL none], ∀ (a' : Array Value) (U : State), s.WarmedH U.vm → w.before a' U = true := fun w hw a' U hW => by
    rw [List.mem_singleton] at hw
    subst hw
    exact hT.moved hW _ hw4 rfl _
  obtain ⟨es, em⟩ := zst_rcv ho
  rw [es] at hMet
  have hlen : ((st.take n).reverse.map zTo).length = n := by
    rw [List.length_map, List.length_reverse, List.length_take]
    exact Nat.min_eq_left (Nat.le_of_lt (List.getElem?_eq_some_iff.mp ho).1)
  refine x_after (va_runI (b := x) (As := ((st.take n).reverse.map zTo)) (rest := (st.drop (n + 1)).map zTo) (g := F0 m pc lsA (st.map zTo)) (cells := cells) (slots := slots) (locs := locs) ⟨hC.1, hC.2.1, hC.2.2.1, hC.2.2.2.1, fun w hw => absurd hw List.not_mem_nil⟩ hMet ⟨⟨rfl, rfl, hR.1, (by show 8 + (mL + 11) + 40 * d ≤ R.locals; omega), hcb, List.mem_singleton.mpr rfl, hT _ hw4 rfl _, hT _ hw3 rfl _, hy.1, hy.sig, hT _ hw1 rfl _⟩, hy1, hT _ hw2 rfl _⟩ ⟨zPc_blind, zPc_here (as := .inr (.inl (some x)) :: (st.take n).reverse) hT hC.2.2.2.2.2.1 hC.2.2.2.2.2.2.1 hP hM hS⟩ rfl hlen hL.1 em (lv_room (zcats (Nat.le_of_ble_eq_true hg2))) hd ⟨by omega, by omega⟩) hM hS fun H1 locs1 hP1 hM1 hS1 => ?_
  exact hk _ _ _ _ _ h H1 locs1 (cells + mc) (slots + ms) lsA hP1 hM1 hS1 hL (by show cells + mc + (b.1 - mc) ≤ R.cells; omega) (by show slots + ms + (b.2 - ms) ≤ R.slots; omega)
theorem ok_caINV {y n mc ms index mL : Nat} {yn : MethodName} {cb : ByteArray} {rt : Option FieldType} {host : String} (hmi : mi y = (yn, cb, mL, none, mc, ms)) (hy : zYok yn n) (hmL : mL ≤ 20) (hw1 : Cond.methodLinkNest own index yn host ∈ lw_tbl) (hw2 : Cond.instanceMethod yn ∈ lw_tbl) (hy1 : yn.name = "<init>") {ci : Nat} (hw3 : Cond.initialized yn.cls ∈ lw_tbl) (hw4 : Cond.code yn cb mL none ∈ lw_tbl)
    (hd : decode cc pc = .ok (.invokespecial index, 3)) : zOk mi own cc nL ret ini pc (oRcv ci n (oCaV y (n + 1) (mc, ms) (pc + 3))) := by
  refine ⟨lin_rcv lin_caV, fun D cy d p l e R s m args below meth c σ0 out Q E hE hC k b ls st σ h hk H locs cells slots lsA hP hM hS hL hc hs => ?_⟩
  unfold oRcv at h
  split at h
  case h_2 => cases h
  next o ho =>
  obtain ⟨x, rfl, h⟩ := onR_some h
  obtain ⟨hkx, h⟩ := chk_some h
  obtain ⟨hg, h⟩ := zgd_some h
  rw [Bool.and_eq_true] at hg
  obtain ⟨hg1, hg2⟩ := hg
  have hf := zfit_of hg1
  dsimp only at hf
  unfold zroom at hg2
  rw [Bool.and_eq_true] at hg2
  obtain ⟨hg3, hg2⟩ := hg2
  obtain ⟨σ1, hEy, h⟩ := bnV_some h
  have hMet := hE y _ σ _ hEy
  rw [hmi] at hMet
  dsimp only at hMet
  have hT := hC.2.2.2.2.1
  have hR := hC.2.2.2.2.2.2.2.2.1
  have hcb : ∀ w ∈ [Cond.code yn cb mL none], ∀ (a' : Array Value) (U : State), s.WarmedH U.vm → w.before a' U = true := fun w hw a' U hW => by
    rw [List.mem_singleton] at hw
    subst hw
    exact hT.moved hW _ hw4 rfl _
  obtain ⟨es, em⟩ := zst_rcv ho
  rw [es] at hMet
  have hlen : ((st.take n).reverse.map zTo).length = n := by
    rw [List.length_map, List.length_reverse, List.length_take]
    exact Nat.min_eq_left (Nat.le_of_lt (List.getElem?_eq_some_iff.mp ho).1)
  refine x_after (va_runIN (b := x) (As := ((st.take n).reverse.map zTo)) (rest := (st.drop (n + 1)).map zTo) (g := F0 m pc lsA (st.map zTo)) (cells := cells) (slots := slots) (locs := locs) ⟨hC.1, hC.2.1, hC.2.2.1, hC.2.2.2.1, fun w hw => absurd hw List.not_mem_nil⟩ hMet ⟨⟨⟨rfl, rfl, hR.1, (by show 8 + (mL + 11) + 40 * d ≤ R.locals; omega), hcb, List.mem_singleton.mpr rfl⟩, hT _ hw4 rfl _, hT _ hw3 rfl _, hy.1, hy.sig, hT _ hw1 rfl _⟩, hy1, hT _ hw2 rfl _⟩ ⟨zPc_blind, zPc_here (as := .inr (.inl (some x)) :: (st.take n).reverse) hT hC.2.2.2.2.2.1 hC.2.2.2.2.2.2.1 hP hM hS⟩ rfl hlen hL.1 em (lv_room (zcats (Nat.le_of_ble_eq_true hg2))) hd ⟨by omega, by omega⟩) hM hS fun H1 locs1 hP1 hM1 hS1 => ?_
  exact hk _ _ _ _ _ h H1 locs1 (cells + mc) (slots + ms) lsA hP1 hM1 hS1 hL (by show cells + mc + (b.1 - mc) ≤ R.cells; omega) (by show slots + ms + (b.2 - ms) ≤ R.slots; omega)
end CALLS
