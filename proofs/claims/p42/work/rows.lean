section
-- ===== PART A: goes FIRST, ahead of the names: the tables' words, and 'selects' of the private methods out of them =====
/-- a private method of a class that the tables say can be made, by its rows of tables_1 -/
def lw_okq (q : MethodName × Nat) : Prop := (q.1.cls ≠ "java/lang/invoke/MethodHandle" ∧ q.1.cls ≠ "java/lang/invoke/VarHandle") ∧ Cond.instantiable q.1.cls q.2 ∈ tables_1 ∧ Cond.privateMethod q.1 ∈ tables_1 ∧ Cond.instanceMethod q.1 ∈ tables_1
theorem lw_p0 : lw_okq (⟨"AdjustmentStack$History", "discardOldest", "()V"⟩, 2) := ⟨⟨by decide +kernel, by decide +kernel⟩, List.mem_of_getElem? (i := 143) (by decide +kernel), List.mem_of_getElem? (i := 298) (by decide +kernel), List.mem_of_getElem? (i := 299) (by decide +kernel)⟩
theorem lw_p1 : lw_okq (⟨"AdjustmentStack$Composition", "nextLayer", "()LAdjustmentStack$Layer;"⟩, 3) := ⟨⟨by decide +kernel, by decide +kernel⟩, List.mem_of_getElem? (i := 22) (by decide +kernel), List.mem_of_getElem? (i := 330) (by decide +kernel), List.mem_of_getElem? (i := 331) (by decide +kernel)⟩
theorem lw_p2 : lw_okq (⟨"AdjustmentStack$TileCache", "removeSlots", "(II)I"⟩, 9) := ⟨⟨by decide +kernel, by decide +kernel⟩, List.mem_of_getElem? (i := 183) (by decide +kernel), List.mem_of_getElem? (i := 358) (by decide +kernel), List.mem_of_getElem? (i := 359) (by decide +kernel)⟩
theorem lw_p3 : lw_okq (⟨"AdjustmentStack$TileCache", "remove", "(I)I"⟩, 9) := ⟨⟨by decide +kernel, by decide +kernel⟩, List.mem_of_getElem? (i := 183) (by decide +kernel), List.mem_of_getElem? (i := 365) (by decide +kernel), List.mem_of_getElem? (i := 366) (by decide +kernel)⟩
theorem lw_p4 : lw_okq (⟨"AdjustmentStack", "paint", "(IIIII)I"⟩, 9) := ⟨⟨by decide +kernel, by decide +kernel⟩, List.mem_of_getElem? (i := 14) (by decide +kernel), List.mem_of_getElem? (i := 377) (by decide +kernel), List.mem_of_getElem? (i := 378) (by decide +kernel)⟩
theorem lw_p5 : lw_okq (⟨"AdjustmentStack", "removeTilesThatSee", "(IIII)I"⟩, 9) := ⟨⟨by decide +kernel, by decide +kernel⟩, List.mem_of_getElem? (i := 14) (by decide +kernel), List.mem_of_getElem? (i := 382) (by decide +kernel), List.mem_of_getElem? (i := 383) (by decide +kernel)⟩
theorem lw_p6 : lw_okq (⟨"AdjustmentStack", "tileColumns", "()I"⟩, 9) := ⟨⟨by decide +kernel, by decide +kernel⟩, List.mem_of_getElem? (i := 14) (by decide +kernel), List.mem_of_getElem? (i := 429) (by decide +kernel), List.mem_of_getElem? (i := 430) (by decide +kernel)⟩
theorem lw_p7 : lw_okq (⟨"AdjustmentStack", "tileRows", "()I"⟩, 9) := ⟨⟨by decide +kernel, by decide +kernel⟩, List.mem_of_getElem? (i := 14) (by decide +kernel), List.mem_of_getElem? (i := 434) (by decide +kernel), List.mem_of_getElem? (i := 435) (by decide +kernel)⟩
theorem lw_p8 : lw_okq (⟨"AdjustmentStack", "startChangeOf", "(I)V"⟩, 9) := ⟨⟨by decide +kernel, by decide +kernel⟩, List.mem_of_getElem? (i := 14) (by decide +kernel), List.mem_of_getElem? (i := 486) (by decide +kernel), List.mem_of_getElem? (i := 487) (by decide +kernel)⟩
theorem lw_p9 : lw_okq (⟨"AdjustmentStack", "requestTile", "(III)V"⟩, 9) := ⟨⟨by decide +kernel, by decide +kernel⟩, List.mem_of_getElem? (i := 14) (by decide +kernel), List.mem_of_getElem? (i := 516) (by decide +kernel), List.mem_of_getElem? (i := 517) (by decide +kernel)⟩
theorem lw_p10 : lw_okq (⟨"AdjustmentStack$TileCache", "use", "(I)V"⟩, 9) := ⟨⟨by decide +kernel, by decide +kernel⟩, List.mem_of_getElem? (i := 183) (by decide +kernel), List.mem_of_getElem? (i := 532) (by decide +kernel), List.mem_of_getElem? (i := 533) (by decide +kernel)⟩
theorem lw_p11 : lw_okq (⟨"AdjustmentStack", "requestInput", "(IIII)V"⟩, 9) := ⟨⟨by decide +kernel, by decide +kernel⟩, List.mem_of_getElem? (i := 14) (by decide +kernel), List.mem_of_getElem? (i := 536) (by decide +kernel), List.mem_of_getElem? (i := 537) (by decide +kernel)⟩
theorem lw_p12 : lw_okq (⟨"AdjustmentStack", "pictureOf", "(I)LAdjustmentStack$Picture;"⟩, 9) := ⟨⟨by decide +kernel, by decide +kernel⟩, List.mem_of_getElem? (i := 14) (by decide +kernel), List.mem_of_getElem? (i := 544) (by decide +kernel), List.mem_of_getElem? (i := 545) (by decide +kernel)⟩
theorem lw_p13 : lw_okq (⟨"AdjustmentStack$Renderer", "findExtremes", "(LAdjustmentStack$Picture;)V"⟩, 5) := ⟨⟨by decide +kernel, by decide +kernel⟩, List.mem_of_getElem? (i := 225) (by decide +kernel), List.mem_of_getElem? (i := 553) (by decide +kernel), List.mem_of_getElem? (i := 554) (by decide +kernel)⟩
theorem lw_p14 : lw_okq (⟨"AdjustmentStack$Renderer", "adjusted", "(LAdjustmentStack$Layer;LAdjustmentStack$Picture;II)I"⟩, 5) := ⟨⟨by decide +kernel, by decide +kernel⟩, List.mem_of_getElem? (i := 225) (by decide +kernel), List.mem_of_getElem? (i := 560) (by decide +kernel), List.mem_of_getElem? (i := 561) (by decide +kernel)⟩
theorem lw_p15 : lw_okq (⟨"AdjustmentStack$Renderer", "gatherNeighbours", "(LAdjustmentStack$Picture;III)V"⟩, 5) := ⟨⟨by decide +kernel, by decide +kernel⟩, List.mem_of_getElem? (i := 225) (by decide +kernel), List.mem_of_getElem? (i := 565) (by decide +kernel), List.mem_of_getElem? (i := 566) (by decide +kernel)⟩
def lw_privs_1 : List (MethodName × Nat) := [(⟨"AdjustmentStack$History", "discardOldest", "()V"⟩, 2), (⟨"AdjustmentStack$Composition", "nextLayer", "()LAdjustmentStack$Layer;"⟩, 3), (⟨"AdjustmentStack$TileCache", "removeSlots", "(II)I"⟩, 9), (⟨"AdjustmentStack$TileCache", "remove", "(I)I"⟩, 9), (⟨"AdjustmentStack", "paint", "(IIIII)I"⟩, 9), (⟨"AdjustmentStack", "removeTilesThatSee", "(IIII)I"⟩, 9), (⟨"AdjustmentStack", "tileColumns", "()I"⟩, 9), (⟨"AdjustmentStack", "tileRows", "()I"⟩, 9), (⟨"AdjustmentStack", "startChangeOf", "(I)V"⟩, 9), (⟨"AdjustmentStack", "requestTile", "(III)V"⟩, 9), (⟨"AdjustmentStack$TileCache", "use", "(I)V"⟩, 9), (⟨"AdjustmentStack", "requestInput", "(IIII)V"⟩, 9), (⟨"AdjustmentStack", "pictureOf", "(I)LAdjustmentStack$Picture;"⟩, 9), (⟨"AdjustmentStack$Renderer", "findExtremes", "(LAdjustmentStack$Picture;)V"⟩, 5), (⟨"AdjustmentStack$Renderer", "adjusted", "(LAdjustmentStack$Layer;LAdjustmentStack$Picture;II)I"⟩, 5), (⟨"AdjustmentStack$Renderer", "gatherNeighbours", "(LAdjustmentStack$Picture;III)V"⟩, 5)]
theorem lw_r1 : ∀ q ∈ lw_privs_1, lw_okq q := List.forall_mem_cons.mpr ⟨lw_p0, List.forall_mem_cons.mpr ⟨lw_p1, List.forall_mem_cons.mpr ⟨lw_p2, List.forall_mem_cons.mpr ⟨lw_p3, List.forall_mem_cons.mpr ⟨lw_p4, List.forall_mem_cons.mpr ⟨lw_p5, List.forall_mem_cons.mpr ⟨lw_p6, List.forall_mem_cons.mpr ⟨lw_p7, List.forall_mem_cons.mpr ⟨lw_p8, List.forall_mem_cons.mpr ⟨lw_p9, List.forall_mem_cons.mpr ⟨lw_p10, List.forall_mem_cons.mpr ⟨lw_p11, List.forall_mem_cons.mpr ⟨lw_p12, List.forall_mem_cons.mpr ⟨lw_p13, List.forall_mem_cons.mpr ⟨lw_p14, List.forall_mem_cons.mpr ⟨lw_p15, fun _ h => absurd h List.not_mem_nil⟩⟩⟩⟩⟩⟩⟩⟩⟩⟩⟩⟩⟩⟩⟩⟩
theorem lw_p16 : lw_okq (⟨"AdjustmentStack$Renderer", "average", "()I"⟩, 5) := ⟨⟨by decide +kernel, by decide +kernel⟩, List.mem_of_getElem? (i := 225) (by decide +kernel), List.mem_of_getElem? (i := 573) (by decide +kernel), List.mem_of_getElem? (i := 574) (by decide +kernel)⟩
theorem lw_p17 : lw_okq (⟨"AdjustmentStack$Renderer", "median", "()I"⟩, 5) := ⟨⟨by decide +kernel, by decide +kernel⟩, List.mem_of_getElem? (i := 225) (by decide +kernel), List.mem_of_getElem? (i := 577) (by decide +kernel), List.mem_of_getElem? (i := 578) (by decide +kernel)⟩
theorem lw_p18 : lw_okq (⟨"AdjustmentStack$Renderer", "sortNeighbours", "()V"⟩, 5) := ⟨⟨by decide +kernel, by decide +kernel⟩, List.mem_of_getElem? (i := 225) (by decide +kernel), List.mem_of_getElem? (i := 581) (by decide +kernel), List.mem_of_getElem? (i := 582) (by decide +kernel)⟩
theorem lw_p19 : lw_okq (⟨"AdjustmentStack$Renderer", "greatest", "()I"⟩, 5) := ⟨⟨by decide +kernel, by decide +kernel⟩, List.mem_of_getElem? (i := 225) (by decide +kernel), List.mem_of_getElem? (i := 585) (by decide +kernel), List.mem_of_getElem? (i := 586) (by decide +kernel)⟩
theorem lw_p20 : lw_okq (⟨"AdjustmentStack$Renderer", "smallest", "()I"⟩, 5) := ⟨⟨by decide +kernel, by decide +kernel⟩, List.mem_of_getElem? (i := 225) (by decide +kernel), List.mem_of_getElem? (i := 589) (by decide +kernel), List.mem_of_getElem? (i := 590) (by decide +kernel)⟩
theorem lw_p21 : lw_okq (⟨"AdjustmentStack$Mask", "rectangleWeightAt", "(II)I"⟩, 9) := ⟨⟨by decide +kernel, by decide +kernel⟩, List.mem_of_getElem? (i := 56) (by decide +kernel), List.mem_of_getElem? (i := 611) (by decide +kernel), List.mem_of_getElem? (i := 612) (by decide +kernel)⟩
theorem lw_p22 : lw_okq (⟨"AdjustmentStack$Mask", "gradientWeightAt", "(I)I"⟩, 9) := ⟨⟨by decide +kernel, by decide +kernel⟩, List.mem_of_getElem? (i := 56) (by decide +kernel), List.mem_of_getElem? (i := 616) (by decide +kernel), List.mem_of_getElem? (i := 617) (by decide +kernel)⟩
theorem lw_p23 : lw_okq (⟨"AdjustmentStack$Mask", "isDabbed", "(II)Z"⟩, 9) := ⟨⟨by decide +kernel, by decide +kernel⟩, List.mem_of_getElem? (i := 56) (by decide +kernel), List.mem_of_getElem? (i := 620) (by decide +kernel), List.mem_of_getElem? (i := 621) (by decide +kernel)⟩
theorem lw_p24 : lw_okq (⟨"AdjustmentStack", "changeWithout", "(I)I"⟩, 9) := ⟨⟨by decide +kernel, by decide +kernel⟩, List.mem_of_getElem? (i := 14) (by decide +kernel), List.mem_of_getElem? (i := 661) (by decide +kernel), List.mem_of_getElem? (i := 662) (by decide +kernel)⟩
theorem lw_p25 : lw_okq (⟨"AdjustmentStack", "pixelsThatDiffer", "(LAdjustmentStack$Composition;)I"⟩, 9) := ⟨⟨by decide +kernel, by decide +kernel⟩, List.mem_of_getElem? (i := 14) (by decide +kernel), List.mem_of_getElem? (i := 680) (by decide +kernel), List.mem_of_getElem? (i := 681) (by decide +kernel)⟩
theorem lw_p26 : lw_okq (⟨"AdjustmentStack", "hasOutput", "(I)Z"⟩, 9) := ⟨⟨by decide +kernel, by decide +kernel⟩, List.mem_of_getElem? (i := 14) (by decide +kernel), List.mem_of_getElem? (i := 727) (by decide +kernel), List.mem_of_getElem? (i := 728) (by decide +kernel)⟩
def lw_privs_2 : List (MethodName × Nat) := [(⟨"AdjustmentStack$Renderer", "average", "()I"⟩, 5), (⟨"AdjustmentStack$Renderer", "median", "()I"⟩, 5), (⟨"AdjustmentStack$Renderer", "sortNeighbours", "()V"⟩, 5), (⟨"AdjustmentStack$Renderer", "greatest", "()I"⟩, 5), (⟨"AdjustmentStack$Renderer", "smallest", "()I"⟩, 5), (⟨"AdjustmentStack$Mask", "rectangleWeightAt", "(II)I"⟩, 9), (⟨"AdjustmentStack$Mask", "gradientWeightAt", "(I)I"⟩, 9), (⟨"AdjustmentStack$Mask", "isDabbed", "(II)Z"⟩, 9), (⟨"AdjustmentStack", "changeWithout", "(I)I"⟩, 9), (⟨"AdjustmentStack", "pixelsThatDiffer", "(LAdjustmentStack$Composition;)I"⟩, 9), (⟨"AdjustmentStack", "hasOutput", "(I)Z"⟩, 9)]
theorem lw_r2 : ∀ q ∈ lw_privs_2, lw_okq q := List.forall_mem_cons.mpr ⟨lw_p16, List.forall_mem_cons.mpr ⟨lw_p17, List.forall_mem_cons.mpr ⟨lw_p18, List.forall_mem_cons.mpr ⟨lw_p19, List.forall_mem_cons.mpr ⟨lw_p20, List.forall_mem_cons.mpr ⟨lw_p21, List.forall_mem_cons.mpr ⟨lw_p22, List.forall_mem_cons.mpr ⟨lw_p23, List.forall_mem_cons.mpr ⟨lw_p24, List.forall_mem_cons.mpr ⟨lw_p25, List.forall_mem_cons.mpr ⟨lw_p26, fun _ h => absurd h List.not_mem_nil⟩⟩⟩⟩⟩⟩⟩⟩⟩⟩⟩
def lw_privs : List (MethodName × Nat) := lw_privs_1 ++ (lw_privs_2)
def lw_tbl : List Cond := k2_sels lw_privs ++ tables_1
theorem lw_privs_ok : ∀ q ∈ lw_privs, lw_okq q := by
  show ∀ q ∈ lw_privs_1 ++ (lw_privs_2), lw_okq q
  exact List.forall_mem_append.mpr ⟨lw_r1, lw_r2⟩
end
section
def RX0 : String := "AdjustmentStack$Composition"
def TX0 : u_T := fun k => match k with
  | 0 => ("AdjustmentStack$Composition", "base", "LAdjustmentStack$Picture;", true)
  | 1 => ("AdjustmentStack$Composition", "layers", "[LAdjustmentStack$Layer;", true)
  | _ => ("AdjustmentStack$Composition", "count", "I", false)
def tyX0 : Nat → FieldType := fun k => match k with
  | 0 => .object "AdjustmentStack$Picture"
  | 1 => .array (.object "AdjustmentStack$Layer")
  | _ => .int
abbrev wsX00 : List Cond := u_ws RX0 TX0 3
theorem nmX0 : ∀ a, a < 3 → ∀ b, b < 3 → a ≠ b → (TX0 a).2.1 ≠ (TX0 b).2.1 := by decide +kernel
theorem tyX0_ok : ∀ k, k < 3 → parseFieldDescriptor (TX0 k).2.2.1 = some (tyX0 k) := by decide +kernel
abbrev cX0_init : ByteArray := prog_2_method_1_code
def yX0_init : MethodName := ⟨RX0, "<init>", "()V"⟩
abbrev cX0_layerCount : ByteArray := prog_2_method_2_code
def yX0_layerCount : MethodName := ⟨RX0, "layerCount", "()I"⟩
abbrev cX0_isFull : ByteArray := prog_2_method_3_code
def yX0_isFull : MethodName := ⟨RX0, "isFull", "()Z"⟩
abbrev cX0_layerAt : ByteArray := prog_2_method_4_code
def yX0_layerAt : MethodName := ⟨RX0, "layerAt", "(I)LAdjustmentStack$Layer;"⟩
abbrev cX0_enabledCount : ByteArray := prog_2_method_5_code
def yX0_enabledCount : MethodName := ⟨RX0, "enabledCount", "()I"⟩
abbrev cX0_enabledAtMost : ByteArray := prog_2_method_6_code
def yX0_enabledAtMost : MethodName := ⟨RX0, "enabledAtMost", "(I)I"⟩
abbrev cX0_copyFrom : ByteArray := prog_2_method_7_code
def yX0_copyFrom : MethodName := ⟨RX0, "copyFrom", "(LAdjustmentStack$Composition;)V"⟩
abbrev cX0_copyLayersFrom : ByteArray := prog_2_method_8_code
def yX0_copyLayersFrom : MethodName := ⟨RX0, "copyLayersFrom", "(LAdjustmentStack$Composition;)V"⟩
abbrev cX0_removeLayers : ByteArray := prog_2_method_9_code
def yX0_removeLayers : MethodName := ⟨RX0, "removeLayers", "()V"⟩
abbrev cX0_addFresh : ByteArray := prog_2_method_10_code
def yX0_addFresh : MethodName := ⟨RX0, "addFresh", "(III)LAdjustmentStack$Layer;"⟩
abbrev cX0_addCopyAbove : ByteArray := prog_2_method_11_code
def yX0_addCopyAbove : MethodName := ⟨RX0, "addCopyAbove", "(I)V"⟩
abbrev cX0_takeOut : ByteArray := prog_2_method_12_code
def yX0_takeOut : MethodName := ⟨RX0, "takeOut", "(I)V"⟩
abbrev cX0_shift : ByteArray := prog_2_method_13_code
def yX0_shift : MethodName := ⟨RX0, "shift", "(II)V"⟩
abbrev cX0_nextLayer : ByteArray := prog_2_method_14_code
def yX0_nextLayer : MethodName := ⟨RX0, "nextLayer", "()LAdjustmentStack$Layer;"⟩
def RX1 : String := "AdjustmentStack$History"
def TX1 : u_T := fun k => match k with
  | 0 => ("AdjustmentStack$History", "states", "[LAdjustmentStack$Composition;", true)
  | _ => ("AdjustmentStack$History", "count", "I", false)
def tyX1 : Nat → FieldType := fun k => match k with
  | 0 => .array (.object "AdjustmentStack$Composition")
  | _ => .int
abbrev wsX10 : List Cond := u_ws RX1 TX1 2
theorem nmX1 : ∀ a, a < 2 → ∀ b, b < 2 → a ≠ b → (TX1 a).2.1 ≠ (TX1 b).2.1 := by decide +kernel
theorem tyX1_ok : ∀ k, k < 2 → parseFieldDescriptor (TX1 k).2.2.1 = some (tyX1 k) := by decide +kernel
abbrev cX1_init : ByteArray := prog_3_method_1_code
def yX1_init : MethodName := ⟨RX1, "<init>", "()V"⟩
abbrev cX1_push : ByteArray := prog_3_method_2_code
def yX1_push : MethodName := ⟨RX1, "push", "(LAdjustmentStack$Composition;)V"⟩
abbrev cX1_pop : ByteArray := prog_3_method_3_code
def yX1_pop : MethodName := ⟨RX1, "pop", "(LAdjustmentStack$Composition;)V"⟩
abbrev cX1_discardOldest : ByteArray := prog_3_method_4_code
def yX1_discardOldest : MethodName := ⟨RX1, "discardOldest", "()V"⟩
def RX2 : String := "AdjustmentStack$Kinds"
def TX2 : u_T := fun k => match k with
  | _ => ("", "", "", false)
def tyX2 : Nat → FieldType := fun k => match k with
  | _ => .int
abbrev wsX20 : List Cond := u_ws RX2 TX2 0
theorem nmX2 : ∀ a, a < 0 → ∀ b, b < 0 → a ≠ b → (TX2 a).2.1 ≠ (TX2 b).2.1 := by decide +kernel
theorem tyX2_ok : ∀ k, k < 0 → parseFieldDescriptor (TX2 k).2.2.1 = some (tyX2 k) := by decide +kernel
abbrev cX2_allow : ByteArray := prog_4_method_2_code
def yX2_allow : MethodName := ⟨RX2, "allow", "(III)Z"⟩
abbrev cX2_lowestA : ByteArray := prog_4_method_4_code
def yX2_lowestA : MethodName := ⟨RX2, "lowestA", "(I)I"⟩
abbrev cX2_highestA : ByteArray := prog_4_method_5_code
def yX2_highestA : MethodName := ⟨RX2, "highestA", "(I)I"⟩
abbrev cX2_lowestB : ByteArray := prog_4_method_6_code
def yX2_lowestB : MethodName := ⟨RX2, "lowestB", "(II)I"⟩
abbrev cX2_highestB : ByteArray := prog_4_method_7_code
def yX2_highestB : MethodName := ⟨RX2, "highestB", "(I)I"⟩
abbrev cX2_entry : ByteArray := prog_4_method_8_code
def yX2_entry : MethodName := ⟨RX2, "entry", "([II)I"⟩
def RX3 : String := "AdjustmentStack$Layer"
def TX3 : u_T := fun k => match k with
  | 0 => ("AdjustmentStack$Layer", "kind", "I", false)
  | 1 => ("AdjustmentStack$Layer", "a", "I", false)
  | 2 => ("AdjustmentStack$Layer", "b", "I", false)
  | 3 => ("AdjustmentStack$Layer", "mode", "I", false)
  | 4 => ("AdjustmentStack$Layer", "opacity", "I", false)
  | 5 => ("AdjustmentStack$Layer", "enabled", "Z", false)
  | _ => ("AdjustmentStack$Layer", "mask", "LAdjustmentStack$Mask;", true)
def tyX3 : Nat → FieldType := fun k => match k with
  | 0 => .int
  | 1 => .int
  | 2 => .int
  | 3 => .int
  | 4 => .int
  | 5 => .boolean
  | _ => .object "AdjustmentStack$Mask"
abbrev wsX30 : List Cond := u_ws RX3 TX3 7
theorem nmX3 : ∀ a, a < 7 → ∀ b, b < 7 → a ≠ b → (TX3 a).2.1 ≠ (TX3 b).2.1 := by decide +kernel
theorem tyX3_ok : ∀ k, k < 7 → parseFieldDescriptor (TX3 k).2.2.1 = some (tyX3 k) := by decide +kernel
abbrev cX3_init : ByteArray := prog_5_method_1_code
def yX3_init : MethodName := ⟨RX3, "<init>", "()V"⟩
abbrev cX3_startAs : ByteArray := prog_5_method_2_code
def yX3_startAs : MethodName := ⟨RX3, "startAs", "(III)V"⟩
abbrev cX3_copyFrom : ByteArray := prog_5_method_3_code
def yX3_copyFrom : MethodName := ⟨RX3, "copyFrom", "(LAdjustmentStack$Layer;)V"⟩
abbrev cX3_seesNeighbourhood : ByteArray := prog_5_method_4_code
def yX3_seesNeighbourhood : MethodName := ⟨RX3, "seesNeighbourhood", "()Z"⟩
abbrev cX3_reach : ByteArray := prog_5_method_5_code
def yX3_reach : MethodName := ⟨RX3, "reach", "()I"⟩
def RX4 : String := "AdjustmentStack$Mask"
def TX4 : u_T := fun k => match k with
  | 0 => ("AdjustmentStack$Mask", "kind", "I", false)
  | 1 => ("AdjustmentStack$Mask", "c", "I", false)
  | 2 => ("AdjustmentStack$Mask", "d", "I", false)
  | 3 => ("AdjustmentStack$Mask", "e", "I", false)
  | 4 => ("AdjustmentStack$Mask", "f", "I", false)
  | 5 => ("AdjustmentStack$Mask", "feather", "I", false)
  | 6 => ("AdjustmentStack$Mask", "inverted", "Z", false)
  | 7 => ("AdjustmentStack$Mask", "dabCount", "I", false)
  | _ => ("AdjustmentStack$Mask", "dabs", "[I", true)
def tyX4 : Nat → FieldType := fun k => match k with
  | 0 => .int
  | 1 => .int
  | 2 => .int
  | 3 => .int
  | 4 => .int
  | 5 => .int
  | 6 => .boolean
  | 7 => .int
  | _ => .array .int
abbrev wsX40 : List Cond := u_ws RX4 TX4 9
theorem nmX4 : ∀ a, a < 9 → ∀ b, b < 9 → a ≠ b → (TX4 a).2.1 ≠ (TX4 b).2.1 := by decide +kernel
theorem tyX4_ok : ∀ k, k < 9 → parseFieldDescriptor (TX4 k).2.2.1 = some (tyX4 k) := by decide +kernel
abbrev cX4_init : ByteArray := prog_6_method_1_code
def yX4_init : MethodName := ⟨RX4, "<init>", "()V"⟩
abbrev cX4_allows : ByteArray := prog_6_method_2_code
def yX4_allows : MethodName := ⟨RX4, "allows", "(IIIII)Z"⟩
abbrev cX4_define : ByteArray := prog_6_method_3_code
def yX4_define : MethodName := ⟨RX4, "define", "(IIIII)V"⟩
abbrev cX4_startAnew : ByteArray := prog_6_method_4_code
def yX4_startAnew : MethodName := ⟨RX4, "startAnew", "()V"⟩
abbrev cX4_copyFrom : ByteArray := prog_6_method_5_code
def yX4_copyFrom : MethodName := ⟨RX4, "copyFrom", "(LAdjustmentStack$Mask;)V"⟩
abbrev cX4_addDab : ByteArray := prog_6_method_6_code
def yX4_addDab : MethodName := ⟨RX4, "addDab", "(III)V"⟩
abbrev cX4_weightAt : ByteArray := prog_6_method_7_code
def yX4_weightAt : MethodName := ⟨RX4, "weightAt", "(III)I"⟩
abbrev cX4_rectangleWeightAt : ByteArray := prog_6_method_8_code
def yX4_rectangleWeightAt : MethodName := ⟨RX4, "rectangleWeightAt", "(II)I"⟩
abbrev cX4_gradientWeightAt : ByteArray := prog_6_method_9_code
def yX4_gradientWeightAt : MethodName := ⟨RX4, "gradientWeightAt", "(I)I"⟩
abbrev cX4_isDabbed : ByteArray := prog_6_method_10_code
def yX4_isDabbed : MethodName := ⟨RX4, "isDabbed", "(II)Z"⟩
def RX5 : String := "AdjustmentStack$Modes"
def TX5 : u_T := fun k => match k with
  | _ => ("", "", "", false)
def tyX5 : Nat → FieldType := fun k => match k with
  | _ => .int
abbrev wsX50 : List Cond := u_ws RX5 TX5 0
theorem nmX5 : ∀ a, a < 0 → ∀ b, b < 0 → a ≠ b → (TX5 a).2.1 ≠ (TX5 b).2.1 := by decide +kernel
theorem tyX5_ok : ∀ k, k < 0 → parseFieldDescriptor (TX5 k).2.2.1 = some (tyX5 k) := by decide +kernel
abbrev cX5_blended : ByteArray := prog_7_method_2_code
def yX5_blended : MethodName := ⟨RX5, "blended", "(III)I"⟩
def RX6 : String := "AdjustmentStack$Picture"
def TX6 : u_T := fun k => match k with
  | 0 => ("AdjustmentStack$Picture", "values", "[I", true)
  | 1 => ("AdjustmentStack$Picture", "width", "I", false)
  | _ => ("AdjustmentStack$Picture", "height", "I", false)
def tyX6 : Nat → FieldType := fun k => match k with
  | 0 => .array .int
  | 1 => .int
  | _ => .int
abbrev wsX60 : List Cond := u_ws RX6 TX6 3
theorem nmX6 : ∀ a, a < 3 → ∀ b, b < 3 → a ≠ b → (TX6 a).2.1 ≠ (TX6 b).2.1 := by decide +kernel
theorem tyX6_ok : ∀ k, k < 3 → parseFieldDescriptor (TX6 k).2.2.1 = some (tyX6 k) := by decide +kernel
abbrev cX6_init : ByteArray := prog_8_method_1_code
def yX6_init : MethodName := ⟨RX6, "<init>", "()V"⟩
abbrev cX6_startAs : ByteArray := prog_8_method_2_code
def yX6_startAs : MethodName := ⟨RX6, "startAs", "(II)V"⟩
abbrev cX6_contains : ByteArray := prog_8_method_3_code
def yX6_contains : MethodName := ⟨RX6, "contains", "(II)Z"⟩
abbrev cX6_at : ByteArray := prog_8_method_4_code
def yX6_at : MethodName := ⟨RX6, "at", "(II)I"⟩
abbrev cX6_atNearest : ByteArray := prog_8_method_5_code
def yX6_atNearest : MethodName := ⟨RX6, "atNearest", "(II)I"⟩
abbrev cX6_put : ByteArray := prog_8_method_6_code
def yX6_put : MethodName := ⟨RX6, "put", "(III)V"⟩
abbrev cX6_copyFrom : ByteArray := prog_8_method_7_code
def yX6_copyFrom : MethodName := ⟨RX6, "copyFrom", "(LAdjustmentStack$Picture;)V"⟩
abbrev cX6_takeSizeOf : ByteArray := prog_8_method_8_code
def yX6_takeSizeOf : MethodName := ⟨RX6, "takeSizeOf", "(LAdjustmentStack$Picture;)V"⟩
abbrev cX6_hasSizeOf : ByteArray := prog_8_method_9_code
def yX6_hasSizeOf : MethodName := ⟨RX6, "hasSizeOf", "(LAdjustmentStack$Picture;)Z"⟩
abbrev cX6_absoluteDifference : ByteArray := prog_8_method_10_code
def yX6_absoluteDifference : MethodName := ⟨RX6, "absoluteDifference", "(LAdjustmentStack$Picture;)I"⟩
abbrev cX6_differingPixels : ByteArray := prog_8_method_11_code
def yX6_differingPixels : MethodName := ⟨RX6, "differingPixels", "(LAdjustmentStack$Picture;)I"⟩
def RX7 : String := "AdjustmentStack$Renderer"
def TX7 : u_T := fun k => match k with
  | 0 => ("AdjustmentStack$Renderer", "next", "LAdjustmentStack$Picture;", true)
  | 1 => ("AdjustmentStack$Renderer", "neighbours", "[I", true)
  | 2 => ("AdjustmentStack$Renderer", "neighbourCount", "I", false)
  | 3 => ("AdjustmentStack$Renderer", "lowest", "I", false)
  | _ => ("AdjustmentStack$Renderer", "highest", "I", false)
def tyX7 : Nat → FieldType := fun k => match k with
  | 0 => .object "AdjustmentStack$Picture"
  | 1 => .array .int
  | 2 => .int
  | 3 => .int
  | _ => .int
abbrev wsX70 : List Cond := u_ws RX7 TX7 5
theorem nmX7 : ∀ a, a < 5 → ∀ b, b < 5 → a ≠ b → (TX7 a).2.1 ≠ (TX7 b).2.1 := by decide +kernel
theorem tyX7_ok : ∀ k, k < 5 → parseFieldDescriptor (TX7 k).2.2.1 = some (tyX7 k) := by decide +kernel
abbrev cX7_init : ByteArray := prog_9_method_1_code
def yX7_init : MethodName := ⟨RX7, "<init>", "()V"⟩
abbrev cX7_renderStack : ByteArray := prog_9_method_2_code
def yX7_renderStack : MethodName := ⟨RX7, "renderStack", "(LAdjustmentStack$Composition;ILAdjustmentStack$Picture;)V"⟩
abbrev cX7_render : ByteArray := prog_9_method_3_code
def yX7_render : MethodName := ⟨RX7, "render", "(LAdjustmentStack$Layer;LAdjustmentStack$Picture;LAdjustmentStack$Picture;III)V"⟩
abbrev cX7_adjusted : ByteArray := prog_9_method_4_code
def yX7_adjusted : MethodName := ⟨RX7, "adjusted", "(LAdjustmentStack$Layer;LAdjustmentStack$Picture;II)I"⟩
abbrev cX7_findExtremes : ByteArray := prog_9_method_5_code
def yX7_findExtremes : MethodName := ⟨RX7, "findExtremes", "(LAdjustmentStack$Picture;)V"⟩
abbrev cX7_gatherNeighbours : ByteArray := prog_9_method_6_code
def yX7_gatherNeighbours : MethodName := ⟨RX7, "gatherNeighbours", "(LAdjustmentStack$Picture;III)V"⟩
abbrev cX7_average : ByteArray := prog_9_method_7_code
def yX7_average : MethodName := ⟨RX7, "average", "()I"⟩
abbrev cX7_median : ByteArray := prog_9_method_8_code
def yX7_median : MethodName := ⟨RX7, "median", "()I"⟩
abbrev cX7_sortNeighbours : ByteArray := prog_9_method_9_code
def yX7_sortNeighbours : MethodName := ⟨RX7, "sortNeighbours", "()V"⟩
abbrev cX7_greatest : ByteArray := prog_9_method_10_code
def yX7_greatest : MethodName := ⟨RX7, "greatest", "()I"⟩
abbrev cX7_smallest : ByteArray := prog_9_method_11_code
def yX7_smallest : MethodName := ⟨RX7, "smallest", "()I"⟩
def RX8 : String := "AdjustmentStack$TextReader"
def TX8 : u_T := fun k => match k with
  | 0 => ("AdjustmentStack$TextReader", "characters", "[C", true)
  | 1 => ("AdjustmentStack$TextReader", "length", "I", false)
  | 2 => ("AdjustmentStack$TextReader", "token", "I", false)
  | 3 => ("AdjustmentStack$TextReader", "start", "I", false)
  | 4 => ("AdjustmentStack$TextReader", "end", "I", false)
  | 5 => ("AdjustmentStack$TextReader", "number", "I", false)
  | _ => ("AdjustmentStack$TextReader", "failed", "Z", false)
def tyX8 : Nat → FieldType := fun k => match k with
  | 0 => .array .char
  | 1 => .int
  | 2 => .int
  | 3 => .int
  | 4 => .int
  | 5 => .int
  | _ => .boolean
abbrev wsX80 : List Cond := u_ws RX8 TX8 7
theorem nmX8 : ∀ a, a < 7 → ∀ b, b < 7 → a ≠ b → (TX8 a).2.1 ≠ (TX8 b).2.1 := by decide +kernel
theorem tyX8_ok : ∀ k, k < 7 → parseFieldDescriptor (TX8 k).2.2.1 = some (tyX8 k) := by decide +kernel
abbrev cX8_init : ByteArray := prog_10_method_1_code
def yX8_init : MethodName := ⟨RX8, "<init>", "()V"⟩
def RX9 : String := "AdjustmentStack$TileCache"
def TX9 : u_T := fun k => match k with
  | 0 => ("AdjustmentStack$TileCache", "outputs", "[LAdjustmentStack$Picture;", true)
  | 1 => ("AdjustmentStack$TileCache", "lastUses", "[I", true)
  | 2 => ("AdjustmentStack$TileCache", "side", "I", false)
  | 3 => ("AdjustmentStack$TileCache", "limit", "I", false)
  | 4 => ("AdjustmentStack$TileCache", "held", "I", false)
  | 5 => ("AdjustmentStack$TileCache", "moment", "I", false)
  | 6 => ("AdjustmentStack$TileCache", "computed", "I", false)
  | 7 => ("AdjustmentStack$TileCache", "found", "I", false)
  | _ => ("AdjustmentStack$TileCache", "dropped", "I", false)
def tyX9 : Nat → FieldType := fun k => match k with
  | 0 => .array (.object "AdjustmentStack$Picture")
  | 1 => .array .int
  | 2 => .int
  | 3 => .int
  | 4 => .int
  | 5 => .int
  | 6 => .int
  | 7 => .int
  | _ => .int
abbrev wsX90 : List Cond := u_ws RX9 TX9 9
theorem nmX9 : ∀ a, a < 9 → ∀ b, b < 9 → a ≠ b → (TX9 a).2.1 ≠ (TX9 b).2.1 := by decide +kernel
theorem tyX9_ok : ∀ k, k < 9 → parseFieldDescriptor (TX9 k).2.2.1 = some (tyX9 k) := by decide +kernel
abbrev cX9_init : ByteArray := prog_11_method_1_code
def yX9_init : MethodName := ⟨RX9, "<init>", "()V"⟩
abbrev cX9_slotOf : ByteArray := prog_11_method_5_code
def yX9_slotOf : MethodName := ⟨RX9, "slotOf", "(III)I"⟩
abbrev cX9_tileOf : ByteArray := prog_11_method_6_code
def yX9_tileOf : MethodName := ⟨RX9, "tileOf", "(I)I"⟩
abbrev cX9_outputAt : ByteArray := prog_11_method_7_code
def yX9_outputAt : MethodName := ⟨RX9, "outputAt", "(I)LAdjustmentStack$Picture;"⟩
abbrev cX9_holds : ByteArray := prog_11_method_8_code
def yX9_holds : MethodName := ⟨RX9, "holds", "(III)Z"⟩
abbrev cX9_noteFound : ByteArray := prog_11_method_9_code
def yX9_noteFound : MethodName := ⟨RX9, "noteFound", "(III)V"⟩
abbrev cX9_noteComputed : ByteArray := prog_11_method_10_code
def yX9_noteComputed : MethodName := ⟨RX9, "noteComputed", "(III)V"⟩
abbrev cX9_use : ByteArray := prog_11_method_11_code
def yX9_use : MethodName := ⟨RX9, "use", "(I)V"⟩
abbrev cX9_tilesOf : ByteArray := prog_11_method_12_code
def yX9_tilesOf : MethodName := ⟨RX9, "tilesOf", "(I)I"⟩
abbrev cX9_oldestSlot : ByteArray := prog_11_method_13_code
def yX9_oldestSlot : MethodName := ⟨RX9, "oldestSlot", "()I"⟩
abbrev cX9_dropSurplus : ByteArray := prog_11_method_14_code
def yX9_dropSurplus : MethodName := ⟨RX9, "dropSurplus", "()I"⟩
abbrev cX9_removeAll : ByteArray := prog_11_method_15_code
def yX9_removeAll : MethodName := ⟨RX9, "removeAll", "()I"⟩
abbrev cX9_removeFrom : ByteArray := prog_11_method_16_code
def yX9_removeFrom : MethodName := ⟨RX9, "removeFrom", "(I)I"⟩
abbrev cX9_removeTouched : ByteArray := prog_11_method_17_code
def yX9_removeTouched : MethodName := ⟨RX9, "removeTouched", "(IIIII)I"⟩
abbrev cX9_removeLowest : ByteArray := prog_11_method_18_code
def yX9_removeLowest : MethodName := ⟨RX9, "removeLowest", "(I)V"⟩
abbrev cX9_removeSlots : ByteArray := prog_11_method_19_code
def yX9_removeSlots : MethodName := ⟨RX9, "removeSlots", "(II)I"⟩
abbrev cX9_remove : ByteArray := prog_11_method_20_code
def yX9_remove : MethodName := ⟨RX9, "remove", "(I)I"⟩
def RX10 : String := "AdjustmentStack"
def TX10 : u_T := fun k => match k with
  | 0 => ("AdjustmentStack", "stack", "LAdjustmentStack$Composition;", true)
  | 1 => ("AdjustmentStack", "draft", "LAdjustmentStack$Composition;", true)
  | 2 => ("AdjustmentStack", "history", "LAdjustmentStack$History;", true)
  | 3 => ("AdjustmentStack", "snapshots", "[LAdjustmentStack$Composition;", true)
  | 4 => ("AdjustmentStack", "text", "LAdjustmentStack$TextReader;", true)
  | 5 => ("AdjustmentStack", "cache", "LAdjustmentStack$TileCache;", true)
  | 6 => ("AdjustmentStack", "renderer", "LAdjustmentStack$Renderer;", true)
  | 7 => ("AdjustmentStack", "shown", "LAdjustmentStack$Picture;", true)
  | _ => ("AdjustmentStack", "compared", "LAdjustmentStack$Picture;", true)
def tyX10 : Nat → FieldType := fun k => match k with
  | 0 => .object "AdjustmentStack$Composition"
  | 1 => .object "AdjustmentStack$Composition"
  | 2 => .object "AdjustmentStack$History"
  | 3 => .array (.object "AdjustmentStack$Composition")
  | 4 => .object "AdjustmentStack$TextReader"
  | 5 => .object "AdjustmentStack$TileCache"
  | 6 => .object "AdjustmentStack$Renderer"
  | 7 => .object "AdjustmentStack$Picture"
  | _ => .object "AdjustmentStack$Picture"
abbrev wsX100 : List Cond := u_ws RX10 TX10 9
theorem nmX10 : ∀ a, a < 9 → ∀ b, b < 9 → a ≠ b → (TX10 a).2.1 ≠ (TX10 b).2.1 := by decide +kernel
theorem tyX10_ok : ∀ k, k < 9 → parseFieldDescriptor (TX10 k).2.2.1 = some (tyX10 k) := by decide +kernel
abbrev cX10_init : ByteArray := prog_1_method_1_code
def yX10_init : MethodName := ⟨RX10, "<init>", "()V"⟩
abbrev cX10_newImage : ByteArray := prog_1_method_2_code
def yX10_newImage : MethodName := ⟨RX10, "newImage", "(II)I"⟩
abbrev cX10_setPixel : ByteArray := prog_1_method_3_code
def yX10_setPixel : MethodName := ⟨RX10, "setPixel", "(III)I"⟩
abbrev cX10_fillRectangle : ByteArray := prog_1_method_4_code
def yX10_fillRectangle : MethodName := ⟨RX10, "fillRectangle", "(IIIII)I"⟩
abbrev cX10_size : ByteArray := prog_1_method_5_code
def yX10_size : MethodName := ⟨RX10, "size", "(I)I"⟩
abbrev cX10_paint : ByteArray := prog_1_method_6_code
def yX10_paint : MethodName := ⟨RX10, "paint", "(IIIII)I"⟩
abbrev cX10_removeTilesThatSee : ByteArray := prog_1_method_7_code
def yX10_removeTilesThatSee : MethodName := ⟨RX10, "removeTilesThatSee", "(IIII)I"⟩
abbrev cX10_addLayer : ByteArray := prog_1_method_8_code
def yX10_addLayer : MethodName := ⟨RX10, "addLayer", "(III)I"⟩
abbrev cX10_setBlend : ByteArray := prog_1_method_10_code
def yX10_setBlend : MethodName := ⟨RX10, "setBlend", "(III)I"⟩
abbrev cX10_setEnabled : ByteArray := prog_1_method_11_code
def yX10_setEnabled : MethodName := ⟨RX10, "setEnabled", "(II)I"⟩
abbrev cX10_moveLayer : ByteArray := prog_1_method_12_code
def yX10_moveLayer : MethodName := ⟨RX10, "moveLayer", "(II)I"⟩
abbrev cX10_duplicateLayer : ByteArray := prog_1_method_13_code
def yX10_duplicateLayer : MethodName := ⟨RX10, "duplicateLayer", "(I)I"⟩
abbrev cX10_removeLayer : ByteArray := prog_1_method_14_code
def yX10_removeLayer : MethodName := ⟨RX10, "removeLayer", "(I)I"⟩
abbrev cX10_flatten : ByteArray := prog_1_method_15_code
def yX10_flatten : MethodName := ⟨RX10, "flatten", "(I)I"⟩
abbrev cX10_layer : ByteArray := prog_1_method_16_code
def yX10_layer : MethodName := ⟨RX10, "layer", "(II)I"⟩
abbrev cX10_startChangeOf : ByteArray := prog_1_method_17_code
def yX10_startChangeOf : MethodName := ⟨RX10, "startChangeOf", "(I)V"⟩
abbrev cX10_setMask : ByteArray := prog_1_method_18_code
def yX10_setMask : MethodName := ⟨RX10, "setMask", "(IIIIII)I"⟩
abbrev cX10_setFeather : ByteArray := prog_1_method_19_code
def yX10_setFeather : MethodName := ⟨RX10, "setFeather", "(II)I"⟩
abbrev cX10_invertMask : ByteArray := prog_1_method_20_code
def yX10_invertMask : MethodName := ⟨RX10, "invertMask", "(I)I"⟩
abbrev cX10_dab : ByteArray := prog_1_method_21_code
def yX10_dab : MethodName := ⟨RX10, "dab", "(IIII)I"⟩
abbrev cX10_pixel : ByteArray := prog_1_method_26_code
def yX10_pixel : MethodName := ⟨RX10, "pixel", "(III)I"⟩
abbrev cX10_prefetch : ByteArray := prog_1_method_27_code
def yX10_prefetch : MethodName := ⟨RX10, "prefetch", "(I)I"⟩
abbrev cX10_setCacheLimit : ByteArray := prog_1_method_28_code
def yX10_setCacheLimit : MethodName := ⟨RX10, "setCacheLimit", "(I)I"⟩
abbrev cX10_setTileSize : ByteArray := prog_1_method_29_code
def yX10_setTileSize : MethodName := ⟨RX10, "setTileSize", "(I)I"⟩
abbrev cX10_clearCache : ByteArray := prog_1_method_30_code
def yX10_clearCache : MethodName := ⟨RX10, "clearCache", "()I"⟩
abbrev cX10_cachedTiles : ByteArray := prog_1_method_32_code
def yX10_cachedTiles : MethodName := ⟨RX10, "cachedTiles", "(I)I"⟩
abbrev cX10_counter : ByteArray := prog_1_method_33_code
def yX10_counter : MethodName := ⟨RX10, "counter", "(I)I"⟩
abbrev cX10_tileColumns : ByteArray := prog_1_method_35_code
def yX10_tileColumns : MethodName := ⟨RX10, "tileColumns", "()I"⟩
abbrev cX10_tileRows : ByteArray := prog_1_method_36_code
def yX10_tileRows : MethodName := ⟨RX10, "tileRows", "()I"⟩
abbrev cX10_requestTile : ByteArray := prog_1_method_37_code
def yX10_requestTile : MethodName := ⟨RX10, "requestTile", "(III)V"⟩
abbrev cX10_requestInput : ByteArray := prog_1_method_38_code
def yX10_requestInput : MethodName := ⟨RX10, "requestInput", "(IIII)V"⟩
abbrev cX10_pictureOf : ByteArray := prog_1_method_39_code
def yX10_pictureOf : MethodName := ⟨RX10, "pictureOf", "(I)LAdjustmentStack$Picture;"⟩
abbrev cX10_histogram : ByteArray := prog_1_method_40_code
def yX10_histogram : MethodName := ⟨RX10, "histogram", "(III)I"⟩
abbrev cX10_sum : ByteArray := prog_1_method_41_code
def yX10_sum : MethodName := ⟨RX10, "sum", "(I)I"⟩
abbrev cX10_effect : ByteArray := prog_1_method_42_code
def yX10_effect : MethodName := ⟨RX10, "effect", "(I)I"⟩
abbrev cX10_strongestLayer : ByteArray := prog_1_method_43_code
def yX10_strongestLayer : MethodName := ⟨RX10, "strongestLayer", "()I"⟩
abbrev cX10_exchangeDifference : ByteArray := prog_1_method_44_code
def yX10_exchangeDifference : MethodName := ⟨RX10, "exchangeDifference", "(I)I"⟩
abbrev cX10_snapshotDifference : ByteArray := prog_1_method_45_code
def yX10_snapshotDifference : MethodName := ⟨RX10, "snapshotDifference", "(I)I"⟩
abbrev cX10_hasOutput : ByteArray := prog_1_method_46_code
def yX10_hasOutput : MethodName := ⟨RX10, "hasOutput", "(I)Z"⟩
abbrev cX10_changeWithout : ByteArray := prog_1_method_47_code
def yX10_changeWithout : MethodName := ⟨RX10, "changeWithout", "(I)I"⟩
abbrev cX10_pixelsThatDiffer : ByteArray := prog_1_method_48_code
def yX10_pixelsThatDiffer : MethodName := ⟨RX10, "pixelsThatDiffer", "(LAdjustmentStack$Composition;)I"⟩
abbrev cX10_undo : ByteArray := prog_1_method_49_code
def yX10_undo : MethodName := ⟨RX10, "undo", "()I"⟩
abbrev cX10_save : ByteArray := prog_1_method_50_code
def yX10_save : MethodName := ⟨RX10, "save", "(I)I"⟩
abbrev cX10_restore : ByteArray := prog_1_method_51_code
def yX10_restore : MethodName := ⟨RX10, "restore", "(I)I"⟩
abbrev cX10_within : ByteArray := prog_1_method_52_code
def yX10_within : MethodName := ⟨RX10, "within", "(III)Z"⟩
abbrev cX10_clamped : ByteArray := prog_1_method_53_code
def yX10_clamped : MethodName := ⟨RX10, "clamped", "(I)I"⟩
abbrev cX10_divided : ByteArray := prog_1_method_54_code
def yX10_divided : MethodName := ⟨RX10, "divided", "(II)I"⟩
def RX11 : String := "AdjustmentStackModel"
def TX11 : u_T := fun k => match k with
  | _ => ("", "", "", false)
def tyX11 : Nat → FieldType := fun k => match k with
  | _ => .int
abbrev wsX110 : List Cond := u_ws RX11 TX11 0
theorem nmX11 : ∀ a, a < 0 → ∀ b, b < 0 → a ≠ b → (TX11 a).2.1 ≠ (TX11 b).2.1 := by decide +kernel
theorem tyX11_ok : ∀ k, k < 0 → parseFieldDescriptor (TX11 k).2.2.1 = some (tyX11 k) := by decide +kernel
def RJ9 : String := "java/lang/Math"
def TJ9 : u_T := fun k => match k with
  | _ => ("", "", "", false)
def tyJ9 : Nat → FieldType := fun k => match k with
  | _ => .int
abbrev wsJ90 : List Cond := u_ws RJ9 TJ9 0
theorem nmJ9 : ∀ a, a < 0 → ∀ b, b < 0 → a ≠ b → (TJ9 a).2.1 ≠ (TJ9 b).2.1 := by decide +kernel
theorem tyJ9_ok : ∀ k, k < 0 → parseFieldDescriptor (TJ9 k).2.2.1 = some (tyJ9 k) := by decide +kernel
abbrev cJ9_floorDiv_7cf53 : ByteArray := prog_14_method_47_code
def yJ9_floorDiv_7cf53 : MethodName := ⟨RJ9, "floorDiv", "(II)I"⟩
abbrev cJ9_abs_0f7a4 : ByteArray := prog_14_method_59_code
def yJ9_abs_0f7a4 : MethodName := ⟨RJ9, "abs", "(I)I"⟩
abbrev cJ9_max_7cf53 : ByteArray := prog_14_method_65_code
def yJ9_max_7cf53 : MethodName := ⟨RJ9, "max", "(II)I"⟩
abbrev cJ9_min_7cf53 : ByteArray := prog_14_method_69_code
def yJ9_min_7cf53 : MethodName := ⟨RJ9, "min", "(II)I"⟩
def RL : String := "AdjustmentStackLaw"
abbrev cL_more : ByteArray := method_2_code
def yL_more : MethodName := ⟨RL, "more", "(II)I"⟩
abbrev cL_cell : ByteArray := method_3_code
def yL_cell : MethodName := ⟨RL, "cell", "([II)I"⟩
abbrev cL_low : ByteArray := method_4_code
def yL_low : MethodName := ⟨RL, "low", "(II)I"⟩
abbrev cL_digest : ByteArray := method_5_code
def yL_digest : MethodName := ⟨RL, "digest", "(LAdjustmentStack;)J"⟩
abbrev cL_isTold : ByteArray := method_6_code
def yL_isTold : MethodName := ⟨RL, "isTold", "(LAdjustmentStack;I)Z"⟩
abbrev cL_edit : ByteArray := method_7_code
def yL_edit : MethodName := ⟨RL, "edit", "(LAdjustmentStack;I)I"⟩
abbrev cL_law : ByteArray := code
def yL_law : MethodName := ⟨RL, "law", "([I)Z"⟩
abbrev vwCl : List vw_C := [(RX0, TX0, 3), (RX1, TX1, 2), (RX3, TX3, 7), (RX4, TX4, 9), (RX6, TX6, 3), (RX7, TX7, 5), (RX8, TX8, 7), (RX9, TX9, 9), (RX10, TX10, 9)]
end
section
/-! THE SMALL MACHINE: a picture of the cells (fields by number 64 * class + place, and by address; arrays by address and place), one step a function. -/
abbrev zV : Type := Int32 ⊕ (Option Nat ⊕ Option Int64)
def zTo (v : zV) : Value := match v with
  | .inl x => .int x
  | .inr (.inl o) => va_rf o
  | .inr (.inr (some w)) => .long w
  | .inr (.inr none) => .long 0
abbrev zS : Type := (Nat → Nat → Int32) × (Nat → Nat → Option Nat) × (Nat → Nat → Int64) × (Nat → Nat → Int32) × (Nat → Nat → Option Nat) × (Nat → Nat) × (Nat → Nat) × Nat × List Nat
def zi (σ : zS) (f a : Nat) : Int32 := σ.1 f a
def zr (σ : zS) (f a : Nat) : Option Nat := σ.2.1 f a
def zl (σ : zS) (f a : Nat) : Int64 := σ.2.2.1 f a
def zai (σ : zS) (a i : Nat) : Int32 := σ.2.2.2.1 a i
def zar (σ : zS) (a i : Nat) : Option Nat := σ.2.2.2.2.1 a i
def zln (σ : zS) (a : Nat) : Nat := σ.2.2.2.2.2.1 a
def zkd (σ : zS) (a : Nat) : Nat := σ.2.2.2.2.2.2.1 a
def znx (σ : zS) : Nat := σ.2.2.2.2.2.2.2.1
def zdm (σ : zS) : List Nat := σ.2.2.2.2.2.2.2.2
def zu2 {α : Type} (f : Nat → Nat → α) (a b : Nat) (v : α) : Nat → Nat → α := fun x y => if x = a ∧ y = b then v else f x y
def zsi (σ : zS) (f a : Nat) (v : Int32) : zS := (zu2 σ.1 f a v, σ.2)
def zsr (σ : zS) (f a : Nat) (v : Option Nat) : zS := (σ.1, zu2 σ.2.1 f a v, σ.2.2)
def zsl (σ : zS) (f a : Nat) (v : Int64) : zS := (σ.1, σ.2.1, zu2 σ.2.2.1 f a v, σ.2.2.2)
def zsa (σ : zS) (a i : Nat) (v : Int32) : zS := (σ.1, σ.2.1, σ.2.2.1, zu2 σ.2.2.2.1 a i v, σ.2.2.2.2)
def zsq (σ : zS) (a i : Nat) (v : Option Nat) : zS := (σ.1, σ.2.1, σ.2.2.1, σ.2.2.2.1, zu2 σ.2.2.2.2.1 a i v, σ.2.2.2.2.2)
def zno (σ : zS) (c : Nat) : zS := (fun f a => if a = znx σ then 0 else σ.1 f a, fun f a => if a = znx σ ∧ f < 640 then none else σ.2.1 f a, fun f a => if a = znx σ then 0 else σ.2.2.1 f a, σ.2.2.2.1, σ.2.2.2.2.1, σ.2.2.2.2.2.1, va_up σ.2.2.2.2.2.2.1 (znx σ) c, znx σ + 1, zdm σ ++ [znx σ])
def zna (σ : zS) (c n : Nat) : zS := (σ.1, σ.2.1, σ.2.2.1, fun a i => if a = znx σ then 0 else σ.2.2.2.1 a i, fun a i => if a = znx σ then none else σ.2.2.2.2.1 a i, va_up σ.2.2.2.2.2.1 (znx σ) n, va_up σ.2.2.2.2.2.2.1 (znx σ) c, znx σ + 1, zdm σ ++ [znx σ])
abbrev zO : Type := Option (Option zV × zS)
abbrev zE : Type := Nat → List zV → zS → zO
abbrev zK : Type := Nat → Nat × Nat → List zV → List zV → zS → zO
abbrev zOp : Type := zE → zK → Nat × Nat → List zV → List zV → zS → zO
abbrev zB (x : Int32) : Prop := x = 0 ∨ x = 1
abbrev zin (i : Int32) (n : Nat) : Prop := 0 ≤ i.toInt ∧ i.toInt < n
def onR (o : Option Nat) (f : Nat → zO) : zO := match o with
  | some a => f a
  | none => none
def nul (o : Option Nat) (A B : zO) : zO := match o with
  | some _ => B
  | none => A
def chk (c : Prop) [Decidable c] (x : zO) : zO := if c then x else none
def bnI (o : zO) (f : Int32 → zS → zO) : zO := match o with
  | some (some (.inl x), σ) => f x σ
  | _ => none
def bnR (o : zO) (f : Option Nat → zS → zO) : zO := match o with
  | some (some (.inr (.inl r)), σ) => f r σ
  | _ => none
def bnV (o : zO) (f : zS → zO) : zO := match o with
  | some (none, σ) => f σ
  | _ => none
def bnL (o : zO) (f : Int64 → zS → zO) : zO := match o with
  | some (some (.inr (.inr (some w))), σ) => f w σ
  | _ => none
/-- a name for a value -/
def zlt {α : Type} (x : α) (f : α → zO) : zO := f x
def tsel (x : Int32) (f : Nat → zO) (d : zO) : List (Int32 × Nat) → zO
  | [] => d
  | q :: r => if x = q.1 then f q.2 else tsel x f d r
def zcat (v : zV) : Nat := match v with
  | .inr (.inr _) => 2
  | _ => 1
def stk : zOp := fun _ _ _ _ _ _ => none
def oLdI (i n : Nat) : zOp := fun _ k b ls st σ => match ls[i]? with
  | some (.inl x) => k n b ls (.inl x :: st) σ
  | _ => none
def oLdR (i n : Nat) : zOp := fun _ k b ls st σ => match ls[i]? with
  | some (.inr (.inl x)) => k n b ls (.inr (.inl x) :: st) σ
  | _ => none
def oStI (i n : Nat) : zOp := fun _ k b ls st σ => match st with
  | .inl x :: st => zlt x fun v => k n b (ls.set i (.inl v)) st σ
  | _ => none
def oStR (i n : Nat) : zOp := fun _ k b ls st σ => match st with
  | .inr (.inl x) :: st => k n b (ls.set i (.inr (.inl x))) st σ
  | _ => none
/-- a long local: it lies in two places, and is known while nothing has been stored in the second -/
def oLdL (i n : Nat) : zOp := fun _ k b ls st σ => match ls[i]?, ls[i + 1]? with
  | some (.inr (.inr (some w))), some (.inr (.inr none)) => k n b ls (.inr (.inr (some w)) :: st) σ
  | _, _ => none
def oStL (i n : Nat) : zOp := fun _ k b ls st σ => match st with
  | .inr (.inr (some w)) :: st => zlt w fun v => k n b ((ls.set i (.inr (.inr (some v)))).set (i + 1) (.inr (.inr none))) st σ
  | _ => none
def oInc (i : Nat) (w : Int32) (n : Nat) : zOp := fun _ k b ls st σ => match ls[i]? with
  | some (.inl x) => zlt (x + w) fun v => k n b (ls.set i (.inl v)) st σ
  | _ => none
def oCst (v : zV) (n : Nat) : zOp := fun _ k b ls st σ => k n b ls (v :: st) σ
def oBin (f : Int32 → Int32 → Int32) (n : Nat) : zOp := fun _ k b ls st σ => match st with
  | .inl y :: .inl x :: st => k n b ls (.inl (f x y) :: st) σ
  | _ => none
def oDvd (f : Int32 → Int32 → Int32) (n : Nat) : zOp := fun _ k b ls st σ => match st with
  | .inl y :: .inl x :: st => if y = 0 then none else k n b ls (.inl (f x y) :: st) σ
  | _ => none
def oUn (f : Int32 → Int32) (n : Nat) : zOp := fun _ k b ls st σ => match st with
  | .inl x :: st => k n b ls (.inl (f x) :: st) σ
  | _ => none
def oI2l (n : Nat) : zOp := fun _ k b ls st σ => match st with
  | .inl x :: st => k n b ls (.inr (.inr (some x.toInt64)) :: st) σ
  | _ => none
def oBinL (f : Int64 → Int64 → Int64) (n : Nat) : zOp := fun _ k b ls st σ => match st with
  | .inr (.inr (some y)) :: .inr (.inr (some x)) :: st => k n b ls (.inr (.inr (some (f x y))) :: st) σ
  | _ => none
def oLcmp (n : Nat) : zOp := fun _ k b ls st σ => match st with
  | .inr (.inr (some y)) :: .inr (.inr (some x)) :: st => k n b ls (.inl (lg_cmp x y) :: st) σ
  | _ => none
def oDup (n : Nat) : zOp := fun _ k b ls st σ => match st with
  | .inl x :: st => k n b ls (.inl x :: .inl x :: st) σ
  | .inr (.inl x) :: st => k n b ls (.inr (.inl x) :: .inr (.inl x) :: st) σ
  | _ => none
def oDup2 (n : Nat) : zOp := fun _ k b ls st σ => match st with
  | .inl x :: .inr (.inl y) :: st => k n b ls (.inl x :: .inr (.inl y) :: .inl x :: .inr (.inl y) :: st) σ
  | _ => none
def oPop (n : Nat) : zOp := fun _ k b ls st σ => match st with
  | .inl _ :: st => k n b ls st σ
  | .inr (.inl _) :: st => k n b ls st σ
  | _ => none
def oEq (t n : Nat) : zOp := fun _ k b ls st σ => match st with
  | .inl y :: .inl x :: st => if x = y then k t b ls st σ else k n b ls st σ
  | _ => none
def oLt (t n : Nat) : zOp := fun _ k b ls st σ => match st with
  | .inl y :: .inl x :: st => if x < y then k t b ls st σ else k n b ls st σ
  | _ => none
def oLe (t n : Nat) : zOp := fun _ k b ls st σ => match st with
  | .inl y :: .inl x :: st => if x ≤ y then k t b ls st σ else k n b ls st σ
  | _ => none
def oEq0 (t n : Nat) : zOp := fun _ k b ls st σ => match st with
  | .inl x :: st => if x = 0 then k t b ls st σ else k n b ls st σ
  | _ => none
def oLt0 (t n : Nat) : zOp := fun _ k b ls st σ => match st with
  | .inl x :: st => if x < 0 then k t b ls st σ else k n b ls st σ
  | _ => none
def oLe0 (t n : Nat) : zOp := fun _ k b ls st σ => match st with
  | .inl x :: st => if x ≤ 0 then k t b ls st σ else k n b ls st σ
  | _ => none
def oNul (t n : Nat) : zOp := fun _ k b ls st σ => match st with
  | .inr (.inl x) :: st => nul x (k t b ls st σ) (k n b ls st σ)
  | _ => none
def oGo (t : Nat) : zOp := fun _ k b ls st σ => k t b ls st σ
def oTbl (cs : List (Int32 × Nat)) (d : Nat) : zOp := fun _ k b ls st σ => match st with
  | .inl x :: st => tsel x (fun t => k t b ls st σ) (k d b ls st σ) cs
  | _ => none
def oGetI (f c n : Nat) : zOp := fun _ k b ls st σ => match st with
  | .inr (.inl o) :: st => onR o fun a => chk (zkd σ a = c) (k n b ls (.inl (zi σ f a) :: st) σ)
  | _ => none
def oGetR (f c n : Nat) : zOp := fun _ k b ls st σ => match st with
  | .inr (.inl o) :: st => onR o fun a => chk (zkd σ a = c) (k n b ls (.inr (.inl (zr σ f a)) :: st) σ)
  | _ => none
def oPutI (f c n : Nat) : zOp := fun _ k b ls st σ => match st with
  | .inl x :: .inr (.inl o) :: st => onR o fun a => chk (zkd σ a = c) (zlt (zsi σ f a x) fun σ => k n b ls st σ)
  | _ => none
def oPutZ (f c n : Nat) : zOp := fun _ k b ls st σ => match st with
  | .inl x :: .inr (.inl o) :: st => onR o fun a => chk (zkd σ a = c ∧ zB x) (zlt (zsi σ f a x) fun σ => k n b ls st σ)
  | _ => none
def oPutR (f c n : Nat) : zOp := fun _ k b ls st σ => match st with
  | .inr (.inl x) :: .inr (.inl o) :: st => onR o fun a => chk (zkd σ a = c) (zlt (zsr σ f a x) fun σ => k n b ls st σ)
  | _ => none
def oAld (c n : Nat) : zOp := fun _ k b ls st σ => match st with
  | .inl i :: .inr (.inl o) :: st => onR o fun a => chk (zkd σ a = c ∧ zin i (zln σ a)) (k n b ls (.inl (zai σ a i.toNatClampNeg) :: st) σ)
  | _ => none
def oAldR (c n : Nat) : zOp := fun _ k b ls st σ => match st with
  | .inl i :: .inr (.inl o) :: st => onR o fun a => chk (zkd σ a = c ∧ zin i (zln σ a)) (k n b ls (.inr (.inl (zar σ a i.toNatClampNeg)) :: st) σ)
  | _ => none
def oAst (n : Nat) : zOp := fun _ k b ls st σ => match st with
  | .inl x :: .inl i :: .inr (.inl o) :: st => onR o fun a => chk (zkd σ a = 11 ∧ zin i (zln σ a)) (zlt (zsa σ a i.toNatClampNeg x) fun σ => k n b ls st σ)
  | _ => none
def oAstN (c : Nat) (ty : FieldType) (n : Nat) : zOp := fun _ k b ls st σ => match st with
  | .inl x :: .inl i :: .inr (.inl o) :: st => onR o fun a => chk ((zkd σ a = c ∧ zin i (zln σ a)) ∧ vp_nar ty x = x) (zlt (zsa σ a i.toNatClampNeg x) fun σ => k n b ls st σ)
  | _ => none
def oAstR (c e n : Nat) : zOp := fun _ k b ls st σ => match st with
  | .inr (.inl v) :: .inl i :: .inr (.inl o) :: st => onR v fun w => onR o fun a => chk ((zkd σ a = c ∧ zin i (zln σ a)) ∧ zkd σ w = e) (zlt (zsq σ a i.toNatClampNeg (some w)) fun σ => k n b ls st σ)
  | _ => none
def oLen (c n : Nat) : zOp := fun _ k b ls st σ => match st with
  | .inr (.inl o) :: st => onR o fun a => chk (zkd σ a = c) (k n b ls (.inl (Int32.ofNat (zln σ a)) :: st) σ)
  | _ => none
def oNew (c N n : Nat) : zOp := fun _ k b ls st σ => if 1 ≤ b.1 ∧ N ≤ b.2 then k n (b.1 - 1, b.2 - N) ls (.inr (.inl (some (znx σ))) :: st) (zno σ c) else none
def oNewA (c n : Nat) : zOp := fun _ k b ls st σ => match st with
  | .inl x :: st => if (0 ≤ x.toInt ∧ x.toInt ≤ 65536) ∧ 1 ≤ b.1 ∧ x.toNatClampNeg ≤ b.2 then k n (b.1 - 1, b.2 - x.toNatClampNeg) ls (.inr (.inl (some (znx σ))) :: st) (zna σ c x.toNatClampNeg) else none
  | _ => none
def oObj (n : Nat) : zOp := fun _ k b ls st σ => match st with
  | .inr (.inl (some _)) :: st => if (st.map zcat).sum ≤ 8 then k n b ls st σ else none
  | _ => none
def zfit (b q : Nat × Nat) : Bool := Nat.ble q.1 b.1 && Nat.ble q.2 b.2
def zroom (a : Nat) (st : List zV) : Bool := Nat.ble a st.length && Nat.ble ((st.drop a).map zcat).sum 8
def zgd (c : Bool) (x : zO) : zO := match c with
  | true => x
  | false => none
def oCaI (y a : Nat) (q : Nat × Nat) (n : Nat) : zOp := fun E k b ls st σ => zgd (zfit b q && zroom a st) (bnI (E y (st.take a).reverse σ) fun x σ => k n (b.1 - q.1, b.2 - q.2) ls (.inl x :: st.drop a) σ)
def oCaR (y a : Nat) (q : Nat × Nat) (n : Nat) : zOp := fun E k b ls st σ => zgd (zfit b q && zroom a st) (bnR (E y (st.take a).reverse σ) fun x σ => k n (b.1 - q.1, b.2 - q.2) ls (.inr (.inl x) :: st.drop a) σ)
def oCaL (y a : Nat) (q : Nat × Nat) (n : Nat) : zOp := fun E k b ls st σ => zgd (zfit b q && zroom a st) (bnL (E y (st.take a).reverse σ) fun x σ => k n (b.1 - q.1, b.2 - q.2) ls (.inr (.inr (some x)) :: st.drop a) σ)
def oCaV (y a : Nat) (q : Nat × Nat) (n : Nat) : zOp := fun E k b ls st σ => zgd (zfit b q && zroom a st) (bnV (E y (st.take a).reverse σ) fun σ => k n (b.1 - q.1, b.2 - q.2) ls (st.drop a) σ)
/-- a call with a receiver: it lies a places deep, and is of the kind c -/
def oRcv (c a : Nat) (op : zOp) : zOp := fun E k b ls st σ => match st[a]? with
  | some (.inr (.inl o)) => onR o fun x => chk (zkd σ x = c) (op E k b ls st σ)
  | _ => none
def oRtI : zOp := fun _ _ _ _ st σ => match st with
  | [.inl x] => some (some (.inl x), σ)
  | _ => none
def oRtZ : zOp := fun _ _ _ _ st σ => match st with
  | [.inl x] => chk (zB x) (some (some (.inl x), σ))
  | _ => none
def oRtN (ty : FieldType) : zOp := fun _ _ _ _ st σ => match st with
  | [.inl x] => chk (vp_nar ty x = x) (some (some (.inl x), σ))
  | _ => none
def oRtR : zOp := fun _ _ _ _ st σ => match st with
  | [.inr (.inl o)] => some (some (.inr (.inl o)), σ)
  | _ => none
def oRtL : zOp := fun _ _ _ _ st σ => match st with
  | [.inr (.inr (some w))] => some (some (.inr (.inr (some w))), σ)
  | _ => none
def oRtV : zOp := fun _ _ _ _ st σ => match st with
  | [] => some (none, σ)
  | _ => none
def oSta (f j n : Nat) : zOp := fun _ k b ls st σ => onR (zr σ f j) fun t => k n b ls (.inr (.inl (some t)) :: st) σ
/-- one run of a method's text: tab gives each place its step -/
def nd (n : Nat) (f g : Nat → zOp) : Nat → zOp := fun pc => cond (Nat.blt pc n) (f pc) (g pc)
def lf (n : Nat) (op : zOp) : Nat → zOp := fun pc => cond (Nat.beq pc n) op stk
def zrun (tab : Nat → zOp) (E : zE) : Nat → zK
  | 0, _, _, _, _, _ => none
  | n + 1, pc, b, ls, st, σ => tab pc E (zrun tab E n) b ls st σ
/-- an op asks its continuation at one place at most -/
def zLin (op : zOp) : Prop := ∀ E b ls st σ, (∃ c, ∀ k, op E k b ls st σ = c) ∨ ∃ pc b' ls' st' σ', ∀ k, op E k b ls st σ = k pc b' ls' st' σ'
end
section
/-! WHAT A PICTURE SAYS OF A HEAP, and what a step owes. -/
def ztg (c : Nat) : List Nat := match c with
  | 0 => [1, 1, 0]
  | 1 => [1, 0]
  | 2 => [0, 0, 0, 0, 0, 0, 1]
  | 3 => [0, 0, 0, 0, 0, 0, 0, 0, 1]
  | 4 => [1, 0, 0]
  | 5 => [1, 1, 0, 0, 0]
  | 6 => [1, 0, 0, 0, 0, 0, 0]
  | 7 => [1, 1, 0, 0, 0, 0, 0, 0, 0]
  | 8 => [1, 1, 1, 1, 1, 1, 1, 1, 1]
  | _ => [0, 1, 1, 0, 1, 1, 1, 0, 0, 0, 1, 0, 1, 1, 1, 1, 1, 1, 1, 1, 1, 1, 0, 1, 1, 0, 0, 0, 0, 0, 2, 0, 0, 1, 0, 0, 0, 0, 1, 1]
def zfv (σ : zS) (t f a : Nat) : Value := match t with
  | 0 => .int (zi σ f a)
  | 1 => va_rf (zr σ f a)
  | _ => .long (zl σ f a)
def zfl (σ : zS) (a c : Nat) : List Value := (ztg c).mapIdx fun i t => zfv σ t (64 * c + i) a
def zent (cy : Nat → ClassId) (σ : zS) (a : Nat) : va_E :=
  if zkd σ a < 10 then .inr (zkd σ a, zfl σ a (zkd σ a))
  else if zkd σ a < 13 then .inl (cy (zkd σ a), zln σ a, .inl (zai σ a))
  else .inl (cy (zkd σ a), zln σ a, .inr (.inr (.inr (.inr (zar σ a)))))
def zPool (D : va_G) (cy : Nat → ClassId) (σ : zS) (H : Heap) : Prop :=
  H.size = znx σ ∧ va_P D vwCl (va_pl (zdm σ) (zent cy σ)) H ∧ va_D (fun _ => True) (va_pl (zdm σ) (zent cy σ)) ∧ (∀ a, zkd σ a < 16 → a ∈ zdm σ) ∧ ∀ a, a ∈ zdm σ → zkd σ a < 16
def zA (σ : zS) (q : Nat) : Prop := zkd σ q < 16 ∨ znx σ ≤ q
/-- what never changes from one picture to a later one -/
def zSm (σ τ : zS) : Prop := znx σ ≤ znx τ ∧ (∀ q, q < znx σ → zkd τ q = zkd σ q ∧ zln τ q = zln σ q) ∧ (∀ f, 640 ≤ f → ∀ j, zr τ f j = zr σ f j) ∧ ∀ q, 16 ≤ zkd τ q → zkd σ q = zkd τ q ∧ zln τ q = zln σ q ∧ ∀ i, zai τ q i = zai σ q i
def zTys (cy : Nat → ClassId) : List (ClassId × FieldType) := [(cy 10, .char), (cy 11, .int), (cy 13, .object RX0), (cy 14, .object RX3), (cy 15, .object RX6)]
def zwok : Cond → Bool
  | .fieldLinkNest .. => true
  | .methodLinkNest .. => true
  | .arrayOver (.object _) => true
  | w => goodWord w
def zTb (U : State) : Prop := ∀ w ∈ lw_tbl, zwok w = true → ∀ A : Array Value, w.before A U = true
def zStN (j : Nat) : String := match j with
  | 0 => "PARAMETERS"
  | 1 => "LOWEST_A"
  | 2 => "HIGHEST_A"
  | 3 => "LOWEST_B"
  | _ => "HIGHEST_B"
/-- the cells that nobody writes: the static rows, the script -/
def zExt (A : Nat → Prop) (U : State) (σ : zS) (H : Heap) : Prop :=
  (∀ j t, j < 5 → zr σ 640 j = some t → va_Z RX2 (zStN j) "[I" (.ref t) A U H) ∧ ∀ a, zkd σ a = 16 → va_T .int a (zln σ a) (fun i => .int (zai σ a i)) A U H
def zLs (lsA : Array Slot) (nL : Nat) (ls : List zV) : Prop := lsA.size = nL ∧ lv_wf lsA ∧ ls.length = nL ∧ (∀ (i : Nat) (v : zV), ls[i]? = some v → zcat v = 1 → lsA[i]? = some (.val (zTo v))) ∧ ∀ (i : Nat) (w : Int64), ls[i]? = some (.inr (.inr (some w))) → ls[i + 1]? = some (.inr (.inr none)) → lsA[i]? = some (.val (.long w))
theorem zSm.rf (σ : zS) : zSm σ σ := ⟨Nat.le_refl _, fun _ _ => ⟨rfl, rfl⟩, fun _ _ _ => rfl, fun _ _ => ⟨rfl, rfl, fun _ => rfl⟩⟩
theorem zSm.tr {σ τ υ : zS} (h : zSm σ τ) (g : zSm τ υ) : zSm σ υ := by
  obtain ⟨h1, h2, h3, h4⟩ := h
  obtain ⟨g1, g2, g3, g4⟩ := g
  refine ⟨Nat.le_trans h1 g1, fun q hq => ?_, fun f hf j => (g3 f hf j).trans (h3 f hf j), fun q hq => ?_⟩
  · have a := g2 q (Nat.lt_of_lt_of_le hq h1)
    have b := h2 q hq
    exact ⟨a.1.trans b.1, a.2.trans b.2⟩
  · obtain ⟨a1, a2, a3⟩ := g4 q hq
    have hq' : 16 ≤ zkd τ q := by rw [a1]; exact hq
    obtain ⟨b1, b2, b3⟩ := h4 q hq'
    exact ⟨b1.trans a1, a2.trans b2, fun i => (a3 i).trans (b3 i)⟩
theorem zA.mono {σ τ : zS} (h : zSm σ τ) {q : Nat} (g : zA τ q) : zA σ q := by
  rcases Nat.lt_or_ge q (znx σ) with hq | hq
  · rcases g with g | g
    · exact Or.inl (by rw [← (h.2.1 q hq).1]; exact g)
    · exact absurd (Nat.lt_of_lt_of_le hq h.1) (Nat.not_lt.mpr g)
  · exact Or.inr hq
theorem zTb.moved {s U : State} (hW : s.WarmedH U.vm) (h : zTb s) : zTb U := by
  intro w hw hk A
  have h0 := h w hw hk
  cases w with
  | fieldLinkNest a i b n d hh => exact va_tabs rfl rfl (va_Nw.warmF hW (h0 #[]))
  | methodLinkNest a i x hh => exact va_tabs rfl rfl (va_Nw.warmM hW (h0 #[]))
  | arrayOver ty =>
    cases ty with
    | object C => exact va_AO.use (va_AO.moved hW.alike (va_AO.of (h0 #[])))
    | _ => exact word_at (args := #[]) hW (good_of_word hk) (h0 #[])
  | _ => exact word_at (args := #[]) hW (good_of_word hk) (h0 #[])
theorem zTb.same {s U : State} (hv : U.vm = s.vm) (h : zTb s) : zTb U := zTb.moved (by rw [hv]; exact State.WarmedH.refl s) h
theorem zExt.to {A B : Nat → Prop} {s U : State} {σ τ : zS} {H H1 : Heap} (h : zExt A s σ H) (hW : s.WarmedH U.vm) (hq : ∀ a : Nat, a < H.size → ¬ A a → H1[a]? = H[a]?) (hS : zSm σ τ) (hAB : ∀ q, B q → A q) : zExt B U τ H1 := by
  obtain ⟨h1, h2⟩ := h
  have ha := hW.alike
  refine ⟨fun j t hj ht => ?_, fun a hk => ?_⟩
  · rw [hS.2.2.1 640 (Nat.le_refl _) j] at ht
    exact (((h1 j t hj ht).kept hq).moved ha).narrow hAB
  · obtain ⟨b1, b2, b3⟩ := hS.2.2.2 a (by rw [hk]; exact Nat.le_refl _)
    have := (((h2 a (b1.trans hk)).kept hq).moved ha).narrow hAB
    rw [b2, show (fun i => Value.int (zai τ a i)) = (fun i => Value.int (zai σ a i)) from funext fun i => by rw [b3 i]]
    exact this
end
section
/-! THE STEPS ARE THE MACHINE'S: one lemma a kind of step. -/
def zMx (cc : ByteArray) (ret : Option FieldType) (D : va_G) (cy : Nat → ClassId) (p : Program) (l : Launch) (e : Env) (R : Room) (s : State) (m : MethodId) (args : Array Value) (below : List Frame) (meth : Method) (c : Code) (σ0 : zS) (out : Option zV × zS) (Q : State → Prop) : Prop :=
  ∀ (pc : Nat) (lsA : Array Slot) (H : Heap) (locs : List Loc) (cells slots : Nat), zPool D cy out.2 H → zSm σ0 out.2 → va_S (zA σ0) s.heap H locs → cells ≤ R.cells → slots ≤ R.slots →
    (decode cc pc = .ok (.ireturn, 1) → ∀ x, out.1 = some (.inl x) → (∃ ty, ret = some ty ∧ narrow ty (.int x) = .int x) → W p l e R s m args below meth c H locs cells slots Q (F0 m pc lsA [.int x])) ∧
    (decode cc pc = .ok (.areturn, 1) → ∀ o, out.1 = some (.inr (.inl o)) → (∃ rt, ret = some rt ∧ ((∃ n, rt = .object n) ∨ ∃ t, rt = .array t)) → W p l e R s m args below meth c H locs cells slots Q (F0 m pc lsA [va_rf o])) ∧
    (decode cc pc = .ok (.return_, 1) → out.1 = none → ret = none → W p l e R s m args below meth c H locs cells slots Q (F0 m pc lsA [])) ∧
    (decode cc pc = .ok (.lreturn, 1) → ∀ w, out.1 = some (.inr (.inr (some w))) → ret = some .long → W p l e R s m args below meth c H locs cells slots Q (F0 m pc lsA [.long w]))
def zCtx (D : va_G) (cy : Nat → ClassId) (d : Nat) (p : Program) (l : Launch) (e : Env) (R : Room) (s : State) (m : MethodId) (args : Array Value) (below : List Frame) (meth : Method) (c : Code) (own : String) (cc : ByteArray) (nL : Nat) (ret : Option FieldType) (ini : Bool) (σ0 : zS) (out : Option zV × zS) (Q : State → Prop) : Prop :=
  p.tables.exec = Jvm.exec ∧ c.code = cc ∧ c.maxLocals = nL ∧ s.vm.findClass own = some m.cls ∧ zTb s ∧ va_K D vwCl (zTys cy) s ∧ zExt (zA σ0) s σ0 s.heap ∧ s.heap.size = znx σ0 ∧ (d + 1 ≤ R.frames ∧ 40 * d + 40 ≤ R.locals) ∧ (ini = true → meth.name = "<init>") ∧ zMx cc ret D cy p l e R s m args below meth c σ0 out Q
def zGo (D : va_G) (cy : Nat → ClassId) (p : Program) (l : Launch) (e : Env) (R : Room) (s : State) (m : MethodId) (args : Array Value) (below : List Frame) (meth : Method) (c : Code) (nL : Nat) (σ0 : zS) (Q : State → Prop) (pc : Nat) (b : Nat × Nat) (ls st : List zV) (σ : zS) : Prop :=
  ∀ (H : Heap) (locs : List Loc) (cells slots : Nat) (lsA : Array Slot), zPool D cy σ H → zSm σ0 σ → va_S (zA σ0) s.heap H locs → zLs lsA nL ls → cells + b.1 ≤ R.cells → slots + b.2 ≤ R.slots → W p l e R s m args below meth c H locs cells slots Q (F0 m pc lsA (st.map zTo))
/-- a method's contract out of a run: the answer, the picture behind it -/
def zPc (D : va_G) (cy : Nat → ClassId) (as : List zV) (σ : zS) : Array Value → State → Prop := fun v U => v = (as.map zTo).toArray ∧ zTb U ∧ va_K D vwCl (zTys cy) U ∧ zExt (zA σ) U σ U.heap ∧ zPool D cy σ U.heap
def zQc (D : va_G) (cy : Nat → ClassId) (σ : zS) (out : Option zV × zS) : Array Value → State → Outcome → State → Prop := fun _ st o t => o = .returned (out.1.map zTo) ∧ zPool D cy out.2 t.heap ∧ zSm σ out.2 ∧ va_F (zA σ) st t
def zES (mi : Nat → MethodName × ByteArray × Nat × Option FieldType × Nat × Nat) (D : va_G) (cy : Nat → ClassId) (l : Launch) (d : Nat) (E : zE) : Prop :=
  ∀ (y : Nat) (as : List zV) (σ : zS) (out : Option zV × zS), E y as σ = some out →
    Met l (mi y).1 [Cond.code (mi y).1 (mi y).2.1 (mi y).2.2.1 (mi y).2.2.2.1] ({ frames := d, cells := (mi y).2.2.2.2.1, slots := (mi y).2.2.2.2.2, locals := 40 * d }) (zPc D cy as σ) (zQc D cy σ out) (mi y).2.2.2.2.1 (mi y).2.2.2.2.2 (zA σ)
def zSnd (mi : Nat → MethodName × ByteArray × Nat × Option FieldType × Nat × Nat) (own : String) (cc : ByteArray) (nL : Nat) (ret : Option FieldType) (ini : Bool) (pc : Nat) (op : zOp) : Prop :=
  ∀ (D : va_G) (cy : Nat → ClassId) (d : Nat) (p : Program) (l : Launch) (e : Env) (R : Room) (s : State) (m : MethodId) (args : Array Value) (below : List Frame) (meth : Method) (c : Code) (σ0 : zS) (out : Option zV × zS) (Q : State → Prop) (E : zE),
    zES mi D cy l d E → zCtx D cy d p l e R s m args below meth c own cc nL ret ini σ0 out Q →
    ∀ (k : zK) (b : Nat × Nat) (ls st : List zV) (σ : zS), op E k b ls st σ = some out → (∀ pc' b' ls' st' σ', k pc' b' ls' st' σ' = some out → zGo D cy p l e R s m args below meth c nL σ0 Q pc' b' ls' st' σ') → zGo D cy p l e R s m args below meth c nL σ0 Q pc b ls st σ
def zOk (mi : Nat → MethodName × ByteArray × Nat × Option FieldType × Nat × Nat) (own : String) (cc : ByteArray) (nL : Nat) (ret : Option FieldType) (ini : Bool) (pc : Nat) (op : zOp) : Prop := zLin op ∧ zSnd mi own cc nL ret ini pc op
theorem chk_some {c : Prop} [Decidable c] {x : zO} {o : Option zV × zS} (h : chk c x = some o) : c ∧ x = some o := by
  unfold chk at h
  split at h
  · exact ⟨by assumption, h⟩
  · cases h
theorem onR_some {r : Option Nat} {f : Nat → zO} {o : Option zV × zS} (h : onR r f = some o) : ∃ a, r = some a ∧ f a = some o := by
  cases r with
  | none => cases h
  | some a => exact ⟨a, rfl, h⟩
theorem zLs.at {lsA : Array Slot} {nL : Nat} {ls : List zV} (h : zLs lsA nL ls) {i : Nat} {v : zV} (hi : ls[i]? = some v) (hc : zcat v = 1) : lsA[i]? = some (.val (zTo v)) := h.2.2.2.1 i v hi hc
theorem zLs.atL {lsA : Array Slot} {nL : Nat} {ls : List zV} (h : zLs lsA nL ls) {i : Nat} {w : Int64} (hi : ls[i]? = some (.inr (.inr (some w)))) (hn : ls[i + 1]? = some (.inr (.inr none))) : lsA[i]? = some (.val (.long w)) := h.2.2.2.2 i w hi hn
def zA1 (ls : List zV) (i : Nat) : Option (Nat × Value) := match ls[i]? with
  | some (.inl x) => some (i, .int x)
  | some (.inr (.inl o)) => some (i, va_rf o)
  | some (.inr (.inr (some w))) => match ls[i + 1]? with
    | some (.inr (.inr none)) => some (i, .long w)
    | _ => none
  | _ => none
def zAs (ls : List zV) : List (Nat × Value) := (List.range ls.length).filterMap (zA1 ls)
theorem zcat_1 {v : zV} (h : zcat v = 1) : (zTo v).category = 1 := by
  rcases v with x | o | w
  · rfl
  · cases o <;> rfl
  · cases h
theorem zA1_1 {ls : List zV} {i : Nat} {v : zV} (h : ls[i]? = some v) (hc : zcat v = 1) : zA1 ls i = some (i, zTo v) := by
  unfold zA1
  rw [h]
  rcases v with x | o | w
  · rfl
  · rfl
  · cases hc
theorem zA1_2 {ls : List zV} {i : Nat} {w : Int64} (h : ls[i]? = some (.inr (.inr (some w)))) (hn : ls[i + 1]? = some (.inr (.inr none))) : zA1 ls i = some (i, .long w) := by
  unfold zA1
  rw [h, hn]
theorem zA1_is {ls : List zV} {i : Nat} {q : Nat × Value} (h : zA1 ls i = some q) : (∃ v, ls[i]? = some v ∧ zcat v = 1 ∧ q = (i, zTo v)) ∨ ∃ w, ls[i]? = some (.inr (.inr (some w))) ∧ ls[i + 1]? = some (.inr (.inr none)) ∧ q = (i, .long w) := by
  unfold zA1 at h
  split at h
  · next x hx => cases h; exact Or.inl ⟨_, hx, rfl, rfl⟩
  · next x hx => cases h; exact Or.inl ⟨_, hx, rfl, rfl⟩
  · next w hw =>
    split at h
    · next hn => cases h; exact Or.inr ⟨_, hw, hn, rfl⟩
    · cases h
  · cases h
theorem zLs.has {lsA : Array Slot} {nL : Nat} {ls : List zV} (h : zLs lsA nL ls) : lv_has lsA nL (zAs ls) := by
  refine ⟨h.1, h.2.1, fun q hq => ?_⟩
  obtain ⟨i, -, hi⟩ := List.mem_filterMap.mp hq
  rcases zA1_is hi with ⟨v, h1, h2, rfl⟩ | ⟨w, h1, h2, rfl⟩
  · exact h.2.2.2.1 i v h1 h2
  · exact h.2.2.2.2 i w h1 h2
theorem zAs_mem {ls : List zV} {i : Nat} {v : zV} (h : ls[i]? = some v) (hc : zcat v = 1) : (i, zTo v) ∈ zAs ls :=
  List.mem_filterMap.mpr ⟨i, List.mem_range.mpr (List.getElem?_eq_some_iff.mp h).1, zA1_1 h hc⟩
theorem zAs_memL {ls : List zV} {i : Nat} {w : Int64} (h : ls[i]? = some (.inr (.inr (some w)))) (hn : ls[i + 1]? = some (.inr (.inr none))) : (i, Value.long w) ∈ zAs ls :=
  List.mem_filterMap.mpr ⟨i, List.mem_range.mpr (List.getElem?_eq_some_iff.mp h).1, zA1_2 h hn⟩
theorem zLs.set {lsA : Array Slot} {nL : Nat} {ls : List zV} {i : Nat} {v : zV} {ls' : Array Slot} (h : zLs lsA nL ls) (hi : i < nL) (hc : zcat v = 1) (h' : lv_has ls' nL ((i, zTo v) :: (zAs ls).filter (fun q => !(q.1 == i) && !(q.1 + 1 == i && q.2.category == 2)))) : zLs ls' nL (ls.set i v) := by
  have hil : i < ls.length := by rw [h.2.2.1]; exact hi
  refine ⟨h'.1, h'.2.1, by rw [List.length_set]; exact h.2.2.1, fun j w hj hw => ?_, fun j w hj hn => ?_⟩
  · by_cases hji : j = i
    · subst hji
      rw [List.getElem?_set_self hil] at hj
      cases hj
      exact h'.2.2 (j, zTo v) List.mem_cons_self
    · rw [List.getElem?_set_ne (Ne.symm hji)] at hj
      have := zcat_1 hw
      refine h'.2.2 (j, zTo w) (List.mem_cons_of_mem _ (List.mem_filter.mpr ⟨zAs_mem hj hw, ?_⟩))
      simp [hji, this]
  · by_cases hji : j = i
    · subst hji
      rw [List.getElem?_set_self hil] at hj
      cases hj
      cases hc
    · by_cases hji' : j + 1 = i
      · subst hji'
        rw [List.getElem?_set_self hil] at hn
        cases hn
        cases hc
      · rw [List.getElem?_set_ne (Ne.symm hji)] at hj
        rw [List.getElem?_set_ne (Ne.symm hji')] at hn
        refine h'.2.2 (j, .long w) (List.mem_cons_of_mem _ (List.mem_filter.mpr ⟨zAs_memL hj hn, ?_⟩))
        simp [hji, hji']
theorem zLs.setL {lsA : Array Slot} {nL : Nat} {ls : List zV} {i : Nat} {x : Int64} {ls' : Array Slot} (h : zLs lsA nL ls) (hi : i + 1 < nL) (h' : lv_has ls' nL ((i, Value.long x) :: (zAs ls).filter (fun q => !(q.1 == i) && (!(q.1 == i + 1) && !(q.1 + 1 == i && q.2.category == 2))))) : zLs ls' nL ((ls.set i (.inr (.inr (some x)))).set (i + 1) (.inr (.inr none))) := by
  have hl := h.2.2.1
  have g : ∀ j : Nat, ((ls.set i (.inr (.inr (some x)))).set (i + 1) (.inr (.inr none)))[j]? = if j = i + 1 then some (.inr (.inr none)) else if j = i then some (.inr (.inr (some x))) else ls[j]? := by
    intro j
    by_cases h1 : j = i + 1
    · subst h1
      rw [if_pos rfl, List.getElem?_set_self (by rw [List.length_set]; omega)]
    · rw [if_neg h1, List.getElem?_set_ne (Ne.symm h1)]
      by_cases h2 : j = i
      · subst h2
        rw [if_pos rfl, List.getElem?_set_self (by omega)]
      · rw [if_neg h2, List.getElem?_set_ne (Ne.symm h2)]
  refine ⟨h'.1, h'.2.1, by rw [List.length_set, List.length_set]; exact hl, fun j w hj hw => ?_, fun j w hj hn => ?_⟩
  · rw [g] at hj
    by_cases h1 : j = i + 1
    · rw [if_pos h1] at hj; cases hj; cases hw
    · by_cases h2 : j = i
      · rw [if_neg h1, if_pos h2] at hj; cases hj; cases hw
      · rw [if_neg h1, if_neg h2] at hj
        have := zcat_1 hw
        refine h'.2.2 (j, zTo w) (List.mem_cons_of_mem _ (List.mem_filter.mpr ⟨zAs_mem hj hw, ?_⟩))
        simp [h1, h2, this]
  · rw [g] at hj hn
    by_cases h1 : j = i + 1
    · rw [if_pos h1] at hj; cases hj
    · by_cases h2 : j = i
      · rw [if_neg h1, if_pos h2] at hj
        cases hj
        subst h2
        exact h'.2.2 (j, .long x) List.mem_cons_self
      · rw [if_neg h1, if_neg h2] at hj
        by_cases h3 : j + 1 = i
        · rw [if_neg (by omega), if_pos h3] at hn; cases hn
        · rw [if_neg (by omega), if_neg h3] at hn
          refine h'.2.2 (j, .long w) (List.mem_cons_of_mem _ (List.mem_filter.mpr ⟨zAs_memL hj hn, ?_⟩))
          simp [h1, h2, h3]
theorem zLs.len {lsA : Array Slot} {nL : Nat} {ls : List zV} (h : zLs lsA nL ls) {i : Nat} {v : zV} (hi : ls[i]? = some v) : i < nL := by
  rw [← h.2.2.1]
  exact (List.getElem?_eq_some_iff.mp hi).1
theorem zcats {st : List zV} (h : (st.map zcat).sum ≤ 8) : ((st.map zTo).map fun v => v.category).sum ≤ 8 := by
  have e : ((st.map zTo).map fun v => v.category) = st.map zcat := by
    rw [List.map_map]
    refine List.map_congr_left fun v _ => ?_
    rcases v with x | o | w
    · rfl
    · cases o <;> rfl
    · cases w <;> rfl
  rw [e]
  exact h
section OPS
variable {mi : Nat → MethodName × ByteArray × Nat × Option FieldType × Nat × Nat} {own : String} {cc : ByteArray} {nL : Nat} {ret : Option FieldType} {ini : Bool} {pc : Nat}
theorem ok_stk : zOk mi own cc nL ret ini pc stk := ⟨fun _ _ _ _ _ => Or.inl ⟨none, fun _ => rfl⟩, fun _ _ _ _ _ _ _ _ _ _ _ _ _ _ _ _ _ _ _ _ _ _ _ _ h => by cases h⟩
theorem ok_iconst {n : Int} {v : Int32} (hd : decode cc pc = .ok (.iconst n, 1)) (hv : Int32.ofInt n = v) : zOk mi own cc nL ret ini pc (oCst (.inl v) (pc + 1)) :=
  ⟨fun E b ls st σ => Or.inr ⟨_, _, _, _, _, fun k => rfl⟩, fun D cy d p l e R s m args below meth c σ0 out Q E hE hC k b ls st σ h hk H locs cells slots lsA hP hM hS hL hc hs =>
    lv_iconst hC.1 hC.2.1 hd hv (hk _ _ _ _ _ h H locs cells slots lsA hP hM hS hL hc hs)⟩
theorem ok_bipush {n : Int} {v : Int32} (hd : decode cc pc = .ok (.bipush n, 2)) (hv : (Int8.ofInt n).toInt32 = v) : zOk mi own cc nL ret ini pc (oCst (.inl v) (pc + 2)) :=
  ⟨fun E b ls st σ => Or.inr ⟨_, _, _, _, _, fun k => rfl⟩, fun D cy d p l e R s m args below meth c σ0 out Q E hE hC k b ls st σ h hk H locs cells slots lsA hP hM hS hL hc hs =>
    lv_bipush hC.1 hC.2.1 hd hv (hk _ _ _ _ _ h H locs cells slots lsA hP hM hS hL hc hs)⟩
theorem ok_sipush {n : Int} {v : Int32} (hd : decode cc pc = .ok (.sipush n, 3)) (hv : (Int16.ofInt n).toInt32 = v) : zOk mi own cc nL ret ini pc (oCst (.inl v) (pc + 3)) :=
  ⟨fun E b ls st σ => Or.inr ⟨_, _, _, _, _, fun k => rfl⟩, fun D cy d p l e R s m args below meth c σ0 out Q E hE hC k b ls st σ h hk H locs cells slots lsA hP hM hS hL hc hs =>
    lv_sipush hC.1 hC.2.1 hd hv (hk _ _ _ _ _ h H locs cells slots lsA hP hM hS hL hc hs)⟩
theorem ok_aconst (hd : decode cc pc = .ok (.aconst_null, 1)) : zOk mi own cc nL ret ini pc (oCst (.inr (.inl none)) (pc + 1)) :=
  ⟨fun E b ls st σ => Or.inr ⟨_, _, _, _, _, fun k => rfl⟩, fun D cy d p l e R s m args below meth c σ0 out Q E hE hC k b ls st σ h hk H locs cells slots lsA hP hM hS hL hc hs =>
    lv_null hC.1 hC.2.1 hd (hk _ _ _ _ _ h H locs cells slots lsA hP hM hS hL hc hs)⟩
theorem ok_iload {i : Nat} (hd : decode cc pc = .ok (.iload i, 2)) : zOk mi own cc nL ret ini pc (oLdI i (pc + 2)) := by
  refine ⟨fun E b ls st σ => ?_, fun D cy d p l e R s m args below meth c σ0 out Q E hE hC k b ls st σ h hk H locs cells slots lsA hP hM hS hL hc hs => ?_⟩
  · unfold oLdI
    rcases ls[i]? with _ | x | o
    · exact Or.inl ⟨_, fun _ => rfl⟩
    · exact Or.inr ⟨_, _, _, _, _, fun _ => rfl⟩
    · exact Or.inl ⟨_, fun _ => rfl⟩
  · unfold oLdI at h
    rcases hx : ls[i]? with _ | x | o <;> rw [hx] at h
    · cases h
    · exact lv_iload hC.1 hC.2.1 hd (hL.at hx rfl) (hk _ _ _ _ _ h H locs cells slots lsA hP hM hS hL hc hs)
    · cases h
theorem ok_iload_n {k0 : Fin 4} {i : Nat} (hd : decode cc pc = .ok (.iload_n k0, 1)) (hi : (k0 : Nat) = i) : zOk mi own cc nL ret ini pc (oLdI i (pc + 1)) := by
  refine ⟨fun E b ls st σ => ?_, fun D cy d p l e R s m args below meth c σ0 out Q E hE hC k b ls st σ h hk H locs cells slots lsA hP hM hS hL hc hs => ?_⟩
  · unfold oLdI
    rcases ls[i]? with _ | x | o
    · exact Or.inl ⟨_, fun _ => rfl⟩
    · exact Or.inr ⟨_, _, _, _, _, fun _ => rfl⟩
    · exact Or.inl ⟨_, fun _ => rfl⟩
  · unfold oLdI at h
    rcases hx : ls[i]? with _ | x | o <;> rw [hx] at h
    · cases h
    · exact lv_iload_n hC.1 hC.2.1 hd hi (hL.at hx rfl) (hk _ _ _ _ _ h H locs cells slots lsA hP hM hS hL hc hs)
    · cases h
theorem ok_aload {i : Nat} (hd : decode cc pc = .ok (.aload i, 2)) : zOk mi own cc nL ret ini pc (oLdR i (pc + 2)) := by
  refine ⟨fun E b ls st σ => ?_, fun D cy d p l e R s m args below meth c σ0 out Q E hE hC k b ls st σ h hk H locs cells slots lsA hP hM hS hL hc hs => ?_⟩
  · unfold oLdR
    split
    · exact Or.inr ⟨_, _, _, _, _, fun _ => rfl⟩
    · exact Or.inl ⟨_, fun _ => rfl⟩
  · unfold oLdR at h
    split at h
    · next x hx =>
      cases x with
      | none => exact lv_aloadN hC.1 hC.2.1 hd (hL.at hx rfl) (hk _ _ _ _ _ h H locs cells slots lsA hP hM hS hL hc hs)
      | some x => exact lv_aload hC.1 hC.2.1 hd (hL.at hx rfl) (hk _ _ _ _ _ h H locs cells slots lsA hP hM hS hL hc hs)
    · cases h
theorem ok_aload_n {k0 : Fin 4} {i : Nat} (hd : decode cc pc = .ok (.aload_n k0, 1)) (hi : (k0 : Nat) = i) : zOk mi own cc nL ret ini pc (oLdR i (pc + 1)) := by
  refine ⟨fun E b ls st σ => ?_, fun D cy d p l e R s m args below meth c σ0 out Q E hE hC k b ls st σ h hk H locs cells slots lsA hP hM hS hL hc hs => ?_⟩
  · unfold oLdR
    split
    · exact Or.inr ⟨_, _, _, _, _, fun _ => rfl⟩
    · exact Or.inl ⟨_, fun _ => rfl⟩
  · unfold oLdR at h
    split at h
    · next x hx =>
      cases x with
      | none => exact lv_aload_nN hC.1 hC.2.1 hd hi (hL.at hx rfl) (hk _ _ _ _ _ h H locs cells slots lsA hP hM hS hL hc hs)
      | some x => exact lv_aload_n hC.1 hC.2.1 hd hi (hL.at hx rfl) (hk _ _ _ _ _ h H locs cells slots lsA hP hM hS hL hc hs)
    · cases h
theorem ok_istore {i : Nat} (hd : decode cc pc = .ok (.istore i, 2)) (hlt : i < nL) : zOk mi own cc nL ret ini pc (oStI i (pc + 2)) := by
  refine ⟨fun E b ls st σ => ?_, fun D cy d p l e R s m args below meth c σ0 out Q E hE hC k b ls st σ h hk H locs cells slots lsA hP hM hS hL hc hs => ?_⟩
  · unfold oStI
    split
    · exact Or.inr ⟨_, _, _, _, _, fun _ => rfl⟩
    · exact Or.inl ⟨_, fun _ => rfl⟩
  · unfold oStI at h
    split at h
    · exact lv_istore hC.1 hC.2.1 hd hL.has hlt rfl fun ls2 h2 => (hk _ _ _ _ _ h H locs cells slots ls2 hP hM hS (hL.set hlt rfl h2) hc hs)
    · cases h
theorem ok_istore_n {k0 : Fin 4} {i : Nat} (hd : decode cc pc = .ok (.istore_n k0, 1)) (hi : (k0 : Nat) = i) (hlt : i < nL) : zOk mi own cc nL ret ini pc (oStI i (pc + 1)) := by
  refine ⟨fun E b ls st σ => ?_, fun D cy d p l e R s m args below meth c σ0 out Q E hE hC k b ls st σ h hk H locs cells slots lsA hP hM hS hL hc hs => ?_⟩
  · unfold oStI
    split
    · exact Or.inr ⟨_, _, _, _, _, fun _ => rfl⟩
    · exact Or.inl ⟨_, fun _ => rfl⟩
  · unfold oStI at h
    split at h
    · exact lv_istore_n hC.1 hC.2.1 hd hi hL.has hlt rfl fun ls2 h2 => (hk _ _ _ _ _ h H locs cells slots ls2 hP hM hS (hL.set hlt rfl h2) hc hs)
    · cases h
theorem ok_astore {i : Nat} (hd : decode cc pc = .ok (.astore i, 2)) (hlt : i < nL) : zOk mi own cc nL ret ini pc (oStR i (pc + 2)) := by
  refine ⟨fun E b ls st σ => ?_, fun D cy d p l e R s m args below meth c σ0 out Q E hE hC k b ls st σ h hk H locs cells slots lsA hP hM hS hL hc hs => ?_⟩
  · unfold oStR
    split
    · exact Or.inr ⟨_, _, _, _, _, fun _ => rfl⟩
    · exact Or.inl ⟨_, fun _ => rfl⟩
  · unfold oStR at h
    split at h
    · next x st =>
      cases x with
      | none => exact lv_astoreN hC.1 hC.2.1 hd hL.has hlt rfl fun ls2 h2 => (hk _ _ _ _ _ h H locs cells slots ls2 hP hM hS (hL.set hlt rfl h2) hc hs)
      | some x => exact lv_astore hC.1 hC.2.1 hd hL.has hlt rfl fun ls2 h2 => (hk _ _ _ _ _ h H locs cells slots ls2 hP hM hS (hL.set hlt rfl h2) hc hs)
    · cases h
theorem ok_astore_n {k0 : Fin 4} {i : Nat} (hd : decode cc pc = .ok (.astore_n k0, 1)) (hi : (k0 : Nat) = i) (hlt : i < nL) : zOk mi own cc nL ret ini pc (oStR i (pc + 1)) := by
  refine ⟨fun E b ls st σ => ?_, fun D cy d p l e R s m args below meth c σ0 out Q E hE hC k b ls st σ h hk H locs cells slots lsA hP hM hS hL hc hs => ?_⟩
  · unfold oStR
    split
    · exact Or.inr ⟨_, _, _, _, _, fun _ => rfl⟩
    · exact Or.inl ⟨_, fun _ => rfl⟩
  · unfold oStR at h
    split at h
    · next x st =>
      cases x with
      | none => exact lv_astore_nN hC.1 hC.2.1 hd hi hL.has hlt rfl fun ls2 h2 => (hk _ _ _ _ _ h H locs cells slots ls2 hP hM hS (hL.set hlt rfl h2) hc hs)
      | some x => exact lv_astore_n hC.1 hC.2.1 hd hi hL.has hlt rfl fun ls2 h2 => (hk _ _ _ _ _ h H locs cells slots ls2 hP hM hS (hL.set hlt rfl h2) hc hs)
    · cases h
theorem ok_lload {i : Nat} (hd : decode cc pc = .ok (.lload i, 2)) : zOk mi own cc nL ret ini pc (oLdL i (pc + 2)) := by
  refine ⟨fun E b ls st σ => ?_, fun D cy d p l e R s m args below meth c σ0 out Q E hE hC k b ls st σ h hk H locs cells slots lsA hP hM hS hL hc hs => ?_⟩
  · unfold oLdL
    split
    · exact Or.inr ⟨_, _, _, _, _, fun _ => rfl⟩
    · exact Or.inl ⟨_, fun _ => rfl⟩
  · unfold oLdL at h
    split at h
    · next w hx hn => exact lv_lload hC.1 hC.2.1 hd (hL.atL hx hn) (hk _ _ _ _ _ h H locs cells slots lsA hP hM hS hL hc hs)
    · cases h
theorem ok_lload_n {k0 : Fin 4} {i : Nat} (hd : decode cc pc = .ok (.lload_n k0, 1)) (hi : (k0 : Nat) = i) : zOk mi own cc nL ret ini pc (oLdL i (pc + 1)) := by
  refine ⟨fun E b ls st σ => ?_, fun D cy d p l e R s m args below meth c σ0 out Q E hE hC k b ls st σ h hk H locs cells slots lsA hP hM hS hL hc hs => ?_⟩
  · unfold oLdL
    split
    · exact Or.inr ⟨_, _, _, _, _, fun _ => rfl⟩
    · exact Or.inl ⟨_, fun _ => rfl⟩
  · unfold oLdL at h
    split at h
    · next w hx hn => exact lv_lload_n hC.1 hC.2.1 hd hi (hL.atL hx hn) (hk _ _ _ _ _ h H locs cells slots lsA hP hM hS hL hc hs)
    · cases h
theorem ok_lstore {i : Nat} (hd : decode cc pc = .ok (.lstore i, 2)) (hlt : i + 1 < nL) : zOk mi own cc nL ret ini pc (oStL i (pc + 2)) := by
  refine ⟨fun E b ls st σ => ?_, fun D cy d p l e R s m args below meth c σ0 out Q E hE hC k b ls st σ h hk H locs cells slots lsA hP hM hS hL hc hs => ?_⟩
  · unfold oStL
    split
    · exact Or.inr ⟨_, _, _, _, _, fun _ => rfl⟩
    · exact Or.inl ⟨_, fun _ => rfl⟩
  · unfold oStL at h
    split at h
    · exact lv_lstore hC.1 hC.2.1 hd hL.has hlt rfl fun ls2 h2 => (hk _ _ _ _ _ h H locs cells slots ls2 hP hM hS (hL.setL hlt h2) hc hs)
    · cases h
theorem ok_lstore_n {k0 : Fin 4} {i : Nat} (hd : decode cc pc = .ok (.lstore_n k0, 1)) (hi : (k0 : Nat) = i) (hlt : i + 1 < nL) : zOk mi own cc nL ret ini pc (oStL i (pc + 1)) := by
  refine ⟨fun E b ls st σ => ?_, fun D cy d p l e R s m args below meth c σ0 out Q E hE hC k b ls st σ h hk H locs cells slots lsA hP hM hS hL hc hs => ?_⟩
  · unfold oStL
    split
    · exact Or.inr ⟨_, _, _, _, _, fun _ => rfl⟩
    · exact Or.inl ⟨_, fun _ => rfl⟩
  · unfold oStL at h
    split at h
    · exact lv_lstore_n hC.1 hC.2.1 hd hi hL.has hlt rfl fun ls2 h2 => (hk _ _ _ _ _ h H locs cells slots ls2 hP hM hS (hL.setL hlt h2) hc hs)
    · cases h
theorem ok_iinc {i : Nat} {w0 : Int} {w : Int32} (hd : decode cc pc = .ok (.iinc i w0, 3)) (hw : Int32.ofInt w0 = w) : zOk mi own cc nL ret ini pc (oInc i w (pc + 3)) := by
  refine ⟨fun E b ls st σ => ?_, fun D cy d p l e R s m args below meth c σ0 out Q E hE hC k b ls st σ h hk H locs cells slots lsA hP hM hS hL hc hs => ?_⟩
  · unfold oInc
    split
    · exact Or.inr ⟨_, _, _, _, _, fun _ => rfl⟩
    · exact Or.inl ⟨_, fun _ => rfl⟩
  · subst hw
    unfold oInc at h
    split at h
    · next x hx =>
      have hlt := hL.len hx
      obtain ⟨j, hj⟩ := List.getElem?_of_mem (zAs_mem hx rfl)
      exact lv_iinc hC.1 hC.2.1 hd hL.has hj rfl hlt rfl fun ls2 h2 => (hk _ _ _ _ _ h H locs cells slots ls2 hP hM hS (hL.set hlt rfl h2) hc hs)
    · cases h
theorem ok_iadd (hd : decode cc pc = .ok (.iadd, 1)) : zOk mi own cc nL ret ini pc (oBin (fun x y => x + y) (pc + 1)) := by
  refine ⟨fun E b ls st σ => ?_, fun D cy d p l e R s m args below meth c σ0 out Q E hE hC k b ls st σ h hk H locs cells slots lsA hP hM hS hL hc hs => ?_⟩
  · unfold oBin
    split
    · exact Or.inr ⟨_, _, _, _, _, fun _ => rfl⟩
    · exact Or.inl ⟨_, fun _ => rfl⟩
  · unfold oBin at h
    split at h
    · exact lv_iadd hC.1 hC.2.1 hd (hk _ _ _ _ _ h H locs cells slots lsA hP hM hS hL hc hs)
    · cases h
theorem ok_isub (hd : decode cc pc = .ok (.isub, 1)) : zOk mi own cc nL ret ini pc (oBin (fun x y => x - y) (pc + 1)) := by
  refine ⟨fun E b ls st σ => ?_, fun D cy d p l e R s m args below meth c σ0 out Q E hE hC k b ls st σ h hk H locs cells slots lsA hP hM hS hL hc hs => ?_⟩
  · unfold oBin
    split
    · exact Or.inr ⟨_, _, _, _, _, fun _ => rfl⟩
    · exact Or.inl ⟨_, fun _ => rfl⟩
  · unfold oBin at h
    split at h
    · exact lv_isub hC.1 hC.2.1 hd (hk _ _ _ _ _ h H locs cells slots lsA hP hM hS hL hc hs)
    · cases h
theorem ok_imul (hd : decode cc pc = .ok (.imul, 1)) : zOk mi own cc nL ret ini pc (oBin (fun x y => x * y) (pc + 1)) := by
  refine ⟨fun E b ls st σ => ?_, fun D cy d p l e R s m args below meth c σ0 out Q E hE hC k b ls st σ h hk H locs cells slots lsA hP hM hS hL hc hs => ?_⟩
  · unfold oBin
    split
    · exact Or.inr ⟨_, _, _, _, _, fun _ => rfl⟩
    · exact Or.inl ⟨_, fun _ => rfl⟩
  · unfold oBin at h
    split at h
    · exact lv_imul hC.1 hC.2.1 hd (hk _ _ _ _ _ h H locs cells slots lsA hP hM hS hL hc hs)
    · cases h
theorem ok_iand (hd : decode cc pc = .ok (.iand, 1)) : zOk mi own cc nL ret ini pc (oBin (fun x y => x &&& y) (pc + 1)) := by
  refine ⟨fun E b ls st σ => ?_, fun D cy d p l e R s m args below meth c σ0 out Q E hE hC k b ls st σ h hk H locs cells slots lsA hP hM hS hL hc hs => ?_⟩
  · unfold oBin
    split
    · exact Or.inr ⟨_, _, _, _, _, fun _ => rfl⟩
    · exact Or.inl ⟨_, fun _ => rfl⟩
  · unfold oBin at h
    split at h
    · exact lv_iand hC.1 hC.2.1 hd (hk _ _ _ _ _ h H locs cells slots lsA hP hM hS hL hc hs)
    · cases h
theorem ok_ior (hd : decode cc pc = .ok (.ior, 1)) : zOk mi own cc nL ret ini pc (oBin (fun x y => x ||| y) (pc + 1)) := by
  refine ⟨fun E b ls st σ => ?_, fun D cy d p l e R s m args below meth c σ0 out Q E hE hC k b ls st σ h hk H locs cells slots lsA hP hM hS hL hc hs => ?_⟩
  · unfold oBin
    split
    · exact Or.inr ⟨_, _, _, _, _, fun _ => rfl⟩
    · exact Or.inl ⟨_, fun _ => rfl⟩
  · unfold oBin at h
    split at h
    · exact lv_ior hC.1 hC.2.1 hd (hk _ _ _ _ _ h H locs cells slots lsA hP hM hS hL hc hs)
    · cases h
theorem ok_ixor (hd : decode cc pc = .ok (.ixor, 1)) : zOk mi own cc nL ret ini pc (oBin (fun x y => x ^^^ y) (pc + 1)) := by
  refine ⟨fun E b ls st σ => ?_, fun D cy d p l e R s m args below meth c σ0 out Q E hE hC k b ls st σ h hk H locs cells slots lsA hP hM hS hL hc hs => ?_⟩
  · unfold oBin
    split
    · exact Or.inr ⟨_, _, _, _, _, fun _ => rfl⟩
    · exact Or.inl ⟨_, fun _ => rfl⟩
  · unfold oBin at h
    split at h
    · exact lv_ixor hC.1 hC.2.1 hd (hk _ _ _ _ _ h H locs cells slots lsA hP hM hS hL hc hs)
    · cases h
theorem ok_ishl (hd : decode cc pc = .ok (.ishl, 1)) : zOk mi own cc nL ret ini pc (oBin (fun x y => x <<< (y &&& 31)) (pc + 1)) := by
  refine ⟨fun E b ls st σ => ?_, fun D cy d p l e R s m args below meth c σ0 out Q E hE hC k b ls st σ h hk H locs cells slots lsA hP hM hS hL hc hs => ?_⟩
  · unfold oBin
    split
    · exact Or.inr ⟨_, _, _, _, _, fun _ => rfl⟩
    · exact Or.inl ⟨_, fun _ => rfl⟩
  · unfold oBin at h
    split at h
    · exact lv_ishl hC.1 hC.2.1 hd (hk _ _ _ _ _ h H locs cells slots lsA hP hM hS hL hc hs)
    · cases h
theorem ok_ishr (hd : decode cc pc = .ok (.ishr, 1)) : zOk mi own cc nL ret ini pc (oBin (fun x y => x >>> (y &&& 31)) (pc + 1)) := by
  refine ⟨fun E b ls st σ => ?_, fun D cy d p l e R s m args below meth c σ0 out Q E hE hC k b ls st σ h hk H locs cells slots lsA hP hM hS hL hc hs => ?_⟩
  · unfold oBin
    split
    · exact Or.inr ⟨_, _, _, _, _, fun _ => rfl⟩
    · exact Or.inl ⟨_, fun _ => rfl⟩
  · unfold oBin at h
    split at h
    · exact lv_ishr hC.1 hC.2.1 hd (hk _ _ _ _ _ h H locs cells slots lsA hP hM hS hL hc hs)
    · cases h
theorem ok_idiv (hd : decode cc pc = .ok (.idiv, 1)) : zOk mi own cc nL ret ini pc (oDvd (fun x y => x / y) (pc + 1)) := by
  refine ⟨fun E b ls st σ => ?_, fun D cy d p l e R s m args below meth c σ0 out Q E hE hC k b ls st σ h hk H locs cells slots lsA hP hM hS hL hc hs => ?_⟩
  · unfold oDvd
    split
    · split
      · exact Or.inl ⟨_, fun _ => rfl⟩
      · exact Or.inr ⟨_, _, _, _, _, fun _ => rfl⟩
    · exact Or.inl ⟨_, fun _ => rfl⟩
  · unfold oDvd at h
    split at h
    · split at h
      · cases h
      · next hy => exact lv_idiv hC.1 hC.2.1 hd hy (hk _ _ _ _ _ h H locs cells slots lsA hP hM hS hL hc hs)
    · cases h
theorem ok_irem (hd : decode cc pc = .ok (.irem, 1)) : zOk mi own cc nL ret ini pc (oDvd (fun x y => x - x / y * y) (pc + 1)) := by
  refine ⟨fun E b ls st σ => ?_, fun D cy d p l e R s m args below meth c σ0 out Q E hE hC k b ls st σ h hk H locs cells slots lsA hP hM hS hL hc hs => ?_⟩
  · unfold oDvd
    split
    · split
      · exact Or.inl ⟨_, fun _ => rfl⟩
      · exact Or.inr ⟨_, _, _, _, _, fun _ => rfl⟩
    · exact Or.inl ⟨_, fun _ => rfl⟩
  · unfold oDvd at h
    split at h
    · split at h
      · cases h
      · next hy => exact lv_irem hC.1 hC.2.1 hd hy (hk _ _ _ _ _ h H locs cells slots lsA hP hM hS hL hc hs)
    · cases h
theorem ok_ineg (hd : decode cc pc = .ok (.ineg, 1)) : zOk mi own cc nL ret ini pc (oUn (fun x => -x) (pc + 1)) := by
  refine ⟨fun E b ls st σ => ?_, fun D cy d p l e R s m args below meth c σ0 out Q E hE hC k b ls st σ h hk H locs cells slots lsA hP hM hS hL hc hs => ?_⟩
  · unfold oUn
    split
    · exact Or.inr ⟨_, _, _, _, _, fun _ => rfl⟩
    · exact Or.inl ⟨_, fun _ => rfl⟩
  · unfold oUn at h
    split at h
    · exact lv_ineg hC.1 hC.2.1 hd (hk _ _ _ _ _ h H locs cells slots lsA hP hM hS hL hc hs)
    · cases h
theorem ok_i2c (hd : decode cc pc = .ok (.i2c, 1)) : zOk mi own cc nL ret ini pc (oUn (fun x => (x.toUInt32 % 65536).toInt32) (pc + 1)) := by
  refine ⟨fun E b ls st σ => ?_, fun D cy d p l e R s m args below meth c σ0 out Q E hE hC k b ls st σ h hk H locs cells slots lsA hP hM hS hL hc hs => ?_⟩
  · unfold oUn
    split
    · exact Or.inr ⟨_, _, _, _, _, fun _ => rfl⟩
    · exact Or.inl ⟨_, fun _ => rfl⟩
  · unfold oUn at h
    split at h
    · exact lv_i2c hC.1 hC.2.1 hd rfl (hk _ _ _ _ _ h H locs cells slots lsA hP hM hS hL hc hs)
    · cases h
theorem ok_i2l (hd : decode cc pc = .ok (.i2l, 1)) : zOk mi own cc nL ret ini pc (oI2l (pc + 1)) := by
  refine ⟨fun E b ls st σ => ?_, fun D cy d p l e R s m args below meth c σ0 out Q E hE hC k b ls st σ h hk H locs cells slots lsA hP hM hS hL hc hs => ?_⟩
  · unfold oI2l
    split
    · exact Or.inr ⟨_, _, _, _, _, fun _ => rfl⟩
    · exact Or.inl ⟨_, fun _ => rfl⟩
  · unfold oI2l at h
    split at h
    · exact lv_i2l hC.1 hC.2.1 hd rfl (hk _ _ _ _ _ h H locs cells slots lsA hP hM hS hL hc hs)
    · cases h
theorem ok_ladd (hd : decode cc pc = .ok (.ladd, 1)) : zOk mi own cc nL ret ini pc (oBinL (fun x y => x + y) (pc + 1)) := by
  refine ⟨fun E b ls st σ => ?_, fun D cy d p l e R s m args below meth c σ0 out Q E hE hC k b ls st σ h hk H locs cells slots lsA hP hM hS hL hc hs => ?_⟩
  · unfold oBinL
    split
    · exact Or.inr ⟨_, _, _, _, _, fun _ => rfl⟩
    · exact Or.inl ⟨_, fun _ => rfl⟩
  · unfold oBinL at h
    split at h
    · exact lv_ladd hC.1 hC.2.1 hd (hk _ _ _ _ _ h H locs cells slots lsA hP hM hS hL hc hs)
    · cases h
theorem ok_lsub (hd : decode cc pc = .ok (.lsub, 1)) : zOk mi own cc nL ret ini pc (oBinL (fun x y => x - y) (pc + 1)) := by
  refine ⟨fun E b ls st σ => ?_, fun D cy d p l e R s m args below meth c σ0 out Q E hE hC k b ls st σ h hk H locs cells slots lsA hP hM hS hL hc hs => ?_⟩
  · unfold oBinL
    split
    · exact Or.inr ⟨_, _, _, _, _, fun _ => rfl⟩
    · exact Or.inl ⟨_, fun _ => rfl⟩
  · unfold oBinL at h
    split at h
    · exact lv_lsub hC.1 hC.2.1 hd (hk _ _ _ _ _ h H locs cells slots lsA hP hM hS hL hc hs)
    · cases h
theorem ok_lmul (hd : decode cc pc = .ok (.lmul, 1)) : zOk mi own cc nL ret ini pc (oBinL (fun x y => x * y) (pc + 1)) := by
  refine ⟨fun E b ls st σ => ?_, fun D cy d p l e R s m args below meth c σ0 out Q E hE hC k b ls st σ h hk H locs cells slots lsA hP hM hS hL hc hs => ?_⟩
  · unfold oBinL
    split
    · exact Or.inr ⟨_, _, _, _, _, fun _ => rfl⟩
    · exact Or.inl ⟨_, fun _ => rfl⟩
  · unfold oBinL at h
    split at h
    · exact lv_lmul hC.1 hC.2.1 hd (hk _ _ _ _ _ h H locs cells slots lsA hP hM hS hL hc hs)
    · cases h
theorem ok_lcmp (hd : decode cc pc = .ok (.lcmp, 1)) : zOk mi own cc nL ret ini pc (oLcmp (pc + 1)) := by
  refine ⟨fun E b ls st σ => ?_, fun D cy d p l e R s m args below meth c σ0 out Q E hE hC k b ls st σ h hk H locs cells slots lsA hP hM hS hL hc hs => ?_⟩
  · unfold oLcmp
    split
    · exact Or.inr ⟨_, _, _, _, _, fun _ => rfl⟩
    · exact Or.inl ⟨_, fun _ => rfl⟩
  · unfold oLcmp at h
    split at h
    · exact W.lcmp hC.1 hC.2.1 hd (hk _ _ _ _ _ h H locs cells slots lsA hP hM hS hL hc hs)
    · cases h
theorem ok_lconst {n : Fin 2} {v : Int64} (hd : decode cc pc = .ok (.lconst n, 1)) (hv : Int64.ofNat (n : Nat) = v) : zOk mi own cc nL ret ini pc (oCst (.inr (.inr (some v))) (pc + 1)) :=
  ⟨fun E b ls st σ => Or.inr ⟨_, _, _, _, _, fun k => rfl⟩, fun D cy d p l e R s m args below meth c σ0 out Q E hE hC k b ls st σ h hk H locs cells slots lsA hP hM hS hL hc hs => 
    lv_lconst hC.1 hC.2.1 hd hv (hk _ _ _ _ _ h H locs cells slots lsA hP hM hS hL hc hs)⟩
theorem ok_ldc2 {index : Nat} {v : Int64} (hd : decode cc pc = .ok (.ldc2_w index, 3)) (hw : Cond.constantLong own index v ∈ lw_tbl) : zOk mi own cc nL ret ini pc (oCst (.inr (.inr (some v))) (pc + 3)) :=
  ⟨fun E b ls st σ => Or.inr ⟨_, _, _, _, _, fun k => rfl⟩, fun D cy d p l e R s m args below meth c σ0 out Q E hE hC k b ls st σ h hk H locs cells slots lsA hP hM hS hL hc hs => 
    lv_ldc2 hC.1 hC.2.1 hC.2.2.2.1 (hC.2.2.2.2.1 _ hw rfl _) hd (hk _ _ _ _ _ h H locs cells slots lsA hP hM hS hL hc hs)⟩
theorem ok_ldc {index : Nat} {v : Int32} (hd : decode cc pc = .ok (.ldc index, 2)) (hw : Cond.constant own index v ∈ lw_tbl) : zOk mi own cc nL ret ini pc (oCst (.inl v) (pc + 2)) :=
  ⟨fun E b ls st σ => Or.inr ⟨_, _, _, _, _, fun k => rfl⟩, fun D cy d p l e R s m args below meth c σ0 out Q E hE hC k b ls st σ h hk H locs cells slots lsA hP hM hS hL hc hs => 
    lv_ldc hC.1 hC.2.1 hC.2.2.2.1 (hC.2.2.2.2.1 _ hw rfl _) hd (hk _ _ _ _ _ h H locs cells slots lsA hP hM hS hL hc hs)⟩
theorem ok_dup (hd : decode cc pc = .ok (.dup, 1)) : zOk mi own cc nL ret ini pc (oDup (pc + 1)) := by
  refine ⟨fun E b ls st σ => ?_, fun D cy d p l e R s m args below meth c σ0 out Q E hE hC k b ls st σ h hk H locs cells slots lsA hP hM hS hL hc hs => ?_⟩
  · unfold oDup
    split
    · exact Or.inr ⟨_, _, _, _, _, fun _ => rfl⟩
    · exact Or.inr ⟨_, _, _, _, _, fun _ => rfl⟩
    · exact Or.inl ⟨_, fun _ => rfl⟩
  · unfold oDup at h
    split at h
    · exact lv_dup hC.1 hC.2.1 hd rfl (hk _ _ _ _ _ h H locs cells slots lsA hP hM hS hL hc hs)
    · next x st => exact lv_dup hC.1 hC.2.1 hd (zcat_1 (v := .inr (.inl x)) rfl) (hk _ _ _ _ _ h H locs cells slots lsA hP hM hS hL hc hs)
    · cases h
theorem ok_dup2 (hd : decode cc pc = .ok (.dup2, 1)) : zOk mi own cc nL ret ini pc (oDup2 (pc + 1)) := by
  refine ⟨fun E b ls st σ => ?_, fun D cy d p l e R s m args below meth c σ0 out Q E hE hC k b ls st σ h hk H locs cells slots lsA hP hM hS hL hc hs => ?_⟩
  · unfold oDup2
    split
    · exact Or.inr ⟨_, _, _, _, _, fun _ => rfl⟩
    · exact Or.inl ⟨_, fun _ => rfl⟩
  · unfold oDup2 at h
    split at h
    · next x y st => exact lv_dup2_11 hC.1 hC.2.1 hd rfl (zcat_1 (v := .inr (.inl y)) rfl) (hk _ _ _ _ _ h H locs cells slots lsA hP hM hS hL hc hs)
    · cases h
theorem ok_pop (hd : decode cc pc = .ok (.pop, 1)) : zOk mi own cc nL ret ini pc (oPop (pc + 1)) := by
  refine ⟨fun E b ls st σ => ?_, fun D cy d p l e R s m args below meth c σ0 out Q E hE hC k b ls st σ h hk H locs cells slots lsA hP hM hS hL hc hs => ?_⟩
  · unfold oPop
    split
    · exact Or.inr ⟨_, _, _, _, _, fun _ => rfl⟩
    · exact Or.inr ⟨_, _, _, _, _, fun _ => rfl⟩
    · exact Or.inl ⟨_, fun _ => rfl⟩
  · unfold oPop at h
    split at h
    · exact lv_pop hC.1 hC.2.1 hd rfl (hk _ _ _ _ _ h H locs cells slots lsA hP hM hS hL hc hs)
    · next x st => exact lv_pop hC.1 hC.2.1 hd (zcat_1 (v := .inr (.inl x)) rfl) (hk _ _ _ _ _ h H locs cells slots lsA hP hM hS hL hc hs)
    · cases h
theorem ok_icmp_eq {off : Int} {tgt : Nat} (hd : decode cc pc = .ok (.if_icmp .eq off, 3)) (ht : (pc : Int) + off = (tgt : Int)) : zOk mi own cc nL ret ini pc (oEq tgt (pc + 3)) := by
  refine ⟨fun E b ls st σ => ?_, fun D cy d p l e R s m args below meth c σ0 out Q E hE hC k b ls st σ h hk H locs cells slots lsA hP hM hS hL hc hs => ?_⟩
  · unfold oEq
    split
    · split
      · exact Or.inr ⟨_, _, _, _, _, fun _ => rfl⟩
      · exact Or.inr ⟨_, _, _, _, _, fun _ => rfl⟩
    · exact Or.inl ⟨_, fun _ => rfl⟩
  · unfold oEq at h
    split at h
    · 
      exact lv_icmp_eq hC.1 hC.2.1 hd ht (fun q => by rw [if_pos q] at h; exact (hk _ _ _ _ _ h H locs cells slots lsA hP hM hS hL hc hs)) (fun q => by rw [if_neg q] at h; exact (hk _ _ _ _ _ h H locs cells slots lsA hP hM hS hL hc hs))
    · cases h
theorem ok_if_eq {off : Int} {tgt : Nat} (hd : decode cc pc = .ok (.ifCond .eq off, 3)) (ht : (pc : Int) + off = (tgt : Int)) : zOk mi own cc nL ret ini pc (oEq0 tgt (pc + 3)) := by
  refine ⟨fun E b ls st σ => ?_, fun D cy d p l e R s m args below meth c σ0 out Q E hE hC k b ls st σ h hk H locs cells slots lsA hP hM hS hL hc hs => ?_⟩
  · unfold oEq0
    split
    · split
      · exact Or.inr ⟨_, _, _, _, _, fun _ => rfl⟩
      · exact Or.inr ⟨_, _, _, _, _, fun _ => rfl⟩
    · exact Or.inl ⟨_, fun _ => rfl⟩
  · unfold oEq0 at h
    split at h
    · 
      exact lv_if_eq hC.1 hC.2.1 hd ht (fun q => by rw [if_pos q] at h; exact (hk _ _ _ _ _ h H locs cells slots lsA hP hM hS hL hc hs)) (fun q => by rw [if_neg q] at h; exact (hk _ _ _ _ _ h H locs cells slots lsA hP hM hS hL hc hs))
    · cases h
theorem ok_icmp_ne {off : Int} {tgt : Nat} (hd : decode cc pc = .ok (.if_icmp .ne off, 3)) (ht : (pc : Int) + off = (tgt : Int)) : zOk mi own cc nL ret ini pc (oEq (pc + 3) tgt) := by
  refine ⟨fun E b ls st σ => ?_, fun D cy d p l e R s m args below meth c σ0 out Q E hE hC k b ls st σ h hk H locs cells slots lsA hP hM hS hL hc hs => ?_⟩
  · unfold oEq
    split
    · split
      · exact Or.inr ⟨_, _, _, _, _, fun _ => rfl⟩
      · exact Or.inr ⟨_, _, _, _, _, fun _ => rfl⟩
    · exact Or.inl ⟨_, fun _ => rfl⟩
  · unfold oEq at h
    split at h
    · 
      exact lv_icmp_ne hC.1 hC.2.1 hd ht (fun q => by rw [if_neg (q)] at h; exact (hk _ _ _ _ _ h H locs cells slots lsA hP hM hS hL hc hs)) (fun q => by rw [if_pos (q)] at h; exact (hk _ _ _ _ _ h H locs cells slots lsA hP hM hS hL hc hs))
    · cases h
theorem ok_if_ne {off : Int} {tgt : Nat} (hd : decode cc pc = .ok (.ifCond .ne off, 3)) (ht : (pc : Int) + off = (tgt : Int)) : zOk mi own cc nL ret ini pc (oEq0 (pc + 3) tgt) := by
  refine ⟨fun E b ls st σ => ?_, fun D cy d p l e R s m args below meth c σ0 out Q E hE hC k b ls st σ h hk H locs cells slots lsA hP hM hS hL hc hs => ?_⟩
  · unfold oEq0
    split
    · split
      · exact Or.inr ⟨_, _, _, _, _, fun _ => rfl⟩
      · exact Or.inr ⟨_, _, _, _, _, fun _ => rfl⟩
    · exact Or.inl ⟨_, fun _ => rfl⟩
  · unfold oEq0 at h
    split at h
    · 
      exact lv_if_ne hC.1 hC.2.1 hd ht (fun q => by rw [if_neg (q)] at h; exact (hk _ _ _ _ _ h H locs cells slots lsA hP hM hS hL hc hs)) (fun q => by rw [if_pos (q)] at h; exact (hk _ _ _ _ _ h H locs cells slots lsA hP hM hS hL hc hs))
    · cases h
theorem ok_icmp_lt {off : Int} {tgt : Nat} (hd : decode cc pc = .ok (.if_icmp .lt off, 3)) (ht : (pc : Int) + off = (tgt : Int)) : zOk mi own cc nL ret ini pc (oLt tgt (pc + 3)) := by
  refine ⟨fun E b ls st σ => ?_, fun D cy d p l e R s m args below meth c σ0 out Q E hE hC k b ls st σ h hk H locs cells slots lsA hP hM hS hL hc hs => ?_⟩
  · unfold oLt
    split
    · split
      · exact Or.inr ⟨_, _, _, _, _, fun _ => rfl⟩
      · exact Or.inr ⟨_, _, _, _, _, fun _ => rfl⟩
    · exact Or.inl ⟨_, fun _ => rfl⟩
  · unfold oLt at h
    split at h
    · 
      exact lv_icmp_lt hC.1 hC.2.1 hd ht (fun q => by rw [if_pos q] at h; exact (hk _ _ _ _ _ h H locs cells slots lsA hP hM hS hL hc hs)) (fun q => by rw [if_neg q] at h; exact (hk _ _ _ _ _ h H locs cells slots lsA hP hM hS hL hc hs))
    · cases h
theorem ok_if_lt {off : Int} {tgt : Nat} (hd : decode cc pc = .ok (.ifCond .lt off, 3)) (ht : (pc : Int) + off = (tgt : Int)) : zOk mi own cc nL ret ini pc (oLt0 tgt (pc + 3)) := by
  refine ⟨fun E b ls st σ => ?_, fun D cy d p l e R s m args below meth c σ0 out Q E hE hC k b ls st σ h hk H locs cells slots lsA hP hM hS hL hc hs => ?_⟩
  · unfold oLt0
    split
    · split
      · exact Or.inr ⟨_, _, _, _, _, fun _ => rfl⟩
      · exact Or.inr ⟨_, _, _, _, _, fun _ => rfl⟩
    · exact Or.inl ⟨_, fun _ => rfl⟩
  · unfold oLt0 at h
    split at h
    · 
      exact lv_if_lt hC.1 hC.2.1 hd ht (fun q => by rw [if_pos q] at h; exact (hk _ _ _ _ _ h H locs cells slots lsA hP hM hS hL hc hs)) (fun q => by rw [if_neg q] at h; exact (hk _ _ _ _ _ h H locs cells slots lsA hP hM hS hL hc hs))
    · cases h
theorem ok_icmp_ge {off : Int} {tgt : Nat} (hd : decode cc pc = .ok (.if_icmp .ge off, 3)) (ht : (pc : Int) + off = (tgt : Int)) : zOk mi own cc nL ret ini pc (oLt (pc + 3) tgt) := by
  refine ⟨fun E b ls st σ => ?_, fun D cy d p l e R s m args below meth c σ0 out Q E hE hC k b ls st σ h hk H locs cells slots lsA hP hM hS hL hc hs => ?_⟩
  · unfold oLt
    split
    · split
      · exact Or.inr ⟨_, _, _, _, _, fun _ => rfl⟩
      · exact Or.inr ⟨_, _, _, _, _, fun _ => rfl⟩
    · exact Or.inl ⟨_, fun _ => rfl⟩
  · unfold oLt at h
    split at h
    · 
      exact lv_icmp_ge hC.1 hC.2.1 hd ht (fun q => by rw [if_neg (Int32.not_lt.mpr q)] at h; exact (hk _ _ _ _ _ h H locs cells slots lsA hP hM hS hL hc hs)) (fun q => by rw [if_pos (Int32.not_le.mp q)] at h; exact (hk _ _ _ _ _ h H locs cells slots lsA hP hM hS hL hc hs))
    · cases h
theorem ok_if_ge {off : Int} {tgt : Nat} (hd : decode cc pc = .ok (.ifCond .ge off, 3)) (ht : (pc : Int) + off = (tgt : Int)) : zOk mi own cc nL ret ini pc (oLt0 (pc + 3) tgt) := by
  refine ⟨fun E b ls st σ => ?_, fun D cy d p l e R s m args below meth c σ0 out Q E hE hC k b ls st σ h hk H locs cells slots lsA hP hM hS hL hc hs => ?_⟩
  · unfold oLt0
    split
    · split
      · exact Or.inr ⟨_, _, _, _, _, fun _ => rfl⟩
      · exact Or.inr ⟨_, _, _, _, _, fun _ => rfl⟩
    · exact Or.inl ⟨_, fun _ => rfl⟩
  · unfold oLt0 at h
    split at h
    · 
      exact lv_if_ge hC.1 hC.2.1 hd ht (fun q => by rw [if_neg (Int32.not_lt.mpr q)] at h; exact (hk _ _ _ _ _ h H locs cells slots lsA hP hM hS hL hc hs)) (fun q => by rw [if_pos (Int32.not_le.mp q)] at h; exact (hk _ _ _ _ _ h H locs cells slots lsA hP hM hS hL hc hs))
    · cases h
theorem ok_icmp_le {off : Int} {tgt : Nat} (hd : decode cc pc = .ok (.if_icmp .le off, 3)) (ht : (pc : Int) + off = (tgt : Int)) : zOk mi own cc nL ret ini pc (oLe tgt (pc + 3)) := by
  refine ⟨fun E b ls st σ => ?_, fun D cy d p l e R s m args below meth c σ0 out Q E hE hC k b ls st σ h hk H locs cells slots lsA hP hM hS hL hc hs => ?_⟩
  · unfold oLe
    split
    · split
      · exact Or.inr ⟨_, _, _, _, _, fun _ => rfl⟩
      · exact Or.inr ⟨_, _, _, _, _, fun _ => rfl⟩
    · exact Or.inl ⟨_, fun _ => rfl⟩
  · unfold oLe at h
    split at h
    · 
      exact lv_icmp_le hC.1 hC.2.1 hd ht (fun q => by rw [if_pos q] at h; exact (hk _ _ _ _ _ h H locs cells slots lsA hP hM hS hL hc hs)) (fun q => by rw [if_neg q] at h; exact (hk _ _ _ _ _ h H locs cells slots lsA hP hM hS hL hc hs))
    · cases h
theorem ok_if_le {off : Int} {tgt : Nat} (hd : decode cc pc = .ok (.ifCond .le off, 3)) (ht : (pc : Int) + off = (tgt : Int)) : zOk mi own cc nL ret ini pc (oLe0 tgt (pc + 3)) := by
  refine ⟨fun E b ls st σ => ?_, fun D cy d p l e R s m args below meth c σ0 out Q E hE hC k b ls st σ h hk H locs cells slots lsA hP hM hS hL hc hs => ?_⟩
  · unfold oLe0
    split
    · split
      · exact Or.inr ⟨_, _, _, _, _, fun _ => rfl⟩
      · exact Or.inr ⟨_, _, _, _, _, fun _ => rfl⟩
    · exact Or.inl ⟨_, fun _ => rfl⟩
  · unfold oLe0 at h
    split at h
    · 
      exact lv_if_le hC.1 hC.2.1 hd ht (fun q => by rw [if_pos q] at h; exact (hk _ _ _ _ _ h H locs cells slots lsA hP hM hS hL hc hs)) (fun q => by rw [if_neg q] at h; exact (hk _ _ _ _ _ h H locs cells slots lsA hP hM hS hL hc hs))
    · cases h
theorem ok_icmp_gt {off : Int} {tgt : Nat} (hd : decode cc pc = .ok (.if_icmp .gt off, 3)) (ht : (pc : Int) + off = (tgt : Int)) : zOk mi own cc nL ret ini pc (oLe (pc + 3) tgt) := by
  refine ⟨fun E b ls st σ => ?_, fun D cy d p l e R s m args below meth c σ0 out Q E hE hC k b ls st σ h hk H locs cells slots lsA hP hM hS hL hc hs => ?_⟩
  · unfold oLe
    split
    · split
      · exact Or.inr ⟨_, _, _, _, _, fun _ => rfl⟩
      · exact Or.inr ⟨_, _, _, _, _, fun _ => rfl⟩
    · exact Or.inl ⟨_, fun _ => rfl⟩
  · unfold oLe at h
    split at h
    · 
      exact lv_icmp_gt hC.1 hC.2.1 hd ht (fun q => by rw [if_neg (Int32.not_le.mpr q)] at h; exact (hk _ _ _ _ _ h H locs cells slots lsA hP hM hS hL hc hs)) (fun q => by rw [if_pos (Int32.not_lt.mp q)] at h; exact (hk _ _ _ _ _ h H locs cells slots lsA hP hM hS hL hc hs))
    · cases h
theorem ok_if_gt {off : Int} {tgt : Nat} (hd : decode cc pc = .ok (.ifCond .gt off, 3)) (ht : (pc : Int) + off = (tgt : Int)) : zOk mi own cc nL ret ini pc (oLe0 (pc + 3) tgt) := by
  refine ⟨fun E b ls st σ => ?_, fun D cy d p l e R s m args below meth c σ0 out Q E hE hC k b ls st σ h hk H locs cells slots lsA hP hM hS hL hc hs => ?_⟩
  · unfold oLe0
    split
    · split
      · exact Or.inr ⟨_, _, _, _, _, fun _ => rfl⟩
      · exact Or.inr ⟨_, _, _, _, _, fun _ => rfl⟩
    · exact Or.inl ⟨_, fun _ => rfl⟩
  · unfold oLe0 at h
    split at h
    · 
      exact lv_if_gt hC.1 hC.2.1 hd ht (fun q => by rw [if_neg (Int32.not_le.mpr q)] at h; exact (hk _ _ _ _ _ h H locs cells slots lsA hP hM hS hL hc hs)) (fun q => by rw [if_pos (Int32.not_lt.mp q)] at h; exact (hk _ _ _ _ _ h H locs cells slots lsA hP hM hS hL hc hs))
    · cases h
theorem ok_ifnull {off : Int} {tgt : Nat} (hd : decode cc pc = .ok (.ifnull off, 3)) (ht : (pc : Int) + off = (tgt : Int)) : zOk mi own cc nL ret ini pc (oNul tgt (pc + 3)) := by
  refine ⟨fun E b ls st σ => ?_, fun D cy d p l e R s m args below meth c σ0 out Q E hE hC k b ls st σ h hk H locs cells slots lsA hP hM hS hL hc hs => ?_⟩
  · unfold oNul
    split
    · next x st =>
      cases x with
      | none => exact Or.inr ⟨_, _, _, _, _, fun _ => rfl⟩
      | some x => exact Or.inr ⟨_, _, _, _, _, fun _ => rfl⟩
    · exact Or.inl ⟨_, fun _ => rfl⟩
  · unfold oNul at h
    split at h
    · next x st =>
      cases x with
      | none => exact lv_ifnullN hC.1 hC.2.1 hd ht (hk _ _ _ _ _ h H locs cells slots lsA hP hM hS hL hc hs)
      | some x => exact lv_ifnull hC.1 hC.2.1 hd (hk _ _ _ _ _ h H locs cells slots lsA hP hM hS hL hc hs)
    · cases h
theorem ok_ifnonnull {off : Int} {tgt : Nat} (hd : decode cc pc = .ok (.ifnonnull off, 3)) (ht : (pc : Int) + off = (tgt : Int)) : zOk mi own cc nL ret ini pc (oNul (pc + 3) tgt) := by
  refine ⟨fun E b ls st σ => ?_, fun D cy d p l e R s m args below meth c σ0 out Q E hE hC k b ls st σ h hk H locs cells slots lsA hP hM hS hL hc hs => ?_⟩
  · unfold oNul
    split
    · next x st =>
      cases x with
      | none => exact Or.inr ⟨_, _, _, _, _, fun _ => rfl⟩
      | some x => exact Or.inr ⟨_, _, _, _, _, fun _ => rfl⟩
    · exact Or.inl ⟨_, fun _ => rfl⟩
  · unfold oNul at h
    split at h
    · next x st =>
      cases x with
      | none => exact lv_ifnonnullN hC.1 hC.2.1 hd (hk _ _ _ _ _ h H locs cells slots lsA hP hM hS hL hc hs)
      | some x => exact lv_ifnonnull hC.1 hC.2.1 hd ht (hk _ _ _ _ _ h H locs cells slots lsA hP hM hS hL hc hs)
    · cases h
theorem ok_goto {off : Int} {tgt : Nat} (hd : decode cc pc = .ok (.goto off, 3)) (ht : (pc : Int) + off = (tgt : Int)) : zOk mi own cc nL ret ini pc (oGo tgt) :=
  ⟨fun E b ls st σ => Or.inr ⟨_, _, _, _, _, fun k => rfl⟩, fun D cy d p l e R s m args below meth c σ0 out Q E hE hC k b ls st σ h hk H locs cells slots lsA hP hM hS hL hc hs => 
    lv_goto hC.1 hC.2.1 hd ht (hk _ _ _ _ _ h H locs cells slots lsA hP hM hS hL hc hs)⟩
end OPS
end
section
/-! the steps on fields, rows, new cells -/
def zCl (c : Nat) (C : String) (T : u_T) (N : Nat) (ty : Nat → FieldType) : Prop :=
  vwCl[c]? = some (C, T, N) ∧ (∀ w ∈ u_ws C T N, w ∈ lw_tbl) ∧ (∀ k, k < N → parseFieldDescriptor (T k).2.2.1 = some (ty k)) ∧ (∀ a, a < N → ∀ b, b < N → a ≠ b → (T a).2.1 ≠ (T b).2.1) ∧ (ztg c).length = N ∧ c < 10
theorem zCl.words {c N : Nat} {C : String} {T : u_T} {ty : Nat → FieldType} (h : zCl c C T N ty) {s : State} (hT : zTb s) (A : Array Value) : ∀ w ∈ u_ws C T N, w.before A s = true := by
  intro w hw
  refine hT w (h.2.1 w hw) ?_ A
  obtain ⟨k, -, rfl⟩ := List.mem_map.mp hw
  unfold u_lay
  split <;> rfl
theorem zent_o {cy : Nat → ClassId} {σ : zS} {a c : Nat} (h : zkd σ a = c) (hc : c < 10) : zent cy σ a = .inr (c, zfl σ a c) := by
  unfold zent
  rw [h, if_pos hc]
theorem zent_i {cy : Nat → ClassId} {σ : zS} {a c : Nat} (h : zkd σ a = c) (h1 : 10 ≤ c) (h2 : c < 13) : zent cy σ a = .inl (cy c, zln σ a, .inl (zai σ a)) := by
  unfold zent
  rw [h, if_neg (Nat.not_lt.mpr h1), if_pos h2]
theorem zent_q {cy : Nat → ClassId} {σ : zS} {a c : Nat} (h : zkd σ a = c) (h1 : 13 ≤ c) : zent cy σ a = .inl (cy c, zln σ a, .inr (.inr (.inr (.inr (zar σ a))))) := by
  unfold zent
  rw [h, if_neg (by omega), if_neg (by omega)]
theorem zPool.get {D : va_G} {cy : Nat → ClassId} {σ : zS} {H : Heap} (h : zPool D cy σ H) {a : Nat} (ha : zkd σ a < 16) : ∃ q0 : Nat, (va_pl (zdm σ) (zent cy σ))[q0]? = some (a, zent cy σ a) :=
  va_pl_get (X := []) (h.2.2.2.1 a ha)
theorem zPool.D0 {D : va_G} {cy : Nat → ClassId} {σ σ0 : zS} {H : Heap} (h : zPool D cy σ H) (hM : zSm σ0 σ) : va_D (zA σ0) (va_pl (zdm σ) (zent cy σ)) := by
  refine ⟨h.2.2.1.1, fun k q hq => ?_⟩
  obtain ⟨a, ha, rfl⟩ := List.mem_map.mp (List.mem_of_getElem? hq)
  exact zA.mono hM (Or.inl (h.2.2.2.2 a ha))
/-- one cell has changed, not its kind -/
theorem zPool.put {D : va_G} {cy : Nat → ClassId} {σ τ : zS} {H H1 : Heap} (h : zPool D cy σ H) {a q0 : Nat} {e : va_E} (ha : zkd σ a < 16) (hq : (va_pl (zdm σ) (zent cy σ))[q0]? = some (a, zent cy σ a)) (hz : H1.size = H.size)
    (hP : va_P D vwCl ((va_pl (zdm σ) (zent cy σ)).set q0 (a, e)) H1) (hd : zdm τ = zdm σ) (hk : ∀ b, zkd τ b = zkd σ b) (hn : znx τ = znx σ) (he : ∀ b, zent cy τ b = va_up (zent cy σ) a e b) : zPool D cy τ H1 := by
  have e1 : (va_pl (zdm σ) (zent cy σ)).set q0 (a, e) = va_pl (zdm τ) (zent cy τ) := by
    rw [hd, show zent cy τ = va_up (zent cy σ) a e from funext he]
    exact va_pl_set (X := []) h.2.2.1 (h.2.2.2.1 a ha) hq
  refine ⟨by rw [hz, hn]; exact h.1, by rw [← e1]; exact hP, by rw [← e1]; exact h.2.2.1.set hq, fun b hb => ?_, fun b hb => ?_⟩
  · rw [hd]
    exact h.2.2.2.1 b (by rw [← hk b]; exact hb)
  · rw [hk b]
    exact h.2.2.2.2 b (by rw [← hd]; exact hb)
theorem zfl_get {σ : zS} {a c k t : Nat} (ht : (ztg c)[k]? = some t) : (zfl σ a c)[k]? = some (zfv σ t (64 * c + k) a) := by
  unfold zfl
  rw [List.getElem?_mapIdx, ht]
  rfl
theorem zfl_len {σ : zS} {a c : Nat} : (zfl σ a c).length = (ztg c).length := by unfold zfl; rw [List.length_mapIdx]
/-- a field store, seen from the cells: tags t at k, the rest of the fields and of the cells as before -/
theorem zent_up {cy : Nat → ClassId} {σ τ : zS} {a c k t : Nat} {v : Value} (hka : zkd σ a = c) (hc : c < 10) (ht : (ztg c)[k]? = some t) (hk : zkd τ = zkd σ) (hl : zln τ = zln σ) (hai : zai τ = zai σ) (har : zar τ = zar σ)
    (hv : zfv τ t (64 * c + k) a = v) (ho : ∀ (t' f b : Nat), ¬ (t' = t ∧ f = 64 * c + k ∧ b = a) → t' < 3 → zfv τ t' f b = zfv σ t' f b) (hr : ∀ c', c' < 10 → ∀ t' ∈ ztg c', t' < 3) : ∀ b, zent cy τ b = va_up (zent cy σ) a (.inr (c, (zfl σ a c).set k v)) b := by
  intro b
  have hkl : k < (ztg c).length := (List.getElem?_eq_some_iff.mp ht).1
  by_cases hb : b = a
  · subst hb
    rw [va_up_self, zent_o (c := c) (by rw [hk]; exact hka) hc]
    congr 2
    apply List.ext_getElem?
    intro j
    by_cases hj : j = k
    · subst hj
      rw [zfl_get ht, List.getElem?_set_self (by rw [zfl_len]; exact hkl), hv]
    · rw [List.getElem?_set_ne (Ne.symm hj)]
      cases hjt : (ztg c)[j]? with
      | none =>
        have : (ztg c).length ≤ j := List.getElem?_eq_none_iff.mp hjt
        rw [List.getElem?_eq_none_iff.mpr (by rw [zfl_len]; exact this), List.getElem?_eq_none_iff.mpr (by rw [zfl_len]; exact this)]
      | some t' =>
        rw [zfl_get hjt, zfl_get hjt, ho t' _ _ (fun q => hj (by omega)) (hr c hc t' (List.mem_of_getElem? hjt))]
  · rw [va_up_ne _ _ hb]
    unfold zent
    rw [hk, hl, hai, har]
    by_cases hkb : zkd σ b < 10
    · rw [if_pos hkb, if_pos hkb]
      congr 2
      unfold zfl
      apply List.ext_getElem?
      intro j
      rw [List.getElem?_mapIdx, List.getElem?_mapIdx]
      cases hjt : (ztg (zkd σ b))[j]? with
      | none => rfl
      | some t' => exact congrArg some (ho t' _ _ (fun q => hb q.2.2) (hr _ hkb t' (List.mem_of_getElem? hjt)))
    · rw [if_neg hkb, if_neg hkb]
theorem ztg_3 : ∀ c', c' < 10 → ∀ t' ∈ ztg c', t' < 3 := by decide +kernel
theorem zfv_si {σ : zS} {f a : Nat} {x : Int32} : ∀ (t' f' b : Nat), ¬ (t' = 0 ∧ f' = f ∧ b = a) → t' < 3 → zfv (zsi σ f a x) t' f' b = zfv σ t' f' b := by
  intro t' f' b h h3
  match t', h3 with
  | 0, _ => simp only [zfv, zi, zsi, zu2]; rw [if_neg (fun q => h ⟨rfl, q⟩)]
  | 1, _ => rfl
  | 2, _ => rfl
theorem zfv_sr {σ : zS} {f a : Nat} {x : Option Nat} : ∀ (t' f' b : Nat), ¬ (t' = 1 ∧ f' = f ∧ b = a) → t' < 3 → zfv (zsr σ f a x) t' f' b = zfv σ t' f' b := by
  intro t' f' b h h3
  match t', h3 with
  | 0, _ => rfl
  | 1, _ => simp only [zfv, zr, zsr, zu2]; rw [if_neg (fun q => h ⟨rfl, q⟩)]
  | 2, _ => rfl
theorem zfv_sl {σ : zS} {f a : Nat} {x : Int64} : ∀ (t' f' b : Nat), ¬ (t' = 2 ∧ f' = f ∧ b = a) → t' < 3 → zfv (zsl σ f a x) t' f' b = zfv σ t' f' b := by
  intro t' f' b h h3
  match t', h3 with
  | 0, _ => rfl
  | 1, _ => rfl
  | 2, _ => simp only [zfv, zl, zsl, zu2]; rw [if_neg (fun q => h ⟨rfl, q⟩)]
theorem zSm_si {σ0 σ : zS} (h : zSm σ0 σ) (f a : Nat) (x : Int32) : zSm σ0 (zsi σ f a x) := h
theorem zSm_sl {σ0 σ : zS} (h : zSm σ0 σ) (f a : Nat) (x : Int64) : zSm σ0 (zsl σ f a x) := h
theorem zSm_sr {σ0 σ : zS} (h : zSm σ0 σ) {f : Nat} (hf : f < 640) (a : Nat) (x : Option Nat) : zSm σ0 (zsr σ f a x) := by
  refine ⟨h.1, h.2.1, fun g hg j => ?_, h.2.2.2⟩
  show zu2 σ.2.1 f a x g j = _
  unfold zu2
  rw [if_neg (fun q => by omega)]
  exact h.2.2.1 g hg j
theorem zSm_sa {σ0 σ : zS} (h : zSm σ0 σ) {a : Nat} (ha : zkd σ a < 16) (i : Nat) (x : Int32) : zSm σ0 (zsa σ a i x) := by
  refine ⟨h.1, h.2.1, h.2.2.1, fun q hq => ?_⟩
  obtain ⟨h1, h2, h3⟩ := h.2.2.2 q hq
  refine ⟨h1, h2, fun j => ?_⟩
  show zu2 σ.2.2.2.1 a i x q j = _
  unfold zu2
  rw [if_neg]
  · exact h3 j
  · rintro ⟨rfl, -⟩
    exact absurd ha (Nat.not_lt.mpr hq)
theorem zSm_sq {σ0 σ : zS} (h : zSm σ0 σ) (a i : Nat) (x : Option Nat) : zSm σ0 (zsq σ a i x) := h
section HEAP
variable {mi : Nat → MethodName × ByteArray × Nat × Option FieldType × Nat × Nat} {own : String} {cc : ByteArray} {nL : Nat} {ret : Option FieldType} {ini : Bool} {pc : Nat}
theorem lin_chk {op : zK → zO} {c : Prop} [Decidable c] {pc' : Nat} {b' : Nat × Nat} {ls' st' : List zV} {σ' : zS} (h : ∀ k, op k = chk c (k pc' b' ls' st' σ')) : (∃ c, ∀ k, op k = c) ∨ ∃ pc b' ls' st' σ', ∀ k, op k = k pc b' ls' st' σ' := by
  by_cases hc : c
  · exact Or.inr ⟨_, _, _, _, _, fun k => by rw [h k]; exact if_pos hc⟩
  · exact Or.inl ⟨none, fun k => by rw [h k]; exact if_neg hc⟩
theorem lin_onR {op : zK → zO} {o : Option Nat} {g : zK → Nat → zO} (h : ∀ k, op k = onR o (g k)) (hg : ∀ a, (∃ c, ∀ k, g k a = c) ∨ ∃ pc b' ls' st' σ', ∀ k, g k a = k pc b' ls' st' σ') : (∃ c, ∀ k, op k = c) ∨ ∃ pc b' ls' st' σ', ∀ k, op k = k pc b' ls' st' σ' := by
  cases o with
  | none => exact Or.inl ⟨none, fun k => by rw [h k]; rfl⟩
  | some a =>
    rcases hg a with ⟨c, hc⟩ | ⟨pc, b', ls', st', σ', hc⟩
    · exact Or.inl ⟨c, fun k => by rw [h k]; exact hc k⟩
    · exact Or.inr ⟨pc, b', ls', st', σ', fun k => by rw [h k]; exact hc k⟩
variable {p : Program} {l : Launch} {e : Env} {R : Room} {s : State} {m : MethodId} {args : Array Value} {below : List Frame} {meth : Method} {c : Code} {H : Heap} {locs : List Loc} {cells slots : Nat} {Q : State → Prop}
variable {ls : Array Slot} {rest : List Value} {D : va_G} {A : Nat → Prop} {a : Nat} {tys : List (ClassId × FieldType)} {ws : va_W} {H0 : Heap}
/-- an object's field is written, whatever road the link took -/
theorem x_put (hexec : p.tables.exec = Jvm.exec) (hb : c.code = cc) {C : String} {T : u_T} {N ci index : Nat} {ty : Nat → FieldType} (hCl : zCl ci C T N ty) (hT : zTb s) (hown : s.vm.findClass own = some m.cls) (hK : va_K D vwCl tys s) (hP : va_P D vwCl ws H) (hD : va_D A ws) (hS0 : va_S A H0 H locs) (q0 : Nat) {fs : List Value} (he : ws[q0]? = some (a, .inr (ci, fs))) (k : Nat) (hk : k < N) {v : Value} (hn : narrow (ty k) v = v) (hfit : fits (ty k) v = true) (hl : k < fs.length)
    (hlink : (Cond.fieldLink own index C (T k).2.1 (T k).2.2.1 ∈ lw_tbl ∧ (T k).2.2.2 = false ∧ (T k).1 = C) ∨ (∃ host, Cond.fieldLinkNest own index C (T k).2.1 (T k).2.2.1 host ∈ lw_tbl ∧ (T k).2.2.2 = false ∧ (T k).1 = C) ∨ (Cond.fieldLink own index C (T k).2.1 (T k).2.2.1 ∈ lw_tbl ∧ (T k).2.2.2 = true ∧ (T k).1 = C ∧ C = own ∧ meth.name = "<init>"))
    (hdg : decode cc pc = .ok (.putfield index, 3)) (kk : ∀ (H1 : Heap) (locs1 : List Loc), H1.size = H.size → va_P D vwCl (ws.set q0 (a, .inr (ci, fs.set k v))) H1 → va_S A H0 H1 locs1 → W p l e R s m args below meth c H1 locs1 cells slots Q (F0 m (pc + 3) ls rest)) : W p l e R s m args below meth c H locs cells slots Q (F0 m pc ls (v :: .ref a :: rest)) := by
  have hts := hCl.words hT args
  have hin : ∀ w ∈ u_ws C T N, w ∈ u_ws C T N := fun _ h => h
  have hc := hCl.1
  have hty := hCl.2.2.1
  have hap := va_apart (own := own) hts hin ty hty hCl.2.2.2.1 hK hc
  obtain ⟨r, h1, cell, q1, q2, q3, q4⟩ := hP q0 _ he
  have hr : r = (C, T, N) := Option.some.inj (h1.symm.trans hc)
  subst hr
  obtain ⟨hS, hfc, kC, hkC, hkind⟩ := hK.1 ci _ hc
  obtain ⟨cf, kf, fi, f, hi, hsl⟩ := hS k hk
  have hlay := hts _ (hin _ (u_in_lay hk))
  unfold u_lay at hlay
  have hst := (u_facts hfc hkC (u_lays hts hin hk) hi).1
  have fin : ∀ (H' : Heap) (L : List Loc), H'[a]? = some (cell.setSlot (D.2 ci k) v) → H'.size = H.size → (∀ q, q ≠ a → H'[q]? = H[q]?) → va_S A H0 H' L → W p l e R s m args below meth c H' L cells slots Q (F0 m (pc + 3) ls rest) := fun H' L e1 e2 e3 hL =>
    kk H' L e2 (hP.set hD he ⟨_, hc, t_OB.to (V := updV (vp_V fs) k v) ⟨_, e1, q2, q3, t_set q4 hap hk v⟩ (fun j _ => vp_updV_set hl v j)⟩ e3) hL
  rcases hlink with ⟨hw, hfin, hTC⟩ | ⟨host, hw, hfin, hTC⟩ | ⟨hw, hfin, hTC, hCo, hnm⟩
  · rw [if_neg (by rw [hfin]; decide)] at hlay
    have h6 := u_store hfc hkC hkind hlay hi (hty k hk) hn hfit
    rw [hTC] at hi
    refine W.putK hexec hb (f := f) ⟨hown, hT _ hw rfl _, ⟨_, _, _, hi⟩, hst⟩ (by rw [q2]; exact h6) q1 q3 (by rw [hsl]; exact k2_hasslot (q4 k hk)) rfl rfl hdg fun H' e1 e2 e3 => ?_
    rw [hsl] at e1 ⊢
    exact fin H' _ e1 e2 e3 (hS0.put e2 e3 (hD.2 q0 _ he))
  · rw [if_neg (by rw [hfin]; decide)] at hlay
    have h6 := u_store hfc hkC hkind hlay hi (hty k hk) hn hfit
    rw [hTC] at hi
    refine va_WputK hexec hb (f := f) hown (hT _ hw rfl _) hi hst (by rw [q2]; exact h6) q1 q3 (by rw [hsl]; exact k2_hasslot (q4 k hk)) rfl rfl hdg fun H' e1 e2 e3 => ?_
    rw [hsl] at e1 ⊢
    exact fin H' _ e1 e2 e3 (hS0.put e2 e3 (hD.2 q0 _ he))
  · rw [if_pos hfin] at hlay
    have h6 := u_fits hfc hkC hkind (Or.inr hlay) hi (hty k hk) hn hfit
    have hcf : m.cls = cf := by
      obtain ⟨_, _, c', _, _, _, -, -, hf', -, -, -, hown2, -⟩ := Cond.laysFinal_spec hlay
      have e1 : c' = cf := (Prod.mk.inj (Option.some.inj (hi.symm.trans hf'))).1.symm
      rw [hTC, hCo] at hown2
      exact (Option.some.inj (hown.symm.trans hown2)).trans e1
    rw [hTC] at hi
    refine W.putFinK hexec hb hown (hT _ hw rfl _) hi hst hcf hnm (by rw [q2]; exact h6) q1 q3 (by rw [hsl]; exact k2_hasslot (q4 k hk)) rfl rfl hdg fun H' e1 e2 e3 => ?_
    rw [hsl] at e1 ⊢
    exact fin H' _ e1 e2 e3 (hS0.put e2 e3 (hD.2 q0 _ he))
theorem x_get (hexec : p.tables.exec = Jvm.exec) (hb : c.code = cc) {C : String} {T : u_T} {N ci index : Nat} {ty : Nat → FieldType} (hCl : zCl ci C T N ty) (hT : zTb s) (hown : s.vm.findClass own = some m.cls) (hK : va_K D vwCl tys s) (hP : va_P D vwCl ws H) (q0 : Nat) {fs : List Value} (he : ws[q0]? = some (a, .inr (ci, fs))) (k : Nat) (hk : k < N) {v : Value} (hv : fs[k]? = some v)
    (hlink : (T k).1 = C ∧ (Cond.fieldLink own index C (T k).2.1 (T k).2.2.1 ∈ lw_tbl ∨ ∃ host, Cond.fieldLinkNest own index C (T k).2.1 (T k).2.2.1 host ∈ lw_tbl))
    (hdg : decode cc pc = .ok (.getfield index, 3)) (kk : W p l e R s m args below meth c H locs cells slots Q (F0 m (pc + 3) ls (v :: rest))) : W p l e R s m args below meth c H locs cells slots Q (F0 m pc ls (.ref a :: rest)) := by
  obtain ⟨hTC, hw | ⟨host, hw⟩⟩ := hlink
  · exact va_get (C := C) (T := T) (N := N) (ref := C) hexec hb (hCl.words hT args) (fun _ h => h) hown hK hP q0 he hCl.1 k hk (hT _ hw rfl _) (fun x h => by rw [← hTC]; exact h) hv hdg kk
  · exact va_getN (C := C) (T := T) (N := N) (ref := C) hexec hb (hCl.words hT args) (fun _ h => h) hown hK hP q0 he hCl.1 k hk (hT _ hw rfl _) (fun x h => by rw [← hTC]; exact h) hv hdg kk
theorem ok_getI {ci : Nat} {C : String} {T : u_T} {N index : Nat} {ty : Nat → FieldType} (hCl : zCl ci C T N ty) (k0 : Nat) (ht : (ztg ci)[k0]? = some 0) (hd : decode cc pc = .ok (.getfield index, 3))
    (hlink : (T k0).1 = C ∧ (Cond.fieldLink own index C (T k0).2.1 (T k0).2.2.1 ∈ lw_tbl ∨ ∃ host, Cond.fieldLinkNest own index C (T k0).2.1 (T k0).2.2.1 host ∈ lw_tbl)) : zOk mi own cc nL ret ini pc (oGetI (64 * ci + k0) ci (pc + 3)) := by
  refine ⟨fun E b ls st σ => ?_, fun D cy d p l e R s m args below meth c σ0 out Q E hE hC k b ls st σ h hk H locs cells slots lsA hP hM hS hL hc hs => ?_⟩
  · unfold oGetI
    split
    · exact lin_onR (fun _ => rfl) fun a => lin_chk fun _ => rfl
    · exact Or.inl ⟨_, fun _ => rfl⟩
  · unfold oGetI at h
    split at h
    · obtain ⟨a, rfl, h⟩ := onR_some h
      obtain ⟨hka, h⟩ := chk_some h
      have hN : k0 < N := by rw [← hCl.2.2.2.2.1]; exact (List.getElem?_eq_some_iff.mp ht).1
      obtain ⟨q0, hq⟩ := hP.get (a := a) (by rw [hka]; exact Nat.lt_trans hCl.2.2.2.2.2 (by decide))
      rw [zent_o hka hCl.2.2.2.2.2] at hq
      exact x_get hC.1 hC.2.1 hCl hC.2.2.2.2.1 hC.2.2.2.1 hC.2.2.2.2.2.1 hP.2.1 q0 hq k0 hN (zfl_get ht) hlink hd (hk _ _ _ _ _ h H locs cells slots lsA hP hM hS hL hc hs)
    · cases h
theorem ok_getR {ci : Nat} {C : String} {T : u_T} {N index : Nat} {ty : Nat → FieldType} (hCl : zCl ci C T N ty) (k0 : Nat) (ht : (ztg ci)[k0]? = some 1) (hd : decode cc pc = .ok (.getfield index, 3))
    (hlink : (T k0).1 = C ∧ (Cond.fieldLink own index C (T k0).2.1 (T k0).2.2.1 ∈ lw_tbl ∨ ∃ host, Cond.fieldLinkNest own index C (T k0).2.1 (T k0).2.2.1 host ∈ lw_tbl)) : zOk mi own cc nL ret ini pc (oGetR (64 * ci + k0) ci (pc + 3)) := by
  refine ⟨fun E b ls st σ => ?_, fun D cy d p l e R s m args below meth c σ0 out Q E hE hC k b ls st σ h hk H locs cells slots lsA hP hM hS hL hc hs => ?_⟩
  · unfold oGetR
    split
    · exact lin_onR (fun _ => rfl) fun a => lin_chk fun _ => rfl
    · exact Or.inl ⟨_, fun _ => rfl⟩
  · unfold oGetR at h
    split at h
    · obtain ⟨a, rfl, h⟩ := onR_some h
      obtain ⟨hka, h⟩ := chk_some h
      have hN : k0 < N := by rw [← hCl.2.2.2.2.1]; exact (List.getElem?_eq_some_iff.mp ht).1
      obtain ⟨q0, hq⟩ := hP.get (a := a) (by rw [hka]; exact Nat.lt_trans hCl.2.2.2.2.2 (by decide))
      rw [zent_o hka hCl.2.2.2.2.2] at hq
      exact x_get hC.1 hC.2.1 hCl hC.2.2.2.2.1 hC.2.2.2.1 hC.2.2.2.2.2.1 hP.2.1 q0 hq k0 hN (zfl_get ht) hlink hd (hk _ _ _ _ _ h H locs cells slots lsA hP hM hS hL hc hs)
    · cases h
theorem ztg_64 (c : Nat) : (ztg c).length ≤ 64 := by unfold ztg; split <;> decide
theorem ok_putI {ci : Nat} {C : String} {T : u_T} {N index : Nat} {ty : Nat → FieldType} (hCl : zCl ci C T N ty) (k0 : Nat) (ht : (ztg ci)[k0]? = some 0) (hty : ty k0 = .int) (hd : decode cc pc = .ok (.putfield index, 3))
    (hlink : (Cond.fieldLink own index C (T k0).2.1 (T k0).2.2.1 ∈ lw_tbl ∧ (T k0).2.2.2 = false ∧ (T k0).1 = C) ∨ (∃ host, Cond.fieldLinkNest own index C (T k0).2.1 (T k0).2.2.1 host ∈ lw_tbl ∧ (T k0).2.2.2 = false ∧ (T k0).1 = C) ∨ (Cond.fieldLink own index C (T k0).2.1 (T k0).2.2.1 ∈ lw_tbl ∧ (T k0).2.2.2 = true ∧ (T k0).1 = C ∧ C = own ∧ ini = true)) : zOk mi own cc nL ret ini pc (oPutI (64 * ci + k0) ci (pc + 3)) := by
  refine ⟨fun E b ls st σ => ?_, fun D cy d p l e R s m args below meth c σ0 out Q E hE hC k b ls st σ h hk H locs cells slots lsA hP hM hS hL hc hs => ?_⟩
  · unfold oPutI
    split
    · exact lin_onR (fun _ => rfl) fun a => lin_chk fun _ => rfl
    · exact Or.inl ⟨_, fun _ => rfl⟩
  · unfold oPutI at h
    split at h
    · next x o st =>
      obtain ⟨a, rfl, h⟩ := onR_some h
      obtain ⟨hka, h⟩ := chk_some h
      have hN : k0 < N := by rw [← hCl.2.2.2.2.1]; exact (List.getElem?_eq_some_iff.mp ht).1
      have h16 : zkd σ a < 16 := by rw [hka]; exact Nat.lt_trans hCl.2.2.2.2.2 (by decide)
      obtain ⟨q0, hq⟩ := hP.get h16
      have hq' := hq
      rw [zent_o hka hCl.2.2.2.2.2] at hq
      refine x_put hC.1 hC.2.1 hCl hC.2.2.2.2.1 hC.2.2.2.1 hC.2.2.2.2.2.1 hP.2.1 (hP.D0 hM) hS q0 hq k0 hN (v := .int x) (by rw [hty]; rfl) (by rw [hty]; rfl) (by rw [zfl_len, hCl.2.2.2.2.1]; exact hN) (hlink.imp id (Or.imp id fun q => ⟨q.1, q.2.1, q.2.2.1, q.2.2.2.1, hC.2.2.2.2.2.2.2.2.2.1 q.2.2.2.2⟩)) hd fun H1 locs1 hz hP1 hS1 => ?_
      refine hk _ _ _ _ _ h H1 locs1 cells slots lsA (hP.put h16 hq' hz hP1 rfl (fun _ => rfl) rfl (zent_up hka hCl.2.2.2.2.2 ht rfl rfl rfl rfl (by simp [zfv, zsi, zi, zr, zl, zu2]) zfv_si ztg_3)) hM hS1 hL hc hs
    · cases h
theorem ok_putZ {ci : Nat} {C : String} {T : u_T} {N index : Nat} {ty : Nat → FieldType} (hCl : zCl ci C T N ty) (k0 : Nat) (ht : (ztg ci)[k0]? = some 0) (hty : ty k0 = .boolean) (hd : decode cc pc = .ok (.putfield index, 3))
    (hlink : (Cond.fieldLink own index C (T k0).2.1 (T k0).2.2.1 ∈ lw_tbl ∧ (T k0).2.2.2 = false ∧ (T k0).1 = C) ∨ (∃ host, Cond.fieldLinkNest own index C (T k0).2.1 (T k0).2.2.1 host ∈ lw_tbl ∧ (T k0).2.2.2 = false ∧ (T k0).1 = C) ∨ (Cond.fieldLink own index C (T k0).2.1 (T k0).2.2.1 ∈ lw_tbl ∧ (T k0).2.2.2 = true ∧ (T k0).1 = C ∧ C = own ∧ ini = true)) : zOk mi own cc nL ret ini pc (oPutZ (64 * ci + k0) ci (pc + 3)) := by
  refine ⟨fun E b ls st σ => ?_, fun D cy d p l e R s m args below meth c σ0 out Q E hE hC k b ls st σ h hk H locs cells slots lsA hP hM hS hL hc hs => ?_⟩
  · unfold oPutZ
    split
    · exact lin_onR (fun _ => rfl) fun a => lin_chk fun _ => rfl
    · exact Or.inl ⟨_, fun _ => rfl⟩
  · unfold oPutZ at h
    split at h
    · next x o st =>
      obtain ⟨a, rfl, h⟩ := onR_some h
      obtain ⟨⟨hka, hx⟩, h⟩ := chk_some h
      have hN : k0 < N := by rw [← hCl.2.2.2.2.1]; exact (List.getElem?_eq_some_iff.mp ht).1
      have h16 : zkd σ a < 16 := by rw [hka]; exact Nat.lt_trans hCl.2.2.2.2.2 (by decide)
      obtain ⟨q0, hq⟩ := hP.get h16
      have hq' := hq
      rw [zent_o hka hCl.2.2.2.2.2] at hq
      refine x_put hC.1 hC.2.1 hCl hC.2.2.2.2.1 hC.2.2.2.1 hC.2.2.2.2.2.1 hP.2.1 (hP.D0 hM) hS q0 hq k0 hN (v := .int x) (by rw [hty]; rcases hx with rfl | rfl <;> decide) (by rw [hty]; rcases hx with rfl | rfl <;> decide) (by rw [zfl_len, hCl.2.2.2.2.1]; exact hN) (hlink.imp id (Or.imp id fun q => ⟨q.1, q.2.1, q.2.2.1, q.2.2.2.1, hC.2.2.2.2.2.2.2.2.2.1 q.2.2.2.2⟩)) hd fun H1 locs1 hz hP1 hS1 => ?_
      refine hk _ _ _ _ _ h H1 locs1 cells slots lsA (hP.put h16 hq' hz hP1 rfl (fun _ => rfl) rfl (zent_up hka hCl.2.2.2.2.2 ht rfl rfl rfl rfl (by simp [zfv, zsi, zi, zr, zl, zu2]) zfv_si ztg_3)) hM hS1 hL hc hs
    · cases h
theorem ok_putR {ci : Nat} {C : String} {T : u_T} {N index : Nat} {ty : Nat → FieldType} (hCl : zCl ci C T N ty) (k0 : Nat) (ht : (ztg ci)[k0]? = some 1) (hty : (∃ n, ty k0 = .object n) ∨ ∃ t, ty k0 = .array t) (hd : decode cc pc = .ok (.putfield index, 3))
    (hlink : (Cond.fieldLink own index C (T k0).2.1 (T k0).2.2.1 ∈ lw_tbl ∧ (T k0).2.2.2 = false ∧ (T k0).1 = C) ∨ (∃ host, Cond.fieldLinkNest own index C (T k0).2.1 (T k0).2.2.1 host ∈ lw_tbl ∧ (T k0).2.2.2 = false ∧ (T k0).1 = C) ∨ (Cond.fieldLink own index C (T k0).2.1 (T k0).2.2.1 ∈ lw_tbl ∧ (T k0).2.2.2 = true ∧ (T k0).1 = C ∧ C = own ∧ ini = true)) : zOk mi own cc nL ret ini pc (oPutR (64 * ci + k0) ci (pc + 3)) := by
  refine ⟨fun E b ls st σ => ?_, fun D cy d p l e R s m args below meth c σ0 out Q E hE hC k b ls st σ h hk H locs cells slots lsA hP hM hS hL hc hs => ?_⟩
  · unfold oPutR
    split
    · exact lin_onR (fun _ => rfl) fun a => lin_chk fun _ => rfl
    · exact Or.inl ⟨_, fun _ => rfl⟩
  · unfold oPutR at h
    split at h
    · next x o st =>
      obtain ⟨a, rfl, h⟩ := onR_some h
      obtain ⟨hka, h⟩ := chk_some h
      have hN : k0 < N := by rw [← hCl.2.2.2.2.1]; exact (List.getElem?_eq_some_iff.mp ht).1
      have h16 : zkd σ a < 16 := by rw [hka]; exact Nat.lt_trans hCl.2.2.2.2.2 (by decide)
      obtain ⟨q0, hq⟩ := hP.get h16
      have hq' := hq
      rw [zent_o hka hCl.2.2.2.2.2] at hq
      refine x_put hC.1 hC.2.1 hCl hC.2.2.2.2.1 hC.2.2.2.1 hC.2.2.2.2.2.1 hP.2.1 (hP.D0 hM) hS q0 hq k0 hN (v := va_rf x) (by rcases hty with ⟨n, q⟩ | ⟨n, q⟩ <;> rw [q] <;> cases x <;> rfl) (by rcases hty with ⟨n, q⟩ | ⟨n, q⟩ <;> rw [q] <;> cases x <;> rfl) (by rw [zfl_len, hCl.2.2.2.2.1]; exact hN) (hlink.imp id (Or.imp id fun q => ⟨q.1, q.2.1, q.2.2.1, q.2.2.2.1, hC.2.2.2.2.2.2.2.2.2.1 q.2.2.2.2⟩)) hd fun H1 locs1 hz hP1 hS1 => ?_
      refine hk _ _ _ _ _ h H1 locs1 cells slots lsA (hP.put h16 hq' hz hP1 rfl (fun _ => rfl) rfl (zent_up hka hCl.2.2.2.2.2 ht rfl rfl rfl rfl (by simp [zfv, zsr, zi, zr, zl, zu2]) zfv_sr ztg_3)) (zSm_sr hM (by have := hCl.2.2.2.2.2; have := hCl.2.2.2.2.1; have : (ztg ci).length ≤ 64 := ztg_64 ci; omega) _ _) hS1 hL hc hs
    · cases h
end HEAP
end
section
/-! the steps on rows and new cells -/
theorem zin_vp {i : Int32} {n : Nat} (h : zin i n) : vp_in i n := vp_in_iff.mpr h
theorem zent_sa {cy : Nat → ClassId} {σ : zS} {a c i : Nat} {x : Int32} (hk : zkd σ a = c) (h1 : 10 ≤ c) (h2 : c < 13) : ∀ b, zent cy (zsa σ a i x) b = va_up (zent cy σ) a (.inl (cy c, zln σ a, .inl (upd (zai σ a) i x))) b := by
  intro b
  by_cases hb : b = a
  · subst hb
    rw [va_up_self, zent_i (c := c) (show zkd (zsa σ b i x) b = c from hk) h1 h2]
    have : zai (zsa σ b i x) b = upd (zai σ b) i x := by
      funext j
      show zu2 σ.2.2.2.1 b i x b j = upd (zai σ b) i x j
      unfold zu2 upd
      by_cases hj : j = i
      · simp [hj]
      · simp [hj, zai]
    rw [this]
    rfl
  · rw [va_up_ne _ _ hb]
    have : zai (zsa σ a i x) b = zai σ b := by
      funext j
      show zu2 σ.2.2.2.1 a i x b j = _
      unfold zu2
      rw [if_neg (fun q => hb q.1)]
      rfl
    unfold zent
    rw [this]
    rfl
theorem zent_sq {cy : Nat → ClassId} {σ : zS} {a c i : Nat} {x : Option Nat} (hk : zkd σ a = c) (h1 : 13 ≤ c) : ∀ b, zent cy (zsq σ a i x) b = va_up (zent cy σ) a (.inl (cy c, zln σ a, .inr (.inr (.inr (.inr (va_up (zar σ a) i x)))))) b := by
  intro b
  by_cases hb : b = a
  · subst hb
    rw [va_up_self, zent_q (c := c) (show zkd (zsq σ b i x) b = c from hk) h1]
    have : zar (zsq σ b i x) b = va_up (zar σ b) i x := by
      funext j
      show zu2 σ.2.2.2.2.1 b i x b j = va_up (zar σ b) i x j
      unfold zu2 va_up
      by_cases hj : j = i
      · simp [hj]
      · simp [hj, zar]
    rw [this]
    rfl
  · rw [va_up_ne _ _ hb]
    have : zar (zsq σ a i x) b = zar σ b := by
      funext j
      show zu2 σ.2.2.2.2.1 a i x b j = _
      unfold zu2
      rw [if_neg (fun q => hb q.1)]
      rfl
    unfold zent
    rw [this]
    rfl
/-- one cell has been made at the heap's end -/
theorem zPool.push {D : va_G} {cy : Nat → ClassId} {σ τ : zS} {H H1 : Heap} (h : zPool D cy σ H) {c : Nat} {e : va_E} (hc : c < 16) (hz : H1.size = H.size + 1) (ho : ∀ q, q < H.size → H1[q]? = H[q]?)
    (he : va_at D vwCl (znx σ, e) H1) (hd : zdm τ = zdm σ ++ [znx σ]) (hk : zkd τ = va_up (zkd σ) (znx σ) c) (hn : znx τ = znx σ + 1) (hen : ∀ b, zent cy τ b = va_up (zent cy σ) (znx σ) e b) : zPool D cy τ H1 := by
  obtain ⟨p1, p2, p3, p4, p5⟩ := h
  have hlt : ∀ a, a ∈ zdm σ → a < H.size := fun a ha => by
    obtain ⟨q0, hq⟩ := va_pl_get (X := []) (f := zent cy σ) ha
    exact (p2 q0 _ hq).lt
  have hnm : znx σ ∉ zdm σ := fun q => Nat.lt_irrefl _ (by rw [← p1] at q; exact hlt _ q)
  have e1 : va_pl (zdm σ) (zent cy σ) ++ [(znx σ, e)] = va_pl (zdm τ) (zent cy τ) := by
    rw [va_pl_push hnm, hd, show zent cy τ = va_up (zent cy σ) (znx σ) e from funext hen]
  refine ⟨by rw [hz, hn, p1], ?_, ?_, fun a ha => ?_, fun a ha => ?_⟩
  · rw [← e1]
    refine (p2.kept fun k x hx => ho _ ((p2 k x hx).lt)).app fun k x hx => ?_
    have hz : k < 1 := (List.getElem?_eq_some_iff.mp hx).1
    rw [show k = 0 by omega] at hx
    cases hx
    exact he
  · rw [← e1]
    exact p3.push p2 p1.symm trivial
  · rw [hd]
    rw [hk] at ha
    by_cases hx : a = znx σ
    · exact List.mem_append_right _ (List.mem_singleton.mpr hx)
    · rw [va_up_ne _ _ hx] at ha
      exact List.mem_append_left _ (p4 a ha)
  · rw [hk]
    by_cases hx : a = znx σ
    · rw [hx, va_up_self]
      exact hc
    · rw [va_up_ne _ _ hx]
      rw [hd] at ha
      rcases List.mem_append.mp ha with ha | ha
      · exact p5 a ha
      · exact absurd (List.mem_singleton.mp ha) hx
theorem zSm_new {σ0 σ τ : zS} (h : zSm σ0 σ) {c : Nat} (hc : c < 16) (hn : znx τ = znx σ + 1) (hk : zkd τ = va_up (zkd σ) (znx σ) c) (hl : ∀ q, q ≠ znx σ → zln τ q = zln σ q) (ha : ∀ q, q ≠ znx σ → ∀ i, zai τ q i = zai σ q i) (hr : ∀ f, 640 ≤ f → ∀ j, zr τ f j = zr σ f j) : zSm σ0 τ := by
  refine ⟨by rw [hn]; exact Nat.le_succ_of_le h.1, fun q hq => ?_, fun f hf j => (hr f hf j).trans (h.2.2.1 f hf j), fun q hq => ?_⟩
  · have hne : q ≠ znx σ := fun e => by have := h.1; omega
    rw [hk, va_up_ne _ _ hne, hl q hne]
    exact h.2.1 q hq
  · by_cases hne : q = znx σ
    · rw [hk, hne, va_up_self] at hq
      omega
    · rw [hk, va_up_ne _ _ hne] at hq ⊢
      obtain ⟨a1, a2, a3⟩ := h.2.2.2 q hq
      exact ⟨a1, (hl q hne).trans a2, fun i => (ha q hne i).trans (a3 i)⟩
theorem va_S.grow {A : Nat → Prop} {H0 H H1 : Heap} {locs : List Loc} (h : va_S A H0 H locs) (z : H1.size = H.size + 1) (o : ∀ q : Nat, q < H.size → H1[q]? = H[q]?) : va_S A H0 H1 locs :=
  ⟨Nat.le_trans h.1 (by omega), fun q h1 h2 => (o q (Nat.lt_of_lt_of_le h1 h.1)).trans (h.2.1 q h1 h2), h.2.2⟩
theorem zna_ent {cy : Nat → ClassId} {σ : zS} {c n : Nat} {e : va_E} (he : zent cy (zna σ c n) (znx σ) = e) : ∀ b, zent cy (zna σ c n) b = va_up (zent cy σ) (znx σ) e b := by
  intro b
  by_cases hb : b = znx σ
  · subst hb
    rw [va_up_self]
    exact he
  · rw [va_up_ne _ _ hb]
    have k1 : zkd (zna σ c n) b = zkd σ b := va_up_ne _ _ hb
    have k2 : zln (zna σ c n) b = zln σ b := va_up_ne _ _ hb
    have k3 : zai (zna σ c n) b = zai σ b := by
      funext j
      show (if b = znx σ then (0 : Int32) else σ.2.2.2.1 b j) = _
      rw [if_neg hb]
      rfl
    have k4 : zar (zna σ c n) b = zar σ b := by
      funext j
      show (if b = znx σ then (none : Option Nat) else σ.2.2.2.2.1 b j) = _
      rw [if_neg hb]
      rfl
    unfold zent
    rw [k1, k2, k3, k4]
    rfl
theorem zfv_no {σ : zS} {c : Nat} {t f b : Nat} (hb : b ≠ znx σ) : zfv (zno σ c) t f b = zfv σ t f b := by
  match t with
  | 0 => simp only [zfv, zi, zno]; rw [if_neg hb]
  | 1 => simp only [zfv, zr, zno]; rw [if_neg (fun q => hb q.1)]
  | n + 2 => simp only [zfv, zl, zno]; rw [if_neg hb]
theorem zno_ent {cy : Nat → ClassId} {σ : zS} {c : Nat} {e : va_E} (he : zent cy (zno σ c) (znx σ) = e) : ∀ b, zent cy (zno σ c) b = va_up (zent cy σ) (znx σ) e b := by
  intro b
  by_cases hb : b = znx σ
  · subst hb
    rw [va_up_self]
    exact he
  · rw [va_up_ne _ _ hb]
    have k1 : zkd (zno σ c) b = zkd σ b := va_up_ne _ _ hb
    have k5 : ∀ c', zfl (zno σ c) b c' = zfl σ b c' := fun c' => by
      unfold zfl
      apply List.ext_getElem?
      intro j
      rw [List.getElem?_mapIdx, List.getElem?_mapIdx]
      cases (ztg c')[j]? with
      | none => rfl
      | some t' => exact congrArg some (zfv_no hb)
    unfold zent
    rw [k1, k5]
    rfl
section ROWS
variable {mi : Nat → MethodName × ByteArray × Nat × Option FieldType × Nat × Nat} {own : String} {cc : ByteArray} {nL : Nat} {ret : Option FieldType} {ini : Bool} {pc : Nat}
theorem ok_ald10 (hd : decode cc pc = .ok (.caload, 1)) : zOk mi own cc nL ret ini pc (oAld 10 (pc + 1)) := by
  refine ⟨fun E b ls st σ => ?_, fun D cy d p l e R s m args below meth c σ0 out Q E hE hC k b ls st σ h hk H locs cells slots lsA hP hM hS hL hc hs => ?_⟩
  · unfold oAld
    split
    · exact lin_onR (fun _ => rfl) fun a => lin_chk fun _ => rfl
    · exact Or.inl ⟨_, fun _ => rfl⟩
  · unfold oAld at h
    split at h
    · obtain ⟨a, rfl, h⟩ := onR_some h
      obtain ⟨⟨hka, hi⟩, h⟩ := chk_some h
      obtain ⟨q0, hq⟩ := hP.get (a := a) (by rw [hka]; decide)
      rw [zent_i hka (by decide) (by decide)] at hq
      exact va_cald hC.1 hC.2.1 hC.2.2.2.2.2.1 hP.2.1 q0 0 hq rfl (zin_vp hi) hd (hk _ _ _ _ _ h H locs cells slots lsA hP hM hS hL hc hs)
    · cases h
theorem ok_ald11 (hd : decode cc pc = .ok (.iaload, 1)) : zOk mi own cc nL ret ini pc (oAld 11 (pc + 1)) := by
  refine ⟨fun E b ls st σ => ?_, fun D cy d p l e R s m args below meth c σ0 out Q E hE hC k b ls st σ h hk H locs cells slots lsA hP hM hS hL hc hs => ?_⟩
  · unfold oAld
    split
    · exact lin_onR (fun _ => rfl) fun a => lin_chk fun _ => rfl
    · exact Or.inl ⟨_, fun _ => rfl⟩
  · unfold oAld at h
    split at h
    · obtain ⟨a, rfl, h⟩ := onR_some h
      obtain ⟨⟨hka, hi⟩, h⟩ := chk_some h
      obtain ⟨q0, hq⟩ := hP.get (a := a) (by rw [hka]; decide)
      rw [zent_i hka (by decide) (by decide)] at hq
      exact va_iald hC.1 hC.2.1 hC.2.2.2.2.2.1 hP.2.1 q0 1 hq rfl (zin_vp hi) hd (hk _ _ _ _ _ h H locs cells slots lsA hP hM hS hL hc hs)
    · cases h
theorem ok_ald13 (hd : decode cc pc = .ok (.aaload, 1)) : zOk mi own cc nL ret ini pc (oAldR 13 (pc + 1)) := by
  refine ⟨fun E b ls st σ => ?_, fun D cy d p l e R s m args below meth c σ0 out Q E hE hC k b ls st σ h hk H locs cells slots lsA hP hM hS hL hc hs => ?_⟩
  · unfold oAldR
    split
    · exact lin_onR (fun _ => rfl) fun a => lin_chk fun _ => rfl
    · exact Or.inl ⟨_, fun _ => rfl⟩
  · unfold oAldR at h
    split at h
    · obtain ⟨a, rfl, h⟩ := onR_some h
      obtain ⟨⟨hka, hi⟩, h⟩ := chk_some h
      obtain ⟨q0, hq⟩ := hP.get (a := a) (by rw [hka]; decide)
      rw [zent_q hka (by decide)] at hq
      exact va_aldq hC.1 hC.2.1 hC.2.2.2.2.2.1 hP.2.1 q0 2 hq rfl (zin_vp hi) hd (hk _ _ _ _ _ h H locs cells slots lsA hP hM hS hL hc hs)
    · cases h
theorem ok_ald14 (hd : decode cc pc = .ok (.aaload, 1)) : zOk mi own cc nL ret ini pc (oAldR 14 (pc + 1)) := by
  refine ⟨fun E b ls st σ => ?_, fun D cy d p l e R s m args below meth c σ0 out Q E hE hC k b ls st σ h hk H locs cells slots lsA hP hM hS hL hc hs => ?_⟩
  · unfold oAldR
    split
    · exact lin_onR (fun _ => rfl) fun a => lin_chk fun _ => rfl
    · exact Or.inl ⟨_, fun _ => rfl⟩
  · unfold oAldR at h
    split at h
    · obtain ⟨a, rfl, h⟩ := onR_some h
      obtain ⟨⟨hka, hi⟩, h⟩ := chk_some h
      obtain ⟨q0, hq⟩ := hP.get (a := a) (by rw [hka]; decide)
      rw [zent_q hka (by decide)] at hq
      exact va_aldq hC.1 hC.2.1 hC.2.2.2.2.2.1 hP.2.1 q0 3 hq rfl (zin_vp hi) hd (hk _ _ _ _ _ h H locs cells slots lsA hP hM hS hL hc hs)
    · cases h
theorem ok_ald15 (hd : decode cc pc = .ok (.aaload, 1)) : zOk mi own cc nL ret ini pc (oAldR 15 (pc + 1)) := by
  refine ⟨fun E b ls st σ => ?_, fun D cy d p l e R s m args below meth c σ0 out Q E hE hC k b ls st σ h hk H locs cells slots lsA hP hM hS hL hc hs => ?_⟩
  · unfold oAldR
    split
    · exact lin_onR (fun _ => rfl) fun a => lin_chk fun _ => rfl
    · exact Or.inl ⟨_, fun _ => rfl⟩
  · unfold oAldR at h
    split at h
    · obtain ⟨a, rfl, h⟩ := onR_some h
      obtain ⟨⟨hka, hi⟩, h⟩ := chk_some h
      obtain ⟨q0, hq⟩ := hP.get (a := a) (by rw [hka]; decide)
      rw [zent_q hka (by decide)] at hq
      exact va_aldq hC.1 hC.2.1 hC.2.2.2.2.2.1 hP.2.1 q0 4 hq rfl (zin_vp hi) hd (hk _ _ _ _ _ h H locs cells slots lsA hP hM hS hL hc hs)
    · cases h
theorem ok_len10 (hd : decode cc pc = .ok (.arraylength, 1)) : zOk mi own cc nL ret ini pc (oLen 10 (pc + 1)) := by
  refine ⟨fun E b ls st σ => ?_, fun D cy d p l e R s m args below meth c σ0 out Q E hE hC k b ls st σ h hk H locs cells slots lsA hP hM hS hL hc hs => ?_⟩
  · unfold oLen
    split
    · exact lin_onR (fun _ => rfl) fun a => lin_chk fun _ => rfl
    · exact Or.inl ⟨_, fun _ => rfl⟩
  · unfold oLen at h
    split at h
    · obtain ⟨a, rfl, h⟩ := onR_some h
      obtain ⟨hka, h⟩ := chk_some h
      obtain ⟨q0, hq⟩ := hP.get (a := a) (by rw [hka]; decide)
      rw [zent_i hka (by decide) (by decide)] at hq
      exact va_alen hC.1 hC.2.1 hC.2.2.2.2.2.1 hP.2.1 q0 0 hq rfl rfl hd (hk _ _ _ _ _ h H locs cells slots lsA hP hM hS hL hc hs)
    · cases h
theorem ok_len11 (hd : decode cc pc = .ok (.arraylength, 1)) : zOk mi own cc nL ret ini pc (oLen 11 (pc + 1)) := by
  refine ⟨fun E b ls st σ => ?_, fun D cy d p l e R s m args below meth c σ0 out Q E hE hC k b ls st σ h hk H locs cells slots lsA hP hM hS hL hc hs => ?_⟩
  · unfold oLen
    split
    · exact lin_onR (fun _ => rfl) fun a => lin_chk fun _ => rfl
    · exact Or.inl ⟨_, fun _ => rfl⟩
  · unfold oLen at h
    split at h
    · obtain ⟨a, rfl, h⟩ := onR_some h
      obtain ⟨hka, h⟩ := chk_some h
      obtain ⟨q0, hq⟩ := hP.get (a := a) (by rw [hka]; decide)
      rw [zent_i hka (by decide) (by decide)] at hq
      exact va_alen hC.1 hC.2.1 hC.2.2.2.2.2.1 hP.2.1 q0 1 hq rfl rfl hd (hk _ _ _ _ _ h H locs cells slots lsA hP hM hS hL hc hs)
    · cases h
theorem ok_len13 (hd : decode cc pc = .ok (.arraylength, 1)) : zOk mi own cc nL ret ini pc (oLen 13 (pc + 1)) := by
  refine ⟨fun E b ls st σ => ?_, fun D cy d p l e R s m args below meth c σ0 out Q E hE hC k b ls st σ h hk H locs cells slots lsA hP hM hS hL hc hs => ?_⟩
  · unfold oLen
    split
    · exact lin_onR (fun _ => rfl) fun a => lin_chk fun _ => rfl
    · exact Or.inl ⟨_, fun _ => rfl⟩
  · unfold oLen at h
    split at h
    · obtain ⟨a, rfl, h⟩ := onR_some h
      obtain ⟨hka, h⟩ := chk_some h
      obtain ⟨q0, hq⟩ := hP.get (a := a) (by rw [hka]; decide)
      rw [zent_q hka (by decide)] at hq
      exact va_alen hC.1 hC.2.1 hC.2.2.2.2.2.1 hP.2.1 q0 2 hq rfl rfl hd (hk _ _ _ _ _ h H locs cells slots lsA hP hM hS hL hc hs)
    · cases h
theorem ok_len14 (hd : decode cc pc = .ok (.arraylength, 1)) : zOk mi own cc nL ret ini pc (oLen 14 (pc + 1)) := by
  refine ⟨fun E b ls st σ => ?_, fun D cy d p l e R s m args below meth c σ0 out Q E hE hC k b ls st σ h hk H locs cells slots lsA hP hM hS hL hc hs => ?_⟩
  · unfold oLen
    split
    · exact lin_onR (fun _ => rfl) fun a => lin_chk fun _ => rfl
    · exact Or.inl ⟨_, fun _ => rfl⟩
  · unfold oLen at h
    split at h
    · obtain ⟨a, rfl, h⟩ := onR_some h
      obtain ⟨hka, h⟩ := chk_some h
      obtain ⟨q0, hq⟩ := hP.get (a := a) (by rw [hka]; decide)
      rw [zent_q hka (by decide)] at hq
      exact va_alen hC.1 hC.2.1 hC.2.2.2.2.2.1 hP.2.1 q0 3 hq rfl rfl hd (hk _ _ _ _ _ h H locs cells slots lsA hP hM hS hL hc hs)
    · cases h
theorem ok_len15 (hd : decode cc pc = .ok (.arraylength, 1)) : zOk mi own cc nL ret ini pc (oLen 15 (pc + 1)) := by
  refine ⟨fun E b ls st σ => ?_, fun D cy d p l e R s m args below meth c σ0 out Q E hE hC k b ls st σ h hk H locs cells slots lsA hP hM hS hL hc hs => ?_⟩
  · unfold oLen
    split
    · exact lin_onR (fun _ => rfl) fun a => lin_chk fun _ => rfl
    · exact Or.inl ⟨_, fun _ => rfl⟩
  · unfold oLen at h
    split at h
    · obtain ⟨a, rfl, h⟩ := onR_some h
      obtain ⟨hka, h⟩ := chk_some h
      obtain ⟨q0, hq⟩ := hP.get (a := a) (by rw [hka]; decide)
      rw [zent_q hka (by decide)] at hq
      exact va_alen hC.1 hC.2.1 hC.2.2.2.2.2.1 hP.2.1 q0 4 hq rfl rfl hd (hk _ _ _ _ _ h H locs cells slots lsA hP hM hS hL hc hs)
    · cases h
theorem ok_ast10 (hd : decode cc pc = .ok (.castore, 1)) : zOk mi own cc nL ret ini pc (oAstN 10 .char (pc + 1)) := by
  refine ⟨fun E b ls st σ => ?_, fun D cy d p l e R s m args below meth c σ0 out Q E hE hC k b ls st σ h hk H locs cells slots lsA hP hM hS hL hc hs => ?_⟩
  · unfold oAstN
    split
    · exact lin_onR (fun _ => rfl) fun a => lin_chk fun _ => rfl
    · exact Or.inl ⟨_, fun _ => rfl⟩
  · unfold oAstN at h
    split at h
    · next x i o st =>
      obtain ⟨a, rfl, h⟩ := onR_some h
      obtain ⟨⟨⟨hka, hi⟩, hnr⟩, h⟩ := chk_some h
      have h16 : zkd σ a < 16 := by rw [hka]; decide
      obtain ⟨q0, hq⟩ := hP.get h16
      have hq' := hq
      rw [zent_i hka (by decide) (by decide)] at hq
      refine W.cast hC.1 hC.2.1 (hP.2.1 q0 _ hq) ((hC.2.2.2.2.2.1.2 0 _ rfl).1 (zln σ a) (fun j => .int (zai σ a j))) (fun q => by cases q) (by show ¬ (i < 0 ∨ (arrV _ _ _).slots.size ≤ _); rw [arrV_size]; exact zin_vp hi) rfl rfl hd fun H1 e1 z oq => ?_
      refine hk _ _ _ _ _ h H1 _ cells slots lsA (hP.put h16 hq' z (hP.2.1.set (hP.D0 hM) hq ?_ oq) rfl (fun _ => rfl) rfl (zent_sa hka (by decide) (by decide))) (zSm_sa hM h16 _ _) (hS.put z oq ((hP.D0 hM).2 q0 _ hq)) hL hc hs
      show H1[a]? = some (vp_cell _ _)
      rw [e1]
      rw [vp_cell_i, vp_cell_i, arrV_store]
      congr 2
      funext q
      by_cases hq : q = i.toNatClampNeg
      · subst hq
        simp only [updV, upd, if_true]; rw [show narrow .char (.int x) = .int (vp_nar .char x) from rfl, hnr]
      · simp [updV, upd, hq]
    · cases h
theorem ok_ast11 (hd : decode cc pc = .ok (.iastore, 1)) : zOk mi own cc nL ret ini pc (oAst (pc + 1)) := by
  refine ⟨fun E b ls st σ => ?_, fun D cy d p l e R s m args below meth c σ0 out Q E hE hC k b ls st σ h hk H locs cells slots lsA hP hM hS hL hc hs => ?_⟩
  · unfold oAst
    split
    · exact lin_onR (fun _ => rfl) fun a => lin_chk fun _ => rfl
    · exact Or.inl ⟨_, fun _ => rfl⟩
  · unfold oAst at h
    split at h
    · next x i o st =>
      obtain ⟨a, rfl, h⟩ := onR_some h
      obtain ⟨⟨hka, hi⟩, h⟩ := chk_some h
      have h16 : zkd σ a < 16 := by rw [hka]; decide
      obtain ⟨q0, hq⟩ := hP.get h16
      have hq' := hq
      rw [zent_i hka (by decide) (by decide)] at hq
      refine W.iast hC.1 hC.2.1 (hP.2.1 q0 _ hq) ((hC.2.2.2.2.2.1.2 1 _ rfl).1 (zln σ a) (fun j => .int (zai σ a j))) (fun q => by cases q) (by show ¬ (i < 0 ∨ (arrV _ _ _).slots.size ≤ _); rw [arrV_size]; exact zin_vp hi) rfl rfl hd fun H1 e1 z oq => ?_
      refine hk _ _ _ _ _ h H1 _ cells slots lsA (hP.put h16 hq' z (hP.2.1.set (hP.D0 hM) hq ?_ oq) rfl (fun _ => rfl) rfl (zent_sa hka (by decide) (by decide))) (zSm_sa hM h16 _ _) (hS.put z oq ((hP.D0 hM).2 q0 _ hq)) hL hc hs
      show H1[a]? = some (vp_cell _ _)
      rw [e1]
      rw [vp_cell_i, vp_cell_i, arrV_store]
      congr 2
      funext q
      by_cases hq : q = i.toNatClampNeg
      · subst hq
        simp [updV, upd]
      · simp [updV, upd, hq]
    · cases h
theorem ok_ast13 (hd : decode cc pc = .ok (.aastore, 1)) : zOk mi own cc nL ret ini pc (oAstR 13 0 (pc + 1)) := by
  refine ⟨fun E b ls st σ => ?_, fun D cy d p l e R s m args below meth c σ0 out Q E hE hC k b ls st σ h hk H locs cells slots lsA hP hM hS hL hc hs => ?_⟩
  · unfold oAstR
    split
    · exact lin_onR (fun _ => rfl) fun w => lin_onR (fun _ => rfl) fun a => lin_chk fun _ => rfl
    · exact Or.inl ⟨_, fun _ => rfl⟩
  · unfold oAstR at h
    split at h
    · next v i o st =>
      obtain ⟨w, rfl, h2⟩ := onR_some h
      obtain ⟨a, rfl, h3⟩ := onR_some h2
      clear h h2
      obtain ⟨⟨⟨hka, hi⟩, hkw⟩, h⟩ := chk_some h3
      have h16 : zkd σ a < 16 := by rw [hka]; decide
      have hw16 : zkd σ w < 16 := by rw [hkw]; decide
      obtain ⟨q0, hq⟩ := hP.get h16
      obtain ⟨qw, hqw⟩ := hP.get hw16
      have hq' := hq
      rw [zent_q hka (by decide)] at hq
      rw [zent_o hkw (by decide)] at hqw
      obtain ⟨r', hr', cellV, g1, g2, g3, -⟩ := hP.2.1 qw _ hqw
      have hcls := (hC.2.2.2.2.2.1.1 0 _ rfl).2
      obtain ⟨kA, comp, k1, k2, k3, -⟩ := (hC.2.2.2.2.2.1.2 2 _ rfl).2
      have hcomp : comp = D.1 0 := Option.some.inj (k3.symm.trans hcls.1)
      subst hcomp
      obtain ⟨kC, hkC, -⟩ := hcls.2
      have hin := zin_vp hi
      have hlt : i.toNatClampNeg < zln σ a := Nat.not_le.mp fun q => hin (Or.inr q)
      refine W.aast hC.1 hC.2.1 (hP.2.1 q0 _ hq) (fun q h => by cases h) (fun h => by cases h) k1 k2 rfl hkC ⟨fun q => hin (Or.inl q), by show _ < (arrV _ _ _).slots.size; rw [arrV_size]; exact hlt⟩ g1 (fun q h => by rw [g3] at h; cases h) (by rw [g2]; exact hkC) (by rw [g2]; exact va_assign hcls) rfl rfl hd fun H1 e1 z oq => ?_
      refine hk _ _ _ _ _ h H1 _ cells slots lsA (hP.put h16 hq' z (hP.2.1.set (hP.D0 hM) hq ?_ oq) rfl (fun _ => rfl) rfl (zent_sq hka (by decide))) (zSm_sq hM _ _ _) (hS.put z oq ((hP.D0 hM).2 q0 _ hq)) hL hc hs
      show H1[a]? = some (vp_cell _ _)
      rw [e1]
      rw [vp_cell_q, vp_cell_q, arrV_store]
      congr 2
      funext q
      by_cases hq : q = i.toNatClampNeg
      · subst hq
        simp [updV, va_up, va_rf]
      · simp [updV, va_up, hq]
    · cases h
theorem ok_ast14 (hd : decode cc pc = .ok (.aastore, 1)) : zOk mi own cc nL ret ini pc (oAstR 14 2 (pc + 1)) := by
  refine ⟨fun E b ls st σ => ?_, fun D cy d p l e R s m args below meth c σ0 out Q E hE hC k b ls st σ h hk H locs cells slots lsA hP hM hS hL hc hs => ?_⟩
  · unfold oAstR
    split
    · exact lin_onR (fun _ => rfl) fun w => lin_onR (fun _ => rfl) fun a => lin_chk fun _ => rfl
    · exact Or.inl ⟨_, fun _ => rfl⟩
  · unfold oAstR at h
    split at h
    · next v i o st =>
      obtain ⟨w, rfl, h2⟩ := onR_some h
      obtain ⟨a, rfl, h3⟩ := onR_some h2
      clear h h2
      obtain ⟨⟨⟨hka, hi⟩, hkw⟩, h⟩ := chk_some h3
      have h16 : zkd σ a < 16 := by rw [hka]; decide
      have hw16 : zkd σ w < 16 := by rw [hkw]; decide
      obtain ⟨q0, hq⟩ := hP.get h16
      obtain ⟨qw, hqw⟩ := hP.get hw16
      have hq' := hq
      rw [zent_q hka (by decide)] at hq
      rw [zent_o hkw (by decide)] at hqw
      obtain ⟨r', hr', cellV, g1, g2, g3, -⟩ := hP.2.1 qw _ hqw
      have hcls := (hC.2.2.2.2.2.1.1 2 _ rfl).2
      obtain ⟨kA, comp, k1, k2, k3, -⟩ := (hC.2.2.2.2.2.1.2 3 _ rfl).2
      have hcomp : comp = D.1 2 := Option.some.inj (k3.symm.trans hcls.1)
      subst hcomp
      obtain ⟨kC, hkC, -⟩ := hcls.2
      have hin := zin_vp hi
      have hlt : i.toNatClampNeg < zln σ a := Nat.not_le.mp fun q => hin (Or.inr q)
      refine W.aast hC.1 hC.2.1 (hP.2.1 q0 _ hq) (fun q h => by cases h) (fun h => by cases h) k1 k2 rfl hkC ⟨fun q => hin (Or.inl q), by show _ < (arrV _ _ _).slots.size; rw [arrV_size]; exact hlt⟩ g1 (fun q h => by rw [g3] at h; cases h) (by rw [g2]; exact hkC) (by rw [g2]; exact va_assign hcls) rfl rfl hd fun H1 e1 z oq => ?_
      refine hk _ _ _ _ _ h H1 _ cells slots lsA (hP.put h16 hq' z (hP.2.1.set (hP.D0 hM) hq ?_ oq) rfl (fun _ => rfl) rfl (zent_sq hka (by decide))) (zSm_sq hM _ _ _) (hS.put z oq ((hP.D0 hM).2 q0 _ hq)) hL hc hs
      show H1[a]? = some (vp_cell _ _)
      rw [e1]
      rw [vp_cell_q, vp_cell_q, arrV_store]
      congr 2
      funext q
      by_cases hq : q = i.toNatClampNeg
      · subst hq
        simp [updV, va_up, va_rf]
      · simp [updV, va_up, hq]
    · cases h
theorem ok_ast15 (hd : decode cc pc = .ok (.aastore, 1)) : zOk mi own cc nL ret ini pc (oAstR 15 4 (pc + 1)) := by
  refine ⟨fun E b ls st σ => ?_, fun D cy d p l e R s m args below meth c σ0 out Q E hE hC k b ls st σ h hk H locs cells slots lsA hP hM hS hL hc hs => ?_⟩
  · unfold oAstR
    split
    · exact lin_onR (fun _ => rfl) fun w => lin_onR (fun _ => rfl) fun a => lin_chk fun _ => rfl
    · exact Or.inl ⟨_, fun _ => rfl⟩
  · unfold oAstR at h
    split at h
    · next v i o st =>
      obtain ⟨w, rfl, h2⟩ := onR_some h
      obtain ⟨a, rfl, h3⟩ := onR_some h2
      clear h h2
      obtain ⟨⟨⟨hka, hi⟩, hkw⟩, h⟩ := chk_some h3
      have h16 : zkd σ a < 16 := by rw [hka]; decide
      have hw16 : zkd σ w < 16 := by rw [hkw]; decide
      obtain ⟨q0, hq⟩ := hP.get h16
      obtain ⟨qw, hqw⟩ := hP.get hw16
      have hq' := hq
      rw [zent_q hka (by decide)] at hq
      rw [zent_o hkw (by decide)] at hqw
      obtain ⟨r', hr', cellV, g1, g2, g3, -⟩ := hP.2.1 qw _ hqw
      have hcls := (hC.2.2.2.2.2.1.1 4 _ rfl).2
      obtain ⟨kA, comp, k1, k2, k3, -⟩ := (hC.2.2.2.2.2.1.2 4 _ rfl).2
      have hcomp : comp = D.1 4 := Option.some.inj (k3.symm.trans hcls.1)
      subst hcomp
      obtain ⟨kC, hkC, -⟩ := hcls.2
      have hin := zin_vp hi
      have hlt : i.toNatClampNeg < zln σ a := Nat.not_le.mp fun q => hin (Or.inr q)
      refine W.aast hC.1 hC.2.1 (hP.2.1 q0 _ hq) (fun q h => by cases h) (fun h => by cases h) k1 k2 rfl hkC ⟨fun q => hin (Or.inl q), by show _ < (arrV _ _ _).slots.size; rw [arrV_size]; exact hlt⟩ g1 (fun q h => by rw [g3] at h; cases h) (by rw [g2]; exact hkC) (by rw [g2]; exact va_assign hcls) rfl rfl hd fun H1 e1 z oq => ?_
      refine hk _ _ _ _ _ h H1 _ cells slots lsA (hP.put h16 hq' z (hP.2.1.set (hP.D0 hM) hq ?_ oq) rfl (fun _ => rfl) rfl (zent_sq hka (by decide))) (zSm_sq hM _ _ _) (hS.put z oq ((hP.D0 hM).2 q0 _ hq)) hL hc hs
      show H1[a]? = some (vp_cell _ _)
      rw [e1]
      rw [vp_cell_q, vp_cell_q, arrV_store]
      congr 2
      funext q
      by_cases hq : q = i.toNatClampNeg
      · subst hq
        simp [updV, va_up, va_rf]
      · simp [updV, va_up, hq]
    · cases h
end ROWS
end
section
/-! the steps that make cells, call, return, read what nobody writes -/
section CALLS
variable {mi : Nat → MethodName × ByteArray × Nat × Option FieldType × Nat × Nat} {own : String} {cc : ByteArray} {nL : Nat} {ret : Option FieldType} {ini : Bool} {pc : Nat}
theorem ok_new {ci : Nat} {C : String} {T : u_T} {N index : Nat} {ty : Nat → FieldType} (hCl : zCl ci C T N ty) (hdef : ∀ j, j < N → ∀ t, (ztg ci)[j]? = some t → defaultValue (ty j) = (match t with | 0 => .int 0 | 1 => .null | _ => .long 0)) (hw1 : Cond.classLink own index C ∈ lw_tbl) (hw2 : Cond.instantiable C N ∈ lw_tbl) (hw3 : Cond.initialized C ∈ lw_tbl)
    (hd : decode cc pc = .ok (.new index, 3)) : zOk mi own cc nL ret ini pc (oNew ci N (pc + 3)) := by
  refine ⟨fun E b ls st σ => ?_, fun D cy d p l e R s m args below meth c σ0 out Q E hE hC k b ls st σ h hk H locs cells slots lsA hP hM hS hL hc hs => ?_⟩
  · unfold oNew
    split
    · exact Or.inr ⟨_, _, _, _, _, fun _ => rfl⟩
    · exact Or.inl ⟨_, fun _ => rfl⟩
  · unfold oNew at h
    split at h
    · next hb =>
      have hT := hC.2.2.2.2.1
      have hKn := hC.2.2.2.2.2.1.1 ci _ hCl.1
      have h10 := hCl.2.2.2.2.2
      refine W.newcK hC.1 hC.2.1 hC.2.2.2.1 (hT _ hw1 rfl _) (hT _ hw2 rfl _) (hT _ hw3 rfl _) rfl hd (by omega) (by omega) hKn.2.1 hP.1 fun H1 kC hkC e1 z1 o1 => ?_
      rw [← hP.1] at o1 z1
      have hen : zent cy (zno σ ci) (znx σ) = .inr (ci, zfl (zno σ ci) (znx σ) ci) := zent_o (show zkd (zno σ ci) (znx σ) = ci from va_up_self _ _ _) h10
      refine hk _ _ _ _ _ h H1 locs (cells + 1) (slots + N) lsA (hP.push (c := ci) (by omega) z1 o1 ?_ rfl rfl rfl (zno_ent hen)) (zSm_new hM (c := ci) (by omega) rfl rfl (fun q hq => rfl) (fun q hq i => rfl) (fun f hf j => ?_)) (hS.grow z1 o1) hL (by show cells + 1 + (b.1 - 1) ≤ R.cells; omega) (by show slots + N + (b.2 - N) ≤ R.slots; omega)
      · refine ⟨_, hCl.1, (u_born ty (hCl.words hT args) (fun _ h => h) hKn hkC e1 hCl.2.2.1).to fun j hj => ?_⟩
        have hj' : j < (ztg ci).length := by rw [hCl.2.2.2.2.1]; exact hj
        have hjt : (ztg ci)[j]? = some (ztg ci)[j] := List.getElem?_eq_getElem hj'
        have h64 : j < 64 := Nat.lt_of_lt_of_le hj' (ztg_64 ci)
        have h3 := ztg_3 ci h10 _ (List.getElem_mem hj')
        show defaultValue (ty j) = (zfl (zno σ ci) (znx σ) ci).getD j .null
        rw [List.getD_eq_getElem?_getD, zfl_get hjt, hdef j hj _ hjt]
        show _ = zfv (zno σ ci) (ztg ci)[j] (64 * ci + j) (znx σ)
        generalize (ztg ci)[j] = t at h3 ⊢
        match t, h3 with
        | 0, _ => simp [zfv, zi, zno]
        | 1, _ =>
          simp only [zfv, zr, zno]
          rw [if_pos ⟨trivial, by omega⟩]
          rfl
        | 2, _ => simp [zfv, zl, zno]
      · show (if j = znx σ ∧ f < 640 then none else σ.2.1 f j) = zr σ f j
        rw [if_neg (fun q => by omega)]
        rfl
    · cases h
theorem ok_newa10 (hw : Cond.arrayClass .char ∈ lw_tbl) (hd : decode cc pc = .ok (.newarray .char, 2)) : zOk mi own cc nL ret ini pc (oNewA 10 (pc + 2)) := by
  refine ⟨fun E b ls st σ => ?_, fun D cy d p l e R s m args below meth c σ0 out Q E hE hC k b ls st σ h hk H locs cells slots lsA hP hM hS hL hc hs => ?_⟩
  · unfold oNewA
    split
    · split
      · exact Or.inr ⟨_, _, _, _, _, fun _ => rfl⟩
      · exact Or.inl ⟨_, fun _ => rfl⟩
    · exact Or.inl ⟨_, fun _ => rfl⟩
  · unfold oNewA at h
    split at h
    · next x st =>
      split at h
      · next hb =>
        obtain ⟨⟨hx0, hx1⟩, hb1, hb2⟩ := hb
        have hT := hC.2.2.2.2.1
        have hxn : x.toNatClampNeg ≤ 65536 := by show x.toInt.toNat ≤ 65536; omega
        refine va_newaK (atype := .char) hC.1 hC.2.1 (hT _ hw rfl _) rfl hd rfl (fun q => by have := Int32.lt_iff_toInt_lt.mp q; simp at this; omega) (N := x.toNatClampNeg) rfl (Nat.le_trans (Nat.mul_le_mul_right _ hxn) (by decide)) (by omega) (by omega) hP.1 fun H1 cA e1 z1 o1 hAr hNm => ?_
        rw [← hP.1] at o1 z1
        have hcA : cA = cy 10 := Option.some.inj (hNm.symm.trans (hC.2.2.2.2.2.1.2 0 _ rfl).2)
        subst hcA
        have hen : zent cy (zna σ 10 x.toNatClampNeg) (znx σ) = .inl (cy 10, x.toNatClampNeg, .inl (fun _ => 0)) := by
          rw [zent_i (c := 10) (show zkd (zna σ 10 x.toNatClampNeg) (znx σ) = 10 from va_up_self _ _ _) (by decide) (by decide)]
          rw [show zln (zna σ 10 x.toNatClampNeg) (znx σ) = x.toNatClampNeg from va_up_self _ _ _, show zai (zna σ 10 x.toNatClampNeg) (znx σ) = fun _ => 0 from funext fun i => if_pos rfl]
        refine hk _ _ _ _ _ h H1 locs (cells + 1) (slots + x.toNatClampNeg) lsA (hP.push (c := 10) (by decide) z1 o1 ?_ rfl rfl rfl (zna_ent hen)) (zSm_new hM (c := 10) (by decide) rfl rfl (fun q hq => va_up_ne _ _ hq) (fun q hq i => if_neg hq) (fun f hf j => rfl)) (hS.grow z1 o1) hL (by show cells + 1 + (b.1 - 1) ≤ R.cells; omega) (by show slots + x.toNatClampNeg + (b.2 - x.toNatClampNeg) ≤ R.slots; omega)
        exact e1
      · cases h
    · cases h
theorem ok_newa11 (hw : Cond.arrayClass .int ∈ lw_tbl) (hd : decode cc pc = .ok (.newarray .int, 2)) : zOk mi own cc nL ret ini pc (oNewA 11 (pc + 2)) := by
  refine ⟨fun E b ls st σ => ?_, fun D cy d p l e R s m args below meth c σ0 out Q E hE hC k b ls st σ h hk H locs cells slots lsA hP hM hS hL hc hs => ?_⟩
  · unfold oNewA
    split
    · split
      · exact Or.inr ⟨_, _, _, _, _, fun _ => rfl⟩
      · exact Or.inl ⟨_, fun _ => rfl⟩
    · exact Or.inl ⟨_, fun _ => rfl⟩
  · unfold oNewA at h
    split at h
    · next x st =>
      split at h
      · next hb =>
        obtain ⟨⟨hx0, hx1⟩, hb1, hb2⟩ := hb
        have hT := hC.2.2.2.2.1
        have hxn : x.toNatClampNeg ≤ 65536 := by show x.toInt.toNat ≤ 65536; omega
        refine va_newaK (atype := .int) hC.1 hC.2.1 (hT _ hw rfl _) rfl hd rfl (fun q => by have := Int32.lt_iff_toInt_lt.mp q; simp at this; omega) (N := x.toNatClampNeg) rfl (Nat.le_trans (Nat.mul_le_mul_right _ hxn) (by decide)) (by omega) (by omega) hP.1 fun H1 cA e1 z1 o1 hAr hNm => ?_
        rw [← hP.1] at o1 z1
        have hcA : cA = cy 11 := Option.some.inj (hNm.symm.trans (hC.2.2.2.2.2.1.2 1 _ rfl).2)
        subst hcA
        have hen : zent cy (zna σ 11 x.toNatClampNeg) (znx σ) = .inl (cy 11, x.toNatClampNeg, .inl (fun _ => 0)) := by
          rw [zent_i (c := 11) (show zkd (zna σ 11 x.toNatClampNeg) (znx σ) = 11 from va_up_self _ _ _) (by decide) (by decide)]
          rw [show zln (zna σ 11 x.toNatClampNeg) (znx σ) = x.toNatClampNeg from va_up_self _ _ _, show zai (zna σ 11 x.toNatClampNeg) (znx σ) = fun _ => 0 from funext fun i => if_pos rfl]
        refine hk _ _ _ _ _ h H1 locs (cells + 1) (slots + x.toNatClampNeg) lsA (hP.push (c := 11) (by decide) z1 o1 ?_ rfl rfl rfl (zna_ent hen)) (zSm_new hM (c := 11) (by decide) rfl rfl (fun q hq => va_up_ne _ _ hq) (fun q hq i => if_neg hq) (fun f hf j => rfl)) (hS.grow z1 o1) hL (by show cells + 1 + (b.1 - 1) ≤ R.cells; omega) (by show slots + x.toNatClampNeg + (b.2 - x.toNatClampNeg) ≤ R.slots; omega)
        exact e1
      · cases h
    · cases h
theorem ok_newa13 {index : Nat} (hw : Cond.classLink own index RX0 ∈ lw_tbl) (hw2 : Cond.arrayOver (.object RX0) ∈ lw_tbl) (hd : decode cc pc = .ok (.anewarray index, 3)) : zOk mi own cc nL ret ini pc (oNewA 13 (pc + 3)) := by
  refine ⟨fun E b ls st σ => ?_, fun D cy d p l e R s m args below meth c σ0 out Q E hE hC k b ls st σ h hk H locs cells slots lsA hP hM hS hL hc hs => ?_⟩
  · unfold oNewA
    split
    · split
      · exact Or.inr ⟨_, _, _, _, _, fun _ => rfl⟩
      · exact Or.inl ⟨_, fun _ => rfl⟩
    · exact Or.inl ⟨_, fun _ => rfl⟩
  · unfold oNewA at h
    split at h
    · next x st =>
      split at h
      · next hb =>
        obtain ⟨⟨hx0, hx1⟩, hb1, hb2⟩ := hb
        have hT := hC.2.2.2.2.1
        have hxn : x.toNatClampNeg ≤ 65536 := by show x.toInt.toNat ≤ 65536; omega
        refine W.anew hC.1 hC.2.1 hC.2.2.2.1 (hT _ hw rfl _) (hT _ hw2 rfl _) rfl hd rfl (fun q => by have := Int32.lt_iff_toInt_lt.mp q; simp at this; omega) (Nat.le_trans (Nat.mul_le_mul_right _ hxn) (by decide)) (by omega) (by omega) fun cA kA comp f1 f2 f3 f4 => ?_
        generalize hH1 : H.push ({ cls := cA, slots := Array.replicate x.toNatClampNeg .null, vm := .none } : Cell) = H1
        have z1 : H1.size = H.size + 1 := by rw [← hH1, Array.size_push]
        have e1 : H1[H.size]? = some (arrV cA x.toNatClampNeg (fun _ => .null)) := by rw [← hH1, Array.getElem?_push_size, ← arrV_new]
        have o1 : ∀ q : Nat, q < H.size → H1[q]? = H[q]? := fun q hq => by rw [← hH1, Array.getElem?_push, if_neg (Nat.ne_of_lt hq)]
        obtain ⟨kA', comp', g1, g2, g3, g4⟩ := (hC.2.2.2.2.2.1.2 2 _ rfl).2
        have hcA : cA = cy 13 := Option.some.inj (f1.symm.trans g4)
        subst hcA
        rw [hP.1] at e1
        have hen : zent cy (zna σ 13 x.toNatClampNeg) (znx σ) = .inl (cy 13, x.toNatClampNeg, .inr (.inr (.inr (.inr (fun _ => none))))) := by
          rw [zent_q (c := 13) (show zkd (zna σ 13 x.toNatClampNeg) (znx σ) = 13 from va_up_self _ _ _) (by decide)]
          rw [show zln (zna σ 13 x.toNatClampNeg) (znx σ) = x.toNatClampNeg from va_up_self _ _ _, show zar (zna σ 13 x.toNatClampNeg) (znx σ) = fun _ => none from funext fun i => if_pos rfl]
        rw [hP.1]
        refine hk _ _ _ _ _ h H1 locs (cells + 1) (slots + x.toNatClampNeg) lsA (hP.push (c := 13) (by decide) z1 o1 ?_ rfl rfl rfl (zna_ent hen)) (zSm_new hM (c := 13) (by decide) rfl rfl (fun q hq => va_up_ne _ _ hq) (fun q hq i => if_neg hq) (fun f hf j => rfl)) (hS.grow z1 o1) hL (by show cells + 1 + (b.1 - 1) ≤ R.cells; omega) (by show slots + x.toNatClampNeg + (b.2 - x.toNatClampNeg) ≤ R.slots; omega)
        exact e1
      · cases h
    · cases h
theorem ok_newa14 {index : Nat} (hw : Cond.classLink own index RX3 ∈ lw_tbl) (hw2 : Cond.arrayOver (.object RX3) ∈ lw_tbl) (hd : decode cc pc = .ok (.anewarray index, 3)) : zOk mi own cc nL ret ini pc (oNewA 14 (pc + 3)) := by
  refine ⟨fun E b ls st σ => ?_, fun D cy d p l e R s m args below meth c σ0 out Q E hE hC k b ls st σ h hk H locs cells slots lsA hP hM hS hL hc hs => ?_⟩
  · unfold oNewA
    split
    · split
      · exact Or.inr ⟨_, _, _, _, _, fun _ => rfl⟩
      · exact Or.inl ⟨_, fun _ => rfl⟩
    · exact Or.inl ⟨_, fun _ => rfl⟩
  · unfold oNewA at h
    split at h
    · next x st =>
      split at h
      · next hb =>
        obtain ⟨⟨hx0, hx1⟩, hb1, hb2⟩ := hb
        have hT := hC.2.2.2.2.1
        have hxn : x.toNatClampNeg ≤ 65536 := by show x.toInt.toNat ≤ 65536; omega
        refine W.anew hC.1 hC.2.1 hC.2.2.2.1 (hT _ hw rfl _) (hT _ hw2 rfl _) rfl hd rfl (fun q => by have := Int32.lt_iff_toInt_lt.mp q; simp at this; omega) (Nat.le_trans (Nat.mul_le_mul_right _ hxn) (by decide)) (by omega) (by omega) fun cA kA comp f1 f2 f3 f4 => ?_
        generalize hH1 : H.push ({ cls := cA, slots := Array.replicate x.toNatClampNeg .null, vm := .none } : Cell) = H1
        have z1 : H1.size = H.size + 1 := by rw [← hH1, Array.size_push]
        have e1 : H1[H.size]? = some (arrV cA x.toNatClampNeg (fun _ => .null)) := by rw [← hH1, Array.getElem?_push_size, ← arrV_new]
        have o1 : ∀ q : Nat, q < H.size → H1[q]? = H[q]? := fun q hq => by rw [← hH1, Array.getElem?_push, if_neg (Nat.ne_of_lt hq)]
        obtain ⟨kA', comp', g1, g2, g3, g4⟩ := (hC.2.2.2.2.2.1.2 3 _ rfl).2
        have hcA : cA = cy 14 := Option.some.inj (f1.symm.trans g4)
        subst hcA
        rw [hP.1] at e1
        have hen : zent cy (zna σ 14 x.toNatClampNeg) (znx σ) = .inl (cy 14, x.toNatClampNeg, .inr (.inr (.inr (.inr (fun _ => none))))) := by
          rw [zent_q (c := 14) (show zkd (zna σ 14 x.toNatClampNeg) (znx σ) = 14 from va_up_self _ _ _) (by decide)]
          rw [show zln (zna σ 14 x.toNatClampNeg) (znx σ) = x.toNatClampNeg from va_up_self _ _ _, show zar (zna σ 14 x.toNatClampNeg) (znx σ) = fun _ => none from funext fun i => if_pos rfl]
        rw [hP.1]
        refine hk _ _ _ _ _ h H1 locs (cells + 1) (slots + x.toNatClampNeg) lsA (hP.push (c := 14) (by decide) z1 o1 ?_ rfl rfl rfl (zna_ent hen)) (zSm_new hM (c := 14) (by decide) rfl rfl (fun q hq => va_up_ne _ _ hq) (fun q hq i => if_neg hq) (fun f hf j => rfl)) (hS.grow z1 o1) hL (by show cells + 1 + (b.1 - 1) ≤ R.cells; omega) (by show slots + x.toNatClampNeg + (b.2 - x.toNatClampNeg) ≤ R.slots; omega)
        exact e1
      · cases h
    · cases h
theorem ok_newa15 {index : Nat} (hw : Cond.classLink own index RX6 ∈ lw_tbl) (hw2 : Cond.arrayOver (.object RX6) ∈ lw_tbl) (hd : decode cc pc = .ok (.anewarray index, 3)) : zOk mi own cc nL ret ini pc (oNewA 15 (pc + 3)) := by
  refine ⟨fun E b ls st σ => ?_, fun D cy d p l e R s m args below meth c σ0 out Q E hE hC k b ls st σ h hk H locs cells slots lsA hP hM hS hL hc hs => ?_⟩
  · unfold oNewA
    split
    · split
      · exact Or.inr ⟨_, _, _, _, _, fun _ => rfl⟩
      · exact Or.inl ⟨_, fun _ => rfl⟩
    · exact Or.inl ⟨_, fun _ => rfl⟩
  · unfold oNewA at h
    split at h
    · next x st =>
      split at h
      · next hb =>
        obtain ⟨⟨hx0, hx1⟩, hb1, hb2⟩ := hb
        have hT := hC.2.2.2.2.1
        have hxn : x.toNatClampNeg ≤ 65536 := by show x.toInt.toNat ≤ 65536; omega
        refine W.anew hC.1 hC.2.1 hC.2.2.2.1 (hT _ hw rfl _) (hT _ hw2 rfl _) rfl hd rfl (fun q => by have := Int32.lt_iff_toInt_lt.mp q; simp at this; omega) (Nat.le_trans (Nat.mul_le_mul_right _ hxn) (by decide)) (by omega) (by omega) fun cA kA comp f1 f2 f3 f4 => ?_
        generalize hH1 : H.push ({ cls := cA, slots := Array.replicate x.toNatClampNeg .null, vm := .none } : Cell) = H1
        have z1 : H1.size = H.size + 1 := by rw [← hH1, Array.size_push]
        have e1 : H1[H.size]? = some (arrV cA x.toNatClampNeg (fun _ => .null)) := by rw [← hH1, Array.getElem?_push_size, ← arrV_new]
        have o1 : ∀ q : Nat, q < H.size → H1[q]? = H[q]? := fun q hq => by rw [← hH1, Array.getElem?_push, if_neg (Nat.ne_of_lt hq)]
        obtain ⟨kA', comp', g1, g2, g3, g4⟩ := (hC.2.2.2.2.2.1.2 4 _ rfl).2
        have hcA : cA = cy 15 := Option.some.inj (f1.symm.trans g4)
        subst hcA
        rw [hP.1] at e1
        have hen : zent cy (zna σ 15 x.toNatClampNeg) (znx σ) = .inl (cy 15, x.toNatClampNeg, .inr (.inr (.inr (.inr (fun _ => none))))) := by
          rw [zent_q (c := 15) (show zkd (zna σ 15 x.toNatClampNeg) (znx σ) = 15 from va_up_self _ _ _) (by decide)]
          rw [show zln (zna σ 15 x.toNatClampNeg) (znx σ) = x.toNatClampNeg from va_up_self _ _ _, show zar (zna σ 15 x.toNatClampNeg) (znx σ) = fun _ => none from funext fun i => if_pos rfl]
        rw [hP.1]
        refine hk _ _ _ _ _ h H1 locs (cells + 1) (slots + x.toNatClampNeg) lsA (hP.push (c := 15) (by decide) z1 o1 ?_ rfl rfl rfl (zna_ent hen)) (zSm_new hM (c := 15) (by decide) rfl rfl (fun q hq => va_up_ne _ _ hq) (fun q hq i => if_neg hq) (fun f hf j => rfl)) (hS.grow z1 o1) hL (by show cells + 1 + (b.1 - 1) ≤ R.cells; omega) (by show slots + x.toNatClampNeg + (b.2 - x.toNatClampNeg) ≤ R.slots; omega)
        exact e1
      · cases h
    · cases h
theorem ok_obj {index : Nat} (hw1 : Cond.methodLink own index Lib.objectInit ∈ lw_tbl) (hw2 : Cond.instanceMethod Lib.objectInit ∈ lw_tbl) (hw3 : Cond.code Lib.objectInit ⟨#[0xb1]⟩ 1 none ∈ lw_tbl) (hd : decode cc pc = .ok (.invokespecial index, 3)) : zOk mi own cc nL ret ini pc (oObj (pc + 3)) := by
  refine ⟨fun E b ls st σ => ?_, fun D cy d p l e R s m args below meth c σ0 out Q E hE hC k b ls st σ h hk H locs cells slots lsA hP hM hS hL hc hs => ?_⟩
  · unfold oObj
    split
    · split
      · exact Or.inr ⟨_, _, _, _, _, fun _ => rfl⟩
      · exact Or.inl ⟨_, fun _ => rfl⟩
    · exact Or.inl ⟨_, fun _ => rfl⟩
  · unfold oObj at h
    split at h
    · split at h
      · next a st h8 =>
        have hT := hC.2.2.2.2.1
        have hR := hC.2.2.2.2.2.2.2.2.1
        exact W.objInit hC.1 hC.2.1 hC.2.2.2.1 (hT _ hw1 rfl _) (hT _ hw2 rfl _) (hT _ hw3 rfl _) rfl (by rw [hC.2.2.1]; exact hL.1) rfl hd (by omega) (by have := zcats h8; have e0 : (F0 m pc lsA (List.map zTo (Sum.inr (Sum.inl (some a)) :: st))).monitorRoom = 0 := rfl; rw [e0]; omega) (hk _ _ _ _ _ h H locs cells slots lsA hP hM hS hL hc hs)
      · cases h
    · cases h
theorem zPc_blind {D : va_G} {cy : Nat → ClassId} {as : List zV} {σ : zS} : FrameBlind (zPc D cy as σ) := by
  intro a U g mk h
  obtain ⟨h1, h2, h3, h4, h5⟩ := h
  exact ⟨h1, zTb.same (s := U) rfl h2, va_K.moved (u := U) (U := U.calling g mk a) (Vm.Alike.refl U.vm) h3, h4.to (U := U.calling g mk a) (State.WarmedH.refl U) (fun _ _ _ => rfl) (zSm.rf σ) (fun _ h => h), h5⟩
theorem zPc_here {D : va_G} {cy : Nat → ClassId} {as : List zV} {σ σ0 : zS} {s : State} {H : Heap} {locs : List Loc} (hT : zTb s) (hK : va_K D vwCl (zTys cy) s) (hX : zExt (zA σ0) s σ0 s.heap) (hP : zPool D cy σ H) (hM : zSm σ0 σ) (hS : va_S (zA σ0) s.heap H locs) :
    ∀ U : State, U.heap = H → s.WarmedH U.vm → zPc D cy as σ ((as.map zTo).toArray) U := by
  intro U hU hW
  refine ⟨rfl, hT.moved hW, va_K.moved hW.alike hK, ?_, by rw [hU]; exact hP⟩
  rw [hU]
  exact hX.to hW hS.2.1 hM (fun q h => zA.mono hM h)
theorem x_after {D : va_G} {cy : Nat → ClassId} {p : Program} {l : Launch} {e : Env} {R : Room} {s : State} {m : MethodId} {args : Array Value} {below : List Frame} {meth : Method} {c : Code} {H : Heap} {locs : List Loc} {cells slots mc ms : Nat} {Q : State → Prop} {lsA : Array Slot} {st0 rest : List Value} {σ σ0 : zS} {o : Option zV × zS} {a : Array Value}
    (hr : va_Run p l e R s m args below meth c H locs cells slots mc ms (F0 m pc lsA st0) rest (zQc D cy σ o a) (zA σ)) (hM : zSm σ0 σ) (hS : va_S (zA σ0) s.heap H locs)
    (kk : ∀ (H1 : Heap) (locs1 : List Loc), zPool D cy o.2 H1 → zSm σ0 o.2 → va_S (zA σ0) s.heap H1 locs1 → W p l e R s m args below meth c H1 locs1 (cells + mc) (slots + ms) Q (F0 m (pc + 3) lsA ((o.1.map zTo).toList ++ rest))) : W p l e R s m args below meth c H locs cells slots Q (F0 m pc lsA st0) := by
  intro T hT X
  obtain ⟨v, st₀, t, T', L, h0, X', hL, e1, e2, ⟨hv, hp, hm, hz, hk⟩, stp⟩ := hr T hT X
  cases hv
  rw [h0] at hz hk
  obtain ⟨t2, a1, b1⟩ := kk T'.heap (locs ++ L) (by rw [e1]; exact hp) (hM.tr hm) ⟨Nat.le_trans hS.1 (by rw [e1]; exact hz), fun q h1 h2 => by
      rw [e1, hk q (Nat.lt_of_lt_of_le h1 hS.1) (fun z => h2 (zA.mono hM z))]
      exact hS.2.1 q h1 h2, fun q hq => by
      rcases List.mem_append.mp hq with h | h
      · exact hS.2.2 q h
      · exact zA.mono hM (hL q h)⟩ T' rfl X'
  exact ⟨t2, stp t2 a1, b1⟩
theorem zfit_of {b q : Nat × Nat} (h : zfit b q = true) : q.1 ≤ b.1 ∧ q.2 ≤ b.2 := by
  unfold zfit at h
  rw [Bool.and_eq_true] at h
  exact ⟨Nat.le_of_ble_eq_true h.1, Nat.le_of_ble_eq_true h.2⟩
theorem zgd_some {c : Bool} {x : zO} {o : Option zV × zS} (h : zgd c x = some o) : c = true ∧ x = some o := by
  cases c with
  | true => exact ⟨rfl, h⟩
  | false => cases h
theorem bnI_some {o : zO} {f : Int32 → zS → zO} {r : Option zV × zS} (h : bnI o f = some r) : ∃ x σ, o = some (some (.inl x), σ) ∧ f x σ = some r := by
  unfold bnI at h
  split at h
  · exact ⟨_, _, rfl, h⟩
  · cases h
theorem bnR_some {o : zO} {f : Option Nat → zS → zO} {r : Option zV × zS} (h : bnR o f = some r) : ∃ x σ, o = some (some (.inr (.inl x)), σ) ∧ f x σ = some r := by
  unfold bnR at h
  split at h
  · exact ⟨_, _, rfl, h⟩
  · cases h
theorem bnL_some {o : zO} {f : Int64 → zS → zO} {r : Option zV × zS} (h : bnL o f = some r) : ∃ x σ, o = some (some (.inr (.inr (some x))), σ) ∧ f x σ = some r := by
  unfold bnL at h
  split at h
  · exact ⟨_, _, rfl, h⟩
  · cases h
theorem bnV_some {o : zO} {f : zS → zO} {r : Option zV × zS} (h : bnV o f = some r) : ∃ σ, o = some (none, σ) ∧ f σ = some r := by
  unfold bnV at h
  split at h
  · exact ⟨_, rfl, h⟩
  · cases h
theorem zst_split (st : List zV) (a : Nat) : st.map zTo = ((st.take a).reverse.map zTo).reverse ++ (st.drop a).map zTo := by
  rw [List.map_reverse, List.reverse_reverse, ← List.map_append, List.take_append_drop]
theorem zst_rcv {st : List zV} {a : Nat} {v : zV} (h : st[a]? = some v) : (st.take (a + 1)).reverse = v :: (st.take a).reverse ∧ st.map zTo = ((st.take a).reverse.map zTo).reverse ++ zTo v :: (st.drop (a + 1)).map zTo := by
  have e : st.take (a + 1) = st.take a ++ [v] := by rw [List.take_succ, h]; rfl
  refine ⟨by rw [e, List.reverse_append]; rfl, ?_⟩
  have := zst_split st (a + 1)
  rw [this, e, List.reverse_append]
  simp
def zYok (yn : MethodName) (n : Nat) : Prop := (yn.cls ≠ "java/lang/invoke/MethodHandle" ∧ yn.cls ≠ "java/lang/invoke/VarHandle") ∧ (parseMethodDescriptor yn.desc).map (fun d => d.parameters.length) = some n
theorem zYok.sig {yn : MethodName} {n : Nat} (h : zYok yn n) : ∀ sig, parseMethodDescriptor yn.desc = some sig → n = sig.parameters.length := by
  intro sig hs
  have h2 := h.2
  rw [hs] at h2
  exact (Option.some.inj h2).symm
theorem lin_gd {op : zK → zO} {c : Bool} {g : zK → zO} (h : ∀ k, op k = zgd c (g k)) (hg : (∃ c, ∀ k, g k = c) ∨ ∃ pc b' ls' st' σ', ∀ k, g k = k pc b' ls' st' σ') : (∃ c, ∀ k, op k = c) ∨ ∃ pc b' ls' st' σ', ∀ k, op k = k pc b' ls' st' σ' := by
  cases c with
  | false => exact Or.inl ⟨none, fun k => by rw [h k]; rfl⟩
  | true =>
    rcases hg with ⟨c, hc⟩ | ⟨pc, b', ls', st', σ', hc⟩
    · exact Or.inl ⟨c, fun k => by rw [h k]; exact hc k⟩
    · exact Or.inr ⟨pc, b', ls', st', σ', fun k => by rw [h k]; exact hc k⟩
theorem lin_caI {y a n : Nat} {q : Nat × Nat} : zLin (oCaI y a q n) := by
  intro E b ls st σ
  refine lin_gd (fun _ => rfl) ?_
  generalize E y (st.take a).reverse σ = o
  rcases o with _ | ⟨_ | x | x | x | x, σ'⟩
  · exact Or.inl ⟨_, fun _ => rfl⟩
  · exact Or.inl ⟨_, fun _ => rfl⟩
  · exact Or.inr ⟨_, _, _, _, _, fun _ => rfl⟩
  · exact Or.inl ⟨_, fun _ => rfl⟩
  · exact Or.inl ⟨_, fun _ => rfl⟩
  · exact Or.inl ⟨_, fun _ => rfl⟩
theorem lin_caR {y a n : Nat} {q : Nat × Nat} : zLin (oCaR y a q n) := by
  intro E b ls st σ
  refine lin_gd (fun _ => rfl) ?_
  generalize E y (st.take a).reverse σ = o
  rcases o with _ | ⟨_ | x | x | x | x, σ'⟩
  · exact Or.inl ⟨_, fun _ => rfl⟩
  · exact Or.inl ⟨_, fun _ => rfl⟩
  · exact Or.inl ⟨_, fun _ => rfl⟩
  · exact Or.inr ⟨_, _, _, _, _, fun _ => rfl⟩
  · exact Or.inl ⟨_, fun _ => rfl⟩
  · exact Or.inl ⟨_, fun _ => rfl⟩
theorem lin_caL {y a n : Nat} {q : Nat × Nat} : zLin (oCaL y a q n) := by
  intro E b ls st σ
  refine lin_gd (fun _ => rfl) ?_
  generalize E y (st.take a).reverse σ = o
  rcases o with _ | ⟨_ | x | x | x | x, σ'⟩
  · exact Or.inl ⟨_, fun _ => rfl⟩
  · exact Or.inl ⟨_, fun _ => rfl⟩
  · exact Or.inl ⟨_, fun _ => rfl⟩
  · exact Or.inl ⟨_, fun _ => rfl⟩
  · exact Or.inl ⟨_, fun _ => rfl⟩
  · exact Or.inr ⟨_, _, _, _, _, fun _ => rfl⟩
theorem lin_caV {y a n : Nat} {q : Nat × Nat} : zLin (oCaV y a q n) := by
  intro E b ls st σ
  refine lin_gd (fun _ => rfl) ?_
  generalize E y (st.take a).reverse σ = o
  rcases o with _ | ⟨_ | x | x | x | x, σ'⟩
  · exact Or.inl ⟨_, fun _ => rfl⟩
  · exact Or.inr ⟨_, _, _, _, _, fun _ => rfl⟩
  · exact Or.inl ⟨_, fun _ => rfl⟩
  · exact Or.inl ⟨_, fun _ => rfl⟩
  · exact Or.inl ⟨_, fun _ => rfl⟩
  · exact Or.inl ⟨_, fun _ => rfl⟩
theorem lin_rcv {c a : Nat} {op : zOp} (h : zLin op) : zLin (oRcv c a op) := by
  intro E b ls st σ
  unfold oRcv
  split
  · next o ho =>
    refine lin_onR (fun _ => rfl) fun x => ?_
    by_cases hx : zkd σ x = c
    · rcases h E b ls st σ with ⟨c, hc⟩ | ⟨pc, b', ls', st', σ', hc⟩
      · exact Or.inl ⟨c, fun k => (if_pos hx).trans (hc k)⟩
      · exact Or.inr ⟨pc, b', ls', st', σ', fun k => (if_pos hx).trans (hc k)⟩
    · exact Or.inl ⟨none, fun k => if_neg hx⟩
  · exact Or.inl ⟨_, fun _ => rfl⟩
theorem ok_caSI {y n mc ms index mL : Nat} {yn : MethodName} {cb : ByteArray} {rt : Option FieldType} (hmi : mi y = (yn, cb, mL, rt, mc, ms)) (hy : zYok yn n) (hmL : mL ≤ 20) (hw1 : Cond.methodLink own index yn ∈ lw_tbl) (hw2 : Cond.static yn ∈ lw_tbl) (hw3 : Cond.initialized yn.cls ∈ lw_tbl) (hw4 : Cond.code yn cb mL rt ∈ lw_tbl)
    (hd : decode cc pc = .ok (.invokestatic index, 3)) : zOk mi own cc nL ret ini pc (oCaI y n (mc, ms) (pc + 3)) := by
  refine ⟨lin_caI, fun D cy d p l e R s m args below meth c σ0 out Q E hE hC k b ls st σ h hk H locs cells slots lsA hP hM hS hL hc hs => ?_⟩
  obtain ⟨hg, h⟩ := zgd_some h
  rw [Bool.and_eq_true] at hg
  obtain ⟨hg1, hg2⟩ := hg
  have hf := zfit_of hg1
  dsimp only at hf
  unfold zroom at hg2
  rw [Bool.and_eq_true] at hg2
  obtain ⟨hg3, hg2⟩ := hg2
  obtain ⟨r, σ1, hEy, h⟩ := bnI_some h
  have hMet := hE y _ σ _ hEy
  rw [hmi] at hMet
  dsimp only at hMet
  have hT := hC.2.2.2.2.1
  have hR := hC.2.2.2.2.2.2.2.2.1
  have hcb : ∀ w ∈ [Cond.code yn cb mL rt], ∀ (a' : Array Value) (U : State), s.WarmedH U.vm → w.before a' U = true := fun w hw a' U hW => by
    rw [List.mem_singleton] at hw
    subst hw
    exact hT.moved hW _ hw4 rfl _
  have hlen : ((st.take n).reverse.map zTo).length = n := by
    rw [List.length_map, List.length_reverse, List.length_take]
    exact Nat.min_eq_left (Nat.le_of_ble_eq_true hg3)
  refine x_after (va_runS (As := ((st.take n).reverse.map zTo)) (rest := (st.drop n).map zTo) (g := F0 m pc lsA (st.map zTo)) (cells := cells) (slots := slots) (locs := locs) ⟨hC.1, hC.2.1, hC.2.2.1, hC.2.2.2.1, fun w hw => absurd hw List.not_mem_nil⟩ hMet ⟨⟨rfl, rfl, hR.1, (by show 8 + (mL + 11) + 40 * d ≤ R.locals; omega), hcb, List.mem_singleton.mpr rfl, hT _ hw4 rfl _, hT _ hw3 rfl _, hy.1, hy.sig, hT _ hw1 rfl _⟩, hT _ hw2 rfl _⟩ ⟨zPc_blind, zPc_here hT hC.2.2.2.2.2.1 hC.2.2.2.2.2.2.1 hP hM hS⟩ rfl hlen hL.1 (zst_split st n) (lv_room (zcats (Nat.le_of_ble_eq_true hg2))) hd ⟨by omega, by omega⟩) hM hS fun H1 locs1 hP1 hM1 hS1 => ?_
  exact hk _ _ _ _ _ h H1 locs1 (cells + mc) (slots + ms) lsA hP1 hM1 hS1 hL (by show cells + mc + (b.1 - mc) ≤ R.cells; omega) (by show slots + ms + (b.2 - ms) ≤ R.slots; omega)
theorem ok_caSR {y n mc ms index mL : Nat} {yn : MethodName} {cb : ByteArray} {rt : Option FieldType} (hmi : mi y = (yn, cb, mL, rt, mc, ms)) (hy : zYok yn n) (hmL : mL ≤ 20) (hw1 : Cond.methodLink own index yn ∈ lw_tbl) (hw2 : Cond.static yn ∈ lw_tbl) (hw3 : Cond.initialized yn.cls ∈ lw_tbl) (hw4 : Cond.code yn cb mL rt ∈ lw_tbl)
    (hd : decode cc pc = .ok (.invokestatic index, 3)) : zOk mi own cc nL ret ini pc (oCaR y n (mc, ms) (pc + 3)) := by
  refine ⟨lin_caR, fun D cy d p l e R s m args below meth c σ0 out Q E hE hC k b ls st σ h hk H locs cells slots lsA hP hM hS hL hc hs => ?_⟩
  obtain ⟨hg, h⟩ := zgd_some h
  rw [Bool.and_eq_true] at hg
  obtain ⟨hg1, hg2⟩ := hg
  have hf := zfit_of hg1
  dsimp only at hf
  unfold zroom at hg2
  rw [Bool.and_eq_true] at hg2
  obtain ⟨hg3, hg2⟩ := hg2
  obtain ⟨r, σ1, hEy, h⟩ := bnR_some h
  have hMet := hE y _ σ _ hEy
  rw [hmi] at hMet
  dsimp only at hMet
  have hT := hC.2.2.2.2.1
  have hR := hC.2.2.2.2.2.2.2.2.1
  have hcb : ∀ w ∈ [Cond.code yn cb mL rt], ∀ (a' : Array Value) (U : State), s.WarmedH U.vm → w.before a' U = true := fun w hw a' U hW => by
    rw [List.mem_singleton] at hw
    subst hw
    exact hT.moved hW _ hw4 rfl _
  have hlen : ((st.take n).reverse.map zTo).length = n := by
    rw [List.length_map, List.length_reverse, List.length_take]
    exact Nat.min_eq_left (Nat.le_of_ble_eq_true hg3)
  refine x_after (va_runS (As := ((st.take n).reverse.map zTo)) (rest := (st.drop n).map zTo) (g := F0 m pc lsA (st.map zTo)) (cells := cells) (slots := slots) (locs := locs) ⟨hC.1, hC.2.1, hC.2.2.1, hC.2.2.2.1, fun w hw => absurd hw List.not_mem_nil⟩ hMet ⟨⟨rfl, rfl, hR.1, (by show 8 + (mL + 11) + 40 * d ≤ R.locals; omega), hcb, List.mem_singleton.mpr rfl, hT _ hw4 rfl _, hT _ hw3 rfl _, hy.1, hy.sig, hT _ hw1 rfl _⟩, hT _ hw2 rfl _⟩ ⟨zPc_blind, zPc_here hT hC.2.2.2.2.2.1 hC.2.2.2.2.2.2.1 hP hM hS⟩ rfl hlen hL.1 (zst_split st n) (lv_room (zcats (Nat.le_of_ble_eq_true hg2))) hd ⟨by omega, by omega⟩) hM hS fun H1 locs1 hP1 hM1 hS1 => ?_
  exact hk _ _ _ _ _ h H1 locs1 (cells + mc) (slots + ms) lsA hP1 hM1 hS1 hL (by show cells + mc + (b.1 - mc) ≤ R.cells; omega) (by show slots + ms + (b.2 - ms) ≤ R.slots; omega)
theorem ok_caSL {y n mc ms index mL : Nat} {yn : MethodName} {cb : ByteArray} {rt : Option FieldType} (hmi : mi y = (yn, cb, mL, rt, mc, ms)) (hy : zYok yn n) (hmL : mL ≤ 20) (hw1 : Cond.methodLink own index yn ∈ lw_tbl) (hw2 : Cond.static yn ∈ lw_tbl) (hw3 : Cond.initialized yn.cls ∈ lw_tbl) (hw4 : Cond.code yn cb mL rt ∈ lw_tbl)
    (hd : decode cc pc = .ok (.invokestatic index, 3)) : zOk mi own cc nL ret ini pc (oCaL y n (mc, ms) (pc + 3)) := by
  refine ⟨lin_caL, fun D cy d p l e R s m args below meth c σ0 out Q E hE hC k b ls st σ h hk H locs cells slots lsA hP hM hS hL hc hs => ?_⟩
  obtain ⟨hg, h⟩ := zgd_some h
  rw [Bool.and_eq_true] at hg
  obtain ⟨hg1, hg2⟩ := hg
  have hf := zfit_of hg1
  dsimp only at hf
  unfold zroom at hg2
  rw [Bool.and_eq_true] at hg2
  obtain ⟨hg3, hg2⟩ := hg2
  obtain ⟨r, σ1, hEy, h⟩ := bnL_some h
  have hMet := hE y _ σ _ hEy
  rw [hmi] at hMet
  dsimp only at hMet
  have hT := hC.2.2.2.2.1
  have hR := hC.2.2.2.2.2.2.2.2.1
  have hcb : ∀ w ∈ [Cond.code yn cb mL rt], ∀ (a' : Array Value) (U : State), s.WarmedH U.vm → w.before a' U = true := fun w hw a' U hW => by
    rw [List.mem_singleton] at hw
    subst hw
    exact hT.moved hW _ hw4 rfl _
  have hlen : ((st.take n).reverse.map zTo).length = n := by
    rw [List.length_map, List.length_reverse, List.length_take]
    exact Nat.min_eq_left (Nat.le_of_ble_eq_true hg3)
  refine x_after (va_runS (As := ((st.take n).reverse.map zTo)) (rest := (st.drop n).map zTo) (g := F0 m pc lsA (st.map zTo)) (cells := cells) (slots := slots) (locs := locs) ⟨hC.1, hC.2.1, hC.2.2.1, hC.2.2.2.1, fun w hw => absurd hw List.not_mem_nil⟩ hMet ⟨⟨rfl, rfl, hR.1, (by show 8 + (mL + 11) + 40 * d ≤ R.locals; omega), hcb, List.mem_singleton.mpr rfl, hT _ hw4 rfl _, hT _ hw3 rfl _, hy.1, hy.sig, hT _ hw1 rfl _⟩, hT _ hw2 rfl _⟩ ⟨zPc_blind, zPc_here hT hC.2.2.2.2.2.1 hC.2.2.2.2.2.2.1 hP hM hS⟩ rfl hlen hL.1 (zst_split st n) (lv_room (zcats (Nat.le_of_ble_eq_true hg2))) hd ⟨by omega, by omega⟩) hM hS fun H1 locs1 hP1 hM1 hS1 => ?_
  exact hk _ _ _ _ _ h H1 locs1 (cells + mc) (slots + ms) lsA hP1 hM1 hS1 hL (by show cells + mc + (b.1 - mc) ≤ R.cells; omega) (by show slots + ms + (b.2 - ms) ≤ R.slots; omega)
theorem ok_caSV {y n mc ms index mL : Nat} {yn : MethodName} {cb : ByteArray} {rt : Option FieldType} (hmi : mi y = (yn, cb, mL, rt, mc, ms)) (hy : zYok yn n) (hmL : mL ≤ 20) (hw1 : Cond.methodLink own index yn ∈ lw_tbl) (hw2 : Cond.static yn ∈ lw_tbl) (hw3 : Cond.initialized yn.cls ∈ lw_tbl) (hw4 : Cond.code yn cb mL rt ∈ lw_tbl)
    (hd : decode cc pc = .ok (.invokestatic index, 3)) : zOk mi own cc nL ret ini pc (oCaV y n (mc, ms) (pc + 3)) := by
  refine ⟨lin_caV, fun D cy d p l e R s m args below meth c σ0 out Q E hE hC k b ls st σ h hk H locs cells slots lsA hP hM hS hL hc hs => ?_⟩
  obtain ⟨hg, h⟩ := zgd_some h
  rw [Bool.and_eq_true] at hg
  obtain ⟨hg1, hg2⟩ := hg
  have hf := zfit_of hg1
  dsimp only at hf
  unfold zroom at hg2
  rw [Bool.and_eq_true] at hg2
  obtain ⟨hg3, hg2⟩ := hg2
  obtain ⟨σ1, hEy, h⟩ := bnV_some h
  have hMet := hE y _ σ _ hEy
  rw [hmi] at hMet
  dsimp only at hMet
  have hT := hC.2.2.2.2.1
  have hR := hC.2.2.2.2.2.2.2.2.1
  have hcb : ∀ w ∈ [Cond.code yn cb mL rt], ∀ (a' : Array Value) (U : State), s.WarmedH U.vm → w.before a' U = true := fun w hw a' U hW => by
    rw [List.mem_singleton] at hw
    subst hw
    exact hT.moved hW _ hw4 rfl _
  have hlen : ((st.take n).reverse.map zTo).length = n := by
    rw [List.length_map, List.length_reverse, List.length_take]
    exact Nat.min_eq_left (Nat.le_of_ble_eq_true hg3)
  refine x_after (va_runS (As := ((st.take n).reverse.map zTo)) (rest := (st.drop n).map zTo) (g := F0 m pc lsA (st.map zTo)) (cells := cells) (slots := slots) (locs := locs) ⟨hC.1, hC.2.1, hC.2.2.1, hC.2.2.2.1, fun w hw => absurd hw List.not_mem_nil⟩ hMet ⟨⟨rfl, rfl, hR.1, (by show 8 + (mL + 11) + 40 * d ≤ R.locals; omega), hcb, List.mem_singleton.mpr rfl, hT _ hw4 rfl _, hT _ hw3 rfl _, hy.1, hy.sig, hT _ hw1 rfl _⟩, hT _ hw2 rfl _⟩ ⟨zPc_blind, zPc_here hT hC.2.2.2.2.2.1 hC.2.2.2.2.2.2.1 hP hM hS⟩ rfl hlen hL.1 (zst_split st n) (lv_room (zcats (Nat.le_of_ble_eq_true hg2))) hd ⟨by omega, by omega⟩) hM hS fun H1 locs1 hP1 hM1 hS1 => ?_
  exact hk _ _ _ _ _ h H1 locs1 (cells + mc) (slots + ms) lsA hP1 hM1 hS1 hL (by show cells + mc + (b.1 - mc) ≤ R.cells; omega) (by show slots + ms + (b.2 - ms) ≤ R.slots; omega)
theorem ok_caSNI {y n mc ms index mL : Nat} {yn : MethodName} {cb : ByteArray} {rt : Option FieldType} {host : String} (hmi : mi y = (yn, cb, mL, rt, mc, ms)) (hy : zYok yn n) (hmL : mL ≤ 20) (hw1 : Cond.methodLinkNest own index yn host ∈ lw_tbl) (hw2 : Cond.static yn ∈ lw_tbl) (hw3 : Cond.initialized yn.cls ∈ lw_tbl) (hw4 : Cond.code yn cb mL rt ∈ lw_tbl)
    (hd : decode cc pc = .ok (.invokestatic index, 3)) : zOk mi own cc nL ret ini pc (oCaI y n (mc, ms) (pc + 3)) := by
  refine ⟨lin_caI, fun D cy d p l e R s m args below meth c σ0 out Q E hE hC k b ls st σ h hk H locs cells slots lsA hP hM hS hL hc hs => ?_⟩
  obtain ⟨hg, h⟩ := zgd_some h
  rw [Bool.and_eq_true] at hg
  obtain ⟨hg1, hg2⟩ := hg
  have hf := zfit_of hg1
  dsimp only at hf
  unfold zroom at hg2
  rw [Bool.and_eq_true] at hg2
  obtain ⟨hg3, hg2⟩ := hg2
  obtain ⟨r, σ1, hEy, h⟩ := bnI_some h
  have hMet := hE y _ σ _ hEy
  rw [hmi] at hMet
  dsimp only at hMet
  have hT := hC.2.2.2.2.1
  have hR := hC.2.2.2.2.2.2.2.2.1
  have hcb : ∀ w ∈ [Cond.code yn cb mL rt], ∀ (a' : Array Value) (U : State), s.WarmedH U.vm → w.before a' U = true := fun w hw a' U hW => by
    rw [List.mem_singleton] at hw
    subst hw
    exact hT.moved hW _ hw4 rfl _
  have hlen : ((st.take n).reverse.map zTo).length = n := by
    rw [List.length_map, List.length_reverse, List.length_take]
    exact Nat.min_eq_left (Nat.le_of_ble_eq_true hg3)
  refine x_after (va_runSN (As := ((st.take n).reverse.map zTo)) (rest := (st.drop n).map zTo) (g := F0 m pc lsA (st.map zTo)) (cells := cells) (slots := slots) (locs := locs) ⟨hC.1, hC.2.1, hC.2.2.1, hC.2.2.2.1, fun w hw => absurd hw List.not_mem_nil⟩ hMet ⟨⟨⟨rfl, rfl, hR.1, (by show 8 + (mL + 11) + 40 * d ≤ R.locals; omega), hcb, List.mem_singleton.mpr rfl⟩, hT _ hw4 rfl _, hT _ hw3 rfl _, hy.1, hy.sig, hT _ hw1 rfl _⟩, hT _ hw2 rfl _, trivial⟩ ⟨zPc_blind, zPc_here hT hC.2.2.2.2.2.1 hC.2.2.2.2.2.2.1 hP hM hS⟩ rfl hlen hL.1 (zst_split st n) (lv_room (zcats (Nat.le_of_ble_eq_true hg2))) hd ⟨by omega, by omega⟩) hM hS fun H1 locs1 hP1 hM1 hS1 => ?_
  exact hk _ _ _ _ _ h H1 locs1 (cells + mc) (slots + ms) lsA hP1 hM1 hS1 hL (by show cells + mc + (b.1 - mc) ≤ R.cells; omega) (by show slots + ms + (b.2 - ms) ≤ R.slots; omega)
theorem ok_caSNR {y n mc ms index mL : Nat} {yn : MethodName} {cb : ByteArray} {rt : Option FieldType} {host : String} (hmi : mi y = (yn, cb, mL, rt, mc, ms)) (hy : zYok yn n) (hmL : mL ≤ 20) (hw1 : Cond.methodLinkNest own index yn host ∈ lw_tbl) (hw2 : Cond.static yn ∈ lw_tbl) (hw3 : Cond.initialized yn.cls ∈ lw_tbl) (hw4 : Cond.code yn cb mL rt ∈ lw_tbl)
    (hd : decode cc pc = .ok (.invokestatic index, 3)) : zOk mi own cc nL ret ini pc (oCaR y n (mc, ms) (pc + 3)) := by
  refine ⟨lin_caR, fun D cy d p l e R s m args below meth c σ0 out Q E hE hC k b ls st σ h hk H locs cells slots lsA hP hM hS hL hc hs => ?_⟩
  obtain ⟨hg, h⟩ := zgd_some h
  rw [Bool.and_eq_true] at hg
  obtain ⟨hg1, hg2⟩ := hg
  have hf := zfit_of hg1
  dsimp only at hf
  unfold zroom at hg2
  rw [Bool.and_eq_true] at hg2
  obtain ⟨hg3, hg2⟩ := hg2
  obtain ⟨r, σ1, hEy, h⟩ := bnR_some h
  have hMet := hE y _ σ _ hEy
  rw [hmi] at hMet
  dsimp only at hMet
  have hT := hC.2.2.2.2.1
  have hR := hC.2.2.2.2.2.2.2.2.1
  have hcb : ∀ w ∈ [Cond.code yn cb mL rt], ∀ (a' : Array Value) (U : State), s.WarmedH U.vm → w.before a' U = true := fun w hw a' U hW => by
    rw [List.mem_singleton] at hw
    subst hw
    exact hT.moved hW _ hw4 rfl _
  have hlen : ((st.take n).reverse.map zTo).length = n := by
    rw [List.length_map, List.length_reverse, List.length_take]
    exact Nat.min_eq_left (Nat.le_of_ble_eq_true hg3)
  refine x_after (va_runSN (As := ((st.take n).reverse.map zTo)) (rest := (st.drop n).map zTo) (g := F0 m pc lsA (st.map zTo)) (cells := cells) (slots := slots) (locs := locs) ⟨hC.1, hC.2.1, hC.2.2.1, hC.2.2.2.1, fun w hw => absurd hw List.not_mem_nil⟩ hMet ⟨⟨⟨rfl, rfl, hR.1, (by show 8 + (mL + 11) + 40 * d ≤ R.locals; omega), hcb, List.mem_singleton.mpr rfl⟩, hT _ hw4 rfl _, hT _ hw3 rfl _, hy.1, hy.sig, hT _ hw1 rfl _⟩, hT _ hw2 rfl _, trivial⟩ ⟨zPc_blind, zPc_here hT hC.2.2.2.2.2.1 hC.2.2.2.2.2.2.1 hP hM hS⟩ rfl hlen hL.1 (zst_split st n) (lv_room (zcats (Nat.le_of_ble_eq_true hg2))) hd ⟨by omega, by omega⟩) hM hS fun H1 locs1 hP1 hM1 hS1 => ?_
  exact hk _ _ _ _ _ h H1 locs1 (cells + mc) (slots + ms) lsA hP1 hM1 hS1 hL (by show cells + mc + (b.1 - mc) ≤ R.cells; omega) (by show slots + ms + (b.2 - ms) ≤ R.slots; omega)
theorem ok_caSNV {y n mc ms index mL : Nat} {yn : MethodName} {cb : ByteArray} {rt : Option FieldType} {host : String} (hmi : mi y = (yn, cb, mL, rt, mc, ms)) (hy : zYok yn n) (hmL : mL ≤ 20) (hw1 : Cond.methodLinkNest own index yn host ∈ lw_tbl) (hw2 : Cond.static yn ∈ lw_tbl) (hw3 : Cond.initialized yn.cls ∈ lw_tbl) (hw4 : Cond.code yn cb mL rt ∈ lw_tbl)
    (hd : decode cc pc = .ok (.invokestatic index, 3)) : zOk mi own cc nL ret ini pc (oCaV y n (mc, ms) (pc + 3)) := by
  refine ⟨lin_caV, fun D cy d p l e R s m args below meth c σ0 out Q E hE hC k b ls st σ h hk H locs cells slots lsA hP hM hS hL hc hs => ?_⟩
  obtain ⟨hg, h⟩ := zgd_some h
  rw [Bool.and_eq_true] at hg
  obtain ⟨hg1, hg2⟩ := hg
  have hf := zfit_of hg1
  dsimp only at hf
  unfold zroom at hg2
  rw [Bool.and_eq_true] at hg2
  obtain ⟨hg3, hg2⟩ := hg2
  obtain ⟨σ1, hEy, h⟩ := bnV_some h
  have hMet := hE y _ σ _ hEy
  rw [hmi] at hMet
  dsimp only at hMet
  have hT := hC.2.2.2.2.1
  have hR := hC.2.2.2.2.2.2.2.2.1
  have hcb : ∀ w ∈ [Cond.code yn cb mL rt], ∀ (a' : Array Value) (U : State), s.WarmedH U.vm → w.before a' U = true := fun w hw a' U hW => by
    rw [List.mem_singleton] at hw
    subst hw
    exact hT.moved hW _ hw4 rfl _
  have hlen : ((st.take n).reverse.map zTo).length = n := by
    rw [List.length_map, List.length_reverse, List.length_take]
    exact Nat.min_eq_left (Nat.le_of_ble_eq_true hg3)
  refine x_after (va_runSN (As := ((st.take n).reverse.map zTo)) (rest := (st.drop n).map zTo) (g := F0 m pc lsA (st.map zTo)) (cells := cells) (slots := slots) (locs := locs) ⟨hC.1, hC.2.1, hC.2.2.1, hC.2.2.2.1, fun w hw => absurd hw List.not_mem_nil⟩ hMet ⟨⟨⟨rfl, rfl, hR.1, (by show 8 + (mL + 11) + 40 * d ≤ R.locals; omega), hcb, List.mem_singleton.mpr rfl⟩, hT _ hw4 rfl _, hT _ hw3 rfl _, hy.1, hy.sig, hT _ hw1 rfl _⟩, hT _ hw2 rfl _, trivial⟩ ⟨zPc_blind, zPc_here hT hC.2.2.2.2.2.1 hC.2.2.2.2.2.2.1 hP hM hS⟩ rfl hlen hL.1 (zst_split st n) (lv_room (zcats (Nat.le_of_ble_eq_true hg2))) hd ⟨by omega, by omega⟩) hM hS fun H1 locs1 hP1 hM1 hS1 => ?_
  exact hk _ _ _ _ _ h H1 locs1 (cells + mc) (slots + ms) lsA hP1 hM1 hS1 hL (by show cells + mc + (b.1 - mc) ≤ R.cells; omega) (by show slots + ms + (b.2 - ms) ≤ R.slots; omega)
theorem ok_caVI {y n mc ms index mL : Nat} {yn : MethodName} {cb : ByteArray} {rt : Option FieldType} (hmi : mi y = (yn, cb, mL, rt, mc, ms)) (hy : zYok yn n) (hmL : mL ≤ 20) (hw1 : Cond.methodLink own index yn ∈ lw_tbl) (hw2 : Cond.instanceMethod yn ∈ lw_tbl) (hw6 : Cond.selects yn.cls yn yn ∈ lw_tbl) {ci : Nat} {r : vw_C} (hci : vwCl[ci]? = some r) (hrc : r.1 = yn.cls) (hc10 : ci < 10) (hw3 : Cond.initialized yn.cls ∈ lw_tbl) (hw4 : Cond.code yn cb mL rt ∈ lw_tbl)
    (hd : decode cc pc = .ok (.invokevirtual index, 3)) : zOk mi own cc nL ret ini pc (oRcv ci n (oCaI y (n + 1) (mc, ms) (pc + 3))) := by
  refine ⟨lin_rcv lin_caI, fun D cy d p l e R s m args below meth c σ0 out Q E hE hC k b ls st σ h hk H locs cells slots lsA hP hM hS hL hc hs => ?_⟩
  unfold oRcv at h
  split at h
  case h_2 => cases h
  next o ho =>
  obtain ⟨x, rfl, h⟩ := onR_some h
  obtain ⟨hkx, h⟩ := chk_some h
  obtain ⟨hg, h⟩ := zgd_some h
  rw [Bool.and_eq_true] at hg
  obtain ⟨hg1, hg2⟩ := hg
  have hf := zfit_of hg1
  dsimp only at hf
  unfold zroom at hg2
  rw [Bool.and_eq_true] at hg2
  obtain ⟨hg3, hg2⟩ := hg2
  obtain ⟨r, σ1, hEy, h⟩ := bnI_some h
  have hMet := hE y _ σ _ hEy
  rw [hmi] at hMet
  dsimp only at hMet
  have hT := hC.2.2.2.2.1
  have hR := hC.2.2.2.2.2.2.2.2.1
  have hcb : ∀ w ∈ [Cond.code yn cb mL rt], ∀ (a' : Array Value) (U : State), s.WarmedH U.vm → w.before a' U = true := fun w hw a' U hW => by
    rw [List.mem_singleton] at hw
    subst hw
    exact hT.moved hW _ hw4 rfl _
  obtain ⟨es, em⟩ := zst_rcv ho
  rw [es] at hMet
  obtain ⟨q0, hq⟩ := hP.get (a := x) (by rw [hkx]; omega)
  rw [zent_o hkx hc10] at hq
  have hrv := va_recv hC.2.2.2.2.2.1 hP.2.1 hci hq
  rw [hrc] at hrv
  have hlen : ((st.take n).reverse.map zTo).length = n := by
    rw [List.length_map, List.length_reverse, List.length_take]
    exact Nat.min_eq_left (Nat.le_of_lt (List.getElem?_eq_some_iff.mp ho).1)
  refine x_after (va_runV (C := yn.cls) (b := x) (As := ((st.take n).reverse.map zTo)) (rest := (st.drop (n + 1)).map zTo) (g := F0 m pc lsA (st.map zTo)) (cells := cells) (slots := slots) (locs := locs) ⟨hC.1, hC.2.1, hC.2.2.1, hC.2.2.2.1, fun w hw => absurd hw List.not_mem_nil⟩ hMet ⟨⟨rfl, rfl, hR.1, (by show 8 + (mL + 11) + 40 * d ≤ R.locals; omega), hcb, List.mem_singleton.mpr rfl, hT _ hw4 rfl _, hT _ hw3 rfl _, hy.1, hy.sig, hT _ hw1 rfl _⟩, hT _ hw2 rfl _, hT _ hw6 rfl _⟩ ⟨zPc_blind, hrv, zPc_here (as := .inr (.inl (some x)) :: (st.take n).reverse) hT hC.2.2.2.2.2.1 hC.2.2.2.2.2.2.1 hP hM hS⟩ rfl hlen hL.1 em (lv_room (zcats (Nat.le_of_ble_eq_true hg2))) hd ⟨by omega, by omega⟩) hM hS fun H1 locs1 hP1 hM1 hS1 => ?_
  exact hk _ _ _ _ _ h H1 locs1 (cells + mc) (slots + ms) lsA hP1 hM1 hS1 hL (by show cells + mc + (b.1 - mc) ≤ R.cells; omega) (by show slots + ms + (b.2 - ms) ≤ R.slots; omega)
theorem ok_caVR {y n mc ms index mL : Nat} {yn : MethodName} {cb : ByteArray} {rt : Option FieldType} (hmi : mi y = (yn, cb, mL, rt, mc, ms)) (hy : zYok yn n) (hmL : mL ≤ 20) (hw1 : Cond.methodLink own index yn ∈ lw_tbl) (hw2 : Cond.instanceMethod yn ∈ lw_tbl) (hw6 : Cond.selects yn.cls yn yn ∈ lw_tbl) {ci : Nat} {r : vw_C} (hci : vwCl[ci]? = some r) (hrc : r.1 = yn.cls) (hc10 : ci < 10) (hw3 : Cond.initialized yn.cls ∈ lw_tbl) (hw4 : Cond.code yn cb mL rt ∈ lw_tbl)
    (hd : decode cc pc = .ok (.invokevirtual index, 3)) : zOk mi own cc nL ret ini pc (oRcv ci n (oCaR y (n + 1) (mc, ms) (pc + 3))) := by
  refine ⟨lin_rcv lin_caR, fun D cy d p l e R s m args below meth c σ0 out Q E hE hC k b ls st σ h hk H locs cells slots lsA hP hM hS hL hc hs => ?_⟩
  unfold oRcv at h
  split at h
  case h_2 => cases h
  next o ho =>
  obtain ⟨x, rfl, h⟩ := onR_some h
  obtain ⟨hkx, h⟩ := chk_some h
  obtain ⟨hg, h⟩ := zgd_some h
  rw [Bool.and_eq_true] at hg
  obtain ⟨hg1, hg2⟩ := hg
  have hf := zfit_of hg1
  dsimp only at hf
  unfold zroom at hg2
  rw [Bool.and_eq_true] at hg2
  obtain ⟨hg3, hg2⟩ := hg2
  obtain ⟨r, σ1, hEy, h⟩ := bnR_some h
  have hMet := hE y _ σ _ hEy
  rw [hmi] at hMet
  dsimp only at hMet
  have hT := hC.2.2.2.2.1
  have hR := hC.2.2.2.2.2.2.2.2.1
  have hcb : ∀ w ∈ [Cond.code yn cb mL rt], ∀ (a' : Array Value) (U : State), s.WarmedH U.vm → w.before a' U = true := fun w hw a' U hW => by
    rw [List.mem_singleton] at hw
    subst hw
    exact hT.moved hW _ hw4 rfl _
  obtain ⟨es, em⟩ := zst_rcv ho
  rw [es] at hMet
  obtain ⟨q0, hq⟩ := hP.get (a := x) (by rw [hkx]; omega)
  rw [zent_o hkx hc10] at hq
  have hrv := va_recv hC.2.2.2.2.2.1 hP.2.1 hci hq
  rw [hrc] at hrv
  have hlen : ((st.take n).reverse.map zTo).length = n := by
    rw [List.length_map, List.length_reverse, List.length_take]
    exact Nat.min_eq_left (Nat.le_of_lt (List.getElem?_eq_some_iff.mp ho).1)
  refine x_after (va_runV (C := yn.cls) (b := x) (As := ((st.take n).reverse.map zTo)) (rest := (st.drop (n + 1)).map zTo) (g := F0 m pc lsA (st.map zTo)) (cells := cells) (slots := slots) (locs := locs) ⟨hC.1, hC.2.1, hC.2.2.1, hC.2.2.2.1, fun w hw => absurd hw List.not_mem_nil⟩ hMet ⟨⟨rfl, rfl, hR.1, (by show 8 + (mL + 11) + 40 * d ≤ R.locals; omega), hcb, List.mem_singleton.mpr rfl, hT _ hw4 rfl _, hT _ hw3 rfl _, hy.1, hy.sig, hT _ hw1 rfl _⟩, hT _ hw2 rfl _, hT _ hw6 rfl _⟩ ⟨zPc_blind, hrv, zPc_here (as := .inr (.inl (some x)) :: (st.take n).reverse) hT hC.2.2.2.2.2.1 hC.2.2.2.2.2.2.1 hP hM hS⟩ rfl hlen hL.1 em (lv_room (zcats (Nat.le_of_ble_eq_true hg2))) hd ⟨by omega, by omega⟩) hM hS fun H1 locs1 hP1 hM1 hS1 => ?_
  exact hk _ _ _ _ _ h H1 locs1 (cells + mc) (slots + ms) lsA hP1 hM1 hS1 hL (by show cells + mc + (b.1 - mc) ≤ R.cells; omega) (by show slots + ms + (b.2 - ms) ≤ R.slots; omega)
theorem ok_caVV {y n mc ms index mL : Nat} {yn : MethodName} {cb : ByteArray} {rt : Option FieldType} (hmi : mi y = (yn, cb, mL, rt, mc, ms)) (hy : zYok yn n) (hmL : mL ≤ 20) (hw1 : Cond.methodLink own index yn ∈ lw_tbl) (hw2 : Cond.instanceMethod yn ∈ lw_tbl) (hw6 : Cond.selects yn.cls yn yn ∈ lw_tbl) {ci : Nat} {r : vw_C} (hci : vwCl[ci]? = some r) (hrc : r.1 = yn.cls) (hc10 : ci < 10) (hw3 : Cond.initialized yn.cls ∈ lw_tbl) (hw4 : Cond.code yn cb mL rt ∈ lw_tbl)
    (hd : decode cc pc = .ok (.invokevirtual index, 3)) : zOk mi own cc nL ret ini pc (oRcv ci n (oCaV y (n + 1) (mc, ms) (pc + 3))) := by
  refine ⟨lin_rcv lin_caV, fun D cy d p l e R s m args below meth c σ0 out Q E hE hC k b ls st σ h hk H locs cells slots lsA hP hM hS hL hc hs => ?_⟩
  unfold oRcv at h
  split at h
  case h_2 => cases h
  next o ho =>
  obtain ⟨x, rfl, h⟩ := onR_some h
  obtain ⟨hkx, h⟩ := chk_some h
  obtain ⟨hg, h⟩ := zgd_some h
  rw [Bool.and_eq_true] at hg
  obtain ⟨hg1, hg2⟩ := hg
  have hf := zfit_of hg1
  dsimp only at hf
  unfold zroom at hg2
  rw [Bool.and_eq_true] at hg2
  obtain ⟨hg3, hg2⟩ := hg2
  obtain ⟨σ1, hEy, h⟩ := bnV_some h
  have hMet := hE y _ σ _ hEy
  rw [hmi] at hMet
  dsimp only at hMet
  have hT := hC.2.2.2.2.1
  have hR := hC.2.2.2.2.2.2.2.2.1
  have hcb : ∀ w ∈ [Cond.code yn cb mL rt], ∀ (a' : Array Value) (U : State), s.WarmedH U.vm → w.before a' U = true := fun w hw a' U hW => by
    rw [List.mem_singleton] at hw
    subst hw
    exact hT.moved hW _ hw4 rfl _
  obtain ⟨es, em⟩ := zst_rcv ho
  rw [es] at hMet
  obtain ⟨q0, hq⟩ := hP.get (a := x) (by rw [hkx]; omega)
  rw [zent_o hkx hc10] at hq
  have hrv := va_recv hC.2.2.2.2.2.1 hP.2.1 hci hq
  rw [hrc] at hrv
  have hlen : ((st.take n).reverse.map zTo).length = n := by
    rw [List.length_map, List.length_reverse, List.length_take]
    exact Nat.min_eq_left (Nat.le_of_lt (List.getElem?_eq_some_iff.mp ho).1)
  refine x_after (va_runV (C := yn.cls) (b := x) (As := ((st.take n).reverse.map zTo)) (rest := (st.drop (n + 1)).map zTo) (g := F0 m pc lsA (st.map zTo)) (cells := cells) (slots := slots) (locs := locs) ⟨hC.1, hC.2.1, hC.2.2.1, hC.2.2.2.1, fun w hw => absurd hw List.not_mem_nil⟩ hMet ⟨⟨rfl, rfl, hR.1, (by show 8 + (mL + 11) + 40 * d ≤ R.locals; omega), hcb, List.mem_singleton.mpr rfl, hT _ hw4 rfl _, hT _ hw3 rfl _, hy.1, hy.sig, hT _ hw1 rfl _⟩, hT _ hw2 rfl _, hT _ hw6 rfl _⟩ ⟨zPc_blind, hrv, zPc_here (as := .inr (.inl (some x)) :: (st.take n).reverse) hT hC.2.2.2.2.2.1 hC.2.2.2.2.2.2.1 hP hM hS⟩ rfl hlen hL.1 em (lv_room (zcats (Nat.le_of_ble_eq_true hg2))) hd ⟨by omega, by omega⟩) hM hS fun H1 locs1 hP1 hM1 hS1 => ?_
  exact hk _ _ _ _ _ h H1 locs1 (cells + mc) (slots + ms) lsA hP1 hM1 hS1 hL (by show cells + mc + (b.1 - mc) ≤ R.cells; omega) (by show slots + ms + (b.2 - ms) ≤ R.slots; omega)
theorem ok_caVNI {y n mc ms index mL : Nat} {yn : MethodName} {cb : ByteArray} {rt : Option FieldType} {host : String} (hmi : mi y = (yn, cb, mL, rt, mc, ms)) (hy : zYok yn n) (hmL : mL ≤ 20) (hw1 : Cond.methodLinkNest own index yn host ∈ lw_tbl) (hw2 : Cond.instanceMethod yn ∈ lw_tbl) (hw6 : Cond.selects yn.cls yn yn ∈ lw_tbl) {ci : Nat} {r : vw_C} (hci : vwCl[ci]? = some r) (hrc : r.1 = yn.cls) (hc10 : ci < 10) (hw3 : Cond.initialized yn.cls ∈ lw_tbl) (hw4 : Cond.code yn cb mL rt ∈ lw_tbl)
    (hd : decode cc pc = .ok (.invokevirtual index, 3)) : zOk mi own cc nL ret ini pc (oRcv ci n (oCaI y (n + 1) (mc, ms) (pc + 3))) := by
  refine ⟨lin_rcv lin_caI, fun D cy d p l e R s m args below meth c σ0 out Q E hE hC k b ls st σ h hk H locs cells slots lsA hP hM hS hL hc hs => ?_⟩
  unfold oRcv at h
  split at h
  case h_2 => cases h
  next o ho =>
  obtain ⟨x, rfl, h⟩ := onR_some h
  obtain ⟨hkx, h⟩ := chk_some h
  obtain ⟨hg, h⟩ := zgd_some h
  rw [Bool.and_eq_true] at hg
  obtain ⟨hg1, hg2⟩ := hg
  have hf := zfit_of hg1
  dsimp only at hf
  unfold zroom at hg2
  rw [Bool.and_eq_true] at hg2
  obtain ⟨hg3, hg2⟩ := hg2
  obtain ⟨r, σ1, hEy, h⟩ := bnI_some h
  have hMet := hE y _ σ _ hEy
  rw [hmi] at hMet
  dsimp only at hMet
  have hT := hC.2.2.2.2.1
  have hR := hC.2.2.2.2.2.2.2.2.1
  have hcb : ∀ w ∈ [Cond.code yn cb mL rt], ∀ (a' : Array Value) (U : State), s.WarmedH U.vm → w.before a' U = true := fun w hw a' U hW => by
    rw [List.mem_singleton] at hw
    subst hw
    exact hT.moved hW _ hw4 rfl _
  obtain ⟨es, em⟩ := zst_rcv ho
  rw [es] at hMet
  obtain ⟨q0, hq⟩ := hP.get (a := x) (by rw [hkx]; omega)
  rw [zent_o hkx hc10] at hq
  have hrv := va_recv hC.2.2.2.2.2.1 hP.2.1 hci hq
  rw [hrc] at hrv
  have hlen : ((st.take n).reverse.map zTo).length = n := by
    rw [List.length_map, List.length_reverse, List.length_take]
    exact Nat.min_eq_left (Nat.le_of_lt (List.getElem?_eq_some_iff.mp ho).1)
  refine x_after (va_runVN (C := yn.cls) (b := x) (As := ((st.take n).reverse.map zTo)) (rest := (st.drop (n + 1)).map zTo) (g := F0 m pc lsA (st.map zTo)) (cells := cells) (slots := slots) (locs := locs) ⟨hC.1, hC.2.1, hC.2.2.1, hC.2.2.2.1, fun w hw => absurd hw List.not_mem_nil⟩ hMet ⟨⟨⟨rfl, rfl, hR.1, (by show 8 + (mL + 11) + 40 * d ≤ R.locals; omega), hcb, List.mem_singleton.mpr rfl⟩, hT _ hw4 rfl _, hT _ hw3 rfl _, hy.1, hy.sig, hT _ hw1 rfl _⟩, hT _ hw2 rfl _, hT _ hw6 rfl _⟩ ⟨zPc_blind, hrv, zPc_here (as := .inr (.inl (some x)) :: (st.take n).reverse) hT hC.2.2.2.2.2.1 hC.2.2.2.2.2.2.1 hP hM hS⟩ rfl hlen hL.1 em (lv_room (zcats (Nat.le_of_ble_eq_true hg2))) hd ⟨by omega, by omega⟩) hM hS fun H1 locs1 hP1 hM1 hS1 => ?_
  exact hk _ _ _ _ _ h H1 locs1 (cells + mc) (slots + ms) lsA hP1 hM1 hS1 hL (by show cells + mc + (b.1 - mc) ≤ R.cells; omega) (by show slots + ms + (b.2 - ms) ≤ R.slots; omega)
theorem ok_caVNR {y n mc ms index mL : Nat} {yn : MethodName} {cb : ByteArray} {rt : Option FieldType} {host : String} (hmi : mi y = (yn, cb, mL, rt, mc, ms)) (hy : zYok yn n) (hmL : mL ≤ 20) (hw1 : Cond.methodLinkNest own index yn host ∈ lw_tbl) (hw2 : Cond.instanceMethod yn ∈ lw_tbl) (hw6 : Cond.selects yn.cls yn yn ∈ lw_tbl) {ci : Nat} {r : vw_C} (hci : vwCl[ci]? = some r) (hrc : r.1 = yn.cls) (hc10 : ci < 10) (hw3 : Cond.initialized yn.cls ∈ lw_tbl) (hw4 : Cond.code yn cb mL rt ∈ lw_tbl)
    (hd : decode cc pc = .ok (.invokevirtual index, 3)) : zOk mi own cc nL ret ini pc (oRcv ci n (oCaR y (n + 1) (mc, ms) (pc + 3))) := by
  refine ⟨lin_rcv lin_caR, fun D cy d p l e R s m args below meth c σ0 out Q E hE hC k b ls st σ h hk H locs cells slots lsA hP hM hS hL hc hs => ?_⟩
  unfold oRcv at h
  split at h
  case h_2 => cases h
  next o ho =>
  obtain ⟨x, rfl, h⟩ := onR_some h
  obtain ⟨hkx, h⟩ := chk_some h
  obtain ⟨hg, h⟩ := zgd_some h
  rw [Bool.and_eq_true] at hg
  obtain ⟨hg1, hg2⟩ := hg
  have hf := zfit_of hg1
  dsimp only at hf
  unfold zroom at hg2
  rw [Bool.and_eq_true] at hg2
  obtain ⟨hg3, hg2⟩ := hg2
  obtain ⟨r, σ1, hEy, h⟩ := bnR_some h
  have hMet := hE y _ σ _ hEy
  rw [hmi] at hMet
  dsimp only at hMet
  have hT := hC.2.2.2.2.1
  have hR := hC.2.2.2.2.2.2.2.2.1
  have hcb : ∀ w ∈ [Cond.code yn cb mL rt], ∀ (a' : Array Value) (U : State), s.WarmedH U.vm → w.before a' U = true := fun w hw a' U hW => by
    rw [List.mem_singleton] at hw
    subst hw
    exact hT.moved hW _ hw4 rfl _
  obtain ⟨es, em⟩ := zst_rcv ho
  rw [es] at hMet
  obtain ⟨q0, hq⟩ := hP.get (a := x) (by rw [hkx]; omega)
  rw [zent_o hkx hc10] at hq
  have hrv := va_recv hC.2.2.2.2.2.1 hP.2.1 hci hq
  rw [hrc] at hrv
  have hlen : ((st.take n).reverse.map zTo).length = n := by
    rw [List.length_map, List.length_reverse, List.length_take]
    exact Nat.min_eq_left (Nat.le_of_lt (List.getElem?_eq_some_iff.mp ho).1)
  refine x_after (va_runVN (C := yn.cls) (b := x) (As := ((st.take n).reverse.map zTo)) (rest := (st.drop (n + 1)).map zTo) (g := F0 m pc lsA (st.map zTo)) (cells := cells) (slots := slots) (locs := locs) ⟨hC.1, hC.2.1, hC.2.2.1, hC.2.2.2.1, fun w hw => absurd hw List.not_mem_nil⟩ hMet ⟨⟨⟨rfl, rfl, hR.1, (by show 8 + (mL + 11) + 40 * d ≤ R.locals; omega), hcb, List.mem_singleton.mpr rfl⟩, hT _ hw4 rfl _, hT _ hw3 rfl _, hy.1, hy.sig, hT _ hw1 rfl _⟩, hT _ hw2 rfl _, hT _ hw6 rfl _⟩ ⟨zPc_blind, hrv, zPc_here (as := .inr (.inl (some x)) :: (st.take n).reverse) hT hC.2.2.2.2.2.1 hC.2.2.2.2.2.2.1 hP hM hS⟩ rfl hlen hL.1 em (lv_room (zcats (Nat.le_of_ble_eq_true hg2))) hd ⟨by omega, by omega⟩) hM hS fun H1 locs1 hP1 hM1 hS1 => ?_
  exact hk _ _ _ _ _ h H1 locs1 (cells + mc) (slots + ms) lsA hP1 hM1 hS1 hL (by show cells + mc + (b.1 - mc) ≤ R.cells; omega) (by show slots + ms + (b.2 - ms) ≤ R.slots; omega)
theorem ok_caVNV {y n mc ms index mL : Nat} {yn : MethodName} {cb : ByteArray} {rt : Option FieldType} {host : String} (hmi : mi y = (yn, cb, mL, rt, mc, ms)) (hy : zYok yn n) (hmL : mL ≤ 20) (hw1 : Cond.methodLinkNest own index yn host ∈ lw_tbl) (hw2 : Cond.instanceMethod yn ∈ lw_tbl) (hw6 : Cond.selects yn.cls yn yn ∈ lw_tbl) {ci : Nat} {r : vw_C} (hci : vwCl[ci]? = some r) (hrc : r.1 = yn.cls) (hc10 : ci < 10) (hw3 : Cond.initialized yn.cls ∈ lw_tbl) (hw4 : Cond.code yn cb mL rt ∈ lw_tbl)
    (hd : decode cc pc = .ok (.invokevirtual index, 3)) : zOk mi own cc nL ret ini pc (oRcv ci n (oCaV y (n + 1) (mc, ms) (pc + 3))) := by
  refine ⟨lin_rcv lin_caV, fun D cy d p l e R s m args below meth c σ0 out Q E hE hC k b ls st σ h hk H locs cells slots lsA hP hM hS hL hc hs => ?_⟩
  unfold oRcv at h
  split at h
  case h_2 => cases h
  next o ho =>
  obtain ⟨x, rfl, h⟩ := onR_some h
  obtain ⟨hkx, h⟩ := chk_some h
  obtain ⟨hg, h⟩ := zgd_some h
  rw [Bool.and_eq_true] at hg
  obtain ⟨hg1, hg2⟩ := hg
  have hf := zfit_of hg1
  dsimp only at hf
  unfold zroom at hg2
  rw [Bool.and_eq_true] at hg2
  obtain ⟨hg3, hg2⟩ := hg2
  obtain ⟨σ1, hEy, h⟩ := bnV_some h
  have hMet := hE y _ σ _ hEy
  rw [hmi] at hMet
  dsimp only at hMet
  have hT := hC.2.2.2.2.1
  have hR := hC.2.2.2.2.2.2.2.2.1
  have hcb : ∀ w ∈ [Cond.code yn cb mL rt], ∀ (a' : Array Value) (U : State), s.WarmedH U.vm → w.before a' U = true := fun w hw a' U hW => by
    rw [List.mem_singleton] at hw
    subst hw
    exact hT.moved hW _ hw4 rfl _
  obtain ⟨es, em⟩ := zst_rcv ho
  rw [es] at hMet
  obtain ⟨q0, hq⟩ := hP.get (a := x) (by rw [hkx]; omega)
  rw [zent_o hkx hc10] at hq
  have hrv := va_recv hC.2.2.2.2.2.1 hP.2.1 hci hq
  rw [hrc] at hrv
  have hlen : ((st.take n).reverse.map zTo).length = n := by
    rw [List.length_map, List.length_reverse, List.length_take]
    exact Nat.min_eq_left (Nat.le_of_lt (List.getElem?_eq_some_iff.mp ho).1)
  refine x_after (va_runVN (C := yn.cls) (b := x) (As := ((st.take n).reverse.map zTo)) (rest := (st.drop (n + 1)).map zTo) (g := F0 m pc lsA (st.map zTo)) (cells := cells) (slots := slots) (locs := locs) ⟨hC.1, hC.2.1, hC.2.2.1, hC.2.2.2.1, fun w hw => absurd hw List.not_mem_nil⟩ hMet ⟨⟨⟨rfl, rfl, hR.1, (by show 8 + (mL + 11) + 40 * d ≤ R.locals; omega), hcb, List.mem_singleton.mpr rfl⟩, hT _ hw4 rfl _, hT _ hw3 rfl _, hy.1, hy.sig, hT _ hw1 rfl _⟩, hT _ hw2 rfl _, hT _ hw6 rfl _⟩ ⟨zPc_blind, hrv, zPc_here (as := .inr (.inl (some x)) :: (st.take n).reverse) hT hC.2.2.2.2.2.1 hC.2.2.2.2.2.2.1 hP hM hS⟩ rfl hlen hL.1 em (lv_room (zcats (Nat.le_of_ble_eq_true hg2))) hd ⟨by omega, by omega⟩) hM hS fun H1 locs1 hP1 hM1 hS1 => ?_
  exact hk _ _ _ _ _ h H1 locs1 (cells + mc) (slots + ms) lsA hP1 hM1 hS1 hL (by show cells + mc + (b.1 - mc) ≤ R.cells; omega) (by show slots + ms + (b.2 - ms) ≤ R.slots; omega)
theorem ok_caIV {y n mc ms index mL : Nat} {yn : MethodName} {cb : ByteArray} {rt : Option FieldType} (hmi : mi y = (yn, cb, mL, none, mc, ms)) (hy : zYok yn n) (hmL : mL ≤ 20) (hw1 : Cond.methodLink own index yn ∈ lw_tbl) (hw2 : Cond.instanceMethod yn ∈ lw_tbl) (hy1 : yn.name = "<init>") {ci : Nat} (hw3 : Cond.initialized yn.cls ∈ lw_tbl) (hw4 : Cond.code yn cb mL none ∈ lw_tbl)
    (hd : decode cc pc = .ok (.invokespecial index, 3)) : zOk mi own cc nL ret ini pc (oRcv ci n (oCaV y (n + 1) (mc, ms) (pc + 3))) := by
  refine ⟨lin_rcv lin_caV, fun D cy d p l e R s m args below meth c σ0 out Q E hE hC k b ls st σ h hk H locs cells slots lsA hP hM hS hL hc hs => ?_⟩
  unfold oRcv at h
  split at h
  case h_2 => cases h
  next o ho =>
  obtain ⟨x, rfl, h⟩ := onR_some h
  obtain ⟨hkx, h⟩ := chk_some h
  obtain ⟨hg, h⟩ := zgd_some h
  rw [Bool.and_eq_true] at hg
  obtain ⟨hg1, hg2⟩ := hg
  have hf := zfit_of hg1
  dsimp only at hf
  unfold zroom at hg2
  rw [Bool.and_eq_true] at hg2
  obtain ⟨hg3, hg2⟩ := hg2
  obtain ⟨σ1, hEy, h⟩ := bnV_some h
  have hMet := hE y _ σ _ hEy
  rw [hmi] at hMet
  dsimp only at hMet
  have hT := hC.2.2.2.2.1
  have hR := hC.2.2.2.2.2.2.2.2.1
  have hcb : ∀ w ∈ [Cond.code yn cb mL none], ∀ (a' : Array Value) (U : State), s.WarmedH U.vm → w.before a' U = true := fun w hw a' U hW => by
    rw [List.mem_singleton] at hw
    subst hw
    exact hT.moved hW _ hw4 rfl _
  obtain ⟨es, em⟩ := zst_rcv ho
  rw [es] at hMet
  have hlen : ((st.take n).reverse.map zTo).length = n := by
    rw [List.length_map, List.length_reverse, List.length_take]
    exact Nat.min_eq_left (Nat.le_of_lt (List.getElem?_eq_some_iff.mp ho).1)
  refine x_after (va_runI (b := x) (As := ((st.take n).reverse.map zTo)) (rest := (st.drop (n + 1)).map zTo) (g := F0 m pc lsA (st.map zTo)) (cells := cells) (slots := slots) (locs := locs) ⟨hC.1, hC.2.1, hC.2.2.1, hC.2.2.2.1, fun w hw => absurd hw List.not_mem_nil⟩ hMet ⟨⟨rfl, rfl, hR.1, (by show 8 + (mL + 11) + 40 * d ≤ R.locals; omega), hcb, List.mem_singleton.mpr rfl, hT _ hw4 rfl _, hT _ hw3 rfl _, hy.1, hy.sig, hT _ hw1 rfl _⟩, hy1, hT _ hw2 rfl _⟩ ⟨zPc_blind, zPc_here (as := .inr (.inl (some x)) :: (st.take n).reverse) hT hC.2.2.2.2.2.1 hC.2.2.2.2.2.2.1 hP hM hS⟩ rfl hlen hL.1 em (lv_room (zcats (Nat.le_of_ble_eq_true hg2))) hd ⟨by omega, by omega⟩) hM hS fun H1 locs1 hP1 hM1 hS1 => ?_
  exact hk _ _ _ _ _ h H1 locs1 (cells + mc) (slots + ms) lsA hP1 hM1 hS1 hL (by show cells + mc + (b.1 - mc) ≤ R.cells; omega) (by show slots + ms + (b.2 - ms) ≤ R.slots; omega)
theorem ok_caINV {y n mc ms index mL : Nat} {yn : MethodName} {cb : ByteArray} {rt : Option FieldType} {host : String} (hmi : mi y = (yn, cb, mL, none, mc, ms)) (hy : zYok yn n) (hmL : mL ≤ 20) (hw1 : Cond.methodLinkNest own index yn host ∈ lw_tbl) (hw2 : Cond.instanceMethod yn ∈ lw_tbl) (hy1 : yn.name = "<init>") {ci : Nat} (hw3 : Cond.initialized yn.cls ∈ lw_tbl) (hw4 : Cond.code yn cb mL none ∈ lw_tbl)
    (hd : decode cc pc = .ok (.invokespecial index, 3)) : zOk mi own cc nL ret ini pc (oRcv ci n (oCaV y (n + 1) (mc, ms) (pc + 3))) := by
  refine ⟨lin_rcv lin_caV, fun D cy d p l e R s m args below meth c σ0 out Q E hE hC k b ls st σ h hk H locs cells slots lsA hP hM hS hL hc hs => ?_⟩
  unfold oRcv at h
  split at h
  case h_2 => cases h
  next o ho =>
  obtain ⟨x, rfl, h⟩ := onR_some h
  obtain ⟨hkx, h⟩ := chk_some h
  obtain ⟨hg, h⟩ := zgd_some h
  rw [Bool.and_eq_true] at hg
  obtain ⟨hg1, hg2⟩ := hg
  have hf := zfit_of hg1
  dsimp only at hf
  unfold zroom at hg2
  rw [Bool.and_eq_true] at hg2
  obtain ⟨hg3, hg2⟩ := hg2
  obtain ⟨σ1, hEy, h⟩ := bnV_some h
  have hMet := hE y _ σ _ hEy
  rw [hmi] at hMet
  dsimp only at hMet
  have hT := hC.2.2.2.2.1
  have hR := hC.2.2.2.2.2.2.2.2.1
  have hcb : ∀ w ∈ [Cond.code yn cb mL none], ∀ (a' : Array Value) (U : State), s.WarmedH U.vm → w.before a' U = true := fun w hw a' U hW => by
    rw [List.mem_singleton] at hw
    subst hw
    exact hT.moved hW _ hw4 rfl _
  obtain ⟨es, em⟩ := zst_rcv ho
  rw [es] at hMet
  have hlen : ((st.take n).reverse.map zTo).length = n := by
    rw [List.length_map, List.length_reverse, List.length_take]
    exact Nat.min_eq_left (Nat.le_of_lt (List.getElem?_eq_some_iff.mp ho).1)
  refine x_after (va_runIN (b := x) (As := ((st.take n).reverse.map zTo)) (rest := (st.drop (n + 1)).map zTo) (g := F0 m pc lsA (st.map zTo)) (cells := cells) (slots := slots) (locs := locs) ⟨hC.1, hC.2.1, hC.2.2.1, hC.2.2.2.1, fun w hw => absurd hw List.not_mem_nil⟩ hMet ⟨⟨⟨rfl, rfl, hR.1, (by show 8 + (mL + 11) + 40 * d ≤ R.locals; omega), hcb, List.mem_singleton.mpr rfl⟩, hT _ hw4 rfl _, hT _ hw3 rfl _, hy.1, hy.sig, hT _ hw1 rfl _⟩, hy1, hT _ hw2 rfl _⟩ ⟨zPc_blind, zPc_here (as := .inr (.inl (some x)) :: (st.take n).reverse) hT hC.2.2.2.2.2.1 hC.2.2.2.2.2.2.1 hP hM hS⟩ rfl hlen hL.1 em (lv_room (zcats (Nat.le_of_ble_eq_true hg2))) hd ⟨by omega, by omega⟩) hM hS fun H1 locs1 hP1 hM1 hS1 => ?_
  exact hk _ _ _ _ _ h H1 locs1 (cells + mc) (slots + ms) lsA hP1 hM1 hS1 hL (by show cells + mc + (b.1 - mc) ≤ R.cells; omega) (by show slots + ms + (b.2 - ms) ≤ R.slots; omega)
end CALLS
end
section
/-! the ends; what nobody writes -/
section ENDS
variable {mi : Nat → MethodName × ByteArray × Nat × Option FieldType × Nat × Nat} {own : String} {cc : ByteArray} {nL : Nat} {ret : Option FieldType} {ini : Bool} {pc : Nat}
theorem ok_rtI (hr : ret = some .int) (hd : decode cc pc = .ok (.ireturn, 1)) : zOk mi own cc nL ret ini pc oRtI := by
  refine ⟨fun E b ls st σ => Or.inl ⟨_, fun _ => rfl⟩, fun D cy d p l e R s m args below meth c σ0 out Q E hE hC k b ls st σ h hk H locs cells slots lsA hP hM hS hL hc hs => ?_⟩
  unfold oRtI at h
  split at h
  · next x =>
    cases h
    exact ((hC.2.2.2.2.2.2.2.2.2.2 pc lsA H locs cells slots hP hM hS (by omega) (by omega)).1 hd x rfl ⟨_, hr, rfl⟩)
  · cases h
theorem ok_rtZ (hr : ret = some .boolean) (hd : decode cc pc = .ok (.ireturn, 1)) : zOk mi own cc nL ret ini pc oRtZ := by
  refine ⟨fun E b ls st σ => Or.inl ⟨_, fun _ => rfl⟩, fun D cy d p l e R s m args below meth c σ0 out Q E hE hC k b ls st σ h hk H locs cells slots lsA hP hM hS hL hc hs => ?_⟩
  unfold oRtZ at h
  split at h
  · next x =>
    obtain ⟨hx, h⟩ := chk_some h
    cases h
    exact ((hC.2.2.2.2.2.2.2.2.2.2 pc lsA H locs cells slots hP hM hS (by omega) (by omega)).1 hd x rfl ⟨_, hr, by rcases hx with rfl | rfl <;> decide⟩)
  · cases h
theorem ok_rtR {rt : FieldType} (hr : ret = some rt) (hrt : (∃ n, rt = .object n) ∨ ∃ t, rt = .array t) (hd : decode cc pc = .ok (.areturn, 1)) : zOk mi own cc nL ret ini pc oRtR := by
  refine ⟨fun E b ls st σ => Or.inl ⟨_, fun _ => rfl⟩, fun D cy d p l e R s m args below meth c σ0 out Q E hE hC k b ls st σ h hk H locs cells slots lsA hP hM hS hL hc hs => ?_⟩
  unfold oRtR at h
  split at h
  · next x =>
    cases h
    exact ((hC.2.2.2.2.2.2.2.2.2.2 pc lsA H locs cells slots hP hM hS (by omega) (by omega)).2.1 hd x rfl ⟨_, hr, hrt⟩)
  · cases h
theorem ok_rtV (hr : ret = none) (hd : decode cc pc = .ok (.return_, 1)) : zOk mi own cc nL ret ini pc oRtV := by
  refine ⟨fun E b ls st σ => Or.inl ⟨_, fun _ => rfl⟩, fun D cy d p l e R s m args below meth c σ0 out Q E hE hC k b ls st σ h hk H locs cells slots lsA hP hM hS hL hc hs => ?_⟩
  unfold oRtV at h
  split at h
  · cases h
    exact ((hC.2.2.2.2.2.2.2.2.2.2 pc lsA H locs cells slots hP hM hS (by omega) (by omega)).2.2.1 hd rfl hr)
  · cases h
theorem ok_rtL (hr : ret = some .long) (hd : decode cc pc = .ok (.lreturn, 1)) : zOk mi own cc nL ret ini pc oRtL := by
  refine ⟨fun E b ls st σ => Or.inl ⟨_, fun _ => rfl⟩, fun D cy d p l e R s m args below meth c σ0 out Q E hE hC k b ls st σ h hk H locs cells slots lsA hP hM hS hL hc hs => ?_⟩
  unfold oRtL at h
  split at h
  · next w =>
    cases h
    exact ((hC.2.2.2.2.2.2.2.2.2.2 pc lsA H locs cells slots hP hM hS (by omega) (by omega)).2.2.2 hd w rfl hr)
  · cases h
theorem ok_sta {j index : Nat} (hj : j < 5) (hw : Cond.fieldLink own index RX2 (zStN j) "[I" ∈ lw_tbl) (hd : decode cc pc = .ok (.getstatic index, 3)) : zOk mi own cc nL ret ini pc (oSta 640 j (pc + 3)) := by
  refine ⟨fun E b ls st σ => ?_, fun D cy d p l e R s m args below meth c σ0 out Q E hE hC k b ls st σ h hk H locs cells slots lsA hP hM hS hL hc hs => ?_⟩
  · unfold oSta
    exact lin_onR (fun _ => rfl) fun a => Or.inr ⟨_, _, _, _, _, fun _ => rfl⟩
  · unfold oSta at h
    obtain ⟨t, ht, h⟩ := onR_some h
    have ht0 : zr σ0 640 j = some t := (hM.2.2.1 640 (Nat.le_refl _) j).symm.trans ht
    exact va_gets hC.1 hC.2.1 (hC.2.2.2.2.2.2.1.1 j t hj ht0) hS hC.2.2.2.1 (hC.2.2.2.2.1 _ hw rfl _) (fun _ h => h) hd (hk _ _ _ _ _ h H locs cells slots lsA hP hM hS hL hc hs)
theorem ok_ald16 (hd : decode cc pc = .ok (.iaload, 1)) : zOk mi own cc nL ret ini pc (oAld 16 (pc + 1)) := by
  refine ⟨fun E b ls st σ => ?_, fun D cy d p l e R s m args below meth c σ0 out Q E hE hC k b ls st σ h hk H locs cells slots lsA hP hM hS hL hc hs => ?_⟩
  · unfold oAld
    split
    · exact lin_onR (fun _ => rfl) fun a => lin_chk fun _ => rfl
    · exact Or.inl ⟨_, fun _ => rfl⟩
  · unfold oAld at h
    split at h
    · obtain ⟨a, rfl, h⟩ := onR_some h
      obtain ⟨⟨hka, hi⟩, h⟩ := chk_some h
      obtain ⟨b1, b2, b3⟩ := hM.2.2.2 a (by rw [hka]; decide)
      rw [b2] at hi
      exact va_ti hC.1 hC.2.1 (hC.2.2.2.2.2.2.1.2 a (b1.trans hka)) hS (zin_vp hi) (congrArg Value.int (b3 _).symm) hd (hk _ _ _ _ _ h H locs cells slots lsA hP hM hS hL hc hs)
    · cases h
theorem ok_len16 (hd : decode cc pc = .ok (.arraylength, 1)) : zOk mi own cc nL ret ini pc (oLen 16 (pc + 1)) := by
  refine ⟨fun E b ls st σ => ?_, fun D cy d p l e R s m args below meth c σ0 out Q E hE hC k b ls st σ h hk H locs cells slots lsA hP hM hS hL hc hs => ?_⟩
  · unfold oLen
    split
    · exact lin_onR (fun _ => rfl) fun a => lin_chk fun _ => rfl
    · exact Or.inl ⟨_, fun _ => rfl⟩
  · unfold oLen at h
    split at h
    · obtain ⟨a, rfl, h⟩ := onR_some h
      obtain ⟨hka, h⟩ := chk_some h
      obtain ⟨b1, b2, b3⟩ := hM.2.2.2 a (by rw [hka]; decide)
      exact va_tlen hC.1 hC.2.1 (hC.2.2.2.2.2.2.1.2 a (b1.trans hka)) hS (by rw [b2]) hd (hk _ _ _ _ _ h H locs cells slots lsA hP hM hS hL hc hs)
    · cases h
end ENDS
end
section
/-! A RUN IS THE MACHINE'S; the limit of runs; unrolling. -/
def zls0 (as : List zV) (nL : Nat) : List zV := as ++ List.replicate (nL - as.length) (.inr (.inr none))
def zargs (as : List zV) (nL : Nat) : Bool := as.all (fun v => Nat.beq (zcat v) 1) && Nat.ble as.length nL
theorem zcat_val {as : List zV} {nL : Nat} (h : zargs as nL = true) : (∀ v ∈ as, zcat v = 1) ∧ as.length ≤ nL := by
  unfold zargs at h
  rw [Bool.and_eq_true] at h
  refine ⟨fun v hv => Nat.eq_of_beq_eq_true (List.all_eq_true.mp h.1 v hv), Nat.le_of_ble_eq_true h.2⟩
theorem zlg_sl : ∀ (as : List zV), (∀ v ∈ as, zcat v = 1) → lg_sl (as.map zTo) = (as.map zTo).map Slot.val := by
  intro as
  induction as with
  | nil => intro _; rfl
  | cons v as ih =>
    intro h
    have h1 := zcat_1 (h v List.mem_cons_self)
    have h2 := ih (fun w hw => h w (List.mem_cons_of_mem _ hw))
    unfold lg_sl at h2 ⊢
    simp only [List.map_cons, List.flatMap_cons]
    rw [h2]
    simp [h1]
theorem zls_entry {as : List zV} {nL : Nat} (h : zargs as nL = true) : zLs ((lg_sl (as.map zTo) ++ List.replicate (nL - (lg_sl (as.map zTo)).length) Slot.unset).toArray) nL (zls0 as nL) := by
  obtain ⟨h1, h2⟩ := zcat_val h
  have e := zlg_sl as h1
  have hl : (lg_sl (as.map zTo)).length = as.length := by rw [e]; simp
  have he := lv_entry (as.map zTo) (n := nL) (by rw [hl]; exact h2)
  have key : ∀ (i : Nat) (v : zV), (zls0 as nL)[i]? = some v → (i < as.length ∧ as[i]? = some v) ∨ v = .inr (.inr none) := by
    intro i v hi
    unfold zls0 at hi
    by_cases hil : i < as.length
    · rw [List.getElem?_append_left hil] at hi
      exact Or.inl ⟨hil, hi⟩
    · rw [List.getElem?_append_right (by omega)] at hi
      have := List.mem_of_getElem? hi
      rw [List.mem_replicate] at this
      exact Or.inr this.2
  refine ⟨he.1, he.2.1, by unfold zls0; simp; omega, fun i v hi hc => ?_, fun i w hi hn => ?_⟩
  · rcases key i v hi with ⟨hil, hi⟩ | rfl
    · rw [e]
      simp only [List.getElem?_toArray]
      rw [List.getElem?_append_left (by simp; exact hil)]
      simp [hi]
    · cases hc
  · rcases key i _ hi with ⟨hil, hi⟩ | h0
    · have := h1 _ (List.mem_of_getElem? hi)
      cases this
    · cases h0
/-- a contract out of a walk of the body, the method (not its class) plainly named -/
theorem zMet_ofW {l : Launch} {y : MethodName} {ws ws' : List Cond} {rm : Room} {Pc : Array Value → State → Prop} {Qc : Array Value → State → Outcome → State → Prop} {mc ms : Nat} {free : Addr → Prop} {cc : ByteArray} {maxL : Nat} {ret : Option FieldType}
    (hy : plainFor y = true) (hw : ws = Cond.code y cc maxL ret :: ws')
    (body : ∀ p e s m args below meth c s₁, BodyLoose p l y (headSpec ws rm) cc maxL ret e s m args below meth c s₁ → c.maxLocals = maxL → Pc args s →
      W p l e (headSpec ws rm).room s m args below meth c s.heap [] 0 0 (MQ below Qc args s mc ms free) (entryFrame m args maxL)) : Met l y ws rm Pc Qc mc ms free := by
  refine MetFree.of_bodySF (code := cc) (maxLocals := maxL) (ret := ret) hy (fun args s m h hn => ?_) (fun p e s m args below meth c s₁ B hml hP _ => ?_)
  · obtain ⟨meth, c, h1, h2, h3, h4, h5, h6, -, -⟩ := Cond.code_spec hn (atoms_spec (ws := ws) h _ (by rw [hw]; exact List.mem_cons_self))
    exact ⟨meth, c, h1, h2, h3, h4, h5, h6⟩
  · obtain ⟨t, a1, o, b1, b2, b3⟩ := body p e s m args below meth c s₁ B hml hP s₁ (by rw [B.state]; rfl) (Stand.of_body B)
    exact ⟨t, o, a1, b1, b2, ⟨b3.1, b3.2⟩⟩
section RUN
variable {mi : Nat → MethodName × ByteArray × Nat × Option FieldType × Nat × Nat} {own : String} {cc : ByteArray} {nL : Nat} {ret : Option FieldType} {ini : Bool}
theorem zrun_go {tab : Nat → zOp} (hok : ∀ pc, zOk mi own cc nL ret ini pc (tab pc)) {D : va_G} {cy : Nat → ClassId} {d : Nat} {p : Program} {l : Launch} {e : Env} {R : Room} {s : State} {m : MethodId} {args : Array Value} {below : List Frame} {meth : Method} {c : Code} {σ0 : zS} {out : Option zV × zS} {Q : State → Prop} {E : zE}
    (hE : zES mi D cy l d E) (hC : zCtx D cy d p l e R s m args below meth c own cc nL ret ini σ0 out Q) : ∀ (n pc : Nat) (b : Nat × Nat) (ls st : List zV) (σ : zS), zrun tab E n pc b ls st σ = some out → zGo D cy p l e R s m args below meth c nL σ0 Q pc b ls st σ := by
  intro n
  induction n with
  | zero => intro pc b ls st σ h; cases h
  | succ n ih =>
    intro pc b ls st σ h
    exact (hok pc).2 D cy d p l e R s m args below meth c σ0 out Q E hE hC (zrun tab E n) b ls st σ h ih
theorem zrun_met {yn : MethodName} {tab : Nat → zOp} (hok : ∀ pc, zOk mi own cc nL ret ini pc (tab pc)) (hown : own = yn.cls) (hpl : plainFor yn = true) (hini : ini = true → yn.name = "<init>") {D : va_G} {cy : Nat → ClassId} {l : Launch} {d : Nat} {E : zE} (hE : zES mi D cy l d E) {mc ms n : Nat} {as : List zV} {σ : zS} {out : Option zV × zS} (ha : zargs as nL = true) (h : zrun tab E n 0 (mc, ms) (zls0 as nL) [] σ = some out) :
    Met l yn [Cond.code yn cc nL ret] ({ frames := d + 1, cells := mc, slots := ms, locals := 40 * (d + 1) }) (zPc D cy as σ) (zQc D cy σ out) mc ms (zA σ) := by
  refine zMet_ofW (cc := cc) (maxL := nL) (ret := ret) hpl rfl ?_
  intro p e s m args below meth c s₁ B hml hv
  obtain ⟨rfl, hT, hK, hX, hP⟩ := hv
  have hl : zLs _ nL (zls0 as nL) := zls_entry ha
  rw [lg_entry_eq]
  have hC : zCtx D cy d p l e (headSpec [Cond.code yn cc nL ret] ({ frames := d + 1, cells := mc, slots := ms, locals := 40 * (d + 1) } : Room)).room s m (as.map zTo).toArray below meth c own cc nL ret ini σ out (MQ below (zQc D cy σ out) (as.map zTo).toArray s mc ms (zA σ)) := by
    refine ⟨B.exec, B.bytes, hml, by rw [hown]; exact findClass_of_methodNamed B.named, hT, hK, hX, hP.1, ⟨Nat.le_refl _, by show 40 * d + 40 ≤ 40 * (d + 1); omega⟩, fun hi => (name_of_methodNamed B.named B.method).1.trans (hini hi), ?_⟩
    intro pc lsA H locs cells slots hP2 hM2 hS2 hc hs
    have hr := B.returns
    have hx := B.exec
    have hb := B.bytes
    have hlk := B.notSynchronized
    have hq : ∀ (v : Option zV), out.1 = v → ∀ t : State, t.heap = H → s.WarmedH t.vm → zQc D cy σ out (as.map zTo).toArray s (.returned (v.map zTo)) t := fun v hv t ht _ => ⟨by rw [hv], by rw [ht]; exact hP2, hM2, hS2.F ht⟩
    refine ⟨fun hd x ho hty => ?_, fun hd o ho hty => ?_, fun hd ho hrn => ?_, fun hd w ho hrl => ?_⟩
    · obtain ⟨ty, hrt, hn⟩ := hty
      refine W.widen (k := mc) (n := ms) hc hs ?_
      exact W.zret hx hb (by rw [hr, hrt]) hn (fun t ht hw => hq _ ho t ht hw) hS2.2.2 hd hlk
    · obtain ⟨rt, hrt, hro⟩ := hty
      refine W.widen (k := mc) (n := ms) hc hs ?_
      exact W.aret hx hb (by rw [hr, hrt]) hro (va_rf_or o) (fun t ht hw => hq _ ho t ht hw) hS2.2.2 hd hlk
    · refine W.widen (k := mc) (n := ms) hc hs ?_
      exact W.vret hx hb (by rw [hr, hrn]) (fun t ht hw => hq _ ho t ht hw) hS2.2.2 hd hlk
    · refine W.widen (k := mc) (n := ms) hc hs ?_
      exact W.lret hx hb (by rw [hr, hrl]) (fun t ht hw => hq _ ho t ht hw) hS2.2.2 hd hlk
  exact zrun_go hok hE hC n 0 (mc, ms) (zls0 as nL) [] σ h s.heap [] 0 0 _ hP (zSm.rf σ) va_S.rf hl (by show 0 + mc ≤ mc; omega) (by show 0 + ms ≤ ms; omega)
end RUN
section TREE
variable {mi : Nat → MethodName × ByteArray × Nat × Option FieldType × Nat × Nat} {own : String} {cc : ByteArray} {nL : Nat} {ret : Option FieldType} {ini : Bool}
theorem ok_nd (n : Nat) {f g : Nat → zOp} (hf : ∀ pc, zOk mi own cc nL ret ini pc (f pc)) (hg : ∀ pc, zOk mi own cc nL ret ini pc (g pc)) : ∀ pc, zOk mi own cc nL ret ini pc (nd n f g pc) := by
  intro pc
  unfold nd
  cases Nat.blt pc n
  · exact hg pc
  · exact hf pc
theorem ok_lf (n : Nat) {op : zOp} (h : zOk mi own cc nL ret ini n op) : ∀ pc, zOk mi own cc nL ret ini pc (lf n op pc) := by
  intro pc
  unfold lf
  cases hb : Nat.beq pc n
  · exact ok_stk
  · have := Nat.eq_of_beq_eq_true hb
    subst this
    exact h
end TREE
noncomputable def zlim (f : Nat → zO) : zO := match Classical.propDecidable (∃ n, (f n).isSome = true) with
  | .isTrue h => f (Classical.choose h)
  | .isFalse _ => none
theorem zlim_some {f : Nat → zO} {o : Option zV × zS} (h : zlim f = some o) : ∃ n, f n = some o := by
  unfold zlim at h
  split at h
  · exact ⟨_, h⟩
  · cases h
theorem zlim_is {f : Nat → zO} {o : Option zV × zS} {n : Nat} (h : f n = some o) (hu : ∀ m o', f m = some o' → o' = o) : zlim f = some o := by
  unfold zlim
  split
  · next hx _ =>
    have h1 := Classical.choose_spec hx
    obtain ⟨o', ho'⟩ := Option.isSome_iff_exists.mp h1
    rw [ho', hu _ _ ho']
  · next hx _ => exact absurd ⟨n, by rw [h]; rfl⟩ hx
theorem zlim_none {f : Nat → zO} (h : ∀ n, f n = none) : zlim f = none := by
  unfold zlim
  split
  · exact h _
  · rfl
noncomputable def zF (tab : Nat → zOp) (E : zE) : zK := fun pc b ls st σ => zlim fun n => zrun tab E n pc b ls st σ
theorem zrun_mono {tab : Nat → zOp} (hl : ∀ pc, zLin (tab pc)) {E : zE} {o : Option zV × zS} : ∀ (n pc : Nat) (b : Nat × Nat) (ls st : List zV) (σ : zS), zrun tab E n pc b ls st σ = some o → zrun tab E (n + 1) pc b ls st σ = some o := by
  intro n
  induction n with
  | zero => intro pc b ls st σ h; cases h
  | succ n ih =>
    intro pc b ls st σ h
    rcases hl pc E b ls st σ with ⟨c, hc⟩ | ⟨pc', b', ls', st', σ', hc⟩
    · have h1 : tab pc E (zrun tab E n) b ls st σ = some o := h
      show tab pc E (zrun tab E (n + 1)) b ls st σ = some o
      rw [hc] at h1 ⊢
      exact h1
    · have h1 : tab pc E (zrun tab E n) b ls st σ = some o := h
      show tab pc E (zrun tab E (n + 1)) b ls st σ = some o
      rw [hc] at h1 ⊢
      exact ih _ _ _ _ _ h1
theorem zrun_le {tab : Nat → zOp} (hl : ∀ pc, zLin (tab pc)) {E : zE} {o : Option zV × zS} {n m pc : Nat} {b : Nat × Nat} {ls st : List zV} {σ : zS} (h : zrun tab E n pc b ls st σ = some o) (hm : n ≤ m) : zrun tab E m pc b ls st σ = some o := by
  induction hm with
  | refl => exact h
  | step _ ih => exact zrun_mono hl _ _ _ _ _ _ ih
theorem zrun_det {tab : Nat → zOp} (hl : ∀ pc, zLin (tab pc)) {E : zE} {o o' : Option zV × zS} {n m pc : Nat} {b : Nat × Nat} {ls st : List zV} {σ : zS} (h : zrun tab E n pc b ls st σ = some o) (h' : zrun tab E m pc b ls st σ = some o') : o' = o := by
  have a := zrun_le hl h (Nat.le_max_left n m)
  have b := zrun_le hl h' (Nat.le_max_right n m)
  exact Option.some.inj (b.symm.trans a)
theorem zF_iff {tab : Nat → zOp} (hl : ∀ pc, zLin (tab pc)) {E : zE} {o : Option zV × zS} {pc : Nat} {b : Nat × Nat} {ls st : List zV} {σ : zS} : zF tab E pc b ls st σ = some o ↔ ∃ n, zrun tab E n pc b ls st σ = some o :=
  ⟨fun h => zlim_some h, fun ⟨n, h⟩ => zlim_is h fun _ _ h' => zrun_det hl h h'⟩
theorem zF_step {tab : Nat → zOp} (hl : ∀ pc, zLin (tab pc)) (E : zE) (pc : Nat) (b : Nat × Nat) (ls st : List zV) (σ : zS) : zF tab E pc b ls st σ = tab pc E (zF tab E) b ls st σ := by
  apply Option.ext
  intro o
  rw [zF_iff hl]
  rcases hl pc E b ls st σ with ⟨c, hc⟩ | ⟨pc', b', ls', st', σ', hc⟩
  · rw [hc]
    constructor
    · rintro ⟨n, h⟩
      cases n with
      | zero => cases h
      | succ n => exact (hc _).symm.trans h
    · intro h
      exact ⟨1, (hc _).trans h⟩
  · rw [hc]
    constructor
    · rintro ⟨n, h⟩
      cases n with
      | zero => cases h
      | succ n => exact (zF_iff hl).mpr ⟨n, (hc _).symm.trans h⟩
    · intro h
      obtain ⟨n, hn⟩ := (zF_iff hl).mp h
      exact ⟨n + 1, (hc _).trans hn⟩
/-- unrolling, up to the places of cut -/
def zun (tab : Nat → zOp) (E : zE) (k : zK) (cut : Nat → Bool) : Nat → zK
  | 0 => k
  | n + 1 => fun pc b ls st σ => tab pc E (fun pc' b' ls' st' σ' => match cut pc' with
    | true => k pc' b' ls' st' σ'
    | false => zun tab E k cut n pc' b' ls' st' σ') b ls st σ
theorem zun_eq {tab : Nat → zOp} (hl : ∀ pc, zLin (tab pc)) (E : zE) (cut : Nat → Bool) : ∀ n, zun tab E (zF tab E) cut n = zF tab E := by
  intro n
  induction n with
  | zero => rfl
  | succ n ih =>
    funext pc b ls st σ
    rw [zF_step hl]
    show tab pc E _ b ls st σ = _
    congr 1
    funext pc' b' ls' st' σ'
    rw [ih]
    cases cut pc' <;> rfl
/-- a method: its text's steps, its room, its locals -/
noncomputable def zM (tab : Nat → zOp) (nL : Nat) (q : Nat × Nat) (E : zE) (as : List zV) (σ : zS) : zO := match zargs as nL with
  | true => zF tab E 0 q (zls0 as nL) [] σ
  | false => none
theorem zun_at {tab : Nat → zOp} (hl : ∀ pc, zLin (tab pc)) (E : zE) (cut : Nat → Bool) (n pc : Nat) (b : Nat × Nat) (ls st : List zV) (σ : zS) : zF tab E pc b ls st σ = zun tab E (zF tab E) cut n pc b ls st σ := by rw [zun_eq hl]
end
section
/-! a switch -/
theorem tsel_some {x : Int32} {f : Nat → zO} {d : zO} {out : Option zV × zS} : ∀ {cs : List (Int32 × Nat)}, tsel x f d cs = some out → (∃ (j : Nat) (q : Int32 × Nat), cs[j]? = some q ∧ x = q.1 ∧ f q.2 = some out) ∨ ((∀ q ∈ cs, x ≠ q.1) ∧ d = some out) := by
  intro cs
  induction cs with
  | nil => intro h; exact Or.inr ⟨fun q hq => absurd hq List.not_mem_nil, h⟩
  | cons q r ih =>
    intro h
    unfold tsel at h
    by_cases hx : x = q.1
    · rw [if_pos hx] at h
      exact Or.inl ⟨0, q, rfl, hx, h⟩
    · rw [if_neg hx] at h
      rcases ih h with ⟨j, q', h1, h2⟩ | ⟨h1, h2⟩
      · exact Or.inl ⟨j + 1, q', h1, h2⟩
      · refine Or.inr ⟨fun q' hq' => ?_, h2⟩
        rcases List.mem_cons.mp hq' with rfl | hq'
        · exact hx
        · exact h1 q' hq'
theorem lin_tsel {x : Int32} {op : zK → zO} {f : zK → Nat → zO} {d : zK → zO} (hf : ∀ t, ∃ pc b' ls' st' σ', ∀ k, f k t = k pc b' ls' st' σ') (hd : ∃ pc b' ls' st' σ', ∀ k, d k = k pc b' ls' st' σ') : ∀ (cs : List (Int32 × Nat)), (∀ k, op k = tsel x (f k) (d k) cs) → (∃ c, ∀ k, op k = c) ∨ ∃ pc b' ls' st' σ', ∀ k, op k = k pc b' ls' st' σ' := by
  intro cs
  induction cs with
  | nil =>
    intro h
    obtain ⟨pc, b', ls', st', σ', h1⟩ := hd
    exact Or.inr ⟨pc, b', ls', st', σ', fun k => (h k).trans (h1 k)⟩
  | cons q r ih =>
    intro h
    by_cases hx : x = q.1
    · obtain ⟨pc, b', ls', st', σ', h1⟩ := hf q.2
      exact Or.inr ⟨pc, b', ls', st', σ', fun k => (h k).trans ((if_pos hx).trans (h1 k))⟩
    · exact ih fun k => (h k).trans (if_neg hx)
def zTbl (cs : List (Int32 × Nat)) (pc : Nat) (lo : Int) (offs : Array Int) : Bool := (List.range cs.length).all fun j => match cs[j]?, offs[j]? with
  | some q, some o => decide (q.1.toInt = lo + j) && decide ((pc : Int) + o = q.2)
  | _, _ => false
section TBL
variable {mi : Nat → MethodName × ByteArray × Nat × Option FieldType × Nat × Nat} {own : String} {cc : ByteArray} {nL : Nat} {ret : Option FieldType} {ini : Bool} {pc : Nat}
theorem ok_tbl {dflt lo hi : Int} {offs : Array Int} {len dt : Nat} {cs : List (Int32 × Nat)} (hd : decode cc pc = .ok (.tableswitch dflt lo hi offs, len)) (hdt : (pc : Int) + dflt = dt) (hcs : zTbl cs pc lo offs = true) (hhi : hi - lo + 1 = cs.length) : zOk mi own cc nL ret ini pc (oTbl cs dt) := by
  have key : ∀ (j : Nat) (q : Int32 × Nat), cs[j]? = some q → q.1.toInt = lo + j ∧ ∃ o, offs[j]? = some o ∧ (pc : Int) + o = q.2 := by
    intro j q hj
    have hl := (List.getElem?_eq_some_iff.mp hj).1
    have h1 := List.all_eq_true.mp hcs j (List.mem_range.mpr hl)
    rw [hj] at h1
    cases ho : offs[j]? with
    | none => rw [ho] at h1; cases h1
    | some o =>
      rw [ho] at h1
      simp only [Bool.and_eq_true, decide_eq_true_eq] at h1
      exact ⟨h1.1, o, rfl, h1.2⟩
  refine ⟨fun E b ls st σ => ?_, fun D cy d p l e R s m args below meth c σ0 out Q E hE hC k b ls st σ h hk H locs cells slots lsA hP hM hS hL hc hs => ?_⟩
  · unfold oTbl
    split
    · exact lin_tsel (fun t => ⟨_, _, _, _, _, fun _ => rfl⟩) ⟨_, _, _, _, _, fun _ => rfl⟩ cs fun _ => rfl
    · exact Or.inl ⟨_, fun _ => rfl⟩
  · unfold oTbl at h
    split at h
    · next x st =>
      rcases tsel_some h with ⟨j, q, hj, hx, h⟩ | ⟨hn, h⟩
      · obtain ⟨k1, o, k2, k3⟩ := key j q hj
        have hl := (List.getElem?_eq_some_iff.mp hj).1
        rw [← hx] at k1
        refine lv_tableIn hC.1 hC.2.1 hd (by omega) (by omega) (off := o) ?_ k3 (hk _ _ _ _ _ h H locs cells slots lsA hP hM hS hL hc hs)
        rw [show (x.toInt - lo).toNat = j by omega]
        exact k2
      · refine lv_tableOut hC.1 hC.2.1 hd ?_ hdt (hk _ _ _ _ _ h H locs cells slots lsA hP hM hS hL hc hs)
        rcases Int.lt_or_le x.toInt lo with h1 | h1
        · exact Or.inl h1
        · rcases Int.lt_or_le hi x.toInt with h2 | h2
          · exact Or.inr h2
          · exfalso
            have hj : (x.toInt - lo).toNat < cs.length := by omega
            obtain ⟨k1, -⟩ := key _ _ (List.getElem?_eq_getElem hj)
            exact hn _ (List.getElem_mem hj) (Int32.toInt_inj.mp (by rw [k1]; omega))
    · cases h
end TBL
end
