/-! the reference: duplicateLayer, cutLayers, removeLayer -/
/-- some rows from one on are taken out -/
def cutN (C : zC) (from_ many : Nat) : zC := (cW C, cH C, cN C - many, cP C, fun i => if i < from_ then cL C i else cL C (i + many))
