/-! ===== bits counted ===== -/
def ush (x : Int32) (n : Int32) : Int32 := UInt32.toInt32 (Int32.toUInt32 x >>> (Int32.toUInt32 n &&& Int32.toUInt32 31))
def bc1 (x : Int32) : Int32 := x - (ush x 1 &&& 1431655765)
def bc2 (x : Int32) : Int32 := (x &&& 858993459) + (ush x 2 &&& 858993459)
def bc3 (x : Int32) : Int32 := (x + ush x 4) &&& 252645135
def bc4 (x : Int32) : Int32 := x + ush x 8
def bc5 (x : Int32) : Int32 := x + ush x 16
def bcE (x : Int32) : Int32 := bc5 (bc4 (bc3 (bc2 (bc1 x)))) &&& 63
theorem c_bc {x : Int32} {post : Int32 → CMu → Prop} {cm : CMu} (h : post (bcE x) cm) : w_J6_bitCount_0f7a4 post x cm := by
  unfold w_J6_bitCount_0f7a4
  exact h
theorem bcE_4096 : ∀ a, a < 64 → ∀ b, b < 64 → bcE (nI (64 * a + b)) = nI (cntP (fun i => (64 * a + b).testBit i) 12) := by decide +kernel
