/-! ===== how many bits ===== -/
def bc1 (x0 : Int32) : Int32 := (((x0 - (((x0.toUInt32 >>> ((1 : Int32).toUInt32 &&& Int32.toUInt32 31)).toInt32) &&& (1431655765 : Int32))) &&& (858993459 : Int32)) + ((((x0 - (((x0.toUInt32 >>> ((1 : Int32).toUInt32 &&& Int32.toUInt32 31)).toInt32) &&& (1431655765 : Int32))).toUInt32 >>> ((2 : Int32).toUInt32 &&& Int32.toUInt32 31)).toInt32) &&& (858993459 : Int32)))
def bc2 (z1 : Int32) : Int32 := (((z1 + ((z1.toUInt32 >>> ((4 : Int32).toUInt32 &&& Int32.toUInt32 31)).toInt32)) &&& (252645135 : Int32)) + ((((z1 + ((z1.toUInt32 >>> ((4 : Int32).toUInt32 &&& Int32.toUInt32 31)).toInt32)) &&& (252645135 : Int32)).toUInt32 >>> ((8 : Int32).toUInt32 &&& Int32.toUInt32 31)).toInt32))
def bc3 (z2 : Int32) : Int32 := ((z2 + ((z2.toUInt32 >>> ((16 : Int32).toUInt32 &&& Int32.toUInt32 31)).toInt32)) &&& (63 : Int32))
def bc (x : Int32) : Int32 := bc3 (bc2 (bc1 x))
theorem x_bc (x : Int32) (h : AH) : f_J6_bitCount_0f7a4 x h = some (bc x, h) := rfl
def nx (x : Int32) : Int32 := x &&& (x - 1)
set_option maxRecDepth 100000 in
theorem bc_tab : ∀ a, a < 128 → ∀ b, b < 128 → bc (nI (128 * a + b)) = nI (cnt (bt (nI (128 * a + b))) 14) := by decide +kernel
