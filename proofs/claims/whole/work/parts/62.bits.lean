def g1 (a : Int64) : Int64 := a - ((a.toUInt64 >>> ((nI 1).toInt64.toUInt64 &&& Int64.toUInt64 63)).toInt64 &&& lN 6148914691236517205)
def g2 (a : Int64) : Int64 := (a &&& lN 3689348814741910323) + ((a.toUInt64 >>> ((nI 2).toInt64.toUInt64 &&& Int64.toUInt64 63)).toInt64 &&& lN 3689348814741910323)
def g3 (a : Int64) : Int64 := (a + (a.toUInt64 >>> ((nI 4).toInt64.toUInt64 &&& Int64.toUInt64 63)).toInt64) &&& lN 1085102592571150095
def g4 (a : Int64) : Int64 := a + (a.toUInt64 >>> ((nI 8).toInt64.toUInt64 &&& Int64.toUInt64 63)).toInt64
def g5 (a : Int64) : Int64 := a + (a.toUInt64 >>> ((nI 16).toInt64.toUInt64 &&& Int64.toUInt64 63)).toInt64
def g6 (a : Int64) : Int64 := a + (a.toUInt64 >>> ((nI 32).toInt64.toUInt64 &&& Int64.toUInt64 63)).toInt64
theorem bc_eq (a : Int64) : f_Long_bitCount a = (g6 (g5 (g4 (g3 (g2 (g1 a)))))).toInt32 &&& nI 127 := rfl
