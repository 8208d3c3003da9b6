/-! literals as small whole numbers; the set of rewritings -/
theorem zl0 : (0 : Int32) = nI 0 := rfl
theorem zl1 : (1 : Int32) = nI 1 := rfl
theorem zl2 : (2 : Int32) = nI 2 := rfl
theorem zl3 : (3 : Int32) = nI 3 := rfl
theorem zl6 : (6 : Int32) = nI 6 := rfl
theorem zl7 : (7 : Int32) = nI 7 := rfl
theorem zl8 : (8 : Int32) = nI 8 := rfl
theorem zl9 : (9 : Int32) = nI 9 := rfl
theorem zl12 : (12 : Int32) = nI 12 := rfl
theorem zl15 : (15 : Int32) = nI 15 := rfl
theorem zl16 : (16 : Int32) = nI 16 := rfl
theorem zl20 : (20 : Int32) = nI 20 := rfl
theorem zl21 : (21 : Int32) = nI 21 := rfl
theorem zl30 : (30 : Int32) = nI 30 := rfl
theorem zl31 : (31 : Int32) = nI 31 := rfl
theorem zl36 : (36 : Int32) = nI 36 := rfl
theorem zl510 : (510 : Int32) = nI 510 := rfl
theorem zl1024 : (1024 : Int32) = nI 1024 := rfl
theorem zl65535 : (65535 : Int32) = nI 65535 := rfl
theorem zl65536 : (65536 : Int32) = nI 65536 := rfl
theorem bI_z (b : Bool) : bI b = nI 0 ↔ b = false := by cases b <;> decide
theorem ixN_2 {i : Nat} (h : i < 2) : ixN 2 (nI i) = some i := ixN_n h (by omega)
