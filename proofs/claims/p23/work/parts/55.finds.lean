theorem m_clr : ∀ s, s < 64 → ∀ v, v < 6 → nI s &&& (((1 : Int32) <<< (nI v &&& 31)) ^^^ (-1 : Int32)) = nI (s &&& (63 ^^^ 2 ^ v)) := by decide +kernel
theorem clr_or : ∀ s, s < 64 → ∀ v, v < 6 → s.testBit v = false → (s ||| 2 ^ v) &&& (63 ^^^ 2 ^ v) = s := by decide +kernel
theorem pc_5 : ∀ s, s < 64 → ∀ v, v < 6 → s.testBit v = false → pc s ≤ 5 := by decide +kernel
