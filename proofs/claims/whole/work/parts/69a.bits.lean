-- the machine's counting of bits, by trying
section PBT
theorem bc_key : ∀ x, x < 128 → ∀ y, y < 128 → (hm_J6_bitCount_0f7a4 ([], fun _ => 0, fun _ => 0, fun _ _ => 0, fun _ _ => 0, fun _ _ => none, 0) (nI (128 * x + y))).map (·.1) = some (nI (cn (128 * x + y).testBit 14)) := by decide +kernel
theorem ntz_key : ∀ a, a < 64 → a ≠ 0 → (hm_J6_numberOfTrailingZeros_0f7a4 ([], fun _ => 0, fun _ => 0, fun _ _ => 0, fun _ _ => 0, fun _ _ => none, 0) (nI a)).map (·.1) = ((List.range 6).find? a.testBit).map nI := by decide +kernel
end PBT
