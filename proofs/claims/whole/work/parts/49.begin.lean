/-! The memory that the law begins with. -/
theorem z_M0 : zF oz_M0 1 z0 := by
  refine ⟨zW_0 (by omega) (by omega), ⟨rfl, fun a _ b _ => ?_⟩, ⟨rfl, fun a _ b _ => rfl⟩, ⟨rfl, rfl, rfl⟩, ⟨rfl, rfl, rfl, rfl⟩⟩
  show zb 0 b = false
  exact zb_0 b
