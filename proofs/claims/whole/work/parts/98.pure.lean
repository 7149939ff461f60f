/-! what class and reference keep to -/
def g_R : x_S → x_L → x_S → x_L → Prop := fun _ _ _ _ => True
theorem g_ok : z_ok g_R := by
  sorry
theorem g_init : g_R z_s0 z_t0 z_r0 z_t0 := trivial
