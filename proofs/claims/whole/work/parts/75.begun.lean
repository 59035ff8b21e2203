/-! ALL MADE -/
def vS : zH := zborn (ivM (zborn (iv_W_init_0 (zborn (fun _ _ => 0) 0)) 77)) 114
theorem AM_S : AM vS sG0 := by
  refine AM_0 (fun k h => ?_) (by decide +kernel) (by decide +kernel)
  have : k = 2 ∨ k = 13 ∨ k = 30 ∨ k = 31 ∨ k = 32 ∨ k = 33 ∨ k = 34 ∨ k = 36 ∨ k = 37 ∨ k = 46 ∨ k = 56 ∨ k = 62 := by omega
  rcases this with rfl | rfl | rfl | rfl | rfl | rfl | rfl | rfl | rfl | rfl | rfl | rfl <;> decide +kernel
theorem AC_S : AC vS sG0 := by
  refine AC_0 (by decide +kernel) (by decide +kernel) (by decide +kernel) (fun k h1 h2 => ?_) (by decide +kernel) (by decide +kernel) (by decide +kernel) (by decide +kernel)
  have : k = 0 ∨ k = 1 ∨ k = 2 ∨ k = 3 ∨ k = 4 := by omega
  rcases this with rfl | rfl | rfl | rfl | rfl <;> decide +kernel
