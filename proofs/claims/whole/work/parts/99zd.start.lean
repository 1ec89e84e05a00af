/-! the first heap -/
def s_o1 : Option (pN × pI × pL × pR) := f_X11_init w11.1 w11.2.1 w11.2.2.1 w11.2.2.2 0
theorem s_o1_is : s_o1.isSome = true := by decide +kernel
def s_q1 : pN × pI × pL × pR := s_o1.getD (N00, I00, L00, P00)
theorem s_q1_ok : f_X11_init w11.1 w11.2.1 w11.2.2.1 w11.2.2.2 0 = some s_q1 := by
  obtain ⟨q, hq⟩ := Option.isSome_iff_exists.mp s_o1_is
  have h2 : s_q1 = q := by unfold s_q1; rw [hq]; rfl
  rw [h2]
  exact hq
theorem s_q1_n : s_q1.1.1 = 67 := by decide +kernel
