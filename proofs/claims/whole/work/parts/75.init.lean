/-! the start: both constructors come to related states -/
theorem st_init : ∃ r r2 : Int32 × St, f_X10_tail sig0 = some r ∧ f_X11_tail tau0 = some r2 ∧ Rel 0 r.2 r2.2 := sorry
