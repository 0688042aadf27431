/-! the calls, one by one -/
theorem st_write {k : Nat} {σ τ : St} (h : Rel k σ τ) (hk : k < 64) (x1 : Int32) : ST2 k (f_X10_write__0 σ x1) (f_X11_write__0 τ x1) := sorry
theorem st_wipe {k : Nat} {σ τ : St} (h : Rel k σ τ) (hk : k < 64) : ST2 k (f_X10_wipe__0 σ) (f_X11_wipe__0 τ) := sorry
theorem st_fault {k : Nat} {σ τ : St} (h : Rel k σ τ) (hk : k < 64) : ST2 k (f_X10_fault__0 σ) (f_X11_fault__0 τ) := sorry
theorem st_lay {k : Nat} {σ τ : St} (h : Rel k σ τ) (hk : k < 64) : ST2 k (f_X10_lay__0 σ) (f_X11_lay__0 τ) := sorry
theorem st_house {k : Nat} {σ τ : St} (h : Rel k σ τ) (hk : k < 64) (x1 x2 : Int32) : ST2 k (f_X10_house__0 σ x1 x2) (f_X11_house__0 τ x1 x2) := sorry
theorem st_news {k : Nat} {σ τ : St} (h : Rel k σ τ) (hk : k < 64) (x1 x2 : Int32) : ST2 k (f_X10_news__0 σ x1 x2) (f_X11_news__0 τ x1 x2) := sorry
theorem st_wind {k : Nat} {σ τ : St} (h : Rel k σ τ) (hk : k < 64) (x1 : Int32) : ST2 k (f_X10_wind__0 σ x1) (f_X11_wind__0 τ x1) := sorry
theorem st_step {k : Nat} {σ τ : St} (h : Rel k σ τ) (hk : k < 64) (x1 : Int32) : ST2 k (f_X10_step__0 σ x1) (f_X11_step__0 τ x1) := sorry
theorem st_open {k : Nat} {σ τ : St} (h : Rel k σ τ) (hk : k < 64) (x1 x2 : Int32) : ST2 k (f_X10_open__0 σ x1 x2) (f_X11_open__0 τ x1 x2) := sorry
theorem st_tell {k : Nat} {σ τ : St} (h : Rel k σ τ) (hk : k < 64) (x1 x2 : Int32) : ST2 k (f_X10_tell__0 σ x1 x2) (f_X11_tell__0 τ x1 x2) := sorry
theorem st_undo {k : Nat} {σ τ : St} (h : Rel k σ τ) (hk : k < 64) : ST2 k (f_X10_undo__0 σ) (f_X11_undo__0 τ) := sorry
theorem st_behind {k : Nat} {σ τ : St} (h : Rel k σ τ) (hk : k < 64) (x1 x2 : Int32) : ST2 k (f_X10_behind__0 σ x1 x2) (f_X11_behind__0 τ x1 x2) := sorry
theorem st_when {k : Nat} {σ τ : St} (h : Rel k σ τ) (hk : k < 64) (x1 x2 : Int32) : ST2 k (f_X10_when__0 σ x1 x2) (f_X11_when__0 τ x1 x2) := sorry
theorem st_last {k : Nat} {σ τ : St} (h : Rel k σ τ) (hk : k < 64) (x1 x2 : Int32) : ST2 k (f_X10_last__0 σ x1 x2) (f_X11_last__0 τ x1 x2) := sorry
theorem st_cut {k : Nat} {σ τ : St} (h : Rel k σ τ) (hk : k < 64) (x1 x2 x3 : Int32) : ST2 k (f_X10_cut__0 σ x1 x2 x3) (f_X11_cut__0 τ x1 x2 x3) := sorry
theorem st_openings {k : Nat} {σ τ : St} (h : Rel k σ τ) (hk : k < 64) (x1 x2 x3 x4 x5 : Int32) : ST2 k (f_X10_openings__0 σ x1 x2 x3 x4 x5) (f_X11_openings__0 τ x1 x2 x3 x4 x5) := sorry
theorem st_bears {k : Nat} {σ τ : St} (h : Rel k σ τ) (hk : k < 64) (x1 x2 : Int32) : ST2 k (f_X10_bears__0 σ x1 x2) (f_X11_bears__0 τ x1 x2) := sorry
theorem st_quarrel {k : Nat} {σ τ : St} (h : Rel k σ τ) (hk : k < 64) (x1 x2 x3 x4 : Int32) : ST2 k (f_X10_quarrel__0 σ x1 x2 x3 x4) (f_X11_quarrel__0 τ x1 x2 x3 x4) := sorry
theorem st_see {k : Nat} {σ τ : St} (h : Rel k σ τ) (hk : k < 64) (x1 x2 x3 x4 : Int32) (hb : x4 = 0 ∨ x4 = 1) : ST2 k (f_X10_see__0 σ x1 x2 x3 x4) (f_X11_see__0 τ x1 x2 x3 x4) := sorry
theorem st_forget {k : Nat} {σ τ : St} (h : Rel k σ τ) (hk : k < 64) : ST2 k (f_X10_forget__0 σ) (f_X11_forget__0 τ) := sorry
theorem st_began {k : Nat} {σ τ : St} (h : Rel k σ τ) (hk : k < 64) (x1 : Int32) : ST2 k (f_X10_began__0 σ x1) (f_X11_began__0 τ x1) := sorry
theorem st_blew {k : Nat} {σ τ : St} (h : Rel k σ τ) (hk : k < 64) : ST2 k (f_X10_blew__0 σ) (f_X11_blew__0 τ) := sorry
theorem st_gusts {k : Nat} {σ τ : St} (h : Rel k σ τ) (hk : k < 64) (x1 x2 x3 x4 : Int32) : ST2 k (f_X10_gusts__0 σ x1 x2 x3 x4) (f_X11_gusts__0 τ x1 x2 x3 x4) := sorry
theorem st_year {k : Nat} {σ τ : St} (h : Rel k σ τ) (hk : k < 64) (x1 x2 x3 : Int32) : ST2 k (f_X10_year__0 σ x1 x2 x3) (f_X11_year__0 τ x1 x2 x3) := sorry
theorem st_keep {k : Nat} {σ τ : St} (h : Rel k σ τ) (hk : k < 64) : ST2 k (f_X10_keep__0 σ) (f_X11_keep__0 τ) := sorry
theorem st_back {k : Nat} {σ τ : St} (h : Rel k σ τ) (hk : k < 64) : ST2 k (f_X10_back__0 σ) (f_X11_back__0 τ) := sorry
theorem st_count {k : Nat} {σ τ : St} (h : Rel k σ τ) (hk : k < 64) (x1 : Int32) : ST2 k (f_X10_count__0 σ x1) (f_X11_count__0 τ x1) := sorry
