/-! rows of numbers, read and written -/
theorem at_2 {σ : St} {j : Nat} (h : j < 200) : f_X10_at__2 σ (nI j) = some (σ 2 j, σ) := by
  have h2 : ¬ (200 : Int32) ≤ nI j := nI_ge (b := 200) h (by decide)
  simp only [f_X10_at__2, jq0, if_neg (nI_pos (show j < 2 ^ 31 by omega)), if_neg h2, gd_nI h (show 200 < 2 ^ 31 by decide), nI_clamp (show j < 2 ^ 31 by omega)]
theorem at_4 {σ : St} {j : Nat} (h : j < 3) : f_X10_at__4 σ (nI j) = some (σ 4 j, σ) := by
  have h2 : ¬ (3 : Int32) ≤ nI j := nI_ge (b := 3) h (by decide)
  simp only [f_X10_at__4, jq0, if_neg (nI_pos (show j < 2 ^ 31 by omega)), if_neg h2, gd_nI h (show 3 < 2 ^ 31 by decide), nI_clamp (show j < 2 ^ 31 by omega)]
theorem at_17 {σ : St} {j : Nat} (h : j < 5) : f_X10_at__17 σ (nI j) = some (σ 17 j, σ) := by
  have h2 : ¬ (5 : Int32) ≤ nI j := nI_ge (b := 5) h (by decide)
  simp only [f_X10_at__17, jq0, if_neg (nI_pos (show j < 2 ^ 31 by omega)), if_neg h2, gd_nI h (show 5 < 2 ^ 31 by decide), nI_clamp (show j < 2 ^ 31 by omega)]
theorem at_14 {σ : St} {j : Nat} (h : j < 16) : f_X10_at__14 σ (nI j) = some (σ 14 j, σ) := by
  have h2 : ¬ (16 : Int32) ≤ nI j := nI_ge (b := 16) h (by decide)
  simp only [f_X10_at__14, jq0, if_neg (nI_pos (show j < 2 ^ 31 by omega)), if_neg h2, gd_nI h (show 16 < 2 ^ 31 by decide), nI_clamp (show j < 2 ^ 31 by omega)]
theorem at_13 {σ : St} {j : Nat} (h : j < 16) : f_X10_at__13 σ (nI j) = some (σ 13 j, σ) := by
  have h2 : ¬ (16 : Int32) ≤ nI j := nI_ge (b := 16) h (by decide)
  simp only [f_X10_at__13, jq0, if_neg (nI_pos (show j < 2 ^ 31 by omega)), if_neg h2, gd_nI h (show 16 < 2 ^ 31 by decide), nI_clamp (show j < 2 ^ 31 by omega)]
theorem at_20 {σ : St} {j : Nat} (h : j < 16) : f_X10_at__20 σ (nI j) = some (σ 20 j, σ) := by
  have h2 : ¬ (16 : Int32) ≤ nI j := nI_ge (b := 16) h (by decide)
  simp only [f_X10_at__20, jq0, if_neg (nI_pos (show j < 2 ^ 31 by omega)), if_neg h2, gd_nI h (show 16 < 2 ^ 31 by decide), nI_clamp (show j < 2 ^ 31 by omega)]
theorem at_21 {σ : St} {j : Nat} (h : j < 5) : f_X10_at__21 σ (nI j) = some (σ 21 j, σ) := by
  have h2 : ¬ (5 : Int32) ≤ nI j := nI_ge (b := 5) h (by decide)
  simp only [f_X10_at__21, jq0, if_neg (nI_pos (show j < 2 ^ 31 by omega)), if_neg h2, gd_nI h (show 5 < 2 ^ 31 by decide), nI_clamp (show j < 2 ^ 31 by omega)]
theorem at_15 {σ : St} {j : Nat} (h : j < 5) : f_X10_at__15 σ (nI j) = some (σ 15 j, σ) := by
  have h2 : ¬ (5 : Int32) ≤ nI j := nI_ge (b := 5) h (by decide)
  simp only [f_X10_at__15, jq0, if_neg (nI_pos (show j < 2 ^ 31 by omega)), if_neg h2, gd_nI h (show 5 < 2 ^ 31 by decide), nI_clamp (show j < 2 ^ 31 by omega)]
theorem at_16 {σ : St} {j : Nat} (h : j < 5) : f_X10_at__16 σ (nI j) = some (σ 16 j, σ) := by
  have h2 : ¬ (5 : Int32) ≤ nI j := nI_ge (b := 5) h (by decide)
  simp only [f_X10_at__16, jq0, if_neg (nI_pos (show j < 2 ^ 31 by omega)), if_neg h2, gd_nI h (show 5 < 2 ^ 31 by decide), nI_clamp (show j < 2 ^ 31 by omega)]
theorem at_18 {σ : St} {j : Nat} (h : j < 8) : f_X10_at__18 σ (nI j) = some (σ 18 j, σ) := by
  have h2 : ¬ (8 : Int32) ≤ nI j := nI_ge (b := 8) h (by decide)
  simp only [f_X10_at__18, jq0, if_neg (nI_pos (show j < 2 ^ 31 by omega)), if_neg h2, gd_nI h (show 8 < 2 ^ 31 by decide), nI_clamp (show j < 2 ^ 31 by omega)]
theorem at_58 {σ : St} {j : Nat} (h : j < 16) : f_X10_at__58 σ (nI j) = some (σ 58 j, σ) := by
  have h2 : ¬ (16 : Int32) ≤ nI j := nI_ge (b := 16) h (by decide)
  simp only [f_X10_at__58, jq0, if_neg (nI_pos (show j < 2 ^ 31 by omega)), if_neg h2, gd_nI h (show 16 < 2 ^ 31 by decide), nI_clamp (show j < 2 ^ 31 by omega)]
theorem at_25 {σ : St} {j : Nat} (h : j < 16) : f_X10_at__25 σ (nI j) = some (σ 25 j, σ) := by
  have h2 : ¬ (16 : Int32) ≤ nI j := nI_ge (b := 16) h (by decide)
  simp only [f_X10_at__25, jq0, if_neg (nI_pos (show j < 2 ^ 31 by omega)), if_neg h2, gd_nI h (show 16 < 2 ^ 31 by decide), nI_clamp (show j < 2 ^ 31 by omega)]
theorem at_26 {σ : St} {j : Nat} (h : j < 5) : f_X10_at__26 σ (nI j) = some (σ 26 j, σ) := by
  have h2 : ¬ (5 : Int32) ≤ nI j := nI_ge (b := 5) h (by decide)
  simp only [f_X10_at__26, jq0, if_neg (nI_pos (show j < 2 ^ 31 by omega)), if_neg h2, gd_nI h (show 5 < 2 ^ 31 by decide), nI_clamp (show j < 2 ^ 31 by omega)]
theorem at_28 {σ : St} {j : Nat} (h : j < 16) : f_X10_at__28 σ (nI j) = some (σ 28 j, σ) := by
  have h2 : ¬ (16 : Int32) ≤ nI j := nI_ge (b := 16) h (by decide)
  simp only [f_X10_at__28, jq0, if_neg (nI_pos (show j < 2 ^ 31 by omega)), if_neg h2, gd_nI h (show 16 < 2 ^ 31 by decide), nI_clamp (show j < 2 ^ 31 by omega)]
theorem at_29 {σ : St} {j : Nat} (h : j < 5) : f_X10_at__29 σ (nI j) = some (σ 29 j, σ) := by
  have h2 : ¬ (5 : Int32) ≤ nI j := nI_ge (b := 5) h (by decide)
  simp only [f_X10_at__29, jq0, if_neg (nI_pos (show j < 2 ^ 31 by omega)), if_neg h2, gd_nI h (show 5 < 2 ^ 31 by decide), nI_clamp (show j < 2 ^ 31 by omega)]
theorem at_31 {σ : St} {j : Nat} (h : j < 16) : f_X10_at__31 σ (nI j) = some (σ 31 j, σ) := by
  have h2 : ¬ (16 : Int32) ≤ nI j := nI_ge (b := 16) h (by decide)
  simp only [f_X10_at__31, jq0, if_neg (nI_pos (show j < 2 ^ 31 by omega)), if_neg h2, gd_nI h (show 16 < 2 ^ 31 by decide), nI_clamp (show j < 2 ^ 31 by omega)]
theorem at_32 {σ : St} {j : Nat} (h : j < 5) : f_X10_at__32 σ (nI j) = some (σ 32 j, σ) := by
  have h2 : ¬ (5 : Int32) ≤ nI j := nI_ge (b := 5) h (by decide)
  simp only [f_X10_at__32, jq0, if_neg (nI_pos (show j < 2 ^ 31 by omega)), if_neg h2, gd_nI h (show 5 < 2 ^ 31 by decide), nI_clamp (show j < 2 ^ 31 by omega)]
theorem at_34 {σ : St} {j : Nat} (h : j < 16) : f_X10_at__34 σ (nI j) = some (σ 34 j, σ) := by
  have h2 : ¬ (16 : Int32) ≤ nI j := nI_ge (b := 16) h (by decide)
  simp only [f_X10_at__34, jq0, if_neg (nI_pos (show j < 2 ^ 31 by omega)), if_neg h2, gd_nI h (show 16 < 2 ^ 31 by decide), nI_clamp (show j < 2 ^ 31 by omega)]
theorem at_35 {σ : St} {j : Nat} (h : j < 5) : f_X10_at__35 σ (nI j) = some (σ 35 j, σ) := by
  have h2 : ¬ (5 : Int32) ≤ nI j := nI_ge (b := 5) h (by decide)
  simp only [f_X10_at__35, jq0, if_neg (nI_pos (show j < 2 ^ 31 by omega)), if_neg h2, gd_nI h (show 5 < 2 ^ 31 by decide), nI_clamp (show j < 2 ^ 31 by omega)]
theorem at_37 {σ : St} {j : Nat} (h : j < 16) : f_X10_at__37 σ (nI j) = some (σ 37 j, σ) := by
  have h2 : ¬ (16 : Int32) ≤ nI j := nI_ge (b := 16) h (by decide)
  simp only [f_X10_at__37, jq0, if_neg (nI_pos (show j < 2 ^ 31 by omega)), if_neg h2, gd_nI h (show 16 < 2 ^ 31 by decide), nI_clamp (show j < 2 ^ 31 by omega)]
theorem at_38 {σ : St} {j : Nat} (h : j < 5) : f_X10_at__38 σ (nI j) = some (σ 38 j, σ) := by
  have h2 : ¬ (5 : Int32) ≤ nI j := nI_ge (b := 5) h (by decide)
  simp only [f_X10_at__38, jq0, if_neg (nI_pos (show j < 2 ^ 31 by omega)), if_neg h2, gd_nI h (show 5 < 2 ^ 31 by decide), nI_clamp (show j < 2 ^ 31 by omega)]
theorem at_40 {σ : St} {j : Nat} (h : j < 16) : f_X10_at__40 σ (nI j) = some (σ 40 j, σ) := by
  have h2 : ¬ (16 : Int32) ≤ nI j := nI_ge (b := 16) h (by decide)
  simp only [f_X10_at__40, jq0, if_neg (nI_pos (show j < 2 ^ 31 by omega)), if_neg h2, gd_nI h (show 16 < 2 ^ 31 by decide), nI_clamp (show j < 2 ^ 31 by omega)]
theorem at_41 {σ : St} {j : Nat} (h : j < 5) : f_X10_at__41 σ (nI j) = some (σ 41 j, σ) := by
  have h2 : ¬ (5 : Int32) ≤ nI j := nI_ge (b := 5) h (by decide)
  simp only [f_X10_at__41, jq0, if_neg (nI_pos (show j < 2 ^ 31 by omega)), if_neg h2, gd_nI h (show 5 < 2 ^ 31 by decide), nI_clamp (show j < 2 ^ 31 by omega)]
theorem at_43 {σ : St} {j : Nat} (h : j < 16) : f_X10_at__43 σ (nI j) = some (σ 43 j, σ) := by
  have h2 : ¬ (16 : Int32) ≤ nI j := nI_ge (b := 16) h (by decide)
  simp only [f_X10_at__43, jq0, if_neg (nI_pos (show j < 2 ^ 31 by omega)), if_neg h2, gd_nI h (show 16 < 2 ^ 31 by decide), nI_clamp (show j < 2 ^ 31 by omega)]
theorem at_44 {σ : St} {j : Nat} (h : j < 5) : f_X10_at__44 σ (nI j) = some (σ 44 j, σ) := by
  have h2 : ¬ (5 : Int32) ≤ nI j := nI_ge (b := 5) h (by decide)
  simp only [f_X10_at__44, jq0, if_neg (nI_pos (show j < 2 ^ 31 by omega)), if_neg h2, gd_nI h (show 5 < 2 ^ 31 by decide), nI_clamp (show j < 2 ^ 31 by omega)]
theorem at_46 {σ : St} {j : Nat} (h : j < 16) : f_X10_at__46 σ (nI j) = some (σ 46 j, σ) := by
  have h2 : ¬ (16 : Int32) ≤ nI j := nI_ge (b := 16) h (by decide)
  simp only [f_X10_at__46, jq0, if_neg (nI_pos (show j < 2 ^ 31 by omega)), if_neg h2, gd_nI h (show 16 < 2 ^ 31 by decide), nI_clamp (show j < 2 ^ 31 by omega)]
theorem at_47 {σ : St} {j : Nat} (h : j < 5) : f_X10_at__47 σ (nI j) = some (σ 47 j, σ) := by
  have h2 : ¬ (5 : Int32) ≤ nI j := nI_ge (b := 5) h (by decide)
  simp only [f_X10_at__47, jq0, if_neg (nI_pos (show j < 2 ^ 31 by omega)), if_neg h2, gd_nI h (show 5 < 2 ^ 31 by decide), nI_clamp (show j < 2 ^ 31 by omega)]
theorem at_57 {σ : St} {j : Nat} (h : j < 16) : f_X10_at__57 σ (nI j) = some (σ 57 j, σ) := by
  have h2 : ¬ (16 : Int32) ≤ nI j := nI_ge (b := 16) h (by decide)
  simp only [f_X10_at__57, jq0, if_neg (nI_pos (show j < 2 ^ 31 by omega)), if_neg h2, gd_nI h (show 16 < 2 ^ 31 by decide), nI_clamp (show j < 2 ^ 31 by omega)]
theorem at_64 {σ : St} {j : Nat} (h : j < 6) : f_X10_at__64 σ (nI j) = some (σ 64 j, σ) := by
  have h2 : ¬ (6 : Int32) ≤ nI j := nI_ge (b := 6) h (by decide)
  simp only [f_X10_at__64, jq0, if_neg (nI_pos (show j < 2 ^ 31 by omega)), if_neg h2, gd_nI h (show 6 < 2 ^ 31 by decide), nI_clamp (show j < 2 ^ 31 by omega)]
theorem at_65 {σ : St} {j : Nat} (h : j < 6) : f_X10_at__65 σ (nI j) = some (σ 65 j, σ) := by
  have h2 : ¬ (6 : Int32) ≤ nI j := nI_ge (b := 6) h (by decide)
  simp only [f_X10_at__65, jq0, if_neg (nI_pos (show j < 2 ^ 31 by omega)), if_neg h2, gd_nI h (show 6 < 2 ^ 31 by decide), nI_clamp (show j < 2 ^ 31 by omega)]
theorem at_63 {σ : St} {j : Nat} (h : j < 6) : f_X10_at__63 σ (nI j) = some (σ 63 j, σ) := by
  have h2 : ¬ (6 : Int32) ≤ nI j := nI_ge (b := 6) h (by decide)
  simp only [f_X10_at__63, jq0, if_neg (nI_pos (show j < 2 ^ 31 by omega)), if_neg h2, gd_nI h (show 6 < 2 ^ 31 by decide), nI_clamp (show j < 2 ^ 31 by omega)]
theorem at_66 {σ : St} {j : Nat} (h : j < 6) : f_X10_at__66 σ (nI j) = some (σ 66 j, σ) := by
  have h2 : ¬ (6 : Int32) ≤ nI j := nI_ge (b := 6) h (by decide)
  simp only [f_X10_at__66, jq0, if_neg (nI_pos (show j < 2 ^ 31 by omega)), if_neg h2, gd_nI h (show 6 < 2 ^ 31 by decide), nI_clamp (show j < 2 ^ 31 by omega)]
theorem at_51 {σ : St} {j : Nat} (h : j < 16) : f_X10_at__51 σ (nI j) = some (σ 51 j, σ) := by
  have h2 : ¬ (16 : Int32) ≤ nI j := nI_ge (b := 16) h (by decide)
  simp only [f_X10_at__51, jq0, if_neg (nI_pos (show j < 2 ^ 31 by omega)), if_neg h2, gd_nI h (show 16 < 2 ^ 31 by decide), nI_clamp (show j < 2 ^ 31 by omega)]
theorem at_52 {σ : St} {j : Nat} (h : j < 5) : f_X10_at__52 σ (nI j) = some (σ 52 j, σ) := by
  have h2 : ¬ (5 : Int32) ≤ nI j := nI_ge (b := 5) h (by decide)
  simp only [f_X10_at__52, jq0, if_neg (nI_pos (show j < 2 ^ 31 by omega)), if_neg h2, gd_nI h (show 5 < 2 ^ 31 by decide), nI_clamp (show j < 2 ^ 31 by omega)]
theorem at_54 {σ : St} {j : Nat} (h : j < 16) : f_X10_at__54 σ (nI j) = some (σ 54 j, σ) := by
  have h2 : ¬ (16 : Int32) ≤ nI j := nI_ge (b := 16) h (by decide)
  simp only [f_X10_at__54, jq0, if_neg (nI_pos (show j < 2 ^ 31 by omega)), if_neg h2, gd_nI h (show 16 < 2 ^ 31 by decide), nI_clamp (show j < 2 ^ 31 by omega)]
theorem at_55 {σ : St} {j : Nat} (h : j < 5) : f_X10_at__55 σ (nI j) = some (σ 55 j, σ) := by
  have h2 : ¬ (5 : Int32) ≤ nI j := nI_ge (b := 5) h (by decide)
  simp only [f_X10_at__55, jq0, if_neg (nI_pos (show j < 2 ^ 31 by omega)), if_neg h2, gd_nI h (show 5 < 2 ^ 31 by decide), nI_clamp (show j < 2 ^ 31 by omega)]
theorem put_2 {σ : St} {j : Nat} {v : Int32} (h : j < 200) : f_X10_put__2 σ (nI j) v = some (0, ps σ 2 (nI j) v) := by
  have h2 : ¬ (200 : Int32) ≤ nI j := nI_ge (b := 200) h (by decide)
  simp only [f_X10_put__2, nm_ok, if_neg (nI_pos (show j < 2 ^ 31 by omega)), if_neg h2, gd_nI h (show 200 < 2 ^ 31 by decide)]
theorem put_4 {σ : St} {j : Nat} {v : Int32} (h : j < 3) : f_X10_put__4 σ (nI j) v = some (0, ps σ 4 (nI j) v) := by
  have h2 : ¬ (3 : Int32) ≤ nI j := nI_ge (b := 3) h (by decide)
  simp only [f_X10_put__4, nm_ok, if_neg (nI_pos (show j < 2 ^ 31 by omega)), if_neg h2, gd_nI h (show 3 < 2 ^ 31 by decide)]
theorem put_6 {σ : St} {j : Nat} {v : Int32} (h : j < 16) : f_X10_put__6 σ (nI j) v = some (0, ps σ 6 (nI j) v) := by
  have h2 : ¬ (16 : Int32) ≤ nI j := nI_ge (b := 16) h (by decide)
  simp only [f_X10_put__6, nm_ok, if_neg (nI_pos (show j < 2 ^ 31 by omega)), if_neg h2, gd_nI h (show 16 < 2 ^ 31 by decide)]
theorem put_7 {σ : St} {j : Nat} {v : Int32} (h : j < 16) : f_X10_put__7 σ (nI j) v = some (0, ps σ 7 (nI j) v) := by
  have h2 : ¬ (16 : Int32) ≤ nI j := nI_ge (b := 16) h (by decide)
  simp only [f_X10_put__7, nm_ok, if_neg (nI_pos (show j < 2 ^ 31 by omega)), if_neg h2, gd_nI h (show 16 < 2 ^ 31 by decide)]
theorem put_8 {σ : St} {j : Nat} {v : Int32} (h : j < 5) : f_X10_put__8 σ (nI j) v = some (0, ps σ 8 (nI j) v) := by
  have h2 : ¬ (5 : Int32) ≤ nI j := nI_ge (b := 5) h (by decide)
  simp only [f_X10_put__8, nm_ok, if_neg (nI_pos (show j < 2 ^ 31 by omega)), if_neg h2, gd_nI h (show 5 < 2 ^ 31 by decide)]
theorem put_9 {σ : St} {j : Nat} {v : Int32} (h : j < 5) : f_X10_put__9 σ (nI j) v = some (0, ps σ 9 (nI j) v) := by
  have h2 : ¬ (5 : Int32) ≤ nI j := nI_ge (b := 5) h (by decide)
  simp only [f_X10_put__9, nm_ok, if_neg (nI_pos (show j < 2 ^ 31 by omega)), if_neg h2, gd_nI h (show 5 < 2 ^ 31 by decide)]
theorem put_10 {σ : St} {j : Nat} {v : Int32} (h : j < 5) : f_X10_put__10 σ (nI j) v = some (0, ps σ 10 (nI j) v) := by
  have h2 : ¬ (5 : Int32) ≤ nI j := nI_ge (b := 5) h (by decide)
  simp only [f_X10_put__10, nm_ok, if_neg (nI_pos (show j < 2 ^ 31 by omega)), if_neg h2, gd_nI h (show 5 < 2 ^ 31 by decide)]
theorem put_11 {σ : St} {j : Nat} {v : Int32} (h : j < 8) : f_X10_put__11 σ (nI j) v = some (0, ps σ 11 (nI j) v) := by
  have h2 : ¬ (8 : Int32) ≤ nI j := nI_ge (b := 8) h (by decide)
  simp only [f_X10_put__11, nm_ok, if_neg (nI_pos (show j < 2 ^ 31 by omega)), if_neg h2, gd_nI h (show 8 < 2 ^ 31 by decide)]
theorem put_13 {σ : St} {j : Nat} {v : Int32} (h : j < 16) : f_X10_put__13 σ (nI j) v = some (0, ps σ 13 (nI j) v) := by
  have h2 : ¬ (16 : Int32) ≤ nI j := nI_ge (b := 16) h (by decide)
  simp only [f_X10_put__13, nm_ok, if_neg (nI_pos (show j < 2 ^ 31 by omega)), if_neg h2, gd_nI h (show 16 < 2 ^ 31 by decide)]
theorem put_14 {σ : St} {j : Nat} {v : Int32} (h : j < 16) : f_X10_put__14 σ (nI j) v = some (0, ps σ 14 (nI j) v) := by
  have h2 : ¬ (16 : Int32) ≤ nI j := nI_ge (b := 16) h (by decide)
  simp only [f_X10_put__14, nm_ok, if_neg (nI_pos (show j < 2 ^ 31 by omega)), if_neg h2, gd_nI h (show 16 < 2 ^ 31 by decide)]
theorem put_15 {σ : St} {j : Nat} {v : Int32} (h : j < 5) : f_X10_put__15 σ (nI j) v = some (0, ps σ 15 (nI j) v) := by
  have h2 : ¬ (5 : Int32) ≤ nI j := nI_ge (b := 5) h (by decide)
  simp only [f_X10_put__15, nm_ok, if_neg (nI_pos (show j < 2 ^ 31 by omega)), if_neg h2, gd_nI h (show 5 < 2 ^ 31 by decide)]
theorem put_16 {σ : St} {j : Nat} {v : Int32} (h : j < 5) : f_X10_put__16 σ (nI j) v = some (0, ps σ 16 (nI j) v) := by
  have h2 : ¬ (5 : Int32) ≤ nI j := nI_ge (b := 5) h (by decide)
  simp only [f_X10_put__16, nm_ok, if_neg (nI_pos (show j < 2 ^ 31 by omega)), if_neg h2, gd_nI h (show 5 < 2 ^ 31 by decide)]
theorem put_17 {σ : St} {j : Nat} {v : Int32} (h : j < 5) : f_X10_put__17 σ (nI j) v = some (0, ps σ 17 (nI j) v) := by
  have h2 : ¬ (5 : Int32) ≤ nI j := nI_ge (b := 5) h (by decide)
  simp only [f_X10_put__17, nm_ok, if_neg (nI_pos (show j < 2 ^ 31 by omega)), if_neg h2, gd_nI h (show 5 < 2 ^ 31 by decide)]
theorem put_18 {σ : St} {j : Nat} {v : Int32} (h : j < 8) : f_X10_put__18 σ (nI j) v = some (0, ps σ 18 (nI j) v) := by
  have h2 : ¬ (8 : Int32) ≤ nI j := nI_ge (b := 8) h (by decide)
  simp only [f_X10_put__18, nm_ok, if_neg (nI_pos (show j < 2 ^ 31 by omega)), if_neg h2, gd_nI h (show 8 < 2 ^ 31 by decide)]
theorem put_21 {σ : St} {j : Nat} {v : Int32} (h : j < 5) : f_X10_put__21 σ (nI j) v = some (0, ps σ 21 (nI j) v) := by
  have h2 : ¬ (5 : Int32) ≤ nI j := nI_ge (b := 5) h (by decide)
  simp only [f_X10_put__21, nm_ok, if_neg (nI_pos (show j < 2 ^ 31 by omega)), if_neg h2, gd_nI h (show 5 < 2 ^ 31 by decide)]
theorem put_20 {σ : St} {j : Nat} {v : Int32} (h : j < 16) : f_X10_put__20 σ (nI j) v = some (0, ps σ 20 (nI j) v) := by
  have h2 : ¬ (16 : Int32) ≤ nI j := nI_ge (b := 16) h (by decide)
  simp only [f_X10_put__20, nm_ok, if_neg (nI_pos (show j < 2 ^ 31 by omega)), if_neg h2, gd_nI h (show 16 < 2 ^ 31 by decide)]
theorem put_58 {σ : St} {j : Nat} {v : Int32} (h : j < 16) : f_X10_put__58 σ (nI j) v = some (0, ps σ 58 (nI j) v) := by
  have h2 : ¬ (16 : Int32) ≤ nI j := nI_ge (b := 16) h (by decide)
  simp only [f_X10_put__58, nm_ok, if_neg (nI_pos (show j < 2 ^ 31 by omega)), if_neg h2, gd_nI h (show 16 < 2 ^ 31 by decide)]
theorem put_57 {σ : St} {j : Nat} {v : Int32} (h : j < 16) : f_X10_put__57 σ (nI j) v = some (0, ps σ 57 (nI j) v) := by
  have h2 : ¬ (16 : Int32) ≤ nI j := nI_ge (b := 16) h (by decide)
  simp only [f_X10_put__57, nm_ok, if_neg (nI_pos (show j < 2 ^ 31 by omega)), if_neg h2, gd_nI h (show 16 < 2 ^ 31 by decide)]
theorem put_66 {σ : St} {j : Nat} {v : Int32} (h : j < 6) : f_X10_put__66 σ (nI j) v = some (0, ps σ 66 (nI j) v) := by
  have h2 : ¬ (6 : Int32) ≤ nI j := nI_ge (b := 6) h (by decide)
  simp only [f_X10_put__66, nm_ok, if_neg (nI_pos (show j < 2 ^ 31 by omega)), if_neg h2, gd_nI h (show 6 < 2 ^ 31 by decide)]
theorem put_63 {σ : St} {j : Nat} {v : Int32} (h : j < 6) : f_X10_put__63 σ (nI j) v = some (0, ps σ 63 (nI j) v) := by
  have h2 : ¬ (6 : Int32) ≤ nI j := nI_ge (b := 6) h (by decide)
  simp only [f_X10_put__63, nm_ok, if_neg (nI_pos (show j < 2 ^ 31 by omega)), if_neg h2, gd_nI h (show 6 < 2 ^ 31 by decide)]
theorem put_64 {σ : St} {j : Nat} {v : Int32} (h : j < 6) : f_X10_put__64 σ (nI j) v = some (0, ps σ 64 (nI j) v) := by
  have h2 : ¬ (6 : Int32) ≤ nI j := nI_ge (b := 6) h (by decide)
  simp only [f_X10_put__64, nm_ok, if_neg (nI_pos (show j < 2 ^ 31 by omega)), if_neg h2, gd_nI h (show 6 < 2 ^ 31 by decide)]
theorem put_65 {σ : St} {j : Nat} {v : Int32} (h : j < 6) : f_X10_put__65 σ (nI j) v = some (0, ps σ 65 (nI j) v) := by
  have h2 : ¬ (6 : Int32) ≤ nI j := nI_ge (b := 6) h (by decide)
  simp only [f_X10_put__65, nm_ok, if_neg (nI_pos (show j < 2 ^ 31 by omega)), if_neg h2, gd_nI h (show 6 < 2 ^ 31 by decide)]
