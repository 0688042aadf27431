set_option maxRecDepth 100000 in
set_option maxHeartbeats 4000000 in
theorem k_X4_newsKindOf__12 {l : Launch} {D : va_G} {a : Nat → Nat} {cI cS : ClassId} (hI : ∀ σ : St, va_D (AN a) (cN a cI cS σ)) {σ : St} {x1 : Int32} {r : Int32 × St} (h : f_X4_newsKindOf__12 σ x1 = some r) : Kc (SN l D a cI cS) yX4_newsKindOf cX4_newsKindOf 2 (some .int) 1 [Value.ref (a 12), Value.int x1] σ r := by
  refine enter (own := RX4) (o := f_X4_newsKindOf__12 σ x1) (plainFor_of_name (by decide +kernel)) rfl (Nat.le_of_ble_eq_true rfl) hI wk_X4_newsKindOf.1 h (fun Γ hRT => ?_)
  show G _ Γ _ _ _ _ _ _ σ [((0 : Nat), Value.ref (a 12)), ((1 : Nat), Value.int x1)] 0 []
  unfold f_X4_newsKindOf__12
  refine g_aload_n (pc := 0) 0 dX4_newsKindOf_0 rfl rfl ?_
  refine g_get (pc := 1) 12 cN_12 rfl inlX4 2 (by decide) bw_4_0 rfl dX4_newsKindOf_1 ?_
  refine g_iload_n (pc := 4) 1 dX4_newsKindOf_4 rfl rfl ?_
  refine g_cNi (pc := 5) (As := [Value.ref (a 15), Value.int x1]) (fun r2 h2 => k_X10_at__15 hI h2) wk_X10_at ws_X10_at nst_RX4_61 (by decide) (by decide) rfl rfl (Nat.le_of_ble_eq_true rfl) dX4_newsKindOf_5 (fun r2 s3 => ?_)
  exact g_iret (pc := 8) hRT dX4_newsKindOf_8
set_option maxRecDepth 100000 in
set_option maxHeartbeats 4000000 in
theorem k_X10_at__16 {l : Launch} {D : va_G} {a : Nat → Nat} {cI cS : ClassId} (hI : ∀ σ : St, va_D (AN a) (cN a cI cS σ)) {σ : St} {x1 : Int32} {r : Int32 × St} (h : f_X10_at__16 σ x1 = some r) : Kc (SN l D a cI cS) yX10_at cX10_at 2 (some .int) 0 [Value.ref (a 16), Value.int x1] σ r := by
  refine enter (own := RX10) (o := f_X10_at__16 σ x1) (plainFor_of_name (by decide +kernel)) rfl (Nat.le_of_ble_eq_true rfl) hI wk_X10_at.1 h (fun Γ hRT => ?_)
  show G _ Γ _ _ _ _ _ _ σ [((0 : Nat), Value.ref (a 16)), ((1 : Nat), Value.int x1)] 0 []
  unfold f_X10_at__16
  refine g_aload_n (pc := 0) 0 dX10_at_0 rfl rfl ?_
  refine g_ifnull (pc := 1) dX10_at_1 ?_
  refine g_jq0 (pc2 := 20) (lf := ([] : List (Nat × Value))) (sf := ([] : List Value)) (fun s3 => ?_) (fun k2 hk2 => ?_)
  · show G _ Γ _ _ _ _ _ _ s3 ([] : List (Nat × Value)) 20 ([] : List Value)
    refine g_iconst (pc := 20) (v := 0) dX10_at_20 (by decide) ?_
    exact g_iret (pc := 21) hRT dX10_at_21
  · refine g_iload_n (pc := 4) 1 dX10_at_4 rfl rfl ?_
    refine g_if_lt (pc := 5) (tgt := 20) dX10_at_5 (by decide) ?_ ?_
    · exact g_lv [] rfl (hk2 σ)
    · refine g_iload_n (pc := 8) 1 dX10_at_8 rfl rfl ?_
      refine g_aload_n (pc := 9) 0 dX10_at_9 rfl rfl ?_
      refine g_alen (pc := 10) 16 0 (v := 5) cN_16 rfl (show Int32.ofNat 5 = 5 by decide) dX10_at_10 ?_
      refine g_icmp_ge (pc := 11) (tgt := 20) dX10_at_11 (by decide) ?_ ?_
      · exact g_lv [] rfl (hk2 σ)
      · refine g_aload_n (pc := 14) 0 dX10_at_14 rfl rfl ?_
        refine g_iload_n (pc := 15) 1 dX10_at_15 rfl rfl ?_
        refine g_iald (pc := 16) 16 cN_16 rfl dX10_at_16 ?_
        refine g_goto (pc := 17) (tgt := 21) dX10_at_17 (by decide) ?_
        exact g_iret (pc := 21) hRT dX10_at_21
set_option maxRecDepth 100000 in
set_option maxHeartbeats 4000000 in
theorem k_X4_weightOf__12 {l : Launch} {D : va_G} {a : Nat → Nat} {cI cS : ClassId} (hI : ∀ σ : St, va_D (AN a) (cN a cI cS σ)) {σ : St} {x1 : Int32} {r : Int32 × St} (h : f_X4_weightOf__12 σ x1 = some r) : Kc (SN l D a cI cS) yX4_weightOf cX4_weightOf 2 (some .int) 1 [Value.ref (a 12), Value.int x1] σ r := by
  refine enter (own := RX4) (o := f_X4_weightOf__12 σ x1) (plainFor_of_name (by decide +kernel)) rfl (Nat.le_of_ble_eq_true rfl) hI wk_X4_weightOf.1 h (fun Γ hRT => ?_)
  show G _ Γ _ _ _ _ _ _ σ [((0 : Nat), Value.ref (a 12)), ((1 : Nat), Value.int x1)] 0 []
  unfold f_X4_weightOf__12
  refine g_aload_n (pc := 0) 0 dX4_weightOf_0 rfl rfl ?_
  refine g_get (pc := 1) 12 cN_12 rfl inlX4 3 (by decide) bw_4_1 rfl dX4_weightOf_1 ?_
  refine g_iload_n (pc := 4) 1 dX4_weightOf_4 rfl rfl ?_
  refine g_cNi (pc := 5) (As := [Value.ref (a 16), Value.int x1]) (fun r2 h2 => k_X10_at__16 hI h2) wk_X10_at ws_X10_at nst_RX4_61 (by decide) (by decide) rfl rfl (Nat.le_of_ble_eq_true rfl) dX4_weightOf_5 (fun r2 s3 => ?_)
  exact g_iret (pc := 8) hRT dX4_weightOf_8
set_option maxRecDepth 100000 in
set_option maxHeartbeats 4000000 in
theorem k_J6_bitCount_0f7a4 {l : Launch} {D : va_G} {a : Nat → Nat} {cI cS : ClassId} (hI : ∀ σ : St, va_D (AN a) (cN a cI cS σ)) {σ : St} {x1 : Int32} {r : Int32 × St} (h : f_J6_bitCount_0f7a4 σ x1 = some r) : Kc (SN l D a cI cS) yJ6_bitCount_0f7a4 cJ6_bitCount_0f7a4 1 (some .int) 0 [Value.int x1] σ r := by
  refine enter (own := RJ6) (o := f_J6_bitCount_0f7a4 σ x1) (by decide +kernel) rfl (Nat.le_of_ble_eq_true rfl) hI wk_J6_bitCount_0f7a4.1 h (fun Γ hRT => ?_)
  show G _ Γ _ _ _ _ _ _ σ [((0 : Nat), Value.int x1)] 0 []
  unfold f_J6_bitCount_0f7a4
  refine g_iload_n (pc := 0) 0 dJ6_bitCount_0f7a4_0 rfl rfl ?_
  refine g_iload_n (pc := 1) 0 dJ6_bitCount_0f7a4_1 rfl rfl ?_
  refine g_iconst (pc := 2) (v := 1) dJ6_bitCount_0f7a4_2 (by decide) ?_
  refine g_iushr (pc := 3) dJ6_bitCount_0f7a4_3 ?_
  refine g_ldcw (pc := 4) bw_21_21 dJ6_bitCount_0f7a4_4 ?_
  refine g_iand (pc := 7) dJ6_bitCount_0f7a4_7 ?_
  refine g_isub (pc := 8) dJ6_bitCount_0f7a4_8 ?_
  refine g_nm (fun x2 => ?_)
  refine g_istore_n (pc := 9) [0] (lv1 := [(0, Value.int x2)]) dJ6_bitCount_0f7a4_9 rfl (by decide) rfl ?_
  refine g_iload_n (pc := 10) 0 dJ6_bitCount_0f7a4_10 rfl rfl ?_
  refine g_ldcw (pc := 11) bw_21_22 dJ6_bitCount_0f7a4_11 ?_
  refine g_iand (pc := 14) dJ6_bitCount_0f7a4_14 ?_
  refine g_iload_n (pc := 15) 0 dJ6_bitCount_0f7a4_15 rfl rfl ?_
  refine g_iconst (pc := 16) (v := 2) dJ6_bitCount_0f7a4_16 (by decide) ?_
  refine g_iushr (pc := 17) dJ6_bitCount_0f7a4_17 ?_
  refine g_ldcw (pc := 18) bw_21_22 dJ6_bitCount_0f7a4_18 ?_
  refine g_iand (pc := 21) dJ6_bitCount_0f7a4_21 ?_
  refine g_iadd (pc := 22) dJ6_bitCount_0f7a4_22 ?_
  refine g_nm (fun x3 => ?_)
  refine g_istore_n (pc := 23) [0] (lv1 := [(0, Value.int x3)]) dJ6_bitCount_0f7a4_23 rfl (by decide) rfl ?_
  refine g_iload_n (pc := 24) 0 dJ6_bitCount_0f7a4_24 rfl rfl ?_
  refine g_iload_n (pc := 25) 0 dJ6_bitCount_0f7a4_25 rfl rfl ?_
  refine g_iconst (pc := 26) (v := 4) dJ6_bitCount_0f7a4_26 (by decide) ?_
  refine g_iushr (pc := 27) dJ6_bitCount_0f7a4_27 ?_
  refine g_iadd (pc := 28) dJ6_bitCount_0f7a4_28 ?_
  refine g_ldcw (pc := 29) bw_21_23 dJ6_bitCount_0f7a4_29 ?_
  refine g_iand (pc := 32) dJ6_bitCount_0f7a4_32 ?_
  refine g_nm (fun x4 => ?_)
  refine g_istore_n (pc := 33) [0] (lv1 := [(0, Value.int x4)]) dJ6_bitCount_0f7a4_33 rfl (by decide) rfl ?_
  refine g_iload_n (pc := 34) 0 dJ6_bitCount_0f7a4_34 rfl rfl ?_
  refine g_iload_n (pc := 35) 0 dJ6_bitCount_0f7a4_35 rfl rfl ?_
  refine g_bipush (pc := 36) (v := 8) dJ6_bitCount_0f7a4_36 (by decide) ?_
  refine g_iushr (pc := 38) dJ6_bitCount_0f7a4_38 ?_
  refine g_iadd (pc := 39) dJ6_bitCount_0f7a4_39 ?_
  refine g_nm (fun x5 => ?_)
  refine g_istore_n (pc := 40) [0] (lv1 := [(0, Value.int x5)]) dJ6_bitCount_0f7a4_40 rfl (by decide) rfl ?_
  refine g_iload_n (pc := 41) 0 dJ6_bitCount_0f7a4_41 rfl rfl ?_
  refine g_iload_n (pc := 42) 0 dJ6_bitCount_0f7a4_42 rfl rfl ?_
  refine g_bipush (pc := 43) (v := 16) dJ6_bitCount_0f7a4_43 (by decide) ?_
  refine g_iushr (pc := 45) dJ6_bitCount_0f7a4_45 ?_
  refine g_iadd (pc := 46) dJ6_bitCount_0f7a4_46 ?_
  refine g_nm (fun x6 => ?_)
  refine g_istore_n (pc := 47) [0] (lv1 := [(0, Value.int x6)]) dJ6_bitCount_0f7a4_47 rfl (by decide) rfl ?_
  refine g_iload_n (pc := 48) 0 dJ6_bitCount_0f7a4_48 rfl rfl ?_
  refine g_bipush (pc := 49) (v := 63) dJ6_bitCount_0f7a4_49 (by decide) ?_
  refine g_iand (pc := 51) dJ6_bitCount_0f7a4_51 ?_
  exact g_iret (pc := 52) hRT dJ6_bitCount_0f7a4_52
set_option maxRecDepth 100000 in
set_option maxHeartbeats 4000000 in
theorem k_X10_news__0 {l : Launch} {D : va_G} {a : Nat → Nat} {cI cS : ClassId} (hI : ∀ σ : St, va_D (AN a) (cN a cI cS σ)) {σ : St} {x1 x2 : Int32} {r : Int32 × St} (h : f_X10_news__0 σ x1 x2 = some r) : Kc (SN l D a cI cS) yX10_news cX10_news 3 (some .int) 2 [Value.ref (a 0), Value.int x1, Value.int x2] σ r := by
  refine enter (own := RX10) (o := f_X10_news__0 σ x1 x2) (plainFor_of_name (by decide +kernel)) rfl (Nat.le_of_ble_eq_true rfl) hI wk_X10_news.1 h (fun Γ hRT => ?_)
  show G _ Γ _ _ _ _ _ _ σ [((0 : Nat), Value.ref (a 0)), ((1 : Nat), Value.int x1), ((2 : Nat), Value.int x2)] 0 []
  unfold f_X10_news__0
  refine g_aload_n (pc := 0) 0 dX10_news_0 rfl rfl ?_
  refine g_get (pc := 1) 0 cN_0 rfl inlX10 3 (by decide) bw_2_0 rfl dX10_news_1 ?_
  refine g_iload_n (pc := 4) 1 dX10_news_4 rfl rfl ?_
  refine g_cVz (pc := 5) 12 (As := [Value.int x1]) (fun r2 h2 => k_X4_hasNews__12 hI h2) wk_X4_hasNews wv_X4_hasNews bw_21_6 cN_12 rfl (by decide) (by decide) rfl rfl (Nat.le_of_ble_eq_true rfl) dX10_news_5 (fun r3 s4 => ?_)
  refine g_if_ne (pc := 8) (tgt := 13) dX10_news_8 (by decide) ?_ ?_
  · refine g_iload_n (pc := 13) 2 dX10_news_13 rfl rfl ?_
    refine g_ite (fun e0_ => ?_) (fun e0_ => ?_)
    · refine g_tableIn (pc := 14) (off := 30) (tgt := 44) dX10_news_14 (by rw [e0_]; decide) (by rw [e0_]; decide) (by rw [e0_]; decide) (by decide) ?_
      refine g_aload_n (pc := 44) 0 dX10_news_44 rfl rfl ?_
      refine g_get (pc := 45) 0 cN_0 rfl inlX10 3 (by decide) bw_2_0 rfl dX10_news_45 ?_
      refine g_iload_n (pc := 48) 1 dX10_news_48 rfl rfl ?_
      refine g_cVi (pc := 49) 12 (As := [Value.int x1]) (fun r2 h2 => k_X4_newsKindOf__12 hI h2) wk_X4_newsKindOf wv_X4_newsKindOf bw_21_7 cN_12 rfl (by decide) (by decide) rfl rfl (Nat.le_of_ble_eq_true rfl) dX10_news_49 (fun r6 s7 => ?_)
      exact g_iret (pc := 52) hRT dX10_news_52
    · skip
      refine g_ite (fun e1_ => ?_) (fun e1_ => ?_)
      · refine g_tableIn (pc := 14) (off := 39) (tgt := 53) dX10_news_14 (by rw [e1_]; decide) (by rw [e1_]; decide) (by rw [e1_]; decide) (by decide) ?_
        refine g_aload_n (pc := 53) 0 dX10_news_53 rfl rfl ?_
        refine g_get (pc := 54) 0 cN_0 rfl inlX10 3 (by decide) bw_2_0 rfl dX10_news_54 ?_
        refine g_iload_n (pc := 57) 1 dX10_news_57 rfl rfl ?_
        refine g_cVi (pc := 58) 12 (As := [Value.int x1]) (fun r2 h2 => k_X4_weightOf__12 hI h2) wk_X4_weightOf wv_X4_weightOf bw_21_11 cN_12 rfl (by decide) (by decide) rfl rfl (Nat.le_of_ble_eq_true rfl) dX10_news_58 (fun r8 s9 => ?_)
        exact g_iret (pc := 61) hRT dX10_news_61
      · skip
        refine g_ite (fun e2_ => ?_) (fun e2_ => ?_)
        · refine g_tableIn (pc := 14) (off := 48) (tgt := 62) dX10_news_14 (by rw [e2_]; decide) (by rw [e2_]; decide) (by rw [e2_]; decide) (by decide) ?_
          refine g_aload_n (pc := 62) 0 dX10_news_62 rfl rfl ?_
          refine g_get (pc := 63) 0 cN_0 rfl inlX10 3 (by decide) bw_2_0 rfl dX10_news_63 ?_
          refine g_iload_n (pc := 66) 1 dX10_news_66 rfl rfl ?_
          refine g_cVi (pc := 67) 12 (As := [Value.int x1]) (fun r2 h2 => k_X4_beginningOf__12 hI h2) wk_X4_beginningOf wv_X4_beginningOf bw_21_15 cN_12 rfl (by decide) (by decide) rfl rfl (Nat.le_of_ble_eq_true rfl) dX10_news_67 (fun r10 s11 => ?_)
          exact g_iret (pc := 70) hRT dX10_news_70
        · skip
          refine g_ite (fun e3_ => ?_) (fun e3_ => ?_)
          · refine g_tableIn (pc := 14) (off := 57) (tgt := 71) dX10_news_14 (by rw [e3_]; decide) (by rw [e3_]; decide) (by rw [e3_]; decide) (by decide) ?_
            refine g_aload_n (pc := 71) 0 dX10_news_71 rfl rfl ?_
            refine g_get (pc := 72) 0 cN_0 rfl inlX10 4 (by decide) bw_2_4 rfl dX10_news_72 ?_
            refine g_iload_n (pc := 75) 1 dX10_news_75 rfl rfl ?_
            refine g_cVi (pc := 76) 19 (As := [Value.int x1]) (fun r2 h2 => k_X9_whoKnows__19 hI h2) wk_X9_whoKnows wv_X9_whoKnows bw_21_16 cN_19 rfl (by decide) (by decide) rfl rfl (Nat.le_of_ble_eq_true rfl) dX10_news_76 (fun r12 s13 => ?_)
            refine g_cSi (pc := 79) (As := [Value.int r12]) (fun r2 h2 => k_J6_bitCount_0f7a4 hI h2) wk_J6_bitCount_0f7a4 ws_J6_bitCount_0f7a4 bw_21_17 (by decide) (by decide) rfl rfl (Nat.le_of_ble_eq_true rfl) dX10_news_79 (fun r14 s15 => ?_)
            exact g_iret (pc := 82) hRT dX10_news_82
          · skip
            have hx_w5 : x2.toInt < 0 ∨ 3 < x2.toInt := by
              have n0_ : x2.toInt ≠ 0 := fun q => e0_ (Int32.toInt_inj.mp (q.trans (by decide)))
              have n1_ : x2.toInt ≠ 1 := fun q => e1_ (Int32.toInt_inj.mp (q.trans (by decide)))
              have n2_ : x2.toInt ≠ 2 := fun q => e2_ (Int32.toInt_inj.mp (q.trans (by decide)))
              have n3_ : x2.toInt ≠ 3 := fun q => e3_ (Int32.toInt_inj.mp (q.trans (by decide)))
              omega
            refine g_tableOut (pc := 14) (tgt := 83) dX10_news_14 hx_w5 (by decide) ?_
            refine g_iconst (pc := 83) (v := -1) dX10_news_83 (by decide) ?_
            exact g_iret (pc := 84) hRT dX10_news_84
  · refine g_iconst (pc := 11) (v := -1) dX10_news_11 (by decide) ?_
    exact g_iret (pc := 12) hRT dX10_news_12
set_option maxRecDepth 100000 in
set_option maxHeartbeats 4000000 in
theorem k_X9_stepsGone__19 {l : Launch} {D : va_G} {a : Nat → Nat} {cI cS : ClassId} (hI : ∀ σ : St, va_D (AN a) (cN a cI cS σ)) {σ : St} {r : Int32 × St} (h : f_X9_stepsGone__19 σ = some r) : Kc (SN l D a cI cS) yX9_stepsGone cX9_stepsGone 1 (some .int) 0 [Value.ref (a 19)] σ r := by
  refine enter (own := RX9) (o := f_X9_stepsGone__19 σ) (plainFor_of_name (by decide +kernel)) rfl (Nat.le_of_ble_eq_true rfl) hI wk_X9_stepsGone.1 h (fun Γ hRT => ?_)
  show G _ Γ _ _ _ _ _ _ σ [((0 : Nat), Value.ref (a 19))] 0 []
  unfold f_X9_stepsGone__19
  refine g_aload_n (pc := 0) 0 dX9_stepsGone_0 rfl rfl ?_
  refine g_get (pc := 1) 19 cN_19 rfl inlX9 2 (by decide) bw_4_16 rfl dX9_stepsGone_1 ?_
  exact g_iret (pc := 4) hRT dX9_stepsGone_4
set_option maxRecDepth 100000 in
set_option maxHeartbeats 4000000 in
theorem k_X4_windsInTurn__12 {l : Launch} {D : va_G} {a : Nat → Nat} {cI cS : ClassId} (hI : ∀ σ : St, va_D (AN a) (cN a cI cS σ)) {σ : St} {r : Int32 × St} (h : f_X4_windsInTurn__12 σ = some r) : Kc (SN l D a cI cS) yX4_windsInTurn cX4_windsInTurn 1 (some .int) 0 [Value.ref (a 12)] σ r := by
  refine enter (own := RX4) (o := f_X4_windsInTurn__12 σ) (plainFor_of_name (by decide +kernel)) rfl (Nat.le_of_ble_eq_true rfl) hI wk_X4_windsInTurn.1 h (fun Γ hRT => ?_)
  show G _ Γ _ _ _ _ _ _ σ [((0 : Nat), Value.ref (a 12))] 0 []
  unfold f_X4_windsInTurn__12
  refine g_aload_n (pc := 0) 0 dX4_windsInTurn_0 rfl rfl ?_
  refine g_get (pc := 1) 12 cN_12 rfl inlX4 11 (by decide) bw_4_9 rfl dX4_windsInTurn_1 ?_
  refine g_if_ne (pc := 4) (tgt := 11) dX4_windsInTurn_4 (by decide) ?_ ?_
  · refine g_aload_n (pc := 11) 0 dX4_windsInTurn_11 rfl rfl ?_
    refine g_get (pc := 12) 12 cN_12 rfl inlX4 11 (by decide) bw_4_9 rfl dX4_windsInTurn_12 ?_
    exact g_iret (pc := 15) hRT dX4_windsInTurn_15
  · refine g_iconst (pc := 7) (v := 1) dX4_windsInTurn_7 (by decide) ?_
    refine g_goto (pc := 8) (tgt := 15) dX4_windsInTurn_8 (by decide) ?_
    exact g_iret (pc := 15) hRT dX4_windsInTurn_15
set_option maxRecDepth 100000 in
set_option maxHeartbeats 4000000 in
theorem k_J9_floorMod_7cf53 {l : Launch} {D : va_G} {a : Nat → Nat} {cI cS : ClassId} (hI : ∀ σ : St, va_D (AN a) (cN a cI cS σ)) {σ : St} {x1 x2 : Int32} {r : Int32 × St} (h : f_J9_floorMod_7cf53 σ x1 x2 = some r) : Kc (SN l D a cI cS) yJ9_floorMod_7cf53 cJ9_floorMod_7cf53 3 (some .int) 0 [Value.int x1, Value.int x2] σ r := by
  refine enter (own := RJ9) (o := f_J9_floorMod_7cf53 σ x1 x2) (by decide +kernel) rfl (Nat.le_of_ble_eq_true rfl) hI wk_J9_floorMod_7cf53.1 h (fun Γ hRT => ?_)
  show G _ Γ _ _ _ _ _ _ σ [((0 : Nat), Value.int x1), ((1 : Nat), Value.int x2)] 0 []
  unfold f_J9_floorMod_7cf53
  refine g_iload_n (pc := 0) 0 dJ9_floorMod_7cf53_0 rfl rfl ?_
  refine g_iload_n (pc := 1) 1 dJ9_floorMod_7cf53_1 rfl rfl ?_
  refine g_irem (pc := 2) dJ9_floorMod_7cf53_2 ?_
  refine g_nm (fun x3 => ?_)
  refine g_istore_n (pc := 3) [1, 2, 0] (lv1 := [(0, Value.int x1), (1, Value.int x2), (2, Value.int x3)]) dJ9_floorMod_7cf53_3 rfl (by decide) rfl ?_
  refine g_iload_n (pc := 4) 0 dJ9_floorMod_7cf53_4 rfl rfl ?_
  refine g_iload_n (pc := 5) 1 dJ9_floorMod_7cf53_5 rfl rfl ?_
  refine g_ixor (pc := 6) dJ9_floorMod_7cf53_6 ?_
  refine g_if_ge (pc := 7) (tgt := 18) dJ9_floorMod_7cf53_7 (by decide) ?_ ?_
  · refine g_iload_n (pc := 18) 2 dJ9_floorMod_7cf53_18 rfl rfl ?_
    exact g_iret (pc := 19) hRT dJ9_floorMod_7cf53_19
  · refine g_iload_n (pc := 10) 2 dJ9_floorMod_7cf53_10 rfl rfl ?_
    refine g_if_eq (pc := 11) (tgt := 18) dJ9_floorMod_7cf53_11 (by decide) ?_ ?_
    · refine g_iload_n (pc := 18) 2 dJ9_floorMod_7cf53_18 rfl rfl ?_
      exact g_iret (pc := 19) hRT dJ9_floorMod_7cf53_19
    · refine g_iload_n (pc := 14) 2 dJ9_floorMod_7cf53_14 rfl rfl ?_
      refine g_iload_n (pc := 15) 1 dJ9_floorMod_7cf53_15 rfl rfl ?_
      refine g_iadd (pc := 16) dJ9_floorMod_7cf53_16 ?_
      exact g_iret (pc := 17) hRT dJ9_floorMod_7cf53_17
set_option maxRecDepth 100000 in
set_option maxHeartbeats 4000000 in
theorem k_X10_at__18 {l : Launch} {D : va_G} {a : Nat → Nat} {cI cS : ClassId} (hI : ∀ σ : St, va_D (AN a) (cN a cI cS σ)) {σ : St} {x1 : Int32} {r : Int32 × St} (h : f_X10_at__18 σ x1 = some r) : Kc (SN l D a cI cS) yX10_at cX10_at 2 (some .int) 0 [Value.ref (a 18), Value.int x1] σ r := by
  refine enter (own := RX10) (o := f_X10_at__18 σ x1) (plainFor_of_name (by decide +kernel)) rfl (Nat.le_of_ble_eq_true rfl) hI wk_X10_at.1 h (fun Γ hRT => ?_)
  show G _ Γ _ _ _ _ _ _ σ [((0 : Nat), Value.ref (a 18)), ((1 : Nat), Value.int x1)] 0 []
  unfold f_X10_at__18
  refine g_aload_n (pc := 0) 0 dX10_at_0 rfl rfl ?_
  refine g_ifnull (pc := 1) dX10_at_1 ?_
  refine g_jq0 (pc2 := 20) (lf := ([] : List (Nat × Value))) (sf := ([] : List Value)) (fun s3 => ?_) (fun k2 hk2 => ?_)
  · show G _ Γ _ _ _ _ _ _ s3 ([] : List (Nat × Value)) 20 ([] : List Value)
    refine g_iconst (pc := 20) (v := 0) dX10_at_20 (by decide) ?_
    exact g_iret (pc := 21) hRT dX10_at_21
  · refine g_iload_n (pc := 4) 1 dX10_at_4 rfl rfl ?_
    refine g_if_lt (pc := 5) (tgt := 20) dX10_at_5 (by decide) ?_ ?_
    · exact g_lv [] rfl (hk2 σ)
    · refine g_iload_n (pc := 8) 1 dX10_at_8 rfl rfl ?_
      refine g_aload_n (pc := 9) 0 dX10_at_9 rfl rfl ?_
      refine g_alen (pc := 10) 18 0 (v := 8) cN_18 rfl (show Int32.ofNat 8 = 8 by decide) dX10_at_10 ?_
      refine g_icmp_ge (pc := 11) (tgt := 20) dX10_at_11 (by decide) ?_ ?_
      · exact g_lv [] rfl (hk2 σ)
      · refine g_aload_n (pc := 14) 0 dX10_at_14 rfl rfl ?_
        refine g_iload_n (pc := 15) 1 dX10_at_15 rfl rfl ?_
        refine g_iald (pc := 16) 18 cN_18 rfl dX10_at_16 ?_
        refine g_goto (pc := 17) (tgt := 21) dX10_at_17 (by decide) ?_
        exact g_iret (pc := 21) hRT dX10_at_21
set_option maxRecDepth 100000 in
set_option maxHeartbeats 4000000 in
theorem k_X4_windOf__12 {l : Launch} {D : va_G} {a : Nat → Nat} {cI cS : ClassId} (hI : ∀ σ : St, va_D (AN a) (cN a cI cS σ)) {σ : St} {x1 : Int32} {r : Int32 × St} (h : f_X4_windOf__12 σ x1 = some r) : Kc (SN l D a cI cS) yX4_windOf cX4_windOf 3 (some .int) 1 [Value.ref (a 12), Value.int x1] σ r := by
  refine enter (own := RX4) (o := f_X4_windOf__12 σ x1) (plainFor_of_name (by decide +kernel)) rfl (Nat.le_of_ble_eq_true rfl) hI wk_X4_windOf.1 h (fun Γ hRT => ?_)
  show G _ Γ _ _ _ _ _ _ σ [((0 : Nat), Value.ref (a 12)), ((1 : Nat), Value.int x1)] 0 []
  unfold f_X4_windOf__12
  refine g_aload_n (pc := 0) 0 dX4_windOf_0 rfl rfl ?_
  refine g_cVi (pc := 1) 12 (As := []) (fun r2 h2 => k_X4_windsInTurn__12 hI h2) wk_X4_windsInTurn wv_X4_windsInTurn bw_22_23 cN_12 rfl (by decide) (by decide) rfl rfl (Nat.le_of_ble_eq_true rfl) dX4_windOf_1 (fun r2 s3 => ?_)
  refine g_istore_n (pc := 4) [1, 2, 0] (lv1 := [(0, Value.ref (a 12)), (1, Value.int x1), (2, Value.int r2)]) dX4_windOf_4 rfl (by decide) rfl ?_
  refine g_iload_n (pc := 5) 2 dX4_windOf_5 rfl rfl ?_
  refine g_if_le (pc := 6) (tgt := 24) dX4_windOf_6 (by decide) ?_ ?_
  · refine g_iconst (pc := 24) (v := 0) dX4_windOf_24 (by decide) ?_
    exact g_iret (pc := 25) hRT dX4_windOf_25
  · refine g_aload_n (pc := 9) 0 dX4_windOf_9 rfl rfl ?_
    refine g_get (pc := 10) 12 cN_12 rfl inlX4 5 (by decide) bw_4_3 rfl dX4_windOf_10 ?_
    refine g_iload_n (pc := 13) 1 dX4_windOf_13 rfl rfl ?_
    refine g_iload_n (pc := 14) 2 dX4_windOf_14 rfl rfl ?_
    refine g_cSi (pc := 15) (As := [Value.int x1, Value.int r2]) (fun r2 h2 => k_J9_floorMod_7cf53 hI h2) wk_J9_floorMod_7cf53 ws_J9_floorMod_7cf53 bw_23_3 (by decide) (by decide) rfl rfl (Nat.le_of_ble_eq_true rfl) dX4_windOf_15 (fun r4 s5 => ?_)
    refine g_cNi (pc := 18) (As := [Value.ref (a 18), Value.int r4]) (fun r2 h2 => k_X10_at__18 hI h2) wk_X10_at ws_X10_at nst_RX4_61 (by decide) (by decide) rfl rfl (Nat.le_of_ble_eq_true rfl) dX4_windOf_18 (fun r6 s7 => ?_)
    refine g_goto (pc := 21) (tgt := 25) dX4_windOf_21 (by decide) ?_
    exact g_iret (pc := 25) hRT dX4_windOf_25
set_option maxRecDepth 100000 in
set_option maxHeartbeats 4000000 in
theorem k_X10_wind__0 {l : Launch} {D : va_G} {a : Nat → Nat} {cI cS : ClassId} (hI : ∀ σ : St, va_D (AN a) (cN a cI cS σ)) {σ : St} {x1 : Int32} {r : Int32 × St} (h : f_X10_wind__0 σ x1 = some r) : Kc (SN l D a cI cS) yX10_wind cX10_wind 2 (some .int) 2 [Value.ref (a 0), Value.int x1] σ r := by
  refine enter (own := RX10) (o := f_X10_wind__0 σ x1) (plainFor_of_name (by decide +kernel)) rfl (Nat.le_of_ble_eq_true rfl) hI wk_X10_wind.1 h (fun Γ hRT => ?_)
  show G _ Γ _ _ _ _ _ _ σ [((0 : Nat), Value.ref (a 0)), ((1 : Nat), Value.int x1)] 0 []
  unfold f_X10_wind__0
  refine g_iload_n (pc := 0) 1 dX10_wind_0 rfl rfl ?_
  refine g_iconst (pc := 1) (v := 0) dX10_wind_1 (by decide) ?_
  refine g_bipush (pc := 2) (v := 99) dX10_wind_2 (by decide) ?_
  refine g_cSz (pc := 4) (As := [Value.int x1, Value.int (0 : Int32), Value.int (99 : Int32)]) (fun r2 h2 => k_X10_within hI h2) wk_X10_within ws_X10_within bw_12_4 (by decide) (by decide) rfl rfl (Nat.le_of_ble_eq_true rfl) dX10_wind_4 (fun r2 s3 => ?_)
  refine g_if_ne (pc := 7) (tgt := 12) dX10_wind_7 (by decide) ?_ ?_
  · refine g_aload_n (pc := 12) 0 dX10_wind_12 rfl rfl ?_
    refine g_get (pc := 13) 0 cN_0 rfl inlX10 3 (by decide) bw_2_0 rfl dX10_wind_13 ?_
    refine g_aload_n (pc := 16) 0 dX10_wind_16 rfl rfl ?_
    refine g_get (pc := 17) 0 cN_0 rfl inlX10 4 (by decide) bw_2_4 rfl dX10_wind_17 ?_
    refine g_cVi (pc := 20) 19 (As := []) (fun r2 h2 => k_X9_stepsGone__19 hI h2) wk_X9_stepsGone wv_X9_stepsGone bw_22_15 cN_19 rfl (by decide) (by decide) rfl rfl (Nat.le_of_ble_eq_true rfl) dX10_wind_20 (fun r4 s5 => ?_)
    refine g_iload_n (pc := 23) 1 dX10_wind_23 rfl rfl ?_
    refine g_iadd (pc := 24) dX10_wind_24 ?_
    refine g_cVi (pc := 25) 12 (As := [Value.int (r4 + x1)]) (fun r2 h2 => k_X4_windOf__12 hI h2) wk_X4_windOf wv_X4_windOf bw_22_19 cN_12 rfl (by decide) (by decide) rfl rfl (Nat.le_of_ble_eq_true rfl) dX10_wind_25 (fun r6 s7 => ?_)
    exact g_iret (pc := 28) hRT dX10_wind_28
  · refine g_iconst (pc := 10) (v := -1) dX10_wind_10 (by decide) ?_
    exact g_iret (pc := 11) hRT dX10_wind_11
set_option maxRecDepth 100000 in
set_option maxHeartbeats 4000000 in
theorem k_X5_placeOf__22 {l : Launch} {D : va_G} {a : Nat → Nat} {cI cS : ClassId} (hI : ∀ σ : St, va_D (AN a) (cN a cI cS σ)) {σ : St} {x1 : Int32} {r : Int32 × St} (h : f_X5_placeOf__22 σ x1 = some r) : Kc (SN l D a cI cS) yX5_placeOf cX5_placeOf 3 (some (.object "NewsDraughts$Standing")) 1 [Value.ref (a 22), Value.int x1] σ r := by
  refine enter (own := RX5) (o := f_X5_placeOf__22 σ x1) (plainFor_of_name (by decide +kernel)) rfl (Nat.le_of_ble_eq_true rfl) hI wk_X5_placeOf.1 h (fun Γ hRT => ?_)
  show G _ Γ _ _ _ _ _ _ σ [((0 : Nat), Value.ref (a 22)), ((1 : Nat), Value.int x1)] 0 []
  unfold f_X5_placeOf__22
  refine g_aload_n (pc := 0) 0 dX5_placeOf_0 rfl rfl ?_
  refine g_get (pc := 1) 22 cN_22 rfl inlX5 0 (by decide) bw_5_0 rfl dX5_placeOf_1 ?_
  refine g_alen (pc := 4) 23 1 (v := 8) cN_23 rfl (show Int32.ofNat 8 = 8 by decide) dX5_placeOf_4 ?_
  refine g_if_ne (pc := 5) (tgt := 10) dX5_placeOf_5 (by decide) ?_ ?_
  · refine g_jq0 (pc2 := 47) (lf := ([] : List (Nat × Value))) (sf := ([] : List Value)) (fun s3 => ?_) (fun k2 hk2 => ?_)
    · show G _ Γ _ _ _ _ _ _ s3 ([] : List (Nat × Value)) 47 ([] : List Value)
      exact g_none
    · refine g_aload_n (pc := 10) 0 dX5_placeOf_10 rfl rfl ?_
      refine g_get (pc := 11) 22 cN_22 rfl inlX5 1 (by decide) bw_4_21 rfl dX5_placeOf_11 ?_
      refine g_iload_n (pc := 14) 1 dX5_placeOf_14 rfl rfl ?_
      refine g_iadd (pc := 15) dX5_placeOf_15 ?_
      refine g_aload_n (pc := 16) 0 dX5_placeOf_16 rfl rfl ?_
      refine g_get (pc := 17) 22 cN_22 rfl inlX5 0 (by decide) bw_5_0 rfl dX5_placeOf_17 ?_
      refine g_alen (pc := 20) 23 1 (v := 8) cN_23 rfl (show Int32.ofNat 8 = 8 by decide) dX5_placeOf_20 ?_
      refine g_cSi (pc := 21) (As := [Value.int ((σ 22 1) + x1), Value.int (8 : Int32)]) (fun r2 h2 => k_J9_floorMod_7cf53 hI h2) wk_J9_floorMod_7cf53 ws_J9_floorMod_7cf53 bw_24_3 (by decide) (by decide) rfl rfl (Nat.le_of_ble_eq_true rfl) dX5_placeOf_21 (fun r4 s5 => ?_)
      refine g_istore_n (pc := 24) [1, 2, 0] (lv1 := [(0, Value.ref (a 22)), (1, Value.int x1), (2, Value.int r4)]) dX5_placeOf_24 rfl (by decide) rfl ?_
      refine g_iload_n (pc := 25) 2 dX5_placeOf_25 rfl rfl ?_
      refine g_if_lt (pc := 26) (tgt := 47) dX5_placeOf_26 (by decide) ?_ ?_
      · exact g_lv [] rfl (hk2 s5)
      · refine g_iload_n (pc := 29) 2 dX5_placeOf_29 rfl rfl ?_
        refine g_aload_n (pc := 30) 0 dX5_placeOf_30 rfl rfl ?_
        refine g_get (pc := 31) 22 cN_22 rfl inlX5 0 (by decide) bw_5_0 rfl dX5_placeOf_31 ?_
        refine g_alen (pc := 34) 23 1 (v := 8) cN_23 rfl (show Int32.ofNat 8 = 8 by decide) dX5_placeOf_34 ?_
        refine g_icmp_ge (pc := 35) (tgt := 47) dX5_placeOf_35 (by decide) ?_ ?_
        · exact g_lv [] rfl (hk2 s5)
        · refine g_aload_n (pc := 38) 0 dX5_placeOf_38 rfl rfl ?_
          refine g_get (pc := 39) 22 cN_22 rfl inlX5 0 (by decide) bw_5_0 rfl dX5_placeOf_39 ?_
          refine g_iload_n (pc := 42) 2 dX5_placeOf_42 rfl rfl ?_
          refine g_ite (fun e0_ => ?_) (fun e0_ => ?_)
          · refine g_aald (pc := 43) 23 1 (v := Value.ref (a 24)) cN_23 rfl (by rw [e0_]; unfold vp_in; decide) (by rw [e0_]; rfl) dX5_placeOf_43 ?_
            refine g_goto (pc := 44) (tgt := 48) dX5_placeOf_44 (by decide) ?_
            exact g_aret (pc := 48) hRT dX5_placeOf_48 _ (pqv_24 (a := a)).symm
          · skip
            refine g_ite (fun e1_ => ?_) (fun e1_ => ?_)
            · refine g_aald (pc := 43) 23 1 (v := Value.ref (a 27)) cN_23 rfl (by rw [e1_]; unfold vp_in; decide) (by rw [e1_]; rfl) dX5_placeOf_43 ?_
              refine g_goto (pc := 44) (tgt := 48) dX5_placeOf_44 (by decide) ?_
              exact g_aret (pc := 48) hRT dX5_placeOf_48 _ (pqv_27 (a := a)).symm
            · skip
              refine g_ite (fun e2_ => ?_) (fun e2_ => ?_)
              · refine g_aald (pc := 43) 23 1 (v := Value.ref (a 30)) cN_23 rfl (by rw [e2_]; unfold vp_in; decide) (by rw [e2_]; rfl) dX5_placeOf_43 ?_
                refine g_goto (pc := 44) (tgt := 48) dX5_placeOf_44 (by decide) ?_
                exact g_aret (pc := 48) hRT dX5_placeOf_48 _ (pqv_30 (a := a)).symm
              · skip
                refine g_ite (fun e3_ => ?_) (fun e3_ => ?_)
                · refine g_aald (pc := 43) 23 1 (v := Value.ref (a 33)) cN_23 rfl (by rw [e3_]; unfold vp_in; decide) (by rw [e3_]; rfl) dX5_placeOf_43 ?_
                  refine g_goto (pc := 44) (tgt := 48) dX5_placeOf_44 (by decide) ?_
                  exact g_aret (pc := 48) hRT dX5_placeOf_48 _ (pqv_33 (a := a)).symm
                · skip
                  refine g_ite (fun e4_ => ?_) (fun e4_ => ?_)
                  · refine g_aald (pc := 43) 23 1 (v := Value.ref (a 36)) cN_23 rfl (by rw [e4_]; unfold vp_in; decide) (by rw [e4_]; rfl) dX5_placeOf_43 ?_
                    refine g_goto (pc := 44) (tgt := 48) dX5_placeOf_44 (by decide) ?_
                    exact g_aret (pc := 48) hRT dX5_placeOf_48 _ (pqv_36 (a := a)).symm
                  · skip
                    refine g_ite (fun e5_ => ?_) (fun e5_ => ?_)
                    · refine g_aald (pc := 43) 23 1 (v := Value.ref (a 39)) cN_23 rfl (by rw [e5_]; unfold vp_in; decide) (by rw [e5_]; rfl) dX5_placeOf_43 ?_
                      refine g_goto (pc := 44) (tgt := 48) dX5_placeOf_44 (by decide) ?_
                      exact g_aret (pc := 48) hRT dX5_placeOf_48 _ (pqv_39 (a := a)).symm
                    · skip
                      refine g_ite (fun e6_ => ?_) (fun e6_ => ?_)
                      · refine g_aald (pc := 43) 23 1 (v := Value.ref (a 42)) cN_23 rfl (by rw [e6_]; unfold vp_in; decide) (by rw [e6_]; rfl) dX5_placeOf_43 ?_
                        refine g_goto (pc := 44) (tgt := 48) dX5_placeOf_44 (by decide) ?_
                        exact g_aret (pc := 48) hRT dX5_placeOf_48 _ (pqv_42 (a := a)).symm
                      · skip
                        refine g_ite (fun e7_ => ?_) (fun e7_ => ?_)
                        · refine g_aald (pc := 43) 23 1 (v := Value.ref (a 45)) cN_23 rfl (by rw [e7_]; unfold vp_in; decide) (by rw [e7_]; rfl) dX5_placeOf_43 ?_
                          refine g_goto (pc := 44) (tgt := 48) dX5_placeOf_44 (by decide) ?_
                          exact g_aret (pc := 48) hRT dX5_placeOf_48 _ (pqv_45 (a := a)).symm
                        · skip
                          exact g_none
  · exact g_none
set_option maxRecDepth 100000 in
set_option maxHeartbeats 4000000 in
theorem k_X10_copy__20_25 {l : Launch} {D : va_G} {a : Nat → Nat} {cI cS : ClassId} (hI : ∀ σ : St, va_D (AN a) (cN a cI cS σ)) {σ : St} {r : Int32 × St} (h : f_X10_copy__20_25 σ = some r) : Kc (SN l D a cI cS) yX10_copy cX10_copy 3 none 1 [Value.ref (a 20), Value.ref (a 25)] σ r := by
  refine enter (own := RX10) (o := f_X10_copy__20_25 σ) (plainFor_of_name (by decide +kernel)) rfl (Nat.le_of_ble_eq_true rfl) hI wk_X10_copy.1 h (fun Γ hRT => ?_)
  show G _ Γ _ _ _ _ _ _ σ [((0 : Nat), Value.ref (a 20)), ((1 : Nat), Value.ref (a 25))] 0 []
  unfold f_X10_copy__20_25
  refine g_iconst (pc := 0) (v := 0) dX10_copy_0 (by decide) ?_
  refine g_istore_n (pc := 1) [1, 2, 0] (lv1 := [(0, Value.ref (a 20)), (1, Value.ref (a 25)), (2, Value.int (0 : Int32))]) dX10_copy_1 rfl (by decide) rfl ?_
  refine g_lq1 (pc := 2) (lf := fun x2 => [((0 : Nat), Value.ref (a 20)), ((1 : Nat), Value.ref (a 25)), ((2 : Nat), Value.int x2)]) (sf := fun x2 => ([] : List Value)) (fun k1 hk1 s3 x2 => ?_) 100000 σ _
  show G _ Γ _ _ _ _ _ _ s3 [((0 : Nat), Value.ref (a 20)), ((1 : Nat), Value.ref (a 25)), ((2 : Nat), Value.int x2)] 2 ([] : List Value)
  refine g_aload_n (pc := 2) 1 dX10_copy_2 rfl rfl ?_
  refine g_ifnull (pc := 3) dX10_copy_3 ?_
  refine g_iload_n (pc := 6) 2 dX10_copy_6 rfl rfl ?_
  refine g_aload_n (pc := 7) 1 dX10_copy_7 rfl rfl ?_
  refine g_alen (pc := 8) 25 0 (v := 16) cN_25 rfl (show Int32.ofNat 16 = 16 by decide) dX10_copy_8 ?_
  refine g_icmp_ge (pc := 9) (tgt := 26) dX10_copy_9 (by decide) ?_ ?_
  · exact g_vret (pc := 26) hRT dX10_copy_26
  · refine g_aload_n (pc := 12) 1 dX10_copy_12 rfl rfl ?_
    refine g_iload_n (pc := 13) 2 dX10_copy_13 rfl rfl ?_
    refine g_aload_n (pc := 14) 0 dX10_copy_14 rfl rfl ?_
    refine g_iload_n (pc := 15) 2 dX10_copy_15 rfl rfl ?_
    refine g_cSi (pc := 16) (As := [Value.ref (a 20), Value.int x2]) (fun r2 h2 => k_X10_at__20 hI h2) wk_X10_at ws_X10_at bw_24_10 (by decide) (by decide) rfl rfl (Nat.le_of_ble_eq_true rfl) dX10_copy_16 (fun r4 s5 => ?_)
    refine g_iast (pc := 19) 25 cN_25 rfl cN_s25 dX10_copy_19 (fun s6 => ?_)
    refine g_iinc (pc := 20) [1, 2, 0] 2 (n1 := 1) (lv1 := fun x7 => [(0, Value.ref (a 20)), (1, Value.ref (a 25)), (2, Value.int x7)]) dX10_copy_20 rfl (by decide) (by decide) (fun _ => rfl) (fun x7 => ?_)
    show G _ Γ _ _ _ _ _ _ _ [(0, Value.ref (a 20)), (1, Value.ref (a 25)), (2, Value.int x7)] (20 + 3) _
    refine g_goto (pc := 23) (tgt := 2) dX10_copy_23 (by decide) ?_
    exact hk1 s6 _
set_option maxRecDepth 100000 in
set_option maxHeartbeats 4000000 in
theorem k_X10_copy__21_26 {l : Launch} {D : va_G} {a : Nat → Nat} {cI cS : ClassId} (hI : ∀ σ : St, va_D (AN a) (cN a cI cS σ)) {σ : St} {r : Int32 × St} (h : f_X10_copy__21_26 σ = some r) : Kc (SN l D a cI cS) yX10_copy cX10_copy 3 none 1 [Value.ref (a 21), Value.ref (a 26)] σ r := by
  refine enter (own := RX10) (o := f_X10_copy__21_26 σ) (plainFor_of_name (by decide +kernel)) rfl (Nat.le_of_ble_eq_true rfl) hI wk_X10_copy.1 h (fun Γ hRT => ?_)
  show G _ Γ _ _ _ _ _ _ σ [((0 : Nat), Value.ref (a 21)), ((1 : Nat), Value.ref (a 26))] 0 []
  unfold f_X10_copy__21_26
  refine g_iconst (pc := 0) (v := 0) dX10_copy_0 (by decide) ?_
  refine g_istore_n (pc := 1) [1, 2, 0] (lv1 := [(0, Value.ref (a 21)), (1, Value.ref (a 26)), (2, Value.int (0 : Int32))]) dX10_copy_1 rfl (by decide) rfl ?_
  refine g_lq1 (pc := 2) (lf := fun x2 => [((0 : Nat), Value.ref (a 21)), ((1 : Nat), Value.ref (a 26)), ((2 : Nat), Value.int x2)]) (sf := fun x2 => ([] : List Value)) (fun k1 hk1 s3 x2 => ?_) 100000 σ _
  show G _ Γ _ _ _ _ _ _ s3 [((0 : Nat), Value.ref (a 21)), ((1 : Nat), Value.ref (a 26)), ((2 : Nat), Value.int x2)] 2 ([] : List Value)
  refine g_aload_n (pc := 2) 1 dX10_copy_2 rfl rfl ?_
  refine g_ifnull (pc := 3) dX10_copy_3 ?_
  refine g_iload_n (pc := 6) 2 dX10_copy_6 rfl rfl ?_
  refine g_aload_n (pc := 7) 1 dX10_copy_7 rfl rfl ?_
  refine g_alen (pc := 8) 26 0 (v := 5) cN_26 rfl (show Int32.ofNat 5 = 5 by decide) dX10_copy_8 ?_
  refine g_icmp_ge (pc := 9) (tgt := 26) dX10_copy_9 (by decide) ?_ ?_
  · exact g_vret (pc := 26) hRT dX10_copy_26
  · refine g_aload_n (pc := 12) 1 dX10_copy_12 rfl rfl ?_
    refine g_iload_n (pc := 13) 2 dX10_copy_13 rfl rfl ?_
    refine g_aload_n (pc := 14) 0 dX10_copy_14 rfl rfl ?_
    refine g_iload_n (pc := 15) 2 dX10_copy_15 rfl rfl ?_
    refine g_cSi (pc := 16) (As := [Value.ref (a 21), Value.int x2]) (fun r2 h2 => k_X10_at__21 hI h2) wk_X10_at ws_X10_at bw_24_10 (by decide) (by decide) rfl rfl (Nat.le_of_ble_eq_true rfl) dX10_copy_16 (fun r4 s5 => ?_)
    refine g_iast (pc := 19) 26 cN_26 rfl cN_s26 dX10_copy_19 (fun s6 => ?_)
    refine g_iinc (pc := 20) [1, 2, 0] 2 (n1 := 1) (lv1 := fun x7 => [(0, Value.ref (a 21)), (1, Value.ref (a 26)), (2, Value.int x7)]) dX10_copy_20 rfl (by decide) (by decide) (fun _ => rfl) (fun x7 => ?_)
    show G _ Γ _ _ _ _ _ _ _ [(0, Value.ref (a 21)), (1, Value.ref (a 26)), (2, Value.int x7)] (20 + 3) _
    refine g_goto (pc := 23) (tgt := 2) dX10_copy_23 (by decide) ?_
    exact hk1 s6 _
set_option maxRecDepth 100000 in
set_option maxHeartbeats 4000000 in
theorem k_X9_copyOf__24_19 {l : Launch} {D : va_G} {a : Nat → Nat} {cI cS : ClassId} (hI : ∀ σ : St, va_D (AN a) (cN a cI cS σ)) {σ : St} {r : Int32 × St} (h : f_X9_copyOf__24_19 σ = some r) : Kc (SN l D a cI cS) yX9_copyOf cX9_copyOf 2 none 2 [Value.ref (a 24), Value.ref (a 19)] σ r := by
  refine enter (own := RX9) (o := f_X9_copyOf__24_19 σ) (plainFor_of_name (by decide +kernel)) rfl (Nat.le_of_ble_eq_true rfl) hI wk_X9_copyOf.1 h (fun Γ hRT => ?_)
  show G _ Γ _ _ _ _ _ _ σ [((0 : Nat), Value.ref (a 24)), ((1 : Nat), Value.ref (a 19))] 0 []
  unfold f_X9_copyOf__24_19
  refine g_aload_n (pc := 0) 1 dX9_copyOf_0 rfl rfl ?_
  refine g_get (pc := 1) 19 cN_19 rfl inlX9 0 (by decide) bw_4_14 rfl dX9_copyOf_1 ?_
  refine g_aload_n (pc := 4) 0 dX9_copyOf_4 rfl rfl ?_
  refine g_get (pc := 5) 24 cN_24 rfl inlX9 0 (by decide) bw_4_14 rfl dX9_copyOf_5 ?_
  refine g_cNv (pc := 8) (As := [Value.ref (a 20), Value.ref (a 25)]) (fun r2 h2 => k_X10_copy__20_25 hI h2) wk_X10_copy ws_X10_copy nst_RX9_42 (by decide) (by decide) rfl rfl (Nat.le_of_ble_eq_true rfl) dX9_copyOf_8 (fun r1 s2 => ?_)
  refine g_aload_n (pc := 11) 1 dX9_copyOf_11 rfl rfl ?_
  refine g_get (pc := 12) 19 cN_19 rfl inlX9 1 (by decide) bw_4_15 rfl dX9_copyOf_12 ?_
  refine g_aload_n (pc := 15) 0 dX9_copyOf_15 rfl rfl ?_
  refine g_get (pc := 16) 24 cN_24 rfl inlX9 1 (by decide) bw_4_15 rfl dX9_copyOf_16 ?_
  refine g_cNv (pc := 19) (As := [Value.ref (a 21), Value.ref (a 26)]) (fun r2 h2 => k_X10_copy__21_26 hI h2) wk_X10_copy ws_X10_copy nst_RX9_42 (by decide) (by decide) rfl rfl (Nat.le_of_ble_eq_true rfl) dX9_copyOf_19 (fun r3 s4 => ?_)
  refine g_aload_n (pc := 22) 0 dX9_copyOf_22 rfl rfl ?_
  refine g_aload_n (pc := 23) 1 dX9_copyOf_23 rfl rfl ?_
  refine g_get (pc := 24) 19 cN_19 rfl inlX9 2 (by decide) bw_4_16 rfl dX9_copyOf_24 ?_
  refine g_put (pc := 27) 24 (ty := .int) cN_24 rfl inlX9 tyX9_ok nmX9 2 (by decide) bw_4_16 rfl (by decide +kernel) rfl rfl (Nat.le_of_ble_eq_true rfl) cN_f24_2 dX9_copyOf_27 (fun s5 => ?_)
  exact g_vret (pc := 30) hRT dX9_copyOf_30
set_option maxRecDepth 100000 in
set_option maxHeartbeats 4000000 in
theorem k_X5_isFull__22 {l : Launch} {D : va_G} {a : Nat → Nat} {cI cS : ClassId} (hI : ∀ σ : St, va_D (AN a) (cN a cI cS σ)) {σ : St} {r : Int32 × St} (h : f_X5_isFull__22 σ = some r) : Kc (SN l D a cI cS) yX5_isFull cX5_isFull 1 (some .boolean) 0 [Value.ref (a 22)] σ r := by
  refine enter (own := RX5) (o := f_X5_isFull__22 σ) (plainFor_of_name (by decide +kernel)) rfl (Nat.le_of_ble_eq_true rfl) hI wk_X5_isFull.1 h (fun Γ hRT => ?_)
  show G _ Γ _ _ _ _ _ _ σ [((0 : Nat), Value.ref (a 22))] 0 []
  unfold f_X5_isFull__22
  refine g_aload_n (pc := 0) 0 dX5_isFull_0 rfl rfl ?_
  refine g_get (pc := 1) 22 cN_22 rfl inlX5 2 (by decide) bw_4_22 rfl dX5_isFull_1 ?_
  refine g_aload_n (pc := 4) 0 dX5_isFull_4 rfl rfl ?_
  refine g_get (pc := 5) 22 cN_22 rfl inlX5 0 (by decide) bw_5_0 rfl dX5_isFull_5 ?_
  refine g_alen (pc := 8) 23 1 (v := 8) cN_23 rfl (show Int32.ofNat 8 = 8 by decide) dX5_isFull_8 ?_
  refine g_icmp_ne (pc := 9) (tgt := 16) dX5_isFull_9 (by decide) ?_ ?_
  · refine g_iconst (pc := 16) (v := 0) dX5_isFull_16 (by decide) ?_
    exact g_zret1 (pc := 17) hRT (by decide) dX5_isFull_17
  · refine g_iconst (pc := 12) (v := 1) dX5_isFull_12 (by decide) ?_
    refine g_goto (pc := 13) (tgt := 17) dX5_isFull_13 (by decide) ?_
    exact g_zret1 (pc := 17) hRT (by decide) dX5_isFull_17
set_option maxRecDepth 100000 in
set_option maxHeartbeats 4000000 in
theorem k_X10_copy__20_28 {l : Launch} {D : va_G} {a : Nat → Nat} {cI cS : ClassId} (hI : ∀ σ : St, va_D (AN a) (cN a cI cS σ)) {σ : St} {r : Int32 × St} (h : f_X10_copy__20_28 σ = some r) : Kc (SN l D a cI cS) yX10_copy cX10_copy 3 none 1 [Value.ref (a 20), Value.ref (a 28)] σ r := by
  refine enter (own := RX10) (o := f_X10_copy__20_28 σ) (plainFor_of_name (by decide +kernel)) rfl (Nat.le_of_ble_eq_true rfl) hI wk_X10_copy.1 h (fun Γ hRT => ?_)
  show G _ Γ _ _ _ _ _ _ σ [((0 : Nat), Value.ref (a 20)), ((1 : Nat), Value.ref (a 28))] 0 []
  unfold f_X10_copy__20_28
  refine g_iconst (pc := 0) (v := 0) dX10_copy_0 (by decide) ?_
  refine g_istore_n (pc := 1) [1, 2, 0] (lv1 := [(0, Value.ref (a 20)), (1, Value.ref (a 28)), (2, Value.int (0 : Int32))]) dX10_copy_1 rfl (by decide) rfl ?_
  refine g_lq1 (pc := 2) (lf := fun x2 => [((0 : Nat), Value.ref (a 20)), ((1 : Nat), Value.ref (a 28)), ((2 : Nat), Value.int x2)]) (sf := fun x2 => ([] : List Value)) (fun k1 hk1 s3 x2 => ?_) 100000 σ _
  show G _ Γ _ _ _ _ _ _ s3 [((0 : Nat), Value.ref (a 20)), ((1 : Nat), Value.ref (a 28)), ((2 : Nat), Value.int x2)] 2 ([] : List Value)
  refine g_aload_n (pc := 2) 1 dX10_copy_2 rfl rfl ?_
  refine g_ifnull (pc := 3) dX10_copy_3 ?_
  refine g_iload_n (pc := 6) 2 dX10_copy_6 rfl rfl ?_
  refine g_aload_n (pc := 7) 1 dX10_copy_7 rfl rfl ?_
  refine g_alen (pc := 8) 28 0 (v := 16) cN_28 rfl (show Int32.ofNat 16 = 16 by decide) dX10_copy_8 ?_
  refine g_icmp_ge (pc := 9) (tgt := 26) dX10_copy_9 (by decide) ?_ ?_
  · exact g_vret (pc := 26) hRT dX10_copy_26
  · refine g_aload_n (pc := 12) 1 dX10_copy_12 rfl rfl ?_
    refine g_iload_n (pc := 13) 2 dX10_copy_13 rfl rfl ?_
    refine g_aload_n (pc := 14) 0 dX10_copy_14 rfl rfl ?_
    refine g_iload_n (pc := 15) 2 dX10_copy_15 rfl rfl ?_
    refine g_cSi (pc := 16) (As := [Value.ref (a 20), Value.int x2]) (fun r2 h2 => k_X10_at__20 hI h2) wk_X10_at ws_X10_at bw_24_10 (by decide) (by decide) rfl rfl (Nat.le_of_ble_eq_true rfl) dX10_copy_16 (fun r4 s5 => ?_)
    refine g_iast (pc := 19) 28 cN_28 rfl cN_s28 dX10_copy_19 (fun s6 => ?_)
    refine g_iinc (pc := 20) [1, 2, 0] 2 (n1 := 1) (lv1 := fun x7 => [(0, Value.ref (a 20)), (1, Value.ref (a 28)), (2, Value.int x7)]) dX10_copy_20 rfl (by decide) (by decide) (fun _ => rfl) (fun x7 => ?_)
    show G _ Γ _ _ _ _ _ _ _ [(0, Value.ref (a 20)), (1, Value.ref (a 28)), (2, Value.int x7)] (20 + 3) _
    refine g_goto (pc := 23) (tgt := 2) dX10_copy_23 (by decide) ?_
    exact hk1 s6 _
set_option maxRecDepth 100000 in
set_option maxHeartbeats 4000000 in
theorem k_X10_copy__21_29 {l : Launch} {D : va_G} {a : Nat → Nat} {cI cS : ClassId} (hI : ∀ σ : St, va_D (AN a) (cN a cI cS σ)) {σ : St} {r : Int32 × St} (h : f_X10_copy__21_29 σ = some r) : Kc (SN l D a cI cS) yX10_copy cX10_copy 3 none 1 [Value.ref (a 21), Value.ref (a 29)] σ r := by
  refine enter (own := RX10) (o := f_X10_copy__21_29 σ) (plainFor_of_name (by decide +kernel)) rfl (Nat.le_of_ble_eq_true rfl) hI wk_X10_copy.1 h (fun Γ hRT => ?_)
  show G _ Γ _ _ _ _ _ _ σ [((0 : Nat), Value.ref (a 21)), ((1 : Nat), Value.ref (a 29))] 0 []
  unfold f_X10_copy__21_29
  refine g_iconst (pc := 0) (v := 0) dX10_copy_0 (by decide) ?_
  refine g_istore_n (pc := 1) [1, 2, 0] (lv1 := [(0, Value.ref (a 21)), (1, Value.ref (a 29)), (2, Value.int (0 : Int32))]) dX10_copy_1 rfl (by decide) rfl ?_
  refine g_lq1 (pc := 2) (lf := fun x2 => [((0 : Nat), Value.ref (a 21)), ((1 : Nat), Value.ref (a 29)), ((2 : Nat), Value.int x2)]) (sf := fun x2 => ([] : List Value)) (fun k1 hk1 s3 x2 => ?_) 100000 σ _
  show G _ Γ _ _ _ _ _ _ s3 [((0 : Nat), Value.ref (a 21)), ((1 : Nat), Value.ref (a 29)), ((2 : Nat), Value.int x2)] 2 ([] : List Value)
  refine g_aload_n (pc := 2) 1 dX10_copy_2 rfl rfl ?_
  refine g_ifnull (pc := 3) dX10_copy_3 ?_
  refine g_iload_n (pc := 6) 2 dX10_copy_6 rfl rfl ?_
  refine g_aload_n (pc := 7) 1 dX10_copy_7 rfl rfl ?_
  refine g_alen (pc := 8) 29 0 (v := 5) cN_29 rfl (show Int32.ofNat 5 = 5 by decide) dX10_copy_8 ?_
  refine g_icmp_ge (pc := 9) (tgt := 26) dX10_copy_9 (by decide) ?_ ?_
  · exact g_vret (pc := 26) hRT dX10_copy_26
  · refine g_aload_n (pc := 12) 1 dX10_copy_12 rfl rfl ?_
    refine g_iload_n (pc := 13) 2 dX10_copy_13 rfl rfl ?_
    refine g_aload_n (pc := 14) 0 dX10_copy_14 rfl rfl ?_
    refine g_iload_n (pc := 15) 2 dX10_copy_15 rfl rfl ?_
    refine g_cSi (pc := 16) (As := [Value.ref (a 21), Value.int x2]) (fun r2 h2 => k_X10_at__21 hI h2) wk_X10_at ws_X10_at bw_24_10 (by decide) (by decide) rfl rfl (Nat.le_of_ble_eq_true rfl) dX10_copy_16 (fun r4 s5 => ?_)
    refine g_iast (pc := 19) 29 cN_29 rfl cN_s29 dX10_copy_19 (fun s6 => ?_)
    refine g_iinc (pc := 20) [1, 2, 0] 2 (n1 := 1) (lv1 := fun x7 => [(0, Value.ref (a 21)), (1, Value.ref (a 29)), (2, Value.int x7)]) dX10_copy_20 rfl (by decide) (by decide) (fun _ => rfl) (fun x7 => ?_)
    show G _ Γ _ _ _ _ _ _ _ [(0, Value.ref (a 21)), (1, Value.ref (a 29)), (2, Value.int x7)] (20 + 3) _
    refine g_goto (pc := 23) (tgt := 2) dX10_copy_23 (by decide) ?_
    exact hk1 s6 _
set_option maxRecDepth 100000 in
set_option maxHeartbeats 4000000 in
theorem k_X9_copyOf__27_19 {l : Launch} {D : va_G} {a : Nat → Nat} {cI cS : ClassId} (hI : ∀ σ : St, va_D (AN a) (cN a cI cS σ)) {σ : St} {r : Int32 × St} (h : f_X9_copyOf__27_19 σ = some r) : Kc (SN l D a cI cS) yX9_copyOf cX9_copyOf 2 none 2 [Value.ref (a 27), Value.ref (a 19)] σ r := by
  refine enter (own := RX9) (o := f_X9_copyOf__27_19 σ) (plainFor_of_name (by decide +kernel)) rfl (Nat.le_of_ble_eq_true rfl) hI wk_X9_copyOf.1 h (fun Γ hRT => ?_)
  show G _ Γ _ _ _ _ _ _ σ [((0 : Nat), Value.ref (a 27)), ((1 : Nat), Value.ref (a 19))] 0 []
  unfold f_X9_copyOf__27_19
  refine g_aload_n (pc := 0) 1 dX9_copyOf_0 rfl rfl ?_
  refine g_get (pc := 1) 19 cN_19 rfl inlX9 0 (by decide) bw_4_14 rfl dX9_copyOf_1 ?_
  refine g_aload_n (pc := 4) 0 dX9_copyOf_4 rfl rfl ?_
  refine g_get (pc := 5) 27 cN_27 rfl inlX9 0 (by decide) bw_4_14 rfl dX9_copyOf_5 ?_
  refine g_cNv (pc := 8) (As := [Value.ref (a 20), Value.ref (a 28)]) (fun r2 h2 => k_X10_copy__20_28 hI h2) wk_X10_copy ws_X10_copy nst_RX9_42 (by decide) (by decide) rfl rfl (Nat.le_of_ble_eq_true rfl) dX9_copyOf_8 (fun r1 s2 => ?_)
  refine g_aload_n (pc := 11) 1 dX9_copyOf_11 rfl rfl ?_
  refine g_get (pc := 12) 19 cN_19 rfl inlX9 1 (by decide) bw_4_15 rfl dX9_copyOf_12 ?_
  refine g_aload_n (pc := 15) 0 dX9_copyOf_15 rfl rfl ?_
  refine g_get (pc := 16) 27 cN_27 rfl inlX9 1 (by decide) bw_4_15 rfl dX9_copyOf_16 ?_
  refine g_cNv (pc := 19) (As := [Value.ref (a 21), Value.ref (a 29)]) (fun r2 h2 => k_X10_copy__21_29 hI h2) wk_X10_copy ws_X10_copy nst_RX9_42 (by decide) (by decide) rfl rfl (Nat.le_of_ble_eq_true rfl) dX9_copyOf_19 (fun r3 s4 => ?_)
  refine g_aload_n (pc := 22) 0 dX9_copyOf_22 rfl rfl ?_
  refine g_aload_n (pc := 23) 1 dX9_copyOf_23 rfl rfl ?_
  refine g_get (pc := 24) 19 cN_19 rfl inlX9 2 (by decide) bw_4_16 rfl dX9_copyOf_24 ?_
  refine g_put (pc := 27) 27 (ty := .int) cN_27 rfl inlX9 tyX9_ok nmX9 2 (by decide) bw_4_16 rfl (by decide +kernel) rfl rfl (Nat.le_of_ble_eq_true rfl) cN_f27_2 dX9_copyOf_27 (fun s5 => ?_)
  exact g_vret (pc := 30) hRT dX9_copyOf_30
set_option maxRecDepth 100000 in
set_option maxHeartbeats 4000000 in
theorem k_X10_copy__20_31 {l : Launch} {D : va_G} {a : Nat → Nat} {cI cS : ClassId} (hI : ∀ σ : St, va_D (AN a) (cN a cI cS σ)) {σ : St} {r : Int32 × St} (h : f_X10_copy__20_31 σ = some r) : Kc (SN l D a cI cS) yX10_copy cX10_copy 3 none 1 [Value.ref (a 20), Value.ref (a 31)] σ r := by
  refine enter (own := RX10) (o := f_X10_copy__20_31 σ) (plainFor_of_name (by decide +kernel)) rfl (Nat.le_of_ble_eq_true rfl) hI wk_X10_copy.1 h (fun Γ hRT => ?_)
  show G _ Γ _ _ _ _ _ _ σ [((0 : Nat), Value.ref (a 20)), ((1 : Nat), Value.ref (a 31))] 0 []
  unfold f_X10_copy__20_31
  refine g_iconst (pc := 0) (v := 0) dX10_copy_0 (by decide) ?_
  refine g_istore_n (pc := 1) [1, 2, 0] (lv1 := [(0, Value.ref (a 20)), (1, Value.ref (a 31)), (2, Value.int (0 : Int32))]) dX10_copy_1 rfl (by decide) rfl ?_
  refine g_lq1 (pc := 2) (lf := fun x2 => [((0 : Nat), Value.ref (a 20)), ((1 : Nat), Value.ref (a 31)), ((2 : Nat), Value.int x2)]) (sf := fun x2 => ([] : List Value)) (fun k1 hk1 s3 x2 => ?_) 100000 σ _
  show G _ Γ _ _ _ _ _ _ s3 [((0 : Nat), Value.ref (a 20)), ((1 : Nat), Value.ref (a 31)), ((2 : Nat), Value.int x2)] 2 ([] : List Value)
  refine g_aload_n (pc := 2) 1 dX10_copy_2 rfl rfl ?_
  refine g_ifnull (pc := 3) dX10_copy_3 ?_
  refine g_iload_n (pc := 6) 2 dX10_copy_6 rfl rfl ?_
  refine g_aload_n (pc := 7) 1 dX10_copy_7 rfl rfl ?_
  refine g_alen (pc := 8) 31 0 (v := 16) cN_31 rfl (show Int32.ofNat 16 = 16 by decide) dX10_copy_8 ?_
  refine g_icmp_ge (pc := 9) (tgt := 26) dX10_copy_9 (by decide) ?_ ?_
  · exact g_vret (pc := 26) hRT dX10_copy_26
  · refine g_aload_n (pc := 12) 1 dX10_copy_12 rfl rfl ?_
    refine g_iload_n (pc := 13) 2 dX10_copy_13 rfl rfl ?_
    refine g_aload_n (pc := 14) 0 dX10_copy_14 rfl rfl ?_
    refine g_iload_n (pc := 15) 2 dX10_copy_15 rfl rfl ?_
    refine g_cSi (pc := 16) (As := [Value.ref (a 20), Value.int x2]) (fun r2 h2 => k_X10_at__20 hI h2) wk_X10_at ws_X10_at bw_24_10 (by decide) (by decide) rfl rfl (Nat.le_of_ble_eq_true rfl) dX10_copy_16 (fun r4 s5 => ?_)
    refine g_iast (pc := 19) 31 cN_31 rfl cN_s31 dX10_copy_19 (fun s6 => ?_)
    refine g_iinc (pc := 20) [1, 2, 0] 2 (n1 := 1) (lv1 := fun x7 => [(0, Value.ref (a 20)), (1, Value.ref (a 31)), (2, Value.int x7)]) dX10_copy_20 rfl (by decide) (by decide) (fun _ => rfl) (fun x7 => ?_)
    show G _ Γ _ _ _ _ _ _ _ [(0, Value.ref (a 20)), (1, Value.ref (a 31)), (2, Value.int x7)] (20 + 3) _
    refine g_goto (pc := 23) (tgt := 2) dX10_copy_23 (by decide) ?_
    exact hk1 s6 _
set_option maxRecDepth 100000 in
set_option maxHeartbeats 4000000 in
theorem k_X10_copy__21_32 {l : Launch} {D : va_G} {a : Nat → Nat} {cI cS : ClassId} (hI : ∀ σ : St, va_D (AN a) (cN a cI cS σ)) {σ : St} {r : Int32 × St} (h : f_X10_copy__21_32 σ = some r) : Kc (SN l D a cI cS) yX10_copy cX10_copy 3 none 1 [Value.ref (a 21), Value.ref (a 32)] σ r := by
  refine enter (own := RX10) (o := f_X10_copy__21_32 σ) (plainFor_of_name (by decide +kernel)) rfl (Nat.le_of_ble_eq_true rfl) hI wk_X10_copy.1 h (fun Γ hRT => ?_)
  show G _ Γ _ _ _ _ _ _ σ [((0 : Nat), Value.ref (a 21)), ((1 : Nat), Value.ref (a 32))] 0 []
  unfold f_X10_copy__21_32
  refine g_iconst (pc := 0) (v := 0) dX10_copy_0 (by decide) ?_
  refine g_istore_n (pc := 1) [1, 2, 0] (lv1 := [(0, Value.ref (a 21)), (1, Value.ref (a 32)), (2, Value.int (0 : Int32))]) dX10_copy_1 rfl (by decide) rfl ?_
  refine g_lq1 (pc := 2) (lf := fun x2 => [((0 : Nat), Value.ref (a 21)), ((1 : Nat), Value.ref (a 32)), ((2 : Nat), Value.int x2)]) (sf := fun x2 => ([] : List Value)) (fun k1 hk1 s3 x2 => ?_) 100000 σ _
  show G _ Γ _ _ _ _ _ _ s3 [((0 : Nat), Value.ref (a 21)), ((1 : Nat), Value.ref (a 32)), ((2 : Nat), Value.int x2)] 2 ([] : List Value)
  refine g_aload_n (pc := 2) 1 dX10_copy_2 rfl rfl ?_
  refine g_ifnull (pc := 3) dX10_copy_3 ?_
  refine g_iload_n (pc := 6) 2 dX10_copy_6 rfl rfl ?_
  refine g_aload_n (pc := 7) 1 dX10_copy_7 rfl rfl ?_
  refine g_alen (pc := 8) 32 0 (v := 5) cN_32 rfl (show Int32.ofNat 5 = 5 by decide) dX10_copy_8 ?_
  refine g_icmp_ge (pc := 9) (tgt := 26) dX10_copy_9 (by decide) ?_ ?_
  · exact g_vret (pc := 26) hRT dX10_copy_26
  · refine g_aload_n (pc := 12) 1 dX10_copy_12 rfl rfl ?_
    refine g_iload_n (pc := 13) 2 dX10_copy_13 rfl rfl ?_
    refine g_aload_n (pc := 14) 0 dX10_copy_14 rfl rfl ?_
    refine g_iload_n (pc := 15) 2 dX10_copy_15 rfl rfl ?_
    refine g_cSi (pc := 16) (As := [Value.ref (a 21), Value.int x2]) (fun r2 h2 => k_X10_at__21 hI h2) wk_X10_at ws_X10_at bw_24_10 (by decide) (by decide) rfl rfl (Nat.le_of_ble_eq_true rfl) dX10_copy_16 (fun r4 s5 => ?_)
    refine g_iast (pc := 19) 32 cN_32 rfl cN_s32 dX10_copy_19 (fun s6 => ?_)
    refine g_iinc (pc := 20) [1, 2, 0] 2 (n1 := 1) (lv1 := fun x7 => [(0, Value.ref (a 21)), (1, Value.ref (a 32)), (2, Value.int x7)]) dX10_copy_20 rfl (by decide) (by decide) (fun _ => rfl) (fun x7 => ?_)
    show G _ Γ _ _ _ _ _ _ _ [(0, Value.ref (a 21)), (1, Value.ref (a 32)), (2, Value.int x7)] (20 + 3) _
    refine g_goto (pc := 23) (tgt := 2) dX10_copy_23 (by decide) ?_
    exact hk1 s6 _
set_option maxRecDepth 100000 in
set_option maxHeartbeats 4000000 in
theorem k_X9_copyOf__30_19 {l : Launch} {D : va_G} {a : Nat → Nat} {cI cS : ClassId} (hI : ∀ σ : St, va_D (AN a) (cN a cI cS σ)) {σ : St} {r : Int32 × St} (h : f_X9_copyOf__30_19 σ = some r) : Kc (SN l D a cI cS) yX9_copyOf cX9_copyOf 2 none 2 [Value.ref (a 30), Value.ref (a 19)] σ r := by
  refine enter (own := RX9) (o := f_X9_copyOf__30_19 σ) (plainFor_of_name (by decide +kernel)) rfl (Nat.le_of_ble_eq_true rfl) hI wk_X9_copyOf.1 h (fun Γ hRT => ?_)
  show G _ Γ _ _ _ _ _ _ σ [((0 : Nat), Value.ref (a 30)), ((1 : Nat), Value.ref (a 19))] 0 []
  unfold f_X9_copyOf__30_19
  refine g_aload_n (pc := 0) 1 dX9_copyOf_0 rfl rfl ?_
  refine g_get (pc := 1) 19 cN_19 rfl inlX9 0 (by decide) bw_4_14 rfl dX9_copyOf_1 ?_
  refine g_aload_n (pc := 4) 0 dX9_copyOf_4 rfl rfl ?_
  refine g_get (pc := 5) 30 cN_30 rfl inlX9 0 (by decide) bw_4_14 rfl dX9_copyOf_5 ?_
  refine g_cNv (pc := 8) (As := [Value.ref (a 20), Value.ref (a 31)]) (fun r2 h2 => k_X10_copy__20_31 hI h2) wk_X10_copy ws_X10_copy nst_RX9_42 (by decide) (by decide) rfl rfl (Nat.le_of_ble_eq_true rfl) dX9_copyOf_8 (fun r1 s2 => ?_)
  refine g_aload_n (pc := 11) 1 dX9_copyOf_11 rfl rfl ?_
  refine g_get (pc := 12) 19 cN_19 rfl inlX9 1 (by decide) bw_4_15 rfl dX9_copyOf_12 ?_
  refine g_aload_n (pc := 15) 0 dX9_copyOf_15 rfl rfl ?_
  refine g_get (pc := 16) 30 cN_30 rfl inlX9 1 (by decide) bw_4_15 rfl dX9_copyOf_16 ?_
  refine g_cNv (pc := 19) (As := [Value.ref (a 21), Value.ref (a 32)]) (fun r2 h2 => k_X10_copy__21_32 hI h2) wk_X10_copy ws_X10_copy nst_RX9_42 (by decide) (by decide) rfl rfl (Nat.le_of_ble_eq_true rfl) dX9_copyOf_19 (fun r3 s4 => ?_)
  refine g_aload_n (pc := 22) 0 dX9_copyOf_22 rfl rfl ?_
  refine g_aload_n (pc := 23) 1 dX9_copyOf_23 rfl rfl ?_
  refine g_get (pc := 24) 19 cN_19 rfl inlX9 2 (by decide) bw_4_16 rfl dX9_copyOf_24 ?_
  refine g_put (pc := 27) 30 (ty := .int) cN_30 rfl inlX9 tyX9_ok nmX9 2 (by decide) bw_4_16 rfl (by decide +kernel) rfl rfl (Nat.le_of_ble_eq_true rfl) cN_f30_2 dX9_copyOf_27 (fun s5 => ?_)
  exact g_vret (pc := 30) hRT dX9_copyOf_30
set_option maxRecDepth 100000 in
set_option maxHeartbeats 4000000 in
theorem k_X10_copy__20_34 {l : Launch} {D : va_G} {a : Nat → Nat} {cI cS : ClassId} (hI : ∀ σ : St, va_D (AN a) (cN a cI cS σ)) {σ : St} {r : Int32 × St} (h : f_X10_copy__20_34 σ = some r) : Kc (SN l D a cI cS) yX10_copy cX10_copy 3 none 1 [Value.ref (a 20), Value.ref (a 34)] σ r := by
  refine enter (own := RX10) (o := f_X10_copy__20_34 σ) (plainFor_of_name (by decide +kernel)) rfl (Nat.le_of_ble_eq_true rfl) hI wk_X10_copy.1 h (fun Γ hRT => ?_)
  show G _ Γ _ _ _ _ _ _ σ [((0 : Nat), Value.ref (a 20)), ((1 : Nat), Value.ref (a 34))] 0 []
  unfold f_X10_copy__20_34
  refine g_iconst (pc := 0) (v := 0) dX10_copy_0 (by decide) ?_
  refine g_istore_n (pc := 1) [1, 2, 0] (lv1 := [(0, Value.ref (a 20)), (1, Value.ref (a 34)), (2, Value.int (0 : Int32))]) dX10_copy_1 rfl (by decide) rfl ?_
  refine g_lq1 (pc := 2) (lf := fun x2 => [((0 : Nat), Value.ref (a 20)), ((1 : Nat), Value.ref (a 34)), ((2 : Nat), Value.int x2)]) (sf := fun x2 => ([] : List Value)) (fun k1 hk1 s3 x2 => ?_) 100000 σ _
  show G _ Γ _ _ _ _ _ _ s3 [((0 : Nat), Value.ref (a 20)), ((1 : Nat), Value.ref (a 34)), ((2 : Nat), Value.int x2)] 2 ([] : List Value)
  refine g_aload_n (pc := 2) 1 dX10_copy_2 rfl rfl ?_
  refine g_ifnull (pc := 3) dX10_copy_3 ?_
  refine g_iload_n (pc := 6) 2 dX10_copy_6 rfl rfl ?_
  refine g_aload_n (pc := 7) 1 dX10_copy_7 rfl rfl ?_
  refine g_alen (pc := 8) 34 0 (v := 16) cN_34 rfl (show Int32.ofNat 16 = 16 by decide) dX10_copy_8 ?_
  refine g_icmp_ge (pc := 9) (tgt := 26) dX10_copy_9 (by decide) ?_ ?_
  · exact g_vret (pc := 26) hRT dX10_copy_26
  · refine g_aload_n (pc := 12) 1 dX10_copy_12 rfl rfl ?_
    refine g_iload_n (pc := 13) 2 dX10_copy_13 rfl rfl ?_
    refine g_aload_n (pc := 14) 0 dX10_copy_14 rfl rfl ?_
    refine g_iload_n (pc := 15) 2 dX10_copy_15 rfl rfl ?_
    refine g_cSi (pc := 16) (As := [Value.ref (a 20), Value.int x2]) (fun r2 h2 => k_X10_at__20 hI h2) wk_X10_at ws_X10_at bw_24_10 (by decide) (by decide) rfl rfl (Nat.le_of_ble_eq_true rfl) dX10_copy_16 (fun r4 s5 => ?_)
    refine g_iast (pc := 19) 34 cN_34 rfl cN_s34 dX10_copy_19 (fun s6 => ?_)
    refine g_iinc (pc := 20) [1, 2, 0] 2 (n1 := 1) (lv1 := fun x7 => [(0, Value.ref (a 20)), (1, Value.ref (a 34)), (2, Value.int x7)]) dX10_copy_20 rfl (by decide) (by decide) (fun _ => rfl) (fun x7 => ?_)
    show G _ Γ _ _ _ _ _ _ _ [(0, Value.ref (a 20)), (1, Value.ref (a 34)), (2, Value.int x7)] (20 + 3) _
    refine g_goto (pc := 23) (tgt := 2) dX10_copy_23 (by decide) ?_
    exact hk1 s6 _
set_option maxRecDepth 100000 in
set_option maxHeartbeats 4000000 in
theorem k_X10_copy__21_35 {l : Launch} {D : va_G} {a : Nat → Nat} {cI cS : ClassId} (hI : ∀ σ : St, va_D (AN a) (cN a cI cS σ)) {σ : St} {r : Int32 × St} (h : f_X10_copy__21_35 σ = some r) : Kc (SN l D a cI cS) yX10_copy cX10_copy 3 none 1 [Value.ref (a 21), Value.ref (a 35)] σ r := by
  refine enter (own := RX10) (o := f_X10_copy__21_35 σ) (plainFor_of_name (by decide +kernel)) rfl (Nat.le_of_ble_eq_true rfl) hI wk_X10_copy.1 h (fun Γ hRT => ?_)
  show G _ Γ _ _ _ _ _ _ σ [((0 : Nat), Value.ref (a 21)), ((1 : Nat), Value.ref (a 35))] 0 []
  unfold f_X10_copy__21_35
  refine g_iconst (pc := 0) (v := 0) dX10_copy_0 (by decide) ?_
  refine g_istore_n (pc := 1) [1, 2, 0] (lv1 := [(0, Value.ref (a 21)), (1, Value.ref (a 35)), (2, Value.int (0 : Int32))]) dX10_copy_1 rfl (by decide) rfl ?_
  refine g_lq1 (pc := 2) (lf := fun x2 => [((0 : Nat), Value.ref (a 21)), ((1 : Nat), Value.ref (a 35)), ((2 : Nat), Value.int x2)]) (sf := fun x2 => ([] : List Value)) (fun k1 hk1 s3 x2 => ?_) 100000 σ _
  show G _ Γ _ _ _ _ _ _ s3 [((0 : Nat), Value.ref (a 21)), ((1 : Nat), Value.ref (a 35)), ((2 : Nat), Value.int x2)] 2 ([] : List Value)
  refine g_aload_n (pc := 2) 1 dX10_copy_2 rfl rfl ?_
  refine g_ifnull (pc := 3) dX10_copy_3 ?_
  refine g_iload_n (pc := 6) 2 dX10_copy_6 rfl rfl ?_
  refine g_aload_n (pc := 7) 1 dX10_copy_7 rfl rfl ?_
  refine g_alen (pc := 8) 35 0 (v := 5) cN_35 rfl (show Int32.ofNat 5 = 5 by decide) dX10_copy_8 ?_
  refine g_icmp_ge (pc := 9) (tgt := 26) dX10_copy_9 (by decide) ?_ ?_
  · exact g_vret (pc := 26) hRT dX10_copy_26
  · refine g_aload_n (pc := 12) 1 dX10_copy_12 rfl rfl ?_
    refine g_iload_n (pc := 13) 2 dX10_copy_13 rfl rfl ?_
    refine g_aload_n (pc := 14) 0 dX10_copy_14 rfl rfl ?_
    refine g_iload_n (pc := 15) 2 dX10_copy_15 rfl rfl ?_
    refine g_cSi (pc := 16) (As := [Value.ref (a 21), Value.int x2]) (fun r2 h2 => k_X10_at__21 hI h2) wk_X10_at ws_X10_at bw_24_10 (by decide) (by decide) rfl rfl (Nat.le_of_ble_eq_true rfl) dX10_copy_16 (fun r4 s5 => ?_)
    refine g_iast (pc := 19) 35 cN_35 rfl cN_s35 dX10_copy_19 (fun s6 => ?_)
    refine g_iinc (pc := 20) [1, 2, 0] 2 (n1 := 1) (lv1 := fun x7 => [(0, Value.ref (a 21)), (1, Value.ref (a 35)), (2, Value.int x7)]) dX10_copy_20 rfl (by decide) (by decide) (fun _ => rfl) (fun x7 => ?_)
    show G _ Γ _ _ _ _ _ _ _ [(0, Value.ref (a 21)), (1, Value.ref (a 35)), (2, Value.int x7)] (20 + 3) _
    refine g_goto (pc := 23) (tgt := 2) dX10_copy_23 (by decide) ?_
    exact hk1 s6 _
set_option maxRecDepth 100000 in
set_option maxHeartbeats 4000000 in
theorem k_X9_copyOf__33_19 {l : Launch} {D : va_G} {a : Nat → Nat} {cI cS : ClassId} (hI : ∀ σ : St, va_D (AN a) (cN a cI cS σ)) {σ : St} {r : Int32 × St} (h : f_X9_copyOf__33_19 σ = some r) : Kc (SN l D a cI cS) yX9_copyOf cX9_copyOf 2 none 2 [Value.ref (a 33), Value.ref (a 19)] σ r := by
  refine enter (own := RX9) (o := f_X9_copyOf__33_19 σ) (plainFor_of_name (by decide +kernel)) rfl (Nat.le_of_ble_eq_true rfl) hI wk_X9_copyOf.1 h (fun Γ hRT => ?_)
  show G _ Γ _ _ _ _ _ _ σ [((0 : Nat), Value.ref (a 33)), ((1 : Nat), Value.ref (a 19))] 0 []
  unfold f_X9_copyOf__33_19
  refine g_aload_n (pc := 0) 1 dX9_copyOf_0 rfl rfl ?_
  refine g_get (pc := 1) 19 cN_19 rfl inlX9 0 (by decide) bw_4_14 rfl dX9_copyOf_1 ?_
  refine g_aload_n (pc := 4) 0 dX9_copyOf_4 rfl rfl ?_
  refine g_get (pc := 5) 33 cN_33 rfl inlX9 0 (by decide) bw_4_14 rfl dX9_copyOf_5 ?_
  refine g_cNv (pc := 8) (As := [Value.ref (a 20), Value.ref (a 34)]) (fun r2 h2 => k_X10_copy__20_34 hI h2) wk_X10_copy ws_X10_copy nst_RX9_42 (by decide) (by decide) rfl rfl (Nat.le_of_ble_eq_true rfl) dX9_copyOf_8 (fun r1 s2 => ?_)
  refine g_aload_n (pc := 11) 1 dX9_copyOf_11 rfl rfl ?_
  refine g_get (pc := 12) 19 cN_19 rfl inlX9 1 (by decide) bw_4_15 rfl dX9_copyOf_12 ?_
  refine g_aload_n (pc := 15) 0 dX9_copyOf_15 rfl rfl ?_
  refine g_get (pc := 16) 33 cN_33 rfl inlX9 1 (by decide) bw_4_15 rfl dX9_copyOf_16 ?_
  refine g_cNv (pc := 19) (As := [Value.ref (a 21), Value.ref (a 35)]) (fun r2 h2 => k_X10_copy__21_35 hI h2) wk_X10_copy ws_X10_copy nst_RX9_42 (by decide) (by decide) rfl rfl (Nat.le_of_ble_eq_true rfl) dX9_copyOf_19 (fun r3 s4 => ?_)
  refine g_aload_n (pc := 22) 0 dX9_copyOf_22 rfl rfl ?_
  refine g_aload_n (pc := 23) 1 dX9_copyOf_23 rfl rfl ?_
  refine g_get (pc := 24) 19 cN_19 rfl inlX9 2 (by decide) bw_4_16 rfl dX9_copyOf_24 ?_
  refine g_put (pc := 27) 33 (ty := .int) cN_33 rfl inlX9 tyX9_ok nmX9 2 (by decide) bw_4_16 rfl (by decide +kernel) rfl rfl (Nat.le_of_ble_eq_true rfl) cN_f33_2 dX9_copyOf_27 (fun s5 => ?_)
  exact g_vret (pc := 30) hRT dX9_copyOf_30
set_option maxRecDepth 100000 in
set_option maxHeartbeats 4000000 in
theorem k_X10_copy__20_37 {l : Launch} {D : va_G} {a : Nat → Nat} {cI cS : ClassId} (hI : ∀ σ : St, va_D (AN a) (cN a cI cS σ)) {σ : St} {r : Int32 × St} (h : f_X10_copy__20_37 σ = some r) : Kc (SN l D a cI cS) yX10_copy cX10_copy 3 none 1 [Value.ref (a 20), Value.ref (a 37)] σ r := by
  refine enter (own := RX10) (o := f_X10_copy__20_37 σ) (plainFor_of_name (by decide +kernel)) rfl (Nat.le_of_ble_eq_true rfl) hI wk_X10_copy.1 h (fun Γ hRT => ?_)
  show G _ Γ _ _ _ _ _ _ σ [((0 : Nat), Value.ref (a 20)), ((1 : Nat), Value.ref (a 37))] 0 []
  unfold f_X10_copy__20_37
  refine g_iconst (pc := 0) (v := 0) dX10_copy_0 (by decide) ?_
  refine g_istore_n (pc := 1) [1, 2, 0] (lv1 := [(0, Value.ref (a 20)), (1, Value.ref (a 37)), (2, Value.int (0 : Int32))]) dX10_copy_1 rfl (by decide) rfl ?_
  refine g_lq1 (pc := 2) (lf := fun x2 => [((0 : Nat), Value.ref (a 20)), ((1 : Nat), Value.ref (a 37)), ((2 : Nat), Value.int x2)]) (sf := fun x2 => ([] : List Value)) (fun k1 hk1 s3 x2 => ?_) 100000 σ _
  show G _ Γ _ _ _ _ _ _ s3 [((0 : Nat), Value.ref (a 20)), ((1 : Nat), Value.ref (a 37)), ((2 : Nat), Value.int x2)] 2 ([] : List Value)
  refine g_aload_n (pc := 2) 1 dX10_copy_2 rfl rfl ?_
  refine g_ifnull (pc := 3) dX10_copy_3 ?_
  refine g_iload_n (pc := 6) 2 dX10_copy_6 rfl rfl ?_
  refine g_aload_n (pc := 7) 1 dX10_copy_7 rfl rfl ?_
  refine g_alen (pc := 8) 37 0 (v := 16) cN_37 rfl (show Int32.ofNat 16 = 16 by decide) dX10_copy_8 ?_
  refine g_icmp_ge (pc := 9) (tgt := 26) dX10_copy_9 (by decide) ?_ ?_
  · exact g_vret (pc := 26) hRT dX10_copy_26
  · refine g_aload_n (pc := 12) 1 dX10_copy_12 rfl rfl ?_
    refine g_iload_n (pc := 13) 2 dX10_copy_13 rfl rfl ?_
    refine g_aload_n (pc := 14) 0 dX10_copy_14 rfl rfl ?_
    refine g_iload_n (pc := 15) 2 dX10_copy_15 rfl rfl ?_
    refine g_cSi (pc := 16) (As := [Value.ref (a 20), Value.int x2]) (fun r2 h2 => k_X10_at__20 hI h2) wk_X10_at ws_X10_at bw_24_10 (by decide) (by decide) rfl rfl (Nat.le_of_ble_eq_true rfl) dX10_copy_16 (fun r4 s5 => ?_)
    refine g_iast (pc := 19) 37 cN_37 rfl cN_s37 dX10_copy_19 (fun s6 => ?_)
    refine g_iinc (pc := 20) [1, 2, 0] 2 (n1 := 1) (lv1 := fun x7 => [(0, Value.ref (a 20)), (1, Value.ref (a 37)), (2, Value.int x7)]) dX10_copy_20 rfl (by decide) (by decide) (fun _ => rfl) (fun x7 => ?_)
    show G _ Γ _ _ _ _ _ _ _ [(0, Value.ref (a 20)), (1, Value.ref (a 37)), (2, Value.int x7)] (20 + 3) _
    refine g_goto (pc := 23) (tgt := 2) dX10_copy_23 (by decide) ?_
    exact hk1 s6 _
set_option maxRecDepth 100000 in
set_option maxHeartbeats 4000000 in
theorem k_X10_copy__21_38 {l : Launch} {D : va_G} {a : Nat → Nat} {cI cS : ClassId} (hI : ∀ σ : St, va_D (AN a) (cN a cI cS σ)) {σ : St} {r : Int32 × St} (h : f_X10_copy__21_38 σ = some r) : Kc (SN l D a cI cS) yX10_copy cX10_copy 3 none 1 [Value.ref (a 21), Value.ref (a 38)] σ r := by
  refine enter (own := RX10) (o := f_X10_copy__21_38 σ) (plainFor_of_name (by decide +kernel)) rfl (Nat.le_of_ble_eq_true rfl) hI wk_X10_copy.1 h (fun Γ hRT => ?_)
  show G _ Γ _ _ _ _ _ _ σ [((0 : Nat), Value.ref (a 21)), ((1 : Nat), Value.ref (a 38))] 0 []
  unfold f_X10_copy__21_38
  refine g_iconst (pc := 0) (v := 0) dX10_copy_0 (by decide) ?_
  refine g_istore_n (pc := 1) [1, 2, 0] (lv1 := [(0, Value.ref (a 21)), (1, Value.ref (a 38)), (2, Value.int (0 : Int32))]) dX10_copy_1 rfl (by decide) rfl ?_
  refine g_lq1 (pc := 2) (lf := fun x2 => [((0 : Nat), Value.ref (a 21)), ((1 : Nat), Value.ref (a 38)), ((2 : Nat), Value.int x2)]) (sf := fun x2 => ([] : List Value)) (fun k1 hk1 s3 x2 => ?_) 100000 σ _
  show G _ Γ _ _ _ _ _ _ s3 [((0 : Nat), Value.ref (a 21)), ((1 : Nat), Value.ref (a 38)), ((2 : Nat), Value.int x2)] 2 ([] : List Value)
  refine g_aload_n (pc := 2) 1 dX10_copy_2 rfl rfl ?_
  refine g_ifnull (pc := 3) dX10_copy_3 ?_
  refine g_iload_n (pc := 6) 2 dX10_copy_6 rfl rfl ?_
  refine g_aload_n (pc := 7) 1 dX10_copy_7 rfl rfl ?_
  refine g_alen (pc := 8) 38 0 (v := 5) cN_38 rfl (show Int32.ofNat 5 = 5 by decide) dX10_copy_8 ?_
  refine g_icmp_ge (pc := 9) (tgt := 26) dX10_copy_9 (by decide) ?_ ?_
  · exact g_vret (pc := 26) hRT dX10_copy_26
  · refine g_aload_n (pc := 12) 1 dX10_copy_12 rfl rfl ?_
    refine g_iload_n (pc := 13) 2 dX10_copy_13 rfl rfl ?_
    refine g_aload_n (pc := 14) 0 dX10_copy_14 rfl rfl ?_
    refine g_iload_n (pc := 15) 2 dX10_copy_15 rfl rfl ?_
    refine g_cSi (pc := 16) (As := [Value.ref (a 21), Value.int x2]) (fun r2 h2 => k_X10_at__21 hI h2) wk_X10_at ws_X10_at bw_24_10 (by decide) (by decide) rfl rfl (Nat.le_of_ble_eq_true rfl) dX10_copy_16 (fun r4 s5 => ?_)
    refine g_iast (pc := 19) 38 cN_38 rfl cN_s38 dX10_copy_19 (fun s6 => ?_)
    refine g_iinc (pc := 20) [1, 2, 0] 2 (n1 := 1) (lv1 := fun x7 => [(0, Value.ref (a 21)), (1, Value.ref (a 38)), (2, Value.int x7)]) dX10_copy_20 rfl (by decide) (by decide) (fun _ => rfl) (fun x7 => ?_)
    show G _ Γ _ _ _ _ _ _ _ [(0, Value.ref (a 21)), (1, Value.ref (a 38)), (2, Value.int x7)] (20 + 3) _
    refine g_goto (pc := 23) (tgt := 2) dX10_copy_23 (by decide) ?_
    exact hk1 s6 _
set_option maxRecDepth 100000 in
set_option maxHeartbeats 4000000 in
theorem k_X9_copyOf__36_19 {l : Launch} {D : va_G} {a : Nat → Nat} {cI cS : ClassId} (hI : ∀ σ : St, va_D (AN a) (cN a cI cS σ)) {σ : St} {r : Int32 × St} (h : f_X9_copyOf__36_19 σ = some r) : Kc (SN l D a cI cS) yX9_copyOf cX9_copyOf 2 none 2 [Value.ref (a 36), Value.ref (a 19)] σ r := by
  refine enter (own := RX9) (o := f_X9_copyOf__36_19 σ) (plainFor_of_name (by decide +kernel)) rfl (Nat.le_of_ble_eq_true rfl) hI wk_X9_copyOf.1 h (fun Γ hRT => ?_)
  show G _ Γ _ _ _ _ _ _ σ [((0 : Nat), Value.ref (a 36)), ((1 : Nat), Value.ref (a 19))] 0 []
  unfold f_X9_copyOf__36_19
  refine g_aload_n (pc := 0) 1 dX9_copyOf_0 rfl rfl ?_
  refine g_get (pc := 1) 19 cN_19 rfl inlX9 0 (by decide) bw_4_14 rfl dX9_copyOf_1 ?_
  refine g_aload_n (pc := 4) 0 dX9_copyOf_4 rfl rfl ?_
  refine g_get (pc := 5) 36 cN_36 rfl inlX9 0 (by decide) bw_4_14 rfl dX9_copyOf_5 ?_
  refine g_cNv (pc := 8) (As := [Value.ref (a 20), Value.ref (a 37)]) (fun r2 h2 => k_X10_copy__20_37 hI h2) wk_X10_copy ws_X10_copy nst_RX9_42 (by decide) (by decide) rfl rfl (Nat.le_of_ble_eq_true rfl) dX9_copyOf_8 (fun r1 s2 => ?_)
  refine g_aload_n (pc := 11) 1 dX9_copyOf_11 rfl rfl ?_
  refine g_get (pc := 12) 19 cN_19 rfl inlX9 1 (by decide) bw_4_15 rfl dX9_copyOf_12 ?_
  refine g_aload_n (pc := 15) 0 dX9_copyOf_15 rfl rfl ?_
  refine g_get (pc := 16) 36 cN_36 rfl inlX9 1 (by decide) bw_4_15 rfl dX9_copyOf_16 ?_
  refine g_cNv (pc := 19) (As := [Value.ref (a 21), Value.ref (a 38)]) (fun r2 h2 => k_X10_copy__21_38 hI h2) wk_X10_copy ws_X10_copy nst_RX9_42 (by decide) (by decide) rfl rfl (Nat.le_of_ble_eq_true rfl) dX9_copyOf_19 (fun r3 s4 => ?_)
  refine g_aload_n (pc := 22) 0 dX9_copyOf_22 rfl rfl ?_
  refine g_aload_n (pc := 23) 1 dX9_copyOf_23 rfl rfl ?_
  refine g_get (pc := 24) 19 cN_19 rfl inlX9 2 (by decide) bw_4_16 rfl dX9_copyOf_24 ?_
  refine g_put (pc := 27) 36 (ty := .int) cN_36 rfl inlX9 tyX9_ok nmX9 2 (by decide) bw_4_16 rfl (by decide +kernel) rfl rfl (Nat.le_of_ble_eq_true rfl) cN_f36_2 dX9_copyOf_27 (fun s5 => ?_)
  exact g_vret (pc := 30) hRT dX9_copyOf_30
set_option maxRecDepth 100000 in
set_option maxHeartbeats 4000000 in
theorem k_X10_copy__20_40 {l : Launch} {D : va_G} {a : Nat → Nat} {cI cS : ClassId} (hI : ∀ σ : St, va_D (AN a) (cN a cI cS σ)) {σ : St} {r : Int32 × St} (h : f_X10_copy__20_40 σ = some r) : Kc (SN l D a cI cS) yX10_copy cX10_copy 3 none 1 [Value.ref (a 20), Value.ref (a 40)] σ r := by
  refine enter (own := RX10) (o := f_X10_copy__20_40 σ) (plainFor_of_name (by decide +kernel)) rfl (Nat.le_of_ble_eq_true rfl) hI wk_X10_copy.1 h (fun Γ hRT => ?_)
  show G _ Γ _ _ _ _ _ _ σ [((0 : Nat), Value.ref (a 20)), ((1 : Nat), Value.ref (a 40))] 0 []
  unfold f_X10_copy__20_40
  refine g_iconst (pc := 0) (v := 0) dX10_copy_0 (by decide) ?_
  refine g_istore_n (pc := 1) [1, 2, 0] (lv1 := [(0, Value.ref (a 20)), (1, Value.ref (a 40)), (2, Value.int (0 : Int32))]) dX10_copy_1 rfl (by decide) rfl ?_
  refine g_lq1 (pc := 2) (lf := fun x2 => [((0 : Nat), Value.ref (a 20)), ((1 : Nat), Value.ref (a 40)), ((2 : Nat), Value.int x2)]) (sf := fun x2 => ([] : List Value)) (fun k1 hk1 s3 x2 => ?_) 100000 σ _
  show G _ Γ _ _ _ _ _ _ s3 [((0 : Nat), Value.ref (a 20)), ((1 : Nat), Value.ref (a 40)), ((2 : Nat), Value.int x2)] 2 ([] : List Value)
  refine g_aload_n (pc := 2) 1 dX10_copy_2 rfl rfl ?_
  refine g_ifnull (pc := 3) dX10_copy_3 ?_
  refine g_iload_n (pc := 6) 2 dX10_copy_6 rfl rfl ?_
  refine g_aload_n (pc := 7) 1 dX10_copy_7 rfl rfl ?_
  refine g_alen (pc := 8) 40 0 (v := 16) cN_40 rfl (show Int32.ofNat 16 = 16 by decide) dX10_copy_8 ?_
  refine g_icmp_ge (pc := 9) (tgt := 26) dX10_copy_9 (by decide) ?_ ?_
  · exact g_vret (pc := 26) hRT dX10_copy_26
  · refine g_aload_n (pc := 12) 1 dX10_copy_12 rfl rfl ?_
    refine g_iload_n (pc := 13) 2 dX10_copy_13 rfl rfl ?_
    refine g_aload_n (pc := 14) 0 dX10_copy_14 rfl rfl ?_
    refine g_iload_n (pc := 15) 2 dX10_copy_15 rfl rfl ?_
    refine g_cSi (pc := 16) (As := [Value.ref (a 20), Value.int x2]) (fun r2 h2 => k_X10_at__20 hI h2) wk_X10_at ws_X10_at bw_24_10 (by decide) (by decide) rfl rfl (Nat.le_of_ble_eq_true rfl) dX10_copy_16 (fun r4 s5 => ?_)
    refine g_iast (pc := 19) 40 cN_40 rfl cN_s40 dX10_copy_19 (fun s6 => ?_)
    refine g_iinc (pc := 20) [1, 2, 0] 2 (n1 := 1) (lv1 := fun x7 => [(0, Value.ref (a 20)), (1, Value.ref (a 40)), (2, Value.int x7)]) dX10_copy_20 rfl (by decide) (by decide) (fun _ => rfl) (fun x7 => ?_)
    show G _ Γ _ _ _ _ _ _ _ [(0, Value.ref (a 20)), (1, Value.ref (a 40)), (2, Value.int x7)] (20 + 3) _
    refine g_goto (pc := 23) (tgt := 2) dX10_copy_23 (by decide) ?_
    exact hk1 s6 _
set_option maxRecDepth 100000 in
set_option maxHeartbeats 4000000 in
theorem k_X10_copy__21_41 {l : Launch} {D : va_G} {a : Nat → Nat} {cI cS : ClassId} (hI : ∀ σ : St, va_D (AN a) (cN a cI cS σ)) {σ : St} {r : Int32 × St} (h : f_X10_copy__21_41 σ = some r) : Kc (SN l D a cI cS) yX10_copy cX10_copy 3 none 1 [Value.ref (a 21), Value.ref (a 41)] σ r := by
  refine enter (own := RX10) (o := f_X10_copy__21_41 σ) (plainFor_of_name (by decide +kernel)) rfl (Nat.le_of_ble_eq_true rfl) hI wk_X10_copy.1 h (fun Γ hRT => ?_)
  show G _ Γ _ _ _ _ _ _ σ [((0 : Nat), Value.ref (a 21)), ((1 : Nat), Value.ref (a 41))] 0 []
  unfold f_X10_copy__21_41
  refine g_iconst (pc := 0) (v := 0) dX10_copy_0 (by decide) ?_
  refine g_istore_n (pc := 1) [1, 2, 0] (lv1 := [(0, Value.ref (a 21)), (1, Value.ref (a 41)), (2, Value.int (0 : Int32))]) dX10_copy_1 rfl (by decide) rfl ?_
  refine g_lq1 (pc := 2) (lf := fun x2 => [((0 : Nat), Value.ref (a 21)), ((1 : Nat), Value.ref (a 41)), ((2 : Nat), Value.int x2)]) (sf := fun x2 => ([] : List Value)) (fun k1 hk1 s3 x2 => ?_) 100000 σ _
  show G _ Γ _ _ _ _ _ _ s3 [((0 : Nat), Value.ref (a 21)), ((1 : Nat), Value.ref (a 41)), ((2 : Nat), Value.int x2)] 2 ([] : List Value)
  refine g_aload_n (pc := 2) 1 dX10_copy_2 rfl rfl ?_
  refine g_ifnull (pc := 3) dX10_copy_3 ?_
  refine g_iload_n (pc := 6) 2 dX10_copy_6 rfl rfl ?_
  refine g_aload_n (pc := 7) 1 dX10_copy_7 rfl rfl ?_
  refine g_alen (pc := 8) 41 0 (v := 5) cN_41 rfl (show Int32.ofNat 5 = 5 by decide) dX10_copy_8 ?_
  refine g_icmp_ge (pc := 9) (tgt := 26) dX10_copy_9 (by decide) ?_ ?_
  · exact g_vret (pc := 26) hRT dX10_copy_26
  · refine g_aload_n (pc := 12) 1 dX10_copy_12 rfl rfl ?_
    refine g_iload_n (pc := 13) 2 dX10_copy_13 rfl rfl ?_
    refine g_aload_n (pc := 14) 0 dX10_copy_14 rfl rfl ?_
    refine g_iload_n (pc := 15) 2 dX10_copy_15 rfl rfl ?_
    refine g_cSi (pc := 16) (As := [Value.ref (a 21), Value.int x2]) (fun r2 h2 => k_X10_at__21 hI h2) wk_X10_at ws_X10_at bw_24_10 (by decide) (by decide) rfl rfl (Nat.le_of_ble_eq_true rfl) dX10_copy_16 (fun r4 s5 => ?_)
    refine g_iast (pc := 19) 41 cN_41 rfl cN_s41 dX10_copy_19 (fun s6 => ?_)
    refine g_iinc (pc := 20) [1, 2, 0] 2 (n1 := 1) (lv1 := fun x7 => [(0, Value.ref (a 21)), (1, Value.ref (a 41)), (2, Value.int x7)]) dX10_copy_20 rfl (by decide) (by decide) (fun _ => rfl) (fun x7 => ?_)
    show G _ Γ _ _ _ _ _ _ _ [(0, Value.ref (a 21)), (1, Value.ref (a 41)), (2, Value.int x7)] (20 + 3) _
    refine g_goto (pc := 23) (tgt := 2) dX10_copy_23 (by decide) ?_
    exact hk1 s6 _
set_option maxRecDepth 100000 in
set_option maxHeartbeats 4000000 in
theorem k_X9_copyOf__39_19 {l : Launch} {D : va_G} {a : Nat → Nat} {cI cS : ClassId} (hI : ∀ σ : St, va_D (AN a) (cN a cI cS σ)) {σ : St} {r : Int32 × St} (h : f_X9_copyOf__39_19 σ = some r) : Kc (SN l D a cI cS) yX9_copyOf cX9_copyOf 2 none 2 [Value.ref (a 39), Value.ref (a 19)] σ r := by
  refine enter (own := RX9) (o := f_X9_copyOf__39_19 σ) (plainFor_of_name (by decide +kernel)) rfl (Nat.le_of_ble_eq_true rfl) hI wk_X9_copyOf.1 h (fun Γ hRT => ?_)
  show G _ Γ _ _ _ _ _ _ σ [((0 : Nat), Value.ref (a 39)), ((1 : Nat), Value.ref (a 19))] 0 []
  unfold f_X9_copyOf__39_19
  refine g_aload_n (pc := 0) 1 dX9_copyOf_0 rfl rfl ?_
  refine g_get (pc := 1) 19 cN_19 rfl inlX9 0 (by decide) bw_4_14 rfl dX9_copyOf_1 ?_
  refine g_aload_n (pc := 4) 0 dX9_copyOf_4 rfl rfl ?_
  refine g_get (pc := 5) 39 cN_39 rfl inlX9 0 (by decide) bw_4_14 rfl dX9_copyOf_5 ?_
  refine g_cNv (pc := 8) (As := [Value.ref (a 20), Value.ref (a 40)]) (fun r2 h2 => k_X10_copy__20_40 hI h2) wk_X10_copy ws_X10_copy nst_RX9_42 (by decide) (by decide) rfl rfl (Nat.le_of_ble_eq_true rfl) dX9_copyOf_8 (fun r1 s2 => ?_)
  refine g_aload_n (pc := 11) 1 dX9_copyOf_11 rfl rfl ?_
  refine g_get (pc := 12) 19 cN_19 rfl inlX9 1 (by decide) bw_4_15 rfl dX9_copyOf_12 ?_
  refine g_aload_n (pc := 15) 0 dX9_copyOf_15 rfl rfl ?_
  refine g_get (pc := 16) 39 cN_39 rfl inlX9 1 (by decide) bw_4_15 rfl dX9_copyOf_16 ?_
  refine g_cNv (pc := 19) (As := [Value.ref (a 21), Value.ref (a 41)]) (fun r2 h2 => k_X10_copy__21_41 hI h2) wk_X10_copy ws_X10_copy nst_RX9_42 (by decide) (by decide) rfl rfl (Nat.le_of_ble_eq_true rfl) dX9_copyOf_19 (fun r3 s4 => ?_)
  refine g_aload_n (pc := 22) 0 dX9_copyOf_22 rfl rfl ?_
  refine g_aload_n (pc := 23) 1 dX9_copyOf_23 rfl rfl ?_
  refine g_get (pc := 24) 19 cN_19 rfl inlX9 2 (by decide) bw_4_16 rfl dX9_copyOf_24 ?_
  refine g_put (pc := 27) 39 (ty := .int) cN_39 rfl inlX9 tyX9_ok nmX9 2 (by decide) bw_4_16 rfl (by decide +kernel) rfl rfl (Nat.le_of_ble_eq_true rfl) cN_f39_2 dX9_copyOf_27 (fun s5 => ?_)
  exact g_vret (pc := 30) hRT dX9_copyOf_30
set_option maxRecDepth 100000 in
set_option maxHeartbeats 4000000 in
theorem k_X10_copy__20_43 {l : Launch} {D : va_G} {a : Nat → Nat} {cI cS : ClassId} (hI : ∀ σ : St, va_D (AN a) (cN a cI cS σ)) {σ : St} {r : Int32 × St} (h : f_X10_copy__20_43 σ = some r) : Kc (SN l D a cI cS) yX10_copy cX10_copy 3 none 1 [Value.ref (a 20), Value.ref (a 43)] σ r := by
  refine enter (own := RX10) (o := f_X10_copy__20_43 σ) (plainFor_of_name (by decide +kernel)) rfl (Nat.le_of_ble_eq_true rfl) hI wk_X10_copy.1 h (fun Γ hRT => ?_)
  show G _ Γ _ _ _ _ _ _ σ [((0 : Nat), Value.ref (a 20)), ((1 : Nat), Value.ref (a 43))] 0 []
  unfold f_X10_copy__20_43
  refine g_iconst (pc := 0) (v := 0) dX10_copy_0 (by decide) ?_
  refine g_istore_n (pc := 1) [1, 2, 0] (lv1 := [(0, Value.ref (a 20)), (1, Value.ref (a 43)), (2, Value.int (0 : Int32))]) dX10_copy_1 rfl (by decide) rfl ?_
  refine g_lq1 (pc := 2) (lf := fun x2 => [((0 : Nat), Value.ref (a 20)), ((1 : Nat), Value.ref (a 43)), ((2 : Nat), Value.int x2)]) (sf := fun x2 => ([] : List Value)) (fun k1 hk1 s3 x2 => ?_) 100000 σ _
  show G _ Γ _ _ _ _ _ _ s3 [((0 : Nat), Value.ref (a 20)), ((1 : Nat), Value.ref (a 43)), ((2 : Nat), Value.int x2)] 2 ([] : List Value)
  refine g_aload_n (pc := 2) 1 dX10_copy_2 rfl rfl ?_
  refine g_ifnull (pc := 3) dX10_copy_3 ?_
  refine g_iload_n (pc := 6) 2 dX10_copy_6 rfl rfl ?_
  refine g_aload_n (pc := 7) 1 dX10_copy_7 rfl rfl ?_
  refine g_alen (pc := 8) 43 0 (v := 16) cN_43 rfl (show Int32.ofNat 16 = 16 by decide) dX10_copy_8 ?_
  refine g_icmp_ge (pc := 9) (tgt := 26) dX10_copy_9 (by decide) ?_ ?_
  · exact g_vret (pc := 26) hRT dX10_copy_26
  · refine g_aload_n (pc := 12) 1 dX10_copy_12 rfl rfl ?_
    refine g_iload_n (pc := 13) 2 dX10_copy_13 rfl rfl ?_
    refine g_aload_n (pc := 14) 0 dX10_copy_14 rfl rfl ?_
    refine g_iload_n (pc := 15) 2 dX10_copy_15 rfl rfl ?_
    refine g_cSi (pc := 16) (As := [Value.ref (a 20), Value.int x2]) (fun r2 h2 => k_X10_at__20 hI h2) wk_X10_at ws_X10_at bw_24_10 (by decide) (by decide) rfl rfl (Nat.le_of_ble_eq_true rfl) dX10_copy_16 (fun r4 s5 => ?_)
    refine g_iast (pc := 19) 43 cN_43 rfl cN_s43 dX10_copy_19 (fun s6 => ?_)
    refine g_iinc (pc := 20) [1, 2, 0] 2 (n1 := 1) (lv1 := fun x7 => [(0, Value.ref (a 20)), (1, Value.ref (a 43)), (2, Value.int x7)]) dX10_copy_20 rfl (by decide) (by decide) (fun _ => rfl) (fun x7 => ?_)
    show G _ Γ _ _ _ _ _ _ _ [(0, Value.ref (a 20)), (1, Value.ref (a 43)), (2, Value.int x7)] (20 + 3) _
    refine g_goto (pc := 23) (tgt := 2) dX10_copy_23 (by decide) ?_
    exact hk1 s6 _
set_option maxRecDepth 100000 in
set_option maxHeartbeats 4000000 in
theorem k_X10_copy__21_44 {l : Launch} {D : va_G} {a : Nat → Nat} {cI cS : ClassId} (hI : ∀ σ : St, va_D (AN a) (cN a cI cS σ)) {σ : St} {r : Int32 × St} (h : f_X10_copy__21_44 σ = some r) : Kc (SN l D a cI cS) yX10_copy cX10_copy 3 none 1 [Value.ref (a 21), Value.ref (a 44)] σ r := by
  refine enter (own := RX10) (o := f_X10_copy__21_44 σ) (plainFor_of_name (by decide +kernel)) rfl (Nat.le_of_ble_eq_true rfl) hI wk_X10_copy.1 h (fun Γ hRT => ?_)
  show G _ Γ _ _ _ _ _ _ σ [((0 : Nat), Value.ref (a 21)), ((1 : Nat), Value.ref (a 44))] 0 []
  unfold f_X10_copy__21_44
  refine g_iconst (pc := 0) (v := 0) dX10_copy_0 (by decide) ?_
  refine g_istore_n (pc := 1) [1, 2, 0] (lv1 := [(0, Value.ref (a 21)), (1, Value.ref (a 44)), (2, Value.int (0 : Int32))]) dX10_copy_1 rfl (by decide) rfl ?_
  refine g_lq1 (pc := 2) (lf := fun x2 => [((0 : Nat), Value.ref (a 21)), ((1 : Nat), Value.ref (a 44)), ((2 : Nat), Value.int x2)]) (sf := fun x2 => ([] : List Value)) (fun k1 hk1 s3 x2 => ?_) 100000 σ _
  show G _ Γ _ _ _ _ _ _ s3 [((0 : Nat), Value.ref (a 21)), ((1 : Nat), Value.ref (a 44)), ((2 : Nat), Value.int x2)] 2 ([] : List Value)
  refine g_aload_n (pc := 2) 1 dX10_copy_2 rfl rfl ?_
  refine g_ifnull (pc := 3) dX10_copy_3 ?_
  refine g_iload_n (pc := 6) 2 dX10_copy_6 rfl rfl ?_
  refine g_aload_n (pc := 7) 1 dX10_copy_7 rfl rfl ?_
  refine g_alen (pc := 8) 44 0 (v := 5) cN_44 rfl (show Int32.ofNat 5 = 5 by decide) dX10_copy_8 ?_
  refine g_icmp_ge (pc := 9) (tgt := 26) dX10_copy_9 (by decide) ?_ ?_
  · exact g_vret (pc := 26) hRT dX10_copy_26
  · refine g_aload_n (pc := 12) 1 dX10_copy_12 rfl rfl ?_
    refine g_iload_n (pc := 13) 2 dX10_copy_13 rfl rfl ?_
    refine g_aload_n (pc := 14) 0 dX10_copy_14 rfl rfl ?_
    refine g_iload_n (pc := 15) 2 dX10_copy_15 rfl rfl ?_
    refine g_cSi (pc := 16) (As := [Value.ref (a 21), Value.int x2]) (fun r2 h2 => k_X10_at__21 hI h2) wk_X10_at ws_X10_at bw_24_10 (by decide) (by decide) rfl rfl (Nat.le_of_ble_eq_true rfl) dX10_copy_16 (fun r4 s5 => ?_)
    refine g_iast (pc := 19) 44 cN_44 rfl cN_s44 dX10_copy_19 (fun s6 => ?_)
    refine g_iinc (pc := 20) [1, 2, 0] 2 (n1 := 1) (lv1 := fun x7 => [(0, Value.ref (a 21)), (1, Value.ref (a 44)), (2, Value.int x7)]) dX10_copy_20 rfl (by decide) (by decide) (fun _ => rfl) (fun x7 => ?_)
    show G _ Γ _ _ _ _ _ _ _ [(0, Value.ref (a 21)), (1, Value.ref (a 44)), (2, Value.int x7)] (20 + 3) _
    refine g_goto (pc := 23) (tgt := 2) dX10_copy_23 (by decide) ?_
    exact hk1 s6 _
set_option maxRecDepth 100000 in
set_option maxHeartbeats 4000000 in
theorem k_X9_copyOf__42_19 {l : Launch} {D : va_G} {a : Nat → Nat} {cI cS : ClassId} (hI : ∀ σ : St, va_D (AN a) (cN a cI cS σ)) {σ : St} {r : Int32 × St} (h : f_X9_copyOf__42_19 σ = some r) : Kc (SN l D a cI cS) yX9_copyOf cX9_copyOf 2 none 2 [Value.ref (a 42), Value.ref (a 19)] σ r := by
  refine enter (own := RX9) (o := f_X9_copyOf__42_19 σ) (plainFor_of_name (by decide +kernel)) rfl (Nat.le_of_ble_eq_true rfl) hI wk_X9_copyOf.1 h (fun Γ hRT => ?_)
  show G _ Γ _ _ _ _ _ _ σ [((0 : Nat), Value.ref (a 42)), ((1 : Nat), Value.ref (a 19))] 0 []
  unfold f_X9_copyOf__42_19
  refine g_aload_n (pc := 0) 1 dX9_copyOf_0 rfl rfl ?_
  refine g_get (pc := 1) 19 cN_19 rfl inlX9 0 (by decide) bw_4_14 rfl dX9_copyOf_1 ?_
  refine g_aload_n (pc := 4) 0 dX9_copyOf_4 rfl rfl ?_
  refine g_get (pc := 5) 42 cN_42 rfl inlX9 0 (by decide) bw_4_14 rfl dX9_copyOf_5 ?_
  refine g_cNv (pc := 8) (As := [Value.ref (a 20), Value.ref (a 43)]) (fun r2 h2 => k_X10_copy__20_43 hI h2) wk_X10_copy ws_X10_copy nst_RX9_42 (by decide) (by decide) rfl rfl (Nat.le_of_ble_eq_true rfl) dX9_copyOf_8 (fun r1 s2 => ?_)
  refine g_aload_n (pc := 11) 1 dX9_copyOf_11 rfl rfl ?_
  refine g_get (pc := 12) 19 cN_19 rfl inlX9 1 (by decide) bw_4_15 rfl dX9_copyOf_12 ?_
  refine g_aload_n (pc := 15) 0 dX9_copyOf_15 rfl rfl ?_
  refine g_get (pc := 16) 42 cN_42 rfl inlX9 1 (by decide) bw_4_15 rfl dX9_copyOf_16 ?_
  refine g_cNv (pc := 19) (As := [Value.ref (a 21), Value.ref (a 44)]) (fun r2 h2 => k_X10_copy__21_44 hI h2) wk_X10_copy ws_X10_copy nst_RX9_42 (by decide) (by decide) rfl rfl (Nat.le_of_ble_eq_true rfl) dX9_copyOf_19 (fun r3 s4 => ?_)
  refine g_aload_n (pc := 22) 0 dX9_copyOf_22 rfl rfl ?_
  refine g_aload_n (pc := 23) 1 dX9_copyOf_23 rfl rfl ?_
  refine g_get (pc := 24) 19 cN_19 rfl inlX9 2 (by decide) bw_4_16 rfl dX9_copyOf_24 ?_
  refine g_put (pc := 27) 42 (ty := .int) cN_42 rfl inlX9 tyX9_ok nmX9 2 (by decide) bw_4_16 rfl (by decide +kernel) rfl rfl (Nat.le_of_ble_eq_true rfl) cN_f42_2 dX9_copyOf_27 (fun s5 => ?_)
  exact g_vret (pc := 30) hRT dX9_copyOf_30
set_option maxRecDepth 100000 in
set_option maxHeartbeats 4000000 in
theorem k_X10_copy__20_46 {l : Launch} {D : va_G} {a : Nat → Nat} {cI cS : ClassId} (hI : ∀ σ : St, va_D (AN a) (cN a cI cS σ)) {σ : St} {r : Int32 × St} (h : f_X10_copy__20_46 σ = some r) : Kc (SN l D a cI cS) yX10_copy cX10_copy 3 none 1 [Value.ref (a 20), Value.ref (a 46)] σ r := by
  refine enter (own := RX10) (o := f_X10_copy__20_46 σ) (plainFor_of_name (by decide +kernel)) rfl (Nat.le_of_ble_eq_true rfl) hI wk_X10_copy.1 h (fun Γ hRT => ?_)
  show G _ Γ _ _ _ _ _ _ σ [((0 : Nat), Value.ref (a 20)), ((1 : Nat), Value.ref (a 46))] 0 []
  unfold f_X10_copy__20_46
  refine g_iconst (pc := 0) (v := 0) dX10_copy_0 (by decide) ?_
  refine g_istore_n (pc := 1) [1, 2, 0] (lv1 := [(0, Value.ref (a 20)), (1, Value.ref (a 46)), (2, Value.int (0 : Int32))]) dX10_copy_1 rfl (by decide) rfl ?_
  refine g_lq1 (pc := 2) (lf := fun x2 => [((0 : Nat), Value.ref (a 20)), ((1 : Nat), Value.ref (a 46)), ((2 : Nat), Value.int x2)]) (sf := fun x2 => ([] : List Value)) (fun k1 hk1 s3 x2 => ?_) 100000 σ _
  show G _ Γ _ _ _ _ _ _ s3 [((0 : Nat), Value.ref (a 20)), ((1 : Nat), Value.ref (a 46)), ((2 : Nat), Value.int x2)] 2 ([] : List Value)
  refine g_aload_n (pc := 2) 1 dX10_copy_2 rfl rfl ?_
  refine g_ifnull (pc := 3) dX10_copy_3 ?_
  refine g_iload_n (pc := 6) 2 dX10_copy_6 rfl rfl ?_
  refine g_aload_n (pc := 7) 1 dX10_copy_7 rfl rfl ?_
  refine g_alen (pc := 8) 46 0 (v := 16) cN_46 rfl (show Int32.ofNat 16 = 16 by decide) dX10_copy_8 ?_
  refine g_icmp_ge (pc := 9) (tgt := 26) dX10_copy_9 (by decide) ?_ ?_
  · exact g_vret (pc := 26) hRT dX10_copy_26
  · refine g_aload_n (pc := 12) 1 dX10_copy_12 rfl rfl ?_
    refine g_iload_n (pc := 13) 2 dX10_copy_13 rfl rfl ?_
    refine g_aload_n (pc := 14) 0 dX10_copy_14 rfl rfl ?_
    refine g_iload_n (pc := 15) 2 dX10_copy_15 rfl rfl ?_
    refine g_cSi (pc := 16) (As := [Value.ref (a 20), Value.int x2]) (fun r2 h2 => k_X10_at__20 hI h2) wk_X10_at ws_X10_at bw_24_10 (by decide) (by decide) rfl rfl (Nat.le_of_ble_eq_true rfl) dX10_copy_16 (fun r4 s5 => ?_)
    refine g_iast (pc := 19) 46 cN_46 rfl cN_s46 dX10_copy_19 (fun s6 => ?_)
    refine g_iinc (pc := 20) [1, 2, 0] 2 (n1 := 1) (lv1 := fun x7 => [(0, Value.ref (a 20)), (1, Value.ref (a 46)), (2, Value.int x7)]) dX10_copy_20 rfl (by decide) (by decide) (fun _ => rfl) (fun x7 => ?_)
    show G _ Γ _ _ _ _ _ _ _ [(0, Value.ref (a 20)), (1, Value.ref (a 46)), (2, Value.int x7)] (20 + 3) _
    refine g_goto (pc := 23) (tgt := 2) dX10_copy_23 (by decide) ?_
    exact hk1 s6 _
set_option maxRecDepth 100000 in
set_option maxHeartbeats 4000000 in
theorem k_X10_copy__21_47 {l : Launch} {D : va_G} {a : Nat → Nat} {cI cS : ClassId} (hI : ∀ σ : St, va_D (AN a) (cN a cI cS σ)) {σ : St} {r : Int32 × St} (h : f_X10_copy__21_47 σ = some r) : Kc (SN l D a cI cS) yX10_copy cX10_copy 3 none 1 [Value.ref (a 21), Value.ref (a 47)] σ r := by
  refine enter (own := RX10) (o := f_X10_copy__21_47 σ) (plainFor_of_name (by decide +kernel)) rfl (Nat.le_of_ble_eq_true rfl) hI wk_X10_copy.1 h (fun Γ hRT => ?_)
  show G _ Γ _ _ _ _ _ _ σ [((0 : Nat), Value.ref (a 21)), ((1 : Nat), Value.ref (a 47))] 0 []
  unfold f_X10_copy__21_47
  refine g_iconst (pc := 0) (v := 0) dX10_copy_0 (by decide) ?_
  refine g_istore_n (pc := 1) [1, 2, 0] (lv1 := [(0, Value.ref (a 21)), (1, Value.ref (a 47)), (2, Value.int (0 : Int32))]) dX10_copy_1 rfl (by decide) rfl ?_
  refine g_lq1 (pc := 2) (lf := fun x2 => [((0 : Nat), Value.ref (a 21)), ((1 : Nat), Value.ref (a 47)), ((2 : Nat), Value.int x2)]) (sf := fun x2 => ([] : List Value)) (fun k1 hk1 s3 x2 => ?_) 100000 σ _
  show G _ Γ _ _ _ _ _ _ s3 [((0 : Nat), Value.ref (a 21)), ((1 : Nat), Value.ref (a 47)), ((2 : Nat), Value.int x2)] 2 ([] : List Value)
  refine g_aload_n (pc := 2) 1 dX10_copy_2 rfl rfl ?_
  refine g_ifnull (pc := 3) dX10_copy_3 ?_
  refine g_iload_n (pc := 6) 2 dX10_copy_6 rfl rfl ?_
  refine g_aload_n (pc := 7) 1 dX10_copy_7 rfl rfl ?_
  refine g_alen (pc := 8) 47 0 (v := 5) cN_47 rfl (show Int32.ofNat 5 = 5 by decide) dX10_copy_8 ?_
  refine g_icmp_ge (pc := 9) (tgt := 26) dX10_copy_9 (by decide) ?_ ?_
  · exact g_vret (pc := 26) hRT dX10_copy_26
  · refine g_aload_n (pc := 12) 1 dX10_copy_12 rfl rfl ?_
    refine g_iload_n (pc := 13) 2 dX10_copy_13 rfl rfl ?_
    refine g_aload_n (pc := 14) 0 dX10_copy_14 rfl rfl ?_
    refine g_iload_n (pc := 15) 2 dX10_copy_15 rfl rfl ?_
    refine g_cSi (pc := 16) (As := [Value.ref (a 21), Value.int x2]) (fun r2 h2 => k_X10_at__21 hI h2) wk_X10_at ws_X10_at bw_24_10 (by decide) (by decide) rfl rfl (Nat.le_of_ble_eq_true rfl) dX10_copy_16 (fun r4 s5 => ?_)
    refine g_iast (pc := 19) 47 cN_47 rfl cN_s47 dX10_copy_19 (fun s6 => ?_)
    refine g_iinc (pc := 20) [1, 2, 0] 2 (n1 := 1) (lv1 := fun x7 => [(0, Value.ref (a 21)), (1, Value.ref (a 47)), (2, Value.int x7)]) dX10_copy_20 rfl (by decide) (by decide) (fun _ => rfl) (fun x7 => ?_)
    show G _ Γ _ _ _ _ _ _ _ [(0, Value.ref (a 21)), (1, Value.ref (a 47)), (2, Value.int x7)] (20 + 3) _
    refine g_goto (pc := 23) (tgt := 2) dX10_copy_23 (by decide) ?_
    exact hk1 s6 _
set_option maxRecDepth 100000 in
set_option maxHeartbeats 4000000 in
theorem k_X9_copyOf__45_19 {l : Launch} {D : va_G} {a : Nat → Nat} {cI cS : ClassId} (hI : ∀ σ : St, va_D (AN a) (cN a cI cS σ)) {σ : St} {r : Int32 × St} (h : f_X9_copyOf__45_19 σ = some r) : Kc (SN l D a cI cS) yX9_copyOf cX9_copyOf 2 none 2 [Value.ref (a 45), Value.ref (a 19)] σ r := by
  refine enter (own := RX9) (o := f_X9_copyOf__45_19 σ) (plainFor_of_name (by decide +kernel)) rfl (Nat.le_of_ble_eq_true rfl) hI wk_X9_copyOf.1 h (fun Γ hRT => ?_)
  show G _ Γ _ _ _ _ _ _ σ [((0 : Nat), Value.ref (a 45)), ((1 : Nat), Value.ref (a 19))] 0 []
  unfold f_X9_copyOf__45_19
  refine g_aload_n (pc := 0) 1 dX9_copyOf_0 rfl rfl ?_
  refine g_get (pc := 1) 19 cN_19 rfl inlX9 0 (by decide) bw_4_14 rfl dX9_copyOf_1 ?_
  refine g_aload_n (pc := 4) 0 dX9_copyOf_4 rfl rfl ?_
  refine g_get (pc := 5) 45 cN_45 rfl inlX9 0 (by decide) bw_4_14 rfl dX9_copyOf_5 ?_
  refine g_cNv (pc := 8) (As := [Value.ref (a 20), Value.ref (a 46)]) (fun r2 h2 => k_X10_copy__20_46 hI h2) wk_X10_copy ws_X10_copy nst_RX9_42 (by decide) (by decide) rfl rfl (Nat.le_of_ble_eq_true rfl) dX9_copyOf_8 (fun r1 s2 => ?_)
  refine g_aload_n (pc := 11) 1 dX9_copyOf_11 rfl rfl ?_
  refine g_get (pc := 12) 19 cN_19 rfl inlX9 1 (by decide) bw_4_15 rfl dX9_copyOf_12 ?_
  refine g_aload_n (pc := 15) 0 dX9_copyOf_15 rfl rfl ?_
  refine g_get (pc := 16) 45 cN_45 rfl inlX9 1 (by decide) bw_4_15 rfl dX9_copyOf_16 ?_
  refine g_cNv (pc := 19) (As := [Value.ref (a 21), Value.ref (a 47)]) (fun r2 h2 => k_X10_copy__21_47 hI h2) wk_X10_copy ws_X10_copy nst_RX9_42 (by decide) (by decide) rfl rfl (Nat.le_of_ble_eq_true rfl) dX9_copyOf_19 (fun r3 s4 => ?_)
  refine g_aload_n (pc := 22) 0 dX9_copyOf_22 rfl rfl ?_
  refine g_aload_n (pc := 23) 1 dX9_copyOf_23 rfl rfl ?_
  refine g_get (pc := 24) 19 cN_19 rfl inlX9 2 (by decide) bw_4_16 rfl dX9_copyOf_24 ?_
  refine g_put (pc := 27) 45 (ty := .int) cN_45 rfl inlX9 tyX9_ok nmX9 2 (by decide) bw_4_16 rfl (by decide +kernel) rfl rfl (Nat.le_of_ble_eq_true rfl) cN_f45_2 dX9_copyOf_27 (fun s5 => ?_)
  exact g_vret (pc := 30) hRT dX9_copyOf_30
set_option maxRecDepth 100000 in
set_option maxHeartbeats 4000000 in
theorem k_X5_push__22_19 {l : Launch} {D : va_G} {a : Nat → Nat} {cI cS : ClassId} (hI : ∀ σ : St, va_D (AN a) (cN a cI cS σ)) {σ : St} {r : Int32 × St} (h : f_X5_push__22_19 σ = some r) : Kc (SN l D a cI cS) yX5_push cX5_push 3 none 3 [Value.ref (a 22), Value.ref (a 19)] σ r := by
  refine enter (own := RX5) (o := f_X5_push__22_19 σ) (plainFor_of_name (by decide +kernel)) rfl (Nat.le_of_ble_eq_true rfl) hI wk_X5_push.1 h (fun Γ hRT => ?_)
  show G _ Γ _ _ _ _ _ _ σ [((0 : Nat), Value.ref (a 22)), ((1 : Nat), Value.ref (a 19))] 0 []
  unfold f_X5_push__22_19
  refine g_aload_n (pc := 0) 0 dX5_push_0 rfl rfl ?_
  refine g_aload_n (pc := 1) 0 dX5_push_1 rfl rfl ?_
  refine g_get (pc := 2) 22 cN_22 rfl inlX5 2 (by decide) bw_4_22 rfl dX5_push_2 ?_
  refine g_cVr (pc := 5) 22 (As := [Value.int (σ 22 2)]) (fun r2 h2 => k_X5_placeOf__22 hI h2) wk_X5_placeOf wv_X5_placeOf bw_23_23 cN_22 rfl (by decide) (by decide) rfl rfl (Nat.le_of_ble_eq_true rfl) dX5_push_5 (fun r1 s2 => ?_)
  refine g_ite (fun e24_ => ?_) (fun e24_ => ?_)
  · refine g_eq (lv1 := [((0 : Nat), Value.ref (a 22)), ((1 : Nat), Value.ref (a 19))]) (st1 := [Value.ref (a 24)]) rfl (by subst e24_; first | rfl | (rw [pqv_24]; done) | (rw [pqv_24]; rfl)) ?_
    refine g_astore_n (pc := 8) [1, 2, 0] (lv1 := [(0, Value.ref (a 22)), (1, Value.ref (a 19)), (2, Value.ref (a 24))]) dX5_push_8 rfl (by decide) rfl ?_
    refine g_aload_n (pc := 9) 2 dX5_push_9 rfl rfl ?_
    refine g_ifnonnull (pc := 10) (tgt := 14) dX5_push_10 (by decide) ?_
    refine g_aload_n (pc := 14) 2 dX5_push_14 rfl rfl ?_
    refine g_aload_n (pc := 15) 1 dX5_push_15 rfl rfl ?_
    refine g_cVv (pc := 16) 24 (As := [Value.ref (a 19)]) (fun r2 h2 => k_X9_copyOf__24_19 hI h2) wk_X9_copyOf wv_X9_copyOf bw_24_4 cN_24 rfl (by decide) (by decide) rfl rfl (Nat.le_of_ble_eq_true rfl) dX5_push_16 (fun r3 s4 => ?_)
    refine g_aload_n (pc := 19) 0 dX5_push_19 rfl rfl ?_
    refine g_cVz (pc := 20) 22 (As := []) (fun r2 h2 => k_X5_isFull__22 hI h2) wk_X5_isFull wv_X5_isFull bw_24_11 cN_22 rfl (by decide) (by decide) rfl rfl (Nat.le_of_ble_eq_true rfl) dX5_push_20 (fun r5 s6 => ?_)
    refine g_if_eq (pc := 23) (tgt := 39) dX5_push_23 (by decide) ?_ ?_
    · refine g_aload_n (pc := 39) 0 dX5_push_39 rfl rfl ?_
      refine g_dup (pc := 40) dX5_push_40 rfl ?_
      refine g_get (pc := 41) 22 cN_22 rfl inlX5 2 (by decide) bw_4_22 rfl dX5_push_41 ?_
      refine g_iconst (pc := 44) (v := 1) dX5_push_44 (by decide) ?_
      refine g_iadd (pc := 45) dX5_push_45 ?_
      refine g_put (pc := 46) 22 (ty := .int) cN_22 rfl inlX5 tyX5_ok nmX5 2 (by decide) bw_4_22 rfl (by decide +kernel) rfl rfl (Nat.le_of_ble_eq_true rfl) cN_f22_2 dX5_push_46 (fun s7 => ?_)
      exact g_vret (pc := 49) hRT dX5_push_49
    · refine g_aload_n (pc := 26) 0 dX5_push_26 rfl rfl ?_
      refine g_dup (pc := 27) dX5_push_27 rfl ?_
      refine g_get (pc := 28) 22 cN_22 rfl inlX5 1 (by decide) bw_4_21 rfl dX5_push_28 ?_
      refine g_iconst (pc := 31) (v := 1) dX5_push_31 (by decide) ?_
      refine g_iadd (pc := 32) dX5_push_32 ?_
      refine g_put (pc := 33) 22 (ty := .int) cN_22 rfl inlX5 tyX5_ok nmX5 1 (by decide) bw_4_21 rfl (by decide +kernel) rfl rfl (Nat.le_of_ble_eq_true rfl) cN_f22_1 dX5_push_33 (fun s8 => ?_)
      refine g_goto (pc := 36) (tgt := 49) dX5_push_36 (by decide) ?_
      exact g_vret (pc := 49) hRT dX5_push_49
  · skip
    refine g_ite (fun e27_ => ?_) (fun e27_ => ?_)
    · refine g_eq (lv1 := [((0 : Nat), Value.ref (a 22)), ((1 : Nat), Value.ref (a 19))]) (st1 := [Value.ref (a 27)]) rfl (by subst e27_; first | rfl | (rw [pqv_27]; done) | (rw [pqv_27]; rfl)) ?_
      refine g_astore_n (pc := 8) [1, 2, 0] (lv1 := [(0, Value.ref (a 22)), (1, Value.ref (a 19)), (2, Value.ref (a 27))]) dX5_push_8 rfl (by decide) rfl ?_
      refine g_aload_n (pc := 9) 2 dX5_push_9 rfl rfl ?_
      refine g_ifnonnull (pc := 10) (tgt := 14) dX5_push_10 (by decide) ?_
      refine g_aload_n (pc := 14) 2 dX5_push_14 rfl rfl ?_
      refine g_aload_n (pc := 15) 1 dX5_push_15 rfl rfl ?_
      refine g_cVv (pc := 16) 27 (As := [Value.ref (a 19)]) (fun r2 h2 => k_X9_copyOf__27_19 hI h2) wk_X9_copyOf wv_X9_copyOf bw_24_4 cN_27 rfl (by decide) (by decide) rfl rfl (Nat.le_of_ble_eq_true rfl) dX5_push_16 (fun r9 s10 => ?_)
      refine g_aload_n (pc := 19) 0 dX5_push_19 rfl rfl ?_
      refine g_cVz (pc := 20) 22 (As := []) (fun r2 h2 => k_X5_isFull__22 hI h2) wk_X5_isFull wv_X5_isFull bw_24_11 cN_22 rfl (by decide) (by decide) rfl rfl (Nat.le_of_ble_eq_true rfl) dX5_push_20 (fun r11 s12 => ?_)
      refine g_if_eq (pc := 23) (tgt := 39) dX5_push_23 (by decide) ?_ ?_
      · refine g_aload_n (pc := 39) 0 dX5_push_39 rfl rfl ?_
        refine g_dup (pc := 40) dX5_push_40 rfl ?_
        refine g_get (pc := 41) 22 cN_22 rfl inlX5 2 (by decide) bw_4_22 rfl dX5_push_41 ?_
        refine g_iconst (pc := 44) (v := 1) dX5_push_44 (by decide) ?_
        refine g_iadd (pc := 45) dX5_push_45 ?_
        refine g_put (pc := 46) 22 (ty := .int) cN_22 rfl inlX5 tyX5_ok nmX5 2 (by decide) bw_4_22 rfl (by decide +kernel) rfl rfl (Nat.le_of_ble_eq_true rfl) cN_f22_2 dX5_push_46 (fun s13 => ?_)
        exact g_vret (pc := 49) hRT dX5_push_49
      · refine g_aload_n (pc := 26) 0 dX5_push_26 rfl rfl ?_
        refine g_dup (pc := 27) dX5_push_27 rfl ?_
        refine g_get (pc := 28) 22 cN_22 rfl inlX5 1 (by decide) bw_4_21 rfl dX5_push_28 ?_
        refine g_iconst (pc := 31) (v := 1) dX5_push_31 (by decide) ?_
        refine g_iadd (pc := 32) dX5_push_32 ?_
        refine g_put (pc := 33) 22 (ty := .int) cN_22 rfl inlX5 tyX5_ok nmX5 1 (by decide) bw_4_21 rfl (by decide +kernel) rfl rfl (Nat.le_of_ble_eq_true rfl) cN_f22_1 dX5_push_33 (fun s14 => ?_)
        refine g_goto (pc := 36) (tgt := 49) dX5_push_36 (by decide) ?_
        exact g_vret (pc := 49) hRT dX5_push_49
    · skip
      refine g_ite (fun e30_ => ?_) (fun e30_ => ?_)
      · refine g_eq (lv1 := [((0 : Nat), Value.ref (a 22)), ((1 : Nat), Value.ref (a 19))]) (st1 := [Value.ref (a 30)]) rfl (by subst e30_; first | rfl | (rw [pqv_30]; done) | (rw [pqv_30]; rfl)) ?_
        refine g_astore_n (pc := 8) [1, 2, 0] (lv1 := [(0, Value.ref (a 22)), (1, Value.ref (a 19)), (2, Value.ref (a 30))]) dX5_push_8 rfl (by decide) rfl ?_
        refine g_aload_n (pc := 9) 2 dX5_push_9 rfl rfl ?_
        refine g_ifnonnull (pc := 10) (tgt := 14) dX5_push_10 (by decide) ?_
        refine g_aload_n (pc := 14) 2 dX5_push_14 rfl rfl ?_
        refine g_aload_n (pc := 15) 1 dX5_push_15 rfl rfl ?_
        refine g_cVv (pc := 16) 30 (As := [Value.ref (a 19)]) (fun r2 h2 => k_X9_copyOf__30_19 hI h2) wk_X9_copyOf wv_X9_copyOf bw_24_4 cN_30 rfl (by decide) (by decide) rfl rfl (Nat.le_of_ble_eq_true rfl) dX5_push_16 (fun r15 s16 => ?_)
        refine g_aload_n (pc := 19) 0 dX5_push_19 rfl rfl ?_
        refine g_cVz (pc := 20) 22 (As := []) (fun r2 h2 => k_X5_isFull__22 hI h2) wk_X5_isFull wv_X5_isFull bw_24_11 cN_22 rfl (by decide) (by decide) rfl rfl (Nat.le_of_ble_eq_true rfl) dX5_push_20 (fun r17 s18 => ?_)
        refine g_if_eq (pc := 23) (tgt := 39) dX5_push_23 (by decide) ?_ ?_
        · refine g_aload_n (pc := 39) 0 dX5_push_39 rfl rfl ?_
          refine g_dup (pc := 40) dX5_push_40 rfl ?_
          refine g_get (pc := 41) 22 cN_22 rfl inlX5 2 (by decide) bw_4_22 rfl dX5_push_41 ?_
          refine g_iconst (pc := 44) (v := 1) dX5_push_44 (by decide) ?_
          refine g_iadd (pc := 45) dX5_push_45 ?_
          refine g_put (pc := 46) 22 (ty := .int) cN_22 rfl inlX5 tyX5_ok nmX5 2 (by decide) bw_4_22 rfl (by decide +kernel) rfl rfl (Nat.le_of_ble_eq_true rfl) cN_f22_2 dX5_push_46 (fun s19 => ?_)
          exact g_vret (pc := 49) hRT dX5_push_49
        · refine g_aload_n (pc := 26) 0 dX5_push_26 rfl rfl ?_
          refine g_dup (pc := 27) dX5_push_27 rfl ?_
          refine g_get (pc := 28) 22 cN_22 rfl inlX5 1 (by decide) bw_4_21 rfl dX5_push_28 ?_
          refine g_iconst (pc := 31) (v := 1) dX5_push_31 (by decide) ?_
          refine g_iadd (pc := 32) dX5_push_32 ?_
          refine g_put (pc := 33) 22 (ty := .int) cN_22 rfl inlX5 tyX5_ok nmX5 1 (by decide) bw_4_21 rfl (by decide +kernel) rfl rfl (Nat.le_of_ble_eq_true rfl) cN_f22_1 dX5_push_33 (fun s20 => ?_)
          refine g_goto (pc := 36) (tgt := 49) dX5_push_36 (by decide) ?_
          exact g_vret (pc := 49) hRT dX5_push_49
      · skip
        refine g_ite (fun e33_ => ?_) (fun e33_ => ?_)
        · refine g_eq (lv1 := [((0 : Nat), Value.ref (a 22)), ((1 : Nat), Value.ref (a 19))]) (st1 := [Value.ref (a 33)]) rfl (by subst e33_; first | rfl | (rw [pqv_33]; done) | (rw [pqv_33]; rfl)) ?_
          refine g_astore_n (pc := 8) [1, 2, 0] (lv1 := [(0, Value.ref (a 22)), (1, Value.ref (a 19)), (2, Value.ref (a 33))]) dX5_push_8 rfl (by decide) rfl ?_
          refine g_aload_n (pc := 9) 2 dX5_push_9 rfl rfl ?_
          refine g_ifnonnull (pc := 10) (tgt := 14) dX5_push_10 (by decide) ?_
          refine g_aload_n (pc := 14) 2 dX5_push_14 rfl rfl ?_
          refine g_aload_n (pc := 15) 1 dX5_push_15 rfl rfl ?_
          refine g_cVv (pc := 16) 33 (As := [Value.ref (a 19)]) (fun r2 h2 => k_X9_copyOf__33_19 hI h2) wk_X9_copyOf wv_X9_copyOf bw_24_4 cN_33 rfl (by decide) (by decide) rfl rfl (Nat.le_of_ble_eq_true rfl) dX5_push_16 (fun r21 s22 => ?_)
          refine g_aload_n (pc := 19) 0 dX5_push_19 rfl rfl ?_
          refine g_cVz (pc := 20) 22 (As := []) (fun r2 h2 => k_X5_isFull__22 hI h2) wk_X5_isFull wv_X5_isFull bw_24_11 cN_22 rfl (by decide) (by decide) rfl rfl (Nat.le_of_ble_eq_true rfl) dX5_push_20 (fun r23 s24 => ?_)
          refine g_if_eq (pc := 23) (tgt := 39) dX5_push_23 (by decide) ?_ ?_
          · refine g_aload_n (pc := 39) 0 dX5_push_39 rfl rfl ?_
            refine g_dup (pc := 40) dX5_push_40 rfl ?_
            refine g_get (pc := 41) 22 cN_22 rfl inlX5 2 (by decide) bw_4_22 rfl dX5_push_41 ?_
            refine g_iconst (pc := 44) (v := 1) dX5_push_44 (by decide) ?_
            refine g_iadd (pc := 45) dX5_push_45 ?_
            refine g_put (pc := 46) 22 (ty := .int) cN_22 rfl inlX5 tyX5_ok nmX5 2 (by decide) bw_4_22 rfl (by decide +kernel) rfl rfl (Nat.le_of_ble_eq_true rfl) cN_f22_2 dX5_push_46 (fun s25 => ?_)
            exact g_vret (pc := 49) hRT dX5_push_49
          · refine g_aload_n (pc := 26) 0 dX5_push_26 rfl rfl ?_
            refine g_dup (pc := 27) dX5_push_27 rfl ?_
            refine g_get (pc := 28) 22 cN_22 rfl inlX5 1 (by decide) bw_4_21 rfl dX5_push_28 ?_
            refine g_iconst (pc := 31) (v := 1) dX5_push_31 (by decide) ?_
            refine g_iadd (pc := 32) dX5_push_32 ?_
            refine g_put (pc := 33) 22 (ty := .int) cN_22 rfl inlX5 tyX5_ok nmX5 1 (by decide) bw_4_21 rfl (by decide +kernel) rfl rfl (Nat.le_of_ble_eq_true rfl) cN_f22_1 dX5_push_33 (fun s26 => ?_)
            refine g_goto (pc := 36) (tgt := 49) dX5_push_36 (by decide) ?_
            exact g_vret (pc := 49) hRT dX5_push_49
        · skip
          refine g_ite (fun e36_ => ?_) (fun e36_ => ?_)
          · refine g_eq (lv1 := [((0 : Nat), Value.ref (a 22)), ((1 : Nat), Value.ref (a 19))]) (st1 := [Value.ref (a 36)]) rfl (by subst e36_; first | rfl | (rw [pqv_36]; done) | (rw [pqv_36]; rfl)) ?_
            refine g_astore_n (pc := 8) [1, 2, 0] (lv1 := [(0, Value.ref (a 22)), (1, Value.ref (a 19)), (2, Value.ref (a 36))]) dX5_push_8 rfl (by decide) rfl ?_
            refine g_aload_n (pc := 9) 2 dX5_push_9 rfl rfl ?_
            refine g_ifnonnull (pc := 10) (tgt := 14) dX5_push_10 (by decide) ?_
            refine g_aload_n (pc := 14) 2 dX5_push_14 rfl rfl ?_
            refine g_aload_n (pc := 15) 1 dX5_push_15 rfl rfl ?_
            refine g_cVv (pc := 16) 36 (As := [Value.ref (a 19)]) (fun r2 h2 => k_X9_copyOf__36_19 hI h2) wk_X9_copyOf wv_X9_copyOf bw_24_4 cN_36 rfl (by decide) (by decide) rfl rfl (Nat.le_of_ble_eq_true rfl) dX5_push_16 (fun r27 s28 => ?_)
            refine g_aload_n (pc := 19) 0 dX5_push_19 rfl rfl ?_
            refine g_cVz (pc := 20) 22 (As := []) (fun r2 h2 => k_X5_isFull__22 hI h2) wk_X5_isFull wv_X5_isFull bw_24_11 cN_22 rfl (by decide) (by decide) rfl rfl (Nat.le_of_ble_eq_true rfl) dX5_push_20 (fun r29 s30 => ?_)
            refine g_if_eq (pc := 23) (tgt := 39) dX5_push_23 (by decide) ?_ ?_
            · refine g_aload_n (pc := 39) 0 dX5_push_39 rfl rfl ?_
              refine g_dup (pc := 40) dX5_push_40 rfl ?_
              refine g_get (pc := 41) 22 cN_22 rfl inlX5 2 (by decide) bw_4_22 rfl dX5_push_41 ?_
              refine g_iconst (pc := 44) (v := 1) dX5_push_44 (by decide) ?_
              refine g_iadd (pc := 45) dX5_push_45 ?_
              refine g_put (pc := 46) 22 (ty := .int) cN_22 rfl inlX5 tyX5_ok nmX5 2 (by decide) bw_4_22 rfl (by decide +kernel) rfl rfl (Nat.le_of_ble_eq_true rfl) cN_f22_2 dX5_push_46 (fun s31 => ?_)
              exact g_vret (pc := 49) hRT dX5_push_49
            · refine g_aload_n (pc := 26) 0 dX5_push_26 rfl rfl ?_
              refine g_dup (pc := 27) dX5_push_27 rfl ?_
              refine g_get (pc := 28) 22 cN_22 rfl inlX5 1 (by decide) bw_4_21 rfl dX5_push_28 ?_
              refine g_iconst (pc := 31) (v := 1) dX5_push_31 (by decide) ?_
              refine g_iadd (pc := 32) dX5_push_32 ?_
              refine g_put (pc := 33) 22 (ty := .int) cN_22 rfl inlX5 tyX5_ok nmX5 1 (by decide) bw_4_21 rfl (by decide +kernel) rfl rfl (Nat.le_of_ble_eq_true rfl) cN_f22_1 dX5_push_33 (fun s32 => ?_)
              refine g_goto (pc := 36) (tgt := 49) dX5_push_36 (by decide) ?_
              exact g_vret (pc := 49) hRT dX5_push_49
          · skip
            refine g_ite (fun e39_ => ?_) (fun e39_ => ?_)
            · refine g_eq (lv1 := [((0 : Nat), Value.ref (a 22)), ((1 : Nat), Value.ref (a 19))]) (st1 := [Value.ref (a 39)]) rfl (by subst e39_; first | rfl | (rw [pqv_39]; done) | (rw [pqv_39]; rfl)) ?_
              refine g_astore_n (pc := 8) [1, 2, 0] (lv1 := [(0, Value.ref (a 22)), (1, Value.ref (a 19)), (2, Value.ref (a 39))]) dX5_push_8 rfl (by decide) rfl ?_
              refine g_aload_n (pc := 9) 2 dX5_push_9 rfl rfl ?_
              refine g_ifnonnull (pc := 10) (tgt := 14) dX5_push_10 (by decide) ?_
              refine g_aload_n (pc := 14) 2 dX5_push_14 rfl rfl ?_
              refine g_aload_n (pc := 15) 1 dX5_push_15 rfl rfl ?_
              refine g_cVv (pc := 16) 39 (As := [Value.ref (a 19)]) (fun r2 h2 => k_X9_copyOf__39_19 hI h2) wk_X9_copyOf wv_X9_copyOf bw_24_4 cN_39 rfl (by decide) (by decide) rfl rfl (Nat.le_of_ble_eq_true rfl) dX5_push_16 (fun r33 s34 => ?_)
              refine g_aload_n (pc := 19) 0 dX5_push_19 rfl rfl ?_
              refine g_cVz (pc := 20) 22 (As := []) (fun r2 h2 => k_X5_isFull__22 hI h2) wk_X5_isFull wv_X5_isFull bw_24_11 cN_22 rfl (by decide) (by decide) rfl rfl (Nat.le_of_ble_eq_true rfl) dX5_push_20 (fun r35 s36 => ?_)
              refine g_if_eq (pc := 23) (tgt := 39) dX5_push_23 (by decide) ?_ ?_
              · refine g_aload_n (pc := 39) 0 dX5_push_39 rfl rfl ?_
                refine g_dup (pc := 40) dX5_push_40 rfl ?_
                refine g_get (pc := 41) 22 cN_22 rfl inlX5 2 (by decide) bw_4_22 rfl dX5_push_41 ?_
                refine g_iconst (pc := 44) (v := 1) dX5_push_44 (by decide) ?_
                refine g_iadd (pc := 45) dX5_push_45 ?_
                refine g_put (pc := 46) 22 (ty := .int) cN_22 rfl inlX5 tyX5_ok nmX5 2 (by decide) bw_4_22 rfl (by decide +kernel) rfl rfl (Nat.le_of_ble_eq_true rfl) cN_f22_2 dX5_push_46 (fun s37 => ?_)
                exact g_vret (pc := 49) hRT dX5_push_49
              · refine g_aload_n (pc := 26) 0 dX5_push_26 rfl rfl ?_
                refine g_dup (pc := 27) dX5_push_27 rfl ?_
                refine g_get (pc := 28) 22 cN_22 rfl inlX5 1 (by decide) bw_4_21 rfl dX5_push_28 ?_
                refine g_iconst (pc := 31) (v := 1) dX5_push_31 (by decide) ?_
                refine g_iadd (pc := 32) dX5_push_32 ?_
                refine g_put (pc := 33) 22 (ty := .int) cN_22 rfl inlX5 tyX5_ok nmX5 1 (by decide) bw_4_21 rfl (by decide +kernel) rfl rfl (Nat.le_of_ble_eq_true rfl) cN_f22_1 dX5_push_33 (fun s38 => ?_)
                refine g_goto (pc := 36) (tgt := 49) dX5_push_36 (by decide) ?_
                exact g_vret (pc := 49) hRT dX5_push_49
            · skip
              refine g_ite (fun e42_ => ?_) (fun e42_ => ?_)
              · refine g_eq (lv1 := [((0 : Nat), Value.ref (a 22)), ((1 : Nat), Value.ref (a 19))]) (st1 := [Value.ref (a 42)]) rfl (by subst e42_; first | rfl | (rw [pqv_42]; done) | (rw [pqv_42]; rfl)) ?_
                refine g_astore_n (pc := 8) [1, 2, 0] (lv1 := [(0, Value.ref (a 22)), (1, Value.ref (a 19)), (2, Value.ref (a 42))]) dX5_push_8 rfl (by decide) rfl ?_
                refine g_aload_n (pc := 9) 2 dX5_push_9 rfl rfl ?_
                refine g_ifnonnull (pc := 10) (tgt := 14) dX5_push_10 (by decide) ?_
                refine g_aload_n (pc := 14) 2 dX5_push_14 rfl rfl ?_
                refine g_aload_n (pc := 15) 1 dX5_push_15 rfl rfl ?_
                refine g_cVv (pc := 16) 42 (As := [Value.ref (a 19)]) (fun r2 h2 => k_X9_copyOf__42_19 hI h2) wk_X9_copyOf wv_X9_copyOf bw_24_4 cN_42 rfl (by decide) (by decide) rfl rfl (Nat.le_of_ble_eq_true rfl) dX5_push_16 (fun r39 s40 => ?_)
                refine g_aload_n (pc := 19) 0 dX5_push_19 rfl rfl ?_
                refine g_cVz (pc := 20) 22 (As := []) (fun r2 h2 => k_X5_isFull__22 hI h2) wk_X5_isFull wv_X5_isFull bw_24_11 cN_22 rfl (by decide) (by decide) rfl rfl (Nat.le_of_ble_eq_true rfl) dX5_push_20 (fun r41 s42 => ?_)
                refine g_if_eq (pc := 23) (tgt := 39) dX5_push_23 (by decide) ?_ ?_
                · refine g_aload_n (pc := 39) 0 dX5_push_39 rfl rfl ?_
                  refine g_dup (pc := 40) dX5_push_40 rfl ?_
                  refine g_get (pc := 41) 22 cN_22 rfl inlX5 2 (by decide) bw_4_22 rfl dX5_push_41 ?_
                  refine g_iconst (pc := 44) (v := 1) dX5_push_44 (by decide) ?_
                  refine g_iadd (pc := 45) dX5_push_45 ?_
                  refine g_put (pc := 46) 22 (ty := .int) cN_22 rfl inlX5 tyX5_ok nmX5 2 (by decide) bw_4_22 rfl (by decide +kernel) rfl rfl (Nat.le_of_ble_eq_true rfl) cN_f22_2 dX5_push_46 (fun s43 => ?_)
                  exact g_vret (pc := 49) hRT dX5_push_49
                · refine g_aload_n (pc := 26) 0 dX5_push_26 rfl rfl ?_
                  refine g_dup (pc := 27) dX5_push_27 rfl ?_
                  refine g_get (pc := 28) 22 cN_22 rfl inlX5 1 (by decide) bw_4_21 rfl dX5_push_28 ?_
                  refine g_iconst (pc := 31) (v := 1) dX5_push_31 (by decide) ?_
                  refine g_iadd (pc := 32) dX5_push_32 ?_
                  refine g_put (pc := 33) 22 (ty := .int) cN_22 rfl inlX5 tyX5_ok nmX5 1 (by decide) bw_4_21 rfl (by decide +kernel) rfl rfl (Nat.le_of_ble_eq_true rfl) cN_f22_1 dX5_push_33 (fun s44 => ?_)
                  refine g_goto (pc := 36) (tgt := 49) dX5_push_36 (by decide) ?_
                  exact g_vret (pc := 49) hRT dX5_push_49
              · skip
                refine g_ite (fun e45_ => ?_) (fun e45_ => ?_)
                · refine g_eq (lv1 := [((0 : Nat), Value.ref (a 22)), ((1 : Nat), Value.ref (a 19))]) (st1 := [Value.ref (a 45)]) rfl (by subst e45_; first | rfl | (rw [pqv_45]; done) | (rw [pqv_45]; rfl)) ?_
                  refine g_astore_n (pc := 8) [1, 2, 0] (lv1 := [(0, Value.ref (a 22)), (1, Value.ref (a 19)), (2, Value.ref (a 45))]) dX5_push_8 rfl (by decide) rfl ?_
                  refine g_aload_n (pc := 9) 2 dX5_push_9 rfl rfl ?_
                  refine g_ifnonnull (pc := 10) (tgt := 14) dX5_push_10 (by decide) ?_
                  refine g_aload_n (pc := 14) 2 dX5_push_14 rfl rfl ?_
                  refine g_aload_n (pc := 15) 1 dX5_push_15 rfl rfl ?_
                  refine g_cVv (pc := 16) 45 (As := [Value.ref (a 19)]) (fun r2 h2 => k_X9_copyOf__45_19 hI h2) wk_X9_copyOf wv_X9_copyOf bw_24_4 cN_45 rfl (by decide) (by decide) rfl rfl (Nat.le_of_ble_eq_true rfl) dX5_push_16 (fun r45 s46 => ?_)
                  refine g_aload_n (pc := 19) 0 dX5_push_19 rfl rfl ?_
                  refine g_cVz (pc := 20) 22 (As := []) (fun r2 h2 => k_X5_isFull__22 hI h2) wk_X5_isFull wv_X5_isFull bw_24_11 cN_22 rfl (by decide) (by decide) rfl rfl (Nat.le_of_ble_eq_true rfl) dX5_push_20 (fun r47 s48 => ?_)
                  refine g_if_eq (pc := 23) (tgt := 39) dX5_push_23 (by decide) ?_ ?_
                  · refine g_aload_n (pc := 39) 0 dX5_push_39 rfl rfl ?_
                    refine g_dup (pc := 40) dX5_push_40 rfl ?_
                    refine g_get (pc := 41) 22 cN_22 rfl inlX5 2 (by decide) bw_4_22 rfl dX5_push_41 ?_
                    refine g_iconst (pc := 44) (v := 1) dX5_push_44 (by decide) ?_
                    refine g_iadd (pc := 45) dX5_push_45 ?_
                    refine g_put (pc := 46) 22 (ty := .int) cN_22 rfl inlX5 tyX5_ok nmX5 2 (by decide) bw_4_22 rfl (by decide +kernel) rfl rfl (Nat.le_of_ble_eq_true rfl) cN_f22_2 dX5_push_46 (fun s49 => ?_)
                    exact g_vret (pc := 49) hRT dX5_push_49
                  · refine g_aload_n (pc := 26) 0 dX5_push_26 rfl rfl ?_
                    refine g_dup (pc := 27) dX5_push_27 rfl ?_
                    refine g_get (pc := 28) 22 cN_22 rfl inlX5 1 (by decide) bw_4_21 rfl dX5_push_28 ?_
                    refine g_iconst (pc := 31) (v := 1) dX5_push_31 (by decide) ?_
                    refine g_iadd (pc := 32) dX5_push_32 ?_
                    refine g_put (pc := 33) 22 (ty := .int) cN_22 rfl inlX5 tyX5_ok nmX5 1 (by decide) bw_4_21 rfl (by decide +kernel) rfl rfl (Nat.le_of_ble_eq_true rfl) cN_f22_1 dX5_push_33 (fun s50 => ?_)
                    refine g_goto (pc := 36) (tgt := 49) dX5_push_36 (by decide) ?_
                    exact g_vret (pc := 49) hRT dX5_push_49
                · skip
                  exact g_none
set_option maxRecDepth 100000 in
set_option maxHeartbeats 4000000 in
theorem k_X4_newsTold__12 {l : Launch} {D : va_G} {a : Nat → Nat} {cI cS : ClassId} (hI : ∀ σ : St, va_D (AN a) (cN a cI cS σ)) {σ : St} {r : Int32 × St} (h : f_X4_newsTold__12 σ = some r) : Kc (SN l D a cI cS) yX4_newsTold cX4_newsTold 1 (some .int) 0 [Value.ref (a 12)] σ r := by
  refine enter (own := RX4) (o := f_X4_newsTold__12 σ) (plainFor_of_name (by decide +kernel)) rfl (Nat.le_of_ble_eq_true rfl) hI wk_X4_newsTold.1 h (fun Γ hRT => ?_)
  show G _ Γ _ _ _ _ _ _ σ [((0 : Nat), Value.ref (a 12))] 0 []
  unfold f_X4_newsTold__12
  refine g_aload_n (pc := 0) 0 dX4_newsTold_0 rfl rfl ?_
  refine g_get (pc := 1) 12 cN_12 rfl inlX4 10 (by decide) bw_4_8 rfl dX4_newsTold_1 ?_
  exact g_iret (pc := 4) hRT dX4_newsTold_4
set_option maxRecDepth 100000 in
set_option maxHeartbeats 4000000 in
theorem k_X9_goOn__19 {l : Launch} {D : va_G} {a : Nat → Nat} {cI cS : ClassId} (hI : ∀ σ : St, va_D (AN a) (cN a cI cS σ)) {σ : St} {x1 : Int32} {r : Int32 × St} (h : f_X9_goOn__19 σ x1 = some r) : Kc (SN l D a cI cS) yX9_goOn cX9_goOn 2 none 0 [Value.ref (a 19), Value.int x1] σ r := by
  refine enter (own := RX9) (o := f_X9_goOn__19 σ x1) (plainFor_of_name (by decide +kernel)) rfl (Nat.le_of_ble_eq_true rfl) hI wk_X9_goOn.1 h (fun Γ hRT => ?_)
  show G _ Γ _ _ _ _ _ _ σ [((0 : Nat), Value.ref (a 19)), ((1 : Nat), Value.int x1)] 0 []
  unfold f_X9_goOn__19
  refine g_aload_n (pc := 0) 0 dX9_goOn_0 rfl rfl ?_
  refine g_dup (pc := 1) dX9_goOn_1 rfl ?_
  refine g_get (pc := 2) 19 cN_19 rfl inlX9 2 (by decide) bw_4_16 rfl dX9_goOn_2 ?_
  refine g_iload_n (pc := 5) 1 dX9_goOn_5 rfl rfl ?_
  refine g_iadd (pc := 6) dX9_goOn_6 ?_
  refine g_put (pc := 7) 19 (ty := .int) cN_19 rfl inlX9 tyX9_ok nmX9 2 (by decide) bw_4_16 rfl (by decide +kernel) rfl rfl (Nat.le_of_ble_eq_true rfl) cN_f19_2 dX9_goOn_7 (fun s2 => ?_)
  exact g_vret (pc := 10) hRT dX9_goOn_10
set_option maxRecDepth 100000 in
set_option maxHeartbeats 4000000 in
theorem k_X4_columns__12 {l : Launch} {D : va_G} {a : Nat → Nat} {cI cS : ClassId} (hI : ∀ σ : St, va_D (AN a) (cN a cI cS σ)) {σ : St} {r : Int32 × St} (h : f_X4_columns__12 σ = some r) : Kc (SN l D a cI cS) yX4_columns cX4_columns 1 (some .int) 0 [Value.ref (a 12)] σ r := by
  refine enter (own := RX4) (o := f_X4_columns__12 σ) (plainFor_of_name (by decide +kernel)) rfl (Nat.le_of_ble_eq_true rfl) hI wk_X4_columns.1 h (fun Γ hRT => ?_)
  show G _ Γ _ _ _ _ _ _ σ [((0 : Nat), Value.ref (a 12))] 0 []
  unfold f_X4_columns__12
  refine g_aload_n (pc := 0) 0 dX4_columns_0 rfl rfl ?_
  refine g_get (pc := 1) 12 cN_12 rfl inlX4 7 (by decide) bw_4_5 rfl dX4_columns_1 ?_
  exact g_iret (pc := 4) hRT dX4_columns_4
set_option maxRecDepth 100000 in
set_option maxHeartbeats 4000000 in
theorem k_X4_firstColumn__12 {l : Launch} {D : va_G} {a : Nat → Nat} {cI cS : ClassId} (hI : ∀ σ : St, va_D (AN a) (cN a cI cS σ)) {σ : St} {r : Int32 × St} (h : f_X4_firstColumn__12 σ = some r) : Kc (SN l D a cI cS) yX4_firstColumn cX4_firstColumn 1 (some .int) 0 [Value.ref (a 12)] σ r := by
  refine enter (own := RX4) (o := f_X4_firstColumn__12 σ) (plainFor_of_name (by decide +kernel)) rfl (Nat.le_of_ble_eq_true rfl) hI wk_X4_firstColumn.1 h (fun Γ hRT => ?_)
  show G _ Γ _ _ _ _ _ _ σ [((0 : Nat), Value.ref (a 12))] 0 []
  unfold f_X4_firstColumn__12
  refine g_aload_n (pc := 0) 0 dX4_firstColumn_0 rfl rfl ?_
  refine g_get (pc := 1) 12 cN_12 rfl inlX4 8 (by decide) bw_4_6 rfl dX4_firstColumn_1 ?_
  exact g_iret (pc := 4) hRT dX4_firstColumn_4
set_option maxRecDepth 100000 in
set_option maxHeartbeats 4000000 in
theorem k_X4_lastColumn__12 {l : Launch} {D : va_G} {a : Nat → Nat} {cI cS : ClassId} (hI : ∀ σ : St, va_D (AN a) (cN a cI cS σ)) {σ : St} {r : Int32 × St} (h : f_X4_lastColumn__12 σ = some r) : Kc (SN l D a cI cS) yX4_lastColumn cX4_lastColumn 1 (some .int) 0 [Value.ref (a 12)] σ r := by
  refine enter (own := RX4) (o := f_X4_lastColumn__12 σ) (plainFor_of_name (by decide +kernel)) rfl (Nat.le_of_ble_eq_true rfl) hI wk_X4_lastColumn.1 h (fun Γ hRT => ?_)
  show G _ Γ _ _ _ _ _ _ σ [((0 : Nat), Value.ref (a 12))] 0 []
  unfold f_X4_lastColumn__12
  refine g_aload_n (pc := 0) 0 dX4_lastColumn_0 rfl rfl ?_
  refine g_get (pc := 1) 12 cN_12 rfl inlX4 9 (by decide) bw_4_7 rfl dX4_lastColumn_1 ?_
  exact g_iret (pc := 4) hRT dX4_lastColumn_4
set_option maxRecDepth 100000 in
set_option maxHeartbeats 4000000 in
theorem k_X10_put__58 {l : Launch} {D : va_G} {a : Nat → Nat} {cI cS : ClassId} (hI : ∀ σ : St, va_D (AN a) (cN a cI cS σ)) {σ : St} {x1 x2 : Int32} {r : Int32 × St} (h : f_X10_put__58 σ x1 x2 = some r) : Kc (SN l D a cI cS) yX10_put cX10_put 3 none 0 [Value.ref (a 58), Value.int x1, Value.int x2] σ r := by
  refine enter (own := RX10) (o := f_X10_put__58 σ x1 x2) (plainFor_of_name (by decide +kernel)) rfl (Nat.le_of_ble_eq_true rfl) hI wk_X10_put.1 h (fun Γ hRT => ?_)
  show G _ Γ _ _ _ _ _ _ σ [((0 : Nat), Value.ref (a 58)), ((1 : Nat), Value.int x1), ((2 : Nat), Value.int x2)] 0 []
  unfold f_X10_put__58
  refine g_aload_n (pc := 0) 0 dX10_put_0 rfl rfl ?_
  refine g_ifnull (pc := 1) dX10_put_1 ?_
  refine g_iload_n (pc := 4) 1 dX10_put_4 rfl rfl ?_
  refine g_if_lt (pc := 5) (tgt := 18) dX10_put_5 (by decide) ?_ ?_
  · exact g_vret (pc := 18) hRT dX10_put_18
  · refine g_iload_n (pc := 8) 1 dX10_put_8 rfl rfl ?_
    refine g_aload_n (pc := 9) 0 dX10_put_9 rfl rfl ?_
    refine g_alen (pc := 10) 58 0 (v := 16) cN_58 rfl (show Int32.ofNat 16 = 16 by decide) dX10_put_10 ?_
    refine g_icmp_ge (pc := 11) (tgt := 18) dX10_put_11 (by decide) ?_ ?_
    · exact g_vret (pc := 18) hRT dX10_put_18
    · refine g_aload_n (pc := 14) 0 dX10_put_14 rfl rfl ?_
      refine g_iload_n (pc := 15) 1 dX10_put_15 rfl rfl ?_
      refine g_iload_n (pc := 16) 2 dX10_put_16 rfl rfl ?_
      refine g_iast (pc := 17) 58 cN_58 rfl cN_s58 dX10_put_17 (fun s3 => ?_)
      exact g_vret (pc := 18) hRT dX10_put_18
set_option maxRecDepth 100000 in
set_option maxHeartbeats 4000000 in
theorem k_X10_at__58 {l : Launch} {D : va_G} {a : Nat → Nat} {cI cS : ClassId} (hI : ∀ σ : St, va_D (AN a) (cN a cI cS σ)) {σ : St} {x1 : Int32} {r : Int32 × St} (h : f_X10_at__58 σ x1 = some r) : Kc (SN l D a cI cS) yX10_at cX10_at 2 (some .int) 0 [Value.ref (a 58), Value.int x1] σ r := by
  refine enter (own := RX10) (o := f_X10_at__58 σ x1) (plainFor_of_name (by decide +kernel)) rfl (Nat.le_of_ble_eq_true rfl) hI wk_X10_at.1 h (fun Γ hRT => ?_)
  show G _ Γ _ _ _ _ _ _ σ [((0 : Nat), Value.ref (a 58)), ((1 : Nat), Value.int x1)] 0 []
  unfold f_X10_at__58
  refine g_aload_n (pc := 0) 0 dX10_at_0 rfl rfl ?_
  refine g_ifnull (pc := 1) dX10_at_1 ?_
  refine g_jq0 (pc2 := 20) (lf := ([] : List (Nat × Value))) (sf := ([] : List Value)) (fun s3 => ?_) (fun k2 hk2 => ?_)
  · show G _ Γ _ _ _ _ _ _ s3 ([] : List (Nat × Value)) 20 ([] : List Value)
    refine g_iconst (pc := 20) (v := 0) dX10_at_20 (by decide) ?_
    exact g_iret (pc := 21) hRT dX10_at_21
  · refine g_iload_n (pc := 4) 1 dX10_at_4 rfl rfl ?_
    refine g_if_lt (pc := 5) (tgt := 20) dX10_at_5 (by decide) ?_ ?_
    · exact g_lv [] rfl (hk2 σ)
    · refine g_iload_n (pc := 8) 1 dX10_at_8 rfl rfl ?_
      refine g_aload_n (pc := 9) 0 dX10_at_9 rfl rfl ?_
      refine g_alen (pc := 10) 58 0 (v := 16) cN_58 rfl (show Int32.ofNat 16 = 16 by decide) dX10_at_10 ?_
      refine g_icmp_ge (pc := 11) (tgt := 20) dX10_at_11 (by decide) ?_ ?_
      · exact g_lv [] rfl (hk2 σ)
      · refine g_aload_n (pc := 14) 0 dX10_at_14 rfl rfl ?_
        refine g_iload_n (pc := 15) 1 dX10_at_15 rfl rfl ?_
        refine g_iald (pc := 16) 58 cN_58 rfl dX10_at_16 ?_
        refine g_goto (pc := 17) (tgt := 21) dX10_at_17 (by decide) ?_
        exact g_iret (pc := 21) hRT dX10_at_21
set_option maxRecDepth 100000 in
set_option maxHeartbeats 4000000 in
theorem k_X1_letsInFromGossips__56 {l : Launch} {D : va_G} {a : Nat → Nat} {cI cS : ClassId} (hI : ∀ σ : St, va_D (AN a) (cN a cI cS σ)) {σ : St} {x1 x2 : Int32} {r : Int32 × St} (h : f_X1_letsInFromGossips__56 σ x1 x2 = some r) : Kc (SN l D a cI cS) yX1_letsInFromGossips cX1_letsInFromGossips 3 (some .boolean) 1 [Value.ref (a 56), Value.int x1, Value.int x2] σ r := by
  refine enter (own := RX1) (o := f_X1_letsInFromGossips__56 σ x1 x2) (plainFor_of_name (by decide +kernel)) rfl (Nat.le_of_ble_eq_true rfl) hI wk_X1_letsInFromGossips.1 h (fun Γ hRT => ?_)
  show G _ Γ _ _ _ _ _ _ σ [((0 : Nat), Value.ref (a 56)), ((1 : Nat), Value.int x1), ((2 : Nat), Value.int x2)] 0 []
  unfold f_X1_letsInFromGossips__56
  refine g_jq0 (pc2 := 22) (lf := ([] : List (Nat × Value))) (sf := ([] : List Value)) (fun s4 => ?_) (fun k3 hk3 => ?_)
  · show G _ Γ _ _ _ _ _ _ s4 ([] : List (Nat × Value)) 22 ([] : List Value)
    refine g_iconst (pc := 22) (v := 0) dX1_letsInFromGossips_22 (by decide) ?_
    exact g_zret1 (pc := 23) hRT (by decide) dX1_letsInFromGossips_23
  · refine g_iload_n (pc := 0) 2 dX1_letsInFromGossips_0 rfl rfl ?_
    refine g_if_le (pc := 1) (tgt := 22) dX1_letsInFromGossips_1 (by decide) ?_ ?_
    · exact g_lv [] rfl (hk3 σ)
    · refine g_iload_n (pc := 4) 2 dX1_letsInFromGossips_4 rfl rfl ?_
      refine g_aload_n (pc := 5) 0 dX1_letsInFromGossips_5 rfl rfl ?_
      refine g_get (pc := 6) 56 cN_56 rfl inlX1 3 (by decide) bw_5_6 rfl dX1_letsInFromGossips_6 ?_
      refine g_iload_n (pc := 9) 1 dX1_letsInFromGossips_9 rfl rfl ?_
      refine g_cNi (pc := 10) (As := [Value.ref (a 58), Value.int x1]) (fun r2 h2 => k_X10_at__58 hI h2) wk_X10_at ws_X10_at nst_RX1_98 (by decide) (by decide) rfl rfl (Nat.le_of_ble_eq_true rfl) dX1_letsInFromGossips_10 (fun r5 s6 => ?_)
      refine g_iconst (pc := 13) (v := 1) dX1_letsInFromGossips_13 (by decide) ?_
      refine g_isub (pc := 14) dX1_letsInFromGossips_14 ?_
      refine g_icmp_lt (pc := 15) (tgt := 22) dX1_letsInFromGossips_15 (by decide) ?_ ?_
      · exact g_lv [] rfl (hk3 s6)
      · refine g_iconst (pc := 18) (v := 1) dX1_letsInFromGossips_18 (by decide) ?_
        refine g_goto (pc := 19) (tgt := 23) dX1_letsInFromGossips_19 (by decide) ?_
        exact g_zret1 (pc := 23) hRT (by decide) dX1_letsInFromGossips_23
set_option maxRecDepth 100000 in
set_option maxHeartbeats 4000000 in
theorem k_X10_put__57 {l : Launch} {D : va_G} {a : Nat → Nat} {cI cS : ClassId} (hI : ∀ σ : St, va_D (AN a) (cN a cI cS σ)) {σ : St} {x1 x2 : Int32} {r : Int32 × St} (h : f_X10_put__57 σ x1 x2 = some r) : Kc (SN l D a cI cS) yX10_put cX10_put 3 none 0 [Value.ref (a 57), Value.int x1, Value.int x2] σ r := by
  refine enter (own := RX10) (o := f_X10_put__57 σ x1 x2) (plainFor_of_name (by decide +kernel)) rfl (Nat.le_of_ble_eq_true rfl) hI wk_X10_put.1 h (fun Γ hRT => ?_)
  show G _ Γ _ _ _ _ _ _ σ [((0 : Nat), Value.ref (a 57)), ((1 : Nat), Value.int x1), ((2 : Nat), Value.int x2)] 0 []
  unfold f_X10_put__57
  refine g_aload_n (pc := 0) 0 dX10_put_0 rfl rfl ?_
  refine g_ifnull (pc := 1) dX10_put_1 ?_
  refine g_iload_n (pc := 4) 1 dX10_put_4 rfl rfl ?_
  refine g_if_lt (pc := 5) (tgt := 18) dX10_put_5 (by decide) ?_ ?_
  · exact g_vret (pc := 18) hRT dX10_put_18
  · refine g_iload_n (pc := 8) 1 dX10_put_8 rfl rfl ?_
    refine g_aload_n (pc := 9) 0 dX10_put_9 rfl rfl ?_
    refine g_alen (pc := 10) 57 0 (v := 16) cN_57 rfl (show Int32.ofNat 16 = 16 by decide) dX10_put_10 ?_
    refine g_icmp_ge (pc := 11) (tgt := 18) dX10_put_11 (by decide) ?_ ?_
    · exact g_vret (pc := 18) hRT dX10_put_18
    · refine g_aload_n (pc := 14) 0 dX10_put_14 rfl rfl ?_
      refine g_iload_n (pc := 15) 1 dX10_put_15 rfl rfl ?_
      refine g_iload_n (pc := 16) 2 dX10_put_16 rfl rfl ?_
      refine g_iast (pc := 17) 57 cN_57 rfl cN_s57 dX10_put_17 (fun s3 => ?_)
      exact g_vret (pc := 18) hRT dX10_put_18
set_option maxRecDepth 100000 in
set_option maxHeartbeats 4000000 in
theorem k_X1_letsInFromTalkers__56 {l : Launch} {D : va_G} {a : Nat → Nat} {cI cS : ClassId} (hI : ∀ σ : St, va_D (AN a) (cN a cI cS σ)) {σ : St} {x1 x2 : Int32} {r : Int32 × St} (h : f_X1_letsInFromTalkers__56 σ x1 x2 = some r) : Kc (SN l D a cI cS) yX1_letsInFromTalkers cX1_letsInFromTalkers 3 (some .boolean) 1 [Value.ref (a 56), Value.int x1, Value.int x2] σ r := by
  refine enter (own := RX1) (o := f_X1_letsInFromTalkers__56 σ x1 x2) (plainFor_of_name (by decide +kernel)) rfl (Nat.le_of_ble_eq_true rfl) hI wk_X1_letsInFromTalkers.1 h (fun Γ hRT => ?_)
  show G _ Γ _ _ _ _ _ _ σ [((0 : Nat), Value.ref (a 56)), ((1 : Nat), Value.int x1), ((2 : Nat), Value.int x2)] 0 []
  unfold f_X1_letsInFromTalkers__56
  refine g_jq0 (pc2 := 20) (lf := ([] : List (Nat × Value))) (sf := ([] : List Value)) (fun s4 => ?_) (fun k3 hk3 => ?_)
  · show G _ Γ _ _ _ _ _ _ s4 ([] : List (Nat × Value)) 20 ([] : List Value)
    refine g_iconst (pc := 20) (v := 0) dX1_letsInFromTalkers_20 (by decide) ?_
    exact g_zret1 (pc := 21) hRT (by decide) dX1_letsInFromTalkers_21
  · refine g_iload_n (pc := 0) 2 dX1_letsInFromTalkers_0 rfl rfl ?_
    refine g_if_le (pc := 1) (tgt := 20) dX1_letsInFromTalkers_1 (by decide) ?_ ?_
    · exact g_lv [] rfl (hk3 σ)
    · refine g_iload_n (pc := 4) 2 dX1_letsInFromTalkers_4 rfl rfl ?_
      refine g_aload_n (pc := 5) 0 dX1_letsInFromTalkers_5 rfl rfl ?_
      refine g_get (pc := 6) 56 cN_56 rfl inlX1 3 (by decide) bw_5_6 rfl dX1_letsInFromTalkers_6 ?_
      refine g_iload_n (pc := 9) 1 dX1_letsInFromTalkers_9 rfl rfl ?_
      refine g_cNi (pc := 10) (As := [Value.ref (a 58), Value.int x1]) (fun r2 h2 => k_X10_at__58 hI h2) wk_X10_at ws_X10_at nst_RX1_98 (by decide) (by decide) rfl rfl (Nat.le_of_ble_eq_true rfl) dX1_letsInFromTalkers_10 (fun r5 s6 => ?_)
      refine g_icmp_lt (pc := 13) (tgt := 20) dX1_letsInFromTalkers_13 (by decide) ?_ ?_
      · exact g_lv [] rfl (hk3 s6)
      · refine g_iconst (pc := 16) (v := 1) dX1_letsInFromTalkers_16 (by decide) ?_
        refine g_goto (pc := 17) (tgt := 21) dX1_letsInFromTalkers_17 (by decide) ?_
        exact g_zret1 (pc := 21) hRT (by decide) dX1_letsInFromTalkers_21
set_option maxRecDepth 100000 in
set_option maxHeartbeats 4000000 in
theorem k_X1_reopen__56 {l : Launch} {D : va_G} {a : Nat → Nat} {cI cS : ClassId} (hI : ∀ σ : St, va_D (AN a) (cN a cI cS σ)) {σ : St} {x1 x2 : Int32} {r : Int32 × St} (h : f_X1_reopen__56 σ x1 x2 = some r) : Kc (SN l D a cI cS) yX1_reopen cX1_reopen 3 none 2 [Value.ref (a 56), Value.int x1, Value.int x2] σ r := by
  refine enter (own := RX1) (o := f_X1_reopen__56 σ x1 x2) (plainFor_of_name (by decide +kernel)) rfl (Nat.le_of_ble_eq_true rfl) hI wk_X1_reopen.1 h (fun Γ hRT => ?_)
  show G _ Γ _ _ _ _ _ _ σ [((0 : Nat), Value.ref (a 56)), ((1 : Nat), Value.int x1), ((2 : Nat), Value.int x2)] 0 []
  unfold f_X1_reopen__56
  refine g_jq1 (pc2 := 42) (lf := fun x4 => [((0 : Nat), Value.ref (a 56)), ((1 : Nat), Value.int x1), ((2 : Nat), Value.int x2)]) (sf := fun x4 => [Value.int x4, Value.ref (a 56)]) (fun s5 x4 => ?_) (fun k3 hk3 => ?_)
  · show G _ Γ _ _ _ _ _ _ s5 [((0 : Nat), Value.ref (a 56)), ((1 : Nat), Value.int x1), ((2 : Nat), Value.int x2)] 42 [Value.int x4, Value.ref (a 56)]
    refine g_put (pc := 42) 56 (ty := .int) cN_56 rfl inlX1 tyX1_ok nmX1 8 (by decide) bw_5_11 rfl (by decide +kernel) rfl rfl (Nat.le_of_ble_eq_true rfl) cN_f56_8 dX1_reopen_42 (fun s6 => ?_)
    refine g_aload_n (pc := 45) 0 dX1_reopen_45 rfl rfl ?_
    refine g_aload_n (pc := 46) 0 dX1_reopen_46 rfl rfl ?_
    refine g_iload_n (pc := 47) 1 dX1_reopen_47 rfl rfl ?_
    refine g_iload_n (pc := 48) 2 dX1_reopen_48 rfl rfl ?_
    refine g_cVz (pc := 49) 56 (As := [Value.int x1, Value.int x2]) (fun r2 h2 => k_X1_letsInFromGossips__56 hI h2) wk_X1_letsInFromGossips wv_X1_letsInFromGossips bw_25_21 cN_56 rfl (by decide) (by decide) rfl rfl (Nat.le_of_ble_eq_true rfl) dX1_reopen_49 (fun r7 s8 => ?_)
    refine g_if_eq (pc := 52) (tgt := 67) dX1_reopen_52 (by decide) ?_ ?_
    · refine g_aload_n (pc := 67) 0 dX1_reopen_67 rfl rfl ?_
      refine g_get (pc := 68) 56 cN_56 rfl inlX1 7 (by decide) bw_5_10 rfl dX1_reopen_68 ?_
      refine g_iload_n (pc := 71) 1 dX1_reopen_71 rfl rfl ?_
      refine g_cNi (pc := 72) (As := [Value.int x1]) (fun r2 h2 => k_X10_bit hI h2) wk_X10_bit ws_X10_bit nst_RX1_74 (by decide) (by decide) rfl rfl (Nat.le_of_ble_eq_true rfl) dX1_reopen_72 (fun r9 s10 => ?_)
      refine g_iconst (pc := 75) (v := -1) dX1_reopen_75 (by decide) ?_
      refine g_ixor (pc := 76) dX1_reopen_76 ?_
      refine g_iand (pc := 77) dX1_reopen_77 ?_
      refine g_put (pc := 78) 56 (ty := .int) cN_56 rfl inlX1 tyX1_ok nmX1 7 (by decide) bw_5_10 rfl (by decide +kernel) rfl rfl (Nat.le_of_ble_eq_true rfl) cN_f56_7 dX1_reopen_78 (fun s11 => ?_)
      exact g_vret (pc := 81) hRT dX1_reopen_81
    · refine g_aload_n (pc := 55) 0 dX1_reopen_55 rfl rfl ?_
      refine g_get (pc := 56) 56 cN_56 rfl inlX1 7 (by decide) bw_5_10 rfl dX1_reopen_56 ?_
      refine g_iload_n (pc := 59) 1 dX1_reopen_59 rfl rfl ?_
      refine g_cNi (pc := 60) (As := [Value.int x1]) (fun r2 h2 => k_X10_bit hI h2) wk_X10_bit ws_X10_bit nst_RX1_74 (by decide) (by decide) rfl rfl (Nat.le_of_ble_eq_true rfl) dX1_reopen_60 (fun r12 s13 => ?_)
      refine g_ior (pc := 63) dX1_reopen_63 ?_
      refine g_goto (pc := 64) (tgt := 78) dX1_reopen_64 (by decide) ?_
      refine g_put (pc := 78) 56 (ty := .int) cN_56 rfl inlX1 tyX1_ok nmX1 7 (by decide) bw_5_10 rfl (by decide +kernel) rfl rfl (Nat.le_of_ble_eq_true rfl) cN_f56_7 dX1_reopen_78 (fun s14 => ?_)
      exact g_vret (pc := 81) hRT dX1_reopen_81
  · refine g_aload_n (pc := 0) 0 dX1_reopen_0 rfl rfl ?_
    refine g_get (pc := 1) 56 cN_56 rfl inlX1 2 (by decide) bw_5_5 rfl dX1_reopen_1 ?_
    refine g_iload_n (pc := 4) 1 dX1_reopen_4 rfl rfl ?_
    refine g_iload_n (pc := 5) 2 dX1_reopen_5 rfl rfl ?_
    refine g_cNv (pc := 6) (As := [Value.ref (a 57), Value.int x1, Value.int x2]) (fun r2 h2 => k_X10_put__57 hI h2) wk_X10_put ws_X10_put nst_RX1_80 (by decide) (by decide) rfl rfl (Nat.le_of_ble_eq_true rfl) dX1_reopen_6 (fun r15 s16 => ?_)
    refine g_aload_n (pc := 9) 0 dX1_reopen_9 rfl rfl ?_
    refine g_aload_n (pc := 10) 0 dX1_reopen_10 rfl rfl ?_
    refine g_iload_n (pc := 11) 1 dX1_reopen_11 rfl rfl ?_
    refine g_iload_n (pc := 12) 2 dX1_reopen_12 rfl rfl ?_
    refine g_cVz (pc := 13) 56 (As := [Value.int x1, Value.int x2]) (fun r2 h2 => k_X1_letsInFromTalkers__56 hI h2) wk_X1_letsInFromTalkers wv_X1_letsInFromTalkers bw_25_17 cN_56 rfl (by decide) (by decide) rfl rfl (Nat.le_of_ble_eq_true rfl) dX1_reopen_13 (fun r17 s18 => ?_)
    refine g_if_eq (pc := 16) (tgt := 31) dX1_reopen_16 (by decide) ?_ ?_
    · refine g_aload_n (pc := 31) 0 dX1_reopen_31 rfl rfl ?_
      refine g_get (pc := 32) 56 cN_56 rfl inlX1 8 (by decide) bw_5_11 rfl dX1_reopen_32 ?_
      refine g_iload_n (pc := 35) 1 dX1_reopen_35 rfl rfl ?_
      refine g_cNi (pc := 36) (As := [Value.int x1]) (fun r2 h2 => k_X10_bit hI h2) wk_X10_bit ws_X10_bit nst_RX1_74 (by decide) (by decide) rfl rfl (Nat.le_of_ble_eq_true rfl) dX1_reopen_36 (fun r19 s20 => ?_)
      refine g_iconst (pc := 39) (v := -1) dX1_reopen_39 (by decide) ?_
      refine g_ixor (pc := 40) dX1_reopen_40 ?_
      refine g_iand (pc := 41) dX1_reopen_41 ?_
      exact hk3 s20 _
    · refine g_aload_n (pc := 19) 0 dX1_reopen_19 rfl rfl ?_
      refine g_get (pc := 20) 56 cN_56 rfl inlX1 8 (by decide) bw_5_11 rfl dX1_reopen_20 ?_
      refine g_iload_n (pc := 23) 1 dX1_reopen_23 rfl rfl ?_
      refine g_cNi (pc := 24) (As := [Value.int x1]) (fun r2 h2 => k_X10_bit hI h2) wk_X10_bit ws_X10_bit nst_RX1_74 (by decide) (by decide) rfl rfl (Nat.le_of_ble_eq_true rfl) dX1_reopen_24 (fun r21 s22 => ?_)
      refine g_ior (pc := 27) dX1_reopen_27 ?_
      refine g_goto (pc := 28) (tgt := 42) dX1_reopen_28 (by decide) ?_
      exact hk3 s22 _
set_option maxRecDepth 100000 in
set_option maxHeartbeats 4000000 in
theorem k_X1_pick__56 {l : Launch} {D : va_G} {a : Nat → Nat} {cI cS : ClassId} (hI : ∀ σ : St, va_D (AN a) (cN a cI cS σ)) {σ : St} {x1 : Int32} {r : Int32 × St} (h : f_X1_pick__56 σ x1 = some r) : Kc (SN l D a cI cS) yX1_pick cX1_pick 6 none 3 [Value.ref (a 56), Value.int x1] σ r := by
  refine enter (own := RX1) (o := f_X1_pick__56 σ x1) (plainFor_of_name (by decide +kernel)) rfl (Nat.le_of_ble_eq_true rfl) hI wk_X1_pick.1 h (fun Γ hRT => ?_)
  show G _ Γ _ _ _ _ _ _ σ [((0 : Nat), Value.ref (a 56)), ((1 : Nat), Value.int x1)] 0 []
  unfold f_X1_pick__56
  refine g_jq1 (pc2 := 17) (lf := fun x3 => [((0 : Nat), Value.ref (a 56)), ((1 : Nat), Value.int x1)]) (sf := fun x3 => [Value.int x3]) (fun s4 x3 => ?_) (fun k2 hk2 => ?_)
  · show G _ Γ _ _ _ _ _ _ s4 [((0 : Nat), Value.ref (a 56)), ((1 : Nat), Value.int x1)] 17 [Value.int x3]
    refine g_istore_n (pc := 17) [1, 2, 0] (lv1 := [(0, Value.ref (a 56)), (1, Value.int x1), (2, Value.int x3)]) dX1_pick_17 rfl (by decide) rfl ?_
    refine g_aload_n (pc := 18) 0 dX1_pick_18 rfl rfl ?_
    refine g_aload_n (pc := 19) 0 dX1_pick_19 rfl rfl ?_
    refine g_get (pc := 20) 56 cN_56 rfl inlX1 1 (by decide) bw_5_16 rfl dX1_pick_20 ?_
    refine g_iload_n (pc := 23) 1 dX1_pick_23 rfl rfl ?_
    refine g_cVi (pc := 24) 19 (As := [Value.int x1]) (fun r2 h2 => k_X9_whoKnows__19 hI h2) wk_X9_whoKnows wv_X9_whoKnows bw_24_20 cN_19 rfl (by decide) (by decide) rfl rfl (Nat.le_of_ble_eq_true rfl) dX1_pick_24 (fun r5 s6 => ?_)
    refine g_put (pc := 27) 56 (ty := .int) cN_56 rfl inlX1 tyX1_ok nmX1 4 (by decide) bw_5_7 rfl (by decide +kernel) rfl rfl (Nat.le_of_ble_eq_true rfl) cN_f56_4 dX1_pick_27 (fun s7 => ?_)
    refine g_aload_n (pc := 30) 0 dX1_pick_30 rfl rfl ?_
    refine g_iconst (pc := 31) (v := 0) dX1_pick_31 (by decide) ?_
    refine g_put (pc := 32) 56 (ty := .int) cN_56 rfl inlX1 tyX1_ok nmX1 5 (by decide) bw_5_8 rfl (by decide +kernel) rfl rfl (Nat.le_of_ble_eq_true rfl) cN_f56_5 dX1_pick_32 (fun s8 => ?_)
    refine g_aload_n (pc := 35) 0 dX1_pick_35 rfl rfl ?_
    refine g_iconst (pc := 36) (v := 0) dX1_pick_36 (by decide) ?_
    refine g_put (pc := 37) 56 (ty := .int) cN_56 rfl inlX1 tyX1_ok nmX1 6 (by decide) bw_5_9 rfl (by decide +kernel) rfl rfl (Nat.le_of_ble_eq_true rfl) cN_f56_6 dX1_pick_37 (fun s9 => ?_)
    refine g_aload_n (pc := 40) 0 dX1_pick_40 rfl rfl ?_
    refine g_iconst (pc := 41) (v := 0) dX1_pick_41 (by decide) ?_
    refine g_put (pc := 42) 56 (ty := .int) cN_56 rfl inlX1 tyX1_ok nmX1 7 (by decide) bw_5_10 rfl (by decide +kernel) rfl rfl (Nat.le_of_ble_eq_true rfl) cN_f56_7 dX1_pick_42 (fun s10 => ?_)
    refine g_aload_n (pc := 45) 0 dX1_pick_45 rfl rfl ?_
    refine g_iconst (pc := 46) (v := 0) dX1_pick_46 (by decide) ?_
    refine g_put (pc := 47) 56 (ty := .int) cN_56 rfl inlX1 tyX1_ok nmX1 8 (by decide) bw_5_11 rfl (by decide +kernel) rfl rfl (Nat.le_of_ble_eq_true rfl) cN_f56_8 dX1_pick_47 (fun s11 => ?_)
    refine g_aload_n (pc := 50) 0 dX1_pick_50 rfl rfl ?_
    refine g_aload_n (pc := 51) 0 dX1_pick_51 rfl rfl ?_
    refine g_get (pc := 52) 56 cN_56 rfl inlX1 0 (by decide) bw_5_15 rfl dX1_pick_52 ?_
    refine g_cVi (pc := 55) 12 (As := []) (fun r2 h2 => k_X4_columns__12 hI h2) wk_X4_columns wv_X4_columns bw_24_21 cN_12 rfl (by decide) (by decide) rfl rfl (Nat.le_of_ble_eq_true rfl) dX1_pick_55 (fun r12 s13 => ?_)
    refine g_put (pc := 58) 56 (ty := .int) cN_56 rfl inlX1 tyX1_ok nmX1 9 (by decide) bw_5_12 rfl (by decide +kernel) rfl rfl (Nat.le_of_ble_eq_true rfl) cN_f56_9 dX1_pick_58 (fun s14 => ?_)
    refine g_aload_n (pc := 61) 0 dX1_pick_61 rfl rfl ?_
    refine g_aload_n (pc := 62) 0 dX1_pick_62 rfl rfl ?_
    refine g_get (pc := 63) 56 cN_56 rfl inlX1 0 (by decide) bw_5_15 rfl dX1_pick_63 ?_
    refine g_cVi (pc := 66) 12 (As := []) (fun r2 h2 => k_X4_firstColumn__12 hI h2) wk_X4_firstColumn wv_X4_firstColumn bw_25_1 cN_12 rfl (by decide) (by decide) rfl rfl (Nat.le_of_ble_eq_true rfl) dX1_pick_66 (fun r15 s16 => ?_)
    refine g_put (pc := 69) 56 (ty := .int) cN_56 rfl inlX1 tyX1_ok nmX1 10 (by decide) bw_5_13 rfl (by decide +kernel) rfl rfl (Nat.le_of_ble_eq_true rfl) cN_f56_10 dX1_pick_69 (fun s17 => ?_)
    refine g_aload_n (pc := 72) 0 dX1_pick_72 rfl rfl ?_
    refine g_aload_n (pc := 73) 0 dX1_pick_73 rfl rfl ?_
    refine g_get (pc := 74) 56 cN_56 rfl inlX1 0 (by decide) bw_5_15 rfl dX1_pick_74 ?_
    refine g_cVi (pc := 77) 12 (As := []) (fun r2 h2 => k_X4_lastColumn__12 hI h2) wk_X4_lastColumn wv_X4_lastColumn bw_25_5 cN_12 rfl (by decide) (by decide) rfl rfl (Nat.le_of_ble_eq_true rfl) dX1_pick_77 (fun r18 s19 => ?_)
    refine g_put (pc := 80) 56 (ty := .int) cN_56 rfl inlX1 tyX1_ok nmX1 11 (by decide) bw_5_14 rfl (by decide +kernel) rfl rfl (Nat.le_of_ble_eq_true rfl) cN_f56_11 dX1_pick_80 (fun s20 => ?_)
    refine g_iconst (pc := 83) (v := 0) dX1_pick_83 (by decide) ?_
    refine g_istore_n (pc := 84) [1, 2, 3, 0] (lv1 := [(0, Value.ref (a 56)), (1, Value.int x1), (2, Value.int x3), (3, Value.int (0 : Int32))]) dX1_pick_84 rfl (by decide) rfl ?_
    refine g_lq1 (pc := 85) (lf := fun x22 => [((0 : Nat), Value.ref (a 56)), ((1 : Nat), Value.int x1), ((2 : Nat), Value.int x3), ((3 : Nat), Value.int x22)]) (sf := fun x22 => ([] : List Value)) (fun k21 hk21 s23 x22 => ?_) 100000 s20 _
    show G _ Γ _ _ _ _ _ _ s23 [((0 : Nat), Value.ref (a 56)), ((1 : Nat), Value.int x1), ((2 : Nat), Value.int x3), ((3 : Nat), Value.int x22)] 85 ([] : List Value)
    refine g_iload_n (pc := 85) 3 dX1_pick_85 rfl rfl ?_
    refine g_aload_n (pc := 86) 0 dX1_pick_86 rfl rfl ?_
    refine g_get (pc := 87) 56 cN_56 rfl inlX1 0 (by decide) bw_5_15 rfl dX1_pick_87 ?_
    refine g_cVi (pc := 90) 12 (As := []) (fun r2 h2 => k_X4_houses__12 hI h2) wk_X4_houses wv_X4_houses bw_25_9 cN_12 rfl (by decide) (by decide) rfl rfl (Nat.le_of_ble_eq_true rfl) dX1_pick_90 (fun r24 s25 => ?_)
    refine g_icmp_ge (pc := 93) (tgt := 223) dX1_pick_93 (by decide) ?_ ?_
    · exact g_vret (pc := 223) hRT dX1_pick_223
    · refine g_jq2 (pc2 := 127) (lf := fun x27 x28 => [((0 : Nat), Value.ref (a 56)), ((1 : Nat), Value.int x1), ((2 : Nat), Value.int x3), ((3 : Nat), Value.int x22), ((4 : Nat), Value.int x27)]) (sf := fun x27 x28 => [Value.int x28]) (fun s29 x27 x28 => ?_) (fun k26 hk26 => ?_)
      · show G _ Γ _ _ _ _ _ _ s29 [((0 : Nat), Value.ref (a 56)), ((1 : Nat), Value.int x1), ((2 : Nat), Value.int x3), ((3 : Nat), Value.int x22), ((4 : Nat), Value.int x27)] 127 [Value.int x28]
        refine g_jq0 (pc2 := 169) (lf := [((0 : Nat), Value.ref (a 56)), ((1 : Nat), Value.int x1), ((2 : Nat), Value.int x3), ((3 : Nat), Value.int x22), ((4 : Nat), Value.int x27)]) (sf := ([] : List Value)) (fun s31 => ?_) (fun k30 hk30 => ?_)
        · show G _ Γ _ _ _ _ _ _ s31 [((0 : Nat), Value.ref (a 56)), ((1 : Nat), Value.int x1), ((2 : Nat), Value.int x3), ((3 : Nat), Value.int x22), ((4 : Nat), Value.int x27)] 169 ([] : List Value)
          refine g_jq2 (pc2 := 201) (lf := fun x33 x34 => [((0 : Nat), Value.ref (a 56)), ((1 : Nat), Value.int x1), ((2 : Nat), Value.int x3), ((3 : Nat), Value.int x22)]) (sf := fun x33 x34 => [Value.int x33, Value.int x34, Value.ref (a 58)]) (fun s35 x33 x34 => ?_) (fun k32 hk32 => ?_)
          · show G _ Γ _ _ _ _ _ _ s35 [((0 : Nat), Value.ref (a 56)), ((1 : Nat), Value.int x1), ((2 : Nat), Value.int x3), ((3 : Nat), Value.int x22)] 201 [Value.int x33, Value.int x34, Value.ref (a 58)]
            refine g_cNv (pc := 201) (As := [Value.ref (a 58), Value.int x34, Value.int x33]) (fun r2 h2 => k_X10_put__58 hI h2) wk_X10_put ws_X10_put nst_RX1_80 (by decide) (by decide) rfl rfl (Nat.le_of_ble_eq_true rfl) dX1_pick_201 (fun r36 s37 => ?_)
            refine g_aload_n (pc := 204) 0 dX1_pick_204 rfl rfl ?_
            refine g_iload_n (pc := 205) 3 dX1_pick_205 rfl rfl ?_
            refine g_aload_n (pc := 206) 0 dX1_pick_206 rfl rfl ?_
            refine g_get (pc := 207) 56 cN_56 rfl inlX1 1 (by decide) bw_5_16 rfl dX1_pick_207 ?_
            refine g_iload_n (pc := 210) 3 dX1_pick_210 rfl rfl ?_
            refine g_cVi (pc := 211) 19 (As := [Value.int x22]) (fun r2 h2 => k_X9_sashOf__19 hI h2) wk_X9_sashOf wv_X9_sashOf bw_25_12 cN_19 rfl (by decide) (by decide) rfl rfl (Nat.le_of_ble_eq_true rfl) dX1_pick_211 (fun r38 s39 => ?_)
            refine g_cVv (pc := 214) 56 (As := [Value.int x22, Value.int r38]) (fun r2 h2 => k_X1_reopen__56 hI h2) wk_X1_reopen wv_X1_reopen bw_25_13 cN_56 rfl (by decide) (by decide) rfl rfl (Nat.le_of_ble_eq_true rfl) dX1_pick_214 (fun r40 s41 => ?_)
            refine g_iinc (pc := 217) [1, 2, 3, 0] 3 (n1 := 1) (lv1 := fun x42 => [(0, Value.ref (a 56)), (1, Value.int x1), (2, Value.int x3), (3, Value.int x42)]) dX1_pick_217 rfl (by decide) (by decide) (fun _ => rfl) (fun x42 => ?_)
            show G _ Γ _ _ _ _ _ _ _ [(0, Value.ref (a 56)), (1, Value.int x1), (2, Value.int x3), (3, Value.int x42)] (217 + 3) _
            refine g_goto (pc := 220) (tgt := 85) dX1_pick_220 (by decide) ?_
            exact hk21 s41 _
          · refine g_aload_n (pc := 169) 0 dX1_pick_169 rfl rfl ?_
            refine g_get (pc := 170) 56 cN_56 rfl inlX1 3 (by decide) bw_5_6 rfl dX1_pick_170 ?_
            refine g_iload_n (pc := 173) 3 dX1_pick_173 rfl rfl ?_
            refine g_iload (pc := 174) 4 dX1_pick_174 rfl ?_
            refine g_iconst (pc := 176) (v := 2) dX1_pick_176 (by decide) ?_
            refine g_icmp_ne (pc := 177) (tgt := 193) dX1_pick_177 (by decide) ?_ ?_
            · refine g_aload_n (pc := 193) 0 dX1_pick_193 rfl rfl ?_
              refine g_get (pc := 194) 56 cN_56 rfl inlX1 0 (by decide) bw_5_15 rfl dX1_pick_194 ?_
              refine g_iload_n (pc := 197) 1 dX1_pick_197 rfl rfl ?_
              refine g_cVi (pc := 198) 12 (As := [Value.int x1]) (fun r2 h2 => k_X4_weightOf__12 hI h2) wk_X4_weightOf wv_X4_weightOf bw_25_11 cN_12 rfl (by decide) (by decide) rfl rfl (Nat.le_of_ble_eq_true rfl) dX1_pick_198 (fun r43 s44 => ?_)
              exact g_lv [0, 1, 2, 3] rfl (hk32 s44 _ _)
            · refine g_aload_n (pc := 180) 0 dX1_pick_180 rfl rfl ?_
              refine g_get (pc := 181) 56 cN_56 rfl inlX1 0 (by decide) bw_5_15 rfl dX1_pick_181 ?_
              refine g_iload_n (pc := 184) 1 dX1_pick_184 rfl rfl ?_
              refine g_cVi (pc := 185) 12 (As := [Value.int x1]) (fun r2 h2 => k_X4_weightOf__12 hI h2) wk_X4_weightOf wv_X4_weightOf bw_25_11 cN_12 rfl (by decide) (by decide) rfl rfl (Nat.le_of_ble_eq_true rfl) dX1_pick_185 (fun r45 s46 => ?_)
              refine g_iconst (pc := 188) (v := 1) dX1_pick_188 (by decide) ?_
              refine g_iadd (pc := 189) dX1_pick_189 ?_
              refine g_goto (pc := 190) (tgt := 201) dX1_pick_190 (by decide) ?_
              exact g_lv [0, 1, 2, 3] rfl (hk32 s46 _ _)
        · refine g_istore (pc := 127) [1, 2, 3, 4, 5, 0] (lv1 := [(0, Value.ref (a 56)), (1, Value.int x1), (2, Value.int x3), (3, Value.int x22), (4, Value.int x27), (5, Value.int x28)]) dX1_pick_127 (by decide) rfl ?_
          refine g_iload (pc := 129) 4 dX1_pick_129 rfl ?_
          refine g_iconst (pc := 131) (v := 1) dX1_pick_131 (by decide) ?_
          refine g_icmp_ne (pc := 132) (tgt := 151) dX1_pick_132 (by decide) ?_ ?_
          · refine g_iload (pc := 151) 5 dX1_pick_151 rfl ?_
            refine g_if_ne (pc := 153) (tgt := 169) dX1_pick_153 (by decide) ?_ ?_
            · exact g_lv [0, 1, 2, 3, 4] rfl (hk30 s29)
            · refine g_aload_n (pc := 156) 0 dX1_pick_156 rfl rfl ?_
              refine g_dup (pc := 157) dX1_pick_157 rfl ?_
              refine g_get (pc := 158) 56 cN_56 rfl inlX1 6 (by decide) bw_5_9 rfl dX1_pick_158 ?_
              refine g_iload_n (pc := 161) 3 dX1_pick_161 rfl rfl ?_
              refine g_cNi (pc := 162) (As := [Value.int x22]) (fun r2 h2 => k_X10_bit hI h2) wk_X10_bit ws_X10_bit nst_RX1_74 (by decide) (by decide) rfl rfl (Nat.le_of_ble_eq_true rfl) dX1_pick_162 (fun r47 s48 => ?_)
              refine g_ior (pc := 165) dX1_pick_165 ?_
              refine g_put (pc := 166) 56 (ty := .int) cN_56 rfl inlX1 tyX1_ok nmX1 6 (by decide) bw_5_9 rfl (by decide +kernel) rfl rfl (Nat.le_of_ble_eq_true rfl) cN_f56_6 dX1_pick_166 (fun s49 => ?_)
              exact g_lv [0, 1, 2, 3, 4] rfl (hk30 s49)
          · refine g_aload_n (pc := 135) 0 dX1_pick_135 rfl rfl ?_
            refine g_dup (pc := 136) dX1_pick_136 rfl ?_
            refine g_get (pc := 137) 56 cN_56 rfl inlX1 5 (by decide) bw_5_8 rfl dX1_pick_137 ?_
            refine g_iload_n (pc := 140) 3 dX1_pick_140 rfl rfl ?_
            refine g_cNi (pc := 141) (As := [Value.int x22]) (fun r2 h2 => k_X10_bit hI h2) wk_X10_bit ws_X10_bit nst_RX1_74 (by decide) (by decide) rfl rfl (Nat.le_of_ble_eq_true rfl) dX1_pick_141 (fun r50 s51 => ?_)
            refine g_ior (pc := 144) dX1_pick_144 ?_
            refine g_put (pc := 145) 56 (ty := .int) cN_56 rfl inlX1 tyX1_ok nmX1 5 (by decide) bw_5_8 rfl (by decide +kernel) rfl rfl (Nat.le_of_ble_eq_true rfl) cN_f56_5 dX1_pick_145 (fun s52 => ?_)
            refine g_goto (pc := 148) (tgt := 169) dX1_pick_148 (by decide) ?_
            exact g_lv [0, 1, 2, 3, 4] rfl (hk30 s52)
      · refine g_jq1 (pc2 := 122) (lf := fun x54 => [((0 : Nat), Value.ref (a 56)), ((1 : Nat), Value.int x1), ((2 : Nat), Value.int x3), ((3 : Nat), Value.int x22), ((4 : Nat), Value.int x54)]) (sf := fun x54 => ([] : List Value)) (fun s55 x54 => ?_) (fun k53 hk53 => ?_)
        · show G _ Γ _ _ _ _ _ _ s55 [((0 : Nat), Value.ref (a 56)), ((1 : Nat), Value.int x1), ((2 : Nat), Value.int x3), ((3 : Nat), Value.int x22), ((4 : Nat), Value.int x54)] 122 ([] : List Value)
          refine g_iconst (pc := 122) (v := 1) dX1_pick_122 (by decide) ?_
          refine g_goto (pc := 123) (tgt := 127) dX1_pick_123 (by decide) ?_
          exact hk26 s55 _ _
        · refine g_aload_n (pc := 96) 0 dX1_pick_96 rfl rfl ?_
          refine g_get (pc := 97) 56 cN_56 rfl inlX1 0 (by decide) bw_5_15 rfl dX1_pick_97 ?_
          refine g_iload_n (pc := 100) 3 dX1_pick_100 rfl rfl ?_
          refine g_cVi (pc := 101) 12 (As := [Value.int x22]) (fun r2 h2 => k_X4_kindOf__12 hI h2) wk_X4_kindOf wv_X4_kindOf bw_25_10 cN_12 rfl (by decide) (by decide) rfl rfl (Nat.le_of_ble_eq_true rfl) dX1_pick_101 (fun r56 s57 => ?_)
          refine g_istore (pc := 104) [1, 2, 3, 4, 0] (lv1 := [(0, Value.ref (a 56)), (1, Value.int x1), (2, Value.int x3), (3, Value.int x22), (4, Value.int r56)]) dX1_pick_104 (by decide) rfl ?_
          refine g_iload (pc := 106) 4 dX1_pick_106 rfl ?_
          refine g_iconst (pc := 108) (v := 3) dX1_pick_108 (by decide) ?_
          refine g_icmp_eq (pc := 109) (tgt := 122) dX1_pick_109 (by decide) ?_ ?_
          · exact hk53 s57 _
          · refine g_jq0 (pc2 := 126) (lf := [((0 : Nat), Value.ref (a 56)), ((1 : Nat), Value.int x1), ((2 : Nat), Value.int x3), ((3 : Nat), Value.int x22), ((4 : Nat), Value.int r56)]) (sf := ([] : List Value)) (fun s59 => ?_) (fun k58 hk58 => ?_)
            · show G _ Γ _ _ _ _ _ _ s59 [((0 : Nat), Value.ref (a 56)), ((1 : Nat), Value.int x1), ((2 : Nat), Value.int x3), ((3 : Nat), Value.int x22), ((4 : Nat), Value.int r56)] 126 ([] : List Value)
              refine g_iconst (pc := 126) (v := 0) dX1_pick_126 (by decide) ?_
              exact hk26 s59 _ _
            · refine g_iload (pc := 112) 4 dX1_pick_112 rfl ?_
              refine g_iconst (pc := 114) (v := 4) dX1_pick_114 (by decide) ?_
              refine g_icmp_ne (pc := 115) (tgt := 126) dX1_pick_115 (by decide) ?_ ?_
              · exact hk58 s57
              · refine g_iload_n (pc := 118) 2 dX1_pick_118 rfl rfl ?_
                refine g_if_eq (pc := 119) (tgt := 126) dX1_pick_119 (by decide) ?_ ?_
                · exact hk58 s57
                · exact hk53 s57 _
  · refine g_aload_n (pc := 0) 0 dX1_pick_0 rfl rfl ?_
    refine g_get (pc := 1) 56 cN_56 rfl inlX1 0 (by decide) bw_5_15 rfl dX1_pick_1 ?_
    refine g_iload_n (pc := 4) 1 dX1_pick_4 rfl rfl ?_
    refine g_cVi (pc := 5) 12 (As := [Value.int x1]) (fun r2 h2 => k_X4_newsKindOf__12 hI h2) wk_X4_newsKindOf wv_X4_newsKindOf bw_24_19 cN_12 rfl (by decide) (by decide) rfl rfl (Nat.le_of_ble_eq_true rfl) dX1_pick_5 (fun r60 s61 => ?_)
    refine g_iconst (pc := 8) (v := 2) dX1_pick_8 (by decide) ?_
    refine g_icmp_ne (pc := 9) (tgt := 16) dX1_pick_9 (by decide) ?_ ?_
    · refine g_iconst (pc := 16) (v := 0) dX1_pick_16 (by decide) ?_
      exact hk2 s61 _
    · refine g_iconst (pc := 12) (v := 1) dX1_pick_12 (by decide) ?_
      refine g_goto (pc := 13) (tgt := 17) dX1_pick_13 (by decide) ?_
      exact hk2 s61 _
set_option maxRecDepth 100000 in
set_option maxHeartbeats 4000000 in
theorem k_X1_whoKnows__56 {l : Launch} {D : va_G} {a : Nat → Nat} {cI cS : ClassId} (hI : ∀ σ : St, va_D (AN a) (cN a cI cS σ)) {σ : St} {r : Int32 × St} (h : f_X1_whoKnows__56 σ = some r) : Kc (SN l D a cI cS) yX1_whoKnows cX1_whoKnows 1 (some .int) 0 [Value.ref (a 56)] σ r := by
  refine enter (own := RX1) (o := f_X1_whoKnows__56 σ) (plainFor_of_name (by decide +kernel)) rfl (Nat.le_of_ble_eq_true rfl) hI wk_X1_whoKnows.1 h (fun Γ hRT => ?_)
  show G _ Γ _ _ _ _ _ _ σ [((0 : Nat), Value.ref (a 56))] 0 []
  unfold f_X1_whoKnows__56
  refine g_aload_n (pc := 0) 0 dX1_whoKnows_0 rfl rfl ?_
  refine g_get (pc := 1) 56 cN_56 rfl inlX1 4 (by decide) bw_5_7 rfl dX1_whoKnows_1 ?_
  exact g_iret (pc := 4) hRT dX1_whoKnows_4
set_option maxRecDepth 100000 in
set_option maxHeartbeats 4000000 in
theorem k_X1_onward__56 {l : Launch} {D : va_G} {a : Nat → Nat} {cI cS : ClassId} (hI : ∀ σ : St, va_D (AN a) (cN a cI cS σ)) {σ : St} {x1 x2 : Int32} {r : Int32 × St} (h : f_X1_onward__56 σ x1 x2 = some r) : Kc (SN l D a cI cS) yX1_onward cX1_onward 6 (some .int) 0 [Value.ref (a 56), Value.int x1, Value.int x2] σ r := by
  refine enter (own := RX1) (o := f_X1_onward__56 σ x1 x2) (plainFor_of_name (by decide +kernel)) rfl (Nat.le_of_ble_eq_true rfl) hI wk_X1_onward.1 h (fun Γ hRT => ?_)
  show G _ Γ _ _ _ _ _ _ σ [((0 : Nat), Value.ref (a 56)), ((1 : Nat), Value.int x1), ((2 : Nat), Value.int x2)] 0 []
  unfold f_X1_onward__56
  refine g_jq3 (pc2 := 60) (lf := fun x4 x5 x6 => [((0 : Nat), Value.ref (a 56)), ((2 : Nat), Value.int x2), ((3 : Nat), Value.int x4), ((4 : Nat), Value.int x5), ((5 : Nat), Value.int x6)]) (sf := fun x4 x5 x6 => ([] : List Value)) (fun s7 x4 x5 x6 => ?_) (fun k3 hk3 => ?_)
  · show G _ Γ _ _ _ _ _ _ s7 [((0 : Nat), Value.ref (a 56)), ((2 : Nat), Value.int x2), ((3 : Nat), Value.int x4), ((4 : Nat), Value.int x5), ((5 : Nat), Value.int x6)] 60 ([] : List Value)
    refine g_jq1 (pc2 := 110) (lf := fun x9 => [((0 : Nat), Value.ref (a 56)), ((2 : Nat), Value.int x2), ((3 : Nat), Value.int x4), ((4 : Nat), Value.int x5), ((5 : Nat), Value.int x9)]) (sf := fun x9 => ([] : List Value)) (fun s10 x9 => ?_) (fun k8 hk8 => ?_)
    · show G _ Γ _ _ _ _ _ _ s10 [((0 : Nat), Value.ref (a 56)), ((2 : Nat), Value.int x2), ((3 : Nat), Value.int x4), ((4 : Nat), Value.int x5), ((5 : Nat), Value.int x9)] 110 ([] : List Value)
      refine g_jq1 (pc2 := 152) (lf := fun x12 => [((0 : Nat), Value.ref (a 56)), ((2 : Nat), Value.int x2), ((3 : Nat), Value.int x4), ((4 : Nat), Value.int x5), ((5 : Nat), Value.int x12)]) (sf := fun x12 => ([] : List Value)) (fun s13 x12 => ?_) (fun k11 hk11 => ?_)
      · show G _ Γ _ _ _ _ _ _ s13 [((0 : Nat), Value.ref (a 56)), ((2 : Nat), Value.int x2), ((3 : Nat), Value.int x4), ((4 : Nat), Value.int x5), ((5 : Nat), Value.int x12)] 152 ([] : List Value)
        refine g_jq0 (pc2 := 161) (lf := [((0 : Nat), Value.ref (a 56)), ((3 : Nat), Value.int x4), ((4 : Nat), Value.int x5), ((5 : Nat), Value.int x12)]) (sf := ([] : List Value)) (fun s15 => ?_) (fun k14 hk14 => ?_)
        · show G _ Γ _ _ _ _ _ _ s15 [((0 : Nat), Value.ref (a 56)), ((3 : Nat), Value.int x4), ((4 : Nat), Value.int x5), ((5 : Nat), Value.int x12)] 161 ([] : List Value)
          refine g_iload (pc := 161) 3 dX1_onward_161 rfl ?_
          refine g_iload_n (pc := 163) 1 dX1_onward_163 rfl rfl ?_
          refine g_aload_n (pc := 164) 0 dX1_onward_164 rfl rfl ?_
          refine g_get (pc := 165) 56 cN_56 rfl inlX1 10 (by decide) bw_5_13 rfl dX1_onward_165 ?_
          refine g_iconst (pc := 168) (v := -1) dX1_onward_168 (by decide) ?_
          refine g_ixor (pc := 169) dX1_onward_169 ?_
          refine g_iand (pc := 170) dX1_onward_170 ?_
          refine g_iconst (pc := 171) (v := 1) dX1_onward_171 (by decide) ?_
          refine g_iushr (pc := 172) dX1_onward_172 ?_
          refine g_aload_n (pc := 173) 0 dX1_onward_173 rfl rfl ?_
          refine g_get (pc := 174) 56 cN_56 rfl inlX1 7 (by decide) bw_5_10 rfl dX1_onward_174 ?_
          refine g_iand (pc := 177) dX1_onward_177 ?_
          refine g_ior (pc := 178) dX1_onward_178 ?_
          refine g_nm (fun x16 => ?_)
          refine g_istore (pc := 179) [1, 2, 3, 0] (lv1 := [(0, Value.ref (a 56)), (3, Value.int x4), (4, Value.int x5), (5, Value.int x16)]) dX1_onward_179 (by decide) rfl ?_
          refine g_iload (pc := 181) 3 dX1_onward_181 rfl ?_
          refine g_iload (pc := 183) 2 dX1_onward_183 rfl ?_
          refine g_aload_n (pc := 185) 0 dX1_onward_185 rfl rfl ?_
          refine g_get (pc := 186) 56 cN_56 rfl inlX1 10 (by decide) bw_5_13 rfl dX1_onward_186 ?_
          refine g_iconst (pc := 189) (v := -1) dX1_onward_189 (by decide) ?_
          refine g_ixor (pc := 190) dX1_onward_190 ?_
          refine g_iand (pc := 191) dX1_onward_191 ?_
          refine g_iconst (pc := 192) (v := 1) dX1_onward_192 (by decide) ?_
          refine g_iushr (pc := 193) dX1_onward_193 ?_
          refine g_aload_n (pc := 194) 0 dX1_onward_194 rfl rfl ?_
          refine g_get (pc := 195) 56 cN_56 rfl inlX1 8 (by decide) bw_5_11 rfl dX1_onward_195 ?_
          refine g_iand (pc := 198) dX1_onward_198 ?_
          refine g_ior (pc := 199) dX1_onward_199 ?_
          refine g_nm (fun x17 => ?_)
          refine g_istore (pc := 200) [1, 2, 3, 0] (lv1 := [(0, Value.ref (a 56)), (3, Value.int x4), (4, Value.int x5), (5, Value.int x17)]) dX1_onward_200 (by decide) rfl ?_
          refine g_iload (pc := 202) 3 dX1_onward_202 rfl ?_
          exact g_iret (pc := 204) hRT dX1_onward_204
        · refine g_iload_n (pc := 152) 1 dX1_onward_152 rfl rfl ?_
          refine g_iconst (pc := 153) (v := 4) dX1_onward_153 (by decide) ?_
          refine g_icmp_eq (pc := 154) (tgt := 161) dX1_onward_154 (by decide) ?_ ?_
          · exact g_lv [0, 2, 3, 4] rfl (hk14 s13)
          · refine g_iload_n (pc := 157) 1 dX1_onward_157 rfl rfl ?_
            refine g_if_ne (pc := 158) (tgt := 202) dX1_onward_158 (by decide) ?_ ?_
            · refine g_iload (pc := 202) 4 dX1_onward_202 rfl ?_
              exact g_iret (pc := 204) hRT dX1_onward_204
            · exact g_lv [0, 2, 3, 4] rfl (hk14 s13)
      · refine g_jq0 (pc2 := 119) (lf := [((0 : Nat), Value.ref (a 56)), ((2 : Nat), Value.int x2), ((3 : Nat), Value.int x4), ((4 : Nat), Value.int x5), ((5 : Nat), Value.int x9)]) (sf := ([] : List Value)) (fun s19 => ?_) (fun k18 hk18 => ?_)
        · show G _ Γ _ _ _ _ _ _ s19 [((0 : Nat), Value.ref (a 56)), ((2 : Nat), Value.int x2), ((3 : Nat), Value.int x4), ((4 : Nat), Value.int x5), ((5 : Nat), Value.int x9)] 119 ([] : List Value)
          refine g_iload (pc := 119) 4 dX1_onward_119 rfl ?_
          refine g_iload_n (pc := 121) 2 dX1_onward_121 rfl rfl ?_
          refine g_aload_n (pc := 122) 0 dX1_onward_122 rfl rfl ?_
          refine g_get (pc := 123) 56 cN_56 rfl inlX1 9 (by decide) bw_5_12 rfl dX1_onward_123 ?_
          refine g_ishl (pc := 126) dX1_onward_126 ?_
          refine g_aload_n (pc := 127) 0 dX1_onward_127 rfl rfl ?_
          refine g_get (pc := 128) 56 cN_56 rfl inlX1 7 (by decide) bw_5_10 rfl dX1_onward_128 ?_
          refine g_iand (pc := 131) dX1_onward_131 ?_
          refine g_ior (pc := 132) dX1_onward_132 ?_
          refine g_nm (fun x20 => ?_)
          refine g_istore (pc := 133) [1, 2, 3, 4, 0] (lv1 := [(0, Value.ref (a 56)), (2, Value.int x2), (3, Value.int x4), (4, Value.int x5), (5, Value.int x20)]) dX1_onward_133 (by decide) rfl ?_
          refine g_iload (pc := 135) 4 dX1_onward_135 rfl ?_
          refine g_iload (pc := 137) 3 dX1_onward_137 rfl ?_
          refine g_aload_n (pc := 139) 0 dX1_onward_139 rfl rfl ?_
          refine g_get (pc := 140) 56 cN_56 rfl inlX1 9 (by decide) bw_5_12 rfl dX1_onward_140 ?_
          refine g_ishl (pc := 143) dX1_onward_143 ?_
          refine g_aload_n (pc := 144) 0 dX1_onward_144 rfl rfl ?_
          refine g_get (pc := 145) 56 cN_56 rfl inlX1 8 (by decide) bw_5_11 rfl dX1_onward_145 ?_
          refine g_iand (pc := 148) dX1_onward_148 ?_
          refine g_ior (pc := 149) dX1_onward_149 ?_
          refine g_nm (fun x21 => ?_)
          refine g_istore (pc := 150) [1, 2, 3, 4, 0] (lv1 := [(0, Value.ref (a 56)), (2, Value.int x2), (3, Value.int x4), (4, Value.int x5), (5, Value.int x21)]) dX1_onward_150 (by decide) rfl ?_
          exact hk11 s19 _
        · refine g_iload_n (pc := 110) 1 dX1_onward_110 rfl rfl ?_
          refine g_iconst (pc := 111) (v := 3) dX1_onward_111 (by decide) ?_
          refine g_icmp_eq (pc := 112) (tgt := 119) dX1_onward_112 (by decide) ?_ ?_
          · exact hk18 s10
          · refine g_iload_n (pc := 115) 1 dX1_onward_115 rfl rfl ?_
            refine g_if_ne (pc := 116) (tgt := 152) dX1_onward_116 (by decide) ?_ ?_
            · exact hk11 s10 _
            · exact hk18 s10
    · refine g_jq0 (pc2 := 69) (lf := [((0 : Nat), Value.ref (a 56)), ((2 : Nat), Value.int x2), ((3 : Nat), Value.int x4), ((4 : Nat), Value.int x5), ((5 : Nat), Value.int x6)]) (sf := ([] : List Value)) (fun s23 => ?_) (fun k22 hk22 => ?_)
      · show G _ Γ _ _ _ _ _ _ s23 [((0 : Nat), Value.ref (a 56)), ((2 : Nat), Value.int x2), ((3 : Nat), Value.int x4), ((4 : Nat), Value.int x5), ((5 : Nat), Value.int x6)] 69 ([] : List Value)
        refine g_iload (pc := 69) 4 dX1_onward_69 rfl ?_
        refine g_iload_n (pc := 71) 2 dX1_onward_71 rfl rfl ?_
        refine g_aload_n (pc := 72) 0 dX1_onward_72 rfl rfl ?_
        refine g_get (pc := 73) 56 cN_56 rfl inlX1 11 (by decide) bw_5_14 rfl dX1_onward_73 ?_
        refine g_iconst (pc := 76) (v := -1) dX1_onward_76 (by decide) ?_
        refine g_ixor (pc := 77) dX1_onward_77 ?_
        refine g_iand (pc := 78) dX1_onward_78 ?_
        refine g_iconst (pc := 79) (v := 1) dX1_onward_79 (by decide) ?_
        refine g_ishl (pc := 80) dX1_onward_80 ?_
        refine g_aload_n (pc := 81) 0 dX1_onward_81 rfl rfl ?_
        refine g_get (pc := 82) 56 cN_56 rfl inlX1 7 (by decide) bw_5_10 rfl dX1_onward_82 ?_
        refine g_iand (pc := 85) dX1_onward_85 ?_
        refine g_ior (pc := 86) dX1_onward_86 ?_
        refine g_nm (fun x24 => ?_)
        refine g_istore (pc := 87) [1, 2, 3, 4, 0] (lv1 := [(0, Value.ref (a 56)), (2, Value.int x2), (3, Value.int x4), (4, Value.int x5), (5, Value.int x24)]) dX1_onward_87 (by decide) rfl ?_
        refine g_iload (pc := 89) 4 dX1_onward_89 rfl ?_
        refine g_iload (pc := 91) 3 dX1_onward_91 rfl ?_
        refine g_aload_n (pc := 93) 0 dX1_onward_93 rfl rfl ?_
        refine g_get (pc := 94) 56 cN_56 rfl inlX1 11 (by decide) bw_5_14 rfl dX1_onward_94 ?_
        refine g_iconst (pc := 97) (v := -1) dX1_onward_97 (by decide) ?_
        refine g_ixor (pc := 98) dX1_onward_98 ?_
        refine g_iand (pc := 99) dX1_onward_99 ?_
        refine g_iconst (pc := 100) (v := 1) dX1_onward_100 (by decide) ?_
        refine g_ishl (pc := 101) dX1_onward_101 ?_
        refine g_aload_n (pc := 102) 0 dX1_onward_102 rfl rfl ?_
        refine g_get (pc := 103) 56 cN_56 rfl inlX1 8 (by decide) bw_5_11 rfl dX1_onward_103 ?_
        refine g_iand (pc := 106) dX1_onward_106 ?_
        refine g_ior (pc := 107) dX1_onward_107 ?_
        refine g_nm (fun x25 => ?_)
        refine g_istore (pc := 108) [1, 2, 3, 4, 0] (lv1 := [(0, Value.ref (a 56)), (2, Value.int x2), (3, Value.int x4), (4, Value.int x5), (5, Value.int x25)]) dX1_onward_108 (by decide) rfl ?_
        exact hk8 s23 _
      · refine g_iload_n (pc := 60) 1 dX1_onward_60 rfl rfl ?_
        refine g_iconst (pc := 61) (v := 2) dX1_onward_61 (by decide) ?_
        refine g_icmp_eq (pc := 62) (tgt := 69) dX1_onward_62 (by decide) ?_ ?_
        · exact hk22 s7
        · refine g_iload_n (pc := 65) 1 dX1_onward_65 rfl rfl ?_
          refine g_if_ne (pc := 66) (tgt := 110) dX1_onward_66 (by decide) ?_ ?_
          · exact hk8 s7 _
          · exact hk22 s7
  · refine g_jq3 (pc2 := 27) (lf := fun x27 x28 x29 => [((0 : Nat), Value.ref (a 56)), ((2 : Nat), Value.int x2), ((3 : Nat), Value.int x27), ((4 : Nat), Value.int x28), ((5 : Nat), Value.int x29)]) (sf := fun x27 x28 x29 => ([] : List Value)) (fun s30 x27 x28 x29 => ?_) (fun k26 hk26 => ?_)
    · show G _ Γ _ _ _ _ _ _ s30 [((0 : Nat), Value.ref (a 56)), ((2 : Nat), Value.int x2), ((3 : Nat), Value.int x27), ((4 : Nat), Value.int x28), ((5 : Nat), Value.int x29)] 27 ([] : List Value)
      refine g_iload (pc := 27) 4 dX1_onward_27 rfl ?_
      refine g_iload_n (pc := 29) 2 dX1_onward_29 rfl rfl ?_
      refine g_aload_n (pc := 30) 0 dX1_onward_30 rfl rfl ?_
      refine g_get (pc := 31) 56 cN_56 rfl inlX1 9 (by decide) bw_5_12 rfl dX1_onward_31 ?_
      refine g_iushr (pc := 34) dX1_onward_34 ?_
      refine g_aload_n (pc := 35) 0 dX1_onward_35 rfl rfl ?_
      refine g_get (pc := 36) 56 cN_56 rfl inlX1 7 (by decide) bw_5_10 rfl dX1_onward_36 ?_
      refine g_iand (pc := 39) dX1_onward_39 ?_
      refine g_ior (pc := 40) dX1_onward_40 ?_
      refine g_nm (fun x31 => ?_)
      refine g_istore (pc := 41) [1, 2, 3, 4, 0] (lv1 := [(0, Value.ref (a 56)), (2, Value.int x2), (3, Value.int x27), (4, Value.int x28), (5, Value.int x31)]) dX1_onward_41 (by decide) rfl ?_
      refine g_iload (pc := 43) 4 dX1_onward_43 rfl ?_
      refine g_iload (pc := 45) 3 dX1_onward_45 rfl ?_
      refine g_aload_n (pc := 47) 0 dX1_onward_47 rfl rfl ?_
      refine g_get (pc := 48) 56 cN_56 rfl inlX1 9 (by decide) bw_5_12 rfl dX1_onward_48 ?_
      refine g_iushr (pc := 51) dX1_onward_51 ?_
      refine g_aload_n (pc := 52) 0 dX1_onward_52 rfl rfl ?_
      refine g_get (pc := 53) 56 cN_56 rfl inlX1 8 (by decide) bw_5_11 rfl dX1_onward_53 ?_
      refine g_iand (pc := 56) dX1_onward_56 ?_
      refine g_ior (pc := 57) dX1_onward_57 ?_
      refine g_nm (fun x32 => ?_)
      refine g_istore (pc := 58) [1, 2, 3, 4, 0] (lv1 := [(0, Value.ref (a 56)), (2, Value.int x2), (3, Value.int x27), (4, Value.int x28), (5, Value.int x32)]) dX1_onward_58 (by decide) rfl ?_
      exact hk3 s30 _ _ _
    · refine g_iload_n (pc := 0) 1 dX1_onward_0 rfl rfl ?_
      refine g_aload_n (pc := 1) 0 dX1_onward_1 rfl rfl ?_
      refine g_get (pc := 2) 56 cN_56 rfl inlX1 5 (by decide) bw_5_8 rfl dX1_onward_2 ?_
      refine g_iand (pc := 5) dX1_onward_5 ?_
      refine g_nm (fun x33 => ?_)
      refine g_istore_n (pc := 6) [1, 2, 3, 0] (lv1 := [(0, Value.ref (a 56)), (1, Value.int x1), (2, Value.int x2), (3, Value.int x33)]) dX1_onward_6 rfl (by decide) rfl ?_
      refine g_iload_n (pc := 7) 1 dX1_onward_7 rfl rfl ?_
      refine g_aload_n (pc := 8) 0 dX1_onward_8 rfl rfl ?_
      refine g_get (pc := 9) 56 cN_56 rfl inlX1 6 (by decide) bw_5_9 rfl dX1_onward_9 ?_
      refine g_iand (pc := 12) dX1_onward_12 ?_
      refine g_nm (fun x34 => ?_)
      refine g_istore (pc := 13) [1, 2, 3, 4, 0] (lv1 := [(0, Value.ref (a 56)), (1, Value.int x1), (2, Value.int x2), (3, Value.int x33), (4, Value.int x34)]) dX1_onward_13 (by decide) rfl ?_
      refine g_iload_n (pc := 15) 1 dX1_onward_15 rfl rfl ?_
      refine g_istore (pc := 16) [1, 2, 3, 4, 5, 0] (lv1 := [(0, Value.ref (a 56)), (1, Value.int x1), (2, Value.int x2), (3, Value.int x33), (4, Value.int x34), (5, Value.int x1)]) dX1_onward_16 (by decide) rfl ?_
      refine g_iload_n (pc := 18) 2 dX1_onward_18 rfl rfl ?_
      refine g_iconst (pc := 19) (v := 1) dX1_onward_19 (by decide) ?_
      refine g_icmp_eq (pc := 20) (tgt := 27) dX1_onward_20 (by decide) ?_ ?_
      · exact g_lv [0, 2, 3, 4, 5] rfl (hk26 σ _ _ _)
      · refine g_iload_n (pc := 23) 2 dX1_onward_23 rfl rfl ?_
        refine g_if_ne (pc := 24) (tgt := 60) dX1_onward_24 (by decide) ?_ ?_
        · exact g_lv [0, 2, 3, 4, 5] rfl (hk3 σ _ _ _)
        · exact g_lv [0, 2, 3, 4, 5] rfl (hk26 σ _ _ _)
set_option maxRecDepth 100000 in
set_option maxHeartbeats 4000000 in
theorem k_X1_along__56 {l : Launch} {D : va_G} {a : Nat → Nat} {cI cS : ClassId} (hI : ∀ σ : St, va_D (AN a) (cN a cI cS σ)) {σ : St} {x1 x2 x3 : Int32} {r : Int32 × St} (h : f_X1_along__56 σ x1 x2 x3 = some r) : Kc (SN l D a cI cS) yX1_along cX1_along 9 (some .int) 2 [Value.ref (a 56), Value.int x1, Value.int x2, Value.int x3] σ r := by
  refine enter (own := RX1) (o := f_X1_along__56 σ x1 x2 x3) (plainFor_of_name (by decide +kernel)) rfl (Nat.le_of_ble_eq_true rfl) hI wk_X1_along.1 h (fun Γ hRT => ?_)
  show G _ Γ _ _ _ _ _ _ σ [((0 : Nat), Value.ref (a 56)), ((1 : Nat), Value.int x1), ((2 : Nat), Value.int x2), ((3 : Nat), Value.int x3)] 0 []
  unfold f_X1_along__56
  refine g_aload_n (pc := 0) 0 dX1_along_0 rfl rfl ?_
  refine g_get (pc := 1) 56 cN_56 rfl inlX1 0 (by decide) bw_5_15 rfl dX1_along_1 ?_
  refine g_cVi (pc := 4) 12 (As := []) (fun r2 h2 => k_X4_windsInTurn__12 hI h2) wk_X4_windsInTurn wv_X4_windsInTurn bw_26_9 cN_12 rfl (by decide) (by decide) rfl rfl (Nat.le_of_ble_eq_true rfl) dX1_along_4 (fun r4 s5 => ?_)
  refine g_istore (pc := 7) [1, 2, 3, 4, 0] (lv1 := [(0, Value.ref (a 56)), (1, Value.int x1), (2, Value.int x2), (3, Value.int x3), (4, Value.int r4)]) dX1_along_7 (by decide) rfl ?_
  refine g_iload_n (pc := 9) 1 dX1_along_9 rfl rfl ?_
  refine g_istore (pc := 10) [1, 2, 3, 4, 5, 0] (lv1 := [(0, Value.ref (a 56)), (1, Value.int x1), (2, Value.int x2), (3, Value.int x3), (4, Value.int r4), (5, Value.int x1)]) dX1_along_10 (by decide) rfl ?_
  refine g_iconst (pc := 12) (v := 0) dX1_along_12 (by decide) ?_
  refine g_istore (pc := 13) [1, 2, 3, 4, 5, 6, 0] (lv1 := [(0, Value.ref (a 56)), (1, Value.int x1), (2, Value.int x2), (3, Value.int x3), (4, Value.int r4), (5, Value.int x1), (6, Value.int (0 : Int32))]) dX1_along_13 (by decide) rfl ?_
  refine g_iload_n (pc := 15) 2 dX1_along_15 rfl rfl ?_
  refine g_istore (pc := 16) [1, 2, 3, 4, 5, 6, 7, 0] (lv1 := [(0, Value.ref (a 56)), (1, Value.int x1), (2, Value.int x2), (3, Value.int x3), (4, Value.int r4), (5, Value.int x1), (6, Value.int (0 : Int32)), (7, Value.int x2)]) dX1_along_16 (by decide) rfl ?_
  refine g_lv [0, 3, 4, 5, 6, 7] (lv' := [(0, Value.ref (a 56)), (3, Value.int x3), (4, Value.int r4), (5, Value.int x1), (6, Value.int (0 : Int32)), (7, Value.int x2)]) rfl ?_
  refine g_lq3 (pc := 18) (lf := fun x7 x8 x9 => [((0 : Nat), Value.ref (a 56)), ((3 : Nat), Value.int x3), ((4 : Nat), Value.int r4), ((5 : Nat), Value.int x7), ((6 : Nat), Value.int x8), ((7 : Nat), Value.int x9)]) (sf := fun x7 x8 x9 => ([] : List Value)) (fun k6 hk6 s10 x7 x8 x9 => ?_) 100000 s5 _ _ _
  show G _ Γ _ _ _ _ _ _ s10 [((0 : Nat), Value.ref (a 56)), ((3 : Nat), Value.int x3), ((4 : Nat), Value.int r4), ((5 : Nat), Value.int x7), ((6 : Nat), Value.int x8), ((7 : Nat), Value.int x9)] 18 ([] : List Value)
  refine g_iload (pc := 18) 5 dX1_along_18 rfl ?_
  refine g_iload_n (pc := 20) 1 dX1_along_20 rfl rfl ?_
  refine g_icmp_ge (pc := 21) (tgt := 83) dX1_along_21 (by decide) ?_ ?_
  · refine g_iload (pc := 83) 3 dX1_along_83 rfl ?_
    exact g_iret (pc := 85) hRT dX1_along_85
  · refine g_iload (pc := 24) 4 dX1_along_24 rfl ?_
    refine g_iload (pc := 26) 2 dX1_along_26 rfl ?_
    refine g_icmp_ge (pc := 28) (tgt := 83) dX1_along_28 (by decide) ?_ ?_
    · refine g_iload (pc := 83) 3 dX1_along_83 rfl ?_
      exact g_iret (pc := 85) hRT dX1_along_85
    · refine g_jq2 (pc2 := 71) (lf := fun x12 x13 => [((0 : Nat), Value.ref (a 56)), ((3 : Nat), Value.int x3), ((4 : Nat), Value.int r4), ((7 : Nat), Value.int x9), ((8 : Nat), Value.int x12)]) (sf := fun x12 x13 => [Value.int x13]) (fun s14 x12 x13 => ?_) (fun k11 hk11 => ?_)
      · show G _ Γ _ _ _ _ _ _ s14 [((0 : Nat), Value.ref (a 56)), ((3 : Nat), Value.int x3), ((4 : Nat), Value.int r4), ((7 : Nat), Value.int x9), ((8 : Nat), Value.int x12)] 71 [Value.int x13]
        refine g_istore (pc := 71) [1, 2, 3, 0, 4, 5] (lv1 := [(0, Value.ref (a 56)), (3, Value.int x3), (4, Value.int r4), (6, Value.int x13), (7, Value.int x9), (8, Value.int x12)]) dX1_along_71 (by decide) rfl ?_
        refine g_iload (pc := 73) 5 dX1_along_73 rfl ?_
        refine g_istore (pc := 75) [1, 2, 3, 0, 4, 5, 6] (lv1 := [(0, Value.ref (a 56)), (3, Value.int x3), (4, Value.int r4), (5, Value.int x12), (6, Value.int x13), (7, Value.int x9), (8, Value.int x12)]) dX1_along_75 (by decide) rfl ?_
        refine g_iinc (pc := 77) [1, 2, 3, 4, 5, 0, 6] 5 (n1 := 1) (lv1 := fun x15 => [(0, Value.ref (a 56)), (3, Value.int x3), (4, Value.int r4), (5, Value.int x12), (6, Value.int x13), (7, Value.int x15), (8, Value.int x12)]) dX1_along_77 rfl (by decide) (by decide) (fun _ => rfl) (fun x15 => ?_)
        show G _ Γ _ _ _ _ _ _ _ [(0, Value.ref (a 56)), (3, Value.int x3), (4, Value.int r4), (5, Value.int x12), (6, Value.int x13), (7, Value.int x15), (8, Value.int x12)] (77 + 3) _
        refine g_goto (pc := 80) (tgt := 18) dX1_along_80 (by decide) ?_
        exact g_lv [0, 1, 2, 3, 4, 5] rfl (hk6 s14 _ _ _)
      · refine g_aload_n (pc := 31) 0 dX1_along_31 rfl rfl ?_
        refine g_iload (pc := 32) 3 dX1_along_32 rfl ?_
        refine g_aload_n (pc := 34) 0 dX1_along_34 rfl rfl ?_
        refine g_get (pc := 35) 56 cN_56 rfl inlX1 0 (by decide) bw_5_15 rfl dX1_along_35 ?_
        refine g_aload_n (pc := 38) 0 dX1_along_38 rfl rfl ?_
        refine g_get (pc := 39) 56 cN_56 rfl inlX1 1 (by decide) bw_5_16 rfl dX1_along_39 ?_
        refine g_cVi (pc := 42) 19 (As := []) (fun r2 h2 => k_X9_stepsGone__19 hI h2) wk_X9_stepsGone wv_X9_stepsGone bw_26_10 cN_19 rfl (by decide) (by decide) rfl rfl (Nat.le_of_ble_eq_true rfl) dX1_along_42 (fun r16 s17 => ?_)
        refine g_iload (pc := 45) 5 dX1_along_45 rfl ?_
        refine g_iadd (pc := 47) dX1_along_47 ?_
        refine g_cVi (pc := 48) 12 (As := [Value.int (r16 + x9)]) (fun r2 h2 => k_X4_windOf__12 hI h2) wk_X4_windOf wv_X4_windOf bw_26_11 cN_12 rfl (by decide) (by decide) rfl rfl (Nat.le_of_ble_eq_true rfl) dX1_along_48 (fun r18 s19 => ?_)
        refine g_cVi (pc := 51) 56 (As := [Value.int x7, Value.int r18]) (fun r2 h2 => k_X1_onward__56 hI h2) wk_X1_onward wv_X1_onward bw_26_12 cN_56 rfl (by decide) (by decide) rfl rfl (Nat.le_of_ble_eq_true rfl) dX1_along_51 (fun r20 s21 => ?_)
        refine g_istore (pc := 54) [1, 2, 3, 4, 5, 6, 0] (lv1 := [(0, Value.ref (a 56)), (3, Value.int x3), (4, Value.int r4), (5, Value.int x7), (6, Value.int x8), (7, Value.int x9), (8, Value.int r20)]) dX1_along_54 (by decide) rfl ?_
        refine g_iload (pc := 56) 6 dX1_along_56 rfl ?_
        refine g_iload (pc := 58) 3 dX1_along_58 rfl ?_
        refine g_icmp_ne (pc := 60) (tgt := 70) dX1_along_60 (by decide) ?_ ?_
        · refine g_iconst (pc := 70) (v := 0) dX1_along_70 (by decide) ?_
          exact g_lv [0, 1, 2, 5, 6] rfl (hk11 s21 _ _)
        · refine g_iload (pc := 63) 4 dX1_along_63 rfl ?_
          refine g_iconst (pc := 65) (v := 1) dX1_along_65 (by decide) ?_
          refine g_iadd (pc := 66) dX1_along_66 ?_
          refine g_goto (pc := 67) (tgt := 71) dX1_along_67 (by decide) ?_
          exact g_lv [0, 1, 2, 5, 6] rfl (hk11 s21 _ _)
set_option maxRecDepth 100000 in
set_option maxHeartbeats 4000000 in
theorem k_X9_setWhoKnows__19 {l : Launch} {D : va_G} {a : Nat → Nat} {cI cS : ClassId} (hI : ∀ σ : St, va_D (AN a) (cN a cI cS σ)) {σ : St} {x1 x2 : Int32} {r : Int32 × St} (h : f_X9_setWhoKnows__19 σ x1 x2 = some r) : Kc (SN l D a cI cS) yX9_setWhoKnows cX9_setWhoKnows 3 none 1 [Value.ref (a 19), Value.int x1, Value.int x2] σ r := by
  refine enter (own := RX9) (o := f_X9_setWhoKnows__19 σ x1 x2) (plainFor_of_name (by decide +kernel)) rfl (Nat.le_of_ble_eq_true rfl) hI wk_X9_setWhoKnows.1 h (fun Γ hRT => ?_)
  show G _ Γ _ _ _ _ _ _ σ [((0 : Nat), Value.ref (a 19)), ((1 : Nat), Value.int x1), ((2 : Nat), Value.int x2)] 0 []
  unfold f_X9_setWhoKnows__19
  refine g_aload_n (pc := 0) 0 dX9_setWhoKnows_0 rfl rfl ?_
  refine g_get (pc := 1) 19 cN_19 rfl inlX9 1 (by decide) bw_4_15 rfl dX9_setWhoKnows_1 ?_
  refine g_iload_n (pc := 4) 1 dX9_setWhoKnows_4 rfl rfl ?_
  refine g_iload_n (pc := 5) 2 dX9_setWhoKnows_5 rfl rfl ?_
  refine g_cNv (pc := 6) (As := [Value.ref (a 21), Value.int x1, Value.int x2]) (fun r2 h2 => k_X10_put__21 hI h2) wk_X10_put ws_X10_put nst_RX9_28 (by decide) (by decide) rfl rfl (Nat.le_of_ble_eq_true rfl) dX9_setWhoKnows_6 (fun r3 s4 => ?_)
  exact g_vret (pc := 9) hRT dX9_setWhoKnows_9
set_option maxRecDepth 100000 in
set_option maxHeartbeats 4000000 in
theorem k_X10_step__0 {l : Launch} {D : va_G} {a : Nat → Nat} {cI cS : ClassId} (hI : ∀ σ : St, va_D (AN a) (cN a cI cS σ)) {σ : St} {x1 : Int32} {r : Int32 × St} (h : f_X10_step__0 σ x1 = some r) : Kc (SN l D a cI cS) yX10_step cX10_step 3 (some .int) 4 [Value.ref (a 0), Value.int x1] σ r := by
  refine enter (own := RX10) (o := f_X10_step__0 σ x1) (plainFor_of_name (by decide +kernel)) rfl (Nat.le_of_ble_eq_true rfl) hI wk_X10_step.1 h (fun Γ hRT => ?_)
  show G _ Γ _ _ _ _ _ _ σ [((0 : Nat), Value.ref (a 0)), ((1 : Nat), Value.int x1)] 0 []
  unfold f_X10_step__0
  refine g_iload_n (pc := 0) 1 dX10_step_0 rfl rfl ?_
  refine g_iconst (pc := 1) (v := 1) dX10_step_1 (by decide) ?_
  refine g_bipush (pc := 2) (v := 24) dX10_step_2 (by decide) ?_
  refine g_cSz (pc := 4) (As := [Value.int x1, Value.int (1 : Int32), Value.int (24 : Int32)]) (fun r2 h2 => k_X10_within hI h2) wk_X10_within ws_X10_within bw_12_4 (by decide) (by decide) rfl rfl (Nat.le_of_ble_eq_true rfl) dX10_step_4 (fun r2 s3 => ?_)
  refine g_if_ne (pc := 7) (tgt := 12) dX10_step_7 (by decide) ?_ ?_
  · refine g_aload_n (pc := 12) 0 dX10_step_12 rfl rfl ?_
    refine g_get (pc := 13) 0 cN_0 rfl inlX10 5 (by decide) bw_2_8 rfl dX10_step_13 ?_
    refine g_aload_n (pc := 16) 0 dX10_step_16 rfl rfl ?_
    refine g_get (pc := 17) 0 cN_0 rfl inlX10 4 (by decide) bw_2_4 rfl dX10_step_17 ?_
    refine g_cVv (pc := 20) 22 (As := [Value.ref (a 19)]) (fun r2 h2 => k_X5_push__22_19 hI h2) wk_X5_push wv_X5_push bw_23_19 cN_22 rfl (by decide) (by decide) rfl rfl (Nat.le_of_ble_eq_true rfl) dX10_step_20 (fun r4 s5 => ?_)
    refine g_iconst (pc := 23) (v := 0) dX10_step_23 (by decide) ?_
    refine g_istore_n (pc := 24) [1, 2, 0] (lv1 := [(0, Value.ref (a 0)), (1, Value.int x1), (2, Value.int (0 : Int32))]) dX10_step_24 rfl (by decide) rfl ?_
    refine g_lq1 (pc := 25) (lf := fun x7 => [((0 : Nat), Value.ref (a 0)), ((1 : Nat), Value.int x1), ((2 : Nat), Value.int x7)]) (sf := fun x7 => ([] : List Value)) (fun k6 hk6 s8 x7 => ?_) 100000 s5 _
    show G _ Γ _ _ _ _ _ _ s8 [((0 : Nat), Value.ref (a 0)), ((1 : Nat), Value.int x1), ((2 : Nat), Value.int x7)] 25 ([] : List Value)
    refine g_iload_n (pc := 25) 2 dX10_step_25 rfl rfl ?_
    refine g_aload_n (pc := 26) 0 dX10_step_26 rfl rfl ?_
    refine g_get (pc := 27) 0 cN_0 rfl inlX10 3 (by decide) bw_2_0 rfl dX10_step_27 ?_
    refine g_cVi (pc := 30) 12 (As := []) (fun r2 h2 => k_X4_newsTold__12 hI h2) wk_X4_newsTold wv_X4_newsTold bw_12_13 cN_12 rfl (by decide) (by decide) rfl rfl (Nat.le_of_ble_eq_true rfl) dX10_step_30 (fun r9 s10 => ?_)
    refine g_icmp_ge (pc := 33) (tgt := 74) dX10_step_33 (by decide) ?_ ?_
    · refine g_aload_n (pc := 74) 0 dX10_step_74 rfl rfl ?_
      refine g_get (pc := 75) 0 cN_0 rfl inlX10 4 (by decide) bw_2_4 rfl dX10_step_75 ?_
      refine g_iload_n (pc := 78) 1 dX10_step_78 rfl rfl ?_
      refine g_cVv (pc := 79) 19 (As := [Value.int x1]) (fun r2 h2 => k_X9_goOn__19 hI h2) wk_X9_goOn wv_X9_goOn bw_26_20 cN_19 rfl (by decide) (by decide) rfl rfl (Nat.le_of_ble_eq_true rfl) dX10_step_79 (fun r11 s12 => ?_)
      refine g_aload_n (pc := 82) 0 dX10_step_82 rfl rfl ?_
      refine g_get (pc := 83) 0 cN_0 rfl inlX10 4 (by decide) bw_2_4 rfl dX10_step_83 ?_
      refine g_cVi (pc := 86) 19 (As := []) (fun r2 h2 => k_X9_stepsGone__19 hI h2) wk_X9_stepsGone wv_X9_stepsGone bw_22_15 cN_19 rfl (by decide) (by decide) rfl rfl (Nat.le_of_ble_eq_true rfl) dX10_step_86 (fun r13 s14 => ?_)
      exact g_iret (pc := 89) hRT dX10_step_89
    · refine g_aload_n (pc := 36) 0 dX10_step_36 rfl rfl ?_
      refine g_get (pc := 37) 0 cN_0 rfl inlX10 7 (by decide) bw_2_13 rfl dX10_step_37 ?_
      refine g_iload_n (pc := 40) 2 dX10_step_40 rfl rfl ?_
      refine g_cVv (pc := 41) 56 (As := [Value.int x7]) (fun r2 h2 => k_X1_pick__56 hI h2) wk_X1_pick wv_X1_pick bw_24_15 cN_56 rfl (by decide) (by decide) rfl rfl (Nat.le_of_ble_eq_true rfl) dX10_step_41 (fun r15 s16 => ?_)
      refine g_aload_n (pc := 44) 0 dX10_step_44 rfl rfl ?_
      refine g_get (pc := 45) 0 cN_0 rfl inlX10 4 (by decide) bw_2_4 rfl dX10_step_45 ?_
      refine g_iload_n (pc := 48) 2 dX10_step_48 rfl rfl ?_
      refine g_aload_n (pc := 49) 0 dX10_step_49 rfl rfl ?_
      refine g_get (pc := 50) 0 cN_0 rfl inlX10 7 (by decide) bw_2_13 rfl dX10_step_50 ?_
      refine g_aload_n (pc := 53) 0 dX10_step_53 rfl rfl ?_
      refine g_get (pc := 54) 0 cN_0 rfl inlX10 7 (by decide) bw_2_13 rfl dX10_step_54 ?_
      refine g_cVi (pc := 57) 56 (As := []) (fun r2 h2 => k_X1_whoKnows__56 hI h2) wk_X1_whoKnows wv_X1_whoKnows bw_26_1 cN_56 rfl (by decide) (by decide) rfl rfl (Nat.le_of_ble_eq_true rfl) dX10_step_57 (fun r17 s18 => ?_)
      refine g_iconst (pc := 60) (v := 0) dX10_step_60 (by decide) ?_
      refine g_iload_n (pc := 61) 1 dX10_step_61 rfl rfl ?_
      refine g_cVi (pc := 62) 56 (As := [Value.int r17, Value.int (0 : Int32), Value.int x1]) (fun r2 h2 => k_X1_along__56 hI h2) wk_X1_along wv_X1_along bw_26_5 cN_56 rfl (by decide) (by decide) rfl rfl (Nat.le_of_ble_eq_true rfl) dX10_step_62 (fun r19 s20 => ?_)
      refine g_cVv (pc := 65) 19 (As := [Value.int x7, Value.int r19]) (fun r2 h2 => k_X9_setWhoKnows__19 hI h2) wk_X9_setWhoKnows wv_X9_setWhoKnows bw_26_16 cN_19 rfl (by decide) (by decide) rfl rfl (Nat.le_of_ble_eq_true rfl) dX10_step_65 (fun r21 s22 => ?_)
      refine g_iinc (pc := 68) [1, 2, 0] 2 (n1 := 1) (lv1 := fun x23 => [(0, Value.ref (a 0)), (1, Value.int x1), (2, Value.int x23)]) dX10_step_68 rfl (by decide) (by decide) (fun _ => rfl) (fun x23 => ?_)
      show G _ Γ _ _ _ _ _ _ _ [(0, Value.ref (a 0)), (1, Value.int x1), (2, Value.int x23)] (68 + 3) _
      refine g_goto (pc := 71) (tgt := 25) dX10_step_71 (by decide) ?_
      exact hk6 s22 _
  · refine g_iconst (pc := 10) (v := -1) dX10_step_10 (by decide) ?_
    exact g_iret (pc := 11) hRT dX10_step_11
set_option maxRecDepth 100000 in
set_option maxHeartbeats 4000000 in
theorem k_X9_setSash__19 {l : Launch} {D : va_G} {a : Nat → Nat} {cI cS : ClassId} (hI : ∀ σ : St, va_D (AN a) (cN a cI cS σ)) {σ : St} {x1 x2 : Int32} {r : Int32 × St} (h : f_X9_setSash__19 σ x1 x2 = some r) : Kc (SN l D a cI cS) yX9_setSash cX9_setSash 3 none 1 [Value.ref (a 19), Value.int x1, Value.int x2] σ r := by
  refine enter (own := RX9) (o := f_X9_setSash__19 σ x1 x2) (plainFor_of_name (by decide +kernel)) rfl (Nat.le_of_ble_eq_true rfl) hI wk_X9_setSash.1 h (fun Γ hRT => ?_)
  show G _ Γ _ _ _ _ _ _ σ [((0 : Nat), Value.ref (a 19)), ((1 : Nat), Value.int x1), ((2 : Nat), Value.int x2)] 0 []
  unfold f_X9_setSash__19
  refine g_aload_n (pc := 0) 0 dX9_setSash_0 rfl rfl ?_
  refine g_get (pc := 1) 19 cN_19 rfl inlX9 0 (by decide) bw_4_14 rfl dX9_setSash_1 ?_
  refine g_iload_n (pc := 4) 1 dX9_setSash_4 rfl rfl ?_
  refine g_iload_n (pc := 5) 2 dX9_setSash_5 rfl rfl ?_
  refine g_cNv (pc := 6) (As := [Value.ref (a 20), Value.int x1, Value.int x2]) (fun r2 h2 => k_X10_put__20 hI h2) wk_X10_put ws_X10_put nst_RX9_28 (by decide) (by decide) rfl rfl (Nat.le_of_ble_eq_true rfl) dX9_setSash_6 (fun r3 s4 => ?_)
  exact g_vret (pc := 9) hRT dX9_setSash_9
set_option maxRecDepth 100000 in
set_option maxHeartbeats 4000000 in
theorem k_X10_open__0 {l : Launch} {D : va_G} {a : Nat → Nat} {cI cS : ClassId} (hI : ∀ σ : St, va_D (AN a) (cN a cI cS σ)) {σ : St} {x1 x2 : Int32} {r : Int32 × St} (h : f_X10_open__0 σ x1 x2 = some r) : Kc (SN l D a cI cS) yX10_open cX10_open 4 (some .int) 4 [Value.ref (a 0), Value.int x1, Value.int x2] σ r := by
  refine enter (own := RX10) (o := f_X10_open__0 σ x1 x2) (plainFor_of_name (by decide +kernel)) rfl (Nat.le_of_ble_eq_true rfl) hI wk_X10_open.1 h (fun Γ hRT => ?_)
  show G _ Γ _ _ _ _ _ _ σ [((0 : Nat), Value.ref (a 0)), ((1 : Nat), Value.int x1), ((2 : Nat), Value.int x2)] 0 []
  unfold f_X10_open__0
  refine g_aload_n (pc := 0) 0 dX10_open_0 rfl rfl ?_
  refine g_get (pc := 1) 0 cN_0 rfl inlX10 3 (by decide) bw_2_0 rfl dX10_open_1 ?_
  refine g_iload_n (pc := 4) 1 dX10_open_4 rfl rfl ?_
  refine g_cVz (pc := 5) 12 (As := [Value.int x1]) (fun r2 h2 => k_X4_hasHouse__12 hI h2) wk_X4_hasHouse wv_X4_hasHouse bw_19_10 cN_12 rfl (by decide) (by decide) rfl rfl (Nat.le_of_ble_eq_true rfl) dX10_open_5 (fun r3 s4 => ?_)
  refine g_if_eq (pc := 8) (tgt := 18) dX10_open_8 (by decide) ?_ ?_
  · refine g_iconst (pc := 18) (v := -1) dX10_open_18 (by decide) ?_
    exact g_iret (pc := 19) hRT dX10_open_19
  · refine g_iload_n (pc := 11) 2 dX10_open_11 rfl rfl ?_
    refine g_cSz (pc := 12) (As := [Value.int x2]) (fun r2 h2 => k_X10_isWidth hI h2) wk_X10_isWidth ws_X10_isWidth bw_28_12 (by decide) (by decide) rfl rfl (Nat.le_of_ble_eq_true rfl) dX10_open_12 (fun r5 s6 => ?_)
    refine g_if_ne (pc := 15) (tgt := 20) dX10_open_15 (by decide) ?_ ?_
    · refine g_aload_n (pc := 20) 0 dX10_open_20 rfl rfl ?_
      refine g_get (pc := 21) 0 cN_0 rfl inlX10 4 (by decide) bw_2_4 rfl dX10_open_21 ?_
      refine g_iload_n (pc := 24) 1 dX10_open_24 rfl rfl ?_
      refine g_cVi (pc := 25) 19 (As := [Value.int x1]) (fun r2 h2 => k_X9_sashOf__19 hI h2) wk_X9_sashOf wv_X9_sashOf bw_19_15 cN_19 rfl (by decide) (by decide) rfl rfl (Nat.le_of_ble_eq_true rfl) dX10_open_25 (fun r7 s8 => ?_)
      refine g_istore_n (pc := 28) [1, 2, 3, 0] (lv1 := [(0, Value.ref (a 0)), (1, Value.int x1), (2, Value.int x2), (3, Value.int r7)]) dX10_open_28 rfl (by decide) rfl ?_
      refine g_aload_n (pc := 29) 0 dX10_open_29 rfl rfl ?_
      refine g_get (pc := 30) 0 cN_0 rfl inlX10 5 (by decide) bw_2_8 rfl dX10_open_30 ?_
      refine g_aload_n (pc := 33) 0 dX10_open_33 rfl rfl ?_
      refine g_get (pc := 34) 0 cN_0 rfl inlX10 4 (by decide) bw_2_4 rfl dX10_open_34 ?_
      refine g_cVv (pc := 37) 22 (As := [Value.ref (a 19)]) (fun r2 h2 => k_X5_push__22_19 hI h2) wk_X5_push wv_X5_push bw_23_19 cN_22 rfl (by decide) (by decide) rfl rfl (Nat.le_of_ble_eq_true rfl) dX10_open_37 (fun r9 s10 => ?_)
      refine g_aload_n (pc := 40) 0 dX10_open_40 rfl rfl ?_
      refine g_get (pc := 41) 0 cN_0 rfl inlX10 4 (by decide) bw_2_4 rfl dX10_open_41 ?_
      refine g_iload_n (pc := 44) 1 dX10_open_44 rfl rfl ?_
      refine g_iload_n (pc := 45) 2 dX10_open_45 rfl rfl ?_
      refine g_cVv (pc := 46) 19 (As := [Value.int x1, Value.int x2]) (fun r2 h2 => k_X9_setSash__19 hI h2) wk_X9_setSash wv_X9_setSash bw_28_13 cN_19 rfl (by decide) (by decide) rfl rfl (Nat.le_of_ble_eq_true rfl) dX10_open_46 (fun r11 s12 => ?_)
      refine g_iload_n (pc := 49) 3 dX10_open_49 rfl rfl ?_
      exact g_iret (pc := 50) hRT dX10_open_50
    · refine g_iconst (pc := 18) (v := -1) dX10_open_18 (by decide) ?_
      exact g_iret (pc := 19) hRT dX10_open_19
set_option maxRecDepth 100000 in
set_option maxHeartbeats 4000000 in
theorem k_X10_tell__0 {l : Launch} {D : va_G} {a : Nat → Nat} {cI cS : ClassId} (hI : ∀ σ : St, va_D (AN a) (cN a cI cS σ)) {σ : St} {x1 x2 : Int32} {r : Int32 × St} (h : f_X10_tell__0 σ x1 x2 = some r) : Kc (SN l D a cI cS) yX10_tell cX10_tell 4 (some .int) 4 [Value.ref (a 0), Value.int x1, Value.int x2] σ r := by
  refine enter (own := RX10) (o := f_X10_tell__0 σ x1 x2) (plainFor_of_name (by decide +kernel)) rfl (Nat.le_of_ble_eq_true rfl) hI wk_X10_tell.1 h (fun Γ hRT => ?_)
  show G _ Γ _ _ _ _ _ _ σ [((0 : Nat), Value.ref (a 0)), ((1 : Nat), Value.int x1), ((2 : Nat), Value.int x2)] 0 []
  unfold f_X10_tell__0
  refine g_aload_n (pc := 0) 0 dX10_tell_0 rfl rfl ?_
  refine g_get (pc := 1) 0 cN_0 rfl inlX10 3 (by decide) bw_2_0 rfl dX10_tell_1 ?_
  refine g_iload_n (pc := 4) 1 dX10_tell_4 rfl rfl ?_
  refine g_cVz (pc := 5) 12 (As := [Value.int x1]) (fun r2 h2 => k_X4_hasHouse__12 hI h2) wk_X4_hasHouse wv_X4_hasHouse bw_19_10 cN_12 rfl (by decide) (by decide) rfl rfl (Nat.le_of_ble_eq_true rfl) dX10_tell_5 (fun r3 s4 => ?_)
  refine g_if_eq (pc := 8) (tgt := 22) dX10_tell_8 (by decide) ?_ ?_
  · refine g_iconst (pc := 22) (v := -1) dX10_tell_22 (by decide) ?_
    exact g_iret (pc := 23) hRT dX10_tell_23
  · refine g_aload_n (pc := 11) 0 dX10_tell_11 rfl rfl ?_
    refine g_get (pc := 12) 0 cN_0 rfl inlX10 3 (by decide) bw_2_0 rfl dX10_tell_12 ?_
    refine g_iload_n (pc := 15) 2 dX10_tell_15 rfl rfl ?_
    refine g_cVz (pc := 16) 12 (As := [Value.int x2]) (fun r2 h2 => k_X4_hasNews__12 hI h2) wk_X4_hasNews wv_X4_hasNews bw_21_6 cN_12 rfl (by decide) (by decide) rfl rfl (Nat.le_of_ble_eq_true rfl) dX10_tell_16 (fun r5 s6 => ?_)
    refine g_if_ne (pc := 19) (tgt := 24) dX10_tell_19 (by decide) ?_ ?_
    · refine g_aload_n (pc := 24) 0 dX10_tell_24 rfl rfl ?_
      refine g_get (pc := 25) 0 cN_0 rfl inlX10 4 (by decide) bw_2_4 rfl dX10_tell_25 ?_
      refine g_iload_n (pc := 28) 2 dX10_tell_28 rfl rfl ?_
      refine g_cVi (pc := 29) 19 (As := [Value.int x2]) (fun r2 h2 => k_X9_whoKnows__19 hI h2) wk_X9_whoKnows wv_X9_whoKnows bw_21_16 cN_19 rfl (by decide) (by decide) rfl rfl (Nat.le_of_ble_eq_true rfl) dX10_tell_29 (fun r7 s8 => ?_)
      refine g_istore_n (pc := 32) [1, 2, 3, 0] (lv1 := [(0, Value.ref (a 0)), (1, Value.int x1), (2, Value.int x2), (3, Value.int r7)]) dX10_tell_32 rfl (by decide) rfl ?_
      refine g_iload_n (pc := 33) 3 dX10_tell_33 rfl rfl ?_
      refine g_iload_n (pc := 34) 1 dX10_tell_34 rfl rfl ?_
      refine g_cSz (pc := 35) (As := [Value.int r7, Value.int x1]) (fun r2 h2 => k_X10_holds hI h2) wk_X10_holds ws_X10_holds bw_29_1 (by decide) (by decide) rfl rfl (Nat.le_of_ble_eq_true rfl) dX10_tell_35 (fun r9 s10 => ?_)
      refine g_if_eq (pc := 38) (tgt := 44) dX10_tell_38 (by decide) ?_ ?_
      · refine g_aload_n (pc := 44) 0 dX10_tell_44 rfl rfl ?_
        refine g_get (pc := 45) 0 cN_0 rfl inlX10 5 (by decide) bw_2_8 rfl dX10_tell_45 ?_
        refine g_aload_n (pc := 48) 0 dX10_tell_48 rfl rfl ?_
        refine g_get (pc := 49) 0 cN_0 rfl inlX10 4 (by decide) bw_2_4 rfl dX10_tell_49 ?_
        refine g_cVv (pc := 52) 22 (As := [Value.ref (a 19)]) (fun r2 h2 => k_X5_push__22_19 hI h2) wk_X5_push wv_X5_push bw_23_19 cN_22 rfl (by decide) (by decide) rfl rfl (Nat.le_of_ble_eq_true rfl) dX10_tell_52 (fun r11 s12 => ?_)
        refine g_aload_n (pc := 55) 0 dX10_tell_55 rfl rfl ?_
        refine g_get (pc := 56) 0 cN_0 rfl inlX10 4 (by decide) bw_2_4 rfl dX10_tell_56 ?_
        refine g_iload_n (pc := 59) 2 dX10_tell_59 rfl rfl ?_
        refine g_iload_n (pc := 60) 3 dX10_tell_60 rfl rfl ?_
        refine g_iload_n (pc := 61) 1 dX10_tell_61 rfl rfl ?_
        refine g_cSi (pc := 62) (As := [Value.int x1]) (fun r2 h2 => k_X10_bit hI h2) wk_X10_bit ws_X10_bit bw_20_5 (by decide) (by decide) rfl rfl (Nat.le_of_ble_eq_true rfl) dX10_tell_62 (fun r13 s14 => ?_)
        refine g_ior (pc := 65) dX10_tell_65 ?_
        refine g_cVv (pc := 66) 19 (As := [Value.int x2, Value.int (r7 ||| r13)]) (fun r2 h2 => k_X9_setWhoKnows__19 hI h2) wk_X9_setWhoKnows wv_X9_setWhoKnows bw_26_16 cN_19 rfl (by decide) (by decide) rfl rfl (Nat.le_of_ble_eq_true rfl) dX10_tell_66 (fun r15 s16 => ?_)
        refine g_iload_n (pc := 69) 3 dX10_tell_69 rfl rfl ?_
        refine g_iload_n (pc := 70) 1 dX10_tell_70 rfl rfl ?_
        refine g_cSi (pc := 71) (As := [Value.int x1]) (fun r2 h2 => k_X10_bit hI h2) wk_X10_bit ws_X10_bit bw_20_5 (by decide) (by decide) rfl rfl (Nat.le_of_ble_eq_true rfl) dX10_tell_71 (fun r17 s18 => ?_)
        refine g_ior (pc := 74) dX10_tell_74 ?_
        refine g_cSi (pc := 75) (As := [Value.int (r7 ||| r17)]) (fun r2 h2 => k_J6_bitCount_0f7a4 hI h2) wk_J6_bitCount_0f7a4 ws_J6_bitCount_0f7a4 bw_21_17 (by decide) (by decide) rfl rfl (Nat.le_of_ble_eq_true rfl) dX10_tell_75 (fun r19 s20 => ?_)
        exact g_iret (pc := 78) hRT dX10_tell_78
      · refine g_bipush (pc := 41) (v := -2) dX10_tell_41 (by decide) ?_
        exact g_iret (pc := 43) hRT dX10_tell_43
    · refine g_iconst (pc := 22) (v := -1) dX10_tell_22 (by decide) ?_
      exact g_iret (pc := 23) hRT dX10_tell_23
set_option maxRecDepth 100000 in
set_option maxHeartbeats 4000000 in
theorem k_X10_at__25 {l : Launch} {D : va_G} {a : Nat → Nat} {cI cS : ClassId} (hI : ∀ σ : St, va_D (AN a) (cN a cI cS σ)) {σ : St} {x1 : Int32} {r : Int32 × St} (h : f_X10_at__25 σ x1 = some r) : Kc (SN l D a cI cS) yX10_at cX10_at 2 (some .int) 0 [Value.ref (a 25), Value.int x1] σ r := by
  refine enter (own := RX10) (o := f_X10_at__25 σ x1) (plainFor_of_name (by decide +kernel)) rfl (Nat.le_of_ble_eq_true rfl) hI wk_X10_at.1 h (fun Γ hRT => ?_)
  show G _ Γ _ _ _ _ _ _ σ [((0 : Nat), Value.ref (a 25)), ((1 : Nat), Value.int x1)] 0 []
  unfold f_X10_at__25
  refine g_aload_n (pc := 0) 0 dX10_at_0 rfl rfl ?_
  refine g_ifnull (pc := 1) dX10_at_1 ?_
  refine g_jq0 (pc2 := 20) (lf := ([] : List (Nat × Value))) (sf := ([] : List Value)) (fun s3 => ?_) (fun k2 hk2 => ?_)
  · show G _ Γ _ _ _ _ _ _ s3 ([] : List (Nat × Value)) 20 ([] : List Value)
    refine g_iconst (pc := 20) (v := 0) dX10_at_20 (by decide) ?_
    exact g_iret (pc := 21) hRT dX10_at_21
  · refine g_iload_n (pc := 4) 1 dX10_at_4 rfl rfl ?_
    refine g_if_lt (pc := 5) (tgt := 20) dX10_at_5 (by decide) ?_ ?_
    · exact g_lv [] rfl (hk2 σ)
    · refine g_iload_n (pc := 8) 1 dX10_at_8 rfl rfl ?_
      refine g_aload_n (pc := 9) 0 dX10_at_9 rfl rfl ?_
      refine g_alen (pc := 10) 25 0 (v := 16) cN_25 rfl (show Int32.ofNat 16 = 16 by decide) dX10_at_10 ?_
      refine g_icmp_ge (pc := 11) (tgt := 20) dX10_at_11 (by decide) ?_ ?_
      · exact g_lv [] rfl (hk2 σ)
      · refine g_aload_n (pc := 14) 0 dX10_at_14 rfl rfl ?_
        refine g_iload_n (pc := 15) 1 dX10_at_15 rfl rfl ?_
        refine g_iald (pc := 16) 25 cN_25 rfl dX10_at_16 ?_
        refine g_goto (pc := 17) (tgt := 21) dX10_at_17 (by decide) ?_
        exact g_iret (pc := 21) hRT dX10_at_21
set_option maxRecDepth 100000 in
set_option maxHeartbeats 4000000 in
theorem k_X10_copy__25_20 {l : Launch} {D : va_G} {a : Nat → Nat} {cI cS : ClassId} (hI : ∀ σ : St, va_D (AN a) (cN a cI cS σ)) {σ : St} {r : Int32 × St} (h : f_X10_copy__25_20 σ = some r) : Kc (SN l D a cI cS) yX10_copy cX10_copy 3 none 1 [Value.ref (a 25), Value.ref (a 20)] σ r := by
  refine enter (own := RX10) (o := f_X10_copy__25_20 σ) (plainFor_of_name (by decide +kernel)) rfl (Nat.le_of_ble_eq_true rfl) hI wk_X10_copy.1 h (fun Γ hRT => ?_)
  show G _ Γ _ _ _ _ _ _ σ [((0 : Nat), Value.ref (a 25)), ((1 : Nat), Value.ref (a 20))] 0 []
  unfold f_X10_copy__25_20
  refine g_iconst (pc := 0) (v := 0) dX10_copy_0 (by decide) ?_
  refine g_istore_n (pc := 1) [1, 2, 0] (lv1 := [(0, Value.ref (a 25)), (1, Value.ref (a 20)), (2, Value.int (0 : Int32))]) dX10_copy_1 rfl (by decide) rfl ?_
  refine g_lq1 (pc := 2) (lf := fun x2 => [((0 : Nat), Value.ref (a 25)), ((1 : Nat), Value.ref (a 20)), ((2 : Nat), Value.int x2)]) (sf := fun x2 => ([] : List Value)) (fun k1 hk1 s3 x2 => ?_) 100000 σ _
  show G _ Γ _ _ _ _ _ _ s3 [((0 : Nat), Value.ref (a 25)), ((1 : Nat), Value.ref (a 20)), ((2 : Nat), Value.int x2)] 2 ([] : List Value)
  refine g_aload_n (pc := 2) 1 dX10_copy_2 rfl rfl ?_
  refine g_ifnull (pc := 3) dX10_copy_3 ?_
  refine g_iload_n (pc := 6) 2 dX10_copy_6 rfl rfl ?_
  refine g_aload_n (pc := 7) 1 dX10_copy_7 rfl rfl ?_
  refine g_alen (pc := 8) 20 0 (v := 16) cN_20 rfl (show Int32.ofNat 16 = 16 by decide) dX10_copy_8 ?_
  refine g_icmp_ge (pc := 9) (tgt := 26) dX10_copy_9 (by decide) ?_ ?_
  · exact g_vret (pc := 26) hRT dX10_copy_26
  · refine g_aload_n (pc := 12) 1 dX10_copy_12 rfl rfl ?_
    refine g_iload_n (pc := 13) 2 dX10_copy_13 rfl rfl ?_
    refine g_aload_n (pc := 14) 0 dX10_copy_14 rfl rfl ?_
    refine g_iload_n (pc := 15) 2 dX10_copy_15 rfl rfl ?_
    refine g_cSi (pc := 16) (As := [Value.ref (a 25), Value.int x2]) (fun r2 h2 => k_X10_at__25 hI h2) wk_X10_at ws_X10_at bw_24_10 (by decide) (by decide) rfl rfl (Nat.le_of_ble_eq_true rfl) dX10_copy_16 (fun r4 s5 => ?_)
    refine g_iast (pc := 19) 20 cN_20 rfl cN_s20 dX10_copy_19 (fun s6 => ?_)
    refine g_iinc (pc := 20) [1, 2, 0] 2 (n1 := 1) (lv1 := fun x7 => [(0, Value.ref (a 25)), (1, Value.ref (a 20)), (2, Value.int x7)]) dX10_copy_20 rfl (by decide) (by decide) (fun _ => rfl) (fun x7 => ?_)
    show G _ Γ _ _ _ _ _ _ _ [(0, Value.ref (a 25)), (1, Value.ref (a 20)), (2, Value.int x7)] (20 + 3) _
    refine g_goto (pc := 23) (tgt := 2) dX10_copy_23 (by decide) ?_
    exact hk1 s6 _
set_option maxRecDepth 100000 in
set_option maxHeartbeats 4000000 in
theorem k_X10_at__26 {l : Launch} {D : va_G} {a : Nat → Nat} {cI cS : ClassId} (hI : ∀ σ : St, va_D (AN a) (cN a cI cS σ)) {σ : St} {x1 : Int32} {r : Int32 × St} (h : f_X10_at__26 σ x1 = some r) : Kc (SN l D a cI cS) yX10_at cX10_at 2 (some .int) 0 [Value.ref (a 26), Value.int x1] σ r := by
  refine enter (own := RX10) (o := f_X10_at__26 σ x1) (plainFor_of_name (by decide +kernel)) rfl (Nat.le_of_ble_eq_true rfl) hI wk_X10_at.1 h (fun Γ hRT => ?_)
  show G _ Γ _ _ _ _ _ _ σ [((0 : Nat), Value.ref (a 26)), ((1 : Nat), Value.int x1)] 0 []
  unfold f_X10_at__26
  refine g_aload_n (pc := 0) 0 dX10_at_0 rfl rfl ?_
  refine g_ifnull (pc := 1) dX10_at_1 ?_
  refine g_jq0 (pc2 := 20) (lf := ([] : List (Nat × Value))) (sf := ([] : List Value)) (fun s3 => ?_) (fun k2 hk2 => ?_)
  · show G _ Γ _ _ _ _ _ _ s3 ([] : List (Nat × Value)) 20 ([] : List Value)
    refine g_iconst (pc := 20) (v := 0) dX10_at_20 (by decide) ?_
    exact g_iret (pc := 21) hRT dX10_at_21
  · refine g_iload_n (pc := 4) 1 dX10_at_4 rfl rfl ?_
    refine g_if_lt (pc := 5) (tgt := 20) dX10_at_5 (by decide) ?_ ?_
    · exact g_lv [] rfl (hk2 σ)
    · refine g_iload_n (pc := 8) 1 dX10_at_8 rfl rfl ?_
      refine g_aload_n (pc := 9) 0 dX10_at_9 rfl rfl ?_
      refine g_alen (pc := 10) 26 0 (v := 5) cN_26 rfl (show Int32.ofNat 5 = 5 by decide) dX10_at_10 ?_
      refine g_icmp_ge (pc := 11) (tgt := 20) dX10_at_11 (by decide) ?_ ?_
      · exact g_lv [] rfl (hk2 σ)
      · refine g_aload_n (pc := 14) 0 dX10_at_14 rfl rfl ?_
        refine g_iload_n (pc := 15) 1 dX10_at_15 rfl rfl ?_
        refine g_iald (pc := 16) 26 cN_26 rfl dX10_at_16 ?_
        refine g_goto (pc := 17) (tgt := 21) dX10_at_17 (by decide) ?_
        exact g_iret (pc := 21) hRT dX10_at_21
