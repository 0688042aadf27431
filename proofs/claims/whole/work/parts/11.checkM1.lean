set_option maxRecDepth 100000 in
set_option maxHeartbeats 4000000 in
theorem k_X11_goes__0 {l : Launch} {D : va_G} {a : Nat → Nat} {cI : ClassId} (hI : ∀ σ : St, va_D (AM a) (cM a cI σ)) {σ : St} {x1 : Int32} {r : Int32 × St} (h : f_X11_goes__0 σ x1 = some r) : Kc (SM l D a cI) yX11_goes cX11_goes 3 none 4 [Value.ref (a 0), Value.int x1] σ r := by
  refine enter (own := RX11) (o := f_X11_goes__0 σ x1) (plainFor_of_name (by decide +kernel)) rfl (Nat.le_of_ble_eq_true rfl) hI wk_X11_goes.1 h (fun Γ hRT => ?_)
  show G _ Γ _ _ _ _ _ _ σ [((0 : Nat), Value.ref (a 0)), ((1 : Nat), Value.int x1)] 0 []
  unfold f_X11_goes__0
  refine g_iconst (pc := 0) (v := 0) dX11_goes_0 (by decide) ?_
  refine g_istore_n (pc := 1) [1, 2, 0] (lv1 := [(0, Value.ref (a 0)), (1, Value.int x1), (2, Value.int (0 : Int32))]) dX11_goes_1 rfl (by decide) rfl ?_
  refine g_lq1 (pc := 2) (lf := fun x3 => [((0 : Nat), Value.ref (a 0)), ((1 : Nat), Value.int x1), ((2 : Nat), Value.int x3)]) (sf := fun x3 => ([] : List Value)) (fun k2 hk2 s4 x3 => ?_) 100000 σ _
  show G _ Γ _ _ _ _ _ _ s4 [((0 : Nat), Value.ref (a 0)), ((1 : Nat), Value.int x1), ((2 : Nat), Value.int x3)] 2 ([] : List Value)
  refine g_iload_n (pc := 2) 2 dX11_goes_2 rfl rfl ?_
  refine g_iload_n (pc := 3) 1 dX11_goes_3 rfl rfl ?_
  refine g_icmp_ge (pc := 4) (tgt := 27) dX11_goes_4 (by decide) ?_ ?_
  · exact g_vret (pc := 27) hRT dX11_goes_27
  · refine g_aload_n (pc := 7) 0 dX11_goes_7 rfl rfl ?_
    refine g_aload_n (pc := 8) 0 dX11_goes_8 rfl rfl ?_
    refine g_aload_n (pc := 9) 0 dX11_goes_9 rfl rfl ?_
    refine g_get (pc := 10) 0 cM_0 rfl inlX11 28 (by decide) bw_14_14 rfl dX11_goes_10 ?_
    refine g_iconst (pc := 13) (v := 0) dX11_goes_13 (by decide) ?_
    refine g_iald (pc := 14) 14 cM_14 rfl dX11_goes_14 ?_
    refine g_cVi (pc := 15) 0 (As := [Value.int (s4 14 (Int32.toNatClampNeg (0 : Int32)))]) (fun r2 h2 => k_X11_windOf__0 hI h2) wk_X11_windOf wv_X11_windOf bw_23_11 cM_0 rfl (by decide) (by decide) rfl rfl (Nat.le_of_ble_eq_true rfl) dX11_goes_15 (fun r5 s6 => ?_)
    refine g_cVv (pc := 18) 0 (As := [Value.int r5]) (fun r2 h2 => k_X11_goesBy__0 hI h2) wk_X11_goesBy wv_X11_goesBy bw_27_12 cM_0 rfl (by decide) (by decide) rfl rfl (Nat.le_of_ble_eq_true rfl) dX11_goes_18 (fun r7 s8 => ?_)
    refine g_iinc (pc := 21) [1, 2, 0] 2 (n1 := 1) (lv1 := fun x9 => [(0, Value.ref (a 0)), (1, Value.int x1), (2, Value.int x9)]) dX11_goes_21 rfl (by decide) (by decide) (fun _ => rfl) (fun x9 => ?_)
    show G _ Γ _ _ _ _ _ _ _ [(0, Value.ref (a 0)), (1, Value.int x1), (2, Value.int x9)] (21 + 3) _
    refine g_goto (pc := 24) (tgt := 2) dX11_goes_24 (by decide) ?_
    exact hk2 s8 _
set_option maxRecDepth 100000 in
set_option maxHeartbeats 4000000 in
theorem k_X11_known__0 {l : Launch} {D : va_G} {a : Nat → Nat} {cI : ClassId} (hI : ∀ σ : St, va_D (AM a) (cM a cI σ)) {σ : St} {x1 : Int32} {r : Int32 × St} (h : f_X11_known__0 σ x1 = some r) : Kc (SM l D a cI) yX11_known cX11_known 4 (some .int) 1 [Value.ref (a 0), Value.int x1] σ r := by
  refine enter (own := RX11) (o := f_X11_known__0 σ x1) (plainFor_of_name (by decide +kernel)) rfl (Nat.le_of_ble_eq_true rfl) hI wk_X11_known.1 h (fun Γ hRT => ?_)
  show G _ Γ _ _ _ _ _ _ σ [((0 : Nat), Value.ref (a 0)), ((1 : Nat), Value.int x1)] 0 []
  unfold f_X11_known__0
  refine g_iconst (pc := 0) (v := 0) dX11_known_0 (by decide) ?_
  refine g_istore_n (pc := 1) [1, 2, 0] (lv1 := [(0, Value.ref (a 0)), (1, Value.int x1), (2, Value.int (0 : Int32))]) dX11_known_1 rfl (by decide) rfl ?_
  refine g_iconst (pc := 2) (v := 0) dX11_known_2 (by decide) ?_
  refine g_istore_n (pc := 3) [1, 2, 3, 0] (lv1 := [(0, Value.ref (a 0)), (1, Value.int x1), (2, Value.int (0 : Int32)), (3, Value.int (0 : Int32))]) dX11_known_3 rfl (by decide) rfl ?_
  refine g_lq2 (pc := 4) (lf := fun x3 x4 => [((0 : Nat), Value.ref (a 0)), ((1 : Nat), Value.int x1), ((2 : Nat), Value.int x3), ((3 : Nat), Value.int x4)]) (sf := fun x3 x4 => ([] : List Value)) (fun k2 hk2 s5 x3 x4 => ?_) 100000 σ _ _
  show G _ Γ _ _ _ _ _ _ s5 [((0 : Nat), Value.ref (a 0)), ((1 : Nat), Value.int x1), ((2 : Nat), Value.int x3), ((3 : Nat), Value.int x4)] 4 ([] : List Value)
  refine g_iload_n (pc := 4) 3 dX11_known_4 rfl rfl ?_
  refine g_aload_n (pc := 5) 0 dX11_known_5 rfl rfl ?_
  refine g_get (pc := 6) 0 cM_0 rfl inlX11 4 (by decide) bw_15_15 rfl dX11_known_6 ?_
  refine g_icmp_ge (pc := 9) (tgt := 44) dX11_known_9 (by decide) ?_ ?_
  · refine g_iload_n (pc := 44) 2 dX11_known_44 rfl rfl ?_
    exact g_iret (pc := 45) hRT dX11_known_45
  · refine g_jq2 (pc2 := 36) (lf := fun x7 x8 => [((0 : Nat), Value.ref (a 0)), ((1 : Nat), Value.int x1), ((3 : Nat), Value.int x4)]) (sf := fun x7 x8 => [Value.int x7, Value.int x8]) (fun s9 x7 x8 => ?_) (fun k6 hk6 => ?_)
    · show G _ Γ _ _ _ _ _ _ s9 [((0 : Nat), Value.ref (a 0)), ((1 : Nat), Value.int x1), ((3 : Nat), Value.int x4)] 36 [Value.int x7, Value.int x8]
      refine g_ior (pc := 36) dX11_known_36 ?_
      refine g_nm (fun x10 => ?_)
      refine g_istore_n (pc := 37) [1, 2, 0, 3] (lv1 := [(0, Value.ref (a 0)), (1, Value.int x1), (2, Value.int x10), (3, Value.int x4)]) dX11_known_37 rfl (by decide) rfl ?_
      refine g_iinc (pc := 38) [1, 2, 3, 0] 3 (n1 := 1) (lv1 := fun x11 => [(0, Value.ref (a 0)), (1, Value.int x1), (2, Value.int x10), (3, Value.int x11)]) dX11_known_38 rfl (by decide) (by decide) (fun _ => rfl) (fun x11 => ?_)
      show G _ Γ _ _ _ _ _ _ _ [(0, Value.ref (a 0)), (1, Value.int x1), (2, Value.int x10), (3, Value.int x11)] (38 + 3) _
      refine g_goto (pc := 41) (tgt := 4) dX11_known_41 (by decide) ?_
      exact hk2 s9 _ _
    · refine g_iload_n (pc := 12) 2 dX11_known_12 rfl rfl ?_
      refine g_aload_n (pc := 13) 0 dX11_known_13 rfl rfl ?_
      refine g_get (pc := 14) 0 cM_0 rfl inlX11 28 (by decide) bw_14_14 rfl dX11_known_14 ?_
      refine g_bipush (pc := 17) (v := 17) dX11_known_17 (by decide) ?_
      refine g_iload_n (pc := 19) 3 dX11_known_19 rfl rfl ?_
      refine g_iadd (pc := 20) dX11_known_20 ?_
      refine g_iald (pc := 21) 14 cM_14 rfl dX11_known_21 ?_
      refine g_iload_n (pc := 22) 1 dX11_known_22 rfl rfl ?_
      refine g_cSz (pc := 23) (As := [Value.int (s5 14 (Int32.toNatClampNeg ((17 : Int32) + x4))), Value.int x1]) (fun r2 h2 => k_X11_has hI h2) wk_X11_has ws_X11_has bw_20_23 (by decide) (by decide) rfl rfl (Nat.le_of_ble_eq_true rfl) dX11_known_23 (fun r12 s13 => ?_)
      refine g_if_eq (pc := 26) (tgt := 35) dX11_known_26 (by decide) ?_ ?_
      · refine g_iconst (pc := 35) (v := 0) dX11_known_35 (by decide) ?_
        exact g_lv [0, 1, 3] rfl (hk6 s13 _ _)
      · refine g_iconst (pc := 29) (v := 1) dX11_known_29 (by decide) ?_
        refine g_iload_n (pc := 30) 3 dX11_known_30 rfl rfl ?_
        refine g_ishl (pc := 31) dX11_known_31 ?_
        refine g_goto (pc := 32) (tgt := 36) dX11_known_32 (by decide) ?_
        exact g_lv [0, 1, 3] rfl (hk6 s13 _ _)
set_option maxRecDepth 100000 in
set_option maxHeartbeats 4000000 in
theorem k_X11_house__0 {l : Launch} {D : va_G} {a : Nat → Nat} {cI : ClassId} (hI : ∀ σ : St, va_D (AM a) (cM a cI σ)) {σ : St} {x1 x2 : Int32} {r : Int32 × St} (h : f_X11_house__0 σ x1 x2 = some r) : Kc (SM l D a cI) yX11_house cX11_house 3 (some .int) 2 [Value.ref (a 0), Value.int x1, Value.int x2] σ r := by
  refine enter (own := RX11) (o := f_X11_house__0 σ x1 x2) (plainFor_of_name (by decide +kernel)) rfl (Nat.le_of_ble_eq_true rfl) hI wk_X11_house.1 h (fun Γ hRT => ?_)
  show G _ Γ _ _ _ _ _ _ σ [((0 : Nat), Value.ref (a 0)), ((1 : Nat), Value.int x1), ((2 : Nat), Value.int x2)] 0 []
  unfold f_X11_house__0
  refine g_aload_n (pc := 0) 0 dX11_house_0 rfl rfl ?_
  refine g_iload_n (pc := 1) 1 dX11_house_1 rfl rfl ?_
  refine g_cVz (pc := 2) 0 (As := [Value.int x1]) (fun r2 h2 => k_X11_isHouse__0 hI h2) wk_X11_isHouse wv_X11_isHouse bw_20_10 cM_0 rfl (by decide) (by decide) rfl rfl (Nat.le_of_ble_eq_true rfl) dX11_house_2 (fun r3 s4 => ?_)
  refine g_if_ne (pc := 5) (tgt := 10) dX11_house_5 (by decide) ?_ ?_
  · refine g_aload_n (pc := 10) 0 dX11_house_10 rfl rfl ?_
    refine g_cVv (pc := 11) 0 (As := []) (fun r2 h2 => k_X11_asItIs__0 hI h2) wk_X11_asItIs wv_X11_asItIs bw_20_14 cM_0 rfl (by decide) (by decide) rfl rfl (Nat.le_of_ble_eq_true rfl) dX11_house_11 (fun r5 s6 => ?_)
    refine g_iload_n (pc := 14) 2 dX11_house_14 rfl rfl ?_
    refine g_ite (fun e0_ => ?_) (fun e0_ => ?_)
    · refine g_tableIn (pc := 15) (off := 25) (tgt := 40) dX11_house_15 (by rw [e0_]; decide) (by rw [e0_]; decide) (by rw [e0_]; decide) (by decide) ?_
      refine g_aload_n (pc := 40) 0 dX11_house_40 rfl rfl ?_
      refine g_get (pc := 41) 0 cM_0 rfl inlX11 3 (by decide) bw_14_1 rfl dX11_house_41 ?_
      refine g_iload_n (pc := 44) 1 dX11_house_44 rfl rfl ?_
      refine g_iald (pc := 45) 1 cM_1 rfl dX11_house_45 ?_
      exact g_iret (pc := 46) hRT dX11_house_46
    · skip
      refine g_ite (fun e1_ => ?_) (fun e1_ => ?_)
      · refine g_tableIn (pc := 15) (off := 32) (tgt := 47) dX11_house_15 (by rw [e1_]; decide) (by rw [e1_]; decide) (by rw [e1_]; decide) (by decide) ?_
        refine g_aload_n (pc := 47) 0 dX11_house_47 rfl rfl ?_
        refine g_get (pc := 48) 0 cM_0 rfl inlX11 8 (by decide) bw_14_4 rfl dX11_house_48 ?_
        refine g_iconst (pc := 51) (v := 1) dX11_house_51 (by decide) ?_
        refine g_iload_n (pc := 52) 1 dX11_house_52 rfl rfl ?_
        refine g_iadd (pc := 53) dX11_house_53 ?_
        refine g_iald (pc := 54) 4 cM_4 rfl dX11_house_54 ?_
        exact g_iret (pc := 55) hRT dX11_house_55
      · skip
        refine g_ite (fun e2_ => ?_) (fun e2_ => ?_)
        · refine g_tableIn (pc := 15) (off := 41) (tgt := 56) dX11_house_15 (by rw [e2_]; decide) (by rw [e2_]; decide) (by rw [e2_]; decide) (by decide) ?_
          refine g_aload_n (pc := 56) 0 dX11_house_56 rfl rfl ?_
          refine g_iload_n (pc := 57) 1 dX11_house_57 rfl rfl ?_
          refine g_cVi (pc := 58) 0 (As := [Value.int x1]) (fun r2 h2 => k_X11_known__0 hI h2) wk_X11_known wv_X11_known bw_20_19 cM_0 rfl (by decide) (by decide) rfl rfl (Nat.le_of_ble_eq_true rfl) dX11_house_58 (fun r8 s9 => ?_)
          exact g_iret (pc := 61) hRT dX11_house_61
        · skip
          have hx_w7 : x2.toInt < 0 ∨ 2 < x2.toInt := by
            have n0_ : x2.toInt ≠ 0 := fun q => e0_ (Int32.toInt_inj.mp (q.trans (by decide)))
            have n1_ : x2.toInt ≠ 1 := fun q => e1_ (Int32.toInt_inj.mp (q.trans (by decide)))
            have n2_ : x2.toInt ≠ 2 := fun q => e2_ (Int32.toInt_inj.mp (q.trans (by decide)))
            omega
          refine g_tableOut (pc := 15) (tgt := 62) dX11_house_15 hx_w7 (by decide) ?_
          refine g_iconst (pc := 62) (v := -1) dX11_house_62 (by decide) ?_
          exact g_iret (pc := 63) hRT dX11_house_63
  · refine g_iconst (pc := 8) (v := -1) dX11_house_8 (by decide) ?_
    exact g_iret (pc := 9) hRT dX11_house_9
set_option maxRecDepth 100000 in
set_option maxHeartbeats 4000000 in
theorem k_X11_news__0 {l : Launch} {D : va_G} {a : Nat → Nat} {cI : ClassId} (hI : ∀ σ : St, va_D (AM a) (cM a cI σ)) {σ : St} {x1 x2 : Int32} {r : Int32 × St} (h : f_X11_news__0 σ x1 x2 = some r) : Kc (SM l D a cI) yX11_news cX11_news 3 (some .int) 2 [Value.ref (a 0), Value.int x1, Value.int x2] σ r := by
  refine enter (own := RX11) (o := f_X11_news__0 σ x1 x2) (plainFor_of_name (by decide +kernel)) rfl (Nat.le_of_ble_eq_true rfl) hI wk_X11_news.1 h (fun Γ hRT => ?_)
  show G _ Γ _ _ _ _ _ _ σ [((0 : Nat), Value.ref (a 0)), ((1 : Nat), Value.int x1), ((2 : Nat), Value.int x2)] 0 []
  unfold f_X11_news__0
  refine g_aload_n (pc := 0) 0 dX11_news_0 rfl rfl ?_
  refine g_iload_n (pc := 1) 1 dX11_news_1 rfl rfl ?_
  refine g_cVz (pc := 2) 0 (As := [Value.int x1]) (fun r2 h2 => k_X11_isNews__0 hI h2) wk_X11_isNews wv_X11_isNews bw_22_4 cM_0 rfl (by decide) (by decide) rfl rfl (Nat.le_of_ble_eq_true rfl) dX11_news_2 (fun r3 s4 => ?_)
  refine g_if_eq (pc := 5) (tgt := 17) dX11_news_5 (by decide) ?_ ?_
  · refine g_iconst (pc := 17) (v := -1) dX11_news_17 (by decide) ?_
    exact g_iret (pc := 18) hRT dX11_news_18
  · refine g_iload_n (pc := 8) 2 dX11_news_8 rfl rfl ?_
    refine g_iconst (pc := 9) (v := 0) dX11_news_9 (by decide) ?_
    refine g_iconst (pc := 10) (v := 3) dX11_news_10 (by decide) ?_
    refine g_cSz (pc := 11) (As := [Value.int x2, Value.int (0 : Int32), Value.int (3 : Int32)]) (fun r2 h2 => k_X11_in hI h2) wk_X11_in ws_X11_in bw_16_9 (by decide) (by decide) rfl rfl (Nat.le_of_ble_eq_true rfl) dX11_news_11 (fun r5 s6 => ?_)
    refine g_if_ne (pc := 14) (tgt := 19) dX11_news_14 (by decide) ?_ ?_
    · refine g_iload_n (pc := 19) 2 dX11_news_19 rfl rfl ?_
      refine g_iconst (pc := 20) (v := 3) dX11_news_20 (by decide) ?_
      refine g_icmp_ge (pc := 21) (tgt := 37) dX11_news_21 (by decide) ?_ ?_
      · refine g_aload_n (pc := 37) 0 dX11_news_37 rfl rfl ?_
        refine g_get (pc := 38) 0 cM_0 rfl inlX11 8 (by decide) bw_14_4 rfl dX11_news_38 ?_
        refine g_bipush (pc := 41) (v := 17) dX11_news_41 (by decide) ?_
        refine g_iload_n (pc := 43) 1 dX11_news_43 rfl rfl ?_
        refine g_iadd (pc := 44) dX11_news_44 ?_
        refine g_iald (pc := 45) 4 cM_4 rfl dX11_news_45 ?_
        refine g_cSi (pc := 46) (As := [Value.int (s6 4 (Int32.toNatClampNeg ((17 : Int32) + x1)))]) (fun r2 h2 => k_X11_bits hI h2) wk_X11_bits ws_X11_bits bw_22_8 (by decide) (by decide) rfl rfl (Nat.le_of_ble_eq_true rfl) dX11_news_46 (fun r7 s8 => ?_)
        exact g_iret (pc := 49) hRT dX11_news_49
      · refine g_aload_n (pc := 24) 0 dX11_news_24 rfl rfl ?_
        refine g_get (pc := 25) 0 cM_0 rfl inlX11 5 (by decide) bw_14_2 rfl dX11_news_25 ?_
        refine g_iconst (pc := 28) (v := 3) dX11_news_28 (by decide) ?_
        refine g_iload_n (pc := 29) 1 dX11_news_29 rfl rfl ?_
        refine g_imul (pc := 30) dX11_news_30 ?_
        refine g_iload_n (pc := 31) 2 dX11_news_31 rfl rfl ?_
        refine g_iadd (pc := 32) dX11_news_32 ?_
        refine g_iald (pc := 33) 2 cM_2 rfl dX11_news_33 ?_
        refine g_goto (pc := 34) (tgt := 49) dX11_news_34 (by decide) ?_
        exact g_iret (pc := 49) hRT dX11_news_49
    · refine g_iconst (pc := 17) (v := -1) dX11_news_17 (by decide) ?_
      exact g_iret (pc := 18) hRT dX11_news_18
set_option maxRecDepth 100000 in
set_option maxHeartbeats 4000000 in
theorem k_X11_wind__0 {l : Launch} {D : va_G} {a : Nat → Nat} {cI : ClassId} (hI : ∀ σ : St, va_D (AM a) (cM a cI σ)) {σ : St} {x1 : Int32} {r : Int32 × St} (h : f_X11_wind__0 σ x1 = some r) : Kc (SM l D a cI) yX11_wind cX11_wind 2 (some .int) 1 [Value.ref (a 0), Value.int x1] σ r := by
  refine enter (own := RX11) (o := f_X11_wind__0 σ x1) (plainFor_of_name (by decide +kernel)) rfl (Nat.le_of_ble_eq_true rfl) hI wk_X11_wind.1 h (fun Γ hRT => ?_)
  show G _ Γ _ _ _ _ _ _ σ [((0 : Nat), Value.ref (a 0)), ((1 : Nat), Value.int x1)] 0 []
  unfold f_X11_wind__0
  refine g_iload_n (pc := 0) 1 dX11_wind_0 rfl rfl ?_
  refine g_iconst (pc := 1) (v := 0) dX11_wind_1 (by decide) ?_
  refine g_bipush (pc := 2) (v := 99) dX11_wind_2 (by decide) ?_
  refine g_cSz (pc := 4) (As := [Value.int x1, Value.int (0 : Int32), Value.int (99 : Int32)]) (fun r2 h2 => k_X11_in hI h2) wk_X11_in ws_X11_in bw_16_9 (by decide) (by decide) rfl rfl (Nat.le_of_ble_eq_true rfl) dX11_wind_4 (fun r2 s3 => ?_)
  refine g_if_eq (pc := 7) (tgt := 25) dX11_wind_7 (by decide) ?_ ?_
  · refine g_iconst (pc := 25) (v := -1) dX11_wind_25 (by decide) ?_
    exact g_iret (pc := 26) hRT dX11_wind_26
  · refine g_aload_n (pc := 10) 0 dX11_wind_10 rfl rfl ?_
    refine g_aload_n (pc := 11) 0 dX11_wind_11 rfl rfl ?_
    refine g_get (pc := 12) 0 cM_0 rfl inlX11 8 (by decide) bw_14_4 rfl dX11_wind_12 ?_
    refine g_iconst (pc := 15) (v := 0) dX11_wind_15 (by decide) ?_
    refine g_iald (pc := 16) 4 cM_4 rfl dX11_wind_16 ?_
    refine g_iload_n (pc := 17) 1 dX11_wind_17 rfl rfl ?_
    refine g_iadd (pc := 18) dX11_wind_18 ?_
    refine g_cVi (pc := 19) 0 (As := [Value.int ((s3 4 (Int32.toNatClampNeg (0 : Int32))) + x1)]) (fun r2 h2 => k_X11_windOf__0 hI h2) wk_X11_windOf wv_X11_windOf bw_23_11 cM_0 rfl (by decide) (by decide) rfl rfl (Nat.le_of_ble_eq_true rfl) dX11_wind_19 (fun r4 s5 => ?_)
    refine g_goto (pc := 22) (tgt := 26) dX11_wind_22 (by decide) ?_
    exact g_iret (pc := 26) hRT dX11_wind_26
set_option maxRecDepth 100000 in
set_option maxHeartbeats 4000000 in
theorem k_X11_copies__5_4 {l : Launch} {D : va_G} {a : Nat → Nat} {cI : ClassId} (hI : ∀ σ : St, va_D (AM a) (cM a cI σ)) {σ : St} {x1 x2 x3 : Int32} {r : Int32 × St} (h : f_X11_copies__5_4 σ x1 x2 x3 = some r) : Kc (SM l D a cI) yX11_copies cX11_copies 6 none 0 [Value.ref (a 5), Value.int x1, Value.ref (a 4), Value.int x2, Value.int x3] σ r := by
  refine enter (own := RX11) (o := f_X11_copies__5_4 σ x1 x2 x3) (plainFor_of_name (by decide +kernel)) rfl (Nat.le_of_ble_eq_true rfl) hI wk_X11_copies.1 h (fun Γ hRT => ?_)
  show G _ Γ _ _ _ _ _ _ σ [((0 : Nat), Value.ref (a 5)), ((1 : Nat), Value.int x1), ((2 : Nat), Value.ref (a 4)), ((3 : Nat), Value.int x2), ((4 : Nat), Value.int x3)] 0 []
  unfold f_X11_copies__5_4
  refine g_iconst (pc := 0) (v := 0) dX11_copies_0 (by decide) ?_
  refine g_istore (pc := 1) [1, 2, 3, 4, 5, 0] (lv1 := [(0, Value.ref (a 5)), (1, Value.int x1), (2, Value.ref (a 4)), (3, Value.int x2), (4, Value.int x3), (5, Value.int (0 : Int32))]) dX11_copies_1 (by decide) rfl ?_
  refine g_lq1 (pc := 3) (lf := fun x5 => [((0 : Nat), Value.ref (a 5)), ((1 : Nat), Value.int x1), ((2 : Nat), Value.ref (a 4)), ((3 : Nat), Value.int x2), ((4 : Nat), Value.int x3), ((5 : Nat), Value.int x5)]) (sf := fun x5 => ([] : List Value)) (fun k4 hk4 s6 x5 => ?_) 100000 σ _
  show G _ Γ _ _ _ _ _ _ s6 [((0 : Nat), Value.ref (a 5)), ((1 : Nat), Value.int x1), ((2 : Nat), Value.ref (a 4)), ((3 : Nat), Value.int x2), ((4 : Nat), Value.int x3), ((5 : Nat), Value.int x5)] 3 ([] : List Value)
  refine g_iload (pc := 3) 5 dX11_copies_3 rfl ?_
  refine g_iload (pc := 5) 4 dX11_copies_5 rfl ?_
  refine g_icmp_ge (pc := 7) (tgt := 28) dX11_copies_7 (by decide) ?_ ?_
  · exact g_vret (pc := 28) hRT dX11_copies_28
  · refine g_aload_n (pc := 10) 0 dX11_copies_10 rfl rfl ?_
    refine g_iload_n (pc := 11) 1 dX11_copies_11 rfl rfl ?_
    refine g_iload (pc := 12) 5 dX11_copies_12 rfl ?_
    refine g_iadd (pc := 14) dX11_copies_14 ?_
    refine g_aload_n (pc := 15) 2 dX11_copies_15 rfl rfl ?_
    refine g_iload_n (pc := 16) 3 dX11_copies_16 rfl rfl ?_
    refine g_iload (pc := 17) 5 dX11_copies_17 rfl ?_
    refine g_iadd (pc := 19) dX11_copies_19 ?_
    refine g_iald (pc := 20) 4 cM_4 rfl dX11_copies_20 ?_
    refine g_iast (pc := 21) 5 cM_5 rfl cM_s5 dX11_copies_21 (fun s7 => ?_)
    refine g_iinc (pc := 22) [1, 2, 3, 4, 5, 0] 5 (n1 := 1) (lv1 := fun x8 => [(0, Value.ref (a 5)), (1, Value.int x1), (2, Value.ref (a 4)), (3, Value.int x2), (4, Value.int x3), (5, Value.int x8)]) dX11_copies_22 rfl (by decide) (by decide) (fun _ => rfl) (fun x8 => ?_)
    show G _ Γ _ _ _ _ _ _ _ [(0, Value.ref (a 5)), (1, Value.int x1), (2, Value.ref (a 4)), (3, Value.int x2), (4, Value.int x3), (5, Value.int x8)] (22 + 3) _
    refine g_goto (pc := 25) (tgt := 3) dX11_copies_25 (by decide) ?_
    exact hk4 s7 _
set_option maxRecDepth 100000 in
set_option maxHeartbeats 4000000 in
theorem k_X11_remembers__0 {l : Launch} {D : va_G} {a : Nat → Nat} {cI : ClassId} (hI : ∀ σ : St, va_D (AM a) (cM a cI σ)) {σ : St} {r : Int32 × St} (h : f_X11_remembers__0 σ = some r) : Kc (SM l D a cI) yX11_remembers cX11_remembers 2 none 1 [Value.ref (a 0)] σ r := by
  refine enter (own := RX11) (o := f_X11_remembers__0 σ) (plainFor_of_name (by decide +kernel)) rfl (Nat.le_of_ble_eq_true rfl) hI wk_X11_remembers.1 h (fun Γ hRT => ?_)
  show G _ Γ _ _ _ _ _ _ σ [((0 : Nat), Value.ref (a 0))] 0 []
  unfold f_X11_remembers__0
  refine g_jq0 (pc2 := 49) (lf := [((0 : Nat), Value.ref (a 0))]) (sf := ([] : List Value)) (fun s2 => ?_) (fun k1 hk1 => ?_)
  · show G _ Γ _ _ _ _ _ _ s2 [((0 : Nat), Value.ref (a 0))] 49 ([] : List Value)
    refine g_aload_n (pc := 49) 0 dX11_remembers_49 rfl rfl ?_
    refine g_get (pc := 50) 0 cM_0 rfl inlX11 10 (by decide) bw_14_5 rfl dX11_remembers_50 ?_
    refine g_bipush (pc := 53) (v := 22) dX11_remembers_53 (by decide) ?_
    refine g_aload_n (pc := 55) 0 dX11_remembers_55 rfl rfl ?_
    refine g_get (pc := 56) 0 cM_0 rfl inlX11 9 (by decide) bw_15_17 rfl dX11_remembers_56 ?_
    refine g_imul (pc := 59) dX11_remembers_59 ?_
    refine g_aload_n (pc := 60) 0 dX11_remembers_60 rfl rfl ?_
    refine g_get (pc := 61) 0 cM_0 rfl inlX11 8 (by decide) bw_14_4 rfl dX11_remembers_61 ?_
    refine g_iconst (pc := 64) (v := 0) dX11_remembers_64 (by decide) ?_
    refine g_bipush (pc := 65) (v := 22) dX11_remembers_65 (by decide) ?_
    refine g_cSv (pc := 67) (As := [Value.ref (a 5), Value.int ((22 : Int32) * (s2 0 9)), Value.ref (a 4), Value.int (0 : Int32), Value.int (22 : Int32)]) (fun r2 h2 => k_X11_copies__5_4 hI h2) wk_X11_copies ws_X11_copies bw_15_20 (by decide) (by decide) rfl rfl (Nat.le_of_ble_eq_true rfl) dX11_remembers_67 (fun r3 s4 => ?_)
    refine g_aload_n (pc := 70) 0 dX11_remembers_70 rfl rfl ?_
    refine g_dup (pc := 71) dX11_remembers_71 rfl ?_
    refine g_get (pc := 72) 0 cM_0 rfl inlX11 9 (by decide) bw_15_17 rfl dX11_remembers_72 ?_
    refine g_iconst (pc := 75) (v := 1) dX11_remembers_75 (by decide) ?_
    refine g_iadd (pc := 76) dX11_remembers_76 ?_
    refine g_put (pc := 77) 0 (ty := .int) cM_0 rfl inlX11 tyX11_ok nmX11 9 (by decide) bw_15_17 rfl (by decide +kernel) rfl rfl (Nat.le_of_ble_eq_true rfl) cM_f0_9 dX11_remembers_77 (fun s5 => ?_)
    exact g_vret (pc := 80) hRT dX11_remembers_80
  · refine g_aload_n (pc := 0) 0 dX11_remembers_0 rfl rfl ?_
    refine g_get (pc := 1) 0 cM_0 rfl inlX11 9 (by decide) bw_15_17 rfl dX11_remembers_1 ?_
    refine g_bipush (pc := 4) (v := 8) dX11_remembers_4 (by decide) ?_
    refine g_icmp_ne (pc := 6) (tgt := 49) dX11_remembers_6 (by decide) ?_ ?_
    · exact hk1 σ
    · refine g_iconst (pc := 9) (v := 0) dX11_remembers_9 (by decide) ?_
      refine g_istore_n (pc := 10) [1, 0] (lv1 := [(0, Value.ref (a 0)), (1, Value.int (0 : Int32))]) dX11_remembers_10 rfl (by decide) rfl ?_
      refine g_lq1 (pc := 11) (lf := fun x7 => [((0 : Nat), Value.ref (a 0)), ((1 : Nat), Value.int x7)]) (sf := fun x7 => ([] : List Value)) (fun k6 hk6 s8 x7 => ?_) 100000 σ _
      show G _ Γ _ _ _ _ _ _ s8 [((0 : Nat), Value.ref (a 0)), ((1 : Nat), Value.int x7)] 11 ([] : List Value)
      refine g_iload_n (pc := 11) 1 dX11_remembers_11 rfl rfl ?_
      refine g_sipush (pc := 12) (v := 154) dX11_remembers_12 (by decide) ?_
      refine g_icmp_ge (pc := 15) (tgt := 39) dX11_remembers_15 (by decide) ?_ ?_
      · refine g_aload_n (pc := 39) 0 dX11_remembers_39 rfl rfl ?_
        refine g_dup (pc := 40) dX11_remembers_40 rfl ?_
        refine g_get (pc := 41) 0 cM_0 rfl inlX11 9 (by decide) bw_15_17 rfl dX11_remembers_41 ?_
        refine g_iconst (pc := 44) (v := 1) dX11_remembers_44 (by decide) ?_
        refine g_isub (pc := 45) dX11_remembers_45 ?_
        refine g_put (pc := 46) 0 (ty := .int) cM_0 rfl inlX11 tyX11_ok nmX11 9 (by decide) bw_15_17 rfl (by decide +kernel) rfl rfl (Nat.le_of_ble_eq_true rfl) cM_f0_9 dX11_remembers_46 (fun s9 => ?_)
        exact g_lv [0] rfl (hk1 s9)
      · refine g_aload_n (pc := 18) 0 dX11_remembers_18 rfl rfl ?_
        refine g_get (pc := 19) 0 cM_0 rfl inlX11 10 (by decide) bw_14_5 rfl dX11_remembers_19 ?_
        refine g_iload_n (pc := 22) 1 dX11_remembers_22 rfl rfl ?_
        refine g_aload_n (pc := 23) 0 dX11_remembers_23 rfl rfl ?_
        refine g_get (pc := 24) 0 cM_0 rfl inlX11 10 (by decide) bw_14_5 rfl dX11_remembers_24 ?_
        refine g_iload_n (pc := 27) 1 dX11_remembers_27 rfl rfl ?_
        refine g_bipush (pc := 28) (v := 22) dX11_remembers_28 (by decide) ?_
        refine g_iadd (pc := 30) dX11_remembers_30 ?_
        refine g_iald (pc := 31) 5 cM_5 rfl dX11_remembers_31 ?_
        refine g_iast (pc := 32) 5 cM_5 rfl cM_s5 dX11_remembers_32 (fun s10 => ?_)
        refine g_iinc (pc := 33) [1, 0] 1 (n1 := 1) (lv1 := fun x11 => [(0, Value.ref (a 0)), (1, Value.int x11)]) dX11_remembers_33 rfl (by decide) (by decide) (fun _ => rfl) (fun x11 => ?_)
        show G _ Γ _ _ _ _ _ _ _ [(0, Value.ref (a 0)), (1, Value.int x11)] (33 + 3) _
        refine g_goto (pc := 36) (tgt := 11) dX11_remembers_36 (by decide) ?_
        exact hk6 s10 _
set_option maxRecDepth 100000 in
set_option maxHeartbeats 4000000 in
theorem k_X11_copies__4_14 {l : Launch} {D : va_G} {a : Nat → Nat} {cI : ClassId} (hI : ∀ σ : St, va_D (AM a) (cM a cI σ)) {σ : St} {x1 x2 x3 : Int32} {r : Int32 × St} (h : f_X11_copies__4_14 σ x1 x2 x3 = some r) : Kc (SM l D a cI) yX11_copies cX11_copies 6 none 0 [Value.ref (a 4), Value.int x1, Value.ref (a 14), Value.int x2, Value.int x3] σ r := by
  refine enter (own := RX11) (o := f_X11_copies__4_14 σ x1 x2 x3) (plainFor_of_name (by decide +kernel)) rfl (Nat.le_of_ble_eq_true rfl) hI wk_X11_copies.1 h (fun Γ hRT => ?_)
  show G _ Γ _ _ _ _ _ _ σ [((0 : Nat), Value.ref (a 4)), ((1 : Nat), Value.int x1), ((2 : Nat), Value.ref (a 14)), ((3 : Nat), Value.int x2), ((4 : Nat), Value.int x3)] 0 []
  unfold f_X11_copies__4_14
  refine g_iconst (pc := 0) (v := 0) dX11_copies_0 (by decide) ?_
  refine g_istore (pc := 1) [1, 2, 3, 4, 5, 0] (lv1 := [(0, Value.ref (a 4)), (1, Value.int x1), (2, Value.ref (a 14)), (3, Value.int x2), (4, Value.int x3), (5, Value.int (0 : Int32))]) dX11_copies_1 (by decide) rfl ?_
  refine g_lq1 (pc := 3) (lf := fun x5 => [((0 : Nat), Value.ref (a 4)), ((1 : Nat), Value.int x1), ((2 : Nat), Value.ref (a 14)), ((3 : Nat), Value.int x2), ((4 : Nat), Value.int x3), ((5 : Nat), Value.int x5)]) (sf := fun x5 => ([] : List Value)) (fun k4 hk4 s6 x5 => ?_) 100000 σ _
  show G _ Γ _ _ _ _ _ _ s6 [((0 : Nat), Value.ref (a 4)), ((1 : Nat), Value.int x1), ((2 : Nat), Value.ref (a 14)), ((3 : Nat), Value.int x2), ((4 : Nat), Value.int x3), ((5 : Nat), Value.int x5)] 3 ([] : List Value)
  refine g_iload (pc := 3) 5 dX11_copies_3 rfl ?_
  refine g_iload (pc := 5) 4 dX11_copies_5 rfl ?_
  refine g_icmp_ge (pc := 7) (tgt := 28) dX11_copies_7 (by decide) ?_ ?_
  · exact g_vret (pc := 28) hRT dX11_copies_28
  · refine g_aload_n (pc := 10) 0 dX11_copies_10 rfl rfl ?_
    refine g_iload_n (pc := 11) 1 dX11_copies_11 rfl rfl ?_
    refine g_iload (pc := 12) 5 dX11_copies_12 rfl ?_
    refine g_iadd (pc := 14) dX11_copies_14 ?_
    refine g_aload_n (pc := 15) 2 dX11_copies_15 rfl rfl ?_
    refine g_iload_n (pc := 16) 3 dX11_copies_16 rfl rfl ?_
    refine g_iload (pc := 17) 5 dX11_copies_17 rfl ?_
    refine g_iadd (pc := 19) dX11_copies_19 ?_
    refine g_iald (pc := 20) 14 cM_14 rfl dX11_copies_20 ?_
    refine g_iast (pc := 21) 4 cM_4 rfl cM_s4 dX11_copies_21 (fun s7 => ?_)
    refine g_iinc (pc := 22) [1, 2, 3, 4, 5, 0] 5 (n1 := 1) (lv1 := fun x8 => [(0, Value.ref (a 4)), (1, Value.int x1), (2, Value.ref (a 14)), (3, Value.int x2), (4, Value.int x3), (5, Value.int x8)]) dX11_copies_22 rfl (by decide) (by decide) (fun _ => rfl) (fun x8 => ?_)
    show G _ Γ _ _ _ _ _ _ _ [(0, Value.ref (a 4)), (1, Value.int x1), (2, Value.ref (a 14)), (3, Value.int x2), (4, Value.int x3), (5, Value.int x8)] (22 + 3) _
    refine g_goto (pc := 25) (tgt := 3) dX11_copies_25 (by decide) ?_
    exact hk4 s7 _
set_option maxRecDepth 100000 in
set_option maxHeartbeats 4000000 in
theorem k_X11_step__0 {l : Launch} {D : va_G} {a : Nat → Nat} {cI : ClassId} (hI : ∀ σ : St, va_D (AM a) (cM a cI σ)) {σ : St} {x1 : Int32} {r : Int32 × St} (h : f_X11_step__0 σ x1 = some r) : Kc (SM l D a cI) yX11_step cX11_step 2 (some .int) 5 [Value.ref (a 0), Value.int x1] σ r := by
  refine enter (own := RX11) (o := f_X11_step__0 σ x1) (plainFor_of_name (by decide +kernel)) rfl (Nat.le_of_ble_eq_true rfl) hI wk_X11_step.1 h (fun Γ hRT => ?_)
  show G _ Γ _ _ _ _ _ _ σ [((0 : Nat), Value.ref (a 0)), ((1 : Nat), Value.int x1)] 0 []
  unfold f_X11_step__0
  refine g_iload_n (pc := 0) 1 dX11_step_0 rfl rfl ?_
  refine g_iconst (pc := 1) (v := 1) dX11_step_1 (by decide) ?_
  refine g_bipush (pc := 2) (v := 24) dX11_step_2 (by decide) ?_
  refine g_cSz (pc := 4) (As := [Value.int x1, Value.int (1 : Int32), Value.int (24 : Int32)]) (fun r2 h2 => k_X11_in hI h2) wk_X11_in ws_X11_in bw_16_9 (by decide) (by decide) rfl rfl (Nat.le_of_ble_eq_true rfl) dX11_step_4 (fun r2 s3 => ?_)
  refine g_if_ne (pc := 7) (tgt := 12) dX11_step_7 (by decide) ?_ ?_
  · refine g_aload_n (pc := 12) 0 dX11_step_12 rfl rfl ?_
    refine g_cVv (pc := 13) 0 (As := []) (fun r2 h2 => k_X11_remembers__0 hI h2) wk_X11_remembers wv_X11_remembers bw_27_4 cM_0 rfl (by decide) (by decide) rfl rfl (Nat.le_of_ble_eq_true rfl) dX11_step_13 (fun r4 s5 => ?_)
    refine g_aload_n (pc := 16) 0 dX11_step_16 rfl rfl ?_
    refine g_cVv (pc := 17) 0 (As := []) (fun r2 h2 => k_X11_asItIs__0 hI h2) wk_X11_asItIs wv_X11_asItIs bw_20_14 cM_0 rfl (by decide) (by decide) rfl rfl (Nat.le_of_ble_eq_true rfl) dX11_step_17 (fun r6 s7 => ?_)
    refine g_aload_n (pc := 20) 0 dX11_step_20 rfl rfl ?_
    refine g_iload_n (pc := 21) 1 dX11_step_21 rfl rfl ?_
    refine g_cVv (pc := 22) 0 (As := [Value.int x1]) (fun r2 h2 => k_X11_goes__0 hI h2) wk_X11_goes wv_X11_goes bw_27_8 cM_0 rfl (by decide) (by decide) rfl rfl (Nat.le_of_ble_eq_true rfl) dX11_step_22 (fun r8 s9 => ?_)
    refine g_aload_n (pc := 25) 0 dX11_step_25 rfl rfl ?_
    refine g_get (pc := 26) 0 cM_0 rfl inlX11 8 (by decide) bw_14_4 rfl dX11_step_26 ?_
    refine g_iconst (pc := 29) (v := 0) dX11_step_29 (by decide) ?_
    refine g_aload_n (pc := 30) 0 dX11_step_30 rfl rfl ?_
    refine g_get (pc := 31) 0 cM_0 rfl inlX11 28 (by decide) bw_14_14 rfl dX11_step_31 ?_
    refine g_iconst (pc := 34) (v := 0) dX11_step_34 (by decide) ?_
    refine g_bipush (pc := 35) (v := 22) dX11_step_35 (by decide) ?_
    refine g_cSv (pc := 37) (As := [Value.ref (a 4), Value.int (0 : Int32), Value.ref (a 14), Value.int (0 : Int32), Value.int (22 : Int32)]) (fun r2 h2 => k_X11_copies__4_14 hI h2) wk_X11_copies ws_X11_copies bw_15_20 (by decide) (by decide) rfl rfl (Nat.le_of_ble_eq_true rfl) dX11_step_37 (fun r10 s11 => ?_)
    refine g_aload_n (pc := 40) 0 dX11_step_40 rfl rfl ?_
    refine g_get (pc := 41) 0 cM_0 rfl inlX11 8 (by decide) bw_14_4 rfl dX11_step_41 ?_
    refine g_iconst (pc := 44) (v := 0) dX11_step_44 (by decide) ?_
    refine g_iald (pc := 45) 4 cM_4 rfl dX11_step_45 ?_
    exact g_iret (pc := 46) hRT dX11_step_46
  · refine g_iconst (pc := 10) (v := -1) dX11_step_10 (by decide) ?_
    exact g_iret (pc := 11) hRT dX11_step_11
set_option maxRecDepth 100000 in
set_option maxHeartbeats 4000000 in
theorem k_X11_open__0 {l : Launch} {D : va_G} {a : Nat → Nat} {cI : ClassId} (hI : ∀ σ : St, va_D (AM a) (cM a cI σ)) {σ : St} {x1 x2 : Int32} {r : Int32 × St} (h : f_X11_open__0 σ x1 x2 = some r) : Kc (SM l D a cI) yX11_open cX11_open 4 (some .int) 2 [Value.ref (a 0), Value.int x1, Value.int x2] σ r := by
  refine enter (own := RX11) (o := f_X11_open__0 σ x1 x2) (plainFor_of_name (by decide +kernel)) rfl (Nat.le_of_ble_eq_true rfl) hI wk_X11_open.1 h (fun Γ hRT => ?_)
  show G _ Γ _ _ _ _ _ _ σ [((0 : Nat), Value.ref (a 0)), ((1 : Nat), Value.int x1), ((2 : Nat), Value.int x2)] 0 []
  unfold f_X11_open__0
  refine g_aload_n (pc := 0) 0 dX11_open_0 rfl rfl ?_
  refine g_iload_n (pc := 1) 1 dX11_open_1 rfl rfl ?_
  refine g_cVz (pc := 2) 0 (As := [Value.int x1]) (fun r2 h2 => k_X11_isHouse__0 hI h2) wk_X11_isHouse wv_X11_isHouse bw_20_10 cM_0 rfl (by decide) (by decide) rfl rfl (Nat.le_of_ble_eq_true rfl) dX11_open_2 (fun r3 s4 => ?_)
  refine g_if_eq (pc := 5) (tgt := 18) dX11_open_5 (by decide) ?_ ?_
  · refine g_iconst (pc := 18) (v := -1) dX11_open_18 (by decide) ?_
    exact g_iret (pc := 19) hRT dX11_open_19
  · refine g_iload_n (pc := 8) 2 dX11_open_8 rfl rfl ?_
    refine g_iconst (pc := 9) (v := 0) dX11_open_9 (by decide) ?_
    refine g_bipush (pc := 10) (v := 6) dX11_open_10 (by decide) ?_
    refine g_cSz (pc := 12) (As := [Value.int x2, Value.int (0 : Int32), Value.int (6 : Int32)]) (fun r2 h2 => k_X11_in hI h2) wk_X11_in ws_X11_in bw_16_9 (by decide) (by decide) rfl rfl (Nat.le_of_ble_eq_true rfl) dX11_open_12 (fun r5 s6 => ?_)
    refine g_if_ne (pc := 15) (tgt := 20) dX11_open_15 (by decide) ?_ ?_
    · refine g_aload_n (pc := 20) 0 dX11_open_20 rfl rfl ?_
      refine g_cVv (pc := 21) 0 (As := []) (fun r2 h2 => k_X11_remembers__0 hI h2) wk_X11_remembers wv_X11_remembers bw_27_4 cM_0 rfl (by decide) (by decide) rfl rfl (Nat.le_of_ble_eq_true rfl) dX11_open_21 (fun r7 s8 => ?_)
      refine g_aload_n (pc := 24) 0 dX11_open_24 rfl rfl ?_
      refine g_get (pc := 25) 0 cM_0 rfl inlX11 8 (by decide) bw_14_4 rfl dX11_open_25 ?_
      refine g_iconst (pc := 28) (v := 1) dX11_open_28 (by decide) ?_
      refine g_iload_n (pc := 29) 1 dX11_open_29 rfl rfl ?_
      refine g_iadd (pc := 30) dX11_open_30 ?_
      refine g_iald (pc := 31) 4 cM_4 rfl dX11_open_31 ?_
      refine g_nm (fun x9 => ?_)
      refine g_istore_n (pc := 32) [1, 2, 3, 0] (lv1 := [(0, Value.ref (a 0)), (1, Value.int x1), (2, Value.int x2), (3, Value.int x9)]) dX11_open_32 rfl (by decide) rfl ?_
      refine g_aload_n (pc := 33) 0 dX11_open_33 rfl rfl ?_
      refine g_get (pc := 34) 0 cM_0 rfl inlX11 8 (by decide) bw_14_4 rfl dX11_open_34 ?_
      refine g_iconst (pc := 37) (v := 1) dX11_open_37 (by decide) ?_
      refine g_iload_n (pc := 38) 1 dX11_open_38 rfl rfl ?_
      refine g_iadd (pc := 39) dX11_open_39 ?_
      refine g_iload_n (pc := 40) 2 dX11_open_40 rfl rfl ?_
      refine g_iast (pc := 41) 4 cM_4 rfl cM_s4 dX11_open_41 (fun s10 => ?_)
      refine g_iload_n (pc := 42) 3 dX11_open_42 rfl rfl ?_
      exact g_iret (pc := 43) hRT dX11_open_43
    · refine g_iconst (pc := 18) (v := -1) dX11_open_18 (by decide) ?_
      exact g_iret (pc := 19) hRT dX11_open_19
set_option maxRecDepth 100000 in
set_option maxHeartbeats 4000000 in
theorem k_X11_tell__0 {l : Launch} {D : va_G} {a : Nat → Nat} {cI : ClassId} (hI : ∀ σ : St, va_D (AM a) (cM a cI σ)) {σ : St} {x1 x2 : Int32} {r : Int32 × St} (h : f_X11_tell__0 σ x1 x2 = some r) : Kc (SM l D a cI) yX11_tell cX11_tell 3 (some .int) 2 [Value.ref (a 0), Value.int x1, Value.int x2] σ r := by
  refine enter (own := RX11) (o := f_X11_tell__0 σ x1 x2) (plainFor_of_name (by decide +kernel)) rfl (Nat.le_of_ble_eq_true rfl) hI wk_X11_tell.1 h (fun Γ hRT => ?_)
  show G _ Γ _ _ _ _ _ _ σ [((0 : Nat), Value.ref (a 0)), ((1 : Nat), Value.int x1), ((2 : Nat), Value.int x2)] 0 []
  unfold f_X11_tell__0
  refine g_aload_n (pc := 0) 0 dX11_tell_0 rfl rfl ?_
  refine g_iload_n (pc := 1) 1 dX11_tell_1 rfl rfl ?_
  refine g_cVz (pc := 2) 0 (As := [Value.int x1]) (fun r2 h2 => k_X11_isHouse__0 hI h2) wk_X11_isHouse wv_X11_isHouse bw_20_10 cM_0 rfl (by decide) (by decide) rfl rfl (Nat.le_of_ble_eq_true rfl) dX11_tell_2 (fun r3 s4 => ?_)
  refine g_if_eq (pc := 5) (tgt := 16) dX11_tell_5 (by decide) ?_ ?_
  · refine g_iconst (pc := 16) (v := -1) dX11_tell_16 (by decide) ?_
    exact g_iret (pc := 17) hRT dX11_tell_17
  · refine g_aload_n (pc := 8) 0 dX11_tell_8 rfl rfl ?_
    refine g_iload_n (pc := 9) 2 dX11_tell_9 rfl rfl ?_
    refine g_cVz (pc := 10) 0 (As := [Value.int x2]) (fun r2 h2 => k_X11_isNews__0 hI h2) wk_X11_isNews wv_X11_isNews bw_22_4 cM_0 rfl (by decide) (by decide) rfl rfl (Nat.le_of_ble_eq_true rfl) dX11_tell_10 (fun r5 s6 => ?_)
    refine g_if_ne (pc := 13) (tgt := 18) dX11_tell_13 (by decide) ?_ ?_
    · refine g_aload_n (pc := 18) 0 dX11_tell_18 rfl rfl ?_
      refine g_get (pc := 19) 0 cM_0 rfl inlX11 8 (by decide) bw_14_4 rfl dX11_tell_19 ?_
      refine g_bipush (pc := 22) (v := 17) dX11_tell_22 (by decide) ?_
      refine g_iload_n (pc := 24) 2 dX11_tell_24 rfl rfl ?_
      refine g_iadd (pc := 25) dX11_tell_25 ?_
      refine g_iald (pc := 26) 4 cM_4 rfl dX11_tell_26 ?_
      refine g_iload_n (pc := 27) 1 dX11_tell_27 rfl rfl ?_
      refine g_cSz (pc := 28) (As := [Value.int (s6 4 (Int32.toNatClampNeg ((17 : Int32) + x2))), Value.int x1]) (fun r2 h2 => k_X11_has hI h2) wk_X11_has ws_X11_has bw_20_23 (by decide) (by decide) rfl rfl (Nat.le_of_ble_eq_true rfl) dX11_tell_28 (fun r7 s8 => ?_)
      refine g_if_eq (pc := 31) (tgt := 37) dX11_tell_31 (by decide) ?_ ?_
      · refine g_aload_n (pc := 37) 0 dX11_tell_37 rfl rfl ?_
        refine g_cVv (pc := 38) 0 (As := []) (fun r2 h2 => k_X11_remembers__0 hI h2) wk_X11_remembers wv_X11_remembers bw_27_4 cM_0 rfl (by decide) (by decide) rfl rfl (Nat.le_of_ble_eq_true rfl) dX11_tell_38 (fun r9 s10 => ?_)
        refine g_aload_n (pc := 41) 0 dX11_tell_41 rfl rfl ?_
        refine g_get (pc := 42) 0 cM_0 rfl inlX11 8 (by decide) bw_14_4 rfl dX11_tell_42 ?_
        refine g_bipush (pc := 45) (v := 17) dX11_tell_45 (by decide) ?_
        refine g_iload_n (pc := 47) 2 dX11_tell_47 rfl rfl ?_
        refine g_iadd (pc := 48) dX11_tell_48 ?_
        refine g_dup2 (pc := 49) dX11_tell_49 rfl rfl ?_
        refine g_iald (pc := 50) 4 cM_4 rfl dX11_tell_50 ?_
        refine g_iconst (pc := 51) (v := 1) dX11_tell_51 (by decide) ?_
        refine g_iload_n (pc := 52) 1 dX11_tell_52 rfl rfl ?_
        refine g_ishl (pc := 53) dX11_tell_53 ?_
        refine g_ior (pc := 54) dX11_tell_54 ?_
        refine g_iast (pc := 55) 4 cM_4 rfl cM_s4 dX11_tell_55 (fun s11 => ?_)
        refine g_aload_n (pc := 56) 0 dX11_tell_56 rfl rfl ?_
        refine g_get (pc := 57) 0 cM_0 rfl inlX11 8 (by decide) bw_14_4 rfl dX11_tell_57 ?_
        refine g_bipush (pc := 60) (v := 17) dX11_tell_60 (by decide) ?_
        refine g_iload_n (pc := 62) 2 dX11_tell_62 rfl rfl ?_
        refine g_iadd (pc := 63) dX11_tell_63 ?_
        refine g_iald (pc := 64) 4 cM_4 rfl dX11_tell_64 ?_
        refine g_cSi (pc := 65) (As := [Value.int (s11 4 (Int32.toNatClampNeg ((17 : Int32) + x2)))]) (fun r2 h2 => k_X11_bits hI h2) wk_X11_bits ws_X11_bits bw_22_8 (by decide) (by decide) rfl rfl (Nat.le_of_ble_eq_true rfl) dX11_tell_65 (fun r12 s13 => ?_)
        exact g_iret (pc := 68) hRT dX11_tell_68
      · refine g_bipush (pc := 34) (v := -2) dX11_tell_34 (by decide) ?_
        exact g_iret (pc := 36) hRT dX11_tell_36
    · refine g_iconst (pc := 16) (v := -1) dX11_tell_16 (by decide) ?_
      exact g_iret (pc := 17) hRT dX11_tell_17
set_option maxRecDepth 100000 in
set_option maxHeartbeats 4000000 in
theorem k_X11_copies__4_5 {l : Launch} {D : va_G} {a : Nat → Nat} {cI : ClassId} (hI : ∀ σ : St, va_D (AM a) (cM a cI σ)) {σ : St} {x1 x2 x3 : Int32} {r : Int32 × St} (h : f_X11_copies__4_5 σ x1 x2 x3 = some r) : Kc (SM l D a cI) yX11_copies cX11_copies 6 none 0 [Value.ref (a 4), Value.int x1, Value.ref (a 5), Value.int x2, Value.int x3] σ r := by
  refine enter (own := RX11) (o := f_X11_copies__4_5 σ x1 x2 x3) (plainFor_of_name (by decide +kernel)) rfl (Nat.le_of_ble_eq_true rfl) hI wk_X11_copies.1 h (fun Γ hRT => ?_)
  show G _ Γ _ _ _ _ _ _ σ [((0 : Nat), Value.ref (a 4)), ((1 : Nat), Value.int x1), ((2 : Nat), Value.ref (a 5)), ((3 : Nat), Value.int x2), ((4 : Nat), Value.int x3)] 0 []
  unfold f_X11_copies__4_5
  refine g_iconst (pc := 0) (v := 0) dX11_copies_0 (by decide) ?_
  refine g_istore (pc := 1) [1, 2, 3, 4, 5, 0] (lv1 := [(0, Value.ref (a 4)), (1, Value.int x1), (2, Value.ref (a 5)), (3, Value.int x2), (4, Value.int x3), (5, Value.int (0 : Int32))]) dX11_copies_1 (by decide) rfl ?_
  refine g_lq1 (pc := 3) (lf := fun x5 => [((0 : Nat), Value.ref (a 4)), ((1 : Nat), Value.int x1), ((2 : Nat), Value.ref (a 5)), ((3 : Nat), Value.int x2), ((4 : Nat), Value.int x3), ((5 : Nat), Value.int x5)]) (sf := fun x5 => ([] : List Value)) (fun k4 hk4 s6 x5 => ?_) 100000 σ _
  show G _ Γ _ _ _ _ _ _ s6 [((0 : Nat), Value.ref (a 4)), ((1 : Nat), Value.int x1), ((2 : Nat), Value.ref (a 5)), ((3 : Nat), Value.int x2), ((4 : Nat), Value.int x3), ((5 : Nat), Value.int x5)] 3 ([] : List Value)
  refine g_iload (pc := 3) 5 dX11_copies_3 rfl ?_
  refine g_iload (pc := 5) 4 dX11_copies_5 rfl ?_
  refine g_icmp_ge (pc := 7) (tgt := 28) dX11_copies_7 (by decide) ?_ ?_
  · exact g_vret (pc := 28) hRT dX11_copies_28
  · refine g_aload_n (pc := 10) 0 dX11_copies_10 rfl rfl ?_
    refine g_iload_n (pc := 11) 1 dX11_copies_11 rfl rfl ?_
    refine g_iload (pc := 12) 5 dX11_copies_12 rfl ?_
    refine g_iadd (pc := 14) dX11_copies_14 ?_
    refine g_aload_n (pc := 15) 2 dX11_copies_15 rfl rfl ?_
    refine g_iload_n (pc := 16) 3 dX11_copies_16 rfl rfl ?_
    refine g_iload (pc := 17) 5 dX11_copies_17 rfl ?_
    refine g_iadd (pc := 19) dX11_copies_19 ?_
    refine g_iald (pc := 20) 5 cM_5 rfl dX11_copies_20 ?_
    refine g_iast (pc := 21) 4 cM_4 rfl cM_s4 dX11_copies_21 (fun s7 => ?_)
    refine g_iinc (pc := 22) [1, 2, 3, 4, 5, 0] 5 (n1 := 1) (lv1 := fun x8 => [(0, Value.ref (a 4)), (1, Value.int x1), (2, Value.ref (a 5)), (3, Value.int x2), (4, Value.int x3), (5, Value.int x8)]) dX11_copies_22 rfl (by decide) (by decide) (fun _ => rfl) (fun x8 => ?_)
    show G _ Γ _ _ _ _ _ _ _ [(0, Value.ref (a 4)), (1, Value.int x1), (2, Value.ref (a 5)), (3, Value.int x2), (4, Value.int x3), (5, Value.int x8)] (22 + 3) _
    refine g_goto (pc := 25) (tgt := 3) dX11_copies_25 (by decide) ?_
    exact hk4 s7 _
set_option maxRecDepth 100000 in
set_option maxHeartbeats 4000000 in
theorem k_X11_undo__0 {l : Launch} {D : va_G} {a : Nat → Nat} {cI : ClassId} (hI : ∀ σ : St, va_D (AM a) (cM a cI σ)) {σ : St} {r : Int32 × St} (h : f_X11_undo__0 σ = some r) : Kc (SM l D a cI) yX11_undo cX11_undo 1 (some .int) 1 [Value.ref (a 0)] σ r := by
  refine enter (own := RX11) (o := f_X11_undo__0 σ) (plainFor_of_name (by decide +kernel)) rfl (Nat.le_of_ble_eq_true rfl) hI wk_X11_undo.1 h (fun Γ hRT => ?_)
  show G _ Γ _ _ _ _ _ _ σ [((0 : Nat), Value.ref (a 0))] 0 []
  unfold f_X11_undo__0
  refine g_aload_n (pc := 0) 0 dX11_undo_0 rfl rfl ?_
  refine g_get (pc := 1) 0 cM_0 rfl inlX11 9 (by decide) bw_15_17 rfl dX11_undo_1 ?_
  refine g_if_ne (pc := 4) (tgt := 10) dX11_undo_4 (by decide) ?_ ?_
  · refine g_aload_n (pc := 10) 0 dX11_undo_10 rfl rfl ?_
    refine g_dup (pc := 11) dX11_undo_11 rfl ?_
    refine g_get (pc := 12) 0 cM_0 rfl inlX11 9 (by decide) bw_15_17 rfl dX11_undo_12 ?_
    refine g_iconst (pc := 15) (v := 1) dX11_undo_15 (by decide) ?_
    refine g_isub (pc := 16) dX11_undo_16 ?_
    refine g_put (pc := 17) 0 (ty := .int) cM_0 rfl inlX11 tyX11_ok nmX11 9 (by decide) bw_15_17 rfl (by decide +kernel) rfl rfl (Nat.le_of_ble_eq_true rfl) cM_f0_9 dX11_undo_17 (fun s1 => ?_)
    refine g_aload_n (pc := 20) 0 dX11_undo_20 rfl rfl ?_
    refine g_get (pc := 21) 0 cM_0 rfl inlX11 8 (by decide) bw_14_4 rfl dX11_undo_21 ?_
    refine g_iconst (pc := 24) (v := 0) dX11_undo_24 (by decide) ?_
    refine g_aload_n (pc := 25) 0 dX11_undo_25 rfl rfl ?_
    refine g_get (pc := 26) 0 cM_0 rfl inlX11 10 (by decide) bw_14_5 rfl dX11_undo_26 ?_
    refine g_bipush (pc := 29) (v := 22) dX11_undo_29 (by decide) ?_
    refine g_aload_n (pc := 31) 0 dX11_undo_31 rfl rfl ?_
    refine g_get (pc := 32) 0 cM_0 rfl inlX11 9 (by decide) bw_15_17 rfl dX11_undo_32 ?_
    refine g_imul (pc := 35) dX11_undo_35 ?_
    refine g_bipush (pc := 36) (v := 22) dX11_undo_36 (by decide) ?_
    refine g_cSv (pc := 38) (As := [Value.ref (a 4), Value.int (0 : Int32), Value.ref (a 5), Value.int ((22 : Int32) * (s1 0 9)), Value.int (22 : Int32)]) (fun r2 h2 => k_X11_copies__4_5 hI h2) wk_X11_copies ws_X11_copies bw_15_20 (by decide) (by decide) rfl rfl (Nat.le_of_ble_eq_true rfl) dX11_undo_38 (fun r2 s3 => ?_)
    refine g_aload_n (pc := 41) 0 dX11_undo_41 rfl rfl ?_
    refine g_get (pc := 42) 0 cM_0 rfl inlX11 9 (by decide) bw_15_17 rfl dX11_undo_42 ?_
    exact g_iret (pc := 45) hRT dX11_undo_45
  · refine g_bipush (pc := 7) (v := -2) dX11_undo_7 (by decide) ?_
    exact g_iret (pc := 9) hRT dX11_undo_9
set_option maxRecDepth 100000 in
set_option maxHeartbeats 4000000 in
theorem k_X11_behind__0 {l : Launch} {D : va_G} {a : Nat → Nat} {cI : ClassId} (hI : ∀ σ : St, va_D (AM a) (cM a cI σ)) {σ : St} {x1 x2 : Int32} {r : Int32 × St} (h : f_X11_behind__0 σ x1 x2 = some r) : Kc (SM l D a cI) yX11_behind cX11_behind 3 (some .int) 5 [Value.ref (a 0), Value.int x1, Value.int x2] σ r := by
  refine enter (own := RX11) (o := f_X11_behind__0 σ x1 x2) (plainFor_of_name (by decide +kernel)) rfl (Nat.le_of_ble_eq_true rfl) hI wk_X11_behind.1 h (fun Γ hRT => ?_)
  show G _ Γ _ _ _ _ _ _ σ [((0 : Nat), Value.ref (a 0)), ((1 : Nat), Value.int x1), ((2 : Nat), Value.int x2)] 0 []
  unfold f_X11_behind__0
  refine g_iload_n (pc := 0) 1 dX11_behind_0 rfl rfl ?_
  refine g_iconst (pc := 1) (v := 0) dX11_behind_1 (by decide) ?_
  refine g_bipush (pc := 2) (v := 48) dX11_behind_2 (by decide) ?_
  refine g_cSz (pc := 4) (As := [Value.int x1, Value.int (0 : Int32), Value.int (48 : Int32)]) (fun r2 h2 => k_X11_in hI h2) wk_X11_in ws_X11_in bw_16_9 (by decide) (by decide) rfl rfl (Nat.le_of_ble_eq_true rfl) dX11_behind_4 (fun r3 s4 => ?_)
  refine g_if_eq (pc := 7) (tgt := 18) dX11_behind_7 (by decide) ?_ ?_
  · refine g_iconst (pc := 18) (v := -1) dX11_behind_18 (by decide) ?_
    exact g_iret (pc := 19) hRT dX11_behind_19
  · refine g_aload_n (pc := 10) 0 dX11_behind_10 rfl rfl ?_
    refine g_iload_n (pc := 11) 2 dX11_behind_11 rfl rfl ?_
    refine g_cVz (pc := 12) 0 (As := [Value.int x2]) (fun r2 h2 => k_X11_isHouse__0 hI h2) wk_X11_isHouse wv_X11_isHouse bw_20_10 cM_0 rfl (by decide) (by decide) rfl rfl (Nat.le_of_ble_eq_true rfl) dX11_behind_12 (fun r5 s6 => ?_)
    refine g_if_ne (pc := 15) (tgt := 20) dX11_behind_15 (by decide) ?_ ?_
    · refine g_aload_n (pc := 20) 0 dX11_behind_20 rfl rfl ?_
      refine g_cVv (pc := 21) 0 (As := []) (fun r2 h2 => k_X11_asItIs__0 hI h2) wk_X11_asItIs wv_X11_asItIs bw_20_14 cM_0 rfl (by decide) (by decide) rfl rfl (Nat.le_of_ble_eq_true rfl) dX11_behind_21 (fun r7 s8 => ?_)
      refine g_aload_n (pc := 24) 0 dX11_behind_24 rfl rfl ?_
      refine g_iload_n (pc := 25) 1 dX11_behind_25 rfl rfl ?_
      refine g_cVv (pc := 26) 0 (As := [Value.int x1]) (fun r2 h2 => k_X11_goes__0 hI h2) wk_X11_goes wv_X11_goes bw_27_8 cM_0 rfl (by decide) (by decide) rfl rfl (Nat.le_of_ble_eq_true rfl) dX11_behind_26 (fun r9 s10 => ?_)
      refine g_aload_n (pc := 29) 0 dX11_behind_29 rfl rfl ?_
      refine g_iload_n (pc := 30) 2 dX11_behind_30 rfl rfl ?_
      refine g_cVi (pc := 31) 0 (As := [Value.int x2]) (fun r2 h2 => k_X11_known__0 hI h2) wk_X11_known wv_X11_known bw_20_19 cM_0 rfl (by decide) (by decide) rfl rfl (Nat.le_of_ble_eq_true rfl) dX11_behind_31 (fun r11 s12 => ?_)
      exact g_iret (pc := 34) hRT dX11_behind_34
    · refine g_iconst (pc := 18) (v := -1) dX11_behind_18 (by decide) ?_
      exact g_iret (pc := 19) hRT dX11_behind_19
set_option maxRecDepth 100000 in
set_option maxHeartbeats 4000000 in
theorem k_X11_knowsBehind__0 {l : Launch} {D : va_G} {a : Nat → Nat} {cI : ClassId} (hI : ∀ σ : St, va_D (AM a) (cM a cI σ)) {σ : St} {x1 x2 : Int32} {r : Int32 × St} (h : f_X11_knowsBehind__0 σ x1 x2 = some r) : Kc (SM l D a cI) yX11_knowsBehind cX11_knowsBehind 4 (some .int) 5 [Value.ref (a 0), Value.int x1, Value.int x2] σ r := by
  refine enter (own := RX11) (o := f_X11_knowsBehind__0 σ x1 x2) (plainFor_of_name (by decide +kernel)) rfl (Nat.le_of_ble_eq_true rfl) hI wk_X11_knowsBehind.1 h (fun Γ hRT => ?_)
  show G _ Γ _ _ _ _ _ _ σ [((0 : Nat), Value.ref (a 0)), ((1 : Nat), Value.int x1), ((2 : Nat), Value.int x2)] 0 []
  unfold f_X11_knowsBehind__0
  refine g_iconst (pc := 0) (v := 0) dX11_knowsBehind_0 (by decide) ?_
  refine g_istore_n (pc := 1) [1, 2, 3, 0] (lv1 := [(0, Value.ref (a 0)), (1, Value.int x1), (2, Value.int x2), (3, Value.int (0 : Int32))]) dX11_knowsBehind_1 rfl (by decide) rfl ?_
  refine g_lq1 (pc := 2) (lf := fun x4 => [((0 : Nat), Value.ref (a 0)), ((1 : Nat), Value.int x1), ((2 : Nat), Value.int x2), ((3 : Nat), Value.int x4)]) (sf := fun x4 => ([] : List Value)) (fun k3 hk3 s5 x4 => ?_) 100000 σ _
  show G _ Γ _ _ _ _ _ _ s5 [((0 : Nat), Value.ref (a 0)), ((1 : Nat), Value.int x1), ((2 : Nat), Value.int x2), ((3 : Nat), Value.int x4)] 2 ([] : List Value)
  refine g_iload_n (pc := 2) 3 dX11_knowsBehind_2 rfl rfl ?_
  refine g_bipush (pc := 3) (v := 48) dX11_knowsBehind_3 (by decide) ?_
  refine g_icmp_gt (pc := 5) (tgt := 37) dX11_knowsBehind_5 (by decide) ?_ ?_
  · refine g_bipush (pc := 37) (v := -4) dX11_knowsBehind_37 (by decide) ?_
    exact g_iret (pc := 39) hRT dX11_knowsBehind_39
  · refine g_aload_n (pc := 8) 0 dX11_knowsBehind_8 rfl rfl ?_
    refine g_get (pc := 9) 0 cM_0 rfl inlX11 28 (by decide) bw_14_14 rfl dX11_knowsBehind_9 ?_
    refine g_bipush (pc := 12) (v := 17) dX11_knowsBehind_12 (by decide) ?_
    refine g_iload_n (pc := 14) 2 dX11_knowsBehind_14 rfl rfl ?_
    refine g_iadd (pc := 15) dX11_knowsBehind_15 ?_
    refine g_iald (pc := 16) 14 cM_14 rfl dX11_knowsBehind_16 ?_
    refine g_iload_n (pc := 17) 1 dX11_knowsBehind_17 rfl rfl ?_
    refine g_cSz (pc := 18) (As := [Value.int (s5 14 (Int32.toNatClampNeg ((17 : Int32) + x2))), Value.int x1]) (fun r2 h2 => k_X11_has hI h2) wk_X11_has ws_X11_has bw_20_23 (by decide) (by decide) rfl rfl (Nat.le_of_ble_eq_true rfl) dX11_knowsBehind_18 (fun r6 s7 => ?_)
    refine g_if_eq (pc := 21) (tgt := 26) dX11_knowsBehind_21 (by decide) ?_ ?_
    · refine g_aload_n (pc := 26) 0 dX11_knowsBehind_26 rfl rfl ?_
      refine g_iconst (pc := 27) (v := 1) dX11_knowsBehind_27 (by decide) ?_
      refine g_cVv (pc := 28) 0 (As := [Value.int (1 : Int32)]) (fun r2 h2 => k_X11_goes__0 hI h2) wk_X11_goes wv_X11_goes bw_27_8 cM_0 rfl (by decide) (by decide) rfl rfl (Nat.le_of_ble_eq_true rfl) dX11_knowsBehind_28 (fun r8 s9 => ?_)
      refine g_iinc (pc := 31) [1, 2, 3, 0] 3 (n1 := 1) (lv1 := fun x10 => [(0, Value.ref (a 0)), (1, Value.int x1), (2, Value.int x2), (3, Value.int x10)]) dX11_knowsBehind_31 rfl (by decide) (by decide) (fun _ => rfl) (fun x10 => ?_)
      show G _ Γ _ _ _ _ _ _ _ [(0, Value.ref (a 0)), (1, Value.int x1), (2, Value.int x2), (3, Value.int x10)] (31 + 3) _
      refine g_goto (pc := 34) (tgt := 2) dX11_knowsBehind_34 (by decide) ?_
      exact hk3 s9 _
    · refine g_iload_n (pc := 24) 3 dX11_knowsBehind_24 rfl rfl ?_
      exact g_iret (pc := 25) hRT dX11_knowsBehind_25
set_option maxRecDepth 100000 in
set_option maxHeartbeats 4000000 in
theorem k_X11_when__0 {l : Launch} {D : va_G} {a : Nat → Nat} {cI : ClassId} (hI : ∀ σ : St, va_D (AM a) (cM a cI σ)) {σ : St} {x1 x2 : Int32} {r : Int32 × St} (h : f_X11_when__0 σ x1 x2 = some r) : Kc (SM l D a cI) yX11_when cX11_when 3 (some .int) 6 [Value.ref (a 0), Value.int x1, Value.int x2] σ r := by
  refine enter (own := RX11) (o := f_X11_when__0 σ x1 x2) (plainFor_of_name (by decide +kernel)) rfl (Nat.le_of_ble_eq_true rfl) hI wk_X11_when.1 h (fun Γ hRT => ?_)
  show G _ Γ _ _ _ _ _ _ σ [((0 : Nat), Value.ref (a 0)), ((1 : Nat), Value.int x1), ((2 : Nat), Value.int x2)] 0 []
  unfold f_X11_when__0
  refine g_aload_n (pc := 0) 0 dX11_when_0 rfl rfl ?_
  refine g_iload_n (pc := 1) 1 dX11_when_1 rfl rfl ?_
  refine g_cVz (pc := 2) 0 (As := [Value.int x1]) (fun r2 h2 => k_X11_isHouse__0 hI h2) wk_X11_isHouse wv_X11_isHouse bw_20_10 cM_0 rfl (by decide) (by decide) rfl rfl (Nat.le_of_ble_eq_true rfl) dX11_when_2 (fun r3 s4 => ?_)
  refine g_if_eq (pc := 5) (tgt := 16) dX11_when_5 (by decide) ?_ ?_
  · refine g_iconst (pc := 16) (v := -1) dX11_when_16 (by decide) ?_
    exact g_iret (pc := 17) hRT dX11_when_17
  · refine g_aload_n (pc := 8) 0 dX11_when_8 rfl rfl ?_
    refine g_iload_n (pc := 9) 2 dX11_when_9 rfl rfl ?_
    refine g_cVz (pc := 10) 0 (As := [Value.int x2]) (fun r2 h2 => k_X11_isNews__0 hI h2) wk_X11_isNews wv_X11_isNews bw_22_4 cM_0 rfl (by decide) (by decide) rfl rfl (Nat.le_of_ble_eq_true rfl) dX11_when_10 (fun r5 s6 => ?_)
    refine g_if_ne (pc := 13) (tgt := 18) dX11_when_13 (by decide) ?_ ?_
    · refine g_aload_n (pc := 18) 0 dX11_when_18 rfl rfl ?_
      refine g_iload_n (pc := 19) 2 dX11_when_19 rfl rfl ?_
      refine g_cVv (pc := 20) 0 (As := [Value.int x2]) (fun r2 h2 => k_X11_asItIsOf__0 hI h2) wk_X11_asItIsOf wv_X11_asItIsOf bw_31_7 cM_0 rfl (by decide) (by decide) rfl rfl (Nat.le_of_ble_eq_true rfl) dX11_when_20 (fun r7 s8 => ?_)
      refine g_aload_n (pc := 23) 0 dX11_when_23 rfl rfl ?_
      refine g_iload_n (pc := 24) 1 dX11_when_24 rfl rfl ?_
      refine g_iload_n (pc := 25) 2 dX11_when_25 rfl rfl ?_
      refine g_cVi (pc := 26) 0 (As := [Value.int x1, Value.int x2]) (fun r2 h2 => k_X11_knowsBehind__0 hI h2) wk_X11_knowsBehind wv_X11_knowsBehind bw_31_11 cM_0 rfl (by decide) (by decide) rfl rfl (Nat.le_of_ble_eq_true rfl) dX11_when_26 (fun r9 s10 => ?_)
      exact g_iret (pc := 29) hRT dX11_when_29
    · refine g_iconst (pc := 16) (v := -1) dX11_when_16 (by decide) ?_
      exact g_iret (pc := 17) hRT dX11_when_17
set_option maxRecDepth 100000 in
set_option maxHeartbeats 4000000 in
theorem k_X11_last__0 {l : Launch} {D : va_G} {a : Nat → Nat} {cI : ClassId} (hI : ∀ σ : St, va_D (AM a) (cM a cI σ)) {σ : St} {x1 x2 : Int32} {r : Int32 × St} (h : f_X11_last__0 σ x1 x2 = some r) : Kc (SM l D a cI) yX11_last cX11_last 8 (some .int) 6 [Value.ref (a 0), Value.int x1, Value.int x2] σ r := by
  refine enter (own := RX11) (o := f_X11_last__0 σ x1 x2) (plainFor_of_name (by decide +kernel)) rfl (Nat.le_of_ble_eq_true rfl) hI wk_X11_last.1 h (fun Γ hRT => ?_)
  show G _ Γ _ _ _ _ _ _ σ [((0 : Nat), Value.ref (a 0)), ((1 : Nat), Value.int x1), ((2 : Nat), Value.int x2)] 0 []
  unfold f_X11_last__0
  refine g_aload_n (pc := 0) 0 dX11_last_0 rfl rfl ?_
  refine g_iload_n (pc := 1) 1 dX11_last_1 rfl rfl ?_
  refine g_cVz (pc := 2) 0 (As := [Value.int x1]) (fun r2 h2 => k_X11_isNews__0 hI h2) wk_X11_isNews wv_X11_isNews bw_22_4 cM_0 rfl (by decide) (by decide) rfl rfl (Nat.le_of_ble_eq_true rfl) dX11_last_2 (fun r3 s4 => ?_)
  refine g_if_eq (pc := 5) (tgt := 17) dX11_last_5 (by decide) ?_ ?_
  · refine g_iconst (pc := 17) (v := -1) dX11_last_17 (by decide) ?_
    exact g_iret (pc := 18) hRT dX11_last_18
  · refine g_iload_n (pc := 8) 2 dX11_last_8 rfl rfl ?_
    refine g_iconst (pc := 9) (v := 0) dX11_last_9 (by decide) ?_
    refine g_iconst (pc := 10) (v := 1) dX11_last_10 (by decide) ?_
    refine g_cSz (pc := 11) (As := [Value.int x2, Value.int (0 : Int32), Value.int (1 : Int32)]) (fun r2 h2 => k_X11_in hI h2) wk_X11_in ws_X11_in bw_16_9 (by decide) (by decide) rfl rfl (Nat.le_of_ble_eq_true rfl) dX11_last_11 (fun r5 s6 => ?_)
    refine g_if_ne (pc := 14) (tgt := 19) dX11_last_14 (by decide) ?_ ?_
    · refine g_bipush (pc := 19) (v := -4) dX11_last_19 (by decide) ?_
      refine g_istore_n (pc := 21) [1, 2, 3, 0] (lv1 := [(0, Value.ref (a 0)), (1, Value.int x1), (2, Value.int x2), (3, Value.int (-4 : Int32))]) dX11_last_21 rfl (by decide) rfl ?_
      refine g_iconst (pc := 22) (v := 0) dX11_last_22 (by decide) ?_
      refine g_istore (pc := 23) [1, 2, 3, 4, 0] (lv1 := [(0, Value.ref (a 0)), (1, Value.int x1), (2, Value.int x2), (3, Value.int (-4 : Int32)), (4, Value.int (0 : Int32))]) dX11_last_23 (by decide) rfl ?_
      refine g_iconst (pc := 25) (v := 0) dX11_last_25 (by decide) ?_
      refine g_istore (pc := 26) [1, 2, 3, 4, 5, 0] (lv1 := [(0, Value.ref (a 0)), (1, Value.int x1), (2, Value.int x2), (3, Value.int (-4 : Int32)), (4, Value.int (0 : Int32)), (5, Value.int (0 : Int32))]) dX11_last_26 (by decide) rfl ?_
      refine g_lq3 (pc := 28) (lf := fun x8 x9 x10 => [((0 : Nat), Value.ref (a 0)), ((1 : Nat), Value.int x1), ((2 : Nat), Value.int x2), ((3 : Nat), Value.int x8), ((4 : Nat), Value.int x9), ((5 : Nat), Value.int x10)]) (sf := fun x8 x9 x10 => ([] : List Value)) (fun k7 hk7 s11 x8 x9 x10 => ?_) 100000 s6 _ _ _
      show G _ Γ _ _ _ _ _ _ s11 [((0 : Nat), Value.ref (a 0)), ((1 : Nat), Value.int x1), ((2 : Nat), Value.int x2), ((3 : Nat), Value.int x8), ((4 : Nat), Value.int x9), ((5 : Nat), Value.int x10)] 28 ([] : List Value)
      refine g_iload (pc := 28) 5 dX11_last_28 rfl ?_
      refine g_aload_n (pc := 30) 0 dX11_last_30 rfl rfl ?_
      refine g_get (pc := 31) 0 cM_0 rfl inlX11 2 (by decide) bw_15_14 rfl dX11_last_31 ?_
      refine g_icmp_ge (pc := 34) (tgt := 102) dX11_last_34 (by decide) ?_ ?_
      · refine g_jq0 (pc2 := 110) (lf := [((3 : Nat), Value.int x8)]) (sf := ([] : List Value)) (fun s13 => ?_) (fun k12 hk12 => ?_)
        · show G _ Γ _ _ _ _ _ _ s13 [((3 : Nat), Value.int x8)] 110 ([] : List Value)
          refine g_iload_n (pc := 110) 0 dX11_last_110 rfl rfl ?_
          refine g_goto (pc := 111) (tgt := 116) dX11_last_111 (by decide) ?_
          exact g_iret (pc := 116) hRT dX11_last_116
        · refine g_iload_n (pc := 102) 2 dX11_last_102 rfl rfl ?_
          refine g_if_eq (pc := 103) (tgt := 110) dX11_last_103 (by decide) ?_ ?_
          · exact g_lv [3] rfl (hk12 s11)
          · refine g_iload_n (pc := 106) 3 dX11_last_106 rfl rfl ?_
            refine g_if_ge (pc := 107) (tgt := 114) dX11_last_107 (by decide) ?_ ?_
            · refine g_iload (pc := 114) 4 dX11_last_114 rfl ?_
              exact g_iret (pc := 116) hRT dX11_last_116
            · exact g_lv [3] rfl (hk12 s11)
      · refine g_jq2 (pc2 := 68) (lf := fun x15 x16 => [((0 : Nat), Value.ref (a 0)), ((1 : Nat), Value.int x1), ((2 : Nat), Value.int x2), ((3 : Nat), Value.int x8), ((4 : Nat), Value.int x9), ((5 : Nat), Value.int x10), ((6 : Nat), Value.int x15)]) (sf := fun x15 x16 => [Value.int x16]) (fun s17 x15 x16 => ?_) (fun k14 hk14 => ?_)
        · show G _ Γ _ _ _ _ _ _ s17 [((0 : Nat), Value.ref (a 0)), ((1 : Nat), Value.int x1), ((2 : Nat), Value.int x2), ((3 : Nat), Value.int x8), ((4 : Nat), Value.int x9), ((5 : Nat), Value.int x10), ((6 : Nat), Value.int x15)] 68 [Value.int x16]
          refine g_jq2 (pc2 := 81) (lf := fun x19 x20 => [((0 : Nat), Value.ref (a 0)), ((1 : Nat), Value.int x1), ((2 : Nat), Value.int x2), ((4 : Nat), Value.int x9), ((5 : Nat), Value.int x10), ((6 : Nat), Value.int x15), ((7 : Nat), Value.int x19)]) (sf := fun x19 x20 => [Value.int x20]) (fun s21 x19 x20 => ?_) (fun k18 hk18 => ?_)
          · show G _ Γ _ _ _ _ _ _ s21 [((0 : Nat), Value.ref (a 0)), ((1 : Nat), Value.int x1), ((2 : Nat), Value.int x2), ((4 : Nat), Value.int x9), ((5 : Nat), Value.int x10), ((6 : Nat), Value.int x15), ((7 : Nat), Value.int x19)] 81 [Value.int x20]
            refine g_jq2 (pc2 := 94) (lf := fun x23 x24 => [((0 : Nat), Value.ref (a 0)), ((1 : Nat), Value.int x1), ((2 : Nat), Value.int x2), ((3 : Nat), Value.int x23), ((5 : Nat), Value.int x10)]) (sf := fun x23 x24 => [Value.int x24]) (fun s25 x23 x24 => ?_) (fun k22 hk22 => ?_)
            · show G _ Γ _ _ _ _ _ _ s25 [((0 : Nat), Value.ref (a 0)), ((1 : Nat), Value.int x1), ((2 : Nat), Value.int x2), ((3 : Nat), Value.int x23), ((5 : Nat), Value.int x10)] 94 [Value.int x24]
              refine g_istore (pc := 94) [1, 2, 3, 4, 0, 5] (lv1 := [(0, Value.ref (a 0)), (1, Value.int x1), (2, Value.int x2), (3, Value.int x23), (4, Value.int x24), (5, Value.int x10)]) dX11_last_94 (by decide) rfl ?_
              refine g_iinc (pc := 96) [1, 2, 3, 4, 5, 0] 5 (n1 := 1) (lv1 := fun x26 => [(0, Value.ref (a 0)), (1, Value.int x1), (2, Value.int x2), (3, Value.int x23), (4, Value.int x24), (5, Value.int x26)]) dX11_last_96 rfl (by decide) (by decide) (fun _ => rfl) (fun x26 => ?_)
              show G _ Γ _ _ _ _ _ _ _ [(0, Value.ref (a 0)), (1, Value.int x1), (2, Value.int x2), (3, Value.int x23), (4, Value.int x24), (5, Value.int x26)] (96 + 3) _
              refine g_goto (pc := 99) (tgt := 28) dX11_last_99 (by decide) ?_
              exact hk7 s25 _ _ _
            · refine g_istore_n (pc := 81) [1, 2, 3, 0, 4, 5, 6, 7] (lv1 := [(0, Value.ref (a 0)), (1, Value.int x1), (2, Value.int x2), (3, Value.int x20), (4, Value.int x9), (5, Value.int x10), (6, Value.int x15), (7, Value.int x19)]) dX11_last_81 rfl (by decide) rfl ?_
              refine g_iload (pc := 82) 7 dX11_last_82 rfl ?_
              refine g_if_eq (pc := 84) (tgt := 92) dX11_last_84 (by decide) ?_ ?_
              · refine g_iload (pc := 92) 4 dX11_last_92 rfl ?_
                exact g_lv [0, 1, 2, 3, 5] rfl (hk22 s21 _ _)
              · refine g_iload (pc := 87) 6 dX11_last_87 rfl ?_
                refine g_goto (pc := 89) (tgt := 94) dX11_last_89 (by decide) ?_
                exact g_lv [0, 1, 2, 3, 5] rfl (hk22 s21 _ _)
          · refine g_istore (pc := 68) [1, 2, 3, 4, 5, 6, 7, 0] (lv1 := [(0, Value.ref (a 0)), (1, Value.int x1), (2, Value.int x2), (3, Value.int x8), (4, Value.int x9), (5, Value.int x10), (6, Value.int x15), (7, Value.int x16)]) dX11_last_68 (by decide) rfl ?_
            refine g_iload (pc := 70) 7 dX11_last_70 rfl ?_
            refine g_if_eq (pc := 72) (tgt := 80) dX11_last_72 (by decide) ?_ ?_
            · refine g_iload_n (pc := 80) 3 dX11_last_80 rfl rfl ?_
              exact g_lv [0, 1, 2, 4, 5, 6, 7] rfl (hk18 s17 _ _)
            · refine g_iload (pc := 75) 5 dX11_last_75 rfl ?_
              refine g_goto (pc := 77) (tgt := 81) dX11_last_77 (by decide) ?_
              exact g_lv [0, 1, 2, 4, 5, 6, 7] rfl (hk18 s17 _ _)
        · refine g_jq1 (pc2 := 67) (lf := fun x28 => [((0 : Nat), Value.ref (a 0)), ((1 : Nat), Value.int x1), ((2 : Nat), Value.int x2), ((3 : Nat), Value.int x8), ((4 : Nat), Value.int x9), ((5 : Nat), Value.int x10), ((6 : Nat), Value.int x28)]) (sf := fun x28 => ([] : List Value)) (fun s29 x28 => ?_) (fun k27 hk27 => ?_)
          · show G _ Γ _ _ _ _ _ _ s29 [((0 : Nat), Value.ref (a 0)), ((1 : Nat), Value.int x1), ((2 : Nat), Value.int x2), ((3 : Nat), Value.int x8), ((4 : Nat), Value.int x9), ((5 : Nat), Value.int x10), ((6 : Nat), Value.int x28)] 67 ([] : List Value)
            refine g_iconst (pc := 67) (v := 0) dX11_last_67 (by decide) ?_
            exact hk14 s29 _ _
          · refine g_aload_n (pc := 37) 0 dX11_last_37 rfl rfl ?_
            refine g_iload_n (pc := 38) 1 dX11_last_38 rfl rfl ?_
            refine g_cVv (pc := 39) 0 (As := [Value.int x1]) (fun r2 h2 => k_X11_asItIsOf__0 hI h2) wk_X11_asItIsOf wv_X11_asItIsOf bw_31_7 cM_0 rfl (by decide) (by decide) rfl rfl (Nat.le_of_ble_eq_true rfl) dX11_last_39 (fun r30 s31 => ?_)
            refine g_aload_n (pc := 42) 0 dX11_last_42 rfl rfl ?_
            refine g_iload (pc := 43) 5 dX11_last_43 rfl ?_
            refine g_iload_n (pc := 45) 1 dX11_last_45 rfl rfl ?_
            refine g_cVi (pc := 46) 0 (As := [Value.int x10, Value.int x1]) (fun r2 h2 => k_X11_knowsBehind__0 hI h2) wk_X11_knowsBehind wv_X11_knowsBehind bw_31_11 cM_0 rfl (by decide) (by decide) rfl rfl (Nat.le_of_ble_eq_true rfl) dX11_last_46 (fun r32 s33 => ?_)
            refine g_istore (pc := 49) [1, 2, 3, 4, 5, 6, 0] (lv1 := [(0, Value.ref (a 0)), (1, Value.int x1), (2, Value.int x2), (3, Value.int x8), (4, Value.int x9), (5, Value.int x10), (6, Value.int r32)]) dX11_last_49 (by decide) rfl ?_
            refine g_iload (pc := 51) 6 dX11_last_51 rfl ?_
            refine g_if_le (pc := 53) (tgt := 67) dX11_last_53 (by decide) ?_ ?_
            · exact hk27 s33 _
            · refine g_iload (pc := 56) 6 dX11_last_56 rfl ?_
              refine g_iload (pc := 58) 4 dX11_last_58 rfl ?_
              refine g_icmp_lt (pc := 60) (tgt := 67) dX11_last_60 (by decide) ?_ ?_
              · exact hk27 s33 _
              · refine g_iconst (pc := 63) (v := 1) dX11_last_63 (by decide) ?_
                refine g_goto (pc := 64) (tgt := 68) dX11_last_64 (by decide) ?_
                exact hk14 s33 _ _
    · refine g_iconst (pc := 17) (v := -1) dX11_last_17 (by decide) ?_
      exact g_iret (pc := 18) hRT dX11_last_18
set_option maxRecDepth 100000 in
set_option maxHeartbeats 4000000 in
theorem k_X11_isCutBy__0 {l : Launch} {D : va_G} {a : Nat → Nat} {cI : ClassId} (hI : ∀ σ : St, va_D (AM a) (cM a cI σ)) {σ : St} {x1 x2 x3 : Int32} {r : Int32 × St} (h : f_X11_isCutBy__0 σ x1 x2 x3 = some r) : Kc (SM l D a cI) yX11_isCutBy cX11_isCutBy 5 (some .boolean) 6 [Value.ref (a 0), Value.int x1, Value.int x2, Value.int x3] σ r := by
  refine enter (own := RX11) (o := f_X11_isCutBy__0 σ x1 x2 x3) (plainFor_of_name (by decide +kernel)) rfl (Nat.le_of_ble_eq_true rfl) hI wk_X11_isCutBy.1 h (fun Γ hRT => ?_)
  show G _ Γ _ _ _ _ _ _ σ [((0 : Nat), Value.ref (a 0)), ((1 : Nat), Value.int x1), ((2 : Nat), Value.int x2), ((3 : Nat), Value.int x3)] 0 []
  unfold f_X11_isCutBy__0
  refine g_aload_n (pc := 0) 0 dX11_isCutBy_0 rfl rfl ?_
  refine g_iload_n (pc := 1) 3 dX11_isCutBy_1 rfl rfl ?_
  refine g_cVv (pc := 2) 0 (As := [Value.int x3]) (fun r2 h2 => k_X11_asItIsOf__0 hI h2) wk_X11_asItIsOf wv_X11_asItIsOf bw_31_7 cM_0 rfl (by decide) (by decide) rfl rfl (Nat.le_of_ble_eq_true rfl) dX11_isCutBy_2 (fun r4 s5 => ?_)
  refine g_iconst (pc := 5) (v := 0) dX11_isCutBy_5 (by decide) ?_
  refine g_istore (pc := 6) [1, 2, 3, 4, 0] (lv1 := [(0, Value.ref (a 0)), (1, Value.int x1), (2, Value.int x2), (3, Value.int x3), (4, Value.int (0 : Int32))]) dX11_isCutBy_6 (by decide) rfl ?_
  refine g_lq1 (pc := 8) (lf := fun x7 => [((0 : Nat), Value.ref (a 0)), ((1 : Nat), Value.int x1), ((2 : Nat), Value.int x2), ((3 : Nat), Value.int x3), ((4 : Nat), Value.int x7)]) (sf := fun x7 => ([] : List Value)) (fun k6 hk6 s8 x7 => ?_) 100000 s5 _
  show G _ Γ _ _ _ _ _ _ s8 [((0 : Nat), Value.ref (a 0)), ((1 : Nat), Value.int x1), ((2 : Nat), Value.int x2), ((3 : Nat), Value.int x3), ((4 : Nat), Value.int x7)] 8 ([] : List Value)
  refine g_iload (pc := 8) 4 dX11_isCutBy_8 rfl ?_
  refine g_aload_n (pc := 10) 0 dX11_isCutBy_10 rfl rfl ?_
  refine g_get (pc := 11) 0 cM_0 rfl inlX11 2 (by decide) bw_15_14 rfl dX11_isCutBy_11 ?_
  refine g_icmp_ge (pc := 14) (tgt := 54) dX11_isCutBy_14 (by decide) ?_ ?_
  · refine g_aload_n (pc := 54) 0 dX11_isCutBy_54 rfl rfl ?_
    refine g_iload_n (pc := 55) 2 dX11_isCutBy_55 rfl rfl ?_
    refine g_iload_n (pc := 56) 3 dX11_isCutBy_56 rfl rfl ?_
    refine g_cVi (pc := 57) 0 (As := [Value.int x2, Value.int x3]) (fun r2 h2 => k_X11_knowsBehind__0 hI h2) wk_X11_knowsBehind wv_X11_knowsBehind bw_31_11 cM_0 rfl (by decide) (by decide) rfl rfl (Nat.le_of_ble_eq_true rfl) dX11_isCutBy_57 (fun r9 s10 => ?_)
    refine g_if_ge (pc := 60) (tgt := 67) dX11_isCutBy_60 (by decide) ?_ ?_
    · refine g_iconst (pc := 67) (v := 0) dX11_isCutBy_67 (by decide) ?_
      exact g_zret1 (pc := 68) hRT (by decide) dX11_isCutBy_68
    · refine g_iconst (pc := 63) (v := 1) dX11_isCutBy_63 (by decide) ?_
      refine g_goto (pc := 64) (tgt := 68) dX11_isCutBy_64 (by decide) ?_
      exact g_zret1 (pc := 68) hRT (by decide) dX11_isCutBy_68
  · refine g_jq2 (pc2 := 47) (lf := fun x12 x13 => [((0 : Nat), Value.ref (a 0)), ((1 : Nat), Value.int x1), ((2 : Nat), Value.int x2), ((3 : Nat), Value.int x3), ((4 : Nat), Value.int x7)]) (sf := fun x12 x13 => [Value.int x12, Value.int x13, Value.ref (a 14)]) (fun s14 x12 x13 => ?_) (fun k11 hk11 => ?_)
    · show G _ Γ _ _ _ _ _ _ s14 [((0 : Nat), Value.ref (a 0)), ((1 : Nat), Value.int x1), ((2 : Nat), Value.int x2), ((3 : Nat), Value.int x3), ((4 : Nat), Value.int x7)] 47 [Value.int x12, Value.int x13, Value.ref (a 14)]
      refine g_iast (pc := 47) 14 cM_14 rfl cM_s14 dX11_isCutBy_47 (fun s15 => ?_)
      refine g_iinc (pc := 48) [1, 2, 3, 4, 0] 4 (n1 := 1) (lv1 := fun x16 => [(0, Value.ref (a 0)), (1, Value.int x1), (2, Value.int x2), (3, Value.int x3), (4, Value.int x16)]) dX11_isCutBy_48 rfl (by decide) (by decide) (fun _ => rfl) (fun x16 => ?_)
      show G _ Γ _ _ _ _ _ _ _ [(0, Value.ref (a 0)), (1, Value.int x1), (2, Value.int x2), (3, Value.int x3), (4, Value.int x16)] (48 + 3) _
      refine g_goto (pc := 51) (tgt := 8) dX11_isCutBy_51 (by decide) ?_
      exact hk6 s15 _
    · refine g_aload_n (pc := 17) 0 dX11_isCutBy_17 rfl rfl ?_
      refine g_get (pc := 18) 0 cM_0 rfl inlX11 28 (by decide) bw_14_14 rfl dX11_isCutBy_18 ?_
      refine g_iconst (pc := 21) (v := 1) dX11_isCutBy_21 (by decide) ?_
      refine g_iload (pc := 22) 4 dX11_isCutBy_22 rfl ?_
      refine g_iadd (pc := 24) dX11_isCutBy_24 ?_
      refine g_iload_n (pc := 25) 1 dX11_isCutBy_25 rfl rfl ?_
      refine g_iload (pc := 26) 4 dX11_isCutBy_26 rfl ?_
      refine g_cSz (pc := 28) (As := [Value.int x1, Value.int x7]) (fun r2 h2 => k_X11_has hI h2) wk_X11_has ws_X11_has bw_20_23 (by decide) (by decide) rfl rfl (Nat.le_of_ble_eq_true rfl) dX11_isCutBy_28 (fun r17 s18 => ?_)
      refine g_if_eq (pc := 31) (tgt := 38) dX11_isCutBy_31 (by decide) ?_ ?_
      · refine g_aload_n (pc := 38) 0 dX11_isCutBy_38 rfl rfl ?_
        refine g_get (pc := 39) 0 cM_0 rfl inlX11 28 (by decide) bw_14_14 rfl dX11_isCutBy_39 ?_
        refine g_iconst (pc := 42) (v := 1) dX11_isCutBy_42 (by decide) ?_
        refine g_iload (pc := 43) 4 dX11_isCutBy_43 rfl ?_
        refine g_iadd (pc := 45) dX11_isCutBy_45 ?_
        refine g_iald (pc := 46) 14 cM_14 rfl dX11_isCutBy_46 ?_
        exact hk11 s18 _ _
      · refine g_iconst (pc := 34) (v := 0) dX11_isCutBy_34 (by decide) ?_
        refine g_goto (pc := 35) (tgt := 47) dX11_isCutBy_35 (by decide) ?_
        exact hk11 s18 _ _
set_option maxRecDepth 100000 in
set_option maxHeartbeats 4000000 in
theorem k_X11_cut__0 {l : Launch} {D : va_G} {a : Nat → Nat} {cI : ClassId} (hI : ∀ σ : St, va_D (AM a) (cM a cI σ)) {σ : St} {x1 x2 x3 : Int32} {r : Int32 × St} (h : f_X11_cut__0 σ x1 x2 x3 = some r) : Kc (SM l D a cI) yX11_cut cX11_cut 6 (some .int) 7 [Value.ref (a 0), Value.int x1, Value.int x2, Value.int x3] σ r := by
  refine enter (own := RX11) (o := f_X11_cut__0 σ x1 x2 x3) (plainFor_of_name (by decide +kernel)) rfl (Nat.le_of_ble_eq_true rfl) hI wk_X11_cut.1 h (fun Γ hRT => ?_)
  show G _ Γ _ _ _ _ _ _ σ [((0 : Nat), Value.ref (a 0)), ((1 : Nat), Value.int x1), ((2 : Nat), Value.int x2), ((3 : Nat), Value.int x3)] 0 []
  unfold f_X11_cut__0
  refine g_aload_n (pc := 0) 0 dX11_cut_0 rfl rfl ?_
  refine g_iload_n (pc := 1) 1 dX11_cut_1 rfl rfl ?_
  refine g_cVz (pc := 2) 0 (As := [Value.int x1]) (fun r2 h2 => k_X11_isHouse__0 hI h2) wk_X11_isHouse wv_X11_isHouse bw_20_10 cM_0 rfl (by decide) (by decide) rfl rfl (Nat.le_of_ble_eq_true rfl) dX11_cut_2 (fun r4 s5 => ?_)
  refine g_if_eq (pc := 5) (tgt := 25) dX11_cut_5 (by decide) ?_ ?_
  · refine g_iconst (pc := 25) (v := -1) dX11_cut_25 (by decide) ?_
    exact g_iret (pc := 26) hRT dX11_cut_26
  · refine g_aload_n (pc := 8) 0 dX11_cut_8 rfl rfl ?_
    refine g_iload_n (pc := 9) 2 dX11_cut_9 rfl rfl ?_
    refine g_cVz (pc := 10) 0 (As := [Value.int x2]) (fun r2 h2 => k_X11_isNews__0 hI h2) wk_X11_isNews wv_X11_isNews bw_22_4 cM_0 rfl (by decide) (by decide) rfl rfl (Nat.le_of_ble_eq_true rfl) dX11_cut_10 (fun r6 s7 => ?_)
    refine g_if_eq (pc := 13) (tgt := 25) dX11_cut_13 (by decide) ?_ ?_
    · refine g_iconst (pc := 25) (v := -1) dX11_cut_25 (by decide) ?_
      exact g_iret (pc := 26) hRT dX11_cut_26
    · refine g_iload_n (pc := 16) 3 dX11_cut_16 rfl rfl ?_
      refine g_iconst (pc := 17) (v := 0) dX11_cut_17 (by decide) ?_
      refine g_iconst (pc := 18) (v := 1) dX11_cut_18 (by decide) ?_
      refine g_cSz (pc := 19) (As := [Value.int x3, Value.int (0 : Int32), Value.int (1 : Int32)]) (fun r2 h2 => k_X11_in hI h2) wk_X11_in ws_X11_in bw_16_9 (by decide) (by decide) rfl rfl (Nat.le_of_ble_eq_true rfl) dX11_cut_19 (fun r8 s9 => ?_)
      refine g_if_ne (pc := 22) (tgt := 27) dX11_cut_22 (by decide) ?_ ?_
      · refine g_aload_n (pc := 27) 0 dX11_cut_27 rfl rfl ?_
        refine g_get (pc := 28) 0 cM_0 rfl inlX11 8 (by decide) bw_14_4 rfl dX11_cut_28 ?_
        refine g_bipush (pc := 31) (v := 17) dX11_cut_31 (by decide) ?_
        refine g_iload_n (pc := 33) 2 dX11_cut_33 rfl rfl ?_
        refine g_iadd (pc := 34) dX11_cut_34 ?_
        refine g_iald (pc := 35) 4 cM_4 rfl dX11_cut_35 ?_
        refine g_iload_n (pc := 36) 1 dX11_cut_36 rfl rfl ?_
        refine g_cSz (pc := 37) (As := [Value.int (s9 4 (Int32.toNatClampNeg ((17 : Int32) + x2))), Value.int x1]) (fun r2 h2 => k_X11_has hI h2) wk_X11_has ws_X11_has bw_20_23 (by decide) (by decide) rfl rfl (Nat.le_of_ble_eq_true rfl) dX11_cut_37 (fun r10 s11 => ?_)
        refine g_if_eq (pc := 40) (tgt := 46) dX11_cut_40 (by decide) ?_ ?_
        · refine g_iconst (pc := 46) (v := 0) dX11_cut_46 (by decide) ?_
          refine g_istore (pc := 47) [1, 2, 3, 4, 0] (lv1 := [(0, Value.ref (a 0)), (1, Value.int x1), (2, Value.int x2), (3, Value.int x3), (4, Value.int (0 : Int32))]) dX11_cut_47 (by decide) rfl ?_
          refine g_lq1 (pc := 49) (lf := fun x13 => [((0 : Nat), Value.ref (a 0)), ((1 : Nat), Value.int x1), ((2 : Nat), Value.int x2), ((3 : Nat), Value.int x3), ((4 : Nat), Value.int x13)]) (sf := fun x13 => ([] : List Value)) (fun k12 hk12 s14 x13 => ?_) 100000 s11 _
          show G _ Γ _ _ _ _ _ _ s14 [((0 : Nat), Value.ref (a 0)), ((1 : Nat), Value.int x1), ((2 : Nat), Value.int x2), ((3 : Nat), Value.int x3), ((4 : Nat), Value.int x13)] 49 ([] : List Value)
          refine g_iload (pc := 49) 4 dX11_cut_49 rfl ?_
          refine g_iconst (pc := 51) (v := 3) dX11_cut_51 (by decide) ?_
          refine g_icmp_gt (pc := 52) (tgt := 123) dX11_cut_52 (by decide) ?_ ?_
          · refine g_bipush (pc := 123) (v := -4) dX11_cut_123 (by decide) ?_
            exact g_iret (pc := 125) hRT dX11_cut_125
          · refine g_iconst (pc := 55) (v := 0) dX11_cut_55 (by decide) ?_
            refine g_istore (pc := 56) [1, 2, 3, 4, 5, 0] (lv1 := [(0, Value.ref (a 0)), (1, Value.int x1), (2, Value.int x2), (3, Value.int x3), (4, Value.int x13), (5, Value.int (0 : Int32))]) dX11_cut_56 (by decide) rfl ?_
            refine g_lq1 (pc := 58) (lf := fun x16 => [((0 : Nat), Value.ref (a 0)), ((1 : Nat), Value.int x1), ((2 : Nat), Value.int x2), ((3 : Nat), Value.int x3), ((4 : Nat), Value.int x13), ((5 : Nat), Value.int x16)]) (sf := fun x16 => ([] : List Value)) (fun k15 hk15 s17 x16 => ?_) 100000 s14 _
            show G _ Γ _ _ _ _ _ _ s17 [((0 : Nat), Value.ref (a 0)), ((1 : Nat), Value.int x1), ((2 : Nat), Value.int x2), ((3 : Nat), Value.int x3), ((4 : Nat), Value.int x13), ((5 : Nat), Value.int x16)] 58 ([] : List Value)
            refine g_iload (pc := 58) 5 dX11_cut_58 rfl ?_
            refine g_iconst (pc := 60) (v := 1) dX11_cut_60 (by decide) ?_
            refine g_aload_n (pc := 61) 0 dX11_cut_61 rfl rfl ?_
            refine g_get (pc := 62) 0 cM_0 rfl inlX11 2 (by decide) bw_15_14 rfl dX11_cut_62 ?_
            refine g_ishl (pc := 65) dX11_cut_65 ?_
            refine g_icmp_ge (pc := 66) (tgt := 117) dX11_cut_66 (by decide) ?_ ?_
            · refine g_iinc (pc := 117) [1, 2, 3, 4, 0, 5] 4 (n1 := 1) (lv1 := fun x18 => [(0, Value.ref (a 0)), (1, Value.int x1), (2, Value.int x2), (3, Value.int x3), (4, Value.int x18), (5, Value.int x16)]) dX11_cut_117 rfl (by decide) (by decide) (fun _ => rfl) (fun x18 => ?_)
              show G _ Γ _ _ _ _ _ _ _ [(0, Value.ref (a 0)), (1, Value.int x1), (2, Value.int x2), (3, Value.int x3), (4, Value.int x18), (5, Value.int x16)] (117 + 3) _
              refine g_goto (pc := 120) (tgt := 49) dX11_cut_120 (by decide) ?_
              exact g_lv [0, 1, 2, 3, 4] rfl (hk12 s17 _)
            · refine g_jq0 (pc2 := 111) (lf := [((0 : Nat), Value.ref (a 0)), ((1 : Nat), Value.int x1), ((2 : Nat), Value.int x2), ((3 : Nat), Value.int x3), ((4 : Nat), Value.int x13), ((5 : Nat), Value.int x16)]) (sf := ([] : List Value)) (fun s20 => ?_) (fun k19 hk19 => ?_)
              · show G _ Γ _ _ _ _ _ _ s20 [((0 : Nat), Value.ref (a 0)), ((1 : Nat), Value.int x1), ((2 : Nat), Value.int x2), ((3 : Nat), Value.int x3), ((4 : Nat), Value.int x13), ((5 : Nat), Value.int x16)] 111 ([] : List Value)
                refine g_iinc (pc := 111) [1, 2, 3, 4, 5, 0] 5 (n1 := 1) (lv1 := fun x21 => [(0, Value.ref (a 0)), (1, Value.int x1), (2, Value.int x2), (3, Value.int x3), (4, Value.int x13), (5, Value.int x21)]) dX11_cut_111 rfl (by decide) (by decide) (fun _ => rfl) (fun x21 => ?_)
                show G _ Γ _ _ _ _ _ _ _ [(0, Value.ref (a 0)), (1, Value.int x1), (2, Value.int x2), (3, Value.int x3), (4, Value.int x13), (5, Value.int x21)] (111 + 3) _
                refine g_goto (pc := 114) (tgt := 58) dX11_cut_114 (by decide) ?_
                exact hk15 s20 _
              · refine g_iload (pc := 69) 5 dX11_cut_69 rfl ?_
                refine g_iload_n (pc := 71) 1 dX11_cut_71 rfl rfl ?_
                refine g_cSz (pc := 72) (As := [Value.int x16, Value.int x1]) (fun r2 h2 => k_X11_has hI h2) wk_X11_has ws_X11_has bw_20_23 (by decide) (by decide) rfl rfl (Nat.le_of_ble_eq_true rfl) dX11_cut_72 (fun r22 s23 => ?_)
                refine g_if_ne (pc := 75) (tgt := 111) dX11_cut_75 (by decide) ?_ ?_
                · exact hk19 s23
                · refine g_iload (pc := 78) 5 dX11_cut_78 rfl ?_
                  refine g_cSi (pc := 80) (As := [Value.int x16]) (fun r2 h2 => k_X11_bits hI h2) wk_X11_bits ws_X11_bits bw_22_8 (by decide) (by decide) rfl rfl (Nat.le_of_ble_eq_true rfl) dX11_cut_80 (fun r24 s25 => ?_)
                  refine g_iload (pc := 83) 4 dX11_cut_83 rfl ?_
                  refine g_icmp_ne (pc := 85) (tgt := 111) dX11_cut_85 (by decide) ?_ ?_
                  · exact hk19 s25
                  · refine g_aload_n (pc := 88) 0 dX11_cut_88 rfl rfl ?_
                    refine g_iload (pc := 89) 5 dX11_cut_89 rfl ?_
                    refine g_iload_n (pc := 91) 1 dX11_cut_91 rfl rfl ?_
                    refine g_iload_n (pc := 92) 2 dX11_cut_92 rfl rfl ?_
                    refine g_cVz (pc := 93) 0 (As := [Value.int x16, Value.int x1, Value.int x2]) (fun r2 h2 => k_X11_isCutBy__0 hI h2) wk_X11_isCutBy wv_X11_isCutBy bw_33_3 cM_0 rfl (by decide) (by decide) rfl rfl (Nat.le_of_ble_eq_true rfl) dX11_cut_93 (fun r26 s27 => ?_)
                    refine g_if_eq (pc := 96) (tgt := 111) dX11_cut_96 (by decide) ?_ ?_
                    · exact hk19 s27
                    · refine g_iload_n (pc := 99) 3 dX11_cut_99 rfl rfl ?_
                      refine g_if_ne (pc := 100) (tgt := 108) dX11_cut_100 (by decide) ?_ ?_
                      · refine g_iload (pc := 108) 5 dX11_cut_108 rfl ?_
                        exact g_iret (pc := 110) hRT dX11_cut_110
                      · refine g_iload (pc := 103) 4 dX11_cut_103 rfl ?_
                        refine g_goto (pc := 105) (tgt := 110) dX11_cut_105 (by decide) ?_
                        exact g_iret (pc := 110) hRT dX11_cut_110
        · refine g_bipush (pc := 43) (v := -4) dX11_cut_43 (by decide) ?_
          exact g_iret (pc := 45) hRT dX11_cut_45
      · refine g_iconst (pc := 25) (v := -1) dX11_cut_25 (by decide) ?_
        exact g_iret (pc := 26) hRT dX11_cut_26
set_option maxRecDepth 100000 in
set_option maxHeartbeats 4000000 in
theorem k_X11_isSoBy__0 {l : Launch} {D : va_G} {a : Nat → Nat} {cI : ClassId} (hI : ∀ σ : St, va_D (AM a) (cM a cI σ)) {σ : St} {x1 x2 x3 x4 : Int32} {r : Int32 × St} (h : f_X11_isSoBy__0 σ x1 x2 x3 x4 = some r) : Kc (SM l D a cI) yX11_isSoBy cX11_isSoBy 5 (some .boolean) 5 [Value.ref (a 0), Value.int x1, Value.int x2, Value.int x3, Value.int x4] σ r := by
  refine enter (own := RX11) (o := f_X11_isSoBy__0 σ x1 x2 x3 x4) (plainFor_of_name (by decide +kernel)) rfl (Nat.le_of_ble_eq_true rfl) hI wk_X11_isSoBy.1 h (fun Γ hRT => ?_)
  show G _ Γ _ _ _ _ _ _ σ [((0 : Nat), Value.ref (a 0)), ((1 : Nat), Value.int x1), ((2 : Nat), Value.int x2), ((3 : Nat), Value.int x3), ((4 : Nat), Value.int x4)] 0 []
  unfold f_X11_isSoBy__0
  refine g_jq0 (pc2 := 33) (lf := [((0 : Nat), Value.ref (a 0)), ((1 : Nat), Value.int x1), ((2 : Nat), Value.int x2), ((3 : Nat), Value.int x3), ((4 : Nat), Value.int x4)]) (sf := ([] : List Value)) (fun s6 => ?_) (fun k5 hk5 => ?_)
  · show G _ Γ _ _ _ _ _ _ s6 [((0 : Nat), Value.ref (a 0)), ((1 : Nat), Value.int x1), ((2 : Nat), Value.int x2), ((3 : Nat), Value.int x3), ((4 : Nat), Value.int x4)] 33 ([] : List Value)
    refine g_jq0 (pc2 := 61) (lf := [((0 : Nat), Value.ref (a 0)), ((1 : Nat), Value.int x1), ((2 : Nat), Value.int x2), ((3 : Nat), Value.int x3), ((4 : Nat), Value.int x4)]) (sf := ([] : List Value)) (fun s8 => ?_) (fun k7 hk7 => ?_)
    · show G _ Γ _ _ _ _ _ _ s8 [((0 : Nat), Value.ref (a 0)), ((1 : Nat), Value.int x1), ((2 : Nat), Value.int x2), ((3 : Nat), Value.int x3), ((4 : Nat), Value.int x4)] 61 ([] : List Value)
      refine g_jq0 (pc2 := 100) (lf := ([] : List (Nat × Value))) (sf := ([] : List Value)) (fun s10 => ?_) (fun k9 hk9 => ?_)
      · show G _ Γ _ _ _ _ _ _ s10 ([] : List (Nat × Value)) 100 ([] : List Value)
        refine g_iconst (pc := 100) (v := 0) dX11_isSoBy_100 (by decide) ?_
        exact g_zret1 (pc := 101) hRT (by decide) dX11_isSoBy_101
      · refine g_aload_n (pc := 61) 0 dX11_isSoBy_61 rfl rfl ?_
        refine g_iload_n (pc := 62) 2 dX11_isSoBy_62 rfl rfl ?_
        refine g_cVv (pc := 63) 0 (As := [Value.int x2]) (fun r2 h2 => k_X11_goes__0 hI h2) wk_X11_goes wv_X11_goes bw_27_8 cM_0 rfl (by decide) (by decide) rfl rfl (Nat.le_of_ble_eq_true rfl) dX11_isSoBy_63 (fun r11 s12 => ?_)
        refine g_aload_n (pc := 66) 0 dX11_isSoBy_66 rfl rfl ?_
        refine g_get (pc := 67) 0 cM_0 rfl inlX11 28 (by decide) bw_14_14 rfl dX11_isSoBy_67 ?_
        refine g_bipush (pc := 70) (v := 17) dX11_isSoBy_70 (by decide) ?_
        refine g_iload_n (pc := 72) 1 dX11_isSoBy_72 rfl rfl ?_
        refine g_iadd (pc := 73) dX11_isSoBy_73 ?_
        refine g_iald (pc := 74) 14 cM_14 rfl dX11_isSoBy_74 ?_
        refine g_iload_n (pc := 75) 3 dX11_isSoBy_75 rfl rfl ?_
        refine g_iand (pc := 76) dX11_isSoBy_76 ?_
        refine g_iload_n (pc := 77) 3 dX11_isSoBy_77 rfl rfl ?_
        refine g_icmp_ne (pc := 78) (tgt := 100) dX11_isSoBy_78 (by decide) ?_ ?_
        · exact g_lv [] rfl (hk9 s12)
        · refine g_aload_n (pc := 81) 0 dX11_isSoBy_81 rfl rfl ?_
          refine g_get (pc := 82) 0 cM_0 rfl inlX11 28 (by decide) bw_14_14 rfl dX11_isSoBy_82 ?_
          refine g_bipush (pc := 85) (v := 17) dX11_isSoBy_85 (by decide) ?_
          refine g_iload_n (pc := 87) 1 dX11_isSoBy_87 rfl rfl ?_
          refine g_iadd (pc := 88) dX11_isSoBy_88 ?_
          refine g_iald (pc := 89) 14 cM_14 rfl dX11_isSoBy_89 ?_
          refine g_iload (pc := 90) 4 dX11_isSoBy_90 rfl ?_
          refine g_iand (pc := 92) dX11_isSoBy_92 ?_
          refine g_if_ne (pc := 93) (tgt := 100) dX11_isSoBy_93 (by decide) ?_ ?_
          · exact g_lv [] rfl (hk9 s12)
          · refine g_iconst (pc := 96) (v := 1) dX11_isSoBy_96 (by decide) ?_
            refine g_goto (pc := 97) (tgt := 101) dX11_isSoBy_97 (by decide) ?_
            exact g_zret1 (pc := 101) hRT (by decide) dX11_isSoBy_101
    · refine g_aload_n (pc := 33) 0 dX11_isSoBy_33 rfl rfl ?_
      refine g_get (pc := 34) 0 cM_0 rfl inlX11 31 (by decide) bw_35_19 rfl dX11_isSoBy_34 ?_
      refine g_if_lt (pc := 37) (tgt := 61) dX11_isSoBy_37 (by decide) ?_ ?_
      · exact hk7 s6
      · refine g_aload_n (pc := 40) 0 dX11_isSoBy_40 rfl rfl ?_
        refine g_get (pc := 41) 0 cM_0 rfl inlX11 28 (by decide) bw_14_14 rfl dX11_isSoBy_41 ?_
        refine g_iconst (pc := 44) (v := 1) dX11_isSoBy_44 (by decide) ?_
        refine g_aload_n (pc := 45) 0 dX11_isSoBy_45 rfl rfl ?_
        refine g_get (pc := 46) 0 cM_0 rfl inlX11 31 (by decide) bw_35_19 rfl dX11_isSoBy_46 ?_
        refine g_bipush (pc := 49) (v := 10) dX11_isSoBy_49 (by decide) ?_
        refine g_idiv (pc := 51) dX11_isSoBy_51 ?_
        refine g_iadd (pc := 52) dX11_isSoBy_52 ?_
        refine g_aload_n (pc := 53) 0 dX11_isSoBy_53 rfl rfl ?_
        refine g_get (pc := 54) 0 cM_0 rfl inlX11 31 (by decide) bw_35_19 rfl dX11_isSoBy_54 ?_
        refine g_bipush (pc := 57) (v := 10) dX11_isSoBy_57 (by decide) ?_
        refine g_irem (pc := 59) dX11_isSoBy_59 ?_
        refine g_iast (pc := 60) 14 cM_14 rfl cM_s14 dX11_isSoBy_60 (fun s13 => ?_)
        exact hk7 s13
  · refine g_aload_n (pc := 0) 0 dX11_isSoBy_0 rfl rfl ?_
    refine g_iload_n (pc := 1) 1 dX11_isSoBy_1 rfl rfl ?_
    refine g_cVv (pc := 2) 0 (As := [Value.int x1]) (fun r2 h2 => k_X11_asItIsOf__0 hI h2) wk_X11_asItIsOf wv_X11_asItIsOf bw_31_7 cM_0 rfl (by decide) (by decide) rfl rfl (Nat.le_of_ble_eq_true rfl) dX11_isSoBy_2 (fun r14 s15 => ?_)
    refine g_aload_n (pc := 5) 0 dX11_isSoBy_5 rfl rfl ?_
    refine g_get (pc := 6) 0 cM_0 rfl inlX11 30 (by decide) bw_35_18 rfl dX11_isSoBy_6 ?_
    refine g_if_lt (pc := 9) (tgt := 33) dX11_isSoBy_9 (by decide) ?_ ?_
    · exact hk5 s15
    · refine g_aload_n (pc := 12) 0 dX11_isSoBy_12 rfl rfl ?_
      refine g_get (pc := 13) 0 cM_0 rfl inlX11 28 (by decide) bw_14_14 rfl dX11_isSoBy_13 ?_
      refine g_iconst (pc := 16) (v := 1) dX11_isSoBy_16 (by decide) ?_
      refine g_aload_n (pc := 17) 0 dX11_isSoBy_17 rfl rfl ?_
      refine g_get (pc := 18) 0 cM_0 rfl inlX11 30 (by decide) bw_35_18 rfl dX11_isSoBy_18 ?_
      refine g_bipush (pc := 21) (v := 10) dX11_isSoBy_21 (by decide) ?_
      refine g_idiv (pc := 23) dX11_isSoBy_23 ?_
      refine g_iadd (pc := 24) dX11_isSoBy_24 ?_
      refine g_aload_n (pc := 25) 0 dX11_isSoBy_25 rfl rfl ?_
      refine g_get (pc := 26) 0 cM_0 rfl inlX11 30 (by decide) bw_35_18 rfl dX11_isSoBy_26 ?_
      refine g_bipush (pc := 29) (v := 10) dX11_isSoBy_29 (by decide) ?_
      refine g_irem (pc := 31) dX11_isSoBy_31 ?_
      refine g_iast (pc := 32) 14 cM_14 rfl cM_s14 dX11_isSoBy_32 (fun s16 => ?_)
      exact hk5 s16
set_option maxRecDepth 100000 in
set_option maxHeartbeats 4000000 in
theorem k_X11_findWay__0 {l : Launch} {D : va_G} {a : Nat → Nat} {cI : ClassId} (hI : ∀ σ : St, va_D (AM a) (cM a cI σ)) {σ : St} {x1 x2 x3 x4 x5 : Int32} {r : Int32 × St} (h : f_X11_findWay__0 σ x1 x2 x3 x4 x5 = some r) : Kc (SM l D a cI) yX11_findWay cX11_findWay 10 (some .boolean) 6 [Value.ref (a 0), Value.int x1, Value.int x2, Value.int x3, Value.int x4, Value.int x5] σ r := by
  refine enter (own := RX11) (o := f_X11_findWay__0 σ x1 x2 x3 x4 x5) (plainFor_of_name (by decide +kernel)) rfl (Nat.le_of_ble_eq_true rfl) hI wk_X11_findWay.1 h (fun Γ hRT => ?_)
  show G _ Γ _ _ _ _ _ _ σ [((0 : Nat), Value.ref (a 0)), ((1 : Nat), Value.int x1), ((2 : Nat), Value.int x2), ((3 : Nat), Value.int x3), ((4 : Nat), Value.int x4), ((5 : Nat), Value.int x5)] 0 []
  unfold f_X11_findWay__0
  refine g_jq1 (pc2 := 15) (lf := fun x7 => [((0 : Nat), Value.ref (a 0)), ((1 : Nat), Value.int x1), ((2 : Nat), Value.int x2), ((3 : Nat), Value.int x3), ((4 : Nat), Value.int x4), ((5 : Nat), Value.int x5)]) (sf := fun x7 => [Value.int x7]) (fun s8 x7 => ?_) (fun k6 hk6 => ?_)
  · show G _ Γ _ _ _ _ _ _ s8 [((0 : Nat), Value.ref (a 0)), ((1 : Nat), Value.int x1), ((2 : Nat), Value.int x2), ((3 : Nat), Value.int x3), ((4 : Nat), Value.int x4), ((5 : Nat), Value.int x5)] 15 [Value.int x7]
    refine g_istore (pc := 15) [1, 2, 3, 4, 5, 6, 0] (lv1 := [(0, Value.ref (a 0)), (1, Value.int x1), (2, Value.int x2), (3, Value.int x3), (4, Value.int x4), (5, Value.int x5), (6, Value.int x7)]) dX11_findWay_15 (by decide) rfl ?_
    refine g_iconst (pc := 17) (v := 0) dX11_findWay_17 (by decide) ?_
    refine g_istore (pc := 18) [1, 2, 3, 4, 5, 6, 7, 0] (lv1 := [(0, Value.ref (a 0)), (1, Value.int x1), (2, Value.int x2), (3, Value.int x3), (4, Value.int x4), (5, Value.int x5), (6, Value.int x7), (7, Value.int (0 : Int32))]) dX11_findWay_18 (by decide) rfl ?_
    refine g_lq1 (pc := 20) (lf := fun x10 => [((0 : Nat), Value.ref (a 0)), ((1 : Nat), Value.int x1), ((2 : Nat), Value.int x2), ((3 : Nat), Value.int x3), ((4 : Nat), Value.int x4), ((5 : Nat), Value.int x5), ((6 : Nat), Value.int x7), ((7 : Nat), Value.int x10)]) (sf := fun x10 => ([] : List Value)) (fun k9 hk9 s11 x10 => ?_) 100000 s8 _
    show G _ Γ _ _ _ _ _ _ s11 [((0 : Nat), Value.ref (a 0)), ((1 : Nat), Value.int x1), ((2 : Nat), Value.int x2), ((3 : Nat), Value.int x3), ((4 : Nat), Value.int x4), ((5 : Nat), Value.int x5), ((6 : Nat), Value.int x7), ((7 : Nat), Value.int x10)] 20 ([] : List Value)
    refine g_iload (pc := 20) 7 dX11_findWay_20 rfl ?_
    refine g_iload (pc := 22) 6 dX11_findWay_22 rfl ?_
    refine g_icmp_ge (pc := 24) (tgt := 157) dX11_findWay_24 (by decide) ?_ ?_
    · refine g_iconst (pc := 157) (v := 0) dX11_findWay_157 (by decide) ?_
      exact g_zret1 (pc := 158) hRT (by decide) dX11_findWay_158
    · refine g_jq0 (pc2 := 151) (lf := [((0 : Nat), Value.ref (a 0)), ((1 : Nat), Value.int x1), ((2 : Nat), Value.int x2), ((3 : Nat), Value.int x3), ((4 : Nat), Value.int x4), ((5 : Nat), Value.int x5), ((6 : Nat), Value.int x7), ((7 : Nat), Value.int x10)]) (sf := ([] : List Value)) (fun s13 => ?_) (fun k12 hk12 => ?_)
      · show G _ Γ _ _ _ _ _ _ s13 [((0 : Nat), Value.ref (a 0)), ((1 : Nat), Value.int x1), ((2 : Nat), Value.int x2), ((3 : Nat), Value.int x3), ((4 : Nat), Value.int x4), ((5 : Nat), Value.int x5), ((6 : Nat), Value.int x7), ((7 : Nat), Value.int x10)] 151 ([] : List Value)
        refine g_iinc (pc := 151) [1, 2, 3, 4, 5, 6, 7, 0] 7 (n1 := 1) (lv1 := fun x14 => [(0, Value.ref (a 0)), (1, Value.int x1), (2, Value.int x2), (3, Value.int x3), (4, Value.int x4), (5, Value.int x5), (6, Value.int x7), (7, Value.int x14)]) dX11_findWay_151 rfl (by decide) (by decide) (fun _ => rfl) (fun x14 => ?_)
        show G _ Γ _ _ _ _ _ _ _ [(0, Value.ref (a 0)), (1, Value.int x1), (2, Value.int x2), (3, Value.int x3), (4, Value.int x4), (5, Value.int x5), (6, Value.int x7), (7, Value.int x14)] (151 + 3) _
        refine g_goto (pc := 154) (tgt := 20) dX11_findWay_154 (by decide) ?_
        exact hk9 s13 _
      · refine g_jq0 (pc2 := 41) (lf := [((0 : Nat), Value.ref (a 0)), ((1 : Nat), Value.int x1), ((2 : Nat), Value.int x2), ((3 : Nat), Value.int x3), ((4 : Nat), Value.int x4), ((5 : Nat), Value.int x5), ((6 : Nat), Value.int x7), ((7 : Nat), Value.int x10)]) (sf := ([] : List Value)) (fun s16 => ?_) (fun k15 hk15 => ?_)
        · show G _ Γ _ _ _ _ _ _ s16 [((0 : Nat), Value.ref (a 0)), ((1 : Nat), Value.int x1), ((2 : Nat), Value.int x2), ((3 : Nat), Value.int x3), ((4 : Nat), Value.int x4), ((5 : Nat), Value.int x5), ((6 : Nat), Value.int x7), ((7 : Nat), Value.int x10)] 41 ([] : List Value)
          refine g_jq1 (pc2 := 52) (lf := fun x18 => [((0 : Nat), Value.ref (a 0)), ((1 : Nat), Value.int x1), ((2 : Nat), Value.int x2), ((3 : Nat), Value.int x3), ((4 : Nat), Value.int x4), ((5 : Nat), Value.int x5), ((6 : Nat), Value.int x7), ((7 : Nat), Value.int x10)]) (sf := fun x18 => [Value.int x18, Value.ref (a 0)]) (fun s19 x18 => ?_) (fun k17 hk17 => ?_)
          · show G _ Γ _ _ _ _ _ _ s19 [((0 : Nat), Value.ref (a 0)), ((1 : Nat), Value.int x1), ((2 : Nat), Value.int x2), ((3 : Nat), Value.int x3), ((4 : Nat), Value.int x4), ((5 : Nat), Value.int x5), ((6 : Nat), Value.int x7), ((7 : Nat), Value.int x10)] 52 [Value.int x18, Value.ref (a 0)]
            refine g_jq1 (pc2 := 82) (lf := fun x21 => [((0 : Nat), Value.ref (a 0)), ((1 : Nat), Value.int x1), ((2 : Nat), Value.int x2), ((3 : Nat), Value.int x3), ((4 : Nat), Value.int x4), ((5 : Nat), Value.int x5), ((6 : Nat), Value.int x7), ((7 : Nat), Value.int x10)]) (sf := fun x21 => [Value.int x21]) (fun s22 x21 => ?_) (fun k20 hk20 => ?_)
            · show G _ Γ _ _ _ _ _ _ s22 [((0 : Nat), Value.ref (a 0)), ((1 : Nat), Value.int x1), ((2 : Nat), Value.int x2), ((3 : Nat), Value.int x3), ((4 : Nat), Value.int x4), ((5 : Nat), Value.int x5), ((6 : Nat), Value.int x7), ((7 : Nat), Value.int x10)] 82 [Value.int x21]
              refine g_istore (pc := 82) [1, 2, 3, 4, 5, 6, 7, 8, 0] (lv1 := [(0, Value.ref (a 0)), (1, Value.int x1), (2, Value.int x2), (3, Value.int x3), (4, Value.int x4), (5, Value.int x5), (6, Value.int x7), (7, Value.int x10), (8, Value.int x21)]) dX11_findWay_82 (by decide) rfl ?_
              refine g_iload (pc := 84) 8 dX11_findWay_84 rfl ?_
              refine g_istore (pc := 86) [1, 2, 3, 4, 5, 6, 7, 8, 9, 0] (lv1 := [(0, Value.ref (a 0)), (1, Value.int x1), (2, Value.int x2), (3, Value.int x3), (4, Value.int x4), (5, Value.int x5), (6, Value.int x7), (7, Value.int x10), (8, Value.int x21), (9, Value.int x21)]) dX11_findWay_86 (by decide) rfl ?_
              refine g_lv [0, 1, 2, 3, 4, 5, 6, 7, 9] (lv' := [(0, Value.ref (a 0)), (1, Value.int x1), (2, Value.int x2), (3, Value.int x3), (4, Value.int x4), (5, Value.int x5), (6, Value.int x7), (7, Value.int x10), (9, Value.int x21)]) rfl ?_
              refine g_lq1 (pc := 88) (lf := fun x24 => [((0 : Nat), Value.ref (a 0)), ((1 : Nat), Value.int x1), ((2 : Nat), Value.int x2), ((3 : Nat), Value.int x3), ((4 : Nat), Value.int x4), ((5 : Nat), Value.int x5), ((6 : Nat), Value.int x7), ((7 : Nat), Value.int x10), ((9 : Nat), Value.int x24)]) (sf := fun x24 => ([] : List Value)) (fun k23 hk23 s25 x24 => ?_) 100000 s22 _
              show G _ Γ _ _ _ _ _ _ s25 [((0 : Nat), Value.ref (a 0)), ((1 : Nat), Value.int x1), ((2 : Nat), Value.int x2), ((3 : Nat), Value.int x3), ((4 : Nat), Value.int x4), ((5 : Nat), Value.int x5), ((6 : Nat), Value.int x7), ((7 : Nat), Value.int x10), ((9 : Nat), Value.int x24)] 88 ([] : List Value)
              refine g_iload (pc := 88) 8 dX11_findWay_88 rfl ?_
              refine g_bipush (pc := 90) (v := 10) dX11_findWay_90 (by decide) ?_
              refine g_aload_n (pc := 92) 0 dX11_findWay_92 rfl rfl ?_
              refine g_get (pc := 93) 0 cM_0 rfl inlX11 2 (by decide) bw_15_14 rfl dX11_findWay_93 ?_
              refine g_imul (pc := 96) dX11_findWay_96 ?_
              refine g_icmp_ge (pc := 97) (tgt := 151) dX11_findWay_97 (by decide) ?_ ?_
              · exact g_lv [0, 1, 2, 3, 4, 5, 6, 7] rfl (hk12 s25)
              · refine g_jq0 (pc2 := 145) (lf := [((0 : Nat), Value.ref (a 0)), ((1 : Nat), Value.int x1), ((2 : Nat), Value.int x2), ((3 : Nat), Value.int x3), ((4 : Nat), Value.int x4), ((5 : Nat), Value.int x5), ((6 : Nat), Value.int x7), ((7 : Nat), Value.int x10), ((9 : Nat), Value.int x24)]) (sf := ([] : List Value)) (fun s27 => ?_) (fun k26 hk26 => ?_)
                · show G _ Γ _ _ _ _ _ _ s27 [((0 : Nat), Value.ref (a 0)), ((1 : Nat), Value.int x1), ((2 : Nat), Value.int x2), ((3 : Nat), Value.int x3), ((4 : Nat), Value.int x4), ((5 : Nat), Value.int x5), ((6 : Nat), Value.int x7), ((7 : Nat), Value.int x10), ((9 : Nat), Value.int x24)] 145 ([] : List Value)
                  refine g_iinc (pc := 145) [1, 2, 3, 4, 5, 6, 7, 8, 0] 8 (n1 := 1) (lv1 := fun x28 => [(0, Value.ref (a 0)), (1, Value.int x1), (2, Value.int x2), (3, Value.int x3), (4, Value.int x4), (5, Value.int x5), (6, Value.int x7), (7, Value.int x10), (9, Value.int x28)]) dX11_findWay_145 rfl (by decide) (by decide) (fun _ => rfl) (fun x28 => ?_)
                  show G _ Γ _ _ _ _ _ _ _ [(0, Value.ref (a 0)), (1, Value.int x1), (2, Value.int x2), (3, Value.int x3), (4, Value.int x4), (5, Value.int x5), (6, Value.int x7), (7, Value.int x10), (9, Value.int x28)] (145 + 3) _
                  refine g_goto (pc := 148) (tgt := 88) dX11_findWay_148 (by decide) ?_
                  exact hk23 s27 _
                · refine g_jq0 (pc2 := 115) (lf := [((0 : Nat), Value.ref (a 0)), ((1 : Nat), Value.int x1), ((2 : Nat), Value.int x2), ((3 : Nat), Value.int x3), ((4 : Nat), Value.int x4), ((5 : Nat), Value.int x5), ((6 : Nat), Value.int x7), ((7 : Nat), Value.int x10), ((9 : Nat), Value.int x24)]) (sf := ([] : List Value)) (fun s30 => ?_) (fun k29 hk29 => ?_)
                  · show G _ Γ _ _ _ _ _ _ s30 [((0 : Nat), Value.ref (a 0)), ((1 : Nat), Value.int x1), ((2 : Nat), Value.int x2), ((3 : Nat), Value.int x3), ((4 : Nat), Value.int x4), ((5 : Nat), Value.int x5), ((6 : Nat), Value.int x7), ((7 : Nat), Value.int x10), ((9 : Nat), Value.int x24)] 115 ([] : List Value)
                    refine g_jq1 (pc2 := 127) (lf := fun x32 => [((0 : Nat), Value.ref (a 0)), ((1 : Nat), Value.int x1), ((2 : Nat), Value.int x2), ((3 : Nat), Value.int x3), ((4 : Nat), Value.int x4), ((5 : Nat), Value.int x5), ((6 : Nat), Value.int x7), ((7 : Nat), Value.int x10), ((9 : Nat), Value.int x24)]) (sf := fun x32 => [Value.int x32, Value.ref (a 0)]) (fun s33 x32 => ?_) (fun k31 hk31 => ?_)
                    · show G _ Γ _ _ _ _ _ _ s33 [((0 : Nat), Value.ref (a 0)), ((1 : Nat), Value.int x1), ((2 : Nat), Value.int x2), ((3 : Nat), Value.int x3), ((4 : Nat), Value.int x4), ((5 : Nat), Value.int x5), ((6 : Nat), Value.int x7), ((7 : Nat), Value.int x10), ((9 : Nat), Value.int x24)] 127 [Value.int x32, Value.ref (a 0)]
                      refine g_put (pc := 127) 0 (ty := .int) cM_0 rfl inlX11 tyX11_ok nmX11 31 (by decide) bw_35_19 rfl (by decide +kernel) rfl rfl (Nat.le_of_ble_eq_true rfl) cM_f0_31 dX11_findWay_127 (fun s34 => ?_)
                      refine g_aload_n (pc := 130) 0 dX11_findWay_130 rfl rfl ?_
                      refine g_iload_n (pc := 131) 2 dX11_findWay_131 rfl rfl ?_
                      refine g_iload_n (pc := 132) 3 dX11_findWay_132 rfl rfl ?_
                      refine g_iload (pc := 133) 4 dX11_findWay_133 rfl ?_
                      refine g_iload (pc := 135) 5 dX11_findWay_135 rfl ?_
                      refine g_cVz (pc := 137) 0 (As := [Value.int x2, Value.int x3, Value.int x4, Value.int x5]) (fun r2 h2 => k_X11_isSoBy__0 hI h2) wk_X11_isSoBy wv_X11_isSoBy bw_36_0 cM_0 rfl (by decide) (by decide) rfl rfl (Nat.le_of_ble_eq_true rfl) dX11_findWay_137 (fun r35 s36 => ?_)
                      refine g_if_eq (pc := 140) (tgt := 145) dX11_findWay_140 (by decide) ?_ ?_
                      · exact hk26 s36
                      · refine g_iconst (pc := 143) (v := 1) dX11_findWay_143 (by decide) ?_
                        exact g_zret1 (pc := 144) hRT (by decide) dX11_findWay_144
                    · refine g_aload_n (pc := 115) 0 dX11_findWay_115 rfl rfl ?_
                      refine g_iload_n (pc := 116) 1 dX11_findWay_116 rfl rfl ?_
                      refine g_iconst (pc := 117) (v := 2) dX11_findWay_117 (by decide) ?_
                      refine g_icmp_ge (pc := 118) (tgt := 125) dX11_findWay_118 (by decide) ?_ ?_
                      · refine g_iload (pc := 125) 8 dX11_findWay_125 rfl ?_
                        exact hk31 s30 _
                      · refine g_iconst (pc := 121) (v := -1) dX11_findWay_121 (by decide) ?_
                        refine g_goto (pc := 122) (tgt := 127) dX11_findWay_122 (by decide) ?_
                        exact hk31 s30 _
                  · refine g_iload_n (pc := 100) 1 dX11_findWay_100 rfl rfl ?_
                    refine g_iconst (pc := 101) (v := 2) dX11_findWay_101 (by decide) ?_
                    refine g_icmp_lt (pc := 102) (tgt := 115) dX11_findWay_102 (by decide) ?_ ?_
                    · exact hk29 s25
                    · refine g_iload (pc := 105) 8 dX11_findWay_105 rfl ?_
                      refine g_bipush (pc := 107) (v := 10) dX11_findWay_107 (by decide) ?_
                      refine g_irem (pc := 109) dX11_findWay_109 ?_
                      refine g_bipush (pc := 110) (v := 6) dX11_findWay_110 (by decide) ?_
                      refine g_icmp_gt (pc := 112) (tgt := 145) dX11_findWay_112 (by decide) ?_ ?_
                      · exact hk26 s25
                      · exact hk29 s25
            · refine g_put (pc := 52) 0 (ty := .int) cM_0 rfl inlX11 tyX11_ok nmX11 30 (by decide) bw_35_18 rfl (by decide +kernel) rfl rfl (Nat.le_of_ble_eq_true rfl) cM_f0_30 dX11_findWay_52 (fun s37 => ?_)
              refine g_iload_n (pc := 55) 1 dX11_findWay_55 rfl rfl ?_
              refine g_iconst (pc := 56) (v := 2) dX11_findWay_56 (by decide) ?_
              refine g_icmp_ne (pc := 57) (tgt := 73) dX11_findWay_57 (by decide) ?_ ?_
              · refine g_bipush (pc := 73) (v := 10) dX11_findWay_73 (by decide) ?_
                refine g_aload_n (pc := 75) 0 dX11_findWay_75 rfl rfl ?_
                refine g_get (pc := 76) 0 cM_0 rfl inlX11 2 (by decide) bw_15_14 rfl dX11_findWay_76 ?_
                refine g_imul (pc := 79) dX11_findWay_79 ?_
                refine g_iconst (pc := 80) (v := 1) dX11_findWay_80 (by decide) ?_
                refine g_isub (pc := 81) dX11_findWay_81 ?_
                exact hk20 s37 _
              · refine g_bipush (pc := 60) (v := 10) dX11_findWay_60 (by decide) ?_
                refine g_iload (pc := 62) 7 dX11_findWay_62 rfl ?_
                refine g_bipush (pc := 64) (v := 10) dX11_findWay_64 (by decide) ?_
                refine g_idiv (pc := 66) dX11_findWay_66 ?_
                refine g_iconst (pc := 67) (v := 1) dX11_findWay_67 (by decide) ?_
                refine g_iadd (pc := 68) dX11_findWay_68 ?_
                refine g_imul (pc := 69) dX11_findWay_69 ?_
                refine g_goto (pc := 70) (tgt := 82) dX11_findWay_70 (by decide) ?_
                exact hk20 s37 _
          · refine g_aload_n (pc := 41) 0 dX11_findWay_41 rfl rfl ?_
            refine g_iload_n (pc := 42) 1 dX11_findWay_42 rfl rfl ?_
            refine g_if_ne (pc := 43) (tgt := 50) dX11_findWay_43 (by decide) ?_ ?_
            · refine g_iload (pc := 50) 7 dX11_findWay_50 rfl ?_
              exact hk17 s16 _
            · refine g_iconst (pc := 46) (v := -1) dX11_findWay_46 (by decide) ?_
              refine g_goto (pc := 47) (tgt := 52) dX11_findWay_47 (by decide) ?_
              exact hk17 s16 _
        · refine g_iload_n (pc := 27) 1 dX11_findWay_27 rfl rfl ?_
          refine g_if_eq (pc := 28) (tgt := 41) dX11_findWay_28 (by decide) ?_ ?_
          · exact hk15 s11
          · refine g_iload (pc := 31) 7 dX11_findWay_31 rfl ?_
            refine g_bipush (pc := 33) (v := 10) dX11_findWay_33 (by decide) ?_
            refine g_irem (pc := 35) dX11_findWay_35 ?_
            refine g_bipush (pc := 36) (v := 6) dX11_findWay_36 (by decide) ?_
            refine g_icmp_gt (pc := 38) (tgt := 151) dX11_findWay_38 (by decide) ?_ ?_
            · exact hk12 s11
            · exact hk15 s11
  · refine g_iload_n (pc := 0) 1 dX11_findWay_0 rfl rfl ?_
    refine g_if_ne (pc := 1) (tgt := 8) dX11_findWay_1 (by decide) ?_ ?_
    · refine g_bipush (pc := 8) (v := 10) dX11_findWay_8 (by decide) ?_
      refine g_aload_n (pc := 10) 0 dX11_findWay_10 rfl rfl ?_
      refine g_get (pc := 11) 0 cM_0 rfl inlX11 2 (by decide) bw_15_14 rfl dX11_findWay_11 ?_
      refine g_imul (pc := 14) dX11_findWay_14 ?_
      exact hk6 σ _
    · refine g_iconst (pc := 4) (v := 1) dX11_findWay_4 (by decide) ?_
      refine g_goto (pc := 5) (tgt := 15) dX11_findWay_5 (by decide) ?_
      exact hk6 σ _
set_option maxRecDepth 100000 in
set_option maxHeartbeats 4000000 in
theorem k_X11_openings__0 {l : Launch} {D : va_G} {a : Nat → Nat} {cI : ClassId} (hI : ∀ σ : St, va_D (AM a) (cM a cI σ)) {σ : St} {x1 x2 x3 x4 x5 : Int32} {r : Int32 × St} (h : f_X11_openings__0 σ x1 x2 x3 x4 x5 = some r) : Kc (SM l D a cI) yX11_openings cX11_openings 8 (some .int) 7 [Value.ref (a 0), Value.int x1, Value.int x2, Value.int x3, Value.int x4, Value.int x5] σ r := by
  refine enter (own := RX11) (o := f_X11_openings__0 σ x1 x2 x3 x4 x5) (plainFor_of_name (by decide +kernel)) rfl (Nat.le_of_ble_eq_true rfl) hI wk_X11_openings.1 h (fun Γ hRT => ?_)
  show G _ Γ _ _ _ _ _ _ σ [((0 : Nat), Value.ref (a 0)), ((1 : Nat), Value.int x1), ((2 : Nat), Value.int x2), ((3 : Nat), Value.int x3), ((4 : Nat), Value.int x4), ((5 : Nat), Value.int x5)] 0 []
  unfold f_X11_openings__0
  refine g_iconst (pc := 0) (v := 1) dX11_openings_0 (by decide) ?_
  refine g_aload_n (pc := 1) 0 dX11_openings_1 rfl rfl ?_
  refine g_get (pc := 2) 0 cM_0 rfl inlX11 2 (by decide) bw_15_14 rfl dX11_openings_2 ?_
  refine g_ishl (pc := 5) dX11_openings_5 ?_
  refine g_iconst (pc := 6) (v := 1) dX11_openings_6 (by decide) ?_
  refine g_isub (pc := 7) dX11_openings_7 ?_
  refine g_nm (fun x6 => ?_)
  refine g_istore (pc := 8) [1, 2, 3, 4, 5, 6, 0] (lv1 := [(0, Value.ref (a 0)), (1, Value.int x1), (2, Value.int x2), (3, Value.int x3), (4, Value.int x4), (5, Value.int x5), (6, Value.int x6)]) dX11_openings_8 (by decide) rfl ?_
  refine g_aload_n (pc := 10) 0 dX11_openings_10 rfl rfl ?_
  refine g_iload_n (pc := 11) 1 dX11_openings_11 rfl rfl ?_
  refine g_cVz (pc := 12) 0 (As := [Value.int x1]) (fun r2 h2 => k_X11_isNews__0 hI h2) wk_X11_isNews wv_X11_isNews bw_22_4 cM_0 rfl (by decide) (by decide) rfl rfl (Nat.le_of_ble_eq_true rfl) dX11_openings_12 (fun r7 s8 => ?_)
  refine g_if_eq (pc := 15) (tgt := 66) dX11_openings_15 (by decide) ?_ ?_
  · refine g_iconst (pc := 66) (v := -1) dX11_openings_66 (by decide) ?_
    exact g_iret (pc := 67) hRT dX11_openings_67
  · refine g_iload_n (pc := 18) 2 dX11_openings_18 rfl rfl ?_
    refine g_iconst (pc := 19) (v := 1) dX11_openings_19 (by decide) ?_
    refine g_bipush (pc := 20) (v := 12) dX11_openings_20 (by decide) ?_
    refine g_cSz (pc := 22) (As := [Value.int x2, Value.int (1 : Int32), Value.int (12 : Int32)]) (fun r2 h2 => k_X11_in hI h2) wk_X11_in ws_X11_in bw_16_9 (by decide) (by decide) rfl rfl (Nat.le_of_ble_eq_true rfl) dX11_openings_22 (fun r9 s10 => ?_)
    refine g_if_eq (pc := 25) (tgt := 66) dX11_openings_25 (by decide) ?_ ?_
    · refine g_iconst (pc := 66) (v := -1) dX11_openings_66 (by decide) ?_
      exact g_iret (pc := 67) hRT dX11_openings_67
    · refine g_iload_n (pc := 28) 3 dX11_openings_28 rfl rfl ?_
      refine g_iconst (pc := 29) (v := 0) dX11_openings_29 (by decide) ?_
      refine g_iload (pc := 30) 6 dX11_openings_30 rfl ?_
      refine g_cSz (pc := 32) (As := [Value.int x3, Value.int (0 : Int32), Value.int x6]) (fun r2 h2 => k_X11_in hI h2) wk_X11_in ws_X11_in bw_16_9 (by decide) (by decide) rfl rfl (Nat.le_of_ble_eq_true rfl) dX11_openings_32 (fun r11 s12 => ?_)
      refine g_if_eq (pc := 35) (tgt := 66) dX11_openings_35 (by decide) ?_ ?_
      · refine g_iconst (pc := 66) (v := -1) dX11_openings_66 (by decide) ?_
        exact g_iret (pc := 67) hRT dX11_openings_67
      · refine g_iload (pc := 38) 4 dX11_openings_38 rfl ?_
        refine g_iconst (pc := 40) (v := 0) dX11_openings_40 (by decide) ?_
        refine g_iload (pc := 41) 6 dX11_openings_41 rfl ?_
        refine g_cSz (pc := 43) (As := [Value.int x4, Value.int (0 : Int32), Value.int x6]) (fun r2 h2 => k_X11_in hI h2) wk_X11_in ws_X11_in bw_16_9 (by decide) (by decide) rfl rfl (Nat.le_of_ble_eq_true rfl) dX11_openings_43 (fun r13 s14 => ?_)
        refine g_if_eq (pc := 46) (tgt := 66) dX11_openings_46 (by decide) ?_ ?_
        · refine g_iconst (pc := 66) (v := -1) dX11_openings_66 (by decide) ?_
          exact g_iret (pc := 67) hRT dX11_openings_67
        · refine g_iload_n (pc := 49) 3 dX11_openings_49 rfl rfl ?_
          refine g_iload (pc := 50) 4 dX11_openings_50 rfl ?_
          refine g_iand (pc := 52) dX11_openings_52 ?_
          refine g_if_ne (pc := 53) (tgt := 66) dX11_openings_53 (by decide) ?_ ?_
          · refine g_iconst (pc := 66) (v := -1) dX11_openings_66 (by decide) ?_
            exact g_iret (pc := 67) hRT dX11_openings_67
          · refine g_iload (pc := 56) 5 dX11_openings_56 rfl ?_
            refine g_iconst (pc := 58) (v := 0) dX11_openings_58 (by decide) ?_
            refine g_iconst (pc := 59) (v := 2) dX11_openings_59 (by decide) ?_
            refine g_cSz (pc := 60) (As := [Value.int x5, Value.int (0 : Int32), Value.int (2 : Int32)]) (fun r2 h2 => k_X11_in hI h2) wk_X11_in ws_X11_in bw_16_9 (by decide) (by decide) rfl rfl (Nat.le_of_ble_eq_true rfl) dX11_openings_60 (fun r15 s16 => ?_)
            refine g_if_ne (pc := 63) (tgt := 68) dX11_openings_63 (by decide) ?_ ?_
            · refine g_iconst (pc := 68) (v := 0) dX11_openings_68 (by decide) ?_
              refine g_istore (pc := 69) [1, 2, 3, 4, 5, 6, 7, 0] (lv1 := [(0, Value.ref (a 0)), (1, Value.int x1), (2, Value.int x2), (3, Value.int x3), (4, Value.int x4), (5, Value.int x5), (6, Value.int x6), (7, Value.int (0 : Int32))]) dX11_openings_69 (by decide) rfl ?_
              refine g_lv [0, 1, 2, 3, 4, 5, 7] (lv' := [(0, Value.ref (a 0)), (1, Value.int x1), (2, Value.int x2), (3, Value.int x3), (4, Value.int x4), (5, Value.int x5), (7, Value.int (0 : Int32))]) rfl ?_
              refine g_lq1 (pc := 71) (lf := fun x18 => [((0 : Nat), Value.ref (a 0)), ((1 : Nat), Value.int x1), ((2 : Nat), Value.int x2), ((3 : Nat), Value.int x3), ((4 : Nat), Value.int x4), ((5 : Nat), Value.int x5), ((7 : Nat), Value.int x18)]) (sf := fun x18 => ([] : List Value)) (fun k17 hk17 s19 x18 => ?_) 100000 s16 _
              show G _ Γ _ _ _ _ _ _ s19 [((0 : Nat), Value.ref (a 0)), ((1 : Nat), Value.int x1), ((2 : Nat), Value.int x2), ((3 : Nat), Value.int x3), ((4 : Nat), Value.int x4), ((5 : Nat), Value.int x5), ((7 : Nat), Value.int x18)] 71 ([] : List Value)
              refine g_iload (pc := 71) 6 dX11_openings_71 rfl ?_
              refine g_iconst (pc := 73) (v := 2) dX11_openings_73 (by decide) ?_
              refine g_icmp_gt (pc := 74) (tgt := 137) dX11_openings_74 (by decide) ?_ ?_
              · refine g_bipush (pc := 137) (v := -4) dX11_openings_137 (by decide) ?_
                exact g_iret (pc := 139) hRT dX11_openings_139
              · refine g_aload_n (pc := 77) 0 dX11_openings_77 rfl rfl ?_
                refine g_iload (pc := 78) 6 dX11_openings_78 rfl ?_
                refine g_iload_n (pc := 80) 1 dX11_openings_80 rfl rfl ?_
                refine g_iload_n (pc := 81) 2 dX11_openings_81 rfl rfl ?_
                refine g_iload_n (pc := 82) 3 dX11_openings_82 rfl rfl ?_
                refine g_iload (pc := 83) 4 dX11_openings_83 rfl ?_
                refine g_cVz (pc := 85) 0 (As := [Value.int x18, Value.int x1, Value.int x2, Value.int x3, Value.int x4]) (fun r2 h2 => k_X11_findWay__0 hI h2) wk_X11_findWay wv_X11_findWay bw_35_20 cM_0 rfl (by decide) (by decide) rfl rfl (Nat.le_of_ble_eq_true rfl) dX11_openings_85 (fun r20 s21 => ?_)
                refine g_if_eq (pc := 88) (tgt := 131) dX11_openings_88 (by decide) ?_ ?_
                · refine g_iinc (pc := 131) [1, 2, 3, 4, 5, 6, 0] 6 (n1 := 1) (lv1 := fun x22 => [(0, Value.ref (a 0)), (1, Value.int x1), (2, Value.int x2), (3, Value.int x3), (4, Value.int x4), (5, Value.int x5), (7, Value.int x22)]) dX11_openings_131 rfl (by decide) (by decide) (fun _ => rfl) (fun x22 => ?_)
                  show G _ Γ _ _ _ _ _ _ _ [(0, Value.ref (a 0)), (1, Value.int x1), (2, Value.int x2), (3, Value.int x3), (4, Value.int x4), (5, Value.int x5), (7, Value.int x22)] (131 + 3) _
                  refine g_goto (pc := 134) (tgt := 71) dX11_openings_134 (by decide) ?_
                  exact hk17 s21 _
                · refine g_iload (pc := 91) 5 dX11_openings_91 rfl ?_
                  refine g_if_ne (pc := 93) (tgt := 101) dX11_openings_93 (by decide) ?_ ?_
                  · refine g_iload (pc := 101) 5 dX11_openings_101 rfl ?_
                    refine g_iload (pc := 103) 6 dX11_openings_103 rfl ?_
                    refine g_icmp_le (pc := 105) (tgt := 113) dX11_openings_105 (by decide) ?_ ?_
                    · refine g_iload (pc := 113) 5 dX11_openings_113 rfl ?_
                      refine g_iconst (pc := 115) (v := 1) dX11_openings_115 (by decide) ?_
                      refine g_icmp_ne (pc := 116) (tgt := 126) dX11_openings_116 (by decide) ?_ ?_
                      · refine g_aload_n (pc := 126) 0 dX11_openings_126 rfl rfl ?_
                        refine g_get (pc := 127) 0 cM_0 rfl inlX11 31 (by decide) bw_35_19 rfl dX11_openings_127 ?_
                        exact g_iret (pc := 130) hRT dX11_openings_130
                      · refine g_aload_n (pc := 119) 0 dX11_openings_119 rfl rfl ?_
                        refine g_get (pc := 120) 0 cM_0 rfl inlX11 30 (by decide) bw_35_18 rfl dX11_openings_120 ?_
                        refine g_goto (pc := 123) (tgt := 130) dX11_openings_123 (by decide) ?_
                        exact g_iret (pc := 130) hRT dX11_openings_130
                    · refine g_bipush (pc := 108) (v := -4) dX11_openings_108 (by decide) ?_
                      refine g_goto (pc := 110) (tgt := 130) dX11_openings_110 (by decide) ?_
                      exact g_iret (pc := 130) hRT dX11_openings_130
                  · refine g_iload (pc := 96) 6 dX11_openings_96 rfl ?_
                    refine g_goto (pc := 98) (tgt := 130) dX11_openings_98 (by decide) ?_
                    exact g_iret (pc := 130) hRT dX11_openings_130
            · refine g_iconst (pc := 66) (v := -1) dX11_openings_66 (by decide) ?_
              exact g_iret (pc := 67) hRT dX11_openings_67
set_option maxRecDepth 100000 in
set_option maxHeartbeats 4000000 in
theorem k_X11_heavy__0 {l : Launch} {D : va_G} {a : Nat → Nat} {cI : ClassId} (hI : ∀ σ : St, va_D (AM a) (cM a cI σ)) {σ : St} {x1 : Int32} {r : Int32 × St} (h : f_X11_heavy__0 σ x1 = some r) : Kc (SM l D a cI) yX11_heavy cX11_heavy 4 (some .int) 1 [Value.ref (a 0), Value.int x1] σ r := by
  refine enter (own := RX11) (o := f_X11_heavy__0 σ x1) (plainFor_of_name (by decide +kernel)) rfl (Nat.le_of_ble_eq_true rfl) hI wk_X11_heavy.1 h (fun Γ hRT => ?_)
  show G _ Γ _ _ _ _ _ _ σ [((0 : Nat), Value.ref (a 0)), ((1 : Nat), Value.int x1)] 0 []
  unfold f_X11_heavy__0
  refine g_iconst (pc := 0) (v := 0) dX11_heavy_0 (by decide) ?_
  refine g_istore_n (pc := 1) [1, 2, 0] (lv1 := [(0, Value.ref (a 0)), (1, Value.int x1), (2, Value.int (0 : Int32))]) dX11_heavy_1 rfl (by decide) rfl ?_
  refine g_iconst (pc := 2) (v := 0) dX11_heavy_2 (by decide) ?_
  refine g_istore_n (pc := 3) [1, 2, 3, 0] (lv1 := [(0, Value.ref (a 0)), (1, Value.int x1), (2, Value.int (0 : Int32)), (3, Value.int (0 : Int32))]) dX11_heavy_3 rfl (by decide) rfl ?_
  refine g_lq2 (pc := 4) (lf := fun x3 x4 => [((0 : Nat), Value.ref (a 0)), ((1 : Nat), Value.int x1), ((2 : Nat), Value.int x3), ((3 : Nat), Value.int x4)]) (sf := fun x3 x4 => ([] : List Value)) (fun k2 hk2 s5 x3 x4 => ?_) 100000 σ _ _
  show G _ Γ _ _ _ _ _ _ s5 [((0 : Nat), Value.ref (a 0)), ((1 : Nat), Value.int x1), ((2 : Nat), Value.int x3), ((3 : Nat), Value.int x4)] 4 ([] : List Value)
  refine g_iload_n (pc := 4) 3 dX11_heavy_4 rfl rfl ?_
  refine g_aload_n (pc := 5) 0 dX11_heavy_5 rfl rfl ?_
  refine g_get (pc := 6) 0 cM_0 rfl inlX11 4 (by decide) bw_15_15 rfl dX11_heavy_6 ?_
  refine g_icmp_ge (pc := 9) (tgt := 43) dX11_heavy_9 (by decide) ?_ ?_
  · refine g_iload_n (pc := 43) 2 dX11_heavy_43 rfl rfl ?_
    exact g_iret (pc := 44) hRT dX11_heavy_44
  · refine g_jq2 (pc2 := 35) (lf := fun x7 x8 => [((0 : Nat), Value.ref (a 0)), ((1 : Nat), Value.int x1), ((3 : Nat), Value.int x4)]) (sf := fun x7 x8 => [Value.int x7, Value.int x8]) (fun s9 x7 x8 => ?_) (fun k6 hk6 => ?_)
    · show G _ Γ _ _ _ _ _ _ s9 [((0 : Nat), Value.ref (a 0)), ((1 : Nat), Value.int x1), ((3 : Nat), Value.int x4)] 35 [Value.int x7, Value.int x8]
      refine g_iadd (pc := 35) dX11_heavy_35 ?_
      refine g_nm (fun x10 => ?_)
      refine g_istore_n (pc := 36) [1, 2, 0, 3] (lv1 := [(0, Value.ref (a 0)), (1, Value.int x1), (2, Value.int x10), (3, Value.int x4)]) dX11_heavy_36 rfl (by decide) rfl ?_
      refine g_iinc (pc := 37) [1, 2, 3, 0] 3 (n1 := 1) (lv1 := fun x11 => [(0, Value.ref (a 0)), (1, Value.int x1), (2, Value.int x10), (3, Value.int x11)]) dX11_heavy_37 rfl (by decide) (by decide) (fun _ => rfl) (fun x11 => ?_)
      show G _ Γ _ _ _ _ _ _ _ [(0, Value.ref (a 0)), (1, Value.int x1), (2, Value.int x10), (3, Value.int x11)] (37 + 3) _
      refine g_goto (pc := 40) (tgt := 4) dX11_heavy_40 (by decide) ?_
      exact hk2 s9 _ _
    · refine g_iload_n (pc := 12) 2 dX11_heavy_12 rfl rfl ?_
      refine g_iload_n (pc := 13) 1 dX11_heavy_13 rfl rfl ?_
      refine g_iload_n (pc := 14) 3 dX11_heavy_14 rfl rfl ?_
      refine g_cSz (pc := 15) (As := [Value.int x1, Value.int x4]) (fun r2 h2 => k_X11_has hI h2) wk_X11_has ws_X11_has bw_20_23 (by decide) (by decide) rfl rfl (Nat.le_of_ble_eq_true rfl) dX11_heavy_15 (fun r12 s13 => ?_)
      refine g_if_eq (pc := 18) (tgt := 34) dX11_heavy_18 (by decide) ?_ ?_
      · refine g_iconst (pc := 34) (v := 0) dX11_heavy_34 (by decide) ?_
        exact g_lv [0, 1, 3] rfl (hk6 s13 _ _)
      · refine g_aload_n (pc := 21) 0 dX11_heavy_21 rfl rfl ?_
        refine g_get (pc := 22) 0 cM_0 rfl inlX11 5 (by decide) bw_14_2 rfl dX11_heavy_22 ?_
        refine g_iconst (pc := 25) (v := 3) dX11_heavy_25 (by decide) ?_
        refine g_iload_n (pc := 26) 3 dX11_heavy_26 rfl rfl ?_
        refine g_imul (pc := 27) dX11_heavy_27 ?_
        refine g_iconst (pc := 28) (v := 1) dX11_heavy_28 (by decide) ?_
        refine g_iadd (pc := 29) dX11_heavy_29 ?_
        refine g_iald (pc := 30) 2 cM_2 rfl dX11_heavy_30 ?_
        refine g_goto (pc := 31) (tgt := 35) dX11_heavy_31 (by decide) ?_
        exact g_lv [0, 1, 3] rfl (hk6 s13 _ _)
set_option maxRecDepth 100000 in
set_option maxHeartbeats 4000000 in
theorem k_X11_bears__0 {l : Launch} {D : va_G} {a : Nat → Nat} {cI : ClassId} (hI : ∀ σ : St, va_D (AM a) (cM a cI σ)) {σ : St} {x1 x2 : Int32} {r : Int32 × St} (h : f_X11_bears__0 σ x1 x2 = some r) : Kc (SM l D a cI) yX11_bears cX11_bears 4 (some .int) 5 [Value.ref (a 0), Value.int x1, Value.int x2] σ r := by
  refine enter (own := RX11) (o := f_X11_bears__0 σ x1 x2) (plainFor_of_name (by decide +kernel)) rfl (Nat.le_of_ble_eq_true rfl) hI wk_X11_bears.1 h (fun Γ hRT => ?_)
  show G _ Γ _ _ _ _ _ _ σ [((0 : Nat), Value.ref (a 0)), ((1 : Nat), Value.int x1), ((2 : Nat), Value.int x2)] 0 []
  unfold f_X11_bears__0
  refine g_aload_n (pc := 0) 0 dX11_bears_0 rfl rfl ?_
  refine g_iload_n (pc := 1) 1 dX11_bears_1 rfl rfl ?_
  refine g_cVz (pc := 2) 0 (As := [Value.int x1]) (fun r2 h2 => k_X11_isHouse__0 hI h2) wk_X11_isHouse wv_X11_isHouse bw_20_10 cM_0 rfl (by decide) (by decide) rfl rfl (Nat.le_of_ble_eq_true rfl) dX11_bears_2 (fun r3 s4 => ?_)
  refine g_if_eq (pc := 5) (tgt := 18) dX11_bears_5 (by decide) ?_ ?_
  · refine g_iconst (pc := 18) (v := -1) dX11_bears_18 (by decide) ?_
    exact g_iret (pc := 19) hRT dX11_bears_19
  · refine g_iload_n (pc := 8) 2 dX11_bears_8 rfl rfl ?_
    refine g_iconst (pc := 9) (v := 0) dX11_bears_9 (by decide) ?_
    refine g_bipush (pc := 10) (v := 20) dX11_bears_10 (by decide) ?_
    refine g_cSz (pc := 12) (As := [Value.int x2, Value.int (0 : Int32), Value.int (20 : Int32)]) (fun r2 h2 => k_X11_in hI h2) wk_X11_in ws_X11_in bw_16_9 (by decide) (by decide) rfl rfl (Nat.le_of_ble_eq_true rfl) dX11_bears_12 (fun r5 s6 => ?_)
    refine g_if_ne (pc := 15) (tgt := 20) dX11_bears_15 (by decide) ?_ ?_
    · refine g_bipush (pc := 20) (v := 6) dX11_bears_20 (by decide) ?_
      refine g_istore_n (pc := 22) [1, 2, 3, 0] (lv1 := [(0, Value.ref (a 0)), (1, Value.int x1), (2, Value.int x2), (3, Value.int (6 : Int32))]) dX11_bears_22 rfl (by decide) rfl ?_
      refine g_lq1 (pc := 23) (lf := fun x8 => [((0 : Nat), Value.ref (a 0)), ((1 : Nat), Value.int x1), ((2 : Nat), Value.int x2), ((3 : Nat), Value.int x8)]) (sf := fun x8 => ([] : List Value)) (fun k7 hk7 s9 x8 => ?_) 100000 s6 _
      show G _ Γ _ _ _ _ _ _ s9 [((0 : Nat), Value.ref (a 0)), ((1 : Nat), Value.int x1), ((2 : Nat), Value.int x2), ((3 : Nat), Value.int x8)] 23 ([] : List Value)
      refine g_iload_n (pc := 23) 3 dX11_bears_23 rfl rfl ?_
      refine g_if_lt (pc := 24) (tgt := 67) dX11_bears_24 (by decide) ?_ ?_
      · refine g_bipush (pc := 67) (v := -4) dX11_bears_67 (by decide) ?_
        exact g_iret (pc := 69) hRT dX11_bears_69
      · refine g_aload_n (pc := 27) 0 dX11_bears_27 rfl rfl ?_
        refine g_cVv (pc := 28) 0 (As := []) (fun r2 h2 => k_X11_asItIs__0 hI h2) wk_X11_asItIs wv_X11_asItIs bw_20_14 cM_0 rfl (by decide) (by decide) rfl rfl (Nat.le_of_ble_eq_true rfl) dX11_bears_28 (fun r10 s11 => ?_)
        refine g_aload_n (pc := 31) 0 dX11_bears_31 rfl rfl ?_
        refine g_get (pc := 32) 0 cM_0 rfl inlX11 28 (by decide) bw_14_14 rfl dX11_bears_32 ?_
        refine g_iconst (pc := 35) (v := 1) dX11_bears_35 (by decide) ?_
        refine g_iload_n (pc := 36) 1 dX11_bears_36 rfl rfl ?_
        refine g_iadd (pc := 37) dX11_bears_37 ?_
        refine g_iload_n (pc := 38) 3 dX11_bears_38 rfl rfl ?_
        refine g_iast (pc := 39) 14 cM_14 rfl cM_s14 dX11_bears_39 (fun s12 => ?_)
        refine g_aload_n (pc := 40) 0 dX11_bears_40 rfl rfl ?_
        refine g_bipush (pc := 41) (v := 48) dX11_bears_41 (by decide) ?_
        refine g_cVv (pc := 43) 0 (As := [Value.int (48 : Int32)]) (fun r2 h2 => k_X11_goes__0 hI h2) wk_X11_goes wv_X11_goes bw_27_8 cM_0 rfl (by decide) (by decide) rfl rfl (Nat.le_of_ble_eq_true rfl) dX11_bears_43 (fun r13 s14 => ?_)
        refine g_aload_n (pc := 46) 0 dX11_bears_46 rfl rfl ?_
        refine g_aload_n (pc := 47) 0 dX11_bears_47 rfl rfl ?_
        refine g_iload_n (pc := 48) 1 dX11_bears_48 rfl rfl ?_
        refine g_cVi (pc := 49) 0 (As := [Value.int x1]) (fun r2 h2 => k_X11_known__0 hI h2) wk_X11_known wv_X11_known bw_20_19 cM_0 rfl (by decide) (by decide) rfl rfl (Nat.le_of_ble_eq_true rfl) dX11_bears_49 (fun r15 s16 => ?_)
        refine g_cVi (pc := 52) 0 (As := [Value.int r15]) (fun r2 h2 => k_X11_heavy__0 hI h2) wk_X11_heavy wv_X11_heavy bw_36_22 cM_0 rfl (by decide) (by decide) rfl rfl (Nat.le_of_ble_eq_true rfl) dX11_bears_52 (fun r17 s18 => ?_)
        refine g_iload_n (pc := 55) 2 dX11_bears_55 rfl rfl ?_
        refine g_icmp_gt (pc := 56) (tgt := 61) dX11_bears_56 (by decide) ?_ ?_
        · refine g_iinc (pc := 61) [1, 2, 3, 0] 3 (n1 := -1) (lv1 := fun x19 => [(0, Value.ref (a 0)), (1, Value.int x1), (2, Value.int x2), (3, Value.int x19)]) dX11_bears_61 rfl (by decide) (by decide) (fun _ => rfl) (fun x19 => ?_)
          show G _ Γ _ _ _ _ _ _ _ [(0, Value.ref (a 0)), (1, Value.int x1), (2, Value.int x2), (3, Value.int x19)] (61 + 3) _
          refine g_goto (pc := 64) (tgt := 23) dX11_bears_64 (by decide) ?_
          exact hk7 s18 _
        · refine g_iload_n (pc := 59) 3 dX11_bears_59 rfl rfl ?_
          exact g_iret (pc := 60) hRT dX11_bears_60
    · refine g_iconst (pc := 18) (v := -1) dX11_bears_18 (by decide) ?_
      exact g_iret (pc := 19) hRT dX11_bears_19
