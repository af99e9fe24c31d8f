theorem d8_learn_0 : zd cX8_learn 0 (.aload_n 0) 1 1 := by decide +kernel
theorem d8_learn_1 : zd cX8_learn 1 (.getfield 37) 3 4 := by decide +kernel
theorem d8_learn_4 : zd cX8_learn 4 (.iload_n 1) 1 5 := by decide +kernel
theorem d8_learn_5 : zd cX8_learn 5 (.bipush 8) 2 7 := by decide +kernel
theorem d8_learn_7 : zd cX8_learn 7 (.imul) 1 8 := by decide +kernel
theorem d8_learn_8 : zd cX8_learn 8 (.iload_n 2) 1 9 := by decide +kernel
theorem d8_learn_9 : zd cX8_learn 9 (.iadd) 1 10 := by decide +kernel
theorem d8_learn_10 : zd cX8_learn 10 (.iload_n 3) 1 11 := by decide +kernel
theorem d8_learn_11 : zd cX8_learn 11 (.iastore) 1 12 := by decide +kernel
theorem d8_learn_12 : zd cX8_learn 12 (.aload_n 0) 1 13 := by decide +kernel
theorem d8_learn_13 : zd cX8_learn 13 (.getfield 40) 3 16 := by decide +kernel
theorem d8_learn_16 : zd cX8_learn 16 (.iload_n 1) 1 17 := by decide +kernel
theorem d8_learn_17 : zd cX8_learn 17 (.bipush 8) 2 19 := by decide +kernel
theorem d8_learn_19 : zd cX8_learn 19 (.imul) 1 20 := by decide +kernel
theorem d8_learn_20 : zd cX8_learn 20 (.iload_n 2) 1 21 := by decide +kernel
theorem d8_learn_21 : zd cX8_learn 21 (.iadd) 1 22 := by decide +kernel
theorem d8_learn_22 : zd cX8_learn 22 (.iconst 0) 1 23 := by decide +kernel
theorem d8_learn_23 : zd cX8_learn 23 (.iastore) 1 24 := by decide +kernel
theorem d8_learn_24 : zd cX8_learn 24 (.return_) 1 25 := by decide +kernel
set_option maxHeartbeats 4000000 in
set_option maxRecDepth 20000 in
theorem c8_learn (l : Launch) (D : zDt) (Sh : zSh) (top : Nat) (hO : zOK Sh) (o_ : Nat) (v_bridge : Int32) (v_host : Int32) (v_place : Int32) (μ : zM) (μ_ : zM) (ho : (Sh o_).1 = 15) (h : f8_learn o_ v_bridge v_host v_place μ = some μ_) : zMet l D zK1 yX8_learn cX8_learn 4 none (zrm 0 0) [.ref o_, .int v_bridge, .int v_host, .int v_place] Sh top μ none Sh top μ_ 0 0 := by
  refine zMet_of (by decide) (Nat.le_of_ble_eq_true rfl) fun X hX1 hX2 fx fin => ?_
  subst hX1; subst hX2
  replace fx : zFix X cX8_learn RX8 (zrm 0 0) 4 := fx
  show zZ zK1 X (zT0 Sh top) μ 0 [(0, .ref o_), (1, .int v_bridge), (2, .int v_host), (3, .int v_place)] []
  unfold f8_learn at h
  refine z_aload_n fx (k := 0) (i := 0) rfl rfl d8_learn_0 ?_
  refine z_getO fx 8 5 6 ho lf8_37 fk8_5 d8_learn_1 ?_
  refine z_iload_n fx (k := 1) (i := 1) rfl rfl d8_learn_4 ?_
  refine z_bipush fx (v := 8) bp8 d8_learn_5 ?_
  refine z_imul fx d8_learn_7 ?_
  refine z_iload_n fx (k := 2) (i := 2) rfl rfl d8_learn_8 ?_
  refine z_iadd fx d8_learn_9 ?_
  refine z_iload_n fx (k := 3) (i := 3) rfl rfl d8_learn_10 ?_
  obtain ⟨μ1, e1, h⟩ := zinv h
  refine z_iast fx (ok8_5 hO ho) e1 d8_learn_11 ?_
  refine z_aload_n fx (k := 0) (i := 0) rfl rfl d8_learn_12 ?_
  refine z_getO fx 8 6 7 ho lf8_40 fk8_6 d8_learn_13 ?_
  refine z_iload_n fx (k := 1) (i := 1) rfl rfl d8_learn_16 ?_
  refine z_bipush fx (v := 8) bp8 d8_learn_17 ?_
  refine z_imul fx d8_learn_19 ?_
  refine z_iload_n fx (k := 2) (i := 2) rfl rfl d8_learn_20 ?_
  refine z_iadd fx d8_learn_21 ?_
  refine z_iconst fx (v := 0) ic0 d8_learn_22 ?_
  obtain ⟨μ2, e2, h⟩ := zinv h
  refine z_iast fx (ok8_6 hO ho) e2 d8_learn_23 ?_
  cases h
  exact z_return fx fin d8_learn_24
theorem d2_queue_0 : zd cX2_queue 0 (.aload_n 0) 1 1 := by decide +kernel
theorem d2_queue_1 : zd cX2_queue 1 (.getfield 9) 3 4 := by decide +kernel
theorem d2_queue_4 : zd cX2_queue 4 (.aload_n 0) 1 5 := by decide +kernel
theorem d2_queue_5 : zd cX2_queue 5 (.getfield 32) 3 8 := by decide +kernel
theorem d2_queue_8 : zd cX2_queue 8 (.iload_n 1) 1 9 := by decide +kernel
theorem d2_queue_9 : zd cX2_queue 9 (.iastore) 1 10 := by decide +kernel
theorem d2_queue_10 : zd cX2_queue 10 (.aload_n 0) 1 11 := by decide +kernel
theorem d2_queue_11 : zd cX2_queue 11 (.getfield 15) 3 14 := by decide +kernel
theorem d2_queue_14 : zd cX2_queue 14 (.aload_n 0) 1 15 := by decide +kernel
theorem d2_queue_15 : zd cX2_queue 15 (.getfield 32) 3 18 := by decide +kernel
theorem d2_queue_18 : zd cX2_queue 18 (.iload_n 2) 1 19 := by decide +kernel
theorem d2_queue_19 : zd cX2_queue 19 (.iastore) 1 20 := by decide +kernel
theorem d2_queue_20 : zd cX2_queue 20 (.aload_n 0) 1 21 := by decide +kernel
theorem d2_queue_21 : zd cX2_queue 21 (.dup) 1 22 := by decide +kernel
theorem d2_queue_22 : zd cX2_queue 22 (.getfield 32) 3 25 := by decide +kernel
theorem d2_queue_25 : zd cX2_queue 25 (.iconst 1) 1 26 := by decide +kernel
theorem d2_queue_26 : zd cX2_queue 26 (.iadd) 1 27 := by decide +kernel
theorem d2_queue_27 : zd cX2_queue 27 (.putfield 32) 3 30 := by decide +kernel
theorem d2_queue_30 : zd cX2_queue 30 (.return_) 1 31 := by decide +kernel
set_option maxHeartbeats 4000000 in
set_option maxRecDepth 20000 in
theorem c2_queue (l : Launch) (D : zDt) (Sh : zSh) (top : Nat) (hO : zOK Sh) (o_ : Nat) (v_bridge : Int32) (v_port : Int32) (μ : zM) (μ_ : zM) (ho : (Sh o_).1 = 9) (h : f2_queue o_ v_bridge v_port μ = some μ_) : zMet l D zK1 yX2_queue cX2_queue 3 none (zrm 0 0) [.ref o_, .int v_bridge, .int v_port] Sh top μ none Sh top μ_ 0 0 := by
  refine zMet_of (by decide) (Nat.le_of_ble_eq_true rfl) fun X hX1 hX2 fx fin => ?_
  subst hX1; subst hX2
  replace fx : zFix X cX2_queue RX2 (zrm 0 0) 3 := fx
  show zZ zK1 X (zT0 Sh top) μ 0 [(0, .ref o_), (1, .int v_bridge), (2, .int v_port)] []
  unfold f2_queue at h
  refine z_aload_n fx (k := 0) (i := 0) rfl rfl d2_queue_0 ?_
  refine z_getO fx 2 0 1 ho lf2_9 fk2_0 d2_queue_1 ?_
  refine z_aload_n fx (k := 0) (i := 0) rfl rfl d2_queue_4 ?_
  refine z_getI fx 2 2 202 ho lf2_32 ⟨fk2_2, rfl⟩ d2_queue_5 ?_
  refine z_iload_n fx (k := 1) (i := 1) rfl rfl d2_queue_8 ?_
  obtain ⟨μ1, e1, h⟩ := zinv h
  refine z_iast fx (ok2_0 hO ho) e1 d2_queue_9 ?_
  refine z_aload_n fx (k := 0) (i := 0) rfl rfl d2_queue_10 ?_
  refine z_getO fx 2 1 2 ho lf2_15 fk2_1 d2_queue_11 ?_
  refine z_aload_n fx (k := 0) (i := 0) rfl rfl d2_queue_14 ?_
  refine z_getI fx 2 2 202 ho lf2_32 ⟨fk2_2, rfl⟩ d2_queue_15 ?_
  refine z_iload_n fx (k := 2) (i := 2) rfl rfl d2_queue_18 ?_
  obtain ⟨μ2, e2, h⟩ := zinv h
  refine z_iast fx (ok2_1 hO ho) e2 d2_queue_19 ?_
  refine z_aload_n fx (k := 0) (i := 0) rfl rfl d2_queue_20 ?_
  refine z_dup fx rfl d2_queue_21 ?_
  refine z_getI fx 2 2 202 ho lf2_32 ⟨fk2_2, rfl⟩ d2_queue_22 ?_
  refine z_iconst fx (v := 1) ic1 d2_queue_25 ?_
  refine z_iadd fx d2_queue_26 ?_
  obtain ⟨μ3, e3, h⟩ := zinv h
  refine z_putI fx (ci := 2) 2 ho lf2_32 fp2_2 e3 d2_queue_27 ?_
  cases h
  exact z_return fx fin d2_queue_30
theorem d2_pass_0 : zd cX2_pass 0 (.aload_n 1) 1 1 := by decide +kernel
theorem d2_pass_1 : zd cX2_pass 1 (.getfield 84) 3 4 := by decide +kernel
theorem d2_pass_4 : zd cX2_pass 4 (.iload_n 2) 1 5 := by decide +kernel
theorem d2_pass_5 : zd cX2_pass 5 (.aaload) 1 6 := by decide +kernel
theorem d2_pass_6 : zd cX2_pass 6 (.getfield 87) 3 9 := by decide +kernel
theorem d2_pass_9 : zd cX2_pass 9 (.iconst 2) 1 10 := by decide +kernel
theorem d2_pass_10 : zj cX2_pass 10 (.if_icmp .eq 4) 4 13 14 := by decide +kernel
theorem d2_pass_13 : zd cX2_pass 13 (.return_) 1 14 := by decide +kernel
theorem d2_pass_14 : zd cX2_pass 14 (.aload_n 0) 1 15 := by decide +kernel
theorem d2_pass_15 : zd cX2_pass 15 (.getfield 26) 3 18 := by decide +kernel
theorem d2_pass_18 : zd cX2_pass 18 (.bipush 64) 2 20 := by decide +kernel
theorem d2_pass_20 : zj cX2_pass 20 (.if_icmp .ne 9) 9 23 29 := by decide +kernel
theorem d2_pass_23 : zd cX2_pass 23 (.aload_n 0) 1 24 := by decide +kernel
theorem d2_pass_24 : zd cX2_pass 24 (.iconst 1) 1 25 := by decide +kernel
theorem d2_pass_25 : zd cX2_pass 25 (.putfield 29) 3 28 := by decide +kernel
theorem d2_pass_28 : zd cX2_pass 28 (.return_) 1 29 := by decide +kernel
theorem d2_pass_29 : zd cX2_pass 29 (.aload_n 0) 1 30 := by decide +kernel
theorem d2_pass_30 : zd cX2_pass 30 (.dup) 1 31 := by decide +kernel
theorem d2_pass_31 : zd cX2_pass 31 (.getfield 26) 3 34 := by decide +kernel
theorem d2_pass_34 : zd cX2_pass 34 (.iconst 1) 1 35 := by decide +kernel
theorem d2_pass_35 : zd cX2_pass 35 (.iadd) 1 36 := by decide +kernel
theorem d2_pass_36 : zd cX2_pass 36 (.putfield 26) 3 39 := by decide +kernel
theorem d2_pass_39 : zd cX2_pass 39 (.iload_n 2) 1 40 := by decide +kernel
theorem d2_pass_40 : zd cX2_pass 40 (.iconst 1) 1 41 := by decide +kernel
theorem d2_pass_41 : zd cX2_pass 41 (.ixor) 1 42 := by decide +kernel
theorem d2_pass_42 : zd cX2_pass 42 (.istore 4) 2 44 := by decide +kernel
theorem d2_pass_44 : zd cX2_pass 44 (.aload_n 1) 1 45 := by decide +kernel
theorem d2_pass_45 : zd cX2_pass 45 (.getfield 84) 3 48 := by decide +kernel
theorem d2_pass_48 : zd cX2_pass 48 (.iload 4) 2 50 := by decide +kernel
theorem d2_pass_50 : zd cX2_pass 50 (.aaload) 1 51 := by decide +kernel
theorem d2_pass_51 : zd cX2_pass 51 (.getfield 87) 3 54 := by decide +kernel
theorem d2_pass_54 : zj cX2_pass 54 (.ifCond .ne 4) 4 57 58 := by decide +kernel
theorem d2_pass_57 : zd cX2_pass 57 (.return_) 1 58 := by decide +kernel
theorem d2_pass_58 : zd cX2_pass 58 (.aload_n 1) 1 59 := by decide +kernel
theorem d2_pass_59 : zd cX2_pass 59 (.aload_n 1) 1 60 := by decide +kernel
theorem d2_pass_60 : zd cX2_pass 60 (.getfield 68) 3 63 := by decide +kernel
theorem d2_pass_63 : zd cX2_pass 63 (.getfield 92) 3 66 := by decide +kernel
theorem d2_pass_66 : zd cX2_pass 66 (.iload 4) 2 68 := by decide +kernel
theorem d2_pass_68 : zd cX2_pass 68 (.iaload) 1 69 := by decide +kernel
theorem d2_pass_69 : zd cX2_pass 69 (.iload_n 3) 1 70 := by decide +kernel
theorem d2_pass_70 : zd cX2_pass 70 (.aload_n 1) 1 71 := by decide +kernel
theorem d2_pass_71 : zd cX2_pass 71 (.getfield 68) 3 74 := by decide +kernel
theorem d2_pass_74 : zd cX2_pass 74 (.getfield 95) 3 77 := by decide +kernel
theorem d2_pass_77 : zd cX2_pass 77 (.iload 4) 2 79 := by decide +kernel
theorem d2_pass_79 : zd cX2_pass 79 (.iaload) 1 80 := by decide +kernel
theorem d2_pass_80 : zd cX2_pass 80 (.invokevirtual 49) 3 83 := by decide +kernel
theorem d2_pass_83 : zd cX2_pass 83 (.aload_n 1) 1 84 := by decide +kernel
theorem d2_pass_84 : zd cX2_pass 84 (.getfield 84) 3 87 := by decide +kernel
theorem d2_pass_87 : zd cX2_pass 87 (.iload 4) 2 89 := by decide +kernel
theorem d2_pass_89 : zd cX2_pass 89 (.aaload) 1 90 := by decide +kernel
theorem d2_pass_90 : zd cX2_pass 90 (.getfield 87) 3 93 := by decide +kernel
theorem d2_pass_93 : zd cX2_pass 93 (.iconst 2) 1 94 := by decide +kernel
theorem d2_pass_94 : zj cX2_pass 94 (.if_icmp .ne 27) 27 97 121 := by decide +kernel
theorem d2_pass_97 : zd cX2_pass 97 (.aload_n 0) 1 98 := by decide +kernel
theorem d2_pass_98 : zd cX2_pass 98 (.aload_n 1) 1 99 := by decide +kernel
theorem d2_pass_99 : zd cX2_pass 99 (.getfield 68) 3 102 := by decide +kernel
theorem d2_pass_102 : zd cX2_pass 102 (.getfield 92) 3 105 := by decide +kernel
theorem d2_pass_105 : zd cX2_pass 105 (.iload 4) 2 107 := by decide +kernel
theorem d2_pass_107 : zd cX2_pass 107 (.iaload) 1 108 := by decide +kernel
theorem d2_pass_108 : zd cX2_pass 108 (.aload_n 1) 1 109 := by decide +kernel
theorem d2_pass_109 : zd cX2_pass 109 (.getfield 68) 3 112 := by decide +kernel
theorem d2_pass_112 : zd cX2_pass 112 (.getfield 95) 3 115 := by decide +kernel
theorem d2_pass_115 : zd cX2_pass 115 (.iload 4) 2 117 := by decide +kernel
theorem d2_pass_117 : zd cX2_pass 117 (.iaload) 1 118 := by decide +kernel
theorem d2_pass_118 : zd cX2_pass 118 (.invokevirtual 53) 3 121 := by decide +kernel
theorem d2_pass_121 : zd cX2_pass 121 (.return_) 1 122 := by decide +kernel
set_option maxHeartbeats 4000000 in
set_option maxRecDepth 20000 in
theorem c2_pass (l : Launch) (D : zDt) (Sh : zSh) (top : Nat) (hO : zOK Sh) (o_ : Nat) (v_state : Nat) (v_end : Int32) (v_from : Int32) (μ : zM) (μ_ : zM) (ho : (Sh o_).1 = 9) (h_state : (Sh v_state).1 = 15) (h : f2_pass o_ v_state v_end v_from μ = some μ_) : zMet l D zK1 yX2_pass cX2_pass 5 none (zrm 1 23) [.ref o_, .ref v_state, .int v_end, .int v_from] Sh top μ none Sh top μ_ 0 0 := by
  refine zMet_of (by decide) (Nat.le_of_ble_eq_true rfl) fun X hX1 hX2 fx fin => ?_
  subst hX1; subst hX2
  replace fx : zFix X cX2_pass RX2 (zrm 1 23) 5 := fx
  show zZ zK1 X (zT0 Sh top) μ 0 [(0, .ref o_), (1, .ref v_state), (2, .int v_end), (3, .int v_from)] []
  unfold f2_pass at h
  refine z_aload_n fx (k := 1) (i := 1) rfl rfl d2_pass_0 ?_
  refine z_getO fx 8 1 2 h_state lf2_84 fk8_1 d2_pass_1 ?_
  refine z_iload_n fx (k := 2) (i := 2) rfl rfl d2_pass_4 ?_
  obtain ⟨j1, e1, h⟩ := zinv h
  refine z_aald fx 1 (by decide) (ok8_1 hO h_state) e1 (v := .ref (v_state + 37 + 2 * j1)) rfl d2_pass_5 ?_
  refine z_getI fx 4 6 406 (okA1 hO (ok8_1 hO h_state) (rI_lt e1)) lf2_87 ⟨fk4_6, rfl⟩ d2_pass_6 ?_
  refine z_iconst fx (v := 2) ic2 d2_pass_9 ?_
  refine z_icmp_eq fx d2_pass_10 (fun c2 => ?_) (fun c2 => ?_)
  · replace h := zif_t c2 h
    refine z_aload_n fx (k := 0) (i := 0) rfl rfl d2_pass_14 ?_
    refine z_getI fx 2 5 205 ho lf2_26 ⟨fk2_5, rfl⟩ d2_pass_15 ?_
    refine z_bipush fx (v := 64) bp64 d2_pass_18 ?_
    refine z_icmp_ne fx d2_pass_20 (fun c3 => ?_) (fun c3 => ?_)
    · replace h := zif_f c3 h
      refine z_aload_n fx (k := 0) (i := 0) rfl rfl d2_pass_29 ?_
      refine z_dup fx rfl d2_pass_30 ?_
      refine z_getI fx 2 5 205 ho lf2_26 ⟨fk2_5, rfl⟩ d2_pass_31 ?_
      refine z_iconst fx (v := 1) ic1 d2_pass_34 ?_
      refine z_iadd fx d2_pass_35 ?_
      obtain ⟨μ2, e4, h⟩ := zinv h
      refine z_putI fx (ci := 2) 5 ho lf2_26 fp2_5 e4 d2_pass_36 ?_
      refine z_iload_n fx (k := 2) (i := 2) rfl rfl d2_pass_39 ?_
      refine z_iconst fx (v := 1) ic1 d2_pass_40 ?_
      refine z_ixor fx d2_pass_41 ?_
      obtain ⟨v_far_3, e5, h⟩ := zinv h
      replace e5 := Option.some.inj e5
      refine z_top (congrArg Value.int e5) ?_
      refine z_istore fx (i := 4) rfl (lv' := [(0, .ref o_), (1, .ref v_state), (2, .int v_end), (3, .int v_from), (4, .int v_far_3)]) rfl rfl d2_pass_42 ?_
      refine z_aload_n fx (k := 1) (i := 1) rfl rfl d2_pass_44 ?_
      refine z_getO fx 8 1 2 h_state lf2_84 fk8_1 d2_pass_45 ?_
      refine z_iload fx (i := 4) rfl d2_pass_48 ?_
      obtain ⟨j4, e6, h⟩ := zinv h
      refine z_aald fx 1 (by decide) (ok8_1 hO h_state) e6 (v := .ref (v_state + 37 + 2 * j4)) rfl d2_pass_50 ?_
      refine z_getI fx 4 6 406 (okA1 hO (ok8_1 hO h_state) (rI_lt e6)) lf2_87 ⟨fk4_6, rfl⟩ d2_pass_51 ?_
      refine z_if_ne fx d2_pass_54 (fun c7 => ?_) (fun c7 => ?_)
      · replace h := zif_f c7 h
        refine z_aload_n fx (k := 1) (i := 1) rfl rfl d2_pass_58 ?_
        refine z_aload_n fx (k := 1) (i := 1) rfl rfl d2_pass_59 ?_
        obtain ⟨w5, e8, h⟩ := zinv h
        refine z_getR fx 8 12 812 17 h_state lf2_68 ⟨fk8_12, rfl⟩ e8 d2_pass_60 (fun tw5 => ?_)
        refine z_getO fx 10 6 7 tw5 lf2_92 fk10_6 d2_pass_63 ?_
        refine z_iload fx (i := 4) rfl d2_pass_66 ?_
        obtain ⟨t6, e9, h⟩ := zinv h
        refine z_iald fx (ok10_6 hO tw5) e9 d2_pass_68 ?_
        refine z_iload_n fx (k := 3) (i := 3) rfl rfl d2_pass_69 ?_
        refine z_aload_n fx (k := 1) (i := 1) rfl rfl d2_pass_70 ?_
        obtain ⟨w7, e10, h⟩ := zinv h
        refine z_getR fx 8 12 812 17 h_state lf2_68 ⟨fk8_12, rfl⟩ e10 d2_pass_71 (fun tw7 => ?_)
        refine z_getO fx 10 7 8 tw7 lf2_95 fk10_7 d2_pass_74 ?_
        refine z_iload fx (i := 4) rfl d2_pass_77 ?_
        obtain ⟨t8, e11, h⟩ := zinv h
        refine z_iald fx (ok10_7 hO tw7) e11 d2_pass_79 ?_
        obtain ⟨μ9, e12, h⟩ := zinv h
        refine z_cVv fx (c8_learn (zLo X) (zDo X) Sh top hO v_state t6 v_from t8 μ2 _ h_state e12) mv8_learn ml2_49 h_state rfl rfl rfl rfl d2_pass_80 ?_
        refine z_aload_n fx (k := 1) (i := 1) rfl rfl d2_pass_83 ?_
        refine z_getO fx 8 1 2 h_state lf2_84 fk8_1 d2_pass_84 ?_
        refine z_iload fx (i := 4) rfl d2_pass_87 ?_
        obtain ⟨j10, e13, h⟩ := zinv h
        refine z_aald fx 1 (by decide) (ok8_1 hO h_state) e13 (v := .ref (v_state + 37 + 2 * j10)) rfl d2_pass_89 ?_
        refine z_getI fx 4 6 406 (okA1 hO (ok8_1 hO h_state) (rI_lt e13)) lf2_87 ⟨fk4_6, rfl⟩ d2_pass_90 ?_
        refine z_iconst fx (v := 2) ic2 d2_pass_93 ?_
        refine z_icmp_ne fx d2_pass_94 (fun c14 => ?_) (fun c14 => ?_)
        · replace h := zif_f c14 h
          cases h
          exact z_return fx fin d2_pass_121
        · replace h := zif_t c14 h
          refine z_aload_n fx (k := 0) (i := 0) rfl rfl d2_pass_97 ?_
          refine z_aload_n fx (k := 1) (i := 1) rfl rfl d2_pass_98 ?_
          obtain ⟨w11, e15, h⟩ := zinv h
          refine z_getR fx 8 12 812 17 h_state lf2_68 ⟨fk8_12, rfl⟩ e15 d2_pass_99 (fun tw11 => ?_)
          refine z_getO fx 10 6 7 tw11 lf2_92 fk10_6 d2_pass_102 ?_
          refine z_iload fx (i := 4) rfl d2_pass_105 ?_
          obtain ⟨t12, e16, h⟩ := zinv h
          refine z_iald fx (ok10_6 hO tw11) e16 d2_pass_107 ?_
          refine z_aload_n fx (k := 1) (i := 1) rfl rfl d2_pass_108 ?_
          obtain ⟨w13, e17, h⟩ := zinv h
          refine z_getR fx 8 12 812 17 h_state lf2_68 ⟨fk8_12, rfl⟩ e17 d2_pass_109 (fun tw13 => ?_)
          refine z_getO fx 10 7 8 tw13 lf2_95 fk10_7 d2_pass_112 ?_
          refine z_iload fx (i := 4) rfl d2_pass_115 ?_
          obtain ⟨t14, e18, h⟩ := zinv h
          refine z_iald fx (ok10_7 hO tw13) e18 d2_pass_117 ?_
          obtain ⟨μ15, e19, h⟩ := zinv h
          refine z_cVv fx (c2_queue (zLo X) (zDo X) Sh top hO o_ t12 t14 μ9 _ ho e19) mv2_queue ml2_53 ho rfl rfl rfl rfl d2_pass_118 ?_
          cases h
          exact z_return fx fin d2_pass_121
      · replace h := zif_t c7 h
        cases h
        exact z_return fx fin d2_pass_57
    · replace h := zif_t c3 h
      refine z_aload_n fx (k := 0) (i := 0) rfl rfl d2_pass_23 ?_
      refine z_iconst fx (v := 1) ic1 d2_pass_24 ?_
      refine z_top (show Value.int 1 = .int (bI true) from rfl) ?_
      obtain ⟨μ16, e20, h⟩ := zinv h
      refine z_putB fx (ci := 2) 6 ho lf2_29 fp2_6 e20 d2_pass_25 ?_
      cases h
      exact z_return fx fin d2_pass_28
  · replace h := zif_f c2 h
    cases h
    exact z_return fx fin d2_pass_13
theorem d2_reach_0 : zd cX2_reach 0 (.aload_n 1) 1 1 := by decide +kernel
theorem d2_reach_1 : zd cX2_reach 1 (.getfield 35) 3 4 := by decide +kernel
theorem d2_reach_4 : zd cX2_reach 4 (.iload_n 3) 1 5 := by decide +kernel
theorem d2_reach_5 : zd cX2_reach 5 (.iaload) 1 6 := by decide +kernel
theorem d2_reach_6 : zd cX2_reach 6 (.iload_n 2) 1 7 := by decide +kernel
theorem d2_reach_7 : zj cX2_reach 7 (.if_icmp .ne 13) 13 10 20 := by decide +kernel
theorem d2_reach_10 : zd cX2_reach 10 (.aload_n 0) 1 11 := by decide +kernel
theorem d2_reach_11 : zd cX2_reach 11 (.dup) 1 12 := by decide +kernel
theorem d2_reach_12 : zd cX2_reach 12 (.getfield 22) 3 15 := by decide +kernel
theorem d2_reach_15 : zd cX2_reach 15 (.iconst 1) 1 16 := by decide +kernel
theorem d2_reach_16 : zd cX2_reach 16 (.iadd) 1 17 := by decide +kernel
theorem d2_reach_17 : zd cX2_reach 17 (.putfield 22) 3 20 := by decide +kernel
theorem d2_reach_20 : zd cX2_reach 20 (.return_) 1 21 := by decide +kernel
set_option maxHeartbeats 4000000 in
set_option maxRecDepth 20000 in
theorem c2_reach (l : Launch) (D : zDt) (Sh : zSh) (top : Nat) (hO : zOK Sh) (o_ : Nat) (v_state : Nat) (v_b : Int32) (v_to : Int32) (μ : zM) (μ_ : zM) (ho : (Sh o_).1 = 9) (h_state : (Sh v_state).1 = 15) (h : f2_reach o_ v_state v_b v_to μ = some μ_) : zMet l D zK1 yX2_reach cX2_reach 4 none (zrm 0 0) [.ref o_, .ref v_state, .int v_b, .int v_to] Sh top μ none Sh top μ_ 0 0 := by
  refine zMet_of (by decide) (Nat.le_of_ble_eq_true rfl) fun X hX1 hX2 fx fin => ?_
  subst hX1; subst hX2
  replace fx : zFix X cX2_reach RX2 (zrm 0 0) 4 := fx
  show zZ zK1 X (zT0 Sh top) μ 0 [(0, .ref o_), (1, .ref v_state), (2, .int v_b), (3, .int v_to)] []
  unfold f2_reach at h
  refine z_aload_n fx (k := 1) (i := 1) rfl rfl d2_reach_0 ?_
  refine z_getO fx 8 4 5 h_state lf2_35 fk8_4 d2_reach_1 ?_
  refine z_iload_n fx (k := 3) (i := 3) rfl rfl d2_reach_4 ?_
  obtain ⟨t1, e1, h⟩ := zinv h
  refine z_iald fx (ok8_4 hO h_state) e1 d2_reach_5 ?_
  refine z_iload_n fx (k := 2) (i := 2) rfl rfl d2_reach_6 ?_
  refine z_icmp_ne fx d2_reach_7 (fun c2 => ?_) (fun c2 => ?_)
  · replace h := zif_f c2 h
    cases h
    exact z_return fx fin d2_reach_20
  · replace h := zif_t c2 h
    refine z_aload_n fx (k := 0) (i := 0) rfl rfl d2_reach_10 ?_
    refine z_dup fx rfl d2_reach_11 ?_
    refine z_getI fx 2 4 204 ho lf2_22 ⟨fk2_4, rfl⟩ d2_reach_12 ?_
    refine z_iconst fx (v := 1) ic1 d2_reach_15 ?_
    refine z_iadd fx d2_reach_16 ?_
    obtain ⟨μ2, e3, h⟩ := zinv h
    refine z_putI fx (ci := 2) 4 ho lf2_22 fp2_4 e3 d2_reach_17 ?_
    cases h
    exact z_return fx fin d2_reach_20
theorem d2_flood_0 : zd cX2_flood 0 (.aload_n 0) 1 1 := by decide +kernel
theorem d2_flood_1 : zd cX2_flood 1 (.getfield 9) 3 4 := by decide +kernel
theorem d2_flood_4 : zd cX2_flood 4 (.iload 4) 2 6 := by decide +kernel
theorem d2_flood_6 : zd cX2_flood 6 (.iaload) 1 7 := by decide +kernel
theorem d2_flood_7 : zd cX2_flood 7 (.istore 5) 2 9 := by decide +kernel
theorem d2_flood_9 : zd cX2_flood 9 (.iconst 0) 1 10 := by decide +kernel
theorem d2_flood_10 : zd cX2_flood 10 (.istore 6) 2 12 := by decide +kernel
theorem d2_flood_12 : zd cX2_flood 12 (.iload 6) 2 14 := by decide +kernel
theorem d2_flood_14 : zd cX2_flood 14 (.aload_n 1) 1 15 := by decide +kernel
theorem d2_flood_15 : zd cX2_flood 15 (.getfield 68) 3 18 := by decide +kernel
theorem d2_flood_18 : zd cX2_flood 18 (.getfield 81) 3 21 := by decide +kernel
theorem d2_flood_21 : zd cX2_flood 21 (.iload 5) 2 23 := by decide +kernel
theorem d2_flood_23 : zd cX2_flood 23 (.iaload) 1 24 := by decide +kernel
theorem d2_flood_24 : zj cX2_flood 24 (.if_icmp .ge 45) 45 27 69 := by decide +kernel
theorem d2_flood_27 : zd cX2_flood 27 (.aload_n 0) 1 28 := by decide +kernel
theorem d2_flood_28 : zd cX2_flood 28 (.getfield 29) 3 31 := by decide +kernel
theorem d2_flood_31 : zj cX2_flood 31 (.ifCond .ne 38) 38 34 69 := by decide +kernel
theorem d2_flood_34 : zd cX2_flood 34 (.iload 6) 2 36 := by decide +kernel
theorem d2_flood_36 : zd cX2_flood 36 (.aload_n 0) 1 37 := by decide +kernel
theorem d2_flood_37 : zd cX2_flood 37 (.getfield 15) 3 40 := by decide +kernel
theorem d2_flood_40 : zd cX2_flood 40 (.iload 4) 2 42 := by decide +kernel
theorem d2_flood_42 : zd cX2_flood 42 (.iaload) 1 43 := by decide +kernel
theorem d2_flood_43 : zj cX2_flood 43 (.if_icmp .eq 20) 20 46 63 := by decide +kernel
theorem d2_flood_46 : zd cX2_flood 46 (.aload_n 0) 1 47 := by decide +kernel
theorem d2_flood_47 : zd cX2_flood 47 (.aload_n 1) 1 48 := by decide +kernel
theorem d2_flood_48 : zd cX2_flood 48 (.aload_n 1) 1 49 := by decide +kernel
theorem d2_flood_49 : zd cX2_flood 49 (.getfield 68) 3 52 := by decide +kernel
theorem d2_flood_52 : zd cX2_flood 52 (.iload 5) 2 54 := by decide +kernel
theorem d2_flood_54 : zd cX2_flood 54 (.iload 6) 2 56 := by decide +kernel
theorem d2_flood_56 : zd cX2_flood 56 (.invokevirtual 72) 3 59 := by decide +kernel
theorem d2_flood_59 : zd cX2_flood 59 (.iload_n 2) 1 60 := by decide +kernel
theorem d2_flood_60 : zd cX2_flood 60 (.invokevirtual 78) 3 63 := by decide +kernel
theorem d2_flood_63 : zd cX2_flood 63 (.iinc 6 1) 3 66 := by decide +kernel
theorem d2_flood_66 : zj cX2_flood 66 (.goto (-54)) (-54) 69 12 := by decide +kernel
theorem d2_flood_69 : zd cX2_flood 69 (.aload_n 0) 1 70 := by decide +kernel
theorem d2_flood_70 : zd cX2_flood 70 (.getfield 29) 3 73 := by decide +kernel
theorem d2_flood_73 : zj cX2_flood 73 (.ifCond .ne 11) 11 76 84 := by decide +kernel
theorem d2_flood_76 : zd cX2_flood 76 (.aload_n 0) 1 77 := by decide +kernel
theorem d2_flood_77 : zd cX2_flood 77 (.aload_n 1) 1 78 := by decide +kernel
theorem d2_flood_78 : zd cX2_flood 78 (.iload 5) 2 80 := by decide +kernel
theorem d2_flood_80 : zd cX2_flood 80 (.iload_n 3) 1 81 := by decide +kernel
theorem d2_flood_81 : zd cX2_flood 81 (.invokevirtual 64) 3 84 := by decide +kernel
theorem d2_flood_84 : zd cX2_flood 84 (.return_) 1 85 := by decide +kernel
set_option maxHeartbeats 4000000 in
set_option maxRecDepth 20000 in
theorem c2_flood (l : Launch) (D : zDt) (Sh : zSh) (top : Nat) (hO : zOK Sh) (o_ : Nat) (v_state : Nat) (v_from : Int32) (v_to : Int32) (v_k : Int32) (μ : zM) (μ_ : zM) (ho : (Sh o_).1 = 9) (h_state : (Sh v_state).1 = 15) (h : f2_flood o_ v_state v_from v_to v_k μ = some μ_) : zMet l D zK1 yX2_flood cX2_flood 7 none (zrm 2 47) [.ref o_, .ref v_state, .int v_from, .int v_to, .int v_k] Sh top μ none Sh top μ_ 0 0 := by
  refine zMet_of (by decide) (Nat.le_of_ble_eq_true rfl) fun X hX1 hX2 fx fin => ?_
  subst hX1; subst hX2
  replace fx : zFix X cX2_flood RX2 (zrm 2 47) 7 := fx
  show zZ zK1 X (zT0 Sh top) μ 0 [(0, .ref o_), (1, .ref v_state), (2, .int v_from), (3, .int v_to), (4, .int v_k)] []
  unfold f2_flood at h
  refine z_aload_n fx (k := 0) (i := 0) rfl rfl d2_flood_0 ?_
  refine z_getO fx 2 0 1 ho lf2_9 fk2_0 d2_flood_1 ?_
  refine z_iload fx (i := 4) rfl d2_flood_4 ?_
  obtain ⟨t1, e1, h⟩ := zinv h
  refine z_iald fx (ok2_0 hO ho) e1 d2_flood_6 ?_
  refine z_istore fx (i := 5) rfl (lv' := [(0, .ref o_), (1, .ref v_state), (2, .int v_from), (3, .int v_to), (4, .int v_k), (5, .int t1)]) rfl rfl d2_flood_7 ?_
  refine z_iconst fx (v := 0) ic0 d2_flood_9 ?_
  refine z_istore fx (i := 6) rfl (lv' := [(0, .ref o_), (1, .ref v_state), (2, .int v_from), (3, .int v_to), (4, .int v_k), (5, .int t1), (6, .int 0)]) rfl rfl d2_flood_10 ?_
  obtain ⟨v_p_4, μ5, e24, h⟩ := zinv2 h
  have kx5 : zZ zK1 X (zT0 Sh top) μ5 69 [(0, .ref o_), (1, .ref v_state), (2, .int v_from), (3, .int v_to), (4, .int v_k), (5, .int t1), (6, .int v_p_4)] [] := by
    refine z_take 6 (lv' := [(0, .ref o_), (1, .ref v_state), (2, .int v_from), (3, .int v_to), (4, .int v_k), (5, .int t1)]) rfl ?_
    refine z_aload_n fx (k := 0) (i := 0) rfl rfl d2_flood_69 ?_
    refine z_getB fx 2 6 206 ho lf2_29 ⟨fk2_6, rfl⟩ d2_flood_70 ?_
    refine z_ifb_ne fx d2_flood_73 (fun c22 => ?_) (fun c22 => ?_)
    · replace h := zif_t c22 h
      cases h
      exact z_return fx fin d2_flood_84
    · replace h := zif_f c22 h
      refine z_aload_n fx (k := 0) (i := 0) rfl rfl d2_flood_76 ?_
      refine z_aload_n fx (k := 1) (i := 1) rfl rfl d2_flood_77 ?_
      refine z_iload fx (i := 5) rfl d2_flood_78 ?_
      refine z_iload_n fx (k := 3) (i := 3) rfl rfl d2_flood_80 ?_
      obtain ⟨μ16, e23, h⟩ := zinv h
      refine z_cVv fx (c2_reach (zLo X) (zDo X) Sh top hO o_ v_state t1 v_to μ5 _ ho h_state e23) mv2_reach ml2_64 ho rfl rfl rfl rfl d2_flood_81 ?_
      cases h
      exact z_return fx fin d2_flood_84
  clear h
  have klr4 : ∀ (n : Nat) (v_p_2 : Int32) (μ3 : zM), zloop (fun s => f2_flood_L1 o_ v_state v_from v_k t1 s.1 s.2) n (v_p_2, μ3) = some (v_p_4, μ5) → zZ zK1 X (zT0 Sh top) μ3 12 [(0, .ref o_), (1, .ref v_state), (2, .int v_from), (3, .int v_to), (4, .int v_k), (5, .int t1), (6, .int v_p_2)] [] := by
    intro n
    induction n with
    | zero => intro v_p_2 μ3 hl3; cases hl3
    | succ n ih6 =>
      intro v_p_2 μ3 hl3
      obtain ⟨y, e2, hl3⟩ := zloop_inv hl3
      replace e2 : f2_flood_L1 o_ v_state v_from v_k t1 v_p_2 μ3 = some y := e2
      unfold f2_flood_L1 at e2
      obtain ⟨b6, e8, e2⟩ := zinv e2
      have kt7 : b6 = true → zZ zK1 X (zT0 Sh top) μ3 34 [(0, .ref o_), (1, .ref v_state), (2, .int v_from), (3, .int v_to), (4, .int v_k), (5, .int t1), (6, .int v_p_2)] [] := by
        intro hc
        replace e2 := zif_t hc e2
        refine z_iload fx (i := 6) rfl d2_flood_34 ?_
        refine z_aload_n fx (k := 0) (i := 0) rfl rfl d2_flood_36 ?_
        refine z_getO fx 2 1 2 ho lf2_15 fk2_1 d2_flood_37 ?_
        refine z_iload fx (i := 4) rfl d2_flood_40 ?_
        obtain ⟨t7, e9, e2⟩ := zinv e2
        refine z_iald fx (ok2_1 hO ho) e9 d2_flood_42 ?_
        refine z_icmp_eq fx d2_flood_43 (fun c10 => ?_) (fun c10 => ?_)
        · replace e2 := zif_t c10 e2
          obtain ⟨v_p_8, e11, e2⟩ := zinv e2
          replace e11 := Option.some.inj e11
          refine z_iinc fx (i := 6) (x := v_p_2) (v := v_p_8) rfl (by rw [in1]; exact e11) rfl (lv' := [(0, .ref o_), (1, .ref v_state), (2, .int v_from), (3, .int v_to), (4, .int v_k), (5, .int t1), (6, .int v_p_8)]) rfl rfl d2_flood_63 ?_
          cases e2
          refine z_goto fx d2_flood_66 ?_
          exact ih6 _ _ hl3
        · replace e2 := zif_f c10 e2
          refine z_aload_n fx (k := 0) (i := 0) rfl rfl d2_flood_46 ?_
          refine z_aload_n fx (k := 1) (i := 1) rfl rfl d2_flood_47 ?_
          refine z_aload_n fx (k := 1) (i := 1) rfl rfl d2_flood_48 ?_
          obtain ⟨w9, e12, e2⟩ := zinv e2
          refine z_getR fx 8 12 812 17 h_state lf2_68 ⟨fk8_12, rfl⟩ e12 d2_flood_49 (fun tw9 => ?_)
          refine z_iload fx (i := 5) rfl d2_flood_52 ?_
          refine z_iload fx (i := 6) rfl d2_flood_54 ?_
          obtain ⟨t10, e13, e2⟩ := zinv e2
          refine z_cVr fx (c10_endOf (zLo X) (zDo X) Sh top hO w9 t1 v_p_2 μ3 _ tw9 e13) mv10_endOf ml2_72 tw9 rfl rfl rfl rfl d2_flood_56 ?_
          refine z_iload_n fx (k := 2) (i := 2) rfl rfl d2_flood_59 ?_
          obtain ⟨μ11, e14, e2⟩ := zinv e2
          refine z_cVv fx (c2_pass (zLo X) (zDo X) Sh top hO o_ v_state t10 v_from μ3 _ ho h_state e14) mv2_pass ml2_78 ho rfl rfl rfl rfl d2_flood_60 ?_
          obtain ⟨v_p_12, e15, e2⟩ := zinv e2
          replace e15 := Option.some.inj e15
          refine z_iinc fx (i := 6) (x := v_p_2) (v := v_p_12) rfl (by rw [in1]; exact e15) rfl (lv' := [(0, .ref o_), (1, .ref v_state), (2, .int v_from), (3, .int v_to), (4, .int v_k), (5, .int t1), (6, .int v_p_12)]) rfl rfl d2_flood_63 ?_
          cases e2
          refine z_goto fx d2_flood_66 ?_
          exact ih6 _ _ hl3
      have kf7 : b6 = false → zZ zK1 X (zT0 Sh top) μ3 69 [(0, .ref o_), (1, .ref v_state), (2, .int v_from), (3, .int v_to), (4, .int v_k), (5, .int t1), (6, .int v_p_2)] [] := by
        intro hc
        replace e2 := zif_f hc e2
        cases e2
        cases hl3
        exact kx5
      clear e2
      obtain ⟨b13, e16, e8⟩ := zinv e8
      have kt17 : b13 = true → zZ zK1 X (zT0 Sh top) μ3 27 [(0, .ref o_), (1, .ref v_state), (2, .int v_from), (3, .int v_to), (4, .int v_k), (5, .int t1), (6, .int v_p_2)] [] := by
        intro hc
        replace e8 := zif_t hc e8
        refine z_aload_n fx (k := 0) (i := 0) rfl rfl d2_flood_27 ?_
        refine z_getB fx 2 6 206 ho lf2_29 ⟨fk2_6, rfl⟩ d2_flood_28 ?_
        cases e8
        refine z_ifb_ne fx d2_flood_31 (fun c18 => ?_) (fun c18 => ?_)
        · exact kf7 (by rw [c18]; rfl)
        · exact kt7 (by rw [c18]; rfl)
      have kf17 : b13 = false → zZ zK1 X (zT0 Sh top) μ3 69 [(0, .ref o_), (1, .ref v_state), (2, .int v_from), (3, .int v_to), (4, .int v_k), (5, .int t1), (6, .int v_p_2)] [] := by
        intro hc
        replace e8 := zif_f hc e8
        cases e8
        exact kf7 rfl
      clear e8
      refine z_iload fx (i := 6) rfl d2_flood_12 ?_
      refine z_aload_n fx (k := 1) (i := 1) rfl rfl d2_flood_14 ?_
      obtain ⟨w14, e19, e16⟩ := zinv e16
      refine z_getR fx 8 12 812 17 h_state lf2_68 ⟨fk8_12, rfl⟩ e19 d2_flood_15 (fun tw14 => ?_)
      refine z_getO fx 10 4 5 tw14 lf2_81 fk10_4 d2_flood_18 ?_
      refine z_iload fx (i := 5) rfl d2_flood_21 ?_
      obtain ⟨t15, e20, e16⟩ := zinv e16
      refine z_iald fx (ok10_4 hO tw14) e20 d2_flood_23 ?_
      cases e16
      refine z_icmp_ge fx d2_flood_24 (fun c21 => ?_) (fun c21 => ?_)
      · exact kf17 c21
      · exact kt17 c21
  exact klr4 _ _ _ e24
theorem d2_carry_0 : zd cX2_carry 0 (.aload_n 0) 1 1 := by decide +kernel
theorem d2_carry_1 : zd cX2_carry 1 (.iconst 1) 1 2 := by decide +kernel
theorem d2_carry_2 : zd cX2_carry 2 (.putfield 18) 3 5 := by decide +kernel
theorem d2_carry_5 : zd cX2_carry 5 (.aload_n 0) 1 6 := by decide +kernel
theorem d2_carry_6 : zd cX2_carry 6 (.iconst 0) 1 7 := by decide +kernel
theorem d2_carry_7 : zd cX2_carry 7 (.putfield 22) 3 10 := by decide +kernel
theorem d2_carry_10 : zd cX2_carry 10 (.aload_n 0) 1 11 := by decide +kernel
theorem d2_carry_11 : zd cX2_carry 11 (.iconst 0) 1 12 := by decide +kernel
theorem d2_carry_12 : zd cX2_carry 12 (.putfield 26) 3 15 := by decide +kernel
theorem d2_carry_15 : zd cX2_carry 15 (.aload_n 0) 1 16 := by decide +kernel
theorem d2_carry_16 : zd cX2_carry 16 (.iconst 0) 1 17 := by decide +kernel
theorem d2_carry_17 : zd cX2_carry 17 (.putfield 29) 3 20 := by decide +kernel
theorem d2_carry_20 : zd cX2_carry 20 (.aload_n 0) 1 21 := by decide +kernel
theorem d2_carry_21 : zd cX2_carry 21 (.iconst 0) 1 22 := by decide +kernel
theorem d2_carry_22 : zd cX2_carry 22 (.putfield 32) 3 25 := by decide +kernel
theorem d2_carry_25 : zd cX2_carry 25 (.aload_n 1) 1 26 := by decide +kernel
theorem d2_carry_26 : zd cX2_carry 26 (.getfield 35) 3 29 := by decide +kernel
theorem d2_carry_29 : zd cX2_carry 29 (.iload_n 2) 1 30 := by decide +kernel
theorem d2_carry_30 : zd cX2_carry 30 (.iaload) 1 31 := by decide +kernel
theorem d2_carry_31 : zd cX2_carry 31 (.istore 4) 2 33 := by decide +kernel
theorem d2_carry_33 : zd cX2_carry 33 (.aload_n 1) 1 34 := by decide +kernel
theorem d2_carry_34 : zd cX2_carry 34 (.getfield 40) 3 37 := by decide +kernel
theorem d2_carry_37 : zd cX2_carry 37 (.iload 4) 2 39 := by decide +kernel
theorem d2_carry_39 : zd cX2_carry 39 (.aaload) 1 40 := by decide +kernel
theorem d2_carry_40 : zd cX2_carry 40 (.getfield 44) 3 43 := by decide +kernel
theorem d2_carry_43 : zj cX2_carry 43 (.ifCond .ne 4) 4 46 47 := by decide +kernel
theorem d2_carry_46 : zd cX2_carry 46 (.return_) 1 47 := by decide +kernel
theorem d2_carry_47 : zd cX2_carry 47 (.aload_n 1) 1 48 := by decide +kernel
theorem d2_carry_48 : zd cX2_carry 48 (.iload 4) 2 50 := by decide +kernel
theorem d2_carry_50 : zd cX2_carry 50 (.iload_n 2) 1 51 := by decide +kernel
theorem d2_carry_51 : zd cX2_carry 51 (.bipush 6) 2 53 := by decide +kernel
theorem d2_carry_53 : zd cX2_carry 53 (.invokevirtual 49) 3 56 := by decide +kernel
theorem d2_carry_56 : zd cX2_carry 56 (.aload_n 0) 1 57 := by decide +kernel
theorem d2_carry_57 : zd cX2_carry 57 (.iload 4) 2 59 := by decide +kernel
theorem d2_carry_59 : zd cX2_carry 59 (.iconst (-1)) 1 60 := by decide +kernel
theorem d2_carry_60 : zd cX2_carry 60 (.invokevirtual 53) 3 63 := by decide +kernel
theorem d2_carry_63 : zd cX2_carry 63 (.iconst 0) 1 64 := by decide +kernel
theorem d2_carry_64 : zd cX2_carry 64 (.istore 5) 2 66 := by decide +kernel
theorem d2_carry_66 : zd cX2_carry 66 (.iload 5) 2 68 := by decide +kernel
theorem d2_carry_68 : zd cX2_carry 68 (.aload_n 0) 1 69 := by decide +kernel
theorem d2_carry_69 : zd cX2_carry 69 (.getfield 32) 3 72 := by decide +kernel
theorem d2_carry_72 : zj cX2_carry 72 (.if_icmp .ge 111) 111 75 183 := by decide +kernel
theorem d2_carry_75 : zd cX2_carry 75 (.iload 5) 2 77 := by decide +kernel
theorem d2_carry_77 : zd cX2_carry 77 (.bipush 64) 2 79 := by decide +kernel
theorem d2_carry_79 : zj cX2_carry 79 (.if_icmp .gt 104) 104 82 183 := by decide +kernel
theorem d2_carry_82 : zd cX2_carry 82 (.aload_n 0) 1 83 := by decide +kernel
theorem d2_carry_83 : zd cX2_carry 83 (.getfield 29) 3 86 := by decide +kernel
theorem d2_carry_86 : zj cX2_carry 86 (.ifCond .ne 97) 97 89 183 := by decide +kernel
theorem d2_carry_89 : zd cX2_carry 89 (.aload_n 0) 1 90 := by decide +kernel
theorem d2_carry_90 : zd cX2_carry 90 (.getfield 9) 3 93 := by decide +kernel
theorem d2_carry_93 : zd cX2_carry 93 (.iload 5) 2 95 := by decide +kernel
theorem d2_carry_95 : zd cX2_carry 95 (.iaload) 1 96 := by decide +kernel
theorem d2_carry_96 : zd cX2_carry 96 (.istore 6) 2 98 := by decide +kernel
theorem d2_carry_98 : zd cX2_carry 98 (.aload_n 1) 1 99 := by decide +kernel
theorem d2_carry_99 : zd cX2_carry 99 (.getfield 57) 3 102 := by decide +kernel
theorem d2_carry_102 : zd cX2_carry 102 (.iload 6) 2 104 := by decide +kernel
theorem d2_carry_104 : zd cX2_carry 104 (.bipush 8) 2 106 := by decide +kernel
theorem d2_carry_106 : zd cX2_carry 106 (.imul) 1 107 := by decide +kernel
theorem d2_carry_107 : zd cX2_carry 107 (.iload_n 3) 1 108 := by decide +kernel
theorem d2_carry_108 : zd cX2_carry 108 (.iadd) 1 109 := by decide +kernel
theorem d2_carry_109 : zd cX2_carry 109 (.iaload) 1 110 := by decide +kernel
theorem d2_carry_110 : zd cX2_carry 110 (.istore 7) 2 112 := by decide +kernel
theorem d2_carry_112 : zd cX2_carry 112 (.iload 7) 2 114 := by decide +kernel
theorem d2_carry_114 : zd cX2_carry 114 (.iconst (-1)) 1 115 := by decide +kernel
theorem d2_carry_115 : zj cX2_carry 115 (.if_icmp .ne 15) 15 118 130 := by decide +kernel
theorem d2_carry_118 : zd cX2_carry 118 (.aload_n 0) 1 119 := by decide +kernel
theorem d2_carry_119 : zd cX2_carry 119 (.aload_n 1) 1 120 := by decide +kernel
theorem d2_carry_120 : zd cX2_carry 120 (.iload_n 2) 1 121 := by decide +kernel
theorem d2_carry_121 : zd cX2_carry 121 (.iload_n 3) 1 122 := by decide +kernel
theorem d2_carry_122 : zd cX2_carry 122 (.iload 5) 2 124 := by decide +kernel
theorem d2_carry_124 : zd cX2_carry 124 (.invokevirtual 60) 3 127 := by decide +kernel
theorem d2_carry_127 : zj cX2_carry 127 (.goto 50) 50 130 177 := by decide +kernel
theorem d2_carry_130 : zd cX2_carry 130 (.iload 7) 2 132 := by decide +kernel
theorem d2_carry_132 : zd cX2_carry 132 (.bipush 6) 2 134 := by decide +kernel
theorem d2_carry_134 : zj cX2_carry 134 (.if_icmp .ne 14) 14 137 148 := by decide +kernel
theorem d2_carry_137 : zd cX2_carry 137 (.aload_n 0) 1 138 := by decide +kernel
theorem d2_carry_138 : zd cX2_carry 138 (.aload_n 1) 1 139 := by decide +kernel
theorem d2_carry_139 : zd cX2_carry 139 (.iload 6) 2 141 := by decide +kernel
theorem d2_carry_141 : zd cX2_carry 141 (.iload_n 3) 1 142 := by decide +kernel
theorem d2_carry_142 : zd cX2_carry 142 (.invokevirtual 64) 3 145 := by decide +kernel
theorem d2_carry_145 : zj cX2_carry 145 (.goto 32) 32 148 177 := by decide +kernel
theorem d2_carry_148 : zd cX2_carry 148 (.iload 7) 2 150 := by decide +kernel
theorem d2_carry_150 : zd cX2_carry 150 (.aload_n 0) 1 151 := by decide +kernel
theorem d2_carry_151 : zd cX2_carry 151 (.getfield 15) 3 154 := by decide +kernel
theorem d2_carry_154 : zd cX2_carry 154 (.iload 5) 2 156 := by decide +kernel
theorem d2_carry_156 : zd cX2_carry 156 (.iaload) 1 157 := by decide +kernel
theorem d2_carry_157 : zj cX2_carry 157 (.if_icmp .eq 20) 20 160 177 := by decide +kernel
theorem d2_carry_160 : zd cX2_carry 160 (.aload_n 0) 1 161 := by decide +kernel
theorem d2_carry_161 : zd cX2_carry 161 (.aload_n 1) 1 162 := by decide +kernel
theorem d2_carry_162 : zd cX2_carry 162 (.aload_n 1) 1 163 := by decide +kernel
theorem d2_carry_163 : zd cX2_carry 163 (.getfield 68) 3 166 := by decide +kernel
theorem d2_carry_166 : zd cX2_carry 166 (.iload 6) 2 168 := by decide +kernel
theorem d2_carry_168 : zd cX2_carry 168 (.iload 7) 2 170 := by decide +kernel
theorem d2_carry_170 : zd cX2_carry 170 (.invokevirtual 72) 3 173 := by decide +kernel
theorem d2_carry_173 : zd cX2_carry 173 (.iload_n 2) 1 174 := by decide +kernel
theorem d2_carry_174 : zd cX2_carry 174 (.invokevirtual 78) 3 177 := by decide +kernel
theorem d2_carry_177 : zd cX2_carry 177 (.iinc 5 1) 3 180 := by decide +kernel
theorem d2_carry_180 : zj cX2_carry 180 (.goto (-114)) (-114) 183 66 := by decide +kernel
theorem d2_carry_183 : zd cX2_carry 183 (.return_) 1 184 := by decide +kernel
set_option maxHeartbeats 4000000 in
set_option maxRecDepth 20000 in
theorem c2_carry (l : Launch) (D : zDt) (Sh : zSh) (top : Nat) (hO : zOK Sh) (o_ : Nat) (v_state : Nat) (v_from : Int32) (v_to : Int32) (μ : zM) (μ_ : zM) (ho : (Sh o_).1 = 9) (h_state : (Sh v_state).1 = 15) (h : f2_carry o_ v_state v_from v_to μ = some μ_) : zMet l D zK1 yX2_carry cX2_carry 8 none (zrm 3 73) [.ref o_, .ref v_state, .int v_from, .int v_to] Sh top μ none Sh top μ_ 0 0 := by
  refine zMet_of (by decide) (Nat.le_of_ble_eq_true rfl) fun X hX1 hX2 fx fin => ?_
  subst hX1; subst hX2
  replace fx : zFix X cX2_carry RX2 (zrm 3 73) 8 := fx
  show zZ zK1 X (zT0 Sh top) μ 0 [(0, .ref o_), (1, .ref v_state), (2, .int v_from), (3, .int v_to)] []
  unfold f2_carry at h
  refine z_aload_n fx (k := 0) (i := 0) rfl rfl d2_carry_0 ?_
  refine z_iconst fx (v := 1) ic1 d2_carry_1 ?_
  refine z_top (show Value.int 1 = .int (bI true) from rfl) ?_
  obtain ⟨μ1, e1, h⟩ := zinv h
  refine z_putB fx (ci := 2) 3 ho lf2_18 fp2_3 e1 d2_carry_2 ?_
  refine z_aload_n fx (k := 0) (i := 0) rfl rfl d2_carry_5 ?_
  refine z_iconst fx (v := 0) ic0 d2_carry_6 ?_
  obtain ⟨μ2, e2, h⟩ := zinv h
  refine z_putI fx (ci := 2) 4 ho lf2_22 fp2_4 e2 d2_carry_7 ?_
  refine z_aload_n fx (k := 0) (i := 0) rfl rfl d2_carry_10 ?_
  refine z_iconst fx (v := 0) ic0 d2_carry_11 ?_
  obtain ⟨μ3, e3, h⟩ := zinv h
  refine z_putI fx (ci := 2) 5 ho lf2_26 fp2_5 e3 d2_carry_12 ?_
  refine z_aload_n fx (k := 0) (i := 0) rfl rfl d2_carry_15 ?_
  refine z_iconst fx (v := 0) ic0 d2_carry_16 ?_
  refine z_top (show Value.int 0 = .int (bI false) from rfl) ?_
  obtain ⟨μ4, e4, h⟩ := zinv h
  refine z_putB fx (ci := 2) 6 ho lf2_29 fp2_6 e4 d2_carry_17 ?_
  refine z_aload_n fx (k := 0) (i := 0) rfl rfl d2_carry_20 ?_
  refine z_iconst fx (v := 0) ic0 d2_carry_21 ?_
  obtain ⟨μ5, e5, h⟩ := zinv h
  refine z_putI fx (ci := 2) 2 ho lf2_32 fp2_2 e5 d2_carry_22 ?_
  refine z_aload_n fx (k := 1) (i := 1) rfl rfl d2_carry_25 ?_
  refine z_getO fx 8 4 5 h_state lf2_35 fk8_4 d2_carry_26 ?_
  refine z_iload_n fx (k := 2) (i := 2) rfl rfl d2_carry_29 ?_
  obtain ⟨t6, e6, h⟩ := zinv h
  refine z_iald fx (ok8_4 hO h_state) e6 d2_carry_30 ?_
  refine z_istore fx (i := 4) rfl (lv' := [(0, .ref o_), (1, .ref v_state), (2, .int v_from), (3, .int v_to), (4, .int t6)]) rfl rfl d2_carry_31 ?_
  refine z_aload_n fx (k := 1) (i := 1) rfl rfl d2_carry_33 ?_
  refine z_getO fx 8 0 1 h_state lf2_40 fk8_0 d2_carry_34 ?_
  refine z_iload fx (i := 4) rfl d2_carry_37 ?_
  obtain ⟨j7, e7, h⟩ := zinv h
  refine z_aald fx 0 (by decide) (ok8_0 hO h_state) e7 (v := .ref (v_state + 13 + 3 * j7)) rfl d2_carry_39 ?_
  refine z_getB fx 0 3 3 (okA0 hO (ok8_0 hO h_state) (rI_lt e7)) lf2_44 ⟨fk0_3, rfl⟩ d2_carry_40 ?_
  refine z_ifb_ne fx d2_carry_43 (fun c8 => ?_) (fun c8 => ?_)
  · replace h := zif_t c8 h
    refine z_aload_n fx (k := 1) (i := 1) rfl rfl d2_carry_47 ?_
    refine z_iload fx (i := 4) rfl d2_carry_48 ?_
    refine z_iload_n fx (k := 2) (i := 2) rfl rfl d2_carry_50 ?_
    refine z_bipush fx (v := 6) bp6 d2_carry_51 ?_
    obtain ⟨μ8, e9, h⟩ := zinv h
    refine z_cVv fx (c8_learn (zLo X) (zDo X) Sh top hO v_state t6 v_from 6 μ5 _ h_state e9) mv8_learn ml2_49 h_state rfl rfl rfl rfl d2_carry_53 ?_
    refine z_aload_n fx (k := 0) (i := 0) rfl rfl d2_carry_56 ?_
    refine z_iload fx (i := 4) rfl d2_carry_57 ?_
    refine z_iconst fx (v := (-1)) icm1 d2_carry_59 ?_
    obtain ⟨μ9, e10, h⟩ := zinv h
    refine z_cVv fx (c2_queue (zLo X) (zDo X) Sh top hO o_ t6 (-1) μ8 _ ho e10) mv2_queue ml2_53 ho rfl rfl rfl rfl d2_carry_60 ?_
    refine z_iconst fx (v := 0) ic0 d2_carry_63 ?_
    refine z_istore fx (i := 5) rfl (lv' := [(0, .ref o_), (1, .ref v_state), (2, .int v_from), (3, .int v_to), (4, .int t6), (5, .int 0)]) rfl rfl d2_carry_64 ?_
    obtain ⟨v_k_12, μ13, e35, h⟩ := zinv2 h
    have kx14 : zZ zK1 X (zT0 Sh top) μ13 183 [(0, .ref o_), (1, .ref v_state), (2, .int v_from), (3, .int v_to), (4, .int t6), (5, .int v_k_12)] [] := by
      refine z_take 5 (lv' := [(0, .ref o_), (1, .ref v_state), (2, .int v_from), (3, .int v_to), (4, .int t6)]) rfl ?_
      cases h
      exact z_return fx fin d2_carry_183
    clear h
    have klr13 : ∀ (n : Nat) (v_k_10 : Int32) (μ11 : zM), zloop (fun s => f2_carry_L1 o_ v_state v_from v_to s.1 s.2) n (v_k_10, μ11) = some (v_k_12, μ13) → zZ zK1 X (zT0 Sh top) μ11 66 [(0, .ref o_), (1, .ref v_state), (2, .int v_from), (3, .int v_to), (4, .int t6), (5, .int v_k_10)] [] := by
      intro n
      induction n with
      | zero => intro v_k_10 μ11 hl12; cases hl12
      | succ n ih15 =>
        intro v_k_10 μ11 hl12
        obtain ⟨y, e11, hl12⟩ := zloop_inv hl12
        replace e11 : f2_carry_L1 o_ v_state v_from v_to v_k_10 μ11 = some y := e11
        unfold f2_carry_L1 at e11
        have kt16 : (((clt v_k_10 (gF μ11 202 o_)) && (!(clt 64 v_k_10))) && (!(gB μ11 206 o_))) = true → zZ zK1 X (zT0 Sh top) μ11 89 [(0, .ref o_), (1, .ref v_state), (2, .int v_from), (3, .int v_to), (4, .int t6), (5, .int v_k_10)] [] := by
          intro hc
          replace e11 := zif_t hc e11
          refine z_aload_n fx (k := 0) (i := 0) rfl rfl d2_carry_89 ?_
          refine z_getO fx 2 0 1 ho lf2_9 fk2_0 d2_carry_90 ?_
          refine z_iload fx (i := 5) rfl d2_carry_93 ?_
          obtain ⟨t14, e17, e11⟩ := zinv e11
          refine z_iald fx (ok2_0 hO ho) e17 d2_carry_95 ?_
          refine z_istore fx (i := 6) rfl (lv' := [(0, .ref o_), (1, .ref v_state), (2, .int v_from), (3, .int v_to), (4, .int t6), (5, .int v_k_10), (6, .int t14)]) rfl rfl d2_carry_96 ?_
          refine z_aload_n fx (k := 1) (i := 1) rfl rfl d2_carry_98 ?_
          refine z_getO fx 8 5 6 h_state lf2_57 fk8_5 d2_carry_99 ?_
          refine z_iload fx (i := 6) rfl d2_carry_102 ?_
          refine z_bipush fx (v := 8) bp8 d2_carry_104 ?_
          refine z_imul fx d2_carry_106 ?_
          refine z_iload_n fx (k := 3) (i := 3) rfl rfl d2_carry_107 ?_
          refine z_iadd fx d2_carry_108 ?_
          obtain ⟨t15, e18, e11⟩ := zinv e11
          refine z_iald fx (ok8_5 hO h_state) e18 d2_carry_109 ?_
          refine z_istore fx (i := 7) rfl (lv' := [(0, .ref o_), (1, .ref v_state), (2, .int v_from), (3, .int v_to), (4, .int t6), (5, .int v_k_10), (6, .int t14), (7, .int t15)]) rfl rfl d2_carry_110 ?_
          refine z_iload fx (i := 7) rfl d2_carry_112 ?_
          refine z_iconst fx (v := (-1)) icm1 d2_carry_114 ?_
          refine z_icmp_ne fx d2_carry_115 (fun c19 => ?_) (fun c19 => ?_)
          · replace e11 := zif_f c19 e11
            refine z_iload fx (i := 7) rfl d2_carry_130 ?_
            refine z_bipush fx (v := 6) bp6 d2_carry_132 ?_
            refine z_icmp_ne fx d2_carry_134 (fun c20 => ?_) (fun c20 => ?_)
            · replace e11 := zif_f c20 e11
              refine z_iload fx (i := 7) rfl d2_carry_148 ?_
              refine z_aload_n fx (k := 0) (i := 0) rfl rfl d2_carry_150 ?_
              refine z_getO fx 2 1 2 ho lf2_15 fk2_1 d2_carry_151 ?_
              refine z_iload fx (i := 5) rfl d2_carry_154 ?_
              obtain ⟨t16, e21, e11⟩ := zinv e11
              refine z_iald fx (ok2_1 hO ho) e21 d2_carry_156 ?_
              refine z_icmp_eq fx d2_carry_157 (fun c22 => ?_) (fun c22 => ?_)
              · replace e11 := zif_t c22 e11
                refine z_take 6 (lv' := [(0, .ref o_), (1, .ref v_state), (2, .int v_from), (3, .int v_to), (4, .int t6), (5, .int v_k_10)]) rfl ?_
                obtain ⟨v_k_17, e23, e11⟩ := zinv e11
                replace e23 := Option.some.inj e23
                refine z_iinc fx (i := 5) (x := v_k_10) (v := v_k_17) rfl (by rw [in1]; exact e23) rfl (lv' := [(0, .ref o_), (1, .ref v_state), (2, .int v_from), (3, .int v_to), (4, .int t6), (5, .int v_k_17)]) rfl rfl d2_carry_177 ?_
                cases e11
                refine z_goto fx d2_carry_180 ?_
                exact ih15 _ _ hl12
              · replace e11 := zif_f c22 e11
                refine z_aload_n fx (k := 0) (i := 0) rfl rfl d2_carry_160 ?_
                refine z_aload_n fx (k := 1) (i := 1) rfl rfl d2_carry_161 ?_
                refine z_aload_n fx (k := 1) (i := 1) rfl rfl d2_carry_162 ?_
                obtain ⟨w18, e24, e11⟩ := zinv e11
                refine z_getR fx 8 12 812 17 h_state lf2_68 ⟨fk8_12, rfl⟩ e24 d2_carry_163 (fun tw18 => ?_)
                refine z_iload fx (i := 6) rfl d2_carry_166 ?_
                refine z_iload fx (i := 7) rfl d2_carry_168 ?_
                obtain ⟨t19, e25, e11⟩ := zinv e11
                refine z_cVr fx (c10_endOf (zLo X) (zDo X) Sh top hO w18 t14 t15 μ11 _ tw18 e25) mv10_endOf ml2_72 tw18 rfl rfl rfl rfl d2_carry_170 ?_
                refine z_iload_n fx (k := 2) (i := 2) rfl rfl d2_carry_173 ?_
                obtain ⟨μ20, e26, e11⟩ := zinv e11
                refine z_cVv fx (c2_pass (zLo X) (zDo X) Sh top hO o_ v_state t19 v_from μ11 _ ho h_state e26) mv2_pass ml2_78 ho rfl rfl rfl rfl d2_carry_174 ?_
                refine z_take 6 (lv' := [(0, .ref o_), (1, .ref v_state), (2, .int v_from), (3, .int v_to), (4, .int t6), (5, .int v_k_10)]) rfl ?_
                obtain ⟨v_k_21, e27, e11⟩ := zinv e11
                replace e27 := Option.some.inj e27
                refine z_iinc fx (i := 5) (x := v_k_10) (v := v_k_21) rfl (by rw [in1]; exact e27) rfl (lv' := [(0, .ref o_), (1, .ref v_state), (2, .int v_from), (3, .int v_to), (4, .int t6), (5, .int v_k_21)]) rfl rfl d2_carry_177 ?_
                cases e11
                refine z_goto fx d2_carry_180 ?_
                exact ih15 _ _ hl12
            · replace e11 := zif_t c20 e11
              refine z_aload_n fx (k := 0) (i := 0) rfl rfl d2_carry_137 ?_
              refine z_aload_n fx (k := 1) (i := 1) rfl rfl d2_carry_138 ?_
              refine z_iload fx (i := 6) rfl d2_carry_139 ?_
              refine z_iload_n fx (k := 3) (i := 3) rfl rfl d2_carry_141 ?_
              obtain ⟨μ22, e28, e11⟩ := zinv e11
              refine z_cVv fx (c2_reach (zLo X) (zDo X) Sh top hO o_ v_state t14 v_to μ11 _ ho h_state e28) mv2_reach ml2_64 ho rfl rfl rfl rfl d2_carry_142 ?_
              refine z_take 6 (lv' := [(0, .ref o_), (1, .ref v_state), (2, .int v_from), (3, .int v_to), (4, .int t6), (5, .int v_k_10)]) rfl ?_
              refine z_goto fx d2_carry_145 ?_
              obtain ⟨v_k_23, e29, e11⟩ := zinv e11
              replace e29 := Option.some.inj e29
              refine z_iinc fx (i := 5) (x := v_k_10) (v := v_k_23) rfl (by rw [in1]; exact e29) rfl (lv' := [(0, .ref o_), (1, .ref v_state), (2, .int v_from), (3, .int v_to), (4, .int t6), (5, .int v_k_23)]) rfl rfl d2_carry_177 ?_
              cases e11
              refine z_goto fx d2_carry_180 ?_
              exact ih15 _ _ hl12
          · replace e11 := zif_t c19 e11
            refine z_aload_n fx (k := 0) (i := 0) rfl rfl d2_carry_118 ?_
            refine z_aload_n fx (k := 1) (i := 1) rfl rfl d2_carry_119 ?_
            refine z_iload_n fx (k := 2) (i := 2) rfl rfl d2_carry_120 ?_
            refine z_iload_n fx (k := 3) (i := 3) rfl rfl d2_carry_121 ?_
            refine z_iload fx (i := 5) rfl d2_carry_122 ?_
            obtain ⟨μ24, e30, e11⟩ := zinv e11
            refine z_cVv fx (c2_flood (zLo X) (zDo X) Sh top hO o_ v_state v_from v_to v_k_10 μ11 _ ho h_state e30) mv2_flood ml2_60 ho rfl rfl rfl rfl d2_carry_124 ?_
            refine z_take 6 (lv' := [(0, .ref o_), (1, .ref v_state), (2, .int v_from), (3, .int v_to), (4, .int t6), (5, .int v_k_10)]) rfl ?_
            refine z_goto fx d2_carry_127 ?_
            obtain ⟨v_k_25, e31, e11⟩ := zinv e11
            replace e31 := Option.some.inj e31
            refine z_iinc fx (i := 5) (x := v_k_10) (v := v_k_25) rfl (by rw [in1]; exact e31) rfl (lv' := [(0, .ref o_), (1, .ref v_state), (2, .int v_from), (3, .int v_to), (4, .int t6), (5, .int v_k_25)]) rfl rfl d2_carry_177 ?_
            cases e11
            refine z_goto fx d2_carry_180 ?_
            exact ih15 _ _ hl12
        have kf16 : (((clt v_k_10 (gF μ11 202 o_)) && (!(clt 64 v_k_10))) && (!(gB μ11 206 o_))) = false → zZ zK1 X (zT0 Sh top) μ11 183 [(0, .ref o_), (1, .ref v_state), (2, .int v_from), (3, .int v_to), (4, .int t6), (5, .int v_k_10)] [] := by
          intro hc
          replace e11 := zif_f hc e11
          cases e11
          cases hl12
          exact kx14
        clear e11
        refine z_iload fx (i := 5) rfl d2_carry_66 ?_
        refine z_aload_n fx (k := 0) (i := 0) rfl rfl d2_carry_68 ?_
        refine z_getI fx 2 2 202 ho lf2_32 ⟨fk2_2, rfl⟩ d2_carry_69 ?_
        refine z_icmp_ge fx d2_carry_72 (fun c32 => ?_) (fun c32 => ?_)
        · exact kf16 (by simp [c32])
        · refine z_iload fx (i := 5) rfl d2_carry_75 ?_
          refine z_bipush fx (v := 64) bp64 d2_carry_77 ?_
          refine z_icmp_gt fx d2_carry_79 (fun c33 => ?_) (fun c33 => ?_)
          · exact kf16 (by simp [c32, c33])
          · refine z_aload_n fx (k := 0) (i := 0) rfl rfl d2_carry_82 ?_
            refine z_getB fx 2 6 206 ho lf2_29 ⟨fk2_6, rfl⟩ d2_carry_83 ?_
            refine z_ifb_ne fx d2_carry_86 (fun c34 => ?_) (fun c34 => ?_)
            · exact kf16 (by simp [c32, c33, c34])
            · exact kt16 (by simp [c32, c33, c34])
    exact klr13 _ _ _ e35
  · replace h := zif_f c8 h
    cases h
    exact z_return fx fin d2_carry_46
theorem d11_frame_0 : zd cX11_frame 0 (.aload_n 0) 1 1 := by decide +kernel
theorem d11_frame_1 : zd cX11_frame 1 (.getfield 36) 3 4 := by decide +kernel
theorem d11_frame_4 : zd cX11_frame 4 (.getfield 115) 3 7 := by decide +kernel
theorem d11_frame_7 : zj cX11_frame 7 (.ifCond .eq 7) 7 10 14 := by decide +kernel
theorem d11_frame_10 : zd cX11_frame 10 (.iload_n 1) 1 11 := by decide +kernel
theorem d11_frame_11 : zj cX11_frame 11 (.goto 4) 4 14 15 := by decide +kernel
theorem d11_frame_14 : zd cX11_frame 14 (.iconst (-1)) 1 15 := by decide +kernel
theorem d11_frame_15 : decode cX11_frame 15 = .ok (.tableswitch 57 0 2 #[25, 33, 41], 25) := by decide +kernel
theorem d11_frame_40 : zd cX11_frame 40 (.aload_n 0) 1 41 := by decide +kernel
theorem d11_frame_41 : zd cX11_frame 41 (.getfield 36) 3 44 := by decide +kernel
theorem d11_frame_44 : zd cX11_frame 44 (.getfield 420) 3 47 := by decide +kernel
theorem d11_frame_47 : zd cX11_frame 47 (.ireturn) 1 48 := by decide +kernel
theorem d11_frame_48 : zd cX11_frame 48 (.aload_n 0) 1 49 := by decide +kernel
theorem d11_frame_49 : zd cX11_frame 49 (.getfield 36) 3 52 := by decide +kernel
theorem d11_frame_52 : zd cX11_frame 52 (.getfield 423) 3 55 := by decide +kernel
theorem d11_frame_55 : zd cX11_frame 55 (.ireturn) 1 56 := by decide +kernel
theorem d11_frame_56 : zd cX11_frame 56 (.aload_n 0) 1 57 := by decide +kernel
theorem d11_frame_57 : zd cX11_frame 57 (.getfield 36) 3 60 := by decide +kernel
theorem d11_frame_60 : zd cX11_frame 60 (.getfield 426) 3 63 := by decide +kernel
theorem d11_frame_63 : zj cX11_frame 63 (.ifCond .eq 7) 7 66 70 := by decide +kernel
theorem d11_frame_66 : zd cX11_frame 66 (.iconst 1) 1 67 := by decide +kernel
theorem d11_frame_67 : zj cX11_frame 67 (.goto 4) 4 70 71 := by decide +kernel
theorem d11_frame_70 : zd cX11_frame 70 (.iconst 0) 1 71 := by decide +kernel
theorem d11_frame_71 : zd cX11_frame 71 (.ireturn) 1 72 := by decide +kernel
theorem d11_frame_72 : zd cX11_frame 72 (.iconst (-1)) 1 73 := by decide +kernel
theorem d11_frame_73 : zd cX11_frame 73 (.ireturn) 1 74 := by decide +kernel
set_option maxHeartbeats 4000000 in
set_option maxRecDepth 20000 in
theorem c11_frame (l : Launch) (D : zDt) (Sh : zSh) (top : Nat) (hO : zOK Sh) (o_ : Nat) (v_what : Int32) (μ : zM) (r_ : Int32) (ho : (Sh o_).1 = 18) (h : f11_frame o_ v_what μ = some r_) : zMet l D zK1 yX11_frame cX11_frame 2 (some .int) (zrm 0 0) [.ref o_, .int v_what] Sh top μ (some (.int r_)) Sh top μ 0 0 := by
  refine zMet_of (by decide) (Nat.le_of_ble_eq_true rfl) fun X hX1 hX2 fx fin => ?_
  subst hX1; subst hX2
  replace fx : zFix X cX11_frame RX11 (zrm 0 0) 2 := fx
  show zZ zK1 X (zT0 Sh top) μ 0 [(0, .ref o_), (1, .int v_what)] []
  unfold f11_frame at h
  obtain ⟨x1, e1, h⟩ := zinv h
  have k2 : zZ zK1 X (zT0 Sh top) μ 15 [(0, .ref o_), (1, .int v_what)] [.int x1] := by
    cases c4 : ceq x1 0 with
    | true =>
      replace h := zif_t c4 h
      refine z_table fx d11_frame_15 (off := 25) (tgt := 40) (by rw [ceq_of c4]; decide) (by decide) ?_
      refine z_aload_n fx (k := 0) (i := 0) rfl rfl d11_frame_40 ?_
      refine z_getO fx 11 7 14 ho lf11_36 fk11_7 d11_frame_41 ?_
      refine z_getI fx 2 4 204 (ok11_7 hO ho) lf11_420 ⟨fk2_4, rfl⟩ d11_frame_44 ?_
      cases h
      exact z_ireturn fx fin d11_frame_47
    | false =>
    replace h := zif_f c4 h
    cases c5 : ceq x1 1 with
    | true =>
      replace h := zif_t c5 h
      refine z_table fx d11_frame_15 (off := 33) (tgt := 48) (by rw [ceq_of c5]; decide) (by decide) ?_
      refine z_aload_n fx (k := 0) (i := 0) rfl rfl d11_frame_48 ?_
      refine z_getO fx 11 7 14 ho lf11_36 fk11_7 d11_frame_49 ?_
      refine z_getI fx 2 5 205 (ok11_7 hO ho) lf11_423 ⟨fk2_5, rfl⟩ d11_frame_52 ?_
      cases h
      exact z_ireturn fx fin d11_frame_55
    | false =>
    replace h := zif_f c5 h
    cases c6 : ceq x1 2 with
    | true =>
      replace h := zif_t c6 h
      refine z_table fx d11_frame_15 (off := 41) (tgt := 56) (by rw [ceq_of c6]; decide) (by decide) ?_
      obtain ⟨x2, e7, h⟩ := zinv h
      have k8 : zZ zK1 X (zT0 Sh top) μ 71 [(0, .ref o_), (1, .int v_what)] [.int x2] := by
        cases h
        exact z_ireturn fx fin d11_frame_71
      refine z_aload_n fx (k := 0) (i := 0) rfl rfl d11_frame_56 ?_
      refine z_getO fx 11 7 14 ho lf11_36 fk11_7 d11_frame_57 ?_
      refine z_getB fx 2 6 206 (ok11_7 hO ho) lf11_426 ⟨fk2_6, rfl⟩ d11_frame_60 ?_
      refine z_ifb_eq fx d11_frame_63 (fun c9 => ?_) (fun c9 => ?_)
      · replace e7 := zif_f c9 e7
        refine z_iconst fx (v := 0) ic0 d11_frame_70 ?_
        cases e7
        exact k8
      · replace e7 := zif_t c9 e7
        refine z_iconst fx (v := 1) ic1 d11_frame_66 ?_
        cases e7
        refine z_goto fx d11_frame_67 ?_
        exact k8
    | false =>
    replace h := zif_f c6 h
    have hn0 := zne c4 (k := 0) (by decide)
    have hn1 := zne c5 (k := 1) (by decide)
    have hn2 := zne c6 (k := 2) (by decide)
    refine z_table fx d11_frame_15 (off := 57) (tgt := 72) ⟨zsw_out (by omega), by decide⟩ (by decide) ?_
    refine z_iconst fx (v := (-1)) icm1 d11_frame_72 ?_
    cases h
    exact z_ireturn fx fin d11_frame_73
  refine z_aload_n fx (k := 0) (i := 0) rfl rfl d11_frame_0 ?_
  refine z_getO fx 11 7 14 ho lf11_36 fk11_7 d11_frame_1 ?_
  refine z_getB fx 2 3 203 (ok11_7 hO ho) lf11_115 ⟨fk2_3, rfl⟩ d11_frame_4 ?_
  refine z_ifb_eq fx d11_frame_7 (fun c3 => ?_) (fun c3 => ?_)
  · replace e1 := zif_f c3 e1
    refine z_iconst fx (v := (-1)) icm1 d11_frame_14 ?_
    cases e1
    exact k2
  · replace e1 := zif_t c3 e1
    refine z_iload_n fx (k := 1) (i := 1) rfl rfl d11_frame_10 ?_
    cases e1
    refine z_goto fx d11_frame_11 ?_
    exact k2
theorem d11_draw_0 : zd cX11_draw 0 (.ldc2_w 432) 3 3 := by decide +kernel
theorem d11_draw_3 : zd cX11_draw 3 (.aload_n 0) 1 4 := by decide +kernel
theorem d11_draw_4 : zd cX11_draw 4 (.getfield 82) 3 7 := by decide +kernel
theorem d11_draw_7 : zd cX11_draw 7 (.i2l) 1 8 := by decide +kernel
theorem d11_draw_8 : zd cX11_draw 8 (.lmul) 1 9 := by decide +kernel
theorem d11_draw_9 : zd cX11_draw 9 (.ldc2_w 434) 3 12 := by decide +kernel
theorem d11_draw_12 : zd cX11_draw 12 (.ladd) 1 13 := by decide +kernel
theorem d11_draw_13 : zd cX11_draw 13 (.lstore_n 2) 1 14 := by decide +kernel
theorem d11_draw_14 : zd cX11_draw 14 (.aload_n 0) 1 15 := by decide +kernel
theorem d11_draw_15 : zd cX11_draw 15 (.lload_n 2) 1 16 := by decide +kernel
theorem d11_draw_16 : zd cX11_draw 16 (.ldc2_w 436) 3 19 := by decide +kernel
theorem d11_draw_19 : zd cX11_draw 19 (.land) 1 20 := by decide +kernel
theorem d11_draw_20 : zd cX11_draw 20 (.l2i) 1 21 := by decide +kernel
theorem d11_draw_21 : zd cX11_draw 21 (.putfield 82) 3 24 := by decide +kernel
theorem d11_draw_24 : zd cX11_draw 24 (.iload_n 1) 1 25 := by decide +kernel
theorem d11_draw_25 : zj cX11_draw 25 (.ifCond .gt 7) 7 28 32 := by decide +kernel
theorem d11_draw_28 : zd cX11_draw 28 (.iconst 0) 1 29 := by decide +kernel
theorem d11_draw_29 : zj cX11_draw 29 (.goto 12) 12 32 41 := by decide +kernel
theorem d11_draw_32 : zd cX11_draw 32 (.aload_n 0) 1 33 := by decide +kernel
theorem d11_draw_33 : zd cX11_draw 33 (.getfield 82) 3 36 := by decide +kernel
theorem d11_draw_36 : zd cX11_draw 36 (.bipush 64) 2 38 := by decide +kernel
theorem d11_draw_38 : zd cX11_draw 38 (.idiv) 1 39 := by decide +kernel
theorem d11_draw_39 : zd cX11_draw 39 (.iload_n 1) 1 40 := by decide +kernel
theorem d11_draw_40 : zd cX11_draw 40 (.irem) 1 41 := by decide +kernel
theorem d11_draw_41 : zd cX11_draw 41 (.ireturn) 1 42 := by decide +kernel
set_option maxHeartbeats 4000000 in
set_option maxRecDepth 20000 in
theorem c11_draw (l : Launch) (D : zDt) (Sh : zSh) (top : Nat) (hO : zOK Sh) (o_ : Nat) (v_most : Int32) (μ : zM) (r_ : Int32) (μ_ : zM) (ho : (Sh o_).1 = 18) (h : f11_draw o_ v_most μ = some (r_, μ_)) : zMet l D zK1 yX11_draw cX11_draw 4 (some .int) (zrm 0 0) [.ref o_, .int v_most] Sh top μ (some (.int r_)) Sh top μ_ 0 0 := by
  refine zMet_of (by decide) (Nat.le_of_ble_eq_true rfl) fun X hX1 hX2 fx fin => ?_
  subst hX1; subst hX2
  replace fx : zFix X cX11_draw RX11 (zrm 0 0) 4 := fx
  show zZ zK1 X (zT0 Sh top) μ 0 [(0, .ref o_), (1, .int v_most)] []
  unfold f11_draw at h
  refine z_ldc2 fx (v := 1103515245) kl11_432 d11_draw_0 ?_
  refine z_aload_n fx (k := 0) (i := 0) rfl rfl d11_draw_3 ?_
  refine z_getI fx 11 17 1117 ho lf11_82 ⟨fk11_17, rfl⟩ d11_draw_4 ?_
  refine z_i2l fx d11_draw_7 ?_
  refine z_lmul fx d11_draw_8 ?_
  refine z_ldc2 fx (v := 12345) kl11_434 d11_draw_9 ?_
  refine z_ladd fx d11_draw_12 ?_
  obtain ⟨v_next_1, e1, h⟩ := zinv h
  replace e1 := Option.some.inj e1
  refine z_top (congrArg Value.long e1) ?_
  refine z_lstore_n fx (k := 2) (i := 2) rfl rfl (lv' := [(0, .ref o_), (1, .int v_most), (2, .long v_next_1)]) rfl rfl d11_draw_13 ?_
  refine z_aload_n fx (k := 0) (i := 0) rfl rfl d11_draw_14 ?_
  refine z_lload_n fx (k := 2) (i := 2) rfl rfl d11_draw_15 ?_
  refine z_ldc2 fx (v := 2147483647) kl11_436 d11_draw_16 ?_
  refine z_land fx d11_draw_19 ?_
  refine z_l2i fx d11_draw_20 ?_
  obtain ⟨μ2, e2, h⟩ := zinv h
  refine z_putI fx (ci := 11) 17 ho lf11_82 fp11_17 e2 d11_draw_21 ?_
  obtain ⟨x3, e3, h⟩ := zinv h
  have k4 : zZ zK1 X (zT0 Sh top) μ2 41 [(0, .ref o_), (1, .int v_most), (2, .long v_next_1)] [.int x3] := by
    cases h
    exact z_ireturn fx fin d11_draw_41
  refine z_iload_n fx (k := 1) (i := 1) rfl rfl d11_draw_24 ?_
  refine z_if_gt fx d11_draw_25 (fun c5 => ?_) (fun c5 => ?_)
  · replace e3 := zif_t c5 e3
    refine z_aload_n fx (k := 0) (i := 0) rfl rfl d11_draw_32 ?_
    refine z_getI fx 11 17 1117 ho lf11_82 ⟨fk11_17, rfl⟩ d11_draw_33 ?_
    refine z_bipush fx (v := 64) bp64 d11_draw_36 ?_
    obtain ⟨t4, e6, e3⟩ := zinv e3
    refine z_idiv fx e6 d11_draw_38 ?_
    refine z_iload_n fx (k := 1) (i := 1) rfl rfl d11_draw_39 ?_
    obtain ⟨t5, e7, e3⟩ := zinv e3
    refine z_irem fx e7 d11_draw_40 ?_
    cases e3
    exact k4
  · replace e3 := zif_f c5 e3
    refine z_iconst fx (v := 0) ic0 d11_draw_28 ?_
    cases e3
    refine z_goto fx d11_draw_29 ?_
    exact k4
theorem d11_seed_0 : zd cX11_seed 0 (.iload_n 1) 1 1 := by decide +kernel
theorem d11_seed_1 : zj cX11_seed 1 (.ifCond .ge 9) 9 4 10 := by decide +kernel
theorem d11_seed_4 : zd cX11_seed 4 (.aload_n 0) 1 5 := by decide +kernel
theorem d11_seed_5 : zd cX11_seed 5 (.iconst 5) 1 6 := by decide +kernel
theorem d11_seed_6 : zd cX11_seed 6 (.invokevirtual 97) 3 9 := by decide +kernel
theorem d11_seed_9 : zd cX11_seed 9 (.ireturn) 1 10 := by decide +kernel
theorem d11_seed_10 : zd cX11_seed 10 (.aload_n 0) 1 11 := by decide +kernel
theorem d11_seed_11 : zd cX11_seed 11 (.iload_n 1) 1 12 := by decide +kernel
theorem d11_seed_12 : zd cX11_seed 12 (.putfield 82) 3 15 := by decide +kernel
theorem d11_seed_15 : zd cX11_seed 15 (.iconst 1) 1 16 := by decide +kernel
theorem d11_seed_16 : zd cX11_seed 16 (.ireturn) 1 17 := by decide +kernel
set_option maxHeartbeats 4000000 in
set_option maxRecDepth 20000 in
theorem c11_seed (l : Launch) (D : zDt) (Sh : zSh) (top : Nat) (hO : zOK Sh) (o_ : Nat) (v_seed : Int32) (μ : zM) (r_ : Bool) (μ_ : zM) (ho : (Sh o_).1 = 18) (h : f11_seed o_ v_seed μ = some (r_, μ_)) : zMet l D zK1 yX11_seed cX11_seed 2 (some .boolean) (zrm 1 21) [.ref o_, .int v_seed] Sh top μ (some (.int (bI r_))) Sh top μ_ 0 0 := by
  refine zMet_of (by decide) (Nat.le_of_ble_eq_true rfl) fun X hX1 hX2 fx fin => ?_
  subst hX1; subst hX2
  replace fx : zFix X cX11_seed RX11 (zrm 1 21) 2 := fx
  show zZ zK1 X (zT0 Sh top) μ 0 [(0, .ref o_), (1, .int v_seed)] []
  unfold f11_seed at h
  refine z_iload_n fx (k := 1) (i := 1) rfl rfl d11_seed_0 ?_
  refine z_if_ge fx d11_seed_1 (fun c1 => ?_) (fun c1 => ?_)
  · replace h := zif_f c1 h
    refine z_aload_n fx (k := 0) (i := 0) rfl rfl d11_seed_10 ?_
    refine z_iload_n fx (k := 1) (i := 1) rfl rfl d11_seed_11 ?_
    obtain ⟨μ1, e2, h⟩ := zinv h
    refine z_putI fx (ci := 11) 17 ho lf11_82 fp11_17 e2 d11_seed_12 ?_
    refine z_iconst fx (v := 1) ic1 d11_seed_15 ?_
    refine z_top (show Value.int 1 = .int (bI true) from rfl) ?_
    cases h
    exact z_zreturn fx fin d11_seed_16
  · replace h := zif_t c1 h
    refine z_aload_n fx (k := 0) (i := 0) rfl rfl d11_seed_4 ?_
    refine z_iconst fx (v := 5) ic5 d11_seed_5 ?_
    obtain ⟨t2, μ3, e3, h⟩ := zinv2 h
    refine z_cVr fx (c11_refuses (zLo X) (zDo X) Sh top hO o_ 5 μ _ _ ho e3) mv11_refuses ml11_97 ho rfl rfl rfl rfl d11_seed_6 ?_
    cases h
    exact z_zreturn fx fin d11_seed_9
theorem d11_write_0 : zd cX11_write 0 (.aload_n 0) 1 1 := by decide +kernel
theorem d11_write_1 : zd cX11_write 1 (.getfield 47) 3 4 := by decide +kernel
theorem d11_write_4 : zd cX11_write 4 (.aload_n 0) 1 5 := by decide +kernel
theorem d11_write_5 : zd cX11_write 5 (.getfield 438) 3 8 := by decide +kernel
theorem d11_write_8 : zd cX11_write 8 (.iload_n 1) 1 9 := by decide +kernel
theorem d11_write_9 : zd cX11_write 9 (.iastore) 1 10 := by decide +kernel
theorem d11_write_10 : zd cX11_write 10 (.aload_n 0) 1 11 := by decide +kernel
theorem d11_write_11 : zd cX11_write 11 (.dup) 1 12 := by decide +kernel
theorem d11_write_12 : zd cX11_write 12 (.getfield 438) 3 15 := by decide +kernel
theorem d11_write_15 : zd cX11_write 15 (.iconst 1) 1 16 := by decide +kernel
theorem d11_write_16 : zd cX11_write 16 (.iadd) 1 17 := by decide +kernel
theorem d11_write_17 : zd cX11_write 17 (.putfield 438) 3 20 := by decide +kernel
theorem d11_write_20 : zd cX11_write 20 (.return_) 1 21 := by decide +kernel
set_option maxHeartbeats 4000000 in
set_option maxRecDepth 20000 in
theorem c11_write (l : Launch) (D : zDt) (Sh : zSh) (top : Nat) (hO : zOK Sh) (o_ : Nat) (v_value : Int32) (μ : zM) (μ_ : zM) (ho : (Sh o_).1 = 18) (h : f11_write o_ v_value μ = some μ_) : zMet l D zK1 yX11_write cX11_write 2 none (zrm 0 0) [.ref o_, .int v_value] Sh top μ none Sh top μ_ 0 0 := by
  refine zMet_of (by decide) (Nat.le_of_ble_eq_true rfl) fun X hX1 hX2 fx fin => ?_
  subst hX1; subst hX2
  replace fx : zFix X cX11_write RX11 (zrm 0 0) 2 := fx
  show zZ zK1 X (zT0 Sh top) μ 0 [(0, .ref o_), (1, .int v_value)] []
  unfold f11_write at h
  refine z_aload_n fx (k := 0) (i := 0) rfl rfl d11_write_0 ?_
  refine z_getO fx 11 9 21 ho lf11_47 fk11_9 d11_write_1 ?_
  refine z_aload_n fx (k := 0) (i := 0) rfl rfl d11_write_4 ?_
  refine z_getI fx 11 16 1116 ho lf11_438 ⟨fk11_16, rfl⟩ d11_write_5 ?_
  refine z_iload_n fx (k := 1) (i := 1) rfl rfl d11_write_8 ?_
  obtain ⟨μ1, e1, h⟩ := zinv h
  refine z_iast fx (ok11_9 hO ho) e1 d11_write_9 ?_
  refine z_aload_n fx (k := 0) (i := 0) rfl rfl d11_write_10 ?_
  refine z_dup fx rfl d11_write_11 ?_
  refine z_getI fx 11 16 1116 ho lf11_438 ⟨fk11_16, rfl⟩ d11_write_12 ?_
  refine z_iconst fx (v := 1) ic1 d11_write_15 ?_
  refine z_iadd fx d11_write_16 ?_
  obtain ⟨μ2, e2, h⟩ := zinv h
  refine z_putI fx (ci := 11) 16 ho lf11_438 fp11_16 e2 d11_write_17 ?_
  cases h
  exact z_return fx fin d11_write_20
theorem d11_checkOf_0 : zd cX11_checkOf 0 (.sipush 151) 3 3 := by decide +kernel
theorem d11_checkOf_3 : zd cX11_checkOf 3 (.istore_n 2) 1 4 := by decide +kernel
theorem d11_checkOf_4 : zd cX11_checkOf 4 (.iconst 0) 1 5 := by decide +kernel
theorem d11_checkOf_5 : zd cX11_checkOf 5 (.istore_n 3) 1 6 := by decide +kernel
theorem d11_checkOf_6 : zd cX11_checkOf 6 (.iload_n 3) 1 7 := by decide +kernel
theorem d11_checkOf_7 : zd cX11_checkOf 7 (.iload_n 1) 1 8 := by decide +kernel
theorem d11_checkOf_8 : zj cX11_checkOf 8 (.if_icmp .ge 21) 21 11 29 := by decide +kernel
theorem d11_checkOf_11 : zd cX11_checkOf 11 (.iconst 3) 1 12 := by decide +kernel
theorem d11_checkOf_12 : zd cX11_checkOf 12 (.iload_n 2) 1 13 := by decide +kernel
theorem d11_checkOf_13 : zd cX11_checkOf 13 (.imul) 1 14 := by decide +kernel
theorem d11_checkOf_14 : zd cX11_checkOf 14 (.aload_n 0) 1 15 := by decide +kernel
theorem d11_checkOf_15 : zd cX11_checkOf 15 (.iload_n 3) 1 16 := by decide +kernel
theorem d11_checkOf_16 : zd cX11_checkOf 16 (.iaload) 1 17 := by decide +kernel
theorem d11_checkOf_17 : zd cX11_checkOf 17 (.iadd) 1 18 := by decide +kernel
theorem d11_checkOf_18 : zd cX11_checkOf 18 (.sipush 251) 3 21 := by decide +kernel
theorem d11_checkOf_21 : zd cX11_checkOf 21 (.irem) 1 22 := by decide +kernel
theorem d11_checkOf_22 : zd cX11_checkOf 22 (.istore_n 2) 1 23 := by decide +kernel
theorem d11_checkOf_23 : zd cX11_checkOf 23 (.iinc 3 1) 3 26 := by decide +kernel
theorem d11_checkOf_26 : zj cX11_checkOf 26 (.goto (-20)) (-20) 29 6 := by decide +kernel
theorem d11_checkOf_29 : zd cX11_checkOf 29 (.iload_n 2) 1 30 := by decide +kernel
theorem d11_checkOf_30 : zd cX11_checkOf 30 (.ireturn) 1 31 := by decide +kernel
set_option maxHeartbeats 4000000 in
set_option maxRecDepth 20000 in
theorem c11_checkOf (l : Launch) (D : zDt) (Sh : zSh) (top : Nat) (hO : zOK Sh) (v_bytes : Nat) (v_bytes_n : Nat) (v_length : Int32) (μ : zM) (r_ : Int32) (h_bytes : Sh v_bytes = (1, v_bytes_n)) (h : f11_checkOf v_bytes v_bytes_n v_length μ = some r_) : zMet l D zK1 yX11_checkOf cX11_checkOf 4 (some .int) (zrm 0 0) [.ref v_bytes, .int v_length] Sh top μ (some (.int r_)) Sh top μ 0 0 := by
  refine zMet_of (by decide) (Nat.le_of_ble_eq_true rfl) fun X hX1 hX2 fx fin => ?_
  subst hX1; subst hX2
  replace fx : zFix X cX11_checkOf RX11 (zrm 0 0) 4 := fx
  show zZ zK1 X (zT0 Sh top) μ 0 [(0, .ref v_bytes), (1, .int v_length)] []
  unfold f11_checkOf at h
  refine z_sipush fx (v := 151) sp151 d11_checkOf_0 ?_
  refine z_istore_n fx (k := 2) (i := 2) rfl rfl (lv' := [(0, .ref v_bytes), (1, .int v_length), (2, .int 151)]) rfl rfl d11_checkOf_3 ?_
  refine z_iconst fx (v := 0) ic0 d11_checkOf_4 ?_
  refine z_istore_n fx (k := 3) (i := 3) rfl rfl (lv' := [(0, .ref v_bytes), (1, .int v_length), (2, .int 151), (3, .int 0)]) rfl rfl d11_checkOf_5 ?_
  obtain ⟨v_check_3, v_k_4, e10, h⟩ := zinv2 h
  have kx4 : zZ zK1 X (zT0 Sh top) μ 29 [(0, .ref v_bytes), (1, .int v_length), (2, .int v_check_3), (3, .int v_k_4)] [] := by
    refine z_take 3 (lv' := [(0, .ref v_bytes), (1, .int v_length), (2, .int v_check_3)]) rfl ?_
    refine z_iload_n fx (k := 2) (i := 2) rfl rfl d11_checkOf_29 ?_
    cases h
    exact z_ireturn fx fin d11_checkOf_30
  clear h
  have klr3 : ∀ (n : Nat) (v_check_1 : Int32) (v_k_2 : Int32), zloop (fun s => f11_checkOf_L1 v_bytes v_bytes_n v_length μ s.1 s.2) n (v_check_1, v_k_2) = some (v_check_3, v_k_4) → zZ zK1 X (zT0 Sh top) μ 6 [(0, .ref v_bytes), (1, .int v_length), (2, .int v_check_1), (3, .int v_k_2)] [] := by
    intro n
    induction n with
    | zero => intro v_check_1 v_k_2 hl2; cases hl2
    | succ n ih5 =>
      intro v_check_1 v_k_2 hl2
      obtain ⟨y, e1, hl2⟩ := zloop_inv hl2
      replace e1 : f11_checkOf_L1 v_bytes v_bytes_n v_length μ v_check_1 v_k_2 = some y := e1
      unfold f11_checkOf_L1 at e1
      refine z_iload_n fx (k := 3) (i := 3) rfl rfl d11_checkOf_6 ?_
      refine z_iload_n fx (k := 1) (i := 1) rfl rfl d11_checkOf_7 ?_
      refine z_icmp_ge fx d11_checkOf_8 (fun c6 => ?_) (fun c6 => ?_)
      · replace e1 := zif_f c6 e1
        cases e1
        cases hl2
        exact kx4
      · replace e1 := zif_t c6 e1
        refine z_iconst fx (v := 3) ic3 d11_checkOf_11 ?_
        refine z_iload_n fx (k := 2) (i := 2) rfl rfl d11_checkOf_12 ?_
        refine z_imul fx d11_checkOf_13 ?_
        refine z_aload_n fx (k := 0) (i := 0) rfl rfl d11_checkOf_14 ?_
        refine z_iload_n fx (k := 3) (i := 3) rfl rfl d11_checkOf_15 ?_
        obtain ⟨t5, e7, e1⟩ := zinv e1
        refine z_iald fx h_bytes e7 d11_checkOf_16 ?_
        refine z_iadd fx d11_checkOf_17 ?_
        refine z_sipush fx (v := 251) sp251 d11_checkOf_18 ?_
        obtain ⟨t6, e8, e1⟩ := zinv e1
        refine z_irem fx e8 d11_checkOf_21 ?_
        refine z_istore_n fx (k := 2) (i := 2) rfl rfl (lv' := [(0, .ref v_bytes), (1, .int v_length), (2, .int t6), (3, .int v_k_2)]) rfl rfl d11_checkOf_22 ?_
        obtain ⟨v_k_7, e9, e1⟩ := zinv e1
        replace e9 := Option.some.inj e9
        refine z_iinc fx (i := 3) (x := v_k_2) (v := v_k_7) rfl (by rw [in1]; exact e9) rfl (lv' := [(0, .ref v_bytes), (1, .int v_length), (2, .int t6), (3, .int v_k_7)]) rfl rfl d11_checkOf_23 ?_
        cases e1
        refine z_goto fx d11_checkOf_26 ?_
        exact ih5 _ _ hl2
  exact klr3 _ _ _ e10
theorem d11_image_0 : zd cX11_image 0 (.aload_n 0) 1 1 := by decide +kernel
theorem d11_image_1 : zd cX11_image 1 (.iconst 0) 1 2 := by decide +kernel
theorem d11_image_2 : zd cX11_image 2 (.putfield 438) 3 5 := by decide +kernel
theorem d11_image_5 : zd cX11_image 5 (.iconst 0) 1 6 := by decide +kernel
theorem d11_image_6 : zd cX11_image 6 (.istore_n 1) 1 7 := by decide +kernel
theorem d11_image_7 : zd cX11_image 7 (.iload_n 1) 1 8 := by decide +kernel
theorem d11_image_8 : zd cX11_image 8 (.aload_n 0) 1 9 := by decide +kernel
theorem d11_image_9 : zd cX11_image 9 (.getfield 56) 3 12 := by decide +kernel
theorem d11_image_12 : zd cX11_image 12 (.getfield 128) 3 15 := by decide +kernel
theorem d11_image_15 : zj cX11_image 15 (.if_icmp .ge 59) 59 18 74 := by decide +kernel
theorem d11_image_18 : zd cX11_image 18 (.aload_n 0) 1 19 := by decide +kernel
theorem d11_image_19 : zd cX11_image 19 (.getfield 75) 3 22 := by decide +kernel
theorem d11_image_22 : zd cX11_image 22 (.getfield 195) 3 25 := by decide +kernel
theorem d11_image_25 : zd cX11_image 25 (.iload_n 1) 1 26 := by decide +kernel
theorem d11_image_26 : zd cX11_image 26 (.aaload) 1 27 := by decide +kernel
theorem d11_image_27 : zd cX11_image 27 (.astore_n 2) 1 28 := by decide +kernel
theorem d11_image_28 : zd cX11_image 28 (.aload_n 0) 1 29 := by decide +kernel
theorem d11_image_29 : zd cX11_image 29 (.aload_n 2) 1 30 := by decide +kernel
theorem d11_image_30 : zd cX11_image 30 (.getfield 209) 3 33 := by decide +kernel
theorem d11_image_33 : zj cX11_image 33 (.ifCond .eq 7) 7 36 40 := by decide +kernel
theorem d11_image_36 : zd cX11_image 36 (.iconst 1) 1 37 := by decide +kernel
theorem d11_image_37 : zj cX11_image 37 (.goto 4) 4 40 41 := by decide +kernel
theorem d11_image_40 : zd cX11_image 40 (.iconst 0) 1 41 := by decide +kernel
theorem d11_image_41 : zd cX11_image 41 (.invokevirtual 441) 3 44 := by decide +kernel
theorem d11_image_44 : zd cX11_image 44 (.aload_n 0) 1 45 := by decide +kernel
theorem d11_image_45 : zd cX11_image 45 (.aload_n 2) 1 46 := by decide +kernel
theorem d11_image_46 : zd cX11_image 46 (.getfield 403) 3 49 := by decide +kernel
theorem d11_image_49 : zd cX11_image 49 (.invokevirtual 441) 3 52 := by decide +kernel
theorem d11_image_52 : zd cX11_image 52 (.aload_n 0) 1 53 := by decide +kernel
theorem d11_image_53 : zd cX11_image 53 (.aload_n 2) 1 54 := by decide +kernel
theorem d11_image_54 : zd cX11_image 54 (.getfield 206) 3 57 := by decide +kernel
theorem d11_image_57 : zj cX11_image 57 (.ifCond .eq 7) 7 60 64 := by decide +kernel
theorem d11_image_60 : zd cX11_image 60 (.iconst 1) 1 61 := by decide +kernel
theorem d11_image_61 : zj cX11_image 61 (.goto 4) 4 64 65 := by decide +kernel
theorem d11_image_64 : zd cX11_image 64 (.iconst 0) 1 65 := by decide +kernel
theorem d11_image_65 : zd cX11_image 65 (.invokevirtual 441) 3 68 := by decide +kernel
theorem d11_image_68 : zd cX11_image 68 (.iinc 1 1) 3 71 := by decide +kernel
theorem d11_image_71 : zj cX11_image 71 (.goto (-64)) (-64) 74 7 := by decide +kernel
theorem d11_image_74 : zd cX11_image 74 (.iconst 0) 1 75 := by decide +kernel
theorem d11_image_75 : zd cX11_image 75 (.istore_n 1) 1 76 := by decide +kernel
theorem d11_image_76 : zd cX11_image 76 (.iload_n 1) 1 77 := by decide +kernel
theorem d11_image_77 : zd cX11_image 77 (.aload_n 0) 1 78 := by decide +kernel
theorem d11_image_78 : zd cX11_image 78 (.getfield 56) 3 81 := by decide +kernel
theorem d11_image_81 : zd cX11_image 81 (.getfield 131) 3 84 := by decide +kernel
theorem d11_image_84 : zj cX11_image 84 (.if_icmp .ge 30) 30 87 114 := by decide +kernel
theorem d11_image_87 : zd cX11_image 87 (.aload_n 0) 1 88 := by decide +kernel
theorem d11_image_88 : zd cX11_image 88 (.aload_n 0) 1 89 := by decide +kernel
theorem d11_image_89 : zd cX11_image 89 (.getfield 75) 3 92 := by decide +kernel
theorem d11_image_92 : zd cX11_image 92 (.getfield 188) 3 95 := by decide +kernel
theorem d11_image_95 : zd cX11_image 95 (.iload_n 1) 1 96 := by decide +kernel
theorem d11_image_96 : zd cX11_image 96 (.baload) 1 97 := by decide +kernel
theorem d11_image_97 : zj cX11_image 97 (.ifCond .eq 7) 7 100 104 := by decide +kernel
theorem d11_image_100 : zd cX11_image 100 (.iconst 1) 1 101 := by decide +kernel
theorem d11_image_101 : zj cX11_image 101 (.goto 4) 4 104 105 := by decide +kernel
theorem d11_image_104 : zd cX11_image 104 (.iconst 0) 1 105 := by decide +kernel
theorem d11_image_105 : zd cX11_image 105 (.invokevirtual 441) 3 108 := by decide +kernel
theorem d11_image_108 : zd cX11_image 108 (.iinc 1 1) 3 111 := by decide +kernel
theorem d11_image_111 : zj cX11_image 111 (.goto (-35)) (-35) 114 76 := by decide +kernel
theorem d11_image_114 : zd cX11_image 114 (.iconst 0) 1 115 := by decide +kernel
theorem d11_image_115 : zd cX11_image 115 (.istore_n 1) 1 116 := by decide +kernel
theorem d11_image_116 : zd cX11_image 116 (.iload_n 1) 1 117 := by decide +kernel
theorem d11_image_117 : zd cX11_image 117 (.aload_n 0) 1 118 := by decide +kernel
theorem d11_image_118 : zd cX11_image 118 (.getfield 56) 3 121 := by decide +kernel
theorem d11_image_121 : zd cX11_image 121 (.getfield 134) 3 124 := by decide +kernel
theorem d11_image_124 : zj cX11_image 124 (.if_icmp .ge 22) 22 127 146 := by decide +kernel
theorem d11_image_127 : zd cX11_image 127 (.aload_n 0) 1 128 := by decide +kernel
theorem d11_image_128 : zd cX11_image 128 (.aload_n 0) 1 129 := by decide +kernel
theorem d11_image_129 : zd cX11_image 129 (.getfield 75) 3 132 := by decide +kernel
theorem d11_image_132 : zd cX11_image 132 (.getfield 413) 3 135 := by decide +kernel
theorem d11_image_135 : zd cX11_image 135 (.iload_n 1) 1 136 := by decide +kernel
theorem d11_image_136 : zd cX11_image 136 (.iaload) 1 137 := by decide +kernel
theorem d11_image_137 : zd cX11_image 137 (.invokevirtual 441) 3 140 := by decide +kernel
theorem d11_image_140 : zd cX11_image 140 (.iinc 1 1) 3 143 := by decide +kernel
theorem d11_image_143 : zj cX11_image 143 (.goto (-27)) (-27) 146 116 := by decide +kernel
theorem d11_image_146 : zd cX11_image 146 (.aload_n 0) 1 147 := by decide +kernel
theorem d11_image_147 : zd cX11_image 147 (.aload_n 0) 1 148 := by decide +kernel
theorem d11_image_148 : zd cX11_image 148 (.getfield 47) 3 151 := by decide +kernel
theorem d11_image_151 : zd cX11_image 151 (.aload_n 0) 1 152 := by decide +kernel
theorem d11_image_152 : zd cX11_image 152 (.getfield 438) 3 155 := by decide +kernel
theorem d11_image_155 : zd cX11_image 155 (.invokestatic 444) 3 158 := by decide +kernel
theorem d11_image_158 : zd cX11_image 158 (.invokevirtual 441) 3 161 := by decide +kernel
theorem d11_image_161 : zd cX11_image 161 (.aload_n 0) 1 162 := by decide +kernel
theorem d11_image_162 : zd cX11_image 162 (.getfield 438) 3 165 := by decide +kernel
theorem d11_image_165 : zd cX11_image 165 (.ireturn) 1 166 := by decide +kernel
set_option maxHeartbeats 4000000 in
set_option maxRecDepth 20000 in
theorem c11_image (l : Launch) (D : zDt) (Sh : zSh) (top : Nat) (hO : zOK Sh) (o_ : Nat) (μ : zM) (r_ : Int32) (μ_ : zM) (ho : (Sh o_).1 = 18) (h : f11_image o_ μ = some (r_, μ_)) : zMet l D zK1 yX11_image cX11_image 3 (some .int) (zrm 1 23) [.ref o_] Sh top μ (some (.int r_)) Sh top μ_ 0 0 := by
  refine zMet_of (by decide) (Nat.le_of_ble_eq_true rfl) fun X hX1 hX2 fx fin => ?_
  subst hX1; subst hX2
  replace fx : zFix X cX11_image RX11 (zrm 1 23) 3 := fx
  show zZ zK1 X (zT0 Sh top) μ 0 [(0, .ref o_)] []
  unfold f11_image at h
  refine z_aload_n fx (k := 0) (i := 0) rfl rfl d11_image_0 ?_
  refine z_iconst fx (v := 0) ic0 d11_image_1 ?_
  obtain ⟨μ1, e1, h⟩ := zinv h
  refine z_putI fx (ci := 11) 16 ho lf11_438 fp11_16 e1 d11_image_2 ?_
  refine z_iconst fx (v := 0) ic0 d11_image_5 ?_
  refine z_istore_n fx (k := 1) (i := 1) rfl rfl (lv' := [(0, .ref o_), (1, .int 0)]) rfl rfl d11_image_6 ?_
  obtain ⟨v_b_4, μ5, e47, h⟩ := zinv2 h
  have kx5 : zZ zK1 X (zT0 Sh top) μ5 74 [(0, .ref o_), (1, .int v_b_4)] [] := by
    refine z_take 1 (lv' := [(0, .ref o_)]) rfl ?_
    refine z_iconst fx (v := 0) ic0 d11_image_74 ?_
    refine z_istore_n fx (k := 1) (i := 1) rfl rfl (lv' := [(0, .ref o_), (1, .int 0)]) rfl rfl d11_image_75 ?_
    obtain ⟨v_link_16, μ17, e46, h⟩ := zinv2 h
    have kx23 : zZ zK1 X (zT0 Sh top) μ17 114 [(0, .ref o_), (1, .int v_link_16)] [] := by
      refine z_take 1 (lv' := [(0, .ref o_)]) rfl ?_
      refine z_iconst fx (v := 0) ic0 d11_image_114 ?_
      refine z_istore_n fx (k := 1) (i := 1) rfl rfl (lv' := [(0, .ref o_), (1, .int 0)]) rfl rfl d11_image_115 ?_
      obtain ⟨v_host_25, μ26, e45, h⟩ := zinv2 h
      have kx36 : zZ zK1 X (zT0 Sh top) μ26 146 [(0, .ref o_), (1, .int v_host_25)] [] := by
        refine z_take 1 (lv' := [(0, .ref o_)]) rfl ?_
        refine z_aload_n fx (k := 0) (i := 0) rfl rfl d11_image_146 ?_
        refine z_aload_n fx (k := 0) (i := 0) rfl rfl d11_image_147 ?_
        refine z_getO fx 11 9 21 ho lf11_47 fk11_9 d11_image_148 ?_
        refine z_aload_n fx (k := 0) (i := 0) rfl rfl d11_image_151 ?_
        refine z_getI fx 11 16 1116 ho lf11_438 ⟨fk11_16, rfl⟩ d11_image_152 ?_
        obtain ⟨t31, e43, h⟩ := zinv h
        refine z_cSr fx (c11_checkOf (zLo X) (zDo X) Sh top hO (o_ + 21) 47 (gF μ26 1116 o_) μ26 _ (ok11_9 hO ho) e43) ms11_checkOf ml11_444 rfl rfl rfl rfl d11_image_155 ?_
        obtain ⟨μ32, e44, h⟩ := zinv h
        refine z_cVv fx (c11_write (zLo X) (zDo X) Sh top hO o_ t31 μ26 _ ho e44) mv11_write ml11_441 ho rfl rfl rfl rfl d11_image_158 ?_
        refine z_aload_n fx (k := 0) (i := 0) rfl rfl d11_image_161 ?_
        refine z_getI fx 11 16 1116 ho lf11_438 ⟨fk11_16, rfl⟩ d11_image_162 ?_
        cases h
        exact z_ireturn fx fin d11_image_165
      clear h
      have klr35 : ∀ (n : Nat) (v_host_23 : Int32) (μ24 : zM), zloop (fun s => f11_image_L3 o_ s.1 s.2) n (v_host_23, μ24) = some (v_host_25, μ26) → zZ zK1 X (zT0 Sh top) μ24 116 [(0, .ref o_), (1, .int v_host_23)] [] := by
        intro n
        induction n with
        | zero => intro v_host_23 μ24 hl34; cases hl34
        | succ n ih37 =>
          intro v_host_23 μ24 hl34
          obtain ⟨y, e33, hl34⟩ := zloop_inv hl34
          replace e33 : f11_image_L3 o_ v_host_23 μ24 = some y := e33
          unfold f11_image_L3 at e33
          refine z_iload_n fx (k := 1) (i := 1) rfl rfl d11_image_116 ?_
          refine z_aload_n fx (k := 0) (i := 0) rfl rfl d11_image_117 ?_
          obtain ⟨w27, e38, e33⟩ := zinv e33
          refine z_getR fx 11 11 1111 17 ho lf11_56 ⟨fk11_11, rfl⟩ e38 d11_image_118 (fun tw27 => ?_)
          refine z_getI fx 10 17 1017 tw27 lf11_134 ⟨fk10_17, rfl⟩ d11_image_121 ?_
          refine z_icmp_ge fx d11_image_124 (fun c39 => ?_) (fun c39 => ?_)
          · replace e33 := zif_f c39 e33
            cases e33
            cases hl34
            exact kx36
          · replace e33 := zif_t c39 e33
            refine z_aload_n fx (k := 0) (i := 0) rfl rfl d11_image_127 ?_
            refine z_aload_n fx (k := 0) (i := 0) rfl rfl d11_image_128 ?_
            refine z_getO fx 11 3 51 ho lf11_75 fk11_3 d11_image_129 ?_
            refine z_getO fx 8 4 5 (ok11_3 hO ho) lf11_413 fk8_4 d11_image_132 ?_
            refine z_iload_n fx (k := 1) (i := 1) rfl rfl d11_image_135 ?_
            obtain ⟨t28, e40, e33⟩ := zinv e33
            refine z_iald fx (ok8_4 hO (ok11_3 hO ho)) e40 d11_image_136 ?_
            obtain ⟨μ29, e41, e33⟩ := zinv e33
            refine z_cVv fx (c11_write (zLo X) (zDo X) Sh top hO o_ t28 μ24 _ ho e41) mv11_write ml11_441 ho rfl rfl rfl rfl d11_image_137 ?_
            obtain ⟨v_host_30, e42, e33⟩ := zinv e33
            replace e42 := Option.some.inj e42
            refine z_iinc fx (i := 1) (x := v_host_23) (v := v_host_30) rfl (by rw [in1]; exact e42) rfl (lv' := [(0, .ref o_), (1, .int v_host_30)]) rfl rfl d11_image_140 ?_
            cases e33
            refine z_goto fx d11_image_143 ?_
            exact ih37 _ _ hl34
      exact klr35 _ _ _ e45
    clear h
    have klr22 : ∀ (n : Nat) (v_link_14 : Int32) (μ15 : zM), zloop (fun s => f11_image_L2 o_ s.1 s.2) n (v_link_14, μ15) = some (v_link_16, μ17) → zZ zK1 X (zT0 Sh top) μ15 76 [(0, .ref o_), (1, .int v_link_14)] [] := by
      intro n
      induction n with
      | zero => intro v_link_14 μ15 hl21; cases hl21
      | succ n ih24 =>
        intro v_link_14 μ15 hl21
        obtain ⟨y, e20, hl21⟩ := zloop_inv hl21
        replace e20 : f11_image_L2 o_ v_link_14 μ15 = some y := e20
        unfold f11_image_L2 at e20
        refine z_iload_n fx (k := 1) (i := 1) rfl rfl d11_image_76 ?_
        refine z_aload_n fx (k := 0) (i := 0) rfl rfl d11_image_77 ?_
        obtain ⟨w18, e25, e20⟩ := zinv e20
        refine z_getR fx 11 11 1111 17 ho lf11_56 ⟨fk11_11, rfl⟩ e25 d11_image_78 (fun tw18 => ?_)
        refine z_getI fx 10 16 1016 tw18 lf11_131 ⟨fk10_16, rfl⟩ d11_image_81 ?_
        refine z_icmp_ge fx d11_image_84 (fun c26 => ?_) (fun c26 => ?_)
        · replace e20 := zif_f c26 e20
          cases e20
          cases hl21
          exact kx23
        · replace e20 := zif_t c26 e20
          refine z_aload_n fx (k := 0) (i := 0) rfl rfl d11_image_87 ?_
          obtain ⟨x19, e27, e20⟩ := zinv e20
          have k28 : zZ zK1 X (zT0 Sh top) μ15 105 [(0, .ref o_), (1, .int v_link_14)] [.int x19, .ref o_] := by
            obtain ⟨μ21, e31, e20⟩ := zinv e20
            refine z_cVv fx (c11_write (zLo X) (zDo X) Sh top hO o_ x19 μ15 _ ho e31) mv11_write ml11_441 ho rfl rfl rfl rfl d11_image_105 ?_
            obtain ⟨v_link_22, e32, e20⟩ := zinv e20
            replace e32 := Option.some.inj e32
            refine z_iinc fx (i := 1) (x := v_link_14) (v := v_link_22) rfl (by rw [in1]; exact e32) rfl (lv' := [(0, .ref o_), (1, .int v_link_22)]) rfl rfl d11_image_108 ?_
            cases e20
            refine z_goto fx d11_image_111 ?_
            exact ih24 _ _ hl21
          refine z_aload_n fx (k := 0) (i := 0) rfl rfl d11_image_88 ?_
          refine z_getO fx 11 3 51 ho lf11_75 fk11_3 d11_image_89 ?_
          refine z_getO fx 8 3 4 (ok11_3 hO ho) lf11_188 fk8_3 d11_image_92 ?_
          refine z_iload_n fx (k := 1) (i := 1) rfl rfl d11_image_95 ?_
          obtain ⟨t20, e29, e27⟩ := zinv e27
          refine z_zald fx (ok8_3 hO (ok11_3 hO ho)) e29 d11_image_96 ?_
          refine z_ifb_eq fx d11_image_97 (fun c30 => ?_) (fun c30 => ?_)
          · replace e27 := zif_f c30 e27
            refine z_iconst fx (v := 0) ic0 d11_image_104 ?_
            cases e27
            exact k28
          · replace e27 := zif_t c30 e27
            refine z_iconst fx (v := 1) ic1 d11_image_100 ?_
            cases e27
            refine z_goto fx d11_image_101 ?_
            exact k28
    exact klr22 _ _ _ e46
  clear h
  have klr4 : ∀ (n : Nat) (v_b_2 : Int32) (μ3 : zM), zloop (fun s => f11_image_L1 o_ s.1 s.2) n (v_b_2, μ3) = some (v_b_4, μ5) → zZ zK1 X (zT0 Sh top) μ3 7 [(0, .ref o_), (1, .int v_b_2)] [] := by
    intro n
    induction n with
    | zero => intro v_b_2 μ3 hl3; cases hl3
    | succ n ih6 =>
      intro v_b_2 μ3 hl3
      obtain ⟨y, e2, hl3⟩ := zloop_inv hl3
      replace e2 : f11_image_L1 o_ v_b_2 μ3 = some y := e2
      unfold f11_image_L1 at e2
      refine z_iload_n fx (k := 1) (i := 1) rfl rfl d11_image_7 ?_
      refine z_aload_n fx (k := 0) (i := 0) rfl rfl d11_image_8 ?_
      obtain ⟨w6, e7, e2⟩ := zinv e2
      refine z_getR fx 11 11 1111 17 ho lf11_56 ⟨fk11_11, rfl⟩ e7 d11_image_9 (fun tw6 => ?_)
      refine z_getI fx 10 15 1015 tw6 lf11_128 ⟨fk10_15, rfl⟩ d11_image_12 ?_
      refine z_icmp_ge fx d11_image_15 (fun c8 => ?_) (fun c8 => ?_)
      · replace e2 := zif_f c8 e2
        cases e2
        cases hl3
        exact kx5
      · replace e2 := zif_t c8 e2
        refine z_aload_n fx (k := 0) (i := 0) rfl rfl d11_image_18 ?_
        refine z_getO fx 11 3 51 ho lf11_75 fk11_3 d11_image_19 ?_
        refine z_getO fx 8 0 1 (ok11_3 hO ho) lf11_195 fk8_0 d11_image_22 ?_
        refine z_iload_n fx (k := 1) (i := 1) rfl rfl d11_image_25 ?_
        obtain ⟨j7, e9, e2⟩ := zinv e2
        refine z_aald fx 0 (by decide) (ok8_0 hO (ok11_3 hO ho)) e9 (v := .ref (o_ + 64 + 3 * j7)) rfl d11_image_26 ?_
        refine z_astore_n fx (k := 2) (i := 2) rfl rfl (lv' := [(0, .ref o_), (1, .int v_b_2), (2, .ref (o_ + 64 + 3 * j7))]) rfl rfl d11_image_27 ?_
        refine z_aload_n fx (k := 0) (i := 0) rfl rfl d11_image_28 ?_
        obtain ⟨x8, e10, e2⟩ := zinv e2
        have k11 : zZ zK1 X (zT0 Sh top) μ3 41 [(0, .ref o_), (1, .int v_b_2), (2, .ref (o_ + 64 + 3 * j7))] [.int x8, .ref o_] := by
          obtain ⟨μ9, e13, e2⟩ := zinv e2
          refine z_cVv fx (c11_write (zLo X) (zDo X) Sh top hO o_ x8 μ3 _ ho e13) mv11_write ml11_441 ho rfl rfl rfl rfl d11_image_41 ?_
          refine z_aload_n fx (k := 0) (i := 0) rfl rfl d11_image_44 ?_
          refine z_aload_n fx (k := 2) (i := 2) rfl rfl d11_image_45 ?_
          refine z_getI fx 0 5 5 (okA0 hO (ok8_0 hO (ok11_3 hO ho)) (rI_lt e9)) lf11_403 ⟨fk0_5, rfl⟩ d11_image_46 ?_
          obtain ⟨μ10, e14, e2⟩ := zinv e2
          refine z_cVv fx (c11_write (zLo X) (zDo X) Sh top hO o_ (gF μ9 5 (o_ + 64 + 3 * j7)) μ9 _ ho e14) mv11_write ml11_441 ho rfl rfl rfl rfl d11_image_49 ?_
          refine z_aload_n fx (k := 0) (i := 0) rfl rfl d11_image_52 ?_
          obtain ⟨x11, e15, e2⟩ := zinv e2
          have k16 : zZ zK1 X (zT0 Sh top) μ10 65 [(0, .ref o_), (1, .int v_b_2), (2, .ref (o_ + 64 + 3 * j7))] [.int x11, .ref o_] := by
            obtain ⟨μ12, e18, e2⟩ := zinv e2
            refine z_cVv fx (c11_write (zLo X) (zDo X) Sh top hO o_ x11 μ10 _ ho e18) mv11_write ml11_441 ho rfl rfl rfl rfl d11_image_65 ?_
            refine z_take 2 (lv' := [(0, .ref o_), (1, .int v_b_2)]) rfl ?_
            obtain ⟨v_b_13, e19, e2⟩ := zinv e2
            replace e19 := Option.some.inj e19
            refine z_iinc fx (i := 1) (x := v_b_2) (v := v_b_13) rfl (by rw [in1]; exact e19) rfl (lv' := [(0, .ref o_), (1, .int v_b_13)]) rfl rfl d11_image_68 ?_
            cases e2
            refine z_goto fx d11_image_71 ?_
            exact ih6 _ _ hl3
          refine z_aload_n fx (k := 2) (i := 2) rfl rfl d11_image_53 ?_
          refine z_getB fx 0 4 4 (okA0 hO (ok8_0 hO (ok11_3 hO ho)) (rI_lt e9)) lf11_206 ⟨fk0_4, rfl⟩ d11_image_54 ?_
          refine z_ifb_eq fx d11_image_57 (fun c17 => ?_) (fun c17 => ?_)
          · replace e15 := zif_f c17 e15
            refine z_iconst fx (v := 0) ic0 d11_image_64 ?_
            cases e15
            exact k16
          · replace e15 := zif_t c17 e15
            refine z_iconst fx (v := 1) ic1 d11_image_60 ?_
            cases e15
            refine z_goto fx d11_image_61 ?_
            exact k16
        refine z_aload_n fx (k := 2) (i := 2) rfl rfl d11_image_29 ?_
        refine z_getB fx 0 3 3 (okA0 hO (ok8_0 hO (ok11_3 hO ho)) (rI_lt e9)) lf11_209 ⟨fk0_3, rfl⟩ d11_image_30 ?_
        refine z_ifb_eq fx d11_image_33 (fun c12 => ?_) (fun c12 => ?_)
        · replace e10 := zif_f c12 e10
          refine z_iconst fx (v := 0) ic0 d11_image_40 ?_
          cases e10
          exact k11
        · replace e10 := zif_t c12 e10
          refine z_iconst fx (v := 1) ic1 d11_image_36 ?_
          cases e10
          refine z_goto fx d11_image_37 ?_
          exact k11
  exact klr4 _ _ _ e47
theorem d11_octet_0 : zd cX11_octet 0 (.iload_n 1) 1 1 := by decide +kernel
theorem d11_octet_1 : zj cX11_octet 1 (.ifCond .lt 11) 11 4 12 := by decide +kernel
theorem d11_octet_4 : zd cX11_octet 4 (.iload_n 1) 1 5 := by decide +kernel
theorem d11_octet_5 : zd cX11_octet 5 (.aload_n 0) 1 6 := by decide +kernel
theorem d11_octet_6 : zd cX11_octet 6 (.getfield 438) 3 9 := by decide +kernel
theorem d11_octet_9 : zj cX11_octet 9 (.if_icmp .lt 7) 7 12 16 := by decide +kernel
theorem d11_octet_12 : zd cX11_octet 12 (.iconst (-1)) 1 13 := by decide +kernel
theorem d11_octet_13 : zj cX11_octet 13 (.goto 9) 9 16 22 := by decide +kernel
theorem d11_octet_16 : zd cX11_octet 16 (.aload_n 0) 1 17 := by decide +kernel
theorem d11_octet_17 : zd cX11_octet 17 (.getfield 47) 3 20 := by decide +kernel
theorem d11_octet_20 : zd cX11_octet 20 (.iload_n 1) 1 21 := by decide +kernel
theorem d11_octet_21 : zd cX11_octet 21 (.iaload) 1 22 := by decide +kernel
theorem d11_octet_22 : zd cX11_octet 22 (.ireturn) 1 23 := by decide +kernel
set_option maxHeartbeats 4000000 in
set_option maxRecDepth 20000 in
theorem c11_octet (l : Launch) (D : zDt) (Sh : zSh) (top : Nat) (hO : zOK Sh) (o_ : Nat) (v_k : Int32) (μ : zM) (r_ : Int32) (ho : (Sh o_).1 = 18) (h : f11_octet o_ v_k μ = some r_) : zMet l D zK1 yX11_octet cX11_octet 2 (some .int) (zrm 0 0) [.ref o_, .int v_k] Sh top μ (some (.int r_)) Sh top μ 0 0 := by
  refine zMet_of (by decide) (Nat.le_of_ble_eq_true rfl) fun X hX1 hX2 fx fin => ?_
  subst hX1; subst hX2
  replace fx : zFix X cX11_octet RX11 (zrm 0 0) 2 := fx
  show zZ zK1 X (zT0 Sh top) μ 0 [(0, .ref o_), (1, .int v_k)] []
  unfold f11_octet at h
  obtain ⟨x1, e1, h⟩ := zinv h
  have k2 : zZ zK1 X (zT0 Sh top) μ 22 [(0, .ref o_), (1, .int v_k)] [.int x1] := by
    cases h
    exact z_ireturn fx fin d11_octet_22
  have kt3 : ((clt v_k 0) || (!(clt v_k (gF μ 1116 o_)))) = true → zZ zK1 X (zT0 Sh top) μ 12 [(0, .ref o_), (1, .int v_k)] [] := by
    intro hc
    replace e1 := zif_t hc e1
    refine z_iconst fx (v := (-1)) icm1 d11_octet_12 ?_
    cases e1
    refine z_goto fx d11_octet_13 ?_
    exact k2
  have kf3 : ((clt v_k 0) || (!(clt v_k (gF μ 1116 o_)))) = false → zZ zK1 X (zT0 Sh top) μ 16 [(0, .ref o_), (1, .int v_k)] [] := by
    intro hc
    replace e1 := zif_f hc e1
    refine z_aload_n fx (k := 0) (i := 0) rfl rfl d11_octet_16 ?_
    refine z_getO fx 11 9 21 ho lf11_47 fk11_9 d11_octet_17 ?_
    refine z_iload_n fx (k := 1) (i := 1) rfl rfl d11_octet_20 ?_
    obtain ⟨t2, e4, e1⟩ := zinv e1
    refine z_iald fx (ok11_9 hO ho) e4 d11_octet_21 ?_
    cases e1
    exact k2
  clear e1
  refine z_iload_n fx (k := 1) (i := 1) rfl rfl d11_octet_0 ?_
  refine z_if_lt fx d11_octet_1 (fun c5 => ?_) (fun c5 => ?_)
  · exact kt3 (by simp [c5])
  · refine z_iload_n fx (k := 1) (i := 1) rfl rfl d11_octet_4 ?_
    refine z_aload_n fx (k := 0) (i := 0) rfl rfl d11_octet_5 ?_
    refine z_getI fx 11 16 1116 ho lf11_438 ⟨fk11_16, rfl⟩ d11_octet_6 ?_
    refine z_icmp_lt fx d11_octet_9 (fun c6 => ?_) (fun c6 => ?_)
    · exact kf3 (by simp [c5, c6])
    · exact kt3 (by simp [c5, c6])
theorem d11_isImage_0 : zd cX11_isImage 0 (.iconst 3) 1 1 := by decide +kernel
theorem d11_isImage_1 : zd cX11_isImage 1 (.aload_n 0) 1 2 := by decide +kernel
theorem d11_isImage_2 : zd cX11_isImage 2 (.getfield 56) 3 5 := by decide +kernel
theorem d11_isImage_5 : zd cX11_isImage 5 (.getfield 128) 3 8 := by decide +kernel
theorem d11_isImage_8 : zd cX11_isImage 8 (.imul) 1 9 := by decide +kernel
theorem d11_isImage_9 : zd cX11_isImage 9 (.aload_n 0) 1 10 := by decide +kernel
theorem d11_isImage_10 : zd cX11_isImage 10 (.getfield 56) 3 13 := by decide +kernel
theorem d11_isImage_13 : zd cX11_isImage 13 (.getfield 131) 3 16 := by decide +kernel
theorem d11_isImage_16 : zd cX11_isImage 16 (.iadd) 1 17 := by decide +kernel
theorem d11_isImage_17 : zd cX11_isImage 17 (.istore_n 2) 1 18 := by decide +kernel
theorem d11_isImage_18 : zd cX11_isImage 18 (.iload_n 2) 1 19 := by decide +kernel
theorem d11_isImage_19 : zd cX11_isImage 19 (.aload_n 0) 1 20 := by decide +kernel
theorem d11_isImage_20 : zd cX11_isImage 20 (.getfield 56) 3 23 := by decide +kernel
theorem d11_isImage_23 : zd cX11_isImage 23 (.getfield 134) 3 26 := by decide +kernel
theorem d11_isImage_26 : zd cX11_isImage 26 (.iadd) 1 27 := by decide +kernel
theorem d11_isImage_27 : zd cX11_isImage 27 (.istore_n 3) 1 28 := by decide +kernel
theorem d11_isImage_28 : zd cX11_isImage 28 (.iload_n 1) 1 29 := by decide +kernel
theorem d11_isImage_29 : zd cX11_isImage 29 (.iload_n 3) 1 30 := by decide +kernel
theorem d11_isImage_30 : zd cX11_isImage 30 (.iconst 1) 1 31 := by decide +kernel
theorem d11_isImage_31 : zd cX11_isImage 31 (.iadd) 1 32 := by decide +kernel
theorem d11_isImage_32 : zj cX11_isImage 32 (.if_icmp .ne 20) 20 35 52 := by decide +kernel
theorem d11_isImage_35 : zd cX11_isImage 35 (.aload_n 0) 1 36 := by decide +kernel
theorem d11_isImage_36 : zd cX11_isImage 36 (.getfield 9) 3 39 := by decide +kernel
theorem d11_isImage_39 : zd cX11_isImage 39 (.iload_n 3) 1 40 := by decide +kernel
theorem d11_isImage_40 : zd cX11_isImage 40 (.iaload) 1 41 := by decide +kernel
theorem d11_isImage_41 : zd cX11_isImage 41 (.aload_n 0) 1 42 := by decide +kernel
theorem d11_isImage_42 : zd cX11_isImage 42 (.getfield 9) 3 45 := by decide +kernel
theorem d11_isImage_45 : zd cX11_isImage 45 (.iload_n 3) 1 46 := by decide +kernel
theorem d11_isImage_46 : zd cX11_isImage 46 (.invokestatic 444) 3 49 := by decide +kernel
theorem d11_isImage_49 : zj cX11_isImage 49 (.if_icmp .eq 5) 5 52 54 := by decide +kernel
theorem d11_isImage_52 : zd cX11_isImage 52 (.iconst 0) 1 53 := by decide +kernel
theorem d11_isImage_53 : zd cX11_isImage 53 (.ireturn) 1 54 := by decide +kernel
theorem d11_isImage_54 : zd cX11_isImage 54 (.iconst 0) 1 55 := by decide +kernel
theorem d11_isImage_55 : zd cX11_isImage 55 (.istore 4) 2 57 := by decide +kernel
theorem d11_isImage_57 : zd cX11_isImage 57 (.iload 4) 2 59 := by decide +kernel
theorem d11_isImage_59 : zd cX11_isImage 59 (.iload_n 3) 1 60 := by decide +kernel
theorem d11_isImage_60 : zj cX11_isImage 60 (.if_icmp .ge 68) 68 63 128 := by decide +kernel
theorem d11_isImage_63 : zd cX11_isImage 63 (.iload 4) 2 65 := by decide +kernel
theorem d11_isImage_65 : zd cX11_isImage 65 (.iload_n 2) 1 66 := by decide +kernel
theorem d11_isImage_66 : zj cX11_isImage 66 (.if_icmp .lt 13) 13 69 79 := by decide +kernel
theorem d11_isImage_69 : zd cX11_isImage 69 (.aload_n 0) 1 70 := by decide +kernel
theorem d11_isImage_70 : zd cX11_isImage 70 (.getfield 56) 3 73 := by decide +kernel
theorem d11_isImage_73 : zd cX11_isImage 73 (.getfield 128) 3 76 := by decide +kernel
theorem d11_isImage_76 : zj cX11_isImage 76 (.goto 4) 4 79 80 := by decide +kernel
theorem d11_isImage_79 : zd cX11_isImage 79 (.iconst 2) 1 80 := by decide +kernel
theorem d11_isImage_80 : zd cX11_isImage 80 (.istore 5) 2 82 := by decide +kernel
theorem d11_isImage_82 : zd cX11_isImage 82 (.iload 4) 2 84 := by decide +kernel
theorem d11_isImage_84 : zd cX11_isImage 84 (.iconst 3) 1 85 := by decide +kernel
theorem d11_isImage_85 : zd cX11_isImage 85 (.aload_n 0) 1 86 := by decide +kernel
theorem d11_isImage_86 : zd cX11_isImage 86 (.getfield 56) 3 89 := by decide +kernel
theorem d11_isImage_89 : zd cX11_isImage 89 (.getfield 128) 3 92 := by decide +kernel
theorem d11_isImage_92 : zd cX11_isImage 92 (.imul) 1 93 := by decide +kernel
theorem d11_isImage_93 : zj cX11_isImage 93 (.if_icmp .ge 15) 15 96 108 := by decide +kernel
theorem d11_isImage_96 : zd cX11_isImage 96 (.iload 4) 2 98 := by decide +kernel
theorem d11_isImage_98 : zd cX11_isImage 98 (.iconst 3) 1 99 := by decide +kernel
theorem d11_isImage_99 : zd cX11_isImage 99 (.irem) 1 100 := by decide +kernel
theorem d11_isImage_100 : zd cX11_isImage 100 (.iconst 1) 1 101 := by decide +kernel
theorem d11_isImage_101 : zj cX11_isImage 101 (.if_icmp .ne 7) 7 104 108 := by decide +kernel
theorem d11_isImage_104 : zd cX11_isImage 104 (.bipush 16) 2 106 := by decide +kernel
theorem d11_isImage_106 : zd cX11_isImage 106 (.istore 5) 2 108 := by decide +kernel
theorem d11_isImage_108 : zd cX11_isImage 108 (.aload_n 0) 1 109 := by decide +kernel
theorem d11_isImage_109 : zd cX11_isImage 109 (.getfield 9) 3 112 := by decide +kernel
theorem d11_isImage_112 : zd cX11_isImage 112 (.iload 4) 2 114 := by decide +kernel
theorem d11_isImage_114 : zd cX11_isImage 114 (.iaload) 1 115 := by decide +kernel
theorem d11_isImage_115 : zd cX11_isImage 115 (.iload 5) 2 117 := by decide +kernel
theorem d11_isImage_117 : zj cX11_isImage 117 (.if_icmp .lt 5) 5 120 122 := by decide +kernel
theorem d11_isImage_120 : zd cX11_isImage 120 (.iconst 0) 1 121 := by decide +kernel
theorem d11_isImage_121 : zd cX11_isImage 121 (.ireturn) 1 122 := by decide +kernel
theorem d11_isImage_122 : zd cX11_isImage 122 (.iinc 4 1) 3 125 := by decide +kernel
theorem d11_isImage_125 : zj cX11_isImage 125 (.goto (-68)) (-68) 128 57 := by decide +kernel
theorem d11_isImage_128 : zd cX11_isImage 128 (.iconst 1) 1 129 := by decide +kernel
theorem d11_isImage_129 : zd cX11_isImage 129 (.ireturn) 1 130 := by decide +kernel
set_option maxHeartbeats 4000000 in
set_option maxRecDepth 20000 in
theorem c11_isImage (l : Launch) (D : zDt) (Sh : zSh) (top : Nat) (hO : zOK Sh) (o_ : Nat) (v_length : Int32) (μ : zM) (r_ : Bool) (ho : (Sh o_).1 = 18) (h : f11_isImage o_ v_length μ = some r_) : zMet l D zK1 yX11_isImage cX11_isImage 6 (some .boolean) (zrm 1 23) [.ref o_, .int v_length] Sh top μ (some (.int (bI r_))) Sh top μ 0 0 := by
  refine zMet_of (by decide) (Nat.le_of_ble_eq_true rfl) fun X hX1 hX2 fx fin => ?_
  subst hX1; subst hX2
  replace fx : zFix X cX11_isImage RX11 (zrm 1 23) 6 := fx
  show zZ zK1 X (zT0 Sh top) μ 0 [(0, .ref o_), (1, .int v_length)] []
  unfold f11_isImage at h
  refine z_iconst fx (v := 3) ic3 d11_isImage_0 ?_
  refine z_aload_n fx (k := 0) (i := 0) rfl rfl d11_isImage_1 ?_
  obtain ⟨w1, e1, h⟩ := zinv h
  refine z_getR fx 11 11 1111 17 ho lf11_56 ⟨fk11_11, rfl⟩ e1 d11_isImage_2 (fun tw1 => ?_)
  refine z_getI fx 10 15 1015 tw1 lf11_128 ⟨fk10_15, rfl⟩ d11_isImage_5 ?_
  refine z_imul fx d11_isImage_8 ?_
  refine z_aload_n fx (k := 0) (i := 0) rfl rfl d11_isImage_9 ?_
  obtain ⟨w2, e2, h⟩ := zinv h
  refine z_getR fx 11 11 1111 17 ho lf11_56 ⟨fk11_11, rfl⟩ e2 d11_isImage_10 (fun tw2 => ?_)
  refine z_getI fx 10 16 1016 tw2 lf11_131 ⟨fk10_16, rfl⟩ d11_isImage_13 ?_
  refine z_iadd fx d11_isImage_16 ?_
  obtain ⟨v_hostsAt_3, e3, h⟩ := zinv h
  replace e3 := Option.some.inj e3
  refine z_top (congrArg Value.int e3) ?_
  refine z_istore_n fx (k := 2) (i := 2) rfl rfl (lv' := [(0, .ref o_), (1, .int v_length), (2, .int v_hostsAt_3)]) rfl rfl d11_isImage_17 ?_
  refine z_iload_n fx (k := 2) (i := 2) rfl rfl d11_isImage_18 ?_
  refine z_aload_n fx (k := 0) (i := 0) rfl rfl d11_isImage_19 ?_
  obtain ⟨w4, e4, h⟩ := zinv h
  refine z_getR fx 11 11 1111 17 ho lf11_56 ⟨fk11_11, rfl⟩ e4 d11_isImage_20 (fun tw4 => ?_)
  refine z_getI fx 10 17 1017 tw4 lf11_134 ⟨fk10_17, rfl⟩ d11_isImage_23 ?_
  refine z_iadd fx d11_isImage_26 ?_
  obtain ⟨v_checkAt_5, e5, h⟩ := zinv h
  replace e5 := Option.some.inj e5
  refine z_top (congrArg Value.int e5) ?_
  refine z_istore_n fx (k := 3) (i := 3) rfl rfl (lv' := [(0, .ref o_), (1, .int v_length), (2, .int v_hostsAt_3), (3, .int v_checkAt_5)]) rfl rfl d11_isImage_27 ?_
  obtain ⟨b6, e7, h⟩ := zinv h
  have kt6 : b6 = true → zZ zK1 X (zT0 Sh top) μ 52 [(0, .ref o_), (1, .int v_length), (2, .int v_hostsAt_3), (3, .int v_checkAt_5)] [] := by
    intro hc
    replace h := zif_t hc h
    refine z_iconst fx (v := 0) ic0 d11_isImage_52 ?_
    refine z_top (show Value.int 0 = .int (bI false) from rfl) ?_
    cases h
    exact z_zreturn fx fin d11_isImage_53
  have kf6 : b6 = false → zZ zK1 X (zT0 Sh top) μ 54 [(0, .ref o_), (1, .int v_length), (2, .int v_hostsAt_3), (3, .int v_checkAt_5)] [] := by
    intro hc
    replace h := zif_f hc h
    refine z_iconst fx (v := 0) ic0 d11_isImage_54 ?_
    refine z_istore fx (i := 4) rfl (lv' := [(0, .ref o_), (1, .int v_length), (2, .int v_hostsAt_3), (3, .int v_checkAt_5), (4, .int 0)]) rfl rfl d11_isImage_55 ?_
    obtain ⟨r10, e31, h⟩ := zinv h
    have kx11 : ∀ (v_k_8 : Int32), r10 = .inr v_k_8 → zZ zK1 X (zT0 Sh top) μ 128 [(0, .ref o_), (1, .int v_length), (2, .int v_hostsAt_3), (3, .int v_checkAt_5), (4, .int v_k_8)] [] := by
      intro v_k_8 hr
      subst hr
      replace h := zel1 h
      refine z_take 4 (lv' := [(0, .ref o_), (1, .int v_length), (2, .int v_hostsAt_3), (3, .int v_checkAt_5)]) rfl ?_
      refine z_iconst fx (v := 1) ic1 d11_isImage_128 ?_
      refine z_top (show Value.int 1 = .int (bI true) from rfl) ?_
      cases h
      exact z_zreturn fx fin d11_isImage_129
    have klr10 : ∀ (n : Nat) (v_k_7 : Int32), zloop (fun s => f11_isImage_L1 o_ μ v_hostsAt_3 v_checkAt_5 s) n v_k_7 = some r10 → zZ zK1 X (zT0 Sh top) μ 57 [(0, .ref o_), (1, .int v_length), (2, .int v_hostsAt_3), (3, .int v_checkAt_5), (4, .int v_k_7)] [] := by
      intro n
      induction n with
      | zero => intro v_k_7 hl9; cases hl9
      | succ n ih12 =>
        intro v_k_7 hl9
        obtain ⟨y, e8, hl9⟩ := zloop_inv hl9
        replace e8 : f11_isImage_L1 o_ μ v_hostsAt_3 v_checkAt_5 v_k_7 = some y := e8
        unfold f11_isImage_L1 at e8
        refine z_iload fx (i := 4) rfl d11_isImage_57 ?_
        refine z_iload_n fx (k := 3) (i := 3) rfl rfl d11_isImage_59 ?_
        refine z_icmp_ge fx d11_isImage_60 (fun c13 => ?_) (fun c13 => ?_)
        · replace e8 := zif_f c13 e8
          cases e8
          exact kx11 _ (Eq.symm hl9)
        · replace e8 := zif_t c13 e8
          obtain ⟨x9, e14, e8⟩ := zinv e8
          have k15 : zZ zK1 X (zT0 Sh top) μ 80 [(0, .ref o_), (1, .int v_length), (2, .int v_hostsAt_3), (3, .int v_checkAt_5), (4, .int v_k_7)] [.int x9] := by
            refine z_istore fx (i := 5) rfl (lv' := [(0, .ref o_), (1, .int v_length), (2, .int v_hostsAt_3), (3, .int v_checkAt_5), (4, .int v_k_7), (5, .int x9)]) rfl rfl d11_isImage_80 ?_
            obtain ⟨v_limit_11, e18, e8⟩ := zinv e8
            have k19 : zZ zK1 X (zT0 Sh top) μ 108 [(0, .ref o_), (1, .int v_length), (2, .int v_hostsAt_3), (3, .int v_checkAt_5), (4, .int v_k_7), (5, .int v_limit_11)] [] := by
              refine z_aload_n fx (k := 0) (i := 0) rfl rfl d11_isImage_108 ?_
              refine z_getO fx 11 0 1 ho lf11_9 fk11_0 d11_isImage_109 ?_
              refine z_iload fx (i := 4) rfl d11_isImage_112 ?_
              obtain ⟨t12, e20, e8⟩ := zinv e8
              refine z_iald fx (ok11_0 hO ho) e20 d11_isImage_114 ?_
              refine z_iload fx (i := 5) rfl d11_isImage_115 ?_
              refine z_icmp_lt fx d11_isImage_117 (fun c21 => ?_) (fun c21 => ?_)
              · replace e8 := zif_t c21 e8
                refine z_take 5 (lv' := [(0, .ref o_), (1, .int v_length), (2, .int v_hostsAt_3), (3, .int v_checkAt_5), (4, .int v_k_7)]) rfl ?_
                obtain ⟨v_k_13, e22, e8⟩ := zinv e8
                replace e22 := Option.some.inj e22
                refine z_iinc fx (i := 4) (x := v_k_7) (v := v_k_13) rfl (by rw [in1]; exact e22) rfl (lv' := [(0, .ref o_), (1, .int v_length), (2, .int v_hostsAt_3), (3, .int v_checkAt_5), (4, .int v_k_13)]) rfl rfl d11_isImage_122 ?_
                cases e8
                refine z_goto fx d11_isImage_125 ?_
                exact ih12 _ hl9
              · replace e8 := zif_f c21 e8
                refine z_iconst fx (v := 0) ic0 d11_isImage_120 ?_
                refine z_top (show Value.int 0 = .int (bI false) from rfl) ?_
                cases e8
                cases hl9
                cases h
                exact z_zreturn fx fin d11_isImage_121
            clear e8
            obtain ⟨b14, e24, e18⟩ := zinv e18
            have kt23 : b14 = true → zZ zK1 X (zT0 Sh top) μ 104 [(0, .ref o_), (1, .int v_length), (2, .int v_hostsAt_3), (3, .int v_checkAt_5), (4, .int v_k_7), (5, .int x9)] [] := by
              intro hc
              replace e18 := zif_t hc e18
              refine z_bipush fx (v := 16) bp16 d11_isImage_104 ?_
              refine z_istore fx (i := 5) rfl (lv' := [(0, .ref o_), (1, .int v_length), (2, .int v_hostsAt_3), (3, .int v_checkAt_5), (4, .int v_k_7), (5, .int 16)]) rfl rfl d11_isImage_106 ?_
              cases e18
              exact k19
            have kf23 : b14 = false → zZ zK1 X (zT0 Sh top) μ 108 [(0, .ref o_), (1, .int v_length), (2, .int v_hostsAt_3), (3, .int v_checkAt_5), (4, .int v_k_7), (5, .int x9)] [] := by
              intro hc
              replace e18 := zif_f hc e18
              cases e18
              exact k19
            clear e18
            obtain ⟨b15, e25, e24⟩ := zinv e24
            have kt26 : b15 = true → zZ zK1 X (zT0 Sh top) μ 96 [(0, .ref o_), (1, .int v_length), (2, .int v_hostsAt_3), (3, .int v_checkAt_5), (4, .int v_k_7), (5, .int x9)] [] := by
              intro hc
              replace e24 := zif_t hc e24
              refine z_iload fx (i := 4) rfl d11_isImage_96 ?_
              refine z_iconst fx (v := 3) ic3 d11_isImage_98 ?_
              obtain ⟨t16, e27, e24⟩ := zinv e24
              refine z_irem fx e27 d11_isImage_99 ?_
              refine z_iconst fx (v := 1) ic1 d11_isImage_100 ?_
              cases e24
              refine z_icmp_ne fx d11_isImage_101 (fun c28 => ?_) (fun c28 => ?_)
              · exact kf23 c28
              · exact kt23 c28
            have kf26 : b15 = false → zZ zK1 X (zT0 Sh top) μ 108 [(0, .ref o_), (1, .int v_length), (2, .int v_hostsAt_3), (3, .int v_checkAt_5), (4, .int v_k_7), (5, .int x9)] [] := by
              intro hc
              replace e24 := zif_f hc e24
              cases e24
              exact kf23 rfl
            clear e24
            refine z_iload fx (i := 4) rfl d11_isImage_82 ?_
            refine z_iconst fx (v := 3) ic3 d11_isImage_84 ?_
            refine z_aload_n fx (k := 0) (i := 0) rfl rfl d11_isImage_85 ?_
            obtain ⟨w17, e29, e25⟩ := zinv e25
            refine z_getR fx 11 11 1111 17 ho lf11_56 ⟨fk11_11, rfl⟩ e29 d11_isImage_86 (fun tw17 => ?_)
            refine z_getI fx 10 15 1015 tw17 lf11_128 ⟨fk10_15, rfl⟩ d11_isImage_89 ?_
            refine z_imul fx d11_isImage_92 ?_
            cases e25
            refine z_icmp_ge fx d11_isImage_93 (fun c30 => ?_) (fun c30 => ?_)
            · exact kf26 c30
            · exact kt26 c30
          refine z_iload fx (i := 4) rfl d11_isImage_63 ?_
          refine z_iload_n fx (k := 2) (i := 2) rfl rfl d11_isImage_65 ?_
          refine z_icmp_lt fx d11_isImage_66 (fun c16 => ?_) (fun c16 => ?_)
          · replace e14 := zif_t c16 e14
            refine z_iconst fx (v := 2) ic2 d11_isImage_79 ?_
            cases e14
            exact k15
          · replace e14 := zif_f c16 e14
            refine z_aload_n fx (k := 0) (i := 0) rfl rfl d11_isImage_69 ?_
            obtain ⟨w10, e17, e14⟩ := zinv e14
            refine z_getR fx 11 11 1111 17 ho lf11_56 ⟨fk11_11, rfl⟩ e17 d11_isImage_70 (fun tw10 => ?_)
            refine z_getI fx 10 15 1015 tw10 lf11_128 ⟨fk10_15, rfl⟩ d11_isImage_73 ?_
            cases e14
            refine z_goto fx d11_isImage_76 ?_
            exact k15
    exact klr10 _ _ e31
  clear h
  refine z_iload_n fx (k := 1) (i := 1) rfl rfl d11_isImage_28 ?_
  refine z_iload_n fx (k := 3) (i := 3) rfl rfl d11_isImage_29 ?_
  refine z_iconst fx (v := 1) ic1 d11_isImage_30 ?_
  refine z_iadd fx d11_isImage_31 ?_
  refine z_icmp_ne fx d11_isImage_32 (fun c32 => ?_) (fun c32 => ?_)
  · replace e7 := zif_f c32 e7
    cases e7
    exact kt6 rfl
  · replace e7 := zif_t c32 e7
    refine z_aload_n fx (k := 0) (i := 0) rfl rfl d11_isImage_35 ?_
    refine z_getO fx 11 0 1 ho lf11_9 fk11_0 d11_isImage_36 ?_
    refine z_iload_n fx (k := 3) (i := 3) rfl rfl d11_isImage_39 ?_
    obtain ⟨t18, e33, e7⟩ := zinv e7
    refine z_iald fx (ok11_0 hO ho) e33 d11_isImage_40 ?_
    refine z_aload_n fx (k := 0) (i := 0) rfl rfl d11_isImage_41 ?_
    refine z_getO fx 11 0 1 ho lf11_9 fk11_0 d11_isImage_42 ?_
    refine z_iload_n fx (k := 3) (i := 3) rfl rfl d11_isImage_45 ?_
    obtain ⟨t19, e34, e7⟩ := zinv e7
    refine z_cSr fx (c11_checkOf (zLo X) (zDo X) Sh top hO (o_ + 1) 1600 v_checkAt_5 μ _ (ok11_0 hO ho) e34) ms11_checkOf ml11_444 rfl rfl rfl rfl d11_isImage_46 ?_
    cases e7
    refine z_icmp_eq fx d11_isImage_49 (fun c35 => ?_) (fun c35 => ?_)
    · exact kf6 (by rw [c35]; rfl)
    · exact kt6 (by rw [c35]; rfl)
theorem d11_on_0 : zd cX11_on 0 (.aload_n 0) 1 1 := by decide +kernel
theorem d11_on_1 : zd cX11_on 1 (.invokevirtual 101) 3 4 := by decide +kernel
theorem d11_on_4 : zd cX11_on 4 (.istore_n 1) 1 5 := by decide +kernel
theorem d11_on_5 : zd cX11_on 5 (.aload_n 0) 1 6 := by decide +kernel
theorem d11_on_6 : zd cX11_on 6 (.getfield 56) 3 9 := by decide +kernel
theorem d11_on_9 : zd cX11_on 9 (.getfield 300) 3 12 := by decide +kernel
theorem d11_on_12 : zj cX11_on 12 (.ifCond .eq 11) 11 15 23 := by decide +kernel
theorem d11_on_15 : zd cX11_on 15 (.aload_n 0) 1 16 := by decide +kernel
theorem d11_on_16 : zd cX11_on 16 (.iload_n 1) 1 17 := by decide +kernel
theorem d11_on_17 : zd cX11_on 17 (.invokevirtual 448) 3 20 := by decide +kernel
theorem d11_on_20 : zj cX11_on 20 (.ifCond .ne 9) 9 23 29 := by decide +kernel
theorem d11_on_23 : zd cX11_on 23 (.aload_n 0) 1 24 := by decide +kernel
theorem d11_on_24 : zd cX11_on 24 (.iconst 5) 1 25 := by decide +kernel
theorem d11_on_25 : zd cX11_on 25 (.invokevirtual 97) 3 28 := by decide +kernel
theorem d11_on_28 : zd cX11_on 28 (.ireturn) 1 29 := by decide +kernel
theorem d11_on_29 : zd cX11_on 29 (.iconst 0) 1 30 := by decide +kernel
theorem d11_on_30 : zd cX11_on 30 (.istore_n 2) 1 31 := by decide +kernel
theorem d11_on_31 : zd cX11_on 31 (.iconst 0) 1 32 := by decide +kernel
theorem d11_on_32 : zd cX11_on 32 (.istore_n 3) 1 33 := by decide +kernel
theorem d11_on_33 : zd cX11_on 33 (.iload_n 3) 1 34 := by decide +kernel
theorem d11_on_34 : zd cX11_on 34 (.aload_n 0) 1 35 := by decide +kernel
theorem d11_on_35 : zd cX11_on 35 (.getfield 56) 3 38 := by decide +kernel
theorem d11_on_38 : zd cX11_on 38 (.getfield 128) 3 41 := by decide +kernel
theorem d11_on_41 : zj cX11_on 41 (.if_icmp .ge 88) 88 44 129 := by decide +kernel
theorem d11_on_44 : zd cX11_on 44 (.aload_n 0) 1 45 := by decide +kernel
theorem d11_on_45 : zd cX11_on 45 (.getfield 75) 3 48 := by decide +kernel
theorem d11_on_48 : zd cX11_on 48 (.getfield 195) 3 51 := by decide +kernel
theorem d11_on_51 : zd cX11_on 51 (.iload_n 3) 1 52 := by decide +kernel
theorem d11_on_52 : zd cX11_on 52 (.aaload) 1 53 := by decide +kernel
theorem d11_on_53 : zd cX11_on 53 (.aload_n 0) 1 54 := by decide +kernel
theorem d11_on_54 : zd cX11_on 54 (.getfield 9) 3 57 := by decide +kernel
theorem d11_on_57 : zd cX11_on 57 (.iload_n 2) 1 58 := by decide +kernel
theorem d11_on_58 : zd cX11_on 58 (.iaload) 1 59 := by decide +kernel
theorem d11_on_59 : zd cX11_on 59 (.iconst 1) 1 60 := by decide +kernel
theorem d11_on_60 : zj cX11_on 60 (.if_icmp .ne 7) 7 63 67 := by decide +kernel
theorem d11_on_63 : zd cX11_on 63 (.iconst 1) 1 64 := by decide +kernel
theorem d11_on_64 : zj cX11_on 64 (.goto 4) 4 67 68 := by decide +kernel
theorem d11_on_67 : zd cX11_on 67 (.iconst 0) 1 68 := by decide +kernel
theorem d11_on_68 : zd cX11_on 68 (.putfield 209) 3 71 := by decide +kernel
theorem d11_on_71 : zd cX11_on 71 (.aload_n 0) 1 72 := by decide +kernel
theorem d11_on_72 : zd cX11_on 72 (.getfield 75) 3 75 := by decide +kernel
theorem d11_on_75 : zd cX11_on 75 (.getfield 195) 3 78 := by decide +kernel
theorem d11_on_78 : zd cX11_on 78 (.iload_n 3) 1 79 := by decide +kernel
theorem d11_on_79 : zd cX11_on 79 (.aaload) 1 80 := by decide +kernel
theorem d11_on_80 : zd cX11_on 80 (.aload_n 0) 1 81 := by decide +kernel
theorem d11_on_81 : zd cX11_on 81 (.getfield 9) 3 84 := by decide +kernel
theorem d11_on_84 : zd cX11_on 84 (.iload_n 2) 1 85 := by decide +kernel
theorem d11_on_85 : zd cX11_on 85 (.iconst 1) 1 86 := by decide +kernel
theorem d11_on_86 : zd cX11_on 86 (.iadd) 1 87 := by decide +kernel
theorem d11_on_87 : zd cX11_on 87 (.iaload) 1 88 := by decide +kernel
theorem d11_on_88 : zd cX11_on 88 (.putfield 403) 3 91 := by decide +kernel
theorem d11_on_91 : zd cX11_on 91 (.aload_n 0) 1 92 := by decide +kernel
theorem d11_on_92 : zd cX11_on 92 (.getfield 75) 3 95 := by decide +kernel
theorem d11_on_95 : zd cX11_on 95 (.getfield 195) 3 98 := by decide +kernel
theorem d11_on_98 : zd cX11_on 98 (.iload_n 3) 1 99 := by decide +kernel
theorem d11_on_99 : zd cX11_on 99 (.aaload) 1 100 := by decide +kernel
theorem d11_on_100 : zd cX11_on 100 (.aload_n 0) 1 101 := by decide +kernel
theorem d11_on_101 : zd cX11_on 101 (.getfield 9) 3 104 := by decide +kernel
theorem d11_on_104 : zd cX11_on 104 (.iload_n 2) 1 105 := by decide +kernel
theorem d11_on_105 : zd cX11_on 105 (.iconst 2) 1 106 := by decide +kernel
theorem d11_on_106 : zd cX11_on 106 (.iadd) 1 107 := by decide +kernel
theorem d11_on_107 : zd cX11_on 107 (.iaload) 1 108 := by decide +kernel
theorem d11_on_108 : zd cX11_on 108 (.iconst 1) 1 109 := by decide +kernel
theorem d11_on_109 : zj cX11_on 109 (.if_icmp .ne 7) 7 112 116 := by decide +kernel
theorem d11_on_112 : zd cX11_on 112 (.iconst 1) 1 113 := by decide +kernel
theorem d11_on_113 : zj cX11_on 113 (.goto 4) 4 116 117 := by decide +kernel
theorem d11_on_116 : zd cX11_on 116 (.iconst 0) 1 117 := by decide +kernel
theorem d11_on_117 : zd cX11_on 117 (.putfield 206) 3 120 := by decide +kernel
theorem d11_on_120 : zd cX11_on 120 (.iinc 2 3) 3 123 := by decide +kernel
theorem d11_on_123 : zd cX11_on 123 (.iinc 3 1) 3 126 := by decide +kernel
theorem d11_on_126 : zj cX11_on 126 (.goto (-93)) (-93) 129 33 := by decide +kernel
theorem d11_on_129 : zd cX11_on 129 (.iconst 0) 1 130 := by decide +kernel
theorem d11_on_130 : zd cX11_on 130 (.istore_n 3) 1 131 := by decide +kernel
theorem d11_on_131 : zd cX11_on 131 (.iload_n 3) 1 132 := by decide +kernel
theorem d11_on_132 : zd cX11_on 132 (.aload_n 0) 1 133 := by decide +kernel
theorem d11_on_133 : zd cX11_on 133 (.getfield 56) 3 136 := by decide +kernel
theorem d11_on_136 : zd cX11_on 136 (.getfield 131) 3 139 := by decide +kernel
theorem d11_on_139 : zj cX11_on 139 (.if_icmp .ge 36) 36 142 175 := by decide +kernel
theorem d11_on_142 : zd cX11_on 142 (.aload_n 0) 1 143 := by decide +kernel
theorem d11_on_143 : zd cX11_on 143 (.getfield 75) 3 146 := by decide +kernel
theorem d11_on_146 : zd cX11_on 146 (.getfield 188) 3 149 := by decide +kernel
theorem d11_on_149 : zd cX11_on 149 (.iload_n 3) 1 150 := by decide +kernel
theorem d11_on_150 : zd cX11_on 150 (.aload_n 0) 1 151 := by decide +kernel
theorem d11_on_151 : zd cX11_on 151 (.getfield 9) 3 154 := by decide +kernel
theorem d11_on_154 : zd cX11_on 154 (.iload_n 2) 1 155 := by decide +kernel
theorem d11_on_155 : zd cX11_on 155 (.iaload) 1 156 := by decide +kernel
theorem d11_on_156 : zd cX11_on 156 (.iconst 1) 1 157 := by decide +kernel
theorem d11_on_157 : zj cX11_on 157 (.if_icmp .ne 7) 7 160 164 := by decide +kernel
theorem d11_on_160 : zd cX11_on 160 (.iconst 1) 1 161 := by decide +kernel
theorem d11_on_161 : zj cX11_on 161 (.goto 4) 4 164 165 := by decide +kernel
theorem d11_on_164 : zd cX11_on 164 (.iconst 0) 1 165 := by decide +kernel
theorem d11_on_165 : zd cX11_on 165 (.bastore) 1 166 := by decide +kernel
theorem d11_on_166 : zd cX11_on 166 (.iinc 2 1) 3 169 := by decide +kernel
theorem d11_on_169 : zd cX11_on 169 (.iinc 3 1) 3 172 := by decide +kernel
theorem d11_on_172 : zj cX11_on 172 (.goto (-41)) (-41) 175 131 := by decide +kernel
theorem d11_on_175 : zd cX11_on 175 (.iconst 0) 1 176 := by decide +kernel
theorem d11_on_176 : zd cX11_on 176 (.istore_n 3) 1 177 := by decide +kernel
theorem d11_on_177 : zd cX11_on 177 (.iload_n 3) 1 178 := by decide +kernel
theorem d11_on_178 : zd cX11_on 178 (.aload_n 0) 1 179 := by decide +kernel
theorem d11_on_179 : zd cX11_on 179 (.getfield 56) 3 182 := by decide +kernel
theorem d11_on_182 : zd cX11_on 182 (.getfield 134) 3 185 := by decide +kernel
theorem d11_on_185 : zj cX11_on 185 (.if_icmp .ge 27) 27 188 212 := by decide +kernel
theorem d11_on_188 : zd cX11_on 188 (.aload_n 0) 1 189 := by decide +kernel
theorem d11_on_189 : zd cX11_on 189 (.getfield 75) 3 192 := by decide +kernel
theorem d11_on_192 : zd cX11_on 192 (.getfield 413) 3 195 := by decide +kernel
theorem d11_on_195 : zd cX11_on 195 (.iload_n 3) 1 196 := by decide +kernel
theorem d11_on_196 : zd cX11_on 196 (.aload_n 0) 1 197 := by decide +kernel
theorem d11_on_197 : zd cX11_on 197 (.getfield 9) 3 200 := by decide +kernel
theorem d11_on_200 : zd cX11_on 200 (.iload_n 2) 1 201 := by decide +kernel
theorem d11_on_201 : zd cX11_on 201 (.iaload) 1 202 := by decide +kernel
theorem d11_on_202 : zd cX11_on 202 (.iastore) 1 203 := by decide +kernel
theorem d11_on_203 : zd cX11_on 203 (.iinc 2 1) 3 206 := by decide +kernel
theorem d11_on_206 : zd cX11_on 206 (.iinc 3 1) 3 209 := by decide +kernel
theorem d11_on_209 : zj cX11_on 209 (.goto (-32)) (-32) 212 177 := by decide +kernel
theorem d11_on_212 : zd cX11_on 212 (.aload_n 0) 1 213 := by decide +kernel
theorem d11_on_213 : zd cX11_on 213 (.getfield 75) 3 216 := by decide +kernel
theorem d11_on_216 : zd cX11_on 216 (.invokevirtual 451) 3 219 := by decide +kernel
theorem d11_on_219 : zd cX11_on 219 (.aload_n 0) 1 220 := by decide +kernel
theorem d11_on_220 : zd cX11_on 220 (.iconst 0) 1 221 := by decide +kernel
theorem d11_on_221 : zd cX11_on 221 (.putfield 119) 3 224 := by decide +kernel
theorem d11_on_224 : zd cX11_on 224 (.iconst 1) 1 225 := by decide +kernel
theorem d11_on_225 : zd cX11_on 225 (.ireturn) 1 226 := by decide +kernel
set_option maxHeartbeats 4000000 in
set_option maxRecDepth 20000 in
theorem c11_on (l : Launch) (D : zDt) (Sh : zSh) (top : Nat) (hO : zOK Sh) (o_ : Nat) (μ : zM) (r_ : Bool) (μ_ : zM) (ho : (Sh o_).1 = 18) (h : f11_on o_ μ = some (r_, μ_)) : zMet l D zK1 yX11_on cX11_on 4 (some .boolean) (zrm 6 137) [.ref o_] Sh top μ (some (.int (bI r_))) Sh top μ_ 0 0 := by
  refine zMet_of (by decide) (Nat.le_of_ble_eq_true rfl) fun X hX1 hX2 fx fin => ?_
  subst hX1; subst hX2
  replace fx : zFix X cX11_on RX11 (zrm 6 137) 4 := fx
  show zZ zK1 X (zT0 Sh top) μ 0 [(0, .ref o_)] []
  unfold f11_on at h
  refine z_aload_n fx (k := 0) (i := 0) rfl rfl d11_on_0 ?_
  obtain ⟨t1, μ2, e1, h⟩ := zinv2 h
  refine z_cVr fx (c11_takeTape (zLo X) (zDo X) Sh top hO o_ μ _ _ ho e1) mv11_takeTape ml11_101 ho rfl rfl rfl rfl d11_on_1 ?_
  refine z_istore_n fx (k := 1) (i := 1) rfl rfl (lv' := [(0, .ref o_), (1, .int t1)]) rfl rfl d11_on_4 ?_
  obtain ⟨b3, e3, h⟩ := zinv h
  have kt2 : b3 = true → zZ zK1 X (zT0 Sh top) μ2 23 [(0, .ref o_), (1, .int t1)] [] := by
    intro hc
    replace h := zif_t hc h
    refine z_aload_n fx (k := 0) (i := 0) rfl rfl d11_on_23 ?_
    refine z_iconst fx (v := 5) ic5 d11_on_24 ?_
    obtain ⟨t4, μ5, e4, h⟩ := zinv2 h
    refine z_cVr fx (c11_refuses (zLo X) (zDo X) Sh top hO o_ 5 μ2 _ _ ho e4) mv11_refuses ml11_97 ho rfl rfl rfl rfl d11_on_25 ?_
    cases h
    exact z_zreturn fx fin d11_on_28
  have kf2 : b3 = false → zZ zK1 X (zT0 Sh top) μ2 29 [(0, .ref o_), (1, .int t1)] [] := by
    intro hc
    replace h := zif_f hc h
    refine z_iconst fx (v := 0) ic0 d11_on_29 ?_
    refine z_istore_n fx (k := 2) (i := 2) rfl rfl (lv' := [(0, .ref o_), (1, .int t1), (2, .int 0)]) rfl rfl d11_on_30 ?_
    refine z_iconst fx (v := 0) ic0 d11_on_31 ?_
    refine z_istore_n fx (k := 3) (i := 3) rfl rfl (lv' := [(0, .ref o_), (1, .int t1), (2, .int 0), (3, .int 0)]) rfl rfl d11_on_32 ?_
    obtain ⟨v_at_9, v_b_10, μ11, e61, h⟩ := zinv3 h
    have kx8 : zZ zK1 X (zT0 Sh top) μ11 129 [(0, .ref o_), (1, .int t1), (2, .int v_at_9), (3, .int v_b_10)] [] := by
      refine z_take 3 (lv' := [(0, .ref o_), (1, .int t1), (2, .int v_at_9)]) rfl ?_
      refine z_iconst fx (v := 0) ic0 d11_on_129 ?_
      refine z_istore_n fx (k := 3) (i := 3) rfl rfl (lv' := [(0, .ref o_), (1, .int t1), (2, .int v_at_9), (3, .int 0)]) rfl rfl d11_on_130 ?_
      obtain ⟨v_at_29, v_link_30, μ31, e60, h⟩ := zinv3 h
      have kx34 : zZ zK1 X (zT0 Sh top) μ31 175 [(0, .ref o_), (1, .int t1), (2, .int v_at_29), (3, .int v_link_30)] [] := by
        refine z_take 3 (lv' := [(0, .ref o_), (1, .int t1), (2, .int v_at_29)]) rfl ?_
        refine z_iconst fx (v := 0) ic0 d11_on_175 ?_
        refine z_istore_n fx (k := 3) (i := 3) rfl rfl (lv' := [(0, .ref o_), (1, .int t1), (2, .int v_at_29), (3, .int 0)]) rfl rfl d11_on_176 ?_
        obtain ⟨v_at_41, v_host_42, μ43, e59, h⟩ := zinv3 h
        have kx49 : zZ zK1 X (zT0 Sh top) μ43 212 [(0, .ref o_), (1, .int t1), (2, .int v_at_41), (3, .int v_host_42)] [] := by
          refine z_take 3 (lv' := [(0, .ref o_), (1, .int t1), (2, .int v_at_41)]) rfl ?_
          refine z_aload_n fx (k := 0) (i := 0) rfl rfl d11_on_212 ?_
          refine z_getO fx 11 3 51 ho lf11_75 fk11_3 d11_on_213 ?_
          obtain ⟨μ49, e57, h⟩ := zinv h
          refine z_cVv fx (c8_begin (zLo X) (zDo X) Sh top hO (o_ + 51) μ43 _ (ok11_3 hO ho) e57) mv8_begin ml11_451 (ok11_3 hO ho) rfl rfl rfl rfl d11_on_216 ?_
          refine z_aload_n fx (k := 0) (i := 0) rfl rfl d11_on_219 ?_
          refine z_iconst fx (v := 0) ic0 d11_on_220 ?_
          obtain ⟨μ50, e58, h⟩ := zinv h
          refine z_putI fx (ci := 11) 15 ho lf11_119 fp11_15 e58 d11_on_221 ?_
          refine z_iconst fx (v := 1) ic1 d11_on_224 ?_
          refine z_top (show Value.int 1 = .int (bI true) from rfl) ?_
          cases h
          exact z_zreturn fx fin d11_on_225
        clear h
        have klr48 : ∀ (n : Nat) (v_at_38 : Int32) (v_host_39 : Int32) (μ40 : zM), zloop (fun s => f11_on_L3 o_ s.1 s.2.1 s.2.2) n (v_at_38, v_host_39, μ40) = some (v_at_41, v_host_42, μ43) → zZ zK1 X (zT0 Sh top) μ40 177 [(0, .ref o_), (1, .int t1), (2, .int v_at_38), (3, .int v_host_39)] [] := by
          intro n
          induction n with
          | zero => intro v_at_38 v_host_39 μ40 hl47; cases hl47
          | succ n ih50 =>
            intro v_at_38 v_host_39 μ40 hl47
            obtain ⟨y, e46, hl47⟩ := zloop_inv hl47
            replace e46 : f11_on_L3 o_ v_at_38 v_host_39 μ40 = some y := e46
            unfold f11_on_L3 at e46
            refine z_iload_n fx (k := 3) (i := 3) rfl rfl d11_on_177 ?_
            refine z_aload_n fx (k := 0) (i := 0) rfl rfl d11_on_178 ?_
            obtain ⟨w44, e51, e46⟩ := zinv e46
            refine z_getR fx 11 11 1111 17 ho lf11_56 ⟨fk11_11, rfl⟩ e51 d11_on_179 (fun tw44 => ?_)
            refine z_getI fx 10 17 1017 tw44 lf11_134 ⟨fk10_17, rfl⟩ d11_on_182 ?_
            refine z_icmp_ge fx d11_on_185 (fun c52 => ?_) (fun c52 => ?_)
            · replace e46 := zif_f c52 e46
              cases e46
              cases hl47
              exact kx49
            · replace e46 := zif_t c52 e46
              refine z_aload_n fx (k := 0) (i := 0) rfl rfl d11_on_188 ?_
              refine z_getO fx 11 3 51 ho lf11_75 fk11_3 d11_on_189 ?_
              refine z_getO fx 8 4 5 (ok11_3 hO ho) lf11_413 fk8_4 d11_on_192 ?_
              refine z_iload_n fx (k := 3) (i := 3) rfl rfl d11_on_195 ?_
              refine z_aload_n fx (k := 0) (i := 0) rfl rfl d11_on_196 ?_
              refine z_getO fx 11 0 1 ho lf11_9 fk11_0 d11_on_197 ?_
              refine z_iload_n fx (k := 2) (i := 2) rfl rfl d11_on_200 ?_
              obtain ⟨t45, e53, e46⟩ := zinv e46
              refine z_iald fx (ok11_0 hO ho) e53 d11_on_201 ?_
              obtain ⟨μ46, e54, e46⟩ := zinv e46
              refine z_iast fx (ok8_4 hO (ok11_3 hO ho)) e54 d11_on_202 ?_
              obtain ⟨v_at_47, e55, e46⟩ := zinv e46
              replace e55 := Option.some.inj e55
              refine z_iinc fx (i := 2) (x := v_at_38) (v := v_at_47) rfl (by rw [in1]; exact e55) rfl (lv' := [(0, .ref o_), (1, .int t1), (2, .int v_at_47), (3, .int v_host_39)]) rfl rfl d11_on_203 ?_
              obtain ⟨v_host_48, e56, e46⟩ := zinv e46
              replace e56 := Option.some.inj e56
              refine z_iinc fx (i := 3) (x := v_host_39) (v := v_host_48) rfl (by rw [in1]; exact e56) rfl (lv' := [(0, .ref o_), (1, .int t1), (2, .int v_at_47), (3, .int v_host_48)]) rfl rfl d11_on_206 ?_
              cases e46
              refine z_goto fx d11_on_209 ?_
              exact ih50 _ _ _ hl47
        exact klr48 _ _ _ _ e59
      clear h
      have klr33 : ∀ (n : Nat) (v_at_26 : Int32) (v_link_27 : Int32) (μ28 : zM), zloop (fun s => f11_on_L2 o_ s.1 s.2.1 s.2.2) n (v_at_26, v_link_27, μ28) = some (v_at_29, v_link_30, μ31) → zZ zK1 X (zT0 Sh top) μ28 131 [(0, .ref o_), (1, .int t1), (2, .int v_at_26), (3, .int v_link_27)] [] := by
        intro n
        induction n with
        | zero => intro v_at_26 v_link_27 μ28 hl32; cases hl32
        | succ n ih35 =>
          intro v_at_26 v_link_27 μ28 hl32
          obtain ⟨y, e31, hl32⟩ := zloop_inv hl32
          replace e31 : f11_on_L2 o_ v_at_26 v_link_27 μ28 = some y := e31
          unfold f11_on_L2 at e31
          refine z_iload_n fx (k := 3) (i := 3) rfl rfl d11_on_131 ?_
          refine z_aload_n fx (k := 0) (i := 0) rfl rfl d11_on_132 ?_
          obtain ⟨w32, e36, e31⟩ := zinv e31
          refine z_getR fx 11 11 1111 17 ho lf11_56 ⟨fk11_11, rfl⟩ e36 d11_on_133 (fun tw32 => ?_)
          refine z_getI fx 10 16 1016 tw32 lf11_131 ⟨fk10_16, rfl⟩ d11_on_136 ?_
          refine z_icmp_ge fx d11_on_139 (fun c37 => ?_) (fun c37 => ?_)
          · replace e31 := zif_f c37 e31
            cases e31
            cases hl32
            exact kx34
          · replace e31 := zif_t c37 e31
            refine z_aload_n fx (k := 0) (i := 0) rfl rfl d11_on_142 ?_
            refine z_getO fx 11 3 51 ho lf11_75 fk11_3 d11_on_143 ?_
            refine z_getO fx 8 3 4 (ok11_3 hO ho) lf11_188 fk8_3 d11_on_146 ?_
            refine z_iload_n fx (k := 3) (i := 3) rfl rfl d11_on_149 ?_
            obtain ⟨b33, e38, e31⟩ := zinv e31
            have k39 : zZ zK1 X (zT0 Sh top) μ28 165 [(0, .ref o_), (1, .int t1), (2, .int v_at_26), (3, .int v_link_27)] [.int (bI b33), .int v_link_27, .ref (o_ + 55)] := by
              obtain ⟨μ35, e43, e31⟩ := zinv e31
              refine z_zast fx (ok8_3 hO (ok11_3 hO ho)) e43 d11_on_165 ?_
              obtain ⟨v_at_36, e44, e31⟩ := zinv e31
              replace e44 := Option.some.inj e44
              refine z_iinc fx (i := 2) (x := v_at_26) (v := v_at_36) rfl (by rw [in1]; exact e44) rfl (lv' := [(0, .ref o_), (1, .int t1), (2, .int v_at_36), (3, .int v_link_27)]) rfl rfl d11_on_166 ?_
              obtain ⟨v_link_37, e45, e31⟩ := zinv e31
              replace e45 := Option.some.inj e45
              refine z_iinc fx (i := 3) (x := v_link_27) (v := v_link_37) rfl (by rw [in1]; exact e45) rfl (lv' := [(0, .ref o_), (1, .int t1), (2, .int v_at_36), (3, .int v_link_37)]) rfl rfl d11_on_169 ?_
              cases e31
              refine z_goto fx d11_on_172 ?_
              exact ih35 _ _ _ hl32
            have kt40 : b33 = true → zZ zK1 X (zT0 Sh top) μ28 160 [(0, .ref o_), (1, .int t1), (2, .int v_at_26), (3, .int v_link_27)] [.int v_link_27, .ref (o_ + 55)] := by
              intro hc
              refine z_iconst fx (v := 1) ic1 d11_on_160 ?_
              refine z_goto fx d11_on_161 ?_
              exact z_top (congrArg Value.int (show 1 = bI b33 by rw [hc]; rfl)) k39
            have kf40 : b33 = false → zZ zK1 X (zT0 Sh top) μ28 164 [(0, .ref o_), (1, .int t1), (2, .int v_at_26), (3, .int v_link_27)] [.int v_link_27, .ref (o_ + 55)] := by
              intro hc
              refine z_iconst fx (v := 0) ic0 d11_on_164 ?_
              exact z_top (congrArg Value.int (show 0 = bI b33 by rw [hc]; rfl)) k39
            refine z_aload_n fx (k := 0) (i := 0) rfl rfl d11_on_150 ?_
            refine z_getO fx 11 0 1 ho lf11_9 fk11_0 d11_on_151 ?_
            refine z_iload_n fx (k := 2) (i := 2) rfl rfl d11_on_154 ?_
            obtain ⟨t34, e41, e38⟩ := zinv e38
            refine z_iald fx (ok11_0 hO ho) e41 d11_on_155 ?_
            refine z_iconst fx (v := 1) ic1 d11_on_156 ?_
            cases e38
            refine z_icmp_ne fx d11_on_157 (fun c42 => ?_) (fun c42 => ?_)
            · exact kf40 c42
            · exact kt40 c42
      exact klr33 _ _ _ _ e60
    clear h
    have klr7 : ∀ (n : Nat) (v_at_6 : Int32) (v_b_7 : Int32) (μ8 : zM), zloop (fun s => f11_on_L1 o_ s.1 s.2.1 s.2.2) n (v_at_6, v_b_7, μ8) = some (v_at_9, v_b_10, μ11) → zZ zK1 X (zT0 Sh top) μ8 33 [(0, .ref o_), (1, .int t1), (2, .int v_at_6), (3, .int v_b_7)] [] := by
      intro n
      induction n with
      | zero => intro v_at_6 v_b_7 μ8 hl6; cases hl6
      | succ n ih9 =>
        intro v_at_6 v_b_7 μ8 hl6
        obtain ⟨y, e5, hl6⟩ := zloop_inv hl6
        replace e5 : f11_on_L1 o_ v_at_6 v_b_7 μ8 = some y := e5
        unfold f11_on_L1 at e5
        refine z_iload_n fx (k := 3) (i := 3) rfl rfl d11_on_33 ?_
        refine z_aload_n fx (k := 0) (i := 0) rfl rfl d11_on_34 ?_
        obtain ⟨w12, e10, e5⟩ := zinv e5
        refine z_getR fx 11 11 1111 17 ho lf11_56 ⟨fk11_11, rfl⟩ e10 d11_on_35 (fun tw12 => ?_)
        refine z_getI fx 10 15 1015 tw12 lf11_128 ⟨fk10_15, rfl⟩ d11_on_38 ?_
        refine z_icmp_ge fx d11_on_41 (fun c11 => ?_) (fun c11 => ?_)
        · replace e5 := zif_f c11 e5
          cases e5
          cases hl6
          exact kx8
        · replace e5 := zif_t c11 e5
          refine z_aload_n fx (k := 0) (i := 0) rfl rfl d11_on_44 ?_
          refine z_getO fx 11 3 51 ho lf11_75 fk11_3 d11_on_45 ?_
          refine z_getO fx 8 0 1 (ok11_3 hO ho) lf11_195 fk8_0 d11_on_48 ?_
          refine z_iload_n fx (k := 3) (i := 3) rfl rfl d11_on_51 ?_
          obtain ⟨j13, e12, e5⟩ := zinv e5
          refine z_aald fx 0 (by decide) (ok8_0 hO (ok11_3 hO ho)) e12 (v := .ref (o_ + 64 + 3 * j13)) rfl d11_on_52 ?_
          obtain ⟨b14, e13, e5⟩ := zinv e5
          have k14 : zZ zK1 X (zT0 Sh top) μ8 68 [(0, .ref o_), (1, .int t1), (2, .int v_at_6), (3, .int v_b_7)] [.int (bI b14), .ref (o_ + 64 + 3 * j13)] := by
            obtain ⟨μ16, e18, e5⟩ := zinv e5
            refine z_putB fx (ci := 0) 3 (okA0 hO (ok8_0 hO (ok11_3 hO ho)) (rI_lt e12)) lf11_209 fp0_3 e18 d11_on_68 ?_
            refine z_aload_n fx (k := 0) (i := 0) rfl rfl d11_on_71 ?_
            refine z_getO fx 11 3 51 ho lf11_75 fk11_3 d11_on_72 ?_
            refine z_getO fx 8 0 1 (ok11_3 hO ho) lf11_195 fk8_0 d11_on_75 ?_
            refine z_iload_n fx (k := 3) (i := 3) rfl rfl d11_on_78 ?_
            obtain ⟨j17, e19, e5⟩ := zinv e5
            refine z_aald fx 0 (by decide) (ok8_0 hO (ok11_3 hO ho)) e19 (v := .ref (o_ + 64 + 3 * j17)) rfl d11_on_79 ?_
            refine z_aload_n fx (k := 0) (i := 0) rfl rfl d11_on_80 ?_
            refine z_getO fx 11 0 1 ho lf11_9 fk11_0 d11_on_81 ?_
            refine z_iload_n fx (k := 2) (i := 2) rfl rfl d11_on_84 ?_
            refine z_iconst fx (v := 1) ic1 d11_on_85 ?_
            refine z_iadd fx d11_on_86 ?_
            obtain ⟨t18, e20, e5⟩ := zinv e5
            refine z_iald fx (ok11_0 hO ho) e20 d11_on_87 ?_
            obtain ⟨μ19, e21, e5⟩ := zinv e5
            refine z_putI fx (ci := 0) 5 (okA0 hO (ok8_0 hO (ok11_3 hO ho)) (rI_lt e19)) lf11_403 fp0_5 e21 d11_on_88 ?_
            refine z_aload_n fx (k := 0) (i := 0) rfl rfl d11_on_91 ?_
            refine z_getO fx 11 3 51 ho lf11_75 fk11_3 d11_on_92 ?_
            refine z_getO fx 8 0 1 (ok11_3 hO ho) lf11_195 fk8_0 d11_on_95 ?_
            refine z_iload_n fx (k := 3) (i := 3) rfl rfl d11_on_98 ?_
            obtain ⟨j20, e22, e5⟩ := zinv e5
            refine z_aald fx 0 (by decide) (ok8_0 hO (ok11_3 hO ho)) e22 (v := .ref (o_ + 64 + 3 * j20)) rfl d11_on_99 ?_
            obtain ⟨b21, e23, e5⟩ := zinv e5
            have k24 : zZ zK1 X (zT0 Sh top) μ19 117 [(0, .ref o_), (1, .int t1), (2, .int v_at_6), (3, .int v_b_7)] [.int (bI b21), .ref (o_ + 64 + 3 * j20)] := by
              obtain ⟨μ23, e28, e5⟩ := zinv e5
              refine z_putB fx (ci := 0) 4 (okA0 hO (ok8_0 hO (ok11_3 hO ho)) (rI_lt e22)) lf11_206 fp0_4 e28 d11_on_117 ?_
              obtain ⟨v_at_24, e29, e5⟩ := zinv e5
              replace e29 := Option.some.inj e29
              refine z_iinc fx (i := 2) (x := v_at_6) (v := v_at_24) rfl (by rw [in3]; exact e29) rfl (lv' := [(0, .ref o_), (1, .int t1), (2, .int v_at_24), (3, .int v_b_7)]) rfl rfl d11_on_120 ?_
              obtain ⟨v_b_25, e30, e5⟩ := zinv e5
              replace e30 := Option.some.inj e30
              refine z_iinc fx (i := 3) (x := v_b_7) (v := v_b_25) rfl (by rw [in1]; exact e30) rfl (lv' := [(0, .ref o_), (1, .int t1), (2, .int v_at_24), (3, .int v_b_25)]) rfl rfl d11_on_123 ?_
              cases e5
              refine z_goto fx d11_on_126 ?_
              exact ih9 _ _ _ hl6
            have kt25 : b21 = true → zZ zK1 X (zT0 Sh top) μ19 112 [(0, .ref o_), (1, .int t1), (2, .int v_at_6), (3, .int v_b_7)] [.ref (o_ + 64 + 3 * j20)] := by
              intro hc
              refine z_iconst fx (v := 1) ic1 d11_on_112 ?_
              refine z_goto fx d11_on_113 ?_
              exact z_top (congrArg Value.int (show 1 = bI b21 by rw [hc]; rfl)) k24
            have kf25 : b21 = false → zZ zK1 X (zT0 Sh top) μ19 116 [(0, .ref o_), (1, .int t1), (2, .int v_at_6), (3, .int v_b_7)] [.ref (o_ + 64 + 3 * j20)] := by
              intro hc
              refine z_iconst fx (v := 0) ic0 d11_on_116 ?_
              exact z_top (congrArg Value.int (show 0 = bI b21 by rw [hc]; rfl)) k24
            refine z_aload_n fx (k := 0) (i := 0) rfl rfl d11_on_100 ?_
            refine z_getO fx 11 0 1 ho lf11_9 fk11_0 d11_on_101 ?_
            refine z_iload_n fx (k := 2) (i := 2) rfl rfl d11_on_104 ?_
            refine z_iconst fx (v := 2) ic2 d11_on_105 ?_
            refine z_iadd fx d11_on_106 ?_
            obtain ⟨t22, e26, e23⟩ := zinv e23
            refine z_iald fx (ok11_0 hO ho) e26 d11_on_107 ?_
            refine z_iconst fx (v := 1) ic1 d11_on_108 ?_
            cases e23
            refine z_icmp_ne fx d11_on_109 (fun c27 => ?_) (fun c27 => ?_)
            · exact kf25 c27
            · exact kt25 c27
          have kt15 : b14 = true → zZ zK1 X (zT0 Sh top) μ8 63 [(0, .ref o_), (1, .int t1), (2, .int v_at_6), (3, .int v_b_7)] [.ref (o_ + 64 + 3 * j13)] := by
            intro hc
            refine z_iconst fx (v := 1) ic1 d11_on_63 ?_
            refine z_goto fx d11_on_64 ?_
            exact z_top (congrArg Value.int (show 1 = bI b14 by rw [hc]; rfl)) k14
          have kf15 : b14 = false → zZ zK1 X (zT0 Sh top) μ8 67 [(0, .ref o_), (1, .int t1), (2, .int v_at_6), (3, .int v_b_7)] [.ref (o_ + 64 + 3 * j13)] := by
            intro hc
            refine z_iconst fx (v := 0) ic0 d11_on_67 ?_
            exact z_top (congrArg Value.int (show 0 = bI b14 by rw [hc]; rfl)) k14
          refine z_aload_n fx (k := 0) (i := 0) rfl rfl d11_on_53 ?_
          refine z_getO fx 11 0 1 ho lf11_9 fk11_0 d11_on_54 ?_
          refine z_iload_n fx (k := 2) (i := 2) rfl rfl d11_on_57 ?_
          obtain ⟨t15, e16, e13⟩ := zinv e13
          refine z_iald fx (ok11_0 hO ho) e16 d11_on_58 ?_
          refine z_iconst fx (v := 1) ic1 d11_on_59 ?_
          cases e13
          refine z_icmp_ne fx d11_on_60 (fun c17 => ?_) (fun c17 => ?_)
          · exact kf15 c17
          · exact kt15 c17
    exact klr7 _ _ _ _ e61
  clear h
  obtain ⟨b51, e62, e3⟩ := zinv e3
  have kf63 : b51 = false → zZ zK1 X (zT0 Sh top) μ2 15 [(0, .ref o_), (1, .int t1)] [] := by
    intro hc
    replace e3 := zif_f hc e3
    refine z_aload_n fx (k := 0) (i := 0) rfl rfl d11_on_15 ?_
    refine z_iload_n fx (k := 1) (i := 1) rfl rfl d11_on_16 ?_
    obtain ⟨t52, e64, e3⟩ := zinv e3
    refine z_cVr fx (c11_isImage (zLo X) (zDo X) Sh top hO o_ t1 μ2 _ ho e64) mv11_isImage ml11_448 ho rfl rfl rfl rfl d11_on_17 ?_
    cases e3
    refine z_ifb_ne fx d11_on_20 (fun c65 => ?_) (fun c65 => ?_)
    · exact kf2 (by rw [c65]; rfl)
    · exact kt2 (by rw [c65]; rfl)
  have kt63 : b51 = true → zZ zK1 X (zT0 Sh top) μ2 23 [(0, .ref o_), (1, .int t1)] [] := by
    intro hc
    replace e3 := zif_t hc e3
    cases e3
    exact kt2 rfl
  clear e3
  refine z_aload_n fx (k := 0) (i := 0) rfl rfl d11_on_5 ?_
  obtain ⟨w53, e66, e62⟩ := zinv e62
  refine z_getR fx 11 11 1111 17 ho lf11_56 ⟨fk11_11, rfl⟩ e66 d11_on_6 (fun tw53 => ?_)
  refine z_getB fx 10 12 1012 tw53 lf11_300 ⟨fk10_12, rfl⟩ d11_on_9 ?_
  cases e62
  refine z_ifb_eq fx d11_on_12 (fun c67 => ?_) (fun c67 => ?_)
  · exact kt63 (by rw [c67]; rfl)
  · exact kf63 (by rw [c67]; rfl)
theorem d11_status_0 : zd cX11_status 0 (.iload_n 1) 1 1 := by decide +kernel
theorem d11_status_1 : zj cX11_status 1 (.ifCond .lt 9) 9 4 10 := by decide +kernel
theorem d11_status_4 : zd cX11_status 4 (.iload_n 1) 1 5 := by decide +kernel
theorem d11_status_5 : zd cX11_status 5 (.bipush 6) 2 7 := by decide +kernel
theorem d11_status_7 : zj cX11_status 7 (.if_icmp .lt 7) 7 10 14 := by decide +kernel
theorem d11_status_10 : zd cX11_status 10 (.iconst (-1)) 1 11 := by decide +kernel
theorem d11_status_11 : zj cX11_status 11 (.goto 9) 9 14 20 := by decide +kernel
theorem d11_status_14 : zd cX11_status 14 (.aload_n 0) 1 15 := by decide +kernel
theorem d11_status_15 : zd cX11_status 15 (.getfield 50) 3 18 := by decide +kernel
theorem d11_status_18 : zd cX11_status 18 (.iload_n 1) 1 19 := by decide +kernel
theorem d11_status_19 : zd cX11_status 19 (.iaload) 1 20 := by decide +kernel
theorem d11_status_20 : zd cX11_status 20 (.ireturn) 1 21 := by decide +kernel
set_option maxHeartbeats 4000000 in
set_option maxRecDepth 20000 in
theorem c11_status (l : Launch) (D : zDt) (Sh : zSh) (top : Nat) (hO : zOK Sh) (o_ : Nat) (v_what : Int32) (μ : zM) (r_ : Int32) (ho : (Sh o_).1 = 18) (h : f11_status o_ v_what μ = some r_) : zMet l D zK1 yX11_status cX11_status 2 (some .int) (zrm 0 0) [.ref o_, .int v_what] Sh top μ (some (.int r_)) Sh top μ 0 0 := by
  refine zMet_of (by decide) (Nat.le_of_ble_eq_true rfl) fun X hX1 hX2 fx fin => ?_
  subst hX1; subst hX2
  replace fx : zFix X cX11_status RX11 (zrm 0 0) 2 := fx
  show zZ zK1 X (zT0 Sh top) μ 0 [(0, .ref o_), (1, .int v_what)] []
  unfold f11_status at h
  obtain ⟨x1, e1, h⟩ := zinv h
  have k2 : zZ zK1 X (zT0 Sh top) μ 20 [(0, .ref o_), (1, .int v_what)] [.int x1] := by
    cases h
    exact z_ireturn fx fin d11_status_20
  have kt3 : ((clt v_what 0) || (!(clt v_what 6))) = true → zZ zK1 X (zT0 Sh top) μ 10 [(0, .ref o_), (1, .int v_what)] [] := by
    intro hc
    replace e1 := zif_t hc e1
    refine z_iconst fx (v := (-1)) icm1 d11_status_10 ?_
    cases e1
    refine z_goto fx d11_status_11 ?_
    exact k2
  have kf3 : ((clt v_what 0) || (!(clt v_what 6))) = false → zZ zK1 X (zT0 Sh top) μ 14 [(0, .ref o_), (1, .int v_what)] [] := by
    intro hc
    replace e1 := zif_f hc e1
    refine z_aload_n fx (k := 0) (i := 0) rfl rfl d11_status_14 ?_
    refine z_getO fx 11 10 22 ho lf11_50 fk11_10 d11_status_15 ?_
    refine z_iload_n fx (k := 1) (i := 1) rfl rfl d11_status_18 ?_
    obtain ⟨t2, e4, e1⟩ := zinv e1
    refine z_iald fx (ok11_10 hO ho) e4 d11_status_19 ?_
    cases e1
    exact k2
  clear e1
  refine z_iload_n fx (k := 1) (i := 1) rfl rfl d11_status_0 ?_
  refine z_if_lt fx d11_status_1 (fun c5 => ?_) (fun c5 => ?_)
  · exact kt3 (by simp [c5])
  · refine z_iload_n fx (k := 1) (i := 1) rfl rfl d11_status_4 ?_
    refine z_bipush fx (v := 6) bp6 d11_status_5 ?_
    refine z_icmp_lt fx d11_status_7 (fun c6 => ?_) (fun c6 => ?_)
    · exact kf3 (by simp [c5, c6])
    · exact kt3 (by simp [c5, c6])
theorem d12_isIn_0 : zd cX12_isIn 0 (.iload_n 0) 1 1 := by decide +kernel
theorem d12_isIn_1 : zd cX12_isIn 1 (.iload_n 1) 1 2 := by decide +kernel
theorem d12_isIn_2 : zj cX12_isIn 2 (.if_icmp .lt 12) 12 5 14 := by decide +kernel
theorem d12_isIn_5 : zd cX12_isIn 5 (.iload_n 0) 1 6 := by decide +kernel
theorem d12_isIn_6 : zd cX12_isIn 6 (.iload_n 2) 1 7 := by decide +kernel
theorem d12_isIn_7 : zj cX12_isIn 7 (.if_icmp .gt 7) 7 10 14 := by decide +kernel
theorem d12_isIn_10 : zd cX12_isIn 10 (.iconst 1) 1 11 := by decide +kernel
theorem d12_isIn_11 : zj cX12_isIn 11 (.goto 4) 4 14 15 := by decide +kernel
theorem d12_isIn_14 : zd cX12_isIn 14 (.iconst 0) 1 15 := by decide +kernel
theorem d12_isIn_15 : zd cX12_isIn 15 (.ireturn) 1 16 := by decide +kernel
set_option maxHeartbeats 4000000 in
set_option maxRecDepth 20000 in
theorem c12_isIn (l : Launch) (D : zDt) (Sh : zSh) (top : Nat) (hO : zOK Sh) (v_v : Int32) (v_low : Int32) (v_high : Int32) (μ : zM) (r_ : Bool)  (h : f12_isIn v_v v_low v_high μ = some r_) : zMet l D zK1 yX12_isIn cX12_isIn 3 (some .boolean) (zrm 0 0) [.int v_v, .int v_low, .int v_high] Sh top μ (some (.int (bI r_))) Sh top μ 0 0 := by
  refine zMet_of (by decide) (Nat.le_of_ble_eq_true rfl) fun X hX1 hX2 fx fin => ?_
  subst hX1; subst hX2
  replace fx : zFix X cX12_isIn RX12 (zrm 0 0) 3 := fx
  show zZ zK1 X (zT0 Sh top) μ 0 [(0, .int v_v), (1, .int v_low), (2, .int v_high)] []
  unfold f12_isIn at h
  obtain ⟨b1, e1, h⟩ := zinv h
  replace e1 := Option.some.inj e1
  have k2 : zZ zK1 X (zT0 Sh top) μ 15 [(0, .int v_v), (1, .int v_low), (2, .int v_high)] [.int (bI b1)] := by
    cases h
    exact z_zreturn fx fin d12_isIn_15
  refine z_iload_n fx (k := 0) (i := 0) rfl rfl d12_isIn_0 ?_
  refine z_iload_n fx (k := 1) (i := 1) rfl rfl d12_isIn_1 ?_
  refine z_icmp_lt fx d12_isIn_2 (fun c3 => ?_) (fun c3 => ?_)
  · refine z_iconst fx (v := 0) ic0 d12_isIn_14 ?_
    exact z_top (congrArg Value.int (show 0 = bI b1 by rw [← e1]; simp [c3, bI])) k2
  · refine z_iload_n fx (k := 0) (i := 0) rfl rfl d12_isIn_5 ?_
    refine z_iload_n fx (k := 2) (i := 2) rfl rfl d12_isIn_6 ?_
    refine z_icmp_gt fx d12_isIn_7 (fun c4 => ?_) (fun c4 => ?_)
    · refine z_iconst fx (v := 0) ic0 d12_isIn_14 ?_
      exact z_top (congrArg Value.int (show 0 = bI b1 by rw [← e1]; simp [c3, c4, bI])) k2
    · refine z_iconst fx (v := 1) ic1 d12_isIn_10 ?_
      refine z_goto fx d12_isIn_11 ?_
      exact z_top (congrArg Value.int (show 1 = bI b1 by rw [← e1]; simp [c3, c4, bI])) k2
theorem d12_least_0 : zd cX12_least 0 (.iload_n 0) 1 1 := by decide +kernel
theorem d12_least_1 : zd cX12_least 1 (.iload_n 1) 1 2 := by decide +kernel
theorem d12_least_2 : zj cX12_least 2 (.if_icmp .ge 7) 7 5 9 := by decide +kernel
theorem d12_least_5 : zd cX12_least 5 (.iload_n 0) 1 6 := by decide +kernel
theorem d12_least_6 : zj cX12_least 6 (.goto 4) 4 9 10 := by decide +kernel
theorem d12_least_9 : zd cX12_least 9 (.iload_n 1) 1 10 := by decide +kernel
theorem d12_least_10 : zd cX12_least 10 (.ireturn) 1 11 := by decide +kernel
set_option maxHeartbeats 4000000 in
set_option maxRecDepth 20000 in
theorem c12_least (l : Launch) (D : zDt) (Sh : zSh) (top : Nat) (hO : zOK Sh) (v_a : Int32) (v_b : Int32) (μ : zM) (r_ : Int32)  (h : f12_least v_a v_b μ = some r_) : zMet l D zK1 yX12_least cX12_least 2 (some .int) (zrm 0 0) [.int v_a, .int v_b] Sh top μ (some (.int r_)) Sh top μ 0 0 := by
  refine zMet_of (by decide) (Nat.le_of_ble_eq_true rfl) fun X hX1 hX2 fx fin => ?_
  subst hX1; subst hX2
  replace fx : zFix X cX12_least RX12 (zrm 0 0) 2 := fx
  show zZ zK1 X (zT0 Sh top) μ 0 [(0, .int v_a), (1, .int v_b)] []
  unfold f12_least at h
  obtain ⟨x1, e1, h⟩ := zinv h
  have k2 : zZ zK1 X (zT0 Sh top) μ 10 [(0, .int v_a), (1, .int v_b)] [.int x1] := by
    cases h
    exact z_ireturn fx fin d12_least_10
  refine z_iload_n fx (k := 0) (i := 0) rfl rfl d12_least_0 ?_
  refine z_iload_n fx (k := 1) (i := 1) rfl rfl d12_least_1 ?_
  refine z_icmp_ge fx d12_least_2 (fun c3 => ?_) (fun c3 => ?_)
  · replace e1 := zif_f c3 e1
    refine z_iload_n fx (k := 1) (i := 1) rfl rfl d12_least_9 ?_
    cases e1
    exact k2
  · replace e1 := zif_t c3 e1
    refine z_iload_n fx (k := 0) (i := 0) rfl rfl d12_least_5 ?_
    cases e1
    refine z_goto fx d12_least_6 ?_
    exact k2
theorem d12_greatest_0 : zd cX12_greatest 0 (.iload_n 0) 1 1 := by decide +kernel
theorem d12_greatest_1 : zd cX12_greatest 1 (.iload_n 1) 1 2 := by decide +kernel
theorem d12_greatest_2 : zj cX12_greatest 2 (.if_icmp .le 7) 7 5 9 := by decide +kernel
theorem d12_greatest_5 : zd cX12_greatest 5 (.iload_n 0) 1 6 := by decide +kernel
theorem d12_greatest_6 : zj cX12_greatest 6 (.goto 4) 4 9 10 := by decide +kernel
theorem d12_greatest_9 : zd cX12_greatest 9 (.iload_n 1) 1 10 := by decide +kernel
theorem d12_greatest_10 : zd cX12_greatest 10 (.ireturn) 1 11 := by decide +kernel
set_option maxHeartbeats 4000000 in
set_option maxRecDepth 20000 in
theorem c12_greatest (l : Launch) (D : zDt) (Sh : zSh) (top : Nat) (hO : zOK Sh) (v_a : Int32) (v_b : Int32) (μ : zM) (r_ : Int32)  (h : f12_greatest v_a v_b μ = some r_) : zMet l D zK1 yX12_greatest cX12_greatest 2 (some .int) (zrm 0 0) [.int v_a, .int v_b] Sh top μ (some (.int r_)) Sh top μ 0 0 := by
  refine zMet_of (by decide) (Nat.le_of_ble_eq_true rfl) fun X hX1 hX2 fx fin => ?_
  subst hX1; subst hX2
  replace fx : zFix X cX12_greatest RX12 (zrm 0 0) 2 := fx
  show zZ zK1 X (zT0 Sh top) μ 0 [(0, .int v_a), (1, .int v_b)] []
  unfold f12_greatest at h
  obtain ⟨x1, e1, h⟩ := zinv h
  have k2 : zZ zK1 X (zT0 Sh top) μ 10 [(0, .int v_a), (1, .int v_b)] [.int x1] := by
    cases h
    exact z_ireturn fx fin d12_greatest_10
  refine z_iload_n fx (k := 0) (i := 0) rfl rfl d12_greatest_0 ?_
  refine z_iload_n fx (k := 1) (i := 1) rfl rfl d12_greatest_1 ?_
  refine z_icmp_le fx d12_greatest_2 (fun c3 => ?_) (fun c3 => ?_)
  · replace e1 := zif_f c3 e1
    refine z_iload_n fx (k := 1) (i := 1) rfl rfl d12_greatest_9 ?_
    cases e1
    exact k2
  · replace e1 := zif_t c3 e1
    refine z_iload_n fx (k := 0) (i := 0) rfl rfl d12_greatest_5 ?_
    cases e1
    refine z_goto fx d12_greatest_6 ?_
    exact k2
theorem d12_refuses_0 : zd cX12_refuses 0 (.aload_n 0) 1 1 := by decide +kernel
theorem d12_refuses_1 : zd cX12_refuses 1 (.getfield 110) 3 4 := by decide +kernel
theorem d12_refuses_4 : zd cX12_refuses 4 (.iload_n 1) 1 5 := by decide +kernel
theorem d12_refuses_5 : zd cX12_refuses 5 (.dup2) 1 6 := by decide +kernel
theorem d12_refuses_6 : zd cX12_refuses 6 (.iaload) 1 7 := by decide +kernel
theorem d12_refuses_7 : zd cX12_refuses 7 (.iconst 1) 1 8 := by decide +kernel
theorem d12_refuses_8 : zd cX12_refuses 8 (.iadd) 1 9 := by decide +kernel
theorem d12_refuses_9 : zd cX12_refuses 9 (.iastore) 1 10 := by decide +kernel
theorem d12_refuses_10 : zd cX12_refuses 10 (.iconst (-1)) 1 11 := by decide +kernel
theorem d12_refuses_11 : zd cX12_refuses 11 (.ireturn) 1 12 := by decide +kernel
set_option maxHeartbeats 4000000 in
set_option maxRecDepth 20000 in
theorem c12_refuses (l : Launch) (D : zDt) (Sh : zSh) (top : Nat) (hO : zOK Sh) (o_ : Nat) (v_why : Int32) (μ : zM) (r_ : Int32) (μ_ : zM) (ho : (Sh o_).1 = 19) (h : f12_refuses o_ v_why μ = some (r_, μ_)) : zMet l D zK1 yX12_refuses cX12_refuses 2 (some .int) (zrm 0 0) [.ref o_, .int v_why] Sh top μ (some (.int r_)) Sh top μ_ 0 0 := by
  refine zMet_of (by decide) (Nat.le_of_ble_eq_true rfl) fun X hX1 hX2 fx fin => ?_
  subst hX1; subst hX2
  replace fx : zFix X cX12_refuses RX12 (zrm 0 0) 2 := fx
  show zZ zK1 X (zT0 Sh top) μ 0 [(0, .ref o_), (1, .int v_why)] []
  unfold f12_refuses at h
  refine z_aload_n fx (k := 0) (i := 0) rfl rfl d12_refuses_0 ?_
  refine z_getO fx 12 33 22 ho lf12_110 fk12_33 d12_refuses_1 ?_
  refine z_iload_n fx (k := 1) (i := 1) rfl rfl d12_refuses_4 ?_
  refine z_dup2 fx rfl rfl d12_refuses_5 ?_
  obtain ⟨t1, e1, h⟩ := zinv h
  refine z_iald fx (ok12_33 hO ho) e1 d12_refuses_6 ?_
  refine z_iconst fx (v := 1) ic1 d12_refuses_7 ?_
  refine z_iadd fx d12_refuses_8 ?_
  obtain ⟨μ2, e2, h⟩ := zinv h
  refine z_iast fx (ok12_33 hO ho) e2 d12_refuses_9 ?_
  refine z_iconst fx (v := (-1)) icm1 d12_refuses_10 ?_
  cases h
  exact z_ireturn fx fin d12_refuses_11
theorem d12_lays_0 : zd cX12_lays 0 (.iconst 0) 1 1 := by decide +kernel
theorem d12_lays_1 : zd cX12_lays 1 (.istore_n 2) 1 2 := by decide +kernel
theorem d12_lays_2 : zd cX12_lays 2 (.iload_n 2) 1 3 := by decide +kernel
theorem d12_lays_3 : zd cX12_lays 3 (.iconst 4) 1 4 := by decide +kernel
theorem d12_lays_4 : zj cX12_lays 4 (.if_icmp .ge 33) 33 7 37 := by decide +kernel
theorem d12_lays_7 : zd cX12_lays 7 (.aload_n 0) 1 8 := by decide +kernel
theorem d12_lays_8 : zd cX12_lays 8 (.getfield 104) 3 11 := by decide +kernel
theorem d12_lays_11 : zd cX12_lays 11 (.aload_n 0) 1 12 := by decide +kernel
theorem d12_lays_12 : zd cX12_lays 12 (.getfield 107) 3 15 := by decide +kernel
theorem d12_lays_15 : zd cX12_lays 15 (.iload_n 2) 1 16 := by decide +kernel
theorem d12_lays_16 : zd cX12_lays 16 (.iadd) 1 17 := by decide +kernel
theorem d12_lays_17 : zd cX12_lays 17 (.iload_n 1) 1 18 := by decide +kernel
theorem d12_lays_18 : zd cX12_lays 18 (.bipush 24) 2 20 := by decide +kernel
theorem d12_lays_20 : zd cX12_lays 20 (.bipush 8) 2 22 := by decide +kernel
theorem d12_lays_22 : zd cX12_lays 22 (.iload_n 2) 1 23 := by decide +kernel
theorem d12_lays_23 : zd cX12_lays 23 (.imul) 1 24 := by decide +kernel
theorem d12_lays_24 : zd cX12_lays 24 (.isub) 1 25 := by decide +kernel
theorem d12_lays_25 : zd cX12_lays 25 (.ishr) 1 26 := by decide +kernel
theorem d12_lays_26 : zd cX12_lays 26 (.sipush 255) 3 29 := by decide +kernel
theorem d12_lays_29 : zd cX12_lays 29 (.iand) 1 30 := by decide +kernel
theorem d12_lays_30 : zd cX12_lays 30 (.iastore) 1 31 := by decide +kernel
theorem d12_lays_31 : zd cX12_lays 31 (.iinc 2 1) 3 34 := by decide +kernel
theorem d12_lays_34 : zj cX12_lays 34 (.goto (-32)) (-32) 37 2 := by decide +kernel
theorem d12_lays_37 : zd cX12_lays 37 (.aload_n 0) 1 38 := by decide +kernel
theorem d12_lays_38 : zd cX12_lays 38 (.dup) 1 39 := by decide +kernel
theorem d12_lays_39 : zd cX12_lays 39 (.getfield 107) 3 42 := by decide +kernel
theorem d12_lays_42 : zd cX12_lays 42 (.iconst 4) 1 43 := by decide +kernel
theorem d12_lays_43 : zd cX12_lays 43 (.iadd) 1 44 := by decide +kernel
theorem d12_lays_44 : zd cX12_lays 44 (.putfield 107) 3 47 := by decide +kernel
theorem d12_lays_47 : zd cX12_lays 47 (.return_) 1 48 := by decide +kernel
set_option maxHeartbeats 4000000 in
set_option maxRecDepth 20000 in
theorem c12_lays (l : Launch) (D : zDt) (Sh : zSh) (top : Nat) (hO : zOK Sh) (o_ : Nat) (v_v : Int32) (μ : zM) (μ_ : zM) (ho : (Sh o_).1 = 19) (h : f12_lays o_ v_v μ = some μ_) : zMet l D zK1 yX12_lays cX12_lays 3 none (zrm 0 0) [.ref o_, .int v_v] Sh top μ none Sh top μ_ 0 0 := by
  refine zMet_of (by decide) (Nat.le_of_ble_eq_true rfl) fun X hX1 hX2 fx fin => ?_
  subst hX1; subst hX2
  replace fx : zFix X cX12_lays RX12 (zrm 0 0) 3 := fx
  show zZ zK1 X (zT0 Sh top) μ 0 [(0, .ref o_), (1, .int v_v)] []
  unfold f12_lays at h
  refine z_iconst fx (v := 0) ic0 d12_lays_0 ?_
  refine z_istore_n fx (k := 2) (i := 2) rfl rfl (lv' := [(0, .ref o_), (1, .int v_v), (2, .int 0)]) rfl rfl d12_lays_1 ?_
  obtain ⟨v_k_3, μ4, e10, h⟩ := zinv2 h
  have kx4 : zZ zK1 X (zT0 Sh top) μ4 37 [(0, .ref o_), (1, .int v_v), (2, .int v_k_3)] [] := by
    refine z_take 2 (lv' := [(0, .ref o_), (1, .int v_v)]) rfl ?_
    refine z_aload_n fx (k := 0) (i := 0) rfl rfl d12_lays_37 ?_
    refine z_dup fx rfl d12_lays_38 ?_
    refine z_getI fx 12 32 1232 ho lf12_107 ⟨fk12_32, rfl⟩ d12_lays_39 ?_
    refine z_iconst fx (v := 4) ic4 d12_lays_42 ?_
    refine z_iadd fx d12_lays_43 ?_
    obtain ⟨μ7, e9, h⟩ := zinv h
    refine z_putI fx (ci := 12) 32 ho lf12_107 fp12_32 e9 d12_lays_44 ?_
    cases h
    exact z_return fx fin d12_lays_47
  clear h
  have klr3 : ∀ (n : Nat) (v_k_1 : Int32) (μ2 : zM), zloop (fun s => f12_lays_L1 o_ v_v s.1 s.2) n (v_k_1, μ2) = some (v_k_3, μ4) → zZ zK1 X (zT0 Sh top) μ2 2 [(0, .ref o_), (1, .int v_v), (2, .int v_k_1)] [] := by
    intro n
    induction n with
    | zero => intro v_k_1 μ2 hl2; cases hl2
    | succ n ih5 =>
      intro v_k_1 μ2 hl2
      obtain ⟨y, e1, hl2⟩ := zloop_inv hl2
      replace e1 : f12_lays_L1 o_ v_v v_k_1 μ2 = some y := e1
      unfold f12_lays_L1 at e1
      refine z_iload_n fx (k := 2) (i := 2) rfl rfl d12_lays_2 ?_
      refine z_iconst fx (v := 4) ic4 d12_lays_3 ?_
      refine z_icmp_ge fx d12_lays_4 (fun c6 => ?_) (fun c6 => ?_)
      · replace e1 := zif_f c6 e1
        cases e1
        cases hl2
        exact kx4
      · replace e1 := zif_t c6 e1
        refine z_aload_n fx (k := 0) (i := 0) rfl rfl d12_lays_7 ?_
        refine z_getO fx 12 31 21 ho lf12_104 fk12_31 d12_lays_8 ?_
        refine z_aload_n fx (k := 0) (i := 0) rfl rfl d12_lays_11 ?_
        refine z_getI fx 12 32 1232 ho lf12_107 ⟨fk12_32, rfl⟩ d12_lays_12 ?_
        refine z_iload_n fx (k := 2) (i := 2) rfl rfl d12_lays_15 ?_
        refine z_iadd fx d12_lays_16 ?_
        refine z_iload_n fx (k := 1) (i := 1) rfl rfl d12_lays_17 ?_
        refine z_bipush fx (v := 24) bp24 d12_lays_18 ?_
        refine z_bipush fx (v := 8) bp8 d12_lays_20 ?_
        refine z_iload_n fx (k := 2) (i := 2) rfl rfl d12_lays_22 ?_
        refine z_imul fx d12_lays_23 ?_
        refine z_isub fx d12_lays_24 ?_
        refine z_ishr fx d12_lays_25 ?_
        refine z_sipush fx (v := 255) sp255 d12_lays_26 ?_
        refine z_iand fx d12_lays_29 ?_
        obtain ⟨μ5, e7, e1⟩ := zinv e1
        refine z_iast fx (ok12_31 hO ho) e7 d12_lays_30 ?_
        obtain ⟨v_k_6, e8, e1⟩ := zinv e1
        replace e8 := Option.some.inj e8
        refine z_iinc fx (i := 2) (x := v_k_1) (v := v_k_6) rfl (by rw [in1]; exact e8) rfl (lv' := [(0, .ref o_), (1, .int v_v), (2, .int v_k_6)]) rfl rfl d12_lays_31 ?_
        cases e1
        refine z_goto fx d12_lays_34 ?_
        exact ih5 _ _ hl2
  exact klr3 _ _ _ e10
theorem d12_feed_0 : zd cX12_feed 0 (.aload_n 0) 1 1 := by decide +kernel
theorem d12_feed_1 : zd cX12_feed 1 (.getfield 107) 3 4 := by decide +kernel
theorem d12_feed_4 : zd cX12_feed 4 (.bipush 20) 2 6 := by decide +kernel
theorem d12_feed_6 : zd cX12_feed 6 (.iadd) 1 7 := by decide +kernel
theorem d12_feed_7 : zd cX12_feed 7 (.sipush 1600) 3 10 := by decide +kernel
theorem d12_feed_10 : zj cX12_feed 10 (.if_icmp .le 9) 9 13 19 := by decide +kernel
theorem d12_feed_13 : zd cX12_feed 13 (.aload_n 0) 1 14 := by decide +kernel
theorem d12_feed_14 : zd cX12_feed 14 (.iconst 0) 1 15 := by decide +kernel
theorem d12_feed_15 : zd cX12_feed 15 (.invokevirtual 214) 3 18 := by decide +kernel
theorem d12_feed_18 : zd cX12_feed 18 (.ireturn) 1 19 := by decide +kernel
theorem d12_feed_19 : zd cX12_feed 19 (.aload_n 0) 1 20 := by decide +kernel
theorem d12_feed_20 : zd cX12_feed 20 (.iload_n 1) 1 21 := by decide +kernel
theorem d12_feed_21 : zd cX12_feed 21 (.invokevirtual 218) 3 24 := by decide +kernel
theorem d12_feed_24 : zd cX12_feed 24 (.aload_n 0) 1 25 := by decide +kernel
theorem d12_feed_25 : zd cX12_feed 25 (.iload_n 2) 1 26 := by decide +kernel
theorem d12_feed_26 : zd cX12_feed 26 (.invokevirtual 218) 3 29 := by decide +kernel
theorem d12_feed_29 : zd cX12_feed 29 (.aload_n 0) 1 30 := by decide +kernel
theorem d12_feed_30 : zd cX12_feed 30 (.iload_n 3) 1 31 := by decide +kernel
theorem d12_feed_31 : zd cX12_feed 31 (.invokevirtual 218) 3 34 := by decide +kernel
theorem d12_feed_34 : zd cX12_feed 34 (.aload_n 0) 1 35 := by decide +kernel
theorem d12_feed_35 : zd cX12_feed 35 (.iload 4) 2 37 := by decide +kernel
theorem d12_feed_37 : zd cX12_feed 37 (.invokevirtual 218) 3 40 := by decide +kernel
theorem d12_feed_40 : zd cX12_feed 40 (.aload_n 0) 1 41 := by decide +kernel
theorem d12_feed_41 : zd cX12_feed 41 (.iload 5) 2 43 := by decide +kernel
theorem d12_feed_43 : zd cX12_feed 43 (.invokevirtual 218) 3 46 := by decide +kernel
theorem d12_feed_46 : zd cX12_feed 46 (.aload_n 0) 1 47 := by decide +kernel
theorem d12_feed_47 : zd cX12_feed 47 (.getfield 107) 3 50 := by decide +kernel
theorem d12_feed_50 : zd cX12_feed 50 (.ireturn) 1 51 := by decide +kernel
set_option maxHeartbeats 4000000 in
set_option maxRecDepth 20000 in
theorem c12_feed (l : Launch) (D : zDt) (Sh : zSh) (top : Nat) (hO : zOK Sh) (o_ : Nat) (v_a : Int32) (v_b : Int32) (v_c : Int32) (v_d : Int32) (v_e : Int32) (μ : zM) (r_ : Int32) (μ_ : zM) (ho : (Sh o_).1 = 19) (h : f12_feed o_ v_a v_b v_c v_d v_e μ = some (r_, μ_)) : zMet l D zK1 yX12_feed cX12_feed 6 (some .int) (zrm 1 22) [.ref o_, .int v_a, .int v_b, .int v_c, .int v_d, .int v_e] Sh top μ (some (.int r_)) Sh top μ_ 0 0 := by
  refine zMet_of (by decide) (Nat.le_of_ble_eq_true rfl) fun X hX1 hX2 fx fin => ?_
  subst hX1; subst hX2
  replace fx : zFix X cX12_feed RX12 (zrm 1 22) 6 := fx
  show zZ zK1 X (zT0 Sh top) μ 0 [(0, .ref o_), (1, .int v_a), (2, .int v_b), (3, .int v_c), (4, .int v_d), (5, .int v_e)] []
  unfold f12_feed at h
  refine z_aload_n fx (k := 0) (i := 0) rfl rfl d12_feed_0 ?_
  refine z_getI fx 12 32 1232 ho lf12_107 ⟨fk12_32, rfl⟩ d12_feed_1 ?_
  refine z_bipush fx (v := 20) bp20 d12_feed_4 ?_
  refine z_iadd fx d12_feed_6 ?_
  refine z_sipush fx (v := 1600) sp1600 d12_feed_7 ?_
  refine z_icmp_le fx d12_feed_10 (fun c1 => ?_) (fun c1 => ?_)
  · replace h := zif_f c1 h
    refine z_aload_n fx (k := 0) (i := 0) rfl rfl d12_feed_19 ?_
    refine z_iload_n fx (k := 1) (i := 1) rfl rfl d12_feed_20 ?_
    obtain ⟨μ1, e2, h⟩ := zinv h
    refine z_cVv fx (c12_lays (zLo X) (zDo X) Sh top hO o_ v_a μ _ ho e2) mv12_lays ml12_218 ho rfl rfl rfl rfl d12_feed_21 ?_
    refine z_aload_n fx (k := 0) (i := 0) rfl rfl d12_feed_24 ?_
    refine z_iload_n fx (k := 2) (i := 2) rfl rfl d12_feed_25 ?_
    obtain ⟨μ2, e3, h⟩ := zinv h
    refine z_cVv fx (c12_lays (zLo X) (zDo X) Sh top hO o_ v_b μ1 _ ho e3) mv12_lays ml12_218 ho rfl rfl rfl rfl d12_feed_26 ?_
    refine z_aload_n fx (k := 0) (i := 0) rfl rfl d12_feed_29 ?_
    refine z_iload_n fx (k := 3) (i := 3) rfl rfl d12_feed_30 ?_
    obtain ⟨μ3, e4, h⟩ := zinv h
    refine z_cVv fx (c12_lays (zLo X) (zDo X) Sh top hO o_ v_c μ2 _ ho e4) mv12_lays ml12_218 ho rfl rfl rfl rfl d12_feed_31 ?_
    refine z_aload_n fx (k := 0) (i := 0) rfl rfl d12_feed_34 ?_
    refine z_iload fx (i := 4) rfl d12_feed_35 ?_
    obtain ⟨μ4, e5, h⟩ := zinv h
    refine z_cVv fx (c12_lays (zLo X) (zDo X) Sh top hO o_ v_d μ3 _ ho e5) mv12_lays ml12_218 ho rfl rfl rfl rfl d12_feed_37 ?_
    refine z_aload_n fx (k := 0) (i := 0) rfl rfl d12_feed_40 ?_
    refine z_iload fx (i := 5) rfl d12_feed_41 ?_
    obtain ⟨μ5, e6, h⟩ := zinv h
    refine z_cVv fx (c12_lays (zLo X) (zDo X) Sh top hO o_ v_e μ4 _ ho e6) mv12_lays ml12_218 ho rfl rfl rfl rfl d12_feed_43 ?_
    refine z_aload_n fx (k := 0) (i := 0) rfl rfl d12_feed_46 ?_
    refine z_getI fx 12 32 1232 ho lf12_107 ⟨fk12_32, rfl⟩ d12_feed_47 ?_
    cases h
    exact z_ireturn fx fin d12_feed_50
  · replace h := zif_t c1 h
    refine z_aload_n fx (k := 0) (i := 0) rfl rfl d12_feed_13 ?_
    refine z_iconst fx (v := 0) ic0 d12_feed_14 ?_
    obtain ⟨t6, μ7, e7, h⟩ := zinv2 h
    refine z_cVr fx (c12_refuses (zLo X) (zDo X) Sh top hO o_ 0 μ _ _ ho e7) mv12_refuses ml12_214 ho rfl rfl rfl rfl d12_feed_15 ?_
    cases h
    exact z_ireturn fx fin d12_feed_18
theorem d12_end_0 : zd cX12_end 0 (.iload_n 1) 1 1 := by decide +kernel
theorem d12_end_1 : zj cX12_end 1 (.ifCond .lt 11) 11 4 12 := by decide +kernel
theorem d12_end_4 : zd cX12_end 4 (.iload_n 1) 1 5 := by decide +kernel
theorem d12_end_5 : zd cX12_end 5 (.aload_n 0) 1 6 := by decide +kernel
theorem d12_end_6 : zd cX12_end 6 (.getfield 107) 3 9 := by decide +kernel
theorem d12_end_9 : zj cX12_end 9 (.if_icmp .le 15) 15 12 24 := by decide +kernel
theorem d12_end_12 : zd cX12_end 12 (.aload_n 0) 1 13 := by decide +kernel
theorem d12_end_13 : zd cX12_end 13 (.getfield 110) 3 16 := by decide +kernel
theorem d12_end_16 : zd cX12_end 16 (.iconst 0) 1 17 := by decide +kernel
theorem d12_end_17 : zd cX12_end 17 (.dup2) 1 18 := by decide +kernel
theorem d12_end_18 : zd cX12_end 18 (.iaload) 1 19 := by decide +kernel
theorem d12_end_19 : zd cX12_end 19 (.iconst 1) 1 20 := by decide +kernel
theorem d12_end_20 : zd cX12_end 20 (.iadd) 1 21 := by decide +kernel
theorem d12_end_21 : zd cX12_end 21 (.iastore) 1 22 := by decide +kernel
theorem d12_end_22 : zd cX12_end 22 (.iconst 0) 1 23 := by decide +kernel
theorem d12_end_23 : zd cX12_end 23 (.ireturn) 1 24 := by decide +kernel
theorem d12_end_24 : zd cX12_end 24 (.aload_n 0) 1 25 := by decide +kernel
theorem d12_end_25 : zd cX12_end 25 (.iload_n 1) 1 26 := by decide +kernel
theorem d12_end_26 : zd cX12_end 26 (.putfield 107) 3 29 := by decide +kernel
theorem d12_end_29 : zd cX12_end 29 (.iconst 1) 1 30 := by decide +kernel
theorem d12_end_30 : zd cX12_end 30 (.ireturn) 1 31 := by decide +kernel
set_option maxHeartbeats 4000000 in
set_option maxRecDepth 20000 in
theorem c12_end (l : Launch) (D : zDt) (Sh : zSh) (top : Nat) (hO : zOK Sh) (o_ : Nat) (v_n : Int32) (μ : zM) (r_ : Bool) (μ_ : zM) (ho : (Sh o_).1 = 19) (h : f12_end o_ v_n μ = some (r_, μ_)) : zMet l D zK1 yX12_end cX12_end 2 (some .boolean) (zrm 0 0) [.ref o_, .int v_n] Sh top μ (some (.int (bI r_))) Sh top μ_ 0 0 := by
  refine zMet_of (by decide) (Nat.le_of_ble_eq_true rfl) fun X hX1 hX2 fx fin => ?_
  subst hX1; subst hX2
  replace fx : zFix X cX12_end RX12 (zrm 0 0) 2 := fx
  show zZ zK1 X (zT0 Sh top) μ 0 [(0, .ref o_), (1, .int v_n)] []
  unfold f12_end at h
  have kt1 : ((clt v_n 0) || (clt (gF μ 1232 o_) v_n)) = true → zZ zK1 X (zT0 Sh top) μ 12 [(0, .ref o_), (1, .int v_n)] [] := by
    intro hc
    replace h := zif_t hc h
    refine z_aload_n fx (k := 0) (i := 0) rfl rfl d12_end_12 ?_
    refine z_getO fx 12 33 22 ho lf12_110 fk12_33 d12_end_13 ?_
    refine z_iconst fx (v := 0) ic0 d12_end_16 ?_
    refine z_dup2 fx rfl rfl d12_end_17 ?_
    obtain ⟨t1, e2, h⟩ := zinv h
    refine z_iald fx (ok12_33 hO ho) e2 d12_end_18 ?_
    refine z_iconst fx (v := 1) ic1 d12_end_19 ?_
    refine z_iadd fx d12_end_20 ?_
    obtain ⟨μ2, e3, h⟩ := zinv h
    refine z_iast fx (ok12_33 hO ho) e3 d12_end_21 ?_
    refine z_iconst fx (v := 0) ic0 d12_end_22 ?_
    refine z_top (show Value.int 0 = .int (bI false) from rfl) ?_
    cases h
    exact z_zreturn fx fin d12_end_23
  have kf1 : ((clt v_n 0) || (clt (gF μ 1232 o_) v_n)) = false → zZ zK1 X (zT0 Sh top) μ 24 [(0, .ref o_), (1, .int v_n)] [] := by
    intro hc
    replace h := zif_f hc h
    refine z_aload_n fx (k := 0) (i := 0) rfl rfl d12_end_24 ?_
    refine z_iload_n fx (k := 1) (i := 1) rfl rfl d12_end_25 ?_
    obtain ⟨μ3, e4, h⟩ := zinv h
    refine z_putI fx (ci := 12) 32 ho lf12_107 fp12_32 e4 d12_end_26 ?_
    refine z_iconst fx (v := 1) ic1 d12_end_29 ?_
    refine z_top (show Value.int 1 = .int (bI true) from rfl) ?_
    cases h
    exact z_zreturn fx fin d12_end_30
  clear h
  refine z_iload_n fx (k := 1) (i := 1) rfl rfl d12_end_0 ?_
  refine z_if_lt fx d12_end_1 (fun c5 => ?_) (fun c5 => ?_)
  · exact kt1 (by simp [c5])
  · refine z_iload_n fx (k := 1) (i := 1) rfl rfl d12_end_4 ?_
    refine z_aload_n fx (k := 0) (i := 0) rfl rfl d12_end_5 ?_
    refine z_getI fx 12 32 1232 ho lf12_107 ⟨fk12_32, rfl⟩ d12_end_6 ?_
    refine z_icmp_le fx d12_end_9 (fun c6 => ?_) (fun c6 => ?_)
    · exact kf1 (by simp [c5, c6])
    · exact kt1 (by simp [c5, c6])
theorem d12_taken_0 : zd cX12_taken 0 (.aload_n 0) 1 1 := by decide +kernel
theorem d12_taken_1 : zd cX12_taken 1 (.getfield 107) 3 4 := by decide +kernel
theorem d12_taken_4 : zd cX12_taken 4 (.istore_n 1) 1 5 := by decide +kernel
theorem d12_taken_5 : zd cX12_taken 5 (.aload_n 0) 1 6 := by decide +kernel
theorem d12_taken_6 : zd cX12_taken 6 (.iconst 0) 1 7 := by decide +kernel
theorem d12_taken_7 : zd cX12_taken 7 (.putfield 107) 3 10 := by decide +kernel
theorem d12_taken_10 : zd cX12_taken 10 (.iload_n 1) 1 11 := by decide +kernel
theorem d12_taken_11 : zd cX12_taken 11 (.ireturn) 1 12 := by decide +kernel
set_option maxHeartbeats 4000000 in
set_option maxRecDepth 20000 in
theorem c12_taken (l : Launch) (D : zDt) (Sh : zSh) (top : Nat) (hO : zOK Sh) (o_ : Nat) (μ : zM) (r_ : Int32) (μ_ : zM) (ho : (Sh o_).1 = 19) (h : f12_taken o_ μ = some (r_, μ_)) : zMet l D zK1 yX12_taken cX12_taken 2 (some .int) (zrm 0 0) [.ref o_] Sh top μ (some (.int r_)) Sh top μ_ 0 0 := by
  refine zMet_of (by decide) (Nat.le_of_ble_eq_true rfl) fun X hX1 hX2 fx fin => ?_
  subst hX1; subst hX2
  replace fx : zFix X cX12_taken RX12 (zrm 0 0) 2 := fx
  show zZ zK1 X (zT0 Sh top) μ 0 [(0, .ref o_)] []
  unfold f12_taken at h
  refine z_aload_n fx (k := 0) (i := 0) rfl rfl d12_taken_0 ?_
  refine z_getI fx 12 32 1232 ho lf12_107 ⟨fk12_32, rfl⟩ d12_taken_1 ?_
  obtain ⟨v_n_1, e1, h⟩ := zinv h
  replace e1 := Option.some.inj e1
  refine z_top (congrArg Value.int e1) ?_
  refine z_istore_n fx (k := 1) (i := 1) rfl rfl (lv' := [(0, .ref o_), (1, .int v_n_1)]) rfl rfl d12_taken_4 ?_
  refine z_aload_n fx (k := 0) (i := 0) rfl rfl d12_taken_5 ?_
  refine z_iconst fx (v := 0) ic0 d12_taken_6 ?_
  obtain ⟨μ2, e2, h⟩ := zinv h
  refine z_putI fx (ci := 12) 32 ho lf12_107 fp12_32 e2 d12_taken_7 ?_
  refine z_iload_n fx (k := 1) (i := 1) rfl rfl d12_taken_10 ?_
  cases h
  exact z_ireturn fx fin d12_taken_11
theorem d12_seen_0 : zd cX12_seen 0 (.iload_n 1) 1 1 := by decide +kernel
theorem d12_seen_1 : zj cX12_seen 1 (.ifCond .lt 20) 20 4 21 := by decide +kernel
theorem d12_seen_4 : zd cX12_seen 4 (.iload_n 1) 1 5 := by decide +kernel
theorem d12_seen_5 : zd cX12_seen 5 (.aload_n 0) 1 6 := by decide +kernel
theorem d12_seen_6 : zd cX12_seen 6 (.getfield 119) 3 9 := by decide +kernel
theorem d12_seen_9 : zj cX12_seen 9 (.if_icmp .ge 12) 12 12 21 := by decide +kernel
theorem d12_seen_12 : zd cX12_seen 12 (.aload_n 0) 1 13 := by decide +kernel
theorem d12_seen_13 : zd cX12_seen 13 (.getfield 104) 3 16 := by decide +kernel
theorem d12_seen_16 : zd cX12_seen 16 (.iload_n 1) 1 17 := by decide +kernel
theorem d12_seen_17 : zd cX12_seen 17 (.iaload) 1 18 := by decide +kernel
theorem d12_seen_18 : zj cX12_seen 18 (.goto 4) 4 21 22 := by decide +kernel
theorem d12_seen_21 : zd cX12_seen 21 (.iconst (-1)) 1 22 := by decide +kernel
theorem d12_seen_22 : zd cX12_seen 22 (.ireturn) 1 23 := by decide +kernel
set_option maxHeartbeats 4000000 in
set_option maxRecDepth 20000 in
theorem c12_seen (l : Launch) (D : zDt) (Sh : zSh) (top : Nat) (hO : zOK Sh) (o_ : Nat) (v_k : Int32) (μ : zM) (r_ : Int32) (ho : (Sh o_).1 = 19) (h : f12_seen o_ v_k μ = some r_) : zMet l D zK1 yX12_seen cX12_seen 2 (some .int) (zrm 0 0) [.ref o_, .int v_k] Sh top μ (some (.int r_)) Sh top μ 0 0 := by
  refine zMet_of (by decide) (Nat.le_of_ble_eq_true rfl) fun X hX1 hX2 fx fin => ?_
  subst hX1; subst hX2
  replace fx : zFix X cX12_seen RX12 (zrm 0 0) 2 := fx
  show zZ zK1 X (zT0 Sh top) μ 0 [(0, .ref o_), (1, .int v_k)] []
  unfold f12_seen at h
  obtain ⟨x1, e1, h⟩ := zinv h
  have k2 : zZ zK1 X (zT0 Sh top) μ 22 [(0, .ref o_), (1, .int v_k)] [.int x1] := by
    cases h
    exact z_ireturn fx fin d12_seen_22
  have kt3 : ((!(clt v_k 0)) && (clt v_k (gF μ 1236 o_))) = true → zZ zK1 X (zT0 Sh top) μ 12 [(0, .ref o_), (1, .int v_k)] [] := by
    intro hc
    replace e1 := zif_t hc e1
    refine z_aload_n fx (k := 0) (i := 0) rfl rfl d12_seen_12 ?_
    refine z_getO fx 12 31 21 ho lf12_104 fk12_31 d12_seen_13 ?_
    refine z_iload_n fx (k := 1) (i := 1) rfl rfl d12_seen_16 ?_
    obtain ⟨t2, e4, e1⟩ := zinv e1
    refine z_iald fx (ok12_31 hO ho) e4 d12_seen_17 ?_
    cases e1
    refine z_goto fx d12_seen_18 ?_
    exact k2
  have kf3 : ((!(clt v_k 0)) && (clt v_k (gF μ 1236 o_))) = false → zZ zK1 X (zT0 Sh top) μ 21 [(0, .ref o_), (1, .int v_k)] [] := by
    intro hc
    replace e1 := zif_f hc e1
    refine z_iconst fx (v := (-1)) icm1 d12_seen_21 ?_
    cases e1
    exact k2
  clear e1
  refine z_iload_n fx (k := 1) (i := 1) rfl rfl d12_seen_0 ?_
  refine z_if_lt fx d12_seen_1 (fun c5 => ?_) (fun c5 => ?_)
  · exact kf3 (by simp [c5])
  · refine z_iload_n fx (k := 1) (i := 1) rfl rfl d12_seen_4 ?_
    refine z_aload_n fx (k := 0) (i := 0) rfl rfl d12_seen_5 ?_
    refine z_getI fx 12 36 1236 ho lf12_119 ⟨fk12_36, rfl⟩ d12_seen_6 ?_
    refine z_icmp_ge fx d12_seen_9 (fun c6 => ?_) (fun c6 => ?_)
    · exact kf3 (by simp [c5, c6])
    · exact kt3 (by simp [c5, c6])
theorem d12_isSmall_0 : zd cX12_isSmall 0 (.aload_n 0) 1 1 := by decide +kernel
theorem d12_isSmall_1 : zd cX12_isSmall 1 (.iload_n 1) 1 2 := by decide +kernel
theorem d12_isSmall_2 : zd cX12_isSmall 2 (.invokevirtual 222) 3 5 := by decide +kernel
theorem d12_isSmall_5 : zd cX12_isSmall 5 (.bipush 97) 2 7 := by decide +kernel
theorem d12_isSmall_7 : zj cX12_isSmall 7 (.if_icmp .lt 17) 17 10 24 := by decide +kernel
theorem d12_isSmall_10 : zd cX12_isSmall 10 (.aload_n 0) 1 11 := by decide +kernel
theorem d12_isSmall_11 : zd cX12_isSmall 11 (.iload_n 1) 1 12 := by decide +kernel
theorem d12_isSmall_12 : zd cX12_isSmall 12 (.invokevirtual 222) 3 15 := by decide +kernel
theorem d12_isSmall_15 : zd cX12_isSmall 15 (.bipush 122) 2 17 := by decide +kernel
theorem d12_isSmall_17 : zj cX12_isSmall 17 (.if_icmp .gt 7) 7 20 24 := by decide +kernel
theorem d12_isSmall_20 : zd cX12_isSmall 20 (.iconst 1) 1 21 := by decide +kernel
theorem d12_isSmall_21 : zj cX12_isSmall 21 (.goto 4) 4 24 25 := by decide +kernel
theorem d12_isSmall_24 : zd cX12_isSmall 24 (.iconst 0) 1 25 := by decide +kernel
theorem d12_isSmall_25 : zd cX12_isSmall 25 (.ireturn) 1 26 := by decide +kernel
set_option maxHeartbeats 4000000 in
set_option maxRecDepth 20000 in
theorem c12_isSmall (l : Launch) (D : zDt) (Sh : zSh) (top : Nat) (hO : zOK Sh) (o_ : Nat) (v_k : Int32) (μ : zM) (r_ : Bool) (ho : (Sh o_).1 = 19) (h : f12_isSmall o_ v_k μ = some r_) : zMet l D zK1 yX12_isSmall cX12_isSmall 2 (some .boolean) (zrm 1 21) [.ref o_, .int v_k] Sh top μ (some (.int (bI r_))) Sh top μ 0 0 := by
  refine zMet_of (by decide) (Nat.le_of_ble_eq_true rfl) fun X hX1 hX2 fx fin => ?_
  subst hX1; subst hX2
  replace fx : zFix X cX12_isSmall RX12 (zrm 1 21) 2 := fx
  show zZ zK1 X (zT0 Sh top) μ 0 [(0, .ref o_), (1, .int v_k)] []
  unfold f12_isSmall at h
  obtain ⟨b1, e1, h⟩ := zinv h
  have k2 : zZ zK1 X (zT0 Sh top) μ 25 [(0, .ref o_), (1, .int v_k)] [.int (bI b1)] := by
    cases h
    exact z_zreturn fx fin d12_isSmall_25
  have kt3 : b1 = true → zZ zK1 X (zT0 Sh top) μ 20 [(0, .ref o_), (1, .int v_k)] [] := by
    intro hc
    refine z_iconst fx (v := 1) ic1 d12_isSmall_20 ?_
    refine z_goto fx d12_isSmall_21 ?_
    exact z_top (congrArg Value.int (show 1 = bI b1 by rw [hc]; rfl)) k2
  have kf3 : b1 = false → zZ zK1 X (zT0 Sh top) μ 24 [(0, .ref o_), (1, .int v_k)] [] := by
    intro hc
    refine z_iconst fx (v := 0) ic0 d12_isSmall_24 ?_
    exact z_top (congrArg Value.int (show 0 = bI b1 by rw [hc]; rfl)) k2
  obtain ⟨b2, e4, e1⟩ := zinv e1
  have kt5 : b2 = true → zZ zK1 X (zT0 Sh top) μ 10 [(0, .ref o_), (1, .int v_k)] [] := by
    intro hc
    replace e1 := zif_t hc e1
    refine z_aload_n fx (k := 0) (i := 0) rfl rfl d12_isSmall_10 ?_
    refine z_iload_n fx (k := 1) (i := 1) rfl rfl d12_isSmall_11 ?_
    obtain ⟨t3, e6, e1⟩ := zinv e1
    refine z_cVr fx (c12_seen (zLo X) (zDo X) Sh top hO o_ v_k μ _ ho e6) mv12_seen ml12_222 ho rfl rfl rfl rfl d12_isSmall_12 ?_
    refine z_bipush fx (v := 122) bp122 d12_isSmall_15 ?_
    cases e1
    refine z_icmp_gt fx d12_isSmall_17 (fun c7 => ?_) (fun c7 => ?_)
    · exact kf3 (by rw [c7]; rfl)
    · exact kt3 (by rw [c7]; rfl)
  have kf5 : b2 = false → zZ zK1 X (zT0 Sh top) μ 24 [(0, .ref o_), (1, .int v_k)] [] := by
    intro hc
    replace e1 := zif_f hc e1
    cases e1
    exact kf3 rfl
  clear e1
  refine z_aload_n fx (k := 0) (i := 0) rfl rfl d12_isSmall_0 ?_
  refine z_iload_n fx (k := 1) (i := 1) rfl rfl d12_isSmall_1 ?_
  obtain ⟨t4, e8, e4⟩ := zinv e4
  refine z_cVr fx (c12_seen (zLo X) (zDo X) Sh top hO o_ v_k μ _ ho e8) mv12_seen ml12_222 ho rfl rfl rfl rfl d12_isSmall_2 ?_
  refine z_bipush fx (v := 97) bp97 d12_isSmall_5 ?_
  cases e4
  refine z_icmp_lt fx d12_isSmall_7 (fun c9 => ?_) (fun c9 => ?_)
  · exact kf5 (by rw [c9]; rfl)
  · exact kt5 (by rw [c9]; rfl)
theorem d12_isDigit_0 : zd cX12_isDigit 0 (.aload_n 0) 1 1 := by decide +kernel
theorem d12_isDigit_1 : zd cX12_isDigit 1 (.iload_n 1) 1 2 := by decide +kernel
theorem d12_isDigit_2 : zd cX12_isDigit 2 (.invokevirtual 222) 3 5 := by decide +kernel
theorem d12_isDigit_5 : zd cX12_isDigit 5 (.bipush 48) 2 7 := by decide +kernel
theorem d12_isDigit_7 : zj cX12_isDigit 7 (.if_icmp .lt 17) 17 10 24 := by decide +kernel
theorem d12_isDigit_10 : zd cX12_isDigit 10 (.aload_n 0) 1 11 := by decide +kernel
theorem d12_isDigit_11 : zd cX12_isDigit 11 (.iload_n 1) 1 12 := by decide +kernel
theorem d12_isDigit_12 : zd cX12_isDigit 12 (.invokevirtual 222) 3 15 := by decide +kernel
theorem d12_isDigit_15 : zd cX12_isDigit 15 (.bipush 57) 2 17 := by decide +kernel
theorem d12_isDigit_17 : zj cX12_isDigit 17 (.if_icmp .gt 7) 7 20 24 := by decide +kernel
theorem d12_isDigit_20 : zd cX12_isDigit 20 (.iconst 1) 1 21 := by decide +kernel
theorem d12_isDigit_21 : zj cX12_isDigit 21 (.goto 4) 4 24 25 := by decide +kernel
theorem d12_isDigit_24 : zd cX12_isDigit 24 (.iconst 0) 1 25 := by decide +kernel
theorem d12_isDigit_25 : zd cX12_isDigit 25 (.ireturn) 1 26 := by decide +kernel
set_option maxHeartbeats 4000000 in
set_option maxRecDepth 20000 in
theorem c12_isDigit (l : Launch) (D : zDt) (Sh : zSh) (top : Nat) (hO : zOK Sh) (o_ : Nat) (v_k : Int32) (μ : zM) (r_ : Bool) (ho : (Sh o_).1 = 19) (h : f12_isDigit o_ v_k μ = some r_) : zMet l D zK1 yX12_isDigit cX12_isDigit 2 (some .boolean) (zrm 1 21) [.ref o_, .int v_k] Sh top μ (some (.int (bI r_))) Sh top μ 0 0 := by
  refine zMet_of (by decide) (Nat.le_of_ble_eq_true rfl) fun X hX1 hX2 fx fin => ?_
  subst hX1; subst hX2
  replace fx : zFix X cX12_isDigit RX12 (zrm 1 21) 2 := fx
  show zZ zK1 X (zT0 Sh top) μ 0 [(0, .ref o_), (1, .int v_k)] []
  unfold f12_isDigit at h
  obtain ⟨b1, e1, h⟩ := zinv h
  have k2 : zZ zK1 X (zT0 Sh top) μ 25 [(0, .ref o_), (1, .int v_k)] [.int (bI b1)] := by
    cases h
    exact z_zreturn fx fin d12_isDigit_25
  have kt3 : b1 = true → zZ zK1 X (zT0 Sh top) μ 20 [(0, .ref o_), (1, .int v_k)] [] := by
    intro hc
    refine z_iconst fx (v := 1) ic1 d12_isDigit_20 ?_
    refine z_goto fx d12_isDigit_21 ?_
    exact z_top (congrArg Value.int (show 1 = bI b1 by rw [hc]; rfl)) k2
  have kf3 : b1 = false → zZ zK1 X (zT0 Sh top) μ 24 [(0, .ref o_), (1, .int v_k)] [] := by
    intro hc
    refine z_iconst fx (v := 0) ic0 d12_isDigit_24 ?_
    exact z_top (congrArg Value.int (show 0 = bI b1 by rw [hc]; rfl)) k2
  obtain ⟨b2, e4, e1⟩ := zinv e1
  have kt5 : b2 = true → zZ zK1 X (zT0 Sh top) μ 10 [(0, .ref o_), (1, .int v_k)] [] := by
    intro hc
    replace e1 := zif_t hc e1
    refine z_aload_n fx (k := 0) (i := 0) rfl rfl d12_isDigit_10 ?_
    refine z_iload_n fx (k := 1) (i := 1) rfl rfl d12_isDigit_11 ?_
    obtain ⟨t3, e6, e1⟩ := zinv e1
    refine z_cVr fx (c12_seen (zLo X) (zDo X) Sh top hO o_ v_k μ _ ho e6) mv12_seen ml12_222 ho rfl rfl rfl rfl d12_isDigit_12 ?_
    refine z_bipush fx (v := 57) bp57 d12_isDigit_15 ?_
    cases e1
    refine z_icmp_gt fx d12_isDigit_17 (fun c7 => ?_) (fun c7 => ?_)
    · exact kf3 (by rw [c7]; rfl)
    · exact kt3 (by rw [c7]; rfl)
  have kf5 : b2 = false → zZ zK1 X (zT0 Sh top) μ 24 [(0, .ref o_), (1, .int v_k)] [] := by
    intro hc
    replace e1 := zif_f hc e1
    cases e1
    exact kf3 rfl
  clear e1
  refine z_aload_n fx (k := 0) (i := 0) rfl rfl d12_isDigit_0 ?_
  refine z_iload_n fx (k := 1) (i := 1) rfl rfl d12_isDigit_1 ?_
  obtain ⟨t4, e8, e4⟩ := zinv e4
  refine z_cVr fx (c12_seen (zLo X) (zDo X) Sh top hO o_ v_k μ _ ho e8) mv12_seen ml12_222 ho rfl rfl rfl rfl d12_isDigit_2 ?_
  refine z_bipush fx (v := 48) bp48 d12_isDigit_5 ?_
  cases e4
  refine z_icmp_lt fx d12_isDigit_7 (fun c9 => ?_) (fun c9 => ?_)
  · exact kf5 (by rw [c9]; rfl)
  · exact kt5 (by rw [c9]; rfl)
theorem d12_here_0 : zd cX12_here 0 (.aload_n 0) 1 1 := by decide +kernel
theorem d12_here_1 : zd cX12_here 1 (.aload_n 0) 1 2 := by decide +kernel
theorem d12_here_2 : zd cX12_here 2 (.getfield 122) 3 5 := by decide +kernel
theorem d12_here_5 : zd cX12_here 5 (.invokevirtual 222) 3 8 := by decide +kernel
theorem d12_here_8 : zd cX12_here 8 (.bipush 10) 2 10 := by decide +kernel
theorem d12_here_10 : zj cX12_here 10 (.if_icmp .eq 16) 16 13 26 := by decide +kernel
theorem d12_here_13 : zd cX12_here 13 (.aload_n 0) 1 14 := by decide +kernel
theorem d12_here_14 : zd cX12_here 14 (.aload_n 0) 1 15 := by decide +kernel
theorem d12_here_15 : zd cX12_here 15 (.getfield 122) 3 18 := by decide +kernel
theorem d12_here_18 : zd cX12_here 18 (.invokevirtual 222) 3 21 := by decide +kernel
theorem d12_here_21 : zd cX12_here 21 (.bipush 32) 2 23 := by decide +kernel
theorem d12_here_23 : zj cX12_here 23 (.if_icmp .ne 16) 16 26 39 := by decide +kernel
theorem d12_here_26 : zd cX12_here 26 (.aload_n 0) 1 27 := by decide +kernel
theorem d12_here_27 : zd cX12_here 27 (.dup) 1 28 := by decide +kernel
theorem d12_here_28 : zd cX12_here 28 (.getfield 122) 3 31 := by decide +kernel
theorem d12_here_31 : zd cX12_here 31 (.iconst 1) 1 32 := by decide +kernel
theorem d12_here_32 : zd cX12_here 32 (.iadd) 1 33 := by decide +kernel
theorem d12_here_33 : zd cX12_here 33 (.putfield 122) 3 36 := by decide +kernel
theorem d12_here_36 : zj cX12_here 36 (.goto (-36)) (-36) 39 0 := by decide +kernel
theorem d12_here_39 : zd cX12_here 39 (.aload_n 0) 1 40 := by decide +kernel
theorem d12_here_40 : zd cX12_here 40 (.aload_n 0) 1 41 := by decide +kernel
theorem d12_here_41 : zd cX12_here 41 (.getfield 122) 3 44 := by decide +kernel
theorem d12_here_44 : zd cX12_here 44 (.invokevirtual 222) 3 47 := by decide +kernel
theorem d12_here_47 : zd cX12_here 47 (.ireturn) 1 48 := by decide +kernel
set_option maxHeartbeats 4000000 in
set_option maxRecDepth 20000 in
theorem c12_here (l : Launch) (D : zDt) (Sh : zSh) (top : Nat) (hO : zOK Sh) (o_ : Nat) (μ : zM) (r_ : Int32) (μ_ : zM) (ho : (Sh o_).1 = 19) (h : f12_here o_ μ = some (r_, μ_)) : zMet l D zK1 yX12_here cX12_here 1 (some .int) (zrm 1 21) [.ref o_] Sh top μ (some (.int r_)) Sh top μ_ 0 0 := by
  refine zMet_of (by decide) (Nat.le_of_ble_eq_true rfl) fun X hX1 hX2 fx fin => ?_
  subst hX1; subst hX2
  replace fx : zFix X cX12_here RX12 (zrm 1 21) 1 := fx
  show zZ zK1 X (zT0 Sh top) μ 0 [(0, .ref o_)] []
  unfold f12_here at h
  obtain ⟨μ2, e16, h⟩ := zinv h
  have kx4 : zZ zK1 X (zT0 Sh top) μ2 39 [(0, .ref o_)] [] := by
    refine z_aload_n fx (k := 0) (i := 0) rfl rfl d12_here_39 ?_
    refine z_aload_n fx (k := 0) (i := 0) rfl rfl d12_here_40 ?_
    refine z_getI fx 12 37 1237 ho lf12_122 ⟨fk12_37, rfl⟩ d12_here_41 ?_
    obtain ⟨t8, e15, h⟩ := zinv h
    refine z_cVr fx (c12_seen (zLo X) (zDo X) Sh top hO o_ (gF μ2 1237 o_) μ2 _ ho e15) mv12_seen ml12_222 ho rfl rfl rfl rfl d12_here_44 ?_
    cases h
    exact z_ireturn fx fin d12_here_47
  clear h
  have klr3 : ∀ (n : Nat) (μ1 : zM), zloop (fun s => f12_here_L1 o_ s) n μ1 = some μ2 → zZ zK1 X (zT0 Sh top) μ1 0 [(0, .ref o_)] [] := by
    intro n
    induction n with
    | zero => intro μ1 hl2; cases hl2
    | succ n ih5 =>
      intro μ1 hl2
      obtain ⟨y, e1, hl2⟩ := zloop_inv hl2
      replace e1 : f12_here_L1 o_ μ1 = some y := e1
      unfold f12_here_L1 at e1
      obtain ⟨b3, e7, e1⟩ := zinv e1
      have kt6 : b3 = true → zZ zK1 X (zT0 Sh top) μ1 26 [(0, .ref o_)] [] := by
        intro hc
        replace e1 := zif_t hc e1
        refine z_aload_n fx (k := 0) (i := 0) rfl rfl d12_here_26 ?_
        refine z_dup fx rfl d12_here_27 ?_
        refine z_getI fx 12 37 1237 ho lf12_122 ⟨fk12_37, rfl⟩ d12_here_28 ?_
        refine z_iconst fx (v := 1) ic1 d12_here_31 ?_
        refine z_iadd fx d12_here_32 ?_
        obtain ⟨μ4, e8, e1⟩ := zinv e1
        refine z_putI fx (ci := 12) 37 ho lf12_122 fp12_37 e8 d12_here_33 ?_
        cases e1
        refine z_goto fx d12_here_36 ?_
        exact ih5 _ hl2
      have kf6 : b3 = false → zZ zK1 X (zT0 Sh top) μ1 39 [(0, .ref o_)] [] := by
        intro hc
        replace e1 := zif_f hc e1
        cases e1
        cases hl2
        exact kx4
      clear e1
      obtain ⟨b5, e9, e7⟩ := zinv e7
      have kf10 : b5 = false → zZ zK1 X (zT0 Sh top) μ1 13 [(0, .ref o_)] [] := by
        intro hc
        replace e7 := zif_f hc e7
        refine z_aload_n fx (k := 0) (i := 0) rfl rfl d12_here_13 ?_
        refine z_aload_n fx (k := 0) (i := 0) rfl rfl d12_here_14 ?_
        refine z_getI fx 12 37 1237 ho lf12_122 ⟨fk12_37, rfl⟩ d12_here_15 ?_
        obtain ⟨t6, e11, e7⟩ := zinv e7
        refine z_cVr fx (c12_seen (zLo X) (zDo X) Sh top hO o_ (gF μ1 1237 o_) μ1 _ ho e11) mv12_seen ml12_222 ho rfl rfl rfl rfl d12_here_18 ?_
        refine z_bipush fx (v := 32) bp32 d12_here_21 ?_
        cases e7
        refine z_icmp_ne fx d12_here_23 (fun c12 => ?_) (fun c12 => ?_)
        · exact kf6 c12
        · exact kt6 c12
      have kt10 : b5 = true → zZ zK1 X (zT0 Sh top) μ1 26 [(0, .ref o_)] [] := by
        intro hc
        replace e7 := zif_t hc e7
        cases e7
        exact kt6 rfl
      clear e7
      refine z_aload_n fx (k := 0) (i := 0) rfl rfl d12_here_0 ?_
      refine z_aload_n fx (k := 0) (i := 0) rfl rfl d12_here_1 ?_
      refine z_getI fx 12 37 1237 ho lf12_122 ⟨fk12_37, rfl⟩ d12_here_2 ?_
      obtain ⟨t7, e13, e9⟩ := zinv e9
      refine z_cVr fx (c12_seen (zLo X) (zDo X) Sh top hO o_ (gF μ1 1237 o_) μ1 _ ho e13) mv12_seen ml12_222 ho rfl rfl rfl rfl d12_here_5 ?_
      refine z_bipush fx (v := 10) bp10 d12_here_8 ?_
      cases e9
      refine z_icmp_eq fx d12_here_10 (fun c14 => ?_) (fun c14 => ?_)
      · exact kt10 c14
      · exact kf10 c14
  exact klr3 _ _ e16
theorem d12_fails_0 : zd cX12_fails 0 (.aload_n 0) 1 1 := by decide +kernel
theorem d12_fails_1 : zd cX12_fails 1 (.getfield 128) 3 4 := by decide +kernel
theorem d12_fails_4 : zj cX12_fails 4 (.ifCond .eq 4) 4 7 8 := by decide +kernel
theorem d12_fails_7 : zd cX12_fails 7 (.return_) 1 8 := by decide +kernel
theorem d12_fails_8 : zd cX12_fails 8 (.aload_n 0) 1 9 := by decide +kernel
theorem d12_fails_9 : zd cX12_fails 9 (.iload_n 1) 1 10 := by decide +kernel
theorem d12_fails_10 : zd cX12_fails 10 (.putfield 128) 3 13 := by decide +kernel
theorem d12_fails_13 : zd cX12_fails 13 (.aload_n 0) 1 14 := by decide +kernel
theorem d12_fails_14 : zd cX12_fails 14 (.iload_n 2) 1 15 := by decide +kernel
theorem d12_fails_15 : zd cX12_fails 15 (.putfield 131) 3 18 := by decide +kernel
theorem d12_fails_18 : zd cX12_fails 18 (.return_) 1 19 := by decide +kernel
set_option maxHeartbeats 4000000 in
set_option maxRecDepth 20000 in
theorem c12_fails (l : Launch) (D : zDt) (Sh : zSh) (top : Nat) (hO : zOK Sh) (o_ : Nat) (v_kind : Int32) (v_place : Int32) (μ : zM) (μ_ : zM) (ho : (Sh o_).1 = 19) (h : f12_fails o_ v_kind v_place μ = some μ_) : zMet l D zK1 yX12_fails cX12_fails 3 none (zrm 0 0) [.ref o_, .int v_kind, .int v_place] Sh top μ none Sh top μ_ 0 0 := by
  refine zMet_of (by decide) (Nat.le_of_ble_eq_true rfl) fun X hX1 hX2 fx fin => ?_
  subst hX1; subst hX2
  replace fx : zFix X cX12_fails RX12 (zrm 0 0) 3 := fx
  show zZ zK1 X (zT0 Sh top) μ 0 [(0, .ref o_), (1, .int v_kind), (2, .int v_place)] []
  unfold f12_fails at h
  refine z_aload_n fx (k := 0) (i := 0) rfl rfl d12_fails_0 ?_
  refine z_getI fx 12 39 1239 ho lf12_128 ⟨fk12_39, rfl⟩ d12_fails_1 ?_
  refine z_if_eq fx d12_fails_4 (fun c1 => ?_) (fun c1 => ?_)
  · replace h := zif_t c1 h
    refine z_aload_n fx (k := 0) (i := 0) rfl rfl d12_fails_8 ?_
    refine z_iload_n fx (k := 1) (i := 1) rfl rfl d12_fails_9 ?_
    obtain ⟨μ1, e2, h⟩ := zinv h
    refine z_putI fx (ci := 12) 39 ho lf12_128 fp12_39 e2 d12_fails_10 ?_
    refine z_aload_n fx (k := 0) (i := 0) rfl rfl d12_fails_13 ?_
    refine z_iload_n fx (k := 2) (i := 2) rfl rfl d12_fails_14 ?_
    obtain ⟨μ2, e3, h⟩ := zinv h
    refine z_putI fx (ci := 12) 40 ho lf12_131 fp12_40 e3 d12_fails_15 ?_
    cases h
    exact z_return fx fin d12_fails_18
  · replace h := zif_f c1 h
    cases h
    exact z_return fx fin d12_fails_7
theorem d12_goes_0 : zd cX12_goes 0 (.aload_n 0) 1 1 := by decide +kernel
theorem d12_goes_1 : zd cX12_goes 1 (.getfield 128) 3 4 := by decide +kernel
theorem d12_goes_4 : zj cX12_goes 4 (.ifCond .ne 7) 7 7 11 := by decide +kernel
theorem d12_goes_7 : zd cX12_goes 7 (.iconst 1) 1 8 := by decide +kernel
theorem d12_goes_8 : zj cX12_goes 8 (.goto 4) 4 11 12 := by decide +kernel
theorem d12_goes_11 : zd cX12_goes 11 (.iconst 0) 1 12 := by decide +kernel
theorem d12_goes_12 : zd cX12_goes 12 (.ireturn) 1 13 := by decide +kernel
set_option maxHeartbeats 4000000 in
set_option maxRecDepth 20000 in
theorem c12_goes (l : Launch) (D : zDt) (Sh : zSh) (top : Nat) (hO : zOK Sh) (o_ : Nat) (μ : zM) (r_ : Bool) (ho : (Sh o_).1 = 19) (h : f12_goes o_ μ = some r_) : zMet l D zK1 yX12_goes cX12_goes 1 (some .boolean) (zrm 0 0) [.ref o_] Sh top μ (some (.int (bI r_))) Sh top μ 0 0 := by
  refine zMet_of (by decide) (Nat.le_of_ble_eq_true rfl) fun X hX1 hX2 fx fin => ?_
  subst hX1; subst hX2
  replace fx : zFix X cX12_goes RX12 (zrm 0 0) 1 := fx
  show zZ zK1 X (zT0 Sh top) μ 0 [(0, .ref o_)] []
  unfold f12_goes at h
  obtain ⟨b1, e1, h⟩ := zinv h
  replace e1 := Option.some.inj e1
  have k2 : zZ zK1 X (zT0 Sh top) μ 12 [(0, .ref o_)] [.int (bI b1)] := by
    cases h
    exact z_zreturn fx fin d12_goes_12
  refine z_aload_n fx (k := 0) (i := 0) rfl rfl d12_goes_0 ?_
  refine z_getI fx 12 39 1239 ho lf12_128 ⟨fk12_39, rfl⟩ d12_goes_1 ?_
  refine z_if_ne fx d12_goes_4 (fun c3 => ?_) (fun c3 => ?_)
  · refine z_iconst fx (v := 0) ic0 d12_goes_11 ?_
    exact z_top (congrArg Value.int (show 0 = bI b1 by rw [← e1]; simp [c3, bI])) k2
  · refine z_iconst fx (v := 1) ic1 d12_goes_7 ?_
    refine z_goto fx d12_goes_8 ?_
    exact z_top (congrArg Value.int (show 1 = bI b1 by rw [← e1]; simp [c3, bI])) k2
