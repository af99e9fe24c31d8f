theorem d8_goDown_0 : zd cX8_goDown 0 (.aload_n 0) 1 1 := by decide +kernel
theorem d8_goDown_1 : zd cX8_goDown 1 (.getfield 19) 3 4 := by decide +kernel
theorem d8_goDown_4 : zd cX8_goDown 4 (.iload_n 1) 1 5 := by decide +kernel
theorem d8_goDown_5 : zd cX8_goDown 5 (.aaload) 1 6 := by decide +kernel
theorem d8_goDown_6 : zd cX8_goDown 6 (.iconst 0) 1 7 := by decide +kernel
theorem d8_goDown_7 : zd cX8_goDown 7 (.invokevirtual 148) 3 10 := by decide +kernel
theorem d8_goDown_10 : zd cX8_goDown 10 (.aload_n 0) 1 11 := by decide +kernel
theorem d8_goDown_11 : zd cX8_goDown 11 (.iload_n 1) 1 12 := by decide +kernel
theorem d8_goDown_12 : zd cX8_goDown 12 (.invokevirtual 138) 3 15 := by decide +kernel
theorem d8_goDown_15 : zd cX8_goDown 15 (.aload_n 0) 1 16 := by decide +kernel
theorem d8_goDown_16 : zd cX8_goDown 16 (.iload_n 1) 1 17 := by decide +kernel
theorem d8_goDown_17 : zd cX8_goDown 17 (.invokevirtual 195) 3 20 := by decide +kernel
theorem d8_goDown_20 : zd cX8_goDown 20 (.return_) 1 21 := by decide +kernel
set_option maxHeartbeats 4000000 in
set_option maxRecDepth 20000 in
theorem c8_goDown (l : Launch) (D : zDt) (Sh : zSh) (top : Nat) (hO : zOK Sh) (o_ : Nat) (v_end : Int32) (μ : zM) (μ_ : zM) (ho : (Sh o_).1 = 15) (h : f8_goDown o_ v_end μ = some μ_) : zMet l D zK1 yX8_goDown cX8_goDown 2 none (zrm 1 23) [.ref o_, .int v_end] Sh top μ none Sh top μ_ 0 0 := by
  refine zMet_of (by decide) (Nat.le_of_ble_eq_true rfl) fun X hX1 hX2 fx fin => ?_
  subst hX1; subst hX2
  replace fx : zFix X cX8_goDown RX8 (zrm 1 23) 2 := fx
  show zZ zK1 X (zT0 Sh top) μ 0 [(0, .ref o_), (1, .int v_end)] []
  unfold f8_goDown at h
  refine z_aload_n fx (k := 0) (i := 0) rfl rfl d8_goDown_0 ?_
  refine z_getO fx 8 1 2 ho lf8_19 fk8_1 d8_goDown_1 ?_
  refine z_iload_n fx (k := 1) (i := 1) rfl rfl d8_goDown_4 ?_
  obtain ⟨j1, e1, h⟩ := zinv h
  refine z_aald fx 1 (by decide) (ok8_1 hO ho) e1 (v := .ref (o_ + 37 + 2 * j1)) rfl d8_goDown_5 ?_
  refine z_iconst fx (v := 0) ic0 d8_goDown_6 ?_
  refine z_top (show Value.int 0 = .int (bI false) from rfl) ?_
  obtain ⟨μ2, e2, h⟩ := zinv h
  refine z_cVv fx (c4_clear (zLo X) (zDo X) Sh top hO (o_ + 37 + 2 * j1) false μ _ (okA1 hO (ok8_1 hO ho) (rI_lt e1)) e2) mv4_clear ml8_148 (okA1 hO (ok8_1 hO ho) (rI_lt e1)) rfl rfl rfl rfl d8_goDown_7 ?_
  refine z_aload_n fx (k := 0) (i := 0) rfl rfl d8_goDown_10 ?_
  refine z_iload_n fx (k := 1) (i := 1) rfl rfl d8_goDown_11 ?_
  obtain ⟨μ3, e3, h⟩ := zinv h
  refine z_cVv fx (c8_dropMail (zLo X) (zDo X) Sh top hO o_ v_end μ2 _ ho e3) mv8_dropMail ml8_138 ho rfl rfl rfl rfl d8_goDown_12 ?_
  refine z_aload_n fx (k := 0) (i := 0) rfl rfl d8_goDown_15 ?_
  refine z_iload_n fx (k := 1) (i := 1) rfl rfl d8_goDown_16 ?_
  obtain ⟨μ4, e4, h⟩ := zinv h
  refine z_cVv fx (c8_forgetAt (zLo X) (zDo X) Sh top hO o_ v_end μ3 _ ho e4) mv8_forgetAt ml8_195 ho rfl rfl rfl rfl d8_goDown_17 ?_
  cases h
  exact z_return fx fin d8_goDown_20
theorem d8_touchEnds_0 : zd cX8_touchEnds 0 (.aload_n 0) 1 1 := by decide +kernel
theorem d8_touchEnds_1 : zd cX8_touchEnds 1 (.getfield 46) 3 4 := by decide +kernel
theorem d8_touchEnds_4 : zd cX8_touchEnds 4 (.aload_n 0) 1 5 := by decide +kernel
theorem d8_touchEnds_5 : zd cX8_touchEnds 5 (.getfield 62) 3 8 := by decide +kernel
theorem d8_touchEnds_8 : zd cX8_touchEnds 8 (.getfield 158) 3 11 := by decide +kernel
theorem d8_touchEnds_11 : zd cX8_touchEnds 11 (.iconst 2) 1 12 := by decide +kernel
theorem d8_touchEnds_12 : zd cX8_touchEnds 12 (.iload_n 1) 1 13 := by decide +kernel
theorem d8_touchEnds_13 : zd cX8_touchEnds 13 (.imul) 1 14 := by decide +kernel
theorem d8_touchEnds_14 : zd cX8_touchEnds 14 (.iaload) 1 15 := by decide +kernel
theorem d8_touchEnds_15 : zd cX8_touchEnds 15 (.iconst 1) 1 16 := by decide +kernel
theorem d8_touchEnds_16 : zd cX8_touchEnds 16 (.bastore) 1 17 := by decide +kernel
theorem d8_touchEnds_17 : zd cX8_touchEnds 17 (.aload_n 0) 1 18 := by decide +kernel
theorem d8_touchEnds_18 : zd cX8_touchEnds 18 (.getfield 46) 3 21 := by decide +kernel
theorem d8_touchEnds_21 : zd cX8_touchEnds 21 (.aload_n 0) 1 22 := by decide +kernel
theorem d8_touchEnds_22 : zd cX8_touchEnds 22 (.getfield 62) 3 25 := by decide +kernel
theorem d8_touchEnds_25 : zd cX8_touchEnds 25 (.getfield 158) 3 28 := by decide +kernel
theorem d8_touchEnds_28 : zd cX8_touchEnds 28 (.iconst 2) 1 29 := by decide +kernel
theorem d8_touchEnds_29 : zd cX8_touchEnds 29 (.iload_n 1) 1 30 := by decide +kernel
theorem d8_touchEnds_30 : zd cX8_touchEnds 30 (.imul) 1 31 := by decide +kernel
theorem d8_touchEnds_31 : zd cX8_touchEnds 31 (.iconst 1) 1 32 := by decide +kernel
theorem d8_touchEnds_32 : zd cX8_touchEnds 32 (.iadd) 1 33 := by decide +kernel
theorem d8_touchEnds_33 : zd cX8_touchEnds 33 (.iaload) 1 34 := by decide +kernel
theorem d8_touchEnds_34 : zd cX8_touchEnds 34 (.iconst 1) 1 35 := by decide +kernel
theorem d8_touchEnds_35 : zd cX8_touchEnds 35 (.bastore) 1 36 := by decide +kernel
theorem d8_touchEnds_36 : zd cX8_touchEnds 36 (.return_) 1 37 := by decide +kernel
set_option maxHeartbeats 4000000 in
set_option maxRecDepth 20000 in
theorem c8_touchEnds (l : Launch) (D : zDt) (Sh : zSh) (top : Nat) (hO : zOK Sh) (o_ : Nat) (v_link : Int32) (μ : zM) (μ_ : zM) (ho : (Sh o_).1 = 15) (h : f8_touchEnds o_ v_link μ = some μ_) : zMet l D zK1 yX8_touchEnds cX8_touchEnds 2 none (zrm 0 0) [.ref o_, .int v_link] Sh top μ none Sh top μ_ 0 0 := by
  refine zMet_of (by decide) (Nat.le_of_ble_eq_true rfl) fun X hX1 hX2 fx fin => ?_
  subst hX1; subst hX2
  replace fx : zFix X cX8_touchEnds RX8 (zrm 0 0) 2 := fx
  show zZ zK1 X (zT0 Sh top) μ 0 [(0, .ref o_), (1, .int v_link)] []
  unfold f8_touchEnds at h
  refine z_aload_n fx (k := 0) (i := 0) rfl rfl d8_touchEnds_0 ?_
  refine z_getO fx 8 8 9 ho lf8_46 fk8_8 d8_touchEnds_1 ?_
  refine z_aload_n fx (k := 0) (i := 0) rfl rfl d8_touchEnds_4 ?_
  obtain ⟨w1, e1, h⟩ := zinv h
  refine z_getR fx 8 12 812 17 ho lf8_62 ⟨fk8_12, rfl⟩ e1 d8_touchEnds_5 (fun tw1 => ?_)
  refine z_getO fx 10 6 7 tw1 lf8_158 fk10_6 d8_touchEnds_8 ?_
  refine z_iconst fx (v := 2) ic2 d8_touchEnds_11 ?_
  refine z_iload_n fx (k := 1) (i := 1) rfl rfl d8_touchEnds_12 ?_
  refine z_imul fx d8_touchEnds_13 ?_
  obtain ⟨t2, e2, h⟩ := zinv h
  refine z_iald fx (ok10_6 hO tw1) e2 d8_touchEnds_14 ?_
  refine z_iconst fx (v := 1) ic1 d8_touchEnds_15 ?_
  refine z_top (show Value.int 1 = .int (bI true) from rfl) ?_
  obtain ⟨μ3, e3, h⟩ := zinv h
  refine z_zast fx (ok8_8 hO ho) e3 d8_touchEnds_16 ?_
  refine z_aload_n fx (k := 0) (i := 0) rfl rfl d8_touchEnds_17 ?_
  refine z_getO fx 8 8 9 ho lf8_46 fk8_8 d8_touchEnds_18 ?_
  refine z_aload_n fx (k := 0) (i := 0) rfl rfl d8_touchEnds_21 ?_
  obtain ⟨w4, e4, h⟩ := zinv h
  refine z_getR fx 8 12 812 17 ho lf8_62 ⟨fk8_12, rfl⟩ e4 d8_touchEnds_22 (fun tw4 => ?_)
  refine z_getO fx 10 6 7 tw4 lf8_158 fk10_6 d8_touchEnds_25 ?_
  refine z_iconst fx (v := 2) ic2 d8_touchEnds_28 ?_
  refine z_iload_n fx (k := 1) (i := 1) rfl rfl d8_touchEnds_29 ?_
  refine z_imul fx d8_touchEnds_30 ?_
  refine z_iconst fx (v := 1) ic1 d8_touchEnds_31 ?_
  refine z_iadd fx d8_touchEnds_32 ?_
  obtain ⟨t5, e5, h⟩ := zinv h
  refine z_iald fx (ok10_6 hO tw4) e5 d8_touchEnds_33 ?_
  refine z_iconst fx (v := 1) ic1 d8_touchEnds_34 ?_
  refine z_top (show Value.int 1 = .int (bI true) from rfl) ?_
  obtain ⟨μ6, e6, h⟩ := zinv h
  refine z_zast fx (ok8_8 hO ho) e6 d8_touchEnds_35 ?_
  cases h
  exact z_return fx fin d8_touchEnds_36
theorem d8_cutLink_0 : zd cX8_cutLink 0 (.aload_n 0) 1 1 := by decide +kernel
theorem d8_cutLink_1 : zd cX8_cutLink 1 (.iconst 2) 1 2 := by decide +kernel
theorem d8_cutLink_2 : zd cX8_cutLink 2 (.iload_n 1) 1 3 := by decide +kernel
theorem d8_cutLink_3 : zd cX8_cutLink 3 (.imul) 1 4 := by decide +kernel
theorem d8_cutLink_4 : zd cX8_cutLink 4 (.invokevirtual 383) 3 7 := by decide +kernel
theorem d8_cutLink_7 : zd cX8_cutLink 7 (.aload_n 0) 1 8 := by decide +kernel
theorem d8_cutLink_8 : zd cX8_cutLink 8 (.iconst 2) 1 9 := by decide +kernel
theorem d8_cutLink_9 : zd cX8_cutLink 9 (.iload_n 1) 1 10 := by decide +kernel
theorem d8_cutLink_10 : zd cX8_cutLink 10 (.imul) 1 11 := by decide +kernel
theorem d8_cutLink_11 : zd cX8_cutLink 11 (.iconst 1) 1 12 := by decide +kernel
theorem d8_cutLink_12 : zd cX8_cutLink 12 (.iadd) 1 13 := by decide +kernel
theorem d8_cutLink_13 : zd cX8_cutLink 13 (.invokevirtual 383) 3 16 := by decide +kernel
theorem d8_cutLink_16 : zd cX8_cutLink 16 (.aload_n 0) 1 17 := by decide +kernel
theorem d8_cutLink_17 : zd cX8_cutLink 17 (.getfield 29) 3 20 := by decide +kernel
theorem d8_cutLink_20 : zd cX8_cutLink 20 (.iload_n 1) 1 21 := by decide +kernel
theorem d8_cutLink_21 : zd cX8_cutLink 21 (.iconst 0) 1 22 := by decide +kernel
theorem d8_cutLink_22 : zd cX8_cutLink 22 (.bastore) 1 23 := by decide +kernel
theorem d8_cutLink_23 : zd cX8_cutLink 23 (.aload_n 0) 1 24 := by decide +kernel
theorem d8_cutLink_24 : zd cX8_cutLink 24 (.iload_n 1) 1 25 := by decide +kernel
theorem d8_cutLink_25 : zd cX8_cutLink 25 (.invokevirtual 386) 3 28 := by decide +kernel
theorem d8_cutLink_28 : zd cX8_cutLink 28 (.aload_n 0) 1 29 := by decide +kernel
theorem d8_cutLink_29 : zd cX8_cutLink 29 (.invokevirtual 155) 3 32 := by decide +kernel
theorem d8_cutLink_32 : zd cX8_cutLink 32 (.return_) 1 33 := by decide +kernel
set_option maxHeartbeats 4000000 in
set_option maxRecDepth 20000 in
theorem c8_cutLink (l : Launch) (D : zDt) (Sh : zSh) (top : Nat) (hO : zOK Sh) (o_ : Nat) (v_link : Int32) (μ : zM) (μ_ : zM) (ho : (Sh o_).1 = 15) (h : f8_cutLink o_ v_link μ = some μ_) : zMet l D zK1 yX8_cutLink cX8_cutLink 2 none (zrm 5 116) [.ref o_, .int v_link] Sh top μ none Sh top μ_ 0 0 := by
  refine zMet_of (by decide) (Nat.le_of_ble_eq_true rfl) fun X hX1 hX2 fx fin => ?_
  subst hX1; subst hX2
  replace fx : zFix X cX8_cutLink RX8 (zrm 5 116) 2 := fx
  show zZ zK1 X (zT0 Sh top) μ 0 [(0, .ref o_), (1, .int v_link)] []
  unfold f8_cutLink at h
  refine z_aload_n fx (k := 0) (i := 0) rfl rfl d8_cutLink_0 ?_
  refine z_iconst fx (v := 2) ic2 d8_cutLink_1 ?_
  refine z_iload_n fx (k := 1) (i := 1) rfl rfl d8_cutLink_2 ?_
  refine z_imul fx d8_cutLink_3 ?_
  obtain ⟨μ1, e1, h⟩ := zinv h
  refine z_cVv fx (c8_goDown (zLo X) (zDo X) Sh top hO o_ (2 * v_link) μ _ ho e1) mv8_goDown ml8_383 ho rfl rfl rfl rfl d8_cutLink_4 ?_
  refine z_aload_n fx (k := 0) (i := 0) rfl rfl d8_cutLink_7 ?_
  refine z_iconst fx (v := 2) ic2 d8_cutLink_8 ?_
  refine z_iload_n fx (k := 1) (i := 1) rfl rfl d8_cutLink_9 ?_
  refine z_imul fx d8_cutLink_10 ?_
  refine z_iconst fx (v := 1) ic1 d8_cutLink_11 ?_
  refine z_iadd fx d8_cutLink_12 ?_
  obtain ⟨μ2, e2, h⟩ := zinv h
  refine z_cVv fx (c8_goDown (zLo X) (zDo X) Sh top hO o_ ((2 * v_link) + 1) μ1 _ ho e2) mv8_goDown ml8_383 ho rfl rfl rfl rfl d8_cutLink_13 ?_
  refine z_aload_n fx (k := 0) (i := 0) rfl rfl d8_cutLink_16 ?_
  refine z_getO fx 8 3 4 ho lf8_29 fk8_3 d8_cutLink_17 ?_
  refine z_iload_n fx (k := 1) (i := 1) rfl rfl d8_cutLink_20 ?_
  refine z_iconst fx (v := 0) ic0 d8_cutLink_21 ?_
  refine z_top (show Value.int 0 = .int (bI false) from rfl) ?_
  obtain ⟨μ3, e3, h⟩ := zinv h
  refine z_zast fx (ok8_3 hO ho) e3 d8_cutLink_22 ?_
  refine z_aload_n fx (k := 0) (i := 0) rfl rfl d8_cutLink_23 ?_
  refine z_iload_n fx (k := 1) (i := 1) rfl rfl d8_cutLink_24 ?_
  obtain ⟨μ4, e4, h⟩ := zinv h
  refine z_cVv fx (c8_touchEnds (zLo X) (zDo X) Sh top hO o_ v_link μ3 _ ho e4) mv8_touchEnds ml8_386 ho rfl rfl rfl rfl d8_cutLink_25 ?_
  refine z_aload_n fx (k := 0) (i := 0) rfl rfl d8_cutLink_28 ?_
  obtain ⟨μ5, e5, h⟩ := zinv h
  refine z_cVv fx (c8_chooseTouched (zLo X) (zDo X) Sh top hO o_ μ4 _ ho e5) mv8_chooseTouched ml8_155 ho rfl rfl rfl rfl d8_cutLink_29 ?_
  cases h
  exact z_return fx fin d8_cutLink_32
theorem d6_isHealed_0 : zd cX6_isHealed 0 (.aload_n 0) 1 1 := by decide +kernel
theorem d6_isHealed_1 : zd cX6_isHealed 1 (.aload_n 1) 1 2 := by decide +kernel
theorem d6_isHealed_2 : zd cX6_isHealed 2 (.iconst (-1)) 1 3 := by decide +kernel
theorem d6_isHealed_3 : zd cX6_isHealed 3 (.invokevirtual 37) 3 6 := by decide +kernel
theorem d6_isHealed_6 : zd cX6_isHealed 6 (.iconst 0) 1 7 := by decide +kernel
theorem d6_isHealed_7 : zd cX6_isHealed 7 (.istore_n 2) 1 8 := by decide +kernel
theorem d6_isHealed_8 : zd cX6_isHealed 8 (.iload_n 2) 1 9 := by decide +kernel
theorem d6_isHealed_9 : zd cX6_isHealed 9 (.aload_n 1) 1 10 := by decide +kernel
theorem d6_isHealed_10 : zd cX6_isHealed 10 (.getfield 18) 3 13 := by decide +kernel
theorem d6_isHealed_13 : zd cX6_isHealed 13 (.getfield 24) 3 16 := by decide +kernel
theorem d6_isHealed_16 : zj cX6_isHealed 16 (.if_icmp .ge 30) 30 19 46 := by decide +kernel
theorem d6_isHealed_19 : zd cX6_isHealed 19 (.aload_n 1) 1 20 := by decide +kernel
theorem d6_isHealed_20 : zd cX6_isHealed 20 (.iconst 2) 1 21 := by decide +kernel
theorem d6_isHealed_21 : zd cX6_isHealed 21 (.iload_n 2) 1 22 := by decide +kernel
theorem d6_isHealed_22 : zd cX6_isHealed 22 (.imul) 1 23 := by decide +kernel
theorem d6_isHealed_23 : zd cX6_isHealed 23 (.invokevirtual 41) 3 26 := by decide +kernel
theorem d6_isHealed_26 : zj cX6_isHealed 26 (.ifCond .eq 14) 14 29 40 := by decide +kernel
theorem d6_isHealed_29 : zd cX6_isHealed 29 (.aload_n 0) 1 30 := by decide +kernel
theorem d6_isHealed_30 : zd cX6_isHealed 30 (.aload_n 1) 1 31 := by decide +kernel
theorem d6_isHealed_31 : zd cX6_isHealed 31 (.iload_n 2) 1 32 := by decide +kernel
theorem d6_isHealed_32 : zd cX6_isHealed 32 (.invokevirtual 44) 3 35 := by decide +kernel
theorem d6_isHealed_35 : zj cX6_isHealed 35 (.ifCond .ne 5) 5 38 40 := by decide +kernel
theorem d6_isHealed_38 : zd cX6_isHealed 38 (.iconst 0) 1 39 := by decide +kernel
theorem d6_isHealed_39 : zd cX6_isHealed 39 (.ireturn) 1 40 := by decide +kernel
theorem d6_isHealed_40 : zd cX6_isHealed 40 (.iinc 2 1) 3 43 := by decide +kernel
theorem d6_isHealed_43 : zj cX6_isHealed 43 (.goto (-35)) (-35) 46 8 := by decide +kernel
theorem d6_isHealed_46 : zd cX6_isHealed 46 (.iconst 1) 1 47 := by decide +kernel
theorem d6_isHealed_47 : zd cX6_isHealed 47 (.ireturn) 1 48 := by decide +kernel
set_option maxHeartbeats 4000000 in
set_option maxRecDepth 20000 in
theorem c6_isHealed (l : Launch) (D : zDt) (Sh : zSh) (top : Nat) (hO : zOK Sh) (o_ : Nat) (v_state : Nat) (μ : zM) (r_ : Bool) (μ_ : zM) (ho : (Sh o_).1 = 13) (h_state : (Sh v_state).1 = 15) (h : f6_isHealed o_ v_state μ = some (r_, μ_)) : zMet l D zK1 yX6_isHealed cX6_isHealed 3 (some .boolean) (zrm 2 47) [.ref o_, .ref v_state] Sh top μ (some (.int (bI r_))) Sh top μ_ 0 0 := by
  refine zMet_of (by decide) (Nat.le_of_ble_eq_true rfl) fun X hX1 hX2 fx fin => ?_
  subst hX1; subst hX2
  replace fx : zFix X cX6_isHealed RX6 (zrm 2 47) 3 := fx
  show zZ zK1 X (zT0 Sh top) μ 0 [(0, .ref o_), (1, .ref v_state)] []
  unfold f6_isHealed at h
  refine z_aload_n fx (k := 0) (i := 0) rfl rfl d6_isHealed_0 ?_
  refine z_aload_n fx (k := 1) (i := 1) rfl rfl d6_isHealed_1 ?_
  refine z_iconst fx (v := (-1)) icm1 d6_isHealed_2 ?_
  obtain ⟨μ1, e1, h⟩ := zinv h
  refine z_cVv fx (c6_labelJoined (zLo X) (zDo X) Sh top hO o_ v_state (-1) μ _ ho h_state e1) mv6_labelJoined ml6_37 ho rfl rfl rfl rfl d6_isHealed_3 ?_
  refine z_iconst fx (v := 0) ic0 d6_isHealed_6 ?_
  refine z_istore_n fx (k := 2) (i := 2) rfl rfl (lv' := [(0, .ref o_), (1, .ref v_state), (2, .int 0)]) rfl rfl d6_isHealed_7 ?_
  obtain ⟨r4, e18, h⟩ := zinv h
  have kx5 : ∀ (v_link_3 : Int32), r4 = .inr v_link_3 → zZ zK1 X (zT0 Sh top) μ1 46 [(0, .ref o_), (1, .ref v_state), (2, .int v_link_3)] [] := by
    intro v_link_3 hr
    subst hr
    replace h := zel1 h
    refine z_take 2 (lv' := [(0, .ref o_), (1, .ref v_state)]) rfl ?_
    refine z_iconst fx (v := 1) ic1 d6_isHealed_46 ?_
    refine z_top (show Value.int 1 = .int (bI true) from rfl) ?_
    cases h
    exact z_zreturn fx fin d6_isHealed_47
  have klr4 : ∀ (n : Nat) (v_link_2 : Int32), zloop (fun s => f6_isHealed_L1 o_ v_state μ1 s) n v_link_2 = some r4 → zZ zK1 X (zT0 Sh top) μ1 8 [(0, .ref o_), (1, .ref v_state), (2, .int v_link_2)] [] := by
    intro n
    induction n with
    | zero => intro v_link_2 hl3; cases hl3
    | succ n ih6 =>
      intro v_link_2 hl3
      obtain ⟨y, e2, hl3⟩ := zloop_inv hl3
      replace e2 : f6_isHealed_L1 o_ v_state μ1 v_link_2 = some y := e2
      unfold f6_isHealed_L1 at e2
      refine z_iload_n fx (k := 2) (i := 2) rfl rfl d6_isHealed_8 ?_
      refine z_aload_n fx (k := 1) (i := 1) rfl rfl d6_isHealed_9 ?_
      obtain ⟨w4, e7, e2⟩ := zinv e2
      refine z_getR fx 8 12 812 17 h_state lf6_18 ⟨fk8_12, rfl⟩ e7 d6_isHealed_10 (fun tw4 => ?_)
      refine z_getI fx 10 16 1016 tw4 lf6_24 ⟨fk10_16, rfl⟩ d6_isHealed_13 ?_
      refine z_icmp_ge fx d6_isHealed_16 (fun c8 => ?_) (fun c8 => ?_)
      · replace e2 := zif_f c8 e2
        cases e2
        exact kx5 _ (Eq.symm hl3)
      · replace e2 := zif_t c8 e2
        obtain ⟨b5, e10, e2⟩ := zinv e2
        have kt9 : b5 = true → zZ zK1 X (zT0 Sh top) μ1 38 [(0, .ref o_), (1, .ref v_state), (2, .int v_link_2)] [] := by
          intro hc
          replace e2 := zif_t hc e2
          refine z_iconst fx (v := 0) ic0 d6_isHealed_38 ?_
          refine z_top (show Value.int 0 = .int (bI false) from rfl) ?_
          cases e2
          cases hl3
          cases h
          exact z_zreturn fx fin d6_isHealed_39
        have kf9 : b5 = false → zZ zK1 X (zT0 Sh top) μ1 40 [(0, .ref o_), (1, .ref v_state), (2, .int v_link_2)] [] := by
          intro hc
          replace e2 := zif_f hc e2
          obtain ⟨v_link_6, e11, e2⟩ := zinv e2
          replace e11 := Option.some.inj e11
          refine z_iinc fx (i := 2) (x := v_link_2) (v := v_link_6) rfl (by rw [in1]; exact e11) rfl (lv' := [(0, .ref o_), (1, .ref v_state), (2, .int v_link_6)]) rfl rfl d6_isHealed_40 ?_
          cases e2
          refine z_goto fx d6_isHealed_43 ?_
          exact ih6 _ hl3
        clear e2
        obtain ⟨b7, e12, e10⟩ := zinv e10
        have kt13 : b7 = true → zZ zK1 X (zT0 Sh top) μ1 29 [(0, .ref o_), (1, .ref v_state), (2, .int v_link_2)] [] := by
          intro hc
          replace e10 := zif_t hc e10
          refine z_aload_n fx (k := 0) (i := 0) rfl rfl d6_isHealed_29 ?_
          refine z_aload_n fx (k := 1) (i := 1) rfl rfl d6_isHealed_30 ?_
          refine z_iload_n fx (k := 2) (i := 2) rfl rfl d6_isHealed_31 ?_
          obtain ⟨t8, e14, e10⟩ := zinv e10
          refine z_cVr fx (c6_areJoined (zLo X) (zDo X) Sh top hO o_ v_state v_link_2 μ1 _ ho h_state e14) mv6_areJoined ml6_44 ho rfl rfl rfl rfl d6_isHealed_32 ?_
          cases e10
          refine z_ifb_ne fx d6_isHealed_35 (fun c15 => ?_) (fun c15 => ?_)
          · exact kf9 (by rw [c15]; rfl)
          · exact kt9 (by rw [c15]; rfl)
        have kf13 : b7 = false → zZ zK1 X (zT0 Sh top) μ1 40 [(0, .ref o_), (1, .ref v_state), (2, .int v_link_2)] [] := by
          intro hc
          replace e10 := zif_f hc e10
          cases e10
          exact kf9 rfl
        clear e10
        refine z_aload_n fx (k := 1) (i := 1) rfl rfl d6_isHealed_19 ?_
        refine z_iconst fx (v := 2) ic2 d6_isHealed_20 ?_
        refine z_iload_n fx (k := 2) (i := 2) rfl rfl d6_isHealed_21 ?_
        refine z_imul fx d6_isHealed_22 ?_
        obtain ⟨t9, e16, e12⟩ := zinv e12
        refine z_cVr fx (c8_isUp (zLo X) (zDo X) Sh top hO v_state (2 * v_link_2) μ1 _ h_state e16) mv8_isUp ml6_41 h_state rfl rfl rfl rfl d6_isHealed_23 ?_
        cases e12
        refine z_ifb_eq fx d6_isHealed_26 (fun c17 => ?_) (fun c17 => ?_)
        · exact kf13 c17
        · exact kt13 c17
  exact klr4 _ _ e18
theorem d11_countHealing_0 : zd cX11_countHealing 0 (.aload_n 0) 1 1 := by decide +kernel
theorem d11_countHealing_1 : zd cX11_countHealing 1 (.getfield 79) 3 4 := by decide +kernel
theorem d11_countHealing_4 : zd cX11_countHealing 4 (.aload_n 0) 1 5 := by decide +kernel
theorem d11_countHealing_5 : zd cX11_countHealing 5 (.getfield 75) 3 8 := by decide +kernel
theorem d11_countHealing_8 : zd cX11_countHealing 8 (.invokevirtual 303) 3 11 := by decide +kernel
theorem d11_countHealing_11 : zd cX11_countHealing 11 (.aload_n 0) 1 12 := by decide +kernel
theorem d11_countHealing_12 : zd cX11_countHealing 12 (.getfield 79) 3 15 := by decide +kernel
theorem d11_countHealing_15 : zd cX11_countHealing 15 (.iload_n 1) 1 16 := by decide +kernel
theorem d11_countHealing_16 : zd cX11_countHealing 16 (.invokevirtual 331) 3 19 := by decide +kernel
theorem d11_countHealing_19 : zd cX11_countHealing 19 (.iconst 0) 1 20 := by decide +kernel
theorem d11_countHealing_20 : zd cX11_countHealing 20 (.istore_n 2) 1 21 := by decide +kernel
theorem d11_countHealing_21 : zd cX11_countHealing 21 (.iload_n 2) 1 22 := by decide +kernel
theorem d11_countHealing_22 : zd cX11_countHealing 22 (.sipush 320) 3 25 := by decide +kernel
theorem d11_countHealing_25 : zj cX11_countHealing 25 (.if_icmp .gt 32) 32 28 57 := by decide +kernel
theorem d11_countHealing_28 : zd cX11_countHealing 28 (.aload_n 0) 1 29 := by decide +kernel
theorem d11_countHealing_29 : zd cX11_countHealing 29 (.getfield 29) 3 32 := by decide +kernel
theorem d11_countHealing_32 : zd cX11_countHealing 32 (.aload_n 0) 1 33 := by decide +kernel
theorem d11_countHealing_33 : zd cX11_countHealing 33 (.getfield 79) 3 36 := by decide +kernel
theorem d11_countHealing_36 : zd cX11_countHealing 36 (.invokevirtual 334) 3 39 := by decide +kernel
theorem d11_countHealing_39 : zj cX11_countHealing 39 (.ifCond .eq 5) 5 42 44 := by decide +kernel
theorem d11_countHealing_42 : zd cX11_countHealing 42 (.iload_n 2) 1 43 := by decide +kernel
theorem d11_countHealing_43 : zd cX11_countHealing 43 (.ireturn) 1 44 := by decide +kernel
theorem d11_countHealing_44 : zd cX11_countHealing 44 (.aload_n 0) 1 45 := by decide +kernel
theorem d11_countHealing_45 : zd cX11_countHealing 45 (.getfield 79) 3 48 := by decide +kernel
theorem d11_countHealing_48 : zd cX11_countHealing 48 (.invokevirtual 306) 3 51 := by decide +kernel
theorem d11_countHealing_51 : zd cX11_countHealing 51 (.iinc 2 1) 3 54 := by decide +kernel
theorem d11_countHealing_54 : zj cX11_countHealing 54 (.goto (-33)) (-33) 57 21 := by decide +kernel
theorem d11_countHealing_57 : zd cX11_countHealing 57 (.iconst (-1)) 1 58 := by decide +kernel
theorem d11_countHealing_58 : zd cX11_countHealing 58 (.ireturn) 1 59 := by decide +kernel
set_option maxHeartbeats 4000000 in
set_option maxRecDepth 20000 in
theorem c11_countHealing (l : Launch) (D : zDt) (Sh : zSh) (top : Nat) (hO : zOK Sh) (o_ : Nat) (v_link : Int32) (μ : zM) (r_ : Int32) (μ_ : zM) (ho : (Sh o_).1 = 18) (h : f11_countHealing o_ v_link μ = some (r_, μ_)) : zMet l D zK1 yX11_countHealing cX11_countHealing 3 (some .int) (zrm 6 143) [.ref o_, .int v_link] Sh top μ (some (.int r_)) Sh top μ_ 0 0 := by
  refine zMet_of (by decide) (Nat.le_of_ble_eq_true rfl) fun X hX1 hX2 fx fin => ?_
  subst hX1; subst hX2
  replace fx : zFix X cX11_countHealing RX11 (zrm 6 143) 3 := fx
  show zZ zK1 X (zT0 Sh top) μ 0 [(0, .ref o_), (1, .int v_link)] []
  unfold f11_countHealing at h
  refine z_aload_n fx (k := 0) (i := 0) rfl rfl d11_countHealing_0 ?_
  refine z_getO fx 11 2 312 ho lf11_79 fk11_2 d11_countHealing_1 ?_
  refine z_aload_n fx (k := 0) (i := 0) rfl rfl d11_countHealing_4 ?_
  refine z_getO fx 11 3 51 ho lf11_75 fk11_3 d11_countHealing_5 ?_
  obtain ⟨μ1, e1, h⟩ := zinv h
  refine z_cVv fx (c8_copyFrom (zLo X) (zDo X) Sh top hO (o_ + 312) (o_ + 51) μ _ (ok11_2 hO ho) (ok11_3 hO ho) e1) mv8_copyFrom ml11_303 (ok11_2 hO ho) rfl rfl rfl rfl d11_countHealing_8 ?_
  refine z_aload_n fx (k := 0) (i := 0) rfl rfl d11_countHealing_11 ?_
  refine z_getO fx 11 2 312 ho lf11_79 fk11_2 d11_countHealing_12 ?_
  refine z_iload_n fx (k := 1) (i := 1) rfl rfl d11_countHealing_15 ?_
  obtain ⟨μ2, e2, h⟩ := zinv h
  refine z_cVv fx (c8_cutLink (zLo X) (zDo X) Sh top hO (o_ + 312) v_link μ1 _ (ok11_2 hO ho) e2) mv8_cutLink ml11_331 (ok11_2 hO ho) rfl rfl rfl rfl d11_countHealing_16 ?_
  refine z_iconst fx (v := 0) ic0 d11_countHealing_19 ?_
  refine z_istore_n fx (k := 2) (i := 2) rfl rfl (lv' := [(0, .ref o_), (1, .int v_link), (2, .int 0)]) rfl rfl d11_countHealing_20 ?_
  obtain ⟨r5, e13, h⟩ := zinv h
  have kx6 : ∀ (v_steps_5 : Int32) (μ6 : zM), r5 = .inr (v_steps_5, μ6) → zZ zK1 X (zT0 Sh top) μ6 57 [(0, .ref o_), (1, .int v_link), (2, .int v_steps_5)] [] := by
    intro v_steps_5 μ6 hr
    subst hr
    replace h := zel2 h
    refine z_take 2 (lv' := [(0, .ref o_), (1, .int v_link)]) rfl ?_
    refine z_iconst fx (v := (-1)) icm1 d11_countHealing_57 ?_
    cases h
    exact z_ireturn fx fin d11_countHealing_58
  have klr5 : ∀ (n : Nat) (v_steps_3 : Int32) (μ4 : zM), zloop (fun s => f11_countHealing_L1 o_ s.1 s.2) n (v_steps_3, μ4) = some r5 → zZ zK1 X (zT0 Sh top) μ4 21 [(0, .ref o_), (1, .int v_link), (2, .int v_steps_3)] [] := by
    intro n
    induction n with
    | zero => intro v_steps_3 μ4 hl4; cases hl4
    | succ n ih7 =>
      intro v_steps_3 μ4 hl4
      obtain ⟨y, e3, hl4⟩ := zloop_inv hl4
      replace e3 : f11_countHealing_L1 o_ v_steps_3 μ4 = some y := e3
      unfold f11_countHealing_L1 at e3
      refine z_iload_n fx (k := 2) (i := 2) rfl rfl d11_countHealing_21 ?_
      refine z_sipush fx (v := 320) sp320 d11_countHealing_22 ?_
      refine z_icmp_gt fx d11_countHealing_25 (fun c8 => ?_) (fun c8 => ?_)
      · replace e3 := zif_t c8 e3
        cases e3
        exact kx6 _ _ (Eq.symm hl4)
      · replace e3 := zif_f c8 e3
        refine z_aload_n fx (k := 0) (i := 0) rfl rfl d11_countHealing_28 ?_
        refine z_getO fx 11 6 11 ho lf11_29 fk11_6 d11_countHealing_29 ?_
        refine z_aload_n fx (k := 0) (i := 0) rfl rfl d11_countHealing_32 ?_
        refine z_getO fx 11 2 312 ho lf11_79 fk11_2 d11_countHealing_33 ?_
        obtain ⟨t7, μ8, e9, e3⟩ := zinv2 e3
        refine z_cVr fx (c6_isHealed (zLo X) (zDo X) Sh top hO (o_ + 11) (o_ + 312) μ4 _ _ (ok11_6 hO ho) (ok11_2 hO ho) e9) mv6_isHealed ml11_334 (ok11_6 hO ho) rfl rfl rfl rfl d11_countHealing_36 ?_
        refine z_ifb_eq fx d11_countHealing_39 (fun c10 => ?_) (fun c10 => ?_)
        · replace e3 := zif_f c10 e3
          refine z_aload_n fx (k := 0) (i := 0) rfl rfl d11_countHealing_44 ?_
          refine z_getO fx 11 2 312 ho lf11_79 fk11_2 d11_countHealing_45 ?_
          obtain ⟨μ9, e11, e3⟩ := zinv e3
          refine z_cVv fx (c8_step (zLo X) (zDo X) Sh top hO (o_ + 312) μ8 _ (ok11_2 hO ho) e11) mv8_step ml11_306 (ok11_2 hO ho) rfl rfl rfl rfl d11_countHealing_48 ?_
          obtain ⟨v_steps_10, e12, e3⟩ := zinv e3
          replace e12 := Option.some.inj e12
          refine z_iinc fx (i := 2) (x := v_steps_3) (v := v_steps_10) rfl (by rw [in1]; exact e12) rfl (lv' := [(0, .ref o_), (1, .int v_link), (2, .int v_steps_10)]) rfl rfl d11_countHealing_51 ?_
          cases e3
          refine z_goto fx d11_countHealing_54 ?_
          exact ih7 _ _ hl4
        · replace e3 := zif_t c10 e3
          refine z_iload_n fx (k := 2) (i := 2) rfl rfl d11_countHealing_42 ?_
          cases e3
          cases hl4
          cases h
          exact z_ireturn fx fin d11_countHealing_43
  exact klr5 _ _ _ e13
theorem d11_heal_0 : zd cX11_heal 0 (.aload_n 0) 1 1 := by decide +kernel
theorem d11_heal_1 : zd cX11_heal 1 (.iload_n 1) 1 2 := by decide +kernel
theorem d11_heal_2 : zd cX11_heal 2 (.invokevirtual 325) 3 5 := by decide +kernel
theorem d11_heal_5 : zj cX11_heal 5 (.ifCond .eq 11) 11 8 16 := by decide +kernel
theorem d11_heal_8 : zd cX11_heal 8 (.aload_n 0) 1 9 := by decide +kernel
theorem d11_heal_9 : zd cX11_heal 9 (.iload_n 1) 1 10 := by decide +kernel
theorem d11_heal_10 : zd cX11_heal 10 (.invokevirtual 328) 3 13 := by decide +kernel
theorem d11_heal_13 : zj cX11_heal 13 (.goto 4) 4 16 17 := by decide +kernel
theorem d11_heal_16 : zd cX11_heal 16 (.iconst (-1)) 1 17 := by decide +kernel
theorem d11_heal_17 : zd cX11_heal 17 (.ireturn) 1 18 := by decide +kernel
set_option maxHeartbeats 4000000 in
set_option maxRecDepth 20000 in
theorem c11_heal (l : Launch) (D : zDt) (Sh : zSh) (top : Nat) (hO : zOK Sh) (o_ : Nat) (v_link : Int32) (μ : zM) (r_ : Int32) (μ_ : zM) (ho : (Sh o_).1 = 18) (h : f11_heal o_ v_link μ = some (r_, μ_)) : zMet l D zK1 yX11_heal cX11_heal 2 (some .int) (zrm 7 165) [.ref o_, .int v_link] Sh top μ (some (.int r_)) Sh top μ_ 0 0 := by
  refine zMet_of (by decide) (Nat.le_of_ble_eq_true rfl) fun X hX1 hX2 fx fin => ?_
  subst hX1; subst hX2
  replace fx : zFix X cX11_heal RX11 (zrm 7 165) 2 := fx
  show zZ zK1 X (zT0 Sh top) μ 0 [(0, .ref o_), (1, .int v_link)] []
  unfold f11_heal at h
  obtain ⟨x1, μ2, e1, h⟩ := zinv2 h
  have k2 : zZ zK1 X (zT0 Sh top) μ2 17 [(0, .ref o_), (1, .int v_link)] [.int x1] := by
    cases h
    exact z_ireturn fx fin d11_heal_17
  refine z_aload_n fx (k := 0) (i := 0) rfl rfl d11_heal_0 ?_
  refine z_iload_n fx (k := 1) (i := 1) rfl rfl d11_heal_1 ?_
  obtain ⟨t3, e3, e1⟩ := zinv e1
  refine z_cVr fx (c11_isWhole (zLo X) (zDo X) Sh top hO o_ v_link μ _ ho e3) mv11_isWhole ml11_325 ho rfl rfl rfl rfl d11_heal_2 ?_
  refine z_ifb_eq fx d11_heal_5 (fun c4 => ?_) (fun c4 => ?_)
  · replace e1 := zif_f c4 e1
    refine z_iconst fx (v := (-1)) icm1 d11_heal_16 ?_
    cases e1
    exact k2
  · replace e1 := zif_t c4 e1
    refine z_aload_n fx (k := 0) (i := 0) rfl rfl d11_heal_8 ?_
    refine z_iload_n fx (k := 1) (i := 1) rfl rfl d11_heal_9 ?_
    obtain ⟨t4, μ5, e5, e1⟩ := zinv2 e1
    refine z_cVr fx (c11_countHealing (zLo X) (zDo X) Sh top hO o_ v_link μ _ _ ho e5) mv11_countHealing ml11_328 ho rfl rfl rfl rfl d11_heal_10 ?_
    cases e1
    refine z_goto fx d11_heal_13 ?_
    exact k2
theorem d11_worst_0 : zd cX11_worst 0 (.iload_n 1) 1 1 := by decide +kernel
theorem d11_worst_1 : zj cX11_worst 1 (.ifCond .eq 10) 10 4 11 := by decide +kernel
theorem d11_worst_4 : zd cX11_worst 4 (.iload_n 1) 1 5 := by decide +kernel
theorem d11_worst_5 : zd cX11_worst 5 (.iconst 1) 1 6 := by decide +kernel
theorem d11_worst_6 : zj cX11_worst 6 (.if_icmp .eq 5) 5 9 11 := by decide +kernel
theorem d11_worst_9 : zd cX11_worst 9 (.iconst (-1)) 1 10 := by decide +kernel
theorem d11_worst_10 : zd cX11_worst 10 (.ireturn) 1 11 := by decide +kernel
theorem d11_worst_11 : zd cX11_worst 11 (.iconst (-1)) 1 12 := by decide +kernel
theorem d11_worst_12 : zd cX11_worst 12 (.istore_n 2) 1 13 := by decide +kernel
theorem d11_worst_13 : zd cX11_worst 13 (.iconst (-1)) 1 14 := by decide +kernel
theorem d11_worst_14 : zd cX11_worst 14 (.istore_n 3) 1 15 := by decide +kernel
theorem d11_worst_15 : zd cX11_worst 15 (.iconst 0) 1 16 := by decide +kernel
theorem d11_worst_16 : zd cX11_worst 16 (.istore 4) 2 18 := by decide +kernel
theorem d11_worst_18 : zd cX11_worst 18 (.iload 4) 2 20 := by decide +kernel
theorem d11_worst_20 : zd cX11_worst 20 (.aload_n 0) 1 21 := by decide +kernel
theorem d11_worst_21 : zd cX11_worst 21 (.getfield 56) 3 24 := by decide +kernel
theorem d11_worst_24 : zd cX11_worst 24 (.getfield 131) 3 27 := by decide +kernel
theorem d11_worst_27 : zj cX11_worst 27 (.if_icmp .ge 62) 62 30 89 := by decide +kernel
theorem d11_worst_30 : zd cX11_worst 30 (.aload_n 0) 1 31 := by decide +kernel
theorem d11_worst_31 : zd cX11_worst 31 (.getfield 75) 3 34 := by decide +kernel
theorem d11_worst_34 : zd cX11_worst 34 (.getfield 188) 3 37 := by decide +kernel
theorem d11_worst_37 : zd cX11_worst 37 (.iload 4) 2 39 := by decide +kernel
theorem d11_worst_39 : zd cX11_worst 39 (.baload) 1 40 := by decide +kernel
theorem d11_worst_40 : zj cX11_worst 40 (.ifCond .ne 6) 6 43 46 := by decide +kernel
theorem d11_worst_43 : zj cX11_worst 43 (.goto 40) 40 46 83 := by decide +kernel
theorem d11_worst_46 : zd cX11_worst 46 (.aload_n 0) 1 47 := by decide +kernel
theorem d11_worst_47 : zd cX11_worst 47 (.iload 4) 2 49 := by decide +kernel
theorem d11_worst_49 : zd cX11_worst 49 (.invokevirtual 328) 3 52 := by decide +kernel
theorem d11_worst_52 : zd cX11_worst 52 (.istore 5) 2 54 := by decide +kernel
theorem d11_worst_54 : zd cX11_worst 54 (.iload 5) 2 56 := by decide +kernel
theorem d11_worst_56 : zd cX11_worst 56 (.iconst (-1)) 1 57 := by decide +kernel
theorem d11_worst_57 : zj cX11_worst 57 (.if_icmp .ne 14) 14 60 71 := by decide +kernel
theorem d11_worst_60 : zd cX11_worst 60 (.iload_n 1) 1 61 := by decide +kernel
theorem d11_worst_61 : zj cX11_worst 61 (.ifCond .ne 8) 8 64 69 := by decide +kernel
theorem d11_worst_64 : zd cX11_worst 64 (.iload 4) 2 66 := by decide +kernel
theorem d11_worst_66 : zj cX11_worst 66 (.goto 4) 4 69 70 := by decide +kernel
theorem d11_worst_69 : zd cX11_worst 69 (.iconst (-1)) 1 70 := by decide +kernel
theorem d11_worst_70 : zd cX11_worst 70 (.ireturn) 1 71 := by decide +kernel
theorem d11_worst_71 : zd cX11_worst 71 (.iload 5) 2 73 := by decide +kernel
theorem d11_worst_73 : zd cX11_worst 73 (.iload_n 3) 1 74 := by decide +kernel
theorem d11_worst_74 : zj cX11_worst 74 (.if_icmp .le 9) 9 77 83 := by decide +kernel
theorem d11_worst_77 : zd cX11_worst 77 (.iload 4) 2 79 := by decide +kernel
theorem d11_worst_79 : zd cX11_worst 79 (.istore_n 2) 1 80 := by decide +kernel
theorem d11_worst_80 : zd cX11_worst 80 (.iload 5) 2 82 := by decide +kernel
theorem d11_worst_82 : zd cX11_worst 82 (.istore_n 3) 1 83 := by decide +kernel
theorem d11_worst_83 : zd cX11_worst 83 (.iinc 4 1) 3 86 := by decide +kernel
theorem d11_worst_86 : zj cX11_worst 86 (.goto (-68)) (-68) 89 18 := by decide +kernel
theorem d11_worst_89 : zd cX11_worst 89 (.iload_n 1) 1 90 := by decide +kernel
theorem d11_worst_90 : zj cX11_worst 90 (.ifCond .ne 7) 7 93 97 := by decide +kernel
theorem d11_worst_93 : zd cX11_worst 93 (.iload_n 2) 1 94 := by decide +kernel
theorem d11_worst_94 : zj cX11_worst 94 (.goto 4) 4 97 98 := by decide +kernel
theorem d11_worst_97 : zd cX11_worst 97 (.iload_n 3) 1 98 := by decide +kernel
theorem d11_worst_98 : zd cX11_worst 98 (.ireturn) 1 99 := by decide +kernel
set_option maxHeartbeats 4000000 in
set_option maxRecDepth 20000 in
theorem c11_worst (l : Launch) (D : zDt) (Sh : zSh) (top : Nat) (hO : zOK Sh) (o_ : Nat) (v_what : Int32) (μ : zM) (r_ : Int32) (μ_ : zM) (ho : (Sh o_).1 = 18) (h : f11_worst o_ v_what μ = some (r_, μ_)) : zMet l D zK1 yX11_worst cX11_worst 6 (some .int) (zrm 7 165) [.ref o_, .int v_what] Sh top μ (some (.int r_)) Sh top μ_ 0 0 := by
  refine zMet_of (by decide) (Nat.le_of_ble_eq_true rfl) fun X hX1 hX2 fx fin => ?_
  subst hX1; subst hX2
  replace fx : zFix X cX11_worst RX11 (zrm 7 165) 6 := fx
  show zZ zK1 X (zT0 Sh top) μ 0 [(0, .ref o_), (1, .int v_what)] []
  unfold f11_worst at h
  have kt1 : ((!(ceq v_what 0)) && (!(ceq v_what 1))) = true → zZ zK1 X (zT0 Sh top) μ 9 [(0, .ref o_), (1, .int v_what)] [] := by
    intro hc
    replace h := zif_t hc h
    refine z_iconst fx (v := (-1)) icm1 d11_worst_9 ?_
    cases h
    exact z_ireturn fx fin d11_worst_10
  have kf1 : ((!(ceq v_what 0)) && (!(ceq v_what 1))) = false → zZ zK1 X (zT0 Sh top) μ 11 [(0, .ref o_), (1, .int v_what)] [] := by
    intro hc
    replace h := zif_f hc h
    refine z_iconst fx (v := (-1)) icm1 d11_worst_11 ?_
    refine z_istore_n fx (k := 2) (i := 2) rfl rfl (lv' := [(0, .ref o_), (1, .int v_what), (2, .int (-1))]) rfl rfl d11_worst_12 ?_
    refine z_iconst fx (v := (-1)) icm1 d11_worst_13 ?_
    refine z_istore_n fx (k := 3) (i := 3) rfl rfl (lv' := [(0, .ref o_), (1, .int v_what), (2, .int (-1)), (3, .int (-1))]) rfl rfl d11_worst_14 ?_
    refine z_iconst fx (v := 0) ic0 d11_worst_15 ?_
    refine z_istore fx (i := 4) rfl (lv' := [(0, .ref o_), (1, .int v_what), (2, .int (-1)), (3, .int (-1)), (4, .int 0)]) rfl rfl d11_worst_16 ?_
    obtain ⟨r4, e23, h⟩ := zinv h
    have kx5 : ∀ (v_worstLink_5 : Int32) (v_worstSteps_6 : Int32) (v_link_7 : Int32) (μ8 : zM), r4 = .inr (v_worstLink_5, v_worstSteps_6, v_link_7, μ8) → zZ zK1 X (zT0 Sh top) μ8 89 [(0, .ref o_), (1, .int v_what), (2, .int v_worstLink_5), (3, .int v_worstSteps_6), (4, .int v_link_7)] [] := by
      intro v_worstLink_5 v_worstSteps_6 v_link_7 μ8 hr
      subst hr
      replace h := zel4 h
      refine z_take 4 (lv' := [(0, .ref o_), (1, .int v_what), (2, .int v_worstLink_5), (3, .int v_worstSteps_6)]) rfl ?_
      obtain ⟨x17, e20, h⟩ := zinv h
      have k21 : zZ zK1 X (zT0 Sh top) μ8 98 [(0, .ref o_), (1, .int v_what), (2, .int v_worstLink_5), (3, .int v_worstSteps_6)] [.int x17] := by
        cases h
        exact z_ireturn fx fin d11_worst_98
      refine z_iload_n fx (k := 1) (i := 1) rfl rfl d11_worst_89 ?_
      refine z_if_ne fx d11_worst_90 (fun c22 => ?_) (fun c22 => ?_)
      · replace e20 := zif_f c22 e20
        refine z_iload_n fx (k := 3) (i := 3) rfl rfl d11_worst_97 ?_
        cases e20
        exact k21
      · replace e20 := zif_t c22 e20
        refine z_iload_n fx (k := 2) (i := 2) rfl rfl d11_worst_93 ?_
        cases e20
        refine z_goto fx d11_worst_94 ?_
        exact k21
    have klr4 : ∀ (n : Nat) (v_worstLink_1 : Int32) (v_worstSteps_2 : Int32) (v_link_3 : Int32) (μ4 : zM), zloop (fun s => f11_worst_L1 o_ v_what s.1 s.2.1 s.2.2.1 s.2.2.2) n (v_worstLink_1, v_worstSteps_2, v_link_3, μ4) = some r4 → zZ zK1 X (zT0 Sh top) μ4 18 [(0, .ref o_), (1, .int v_what), (2, .int v_worstLink_1), (3, .int v_worstSteps_2), (4, .int v_link_3)] [] := by
      intro n
      induction n with
      | zero => intro v_worstLink_1 v_worstSteps_2 v_link_3 μ4 hl3; cases hl3
      | succ n ih6 =>
        intro v_worstLink_1 v_worstSteps_2 v_link_3 μ4 hl3
        obtain ⟨y, e2, hl3⟩ := zloop_inv hl3
        replace e2 : f11_worst_L1 o_ v_what v_worstLink_1 v_worstSteps_2 v_link_3 μ4 = some y := e2
        unfold f11_worst_L1 at e2
        refine z_iload fx (i := 4) rfl d11_worst_18 ?_
        refine z_aload_n fx (k := 0) (i := 0) rfl rfl d11_worst_20 ?_
        obtain ⟨w9, e7, e2⟩ := zinv e2
        refine z_getR fx 11 11 1111 17 ho lf11_56 ⟨fk11_11, rfl⟩ e7 d11_worst_21 (fun tw9 => ?_)
        refine z_getI fx 10 16 1016 tw9 lf11_131 ⟨fk10_16, rfl⟩ d11_worst_24 ?_
        refine z_icmp_ge fx d11_worst_27 (fun c8 => ?_) (fun c8 => ?_)
        · replace e2 := zif_f c8 e2
          cases e2
          exact kx5 _ _ _ _ (Eq.symm hl3)
        · replace e2 := zif_t c8 e2
          refine z_aload_n fx (k := 0) (i := 0) rfl rfl d11_worst_30 ?_
          refine z_getO fx 11 3 51 ho lf11_75 fk11_3 d11_worst_31 ?_
          refine z_getO fx 8 3 4 (ok11_3 hO ho) lf11_188 fk8_3 d11_worst_34 ?_
          refine z_iload fx (i := 4) rfl d11_worst_37 ?_
          obtain ⟨t10, e9, e2⟩ := zinv e2
          refine z_zald fx (ok8_3 hO (ok11_3 hO ho)) e9 d11_worst_39 ?_
          refine z_ifb_ne fx d11_worst_40 (fun c10 => ?_) (fun c10 => ?_)
          · replace e2 := zif_t c10 e2
            refine z_aload_n fx (k := 0) (i := 0) rfl rfl d11_worst_46 ?_
            refine z_iload fx (i := 4) rfl d11_worst_47 ?_
            obtain ⟨t11, μ12, e11, e2⟩ := zinv2 e2
            refine z_cVr fx (c11_countHealing (zLo X) (zDo X) Sh top hO o_ v_link_3 μ4 _ _ ho e11) mv11_countHealing ml11_328 ho rfl rfl rfl rfl d11_worst_49 ?_
            refine z_istore fx (i := 5) rfl (lv' := [(0, .ref o_), (1, .int v_what), (2, .int v_worstLink_1), (3, .int v_worstSteps_2), (4, .int v_link_3), (5, .int t11)]) rfl rfl d11_worst_52 ?_
            refine z_iload fx (i := 5) rfl d11_worst_54 ?_
            refine z_iconst fx (v := (-1)) icm1 d11_worst_56 ?_
            refine z_icmp_ne fx d11_worst_57 (fun c12 => ?_) (fun c12 => ?_)
            · replace e2 := zif_f c12 e2
              refine z_iload fx (i := 5) rfl d11_worst_71 ?_
              refine z_iload_n fx (k := 3) (i := 3) rfl rfl d11_worst_73 ?_
              refine z_icmp_le fx d11_worst_74 (fun c13 => ?_) (fun c13 => ?_)
              · replace e2 := zif_f c13 e2
                refine z_take 5 (lv' := [(0, .ref o_), (1, .int v_what), (2, .int v_worstLink_1), (3, .int v_worstSteps_2), (4, .int v_link_3)]) rfl ?_
                obtain ⟨v_link_13, e14, e2⟩ := zinv e2
                replace e14 := Option.some.inj e14
                refine z_iinc fx (i := 4) (x := v_link_3) (v := v_link_13) rfl (by rw [in1]; exact e14) rfl (lv' := [(0, .ref o_), (1, .int v_what), (2, .int v_worstLink_1), (3, .int v_worstSteps_2), (4, .int v_link_13)]) rfl rfl d11_worst_83 ?_
                cases e2
                refine z_goto fx d11_worst_86 ?_
                exact ih6 _ _ _ _ hl3
              · replace e2 := zif_t c13 e2
                refine z_iload fx (i := 4) rfl d11_worst_77 ?_
                refine z_istore_n fx (k := 2) (i := 2) rfl rfl (lv' := [(0, .ref o_), (1, .int v_what), (2, .int v_link_3), (3, .int v_worstSteps_2), (4, .int v_link_3), (5, .int t11)]) rfl rfl d11_worst_79 ?_
                refine z_iload fx (i := 5) rfl d11_worst_80 ?_
                refine z_istore_n fx (k := 3) (i := 3) rfl rfl (lv' := [(0, .ref o_), (1, .int v_what), (2, .int v_link_3), (3, .int t11), (4, .int v_link_3), (5, .int t11)]) rfl rfl d11_worst_82 ?_
                refine z_take 5 (lv' := [(0, .ref o_), (1, .int v_what), (2, .int v_link_3), (3, .int t11), (4, .int v_link_3)]) rfl ?_
                obtain ⟨v_link_14, e15, e2⟩ := zinv e2
                replace e15 := Option.some.inj e15
                refine z_iinc fx (i := 4) (x := v_link_3) (v := v_link_14) rfl (by rw [in1]; exact e15) rfl (lv' := [(0, .ref o_), (1, .int v_what), (2, .int v_link_3), (3, .int t11), (4, .int v_link_14)]) rfl rfl d11_worst_83 ?_
                cases e2
                refine z_goto fx d11_worst_86 ?_
                exact ih6 _ _ _ _ hl3
            · replace e2 := zif_t c12 e2
              obtain ⟨x15, e16, e2⟩ := zinv e2
              have k17 : zZ zK1 X (zT0 Sh top) μ12 70 [(0, .ref o_), (1, .int v_what), (2, .int v_worstLink_1), (3, .int v_worstSteps_2), (4, .int v_link_3), (5, .int t11)] [.int x15] := by
                cases e2
                cases hl3
                cases h
                exact z_ireturn fx fin d11_worst_70
              refine z_iload_n fx (k := 1) (i := 1) rfl rfl d11_worst_60 ?_
              refine z_if_ne fx d11_worst_61 (fun c18 => ?_) (fun c18 => ?_)
              · replace e16 := zif_f c18 e16
                refine z_iconst fx (v := (-1)) icm1 d11_worst_69 ?_
                cases e16
                exact k17
              · replace e16 := zif_t c18 e16
                refine z_iload fx (i := 4) rfl d11_worst_64 ?_
                cases e16
                refine z_goto fx d11_worst_66 ?_
                exact k17
          · replace e2 := zif_f c10 e2
            refine z_goto fx d11_worst_43 ?_
            obtain ⟨v_link_16, e19, e2⟩ := zinv e2
            replace e19 := Option.some.inj e19
            refine z_iinc fx (i := 4) (x := v_link_3) (v := v_link_16) rfl (by rw [in1]; exact e19) rfl (lv' := [(0, .ref o_), (1, .int v_what), (2, .int v_worstLink_1), (3, .int v_worstSteps_2), (4, .int v_link_16)]) rfl rfl d11_worst_83 ?_
            cases e2
            refine z_goto fx d11_worst_86 ?_
            exact ih6 _ _ _ _ hl3
    exact klr4 _ _ _ _ _ e23
  clear h
  refine z_iload_n fx (k := 1) (i := 1) rfl rfl d11_worst_0 ?_
  refine z_if_eq fx d11_worst_1 (fun c24 => ?_) (fun c24 => ?_)
  · exact kf1 (by simp [c24])
  · refine z_iload_n fx (k := 1) (i := 1) rfl rfl d11_worst_4 ?_
    refine z_iconst fx (v := 1) ic1 d11_worst_5 ?_
    refine z_icmp_eq fx d11_worst_6 (fun c25 => ?_) (fun c25 => ?_)
    · exact kf1 (by simp [c24, c25])
    · exact kt1 (by simp [c24, c25])
theorem d11_isSight_0 : zd cX11_isSight 0 (.iload_n 1) 1 1 := by decide +kernel
theorem d11_isSight_1 : zj cX11_isSight 1 (.ifCond .eq 15) 15 4 16 := by decide +kernel
theorem d11_isSight_4 : zd cX11_isSight 4 (.iload_n 1) 1 5 := by decide +kernel
theorem d11_isSight_5 : zd cX11_isSight 5 (.bipush 48) 2 7 := by decide +kernel
theorem d11_isSight_7 : zj cX11_isSight 7 (.if_icmp .gt 9) 9 10 16 := by decide +kernel
theorem d11_isSight_10 : zd cX11_isSight 10 (.iload_n 1) 1 11 := by decide +kernel
theorem d11_isSight_11 : zd cX11_isSight 11 (.iconst 3) 1 12 := by decide +kernel
theorem d11_isSight_12 : zd cX11_isSight 12 (.irem) 1 13 := by decide +kernel
theorem d11_isSight_13 : zj cX11_isSight 13 (.ifCond .eq 5) 5 16 18 := by decide +kernel
theorem d11_isSight_16 : zd cX11_isSight 16 (.iconst 0) 1 17 := by decide +kernel
theorem d11_isSight_17 : zd cX11_isSight 17 (.ireturn) 1 18 := by decide +kernel
theorem d11_isSight_18 : zd cX11_isSight 18 (.iconst 0) 1 19 := by decide +kernel
theorem d11_isSight_19 : zd cX11_isSight 19 (.istore_n 2) 1 20 := by decide +kernel
theorem d11_isSight_20 : zd cX11_isSight 20 (.iload_n 2) 1 21 := by decide +kernel
theorem d11_isSight_21 : zd cX11_isSight 21 (.iload_n 1) 1 22 := by decide +kernel
theorem d11_isSight_22 : zj cX11_isSight 22 (.if_icmp .ge 47) 47 25 69 := by decide +kernel
theorem d11_isSight_25 : zd cX11_isSight 25 (.aload_n 0) 1 26 := by decide +kernel
theorem d11_isSight_26 : zd cX11_isSight 26 (.getfield 56) 3 29 := by decide +kernel
theorem d11_isSight_29 : zd cX11_isSight 29 (.aload_n 0) 1 30 := by decide +kernel
theorem d11_isSight_30 : zd cX11_isSight 30 (.getfield 9) 3 33 := by decide +kernel
theorem d11_isSight_33 : zd cX11_isSight 33 (.iload_n 2) 1 34 := by decide +kernel
theorem d11_isSight_34 : zd cX11_isSight 34 (.iaload) 1 35 := by decide +kernel
theorem d11_isSight_35 : zd cX11_isSight 35 (.aload_n 0) 1 36 := by decide +kernel
theorem d11_isSight_36 : zd cX11_isSight 36 (.getfield 9) 3 39 := by decide +kernel
theorem d11_isSight_39 : zd cX11_isSight 39 (.iload_n 2) 1 40 := by decide +kernel
theorem d11_isSight_40 : zd cX11_isSight 40 (.iconst 1) 1 41 := by decide +kernel
theorem d11_isSight_41 : zd cX11_isSight 41 (.iadd) 1 42 := by decide +kernel
theorem d11_isSight_42 : zd cX11_isSight 42 (.iaload) 1 43 := by decide +kernel
theorem d11_isSight_43 : zd cX11_isSight 43 (.invokevirtual 215) 3 46 := by decide +kernel
theorem d11_isSight_46 : zj cX11_isSight 46 (.ifCond .eq 15) 15 49 61 := by decide +kernel
theorem d11_isSight_49 : zd cX11_isSight 49 (.aload_n 0) 1 50 := by decide +kernel
theorem d11_isSight_50 : zd cX11_isSight 50 (.getfield 9) 3 53 := by decide +kernel
theorem d11_isSight_53 : zd cX11_isSight 53 (.iload_n 2) 1 54 := by decide +kernel
theorem d11_isSight_54 : zd cX11_isSight 54 (.iconst 2) 1 55 := by decide +kernel
theorem d11_isSight_55 : zd cX11_isSight 55 (.iadd) 1 56 := by decide +kernel
theorem d11_isSight_56 : zd cX11_isSight 56 (.iaload) 1 57 := by decide +kernel
theorem d11_isSight_57 : zd cX11_isSight 57 (.iconst 5) 1 58 := by decide +kernel
theorem d11_isSight_58 : zj cX11_isSight 58 (.if_icmp .lt 5) 5 61 63 := by decide +kernel
theorem d11_isSight_61 : zd cX11_isSight 61 (.iconst 0) 1 62 := by decide +kernel
theorem d11_isSight_62 : zd cX11_isSight 62 (.ireturn) 1 63 := by decide +kernel
theorem d11_isSight_63 : zd cX11_isSight 63 (.iinc 2 3) 3 66 := by decide +kernel
theorem d11_isSight_66 : zj cX11_isSight 66 (.goto (-46)) (-46) 69 20 := by decide +kernel
theorem d11_isSight_69 : zd cX11_isSight 69 (.iconst 1) 1 70 := by decide +kernel
theorem d11_isSight_70 : zd cX11_isSight 70 (.ireturn) 1 71 := by decide +kernel
set_option maxHeartbeats 4000000 in
set_option maxRecDepth 20000 in
theorem c11_isSight (l : Launch) (D : zDt) (Sh : zSh) (top : Nat) (hO : zOK Sh) (o_ : Nat) (v_length : Int32) (μ : zM) (r_ : Bool) (ho : (Sh o_).1 = 18) (h : f11_isSight o_ v_length μ = some r_) : zMet l D zK1 yX11_isSight cX11_isSight 3 (some .boolean) (zrm 2 43) [.ref o_, .int v_length] Sh top μ (some (.int (bI r_))) Sh top μ 0 0 := by
  refine zMet_of (by decide) (Nat.le_of_ble_eq_true rfl) fun X hX1 hX2 fx fin => ?_
  subst hX1; subst hX2
  replace fx : zFix X cX11_isSight RX11 (zrm 2 43) 3 := fx
  show zZ zK1 X (zT0 Sh top) μ 0 [(0, .ref o_), (1, .int v_length)] []
  unfold f11_isSight at h
  obtain ⟨b1, e2, h⟩ := zinv h
  have kt1 : b1 = true → zZ zK1 X (zT0 Sh top) μ 16 [(0, .ref o_), (1, .int v_length)] [] := by
    intro hc
    replace h := zif_t hc h
    refine z_iconst fx (v := 0) ic0 d11_isSight_16 ?_
    refine z_top (show Value.int 0 = .int (bI false) from rfl) ?_
    cases h
    exact z_zreturn fx fin d11_isSight_17
  have kf1 : b1 = false → zZ zK1 X (zT0 Sh top) μ 18 [(0, .ref o_), (1, .int v_length)] [] := by
    intro hc
    replace h := zif_f hc h
    refine z_iconst fx (v := 0) ic0 d11_isSight_18 ?_
    refine z_istore_n fx (k := 2) (i := 2) rfl rfl (lv' := [(0, .ref o_), (1, .int v_length), (2, .int 0)]) rfl rfl d11_isSight_19 ?_
    obtain ⟨r5, e21, h⟩ := zinv h
    have kx6 : ∀ (v_k_3 : Int32), r5 = .inr v_k_3 → zZ zK1 X (zT0 Sh top) μ 69 [(0, .ref o_), (1, .int v_length), (2, .int v_k_3)] [] := by
      intro v_k_3 hr
      subst hr
      replace h := zel1 h
      refine z_take 2 (lv' := [(0, .ref o_), (1, .int v_length)]) rfl ?_
      refine z_iconst fx (v := 1) ic1 d11_isSight_69 ?_
      refine z_top (show Value.int 1 = .int (bI true) from rfl) ?_
      cases h
      exact z_zreturn fx fin d11_isSight_70
    have klr5 : ∀ (n : Nat) (v_k_2 : Int32), zloop (fun s => f11_isSight_L1 o_ v_length μ s) n v_k_2 = some r5 → zZ zK1 X (zT0 Sh top) μ 20 [(0, .ref o_), (1, .int v_length), (2, .int v_k_2)] [] := by
      intro n
      induction n with
      | zero => intro v_k_2 hl4; cases hl4
      | succ n ih7 =>
        intro v_k_2 hl4
        obtain ⟨y, e3, hl4⟩ := zloop_inv hl4
        replace e3 : f11_isSight_L1 o_ v_length μ v_k_2 = some y := e3
        unfold f11_isSight_L1 at e3
        refine z_iload_n fx (k := 2) (i := 2) rfl rfl d11_isSight_20 ?_
        refine z_iload_n fx (k := 1) (i := 1) rfl rfl d11_isSight_21 ?_
        refine z_icmp_ge fx d11_isSight_22 (fun c8 => ?_) (fun c8 => ?_)
        · replace e3 := zif_f c8 e3
          cases e3
          exact kx6 _ (Eq.symm hl4)
        · replace e3 := zif_t c8 e3
          obtain ⟨b4, e10, e3⟩ := zinv e3
          have kt9 : b4 = true → zZ zK1 X (zT0 Sh top) μ 61 [(0, .ref o_), (1, .int v_length), (2, .int v_k_2)] [] := by
            intro hc
            replace e3 := zif_t hc e3
            refine z_iconst fx (v := 0) ic0 d11_isSight_61 ?_
            refine z_top (show Value.int 0 = .int (bI false) from rfl) ?_
            cases e3
            cases hl4
            cases h
            exact z_zreturn fx fin d11_isSight_62
          have kf9 : b4 = false → zZ zK1 X (zT0 Sh top) μ 63 [(0, .ref o_), (1, .int v_length), (2, .int v_k_2)] [] := by
            intro hc
            replace e3 := zif_f hc e3
            obtain ⟨v_k_5, e11, e3⟩ := zinv e3
            replace e11 := Option.some.inj e11
            refine z_iinc fx (i := 2) (x := v_k_2) (v := v_k_5) rfl (by rw [in3]; exact e11) rfl (lv' := [(0, .ref o_), (1, .int v_length), (2, .int v_k_5)]) rfl rfl d11_isSight_63 ?_
            cases e3
            refine z_goto fx d11_isSight_66 ?_
            exact ih7 _ hl4
          clear e3
          obtain ⟨b6, e12, e10⟩ := zinv e10
          have kf13 : b6 = false → zZ zK1 X (zT0 Sh top) μ 49 [(0, .ref o_), (1, .int v_length), (2, .int v_k_2)] [] := by
            intro hc
            replace e10 := zif_f hc e10
            refine z_aload_n fx (k := 0) (i := 0) rfl rfl d11_isSight_49 ?_
            refine z_getO fx 11 0 1 ho lf11_9 fk11_0 d11_isSight_50 ?_
            refine z_iload_n fx (k := 2) (i := 2) rfl rfl d11_isSight_53 ?_
            refine z_iconst fx (v := 2) ic2 d11_isSight_54 ?_
            refine z_iadd fx d11_isSight_55 ?_
            obtain ⟨t7, e14, e10⟩ := zinv e10
            refine z_iald fx (ok11_0 hO ho) e14 d11_isSight_56 ?_
            refine z_iconst fx (v := 5) ic5 d11_isSight_57 ?_
            cases e10
            refine z_icmp_lt fx d11_isSight_58 (fun c15 => ?_) (fun c15 => ?_)
            · exact kf9 (by rw [c15]; rfl)
            · exact kt9 (by rw [c15]; rfl)
          have kt13 : b6 = true → zZ zK1 X (zT0 Sh top) μ 61 [(0, .ref o_), (1, .int v_length), (2, .int v_k_2)] [] := by
            intro hc
            replace e10 := zif_t hc e10
            cases e10
            exact kt9 rfl
          clear e10
          refine z_aload_n fx (k := 0) (i := 0) rfl rfl d11_isSight_25 ?_
          obtain ⟨w8, e16, e12⟩ := zinv e12
          refine z_getR fx 11 11 1111 17 ho lf11_56 ⟨fk11_11, rfl⟩ e16 d11_isSight_26 (fun tw8 => ?_)
          refine z_aload_n fx (k := 0) (i := 0) rfl rfl d11_isSight_29 ?_
          refine z_getO fx 11 0 1 ho lf11_9 fk11_0 d11_isSight_30 ?_
          refine z_iload_n fx (k := 2) (i := 2) rfl rfl d11_isSight_33 ?_
          obtain ⟨t9, e17, e12⟩ := zinv e12
          refine z_iald fx (ok11_0 hO ho) e17 d11_isSight_34 ?_
          refine z_aload_n fx (k := 0) (i := 0) rfl rfl d11_isSight_35 ?_
          refine z_getO fx 11 0 1 ho lf11_9 fk11_0 d11_isSight_36 ?_
          refine z_iload_n fx (k := 2) (i := 2) rfl rfl d11_isSight_39 ?_
          refine z_iconst fx (v := 1) ic1 d11_isSight_40 ?_
          refine z_iadd fx d11_isSight_41 ?_
          obtain ⟨t10, e18, e12⟩ := zinv e12
          refine z_iald fx (ok11_0 hO ho) e18 d11_isSight_42 ?_
          obtain ⟨t11, e19, e12⟩ := zinv e12
          refine z_cVr fx (c10_isPort (zLo X) (zDo X) Sh top hO w8 t9 t10 μ _ tw8 e19) mv10_isPort ml11_215 tw8 rfl rfl rfl rfl d11_isSight_43 ?_
          cases e12
          refine z_ifb_eq fx d11_isSight_46 (fun c20 => ?_) (fun c20 => ?_)
          · exact kt13 (by rw [c20]; rfl)
          · exact kf13 (by rw [c20]; rfl)
    exact klr5 _ _ e21
  clear h
  have kf22 : ((ceq v_length 0) || (clt 48 v_length)) = false → zZ zK1 X (zT0 Sh top) μ 10 [(0, .ref o_), (1, .int v_length)] [] := by
    intro hc
    replace e2 := zif_f hc e2
    refine z_iload_n fx (k := 1) (i := 1) rfl rfl d11_isSight_10 ?_
    refine z_iconst fx (v := 3) ic3 d11_isSight_11 ?_
    obtain ⟨t12, e23, e2⟩ := zinv e2
    refine z_irem fx e23 d11_isSight_12 ?_
    cases e2
    refine z_if_eq fx d11_isSight_13 (fun c24 => ?_) (fun c24 => ?_)
    · exact kf1 (by rw [c24]; rfl)
    · exact kt1 (by rw [c24]; rfl)
  have kt22 : ((ceq v_length 0) || (clt 48 v_length)) = true → zZ zK1 X (zT0 Sh top) μ 16 [(0, .ref o_), (1, .int v_length)] [] := by
    intro hc
    replace e2 := zif_t hc e2
    cases e2
    exact kt1 rfl
  refine z_iload_n fx (k := 1) (i := 1) rfl rfl d11_isSight_0 ?_
  refine z_if_eq fx d11_isSight_1 (fun c25 => ?_) (fun c25 => ?_)
  · exact kt22 (by simp [c25])
  · refine z_iload_n fx (k := 1) (i := 1) rfl rfl d11_isSight_4 ?_
    refine z_bipush fx (v := 48) bp48 d11_isSight_5 ?_
    refine z_icmp_gt fx d11_isSight_7 (fun c26 => ?_) (fun c26 => ?_)
    · exact kt22 (by simp [c25, c26])
    · exact kf22 (by simp [c25, c26])
theorem d11_see_0 : zd cX11_see 0 (.aload_n 0) 1 1 := by decide +kernel
theorem d11_see_1 : zd cX11_see 1 (.invokevirtual 101) 3 4 := by decide +kernel
theorem d11_see_4 : zd cX11_see 4 (.istore_n 2) 1 5 := by decide +kernel
theorem d11_see_5 : zd cX11_see 5 (.iload_n 1) 1 6 := by decide +kernel
theorem d11_see_6 : zj cX11_see 6 (.ifCond .lt 27) 27 9 33 := by decide +kernel
theorem d11_see_9 : zd cX11_see 9 (.iload_n 1) 1 10 := by decide +kernel
theorem d11_see_10 : zd cX11_see 10 (.bipush 80) 2 12 := by decide +kernel
theorem d11_see_12 : zj cX11_see 12 (.if_icmp .gt 21) 21 15 33 := by decide +kernel
theorem d11_see_15 : zd cX11_see 15 (.aload_n 0) 1 16 := by decide +kernel
theorem d11_see_16 : zd cX11_see 16 (.getfield 56) 3 19 := by decide +kernel
theorem d11_see_19 : zd cX11_see 19 (.getfield 300) 3 22 := by decide +kernel
theorem d11_see_22 : zj cX11_see 22 (.ifCond .eq 11) 11 25 33 := by decide +kernel
theorem d11_see_25 : zd cX11_see 25 (.aload_n 0) 1 26 := by decide +kernel
theorem d11_see_26 : zd cX11_see 26 (.iload_n 2) 1 27 := by decide +kernel
theorem d11_see_27 : zd cX11_see 27 (.invokevirtual 337) 3 30 := by decide +kernel
theorem d11_see_30 : zj cX11_see 30 (.ifCond .ne 9) 9 33 39 := by decide +kernel
theorem d11_see_33 : zd cX11_see 33 (.aload_n 0) 1 34 := by decide +kernel
theorem d11_see_34 : zd cX11_see 34 (.iconst 5) 1 35 := by decide +kernel
theorem d11_see_35 : zd cX11_see 35 (.invokevirtual 89) 3 38 := by decide +kernel
theorem d11_see_38 : zd cX11_see 38 (.ireturn) 1 39 := by decide +kernel
theorem d11_see_39 : zd cX11_see 39 (.aload_n 0) 1 40 := by decide +kernel
theorem d11_see_40 : zd cX11_see 40 (.getfield 9) 3 43 := by decide +kernel
theorem d11_see_43 : zd cX11_see 43 (.iconst 0) 1 44 := by decide +kernel
theorem d11_see_44 : zd cX11_see 44 (.aload_n 0) 1 45 := by decide +kernel
theorem d11_see_45 : zd cX11_see 45 (.getfield 43) 3 48 := by decide +kernel
theorem d11_see_48 : zd cX11_see 48 (.getfield 340) 3 51 := by decide +kernel
theorem d11_see_51 : zd cX11_see 51 (.iconst 0) 1 52 := by decide +kernel
theorem d11_see_52 : zd cX11_see 52 (.iload_n 2) 1 53 := by decide +kernel
theorem d11_see_53 : zd cX11_see 53 (.invokestatic 343) 3 56 := by decide +kernel
theorem d11_see_56 : zd cX11_see 56 (.aload_n 0) 1 57 := by decide +kernel
theorem d11_see_57 : zd cX11_see 57 (.getfield 43) 3 60 := by decide +kernel
theorem d11_see_60 : zd cX11_see 60 (.iload_n 2) 1 61 := by decide +kernel
theorem d11_see_61 : zd cX11_see 61 (.iconst 3) 1 62 := by decide +kernel
theorem d11_see_62 : zd cX11_see 62 (.idiv) 1 63 := by decide +kernel
theorem d11_see_63 : zd cX11_see 63 (.putfield 158) 3 66 := by decide +kernel
theorem d11_see_66 : zd cX11_see 66 (.aload_n 0) 1 67 := by decide +kernel
theorem d11_see_67 : zd cX11_see 67 (.getfield 43) 3 70 := by decide +kernel
theorem d11_see_70 : zd cX11_see 70 (.iload_n 1) 1 71 := by decide +kernel
theorem d11_see_71 : zd cX11_see 71 (.putfield 349) 3 74 := by decide +kernel
theorem d11_see_74 : zd cX11_see 74 (.aload_n 0) 1 75 := by decide +kernel
theorem d11_see_75 : zd cX11_see 75 (.getfield 43) 3 78 := by decide +kernel
theorem d11_see_78 : zd cX11_see 78 (.getfield 158) 3 81 := by decide +kernel
theorem d11_see_81 : zd cX11_see 81 (.ireturn) 1 82 := by decide +kernel
set_option maxHeartbeats 4000000 in
set_option maxRecDepth 20000 in
theorem c11_see (l : Launch) (D : zDt) (Sh : zSh) (top : Nat) (hO : zOK Sh) (o_ : Nat) (v_n : Int32) (μ : zM) (r_ : Int32) (μ_ : zM) (ho : (Sh o_).1 = 18) (h : f11_see o_ v_n μ = some (r_, μ_)) : zMet l D zK1 yX11_see cX11_see 3 (some .int) (zrm 3 65) [.ref o_, .int v_n] Sh top μ (some (.int r_)) Sh top μ_ 0 0 := by
  refine zMet_of (by decide) (Nat.le_of_ble_eq_true rfl) fun X hX1 hX2 fx fin => ?_
  subst hX1; subst hX2
  replace fx : zFix X cX11_see RX11 (zrm 3 65) 3 := fx
  show zZ zK1 X (zT0 Sh top) μ 0 [(0, .ref o_), (1, .int v_n)] []
  unfold f11_see at h
  refine z_aload_n fx (k := 0) (i := 0) rfl rfl d11_see_0 ?_
  obtain ⟨t1, μ2, e1, h⟩ := zinv2 h
  refine z_cVr fx (c11_takeTape (zLo X) (zDo X) Sh top hO o_ μ _ _ ho e1) mv11_takeTape ml11_101 ho rfl rfl rfl rfl d11_see_1 ?_
  refine z_istore_n fx (k := 2) (i := 2) rfl rfl (lv' := [(0, .ref o_), (1, .int v_n), (2, .int t1)]) rfl rfl d11_see_4 ?_
  obtain ⟨b3, e3, h⟩ := zinv h
  have kt2 : b3 = true → zZ zK1 X (zT0 Sh top) μ2 33 [(0, .ref o_), (1, .int v_n), (2, .int t1)] [] := by
    intro hc
    replace h := zif_t hc h
    refine z_aload_n fx (k := 0) (i := 0) rfl rfl d11_see_33 ?_
    refine z_iconst fx (v := 5) ic5 d11_see_34 ?_
    obtain ⟨t4, μ5, e4, h⟩ := zinv2 h
    refine z_cVr fx (c11_refuse (zLo X) (zDo X) Sh top hO o_ 5 μ2 _ _ ho e4) mv11_refuse ml11_89 ho rfl rfl rfl rfl d11_see_35 ?_
    cases h
    exact z_ireturn fx fin d11_see_38
  have kf2 : b3 = false → zZ zK1 X (zT0 Sh top) μ2 39 [(0, .ref o_), (1, .int v_n), (2, .int t1)] [] := by
    intro hc
    replace h := zif_f hc h
    refine z_aload_n fx (k := 0) (i := 0) rfl rfl d11_see_39 ?_
    refine z_getO fx 11 0 1 ho lf11_9 fk11_0 d11_see_40 ?_
    refine z_iconst fx (v := 0) ic0 d11_see_43 ?_
    refine z_aload_n fx (k := 0) (i := 0) rfl rfl d11_see_44 ?_
    refine z_getO fx 11 8 17 ho lf11_43 fk11_8 d11_see_45 ?_
    refine z_getO fx 7 0 1 (ok11_8 hO ho) lf11_340 fk7_0 d11_see_48 ?_
    refine z_iconst fx (v := 0) ic0 d11_see_51 ?_
    refine z_iload_n fx (k := 2) (i := 2) rfl rfl d11_see_52 ?_
    obtain ⟨μ6, e5, h⟩ := zinv h
    refine z_copy fx ml11_343 (ok11_0 hO ho) (ok7_0 hO (ok11_8 hO ho)) e5 (Nat.le_of_ble_eq_true rfl) ⟨Nat.le_of_ble_eq_true rfl, Nat.le_of_ble_eq_true rfl⟩ d11_see_53 ?_
    refine z_aload_n fx (k := 0) (i := 0) rfl rfl d11_see_56 ?_
    refine z_getO fx 11 8 17 ho lf11_43 fk11_8 d11_see_57 ?_
    refine z_iload_n fx (k := 2) (i := 2) rfl rfl d11_see_60 ?_
    refine z_iconst fx (v := 3) ic3 d11_see_61 ?_
    obtain ⟨t7, e6, h⟩ := zinv h
    refine z_idiv fx e6 d11_see_62 ?_
    obtain ⟨μ8, e7, h⟩ := zinv h
    refine z_putI fx (ci := 7) 3 (ok11_8 hO ho) lf11_158 fp7_3 e7 d11_see_63 ?_
    refine z_aload_n fx (k := 0) (i := 0) rfl rfl d11_see_66 ?_
    refine z_getO fx 11 8 17 ho lf11_43 fk11_8 d11_see_67 ?_
    refine z_iload_n fx (k := 1) (i := 1) rfl rfl d11_see_70 ?_
    obtain ⟨μ9, e8, h⟩ := zinv h
    refine z_putI fx (ci := 7) 4 (ok11_8 hO ho) lf11_349 fp7_4 e8 d11_see_71 ?_
    refine z_aload_n fx (k := 0) (i := 0) rfl rfl d11_see_74 ?_
    refine z_getO fx 11 8 17 ho lf11_43 fk11_8 d11_see_75 ?_
    refine z_getI fx 7 3 703 (ok11_8 hO ho) lf11_158 ⟨fk7_3, rfl⟩ d11_see_78 ?_
    cases h
    exact z_ireturn fx fin d11_see_81
  clear h
  obtain ⟨b10, e9, e3⟩ := zinv e3
  have kf10 : b10 = false → zZ zK1 X (zT0 Sh top) μ2 25 [(0, .ref o_), (1, .int v_n), (2, .int t1)] [] := by
    intro hc
    replace e3 := zif_f hc e3
    refine z_aload_n fx (k := 0) (i := 0) rfl rfl d11_see_25 ?_
    refine z_iload_n fx (k := 2) (i := 2) rfl rfl d11_see_26 ?_
    obtain ⟨t11, e11, e3⟩ := zinv e3
    refine z_cVr fx (c11_isSight (zLo X) (zDo X) Sh top hO o_ t1 μ2 _ ho e11) mv11_isSight ml11_337 ho rfl rfl rfl rfl d11_see_27 ?_
    cases e3
    refine z_ifb_ne fx d11_see_30 (fun c12 => ?_) (fun c12 => ?_)
    · exact kf2 (by rw [c12]; rfl)
    · exact kt2 (by rw [c12]; rfl)
  have kt10 : b10 = true → zZ zK1 X (zT0 Sh top) μ2 33 [(0, .ref o_), (1, .int v_n), (2, .int t1)] [] := by
    intro hc
    replace e3 := zif_t hc e3
    cases e3
    exact kt2 rfl
  clear e3
  have kf13 : ((clt v_n 0) || (clt 80 v_n)) = false → zZ zK1 X (zT0 Sh top) μ2 15 [(0, .ref o_), (1, .int v_n), (2, .int t1)] [] := by
    intro hc
    replace e9 := zif_f hc e9
    refine z_aload_n fx (k := 0) (i := 0) rfl rfl d11_see_15 ?_
    obtain ⟨w12, e14, e9⟩ := zinv e9
    refine z_getR fx 11 11 1111 17 ho lf11_56 ⟨fk11_11, rfl⟩ e14 d11_see_16 (fun tw12 => ?_)
    refine z_getB fx 10 12 1012 tw12 lf11_300 ⟨fk10_12, rfl⟩ d11_see_19 ?_
    cases e9
    refine z_ifb_eq fx d11_see_22 (fun c15 => ?_) (fun c15 => ?_)
    · exact kt10 (by rw [c15]; rfl)
    · exact kf10 (by rw [c15]; rfl)
  have kt13 : ((clt v_n 0) || (clt 80 v_n)) = true → zZ zK1 X (zT0 Sh top) μ2 33 [(0, .ref o_), (1, .int v_n), (2, .int t1)] [] := by
    intro hc
    replace e9 := zif_t hc e9
    cases e9
    exact kt10 rfl
  refine z_iload_n fx (k := 1) (i := 1) rfl rfl d11_see_5 ?_
  refine z_if_lt fx d11_see_6 (fun c16 => ?_) (fun c16 => ?_)
  · exact kt13 (by simp [c16])
  · refine z_iload_n fx (k := 1) (i := 1) rfl rfl d11_see_9 ?_
    refine z_bipush fx (v := 80) bp80 d11_see_10 ?_
    refine z_icmp_gt fx d11_see_12 (fun c17 => ?_) (fun c17 => ?_)
    · exact kt13 (by simp [c16, c17])
    · exact kf13 (by simp [c16, c17])
theorem d7_isAsSeen_0 : zd cX7_isAsSeen 0 (.iconst 0) 1 1 := by decide +kernel
theorem d7_isAsSeen_1 : zd cX7_isAsSeen 1 (.istore_n 2) 1 2 := by decide +kernel
theorem d7_isAsSeen_2 : zd cX7_isAsSeen 2 (.iload_n 2) 1 3 := by decide +kernel
theorem d7_isAsSeen_3 : zd cX7_isAsSeen 3 (.aload_n 0) 1 4 := by decide +kernel
theorem d7_isAsSeen_4 : zd cX7_isAsSeen 4 (.getfield 21) 3 7 := by decide +kernel
theorem d7_isAsSeen_7 : zd cX7_isAsSeen 7 (.iconst 3) 1 8 := by decide +kernel
theorem d7_isAsSeen_8 : zd cX7_isAsSeen 8 (.imul) 1 9 := by decide +kernel
theorem d7_isAsSeen_9 : zj cX7_isAsSeen 9 (.if_icmp .ge 53) 53 12 62 := by decide +kernel
theorem d7_isAsSeen_12 : zd cX7_isAsSeen 12 (.aload_n 1) 1 13 := by decide +kernel
theorem d7_isAsSeen_13 : zd cX7_isAsSeen 13 (.getfield 31) 3 16 := by decide +kernel
theorem d7_isAsSeen_16 : zd cX7_isAsSeen 16 (.aload_n 0) 1 17 := by decide +kernel
theorem d7_isAsSeen_17 : zd cX7_isAsSeen 17 (.getfield 9) 3 20 := by decide +kernel
theorem d7_isAsSeen_20 : zd cX7_isAsSeen 20 (.iload_n 2) 1 21 := by decide +kernel
theorem d7_isAsSeen_21 : zd cX7_isAsSeen 21 (.iaload) 1 22 := by decide +kernel
theorem d7_isAsSeen_22 : zd cX7_isAsSeen 22 (.aload_n 0) 1 23 := by decide +kernel
theorem d7_isAsSeen_23 : zd cX7_isAsSeen 23 (.getfield 9) 3 26 := by decide +kernel
theorem d7_isAsSeen_26 : zd cX7_isAsSeen 26 (.iload_n 2) 1 27 := by decide +kernel
theorem d7_isAsSeen_27 : zd cX7_isAsSeen 27 (.iconst 1) 1 28 := by decide +kernel
theorem d7_isAsSeen_28 : zd cX7_isAsSeen 28 (.iadd) 1 29 := by decide +kernel
theorem d7_isAsSeen_29 : zd cX7_isAsSeen 29 (.iaload) 1 30 := by decide +kernel
theorem d7_isAsSeen_30 : zd cX7_isAsSeen 30 (.invokevirtual 70) 3 33 := by decide +kernel
theorem d7_isAsSeen_33 : zd cX7_isAsSeen 33 (.istore_n 3) 1 34 := by decide +kernel
theorem d7_isAsSeen_34 : zd cX7_isAsSeen 34 (.aload_n 1) 1 35 := by decide +kernel
theorem d7_isAsSeen_35 : zd cX7_isAsSeen 35 (.getfield 61) 3 38 := by decide +kernel
theorem d7_isAsSeen_38 : zd cX7_isAsSeen 38 (.iload_n 3) 1 39 := by decide +kernel
theorem d7_isAsSeen_39 : zd cX7_isAsSeen 39 (.aaload) 1 40 := by decide +kernel
theorem d7_isAsSeen_40 : zd cX7_isAsSeen 40 (.getfield 65) 3 43 := by decide +kernel
theorem d7_isAsSeen_43 : zd cX7_isAsSeen 43 (.aload_n 0) 1 44 := by decide +kernel
theorem d7_isAsSeen_44 : zd cX7_isAsSeen 44 (.getfield 9) 3 47 := by decide +kernel
theorem d7_isAsSeen_47 : zd cX7_isAsSeen 47 (.iload_n 2) 1 48 := by decide +kernel
theorem d7_isAsSeen_48 : zd cX7_isAsSeen 48 (.iconst 2) 1 49 := by decide +kernel
theorem d7_isAsSeen_49 : zd cX7_isAsSeen 49 (.iadd) 1 50 := by decide +kernel
theorem d7_isAsSeen_50 : zd cX7_isAsSeen 50 (.iaload) 1 51 := by decide +kernel
theorem d7_isAsSeen_51 : zj cX7_isAsSeen 51 (.if_icmp .eq 5) 5 54 56 := by decide +kernel
theorem d7_isAsSeen_54 : zd cX7_isAsSeen 54 (.iconst 0) 1 55 := by decide +kernel
theorem d7_isAsSeen_55 : zd cX7_isAsSeen 55 (.ireturn) 1 56 := by decide +kernel
theorem d7_isAsSeen_56 : zd cX7_isAsSeen 56 (.iinc 2 3) 3 59 := by decide +kernel
theorem d7_isAsSeen_59 : zj cX7_isAsSeen 59 (.goto (-57)) (-57) 62 2 := by decide +kernel
theorem d7_isAsSeen_62 : zd cX7_isAsSeen 62 (.iconst 1) 1 63 := by decide +kernel
theorem d7_isAsSeen_63 : zd cX7_isAsSeen 63 (.ireturn) 1 64 := by decide +kernel
set_option maxHeartbeats 4000000 in
set_option maxRecDepth 20000 in
theorem c7_isAsSeen (l : Launch) (D : zDt) (Sh : zSh) (top : Nat) (hO : zOK Sh) (o_ : Nat) (v_ahead : Nat) (μ : zM) (r_ : Bool) (ho : (Sh o_).1 = 14) (h_ahead : (Sh v_ahead).1 = 15) (h : f7_isAsSeen o_ v_ahead μ = some r_) : zMet l D zK1 yX7_isAsSeen cX7_isAsSeen 4 (some .boolean) (zrm 1 22) [.ref o_, .ref v_ahead] Sh top μ (some (.int (bI r_))) Sh top μ 0 0 := by
  refine zMet_of (by decide) (Nat.le_of_ble_eq_true rfl) fun X hX1 hX2 fx fin => ?_
  subst hX1; subst hX2
  replace fx : zFix X cX7_isAsSeen RX7 (zrm 1 22) 4 := fx
  show zZ zK1 X (zT0 Sh top) μ 0 [(0, .ref o_), (1, .ref v_ahead)] []
  unfold f7_isAsSeen at h
  refine z_iconst fx (v := 0) ic0 d7_isAsSeen_0 ?_
  refine z_istore_n fx (k := 2) (i := 2) rfl rfl (lv' := [(0, .ref o_), (1, .ref v_ahead), (2, .int 0)]) rfl rfl d7_isAsSeen_1 ?_
  obtain ⟨r3, e15, h⟩ := zinv h
  have kx4 : ∀ (v_k_2 : Int32), r3 = .inr v_k_2 → zZ zK1 X (zT0 Sh top) μ 62 [(0, .ref o_), (1, .ref v_ahead), (2, .int v_k_2)] [] := by
    intro v_k_2 hr
    subst hr
    replace h := zel1 h
    refine z_take 2 (lv' := [(0, .ref o_), (1, .ref v_ahead)]) rfl ?_
    refine z_iconst fx (v := 1) ic1 d7_isAsSeen_62 ?_
    refine z_top (show Value.int 1 = .int (bI true) from rfl) ?_
    cases h
    exact z_zreturn fx fin d7_isAsSeen_63
  have klr3 : ∀ (n : Nat) (v_k_1 : Int32), zloop (fun s => f7_isAsSeen_L1 o_ v_ahead μ s) n v_k_1 = some r3 → zZ zK1 X (zT0 Sh top) μ 2 [(0, .ref o_), (1, .ref v_ahead), (2, .int v_k_1)] [] := by
    intro n
    induction n with
    | zero => intro v_k_1 hl2; cases hl2
    | succ n ih5 =>
      intro v_k_1 hl2
      obtain ⟨y, e1, hl2⟩ := zloop_inv hl2
      replace e1 : f7_isAsSeen_L1 o_ v_ahead μ v_k_1 = some y := e1
      unfold f7_isAsSeen_L1 at e1
      refine z_iload_n fx (k := 2) (i := 2) rfl rfl d7_isAsSeen_2 ?_
      refine z_aload_n fx (k := 0) (i := 0) rfl rfl d7_isAsSeen_3 ?_
      refine z_getI fx 7 3 703 ho lf7_21 ⟨fk7_3, rfl⟩ d7_isAsSeen_4 ?_
      refine z_iconst fx (v := 3) ic3 d7_isAsSeen_7 ?_
      refine z_imul fx d7_isAsSeen_8 ?_
      refine z_icmp_ge fx d7_isAsSeen_9 (fun c6 => ?_) (fun c6 => ?_)
      · replace e1 := zif_f c6 e1
        cases e1
        exact kx4 _ (Eq.symm hl2)
      · replace e1 := zif_t c6 e1
        refine z_aload_n fx (k := 1) (i := 1) rfl rfl d7_isAsSeen_12 ?_
        obtain ⟨w3, e7, e1⟩ := zinv e1
        refine z_getR fx 8 12 812 17 h_ahead lf7_31 ⟨fk8_12, rfl⟩ e7 d7_isAsSeen_13 (fun tw3 => ?_)
        refine z_aload_n fx (k := 0) (i := 0) rfl rfl d7_isAsSeen_16 ?_
        refine z_getO fx 7 0 1 ho lf7_9 fk7_0 d7_isAsSeen_17 ?_
        refine z_iload_n fx (k := 2) (i := 2) rfl rfl d7_isAsSeen_20 ?_
        obtain ⟨t4, e8, e1⟩ := zinv e1
        refine z_iald fx (ok7_0 hO ho) e8 d7_isAsSeen_21 ?_
        refine z_aload_n fx (k := 0) (i := 0) rfl rfl d7_isAsSeen_22 ?_
        refine z_getO fx 7 0 1 ho lf7_9 fk7_0 d7_isAsSeen_23 ?_
        refine z_iload_n fx (k := 2) (i := 2) rfl rfl d7_isAsSeen_26 ?_
        refine z_iconst fx (v := 1) ic1 d7_isAsSeen_27 ?_
        refine z_iadd fx d7_isAsSeen_28 ?_
        obtain ⟨t5, e9, e1⟩ := zinv e1
        refine z_iald fx (ok7_0 hO ho) e9 d7_isAsSeen_29 ?_
        obtain ⟨t6, e10, e1⟩ := zinv e1
        refine z_cVr fx (c10_endOf (zLo X) (zDo X) Sh top hO w3 t4 t5 μ _ tw3 e10) mv10_endOf ml7_70 tw3 rfl rfl rfl rfl d7_isAsSeen_30 ?_
        refine z_istore_n fx (k := 3) (i := 3) rfl rfl (lv' := [(0, .ref o_), (1, .ref v_ahead), (2, .int v_k_1), (3, .int t6)]) rfl rfl d7_isAsSeen_33 ?_
        refine z_aload_n fx (k := 1) (i := 1) rfl rfl d7_isAsSeen_34 ?_
        refine z_getO fx 8 1 2 h_ahead lf7_61 fk8_1 d7_isAsSeen_35 ?_
        refine z_iload_n fx (k := 3) (i := 3) rfl rfl d7_isAsSeen_38 ?_
        obtain ⟨j7, e11, e1⟩ := zinv e1
        refine z_aald fx 1 (by decide) (ok8_1 hO h_ahead) e11 (v := .ref (v_ahead + 37 + 2 * j7)) rfl d7_isAsSeen_39 ?_
        refine z_getI fx 4 4 404 (okA1 hO (ok8_1 hO h_ahead) (rI_lt e11)) lf7_65 ⟨fk4_4, rfl⟩ d7_isAsSeen_40 ?_
        refine z_aload_n fx (k := 0) (i := 0) rfl rfl d7_isAsSeen_43 ?_
        refine z_getO fx 7 0 1 ho lf7_9 fk7_0 d7_isAsSeen_44 ?_
        refine z_iload_n fx (k := 2) (i := 2) rfl rfl d7_isAsSeen_47 ?_
        refine z_iconst fx (v := 2) ic2 d7_isAsSeen_48 ?_
        refine z_iadd fx d7_isAsSeen_49 ?_
        obtain ⟨t8, e12, e1⟩ := zinv e1
        refine z_iald fx (ok7_0 hO ho) e12 d7_isAsSeen_50 ?_
        refine z_icmp_eq fx d7_isAsSeen_51 (fun c13 => ?_) (fun c13 => ?_)
        · replace e1 := zif_t c13 e1
          refine z_take 3 (lv' := [(0, .ref o_), (1, .ref v_ahead), (2, .int v_k_1)]) rfl ?_
          obtain ⟨v_k_9, e14, e1⟩ := zinv e1
          replace e14 := Option.some.inj e14
          refine z_iinc fx (i := 2) (x := v_k_1) (v := v_k_9) rfl (by rw [in3]; exact e14) rfl (lv' := [(0, .ref o_), (1, .ref v_ahead), (2, .int v_k_9)]) rfl rfl d7_isAsSeen_56 ?_
          cases e1
          refine z_goto fx d7_isAsSeen_59 ?_
          exact ih5 _ hl2
        · replace e1 := zif_f c13 e1
          refine z_iconst fx (v := 0) ic0 d7_isAsSeen_54 ?_
          refine z_top (show Value.int 0 = .int (bI false) from rfl) ?_
          cases e1
          cases hl2
          cases h
          exact z_zreturn fx fin d7_isAsSeen_55
  exact klr3 _ _ e15
theorem d7_findSuspects_0 : zd cX7_findSuspects 0 (.aload_n 0) 1 1 := by decide +kernel
theorem d7_findSuspects_1 : zd cX7_findSuspects 1 (.iconst 0) 1 2 := by decide +kernel
theorem d7_findSuspects_2 : zd cX7_findSuspects 2 (.putfield 28) 3 5 := by decide +kernel
theorem d7_findSuspects_5 : zd cX7_findSuspects 5 (.iconst 0) 1 6 := by decide +kernel
theorem d7_findSuspects_6 : zd cX7_findSuspects 6 (.istore_n 3) 1 7 := by decide +kernel
theorem d7_findSuspects_7 : zd cX7_findSuspects 7 (.iload_n 3) 1 8 := by decide +kernel
theorem d7_findSuspects_8 : zd cX7_findSuspects 8 (.aload_n 1) 1 9 := by decide +kernel
theorem d7_findSuspects_9 : zd cX7_findSuspects 9 (.getfield 31) 3 12 := by decide +kernel
theorem d7_findSuspects_12 : zd cX7_findSuspects 12 (.getfield 37) 3 15 := by decide +kernel
theorem d7_findSuspects_15 : zj cX7_findSuspects 15 (.if_icmp .gt 150) 150 18 165 := by decide +kernel
theorem d7_findSuspects_18 : zd cX7_findSuspects 18 (.iload_n 3) 1 19 := by decide +kernel
theorem d7_findSuspects_19 : zd cX7_findSuspects 19 (.aload_n 1) 1 20 := by decide +kernel
theorem d7_findSuspects_20 : zd cX7_findSuspects 20 (.getfield 31) 3 23 := by decide +kernel
theorem d7_findSuspects_23 : zd cX7_findSuspects 23 (.getfield 37) 3 26 := by decide +kernel
theorem d7_findSuspects_26 : zj cX7_findSuspects 26 (.if_icmp .ge 7) 7 29 33 := by decide +kernel
theorem d7_findSuspects_29 : zd cX7_findSuspects 29 (.iconst 1) 1 30 := by decide +kernel
theorem d7_findSuspects_30 : zj cX7_findSuspects 30 (.goto 4) 4 33 34 := by decide +kernel
theorem d7_findSuspects_33 : zd cX7_findSuspects 33 (.iconst 0) 1 34 := by decide +kernel
theorem d7_findSuspects_34 : zd cX7_findSuspects 34 (.istore 4) 2 36 := by decide +kernel
theorem d7_findSuspects_36 : zd cX7_findSuspects 36 (.iload 4) 2 38 := by decide +kernel
theorem d7_findSuspects_38 : zj cX7_findSuspects 38 (.ifCond .eq 15) 15 41 53 := by decide +kernel
theorem d7_findSuspects_41 : zd cX7_findSuspects 41 (.aload_n 1) 1 42 := by decide +kernel
theorem d7_findSuspects_42 : zd cX7_findSuspects 42 (.getfield 42) 3 45 := by decide +kernel
theorem d7_findSuspects_45 : zd cX7_findSuspects 45 (.iload_n 3) 1 46 := by decide +kernel
theorem d7_findSuspects_46 : zd cX7_findSuspects 46 (.baload) 1 47 := by decide +kernel
theorem d7_findSuspects_47 : zj cX7_findSuspects 47 (.ifCond .ne 6) 6 50 53 := by decide +kernel
theorem d7_findSuspects_50 : zj cX7_findSuspects 50 (.goto 109) 109 53 159 := by decide +kernel
theorem d7_findSuspects_53 : zd cX7_findSuspects 53 (.aload_n 2) 1 54 := by decide +kernel
theorem d7_findSuspects_54 : zd cX7_findSuspects 54 (.aload_n 1) 1 55 := by decide +kernel
theorem d7_findSuspects_55 : zd cX7_findSuspects 55 (.invokevirtual 46) 3 58 := by decide +kernel
theorem d7_findSuspects_58 : zd cX7_findSuspects 58 (.iload 4) 2 60 := by decide +kernel
theorem d7_findSuspects_60 : zj cX7_findSuspects 60 (.ifCond .eq 8) 8 63 68 := by decide +kernel
theorem d7_findSuspects_63 : zd cX7_findSuspects 63 (.aload_n 2) 1 64 := by decide +kernel
theorem d7_findSuspects_64 : zd cX7_findSuspects 64 (.iload_n 3) 1 65 := by decide +kernel
theorem d7_findSuspects_65 : zd cX7_findSuspects 65 (.invokevirtual 50) 3 68 := by decide +kernel
theorem d7_findSuspects_68 : zd cX7_findSuspects 68 (.iconst 0) 1 69 := by decide +kernel
theorem d7_findSuspects_69 : zd cX7_findSuspects 69 (.istore 5) 2 71 := by decide +kernel
theorem d7_findSuspects_71 : zd cX7_findSuspects 71 (.iload 5) 2 73 := by decide +kernel
theorem d7_findSuspects_73 : zd cX7_findSuspects 73 (.aload_n 0) 1 74 := by decide +kernel
theorem d7_findSuspects_74 : zd cX7_findSuspects 74 (.getfield 25) 3 77 := by decide +kernel
theorem d7_findSuspects_77 : zj cX7_findSuspects 77 (.if_icmp .ge 13) 13 80 90 := by decide +kernel
theorem d7_findSuspects_80 : zd cX7_findSuspects 80 (.aload_n 2) 1 81 := by decide +kernel
theorem d7_findSuspects_81 : zd cX7_findSuspects 81 (.invokevirtual 54) 3 84 := by decide +kernel
theorem d7_findSuspects_84 : zd cX7_findSuspects 84 (.iinc 5 1) 3 87 := by decide +kernel
theorem d7_findSuspects_87 : zj cX7_findSuspects 87 (.goto (-16)) (-16) 90 71 := by decide +kernel
theorem d7_findSuspects_90 : zd cX7_findSuspects 90 (.aload_n 0) 1 91 := by decide +kernel
theorem d7_findSuspects_91 : zd cX7_findSuspects 91 (.aload_n 2) 1 92 := by decide +kernel
theorem d7_findSuspects_92 : zd cX7_findSuspects 92 (.invokevirtual 57) 3 95 := by decide +kernel
theorem d7_findSuspects_95 : zj cX7_findSuspects 95 (.ifCond .eq 64) 64 98 159 := by decide +kernel
theorem d7_findSuspects_98 : zd cX7_findSuspects 98 (.iconst 0) 1 99 := by decide +kernel
theorem d7_findSuspects_99 : zd cX7_findSuspects 99 (.istore 5) 2 101 := by decide +kernel
theorem d7_findSuspects_101 : zd cX7_findSuspects 101 (.iload 5) 2 103 := by decide +kernel
theorem d7_findSuspects_103 : zd cX7_findSuspects 103 (.bipush 28) 2 105 := by decide +kernel
theorem d7_findSuspects_105 : zj cX7_findSuspects 105 (.if_icmp .ge 34) 34 108 139 := by decide +kernel
theorem d7_findSuspects_108 : zd cX7_findSuspects 108 (.aload_n 0) 1 109 := by decide +kernel
theorem d7_findSuspects_109 : zd cX7_findSuspects 109 (.getfield 18) 3 112 := by decide +kernel
theorem d7_findSuspects_112 : zd cX7_findSuspects 112 (.aload_n 0) 1 113 := by decide +kernel
theorem d7_findSuspects_113 : zd cX7_findSuspects 113 (.getfield 28) 3 116 := by decide +kernel
theorem d7_findSuspects_116 : zd cX7_findSuspects 116 (.bipush 28) 2 118 := by decide +kernel
theorem d7_findSuspects_118 : zd cX7_findSuspects 118 (.imul) 1 119 := by decide +kernel
theorem d7_findSuspects_119 : zd cX7_findSuspects 119 (.iload 5) 2 121 := by decide +kernel
theorem d7_findSuspects_121 : zd cX7_findSuspects 121 (.iadd) 1 122 := by decide +kernel
theorem d7_findSuspects_122 : zd cX7_findSuspects 122 (.aload_n 2) 1 123 := by decide +kernel
theorem d7_findSuspects_123 : zd cX7_findSuspects 123 (.getfield 61) 3 126 := by decide +kernel
theorem d7_findSuspects_126 : zd cX7_findSuspects 126 (.iload 5) 2 128 := by decide +kernel
theorem d7_findSuspects_128 : zd cX7_findSuspects 128 (.aaload) 1 129 := by decide +kernel
theorem d7_findSuspects_129 : zd cX7_findSuspects 129 (.getfield 65) 3 132 := by decide +kernel
theorem d7_findSuspects_132 : zd cX7_findSuspects 132 (.iastore) 1 133 := by decide +kernel
theorem d7_findSuspects_133 : zd cX7_findSuspects 133 (.iinc 5 1) 3 136 := by decide +kernel
theorem d7_findSuspects_136 : zj cX7_findSuspects 136 (.goto (-35)) (-35) 139 101 := by decide +kernel
theorem d7_findSuspects_139 : zd cX7_findSuspects 139 (.aload_n 0) 1 140 := by decide +kernel
theorem d7_findSuspects_140 : zd cX7_findSuspects 140 (.getfield 15) 3 143 := by decide +kernel
theorem d7_findSuspects_143 : zd cX7_findSuspects 143 (.aload_n 0) 1 144 := by decide +kernel
theorem d7_findSuspects_144 : zd cX7_findSuspects 144 (.getfield 28) 3 147 := by decide +kernel
theorem d7_findSuspects_147 : zd cX7_findSuspects 147 (.iload_n 3) 1 148 := by decide +kernel
theorem d7_findSuspects_148 : zd cX7_findSuspects 148 (.iastore) 1 149 := by decide +kernel
theorem d7_findSuspects_149 : zd cX7_findSuspects 149 (.aload_n 0) 1 150 := by decide +kernel
theorem d7_findSuspects_150 : zd cX7_findSuspects 150 (.dup) 1 151 := by decide +kernel
theorem d7_findSuspects_151 : zd cX7_findSuspects 151 (.getfield 28) 3 154 := by decide +kernel
theorem d7_findSuspects_154 : zd cX7_findSuspects 154 (.iconst 1) 1 155 := by decide +kernel
theorem d7_findSuspects_155 : zd cX7_findSuspects 155 (.iadd) 1 156 := by decide +kernel
theorem d7_findSuspects_156 : zd cX7_findSuspects 156 (.putfield 28) 3 159 := by decide +kernel
theorem d7_findSuspects_159 : zd cX7_findSuspects 159 (.iinc 3 1) 3 162 := by decide +kernel
theorem d7_findSuspects_162 : zj cX7_findSuspects 162 (.goto (-155)) (-155) 165 7 := by decide +kernel
theorem d7_findSuspects_165 : zd cX7_findSuspects 165 (.return_) 1 166 := by decide +kernel
set_option maxHeartbeats 4000000 in
set_option maxRecDepth 20000 in
theorem c7_findSuspects (l : Launch) (D : zDt) (Sh : zSh) (top : Nat) (hO : zOK Sh) (o_ : Nat) (v_now : Nat) (v_ahead : Nat) (μ : zM) (μ_ : zM) (ho : (Sh o_).1 = 14) (h_now : (Sh v_now).1 = 15) (h_ahead : (Sh v_ahead).1 = 15) (h : f7_findSuspects o_ v_now v_ahead μ = some μ_) : zMet l D zK1 yX7_findSuspects cX7_findSuspects 6 none (zrm 6 143) [.ref o_, .ref v_now, .ref v_ahead] Sh top μ none Sh top μ_ 0 0 := by
  refine zMet_of (by decide) (Nat.le_of_ble_eq_true rfl) fun X hX1 hX2 fx fin => ?_
  subst hX1; subst hX2
  replace fx : zFix X cX7_findSuspects RX7 (zrm 6 143) 6 := fx
  show zZ zK1 X (zT0 Sh top) μ 0 [(0, .ref o_), (1, .ref v_now), (2, .ref v_ahead)] []
  unfold f7_findSuspects at h
  refine z_aload_n fx (k := 0) (i := 0) rfl rfl d7_findSuspects_0 ?_
  refine z_iconst fx (v := 0) ic0 d7_findSuspects_1 ?_
  obtain ⟨μ1, e1, h⟩ := zinv h
  refine z_putI fx (ci := 7) 5 ho lf7_28 fp7_5 e1 d7_findSuspects_2 ?_
  refine z_iconst fx (v := 0) ic0 d7_findSuspects_5 ?_
  refine z_istore_n fx (k := 3) (i := 3) rfl rfl (lv' := [(0, .ref o_), (1, .ref v_now), (2, .ref v_ahead), (3, .int 0)]) rfl rfl d7_findSuspects_6 ?_
  obtain ⟨v_link_4, μ5, e50, h⟩ := zinv2 h
  have kx5 : zZ zK1 X (zT0 Sh top) μ5 165 [(0, .ref o_), (1, .ref v_now), (2, .ref v_ahead), (3, .int v_link_4)] [] := by
    refine z_take 3 (lv' := [(0, .ref o_), (1, .ref v_now), (2, .ref v_ahead)]) rfl ?_
    cases h
    exact z_return fx fin d7_findSuspects_165
  clear h
  have klr4 : ∀ (n : Nat) (v_link_2 : Int32) (μ3 : zM), zloop (fun s => f7_findSuspects_L1 o_ v_now v_ahead s.1 s.2) n (v_link_2, μ3) = some (v_link_4, μ5) → zZ zK1 X (zT0 Sh top) μ3 7 [(0, .ref o_), (1, .ref v_now), (2, .ref v_ahead), (3, .int v_link_2)] [] := by
    intro n
    induction n with
    | zero => intro v_link_2 μ3 hl3; cases hl3
    | succ n ih6 =>
      intro v_link_2 μ3 hl3
      obtain ⟨y, e2, hl3⟩ := zloop_inv hl3
      replace e2 : f7_findSuspects_L1 o_ v_now v_ahead v_link_2 μ3 = some y := e2
      unfold f7_findSuspects_L1 at e2
      refine z_iload_n fx (k := 3) (i := 3) rfl rfl d7_findSuspects_7 ?_
      refine z_aload_n fx (k := 1) (i := 1) rfl rfl d7_findSuspects_8 ?_
      obtain ⟨w6, e7, e2⟩ := zinv e2
      refine z_getR fx 8 12 812 17 h_now lf7_31 ⟨fk8_12, rfl⟩ e7 d7_findSuspects_9 (fun tw6 => ?_)
      refine z_getI fx 10 16 1016 tw6 lf7_37 ⟨fk10_16, rfl⟩ d7_findSuspects_12 ?_
      refine z_icmp_gt fx d7_findSuspects_15 (fun c8 => ?_) (fun c8 => ?_)
      · replace e2 := zif_t c8 e2
        cases e2
        cases hl3
        exact kx5
      · replace e2 := zif_f c8 e2
        obtain ⟨b7, e9, e2⟩ := zinv e2
        have k10 : zZ zK1 X (zT0 Sh top) μ3 34 [(0, .ref o_), (1, .ref v_now), (2, .ref v_ahead), (3, .int v_link_2)] [.int (bI b7)] := by
          refine z_istore fx (i := 4) rfl (lv' := [(0, .ref o_), (1, .ref v_now), (2, .ref v_ahead), (3, .int v_link_2), (4, .int (bI b7))]) rfl rfl d7_findSuspects_34 ?_
          obtain ⟨b9, e15, e2⟩ := zinv e2
          have kt14 : b9 = true → zZ zK1 X (zT0 Sh top) μ3 159 [(0, .ref o_), (1, .ref v_now), (2, .ref v_ahead), (3, .int v_link_2), (4, .int (bI b7))] [] := by
            intro hc
            replace e2 := zif_t hc e2
            refine z_take 4 (lv' := [(0, .ref o_), (1, .ref v_now), (2, .ref v_ahead), (3, .int v_link_2)]) rfl ?_
            obtain ⟨v_link_10, e16, e2⟩ := zinv e2
            replace e16 := Option.some.inj e16
            refine z_iinc fx (i := 3) (x := v_link_2) (v := v_link_10) rfl (by rw [in1]; exact e16) rfl (lv' := [(0, .ref o_), (1, .ref v_now), (2, .ref v_ahead), (3, .int v_link_10)]) rfl rfl d7_findSuspects_159 ?_
            cases e2
            refine z_goto fx d7_findSuspects_162 ?_
            exact ih6 _ _ hl3
          have kf14 : b9 = false → zZ zK1 X (zT0 Sh top) μ3 53 [(0, .ref o_), (1, .ref v_now), (2, .ref v_ahead), (3, .int v_link_2), (4, .int (bI b7))] [] := by
            intro hc
            replace e2 := zif_f hc e2
            refine z_aload_n fx (k := 2) (i := 2) rfl rfl d7_findSuspects_53 ?_
            refine z_aload_n fx (k := 1) (i := 1) rfl rfl d7_findSuspects_54 ?_
            obtain ⟨μ11, e17, e2⟩ := zinv e2
            refine z_cVv fx (c8_copyFrom (zLo X) (zDo X) Sh top hO v_ahead v_now μ3 _ h_ahead h_now e17) mv8_copyFrom ml7_46 h_ahead rfl rfl rfl rfl d7_findSuspects_55 ?_
            obtain ⟨μ12, e18, e2⟩ := zinv e2
            have k19 : zZ zK1 X (zT0 Sh top) μ12 68 [(0, .ref o_), (1, .ref v_now), (2, .ref v_ahead), (3, .int v_link_2), (4, .int (bI b7))] [] := by
              refine z_iconst fx (v := 0) ic0 d7_findSuspects_68 ?_
              refine z_istore fx (i := 5) rfl (lv' := [(0, .ref o_), (1, .ref v_now), (2, .ref v_ahead), (3, .int v_link_2), (4, .int (bI b7)), (5, .int 0)]) rfl rfl d7_findSuspects_69 ?_
              obtain ⟨v_k_15, μ16, e44, e2⟩ := zinv2 e2
              have kx23 : zZ zK1 X (zT0 Sh top) μ16 90 [(0, .ref o_), (1, .ref v_now), (2, .ref v_ahead), (3, .int v_link_2), (4, .int (bI b7)), (5, .int v_k_15)] [] := by
                refine z_take 5 (lv' := [(0, .ref o_), (1, .ref v_now), (2, .ref v_ahead), (3, .int v_link_2), (4, .int (bI b7))]) rfl ?_
                refine z_aload_n fx (k := 0) (i := 0) rfl rfl d7_findSuspects_90 ?_
                refine z_aload_n fx (k := 2) (i := 2) rfl rfl d7_findSuspects_91 ?_
                obtain ⟨t19, e28, e2⟩ := zinv e2
                refine z_cVr fx (c7_isAsSeen (zLo X) (zDo X) Sh top hO o_ v_ahead μ16 _ ho h_ahead e28) mv7_isAsSeen ml7_57 ho rfl rfl rfl rfl d7_findSuspects_92 ?_
                refine z_ifb_eq fx d7_findSuspects_95 (fun c29 => ?_) (fun c29 => ?_)
                · replace e2 := zif_f c29 e2
                  refine z_take 4 (lv' := [(0, .ref o_), (1, .ref v_now), (2, .ref v_ahead), (3, .int v_link_2)]) rfl ?_
                  obtain ⟨v_link_20, e30, e2⟩ := zinv e2
                  replace e30 := Option.some.inj e30
                  refine z_iinc fx (i := 3) (x := v_link_2) (v := v_link_20) rfl (by rw [in1]; exact e30) rfl (lv' := [(0, .ref o_), (1, .ref v_now), (2, .ref v_ahead), (3, .int v_link_20)]) rfl rfl d7_findSuspects_159 ?_
                  cases e2
                  refine z_goto fx d7_findSuspects_162 ?_
                  exact ih6 _ _ hl3
                · replace e2 := zif_t c29 e2
                  refine z_iconst fx (v := 0) ic0 d7_findSuspects_98 ?_
                  refine z_istore fx (i := 5) rfl (lv' := [(0, .ref o_), (1, .ref v_now), (2, .ref v_ahead), (3, .int v_link_2), (4, .int (bI b7)), (5, .int 0)]) rfl rfl d7_findSuspects_99 ?_
                  obtain ⟨v_end_23, μ24, e43, e2⟩ := zinv2 e2
                  have kx34 : zZ zK1 X (zT0 Sh top) μ24 139 [(0, .ref o_), (1, .ref v_now), (2, .ref v_ahead), (3, .int v_link_2), (4, .int (bI b7)), (5, .int v_end_23)] [] := by
                    refine z_take 5 (lv' := [(0, .ref o_), (1, .ref v_now), (2, .ref v_ahead), (3, .int v_link_2), (4, .int (bI b7))]) rfl ?_
                    refine z_aload_n fx (k := 0) (i := 0) rfl rfl d7_findSuspects_139 ?_
                    refine z_getO fx 7 1 2 ho lf7_15 fk7_1 d7_findSuspects_140 ?_
                    refine z_aload_n fx (k := 0) (i := 0) rfl rfl d7_findSuspects_143 ?_
                    refine z_getI fx 7 5 705 ho lf7_28 ⟨fk7_5, rfl⟩ d7_findSuspects_144 ?_
                    refine z_iload_n fx (k := 3) (i := 3) rfl rfl d7_findSuspects_147 ?_
                    obtain ⟨μ28, e40, e2⟩ := zinv e2
                    refine z_iast fx (ok7_1 hO ho) e40 d7_findSuspects_148 ?_
                    refine z_aload_n fx (k := 0) (i := 0) rfl rfl d7_findSuspects_149 ?_
                    refine z_dup fx rfl d7_findSuspects_150 ?_
                    refine z_getI fx 7 5 705 ho lf7_28 ⟨fk7_5, rfl⟩ d7_findSuspects_151 ?_
                    refine z_iconst fx (v := 1) ic1 d7_findSuspects_154 ?_
                    refine z_iadd fx d7_findSuspects_155 ?_
                    obtain ⟨μ29, e41, e2⟩ := zinv e2
                    refine z_putI fx (ci := 7) 5 ho lf7_28 fp7_5 e41 d7_findSuspects_156 ?_
                    refine z_take 4 (lv' := [(0, .ref o_), (1, .ref v_now), (2, .ref v_ahead), (3, .int v_link_2)]) rfl ?_
                    obtain ⟨v_link_30, e42, e2⟩ := zinv e2
                    replace e42 := Option.some.inj e42
                    refine z_iinc fx (i := 3) (x := v_link_2) (v := v_link_30) rfl (by rw [in1]; exact e42) rfl (lv' := [(0, .ref o_), (1, .ref v_now), (2, .ref v_ahead), (3, .int v_link_30)]) rfl rfl d7_findSuspects_159 ?_
                    cases e2
                    refine z_goto fx d7_findSuspects_162 ?_
                    exact ih6 _ _ hl3
                  clear e2
                  have klr33 : ∀ (n : Nat) (v_end_21 : Int32) (μ22 : zM), zloop (fun s => f7_findSuspects_L3 o_ v_ahead s.1 s.2) n (v_end_21, μ22) = some (v_end_23, μ24) → zZ zK1 X (zT0 Sh top) μ22 101 [(0, .ref o_), (1, .ref v_now), (2, .ref v_ahead), (3, .int v_link_2), (4, .int (bI b7)), (5, .int v_end_21)] [] := by
                    intro n
                    induction n with
                    | zero => intro v_end_21 μ22 hl32; cases hl32
                    | succ n ih35 =>
                      intro v_end_21 μ22 hl32
                      obtain ⟨y, e31, hl32⟩ := zloop_inv hl32
                      replace e31 : f7_findSuspects_L3 o_ v_ahead v_end_21 μ22 = some y := e31
                      unfold f7_findSuspects_L3 at e31
                      refine z_iload fx (i := 5) rfl d7_findSuspects_101 ?_
                      refine z_bipush fx (v := 28) bp28 d7_findSuspects_103 ?_
                      refine z_icmp_ge fx d7_findSuspects_105 (fun c36 => ?_) (fun c36 => ?_)
                      · replace e31 := zif_f c36 e31
                        cases e31
                        cases hl32
                        exact kx34
                      · replace e31 := zif_t c36 e31
                        refine z_aload_n fx (k := 0) (i := 0) rfl rfl d7_findSuspects_108 ?_
                        refine z_getO fx 7 2 3 ho lf7_18 fk7_2 d7_findSuspects_109 ?_
                        refine z_aload_n fx (k := 0) (i := 0) rfl rfl d7_findSuspects_112 ?_
                        refine z_getI fx 7 5 705 ho lf7_28 ⟨fk7_5, rfl⟩ d7_findSuspects_113 ?_
                        refine z_bipush fx (v := 28) bp28 d7_findSuspects_116 ?_
                        refine z_imul fx d7_findSuspects_118 ?_
                        refine z_iload fx (i := 5) rfl d7_findSuspects_119 ?_
                        refine z_iadd fx d7_findSuspects_121 ?_
                        refine z_aload_n fx (k := 2) (i := 2) rfl rfl d7_findSuspects_122 ?_
                        refine z_getO fx 8 1 2 h_ahead lf7_61 fk8_1 d7_findSuspects_123 ?_
                        refine z_iload fx (i := 5) rfl d7_findSuspects_126 ?_
                        obtain ⟨j25, e37, e31⟩ := zinv e31
                        refine z_aald fx 1 (by decide) (ok8_1 hO h_ahead) e37 (v := .ref (v_ahead + 37 + 2 * j25)) rfl d7_findSuspects_128 ?_
                        refine z_getI fx 4 4 404 (okA1 hO (ok8_1 hO h_ahead) (rI_lt e37)) lf7_65 ⟨fk4_4, rfl⟩ d7_findSuspects_129 ?_
                        obtain ⟨μ26, e38, e31⟩ := zinv e31
                        refine z_iast fx (ok7_2 hO ho) e38 d7_findSuspects_132 ?_
                        obtain ⟨v_end_27, e39, e31⟩ := zinv e31
                        replace e39 := Option.some.inj e39
                        refine z_iinc fx (i := 5) (x := v_end_21) (v := v_end_27) rfl (by rw [in1]; exact e39) rfl (lv' := [(0, .ref o_), (1, .ref v_now), (2, .ref v_ahead), (3, .int v_link_2), (4, .int (bI b7)), (5, .int v_end_27)]) rfl rfl d7_findSuspects_133 ?_
                        cases e31
                        refine z_goto fx d7_findSuspects_136 ?_
                        exact ih35 _ _ hl32
                  exact klr33 _ _ _ e43
              clear e2
              have klr22 : ∀ (n : Nat) (v_k_13 : Int32) (μ14 : zM), zloop (fun s => f7_findSuspects_L2 o_ v_ahead s.1 s.2) n (v_k_13, μ14) = some (v_k_15, μ16) → zZ zK1 X (zT0 Sh top) μ14 71 [(0, .ref o_), (1, .ref v_now), (2, .ref v_ahead), (3, .int v_link_2), (4, .int (bI b7)), (5, .int v_k_13)] [] := by
                intro n
                induction n with
                | zero => intro v_k_13 μ14 hl21; cases hl21
                | succ n ih24 =>
                  intro v_k_13 μ14 hl21
                  obtain ⟨y, e20, hl21⟩ := zloop_inv hl21
                  replace e20 : f7_findSuspects_L2 o_ v_ahead v_k_13 μ14 = some y := e20
                  unfold f7_findSuspects_L2 at e20
                  refine z_iload fx (i := 5) rfl d7_findSuspects_71 ?_
                  refine z_aload_n fx (k := 0) (i := 0) rfl rfl d7_findSuspects_73 ?_
                  refine z_getI fx 7 4 704 ho lf7_25 ⟨fk7_4, rfl⟩ d7_findSuspects_74 ?_
                  refine z_icmp_ge fx d7_findSuspects_77 (fun c25 => ?_) (fun c25 => ?_)
                  · replace e20 := zif_f c25 e20
                    cases e20
                    cases hl21
                    exact kx23
                  · replace e20 := zif_t c25 e20
                    refine z_aload_n fx (k := 2) (i := 2) rfl rfl d7_findSuspects_80 ?_
                    obtain ⟨μ17, e26, e20⟩ := zinv e20
                    refine z_cVv fx (c8_step (zLo X) (zDo X) Sh top hO v_ahead μ14 _ h_ahead e26) mv8_step ml7_54 h_ahead rfl rfl rfl rfl d7_findSuspects_81 ?_
                    obtain ⟨v_k_18, e27, e20⟩ := zinv e20
                    replace e27 := Option.some.inj e27
                    refine z_iinc fx (i := 5) (x := v_k_13) (v := v_k_18) rfl (by rw [in1]; exact e27) rfl (lv' := [(0, .ref o_), (1, .ref v_now), (2, .ref v_ahead), (3, .int v_link_2), (4, .int (bI b7)), (5, .int v_k_18)]) rfl rfl d7_findSuspects_84 ?_
                    cases e20
                    refine z_goto fx d7_findSuspects_87 ?_
                    exact ih24 _ _ hl21
              exact klr22 _ _ _ e44
            clear e2
            refine z_iload fx (i := 4) rfl d7_findSuspects_58 ?_
            refine z_ifb_eq fx d7_findSuspects_60 (fun c45 => ?_) (fun c45 => ?_)
            · replace e18 := zif_f c45 e18
              cases e18
              exact k19
            · replace e18 := zif_t c45 e18
              refine z_aload_n fx (k := 2) (i := 2) rfl rfl d7_findSuspects_63 ?_
              refine z_iload_n fx (k := 3) (i := 3) rfl rfl d7_findSuspects_64 ?_
              obtain ⟨μ31, e46, e18⟩ := zinv e18
              refine z_cVv fx (c8_cutLink (zLo X) (zDo X) Sh top hO v_ahead v_link_2 μ11 _ h_ahead e46) mv8_cutLink ml7_50 h_ahead rfl rfl rfl rfl d7_findSuspects_65 ?_
              cases e18
              exact k19
          clear e2
          refine z_iload fx (i := 4) rfl d7_findSuspects_36 ?_
          refine z_ifb_eq fx d7_findSuspects_38 (fun c47 => ?_) (fun c47 => ?_)
          · replace e15 := zif_f c47 e15
            cases e15
            exact kf14 rfl
          · replace e15 := zif_t c47 e15
            refine z_aload_n fx (k := 1) (i := 1) rfl rfl d7_findSuspects_41 ?_
            refine z_getO fx 8 3 4 h_now lf7_42 fk8_3 d7_findSuspects_42 ?_
            refine z_iload_n fx (k := 3) (i := 3) rfl rfl d7_findSuspects_45 ?_
            obtain ⟨t32, e48, e15⟩ := zinv e15
            refine z_zald fx (ok8_3 hO h_now) e48 d7_findSuspects_46 ?_
            cases e15
            refine z_ifb_ne fx d7_findSuspects_47 (fun c49 => ?_) (fun c49 => ?_)
            · exact kf14 (by rw [c49]; rfl)
            · refine z_goto fx d7_findSuspects_50 ?_
              exact kt14 (by rw [c49]; rfl)
        have kt11 : b7 = true → zZ zK1 X (zT0 Sh top) μ3 29 [(0, .ref o_), (1, .ref v_now), (2, .ref v_ahead), (3, .int v_link_2)] [] := by
          intro hc
          refine z_iconst fx (v := 1) ic1 d7_findSuspects_29 ?_
          refine z_goto fx d7_findSuspects_30 ?_
          exact z_top (congrArg Value.int (show 1 = bI b7 by rw [hc]; rfl)) k10
        have kf11 : b7 = false → zZ zK1 X (zT0 Sh top) μ3 33 [(0, .ref o_), (1, .ref v_now), (2, .ref v_ahead), (3, .int v_link_2)] [] := by
          intro hc
          refine z_iconst fx (v := 0) ic0 d7_findSuspects_33 ?_
          exact z_top (congrArg Value.int (show 0 = bI b7 by rw [hc]; rfl)) k10
        refine z_iload_n fx (k := 3) (i := 3) rfl rfl d7_findSuspects_18 ?_
        refine z_aload_n fx (k := 1) (i := 1) rfl rfl d7_findSuspects_19 ?_
        obtain ⟨w8, e12, e9⟩ := zinv e9
        refine z_getR fx 8 12 812 17 h_now lf7_31 ⟨fk8_12, rfl⟩ e12 d7_findSuspects_20 (fun tw8 => ?_)
        refine z_getI fx 10 16 1016 tw8 lf7_37 ⟨fk10_16, rfl⟩ d7_findSuspects_23 ?_
        cases e9
        refine z_icmp_ge fx d7_findSuspects_26 (fun c13 => ?_) (fun c13 => ?_)
        · exact kf11 c13
        · exact kt11 c13
  exact klr4 _ _ _ e50
theorem d11_suspect_0 : zd cX11_suspect 0 (.aload_n 0) 1 1 := by decide +kernel
theorem d11_suspect_1 : zd cX11_suspect 1 (.getfield 56) 3 4 := by decide +kernel
theorem d11_suspect_4 : zd cX11_suspect 4 (.getfield 300) 3 7 := by decide +kernel
theorem d11_suspect_7 : zj cX11_suspect 7 (.ifCond .eq 19) 19 10 26 := by decide +kernel
theorem d11_suspect_10 : zd cX11_suspect 10 (.iload_n 1) 1 11 := by decide +kernel
theorem d11_suspect_11 : zd cX11_suspect 11 (.iconst (-1)) 1 12 := by decide +kernel
theorem d11_suspect_12 : zj cX11_suspect 12 (.if_icmp .lt 14) 14 15 26 := by decide +kernel
theorem d11_suspect_15 : zd cX11_suspect 15 (.iload_n 1) 1 16 := by decide +kernel
theorem d11_suspect_16 : zd cX11_suspect 16 (.aload_n 0) 1 17 := by decide +kernel
theorem d11_suspect_17 : zd cX11_suspect 17 (.getfield 56) 3 20 := by decide +kernel
theorem d11_suspect_20 : zd cX11_suspect 20 (.getfield 131) 3 23 := by decide +kernel
theorem d11_suspect_23 : zj cX11_suspect 23 (.if_icmp .le 5) 5 26 28 := by decide +kernel
theorem d11_suspect_26 : zd cX11_suspect 26 (.iconst (-1)) 1 27 := by decide +kernel
theorem d11_suspect_27 : zd cX11_suspect 27 (.ireturn) 1 28 := by decide +kernel
theorem d11_suspect_28 : zd cX11_suspect 28 (.aload_n 0) 1 29 := by decide +kernel
theorem d11_suspect_29 : zd cX11_suspect 29 (.getfield 43) 3 32 := by decide +kernel
theorem d11_suspect_32 : zd cX11_suspect 32 (.aload_n 0) 1 33 := by decide +kernel
theorem d11_suspect_33 : zd cX11_suspect 33 (.getfield 75) 3 36 := by decide +kernel
theorem d11_suspect_36 : zd cX11_suspect 36 (.aload_n 0) 1 37 := by decide +kernel
theorem d11_suspect_37 : zd cX11_suspect 37 (.getfield 79) 3 40 := by decide +kernel
theorem d11_suspect_40 : zd cX11_suspect 40 (.invokevirtual 352) 3 43 := by decide +kernel
theorem d11_suspect_43 : zd cX11_suspect 43 (.iload_n 1) 1 44 := by decide +kernel
theorem d11_suspect_44 : zd cX11_suspect 44 (.iconst (-1)) 1 45 := by decide +kernel
theorem d11_suspect_45 : zj cX11_suspect 45 (.if_icmp .ne 11) 11 48 56 := by decide +kernel
theorem d11_suspect_48 : zd cX11_suspect 48 (.aload_n 0) 1 49 := by decide +kernel
theorem d11_suspect_49 : zd cX11_suspect 49 (.getfield 43) 3 52 := by decide +kernel
theorem d11_suspect_52 : zd cX11_suspect 52 (.getfield 356) 3 55 := by decide +kernel
theorem d11_suspect_55 : zd cX11_suspect 55 (.ireturn) 1 56 := by decide +kernel
theorem d11_suspect_56 : zd cX11_suspect 56 (.iload_n 1) 1 57 := by decide +kernel
theorem d11_suspect_57 : zd cX11_suspect 57 (.aload_n 0) 1 58 := by decide +kernel
theorem d11_suspect_58 : zd cX11_suspect 58 (.getfield 43) 3 61 := by decide +kernel
theorem d11_suspect_61 : zd cX11_suspect 61 (.getfield 356) 3 64 := by decide +kernel
theorem d11_suspect_64 : zj cX11_suspect 64 (.if_icmp .ge 15) 15 67 79 := by decide +kernel
theorem d11_suspect_67 : zd cX11_suspect 67 (.aload_n 0) 1 68 := by decide +kernel
theorem d11_suspect_68 : zd cX11_suspect 68 (.getfield 43) 3 71 := by decide +kernel
theorem d11_suspect_71 : zd cX11_suspect 71 (.getfield 359) 3 74 := by decide +kernel
theorem d11_suspect_74 : zd cX11_suspect 74 (.iload_n 1) 1 75 := by decide +kernel
theorem d11_suspect_75 : zd cX11_suspect 75 (.iaload) 1 76 := by decide +kernel
theorem d11_suspect_76 : zj cX11_suspect 76 (.goto 4) 4 79 80 := by decide +kernel
theorem d11_suspect_79 : zd cX11_suspect 79 (.iconst (-1)) 1 80 := by decide +kernel
theorem d11_suspect_80 : zd cX11_suspect 80 (.ireturn) 1 81 := by decide +kernel
set_option maxHeartbeats 4000000 in
set_option maxRecDepth 20000 in
theorem c11_suspect (l : Launch) (D : zDt) (Sh : zSh) (top : Nat) (hO : zOK Sh) (o_ : Nat) (v_k : Int32) (μ : zM) (r_ : Int32) (μ_ : zM) (ho : (Sh o_).1 = 18) (h : f11_suspect o_ v_k μ = some (r_, μ_)) : zMet l D zK1 yX11_suspect cX11_suspect 2 (some .int) (zrm 7 168) [.ref o_, .int v_k] Sh top μ (some (.int r_)) Sh top μ_ 0 0 := by
  refine zMet_of (by decide) (Nat.le_of_ble_eq_true rfl) fun X hX1 hX2 fx fin => ?_
  subst hX1; subst hX2
  replace fx : zFix X cX11_suspect RX11 (zrm 7 168) 2 := fx
  show zZ zK1 X (zT0 Sh top) μ 0 [(0, .ref o_), (1, .int v_k)] []
  unfold f11_suspect at h
  obtain ⟨b1, e2, h⟩ := zinv h
  have kt1 : b1 = true → zZ zK1 X (zT0 Sh top) μ 26 [(0, .ref o_), (1, .int v_k)] [] := by
    intro hc
    replace h := zif_t hc h
    refine z_iconst fx (v := (-1)) icm1 d11_suspect_26 ?_
    cases h
    exact z_ireturn fx fin d11_suspect_27
  have kf1 : b1 = false → zZ zK1 X (zT0 Sh top) μ 28 [(0, .ref o_), (1, .int v_k)] [] := by
    intro hc
    replace h := zif_f hc h
    refine z_aload_n fx (k := 0) (i := 0) rfl rfl d11_suspect_28 ?_
    refine z_getO fx 11 8 17 ho lf11_43 fk11_8 d11_suspect_29 ?_
    refine z_aload_n fx (k := 0) (i := 0) rfl rfl d11_suspect_32 ?_
    refine z_getO fx 11 3 51 ho lf11_75 fk11_3 d11_suspect_33 ?_
    refine z_aload_n fx (k := 0) (i := 0) rfl rfl d11_suspect_36 ?_
    refine z_getO fx 11 2 312 ho lf11_79 fk11_2 d11_suspect_37 ?_
    obtain ⟨μ2, e3, h⟩ := zinv h
    refine z_cVv fx (c7_findSuspects (zLo X) (zDo X) Sh top hO (o_ + 17) (o_ + 51) (o_ + 312) μ _ (ok11_8 hO ho) (ok11_3 hO ho) (ok11_2 hO ho) e3) mv7_findSuspects ml11_352 (ok11_8 hO ho) rfl rfl rfl rfl d11_suspect_40 ?_
    refine z_iload_n fx (k := 1) (i := 1) rfl rfl d11_suspect_43 ?_
    refine z_iconst fx (v := (-1)) icm1 d11_suspect_44 ?_
    refine z_icmp_ne fx d11_suspect_45 (fun c4 => ?_) (fun c4 => ?_)
    · replace h := zif_f c4 h
      obtain ⟨x3, e5, h⟩ := zinv h
      have k6 : zZ zK1 X (zT0 Sh top) μ2 80 [(0, .ref o_), (1, .int v_k)] [.int x3] := by
        cases h
        exact z_ireturn fx fin d11_suspect_80
      refine z_iload_n fx (k := 1) (i := 1) rfl rfl d11_suspect_56 ?_
      refine z_aload_n fx (k := 0) (i := 0) rfl rfl d11_suspect_57 ?_
      refine z_getO fx 11 8 17 ho lf11_43 fk11_8 d11_suspect_58 ?_
      refine z_getI fx 7 5 705 (ok11_8 hO ho) lf11_356 ⟨fk7_5, rfl⟩ d11_suspect_61 ?_
      refine z_icmp_ge fx d11_suspect_64 (fun c7 => ?_) (fun c7 => ?_)
      · replace e5 := zif_f c7 e5
        refine z_iconst fx (v := (-1)) icm1 d11_suspect_79 ?_
        cases e5
        exact k6
      · replace e5 := zif_t c7 e5
        refine z_aload_n fx (k := 0) (i := 0) rfl rfl d11_suspect_67 ?_
        refine z_getO fx 11 8 17 ho lf11_43 fk11_8 d11_suspect_68 ?_
        refine z_getO fx 7 1 2 (ok11_8 hO ho) lf11_359 fk7_1 d11_suspect_71 ?_
        refine z_iload_n fx (k := 1) (i := 1) rfl rfl d11_suspect_74 ?_
        obtain ⟨t4, e8, e5⟩ := zinv e5
        refine z_iald fx (ok7_1 hO (ok11_8 hO ho)) e8 d11_suspect_75 ?_
        cases e5
        refine z_goto fx d11_suspect_76 ?_
        exact k6
    · replace h := zif_t c4 h
      refine z_aload_n fx (k := 0) (i := 0) rfl rfl d11_suspect_48 ?_
      refine z_getO fx 11 8 17 ho lf11_43 fk11_8 d11_suspect_49 ?_
      refine z_getI fx 7 5 705 (ok11_8 hO ho) lf11_356 ⟨fk7_5, rfl⟩ d11_suspect_52 ?_
      cases h
      exact z_ireturn fx fin d11_suspect_55
  clear h
  obtain ⟨b5, e9, e2⟩ := zinv e2
  have kf10 : b5 = false → zZ zK1 X (zT0 Sh top) μ 15 [(0, .ref o_), (1, .int v_k)] [] := by
    intro hc
    replace e2 := zif_f hc e2
    refine z_iload_n fx (k := 1) (i := 1) rfl rfl d11_suspect_15 ?_
    refine z_aload_n fx (k := 0) (i := 0) rfl rfl d11_suspect_16 ?_
    obtain ⟨w6, e11, e2⟩ := zinv e2
    refine z_getR fx 11 11 1111 17 ho lf11_56 ⟨fk11_11, rfl⟩ e11 d11_suspect_17 (fun tw6 => ?_)
    refine z_getI fx 10 16 1016 tw6 lf11_131 ⟨fk10_16, rfl⟩ d11_suspect_20 ?_
    cases e2
    refine z_icmp_le fx d11_suspect_23 (fun c12 => ?_) (fun c12 => ?_)
    · exact kf1 c12
    · exact kt1 c12
  have kt10 : b5 = true → zZ zK1 X (zT0 Sh top) μ 26 [(0, .ref o_), (1, .int v_k)] [] := by
    intro hc
    replace e2 := zif_t hc e2
    cases e2
    exact kt1 rfl
  clear e2
  obtain ⟨b7, e13, e9⟩ := zinv e9
  have kf14 : b7 = false → zZ zK1 X (zT0 Sh top) μ 10 [(0, .ref o_), (1, .int v_k)] [] := by
    intro hc
    replace e9 := zif_f hc e9
    refine z_iload_n fx (k := 1) (i := 1) rfl rfl d11_suspect_10 ?_
    refine z_iconst fx (v := (-1)) icm1 d11_suspect_11 ?_
    cases e9
    refine z_icmp_lt fx d11_suspect_12 (fun c15 => ?_) (fun c15 => ?_)
    · exact kt10 c15
    · exact kf10 c15
  have kt14 : b7 = true → zZ zK1 X (zT0 Sh top) μ 26 [(0, .ref o_), (1, .int v_k)] [] := by
    intro hc
    replace e9 := zif_t hc e9
    cases e9
    exact kt10 rfl
  clear e9
  refine z_aload_n fx (k := 0) (i := 0) rfl rfl d11_suspect_0 ?_
  obtain ⟨w8, e16, e13⟩ := zinv e13
  refine z_getR fx 11 11 1111 17 ho lf11_56 ⟨fk11_11, rfl⟩ e16 d11_suspect_1 (fun tw8 => ?_)
  refine z_getB fx 10 12 1012 tw8 lf11_300 ⟨fk10_12, rfl⟩ d11_suspect_4 ?_
  cases e13
  refine z_ifb_eq fx d11_suspect_7 (fun c17 => ?_) (fun c17 => ?_)
  · exact kt14 (by rw [c17]; rfl)
  · exact kf14 (by rw [c17]; rfl)
theorem d7_countLeft_0 : zd cX7_countLeft 0 (.iconst 0) 1 1 := by decide +kernel
theorem d7_countLeft_1 : zd cX7_countLeft 1 (.istore_n 2) 1 2 := by decide +kernel
theorem d7_countLeft_2 : zd cX7_countLeft 2 (.iconst 0) 1 3 := by decide +kernel
theorem d7_countLeft_3 : zd cX7_countLeft 3 (.istore_n 3) 1 4 := by decide +kernel
theorem d7_countLeft_4 : zd cX7_countLeft 4 (.iload_n 3) 1 5 := by decide +kernel
theorem d7_countLeft_5 : zd cX7_countLeft 5 (.iconst 5) 1 6 := by decide +kernel
theorem d7_countLeft_6 : zj cX7_countLeft 6 (.if_icmp .ge 63) 63 9 69 := by decide +kernel
theorem d7_countLeft_9 : zd cX7_countLeft 9 (.iconst 0) 1 10 := by decide +kernel
theorem d7_countLeft_10 : zd cX7_countLeft 10 (.istore 4) 2 12 := by decide +kernel
theorem d7_countLeft_12 : zd cX7_countLeft 12 (.iconst 0) 1 13 := by decide +kernel
theorem d7_countLeft_13 : zd cX7_countLeft 13 (.istore 5) 2 15 := by decide +kernel
theorem d7_countLeft_15 : zd cX7_countLeft 15 (.iload 5) 2 17 := by decide +kernel
theorem d7_countLeft_17 : zd cX7_countLeft 17 (.aload_n 0) 1 18 := by decide +kernel
theorem d7_countLeft_18 : zd cX7_countLeft 18 (.getfield 28) 3 21 := by decide +kernel
theorem d7_countLeft_21 : zj cX7_countLeft 21 (.if_icmp .ge 35) 35 24 56 := by decide +kernel
theorem d7_countLeft_24 : zd cX7_countLeft 24 (.iload 4) 2 26 := by decide +kernel
theorem d7_countLeft_26 : zd cX7_countLeft 26 (.aload_n 0) 1 27 := by decide +kernel
theorem d7_countLeft_27 : zd cX7_countLeft 27 (.getfield 18) 3 30 := by decide +kernel
theorem d7_countLeft_30 : zd cX7_countLeft 30 (.iload 5) 2 32 := by decide +kernel
theorem d7_countLeft_32 : zd cX7_countLeft 32 (.bipush 28) 2 34 := by decide +kernel
theorem d7_countLeft_34 : zd cX7_countLeft 34 (.imul) 1 35 := by decide +kernel
theorem d7_countLeft_35 : zd cX7_countLeft 35 (.iload_n 1) 1 36 := by decide +kernel
theorem d7_countLeft_36 : zd cX7_countLeft 36 (.iadd) 1 37 := by decide +kernel
theorem d7_countLeft_37 : zd cX7_countLeft 37 (.iaload) 1 38 := by decide +kernel
theorem d7_countLeft_38 : zd cX7_countLeft 38 (.iload_n 3) 1 39 := by decide +kernel
theorem d7_countLeft_39 : zj cX7_countLeft 39 (.if_icmp .ne 7) 7 42 46 := by decide +kernel
theorem d7_countLeft_42 : zd cX7_countLeft 42 (.iconst 1) 1 43 := by decide +kernel
theorem d7_countLeft_43 : zj cX7_countLeft 43 (.goto 4) 4 46 47 := by decide +kernel
theorem d7_countLeft_46 : zd cX7_countLeft 46 (.iconst 0) 1 47 := by decide +kernel
theorem d7_countLeft_47 : zd cX7_countLeft 47 (.iadd) 1 48 := by decide +kernel
theorem d7_countLeft_48 : zd cX7_countLeft 48 (.istore 4) 2 50 := by decide +kernel
theorem d7_countLeft_50 : zd cX7_countLeft 50 (.iinc 5 1) 3 53 := by decide +kernel
theorem d7_countLeft_53 : zj cX7_countLeft 53 (.goto (-38)) (-38) 56 15 := by decide +kernel
theorem d7_countLeft_56 : zd cX7_countLeft 56 (.iload_n 2) 1 57 := by decide +kernel
theorem d7_countLeft_57 : zd cX7_countLeft 57 (.iload 4) 2 59 := by decide +kernel
theorem d7_countLeft_59 : zd cX7_countLeft 59 (.invokestatic 92) 3 62 := by decide +kernel
theorem d7_countLeft_62 : zd cX7_countLeft 62 (.istore_n 2) 1 63 := by decide +kernel
theorem d7_countLeft_63 : zd cX7_countLeft 63 (.iinc 3 1) 3 66 := by decide +kernel
theorem d7_countLeft_66 : zj cX7_countLeft 66 (.goto (-62)) (-62) 69 4 := by decide +kernel
theorem d7_countLeft_69 : zd cX7_countLeft 69 (.iload_n 2) 1 70 := by decide +kernel
theorem d7_countLeft_70 : zd cX7_countLeft 70 (.ireturn) 1 71 := by decide +kernel
set_option maxHeartbeats 4000000 in
set_option maxRecDepth 20000 in
theorem c7_countLeft (l : Launch) (D : zDt) (Sh : zSh) (top : Nat) (hO : zOK Sh) (o_ : Nat) (v_end : Int32) (μ : zM) (r_ : Int32) (ho : (Sh o_).1 = 14) (h : f7_countLeft o_ v_end μ = some r_) : zMet l D zK1 yX7_countLeft cX7_countLeft 6 (some .int) (zrm 1 21) [.ref o_, .int v_end] Sh top μ (some (.int r_)) Sh top μ 0 0 := by
  refine zMet_of (by decide) (Nat.le_of_ble_eq_true rfl) fun X hX1 hX2 fx fin => ?_
  subst hX1; subst hX2
  replace fx : zFix X cX7_countLeft RX7 (zrm 1 21) 6 := fx
  show zZ zK1 X (zT0 Sh top) μ 0 [(0, .ref o_), (1, .int v_end)] []
  unfold f7_countLeft at h
  refine z_iconst fx (v := 0) ic0 d7_countLeft_0 ?_
  refine z_istore_n fx (k := 2) (i := 2) rfl rfl (lv' := [(0, .ref o_), (1, .int v_end), (2, .int 0)]) rfl rfl d7_countLeft_1 ?_
  refine z_iconst fx (v := 0) ic0 d7_countLeft_2 ?_
  refine z_istore_n fx (k := 3) (i := 3) rfl rfl (lv' := [(0, .ref o_), (1, .int v_end), (2, .int 0), (3, .int 0)]) rfl rfl d7_countLeft_3 ?_
  obtain ⟨v_most_3, v_role_4, e22, h⟩ := zinv2 h
  have kx4 : zZ zK1 X (zT0 Sh top) μ 69 [(0, .ref o_), (1, .int v_end), (2, .int v_most_3), (3, .int v_role_4)] [] := by
    refine z_take 3 (lv' := [(0, .ref o_), (1, .int v_end), (2, .int v_most_3)]) rfl ?_
    refine z_iload_n fx (k := 2) (i := 2) rfl rfl d7_countLeft_69 ?_
    cases h
    exact z_ireturn fx fin d7_countLeft_70
  clear h
  have klr3 : ∀ (n : Nat) (v_most_1 : Int32) (v_role_2 : Int32), zloop (fun s => f7_countLeft_L1 o_ v_end μ s.1 s.2) n (v_most_1, v_role_2) = some (v_most_3, v_role_4) → zZ zK1 X (zT0 Sh top) μ 4 [(0, .ref o_), (1, .int v_end), (2, .int v_most_1), (3, .int v_role_2)] [] := by
    intro n
    induction n with
    | zero => intro v_most_1 v_role_2 hl2; cases hl2
    | succ n ih5 =>
      intro v_most_1 v_role_2 hl2
      obtain ⟨y, e1, hl2⟩ := zloop_inv hl2
      replace e1 : f7_countLeft_L1 o_ v_end μ v_most_1 v_role_2 = some y := e1
      unfold f7_countLeft_L1 at e1
      refine z_iload_n fx (k := 3) (i := 3) rfl rfl d7_countLeft_4 ?_
      refine z_iconst fx (v := 5) ic5 d7_countLeft_5 ?_
      refine z_icmp_ge fx d7_countLeft_6 (fun c6 => ?_) (fun c6 => ?_)
      · replace e1 := zif_f c6 e1
        cases e1
        cases hl2
        exact kx4
      · replace e1 := zif_t c6 e1
        refine z_iconst fx (v := 0) ic0 d7_countLeft_9 ?_
        refine z_istore fx (i := 4) rfl (lv' := [(0, .ref o_), (1, .int v_end), (2, .int v_most_1), (3, .int v_role_2), (4, .int 0)]) rfl rfl d7_countLeft_10 ?_
        refine z_iconst fx (v := 0) ic0 d7_countLeft_12 ?_
        refine z_istore fx (i := 5) rfl (lv' := [(0, .ref o_), (1, .int v_end), (2, .int v_most_1), (3, .int v_role_2), (4, .int 0), (5, .int 0)]) rfl rfl d7_countLeft_13 ?_
        obtain ⟨v_alike_7, v_k_8, e21, e1⟩ := zinv2 e1
        have kx10 : zZ zK1 X (zT0 Sh top) μ 56 [(0, .ref o_), (1, .int v_end), (2, .int v_most_1), (3, .int v_role_2), (4, .int v_alike_7), (5, .int v_k_8)] [] := by
          refine z_take 5 (lv' := [(0, .ref o_), (1, .int v_end), (2, .int v_most_1), (3, .int v_role_2), (4, .int v_alike_7)]) rfl ?_
          refine z_iload_n fx (k := 2) (i := 2) rfl rfl d7_countLeft_56 ?_
          refine z_iload fx (i := 4) rfl d7_countLeft_57 ?_
          refine z_mmax fx ml7_92 zm_max (Nat.le_of_ble_eq_true rfl) ⟨Nat.le_of_ble_eq_true rfl, Nat.le_of_ble_eq_true rfl, Nat.le_of_ble_eq_true rfl, Nat.le_of_ble_eq_true rfl⟩ d7_countLeft_59 ?_
          obtain ⟨v_most_13, e19, e1⟩ := zinv e1
          replace e19 := Option.some.inj e19
          refine z_top (congrArg Value.int e19) ?_
          refine z_istore_n fx (k := 2) (i := 2) rfl rfl (lv' := [(0, .ref o_), (1, .int v_end), (2, .int v_most_13), (3, .int v_role_2), (4, .int v_alike_7)]) rfl rfl d7_countLeft_62 ?_
          refine z_take 4 (lv' := [(0, .ref o_), (1, .int v_end), (2, .int v_most_13), (3, .int v_role_2)]) rfl ?_
          obtain ⟨v_role_14, e20, e1⟩ := zinv e1
          replace e20 := Option.some.inj e20
          refine z_iinc fx (i := 3) (x := v_role_2) (v := v_role_14) rfl (by rw [in1]; exact e20) rfl (lv' := [(0, .ref o_), (1, .int v_end), (2, .int v_most_13), (3, .int v_role_14)]) rfl rfl d7_countLeft_63 ?_
          cases e1
          refine z_goto fx d7_countLeft_66 ?_
          exact ih5 _ _ hl2
        clear e1
        have klr9 : ∀ (n : Nat) (v_alike_5 : Int32) (v_k_6 : Int32), zloop (fun s => f7_countLeft_L2 o_ v_end μ v_role_2 s.1 s.2) n (v_alike_5, v_k_6) = some (v_alike_7, v_k_8) → zZ zK1 X (zT0 Sh top) μ 15 [(0, .ref o_), (1, .int v_end), (2, .int v_most_1), (3, .int v_role_2), (4, .int v_alike_5), (5, .int v_k_6)] [] := by
          intro n
          induction n with
          | zero => intro v_alike_5 v_k_6 hl8; cases hl8
          | succ n ih11 =>
            intro v_alike_5 v_k_6 hl8
            obtain ⟨y, e7, hl8⟩ := zloop_inv hl8
            replace e7 : f7_countLeft_L2 o_ v_end μ v_role_2 v_alike_5 v_k_6 = some y := e7
            unfold f7_countLeft_L2 at e7
            refine z_iload fx (i := 5) rfl d7_countLeft_15 ?_
            refine z_aload_n fx (k := 0) (i := 0) rfl rfl d7_countLeft_17 ?_
            refine z_getI fx 7 5 705 ho lf7_28 ⟨fk7_5, rfl⟩ d7_countLeft_18 ?_
            refine z_icmp_ge fx d7_countLeft_21 (fun c12 => ?_) (fun c12 => ?_)
            · replace e7 := zif_f c12 e7
              cases e7
              cases hl8
              exact kx10
            · replace e7 := zif_t c12 e7
              refine z_iload fx (i := 4) rfl d7_countLeft_24 ?_
              obtain ⟨x9, e13, e7⟩ := zinv e7
              have k14 : zZ zK1 X (zT0 Sh top) μ 47 [(0, .ref o_), (1, .int v_end), (2, .int v_most_1), (3, .int v_role_2), (4, .int v_alike_5), (5, .int v_k_6)] [.int x9, .int v_alike_5] := by
                refine z_iadd fx d7_countLeft_47 ?_
                obtain ⟨v_alike_11, e17, e7⟩ := zinv e7
                replace e17 := Option.some.inj e17
                refine z_top (congrArg Value.int e17) ?_
                refine z_istore fx (i := 4) rfl (lv' := [(0, .ref o_), (1, .int v_end), (2, .int v_most_1), (3, .int v_role_2), (4, .int v_alike_11), (5, .int v_k_6)]) rfl rfl d7_countLeft_48 ?_
                obtain ⟨v_k_12, e18, e7⟩ := zinv e7
                replace e18 := Option.some.inj e18
                refine z_iinc fx (i := 5) (x := v_k_6) (v := v_k_12) rfl (by rw [in1]; exact e18) rfl (lv' := [(0, .ref o_), (1, .int v_end), (2, .int v_most_1), (3, .int v_role_2), (4, .int v_alike_11), (5, .int v_k_12)]) rfl rfl d7_countLeft_50 ?_
                cases e7
                refine z_goto fx d7_countLeft_53 ?_
                exact ih11 _ _ hl8
              refine z_aload_n fx (k := 0) (i := 0) rfl rfl d7_countLeft_26 ?_
              refine z_getO fx 7 2 3 ho lf7_18 fk7_2 d7_countLeft_27 ?_
              refine z_iload fx (i := 5) rfl d7_countLeft_30 ?_
              refine z_bipush fx (v := 28) bp28 d7_countLeft_32 ?_
              refine z_imul fx d7_countLeft_34 ?_
              refine z_iload_n fx (k := 1) (i := 1) rfl rfl d7_countLeft_35 ?_
              refine z_iadd fx d7_countLeft_36 ?_
              obtain ⟨t10, e15, e13⟩ := zinv e13
              refine z_iald fx (ok7_2 hO ho) e15 d7_countLeft_37 ?_
              refine z_iload_n fx (k := 3) (i := 3) rfl rfl d7_countLeft_38 ?_
              refine z_icmp_ne fx d7_countLeft_39 (fun c16 => ?_) (fun c16 => ?_)
              · replace e13 := zif_f c16 e13
                refine z_iconst fx (v := 0) ic0 d7_countLeft_46 ?_
                cases e13
                exact k14
              · replace e13 := zif_t c16 e13
                refine z_iconst fx (v := 1) ic1 d7_countLeft_42 ?_
                cases e13
                refine z_goto fx d7_countLeft_43 ?_
                exact k14
        exact klr9 _ _ _ e21
  exact klr3 _ _ _ e22
theorem d7_findTelling_0 : zd cX7_findTelling 0 (.aload_n 0) 1 1 := by decide +kernel
theorem d7_findTelling_1 : zd cX7_findTelling 1 (.iconst (-1)) 1 2 := by decide +kernel
theorem d7_findTelling_2 : zd cX7_findTelling 2 (.putfield 74) 3 5 := by decide +kernel
theorem d7_findTelling_5 : zd cX7_findTelling 5 (.aload_n 0) 1 6 := by decide +kernel
theorem d7_findTelling_6 : zd cX7_findTelling 6 (.iconst (-1)) 1 7 := by decide +kernel
theorem d7_findTelling_7 : zd cX7_findTelling 7 (.putfield 77) 3 10 := by decide +kernel
theorem d7_findTelling_10 : zd cX7_findTelling 10 (.aload_n 0) 1 11 := by decide +kernel
theorem d7_findTelling_11 : zd cX7_findTelling 11 (.iconst (-1)) 1 12 := by decide +kernel
theorem d7_findTelling_12 : zd cX7_findTelling 12 (.putfield 80) 3 15 := by decide +kernel
theorem d7_findTelling_15 : zd cX7_findTelling 15 (.aload_n 0) 1 16 := by decide +kernel
theorem d7_findTelling_16 : zd cX7_findTelling 16 (.getfield 28) 3 19 := by decide +kernel
theorem d7_findTelling_19 : zj cX7_findTelling 19 (.ifCond .ne 4) 4 22 23 := by decide +kernel
theorem d7_findTelling_22 : zd cX7_findTelling 22 (.return_) 1 23 := by decide +kernel
theorem d7_findTelling_23 : zd cX7_findTelling 23 (.iconst 0) 1 24 := by decide +kernel
theorem d7_findTelling_24 : zd cX7_findTelling 24 (.istore_n 2) 1 25 := by decide +kernel
theorem d7_findTelling_25 : zd cX7_findTelling 25 (.iload_n 2) 1 26 := by decide +kernel
theorem d7_findTelling_26 : zd cX7_findTelling 26 (.aload_n 1) 1 27 := by decide +kernel
theorem d7_findTelling_27 : zd cX7_findTelling 27 (.getfield 83) 3 30 := by decide +kernel
theorem d7_findTelling_30 : zj cX7_findTelling 30 (.if_icmp .ge 72) 72 33 102 := by decide +kernel
theorem d7_findTelling_33 : zd cX7_findTelling 33 (.iconst 0) 1 34 := by decide +kernel
theorem d7_findTelling_34 : zd cX7_findTelling 34 (.istore_n 3) 1 35 := by decide +kernel
theorem d7_findTelling_35 : zd cX7_findTelling 35 (.iload_n 3) 1 36 := by decide +kernel
theorem d7_findTelling_36 : zd cX7_findTelling 36 (.aload_n 1) 1 37 := by decide +kernel
theorem d7_findTelling_37 : zd cX7_findTelling 37 (.getfield 86) 3 40 := by decide +kernel
theorem d7_findTelling_40 : zd cX7_findTelling 40 (.iload_n 2) 1 41 := by decide +kernel
theorem d7_findTelling_41 : zd cX7_findTelling 41 (.iaload) 1 42 := by decide +kernel
theorem d7_findTelling_42 : zj cX7_findTelling 42 (.if_icmp .ge 54) 54 45 96 := by decide +kernel
theorem d7_findTelling_45 : zd cX7_findTelling 45 (.aload_n 0) 1 46 := by decide +kernel
theorem d7_findTelling_46 : zd cX7_findTelling 46 (.aload_n 1) 1 47 := by decide +kernel
theorem d7_findTelling_47 : zd cX7_findTelling 47 (.iload_n 2) 1 48 := by decide +kernel
theorem d7_findTelling_48 : zd cX7_findTelling 48 (.iload_n 3) 1 49 := by decide +kernel
theorem d7_findTelling_49 : zd cX7_findTelling 49 (.invokevirtual 70) 3 52 := by decide +kernel
theorem d7_findTelling_52 : zd cX7_findTelling 52 (.invokevirtual 88) 3 55 := by decide +kernel
theorem d7_findTelling_55 : zd cX7_findTelling 55 (.istore 4) 2 57 := by decide +kernel
theorem d7_findTelling_57 : zd cX7_findTelling 57 (.aload_n 0) 1 58 := by decide +kernel
theorem d7_findTelling_58 : zd cX7_findTelling 58 (.getfield 80) 3 61 := by decide +kernel
theorem d7_findTelling_61 : zd cX7_findTelling 61 (.iconst (-1)) 1 62 := by decide +kernel
theorem d7_findTelling_62 : zj cX7_findTelling 62 (.if_icmp .eq 12) 12 65 74 := by decide +kernel
theorem d7_findTelling_65 : zd cX7_findTelling 65 (.iload 4) 2 67 := by decide +kernel
theorem d7_findTelling_67 : zd cX7_findTelling 67 (.aload_n 0) 1 68 := by decide +kernel
theorem d7_findTelling_68 : zd cX7_findTelling 68 (.getfield 80) 3 71 := by decide +kernel
theorem d7_findTelling_71 : zj cX7_findTelling 71 (.if_icmp .ge 19) 19 74 90 := by decide +kernel
theorem d7_findTelling_74 : zd cX7_findTelling 74 (.aload_n 0) 1 75 := by decide +kernel
theorem d7_findTelling_75 : zd cX7_findTelling 75 (.iload_n 2) 1 76 := by decide +kernel
theorem d7_findTelling_76 : zd cX7_findTelling 76 (.putfield 74) 3 79 := by decide +kernel
theorem d7_findTelling_79 : zd cX7_findTelling 79 (.aload_n 0) 1 80 := by decide +kernel
theorem d7_findTelling_80 : zd cX7_findTelling 80 (.iload_n 3) 1 81 := by decide +kernel
theorem d7_findTelling_81 : zd cX7_findTelling 81 (.putfield 77) 3 84 := by decide +kernel
theorem d7_findTelling_84 : zd cX7_findTelling 84 (.aload_n 0) 1 85 := by decide +kernel
theorem d7_findTelling_85 : zd cX7_findTelling 85 (.iload 4) 2 87 := by decide +kernel
theorem d7_findTelling_87 : zd cX7_findTelling 87 (.putfield 80) 3 90 := by decide +kernel
theorem d7_findTelling_90 : zd cX7_findTelling 90 (.iinc 3 1) 3 93 := by decide +kernel
theorem d7_findTelling_93 : zj cX7_findTelling 93 (.goto (-58)) (-58) 96 35 := by decide +kernel
theorem d7_findTelling_96 : zd cX7_findTelling 96 (.iinc 2 1) 3 99 := by decide +kernel
theorem d7_findTelling_99 : zj cX7_findTelling 99 (.goto (-74)) (-74) 102 25 := by decide +kernel
theorem d7_findTelling_102 : zd cX7_findTelling 102 (.return_) 1 103 := by decide +kernel
set_option maxHeartbeats 4000000 in
set_option maxRecDepth 20000 in
theorem c7_findTelling (l : Launch) (D : zDt) (Sh : zSh) (top : Nat) (hO : zOK Sh) (o_ : Nat) (v_wiring : Nat) (μ : zM) (μ_ : zM) (ho : (Sh o_).1 = 14) (h_wiring : (Sh v_wiring).1 = 17) (h : f7_findTelling o_ v_wiring μ = some μ_) : zMet l D zK1 yX7_findTelling cX7_findTelling 5 none (zrm 2 46) [.ref o_, .ref v_wiring] Sh top μ none Sh top μ_ 0 0 := by
  refine zMet_of (by decide) (Nat.le_of_ble_eq_true rfl) fun X hX1 hX2 fx fin => ?_
  subst hX1; subst hX2
  replace fx : zFix X cX7_findTelling RX7 (zrm 2 46) 5 := fx
  show zZ zK1 X (zT0 Sh top) μ 0 [(0, .ref o_), (1, .ref v_wiring)] []
  unfold f7_findTelling at h
  refine z_aload_n fx (k := 0) (i := 0) rfl rfl d7_findTelling_0 ?_
  refine z_iconst fx (v := (-1)) icm1 d7_findTelling_1 ?_
  obtain ⟨μ1, e1, h⟩ := zinv h
  refine z_putI fx (ci := 7) 6 ho lf7_74 fp7_6 e1 d7_findTelling_2 ?_
  refine z_aload_n fx (k := 0) (i := 0) rfl rfl d7_findTelling_5 ?_
  refine z_iconst fx (v := (-1)) icm1 d7_findTelling_6 ?_
  obtain ⟨μ2, e2, h⟩ := zinv h
  refine z_putI fx (ci := 7) 7 ho lf7_77 fp7_7 e2 d7_findTelling_7 ?_
  refine z_aload_n fx (k := 0) (i := 0) rfl rfl d7_findTelling_10 ?_
  refine z_iconst fx (v := (-1)) icm1 d7_findTelling_11 ?_
  obtain ⟨μ3, e3, h⟩ := zinv h
  refine z_putI fx (ci := 7) 8 ho lf7_80 fp7_8 e3 d7_findTelling_12 ?_
  refine z_aload_n fx (k := 0) (i := 0) rfl rfl d7_findTelling_15 ?_
  refine z_getI fx 7 5 705 ho lf7_28 ⟨fk7_5, rfl⟩ d7_findTelling_16 ?_
  refine z_if_ne fx d7_findTelling_19 (fun c4 => ?_) (fun c4 => ?_)
  · replace h := zif_f c4 h
    refine z_iconst fx (v := 0) ic0 d7_findTelling_23 ?_
    refine z_istore_n fx (k := 2) (i := 2) rfl rfl (lv' := [(0, .ref o_), (1, .ref v_wiring), (2, .int 0)]) rfl rfl d7_findTelling_24 ?_
    obtain ⟨v_b_6, μ7, e30, h⟩ := zinv2 h
    have kx8 : zZ zK1 X (zT0 Sh top) μ7 102 [(0, .ref o_), (1, .ref v_wiring), (2, .int v_b_6)] [] := by
      refine z_take 2 (lv' := [(0, .ref o_), (1, .ref v_wiring)]) rfl ?_
      cases h
      exact z_return fx fin d7_findTelling_102
    clear h
    have klr7 : ∀ (n : Nat) (v_b_4 : Int32) (μ5 : zM), zloop (fun s => f7_findTelling_L1 o_ v_wiring s.1 s.2) n (v_b_4, μ5) = some (v_b_6, μ7) → zZ zK1 X (zT0 Sh top) μ5 25 [(0, .ref o_), (1, .ref v_wiring), (2, .int v_b_4)] [] := by
      intro n
      induction n with
      | zero => intro v_b_4 μ5 hl6; cases hl6
      | succ n ih9 =>
        intro v_b_4 μ5 hl6
        obtain ⟨y, e5, hl6⟩ := zloop_inv hl6
        replace e5 : f7_findTelling_L1 o_ v_wiring v_b_4 μ5 = some y := e5
        unfold f7_findTelling_L1 at e5
        refine z_iload_n fx (k := 2) (i := 2) rfl rfl d7_findTelling_25 ?_
        refine z_aload_n fx (k := 1) (i := 1) rfl rfl d7_findTelling_26 ?_
        refine z_getI fx 10 15 1015 h_wiring lf7_83 ⟨fk10_15, rfl⟩ d7_findTelling_27 ?_
        refine z_icmp_ge fx d7_findTelling_30 (fun c10 => ?_) (fun c10 => ?_)
        · replace e5 := zif_f c10 e5
          cases e5
          cases hl6
          exact kx8
        · replace e5 := zif_t c10 e5
          refine z_iconst fx (v := 0) ic0 d7_findTelling_33 ?_
          refine z_istore_n fx (k := 3) (i := 3) rfl rfl (lv' := [(0, .ref o_), (1, .ref v_wiring), (2, .int v_b_4), (3, .int 0)]) rfl rfl d7_findTelling_34 ?_
          obtain ⟨v_p_10, μ11, e29, e5⟩ := zinv2 e5
          have kx14 : zZ zK1 X (zT0 Sh top) μ11 96 [(0, .ref o_), (1, .ref v_wiring), (2, .int v_b_4), (3, .int v_p_10)] [] := by
            refine z_take 3 (lv' := [(0, .ref o_), (1, .ref v_wiring), (2, .int v_b_4)]) rfl ?_
            obtain ⟨v_b_20, e28, e5⟩ := zinv e5
            replace e28 := Option.some.inj e28
            refine z_iinc fx (i := 2) (x := v_b_4) (v := v_b_20) rfl (by rw [in1]; exact e28) rfl (lv' := [(0, .ref o_), (1, .ref v_wiring), (2, .int v_b_20)]) rfl rfl d7_findTelling_96 ?_
            cases e5
            refine z_goto fx d7_findTelling_99 ?_
            exact ih9 _ _ hl6
          clear e5
          have klr13 : ∀ (n : Nat) (v_p_8 : Int32) (μ9 : zM), zloop (fun s => f7_findTelling_L2 o_ v_wiring v_b_4 s.1 s.2) n (v_p_8, μ9) = some (v_p_10, μ11) → zZ zK1 X (zT0 Sh top) μ9 35 [(0, .ref o_), (1, .ref v_wiring), (2, .int v_b_4), (3, .int v_p_8)] [] := by
            intro n
            induction n with
            | zero => intro v_p_8 μ9 hl12; cases hl12
            | succ n ih15 =>
              intro v_p_8 μ9 hl12
              obtain ⟨y, e11, hl12⟩ := zloop_inv hl12
              replace e11 : f7_findTelling_L2 o_ v_wiring v_b_4 v_p_8 μ9 = some y := e11
              unfold f7_findTelling_L2 at e11
              refine z_iload_n fx (k := 3) (i := 3) rfl rfl d7_findTelling_35 ?_
              refine z_aload_n fx (k := 1) (i := 1) rfl rfl d7_findTelling_36 ?_
              refine z_getO fx 10 4 5 h_wiring lf7_86 fk10_4 d7_findTelling_37 ?_
              refine z_iload_n fx (k := 2) (i := 2) rfl rfl d7_findTelling_40 ?_
              obtain ⟨t12, e16, e11⟩ := zinv e11
              refine z_iald fx (ok10_4 hO h_wiring) e16 d7_findTelling_41 ?_
              refine z_icmp_ge fx d7_findTelling_42 (fun c17 => ?_) (fun c17 => ?_)
              · replace e11 := zif_f c17 e11
                cases e11
                cases hl12
                exact kx14
              · replace e11 := zif_t c17 e11
                refine z_aload_n fx (k := 0) (i := 0) rfl rfl d7_findTelling_45 ?_
                refine z_aload_n fx (k := 1) (i := 1) rfl rfl d7_findTelling_46 ?_
                refine z_iload_n fx (k := 2) (i := 2) rfl rfl d7_findTelling_47 ?_
                refine z_iload_n fx (k := 3) (i := 3) rfl rfl d7_findTelling_48 ?_
                obtain ⟨t13, e18, e11⟩ := zinv e11
                refine z_cVr fx (c10_endOf (zLo X) (zDo X) Sh top hO v_wiring v_b_4 v_p_8 μ9 _ h_wiring e18) mv10_endOf ml7_70 h_wiring rfl rfl rfl rfl d7_findTelling_49 ?_
                obtain ⟨t14, e19, e11⟩ := zinv e11
                refine z_cVr fx (c7_countLeft (zLo X) (zDo X) Sh top hO o_ t13 μ9 _ ho e19) mv7_countLeft ml7_88 ho rfl rfl rfl rfl d7_findTelling_52 ?_
                refine z_istore fx (i := 4) rfl (lv' := [(0, .ref o_), (1, .ref v_wiring), (2, .int v_b_4), (3, .int v_p_8), (4, .int t14)]) rfl rfl d7_findTelling_55 ?_
                have kt20 : ((ceq (gF μ9 708 o_) (-1)) || (clt t14 (gF μ9 708 o_))) = true → zZ zK1 X (zT0 Sh top) μ9 74 [(0, .ref o_), (1, .ref v_wiring), (2, .int v_b_4), (3, .int v_p_8), (4, .int t14)] [] := by
                  intro hc
                  replace e11 := zif_t hc e11
                  refine z_aload_n fx (k := 0) (i := 0) rfl rfl d7_findTelling_74 ?_
                  refine z_iload_n fx (k := 2) (i := 2) rfl rfl d7_findTelling_75 ?_
                  obtain ⟨μ15, e21, e11⟩ := zinv e11
                  refine z_putI fx (ci := 7) 6 ho lf7_74 fp7_6 e21 d7_findTelling_76 ?_
                  refine z_aload_n fx (k := 0) (i := 0) rfl rfl d7_findTelling_79 ?_
                  refine z_iload_n fx (k := 3) (i := 3) rfl rfl d7_findTelling_80 ?_
                  obtain ⟨μ16, e22, e11⟩ := zinv e11
                  refine z_putI fx (ci := 7) 7 ho lf7_77 fp7_7 e22 d7_findTelling_81 ?_
                  refine z_aload_n fx (k := 0) (i := 0) rfl rfl d7_findTelling_84 ?_
                  refine z_iload fx (i := 4) rfl d7_findTelling_85 ?_
                  obtain ⟨μ17, e23, e11⟩ := zinv e11
                  refine z_putI fx (ci := 7) 8 ho lf7_80 fp7_8 e23 d7_findTelling_87 ?_
                  refine z_take 4 (lv' := [(0, .ref o_), (1, .ref v_wiring), (2, .int v_b_4), (3, .int v_p_8)]) rfl ?_
                  obtain ⟨v_p_18, e24, e11⟩ := zinv e11
                  replace e24 := Option.some.inj e24
                  refine z_iinc fx (i := 3) (x := v_p_8) (v := v_p_18) rfl (by rw [in1]; exact e24) rfl (lv' := [(0, .ref o_), (1, .ref v_wiring), (2, .int v_b_4), (3, .int v_p_18)]) rfl rfl d7_findTelling_90 ?_
                  cases e11
                  refine z_goto fx d7_findTelling_93 ?_
                  exact ih15 _ _ hl12
                have kf20 : ((ceq (gF μ9 708 o_) (-1)) || (clt t14 (gF μ9 708 o_))) = false → zZ zK1 X (zT0 Sh top) μ9 90 [(0, .ref o_), (1, .ref v_wiring), (2, .int v_b_4), (3, .int v_p_8), (4, .int t14)] [] := by
                  intro hc
                  replace e11 := zif_f hc e11
                  refine z_take 4 (lv' := [(0, .ref o_), (1, .ref v_wiring), (2, .int v_b_4), (3, .int v_p_8)]) rfl ?_
                  obtain ⟨v_p_19, e25, e11⟩ := zinv e11
                  replace e25 := Option.some.inj e25
                  refine z_iinc fx (i := 3) (x := v_p_8) (v := v_p_19) rfl (by rw [in1]; exact e25) rfl (lv' := [(0, .ref o_), (1, .ref v_wiring), (2, .int v_b_4), (3, .int v_p_19)]) rfl rfl d7_findTelling_90 ?_
                  cases e11
                  refine z_goto fx d7_findTelling_93 ?_
                  exact ih15 _ _ hl12
                clear e11
                refine z_aload_n fx (k := 0) (i := 0) rfl rfl d7_findTelling_57 ?_
                refine z_getI fx 7 8 708 ho lf7_80 ⟨fk7_8, rfl⟩ d7_findTelling_58 ?_
                refine z_iconst fx (v := (-1)) icm1 d7_findTelling_61 ?_
                refine z_icmp_eq fx d7_findTelling_62 (fun c26 => ?_) (fun c26 => ?_)
                · exact kt20 (by simp [c26])
                · refine z_iload fx (i := 4) rfl d7_findTelling_65 ?_
                  refine z_aload_n fx (k := 0) (i := 0) rfl rfl d7_findTelling_67 ?_
                  refine z_getI fx 7 8 708 ho lf7_80 ⟨fk7_8, rfl⟩ d7_findTelling_68 ?_
                  refine z_icmp_ge fx d7_findTelling_71 (fun c27 => ?_) (fun c27 => ?_)
                  · exact kf20 (by simp [c26, c27])
                  · exact kt20 (by simp [c26, c27])
          exact klr13 _ _ _ e29
    exact klr7 _ _ _ e30
  · replace h := zif_t c4 h
    cases h
    exact z_return fx fin d7_findTelling_22
theorem d11_tells_0 : zd cX11_tells 0 (.aload_n 0) 1 1 := by decide +kernel
theorem d11_tells_1 : zd cX11_tells 1 (.getfield 56) 3 4 := by decide +kernel
theorem d11_tells_4 : zd cX11_tells 4 (.getfield 300) 3 7 := by decide +kernel
theorem d11_tells_7 : zj cX11_tells 7 (.ifCond .eq 12) 12 10 19 := by decide +kernel
theorem d11_tells_10 : zd cX11_tells 10 (.iload_n 1) 1 11 := by decide +kernel
theorem d11_tells_11 : zj cX11_tells 11 (.ifCond .lt 8) 8 14 19 := by decide +kernel
theorem d11_tells_14 : zd cX11_tells 14 (.iload_n 1) 1 15 := by decide +kernel
theorem d11_tells_15 : zd cX11_tells 15 (.iconst 2) 1 16 := by decide +kernel
theorem d11_tells_16 : zj cX11_tells 16 (.if_icmp .le 5) 5 19 21 := by decide +kernel
theorem d11_tells_19 : zd cX11_tells 19 (.iconst (-1)) 1 20 := by decide +kernel
theorem d11_tells_20 : zd cX11_tells 20 (.ireturn) 1 21 := by decide +kernel
theorem d11_tells_21 : zd cX11_tells 21 (.aload_n 0) 1 22 := by decide +kernel
theorem d11_tells_22 : zd cX11_tells 22 (.getfield 43) 3 25 := by decide +kernel
theorem d11_tells_25 : zd cX11_tells 25 (.aload_n 0) 1 26 := by decide +kernel
theorem d11_tells_26 : zd cX11_tells 26 (.getfield 75) 3 29 := by decide +kernel
theorem d11_tells_29 : zd cX11_tells 29 (.aload_n 0) 1 30 := by decide +kernel
theorem d11_tells_30 : zd cX11_tells 30 (.getfield 79) 3 33 := by decide +kernel
theorem d11_tells_33 : zd cX11_tells 33 (.invokevirtual 352) 3 36 := by decide +kernel
theorem d11_tells_36 : zd cX11_tells 36 (.aload_n 0) 1 37 := by decide +kernel
theorem d11_tells_37 : zd cX11_tells 37 (.getfield 43) 3 40 := by decide +kernel
theorem d11_tells_40 : zd cX11_tells 40 (.aload_n 0) 1 41 := by decide +kernel
theorem d11_tells_41 : zd cX11_tells 41 (.getfield 56) 3 44 := by decide +kernel
theorem d11_tells_44 : zd cX11_tells 44 (.invokevirtual 362) 3 47 := by decide +kernel
theorem d11_tells_47 : zd cX11_tells 47 (.iload_n 1) 1 48 := by decide +kernel
theorem d11_tells_48 : decode cX11_tells 48 = .ok (.lookupswitch 44 #[(0, 28), (1, 36)], 28) := by decide +kernel
theorem d11_tells_76 : zd cX11_tells 76 (.aload_n 0) 1 77 := by decide +kernel
theorem d11_tells_77 : zd cX11_tells 77 (.getfield 43) 3 80 := by decide +kernel
theorem d11_tells_80 : zd cX11_tells 80 (.getfield 365) 3 83 := by decide +kernel
theorem d11_tells_83 : zd cX11_tells 83 (.ireturn) 1 84 := by decide +kernel
theorem d11_tells_84 : zd cX11_tells 84 (.aload_n 0) 1 85 := by decide +kernel
theorem d11_tells_85 : zd cX11_tells 85 (.getfield 43) 3 88 := by decide +kernel
theorem d11_tells_88 : zd cX11_tells 88 (.getfield 368) 3 91 := by decide +kernel
theorem d11_tells_91 : zd cX11_tells 91 (.ireturn) 1 92 := by decide +kernel
theorem d11_tells_92 : zd cX11_tells 92 (.aload_n 0) 1 93 := by decide +kernel
theorem d11_tells_93 : zd cX11_tells 93 (.getfield 43) 3 96 := by decide +kernel
theorem d11_tells_96 : zd cX11_tells 96 (.getfield 371) 3 99 := by decide +kernel
theorem d11_tells_99 : zd cX11_tells 99 (.ireturn) 1 100 := by decide +kernel
set_option maxHeartbeats 4000000 in
set_option maxRecDepth 20000 in
theorem c11_tells (l : Launch) (D : zDt) (Sh : zSh) (top : Nat) (hO : zOK Sh) (o_ : Nat) (v_what : Int32) (μ : zM) (r_ : Int32) (μ_ : zM) (ho : (Sh o_).1 = 18) (h : f11_tells o_ v_what μ = some (r_, μ_)) : zMet l D zK1 yX11_tells cX11_tells 2 (some .int) (zrm 7 168) [.ref o_, .int v_what] Sh top μ (some (.int r_)) Sh top μ_ 0 0 := by
  refine zMet_of (by decide) (Nat.le_of_ble_eq_true rfl) fun X hX1 hX2 fx fin => ?_
  subst hX1; subst hX2
  replace fx : zFix X cX11_tells RX11 (zrm 7 168) 2 := fx
  show zZ zK1 X (zT0 Sh top) μ 0 [(0, .ref o_), (1, .int v_what)] []
  unfold f11_tells at h
  obtain ⟨b1, e2, h⟩ := zinv h
  have kt1 : b1 = true → zZ zK1 X (zT0 Sh top) μ 19 [(0, .ref o_), (1, .int v_what)] [] := by
    intro hc
    replace h := zif_t hc h
    refine z_iconst fx (v := (-1)) icm1 d11_tells_19 ?_
    cases h
    exact z_ireturn fx fin d11_tells_20
  have kf1 : b1 = false → zZ zK1 X (zT0 Sh top) μ 21 [(0, .ref o_), (1, .int v_what)] [] := by
    intro hc
    replace h := zif_f hc h
    refine z_aload_n fx (k := 0) (i := 0) rfl rfl d11_tells_21 ?_
    refine z_getO fx 11 8 17 ho lf11_43 fk11_8 d11_tells_22 ?_
    refine z_aload_n fx (k := 0) (i := 0) rfl rfl d11_tells_25 ?_
    refine z_getO fx 11 3 51 ho lf11_75 fk11_3 d11_tells_26 ?_
    refine z_aload_n fx (k := 0) (i := 0) rfl rfl d11_tells_29 ?_
    refine z_getO fx 11 2 312 ho lf11_79 fk11_2 d11_tells_30 ?_
    obtain ⟨μ2, e3, h⟩ := zinv h
    refine z_cVv fx (c7_findSuspects (zLo X) (zDo X) Sh top hO (o_ + 17) (o_ + 51) (o_ + 312) μ _ (ok11_8 hO ho) (ok11_3 hO ho) (ok11_2 hO ho) e3) mv7_findSuspects ml11_352 (ok11_8 hO ho) rfl rfl rfl rfl d11_tells_33 ?_
    refine z_aload_n fx (k := 0) (i := 0) rfl rfl d11_tells_36 ?_
    refine z_getO fx 11 8 17 ho lf11_43 fk11_8 d11_tells_37 ?_
    refine z_aload_n fx (k := 0) (i := 0) rfl rfl d11_tells_40 ?_
    obtain ⟨w3, e4, h⟩ := zinv h
    refine z_getR fx 11 11 1111 17 ho lf11_56 ⟨fk11_11, rfl⟩ e4 d11_tells_41 (fun tw3 => ?_)
    obtain ⟨μ4, e5, h⟩ := zinv h
    refine z_cVv fx (c7_findTelling (zLo X) (zDo X) Sh top hO (o_ + 17) w3 μ2 _ (ok11_8 hO ho) tw3 e5) mv7_findTelling ml11_362 (ok11_8 hO ho) rfl rfl rfl rfl d11_tells_44 ?_
    refine z_iload_n fx (k := 1) (i := 1) rfl rfl d11_tells_47 ?_
    cases c6 : ceq v_what 0 with
    | true =>
      replace h := zif_t c6 h
      refine z_lookup fx d11_tells_48 (off := 28) (tgt := 76) (by rw [ceq_of c6]; decide) (by decide) ?_
      refine z_aload_n fx (k := 0) (i := 0) rfl rfl d11_tells_76 ?_
      refine z_getO fx 11 8 17 ho lf11_43 fk11_8 d11_tells_77 ?_
      refine z_getI fx 7 6 706 (ok11_8 hO ho) lf11_365 ⟨fk7_6, rfl⟩ d11_tells_80 ?_
      cases h
      exact z_ireturn fx fin d11_tells_83
    | false =>
    replace h := zif_f c6 h
    cases c7 : ceq v_what 1 with
    | true =>
      replace h := zif_t c7 h
      refine z_lookup fx d11_tells_48 (off := 36) (tgt := 84) (by rw [ceq_of c7]; decide) (by decide) ?_
      refine z_aload_n fx (k := 0) (i := 0) rfl rfl d11_tells_84 ?_
      refine z_getO fx 11 8 17 ho lf11_43 fk11_8 d11_tells_85 ?_
      refine z_getI fx 7 7 707 (ok11_8 hO ho) lf11_368 ⟨fk7_7, rfl⟩ d11_tells_88 ?_
      cases h
      exact z_ireturn fx fin d11_tells_91
    | false =>
    replace h := zif_f c7 h
    have hn0 := zne c6 (k := 0) (by decide)
    have hn1 := zne c7 (k := 1) (by decide)
    refine z_lookup fx d11_tells_48 (off := 44) (tgt := 92) ⟨by simp [Op.lookupswitch.offset, hn0, Ne.symm hn0, hn1, Ne.symm hn1], by decide⟩ (by decide) ?_
    refine z_aload_n fx (k := 0) (i := 0) rfl rfl d11_tells_92 ?_
    refine z_getO fx 11 8 17 ho lf11_43 fk11_8 d11_tells_93 ?_
    refine z_getI fx 7 8 708 (ok11_8 hO ho) lf11_371 ⟨fk7_8, rfl⟩ d11_tells_96 ?_
    cases h
    exact z_ireturn fx fin d11_tells_99
  clear h
  obtain ⟨b5, e8, e2⟩ := zinv e2
  have kf9 : b5 = false → zZ zK1 X (zT0 Sh top) μ 14 [(0, .ref o_), (1, .int v_what)] [] := by
    intro hc
    replace e2 := zif_f hc e2
    refine z_iload_n fx (k := 1) (i := 1) rfl rfl d11_tells_14 ?_
    refine z_iconst fx (v := 2) ic2 d11_tells_15 ?_
    cases e2
    refine z_icmp_le fx d11_tells_16 (fun c10 => ?_) (fun c10 => ?_)
    · exact kf1 c10
    · exact kt1 c10
  have kt9 : b5 = true → zZ zK1 X (zT0 Sh top) μ 19 [(0, .ref o_), (1, .int v_what)] [] := by
    intro hc
    replace e2 := zif_t hc e2
    cases e2
    exact kt1 rfl
  clear e2
  obtain ⟨b6, e11, e8⟩ := zinv e8
  have kf12 : b6 = false → zZ zK1 X (zT0 Sh top) μ 10 [(0, .ref o_), (1, .int v_what)] [] := by
    intro hc
    replace e8 := zif_f hc e8
    refine z_iload_n fx (k := 1) (i := 1) rfl rfl d11_tells_10 ?_
    cases e8
    refine z_if_lt fx d11_tells_11 (fun c13 => ?_) (fun c13 => ?_)
    · exact kt9 c13
    · exact kf9 c13
  have kt12 : b6 = true → zZ zK1 X (zT0 Sh top) μ 19 [(0, .ref o_), (1, .int v_what)] [] := by
    intro hc
    replace e8 := zif_t hc e8
    cases e8
    exact kt9 rfl
  clear e8
  refine z_aload_n fx (k := 0) (i := 0) rfl rfl d11_tells_0 ?_
  obtain ⟨w7, e14, e11⟩ := zinv e11
  refine z_getR fx 11 11 1111 17 ho lf11_56 ⟨fk11_11, rfl⟩ e14 d11_tells_1 (fun tw7 => ?_)
  refine z_getB fx 10 12 1012 tw7 lf11_300 ⟨fk10_12, rfl⟩ d11_tells_4 ?_
  cases e11
  refine z_ifb_eq fx d11_tells_7 (fun c15 => ?_) (fun c15 => ?_)
  · exact kt12 (by rw [c15]; rfl)
  · exact kf12 (by rw [c15]; rfl)
theorem d1_findCentre_0 : zd cX1_findCentre 0 (.aload_n 0) 1 1 := by decide +kernel
theorem d1_findCentre_1 : zd cX1_findCentre 1 (.aload_n 1) 1 2 := by decide +kernel
theorem d1_findCentre_2 : zd cX1_findCentre 2 (.invokevirtual 37) 3 5 := by decide +kernel
theorem d1_findCentre_5 : zd cX1_findCentre 5 (.aload_n 0) 1 6 := by decide +kernel
theorem d1_findCentre_6 : zd cX1_findCentre 6 (.iconst (-1)) 1 7 := by decide +kernel
theorem d1_findCentre_7 : zd cX1_findCentre 7 (.putfield 154) 3 10 := by decide +kernel
theorem d1_findCentre_10 : zd cX1_findCentre 10 (.aload_n 0) 1 11 := by decide +kernel
theorem d1_findCentre_11 : zd cX1_findCentre 11 (.iconst (-1)) 1 12 := by decide +kernel
theorem d1_findCentre_12 : zd cX1_findCentre 12 (.putfield 157) 3 15 := by decide +kernel
theorem d1_findCentre_15 : zd cX1_findCentre 15 (.aload_n 0) 1 16 := by decide +kernel
theorem d1_findCentre_16 : zd cX1_findCentre 16 (.iconst (-1)) 1 17 := by decide +kernel
theorem d1_findCentre_17 : zd cX1_findCentre 17 (.putfield 160) 3 20 := by decide +kernel
theorem d1_findCentre_20 : zd cX1_findCentre 20 (.iconst 0) 1 21 := by decide +kernel
theorem d1_findCentre_21 : zd cX1_findCentre 21 (.istore_n 2) 1 22 := by decide +kernel
theorem d1_findCentre_22 : zd cX1_findCentre 22 (.iload_n 2) 1 23 := by decide +kernel
theorem d1_findCentre_23 : zd cX1_findCentre 23 (.aload_n 1) 1 24 := by decide +kernel
theorem d1_findCentre_24 : zd cX1_findCentre 24 (.getfield 41) 3 27 := by decide +kernel
theorem d1_findCentre_27 : zd cX1_findCentre 27 (.getfield 47) 3 30 := by decide +kernel
theorem d1_findCentre_30 : zj cX1_findCentre 30 (.if_icmp .ge 137) 137 33 167 := by decide +kernel
theorem d1_findCentre_33 : zd cX1_findCentre 33 (.iconst 0) 1 34 := by decide +kernel
theorem d1_findCentre_34 : zd cX1_findCentre 34 (.istore_n 3) 1 35 := by decide +kernel
theorem d1_findCentre_35 : zd cX1_findCentre 35 (.iconst 0) 1 36 := by decide +kernel
theorem d1_findCentre_36 : zd cX1_findCentre 36 (.istore 4) 2 38 := by decide +kernel
theorem d1_findCentre_38 : zd cX1_findCentre 38 (.iconst 0) 1 39 := by decide +kernel
theorem d1_findCentre_39 : zd cX1_findCentre 39 (.istore 5) 2 41 := by decide +kernel
theorem d1_findCentre_41 : zd cX1_findCentre 41 (.iload 5) 2 43 := by decide +kernel
theorem d1_findCentre_43 : zd cX1_findCentre 43 (.aload_n 1) 1 44 := by decide +kernel
theorem d1_findCentre_44 : zd cX1_findCentre 44 (.getfield 41) 3 47 := by decide +kernel
theorem d1_findCentre_47 : zd cX1_findCentre 47 (.getfield 47) 3 50 := by decide +kernel
theorem d1_findCentre_50 : zj cX1_findCentre 50 (.if_icmp .ge 46) 46 53 96 := by decide +kernel
theorem d1_findCentre_53 : zd cX1_findCentre 53 (.aload_n 0) 1 54 := by decide +kernel
theorem d1_findCentre_54 : zd cX1_findCentre 54 (.getfield 9) 3 57 := by decide +kernel
theorem d1_findCentre_57 : zd cX1_findCentre 57 (.iload_n 2) 1 58 := by decide +kernel
theorem d1_findCentre_58 : zd cX1_findCentre 58 (.bipush 8) 2 60 := by decide +kernel
theorem d1_findCentre_60 : zd cX1_findCentre 60 (.imul) 1 61 := by decide +kernel
theorem d1_findCentre_61 : zd cX1_findCentre 61 (.iload 5) 2 63 := by decide +kernel
theorem d1_findCentre_63 : zd cX1_findCentre 63 (.iadd) 1 64 := by decide +kernel
theorem d1_findCentre_64 : zd cX1_findCentre 64 (.iaload) 1 65 := by decide +kernel
theorem d1_findCentre_65 : zd cX1_findCentre 65 (.ldc 67) 2 67 := by decide +kernel
theorem d1_findCentre_67 : zj cX1_findCentre 67 (.if_icmp .ge 23) 23 70 90 := by decide +kernel
theorem d1_findCentre_70 : zd cX1_findCentre 70 (.iinc 3 1) 3 73 := by decide +kernel
theorem d1_findCentre_73 : zd cX1_findCentre 73 (.iload 4) 2 75 := by decide +kernel
theorem d1_findCentre_75 : zd cX1_findCentre 75 (.aload_n 0) 1 76 := by decide +kernel
theorem d1_findCentre_76 : zd cX1_findCentre 76 (.getfield 9) 3 79 := by decide +kernel
theorem d1_findCentre_79 : zd cX1_findCentre 79 (.iload_n 2) 1 80 := by decide +kernel
theorem d1_findCentre_80 : zd cX1_findCentre 80 (.bipush 8) 2 82 := by decide +kernel
theorem d1_findCentre_82 : zd cX1_findCentre 82 (.imul) 1 83 := by decide +kernel
theorem d1_findCentre_83 : zd cX1_findCentre 83 (.iload 5) 2 85 := by decide +kernel
theorem d1_findCentre_85 : zd cX1_findCentre 85 (.iadd) 1 86 := by decide +kernel
theorem d1_findCentre_86 : zd cX1_findCentre 86 (.iaload) 1 87 := by decide +kernel
theorem d1_findCentre_87 : zd cX1_findCentre 87 (.iadd) 1 88 := by decide +kernel
theorem d1_findCentre_88 : zd cX1_findCentre 88 (.istore 4) 2 90 := by decide +kernel
theorem d1_findCentre_90 : zd cX1_findCentre 90 (.iinc 5 1) 3 93 := by decide +kernel
theorem d1_findCentre_93 : zj cX1_findCentre 93 (.goto (-52)) (-52) 96 41 := by decide +kernel
theorem d1_findCentre_96 : zd cX1_findCentre 96 (.iload_n 3) 1 97 := by decide +kernel
theorem d1_findCentre_97 : zd cX1_findCentre 97 (.aload_n 0) 1 98 := by decide +kernel
theorem d1_findCentre_98 : zd cX1_findCentre 98 (.getfield 157) 3 101 := by decide +kernel
theorem d1_findCentre_101 : zj cX1_findCentre 101 (.if_icmp .gt 20) 20 104 121 := by decide +kernel
theorem d1_findCentre_104 : zd cX1_findCentre 104 (.iload_n 3) 1 105 := by decide +kernel
theorem d1_findCentre_105 : zd cX1_findCentre 105 (.aload_n 0) 1 106 := by decide +kernel
theorem d1_findCentre_106 : zd cX1_findCentre 106 (.getfield 157) 3 109 := by decide +kernel
theorem d1_findCentre_109 : zj cX1_findCentre 109 (.if_icmp .ne 16) 16 112 125 := by decide +kernel
theorem d1_findCentre_112 : zd cX1_findCentre 112 (.iload 4) 2 114 := by decide +kernel
theorem d1_findCentre_114 : zd cX1_findCentre 114 (.aload_n 0) 1 115 := by decide +kernel
theorem d1_findCentre_115 : zd cX1_findCentre 115 (.getfield 160) 3 118 := by decide +kernel
theorem d1_findCentre_118 : zj cX1_findCentre 118 (.if_icmp .ge 7) 7 121 125 := by decide +kernel
theorem d1_findCentre_121 : zd cX1_findCentre 121 (.iconst 1) 1 122 := by decide +kernel
theorem d1_findCentre_122 : zj cX1_findCentre 122 (.goto 4) 4 125 126 := by decide +kernel
theorem d1_findCentre_125 : zd cX1_findCentre 125 (.iconst 0) 1 126 := by decide +kernel
theorem d1_findCentre_126 : zd cX1_findCentre 126 (.istore 5) 2 128 := by decide +kernel
theorem d1_findCentre_128 : zd cX1_findCentre 128 (.aload_n 1) 1 129 := by decide +kernel
theorem d1_findCentre_129 : zd cX1_findCentre 129 (.getfield 74) 3 132 := by decide +kernel
theorem d1_findCentre_132 : zd cX1_findCentre 132 (.iload_n 2) 1 133 := by decide +kernel
theorem d1_findCentre_133 : zd cX1_findCentre 133 (.aaload) 1 134 := by decide +kernel
theorem d1_findCentre_134 : zd cX1_findCentre 134 (.getfield 77) 3 137 := by decide +kernel
theorem d1_findCentre_137 : zj cX1_findCentre 137 (.ifCond .eq 24) 24 140 161 := by decide +kernel
theorem d1_findCentre_140 : zd cX1_findCentre 140 (.iload 5) 2 142 := by decide +kernel
theorem d1_findCentre_142 : zj cX1_findCentre 142 (.ifCond .eq 19) 19 145 161 := by decide +kernel
theorem d1_findCentre_145 : zd cX1_findCentre 145 (.aload_n 0) 1 146 := by decide +kernel
theorem d1_findCentre_146 : zd cX1_findCentre 146 (.iload_n 2) 1 147 := by decide +kernel
theorem d1_findCentre_147 : zd cX1_findCentre 147 (.putfield 154) 3 150 := by decide +kernel
theorem d1_findCentre_150 : zd cX1_findCentre 150 (.aload_n 0) 1 151 := by decide +kernel
theorem d1_findCentre_151 : zd cX1_findCentre 151 (.iload_n 3) 1 152 := by decide +kernel
theorem d1_findCentre_152 : zd cX1_findCentre 152 (.putfield 157) 3 155 := by decide +kernel
theorem d1_findCentre_155 : zd cX1_findCentre 155 (.aload_n 0) 1 156 := by decide +kernel
theorem d1_findCentre_156 : zd cX1_findCentre 156 (.iload 4) 2 158 := by decide +kernel
theorem d1_findCentre_158 : zd cX1_findCentre 158 (.putfield 160) 3 161 := by decide +kernel
theorem d1_findCentre_161 : zd cX1_findCentre 161 (.iinc 2 1) 3 164 := by decide +kernel
theorem d1_findCentre_164 : zj cX1_findCentre 164 (.goto (-142)) (-142) 167 22 := by decide +kernel
theorem d1_findCentre_167 : zd cX1_findCentre 167 (.return_) 1 168 := by decide +kernel
set_option maxHeartbeats 4000000 in
set_option maxRecDepth 20000 in
theorem c1_findCentre (l : Launch) (D : zDt) (Sh : zSh) (top : Nat) (hO : zOK Sh) (o_ : Nat) (v_state : Nat) (μ : zM) (μ_ : zM) (ho : (Sh o_).1 = 8) (h_state : (Sh v_state).1 = 15) (h : f1_findCentre o_ v_state μ = some μ_) : zMet l D zK1 yX1_findCentre cX1_findCentre 6 none (zrm 3 66) [.ref o_, .ref v_state] Sh top μ none Sh top μ_ 0 0 := by
  refine zMet_of (by decide) (Nat.le_of_ble_eq_true rfl) fun X hX1 hX2 fx fin => ?_
  subst hX1; subst hX2
  replace fx : zFix X cX1_findCentre RX1 (zrm 3 66) 6 := fx
  show zZ zK1 X (zT0 Sh top) μ 0 [(0, .ref o_), (1, .ref v_state)] []
  unfold f1_findCentre at h
  refine z_aload_n fx (k := 0) (i := 0) rfl rfl d1_findCentre_0 ?_
  refine z_aload_n fx (k := 1) (i := 1) rfl rfl d1_findCentre_1 ?_
  obtain ⟨μ1, e1, h⟩ := zinv h
  refine z_cVv fx (c1_findWays (zLo X) (zDo X) Sh top hO o_ v_state μ _ ho h_state e1) mv1_findWays ml1_37 ho rfl rfl rfl rfl d1_findCentre_2 ?_
  refine z_aload_n fx (k := 0) (i := 0) rfl rfl d1_findCentre_5 ?_
  refine z_iconst fx (v := (-1)) icm1 d1_findCentre_6 ?_
  obtain ⟨μ2, e2, h⟩ := zinv h
  refine z_putI fx (ci := 1) 7 ho lf1_154 fp1_7 e2 d1_findCentre_7 ?_
  refine z_aload_n fx (k := 0) (i := 0) rfl rfl d1_findCentre_10 ?_
  refine z_iconst fx (v := (-1)) icm1 d1_findCentre_11 ?_
  obtain ⟨μ3, e3, h⟩ := zinv h
  refine z_putI fx (ci := 1) 8 ho lf1_157 fp1_8 e3 d1_findCentre_12 ?_
  refine z_aload_n fx (k := 0) (i := 0) rfl rfl d1_findCentre_15 ?_
  refine z_iconst fx (v := (-1)) icm1 d1_findCentre_16 ?_
  obtain ⟨μ4, e4, h⟩ := zinv h
  refine z_putI fx (ci := 1) 9 ho lf1_160 fp1_9 e4 d1_findCentre_17 ?_
  refine z_iconst fx (v := 0) ic0 d1_findCentre_20 ?_
  refine z_istore_n fx (k := 2) (i := 2) rfl rfl (lv' := [(0, .ref o_), (1, .ref v_state), (2, .int 0)]) rfl rfl d1_findCentre_21 ?_
  obtain ⟨v_b_7, μ8, e44, h⟩ := zinv2 h
  have kx8 : zZ zK1 X (zT0 Sh top) μ8 167 [(0, .ref o_), (1, .ref v_state), (2, .int v_b_7)] [] := by
    refine z_take 2 (lv' := [(0, .ref o_), (1, .ref v_state)]) rfl ?_
    cases h
    exact z_return fx fin d1_findCentre_167
  clear h
  have klr7 : ∀ (n : Nat) (v_b_5 : Int32) (μ6 : zM), zloop (fun s => f1_findCentre_L1 o_ v_state s.1 s.2) n (v_b_5, μ6) = some (v_b_7, μ8) → zZ zK1 X (zT0 Sh top) μ6 22 [(0, .ref o_), (1, .ref v_state), (2, .int v_b_5)] [] := by
    intro n
    induction n with
    | zero => intro v_b_5 μ6 hl6; cases hl6
    | succ n ih9 =>
      intro v_b_5 μ6 hl6
      obtain ⟨y, e5, hl6⟩ := zloop_inv hl6
      replace e5 : f1_findCentre_L1 o_ v_state v_b_5 μ6 = some y := e5
      unfold f1_findCentre_L1 at e5
      refine z_iload_n fx (k := 2) (i := 2) rfl rfl d1_findCentre_22 ?_
      refine z_aload_n fx (k := 1) (i := 1) rfl rfl d1_findCentre_23 ?_
      obtain ⟨w9, e10, e5⟩ := zinv e5
      refine z_getR fx 8 12 812 17 h_state lf1_41 ⟨fk8_12, rfl⟩ e10 d1_findCentre_24 (fun tw9 => ?_)
      refine z_getI fx 10 15 1015 tw9 lf1_47 ⟨fk10_15, rfl⟩ d1_findCentre_27 ?_
      refine z_icmp_ge fx d1_findCentre_30 (fun c11 => ?_) (fun c11 => ?_)
      · replace e5 := zif_f c11 e5
        cases e5
        cases hl6
        exact kx8
      · replace e5 := zif_t c11 e5
        refine z_iconst fx (v := 0) ic0 d1_findCentre_33 ?_
        refine z_istore_n fx (k := 3) (i := 3) rfl rfl (lv' := [(0, .ref o_), (1, .ref v_state), (2, .int v_b_5), (3, .int 0)]) rfl rfl d1_findCentre_34 ?_
        refine z_iconst fx (v := 0) ic0 d1_findCentre_35 ?_
        refine z_istore fx (i := 4) rfl (lv' := [(0, .ref o_), (1, .ref v_state), (2, .int v_b_5), (3, .int 0), (4, .int 0)]) rfl rfl d1_findCentre_36 ?_
        refine z_iconst fx (v := 0) ic0 d1_findCentre_38 ?_
        refine z_istore fx (i := 5) rfl (lv' := [(0, .ref o_), (1, .ref v_state), (2, .int v_b_5), (3, .int 0), (4, .int 0), (5, .int 0)]) rfl rfl d1_findCentre_39 ?_
        obtain ⟨v_joined_13, v_sum_14, v_c_15, e43, e5⟩ := zinv3 e5
        have kx15 : zZ zK1 X (zT0 Sh top) μ6 96 [(0, .ref o_), (1, .ref v_state), (2, .int v_b_5), (3, .int v_joined_13), (4, .int v_sum_14), (5, .int v_c_15)] [] := by
          refine z_take 5 (lv' := [(0, .ref o_), (1, .ref v_state), (2, .int v_b_5), (3, .int v_joined_13), (4, .int v_sum_14)]) rfl ?_
          obtain ⟨b23, e26, e5⟩ := zinv e5
          replace e26 := Option.some.inj e26
          have k27 : zZ zK1 X (zT0 Sh top) μ6 126 [(0, .ref o_), (1, .ref v_state), (2, .int v_b_5), (3, .int v_joined_13), (4, .int v_sum_14)] [.int (bI b23)] := by
            refine z_istore fx (i := 5) rfl (lv' := [(0, .ref o_), (1, .ref v_state), (2, .int v_b_5), (3, .int v_joined_13), (4, .int v_sum_14), (5, .int (bI b23))]) rfl rfl d1_findCentre_126 ?_
            obtain ⟨b24, e32, e5⟩ := zinv e5
            have kt31 : b24 = true → zZ zK1 X (zT0 Sh top) μ6 145 [(0, .ref o_), (1, .ref v_state), (2, .int v_b_5), (3, .int v_joined_13), (4, .int v_sum_14), (5, .int (bI b23))] [] := by
              intro hc
              replace e5 := zif_t hc e5
              refine z_aload_n fx (k := 0) (i := 0) rfl rfl d1_findCentre_145 ?_
              refine z_iload_n fx (k := 2) (i := 2) rfl rfl d1_findCentre_146 ?_
              obtain ⟨μ25, e33, e5⟩ := zinv e5
              refine z_putI fx (ci := 1) 7 ho lf1_154 fp1_7 e33 d1_findCentre_147 ?_
              refine z_aload_n fx (k := 0) (i := 0) rfl rfl d1_findCentre_150 ?_
              refine z_iload_n fx (k := 3) (i := 3) rfl rfl d1_findCentre_151 ?_
              obtain ⟨μ26, e34, e5⟩ := zinv e5
              refine z_putI fx (ci := 1) 8 ho lf1_157 fp1_8 e34 d1_findCentre_152 ?_
              refine z_aload_n fx (k := 0) (i := 0) rfl rfl d1_findCentre_155 ?_
              refine z_iload fx (i := 4) rfl d1_findCentre_156 ?_
              obtain ⟨μ27, e35, e5⟩ := zinv e5
              refine z_putI fx (ci := 1) 9 ho lf1_160 fp1_9 e35 d1_findCentre_158 ?_
              refine z_take 3 (lv' := [(0, .ref o_), (1, .ref v_state), (2, .int v_b_5)]) rfl ?_
              obtain ⟨v_b_28, e36, e5⟩ := zinv e5
              replace e36 := Option.some.inj e36
              refine z_iinc fx (i := 2) (x := v_b_5) (v := v_b_28) rfl (by rw [in1]; exact e36) rfl (lv' := [(0, .ref o_), (1, .ref v_state), (2, .int v_b_28)]) rfl rfl d1_findCentre_161 ?_
              cases e5
              refine z_goto fx d1_findCentre_164 ?_
              exact ih9 _ _ hl6
            have kf31 : b24 = false → zZ zK1 X (zT0 Sh top) μ6 161 [(0, .ref o_), (1, .ref v_state), (2, .int v_b_5), (3, .int v_joined_13), (4, .int v_sum_14), (5, .int (bI b23))] [] := by
              intro hc
              replace e5 := zif_f hc e5
              refine z_take 3 (lv' := [(0, .ref o_), (1, .ref v_state), (2, .int v_b_5)]) rfl ?_
              obtain ⟨v_b_29, e37, e5⟩ := zinv e5
              replace e37 := Option.some.inj e37
              refine z_iinc fx (i := 2) (x := v_b_5) (v := v_b_29) rfl (by rw [in1]; exact e37) rfl (lv' := [(0, .ref o_), (1, .ref v_state), (2, .int v_b_29)]) rfl rfl d1_findCentre_161 ?_
              cases e5
              refine z_goto fx d1_findCentre_164 ?_
              exact ih9 _ _ hl6
            clear e5
            obtain ⟨b30, e38, e32⟩ := zinv e32
            have kt39 : b30 = true → zZ zK1 X (zT0 Sh top) μ6 140 [(0, .ref o_), (1, .ref v_state), (2, .int v_b_5), (3, .int v_joined_13), (4, .int v_sum_14), (5, .int (bI b23))] [] := by
              intro hc
              replace e32 := zif_t hc e32
              refine z_iload fx (i := 5) rfl d1_findCentre_140 ?_
              cases e32
              refine z_ifb_eq fx d1_findCentre_142 (fun c40 => ?_) (fun c40 => ?_)
              · exact kf31 c40
              · exact kt31 c40
            have kf39 : b30 = false → zZ zK1 X (zT0 Sh top) μ6 161 [(0, .ref o_), (1, .ref v_state), (2, .int v_b_5), (3, .int v_joined_13), (4, .int v_sum_14), (5, .int (bI b23))] [] := by
              intro hc
              replace e32 := zif_f hc e32
              cases e32
              exact kf31 rfl
            clear e32
            refine z_aload_n fx (k := 1) (i := 1) rfl rfl d1_findCentre_128 ?_
            refine z_getO fx 8 0 1 h_state lf1_74 fk8_0 d1_findCentre_129 ?_
            refine z_iload_n fx (k := 2) (i := 2) rfl rfl d1_findCentre_132 ?_
            obtain ⟨j31, e41, e38⟩ := zinv e38
            refine z_aald fx 0 (by decide) (ok8_0 hO h_state) e41 (v := .ref (v_state + 13 + 3 * j31)) rfl d1_findCentre_133 ?_
            refine z_getB fx 0 3 3 (okA0 hO (ok8_0 hO h_state) (rI_lt e41)) lf1_77 ⟨fk0_3, rfl⟩ d1_findCentre_134 ?_
            cases e38
            refine z_ifb_eq fx d1_findCentre_137 (fun c42 => ?_) (fun c42 => ?_)
            · exact kf39 c42
            · exact kt39 c42
          refine z_iload_n fx (k := 3) (i := 3) rfl rfl d1_findCentre_96 ?_
          refine z_aload_n fx (k := 0) (i := 0) rfl rfl d1_findCentre_97 ?_
          refine z_getI fx 1 8 108 ho lf1_157 ⟨fk1_8, rfl⟩ d1_findCentre_98 ?_
          refine z_icmp_gt fx d1_findCentre_101 (fun c28 => ?_) (fun c28 => ?_)
          · refine z_iconst fx (v := 1) ic1 d1_findCentre_121 ?_
            refine z_goto fx d1_findCentre_122 ?_
            exact z_top (congrArg Value.int (show 1 = bI b23 by rw [← e26]; simp [c28, bI])) k27
          · refine z_iload_n fx (k := 3) (i := 3) rfl rfl d1_findCentre_104 ?_
            refine z_aload_n fx (k := 0) (i := 0) rfl rfl d1_findCentre_105 ?_
            refine z_getI fx 1 8 108 ho lf1_157 ⟨fk1_8, rfl⟩ d1_findCentre_106 ?_
            refine z_icmp_ne fx d1_findCentre_109 (fun c29 => ?_) (fun c29 => ?_)
            · refine z_iconst fx (v := 0) ic0 d1_findCentre_125 ?_
              exact z_top (congrArg Value.int (show 0 = bI b23 by rw [← e26]; simp [c28, c29, bI])) k27
            · refine z_iload fx (i := 4) rfl d1_findCentre_112 ?_
              refine z_aload_n fx (k := 0) (i := 0) rfl rfl d1_findCentre_114 ?_
              refine z_getI fx 1 9 109 ho lf1_160 ⟨fk1_9, rfl⟩ d1_findCentre_115 ?_
              refine z_icmp_ge fx d1_findCentre_118 (fun c30 => ?_) (fun c30 => ?_)
              · refine z_iconst fx (v := 0) ic0 d1_findCentre_125 ?_
                exact z_top (congrArg Value.int (show 0 = bI b23 by rw [← e26]; simp [c28, c29, c30, bI])) k27
              · refine z_iconst fx (v := 1) ic1 d1_findCentre_121 ?_
                refine z_goto fx d1_findCentre_122 ?_
                exact z_top (congrArg Value.int (show 1 = bI b23 by rw [← e26]; simp [c28, c29, c30, bI])) k27
        clear e5
        have klr14 : ∀ (n : Nat) (v_joined_10 : Int32) (v_sum_11 : Int32) (v_c_12 : Int32), zloop (fun s => f1_findCentre_L2 o_ v_state v_b_5 μ6 s.1 s.2.1 s.2.2) n (v_joined_10, v_sum_11, v_c_12) = some (v_joined_13, v_sum_14, v_c_15) → zZ zK1 X (zT0 Sh top) μ6 41 [(0, .ref o_), (1, .ref v_state), (2, .int v_b_5), (3, .int v_joined_10), (4, .int v_sum_11), (5, .int v_c_12)] [] := by
          intro n
          induction n with
          | zero => intro v_joined_10 v_sum_11 v_c_12 hl13; cases hl13
          | succ n ih16 =>
            intro v_joined_10 v_sum_11 v_c_12 hl13
            obtain ⟨y, e12, hl13⟩ := zloop_inv hl13
            replace e12 : f1_findCentre_L2 o_ v_state v_b_5 μ6 v_joined_10 v_sum_11 v_c_12 = some y := e12
            unfold f1_findCentre_L2 at e12
            refine z_iload fx (i := 5) rfl d1_findCentre_41 ?_
            refine z_aload_n fx (k := 1) (i := 1) rfl rfl d1_findCentre_43 ?_
            obtain ⟨w16, e17, e12⟩ := zinv e12
            refine z_getR fx 8 12 812 17 h_state lf1_41 ⟨fk8_12, rfl⟩ e17 d1_findCentre_44 (fun tw16 => ?_)
            refine z_getI fx 10 15 1015 tw16 lf1_47 ⟨fk10_15, rfl⟩ d1_findCentre_47 ?_
            refine z_icmp_ge fx d1_findCentre_50 (fun c18 => ?_) (fun c18 => ?_)
            · replace e12 := zif_f c18 e12
              cases e12
              cases hl13
              exact kx15
            · replace e12 := zif_t c18 e12
              refine z_aload_n fx (k := 0) (i := 0) rfl rfl d1_findCentre_53 ?_
              refine z_getO fx 1 0 1 ho lf1_9 fk1_0 d1_findCentre_54 ?_
              refine z_iload_n fx (k := 2) (i := 2) rfl rfl d1_findCentre_57 ?_
              refine z_bipush fx (v := 8) bp8 d1_findCentre_58 ?_
              refine z_imul fx d1_findCentre_60 ?_
              refine z_iload fx (i := 5) rfl d1_findCentre_61 ?_
              refine z_iadd fx d1_findCentre_63 ?_
              obtain ⟨t17, e19, e12⟩ := zinv e12
              refine z_iald fx (ok1_0 hO ho) e19 d1_findCentre_64 ?_
              refine z_ldc fx (v := 1000000) kc1_67 d1_findCentre_65 ?_
              refine z_icmp_ge fx d1_findCentre_67 (fun c20 => ?_) (fun c20 => ?_)
              · replace e12 := zif_f c20 e12
                obtain ⟨v_c_18, e21, e12⟩ := zinv e12
                replace e21 := Option.some.inj e21
                refine z_iinc fx (i := 5) (x := v_c_12) (v := v_c_18) rfl (by rw [in1]; exact e21) rfl (lv' := [(0, .ref o_), (1, .ref v_state), (2, .int v_b_5), (3, .int v_joined_10), (4, .int v_sum_11), (5, .int v_c_18)]) rfl rfl d1_findCentre_90 ?_
                cases e12
                refine z_goto fx d1_findCentre_93 ?_
                exact ih16 _ _ _ hl13
              · replace e12 := zif_t c20 e12
                obtain ⟨v_joined_19, e22, e12⟩ := zinv e12
                replace e22 := Option.some.inj e22
                refine z_iinc fx (i := 3) (x := v_joined_10) (v := v_joined_19) rfl (by rw [in1]; exact e22) rfl (lv' := [(0, .ref o_), (1, .ref v_state), (2, .int v_b_5), (3, .int v_joined_19), (4, .int v_sum_11), (5, .int v_c_12)]) rfl rfl d1_findCentre_70 ?_
                refine z_iload fx (i := 4) rfl d1_findCentre_73 ?_
                refine z_aload_n fx (k := 0) (i := 0) rfl rfl d1_findCentre_75 ?_
                refine z_getO fx 1 0 1 ho lf1_9 fk1_0 d1_findCentre_76 ?_
                refine z_iload_n fx (k := 2) (i := 2) rfl rfl d1_findCentre_79 ?_
                refine z_bipush fx (v := 8) bp8 d1_findCentre_80 ?_
                refine z_imul fx d1_findCentre_82 ?_
                refine z_iload fx (i := 5) rfl d1_findCentre_83 ?_
                refine z_iadd fx d1_findCentre_85 ?_
                obtain ⟨t20, e23, e12⟩ := zinv e12
                refine z_iald fx (ok1_0 hO ho) e23 d1_findCentre_86 ?_
                refine z_iadd fx d1_findCentre_87 ?_
                obtain ⟨v_sum_21, e24, e12⟩ := zinv e12
                replace e24 := Option.some.inj e24
                refine z_top (congrArg Value.int e24) ?_
                refine z_istore fx (i := 4) rfl (lv' := [(0, .ref o_), (1, .ref v_state), (2, .int v_b_5), (3, .int v_joined_19), (4, .int v_sum_21), (5, .int v_c_12)]) rfl rfl d1_findCentre_88 ?_
                obtain ⟨v_c_22, e25, e12⟩ := zinv e12
                replace e25 := Option.some.inj e25
                refine z_iinc fx (i := 5) (x := v_c_12) (v := v_c_22) rfl (by rw [in1]; exact e25) rfl (lv' := [(0, .ref o_), (1, .ref v_state), (2, .int v_b_5), (3, .int v_joined_19), (4, .int v_sum_21), (5, .int v_c_22)]) rfl rfl d1_findCentre_90 ?_
                cases e12
                refine z_goto fx d1_findCentre_93 ?_
                exact ih16 _ _ _ hl13
        exact klr14 _ _ _ _ e43
  exact klr7 _ _ _ e44
theorem d11_centre_0 : zd cX11_centre 0 (.aload_n 0) 1 1 := by decide +kernel
theorem d11_centre_1 : zd cX11_centre 1 (.getfield 22) 3 4 := by decide +kernel
theorem d11_centre_4 : zd cX11_centre 4 (.aload_n 0) 1 5 := by decide +kernel
theorem d11_centre_5 : zd cX11_centre 5 (.getfield 75) 3 8 := by decide +kernel
theorem d11_centre_8 : zd cX11_centre 8 (.invokevirtual 374) 3 11 := by decide +kernel
theorem d11_centre_11 : zd cX11_centre 11 (.iload_n 1) 1 12 := by decide +kernel
theorem d11_centre_12 : decode cX11_centre 12 = .ok (.tableswitch 52 0 2 #[28, 36, 44], 28) := by decide +kernel
theorem d11_centre_40 : zd cX11_centre 40 (.aload_n 0) 1 41 := by decide +kernel
theorem d11_centre_41 : zd cX11_centre 41 (.getfield 22) 3 44 := by decide +kernel
theorem d11_centre_44 : zd cX11_centre 44 (.getfield 377) 3 47 := by decide +kernel
theorem d11_centre_47 : zd cX11_centre 47 (.ireturn) 1 48 := by decide +kernel
theorem d11_centre_48 : zd cX11_centre 48 (.aload_n 0) 1 49 := by decide +kernel
theorem d11_centre_49 : zd cX11_centre 49 (.getfield 22) 3 52 := by decide +kernel
theorem d11_centre_52 : zd cX11_centre 52 (.getfield 380) 3 55 := by decide +kernel
theorem d11_centre_55 : zd cX11_centre 55 (.ireturn) 1 56 := by decide +kernel
theorem d11_centre_56 : zd cX11_centre 56 (.aload_n 0) 1 57 := by decide +kernel
theorem d11_centre_57 : zd cX11_centre 57 (.getfield 22) 3 60 := by decide +kernel
theorem d11_centre_60 : zd cX11_centre 60 (.getfield 383) 3 63 := by decide +kernel
theorem d11_centre_63 : zd cX11_centre 63 (.ireturn) 1 64 := by decide +kernel
theorem d11_centre_64 : zd cX11_centre 64 (.iconst (-1)) 1 65 := by decide +kernel
theorem d11_centre_65 : zd cX11_centre 65 (.ireturn) 1 66 := by decide +kernel
set_option maxHeartbeats 4000000 in
set_option maxRecDepth 20000 in
theorem c11_centre (l : Launch) (D : zDt) (Sh : zSh) (top : Nat) (hO : zOK Sh) (o_ : Nat) (v_what : Int32) (μ : zM) (r_ : Int32) (μ_ : zM) (ho : (Sh o_).1 = 18) (h : f11_centre o_ v_what μ = some (r_, μ_)) : zMet l D zK1 yX11_centre cX11_centre 2 (some .int) (zrm 4 91) [.ref o_, .int v_what] Sh top μ (some (.int r_)) Sh top μ_ 0 0 := by
  refine zMet_of (by decide) (Nat.le_of_ble_eq_true rfl) fun X hX1 hX2 fx fin => ?_
  subst hX1; subst hX2
  replace fx : zFix X cX11_centre RX11 (zrm 4 91) 2 := fx
  show zZ zK1 X (zT0 Sh top) μ 0 [(0, .ref o_), (1, .int v_what)] []
  unfold f11_centre at h
  refine z_aload_n fx (k := 0) (i := 0) rfl rfl d11_centre_0 ?_
  refine z_getO fx 11 5 3 ho lf11_22 fk11_5 d11_centre_1 ?_
  refine z_aload_n fx (k := 0) (i := 0) rfl rfl d11_centre_4 ?_
  refine z_getO fx 11 3 51 ho lf11_75 fk11_3 d11_centre_5 ?_
  obtain ⟨μ1, e1, h⟩ := zinv h
  refine z_cVv fx (c1_findCentre (zLo X) (zDo X) Sh top hO (o_ + 3) (o_ + 51) μ _ (ok11_5 hO ho) (ok11_3 hO ho) e1) mv1_findCentre ml11_374 (ok11_5 hO ho) rfl rfl rfl rfl d11_centre_8 ?_
  refine z_iload_n fx (k := 1) (i := 1) rfl rfl d11_centre_11 ?_
  cases c2 : ceq v_what 0 with
  | true =>
    replace h := zif_t c2 h
    refine z_table fx d11_centre_12 (off := 28) (tgt := 40) (by rw [ceq_of c2]; decide) (by decide) ?_
    refine z_aload_n fx (k := 0) (i := 0) rfl rfl d11_centre_40 ?_
    refine z_getO fx 11 5 3 ho lf11_22 fk11_5 d11_centre_41 ?_
    refine z_getI fx 1 7 107 (ok11_5 hO ho) lf11_377 ⟨fk1_7, rfl⟩ d11_centre_44 ?_
    cases h
    exact z_ireturn fx fin d11_centre_47
  | false =>
  replace h := zif_f c2 h
  cases c3 : ceq v_what 1 with
  | true =>
    replace h := zif_t c3 h
    refine z_table fx d11_centre_12 (off := 36) (tgt := 48) (by rw [ceq_of c3]; decide) (by decide) ?_
    refine z_aload_n fx (k := 0) (i := 0) rfl rfl d11_centre_48 ?_
    refine z_getO fx 11 5 3 ho lf11_22 fk11_5 d11_centre_49 ?_
    refine z_getI fx 1 8 108 (ok11_5 hO ho) lf11_380 ⟨fk1_8, rfl⟩ d11_centre_52 ?_
    cases h
    exact z_ireturn fx fin d11_centre_55
  | false =>
  replace h := zif_f c3 h
  cases c4 : ceq v_what 2 with
  | true =>
    replace h := zif_t c4 h
    refine z_table fx d11_centre_12 (off := 44) (tgt := 56) (by rw [ceq_of c4]; decide) (by decide) ?_
    refine z_aload_n fx (k := 0) (i := 0) rfl rfl d11_centre_56 ?_
    refine z_getO fx 11 5 3 ho lf11_22 fk11_5 d11_centre_57 ?_
    refine z_getI fx 1 9 109 (ok11_5 hO ho) lf11_383 ⟨fk1_9, rfl⟩ d11_centre_60 ?_
    cases h
    exact z_ireturn fx fin d11_centre_63
  | false =>
  replace h := zif_f c4 h
  have hn0 := zne c2 (k := 0) (by decide)
  have hn1 := zne c3 (k := 1) (by decide)
  have hn2 := zne c4 (k := 2) (by decide)
  refine z_table fx d11_centre_12 (off := 52) (tgt := 64) ⟨zsw_out (by omega), by decide⟩ (by decide) ?_
  refine z_iconst fx (v := (-1)) icm1 d11_centre_64 ?_
  cases h
  exact z_ireturn fx fin d11_centre_65
theorem d8_steps_0 : zd cX8_steps 0 (.iconst 0) 1 1 := by decide +kernel
theorem d8_steps_1 : zd cX8_steps 1 (.istore_n 2) 1 2 := by decide +kernel
theorem d8_steps_2 : zd cX8_steps 2 (.iload_n 2) 1 3 := by decide +kernel
theorem d8_steps_3 : zd cX8_steps 3 (.iload_n 1) 1 4 := by decide +kernel
theorem d8_steps_4 : zj cX8_steps 4 (.if_icmp .ge 13) 13 7 17 := by decide +kernel
theorem d8_steps_7 : zd cX8_steps 7 (.aload_n 0) 1 8 := by decide +kernel
theorem d8_steps_8 : zd cX8_steps 8 (.invokevirtual 327) 3 11 := by decide +kernel
theorem d8_steps_11 : zd cX8_steps 11 (.iinc 2 1) 3 14 := by decide +kernel
theorem d8_steps_14 : zj cX8_steps 14 (.goto (-12)) (-12) 17 2 := by decide +kernel
theorem d8_steps_17 : zd cX8_steps 17 (.return_) 1 18 := by decide +kernel
set_option maxHeartbeats 4000000 in
set_option maxRecDepth 20000 in
theorem c8_steps (l : Launch) (D : zDt) (Sh : zSh) (top : Nat) (hO : zOK Sh) (o_ : Nat) (v_count : Int32) (μ : zM) (μ_ : zM) (ho : (Sh o_).1 = 15) (h : f8_steps o_ v_count μ = some μ_) : zMet l D zK1 yX8_steps cX8_steps 3 none (zrm 6 143) [.ref o_, .int v_count] Sh top μ none Sh top μ_ 0 0 := by
  refine zMet_of (by decide) (Nat.le_of_ble_eq_true rfl) fun X hX1 hX2 fx fin => ?_
  subst hX1; subst hX2
  replace fx : zFix X cX8_steps RX8 (zrm 6 143) 3 := fx
  show zZ zK1 X (zT0 Sh top) μ 0 [(0, .ref o_), (1, .int v_count)] []
  unfold f8_steps at h
  refine z_iconst fx (v := 0) ic0 d8_steps_0 ?_
  refine z_istore_n fx (k := 2) (i := 2) rfl rfl (lv' := [(0, .ref o_), (1, .int v_count), (2, .int 0)]) rfl rfl d8_steps_1 ?_
  obtain ⟨v_k_3, μ4, e9, h⟩ := zinv2 h
  have kx4 : zZ zK1 X (zT0 Sh top) μ4 17 [(0, .ref o_), (1, .int v_count), (2, .int v_k_3)] [] := by
    refine z_take 2 (lv' := [(0, .ref o_), (1, .int v_count)]) rfl ?_
    cases h
    exact z_return fx fin d8_steps_17
  clear h
  have klr3 : ∀ (n : Nat) (v_k_1 : Int32) (μ2 : zM), zloop (fun s => f8_steps_L1 o_ v_count s.1 s.2) n (v_k_1, μ2) = some (v_k_3, μ4) → zZ zK1 X (zT0 Sh top) μ2 2 [(0, .ref o_), (1, .int v_count), (2, .int v_k_1)] [] := by
    intro n
    induction n with
    | zero => intro v_k_1 μ2 hl2; cases hl2
    | succ n ih5 =>
      intro v_k_1 μ2 hl2
      obtain ⟨y, e1, hl2⟩ := zloop_inv hl2
      replace e1 : f8_steps_L1 o_ v_count v_k_1 μ2 = some y := e1
      unfold f8_steps_L1 at e1
      refine z_iload_n fx (k := 2) (i := 2) rfl rfl d8_steps_2 ?_
      refine z_iload_n fx (k := 1) (i := 1) rfl rfl d8_steps_3 ?_
      refine z_icmp_ge fx d8_steps_4 (fun c6 => ?_) (fun c6 => ?_)
      · replace e1 := zif_f c6 e1
        cases e1
        cases hl2
        exact kx4
      · replace e1 := zif_t c6 e1
        refine z_aload_n fx (k := 0) (i := 0) rfl rfl d8_steps_7 ?_
        obtain ⟨μ5, e7, e1⟩ := zinv e1
        refine z_cVv fx (c8_step (zLo X) (zDo X) Sh top hO o_ μ2 _ ho e7) mv8_step ml8_327 ho rfl rfl rfl rfl d8_steps_8 ?_
        obtain ⟨v_k_6, e8, e1⟩ := zinv e1
        replace e8 := Option.some.inj e8
        refine z_iinc fx (i := 2) (x := v_k_1) (v := v_k_6) rfl (by rw [in1]; exact e8) rfl (lv' := [(0, .ref o_), (1, .int v_count), (2, .int v_k_6)]) rfl rfl d8_steps_11 ?_
        cases e1
        refine z_goto fx d8_steps_14 ?_
        exact ih5 _ _ hl2
  exact klr3 _ _ _ e9
theorem d8_comeUp_0 : zd cX8_comeUp 0 (.aload_n 0) 1 1 := by decide +kernel
theorem d8_comeUp_1 : zd cX8_comeUp 1 (.getfield 19) 3 4 := by decide +kernel
theorem d8_comeUp_4 : zd cX8_comeUp 4 (.iload_n 1) 1 5 := by decide +kernel
theorem d8_comeUp_5 : zd cX8_comeUp 5 (.aaload) 1 6 := by decide +kernel
theorem d8_comeUp_6 : zd cX8_comeUp 6 (.aload_n 0) 1 7 := by decide +kernel
theorem d8_comeUp_7 : zd cX8_comeUp 7 (.getfield 62) 3 10 := by decide +kernel
theorem d8_comeUp_10 : zd cX8_comeUp 10 (.getfield 145) 3 13 := by decide +kernel
theorem d8_comeUp_13 : zd cX8_comeUp 13 (.iload_n 1) 1 14 := by decide +kernel
theorem d8_comeUp_14 : zd cX8_comeUp 14 (.baload) 1 15 := by decide +kernel
theorem d8_comeUp_15 : zd cX8_comeUp 15 (.invokevirtual 148) 3 18 := by decide +kernel
theorem d8_comeUp_18 : zd cX8_comeUp 18 (.return_) 1 19 := by decide +kernel
set_option maxHeartbeats 4000000 in
set_option maxRecDepth 20000 in
theorem c8_comeUp (l : Launch) (D : zDt) (Sh : zSh) (top : Nat) (hO : zOK Sh) (o_ : Nat) (v_end : Int32) (μ : zM) (μ_ : zM) (ho : (Sh o_).1 = 15) (h : f8_comeUp o_ v_end μ = some μ_) : zMet l D zK1 yX8_comeUp cX8_comeUp 2 none (zrm 1 21) [.ref o_, .int v_end] Sh top μ none Sh top μ_ 0 0 := by
  refine zMet_of (by decide) (Nat.le_of_ble_eq_true rfl) fun X hX1 hX2 fx fin => ?_
  subst hX1; subst hX2
  replace fx : zFix X cX8_comeUp RX8 (zrm 1 21) 2 := fx
  show zZ zK1 X (zT0 Sh top) μ 0 [(0, .ref o_), (1, .int v_end)] []
  unfold f8_comeUp at h
  refine z_aload_n fx (k := 0) (i := 0) rfl rfl d8_comeUp_0 ?_
  refine z_getO fx 8 1 2 ho lf8_19 fk8_1 d8_comeUp_1 ?_
  refine z_iload_n fx (k := 1) (i := 1) rfl rfl d8_comeUp_4 ?_
  obtain ⟨j1, e1, h⟩ := zinv h
  refine z_aald fx 1 (by decide) (ok8_1 hO ho) e1 (v := .ref (o_ + 37 + 2 * j1)) rfl d8_comeUp_5 ?_
  refine z_aload_n fx (k := 0) (i := 0) rfl rfl d8_comeUp_6 ?_
  obtain ⟨w2, e2, h⟩ := zinv h
  refine z_getR fx 8 12 812 17 ho lf8_62 ⟨fk8_12, rfl⟩ e2 d8_comeUp_7 (fun tw2 => ?_)
  refine z_getO fx 10 8 9 tw2 lf8_145 fk10_8 d8_comeUp_10 ?_
  refine z_iload_n fx (k := 1) (i := 1) rfl rfl d8_comeUp_13 ?_
  obtain ⟨t3, e3, h⟩ := zinv h
  refine z_zald fx (ok10_8 hO tw2) e3 d8_comeUp_14 ?_
  obtain ⟨μ4, e4, h⟩ := zinv h
  refine z_cVv fx (c4_clear (zLo X) (zDo X) Sh top hO (o_ + 37 + 2 * j1) t3 μ _ (okA1 hO (ok8_1 hO ho) (rI_lt e1)) e4) mv4_clear ml8_148 (okA1 hO (ok8_1 hO ho) (rI_lt e1)) rfl rfl rfl rfl d8_comeUp_15 ?_
  cases h
  exact z_return fx fin d8_comeUp_18
theorem d8_mendLink_0 : zd cX8_mendLink 0 (.aload_n 0) 1 1 := by decide +kernel
theorem d8_mendLink_1 : zd cX8_mendLink 1 (.getfield 29) 3 4 := by decide +kernel
theorem d8_mendLink_4 : zd cX8_mendLink 4 (.iload_n 1) 1 5 := by decide +kernel
theorem d8_mendLink_5 : zd cX8_mendLink 5 (.iconst 1) 1 6 := by decide +kernel
theorem d8_mendLink_6 : zd cX8_mendLink 6 (.bastore) 1 7 := by decide +kernel
theorem d8_mendLink_7 : zd cX8_mendLink 7 (.aload_n 0) 1 8 := by decide +kernel
theorem d8_mendLink_8 : zd cX8_mendLink 8 (.iconst 2) 1 9 := by decide +kernel
theorem d8_mendLink_9 : zd cX8_mendLink 9 (.iload_n 1) 1 10 := by decide +kernel
theorem d8_mendLink_10 : zd cX8_mendLink 10 (.imul) 1 11 := by decide +kernel
theorem d8_mendLink_11 : zd cX8_mendLink 11 (.invokevirtual 141) 3 14 := by decide +kernel
theorem d8_mendLink_14 : zj cX8_mendLink 14 (.ifCond .eq 19) 19 17 33 := by decide +kernel
theorem d8_mendLink_17 : zd cX8_mendLink 17 (.aload_n 0) 1 18 := by decide +kernel
theorem d8_mendLink_18 : zd cX8_mendLink 18 (.iconst 2) 1 19 := by decide +kernel
theorem d8_mendLink_19 : zd cX8_mendLink 19 (.iload_n 1) 1 20 := by decide +kernel
theorem d8_mendLink_20 : zd cX8_mendLink 20 (.imul) 1 21 := by decide +kernel
theorem d8_mendLink_21 : zd cX8_mendLink 21 (.invokevirtual 389) 3 24 := by decide +kernel
theorem d8_mendLink_24 : zd cX8_mendLink 24 (.aload_n 0) 1 25 := by decide +kernel
theorem d8_mendLink_25 : zd cX8_mendLink 25 (.iconst 2) 1 26 := by decide +kernel
theorem d8_mendLink_26 : zd cX8_mendLink 26 (.iload_n 1) 1 27 := by decide +kernel
theorem d8_mendLink_27 : zd cX8_mendLink 27 (.imul) 1 28 := by decide +kernel
theorem d8_mendLink_28 : zd cX8_mendLink 28 (.iconst 1) 1 29 := by decide +kernel
theorem d8_mendLink_29 : zd cX8_mendLink 29 (.iadd) 1 30 := by decide +kernel
theorem d8_mendLink_30 : zd cX8_mendLink 30 (.invokevirtual 389) 3 33 := by decide +kernel
theorem d8_mendLink_33 : zd cX8_mendLink 33 (.aload_n 0) 1 34 := by decide +kernel
theorem d8_mendLink_34 : zd cX8_mendLink 34 (.iload_n 1) 1 35 := by decide +kernel
theorem d8_mendLink_35 : zd cX8_mendLink 35 (.invokevirtual 386) 3 38 := by decide +kernel
theorem d8_mendLink_38 : zd cX8_mendLink 38 (.aload_n 0) 1 39 := by decide +kernel
theorem d8_mendLink_39 : zd cX8_mendLink 39 (.invokevirtual 155) 3 42 := by decide +kernel
theorem d8_mendLink_42 : zd cX8_mendLink 42 (.return_) 1 43 := by decide +kernel
set_option maxHeartbeats 4000000 in
set_option maxRecDepth 20000 in
theorem c8_mendLink (l : Launch) (D : zDt) (Sh : zSh) (top : Nat) (hO : zOK Sh) (o_ : Nat) (v_link : Int32) (μ : zM) (μ_ : zM) (ho : (Sh o_).1 = 15) (h : f8_mendLink o_ v_link μ = some μ_) : zMet l D zK1 yX8_mendLink cX8_mendLink 2 none (zrm 5 116) [.ref o_, .int v_link] Sh top μ none Sh top μ_ 0 0 := by
  refine zMet_of (by decide) (Nat.le_of_ble_eq_true rfl) fun X hX1 hX2 fx fin => ?_
  subst hX1; subst hX2
  replace fx : zFix X cX8_mendLink RX8 (zrm 5 116) 2 := fx
  show zZ zK1 X (zT0 Sh top) μ 0 [(0, .ref o_), (1, .int v_link)] []
  unfold f8_mendLink at h
  refine z_aload_n fx (k := 0) (i := 0) rfl rfl d8_mendLink_0 ?_
  refine z_getO fx 8 3 4 ho lf8_29 fk8_3 d8_mendLink_1 ?_
  refine z_iload_n fx (k := 1) (i := 1) rfl rfl d8_mendLink_4 ?_
  refine z_iconst fx (v := 1) ic1 d8_mendLink_5 ?_
  refine z_top (show Value.int 1 = .int (bI true) from rfl) ?_
  obtain ⟨μ1, e1, h⟩ := zinv h
  refine z_zast fx (ok8_3 hO ho) e1 d8_mendLink_6 ?_
  obtain ⟨μ2, e2, h⟩ := zinv h
  have k3 : zZ zK1 X (zT0 Sh top) μ2 33 [(0, .ref o_), (1, .int v_link)] [] := by
    refine z_aload_n fx (k := 0) (i := 0) rfl rfl d8_mendLink_33 ?_
    refine z_iload_n fx (k := 1) (i := 1) rfl rfl d8_mendLink_34 ?_
    obtain ⟨μ3, e4, h⟩ := zinv h
    refine z_cVv fx (c8_touchEnds (zLo X) (zDo X) Sh top hO o_ v_link μ2 _ ho e4) mv8_touchEnds ml8_386 ho rfl rfl rfl rfl d8_mendLink_35 ?_
    refine z_aload_n fx (k := 0) (i := 0) rfl rfl d8_mendLink_38 ?_
    obtain ⟨μ4, e5, h⟩ := zinv h
    refine z_cVv fx (c8_chooseTouched (zLo X) (zDo X) Sh top hO o_ μ3 _ ho e5) mv8_chooseTouched ml8_155 ho rfl rfl rfl rfl d8_mendLink_39 ?_
    cases h
    exact z_return fx fin d8_mendLink_42
  clear h
  refine z_aload_n fx (k := 0) (i := 0) rfl rfl d8_mendLink_7 ?_
  refine z_iconst fx (v := 2) ic2 d8_mendLink_8 ?_
  refine z_iload_n fx (k := 1) (i := 1) rfl rfl d8_mendLink_9 ?_
  refine z_imul fx d8_mendLink_10 ?_
  obtain ⟨t5, e6, e2⟩ := zinv e2
  refine z_cVr fx (c8_isUp (zLo X) (zDo X) Sh top hO o_ (2 * v_link) μ1 _ ho e6) mv8_isUp ml8_141 ho rfl rfl rfl rfl d8_mendLink_11 ?_
  refine z_ifb_eq fx d8_mendLink_14 (fun c7 => ?_) (fun c7 => ?_)
  · replace e2 := zif_f c7 e2
    cases e2
    exact k3
  · replace e2 := zif_t c7 e2
    refine z_aload_n fx (k := 0) (i := 0) rfl rfl d8_mendLink_17 ?_
    refine z_iconst fx (v := 2) ic2 d8_mendLink_18 ?_
    refine z_iload_n fx (k := 1) (i := 1) rfl rfl d8_mendLink_19 ?_
    refine z_imul fx d8_mendLink_20 ?_
    obtain ⟨μ6, e8, e2⟩ := zinv e2
    refine z_cVv fx (c8_comeUp (zLo X) (zDo X) Sh top hO o_ (2 * v_link) μ1 _ ho e8) mv8_comeUp ml8_389 ho rfl rfl rfl rfl d8_mendLink_21 ?_
    refine z_aload_n fx (k := 0) (i := 0) rfl rfl d8_mendLink_24 ?_
    refine z_iconst fx (v := 2) ic2 d8_mendLink_25 ?_
    refine z_iload_n fx (k := 1) (i := 1) rfl rfl d8_mendLink_26 ?_
    refine z_imul fx d8_mendLink_27 ?_
    refine z_iconst fx (v := 1) ic1 d8_mendLink_28 ?_
    refine z_iadd fx d8_mendLink_29 ?_
    obtain ⟨μ7, e9, e2⟩ := zinv e2
    refine z_cVv fx (c8_comeUp (zLo X) (zDo X) Sh top hO o_ ((2 * v_link) + 1) μ6 _ ho e9) mv8_comeUp ml8_389 ho rfl rfl rfl rfl d8_mendLink_30 ?_
    cases e2
    exact k3
theorem d8_turnOff_0 : zd cX8_turnOff 0 (.iconst 0) 1 1 := by decide +kernel
theorem d8_turnOff_1 : zd cX8_turnOff 1 (.istore_n 2) 1 2 := by decide +kernel
theorem d8_turnOff_2 : zd cX8_turnOff 2 (.iload_n 2) 1 3 := by decide +kernel
theorem d8_turnOff_3 : zd cX8_turnOff 3 (.aload_n 0) 1 4 := by decide +kernel
theorem d8_turnOff_4 : zd cX8_turnOff 4 (.getfield 62) 3 7 := by decide +kernel
theorem d8_turnOff_7 : zd cX8_turnOff 7 (.getfield 174) 3 10 := by decide +kernel
theorem d8_turnOff_10 : zd cX8_turnOff 10 (.iload_n 1) 1 11 := by decide +kernel
theorem d8_turnOff_11 : zd cX8_turnOff 11 (.iaload) 1 12 := by decide +kernel
theorem d8_turnOff_12 : zj cX8_turnOff 12 (.if_icmp .ge 53) 53 15 65 := by decide +kernel
theorem d8_turnOff_15 : zd cX8_turnOff 15 (.aload_n 0) 1 16 := by decide +kernel
theorem d8_turnOff_16 : zd cX8_turnOff 16 (.getfield 62) 3 19 := by decide +kernel
theorem d8_turnOff_19 : zd cX8_turnOff 19 (.iload_n 1) 1 20 := by decide +kernel
theorem d8_turnOff_20 : zd cX8_turnOff 20 (.iload_n 2) 1 21 := by decide +kernel
theorem d8_turnOff_21 : zd cX8_turnOff 21 (.invokevirtual 176) 3 24 := by decide +kernel
theorem d8_turnOff_24 : zd cX8_turnOff 24 (.istore_n 3) 1 25 := by decide +kernel
theorem d8_turnOff_25 : zd cX8_turnOff 25 (.aload_n 0) 1 26 := by decide +kernel
theorem d8_turnOff_26 : zd cX8_turnOff 26 (.iload_n 3) 1 27 := by decide +kernel
theorem d8_turnOff_27 : zd cX8_turnOff 27 (.invokevirtual 141) 3 30 := by decide +kernel
theorem d8_turnOff_30 : zj cX8_turnOff 30 (.ifCond .eq 17) 17 33 47 := by decide +kernel
theorem d8_turnOff_33 : zd cX8_turnOff 33 (.aload_n 0) 1 34 := by decide +kernel
theorem d8_turnOff_34 : zd cX8_turnOff 34 (.getfield 46) 3 37 := by decide +kernel
theorem d8_turnOff_37 : zd cX8_turnOff 37 (.aload_n 0) 1 38 := by decide +kernel
theorem d8_turnOff_38 : zd cX8_turnOff 38 (.getfield 62) 3 41 := by decide +kernel
theorem d8_turnOff_41 : zd cX8_turnOff 41 (.iload_n 3) 1 42 := by decide +kernel
theorem d8_turnOff_42 : zd cX8_turnOff 42 (.invokevirtual 161) 3 45 := by decide +kernel
theorem d8_turnOff_45 : zd cX8_turnOff 45 (.iconst 1) 1 46 := by decide +kernel
theorem d8_turnOff_46 : zd cX8_turnOff 46 (.bastore) 1 47 := by decide +kernel
theorem d8_turnOff_47 : zd cX8_turnOff 47 (.aload_n 0) 1 48 := by decide +kernel
theorem d8_turnOff_48 : zd cX8_turnOff 48 (.iload_n 3) 1 49 := by decide +kernel
theorem d8_turnOff_49 : zd cX8_turnOff 49 (.invokevirtual 383) 3 52 := by decide +kernel
theorem d8_turnOff_52 : zd cX8_turnOff 52 (.aload_n 0) 1 53 := by decide +kernel
theorem d8_turnOff_53 : zd cX8_turnOff 53 (.iload_n 3) 1 54 := by decide +kernel
theorem d8_turnOff_54 : zd cX8_turnOff 54 (.iconst 1) 1 55 := by decide +kernel
theorem d8_turnOff_55 : zd cX8_turnOff 55 (.ixor) 1 56 := by decide +kernel
theorem d8_turnOff_56 : zd cX8_turnOff 56 (.invokevirtual 383) 3 59 := by decide +kernel
theorem d8_turnOff_59 : zd cX8_turnOff 59 (.iinc 2 1) 3 62 := by decide +kernel
theorem d8_turnOff_62 : zj cX8_turnOff 62 (.goto (-60)) (-60) 65 2 := by decide +kernel
theorem d8_turnOff_65 : zd cX8_turnOff 65 (.aload_n 0) 1 66 := by decide +kernel
theorem d8_turnOff_66 : zd cX8_turnOff 66 (.getfield 11) 3 69 := by decide +kernel
theorem d8_turnOff_69 : zd cX8_turnOff 69 (.iload_n 1) 1 70 := by decide +kernel
theorem d8_turnOff_70 : zd cX8_turnOff 70 (.aaload) 1 71 := by decide +kernel
theorem d8_turnOff_71 : zd cX8_turnOff 71 (.iconst 0) 1 72 := by decide +kernel
theorem d8_turnOff_72 : zd cX8_turnOff 72 (.putfield 104) 3 75 := by decide +kernel
theorem d8_turnOff_75 : zd cX8_turnOff 75 (.iload_n 1) 1 76 := by decide +kernel
theorem d8_turnOff_76 : zd cX8_turnOff 76 (.bipush 8) 2 78 := by decide +kernel
theorem d8_turnOff_78 : zd cX8_turnOff 78 (.imul) 1 79 := by decide +kernel
theorem d8_turnOff_79 : zd cX8_turnOff 79 (.istore_n 2) 1 80 := by decide +kernel
theorem d8_turnOff_80 : zd cX8_turnOff 80 (.iload_n 2) 1 81 := by decide +kernel
theorem d8_turnOff_81 : zd cX8_turnOff 81 (.iload_n 1) 1 82 := by decide +kernel
theorem d8_turnOff_82 : zd cX8_turnOff 82 (.bipush 8) 2 84 := by decide +kernel
theorem d8_turnOff_84 : zd cX8_turnOff 84 (.imul) 1 85 := by decide +kernel
theorem d8_turnOff_85 : zd cX8_turnOff 85 (.bipush 8) 2 87 := by decide +kernel
theorem d8_turnOff_87 : zd cX8_turnOff 87 (.iadd) 1 88 := by decide +kernel
theorem d8_turnOff_88 : zj cX8_turnOff 88 (.if_icmp .ge 16) 16 91 104 := by decide +kernel
theorem d8_turnOff_91 : zd cX8_turnOff 91 (.aload_n 0) 1 92 := by decide +kernel
theorem d8_turnOff_92 : zd cX8_turnOff 92 (.getfield 37) 3 95 := by decide +kernel
theorem d8_turnOff_95 : zd cX8_turnOff 95 (.iload_n 2) 1 96 := by decide +kernel
theorem d8_turnOff_96 : zd cX8_turnOff 96 (.iconst (-1)) 1 97 := by decide +kernel
theorem d8_turnOff_97 : zd cX8_turnOff 97 (.iastore) 1 98 := by decide +kernel
theorem d8_turnOff_98 : zd cX8_turnOff 98 (.iinc 2 1) 3 101 := by decide +kernel
theorem d8_turnOff_101 : zj cX8_turnOff 101 (.goto (-21)) (-21) 104 80 := by decide +kernel
theorem d8_turnOff_104 : zd cX8_turnOff 104 (.aload_n 0) 1 105 := by decide +kernel
theorem d8_turnOff_105 : zd cX8_turnOff 105 (.invokevirtual 155) 3 108 := by decide +kernel
theorem d8_turnOff_108 : zd cX8_turnOff 108 (.return_) 1 109 := by decide +kernel
set_option maxHeartbeats 4000000 in
set_option maxRecDepth 20000 in
theorem c8_turnOff (l : Launch) (D : zDt) (Sh : zSh) (top : Nat) (hO : zOK Sh) (o_ : Nat) (v_b : Int32) (μ : zM) (μ_ : zM) (ho : (Sh o_).1 = 15) (h : f8_turnOff o_ v_b μ = some μ_) : zMet l D zK1 yX8_turnOff cX8_turnOff 4 none (zrm 5 116) [.ref o_, .int v_b] Sh top μ none Sh top μ_ 0 0 := by
  refine zMet_of (by decide) (Nat.le_of_ble_eq_true rfl) fun X hX1 hX2 fx fin => ?_
  subst hX1; subst hX2
  replace fx : zFix X cX8_turnOff RX8 (zrm 5 116) 4 := fx
  show zZ zK1 X (zT0 Sh top) μ 0 [(0, .ref o_), (1, .int v_b)] []
  unfold f8_turnOff at h
  refine z_iconst fx (v := 0) ic0 d8_turnOff_0 ?_
  refine z_istore_n fx (k := 2) (i := 2) rfl rfl (lv' := [(0, .ref o_), (1, .int v_b), (2, .int 0)]) rfl rfl d8_turnOff_1 ?_
  obtain ⟨v_p_3, μ4, e34, h⟩ := zinv2 h
  have kx4 : zZ zK1 X (zT0 Sh top) μ4 65 [(0, .ref o_), (1, .int v_b), (2, .int v_p_3)] [] := by
    refine z_take 2 (lv' := [(0, .ref o_), (1, .int v_b)]) rfl ?_
    refine z_aload_n fx (k := 0) (i := 0) rfl rfl d8_turnOff_65 ?_
    refine z_getO fx 8 0 1 ho lf8_11 fk8_0 d8_turnOff_66 ?_
    refine z_iload_n fx (k := 1) (i := 1) rfl rfl d8_turnOff_69 ?_
    obtain ⟨j17, e21, h⟩ := zinv h
    refine z_aald fx 0 (by decide) (ok8_0 hO ho) e21 (v := .ref (o_ + 13 + 3 * j17)) rfl d8_turnOff_70 ?_
    refine z_iconst fx (v := 0) ic0 d8_turnOff_71 ?_
    refine z_top (show Value.int 0 = .int (bI false) from rfl) ?_
    obtain ⟨μ18, e22, h⟩ := zinv h
    refine z_putB fx (ci := 0) 3 (okA0 hO (ok8_0 hO ho) (rI_lt e21)) lf8_104 fp0_3 e22 d8_turnOff_72 ?_
    refine z_iload_n fx (k := 1) (i := 1) rfl rfl d8_turnOff_75 ?_
    refine z_bipush fx (v := 8) bp8 d8_turnOff_76 ?_
    refine z_imul fx d8_turnOff_78 ?_
    obtain ⟨v_k_19, e23, h⟩ := zinv h
    replace e23 := Option.some.inj e23
    refine z_top (congrArg Value.int e23) ?_
    refine z_istore_n fx (k := 2) (i := 2) rfl rfl (lv' := [(0, .ref o_), (1, .int v_b), (2, .int v_k_19)]) rfl rfl d8_turnOff_79 ?_
    obtain ⟨v_k_22, μ23, e33, h⟩ := zinv2 h
    have kx27 : zZ zK1 X (zT0 Sh top) μ23 104 [(0, .ref o_), (1, .int v_b), (2, .int v_k_22)] [] := by
      refine z_take 2 (lv' := [(0, .ref o_), (1, .int v_b)]) rfl ?_
      refine z_aload_n fx (k := 0) (i := 0) rfl rfl d8_turnOff_104 ?_
      obtain ⟨μ26, e32, h⟩ := zinv h
      refine z_cVv fx (c8_chooseTouched (zLo X) (zDo X) Sh top hO o_ μ23 _ ho e32) mv8_chooseTouched ml8_155 ho rfl rfl rfl rfl d8_turnOff_105 ?_
      cases h
      exact z_return fx fin d8_turnOff_108
    clear h
    have klr26 : ∀ (n : Nat) (v_k_20 : Int32) (μ21 : zM), zloop (fun s => f8_turnOff_L2 o_ v_b s.1 s.2) n (v_k_20, μ21) = some (v_k_22, μ23) → zZ zK1 X (zT0 Sh top) μ21 80 [(0, .ref o_), (1, .int v_b), (2, .int v_k_20)] [] := by
      intro n
      induction n with
      | zero => intro v_k_20 μ21 hl25; cases hl25
      | succ n ih28 =>
        intro v_k_20 μ21 hl25
        obtain ⟨y, e24, hl25⟩ := zloop_inv hl25
        replace e24 : f8_turnOff_L2 o_ v_b v_k_20 μ21 = some y := e24
        unfold f8_turnOff_L2 at e24
        refine z_iload_n fx (k := 2) (i := 2) rfl rfl d8_turnOff_80 ?_
        refine z_iload_n fx (k := 1) (i := 1) rfl rfl d8_turnOff_81 ?_
        refine z_bipush fx (v := 8) bp8 d8_turnOff_82 ?_
        refine z_imul fx d8_turnOff_84 ?_
        refine z_bipush fx (v := 8) bp8 d8_turnOff_85 ?_
        refine z_iadd fx d8_turnOff_87 ?_
        refine z_icmp_ge fx d8_turnOff_88 (fun c29 => ?_) (fun c29 => ?_)
        · replace e24 := zif_f c29 e24
          cases e24
          cases hl25
          exact kx27
        · replace e24 := zif_t c29 e24
          refine z_aload_n fx (k := 0) (i := 0) rfl rfl d8_turnOff_91 ?_
          refine z_getO fx 8 5 6 ho lf8_37 fk8_5 d8_turnOff_92 ?_
          refine z_iload_n fx (k := 2) (i := 2) rfl rfl d8_turnOff_95 ?_
          refine z_iconst fx (v := (-1)) icm1 d8_turnOff_96 ?_
          obtain ⟨μ24, e30, e24⟩ := zinv e24
          refine z_iast fx (ok8_5 hO ho) e30 d8_turnOff_97 ?_
          obtain ⟨v_k_25, e31, e24⟩ := zinv e24
          replace e31 := Option.some.inj e31
          refine z_iinc fx (i := 2) (x := v_k_20) (v := v_k_25) rfl (by rw [in1]; exact e31) rfl (lv' := [(0, .ref o_), (1, .int v_b), (2, .int v_k_25)]) rfl rfl d8_turnOff_98 ?_
          cases e24
          refine z_goto fx d8_turnOff_101 ?_
          exact ih28 _ _ hl25
    exact klr26 _ _ _ e33
  clear h
  have klr3 : ∀ (n : Nat) (v_p_1 : Int32) (μ2 : zM), zloop (fun s => f8_turnOff_L1 o_ v_b s.1 s.2) n (v_p_1, μ2) = some (v_p_3, μ4) → zZ zK1 X (zT0 Sh top) μ2 2 [(0, .ref o_), (1, .int v_b), (2, .int v_p_1)] [] := by
    intro n
    induction n with
    | zero => intro v_p_1 μ2 hl2; cases hl2
    | succ n ih5 =>
      intro v_p_1 μ2 hl2
      obtain ⟨y, e1, hl2⟩ := zloop_inv hl2
      replace e1 : f8_turnOff_L1 o_ v_b v_p_1 μ2 = some y := e1
      unfold f8_turnOff_L1 at e1
      refine z_iload_n fx (k := 2) (i := 2) rfl rfl d8_turnOff_2 ?_
      refine z_aload_n fx (k := 0) (i := 0) rfl rfl d8_turnOff_3 ?_
      obtain ⟨w5, e6, e1⟩ := zinv e1
      refine z_getR fx 8 12 812 17 ho lf8_62 ⟨fk8_12, rfl⟩ e6 d8_turnOff_4 (fun tw5 => ?_)
      refine z_getO fx 10 4 5 tw5 lf8_174 fk10_4 d8_turnOff_7 ?_
      refine z_iload_n fx (k := 1) (i := 1) rfl rfl d8_turnOff_10 ?_
      obtain ⟨t6, e7, e1⟩ := zinv e1
      refine z_iald fx (ok10_4 hO tw5) e7 d8_turnOff_11 ?_
      refine z_icmp_ge fx d8_turnOff_12 (fun c8 => ?_) (fun c8 => ?_)
      · replace e1 := zif_f c8 e1
        cases e1
        cases hl2
        exact kx4
      · replace e1 := zif_t c8 e1
        refine z_aload_n fx (k := 0) (i := 0) rfl rfl d8_turnOff_15 ?_
        obtain ⟨w7, e9, e1⟩ := zinv e1
        refine z_getR fx 8 12 812 17 ho lf8_62 ⟨fk8_12, rfl⟩ e9 d8_turnOff_16 (fun tw7 => ?_)
        refine z_iload_n fx (k := 1) (i := 1) rfl rfl d8_turnOff_19 ?_
        refine z_iload_n fx (k := 2) (i := 2) rfl rfl d8_turnOff_20 ?_
        obtain ⟨t8, e10, e1⟩ := zinv e1
        refine z_cVr fx (c10_endOf (zLo X) (zDo X) Sh top hO w7 v_b v_p_1 μ2 _ tw7 e10) mv10_endOf ml8_176 tw7 rfl rfl rfl rfl d8_turnOff_21 ?_
        refine z_istore_n fx (k := 3) (i := 3) rfl rfl (lv' := [(0, .ref o_), (1, .int v_b), (2, .int v_p_1), (3, .int t8)]) rfl rfl d8_turnOff_24 ?_
        obtain ⟨μ9, e11, e1⟩ := zinv e1
        have k12 : zZ zK1 X (zT0 Sh top) μ9 47 [(0, .ref o_), (1, .int v_b), (2, .int v_p_1), (3, .int t8)] [] := by
          refine z_aload_n fx (k := 0) (i := 0) rfl rfl d8_turnOff_47 ?_
          refine z_iload_n fx (k := 3) (i := 3) rfl rfl d8_turnOff_48 ?_
          obtain ⟨μ10, e13, e1⟩ := zinv e1
          refine z_cVv fx (c8_goDown (zLo X) (zDo X) Sh top hO o_ t8 μ9 _ ho e13) mv8_goDown ml8_383 ho rfl rfl rfl rfl d8_turnOff_49 ?_
          refine z_aload_n fx (k := 0) (i := 0) rfl rfl d8_turnOff_52 ?_
          refine z_iload_n fx (k := 3) (i := 3) rfl rfl d8_turnOff_53 ?_
          refine z_iconst fx (v := 1) ic1 d8_turnOff_54 ?_
          refine z_ixor fx d8_turnOff_55 ?_
          obtain ⟨μ11, e14, e1⟩ := zinv e1
          refine z_cVv fx (c8_goDown (zLo X) (zDo X) Sh top hO o_ (t8 ^^^ 1) μ10 _ ho e14) mv8_goDown ml8_383 ho rfl rfl rfl rfl d8_turnOff_56 ?_
          refine z_take 3 (lv' := [(0, .ref o_), (1, .int v_b), (2, .int v_p_1)]) rfl ?_
          obtain ⟨v_p_12, e15, e1⟩ := zinv e1
          replace e15 := Option.some.inj e15
          refine z_iinc fx (i := 2) (x := v_p_1) (v := v_p_12) rfl (by rw [in1]; exact e15) rfl (lv' := [(0, .ref o_), (1, .int v_b), (2, .int v_p_12)]) rfl rfl d8_turnOff_59 ?_
          cases e1
          refine z_goto fx d8_turnOff_62 ?_
          exact ih5 _ _ hl2
        clear e1
        refine z_aload_n fx (k := 0) (i := 0) rfl rfl d8_turnOff_25 ?_
        refine z_iload_n fx (k := 3) (i := 3) rfl rfl d8_turnOff_26 ?_
        obtain ⟨t13, e16, e11⟩ := zinv e11
        refine z_cVr fx (c8_isUp (zLo X) (zDo X) Sh top hO o_ t8 μ2 _ ho e16) mv8_isUp ml8_141 ho rfl rfl rfl rfl d8_turnOff_27 ?_
        refine z_ifb_eq fx d8_turnOff_30 (fun c17 => ?_) (fun c17 => ?_)
        · replace e11 := zif_f c17 e11
          cases e11
          exact k12
        · replace e11 := zif_t c17 e11
          refine z_aload_n fx (k := 0) (i := 0) rfl rfl d8_turnOff_33 ?_
          refine z_getO fx 8 8 9 ho lf8_46 fk8_8 d8_turnOff_34 ?_
          refine z_aload_n fx (k := 0) (i := 0) rfl rfl d8_turnOff_37 ?_
          obtain ⟨w14, e18, e11⟩ := zinv e11
          refine z_getR fx 8 12 812 17 ho lf8_62 ⟨fk8_12, rfl⟩ e18 d8_turnOff_38 (fun tw14 => ?_)
          refine z_iload_n fx (k := 3) (i := 3) rfl rfl d8_turnOff_41 ?_
          obtain ⟨t15, e19, e11⟩ := zinv e11
          refine z_cVr fx (c10_farBridge (zLo X) (zDo X) Sh top hO w14 t8 μ2 _ tw14 e19) mv10_farBridge ml8_161 tw14 rfl rfl rfl rfl d8_turnOff_42 ?_
          refine z_iconst fx (v := 1) ic1 d8_turnOff_45 ?_
          refine z_top (show Value.int 1 = .int (bI true) from rfl) ?_
          obtain ⟨μ16, e20, e11⟩ := zinv e11
          refine z_zast fx (ok8_8 hO ho) e20 d8_turnOff_46 ?_
          cases e11
          exact k12
  exact klr3 _ _ _ e34
theorem d8_turnOn_0 : zd cX8_turnOn 0 (.aload_n 0) 1 1 := by decide +kernel
theorem d8_turnOn_1 : zd cX8_turnOn 1 (.getfield 11) 3 4 := by decide +kernel
theorem d8_turnOn_4 : zd cX8_turnOn 4 (.iload_n 1) 1 5 := by decide +kernel
theorem d8_turnOn_5 : zd cX8_turnOn 5 (.aaload) 1 6 := by decide +kernel
theorem d8_turnOn_6 : zd cX8_turnOn 6 (.iconst 1) 1 7 := by decide +kernel
theorem d8_turnOn_7 : zd cX8_turnOn 7 (.putfield 104) 3 10 := by decide +kernel
theorem d8_turnOn_10 : zd cX8_turnOn 10 (.aload_n 0) 1 11 := by decide +kernel
theorem d8_turnOn_11 : zd cX8_turnOn 11 (.getfield 11) 3 14 := by decide +kernel
theorem d8_turnOn_14 : zd cX8_turnOn 14 (.iload_n 1) 1 15 := by decide +kernel
theorem d8_turnOn_15 : zd cX8_turnOn 15 (.aaload) 1 16 := by decide +kernel
theorem d8_turnOn_16 : zd cX8_turnOn 16 (.iconst 0) 1 17 := by decide +kernel
theorem d8_turnOn_17 : zd cX8_turnOn 17 (.putfield 152) 3 20 := by decide +kernel
theorem d8_turnOn_20 : zd cX8_turnOn 20 (.iconst 0) 1 21 := by decide +kernel
theorem d8_turnOn_21 : zd cX8_turnOn 21 (.istore_n 2) 1 22 := by decide +kernel
theorem d8_turnOn_22 : zd cX8_turnOn 22 (.iload_n 2) 1 23 := by decide +kernel
theorem d8_turnOn_23 : zd cX8_turnOn 23 (.aload_n 0) 1 24 := by decide +kernel
theorem d8_turnOn_24 : zd cX8_turnOn 24 (.getfield 62) 3 27 := by decide +kernel
theorem d8_turnOn_27 : zd cX8_turnOn 27 (.getfield 174) 3 30 := by decide +kernel
theorem d8_turnOn_30 : zd cX8_turnOn 30 (.iload_n 1) 1 31 := by decide +kernel
theorem d8_turnOn_31 : zd cX8_turnOn 31 (.iaload) 1 32 := by decide +kernel
theorem d8_turnOn_32 : zj cX8_turnOn 32 (.if_icmp .ge 53) 53 35 85 := by decide +kernel
theorem d8_turnOn_35 : zd cX8_turnOn 35 (.aload_n 0) 1 36 := by decide +kernel
theorem d8_turnOn_36 : zd cX8_turnOn 36 (.getfield 62) 3 39 := by decide +kernel
theorem d8_turnOn_39 : zd cX8_turnOn 39 (.iload_n 1) 1 40 := by decide +kernel
theorem d8_turnOn_40 : zd cX8_turnOn 40 (.iload_n 2) 1 41 := by decide +kernel
theorem d8_turnOn_41 : zd cX8_turnOn 41 (.invokevirtual 176) 3 44 := by decide +kernel
theorem d8_turnOn_44 : zd cX8_turnOn 44 (.istore_n 3) 1 45 := by decide +kernel
theorem d8_turnOn_45 : zd cX8_turnOn 45 (.aload_n 0) 1 46 := by decide +kernel
theorem d8_turnOn_46 : zd cX8_turnOn 46 (.iload_n 3) 1 47 := by decide +kernel
theorem d8_turnOn_47 : zd cX8_turnOn 47 (.invokevirtual 141) 3 50 := by decide +kernel
theorem d8_turnOn_50 : zj cX8_turnOn 50 (.ifCond .eq 29) 29 53 79 := by decide +kernel
theorem d8_turnOn_53 : zd cX8_turnOn 53 (.aload_n 0) 1 54 := by decide +kernel
theorem d8_turnOn_54 : zd cX8_turnOn 54 (.iload_n 3) 1 55 := by decide +kernel
theorem d8_turnOn_55 : zd cX8_turnOn 55 (.invokevirtual 389) 3 58 := by decide +kernel
theorem d8_turnOn_58 : zd cX8_turnOn 58 (.aload_n 0) 1 59 := by decide +kernel
theorem d8_turnOn_59 : zd cX8_turnOn 59 (.iload_n 3) 1 60 := by decide +kernel
theorem d8_turnOn_60 : zd cX8_turnOn 60 (.iconst 1) 1 61 := by decide +kernel
theorem d8_turnOn_61 : zd cX8_turnOn 61 (.ixor) 1 62 := by decide +kernel
theorem d8_turnOn_62 : zd cX8_turnOn 62 (.invokevirtual 389) 3 65 := by decide +kernel
theorem d8_turnOn_65 : zd cX8_turnOn 65 (.aload_n 0) 1 66 := by decide +kernel
theorem d8_turnOn_66 : zd cX8_turnOn 66 (.getfield 46) 3 69 := by decide +kernel
theorem d8_turnOn_69 : zd cX8_turnOn 69 (.aload_n 0) 1 70 := by decide +kernel
theorem d8_turnOn_70 : zd cX8_turnOn 70 (.getfield 62) 3 73 := by decide +kernel
theorem d8_turnOn_73 : zd cX8_turnOn 73 (.iload_n 3) 1 74 := by decide +kernel
theorem d8_turnOn_74 : zd cX8_turnOn 74 (.invokevirtual 161) 3 77 := by decide +kernel
theorem d8_turnOn_77 : zd cX8_turnOn 77 (.iconst 1) 1 78 := by decide +kernel
theorem d8_turnOn_78 : zd cX8_turnOn 78 (.bastore) 1 79 := by decide +kernel
theorem d8_turnOn_79 : zd cX8_turnOn 79 (.iinc 2 1) 3 82 := by decide +kernel
theorem d8_turnOn_82 : zj cX8_turnOn 82 (.goto (-60)) (-60) 85 22 := by decide +kernel
theorem d8_turnOn_85 : zd cX8_turnOn 85 (.aload_n 0) 1 86 := by decide +kernel
theorem d8_turnOn_86 : zd cX8_turnOn 86 (.getfield 46) 3 89 := by decide +kernel
theorem d8_turnOn_89 : zd cX8_turnOn 89 (.iload_n 1) 1 90 := by decide +kernel
theorem d8_turnOn_90 : zd cX8_turnOn 90 (.iconst 1) 1 91 := by decide +kernel
theorem d8_turnOn_91 : zd cX8_turnOn 91 (.bastore) 1 92 := by decide +kernel
theorem d8_turnOn_92 : zd cX8_turnOn 92 (.aload_n 0) 1 93 := by decide +kernel
theorem d8_turnOn_93 : zd cX8_turnOn 93 (.invokevirtual 155) 3 96 := by decide +kernel
theorem d8_turnOn_96 : zd cX8_turnOn 96 (.return_) 1 97 := by decide +kernel
set_option maxHeartbeats 4000000 in
set_option maxRecDepth 20000 in
theorem c8_turnOn (l : Launch) (D : zDt) (Sh : zSh) (top : Nat) (hO : zOK Sh) (o_ : Nat) (v_b : Int32) (μ : zM) (μ_ : zM) (ho : (Sh o_).1 = 15) (h : f8_turnOn o_ v_b μ = some μ_) : zMet l D zK1 yX8_turnOn cX8_turnOn 4 none (zrm 5 116) [.ref o_, .int v_b] Sh top μ none Sh top μ_ 0 0 := by
  refine zMet_of (by decide) (Nat.le_of_ble_eq_true rfl) fun X hX1 hX2 fx fin => ?_
  subst hX1; subst hX2
  replace fx : zFix X cX8_turnOn RX8 (zrm 5 116) 4 := fx
  show zZ zK1 X (zT0 Sh top) μ 0 [(0, .ref o_), (1, .int v_b)] []
  unfold f8_turnOn at h
  refine z_aload_n fx (k := 0) (i := 0) rfl rfl d8_turnOn_0 ?_
  refine z_getO fx 8 0 1 ho lf8_11 fk8_0 d8_turnOn_1 ?_
  refine z_iload_n fx (k := 1) (i := 1) rfl rfl d8_turnOn_4 ?_
  obtain ⟨j1, e1, h⟩ := zinv h
  refine z_aald fx 0 (by decide) (ok8_0 hO ho) e1 (v := .ref (o_ + 13 + 3 * j1)) rfl d8_turnOn_5 ?_
  refine z_iconst fx (v := 1) ic1 d8_turnOn_6 ?_
  refine z_top (show Value.int 1 = .int (bI true) from rfl) ?_
  obtain ⟨μ2, e2, h⟩ := zinv h
  refine z_putB fx (ci := 0) 3 (okA0 hO (ok8_0 hO ho) (rI_lt e1)) lf8_104 fp0_3 e2 d8_turnOn_7 ?_
  refine z_aload_n fx (k := 0) (i := 0) rfl rfl d8_turnOn_10 ?_
  refine z_getO fx 8 0 1 ho lf8_11 fk8_0 d8_turnOn_11 ?_
  refine z_iload_n fx (k := 1) (i := 1) rfl rfl d8_turnOn_14 ?_
  obtain ⟨j3, e3, h⟩ := zinv h
  refine z_aald fx 0 (by decide) (ok8_0 hO ho) e3 (v := .ref (o_ + 13 + 3 * j3)) rfl d8_turnOn_15 ?_
  refine z_iconst fx (v := 0) ic0 d8_turnOn_16 ?_
  obtain ⟨μ4, e4, h⟩ := zinv h
  refine z_putI fx (ci := 0) 8 (okA0 hO (ok8_0 hO ho) (rI_lt e3)) lf8_152 fp0_8 e4 d8_turnOn_17 ?_
  refine z_iconst fx (v := 0) ic0 d8_turnOn_20 ?_
  refine z_istore_n fx (k := 2) (i := 2) rfl rfl (lv' := [(0, .ref o_), (1, .int v_b), (2, .int 0)]) rfl rfl d8_turnOn_21 ?_
  obtain ⟨v_p_7, μ8, e26, h⟩ := zinv2 h
  have kx8 : zZ zK1 X (zT0 Sh top) μ8 85 [(0, .ref o_), (1, .int v_b), (2, .int v_p_7)] [] := by
    refine z_take 2 (lv' := [(0, .ref o_), (1, .int v_b)]) rfl ?_
    refine z_aload_n fx (k := 0) (i := 0) rfl rfl d8_turnOn_85 ?_
    refine z_getO fx 8 8 9 ho lf8_46 fk8_8 d8_turnOn_86 ?_
    refine z_iload_n fx (k := 1) (i := 1) rfl rfl d8_turnOn_89 ?_
    refine z_iconst fx (v := 1) ic1 d8_turnOn_90 ?_
    refine z_top (show Value.int 1 = .int (bI true) from rfl) ?_
    obtain ⟨μ21, e24, h⟩ := zinv h
    refine z_zast fx (ok8_8 hO ho) e24 d8_turnOn_91 ?_
    refine z_aload_n fx (k := 0) (i := 0) rfl rfl d8_turnOn_92 ?_
    obtain ⟨μ22, e25, h⟩ := zinv h
    refine z_cVv fx (c8_chooseTouched (zLo X) (zDo X) Sh top hO o_ μ21 _ ho e25) mv8_chooseTouched ml8_155 ho rfl rfl rfl rfl d8_turnOn_93 ?_
    cases h
    exact z_return fx fin d8_turnOn_96
  clear h
  have klr7 : ∀ (n : Nat) (v_p_5 : Int32) (μ6 : zM), zloop (fun s => f8_turnOn_L1 o_ v_b s.1 s.2) n (v_p_5, μ6) = some (v_p_7, μ8) → zZ zK1 X (zT0 Sh top) μ6 22 [(0, .ref o_), (1, .int v_b), (2, .int v_p_5)] [] := by
    intro n
    induction n with
    | zero => intro v_p_5 μ6 hl6; cases hl6
    | succ n ih9 =>
      intro v_p_5 μ6 hl6
      obtain ⟨y, e5, hl6⟩ := zloop_inv hl6
      replace e5 : f8_turnOn_L1 o_ v_b v_p_5 μ6 = some y := e5
      unfold f8_turnOn_L1 at e5
      refine z_iload_n fx (k := 2) (i := 2) rfl rfl d8_turnOn_22 ?_
      refine z_aload_n fx (k := 0) (i := 0) rfl rfl d8_turnOn_23 ?_
      obtain ⟨w9, e10, e5⟩ := zinv e5
      refine z_getR fx 8 12 812 17 ho lf8_62 ⟨fk8_12, rfl⟩ e10 d8_turnOn_24 (fun tw9 => ?_)
      refine z_getO fx 10 4 5 tw9 lf8_174 fk10_4 d8_turnOn_27 ?_
      refine z_iload_n fx (k := 1) (i := 1) rfl rfl d8_turnOn_30 ?_
      obtain ⟨t10, e11, e5⟩ := zinv e5
      refine z_iald fx (ok10_4 hO tw9) e11 d8_turnOn_31 ?_
      refine z_icmp_ge fx d8_turnOn_32 (fun c12 => ?_) (fun c12 => ?_)
      · replace e5 := zif_f c12 e5
        cases e5
        cases hl6
        exact kx8
      · replace e5 := zif_t c12 e5
        refine z_aload_n fx (k := 0) (i := 0) rfl rfl d8_turnOn_35 ?_
        obtain ⟨w11, e13, e5⟩ := zinv e5
        refine z_getR fx 8 12 812 17 ho lf8_62 ⟨fk8_12, rfl⟩ e13 d8_turnOn_36 (fun tw11 => ?_)
        refine z_iload_n fx (k := 1) (i := 1) rfl rfl d8_turnOn_39 ?_
        refine z_iload_n fx (k := 2) (i := 2) rfl rfl d8_turnOn_40 ?_
        obtain ⟨t12, e14, e5⟩ := zinv e5
        refine z_cVr fx (c10_endOf (zLo X) (zDo X) Sh top hO w11 v_b v_p_5 μ6 _ tw11 e14) mv10_endOf ml8_176 tw11 rfl rfl rfl rfl d8_turnOn_41 ?_
        refine z_istore_n fx (k := 3) (i := 3) rfl rfl (lv' := [(0, .ref o_), (1, .int v_b), (2, .int v_p_5), (3, .int t12)]) rfl rfl d8_turnOn_44 ?_
        refine z_aload_n fx (k := 0) (i := 0) rfl rfl d8_turnOn_45 ?_
        refine z_iload_n fx (k := 3) (i := 3) rfl rfl d8_turnOn_46 ?_
        obtain ⟨t13, e15, e5⟩ := zinv e5
        refine z_cVr fx (c8_isUp (zLo X) (zDo X) Sh top hO o_ t12 μ6 _ ho e15) mv8_isUp ml8_141 ho rfl rfl rfl rfl d8_turnOn_47 ?_
        refine z_ifb_eq fx d8_turnOn_50 (fun c16 => ?_) (fun c16 => ?_)
        · replace e5 := zif_f c16 e5
          refine z_take 3 (lv' := [(0, .ref o_), (1, .int v_b), (2, .int v_p_5)]) rfl ?_
          obtain ⟨v_p_14, e17, e5⟩ := zinv e5
          replace e17 := Option.some.inj e17
          refine z_iinc fx (i := 2) (x := v_p_5) (v := v_p_14) rfl (by rw [in1]; exact e17) rfl (lv' := [(0, .ref o_), (1, .int v_b), (2, .int v_p_14)]) rfl rfl d8_turnOn_79 ?_
          cases e5
          refine z_goto fx d8_turnOn_82 ?_
          exact ih9 _ _ hl6
        · replace e5 := zif_t c16 e5
          refine z_aload_n fx (k := 0) (i := 0) rfl rfl d8_turnOn_53 ?_
          refine z_iload_n fx (k := 3) (i := 3) rfl rfl d8_turnOn_54 ?_
          obtain ⟨μ15, e18, e5⟩ := zinv e5
          refine z_cVv fx (c8_comeUp (zLo X) (zDo X) Sh top hO o_ t12 μ6 _ ho e18) mv8_comeUp ml8_389 ho rfl rfl rfl rfl d8_turnOn_55 ?_
          refine z_aload_n fx (k := 0) (i := 0) rfl rfl d8_turnOn_58 ?_
          refine z_iload_n fx (k := 3) (i := 3) rfl rfl d8_turnOn_59 ?_
          refine z_iconst fx (v := 1) ic1 d8_turnOn_60 ?_
          refine z_ixor fx d8_turnOn_61 ?_
          obtain ⟨μ16, e19, e5⟩ := zinv e5
          refine z_cVv fx (c8_comeUp (zLo X) (zDo X) Sh top hO o_ (t12 ^^^ 1) μ15 _ ho e19) mv8_comeUp ml8_389 ho rfl rfl rfl rfl d8_turnOn_62 ?_
          refine z_aload_n fx (k := 0) (i := 0) rfl rfl d8_turnOn_65 ?_
          refine z_getO fx 8 8 9 ho lf8_46 fk8_8 d8_turnOn_66 ?_
          refine z_aload_n fx (k := 0) (i := 0) rfl rfl d8_turnOn_69 ?_
          obtain ⟨w17, e20, e5⟩ := zinv e5
          refine z_getR fx 8 12 812 17 ho lf8_62 ⟨fk8_12, rfl⟩ e20 d8_turnOn_70 (fun tw17 => ?_)
          refine z_iload_n fx (k := 3) (i := 3) rfl rfl d8_turnOn_73 ?_
          obtain ⟨t18, e21, e5⟩ := zinv e5
          refine z_cVr fx (c10_farBridge (zLo X) (zDo X) Sh top hO w17 t12 μ16 _ tw17 e21) mv10_farBridge ml8_161 tw17 rfl rfl rfl rfl d8_turnOn_74 ?_
          refine z_iconst fx (v := 1) ic1 d8_turnOn_77 ?_
          refine z_top (show Value.int 1 = .int (bI true) from rfl) ?_
          obtain ⟨μ19, e22, e5⟩ := zinv e5
          refine z_zast fx (ok8_8 hO ho) e22 d8_turnOn_78 ?_
          refine z_take 3 (lv' := [(0, .ref o_), (1, .int v_b), (2, .int v_p_5)]) rfl ?_
          obtain ⟨v_p_20, e23, e5⟩ := zinv e5
          replace e23 := Option.some.inj e23
          refine z_iinc fx (i := 2) (x := v_p_5) (v := v_p_20) rfl (by rw [in1]; exact e23) rfl (lv' := [(0, .ref o_), (1, .int v_b), (2, .int v_p_20)]) rfl rfl d8_turnOn_79 ?_
          cases e5
          refine z_goto fx d8_turnOn_82 ?_
          exact ih9 _ _ hl6
  exact klr7 _ _ _ e26
theorem d8_changePrio_0 : zd cX8_changePrio 0 (.aload_n 0) 1 1 := by decide +kernel
theorem d8_changePrio_1 : zd cX8_changePrio 1 (.getfield 11) 3 4 := by decide +kernel
theorem d8_changePrio_4 : zd cX8_changePrio 4 (.iload_n 1) 1 5 := by decide +kernel
theorem d8_changePrio_5 : zd cX8_changePrio 5 (.aaload) 1 6 := by decide +kernel
theorem d8_changePrio_6 : zd cX8_changePrio 6 (.iload_n 2) 1 7 := by decide +kernel
theorem d8_changePrio_7 : zd cX8_changePrio 7 (.putfield 111) 3 10 := by decide +kernel
theorem d8_changePrio_10 : zd cX8_changePrio 10 (.aload_n 0) 1 11 := by decide +kernel
theorem d8_changePrio_11 : zd cX8_changePrio 11 (.getfield 46) 3 14 := by decide +kernel
theorem d8_changePrio_14 : zd cX8_changePrio 14 (.iload_n 1) 1 15 := by decide +kernel
theorem d8_changePrio_15 : zd cX8_changePrio 15 (.iconst 1) 1 16 := by decide +kernel
theorem d8_changePrio_16 : zd cX8_changePrio 16 (.bastore) 1 17 := by decide +kernel
theorem d8_changePrio_17 : zd cX8_changePrio 17 (.aload_n 0) 1 18 := by decide +kernel
theorem d8_changePrio_18 : zd cX8_changePrio 18 (.invokevirtual 155) 3 21 := by decide +kernel
theorem d8_changePrio_21 : zd cX8_changePrio 21 (.return_) 1 22 := by decide +kernel
set_option maxHeartbeats 4000000 in
set_option maxRecDepth 20000 in
theorem c8_changePrio (l : Launch) (D : zDt) (Sh : zSh) (top : Nat) (hO : zOK Sh) (o_ : Nat) (v_b : Int32) (v_prio : Int32) (μ : zM) (μ_ : zM) (ho : (Sh o_).1 = 15) (h : f8_changePrio o_ v_b v_prio μ = some μ_) : zMet l D zK1 yX8_changePrio cX8_changePrio 3 none (zrm 5 116) [.ref o_, .int v_b, .int v_prio] Sh top μ none Sh top μ_ 0 0 := by
  refine zMet_of (by decide) (Nat.le_of_ble_eq_true rfl) fun X hX1 hX2 fx fin => ?_
  subst hX1; subst hX2
  replace fx : zFix X cX8_changePrio RX8 (zrm 5 116) 3 := fx
  show zZ zK1 X (zT0 Sh top) μ 0 [(0, .ref o_), (1, .int v_b), (2, .int v_prio)] []
  unfold f8_changePrio at h
  refine z_aload_n fx (k := 0) (i := 0) rfl rfl d8_changePrio_0 ?_
  refine z_getO fx 8 0 1 ho lf8_11 fk8_0 d8_changePrio_1 ?_
  refine z_iload_n fx (k := 1) (i := 1) rfl rfl d8_changePrio_4 ?_
  obtain ⟨j1, e1, h⟩ := zinv h
  refine z_aald fx 0 (by decide) (ok8_0 hO ho) e1 (v := .ref (o_ + 13 + 3 * j1)) rfl d8_changePrio_5 ?_
  refine z_iload_n fx (k := 2) (i := 2) rfl rfl d8_changePrio_6 ?_
  obtain ⟨μ2, e2, h⟩ := zinv h
  refine z_putI fx (ci := 0) 5 (okA0 hO (ok8_0 hO ho) (rI_lt e1)) lf8_111 fp0_5 e2 d8_changePrio_7 ?_
  refine z_aload_n fx (k := 0) (i := 0) rfl rfl d8_changePrio_10 ?_
  refine z_getO fx 8 8 9 ho lf8_46 fk8_8 d8_changePrio_11 ?_
  refine z_iload_n fx (k := 1) (i := 1) rfl rfl d8_changePrio_14 ?_
  refine z_iconst fx (v := 1) ic1 d8_changePrio_15 ?_
  refine z_top (show Value.int 1 = .int (bI true) from rfl) ?_
  obtain ⟨μ3, e3, h⟩ := zinv h
  refine z_zast fx (ok8_8 hO ho) e3 d8_changePrio_16 ?_
  refine z_aload_n fx (k := 0) (i := 0) rfl rfl d8_changePrio_17 ?_
  obtain ⟨μ4, e4, h⟩ := zinv h
  refine z_cVv fx (c8_chooseTouched (zLo X) (zDo X) Sh top hO o_ μ3 _ ho e4) mv8_chooseTouched ml8_155 ho rfl rfl rfl rfl d8_changePrio_18 ?_
  cases h
  exact z_return fx fin d8_changePrio_21
theorem d8_turnAge_0 : zd cX8_turnAge 0 (.aload_n 0) 1 1 := by decide +kernel
theorem d8_turnAge_1 : zd cX8_turnAge 1 (.getfield 11) 3 4 := by decide +kernel
theorem d8_turnAge_4 : zd cX8_turnAge 4 (.iload_n 1) 1 5 := by decide +kernel
theorem d8_turnAge_5 : zd cX8_turnAge 5 (.aaload) 1 6 := by decide +kernel
theorem d8_turnAge_6 : zd cX8_turnAge 6 (.getfield 104) 3 9 := by decide +kernel
theorem d8_turnAge_9 : zd cX8_turnAge 9 (.istore_n 2) 1 10 := by decide +kernel
theorem d8_turnAge_10 : zd cX8_turnAge 10 (.iload_n 2) 1 11 := by decide +kernel
theorem d8_turnAge_11 : zj cX8_turnAge 11 (.ifCond .eq 8) 8 14 19 := by decide +kernel
theorem d8_turnAge_14 : zd cX8_turnAge 14 (.aload_n 0) 1 15 := by decide +kernel
theorem d8_turnAge_15 : zd cX8_turnAge 15 (.iload_n 1) 1 16 := by decide +kernel
theorem d8_turnAge_16 : zd cX8_turnAge 16 (.invokevirtual 392) 3 19 := by decide +kernel
theorem d8_turnAge_19 : zd cX8_turnAge 19 (.aload_n 0) 1 20 := by decide +kernel
theorem d8_turnAge_20 : zd cX8_turnAge 20 (.getfield 11) 3 23 := by decide +kernel
theorem d8_turnAge_23 : zd cX8_turnAge 23 (.iload_n 1) 1 24 := by decide +kernel
theorem d8_turnAge_24 : zd cX8_turnAge 24 (.aaload) 1 25 := by decide +kernel
theorem d8_turnAge_25 : zd cX8_turnAge 25 (.aload_n 0) 1 26 := by decide +kernel
theorem d8_turnAge_26 : zd cX8_turnAge 26 (.getfield 11) 3 29 := by decide +kernel
theorem d8_turnAge_29 : zd cX8_turnAge 29 (.iload_n 1) 1 30 := by decide +kernel
theorem d8_turnAge_30 : zd cX8_turnAge 30 (.aaload) 1 31 := by decide +kernel
theorem d8_turnAge_31 : zd cX8_turnAge 31 (.getfield 117) 3 34 := by decide +kernel
theorem d8_turnAge_34 : zj cX8_turnAge 34 (.ifCond .ne 7) 7 37 41 := by decide +kernel
theorem d8_turnAge_37 : zd cX8_turnAge 37 (.iconst 1) 1 38 := by decide +kernel
theorem d8_turnAge_38 : zj cX8_turnAge 38 (.goto 4) 4 41 42 := by decide +kernel
theorem d8_turnAge_41 : zd cX8_turnAge 41 (.iconst 0) 1 42 := by decide +kernel
theorem d8_turnAge_42 : zd cX8_turnAge 42 (.putfield 117) 3 45 := by decide +kernel
theorem d8_turnAge_45 : zd cX8_turnAge 45 (.iload_n 2) 1 46 := by decide +kernel
theorem d8_turnAge_46 : zj cX8_turnAge 46 (.ifCond .eq 8) 8 49 54 := by decide +kernel
theorem d8_turnAge_49 : zd cX8_turnAge 49 (.aload_n 0) 1 50 := by decide +kernel
theorem d8_turnAge_50 : zd cX8_turnAge 50 (.iload_n 1) 1 51 := by decide +kernel
theorem d8_turnAge_51 : zd cX8_turnAge 51 (.invokevirtual 395) 3 54 := by decide +kernel
theorem d8_turnAge_54 : zd cX8_turnAge 54 (.return_) 1 55 := by decide +kernel
set_option maxHeartbeats 4000000 in
set_option maxRecDepth 20000 in
theorem c8_turnAge (l : Launch) (D : zDt) (Sh : zSh) (top : Nat) (hO : zOK Sh) (o_ : Nat) (v_b : Int32) (μ : zM) (μ_ : zM) (ho : (Sh o_).1 = 15) (h : f8_turnAge o_ v_b μ = some μ_) : zMet l D zK1 yX8_turnAge cX8_turnAge 3 none (zrm 6 139) [.ref o_, .int v_b] Sh top μ none Sh top μ_ 0 0 := by
  refine zMet_of (by decide) (Nat.le_of_ble_eq_true rfl) fun X hX1 hX2 fx fin => ?_
  subst hX1; subst hX2
  replace fx : zFix X cX8_turnAge RX8 (zrm 6 139) 3 := fx
  show zZ zK1 X (zT0 Sh top) μ 0 [(0, .ref o_), (1, .int v_b)] []
  unfold f8_turnAge at h
  refine z_aload_n fx (k := 0) (i := 0) rfl rfl d8_turnAge_0 ?_
  refine z_getO fx 8 0 1 ho lf8_11 fk8_0 d8_turnAge_1 ?_
  refine z_iload_n fx (k := 1) (i := 1) rfl rfl d8_turnAge_4 ?_
  obtain ⟨j1, e1, h⟩ := zinv h
  refine z_aald fx 0 (by decide) (ok8_0 hO ho) e1 (v := .ref (o_ + 13 + 3 * j1)) rfl d8_turnAge_5 ?_
  refine z_getB fx 0 3 3 (okA0 hO (ok8_0 hO ho) (rI_lt e1)) lf8_104 ⟨fk0_3, rfl⟩ d8_turnAge_6 ?_
  obtain ⟨v_on_2, e2, h⟩ := zinv h
  replace e2 := Option.some.inj e2
  refine z_top (congrArg (fun z => Value.int (bI z)) e2) ?_
  refine z_istore_n fx (k := 2) (i := 2) rfl rfl (lv' := [(0, .ref o_), (1, .int v_b), (2, .int (bI v_on_2))]) rfl rfl d8_turnAge_9 ?_
  obtain ⟨μ3, e3, h⟩ := zinv h
  have k4 : zZ zK1 X (zT0 Sh top) μ3 19 [(0, .ref o_), (1, .int v_b), (2, .int (bI v_on_2))] [] := by
    refine z_aload_n fx (k := 0) (i := 0) rfl rfl d8_turnAge_19 ?_
    refine z_getO fx 8 0 1 ho lf8_11 fk8_0 d8_turnAge_20 ?_
    refine z_iload_n fx (k := 1) (i := 1) rfl rfl d8_turnAge_23 ?_
    obtain ⟨j4, e5, h⟩ := zinv h
    refine z_aald fx 0 (by decide) (ok8_0 hO ho) e5 (v := .ref (o_ + 13 + 3 * j4)) rfl d8_turnAge_24 ?_
    obtain ⟨b5, e6, h⟩ := zinv h
    have k7 : zZ zK1 X (zT0 Sh top) μ3 42 [(0, .ref o_), (1, .int v_b), (2, .int (bI v_on_2))] [.int (bI b5), .ref (o_ + 13 + 3 * j4)] := by
      obtain ⟨μ7, e11, h⟩ := zinv h
      refine z_putB fx (ci := 0) 4 (okA0 hO (ok8_0 hO ho) (rI_lt e5)) lf8_117 fp0_4 e11 d8_turnAge_42 ?_
      refine z_iload_n fx (k := 2) (i := 2) rfl rfl d8_turnAge_45 ?_
      refine z_ifb_eq fx d8_turnAge_46 (fun c12 => ?_) (fun c12 => ?_)
      · replace h := zif_f c12 h
        cases h
        exact z_return fx fin d8_turnAge_54
      · replace h := zif_t c12 h
        refine z_aload_n fx (k := 0) (i := 0) rfl rfl d8_turnAge_49 ?_
        refine z_iload_n fx (k := 1) (i := 1) rfl rfl d8_turnAge_50 ?_
        obtain ⟨μ8, e13, h⟩ := zinv h
        refine z_cVv fx (c8_turnOn (zLo X) (zDo X) Sh top hO o_ v_b μ7 _ ho e13) mv8_turnOn ml8_395 ho rfl rfl rfl rfl d8_turnAge_51 ?_
        cases h
        exact z_return fx fin d8_turnAge_54
    have kt8 : b5 = true → zZ zK1 X (zT0 Sh top) μ3 37 [(0, .ref o_), (1, .int v_b), (2, .int (bI v_on_2))] [.ref (o_ + 13 + 3 * j4)] := by
      intro hc
      refine z_iconst fx (v := 1) ic1 d8_turnAge_37 ?_
      refine z_goto fx d8_turnAge_38 ?_
      exact z_top (congrArg Value.int (show 1 = bI b5 by rw [hc]; rfl)) k7
    have kf8 : b5 = false → zZ zK1 X (zT0 Sh top) μ3 41 [(0, .ref o_), (1, .int v_b), (2, .int (bI v_on_2))] [.ref (o_ + 13 + 3 * j4)] := by
      intro hc
      refine z_iconst fx (v := 0) ic0 d8_turnAge_41 ?_
      exact z_top (congrArg Value.int (show 0 = bI b5 by rw [hc]; rfl)) k7
    refine z_aload_n fx (k := 0) (i := 0) rfl rfl d8_turnAge_25 ?_
    refine z_getO fx 8 0 1 ho lf8_11 fk8_0 d8_turnAge_26 ?_
    refine z_iload_n fx (k := 1) (i := 1) rfl rfl d8_turnAge_29 ?_
    obtain ⟨j6, e9, e6⟩ := zinv e6
    refine z_aald fx 0 (by decide) (ok8_0 hO ho) e9 (v := .ref (o_ + 13 + 3 * j6)) rfl d8_turnAge_30 ?_
    refine z_getB fx 0 4 4 (okA0 hO (ok8_0 hO ho) (rI_lt e9)) lf8_117 ⟨fk0_4, rfl⟩ d8_turnAge_31 ?_
    cases e6
    refine z_ifb_ne fx d8_turnAge_34 (fun c10 => ?_) (fun c10 => ?_)
    · exact kf8 (by rw [c10]; rfl)
    · exact kt8 (by rw [c10]; rfl)
  clear h
  refine z_iload_n fx (k := 2) (i := 2) rfl rfl d8_turnAge_10 ?_
  refine z_ifb_eq fx d8_turnAge_11 (fun c14 => ?_) (fun c14 => ?_)
  · replace e3 := zif_f c14 e3
    cases e3
    exact k4
  · replace e3 := zif_t c14 e3
    refine z_aload_n fx (k := 0) (i := 0) rfl rfl d8_turnAge_14 ?_
    refine z_iload_n fx (k := 1) (i := 1) rfl rfl d8_turnAge_15 ?_
    obtain ⟨μ9, e15, e3⟩ := zinv e3
    refine z_cVv fx (c8_turnOff (zLo X) (zDo X) Sh top hO o_ v_b μ _ ho e15) mv8_turnOff ml8_392 ho rfl rfl rfl rfl d8_turnAge_16 ?_
    cases e3
    exact k4
