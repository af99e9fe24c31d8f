theorem d11_bridge_0 : zd cX11_bridge 0 (.aload_n 0) 1 1 := by decide +kernel
theorem d11_bridge_1 : zd cX11_bridge 1 (.getfield 56) 3 4 := by decide +kernel
theorem d11_bridge_4 : zd cX11_bridge 4 (.iload_n 1) 1 5 := by decide +kernel
theorem d11_bridge_5 : zd cX11_bridge 5 (.invokevirtual 161) 3 8 := by decide +kernel
theorem d11_bridge_8 : zj cX11_bridge 8 (.ifCond .ne 5) 5 11 13 := by decide +kernel
theorem d11_bridge_11 : zd cX11_bridge 11 (.iconst (-1)) 1 12 := by decide +kernel
theorem d11_bridge_12 : zd cX11_bridge 12 (.ireturn) 1 13 := by decide +kernel
theorem d11_bridge_13 : zd cX11_bridge 13 (.aload_n 0) 1 14 := by decide +kernel
theorem d11_bridge_14 : zd cX11_bridge 14 (.getfield 75) 3 17 := by decide +kernel
theorem d11_bridge_17 : zd cX11_bridge 17 (.getfield 195) 3 20 := by decide +kernel
theorem d11_bridge_20 : zd cX11_bridge 20 (.iload_n 1) 1 21 := by decide +kernel
theorem d11_bridge_21 : zd cX11_bridge 21 (.aaload) 1 22 := by decide +kernel
theorem d11_bridge_22 : zd cX11_bridge 22 (.astore_n 3) 1 23 := by decide +kernel
theorem d11_bridge_23 : zd cX11_bridge 23 (.iload_n 2) 1 24 := by decide +kernel
theorem d11_bridge_24 : decode cX11_bridge 24 = .ok (.tableswitch 73 0 3 #[32, 37, 47, 60], 32) := by decide +kernel
theorem d11_bridge_56 : zd cX11_bridge 56 (.aload_n 3) 1 57 := by decide +kernel
theorem d11_bridge_57 : zd cX11_bridge 57 (.invokevirtual 198) 3 60 := by decide +kernel
theorem d11_bridge_60 : zd cX11_bridge 60 (.ireturn) 1 61 := by decide +kernel
theorem d11_bridge_61 : zd cX11_bridge 61 (.aload_n 0) 1 62 := by decide +kernel
theorem d11_bridge_62 : zd cX11_bridge 62 (.getfield 56) 3 65 := by decide +kernel
theorem d11_bridge_65 : zd cX11_bridge 65 (.getfield 203) 3 68 := by decide +kernel
theorem d11_bridge_68 : zd cX11_bridge 68 (.iload_n 1) 1 69 := by decide +kernel
theorem d11_bridge_69 : zd cX11_bridge 69 (.iaload) 1 70 := by decide +kernel
theorem d11_bridge_70 : zd cX11_bridge 70 (.ireturn) 1 71 := by decide +kernel
theorem d11_bridge_71 : zd cX11_bridge 71 (.aload_n 3) 1 72 := by decide +kernel
theorem d11_bridge_72 : zd cX11_bridge 72 (.getfield 206) 3 75 := by decide +kernel
theorem d11_bridge_75 : zj cX11_bridge 75 (.ifCond .eq 7) 7 78 82 := by decide +kernel
theorem d11_bridge_78 : zd cX11_bridge 78 (.iconst 1) 1 79 := by decide +kernel
theorem d11_bridge_79 : zj cX11_bridge 79 (.goto 4) 4 82 83 := by decide +kernel
theorem d11_bridge_82 : zd cX11_bridge 82 (.iconst 0) 1 83 := by decide +kernel
theorem d11_bridge_83 : zd cX11_bridge 83 (.ireturn) 1 84 := by decide +kernel
theorem d11_bridge_84 : zd cX11_bridge 84 (.aload_n 3) 1 85 := by decide +kernel
theorem d11_bridge_85 : zd cX11_bridge 85 (.getfield 209) 3 88 := by decide +kernel
theorem d11_bridge_88 : zj cX11_bridge 88 (.ifCond .eq 7) 7 91 95 := by decide +kernel
theorem d11_bridge_91 : zd cX11_bridge 91 (.iconst 1) 1 92 := by decide +kernel
theorem d11_bridge_92 : zj cX11_bridge 92 (.goto 4) 4 95 96 := by decide +kernel
theorem d11_bridge_95 : zd cX11_bridge 95 (.iconst 0) 1 96 := by decide +kernel
theorem d11_bridge_96 : zd cX11_bridge 96 (.ireturn) 1 97 := by decide +kernel
theorem d11_bridge_97 : zd cX11_bridge 97 (.aload_n 3) 1 98 := by decide +kernel
theorem d11_bridge_98 : zd cX11_bridge 98 (.iload_n 2) 1 99 := by decide +kernel
theorem d11_bridge_99 : zd cX11_bridge 99 (.invokevirtual 212) 3 102 := by decide +kernel
theorem d11_bridge_102 : zd cX11_bridge 102 (.ireturn) 1 103 := by decide +kernel
set_option maxHeartbeats 4000000 in
set_option maxRecDepth 20000 in
theorem c11_bridge (l : Launch) (D : zDt) (Sh : zSh) (top : Nat) (hO : zOK Sh) (o_ : Nat) (v_bridge : Int32) (v_what : Int32) (μ : zM) (r_ : Int32) (ho : (Sh o_).1 = 18) (h : f11_bridge o_ v_bridge v_what μ = some r_) : zMet l D zK1 yX11_bridge cX11_bridge 4 (some .int) (zrm 1 21) [.ref o_, .int v_bridge, .int v_what] Sh top μ (some (.int r_)) Sh top μ 0 0 := by
  refine zMet_of (by decide) (Nat.le_of_ble_eq_true rfl) fun X hX1 hX2 fx fin => ?_
  subst hX1; subst hX2
  replace fx : zFix X cX11_bridge RX11 (zrm 1 21) 4 := fx
  show zZ zK1 X (zT0 Sh top) μ 0 [(0, .ref o_), (1, .int v_bridge), (2, .int v_what)] []
  unfold f11_bridge at h
  refine z_aload_n fx (k := 0) (i := 0) rfl rfl d11_bridge_0 ?_
  obtain ⟨w1, e1, h⟩ := zinv h
  refine z_getR fx 11 11 1111 17 ho lf11_56 ⟨fk11_11, rfl⟩ e1 d11_bridge_1 (fun tw1 => ?_)
  refine z_iload_n fx (k := 1) (i := 1) rfl rfl d11_bridge_4 ?_
  obtain ⟨t2, e2, h⟩ := zinv h
  refine z_cVr fx (c10_isBridge (zLo X) (zDo X) Sh top hO w1 v_bridge μ _ tw1 e2) mv10_isBridge ml11_161 tw1 rfl rfl rfl rfl d11_bridge_5 ?_
  refine z_ifb_ne fx d11_bridge_8 (fun c3 => ?_) (fun c3 => ?_)
  · replace h := zif_t c3 h
    refine z_aload_n fx (k := 0) (i := 0) rfl rfl d11_bridge_13 ?_
    refine z_getO fx 11 3 51 ho lf11_75 fk11_3 d11_bridge_14 ?_
    refine z_getO fx 8 0 1 (ok11_3 hO ho) lf11_195 fk8_0 d11_bridge_17 ?_
    refine z_iload_n fx (k := 1) (i := 1) rfl rfl d11_bridge_20 ?_
    obtain ⟨j3, e4, h⟩ := zinv h
    refine z_aald fx 0 (by decide) (ok8_0 hO (ok11_3 hO ho)) e4 (v := .ref (o_ + 64 + 3 * j3)) rfl d11_bridge_21 ?_
    refine z_astore_n fx (k := 3) (i := 3) rfl rfl (lv' := [(0, .ref o_), (1, .int v_bridge), (2, .int v_what), (3, .ref (o_ + 64 + 3 * j3))]) rfl rfl d11_bridge_22 ?_
    refine z_iload_n fx (k := 2) (i := 2) rfl rfl d11_bridge_23 ?_
    cases c5 : ceq v_what 0 with
    | true =>
      replace h := zif_t c5 h
      refine z_table fx d11_bridge_24 (off := 32) (tgt := 56) (by rw [ceq_of c5]; decide) (by decide) ?_
      refine z_aload_n fx (k := 3) (i := 3) rfl rfl d11_bridge_56 ?_
      obtain ⟨t4, e6, h⟩ := zinv h
      refine z_cVr fx (c0_id (zLo X) (zDo X) Sh top hO (o_ + 64 + 3 * j3) μ _ (okA0 hO (ok8_0 hO (ok11_3 hO ho)) (rI_lt e4)) e6) mv0_id ml11_198 (okA0 hO (ok8_0 hO (ok11_3 hO ho)) (rI_lt e4)) rfl rfl rfl rfl d11_bridge_57 ?_
      cases h
      exact z_ireturn fx fin d11_bridge_60
    | false =>
    replace h := zif_f c5 h
    cases c7 : ceq v_what 1 with
    | true =>
      replace h := zif_t c7 h
      refine z_table fx d11_bridge_24 (off := 37) (tgt := 61) (by rw [ceq_of c7]; decide) (by decide) ?_
      refine z_aload_n fx (k := 0) (i := 0) rfl rfl d11_bridge_61 ?_
      obtain ⟨w5, e8, h⟩ := zinv h
      refine z_getR fx 11 11 1111 17 ho lf11_56 ⟨fk11_11, rfl⟩ e8 d11_bridge_62 (fun tw5 => ?_)
      refine z_getO fx 10 4 5 tw5 lf11_203 fk10_4 d11_bridge_65 ?_
      refine z_iload_n fx (k := 1) (i := 1) rfl rfl d11_bridge_68 ?_
      obtain ⟨t6, e9, h⟩ := zinv h
      refine z_iald fx (ok10_4 hO tw5) e9 d11_bridge_69 ?_
      cases h
      exact z_ireturn fx fin d11_bridge_70
    | false =>
    replace h := zif_f c7 h
    cases c10 : ceq v_what 2 with
    | true =>
      replace h := zif_t c10 h
      refine z_table fx d11_bridge_24 (off := 47) (tgt := 71) (by rw [ceq_of c10]; decide) (by decide) ?_
      obtain ⟨x7, e11, h⟩ := zinv h
      have k12 : zZ zK1 X (zT0 Sh top) μ 83 [(0, .ref o_), (1, .int v_bridge), (2, .int v_what), (3, .ref (o_ + 64 + 3 * j3))] [.int x7] := by
        cases h
        exact z_ireturn fx fin d11_bridge_83
      refine z_aload_n fx (k := 3) (i := 3) rfl rfl d11_bridge_71 ?_
      refine z_getB fx 0 4 4 (okA0 hO (ok8_0 hO (ok11_3 hO ho)) (rI_lt e4)) lf11_206 ⟨fk0_4, rfl⟩ d11_bridge_72 ?_
      refine z_ifb_eq fx d11_bridge_75 (fun c13 => ?_) (fun c13 => ?_)
      · replace e11 := zif_f c13 e11
        refine z_iconst fx (v := 0) ic0 d11_bridge_82 ?_
        cases e11
        exact k12
      · replace e11 := zif_t c13 e11
        refine z_iconst fx (v := 1) ic1 d11_bridge_78 ?_
        cases e11
        refine z_goto fx d11_bridge_79 ?_
        exact k12
    | false =>
    replace h := zif_f c10 h
    cases c14 : ceq v_what 3 with
    | true =>
      replace h := zif_t c14 h
      refine z_table fx d11_bridge_24 (off := 60) (tgt := 84) (by rw [ceq_of c14]; decide) (by decide) ?_
      obtain ⟨x8, e15, h⟩ := zinv h
      have k16 : zZ zK1 X (zT0 Sh top) μ 96 [(0, .ref o_), (1, .int v_bridge), (2, .int v_what), (3, .ref (o_ + 64 + 3 * j3))] [.int x8] := by
        cases h
        exact z_ireturn fx fin d11_bridge_96
      refine z_aload_n fx (k := 3) (i := 3) rfl rfl d11_bridge_84 ?_
      refine z_getB fx 0 3 3 (okA0 hO (ok8_0 hO (ok11_3 hO ho)) (rI_lt e4)) lf11_209 ⟨fk0_3, rfl⟩ d11_bridge_85 ?_
      refine z_ifb_eq fx d11_bridge_88 (fun c17 => ?_) (fun c17 => ?_)
      · replace e15 := zif_f c17 e15
        refine z_iconst fx (v := 0) ic0 d11_bridge_95 ?_
        cases e15
        exact k16
      · replace e15 := zif_t c17 e15
        refine z_iconst fx (v := 1) ic1 d11_bridge_91 ?_
        cases e15
        refine z_goto fx d11_bridge_92 ?_
        exact k16
    | false =>
    replace h := zif_f c14 h
    have hn0 := zne c5 (k := 0) (by decide)
    have hn1 := zne c7 (k := 1) (by decide)
    have hn2 := zne c10 (k := 2) (by decide)
    have hn3 := zne c14 (k := 3) (by decide)
    refine z_table fx d11_bridge_24 (off := 73) (tgt := 97) ⟨zsw_out (by omega), by decide⟩ (by decide) ?_
    refine z_aload_n fx (k := 3) (i := 3) rfl rfl d11_bridge_97 ?_
    refine z_iload_n fx (k := 2) (i := 2) rfl rfl d11_bridge_98 ?_
    obtain ⟨t9, e18, h⟩ := zinv h
    refine z_cVr fx (c0_tellChosen (zLo X) (zDo X) Sh top hO (o_ + 64 + 3 * j3) v_what μ _ (okA0 hO (ok8_0 hO (ok11_3 hO ho)) (rI_lt e4)) e18) mv0_tellChosen ml11_212 (okA0 hO (ok8_0 hO (ok11_3 hO ho)) (rI_lt e4)) rfl rfl rfl rfl d11_bridge_99 ?_
    cases h
    exact z_ireturn fx fin d11_bridge_102
  · replace h := zif_f c3 h
    refine z_iconst fx (v := (-1)) icm1 d11_bridge_11 ?_
    cases h
    exact z_ireturn fx fin d11_bridge_12
theorem d10_isPort_0 : zd cX10_isPort 0 (.aload_n 0) 1 1 := by decide +kernel
theorem d10_isPort_1 : zd cX10_isPort 1 (.iload_n 1) 1 2 := by decide +kernel
theorem d10_isPort_2 : zd cX10_isPort 2 (.invokevirtual 75) 3 5 := by decide +kernel
theorem d10_isPort_5 : zj cX10_isPort 5 (.ifCond .eq 21) 21 8 26 := by decide +kernel
theorem d10_isPort_8 : zd cX10_isPort 8 (.iload_n 2) 1 9 := by decide +kernel
theorem d10_isPort_9 : zj cX10_isPort 9 (.ifCond .lt 17) 17 12 26 := by decide +kernel
theorem d10_isPort_12 : zd cX10_isPort 12 (.iload_n 2) 1 13 := by decide +kernel
theorem d10_isPort_13 : zd cX10_isPort 13 (.aload_n 0) 1 14 := by decide +kernel
theorem d10_isPort_14 : zd cX10_isPort 14 (.getfield 25) 3 17 := by decide +kernel
theorem d10_isPort_17 : zd cX10_isPort 17 (.iload_n 1) 1 18 := by decide +kernel
theorem d10_isPort_18 : zd cX10_isPort 18 (.iaload) 1 19 := by decide +kernel
theorem d10_isPort_19 : zj cX10_isPort 19 (.if_icmp .ge 7) 7 22 26 := by decide +kernel
theorem d10_isPort_22 : zd cX10_isPort 22 (.iconst 1) 1 23 := by decide +kernel
theorem d10_isPort_23 : zj cX10_isPort 23 (.goto 4) 4 26 27 := by decide +kernel
theorem d10_isPort_26 : zd cX10_isPort 26 (.iconst 0) 1 27 := by decide +kernel
theorem d10_isPort_27 : zd cX10_isPort 27 (.ireturn) 1 28 := by decide +kernel
set_option maxHeartbeats 4000000 in
set_option maxRecDepth 20000 in
theorem c10_isPort (l : Launch) (D : zDt) (Sh : zSh) (top : Nat) (hO : zOK Sh) (o_ : Nat) (v_bridge : Int32) (v_port : Int32) (μ : zM) (r_ : Bool) (ho : (Sh o_).1 = 17) (h : f10_isPort o_ v_bridge v_port μ = some r_) : zMet l D zK1 yX10_isPort cX10_isPort 3 (some .boolean) (zrm 1 21) [.ref o_, .int v_bridge, .int v_port] Sh top μ (some (.int (bI r_))) Sh top μ 0 0 := by
  refine zMet_of (by decide) (Nat.le_of_ble_eq_true rfl) fun X hX1 hX2 fx fin => ?_
  subst hX1; subst hX2
  replace fx : zFix X cX10_isPort RX10 (zrm 1 21) 3 := fx
  show zZ zK1 X (zT0 Sh top) μ 0 [(0, .ref o_), (1, .int v_bridge), (2, .int v_port)] []
  unfold f10_isPort at h
  obtain ⟨b1, e1, h⟩ := zinv h
  have k2 : zZ zK1 X (zT0 Sh top) μ 27 [(0, .ref o_), (1, .int v_bridge), (2, .int v_port)] [.int (bI b1)] := by
    cases h
    exact z_zreturn fx fin d10_isPort_27
  have kt3 : b1 = true → zZ zK1 X (zT0 Sh top) μ 22 [(0, .ref o_), (1, .int v_bridge), (2, .int v_port)] [] := by
    intro hc
    refine z_iconst fx (v := 1) ic1 d10_isPort_22 ?_
    refine z_goto fx d10_isPort_23 ?_
    exact z_top (congrArg Value.int (show 1 = bI b1 by rw [hc]; rfl)) k2
  have kf3 : b1 = false → zZ zK1 X (zT0 Sh top) μ 26 [(0, .ref o_), (1, .int v_bridge), (2, .int v_port)] [] := by
    intro hc
    refine z_iconst fx (v := 0) ic0 d10_isPort_26 ?_
    exact z_top (congrArg Value.int (show 0 = bI b1 by rw [hc]; rfl)) k2
  obtain ⟨b2, e4, e1⟩ := zinv e1
  have kt5 : b2 = true → zZ zK1 X (zT0 Sh top) μ 12 [(0, .ref o_), (1, .int v_bridge), (2, .int v_port)] [] := by
    intro hc
    replace e1 := zif_t hc e1
    refine z_iload_n fx (k := 2) (i := 2) rfl rfl d10_isPort_12 ?_
    refine z_aload_n fx (k := 0) (i := 0) rfl rfl d10_isPort_13 ?_
    refine z_getO fx 10 4 5 ho lf10_25 fk10_4 d10_isPort_14 ?_
    refine z_iload_n fx (k := 1) (i := 1) rfl rfl d10_isPort_17 ?_
    obtain ⟨t3, e6, e1⟩ := zinv e1
    refine z_iald fx (ok10_4 hO ho) e6 d10_isPort_18 ?_
    cases e1
    refine z_icmp_ge fx d10_isPort_19 (fun c7 => ?_) (fun c7 => ?_)
    · exact kf3 c7
    · exact kt3 c7
  have kf5 : b2 = false → zZ zK1 X (zT0 Sh top) μ 26 [(0, .ref o_), (1, .int v_bridge), (2, .int v_port)] [] := by
    intro hc
    replace e1 := zif_f hc e1
    cases e1
    exact kf3 rfl
  clear e1
  obtain ⟨b4, e8, e4⟩ := zinv e4
  have kt9 : b4 = true → zZ zK1 X (zT0 Sh top) μ 8 [(0, .ref o_), (1, .int v_bridge), (2, .int v_port)] [] := by
    intro hc
    replace e4 := zif_t hc e4
    refine z_iload_n fx (k := 2) (i := 2) rfl rfl d10_isPort_8 ?_
    cases e4
    refine z_if_lt fx d10_isPort_9 (fun c10 => ?_) (fun c10 => ?_)
    · exact kf5 (by rw [c10]; rfl)
    · exact kt5 (by rw [c10]; rfl)
  have kf9 : b4 = false → zZ zK1 X (zT0 Sh top) μ 26 [(0, .ref o_), (1, .int v_bridge), (2, .int v_port)] [] := by
    intro hc
    replace e4 := zif_f hc e4
    cases e4
    exact kf5 rfl
  clear e4
  refine z_aload_n fx (k := 0) (i := 0) rfl rfl d10_isPort_0 ?_
  refine z_iload_n fx (k := 1) (i := 1) rfl rfl d10_isPort_1 ?_
  obtain ⟨t5, e11, e8⟩ := zinv e8
  refine z_cVr fx (c10_isBridge (zLo X) (zDo X) Sh top hO o_ v_bridge μ _ ho e11) mv10_isBridge ml10_75 ho rfl rfl rfl rfl d10_isPort_2 ?_
  cases e8
  refine z_ifb_eq fx d10_isPort_5 (fun c12 => ?_) (fun c12 => ?_)
  · exact kf9 c12
  · exact kt9 c12
theorem d4_tell_0 : zd cX4_tell 0 (.iload_n 1) 1 1 := by decide +kernel
theorem d4_tell_1 : decode cX4_tell 1 = .ok (.tableswitch 153 0 9 #[55, 60, 65, 70, 75, 88, 101, 114, 127, 140], 55) := by decide +kernel
theorem d4_tell_56 : zd cX4_tell 56 (.aload_n 0) 1 57 := by decide +kernel
theorem d4_tell_57 : zd cX4_tell 57 (.getfield 29) 3 60 := by decide +kernel
theorem d4_tell_60 : zd cX4_tell 60 (.ireturn) 1 61 := by decide +kernel
theorem d4_tell_61 : zd cX4_tell 61 (.aload_n 0) 1 62 := by decide +kernel
theorem d4_tell_62 : zd cX4_tell 62 (.getfield 35) 3 65 := by decide +kernel
theorem d4_tell_65 : zd cX4_tell 65 (.ireturn) 1 66 := by decide +kernel
theorem d4_tell_66 : zd cX4_tell 66 (.aload_n 0) 1 67 := by decide +kernel
theorem d4_tell_67 : zd cX4_tell 67 (.getfield 38) 3 70 := by decide +kernel
theorem d4_tell_70 : zd cX4_tell 70 (.ireturn) 1 71 := by decide +kernel
theorem d4_tell_71 : zd cX4_tell 71 (.aload_n 0) 1 72 := by decide +kernel
theorem d4_tell_72 : zd cX4_tell 72 (.getfield 41) 3 75 := by decide +kernel
theorem d4_tell_75 : zd cX4_tell 75 (.ireturn) 1 76 := by decide +kernel
theorem d4_tell_76 : zd cX4_tell 76 (.aload_n 0) 1 77 := by decide +kernel
theorem d4_tell_77 : zd cX4_tell 77 (.getfield 44) 3 80 := by decide +kernel
theorem d4_tell_80 : zj cX4_tell 80 (.ifCond .eq 7) 7 83 87 := by decide +kernel
theorem d4_tell_83 : zd cX4_tell 83 (.iconst 1) 1 84 := by decide +kernel
theorem d4_tell_84 : zj cX4_tell 84 (.goto 4) 4 87 88 := by decide +kernel
theorem d4_tell_87 : zd cX4_tell 87 (.iconst 0) 1 88 := by decide +kernel
theorem d4_tell_88 : zd cX4_tell 88 (.ireturn) 1 89 := by decide +kernel
theorem d4_tell_89 : zd cX4_tell 89 (.aload_n 0) 1 90 := by decide +kernel
theorem d4_tell_90 : zd cX4_tell 90 (.getfield 47) 3 93 := by decide +kernel
theorem d4_tell_93 : zj cX4_tell 93 (.ifCond .eq 7) 7 96 100 := by decide +kernel
theorem d4_tell_96 : zd cX4_tell 96 (.iconst 1) 1 97 := by decide +kernel
theorem d4_tell_97 : zj cX4_tell 97 (.goto 4) 4 100 101 := by decide +kernel
theorem d4_tell_100 : zd cX4_tell 100 (.iconst 0) 1 101 := by decide +kernel
theorem d4_tell_101 : zd cX4_tell 101 (.ireturn) 1 102 := by decide +kernel
theorem d4_tell_102 : zd cX4_tell 102 (.aload_n 0) 1 103 := by decide +kernel
theorem d4_tell_103 : zd cX4_tell 103 (.getfield 50) 3 106 := by decide +kernel
theorem d4_tell_106 : zj cX4_tell 106 (.ifCond .eq 7) 7 109 113 := by decide +kernel
theorem d4_tell_109 : zd cX4_tell 109 (.iconst 1) 1 110 := by decide +kernel
theorem d4_tell_110 : zj cX4_tell 110 (.goto 4) 4 113 114 := by decide +kernel
theorem d4_tell_113 : zd cX4_tell 113 (.iconst 0) 1 114 := by decide +kernel
theorem d4_tell_114 : zd cX4_tell 114 (.ireturn) 1 115 := by decide +kernel
theorem d4_tell_115 : zd cX4_tell 115 (.aload_n 0) 1 116 := by decide +kernel
theorem d4_tell_116 : zd cX4_tell 116 (.getfield 53) 3 119 := by decide +kernel
theorem d4_tell_119 : zj cX4_tell 119 (.ifCond .eq 7) 7 122 126 := by decide +kernel
theorem d4_tell_122 : zd cX4_tell 122 (.iconst 1) 1 123 := by decide +kernel
theorem d4_tell_123 : zj cX4_tell 123 (.goto 4) 4 126 127 := by decide +kernel
theorem d4_tell_126 : zd cX4_tell 126 (.iconst 0) 1 127 := by decide +kernel
theorem d4_tell_127 : zd cX4_tell 127 (.ireturn) 1 128 := by decide +kernel
theorem d4_tell_128 : zd cX4_tell 128 (.aload_n 0) 1 129 := by decide +kernel
theorem d4_tell_129 : zd cX4_tell 129 (.getfield 56) 3 132 := by decide +kernel
theorem d4_tell_132 : zj cX4_tell 132 (.ifCond .eq 7) 7 135 139 := by decide +kernel
theorem d4_tell_135 : zd cX4_tell 135 (.iconst 1) 1 136 := by decide +kernel
theorem d4_tell_136 : zj cX4_tell 136 (.goto 4) 4 139 140 := by decide +kernel
theorem d4_tell_139 : zd cX4_tell 139 (.iconst 0) 1 140 := by decide +kernel
theorem d4_tell_140 : zd cX4_tell 140 (.ireturn) 1 141 := by decide +kernel
theorem d4_tell_141 : zd cX4_tell 141 (.aload_n 0) 1 142 := by decide +kernel
theorem d4_tell_142 : zd cX4_tell 142 (.getfield 59) 3 145 := by decide +kernel
theorem d4_tell_145 : zj cX4_tell 145 (.ifCond .eq 7) 7 148 152 := by decide +kernel
theorem d4_tell_148 : zd cX4_tell 148 (.iconst 1) 1 149 := by decide +kernel
theorem d4_tell_149 : zj cX4_tell 149 (.goto 4) 4 152 153 := by decide +kernel
theorem d4_tell_152 : zd cX4_tell 152 (.iconst 0) 1 153 := by decide +kernel
theorem d4_tell_153 : zd cX4_tell 153 (.ireturn) 1 154 := by decide +kernel
theorem d4_tell_154 : zd cX4_tell 154 (.iconst (-1)) 1 155 := by decide +kernel
theorem d4_tell_155 : zd cX4_tell 155 (.ireturn) 1 156 := by decide +kernel
set_option maxHeartbeats 4000000 in
set_option maxRecDepth 20000 in
theorem c4_tell (l : Launch) (D : zDt) (Sh : zSh) (top : Nat) (hO : zOK Sh) (o_ : Nat) (v_what : Int32) (μ : zM) (r_ : Int32) (ho : (Sh o_).1 = 11) (h : f4_tell o_ v_what μ = some r_) : zMet l D zK1 yX4_tell cX4_tell 2 (some .int) (zrm 0 0) [.ref o_, .int v_what] Sh top μ (some (.int r_)) Sh top μ 0 0 := by
  refine zMet_of (by decide) (Nat.le_of_ble_eq_true rfl) fun X hX1 hX2 fx fin => ?_
  subst hX1; subst hX2
  replace fx : zFix X cX4_tell RX4 (zrm 0 0) 2 := fx
  show zZ zK1 X (zT0 Sh top) μ 0 [(0, .ref o_), (1, .int v_what)] []
  unfold f4_tell at h
  refine z_iload_n fx (k := 1) (i := 1) rfl rfl d4_tell_0 ?_
  cases c1 : ceq v_what 0 with
  | true =>
    replace h := zif_t c1 h
    refine z_table fx d4_tell_1 (off := 55) (tgt := 56) (by rw [ceq_of c1]; decide) (by decide) ?_
    refine z_aload_n fx (k := 0) (i := 0) rfl rfl d4_tell_56 ?_
    refine z_getI fx 4 4 404 ho lf4_29 ⟨fk4_4, rfl⟩ d4_tell_57 ?_
    cases h
    exact z_ireturn fx fin d4_tell_60
  | false =>
  replace h := zif_f c1 h
  cases c2 : ceq v_what 1 with
  | true =>
    replace h := zif_t c2 h
    refine z_table fx d4_tell_1 (off := 60) (tgt := 61) (by rw [ceq_of c2]; decide) (by decide) ?_
    refine z_aload_n fx (k := 0) (i := 0) rfl rfl d4_tell_61 ?_
    refine z_getI fx 4 6 406 ho lf4_35 ⟨fk4_6, rfl⟩ d4_tell_62 ?_
    cases h
    exact z_ireturn fx fin d4_tell_65
  | false =>
  replace h := zif_f c2 h
  cases c3 : ceq v_what 2 with
  | true =>
    replace h := zif_t c3 h
    refine z_table fx d4_tell_1 (off := 65) (tgt := 66) (by rw [ceq_of c3]; decide) (by decide) ?_
    refine z_aload_n fx (k := 0) (i := 0) rfl rfl d4_tell_66 ?_
    refine z_getI fx 4 7 407 ho lf4_38 ⟨fk4_7, rfl⟩ d4_tell_67 ?_
    cases h
    exact z_ireturn fx fin d4_tell_70
  | false =>
  replace h := zif_f c3 h
  cases c4 : ceq v_what 3 with
  | true =>
    replace h := zif_t c4 h
    refine z_table fx d4_tell_1 (off := 70) (tgt := 71) (by rw [ceq_of c4]; decide) (by decide) ?_
    refine z_aload_n fx (k := 0) (i := 0) rfl rfl d4_tell_71 ?_
    refine z_getI fx 4 8 408 ho lf4_41 ⟨fk4_8, rfl⟩ d4_tell_72 ?_
    cases h
    exact z_ireturn fx fin d4_tell_75
  | false =>
  replace h := zif_f c4 h
  cases c5 : ceq v_what 4 with
  | true =>
    replace h := zif_t c5 h
    refine z_table fx d4_tell_1 (off := 75) (tgt := 76) (by rw [ceq_of c5]; decide) (by decide) ?_
    obtain ⟨x1, e6, h⟩ := zinv h
    have k7 : zZ zK1 X (zT0 Sh top) μ 88 [(0, .ref o_), (1, .int v_what)] [.int x1] := by
      cases h
      exact z_ireturn fx fin d4_tell_88
    refine z_aload_n fx (k := 0) (i := 0) rfl rfl d4_tell_76 ?_
    refine z_getB fx 4 9 409 ho lf4_44 ⟨fk4_9, rfl⟩ d4_tell_77 ?_
    refine z_ifb_eq fx d4_tell_80 (fun c8 => ?_) (fun c8 => ?_)
    · replace e6 := zif_f c8 e6
      refine z_iconst fx (v := 0) ic0 d4_tell_87 ?_
      cases e6
      exact k7
    · replace e6 := zif_t c8 e6
      refine z_iconst fx (v := 1) ic1 d4_tell_83 ?_
      cases e6
      refine z_goto fx d4_tell_84 ?_
      exact k7
  | false =>
  replace h := zif_f c5 h
  cases c9 : ceq v_what 5 with
  | true =>
    replace h := zif_t c9 h
    refine z_table fx d4_tell_1 (off := 88) (tgt := 89) (by rw [ceq_of c9]; decide) (by decide) ?_
    obtain ⟨x2, e10, h⟩ := zinv h
    have k11 : zZ zK1 X (zT0 Sh top) μ 101 [(0, .ref o_), (1, .int v_what)] [.int x2] := by
      cases h
      exact z_ireturn fx fin d4_tell_101
    refine z_aload_n fx (k := 0) (i := 0) rfl rfl d4_tell_89 ?_
    refine z_getB fx 4 10 410 ho lf4_47 ⟨fk4_10, rfl⟩ d4_tell_90 ?_
    refine z_ifb_eq fx d4_tell_93 (fun c12 => ?_) (fun c12 => ?_)
    · replace e10 := zif_f c12 e10
      refine z_iconst fx (v := 0) ic0 d4_tell_100 ?_
      cases e10
      exact k11
    · replace e10 := zif_t c12 e10
      refine z_iconst fx (v := 1) ic1 d4_tell_96 ?_
      cases e10
      refine z_goto fx d4_tell_97 ?_
      exact k11
  | false =>
  replace h := zif_f c9 h
  cases c13 : ceq v_what 6 with
  | true =>
    replace h := zif_t c13 h
    refine z_table fx d4_tell_1 (off := 101) (tgt := 102) (by rw [ceq_of c13]; decide) (by decide) ?_
    obtain ⟨x3, e14, h⟩ := zinv h
    have k15 : zZ zK1 X (zT0 Sh top) μ 114 [(0, .ref o_), (1, .int v_what)] [.int x3] := by
      cases h
      exact z_ireturn fx fin d4_tell_114
    refine z_aload_n fx (k := 0) (i := 0) rfl rfl d4_tell_102 ?_
    refine z_getB fx 4 11 411 ho lf4_50 ⟨fk4_11, rfl⟩ d4_tell_103 ?_
    refine z_ifb_eq fx d4_tell_106 (fun c16 => ?_) (fun c16 => ?_)
    · replace e14 := zif_f c16 e14
      refine z_iconst fx (v := 0) ic0 d4_tell_113 ?_
      cases e14
      exact k15
    · replace e14 := zif_t c16 e14
      refine z_iconst fx (v := 1) ic1 d4_tell_109 ?_
      cases e14
      refine z_goto fx d4_tell_110 ?_
      exact k15
  | false =>
  replace h := zif_f c13 h
  cases c17 : ceq v_what 7 with
  | true =>
    replace h := zif_t c17 h
    refine z_table fx d4_tell_1 (off := 114) (tgt := 115) (by rw [ceq_of c17]; decide) (by decide) ?_
    obtain ⟨x4, e18, h⟩ := zinv h
    have k19 : zZ zK1 X (zT0 Sh top) μ 127 [(0, .ref o_), (1, .int v_what)] [.int x4] := by
      cases h
      exact z_ireturn fx fin d4_tell_127
    refine z_aload_n fx (k := 0) (i := 0) rfl rfl d4_tell_115 ?_
    refine z_getB fx 4 12 412 ho lf4_53 ⟨fk4_12, rfl⟩ d4_tell_116 ?_
    refine z_ifb_eq fx d4_tell_119 (fun c20 => ?_) (fun c20 => ?_)
    · replace e18 := zif_f c20 e18
      refine z_iconst fx (v := 0) ic0 d4_tell_126 ?_
      cases e18
      exact k19
    · replace e18 := zif_t c20 e18
      refine z_iconst fx (v := 1) ic1 d4_tell_122 ?_
      cases e18
      refine z_goto fx d4_tell_123 ?_
      exact k19
  | false =>
  replace h := zif_f c17 h
  cases c21 : ceq v_what 8 with
  | true =>
    replace h := zif_t c21 h
    refine z_table fx d4_tell_1 (off := 127) (tgt := 128) (by rw [ceq_of c21]; decide) (by decide) ?_
    obtain ⟨x5, e22, h⟩ := zinv h
    have k23 : zZ zK1 X (zT0 Sh top) μ 140 [(0, .ref o_), (1, .int v_what)] [.int x5] := by
      cases h
      exact z_ireturn fx fin d4_tell_140
    refine z_aload_n fx (k := 0) (i := 0) rfl rfl d4_tell_128 ?_
    refine z_getB fx 4 13 413 ho lf4_56 ⟨fk4_13, rfl⟩ d4_tell_129 ?_
    refine z_ifb_eq fx d4_tell_132 (fun c24 => ?_) (fun c24 => ?_)
    · replace e22 := zif_f c24 e22
      refine z_iconst fx (v := 0) ic0 d4_tell_139 ?_
      cases e22
      exact k23
    · replace e22 := zif_t c24 e22
      refine z_iconst fx (v := 1) ic1 d4_tell_135 ?_
      cases e22
      refine z_goto fx d4_tell_136 ?_
      exact k23
  | false =>
  replace h := zif_f c21 h
  cases c25 : ceq v_what 9 with
  | true =>
    replace h := zif_t c25 h
    refine z_table fx d4_tell_1 (off := 140) (tgt := 141) (by rw [ceq_of c25]; decide) (by decide) ?_
    obtain ⟨x6, e26, h⟩ := zinv h
    have k27 : zZ zK1 X (zT0 Sh top) μ 153 [(0, .ref o_), (1, .int v_what)] [.int x6] := by
      cases h
      exact z_ireturn fx fin d4_tell_153
    refine z_aload_n fx (k := 0) (i := 0) rfl rfl d4_tell_141 ?_
    refine z_getB fx 4 14 414 ho lf4_59 ⟨fk4_14, rfl⟩ d4_tell_142 ?_
    refine z_ifb_eq fx d4_tell_145 (fun c28 => ?_) (fun c28 => ?_)
    · replace e26 := zif_f c28 e26
      refine z_iconst fx (v := 0) ic0 d4_tell_152 ?_
      cases e26
      exact k27
    · replace e26 := zif_t c28 e26
      refine z_iconst fx (v := 1) ic1 d4_tell_148 ?_
      cases e26
      refine z_goto fx d4_tell_149 ?_
      exact k27
  | false =>
  replace h := zif_f c25 h
  have hn0 := zne c1 (k := 0) (by decide)
  have hn1 := zne c2 (k := 1) (by decide)
  have hn2 := zne c3 (k := 2) (by decide)
  have hn3 := zne c4 (k := 3) (by decide)
  have hn4 := zne c5 (k := 4) (by decide)
  have hn5 := zne c9 (k := 5) (by decide)
  have hn6 := zne c13 (k := 6) (by decide)
  have hn7 := zne c17 (k := 7) (by decide)
  have hn8 := zne c21 (k := 8) (by decide)
  have hn9 := zne c25 (k := 9) (by decide)
  refine z_table fx d4_tell_1 (off := 153) (tgt := 154) ⟨zsw_out (by omega), by decide⟩ (by decide) ?_
  refine z_iconst fx (v := (-1)) icm1 d4_tell_154 ?_
  cases h
  exact z_ireturn fx fin d4_tell_155
theorem d11_port_0 : zd cX11_port 0 (.aload_n 0) 1 1 := by decide +kernel
theorem d11_port_1 : zd cX11_port 1 (.getfield 56) 3 4 := by decide +kernel
theorem d11_port_4 : zd cX11_port 4 (.iload_n 1) 1 5 := by decide +kernel
theorem d11_port_5 : zd cX11_port 5 (.iload_n 2) 1 6 := by decide +kernel
theorem d11_port_6 : zd cX11_port 6 (.invokevirtual 215) 3 9 := by decide +kernel
theorem d11_port_9 : zj cX11_port 9 (.ifCond .ne 5) 5 12 14 := by decide +kernel
theorem d11_port_12 : zd cX11_port 12 (.iconst (-1)) 1 13 := by decide +kernel
theorem d11_port_13 : zd cX11_port 13 (.ireturn) 1 14 := by decide +kernel
theorem d11_port_14 : zd cX11_port 14 (.aload_n 0) 1 15 := by decide +kernel
theorem d11_port_15 : zd cX11_port 15 (.getfield 75) 3 18 := by decide +kernel
theorem d11_port_18 : zd cX11_port 18 (.getfield 219) 3 21 := by decide +kernel
theorem d11_port_21 : zd cX11_port 21 (.aload_n 0) 1 22 := by decide +kernel
theorem d11_port_22 : zd cX11_port 22 (.getfield 56) 3 25 := by decide +kernel
theorem d11_port_25 : zd cX11_port 25 (.iload_n 1) 1 26 := by decide +kernel
theorem d11_port_26 : zd cX11_port 26 (.iload_n 2) 1 27 := by decide +kernel
theorem d11_port_27 : zd cX11_port 27 (.invokevirtual 222) 3 30 := by decide +kernel
theorem d11_port_30 : zd cX11_port 30 (.aaload) 1 31 := by decide +kernel
theorem d11_port_31 : zd cX11_port 31 (.iload_n 3) 1 32 := by decide +kernel
theorem d11_port_32 : zd cX11_port 32 (.invokevirtual 226) 3 35 := by decide +kernel
theorem d11_port_35 : zd cX11_port 35 (.ireturn) 1 36 := by decide +kernel
set_option maxHeartbeats 4000000 in
set_option maxRecDepth 20000 in
theorem c11_port (l : Launch) (D : zDt) (Sh : zSh) (top : Nat) (hO : zOK Sh) (o_ : Nat) (v_bridge : Int32) (v_port : Int32) (v_what : Int32) (μ : zM) (r_ : Int32) (ho : (Sh o_).1 = 18) (h : f11_port o_ v_bridge v_port v_what μ = some r_) : zMet l D zK1 yX11_port cX11_port 4 (some .int) (zrm 2 43) [.ref o_, .int v_bridge, .int v_port, .int v_what] Sh top μ (some (.int r_)) Sh top μ 0 0 := by
  refine zMet_of (by decide) (Nat.le_of_ble_eq_true rfl) fun X hX1 hX2 fx fin => ?_
  subst hX1; subst hX2
  replace fx : zFix X cX11_port RX11 (zrm 2 43) 4 := fx
  show zZ zK1 X (zT0 Sh top) μ 0 [(0, .ref o_), (1, .int v_bridge), (2, .int v_port), (3, .int v_what)] []
  unfold f11_port at h
  refine z_aload_n fx (k := 0) (i := 0) rfl rfl d11_port_0 ?_
  obtain ⟨w1, e1, h⟩ := zinv h
  refine z_getR fx 11 11 1111 17 ho lf11_56 ⟨fk11_11, rfl⟩ e1 d11_port_1 (fun tw1 => ?_)
  refine z_iload_n fx (k := 1) (i := 1) rfl rfl d11_port_4 ?_
  refine z_iload_n fx (k := 2) (i := 2) rfl rfl d11_port_5 ?_
  obtain ⟨t2, e2, h⟩ := zinv h
  refine z_cVr fx (c10_isPort (zLo X) (zDo X) Sh top hO w1 v_bridge v_port μ _ tw1 e2) mv10_isPort ml11_215 tw1 rfl rfl rfl rfl d11_port_6 ?_
  refine z_ifb_ne fx d11_port_9 (fun c3 => ?_) (fun c3 => ?_)
  · replace h := zif_t c3 h
    refine z_aload_n fx (k := 0) (i := 0) rfl rfl d11_port_14 ?_
    refine z_getO fx 11 3 51 ho lf11_75 fk11_3 d11_port_15 ?_
    refine z_getO fx 8 1 2 (ok11_3 hO ho) lf11_219 fk8_1 d11_port_18 ?_
    refine z_aload_n fx (k := 0) (i := 0) rfl rfl d11_port_21 ?_
    obtain ⟨w3, e4, h⟩ := zinv h
    refine z_getR fx 11 11 1111 17 ho lf11_56 ⟨fk11_11, rfl⟩ e4 d11_port_22 (fun tw3 => ?_)
    refine z_iload_n fx (k := 1) (i := 1) rfl rfl d11_port_25 ?_
    refine z_iload_n fx (k := 2) (i := 2) rfl rfl d11_port_26 ?_
    obtain ⟨t4, e5, h⟩ := zinv h
    refine z_cVr fx (c10_endOf (zLo X) (zDo X) Sh top hO w3 v_bridge v_port μ _ tw3 e5) mv10_endOf ml11_222 tw3 rfl rfl rfl rfl d11_port_27 ?_
    obtain ⟨j5, e6, h⟩ := zinv h
    refine z_aald fx 1 (by decide) (ok8_1 hO (ok11_3 hO ho)) e6 (v := .ref (o_ + 88 + 2 * j5)) rfl d11_port_30 ?_
    refine z_iload_n fx (k := 3) (i := 3) rfl rfl d11_port_31 ?_
    obtain ⟨t6, e7, h⟩ := zinv h
    refine z_cVr fx (c4_tell (zLo X) (zDo X) Sh top hO (o_ + 88 + 2 * j5) v_what μ _ (okA1 hO (ok8_1 hO (ok11_3 hO ho)) (rI_lt e6)) e7) mv4_tell ml11_226 (okA1 hO (ok8_1 hO (ok11_3 hO ho)) (rI_lt e6)) rfl rfl rfl rfl d11_port_32 ?_
    cases h
    exact z_ireturn fx fin d11_port_35
  · replace h := zif_f c3 h
    refine z_iconst fx (v := (-1)) icm1 d11_port_12 ?_
    cases h
    exact z_ireturn fx fin d11_port_13
theorem d4_tellHeld_0 : zd cX4_tellHeld 0 (.aload_n 0) 1 1 := by decide +kernel
theorem d4_tellHeld_1 : zd cX4_tellHeld 1 (.getfield 18) 3 4 := by decide +kernel
theorem d4_tellHeld_4 : zj cX4_tellHeld 4 (.ifCond .eq 7) 7 7 11 := by decide +kernel
theorem d4_tellHeld_7 : zd cX4_tellHeld 7 (.iload_n 1) 1 8 := by decide +kernel
theorem d4_tellHeld_8 : zj cX4_tellHeld 8 (.goto 4) 4 11 12 := by decide +kernel
theorem d4_tellHeld_11 : zd cX4_tellHeld 11 (.iconst (-1)) 1 12 := by decide +kernel
theorem d4_tellHeld_12 : decode cX4_tellHeld 12 = .ok (.tableswitch 82 0 5 #[40, 48, 56, 64, 72, 77], 40) := by decide +kernel
theorem d4_tellHeld_52 : zd cX4_tellHeld 52 (.aload_n 0) 1 53 := by decide +kernel
theorem d4_tellHeld_53 : zd cX4_tellHeld 53 (.getfield 12) 3 56 := by decide +kernel
theorem d4_tellHeld_56 : zd cX4_tellHeld 56 (.getfield 74) 3 59 := by decide +kernel
theorem d4_tellHeld_59 : zd cX4_tellHeld 59 (.ireturn) 1 60 := by decide +kernel
theorem d4_tellHeld_60 : zd cX4_tellHeld 60 (.aload_n 0) 1 61 := by decide +kernel
theorem d4_tellHeld_61 : zd cX4_tellHeld 61 (.getfield 12) 3 64 := by decide +kernel
theorem d4_tellHeld_64 : zd cX4_tellHeld 64 (.getfield 77) 3 67 := by decide +kernel
theorem d4_tellHeld_67 : zd cX4_tellHeld 67 (.ireturn) 1 68 := by decide +kernel
theorem d4_tellHeld_68 : zd cX4_tellHeld 68 (.aload_n 0) 1 69 := by decide +kernel
theorem d4_tellHeld_69 : zd cX4_tellHeld 69 (.getfield 12) 3 72 := by decide +kernel
theorem d4_tellHeld_72 : zd cX4_tellHeld 72 (.getfield 80) 3 75 := by decide +kernel
theorem d4_tellHeld_75 : zd cX4_tellHeld 75 (.ireturn) 1 76 := by decide +kernel
theorem d4_tellHeld_76 : zd cX4_tellHeld 76 (.aload_n 0) 1 77 := by decide +kernel
theorem d4_tellHeld_77 : zd cX4_tellHeld 77 (.getfield 12) 3 80 := by decide +kernel
theorem d4_tellHeld_80 : zd cX4_tellHeld 80 (.getfield 83) 3 83 := by decide +kernel
theorem d4_tellHeld_83 : zd cX4_tellHeld 83 (.ireturn) 1 84 := by decide +kernel
theorem d4_tellHeld_84 : zd cX4_tellHeld 84 (.aload_n 0) 1 85 := by decide +kernel
theorem d4_tellHeld_85 : zd cX4_tellHeld 85 (.getfield 22) 3 88 := by decide +kernel
theorem d4_tellHeld_88 : zd cX4_tellHeld 88 (.ireturn) 1 89 := by decide +kernel
theorem d4_tellHeld_89 : zd cX4_tellHeld 89 (.aload_n 0) 1 90 := by decide +kernel
theorem d4_tellHeld_90 : zd cX4_tellHeld 90 (.getfield 26) 3 93 := by decide +kernel
theorem d4_tellHeld_93 : zd cX4_tellHeld 93 (.ireturn) 1 94 := by decide +kernel
theorem d4_tellHeld_94 : zd cX4_tellHeld 94 (.iconst (-1)) 1 95 := by decide +kernel
theorem d4_tellHeld_95 : zd cX4_tellHeld 95 (.ireturn) 1 96 := by decide +kernel
set_option maxHeartbeats 4000000 in
set_option maxRecDepth 20000 in
theorem c4_tellHeld (l : Launch) (D : zDt) (Sh : zSh) (top : Nat) (hO : zOK Sh) (o_ : Nat) (v_what : Int32) (μ : zM) (r_ : Int32) (ho : (Sh o_).1 = 11) (h : f4_tellHeld o_ v_what μ = some r_) : zMet l D zK1 yX4_tellHeld cX4_tellHeld 2 (some .int) (zrm 0 0) [.ref o_, .int v_what] Sh top μ (some (.int r_)) Sh top μ 0 0 := by
  refine zMet_of (by decide) (Nat.le_of_ble_eq_true rfl) fun X hX1 hX2 fx fin => ?_
  subst hX1; subst hX2
  replace fx : zFix X cX4_tellHeld RX4 (zrm 0 0) 2 := fx
  show zZ zK1 X (zT0 Sh top) μ 0 [(0, .ref o_), (1, .int v_what)] []
  unfold f4_tellHeld at h
  obtain ⟨x1, e1, h⟩ := zinv h
  have k2 : zZ zK1 X (zT0 Sh top) μ 12 [(0, .ref o_), (1, .int v_what)] [.int x1] := by
    cases c4 : ceq x1 0 with
    | true =>
      replace h := zif_t c4 h
      refine z_table fx d4_tellHeld_12 (off := 40) (tgt := 52) (by rw [ceq_of c4]; decide) (by decide) ?_
      refine z_aload_n fx (k := 0) (i := 0) rfl rfl d4_tellHeld_52 ?_
      refine z_getO fx 4 0 1 ho lf4_12 fk4_0 d4_tellHeld_53 ?_
      refine z_getI fx 9 0 900 (ok4_0 hO ho) lf4_74 ⟨fk9_0, rfl⟩ d4_tellHeld_56 ?_
      cases h
      exact z_ireturn fx fin d4_tellHeld_59
    | false =>
    replace h := zif_f c4 h
    cases c5 : ceq x1 1 with
    | true =>
      replace h := zif_t c5 h
      refine z_table fx d4_tellHeld_12 (off := 48) (tgt := 60) (by rw [ceq_of c5]; decide) (by decide) ?_
      refine z_aload_n fx (k := 0) (i := 0) rfl rfl d4_tellHeld_60 ?_
      refine z_getO fx 4 0 1 ho lf4_12 fk4_0 d4_tellHeld_61 ?_
      refine z_getI fx 9 1 901 (ok4_0 hO ho) lf4_77 ⟨fk9_1, rfl⟩ d4_tellHeld_64 ?_
      cases h
      exact z_ireturn fx fin d4_tellHeld_67
    | false =>
    replace h := zif_f c5 h
    cases c6 : ceq x1 2 with
    | true =>
      replace h := zif_t c6 h
      refine z_table fx d4_tellHeld_12 (off := 56) (tgt := 68) (by rw [ceq_of c6]; decide) (by decide) ?_
      refine z_aload_n fx (k := 0) (i := 0) rfl rfl d4_tellHeld_68 ?_
      refine z_getO fx 4 0 1 ho lf4_12 fk4_0 d4_tellHeld_69 ?_
      refine z_getI fx 9 2 902 (ok4_0 hO ho) lf4_80 ⟨fk9_2, rfl⟩ d4_tellHeld_72 ?_
      cases h
      exact z_ireturn fx fin d4_tellHeld_75
    | false =>
    replace h := zif_f c6 h
    cases c7 : ceq x1 3 with
    | true =>
      replace h := zif_t c7 h
      refine z_table fx d4_tellHeld_12 (off := 64) (tgt := 76) (by rw [ceq_of c7]; decide) (by decide) ?_
      refine z_aload_n fx (k := 0) (i := 0) rfl rfl d4_tellHeld_76 ?_
      refine z_getO fx 4 0 1 ho lf4_12 fk4_0 d4_tellHeld_77 ?_
      refine z_getI fx 9 3 903 (ok4_0 hO ho) lf4_83 ⟨fk9_3, rfl⟩ d4_tellHeld_80 ?_
      cases h
      exact z_ireturn fx fin d4_tellHeld_83
    | false =>
    replace h := zif_f c7 h
    cases c8 : ceq x1 4 with
    | true =>
      replace h := zif_t c8 h
      refine z_table fx d4_tellHeld_12 (off := 72) (tgt := 84) (by rw [ceq_of c8]; decide) (by decide) ?_
      refine z_aload_n fx (k := 0) (i := 0) rfl rfl d4_tellHeld_84 ?_
      refine z_getI fx 4 2 402 ho lf4_22 ⟨fk4_2, rfl⟩ d4_tellHeld_85 ?_
      cases h
      exact z_ireturn fx fin d4_tellHeld_88
    | false =>
    replace h := zif_f c8 h
    cases c9 : ceq x1 5 with
    | true =>
      replace h := zif_t c9 h
      refine z_table fx d4_tellHeld_12 (off := 77) (tgt := 89) (by rw [ceq_of c9]; decide) (by decide) ?_
      refine z_aload_n fx (k := 0) (i := 0) rfl rfl d4_tellHeld_89 ?_
      refine z_getI fx 4 3 403 ho lf4_26 ⟨fk4_3, rfl⟩ d4_tellHeld_90 ?_
      cases h
      exact z_ireturn fx fin d4_tellHeld_93
    | false =>
    replace h := zif_f c9 h
    have hn0 := zne c4 (k := 0) (by decide)
    have hn1 := zne c5 (k := 1) (by decide)
    have hn2 := zne c6 (k := 2) (by decide)
    have hn3 := zne c7 (k := 3) (by decide)
    have hn4 := zne c8 (k := 4) (by decide)
    have hn5 := zne c9 (k := 5) (by decide)
    refine z_table fx d4_tellHeld_12 (off := 82) (tgt := 94) ⟨zsw_out (by omega), by decide⟩ (by decide) ?_
    refine z_iconst fx (v := (-1)) icm1 d4_tellHeld_94 ?_
    cases h
    exact z_ireturn fx fin d4_tellHeld_95
  refine z_aload_n fx (k := 0) (i := 0) rfl rfl d4_tellHeld_0 ?_
  refine z_getB fx 4 1 401 ho lf4_18 ⟨fk4_1, rfl⟩ d4_tellHeld_1 ?_
  refine z_ifb_eq fx d4_tellHeld_4 (fun c3 => ?_) (fun c3 => ?_)
  · replace e1 := zif_f c3 e1
    refine z_iconst fx (v := (-1)) icm1 d4_tellHeld_11 ?_
    cases e1
    exact k2
  · replace e1 := zif_t c3 e1
    refine z_iload_n fx (k := 1) (i := 1) rfl rfl d4_tellHeld_7 ?_
    cases e1
    refine z_goto fx d4_tellHeld_8 ?_
    exact k2
theorem d11_held_0 : zd cX11_held 0 (.aload_n 0) 1 1 := by decide +kernel
theorem d11_held_1 : zd cX11_held 1 (.getfield 56) 3 4 := by decide +kernel
theorem d11_held_4 : zd cX11_held 4 (.iload_n 1) 1 5 := by decide +kernel
theorem d11_held_5 : zd cX11_held 5 (.iload_n 2) 1 6 := by decide +kernel
theorem d11_held_6 : zd cX11_held 6 (.invokevirtual 215) 3 9 := by decide +kernel
theorem d11_held_9 : zj cX11_held 9 (.ifCond .ne 5) 5 12 14 := by decide +kernel
theorem d11_held_12 : zd cX11_held 12 (.iconst (-1)) 1 13 := by decide +kernel
theorem d11_held_13 : zd cX11_held 13 (.ireturn) 1 14 := by decide +kernel
theorem d11_held_14 : zd cX11_held 14 (.aload_n 0) 1 15 := by decide +kernel
theorem d11_held_15 : zd cX11_held 15 (.getfield 75) 3 18 := by decide +kernel
theorem d11_held_18 : zd cX11_held 18 (.getfield 219) 3 21 := by decide +kernel
theorem d11_held_21 : zd cX11_held 21 (.aload_n 0) 1 22 := by decide +kernel
theorem d11_held_22 : zd cX11_held 22 (.getfield 56) 3 25 := by decide +kernel
theorem d11_held_25 : zd cX11_held 25 (.iload_n 1) 1 26 := by decide +kernel
theorem d11_held_26 : zd cX11_held 26 (.iload_n 2) 1 27 := by decide +kernel
theorem d11_held_27 : zd cX11_held 27 (.invokevirtual 222) 3 30 := by decide +kernel
theorem d11_held_30 : zd cX11_held 30 (.aaload) 1 31 := by decide +kernel
theorem d11_held_31 : zd cX11_held 31 (.iload_n 3) 1 32 := by decide +kernel
theorem d11_held_32 : zd cX11_held 32 (.invokevirtual 231) 3 35 := by decide +kernel
theorem d11_held_35 : zd cX11_held 35 (.ireturn) 1 36 := by decide +kernel
set_option maxHeartbeats 4000000 in
set_option maxRecDepth 20000 in
theorem c11_held (l : Launch) (D : zDt) (Sh : zSh) (top : Nat) (hO : zOK Sh) (o_ : Nat) (v_bridge : Int32) (v_port : Int32) (v_what : Int32) (μ : zM) (r_ : Int32) (ho : (Sh o_).1 = 18) (h : f11_held o_ v_bridge v_port v_what μ = some r_) : zMet l D zK1 yX11_held cX11_held 4 (some .int) (zrm 2 43) [.ref o_, .int v_bridge, .int v_port, .int v_what] Sh top μ (some (.int r_)) Sh top μ 0 0 := by
  refine zMet_of (by decide) (Nat.le_of_ble_eq_true rfl) fun X hX1 hX2 fx fin => ?_
  subst hX1; subst hX2
  replace fx : zFix X cX11_held RX11 (zrm 2 43) 4 := fx
  show zZ zK1 X (zT0 Sh top) μ 0 [(0, .ref o_), (1, .int v_bridge), (2, .int v_port), (3, .int v_what)] []
  unfold f11_held at h
  refine z_aload_n fx (k := 0) (i := 0) rfl rfl d11_held_0 ?_
  obtain ⟨w1, e1, h⟩ := zinv h
  refine z_getR fx 11 11 1111 17 ho lf11_56 ⟨fk11_11, rfl⟩ e1 d11_held_1 (fun tw1 => ?_)
  refine z_iload_n fx (k := 1) (i := 1) rfl rfl d11_held_4 ?_
  refine z_iload_n fx (k := 2) (i := 2) rfl rfl d11_held_5 ?_
  obtain ⟨t2, e2, h⟩ := zinv h
  refine z_cVr fx (c10_isPort (zLo X) (zDo X) Sh top hO w1 v_bridge v_port μ _ tw1 e2) mv10_isPort ml11_215 tw1 rfl rfl rfl rfl d11_held_6 ?_
  refine z_ifb_ne fx d11_held_9 (fun c3 => ?_) (fun c3 => ?_)
  · replace h := zif_t c3 h
    refine z_aload_n fx (k := 0) (i := 0) rfl rfl d11_held_14 ?_
    refine z_getO fx 11 3 51 ho lf11_75 fk11_3 d11_held_15 ?_
    refine z_getO fx 8 1 2 (ok11_3 hO ho) lf11_219 fk8_1 d11_held_18 ?_
    refine z_aload_n fx (k := 0) (i := 0) rfl rfl d11_held_21 ?_
    obtain ⟨w3, e4, h⟩ := zinv h
    refine z_getR fx 11 11 1111 17 ho lf11_56 ⟨fk11_11, rfl⟩ e4 d11_held_22 (fun tw3 => ?_)
    refine z_iload_n fx (k := 1) (i := 1) rfl rfl d11_held_25 ?_
    refine z_iload_n fx (k := 2) (i := 2) rfl rfl d11_held_26 ?_
    obtain ⟨t4, e5, h⟩ := zinv h
    refine z_cVr fx (c10_endOf (zLo X) (zDo X) Sh top hO w3 v_bridge v_port μ _ tw3 e5) mv10_endOf ml11_222 tw3 rfl rfl rfl rfl d11_held_27 ?_
    obtain ⟨j5, e6, h⟩ := zinv h
    refine z_aald fx 1 (by decide) (ok8_1 hO (ok11_3 hO ho)) e6 (v := .ref (o_ + 88 + 2 * j5)) rfl d11_held_30 ?_
    refine z_iload_n fx (k := 3) (i := 3) rfl rfl d11_held_31 ?_
    obtain ⟨t6, e7, h⟩ := zinv h
    refine z_cVr fx (c4_tellHeld (zLo X) (zDo X) Sh top hO (o_ + 88 + 2 * j5) v_what μ _ (okA1 hO (ok8_1 hO (ok11_3 hO ho)) (rI_lt e6)) e7) mv4_tellHeld ml11_231 (okA1 hO (ok8_1 hO (ok11_3 hO ho)) (rI_lt e6)) rfl rfl rfl rfl d11_held_32 ?_
    cases h
    exact z_ireturn fx fin d11_held_35
  · replace h := zif_f c3 h
    refine z_iconst fx (v := (-1)) icm1 d11_held_12 ?_
    cases h
    exact z_ireturn fx fin d11_held_13
theorem d11_address_0 : zd cX11_address 0 (.aload_n 0) 1 1 := by decide +kernel
theorem d11_address_1 : zd cX11_address 1 (.getfield 56) 3 4 := by decide +kernel
theorem d11_address_4 : zd cX11_address 4 (.iload_n 1) 1 5 := by decide +kernel
theorem d11_address_5 : zd cX11_address 5 (.invokevirtual 161) 3 8 := by decide +kernel
theorem d11_address_8 : zj cX11_address 8 (.ifCond .eq 14) 14 11 22 := by decide +kernel
theorem d11_address_11 : zd cX11_address 11 (.aload_n 0) 1 12 := by decide +kernel
theorem d11_address_12 : zd cX11_address 12 (.getfield 56) 3 15 := by decide +kernel
theorem d11_address_15 : zd cX11_address 15 (.iload_n 2) 1 16 := by decide +kernel
theorem d11_address_16 : zd cX11_address 16 (.invokevirtual 167) 3 19 := by decide +kernel
theorem d11_address_19 : zj cX11_address 19 (.ifCond .ne 5) 5 22 24 := by decide +kernel
theorem d11_address_22 : zd cX11_address 22 (.iconst (-1)) 1 23 := by decide +kernel
theorem d11_address_23 : zd cX11_address 23 (.ireturn) 1 24 := by decide +kernel
theorem d11_address_24 : zd cX11_address 24 (.iload_n 1) 1 25 := by decide +kernel
theorem d11_address_25 : zd cX11_address 25 (.bipush 8) 2 27 := by decide +kernel
theorem d11_address_27 : zd cX11_address 27 (.imul) 1 28 := by decide +kernel
theorem d11_address_28 : zd cX11_address 28 (.iload_n 2) 1 29 := by decide +kernel
theorem d11_address_29 : zd cX11_address 29 (.iadd) 1 30 := by decide +kernel
theorem d11_address_30 : zd cX11_address 30 (.istore 4) 2 32 := by decide +kernel
theorem d11_address_32 : zd cX11_address 32 (.aload_n 0) 1 33 := by decide +kernel
theorem d11_address_33 : zd cX11_address 33 (.getfield 75) 3 36 := by decide +kernel
theorem d11_address_36 : zd cX11_address 36 (.getfield 234) 3 39 := by decide +kernel
theorem d11_address_39 : zd cX11_address 39 (.iload 4) 2 41 := by decide +kernel
theorem d11_address_41 : zd cX11_address 41 (.iaload) 1 42 := by decide +kernel
theorem d11_address_42 : zd cX11_address 42 (.iconst (-1)) 1 43 := by decide +kernel
theorem d11_address_43 : zj cX11_address 43 (.if_icmp .ne 5) 5 46 48 := by decide +kernel
theorem d11_address_46 : zd cX11_address 46 (.iconst (-1)) 1 47 := by decide +kernel
theorem d11_address_47 : zd cX11_address 47 (.ireturn) 1 48 := by decide +kernel
theorem d11_address_48 : zd cX11_address 48 (.iload_n 3) 1 49 := by decide +kernel
theorem d11_address_49 : decode cX11_address 49 = .ok (.lookupswitch 49 #[(0, 27), (1, 38)], 27) := by decide +kernel
theorem d11_address_76 : zd cX11_address 76 (.aload_n 0) 1 77 := by decide +kernel
theorem d11_address_77 : zd cX11_address 77 (.getfield 75) 3 80 := by decide +kernel
theorem d11_address_80 : zd cX11_address 80 (.getfield 234) 3 83 := by decide +kernel
theorem d11_address_83 : zd cX11_address 83 (.iload 4) 2 85 := by decide +kernel
theorem d11_address_85 : zd cX11_address 85 (.iaload) 1 86 := by decide +kernel
theorem d11_address_86 : zd cX11_address 86 (.ireturn) 1 87 := by decide +kernel
theorem d11_address_87 : zd cX11_address 87 (.aload_n 0) 1 88 := by decide +kernel
theorem d11_address_88 : zd cX11_address 88 (.getfield 75) 3 91 := by decide +kernel
theorem d11_address_91 : zd cX11_address 91 (.getfield 237) 3 94 := by decide +kernel
theorem d11_address_94 : zd cX11_address 94 (.iload 4) 2 96 := by decide +kernel
theorem d11_address_96 : zd cX11_address 96 (.iaload) 1 97 := by decide +kernel
theorem d11_address_97 : zd cX11_address 97 (.ireturn) 1 98 := by decide +kernel
theorem d11_address_98 : zd cX11_address 98 (.iconst (-1)) 1 99 := by decide +kernel
theorem d11_address_99 : zd cX11_address 99 (.ireturn) 1 100 := by decide +kernel
set_option maxHeartbeats 4000000 in
set_option maxRecDepth 20000 in
theorem c11_address (l : Launch) (D : zDt) (Sh : zSh) (top : Nat) (hO : zOK Sh) (o_ : Nat) (v_bridge : Int32) (v_host : Int32) (v_what : Int32) (μ : zM) (r_ : Int32) (ho : (Sh o_).1 = 18) (h : f11_address o_ v_bridge v_host v_what μ = some r_) : zMet l D zK1 yX11_address cX11_address 5 (some .int) (zrm 1 21) [.ref o_, .int v_bridge, .int v_host, .int v_what] Sh top μ (some (.int r_)) Sh top μ 0 0 := by
  refine zMet_of (by decide) (Nat.le_of_ble_eq_true rfl) fun X hX1 hX2 fx fin => ?_
  subst hX1; subst hX2
  replace fx : zFix X cX11_address RX11 (zrm 1 21) 5 := fx
  show zZ zK1 X (zT0 Sh top) μ 0 [(0, .ref o_), (1, .int v_bridge), (2, .int v_host), (3, .int v_what)] []
  unfold f11_address at h
  obtain ⟨b1, e2, h⟩ := zinv h
  have kt1 : b1 = true → zZ zK1 X (zT0 Sh top) μ 22 [(0, .ref o_), (1, .int v_bridge), (2, .int v_host), (3, .int v_what)] [] := by
    intro hc
    replace h := zif_t hc h
    refine z_iconst fx (v := (-1)) icm1 d11_address_22 ?_
    cases h
    exact z_ireturn fx fin d11_address_23
  have kf1 : b1 = false → zZ zK1 X (zT0 Sh top) μ 24 [(0, .ref o_), (1, .int v_bridge), (2, .int v_host), (3, .int v_what)] [] := by
    intro hc
    replace h := zif_f hc h
    refine z_iload_n fx (k := 1) (i := 1) rfl rfl d11_address_24 ?_
    refine z_bipush fx (v := 8) bp8 d11_address_25 ?_
    refine z_imul fx d11_address_27 ?_
    refine z_iload_n fx (k := 2) (i := 2) rfl rfl d11_address_28 ?_
    refine z_iadd fx d11_address_29 ?_
    obtain ⟨v_k_2, e3, h⟩ := zinv h
    replace e3 := Option.some.inj e3
    refine z_top (congrArg Value.int e3) ?_
    refine z_istore fx (i := 4) rfl (lv' := [(0, .ref o_), (1, .int v_bridge), (2, .int v_host), (3, .int v_what), (4, .int v_k_2)]) rfl rfl d11_address_30 ?_
    refine z_aload_n fx (k := 0) (i := 0) rfl rfl d11_address_32 ?_
    refine z_getO fx 11 3 51 ho lf11_75 fk11_3 d11_address_33 ?_
    refine z_getO fx 8 5 6 (ok11_3 hO ho) lf11_234 fk8_5 d11_address_36 ?_
    refine z_iload fx (i := 4) rfl d11_address_39 ?_
    obtain ⟨t3, e4, h⟩ := zinv h
    refine z_iald fx (ok8_5 hO (ok11_3 hO ho)) e4 d11_address_41 ?_
    refine z_iconst fx (v := (-1)) icm1 d11_address_42 ?_
    refine z_icmp_ne fx d11_address_43 (fun c5 => ?_) (fun c5 => ?_)
    · replace h := zif_f c5 h
      refine z_iload_n fx (k := 3) (i := 3) rfl rfl d11_address_48 ?_
      cases c6 : ceq v_what 0 with
      | true =>
        replace h := zif_t c6 h
        refine z_lookup fx d11_address_49 (off := 27) (tgt := 76) (by rw [ceq_of c6]; decide) (by decide) ?_
        refine z_aload_n fx (k := 0) (i := 0) rfl rfl d11_address_76 ?_
        refine z_getO fx 11 3 51 ho lf11_75 fk11_3 d11_address_77 ?_
        refine z_getO fx 8 5 6 (ok11_3 hO ho) lf11_234 fk8_5 d11_address_80 ?_
        refine z_iload fx (i := 4) rfl d11_address_83 ?_
        obtain ⟨t4, e7, h⟩ := zinv h
        refine z_iald fx (ok8_5 hO (ok11_3 hO ho)) e7 d11_address_85 ?_
        cases h
        exact z_ireturn fx fin d11_address_86
      | false =>
      replace h := zif_f c6 h
      cases c8 : ceq v_what 1 with
      | true =>
        replace h := zif_t c8 h
        refine z_lookup fx d11_address_49 (off := 38) (tgt := 87) (by rw [ceq_of c8]; decide) (by decide) ?_
        refine z_aload_n fx (k := 0) (i := 0) rfl rfl d11_address_87 ?_
        refine z_getO fx 11 3 51 ho lf11_75 fk11_3 d11_address_88 ?_
        refine z_getO fx 8 6 7 (ok11_3 hO ho) lf11_237 fk8_6 d11_address_91 ?_
        refine z_iload fx (i := 4) rfl d11_address_94 ?_
        obtain ⟨t5, e9, h⟩ := zinv h
        refine z_iald fx (ok8_6 hO (ok11_3 hO ho)) e9 d11_address_96 ?_
        cases h
        exact z_ireturn fx fin d11_address_97
      | false =>
      replace h := zif_f c8 h
      have hn0 := zne c6 (k := 0) (by decide)
      have hn1 := zne c8 (k := 1) (by decide)
      refine z_lookup fx d11_address_49 (off := 49) (tgt := 98) ⟨by simp [Op.lookupswitch.offset, hn0, Ne.symm hn0, hn1, Ne.symm hn1], by decide⟩ (by decide) ?_
      refine z_iconst fx (v := (-1)) icm1 d11_address_98 ?_
      cases h
      exact z_ireturn fx fin d11_address_99
    · replace h := zif_t c5 h
      refine z_iconst fx (v := (-1)) icm1 d11_address_46 ?_
      cases h
      exact z_ireturn fx fin d11_address_47
  clear h
  obtain ⟨b6, e10, e2⟩ := zinv e2
  have kf11 : b6 = false → zZ zK1 X (zT0 Sh top) μ 11 [(0, .ref o_), (1, .int v_bridge), (2, .int v_host), (3, .int v_what)] [] := by
    intro hc
    replace e2 := zif_f hc e2
    refine z_aload_n fx (k := 0) (i := 0) rfl rfl d11_address_11 ?_
    obtain ⟨w7, e12, e2⟩ := zinv e2
    refine z_getR fx 11 11 1111 17 ho lf11_56 ⟨fk11_11, rfl⟩ e12 d11_address_12 (fun tw7 => ?_)
    refine z_iload_n fx (k := 2) (i := 2) rfl rfl d11_address_15 ?_
    obtain ⟨t8, e13, e2⟩ := zinv e2
    refine z_cVr fx (c10_isHost (zLo X) (zDo X) Sh top hO w7 v_host μ _ tw7 e13) mv10_isHost ml11_167 tw7 rfl rfl rfl rfl d11_address_16 ?_
    cases e2
    refine z_ifb_ne fx d11_address_19 (fun c14 => ?_) (fun c14 => ?_)
    · exact kf1 (by rw [c14]; rfl)
    · exact kt1 (by rw [c14]; rfl)
  have kt11 : b6 = true → zZ zK1 X (zT0 Sh top) μ 22 [(0, .ref o_), (1, .int v_bridge), (2, .int v_host), (3, .int v_what)] [] := by
    intro hc
    replace e2 := zif_t hc e2
    cases e2
    exact kt1 rfl
  clear e2
  refine z_aload_n fx (k := 0) (i := 0) rfl rfl d11_address_0 ?_
  obtain ⟨w9, e15, e10⟩ := zinv e10
  refine z_getR fx 11 11 1111 17 ho lf11_56 ⟨fk11_11, rfl⟩ e15 d11_address_1 (fun tw9 => ?_)
  refine z_iload_n fx (k := 1) (i := 1) rfl rfl d11_address_4 ?_
  obtain ⟨t10, e16, e10⟩ := zinv e10
  refine z_cVr fx (c10_isBridge (zLo X) (zDo X) Sh top hO w9 v_bridge μ _ tw9 e16) mv10_isBridge ml11_161 tw9 rfl rfl rfl rfl d11_address_5 ?_
  cases e10
  refine z_ifb_eq fx d11_address_8 (fun c17 => ?_) (fun c17 => ?_)
  · exact kt11 (by rw [c17]; rfl)
  · exact kf11 (by rw [c17]; rfl)
theorem d8_slotOf_0 : zd cX8_slotOf 0 (.iload_n 0) 1 1 := by decide +kernel
theorem d8_slotOf_1 : zd cX8_slotOf 1 (.iconst 3) 1 2 := by decide +kernel
theorem d8_slotOf_2 : zd cX8_slotOf 2 (.imul) 1 3 := by decide +kernel
theorem d8_slotOf_3 : zd cX8_slotOf 3 (.iload_n 1) 1 4 := by decide +kernel
theorem d8_slotOf_4 : zd cX8_slotOf 4 (.iconst 3) 1 5 := by decide +kernel
theorem d8_slotOf_5 : zd cX8_slotOf 5 (.irem) 1 6 := by decide +kernel
theorem d8_slotOf_6 : zd cX8_slotOf 6 (.iadd) 1 7 := by decide +kernel
theorem d8_slotOf_7 : zd cX8_slotOf 7 (.ireturn) 1 8 := by decide +kernel
set_option maxHeartbeats 4000000 in
set_option maxRecDepth 20000 in
theorem c8_slotOf (l : Launch) (D : zDt) (Sh : zSh) (top : Nat) (hO : zOK Sh) (v_end : Int32) (v_arrives : Int32) (μ : zM) (r_ : Int32)  (h : f8_slotOf v_end v_arrives μ = some r_) : zMet l D zK1 yX8_slotOf cX8_slotOf 2 (some .int) (zrm 0 0) [.int v_end, .int v_arrives] Sh top μ (some (.int r_)) Sh top μ 0 0 := by
  refine zMet_of (by decide) (Nat.le_of_ble_eq_true rfl) fun X hX1 hX2 fx fin => ?_
  subst hX1; subst hX2
  replace fx : zFix X cX8_slotOf RX8 (zrm 0 0) 2 := fx
  show zZ zK1 X (zT0 Sh top) μ 0 [(0, .int v_end), (1, .int v_arrives)] []
  unfold f8_slotOf at h
  refine z_iload_n fx (k := 0) (i := 0) rfl rfl d8_slotOf_0 ?_
  refine z_iconst fx (v := 3) ic3 d8_slotOf_1 ?_
  refine z_imul fx d8_slotOf_2 ?_
  refine z_iload_n fx (k := 1) (i := 1) rfl rfl d8_slotOf_3 ?_
  refine z_iconst fx (v := 3) ic3 d8_slotOf_4 ?_
  obtain ⟨t1, e1, h⟩ := zinv h
  refine z_irem fx e1 d8_slotOf_5 ?_
  refine z_iadd fx d8_slotOf_6 ?_
  cases h
  exact z_ireturn fx fin d8_slotOf_7
theorem d8_mailSlot_0 : zd cX8_mailSlot 0 (.iload_n 1) 1 1 := by decide +kernel
theorem d8_mailSlot_1 : zd cX8_mailSlot 1 (.istore_n 2) 1 2 := by decide +kernel
theorem d8_mailSlot_2 : zd cX8_mailSlot 2 (.aload_n 0) 1 3 := by decide +kernel
theorem d8_mailSlot_3 : zd cX8_mailSlot 3 (.getfield 71) 3 6 := by decide +kernel
theorem d8_mailSlot_6 : zd cX8_mailSlot 6 (.istore_n 3) 1 7 := by decide +kernel
theorem d8_mailSlot_7 : zd cX8_mailSlot 7 (.iload_n 3) 1 8 := by decide +kernel
theorem d8_mailSlot_8 : zd cX8_mailSlot 8 (.aload_n 0) 1 9 := by decide +kernel
theorem d8_mailSlot_9 : zd cX8_mailSlot 9 (.getfield 71) 3 12 := by decide +kernel
theorem d8_mailSlot_12 : zd cX8_mailSlot 12 (.iconst 3) 1 13 := by decide +kernel
theorem d8_mailSlot_13 : zd cX8_mailSlot 13 (.iadd) 1 14 := by decide +kernel
theorem d8_mailSlot_14 : zj cX8_mailSlot 14 (.if_icmp .ge 97) 97 17 111 := by decide +kernel
theorem d8_mailSlot_17 : zd cX8_mailSlot 17 (.iconst 0) 1 18 := by decide +kernel
theorem d8_mailSlot_18 : zd cX8_mailSlot 18 (.istore 4) 2 20 := by decide +kernel
theorem d8_mailSlot_20 : zd cX8_mailSlot 20 (.iload 4) 2 22 := by decide +kernel
theorem d8_mailSlot_22 : zd cX8_mailSlot 22 (.aload_n 0) 1 23 := by decide +kernel
theorem d8_mailSlot_23 : zd cX8_mailSlot 23 (.getfield 62) 3 26 := by decide +kernel
theorem d8_mailSlot_26 : zd cX8_mailSlot 26 (.getfield 100) 3 29 := by decide +kernel
theorem d8_mailSlot_29 : zj cX8_mailSlot 29 (.if_icmp .ge 76) 76 32 105 := by decide +kernel
theorem d8_mailSlot_32 : zd cX8_mailSlot 32 (.iconst 0) 1 33 := by decide +kernel
theorem d8_mailSlot_33 : zd cX8_mailSlot 33 (.istore 5) 2 35 := by decide +kernel
theorem d8_mailSlot_35 : zd cX8_mailSlot 35 (.iload 5) 2 37 := by decide +kernel
theorem d8_mailSlot_37 : zd cX8_mailSlot 37 (.aload_n 0) 1 38 := by decide +kernel
theorem d8_mailSlot_38 : zd cX8_mailSlot 38 (.getfield 62) 3 41 := by decide +kernel
theorem d8_mailSlot_41 : zd cX8_mailSlot 41 (.getfield 174) 3 44 := by decide +kernel
theorem d8_mailSlot_44 : zd cX8_mailSlot 44 (.iload 4) 2 46 := by decide +kernel
theorem d8_mailSlot_46 : zd cX8_mailSlot 46 (.iaload) 1 47 := by decide +kernel
theorem d8_mailSlot_47 : zj cX8_mailSlot 47 (.if_icmp .ge 52) 52 50 99 := by decide +kernel
theorem d8_mailSlot_50 : zd cX8_mailSlot 50 (.aload_n 0) 1 51 := by decide +kernel
theorem d8_mailSlot_51 : zd cX8_mailSlot 51 (.getfield 62) 3 54 := by decide +kernel
theorem d8_mailSlot_54 : zd cX8_mailSlot 54 (.iload 4) 2 56 := by decide +kernel
theorem d8_mailSlot_56 : zd cX8_mailSlot 56 (.iload 5) 2 58 := by decide +kernel
theorem d8_mailSlot_58 : zd cX8_mailSlot 58 (.invokevirtual 176) 3 61 := by decide +kernel
theorem d8_mailSlot_61 : zd cX8_mailSlot 61 (.iload_n 3) 1 62 := by decide +kernel
theorem d8_mailSlot_62 : zd cX8_mailSlot 62 (.invokestatic 180) 3 65 := by decide +kernel
theorem d8_mailSlot_65 : zd cX8_mailSlot 65 (.istore 6) 2 67 := by decide +kernel
theorem d8_mailSlot_67 : zd cX8_mailSlot 67 (.aload_n 0) 1 68 := by decide +kernel
theorem d8_mailSlot_68 : zd cX8_mailSlot 68 (.getfield 25) 3 71 := by decide +kernel
theorem d8_mailSlot_71 : zd cX8_mailSlot 71 (.iload 6) 2 73 := by decide +kernel
theorem d8_mailSlot_73 : zd cX8_mailSlot 73 (.aaload) 1 74 := by decide +kernel
theorem d8_mailSlot_74 : zd cX8_mailSlot 74 (.getfield 171) 3 77 := by decide +kernel
theorem d8_mailSlot_77 : zj cX8_mailSlot 77 (.ifCond .ne 6) 6 80 83 := by decide +kernel
theorem d8_mailSlot_80 : zj cX8_mailSlot 80 (.goto 13) 13 83 93 := by decide +kernel
theorem d8_mailSlot_83 : zd cX8_mailSlot 83 (.iload_n 2) 1 84 := by decide +kernel
theorem d8_mailSlot_84 : zj cX8_mailSlot 84 (.ifCond .ne 6) 6 87 90 := by decide +kernel
theorem d8_mailSlot_87 : zd cX8_mailSlot 87 (.iload 6) 2 89 := by decide +kernel
theorem d8_mailSlot_89 : zd cX8_mailSlot 89 (.ireturn) 1 90 := by decide +kernel
theorem d8_mailSlot_90 : zd cX8_mailSlot 90 (.iinc 2 (-1)) 3 93 := by decide +kernel
theorem d8_mailSlot_93 : zd cX8_mailSlot 93 (.iinc 5 1) 3 96 := by decide +kernel
theorem d8_mailSlot_96 : zj cX8_mailSlot 96 (.goto (-61)) (-61) 99 35 := by decide +kernel
theorem d8_mailSlot_99 : zd cX8_mailSlot 99 (.iinc 4 1) 3 102 := by decide +kernel
theorem d8_mailSlot_102 : zj cX8_mailSlot 102 (.goto (-82)) (-82) 105 20 := by decide +kernel
theorem d8_mailSlot_105 : zd cX8_mailSlot 105 (.iinc 3 1) 3 108 := by decide +kernel
theorem d8_mailSlot_108 : zj cX8_mailSlot 108 (.goto (-101)) (-101) 111 7 := by decide +kernel
theorem d8_mailSlot_111 : zd cX8_mailSlot 111 (.iconst (-1)) 1 112 := by decide +kernel
theorem d8_mailSlot_112 : zd cX8_mailSlot 112 (.ireturn) 1 113 := by decide +kernel
set_option maxHeartbeats 4000000 in
set_option maxRecDepth 20000 in
theorem c8_mailSlot (l : Launch) (D : zDt) (Sh : zSh) (top : Nat) (hO : zOK Sh) (o_ : Nat) (v_k : Int32) (μ : zM) (r_ : Int32) (ho : (Sh o_).1 = 15) (h : f8_mailSlot o_ v_k μ = some r_) : zMet l D zK1 yX8_mailSlot cX8_mailSlot 7 (some .int) (zrm 1 22) [.ref o_, .int v_k] Sh top μ (some (.int r_)) Sh top μ 0 0 := by
  refine zMet_of (by decide) (Nat.le_of_ble_eq_true rfl) fun X hX1 hX2 fx fin => ?_
  subst hX1; subst hX2
  replace fx : zFix X cX8_mailSlot RX8 (zrm 1 22) 7 := fx
  show zZ zK1 X (zT0 Sh top) μ 0 [(0, .ref o_), (1, .int v_k)] []
  unfold f8_mailSlot at h
  refine z_iload_n fx (k := 1) (i := 1) rfl rfl d8_mailSlot_0 ?_
  refine z_istore_n fx (k := 2) (i := 2) rfl rfl (lv' := [(0, .ref o_), (1, .int v_k), (2, .int v_k)]) rfl rfl d8_mailSlot_1 ?_
  refine z_aload_n fx (k := 0) (i := 0) rfl rfl d8_mailSlot_2 ?_
  refine z_getI fx 8 13 813 ho lf8_71 ⟨fk8_13, rfl⟩ d8_mailSlot_3 ?_
  obtain ⟨v_arrives_1, e1, h⟩ := zinv h
  replace e1 := Option.some.inj e1
  refine z_top (congrArg Value.int e1) ?_
  refine z_istore_n fx (k := 3) (i := 3) rfl rfl (lv' := [(0, .ref o_), (1, .int v_k), (2, .int v_k), (3, .int v_arrives_1)]) rfl rfl d8_mailSlot_6 ?_
  obtain ⟨r4, e36, h⟩ := zinv h
  have kx5 : ∀ (v_left_4 : Int32) (v_arrives_5 : Int32), r4 = .inr (v_left_4, v_arrives_5) → zZ zK1 X (zT0 Sh top) μ 111 [(0, .ref o_), (1, .int v_k), (2, .int v_left_4), (3, .int v_arrives_5)] [] := by
    intro v_left_4 v_arrives_5 hr
    subst hr
    replace h := zel2 h
    refine z_take 3 (lv' := [(0, .ref o_), (1, .int v_k), (2, .int v_left_4)]) rfl ?_
    refine z_iconst fx (v := (-1)) icm1 d8_mailSlot_111 ?_
    cases h
    exact z_ireturn fx fin d8_mailSlot_112
  have klr4 : ∀ (n : Nat) (v_left_2 : Int32) (v_arrives_3 : Int32), zloop (fun s => f8_mailSlot_L1 o_ μ s.1 s.2) n (v_left_2, v_arrives_3) = some r4 → zZ zK1 X (zT0 Sh top) μ 7 [(0, .ref o_), (1, .int v_k), (2, .int v_left_2), (3, .int v_arrives_3)] [] := by
    intro n
    induction n with
    | zero => intro v_left_2 v_arrives_3 hl3; cases hl3
    | succ n ih6 =>
      intro v_left_2 v_arrives_3 hl3
      obtain ⟨y, e2, hl3⟩ := zloop_inv hl3
      replace e2 : f8_mailSlot_L1 o_ μ v_left_2 v_arrives_3 = some y := e2
      unfold f8_mailSlot_L1 at e2
      refine z_iload_n fx (k := 3) (i := 3) rfl rfl d8_mailSlot_7 ?_
      refine z_aload_n fx (k := 0) (i := 0) rfl rfl d8_mailSlot_8 ?_
      refine z_getI fx 8 13 813 ho lf8_71 ⟨fk8_13, rfl⟩ d8_mailSlot_9 ?_
      refine z_iconst fx (v := 3) ic3 d8_mailSlot_12 ?_
      refine z_iadd fx d8_mailSlot_13 ?_
      refine z_icmp_ge fx d8_mailSlot_14 (fun c7 => ?_) (fun c7 => ?_)
      · replace e2 := zif_f c7 e2
        cases e2
        exact kx5 _ _ (Eq.symm hl3)
      · replace e2 := zif_t c7 e2
        refine z_iconst fx (v := 0) ic0 d8_mailSlot_17 ?_
        refine z_istore fx (i := 4) rfl (lv' := [(0, .ref o_), (1, .int v_k), (2, .int v_left_2), (3, .int v_arrives_3), (4, .int 0)]) rfl rfl d8_mailSlot_18 ?_
        obtain ⟨r10, e35, e2⟩ := zinv e2
        have kx11 : ∀ (v_left_8 : Int32) (v_b_9 : Int32), r10 = .inr (v_left_8, v_b_9) → zZ zK1 X (zT0 Sh top) μ 105 [(0, .ref o_), (1, .int v_k), (2, .int v_left_8), (3, .int v_arrives_3), (4, .int v_b_9)] [] := by
          intro v_left_8 v_b_9 hr
          subst hr
          replace e2 := zel2 e2
          refine z_take 4 (lv' := [(0, .ref o_), (1, .int v_k), (2, .int v_left_8), (3, .int v_arrives_3)]) rfl ?_
          obtain ⟨v_arrives_25, e34, e2⟩ := zinv e2
          replace e34 := Option.some.inj e34
          refine z_iinc fx (i := 3) (x := v_arrives_3) (v := v_arrives_25) rfl (by rw [in1]; exact e34) rfl (lv' := [(0, .ref o_), (1, .int v_k), (2, .int v_left_8), (3, .int v_arrives_25)]) rfl rfl d8_mailSlot_105 ?_
          cases e2
          refine z_goto fx d8_mailSlot_108 ?_
          exact ih6 _ _ hl3
        have klr10 : ∀ (n : Nat) (v_left_6 : Int32) (v_b_7 : Int32), zloop (fun s => f8_mailSlot_L2 o_ μ v_arrives_3 s.1 s.2) n (v_left_6, v_b_7) = some r10 → zZ zK1 X (zT0 Sh top) μ 20 [(0, .ref o_), (1, .int v_k), (2, .int v_left_6), (3, .int v_arrives_3), (4, .int v_b_7)] [] := by
          intro n
          induction n with
          | zero => intro v_left_6 v_b_7 hl9; cases hl9
          | succ n ih12 =>
            intro v_left_6 v_b_7 hl9
            obtain ⟨y, e8, hl9⟩ := zloop_inv hl9
            replace e8 : f8_mailSlot_L2 o_ μ v_arrives_3 v_left_6 v_b_7 = some y := e8
            unfold f8_mailSlot_L2 at e8
            refine z_iload fx (i := 4) rfl d8_mailSlot_20 ?_
            refine z_aload_n fx (k := 0) (i := 0) rfl rfl d8_mailSlot_22 ?_
            obtain ⟨w10, e13, e8⟩ := zinv e8
            refine z_getR fx 8 12 812 17 ho lf8_62 ⟨fk8_12, rfl⟩ e13 d8_mailSlot_23 (fun tw10 => ?_)
            refine z_getI fx 10 15 1015 tw10 lf8_100 ⟨fk10_15, rfl⟩ d8_mailSlot_26 ?_
            refine z_icmp_ge fx d8_mailSlot_29 (fun c14 => ?_) (fun c14 => ?_)
            · replace e8 := zif_f c14 e8
              cases e8
              exact kx11 _ _ (Eq.symm hl9)
            · replace e8 := zif_t c14 e8
              refine z_iconst fx (v := 0) ic0 d8_mailSlot_32 ?_
              refine z_istore fx (i := 5) rfl (lv' := [(0, .ref o_), (1, .int v_k), (2, .int v_left_6), (3, .int v_arrives_3), (4, .int v_b_7), (5, .int 0)]) rfl rfl d8_mailSlot_33 ?_
              obtain ⟨r17, e33, e8⟩ := zinv e8
              have kx18 : ∀ (v_left_13 : Int32) (v_p_14 : Int32), r17 = .inr (v_left_13, v_p_14) → zZ zK1 X (zT0 Sh top) μ 99 [(0, .ref o_), (1, .int v_k), (2, .int v_left_13), (3, .int v_arrives_3), (4, .int v_b_7), (5, .int v_p_14)] [] := by
                intro v_left_13 v_p_14 hr
                subst hr
                replace e8 := zel2 e8
                refine z_take 5 (lv' := [(0, .ref o_), (1, .int v_k), (2, .int v_left_13), (3, .int v_arrives_3), (4, .int v_b_7)]) rfl ?_
                obtain ⟨v_b_24, e32, e8⟩ := zinv e8
                replace e32 := Option.some.inj e32
                refine z_iinc fx (i := 4) (x := v_b_7) (v := v_b_24) rfl (by rw [in1]; exact e32) rfl (lv' := [(0, .ref o_), (1, .int v_k), (2, .int v_left_13), (3, .int v_arrives_3), (4, .int v_b_24)]) rfl rfl d8_mailSlot_99 ?_
                cases e8
                refine z_goto fx d8_mailSlot_102 ?_
                exact ih12 _ _ hl9
              have klr17 : ∀ (n : Nat) (v_left_11 : Int32) (v_p_12 : Int32), zloop (fun s => f8_mailSlot_L3 o_ μ v_arrives_3 v_b_7 s.1 s.2) n (v_left_11, v_p_12) = some r17 → zZ zK1 X (zT0 Sh top) μ 35 [(0, .ref o_), (1, .int v_k), (2, .int v_left_11), (3, .int v_arrives_3), (4, .int v_b_7), (5, .int v_p_12)] [] := by
                intro n
                induction n with
                | zero => intro v_left_11 v_p_12 hl16; cases hl16
                | succ n ih19 =>
                  intro v_left_11 v_p_12 hl16
                  obtain ⟨y, e15, hl16⟩ := zloop_inv hl16
                  replace e15 : f8_mailSlot_L3 o_ μ v_arrives_3 v_b_7 v_left_11 v_p_12 = some y := e15
                  unfold f8_mailSlot_L3 at e15
                  refine z_iload fx (i := 5) rfl d8_mailSlot_35 ?_
                  refine z_aload_n fx (k := 0) (i := 0) rfl rfl d8_mailSlot_37 ?_
                  obtain ⟨w15, e20, e15⟩ := zinv e15
                  refine z_getR fx 8 12 812 17 ho lf8_62 ⟨fk8_12, rfl⟩ e20 d8_mailSlot_38 (fun tw15 => ?_)
                  refine z_getO fx 10 4 5 tw15 lf8_174 fk10_4 d8_mailSlot_41 ?_
                  refine z_iload fx (i := 4) rfl d8_mailSlot_44 ?_
                  obtain ⟨t16, e21, e15⟩ := zinv e15
                  refine z_iald fx (ok10_4 hO tw15) e21 d8_mailSlot_46 ?_
                  refine z_icmp_ge fx d8_mailSlot_47 (fun c22 => ?_) (fun c22 => ?_)
                  · replace e15 := zif_f c22 e15
                    cases e15
                    exact kx18 _ _ (Eq.symm hl16)
                  · replace e15 := zif_t c22 e15
                    refine z_aload_n fx (k := 0) (i := 0) rfl rfl d8_mailSlot_50 ?_
                    obtain ⟨w17, e23, e15⟩ := zinv e15
                    refine z_getR fx 8 12 812 17 ho lf8_62 ⟨fk8_12, rfl⟩ e23 d8_mailSlot_51 (fun tw17 => ?_)
                    refine z_iload fx (i := 4) rfl d8_mailSlot_54 ?_
                    refine z_iload fx (i := 5) rfl d8_mailSlot_56 ?_
                    obtain ⟨t18, e24, e15⟩ := zinv e15
                    refine z_cVr fx (c10_endOf (zLo X) (zDo X) Sh top hO w17 v_b_7 v_p_12 μ _ tw17 e24) mv10_endOf ml8_176 tw17 rfl rfl rfl rfl d8_mailSlot_58 ?_
                    refine z_iload_n fx (k := 3) (i := 3) rfl rfl d8_mailSlot_61 ?_
                    obtain ⟨t19, e25, e15⟩ := zinv e15
                    refine z_cSr fx (c8_slotOf (zLo X) (zDo X) Sh top hO t18 v_arrives_3 μ _  e25) ms8_slotOf ml8_180 rfl rfl rfl rfl d8_mailSlot_62 ?_
                    refine z_istore fx (i := 6) rfl (lv' := [(0, .ref o_), (1, .int v_k), (2, .int v_left_11), (3, .int v_arrives_3), (4, .int v_b_7), (5, .int v_p_12), (6, .int t19)]) rfl rfl d8_mailSlot_65 ?_
                    refine z_aload_n fx (k := 0) (i := 0) rfl rfl d8_mailSlot_67 ?_
                    refine z_getO fx 8 2 3 ho lf8_25 fk8_2 d8_mailSlot_68 ?_
                    refine z_iload fx (i := 6) rfl d8_mailSlot_71 ?_
                    obtain ⟨j20, e26, e15⟩ := zinv e15
                    refine z_aald fx 2 (by decide) (ok8_2 hO ho) e26 (v := .ref (o_ + 93 + 2 * j20)) rfl d8_mailSlot_73 ?_
                    refine z_getB fx 3 1 301 (okA2 hO (ok8_2 hO ho) (rI_lt e26)) lf8_171 ⟨fk3_1, rfl⟩ d8_mailSlot_74 ?_
                    refine z_ifb_ne fx d8_mailSlot_77 (fun c27 => ?_) (fun c27 => ?_)
                    · replace e15 := zif_t c27 e15
                      refine z_iload_n fx (k := 2) (i := 2) rfl rfl d8_mailSlot_83 ?_
                      refine z_if_ne fx d8_mailSlot_84 (fun c28 => ?_) (fun c28 => ?_)
                      · replace e15 := zif_f c28 e15
                        obtain ⟨v_left_21, e29, e15⟩ := zinv e15
                        replace e29 := Option.some.inj e29
                        refine z_iinc fx (i := 2) (x := v_left_11) (v := v_left_21) rfl (by rw [inm1]; exact e29) rfl (lv' := [(0, .ref o_), (1, .int v_k), (2, .int v_left_21), (3, .int v_arrives_3), (4, .int v_b_7), (5, .int v_p_12), (6, .int t19)]) rfl rfl d8_mailSlot_90 ?_
                        refine z_take 6 (lv' := [(0, .ref o_), (1, .int v_k), (2, .int v_left_21), (3, .int v_arrives_3), (4, .int v_b_7), (5, .int v_p_12)]) rfl ?_
                        obtain ⟨v_p_22, e30, e15⟩ := zinv e15
                        replace e30 := Option.some.inj e30
                        refine z_iinc fx (i := 5) (x := v_p_12) (v := v_p_22) rfl (by rw [in1]; exact e30) rfl (lv' := [(0, .ref o_), (1, .int v_k), (2, .int v_left_21), (3, .int v_arrives_3), (4, .int v_b_7), (5, .int v_p_22)]) rfl rfl d8_mailSlot_93 ?_
                        cases e15
                        refine z_goto fx d8_mailSlot_96 ?_
                        exact ih19 _ _ hl16
                      · replace e15 := zif_t c28 e15
                        refine z_iload fx (i := 6) rfl d8_mailSlot_87 ?_
                        cases e15
                        cases hl16
                        cases e8
                        cases hl9
                        cases e2
                        cases hl3
                        cases h
                        exact z_ireturn fx fin d8_mailSlot_89
                    · replace e15 := zif_f c27 e15
                      refine z_take 6 (lv' := [(0, .ref o_), (1, .int v_k), (2, .int v_left_11), (3, .int v_arrives_3), (4, .int v_b_7), (5, .int v_p_12)]) rfl ?_
                      refine z_goto fx d8_mailSlot_80 ?_
                      obtain ⟨v_p_23, e31, e15⟩ := zinv e15
                      replace e31 := Option.some.inj e31
                      refine z_iinc fx (i := 5) (x := v_p_12) (v := v_p_23) rfl (by rw [in1]; exact e31) rfl (lv' := [(0, .ref o_), (1, .int v_k), (2, .int v_left_11), (3, .int v_arrives_3), (4, .int v_b_7), (5, .int v_p_23)]) rfl rfl d8_mailSlot_93 ?_
                      cases e15
                      refine z_goto fx d8_mailSlot_96 ?_
                      exact ih19 _ _ hl16
              exact klr17 _ _ _ e33
        exact klr10 _ _ _ e35
  exact klr4 _ _ _ e36
theorem d11_message_0 : zd cX11_message 0 (.iload_n 1) 1 1 := by decide +kernel
theorem d11_message_1 : zj cX11_message 1 (.ifCond .ge 7) 7 4 8 := by decide +kernel
theorem d11_message_4 : zd cX11_message 4 (.iconst (-1)) 1 5 := by decide +kernel
theorem d11_message_5 : zj cX11_message 5 (.goto 11) 11 8 16 := by decide +kernel
theorem d11_message_8 : zd cX11_message 8 (.aload_n 0) 1 9 := by decide +kernel
theorem d11_message_9 : zd cX11_message 9 (.getfield 75) 3 12 := by decide +kernel
theorem d11_message_12 : zd cX11_message 12 (.iload_n 1) 1 13 := by decide +kernel
theorem d11_message_13 : zd cX11_message 13 (.invokevirtual 240) 3 16 := by decide +kernel
theorem d11_message_16 : zd cX11_message 16 (.istore_n 3) 1 17 := by decide +kernel
theorem d11_message_17 : zd cX11_message 17 (.iload_n 3) 1 18 := by decide +kernel
theorem d11_message_18 : zd cX11_message 18 (.iconst (-1)) 1 19 := by decide +kernel
theorem d11_message_19 : zj cX11_message 19 (.if_icmp .ne 5) 5 22 24 := by decide +kernel
theorem d11_message_22 : zd cX11_message 22 (.iconst (-1)) 1 23 := by decide +kernel
theorem d11_message_23 : zd cX11_message 23 (.ireturn) 1 24 := by decide +kernel
theorem d11_message_24 : zd cX11_message 24 (.aload_n 0) 1 25 := by decide +kernel
theorem d11_message_25 : zd cX11_message 25 (.getfield 75) 3 28 := by decide +kernel
theorem d11_message_28 : zd cX11_message 28 (.getfield 243) 3 31 := by decide +kernel
theorem d11_message_31 : zd cX11_message 31 (.iload_n 3) 1 32 := by decide +kernel
theorem d11_message_32 : zd cX11_message 32 (.aaload) 1 33 := by decide +kernel
theorem d11_message_33 : zd cX11_message 33 (.astore 4) 2 35 := by decide +kernel
theorem d11_message_35 : zd cX11_message 35 (.iload_n 3) 1 36 := by decide +kernel
theorem d11_message_36 : zd cX11_message 36 (.iconst 3) 1 37 := by decide +kernel
theorem d11_message_37 : zd cX11_message 37 (.idiv) 1 38 := by decide +kernel
theorem d11_message_38 : zd cX11_message 38 (.istore 5) 2 40 := by decide +kernel
theorem d11_message_40 : zd cX11_message 40 (.iload_n 2) 1 41 := by decide +kernel
theorem d11_message_41 : decode cX11_message 41 = .ok (.tableswitch 145 0 9 #[55, 61, 72, 83, 97, 106, 115, 124, 133, 139], 55) := by decide +kernel
theorem d11_message_96 : zd cX11_message 96 (.aload 4) 2 98 := by decide +kernel
theorem d11_message_98 : zd cX11_message 98 (.getfield 247) 3 101 := by decide +kernel
theorem d11_message_101 : zd cX11_message 101 (.ireturn) 1 102 := by decide +kernel
theorem d11_message_102 : zd cX11_message 102 (.aload_n 0) 1 103 := by decide +kernel
theorem d11_message_103 : zd cX11_message 103 (.getfield 56) 3 106 := by decide +kernel
theorem d11_message_106 : zd cX11_message 106 (.getfield 176) 3 109 := by decide +kernel
theorem d11_message_109 : zd cX11_message 109 (.iload 5) 2 111 := by decide +kernel
theorem d11_message_111 : zd cX11_message 111 (.iaload) 1 112 := by decide +kernel
theorem d11_message_112 : zd cX11_message 112 (.ireturn) 1 113 := by decide +kernel
theorem d11_message_113 : zd cX11_message 113 (.aload_n 0) 1 114 := by decide +kernel
theorem d11_message_114 : zd cX11_message 114 (.getfield 56) 3 117 := by decide +kernel
theorem d11_message_117 : zd cX11_message 117 (.getfield 179) 3 120 := by decide +kernel
theorem d11_message_120 : zd cX11_message 120 (.iload 5) 2 122 := by decide +kernel
theorem d11_message_122 : zd cX11_message 122 (.iaload) 1 123 := by decide +kernel
theorem d11_message_123 : zd cX11_message 123 (.ireturn) 1 124 := by decide +kernel
theorem d11_message_124 : zd cX11_message 124 (.aload 4) 2 126 := by decide +kernel
theorem d11_message_126 : zd cX11_message 126 (.getfield 252) 3 129 := by decide +kernel
theorem d11_message_129 : zj cX11_message 129 (.ifCond .eq 7) 7 132 136 := by decide +kernel
theorem d11_message_132 : zd cX11_message 132 (.iconst 1) 1 133 := by decide +kernel
theorem d11_message_133 : zj cX11_message 133 (.goto 4) 4 136 137 := by decide +kernel
theorem d11_message_136 : zd cX11_message 136 (.iconst 0) 1 137 := by decide +kernel
theorem d11_message_137 : zd cX11_message 137 (.ireturn) 1 138 := by decide +kernel
theorem d11_message_138 : zd cX11_message 138 (.aload 4) 2 140 := by decide +kernel
theorem d11_message_140 : zd cX11_message 140 (.getfield 255) 3 143 := by decide +kernel
theorem d11_message_143 : zd cX11_message 143 (.getfield 259) 3 146 := by decide +kernel
theorem d11_message_146 : zd cX11_message 146 (.ireturn) 1 147 := by decide +kernel
theorem d11_message_147 : zd cX11_message 147 (.aload 4) 2 149 := by decide +kernel
theorem d11_message_149 : zd cX11_message 149 (.getfield 255) 3 152 := by decide +kernel
theorem d11_message_152 : zd cX11_message 152 (.getfield 264) 3 155 := by decide +kernel
theorem d11_message_155 : zd cX11_message 155 (.ireturn) 1 156 := by decide +kernel
theorem d11_message_156 : zd cX11_message 156 (.aload 4) 2 158 := by decide +kernel
theorem d11_message_158 : zd cX11_message 158 (.getfield 255) 3 161 := by decide +kernel
theorem d11_message_161 : zd cX11_message 161 (.getfield 266) 3 164 := by decide +kernel
theorem d11_message_164 : zd cX11_message 164 (.ireturn) 1 165 := by decide +kernel
theorem d11_message_165 : zd cX11_message 165 (.aload 4) 2 167 := by decide +kernel
theorem d11_message_167 : zd cX11_message 167 (.getfield 255) 3 170 := by decide +kernel
theorem d11_message_170 : zd cX11_message 170 (.getfield 268) 3 173 := by decide +kernel
theorem d11_message_173 : zd cX11_message 173 (.ireturn) 1 174 := by decide +kernel
theorem d11_message_174 : zd cX11_message 174 (.aload 4) 2 176 := by decide +kernel
theorem d11_message_176 : zd cX11_message 176 (.getfield 271) 3 179 := by decide +kernel
theorem d11_message_179 : zd cX11_message 179 (.ireturn) 1 180 := by decide +kernel
theorem d11_message_180 : zd cX11_message 180 (.aload 4) 2 182 := by decide +kernel
theorem d11_message_182 : zd cX11_message 182 (.getfield 274) 3 185 := by decide +kernel
theorem d11_message_185 : zd cX11_message 185 (.ireturn) 1 186 := by decide +kernel
theorem d11_message_186 : zd cX11_message 186 (.iconst (-1)) 1 187 := by decide +kernel
theorem d11_message_187 : zd cX11_message 187 (.ireturn) 1 188 := by decide +kernel
set_option maxHeartbeats 4000000 in
set_option maxRecDepth 20000 in
theorem c11_message (l : Launch) (D : zDt) (Sh : zSh) (top : Nat) (hO : zOK Sh) (o_ : Nat) (v_k : Int32) (v_what : Int32) (μ : zM) (r_ : Int32) (ho : (Sh o_).1 = 18) (h : f11_message o_ v_k v_what μ = some r_) : zMet l D zK1 yX11_message cX11_message 6 (some .int) (zrm 2 48) [.ref o_, .int v_k, .int v_what] Sh top μ (some (.int r_)) Sh top μ 0 0 := by
  refine zMet_of (by decide) (Nat.le_of_ble_eq_true rfl) fun X hX1 hX2 fx fin => ?_
  subst hX1; subst hX2
  replace fx : zFix X cX11_message RX11 (zrm 2 48) 6 := fx
  show zZ zK1 X (zT0 Sh top) μ 0 [(0, .ref o_), (1, .int v_k), (2, .int v_what)] []
  unfold f11_message at h
  obtain ⟨x1, e1, h⟩ := zinv h
  have k2 : zZ zK1 X (zT0 Sh top) μ 16 [(0, .ref o_), (1, .int v_k), (2, .int v_what)] [.int x1] := by
    refine z_istore_n fx (k := 3) (i := 3) rfl rfl (lv' := [(0, .ref o_), (1, .int v_k), (2, .int v_what), (3, .int x1)]) rfl rfl d11_message_16 ?_
    refine z_iload_n fx (k := 3) (i := 3) rfl rfl d11_message_17 ?_
    refine z_iconst fx (v := (-1)) icm1 d11_message_18 ?_
    refine z_icmp_ne fx d11_message_19 (fun c5 => ?_) (fun c5 => ?_)
    · replace h := zif_f c5 h
      refine z_aload_n fx (k := 0) (i := 0) rfl rfl d11_message_24 ?_
      refine z_getO fx 11 3 51 ho lf11_75 fk11_3 d11_message_25 ?_
      refine z_getO fx 8 2 3 (ok11_3 hO ho) lf11_243 fk8_2 d11_message_28 ?_
      refine z_iload_n fx (k := 3) (i := 3) rfl rfl d11_message_31 ?_
      obtain ⟨j3, e6, h⟩ := zinv h
      refine z_aald fx 2 (by decide) (ok8_2 hO (ok11_3 hO ho)) e6 (v := .ref (o_ + 144 + 2 * j3)) rfl d11_message_32 ?_
      refine z_astore fx (i := 4) rfl (lv' := [(0, .ref o_), (1, .int v_k), (2, .int v_what), (3, .int x1), (4, .ref (o_ + 144 + 2 * j3))]) rfl rfl d11_message_33 ?_
      refine z_iload_n fx (k := 3) (i := 3) rfl rfl d11_message_35 ?_
      refine z_iconst fx (v := 3) ic3 d11_message_36 ?_
      obtain ⟨t4, e7, h⟩ := zinv h
      refine z_idiv fx e7 d11_message_37 ?_
      refine z_istore fx (i := 5) rfl (lv' := [(0, .ref o_), (1, .int v_k), (2, .int v_what), (3, .int x1), (4, .ref (o_ + 144 + 2 * j3)), (5, .int t4)]) rfl rfl d11_message_38 ?_
      refine z_iload_n fx (k := 2) (i := 2) rfl rfl d11_message_40 ?_
      cases c8 : ceq v_what 0 with
      | true =>
        replace h := zif_t c8 h
        refine z_table fx d11_message_41 (off := 55) (tgt := 96) (by rw [ceq_of c8]; decide) (by decide) ?_
        refine z_aload fx (i := 4) rfl d11_message_96 ?_
        refine z_getI fx 3 2 302 (okA2 hO (ok8_2 hO (ok11_3 hO ho)) (rI_lt e6)) lf11_247 ⟨fk3_2, rfl⟩ d11_message_98 ?_
        cases h
        exact z_ireturn fx fin d11_message_101
      | false =>
      replace h := zif_f c8 h
      cases c9 : ceq v_what 1 with
      | true =>
        replace h := zif_t c9 h
        refine z_table fx d11_message_41 (off := 61) (tgt := 102) (by rw [ceq_of c9]; decide) (by decide) ?_
        refine z_aload_n fx (k := 0) (i := 0) rfl rfl d11_message_102 ?_
        obtain ⟨w5, e10, h⟩ := zinv h
        refine z_getR fx 11 11 1111 17 ho lf11_56 ⟨fk11_11, rfl⟩ e10 d11_message_103 (fun tw5 => ?_)
        refine z_getO fx 10 6 7 tw5 lf11_176 fk10_6 d11_message_106 ?_
        refine z_iload fx (i := 5) rfl d11_message_109 ?_
        obtain ⟨t6, e11, h⟩ := zinv h
        refine z_iald fx (ok10_6 hO tw5) e11 d11_message_111 ?_
        cases h
        exact z_ireturn fx fin d11_message_112
      | false =>
      replace h := zif_f c9 h
      cases c12 : ceq v_what 2 with
      | true =>
        replace h := zif_t c12 h
        refine z_table fx d11_message_41 (off := 72) (tgt := 113) (by rw [ceq_of c12]; decide) (by decide) ?_
        refine z_aload_n fx (k := 0) (i := 0) rfl rfl d11_message_113 ?_
        obtain ⟨w7, e13, h⟩ := zinv h
        refine z_getR fx 11 11 1111 17 ho lf11_56 ⟨fk11_11, rfl⟩ e13 d11_message_114 (fun tw7 => ?_)
        refine z_getO fx 10 7 8 tw7 lf11_179 fk10_7 d11_message_117 ?_
        refine z_iload fx (i := 5) rfl d11_message_120 ?_
        obtain ⟨t8, e14, h⟩ := zinv h
        refine z_iald fx (ok10_7 hO tw7) e14 d11_message_122 ?_
        cases h
        exact z_ireturn fx fin d11_message_123
      | false =>
      replace h := zif_f c12 h
      cases c15 : ceq v_what 3 with
      | true =>
        replace h := zif_t c15 h
        refine z_table fx d11_message_41 (off := 83) (tgt := 124) (by rw [ceq_of c15]; decide) (by decide) ?_
        obtain ⟨x9, e16, h⟩ := zinv h
        have k17 : zZ zK1 X (zT0 Sh top) μ 137 [(0, .ref o_), (1, .int v_k), (2, .int v_what), (3, .int x1), (4, .ref (o_ + 144 + 2 * j3)), (5, .int t4)] [.int x9] := by
          cases h
          exact z_ireturn fx fin d11_message_137
        refine z_aload fx (i := 4) rfl d11_message_124 ?_
        refine z_getB fx 3 3 303 (okA2 hO (ok8_2 hO (ok11_3 hO ho)) (rI_lt e6)) lf11_252 ⟨fk3_3, rfl⟩ d11_message_126 ?_
        refine z_ifb_eq fx d11_message_129 (fun c18 => ?_) (fun c18 => ?_)
        · replace e16 := zif_f c18 e16
          refine z_iconst fx (v := 0) ic0 d11_message_136 ?_
          cases e16
          exact k17
        · replace e16 := zif_t c18 e16
          refine z_iconst fx (v := 1) ic1 d11_message_132 ?_
          cases e16
          refine z_goto fx d11_message_133 ?_
          exact k17
      | false =>
      replace h := zif_f c15 h
      cases c19 : ceq v_what 4 with
      | true =>
        replace h := zif_t c19 h
        refine z_table fx d11_message_41 (off := 97) (tgt := 138) (by rw [ceq_of c19]; decide) (by decide) ?_
        refine z_aload fx (i := 4) rfl d11_message_138 ?_
        refine z_getO fx 3 0 1 (okA2 hO (ok8_2 hO (ok11_3 hO ho)) (rI_lt e6)) lf11_255 fk3_0 d11_message_140 ?_
        refine z_getI fx 9 0 900 (ok3_0 hO (okA2 hO (ok8_2 hO (ok11_3 hO ho)) (rI_lt e6))) lf11_259 ⟨fk9_0, rfl⟩ d11_message_143 ?_
        cases h
        exact z_ireturn fx fin d11_message_146
      | false =>
      replace h := zif_f c19 h
      cases c20 : ceq v_what 5 with
      | true =>
        replace h := zif_t c20 h
        refine z_table fx d11_message_41 (off := 106) (tgt := 147) (by rw [ceq_of c20]; decide) (by decide) ?_
        refine z_aload fx (i := 4) rfl d11_message_147 ?_
        refine z_getO fx 3 0 1 (okA2 hO (ok8_2 hO (ok11_3 hO ho)) (rI_lt e6)) lf11_255 fk3_0 d11_message_149 ?_
        refine z_getI fx 9 1 901 (ok3_0 hO (okA2 hO (ok8_2 hO (ok11_3 hO ho)) (rI_lt e6))) lf11_264 ⟨fk9_1, rfl⟩ d11_message_152 ?_
        cases h
        exact z_ireturn fx fin d11_message_155
      | false =>
      replace h := zif_f c20 h
      cases c21 : ceq v_what 6 with
      | true =>
        replace h := zif_t c21 h
        refine z_table fx d11_message_41 (off := 115) (tgt := 156) (by rw [ceq_of c21]; decide) (by decide) ?_
        refine z_aload fx (i := 4) rfl d11_message_156 ?_
        refine z_getO fx 3 0 1 (okA2 hO (ok8_2 hO (ok11_3 hO ho)) (rI_lt e6)) lf11_255 fk3_0 d11_message_158 ?_
        refine z_getI fx 9 2 902 (ok3_0 hO (okA2 hO (ok8_2 hO (ok11_3 hO ho)) (rI_lt e6))) lf11_266 ⟨fk9_2, rfl⟩ d11_message_161 ?_
        cases h
        exact z_ireturn fx fin d11_message_164
      | false =>
      replace h := zif_f c21 h
      cases c22 : ceq v_what 7 with
      | true =>
        replace h := zif_t c22 h
        refine z_table fx d11_message_41 (off := 124) (tgt := 165) (by rw [ceq_of c22]; decide) (by decide) ?_
        refine z_aload fx (i := 4) rfl d11_message_165 ?_
        refine z_getO fx 3 0 1 (okA2 hO (ok8_2 hO (ok11_3 hO ho)) (rI_lt e6)) lf11_255 fk3_0 d11_message_167 ?_
        refine z_getI fx 9 3 903 (ok3_0 hO (okA2 hO (ok8_2 hO (ok11_3 hO ho)) (rI_lt e6))) lf11_268 ⟨fk9_3, rfl⟩ d11_message_170 ?_
        cases h
        exact z_ireturn fx fin d11_message_173
      | false =>
      replace h := zif_f c22 h
      cases c23 : ceq v_what 8 with
      | true =>
        replace h := zif_t c23 h
        refine z_table fx d11_message_41 (off := 133) (tgt := 174) (by rw [ceq_of c23]; decide) (by decide) ?_
        refine z_aload fx (i := 4) rfl d11_message_174 ?_
        refine z_getI fx 3 4 304 (okA2 hO (ok8_2 hO (ok11_3 hO ho)) (rI_lt e6)) lf11_271 ⟨fk3_4, rfl⟩ d11_message_176 ?_
        cases h
        exact z_ireturn fx fin d11_message_179
      | false =>
      replace h := zif_f c23 h
      cases c24 : ceq v_what 9 with
      | true =>
        replace h := zif_t c24 h
        refine z_table fx d11_message_41 (off := 139) (tgt := 180) (by rw [ceq_of c24]; decide) (by decide) ?_
        refine z_aload fx (i := 4) rfl d11_message_180 ?_
        refine z_getI fx 3 5 305 (okA2 hO (ok8_2 hO (ok11_3 hO ho)) (rI_lt e6)) lf11_274 ⟨fk3_5, rfl⟩ d11_message_182 ?_
        cases h
        exact z_ireturn fx fin d11_message_185
      | false =>
      replace h := zif_f c24 h
      have hn0 := zne c8 (k := 0) (by decide)
      have hn1 := zne c9 (k := 1) (by decide)
      have hn2 := zne c12 (k := 2) (by decide)
      have hn3 := zne c15 (k := 3) (by decide)
      have hn4 := zne c19 (k := 4) (by decide)
      have hn5 := zne c20 (k := 5) (by decide)
      have hn6 := zne c21 (k := 6) (by decide)
      have hn7 := zne c22 (k := 7) (by decide)
      have hn8 := zne c23 (k := 8) (by decide)
      have hn9 := zne c24 (k := 9) (by decide)
      refine z_table fx d11_message_41 (off := 145) (tgt := 186) ⟨zsw_out (by omega), by decide⟩ (by decide) ?_
      refine z_iconst fx (v := (-1)) icm1 d11_message_186 ?_
      cases h
      exact z_ireturn fx fin d11_message_187
    · replace h := zif_t c5 h
      refine z_iconst fx (v := (-1)) icm1 d11_message_22 ?_
      cases h
      exact z_ireturn fx fin d11_message_23
  refine z_iload_n fx (k := 1) (i := 1) rfl rfl d11_message_0 ?_
  refine z_if_ge fx d11_message_1 (fun c3 => ?_) (fun c3 => ?_)
  · replace e1 := zif_f c3 e1
    refine z_aload_n fx (k := 0) (i := 0) rfl rfl d11_message_8 ?_
    refine z_getO fx 11 3 51 ho lf11_75 fk11_3 d11_message_9 ?_
    refine z_iload_n fx (k := 1) (i := 1) rfl rfl d11_message_12 ?_
    obtain ⟨t2, e4, e1⟩ := zinv e1
    refine z_cVr fx (c8_mailSlot (zLo X) (zDo X) Sh top hO (o_ + 51) v_k μ _ (ok11_3 hO ho) e4) mv8_mailSlot ml11_240 (ok11_3 hO ho) rfl rfl rfl rfl d11_message_13 ?_
    cases e1
    exact k2
  · replace e1 := zif_t c3 e1
    refine z_iconst fx (v := (-1)) icm1 d11_message_4 ?_
    cases e1
    refine z_goto fx d11_message_5 ?_
    exact k2
theorem d11_kept_0 : zd cX11_kept 0 (.iload_n 1) 1 1 := by decide +kernel
theorem d11_kept_1 : zj cX11_kept 1 (.ifCond .lt 23) 23 4 24 := by decide +kernel
theorem d11_kept_4 : zd cX11_kept 4 (.iload_n 1) 1 5 := by decide +kernel
theorem d11_kept_5 : zd cX11_kept 5 (.aload_n 0) 1 6 := by decide +kernel
theorem d11_kept_6 : zd cX11_kept 6 (.getfield 75) 3 9 := by decide +kernel
theorem d11_kept_9 : zd cX11_kept 9 (.getfield 155) 3 12 := by decide +kernel
theorem d11_kept_12 : zj cX11_kept 12 (.if_icmp .ge 12) 12 15 24 := by decide +kernel
theorem d11_kept_15 : zd cX11_kept 15 (.iload_n 2) 1 16 := by decide +kernel
theorem d11_kept_16 : zj cX11_kept 16 (.ifCond .lt 8) 8 19 24 := by decide +kernel
theorem d11_kept_19 : zd cX11_kept 19 (.iload_n 2) 1 20 := by decide +kernel
theorem d11_kept_20 : zd cX11_kept 20 (.iconst 4) 1 21 := by decide +kernel
theorem d11_kept_21 : zj cX11_kept 21 (.if_icmp .lt 5) 5 24 26 := by decide +kernel
theorem d11_kept_24 : zd cX11_kept 24 (.iconst (-1)) 1 25 := by decide +kernel
theorem d11_kept_25 : zd cX11_kept 25 (.ireturn) 1 26 := by decide +kernel
theorem d11_kept_26 : zd cX11_kept 26 (.aload_n 0) 1 27 := by decide +kernel
theorem d11_kept_27 : zd cX11_kept 27 (.getfield 75) 3 30 := by decide +kernel
theorem d11_kept_30 : zd cX11_kept 30 (.getfield 277) 3 33 := by decide +kernel
theorem d11_kept_33 : zd cX11_kept 33 (.iload_n 1) 1 34 := by decide +kernel
theorem d11_kept_34 : zd cX11_kept 34 (.iadd) 1 35 := by decide +kernel
theorem d11_kept_35 : zd cX11_kept 35 (.bipush 40) 2 37 := by decide +kernel
theorem d11_kept_37 : zd cX11_kept 37 (.irem) 1 38 := by decide +kernel
theorem d11_kept_38 : zd cX11_kept 38 (.istore_n 3) 1 39 := by decide +kernel
theorem d11_kept_39 : zd cX11_kept 39 (.aload_n 0) 1 40 := by decide +kernel
theorem d11_kept_40 : zd cX11_kept 40 (.getfield 75) 3 43 := by decide +kernel
theorem d11_kept_43 : zd cX11_kept 43 (.getfield 280) 3 46 := by decide +kernel
theorem d11_kept_46 : zd cX11_kept 46 (.iload_n 3) 1 47 := by decide +kernel
theorem d11_kept_47 : zd cX11_kept 47 (.iconst 4) 1 48 := by decide +kernel
theorem d11_kept_48 : zd cX11_kept 48 (.imul) 1 49 := by decide +kernel
theorem d11_kept_49 : zd cX11_kept 49 (.iload_n 2) 1 50 := by decide +kernel
theorem d11_kept_50 : zd cX11_kept 50 (.iadd) 1 51 := by decide +kernel
theorem d11_kept_51 : zd cX11_kept 51 (.iaload) 1 52 := by decide +kernel
theorem d11_kept_52 : zd cX11_kept 52 (.ireturn) 1 53 := by decide +kernel
set_option maxHeartbeats 4000000 in
set_option maxRecDepth 20000 in
theorem c11_kept (l : Launch) (D : zDt) (Sh : zSh) (top : Nat) (hO : zOK Sh) (o_ : Nat) (v_k : Int32) (v_what : Int32) (μ : zM) (r_ : Int32) (ho : (Sh o_).1 = 18) (h : f11_kept o_ v_k v_what μ = some r_) : zMet l D zK1 yX11_kept cX11_kept 4 (some .int) (zrm 0 0) [.ref o_, .int v_k, .int v_what] Sh top μ (some (.int r_)) Sh top μ 0 0 := by
  refine zMet_of (by decide) (Nat.le_of_ble_eq_true rfl) fun X hX1 hX2 fx fin => ?_
  subst hX1; subst hX2
  replace fx : zFix X cX11_kept RX11 (zrm 0 0) 4 := fx
  show zZ zK1 X (zT0 Sh top) μ 0 [(0, .ref o_), (1, .int v_k), (2, .int v_what)] []
  unfold f11_kept at h
  have kt1 : ((((clt v_k 0) || (!(clt v_k (gF μ 816 (o_ + 51))))) || (clt v_what 0)) || (!(clt v_what 4))) = true → zZ zK1 X (zT0 Sh top) μ 24 [(0, .ref o_), (1, .int v_k), (2, .int v_what)] [] := by
    intro hc
    replace h := zif_t hc h
    refine z_iconst fx (v := (-1)) icm1 d11_kept_24 ?_
    cases h
    exact z_ireturn fx fin d11_kept_25
  have kf1 : ((((clt v_k 0) || (!(clt v_k (gF μ 816 (o_ + 51))))) || (clt v_what 0)) || (!(clt v_what 4))) = false → zZ zK1 X (zT0 Sh top) μ 26 [(0, .ref o_), (1, .int v_k), (2, .int v_what)] [] := by
    intro hc
    replace h := zif_f hc h
    refine z_aload_n fx (k := 0) (i := 0) rfl rfl d11_kept_26 ?_
    refine z_getO fx 11 3 51 ho lf11_75 fk11_3 d11_kept_27 ?_
    refine z_getI fx 8 15 815 (ok11_3 hO ho) lf11_277 ⟨fk8_15, rfl⟩ d11_kept_30 ?_
    refine z_iload_n fx (k := 1) (i := 1) rfl rfl d11_kept_33 ?_
    refine z_iadd fx d11_kept_34 ?_
    refine z_bipush fx (v := 40) bp40 d11_kept_35 ?_
    obtain ⟨t1, e2, h⟩ := zinv h
    refine z_irem fx e2 d11_kept_37 ?_
    refine z_istore_n fx (k := 3) (i := 3) rfl rfl (lv' := [(0, .ref o_), (1, .int v_k), (2, .int v_what), (3, .int t1)]) rfl rfl d11_kept_38 ?_
    refine z_aload_n fx (k := 0) (i := 0) rfl rfl d11_kept_39 ?_
    refine z_getO fx 11 3 51 ho lf11_75 fk11_3 d11_kept_40 ?_
    refine z_getO fx 8 7 8 (ok11_3 hO ho) lf11_280 fk8_7 d11_kept_43 ?_
    refine z_iload_n fx (k := 3) (i := 3) rfl rfl d11_kept_46 ?_
    refine z_iconst fx (v := 4) ic4 d11_kept_47 ?_
    refine z_imul fx d11_kept_48 ?_
    refine z_iload_n fx (k := 2) (i := 2) rfl rfl d11_kept_49 ?_
    refine z_iadd fx d11_kept_50 ?_
    obtain ⟨t2, e3, h⟩ := zinv h
    refine z_iald fx (ok8_7 hO (ok11_3 hO ho)) e3 d11_kept_51 ?_
    cases h
    exact z_ireturn fx fin d11_kept_52
  clear h
  refine z_iload_n fx (k := 1) (i := 1) rfl rfl d11_kept_0 ?_
  refine z_if_lt fx d11_kept_1 (fun c4 => ?_) (fun c4 => ?_)
  · exact kt1 (by simp [c4])
  · refine z_iload_n fx (k := 1) (i := 1) rfl rfl d11_kept_4 ?_
    refine z_aload_n fx (k := 0) (i := 0) rfl rfl d11_kept_5 ?_
    refine z_getO fx 11 3 51 ho lf11_75 fk11_3 d11_kept_6 ?_
    refine z_getI fx 8 16 816 (ok11_3 hO ho) lf11_155 ⟨fk8_16, rfl⟩ d11_kept_9 ?_
    refine z_icmp_ge fx d11_kept_12 (fun c5 => ?_) (fun c5 => ?_)
    · exact kt1 (by simp [c4, c5])
    · refine z_iload_n fx (k := 2) (i := 2) rfl rfl d11_kept_15 ?_
      refine z_if_lt fx d11_kept_16 (fun c6 => ?_) (fun c6 => ?_)
      · exact kt1 (by simp [c4, c5, c6])
      · refine z_iload_n fx (k := 2) (i := 2) rfl rfl d11_kept_19 ?_
        refine z_iconst fx (v := 4) ic4 d11_kept_20 ?_
        refine z_icmp_lt fx d11_kept_21 (fun c7 => ?_) (fun c7 => ?_)
        · exact kf1 (by simp [c4, c5, c6, c7])
        · exact kt1 (by simp [c4, c5, c6, c7])
theorem d1_findWays_0 : zd cX1_findWays 0 (.aload_n 0) 1 1 := by decide +kernel
theorem d1_findWays_1 : zd cX1_findWays 1 (.getfield 9) 3 4 := by decide +kernel
theorem d1_findWays_4 : zd cX1_findWays 4 (.ldc 67) 2 6 := by decide +kernel
theorem d1_findWays_6 : zd cX1_findWays 6 (.invokestatic 68) 3 9 := by decide +kernel
theorem d1_findWays_9 : zd cX1_findWays 9 (.iconst 0) 1 10 := by decide +kernel
theorem d1_findWays_10 : zd cX1_findWays 10 (.istore_n 2) 1 11 := by decide +kernel
theorem d1_findWays_11 : zd cX1_findWays 11 (.iload_n 2) 1 12 := by decide +kernel
theorem d1_findWays_12 : zd cX1_findWays 12 (.aload_n 1) 1 13 := by decide +kernel
theorem d1_findWays_13 : zd cX1_findWays 13 (.getfield 41) 3 16 := by decide +kernel
theorem d1_findWays_16 : zd cX1_findWays 16 (.getfield 47) 3 19 := by decide +kernel
theorem d1_findWays_19 : zj cX1_findWays 19 (.if_icmp .ge 38) 38 22 57 := by decide +kernel
theorem d1_findWays_22 : zd cX1_findWays 22 (.aload_n 0) 1 23 := by decide +kernel
theorem d1_findWays_23 : zd cX1_findWays 23 (.getfield 9) 3 26 := by decide +kernel
theorem d1_findWays_26 : zd cX1_findWays 26 (.iload_n 2) 1 27 := by decide +kernel
theorem d1_findWays_27 : zd cX1_findWays 27 (.bipush 8) 2 29 := by decide +kernel
theorem d1_findWays_29 : zd cX1_findWays 29 (.imul) 1 30 := by decide +kernel
theorem d1_findWays_30 : zd cX1_findWays 30 (.iload_n 2) 1 31 := by decide +kernel
theorem d1_findWays_31 : zd cX1_findWays 31 (.iadd) 1 32 := by decide +kernel
theorem d1_findWays_32 : zd cX1_findWays 32 (.aload_n 1) 1 33 := by decide +kernel
theorem d1_findWays_33 : zd cX1_findWays 33 (.getfield 74) 3 36 := by decide +kernel
theorem d1_findWays_36 : zd cX1_findWays 36 (.iload_n 2) 1 37 := by decide +kernel
theorem d1_findWays_37 : zd cX1_findWays 37 (.aaload) 1 38 := by decide +kernel
theorem d1_findWays_38 : zd cX1_findWays 38 (.getfield 77) 3 41 := by decide +kernel
theorem d1_findWays_41 : zj cX1_findWays 41 (.ifCond .eq 7) 7 44 48 := by decide +kernel
theorem d1_findWays_44 : zd cX1_findWays 44 (.iconst 0) 1 45 := by decide +kernel
theorem d1_findWays_45 : zj cX1_findWays 45 (.goto 5) 5 48 50 := by decide +kernel
theorem d1_findWays_48 : zd cX1_findWays 48 (.ldc 67) 2 50 := by decide +kernel
theorem d1_findWays_50 : zd cX1_findWays 50 (.iastore) 1 51 := by decide +kernel
theorem d1_findWays_51 : zd cX1_findWays 51 (.iinc 2 1) 3 54 := by decide +kernel
theorem d1_findWays_54 : zj cX1_findWays 54 (.goto (-43)) (-43) 57 11 := by decide +kernel
theorem d1_findWays_57 : zd cX1_findWays 57 (.iconst 0) 1 58 := by decide +kernel
theorem d1_findWays_58 : zd cX1_findWays 58 (.istore_n 2) 1 59 := by decide +kernel
theorem d1_findWays_59 : zd cX1_findWays 59 (.iload_n 2) 1 60 := by decide +kernel
theorem d1_findWays_60 : zd cX1_findWays 60 (.iconst 2) 1 61 := by decide +kernel
theorem d1_findWays_61 : zd cX1_findWays 61 (.aload_n 1) 1 62 := by decide +kernel
theorem d1_findWays_62 : zd cX1_findWays 62 (.getfield 41) 3 65 := by decide +kernel
theorem d1_findWays_65 : zd cX1_findWays 65 (.getfield 60) 3 68 := by decide +kernel
theorem d1_findWays_68 : zd cX1_findWays 68 (.imul) 1 69 := by decide +kernel
theorem d1_findWays_69 : zj cX1_findWays 69 (.if_icmp .ge 65) 65 72 134 := by decide +kernel
theorem d1_findWays_72 : zd cX1_findWays 72 (.aload_n 1) 1 73 := by decide +kernel
theorem d1_findWays_73 : zd cX1_findWays 73 (.iload_n 2) 1 74 := by decide +kernel
theorem d1_findWays_74 : zd cX1_findWays 74 (.invokevirtual 83) 3 77 := by decide +kernel
theorem d1_findWays_77 : zj cX1_findWays 77 (.ifCond .eq 51) 51 80 128 := by decide +kernel
theorem d1_findWays_80 : zd cX1_findWays 80 (.aload_n 1) 1 81 := by decide +kernel
theorem d1_findWays_81 : zd cX1_findWays 81 (.getfield 41) 3 84 := by decide +kernel
theorem d1_findWays_84 : zd cX1_findWays 84 (.getfield 87) 3 87 := by decide +kernel
theorem d1_findWays_87 : zd cX1_findWays 87 (.iload_n 2) 1 88 := by decide +kernel
theorem d1_findWays_88 : zd cX1_findWays 88 (.iaload) 1 89 := by decide +kernel
theorem d1_findWays_89 : zd cX1_findWays 89 (.bipush 8) 2 91 := by decide +kernel
theorem d1_findWays_91 : zd cX1_findWays 91 (.imul) 1 92 := by decide +kernel
theorem d1_findWays_92 : zd cX1_findWays 92 (.aload_n 1) 1 93 := by decide +kernel
theorem d1_findWays_93 : zd cX1_findWays 93 (.getfield 41) 3 96 := by decide +kernel
theorem d1_findWays_96 : zd cX1_findWays 96 (.iload_n 2) 1 97 := by decide +kernel
theorem d1_findWays_97 : zd cX1_findWays 97 (.invokevirtual 90) 3 100 := by decide +kernel
theorem d1_findWays_100 : zd cX1_findWays 100 (.iadd) 1 101 := by decide +kernel
theorem d1_findWays_101 : zd cX1_findWays 101 (.istore_n 3) 1 102 := by decide +kernel
theorem d1_findWays_102 : zd cX1_findWays 102 (.aload_n 0) 1 103 := by decide +kernel
theorem d1_findWays_103 : zd cX1_findWays 103 (.getfield 9) 3 106 := by decide +kernel
theorem d1_findWays_106 : zd cX1_findWays 106 (.iload_n 3) 1 107 := by decide +kernel
theorem d1_findWays_107 : zd cX1_findWays 107 (.aload_n 0) 1 108 := by decide +kernel
theorem d1_findWays_108 : zd cX1_findWays 108 (.getfield 9) 3 111 := by decide +kernel
theorem d1_findWays_111 : zd cX1_findWays 111 (.iload_n 3) 1 112 := by decide +kernel
theorem d1_findWays_112 : zd cX1_findWays 112 (.iaload) 1 113 := by decide +kernel
theorem d1_findWays_113 : zd cX1_findWays 113 (.aload_n 1) 1 114 := by decide +kernel
theorem d1_findWays_114 : zd cX1_findWays 114 (.getfield 41) 3 117 := by decide +kernel
theorem d1_findWays_117 : zd cX1_findWays 117 (.getfield 94) 3 120 := by decide +kernel
theorem d1_findWays_120 : zd cX1_findWays 120 (.iload_n 2) 1 121 := by decide +kernel
theorem d1_findWays_121 : zd cX1_findWays 121 (.iconst 1) 1 122 := by decide +kernel
theorem d1_findWays_122 : zd cX1_findWays 122 (.ishr) 1 123 := by decide +kernel
theorem d1_findWays_123 : zd cX1_findWays 123 (.iaload) 1 124 := by decide +kernel
theorem d1_findWays_124 : zd cX1_findWays 124 (.invokestatic 95) 3 127 := by decide +kernel
theorem d1_findWays_127 : zd cX1_findWays 127 (.iastore) 1 128 := by decide +kernel
theorem d1_findWays_128 : zd cX1_findWays 128 (.iinc 2 1) 3 131 := by decide +kernel
theorem d1_findWays_131 : zj cX1_findWays 131 (.goto (-72)) (-72) 134 59 := by decide +kernel
theorem d1_findWays_134 : zd cX1_findWays 134 (.iconst 0) 1 135 := by decide +kernel
theorem d1_findWays_135 : zd cX1_findWays 135 (.istore_n 2) 1 136 := by decide +kernel
theorem d1_findWays_136 : zd cX1_findWays 136 (.iload_n 2) 1 137 := by decide +kernel
theorem d1_findWays_137 : zd cX1_findWays 137 (.bipush 8) 2 139 := by decide +kernel
theorem d1_findWays_139 : zj cX1_findWays 139 (.if_icmp .ge 71) 71 142 210 := by decide +kernel
theorem d1_findWays_142 : zd cX1_findWays 142 (.iconst 0) 1 143 := by decide +kernel
theorem d1_findWays_143 : zd cX1_findWays 143 (.istore_n 3) 1 144 := by decide +kernel
theorem d1_findWays_144 : zd cX1_findWays 144 (.iload_n 3) 1 145 := by decide +kernel
theorem d1_findWays_145 : zd cX1_findWays 145 (.bipush 64) 2 147 := by decide +kernel
theorem d1_findWays_147 : zj cX1_findWays 147 (.if_icmp .ge 57) 57 150 204 := by decide +kernel
theorem d1_findWays_150 : zd cX1_findWays 150 (.aload_n 0) 1 151 := by decide +kernel
theorem d1_findWays_151 : zd cX1_findWays 151 (.getfield 9) 3 154 := by decide +kernel
theorem d1_findWays_154 : zd cX1_findWays 154 (.iload_n 3) 1 155 := by decide +kernel
theorem d1_findWays_155 : zd cX1_findWays 155 (.bipush 8) 2 157 := by decide +kernel
theorem d1_findWays_157 : zd cX1_findWays 157 (.idiv) 1 158 := by decide +kernel
theorem d1_findWays_158 : zd cX1_findWays 158 (.bipush 8) 2 160 := by decide +kernel
theorem d1_findWays_160 : zd cX1_findWays 160 (.imul) 1 161 := by decide +kernel
theorem d1_findWays_161 : zd cX1_findWays 161 (.iload_n 2) 1 162 := by decide +kernel
theorem d1_findWays_162 : zd cX1_findWays 162 (.iadd) 1 163 := by decide +kernel
theorem d1_findWays_163 : zd cX1_findWays 163 (.iaload) 1 164 := by decide +kernel
theorem d1_findWays_164 : zd cX1_findWays 164 (.aload_n 0) 1 165 := by decide +kernel
theorem d1_findWays_165 : zd cX1_findWays 165 (.getfield 9) 3 168 := by decide +kernel
theorem d1_findWays_168 : zd cX1_findWays 168 (.iload_n 2) 1 169 := by decide +kernel
theorem d1_findWays_169 : zd cX1_findWays 169 (.bipush 8) 2 171 := by decide +kernel
theorem d1_findWays_171 : zd cX1_findWays 171 (.imul) 1 172 := by decide +kernel
theorem d1_findWays_172 : zd cX1_findWays 172 (.iload_n 3) 1 173 := by decide +kernel
theorem d1_findWays_173 : zd cX1_findWays 173 (.bipush 8) 2 175 := by decide +kernel
theorem d1_findWays_175 : zd cX1_findWays 175 (.irem) 1 176 := by decide +kernel
theorem d1_findWays_176 : zd cX1_findWays 176 (.iadd) 1 177 := by decide +kernel
theorem d1_findWays_177 : zd cX1_findWays 177 (.iaload) 1 178 := by decide +kernel
theorem d1_findWays_178 : zd cX1_findWays 178 (.iadd) 1 179 := by decide +kernel
theorem d1_findWays_179 : zd cX1_findWays 179 (.istore 4) 2 181 := by decide +kernel
theorem d1_findWays_181 : zd cX1_findWays 181 (.aload_n 0) 1 182 := by decide +kernel
theorem d1_findWays_182 : zd cX1_findWays 182 (.getfield 9) 3 185 := by decide +kernel
theorem d1_findWays_185 : zd cX1_findWays 185 (.iload_n 3) 1 186 := by decide +kernel
theorem d1_findWays_186 : zd cX1_findWays 186 (.aload_n 0) 1 187 := by decide +kernel
theorem d1_findWays_187 : zd cX1_findWays 187 (.getfield 9) 3 190 := by decide +kernel
theorem d1_findWays_190 : zd cX1_findWays 190 (.iload_n 3) 1 191 := by decide +kernel
theorem d1_findWays_191 : zd cX1_findWays 191 (.iaload) 1 192 := by decide +kernel
theorem d1_findWays_192 : zd cX1_findWays 192 (.iload 4) 2 194 := by decide +kernel
theorem d1_findWays_194 : zd cX1_findWays 194 (.invokestatic 95) 3 197 := by decide +kernel
theorem d1_findWays_197 : zd cX1_findWays 197 (.iastore) 1 198 := by decide +kernel
theorem d1_findWays_198 : zd cX1_findWays 198 (.iinc 3 1) 3 201 := by decide +kernel
theorem d1_findWays_201 : zj cX1_findWays 201 (.goto (-57)) (-57) 204 144 := by decide +kernel
theorem d1_findWays_204 : zd cX1_findWays 204 (.iinc 2 1) 3 207 := by decide +kernel
theorem d1_findWays_207 : zj cX1_findWays 207 (.goto (-71)) (-71) 210 136 := by decide +kernel
theorem d1_findWays_210 : zd cX1_findWays 210 (.return_) 1 211 := by decide +kernel
set_option maxHeartbeats 4000000 in
set_option maxRecDepth 20000 in
theorem c1_findWays (l : Launch) (D : zDt) (Sh : zSh) (top : Nat) (hO : zOK Sh) (o_ : Nat) (v_state : Nat) (μ : zM) (μ_ : zM) (ho : (Sh o_).1 = 8) (h_state : (Sh v_state).1 = 15) (h : f1_findWays o_ v_state μ = some μ_) : zMet l D zK1 yX1_findWays cX1_findWays 5 none (zrm 2 42) [.ref o_, .ref v_state] Sh top μ none Sh top μ_ 0 0 := by
  refine zMet_of (by decide) (Nat.le_of_ble_eq_true rfl) fun X hX1 hX2 fx fin => ?_
  subst hX1; subst hX2
  replace fx : zFix X cX1_findWays RX1 (zrm 2 42) 5 := fx
  show zZ zK1 X (zT0 Sh top) μ 0 [(0, .ref o_), (1, .ref v_state)] []
  unfold f1_findWays at h
  refine z_aload_n fx (k := 0) (i := 0) rfl rfl d1_findWays_0 ?_
  refine z_getO fx 1 0 1 ho lf1_9 fk1_0 d1_findWays_1 ?_
  refine z_ldc fx (v := 1000000) kc1_67 d1_findWays_4 ?_
  obtain ⟨μ1, e1, h⟩ := zinv h
  refine z_cSv fx (cJ_fill (zLo X) (zDo X) Sh top hO (o_ + 1) 64 1000000 μ _ (ok1_0 hO ho) (Nat.le_of_ble_eq_true rfl) e1) msJ_fill ml1_68 rfl rfl rfl rfl d1_findWays_6 ?_
  refine z_iconst fx (v := 0) ic0 d1_findWays_9 ?_
  refine z_istore_n fx (k := 2) (i := 2) rfl rfl (lv' := [(0, .ref o_), (1, .ref v_state), (2, .int 0)]) rfl rfl d1_findWays_10 ?_
  obtain ⟨v_b_4, μ5, e59, h⟩ := zinv2 h
  have kx5 : zZ zK1 X (zT0 Sh top) μ5 57 [(0, .ref o_), (1, .ref v_state), (2, .int v_b_4)] [] := by
    refine z_take 2 (lv' := [(0, .ref o_), (1, .ref v_state)]) rfl ?_
    refine z_iconst fx (v := 0) ic0 d1_findWays_57 ?_
    refine z_istore_n fx (k := 2) (i := 2) rfl rfl (lv' := [(0, .ref o_), (1, .ref v_state), (2, .int 0)]) rfl rfl d1_findWays_58 ?_
    obtain ⟨v_end_13, μ14, e58, h⟩ := zinv2 h
    have kx18 : zZ zK1 X (zT0 Sh top) μ14 134 [(0, .ref o_), (1, .ref v_state), (2, .int v_end_13)] [] := by
      refine z_take 2 (lv' := [(0, .ref o_), (1, .ref v_state)]) rfl ?_
      refine z_iconst fx (v := 0) ic0 d1_findWays_134 ?_
      refine z_istore_n fx (k := 2) (i := 2) rfl rfl (lv' := [(0, .ref o_), (1, .ref v_state), (2, .int 0)]) rfl rfl d1_findWays_135 ?_
      obtain ⟨v_by_30, μ31, e57, h⟩ := zinv2 h
      have kx38 : zZ zK1 X (zT0 Sh top) μ31 210 [(0, .ref o_), (1, .ref v_state), (2, .int v_by_30)] [] := by
        refine z_take 2 (lv' := [(0, .ref o_), (1, .ref v_state)]) rfl ?_
        cases h
        exact z_return fx fin d1_findWays_210
      clear h
      have klr37 : ∀ (n : Nat) (v_by_28 : Int32) (μ29 : zM), zloop (fun s => f1_findWays_L3 o_ s.1 s.2) n (v_by_28, μ29) = some (v_by_30, μ31) → zZ zK1 X (zT0 Sh top) μ29 136 [(0, .ref o_), (1, .ref v_state), (2, .int v_by_28)] [] := by
        intro n
        induction n with
        | zero => intro v_by_28 μ29 hl36; cases hl36
        | succ n ih39 =>
          intro v_by_28 μ29 hl36
          obtain ⟨y, e35, hl36⟩ := zloop_inv hl36
          replace e35 : f1_findWays_L3 o_ v_by_28 μ29 = some y := e35
          unfold f1_findWays_L3 at e35
          refine z_iload_n fx (k := 2) (i := 2) rfl rfl d1_findWays_136 ?_
          refine z_bipush fx (v := 8) bp8 d1_findWays_137 ?_
          refine z_icmp_ge fx d1_findWays_139 (fun c40 => ?_) (fun c40 => ?_)
          · replace e35 := zif_f c40 e35
            cases e35
            cases hl36
            exact kx38
          · replace e35 := zif_t c40 e35
            refine z_iconst fx (v := 0) ic0 d1_findWays_142 ?_
            refine z_istore_n fx (k := 3) (i := 3) rfl rfl (lv' := [(0, .ref o_), (1, .ref v_state), (2, .int v_by_28), (3, .int 0)]) rfl rfl d1_findWays_143 ?_
            obtain ⟨v_k_34, μ35, e56, e35⟩ := zinv2 e35
            have kx44 : zZ zK1 X (zT0 Sh top) μ35 204 [(0, .ref o_), (1, .ref v_state), (2, .int v_by_28), (3, .int v_k_34)] [] := by
              refine z_take 3 (lv' := [(0, .ref o_), (1, .ref v_state), (2, .int v_by_28)]) rfl ?_
              obtain ⟨v_by_44, e55, e35⟩ := zinv e35
              replace e55 := Option.some.inj e55
              refine z_iinc fx (i := 2) (x := v_by_28) (v := v_by_44) rfl (by rw [in1]; exact e55) rfl (lv' := [(0, .ref o_), (1, .ref v_state), (2, .int v_by_44)]) rfl rfl d1_findWays_204 ?_
              cases e35
              refine z_goto fx d1_findWays_207 ?_
              exact ih39 _ _ hl36
            clear e35
            have klr43 : ∀ (n : Nat) (v_k_32 : Int32) (μ33 : zM), zloop (fun s => f1_findWays_L4 o_ v_by_28 s.1 s.2) n (v_k_32, μ33) = some (v_k_34, μ35) → zZ zK1 X (zT0 Sh top) μ33 144 [(0, .ref o_), (1, .ref v_state), (2, .int v_by_28), (3, .int v_k_32)] [] := by
              intro n
              induction n with
              | zero => intro v_k_32 μ33 hl42; cases hl42
              | succ n ih45 =>
                intro v_k_32 μ33 hl42
                obtain ⟨y, e41, hl42⟩ := zloop_inv hl42
                replace e41 : f1_findWays_L4 o_ v_by_28 v_k_32 μ33 = some y := e41
                unfold f1_findWays_L4 at e41
                refine z_iload_n fx (k := 3) (i := 3) rfl rfl d1_findWays_144 ?_
                refine z_bipush fx (v := 64) bp64 d1_findWays_145 ?_
                refine z_icmp_ge fx d1_findWays_147 (fun c46 => ?_) (fun c46 => ?_)
                · replace e41 := zif_f c46 e41
                  cases e41
                  cases hl42
                  exact kx44
                · replace e41 := zif_t c46 e41
                  refine z_aload_n fx (k := 0) (i := 0) rfl rfl d1_findWays_150 ?_
                  refine z_getO fx 1 0 1 ho lf1_9 fk1_0 d1_findWays_151 ?_
                  refine z_iload_n fx (k := 3) (i := 3) rfl rfl d1_findWays_154 ?_
                  refine z_bipush fx (v := 8) bp8 d1_findWays_155 ?_
                  obtain ⟨t36, e47, e41⟩ := zinv e41
                  refine z_idiv fx e47 d1_findWays_157 ?_
                  refine z_bipush fx (v := 8) bp8 d1_findWays_158 ?_
                  refine z_imul fx d1_findWays_160 ?_
                  refine z_iload_n fx (k := 2) (i := 2) rfl rfl d1_findWays_161 ?_
                  refine z_iadd fx d1_findWays_162 ?_
                  obtain ⟨t37, e48, e41⟩ := zinv e41
                  refine z_iald fx (ok1_0 hO ho) e48 d1_findWays_163 ?_
                  refine z_aload_n fx (k := 0) (i := 0) rfl rfl d1_findWays_164 ?_
                  refine z_getO fx 1 0 1 ho lf1_9 fk1_0 d1_findWays_165 ?_
                  refine z_iload_n fx (k := 2) (i := 2) rfl rfl d1_findWays_168 ?_
                  refine z_bipush fx (v := 8) bp8 d1_findWays_169 ?_
                  refine z_imul fx d1_findWays_171 ?_
                  refine z_iload_n fx (k := 3) (i := 3) rfl rfl d1_findWays_172 ?_
                  refine z_bipush fx (v := 8) bp8 d1_findWays_173 ?_
                  obtain ⟨t38, e49, e41⟩ := zinv e41
                  refine z_irem fx e49 d1_findWays_175 ?_
                  refine z_iadd fx d1_findWays_176 ?_
                  obtain ⟨t39, e50, e41⟩ := zinv e41
                  refine z_iald fx (ok1_0 hO ho) e50 d1_findWays_177 ?_
                  refine z_iadd fx d1_findWays_178 ?_
                  obtain ⟨v_sum_40, e51, e41⟩ := zinv e41
                  replace e51 := Option.some.inj e51
                  refine z_top (congrArg Value.int e51) ?_
                  refine z_istore fx (i := 4) rfl (lv' := [(0, .ref o_), (1, .ref v_state), (2, .int v_by_28), (3, .int v_k_32), (4, .int v_sum_40)]) rfl rfl d1_findWays_179 ?_
                  refine z_aload_n fx (k := 0) (i := 0) rfl rfl d1_findWays_181 ?_
                  refine z_getO fx 1 0 1 ho lf1_9 fk1_0 d1_findWays_182 ?_
                  refine z_iload_n fx (k := 3) (i := 3) rfl rfl d1_findWays_185 ?_
                  refine z_aload_n fx (k := 0) (i := 0) rfl rfl d1_findWays_186 ?_
                  refine z_getO fx 1 0 1 ho lf1_9 fk1_0 d1_findWays_187 ?_
                  refine z_iload_n fx (k := 3) (i := 3) rfl rfl d1_findWays_190 ?_
                  obtain ⟨t41, e52, e41⟩ := zinv e41
                  refine z_iald fx (ok1_0 hO ho) e52 d1_findWays_191 ?_
                  refine z_iload fx (i := 4) rfl d1_findWays_192 ?_
                  refine z_mmin fx ml1_95 zm_min (Nat.le_of_ble_eq_true rfl) ⟨Nat.le_of_ble_eq_true rfl, Nat.le_of_ble_eq_true rfl, Nat.le_of_ble_eq_true rfl, Nat.le_of_ble_eq_true rfl⟩ d1_findWays_194 ?_
                  obtain ⟨μ42, e53, e41⟩ := zinv e41
                  refine z_iast fx (ok1_0 hO ho) e53 d1_findWays_197 ?_
                  refine z_take 4 (lv' := [(0, .ref o_), (1, .ref v_state), (2, .int v_by_28), (3, .int v_k_32)]) rfl ?_
                  obtain ⟨v_k_43, e54, e41⟩ := zinv e41
                  replace e54 := Option.some.inj e54
                  refine z_iinc fx (i := 3) (x := v_k_32) (v := v_k_43) rfl (by rw [in1]; exact e54) rfl (lv' := [(0, .ref o_), (1, .ref v_state), (2, .int v_by_28), (3, .int v_k_43)]) rfl rfl d1_findWays_198 ?_
                  cases e41
                  refine z_goto fx d1_findWays_201 ?_
                  exact ih45 _ _ hl42
            exact klr43 _ _ _ e56
      exact klr37 _ _ _ e57
    clear h
    have klr17 : ∀ (n : Nat) (v_end_11 : Int32) (μ12 : zM), zloop (fun s => f1_findWays_L2 o_ v_state s.1 s.2) n (v_end_11, μ12) = some (v_end_13, μ14) → zZ zK1 X (zT0 Sh top) μ12 59 [(0, .ref o_), (1, .ref v_state), (2, .int v_end_11)] [] := by
      intro n
      induction n with
      | zero => intro v_end_11 μ12 hl16; cases hl16
      | succ n ih19 =>
        intro v_end_11 μ12 hl16
        obtain ⟨y, e15, hl16⟩ := zloop_inv hl16
        replace e15 : f1_findWays_L2 o_ v_state v_end_11 μ12 = some y := e15
        unfold f1_findWays_L2 at e15
        refine z_iload_n fx (k := 2) (i := 2) rfl rfl d1_findWays_59 ?_
        refine z_iconst fx (v := 2) ic2 d1_findWays_60 ?_
        refine z_aload_n fx (k := 1) (i := 1) rfl rfl d1_findWays_61 ?_
        obtain ⟨w15, e20, e15⟩ := zinv e15
        refine z_getR fx 8 12 812 17 h_state lf1_41 ⟨fk8_12, rfl⟩ e20 d1_findWays_62 (fun tw15 => ?_)
        refine z_getI fx 10 16 1016 tw15 lf1_60 ⟨fk10_16, rfl⟩ d1_findWays_65 ?_
        refine z_imul fx d1_findWays_68 ?_
        refine z_icmp_ge fx d1_findWays_69 (fun c21 => ?_) (fun c21 => ?_)
        · replace e15 := zif_f c21 e15
          cases e15
          cases hl16
          exact kx18
        · replace e15 := zif_t c21 e15
          refine z_aload_n fx (k := 1) (i := 1) rfl rfl d1_findWays_72 ?_
          refine z_iload_n fx (k := 2) (i := 2) rfl rfl d1_findWays_73 ?_
          obtain ⟨t16, e22, e15⟩ := zinv e15
          refine z_cVr fx (c8_isUp (zLo X) (zDo X) Sh top hO v_state v_end_11 μ12 _ h_state e22) mv8_isUp ml1_83 h_state rfl rfl rfl rfl d1_findWays_74 ?_
          refine z_ifb_eq fx d1_findWays_77 (fun c23 => ?_) (fun c23 => ?_)
          · replace e15 := zif_f c23 e15
            obtain ⟨v_end_17, e24, e15⟩ := zinv e15
            replace e24 := Option.some.inj e24
            refine z_iinc fx (i := 2) (x := v_end_11) (v := v_end_17) rfl (by rw [in1]; exact e24) rfl (lv' := [(0, .ref o_), (1, .ref v_state), (2, .int v_end_17)]) rfl rfl d1_findWays_128 ?_
            cases e15
            refine z_goto fx d1_findWays_131 ?_
            exact ih19 _ _ hl16
          · replace e15 := zif_t c23 e15
            refine z_aload_n fx (k := 1) (i := 1) rfl rfl d1_findWays_80 ?_
            obtain ⟨w18, e25, e15⟩ := zinv e15
            refine z_getR fx 8 12 812 17 h_state lf1_41 ⟨fk8_12, rfl⟩ e25 d1_findWays_81 (fun tw18 => ?_)
            refine z_getO fx 10 6 7 tw18 lf1_87 fk10_6 d1_findWays_84 ?_
            refine z_iload_n fx (k := 2) (i := 2) rfl rfl d1_findWays_87 ?_
            obtain ⟨t19, e26, e15⟩ := zinv e15
            refine z_iald fx (ok10_6 hO tw18) e26 d1_findWays_88 ?_
            refine z_bipush fx (v := 8) bp8 d1_findWays_89 ?_
            refine z_imul fx d1_findWays_91 ?_
            refine z_aload_n fx (k := 1) (i := 1) rfl rfl d1_findWays_92 ?_
            obtain ⟨w20, e27, e15⟩ := zinv e15
            refine z_getR fx 8 12 812 17 h_state lf1_41 ⟨fk8_12, rfl⟩ e27 d1_findWays_93 (fun tw20 => ?_)
            refine z_iload_n fx (k := 2) (i := 2) rfl rfl d1_findWays_96 ?_
            obtain ⟨t21, e28, e15⟩ := zinv e15
            refine z_cVr fx (c10_farBridge (zLo X) (zDo X) Sh top hO w20 v_end_11 μ12 _ tw20 e28) mv10_farBridge ml1_90 tw20 rfl rfl rfl rfl d1_findWays_97 ?_
            refine z_iadd fx d1_findWays_100 ?_
            obtain ⟨v_k_22, e29, e15⟩ := zinv e15
            replace e29 := Option.some.inj e29
            refine z_top (congrArg Value.int e29) ?_
            refine z_istore_n fx (k := 3) (i := 3) rfl rfl (lv' := [(0, .ref o_), (1, .ref v_state), (2, .int v_end_11), (3, .int v_k_22)]) rfl rfl d1_findWays_101 ?_
            refine z_aload_n fx (k := 0) (i := 0) rfl rfl d1_findWays_102 ?_
            refine z_getO fx 1 0 1 ho lf1_9 fk1_0 d1_findWays_103 ?_
            refine z_iload_n fx (k := 3) (i := 3) rfl rfl d1_findWays_106 ?_
            refine z_aload_n fx (k := 0) (i := 0) rfl rfl d1_findWays_107 ?_
            refine z_getO fx 1 0 1 ho lf1_9 fk1_0 d1_findWays_108 ?_
            refine z_iload_n fx (k := 3) (i := 3) rfl rfl d1_findWays_111 ?_
            obtain ⟨t23, e30, e15⟩ := zinv e15
            refine z_iald fx (ok1_0 hO ho) e30 d1_findWays_112 ?_
            refine z_aload_n fx (k := 1) (i := 1) rfl rfl d1_findWays_113 ?_
            obtain ⟨w24, e31, e15⟩ := zinv e15
            refine z_getR fx 8 12 812 17 h_state lf1_41 ⟨fk8_12, rfl⟩ e31 d1_findWays_114 (fun tw24 => ?_)
            refine z_getO fx 10 9 10 tw24 lf1_94 fk10_9 d1_findWays_117 ?_
            refine z_iload_n fx (k := 2) (i := 2) rfl rfl d1_findWays_120 ?_
            refine z_iconst fx (v := 1) ic1 d1_findWays_121 ?_
            refine z_ishr fx d1_findWays_122 ?_
            obtain ⟨t25, e32, e15⟩ := zinv e15
            refine z_iald fx (ok10_9 hO tw24) e32 d1_findWays_123 ?_
            refine z_mmin fx ml1_95 zm_min (Nat.le_of_ble_eq_true rfl) ⟨Nat.le_of_ble_eq_true rfl, Nat.le_of_ble_eq_true rfl, Nat.le_of_ble_eq_true rfl, Nat.le_of_ble_eq_true rfl⟩ d1_findWays_124 ?_
            obtain ⟨μ26, e33, e15⟩ := zinv e15
            refine z_iast fx (ok1_0 hO ho) e33 d1_findWays_127 ?_
            refine z_take 3 (lv' := [(0, .ref o_), (1, .ref v_state), (2, .int v_end_11)]) rfl ?_
            obtain ⟨v_end_27, e34, e15⟩ := zinv e15
            replace e34 := Option.some.inj e34
            refine z_iinc fx (i := 2) (x := v_end_11) (v := v_end_27) rfl (by rw [in1]; exact e34) rfl (lv' := [(0, .ref o_), (1, .ref v_state), (2, .int v_end_27)]) rfl rfl d1_findWays_128 ?_
            cases e15
            refine z_goto fx d1_findWays_131 ?_
            exact ih19 _ _ hl16
    exact klr17 _ _ _ e58
  clear h
  have klr4 : ∀ (n : Nat) (v_b_2 : Int32) (μ3 : zM), zloop (fun s => f1_findWays_L1 o_ v_state s.1 s.2) n (v_b_2, μ3) = some (v_b_4, μ5) → zZ zK1 X (zT0 Sh top) μ3 11 [(0, .ref o_), (1, .ref v_state), (2, .int v_b_2)] [] := by
    intro n
    induction n with
    | zero => intro v_b_2 μ3 hl3; cases hl3
    | succ n ih6 =>
      intro v_b_2 μ3 hl3
      obtain ⟨y, e2, hl3⟩ := zloop_inv hl3
      replace e2 : f1_findWays_L1 o_ v_state v_b_2 μ3 = some y := e2
      unfold f1_findWays_L1 at e2
      refine z_iload_n fx (k := 2) (i := 2) rfl rfl d1_findWays_11 ?_
      refine z_aload_n fx (k := 1) (i := 1) rfl rfl d1_findWays_12 ?_
      obtain ⟨w6, e7, e2⟩ := zinv e2
      refine z_getR fx 8 12 812 17 h_state lf1_41 ⟨fk8_12, rfl⟩ e7 d1_findWays_13 (fun tw6 => ?_)
      refine z_getI fx 10 15 1015 tw6 lf1_47 ⟨fk10_15, rfl⟩ d1_findWays_16 ?_
      refine z_icmp_ge fx d1_findWays_19 (fun c8 => ?_) (fun c8 => ?_)
      · replace e2 := zif_f c8 e2
        cases e2
        cases hl3
        exact kx5
      · replace e2 := zif_t c8 e2
        refine z_aload_n fx (k := 0) (i := 0) rfl rfl d1_findWays_22 ?_
        refine z_getO fx 1 0 1 ho lf1_9 fk1_0 d1_findWays_23 ?_
        refine z_iload_n fx (k := 2) (i := 2) rfl rfl d1_findWays_26 ?_
        refine z_bipush fx (v := 8) bp8 d1_findWays_27 ?_
        refine z_imul fx d1_findWays_29 ?_
        refine z_iload_n fx (k := 2) (i := 2) rfl rfl d1_findWays_30 ?_
        refine z_iadd fx d1_findWays_31 ?_
        obtain ⟨x7, e9, e2⟩ := zinv e2
        have k10 : zZ zK1 X (zT0 Sh top) μ3 50 [(0, .ref o_), (1, .ref v_state), (2, .int v_b_2)] [.int x7, .int ((v_b_2 * 8) + v_b_2), .ref (o_ + 1)] := by
          obtain ⟨μ9, e13, e2⟩ := zinv e2
          refine z_iast fx (ok1_0 hO ho) e13 d1_findWays_50 ?_
          obtain ⟨v_b_10, e14, e2⟩ := zinv e2
          replace e14 := Option.some.inj e14
          refine z_iinc fx (i := 2) (x := v_b_2) (v := v_b_10) rfl (by rw [in1]; exact e14) rfl (lv' := [(0, .ref o_), (1, .ref v_state), (2, .int v_b_10)]) rfl rfl d1_findWays_51 ?_
          cases e2
          refine z_goto fx d1_findWays_54 ?_
          exact ih6 _ _ hl3
        refine z_aload_n fx (k := 1) (i := 1) rfl rfl d1_findWays_32 ?_
        refine z_getO fx 8 0 1 h_state lf1_74 fk8_0 d1_findWays_33 ?_
        refine z_iload_n fx (k := 2) (i := 2) rfl rfl d1_findWays_36 ?_
        obtain ⟨j8, e11, e9⟩ := zinv e9
        refine z_aald fx 0 (by decide) (ok8_0 hO h_state) e11 (v := .ref (v_state + 13 + 3 * j8)) rfl d1_findWays_37 ?_
        refine z_getB fx 0 3 3 (okA0 hO (ok8_0 hO h_state) (rI_lt e11)) lf1_77 ⟨fk0_3, rfl⟩ d1_findWays_38 ?_
        refine z_ifb_eq fx d1_findWays_41 (fun c12 => ?_) (fun c12 => ?_)
        · replace e9 := zif_f c12 e9
          refine z_ldc fx (v := 1000000) kc1_67 d1_findWays_48 ?_
          cases e9
          exact k10
        · replace e9 := zif_t c12 e9
          refine z_iconst fx (v := 0) ic0 d1_findWays_44 ?_
          cases e9
          refine z_goto fx d1_findWays_45 ?_
          exact k10
  exact klr4 _ _ _ e59
theorem d1_findRoot_0 : zd cX1_findRoot 0 (.aload_n 0) 1 1 := by decide +kernel
theorem d1_findRoot_1 : zd cX1_findRoot 1 (.getfield 15) 3 4 := by decide +kernel
theorem d1_findRoot_4 : zd cX1_findRoot 4 (.iload_n 2) 1 5 := by decide +kernel
theorem d1_findRoot_5 : zd cX1_findRoot 5 (.iconst (-1)) 1 6 := by decide +kernel
theorem d1_findRoot_6 : zd cX1_findRoot 6 (.iastore) 1 7 := by decide +kernel
theorem d1_findRoot_7 : zd cX1_findRoot 7 (.iconst 0) 1 8 := by decide +kernel
theorem d1_findRoot_8 : zd cX1_findRoot 8 (.istore_n 3) 1 9 := by decide +kernel
theorem d1_findRoot_9 : zd cX1_findRoot 9 (.iload_n 3) 1 10 := by decide +kernel
theorem d1_findRoot_10 : zd cX1_findRoot 10 (.aload_n 1) 1 11 := by decide +kernel
theorem d1_findRoot_11 : zd cX1_findRoot 11 (.getfield 41) 3 14 := by decide +kernel
theorem d1_findRoot_14 : zd cX1_findRoot 14 (.getfield 47) 3 17 := by decide +kernel
theorem d1_findRoot_17 : zj cX1_findRoot 17 (.if_icmp .ge 82) 82 20 99 := by decide +kernel
theorem d1_findRoot_20 : zd cX1_findRoot 20 (.aload_n 1) 1 21 := by decide +kernel
theorem d1_findRoot_21 : zd cX1_findRoot 21 (.getfield 74) 3 24 := by decide +kernel
theorem d1_findRoot_24 : zd cX1_findRoot 24 (.iload_n 3) 1 25 := by decide +kernel
theorem d1_findRoot_25 : zd cX1_findRoot 25 (.aaload) 1 26 := by decide +kernel
theorem d1_findRoot_26 : zd cX1_findRoot 26 (.invokevirtual 101) 3 29 := by decide +kernel
theorem d1_findRoot_29 : zd cX1_findRoot 29 (.istore 4) 2 31 := by decide +kernel
theorem d1_findRoot_31 : zd cX1_findRoot 31 (.aload_n 0) 1 32 := by decide +kernel
theorem d1_findRoot_32 : zd cX1_findRoot 32 (.getfield 9) 3 35 := by decide +kernel
theorem d1_findRoot_35 : zd cX1_findRoot 35 (.iload_n 2) 1 36 := by decide +kernel
theorem d1_findRoot_36 : zd cX1_findRoot 36 (.bipush 8) 2 38 := by decide +kernel
theorem d1_findRoot_38 : zd cX1_findRoot 38 (.imul) 1 39 := by decide +kernel
theorem d1_findRoot_39 : zd cX1_findRoot 39 (.iload_n 3) 1 40 := by decide +kernel
theorem d1_findRoot_40 : zd cX1_findRoot 40 (.iadd) 1 41 := by decide +kernel
theorem d1_findRoot_41 : zd cX1_findRoot 41 (.iaload) 1 42 := by decide +kernel
theorem d1_findRoot_42 : zd cX1_findRoot 42 (.ldc 67) 2 44 := by decide +kernel
theorem d1_findRoot_44 : zj cX1_findRoot 44 (.if_icmp .ge 49) 49 47 93 := by decide +kernel
theorem d1_findRoot_47 : zd cX1_findRoot 47 (.aload_n 0) 1 48 := by decide +kernel
theorem d1_findRoot_48 : zd cX1_findRoot 48 (.getfield 15) 3 51 := by decide +kernel
theorem d1_findRoot_51 : zd cX1_findRoot 51 (.iload_n 2) 1 52 := by decide +kernel
theorem d1_findRoot_52 : zd cX1_findRoot 52 (.iaload) 1 53 := by decide +kernel
theorem d1_findRoot_53 : zd cX1_findRoot 53 (.iconst (-1)) 1 54 := by decide +kernel
theorem d1_findRoot_54 : zj cX1_findRoot 54 (.if_icmp .eq 14) 14 57 68 := by decide +kernel
theorem d1_findRoot_57 : zd cX1_findRoot 57 (.iload 4) 2 59 := by decide +kernel
theorem d1_findRoot_59 : zd cX1_findRoot 59 (.aload_n 0) 1 60 := by decide +kernel
theorem d1_findRoot_60 : zd cX1_findRoot 60 (.getfield 15) 3 63 := by decide +kernel
theorem d1_findRoot_63 : zd cX1_findRoot 63 (.iload_n 2) 1 64 := by decide +kernel
theorem d1_findRoot_64 : zd cX1_findRoot 64 (.iaload) 1 65 := by decide +kernel
theorem d1_findRoot_65 : zj cX1_findRoot 65 (.if_icmp .ge 28) 28 68 93 := by decide +kernel
theorem d1_findRoot_68 : zd cX1_findRoot 68 (.aload_n 0) 1 69 := by decide +kernel
theorem d1_findRoot_69 : zd cX1_findRoot 69 (.getfield 15) 3 72 := by decide +kernel
theorem d1_findRoot_72 : zd cX1_findRoot 72 (.iload_n 2) 1 73 := by decide +kernel
theorem d1_findRoot_73 : zd cX1_findRoot 73 (.iload 4) 2 75 := by decide +kernel
theorem d1_findRoot_75 : zd cX1_findRoot 75 (.iastore) 1 76 := by decide +kernel
theorem d1_findRoot_76 : zd cX1_findRoot 76 (.aload_n 0) 1 77 := by decide +kernel
theorem d1_findRoot_77 : zd cX1_findRoot 77 (.getfield 18) 3 80 := by decide +kernel
theorem d1_findRoot_80 : zd cX1_findRoot 80 (.iload_n 2) 1 81 := by decide +kernel
theorem d1_findRoot_81 : zd cX1_findRoot 81 (.aload_n 0) 1 82 := by decide +kernel
theorem d1_findRoot_82 : zd cX1_findRoot 82 (.getfield 9) 3 85 := by decide +kernel
theorem d1_findRoot_85 : zd cX1_findRoot 85 (.iload_n 2) 1 86 := by decide +kernel
theorem d1_findRoot_86 : zd cX1_findRoot 86 (.bipush 8) 2 88 := by decide +kernel
theorem d1_findRoot_88 : zd cX1_findRoot 88 (.imul) 1 89 := by decide +kernel
theorem d1_findRoot_89 : zd cX1_findRoot 89 (.iload_n 3) 1 90 := by decide +kernel
theorem d1_findRoot_90 : zd cX1_findRoot 90 (.iadd) 1 91 := by decide +kernel
theorem d1_findRoot_91 : zd cX1_findRoot 91 (.iaload) 1 92 := by decide +kernel
theorem d1_findRoot_92 : zd cX1_findRoot 92 (.iastore) 1 93 := by decide +kernel
theorem d1_findRoot_93 : zd cX1_findRoot 93 (.iinc 3 1) 3 96 := by decide +kernel
theorem d1_findRoot_96 : zj cX1_findRoot 96 (.goto (-87)) (-87) 99 9 := by decide +kernel
theorem d1_findRoot_99 : zd cX1_findRoot 99 (.return_) 1 100 := by decide +kernel
set_option maxHeartbeats 4000000 in
set_option maxRecDepth 20000 in
theorem c1_findRoot (l : Launch) (D : zDt) (Sh : zSh) (top : Nat) (hO : zOK Sh) (o_ : Nat) (v_state : Nat) (v_b : Int32) (μ : zM) (μ_ : zM) (ho : (Sh o_).1 = 8) (h_state : (Sh v_state).1 = 15) (h : f1_findRoot o_ v_state v_b μ = some μ_) : zMet l D zK1 yX1_findRoot cX1_findRoot 5 none (zrm 1 20) [.ref o_, .ref v_state, .int v_b] Sh top μ none Sh top μ_ 0 0 := by
  refine zMet_of (by decide) (Nat.le_of_ble_eq_true rfl) fun X hX1 hX2 fx fin => ?_
  subst hX1; subst hX2
  replace fx : zFix X cX1_findRoot RX1 (zrm 1 20) 5 := fx
  show zZ zK1 X (zT0 Sh top) μ 0 [(0, .ref o_), (1, .ref v_state), (2, .int v_b)] []
  unfold f1_findRoot at h
  refine z_aload_n fx (k := 0) (i := 0) rfl rfl d1_findRoot_0 ?_
  refine z_getO fx 1 1 2 ho lf1_15 fk1_1 d1_findRoot_1 ?_
  refine z_iload_n fx (k := 2) (i := 2) rfl rfl d1_findRoot_4 ?_
  refine z_iconst fx (v := (-1)) icm1 d1_findRoot_5 ?_
  obtain ⟨μ1, e1, h⟩ := zinv h
  refine z_iast fx (ok1_1 hO ho) e1 d1_findRoot_6 ?_
  refine z_iconst fx (v := 0) ic0 d1_findRoot_7 ?_
  refine z_istore_n fx (k := 3) (i := 3) rfl rfl (lv' := [(0, .ref o_), (1, .ref v_state), (2, .int v_b), (3, .int 0)]) rfl rfl d1_findRoot_8 ?_
  obtain ⟨v_c_4, μ5, e28, h⟩ := zinv2 h
  have kx5 : zZ zK1 X (zT0 Sh top) μ5 99 [(0, .ref o_), (1, .ref v_state), (2, .int v_b), (3, .int v_c_4)] [] := by
    refine z_take 3 (lv' := [(0, .ref o_), (1, .ref v_state), (2, .int v_b)]) rfl ?_
    cases h
    exact z_return fx fin d1_findRoot_99
  clear h
  have klr4 : ∀ (n : Nat) (v_c_2 : Int32) (μ3 : zM), zloop (fun s => f1_findRoot_L1 o_ v_state v_b s.1 s.2) n (v_c_2, μ3) = some (v_c_4, μ5) → zZ zK1 X (zT0 Sh top) μ3 9 [(0, .ref o_), (1, .ref v_state), (2, .int v_b), (3, .int v_c_2)] [] := by
    intro n
    induction n with
    | zero => intro v_c_2 μ3 hl3; cases hl3
    | succ n ih6 =>
      intro v_c_2 μ3 hl3
      obtain ⟨y, e2, hl3⟩ := zloop_inv hl3
      replace e2 : f1_findRoot_L1 o_ v_state v_b v_c_2 μ3 = some y := e2
      unfold f1_findRoot_L1 at e2
      refine z_iload_n fx (k := 3) (i := 3) rfl rfl d1_findRoot_9 ?_
      refine z_aload_n fx (k := 1) (i := 1) rfl rfl d1_findRoot_10 ?_
      obtain ⟨w6, e7, e2⟩ := zinv e2
      refine z_getR fx 8 12 812 17 h_state lf1_41 ⟨fk8_12, rfl⟩ e7 d1_findRoot_11 (fun tw6 => ?_)
      refine z_getI fx 10 15 1015 tw6 lf1_47 ⟨fk10_15, rfl⟩ d1_findRoot_14 ?_
      refine z_icmp_ge fx d1_findRoot_17 (fun c8 => ?_) (fun c8 => ?_)
      · replace e2 := zif_f c8 e2
        cases e2
        cases hl3
        exact kx5
      · replace e2 := zif_t c8 e2
        refine z_aload_n fx (k := 1) (i := 1) rfl rfl d1_findRoot_20 ?_
        refine z_getO fx 8 0 1 h_state lf1_74 fk8_0 d1_findRoot_21 ?_
        refine z_iload_n fx (k := 3) (i := 3) rfl rfl d1_findRoot_24 ?_
        obtain ⟨j7, e9, e2⟩ := zinv e2
        refine z_aald fx 0 (by decide) (ok8_0 hO h_state) e9 (v := .ref (v_state + 13 + 3 * j7)) rfl d1_findRoot_25 ?_
        obtain ⟨t8, e10, e2⟩ := zinv e2
        refine z_cVr fx (c0_id (zLo X) (zDo X) Sh top hO (v_state + 13 + 3 * j7) μ3 _ (okA0 hO (ok8_0 hO h_state) (rI_lt e9)) e10) mv0_id ml1_101 (okA0 hO (ok8_0 hO h_state) (rI_lt e9)) rfl rfl rfl rfl d1_findRoot_26 ?_
        refine z_istore fx (i := 4) rfl (lv' := [(0, .ref o_), (1, .ref v_state), (2, .int v_b), (3, .int v_c_2), (4, .int t8)]) rfl rfl d1_findRoot_29 ?_
        obtain ⟨b9, e12, e2⟩ := zinv e2
        have kt11 : b9 = true → zZ zK1 X (zT0 Sh top) μ3 68 [(0, .ref o_), (1, .ref v_state), (2, .int v_b), (3, .int v_c_2), (4, .int t8)] [] := by
          intro hc
          replace e2 := zif_t hc e2
          refine z_aload_n fx (k := 0) (i := 0) rfl rfl d1_findRoot_68 ?_
          refine z_getO fx 1 1 2 ho lf1_15 fk1_1 d1_findRoot_69 ?_
          refine z_iload_n fx (k := 2) (i := 2) rfl rfl d1_findRoot_72 ?_
          refine z_iload fx (i := 4) rfl d1_findRoot_73 ?_
          obtain ⟨μ10, e13, e2⟩ := zinv e2
          refine z_iast fx (ok1_1 hO ho) e13 d1_findRoot_75 ?_
          refine z_aload_n fx (k := 0) (i := 0) rfl rfl d1_findRoot_76 ?_
          refine z_getO fx 1 2 3 ho lf1_18 fk1_2 d1_findRoot_77 ?_
          refine z_iload_n fx (k := 2) (i := 2) rfl rfl d1_findRoot_80 ?_
          refine z_aload_n fx (k := 0) (i := 0) rfl rfl d1_findRoot_81 ?_
          refine z_getO fx 1 0 1 ho lf1_9 fk1_0 d1_findRoot_82 ?_
          refine z_iload_n fx (k := 2) (i := 2) rfl rfl d1_findRoot_85 ?_
          refine z_bipush fx (v := 8) bp8 d1_findRoot_86 ?_
          refine z_imul fx d1_findRoot_88 ?_
          refine z_iload_n fx (k := 3) (i := 3) rfl rfl d1_findRoot_89 ?_
          refine z_iadd fx d1_findRoot_90 ?_
          obtain ⟨t11, e14, e2⟩ := zinv e2
          refine z_iald fx (ok1_0 hO ho) e14 d1_findRoot_91 ?_
          obtain ⟨μ12, e15, e2⟩ := zinv e2
          refine z_iast fx (ok1_2 hO ho) e15 d1_findRoot_92 ?_
          refine z_take 4 (lv' := [(0, .ref o_), (1, .ref v_state), (2, .int v_b), (3, .int v_c_2)]) rfl ?_
          obtain ⟨v_c_13, e16, e2⟩ := zinv e2
          replace e16 := Option.some.inj e16
          refine z_iinc fx (i := 3) (x := v_c_2) (v := v_c_13) rfl (by rw [in1]; exact e16) rfl (lv' := [(0, .ref o_), (1, .ref v_state), (2, .int v_b), (3, .int v_c_13)]) rfl rfl d1_findRoot_93 ?_
          cases e2
          refine z_goto fx d1_findRoot_96 ?_
          exact ih6 _ _ hl3
        have kf11 : b9 = false → zZ zK1 X (zT0 Sh top) μ3 93 [(0, .ref o_), (1, .ref v_state), (2, .int v_b), (3, .int v_c_2), (4, .int t8)] [] := by
          intro hc
          replace e2 := zif_f hc e2
          refine z_take 4 (lv' := [(0, .ref o_), (1, .ref v_state), (2, .int v_b), (3, .int v_c_2)]) rfl ?_
          obtain ⟨v_c_14, e17, e2⟩ := zinv e2
          replace e17 := Option.some.inj e17
          refine z_iinc fx (i := 3) (x := v_c_2) (v := v_c_14) rfl (by rw [in1]; exact e17) rfl (lv' := [(0, .ref o_), (1, .ref v_state), (2, .int v_b), (3, .int v_c_14)]) rfl rfl d1_findRoot_93 ?_
          cases e2
          refine z_goto fx d1_findRoot_96 ?_
          exact ih6 _ _ hl3
        clear e2
        obtain ⟨b15, e18, e12⟩ := zinv e12
        have kt19 : b15 = true → zZ zK1 X (zT0 Sh top) μ3 47 [(0, .ref o_), (1, .ref v_state), (2, .int v_b), (3, .int v_c_2), (4, .int t8)] [] := by
          intro hc
          replace e12 := zif_t hc e12
          obtain ⟨b16, e20, e12⟩ := zinv e12
          have kf21 : b16 = false → zZ zK1 X (zT0 Sh top) μ3 57 [(0, .ref o_), (1, .ref v_state), (2, .int v_b), (3, .int v_c_2), (4, .int t8)] [] := by
            intro hc
            replace e12 := zif_f hc e12
            refine z_iload fx (i := 4) rfl d1_findRoot_57 ?_
            refine z_aload_n fx (k := 0) (i := 0) rfl rfl d1_findRoot_59 ?_
            refine z_getO fx 1 1 2 ho lf1_15 fk1_1 d1_findRoot_60 ?_
            refine z_iload_n fx (k := 2) (i := 2) rfl rfl d1_findRoot_63 ?_
            obtain ⟨t17, e22, e12⟩ := zinv e12
            refine z_iald fx (ok1_1 hO ho) e22 d1_findRoot_64 ?_
            cases e12
            refine z_icmp_ge fx d1_findRoot_65 (fun c23 => ?_) (fun c23 => ?_)
            · exact kf11 c23
            · exact kt11 c23
          have kt21 : b16 = true → zZ zK1 X (zT0 Sh top) μ3 68 [(0, .ref o_), (1, .ref v_state), (2, .int v_b), (3, .int v_c_2), (4, .int t8)] [] := by
            intro hc
            replace e12 := zif_t hc e12
            cases e12
            exact kt11 rfl
          clear e12
          refine z_aload_n fx (k := 0) (i := 0) rfl rfl d1_findRoot_47 ?_
          refine z_getO fx 1 1 2 ho lf1_15 fk1_1 d1_findRoot_48 ?_
          refine z_iload_n fx (k := 2) (i := 2) rfl rfl d1_findRoot_51 ?_
          obtain ⟨t18, e24, e20⟩ := zinv e20
          refine z_iald fx (ok1_1 hO ho) e24 d1_findRoot_52 ?_
          refine z_iconst fx (v := (-1)) icm1 d1_findRoot_53 ?_
          cases e20
          refine z_icmp_eq fx d1_findRoot_54 (fun c25 => ?_) (fun c25 => ?_)
          · exact kt21 c25
          · exact kf21 c25
        have kf19 : b15 = false → zZ zK1 X (zT0 Sh top) μ3 93 [(0, .ref o_), (1, .ref v_state), (2, .int v_b), (3, .int v_c_2), (4, .int t8)] [] := by
          intro hc
          replace e12 := zif_f hc e12
          cases e12
          exact kf11 rfl
        clear e12
        refine z_aload_n fx (k := 0) (i := 0) rfl rfl d1_findRoot_31 ?_
        refine z_getO fx 1 0 1 ho lf1_9 fk1_0 d1_findRoot_32 ?_
        refine z_iload_n fx (k := 2) (i := 2) rfl rfl d1_findRoot_35 ?_
        refine z_bipush fx (v := 8) bp8 d1_findRoot_36 ?_
        refine z_imul fx d1_findRoot_38 ?_
        refine z_iload_n fx (k := 3) (i := 3) rfl rfl d1_findRoot_39 ?_
        refine z_iadd fx d1_findRoot_40 ?_
        obtain ⟨t19, e26, e18⟩ := zinv e18
        refine z_iald fx (ok1_0 hO ho) e26 d1_findRoot_41 ?_
        refine z_ldc fx (v := 1000000) kc1_67 d1_findRoot_42 ?_
        cases e18
        refine z_icmp_ge fx d1_findRoot_44 (fun c27 => ?_) (fun c27 => ?_)
        · exact kf19 c27
        · exact kt19 c27
  exact klr4 _ _ _ e28
theorem d1_tellVector_0 : zd cX1_tellVector 0 (.aload_n 1) 1 1 := by decide +kernel
theorem d1_tellVector_1 : zd cX1_tellVector 1 (.getfield 41) 3 4 := by decide +kernel
theorem d1_tellVector_4 : zd cX1_tellVector 4 (.getfield 87) 3 7 := by decide +kernel
theorem d1_tellVector_7 : zd cX1_tellVector 7 (.iload_n 2) 1 8 := by decide +kernel
theorem d1_tellVector_8 : zd cX1_tellVector 8 (.iaload) 1 9 := by decide +kernel
theorem d1_tellVector_9 : zd cX1_tellVector 9 (.istore 4) 2 11 := by decide +kernel
theorem d1_tellVector_11 : zd cX1_tellVector 11 (.aload_n 3) 1 12 := by decide +kernel
theorem d1_tellVector_12 : zd cX1_tellVector 12 (.aload_n 0) 1 13 := by decide +kernel
theorem d1_tellVector_13 : zd cX1_tellVector 13 (.getfield 15) 3 16 := by decide +kernel
theorem d1_tellVector_16 : zd cX1_tellVector 16 (.iload 4) 2 18 := by decide +kernel
theorem d1_tellVector_18 : zd cX1_tellVector 18 (.iaload) 1 19 := by decide +kernel
theorem d1_tellVector_19 : zd cX1_tellVector 19 (.putfield 125) 3 22 := by decide +kernel
theorem d1_tellVector_22 : zd cX1_tellVector 22 (.aload_n 3) 1 23 := by decide +kernel
theorem d1_tellVector_23 : zd cX1_tellVector 23 (.aload_n 0) 1 24 := by decide +kernel
theorem d1_tellVector_24 : zd cX1_tellVector 24 (.getfield 18) 3 27 := by decide +kernel
theorem d1_tellVector_27 : zd cX1_tellVector 27 (.iload 4) 2 29 := by decide +kernel
theorem d1_tellVector_29 : zd cX1_tellVector 29 (.iaload) 1 30 := by decide +kernel
theorem d1_tellVector_30 : zd cX1_tellVector 30 (.putfield 115) 3 33 := by decide +kernel
theorem d1_tellVector_33 : zd cX1_tellVector 33 (.aload_n 3) 1 34 := by decide +kernel
theorem d1_tellVector_34 : zd cX1_tellVector 34 (.aload_n 1) 1 35 := by decide +kernel
theorem d1_tellVector_35 : zd cX1_tellVector 35 (.getfield 74) 3 38 := by decide +kernel
theorem d1_tellVector_38 : zd cX1_tellVector 38 (.iload 4) 2 40 := by decide +kernel
theorem d1_tellVector_40 : zd cX1_tellVector 40 (.aaload) 1 41 := by decide +kernel
theorem d1_tellVector_41 : zd cX1_tellVector 41 (.invokevirtual 101) 3 44 := by decide +kernel
theorem d1_tellVector_44 : zd cX1_tellVector 44 (.putfield 127) 3 47 := by decide +kernel
theorem d1_tellVector_47 : zd cX1_tellVector 47 (.aload_n 3) 1 48 := by decide +kernel
theorem d1_tellVector_48 : zd cX1_tellVector 48 (.aload_n 1) 1 49 := by decide +kernel
theorem d1_tellVector_49 : zd cX1_tellVector 49 (.getfield 41) 3 52 := by decide +kernel
theorem d1_tellVector_52 : zd cX1_tellVector 52 (.getfield 129) 3 55 := by decide +kernel
theorem d1_tellVector_55 : zd cX1_tellVector 55 (.iload_n 2) 1 56 := by decide +kernel
theorem d1_tellVector_56 : zd cX1_tellVector 56 (.iaload) 1 57 := by decide +kernel
theorem d1_tellVector_57 : zd cX1_tellVector 57 (.putfield 132) 3 60 := by decide +kernel
theorem d1_tellVector_60 : zd cX1_tellVector 60 (.return_) 1 61 := by decide +kernel
set_option maxHeartbeats 4000000 in
set_option maxRecDepth 20000 in
theorem c1_tellVector (l : Launch) (D : zDt) (Sh : zSh) (top : Nat) (hO : zOK Sh) (o_ : Nat) (v_state : Nat) (v_end : Int32) (v_into : Nat) (μ : zM) (μ_ : zM) (ho : (Sh o_).1 = 8) (h_state : (Sh v_state).1 = 15) (h_into : (Sh v_into).1 = 16) (h : f1_tellVector o_ v_state v_end v_into μ = some μ_) : zMet l D zK1 yX1_tellVector cX1_tellVector 5 none (zrm 1 20) [.ref o_, .ref v_state, .int v_end, .ref v_into] Sh top μ none Sh top μ_ 0 0 := by
  refine zMet_of (by decide) (Nat.le_of_ble_eq_true rfl) fun X hX1 hX2 fx fin => ?_
  subst hX1; subst hX2
  replace fx : zFix X cX1_tellVector RX1 (zrm 1 20) 5 := fx
  show zZ zK1 X (zT0 Sh top) μ 0 [(0, .ref o_), (1, .ref v_state), (2, .int v_end), (3, .ref v_into)] []
  unfold f1_tellVector at h
  refine z_aload_n fx (k := 1) (i := 1) rfl rfl d1_tellVector_0 ?_
  obtain ⟨w1, e1, h⟩ := zinv h
  refine z_getR fx 8 12 812 17 h_state lf1_41 ⟨fk8_12, rfl⟩ e1 d1_tellVector_1 (fun tw1 => ?_)
  refine z_getO fx 10 6 7 tw1 lf1_87 fk10_6 d1_tellVector_4 ?_
  refine z_iload_n fx (k := 2) (i := 2) rfl rfl d1_tellVector_7 ?_
  obtain ⟨t2, e2, h⟩ := zinv h
  refine z_iald fx (ok10_6 hO tw1) e2 d1_tellVector_8 ?_
  refine z_istore fx (i := 4) rfl (lv' := [(0, .ref o_), (1, .ref v_state), (2, .int v_end), (3, .ref v_into), (4, .int t2)]) rfl rfl d1_tellVector_9 ?_
  refine z_aload_n fx (k := 3) (i := 3) rfl rfl d1_tellVector_11 ?_
  refine z_aload_n fx (k := 0) (i := 0) rfl rfl d1_tellVector_12 ?_
  refine z_getO fx 1 1 2 ho lf1_15 fk1_1 d1_tellVector_13 ?_
  refine z_iload fx (i := 4) rfl d1_tellVector_16 ?_
  obtain ⟨t3, e3, h⟩ := zinv h
  refine z_iald fx (ok1_1 hO ho) e3 d1_tellVector_18 ?_
  obtain ⟨μ4, e4, h⟩ := zinv h
  refine z_putI fx (ci := 9) 0 h_into lf1_125 fp9_0 e4 d1_tellVector_19 ?_
  refine z_aload_n fx (k := 3) (i := 3) rfl rfl d1_tellVector_22 ?_
  refine z_aload_n fx (k := 0) (i := 0) rfl rfl d1_tellVector_23 ?_
  refine z_getO fx 1 2 3 ho lf1_18 fk1_2 d1_tellVector_24 ?_
  refine z_iload fx (i := 4) rfl d1_tellVector_27 ?_
  obtain ⟨t5, e5, h⟩ := zinv h
  refine z_iald fx (ok1_2 hO ho) e5 d1_tellVector_29 ?_
  obtain ⟨μ6, e6, h⟩ := zinv h
  refine z_putI fx (ci := 9) 1 h_into lf1_115 fp9_1 e6 d1_tellVector_30 ?_
  refine z_aload_n fx (k := 3) (i := 3) rfl rfl d1_tellVector_33 ?_
  refine z_aload_n fx (k := 1) (i := 1) rfl rfl d1_tellVector_34 ?_
  refine z_getO fx 8 0 1 h_state lf1_74 fk8_0 d1_tellVector_35 ?_
  refine z_iload fx (i := 4) rfl d1_tellVector_38 ?_
  obtain ⟨j7, e7, h⟩ := zinv h
  refine z_aald fx 0 (by decide) (ok8_0 hO h_state) e7 (v := .ref (v_state + 13 + 3 * j7)) rfl d1_tellVector_40 ?_
  obtain ⟨t8, e8, h⟩ := zinv h
  refine z_cVr fx (c0_id (zLo X) (zDo X) Sh top hO (v_state + 13 + 3 * j7) μ6 _ (okA0 hO (ok8_0 hO h_state) (rI_lt e7)) e8) mv0_id ml1_101 (okA0 hO (ok8_0 hO h_state) (rI_lt e7)) rfl rfl rfl rfl d1_tellVector_41 ?_
  obtain ⟨μ9, e9, h⟩ := zinv h
  refine z_putI fx (ci := 9) 2 h_into lf1_127 fp9_2 e9 d1_tellVector_44 ?_
  refine z_aload_n fx (k := 3) (i := 3) rfl rfl d1_tellVector_47 ?_
  refine z_aload_n fx (k := 1) (i := 1) rfl rfl d1_tellVector_48 ?_
  obtain ⟨w10, e10, h⟩ := zinv h
  refine z_getR fx 8 12 812 17 h_state lf1_41 ⟨fk8_12, rfl⟩ e10 d1_tellVector_49 (fun tw10 => ?_)
  refine z_getO fx 10 7 8 tw10 lf1_129 fk10_7 d1_tellVector_52 ?_
  refine z_iload_n fx (k := 2) (i := 2) rfl rfl d1_tellVector_55 ?_
  obtain ⟨t11, e11, h⟩ := zinv h
  refine z_iald fx (ok10_7 hO tw10) e11 d1_tellVector_56 ?_
  obtain ⟨μ12, e12, h⟩ := zinv h
  refine z_putI fx (ci := 9) 3 h_into lf1_132 fp9_3 e12 d1_tellVector_57 ?_
  cases h
  exact z_return fx fin d1_tellVector_60
theorem d1_findRootPort_0 : zd cX1_findRootPort 0 (.aload_n 0) 1 1 := by decide +kernel
theorem d1_findRootPort_1 : zd cX1_findRootPort 1 (.getfield 21) 3 4 := by decide +kernel
theorem d1_findRootPort_4 : zd cX1_findRootPort 4 (.iload_n 2) 1 5 := by decide +kernel
theorem d1_findRootPort_5 : zd cX1_findRootPort 5 (.iconst (-1)) 1 6 := by decide +kernel
theorem d1_findRootPort_6 : zd cX1_findRootPort 6 (.iastore) 1 7 := by decide +kernel
theorem d1_findRootPort_7 : zd cX1_findRootPort 7 (.aload_n 0) 1 8 := by decide +kernel
theorem d1_findRootPort_8 : zd cX1_findRootPort 8 (.getfield 15) 3 11 := by decide +kernel
theorem d1_findRootPort_11 : zd cX1_findRootPort 11 (.iload_n 2) 1 12 := by decide +kernel
theorem d1_findRootPort_12 : zd cX1_findRootPort 12 (.iaload) 1 13 := by decide +kernel
theorem d1_findRootPort_13 : zd cX1_findRootPort 13 (.aload_n 1) 1 14 := by decide +kernel
theorem d1_findRootPort_14 : zd cX1_findRootPort 14 (.getfield 74) 3 17 := by decide +kernel
theorem d1_findRootPort_17 : zd cX1_findRootPort 17 (.iload_n 2) 1 18 := by decide +kernel
theorem d1_findRootPort_18 : zd cX1_findRootPort 18 (.aaload) 1 19 := by decide +kernel
theorem d1_findRootPort_19 : zd cX1_findRootPort 19 (.invokevirtual 101) 3 22 := by decide +kernel
theorem d1_findRootPort_22 : zj cX1_findRootPort 22 (.if_icmp .ne 4) 4 25 26 := by decide +kernel
theorem d1_findRootPort_25 : zd cX1_findRootPort 25 (.return_) 1 26 := by decide +kernel
theorem d1_findRootPort_26 : zd cX1_findRootPort 26 (.iconst 0) 1 27 := by decide +kernel
theorem d1_findRootPort_27 : zd cX1_findRootPort 27 (.istore_n 3) 1 28 := by decide +kernel
theorem d1_findRootPort_28 : zd cX1_findRootPort 28 (.iload_n 3) 1 29 := by decide +kernel
theorem d1_findRootPort_29 : zd cX1_findRootPort 29 (.aload_n 1) 1 30 := by decide +kernel
theorem d1_findRootPort_30 : zd cX1_findRootPort 30 (.getfield 41) 3 33 := by decide +kernel
theorem d1_findRootPort_33 : zd cX1_findRootPort 33 (.getfield 105) 3 36 := by decide +kernel
theorem d1_findRootPort_36 : zd cX1_findRootPort 36 (.iload_n 2) 1 37 := by decide +kernel
theorem d1_findRootPort_37 : zd cX1_findRootPort 37 (.iaload) 1 38 := by decide +kernel
theorem d1_findRootPort_38 : zj cX1_findRootPort 38 (.if_icmp .ge 124) 124 41 162 := by decide +kernel
theorem d1_findRootPort_41 : zd cX1_findRootPort 41 (.aload_n 1) 1 42 := by decide +kernel
theorem d1_findRootPort_42 : zd cX1_findRootPort 42 (.getfield 41) 3 45 := by decide +kernel
theorem d1_findRootPort_45 : zd cX1_findRootPort 45 (.iload_n 2) 1 46 := by decide +kernel
theorem d1_findRootPort_46 : zd cX1_findRootPort 46 (.iload_n 3) 1 47 := by decide +kernel
theorem d1_findRootPort_47 : zd cX1_findRootPort 47 (.invokevirtual 108) 3 50 := by decide +kernel
theorem d1_findRootPort_50 : zd cX1_findRootPort 50 (.istore 4) 2 52 := by decide +kernel
theorem d1_findRootPort_52 : zd cX1_findRootPort 52 (.aload_n 1) 1 53 := by decide +kernel
theorem d1_findRootPort_53 : zd cX1_findRootPort 53 (.iload 4) 2 55 := by decide +kernel
theorem d1_findRootPort_55 : zd cX1_findRootPort 55 (.invokevirtual 83) 3 58 := by decide +kernel
theorem d1_findRootPort_58 : zj cX1_findRootPort 58 (.ifCond .eq 98) 98 61 156 := by decide +kernel
theorem d1_findRootPort_61 : zd cX1_findRootPort 61 (.aload_n 1) 1 62 := by decide +kernel
theorem d1_findRootPort_62 : zd cX1_findRootPort 62 (.getfield 41) 3 65 := by decide +kernel
theorem d1_findRootPort_65 : zd cX1_findRootPort 65 (.iload 4) 2 67 := by decide +kernel
theorem d1_findRootPort_67 : zd cX1_findRootPort 67 (.invokevirtual 90) 3 70 := by decide +kernel
theorem d1_findRootPort_70 : zd cX1_findRootPort 70 (.iload_n 2) 1 71 := by decide +kernel
theorem d1_findRootPort_71 : zj cX1_findRootPort 71 (.if_icmp .ne 6) 6 74 77 := by decide +kernel
theorem d1_findRootPort_74 : zj cX1_findRootPort 74 (.goto 82) 82 77 156 := by decide +kernel
theorem d1_findRootPort_77 : zd cX1_findRootPort 77 (.aload_n 0) 1 78 := by decide +kernel
theorem d1_findRootPort_78 : zd cX1_findRootPort 78 (.aload_n 1) 1 79 := by decide +kernel
theorem d1_findRootPort_79 : zd cX1_findRootPort 79 (.iload 4) 2 81 := by decide +kernel
theorem d1_findRootPort_81 : zd cX1_findRootPort 81 (.iconst 1) 1 82 := by decide +kernel
theorem d1_findRootPort_82 : zd cX1_findRootPort 82 (.ixor) 1 83 := by decide +kernel
theorem d1_findRootPort_83 : zd cX1_findRootPort 83 (.aload_n 0) 1 84 := by decide +kernel
theorem d1_findRootPort_84 : zd cX1_findRootPort 84 (.getfield 30) 3 87 := by decide +kernel
theorem d1_findRootPort_87 : zd cX1_findRootPort 87 (.invokevirtual 111) 3 90 := by decide +kernel
theorem d1_findRootPort_90 : zd cX1_findRootPort 90 (.aload_n 0) 1 91 := by decide +kernel
theorem d1_findRootPort_91 : zd cX1_findRootPort 91 (.getfield 30) 3 94 := by decide +kernel
theorem d1_findRootPort_94 : zd cX1_findRootPort 94 (.dup) 1 95 := by decide +kernel
theorem d1_findRootPort_95 : zd cX1_findRootPort 95 (.getfield 115) 3 98 := by decide +kernel
theorem d1_findRootPort_98 : zd cX1_findRootPort 98 (.aload_n 1) 1 99 := by decide +kernel
theorem d1_findRootPort_99 : zd cX1_findRootPort 99 (.getfield 41) 3 102 := by decide +kernel
theorem d1_findRootPort_102 : zd cX1_findRootPort 102 (.getfield 94) 3 105 := by decide +kernel
theorem d1_findRootPort_105 : zd cX1_findRootPort 105 (.iload 4) 2 107 := by decide +kernel
theorem d1_findRootPort_107 : zd cX1_findRootPort 107 (.iconst 1) 1 108 := by decide +kernel
theorem d1_findRootPort_108 : zd cX1_findRootPort 108 (.ishr) 1 109 := by decide +kernel
theorem d1_findRootPort_109 : zd cX1_findRootPort 109 (.iaload) 1 110 := by decide +kernel
theorem d1_findRootPort_110 : zd cX1_findRootPort 110 (.iadd) 1 111 := by decide +kernel
theorem d1_findRootPort_111 : zd cX1_findRootPort 111 (.putfield 115) 3 114 := by decide +kernel
theorem d1_findRootPort_114 : zd cX1_findRootPort 114 (.aload_n 0) 1 115 := by decide +kernel
theorem d1_findRootPort_115 : zd cX1_findRootPort 115 (.getfield 21) 3 118 := by decide +kernel
theorem d1_findRootPort_118 : zd cX1_findRootPort 118 (.iload_n 2) 1 119 := by decide +kernel
theorem d1_findRootPort_119 : zd cX1_findRootPort 119 (.iaload) 1 120 := by decide +kernel
theorem d1_findRootPort_120 : zd cX1_findRootPort 120 (.iconst (-1)) 1 121 := by decide +kernel
theorem d1_findRootPort_121 : zj cX1_findRootPort 121 (.if_icmp .eq 17) 17 124 138 := by decide +kernel
theorem d1_findRootPort_124 : zd cX1_findRootPort 124 (.aload_n 0) 1 125 := by decide +kernel
theorem d1_findRootPort_125 : zd cX1_findRootPort 125 (.getfield 30) 3 128 := by decide +kernel
theorem d1_findRootPort_128 : zd cX1_findRootPort 128 (.aload_n 0) 1 129 := by decide +kernel
theorem d1_findRootPort_129 : zd cX1_findRootPort 129 (.getfield 34) 3 132 := by decide +kernel
theorem d1_findRootPort_132 : zd cX1_findRootPort 132 (.invokevirtual 117) 3 135 := by decide +kernel
theorem d1_findRootPort_135 : zj cX1_findRootPort 135 (.ifCond .ge 21) 21 138 156 := by decide +kernel
theorem d1_findRootPort_138 : zd cX1_findRootPort 138 (.aload_n 0) 1 139 := by decide +kernel
theorem d1_findRootPort_139 : zd cX1_findRootPort 139 (.getfield 21) 3 142 := by decide +kernel
theorem d1_findRootPort_142 : zd cX1_findRootPort 142 (.iload_n 2) 1 143 := by decide +kernel
theorem d1_findRootPort_143 : zd cX1_findRootPort 143 (.iload_n 3) 1 144 := by decide +kernel
theorem d1_findRootPort_144 : zd cX1_findRootPort 144 (.iastore) 1 145 := by decide +kernel
theorem d1_findRootPort_145 : zd cX1_findRootPort 145 (.aload_n 0) 1 146 := by decide +kernel
theorem d1_findRootPort_146 : zd cX1_findRootPort 146 (.getfield 34) 3 149 := by decide +kernel
theorem d1_findRootPort_149 : zd cX1_findRootPort 149 (.aload_n 0) 1 150 := by decide +kernel
theorem d1_findRootPort_150 : zd cX1_findRootPort 150 (.getfield 30) 3 153 := by decide +kernel
theorem d1_findRootPort_153 : zd cX1_findRootPort 153 (.invokevirtual 121) 3 156 := by decide +kernel
theorem d1_findRootPort_156 : zd cX1_findRootPort 156 (.iinc 3 1) 3 159 := by decide +kernel
theorem d1_findRootPort_159 : zj cX1_findRootPort 159 (.goto (-131)) (-131) 162 28 := by decide +kernel
theorem d1_findRootPort_162 : zd cX1_findRootPort 162 (.return_) 1 163 := by decide +kernel
set_option maxHeartbeats 4000000 in
set_option maxRecDepth 20000 in
theorem c1_findRootPort (l : Launch) (D : zDt) (Sh : zSh) (top : Nat) (hO : zOK Sh) (o_ : Nat) (v_state : Nat) (v_b : Int32) (μ : zM) (μ_ : zM) (ho : (Sh o_).1 = 8) (h_state : (Sh v_state).1 = 15) (h : f1_findRootPort o_ v_state v_b μ = some μ_) : zMet l D zK1 yX1_findRootPort cX1_findRootPort 5 none (zrm 2 44) [.ref o_, .ref v_state, .int v_b] Sh top μ none Sh top μ_ 0 0 := by
  refine zMet_of (by decide) (Nat.le_of_ble_eq_true rfl) fun X hX1 hX2 fx fin => ?_
  subst hX1; subst hX2
  replace fx : zFix X cX1_findRootPort RX1 (zrm 2 44) 5 := fx
  show zZ zK1 X (zT0 Sh top) μ 0 [(0, .ref o_), (1, .ref v_state), (2, .int v_b)] []
  unfold f1_findRootPort at h
  refine z_aload_n fx (k := 0) (i := 0) rfl rfl d1_findRootPort_0 ?_
  refine z_getO fx 1 3 4 ho lf1_21 fk1_3 d1_findRootPort_1 ?_
  refine z_iload_n fx (k := 2) (i := 2) rfl rfl d1_findRootPort_4 ?_
  refine z_iconst fx (v := (-1)) icm1 d1_findRootPort_5 ?_
  obtain ⟨μ1, e1, h⟩ := zinv h
  refine z_iast fx (ok1_3 hO ho) e1 d1_findRootPort_6 ?_
  refine z_aload_n fx (k := 0) (i := 0) rfl rfl d1_findRootPort_7 ?_
  refine z_getO fx 1 1 2 ho lf1_15 fk1_1 d1_findRootPort_8 ?_
  refine z_iload_n fx (k := 2) (i := 2) rfl rfl d1_findRootPort_11 ?_
  obtain ⟨t2, e2, h⟩ := zinv h
  refine z_iald fx (ok1_1 hO ho) e2 d1_findRootPort_12 ?_
  refine z_aload_n fx (k := 1) (i := 1) rfl rfl d1_findRootPort_13 ?_
  refine z_getO fx 8 0 1 h_state lf1_74 fk8_0 d1_findRootPort_14 ?_
  refine z_iload_n fx (k := 2) (i := 2) rfl rfl d1_findRootPort_17 ?_
  obtain ⟨j3, e3, h⟩ := zinv h
  refine z_aald fx 0 (by decide) (ok8_0 hO h_state) e3 (v := .ref (v_state + 13 + 3 * j3)) rfl d1_findRootPort_18 ?_
  obtain ⟨t4, e4, h⟩ := zinv h
  refine z_cVr fx (c0_id (zLo X) (zDo X) Sh top hO (v_state + 13 + 3 * j3) μ1 _ (okA0 hO (ok8_0 hO h_state) (rI_lt e3)) e4) mv0_id ml1_101 (okA0 hO (ok8_0 hO h_state) (rI_lt e3)) rfl rfl rfl rfl d1_findRootPort_19 ?_
  refine z_icmp_ne fx d1_findRootPort_22 (fun c5 => ?_) (fun c5 => ?_)
  · replace h := zif_f c5 h
    refine z_iconst fx (v := 0) ic0 d1_findRootPort_26 ?_
    refine z_istore_n fx (k := 3) (i := 3) rfl rfl (lv' := [(0, .ref o_), (1, .ref v_state), (2, .int v_b), (3, .int 0)]) rfl rfl d1_findRootPort_27 ?_
    obtain ⟨v_p_7, μ8, e42, h⟩ := zinv2 h
    have kx9 : zZ zK1 X (zT0 Sh top) μ8 162 [(0, .ref o_), (1, .ref v_state), (2, .int v_b), (3, .int v_p_7)] [] := by
      refine z_take 3 (lv' := [(0, .ref o_), (1, .ref v_state), (2, .int v_b)]) rfl ?_
      cases h
      exact z_return fx fin d1_findRootPort_162
    clear h
    have klr8 : ∀ (n : Nat) (v_p_5 : Int32) (μ6 : zM), zloop (fun s => f1_findRootPort_L1 o_ v_state v_b s.1 s.2) n (v_p_5, μ6) = some (v_p_7, μ8) → zZ zK1 X (zT0 Sh top) μ6 28 [(0, .ref o_), (1, .ref v_state), (2, .int v_b), (3, .int v_p_5)] [] := by
      intro n
      induction n with
      | zero => intro v_p_5 μ6 hl7; cases hl7
      | succ n ih10 =>
        intro v_p_5 μ6 hl7
        obtain ⟨y, e6, hl7⟩ := zloop_inv hl7
        replace e6 : f1_findRootPort_L1 o_ v_state v_b v_p_5 μ6 = some y := e6
        unfold f1_findRootPort_L1 at e6
        refine z_iload_n fx (k := 3) (i := 3) rfl rfl d1_findRootPort_28 ?_
        refine z_aload_n fx (k := 1) (i := 1) rfl rfl d1_findRootPort_29 ?_
        obtain ⟨w9, e11, e6⟩ := zinv e6
        refine z_getR fx 8 12 812 17 h_state lf1_41 ⟨fk8_12, rfl⟩ e11 d1_findRootPort_30 (fun tw9 => ?_)
        refine z_getO fx 10 4 5 tw9 lf1_105 fk10_4 d1_findRootPort_33 ?_
        refine z_iload_n fx (k := 2) (i := 2) rfl rfl d1_findRootPort_36 ?_
        obtain ⟨t10, e12, e6⟩ := zinv e6
        refine z_iald fx (ok10_4 hO tw9) e12 d1_findRootPort_37 ?_
        refine z_icmp_ge fx d1_findRootPort_38 (fun c13 => ?_) (fun c13 => ?_)
        · replace e6 := zif_f c13 e6
          cases e6
          cases hl7
          exact kx9
        · replace e6 := zif_t c13 e6
          refine z_aload_n fx (k := 1) (i := 1) rfl rfl d1_findRootPort_41 ?_
          obtain ⟨w11, e14, e6⟩ := zinv e6
          refine z_getR fx 8 12 812 17 h_state lf1_41 ⟨fk8_12, rfl⟩ e14 d1_findRootPort_42 (fun tw11 => ?_)
          refine z_iload_n fx (k := 2) (i := 2) rfl rfl d1_findRootPort_45 ?_
          refine z_iload_n fx (k := 3) (i := 3) rfl rfl d1_findRootPort_46 ?_
          obtain ⟨t12, e15, e6⟩ := zinv e6
          refine z_cVr fx (c10_endOf (zLo X) (zDo X) Sh top hO w11 v_b v_p_5 μ6 _ tw11 e15) mv10_endOf ml1_108 tw11 rfl rfl rfl rfl d1_findRootPort_47 ?_
          refine z_istore fx (i := 4) rfl (lv' := [(0, .ref o_), (1, .ref v_state), (2, .int v_b), (3, .int v_p_5), (4, .int t12)]) rfl rfl d1_findRootPort_50 ?_
          obtain ⟨b13, e17, e6⟩ := zinv e6
          have kt16 : b13 = true → zZ zK1 X (zT0 Sh top) μ6 156 [(0, .ref o_), (1, .ref v_state), (2, .int v_b), (3, .int v_p_5), (4, .int t12)] [] := by
            intro hc
            replace e6 := zif_t hc e6
            refine z_take 4 (lv' := [(0, .ref o_), (1, .ref v_state), (2, .int v_b), (3, .int v_p_5)]) rfl ?_
            obtain ⟨v_p_14, e18, e6⟩ := zinv e6
            replace e18 := Option.some.inj e18
            refine z_iinc fx (i := 3) (x := v_p_5) (v := v_p_14) rfl (by rw [in1]; exact e18) rfl (lv' := [(0, .ref o_), (1, .ref v_state), (2, .int v_b), (3, .int v_p_14)]) rfl rfl d1_findRootPort_156 ?_
            cases e6
            refine z_goto fx d1_findRootPort_159 ?_
            exact ih10 _ _ hl7
          have kf16 : b13 = false → zZ zK1 X (zT0 Sh top) μ6 77 [(0, .ref o_), (1, .ref v_state), (2, .int v_b), (3, .int v_p_5), (4, .int t12)] [] := by
            intro hc
            replace e6 := zif_f hc e6
            refine z_aload_n fx (k := 0) (i := 0) rfl rfl d1_findRootPort_77 ?_
            refine z_aload_n fx (k := 1) (i := 1) rfl rfl d1_findRootPort_78 ?_
            refine z_iload fx (i := 4) rfl d1_findRootPort_79 ?_
            refine z_iconst fx (v := 1) ic1 d1_findRootPort_81 ?_
            refine z_ixor fx d1_findRootPort_82 ?_
            refine z_aload_n fx (k := 0) (i := 0) rfl rfl d1_findRootPort_83 ?_
            refine z_getO fx 1 5 6 ho lf1_30 fk1_5 d1_findRootPort_84 ?_
            obtain ⟨μ15, e19, e6⟩ := zinv e6
            refine z_cVv fx (c1_tellVector (zLo X) (zDo X) Sh top hO o_ v_state (t12 ^^^ 1) (o_ + 6) μ6 _ ho h_state (ok1_5 hO ho) e19) mv1_tellVector ml1_111 ho rfl rfl rfl rfl d1_findRootPort_87 ?_
            refine z_aload_n fx (k := 0) (i := 0) rfl rfl d1_findRootPort_90 ?_
            refine z_getO fx 1 5 6 ho lf1_30 fk1_5 d1_findRootPort_91 ?_
            refine z_dup fx rfl d1_findRootPort_94 ?_
            refine z_getI fx 9 1 901 (ok1_5 hO ho) lf1_115 ⟨fk9_1, rfl⟩ d1_findRootPort_95 ?_
            refine z_aload_n fx (k := 1) (i := 1) rfl rfl d1_findRootPort_98 ?_
            obtain ⟨w16, e20, e6⟩ := zinv e6
            refine z_getR fx 8 12 812 17 h_state lf1_41 ⟨fk8_12, rfl⟩ e20 d1_findRootPort_99 (fun tw16 => ?_)
            refine z_getO fx 10 9 10 tw16 lf1_94 fk10_9 d1_findRootPort_102 ?_
            refine z_iload fx (i := 4) rfl d1_findRootPort_105 ?_
            refine z_iconst fx (v := 1) ic1 d1_findRootPort_107 ?_
            refine z_ishr fx d1_findRootPort_108 ?_
            obtain ⟨t17, e21, e6⟩ := zinv e6
            refine z_iald fx (ok10_9 hO tw16) e21 d1_findRootPort_109 ?_
            refine z_iadd fx d1_findRootPort_110 ?_
            obtain ⟨μ18, e22, e6⟩ := zinv e6
            refine z_putI fx (ci := 9) 1 (ok1_5 hO ho) lf1_115 fp9_1 e22 d1_findRootPort_111 ?_
            obtain ⟨b19, e24, e6⟩ := zinv e6
            have kt23 : b19 = true → zZ zK1 X (zT0 Sh top) μ18 138 [(0, .ref o_), (1, .ref v_state), (2, .int v_b), (3, .int v_p_5), (4, .int t12)] [] := by
              intro hc
              replace e6 := zif_t hc e6
              refine z_aload_n fx (k := 0) (i := 0) rfl rfl d1_findRootPort_138 ?_
              refine z_getO fx 1 3 4 ho lf1_21 fk1_3 d1_findRootPort_139 ?_
              refine z_iload_n fx (k := 2) (i := 2) rfl rfl d1_findRootPort_142 ?_
              refine z_iload_n fx (k := 3) (i := 3) rfl rfl d1_findRootPort_143 ?_
              obtain ⟨μ20, e25, e6⟩ := zinv e6
              refine z_iast fx (ok1_3 hO ho) e25 d1_findRootPort_144 ?_
              refine z_aload_n fx (k := 0) (i := 0) rfl rfl d1_findRootPort_145 ?_
              refine z_getO fx 1 6 7 ho lf1_34 fk1_6 d1_findRootPort_146 ?_
              refine z_aload_n fx (k := 0) (i := 0) rfl rfl d1_findRootPort_149 ?_
              refine z_getO fx 1 5 6 ho lf1_30 fk1_5 d1_findRootPort_150 ?_
              obtain ⟨μ21, e26, e6⟩ := zinv e6
              refine z_cVv fx (c9_copyFrom (zLo X) (zDo X) Sh top hO (o_ + 7) (o_ + 6) μ20 _ (ok1_6 hO ho) (ok1_5 hO ho) e26) mv9_copyFrom ml1_121 (ok1_6 hO ho) rfl rfl rfl rfl d1_findRootPort_153 ?_
              refine z_take 4 (lv' := [(0, .ref o_), (1, .ref v_state), (2, .int v_b), (3, .int v_p_5)]) rfl ?_
              obtain ⟨v_p_22, e27, e6⟩ := zinv e6
              replace e27 := Option.some.inj e27
              refine z_iinc fx (i := 3) (x := v_p_5) (v := v_p_22) rfl (by rw [in1]; exact e27) rfl (lv' := [(0, .ref o_), (1, .ref v_state), (2, .int v_b), (3, .int v_p_22)]) rfl rfl d1_findRootPort_156 ?_
              cases e6
              refine z_goto fx d1_findRootPort_159 ?_
              exact ih10 _ _ hl7
            have kf23 : b19 = false → zZ zK1 X (zT0 Sh top) μ18 156 [(0, .ref o_), (1, .ref v_state), (2, .int v_b), (3, .int v_p_5), (4, .int t12)] [] := by
              intro hc
              replace e6 := zif_f hc e6
              refine z_take 4 (lv' := [(0, .ref o_), (1, .ref v_state), (2, .int v_b), (3, .int v_p_5)]) rfl ?_
              obtain ⟨v_p_23, e28, e6⟩ := zinv e6
              replace e28 := Option.some.inj e28
              refine z_iinc fx (i := 3) (x := v_p_5) (v := v_p_23) rfl (by rw [in1]; exact e28) rfl (lv' := [(0, .ref o_), (1, .ref v_state), (2, .int v_b), (3, .int v_p_23)]) rfl rfl d1_findRootPort_156 ?_
              cases e6
              refine z_goto fx d1_findRootPort_159 ?_
              exact ih10 _ _ hl7
            clear e6
            obtain ⟨b24, e29, e24⟩ := zinv e24
            have kf30 : b24 = false → zZ zK1 X (zT0 Sh top) μ18 124 [(0, .ref o_), (1, .ref v_state), (2, .int v_b), (3, .int v_p_5), (4, .int t12)] [] := by
              intro hc
              replace e24 := zif_f hc e24
              refine z_aload_n fx (k := 0) (i := 0) rfl rfl d1_findRootPort_124 ?_
              refine z_getO fx 1 5 6 ho lf1_30 fk1_5 d1_findRootPort_125 ?_
              refine z_aload_n fx (k := 0) (i := 0) rfl rfl d1_findRootPort_128 ?_
              refine z_getO fx 1 6 7 ho lf1_34 fk1_6 d1_findRootPort_129 ?_
              obtain ⟨t25, e31, e24⟩ := zinv e24
              refine z_cVr fx (c9_against (zLo X) (zDo X) Sh top hO (o_ + 6) (o_ + 7) μ18 _ (ok1_5 hO ho) (ok1_6 hO ho) e31) mv9_against ml1_117 (ok1_5 hO ho) rfl rfl rfl rfl d1_findRootPort_132 ?_
              cases e24
              refine z_if_ge fx d1_findRootPort_135 (fun c32 => ?_) (fun c32 => ?_)
              · exact kf23 c32
              · exact kt23 c32
            have kt30 : b24 = true → zZ zK1 X (zT0 Sh top) μ18 138 [(0, .ref o_), (1, .ref v_state), (2, .int v_b), (3, .int v_p_5), (4, .int t12)] [] := by
              intro hc
              replace e24 := zif_t hc e24
              cases e24
              exact kt23 rfl
            clear e24
            refine z_aload_n fx (k := 0) (i := 0) rfl rfl d1_findRootPort_114 ?_
            refine z_getO fx 1 3 4 ho lf1_21 fk1_3 d1_findRootPort_115 ?_
            refine z_iload_n fx (k := 2) (i := 2) rfl rfl d1_findRootPort_118 ?_
            obtain ⟨t26, e33, e29⟩ := zinv e29
            refine z_iald fx (ok1_3 hO ho) e33 d1_findRootPort_119 ?_
            refine z_iconst fx (v := (-1)) icm1 d1_findRootPort_120 ?_
            cases e29
            refine z_icmp_eq fx d1_findRootPort_121 (fun c34 => ?_) (fun c34 => ?_)
            · exact kt30 c34
            · exact kf30 c34
          clear e6
          obtain ⟨b27, e35, e17⟩ := zinv e17
          have kf36 : b27 = false → zZ zK1 X (zT0 Sh top) μ6 61 [(0, .ref o_), (1, .ref v_state), (2, .int v_b), (3, .int v_p_5), (4, .int t12)] [] := by
            intro hc
            replace e17 := zif_f hc e17
            refine z_aload_n fx (k := 1) (i := 1) rfl rfl d1_findRootPort_61 ?_
            obtain ⟨w28, e37, e17⟩ := zinv e17
            refine z_getR fx 8 12 812 17 h_state lf1_41 ⟨fk8_12, rfl⟩ e37 d1_findRootPort_62 (fun tw28 => ?_)
            refine z_iload fx (i := 4) rfl d1_findRootPort_65 ?_
            obtain ⟨t29, e38, e17⟩ := zinv e17
            refine z_cVr fx (c10_farBridge (zLo X) (zDo X) Sh top hO w28 t12 μ6 _ tw28 e38) mv10_farBridge ml1_90 tw28 rfl rfl rfl rfl d1_findRootPort_67 ?_
            refine z_iload_n fx (k := 2) (i := 2) rfl rfl d1_findRootPort_70 ?_
            cases e17
            refine z_icmp_ne fx d1_findRootPort_71 (fun c39 => ?_) (fun c39 => ?_)
            · exact kf16 c39
            · refine z_goto fx d1_findRootPort_74 ?_
              exact kt16 c39
          have kt36 : b27 = true → zZ zK1 X (zT0 Sh top) μ6 156 [(0, .ref o_), (1, .ref v_state), (2, .int v_b), (3, .int v_p_5), (4, .int t12)] [] := by
            intro hc
            replace e17 := zif_t hc e17
            cases e17
            exact kt16 rfl
          clear e17
          refine z_aload_n fx (k := 1) (i := 1) rfl rfl d1_findRootPort_52 ?_
          refine z_iload fx (i := 4) rfl d1_findRootPort_53 ?_
          obtain ⟨t30, e40, e35⟩ := zinv e35
          refine z_cVr fx (c8_isUp (zLo X) (zDo X) Sh top hO v_state t12 μ6 _ h_state e40) mv8_isUp ml1_83 h_state rfl rfl rfl rfl d1_findRootPort_55 ?_
          cases e35
          refine z_ifb_eq fx d1_findRootPort_58 (fun c41 => ?_) (fun c41 => ?_)
          · exact kt36 (by rw [c41]; rfl)
          · exact kf36 (by rw [c41]; rfl)
    exact klr8 _ _ _ e42
  · replace h := zif_t c5 h
    cases h
    exact z_return fx fin d1_findRootPort_25
theorem d1_findRole_0 : zd cX1_findRole 0 (.aload_n 1) 1 1 := by decide +kernel
theorem d1_findRole_1 : zd cX1_findRole 1 (.getfield 41) 3 4 := by decide +kernel
theorem d1_findRole_4 : zd cX1_findRole 4 (.getfield 87) 3 7 := by decide +kernel
theorem d1_findRole_7 : zd cX1_findRole 7 (.iload_n 2) 1 8 := by decide +kernel
theorem d1_findRole_8 : zd cX1_findRole 8 (.iaload) 1 9 := by decide +kernel
theorem d1_findRole_9 : zd cX1_findRole 9 (.istore_n 3) 1 10 := by decide +kernel
theorem d1_findRole_10 : zd cX1_findRole 10 (.aload_n 1) 1 11 := by decide +kernel
theorem d1_findRole_11 : zd cX1_findRole 11 (.iload_n 2) 1 12 := by decide +kernel
theorem d1_findRole_12 : zd cX1_findRole 12 (.invokevirtual 83) 3 15 := by decide +kernel
theorem d1_findRole_15 : zj cX1_findRole 15 (.ifCond .ne 5) 5 18 20 := by decide +kernel
theorem d1_findRole_18 : zd cX1_findRole 18 (.iconst 0) 1 19 := by decide +kernel
theorem d1_findRole_19 : zd cX1_findRole 19 (.ireturn) 1 20 := by decide +kernel
theorem d1_findRole_20 : zd cX1_findRole 20 (.aload_n 1) 1 21 := by decide +kernel
theorem d1_findRole_21 : zd cX1_findRole 21 (.getfield 41) 3 24 := by decide +kernel
theorem d1_findRole_24 : zd cX1_findRole 24 (.getfield 129) 3 27 := by decide +kernel
theorem d1_findRole_27 : zd cX1_findRole 27 (.iload_n 2) 1 28 := by decide +kernel
theorem d1_findRole_28 : zd cX1_findRole 28 (.iaload) 1 29 := by decide +kernel
theorem d1_findRole_29 : zd cX1_findRole 29 (.aload_n 0) 1 30 := by decide +kernel
theorem d1_findRole_30 : zd cX1_findRole 30 (.getfield 21) 3 33 := by decide +kernel
theorem d1_findRole_33 : zd cX1_findRole 33 (.iload_n 3) 1 34 := by decide +kernel
theorem d1_findRole_34 : zd cX1_findRole 34 (.iaload) 1 35 := by decide +kernel
theorem d1_findRole_35 : zj cX1_findRole 35 (.if_icmp .ne 5) 5 38 40 := by decide +kernel
theorem d1_findRole_38 : zd cX1_findRole 38 (.iconst 1) 1 39 := by decide +kernel
theorem d1_findRole_39 : zd cX1_findRole 39 (.ireturn) 1 40 := by decide +kernel
theorem d1_findRole_40 : zd cX1_findRole 40 (.aload_n 0) 1 41 := by decide +kernel
theorem d1_findRole_41 : zd cX1_findRole 41 (.aload_n 1) 1 42 := by decide +kernel
theorem d1_findRole_42 : zd cX1_findRole 42 (.iload_n 2) 1 43 := by decide +kernel
theorem d1_findRole_43 : zd cX1_findRole 43 (.iconst 1) 1 44 := by decide +kernel
theorem d1_findRole_44 : zd cX1_findRole 44 (.ixor) 1 45 := by decide +kernel
theorem d1_findRole_45 : zd cX1_findRole 45 (.aload_n 0) 1 46 := by decide +kernel
theorem d1_findRole_46 : zd cX1_findRole 46 (.getfield 30) 3 49 := by decide +kernel
theorem d1_findRole_49 : zd cX1_findRole 49 (.invokevirtual 111) 3 52 := by decide +kernel
theorem d1_findRole_52 : zd cX1_findRole 52 (.aload_n 0) 1 53 := by decide +kernel
theorem d1_findRole_53 : zd cX1_findRole 53 (.aload_n 1) 1 54 := by decide +kernel
theorem d1_findRole_54 : zd cX1_findRole 54 (.iload_n 2) 1 55 := by decide +kernel
theorem d1_findRole_55 : zd cX1_findRole 55 (.aload_n 0) 1 56 := by decide +kernel
theorem d1_findRole_56 : zd cX1_findRole 56 (.getfield 34) 3 59 := by decide +kernel
theorem d1_findRole_59 : zd cX1_findRole 59 (.invokevirtual 111) 3 62 := by decide +kernel
theorem d1_findRole_62 : zd cX1_findRole 62 (.aload_n 0) 1 63 := by decide +kernel
theorem d1_findRole_63 : zd cX1_findRole 63 (.getfield 30) 3 66 := by decide +kernel
theorem d1_findRole_66 : zd cX1_findRole 66 (.aload_n 0) 1 67 := by decide +kernel
theorem d1_findRole_67 : zd cX1_findRole 67 (.getfield 34) 3 70 := by decide +kernel
theorem d1_findRole_70 : zd cX1_findRole 70 (.invokevirtual 117) 3 73 := by decide +kernel
theorem d1_findRole_73 : zj cX1_findRole 73 (.ifCond .lt 5) 5 76 78 := by decide +kernel
theorem d1_findRole_76 : zd cX1_findRole 76 (.iconst 2) 1 77 := by decide +kernel
theorem d1_findRole_77 : zd cX1_findRole 77 (.ireturn) 1 78 := by decide +kernel
theorem d1_findRole_78 : zd cX1_findRole 78 (.aload_n 1) 1 79 := by decide +kernel
theorem d1_findRole_79 : zd cX1_findRole 79 (.getfield 41) 3 82 := by decide +kernel
theorem d1_findRole_82 : zd cX1_findRole 82 (.iload_n 2) 1 83 := by decide +kernel
theorem d1_findRole_83 : zd cX1_findRole 83 (.invokevirtual 90) 3 86 := by decide +kernel
theorem d1_findRole_86 : zd cX1_findRole 86 (.iload_n 3) 1 87 := by decide +kernel
theorem d1_findRole_87 : zj cX1_findRole 87 (.if_icmp .ne 7) 7 90 94 := by decide +kernel
theorem d1_findRole_90 : zd cX1_findRole 90 (.iconst 4) 1 91 := by decide +kernel
theorem d1_findRole_91 : zj cX1_findRole 91 (.goto 4) 4 94 95 := by decide +kernel
theorem d1_findRole_94 : zd cX1_findRole 94 (.iconst 3) 1 95 := by decide +kernel
theorem d1_findRole_95 : zd cX1_findRole 95 (.ireturn) 1 96 := by decide +kernel
set_option maxHeartbeats 4000000 in
set_option maxRecDepth 20000 in
theorem c1_findRole (l : Launch) (D : zDt) (Sh : zSh) (top : Nat) (hO : zOK Sh) (o_ : Nat) (v_state : Nat) (v_end : Int32) (μ : zM) (r_ : Int32) (μ_ : zM) (ho : (Sh o_).1 = 8) (h_state : (Sh v_state).1 = 15) (h : f1_findRole o_ v_state v_end μ = some (r_, μ_)) : zMet l D zK1 yX1_findRole cX1_findRole 4 (some .int) (zrm 2 44) [.ref o_, .ref v_state, .int v_end] Sh top μ (some (.int r_)) Sh top μ_ 0 0 := by
  refine zMet_of (by decide) (Nat.le_of_ble_eq_true rfl) fun X hX1 hX2 fx fin => ?_
  subst hX1; subst hX2
  replace fx : zFix X cX1_findRole RX1 (zrm 2 44) 4 := fx
  show zZ zK1 X (zT0 Sh top) μ 0 [(0, .ref o_), (1, .ref v_state), (2, .int v_end)] []
  unfold f1_findRole at h
  refine z_aload_n fx (k := 1) (i := 1) rfl rfl d1_findRole_0 ?_
  obtain ⟨w1, e1, h⟩ := zinv h
  refine z_getR fx 8 12 812 17 h_state lf1_41 ⟨fk8_12, rfl⟩ e1 d1_findRole_1 (fun tw1 => ?_)
  refine z_getO fx 10 6 7 tw1 lf1_87 fk10_6 d1_findRole_4 ?_
  refine z_iload_n fx (k := 2) (i := 2) rfl rfl d1_findRole_7 ?_
  obtain ⟨t2, e2, h⟩ := zinv h
  refine z_iald fx (ok10_6 hO tw1) e2 d1_findRole_8 ?_
  refine z_istore_n fx (k := 3) (i := 3) rfl rfl (lv' := [(0, .ref o_), (1, .ref v_state), (2, .int v_end), (3, .int t2)]) rfl rfl d1_findRole_9 ?_
  refine z_aload_n fx (k := 1) (i := 1) rfl rfl d1_findRole_10 ?_
  refine z_iload_n fx (k := 2) (i := 2) rfl rfl d1_findRole_11 ?_
  obtain ⟨t3, e3, h⟩ := zinv h
  refine z_cVr fx (c8_isUp (zLo X) (zDo X) Sh top hO v_state v_end μ _ h_state e3) mv8_isUp ml1_83 h_state rfl rfl rfl rfl d1_findRole_12 ?_
  refine z_ifb_ne fx d1_findRole_15 (fun c4 => ?_) (fun c4 => ?_)
  · replace h := zif_t c4 h
    refine z_aload_n fx (k := 1) (i := 1) rfl rfl d1_findRole_20 ?_
    obtain ⟨w4, e5, h⟩ := zinv h
    refine z_getR fx 8 12 812 17 h_state lf1_41 ⟨fk8_12, rfl⟩ e5 d1_findRole_21 (fun tw4 => ?_)
    refine z_getO fx 10 7 8 tw4 lf1_129 fk10_7 d1_findRole_24 ?_
    refine z_iload_n fx (k := 2) (i := 2) rfl rfl d1_findRole_27 ?_
    obtain ⟨t5, e6, h⟩ := zinv h
    refine z_iald fx (ok10_7 hO tw4) e6 d1_findRole_28 ?_
    refine z_aload_n fx (k := 0) (i := 0) rfl rfl d1_findRole_29 ?_
    refine z_getO fx 1 3 4 ho lf1_21 fk1_3 d1_findRole_30 ?_
    refine z_iload_n fx (k := 3) (i := 3) rfl rfl d1_findRole_33 ?_
    obtain ⟨t6, e7, h⟩ := zinv h
    refine z_iald fx (ok1_3 hO ho) e7 d1_findRole_34 ?_
    refine z_icmp_ne fx d1_findRole_35 (fun c8 => ?_) (fun c8 => ?_)
    · replace h := zif_f c8 h
      refine z_aload_n fx (k := 0) (i := 0) rfl rfl d1_findRole_40 ?_
      refine z_aload_n fx (k := 1) (i := 1) rfl rfl d1_findRole_41 ?_
      refine z_iload_n fx (k := 2) (i := 2) rfl rfl d1_findRole_42 ?_
      refine z_iconst fx (v := 1) ic1 d1_findRole_43 ?_
      refine z_ixor fx d1_findRole_44 ?_
      refine z_aload_n fx (k := 0) (i := 0) rfl rfl d1_findRole_45 ?_
      refine z_getO fx 1 5 6 ho lf1_30 fk1_5 d1_findRole_46 ?_
      obtain ⟨μ7, e9, h⟩ := zinv h
      refine z_cVv fx (c1_tellVector (zLo X) (zDo X) Sh top hO o_ v_state (v_end ^^^ 1) (o_ + 6) μ _ ho h_state (ok1_5 hO ho) e9) mv1_tellVector ml1_111 ho rfl rfl rfl rfl d1_findRole_49 ?_
      refine z_aload_n fx (k := 0) (i := 0) rfl rfl d1_findRole_52 ?_
      refine z_aload_n fx (k := 1) (i := 1) rfl rfl d1_findRole_53 ?_
      refine z_iload_n fx (k := 2) (i := 2) rfl rfl d1_findRole_54 ?_
      refine z_aload_n fx (k := 0) (i := 0) rfl rfl d1_findRole_55 ?_
      refine z_getO fx 1 6 7 ho lf1_34 fk1_6 d1_findRole_56 ?_
      obtain ⟨μ8, e10, h⟩ := zinv h
      refine z_cVv fx (c1_tellVector (zLo X) (zDo X) Sh top hO o_ v_state v_end (o_ + 7) μ7 _ ho h_state (ok1_6 hO ho) e10) mv1_tellVector ml1_111 ho rfl rfl rfl rfl d1_findRole_59 ?_
      refine z_aload_n fx (k := 0) (i := 0) rfl rfl d1_findRole_62 ?_
      refine z_getO fx 1 5 6 ho lf1_30 fk1_5 d1_findRole_63 ?_
      refine z_aload_n fx (k := 0) (i := 0) rfl rfl d1_findRole_66 ?_
      refine z_getO fx 1 6 7 ho lf1_34 fk1_6 d1_findRole_67 ?_
      obtain ⟨t9, e11, h⟩ := zinv h
      refine z_cVr fx (c9_against (zLo X) (zDo X) Sh top hO (o_ + 6) (o_ + 7) μ8 _ (ok1_5 hO ho) (ok1_6 hO ho) e11) mv9_against ml1_117 (ok1_5 hO ho) rfl rfl rfl rfl d1_findRole_70 ?_
      refine z_if_lt fx d1_findRole_73 (fun c12 => ?_) (fun c12 => ?_)
      · replace h := zif_t c12 h
        obtain ⟨x10, e13, h⟩ := zinv h
        have k14 : zZ zK1 X (zT0 Sh top) μ8 95 [(0, .ref o_), (1, .ref v_state), (2, .int v_end), (3, .int t2)] [.int x10] := by
          cases h
          exact z_ireturn fx fin d1_findRole_95
        refine z_aload_n fx (k := 1) (i := 1) rfl rfl d1_findRole_78 ?_
        obtain ⟨w11, e15, e13⟩ := zinv e13
        refine z_getR fx 8 12 812 17 h_state lf1_41 ⟨fk8_12, rfl⟩ e15 d1_findRole_79 (fun tw11 => ?_)
        refine z_iload_n fx (k := 2) (i := 2) rfl rfl d1_findRole_82 ?_
        obtain ⟨t12, e16, e13⟩ := zinv e13
        refine z_cVr fx (c10_farBridge (zLo X) (zDo X) Sh top hO w11 v_end μ8 _ tw11 e16) mv10_farBridge ml1_90 tw11 rfl rfl rfl rfl d1_findRole_83 ?_
        refine z_iload_n fx (k := 3) (i := 3) rfl rfl d1_findRole_86 ?_
        refine z_icmp_ne fx d1_findRole_87 (fun c17 => ?_) (fun c17 => ?_)
        · replace e13 := zif_f c17 e13
          refine z_iconst fx (v := 3) ic3 d1_findRole_94 ?_
          cases e13
          exact k14
        · replace e13 := zif_t c17 e13
          refine z_iconst fx (v := 4) ic4 d1_findRole_90 ?_
          cases e13
          refine z_goto fx d1_findRole_91 ?_
          exact k14
      · replace h := zif_f c12 h
        refine z_iconst fx (v := 2) ic2 d1_findRole_76 ?_
        cases h
        exact z_ireturn fx fin d1_findRole_77
    · replace h := zif_t c8 h
      refine z_iconst fx (v := 1) ic1 d1_findRole_38 ?_
      cases h
      exact z_ireturn fx fin d1_findRole_39
  · replace h := zif_f c4 h
    refine z_iconst fx (v := 0) ic0 d1_findRole_18 ?_
    cases h
    exact z_ireturn fx fin d1_findRole_19
theorem d1_find_0 : zd cX1_find 0 (.aload_n 0) 1 1 := by decide +kernel
theorem d1_find_1 : zd cX1_find 1 (.aload_n 1) 1 2 := by decide +kernel
theorem d1_find_2 : zd cX1_find 2 (.invokevirtual 37) 3 5 := by decide +kernel
theorem d1_find_5 : zd cX1_find 5 (.iconst 0) 1 6 := by decide +kernel
theorem d1_find_6 : zd cX1_find 6 (.istore_n 2) 1 7 := by decide +kernel
theorem d1_find_7 : zd cX1_find 7 (.iload_n 2) 1 8 := by decide +kernel
theorem d1_find_8 : zd cX1_find 8 (.aload_n 1) 1 9 := by decide +kernel
theorem d1_find_9 : zd cX1_find 9 (.getfield 41) 3 12 := by decide +kernel
theorem d1_find_12 : zd cX1_find 12 (.getfield 47) 3 15 := by decide +kernel
theorem d1_find_15 : zj cX1_find 15 (.if_icmp .ge 15) 15 18 30 := by decide +kernel
theorem d1_find_18 : zd cX1_find 18 (.aload_n 0) 1 19 := by decide +kernel
theorem d1_find_19 : zd cX1_find 19 (.aload_n 1) 1 20 := by decide +kernel
theorem d1_find_20 : zd cX1_find 20 (.iload_n 2) 1 21 := by decide +kernel
theorem d1_find_21 : zd cX1_find 21 (.invokevirtual 53) 3 24 := by decide +kernel
theorem d1_find_24 : zd cX1_find 24 (.iinc 2 1) 3 27 := by decide +kernel
theorem d1_find_27 : zj cX1_find 27 (.goto (-20)) (-20) 30 7 := by decide +kernel
theorem d1_find_30 : zd cX1_find 30 (.iconst 0) 1 31 := by decide +kernel
theorem d1_find_31 : zd cX1_find 31 (.istore_n 2) 1 32 := by decide +kernel
theorem d1_find_32 : zd cX1_find 32 (.iload_n 2) 1 33 := by decide +kernel
theorem d1_find_33 : zd cX1_find 33 (.aload_n 1) 1 34 := by decide +kernel
theorem d1_find_34 : zd cX1_find 34 (.getfield 41) 3 37 := by decide +kernel
theorem d1_find_37 : zd cX1_find 37 (.getfield 47) 3 40 := by decide +kernel
theorem d1_find_40 : zj cX1_find 40 (.if_icmp .ge 15) 15 43 55 := by decide +kernel
theorem d1_find_43 : zd cX1_find 43 (.aload_n 0) 1 44 := by decide +kernel
theorem d1_find_44 : zd cX1_find 44 (.aload_n 1) 1 45 := by decide +kernel
theorem d1_find_45 : zd cX1_find 45 (.iload_n 2) 1 46 := by decide +kernel
theorem d1_find_46 : zd cX1_find 46 (.invokevirtual 57) 3 49 := by decide +kernel
theorem d1_find_49 : zd cX1_find 49 (.iinc 2 1) 3 52 := by decide +kernel
theorem d1_find_52 : zj cX1_find 52 (.goto (-20)) (-20) 55 32 := by decide +kernel
theorem d1_find_55 : zd cX1_find 55 (.iconst 0) 1 56 := by decide +kernel
theorem d1_find_56 : zd cX1_find 56 (.istore_n 2) 1 57 := by decide +kernel
theorem d1_find_57 : zd cX1_find 57 (.iload_n 2) 1 58 := by decide +kernel
theorem d1_find_58 : zd cX1_find 58 (.iconst 2) 1 59 := by decide +kernel
theorem d1_find_59 : zd cX1_find 59 (.aload_n 1) 1 60 := by decide +kernel
theorem d1_find_60 : zd cX1_find 60 (.getfield 41) 3 63 := by decide +kernel
theorem d1_find_63 : zd cX1_find 63 (.getfield 60) 3 66 := by decide +kernel
theorem d1_find_66 : zd cX1_find 66 (.imul) 1 67 := by decide +kernel
theorem d1_find_67 : zj cX1_find 67 (.if_icmp .ge 21) 21 70 88 := by decide +kernel
theorem d1_find_70 : zd cX1_find 70 (.aload_n 0) 1 71 := by decide +kernel
theorem d1_find_71 : zd cX1_find 71 (.getfield 24) 3 74 := by decide +kernel
theorem d1_find_74 : zd cX1_find 74 (.iload_n 2) 1 75 := by decide +kernel
theorem d1_find_75 : zd cX1_find 75 (.aload_n 0) 1 76 := by decide +kernel
theorem d1_find_76 : zd cX1_find 76 (.aload_n 1) 1 77 := by decide +kernel
theorem d1_find_77 : zd cX1_find 77 (.iload_n 2) 1 78 := by decide +kernel
theorem d1_find_78 : zd cX1_find 78 (.invokevirtual 63) 3 81 := by decide +kernel
theorem d1_find_81 : zd cX1_find 81 (.iastore) 1 82 := by decide +kernel
theorem d1_find_82 : zd cX1_find 82 (.iinc 2 1) 3 85 := by decide +kernel
theorem d1_find_85 : zj cX1_find 85 (.goto (-28)) (-28) 88 57 := by decide +kernel
theorem d1_find_88 : zd cX1_find 88 (.return_) 1 89 := by decide +kernel
set_option maxHeartbeats 4000000 in
set_option maxRecDepth 20000 in
theorem c1_find (l : Launch) (D : zDt) (Sh : zSh) (top : Nat) (hO : zOK Sh) (o_ : Nat) (v_state : Nat) (μ : zM) (μ_ : zM) (ho : (Sh o_).1 = 8) (h_state : (Sh v_state).1 = 15) (h : f1_find o_ v_state μ = some μ_) : zMet l D zK1 yX1_find cX1_find 3 none (zrm 3 68) [.ref o_, .ref v_state] Sh top μ none Sh top μ_ 0 0 := by
  refine zMet_of (by decide) (Nat.le_of_ble_eq_true rfl) fun X hX1 hX2 fx fin => ?_
  subst hX1; subst hX2
  replace fx : zFix X cX1_find RX1 (zrm 3 68) 3 := fx
  show zZ zK1 X (zT0 Sh top) μ 0 [(0, .ref o_), (1, .ref v_state)] []
  unfold f1_find at h
  refine z_aload_n fx (k := 0) (i := 0) rfl rfl d1_find_0 ?_
  refine z_aload_n fx (k := 1) (i := 1) rfl rfl d1_find_1 ?_
  obtain ⟨μ1, e1, h⟩ := zinv h
  refine z_cVv fx (c1_findWays (zLo X) (zDo X) Sh top hO o_ v_state μ _ ho h_state e1) mv1_findWays ml1_37 ho rfl rfl rfl rfl d1_find_2 ?_
  refine z_iconst fx (v := 0) ic0 d1_find_5 ?_
  refine z_istore_n fx (k := 2) (i := 2) rfl rfl (lv' := [(0, .ref o_), (1, .ref v_state), (2, .int 0)]) rfl rfl d1_find_6 ?_
  obtain ⟨v_b_4, μ5, e32, h⟩ := zinv2 h
  have kx5 : zZ zK1 X (zT0 Sh top) μ5 30 [(0, .ref o_), (1, .ref v_state), (2, .int v_b_4)] [] := by
    refine z_take 2 (lv' := [(0, .ref o_), (1, .ref v_state)]) rfl ?_
    refine z_iconst fx (v := 0) ic0 d1_find_30 ?_
    refine z_istore_n fx (k := 2) (i := 2) rfl rfl (lv' := [(0, .ref o_), (1, .ref v_state), (2, .int 0)]) rfl rfl d1_find_31 ?_
    obtain ⟨v_b_11, μ12, e31, h⟩ := zinv2 h
    have kx14 : zZ zK1 X (zT0 Sh top) μ12 55 [(0, .ref o_), (1, .ref v_state), (2, .int v_b_11)] [] := by
      refine z_take 2 (lv' := [(0, .ref o_), (1, .ref v_state)]) rfl ?_
      refine z_iconst fx (v := 0) ic0 d1_find_55 ?_
      refine z_istore_n fx (k := 2) (i := 2) rfl rfl (lv' := [(0, .ref o_), (1, .ref v_state), (2, .int 0)]) rfl rfl d1_find_56 ?_
      obtain ⟨v_end_18, μ19, e30, h⟩ := zinv2 h
      have kx23 : zZ zK1 X (zT0 Sh top) μ19 88 [(0, .ref o_), (1, .ref v_state), (2, .int v_end_18)] [] := by
        refine z_take 2 (lv' := [(0, .ref o_), (1, .ref v_state)]) rfl ?_
        cases h
        exact z_return fx fin d1_find_88
      clear h
      have klr22 : ∀ (n : Nat) (v_end_16 : Int32) (μ17 : zM), zloop (fun s => f1_find_L3 o_ v_state s.1 s.2) n (v_end_16, μ17) = some (v_end_18, μ19) → zZ zK1 X (zT0 Sh top) μ17 57 [(0, .ref o_), (1, .ref v_state), (2, .int v_end_16)] [] := by
        intro n
        induction n with
        | zero => intro v_end_16 μ17 hl21; cases hl21
        | succ n ih24 =>
          intro v_end_16 μ17 hl21
          obtain ⟨y, e20, hl21⟩ := zloop_inv hl21
          replace e20 : f1_find_L3 o_ v_state v_end_16 μ17 = some y := e20
          unfold f1_find_L3 at e20
          refine z_iload_n fx (k := 2) (i := 2) rfl rfl d1_find_57 ?_
          refine z_iconst fx (v := 2) ic2 d1_find_58 ?_
          refine z_aload_n fx (k := 1) (i := 1) rfl rfl d1_find_59 ?_
          obtain ⟨w20, e25, e20⟩ := zinv e20
          refine z_getR fx 8 12 812 17 h_state lf1_41 ⟨fk8_12, rfl⟩ e25 d1_find_60 (fun tw20 => ?_)
          refine z_getI fx 10 16 1016 tw20 lf1_60 ⟨fk10_16, rfl⟩ d1_find_63 ?_
          refine z_imul fx d1_find_66 ?_
          refine z_icmp_ge fx d1_find_67 (fun c26 => ?_) (fun c26 => ?_)
          · replace e20 := zif_f c26 e20
            cases e20
            cases hl21
            exact kx23
          · replace e20 := zif_t c26 e20
            refine z_aload_n fx (k := 0) (i := 0) rfl rfl d1_find_70 ?_
            refine z_getO fx 1 4 5 ho lf1_24 fk1_4 d1_find_71 ?_
            refine z_iload_n fx (k := 2) (i := 2) rfl rfl d1_find_74 ?_
            refine z_aload_n fx (k := 0) (i := 0) rfl rfl d1_find_75 ?_
            refine z_aload_n fx (k := 1) (i := 1) rfl rfl d1_find_76 ?_
            refine z_iload_n fx (k := 2) (i := 2) rfl rfl d1_find_77 ?_
            obtain ⟨t21, μ22, e27, e20⟩ := zinv2 e20
            refine z_cVr fx (c1_findRole (zLo X) (zDo X) Sh top hO o_ v_state v_end_16 μ17 _ _ ho h_state e27) mv1_findRole ml1_63 ho rfl rfl rfl rfl d1_find_78 ?_
            obtain ⟨μ23, e28, e20⟩ := zinv e20
            refine z_iast fx (ok1_4 hO ho) e28 d1_find_81 ?_
            obtain ⟨v_end_24, e29, e20⟩ := zinv e20
            replace e29 := Option.some.inj e29
            refine z_iinc fx (i := 2) (x := v_end_16) (v := v_end_24) rfl (by rw [in1]; exact e29) rfl (lv' := [(0, .ref o_), (1, .ref v_state), (2, .int v_end_24)]) rfl rfl d1_find_82 ?_
            cases e20
            refine z_goto fx d1_find_85 ?_
            exact ih24 _ _ hl21
      exact klr22 _ _ _ e30
    clear h
    have klr13 : ∀ (n : Nat) (v_b_9 : Int32) (μ10 : zM), zloop (fun s => f1_find_L2 o_ v_state s.1 s.2) n (v_b_9, μ10) = some (v_b_11, μ12) → zZ zK1 X (zT0 Sh top) μ10 32 [(0, .ref o_), (1, .ref v_state), (2, .int v_b_9)] [] := by
      intro n
      induction n with
      | zero => intro v_b_9 μ10 hl12; cases hl12
      | succ n ih15 =>
        intro v_b_9 μ10 hl12
        obtain ⟨y, e11, hl12⟩ := zloop_inv hl12
        replace e11 : f1_find_L2 o_ v_state v_b_9 μ10 = some y := e11
        unfold f1_find_L2 at e11
        refine z_iload_n fx (k := 2) (i := 2) rfl rfl d1_find_32 ?_
        refine z_aload_n fx (k := 1) (i := 1) rfl rfl d1_find_33 ?_
        obtain ⟨w13, e16, e11⟩ := zinv e11
        refine z_getR fx 8 12 812 17 h_state lf1_41 ⟨fk8_12, rfl⟩ e16 d1_find_34 (fun tw13 => ?_)
        refine z_getI fx 10 15 1015 tw13 lf1_47 ⟨fk10_15, rfl⟩ d1_find_37 ?_
        refine z_icmp_ge fx d1_find_40 (fun c17 => ?_) (fun c17 => ?_)
        · replace e11 := zif_f c17 e11
          cases e11
          cases hl12
          exact kx14
        · replace e11 := zif_t c17 e11
          refine z_aload_n fx (k := 0) (i := 0) rfl rfl d1_find_43 ?_
          refine z_aload_n fx (k := 1) (i := 1) rfl rfl d1_find_44 ?_
          refine z_iload_n fx (k := 2) (i := 2) rfl rfl d1_find_45 ?_
          obtain ⟨μ14, e18, e11⟩ := zinv e11
          refine z_cVv fx (c1_findRootPort (zLo X) (zDo X) Sh top hO o_ v_state v_b_9 μ10 _ ho h_state e18) mv1_findRootPort ml1_57 ho rfl rfl rfl rfl d1_find_46 ?_
          obtain ⟨v_b_15, e19, e11⟩ := zinv e11
          replace e19 := Option.some.inj e19
          refine z_iinc fx (i := 2) (x := v_b_9) (v := v_b_15) rfl (by rw [in1]; exact e19) rfl (lv' := [(0, .ref o_), (1, .ref v_state), (2, .int v_b_15)]) rfl rfl d1_find_49 ?_
          cases e11
          refine z_goto fx d1_find_52 ?_
          exact ih15 _ _ hl12
    exact klr13 _ _ _ e31
  clear h
  have klr4 : ∀ (n : Nat) (v_b_2 : Int32) (μ3 : zM), zloop (fun s => f1_find_L1 o_ v_state s.1 s.2) n (v_b_2, μ3) = some (v_b_4, μ5) → zZ zK1 X (zT0 Sh top) μ3 7 [(0, .ref o_), (1, .ref v_state), (2, .int v_b_2)] [] := by
    intro n
    induction n with
    | zero => intro v_b_2 μ3 hl3; cases hl3
    | succ n ih6 =>
      intro v_b_2 μ3 hl3
      obtain ⟨y, e2, hl3⟩ := zloop_inv hl3
      replace e2 : f1_find_L1 o_ v_state v_b_2 μ3 = some y := e2
      unfold f1_find_L1 at e2
      refine z_iload_n fx (k := 2) (i := 2) rfl rfl d1_find_7 ?_
      refine z_aload_n fx (k := 1) (i := 1) rfl rfl d1_find_8 ?_
      obtain ⟨w6, e7, e2⟩ := zinv e2
      refine z_getR fx 8 12 812 17 h_state lf1_41 ⟨fk8_12, rfl⟩ e7 d1_find_9 (fun tw6 => ?_)
      refine z_getI fx 10 15 1015 tw6 lf1_47 ⟨fk10_15, rfl⟩ d1_find_12 ?_
      refine z_icmp_ge fx d1_find_15 (fun c8 => ?_) (fun c8 => ?_)
      · replace e2 := zif_f c8 e2
        cases e2
        cases hl3
        exact kx5
      · replace e2 := zif_t c8 e2
        refine z_aload_n fx (k := 0) (i := 0) rfl rfl d1_find_18 ?_
        refine z_aload_n fx (k := 1) (i := 1) rfl rfl d1_find_19 ?_
        refine z_iload_n fx (k := 2) (i := 2) rfl rfl d1_find_20 ?_
        obtain ⟨μ7, e9, e2⟩ := zinv e2
        refine z_cVv fx (c1_findRoot (zLo X) (zDo X) Sh top hO o_ v_state v_b_2 μ3 _ ho h_state e9) mv1_findRoot ml1_53 ho rfl rfl rfl rfl d1_find_21 ?_
        obtain ⟨v_b_8, e10, e2⟩ := zinv e2
        replace e10 := Option.some.inj e10
        refine z_iinc fx (i := 2) (x := v_b_2) (v := v_b_8) rfl (by rw [in1]; exact e10) rfl (lv' := [(0, .ref o_), (1, .ref v_state), (2, .int v_b_8)]) rfl rfl d1_find_24 ?_
        cases e2
        refine z_goto fx d1_find_27 ?_
        exact ih6 _ _ hl3
  exact klr4 _ _ _ e32
theorem d11_due_0 : zd cX11_due 0 (.aload_n 0) 1 1 := by decide +kernel
theorem d11_due_1 : zd cX11_due 1 (.getfield 56) 3 4 := by decide +kernel
theorem d11_due_4 : zd cX11_due 4 (.iload_n 1) 1 5 := by decide +kernel
theorem d11_due_5 : zd cX11_due 5 (.invokevirtual 161) 3 8 := by decide +kernel
theorem d11_due_8 : zj cX11_due 8 (.ifCond .eq 18) 18 11 26 := by decide +kernel
theorem d11_due_11 : zd cX11_due 11 (.aload_n 0) 1 12 := by decide +kernel
theorem d11_due_12 : zd cX11_due 12 (.getfield 75) 3 15 := by decide +kernel
theorem d11_due_15 : zd cX11_due 15 (.getfield 195) 3 18 := by decide +kernel
theorem d11_due_18 : zd cX11_due 18 (.iload_n 1) 1 19 := by decide +kernel
theorem d11_due_19 : zd cX11_due 19 (.aaload) 1 20 := by decide +kernel
theorem d11_due_20 : zd cX11_due 20 (.getfield 209) 3 23 := by decide +kernel
theorem d11_due_23 : zj cX11_due 23 (.ifCond .ne 5) 5 26 28 := by decide +kernel
theorem d11_due_26 : zd cX11_due 26 (.iconst (-1)) 1 27 := by decide +kernel
theorem d11_due_27 : zd cX11_due 27 (.ireturn) 1 28 := by decide +kernel
theorem d11_due_28 : zd cX11_due 28 (.aload_n 0) 1 29 := by decide +kernel
theorem d11_due_29 : zd cX11_due 29 (.getfield 22) 3 32 := by decide +kernel
theorem d11_due_32 : zd cX11_due 32 (.aload_n 0) 1 33 := by decide +kernel
theorem d11_due_33 : zd cX11_due 33 (.getfield 75) 3 36 := by decide +kernel
theorem d11_due_36 : zd cX11_due 36 (.invokevirtual 283) 3 39 := by decide +kernel
theorem d11_due_39 : zd cX11_due 39 (.iload_n 2) 1 40 := by decide +kernel
theorem d11_due_40 : decode cX11_due 40 = .ok (.tableswitch 58 0 2 #[28, 38, 48], 28) := by decide +kernel
theorem d11_due_68 : zd cX11_due 68 (.aload_n 0) 1 69 := by decide +kernel
theorem d11_due_69 : zd cX11_due 69 (.getfield 22) 3 72 := by decide +kernel
theorem d11_due_72 : zd cX11_due 72 (.getfield 287) 3 75 := by decide +kernel
theorem d11_due_75 : zd cX11_due 75 (.iload_n 1) 1 76 := by decide +kernel
theorem d11_due_76 : zd cX11_due 76 (.iaload) 1 77 := by decide +kernel
theorem d11_due_77 : zd cX11_due 77 (.ireturn) 1 78 := by decide +kernel
theorem d11_due_78 : zd cX11_due 78 (.aload_n 0) 1 79 := by decide +kernel
theorem d11_due_79 : zd cX11_due 79 (.getfield 22) 3 82 := by decide +kernel
theorem d11_due_82 : zd cX11_due 82 (.getfield 289) 3 85 := by decide +kernel
theorem d11_due_85 : zd cX11_due 85 (.iload_n 1) 1 86 := by decide +kernel
theorem d11_due_86 : zd cX11_due 86 (.iaload) 1 87 := by decide +kernel
theorem d11_due_87 : zd cX11_due 87 (.ireturn) 1 88 := by decide +kernel
theorem d11_due_88 : zd cX11_due 88 (.aload_n 0) 1 89 := by decide +kernel
theorem d11_due_89 : zd cX11_due 89 (.getfield 22) 3 92 := by decide +kernel
theorem d11_due_92 : zd cX11_due 92 (.getfield 290) 3 95 := by decide +kernel
theorem d11_due_95 : zd cX11_due 95 (.iload_n 1) 1 96 := by decide +kernel
theorem d11_due_96 : zd cX11_due 96 (.iaload) 1 97 := by decide +kernel
theorem d11_due_97 : zd cX11_due 97 (.ireturn) 1 98 := by decide +kernel
theorem d11_due_98 : zd cX11_due 98 (.iconst (-1)) 1 99 := by decide +kernel
theorem d11_due_99 : zd cX11_due 99 (.ireturn) 1 100 := by decide +kernel
set_option maxHeartbeats 4000000 in
set_option maxRecDepth 20000 in
theorem c11_due (l : Launch) (D : zDt) (Sh : zSh) (top : Nat) (hO : zOK Sh) (o_ : Nat) (v_bridge : Int32) (v_what : Int32) (μ : zM) (r_ : Int32) (μ_ : zM) (ho : (Sh o_).1 = 18) (h : f11_due o_ v_bridge v_what μ = some (r_, μ_)) : zMet l D zK1 yX11_due cX11_due 3 (some .int) (zrm 4 90) [.ref o_, .int v_bridge, .int v_what] Sh top μ (some (.int r_)) Sh top μ_ 0 0 := by
  refine zMet_of (by decide) (Nat.le_of_ble_eq_true rfl) fun X hX1 hX2 fx fin => ?_
  subst hX1; subst hX2
  replace fx : zFix X cX11_due RX11 (zrm 4 90) 3 := fx
  show zZ zK1 X (zT0 Sh top) μ 0 [(0, .ref o_), (1, .int v_bridge), (2, .int v_what)] []
  unfold f11_due at h
  obtain ⟨b1, e2, h⟩ := zinv h
  have kt1 : b1 = true → zZ zK1 X (zT0 Sh top) μ 26 [(0, .ref o_), (1, .int v_bridge), (2, .int v_what)] [] := by
    intro hc
    replace h := zif_t hc h
    refine z_iconst fx (v := (-1)) icm1 d11_due_26 ?_
    cases h
    exact z_ireturn fx fin d11_due_27
  have kf1 : b1 = false → zZ zK1 X (zT0 Sh top) μ 28 [(0, .ref o_), (1, .int v_bridge), (2, .int v_what)] [] := by
    intro hc
    replace h := zif_f hc h
    refine z_aload_n fx (k := 0) (i := 0) rfl rfl d11_due_28 ?_
    refine z_getO fx 11 5 3 ho lf11_22 fk11_5 d11_due_29 ?_
    refine z_aload_n fx (k := 0) (i := 0) rfl rfl d11_due_32 ?_
    refine z_getO fx 11 3 51 ho lf11_75 fk11_3 d11_due_33 ?_
    obtain ⟨μ2, e3, h⟩ := zinv h
    refine z_cVv fx (c1_find (zLo X) (zDo X) Sh top hO (o_ + 3) (o_ + 51) μ _ (ok11_5 hO ho) (ok11_3 hO ho) e3) mv1_find ml11_283 (ok11_5 hO ho) rfl rfl rfl rfl d11_due_36 ?_
    refine z_iload_n fx (k := 2) (i := 2) rfl rfl d11_due_39 ?_
    cases c4 : ceq v_what 0 with
    | true =>
      replace h := zif_t c4 h
      refine z_table fx d11_due_40 (off := 28) (tgt := 68) (by rw [ceq_of c4]; decide) (by decide) ?_
      refine z_aload_n fx (k := 0) (i := 0) rfl rfl d11_due_68 ?_
      refine z_getO fx 11 5 3 ho lf11_22 fk11_5 d11_due_69 ?_
      refine z_getO fx 1 1 2 (ok11_5 hO ho) lf11_287 fk1_1 d11_due_72 ?_
      refine z_iload_n fx (k := 1) (i := 1) rfl rfl d11_due_75 ?_
      obtain ⟨t3, e5, h⟩ := zinv h
      refine z_iald fx (ok1_1 hO (ok11_5 hO ho)) e5 d11_due_76 ?_
      cases h
      exact z_ireturn fx fin d11_due_77
    | false =>
    replace h := zif_f c4 h
    cases c6 : ceq v_what 1 with
    | true =>
      replace h := zif_t c6 h
      refine z_table fx d11_due_40 (off := 38) (tgt := 78) (by rw [ceq_of c6]; decide) (by decide) ?_
      refine z_aload_n fx (k := 0) (i := 0) rfl rfl d11_due_78 ?_
      refine z_getO fx 11 5 3 ho lf11_22 fk11_5 d11_due_79 ?_
      refine z_getO fx 1 2 3 (ok11_5 hO ho) lf11_289 fk1_2 d11_due_82 ?_
      refine z_iload_n fx (k := 1) (i := 1) rfl rfl d11_due_85 ?_
      obtain ⟨t4, e7, h⟩ := zinv h
      refine z_iald fx (ok1_2 hO (ok11_5 hO ho)) e7 d11_due_86 ?_
      cases h
      exact z_ireturn fx fin d11_due_87
    | false =>
    replace h := zif_f c6 h
    cases c8 : ceq v_what 2 with
    | true =>
      replace h := zif_t c8 h
      refine z_table fx d11_due_40 (off := 48) (tgt := 88) (by rw [ceq_of c8]; decide) (by decide) ?_
      refine z_aload_n fx (k := 0) (i := 0) rfl rfl d11_due_88 ?_
      refine z_getO fx 11 5 3 ho lf11_22 fk11_5 d11_due_89 ?_
      refine z_getO fx 1 3 4 (ok11_5 hO ho) lf11_290 fk1_3 d11_due_92 ?_
      refine z_iload_n fx (k := 1) (i := 1) rfl rfl d11_due_95 ?_
      obtain ⟨t5, e9, h⟩ := zinv h
      refine z_iald fx (ok1_3 hO (ok11_5 hO ho)) e9 d11_due_96 ?_
      cases h
      exact z_ireturn fx fin d11_due_97
    | false =>
    replace h := zif_f c8 h
    have hn0 := zne c4 (k := 0) (by decide)
    have hn1 := zne c6 (k := 1) (by decide)
    have hn2 := zne c8 (k := 2) (by decide)
    refine z_table fx d11_due_40 (off := 58) (tgt := 98) ⟨zsw_out (by omega), by decide⟩ (by decide) ?_
    refine z_iconst fx (v := (-1)) icm1 d11_due_98 ?_
    cases h
    exact z_ireturn fx fin d11_due_99
  clear h
  obtain ⟨b6, e10, e2⟩ := zinv e2
  have kf11 : b6 = false → zZ zK1 X (zT0 Sh top) μ 11 [(0, .ref o_), (1, .int v_bridge), (2, .int v_what)] [] := by
    intro hc
    replace e2 := zif_f hc e2
    refine z_aload_n fx (k := 0) (i := 0) rfl rfl d11_due_11 ?_
    refine z_getO fx 11 3 51 ho lf11_75 fk11_3 d11_due_12 ?_
    refine z_getO fx 8 0 1 (ok11_3 hO ho) lf11_195 fk8_0 d11_due_15 ?_
    refine z_iload_n fx (k := 1) (i := 1) rfl rfl d11_due_18 ?_
    obtain ⟨j7, e12, e2⟩ := zinv e2
    refine z_aald fx 0 (by decide) (ok8_0 hO (ok11_3 hO ho)) e12 (v := .ref (o_ + 64 + 3 * j7)) rfl d11_due_19 ?_
    refine z_getB fx 0 3 3 (okA0 hO (ok8_0 hO (ok11_3 hO ho)) (rI_lt e12)) lf11_209 ⟨fk0_3, rfl⟩ d11_due_20 ?_
    cases e2
    refine z_ifb_ne fx d11_due_23 (fun c13 => ?_) (fun c13 => ?_)
    · exact kf1 (by rw [c13]; rfl)
    · exact kt1 (by rw [c13]; rfl)
  have kt11 : b6 = true → zZ zK1 X (zT0 Sh top) μ 26 [(0, .ref o_), (1, .int v_bridge), (2, .int v_what)] [] := by
    intro hc
    replace e2 := zif_t hc e2
    cases e2
    exact kt1 rfl
  clear e2
  refine z_aload_n fx (k := 0) (i := 0) rfl rfl d11_due_0 ?_
  obtain ⟨w8, e14, e10⟩ := zinv e10
  refine z_getR fx 11 11 1111 17 ho lf11_56 ⟨fk11_11, rfl⟩ e14 d11_due_1 (fun tw8 => ?_)
  refine z_iload_n fx (k := 1) (i := 1) rfl rfl d11_due_4 ?_
  obtain ⟨t9, e15, e10⟩ := zinv e10
  refine z_cVr fx (c10_isBridge (zLo X) (zDo X) Sh top hO w8 v_bridge μ _ tw8 e15) mv10_isBridge ml11_161 tw8 rfl rfl rfl rfl d11_due_5 ?_
  cases e10
  refine z_ifb_eq fx d11_due_8 (fun c16 => ?_) (fun c16 => ?_)
  · exact kt11 (by rw [c16]; rfl)
  · exact kf11 (by rw [c16]; rfl)
theorem d11_role_0 : zd cX11_role 0 (.aload_n 0) 1 1 := by decide +kernel
theorem d11_role_1 : zd cX11_role 1 (.getfield 56) 3 4 := by decide +kernel
theorem d11_role_4 : zd cX11_role 4 (.iload_n 1) 1 5 := by decide +kernel
theorem d11_role_5 : zd cX11_role 5 (.iload_n 2) 1 6 := by decide +kernel
theorem d11_role_6 : zd cX11_role 6 (.invokevirtual 215) 3 9 := by decide +kernel
theorem d11_role_9 : zj cX11_role 9 (.ifCond .ne 5) 5 12 14 := by decide +kernel
theorem d11_role_12 : zd cX11_role 12 (.iconst (-1)) 1 13 := by decide +kernel
theorem d11_role_13 : zd cX11_role 13 (.ireturn) 1 14 := by decide +kernel
theorem d11_role_14 : zd cX11_role 14 (.aload_n 0) 1 15 := by decide +kernel
theorem d11_role_15 : zd cX11_role 15 (.getfield 22) 3 18 := by decide +kernel
theorem d11_role_18 : zd cX11_role 18 (.aload_n 0) 1 19 := by decide +kernel
theorem d11_role_19 : zd cX11_role 19 (.getfield 75) 3 22 := by decide +kernel
theorem d11_role_22 : zd cX11_role 22 (.invokevirtual 283) 3 25 := by decide +kernel
theorem d11_role_25 : zd cX11_role 25 (.aload_n 0) 1 26 := by decide +kernel
theorem d11_role_26 : zd cX11_role 26 (.getfield 22) 3 29 := by decide +kernel
theorem d11_role_29 : zd cX11_role 29 (.getfield 293) 3 32 := by decide +kernel
theorem d11_role_32 : zd cX11_role 32 (.aload_n 0) 1 33 := by decide +kernel
theorem d11_role_33 : zd cX11_role 33 (.getfield 56) 3 36 := by decide +kernel
theorem d11_role_36 : zd cX11_role 36 (.iload_n 1) 1 37 := by decide +kernel
theorem d11_role_37 : zd cX11_role 37 (.iload_n 2) 1 38 := by decide +kernel
theorem d11_role_38 : zd cX11_role 38 (.invokevirtual 222) 3 41 := by decide +kernel
theorem d11_role_41 : zd cX11_role 41 (.iaload) 1 42 := by decide +kernel
theorem d11_role_42 : zd cX11_role 42 (.ireturn) 1 43 := by decide +kernel
set_option maxHeartbeats 4000000 in
set_option maxRecDepth 20000 in
theorem c11_role (l : Launch) (D : zDt) (Sh : zSh) (top : Nat) (hO : zOK Sh) (o_ : Nat) (v_bridge : Int32) (v_port : Int32) (μ : zM) (r_ : Int32) (μ_ : zM) (ho : (Sh o_).1 = 18) (h : f11_role o_ v_bridge v_port μ = some (r_, μ_)) : zMet l D zK1 yX11_role cX11_role 3 (some .int) (zrm 4 90) [.ref o_, .int v_bridge, .int v_port] Sh top μ (some (.int r_)) Sh top μ_ 0 0 := by
  refine zMet_of (by decide) (Nat.le_of_ble_eq_true rfl) fun X hX1 hX2 fx fin => ?_
  subst hX1; subst hX2
  replace fx : zFix X cX11_role RX11 (zrm 4 90) 3 := fx
  show zZ zK1 X (zT0 Sh top) μ 0 [(0, .ref o_), (1, .int v_bridge), (2, .int v_port)] []
  unfold f11_role at h
  refine z_aload_n fx (k := 0) (i := 0) rfl rfl d11_role_0 ?_
  obtain ⟨w1, e1, h⟩ := zinv h
  refine z_getR fx 11 11 1111 17 ho lf11_56 ⟨fk11_11, rfl⟩ e1 d11_role_1 (fun tw1 => ?_)
  refine z_iload_n fx (k := 1) (i := 1) rfl rfl d11_role_4 ?_
  refine z_iload_n fx (k := 2) (i := 2) rfl rfl d11_role_5 ?_
  obtain ⟨t2, e2, h⟩ := zinv h
  refine z_cVr fx (c10_isPort (zLo X) (zDo X) Sh top hO w1 v_bridge v_port μ _ tw1 e2) mv10_isPort ml11_215 tw1 rfl rfl rfl rfl d11_role_6 ?_
  refine z_ifb_ne fx d11_role_9 (fun c3 => ?_) (fun c3 => ?_)
  · replace h := zif_t c3 h
    refine z_aload_n fx (k := 0) (i := 0) rfl rfl d11_role_14 ?_
    refine z_getO fx 11 5 3 ho lf11_22 fk11_5 d11_role_15 ?_
    refine z_aload_n fx (k := 0) (i := 0) rfl rfl d11_role_18 ?_
    refine z_getO fx 11 3 51 ho lf11_75 fk11_3 d11_role_19 ?_
    obtain ⟨μ3, e4, h⟩ := zinv h
    refine z_cVv fx (c1_find (zLo X) (zDo X) Sh top hO (o_ + 3) (o_ + 51) μ _ (ok11_5 hO ho) (ok11_3 hO ho) e4) mv1_find ml11_283 (ok11_5 hO ho) rfl rfl rfl rfl d11_role_22 ?_
    refine z_aload_n fx (k := 0) (i := 0) rfl rfl d11_role_25 ?_
    refine z_getO fx 11 5 3 ho lf11_22 fk11_5 d11_role_26 ?_
    refine z_getO fx 1 4 5 (ok11_5 hO ho) lf11_293 fk1_4 d11_role_29 ?_
    refine z_aload_n fx (k := 0) (i := 0) rfl rfl d11_role_32 ?_
    obtain ⟨w4, e5, h⟩ := zinv h
    refine z_getR fx 11 11 1111 17 ho lf11_56 ⟨fk11_11, rfl⟩ e5 d11_role_33 (fun tw4 => ?_)
    refine z_iload_n fx (k := 1) (i := 1) rfl rfl d11_role_36 ?_
    refine z_iload_n fx (k := 2) (i := 2) rfl rfl d11_role_37 ?_
    obtain ⟨t5, e6, h⟩ := zinv h
    refine z_cVr fx (c10_endOf (zLo X) (zDo X) Sh top hO w4 v_bridge v_port μ3 _ tw4 e6) mv10_endOf ml11_222 tw4 rfl rfl rfl rfl d11_role_38 ?_
    obtain ⟨t6, e7, h⟩ := zinv h
    refine z_iald fx (ok1_4 hO (ok11_5 hO ho)) e7 d11_role_41 ?_
    cases h
    exact z_ireturn fx fin d11_role_42
  · replace h := zif_f c3 h
    refine z_iconst fx (v := (-1)) icm1 d11_role_12 ?_
    cases h
    exact z_ireturn fx fin d11_role_13
