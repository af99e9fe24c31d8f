theorem d8_readConfig_0 : zd cX8_readConfig 0 (.aload_n 0) 1 1 := by decide +kernel
theorem d8_readConfig_1 : zd cX8_readConfig 1 (.getfield 19) 3 4 := by decide +kernel
theorem d8_readConfig_4 : zd cX8_readConfig 4 (.iload_n 1) 1 5 := by decide +kernel
theorem d8_readConfig_5 : zd cX8_readConfig 5 (.aaload) 1 6 := by decide +kernel
theorem d8_readConfig_6 : zd cX8_readConfig 6 (.astore_n 3) 1 7 := by decide +kernel
theorem d8_readConfig_7 : zd cX8_readConfig 7 (.aload_n 0) 1 8 := by decide +kernel
theorem d8_readConfig_8 : zd cX8_readConfig 8 (.getfield 62) 3 11 := by decide +kernel
theorem d8_readConfig_11 : zd cX8_readConfig 11 (.getfield 158) 3 14 := by decide +kernel
theorem d8_readConfig_14 : zd cX8_readConfig 14 (.iload_n 1) 1 15 := by decide +kernel
theorem d8_readConfig_15 : zd cX8_readConfig 15 (.iaload) 1 16 := by decide +kernel
theorem d8_readConfig_16 : zd cX8_readConfig 16 (.istore 4) 2 18 := by decide +kernel
theorem d8_readConfig_18 : zd cX8_readConfig 18 (.aload_n 2) 1 19 := by decide +kernel
theorem d8_readConfig_19 : zd cX8_readConfig 19 (.getfield 347) 3 22 := by decide +kernel
theorem d8_readConfig_22 : zd cX8_readConfig 22 (.iconst 1) 1 23 := by decide +kernel
theorem d8_readConfig_23 : zd cX8_readConfig 23 (.iadd) 1 24 := by decide +kernel
theorem d8_readConfig_24 : zd cX8_readConfig 24 (.aload_n 0) 1 25 := by decide +kernel
theorem d8_readConfig_25 : zd cX8_readConfig 25 (.getfield 62) 3 28 := by decide +kernel
theorem d8_readConfig_28 : zd cX8_readConfig 28 (.getfield 296) 3 31 := by decide +kernel
theorem d8_readConfig_31 : zj cX8_readConfig 31 (.if_icmp .le 22) 22 34 53 := by decide +kernel
theorem d8_readConfig_34 : zd cX8_readConfig 34 (.aload_n 3) 1 35 := by decide +kernel
theorem d8_readConfig_35 : zd cX8_readConfig 35 (.getfield 230) 3 38 := by decide +kernel
theorem d8_readConfig_38 : zj cX8_readConfig 38 (.ifCond .eq 14) 14 41 52 := by decide +kernel
theorem d8_readConfig_41 : zd cX8_readConfig 41 (.aload_n 3) 1 42 := by decide +kernel
theorem d8_readConfig_42 : zd cX8_readConfig 42 (.iconst 0) 1 43 := by decide +kernel
theorem d8_readConfig_43 : zd cX8_readConfig 43 (.putfield 230) 3 46 := by decide +kernel
theorem d8_readConfig_46 : zd cX8_readConfig 46 (.aload_n 0) 1 47 := by decide +kernel
theorem d8_readConfig_47 : zd cX8_readConfig 47 (.iload 4) 2 49 := by decide +kernel
theorem d8_readConfig_49 : zd cX8_readConfig 49 (.invokevirtual 198) 3 52 := by decide +kernel
theorem d8_readConfig_52 : zd cX8_readConfig 52 (.return_) 1 53 := by decide +kernel
theorem d8_readConfig_53 : zd cX8_readConfig 53 (.aload_n 3) 1 54 := by decide +kernel
theorem d8_readConfig_54 : zd cX8_readConfig 54 (.getfield 230) 3 57 := by decide +kernel
theorem d8_readConfig_57 : zj cX8_readConfig 57 (.ifCond .ne 24) 24 60 81 := by decide +kernel
theorem d8_readConfig_60 : zd cX8_readConfig 60 (.aload_n 2) 1 61 := by decide +kernel
theorem d8_readConfig_61 : zd cX8_readConfig 61 (.getfield 348) 3 64 := by decide +kernel
theorem d8_readConfig_64 : zd cX8_readConfig 64 (.aload_n 0) 1 65 := by decide +kernel
theorem d8_readConfig_65 : zd cX8_readConfig 65 (.iload_n 1) 1 66 := by decide +kernel
theorem d8_readConfig_66 : zd cX8_readConfig 66 (.invokevirtual 269) 3 69 := by decide +kernel
theorem d8_readConfig_69 : zd cX8_readConfig 69 (.invokevirtual 210) 3 72 := by decide +kernel
theorem d8_readConfig_72 : zj cX8_readConfig 72 (.ifCond .lt 9) 9 75 81 := by decide +kernel
theorem d8_readConfig_75 : zd cX8_readConfig 75 (.aload_n 3) 1 76 := by decide +kernel
theorem d8_readConfig_76 : zd cX8_readConfig 76 (.iconst 1) 1 77 := by decide +kernel
theorem d8_readConfig_77 : zd cX8_readConfig 77 (.putfield 286) 3 80 := by decide +kernel
theorem d8_readConfig_80 : zd cX8_readConfig 80 (.return_) 1 81 := by decide +kernel
theorem d8_readConfig_81 : zd cX8_readConfig 81 (.aload_n 3) 1 82 := by decide +kernel
theorem d8_readConfig_82 : zd cX8_readConfig 82 (.iconst 1) 1 83 := by decide +kernel
theorem d8_readConfig_83 : zd cX8_readConfig 83 (.putfield 230) 3 86 := by decide +kernel
theorem d8_readConfig_86 : zd cX8_readConfig 86 (.aload_n 3) 1 87 := by decide +kernel
theorem d8_readConfig_87 : zd cX8_readConfig 87 (.getfield 233) 3 90 := by decide +kernel
theorem d8_readConfig_90 : zd cX8_readConfig 90 (.aload_n 2) 1 91 := by decide +kernel
theorem d8_readConfig_91 : zd cX8_readConfig 91 (.getfield 348) 3 94 := by decide +kernel
theorem d8_readConfig_94 : zd cX8_readConfig 94 (.invokevirtual 186) 3 97 := by decide +kernel
theorem d8_readConfig_97 : zd cX8_readConfig 97 (.aload_n 3) 1 98 := by decide +kernel
theorem d8_readConfig_98 : zd cX8_readConfig 98 (.aload_n 2) 1 99 := by decide +kernel
theorem d8_readConfig_99 : zd cX8_readConfig 99 (.getfield 347) 3 102 := by decide +kernel
theorem d8_readConfig_102 : zd cX8_readConfig 102 (.putfield 247) 3 105 := by decide +kernel
theorem d8_readConfig_105 : zd cX8_readConfig 105 (.aload_n 3) 1 106 := by decide +kernel
theorem d8_readConfig_106 : zd cX8_readConfig 106 (.iconst 3) 1 107 := by decide +kernel
theorem d8_readConfig_107 : zd cX8_readConfig 107 (.putfield 338) 3 110 := by decide +kernel
theorem d8_readConfig_110 : zd cX8_readConfig 110 (.aload_n 0) 1 111 := by decide +kernel
theorem d8_readConfig_111 : zd cX8_readConfig 111 (.iload 4) 2 113 := by decide +kernel
theorem d8_readConfig_113 : zd cX8_readConfig 113 (.invokevirtual 198) 3 116 := by decide +kernel
theorem d8_readConfig_116 : zd cX8_readConfig 116 (.aload_n 3) 1 117 := by decide +kernel
theorem d8_readConfig_117 : zd cX8_readConfig 117 (.getfield 260) 3 120 := by decide +kernel
theorem d8_readConfig_120 : zd cX8_readConfig 120 (.iconst 2) 1 121 := by decide +kernel
theorem d8_readConfig_121 : zj cX8_readConfig 121 (.if_icmp .ne 4) 4 124 125 := by decide +kernel
theorem d8_readConfig_124 : zd cX8_readConfig 124 (.return_) 1 125 := by decide +kernel
theorem d8_readConfig_125 : zd cX8_readConfig 125 (.aload_n 2) 1 126 := by decide +kernel
theorem d8_readConfig_126 : zd cX8_readConfig 126 (.iconst 1) 1 127 := by decide +kernel
theorem d8_readConfig_127 : zd cX8_readConfig 127 (.invokevirtual 341) 3 130 := by decide +kernel
theorem d8_readConfig_130 : zj cX8_readConfig 130 (.ifCond .eq 8) 8 133 138 := by decide +kernel
theorem d8_readConfig_133 : zd cX8_readConfig 133 (.aload_n 0) 1 134 := by decide +kernel
theorem d8_readConfig_134 : zd cX8_readConfig 134 (.iload_n 1) 1 135 := by decide +kernel
theorem d8_readConfig_135 : zd cX8_readConfig 135 (.invokevirtual 351) 3 138 := by decide +kernel
theorem d8_readConfig_138 : zd cX8_readConfig 138 (.aload_n 3) 1 139 := by decide +kernel
theorem d8_readConfig_139 : zd cX8_readConfig 139 (.getfield 260) 3 142 := by decide +kernel
theorem d8_readConfig_142 : zd cX8_readConfig 142 (.iconst 1) 1 143 := by decide +kernel
theorem d8_readConfig_143 : zj cX8_readConfig 143 (.if_icmp .ne 9) 9 146 152 := by decide +kernel
theorem d8_readConfig_146 : zd cX8_readConfig 146 (.aload_n 0) 1 147 := by decide +kernel
theorem d8_readConfig_147 : zd cX8_readConfig 147 (.iload_n 1) 1 148 := by decide +kernel
theorem d8_readConfig_148 : zd cX8_readConfig 148 (.aload_n 2) 1 149 := by decide +kernel
theorem d8_readConfig_149 : zd cX8_readConfig 149 (.invokevirtual 354) 3 152 := by decide +kernel
theorem d8_readConfig_152 : zd cX8_readConfig 152 (.return_) 1 153 := by decide +kernel
set_option maxHeartbeats 4000000 in
set_option maxRecDepth 20000 in
theorem c8_readConfig (l : Launch) (D : zDt) (Sh : zSh) (top : Nat) (hO : zOK Sh) (o_ : Nat) (v_end : Int32) (v_message : Nat) (μ : zM) (μ_ : zM) (ho : (Sh o_).1 = 15) (h_message : (Sh v_message).1 = 10) (h : f8_readConfig o_ v_end v_message μ = some μ_) : zMet l D zK1 yX8_readConfig cX8_readConfig 5 none (zrm 4 95) [.ref o_, .int v_end, .ref v_message] Sh top μ none Sh top μ_ 0 0 := by
  refine zMet_of (by decide) (Nat.le_of_ble_eq_true rfl) fun X hX1 hX2 fx fin => ?_
  subst hX1; subst hX2
  replace fx : zFix X cX8_readConfig RX8 (zrm 4 95) 5 := fx
  show zZ zK1 X (zT0 Sh top) μ 0 [(0, .ref o_), (1, .int v_end), (2, .ref v_message)] []
  unfold f8_readConfig at h
  refine z_aload_n fx (k := 0) (i := 0) rfl rfl d8_readConfig_0 ?_
  refine z_getO fx 8 1 2 ho lf8_19 fk8_1 d8_readConfig_1 ?_
  refine z_iload_n fx (k := 1) (i := 1) rfl rfl d8_readConfig_4 ?_
  obtain ⟨j1, e1, h⟩ := zinv h
  refine z_aald fx 1 (by decide) (ok8_1 hO ho) e1 (v := .ref (o_ + 37 + 2 * j1)) rfl d8_readConfig_5 ?_
  refine z_astore_n fx (k := 3) (i := 3) rfl rfl (lv' := [(0, .ref o_), (1, .int v_end), (2, .ref v_message), (3, .ref (o_ + 37 + 2 * j1))]) rfl rfl d8_readConfig_6 ?_
  refine z_aload_n fx (k := 0) (i := 0) rfl rfl d8_readConfig_7 ?_
  obtain ⟨w2, e2, h⟩ := zinv h
  refine z_getR fx 8 12 812 17 ho lf8_62 ⟨fk8_12, rfl⟩ e2 d8_readConfig_8 (fun tw2 => ?_)
  refine z_getO fx 10 6 7 tw2 lf8_158 fk10_6 d8_readConfig_11 ?_
  refine z_iload_n fx (k := 1) (i := 1) rfl rfl d8_readConfig_14 ?_
  obtain ⟨t3, e3, h⟩ := zinv h
  refine z_iald fx (ok10_6 hO tw2) e3 d8_readConfig_15 ?_
  refine z_istore fx (i := 4) rfl (lv' := [(0, .ref o_), (1, .int v_end), (2, .ref v_message), (3, .ref (o_ + 37 + 2 * j1)), (4, .int t3)]) rfl rfl d8_readConfig_16 ?_
  refine z_aload_n fx (k := 2) (i := 2) rfl rfl d8_readConfig_18 ?_
  refine z_getI fx 3 4 304 h_message lf8_347 ⟨fk3_4, rfl⟩ d8_readConfig_19 ?_
  refine z_iconst fx (v := 1) ic1 d8_readConfig_22 ?_
  refine z_iadd fx d8_readConfig_23 ?_
  refine z_aload_n fx (k := 0) (i := 0) rfl rfl d8_readConfig_24 ?_
  obtain ⟨w4, e4, h⟩ := zinv h
  refine z_getR fx 8 12 812 17 ho lf8_62 ⟨fk8_12, rfl⟩ e4 d8_readConfig_25 (fun tw4 => ?_)
  refine z_getI fx 10 13 1013 tw4 lf8_296 ⟨fk10_13, rfl⟩ d8_readConfig_28 ?_
  refine z_icmp_le fx d8_readConfig_31 (fun c5 => ?_) (fun c5 => ?_)
  · replace h := zif_f c5 h
    obtain ⟨b5, μ6, e7, h⟩ := zinv2 h
    have kt6 : b5 = true → zZ zK1 X (zT0 Sh top) μ6 75 [(0, .ref o_), (1, .int v_end), (2, .ref v_message), (3, .ref (o_ + 37 + 2 * j1)), (4, .int t3)] [] := by
      intro hc
      replace h := zif_t hc h
      refine z_aload_n fx (k := 3) (i := 3) rfl rfl d8_readConfig_75 ?_
      refine z_iconst fx (v := 1) ic1 d8_readConfig_76 ?_
      refine z_top (show Value.int 1 = .int (bI true) from rfl) ?_
      obtain ⟨μ7, e8, h⟩ := zinv h
      refine z_putB fx (ci := 4) 14 (okA1 hO (ok8_1 hO ho) (rI_lt e1)) lf8_286 fp4_14 e8 d8_readConfig_77 ?_
      cases h
      exact z_return fx fin d8_readConfig_80
    have kf6 : b5 = false → zZ zK1 X (zT0 Sh top) μ6 81 [(0, .ref o_), (1, .int v_end), (2, .ref v_message), (3, .ref (o_ + 37 + 2 * j1)), (4, .int t3)] [] := by
      intro hc
      replace h := zif_f hc h
      refine z_aload_n fx (k := 3) (i := 3) rfl rfl d8_readConfig_81 ?_
      refine z_iconst fx (v := 1) ic1 d8_readConfig_82 ?_
      refine z_top (show Value.int 1 = .int (bI true) from rfl) ?_
      obtain ⟨μ8, e9, h⟩ := zinv h
      refine z_putB fx (ci := 4) 1 (okA1 hO (ok8_1 hO ho) (rI_lt e1)) lf8_230 fp4_1 e9 d8_readConfig_83 ?_
      refine z_aload_n fx (k := 3) (i := 3) rfl rfl d8_readConfig_86 ?_
      refine z_getO fx 4 0 1 (okA1 hO (ok8_1 hO ho) (rI_lt e1)) lf8_233 fk4_0 d8_readConfig_87 ?_
      refine z_aload_n fx (k := 2) (i := 2) rfl rfl d8_readConfig_90 ?_
      refine z_getO fx 3 0 1 h_message lf8_348 fk3_0 d8_readConfig_91 ?_
      obtain ⟨μ9, e10, h⟩ := zinv h
      refine z_cVv fx (c9_copyFrom (zLo X) (zDo X) Sh top hO ((o_ + 37 + 2 * j1) + 1) (v_message + 1) μ8 _ (ok4_0 hO (okA1 hO (ok8_1 hO ho) (rI_lt e1))) (ok3_0 hO h_message) e10) mv9_copyFrom ml8_186 (ok4_0 hO (okA1 hO (ok8_1 hO ho) (rI_lt e1))) rfl rfl rfl rfl d8_readConfig_94 ?_
      refine z_aload_n fx (k := 3) (i := 3) rfl rfl d8_readConfig_97 ?_
      refine z_aload_n fx (k := 2) (i := 2) rfl rfl d8_readConfig_98 ?_
      refine z_getI fx 3 4 304 h_message lf8_347 ⟨fk3_4, rfl⟩ d8_readConfig_99 ?_
      obtain ⟨μ10, e11, h⟩ := zinv h
      refine z_putI fx (ci := 4) 2 (okA1 hO (ok8_1 hO ho) (rI_lt e1)) lf8_247 fp4_2 e11 d8_readConfig_102 ?_
      refine z_aload_n fx (k := 3) (i := 3) rfl rfl d8_readConfig_105 ?_
      refine z_iconst fx (v := 3) ic3 d8_readConfig_106 ?_
      obtain ⟨μ11, e12, h⟩ := zinv h
      refine z_putI fx (ci := 4) 3 (okA1 hO (ok8_1 hO ho) (rI_lt e1)) lf8_338 fp4_3 e12 d8_readConfig_107 ?_
      refine z_aload_n fx (k := 0) (i := 0) rfl rfl d8_readConfig_110 ?_
      refine z_iload fx (i := 4) rfl d8_readConfig_111 ?_
      obtain ⟨μ12, e13, h⟩ := zinv h
      refine z_cVv fx (c8_choose (zLo X) (zDo X) Sh top hO o_ t3 μ11 _ ho e13) mv8_choose ml8_198 ho rfl rfl rfl rfl d8_readConfig_113 ?_
      refine z_aload_n fx (k := 3) (i := 3) rfl rfl d8_readConfig_116 ?_
      refine z_getI fx 4 4 404 (okA1 hO (ok8_1 hO ho) (rI_lt e1)) lf8_260 ⟨fk4_4, rfl⟩ d8_readConfig_117 ?_
      refine z_iconst fx (v := 2) ic2 d8_readConfig_120 ?_
      refine z_icmp_ne fx d8_readConfig_121 (fun c14 => ?_) (fun c14 => ?_)
      · replace h := zif_f c14 h
        obtain ⟨μ13, e15, h⟩ := zinv h
        have k16 : zZ zK1 X (zT0 Sh top) μ13 138 [(0, .ref o_), (1, .int v_end), (2, .ref v_message), (3, .ref (o_ + 37 + 2 * j1)), (4, .int t3)] [] := by
          refine z_aload_n fx (k := 3) (i := 3) rfl rfl d8_readConfig_138 ?_
          refine z_getI fx 4 4 404 (okA1 hO (ok8_1 hO ho) (rI_lt e1)) lf8_260 ⟨fk4_4, rfl⟩ d8_readConfig_139 ?_
          refine z_iconst fx (v := 1) ic1 d8_readConfig_142 ?_
          refine z_icmp_ne fx d8_readConfig_143 (fun c17 => ?_) (fun c17 => ?_)
          · replace h := zif_f c17 h
            cases h
            exact z_return fx fin d8_readConfig_152
          · replace h := zif_t c17 h
            refine z_aload_n fx (k := 0) (i := 0) rfl rfl d8_readConfig_146 ?_
            refine z_iload_n fx (k := 1) (i := 1) rfl rfl d8_readConfig_147 ?_
            refine z_aload_n fx (k := 2) (i := 2) rfl rfl d8_readConfig_148 ?_
            obtain ⟨μ14, e18, h⟩ := zinv h
            refine z_cVv fx (c8_followRoot (zLo X) (zDo X) Sh top hO o_ v_end v_message μ13 _ ho h_message e18) mv8_followRoot ml8_354 ho rfl rfl rfl rfl d8_readConfig_149 ?_
            cases h
            exact z_return fx fin d8_readConfig_152
        clear h
        refine z_aload_n fx (k := 2) (i := 2) rfl rfl d8_readConfig_125 ?_
        refine z_iconst fx (v := 1) ic1 d8_readConfig_126 ?_
        obtain ⟨t15, e19, e15⟩ := zinv e15
        refine z_cVr fx (c3_carries (zLo X) (zDo X) Sh top hO v_message 1 μ12 _ h_message e19) mv3_carries ml8_341 h_message rfl rfl rfl rfl d8_readConfig_127 ?_
        refine z_ifb_eq fx d8_readConfig_130 (fun c20 => ?_) (fun c20 => ?_)
        · replace e15 := zif_f c20 e15
          cases e15
          exact k16
        · replace e15 := zif_t c20 e15
          refine z_aload_n fx (k := 0) (i := 0) rfl rfl d8_readConfig_133 ?_
          refine z_iload_n fx (k := 1) (i := 1) rfl rfl d8_readConfig_134 ?_
          obtain ⟨μ16, e21, e15⟩ := zinv e15
          refine z_cVv fx (c8_takeProposal (zLo X) (zDo X) Sh top hO o_ v_end μ12 _ ho e21) mv8_takeProposal ml8_351 ho rfl rfl rfl rfl d8_readConfig_135 ?_
          cases e15
          exact k16
      · replace h := zif_t c14 h
        cases h
        exact z_return fx fin d8_readConfig_124
    clear h
    refine z_aload_n fx (k := 3) (i := 3) rfl rfl d8_readConfig_53 ?_
    refine z_getB fx 4 1 401 (okA1 hO (ok8_1 hO ho) (rI_lt e1)) lf8_230 ⟨fk4_1, rfl⟩ d8_readConfig_54 ?_
    refine z_ifb_ne fx d8_readConfig_57 (fun c22 => ?_) (fun c22 => ?_)
    · replace e7 := zif_t c22 e7
      cases e7
      exact kf6 rfl
    · replace e7 := zif_f c22 e7
      refine z_aload_n fx (k := 2) (i := 2) rfl rfl d8_readConfig_60 ?_
      refine z_getO fx 3 0 1 h_message lf8_348 fk3_0 d8_readConfig_61 ?_
      refine z_aload_n fx (k := 0) (i := 0) rfl rfl d8_readConfig_64 ?_
      refine z_iload_n fx (k := 1) (i := 1) rfl rfl d8_readConfig_65 ?_
      obtain ⟨t17, μ18, e23, e7⟩ := zinv2 e7
      have tt17 : (Sh t17).1 = 16 := (c8_oursAt (zLo X) (zDo X) Sh top hO o_ v_end μ _ _ ho e23).2
      refine z_cVr fx ((c8_oursAt (zLo X) (zDo X) Sh top hO o_ v_end μ _ _ ho e23).1) mv8_oursAt ml8_269 ho rfl rfl rfl rfl d8_readConfig_66 ?_
      obtain ⟨t19, e24, e7⟩ := zinv e7
      refine z_cVr fx (c9_against (zLo X) (zDo X) Sh top hO (v_message + 1) t17 μ18 _ (ok3_0 hO h_message) tt17 e24) mv9_against ml8_210 (ok3_0 hO h_message) rfl rfl rfl rfl d8_readConfig_69 ?_
      cases e7
      refine z_if_lt fx d8_readConfig_72 (fun c25 => ?_) (fun c25 => ?_)
      · exact kf6 (by rw [c25]; rfl)
      · exact kt6 (by rw [c25]; rfl)
  · replace h := zif_t c5 h
    obtain ⟨μ20, e26, h⟩ := zinv h
    have k27 : zZ zK1 X (zT0 Sh top) μ20 52 [(0, .ref o_), (1, .int v_end), (2, .ref v_message), (3, .ref (o_ + 37 + 2 * j1)), (4, .int t3)] [] := by
      cases h
      exact z_return fx fin d8_readConfig_52
    clear h
    refine z_aload_n fx (k := 3) (i := 3) rfl rfl d8_readConfig_34 ?_
    refine z_getB fx 4 1 401 (okA1 hO (ok8_1 hO ho) (rI_lt e1)) lf8_230 ⟨fk4_1, rfl⟩ d8_readConfig_35 ?_
    refine z_ifb_eq fx d8_readConfig_38 (fun c28 => ?_) (fun c28 => ?_)
    · replace e26 := zif_f c28 e26
      cases e26
      exact k27
    · replace e26 := zif_t c28 e26
      refine z_aload_n fx (k := 3) (i := 3) rfl rfl d8_readConfig_41 ?_
      refine z_iconst fx (v := 0) ic0 d8_readConfig_42 ?_
      refine z_top (show Value.int 0 = .int (bI false) from rfl) ?_
      obtain ⟨μ21, e29, e26⟩ := zinv e26
      refine z_putB fx (ci := 4) 1 (okA1 hO (ok8_1 hO ho) (rI_lt e1)) lf8_230 fp4_1 e29 d8_readConfig_43 ?_
      refine z_aload_n fx (k := 0) (i := 0) rfl rfl d8_readConfig_46 ?_
      refine z_iload fx (i := 4) rfl d8_readConfig_47 ?_
      obtain ⟨μ22, e30, e26⟩ := zinv e26
      refine z_cVv fx (c8_choose (zLo X) (zDo X) Sh top hO o_ t3 μ21 _ ho e30) mv8_choose ml8_198 ho rfl rfl rfl rfl d8_readConfig_49 ?_
      cases e26
      exact k27
theorem d8_configBits_0 : zd cX8_configBits 0 (.iload_n 1) 1 1 := by decide +kernel
theorem d8_configBits_1 : zj cX8_configBits 1 (.ifCond .eq 8) 8 4 9 := by decide +kernel
theorem d8_configBits_4 : zd cX8_configBits 4 (.bipush 16) 2 6 := by decide +kernel
theorem d8_configBits_6 : zj cX8_configBits 6 (.goto 4) 4 9 10 := by decide +kernel
theorem d8_configBits_9 : zd cX8_configBits 9 (.iconst 0) 1 10 := by decide +kernel
theorem d8_configBits_10 : zd cX8_configBits 10 (.istore_n 2) 1 11 := by decide +kernel
theorem d8_configBits_11 : zd cX8_configBits 11 (.iload_n 1) 1 12 := by decide +kernel
theorem d8_configBits_12 : zj cX8_configBits 12 (.ifCond .ne 15) 15 15 27 := by decide +kernel
theorem d8_configBits_15 : zd cX8_configBits 15 (.aload_n 0) 1 16 := by decide +kernel
theorem d8_configBits_16 : zd cX8_configBits 16 (.getfield 165) 3 19 := by decide +kernel
theorem d8_configBits_19 : zd cX8_configBits 19 (.iconst 2) 1 20 := by decide +kernel
theorem d8_configBits_20 : zj cX8_configBits 20 (.if_icmp .eq 7) 7 23 27 := by decide +kernel
theorem d8_configBits_23 : zd cX8_configBits 23 (.iload_n 2) 1 24 := by decide +kernel
theorem d8_configBits_24 : zd cX8_configBits 24 (.iconst 1) 1 25 := by decide +kernel
theorem d8_configBits_25 : zd cX8_configBits 25 (.ior) 1 26 := by decide +kernel
theorem d8_configBits_26 : zd cX8_configBits 26 (.istore_n 2) 1 27 := by decide +kernel
theorem d8_configBits_27 : zd cX8_configBits 27 (.aload_n 0) 1 28 := by decide +kernel
theorem d8_configBits_28 : zd cX8_configBits 28 (.getfield 283) 3 31 := by decide +kernel
theorem d8_configBits_31 : zj cX8_configBits 31 (.ifCond .eq 7) 7 34 38 := by decide +kernel
theorem d8_configBits_34 : zd cX8_configBits 34 (.iload_n 2) 1 35 := by decide +kernel
theorem d8_configBits_35 : zd cX8_configBits 35 (.iconst 4) 1 36 := by decide +kernel
theorem d8_configBits_36 : zd cX8_configBits 36 (.ior) 1 37 := by decide +kernel
theorem d8_configBits_37 : zd cX8_configBits 37 (.istore_n 2) 1 38 := by decide +kernel
theorem d8_configBits_38 : zd cX8_configBits 38 (.aload_n 0) 1 39 := by decide +kernel
theorem d8_configBits_39 : zd cX8_configBits 39 (.getfield 363) 3 42 := by decide +kernel
theorem d8_configBits_42 : zj cX8_configBits 42 (.ifCond .eq 8) 8 45 50 := by decide +kernel
theorem d8_configBits_45 : zd cX8_configBits 45 (.iload_n 2) 1 46 := by decide +kernel
theorem d8_configBits_46 : zd cX8_configBits 46 (.bipush 8) 2 48 := by decide +kernel
theorem d8_configBits_48 : zd cX8_configBits 48 (.ior) 1 49 := by decide +kernel
theorem d8_configBits_49 : zd cX8_configBits 49 (.istore_n 2) 1 50 := by decide +kernel
theorem d8_configBits_50 : zd cX8_configBits 50 (.aload_n 0) 1 51 := by decide +kernel
theorem d8_configBits_51 : zd cX8_configBits 51 (.iconst 0) 1 52 := by decide +kernel
theorem d8_configBits_52 : zd cX8_configBits 52 (.putfield 363) 3 55 := by decide +kernel
theorem d8_configBits_55 : zd cX8_configBits 55 (.iload_n 2) 1 56 := by decide +kernel
theorem d8_configBits_56 : zd cX8_configBits 56 (.ireturn) 1 57 := by decide +kernel
set_option maxHeartbeats 4000000 in
set_option maxRecDepth 20000 in
theorem c8_configBits (l : Launch) (D : zDt) (Sh : zSh) (top : Nat) (hO : zOK Sh) (v_port : Nat) (v_old : Bool) (μ : zM) (r_ : Int32) (μ_ : zM) (h_port : (Sh v_port).1 = 11) (h : f8_configBits v_port v_old μ = some (r_, μ_)) : zMet l D zK1 yX8_configBits cX8_configBits 3 (some .int) (zrm 0 0) [.ref v_port, .int (bI v_old)] Sh top μ (some (.int r_)) Sh top μ_ 0 0 := by
  refine zMet_of (by decide) (Nat.le_of_ble_eq_true rfl) fun X hX1 hX2 fx fin => ?_
  subst hX1; subst hX2
  replace fx : zFix X cX8_configBits RX8 (zrm 0 0) 3 := fx
  show zZ zK1 X (zT0 Sh top) μ 0 [(0, .ref v_port), (1, .int (bI v_old))] []
  unfold f8_configBits at h
  obtain ⟨x1, e1, h⟩ := zinv h
  have k2 : zZ zK1 X (zT0 Sh top) μ 10 [(0, .ref v_port), (1, .int (bI v_old))] [.int x1] := by
    refine z_istore_n fx (k := 2) (i := 2) rfl rfl (lv' := [(0, .ref v_port), (1, .int (bI v_old)), (2, .int x1)]) rfl rfl d8_configBits_10 ?_
    obtain ⟨v_bits_2, e4, h⟩ := zinv h
    have k5 : zZ zK1 X (zT0 Sh top) μ 27 [(0, .ref v_port), (1, .int (bI v_old)), (2, .int v_bits_2)] [] := by
      obtain ⟨v_bits_3, e6, h⟩ := zinv h
      have k7 : zZ zK1 X (zT0 Sh top) μ 38 [(0, .ref v_port), (1, .int (bI v_old)), (2, .int v_bits_3)] [] := by
        obtain ⟨v_bits_4, e8, h⟩ := zinv h
        have k9 : zZ zK1 X (zT0 Sh top) μ 50 [(0, .ref v_port), (1, .int (bI v_old)), (2, .int v_bits_4)] [] := by
          refine z_aload_n fx (k := 0) (i := 0) rfl rfl d8_configBits_50 ?_
          refine z_iconst fx (v := 0) ic0 d8_configBits_51 ?_
          refine z_top (show Value.int 0 = .int (bI false) from rfl) ?_
          obtain ⟨μ5, e10, h⟩ := zinv h
          refine z_putB fx (ci := 4) 13 h_port lf8_363 fp4_13 e10 d8_configBits_52 ?_
          refine z_iload_n fx (k := 2) (i := 2) rfl rfl d8_configBits_55 ?_
          cases h
          exact z_ireturn fx fin d8_configBits_56
        clear h
        refine z_aload_n fx (k := 0) (i := 0) rfl rfl d8_configBits_38 ?_
        refine z_getB fx 4 13 413 h_port lf8_363 ⟨fk4_13, rfl⟩ d8_configBits_39 ?_
        refine z_ifb_eq fx d8_configBits_42 (fun c11 => ?_) (fun c11 => ?_)
        · replace e8 := zif_f c11 e8
          cases e8
          exact k9
        · replace e8 := zif_t c11 e8
          refine z_iload_n fx (k := 2) (i := 2) rfl rfl d8_configBits_45 ?_
          refine z_bipush fx (v := 8) bp8 d8_configBits_46 ?_
          refine z_ior fx d8_configBits_48 ?_
          obtain ⟨v_bits_6, e12, e8⟩ := zinv e8
          replace e12 := Option.some.inj e12
          refine z_top (congrArg Value.int e12) ?_
          refine z_istore_n fx (k := 2) (i := 2) rfl rfl (lv' := [(0, .ref v_port), (1, .int (bI v_old)), (2, .int v_bits_6)]) rfl rfl d8_configBits_49 ?_
          cases e8
          exact k9
      clear h
      refine z_aload_n fx (k := 0) (i := 0) rfl rfl d8_configBits_27 ?_
      refine z_getI fx 4 8 408 h_port lf8_283 ⟨fk4_8, rfl⟩ d8_configBits_28 ?_
      refine z_if_eq fx d8_configBits_31 (fun c13 => ?_) (fun c13 => ?_)
      · replace e6 := zif_t c13 e6
        cases e6
        exact k7
      · replace e6 := zif_f c13 e6
        refine z_iload_n fx (k := 2) (i := 2) rfl rfl d8_configBits_34 ?_
        refine z_iconst fx (v := 4) ic4 d8_configBits_35 ?_
        refine z_ior fx d8_configBits_36 ?_
        obtain ⟨v_bits_7, e14, e6⟩ := zinv e6
        replace e14 := Option.some.inj e14
        refine z_top (congrArg Value.int e14) ?_
        refine z_istore_n fx (k := 2) (i := 2) rfl rfl (lv' := [(0, .ref v_port), (1, .int (bI v_old)), (2, .int v_bits_7)]) rfl rfl d8_configBits_37 ?_
        cases e6
        exact k7
    clear h
    have kt15 : ((!v_old) && (!(ceq (gF μ 406 v_port) 2))) = true → zZ zK1 X (zT0 Sh top) μ 23 [(0, .ref v_port), (1, .int (bI v_old)), (2, .int x1)] [] := by
      intro hc
      replace e4 := zif_t hc e4
      refine z_iload_n fx (k := 2) (i := 2) rfl rfl d8_configBits_23 ?_
      refine z_iconst fx (v := 1) ic1 d8_configBits_24 ?_
      refine z_ior fx d8_configBits_25 ?_
      obtain ⟨v_bits_8, e16, e4⟩ := zinv e4
      replace e16 := Option.some.inj e16
      refine z_top (congrArg Value.int e16) ?_
      refine z_istore_n fx (k := 2) (i := 2) rfl rfl (lv' := [(0, .ref v_port), (1, .int (bI v_old)), (2, .int v_bits_8)]) rfl rfl d8_configBits_26 ?_
      cases e4
      exact k5
    have kf15 : ((!v_old) && (!(ceq (gF μ 406 v_port) 2))) = false → zZ zK1 X (zT0 Sh top) μ 27 [(0, .ref v_port), (1, .int (bI v_old)), (2, .int x1)] [] := by
      intro hc
      replace e4 := zif_f hc e4
      cases e4
      exact k5
    clear e4
    refine z_iload_n fx (k := 1) (i := 1) rfl rfl d8_configBits_11 ?_
    refine z_ifb_ne fx d8_configBits_12 (fun c17 => ?_) (fun c17 => ?_)
    · exact kf15 (by simp [c17])
    · refine z_aload_n fx (k := 0) (i := 0) rfl rfl d8_configBits_15 ?_
      refine z_getI fx 4 6 406 h_port lf8_165 ⟨fk4_6, rfl⟩ d8_configBits_16 ?_
      refine z_iconst fx (v := 2) ic2 d8_configBits_19 ?_
      refine z_icmp_eq fx d8_configBits_20 (fun c18 => ?_) (fun c18 => ?_)
      · exact kf15 (by simp [c17, c18])
      · exact kt15 (by simp [c17, c18])
  refine z_iload_n fx (k := 1) (i := 1) rfl rfl d8_configBits_0 ?_
  refine z_ifb_eq fx d8_configBits_1 (fun c3 => ?_) (fun c3 => ?_)
  · replace e1 := zif_f c3 e1
    refine z_iconst fx (v := 0) ic0 d8_configBits_9 ?_
    cases e1
    exact k2
  · replace e1 := zif_t c3 e1
    refine z_bipush fx (v := 16) bp16 d8_configBits_4 ?_
    cases e1
    refine z_goto fx d8_configBits_6 ?_
    exact k2
theorem d8_replyBits_0 : zd cX8_replyBits 0 (.iload_n 1) 1 1 := by decide +kernel
theorem d8_replyBits_1 : zj cX8_replyBits 1 (.ifCond .eq 8) 8 4 9 := by decide +kernel
theorem d8_replyBits_4 : zd cX8_replyBits 4 (.bipush 16) 2 6 := by decide +kernel
theorem d8_replyBits_6 : zj cX8_replyBits 6 (.goto 4) 4 9 10 := by decide +kernel
theorem d8_replyBits_9 : zd cX8_replyBits 9 (.iconst 0) 1 10 := by decide +kernel
theorem d8_replyBits_10 : zd cX8_replyBits 10 (.istore_n 2) 1 11 := by decide +kernel
theorem d8_replyBits_11 : zd cX8_replyBits 11 (.iload_n 1) 1 12 := by decide +kernel
theorem d8_replyBits_12 : zj cX8_replyBits 12 (.ifCond .ne 14) 14 15 26 := by decide +kernel
theorem d8_replyBits_15 : zd cX8_replyBits 15 (.aload_n 0) 1 16 := by decide +kernel
theorem d8_replyBits_16 : zd cX8_replyBits 16 (.getfield 360) 3 19 := by decide +kernel
theorem d8_replyBits_19 : zj cX8_replyBits 19 (.ifCond .eq 7) 7 22 26 := by decide +kernel
theorem d8_replyBits_22 : zd cX8_replyBits 22 (.iload_n 2) 1 23 := by decide +kernel
theorem d8_replyBits_23 : zd cX8_replyBits 23 (.iconst 2) 1 24 := by decide +kernel
theorem d8_replyBits_24 : zd cX8_replyBits 24 (.ior) 1 25 := by decide +kernel
theorem d8_replyBits_25 : zd cX8_replyBits 25 (.istore_n 2) 1 26 := by decide +kernel
theorem d8_replyBits_26 : zd cX8_replyBits 26 (.aload_n 0) 1 27 := by decide +kernel
theorem d8_replyBits_27 : zd cX8_replyBits 27 (.getfield 283) 3 30 := by decide +kernel
theorem d8_replyBits_30 : zj cX8_replyBits 30 (.ifCond .eq 7) 7 33 37 := by decide +kernel
theorem d8_replyBits_33 : zd cX8_replyBits 33 (.iload_n 2) 1 34 := by decide +kernel
theorem d8_replyBits_34 : zd cX8_replyBits 34 (.iconst 4) 1 35 := by decide +kernel
theorem d8_replyBits_35 : zd cX8_replyBits 35 (.ior) 1 36 := by decide +kernel
theorem d8_replyBits_36 : zd cX8_replyBits 36 (.istore_n 2) 1 37 := by decide +kernel
theorem d8_replyBits_37 : zd cX8_replyBits 37 (.aload_n 0) 1 38 := by decide +kernel
theorem d8_replyBits_38 : zd cX8_replyBits 38 (.iconst 0) 1 39 := by decide +kernel
theorem d8_replyBits_39 : zd cX8_replyBits 39 (.putfield 360) 3 42 := by decide +kernel
theorem d8_replyBits_42 : zd cX8_replyBits 42 (.iload_n 2) 1 43 := by decide +kernel
theorem d8_replyBits_43 : zd cX8_replyBits 43 (.ireturn) 1 44 := by decide +kernel
set_option maxHeartbeats 4000000 in
set_option maxRecDepth 20000 in
theorem c8_replyBits (l : Launch) (D : zDt) (Sh : zSh) (top : Nat) (hO : zOK Sh) (v_port : Nat) (v_old : Bool) (μ : zM) (r_ : Int32) (μ_ : zM) (h_port : (Sh v_port).1 = 11) (h : f8_replyBits v_port v_old μ = some (r_, μ_)) : zMet l D zK1 yX8_replyBits cX8_replyBits 3 (some .int) (zrm 0 0) [.ref v_port, .int (bI v_old)] Sh top μ (some (.int r_)) Sh top μ_ 0 0 := by
  refine zMet_of (by decide) (Nat.le_of_ble_eq_true rfl) fun X hX1 hX2 fx fin => ?_
  subst hX1; subst hX2
  replace fx : zFix X cX8_replyBits RX8 (zrm 0 0) 3 := fx
  show zZ zK1 X (zT0 Sh top) μ 0 [(0, .ref v_port), (1, .int (bI v_old))] []
  unfold f8_replyBits at h
  obtain ⟨x1, e1, h⟩ := zinv h
  have k2 : zZ zK1 X (zT0 Sh top) μ 10 [(0, .ref v_port), (1, .int (bI v_old))] [.int x1] := by
    refine z_istore_n fx (k := 2) (i := 2) rfl rfl (lv' := [(0, .ref v_port), (1, .int (bI v_old)), (2, .int x1)]) rfl rfl d8_replyBits_10 ?_
    obtain ⟨v_bits_2, e4, h⟩ := zinv h
    have k5 : zZ zK1 X (zT0 Sh top) μ 26 [(0, .ref v_port), (1, .int (bI v_old)), (2, .int v_bits_2)] [] := by
      obtain ⟨v_bits_3, e6, h⟩ := zinv h
      have k7 : zZ zK1 X (zT0 Sh top) μ 37 [(0, .ref v_port), (1, .int (bI v_old)), (2, .int v_bits_3)] [] := by
        refine z_aload_n fx (k := 0) (i := 0) rfl rfl d8_replyBits_37 ?_
        refine z_iconst fx (v := 0) ic0 d8_replyBits_38 ?_
        refine z_top (show Value.int 0 = .int (bI false) from rfl) ?_
        obtain ⟨μ4, e8, h⟩ := zinv h
        refine z_putB fx (ci := 4) 12 h_port lf8_360 fp4_12 e8 d8_replyBits_39 ?_
        refine z_iload_n fx (k := 2) (i := 2) rfl rfl d8_replyBits_42 ?_
        cases h
        exact z_ireturn fx fin d8_replyBits_43
      clear h
      refine z_aload_n fx (k := 0) (i := 0) rfl rfl d8_replyBits_26 ?_
      refine z_getI fx 4 8 408 h_port lf8_283 ⟨fk4_8, rfl⟩ d8_replyBits_27 ?_
      refine z_if_eq fx d8_replyBits_30 (fun c9 => ?_) (fun c9 => ?_)
      · replace e6 := zif_t c9 e6
        cases e6
        exact k7
      · replace e6 := zif_f c9 e6
        refine z_iload_n fx (k := 2) (i := 2) rfl rfl d8_replyBits_33 ?_
        refine z_iconst fx (v := 4) ic4 d8_replyBits_34 ?_
        refine z_ior fx d8_replyBits_35 ?_
        obtain ⟨v_bits_5, e10, e6⟩ := zinv e6
        replace e10 := Option.some.inj e10
        refine z_top (congrArg Value.int e10) ?_
        refine z_istore_n fx (k := 2) (i := 2) rfl rfl (lv' := [(0, .ref v_port), (1, .int (bI v_old)), (2, .int v_bits_5)]) rfl rfl d8_replyBits_36 ?_
        cases e6
        exact k7
    clear h
    have kt11 : ((!v_old) && (gB μ 412 v_port)) = true → zZ zK1 X (zT0 Sh top) μ 22 [(0, .ref v_port), (1, .int (bI v_old)), (2, .int x1)] [] := by
      intro hc
      replace e4 := zif_t hc e4
      refine z_iload_n fx (k := 2) (i := 2) rfl rfl d8_replyBits_22 ?_
      refine z_iconst fx (v := 2) ic2 d8_replyBits_23 ?_
      refine z_ior fx d8_replyBits_24 ?_
      obtain ⟨v_bits_6, e12, e4⟩ := zinv e4
      replace e12 := Option.some.inj e12
      refine z_top (congrArg Value.int e12) ?_
      refine z_istore_n fx (k := 2) (i := 2) rfl rfl (lv' := [(0, .ref v_port), (1, .int (bI v_old)), (2, .int v_bits_6)]) rfl rfl d8_replyBits_25 ?_
      cases e4
      exact k5
    have kf11 : ((!v_old) && (gB μ 412 v_port)) = false → zZ zK1 X (zT0 Sh top) μ 26 [(0, .ref v_port), (1, .int (bI v_old)), (2, .int x1)] [] := by
      intro hc
      replace e4 := zif_f hc e4
      cases e4
      exact k5
    clear e4
    refine z_iload_n fx (k := 1) (i := 1) rfl rfl d8_replyBits_11 ?_
    refine z_ifb_ne fx d8_replyBits_12 (fun c13 => ?_) (fun c13 => ?_)
    · exact kf11 (by simp [c13])
    · refine z_aload_n fx (k := 0) (i := 0) rfl rfl d8_replyBits_15 ?_
      refine z_getB fx 4 12 412 h_port lf8_360 ⟨fk4_12, rfl⟩ d8_replyBits_16 ?_
      refine z_ifb_eq fx d8_replyBits_19 (fun c14 => ?_) (fun c14 => ?_)
      · exact kf11 (by simp [c13, c14])
      · exact kt11 (by simp [c13, c14])
  refine z_iload_n fx (k := 1) (i := 1) rfl rfl d8_replyBits_0 ?_
  refine z_ifb_eq fx d8_replyBits_1 (fun c3 => ?_) (fun c3 => ?_)
  · replace e1 := zif_f c3 e1
    refine z_iconst fx (v := 0) ic0 d8_replyBits_9 ?_
    cases e1
    exact k2
  · replace e1 := zif_t c3 e1
    refine z_bipush fx (v := 16) bp16 d8_replyBits_4 ?_
    cases e1
    refine z_goto fx d8_replyBits_6 ?_
    exact k2
theorem d8_speak_0 : zd cX8_speak 0 (.aload_n 0) 1 1 := by decide +kernel
theorem d8_speak_1 : zd cX8_speak 1 (.getfield 19) 3 4 := by decide +kernel
theorem d8_speak_4 : zd cX8_speak 4 (.iload_n 1) 1 5 := by decide +kernel
theorem d8_speak_5 : zd cX8_speak 5 (.aaload) 1 6 := by decide +kernel
theorem d8_speak_6 : zd cX8_speak 6 (.astore_n 2) 1 7 := by decide +kernel
theorem d8_speak_7 : zd cX8_speak 7 (.aload_n 2) 1 8 := by decide +kernel
theorem d8_speak_8 : zd cX8_speak 8 (.getfield 286) 3 11 := by decide +kernel
theorem d8_speak_11 : zj cX8_speak 11 (.ifCond .ne 4) 4 14 15 := by decide +kernel
theorem d8_speak_14 : zd cX8_speak 14 (.return_) 1 15 := by decide +kernel
theorem d8_speak_15 : zd cX8_speak 15 (.aload_n 2) 1 16 := by decide +kernel
theorem d8_speak_16 : zd cX8_speak 16 (.iconst 0) 1 17 := by decide +kernel
theorem d8_speak_17 : zd cX8_speak 17 (.putfield 286) 3 20 := by decide +kernel
theorem d8_speak_20 : zd cX8_speak 20 (.aload_n 2) 1 21 := by decide +kernel
theorem d8_speak_21 : zd cX8_speak 21 (.getfield 344) 3 24 := by decide +kernel
theorem d8_speak_24 : zj cX8_speak 24 (.ifCond .ne 23) 23 27 47 := by decide +kernel
theorem d8_speak_27 : zd cX8_speak 27 (.aload_n 0) 1 28 := by decide +kernel
theorem d8_speak_28 : zd cX8_speak 28 (.getfield 11) 3 31 := by decide +kernel
theorem d8_speak_31 : zd cX8_speak 31 (.aload_n 0) 1 32 := by decide +kernel
theorem d8_speak_32 : zd cX8_speak 32 (.getfield 62) 3 35 := by decide +kernel
theorem d8_speak_35 : zd cX8_speak 35 (.getfield 158) 3 38 := by decide +kernel
theorem d8_speak_38 : zd cX8_speak 38 (.iload_n 1) 1 39 := by decide +kernel
theorem d8_speak_39 : zd cX8_speak 39 (.iaload) 1 40 := by decide +kernel
theorem d8_speak_40 : zd cX8_speak 40 (.aaload) 1 41 := by decide +kernel
theorem d8_speak_41 : zd cX8_speak 41 (.getfield 117) 3 44 := by decide +kernel
theorem d8_speak_44 : zj cX8_speak 44 (.ifCond .eq 7) 7 47 51 := by decide +kernel
theorem d8_speak_47 : zd cX8_speak 47 (.iconst 1) 1 48 := by decide +kernel
theorem d8_speak_48 : zj cX8_speak 48 (.goto 4) 4 51 52 := by decide +kernel
theorem d8_speak_51 : zd cX8_speak 51 (.iconst 0) 1 52 := by decide +kernel
theorem d8_speak_52 : zd cX8_speak 52 (.istore_n 3) 1 53 := by decide +kernel
theorem d8_speak_53 : zd cX8_speak 53 (.aload_n 2) 1 54 := by decide +kernel
theorem d8_speak_54 : zd cX8_speak 54 (.getfield 260) 3 57 := by decide +kernel
theorem d8_speak_57 : zd cX8_speak 57 (.iconst 2) 1 58 := by decide +kernel
theorem d8_speak_58 : zj cX8_speak 58 (.if_icmp .ne 7) 7 61 65 := by decide +kernel
theorem d8_speak_61 : zd cX8_speak 61 (.iconst 1) 1 62 := by decide +kernel
theorem d8_speak_62 : zj cX8_speak 62 (.goto 4) 4 65 66 := by decide +kernel
theorem d8_speak_65 : zd cX8_speak 65 (.iconst 0) 1 66 := by decide +kernel
theorem d8_speak_66 : zd cX8_speak 66 (.istore 4) 2 68 := by decide +kernel
theorem d8_speak_68 : zd cX8_speak 68 (.iload 4) 2 70 := by decide +kernel
theorem d8_speak_70 : zj cX8_speak 70 (.ifCond .eq 11) 11 73 81 := by decide +kernel
theorem d8_speak_73 : zd cX8_speak 73 (.aload_n 2) 1 74 := by decide +kernel
theorem d8_speak_74 : zd cX8_speak 74 (.iload_n 3) 1 75 := by decide +kernel
theorem d8_speak_75 : zd cX8_speak 75 (.invokestatic 366) 3 78 := by decide +kernel
theorem d8_speak_78 : zj cX8_speak 78 (.goto 8) 8 81 86 := by decide +kernel
theorem d8_speak_81 : zd cX8_speak 81 (.aload_n 2) 1 82 := by decide +kernel
theorem d8_speak_82 : zd cX8_speak 82 (.iload_n 3) 1 83 := by decide +kernel
theorem d8_speak_83 : zd cX8_speak 83 (.invokestatic 370) 3 86 := by decide +kernel
theorem d8_speak_86 : zd cX8_speak 86 (.istore 5) 2 88 := by decide +kernel
theorem d8_speak_88 : zd cX8_speak 88 (.iload 4) 2 90 := by decide +kernel
theorem d8_speak_90 : zj cX8_speak 90 (.ifCond .ne 12) 12 93 102 := by decide +kernel
theorem d8_speak_93 : zd cX8_speak 93 (.iload 5) 2 95 := by decide +kernel
theorem d8_speak_95 : zd cX8_speak 95 (.bipush 6) 2 97 := by decide +kernel
theorem d8_speak_97 : zd cX8_speak 97 (.iand) 1 98 := by decide +kernel
theorem d8_speak_98 : zj cX8_speak 98 (.ifCond .ne 4) 4 101 102 := by decide +kernel
theorem d8_speak_101 : zd cX8_speak 101 (.return_) 1 102 := by decide +kernel
theorem d8_speak_102 : zd cX8_speak 102 (.aload_n 0) 1 103 := by decide +kernel
theorem d8_speak_103 : zd cX8_speak 103 (.getfield 71) 3 106 := by decide +kernel
theorem d8_speak_106 : zd cX8_speak 106 (.aload_n 0) 1 107 := by decide +kernel
theorem d8_speak_107 : zd cX8_speak 107 (.getfield 62) 3 110 := by decide +kernel
theorem d8_speak_110 : zd cX8_speak 110 (.getfield 373) 3 113 := by decide +kernel
theorem d8_speak_113 : zd cX8_speak 113 (.iload_n 1) 1 114 := by decide +kernel
theorem d8_speak_114 : zd cX8_speak 114 (.iconst 1) 1 115 := by decide +kernel
theorem d8_speak_115 : zd cX8_speak 115 (.ishr) 1 116 := by decide +kernel
theorem d8_speak_116 : zd cX8_speak 116 (.iaload) 1 117 := by decide +kernel
theorem d8_speak_117 : zd cX8_speak 117 (.iadd) 1 118 := by decide +kernel
theorem d8_speak_118 : zd cX8_speak 118 (.istore 6) 2 120 := by decide +kernel
theorem d8_speak_120 : zd cX8_speak 120 (.aload_n 0) 1 121 := by decide +kernel
theorem d8_speak_121 : zd cX8_speak 121 (.getfield 25) 3 124 := by decide +kernel
theorem d8_speak_124 : zd cX8_speak 124 (.iload_n 1) 1 125 := by decide +kernel
theorem d8_speak_125 : zd cX8_speak 125 (.iconst 1) 1 126 := by decide +kernel
theorem d8_speak_126 : zd cX8_speak 126 (.ixor) 1 127 := by decide +kernel
theorem d8_speak_127 : zd cX8_speak 127 (.iload 6) 2 129 := by decide +kernel
theorem d8_speak_129 : zd cX8_speak 129 (.invokestatic 180) 3 132 := by decide +kernel
theorem d8_speak_132 : zd cX8_speak 132 (.aaload) 1 133 := by decide +kernel
theorem d8_speak_133 : zd cX8_speak 133 (.astore 7) 2 135 := by decide +kernel
theorem d8_speak_135 : zd cX8_speak 135 (.aload 7) 2 137 := by decide +kernel
theorem d8_speak_137 : zd cX8_speak 137 (.iconst 1) 1 138 := by decide +kernel
theorem d8_speak_138 : zd cX8_speak 138 (.putfield 171) 3 141 := by decide +kernel
theorem d8_speak_141 : zd cX8_speak 141 (.aload 7) 2 143 := by decide +kernel
theorem d8_speak_143 : zd cX8_speak 143 (.iload 6) 2 145 := by decide +kernel
theorem d8_speak_145 : zd cX8_speak 145 (.putfield 376) 3 148 := by decide +kernel
theorem d8_speak_148 : zd cX8_speak 148 (.aload 7) 2 150 := by decide +kernel
theorem d8_speak_150 : zd cX8_speak 150 (.iload 4) 2 152 := by decide +kernel
theorem d8_speak_152 : zj cX8_speak 152 (.ifCond .ne 7) 7 155 159 := by decide +kernel
theorem d8_speak_155 : zd cX8_speak 155 (.iconst 1) 1 156 := by decide +kernel
theorem d8_speak_156 : zj cX8_speak 156 (.goto 4) 4 159 160 := by decide +kernel
theorem d8_speak_159 : zd cX8_speak 159 (.iconst 0) 1 160 := by decide +kernel
theorem d8_speak_160 : zd cX8_speak 160 (.putfield 314) 3 163 := by decide +kernel
theorem d8_speak_163 : zd cX8_speak 163 (.aload 7) 2 165 := by decide +kernel
theorem d8_speak_165 : zd cX8_speak 165 (.getfield 348) 3 168 := by decide +kernel
theorem d8_speak_168 : zd cX8_speak 168 (.iload 4) 2 170 := by decide +kernel
theorem d8_speak_170 : zj cX8_speak 170 (.ifCond .eq 11) 11 173 181 := by decide +kernel
theorem d8_speak_173 : zd cX8_speak 173 (.aload_n 0) 1 174 := by decide +kernel
theorem d8_speak_174 : zd cX8_speak 174 (.iload_n 1) 1 175 := by decide +kernel
theorem d8_speak_175 : zd cX8_speak 175 (.invokevirtual 269) 3 178 := by decide +kernel
theorem d8_speak_178 : zj cX8_speak 178 (.goto 7) 7 181 185 := by decide +kernel
theorem d8_speak_181 : zd cX8_speak 181 (.aload_n 2) 1 182 := by decide +kernel
theorem d8_speak_182 : zd cX8_speak 182 (.getfield 233) 3 185 := by decide +kernel
theorem d8_speak_185 : zd cX8_speak 185 (.invokevirtual 186) 3 188 := by decide +kernel
theorem d8_speak_188 : zd cX8_speak 188 (.aload 7) 2 190 := by decide +kernel
theorem d8_speak_190 : zd cX8_speak 190 (.iload 4) 2 192 := by decide +kernel
theorem d8_speak_192 : zj cX8_speak 192 (.ifCond .eq 23) 23 195 215 := by decide +kernel
theorem d8_speak_195 : zd cX8_speak 195 (.aload_n 0) 1 196 := by decide +kernel
theorem d8_speak_196 : zd cX8_speak 196 (.getfield 11) 3 199 := by decide +kernel
theorem d8_speak_199 : zd cX8_speak 199 (.aload_n 0) 1 200 := by decide +kernel
theorem d8_speak_200 : zd cX8_speak 200 (.getfield 62) 3 203 := by decide +kernel
theorem d8_speak_203 : zd cX8_speak 203 (.getfield 158) 3 206 := by decide +kernel
theorem d8_speak_206 : zd cX8_speak 206 (.iload_n 1) 1 207 := by decide +kernel
theorem d8_speak_207 : zd cX8_speak 207 (.iaload) 1 208 := by decide +kernel
theorem d8_speak_208 : zd cX8_speak 208 (.aaload) 1 209 := by decide +kernel
theorem d8_speak_209 : zd cX8_speak 209 (.getfield 379) 3 212 := by decide +kernel
theorem d8_speak_212 : zj cX8_speak 212 (.goto 4) 4 215 216 := by decide +kernel
theorem d8_speak_215 : zd cX8_speak 215 (.iconst 0) 1 216 := by decide +kernel
theorem d8_speak_216 : zd cX8_speak 216 (.putfield 347) 3 219 := by decide +kernel
theorem d8_speak_219 : zd cX8_speak 219 (.aload 7) 2 221 := by decide +kernel
theorem d8_speak_221 : zd cX8_speak 221 (.iload 5) 2 223 := by decide +kernel
theorem d8_speak_223 : zd cX8_speak 223 (.putfield 380) 3 226 := by decide +kernel
theorem d8_speak_226 : zd cX8_speak 226 (.return_) 1 227 := by decide +kernel
set_option maxHeartbeats 4000000 in
set_option maxRecDepth 20000 in
theorem c8_speak (l : Launch) (D : zDt) (Sh : zSh) (top : Nat) (hO : zOK Sh) (o_ : Nat) (v_end : Int32) (μ : zM) (μ_ : zM) (ho : (Sh o_).1 = 15) (h : f8_speak o_ v_end μ = some μ_) : zMet l D zK1 yX8_speak cX8_speak 8 none (zrm 2 42) [.ref o_, .int v_end] Sh top μ none Sh top μ_ 0 0 := by
  refine zMet_of (by decide) (Nat.le_of_ble_eq_true rfl) fun X hX1 hX2 fx fin => ?_
  subst hX1; subst hX2
  replace fx : zFix X cX8_speak RX8 (zrm 2 42) 8 := fx
  show zZ zK1 X (zT0 Sh top) μ 0 [(0, .ref o_), (1, .int v_end)] []
  unfold f8_speak at h
  refine z_aload_n fx (k := 0) (i := 0) rfl rfl d8_speak_0 ?_
  refine z_getO fx 8 1 2 ho lf8_19 fk8_1 d8_speak_1 ?_
  refine z_iload_n fx (k := 1) (i := 1) rfl rfl d8_speak_4 ?_
  obtain ⟨j1, e1, h⟩ := zinv h
  refine z_aald fx 1 (by decide) (ok8_1 hO ho) e1 (v := .ref (o_ + 37 + 2 * j1)) rfl d8_speak_5 ?_
  refine z_astore_n fx (k := 2) (i := 2) rfl rfl (lv' := [(0, .ref o_), (1, .int v_end), (2, .ref (o_ + 37 + 2 * j1))]) rfl rfl d8_speak_6 ?_
  refine z_aload_n fx (k := 2) (i := 2) rfl rfl d8_speak_7 ?_
  refine z_getB fx 4 14 414 (okA1 hO (ok8_1 hO ho) (rI_lt e1)) lf8_286 ⟨fk4_14, rfl⟩ d8_speak_8 ?_
  refine z_ifb_ne fx d8_speak_11 (fun c2 => ?_) (fun c2 => ?_)
  · replace h := zif_t c2 h
    refine z_aload_n fx (k := 2) (i := 2) rfl rfl d8_speak_15 ?_
    refine z_iconst fx (v := 0) ic0 d8_speak_16 ?_
    refine z_top (show Value.int 0 = .int (bI false) from rfl) ?_
    obtain ⟨μ2, e3, h⟩ := zinv h
    refine z_putB fx (ci := 4) 14 (okA1 hO (ok8_1 hO ho) (rI_lt e1)) lf8_286 fp4_14 e3 d8_speak_17 ?_
    obtain ⟨b3, e4, h⟩ := zinv h
    have k5 : zZ zK1 X (zT0 Sh top) μ2 52 [(0, .ref o_), (1, .int v_end), (2, .ref (o_ + 37 + 2 * j1))] [.int (bI b3)] := by
      refine z_istore_n fx (k := 3) (i := 3) rfl rfl (lv' := [(0, .ref o_), (1, .int v_end), (2, .ref (o_ + 37 + 2 * j1)), (3, .int (bI b3))]) rfl rfl d8_speak_52 ?_
      obtain ⟨b7, e12, h⟩ := zinv h
      replace e12 := Option.some.inj e12
      have k13 : zZ zK1 X (zT0 Sh top) μ2 66 [(0, .ref o_), (1, .int v_end), (2, .ref (o_ + 37 + 2 * j1)), (3, .int (bI b3))] [.int (bI b7)] := by
        refine z_istore fx (i := 4) rfl (lv' := [(0, .ref o_), (1, .int v_end), (2, .ref (o_ + 37 + 2 * j1)), (3, .int (bI b3)), (4, .int (bI b7))]) rfl rfl d8_speak_66 ?_
        obtain ⟨x8, μ9, e15, h⟩ := zinv2 h
        have k16 : zZ zK1 X (zT0 Sh top) μ9 86 [(0, .ref o_), (1, .int v_end), (2, .ref (o_ + 37 + 2 * j1)), (3, .int (bI b3)), (4, .int (bI b7))] [.int x8] := by
          refine z_istore fx (i := 5) rfl (lv' := [(0, .ref o_), (1, .int v_end), (2, .ref (o_ + 37 + 2 * j1)), (3, .int (bI b3)), (4, .int (bI b7)), (5, .int x8)]) rfl rfl d8_speak_86 ?_
          have kt20 : ((!b7) && (ceq (x8 &&& 6) 0)) = true → zZ zK1 X (zT0 Sh top) μ9 101 [(0, .ref o_), (1, .int v_end), (2, .ref (o_ + 37 + 2 * j1)), (3, .int (bI b3)), (4, .int (bI b7)), (5, .int x8)] [] := by
            intro hc
            replace h := zif_t hc h
            cases h
            exact z_return fx fin d8_speak_101
          have kf20 : ((!b7) && (ceq (x8 &&& 6) 0)) = false → zZ zK1 X (zT0 Sh top) μ9 102 [(0, .ref o_), (1, .int v_end), (2, .ref (o_ + 37 + 2 * j1)), (3, .int (bI b3)), (4, .int (bI b7)), (5, .int x8)] [] := by
            intro hc
            replace h := zif_f hc h
            refine z_aload_n fx (k := 0) (i := 0) rfl rfl d8_speak_102 ?_
            refine z_getI fx 8 13 813 ho lf8_71 ⟨fk8_13, rfl⟩ d8_speak_103 ?_
            refine z_aload_n fx (k := 0) (i := 0) rfl rfl d8_speak_106 ?_
            obtain ⟨w14, e21, h⟩ := zinv h
            refine z_getR fx 8 12 812 17 ho lf8_62 ⟨fk8_12, rfl⟩ e21 d8_speak_107 (fun tw14 => ?_)
            refine z_getO fx 10 10 11 tw14 lf8_373 fk10_10 d8_speak_110 ?_
            refine z_iload_n fx (k := 1) (i := 1) rfl rfl d8_speak_113 ?_
            refine z_iconst fx (v := 1) ic1 d8_speak_114 ?_
            refine z_ishr fx d8_speak_115 ?_
            obtain ⟨t15, e22, h⟩ := zinv h
            refine z_iald fx (ok10_10 hO tw14) e22 d8_speak_116 ?_
            refine z_iadd fx d8_speak_117 ?_
            obtain ⟨v_arrives_16, e23, h⟩ := zinv h
            replace e23 := Option.some.inj e23
            refine z_top (congrArg Value.int e23) ?_
            refine z_istore fx (i := 6) rfl (lv' := [(0, .ref o_), (1, .int v_end), (2, .ref (o_ + 37 + 2 * j1)), (3, .int (bI b3)), (4, .int (bI b7)), (5, .int x8), (6, .int v_arrives_16)]) rfl rfl d8_speak_118 ?_
            refine z_aload_n fx (k := 0) (i := 0) rfl rfl d8_speak_120 ?_
            refine z_getO fx 8 2 3 ho lf8_25 fk8_2 d8_speak_121 ?_
            refine z_iload_n fx (k := 1) (i := 1) rfl rfl d8_speak_124 ?_
            refine z_iconst fx (v := 1) ic1 d8_speak_125 ?_
            refine z_ixor fx d8_speak_126 ?_
            refine z_iload fx (i := 6) rfl d8_speak_127 ?_
            obtain ⟨t17, e24, h⟩ := zinv h
            refine z_cSr fx (c8_slotOf (zLo X) (zDo X) Sh top hO (v_end ^^^ 1) v_arrives_16 μ9 _  e24) ms8_slotOf ml8_180 rfl rfl rfl rfl d8_speak_129 ?_
            obtain ⟨j18, e25, h⟩ := zinv h
            refine z_aald fx 2 (by decide) (ok8_2 hO ho) e25 (v := .ref (o_ + 93 + 2 * j18)) rfl d8_speak_132 ?_
            refine z_astore fx (i := 7) rfl (lv' := [(0, .ref o_), (1, .int v_end), (2, .ref (o_ + 37 + 2 * j1)), (3, .int (bI b3)), (4, .int (bI b7)), (5, .int x8), (6, .int v_arrives_16), (7, .ref (o_ + 93 + 2 * j18))]) rfl rfl d8_speak_133 ?_
            refine z_aload fx (i := 7) rfl d8_speak_135 ?_
            refine z_iconst fx (v := 1) ic1 d8_speak_137 ?_
            refine z_top (show Value.int 1 = .int (bI true) from rfl) ?_
            obtain ⟨μ19, e26, h⟩ := zinv h
            refine z_putB fx (ci := 3) 1 (okA2 hO (ok8_2 hO ho) (rI_lt e25)) lf8_171 fp3_1 e26 d8_speak_138 ?_
            refine z_aload fx (i := 7) rfl d8_speak_141 ?_
            refine z_iload fx (i := 6) rfl d8_speak_143 ?_
            obtain ⟨μ20, e27, h⟩ := zinv h
            refine z_putI fx (ci := 3) 2 (okA2 hO (ok8_2 hO ho) (rI_lt e25)) lf8_376 fp3_2 e27 d8_speak_145 ?_
            refine z_aload fx (i := 7) rfl d8_speak_148 ?_
            obtain ⟨b21, e28, h⟩ := zinv h
            replace e28 := Option.some.inj e28
            have k29 : zZ zK1 X (zT0 Sh top) μ20 160 [(0, .ref o_), (1, .int v_end), (2, .ref (o_ + 37 + 2 * j1)), (3, .int (bI b3)), (4, .int (bI b7)), (5, .int x8), (6, .int v_arrives_16), (7, .ref (o_ + 93 + 2 * j18))] [.int (bI b21), .ref (o_ + 93 + 2 * j18)] := by
              obtain ⟨μ22, e31, h⟩ := zinv h
              refine z_putB fx (ci := 3) 3 (okA2 hO (ok8_2 hO ho) (rI_lt e25)) lf8_314 fp3_3 e31 d8_speak_160 ?_
              refine z_aload fx (i := 7) rfl d8_speak_163 ?_
              refine z_getO fx 3 0 1 (okA2 hO (ok8_2 hO ho) (rI_lt e25)) lf8_348 fk3_0 d8_speak_165 ?_
              obtain ⟨x23, μ24, e32, h⟩ := zinv2 h
              have k33 : (Sh x23).1 = 16 → zZ zK1 X (zT0 Sh top) μ24 185 [(0, .ref o_), (1, .int v_end), (2, .ref (o_ + 37 + 2 * j1)), (3, .int (bI b3)), (4, .int (bI b7)), (5, .int x8), (6, .int v_arrives_16), (7, .ref (o_ + 93 + 2 * j18))] [.ref x23, .ref ((o_ + 93 + 2 * j18) + 1)] := by
                intro tx23
                obtain ⟨μ27, e36, h⟩ := zinv h
                refine z_cVv fx (c9_copyFrom (zLo X) (zDo X) Sh top hO ((o_ + 93 + 2 * j18) + 1) x23 μ24 _ (ok3_0 hO (okA2 hO (ok8_2 hO ho) (rI_lt e25))) tx23 e36) mv9_copyFrom ml8_186 (ok3_0 hO (okA2 hO (ok8_2 hO ho) (rI_lt e25))) rfl rfl rfl rfl d8_speak_185 ?_
                refine z_aload fx (i := 7) rfl d8_speak_188 ?_
                obtain ⟨x28, e37, h⟩ := zinv h
                have k38 : zZ zK1 X (zT0 Sh top) μ27 216 [(0, .ref o_), (1, .int v_end), (2, .ref (o_ + 37 + 2 * j1)), (3, .int (bI b3)), (4, .int (bI b7)), (5, .int x8), (6, .int v_arrives_16), (7, .ref (o_ + 93 + 2 * j18))] [.int x28, .ref (o_ + 93 + 2 * j18)] := by
                  obtain ⟨μ32, e43, h⟩ := zinv h
                  refine z_putI fx (ci := 3) 4 (okA2 hO (ok8_2 hO ho) (rI_lt e25)) lf8_347 fp3_4 e43 d8_speak_216 ?_
                  refine z_aload fx (i := 7) rfl d8_speak_219 ?_
                  refine z_iload fx (i := 5) rfl d8_speak_221 ?_
                  obtain ⟨μ33, e44, h⟩ := zinv h
                  refine z_putI fx (ci := 3) 5 (okA2 hO (ok8_2 hO ho) (rI_lt e25)) lf8_380 fp3_5 e44 d8_speak_223 ?_
                  cases h
                  exact z_return fx fin d8_speak_226
                refine z_iload fx (i := 4) rfl d8_speak_190 ?_
                refine z_ifb_eq fx d8_speak_192 (fun c39 => ?_) (fun c39 => ?_)
                · replace e37 := zif_f c39 e37
                  refine z_iconst fx (v := 0) ic0 d8_speak_215 ?_
                  cases e37
                  exact k38
                · replace e37 := zif_t c39 e37
                  refine z_aload_n fx (k := 0) (i := 0) rfl rfl d8_speak_195 ?_
                  refine z_getO fx 8 0 1 ho lf8_11 fk8_0 d8_speak_196 ?_
                  refine z_aload_n fx (k := 0) (i := 0) rfl rfl d8_speak_199 ?_
                  obtain ⟨w29, e40, e37⟩ := zinv e37
                  refine z_getR fx 8 12 812 17 ho lf8_62 ⟨fk8_12, rfl⟩ e40 d8_speak_200 (fun tw29 => ?_)
                  refine z_getO fx 10 6 7 tw29 lf8_158 fk10_6 d8_speak_203 ?_
                  refine z_iload_n fx (k := 1) (i := 1) rfl rfl d8_speak_206 ?_
                  obtain ⟨t30, e41, e37⟩ := zinv e37
                  refine z_iald fx (ok10_6 hO tw29) e41 d8_speak_207 ?_
                  obtain ⟨j31, e42, e37⟩ := zinv e37
                  refine z_aald fx 0 (by decide) (ok8_0 hO ho) e42 (v := .ref (o_ + 13 + 3 * j31)) rfl d8_speak_208 ?_
                  refine z_getI fx 0 6 6 (okA0 hO (ok8_0 hO ho) (rI_lt e42)) lf8_379 ⟨fk0_6, rfl⟩ d8_speak_209 ?_
                  cases e37
                  refine z_goto fx d8_speak_212 ?_
                  exact k38
              refine z_iload fx (i := 4) rfl d8_speak_168 ?_
              refine z_ifb_eq fx d8_speak_170 (fun c34 => ?_) (fun c34 => ?_)
              · replace e32 := zif_f c34 e32
                refine z_aload_n fx (k := 2) (i := 2) rfl rfl d8_speak_181 ?_
                refine z_getO fx 4 0 1 (okA1 hO (ok8_1 hO ho) (rI_lt e1)) lf8_233 fk4_0 d8_speak_182 ?_
                cases e32
                exact k33 (ok4_0 hO (okA1 hO (ok8_1 hO ho) (rI_lt e1)))
              · replace e32 := zif_t c34 e32
                refine z_aload_n fx (k := 0) (i := 0) rfl rfl d8_speak_173 ?_
                refine z_iload_n fx (k := 1) (i := 1) rfl rfl d8_speak_174 ?_
                obtain ⟨t25, μ26, e35, e32⟩ := zinv2 e32
                have tt25 : (Sh t25).1 = 16 := (c8_oursAt (zLo X) (zDo X) Sh top hO o_ v_end μ22 _ _ ho e35).2
                refine z_cVr fx ((c8_oursAt (zLo X) (zDo X) Sh top hO o_ v_end μ22 _ _ ho e35).1) mv8_oursAt ml8_269 ho rfl rfl rfl rfl d8_speak_175 ?_
                cases e32
                refine z_goto fx d8_speak_178 ?_
                exact k33 tt25
            refine z_iload fx (i := 4) rfl d8_speak_150 ?_
            refine z_ifb_ne fx d8_speak_152 (fun c30 => ?_) (fun c30 => ?_)
            · refine z_iconst fx (v := 0) ic0 d8_speak_159 ?_
              exact z_top (congrArg Value.int (show 0 = bI b21 by rw [← e28]; simp [c30, bI])) k29
            · refine z_iconst fx (v := 1) ic1 d8_speak_155 ?_
              refine z_goto fx d8_speak_156 ?_
              exact z_top (congrArg Value.int (show 1 = bI b21 by rw [← e28]; simp [c30, bI])) k29
          clear h
          refine z_iload fx (i := 4) rfl d8_speak_88 ?_
          refine z_ifb_ne fx d8_speak_90 (fun c45 => ?_) (fun c45 => ?_)
          · exact kf20 (by simp [c45])
          · refine z_iload fx (i := 5) rfl d8_speak_93 ?_
            refine z_bipush fx (v := 6) bp6 d8_speak_95 ?_
            refine z_iand fx d8_speak_97 ?_
            refine z_if_ne fx d8_speak_98 (fun c46 => ?_) (fun c46 => ?_)
            · exact kf20 (by simp [c45, c46])
            · exact kt20 (by simp [c45, c46])
        refine z_iload fx (i := 4) rfl d8_speak_68 ?_
        refine z_ifb_eq fx d8_speak_70 (fun c17 => ?_) (fun c17 => ?_)
        · replace e15 := zif_f c17 e15
          refine z_aload_n fx (k := 2) (i := 2) rfl rfl d8_speak_81 ?_
          refine z_iload_n fx (k := 3) (i := 3) rfl rfl d8_speak_82 ?_
          obtain ⟨t10, μ11, e18, e15⟩ := zinv2 e15
          refine z_cSr fx (c8_replyBits (zLo X) (zDo X) Sh top hO (o_ + 37 + 2 * j1) b3 μ2 _ _ (okA1 hO (ok8_1 hO ho) (rI_lt e1)) e18) ms8_replyBits ml8_370 rfl rfl rfl rfl d8_speak_83 ?_
          cases e15
          exact k16
        · replace e15 := zif_t c17 e15
          refine z_aload_n fx (k := 2) (i := 2) rfl rfl d8_speak_73 ?_
          refine z_iload_n fx (k := 3) (i := 3) rfl rfl d8_speak_74 ?_
          obtain ⟨t12, μ13, e19, e15⟩ := zinv2 e15
          refine z_cSr fx (c8_configBits (zLo X) (zDo X) Sh top hO (o_ + 37 + 2 * j1) b3 μ2 _ _ (okA1 hO (ok8_1 hO ho) (rI_lt e1)) e19) ms8_configBits ml8_366 rfl rfl rfl rfl d8_speak_75 ?_
          cases e15
          refine z_goto fx d8_speak_78 ?_
          exact k16
      refine z_aload_n fx (k := 2) (i := 2) rfl rfl d8_speak_53 ?_
      refine z_getI fx 4 4 404 (okA1 hO (ok8_1 hO ho) (rI_lt e1)) lf8_260 ⟨fk4_4, rfl⟩ d8_speak_54 ?_
      refine z_iconst fx (v := 2) ic2 d8_speak_57 ?_
      refine z_icmp_ne fx d8_speak_58 (fun c14 => ?_) (fun c14 => ?_)
      · refine z_iconst fx (v := 0) ic0 d8_speak_65 ?_
        exact z_top (congrArg Value.int (show 0 = bI b7 by rw [← e12]; simp [c14, bI])) k13
      · refine z_iconst fx (v := 1) ic1 d8_speak_61 ?_
        refine z_goto fx d8_speak_62 ?_
        exact z_top (congrArg Value.int (show 1 = bI b7 by rw [← e12]; simp [c14, bI])) k13
    have kt6 : b3 = true → zZ zK1 X (zT0 Sh top) μ2 47 [(0, .ref o_), (1, .int v_end), (2, .ref (o_ + 37 + 2 * j1))] [] := by
      intro hc
      refine z_iconst fx (v := 1) ic1 d8_speak_47 ?_
      refine z_goto fx d8_speak_48 ?_
      exact z_top (congrArg Value.int (show 1 = bI b3 by rw [hc]; rfl)) k5
    have kf6 : b3 = false → zZ zK1 X (zT0 Sh top) μ2 51 [(0, .ref o_), (1, .int v_end), (2, .ref (o_ + 37 + 2 * j1))] [] := by
      intro hc
      refine z_iconst fx (v := 0) ic0 d8_speak_51 ?_
      exact z_top (congrArg Value.int (show 0 = bI b3 by rw [hc]; rfl)) k5
    refine z_aload_n fx (k := 2) (i := 2) rfl rfl d8_speak_20 ?_
    refine z_getB fx 4 11 411 (okA1 hO (ok8_1 hO ho) (rI_lt e1)) lf8_344 ⟨fk4_11, rfl⟩ d8_speak_21 ?_
    refine z_ifb_ne fx d8_speak_24 (fun c7 => ?_) (fun c7 => ?_)
    · replace e4 := zif_t c7 e4
      cases e4
      exact kt6 rfl
    · replace e4 := zif_f c7 e4
      refine z_aload_n fx (k := 0) (i := 0) rfl rfl d8_speak_27 ?_
      refine z_getO fx 8 0 1 ho lf8_11 fk8_0 d8_speak_28 ?_
      refine z_aload_n fx (k := 0) (i := 0) rfl rfl d8_speak_31 ?_
      obtain ⟨w4, e8, e4⟩ := zinv e4
      refine z_getR fx 8 12 812 17 ho lf8_62 ⟨fk8_12, rfl⟩ e8 d8_speak_32 (fun tw4 => ?_)
      refine z_getO fx 10 6 7 tw4 lf8_158 fk10_6 d8_speak_35 ?_
      refine z_iload_n fx (k := 1) (i := 1) rfl rfl d8_speak_38 ?_
      obtain ⟨t5, e9, e4⟩ := zinv e4
      refine z_iald fx (ok10_6 hO tw4) e9 d8_speak_39 ?_
      obtain ⟨j6, e10, e4⟩ := zinv e4
      refine z_aald fx 0 (by decide) (ok8_0 hO ho) e10 (v := .ref (o_ + 13 + 3 * j6)) rfl d8_speak_40 ?_
      refine z_getB fx 0 4 4 (okA0 hO (ok8_0 hO ho) (rI_lt e10)) lf8_117 ⟨fk0_4, rfl⟩ d8_speak_41 ?_
      cases e4
      refine z_ifb_eq fx d8_speak_44 (fun c11 => ?_) (fun c11 => ?_)
      · exact kf6 c11
      · exact kt6 c11
  · replace h := zif_f c2 h
    cases h
    exact z_return fx fin d8_speak_14
theorem d8_step_0 : zd cX8_step 0 (.aload_n 0) 1 1 := by decide +kernel
theorem d8_step_1 : zd cX8_step 1 (.getfield 71) 3 4 := by decide +kernel
theorem d8_step_4 : zd cX8_step 4 (.bipush 8) 2 6 := by decide +kernel
theorem d8_step_6 : zd cX8_step 6 (.irem) 1 7 := by decide +kernel
theorem d8_step_7 : zj cX8_step 7 (.ifCond .ne 39) 39 10 46 := by decide +kernel
theorem d8_step_10 : zd cX8_step 10 (.iconst 0) 1 11 := by decide +kernel
theorem d8_step_11 : zd cX8_step 11 (.istore_n 1) 1 12 := by decide +kernel
theorem d8_step_12 : zd cX8_step 12 (.iload_n 1) 1 13 := by decide +kernel
theorem d8_step_13 : zd cX8_step 13 (.aload_n 0) 1 14 := by decide +kernel
theorem d8_step_14 : zd cX8_step 14 (.getfield 62) 3 17 := by decide +kernel
theorem d8_step_17 : zd cX8_step 17 (.getfield 100) 3 20 := by decide +kernel
theorem d8_step_20 : zj cX8_step 20 (.if_icmp .ge 26) 26 23 46 := by decide +kernel
theorem d8_step_23 : zd cX8_step 23 (.aload_n 0) 1 24 := by decide +kernel
theorem d8_step_24 : zd cX8_step 24 (.getfield 11) 3 27 := by decide +kernel
theorem d8_step_27 : zd cX8_step 27 (.iload_n 1) 1 28 := by decide +kernel
theorem d8_step_28 : zd cX8_step 28 (.aaload) 1 29 := by decide +kernel
theorem d8_step_29 : zd cX8_step 29 (.getfield 104) 3 32 := by decide +kernel
theorem d8_step_32 : zj cX8_step 32 (.ifCond .eq 8) 8 35 40 := by decide +kernel
theorem d8_step_35 : zd cX8_step 35 (.aload_n 0) 1 36 := by decide +kernel
theorem d8_step_36 : zd cX8_step 36 (.iload_n 1) 1 37 := by decide +kernel
theorem d8_step_37 : zd cX8_step 37 (.invokevirtual 307) 3 40 := by decide +kernel
theorem d8_step_40 : zd cX8_step 40 (.iinc 1 1) 3 43 := by decide +kernel
theorem d8_step_43 : zj cX8_step 43 (.goto (-31)) (-31) 46 12 := by decide +kernel
theorem d8_step_46 : zd cX8_step 46 (.iconst 0) 1 47 := by decide +kernel
theorem d8_step_47 : zd cX8_step 47 (.istore_n 1) 1 48 := by decide +kernel
theorem d8_step_48 : zd cX8_step 48 (.iload_n 1) 1 49 := by decide +kernel
theorem d8_step_49 : zd cX8_step 49 (.aload_n 0) 1 50 := by decide +kernel
theorem d8_step_50 : zd cX8_step 50 (.getfield 62) 3 53 := by decide +kernel
theorem d8_step_53 : zd cX8_step 53 (.getfield 100) 3 56 := by decide +kernel
theorem d8_step_56 : zj cX8_step 56 (.if_icmp .ge 110) 110 59 166 := by decide +kernel
theorem d8_step_59 : zd cX8_step 59 (.iconst 0) 1 60 := by decide +kernel
theorem d8_step_60 : zd cX8_step 60 (.istore_n 2) 1 61 := by decide +kernel
theorem d8_step_61 : zd cX8_step 61 (.iload_n 2) 1 62 := by decide +kernel
theorem d8_step_62 : zd cX8_step 62 (.aload_n 0) 1 63 := by decide +kernel
theorem d8_step_63 : zd cX8_step 63 (.getfield 62) 3 66 := by decide +kernel
theorem d8_step_66 : zd cX8_step 66 (.getfield 174) 3 69 := by decide +kernel
theorem d8_step_69 : zd cX8_step 69 (.iload_n 1) 1 70 := by decide +kernel
theorem d8_step_70 : zd cX8_step 70 (.iaload) 1 71 := by decide +kernel
theorem d8_step_71 : zj cX8_step 71 (.if_icmp .ge 89) 89 74 160 := by decide +kernel
theorem d8_step_74 : zd cX8_step 74 (.aload_n 0) 1 75 := by decide +kernel
theorem d8_step_75 : zd cX8_step 75 (.getfield 62) 3 78 := by decide +kernel
theorem d8_step_78 : zd cX8_step 78 (.iload_n 1) 1 79 := by decide +kernel
theorem d8_step_79 : zd cX8_step 79 (.iload_n 2) 1 80 := by decide +kernel
theorem d8_step_80 : zd cX8_step 80 (.invokevirtual 176) 3 83 := by decide +kernel
theorem d8_step_83 : zd cX8_step 83 (.istore_n 3) 1 84 := by decide +kernel
theorem d8_step_84 : zd cX8_step 84 (.aload_n 0) 1 85 := by decide +kernel
theorem d8_step_85 : zd cX8_step 85 (.getfield 25) 3 88 := by decide +kernel
theorem d8_step_88 : zd cX8_step 88 (.iload_n 3) 1 89 := by decide +kernel
theorem d8_step_89 : zd cX8_step 89 (.aload_n 0) 1 90 := by decide +kernel
theorem d8_step_90 : zd cX8_step 90 (.getfield 71) 3 93 := by decide +kernel
theorem d8_step_93 : zd cX8_step 93 (.invokestatic 180) 3 96 := by decide +kernel
theorem d8_step_96 : zd cX8_step 96 (.aaload) 1 97 := by decide +kernel
theorem d8_step_97 : zd cX8_step 97 (.astore 4) 2 99 := by decide +kernel
theorem d8_step_99 : zd cX8_step 99 (.aload 4) 2 101 := by decide +kernel
theorem d8_step_101 : zd cX8_step 101 (.getfield 171) 3 104 := by decide +kernel
theorem d8_step_104 : zj cX8_step 104 (.ifCond .ne 6) 6 107 110 := by decide +kernel
theorem d8_step_107 : zj cX8_step 107 (.goto 47) 47 110 154 := by decide +kernel
theorem d8_step_110 : zd cX8_step 110 (.aload 4) 2 112 := by decide +kernel
theorem d8_step_112 : zd cX8_step 112 (.iconst 0) 1 113 := by decide +kernel
theorem d8_step_113 : zd cX8_step 113 (.putfield 171) 3 116 := by decide +kernel
theorem d8_step_116 : zd cX8_step 116 (.aload_n 0) 1 117 := by decide +kernel
theorem d8_step_117 : zd cX8_step 117 (.iload_n 3) 1 118 := by decide +kernel
theorem d8_step_118 : zd cX8_step 118 (.aload 4) 2 120 := by decide +kernel
theorem d8_step_120 : zd cX8_step 120 (.invokevirtual 310) 3 123 := by decide +kernel
theorem d8_step_123 : zj cX8_step 123 (.ifCond .ne 6) 6 126 129 := by decide +kernel
theorem d8_step_126 : zj cX8_step 126 (.goto 28) 28 129 154 := by decide +kernel
theorem d8_step_129 : zd cX8_step 129 (.aload 4) 2 131 := by decide +kernel
theorem d8_step_131 : zd cX8_step 131 (.getfield 314) 3 134 := by decide +kernel
theorem d8_step_134 : zj cX8_step 134 (.ifCond .eq 13) 13 137 147 := by decide +kernel
theorem d8_step_137 : zd cX8_step 137 (.aload_n 0) 1 138 := by decide +kernel
theorem d8_step_138 : zd cX8_step 138 (.iload_n 3) 1 139 := by decide +kernel
theorem d8_step_139 : zd cX8_step 139 (.aload 4) 2 141 := by decide +kernel
theorem d8_step_141 : zd cX8_step 141 (.invokevirtual 317) 3 144 := by decide +kernel
theorem d8_step_144 : zj cX8_step 144 (.goto 10) 10 147 154 := by decide +kernel
theorem d8_step_147 : zd cX8_step 147 (.aload_n 0) 1 148 := by decide +kernel
theorem d8_step_148 : zd cX8_step 148 (.iload_n 3) 1 149 := by decide +kernel
theorem d8_step_149 : zd cX8_step 149 (.aload 4) 2 151 := by decide +kernel
theorem d8_step_151 : zd cX8_step 151 (.invokevirtual 321) 3 154 := by decide +kernel
theorem d8_step_154 : zd cX8_step 154 (.iinc 2 1) 3 157 := by decide +kernel
theorem d8_step_157 : zj cX8_step 157 (.goto (-96)) (-96) 160 61 := by decide +kernel
theorem d8_step_160 : zd cX8_step 160 (.iinc 1 1) 3 163 := by decide +kernel
theorem d8_step_163 : zj cX8_step 163 (.goto (-115)) (-115) 166 48 := by decide +kernel
theorem d8_step_166 : zd cX8_step 166 (.iconst 0) 1 167 := by decide +kernel
theorem d8_step_167 : zd cX8_step 167 (.istore_n 1) 1 168 := by decide +kernel
theorem d8_step_168 : zd cX8_step 168 (.iload_n 1) 1 169 := by decide +kernel
theorem d8_step_169 : zd cX8_step 169 (.aload_n 0) 1 170 := by decide +kernel
theorem d8_step_170 : zd cX8_step 170 (.getfield 62) 3 173 := by decide +kernel
theorem d8_step_173 : zd cX8_step 173 (.getfield 100) 3 176 := by decide +kernel
theorem d8_step_176 : zj cX8_step 176 (.if_icmp .ge 43) 43 179 219 := by decide +kernel
theorem d8_step_179 : zd cX8_step 179 (.iconst 0) 1 180 := by decide +kernel
theorem d8_step_180 : zd cX8_step 180 (.istore_n 2) 1 181 := by decide +kernel
theorem d8_step_181 : zd cX8_step 181 (.iload_n 2) 1 182 := by decide +kernel
theorem d8_step_182 : zd cX8_step 182 (.aload_n 0) 1 183 := by decide +kernel
theorem d8_step_183 : zd cX8_step 183 (.getfield 62) 3 186 := by decide +kernel
theorem d8_step_186 : zd cX8_step 186 (.getfield 174) 3 189 := by decide +kernel
theorem d8_step_189 : zd cX8_step 189 (.iload_n 1) 1 190 := by decide +kernel
theorem d8_step_190 : zd cX8_step 190 (.iaload) 1 191 := by decide +kernel
theorem d8_step_191 : zj cX8_step 191 (.if_icmp .ge 22) 22 194 213 := by decide +kernel
theorem d8_step_194 : zd cX8_step 194 (.aload_n 0) 1 195 := by decide +kernel
theorem d8_step_195 : zd cX8_step 195 (.aload_n 0) 1 196 := by decide +kernel
theorem d8_step_196 : zd cX8_step 196 (.getfield 62) 3 199 := by decide +kernel
theorem d8_step_199 : zd cX8_step 199 (.iload_n 1) 1 200 := by decide +kernel
theorem d8_step_200 : zd cX8_step 200 (.iload_n 2) 1 201 := by decide +kernel
theorem d8_step_201 : zd cX8_step 201 (.invokevirtual 176) 3 204 := by decide +kernel
theorem d8_step_204 : zd cX8_step 204 (.invokevirtual 324) 3 207 := by decide +kernel
theorem d8_step_207 : zd cX8_step 207 (.iinc 2 1) 3 210 := by decide +kernel
theorem d8_step_210 : zj cX8_step 210 (.goto (-29)) (-29) 213 181 := by decide +kernel
theorem d8_step_213 : zd cX8_step 213 (.iinc 1 1) 3 216 := by decide +kernel
theorem d8_step_216 : zj cX8_step 216 (.goto (-48)) (-48) 219 168 := by decide +kernel
theorem d8_step_219 : zd cX8_step 219 (.aload_n 0) 1 220 := by decide +kernel
theorem d8_step_220 : zd cX8_step 220 (.dup) 1 221 := by decide +kernel
theorem d8_step_221 : zd cX8_step 221 (.getfield 71) 3 224 := by decide +kernel
theorem d8_step_224 : zd cX8_step 224 (.iconst 1) 1 225 := by decide +kernel
theorem d8_step_225 : zd cX8_step 225 (.iadd) 1 226 := by decide +kernel
theorem d8_step_226 : zd cX8_step 226 (.putfield 71) 3 229 := by decide +kernel
theorem d8_step_229 : zd cX8_step 229 (.return_) 1 230 := by decide +kernel
set_option maxHeartbeats 4000000 in
set_option maxRecDepth 20000 in
theorem c8_step (l : Launch) (D : zDt) (Sh : zSh) (top : Nat) (hO : zOK Sh) (o_ : Nat) (μ : zM) (μ_ : zM) (ho : (Sh o_).1 = 15) (h : f8_step o_ μ = some μ_) : zMet l D zK1 yX8_step cX8_step 5 none (zrm 5 119) [.ref o_] Sh top μ none Sh top μ_ 0 0 := by
  refine zMet_of (by decide) (Nat.le_of_ble_eq_true rfl) fun X hX1 hX2 fx fin => ?_
  subst hX1; subst hX2
  replace fx : zFix X cX8_step RX8 (zrm 5 119) 5 := fx
  show zZ zK1 X (zT0 Sh top) μ 0 [(0, .ref o_)] []
  unfold f8_step at h
  obtain ⟨μ1, e1, h⟩ := zinv h
  have k2 : zZ zK1 X (zT0 Sh top) μ1 46 [(0, .ref o_)] [] := by
    refine z_iconst fx (v := 0) ic0 d8_step_46 ?_
    refine z_istore_n fx (k := 1) (i := 1) rfl rfl (lv' := [(0, .ref o_), (1, .int 0)]) rfl rfl d8_step_47 ?_
    obtain ⟨v_b_4, μ5, e58, h⟩ := zinv2 h
    have kx6 : zZ zK1 X (zT0 Sh top) μ5 166 [(0, .ref o_), (1, .int v_b_4)] [] := by
      refine z_take 1 (lv' := [(0, .ref o_)]) rfl ?_
      refine z_iconst fx (v := 0) ic0 d8_step_166 ?_
      refine z_istore_n fx (k := 1) (i := 1) rfl rfl (lv' := [(0, .ref o_), (1, .int 0)]) rfl rfl d8_step_167 ?_
      obtain ⟨v_b_29, μ30, e57, h⟩ := zinv2 h
      have kx38 : zZ zK1 X (zT0 Sh top) μ30 219 [(0, .ref o_), (1, .int v_b_29)] [] := by
        refine z_take 1 (lv' := [(0, .ref o_)]) rfl ?_
        refine z_aload_n fx (k := 0) (i := 0) rfl rfl d8_step_219 ?_
        refine z_dup fx rfl d8_step_220 ?_
        refine z_getI fx 8 13 813 ho lf8_71 ⟨fk8_13, rfl⟩ d8_step_221 ?_
        refine z_iconst fx (v := 1) ic1 d8_step_224 ?_
        refine z_iadd fx d8_step_225 ?_
        obtain ⟨μ43, e56, h⟩ := zinv h
        refine z_putI fx (ci := 8) 13 ho lf8_71 fp8_13 e56 d8_step_226 ?_
        cases h
        exact z_return fx fin d8_step_229
      clear h
      have klr37 : ∀ (n : Nat) (v_b_27 : Int32) (μ28 : zM), zloop (fun s => f8_step_L3 o_ s.1 s.2) n (v_b_27, μ28) = some (v_b_29, μ30) → zZ zK1 X (zT0 Sh top) μ28 168 [(0, .ref o_), (1, .int v_b_27)] [] := by
        intro n
        induction n with
        | zero => intro v_b_27 μ28 hl36; cases hl36
        | succ n ih39 =>
          intro v_b_27 μ28 hl36
          obtain ⟨y, e35, hl36⟩ := zloop_inv hl36
          replace e35 : f8_step_L3 o_ v_b_27 μ28 = some y := e35
          unfold f8_step_L3 at e35
          refine z_iload_n fx (k := 1) (i := 1) rfl rfl d8_step_168 ?_
          refine z_aload_n fx (k := 0) (i := 0) rfl rfl d8_step_169 ?_
          obtain ⟨w31, e40, e35⟩ := zinv e35
          refine z_getR fx 8 12 812 17 ho lf8_62 ⟨fk8_12, rfl⟩ e40 d8_step_170 (fun tw31 => ?_)
          refine z_getI fx 10 15 1015 tw31 lf8_100 ⟨fk10_15, rfl⟩ d8_step_173 ?_
          refine z_icmp_ge fx d8_step_176 (fun c41 => ?_) (fun c41 => ?_)
          · replace e35 := zif_f c41 e35
            cases e35
            cases hl36
            exact kx38
          · replace e35 := zif_t c41 e35
            refine z_iconst fx (v := 0) ic0 d8_step_179 ?_
            refine z_istore_n fx (k := 2) (i := 2) rfl rfl (lv' := [(0, .ref o_), (1, .int v_b_27), (2, .int 0)]) rfl rfl d8_step_180 ?_
            obtain ⟨v_p_34, μ35, e55, e35⟩ := zinv2 e35
            have kx45 : zZ zK1 X (zT0 Sh top) μ35 213 [(0, .ref o_), (1, .int v_b_27), (2, .int v_p_34)] [] := by
              refine z_take 2 (lv' := [(0, .ref o_), (1, .int v_b_27)]) rfl ?_
              obtain ⟨v_b_42, e54, e35⟩ := zinv e35
              replace e54 := Option.some.inj e54
              refine z_iinc fx (i := 1) (x := v_b_27) (v := v_b_42) rfl (by rw [in1]; exact e54) rfl (lv' := [(0, .ref o_), (1, .int v_b_42)]) rfl rfl d8_step_213 ?_
              cases e35
              refine z_goto fx d8_step_216 ?_
              exact ih39 _ _ hl36
            clear e35
            have klr44 : ∀ (n : Nat) (v_p_32 : Int32) (μ33 : zM), zloop (fun s => f8_step_L4 o_ v_b_27 s.1 s.2) n (v_p_32, μ33) = some (v_p_34, μ35) → zZ zK1 X (zT0 Sh top) μ33 181 [(0, .ref o_), (1, .int v_b_27), (2, .int v_p_32)] [] := by
              intro n
              induction n with
              | zero => intro v_p_32 μ33 hl43; cases hl43
              | succ n ih46 =>
                intro v_p_32 μ33 hl43
                obtain ⟨y, e42, hl43⟩ := zloop_inv hl43
                replace e42 : f8_step_L4 o_ v_b_27 v_p_32 μ33 = some y := e42
                unfold f8_step_L4 at e42
                refine z_iload_n fx (k := 2) (i := 2) rfl rfl d8_step_181 ?_
                refine z_aload_n fx (k := 0) (i := 0) rfl rfl d8_step_182 ?_
                obtain ⟨w36, e47, e42⟩ := zinv e42
                refine z_getR fx 8 12 812 17 ho lf8_62 ⟨fk8_12, rfl⟩ e47 d8_step_183 (fun tw36 => ?_)
                refine z_getO fx 10 4 5 tw36 lf8_174 fk10_4 d8_step_186 ?_
                refine z_iload_n fx (k := 1) (i := 1) rfl rfl d8_step_189 ?_
                obtain ⟨t37, e48, e42⟩ := zinv e42
                refine z_iald fx (ok10_4 hO tw36) e48 d8_step_190 ?_
                refine z_icmp_ge fx d8_step_191 (fun c49 => ?_) (fun c49 => ?_)
                · replace e42 := zif_f c49 e42
                  cases e42
                  cases hl43
                  exact kx45
                · replace e42 := zif_t c49 e42
                  refine z_aload_n fx (k := 0) (i := 0) rfl rfl d8_step_194 ?_
                  refine z_aload_n fx (k := 0) (i := 0) rfl rfl d8_step_195 ?_
                  obtain ⟨w38, e50, e42⟩ := zinv e42
                  refine z_getR fx 8 12 812 17 ho lf8_62 ⟨fk8_12, rfl⟩ e50 d8_step_196 (fun tw38 => ?_)
                  refine z_iload_n fx (k := 1) (i := 1) rfl rfl d8_step_199 ?_
                  refine z_iload_n fx (k := 2) (i := 2) rfl rfl d8_step_200 ?_
                  obtain ⟨t39, e51, e42⟩ := zinv e42
                  refine z_cVr fx (c10_endOf (zLo X) (zDo X) Sh top hO w38 v_b_27 v_p_32 μ33 _ tw38 e51) mv10_endOf ml8_176 tw38 rfl rfl rfl rfl d8_step_201 ?_
                  obtain ⟨μ40, e52, e42⟩ := zinv e42
                  refine z_cVv fx (c8_speak (zLo X) (zDo X) Sh top hO o_ t39 μ33 _ ho e52) mv8_speak ml8_324 ho rfl rfl rfl rfl d8_step_204 ?_
                  obtain ⟨v_p_41, e53, e42⟩ := zinv e42
                  replace e53 := Option.some.inj e53
                  refine z_iinc fx (i := 2) (x := v_p_32) (v := v_p_41) rfl (by rw [in1]; exact e53) rfl (lv' := [(0, .ref o_), (1, .int v_b_27), (2, .int v_p_41)]) rfl rfl d8_step_207 ?_
                  cases e42
                  refine z_goto fx d8_step_210 ?_
                  exact ih46 _ _ hl43
            exact klr44 _ _ _ e55
      exact klr37 _ _ _ e57
    clear h
    have klr5 : ∀ (n : Nat) (v_b_2 : Int32) (μ3 : zM), zloop (fun s => f8_step_L1 o_ s.1 s.2) n (v_b_2, μ3) = some (v_b_4, μ5) → zZ zK1 X (zT0 Sh top) μ3 48 [(0, .ref o_), (1, .int v_b_2)] [] := by
      intro n
      induction n with
      | zero => intro v_b_2 μ3 hl4; cases hl4
      | succ n ih7 =>
        intro v_b_2 μ3 hl4
        obtain ⟨y, e3, hl4⟩ := zloop_inv hl4
        replace e3 : f8_step_L1 o_ v_b_2 μ3 = some y := e3
        unfold f8_step_L1 at e3
        refine z_iload_n fx (k := 1) (i := 1) rfl rfl d8_step_48 ?_
        refine z_aload_n fx (k := 0) (i := 0) rfl rfl d8_step_49 ?_
        obtain ⟨w6, e8, e3⟩ := zinv e3
        refine z_getR fx 8 12 812 17 ho lf8_62 ⟨fk8_12, rfl⟩ e8 d8_step_50 (fun tw6 => ?_)
        refine z_getI fx 10 15 1015 tw6 lf8_100 ⟨fk10_15, rfl⟩ d8_step_53 ?_
        refine z_icmp_ge fx d8_step_56 (fun c9 => ?_) (fun c9 => ?_)
        · replace e3 := zif_f c9 e3
          cases e3
          cases hl4
          exact kx6
        · replace e3 := zif_t c9 e3
          refine z_iconst fx (v := 0) ic0 d8_step_59 ?_
          refine z_istore_n fx (k := 2) (i := 2) rfl rfl (lv' := [(0, .ref o_), (1, .int v_b_2), (2, .int 0)]) rfl rfl d8_step_60 ?_
          obtain ⟨v_p_9, μ10, e34, e3⟩ := zinv2 e3
          have kx13 : zZ zK1 X (zT0 Sh top) μ10 160 [(0, .ref o_), (1, .int v_b_2), (2, .int v_p_9)] [] := by
            refine z_take 2 (lv' := [(0, .ref o_), (1, .int v_b_2)]) rfl ?_
            obtain ⟨v_b_26, e33, e3⟩ := zinv e3
            replace e33 := Option.some.inj e33
            refine z_iinc fx (i := 1) (x := v_b_2) (v := v_b_26) rfl (by rw [in1]; exact e33) rfl (lv' := [(0, .ref o_), (1, .int v_b_26)]) rfl rfl d8_step_160 ?_
            cases e3
            refine z_goto fx d8_step_163 ?_
            exact ih7 _ _ hl4
          clear e3
          have klr12 : ∀ (n : Nat) (v_p_7 : Int32) (μ8 : zM), zloop (fun s => f8_step_L2 o_ v_b_2 s.1 s.2) n (v_p_7, μ8) = some (v_p_9, μ10) → zZ zK1 X (zT0 Sh top) μ8 61 [(0, .ref o_), (1, .int v_b_2), (2, .int v_p_7)] [] := by
            intro n
            induction n with
            | zero => intro v_p_7 μ8 hl11; cases hl11
            | succ n ih14 =>
              intro v_p_7 μ8 hl11
              obtain ⟨y, e10, hl11⟩ := zloop_inv hl11
              replace e10 : f8_step_L2 o_ v_b_2 v_p_7 μ8 = some y := e10
              unfold f8_step_L2 at e10
              refine z_iload_n fx (k := 2) (i := 2) rfl rfl d8_step_61 ?_
              refine z_aload_n fx (k := 0) (i := 0) rfl rfl d8_step_62 ?_
              obtain ⟨w11, e15, e10⟩ := zinv e10
              refine z_getR fx 8 12 812 17 ho lf8_62 ⟨fk8_12, rfl⟩ e15 d8_step_63 (fun tw11 => ?_)
              refine z_getO fx 10 4 5 tw11 lf8_174 fk10_4 d8_step_66 ?_
              refine z_iload_n fx (k := 1) (i := 1) rfl rfl d8_step_69 ?_
              obtain ⟨t12, e16, e10⟩ := zinv e10
              refine z_iald fx (ok10_4 hO tw11) e16 d8_step_70 ?_
              refine z_icmp_ge fx d8_step_71 (fun c17 => ?_) (fun c17 => ?_)
              · replace e10 := zif_f c17 e10
                cases e10
                cases hl11
                exact kx13
              · replace e10 := zif_t c17 e10
                refine z_aload_n fx (k := 0) (i := 0) rfl rfl d8_step_74 ?_
                obtain ⟨w13, e18, e10⟩ := zinv e10
                refine z_getR fx 8 12 812 17 ho lf8_62 ⟨fk8_12, rfl⟩ e18 d8_step_75 (fun tw13 => ?_)
                refine z_iload_n fx (k := 1) (i := 1) rfl rfl d8_step_78 ?_
                refine z_iload_n fx (k := 2) (i := 2) rfl rfl d8_step_79 ?_
                obtain ⟨t14, e19, e10⟩ := zinv e10
                refine z_cVr fx (c10_endOf (zLo X) (zDo X) Sh top hO w13 v_b_2 v_p_7 μ8 _ tw13 e19) mv10_endOf ml8_176 tw13 rfl rfl rfl rfl d8_step_80 ?_
                refine z_istore_n fx (k := 3) (i := 3) rfl rfl (lv' := [(0, .ref o_), (1, .int v_b_2), (2, .int v_p_7), (3, .int t14)]) rfl rfl d8_step_83 ?_
                refine z_aload_n fx (k := 0) (i := 0) rfl rfl d8_step_84 ?_
                refine z_getO fx 8 2 3 ho lf8_25 fk8_2 d8_step_85 ?_
                refine z_iload_n fx (k := 3) (i := 3) rfl rfl d8_step_88 ?_
                refine z_aload_n fx (k := 0) (i := 0) rfl rfl d8_step_89 ?_
                refine z_getI fx 8 13 813 ho lf8_71 ⟨fk8_13, rfl⟩ d8_step_90 ?_
                obtain ⟨t15, e20, e10⟩ := zinv e10
                refine z_cSr fx (c8_slotOf (zLo X) (zDo X) Sh top hO t14 (gF μ8 813 o_) μ8 _  e20) ms8_slotOf ml8_180 rfl rfl rfl rfl d8_step_93 ?_
                obtain ⟨j16, e21, e10⟩ := zinv e10
                refine z_aald fx 2 (by decide) (ok8_2 hO ho) e21 (v := .ref (o_ + 93 + 2 * j16)) rfl d8_step_96 ?_
                refine z_astore fx (i := 4) rfl (lv' := [(0, .ref o_), (1, .int v_b_2), (2, .int v_p_7), (3, .int t14), (4, .ref (o_ + 93 + 2 * j16))]) rfl rfl d8_step_97 ?_
                refine z_aload fx (i := 4) rfl d8_step_99 ?_
                refine z_getB fx 3 1 301 (okA2 hO (ok8_2 hO ho) (rI_lt e21)) lf8_171 ⟨fk3_1, rfl⟩ d8_step_101 ?_
                refine z_ifb_ne fx d8_step_104 (fun c22 => ?_) (fun c22 => ?_)
                · replace e10 := zif_t c22 e10
                  refine z_aload fx (i := 4) rfl d8_step_110 ?_
                  refine z_iconst fx (v := 0) ic0 d8_step_112 ?_
                  refine z_top (show Value.int 0 = .int (bI false) from rfl) ?_
                  obtain ⟨μ17, e23, e10⟩ := zinv e10
                  refine z_putB fx (ci := 3) 1 (okA2 hO (ok8_2 hO ho) (rI_lt e21)) lf8_171 fp3_1 e23 d8_step_113 ?_
                  refine z_aload_n fx (k := 0) (i := 0) rfl rfl d8_step_116 ?_
                  refine z_iload_n fx (k := 3) (i := 3) rfl rfl d8_step_117 ?_
                  refine z_aload fx (i := 4) rfl d8_step_118 ?_
                  obtain ⟨t18, μ19, e24, e10⟩ := zinv2 e10
                  refine z_cVr fx (c8_isRead (zLo X) (zDo X) Sh top hO o_ t14 (o_ + 93 + 2 * j16) μ17 _ _ ho (okA2 hO (ok8_2 hO ho) (rI_lt e21)) e24) mv8_isRead ml8_310 ho rfl rfl rfl rfl d8_step_120 ?_
                  refine z_ifb_ne fx d8_step_123 (fun c25 => ?_) (fun c25 => ?_)
                  · replace e10 := zif_t c25 e10
                    refine z_aload fx (i := 4) rfl d8_step_129 ?_
                    refine z_getB fx 3 3 303 (okA2 hO (ok8_2 hO ho) (rI_lt e21)) lf8_314 ⟨fk3_3, rfl⟩ d8_step_131 ?_
                    refine z_ifb_eq fx d8_step_134 (fun c26 => ?_) (fun c26 => ?_)
                    · replace e10 := zif_f c26 e10
                      refine z_aload_n fx (k := 0) (i := 0) rfl rfl d8_step_147 ?_
                      refine z_iload_n fx (k := 3) (i := 3) rfl rfl d8_step_148 ?_
                      refine z_aload fx (i := 4) rfl d8_step_149 ?_
                      obtain ⟨μ20, e27, e10⟩ := zinv e10
                      refine z_cVv fx (c8_readConfig (zLo X) (zDo X) Sh top hO o_ t14 (o_ + 93 + 2 * j16) μ19 _ ho (okA2 hO (ok8_2 hO ho) (rI_lt e21)) e27) mv8_readConfig ml8_321 ho rfl rfl rfl rfl d8_step_151 ?_
                      refine z_take 3 (lv' := [(0, .ref o_), (1, .int v_b_2), (2, .int v_p_7)]) rfl ?_
                      obtain ⟨v_p_21, e28, e10⟩ := zinv e10
                      replace e28 := Option.some.inj e28
                      refine z_iinc fx (i := 2) (x := v_p_7) (v := v_p_21) rfl (by rw [in1]; exact e28) rfl (lv' := [(0, .ref o_), (1, .int v_b_2), (2, .int v_p_21)]) rfl rfl d8_step_154 ?_
                      cases e10
                      refine z_goto fx d8_step_157 ?_
                      exact ih14 _ _ hl11
                    · replace e10 := zif_t c26 e10
                      refine z_aload_n fx (k := 0) (i := 0) rfl rfl d8_step_137 ?_
                      refine z_iload_n fx (k := 3) (i := 3) rfl rfl d8_step_138 ?_
                      refine z_aload fx (i := 4) rfl d8_step_139 ?_
                      obtain ⟨μ22, e29, e10⟩ := zinv e10
                      refine z_cVv fx (c8_readReply (zLo X) (zDo X) Sh top hO o_ t14 (o_ + 93 + 2 * j16) μ19 _ ho (okA2 hO (ok8_2 hO ho) (rI_lt e21)) e29) mv8_readReply ml8_317 ho rfl rfl rfl rfl d8_step_141 ?_
                      refine z_take 3 (lv' := [(0, .ref o_), (1, .int v_b_2), (2, .int v_p_7)]) rfl ?_
                      refine z_goto fx d8_step_144 ?_
                      obtain ⟨v_p_23, e30, e10⟩ := zinv e10
                      replace e30 := Option.some.inj e30
                      refine z_iinc fx (i := 2) (x := v_p_7) (v := v_p_23) rfl (by rw [in1]; exact e30) rfl (lv' := [(0, .ref o_), (1, .int v_b_2), (2, .int v_p_23)]) rfl rfl d8_step_154 ?_
                      cases e10
                      refine z_goto fx d8_step_157 ?_
                      exact ih14 _ _ hl11
                  · replace e10 := zif_f c25 e10
                    refine z_take 3 (lv' := [(0, .ref o_), (1, .int v_b_2), (2, .int v_p_7)]) rfl ?_
                    refine z_goto fx d8_step_126 ?_
                    obtain ⟨v_p_24, e31, e10⟩ := zinv e10
                    replace e31 := Option.some.inj e31
                    refine z_iinc fx (i := 2) (x := v_p_7) (v := v_p_24) rfl (by rw [in1]; exact e31) rfl (lv' := [(0, .ref o_), (1, .int v_b_2), (2, .int v_p_24)]) rfl rfl d8_step_154 ?_
                    cases e10
                    refine z_goto fx d8_step_157 ?_
                    exact ih14 _ _ hl11
                · replace e10 := zif_f c22 e10
                  refine z_take 3 (lv' := [(0, .ref o_), (1, .int v_b_2), (2, .int v_p_7)]) rfl ?_
                  refine z_goto fx d8_step_107 ?_
                  obtain ⟨v_p_25, e32, e10⟩ := zinv e10
                  replace e32 := Option.some.inj e32
                  refine z_iinc fx (i := 2) (x := v_p_7) (v := v_p_25) rfl (by rw [in1]; exact e32) rfl (lv' := [(0, .ref o_), (1, .int v_b_2), (2, .int v_p_25)]) rfl rfl d8_step_154 ?_
                  cases e10
                  refine z_goto fx d8_step_157 ?_
                  exact ih14 _ _ hl11
          exact klr12 _ _ _ e34
    exact klr5 _ _ _ e58
  clear h
  refine z_aload_n fx (k := 0) (i := 0) rfl rfl d8_step_0 ?_
  refine z_getI fx 8 13 813 ho lf8_71 ⟨fk8_13, rfl⟩ d8_step_1 ?_
  refine z_bipush fx (v := 8) bp8 d8_step_4 ?_
  obtain ⟨t44, e59, e1⟩ := zinv e1
  refine z_irem fx e59 d8_step_6 ?_
  refine z_if_ne fx d8_step_7 (fun c60 => ?_) (fun c60 => ?_)
  · replace e1 := zif_f c60 e1
    cases e1
    exact k2
  · replace e1 := zif_t c60 e1
    refine z_iconst fx (v := 0) ic0 d8_step_10 ?_
    refine z_istore_n fx (k := 1) (i := 1) rfl rfl (lv' := [(0, .ref o_), (1, .int 0)]) rfl rfl d8_step_11 ?_
    obtain ⟨v_b_47, μ48, e73, e1⟩ := zinv2 e1
    have kx64 : zZ zK1 X (zT0 Sh top) μ48 46 [(0, .ref o_), (1, .int v_b_47)] [] := by
      refine z_take 1 (lv' := [(0, .ref o_)]) rfl ?_
      cases e1
      exact k2
    clear e1
    have klr63 : ∀ (n : Nat) (v_b_45 : Int32) (μ46 : zM), zloop (fun s => f8_step_L5 o_ s.1 s.2) n (v_b_45, μ46) = some (v_b_47, μ48) → zZ zK1 X (zT0 Sh top) μ46 12 [(0, .ref o_), (1, .int v_b_45)] [] := by
      intro n
      induction n with
      | zero => intro v_b_45 μ46 hl62; cases hl62
      | succ n ih65 =>
        intro v_b_45 μ46 hl62
        obtain ⟨y, e61, hl62⟩ := zloop_inv hl62
        replace e61 : f8_step_L5 o_ v_b_45 μ46 = some y := e61
        unfold f8_step_L5 at e61
        refine z_iload_n fx (k := 1) (i := 1) rfl rfl d8_step_12 ?_
        refine z_aload_n fx (k := 0) (i := 0) rfl rfl d8_step_13 ?_
        obtain ⟨w49, e66, e61⟩ := zinv e61
        refine z_getR fx 8 12 812 17 ho lf8_62 ⟨fk8_12, rfl⟩ e66 d8_step_14 (fun tw49 => ?_)
        refine z_getI fx 10 15 1015 tw49 lf8_100 ⟨fk10_15, rfl⟩ d8_step_17 ?_
        refine z_icmp_ge fx d8_step_20 (fun c67 => ?_) (fun c67 => ?_)
        · replace e61 := zif_f c67 e61
          cases e61
          cases hl62
          exact kx64
        · replace e61 := zif_t c67 e61
          refine z_aload_n fx (k := 0) (i := 0) rfl rfl d8_step_23 ?_
          refine z_getO fx 8 0 1 ho lf8_11 fk8_0 d8_step_24 ?_
          refine z_iload_n fx (k := 1) (i := 1) rfl rfl d8_step_27 ?_
          obtain ⟨j50, e68, e61⟩ := zinv e61
          refine z_aald fx 0 (by decide) (ok8_0 hO ho) e68 (v := .ref (o_ + 13 + 3 * j50)) rfl d8_step_28 ?_
          refine z_getB fx 0 3 3 (okA0 hO (ok8_0 hO ho) (rI_lt e68)) lf8_104 ⟨fk0_3, rfl⟩ d8_step_29 ?_
          refine z_ifb_eq fx d8_step_32 (fun c69 => ?_) (fun c69 => ?_)
          · replace e61 := zif_f c69 e61
            obtain ⟨v_b_51, e70, e61⟩ := zinv e61
            replace e70 := Option.some.inj e70
            refine z_iinc fx (i := 1) (x := v_b_45) (v := v_b_51) rfl (by rw [in1]; exact e70) rfl (lv' := [(0, .ref o_), (1, .int v_b_51)]) rfl rfl d8_step_40 ?_
            cases e61
            refine z_goto fx d8_step_43 ?_
            exact ih65 _ _ hl62
          · replace e61 := zif_t c69 e61
            refine z_aload_n fx (k := 0) (i := 0) rfl rfl d8_step_35 ?_
            refine z_iload_n fx (k := 1) (i := 1) rfl rfl d8_step_36 ?_
            obtain ⟨μ52, e71, e61⟩ := zinv e61
            refine z_cVv fx (c8_tick (zLo X) (zDo X) Sh top hO o_ v_b_45 μ46 _ ho e71) mv8_tick ml8_307 ho rfl rfl rfl rfl d8_step_37 ?_
            obtain ⟨v_b_53, e72, e61⟩ := zinv e61
            replace e72 := Option.some.inj e72
            refine z_iinc fx (i := 1) (x := v_b_45) (v := v_b_53) rfl (by rw [in1]; exact e72) rfl (lv' := [(0, .ref o_), (1, .int v_b_53)]) rfl rfl d8_step_40 ?_
            cases e61
            refine z_goto fx d8_step_43 ?_
            exact ih65 _ _ hl62
    exact klr63 _ _ _ e73
theorem d11_when_0 : zd cX11_when 0 (.aload_n 0) 1 1 := by decide +kernel
theorem d11_when_1 : zd cX11_when 1 (.getfield 56) 3 4 := by decide +kernel
theorem d11_when_4 : zd cX11_when 4 (.getfield 300) 3 7 := by decide +kernel
theorem d11_when_7 : zj cX11_when 7 (.ifCond .ne 5) 5 10 12 := by decide +kernel
theorem d11_when_10 : zd cX11_when 10 (.iconst (-1)) 1 11 := by decide +kernel
theorem d11_when_11 : zd cX11_when 11 (.ireturn) 1 12 := by decide +kernel
theorem d11_when_12 : zd cX11_when 12 (.aload_n 0) 1 13 := by decide +kernel
theorem d11_when_13 : zd cX11_when 13 (.getfield 79) 3 16 := by decide +kernel
theorem d11_when_16 : zd cX11_when 16 (.aload_n 0) 1 17 := by decide +kernel
theorem d11_when_17 : zd cX11_when 17 (.getfield 75) 3 20 := by decide +kernel
theorem d11_when_20 : zd cX11_when 20 (.invokevirtual 303) 3 23 := by decide +kernel
theorem d11_when_23 : zd cX11_when 23 (.aload_n 0) 1 24 := by decide +kernel
theorem d11_when_24 : zd cX11_when 24 (.getfield 22) 3 27 := by decide +kernel
theorem d11_when_27 : zd cX11_when 27 (.aload_n 0) 1 28 := by decide +kernel
theorem d11_when_28 : zd cX11_when 28 (.getfield 79) 3 31 := by decide +kernel
theorem d11_when_31 : zd cX11_when 31 (.invokevirtual 283) 3 34 := by decide +kernel
theorem d11_when_34 : zd cX11_when 34 (.iconst 0) 1 35 := by decide +kernel
theorem d11_when_35 : zd cX11_when 35 (.istore_n 1) 1 36 := by decide +kernel
theorem d11_when_36 : zd cX11_when 36 (.iload_n 1) 1 37 := by decide +kernel
theorem d11_when_37 : zd cX11_when 37 (.sipush 400) 3 40 := by decide +kernel
theorem d11_when_40 : zj cX11_when 40 (.if_icmp .gt 32) 32 43 72 := by decide +kernel
theorem d11_when_43 : zd cX11_when 43 (.aload_n 0) 1 44 := by decide +kernel
theorem d11_when_44 : zd cX11_when 44 (.getfield 22) 3 47 := by decide +kernel
theorem d11_when_47 : zd cX11_when 47 (.aload_n 0) 1 48 := by decide +kernel
theorem d11_when_48 : zd cX11_when 48 (.getfield 79) 3 51 := by decide +kernel
theorem d11_when_51 : zd cX11_when 51 (.invokevirtual 296) 3 54 := by decide +kernel
theorem d11_when_54 : zj cX11_when 54 (.ifCond .eq 5) 5 57 59 := by decide +kernel
theorem d11_when_57 : zd cX11_when 57 (.iload_n 1) 1 58 := by decide +kernel
theorem d11_when_58 : zd cX11_when 58 (.ireturn) 1 59 := by decide +kernel
theorem d11_when_59 : zd cX11_when 59 (.aload_n 0) 1 60 := by decide +kernel
theorem d11_when_60 : zd cX11_when 60 (.getfield 79) 3 63 := by decide +kernel
theorem d11_when_63 : zd cX11_when 63 (.invokevirtual 306) 3 66 := by decide +kernel
theorem d11_when_66 : zd cX11_when 66 (.iinc 1 1) 3 69 := by decide +kernel
theorem d11_when_69 : zj cX11_when 69 (.goto (-33)) (-33) 72 36 := by decide +kernel
theorem d11_when_72 : zd cX11_when 72 (.iconst (-1)) 1 73 := by decide +kernel
theorem d11_when_73 : zd cX11_when 73 (.ireturn) 1 74 := by decide +kernel
set_option maxHeartbeats 4000000 in
set_option maxRecDepth 20000 in
theorem c11_when (l : Launch) (D : zDt) (Sh : zSh) (top : Nat) (hO : zOK Sh) (o_ : Nat) (μ : zM) (r_ : Int32) (μ_ : zM) (ho : (Sh o_).1 = 18) (h : f11_when o_ μ = some (r_, μ_)) : zMet l D zK1 yX11_when cX11_when 2 (some .int) (zrm 6 143) [.ref o_] Sh top μ (some (.int r_)) Sh top μ_ 0 0 := by
  refine zMet_of (by decide) (Nat.le_of_ble_eq_true rfl) fun X hX1 hX2 fx fin => ?_
  subst hX1; subst hX2
  replace fx : zFix X cX11_when RX11 (zrm 6 143) 2 := fx
  show zZ zK1 X (zT0 Sh top) μ 0 [(0, .ref o_)] []
  unfold f11_when at h
  refine z_aload_n fx (k := 0) (i := 0) rfl rfl d11_when_0 ?_
  obtain ⟨w1, e1, h⟩ := zinv h
  refine z_getR fx 11 11 1111 17 ho lf11_56 ⟨fk11_11, rfl⟩ e1 d11_when_1 (fun tw1 => ?_)
  refine z_getB fx 10 12 1012 tw1 lf11_300 ⟨fk10_12, rfl⟩ d11_when_4 ?_
  refine z_ifb_ne fx d11_when_7 (fun c2 => ?_) (fun c2 => ?_)
  · replace h := zif_t c2 h
    refine z_aload_n fx (k := 0) (i := 0) rfl rfl d11_when_12 ?_
    refine z_getO fx 11 2 312 ho lf11_79 fk11_2 d11_when_13 ?_
    refine z_aload_n fx (k := 0) (i := 0) rfl rfl d11_when_16 ?_
    refine z_getO fx 11 3 51 ho lf11_75 fk11_3 d11_when_17 ?_
    obtain ⟨μ2, e3, h⟩ := zinv h
    refine z_cVv fx (c8_copyFrom (zLo X) (zDo X) Sh top hO (o_ + 312) (o_ + 51) μ _ (ok11_2 hO ho) (ok11_3 hO ho) e3) mv8_copyFrom ml11_303 (ok11_2 hO ho) rfl rfl rfl rfl d11_when_20 ?_
    refine z_aload_n fx (k := 0) (i := 0) rfl rfl d11_when_23 ?_
    refine z_getO fx 11 5 3 ho lf11_22 fk11_5 d11_when_24 ?_
    refine z_aload_n fx (k := 0) (i := 0) rfl rfl d11_when_27 ?_
    refine z_getO fx 11 2 312 ho lf11_79 fk11_2 d11_when_28 ?_
    obtain ⟨μ3, e4, h⟩ := zinv h
    refine z_cVv fx (c1_find (zLo X) (zDo X) Sh top hO (o_ + 3) (o_ + 312) μ2 _ (ok11_5 hO ho) (ok11_2 hO ho) e4) mv1_find ml11_283 (ok11_5 hO ho) rfl rfl rfl rfl d11_when_31 ?_
    refine z_iconst fx (v := 0) ic0 d11_when_34 ?_
    refine z_istore_n fx (k := 1) (i := 1) rfl rfl (lv' := [(0, .ref o_), (1, .int 0)]) rfl rfl d11_when_35 ?_
    obtain ⟨r7, e15, h⟩ := zinv h
    have kx8 : ∀ (v_steps_6 : Int32) (μ7 : zM), r7 = .inr (v_steps_6, μ7) → zZ zK1 X (zT0 Sh top) μ7 72 [(0, .ref o_), (1, .int v_steps_6)] [] := by
      intro v_steps_6 μ7 hr
      subst hr
      replace h := zel2 h
      refine z_take 1 (lv' := [(0, .ref o_)]) rfl ?_
      refine z_iconst fx (v := (-1)) icm1 d11_when_72 ?_
      cases h
      exact z_ireturn fx fin d11_when_73
    have klr7 : ∀ (n : Nat) (v_steps_4 : Int32) (μ5 : zM), zloop (fun s => f11_when_L1 o_ s.1 s.2) n (v_steps_4, μ5) = some r7 → zZ zK1 X (zT0 Sh top) μ5 36 [(0, .ref o_), (1, .int v_steps_4)] [] := by
      intro n
      induction n with
      | zero => intro v_steps_4 μ5 hl6; cases hl6
      | succ n ih9 =>
        intro v_steps_4 μ5 hl6
        obtain ⟨y, e5, hl6⟩ := zloop_inv hl6
        replace e5 : f11_when_L1 o_ v_steps_4 μ5 = some y := e5
        unfold f11_when_L1 at e5
        refine z_iload_n fx (k := 1) (i := 1) rfl rfl d11_when_36 ?_
        refine z_sipush fx (v := 400) sp400 d11_when_37 ?_
        refine z_icmp_gt fx d11_when_40 (fun c10 => ?_) (fun c10 => ?_)
        · replace e5 := zif_t c10 e5
          cases e5
          exact kx8 _ _ (Eq.symm hl6)
        · replace e5 := zif_f c10 e5
          refine z_aload_n fx (k := 0) (i := 0) rfl rfl d11_when_43 ?_
          refine z_getO fx 11 5 3 ho lf11_22 fk11_5 d11_when_44 ?_
          refine z_aload_n fx (k := 0) (i := 0) rfl rfl d11_when_47 ?_
          refine z_getO fx 11 2 312 ho lf11_79 fk11_2 d11_when_48 ?_
          obtain ⟨t8, e11, e5⟩ := zinv e5
          refine z_cVr fx (c1_isMet (zLo X) (zDo X) Sh top hO (o_ + 3) (o_ + 312) μ5 _ (ok11_5 hO ho) (ok11_2 hO ho) e11) mv1_isMet ml11_296 (ok11_5 hO ho) rfl rfl rfl rfl d11_when_51 ?_
          refine z_ifb_eq fx d11_when_54 (fun c12 => ?_) (fun c12 => ?_)
          · replace e5 := zif_f c12 e5
            refine z_aload_n fx (k := 0) (i := 0) rfl rfl d11_when_59 ?_
            refine z_getO fx 11 2 312 ho lf11_79 fk11_2 d11_when_60 ?_
            obtain ⟨μ9, e13, e5⟩ := zinv e5
            refine z_cVv fx (c8_step (zLo X) (zDo X) Sh top hO (o_ + 312) μ5 _ (ok11_2 hO ho) e13) mv8_step ml11_306 (ok11_2 hO ho) rfl rfl rfl rfl d11_when_63 ?_
            obtain ⟨v_steps_10, e14, e5⟩ := zinv e5
            replace e14 := Option.some.inj e14
            refine z_iinc fx (i := 1) (x := v_steps_4) (v := v_steps_10) rfl (by rw [in1]; exact e14) rfl (lv' := [(0, .ref o_), (1, .int v_steps_10)]) rfl rfl d11_when_66 ?_
            cases e5
            refine z_goto fx d11_when_69 ?_
            exact ih9 _ _ hl6
          · replace e5 := zif_t c12 e5
            refine z_iload_n fx (k := 1) (i := 1) rfl rfl d11_when_57 ?_
            cases e5
            cases hl6
            cases h
            exact z_ireturn fx fin d11_when_58
    exact klr7 _ _ _ e15
  · replace h := zif_f c2 h
    refine z_iconst fx (v := (-1)) icm1 d11_when_10 ?_
    cases h
    exact z_ireturn fx fin d11_when_11
theorem d6_labelJoined_0 : zd cX6_labelJoined 0 (.iconst 0) 1 1 := by decide +kernel
theorem d6_labelJoined_1 : zd cX6_labelJoined 1 (.istore_n 3) 1 2 := by decide +kernel
theorem d6_labelJoined_2 : zd cX6_labelJoined 2 (.iload_n 3) 1 3 := by decide +kernel
theorem d6_labelJoined_3 : zd cX6_labelJoined 3 (.bipush 8) 2 5 := by decide +kernel
theorem d6_labelJoined_5 : zj cX6_labelJoined 5 (.if_icmp .ge 16) 16 8 21 := by decide +kernel
theorem d6_labelJoined_8 : zd cX6_labelJoined 8 (.aload_n 0) 1 9 := by decide +kernel
theorem d6_labelJoined_9 : zd cX6_labelJoined 9 (.getfield 9) 3 12 := by decide +kernel
theorem d6_labelJoined_12 : zd cX6_labelJoined 12 (.iload_n 3) 1 13 := by decide +kernel
theorem d6_labelJoined_13 : zd cX6_labelJoined 13 (.iload_n 3) 1 14 := by decide +kernel
theorem d6_labelJoined_14 : zd cX6_labelJoined 14 (.iastore) 1 15 := by decide +kernel
theorem d6_labelJoined_15 : zd cX6_labelJoined 15 (.iinc 3 1) 3 18 := by decide +kernel
theorem d6_labelJoined_18 : zj cX6_labelJoined 18 (.goto (-16)) (-16) 21 2 := by decide +kernel
theorem d6_labelJoined_21 : zd cX6_labelJoined 21 (.iconst 0) 1 22 := by decide +kernel
theorem d6_labelJoined_22 : zd cX6_labelJoined 22 (.istore_n 3) 1 23 := by decide +kernel
theorem d6_labelJoined_23 : zd cX6_labelJoined 23 (.iload_n 3) 1 24 := by decide +kernel
theorem d6_labelJoined_24 : zd cX6_labelJoined 24 (.aload_n 1) 1 25 := by decide +kernel
theorem d6_labelJoined_25 : zd cX6_labelJoined 25 (.getfield 18) 3 28 := by decide +kernel
theorem d6_labelJoined_28 : zd cX6_labelJoined 28 (.getfield 24) 3 31 := by decide +kernel
theorem d6_labelJoined_31 : zj cX6_labelJoined 31 (.if_icmp .ge 110) 110 34 141 := by decide +kernel
theorem d6_labelJoined_34 : zd cX6_labelJoined 34 (.iload_n 3) 1 35 := by decide +kernel
theorem d6_labelJoined_35 : zd cX6_labelJoined 35 (.iload_n 2) 1 36 := by decide +kernel
theorem d6_labelJoined_36 : zj cX6_labelJoined 36 (.if_icmp .eq 99) 99 39 135 := by decide +kernel
theorem d6_labelJoined_39 : zd cX6_labelJoined 39 (.aload_n 1) 1 40 := by decide +kernel
theorem d6_labelJoined_40 : zd cX6_labelJoined 40 (.iload_n 3) 1 41 := by decide +kernel
theorem d6_labelJoined_41 : zd cX6_labelJoined 41 (.invokevirtual 30) 3 44 := by decide +kernel
theorem d6_labelJoined_44 : zj cX6_labelJoined 44 (.ifCond .ne 6) 6 47 50 := by decide +kernel
theorem d6_labelJoined_47 : zj cX6_labelJoined 47 (.goto 88) 88 50 135 := by decide +kernel
theorem d6_labelJoined_50 : zd cX6_labelJoined 50 (.aload_n 0) 1 51 := by decide +kernel
theorem d6_labelJoined_51 : zd cX6_labelJoined 51 (.getfield 9) 3 54 := by decide +kernel
theorem d6_labelJoined_54 : zd cX6_labelJoined 54 (.aload_n 1) 1 55 := by decide +kernel
theorem d6_labelJoined_55 : zd cX6_labelJoined 55 (.getfield 18) 3 58 := by decide +kernel
theorem d6_labelJoined_58 : zd cX6_labelJoined 58 (.getfield 34) 3 61 := by decide +kernel
theorem d6_labelJoined_61 : zd cX6_labelJoined 61 (.iconst 2) 1 62 := by decide +kernel
theorem d6_labelJoined_62 : zd cX6_labelJoined 62 (.iload_n 3) 1 63 := by decide +kernel
theorem d6_labelJoined_63 : zd cX6_labelJoined 63 (.imul) 1 64 := by decide +kernel
theorem d6_labelJoined_64 : zd cX6_labelJoined 64 (.iaload) 1 65 := by decide +kernel
theorem d6_labelJoined_65 : zd cX6_labelJoined 65 (.iaload) 1 66 := by decide +kernel
theorem d6_labelJoined_66 : zd cX6_labelJoined 66 (.istore 4) 2 68 := by decide +kernel
theorem d6_labelJoined_68 : zd cX6_labelJoined 68 (.aload_n 0) 1 69 := by decide +kernel
theorem d6_labelJoined_69 : zd cX6_labelJoined 69 (.getfield 9) 3 72 := by decide +kernel
theorem d6_labelJoined_72 : zd cX6_labelJoined 72 (.aload_n 1) 1 73 := by decide +kernel
theorem d6_labelJoined_73 : zd cX6_labelJoined 73 (.getfield 18) 3 76 := by decide +kernel
theorem d6_labelJoined_76 : zd cX6_labelJoined 76 (.getfield 34) 3 79 := by decide +kernel
theorem d6_labelJoined_79 : zd cX6_labelJoined 79 (.iconst 2) 1 80 := by decide +kernel
theorem d6_labelJoined_80 : zd cX6_labelJoined 80 (.iload_n 3) 1 81 := by decide +kernel
theorem d6_labelJoined_81 : zd cX6_labelJoined 81 (.imul) 1 82 := by decide +kernel
theorem d6_labelJoined_82 : zd cX6_labelJoined 82 (.iconst 1) 1 83 := by decide +kernel
theorem d6_labelJoined_83 : zd cX6_labelJoined 83 (.iadd) 1 84 := by decide +kernel
theorem d6_labelJoined_84 : zd cX6_labelJoined 84 (.iaload) 1 85 := by decide +kernel
theorem d6_labelJoined_85 : zd cX6_labelJoined 85 (.iaload) 1 86 := by decide +kernel
theorem d6_labelJoined_86 : zd cX6_labelJoined 86 (.istore 5) 2 88 := by decide +kernel
theorem d6_labelJoined_88 : zd cX6_labelJoined 88 (.iconst 0) 1 89 := by decide +kernel
theorem d6_labelJoined_89 : zd cX6_labelJoined 89 (.istore 6) 2 91 := by decide +kernel
theorem d6_labelJoined_91 : zd cX6_labelJoined 91 (.iload 6) 2 93 := by decide +kernel
theorem d6_labelJoined_93 : zd cX6_labelJoined 93 (.bipush 8) 2 95 := by decide +kernel
theorem d6_labelJoined_95 : zj cX6_labelJoined 95 (.if_icmp .ge 40) 40 98 135 := by decide +kernel
theorem d6_labelJoined_98 : zd cX6_labelJoined 98 (.aload_n 0) 1 99 := by decide +kernel
theorem d6_labelJoined_99 : zd cX6_labelJoined 99 (.getfield 9) 3 102 := by decide +kernel
theorem d6_labelJoined_102 : zd cX6_labelJoined 102 (.iload 6) 2 104 := by decide +kernel
theorem d6_labelJoined_104 : zd cX6_labelJoined 104 (.aload_n 0) 1 105 := by decide +kernel
theorem d6_labelJoined_105 : zd cX6_labelJoined 105 (.getfield 9) 3 108 := by decide +kernel
theorem d6_labelJoined_108 : zd cX6_labelJoined 108 (.iload 6) 2 110 := by decide +kernel
theorem d6_labelJoined_110 : zd cX6_labelJoined 110 (.iaload) 1 111 := by decide +kernel
theorem d6_labelJoined_111 : zd cX6_labelJoined 111 (.iload 5) 2 113 := by decide +kernel
theorem d6_labelJoined_113 : zj cX6_labelJoined 113 (.if_icmp .ne 8) 8 116 121 := by decide +kernel
theorem d6_labelJoined_116 : zd cX6_labelJoined 116 (.iload 4) 2 118 := by decide +kernel
theorem d6_labelJoined_118 : zj cX6_labelJoined 118 (.goto 10) 10 121 128 := by decide +kernel
theorem d6_labelJoined_121 : zd cX6_labelJoined 121 (.aload_n 0) 1 122 := by decide +kernel
theorem d6_labelJoined_122 : zd cX6_labelJoined 122 (.getfield 9) 3 125 := by decide +kernel
theorem d6_labelJoined_125 : zd cX6_labelJoined 125 (.iload 6) 2 127 := by decide +kernel
theorem d6_labelJoined_127 : zd cX6_labelJoined 127 (.iaload) 1 128 := by decide +kernel
theorem d6_labelJoined_128 : zd cX6_labelJoined 128 (.iastore) 1 129 := by decide +kernel
theorem d6_labelJoined_129 : zd cX6_labelJoined 129 (.iinc 6 1) 3 132 := by decide +kernel
theorem d6_labelJoined_132 : zj cX6_labelJoined 132 (.goto (-41)) (-41) 135 91 := by decide +kernel
theorem d6_labelJoined_135 : zd cX6_labelJoined 135 (.iinc 3 1) 3 138 := by decide +kernel
theorem d6_labelJoined_138 : zj cX6_labelJoined 138 (.goto (-115)) (-115) 141 23 := by decide +kernel
theorem d6_labelJoined_141 : zd cX6_labelJoined 141 (.return_) 1 142 := by decide +kernel
set_option maxHeartbeats 4000000 in
set_option maxRecDepth 20000 in
theorem c6_labelJoined (l : Launch) (D : zDt) (Sh : zSh) (top : Nat) (hO : zOK Sh) (o_ : Nat) (v_state : Nat) (v_without : Int32) (μ : zM) (μ_ : zM) (ho : (Sh o_).1 = 13) (h_state : (Sh v_state).1 = 15) (h : f6_labelJoined o_ v_state v_without μ = some μ_) : zMet l D zK1 yX6_labelJoined cX6_labelJoined 7 none (zrm 1 21) [.ref o_, .ref v_state, .int v_without] Sh top μ none Sh top μ_ 0 0 := by
  refine zMet_of (by decide) (Nat.le_of_ble_eq_true rfl) fun X hX1 hX2 fx fin => ?_
  subst hX1; subst hX2
  replace fx : zFix X cX6_labelJoined RX6 (zrm 1 21) 7 := fx
  show zZ zK1 X (zT0 Sh top) μ 0 [(0, .ref o_), (1, .ref v_state), (2, .int v_without)] []
  unfold f6_labelJoined at h
  refine z_iconst fx (v := 0) ic0 d6_labelJoined_0 ?_
  refine z_istore_n fx (k := 3) (i := 3) rfl rfl (lv' := [(0, .ref o_), (1, .ref v_state), (2, .int v_without), (3, .int 0)]) rfl rfl d6_labelJoined_1 ?_
  obtain ⟨v_b_3, μ4, e44, h⟩ := zinv2 h
  have kx4 : zZ zK1 X (zT0 Sh top) μ4 21 [(0, .ref o_), (1, .ref v_state), (2, .int v_without), (3, .int v_b_3)] [] := by
    refine z_take 3 (lv' := [(0, .ref o_), (1, .ref v_state), (2, .int v_without)]) rfl ?_
    refine z_iconst fx (v := 0) ic0 d6_labelJoined_21 ?_
    refine z_istore_n fx (k := 3) (i := 3) rfl rfl (lv' := [(0, .ref o_), (1, .ref v_state), (2, .int v_without), (3, .int 0)]) rfl rfl d6_labelJoined_22 ?_
    obtain ⟨v_link_9, μ10, e43, h⟩ := zinv2 h
    have kx12 : zZ zK1 X (zT0 Sh top) μ10 141 [(0, .ref o_), (1, .ref v_state), (2, .int v_without), (3, .int v_link_9)] [] := by
      refine z_take 3 (lv' := [(0, .ref o_), (1, .ref v_state), (2, .int v_without)]) rfl ?_
      cases h
      exact z_return fx fin d6_labelJoined_141
    clear h
    have klr11 : ∀ (n : Nat) (v_link_7 : Int32) (μ8 : zM), zloop (fun s => f6_labelJoined_L2 o_ v_state v_without s.1 s.2) n (v_link_7, μ8) = some (v_link_9, μ10) → zZ zK1 X (zT0 Sh top) μ8 23 [(0, .ref o_), (1, .ref v_state), (2, .int v_without), (3, .int v_link_7)] [] := by
      intro n
      induction n with
      | zero => intro v_link_7 μ8 hl10; cases hl10
      | succ n ih13 =>
        intro v_link_7 μ8 hl10
        obtain ⟨y, e9, hl10⟩ := zloop_inv hl10
        replace e9 : f6_labelJoined_L2 o_ v_state v_without v_link_7 μ8 = some y := e9
        unfold f6_labelJoined_L2 at e9
        refine z_iload_n fx (k := 3) (i := 3) rfl rfl d6_labelJoined_23 ?_
        refine z_aload_n fx (k := 1) (i := 1) rfl rfl d6_labelJoined_24 ?_
        obtain ⟨w11, e14, e9⟩ := zinv e9
        refine z_getR fx 8 12 812 17 h_state lf6_18 ⟨fk8_12, rfl⟩ e14 d6_labelJoined_25 (fun tw11 => ?_)
        refine z_getI fx 10 16 1016 tw11 lf6_24 ⟨fk10_16, rfl⟩ d6_labelJoined_28 ?_
        refine z_icmp_ge fx d6_labelJoined_31 (fun c15 => ?_) (fun c15 => ?_)
        · replace e9 := zif_f c15 e9
          cases e9
          cases hl10
          exact kx12
        · replace e9 := zif_t c15 e9
          obtain ⟨b12, e17, e9⟩ := zinv e9
          have kt16 : b12 = true → zZ zK1 X (zT0 Sh top) μ8 135 [(0, .ref o_), (1, .ref v_state), (2, .int v_without), (3, .int v_link_7)] [] := by
            intro hc
            replace e9 := zif_t hc e9
            obtain ⟨v_link_13, e18, e9⟩ := zinv e9
            replace e18 := Option.some.inj e18
            refine z_iinc fx (i := 3) (x := v_link_7) (v := v_link_13) rfl (by rw [in1]; exact e18) rfl (lv' := [(0, .ref o_), (1, .ref v_state), (2, .int v_without), (3, .int v_link_13)]) rfl rfl d6_labelJoined_135 ?_
            cases e9
            refine z_goto fx d6_labelJoined_138 ?_
            exact ih13 _ _ hl10
          have kf16 : b12 = false → zZ zK1 X (zT0 Sh top) μ8 50 [(0, .ref o_), (1, .ref v_state), (2, .int v_without), (3, .int v_link_7)] [] := by
            intro hc
            replace e9 := zif_f hc e9
            refine z_aload_n fx (k := 0) (i := 0) rfl rfl d6_labelJoined_50 ?_
            refine z_getO fx 6 0 1 ho lf6_9 fk6_0 d6_labelJoined_51 ?_
            refine z_aload_n fx (k := 1) (i := 1) rfl rfl d6_labelJoined_54 ?_
            obtain ⟨w14, e19, e9⟩ := zinv e9
            refine z_getR fx 8 12 812 17 h_state lf6_18 ⟨fk8_12, rfl⟩ e19 d6_labelJoined_55 (fun tw14 => ?_)
            refine z_getO fx 10 6 7 tw14 lf6_34 fk10_6 d6_labelJoined_58 ?_
            refine z_iconst fx (v := 2) ic2 d6_labelJoined_61 ?_
            refine z_iload_n fx (k := 3) (i := 3) rfl rfl d6_labelJoined_62 ?_
            refine z_imul fx d6_labelJoined_63 ?_
            obtain ⟨t15, e20, e9⟩ := zinv e9
            refine z_iald fx (ok10_6 hO tw14) e20 d6_labelJoined_64 ?_
            obtain ⟨t16, e21, e9⟩ := zinv e9
            refine z_iald fx (ok6_0 hO ho) e21 d6_labelJoined_65 ?_
            refine z_istore fx (i := 4) rfl (lv' := [(0, .ref o_), (1, .ref v_state), (2, .int v_without), (3, .int v_link_7), (4, .int t16)]) rfl rfl d6_labelJoined_66 ?_
            refine z_aload_n fx (k := 0) (i := 0) rfl rfl d6_labelJoined_68 ?_
            refine z_getO fx 6 0 1 ho lf6_9 fk6_0 d6_labelJoined_69 ?_
            refine z_aload_n fx (k := 1) (i := 1) rfl rfl d6_labelJoined_72 ?_
            obtain ⟨w17, e22, e9⟩ := zinv e9
            refine z_getR fx 8 12 812 17 h_state lf6_18 ⟨fk8_12, rfl⟩ e22 d6_labelJoined_73 (fun tw17 => ?_)
            refine z_getO fx 10 6 7 tw17 lf6_34 fk10_6 d6_labelJoined_76 ?_
            refine z_iconst fx (v := 2) ic2 d6_labelJoined_79 ?_
            refine z_iload_n fx (k := 3) (i := 3) rfl rfl d6_labelJoined_80 ?_
            refine z_imul fx d6_labelJoined_81 ?_
            refine z_iconst fx (v := 1) ic1 d6_labelJoined_82 ?_
            refine z_iadd fx d6_labelJoined_83 ?_
            obtain ⟨t18, e23, e9⟩ := zinv e9
            refine z_iald fx (ok10_6 hO tw17) e23 d6_labelJoined_84 ?_
            obtain ⟨t19, e24, e9⟩ := zinv e9
            refine z_iald fx (ok6_0 hO ho) e24 d6_labelJoined_85 ?_
            refine z_istore fx (i := 5) rfl (lv' := [(0, .ref o_), (1, .ref v_state), (2, .int v_without), (3, .int v_link_7), (4, .int t16), (5, .int t19)]) rfl rfl d6_labelJoined_86 ?_
            refine z_iconst fx (v := 0) ic0 d6_labelJoined_88 ?_
            refine z_istore fx (i := 6) rfl (lv' := [(0, .ref o_), (1, .ref v_state), (2, .int v_without), (3, .int v_link_7), (4, .int t16), (5, .int t19), (6, .int 0)]) rfl rfl d6_labelJoined_89 ?_
            obtain ⟨v_b_22, μ23, e39, e9⟩ := zinv2 e9
            have kx28 : zZ zK1 X (zT0 Sh top) μ23 135 [(0, .ref o_), (1, .ref v_state), (2, .int v_without), (3, .int v_link_7), (4, .int t16), (5, .int t19), (6, .int v_b_22)] [] := by
              refine z_take 6 (lv' := [(0, .ref o_), (1, .ref v_state), (2, .int v_without), (3, .int v_link_7), (4, .int t16), (5, .int t19)]) rfl ?_
              refine z_take 4 (lv' := [(0, .ref o_), (1, .ref v_state), (2, .int v_without), (3, .int v_link_7)]) rfl ?_
              obtain ⟨v_link_29, e38, e9⟩ := zinv e9
              replace e38 := Option.some.inj e38
              refine z_iinc fx (i := 3) (x := v_link_7) (v := v_link_29) rfl (by rw [in1]; exact e38) rfl (lv' := [(0, .ref o_), (1, .ref v_state), (2, .int v_without), (3, .int v_link_29)]) rfl rfl d6_labelJoined_135 ?_
              cases e9
              refine z_goto fx d6_labelJoined_138 ?_
              exact ih13 _ _ hl10
            clear e9
            have klr27 : ∀ (n : Nat) (v_b_20 : Int32) (μ21 : zM), zloop (fun s => f6_labelJoined_L3 o_ t16 t19 s.1 s.2) n (v_b_20, μ21) = some (v_b_22, μ23) → zZ zK1 X (zT0 Sh top) μ21 91 [(0, .ref o_), (1, .ref v_state), (2, .int v_without), (3, .int v_link_7), (4, .int t16), (5, .int t19), (6, .int v_b_20)] [] := by
              intro n
              induction n with
              | zero => intro v_b_20 μ21 hl26; cases hl26
              | succ n ih29 =>
                intro v_b_20 μ21 hl26
                obtain ⟨y, e25, hl26⟩ := zloop_inv hl26
                replace e25 : f6_labelJoined_L3 o_ t16 t19 v_b_20 μ21 = some y := e25
                unfold f6_labelJoined_L3 at e25
                refine z_iload fx (i := 6) rfl d6_labelJoined_91 ?_
                refine z_bipush fx (v := 8) bp8 d6_labelJoined_93 ?_
                refine z_icmp_ge fx d6_labelJoined_95 (fun c30 => ?_) (fun c30 => ?_)
                · replace e25 := zif_f c30 e25
                  cases e25
                  cases hl26
                  exact kx28
                · replace e25 := zif_t c30 e25
                  refine z_aload_n fx (k := 0) (i := 0) rfl rfl d6_labelJoined_98 ?_
                  refine z_getO fx 6 0 1 ho lf6_9 fk6_0 d6_labelJoined_99 ?_
                  refine z_iload fx (i := 6) rfl d6_labelJoined_102 ?_
                  obtain ⟨x24, e31, e25⟩ := zinv e25
                  have k32 : zZ zK1 X (zT0 Sh top) μ21 128 [(0, .ref o_), (1, .ref v_state), (2, .int v_without), (3, .int v_link_7), (4, .int t16), (5, .int t19), (6, .int v_b_20)] [.int x24, .int v_b_20, .ref (o_ + 1)] := by
                    obtain ⟨μ27, e36, e25⟩ := zinv e25
                    refine z_iast fx (ok6_0 hO ho) e36 d6_labelJoined_128 ?_
                    obtain ⟨v_b_28, e37, e25⟩ := zinv e25
                    replace e37 := Option.some.inj e37
                    refine z_iinc fx (i := 6) (x := v_b_20) (v := v_b_28) rfl (by rw [in1]; exact e37) rfl (lv' := [(0, .ref o_), (1, .ref v_state), (2, .int v_without), (3, .int v_link_7), (4, .int t16), (5, .int t19), (6, .int v_b_28)]) rfl rfl d6_labelJoined_129 ?_
                    cases e25
                    refine z_goto fx d6_labelJoined_132 ?_
                    exact ih29 _ _ hl26
                  refine z_aload_n fx (k := 0) (i := 0) rfl rfl d6_labelJoined_104 ?_
                  refine z_getO fx 6 0 1 ho lf6_9 fk6_0 d6_labelJoined_105 ?_
                  refine z_iload fx (i := 6) rfl d6_labelJoined_108 ?_
                  obtain ⟨t25, e33, e31⟩ := zinv e31
                  refine z_iald fx (ok6_0 hO ho) e33 d6_labelJoined_110 ?_
                  refine z_iload fx (i := 5) rfl d6_labelJoined_111 ?_
                  refine z_icmp_ne fx d6_labelJoined_113 (fun c34 => ?_) (fun c34 => ?_)
                  · replace e31 := zif_f c34 e31
                    refine z_aload_n fx (k := 0) (i := 0) rfl rfl d6_labelJoined_121 ?_
                    refine z_getO fx 6 0 1 ho lf6_9 fk6_0 d6_labelJoined_122 ?_
                    refine z_iload fx (i := 6) rfl d6_labelJoined_125 ?_
                    obtain ⟨t26, e35, e31⟩ := zinv e31
                    refine z_iald fx (ok6_0 hO ho) e35 d6_labelJoined_127 ?_
                    cases e31
                    exact k32
                  · replace e31 := zif_t c34 e31
                    refine z_iload fx (i := 4) rfl d6_labelJoined_116 ?_
                    cases e31
                    refine z_goto fx d6_labelJoined_118 ?_
                    exact k32
            exact klr27 _ _ _ e39
          clear e9
          refine z_iload_n fx (k := 3) (i := 3) rfl rfl d6_labelJoined_34 ?_
          refine z_iload_n fx (k := 2) (i := 2) rfl rfl d6_labelJoined_35 ?_
          refine z_icmp_eq fx d6_labelJoined_36 (fun c40 => ?_) (fun c40 => ?_)
          · replace e17 := zif_t c40 e17
            cases e17
            exact kt16 rfl
          · replace e17 := zif_f c40 e17
            refine z_aload_n fx (k := 1) (i := 1) rfl rfl d6_labelJoined_39 ?_
            refine z_iload_n fx (k := 3) (i := 3) rfl rfl d6_labelJoined_40 ?_
            obtain ⟨t30, e41, e17⟩ := zinv e17
            refine z_cVr fx (c8_isOpen (zLo X) (zDo X) Sh top hO v_state v_link_7 μ8 _ h_state e41) mv8_isOpen ml6_30 h_state rfl rfl rfl rfl d6_labelJoined_41 ?_
            cases e17
            refine z_ifb_ne fx d6_labelJoined_44 (fun c42 => ?_) (fun c42 => ?_)
            · exact kf16 (by rw [c42]; rfl)
            · refine z_goto fx d6_labelJoined_47 ?_
              exact kt16 (by rw [c42]; rfl)
    exact klr11 _ _ _ e43
  clear h
  have klr3 : ∀ (n : Nat) (v_b_1 : Int32) (μ2 : zM), zloop (fun s => f6_labelJoined_L1 o_ s.1 s.2) n (v_b_1, μ2) = some (v_b_3, μ4) → zZ zK1 X (zT0 Sh top) μ2 2 [(0, .ref o_), (1, .ref v_state), (2, .int v_without), (3, .int v_b_1)] [] := by
    intro n
    induction n with
    | zero => intro v_b_1 μ2 hl2; cases hl2
    | succ n ih5 =>
      intro v_b_1 μ2 hl2
      obtain ⟨y, e1, hl2⟩ := zloop_inv hl2
      replace e1 : f6_labelJoined_L1 o_ v_b_1 μ2 = some y := e1
      unfold f6_labelJoined_L1 at e1
      refine z_iload_n fx (k := 3) (i := 3) rfl rfl d6_labelJoined_2 ?_
      refine z_bipush fx (v := 8) bp8 d6_labelJoined_3 ?_
      refine z_icmp_ge fx d6_labelJoined_5 (fun c6 => ?_) (fun c6 => ?_)
      · replace e1 := zif_f c6 e1
        cases e1
        cases hl2
        exact kx4
      · replace e1 := zif_t c6 e1
        refine z_aload_n fx (k := 0) (i := 0) rfl rfl d6_labelJoined_8 ?_
        refine z_getO fx 6 0 1 ho lf6_9 fk6_0 d6_labelJoined_9 ?_
        refine z_iload_n fx (k := 3) (i := 3) rfl rfl d6_labelJoined_12 ?_
        refine z_iload_n fx (k := 3) (i := 3) rfl rfl d6_labelJoined_13 ?_
        obtain ⟨μ5, e7, e1⟩ := zinv e1
        refine z_iast fx (ok6_0 hO ho) e7 d6_labelJoined_14 ?_
        obtain ⟨v_b_6, e8, e1⟩ := zinv e1
        replace e8 := Option.some.inj e8
        refine z_iinc fx (i := 3) (x := v_b_1) (v := v_b_6) rfl (by rw [in1]; exact e8) rfl (lv' := [(0, .ref o_), (1, .ref v_state), (2, .int v_without), (3, .int v_b_6)]) rfl rfl d6_labelJoined_15 ?_
        cases e1
        refine z_goto fx d6_labelJoined_18 ?_
        exact ih5 _ _ hl2
  exact klr3 _ _ _ e44
theorem d6_countSpare_0 : zd cX6_countSpare 0 (.aload_n 0) 1 1 := by decide +kernel
theorem d6_countSpare_1 : zd cX6_countSpare 1 (.aload_n 1) 1 2 := by decide +kernel
theorem d6_countSpare_2 : zd cX6_countSpare 2 (.iconst (-1)) 1 3 := by decide +kernel
theorem d6_countSpare_3 : zd cX6_countSpare 3 (.invokevirtual 37) 3 6 := by decide +kernel
theorem d6_countSpare_6 : zd cX6_countSpare 6 (.iconst 0) 1 7 := by decide +kernel
theorem d6_countSpare_7 : zd cX6_countSpare 7 (.istore_n 2) 1 8 := by decide +kernel
theorem d6_countSpare_8 : zd cX6_countSpare 8 (.iconst 0) 1 9 := by decide +kernel
theorem d6_countSpare_9 : zd cX6_countSpare 9 (.istore_n 3) 1 10 := by decide +kernel
theorem d6_countSpare_10 : zd cX6_countSpare 10 (.iload_n 3) 1 11 := by decide +kernel
theorem d6_countSpare_11 : zd cX6_countSpare 11 (.aload_n 1) 1 12 := by decide +kernel
theorem d6_countSpare_12 : zd cX6_countSpare 12 (.getfield 18) 3 15 := by decide +kernel
theorem d6_countSpare_15 : zd cX6_countSpare 15 (.getfield 48) 3 18 := by decide +kernel
theorem d6_countSpare_18 : zj cX6_countSpare 18 (.if_icmp .ge 68) 68 21 86 := by decide +kernel
theorem d6_countSpare_21 : zd cX6_countSpare 21 (.iconst 1) 1 22 := by decide +kernel
theorem d6_countSpare_22 : zd cX6_countSpare 22 (.istore 4) 2 24 := by decide +kernel
theorem d6_countSpare_24 : zd cX6_countSpare 24 (.iconst 0) 1 25 := by decide +kernel
theorem d6_countSpare_25 : zd cX6_countSpare 25 (.istore 5) 2 27 := by decide +kernel
theorem d6_countSpare_27 : zd cX6_countSpare 27 (.iload 5) 2 29 := by decide +kernel
theorem d6_countSpare_29 : zd cX6_countSpare 29 (.iload_n 3) 1 30 := by decide +kernel
theorem d6_countSpare_30 : zj cX6_countSpare 30 (.if_icmp .ge 37) 37 33 67 := by decide +kernel
theorem d6_countSpare_33 : zd cX6_countSpare 33 (.iload 4) 2 35 := by decide +kernel
theorem d6_countSpare_35 : zj cX6_countSpare 35 (.ifCond .eq 23) 23 38 58 := by decide +kernel
theorem d6_countSpare_38 : zd cX6_countSpare 38 (.aload_n 0) 1 39 := by decide +kernel
theorem d6_countSpare_39 : zd cX6_countSpare 39 (.getfield 9) 3 42 := by decide +kernel
theorem d6_countSpare_42 : zd cX6_countSpare 42 (.iload 5) 2 44 := by decide +kernel
theorem d6_countSpare_44 : zd cX6_countSpare 44 (.iaload) 1 45 := by decide +kernel
theorem d6_countSpare_45 : zd cX6_countSpare 45 (.aload_n 0) 1 46 := by decide +kernel
theorem d6_countSpare_46 : zd cX6_countSpare 46 (.getfield 9) 3 49 := by decide +kernel
theorem d6_countSpare_49 : zd cX6_countSpare 49 (.iload_n 3) 1 50 := by decide +kernel
theorem d6_countSpare_50 : zd cX6_countSpare 50 (.iaload) 1 51 := by decide +kernel
theorem d6_countSpare_51 : zj cX6_countSpare 51 (.if_icmp .eq 7) 7 54 58 := by decide +kernel
theorem d6_countSpare_54 : zd cX6_countSpare 54 (.iconst 1) 1 55 := by decide +kernel
theorem d6_countSpare_55 : zj cX6_countSpare 55 (.goto 4) 4 58 59 := by decide +kernel
theorem d6_countSpare_58 : zd cX6_countSpare 58 (.iconst 0) 1 59 := by decide +kernel
theorem d6_countSpare_59 : zd cX6_countSpare 59 (.istore 4) 2 61 := by decide +kernel
theorem d6_countSpare_61 : zd cX6_countSpare 61 (.iinc 5 1) 3 64 := by decide +kernel
theorem d6_countSpare_64 : zj cX6_countSpare 64 (.goto (-37)) (-37) 67 27 := by decide +kernel
theorem d6_countSpare_67 : zd cX6_countSpare 67 (.iload_n 2) 1 68 := by decide +kernel
theorem d6_countSpare_68 : zd cX6_countSpare 68 (.iload 4) 2 70 := by decide +kernel
theorem d6_countSpare_70 : zj cX6_countSpare 70 (.ifCond .eq 7) 7 73 77 := by decide +kernel
theorem d6_countSpare_73 : zd cX6_countSpare 73 (.iconst 1) 1 74 := by decide +kernel
theorem d6_countSpare_74 : zj cX6_countSpare 74 (.goto 4) 4 77 78 := by decide +kernel
theorem d6_countSpare_77 : zd cX6_countSpare 77 (.iconst 0) 1 78 := by decide +kernel
theorem d6_countSpare_78 : zd cX6_countSpare 78 (.iadd) 1 79 := by decide +kernel
theorem d6_countSpare_79 : zd cX6_countSpare 79 (.istore_n 2) 1 80 := by decide +kernel
theorem d6_countSpare_80 : zd cX6_countSpare 80 (.iinc 3 1) 3 83 := by decide +kernel
theorem d6_countSpare_83 : zj cX6_countSpare 83 (.goto (-73)) (-73) 86 10 := by decide +kernel
theorem d6_countSpare_86 : zd cX6_countSpare 86 (.aload_n 1) 1 87 := by decide +kernel
theorem d6_countSpare_87 : zd cX6_countSpare 87 (.invokevirtual 51) 3 90 := by decide +kernel
theorem d6_countSpare_90 : zd cX6_countSpare 90 (.aload_n 1) 1 91 := by decide +kernel
theorem d6_countSpare_91 : zd cX6_countSpare 91 (.getfield 18) 3 94 := by decide +kernel
theorem d6_countSpare_94 : zd cX6_countSpare 94 (.getfield 48) 3 97 := by decide +kernel
theorem d6_countSpare_97 : zd cX6_countSpare 97 (.isub) 1 98 := by decide +kernel
theorem d6_countSpare_98 : zd cX6_countSpare 98 (.iload_n 2) 1 99 := by decide +kernel
theorem d6_countSpare_99 : zd cX6_countSpare 99 (.iadd) 1 100 := by decide +kernel
theorem d6_countSpare_100 : zd cX6_countSpare 100 (.ireturn) 1 101 := by decide +kernel
set_option maxHeartbeats 4000000 in
set_option maxRecDepth 20000 in
theorem c6_countSpare (l : Launch) (D : zDt) (Sh : zSh) (top : Nat) (hO : zOK Sh) (o_ : Nat) (v_state : Nat) (μ : zM) (r_ : Int32) (μ_ : zM) (ho : (Sh o_).1 = 13) (h_state : (Sh v_state).1 = 15) (h : f6_countSpare o_ v_state μ = some (r_, μ_)) : zMet l D zK1 yX6_countSpare cX6_countSpare 6 (some .int) (zrm 2 47) [.ref o_, .ref v_state] Sh top μ (some (.int r_)) Sh top μ_ 0 0 := by
  refine zMet_of (by decide) (Nat.le_of_ble_eq_true rfl) fun X hX1 hX2 fx fin => ?_
  subst hX1; subst hX2
  replace fx : zFix X cX6_countSpare RX6 (zrm 2 47) 6 := fx
  show zZ zK1 X (zT0 Sh top) μ 0 [(0, .ref o_), (1, .ref v_state)] []
  unfold f6_countSpare at h
  refine z_aload_n fx (k := 0) (i := 0) rfl rfl d6_countSpare_0 ?_
  refine z_aload_n fx (k := 1) (i := 1) rfl rfl d6_countSpare_1 ?_
  refine z_iconst fx (v := (-1)) icm1 d6_countSpare_2 ?_
  obtain ⟨μ1, e1, h⟩ := zinv h
  refine z_cVv fx (c6_labelJoined (zLo X) (zDo X) Sh top hO o_ v_state (-1) μ _ ho h_state e1) mv6_labelJoined ml6_37 ho rfl rfl rfl rfl d6_countSpare_3 ?_
  refine z_iconst fx (v := 0) ic0 d6_countSpare_6 ?_
  refine z_istore_n fx (k := 2) (i := 2) rfl rfl (lv' := [(0, .ref o_), (1, .ref v_state), (2, .int 0)]) rfl rfl d6_countSpare_7 ?_
  refine z_iconst fx (v := 0) ic0 d6_countSpare_8 ?_
  refine z_istore_n fx (k := 3) (i := 3) rfl rfl (lv' := [(0, .ref o_), (1, .ref v_state), (2, .int 0), (3, .int 0)]) rfl rfl d6_countSpare_9 ?_
  obtain ⟨v_labels_4, v_b_5, e31, h⟩ := zinv2 h
  have kx5 : zZ zK1 X (zT0 Sh top) μ1 86 [(0, .ref o_), (1, .ref v_state), (2, .int v_labels_4), (3, .int v_b_5)] [] := by
    refine z_take 3 (lv' := [(0, .ref o_), (1, .ref v_state), (2, .int v_labels_4)]) rfl ?_
    refine z_aload_n fx (k := 1) (i := 1) rfl rfl d6_countSpare_86 ?_
    obtain ⟨t18, e29, h⟩ := zinv h
    refine z_cVr fx (c8_countOpen (zLo X) (zDo X) Sh top hO v_state μ1 _ h_state e29) mv8_countOpen ml6_51 h_state rfl rfl rfl rfl d6_countSpare_87 ?_
    refine z_aload_n fx (k := 1) (i := 1) rfl rfl d6_countSpare_90 ?_
    obtain ⟨w19, e30, h⟩ := zinv h
    refine z_getR fx 8 12 812 17 h_state lf6_18 ⟨fk8_12, rfl⟩ e30 d6_countSpare_91 (fun tw19 => ?_)
    refine z_getI fx 10 15 1015 tw19 lf6_48 ⟨fk10_15, rfl⟩ d6_countSpare_94 ?_
    refine z_isub fx d6_countSpare_97 ?_
    refine z_iload_n fx (k := 2) (i := 2) rfl rfl d6_countSpare_98 ?_
    refine z_iadd fx d6_countSpare_99 ?_
    cases h
    exact z_ireturn fx fin d6_countSpare_100
  clear h
  have klr4 : ∀ (n : Nat) (v_labels_2 : Int32) (v_b_3 : Int32), zloop (fun s => f6_countSpare_L1 o_ v_state μ1 s.1 s.2) n (v_labels_2, v_b_3) = some (v_labels_4, v_b_5) → zZ zK1 X (zT0 Sh top) μ1 10 [(0, .ref o_), (1, .ref v_state), (2, .int v_labels_2), (3, .int v_b_3)] [] := by
    intro n
    induction n with
    | zero => intro v_labels_2 v_b_3 hl3; cases hl3
    | succ n ih6 =>
      intro v_labels_2 v_b_3 hl3
      obtain ⟨y, e2, hl3⟩ := zloop_inv hl3
      replace e2 : f6_countSpare_L1 o_ v_state μ1 v_labels_2 v_b_3 = some y := e2
      unfold f6_countSpare_L1 at e2
      refine z_iload_n fx (k := 3) (i := 3) rfl rfl d6_countSpare_10 ?_
      refine z_aload_n fx (k := 1) (i := 1) rfl rfl d6_countSpare_11 ?_
      obtain ⟨w6, e7, e2⟩ := zinv e2
      refine z_getR fx 8 12 812 17 h_state lf6_18 ⟨fk8_12, rfl⟩ e7 d6_countSpare_12 (fun tw6 => ?_)
      refine z_getI fx 10 15 1015 tw6 lf6_48 ⟨fk10_15, rfl⟩ d6_countSpare_15 ?_
      refine z_icmp_ge fx d6_countSpare_18 (fun c8 => ?_) (fun c8 => ?_)
      · replace e2 := zif_f c8 e2
        cases e2
        cases hl3
        exact kx5
      · replace e2 := zif_t c8 e2
        refine z_iconst fx (v := 1) ic1 d6_countSpare_21 ?_
        refine z_top (show Value.int 1 = .int (bI true) from rfl) ?_
        refine z_istore fx (i := 4) rfl (lv' := [(0, .ref o_), (1, .ref v_state), (2, .int v_labels_2), (3, .int v_b_3), (4, .int (bI true))]) rfl rfl d6_countSpare_22 ?_
        refine z_iconst fx (v := 0) ic0 d6_countSpare_24 ?_
        refine z_istore fx (i := 5) rfl (lv' := [(0, .ref o_), (1, .ref v_state), (2, .int v_labels_2), (3, .int v_b_3), (4, .int (bI true)), (5, .int 0)]) rfl rfl d6_countSpare_25 ?_
        obtain ⟨v_isNew_9, v_c_10, e28, e2⟩ := zinv2 e2
        have kx12 : zZ zK1 X (zT0 Sh top) μ1 67 [(0, .ref o_), (1, .ref v_state), (2, .int v_labels_2), (3, .int v_b_3), (4, .int (bI v_isNew_9)), (5, .int v_c_10)] [] := by
          refine z_take 5 (lv' := [(0, .ref o_), (1, .ref v_state), (2, .int v_labels_2), (3, .int v_b_3), (4, .int (bI v_isNew_9))]) rfl ?_
          refine z_iload_n fx (k := 2) (i := 2) rfl rfl d6_countSpare_67 ?_
          obtain ⟨x15, e23, e2⟩ := zinv e2
          have k24 : zZ zK1 X (zT0 Sh top) μ1 78 [(0, .ref o_), (1, .ref v_state), (2, .int v_labels_2), (3, .int v_b_3), (4, .int (bI v_isNew_9))] [.int x15, .int v_labels_2] := by
            refine z_iadd fx d6_countSpare_78 ?_
            obtain ⟨v_labels_16, e26, e2⟩ := zinv e2
            replace e26 := Option.some.inj e26
            refine z_top (congrArg Value.int e26) ?_
            refine z_istore_n fx (k := 2) (i := 2) rfl rfl (lv' := [(0, .ref o_), (1, .ref v_state), (2, .int v_labels_16), (3, .int v_b_3), (4, .int (bI v_isNew_9))]) rfl rfl d6_countSpare_79 ?_
            refine z_take 4 (lv' := [(0, .ref o_), (1, .ref v_state), (2, .int v_labels_16), (3, .int v_b_3)]) rfl ?_
            obtain ⟨v_b_17, e27, e2⟩ := zinv e2
            replace e27 := Option.some.inj e27
            refine z_iinc fx (i := 3) (x := v_b_3) (v := v_b_17) rfl (by rw [in1]; exact e27) rfl (lv' := [(0, .ref o_), (1, .ref v_state), (2, .int v_labels_16), (3, .int v_b_17)]) rfl rfl d6_countSpare_80 ?_
            cases e2
            refine z_goto fx d6_countSpare_83 ?_
            exact ih6 _ _ hl3
          refine z_iload fx (i := 4) rfl d6_countSpare_68 ?_
          refine z_ifb_eq fx d6_countSpare_70 (fun c25 => ?_) (fun c25 => ?_)
          · replace e23 := zif_f c25 e23
            refine z_iconst fx (v := 0) ic0 d6_countSpare_77 ?_
            cases e23
            exact k24
          · replace e23 := zif_t c25 e23
            refine z_iconst fx (v := 1) ic1 d6_countSpare_73 ?_
            cases e23
            refine z_goto fx d6_countSpare_74 ?_
            exact k24
        clear e2
        have klr11 : ∀ (n : Nat) (v_isNew_7 : Bool) (v_c_8 : Int32), zloop (fun s => f6_countSpare_L2 o_ μ1 v_b_3 s.1 s.2) n (v_isNew_7, v_c_8) = some (v_isNew_9, v_c_10) → zZ zK1 X (zT0 Sh top) μ1 27 [(0, .ref o_), (1, .ref v_state), (2, .int v_labels_2), (3, .int v_b_3), (4, .int (bI v_isNew_7)), (5, .int v_c_8)] [] := by
          intro n
          induction n with
          | zero => intro v_isNew_7 v_c_8 hl10; cases hl10
          | succ n ih13 =>
            intro v_isNew_7 v_c_8 hl10
            obtain ⟨y, e9, hl10⟩ := zloop_inv hl10
            replace e9 : f6_countSpare_L2 o_ μ1 v_b_3 v_isNew_7 v_c_8 = some y := e9
            unfold f6_countSpare_L2 at e9
            refine z_iload fx (i := 5) rfl d6_countSpare_27 ?_
            refine z_iload_n fx (k := 3) (i := 3) rfl rfl d6_countSpare_29 ?_
            refine z_icmp_ge fx d6_countSpare_30 (fun c14 => ?_) (fun c14 => ?_)
            · replace e9 := zif_f c14 e9
              cases e9
              cases hl10
              exact kx12
            · replace e9 := zif_t c14 e9
              obtain ⟨b11, e15, e9⟩ := zinv e9
              have k16 : zZ zK1 X (zT0 Sh top) μ1 59 [(0, .ref o_), (1, .ref v_state), (2, .int v_labels_2), (3, .int v_b_3), (4, .int (bI v_isNew_7)), (5, .int v_c_8)] [.int (bI b11)] := by
                refine z_istore fx (i := 4) rfl (lv' := [(0, .ref o_), (1, .ref v_state), (2, .int v_labels_2), (3, .int v_b_3), (4, .int (bI b11)), (5, .int v_c_8)]) rfl rfl d6_countSpare_59 ?_
                obtain ⟨v_c_14, e22, e9⟩ := zinv e9
                replace e22 := Option.some.inj e22
                refine z_iinc fx (i := 5) (x := v_c_8) (v := v_c_14) rfl (by rw [in1]; exact e22) rfl (lv' := [(0, .ref o_), (1, .ref v_state), (2, .int v_labels_2), (3, .int v_b_3), (4, .int (bI b11)), (5, .int v_c_14)]) rfl rfl d6_countSpare_61 ?_
                cases e9
                refine z_goto fx d6_countSpare_64 ?_
                exact ih13 _ _ hl10
              have kt17 : b11 = true → zZ zK1 X (zT0 Sh top) μ1 54 [(0, .ref o_), (1, .ref v_state), (2, .int v_labels_2), (3, .int v_b_3), (4, .int (bI v_isNew_7)), (5, .int v_c_8)] [] := by
                intro hc
                refine z_iconst fx (v := 1) ic1 d6_countSpare_54 ?_
                refine z_goto fx d6_countSpare_55 ?_
                exact z_top (congrArg Value.int (show 1 = bI b11 by rw [hc]; rfl)) k16
              have kf17 : b11 = false → zZ zK1 X (zT0 Sh top) μ1 58 [(0, .ref o_), (1, .ref v_state), (2, .int v_labels_2), (3, .int v_b_3), (4, .int (bI v_isNew_7)), (5, .int v_c_8)] [] := by
                intro hc
                refine z_iconst fx (v := 0) ic0 d6_countSpare_58 ?_
                exact z_top (congrArg Value.int (show 0 = bI b11 by rw [hc]; rfl)) k16
              refine z_iload fx (i := 4) rfl d6_countSpare_33 ?_
              refine z_ifb_eq fx d6_countSpare_35 (fun c18 => ?_) (fun c18 => ?_)
              · replace e15 := zif_f c18 e15
                cases e15
                exact kf17 rfl
              · replace e15 := zif_t c18 e15
                refine z_aload_n fx (k := 0) (i := 0) rfl rfl d6_countSpare_38 ?_
                refine z_getO fx 6 0 1 ho lf6_9 fk6_0 d6_countSpare_39 ?_
                refine z_iload fx (i := 5) rfl d6_countSpare_42 ?_
                obtain ⟨t12, e19, e15⟩ := zinv e15
                refine z_iald fx (ok6_0 hO ho) e19 d6_countSpare_44 ?_
                refine z_aload_n fx (k := 0) (i := 0) rfl rfl d6_countSpare_45 ?_
                refine z_getO fx 6 0 1 ho lf6_9 fk6_0 d6_countSpare_46 ?_
                refine z_iload_n fx (k := 3) (i := 3) rfl rfl d6_countSpare_49 ?_
                obtain ⟨t13, e20, e15⟩ := zinv e15
                refine z_iald fx (ok6_0 hO ho) e20 d6_countSpare_50 ?_
                cases e15
                refine z_icmp_eq fx d6_countSpare_51 (fun c21 => ?_) (fun c21 => ?_)
                · exact kf17 (by rw [c21]; rfl)
                · exact kt17 (by rw [c21]; rfl)
        exact klr11 _ _ _ e28
  exact klr4 _ _ _ e31
theorem d6_areJoined_0 : zd cX6_areJoined 0 (.aload_n 0) 1 1 := by decide +kernel
theorem d6_areJoined_1 : zd cX6_areJoined 1 (.getfield 9) 3 4 := by decide +kernel
theorem d6_areJoined_4 : zd cX6_areJoined 4 (.aload_n 1) 1 5 := by decide +kernel
theorem d6_areJoined_5 : zd cX6_areJoined 5 (.getfield 18) 3 8 := by decide +kernel
theorem d6_areJoined_8 : zd cX6_areJoined 8 (.getfield 34) 3 11 := by decide +kernel
theorem d6_areJoined_11 : zd cX6_areJoined 11 (.iconst 2) 1 12 := by decide +kernel
theorem d6_areJoined_12 : zd cX6_areJoined 12 (.iload_n 2) 1 13 := by decide +kernel
theorem d6_areJoined_13 : zd cX6_areJoined 13 (.imul) 1 14 := by decide +kernel
theorem d6_areJoined_14 : zd cX6_areJoined 14 (.iaload) 1 15 := by decide +kernel
theorem d6_areJoined_15 : zd cX6_areJoined 15 (.iaload) 1 16 := by decide +kernel
theorem d6_areJoined_16 : zd cX6_areJoined 16 (.aload_n 0) 1 17 := by decide +kernel
theorem d6_areJoined_17 : zd cX6_areJoined 17 (.getfield 9) 3 20 := by decide +kernel
theorem d6_areJoined_20 : zd cX6_areJoined 20 (.aload_n 1) 1 21 := by decide +kernel
theorem d6_areJoined_21 : zd cX6_areJoined 21 (.getfield 18) 3 24 := by decide +kernel
theorem d6_areJoined_24 : zd cX6_areJoined 24 (.getfield 34) 3 27 := by decide +kernel
theorem d6_areJoined_27 : zd cX6_areJoined 27 (.iconst 2) 1 28 := by decide +kernel
theorem d6_areJoined_28 : zd cX6_areJoined 28 (.iload_n 2) 1 29 := by decide +kernel
theorem d6_areJoined_29 : zd cX6_areJoined 29 (.imul) 1 30 := by decide +kernel
theorem d6_areJoined_30 : zd cX6_areJoined 30 (.iconst 1) 1 31 := by decide +kernel
theorem d6_areJoined_31 : zd cX6_areJoined 31 (.iadd) 1 32 := by decide +kernel
theorem d6_areJoined_32 : zd cX6_areJoined 32 (.iaload) 1 33 := by decide +kernel
theorem d6_areJoined_33 : zd cX6_areJoined 33 (.iaload) 1 34 := by decide +kernel
theorem d6_areJoined_34 : zj cX6_areJoined 34 (.if_icmp .ne 7) 7 37 41 := by decide +kernel
theorem d6_areJoined_37 : zd cX6_areJoined 37 (.iconst 1) 1 38 := by decide +kernel
theorem d6_areJoined_38 : zj cX6_areJoined 38 (.goto 4) 4 41 42 := by decide +kernel
theorem d6_areJoined_41 : zd cX6_areJoined 41 (.iconst 0) 1 42 := by decide +kernel
theorem d6_areJoined_42 : zd cX6_areJoined 42 (.ireturn) 1 43 := by decide +kernel
set_option maxHeartbeats 4000000 in
set_option maxRecDepth 20000 in
theorem c6_areJoined (l : Launch) (D : zDt) (Sh : zSh) (top : Nat) (hO : zOK Sh) (o_ : Nat) (v_state : Nat) (v_link : Int32) (μ : zM) (r_ : Bool) (ho : (Sh o_).1 = 13) (h_state : (Sh v_state).1 = 15) (h : f6_areJoined o_ v_state v_link μ = some r_) : zMet l D zK1 yX6_areJoined cX6_areJoined 3 (some .boolean) (zrm 0 0) [.ref o_, .ref v_state, .int v_link] Sh top μ (some (.int (bI r_))) Sh top μ 0 0 := by
  refine zMet_of (by decide) (Nat.le_of_ble_eq_true rfl) fun X hX1 hX2 fx fin => ?_
  subst hX1; subst hX2
  replace fx : zFix X cX6_areJoined RX6 (zrm 0 0) 3 := fx
  show zZ zK1 X (zT0 Sh top) μ 0 [(0, .ref o_), (1, .ref v_state), (2, .int v_link)] []
  unfold f6_areJoined at h
  obtain ⟨b1, e1, h⟩ := zinv h
  have k2 : zZ zK1 X (zT0 Sh top) μ 42 [(0, .ref o_), (1, .ref v_state), (2, .int v_link)] [.int (bI b1)] := by
    cases h
    exact z_zreturn fx fin d6_areJoined_42
  have kt3 : b1 = true → zZ zK1 X (zT0 Sh top) μ 37 [(0, .ref o_), (1, .ref v_state), (2, .int v_link)] [] := by
    intro hc
    refine z_iconst fx (v := 1) ic1 d6_areJoined_37 ?_
    refine z_goto fx d6_areJoined_38 ?_
    exact z_top (congrArg Value.int (show 1 = bI b1 by rw [hc]; rfl)) k2
  have kf3 : b1 = false → zZ zK1 X (zT0 Sh top) μ 41 [(0, .ref o_), (1, .ref v_state), (2, .int v_link)] [] := by
    intro hc
    refine z_iconst fx (v := 0) ic0 d6_areJoined_41 ?_
    exact z_top (congrArg Value.int (show 0 = bI b1 by rw [hc]; rfl)) k2
  refine z_aload_n fx (k := 0) (i := 0) rfl rfl d6_areJoined_0 ?_
  refine z_getO fx 6 0 1 ho lf6_9 fk6_0 d6_areJoined_1 ?_
  refine z_aload_n fx (k := 1) (i := 1) rfl rfl d6_areJoined_4 ?_
  obtain ⟨w2, e4, e1⟩ := zinv e1
  refine z_getR fx 8 12 812 17 h_state lf6_18 ⟨fk8_12, rfl⟩ e4 d6_areJoined_5 (fun tw2 => ?_)
  refine z_getO fx 10 6 7 tw2 lf6_34 fk10_6 d6_areJoined_8 ?_
  refine z_iconst fx (v := 2) ic2 d6_areJoined_11 ?_
  refine z_iload_n fx (k := 2) (i := 2) rfl rfl d6_areJoined_12 ?_
  refine z_imul fx d6_areJoined_13 ?_
  obtain ⟨t3, e5, e1⟩ := zinv e1
  refine z_iald fx (ok10_6 hO tw2) e5 d6_areJoined_14 ?_
  obtain ⟨t4, e6, e1⟩ := zinv e1
  refine z_iald fx (ok6_0 hO ho) e6 d6_areJoined_15 ?_
  refine z_aload_n fx (k := 0) (i := 0) rfl rfl d6_areJoined_16 ?_
  refine z_getO fx 6 0 1 ho lf6_9 fk6_0 d6_areJoined_17 ?_
  refine z_aload_n fx (k := 1) (i := 1) rfl rfl d6_areJoined_20 ?_
  obtain ⟨w5, e7, e1⟩ := zinv e1
  refine z_getR fx 8 12 812 17 h_state lf6_18 ⟨fk8_12, rfl⟩ e7 d6_areJoined_21 (fun tw5 => ?_)
  refine z_getO fx 10 6 7 tw5 lf6_34 fk10_6 d6_areJoined_24 ?_
  refine z_iconst fx (v := 2) ic2 d6_areJoined_27 ?_
  refine z_iload_n fx (k := 2) (i := 2) rfl rfl d6_areJoined_28 ?_
  refine z_imul fx d6_areJoined_29 ?_
  refine z_iconst fx (v := 1) ic1 d6_areJoined_30 ?_
  refine z_iadd fx d6_areJoined_31 ?_
  obtain ⟨t6, e8, e1⟩ := zinv e1
  refine z_iald fx (ok10_6 hO tw5) e8 d6_areJoined_32 ?_
  obtain ⟨t7, e9, e1⟩ := zinv e1
  refine z_iald fx (ok6_0 hO ho) e9 d6_areJoined_33 ?_
  cases e1
  refine z_icmp_ne fx d6_areJoined_34 (fun c10 => ?_) (fun c10 => ?_)
  · exact kf3 c10
  · exact kt3 c10
theorem d6_firstOnRing_0 : zd cX6_firstOnRing 0 (.iconst (-1)) 1 1 := by decide +kernel
theorem d6_firstOnRing_1 : zd cX6_firstOnRing 1 (.istore_n 2) 1 2 := by decide +kernel
theorem d6_firstOnRing_2 : zd cX6_firstOnRing 2 (.iconst 0) 1 3 := by decide +kernel
theorem d6_firstOnRing_3 : zd cX6_firstOnRing 3 (.istore_n 3) 1 4 := by decide +kernel
theorem d6_firstOnRing_4 : zd cX6_firstOnRing 4 (.iload_n 3) 1 5 := by decide +kernel
theorem d6_firstOnRing_5 : zd cX6_firstOnRing 5 (.aload_n 1) 1 6 := by decide +kernel
theorem d6_firstOnRing_6 : zd cX6_firstOnRing 6 (.getfield 18) 3 9 := by decide +kernel
theorem d6_firstOnRing_9 : zd cX6_firstOnRing 9 (.getfield 24) 3 12 := by decide +kernel
theorem d6_firstOnRing_12 : zj cX6_firstOnRing 12 (.if_icmp .ge 84) 84 15 96 := by decide +kernel
theorem d6_firstOnRing_15 : zd cX6_firstOnRing 15 (.aload_n 1) 1 16 := by decide +kernel
theorem d6_firstOnRing_16 : zd cX6_firstOnRing 16 (.iload_n 3) 1 17 := by decide +kernel
theorem d6_firstOnRing_17 : zd cX6_firstOnRing 17 (.invokevirtual 30) 3 20 := by decide +kernel
theorem d6_firstOnRing_20 : zj cX6_firstOnRing 20 (.ifCond .ne 6) 6 23 26 := by decide +kernel
theorem d6_firstOnRing_23 : zj cX6_firstOnRing 23 (.goto 67) 67 26 90 := by decide +kernel
theorem d6_firstOnRing_26 : zd cX6_firstOnRing 26 (.aload_n 0) 1 27 := by decide +kernel
theorem d6_firstOnRing_27 : zd cX6_firstOnRing 27 (.aload_n 1) 1 28 := by decide +kernel
theorem d6_firstOnRing_28 : zd cX6_firstOnRing 28 (.iload_n 3) 1 29 := by decide +kernel
theorem d6_firstOnRing_29 : zd cX6_firstOnRing 29 (.invokevirtual 37) 3 32 := by decide +kernel
theorem d6_firstOnRing_32 : zd cX6_firstOnRing 32 (.aload_n 0) 1 33 := by decide +kernel
theorem d6_firstOnRing_33 : zd cX6_firstOnRing 33 (.aload_n 1) 1 34 := by decide +kernel
theorem d6_firstOnRing_34 : zd cX6_firstOnRing 34 (.iload_n 3) 1 35 := by decide +kernel
theorem d6_firstOnRing_35 : zd cX6_firstOnRing 35 (.invokevirtual 44) 3 38 := by decide +kernel
theorem d6_firstOnRing_38 : zj cX6_firstOnRing 38 (.ifCond .ne 6) 6 41 44 := by decide +kernel
theorem d6_firstOnRing_41 : zj cX6_firstOnRing 41 (.goto 49) 49 44 90 := by decide +kernel
theorem d6_firstOnRing_44 : zd cX6_firstOnRing 44 (.aload_n 1) 1 45 := by decide +kernel
theorem d6_firstOnRing_45 : zd cX6_firstOnRing 45 (.getfield 18) 3 48 := by decide +kernel
theorem d6_firstOnRing_48 : zd cX6_firstOnRing 48 (.getfield 34) 3 51 := by decide +kernel
theorem d6_firstOnRing_51 : zd cX6_firstOnRing 51 (.iconst 2) 1 52 := by decide +kernel
theorem d6_firstOnRing_52 : zd cX6_firstOnRing 52 (.iload_n 3) 1 53 := by decide +kernel
theorem d6_firstOnRing_53 : zd cX6_firstOnRing 53 (.imul) 1 54 := by decide +kernel
theorem d6_firstOnRing_54 : zd cX6_firstOnRing 54 (.iaload) 1 55 := by decide +kernel
theorem d6_firstOnRing_55 : zd cX6_firstOnRing 55 (.aload_n 1) 1 56 := by decide +kernel
theorem d6_firstOnRing_56 : zd cX6_firstOnRing 56 (.getfield 18) 3 59 := by decide +kernel
theorem d6_firstOnRing_59 : zd cX6_firstOnRing 59 (.getfield 34) 3 62 := by decide +kernel
theorem d6_firstOnRing_62 : zd cX6_firstOnRing 62 (.iconst 2) 1 63 := by decide +kernel
theorem d6_firstOnRing_63 : zd cX6_firstOnRing 63 (.iload_n 3) 1 64 := by decide +kernel
theorem d6_firstOnRing_64 : zd cX6_firstOnRing 64 (.imul) 1 65 := by decide +kernel
theorem d6_firstOnRing_65 : zd cX6_firstOnRing 65 (.iconst 1) 1 66 := by decide +kernel
theorem d6_firstOnRing_66 : zd cX6_firstOnRing 66 (.iadd) 1 67 := by decide +kernel
theorem d6_firstOnRing_67 : zd cX6_firstOnRing 67 (.iaload) 1 68 := by decide +kernel
theorem d6_firstOnRing_68 : zd cX6_firstOnRing 68 (.invokestatic 55) 3 71 := by decide +kernel
theorem d6_firstOnRing_71 : zd cX6_firstOnRing 71 (.istore 4) 2 73 := by decide +kernel
theorem d6_firstOnRing_73 : zd cX6_firstOnRing 73 (.iload_n 2) 1 74 := by decide +kernel
theorem d6_firstOnRing_74 : zd cX6_firstOnRing 74 (.iconst (-1)) 1 75 := by decide +kernel
theorem d6_firstOnRing_75 : zj cX6_firstOnRing 75 (.if_icmp .ne 8) 8 78 83 := by decide +kernel
theorem d6_firstOnRing_78 : zd cX6_firstOnRing 78 (.iload 4) 2 80 := by decide +kernel
theorem d6_firstOnRing_80 : zj cX6_firstOnRing 80 (.goto 9) 9 83 89 := by decide +kernel
theorem d6_firstOnRing_83 : zd cX6_firstOnRing 83 (.iload_n 2) 1 84 := by decide +kernel
theorem d6_firstOnRing_84 : zd cX6_firstOnRing 84 (.iload 4) 2 86 := by decide +kernel
theorem d6_firstOnRing_86 : zd cX6_firstOnRing 86 (.invokestatic 55) 3 89 := by decide +kernel
theorem d6_firstOnRing_89 : zd cX6_firstOnRing 89 (.istore_n 2) 1 90 := by decide +kernel
theorem d6_firstOnRing_90 : zd cX6_firstOnRing 90 (.iinc 3 1) 3 93 := by decide +kernel
theorem d6_firstOnRing_93 : zj cX6_firstOnRing 93 (.goto (-89)) (-89) 96 4 := by decide +kernel
theorem d6_firstOnRing_96 : zd cX6_firstOnRing 96 (.iload_n 2) 1 97 := by decide +kernel
theorem d6_firstOnRing_97 : zd cX6_firstOnRing 97 (.ireturn) 1 98 := by decide +kernel
set_option maxHeartbeats 4000000 in
set_option maxRecDepth 20000 in
theorem c6_firstOnRing (l : Launch) (D : zDt) (Sh : zSh) (top : Nat) (hO : zOK Sh) (o_ : Nat) (v_state : Nat) (μ : zM) (r_ : Int32) (μ_ : zM) (ho : (Sh o_).1 = 13) (h_state : (Sh v_state).1 = 15) (h : f6_firstOnRing o_ v_state μ = some (r_, μ_)) : zMet l D zK1 yX6_firstOnRing cX6_firstOnRing 5 (some .int) (zrm 2 47) [.ref o_, .ref v_state] Sh top μ (some (.int r_)) Sh top μ_ 0 0 := by
  refine zMet_of (by decide) (Nat.le_of_ble_eq_true rfl) fun X hX1 hX2 fx fin => ?_
  subst hX1; subst hX2
  replace fx : zFix X cX6_firstOnRing RX6 (zrm 2 47) 5 := fx
  show zZ zK1 X (zT0 Sh top) μ 0 [(0, .ref o_), (1, .ref v_state)] []
  unfold f6_firstOnRing at h
  refine z_iconst fx (v := (-1)) icm1 d6_firstOnRing_0 ?_
  refine z_istore_n fx (k := 2) (i := 2) rfl rfl (lv' := [(0, .ref o_), (1, .ref v_state), (2, .int (-1))]) rfl rfl d6_firstOnRing_1 ?_
  refine z_iconst fx (v := 0) ic0 d6_firstOnRing_2 ?_
  refine z_istore_n fx (k := 3) (i := 3) rfl rfl (lv' := [(0, .ref o_), (1, .ref v_state), (2, .int (-1)), (3, .int 0)]) rfl rfl d6_firstOnRing_3 ?_
  obtain ⟨v_first_4, v_link_5, μ6, e24, h⟩ := zinv3 h
  have kx4 : zZ zK1 X (zT0 Sh top) μ6 96 [(0, .ref o_), (1, .ref v_state), (2, .int v_first_4), (3, .int v_link_5)] [] := by
    refine z_take 3 (lv' := [(0, .ref o_), (1, .ref v_state), (2, .int v_first_4)]) rfl ?_
    refine z_iload_n fx (k := 2) (i := 2) rfl rfl d6_firstOnRing_96 ?_
    cases h
    exact z_ireturn fx fin d6_firstOnRing_97
  clear h
  have klr3 : ∀ (n : Nat) (v_first_1 : Int32) (v_link_2 : Int32) (μ3 : zM), zloop (fun s => f6_firstOnRing_L1 o_ v_state s.1 s.2.1 s.2.2) n (v_first_1, v_link_2, μ3) = some (v_first_4, v_link_5, μ6) → zZ zK1 X (zT0 Sh top) μ3 4 [(0, .ref o_), (1, .ref v_state), (2, .int v_first_1), (3, .int v_link_2)] [] := by
    intro n
    induction n with
    | zero => intro v_first_1 v_link_2 μ3 hl2; cases hl2
    | succ n ih5 =>
      intro v_first_1 v_link_2 μ3 hl2
      obtain ⟨y, e1, hl2⟩ := zloop_inv hl2
      replace e1 : f6_firstOnRing_L1 o_ v_state v_first_1 v_link_2 μ3 = some y := e1
      unfold f6_firstOnRing_L1 at e1
      refine z_iload_n fx (k := 3) (i := 3) rfl rfl d6_firstOnRing_4 ?_
      refine z_aload_n fx (k := 1) (i := 1) rfl rfl d6_firstOnRing_5 ?_
      obtain ⟨w7, e6, e1⟩ := zinv e1
      refine z_getR fx 8 12 812 17 h_state lf6_18 ⟨fk8_12, rfl⟩ e6 d6_firstOnRing_6 (fun tw7 => ?_)
      refine z_getI fx 10 16 1016 tw7 lf6_24 ⟨fk10_16, rfl⟩ d6_firstOnRing_9 ?_
      refine z_icmp_ge fx d6_firstOnRing_12 (fun c7 => ?_) (fun c7 => ?_)
      · replace e1 := zif_f c7 e1
        cases e1
        cases hl2
        exact kx4
      · replace e1 := zif_t c7 e1
        refine z_aload_n fx (k := 1) (i := 1) rfl rfl d6_firstOnRing_15 ?_
        refine z_iload_n fx (k := 3) (i := 3) rfl rfl d6_firstOnRing_16 ?_
        obtain ⟨t8, e8, e1⟩ := zinv e1
        refine z_cVr fx (c8_isOpen (zLo X) (zDo X) Sh top hO v_state v_link_2 μ3 _ h_state e8) mv8_isOpen ml6_30 h_state rfl rfl rfl rfl d6_firstOnRing_17 ?_
        refine z_ifb_ne fx d6_firstOnRing_20 (fun c9 => ?_) (fun c9 => ?_)
        · replace e1 := zif_t c9 e1
          refine z_aload_n fx (k := 0) (i := 0) rfl rfl d6_firstOnRing_26 ?_
          refine z_aload_n fx (k := 1) (i := 1) rfl rfl d6_firstOnRing_27 ?_
          refine z_iload_n fx (k := 3) (i := 3) rfl rfl d6_firstOnRing_28 ?_
          obtain ⟨μ9, e10, e1⟩ := zinv e1
          refine z_cVv fx (c6_labelJoined (zLo X) (zDo X) Sh top hO o_ v_state v_link_2 μ3 _ ho h_state e10) mv6_labelJoined ml6_37 ho rfl rfl rfl rfl d6_firstOnRing_29 ?_
          refine z_aload_n fx (k := 0) (i := 0) rfl rfl d6_firstOnRing_32 ?_
          refine z_aload_n fx (k := 1) (i := 1) rfl rfl d6_firstOnRing_33 ?_
          refine z_iload_n fx (k := 3) (i := 3) rfl rfl d6_firstOnRing_34 ?_
          obtain ⟨t10, e11, e1⟩ := zinv e1
          refine z_cVr fx (c6_areJoined (zLo X) (zDo X) Sh top hO o_ v_state v_link_2 μ9 _ ho h_state e11) mv6_areJoined ml6_44 ho rfl rfl rfl rfl d6_firstOnRing_35 ?_
          refine z_ifb_ne fx d6_firstOnRing_38 (fun c12 => ?_) (fun c12 => ?_)
          · replace e1 := zif_t c12 e1
            refine z_aload_n fx (k := 1) (i := 1) rfl rfl d6_firstOnRing_44 ?_
            obtain ⟨w11, e13, e1⟩ := zinv e1
            refine z_getR fx 8 12 812 17 h_state lf6_18 ⟨fk8_12, rfl⟩ e13 d6_firstOnRing_45 (fun tw11 => ?_)
            refine z_getO fx 10 6 7 tw11 lf6_34 fk10_6 d6_firstOnRing_48 ?_
            refine z_iconst fx (v := 2) ic2 d6_firstOnRing_51 ?_
            refine z_iload_n fx (k := 3) (i := 3) rfl rfl d6_firstOnRing_52 ?_
            refine z_imul fx d6_firstOnRing_53 ?_
            obtain ⟨t12, e14, e1⟩ := zinv e1
            refine z_iald fx (ok10_6 hO tw11) e14 d6_firstOnRing_54 ?_
            refine z_aload_n fx (k := 1) (i := 1) rfl rfl d6_firstOnRing_55 ?_
            obtain ⟨w13, e15, e1⟩ := zinv e1
            refine z_getR fx 8 12 812 17 h_state lf6_18 ⟨fk8_12, rfl⟩ e15 d6_firstOnRing_56 (fun tw13 => ?_)
            refine z_getO fx 10 6 7 tw13 lf6_34 fk10_6 d6_firstOnRing_59 ?_
            refine z_iconst fx (v := 2) ic2 d6_firstOnRing_62 ?_
            refine z_iload_n fx (k := 3) (i := 3) rfl rfl d6_firstOnRing_63 ?_
            refine z_imul fx d6_firstOnRing_64 ?_
            refine z_iconst fx (v := 1) ic1 d6_firstOnRing_65 ?_
            refine z_iadd fx d6_firstOnRing_66 ?_
            obtain ⟨t14, e16, e1⟩ := zinv e1
            refine z_iald fx (ok10_6 hO tw13) e16 d6_firstOnRing_67 ?_
            refine z_mmin fx ml6_55 zm_min (Nat.le_of_ble_eq_true rfl) ⟨Nat.le_of_ble_eq_true rfl, Nat.le_of_ble_eq_true rfl, Nat.le_of_ble_eq_true rfl, Nat.le_of_ble_eq_true rfl⟩ d6_firstOnRing_68 ?_
            obtain ⟨v_least_15, e17, e1⟩ := zinv e1
            replace e17 := Option.some.inj e17
            refine z_top (congrArg Value.int e17) ?_
            refine z_istore fx (i := 4) rfl (lv' := [(0, .ref o_), (1, .ref v_state), (2, .int v_first_1), (3, .int v_link_2), (4, .int v_least_15)]) rfl rfl d6_firstOnRing_71 ?_
            obtain ⟨x16, e18, e1⟩ := zinv e1
            have k19 : zZ zK1 X (zT0 Sh top) μ9 89 [(0, .ref o_), (1, .ref v_state), (2, .int v_first_1), (3, .int v_link_2), (4, .int v_least_15)] [.int x16] := by
              refine z_istore_n fx (k := 2) (i := 2) rfl rfl (lv' := [(0, .ref o_), (1, .ref v_state), (2, .int x16), (3, .int v_link_2), (4, .int v_least_15)]) rfl rfl d6_firstOnRing_89 ?_
              refine z_take 4 (lv' := [(0, .ref o_), (1, .ref v_state), (2, .int x16), (3, .int v_link_2)]) rfl ?_
              obtain ⟨v_link_17, e21, e1⟩ := zinv e1
              replace e21 := Option.some.inj e21
              refine z_iinc fx (i := 3) (x := v_link_2) (v := v_link_17) rfl (by rw [in1]; exact e21) rfl (lv' := [(0, .ref o_), (1, .ref v_state), (2, .int x16), (3, .int v_link_17)]) rfl rfl d6_firstOnRing_90 ?_
              cases e1
              refine z_goto fx d6_firstOnRing_93 ?_
              exact ih5 _ _ _ hl2
            refine z_iload_n fx (k := 2) (i := 2) rfl rfl d6_firstOnRing_73 ?_
            refine z_iconst fx (v := (-1)) icm1 d6_firstOnRing_74 ?_
            refine z_icmp_ne fx d6_firstOnRing_75 (fun c20 => ?_) (fun c20 => ?_)
            · replace e18 := zif_f c20 e18
              refine z_iload_n fx (k := 2) (i := 2) rfl rfl d6_firstOnRing_83 ?_
              refine z_iload fx (i := 4) rfl d6_firstOnRing_84 ?_
              refine z_mmin fx ml6_55 zm_min (Nat.le_of_ble_eq_true rfl) ⟨Nat.le_of_ble_eq_true rfl, Nat.le_of_ble_eq_true rfl, Nat.le_of_ble_eq_true rfl, Nat.le_of_ble_eq_true rfl⟩ d6_firstOnRing_86 ?_
              cases e18
              exact k19
            · replace e18 := zif_t c20 e18
              refine z_iload fx (i := 4) rfl d6_firstOnRing_78 ?_
              cases e18
              refine z_goto fx d6_firstOnRing_80 ?_
              exact k19
          · replace e1 := zif_f c12 e1
            refine z_goto fx d6_firstOnRing_41 ?_
            obtain ⟨v_link_18, e22, e1⟩ := zinv e1
            replace e22 := Option.some.inj e22
            refine z_iinc fx (i := 3) (x := v_link_2) (v := v_link_18) rfl (by rw [in1]; exact e22) rfl (lv' := [(0, .ref o_), (1, .ref v_state), (2, .int v_first_1), (3, .int v_link_18)]) rfl rfl d6_firstOnRing_90 ?_
            cases e1
            refine z_goto fx d6_firstOnRing_93 ?_
            exact ih5 _ _ _ hl2
        · replace e1 := zif_f c9 e1
          refine z_goto fx d6_firstOnRing_23 ?_
          obtain ⟨v_link_19, e23, e1⟩ := zinv e1
          replace e23 := Option.some.inj e23
          refine z_iinc fx (i := 3) (x := v_link_2) (v := v_link_19) rfl (by rw [in1]; exact e23) rfl (lv' := [(0, .ref o_), (1, .ref v_state), (2, .int v_first_1), (3, .int v_link_19)]) rfl rfl d6_firstOnRing_90 ?_
          cases e1
          refine z_goto fx d6_firstOnRing_93 ?_
          exact ih5 _ _ _ hl2
  exact klr3 _ _ _ _ e24
theorem d11_ring_0 : zd cX11_ring 0 (.iload_n 1) 1 1 := by decide +kernel
theorem d11_ring_1 : decode cX11_ring 1 = .ok (.lookupswitch 51 #[(0, 27), (1, 39)], 27) := by decide +kernel
theorem d11_ring_28 : zd cX11_ring 28 (.aload_n 0) 1 29 := by decide +kernel
theorem d11_ring_29 : zd cX11_ring 29 (.getfield 29) 3 32 := by decide +kernel
theorem d11_ring_32 : zd cX11_ring 32 (.aload_n 0) 1 33 := by decide +kernel
theorem d11_ring_33 : zd cX11_ring 33 (.getfield 75) 3 36 := by decide +kernel
theorem d11_ring_36 : zd cX11_ring 36 (.invokevirtual 308) 3 39 := by decide +kernel
theorem d11_ring_39 : zd cX11_ring 39 (.ireturn) 1 40 := by decide +kernel
theorem d11_ring_40 : zd cX11_ring 40 (.aload_n 0) 1 41 := by decide +kernel
theorem d11_ring_41 : zd cX11_ring 41 (.getfield 29) 3 44 := by decide +kernel
theorem d11_ring_44 : zd cX11_ring 44 (.aload_n 0) 1 45 := by decide +kernel
theorem d11_ring_45 : zd cX11_ring 45 (.getfield 75) 3 48 := by decide +kernel
theorem d11_ring_48 : zd cX11_ring 48 (.invokevirtual 312) 3 51 := by decide +kernel
theorem d11_ring_51 : zd cX11_ring 51 (.ireturn) 1 52 := by decide +kernel
theorem d11_ring_52 : zd cX11_ring 52 (.iconst (-1)) 1 53 := by decide +kernel
theorem d11_ring_53 : zd cX11_ring 53 (.ireturn) 1 54 := by decide +kernel
set_option maxHeartbeats 4000000 in
set_option maxRecDepth 20000 in
theorem c11_ring (l : Launch) (D : zDt) (Sh : zSh) (top : Nat) (hO : zOK Sh) (o_ : Nat) (v_what : Int32) (μ : zM) (r_ : Int32) (μ_ : zM) (ho : (Sh o_).1 = 18) (h : f11_ring o_ v_what μ = some (r_, μ_)) : zMet l D zK1 yX11_ring cX11_ring 2 (some .int) (zrm 3 72) [.ref o_, .int v_what] Sh top μ (some (.int r_)) Sh top μ_ 0 0 := by
  refine zMet_of (by decide) (Nat.le_of_ble_eq_true rfl) fun X hX1 hX2 fx fin => ?_
  subst hX1; subst hX2
  replace fx : zFix X cX11_ring RX11 (zrm 3 72) 2 := fx
  show zZ zK1 X (zT0 Sh top) μ 0 [(0, .ref o_), (1, .int v_what)] []
  unfold f11_ring at h
  refine z_iload_n fx (k := 1) (i := 1) rfl rfl d11_ring_0 ?_
  cases c1 : ceq v_what 0 with
  | true =>
    replace h := zif_t c1 h
    refine z_lookup fx d11_ring_1 (off := 27) (tgt := 28) (by rw [ceq_of c1]; decide) (by decide) ?_
    refine z_aload_n fx (k := 0) (i := 0) rfl rfl d11_ring_28 ?_
    refine z_getO fx 11 6 11 ho lf11_29 fk11_6 d11_ring_29 ?_
    refine z_aload_n fx (k := 0) (i := 0) rfl rfl d11_ring_32 ?_
    refine z_getO fx 11 3 51 ho lf11_75 fk11_3 d11_ring_33 ?_
    obtain ⟨t1, μ2, e2, h⟩ := zinv2 h
    refine z_cVr fx (c6_countSpare (zLo X) (zDo X) Sh top hO (o_ + 11) (o_ + 51) μ _ _ (ok11_6 hO ho) (ok11_3 hO ho) e2) mv6_countSpare ml11_308 (ok11_6 hO ho) rfl rfl rfl rfl d11_ring_36 ?_
    cases h
    exact z_ireturn fx fin d11_ring_39
  | false =>
  replace h := zif_f c1 h
  cases c3 : ceq v_what 1 with
  | true =>
    replace h := zif_t c3 h
    refine z_lookup fx d11_ring_1 (off := 39) (tgt := 40) (by rw [ceq_of c3]; decide) (by decide) ?_
    refine z_aload_n fx (k := 0) (i := 0) rfl rfl d11_ring_40 ?_
    refine z_getO fx 11 6 11 ho lf11_29 fk11_6 d11_ring_41 ?_
    refine z_aload_n fx (k := 0) (i := 0) rfl rfl d11_ring_44 ?_
    refine z_getO fx 11 3 51 ho lf11_75 fk11_3 d11_ring_45 ?_
    obtain ⟨t3, μ4, e4, h⟩ := zinv2 h
    refine z_cVr fx (c6_firstOnRing (zLo X) (zDo X) Sh top hO (o_ + 11) (o_ + 51) μ _ _ (ok11_6 hO ho) (ok11_3 hO ho) e4) mv6_firstOnRing ml11_312 (ok11_6 hO ho) rfl rfl rfl rfl d11_ring_48 ?_
    cases h
    exact z_ireturn fx fin d11_ring_51
  | false =>
  replace h := zif_f c3 h
  have hn0 := zne c1 (k := 0) (by decide)
  have hn1 := zne c3 (k := 1) (by decide)
  refine z_lookup fx d11_ring_1 (off := 51) (tgt := 52) ⟨by simp [Op.lookupswitch.offset, hn0, Ne.symm hn0, hn1, Ne.symm hn1], by decide⟩ (by decide) ?_
  refine z_iconst fx (v := (-1)) icm1 d11_ring_52 ?_
  cases h
  exact z_ireturn fx fin d11_ring_53
theorem d11_rings_0 : zd cX11_rings 0 (.iload_n 1) 1 1 := by decide +kernel
theorem d11_rings_1 : zd cX11_rings 1 (.iconst 1) 1 2 := by decide +kernel
theorem d11_rings_2 : zj cX11_rings 2 (.if_icmp .lt 20) 20 5 22 := by decide +kernel
theorem d11_rings_5 : zd cX11_rings 5 (.iload_n 1) 1 6 := by decide +kernel
theorem d11_rings_6 : zd cX11_rings 6 (.sipush 200) 3 9 := by decide +kernel
theorem d11_rings_9 : zj cX11_rings 9 (.if_icmp .gt 13) 13 12 22 := by decide +kernel
theorem d11_rings_12 : zd cX11_rings 12 (.aload_n 0) 1 13 := by decide +kernel
theorem d11_rings_13 : zd cX11_rings 13 (.getfield 56) 3 16 := by decide +kernel
theorem d11_rings_16 : zd cX11_rings 16 (.getfield 300) 3 19 := by decide +kernel
theorem d11_rings_19 : zj cX11_rings 19 (.ifCond .ne 5) 5 22 24 := by decide +kernel
theorem d11_rings_22 : zd cX11_rings 22 (.iconst (-1)) 1 23 := by decide +kernel
theorem d11_rings_23 : zd cX11_rings 23 (.ireturn) 1 24 := by decide +kernel
theorem d11_rings_24 : zd cX11_rings 24 (.aload_n 0) 1 25 := by decide +kernel
theorem d11_rings_25 : zd cX11_rings 25 (.getfield 79) 3 28 := by decide +kernel
theorem d11_rings_28 : zd cX11_rings 28 (.aload_n 0) 1 29 := by decide +kernel
theorem d11_rings_29 : zd cX11_rings 29 (.getfield 75) 3 32 := by decide +kernel
theorem d11_rings_32 : zd cX11_rings 32 (.invokevirtual 303) 3 35 := by decide +kernel
theorem d11_rings_35 : zd cX11_rings 35 (.iconst 0) 1 36 := by decide +kernel
theorem d11_rings_36 : zd cX11_rings 36 (.istore_n 2) 1 37 := by decide +kernel
theorem d11_rings_37 : zd cX11_rings 37 (.iconst 0) 1 38 := by decide +kernel
theorem d11_rings_38 : zd cX11_rings 38 (.istore_n 3) 1 39 := by decide +kernel
theorem d11_rings_39 : zd cX11_rings 39 (.iload_n 3) 1 40 := by decide +kernel
theorem d11_rings_40 : zd cX11_rings 40 (.iload_n 1) 1 41 := by decide +kernel
theorem d11_rings_41 : zj cX11_rings 41 (.if_icmp .ge 38) 38 44 79 := by decide +kernel
theorem d11_rings_44 : zd cX11_rings 44 (.aload_n 0) 1 45 := by decide +kernel
theorem d11_rings_45 : zd cX11_rings 45 (.getfield 79) 3 48 := by decide +kernel
theorem d11_rings_48 : zd cX11_rings 48 (.invokevirtual 306) 3 51 := by decide +kernel
theorem d11_rings_51 : zd cX11_rings 51 (.iload_n 2) 1 52 := by decide +kernel
theorem d11_rings_52 : zd cX11_rings 52 (.aload_n 0) 1 53 := by decide +kernel
theorem d11_rings_53 : zd cX11_rings 53 (.getfield 29) 3 56 := by decide +kernel
theorem d11_rings_56 : zd cX11_rings 56 (.aload_n 0) 1 57 := by decide +kernel
theorem d11_rings_57 : zd cX11_rings 57 (.getfield 79) 3 60 := by decide +kernel
theorem d11_rings_60 : zd cX11_rings 60 (.invokevirtual 308) 3 63 := by decide +kernel
theorem d11_rings_63 : zj cX11_rings 63 (.ifCond .le 7) 7 66 70 := by decide +kernel
theorem d11_rings_66 : zd cX11_rings 66 (.iconst 1) 1 67 := by decide +kernel
theorem d11_rings_67 : zj cX11_rings 67 (.goto 4) 4 70 71 := by decide +kernel
theorem d11_rings_70 : zd cX11_rings 70 (.iconst 0) 1 71 := by decide +kernel
theorem d11_rings_71 : zd cX11_rings 71 (.iadd) 1 72 := by decide +kernel
theorem d11_rings_72 : zd cX11_rings 72 (.istore_n 2) 1 73 := by decide +kernel
theorem d11_rings_73 : zd cX11_rings 73 (.iinc 3 1) 3 76 := by decide +kernel
theorem d11_rings_76 : zj cX11_rings 76 (.goto (-37)) (-37) 79 39 := by decide +kernel
theorem d11_rings_79 : zd cX11_rings 79 (.iload_n 2) 1 80 := by decide +kernel
theorem d11_rings_80 : zd cX11_rings 80 (.ireturn) 1 81 := by decide +kernel
set_option maxHeartbeats 4000000 in
set_option maxRecDepth 20000 in
theorem c11_rings (l : Launch) (D : zDt) (Sh : zSh) (top : Nat) (hO : zOK Sh) (o_ : Nat) (v_n : Int32) (μ : zM) (r_ : Int32) (μ_ : zM) (ho : (Sh o_).1 = 18) (h : f11_rings o_ v_n μ = some (r_, μ_)) : zMet l D zK1 yX11_rings cX11_rings 4 (some .int) (zrm 6 143) [.ref o_, .int v_n] Sh top μ (some (.int r_)) Sh top μ_ 0 0 := by
  refine zMet_of (by decide) (Nat.le_of_ble_eq_true rfl) fun X hX1 hX2 fx fin => ?_
  subst hX1; subst hX2
  replace fx : zFix X cX11_rings RX11 (zrm 6 143) 4 := fx
  show zZ zK1 X (zT0 Sh top) μ 0 [(0, .ref o_), (1, .int v_n)] []
  unfold f11_rings at h
  obtain ⟨b1, e2, h⟩ := zinv h
  have kt1 : b1 = true → zZ zK1 X (zT0 Sh top) μ 22 [(0, .ref o_), (1, .int v_n)] [] := by
    intro hc
    replace h := zif_t hc h
    refine z_iconst fx (v := (-1)) icm1 d11_rings_22 ?_
    cases h
    exact z_ireturn fx fin d11_rings_23
  have kf1 : b1 = false → zZ zK1 X (zT0 Sh top) μ 24 [(0, .ref o_), (1, .int v_n)] [] := by
    intro hc
    replace h := zif_f hc h
    refine z_aload_n fx (k := 0) (i := 0) rfl rfl d11_rings_24 ?_
    refine z_getO fx 11 2 312 ho lf11_79 fk11_2 d11_rings_25 ?_
    refine z_aload_n fx (k := 0) (i := 0) rfl rfl d11_rings_28 ?_
    refine z_getO fx 11 3 51 ho lf11_75 fk11_3 d11_rings_29 ?_
    obtain ⟨μ2, e3, h⟩ := zinv h
    refine z_cVv fx (c8_copyFrom (zLo X) (zDo X) Sh top hO (o_ + 312) (o_ + 51) μ _ (ok11_2 hO ho) (ok11_3 hO ho) e3) mv8_copyFrom ml11_303 (ok11_2 hO ho) rfl rfl rfl rfl d11_rings_32 ?_
    refine z_iconst fx (v := 0) ic0 d11_rings_35 ?_
    refine z_istore_n fx (k := 2) (i := 2) rfl rfl (lv' := [(0, .ref o_), (1, .int v_n), (2, .int 0)]) rfl rfl d11_rings_36 ?_
    refine z_iconst fx (v := 0) ic0 d11_rings_37 ?_
    refine z_istore_n fx (k := 3) (i := 3) rfl rfl (lv' := [(0, .ref o_), (1, .int v_n), (2, .int 0), (3, .int 0)]) rfl rfl d11_rings_38 ?_
    obtain ⟨v_count_6, v_steps_7, μ8, e17, h⟩ := zinv3 h
    have kx7 : zZ zK1 X (zT0 Sh top) μ8 79 [(0, .ref o_), (1, .int v_n), (2, .int v_count_6), (3, .int v_steps_7)] [] := by
      refine z_take 3 (lv' := [(0, .ref o_), (1, .int v_n), (2, .int v_count_6)]) rfl ?_
      refine z_iload_n fx (k := 2) (i := 2) rfl rfl d11_rings_79 ?_
      cases h
      exact z_ireturn fx fin d11_rings_80
    clear h
    have klr6 : ∀ (n : Nat) (v_count_3 : Int32) (v_steps_4 : Int32) (μ5 : zM), zloop (fun s => f11_rings_L1 o_ v_n s.1 s.2.1 s.2.2) n (v_count_3, v_steps_4, μ5) = some (v_count_6, v_steps_7, μ8) → zZ zK1 X (zT0 Sh top) μ5 39 [(0, .ref o_), (1, .int v_n), (2, .int v_count_3), (3, .int v_steps_4)] [] := by
      intro n
      induction n with
      | zero => intro v_count_3 v_steps_4 μ5 hl5; cases hl5
      | succ n ih8 =>
        intro v_count_3 v_steps_4 μ5 hl5
        obtain ⟨y, e4, hl5⟩ := zloop_inv hl5
        replace e4 : f11_rings_L1 o_ v_n v_count_3 v_steps_4 μ5 = some y := e4
        unfold f11_rings_L1 at e4
        refine z_iload_n fx (k := 3) (i := 3) rfl rfl d11_rings_39 ?_
        refine z_iload_n fx (k := 1) (i := 1) rfl rfl d11_rings_40 ?_
        refine z_icmp_ge fx d11_rings_41 (fun c9 => ?_) (fun c9 => ?_)
        · replace e4 := zif_f c9 e4
          cases e4
          cases hl5
          exact kx7
        · replace e4 := zif_t c9 e4
          refine z_aload_n fx (k := 0) (i := 0) rfl rfl d11_rings_44 ?_
          refine z_getO fx 11 2 312 ho lf11_79 fk11_2 d11_rings_45 ?_
          obtain ⟨μ9, e10, e4⟩ := zinv e4
          refine z_cVv fx (c8_step (zLo X) (zDo X) Sh top hO (o_ + 312) μ5 _ (ok11_2 hO ho) e10) mv8_step ml11_306 (ok11_2 hO ho) rfl rfl rfl rfl d11_rings_48 ?_
          refine z_iload_n fx (k := 2) (i := 2) rfl rfl d11_rings_51 ?_
          obtain ⟨x10, μ11, e11, e4⟩ := zinv2 e4
          have k12 : zZ zK1 X (zT0 Sh top) μ11 71 [(0, .ref o_), (1, .int v_n), (2, .int v_count_3), (3, .int v_steps_4)] [.int x10, .int v_count_3] := by
            refine z_iadd fx d11_rings_71 ?_
            obtain ⟨v_count_14, e15, e4⟩ := zinv e4
            replace e15 := Option.some.inj e15
            refine z_top (congrArg Value.int e15) ?_
            refine z_istore_n fx (k := 2) (i := 2) rfl rfl (lv' := [(0, .ref o_), (1, .int v_n), (2, .int v_count_14), (3, .int v_steps_4)]) rfl rfl d11_rings_72 ?_
            obtain ⟨v_steps_15, e16, e4⟩ := zinv e4
            replace e16 := Option.some.inj e16
            refine z_iinc fx (i := 3) (x := v_steps_4) (v := v_steps_15) rfl (by rw [in1]; exact e16) rfl (lv' := [(0, .ref o_), (1, .int v_n), (2, .int v_count_14), (3, .int v_steps_15)]) rfl rfl d11_rings_73 ?_
            cases e4
            refine z_goto fx d11_rings_76 ?_
            exact ih8 _ _ _ hl5
          refine z_aload_n fx (k := 0) (i := 0) rfl rfl d11_rings_52 ?_
          refine z_getO fx 11 6 11 ho lf11_29 fk11_6 d11_rings_53 ?_
          refine z_aload_n fx (k := 0) (i := 0) rfl rfl d11_rings_56 ?_
          refine z_getO fx 11 2 312 ho lf11_79 fk11_2 d11_rings_57 ?_
          obtain ⟨t12, μ13, e13, e11⟩ := zinv2 e11
          refine z_cVr fx (c6_countSpare (zLo X) (zDo X) Sh top hO (o_ + 11) (o_ + 312) μ9 _ _ (ok11_6 hO ho) (ok11_2 hO ho) e13) mv6_countSpare ml11_308 (ok11_6 hO ho) rfl rfl rfl rfl d11_rings_60 ?_
          refine z_if_le fx d11_rings_63 (fun c14 => ?_) (fun c14 => ?_)
          · replace e11 := zif_f c14 e11
            refine z_iconst fx (v := 0) ic0 d11_rings_70 ?_
            cases e11
            exact k12
          · replace e11 := zif_t c14 e11
            refine z_iconst fx (v := 1) ic1 d11_rings_66 ?_
            cases e11
            refine z_goto fx d11_rings_67 ?_
            exact k12
    exact klr6 _ _ _ _ e17
  clear h
  have kf18 : ((clt v_n 1) || (clt 200 v_n)) = false → zZ zK1 X (zT0 Sh top) μ 12 [(0, .ref o_), (1, .int v_n)] [] := by
    intro hc
    replace e2 := zif_f hc e2
    refine z_aload_n fx (k := 0) (i := 0) rfl rfl d11_rings_12 ?_
    obtain ⟨w16, e19, e2⟩ := zinv e2
    refine z_getR fx 11 11 1111 17 ho lf11_56 ⟨fk11_11, rfl⟩ e19 d11_rings_13 (fun tw16 => ?_)
    refine z_getB fx 10 12 1012 tw16 lf11_300 ⟨fk10_12, rfl⟩ d11_rings_16 ?_
    cases e2
    refine z_ifb_ne fx d11_rings_19 (fun c20 => ?_) (fun c20 => ?_)
    · exact kf1 (by rw [c20]; rfl)
    · exact kt1 (by rw [c20]; rfl)
  have kt18 : ((clt v_n 1) || (clt 200 v_n)) = true → zZ zK1 X (zT0 Sh top) μ 22 [(0, .ref o_), (1, .int v_n)] [] := by
    intro hc
    replace e2 := zif_t hc e2
    cases e2
    exact kt1 rfl
  refine z_iload_n fx (k := 1) (i := 1) rfl rfl d11_rings_0 ?_
  refine z_iconst fx (v := 1) ic1 d11_rings_1 ?_
  refine z_icmp_lt fx d11_rings_2 (fun c21 => ?_) (fun c21 => ?_)
  · exact kt18 (by simp [c21])
  · refine z_iload_n fx (k := 1) (i := 1) rfl rfl d11_rings_5 ?_
    refine z_sipush fx (v := 200) sp200 d11_rings_6 ?_
    refine z_icmp_gt fx d11_rings_9 (fun c22 => ?_) (fun c22 => ?_)
    · exact kt18 (by simp [c21, c22])
    · exact kf18 (by simp [c21, c22])
theorem d11_isOn_0 : zd cX11_isOn 0 (.aload_n 0) 1 1 := by decide +kernel
theorem d11_isOn_1 : zd cX11_isOn 1 (.getfield 56) 3 4 := by decide +kernel
theorem d11_isOn_4 : zd cX11_isOn 4 (.iload_n 1) 1 5 := by decide +kernel
theorem d11_isOn_5 : zd cX11_isOn 5 (.invokevirtual 161) 3 8 := by decide +kernel
theorem d11_isOn_8 : zj cX11_isOn 8 (.ifCond .eq 22) 22 11 30 := by decide +kernel
theorem d11_isOn_11 : zd cX11_isOn 11 (.aload_n 0) 1 12 := by decide +kernel
theorem d11_isOn_12 : zd cX11_isOn 12 (.getfield 75) 3 15 := by decide +kernel
theorem d11_isOn_15 : zd cX11_isOn 15 (.getfield 195) 3 18 := by decide +kernel
theorem d11_isOn_18 : zd cX11_isOn 18 (.iload_n 1) 1 19 := by decide +kernel
theorem d11_isOn_19 : zd cX11_isOn 19 (.aaload) 1 20 := by decide +kernel
theorem d11_isOn_20 : zd cX11_isOn 20 (.getfield 209) 3 23 := by decide +kernel
theorem d11_isOn_23 : zj cX11_isOn 23 (.ifCond .eq 7) 7 26 30 := by decide +kernel
theorem d11_isOn_26 : zd cX11_isOn 26 (.iconst 1) 1 27 := by decide +kernel
theorem d11_isOn_27 : zj cX11_isOn 27 (.goto 4) 4 30 31 := by decide +kernel
theorem d11_isOn_30 : zd cX11_isOn 30 (.iconst 0) 1 31 := by decide +kernel
theorem d11_isOn_31 : zd cX11_isOn 31 (.ireturn) 1 32 := by decide +kernel
set_option maxHeartbeats 4000000 in
set_option maxRecDepth 20000 in
theorem c11_isOn (l : Launch) (D : zDt) (Sh : zSh) (top : Nat) (hO : zOK Sh) (o_ : Nat) (v_bridge : Int32) (μ : zM) (r_ : Bool) (ho : (Sh o_).1 = 18) (h : f11_isOn o_ v_bridge μ = some r_) : zMet l D zK1 yX11_isOn cX11_isOn 2 (some .boolean) (zrm 1 21) [.ref o_, .int v_bridge] Sh top μ (some (.int (bI r_))) Sh top μ 0 0 := by
  refine zMet_of (by decide) (Nat.le_of_ble_eq_true rfl) fun X hX1 hX2 fx fin => ?_
  subst hX1; subst hX2
  replace fx : zFix X cX11_isOn RX11 (zrm 1 21) 2 := fx
  show zZ zK1 X (zT0 Sh top) μ 0 [(0, .ref o_), (1, .int v_bridge)] []
  unfold f11_isOn at h
  obtain ⟨b1, e1, h⟩ := zinv h
  have k2 : zZ zK1 X (zT0 Sh top) μ 31 [(0, .ref o_), (1, .int v_bridge)] [.int (bI b1)] := by
    cases h
    exact z_zreturn fx fin d11_isOn_31
  have kt3 : b1 = true → zZ zK1 X (zT0 Sh top) μ 26 [(0, .ref o_), (1, .int v_bridge)] [] := by
    intro hc
    refine z_iconst fx (v := 1) ic1 d11_isOn_26 ?_
    refine z_goto fx d11_isOn_27 ?_
    exact z_top (congrArg Value.int (show 1 = bI b1 by rw [hc]; rfl)) k2
  have kf3 : b1 = false → zZ zK1 X (zT0 Sh top) μ 30 [(0, .ref o_), (1, .int v_bridge)] [] := by
    intro hc
    refine z_iconst fx (v := 0) ic0 d11_isOn_30 ?_
    exact z_top (congrArg Value.int (show 0 = bI b1 by rw [hc]; rfl)) k2
  obtain ⟨b2, e4, e1⟩ := zinv e1
  have kt5 : b2 = true → zZ zK1 X (zT0 Sh top) μ 11 [(0, .ref o_), (1, .int v_bridge)] [] := by
    intro hc
    replace e1 := zif_t hc e1
    refine z_aload_n fx (k := 0) (i := 0) rfl rfl d11_isOn_11 ?_
    refine z_getO fx 11 3 51 ho lf11_75 fk11_3 d11_isOn_12 ?_
    refine z_getO fx 8 0 1 (ok11_3 hO ho) lf11_195 fk8_0 d11_isOn_15 ?_
    refine z_iload_n fx (k := 1) (i := 1) rfl rfl d11_isOn_18 ?_
    obtain ⟨j3, e6, e1⟩ := zinv e1
    refine z_aald fx 0 (by decide) (ok8_0 hO (ok11_3 hO ho)) e6 (v := .ref (o_ + 64 + 3 * j3)) rfl d11_isOn_19 ?_
    refine z_getB fx 0 3 3 (okA0 hO (ok8_0 hO (ok11_3 hO ho)) (rI_lt e6)) lf11_209 ⟨fk0_3, rfl⟩ d11_isOn_20 ?_
    cases e1
    refine z_ifb_eq fx d11_isOn_23 (fun c7 => ?_) (fun c7 => ?_)
    · exact kf3 c7
    · exact kt3 c7
  have kf5 : b2 = false → zZ zK1 X (zT0 Sh top) μ 30 [(0, .ref o_), (1, .int v_bridge)] [] := by
    intro hc
    replace e1 := zif_f hc e1
    cases e1
    exact kf3 rfl
  clear e1
  refine z_aload_n fx (k := 0) (i := 0) rfl rfl d11_isOn_0 ?_
  obtain ⟨w4, e8, e4⟩ := zinv e4
  refine z_getR fx 11 11 1111 17 ho lf11_56 ⟨fk11_11, rfl⟩ e8 d11_isOn_1 (fun tw4 => ?_)
  refine z_iload_n fx (k := 1) (i := 1) rfl rfl d11_isOn_4 ?_
  obtain ⟨t5, e9, e4⟩ := zinv e4
  refine z_cVr fx (c10_isBridge (zLo X) (zDo X) Sh top hO w4 v_bridge μ _ tw4 e9) mv10_isBridge ml11_161 tw4 rfl rfl rfl rfl d11_isOn_5 ?_
  cases e4
  refine z_ifb_eq fx d11_isOn_8 (fun c10 => ?_) (fun c10 => ?_)
  · exact kf5 c10
  · exact kt5 c10
theorem d6_countBetween_0 : zd cX6_countBetween 0 (.aload_n 0) 1 1 := by decide +kernel
theorem d6_countBetween_1 : zd cX6_countBetween 1 (.getfield 15) 3 4 := by decide +kernel
theorem d6_countBetween_4 : zd cX6_countBetween 4 (.ldc 61) 2 6 := by decide +kernel
theorem d6_countBetween_6 : zd cX6_countBetween 6 (.invokestatic 62) 3 9 := by decide +kernel
theorem d6_countBetween_9 : zd cX6_countBetween 9 (.aload_n 0) 1 10 := by decide +kernel
theorem d6_countBetween_10 : zd cX6_countBetween 10 (.getfield 15) 3 13 := by decide +kernel
theorem d6_countBetween_13 : zd cX6_countBetween 13 (.iload_n 2) 1 14 := by decide +kernel
theorem d6_countBetween_14 : zd cX6_countBetween 14 (.iconst 0) 1 15 := by decide +kernel
theorem d6_countBetween_15 : zd cX6_countBetween 15 (.iastore) 1 16 := by decide +kernel
theorem d6_countBetween_16 : zd cX6_countBetween 16 (.iconst 0) 1 17 := by decide +kernel
theorem d6_countBetween_17 : zd cX6_countBetween 17 (.istore 4) 2 19 := by decide +kernel
theorem d6_countBetween_19 : zd cX6_countBetween 19 (.iload 4) 2 21 := by decide +kernel
theorem d6_countBetween_21 : zd cX6_countBetween 21 (.bipush 8) 2 23 := by decide +kernel
theorem d6_countBetween_23 : zj cX6_countBetween 23 (.if_icmp .ge 124) 124 26 147 := by decide +kernel
theorem d6_countBetween_26 : zd cX6_countBetween 26 (.iconst 0) 1 27 := by decide +kernel
theorem d6_countBetween_27 : zd cX6_countBetween 27 (.istore 5) 2 29 := by decide +kernel
theorem d6_countBetween_29 : zd cX6_countBetween 29 (.iload 5) 2 31 := by decide +kernel
theorem d6_countBetween_31 : zd cX6_countBetween 31 (.aload_n 1) 1 32 := by decide +kernel
theorem d6_countBetween_32 : zd cX6_countBetween 32 (.getfield 18) 3 35 := by decide +kernel
theorem d6_countBetween_35 : zd cX6_countBetween 35 (.getfield 24) 3 38 := by decide +kernel
theorem d6_countBetween_38 : zj cX6_countBetween 38 (.if_icmp .ge 103) 103 41 141 := by decide +kernel
theorem d6_countBetween_41 : zd cX6_countBetween 41 (.aload_n 1) 1 42 := by decide +kernel
theorem d6_countBetween_42 : zd cX6_countBetween 42 (.iload 5) 2 44 := by decide +kernel
theorem d6_countBetween_44 : zd cX6_countBetween 44 (.invokevirtual 30) 3 47 := by decide +kernel
theorem d6_countBetween_47 : zj cX6_countBetween 47 (.ifCond .ne 6) 6 50 53 := by decide +kernel
theorem d6_countBetween_50 : zj cX6_countBetween 50 (.goto 85) 85 53 135 := by decide +kernel
theorem d6_countBetween_53 : zd cX6_countBetween 53 (.aload_n 1) 1 54 := by decide +kernel
theorem d6_countBetween_54 : zd cX6_countBetween 54 (.getfield 18) 3 57 := by decide +kernel
theorem d6_countBetween_57 : zd cX6_countBetween 57 (.getfield 34) 3 60 := by decide +kernel
theorem d6_countBetween_60 : zd cX6_countBetween 60 (.iconst 2) 1 61 := by decide +kernel
theorem d6_countBetween_61 : zd cX6_countBetween 61 (.iload 5) 2 63 := by decide +kernel
theorem d6_countBetween_63 : zd cX6_countBetween 63 (.imul) 1 64 := by decide +kernel
theorem d6_countBetween_64 : zd cX6_countBetween 64 (.iaload) 1 65 := by decide +kernel
theorem d6_countBetween_65 : zd cX6_countBetween 65 (.istore 6) 2 67 := by decide +kernel
theorem d6_countBetween_67 : zd cX6_countBetween 67 (.aload_n 1) 1 68 := by decide +kernel
theorem d6_countBetween_68 : zd cX6_countBetween 68 (.getfield 18) 3 71 := by decide +kernel
theorem d6_countBetween_71 : zd cX6_countBetween 71 (.getfield 34) 3 74 := by decide +kernel
theorem d6_countBetween_74 : zd cX6_countBetween 74 (.iconst 2) 1 75 := by decide +kernel
theorem d6_countBetween_75 : zd cX6_countBetween 75 (.iload 5) 2 77 := by decide +kernel
theorem d6_countBetween_77 : zd cX6_countBetween 77 (.imul) 1 78 := by decide +kernel
theorem d6_countBetween_78 : zd cX6_countBetween 78 (.iconst 1) 1 79 := by decide +kernel
theorem d6_countBetween_79 : zd cX6_countBetween 79 (.iadd) 1 80 := by decide +kernel
theorem d6_countBetween_80 : zd cX6_countBetween 80 (.iaload) 1 81 := by decide +kernel
theorem d6_countBetween_81 : zd cX6_countBetween 81 (.istore 7) 2 83 := by decide +kernel
theorem d6_countBetween_83 : zd cX6_countBetween 83 (.aload_n 0) 1 84 := by decide +kernel
theorem d6_countBetween_84 : zd cX6_countBetween 84 (.getfield 15) 3 87 := by decide +kernel
theorem d6_countBetween_87 : zd cX6_countBetween 87 (.iload 6) 2 89 := by decide +kernel
theorem d6_countBetween_89 : zd cX6_countBetween 89 (.aload_n 0) 1 90 := by decide +kernel
theorem d6_countBetween_90 : zd cX6_countBetween 90 (.getfield 15) 3 93 := by decide +kernel
theorem d6_countBetween_93 : zd cX6_countBetween 93 (.iload 6) 2 95 := by decide +kernel
theorem d6_countBetween_95 : zd cX6_countBetween 95 (.iaload) 1 96 := by decide +kernel
theorem d6_countBetween_96 : zd cX6_countBetween 96 (.aload_n 0) 1 97 := by decide +kernel
theorem d6_countBetween_97 : zd cX6_countBetween 97 (.getfield 15) 3 100 := by decide +kernel
theorem d6_countBetween_100 : zd cX6_countBetween 100 (.iload 7) 2 102 := by decide +kernel
theorem d6_countBetween_102 : zd cX6_countBetween 102 (.iaload) 1 103 := by decide +kernel
theorem d6_countBetween_103 : zd cX6_countBetween 103 (.iconst 1) 1 104 := by decide +kernel
theorem d6_countBetween_104 : zd cX6_countBetween 104 (.iadd) 1 105 := by decide +kernel
theorem d6_countBetween_105 : zd cX6_countBetween 105 (.invokestatic 55) 3 108 := by decide +kernel
theorem d6_countBetween_108 : zd cX6_countBetween 108 (.iastore) 1 109 := by decide +kernel
theorem d6_countBetween_109 : zd cX6_countBetween 109 (.aload_n 0) 1 110 := by decide +kernel
theorem d6_countBetween_110 : zd cX6_countBetween 110 (.getfield 15) 3 113 := by decide +kernel
theorem d6_countBetween_113 : zd cX6_countBetween 113 (.iload 7) 2 115 := by decide +kernel
theorem d6_countBetween_115 : zd cX6_countBetween 115 (.aload_n 0) 1 116 := by decide +kernel
theorem d6_countBetween_116 : zd cX6_countBetween 116 (.getfield 15) 3 119 := by decide +kernel
theorem d6_countBetween_119 : zd cX6_countBetween 119 (.iload 7) 2 121 := by decide +kernel
theorem d6_countBetween_121 : zd cX6_countBetween 121 (.iaload) 1 122 := by decide +kernel
theorem d6_countBetween_122 : zd cX6_countBetween 122 (.aload_n 0) 1 123 := by decide +kernel
theorem d6_countBetween_123 : zd cX6_countBetween 123 (.getfield 15) 3 126 := by decide +kernel
theorem d6_countBetween_126 : zd cX6_countBetween 126 (.iload 6) 2 128 := by decide +kernel
theorem d6_countBetween_128 : zd cX6_countBetween 128 (.iaload) 1 129 := by decide +kernel
theorem d6_countBetween_129 : zd cX6_countBetween 129 (.iconst 1) 1 130 := by decide +kernel
theorem d6_countBetween_130 : zd cX6_countBetween 130 (.iadd) 1 131 := by decide +kernel
theorem d6_countBetween_131 : zd cX6_countBetween 131 (.invokestatic 55) 3 134 := by decide +kernel
theorem d6_countBetween_134 : zd cX6_countBetween 134 (.iastore) 1 135 := by decide +kernel
theorem d6_countBetween_135 : zd cX6_countBetween 135 (.iinc 5 1) 3 138 := by decide +kernel
theorem d6_countBetween_138 : zj cX6_countBetween 138 (.goto (-109)) (-109) 141 29 := by decide +kernel
theorem d6_countBetween_141 : zd cX6_countBetween 141 (.iinc 4 1) 3 144 := by decide +kernel
theorem d6_countBetween_144 : zj cX6_countBetween 144 (.goto (-125)) (-125) 147 19 := by decide +kernel
theorem d6_countBetween_147 : zd cX6_countBetween 147 (.aload_n 0) 1 148 := by decide +kernel
theorem d6_countBetween_148 : zd cX6_countBetween 148 (.getfield 15) 3 151 := by decide +kernel
theorem d6_countBetween_151 : zd cX6_countBetween 151 (.iload_n 3) 1 152 := by decide +kernel
theorem d6_countBetween_152 : zd cX6_countBetween 152 (.iaload) 1 153 := by decide +kernel
theorem d6_countBetween_153 : zd cX6_countBetween 153 (.ldc 61) 2 155 := by decide +kernel
theorem d6_countBetween_155 : zj cX6_countBetween 155 (.if_icmp .ge 12) 12 158 167 := by decide +kernel
theorem d6_countBetween_158 : zd cX6_countBetween 158 (.aload_n 0) 1 159 := by decide +kernel
theorem d6_countBetween_159 : zd cX6_countBetween 159 (.getfield 15) 3 162 := by decide +kernel
theorem d6_countBetween_162 : zd cX6_countBetween 162 (.iload_n 3) 1 163 := by decide +kernel
theorem d6_countBetween_163 : zd cX6_countBetween 163 (.iaload) 1 164 := by decide +kernel
theorem d6_countBetween_164 : zj cX6_countBetween 164 (.goto 4) 4 167 168 := by decide +kernel
theorem d6_countBetween_167 : zd cX6_countBetween 167 (.iconst (-1)) 1 168 := by decide +kernel
theorem d6_countBetween_168 : zd cX6_countBetween 168 (.ireturn) 1 169 := by decide +kernel
set_option maxHeartbeats 4000000 in
set_option maxRecDepth 20000 in
theorem c6_countBetween (l : Launch) (D : zDt) (Sh : zSh) (top : Nat) (hO : zOK Sh) (o_ : Nat) (v_state : Nat) (v_from : Int32) (v_to : Int32) (μ : zM) (r_ : Int32) (μ_ : zM) (ho : (Sh o_).1 = 13) (h_state : (Sh v_state).1 = 15) (h : f6_countBetween o_ v_state v_from v_to μ = some (r_, μ_)) : zMet l D zK1 yX6_countBetween cX6_countBetween 8 (some .int) (zrm 1 23) [.ref o_, .ref v_state, .int v_from, .int v_to] Sh top μ (some (.int r_)) Sh top μ_ 0 0 := by
  refine zMet_of (by decide) (Nat.le_of_ble_eq_true rfl) fun X hX1 hX2 fx fin => ?_
  subst hX1; subst hX2
  replace fx : zFix X cX6_countBetween RX6 (zrm 1 23) 8 := fx
  show zZ zK1 X (zT0 Sh top) μ 0 [(0, .ref o_), (1, .ref v_state), (2, .int v_from), (3, .int v_to)] []
  unfold f6_countBetween at h
  refine z_aload_n fx (k := 0) (i := 0) rfl rfl d6_countBetween_0 ?_
  refine z_getO fx 6 1 2 ho lf6_15 fk6_1 d6_countBetween_1 ?_
  refine z_ldc fx (v := 1000000) kc6_61 d6_countBetween_4 ?_
  obtain ⟨μ1, e1, h⟩ := zinv h
  refine z_cSv fx (cJ_fill (zLo X) (zDo X) Sh top hO (o_ + 2) 8 1000000 μ _ (ok6_1 hO ho) (Nat.le_of_ble_eq_true rfl) e1) msJ_fill ml6_62 rfl rfl rfl rfl d6_countBetween_6 ?_
  refine z_aload_n fx (k := 0) (i := 0) rfl rfl d6_countBetween_9 ?_
  refine z_getO fx 6 1 2 ho lf6_15 fk6_1 d6_countBetween_10 ?_
  refine z_iload_n fx (k := 2) (i := 2) rfl rfl d6_countBetween_13 ?_
  refine z_iconst fx (v := 0) ic0 d6_countBetween_14 ?_
  obtain ⟨μ2, e2, h⟩ := zinv h
  refine z_iast fx (ok6_1 hO ho) e2 d6_countBetween_15 ?_
  refine z_iconst fx (v := 0) ic0 d6_countBetween_16 ?_
  refine z_istore fx (i := 4) rfl (lv' := [(0, .ref o_), (1, .ref v_state), (2, .int v_from), (3, .int v_to), (4, .int 0)]) rfl rfl d6_countBetween_17 ?_
  obtain ⟨v_pass_5, μ6, e37, h⟩ := zinv2 h
  have kx6 : zZ zK1 X (zT0 Sh top) μ6 147 [(0, .ref o_), (1, .ref v_state), (2, .int v_from), (3, .int v_to), (4, .int v_pass_5)] [] := by
    refine z_take 4 (lv' := [(0, .ref o_), (1, .ref v_state), (2, .int v_from), (3, .int v_to)]) rfl ?_
    obtain ⟨x26, e32, h⟩ := zinv h
    have k33 : zZ zK1 X (zT0 Sh top) μ6 168 [(0, .ref o_), (1, .ref v_state), (2, .int v_from), (3, .int v_to)] [.int x26] := by
      cases h
      exact z_ireturn fx fin d6_countBetween_168
    refine z_aload_n fx (k := 0) (i := 0) rfl rfl d6_countBetween_147 ?_
    refine z_getO fx 6 1 2 ho lf6_15 fk6_1 d6_countBetween_148 ?_
    refine z_iload_n fx (k := 3) (i := 3) rfl rfl d6_countBetween_151 ?_
    obtain ⟨t27, e34, e32⟩ := zinv e32
    refine z_iald fx (ok6_1 hO ho) e34 d6_countBetween_152 ?_
    refine z_ldc fx (v := 1000000) kc6_61 d6_countBetween_153 ?_
    refine z_icmp_ge fx d6_countBetween_155 (fun c35 => ?_) (fun c35 => ?_)
    · replace e32 := zif_f c35 e32
      refine z_iconst fx (v := (-1)) icm1 d6_countBetween_167 ?_
      cases e32
      exact k33
    · replace e32 := zif_t c35 e32
      refine z_aload_n fx (k := 0) (i := 0) rfl rfl d6_countBetween_158 ?_
      refine z_getO fx 6 1 2 ho lf6_15 fk6_1 d6_countBetween_159 ?_
      refine z_iload_n fx (k := 3) (i := 3) rfl rfl d6_countBetween_162 ?_
      obtain ⟨t28, e36, e32⟩ := zinv e32
      refine z_iald fx (ok6_1 hO ho) e36 d6_countBetween_163 ?_
      cases e32
      refine z_goto fx d6_countBetween_164 ?_
      exact k33
  clear h
  have klr5 : ∀ (n : Nat) (v_pass_3 : Int32) (μ4 : zM), zloop (fun s => f6_countBetween_L1 o_ v_state s.1 s.2) n (v_pass_3, μ4) = some (v_pass_5, μ6) → zZ zK1 X (zT0 Sh top) μ4 19 [(0, .ref o_), (1, .ref v_state), (2, .int v_from), (3, .int v_to), (4, .int v_pass_3)] [] := by
    intro n
    induction n with
    | zero => intro v_pass_3 μ4 hl4; cases hl4
    | succ n ih7 =>
      intro v_pass_3 μ4 hl4
      obtain ⟨y, e3, hl4⟩ := zloop_inv hl4
      replace e3 : f6_countBetween_L1 o_ v_state v_pass_3 μ4 = some y := e3
      unfold f6_countBetween_L1 at e3
      refine z_iload fx (i := 4) rfl d6_countBetween_19 ?_
      refine z_bipush fx (v := 8) bp8 d6_countBetween_21 ?_
      refine z_icmp_ge fx d6_countBetween_23 (fun c8 => ?_) (fun c8 => ?_)
      · replace e3 := zif_f c8 e3
        cases e3
        cases hl4
        exact kx6
      · replace e3 := zif_t c8 e3
        refine z_iconst fx (v := 0) ic0 d6_countBetween_26 ?_
        refine z_istore fx (i := 5) rfl (lv' := [(0, .ref o_), (1, .ref v_state), (2, .int v_from), (3, .int v_to), (4, .int v_pass_3), (5, .int 0)]) rfl rfl d6_countBetween_27 ?_
        obtain ⟨v_link_9, μ10, e31, e3⟩ := zinv2 e3
        have kx12 : zZ zK1 X (zT0 Sh top) μ10 141 [(0, .ref o_), (1, .ref v_state), (2, .int v_from), (3, .int v_to), (4, .int v_pass_3), (5, .int v_link_9)] [] := by
          refine z_take 5 (lv' := [(0, .ref o_), (1, .ref v_state), (2, .int v_from), (3, .int v_to), (4, .int v_pass_3)]) rfl ?_
          obtain ⟨v_pass_25, e30, e3⟩ := zinv e3
          replace e30 := Option.some.inj e30
          refine z_iinc fx (i := 4) (x := v_pass_3) (v := v_pass_25) rfl (by rw [in1]; exact e30) rfl (lv' := [(0, .ref o_), (1, .ref v_state), (2, .int v_from), (3, .int v_to), (4, .int v_pass_25)]) rfl rfl d6_countBetween_141 ?_
          cases e3
          refine z_goto fx d6_countBetween_144 ?_
          exact ih7 _ _ hl4
        clear e3
        have klr11 : ∀ (n : Nat) (v_link_7 : Int32) (μ8 : zM), zloop (fun s => f6_countBetween_L2 o_ v_state s.1 s.2) n (v_link_7, μ8) = some (v_link_9, μ10) → zZ zK1 X (zT0 Sh top) μ8 29 [(0, .ref o_), (1, .ref v_state), (2, .int v_from), (3, .int v_to), (4, .int v_pass_3), (5, .int v_link_7)] [] := by
          intro n
          induction n with
          | zero => intro v_link_7 μ8 hl10; cases hl10
          | succ n ih13 =>
            intro v_link_7 μ8 hl10
            obtain ⟨y, e9, hl10⟩ := zloop_inv hl10
            replace e9 : f6_countBetween_L2 o_ v_state v_link_7 μ8 = some y := e9
            unfold f6_countBetween_L2 at e9
            refine z_iload fx (i := 5) rfl d6_countBetween_29 ?_
            refine z_aload_n fx (k := 1) (i := 1) rfl rfl d6_countBetween_31 ?_
            obtain ⟨w11, e14, e9⟩ := zinv e9
            refine z_getR fx 8 12 812 17 h_state lf6_18 ⟨fk8_12, rfl⟩ e14 d6_countBetween_32 (fun tw11 => ?_)
            refine z_getI fx 10 16 1016 tw11 lf6_24 ⟨fk10_16, rfl⟩ d6_countBetween_35 ?_
            refine z_icmp_ge fx d6_countBetween_38 (fun c15 => ?_) (fun c15 => ?_)
            · replace e9 := zif_f c15 e9
              cases e9
              cases hl10
              exact kx12
            · replace e9 := zif_t c15 e9
              refine z_aload_n fx (k := 1) (i := 1) rfl rfl d6_countBetween_41 ?_
              refine z_iload fx (i := 5) rfl d6_countBetween_42 ?_
              obtain ⟨t12, e16, e9⟩ := zinv e9
              refine z_cVr fx (c8_isOpen (zLo X) (zDo X) Sh top hO v_state v_link_7 μ8 _ h_state e16) mv8_isOpen ml6_30 h_state rfl rfl rfl rfl d6_countBetween_44 ?_
              refine z_ifb_ne fx d6_countBetween_47 (fun c17 => ?_) (fun c17 => ?_)
              · replace e9 := zif_t c17 e9
                refine z_aload_n fx (k := 1) (i := 1) rfl rfl d6_countBetween_53 ?_
                obtain ⟨w13, e18, e9⟩ := zinv e9
                refine z_getR fx 8 12 812 17 h_state lf6_18 ⟨fk8_12, rfl⟩ e18 d6_countBetween_54 (fun tw13 => ?_)
                refine z_getO fx 10 6 7 tw13 lf6_34 fk10_6 d6_countBetween_57 ?_
                refine z_iconst fx (v := 2) ic2 d6_countBetween_60 ?_
                refine z_iload fx (i := 5) rfl d6_countBetween_61 ?_
                refine z_imul fx d6_countBetween_63 ?_
                obtain ⟨t14, e19, e9⟩ := zinv e9
                refine z_iald fx (ok10_6 hO tw13) e19 d6_countBetween_64 ?_
                refine z_istore fx (i := 6) rfl (lv' := [(0, .ref o_), (1, .ref v_state), (2, .int v_from), (3, .int v_to), (4, .int v_pass_3), (5, .int v_link_7), (6, .int t14)]) rfl rfl d6_countBetween_65 ?_
                refine z_aload_n fx (k := 1) (i := 1) rfl rfl d6_countBetween_67 ?_
                obtain ⟨w15, e20, e9⟩ := zinv e9
                refine z_getR fx 8 12 812 17 h_state lf6_18 ⟨fk8_12, rfl⟩ e20 d6_countBetween_68 (fun tw15 => ?_)
                refine z_getO fx 10 6 7 tw15 lf6_34 fk10_6 d6_countBetween_71 ?_
                refine z_iconst fx (v := 2) ic2 d6_countBetween_74 ?_
                refine z_iload fx (i := 5) rfl d6_countBetween_75 ?_
                refine z_imul fx d6_countBetween_77 ?_
                refine z_iconst fx (v := 1) ic1 d6_countBetween_78 ?_
                refine z_iadd fx d6_countBetween_79 ?_
                obtain ⟨t16, e21, e9⟩ := zinv e9
                refine z_iald fx (ok10_6 hO tw15) e21 d6_countBetween_80 ?_
                refine z_istore fx (i := 7) rfl (lv' := [(0, .ref o_), (1, .ref v_state), (2, .int v_from), (3, .int v_to), (4, .int v_pass_3), (5, .int v_link_7), (6, .int t14), (7, .int t16)]) rfl rfl d6_countBetween_81 ?_
                refine z_aload_n fx (k := 0) (i := 0) rfl rfl d6_countBetween_83 ?_
                refine z_getO fx 6 1 2 ho lf6_15 fk6_1 d6_countBetween_84 ?_
                refine z_iload fx (i := 6) rfl d6_countBetween_87 ?_
                refine z_aload_n fx (k := 0) (i := 0) rfl rfl d6_countBetween_89 ?_
                refine z_getO fx 6 1 2 ho lf6_15 fk6_1 d6_countBetween_90 ?_
                refine z_iload fx (i := 6) rfl d6_countBetween_93 ?_
                obtain ⟨t17, e22, e9⟩ := zinv e9
                refine z_iald fx (ok6_1 hO ho) e22 d6_countBetween_95 ?_
                refine z_aload_n fx (k := 0) (i := 0) rfl rfl d6_countBetween_96 ?_
                refine z_getO fx 6 1 2 ho lf6_15 fk6_1 d6_countBetween_97 ?_
                refine z_iload fx (i := 7) rfl d6_countBetween_100 ?_
                obtain ⟨t18, e23, e9⟩ := zinv e9
                refine z_iald fx (ok6_1 hO ho) e23 d6_countBetween_102 ?_
                refine z_iconst fx (v := 1) ic1 d6_countBetween_103 ?_
                refine z_iadd fx d6_countBetween_104 ?_
                refine z_mmin fx ml6_55 zm_min (Nat.le_of_ble_eq_true rfl) ⟨Nat.le_of_ble_eq_true rfl, Nat.le_of_ble_eq_true rfl, Nat.le_of_ble_eq_true rfl, Nat.le_of_ble_eq_true rfl⟩ d6_countBetween_105 ?_
                obtain ⟨μ19, e24, e9⟩ := zinv e9
                refine z_iast fx (ok6_1 hO ho) e24 d6_countBetween_108 ?_
                refine z_aload_n fx (k := 0) (i := 0) rfl rfl d6_countBetween_109 ?_
                refine z_getO fx 6 1 2 ho lf6_15 fk6_1 d6_countBetween_110 ?_
                refine z_iload fx (i := 7) rfl d6_countBetween_113 ?_
                refine z_aload_n fx (k := 0) (i := 0) rfl rfl d6_countBetween_115 ?_
                refine z_getO fx 6 1 2 ho lf6_15 fk6_1 d6_countBetween_116 ?_
                refine z_iload fx (i := 7) rfl d6_countBetween_119 ?_
                obtain ⟨t20, e25, e9⟩ := zinv e9
                refine z_iald fx (ok6_1 hO ho) e25 d6_countBetween_121 ?_
                refine z_aload_n fx (k := 0) (i := 0) rfl rfl d6_countBetween_122 ?_
                refine z_getO fx 6 1 2 ho lf6_15 fk6_1 d6_countBetween_123 ?_
                refine z_iload fx (i := 6) rfl d6_countBetween_126 ?_
                obtain ⟨t21, e26, e9⟩ := zinv e9
                refine z_iald fx (ok6_1 hO ho) e26 d6_countBetween_128 ?_
                refine z_iconst fx (v := 1) ic1 d6_countBetween_129 ?_
                refine z_iadd fx d6_countBetween_130 ?_
                refine z_mmin fx ml6_55 zm_min (Nat.le_of_ble_eq_true rfl) ⟨Nat.le_of_ble_eq_true rfl, Nat.le_of_ble_eq_true rfl, Nat.le_of_ble_eq_true rfl, Nat.le_of_ble_eq_true rfl⟩ d6_countBetween_131 ?_
                obtain ⟨μ22, e27, e9⟩ := zinv e9
                refine z_iast fx (ok6_1 hO ho) e27 d6_countBetween_134 ?_
                refine z_take 6 (lv' := [(0, .ref o_), (1, .ref v_state), (2, .int v_from), (3, .int v_to), (4, .int v_pass_3), (5, .int v_link_7)]) rfl ?_
                obtain ⟨v_link_23, e28, e9⟩ := zinv e9
                replace e28 := Option.some.inj e28
                refine z_iinc fx (i := 5) (x := v_link_7) (v := v_link_23) rfl (by rw [in1]; exact e28) rfl (lv' := [(0, .ref o_), (1, .ref v_state), (2, .int v_from), (3, .int v_to), (4, .int v_pass_3), (5, .int v_link_23)]) rfl rfl d6_countBetween_135 ?_
                cases e9
                refine z_goto fx d6_countBetween_138 ?_
                exact ih13 _ _ hl10
              · replace e9 := zif_f c17 e9
                refine z_goto fx d6_countBetween_50 ?_
                obtain ⟨v_link_24, e29, e9⟩ := zinv e9
                replace e29 := Option.some.inj e29
                refine z_iinc fx (i := 5) (x := v_link_7) (v := v_link_24) rfl (by rw [in1]; exact e29) rfl (lv' := [(0, .ref o_), (1, .ref v_state), (2, .int v_from), (3, .int v_to), (4, .int v_pass_3), (5, .int v_link_24)]) rfl rfl d6_countBetween_135 ?_
                cases e9
                refine z_goto fx d6_countBetween_138 ?_
                exact ih13 _ _ hl10
        exact klr11 _ _ _ e31
  exact klr5 _ _ _ e37
theorem d11_joined_0 : zd cX11_joined 0 (.aload_n 0) 1 1 := by decide +kernel
theorem d11_joined_1 : zd cX11_joined 1 (.iload_n 1) 1 2 := by decide +kernel
theorem d11_joined_2 : zd cX11_joined 2 (.invokevirtual 315) 3 5 := by decide +kernel
theorem d11_joined_5 : zj cX11_joined 5 (.ifCond .eq 11) 11 8 16 := by decide +kernel
theorem d11_joined_8 : zd cX11_joined 8 (.aload_n 0) 1 9 := by decide +kernel
theorem d11_joined_9 : zd cX11_joined 9 (.iload_n 2) 1 10 := by decide +kernel
theorem d11_joined_10 : zd cX11_joined 10 (.invokevirtual 315) 3 13 := by decide +kernel
theorem d11_joined_13 : zj cX11_joined 13 (.ifCond .ne 5) 5 16 18 := by decide +kernel
theorem d11_joined_16 : zd cX11_joined 16 (.iconst (-1)) 1 17 := by decide +kernel
theorem d11_joined_17 : zd cX11_joined 17 (.ireturn) 1 18 := by decide +kernel
theorem d11_joined_18 : zd cX11_joined 18 (.aload_n 0) 1 19 := by decide +kernel
theorem d11_joined_19 : zd cX11_joined 19 (.getfield 29) 3 22 := by decide +kernel
theorem d11_joined_22 : zd cX11_joined 22 (.aload_n 0) 1 23 := by decide +kernel
theorem d11_joined_23 : zd cX11_joined 23 (.getfield 75) 3 26 := by decide +kernel
theorem d11_joined_26 : zd cX11_joined 26 (.iload_n 1) 1 27 := by decide +kernel
theorem d11_joined_27 : zd cX11_joined 27 (.iload_n 2) 1 28 := by decide +kernel
theorem d11_joined_28 : zd cX11_joined 28 (.invokevirtual 318) 3 31 := by decide +kernel
theorem d11_joined_31 : zd cX11_joined 31 (.ireturn) 1 32 := by decide +kernel
set_option maxHeartbeats 4000000 in
set_option maxRecDepth 20000 in
theorem c11_joined (l : Launch) (D : zDt) (Sh : zSh) (top : Nat) (hO : zOK Sh) (o_ : Nat) (v_one : Int32) (v_other : Int32) (μ : zM) (r_ : Int32) (μ_ : zM) (ho : (Sh o_).1 = 18) (h : f11_joined o_ v_one v_other μ = some (r_, μ_)) : zMet l D zK1 yX11_joined cX11_joined 3 (some .int) (zrm 2 50) [.ref o_, .int v_one, .int v_other] Sh top μ (some (.int r_)) Sh top μ_ 0 0 := by
  refine zMet_of (by decide) (Nat.le_of_ble_eq_true rfl) fun X hX1 hX2 fx fin => ?_
  subst hX1; subst hX2
  replace fx : zFix X cX11_joined RX11 (zrm 2 50) 3 := fx
  show zZ zK1 X (zT0 Sh top) μ 0 [(0, .ref o_), (1, .int v_one), (2, .int v_other)] []
  unfold f11_joined at h
  obtain ⟨b1, e2, h⟩ := zinv h
  have kt1 : b1 = true → zZ zK1 X (zT0 Sh top) μ 16 [(0, .ref o_), (1, .int v_one), (2, .int v_other)] [] := by
    intro hc
    replace h := zif_t hc h
    refine z_iconst fx (v := (-1)) icm1 d11_joined_16 ?_
    cases h
    exact z_ireturn fx fin d11_joined_17
  have kf1 : b1 = false → zZ zK1 X (zT0 Sh top) μ 18 [(0, .ref o_), (1, .int v_one), (2, .int v_other)] [] := by
    intro hc
    replace h := zif_f hc h
    refine z_aload_n fx (k := 0) (i := 0) rfl rfl d11_joined_18 ?_
    refine z_getO fx 11 6 11 ho lf11_29 fk11_6 d11_joined_19 ?_
    refine z_aload_n fx (k := 0) (i := 0) rfl rfl d11_joined_22 ?_
    refine z_getO fx 11 3 51 ho lf11_75 fk11_3 d11_joined_23 ?_
    refine z_iload_n fx (k := 1) (i := 1) rfl rfl d11_joined_26 ?_
    refine z_iload_n fx (k := 2) (i := 2) rfl rfl d11_joined_27 ?_
    obtain ⟨t2, μ3, e3, h⟩ := zinv2 h
    refine z_cVr fx (c6_countBetween (zLo X) (zDo X) Sh top hO (o_ + 11) (o_ + 51) v_one v_other μ _ _ (ok11_6 hO ho) (ok11_3 hO ho) e3) mv6_countBetween ml11_318 (ok11_6 hO ho) rfl rfl rfl rfl d11_joined_28 ?_
    cases h
    exact z_ireturn fx fin d11_joined_31
  clear h
  obtain ⟨b4, e4, e2⟩ := zinv e2
  have kf5 : b4 = false → zZ zK1 X (zT0 Sh top) μ 8 [(0, .ref o_), (1, .int v_one), (2, .int v_other)] [] := by
    intro hc
    replace e2 := zif_f hc e2
    refine z_aload_n fx (k := 0) (i := 0) rfl rfl d11_joined_8 ?_
    refine z_iload_n fx (k := 2) (i := 2) rfl rfl d11_joined_9 ?_
    obtain ⟨t5, e6, e2⟩ := zinv e2
    refine z_cVr fx (c11_isOn (zLo X) (zDo X) Sh top hO o_ v_other μ _ ho e6) mv11_isOn ml11_315 ho rfl rfl rfl rfl d11_joined_10 ?_
    cases e2
    refine z_ifb_ne fx d11_joined_13 (fun c7 => ?_) (fun c7 => ?_)
    · exact kf1 (by rw [c7]; rfl)
    · exact kt1 (by rw [c7]; rfl)
  have kt5 : b4 = true → zZ zK1 X (zT0 Sh top) μ 16 [(0, .ref o_), (1, .int v_one), (2, .int v_other)] [] := by
    intro hc
    replace e2 := zif_t hc e2
    cases e2
    exact kt1 rfl
  clear e2
  refine z_aload_n fx (k := 0) (i := 0) rfl rfl d11_joined_0 ?_
  refine z_iload_n fx (k := 1) (i := 1) rfl rfl d11_joined_1 ?_
  obtain ⟨t6, e8, e4⟩ := zinv e4
  refine z_cVr fx (c11_isOn (zLo X) (zDo X) Sh top hO o_ v_one μ _ ho e8) mv11_isOn ml11_315 ho rfl rfl rfl rfl d11_joined_2 ?_
  cases e4
  refine z_ifb_eq fx d11_joined_5 (fun c9 => ?_) (fun c9 => ?_)
  · exact kt5 (by rw [c9]; rfl)
  · exact kf5 (by rw [c9]; rfl)
theorem d8_linksTo_0 : zd cX8_linksTo 0 (.iload_n 1) 1 1 := by decide +kernel
theorem d8_linksTo_1 : zd cX8_linksTo 1 (.istore_n 3) 1 2 := by decide +kernel
theorem d8_linksTo_2 : zd cX8_linksTo 2 (.iconst 0) 1 3 := by decide +kernel
theorem d8_linksTo_3 : zd cX8_linksTo 3 (.istore 4) 2 5 := by decide +kernel
theorem d8_linksTo_5 : zd cX8_linksTo 5 (.iload 4) 2 7 := by decide +kernel
theorem d8_linksTo_7 : zd cX8_linksTo 7 (.bipush 8) 2 9 := by decide +kernel
theorem d8_linksTo_9 : zj cX8_linksTo 9 (.if_icmp .gt 87) 87 12 96 := by decide +kernel
theorem d8_linksTo_12 : zd cX8_linksTo 12 (.aload_n 0) 1 13 := by decide +kernel
theorem d8_linksTo_13 : zd cX8_linksTo 13 (.getfield 37) 3 16 := by decide +kernel
theorem d8_linksTo_16 : zd cX8_linksTo 16 (.iload_n 3) 1 17 := by decide +kernel
theorem d8_linksTo_17 : zd cX8_linksTo 17 (.bipush 8) 2 19 := by decide +kernel
theorem d8_linksTo_19 : zd cX8_linksTo 19 (.imul) 1 20 := by decide +kernel
theorem d8_linksTo_20 : zd cX8_linksTo 20 (.iload_n 2) 1 21 := by decide +kernel
theorem d8_linksTo_21 : zd cX8_linksTo 21 (.iadd) 1 22 := by decide +kernel
theorem d8_linksTo_22 : zd cX8_linksTo 22 (.iaload) 1 23 := by decide +kernel
theorem d8_linksTo_23 : zd cX8_linksTo 23 (.istore 5) 2 25 := by decide +kernel
theorem d8_linksTo_25 : zd cX8_linksTo 25 (.iload 5) 2 27 := by decide +kernel
theorem d8_linksTo_27 : zd cX8_linksTo 27 (.iconst (-1)) 1 28 := by decide +kernel
theorem d8_linksTo_28 : zj cX8_linksTo 28 (.if_icmp .ne 5) 5 31 33 := by decide +kernel
theorem d8_linksTo_31 : zd cX8_linksTo 31 (.iconst (-1)) 1 32 := by decide +kernel
theorem d8_linksTo_32 : zd cX8_linksTo 32 (.ireturn) 1 33 := by decide +kernel
theorem d8_linksTo_33 : zd cX8_linksTo 33 (.iload 5) 2 35 := by decide +kernel
theorem d8_linksTo_35 : zd cX8_linksTo 35 (.bipush 6) 2 37 := by decide +kernel
theorem d8_linksTo_37 : zj cX8_linksTo 37 (.if_icmp .ne 20) 20 40 57 := by decide +kernel
theorem d8_linksTo_40 : zd cX8_linksTo 40 (.aload_n 0) 1 41 := by decide +kernel
theorem d8_linksTo_41 : zd cX8_linksTo 41 (.getfield 33) 3 44 := by decide +kernel
theorem d8_linksTo_44 : zd cX8_linksTo 44 (.iload_n 2) 1 45 := by decide +kernel
theorem d8_linksTo_45 : zd cX8_linksTo 45 (.iaload) 1 46 := by decide +kernel
theorem d8_linksTo_46 : zd cX8_linksTo 46 (.iload_n 3) 1 47 := by decide +kernel
theorem d8_linksTo_47 : zj cX8_linksTo 47 (.if_icmp .ne 8) 8 50 55 := by decide +kernel
theorem d8_linksTo_50 : zd cX8_linksTo 50 (.iload 4) 2 52 := by decide +kernel
theorem d8_linksTo_52 : zj cX8_linksTo 52 (.goto 4) 4 55 56 := by decide +kernel
theorem d8_linksTo_55 : zd cX8_linksTo 55 (.iconst (-1)) 1 56 := by decide +kernel
theorem d8_linksTo_56 : zd cX8_linksTo 56 (.ireturn) 1 57 := by decide +kernel
theorem d8_linksTo_57 : zd cX8_linksTo 57 (.aload_n 0) 1 58 := by decide +kernel
theorem d8_linksTo_58 : zd cX8_linksTo 58 (.getfield 62) 3 61 := by decide +kernel
theorem d8_linksTo_61 : zd cX8_linksTo 61 (.iload_n 3) 1 62 := by decide +kernel
theorem d8_linksTo_62 : zd cX8_linksTo 62 (.iload 5) 2 64 := by decide +kernel
theorem d8_linksTo_64 : zd cX8_linksTo 64 (.invokevirtual 176) 3 67 := by decide +kernel
theorem d8_linksTo_67 : zd cX8_linksTo 67 (.istore 6) 2 69 := by decide +kernel
theorem d8_linksTo_69 : zd cX8_linksTo 69 (.aload_n 0) 1 70 := by decide +kernel
theorem d8_linksTo_70 : zd cX8_linksTo 70 (.iload 6) 2 72 := by decide +kernel
theorem d8_linksTo_72 : zd cX8_linksTo 72 (.invokevirtual 141) 3 75 := by decide +kernel
theorem d8_linksTo_75 : zj cX8_linksTo 75 (.ifCond .ne 5) 5 78 80 := by decide +kernel
theorem d8_linksTo_78 : zd cX8_linksTo 78 (.iconst (-1)) 1 79 := by decide +kernel
theorem d8_linksTo_79 : zd cX8_linksTo 79 (.ireturn) 1 80 := by decide +kernel
theorem d8_linksTo_80 : zd cX8_linksTo 80 (.aload_n 0) 1 81 := by decide +kernel
theorem d8_linksTo_81 : zd cX8_linksTo 81 (.getfield 62) 3 84 := by decide +kernel
theorem d8_linksTo_84 : zd cX8_linksTo 84 (.iload 6) 2 86 := by decide +kernel
theorem d8_linksTo_86 : zd cX8_linksTo 86 (.invokevirtual 161) 3 89 := by decide +kernel
theorem d8_linksTo_89 : zd cX8_linksTo 89 (.istore_n 3) 1 90 := by decide +kernel
theorem d8_linksTo_90 : zd cX8_linksTo 90 (.iinc 4 1) 3 93 := by decide +kernel
theorem d8_linksTo_93 : zj cX8_linksTo 93 (.goto (-88)) (-88) 96 5 := by decide +kernel
theorem d8_linksTo_96 : zd cX8_linksTo 96 (.iconst (-1)) 1 97 := by decide +kernel
theorem d8_linksTo_97 : zd cX8_linksTo 97 (.ireturn) 1 98 := by decide +kernel
set_option maxHeartbeats 4000000 in
set_option maxRecDepth 20000 in
theorem c8_linksTo (l : Launch) (D : zDt) (Sh : zSh) (top : Nat) (hO : zOK Sh) (o_ : Nat) (v_bridge : Int32) (v_host : Int32) (μ : zM) (r_ : Int32) (ho : (Sh o_).1 = 15) (h : f8_linksTo o_ v_bridge v_host μ = some r_) : zMet l D zK1 yX8_linksTo cX8_linksTo 7 (some .int) (zrm 2 42) [.ref o_, .int v_bridge, .int v_host] Sh top μ (some (.int r_)) Sh top μ 0 0 := by
  refine zMet_of (by decide) (Nat.le_of_ble_eq_true rfl) fun X hX1 hX2 fx fin => ?_
  subst hX1; subst hX2
  replace fx : zFix X cX8_linksTo RX8 (zrm 2 42) 7 := fx
  show zZ zK1 X (zT0 Sh top) μ 0 [(0, .ref o_), (1, .int v_bridge), (2, .int v_host)] []
  unfold f8_linksTo at h
  refine z_iload_n fx (k := 1) (i := 1) rfl rfl d8_linksTo_0 ?_
  refine z_istore_n fx (k := 3) (i := 3) rfl rfl (lv' := [(0, .ref o_), (1, .int v_bridge), (2, .int v_host), (3, .int v_bridge)]) rfl rfl d8_linksTo_1 ?_
  refine z_iconst fx (v := 0) ic0 d8_linksTo_2 ?_
  refine z_istore fx (i := 4) rfl (lv' := [(0, .ref o_), (1, .int v_bridge), (2, .int v_host), (3, .int v_bridge), (4, .int 0)]) rfl rfl d8_linksTo_3 ?_
  obtain ⟨r3, e21, h⟩ := zinv h
  have kx4 : ∀ (v_b_3 : Int32) (v_passed_4 : Int32), r3 = .inr (v_b_3, v_passed_4) → zZ zK1 X (zT0 Sh top) μ 96 [(0, .ref o_), (1, .int v_bridge), (2, .int v_host), (3, .int v_b_3), (4, .int v_passed_4)] [] := by
    intro v_b_3 v_passed_4 hr
    subst hr
    replace h := zel2 h
    refine z_take 4 (lv' := [(0, .ref o_), (1, .int v_bridge), (2, .int v_host), (3, .int v_b_3)]) rfl ?_
    refine z_iconst fx (v := (-1)) icm1 d8_linksTo_96 ?_
    cases h
    exact z_ireturn fx fin d8_linksTo_97
  have klr3 : ∀ (n : Nat) (v_b_1 : Int32) (v_passed_2 : Int32), zloop (fun s => f8_linksTo_L1 o_ v_host μ s.1 s.2) n (v_b_1, v_passed_2) = some r3 → zZ zK1 X (zT0 Sh top) μ 5 [(0, .ref o_), (1, .int v_bridge), (2, .int v_host), (3, .int v_b_1), (4, .int v_passed_2)] [] := by
    intro n
    induction n with
    | zero => intro v_b_1 v_passed_2 hl2; cases hl2
    | succ n ih5 =>
      intro v_b_1 v_passed_2 hl2
      obtain ⟨y, e1, hl2⟩ := zloop_inv hl2
      replace e1 : f8_linksTo_L1 o_ v_host μ v_b_1 v_passed_2 = some y := e1
      unfold f8_linksTo_L1 at e1
      refine z_iload fx (i := 4) rfl d8_linksTo_5 ?_
      refine z_bipush fx (v := 8) bp8 d8_linksTo_7 ?_
      refine z_icmp_gt fx d8_linksTo_9 (fun c6 => ?_) (fun c6 => ?_)
      · replace e1 := zif_t c6 e1
        cases e1
        exact kx4 _ _ (Eq.symm hl2)
      · replace e1 := zif_f c6 e1
        refine z_aload_n fx (k := 0) (i := 0) rfl rfl d8_linksTo_12 ?_
        refine z_getO fx 8 5 6 ho lf8_37 fk8_5 d8_linksTo_13 ?_
        refine z_iload_n fx (k := 3) (i := 3) rfl rfl d8_linksTo_16 ?_
        refine z_bipush fx (v := 8) bp8 d8_linksTo_17 ?_
        refine z_imul fx d8_linksTo_19 ?_
        refine z_iload_n fx (k := 2) (i := 2) rfl rfl d8_linksTo_20 ?_
        refine z_iadd fx d8_linksTo_21 ?_
        obtain ⟨t5, e7, e1⟩ := zinv e1
        refine z_iald fx (ok8_5 hO ho) e7 d8_linksTo_22 ?_
        refine z_istore fx (i := 5) rfl (lv' := [(0, .ref o_), (1, .int v_bridge), (2, .int v_host), (3, .int v_b_1), (4, .int v_passed_2), (5, .int t5)]) rfl rfl d8_linksTo_23 ?_
        refine z_iload fx (i := 5) rfl d8_linksTo_25 ?_
        refine z_iconst fx (v := (-1)) icm1 d8_linksTo_27 ?_
        refine z_icmp_ne fx d8_linksTo_28 (fun c8 => ?_) (fun c8 => ?_)
        · replace e1 := zif_f c8 e1
          refine z_iload fx (i := 5) rfl d8_linksTo_33 ?_
          refine z_bipush fx (v := 6) bp6 d8_linksTo_35 ?_
          refine z_icmp_ne fx d8_linksTo_37 (fun c9 => ?_) (fun c9 => ?_)
          · replace e1 := zif_f c9 e1
            refine z_aload_n fx (k := 0) (i := 0) rfl rfl d8_linksTo_57 ?_
            obtain ⟨w6, e10, e1⟩ := zinv e1
            refine z_getR fx 8 12 812 17 ho lf8_62 ⟨fk8_12, rfl⟩ e10 d8_linksTo_58 (fun tw6 => ?_)
            refine z_iload_n fx (k := 3) (i := 3) rfl rfl d8_linksTo_61 ?_
            refine z_iload fx (i := 5) rfl d8_linksTo_62 ?_
            obtain ⟨t7, e11, e1⟩ := zinv e1
            refine z_cVr fx (c10_endOf (zLo X) (zDo X) Sh top hO w6 v_b_1 t5 μ _ tw6 e11) mv10_endOf ml8_176 tw6 rfl rfl rfl rfl d8_linksTo_64 ?_
            refine z_istore fx (i := 6) rfl (lv' := [(0, .ref o_), (1, .int v_bridge), (2, .int v_host), (3, .int v_b_1), (4, .int v_passed_2), (5, .int t5), (6, .int t7)]) rfl rfl d8_linksTo_67 ?_
            refine z_aload_n fx (k := 0) (i := 0) rfl rfl d8_linksTo_69 ?_
            refine z_iload fx (i := 6) rfl d8_linksTo_70 ?_
            obtain ⟨t8, e12, e1⟩ := zinv e1
            refine z_cVr fx (c8_isUp (zLo X) (zDo X) Sh top hO o_ t7 μ _ ho e12) mv8_isUp ml8_141 ho rfl rfl rfl rfl d8_linksTo_72 ?_
            refine z_ifb_ne fx d8_linksTo_75 (fun c13 => ?_) (fun c13 => ?_)
            · replace e1 := zif_t c13 e1
              refine z_aload_n fx (k := 0) (i := 0) rfl rfl d8_linksTo_80 ?_
              obtain ⟨w9, e14, e1⟩ := zinv e1
              refine z_getR fx 8 12 812 17 ho lf8_62 ⟨fk8_12, rfl⟩ e14 d8_linksTo_81 (fun tw9 => ?_)
              refine z_iload fx (i := 6) rfl d8_linksTo_84 ?_
              obtain ⟨t10, e15, e1⟩ := zinv e1
              refine z_cVr fx (c10_farBridge (zLo X) (zDo X) Sh top hO w9 t7 μ _ tw9 e15) mv10_farBridge ml8_161 tw9 rfl rfl rfl rfl d8_linksTo_86 ?_
              refine z_istore_n fx (k := 3) (i := 3) rfl rfl (lv' := [(0, .ref o_), (1, .int v_bridge), (2, .int v_host), (3, .int t10), (4, .int v_passed_2), (5, .int t5), (6, .int t7)]) rfl rfl d8_linksTo_89 ?_
              refine z_take 5 (lv' := [(0, .ref o_), (1, .int v_bridge), (2, .int v_host), (3, .int t10), (4, .int v_passed_2)]) rfl ?_
              obtain ⟨v_passed_11, e16, e1⟩ := zinv e1
              replace e16 := Option.some.inj e16
              refine z_iinc fx (i := 4) (x := v_passed_2) (v := v_passed_11) rfl (by rw [in1]; exact e16) rfl (lv' := [(0, .ref o_), (1, .int v_bridge), (2, .int v_host), (3, .int t10), (4, .int v_passed_11)]) rfl rfl d8_linksTo_90 ?_
              cases e1
              refine z_goto fx d8_linksTo_93 ?_
              exact ih5 _ _ hl2
            · replace e1 := zif_f c13 e1
              refine z_iconst fx (v := (-1)) icm1 d8_linksTo_78 ?_
              cases e1
              cases hl2
              cases h
              exact z_ireturn fx fin d8_linksTo_79
          · replace e1 := zif_t c9 e1
            obtain ⟨x12, e17, e1⟩ := zinv e1
            have k18 : zZ zK1 X (zT0 Sh top) μ 56 [(0, .ref o_), (1, .int v_bridge), (2, .int v_host), (3, .int v_b_1), (4, .int v_passed_2), (5, .int t5)] [.int x12] := by
              cases e1
              cases hl2
              cases h
              exact z_ireturn fx fin d8_linksTo_56
            refine z_aload_n fx (k := 0) (i := 0) rfl rfl d8_linksTo_40 ?_
            refine z_getO fx 8 4 5 ho lf8_33 fk8_4 d8_linksTo_41 ?_
            refine z_iload_n fx (k := 2) (i := 2) rfl rfl d8_linksTo_44 ?_
            obtain ⟨t13, e19, e17⟩ := zinv e17
            refine z_iald fx (ok8_4 hO ho) e19 d8_linksTo_45 ?_
            refine z_iload_n fx (k := 3) (i := 3) rfl rfl d8_linksTo_46 ?_
            refine z_icmp_ne fx d8_linksTo_47 (fun c20 => ?_) (fun c20 => ?_)
            · replace e17 := zif_f c20 e17
              refine z_iconst fx (v := (-1)) icm1 d8_linksTo_55 ?_
              cases e17
              exact k18
            · replace e17 := zif_t c20 e17
              refine z_iload fx (i := 4) rfl d8_linksTo_50 ?_
              cases e17
              refine z_goto fx d8_linksTo_52 ?_
              exact k18
        · replace e1 := zif_t c8 e1
          refine z_iconst fx (v := (-1)) icm1 d8_linksTo_31 ?_
          cases e1
          cases hl2
          cases h
          exact z_ireturn fx fin d8_linksTo_32
  exact klr3 _ _ _ e21
theorem d11_leads_0 : zd cX11_leads 0 (.aload_n 0) 1 1 := by decide +kernel
theorem d11_leads_1 : zd cX11_leads 1 (.getfield 56) 3 4 := by decide +kernel
theorem d11_leads_4 : zd cX11_leads 4 (.iload_n 1) 1 5 := by decide +kernel
theorem d11_leads_5 : zd cX11_leads 5 (.invokevirtual 161) 3 8 := by decide +kernel
theorem d11_leads_8 : zj cX11_leads 8 (.ifCond .eq 14) 14 11 22 := by decide +kernel
theorem d11_leads_11 : zd cX11_leads 11 (.aload_n 0) 1 12 := by decide +kernel
theorem d11_leads_12 : zd cX11_leads 12 (.getfield 56) 3 15 := by decide +kernel
theorem d11_leads_15 : zd cX11_leads 15 (.iload_n 2) 1 16 := by decide +kernel
theorem d11_leads_16 : zd cX11_leads 16 (.invokevirtual 167) 3 19 := by decide +kernel
theorem d11_leads_19 : zj cX11_leads 19 (.ifCond .ne 5) 5 22 24 := by decide +kernel
theorem d11_leads_22 : zd cX11_leads 22 (.iconst (-1)) 1 23 := by decide +kernel
theorem d11_leads_23 : zd cX11_leads 23 (.ireturn) 1 24 := by decide +kernel
theorem d11_leads_24 : zd cX11_leads 24 (.aload_n 0) 1 25 := by decide +kernel
theorem d11_leads_25 : zd cX11_leads 25 (.getfield 75) 3 28 := by decide +kernel
theorem d11_leads_28 : zd cX11_leads 28 (.iload_n 1) 1 29 := by decide +kernel
theorem d11_leads_29 : zd cX11_leads 29 (.iload_n 2) 1 30 := by decide +kernel
theorem d11_leads_30 : zd cX11_leads 30 (.invokevirtual 322) 3 33 := by decide +kernel
theorem d11_leads_33 : zd cX11_leads 33 (.ireturn) 1 34 := by decide +kernel
set_option maxHeartbeats 4000000 in
set_option maxRecDepth 20000 in
theorem c11_leads (l : Launch) (D : zDt) (Sh : zSh) (top : Nat) (hO : zOK Sh) (o_ : Nat) (v_bridge : Int32) (v_host : Int32) (μ : zM) (r_ : Int32) (ho : (Sh o_).1 = 18) (h : f11_leads o_ v_bridge v_host μ = some r_) : zMet l D zK1 yX11_leads cX11_leads 3 (some .int) (zrm 3 68) [.ref o_, .int v_bridge, .int v_host] Sh top μ (some (.int r_)) Sh top μ 0 0 := by
  refine zMet_of (by decide) (Nat.le_of_ble_eq_true rfl) fun X hX1 hX2 fx fin => ?_
  subst hX1; subst hX2
  replace fx : zFix X cX11_leads RX11 (zrm 3 68) 3 := fx
  show zZ zK1 X (zT0 Sh top) μ 0 [(0, .ref o_), (1, .int v_bridge), (2, .int v_host)] []
  unfold f11_leads at h
  obtain ⟨b1, e2, h⟩ := zinv h
  have kt1 : b1 = true → zZ zK1 X (zT0 Sh top) μ 22 [(0, .ref o_), (1, .int v_bridge), (2, .int v_host)] [] := by
    intro hc
    replace h := zif_t hc h
    refine z_iconst fx (v := (-1)) icm1 d11_leads_22 ?_
    cases h
    exact z_ireturn fx fin d11_leads_23
  have kf1 : b1 = false → zZ zK1 X (zT0 Sh top) μ 24 [(0, .ref o_), (1, .int v_bridge), (2, .int v_host)] [] := by
    intro hc
    replace h := zif_f hc h
    refine z_aload_n fx (k := 0) (i := 0) rfl rfl d11_leads_24 ?_
    refine z_getO fx 11 3 51 ho lf11_75 fk11_3 d11_leads_25 ?_
    refine z_iload_n fx (k := 1) (i := 1) rfl rfl d11_leads_28 ?_
    refine z_iload_n fx (k := 2) (i := 2) rfl rfl d11_leads_29 ?_
    obtain ⟨t2, e3, h⟩ := zinv h
    refine z_cVr fx (c8_linksTo (zLo X) (zDo X) Sh top hO (o_ + 51) v_bridge v_host μ _ (ok11_3 hO ho) e3) mv8_linksTo ml11_322 (ok11_3 hO ho) rfl rfl rfl rfl d11_leads_30 ?_
    cases h
    exact z_ireturn fx fin d11_leads_33
  clear h
  obtain ⟨b3, e4, e2⟩ := zinv e2
  have kf5 : b3 = false → zZ zK1 X (zT0 Sh top) μ 11 [(0, .ref o_), (1, .int v_bridge), (2, .int v_host)] [] := by
    intro hc
    replace e2 := zif_f hc e2
    refine z_aload_n fx (k := 0) (i := 0) rfl rfl d11_leads_11 ?_
    obtain ⟨w4, e6, e2⟩ := zinv e2
    refine z_getR fx 11 11 1111 17 ho lf11_56 ⟨fk11_11, rfl⟩ e6 d11_leads_12 (fun tw4 => ?_)
    refine z_iload_n fx (k := 2) (i := 2) rfl rfl d11_leads_15 ?_
    obtain ⟨t5, e7, e2⟩ := zinv e2
    refine z_cVr fx (c10_isHost (zLo X) (zDo X) Sh top hO w4 v_host μ _ tw4 e7) mv10_isHost ml11_167 tw4 rfl rfl rfl rfl d11_leads_16 ?_
    cases e2
    refine z_ifb_ne fx d11_leads_19 (fun c8 => ?_) (fun c8 => ?_)
    · exact kf1 (by rw [c8]; rfl)
    · exact kt1 (by rw [c8]; rfl)
  have kt5 : b3 = true → zZ zK1 X (zT0 Sh top) μ 22 [(0, .ref o_), (1, .int v_bridge), (2, .int v_host)] [] := by
    intro hc
    replace e2 := zif_t hc e2
    cases e2
    exact kt1 rfl
  clear e2
  refine z_aload_n fx (k := 0) (i := 0) rfl rfl d11_leads_0 ?_
  obtain ⟨w6, e9, e4⟩ := zinv e4
  refine z_getR fx 11 11 1111 17 ho lf11_56 ⟨fk11_11, rfl⟩ e9 d11_leads_1 (fun tw6 => ?_)
  refine z_iload_n fx (k := 1) (i := 1) rfl rfl d11_leads_4 ?_
  obtain ⟨t7, e10, e4⟩ := zinv e4
  refine z_cVr fx (c10_isBridge (zLo X) (zDo X) Sh top hO w6 v_bridge μ _ tw6 e10) mv10_isBridge ml11_161 tw6 rfl rfl rfl rfl d11_leads_5 ?_
  cases e4
  refine z_ifb_eq fx d11_leads_8 (fun c11 => ?_) (fun c11 => ?_)
  · exact kt5 (by rw [c11]; rfl)
  · exact kf5 (by rw [c11]; rfl)
theorem d11_isWhole_0 : zd cX11_isWhole 0 (.aload_n 0) 1 1 := by decide +kernel
theorem d11_isWhole_1 : zd cX11_isWhole 1 (.getfield 56) 3 4 := by decide +kernel
theorem d11_isWhole_4 : zd cX11_isWhole 4 (.iload_n 1) 1 5 := by decide +kernel
theorem d11_isWhole_5 : zd cX11_isWhole 5 (.invokevirtual 173) 3 8 := by decide +kernel
theorem d11_isWhole_8 : zj cX11_isWhole 8 (.ifCond .eq 19) 19 11 27 := by decide +kernel
theorem d11_isWhole_11 : zd cX11_isWhole 11 (.aload_n 0) 1 12 := by decide +kernel
theorem d11_isWhole_12 : zd cX11_isWhole 12 (.getfield 75) 3 15 := by decide +kernel
theorem d11_isWhole_15 : zd cX11_isWhole 15 (.getfield 188) 3 18 := by decide +kernel
theorem d11_isWhole_18 : zd cX11_isWhole 18 (.iload_n 1) 1 19 := by decide +kernel
theorem d11_isWhole_19 : zd cX11_isWhole 19 (.baload) 1 20 := by decide +kernel
theorem d11_isWhole_20 : zj cX11_isWhole 20 (.ifCond .eq 7) 7 23 27 := by decide +kernel
theorem d11_isWhole_23 : zd cX11_isWhole 23 (.iconst 1) 1 24 := by decide +kernel
theorem d11_isWhole_24 : zj cX11_isWhole 24 (.goto 4) 4 27 28 := by decide +kernel
theorem d11_isWhole_27 : zd cX11_isWhole 27 (.iconst 0) 1 28 := by decide +kernel
theorem d11_isWhole_28 : zd cX11_isWhole 28 (.ireturn) 1 29 := by decide +kernel
set_option maxHeartbeats 4000000 in
set_option maxRecDepth 20000 in
theorem c11_isWhole (l : Launch) (D : zDt) (Sh : zSh) (top : Nat) (hO : zOK Sh) (o_ : Nat) (v_link : Int32) (μ : zM) (r_ : Bool) (ho : (Sh o_).1 = 18) (h : f11_isWhole o_ v_link μ = some r_) : zMet l D zK1 yX11_isWhole cX11_isWhole 2 (some .boolean) (zrm 1 21) [.ref o_, .int v_link] Sh top μ (some (.int (bI r_))) Sh top μ 0 0 := by
  refine zMet_of (by decide) (Nat.le_of_ble_eq_true rfl) fun X hX1 hX2 fx fin => ?_
  subst hX1; subst hX2
  replace fx : zFix X cX11_isWhole RX11 (zrm 1 21) 2 := fx
  show zZ zK1 X (zT0 Sh top) μ 0 [(0, .ref o_), (1, .int v_link)] []
  unfold f11_isWhole at h
  obtain ⟨b1, e1, h⟩ := zinv h
  have k2 : zZ zK1 X (zT0 Sh top) μ 28 [(0, .ref o_), (1, .int v_link)] [.int (bI b1)] := by
    cases h
    exact z_zreturn fx fin d11_isWhole_28
  have kt3 : b1 = true → zZ zK1 X (zT0 Sh top) μ 23 [(0, .ref o_), (1, .int v_link)] [] := by
    intro hc
    refine z_iconst fx (v := 1) ic1 d11_isWhole_23 ?_
    refine z_goto fx d11_isWhole_24 ?_
    exact z_top (congrArg Value.int (show 1 = bI b1 by rw [hc]; rfl)) k2
  have kf3 : b1 = false → zZ zK1 X (zT0 Sh top) μ 27 [(0, .ref o_), (1, .int v_link)] [] := by
    intro hc
    refine z_iconst fx (v := 0) ic0 d11_isWhole_27 ?_
    exact z_top (congrArg Value.int (show 0 = bI b1 by rw [hc]; rfl)) k2
  obtain ⟨b2, e4, e1⟩ := zinv e1
  have kt5 : b2 = true → zZ zK1 X (zT0 Sh top) μ 11 [(0, .ref o_), (1, .int v_link)] [] := by
    intro hc
    replace e1 := zif_t hc e1
    refine z_aload_n fx (k := 0) (i := 0) rfl rfl d11_isWhole_11 ?_
    refine z_getO fx 11 3 51 ho lf11_75 fk11_3 d11_isWhole_12 ?_
    refine z_getO fx 8 3 4 (ok11_3 hO ho) lf11_188 fk8_3 d11_isWhole_15 ?_
    refine z_iload_n fx (k := 1) (i := 1) rfl rfl d11_isWhole_18 ?_
    obtain ⟨t3, e6, e1⟩ := zinv e1
    refine z_zald fx (ok8_3 hO (ok11_3 hO ho)) e6 d11_isWhole_19 ?_
    cases e1
    refine z_ifb_eq fx d11_isWhole_20 (fun c7 => ?_) (fun c7 => ?_)
    · exact kf3 c7
    · exact kt3 c7
  have kf5 : b2 = false → zZ zK1 X (zT0 Sh top) μ 27 [(0, .ref o_), (1, .int v_link)] [] := by
    intro hc
    replace e1 := zif_f hc e1
    cases e1
    exact kf3 rfl
  clear e1
  refine z_aload_n fx (k := 0) (i := 0) rfl rfl d11_isWhole_0 ?_
  obtain ⟨w4, e8, e4⟩ := zinv e4
  refine z_getR fx 11 11 1111 17 ho lf11_56 ⟨fk11_11, rfl⟩ e8 d11_isWhole_1 (fun tw4 => ?_)
  refine z_iload_n fx (k := 1) (i := 1) rfl rfl d11_isWhole_4 ?_
  obtain ⟨t5, e9, e4⟩ := zinv e4
  refine z_cVr fx (c10_isLink (zLo X) (zDo X) Sh top hO w4 v_link μ _ tw4 e9) mv10_isLink ml11_173 tw4 rfl rfl rfl rfl d11_isWhole_5 ?_
  cases e4
  refine z_ifb_eq fx d11_isWhole_8 (fun c10 => ?_) (fun c10 => ?_)
  · exact kf5 c10
  · exact kt5 c10
