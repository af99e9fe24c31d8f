theorem d12_kept_0 : zd cX12_kept 0 (.aload_n 0) 1 1 := by decide +kernel
theorem d12_kept_1 : zd cX12_kept 1 (.iconst 0) 1 2 := by decide +kernel
theorem d12_kept_2 : zd cX12_kept 2 (.putfield 144) 3 5 := by decide +kernel
theorem d12_kept_5 : zd cX12_kept 5 (.iload_n 1) 1 6 := by decide +kernel
theorem d12_kept_6 : zd cX12_kept 6 (.iconst 0) 1 7 := by decide +kernel
theorem d12_kept_7 : zd cX12_kept 7 (.aload_n 0) 1 8 := by decide +kernel
theorem d12_kept_8 : zd cX12_kept 8 (.iconst 3) 1 9 := by decide +kernel
theorem d12_kept_9 : zd cX12_kept 9 (.invokevirtual 316) 3 12 := by decide +kernel
theorem d12_kept_12 : zd cX12_kept 12 (.iconst 1) 1 13 := by decide +kernel
theorem d12_kept_13 : zd cX12_kept 13 (.isub) 1 14 := by decide +kernel
theorem d12_kept_14 : zd cX12_kept 14 (.invokestatic 250) 3 17 := by decide +kernel
theorem d12_kept_17 : zj cX12_kept 17 (.ifCond .eq 28) 28 20 45 := by decide +kernel
theorem d12_kept_20 : zd cX12_kept 20 (.iload_n 2) 1 21 := by decide +kernel
theorem d12_kept_21 : zd cX12_kept 21 (.iconst 0) 1 22 := by decide +kernel
theorem d12_kept_22 : zd cX12_kept 22 (.iconst 3) 1 23 := by decide +kernel
theorem d12_kept_23 : zd cX12_kept 23 (.invokestatic 250) 3 26 := by decide +kernel
theorem d12_kept_26 : zj cX12_kept 26 (.ifCond .eq 19) 19 29 45 := by decide +kernel
theorem d12_kept_29 : zd cX12_kept 29 (.aload_n 0) 1 30 := by decide +kernel
theorem d12_kept_30 : zd cX12_kept 30 (.sipush 1114) 3 33 := by decide +kernel
theorem d12_kept_33 : zd cX12_kept 33 (.iconst 4) 1 34 := by decide +kernel
theorem d12_kept_34 : zd cX12_kept 34 (.iload_n 1) 1 35 := by decide +kernel
theorem d12_kept_35 : zd cX12_kept 35 (.imul) 1 36 := by decide +kernel
theorem d12_kept_36 : zd cX12_kept 36 (.iadd) 1 37 := by decide +kernel
theorem d12_kept_37 : zd cX12_kept 37 (.iload_n 2) 1 38 := by decide +kernel
theorem d12_kept_38 : zd cX12_kept 38 (.iadd) 1 39 := by decide +kernel
theorem d12_kept_39 : zd cX12_kept 39 (.invokevirtual 316) 3 42 := by decide +kernel
theorem d12_kept_42 : zj cX12_kept 42 (.goto 4) 4 45 46 := by decide +kernel
theorem d12_kept_45 : zd cX12_kept 45 (.iconst (-1)) 1 46 := by decide +kernel
theorem d12_kept_46 : zd cX12_kept 46 (.ireturn) 1 47 := by decide +kernel
set_option maxHeartbeats 4000000 in
set_option maxRecDepth 20000 in
theorem c12_kept (l : Launch) (D : zDt) (Sh : zSh) (top : Nat) (hO : zOK Sh) (o_ : Nat) (v_k : Int32) (v_what : Int32) (μ : zM) (r_ : Int32) (μ_ : zM) (ho : (Sh o_).1 = 19) (h : f12_kept o_ v_k v_what μ = some (r_, μ_)) : zMet l D zK1 yX12_kept cX12_kept 3 (some .int) (zrm 1 22) [.ref o_, .int v_k, .int v_what] Sh top μ (some (.int r_)) Sh top μ_ 0 0 := by
  refine zMet_of (by decide) (Nat.le_of_ble_eq_true rfl) fun X hX1 hX2 fx fin => ?_
  subst hX1; subst hX2
  replace fx : zFix X cX12_kept RX12 (zrm 1 22) 3 := fx
  show zZ zK1 X (zT0 Sh top) μ 0 [(0, .ref o_), (1, .int v_k), (2, .int v_what)] []
  unfold f12_kept at h
  refine z_aload_n fx (k := 0) (i := 0) rfl rfl d12_kept_0 ?_
  refine z_iconst fx (v := 0) ic0 d12_kept_1 ?_
  obtain ⟨μ1, e1, h⟩ := zinv h
  refine z_putI fx (ci := 12) 44 ho lf12_144 fp12_44 e1 d12_kept_2 ?_
  obtain ⟨x2, e2, h⟩ := zinv h
  have k3 : zZ zK1 X (zT0 Sh top) μ1 46 [(0, .ref o_), (1, .int v_k), (2, .int v_what)] [.int x2] := by
    cases h
    exact z_ireturn fx fin d12_kept_46
  obtain ⟨b3, e5, e2⟩ := zinv e2
  have kt4 : b3 = true → zZ zK1 X (zT0 Sh top) μ1 29 [(0, .ref o_), (1, .int v_k), (2, .int v_what)] [] := by
    intro hc
    replace e2 := zif_t hc e2
    refine z_aload_n fx (k := 0) (i := 0) rfl rfl d12_kept_29 ?_
    refine z_sipush fx (v := 1114) sp1114 d12_kept_30 ?_
    refine z_iconst fx (v := 4) ic4 d12_kept_33 ?_
    refine z_iload_n fx (k := 1) (i := 1) rfl rfl d12_kept_34 ?_
    refine z_imul fx d12_kept_35 ?_
    refine z_iadd fx d12_kept_36 ?_
    refine z_iload_n fx (k := 2) (i := 2) rfl rfl d12_kept_37 ?_
    refine z_iadd fx d12_kept_38 ?_
    obtain ⟨t4, e6, e2⟩ := zinv e2
    refine z_cVr fx (c12_its (zLo X) (zDo X) Sh top hO o_ ((1114 + (4 * v_k)) + v_what) μ1 _ ho e6) mv12_its ml12_316 ho rfl rfl rfl rfl d12_kept_39 ?_
    cases e2
    refine z_goto fx d12_kept_42 ?_
    exact k3
  have kf4 : b3 = false → zZ zK1 X (zT0 Sh top) μ1 45 [(0, .ref o_), (1, .int v_k), (2, .int v_what)] [] := by
    intro hc
    replace e2 := zif_f hc e2
    refine z_iconst fx (v := (-1)) icm1 d12_kept_45 ?_
    cases e2
    exact k3
  clear e2
  obtain ⟨b5, e7, e5⟩ := zinv e5
  have kt8 : b5 = true → zZ zK1 X (zT0 Sh top) μ1 20 [(0, .ref o_), (1, .int v_k), (2, .int v_what)] [] := by
    intro hc
    replace e5 := zif_t hc e5
    refine z_iload_n fx (k := 2) (i := 2) rfl rfl d12_kept_20 ?_
    refine z_iconst fx (v := 0) ic0 d12_kept_21 ?_
    refine z_iconst fx (v := 3) ic3 d12_kept_22 ?_
    obtain ⟨t6, e9, e5⟩ := zinv e5
    refine z_cSr fx (c12_isIn (zLo X) (zDo X) Sh top hO v_what 0 3 μ1 _  e9) ms12_isIn ml12_250 rfl rfl rfl rfl d12_kept_23 ?_
    cases e5
    refine z_ifb_eq fx d12_kept_26 (fun c10 => ?_) (fun c10 => ?_)
    · exact kf4 c10
    · exact kt4 c10
  have kf8 : b5 = false → zZ zK1 X (zT0 Sh top) μ1 45 [(0, .ref o_), (1, .int v_k), (2, .int v_what)] [] := by
    intro hc
    replace e5 := zif_f hc e5
    cases e5
    exact kf4 rfl
  clear e5
  refine z_iload_n fx (k := 1) (i := 1) rfl rfl d12_kept_5 ?_
  refine z_iconst fx (v := 0) ic0 d12_kept_6 ?_
  refine z_aload_n fx (k := 0) (i := 0) rfl rfl d12_kept_7 ?_
  refine z_iconst fx (v := 3) ic3 d12_kept_8 ?_
  obtain ⟨t7, e11, e7⟩ := zinv e7
  refine z_cVr fx (c12_its (zLo X) (zDo X) Sh top hO o_ 3 μ1 _ ho e11) mv12_its ml12_316 ho rfl rfl rfl rfl d12_kept_9 ?_
  refine z_iconst fx (v := 1) ic1 d12_kept_12 ?_
  refine z_isub fx d12_kept_13 ?_
  obtain ⟨t8, e12, e7⟩ := zinv e7
  refine z_cSr fx (c12_isIn (zLo X) (zDo X) Sh top hO v_k 0 (t7 - 1) μ1 _  e12) ms12_isIn ml12_250 rfl rfl rfl rfl d12_kept_14 ?_
  cases e7
  refine z_ifb_eq fx d12_kept_17 (fun c13 => ?_) (fun c13 => ?_)
  · exact kf8 c13
  · exact kt8 c13
theorem d12_laysFar_0 : zd cX12_laysFar 0 (.iconst 0) 1 1 := by decide +kernel
theorem d12_laysFar_1 : zd cX12_laysFar 1 (.istore_n 1) 1 2 := by decide +kernel
theorem d12_laysFar_2 : zd cX12_laysFar 2 (.iload_n 1) 1 3 := by decide +kernel
theorem d12_laysFar_3 : zd cX12_laysFar 3 (.bipush 64) 2 5 := by decide +kernel
theorem d12_laysFar_5 : zj cX12_laysFar 5 (.if_icmp .ge 55) 55 8 60 := by decide +kernel
theorem d12_laysFar_8 : zd cX12_laysFar 8 (.aload_n 0) 1 9 := by decide +kernel
theorem d12_laysFar_9 : zd cX12_laysFar 9 (.getfield 160) 3 12 := by decide +kernel
theorem d12_laysFar_12 : zd cX12_laysFar 12 (.iload_n 1) 1 13 := by decide +kernel
theorem d12_laysFar_13 : zd cX12_laysFar 13 (.iload_n 1) 1 14 := by decide +kernel
theorem d12_laysFar_14 : zd cX12_laysFar 14 (.bipush 8) 2 16 := by decide +kernel
theorem d12_laysFar_16 : zd cX12_laysFar 16 (.idiv) 1 17 := by decide +kernel
theorem d12_laysFar_17 : zd cX12_laysFar 17 (.iload_n 1) 1 18 := by decide +kernel
theorem d12_laysFar_18 : zd cX12_laysFar 18 (.bipush 8) 2 20 := by decide +kernel
theorem d12_laysFar_20 : zd cX12_laysFar 20 (.irem) 1 21 := by decide +kernel
theorem d12_laysFar_21 : zj cX12_laysFar 21 (.if_icmp .ne 29) 29 24 50 := by decide +kernel
theorem d12_laysFar_24 : zd cX12_laysFar 24 (.iload_n 1) 1 25 := by decide +kernel
theorem d12_laysFar_25 : zd cX12_laysFar 25 (.bipush 8) 2 27 := by decide +kernel
theorem d12_laysFar_27 : zd cX12_laysFar 27 (.idiv) 1 28 := by decide +kernel
theorem d12_laysFar_28 : zd cX12_laysFar 28 (.aload_n 0) 1 29 := by decide +kernel
theorem d12_laysFar_29 : zd cX12_laysFar 29 (.getfield 13) 3 32 := by decide +kernel
theorem d12_laysFar_32 : zj cX12_laysFar 32 (.if_icmp .ge 18) 18 35 50 := by decide +kernel
theorem d12_laysFar_35 : zd cX12_laysFar 35 (.aload_n 0) 1 36 := by decide +kernel
theorem d12_laysFar_36 : zd cX12_laysFar 36 (.iload_n 1) 1 37 := by decide +kernel
theorem d12_laysFar_37 : zd cX12_laysFar 37 (.bipush 8) 2 39 := by decide +kernel
theorem d12_laysFar_39 : zd cX12_laysFar 39 (.idiv) 1 40 := by decide +kernel
theorem d12_laysFar_40 : zd cX12_laysFar 40 (.invokevirtual 328) 3 43 := by decide +kernel
theorem d12_laysFar_43 : zj cX12_laysFar 43 (.ifCond .eq 7) 7 46 50 := by decide +kernel
theorem d12_laysFar_46 : zd cX12_laysFar 46 (.iconst 0) 1 47 := by decide +kernel
theorem d12_laysFar_47 : zj cX12_laysFar 47 (.goto 6) 6 50 53 := by decide +kernel
theorem d12_laysFar_50 : zd cX12_laysFar 50 (.ldc_w 489) 3 53 := by decide +kernel
theorem d12_laysFar_53 : zd cX12_laysFar 53 (.iastore) 1 54 := by decide +kernel
theorem d12_laysFar_54 : zd cX12_laysFar 54 (.iinc 1 1) 3 57 := by decide +kernel
theorem d12_laysFar_57 : zj cX12_laysFar 57 (.goto (-55)) (-55) 60 2 := by decide +kernel
theorem d12_laysFar_60 : zd cX12_laysFar 60 (.iconst 0) 1 61 := by decide +kernel
theorem d12_laysFar_61 : zd cX12_laysFar 61 (.istore_n 1) 1 62 := by decide +kernel
theorem d12_laysFar_62 : zd cX12_laysFar 62 (.iload_n 1) 1 63 := by decide +kernel
theorem d12_laysFar_63 : zd cX12_laysFar 63 (.aload_n 0) 1 64 := by decide +kernel
theorem d12_laysFar_64 : zd cX12_laysFar 64 (.getfield 16) 3 67 := by decide +kernel
theorem d12_laysFar_67 : zj cX12_laysFar 67 (.if_icmp .ge 102) 102 70 169 := by decide +kernel
theorem d12_laysFar_70 : zd cX12_laysFar 70 (.aload_n 0) 1 71 := by decide +kernel
theorem d12_laysFar_71 : zd cX12_laysFar 71 (.iload_n 1) 1 72 := by decide +kernel
theorem d12_laysFar_72 : zd cX12_laysFar 72 (.invokevirtual 331) 3 75 := by decide +kernel
theorem d12_laysFar_75 : zj cX12_laysFar 75 (.ifCond .ne 6) 6 78 81 := by decide +kernel
theorem d12_laysFar_78 : zj cX12_laysFar 78 (.goto 85) 85 81 163 := by decide +kernel
theorem d12_laysFar_81 : zd cX12_laysFar 81 (.aload_n 0) 1 82 := by decide +kernel
theorem d12_laysFar_82 : zd cX12_laysFar 82 (.getfield 38) 3 85 := by decide +kernel
theorem d12_laysFar_85 : zd cX12_laysFar 85 (.iconst 4) 1 86 := by decide +kernel
theorem d12_laysFar_86 : zd cX12_laysFar 86 (.iload_n 1) 1 87 := by decide +kernel
theorem d12_laysFar_87 : zd cX12_laysFar 87 (.imul) 1 88 := by decide +kernel
theorem d12_laysFar_88 : zd cX12_laysFar 88 (.iaload) 1 89 := by decide +kernel
theorem d12_laysFar_89 : zd cX12_laysFar 89 (.istore_n 2) 1 90 := by decide +kernel
theorem d12_laysFar_90 : zd cX12_laysFar 90 (.aload_n 0) 1 91 := by decide +kernel
theorem d12_laysFar_91 : zd cX12_laysFar 91 (.getfield 38) 3 94 := by decide +kernel
theorem d12_laysFar_94 : zd cX12_laysFar 94 (.iconst 4) 1 95 := by decide +kernel
theorem d12_laysFar_95 : zd cX12_laysFar 95 (.iload_n 1) 1 96 := by decide +kernel
theorem d12_laysFar_96 : zd cX12_laysFar 96 (.imul) 1 97 := by decide +kernel
theorem d12_laysFar_97 : zd cX12_laysFar 97 (.iconst 2) 1 98 := by decide +kernel
theorem d12_laysFar_98 : zd cX12_laysFar 98 (.iadd) 1 99 := by decide +kernel
theorem d12_laysFar_99 : zd cX12_laysFar 99 (.iaload) 1 100 := by decide +kernel
theorem d12_laysFar_100 : zd cX12_laysFar 100 (.istore_n 3) 1 101 := by decide +kernel
theorem d12_laysFar_101 : zd cX12_laysFar 101 (.aload_n 0) 1 102 := by decide +kernel
theorem d12_laysFar_102 : zd cX12_laysFar 102 (.getfield 160) 3 105 := by decide +kernel
theorem d12_laysFar_105 : zd cX12_laysFar 105 (.bipush 8) 2 107 := by decide +kernel
theorem d12_laysFar_107 : zd cX12_laysFar 107 (.iload_n 2) 1 108 := by decide +kernel
theorem d12_laysFar_108 : zd cX12_laysFar 108 (.imul) 1 109 := by decide +kernel
theorem d12_laysFar_109 : zd cX12_laysFar 109 (.iload_n 3) 1 110 := by decide +kernel
theorem d12_laysFar_110 : zd cX12_laysFar 110 (.iadd) 1 111 := by decide +kernel
theorem d12_laysFar_111 : zd cX12_laysFar 111 (.aload_n 0) 1 112 := by decide +kernel
theorem d12_laysFar_112 : zd cX12_laysFar 112 (.getfield 160) 3 115 := by decide +kernel
theorem d12_laysFar_115 : zd cX12_laysFar 115 (.bipush 8) 2 117 := by decide +kernel
theorem d12_laysFar_117 : zd cX12_laysFar 117 (.iload_n 2) 1 118 := by decide +kernel
theorem d12_laysFar_118 : zd cX12_laysFar 118 (.imul) 1 119 := by decide +kernel
theorem d12_laysFar_119 : zd cX12_laysFar 119 (.iload_n 3) 1 120 := by decide +kernel
theorem d12_laysFar_120 : zd cX12_laysFar 120 (.iadd) 1 121 := by decide +kernel
theorem d12_laysFar_121 : zd cX12_laysFar 121 (.iaload) 1 122 := by decide +kernel
theorem d12_laysFar_122 : zd cX12_laysFar 122 (.aload_n 0) 1 123 := by decide +kernel
theorem d12_laysFar_123 : zd cX12_laysFar 123 (.getfield 44) 3 126 := by decide +kernel
theorem d12_laysFar_126 : zd cX12_laysFar 126 (.iload_n 1) 1 127 := by decide +kernel
theorem d12_laysFar_127 : zd cX12_laysFar 127 (.iaload) 1 128 := by decide +kernel
theorem d12_laysFar_128 : zd cX12_laysFar 128 (.invokestatic 360) 3 131 := by decide +kernel
theorem d12_laysFar_131 : zd cX12_laysFar 131 (.iastore) 1 132 := by decide +kernel
theorem d12_laysFar_132 : zd cX12_laysFar 132 (.aload_n 0) 1 133 := by decide +kernel
theorem d12_laysFar_133 : zd cX12_laysFar 133 (.getfield 160) 3 136 := by decide +kernel
theorem d12_laysFar_136 : zd cX12_laysFar 136 (.bipush 8) 2 138 := by decide +kernel
theorem d12_laysFar_138 : zd cX12_laysFar 138 (.iload_n 3) 1 139 := by decide +kernel
theorem d12_laysFar_139 : zd cX12_laysFar 139 (.imul) 1 140 := by decide +kernel
theorem d12_laysFar_140 : zd cX12_laysFar 140 (.iload_n 2) 1 141 := by decide +kernel
theorem d12_laysFar_141 : zd cX12_laysFar 141 (.iadd) 1 142 := by decide +kernel
theorem d12_laysFar_142 : zd cX12_laysFar 142 (.aload_n 0) 1 143 := by decide +kernel
theorem d12_laysFar_143 : zd cX12_laysFar 143 (.getfield 160) 3 146 := by decide +kernel
theorem d12_laysFar_146 : zd cX12_laysFar 146 (.bipush 8) 2 148 := by decide +kernel
theorem d12_laysFar_148 : zd cX12_laysFar 148 (.iload_n 3) 1 149 := by decide +kernel
theorem d12_laysFar_149 : zd cX12_laysFar 149 (.imul) 1 150 := by decide +kernel
theorem d12_laysFar_150 : zd cX12_laysFar 150 (.iload_n 2) 1 151 := by decide +kernel
theorem d12_laysFar_151 : zd cX12_laysFar 151 (.iadd) 1 152 := by decide +kernel
theorem d12_laysFar_152 : zd cX12_laysFar 152 (.iaload) 1 153 := by decide +kernel
theorem d12_laysFar_153 : zd cX12_laysFar 153 (.aload_n 0) 1 154 := by decide +kernel
theorem d12_laysFar_154 : zd cX12_laysFar 154 (.getfield 44) 3 157 := by decide +kernel
theorem d12_laysFar_157 : zd cX12_laysFar 157 (.iload_n 1) 1 158 := by decide +kernel
theorem d12_laysFar_158 : zd cX12_laysFar 158 (.iaload) 1 159 := by decide +kernel
theorem d12_laysFar_159 : zd cX12_laysFar 159 (.invokestatic 360) 3 162 := by decide +kernel
theorem d12_laysFar_162 : zd cX12_laysFar 162 (.iastore) 1 163 := by decide +kernel
theorem d12_laysFar_163 : zd cX12_laysFar 163 (.iinc 1 1) 3 166 := by decide +kernel
theorem d12_laysFar_166 : zj cX12_laysFar 166 (.goto (-104)) (-104) 169 62 := by decide +kernel
theorem d12_laysFar_169 : zd cX12_laysFar 169 (.iconst 0) 1 170 := by decide +kernel
theorem d12_laysFar_170 : zd cX12_laysFar 170 (.istore_n 1) 1 171 := by decide +kernel
theorem d12_laysFar_171 : zd cX12_laysFar 171 (.iload_n 1) 1 172 := by decide +kernel
theorem d12_laysFar_172 : zd cX12_laysFar 172 (.aload_n 0) 1 173 := by decide +kernel
theorem d12_laysFar_173 : zd cX12_laysFar 173 (.getfield 13) 3 176 := by decide +kernel
theorem d12_laysFar_176 : zj cX12_laysFar 176 (.if_icmp .ge 89) 89 179 265 := by decide +kernel
theorem d12_laysFar_179 : zd cX12_laysFar 179 (.iconst 0) 1 180 := by decide +kernel
theorem d12_laysFar_180 : zd cX12_laysFar 180 (.istore_n 2) 1 181 := by decide +kernel
theorem d12_laysFar_181 : zd cX12_laysFar 181 (.iload_n 2) 1 182 := by decide +kernel
theorem d12_laysFar_182 : zd cX12_laysFar 182 (.aload_n 0) 1 183 := by decide +kernel
theorem d12_laysFar_183 : zd cX12_laysFar 183 (.getfield 13) 3 186 := by decide +kernel
theorem d12_laysFar_186 : zj cX12_laysFar 186 (.if_icmp .ge 73) 73 189 259 := by decide +kernel
theorem d12_laysFar_189 : zd cX12_laysFar 189 (.iconst 0) 1 190 := by decide +kernel
theorem d12_laysFar_190 : zd cX12_laysFar 190 (.istore_n 3) 1 191 := by decide +kernel
theorem d12_laysFar_191 : zd cX12_laysFar 191 (.iload_n 3) 1 192 := by decide +kernel
theorem d12_laysFar_192 : zd cX12_laysFar 192 (.aload_n 0) 1 193 := by decide +kernel
theorem d12_laysFar_193 : zd cX12_laysFar 193 (.getfield 13) 3 196 := by decide +kernel
theorem d12_laysFar_196 : zj cX12_laysFar 196 (.if_icmp .ge 57) 57 199 253 := by decide +kernel
theorem d12_laysFar_199 : zd cX12_laysFar 199 (.aload_n 0) 1 200 := by decide +kernel
theorem d12_laysFar_200 : zd cX12_laysFar 200 (.getfield 160) 3 203 := by decide +kernel
theorem d12_laysFar_203 : zd cX12_laysFar 203 (.bipush 8) 2 205 := by decide +kernel
theorem d12_laysFar_205 : zd cX12_laysFar 205 (.iload_n 2) 1 206 := by decide +kernel
theorem d12_laysFar_206 : zd cX12_laysFar 206 (.imul) 1 207 := by decide +kernel
theorem d12_laysFar_207 : zd cX12_laysFar 207 (.iload_n 3) 1 208 := by decide +kernel
theorem d12_laysFar_208 : zd cX12_laysFar 208 (.iadd) 1 209 := by decide +kernel
theorem d12_laysFar_209 : zd cX12_laysFar 209 (.aload_n 0) 1 210 := by decide +kernel
theorem d12_laysFar_210 : zd cX12_laysFar 210 (.getfield 160) 3 213 := by decide +kernel
theorem d12_laysFar_213 : zd cX12_laysFar 213 (.bipush 8) 2 215 := by decide +kernel
theorem d12_laysFar_215 : zd cX12_laysFar 215 (.iload_n 2) 1 216 := by decide +kernel
theorem d12_laysFar_216 : zd cX12_laysFar 216 (.imul) 1 217 := by decide +kernel
theorem d12_laysFar_217 : zd cX12_laysFar 217 (.iload_n 3) 1 218 := by decide +kernel
theorem d12_laysFar_218 : zd cX12_laysFar 218 (.iadd) 1 219 := by decide +kernel
theorem d12_laysFar_219 : zd cX12_laysFar 219 (.iaload) 1 220 := by decide +kernel
theorem d12_laysFar_220 : zd cX12_laysFar 220 (.aload_n 0) 1 221 := by decide +kernel
theorem d12_laysFar_221 : zd cX12_laysFar 221 (.getfield 160) 3 224 := by decide +kernel
theorem d12_laysFar_224 : zd cX12_laysFar 224 (.bipush 8) 2 226 := by decide +kernel
theorem d12_laysFar_226 : zd cX12_laysFar 226 (.iload_n 2) 1 227 := by decide +kernel
theorem d12_laysFar_227 : zd cX12_laysFar 227 (.imul) 1 228 := by decide +kernel
theorem d12_laysFar_228 : zd cX12_laysFar 228 (.iload_n 1) 1 229 := by decide +kernel
theorem d12_laysFar_229 : zd cX12_laysFar 229 (.iadd) 1 230 := by decide +kernel
theorem d12_laysFar_230 : zd cX12_laysFar 230 (.iaload) 1 231 := by decide +kernel
theorem d12_laysFar_231 : zd cX12_laysFar 231 (.aload_n 0) 1 232 := by decide +kernel
theorem d12_laysFar_232 : zd cX12_laysFar 232 (.getfield 160) 3 235 := by decide +kernel
theorem d12_laysFar_235 : zd cX12_laysFar 235 (.bipush 8) 2 237 := by decide +kernel
theorem d12_laysFar_237 : zd cX12_laysFar 237 (.iload_n 1) 1 238 := by decide +kernel
theorem d12_laysFar_238 : zd cX12_laysFar 238 (.imul) 1 239 := by decide +kernel
theorem d12_laysFar_239 : zd cX12_laysFar 239 (.iload_n 3) 1 240 := by decide +kernel
theorem d12_laysFar_240 : zd cX12_laysFar 240 (.iadd) 1 241 := by decide +kernel
theorem d12_laysFar_241 : zd cX12_laysFar 241 (.iaload) 1 242 := by decide +kernel
theorem d12_laysFar_242 : zd cX12_laysFar 242 (.iadd) 1 243 := by decide +kernel
theorem d12_laysFar_243 : zd cX12_laysFar 243 (.invokestatic 360) 3 246 := by decide +kernel
theorem d12_laysFar_246 : zd cX12_laysFar 246 (.iastore) 1 247 := by decide +kernel
theorem d12_laysFar_247 : zd cX12_laysFar 247 (.iinc 3 1) 3 250 := by decide +kernel
theorem d12_laysFar_250 : zj cX12_laysFar 250 (.goto (-59)) (-59) 253 191 := by decide +kernel
theorem d12_laysFar_253 : zd cX12_laysFar 253 (.iinc 2 1) 3 256 := by decide +kernel
theorem d12_laysFar_256 : zj cX12_laysFar 256 (.goto (-75)) (-75) 259 181 := by decide +kernel
theorem d12_laysFar_259 : zd cX12_laysFar 259 (.iinc 1 1) 3 262 := by decide +kernel
theorem d12_laysFar_262 : zj cX12_laysFar 262 (.goto (-91)) (-91) 265 171 := by decide +kernel
theorem d12_laysFar_265 : zd cX12_laysFar 265 (.return_) 1 266 := by decide +kernel
set_option maxHeartbeats 4000000 in
set_option maxRecDepth 20000 in
theorem c12_laysFar (l : Launch) (D : zDt) (Sh : zSh) (top : Nat) (hO : zOK Sh) (o_ : Nat) (μ : zM) (μ_ : zM) (ho : (Sh o_).1 = 19) (h : f12_laysFar o_ μ = some μ_) : zMet l D zK1 yX12_laysFar cX12_laysFar 4 none (zrm 4 85) [.ref o_] Sh top μ none Sh top μ_ 0 0 := by
  refine zMet_of (by decide) (Nat.le_of_ble_eq_true rfl) fun X hX1 hX2 fx fin => ?_
  subst hX1; subst hX2
  replace fx : zFix X cX12_laysFar RX12 (zrm 4 85) 4 := fx
  show zZ zK1 X (zT0 Sh top) μ 0 [(0, .ref o_)] []
  unfold f12_laysFar at h
  refine z_iconst fx (v := 0) ic0 d12_laysFar_0 ?_
  refine z_istore_n fx (k := 1) (i := 1) rfl rfl (lv' := [(0, .ref o_), (1, .int 0)]) rfl rfl d12_laysFar_1 ?_
  obtain ⟨v_k_3, μ4, e75, h⟩ := zinv2 h
  have kx4 : zZ zK1 X (zT0 Sh top) μ4 60 [(0, .ref o_), (1, .int v_k_3)] [] := by
    refine z_take 1 (lv' := [(0, .ref o_)]) rfl ?_
    refine z_iconst fx (v := 0) ic0 d12_laysFar_60 ?_
    refine z_istore_n fx (k := 1) (i := 1) rfl rfl (lv' := [(0, .ref o_), (1, .int 0)]) rfl rfl d12_laysFar_61 ?_
    obtain ⟨v_l_18, μ19, e74, h⟩ := zinv2 h
    have kx28 : zZ zK1 X (zT0 Sh top) μ19 169 [(0, .ref o_), (1, .int v_l_18)] [] := by
      refine z_take 1 (lv' := [(0, .ref o_)]) rfl ?_
      refine z_iconst fx (v := 0) ic0 d12_laysFar_169 ?_
      refine z_istore_n fx (k := 1) (i := 1) rfl rfl (lv' := [(0, .ref o_), (1, .int 0)]) rfl rfl d12_laysFar_170 ?_
      obtain ⟨v_c_35, μ36, e73, h⟩ := zinv2 h
      have kx48 : zZ zK1 X (zT0 Sh top) μ36 265 [(0, .ref o_), (1, .int v_c_35)] [] := by
        refine z_take 1 (lv' := [(0, .ref o_)]) rfl ?_
        cases h
        exact z_return fx fin d12_laysFar_265
      clear h
      have klr47 : ∀ (n : Nat) (v_c_33 : Int32) (μ34 : zM), zloop (fun s => f12_laysFar_L3 o_ s.1 s.2) n (v_c_33, μ34) = some (v_c_35, μ36) → zZ zK1 X (zT0 Sh top) μ34 171 [(0, .ref o_), (1, .int v_c_33)] [] := by
        intro n
        induction n with
        | zero => intro v_c_33 μ34 hl46; cases hl46
        | succ n ih49 =>
          intro v_c_33 μ34 hl46
          obtain ⟨y, e45, hl46⟩ := zloop_inv hl46
          replace e45 : f12_laysFar_L3 o_ v_c_33 μ34 = some y := e45
          unfold f12_laysFar_L3 at e45
          refine z_iload_n fx (k := 1) (i := 1) rfl rfl d12_laysFar_171 ?_
          refine z_aload_n fx (k := 0) (i := 0) rfl rfl d12_laysFar_172 ?_
          refine z_getI fx 12 1 1201 ho lf12_13 ⟨fk12_1, rfl⟩ d12_laysFar_173 ?_
          refine z_icmp_ge fx d12_laysFar_176 (fun c50 => ?_) (fun c50 => ?_)
          · replace e45 := zif_f c50 e45
            cases e45
            cases hl46
            exact kx48
          · replace e45 := zif_t c50 e45
            refine z_iconst fx (v := 0) ic0 d12_laysFar_179 ?_
            refine z_istore_n fx (k := 2) (i := 2) rfl rfl (lv' := [(0, .ref o_), (1, .int v_c_33), (2, .int 0)]) rfl rfl d12_laysFar_180 ?_
            obtain ⟨v_a_39, μ40, e72, e45⟩ := zinv2 e45
            have kx54 : zZ zK1 X (zT0 Sh top) μ40 259 [(0, .ref o_), (1, .int v_c_33), (2, .int v_a_39)] [] := by
              refine z_take 2 (lv' := [(0, .ref o_), (1, .int v_c_33)]) rfl ?_
              obtain ⟨v_c_52, e71, e45⟩ := zinv e45
              replace e71 := Option.some.inj e71
              refine z_iinc fx (i := 1) (x := v_c_33) (v := v_c_52) rfl (by rw [in1]; exact e71) rfl (lv' := [(0, .ref o_), (1, .int v_c_52)]) rfl rfl d12_laysFar_259 ?_
              cases e45
              refine z_goto fx d12_laysFar_262 ?_
              exact ih49 _ _ hl46
            clear e45
            have klr53 : ∀ (n : Nat) (v_a_37 : Int32) (μ38 : zM), zloop (fun s => f12_laysFar_L4 o_ v_c_33 s.1 s.2) n (v_a_37, μ38) = some (v_a_39, μ40) → zZ zK1 X (zT0 Sh top) μ38 181 [(0, .ref o_), (1, .int v_c_33), (2, .int v_a_37)] [] := by
              intro n
              induction n with
              | zero => intro v_a_37 μ38 hl52; cases hl52
              | succ n ih55 =>
                intro v_a_37 μ38 hl52
                obtain ⟨y, e51, hl52⟩ := zloop_inv hl52
                replace e51 : f12_laysFar_L4 o_ v_c_33 v_a_37 μ38 = some y := e51
                unfold f12_laysFar_L4 at e51
                refine z_iload_n fx (k := 2) (i := 2) rfl rfl d12_laysFar_181 ?_
                refine z_aload_n fx (k := 0) (i := 0) rfl rfl d12_laysFar_182 ?_
                refine z_getI fx 12 1 1201 ho lf12_13 ⟨fk12_1, rfl⟩ d12_laysFar_183 ?_
                refine z_icmp_ge fx d12_laysFar_186 (fun c56 => ?_) (fun c56 => ?_)
                · replace e51 := zif_f c56 e51
                  cases e51
                  cases hl52
                  exact kx54
                · replace e51 := zif_t c56 e51
                  refine z_iconst fx (v := 0) ic0 d12_laysFar_189 ?_
                  refine z_istore_n fx (k := 3) (i := 3) rfl rfl (lv' := [(0, .ref o_), (1, .int v_c_33), (2, .int v_a_37), (3, .int 0)]) rfl rfl d12_laysFar_190 ?_
                  obtain ⟨v_b_43, μ44, e70, e51⟩ := zinv2 e51
                  have kx60 : zZ zK1 X (zT0 Sh top) μ44 253 [(0, .ref o_), (1, .int v_c_33), (2, .int v_a_37), (3, .int v_b_43)] [] := by
                    refine z_take 3 (lv' := [(0, .ref o_), (1, .int v_c_33), (2, .int v_a_37)]) rfl ?_
                    obtain ⟨v_a_51, e69, e51⟩ := zinv e51
                    replace e69 := Option.some.inj e69
                    refine z_iinc fx (i := 2) (x := v_a_37) (v := v_a_51) rfl (by rw [in1]; exact e69) rfl (lv' := [(0, .ref o_), (1, .int v_c_33), (2, .int v_a_51)]) rfl rfl d12_laysFar_253 ?_
                    cases e51
                    refine z_goto fx d12_laysFar_256 ?_
                    exact ih55 _ _ hl52
                  clear e51
                  have klr59 : ∀ (n : Nat) (v_b_41 : Int32) (μ42 : zM), zloop (fun s => f12_laysFar_L5 o_ v_c_33 v_a_37 s.1 s.2) n (v_b_41, μ42) = some (v_b_43, μ44) → zZ zK1 X (zT0 Sh top) μ42 191 [(0, .ref o_), (1, .int v_c_33), (2, .int v_a_37), (3, .int v_b_41)] [] := by
                    intro n
                    induction n with
                    | zero => intro v_b_41 μ42 hl58; cases hl58
                    | succ n ih61 =>
                      intro v_b_41 μ42 hl58
                      obtain ⟨y, e57, hl58⟩ := zloop_inv hl58
                      replace e57 : f12_laysFar_L5 o_ v_c_33 v_a_37 v_b_41 μ42 = some y := e57
                      unfold f12_laysFar_L5 at e57
                      refine z_iload_n fx (k := 3) (i := 3) rfl rfl d12_laysFar_191 ?_
                      refine z_aload_n fx (k := 0) (i := 0) rfl rfl d12_laysFar_192 ?_
                      refine z_getI fx 12 1 1201 ho lf12_13 ⟨fk12_1, rfl⟩ d12_laysFar_193 ?_
                      refine z_icmp_ge fx d12_laysFar_196 (fun c62 => ?_) (fun c62 => ?_)
                      · replace e57 := zif_f c62 e57
                        cases e57
                        cases hl58
                        exact kx60
                      · replace e57 := zif_t c62 e57
                        refine z_aload_n fx (k := 0) (i := 0) rfl rfl d12_laysFar_199 ?_
                        refine z_getO fx 12 49 28 ho lf12_160 fk12_49 d12_laysFar_200 ?_
                        refine z_bipush fx (v := 8) bp8 d12_laysFar_203 ?_
                        refine z_iload_n fx (k := 2) (i := 2) rfl rfl d12_laysFar_205 ?_
                        refine z_imul fx d12_laysFar_206 ?_
                        refine z_iload_n fx (k := 3) (i := 3) rfl rfl d12_laysFar_207 ?_
                        refine z_iadd fx d12_laysFar_208 ?_
                        refine z_aload_n fx (k := 0) (i := 0) rfl rfl d12_laysFar_209 ?_
                        refine z_getO fx 12 49 28 ho lf12_160 fk12_49 d12_laysFar_210 ?_
                        refine z_bipush fx (v := 8) bp8 d12_laysFar_213 ?_
                        refine z_iload_n fx (k := 2) (i := 2) rfl rfl d12_laysFar_215 ?_
                        refine z_imul fx d12_laysFar_216 ?_
                        refine z_iload_n fx (k := 3) (i := 3) rfl rfl d12_laysFar_217 ?_
                        refine z_iadd fx d12_laysFar_218 ?_
                        obtain ⟨t45, e63, e57⟩ := zinv e57
                        refine z_iald fx (ok12_49 hO ho) e63 d12_laysFar_219 ?_
                        refine z_aload_n fx (k := 0) (i := 0) rfl rfl d12_laysFar_220 ?_
                        refine z_getO fx 12 49 28 ho lf12_160 fk12_49 d12_laysFar_221 ?_
                        refine z_bipush fx (v := 8) bp8 d12_laysFar_224 ?_
                        refine z_iload_n fx (k := 2) (i := 2) rfl rfl d12_laysFar_226 ?_
                        refine z_imul fx d12_laysFar_227 ?_
                        refine z_iload_n fx (k := 1) (i := 1) rfl rfl d12_laysFar_228 ?_
                        refine z_iadd fx d12_laysFar_229 ?_
                        obtain ⟨t46, e64, e57⟩ := zinv e57
                        refine z_iald fx (ok12_49 hO ho) e64 d12_laysFar_230 ?_
                        refine z_aload_n fx (k := 0) (i := 0) rfl rfl d12_laysFar_231 ?_
                        refine z_getO fx 12 49 28 ho lf12_160 fk12_49 d12_laysFar_232 ?_
                        refine z_bipush fx (v := 8) bp8 d12_laysFar_235 ?_
                        refine z_iload_n fx (k := 1) (i := 1) rfl rfl d12_laysFar_237 ?_
                        refine z_imul fx d12_laysFar_238 ?_
                        refine z_iload_n fx (k := 3) (i := 3) rfl rfl d12_laysFar_239 ?_
                        refine z_iadd fx d12_laysFar_240 ?_
                        obtain ⟨t47, e65, e57⟩ := zinv e57
                        refine z_iald fx (ok12_49 hO ho) e65 d12_laysFar_241 ?_
                        refine z_iadd fx d12_laysFar_242 ?_
                        obtain ⟨t48, e66, e57⟩ := zinv e57
                        refine z_cSr fx (c12_least (zLo X) (zDo X) Sh top hO t45 (t46 + t47) μ42 _  e66) ms12_least ml12_360 rfl rfl rfl rfl d12_laysFar_243 ?_
                        obtain ⟨μ49, e67, e57⟩ := zinv e57
                        refine z_iast fx (ok12_49 hO ho) e67 d12_laysFar_246 ?_
                        obtain ⟨v_b_50, e68, e57⟩ := zinv e57
                        replace e68 := Option.some.inj e68
                        refine z_iinc fx (i := 3) (x := v_b_41) (v := v_b_50) rfl (by rw [in1]; exact e68) rfl (lv' := [(0, .ref o_), (1, .int v_c_33), (2, .int v_a_37), (3, .int v_b_50)]) rfl rfl d12_laysFar_247 ?_
                        cases e57
                        refine z_goto fx d12_laysFar_250 ?_
                        exact ih61 _ _ hl58
                  exact klr59 _ _ _ e70
            exact klr53 _ _ _ e72
      exact klr47 _ _ _ e73
    clear h
    have klr27 : ∀ (n : Nat) (v_l_16 : Int32) (μ17 : zM), zloop (fun s => f12_laysFar_L2 o_ s.1 s.2) n (v_l_16, μ17) = some (v_l_18, μ19) → zZ zK1 X (zT0 Sh top) μ17 62 [(0, .ref o_), (1, .int v_l_16)] [] := by
      intro n
      induction n with
      | zero => intro v_l_16 μ17 hl26; cases hl26
      | succ n ih29 =>
        intro v_l_16 μ17 hl26
        obtain ⟨y, e25, hl26⟩ := zloop_inv hl26
        replace e25 : f12_laysFar_L2 o_ v_l_16 μ17 = some y := e25
        unfold f12_laysFar_L2 at e25
        refine z_iload_n fx (k := 1) (i := 1) rfl rfl d12_laysFar_62 ?_
        refine z_aload_n fx (k := 0) (i := 0) rfl rfl d12_laysFar_63 ?_
        refine z_getI fx 12 2 1202 ho lf12_16 ⟨fk12_2, rfl⟩ d12_laysFar_64 ?_
        refine z_icmp_ge fx d12_laysFar_67 (fun c30 => ?_) (fun c30 => ?_)
        · replace e25 := zif_f c30 e25
          cases e25
          cases hl26
          exact kx28
        · replace e25 := zif_t c30 e25
          refine z_aload_n fx (k := 0) (i := 0) rfl rfl d12_laysFar_70 ?_
          refine z_iload_n fx (k := 1) (i := 1) rfl rfl d12_laysFar_71 ?_
          obtain ⟨t20, e31, e25⟩ := zinv e25
          refine z_cVr fx (c12_isUpLink (zLo X) (zDo X) Sh top hO o_ v_l_16 μ17 _ ho e31) mv12_isUpLink ml12_331 ho rfl rfl rfl rfl d12_laysFar_72 ?_
          refine z_ifb_ne fx d12_laysFar_75 (fun c32 => ?_) (fun c32 => ?_)
          · replace e25 := zif_t c32 e25
            refine z_aload_n fx (k := 0) (i := 0) rfl rfl d12_laysFar_81 ?_
            refine z_getO fx 12 9 4 ho lf12_38 fk12_9 d12_laysFar_82 ?_
            refine z_iconst fx (v := 4) ic4 d12_laysFar_85 ?_
            refine z_iload_n fx (k := 1) (i := 1) rfl rfl d12_laysFar_86 ?_
            refine z_imul fx d12_laysFar_87 ?_
            obtain ⟨t21, e33, e25⟩ := zinv e25
            refine z_iald fx (ok12_9 hO ho) e33 d12_laysFar_88 ?_
            refine z_istore_n fx (k := 2) (i := 2) rfl rfl (lv' := [(0, .ref o_), (1, .int v_l_16), (2, .int t21)]) rfl rfl d12_laysFar_89 ?_
            refine z_aload_n fx (k := 0) (i := 0) rfl rfl d12_laysFar_90 ?_
            refine z_getO fx 12 9 4 ho lf12_38 fk12_9 d12_laysFar_91 ?_
            refine z_iconst fx (v := 4) ic4 d12_laysFar_94 ?_
            refine z_iload_n fx (k := 1) (i := 1) rfl rfl d12_laysFar_95 ?_
            refine z_imul fx d12_laysFar_96 ?_
            refine z_iconst fx (v := 2) ic2 d12_laysFar_97 ?_
            refine z_iadd fx d12_laysFar_98 ?_
            obtain ⟨t22, e34, e25⟩ := zinv e25
            refine z_iald fx (ok12_9 hO ho) e34 d12_laysFar_99 ?_
            refine z_istore_n fx (k := 3) (i := 3) rfl rfl (lv' := [(0, .ref o_), (1, .int v_l_16), (2, .int t21), (3, .int t22)]) rfl rfl d12_laysFar_100 ?_
            refine z_aload_n fx (k := 0) (i := 0) rfl rfl d12_laysFar_101 ?_
            refine z_getO fx 12 49 28 ho lf12_160 fk12_49 d12_laysFar_102 ?_
            refine z_bipush fx (v := 8) bp8 d12_laysFar_105 ?_
            refine z_iload_n fx (k := 2) (i := 2) rfl rfl d12_laysFar_107 ?_
            refine z_imul fx d12_laysFar_108 ?_
            refine z_iload_n fx (k := 3) (i := 3) rfl rfl d12_laysFar_109 ?_
            refine z_iadd fx d12_laysFar_110 ?_
            refine z_aload_n fx (k := 0) (i := 0) rfl rfl d12_laysFar_111 ?_
            refine z_getO fx 12 49 28 ho lf12_160 fk12_49 d12_laysFar_112 ?_
            refine z_bipush fx (v := 8) bp8 d12_laysFar_115 ?_
            refine z_iload_n fx (k := 2) (i := 2) rfl rfl d12_laysFar_117 ?_
            refine z_imul fx d12_laysFar_118 ?_
            refine z_iload_n fx (k := 3) (i := 3) rfl rfl d12_laysFar_119 ?_
            refine z_iadd fx d12_laysFar_120 ?_
            obtain ⟨t23, e35, e25⟩ := zinv e25
            refine z_iald fx (ok12_49 hO ho) e35 d12_laysFar_121 ?_
            refine z_aload_n fx (k := 0) (i := 0) rfl rfl d12_laysFar_122 ?_
            refine z_getO fx 12 11 6 ho lf12_44 fk12_11 d12_laysFar_123 ?_
            refine z_iload_n fx (k := 1) (i := 1) rfl rfl d12_laysFar_126 ?_
            obtain ⟨t24, e36, e25⟩ := zinv e25
            refine z_iald fx (ok12_11 hO ho) e36 d12_laysFar_127 ?_
            obtain ⟨t25, e37, e25⟩ := zinv e25
            refine z_cSr fx (c12_least (zLo X) (zDo X) Sh top hO t23 t24 μ17 _  e37) ms12_least ml12_360 rfl rfl rfl rfl d12_laysFar_128 ?_
            obtain ⟨μ26, e38, e25⟩ := zinv e25
            refine z_iast fx (ok12_49 hO ho) e38 d12_laysFar_131 ?_
            refine z_aload_n fx (k := 0) (i := 0) rfl rfl d12_laysFar_132 ?_
            refine z_getO fx 12 49 28 ho lf12_160 fk12_49 d12_laysFar_133 ?_
            refine z_bipush fx (v := 8) bp8 d12_laysFar_136 ?_
            refine z_iload_n fx (k := 3) (i := 3) rfl rfl d12_laysFar_138 ?_
            refine z_imul fx d12_laysFar_139 ?_
            refine z_iload_n fx (k := 2) (i := 2) rfl rfl d12_laysFar_140 ?_
            refine z_iadd fx d12_laysFar_141 ?_
            refine z_aload_n fx (k := 0) (i := 0) rfl rfl d12_laysFar_142 ?_
            refine z_getO fx 12 49 28 ho lf12_160 fk12_49 d12_laysFar_143 ?_
            refine z_bipush fx (v := 8) bp8 d12_laysFar_146 ?_
            refine z_iload_n fx (k := 3) (i := 3) rfl rfl d12_laysFar_148 ?_
            refine z_imul fx d12_laysFar_149 ?_
            refine z_iload_n fx (k := 2) (i := 2) rfl rfl d12_laysFar_150 ?_
            refine z_iadd fx d12_laysFar_151 ?_
            obtain ⟨t27, e39, e25⟩ := zinv e25
            refine z_iald fx (ok12_49 hO ho) e39 d12_laysFar_152 ?_
            refine z_aload_n fx (k := 0) (i := 0) rfl rfl d12_laysFar_153 ?_
            refine z_getO fx 12 11 6 ho lf12_44 fk12_11 d12_laysFar_154 ?_
            refine z_iload_n fx (k := 1) (i := 1) rfl rfl d12_laysFar_157 ?_
            obtain ⟨t28, e40, e25⟩ := zinv e25
            refine z_iald fx (ok12_11 hO ho) e40 d12_laysFar_158 ?_
            obtain ⟨t29, e41, e25⟩ := zinv e25
            refine z_cSr fx (c12_least (zLo X) (zDo X) Sh top hO t27 t28 μ26 _  e41) ms12_least ml12_360 rfl rfl rfl rfl d12_laysFar_159 ?_
            obtain ⟨μ30, e42, e25⟩ := zinv e25
            refine z_iast fx (ok12_49 hO ho) e42 d12_laysFar_162 ?_
            refine z_take 2 (lv' := [(0, .ref o_), (1, .int v_l_16)]) rfl ?_
            obtain ⟨v_l_31, e43, e25⟩ := zinv e25
            replace e43 := Option.some.inj e43
            refine z_iinc fx (i := 1) (x := v_l_16) (v := v_l_31) rfl (by rw [in1]; exact e43) rfl (lv' := [(0, .ref o_), (1, .int v_l_31)]) rfl rfl d12_laysFar_163 ?_
            cases e25
            refine z_goto fx d12_laysFar_166 ?_
            exact ih29 _ _ hl26
          · replace e25 := zif_f c32 e25
            refine z_goto fx d12_laysFar_78 ?_
            obtain ⟨v_l_32, e44, e25⟩ := zinv e25
            replace e44 := Option.some.inj e44
            refine z_iinc fx (i := 1) (x := v_l_16) (v := v_l_32) rfl (by rw [in1]; exact e44) rfl (lv' := [(0, .ref o_), (1, .int v_l_32)]) rfl rfl d12_laysFar_163 ?_
            cases e25
            refine z_goto fx d12_laysFar_166 ?_
            exact ih29 _ _ hl26
    exact klr27 _ _ _ e74
  clear h
  have klr3 : ∀ (n : Nat) (v_k_1 : Int32) (μ2 : zM), zloop (fun s => f12_laysFar_L1 o_ s.1 s.2) n (v_k_1, μ2) = some (v_k_3, μ4) → zZ zK1 X (zT0 Sh top) μ2 2 [(0, .ref o_), (1, .int v_k_1)] [] := by
    intro n
    induction n with
    | zero => intro v_k_1 μ2 hl2; cases hl2
    | succ n ih5 =>
      intro v_k_1 μ2 hl2
      obtain ⟨y, e1, hl2⟩ := zloop_inv hl2
      replace e1 : f12_laysFar_L1 o_ v_k_1 μ2 = some y := e1
      unfold f12_laysFar_L1 at e1
      refine z_iload_n fx (k := 1) (i := 1) rfl rfl d12_laysFar_2 ?_
      refine z_bipush fx (v := 64) bp64 d12_laysFar_3 ?_
      refine z_icmp_ge fx d12_laysFar_5 (fun c6 => ?_) (fun c6 => ?_)
      · replace e1 := zif_f c6 e1
        cases e1
        cases hl2
        exact kx4
      · replace e1 := zif_t c6 e1
        refine z_aload_n fx (k := 0) (i := 0) rfl rfl d12_laysFar_8 ?_
        refine z_getO fx 12 49 28 ho lf12_160 fk12_49 d12_laysFar_9 ?_
        refine z_iload_n fx (k := 1) (i := 1) rfl rfl d12_laysFar_12 ?_
        obtain ⟨x5, e7, e1⟩ := zinv e1
        have k8 : zZ zK1 X (zT0 Sh top) μ2 53 [(0, .ref o_), (1, .int v_k_1)] [.int x5, .int v_k_1, .ref (o_ + 28)] := by
          obtain ⟨μ14, e23, e1⟩ := zinv e1
          refine z_iast fx (ok12_49 hO ho) e23 d12_laysFar_53 ?_
          obtain ⟨v_k_15, e24, e1⟩ := zinv e1
          replace e24 := Option.some.inj e24
          refine z_iinc fx (i := 1) (x := v_k_1) (v := v_k_15) rfl (by rw [in1]; exact e24) rfl (lv' := [(0, .ref o_), (1, .int v_k_15)]) rfl rfl d12_laysFar_54 ?_
          cases e1
          refine z_goto fx d12_laysFar_57 ?_
          exact ih5 _ _ hl2
        obtain ⟨b6, e10, e7⟩ := zinv e7
        have kt9 : b6 = true → zZ zK1 X (zT0 Sh top) μ2 46 [(0, .ref o_), (1, .int v_k_1)] [.int v_k_1, .ref (o_ + 28)] := by
          intro hc
          replace e7 := zif_t hc e7
          refine z_iconst fx (v := 0) ic0 d12_laysFar_46 ?_
          cases e7
          refine z_goto fx d12_laysFar_47 ?_
          exact k8
        have kf9 : b6 = false → zZ zK1 X (zT0 Sh top) μ2 50 [(0, .ref o_), (1, .int v_k_1)] [.int v_k_1, .ref (o_ + 28)] := by
          intro hc
          replace e7 := zif_f hc e7
          refine z_ldcw fx (v := 100000000) kc12_489 d12_laysFar_50 ?_
          cases e7
          exact k8
        clear e7
        obtain ⟨b7, e11, e10⟩ := zinv e10
        have kt12 : b7 = true → zZ zK1 X (zT0 Sh top) μ2 35 [(0, .ref o_), (1, .int v_k_1)] [.int v_k_1, .ref (o_ + 28)] := by
          intro hc
          replace e10 := zif_t hc e10
          refine z_aload_n fx (k := 0) (i := 0) rfl rfl d12_laysFar_35 ?_
          refine z_iload_n fx (k := 1) (i := 1) rfl rfl d12_laysFar_36 ?_
          refine z_bipush fx (v := 8) bp8 d12_laysFar_37 ?_
          obtain ⟨t8, e13, e10⟩ := zinv e10
          refine z_idiv fx e13 d12_laysFar_39 ?_
          obtain ⟨t9, e14, e10⟩ := zinv e10
          refine z_cVr fx (c12_isOn (zLo X) (zDo X) Sh top hO o_ t8 μ2 _ ho e14) mv12_isOn ml12_328 ho rfl rfl rfl rfl d12_laysFar_40 ?_
          cases e10
          refine z_ifb_eq fx d12_laysFar_43 (fun c15 => ?_) (fun c15 => ?_)
          · exact kf9 c15
          · exact kt9 c15
        have kf12 : b7 = false → zZ zK1 X (zT0 Sh top) μ2 50 [(0, .ref o_), (1, .int v_k_1)] [.int v_k_1, .ref (o_ + 28)] := by
          intro hc
          replace e10 := zif_f hc e10
          cases e10
          exact kf9 rfl
        clear e10
        obtain ⟨b10, e16, e11⟩ := zinv e11
        have kt17 : b10 = true → zZ zK1 X (zT0 Sh top) μ2 24 [(0, .ref o_), (1, .int v_k_1)] [.int v_k_1, .ref (o_ + 28)] := by
          intro hc
          replace e11 := zif_t hc e11
          refine z_iload_n fx (k := 1) (i := 1) rfl rfl d12_laysFar_24 ?_
          refine z_bipush fx (v := 8) bp8 d12_laysFar_25 ?_
          obtain ⟨t11, e18, e11⟩ := zinv e11
          refine z_idiv fx e18 d12_laysFar_27 ?_
          refine z_aload_n fx (k := 0) (i := 0) rfl rfl d12_laysFar_28 ?_
          refine z_getI fx 12 1 1201 ho lf12_13 ⟨fk12_1, rfl⟩ d12_laysFar_29 ?_
          cases e11
          refine z_icmp_ge fx d12_laysFar_32 (fun c19 => ?_) (fun c19 => ?_)
          · exact kf12 c19
          · exact kt12 c19
        have kf17 : b10 = false → zZ zK1 X (zT0 Sh top) μ2 50 [(0, .ref o_), (1, .int v_k_1)] [.int v_k_1, .ref (o_ + 28)] := by
          intro hc
          replace e11 := zif_f hc e11
          cases e11
          exact kf12 rfl
        clear e11
        refine z_iload_n fx (k := 1) (i := 1) rfl rfl d12_laysFar_13 ?_
        refine z_bipush fx (v := 8) bp8 d12_laysFar_14 ?_
        obtain ⟨t12, e20, e16⟩ := zinv e16
        refine z_idiv fx e20 d12_laysFar_16 ?_
        refine z_iload_n fx (k := 1) (i := 1) rfl rfl d12_laysFar_17 ?_
        refine z_bipush fx (v := 8) bp8 d12_laysFar_18 ?_
        obtain ⟨t13, e21, e16⟩ := zinv e16
        refine z_irem fx e21 d12_laysFar_20 ?_
        cases e16
        refine z_icmp_ne fx d12_laysFar_21 (fun c22 => ?_) (fun c22 => ?_)
        · exact kf17 c22
        · exact kt17 c22
  exact klr3 _ _ _ e75
theorem d12_rootOf_0 : zd cX12_rootOf 0 (.iload_n 1) 1 1 := by decide +kernel
theorem d12_rootOf_1 : zd cX12_rootOf 1 (.istore_n 2) 1 2 := by decide +kernel
theorem d12_rootOf_2 : zd cX12_rootOf 2 (.iconst 0) 1 3 := by decide +kernel
theorem d12_rootOf_3 : zd cX12_rootOf 3 (.istore_n 3) 1 4 := by decide +kernel
theorem d12_rootOf_4 : zd cX12_rootOf 4 (.iload_n 3) 1 5 := by decide +kernel
theorem d12_rootOf_5 : zd cX12_rootOf 5 (.aload_n 0) 1 6 := by decide +kernel
theorem d12_rootOf_6 : zd cX12_rootOf 6 (.getfield 13) 3 9 := by decide +kernel
theorem d12_rootOf_9 : zj cX12_rootOf 9 (.if_icmp .ge 41) 41 12 50 := by decide +kernel
theorem d12_rootOf_12 : zd cX12_rootOf 12 (.aload_n 0) 1 13 := by decide +kernel
theorem d12_rootOf_13 : zd cX12_rootOf 13 (.getfield 160) 3 16 := by decide +kernel
theorem d12_rootOf_16 : zd cX12_rootOf 16 (.bipush 8) 2 18 := by decide +kernel
theorem d12_rootOf_18 : zd cX12_rootOf 18 (.iload_n 1) 1 19 := by decide +kernel
theorem d12_rootOf_19 : zd cX12_rootOf 19 (.imul) 1 20 := by decide +kernel
theorem d12_rootOf_20 : zd cX12_rootOf 20 (.iload_n 3) 1 21 := by decide +kernel
theorem d12_rootOf_21 : zd cX12_rootOf 21 (.iadd) 1 22 := by decide +kernel
theorem d12_rootOf_22 : zd cX12_rootOf 22 (.iaload) 1 23 := by decide +kernel
theorem d12_rootOf_23 : zd cX12_rootOf 23 (.ldc_w 489) 3 26 := by decide +kernel
theorem d12_rootOf_26 : zj cX12_rootOf 26 (.if_icmp .ge 18) 18 29 44 := by decide +kernel
theorem d12_rootOf_29 : zd cX12_rootOf 29 (.aload_n 0) 1 30 := by decide +kernel
theorem d12_rootOf_30 : zd cX12_rootOf 30 (.iload_n 3) 1 31 := by decide +kernel
theorem d12_rootOf_31 : zd cX12_rootOf 31 (.invokevirtual 337) 3 34 := by decide +kernel
theorem d12_rootOf_34 : zd cX12_rootOf 34 (.aload_n 0) 1 35 := by decide +kernel
theorem d12_rootOf_35 : zd cX12_rootOf 35 (.iload_n 2) 1 36 := by decide +kernel
theorem d12_rootOf_36 : zd cX12_rootOf 36 (.invokevirtual 337) 3 39 := by decide +kernel
theorem d12_rootOf_39 : zj cX12_rootOf 39 (.if_icmp .ge 5) 5 42 44 := by decide +kernel
theorem d12_rootOf_42 : zd cX12_rootOf 42 (.iload_n 3) 1 43 := by decide +kernel
theorem d12_rootOf_43 : zd cX12_rootOf 43 (.istore_n 2) 1 44 := by decide +kernel
theorem d12_rootOf_44 : zd cX12_rootOf 44 (.iinc 3 1) 3 47 := by decide +kernel
theorem d12_rootOf_47 : zj cX12_rootOf 47 (.goto (-43)) (-43) 50 4 := by decide +kernel
theorem d12_rootOf_50 : zd cX12_rootOf 50 (.iload_n 2) 1 51 := by decide +kernel
theorem d12_rootOf_51 : zd cX12_rootOf 51 (.ireturn) 1 52 := by decide +kernel
set_option maxHeartbeats 4000000 in
set_option maxRecDepth 20000 in
theorem c12_rootOf (l : Launch) (D : zDt) (Sh : zSh) (top : Nat) (hO : zOK Sh) (o_ : Nat) (v_b : Int32) (μ : zM) (r_ : Int32) (ho : (Sh o_).1 = 19) (h : f12_rootOf o_ v_b μ = some r_) : zMet l D zK1 yX12_rootOf cX12_rootOf 4 (some .int) (zrm 3 64) [.ref o_, .int v_b] Sh top μ (some (.int r_)) Sh top μ 0 0 := by
  refine zMet_of (by decide) (Nat.le_of_ble_eq_true rfl) fun X hX1 hX2 fx fin => ?_
  subst hX1; subst hX2
  replace fx : zFix X cX12_rootOf RX12 (zrm 3 64) 4 := fx
  show zZ zK1 X (zT0 Sh top) μ 0 [(0, .ref o_), (1, .int v_b)] []
  unfold f12_rootOf at h
  refine z_iload_n fx (k := 1) (i := 1) rfl rfl d12_rootOf_0 ?_
  refine z_istore_n fx (k := 2) (i := 2) rfl rfl (lv' := [(0, .ref o_), (1, .int v_b), (2, .int v_b)]) rfl rfl d12_rootOf_1 ?_
  refine z_iconst fx (v := 0) ic0 d12_rootOf_2 ?_
  refine z_istore_n fx (k := 3) (i := 3) rfl rfl (lv' := [(0, .ref o_), (1, .int v_b), (2, .int v_b), (3, .int 0)]) rfl rfl d12_rootOf_3 ?_
  obtain ⟨v_best_3, v_o_4, e18, h⟩ := zinv2 h
  have kx4 : zZ zK1 X (zT0 Sh top) μ 50 [(0, .ref o_), (1, .int v_b), (2, .int v_best_3), (3, .int v_o_4)] [] := by
    refine z_take 3 (lv' := [(0, .ref o_), (1, .int v_b), (2, .int v_best_3)]) rfl ?_
    refine z_iload_n fx (k := 2) (i := 2) rfl rfl d12_rootOf_50 ?_
    cases h
    exact z_ireturn fx fin d12_rootOf_51
  clear h
  have klr3 : ∀ (n : Nat) (v_best_1 : Int32) (v_o_2 : Int32), zloop (fun s => f12_rootOf_L1 o_ v_b μ s.1 s.2) n (v_best_1, v_o_2) = some (v_best_3, v_o_4) → zZ zK1 X (zT0 Sh top) μ 4 [(0, .ref o_), (1, .int v_b), (2, .int v_best_1), (3, .int v_o_2)] [] := by
    intro n
    induction n with
    | zero => intro v_best_1 v_o_2 hl2; cases hl2
    | succ n ih5 =>
      intro v_best_1 v_o_2 hl2
      obtain ⟨y, e1, hl2⟩ := zloop_inv hl2
      replace e1 : f12_rootOf_L1 o_ v_b μ v_best_1 v_o_2 = some y := e1
      unfold f12_rootOf_L1 at e1
      refine z_iload_n fx (k := 3) (i := 3) rfl rfl d12_rootOf_4 ?_
      refine z_aload_n fx (k := 0) (i := 0) rfl rfl d12_rootOf_5 ?_
      refine z_getI fx 12 1 1201 ho lf12_13 ⟨fk12_1, rfl⟩ d12_rootOf_6 ?_
      refine z_icmp_ge fx d12_rootOf_9 (fun c6 => ?_) (fun c6 => ?_)
      · replace e1 := zif_f c6 e1
        cases e1
        cases hl2
        exact kx4
      · replace e1 := zif_t c6 e1
        obtain ⟨b5, e8, e1⟩ := zinv e1
        have kt7 : b5 = true → zZ zK1 X (zT0 Sh top) μ 42 [(0, .ref o_), (1, .int v_b), (2, .int v_best_1), (3, .int v_o_2)] [] := by
          intro hc
          replace e1 := zif_t hc e1
          refine z_iload_n fx (k := 3) (i := 3) rfl rfl d12_rootOf_42 ?_
          refine z_istore_n fx (k := 2) (i := 2) rfl rfl (lv' := [(0, .ref o_), (1, .int v_b), (2, .int v_o_2), (3, .int v_o_2)]) rfl rfl d12_rootOf_43 ?_
          obtain ⟨v_o_6, e9, e1⟩ := zinv e1
          replace e9 := Option.some.inj e9
          refine z_iinc fx (i := 3) (x := v_o_2) (v := v_o_6) rfl (by rw [in1]; exact e9) rfl (lv' := [(0, .ref o_), (1, .int v_b), (2, .int v_o_2), (3, .int v_o_6)]) rfl rfl d12_rootOf_44 ?_
          cases e1
          refine z_goto fx d12_rootOf_47 ?_
          exact ih5 _ _ hl2
        have kf7 : b5 = false → zZ zK1 X (zT0 Sh top) μ 44 [(0, .ref o_), (1, .int v_b), (2, .int v_best_1), (3, .int v_o_2)] [] := by
          intro hc
          replace e1 := zif_f hc e1
          obtain ⟨v_o_7, e10, e1⟩ := zinv e1
          replace e10 := Option.some.inj e10
          refine z_iinc fx (i := 3) (x := v_o_2) (v := v_o_7) rfl (by rw [in1]; exact e10) rfl (lv' := [(0, .ref o_), (1, .int v_b), (2, .int v_best_1), (3, .int v_o_7)]) rfl rfl d12_rootOf_44 ?_
          cases e1
          refine z_goto fx d12_rootOf_47 ?_
          exact ih5 _ _ hl2
        clear e1
        obtain ⟨b8, e11, e8⟩ := zinv e8
        have kt12 : b8 = true → zZ zK1 X (zT0 Sh top) μ 29 [(0, .ref o_), (1, .int v_b), (2, .int v_best_1), (3, .int v_o_2)] [] := by
          intro hc
          replace e8 := zif_t hc e8
          refine z_aload_n fx (k := 0) (i := 0) rfl rfl d12_rootOf_29 ?_
          refine z_iload_n fx (k := 3) (i := 3) rfl rfl d12_rootOf_30 ?_
          obtain ⟨t9, e13, e8⟩ := zinv e8
          refine z_cVr fx (c12_idOf (zLo X) (zDo X) Sh top hO o_ v_o_2 μ _ ho e13) mv12_idOf ml12_337 ho rfl rfl rfl rfl d12_rootOf_31 ?_
          refine z_aload_n fx (k := 0) (i := 0) rfl rfl d12_rootOf_34 ?_
          refine z_iload_n fx (k := 2) (i := 2) rfl rfl d12_rootOf_35 ?_
          obtain ⟨t10, e14, e8⟩ := zinv e8
          refine z_cVr fx (c12_idOf (zLo X) (zDo X) Sh top hO o_ v_best_1 μ _ ho e14) mv12_idOf ml12_337 ho rfl rfl rfl rfl d12_rootOf_36 ?_
          cases e8
          refine z_icmp_ge fx d12_rootOf_39 (fun c15 => ?_) (fun c15 => ?_)
          · exact kf7 c15
          · exact kt7 c15
        have kf12 : b8 = false → zZ zK1 X (zT0 Sh top) μ 44 [(0, .ref o_), (1, .int v_b), (2, .int v_best_1), (3, .int v_o_2)] [] := by
          intro hc
          replace e8 := zif_f hc e8
          cases e8
          exact kf7 rfl
        clear e8
        refine z_aload_n fx (k := 0) (i := 0) rfl rfl d12_rootOf_12 ?_
        refine z_getO fx 12 49 28 ho lf12_160 fk12_49 d12_rootOf_13 ?_
        refine z_bipush fx (v := 8) bp8 d12_rootOf_16 ?_
        refine z_iload_n fx (k := 1) (i := 1) rfl rfl d12_rootOf_18 ?_
        refine z_imul fx d12_rootOf_19 ?_
        refine z_iload_n fx (k := 3) (i := 3) rfl rfl d12_rootOf_20 ?_
        refine z_iadd fx d12_rootOf_21 ?_
        obtain ⟨t11, e16, e11⟩ := zinv e11
        refine z_iald fx (ok12_49 hO ho) e16 d12_rootOf_22 ?_
        refine z_ldcw fx (v := 100000000) kc12_489 d12_rootOf_23 ?_
        cases e11
        refine z_icmp_ge fx d12_rootOf_26 (fun c17 => ?_) (fun c17 => ?_)
        · exact kf12 c17
        · exact kt12 c17
  exact klr3 _ _ _ e18
theorem d12_rootPortOf_0 : zd cX12_rootPortOf 0 (.aload_n 0) 1 1 := by decide +kernel
theorem d12_rootPortOf_1 : zd cX12_rootPortOf 1 (.iload_n 1) 1 2 := by decide +kernel
theorem d12_rootPortOf_2 : zd cX12_rootPortOf 2 (.invokevirtual 490) 3 5 := by decide +kernel
theorem d12_rootPortOf_5 : zd cX12_rootPortOf 5 (.istore_n 2) 1 6 := by decide +kernel
theorem d12_rootPortOf_6 : zd cX12_rootPortOf 6 (.iload_n 2) 1 7 := by decide +kernel
theorem d12_rootPortOf_7 : zd cX12_rootPortOf 7 (.iload_n 1) 1 8 := by decide +kernel
theorem d12_rootPortOf_8 : zj cX12_rootPortOf 8 (.if_icmp .ne 5) 5 11 13 := by decide +kernel
theorem d12_rootPortOf_11 : zd cX12_rootPortOf 11 (.iconst (-1)) 1 12 := by decide +kernel
theorem d12_rootPortOf_12 : zd cX12_rootPortOf 12 (.ireturn) 1 13 := by decide +kernel
theorem d12_rootPortOf_13 : zd cX12_rootPortOf 13 (.iconst (-1)) 1 14 := by decide +kernel
theorem d12_rootPortOf_14 : zd cX12_rootPortOf 14 (.istore_n 3) 1 15 := by decide +kernel
theorem d12_rootPortOf_15 : zd cX12_rootPortOf 15 (.iload_n 1) 1 16 := by decide +kernel
theorem d12_rootPortOf_16 : zd cX12_rootPortOf 16 (.iconst 0) 1 17 := by decide +kernel
theorem d12_rootPortOf_17 : zd cX12_rootPortOf 17 (.invokestatic 325) 3 20 := by decide +kernel
theorem d12_rootPortOf_20 : zd cX12_rootPortOf 20 (.istore 4) 2 22 := by decide +kernel
theorem d12_rootPortOf_22 : zd cX12_rootPortOf 22 (.iload 4) 2 24 := by decide +kernel
theorem d12_rootPortOf_24 : zd cX12_rootPortOf 24 (.iload_n 1) 1 25 := by decide +kernel
theorem d12_rootPortOf_25 : zd cX12_rootPortOf 25 (.aload_n 0) 1 26 := by decide +kernel
theorem d12_rootPortOf_26 : zd cX12_rootPortOf 26 (.getfield 35) 3 29 := by decide +kernel
theorem d12_rootPortOf_29 : zd cX12_rootPortOf 29 (.iload_n 1) 1 30 := by decide +kernel
theorem d12_rootPortOf_30 : zd cX12_rootPortOf 30 (.iaload) 1 31 := by decide +kernel
theorem d12_rootPortOf_31 : zd cX12_rootPortOf 31 (.invokestatic 325) 3 34 := by decide +kernel
theorem d12_rootPortOf_34 : zj cX12_rootPortOf 34 (.if_icmp .ge 136) 136 37 170 := by decide +kernel
theorem d12_rootPortOf_37 : zd cX12_rootPortOf 37 (.aload_n 0) 1 38 := by decide +kernel
theorem d12_rootPortOf_38 : zd cX12_rootPortOf 38 (.iload 4) 2 40 := by decide +kernel
theorem d12_rootPortOf_40 : zd cX12_rootPortOf 40 (.invokevirtual 322) 3 43 := by decide +kernel
theorem d12_rootPortOf_43 : zd cX12_rootPortOf 43 (.istore 5) 2 45 := by decide +kernel
theorem d12_rootPortOf_45 : zd cX12_rootPortOf 45 (.aload_n 0) 1 46 := by decide +kernel
theorem d12_rootPortOf_46 : zd cX12_rootPortOf 46 (.iload 4) 2 48 := by decide +kernel
theorem d12_rootPortOf_48 : zd cX12_rootPortOf 48 (.invokevirtual 393) 3 51 := by decide +kernel
theorem d12_rootPortOf_51 : zj cX12_rootPortOf 51 (.ifCond .eq 113) 113 54 164 := by decide +kernel
theorem d12_rootPortOf_54 : zd cX12_rootPortOf 54 (.iload 5) 2 56 := by decide +kernel
theorem d12_rootPortOf_56 : zd cX12_rootPortOf 56 (.iload_n 1) 1 57 := by decide +kernel
theorem d12_rootPortOf_57 : zj cX12_rootPortOf 57 (.if_icmp .ne 6) 6 60 63 := by decide +kernel
theorem d12_rootPortOf_60 : zj cX12_rootPortOf 60 (.goto 104) 104 63 164 := by decide +kernel
theorem d12_rootPortOf_63 : zd cX12_rootPortOf 63 (.iload_n 3) 1 64 := by decide +kernel
theorem d12_rootPortOf_64 : zd cX12_rootPortOf 64 (.iconst (-1)) 1 65 := by decide +kernel
theorem d12_rootPortOf_65 : zj cX12_rootPortOf 65 (.if_icmp .eq 96) 96 68 161 := by decide +kernel
theorem d12_rootPortOf_68 : zd cX12_rootPortOf 68 (.aload_n 0) 1 69 := by decide +kernel
theorem d12_rootPortOf_69 : zd cX12_rootPortOf 69 (.getfield 160) 3 72 := by decide +kernel
theorem d12_rootPortOf_72 : zd cX12_rootPortOf 72 (.bipush 8) 2 74 := by decide +kernel
theorem d12_rootPortOf_74 : zd cX12_rootPortOf 74 (.iload 5) 2 76 := by decide +kernel
theorem d12_rootPortOf_76 : zd cX12_rootPortOf 76 (.imul) 1 77 := by decide +kernel
theorem d12_rootPortOf_77 : zd cX12_rootPortOf 77 (.iload_n 2) 1 78 := by decide +kernel
theorem d12_rootPortOf_78 : zd cX12_rootPortOf 78 (.iadd) 1 79 := by decide +kernel
theorem d12_rootPortOf_79 : zd cX12_rootPortOf 79 (.iaload) 1 80 := by decide +kernel
theorem d12_rootPortOf_80 : zd cX12_rootPortOf 80 (.aload_n 0) 1 81 := by decide +kernel
theorem d12_rootPortOf_81 : zd cX12_rootPortOf 81 (.getfield 44) 3 84 := by decide +kernel
theorem d12_rootPortOf_84 : zd cX12_rootPortOf 84 (.aload_n 0) 1 85 := by decide +kernel
theorem d12_rootPortOf_85 : zd cX12_rootPortOf 85 (.getfield 56) 3 88 := by decide +kernel
theorem d12_rootPortOf_88 : zd cX12_rootPortOf 88 (.iload 4) 2 90 := by decide +kernel
theorem d12_rootPortOf_90 : zd cX12_rootPortOf 90 (.iaload) 1 91 := by decide +kernel
theorem d12_rootPortOf_91 : zd cX12_rootPortOf 91 (.iaload) 1 92 := by decide +kernel
theorem d12_rootPortOf_92 : zd cX12_rootPortOf 92 (.iadd) 1 93 := by decide +kernel
theorem d12_rootPortOf_93 : zd cX12_rootPortOf 93 (.aload_n 0) 1 94 := by decide +kernel
theorem d12_rootPortOf_94 : zd cX12_rootPortOf 94 (.iload 5) 2 96 := by decide +kernel
theorem d12_rootPortOf_96 : zd cX12_rootPortOf 96 (.invokevirtual 337) 3 99 := by decide +kernel
theorem d12_rootPortOf_99 : zd cX12_rootPortOf 99 (.aload_n 0) 1 100 := by decide +kernel
theorem d12_rootPortOf_100 : zd cX12_rootPortOf 100 (.iload 4) 2 102 := by decide +kernel
theorem d12_rootPortOf_102 : zd cX12_rootPortOf 102 (.invokevirtual 422) 3 105 := by decide +kernel
theorem d12_rootPortOf_105 : zd cX12_rootPortOf 105 (.bipush 6) 2 107 := by decide +kernel
theorem d12_rootPortOf_107 : zd cX12_rootPortOf 107 (.irem) 1 108 := by decide +kernel
theorem d12_rootPortOf_108 : zd cX12_rootPortOf 108 (.iload 4) 2 110 := by decide +kernel
theorem d12_rootPortOf_110 : zd cX12_rootPortOf 110 (.aload_n 0) 1 111 := by decide +kernel
theorem d12_rootPortOf_111 : zd cX12_rootPortOf 111 (.getfield 160) 3 114 := by decide +kernel
theorem d12_rootPortOf_114 : zd cX12_rootPortOf 114 (.bipush 8) 2 116 := by decide +kernel
theorem d12_rootPortOf_116 : zd cX12_rootPortOf 116 (.aload_n 0) 1 117 := by decide +kernel
theorem d12_rootPortOf_117 : zd cX12_rootPortOf 117 (.iload_n 3) 1 118 := by decide +kernel
theorem d12_rootPortOf_118 : zd cX12_rootPortOf 118 (.invokevirtual 322) 3 121 := by decide +kernel
theorem d12_rootPortOf_121 : zd cX12_rootPortOf 121 (.imul) 1 122 := by decide +kernel
theorem d12_rootPortOf_122 : zd cX12_rootPortOf 122 (.iload_n 2) 1 123 := by decide +kernel
theorem d12_rootPortOf_123 : zd cX12_rootPortOf 123 (.iadd) 1 124 := by decide +kernel
theorem d12_rootPortOf_124 : zd cX12_rootPortOf 124 (.iaload) 1 125 := by decide +kernel
theorem d12_rootPortOf_125 : zd cX12_rootPortOf 125 (.aload_n 0) 1 126 := by decide +kernel
theorem d12_rootPortOf_126 : zd cX12_rootPortOf 126 (.getfield 44) 3 129 := by decide +kernel
theorem d12_rootPortOf_129 : zd cX12_rootPortOf 129 (.aload_n 0) 1 130 := by decide +kernel
theorem d12_rootPortOf_130 : zd cX12_rootPortOf 130 (.getfield 56) 3 133 := by decide +kernel
theorem d12_rootPortOf_133 : zd cX12_rootPortOf 133 (.iload_n 3) 1 134 := by decide +kernel
theorem d12_rootPortOf_134 : zd cX12_rootPortOf 134 (.iaload) 1 135 := by decide +kernel
theorem d12_rootPortOf_135 : zd cX12_rootPortOf 135 (.iaload) 1 136 := by decide +kernel
theorem d12_rootPortOf_136 : zd cX12_rootPortOf 136 (.iadd) 1 137 := by decide +kernel
theorem d12_rootPortOf_137 : zd cX12_rootPortOf 137 (.aload_n 0) 1 138 := by decide +kernel
theorem d12_rootPortOf_138 : zd cX12_rootPortOf 138 (.aload_n 0) 1 139 := by decide +kernel
theorem d12_rootPortOf_139 : zd cX12_rootPortOf 139 (.iload_n 3) 1 140 := by decide +kernel
theorem d12_rootPortOf_140 : zd cX12_rootPortOf 140 (.invokevirtual 322) 3 143 := by decide +kernel
theorem d12_rootPortOf_143 : zd cX12_rootPortOf 143 (.invokevirtual 337) 3 146 := by decide +kernel
theorem d12_rootPortOf_146 : zd cX12_rootPortOf 146 (.aload_n 0) 1 147 := by decide +kernel
theorem d12_rootPortOf_147 : zd cX12_rootPortOf 147 (.iload_n 3) 1 148 := by decide +kernel
theorem d12_rootPortOf_148 : zd cX12_rootPortOf 148 (.invokevirtual 422) 3 151 := by decide +kernel
theorem d12_rootPortOf_151 : zd cX12_rootPortOf 151 (.bipush 6) 2 153 := by decide +kernel
theorem d12_rootPortOf_153 : zd cX12_rootPortOf 153 (.irem) 1 154 := by decide +kernel
theorem d12_rootPortOf_154 : zd cX12_rootPortOf 154 (.iload_n 3) 1 155 := by decide +kernel
theorem d12_rootPortOf_155 : zd cX12_rootPortOf 155 (.invokestatic 340) 3 158 := by decide +kernel
theorem d12_rootPortOf_158 : zj cX12_rootPortOf 158 (.ifCond .eq 6) 6 161 164 := by decide +kernel
theorem d12_rootPortOf_161 : zd cX12_rootPortOf 161 (.iload 4) 2 163 := by decide +kernel
theorem d12_rootPortOf_163 : zd cX12_rootPortOf 163 (.istore_n 3) 1 164 := by decide +kernel
theorem d12_rootPortOf_164 : zd cX12_rootPortOf 164 (.iinc 4 1) 3 167 := by decide +kernel
theorem d12_rootPortOf_167 : zj cX12_rootPortOf 167 (.goto (-145)) (-145) 170 22 := by decide +kernel
theorem d12_rootPortOf_170 : zd cX12_rootPortOf 170 (.iload_n 3) 1 171 := by decide +kernel
theorem d12_rootPortOf_171 : zd cX12_rootPortOf 171 (.ireturn) 1 172 := by decide +kernel
set_option maxHeartbeats 4000000 in
set_option maxRecDepth 20000 in
theorem c12_rootPortOf (l : Launch) (D : zDt) (Sh : zSh) (top : Nat) (hO : zOK Sh) (o_ : Nat) (v_b : Int32) (μ : zM) (r_ : Int32) (ho : (Sh o_).1 = 19) (h : f12_rootPortOf o_ v_b μ = some r_) : zMet l D zK1 yX12_rootPortOf cX12_rootPortOf 6 (some .int) (zrm 5 106) [.ref o_, .int v_b] Sh top μ (some (.int r_)) Sh top μ 0 0 := by
  refine zMet_of (by decide) (Nat.le_of_ble_eq_true rfl) fun X hX1 hX2 fx fin => ?_
  subst hX1; subst hX2
  replace fx : zFix X cX12_rootPortOf RX12 (zrm 5 106) 6 := fx
  show zZ zK1 X (zT0 Sh top) μ 0 [(0, .ref o_), (1, .int v_b)] []
  unfold f12_rootPortOf at h
  refine z_aload_n fx (k := 0) (i := 0) rfl rfl d12_rootPortOf_0 ?_
  refine z_iload_n fx (k := 1) (i := 1) rfl rfl d12_rootPortOf_1 ?_
  obtain ⟨t1, e1, h⟩ := zinv h
  refine z_cVr fx (c12_rootOf (zLo X) (zDo X) Sh top hO o_ v_b μ _ ho e1) mv12_rootOf ml12_490 ho rfl rfl rfl rfl d12_rootPortOf_2 ?_
  refine z_istore_n fx (k := 2) (i := 2) rfl rfl (lv' := [(0, .ref o_), (1, .int v_b), (2, .int t1)]) rfl rfl d12_rootPortOf_5 ?_
  refine z_iload_n fx (k := 2) (i := 2) rfl rfl d12_rootPortOf_6 ?_
  refine z_iload_n fx (k := 1) (i := 1) rfl rfl d12_rootPortOf_7 ?_
  refine z_icmp_ne fx d12_rootPortOf_8 (fun c2 => ?_) (fun c2 => ?_)
  · replace h := zif_f c2 h
    refine z_iconst fx (v := (-1)) icm1 d12_rootPortOf_13 ?_
    refine z_istore_n fx (k := 3) (i := 3) rfl rfl (lv' := [(0, .ref o_), (1, .int v_b), (2, .int t1), (3, .int (-1))]) rfl rfl d12_rootPortOf_14 ?_
    refine z_iload_n fx (k := 1) (i := 1) rfl rfl d12_rootPortOf_15 ?_
    refine z_iconst fx (v := 0) ic0 d12_rootPortOf_16 ?_
    obtain ⟨t2, e3, h⟩ := zinv h
    refine z_cSr fx (c12_placeOf (zLo X) (zDo X) Sh top hO v_b 0 μ _  e3) ms12_placeOf ml12_325 rfl rfl rfl rfl d12_rootPortOf_17 ?_
    refine z_istore fx (i := 4) rfl (lv' := [(0, .ref o_), (1, .int v_b), (2, .int t1), (3, .int (-1)), (4, .int t2)]) rfl rfl d12_rootPortOf_20 ?_
    obtain ⟨v_best_5, v_p_6, e42, h⟩ := zinv2 h
    have kx7 : zZ zK1 X (zT0 Sh top) μ 170 [(0, .ref o_), (1, .int v_b), (2, .int t1), (3, .int v_best_5), (4, .int v_p_6)] [] := by
      refine z_take 4 (lv' := [(0, .ref o_), (1, .int v_b), (2, .int t1), (3, .int v_best_5)]) rfl ?_
      refine z_iload_n fx (k := 3) (i := 3) rfl rfl d12_rootPortOf_170 ?_
      cases h
      exact z_ireturn fx fin d12_rootPortOf_171
    clear h
    have klr6 : ∀ (n : Nat) (v_best_3 : Int32) (v_p_4 : Int32), zloop (fun s => f12_rootPortOf_L1 o_ v_b μ t1 s.1 s.2) n (v_best_3, v_p_4) = some (v_best_5, v_p_6) → zZ zK1 X (zT0 Sh top) μ 22 [(0, .ref o_), (1, .int v_b), (2, .int t1), (3, .int v_best_3), (4, .int v_p_4)] [] := by
      intro n
      induction n with
      | zero => intro v_best_3 v_p_4 hl5; cases hl5
      | succ n ih8 =>
        intro v_best_3 v_p_4 hl5
        obtain ⟨y, e4, hl5⟩ := zloop_inv hl5
        replace e4 : f12_rootPortOf_L1 o_ v_b μ t1 v_best_3 v_p_4 = some y := e4
        unfold f12_rootPortOf_L1 at e4
        refine z_iload fx (i := 4) rfl d12_rootPortOf_22 ?_
        refine z_iload_n fx (k := 1) (i := 1) rfl rfl d12_rootPortOf_24 ?_
        refine z_aload_n fx (k := 0) (i := 0) rfl rfl d12_rootPortOf_25 ?_
        refine z_getO fx 12 8 3 ho lf12_35 fk12_8 d12_rootPortOf_26 ?_
        refine z_iload_n fx (k := 1) (i := 1) rfl rfl d12_rootPortOf_29 ?_
        obtain ⟨t7, e9, e4⟩ := zinv e4
        refine z_iald fx (ok12_8 hO ho) e9 d12_rootPortOf_30 ?_
        obtain ⟨t8, e10, e4⟩ := zinv e4
        refine z_cSr fx (c12_placeOf (zLo X) (zDo X) Sh top hO v_b t7 μ _  e10) ms12_placeOf ml12_325 rfl rfl rfl rfl d12_rootPortOf_31 ?_
        refine z_icmp_ge fx d12_rootPortOf_34 (fun c11 => ?_) (fun c11 => ?_)
        · replace e4 := zif_f c11 e4
          cases e4
          cases hl5
          exact kx7
        · replace e4 := zif_t c11 e4
          refine z_aload_n fx (k := 0) (i := 0) rfl rfl d12_rootPortOf_37 ?_
          refine z_iload fx (i := 4) rfl d12_rootPortOf_38 ?_
          obtain ⟨t9, e12, e4⟩ := zinv e4
          refine z_cVr fx (c12_otherBridge (zLo X) (zDo X) Sh top hO o_ v_p_4 μ _ ho e12) mv12_otherBridge ml12_322 ho rfl rfl rfl rfl d12_rootPortOf_40 ?_
          refine z_istore fx (i := 5) rfl (lv' := [(0, .ref o_), (1, .int v_b), (2, .int t1), (3, .int v_best_3), (4, .int v_p_4), (5, .int t9)]) rfl rfl d12_rootPortOf_43 ?_
          obtain ⟨b10, e14, e4⟩ := zinv e4
          have kt13 : b10 = true → zZ zK1 X (zT0 Sh top) μ 164 [(0, .ref o_), (1, .int v_b), (2, .int t1), (3, .int v_best_3), (4, .int v_p_4), (5, .int t9)] [] := by
            intro hc
            replace e4 := zif_t hc e4
            refine z_take 5 (lv' := [(0, .ref o_), (1, .int v_b), (2, .int t1), (3, .int v_best_3), (4, .int v_p_4)]) rfl ?_
            obtain ⟨v_p_11, e15, e4⟩ := zinv e4
            replace e15 := Option.some.inj e15
            refine z_iinc fx (i := 4) (x := v_p_4) (v := v_p_11) rfl (by rw [in1]; exact e15) rfl (lv' := [(0, .ref o_), (1, .int v_b), (2, .int t1), (3, .int v_best_3), (4, .int v_p_11)]) rfl rfl d12_rootPortOf_164 ?_
            cases e4
            refine z_goto fx d12_rootPortOf_167 ?_
            exact ih8 _ _ hl5
          have kf13 : b10 = false → zZ zK1 X (zT0 Sh top) μ 63 [(0, .ref o_), (1, .int v_b), (2, .int t1), (3, .int v_best_3), (4, .int v_p_4), (5, .int t9)] [] := by
            intro hc
            replace e4 := zif_f hc e4
            obtain ⟨b12, e17, e4⟩ := zinv e4
            have kt16 : b12 = true → zZ zK1 X (zT0 Sh top) μ 161 [(0, .ref o_), (1, .int v_b), (2, .int t1), (3, .int v_best_3), (4, .int v_p_4), (5, .int t9)] [] := by
              intro hc
              replace e4 := zif_t hc e4
              refine z_iload fx (i := 4) rfl d12_rootPortOf_161 ?_
              refine z_istore_n fx (k := 3) (i := 3) rfl rfl (lv' := [(0, .ref o_), (1, .int v_b), (2, .int t1), (3, .int v_p_4), (4, .int v_p_4), (5, .int t9)]) rfl rfl d12_rootPortOf_163 ?_
              refine z_take 5 (lv' := [(0, .ref o_), (1, .int v_b), (2, .int t1), (3, .int v_p_4), (4, .int v_p_4)]) rfl ?_
              obtain ⟨v_p_13, e18, e4⟩ := zinv e4
              replace e18 := Option.some.inj e18
              refine z_iinc fx (i := 4) (x := v_p_4) (v := v_p_13) rfl (by rw [in1]; exact e18) rfl (lv' := [(0, .ref o_), (1, .int v_b), (2, .int t1), (3, .int v_p_4), (4, .int v_p_13)]) rfl rfl d12_rootPortOf_164 ?_
              cases e4
              refine z_goto fx d12_rootPortOf_167 ?_
              exact ih8 _ _ hl5
            have kf16 : b12 = false → zZ zK1 X (zT0 Sh top) μ 164 [(0, .ref o_), (1, .int v_b), (2, .int t1), (3, .int v_best_3), (4, .int v_p_4), (5, .int t9)] [] := by
              intro hc
              replace e4 := zif_f hc e4
              refine z_take 5 (lv' := [(0, .ref o_), (1, .int v_b), (2, .int t1), (3, .int v_best_3), (4, .int v_p_4)]) rfl ?_
              obtain ⟨v_p_14, e19, e4⟩ := zinv e4
              replace e19 := Option.some.inj e19
              refine z_iinc fx (i := 4) (x := v_p_4) (v := v_p_14) rfl (by rw [in1]; exact e19) rfl (lv' := [(0, .ref o_), (1, .int v_b), (2, .int t1), (3, .int v_best_3), (4, .int v_p_14)]) rfl rfl d12_rootPortOf_164 ?_
              cases e4
              refine z_goto fx d12_rootPortOf_167 ?_
              exact ih8 _ _ hl5
            clear e4
            refine z_iload_n fx (k := 3) (i := 3) rfl rfl d12_rootPortOf_63 ?_
            refine z_iconst fx (v := (-1)) icm1 d12_rootPortOf_64 ?_
            refine z_icmp_eq fx d12_rootPortOf_65 (fun c20 => ?_) (fun c20 => ?_)
            · replace e17 := zif_t c20 e17
              cases e17
              exact kt16 rfl
            · replace e17 := zif_f c20 e17
              refine z_aload_n fx (k := 0) (i := 0) rfl rfl d12_rootPortOf_68 ?_
              refine z_getO fx 12 49 28 ho lf12_160 fk12_49 d12_rootPortOf_69 ?_
              refine z_bipush fx (v := 8) bp8 d12_rootPortOf_72 ?_
              refine z_iload fx (i := 5) rfl d12_rootPortOf_74 ?_
              refine z_imul fx d12_rootPortOf_76 ?_
              refine z_iload_n fx (k := 2) (i := 2) rfl rfl d12_rootPortOf_77 ?_
              refine z_iadd fx d12_rootPortOf_78 ?_
              obtain ⟨t15, e21, e17⟩ := zinv e17
              refine z_iald fx (ok12_49 hO ho) e21 d12_rootPortOf_79 ?_
              refine z_aload_n fx (k := 0) (i := 0) rfl rfl d12_rootPortOf_80 ?_
              refine z_getO fx 12 11 6 ho lf12_44 fk12_11 d12_rootPortOf_81 ?_
              refine z_aload_n fx (k := 0) (i := 0) rfl rfl d12_rootPortOf_84 ?_
              refine z_getO fx 12 15 10 ho lf12_56 fk12_15 d12_rootPortOf_85 ?_
              refine z_iload fx (i := 4) rfl d12_rootPortOf_88 ?_
              obtain ⟨t16, e22, e17⟩ := zinv e17
              refine z_iald fx (ok12_15 hO ho) e22 d12_rootPortOf_90 ?_
              obtain ⟨t17, e23, e17⟩ := zinv e17
              refine z_iald fx (ok12_11 hO ho) e23 d12_rootPortOf_91 ?_
              refine z_iadd fx d12_rootPortOf_92 ?_
              refine z_aload_n fx (k := 0) (i := 0) rfl rfl d12_rootPortOf_93 ?_
              refine z_iload fx (i := 5) rfl d12_rootPortOf_94 ?_
              obtain ⟨t18, e24, e17⟩ := zinv e17
              refine z_cVr fx (c12_idOf (zLo X) (zDo X) Sh top hO o_ t9 μ _ ho e24) mv12_idOf ml12_337 ho rfl rfl rfl rfl d12_rootPortOf_96 ?_
              refine z_aload_n fx (k := 0) (i := 0) rfl rfl d12_rootPortOf_99 ?_
              refine z_iload fx (i := 4) rfl d12_rootPortOf_100 ?_
              obtain ⟨t19, e25, e17⟩ := zinv e17
              refine z_cVr fx (c12_otherPort (zLo X) (zDo X) Sh top hO o_ v_p_4 μ _ ho e25) mv12_otherPort ml12_422 ho rfl rfl rfl rfl d12_rootPortOf_102 ?_
              refine z_bipush fx (v := 6) bp6 d12_rootPortOf_105 ?_
              obtain ⟨t20, e26, e17⟩ := zinv e17
              refine z_irem fx e26 d12_rootPortOf_107 ?_
              refine z_iload fx (i := 4) rfl d12_rootPortOf_108 ?_
              refine z_aload_n fx (k := 0) (i := 0) rfl rfl d12_rootPortOf_110 ?_
              refine z_getO fx 12 49 28 ho lf12_160 fk12_49 d12_rootPortOf_111 ?_
              refine z_bipush fx (v := 8) bp8 d12_rootPortOf_114 ?_
              refine z_aload_n fx (k := 0) (i := 0) rfl rfl d12_rootPortOf_116 ?_
              refine z_iload_n fx (k := 3) (i := 3) rfl rfl d12_rootPortOf_117 ?_
              obtain ⟨t21, e27, e17⟩ := zinv e17
              refine z_cVr fx (c12_otherBridge (zLo X) (zDo X) Sh top hO o_ v_best_3 μ _ ho e27) mv12_otherBridge ml12_322 ho rfl rfl rfl rfl d12_rootPortOf_118 ?_
              refine z_imul fx d12_rootPortOf_121 ?_
              refine z_iload_n fx (k := 2) (i := 2) rfl rfl d12_rootPortOf_122 ?_
              refine z_iadd fx d12_rootPortOf_123 ?_
              obtain ⟨t22, e28, e17⟩ := zinv e17
              refine z_iald fx (ok12_49 hO ho) e28 d12_rootPortOf_124 ?_
              refine z_aload_n fx (k := 0) (i := 0) rfl rfl d12_rootPortOf_125 ?_
              refine z_getO fx 12 11 6 ho lf12_44 fk12_11 d12_rootPortOf_126 ?_
              refine z_aload_n fx (k := 0) (i := 0) rfl rfl d12_rootPortOf_129 ?_
              refine z_getO fx 12 15 10 ho lf12_56 fk12_15 d12_rootPortOf_130 ?_
              refine z_iload_n fx (k := 3) (i := 3) rfl rfl d12_rootPortOf_133 ?_
              obtain ⟨t23, e29, e17⟩ := zinv e17
              refine z_iald fx (ok12_15 hO ho) e29 d12_rootPortOf_134 ?_
              obtain ⟨t24, e30, e17⟩ := zinv e17
              refine z_iald fx (ok12_11 hO ho) e30 d12_rootPortOf_135 ?_
              refine z_iadd fx d12_rootPortOf_136 ?_
              refine z_aload_n fx (k := 0) (i := 0) rfl rfl d12_rootPortOf_137 ?_
              refine z_aload_n fx (k := 0) (i := 0) rfl rfl d12_rootPortOf_138 ?_
              refine z_iload_n fx (k := 3) (i := 3) rfl rfl d12_rootPortOf_139 ?_
              obtain ⟨t25, e31, e17⟩ := zinv e17
              refine z_cVr fx (c12_otherBridge (zLo X) (zDo X) Sh top hO o_ v_best_3 μ _ ho e31) mv12_otherBridge ml12_322 ho rfl rfl rfl rfl d12_rootPortOf_140 ?_
              obtain ⟨t26, e32, e17⟩ := zinv e17
              refine z_cVr fx (c12_idOf (zLo X) (zDo X) Sh top hO o_ t25 μ _ ho e32) mv12_idOf ml12_337 ho rfl rfl rfl rfl d12_rootPortOf_143 ?_
              refine z_aload_n fx (k := 0) (i := 0) rfl rfl d12_rootPortOf_146 ?_
              refine z_iload_n fx (k := 3) (i := 3) rfl rfl d12_rootPortOf_147 ?_
              obtain ⟨t27, e33, e17⟩ := zinv e17
              refine z_cVr fx (c12_otherPort (zLo X) (zDo X) Sh top hO o_ v_best_3 μ _ ho e33) mv12_otherPort ml12_422 ho rfl rfl rfl rfl d12_rootPortOf_148 ?_
              refine z_bipush fx (v := 6) bp6 d12_rootPortOf_151 ?_
              obtain ⟨t28, e34, e17⟩ := zinv e17
              refine z_irem fx e34 d12_rootPortOf_153 ?_
              refine z_iload_n fx (k := 3) (i := 3) rfl rfl d12_rootPortOf_154 ?_
              obtain ⟨t29, e35, e17⟩ := zinv e17
              refine z_cSr fx (c12_isLess (zLo X) (zDo X) Sh top hO (t15 + t17) t18 t20 v_p_4 (t22 + t24) t26 t28 v_best_3 μ _  e35) ms12_isLess ml12_340 rfl rfl rfl rfl d12_rootPortOf_155 ?_
              cases e17
              refine z_ifb_eq fx d12_rootPortOf_158 (fun c36 => ?_) (fun c36 => ?_)
              · exact kf16 c36
              · exact kt16 c36
          clear e4
          obtain ⟨b30, e37, e14⟩ := zinv e14
          have kf38 : b30 = false → zZ zK1 X (zT0 Sh top) μ 54 [(0, .ref o_), (1, .int v_b), (2, .int t1), (3, .int v_best_3), (4, .int v_p_4), (5, .int t9)] [] := by
            intro hc
            replace e14 := zif_f hc e14
            refine z_iload fx (i := 5) rfl d12_rootPortOf_54 ?_
            refine z_iload_n fx (k := 1) (i := 1) rfl rfl d12_rootPortOf_56 ?_
            cases e14
            refine z_icmp_ne fx d12_rootPortOf_57 (fun c39 => ?_) (fun c39 => ?_)
            · exact kf13 c39
            · refine z_goto fx d12_rootPortOf_60 ?_
              exact kt13 c39
          have kt38 : b30 = true → zZ zK1 X (zT0 Sh top) μ 164 [(0, .ref o_), (1, .int v_b), (2, .int t1), (3, .int v_best_3), (4, .int v_p_4), (5, .int t9)] [] := by
            intro hc
            replace e14 := zif_t hc e14
            cases e14
            exact kt13 rfl
          clear e14
          refine z_aload_n fx (k := 0) (i := 0) rfl rfl d12_rootPortOf_45 ?_
          refine z_iload fx (i := 4) rfl d12_rootPortOf_46 ?_
          obtain ⟨t31, e40, e37⟩ := zinv e37
          refine z_cVr fx (c12_isUp (zLo X) (zDo X) Sh top hO o_ v_p_4 μ _ ho e40) mv12_isUp ml12_393 ho rfl rfl rfl rfl d12_rootPortOf_48 ?_
          cases e37
          refine z_ifb_eq fx d12_rootPortOf_51 (fun c41 => ?_) (fun c41 => ?_)
          · exact kt38 (by rw [c41]; rfl)
          · exact kf38 (by rw [c41]; rfl)
    exact klr6 _ _ _ e42
  · replace h := zif_t c2 h
    refine z_iconst fx (v := (-1)) icm1 d12_rootPortOf_11 ?_
    cases h
    exact z_ireturn fx fin d12_rootPortOf_12
theorem d12_roleOf_0 : zd cX12_roleOf 0 (.iload_n 1) 1 1 := by decide +kernel
theorem d12_roleOf_1 : zd cX12_roleOf 1 (.bipush 6) 2 3 := by decide +kernel
theorem d12_roleOf_3 : zd cX12_roleOf 3 (.idiv) 1 4 := by decide +kernel
theorem d12_roleOf_4 : zd cX12_roleOf 4 (.istore_n 2) 1 5 := by decide +kernel
theorem d12_roleOf_5 : zd cX12_roleOf 5 (.aload_n 0) 1 6 := by decide +kernel
theorem d12_roleOf_6 : zd cX12_roleOf 6 (.iload_n 1) 1 7 := by decide +kernel
theorem d12_roleOf_7 : zd cX12_roleOf 7 (.invokevirtual 393) 3 10 := by decide +kernel
theorem d12_roleOf_10 : zj cX12_roleOf 10 (.ifCond .ne 5) 5 13 15 := by decide +kernel
theorem d12_roleOf_13 : zd cX12_roleOf 13 (.iconst 0) 1 14 := by decide +kernel
theorem d12_roleOf_14 : zd cX12_roleOf 14 (.ireturn) 1 15 := by decide +kernel
theorem d12_roleOf_15 : zd cX12_roleOf 15 (.iload_n 1) 1 16 := by decide +kernel
theorem d12_roleOf_16 : zd cX12_roleOf 16 (.aload_n 0) 1 17 := by decide +kernel
theorem d12_roleOf_17 : zd cX12_roleOf 17 (.iload_n 2) 1 18 := by decide +kernel
theorem d12_roleOf_18 : zd cX12_roleOf 18 (.invokevirtual 493) 3 21 := by decide +kernel
theorem d12_roleOf_21 : zj cX12_roleOf 21 (.if_icmp .ne 5) 5 24 26 := by decide +kernel
theorem d12_roleOf_24 : zd cX12_roleOf 24 (.iconst 1) 1 25 := by decide +kernel
theorem d12_roleOf_25 : zd cX12_roleOf 25 (.ireturn) 1 26 := by decide +kernel
theorem d12_roleOf_26 : zd cX12_roleOf 26 (.aload_n 0) 1 27 := by decide +kernel
theorem d12_roleOf_27 : zd cX12_roleOf 27 (.iload_n 1) 1 28 := by decide +kernel
theorem d12_roleOf_28 : zd cX12_roleOf 28 (.invokevirtual 322) 3 31 := by decide +kernel
theorem d12_roleOf_31 : zd cX12_roleOf 31 (.istore_n 3) 1 32 := by decide +kernel
theorem d12_roleOf_32 : zd cX12_roleOf 32 (.aload_n 0) 1 33 := by decide +kernel
theorem d12_roleOf_33 : zd cX12_roleOf 33 (.iload_n 2) 1 34 := by decide +kernel
theorem d12_roleOf_34 : zd cX12_roleOf 34 (.invokevirtual 490) 3 37 := by decide +kernel
theorem d12_roleOf_37 : zd cX12_roleOf 37 (.istore 4) 2 39 := by decide +kernel
theorem d12_roleOf_39 : zd cX12_roleOf 39 (.aload_n 0) 1 40 := by decide +kernel
theorem d12_roleOf_40 : zd cX12_roleOf 40 (.getfield 160) 3 43 := by decide +kernel
theorem d12_roleOf_43 : zd cX12_roleOf 43 (.bipush 8) 2 45 := by decide +kernel
theorem d12_roleOf_45 : zd cX12_roleOf 45 (.iload_n 3) 1 46 := by decide +kernel
theorem d12_roleOf_46 : zd cX12_roleOf 46 (.imul) 1 47 := by decide +kernel
theorem d12_roleOf_47 : zd cX12_roleOf 47 (.iload 4) 2 49 := by decide +kernel
theorem d12_roleOf_49 : zd cX12_roleOf 49 (.iadd) 1 50 := by decide +kernel
theorem d12_roleOf_50 : zd cX12_roleOf 50 (.iaload) 1 51 := by decide +kernel
theorem d12_roleOf_51 : zd cX12_roleOf 51 (.aload_n 0) 1 52 := by decide +kernel
theorem d12_roleOf_52 : zd cX12_roleOf 52 (.iload_n 3) 1 53 := by decide +kernel
theorem d12_roleOf_53 : zd cX12_roleOf 53 (.invokevirtual 337) 3 56 := by decide +kernel
theorem d12_roleOf_56 : zd cX12_roleOf 56 (.aload_n 0) 1 57 := by decide +kernel
theorem d12_roleOf_57 : zd cX12_roleOf 57 (.iload_n 1) 1 58 := by decide +kernel
theorem d12_roleOf_58 : zd cX12_roleOf 58 (.invokevirtual 422) 3 61 := by decide +kernel
theorem d12_roleOf_61 : zd cX12_roleOf 61 (.bipush 6) 2 63 := by decide +kernel
theorem d12_roleOf_63 : zd cX12_roleOf 63 (.irem) 1 64 := by decide +kernel
theorem d12_roleOf_64 : zd cX12_roleOf 64 (.iconst 0) 1 65 := by decide +kernel
theorem d12_roleOf_65 : zd cX12_roleOf 65 (.aload_n 0) 1 66 := by decide +kernel
theorem d12_roleOf_66 : zd cX12_roleOf 66 (.getfield 160) 3 69 := by decide +kernel
theorem d12_roleOf_69 : zd cX12_roleOf 69 (.bipush 8) 2 71 := by decide +kernel
theorem d12_roleOf_71 : zd cX12_roleOf 71 (.iload_n 2) 1 72 := by decide +kernel
theorem d12_roleOf_72 : zd cX12_roleOf 72 (.imul) 1 73 := by decide +kernel
theorem d12_roleOf_73 : zd cX12_roleOf 73 (.iload 4) 2 75 := by decide +kernel
theorem d12_roleOf_75 : zd cX12_roleOf 75 (.iadd) 1 76 := by decide +kernel
theorem d12_roleOf_76 : zd cX12_roleOf 76 (.iaload) 1 77 := by decide +kernel
theorem d12_roleOf_77 : zd cX12_roleOf 77 (.aload_n 0) 1 78 := by decide +kernel
theorem d12_roleOf_78 : zd cX12_roleOf 78 (.iload_n 2) 1 79 := by decide +kernel
theorem d12_roleOf_79 : zd cX12_roleOf 79 (.invokevirtual 337) 3 82 := by decide +kernel
theorem d12_roleOf_82 : zd cX12_roleOf 82 (.iload_n 1) 1 83 := by decide +kernel
theorem d12_roleOf_83 : zd cX12_roleOf 83 (.bipush 6) 2 85 := by decide +kernel
theorem d12_roleOf_85 : zd cX12_roleOf 85 (.irem) 1 86 := by decide +kernel
theorem d12_roleOf_86 : zd cX12_roleOf 86 (.iconst 0) 1 87 := by decide +kernel
theorem d12_roleOf_87 : zd cX12_roleOf 87 (.invokestatic 340) 3 90 := by decide +kernel
theorem d12_roleOf_90 : zj cX12_roleOf 90 (.ifCond .ne 5) 5 93 95 := by decide +kernel
theorem d12_roleOf_93 : zd cX12_roleOf 93 (.iconst 2) 1 94 := by decide +kernel
theorem d12_roleOf_94 : zd cX12_roleOf 94 (.ireturn) 1 95 := by decide +kernel
theorem d12_roleOf_95 : zd cX12_roleOf 95 (.iload_n 3) 1 96 := by decide +kernel
theorem d12_roleOf_96 : zd cX12_roleOf 96 (.iload_n 2) 1 97 := by decide +kernel
theorem d12_roleOf_97 : zj cX12_roleOf 97 (.if_icmp .ne 7) 7 100 104 := by decide +kernel
theorem d12_roleOf_100 : zd cX12_roleOf 100 (.iconst 4) 1 101 := by decide +kernel
theorem d12_roleOf_101 : zj cX12_roleOf 101 (.goto 4) 4 104 105 := by decide +kernel
theorem d12_roleOf_104 : zd cX12_roleOf 104 (.iconst 3) 1 105 := by decide +kernel
theorem d12_roleOf_105 : zd cX12_roleOf 105 (.ireturn) 1 106 := by decide +kernel
set_option maxHeartbeats 4000000 in
set_option maxRecDepth 20000 in
theorem c12_roleOf (l : Launch) (D : zDt) (Sh : zSh) (top : Nat) (hO : zOK Sh) (o_ : Nat) (v_p : Int32) (μ : zM) (r_ : Int32) (ho : (Sh o_).1 = 19) (h : f12_roleOf o_ v_p μ = some r_) : zMet l D zK1 yX12_roleOf cX12_roleOf 5 (some .int) (zrm 6 131) [.ref o_, .int v_p] Sh top μ (some (.int r_)) Sh top μ 0 0 := by
  refine zMet_of (by decide) (Nat.le_of_ble_eq_true rfl) fun X hX1 hX2 fx fin => ?_
  subst hX1; subst hX2
  replace fx : zFix X cX12_roleOf RX12 (zrm 6 131) 5 := fx
  show zZ zK1 X (zT0 Sh top) μ 0 [(0, .ref o_), (1, .int v_p)] []
  unfold f12_roleOf at h
  refine z_iload_n fx (k := 1) (i := 1) rfl rfl d12_roleOf_0 ?_
  refine z_bipush fx (v := 6) bp6 d12_roleOf_1 ?_
  obtain ⟨t1, e1, h⟩ := zinv h
  refine z_idiv fx e1 d12_roleOf_3 ?_
  refine z_istore_n fx (k := 2) (i := 2) rfl rfl (lv' := [(0, .ref o_), (1, .int v_p), (2, .int t1)]) rfl rfl d12_roleOf_4 ?_
  refine z_aload_n fx (k := 0) (i := 0) rfl rfl d12_roleOf_5 ?_
  refine z_iload_n fx (k := 1) (i := 1) rfl rfl d12_roleOf_6 ?_
  obtain ⟨t2, e2, h⟩ := zinv h
  refine z_cVr fx (c12_isUp (zLo X) (zDo X) Sh top hO o_ v_p μ _ ho e2) mv12_isUp ml12_393 ho rfl rfl rfl rfl d12_roleOf_7 ?_
  refine z_ifb_ne fx d12_roleOf_10 (fun c3 => ?_) (fun c3 => ?_)
  · replace h := zif_t c3 h
    refine z_iload_n fx (k := 1) (i := 1) rfl rfl d12_roleOf_15 ?_
    refine z_aload_n fx (k := 0) (i := 0) rfl rfl d12_roleOf_16 ?_
    refine z_iload_n fx (k := 2) (i := 2) rfl rfl d12_roleOf_17 ?_
    obtain ⟨t3, e4, h⟩ := zinv h
    refine z_cVr fx (c12_rootPortOf (zLo X) (zDo X) Sh top hO o_ t1 μ _ ho e4) mv12_rootPortOf ml12_493 ho rfl rfl rfl rfl d12_roleOf_18 ?_
    refine z_icmp_ne fx d12_roleOf_21 (fun c5 => ?_) (fun c5 => ?_)
    · replace h := zif_f c5 h
      refine z_aload_n fx (k := 0) (i := 0) rfl rfl d12_roleOf_26 ?_
      refine z_iload_n fx (k := 1) (i := 1) rfl rfl d12_roleOf_27 ?_
      obtain ⟨t4, e6, h⟩ := zinv h
      refine z_cVr fx (c12_otherBridge (zLo X) (zDo X) Sh top hO o_ v_p μ _ ho e6) mv12_otherBridge ml12_322 ho rfl rfl rfl rfl d12_roleOf_28 ?_
      refine z_istore_n fx (k := 3) (i := 3) rfl rfl (lv' := [(0, .ref o_), (1, .int v_p), (2, .int t1), (3, .int t4)]) rfl rfl d12_roleOf_31 ?_
      refine z_aload_n fx (k := 0) (i := 0) rfl rfl d12_roleOf_32 ?_
      refine z_iload_n fx (k := 2) (i := 2) rfl rfl d12_roleOf_33 ?_
      obtain ⟨t5, e7, h⟩ := zinv h
      refine z_cVr fx (c12_rootOf (zLo X) (zDo X) Sh top hO o_ t1 μ _ ho e7) mv12_rootOf ml12_490 ho rfl rfl rfl rfl d12_roleOf_34 ?_
      refine z_istore fx (i := 4) rfl (lv' := [(0, .ref o_), (1, .int v_p), (2, .int t1), (3, .int t4), (4, .int t5)]) rfl rfl d12_roleOf_37 ?_
      refine z_aload_n fx (k := 0) (i := 0) rfl rfl d12_roleOf_39 ?_
      refine z_getO fx 12 49 28 ho lf12_160 fk12_49 d12_roleOf_40 ?_
      refine z_bipush fx (v := 8) bp8 d12_roleOf_43 ?_
      refine z_iload_n fx (k := 3) (i := 3) rfl rfl d12_roleOf_45 ?_
      refine z_imul fx d12_roleOf_46 ?_
      refine z_iload fx (i := 4) rfl d12_roleOf_47 ?_
      refine z_iadd fx d12_roleOf_49 ?_
      obtain ⟨t6, e8, h⟩ := zinv h
      refine z_iald fx (ok12_49 hO ho) e8 d12_roleOf_50 ?_
      refine z_aload_n fx (k := 0) (i := 0) rfl rfl d12_roleOf_51 ?_
      refine z_iload_n fx (k := 3) (i := 3) rfl rfl d12_roleOf_52 ?_
      obtain ⟨t7, e9, h⟩ := zinv h
      refine z_cVr fx (c12_idOf (zLo X) (zDo X) Sh top hO o_ t4 μ _ ho e9) mv12_idOf ml12_337 ho rfl rfl rfl rfl d12_roleOf_53 ?_
      refine z_aload_n fx (k := 0) (i := 0) rfl rfl d12_roleOf_56 ?_
      refine z_iload_n fx (k := 1) (i := 1) rfl rfl d12_roleOf_57 ?_
      obtain ⟨t8, e10, h⟩ := zinv h
      refine z_cVr fx (c12_otherPort (zLo X) (zDo X) Sh top hO o_ v_p μ _ ho e10) mv12_otherPort ml12_422 ho rfl rfl rfl rfl d12_roleOf_58 ?_
      refine z_bipush fx (v := 6) bp6 d12_roleOf_61 ?_
      obtain ⟨t9, e11, h⟩ := zinv h
      refine z_irem fx e11 d12_roleOf_63 ?_
      refine z_iconst fx (v := 0) ic0 d12_roleOf_64 ?_
      refine z_aload_n fx (k := 0) (i := 0) rfl rfl d12_roleOf_65 ?_
      refine z_getO fx 12 49 28 ho lf12_160 fk12_49 d12_roleOf_66 ?_
      refine z_bipush fx (v := 8) bp8 d12_roleOf_69 ?_
      refine z_iload_n fx (k := 2) (i := 2) rfl rfl d12_roleOf_71 ?_
      refine z_imul fx d12_roleOf_72 ?_
      refine z_iload fx (i := 4) rfl d12_roleOf_73 ?_
      refine z_iadd fx d12_roleOf_75 ?_
      obtain ⟨t10, e12, h⟩ := zinv h
      refine z_iald fx (ok12_49 hO ho) e12 d12_roleOf_76 ?_
      refine z_aload_n fx (k := 0) (i := 0) rfl rfl d12_roleOf_77 ?_
      refine z_iload_n fx (k := 2) (i := 2) rfl rfl d12_roleOf_78 ?_
      obtain ⟨t11, e13, h⟩ := zinv h
      refine z_cVr fx (c12_idOf (zLo X) (zDo X) Sh top hO o_ t1 μ _ ho e13) mv12_idOf ml12_337 ho rfl rfl rfl rfl d12_roleOf_79 ?_
      refine z_iload_n fx (k := 1) (i := 1) rfl rfl d12_roleOf_82 ?_
      refine z_bipush fx (v := 6) bp6 d12_roleOf_83 ?_
      obtain ⟨t12, e14, h⟩ := zinv h
      refine z_irem fx e14 d12_roleOf_85 ?_
      refine z_iconst fx (v := 0) ic0 d12_roleOf_86 ?_
      obtain ⟨t13, e15, h⟩ := zinv h
      refine z_cSr fx (c12_isLess (zLo X) (zDo X) Sh top hO t6 t7 t9 0 t10 t11 t12 0 μ _  e15) ms12_isLess ml12_340 rfl rfl rfl rfl d12_roleOf_87 ?_
      refine z_ifb_ne fx d12_roleOf_90 (fun c16 => ?_) (fun c16 => ?_)
      · replace h := zif_t c16 h
        obtain ⟨x14, e17, h⟩ := zinv h
        have k18 : zZ zK1 X (zT0 Sh top) μ 105 [(0, .ref o_), (1, .int v_p), (2, .int t1), (3, .int t4), (4, .int t5)] [.int x14] := by
          cases h
          exact z_ireturn fx fin d12_roleOf_105
        refine z_iload_n fx (k := 3) (i := 3) rfl rfl d12_roleOf_95 ?_
        refine z_iload_n fx (k := 2) (i := 2) rfl rfl d12_roleOf_96 ?_
        refine z_icmp_ne fx d12_roleOf_97 (fun c19 => ?_) (fun c19 => ?_)
        · replace e17 := zif_f c19 e17
          refine z_iconst fx (v := 3) ic3 d12_roleOf_104 ?_
          cases e17
          exact k18
        · replace e17 := zif_t c19 e17
          refine z_iconst fx (v := 4) ic4 d12_roleOf_100 ?_
          cases e17
          refine z_goto fx d12_roleOf_101 ?_
          exact k18
      · replace h := zif_f c16 h
        refine z_iconst fx (v := 2) ic2 d12_roleOf_93 ?_
        cases h
        exact z_ireturn fx fin d12_roleOf_94
    · replace h := zif_t c5 h
      refine z_iconst fx (v := 1) ic1 d12_roleOf_24 ?_
      cases h
      exact z_ireturn fx fin d12_roleOf_25
  · replace h := zif_f c3 h
    refine z_iconst fx (v := 0) ic0 d12_roleOf_13 ?_
    cases h
    exact z_ireturn fx fin d12_roleOf_14
theorem d12_due_0 : zd cX12_due 0 (.aload_n 0) 1 1 := by decide +kernel
theorem d12_due_1 : zd cX12_due 1 (.iconst 0) 1 2 := by decide +kernel
theorem d12_due_2 : zd cX12_due 2 (.putfield 144) 3 5 := by decide +kernel
theorem d12_due_5 : zd cX12_due 5 (.aload_n 0) 1 6 := by decide +kernel
theorem d12_due_6 : zd cX12_due 6 (.iload_n 1) 1 7 := by decide +kernel
theorem d12_due_7 : zd cX12_due 7 (.invokevirtual 471) 3 10 := by decide +kernel
theorem d12_due_10 : zj cX12_due 10 (.ifCond .eq 20) 20 13 30 := by decide +kernel
theorem d12_due_13 : zd cX12_due 13 (.aload_n 0) 1 14 := by decide +kernel
theorem d12_due_14 : zd cX12_due 14 (.iload_n 1) 1 15 := by decide +kernel
theorem d12_due_15 : zd cX12_due 15 (.invokevirtual 328) 3 18 := by decide +kernel
theorem d12_due_18 : zj cX12_due 18 (.ifCond .eq 12) 12 21 30 := by decide +kernel
theorem d12_due_21 : zd cX12_due 21 (.iload_n 2) 1 22 := by decide +kernel
theorem d12_due_22 : zd cX12_due 22 (.iconst 0) 1 23 := by decide +kernel
theorem d12_due_23 : zd cX12_due 23 (.iconst 2) 1 24 := by decide +kernel
theorem d12_due_24 : zd cX12_due 24 (.invokestatic 250) 3 27 := by decide +kernel
theorem d12_due_27 : zj cX12_due 27 (.ifCond .ne 5) 5 30 32 := by decide +kernel
theorem d12_due_30 : zd cX12_due 30 (.iconst (-1)) 1 31 := by decide +kernel
theorem d12_due_31 : zd cX12_due 31 (.ireturn) 1 32 := by decide +kernel
theorem d12_due_32 : zd cX12_due 32 (.aload_n 0) 1 33 := by decide +kernel
theorem d12_due_33 : zd cX12_due 33 (.invokevirtual 496) 3 36 := by decide +kernel
theorem d12_due_36 : zd cX12_due 36 (.aload_n 0) 1 37 := by decide +kernel
theorem d12_due_37 : zd cX12_due 37 (.iload_n 1) 1 38 := by decide +kernel
theorem d12_due_38 : zd cX12_due 38 (.invokevirtual 490) 3 41 := by decide +kernel
theorem d12_due_41 : zd cX12_due 41 (.istore_n 3) 1 42 := by decide +kernel
theorem d12_due_42 : zd cX12_due 42 (.iload_n 2) 1 43 := by decide +kernel
theorem d12_due_43 : zj cX12_due 43 (.ifCond .ne 9) 9 46 52 := by decide +kernel
theorem d12_due_46 : zd cX12_due 46 (.aload_n 0) 1 47 := by decide +kernel
theorem d12_due_47 : zd cX12_due 47 (.iload_n 3) 1 48 := by decide +kernel
theorem d12_due_48 : zd cX12_due 48 (.invokevirtual 337) 3 51 := by decide +kernel
theorem d12_due_51 : zd cX12_due 51 (.ireturn) 1 52 := by decide +kernel
theorem d12_due_52 : zd cX12_due 52 (.iload_n 2) 1 53 := by decide +kernel
theorem d12_due_53 : zd cX12_due 53 (.iconst 1) 1 54 := by decide +kernel
theorem d12_due_54 : zj cX12_due 54 (.if_icmp .ne 15) 15 57 69 := by decide +kernel
theorem d12_due_57 : zd cX12_due 57 (.aload_n 0) 1 58 := by decide +kernel
theorem d12_due_58 : zd cX12_due 58 (.getfield 160) 3 61 := by decide +kernel
theorem d12_due_61 : zd cX12_due 61 (.bipush 8) 2 63 := by decide +kernel
theorem d12_due_63 : zd cX12_due 63 (.iload_n 1) 1 64 := by decide +kernel
theorem d12_due_64 : zd cX12_due 64 (.imul) 1 65 := by decide +kernel
theorem d12_due_65 : zd cX12_due 65 (.iload_n 3) 1 66 := by decide +kernel
theorem d12_due_66 : zd cX12_due 66 (.iadd) 1 67 := by decide +kernel
theorem d12_due_67 : zd cX12_due 67 (.iaload) 1 68 := by decide +kernel
theorem d12_due_68 : zd cX12_due 68 (.ireturn) 1 69 := by decide +kernel
theorem d12_due_69 : zd cX12_due 69 (.aload_n 0) 1 70 := by decide +kernel
theorem d12_due_70 : zd cX12_due 70 (.iload_n 1) 1 71 := by decide +kernel
theorem d12_due_71 : zd cX12_due 71 (.invokevirtual 493) 3 74 := by decide +kernel
theorem d12_due_74 : zd cX12_due 74 (.istore 4) 2 76 := by decide +kernel
theorem d12_due_76 : zd cX12_due 76 (.iload 4) 2 78 := by decide +kernel
theorem d12_due_78 : zd cX12_due 78 (.iconst (-1)) 1 79 := by decide +kernel
theorem d12_due_79 : zj cX12_due 79 (.if_icmp .ne 7) 7 82 86 := by decide +kernel
theorem d12_due_82 : zd cX12_due 82 (.iconst (-1)) 1 83 := by decide +kernel
theorem d12_due_83 : zj cX12_due 83 (.goto 8) 8 86 91 := by decide +kernel
theorem d12_due_86 : zd cX12_due 86 (.iload 4) 2 88 := by decide +kernel
theorem d12_due_88 : zd cX12_due 88 (.bipush 6) 2 90 := by decide +kernel
theorem d12_due_90 : zd cX12_due 90 (.irem) 1 91 := by decide +kernel
theorem d12_due_91 : zd cX12_due 91 (.ireturn) 1 92 := by decide +kernel
set_option maxHeartbeats 4000000 in
set_option maxRecDepth 20000 in
theorem c12_due (l : Launch) (D : zDt) (Sh : zSh) (top : Nat) (hO : zOK Sh) (o_ : Nat) (v_bridge : Int32) (v_what : Int32) (μ : zM) (r_ : Int32) (μ_ : zM) (ho : (Sh o_).1 = 19) (h : f12_due o_ v_bridge v_what μ = some (r_, μ_)) : zMet l D zK1 yX12_due cX12_due 5 (some .int) (zrm 6 131) [.ref o_, .int v_bridge, .int v_what] Sh top μ (some (.int r_)) Sh top μ_ 0 0 := by
  refine zMet_of (by decide) (Nat.le_of_ble_eq_true rfl) fun X hX1 hX2 fx fin => ?_
  subst hX1; subst hX2
  replace fx : zFix X cX12_due RX12 (zrm 6 131) 5 := fx
  show zZ zK1 X (zT0 Sh top) μ 0 [(0, .ref o_), (1, .int v_bridge), (2, .int v_what)] []
  unfold f12_due at h
  refine z_aload_n fx (k := 0) (i := 0) rfl rfl d12_due_0 ?_
  refine z_iconst fx (v := 0) ic0 d12_due_1 ?_
  obtain ⟨μ1, e1, h⟩ := zinv h
  refine z_putI fx (ci := 12) 44 ho lf12_144 fp12_44 e1 d12_due_2 ?_
  obtain ⟨b2, e3, h⟩ := zinv h
  have kt2 : b2 = true → zZ zK1 X (zT0 Sh top) μ1 30 [(0, .ref o_), (1, .int v_bridge), (2, .int v_what)] [] := by
    intro hc
    replace h := zif_t hc h
    refine z_iconst fx (v := (-1)) icm1 d12_due_30 ?_
    cases h
    exact z_ireturn fx fin d12_due_31
  have kf2 : b2 = false → zZ zK1 X (zT0 Sh top) μ1 32 [(0, .ref o_), (1, .int v_bridge), (2, .int v_what)] [] := by
    intro hc
    replace h := zif_f hc h
    refine z_aload_n fx (k := 0) (i := 0) rfl rfl d12_due_32 ?_
    obtain ⟨μ3, e4, h⟩ := zinv h
    refine z_cVv fx (c12_laysFar (zLo X) (zDo X) Sh top hO o_ μ1 _ ho e4) mv12_laysFar ml12_496 ho rfl rfl rfl rfl d12_due_33 ?_
    refine z_aload_n fx (k := 0) (i := 0) rfl rfl d12_due_36 ?_
    refine z_iload_n fx (k := 1) (i := 1) rfl rfl d12_due_37 ?_
    obtain ⟨t4, e5, h⟩ := zinv h
    refine z_cVr fx (c12_rootOf (zLo X) (zDo X) Sh top hO o_ v_bridge μ3 _ ho e5) mv12_rootOf ml12_490 ho rfl rfl rfl rfl d12_due_38 ?_
    refine z_istore_n fx (k := 3) (i := 3) rfl rfl (lv' := [(0, .ref o_), (1, .int v_bridge), (2, .int v_what), (3, .int t4)]) rfl rfl d12_due_41 ?_
    refine z_iload_n fx (k := 2) (i := 2) rfl rfl d12_due_42 ?_
    refine z_if_ne fx d12_due_43 (fun c6 => ?_) (fun c6 => ?_)
    · replace h := zif_f c6 h
      refine z_iload_n fx (k := 2) (i := 2) rfl rfl d12_due_52 ?_
      refine z_iconst fx (v := 1) ic1 d12_due_53 ?_
      refine z_icmp_ne fx d12_due_54 (fun c7 => ?_) (fun c7 => ?_)
      · replace h := zif_f c7 h
        refine z_aload_n fx (k := 0) (i := 0) rfl rfl d12_due_69 ?_
        refine z_iload_n fx (k := 1) (i := 1) rfl rfl d12_due_70 ?_
        obtain ⟨t5, e8, h⟩ := zinv h
        refine z_cVr fx (c12_rootPortOf (zLo X) (zDo X) Sh top hO o_ v_bridge μ3 _ ho e8) mv12_rootPortOf ml12_493 ho rfl rfl rfl rfl d12_due_71 ?_
        refine z_istore fx (i := 4) rfl (lv' := [(0, .ref o_), (1, .int v_bridge), (2, .int v_what), (3, .int t4), (4, .int t5)]) rfl rfl d12_due_74 ?_
        obtain ⟨x6, e9, h⟩ := zinv h
        have k10 : zZ zK1 X (zT0 Sh top) μ3 91 [(0, .ref o_), (1, .int v_bridge), (2, .int v_what), (3, .int t4), (4, .int t5)] [.int x6] := by
          cases h
          exact z_ireturn fx fin d12_due_91
        refine z_iload fx (i := 4) rfl d12_due_76 ?_
        refine z_iconst fx (v := (-1)) icm1 d12_due_78 ?_
        refine z_icmp_ne fx d12_due_79 (fun c11 => ?_) (fun c11 => ?_)
        · replace e9 := zif_f c11 e9
          refine z_iload fx (i := 4) rfl d12_due_86 ?_
          refine z_bipush fx (v := 6) bp6 d12_due_88 ?_
          obtain ⟨t7, e12, e9⟩ := zinv e9
          refine z_irem fx e12 d12_due_90 ?_
          cases e9
          exact k10
        · replace e9 := zif_t c11 e9
          refine z_iconst fx (v := (-1)) icm1 d12_due_82 ?_
          cases e9
          refine z_goto fx d12_due_83 ?_
          exact k10
      · replace h := zif_t c7 h
        refine z_aload_n fx (k := 0) (i := 0) rfl rfl d12_due_57 ?_
        refine z_getO fx 12 49 28 ho lf12_160 fk12_49 d12_due_58 ?_
        refine z_bipush fx (v := 8) bp8 d12_due_61 ?_
        refine z_iload_n fx (k := 1) (i := 1) rfl rfl d12_due_63 ?_
        refine z_imul fx d12_due_64 ?_
        refine z_iload_n fx (k := 3) (i := 3) rfl rfl d12_due_65 ?_
        refine z_iadd fx d12_due_66 ?_
        obtain ⟨t8, e13, h⟩ := zinv h
        refine z_iald fx (ok12_49 hO ho) e13 d12_due_67 ?_
        cases h
        exact z_ireturn fx fin d12_due_68
    · replace h := zif_t c6 h
      refine z_aload_n fx (k := 0) (i := 0) rfl rfl d12_due_46 ?_
      refine z_iload_n fx (k := 3) (i := 3) rfl rfl d12_due_47 ?_
      obtain ⟨t9, e14, h⟩ := zinv h
      refine z_cVr fx (c12_idOf (zLo X) (zDo X) Sh top hO o_ t4 μ3 _ ho e14) mv12_idOf ml12_337 ho rfl rfl rfl rfl d12_due_48 ?_
      cases h
      exact z_ireturn fx fin d12_due_51
  clear h
  obtain ⟨b10, e15, e3⟩ := zinv e3
  have kf16 : b10 = false → zZ zK1 X (zT0 Sh top) μ1 21 [(0, .ref o_), (1, .int v_bridge), (2, .int v_what)] [] := by
    intro hc
    replace e3 := zif_f hc e3
    refine z_iload_n fx (k := 2) (i := 2) rfl rfl d12_due_21 ?_
    refine z_iconst fx (v := 0) ic0 d12_due_22 ?_
    refine z_iconst fx (v := 2) ic2 d12_due_23 ?_
    obtain ⟨t11, e17, e3⟩ := zinv e3
    refine z_cSr fx (c12_isIn (zLo X) (zDo X) Sh top hO v_what 0 2 μ1 _  e17) ms12_isIn ml12_250 rfl rfl rfl rfl d12_due_24 ?_
    cases e3
    refine z_ifb_ne fx d12_due_27 (fun c18 => ?_) (fun c18 => ?_)
    · exact kf2 (by rw [c18]; rfl)
    · exact kt2 (by rw [c18]; rfl)
  have kt16 : b10 = true → zZ zK1 X (zT0 Sh top) μ1 30 [(0, .ref o_), (1, .int v_bridge), (2, .int v_what)] [] := by
    intro hc
    replace e3 := zif_t hc e3
    cases e3
    exact kt2 rfl
  clear e3
  obtain ⟨b12, e19, e15⟩ := zinv e15
  have kf20 : b12 = false → zZ zK1 X (zT0 Sh top) μ1 13 [(0, .ref o_), (1, .int v_bridge), (2, .int v_what)] [] := by
    intro hc
    replace e15 := zif_f hc e15
    refine z_aload_n fx (k := 0) (i := 0) rfl rfl d12_due_13 ?_
    refine z_iload_n fx (k := 1) (i := 1) rfl rfl d12_due_14 ?_
    obtain ⟨t13, e21, e15⟩ := zinv e15
    refine z_cVr fx (c12_isOn (zLo X) (zDo X) Sh top hO o_ v_bridge μ1 _ ho e21) mv12_isOn ml12_328 ho rfl rfl rfl rfl d12_due_15 ?_
    cases e15
    refine z_ifb_eq fx d12_due_18 (fun c22 => ?_) (fun c22 => ?_)
    · exact kt16 (by rw [c22]; rfl)
    · exact kf16 (by rw [c22]; rfl)
  have kt20 : b12 = true → zZ zK1 X (zT0 Sh top) μ1 30 [(0, .ref o_), (1, .int v_bridge), (2, .int v_what)] [] := by
    intro hc
    replace e15 := zif_t hc e15
    cases e15
    exact kt16 rfl
  clear e15
  refine z_aload_n fx (k := 0) (i := 0) rfl rfl d12_due_5 ?_
  refine z_iload_n fx (k := 1) (i := 1) rfl rfl d12_due_6 ?_
  obtain ⟨t14, e23, e19⟩ := zinv e19
  refine z_cVr fx (c12_isBridge (zLo X) (zDo X) Sh top hO o_ v_bridge μ1 _ ho e23) mv12_isBridge ml12_471 ho rfl rfl rfl rfl d12_due_7 ?_
  cases e19
  refine z_ifb_eq fx d12_due_10 (fun c24 => ?_) (fun c24 => ?_)
  · exact kt20 (by rw [c24]; rfl)
  · exact kf20 (by rw [c24]; rfl)
theorem d12_role_0 : zd cX12_role 0 (.aload_n 0) 1 1 := by decide +kernel
theorem d12_role_1 : zd cX12_role 1 (.iconst 0) 1 2 := by decide +kernel
theorem d12_role_2 : zd cX12_role 2 (.putfield 144) 3 5 := by decide +kernel
theorem d12_role_5 : zd cX12_role 5 (.aload_n 0) 1 6 := by decide +kernel
theorem d12_role_6 : zd cX12_role 6 (.iload_n 1) 1 7 := by decide +kernel
theorem d12_role_7 : zd cX12_role 7 (.iload_n 2) 1 8 := by decide +kernel
theorem d12_role_8 : zd cX12_role 8 (.invokevirtual 477) 3 11 := by decide +kernel
theorem d12_role_11 : zj cX12_role 11 (.ifCond .ne 5) 5 14 16 := by decide +kernel
theorem d12_role_14 : zd cX12_role 14 (.iconst (-1)) 1 15 := by decide +kernel
theorem d12_role_15 : zd cX12_role 15 (.ireturn) 1 16 := by decide +kernel
theorem d12_role_16 : zd cX12_role 16 (.aload_n 0) 1 17 := by decide +kernel
theorem d12_role_17 : zd cX12_role 17 (.invokevirtual 496) 3 20 := by decide +kernel
theorem d12_role_20 : zd cX12_role 20 (.aload_n 0) 1 21 := by decide +kernel
theorem d12_role_21 : zd cX12_role 21 (.iload_n 1) 1 22 := by decide +kernel
theorem d12_role_22 : zd cX12_role 22 (.iload_n 2) 1 23 := by decide +kernel
theorem d12_role_23 : zd cX12_role 23 (.invokestatic 325) 3 26 := by decide +kernel
theorem d12_role_26 : zd cX12_role 26 (.invokevirtual 499) 3 29 := by decide +kernel
theorem d12_role_29 : zd cX12_role 29 (.ireturn) 1 30 := by decide +kernel
set_option maxHeartbeats 4000000 in
set_option maxRecDepth 20000 in
theorem c12_role (l : Launch) (D : zDt) (Sh : zSh) (top : Nat) (hO : zOK Sh) (o_ : Nat) (v_bridge : Int32) (v_port : Int32) (μ : zM) (r_ : Int32) (μ_ : zM) (ho : (Sh o_).1 = 19) (h : f12_role o_ v_bridge v_port μ = some (r_, μ_)) : zMet l D zK1 yX12_role cX12_role 3 (some .int) (zrm 7 155) [.ref o_, .int v_bridge, .int v_port] Sh top μ (some (.int r_)) Sh top μ_ 0 0 := by
  refine zMet_of (by decide) (Nat.le_of_ble_eq_true rfl) fun X hX1 hX2 fx fin => ?_
  subst hX1; subst hX2
  replace fx : zFix X cX12_role RX12 (zrm 7 155) 3 := fx
  show zZ zK1 X (zT0 Sh top) μ 0 [(0, .ref o_), (1, .int v_bridge), (2, .int v_port)] []
  unfold f12_role at h
  refine z_aload_n fx (k := 0) (i := 0) rfl rfl d12_role_0 ?_
  refine z_iconst fx (v := 0) ic0 d12_role_1 ?_
  obtain ⟨μ1, e1, h⟩ := zinv h
  refine z_putI fx (ci := 12) 44 ho lf12_144 fp12_44 e1 d12_role_2 ?_
  refine z_aload_n fx (k := 0) (i := 0) rfl rfl d12_role_5 ?_
  refine z_iload_n fx (k := 1) (i := 1) rfl rfl d12_role_6 ?_
  refine z_iload_n fx (k := 2) (i := 2) rfl rfl d12_role_7 ?_
  obtain ⟨t2, e2, h⟩ := zinv h
  refine z_cVr fx (c12_isPort (zLo X) (zDo X) Sh top hO o_ v_bridge v_port μ1 _ ho e2) mv12_isPort ml12_477 ho rfl rfl rfl rfl d12_role_8 ?_
  refine z_ifb_ne fx d12_role_11 (fun c3 => ?_) (fun c3 => ?_)
  · replace h := zif_t c3 h
    refine z_aload_n fx (k := 0) (i := 0) rfl rfl d12_role_16 ?_
    obtain ⟨μ3, e4, h⟩ := zinv h
    refine z_cVv fx (c12_laysFar (zLo X) (zDo X) Sh top hO o_ μ1 _ ho e4) mv12_laysFar ml12_496 ho rfl rfl rfl rfl d12_role_17 ?_
    refine z_aload_n fx (k := 0) (i := 0) rfl rfl d12_role_20 ?_
    refine z_iload_n fx (k := 1) (i := 1) rfl rfl d12_role_21 ?_
    refine z_iload_n fx (k := 2) (i := 2) rfl rfl d12_role_22 ?_
    obtain ⟨t4, e5, h⟩ := zinv h
    refine z_cSr fx (c12_placeOf (zLo X) (zDo X) Sh top hO v_bridge v_port μ3 _  e5) ms12_placeOf ml12_325 rfl rfl rfl rfl d12_role_23 ?_
    obtain ⟨t5, e6, h⟩ := zinv h
    refine z_cVr fx (c12_roleOf (zLo X) (zDo X) Sh top hO o_ t4 μ3 _ ho e6) mv12_roleOf ml12_499 ho rfl rfl rfl rfl d12_role_26 ?_
    cases h
    exact z_ireturn fx fin d12_role_29
  · replace h := zif_f c3 h
    refine z_iconst fx (v := (-1)) icm1 d12_role_14 ?_
    cases h
    exact z_ireturn fx fin d12_role_15
theorem d12_isAsDue_0 : zd cX12_isAsDue 0 (.aload_n 0) 1 1 := by decide +kernel
theorem d12_isAsDue_1 : zd cX12_isAsDue 1 (.iload_n 1) 1 2 := by decide +kernel
theorem d12_isAsDue_2 : zd cX12_isAsDue 2 (.invokevirtual 490) 3 5 := by decide +kernel
theorem d12_isAsDue_5 : zd cX12_isAsDue 5 (.istore_n 2) 1 6 := by decide +kernel
theorem d12_isAsDue_6 : zd cX12_isAsDue 6 (.aload_n 0) 1 7 := by decide +kernel
theorem d12_isAsDue_7 : zd cX12_isAsDue 7 (.iload_n 1) 1 8 := by decide +kernel
theorem d12_isAsDue_8 : zd cX12_isAsDue 8 (.invokevirtual 493) 3 11 := by decide +kernel
theorem d12_isAsDue_11 : zd cX12_isAsDue 11 (.istore_n 3) 1 12 := by decide +kernel
theorem d12_isAsDue_12 : zd cX12_isAsDue 12 (.aload_n 0) 1 13 := by decide +kernel
theorem d12_isAsDue_13 : zd cX12_isAsDue 13 (.iload_n 1) 1 14 := by decide +kernel
theorem d12_isAsDue_14 : zd cX12_isAsDue 14 (.iconst 3) 1 15 := by decide +kernel
theorem d12_isAsDue_15 : zd cX12_isAsDue 15 (.invokevirtual 319) 3 18 := by decide +kernel
theorem d12_isAsDue_18 : zd cX12_isAsDue 18 (.aload_n 0) 1 19 := by decide +kernel
theorem d12_isAsDue_19 : zd cX12_isAsDue 19 (.iload_n 2) 1 20 := by decide +kernel
theorem d12_isAsDue_20 : zd cX12_isAsDue 20 (.invokevirtual 337) 3 23 := by decide +kernel
theorem d12_isAsDue_23 : zj cX12_isAsDue 23 (.if_icmp .ne 49) 49 26 72 := by decide +kernel
theorem d12_isAsDue_26 : zd cX12_isAsDue 26 (.aload_n 0) 1 27 := by decide +kernel
theorem d12_isAsDue_27 : zd cX12_isAsDue 27 (.iload_n 1) 1 28 := by decide +kernel
theorem d12_isAsDue_28 : zd cX12_isAsDue 28 (.iconst 4) 1 29 := by decide +kernel
theorem d12_isAsDue_29 : zd cX12_isAsDue 29 (.invokevirtual 319) 3 32 := by decide +kernel
theorem d12_isAsDue_32 : zd cX12_isAsDue 32 (.aload_n 0) 1 33 := by decide +kernel
theorem d12_isAsDue_33 : zd cX12_isAsDue 33 (.getfield 160) 3 36 := by decide +kernel
theorem d12_isAsDue_36 : zd cX12_isAsDue 36 (.bipush 8) 2 38 := by decide +kernel
theorem d12_isAsDue_38 : zd cX12_isAsDue 38 (.iload_n 1) 1 39 := by decide +kernel
theorem d12_isAsDue_39 : zd cX12_isAsDue 39 (.imul) 1 40 := by decide +kernel
theorem d12_isAsDue_40 : zd cX12_isAsDue 40 (.iload_n 2) 1 41 := by decide +kernel
theorem d12_isAsDue_41 : zd cX12_isAsDue 41 (.iadd) 1 42 := by decide +kernel
theorem d12_isAsDue_42 : zd cX12_isAsDue 42 (.iaload) 1 43 := by decide +kernel
theorem d12_isAsDue_43 : zj cX12_isAsDue 43 (.if_icmp .ne 29) 29 46 72 := by decide +kernel
theorem d12_isAsDue_46 : zd cX12_isAsDue 46 (.aload_n 0) 1 47 := by decide +kernel
theorem d12_isAsDue_47 : zd cX12_isAsDue 47 (.iload_n 1) 1 48 := by decide +kernel
theorem d12_isAsDue_48 : zd cX12_isAsDue 48 (.iconst 5) 1 49 := by decide +kernel
theorem d12_isAsDue_49 : zd cX12_isAsDue 49 (.invokevirtual 319) 3 52 := by decide +kernel
theorem d12_isAsDue_52 : zd cX12_isAsDue 52 (.iload_n 3) 1 53 := by decide +kernel
theorem d12_isAsDue_53 : zd cX12_isAsDue 53 (.iconst (-1)) 1 54 := by decide +kernel
theorem d12_isAsDue_54 : zj cX12_isAsDue 54 (.if_icmp .ne 7) 7 57 61 := by decide +kernel
theorem d12_isAsDue_57 : zd cX12_isAsDue 57 (.iconst (-1)) 1 58 := by decide +kernel
theorem d12_isAsDue_58 : zj cX12_isAsDue 58 (.goto 7) 7 61 65 := by decide +kernel
theorem d12_isAsDue_61 : zd cX12_isAsDue 61 (.iload_n 3) 1 62 := by decide +kernel
theorem d12_isAsDue_62 : zd cX12_isAsDue 62 (.bipush 6) 2 64 := by decide +kernel
theorem d12_isAsDue_64 : zd cX12_isAsDue 64 (.irem) 1 65 := by decide +kernel
theorem d12_isAsDue_65 : zj cX12_isAsDue 65 (.if_icmp .ne 7) 7 68 72 := by decide +kernel
theorem d12_isAsDue_68 : zd cX12_isAsDue 68 (.iconst 1) 1 69 := by decide +kernel
theorem d12_isAsDue_69 : zj cX12_isAsDue 69 (.goto 4) 4 72 73 := by decide +kernel
theorem d12_isAsDue_72 : zd cX12_isAsDue 72 (.iconst 0) 1 73 := by decide +kernel
theorem d12_isAsDue_73 : zd cX12_isAsDue 73 (.ireturn) 1 74 := by decide +kernel
set_option maxHeartbeats 4000000 in
set_option maxRecDepth 20000 in
theorem c12_isAsDue (l : Launch) (D : zDt) (Sh : zSh) (top : Nat) (hO : zOK Sh) (o_ : Nat) (v_b : Int32) (μ : zM) (r_ : Bool) (ho : (Sh o_).1 = 19) (h : f12_isAsDue o_ v_b μ = some r_) : zMet l D zK1 yX12_isAsDue cX12_isAsDue 4 (some .boolean) (zrm 6 131) [.ref o_, .int v_b] Sh top μ (some (.int (bI r_))) Sh top μ 0 0 := by
  refine zMet_of (by decide) (Nat.le_of_ble_eq_true rfl) fun X hX1 hX2 fx fin => ?_
  subst hX1; subst hX2
  replace fx : zFix X cX12_isAsDue RX12 (zrm 6 131) 4 := fx
  show zZ zK1 X (zT0 Sh top) μ 0 [(0, .ref o_), (1, .int v_b)] []
  unfold f12_isAsDue at h
  refine z_aload_n fx (k := 0) (i := 0) rfl rfl d12_isAsDue_0 ?_
  refine z_iload_n fx (k := 1) (i := 1) rfl rfl d12_isAsDue_1 ?_
  obtain ⟨t1, e1, h⟩ := zinv h
  refine z_cVr fx (c12_rootOf (zLo X) (zDo X) Sh top hO o_ v_b μ _ ho e1) mv12_rootOf ml12_490 ho rfl rfl rfl rfl d12_isAsDue_2 ?_
  refine z_istore_n fx (k := 2) (i := 2) rfl rfl (lv' := [(0, .ref o_), (1, .int v_b), (2, .int t1)]) rfl rfl d12_isAsDue_5 ?_
  refine z_aload_n fx (k := 0) (i := 0) rfl rfl d12_isAsDue_6 ?_
  refine z_iload_n fx (k := 1) (i := 1) rfl rfl d12_isAsDue_7 ?_
  obtain ⟨t2, e2, h⟩ := zinv h
  refine z_cVr fx (c12_rootPortOf (zLo X) (zDo X) Sh top hO o_ v_b μ _ ho e2) mv12_rootPortOf ml12_493 ho rfl rfl rfl rfl d12_isAsDue_8 ?_
  refine z_istore_n fx (k := 3) (i := 3) rfl rfl (lv' := [(0, .ref o_), (1, .int v_b), (2, .int t1), (3, .int t2)]) rfl rfl d12_isAsDue_11 ?_
  obtain ⟨b3, e3, h⟩ := zinv h
  have k4 : zZ zK1 X (zT0 Sh top) μ 73 [(0, .ref o_), (1, .int v_b), (2, .int t1), (3, .int t2)] [.int (bI b3)] := by
    cases h
    exact z_zreturn fx fin d12_isAsDue_73
  have kt5 : b3 = true → zZ zK1 X (zT0 Sh top) μ 68 [(0, .ref o_), (1, .int v_b), (2, .int t1), (3, .int t2)] [] := by
    intro hc
    refine z_iconst fx (v := 1) ic1 d12_isAsDue_68 ?_
    refine z_goto fx d12_isAsDue_69 ?_
    exact z_top (congrArg Value.int (show 1 = bI b3 by rw [hc]; rfl)) k4
  have kf5 : b3 = false → zZ zK1 X (zT0 Sh top) μ 72 [(0, .ref o_), (1, .int v_b), (2, .int t1), (3, .int t2)] [] := by
    intro hc
    refine z_iconst fx (v := 0) ic0 d12_isAsDue_72 ?_
    exact z_top (congrArg Value.int (show 0 = bI b3 by rw [hc]; rfl)) k4
  obtain ⟨b4, e6, e3⟩ := zinv e3
  have kt7 : b4 = true → zZ zK1 X (zT0 Sh top) μ 46 [(0, .ref o_), (1, .int v_b), (2, .int t1), (3, .int t2)] [] := by
    intro hc
    replace e3 := zif_t hc e3
    refine z_aload_n fx (k := 0) (i := 0) rfl rfl d12_isAsDue_46 ?_
    refine z_iload_n fx (k := 1) (i := 1) rfl rfl d12_isAsDue_47 ?_
    refine z_iconst fx (v := 5) ic5 d12_isAsDue_48 ?_
    obtain ⟨t5, e8, e3⟩ := zinv e3
    refine z_cVr fx (c12_of (zLo X) (zDo X) Sh top hO o_ v_b 5 μ _ ho e8) mv12_of ml12_319 ho rfl rfl rfl rfl d12_isAsDue_49 ?_
    obtain ⟨x6, e9, e3⟩ := zinv e3
    have k10 : zZ zK1 X (zT0 Sh top) μ 65 [(0, .ref o_), (1, .int v_b), (2, .int t1), (3, .int t2)] [.int x6, .int t5] := by
      cases e3
      refine z_icmp_ne fx d12_isAsDue_65 (fun c13 => ?_) (fun c13 => ?_)
      · exact kf5 c13
      · exact kt5 c13
    refine z_iload_n fx (k := 3) (i := 3) rfl rfl d12_isAsDue_52 ?_
    refine z_iconst fx (v := (-1)) icm1 d12_isAsDue_53 ?_
    refine z_icmp_ne fx d12_isAsDue_54 (fun c11 => ?_) (fun c11 => ?_)
    · replace e9 := zif_f c11 e9
      refine z_iload_n fx (k := 3) (i := 3) rfl rfl d12_isAsDue_61 ?_
      refine z_bipush fx (v := 6) bp6 d12_isAsDue_62 ?_
      obtain ⟨t7, e12, e9⟩ := zinv e9
      refine z_irem fx e12 d12_isAsDue_64 ?_
      cases e9
      exact k10
    · replace e9 := zif_t c11 e9
      refine z_iconst fx (v := (-1)) icm1 d12_isAsDue_57 ?_
      cases e9
      refine z_goto fx d12_isAsDue_58 ?_
      exact k10
  have kf7 : b4 = false → zZ zK1 X (zT0 Sh top) μ 72 [(0, .ref o_), (1, .int v_b), (2, .int t1), (3, .int t2)] [] := by
    intro hc
    replace e3 := zif_f hc e3
    cases e3
    exact kf5 rfl
  clear e3
  obtain ⟨b8, e14, e6⟩ := zinv e6
  have kt15 : b8 = true → zZ zK1 X (zT0 Sh top) μ 26 [(0, .ref o_), (1, .int v_b), (2, .int t1), (3, .int t2)] [] := by
    intro hc
    replace e6 := zif_t hc e6
    refine z_aload_n fx (k := 0) (i := 0) rfl rfl d12_isAsDue_26 ?_
    refine z_iload_n fx (k := 1) (i := 1) rfl rfl d12_isAsDue_27 ?_
    refine z_iconst fx (v := 4) ic4 d12_isAsDue_28 ?_
    obtain ⟨t9, e16, e6⟩ := zinv e6
    refine z_cVr fx (c12_of (zLo X) (zDo X) Sh top hO o_ v_b 4 μ _ ho e16) mv12_of ml12_319 ho rfl rfl rfl rfl d12_isAsDue_29 ?_
    refine z_aload_n fx (k := 0) (i := 0) rfl rfl d12_isAsDue_32 ?_
    refine z_getO fx 12 49 28 ho lf12_160 fk12_49 d12_isAsDue_33 ?_
    refine z_bipush fx (v := 8) bp8 d12_isAsDue_36 ?_
    refine z_iload_n fx (k := 1) (i := 1) rfl rfl d12_isAsDue_38 ?_
    refine z_imul fx d12_isAsDue_39 ?_
    refine z_iload_n fx (k := 2) (i := 2) rfl rfl d12_isAsDue_40 ?_
    refine z_iadd fx d12_isAsDue_41 ?_
    obtain ⟨t10, e17, e6⟩ := zinv e6
    refine z_iald fx (ok12_49 hO ho) e17 d12_isAsDue_42 ?_
    cases e6
    refine z_icmp_ne fx d12_isAsDue_43 (fun c18 => ?_) (fun c18 => ?_)
    · exact kf7 c18
    · exact kt7 c18
  have kf15 : b8 = false → zZ zK1 X (zT0 Sh top) μ 72 [(0, .ref o_), (1, .int v_b), (2, .int t1), (3, .int t2)] [] := by
    intro hc
    replace e6 := zif_f hc e6
    cases e6
    exact kf7 rfl
  clear e6
  refine z_aload_n fx (k := 0) (i := 0) rfl rfl d12_isAsDue_12 ?_
  refine z_iload_n fx (k := 1) (i := 1) rfl rfl d12_isAsDue_13 ?_
  refine z_iconst fx (v := 3) ic3 d12_isAsDue_14 ?_
  obtain ⟨t11, e19, e14⟩ := zinv e14
  refine z_cVr fx (c12_of (zLo X) (zDo X) Sh top hO o_ v_b 3 μ _ ho e19) mv12_of ml12_319 ho rfl rfl rfl rfl d12_isAsDue_15 ?_
  refine z_aload_n fx (k := 0) (i := 0) rfl rfl d12_isAsDue_18 ?_
  refine z_iload_n fx (k := 2) (i := 2) rfl rfl d12_isAsDue_19 ?_
  obtain ⟨t12, e20, e14⟩ := zinv e14
  refine z_cVr fx (c12_idOf (zLo X) (zDo X) Sh top hO o_ t1 μ _ ho e20) mv12_idOf ml12_337 ho rfl rfl rfl rfl d12_isAsDue_20 ?_
  cases e14
  refine z_icmp_ne fx d12_isAsDue_23 (fun c21 => ?_) (fun c21 => ?_)
  · exact kf15 c21
  · exact kt15 c21
theorem d12_isResting_0 : zd cX12_isResting 0 (.aload_n 0) 1 1 := by decide +kernel
theorem d12_isResting_1 : zd cX12_isResting 1 (.invokevirtual 496) 3 4 := by decide +kernel
theorem d12_isResting_4 : zd cX12_isResting 4 (.iconst 0) 1 5 := by decide +kernel
theorem d12_isResting_5 : zd cX12_isResting 5 (.istore_n 1) 1 6 := by decide +kernel
theorem d12_isResting_6 : zd cX12_isResting 6 (.iload_n 1) 1 7 := by decide +kernel
theorem d12_isResting_7 : zd cX12_isResting 7 (.aload_n 0) 1 8 := by decide +kernel
theorem d12_isResting_8 : zd cX12_isResting 8 (.getfield 13) 3 11 := by decide +kernel
theorem d12_isResting_11 : zj cX12_isResting 11 (.if_icmp .ge 95) 95 14 106 := by decide +kernel
theorem d12_isResting_14 : zd cX12_isResting 14 (.aload_n 0) 1 15 := by decide +kernel
theorem d12_isResting_15 : zd cX12_isResting 15 (.iload_n 1) 1 16 := by decide +kernel
theorem d12_isResting_16 : zd cX12_isResting 16 (.invokevirtual 328) 3 19 := by decide +kernel
theorem d12_isResting_19 : zj cX12_isResting 19 (.ifCond .eq 13) 13 22 32 := by decide +kernel
theorem d12_isResting_22 : zd cX12_isResting 22 (.aload_n 0) 1 23 := by decide +kernel
theorem d12_isResting_23 : zd cX12_isResting 23 (.iload_n 1) 1 24 := by decide +kernel
theorem d12_isResting_24 : zd cX12_isResting 24 (.invokevirtual 502) 3 27 := by decide +kernel
theorem d12_isResting_27 : zj cX12_isResting 27 (.ifCond .ne 5) 5 30 32 := by decide +kernel
theorem d12_isResting_30 : zd cX12_isResting 30 (.iconst 0) 1 31 := by decide +kernel
theorem d12_isResting_31 : zd cX12_isResting 31 (.ireturn) 1 32 := by decide +kernel
theorem d12_isResting_32 : zd cX12_isResting 32 (.iload_n 1) 1 33 := by decide +kernel
theorem d12_isResting_33 : zd cX12_isResting 33 (.iconst 0) 1 34 := by decide +kernel
theorem d12_isResting_34 : zd cX12_isResting 34 (.invokestatic 325) 3 37 := by decide +kernel
theorem d12_isResting_37 : zd cX12_isResting 37 (.istore_n 2) 1 38 := by decide +kernel
theorem d12_isResting_38 : zd cX12_isResting 38 (.iload_n 2) 1 39 := by decide +kernel
theorem d12_isResting_39 : zd cX12_isResting 39 (.iload_n 1) 1 40 := by decide +kernel
theorem d12_isResting_40 : zd cX12_isResting 40 (.aload_n 0) 1 41 := by decide +kernel
theorem d12_isResting_41 : zd cX12_isResting 41 (.getfield 35) 3 44 := by decide +kernel
theorem d12_isResting_44 : zd cX12_isResting 44 (.iload_n 1) 1 45 := by decide +kernel
theorem d12_isResting_45 : zd cX12_isResting 45 (.iaload) 1 46 := by decide +kernel
theorem d12_isResting_46 : zd cX12_isResting 46 (.invokestatic 325) 3 49 := by decide +kernel
theorem d12_isResting_49 : zj cX12_isResting 49 (.if_icmp .ge 51) 51 52 100 := by decide +kernel
theorem d12_isResting_52 : zd cX12_isResting 52 (.aload_n 0) 1 53 := by decide +kernel
theorem d12_isResting_53 : zd cX12_isResting 53 (.iload_n 2) 1 54 := by decide +kernel
theorem d12_isResting_54 : zd cX12_isResting 54 (.invokevirtual 499) 3 57 := by decide +kernel
theorem d12_isResting_57 : zd cX12_isResting 57 (.istore_n 3) 1 58 := by decide +kernel
theorem d12_isResting_58 : zd cX12_isResting 58 (.aload_n 0) 1 59 := by decide +kernel
theorem d12_isResting_59 : zd cX12_isResting 59 (.iload_n 2) 1 60 := by decide +kernel
theorem d12_isResting_60 : zd cX12_isResting 60 (.iconst 0) 1 61 := by decide +kernel
theorem d12_isResting_61 : zd cX12_isResting 61 (.invokevirtual 334) 3 64 := by decide +kernel
theorem d12_isResting_64 : zd cX12_isResting 64 (.iload_n 3) 1 65 := by decide +kernel
theorem d12_isResting_65 : zj cX12_isResting 65 (.if_icmp .ne 27) 27 68 92 := by decide +kernel
theorem d12_isResting_68 : zd cX12_isResting 68 (.aload_n 0) 1 69 := by decide +kernel
theorem d12_isResting_69 : zd cX12_isResting 69 (.iload_n 2) 1 70 := by decide +kernel
theorem d12_isResting_70 : zd cX12_isResting 70 (.iconst 1) 1 71 := by decide +kernel
theorem d12_isResting_71 : zd cX12_isResting 71 (.invokevirtual 334) 3 74 := by decide +kernel
theorem d12_isResting_74 : zd cX12_isResting 74 (.iload_n 3) 1 75 := by decide +kernel
theorem d12_isResting_75 : zd cX12_isResting 75 (.iconst 1) 1 76 := by decide +kernel
theorem d12_isResting_76 : zj cX12_isResting 76 (.if_icmp .eq 8) 8 79 84 := by decide +kernel
theorem d12_isResting_79 : zd cX12_isResting 79 (.iload_n 3) 1 80 := by decide +kernel
theorem d12_isResting_80 : zd cX12_isResting 80 (.iconst 2) 1 81 := by decide +kernel
theorem d12_isResting_81 : zj cX12_isResting 81 (.if_icmp .ne 7) 7 84 88 := by decide +kernel
theorem d12_isResting_84 : zd cX12_isResting 84 (.iconst 2) 1 85 := by decide +kernel
theorem d12_isResting_85 : zj cX12_isResting 85 (.goto 4) 4 88 89 := by decide +kernel
theorem d12_isResting_88 : zd cX12_isResting 88 (.iconst 0) 1 89 := by decide +kernel
theorem d12_isResting_89 : zj cX12_isResting 89 (.if_icmp .eq 5) 5 92 94 := by decide +kernel
theorem d12_isResting_92 : zd cX12_isResting 92 (.iconst 0) 1 93 := by decide +kernel
theorem d12_isResting_93 : zd cX12_isResting 93 (.ireturn) 1 94 := by decide +kernel
theorem d12_isResting_94 : zd cX12_isResting 94 (.iinc 2 1) 3 97 := by decide +kernel
theorem d12_isResting_97 : zj cX12_isResting 97 (.goto (-59)) (-59) 100 38 := by decide +kernel
theorem d12_isResting_100 : zd cX12_isResting 100 (.iinc 1 1) 3 103 := by decide +kernel
theorem d12_isResting_103 : zj cX12_isResting 103 (.goto (-97)) (-97) 106 6 := by decide +kernel
theorem d12_isResting_106 : zd cX12_isResting 106 (.iconst 1) 1 107 := by decide +kernel
theorem d12_isResting_107 : zd cX12_isResting 107 (.ireturn) 1 108 := by decide +kernel
set_option maxHeartbeats 4000000 in
set_option maxRecDepth 20000 in
theorem c12_isResting (l : Launch) (D : zDt) (Sh : zSh) (top : Nat) (hO : zOK Sh) (o_ : Nat) (μ : zM) (r_ : Bool) (μ_ : zM) (ho : (Sh o_).1 = 19) (h : f12_isResting o_ μ = some (r_, μ_)) : zMet l D zK1 yX12_isResting cX12_isResting 4 (some .boolean) (zrm 7 155) [.ref o_] Sh top μ (some (.int (bI r_))) Sh top μ_ 0 0 := by
  refine zMet_of (by decide) (Nat.le_of_ble_eq_true rfl) fun X hX1 hX2 fx fin => ?_
  subst hX1; subst hX2
  replace fx : zFix X cX12_isResting RX12 (zrm 7 155) 4 := fx
  show zZ zK1 X (zT0 Sh top) μ 0 [(0, .ref o_)] []
  unfold f12_isResting at h
  refine z_aload_n fx (k := 0) (i := 0) rfl rfl d12_isResting_0 ?_
  obtain ⟨μ1, e1, h⟩ := zinv h
  refine z_cVv fx (c12_laysFar (zLo X) (zDo X) Sh top hO o_ μ _ ho e1) mv12_laysFar ml12_496 ho rfl rfl rfl rfl d12_isResting_1 ?_
  refine z_iconst fx (v := 0) ic0 d12_isResting_4 ?_
  refine z_istore_n fx (k := 1) (i := 1) rfl rfl (lv' := [(0, .ref o_), (1, .int 0)]) rfl rfl d12_isResting_5 ?_
  obtain ⟨r4, e42, h⟩ := zinv h
  have kx5 : ∀ (v_b_3 : Int32), r4 = .inr v_b_3 → zZ zK1 X (zT0 Sh top) μ1 106 [(0, .ref o_), (1, .int v_b_3)] [] := by
    intro v_b_3 hr
    subst hr
    replace h := zel1 h
    refine z_take 1 (lv' := [(0, .ref o_)]) rfl ?_
    refine z_iconst fx (v := 1) ic1 d12_isResting_106 ?_
    refine z_top (show Value.int 1 = .int (bI true) from rfl) ?_
    cases h
    exact z_zreturn fx fin d12_isResting_107
  have klr4 : ∀ (n : Nat) (v_b_2 : Int32), zloop (fun s => f12_isResting_L1 o_ μ1 s) n v_b_2 = some r4 → zZ zK1 X (zT0 Sh top) μ1 6 [(0, .ref o_), (1, .int v_b_2)] [] := by
    intro n
    induction n with
    | zero => intro v_b_2 hl3; cases hl3
    | succ n ih6 =>
      intro v_b_2 hl3
      obtain ⟨y, e2, hl3⟩ := zloop_inv hl3
      replace e2 : f12_isResting_L1 o_ μ1 v_b_2 = some y := e2
      unfold f12_isResting_L1 at e2
      refine z_iload_n fx (k := 1) (i := 1) rfl rfl d12_isResting_6 ?_
      refine z_aload_n fx (k := 0) (i := 0) rfl rfl d12_isResting_7 ?_
      refine z_getI fx 12 1 1201 ho lf12_13 ⟨fk12_1, rfl⟩ d12_isResting_8 ?_
      refine z_icmp_ge fx d12_isResting_11 (fun c7 => ?_) (fun c7 => ?_)
      · replace e2 := zif_f c7 e2
        cases e2
        exact kx5 _ (Eq.symm hl3)
      · replace e2 := zif_t c7 e2
        obtain ⟨b4, e9, e2⟩ := zinv e2
        have kt8 : b4 = true → zZ zK1 X (zT0 Sh top) μ1 30 [(0, .ref o_), (1, .int v_b_2)] [] := by
          intro hc
          replace e2 := zif_t hc e2
          refine z_iconst fx (v := 0) ic0 d12_isResting_30 ?_
          refine z_top (show Value.int 0 = .int (bI false) from rfl) ?_
          cases e2
          cases hl3
          cases h
          exact z_zreturn fx fin d12_isResting_31
        have kf8 : b4 = false → zZ zK1 X (zT0 Sh top) μ1 32 [(0, .ref o_), (1, .int v_b_2)] [] := by
          intro hc
          replace e2 := zif_f hc e2
          refine z_iload_n fx (k := 1) (i := 1) rfl rfl d12_isResting_32 ?_
          refine z_iconst fx (v := 0) ic0 d12_isResting_33 ?_
          obtain ⟨t5, e10, e2⟩ := zinv e2
          refine z_cSr fx (c12_placeOf (zLo X) (zDo X) Sh top hO v_b_2 0 μ1 _  e10) ms12_placeOf ml12_325 rfl rfl rfl rfl d12_isResting_34 ?_
          refine z_istore_n fx (k := 2) (i := 2) rfl rfl (lv' := [(0, .ref o_), (1, .int v_b_2), (2, .int t5)]) rfl rfl d12_isResting_37 ?_
          obtain ⟨r13, e35, e2⟩ := zinv e2
          have kx14 : ∀ (v_p_7 : Int32), r13 = .inr v_p_7 → zZ zK1 X (zT0 Sh top) μ1 100 [(0, .ref o_), (1, .int v_b_2), (2, .int v_p_7)] [] := by
            intro v_p_7 hr
            subst hr
            replace e2 := zel1 e2
            refine z_take 2 (lv' := [(0, .ref o_), (1, .int v_b_2)]) rfl ?_
            obtain ⟨v_b_17, e34, e2⟩ := zinv e2
            replace e34 := Option.some.inj e34
            refine z_iinc fx (i := 1) (x := v_b_2) (v := v_b_17) rfl (by rw [in1]; exact e34) rfl (lv' := [(0, .ref o_), (1, .int v_b_17)]) rfl rfl d12_isResting_100 ?_
            cases e2
            refine z_goto fx d12_isResting_103 ?_
            exact ih6 _ hl3
          have klr13 : ∀ (n : Nat) (v_p_6 : Int32), zloop (fun s => f12_isResting_L2 o_ μ1 v_b_2 s) n v_p_6 = some r13 → zZ zK1 X (zT0 Sh top) μ1 38 [(0, .ref o_), (1, .int v_b_2), (2, .int v_p_6)] [] := by
            intro n
            induction n with
            | zero => intro v_p_6 hl12; cases hl12
            | succ n ih15 =>
              intro v_p_6 hl12
              obtain ⟨y, e11, hl12⟩ := zloop_inv hl12
              replace e11 : f12_isResting_L2 o_ μ1 v_b_2 v_p_6 = some y := e11
              unfold f12_isResting_L2 at e11
              refine z_iload_n fx (k := 2) (i := 2) rfl rfl d12_isResting_38 ?_
              refine z_iload_n fx (k := 1) (i := 1) rfl rfl d12_isResting_39 ?_
              refine z_aload_n fx (k := 0) (i := 0) rfl rfl d12_isResting_40 ?_
              refine z_getO fx 12 8 3 ho lf12_35 fk12_8 d12_isResting_41 ?_
              refine z_iload_n fx (k := 1) (i := 1) rfl rfl d12_isResting_44 ?_
              obtain ⟨t8, e16, e11⟩ := zinv e11
              refine z_iald fx (ok12_8 hO ho) e16 d12_isResting_45 ?_
              obtain ⟨t9, e17, e11⟩ := zinv e11
              refine z_cSr fx (c12_placeOf (zLo X) (zDo X) Sh top hO v_b_2 t8 μ1 _  e17) ms12_placeOf ml12_325 rfl rfl rfl rfl d12_isResting_46 ?_
              refine z_icmp_ge fx d12_isResting_49 (fun c18 => ?_) (fun c18 => ?_)
              · replace e11 := zif_f c18 e11
                cases e11
                exact kx14 _ (Eq.symm hl12)
              · replace e11 := zif_t c18 e11
                refine z_aload_n fx (k := 0) (i := 0) rfl rfl d12_isResting_52 ?_
                refine z_iload_n fx (k := 2) (i := 2) rfl rfl d12_isResting_53 ?_
                obtain ⟨t10, e19, e11⟩ := zinv e11
                refine z_cVr fx (c12_roleOf (zLo X) (zDo X) Sh top hO o_ v_p_6 μ1 _ ho e19) mv12_roleOf ml12_499 ho rfl rfl rfl rfl d12_isResting_54 ?_
                refine z_istore_n fx (k := 3) (i := 3) rfl rfl (lv' := [(0, .ref o_), (1, .int v_b_2), (2, .int v_p_6), (3, .int t10)]) rfl rfl d12_isResting_57 ?_
                obtain ⟨b11, e21, e11⟩ := zinv e11
                have kt20 : b11 = true → zZ zK1 X (zT0 Sh top) μ1 92 [(0, .ref o_), (1, .int v_b_2), (2, .int v_p_6), (3, .int t10)] [] := by
                  intro hc
                  replace e11 := zif_t hc e11
                  refine z_iconst fx (v := 0) ic0 d12_isResting_92 ?_
                  refine z_top (show Value.int 0 = .int (bI false) from rfl) ?_
                  cases e11
                  cases hl12
                  cases e2
                  cases hl3
                  cases h
                  exact z_zreturn fx fin d12_isResting_93
                have kf20 : b11 = false → zZ zK1 X (zT0 Sh top) μ1 94 [(0, .ref o_), (1, .int v_b_2), (2, .int v_p_6), (3, .int t10)] [] := by
                  intro hc
                  replace e11 := zif_f hc e11
                  refine z_take 3 (lv' := [(0, .ref o_), (1, .int v_b_2), (2, .int v_p_6)]) rfl ?_
                  obtain ⟨v_p_12, e22, e11⟩ := zinv e11
                  replace e22 := Option.some.inj e22
                  refine z_iinc fx (i := 2) (x := v_p_6) (v := v_p_12) rfl (by rw [in1]; exact e22) rfl (lv' := [(0, .ref o_), (1, .int v_b_2), (2, .int v_p_12)]) rfl rfl d12_isResting_94 ?_
                  cases e11
                  refine z_goto fx d12_isResting_97 ?_
                  exact ih15 _ hl12
                clear e11
                obtain ⟨b13, e23, e21⟩ := zinv e21
                have kf24 : b13 = false → zZ zK1 X (zT0 Sh top) μ1 68 [(0, .ref o_), (1, .int v_b_2), (2, .int v_p_6), (3, .int t10)] [] := by
                  intro hc
                  replace e21 := zif_f hc e21
                  refine z_aload_n fx (k := 0) (i := 0) rfl rfl d12_isResting_68 ?_
                  refine z_iload_n fx (k := 2) (i := 2) rfl rfl d12_isResting_69 ?_
                  refine z_iconst fx (v := 1) ic1 d12_isResting_70 ?_
                  obtain ⟨t14, e25, e21⟩ := zinv e21
                  refine z_cVr fx (c12_portOf (zLo X) (zDo X) Sh top hO o_ v_p_6 1 μ1 _ ho e25) mv12_portOf ml12_334 ho rfl rfl rfl rfl d12_isResting_71 ?_
                  obtain ⟨x15, e26, e21⟩ := zinv e21
                  have k27 : zZ zK1 X (zT0 Sh top) μ1 89 [(0, .ref o_), (1, .int v_b_2), (2, .int v_p_6), (3, .int t10)] [.int x15, .int t14] := by
                    cases e21
                    refine z_icmp_eq fx d12_isResting_89 (fun c31 => ?_) (fun c31 => ?_)
                    · exact kf20 (by rw [c31]; rfl)
                    · exact kt20 (by rw [c31]; rfl)
                  have kt28 : ((ceq t10 1) || (ceq t10 2)) = true → zZ zK1 X (zT0 Sh top) μ1 84 [(0, .ref o_), (1, .int v_b_2), (2, .int v_p_6), (3, .int t10)] [.int t14] := by
                    intro hc
                    replace e26 := zif_t hc e26
                    refine z_iconst fx (v := 2) ic2 d12_isResting_84 ?_
                    cases e26
                    refine z_goto fx d12_isResting_85 ?_
                    exact k27
                  have kf28 : ((ceq t10 1) || (ceq t10 2)) = false → zZ zK1 X (zT0 Sh top) μ1 88 [(0, .ref o_), (1, .int v_b_2), (2, .int v_p_6), (3, .int t10)] [.int t14] := by
                    intro hc
                    replace e26 := zif_f hc e26
                    refine z_iconst fx (v := 0) ic0 d12_isResting_88 ?_
                    cases e26
                    exact k27
                  clear e26
                  refine z_iload_n fx (k := 3) (i := 3) rfl rfl d12_isResting_74 ?_
                  refine z_iconst fx (v := 1) ic1 d12_isResting_75 ?_
                  refine z_icmp_eq fx d12_isResting_76 (fun c29 => ?_) (fun c29 => ?_)
                  · exact kt28 (by simp [c29])
                  · refine z_iload_n fx (k := 3) (i := 3) rfl rfl d12_isResting_79 ?_
                    refine z_iconst fx (v := 2) ic2 d12_isResting_80 ?_
                    refine z_icmp_ne fx d12_isResting_81 (fun c30 => ?_) (fun c30 => ?_)
                    · exact kf28 (by simp [c29, c30])
                    · exact kt28 (by simp [c29, c30])
                have kt24 : b13 = true → zZ zK1 X (zT0 Sh top) μ1 92 [(0, .ref o_), (1, .int v_b_2), (2, .int v_p_6), (3, .int t10)] [] := by
                  intro hc
                  replace e21 := zif_t hc e21
                  cases e21
                  exact kt20 rfl
                clear e21
                refine z_aload_n fx (k := 0) (i := 0) rfl rfl d12_isResting_58 ?_
                refine z_iload_n fx (k := 2) (i := 2) rfl rfl d12_isResting_59 ?_
                refine z_iconst fx (v := 0) ic0 d12_isResting_60 ?_
                obtain ⟨t16, e32, e23⟩ := zinv e23
                refine z_cVr fx (c12_portOf (zLo X) (zDo X) Sh top hO o_ v_p_6 0 μ1 _ ho e32) mv12_portOf ml12_334 ho rfl rfl rfl rfl d12_isResting_61 ?_
                refine z_iload_n fx (k := 3) (i := 3) rfl rfl d12_isResting_64 ?_
                cases e23
                refine z_icmp_ne fx d12_isResting_65 (fun c33 => ?_) (fun c33 => ?_)
                · exact kt24 (by rw [c33]; rfl)
                · exact kf24 (by rw [c33]; rfl)
          exact klr13 _ _ e35
        clear e2
        obtain ⟨b18, e36, e9⟩ := zinv e9
        have kt37 : b18 = true → zZ zK1 X (zT0 Sh top) μ1 22 [(0, .ref o_), (1, .int v_b_2)] [] := by
          intro hc
          replace e9 := zif_t hc e9
          refine z_aload_n fx (k := 0) (i := 0) rfl rfl d12_isResting_22 ?_
          refine z_iload_n fx (k := 1) (i := 1) rfl rfl d12_isResting_23 ?_
          obtain ⟨t19, e38, e9⟩ := zinv e9
          refine z_cVr fx (c12_isAsDue (zLo X) (zDo X) Sh top hO o_ v_b_2 μ1 _ ho e38) mv12_isAsDue ml12_502 ho rfl rfl rfl rfl d12_isResting_24 ?_
          cases e9
          refine z_ifb_ne fx d12_isResting_27 (fun c39 => ?_) (fun c39 => ?_)
          · exact kf8 (by rw [c39]; rfl)
          · exact kt8 (by rw [c39]; rfl)
        have kf37 : b18 = false → zZ zK1 X (zT0 Sh top) μ1 32 [(0, .ref o_), (1, .int v_b_2)] [] := by
          intro hc
          replace e9 := zif_f hc e9
          cases e9
          exact kf8 rfl
        clear e9
        refine z_aload_n fx (k := 0) (i := 0) rfl rfl d12_isResting_14 ?_
        refine z_iload_n fx (k := 1) (i := 1) rfl rfl d12_isResting_15 ?_
        obtain ⟨t20, e40, e36⟩ := zinv e36
        refine z_cVr fx (c12_isOn (zLo X) (zDo X) Sh top hO o_ v_b_2 μ1 _ ho e40) mv12_isOn ml12_328 ho rfl rfl rfl rfl d12_isResting_16 ?_
        cases e36
        refine z_ifb_eq fx d12_isResting_19 (fun c41 => ?_) (fun c41 => ?_)
        · exact kf37 c41
        · exact kt37 c41
  exact klr4 _ _ e42
theorem d12_rests_0 : zd cX12_rests 0 (.aload_n 0) 1 1 := by decide +kernel
theorem d12_rests_1 : zd cX12_rests 1 (.iconst 0) 1 2 := by decide +kernel
theorem d12_rests_2 : zd cX12_rests 2 (.putfield 144) 3 5 := by decide +kernel
theorem d12_rests_5 : zd cX12_rests 5 (.aload_n 0) 1 6 := by decide +kernel
theorem d12_rests_6 : zd cX12_rests 6 (.invokevirtual 505) 3 9 := by decide +kernel
theorem d12_rests_9 : zd cX12_rests 9 (.ireturn) 1 10 := by decide +kernel
set_option maxHeartbeats 4000000 in
set_option maxRecDepth 20000 in
theorem c12_rests (l : Launch) (D : zDt) (Sh : zSh) (top : Nat) (hO : zOK Sh) (o_ : Nat) (μ : zM) (r_ : Bool) (μ_ : zM) (ho : (Sh o_).1 = 19) (h : f12_rests o_ μ = some (r_, μ_)) : zMet l D zK1 yX12_rests cX12_rests 1 (some .boolean) (zrm 8 178) [.ref o_] Sh top μ (some (.int (bI r_))) Sh top μ_ 0 0 := by
  refine zMet_of (by decide) (Nat.le_of_ble_eq_true rfl) fun X hX1 hX2 fx fin => ?_
  subst hX1; subst hX2
  replace fx : zFix X cX12_rests RX12 (zrm 8 178) 1 := fx
  show zZ zK1 X (zT0 Sh top) μ 0 [(0, .ref o_)] []
  unfold f12_rests at h
  refine z_aload_n fx (k := 0) (i := 0) rfl rfl d12_rests_0 ?_
  refine z_iconst fx (v := 0) ic0 d12_rests_1 ?_
  obtain ⟨μ1, e1, h⟩ := zinv h
  refine z_putI fx (ci := 12) 44 ho lf12_144 fp12_44 e1 d12_rests_2 ?_
  refine z_aload_n fx (k := 0) (i := 0) rfl rfl d12_rests_5 ?_
  obtain ⟨t2, μ3, e2, h⟩ := zinv2 h
  refine z_cVr fx (c12_isResting (zLo X) (zDo X) Sh top hO o_ μ1 _ _ ho e2) mv12_isResting ml12_505 ho rfl rfl rfl rfl d12_rests_6 ?_
  cases h
  exact z_zreturn fx fin d12_rests_9
theorem d12_tries_0 : zd cX12_tries 0 (.iconst 0) 1 1 := by decide +kernel
theorem d12_tries_1 : zd cX12_tries 1 (.istore_n 1) 1 2 := by decide +kernel
theorem d12_tries_2 : zd cX12_tries 2 (.iload_n 1) 1 3 := by decide +kernel
theorem d12_tries_3 : zd cX12_tries 3 (.sipush 2874) 3 6 := by decide +kernel
theorem d12_tries_6 : zj cX12_tries 6 (.if_icmp .ge 27) 27 9 33 := by decide +kernel
theorem d12_tries_9 : zd cX12_tries 9 (.aload_n 0) 1 10 := by decide +kernel
theorem d12_tries_10 : zd cX12_tries 10 (.getfield 137) 3 13 := by decide +kernel
theorem d12_tries_13 : zd cX12_tries 13 (.sipush 2874) 3 16 := by decide +kernel
theorem d12_tries_16 : zd cX12_tries 16 (.iload_n 1) 1 17 := by decide +kernel
theorem d12_tries_17 : zd cX12_tries 17 (.iadd) 1 18 := by decide +kernel
theorem d12_tries_18 : zd cX12_tries 18 (.aload_n 0) 1 19 := by decide +kernel
theorem d12_tries_19 : zd cX12_tries 19 (.getfield 137) 3 22 := by decide +kernel
theorem d12_tries_22 : zd cX12_tries 22 (.iconst 0) 1 23 := by decide +kernel
theorem d12_tries_23 : zd cX12_tries 23 (.iload_n 1) 1 24 := by decide +kernel
theorem d12_tries_24 : zd cX12_tries 24 (.iadd) 1 25 := by decide +kernel
theorem d12_tries_25 : zd cX12_tries 25 (.iaload) 1 26 := by decide +kernel
theorem d12_tries_26 : zd cX12_tries 26 (.iastore) 1 27 := by decide +kernel
theorem d12_tries_27 : zd cX12_tries 27 (.iinc 1 1) 3 30 := by decide +kernel
theorem d12_tries_30 : zj cX12_tries 30 (.goto (-28)) (-28) 33 2 := by decide +kernel
theorem d12_tries_33 : zd cX12_tries 33 (.aload_n 0) 1 34 := by decide +kernel
theorem d12_tries_34 : zd cX12_tries 34 (.sipush 2874) 3 37 := by decide +kernel
theorem d12_tries_37 : zd cX12_tries 37 (.putfield 144) 3 40 := by decide +kernel
theorem d12_tries_40 : zd cX12_tries 40 (.return_) 1 41 := by decide +kernel
set_option maxHeartbeats 4000000 in
set_option maxRecDepth 20000 in
theorem c12_tries (l : Launch) (D : zDt) (Sh : zSh) (top : Nat) (hO : zOK Sh) (o_ : Nat) (μ : zM) (μ_ : zM) (ho : (Sh o_).1 = 19) (h : f12_tries o_ μ = some μ_) : zMet l D zK1 yX12_tries cX12_tries 2 none (zrm 0 0) [.ref o_] Sh top μ none Sh top μ_ 0 0 := by
  refine zMet_of (by decide) (Nat.le_of_ble_eq_true rfl) fun X hX1 hX2 fx fin => ?_
  subst hX1; subst hX2
  replace fx : zFix X cX12_tries RX12 (zrm 0 0) 2 := fx
  show zZ zK1 X (zT0 Sh top) μ 0 [(0, .ref o_)] []
  unfold f12_tries at h
  refine z_iconst fx (v := 0) ic0 d12_tries_0 ?_
  refine z_istore_n fx (k := 1) (i := 1) rfl rfl (lv' := [(0, .ref o_), (1, .int 0)]) rfl rfl d12_tries_1 ?_
  obtain ⟨v_k_3, μ4, e11, h⟩ := zinv2 h
  have kx4 : zZ zK1 X (zT0 Sh top) μ4 33 [(0, .ref o_), (1, .int v_k_3)] [] := by
    refine z_take 1 (lv' := [(0, .ref o_)]) rfl ?_
    refine z_aload_n fx (k := 0) (i := 0) rfl rfl d12_tries_33 ?_
    refine z_sipush fx (v := 2874) sp2874 d12_tries_34 ?_
    obtain ⟨μ8, e10, h⟩ := zinv h
    refine z_putI fx (ci := 12) 44 ho lf12_144 fp12_44 e10 d12_tries_37 ?_
    cases h
    exact z_return fx fin d12_tries_40
  clear h
  have klr3 : ∀ (n : Nat) (v_k_1 : Int32) (μ2 : zM), zloop (fun s => f12_tries_L1 o_ s.1 s.2) n (v_k_1, μ2) = some (v_k_3, μ4) → zZ zK1 X (zT0 Sh top) μ2 2 [(0, .ref o_), (1, .int v_k_1)] [] := by
    intro n
    induction n with
    | zero => intro v_k_1 μ2 hl2; cases hl2
    | succ n ih5 =>
      intro v_k_1 μ2 hl2
      obtain ⟨y, e1, hl2⟩ := zloop_inv hl2
      replace e1 : f12_tries_L1 o_ v_k_1 μ2 = some y := e1
      unfold f12_tries_L1 at e1
      refine z_iload_n fx (k := 1) (i := 1) rfl rfl d12_tries_2 ?_
      refine z_sipush fx (v := 2874) sp2874 d12_tries_3 ?_
      refine z_icmp_ge fx d12_tries_6 (fun c6 => ?_) (fun c6 => ?_)
      · replace e1 := zif_f c6 e1
        cases e1
        cases hl2
        exact kx4
      · replace e1 := zif_t c6 e1
        refine z_aload_n fx (k := 0) (i := 0) rfl rfl d12_tries_9 ?_
        refine z_getO fx 12 42 24 ho lf12_137 fk12_42 d12_tries_10 ?_
        refine z_sipush fx (v := 2874) sp2874 d12_tries_13 ?_
        refine z_iload_n fx (k := 1) (i := 1) rfl rfl d12_tries_16 ?_
        refine z_iadd fx d12_tries_17 ?_
        refine z_aload_n fx (k := 0) (i := 0) rfl rfl d12_tries_18 ?_
        refine z_getO fx 12 42 24 ho lf12_137 fk12_42 d12_tries_19 ?_
        refine z_iconst fx (v := 0) ic0 d12_tries_22 ?_
        refine z_iload_n fx (k := 1) (i := 1) rfl rfl d12_tries_23 ?_
        refine z_iadd fx d12_tries_24 ?_
        obtain ⟨t5, e7, e1⟩ := zinv e1
        refine z_iald fx (ok12_42 hO ho) e7 d12_tries_25 ?_
        obtain ⟨μ6, e8, e1⟩ := zinv e1
        refine z_iast fx (ok12_42 hO ho) e8 d12_tries_26 ?_
        obtain ⟨v_k_7, e9, e1⟩ := zinv e1
        replace e9 := Option.some.inj e9
        refine z_iinc fx (i := 1) (x := v_k_1) (v := v_k_7) rfl (by rw [in1]; exact e9) rfl (lv' := [(0, .ref o_), (1, .int v_k_7)]) rfl rfl d12_tries_27 ?_
        cases e1
        refine z_goto fx d12_tries_30 ?_
        exact ih5 _ _ hl2
  exact klr3 _ _ _ e11
theorem d12_when_0 : zd cX12_when 0 (.aload_n 0) 1 1 := by decide +kernel
theorem d12_when_1 : zd cX12_when 1 (.getfield 150) 3 4 := by decide +kernel
theorem d12_when_4 : zj cX12_when 4 (.ifCond .ne 5) 5 7 9 := by decide +kernel
theorem d12_when_7 : zd cX12_when 7 (.iconst (-1)) 1 8 := by decide +kernel
theorem d12_when_8 : zd cX12_when 8 (.ireturn) 1 9 := by decide +kernel
theorem d12_when_9 : zd cX12_when 9 (.aload_n 0) 1 10 := by decide +kernel
theorem d12_when_10 : zd cX12_when 10 (.invokevirtual 508) 3 13 := by decide +kernel
theorem d12_when_13 : zd cX12_when 13 (.iconst 0) 1 14 := by decide +kernel
theorem d12_when_14 : zd cX12_when 14 (.istore_n 1) 1 15 := by decide +kernel
theorem d12_when_15 : zd cX12_when 15 (.iload_n 1) 1 16 := by decide +kernel
theorem d12_when_16 : zd cX12_when 16 (.sipush 400) 3 19 := by decide +kernel
theorem d12_when_19 : zj cX12_when 19 (.if_icmp .gt 22) 22 22 41 := by decide +kernel
theorem d12_when_22 : zd cX12_when 22 (.aload_n 0) 1 23 := by decide +kernel
theorem d12_when_23 : zd cX12_when 23 (.invokevirtual 505) 3 26 := by decide +kernel
theorem d12_when_26 : zj cX12_when 26 (.ifCond .eq 5) 5 29 31 := by decide +kernel
theorem d12_when_29 : zd cX12_when 29 (.iload_n 1) 1 30 := by decide +kernel
theorem d12_when_30 : zd cX12_when 30 (.ireturn) 1 31 := by decide +kernel
theorem d12_when_31 : zd cX12_when 31 (.aload_n 0) 1 32 := by decide +kernel
theorem d12_when_32 : zd cX12_when 32 (.invokevirtual 511) 3 35 := by decide +kernel
theorem d12_when_35 : zd cX12_when 35 (.iinc 1 1) 3 38 := by decide +kernel
theorem d12_when_38 : zj cX12_when 38 (.goto (-23)) (-23) 41 15 := by decide +kernel
theorem d12_when_41 : zd cX12_when 41 (.iconst (-1)) 1 42 := by decide +kernel
theorem d12_when_42 : zd cX12_when 42 (.ireturn) 1 43 := by decide +kernel
set_option maxHeartbeats 4000000 in
set_option maxRecDepth 20000 in
theorem c12_when (l : Launch) (D : zDt) (Sh : zSh) (top : Nat) (hO : zOK Sh) (o_ : Nat) (μ : zM) (r_ : Int32) (μ_ : zM) (ho : (Sh o_).1 = 19) (h : f12_when o_ μ = some (r_, μ_)) : zMet l D zK1 yX12_when cX12_when 2 (some .int) (zrm 11 254) [.ref o_] Sh top μ (some (.int r_)) Sh top μ_ 0 0 := by
  refine zMet_of (by decide) (Nat.le_of_ble_eq_true rfl) fun X hX1 hX2 fx fin => ?_
  subst hX1; subst hX2
  replace fx : zFix X cX12_when RX12 (zrm 11 254) 2 := fx
  show zZ zK1 X (zT0 Sh top) μ 0 [(0, .ref o_)] []
  unfold f12_when at h
  refine z_aload_n fx (k := 0) (i := 0) rfl rfl d12_when_0 ?_
  refine z_getB fx 12 46 1246 ho lf12_150 ⟨fk12_46, rfl⟩ d12_when_1 ?_
  refine z_ifb_ne fx d12_when_4 (fun c1 => ?_) (fun c1 => ?_)
  · replace h := zif_t c1 h
    refine z_aload_n fx (k := 0) (i := 0) rfl rfl d12_when_9 ?_
    obtain ⟨μ1, e2, h⟩ := zinv h
    refine z_cVv fx (c12_tries (zLo X) (zDo X) Sh top hO o_ μ _ ho e2) mv12_tries ml12_508 ho rfl rfl rfl rfl d12_when_10 ?_
    refine z_iconst fx (v := 0) ic0 d12_when_13 ?_
    refine z_istore_n fx (k := 1) (i := 1) rfl rfl (lv' := [(0, .ref o_), (1, .int 0)]) rfl rfl d12_when_14 ?_
    obtain ⟨r5, e13, h⟩ := zinv h
    have kx6 : ∀ (v_n_4 : Int32) (μ5 : zM), r5 = .inr (v_n_4, μ5) → zZ zK1 X (zT0 Sh top) μ5 41 [(0, .ref o_), (1, .int v_n_4)] [] := by
      intro v_n_4 μ5 hr
      subst hr
      replace h := zel2 h
      refine z_take 1 (lv' := [(0, .ref o_)]) rfl ?_
      refine z_iconst fx (v := (-1)) icm1 d12_when_41 ?_
      cases h
      exact z_ireturn fx fin d12_when_42
    have klr5 : ∀ (n : Nat) (v_n_2 : Int32) (μ3 : zM), zloop (fun s => f12_when_L1 o_ s.1 s.2) n (v_n_2, μ3) = some r5 → zZ zK1 X (zT0 Sh top) μ3 15 [(0, .ref o_), (1, .int v_n_2)] [] := by
      intro n
      induction n with
      | zero => intro v_n_2 μ3 hl4; cases hl4
      | succ n ih7 =>
        intro v_n_2 μ3 hl4
        obtain ⟨y, e3, hl4⟩ := zloop_inv hl4
        replace e3 : f12_when_L1 o_ v_n_2 μ3 = some y := e3
        unfold f12_when_L1 at e3
        refine z_iload_n fx (k := 1) (i := 1) rfl rfl d12_when_15 ?_
        refine z_sipush fx (v := 400) sp400 d12_when_16 ?_
        refine z_icmp_gt fx d12_when_19 (fun c8 => ?_) (fun c8 => ?_)
        · replace e3 := zif_t c8 e3
          cases e3
          exact kx6 _ _ (Eq.symm hl4)
        · replace e3 := zif_f c8 e3
          refine z_aload_n fx (k := 0) (i := 0) rfl rfl d12_when_22 ?_
          obtain ⟨t6, μ7, e9, e3⟩ := zinv2 e3
          refine z_cVr fx (c12_isResting (zLo X) (zDo X) Sh top hO o_ μ3 _ _ ho e9) mv12_isResting ml12_505 ho rfl rfl rfl rfl d12_when_23 ?_
          refine z_ifb_eq fx d12_when_26 (fun c10 => ?_) (fun c10 => ?_)
          · replace e3 := zif_f c10 e3
            refine z_aload_n fx (k := 0) (i := 0) rfl rfl d12_when_31 ?_
            obtain ⟨μ8, e11, e3⟩ := zinv e3
            refine z_cVv fx (c12_steps (zLo X) (zDo X) Sh top hO o_ μ7 _ ho e11) mv12_steps ml12_511 ho rfl rfl rfl rfl d12_when_32 ?_
            obtain ⟨v_n_9, e12, e3⟩ := zinv e3
            replace e12 := Option.some.inj e12
            refine z_iinc fx (i := 1) (x := v_n_2) (v := v_n_9) rfl (by rw [in1]; exact e12) rfl (lv' := [(0, .ref o_), (1, .int v_n_9)]) rfl rfl d12_when_35 ?_
            cases e3
            refine z_goto fx d12_when_38 ?_
            exact ih7 _ _ hl4
          · replace e3 := zif_t c10 e3
            refine z_iload_n fx (k := 1) (i := 1) rfl rfl d12_when_29 ?_
            cases e3
            cases hl4
            cases h
            exact z_ireturn fx fin d12_when_30
    exact klr5 _ _ _ e13
  · replace h := zif_f c1 h
    refine z_iconst fx (v := (-1)) icm1 d12_when_7 ?_
    cases h
    exact z_ireturn fx fin d12_when_8
theorem d12_laysOpenParts_0 : zd cX12_laysOpenParts 0 (.iconst 0) 1 1 := by decide +kernel
theorem d12_laysOpenParts_1 : zd cX12_laysOpenParts 1 (.istore_n 2) 1 2 := by decide +kernel
theorem d12_laysOpenParts_2 : zd cX12_laysOpenParts 2 (.iload_n 2) 1 3 := by decide +kernel
theorem d12_laysOpenParts_3 : zd cX12_laysOpenParts 3 (.bipush 8) 2 5 := by decide +kernel
theorem d12_laysOpenParts_5 : zj cX12_laysOpenParts 5 (.if_icmp .ge 16) 16 8 21 := by decide +kernel
theorem d12_laysOpenParts_8 : zd cX12_laysOpenParts 8 (.aload_n 0) 1 9 := by decide +kernel
theorem d12_laysOpenParts_9 : zd cX12_laysOpenParts 9 (.getfield 163) 3 12 := by decide +kernel
theorem d12_laysOpenParts_12 : zd cX12_laysOpenParts 12 (.iload_n 2) 1 13 := by decide +kernel
theorem d12_laysOpenParts_13 : zd cX12_laysOpenParts 13 (.iload_n 2) 1 14 := by decide +kernel
theorem d12_laysOpenParts_14 : zd cX12_laysOpenParts 14 (.iastore) 1 15 := by decide +kernel
theorem d12_laysOpenParts_15 : zd cX12_laysOpenParts 15 (.iinc 2 1) 3 18 := by decide +kernel
theorem d12_laysOpenParts_18 : zj cX12_laysOpenParts 18 (.goto (-16)) (-16) 21 2 := by decide +kernel
theorem d12_laysOpenParts_21 : zd cX12_laysOpenParts 21 (.iconst 0) 1 22 := by decide +kernel
theorem d12_laysOpenParts_22 : zd cX12_laysOpenParts 22 (.istore_n 2) 1 23 := by decide +kernel
theorem d12_laysOpenParts_23 : zd cX12_laysOpenParts 23 (.iconst 0) 1 24 := by decide +kernel
theorem d12_laysOpenParts_24 : zd cX12_laysOpenParts 24 (.istore_n 3) 1 25 := by decide +kernel
theorem d12_laysOpenParts_25 : zd cX12_laysOpenParts 25 (.iload_n 3) 1 26 := by decide +kernel
theorem d12_laysOpenParts_26 : zd cX12_laysOpenParts 26 (.aload_n 0) 1 27 := by decide +kernel
theorem d12_laysOpenParts_27 : zd cX12_laysOpenParts 27 (.getfield 16) 3 30 := by decide +kernel
theorem d12_laysOpenParts_30 : zj cX12_laysOpenParts 30 (.if_icmp .ge 119) 119 33 149 := by decide +kernel
theorem d12_laysOpenParts_33 : zd cX12_laysOpenParts 33 (.iload_n 3) 1 34 := by decide +kernel
theorem d12_laysOpenParts_34 : zd cX12_laysOpenParts 34 (.iload_n 1) 1 35 := by decide +kernel
theorem d12_laysOpenParts_35 : zj cX12_laysOpenParts 35 (.if_icmp .eq 108) 108 38 143 := by decide +kernel
theorem d12_laysOpenParts_38 : zd cX12_laysOpenParts 38 (.aload_n 0) 1 39 := by decide +kernel
theorem d12_laysOpenParts_39 : zd cX12_laysOpenParts 39 (.iload_n 3) 1 40 := by decide +kernel
theorem d12_laysOpenParts_40 : zd cX12_laysOpenParts 40 (.invokevirtual 462) 3 43 := by decide +kernel
theorem d12_laysOpenParts_43 : zj cX12_laysOpenParts 43 (.ifCond .ne 6) 6 46 49 := by decide +kernel
theorem d12_laysOpenParts_46 : zj cX12_laysOpenParts 46 (.goto 97) 97 49 143 := by decide +kernel
theorem d12_laysOpenParts_49 : zd cX12_laysOpenParts 49 (.aload_n 0) 1 50 := by decide +kernel
theorem d12_laysOpenParts_50 : zd cX12_laysOpenParts 50 (.getfield 163) 3 53 := by decide +kernel
theorem d12_laysOpenParts_53 : zd cX12_laysOpenParts 53 (.aload_n 0) 1 54 := by decide +kernel
theorem d12_laysOpenParts_54 : zd cX12_laysOpenParts 54 (.getfield 38) 3 57 := by decide +kernel
theorem d12_laysOpenParts_57 : zd cX12_laysOpenParts 57 (.iconst 4) 1 58 := by decide +kernel
theorem d12_laysOpenParts_58 : zd cX12_laysOpenParts 58 (.iload_n 3) 1 59 := by decide +kernel
theorem d12_laysOpenParts_59 : zd cX12_laysOpenParts 59 (.imul) 1 60 := by decide +kernel
theorem d12_laysOpenParts_60 : zd cX12_laysOpenParts 60 (.iaload) 1 61 := by decide +kernel
theorem d12_laysOpenParts_61 : zd cX12_laysOpenParts 61 (.iaload) 1 62 := by decide +kernel
theorem d12_laysOpenParts_62 : zd cX12_laysOpenParts 62 (.istore 4) 2 64 := by decide +kernel
theorem d12_laysOpenParts_64 : zd cX12_laysOpenParts 64 (.aload_n 0) 1 65 := by decide +kernel
theorem d12_laysOpenParts_65 : zd cX12_laysOpenParts 65 (.getfield 163) 3 68 := by decide +kernel
theorem d12_laysOpenParts_68 : zd cX12_laysOpenParts 68 (.aload_n 0) 1 69 := by decide +kernel
theorem d12_laysOpenParts_69 : zd cX12_laysOpenParts 69 (.getfield 38) 3 72 := by decide +kernel
theorem d12_laysOpenParts_72 : zd cX12_laysOpenParts 72 (.iconst 4) 1 73 := by decide +kernel
theorem d12_laysOpenParts_73 : zd cX12_laysOpenParts 73 (.iload_n 3) 1 74 := by decide +kernel
theorem d12_laysOpenParts_74 : zd cX12_laysOpenParts 74 (.imul) 1 75 := by decide +kernel
theorem d12_laysOpenParts_75 : zd cX12_laysOpenParts 75 (.iconst 2) 1 76 := by decide +kernel
theorem d12_laysOpenParts_76 : zd cX12_laysOpenParts 76 (.iadd) 1 77 := by decide +kernel
theorem d12_laysOpenParts_77 : zd cX12_laysOpenParts 77 (.iaload) 1 78 := by decide +kernel
theorem d12_laysOpenParts_78 : zd cX12_laysOpenParts 78 (.iaload) 1 79 := by decide +kernel
theorem d12_laysOpenParts_79 : zd cX12_laysOpenParts 79 (.istore 5) 2 81 := by decide +kernel
theorem d12_laysOpenParts_81 : zd cX12_laysOpenParts 81 (.iload_n 2) 1 82 := by decide +kernel
theorem d12_laysOpenParts_82 : zd cX12_laysOpenParts 82 (.iload 4) 2 84 := by decide +kernel
theorem d12_laysOpenParts_84 : zd cX12_laysOpenParts 84 (.iload 5) 2 86 := by decide +kernel
theorem d12_laysOpenParts_86 : zj cX12_laysOpenParts 86 (.if_icmp .ne 7) 7 89 93 := by decide +kernel
theorem d12_laysOpenParts_89 : zd cX12_laysOpenParts 89 (.iconst 1) 1 90 := by decide +kernel
theorem d12_laysOpenParts_90 : zj cX12_laysOpenParts 90 (.goto 4) 4 93 94 := by decide +kernel
theorem d12_laysOpenParts_93 : zd cX12_laysOpenParts 93 (.iconst 0) 1 94 := by decide +kernel
theorem d12_laysOpenParts_94 : zd cX12_laysOpenParts 94 (.iadd) 1 95 := by decide +kernel
theorem d12_laysOpenParts_95 : zd cX12_laysOpenParts 95 (.istore_n 2) 1 96 := by decide +kernel
theorem d12_laysOpenParts_96 : zd cX12_laysOpenParts 96 (.iconst 0) 1 97 := by decide +kernel
theorem d12_laysOpenParts_97 : zd cX12_laysOpenParts 97 (.istore 6) 2 99 := by decide +kernel
theorem d12_laysOpenParts_99 : zd cX12_laysOpenParts 99 (.iload 6) 2 101 := by decide +kernel
theorem d12_laysOpenParts_101 : zd cX12_laysOpenParts 101 (.bipush 8) 2 103 := by decide +kernel
theorem d12_laysOpenParts_103 : zj cX12_laysOpenParts 103 (.if_icmp .ge 40) 40 106 143 := by decide +kernel
theorem d12_laysOpenParts_106 : zd cX12_laysOpenParts 106 (.aload_n 0) 1 107 := by decide +kernel
theorem d12_laysOpenParts_107 : zd cX12_laysOpenParts 107 (.getfield 163) 3 110 := by decide +kernel
theorem d12_laysOpenParts_110 : zd cX12_laysOpenParts 110 (.iload 6) 2 112 := by decide +kernel
theorem d12_laysOpenParts_112 : zd cX12_laysOpenParts 112 (.aload_n 0) 1 113 := by decide +kernel
theorem d12_laysOpenParts_113 : zd cX12_laysOpenParts 113 (.getfield 163) 3 116 := by decide +kernel
theorem d12_laysOpenParts_116 : zd cX12_laysOpenParts 116 (.iload 6) 2 118 := by decide +kernel
theorem d12_laysOpenParts_118 : zd cX12_laysOpenParts 118 (.iaload) 1 119 := by decide +kernel
theorem d12_laysOpenParts_119 : zd cX12_laysOpenParts 119 (.iload 5) 2 121 := by decide +kernel
theorem d12_laysOpenParts_121 : zj cX12_laysOpenParts 121 (.if_icmp .ne 8) 8 124 129 := by decide +kernel
theorem d12_laysOpenParts_124 : zd cX12_laysOpenParts 124 (.iload 4) 2 126 := by decide +kernel
theorem d12_laysOpenParts_126 : zj cX12_laysOpenParts 126 (.goto 10) 10 129 136 := by decide +kernel
theorem d12_laysOpenParts_129 : zd cX12_laysOpenParts 129 (.aload_n 0) 1 130 := by decide +kernel
theorem d12_laysOpenParts_130 : zd cX12_laysOpenParts 130 (.getfield 163) 3 133 := by decide +kernel
theorem d12_laysOpenParts_133 : zd cX12_laysOpenParts 133 (.iload 6) 2 135 := by decide +kernel
theorem d12_laysOpenParts_135 : zd cX12_laysOpenParts 135 (.iaload) 1 136 := by decide +kernel
theorem d12_laysOpenParts_136 : zd cX12_laysOpenParts 136 (.iastore) 1 137 := by decide +kernel
theorem d12_laysOpenParts_137 : zd cX12_laysOpenParts 137 (.iinc 6 1) 3 140 := by decide +kernel
theorem d12_laysOpenParts_140 : zj cX12_laysOpenParts 140 (.goto (-41)) (-41) 143 99 := by decide +kernel
theorem d12_laysOpenParts_143 : zd cX12_laysOpenParts 143 (.iinc 3 1) 3 146 := by decide +kernel
theorem d12_laysOpenParts_146 : zj cX12_laysOpenParts 146 (.goto (-121)) (-121) 149 25 := by decide +kernel
theorem d12_laysOpenParts_149 : zd cX12_laysOpenParts 149 (.iload_n 2) 1 150 := by decide +kernel
theorem d12_laysOpenParts_150 : zd cX12_laysOpenParts 150 (.ireturn) 1 151 := by decide +kernel
set_option maxHeartbeats 4000000 in
set_option maxRecDepth 20000 in
theorem c12_laysOpenParts (l : Launch) (D : zDt) (Sh : zSh) (top : Nat) (hO : zOK Sh) (o_ : Nat) (v_without : Int32) (μ : zM) (r_ : Int32) (μ_ : zM) (ho : (Sh o_).1 = 19) (h : f12_laysOpenParts o_ v_without μ = some (r_, μ_)) : zMet l D zK1 yX12_laysOpenParts cX12_laysOpenParts 7 (some .int) (zrm 3 64) [.ref o_, .int v_without] Sh top μ (some (.int r_)) Sh top μ_ 0 0 := by
  refine zMet_of (by decide) (Nat.le_of_ble_eq_true rfl) fun X hX1 hX2 fx fin => ?_
  subst hX1; subst hX2
  replace fx : zFix X cX12_laysOpenParts RX12 (zrm 3 64) 7 := fx
  show zZ zK1 X (zT0 Sh top) μ 0 [(0, .ref o_), (1, .int v_without)] []
  unfold f12_laysOpenParts at h
  refine z_iconst fx (v := 0) ic0 d12_laysOpenParts_0 ?_
  refine z_istore_n fx (k := 2) (i := 2) rfl rfl (lv' := [(0, .ref o_), (1, .int v_without), (2, .int 0)]) rfl rfl d12_laysOpenParts_1 ?_
  obtain ⟨v_b_3, μ4, e45, h⟩ := zinv2 h
  have kx4 : zZ zK1 X (zT0 Sh top) μ4 21 [(0, .ref o_), (1, .int v_without), (2, .int v_b_3)] [] := by
    refine z_take 2 (lv' := [(0, .ref o_), (1, .int v_without)]) rfl ?_
    refine z_iconst fx (v := 0) ic0 d12_laysOpenParts_21 ?_
    refine z_istore_n fx (k := 2) (i := 2) rfl rfl (lv' := [(0, .ref o_), (1, .int v_without), (2, .int 0)]) rfl rfl d12_laysOpenParts_22 ?_
    refine z_iconst fx (v := 0) ic0 d12_laysOpenParts_23 ?_
    refine z_istore_n fx (k := 3) (i := 3) rfl rfl (lv' := [(0, .ref o_), (1, .int v_without), (2, .int 0), (3, .int 0)]) rfl rfl d12_laysOpenParts_24 ?_
    obtain ⟨v_more_10, v_l_11, μ12, e44, h⟩ := zinv3 h
    have kx12 : zZ zK1 X (zT0 Sh top) μ12 149 [(0, .ref o_), (1, .int v_without), (2, .int v_more_10), (3, .int v_l_11)] [] := by
      refine z_take 3 (lv' := [(0, .ref o_), (1, .int v_without), (2, .int v_more_10)]) rfl ?_
      refine z_iload_n fx (k := 2) (i := 2) rfl rfl d12_laysOpenParts_149 ?_
      cases h
      exact z_ireturn fx fin d12_laysOpenParts_150
    clear h
    have klr11 : ∀ (n : Nat) (v_more_7 : Int32) (v_l_8 : Int32) (μ9 : zM), zloop (fun s => f12_laysOpenParts_L2 o_ v_without s.1 s.2.1 s.2.2) n (v_more_7, v_l_8, μ9) = some (v_more_10, v_l_11, μ12) → zZ zK1 X (zT0 Sh top) μ9 25 [(0, .ref o_), (1, .int v_without), (2, .int v_more_7), (3, .int v_l_8)] [] := by
      intro n
      induction n with
      | zero => intro v_more_7 v_l_8 μ9 hl10; cases hl10
      | succ n ih13 =>
        intro v_more_7 v_l_8 μ9 hl10
        obtain ⟨y, e9, hl10⟩ := zloop_inv hl10
        replace e9 : f12_laysOpenParts_L2 o_ v_without v_more_7 v_l_8 μ9 = some y := e9
        unfold f12_laysOpenParts_L2 at e9
        refine z_iload_n fx (k := 3) (i := 3) rfl rfl d12_laysOpenParts_25 ?_
        refine z_aload_n fx (k := 0) (i := 0) rfl rfl d12_laysOpenParts_26 ?_
        refine z_getI fx 12 2 1202 ho lf12_16 ⟨fk12_2, rfl⟩ d12_laysOpenParts_27 ?_
        refine z_icmp_ge fx d12_laysOpenParts_30 (fun c14 => ?_) (fun c14 => ?_)
        · replace e9 := zif_f c14 e9
          cases e9
          cases hl10
          exact kx12
        · replace e9 := zif_t c14 e9
          obtain ⟨b13, e16, e9⟩ := zinv e9
          have kt15 : b13 = true → zZ zK1 X (zT0 Sh top) μ9 143 [(0, .ref o_), (1, .int v_without), (2, .int v_more_7), (3, .int v_l_8)] [] := by
            intro hc
            replace e9 := zif_t hc e9
            obtain ⟨v_l_14, e17, e9⟩ := zinv e9
            replace e17 := Option.some.inj e17
            refine z_iinc fx (i := 3) (x := v_l_8) (v := v_l_14) rfl (by rw [in1]; exact e17) rfl (lv' := [(0, .ref o_), (1, .int v_without), (2, .int v_more_7), (3, .int v_l_14)]) rfl rfl d12_laysOpenParts_143 ?_
            cases e9
            refine z_goto fx d12_laysOpenParts_146 ?_
            exact ih13 _ _ _ hl10
          have kf15 : b13 = false → zZ zK1 X (zT0 Sh top) μ9 49 [(0, .ref o_), (1, .int v_without), (2, .int v_more_7), (3, .int v_l_8)] [] := by
            intro hc
            replace e9 := zif_f hc e9
            refine z_aload_n fx (k := 0) (i := 0) rfl rfl d12_laysOpenParts_49 ?_
            refine z_getO fx 12 50 29 ho lf12_163 fk12_50 d12_laysOpenParts_50 ?_
            refine z_aload_n fx (k := 0) (i := 0) rfl rfl d12_laysOpenParts_53 ?_
            refine z_getO fx 12 9 4 ho lf12_38 fk12_9 d12_laysOpenParts_54 ?_
            refine z_iconst fx (v := 4) ic4 d12_laysOpenParts_57 ?_
            refine z_iload_n fx (k := 3) (i := 3) rfl rfl d12_laysOpenParts_58 ?_
            refine z_imul fx d12_laysOpenParts_59 ?_
            obtain ⟨t15, e18, e9⟩ := zinv e9
            refine z_iald fx (ok12_9 hO ho) e18 d12_laysOpenParts_60 ?_
            obtain ⟨t16, e19, e9⟩ := zinv e9
            refine z_iald fx (ok12_50 hO ho) e19 d12_laysOpenParts_61 ?_
            refine z_istore fx (i := 4) rfl (lv' := [(0, .ref o_), (1, .int v_without), (2, .int v_more_7), (3, .int v_l_8), (4, .int t16)]) rfl rfl d12_laysOpenParts_62 ?_
            refine z_aload_n fx (k := 0) (i := 0) rfl rfl d12_laysOpenParts_64 ?_
            refine z_getO fx 12 50 29 ho lf12_163 fk12_50 d12_laysOpenParts_65 ?_
            refine z_aload_n fx (k := 0) (i := 0) rfl rfl d12_laysOpenParts_68 ?_
            refine z_getO fx 12 9 4 ho lf12_38 fk12_9 d12_laysOpenParts_69 ?_
            refine z_iconst fx (v := 4) ic4 d12_laysOpenParts_72 ?_
            refine z_iload_n fx (k := 3) (i := 3) rfl rfl d12_laysOpenParts_73 ?_
            refine z_imul fx d12_laysOpenParts_74 ?_
            refine z_iconst fx (v := 2) ic2 d12_laysOpenParts_75 ?_
            refine z_iadd fx d12_laysOpenParts_76 ?_
            obtain ⟨t17, e20, e9⟩ := zinv e9
            refine z_iald fx (ok12_9 hO ho) e20 d12_laysOpenParts_77 ?_
            obtain ⟨t18, e21, e9⟩ := zinv e9
            refine z_iald fx (ok12_50 hO ho) e21 d12_laysOpenParts_78 ?_
            refine z_istore fx (i := 5) rfl (lv' := [(0, .ref o_), (1, .int v_without), (2, .int v_more_7), (3, .int v_l_8), (4, .int t16), (5, .int t18)]) rfl rfl d12_laysOpenParts_79 ?_
            refine z_iload_n fx (k := 2) (i := 2) rfl rfl d12_laysOpenParts_81 ?_
            obtain ⟨x19, e22, e9⟩ := zinv e9
            have k23 : zZ zK1 X (zT0 Sh top) μ9 94 [(0, .ref o_), (1, .int v_without), (2, .int v_more_7), (3, .int v_l_8), (4, .int t16), (5, .int t18)] [.int x19, .int v_more_7] := by
              refine z_iadd fx d12_laysOpenParts_94 ?_
              obtain ⟨v_more_20, e25, e9⟩ := zinv e9
              replace e25 := Option.some.inj e25
              refine z_top (congrArg Value.int e25) ?_
              refine z_istore_n fx (k := 2) (i := 2) rfl rfl (lv' := [(0, .ref o_), (1, .int v_without), (2, .int v_more_20), (3, .int v_l_8), (4, .int t16), (5, .int t18)]) rfl rfl d12_laysOpenParts_95 ?_
              refine z_iconst fx (v := 0) ic0 d12_laysOpenParts_96 ?_
              refine z_istore fx (i := 6) rfl (lv' := [(0, .ref o_), (1, .int v_without), (2, .int v_more_20), (3, .int v_l_8), (4, .int t16), (5, .int t18), (6, .int 0)]) rfl rfl d12_laysOpenParts_97 ?_
              obtain ⟨v_k_23, μ24, e40, e9⟩ := zinv2 e9
              have kx29 : zZ zK1 X (zT0 Sh top) μ24 143 [(0, .ref o_), (1, .int v_without), (2, .int v_more_20), (3, .int v_l_8), (4, .int t16), (5, .int t18), (6, .int v_k_23)] [] := by
                refine z_take 6 (lv' := [(0, .ref o_), (1, .int v_without), (2, .int v_more_20), (3, .int v_l_8), (4, .int t16), (5, .int t18)]) rfl ?_
                refine z_take 4 (lv' := [(0, .ref o_), (1, .int v_without), (2, .int v_more_20), (3, .int v_l_8)]) rfl ?_
                obtain ⟨v_l_30, e39, e9⟩ := zinv e9
                replace e39 := Option.some.inj e39
                refine z_iinc fx (i := 3) (x := v_l_8) (v := v_l_30) rfl (by rw [in1]; exact e39) rfl (lv' := [(0, .ref o_), (1, .int v_without), (2, .int v_more_20), (3, .int v_l_30)]) rfl rfl d12_laysOpenParts_143 ?_
                cases e9
                refine z_goto fx d12_laysOpenParts_146 ?_
                exact ih13 _ _ _ hl10
              clear e9
              have klr28 : ∀ (n : Nat) (v_k_21 : Int32) (μ22 : zM), zloop (fun s => f12_laysOpenParts_L3 o_ t16 t18 s.1 s.2) n (v_k_21, μ22) = some (v_k_23, μ24) → zZ zK1 X (zT0 Sh top) μ22 99 [(0, .ref o_), (1, .int v_without), (2, .int v_more_20), (3, .int v_l_8), (4, .int t16), (5, .int t18), (6, .int v_k_21)] [] := by
                intro n
                induction n with
                | zero => intro v_k_21 μ22 hl27; cases hl27
                | succ n ih30 =>
                  intro v_k_21 μ22 hl27
                  obtain ⟨y, e26, hl27⟩ := zloop_inv hl27
                  replace e26 : f12_laysOpenParts_L3 o_ t16 t18 v_k_21 μ22 = some y := e26
                  unfold f12_laysOpenParts_L3 at e26
                  refine z_iload fx (i := 6) rfl d12_laysOpenParts_99 ?_
                  refine z_bipush fx (v := 8) bp8 d12_laysOpenParts_101 ?_
                  refine z_icmp_ge fx d12_laysOpenParts_103 (fun c31 => ?_) (fun c31 => ?_)
                  · replace e26 := zif_f c31 e26
                    cases e26
                    cases hl27
                    exact kx29
                  · replace e26 := zif_t c31 e26
                    refine z_aload_n fx (k := 0) (i := 0) rfl rfl d12_laysOpenParts_106 ?_
                    refine z_getO fx 12 50 29 ho lf12_163 fk12_50 d12_laysOpenParts_107 ?_
                    refine z_iload fx (i := 6) rfl d12_laysOpenParts_110 ?_
                    obtain ⟨x25, e32, e26⟩ := zinv e26
                    have k33 : zZ zK1 X (zT0 Sh top) μ22 136 [(0, .ref o_), (1, .int v_without), (2, .int v_more_20), (3, .int v_l_8), (4, .int t16), (5, .int t18), (6, .int v_k_21)] [.int x25, .int v_k_21, .ref (o_ + 29)] := by
                      obtain ⟨μ28, e37, e26⟩ := zinv e26
                      refine z_iast fx (ok12_50 hO ho) e37 d12_laysOpenParts_136 ?_
                      obtain ⟨v_k_29, e38, e26⟩ := zinv e26
                      replace e38 := Option.some.inj e38
                      refine z_iinc fx (i := 6) (x := v_k_21) (v := v_k_29) rfl (by rw [in1]; exact e38) rfl (lv' := [(0, .ref o_), (1, .int v_without), (2, .int v_more_20), (3, .int v_l_8), (4, .int t16), (5, .int t18), (6, .int v_k_29)]) rfl rfl d12_laysOpenParts_137 ?_
                      cases e26
                      refine z_goto fx d12_laysOpenParts_140 ?_
                      exact ih30 _ _ hl27
                    refine z_aload_n fx (k := 0) (i := 0) rfl rfl d12_laysOpenParts_112 ?_
                    refine z_getO fx 12 50 29 ho lf12_163 fk12_50 d12_laysOpenParts_113 ?_
                    refine z_iload fx (i := 6) rfl d12_laysOpenParts_116 ?_
                    obtain ⟨t26, e34, e32⟩ := zinv e32
                    refine z_iald fx (ok12_50 hO ho) e34 d12_laysOpenParts_118 ?_
                    refine z_iload fx (i := 5) rfl d12_laysOpenParts_119 ?_
                    refine z_icmp_ne fx d12_laysOpenParts_121 (fun c35 => ?_) (fun c35 => ?_)
                    · replace e32 := zif_f c35 e32
                      refine z_aload_n fx (k := 0) (i := 0) rfl rfl d12_laysOpenParts_129 ?_
                      refine z_getO fx 12 50 29 ho lf12_163 fk12_50 d12_laysOpenParts_130 ?_
                      refine z_iload fx (i := 6) rfl d12_laysOpenParts_133 ?_
                      obtain ⟨t27, e36, e32⟩ := zinv e32
                      refine z_iald fx (ok12_50 hO ho) e36 d12_laysOpenParts_135 ?_
                      cases e32
                      exact k33
                    · replace e32 := zif_t c35 e32
                      refine z_iload fx (i := 4) rfl d12_laysOpenParts_124 ?_
                      cases e32
                      refine z_goto fx d12_laysOpenParts_126 ?_
                      exact k33
              exact klr28 _ _ _ e40
            refine z_iload fx (i := 4) rfl d12_laysOpenParts_82 ?_
            refine z_iload fx (i := 5) rfl d12_laysOpenParts_84 ?_
            refine z_icmp_ne fx d12_laysOpenParts_86 (fun c24 => ?_) (fun c24 => ?_)
            · replace e22 := zif_f c24 e22
              refine z_iconst fx (v := 0) ic0 d12_laysOpenParts_93 ?_
              cases e22
              exact k23
            · replace e22 := zif_t c24 e22
              refine z_iconst fx (v := 1) ic1 d12_laysOpenParts_89 ?_
              cases e22
              refine z_goto fx d12_laysOpenParts_90 ?_
              exact k23
          clear e9
          refine z_iload_n fx (k := 3) (i := 3) rfl rfl d12_laysOpenParts_33 ?_
          refine z_iload_n fx (k := 1) (i := 1) rfl rfl d12_laysOpenParts_34 ?_
          refine z_icmp_eq fx d12_laysOpenParts_35 (fun c41 => ?_) (fun c41 => ?_)
          · replace e16 := zif_t c41 e16
            cases e16
            exact kt15 rfl
          · replace e16 := zif_f c41 e16
            refine z_aload_n fx (k := 0) (i := 0) rfl rfl d12_laysOpenParts_38 ?_
            refine z_iload_n fx (k := 3) (i := 3) rfl rfl d12_laysOpenParts_39 ?_
            obtain ⟨t31, e42, e16⟩ := zinv e16
            refine z_cVr fx (c12_isOpenLink (zLo X) (zDo X) Sh top hO o_ v_l_8 μ9 _ ho e42) mv12_isOpenLink ml12_462 ho rfl rfl rfl rfl d12_laysOpenParts_40 ?_
            cases e16
            refine z_ifb_ne fx d12_laysOpenParts_43 (fun c43 => ?_) (fun c43 => ?_)
            · exact kf15 (by rw [c43]; rfl)
            · refine z_goto fx d12_laysOpenParts_46 ?_
              exact kt15 (by rw [c43]; rfl)
    exact klr11 _ _ _ _ e44
  clear h
  have klr3 : ∀ (n : Nat) (v_b_1 : Int32) (μ2 : zM), zloop (fun s => f12_laysOpenParts_L1 o_ s.1 s.2) n (v_b_1, μ2) = some (v_b_3, μ4) → zZ zK1 X (zT0 Sh top) μ2 2 [(0, .ref o_), (1, .int v_without), (2, .int v_b_1)] [] := by
    intro n
    induction n with
    | zero => intro v_b_1 μ2 hl2; cases hl2
    | succ n ih5 =>
      intro v_b_1 μ2 hl2
      obtain ⟨y, e1, hl2⟩ := zloop_inv hl2
      replace e1 : f12_laysOpenParts_L1 o_ v_b_1 μ2 = some y := e1
      unfold f12_laysOpenParts_L1 at e1
      refine z_iload_n fx (k := 2) (i := 2) rfl rfl d12_laysOpenParts_2 ?_
      refine z_bipush fx (v := 8) bp8 d12_laysOpenParts_3 ?_
      refine z_icmp_ge fx d12_laysOpenParts_5 (fun c6 => ?_) (fun c6 => ?_)
      · replace e1 := zif_f c6 e1
        cases e1
        cases hl2
        exact kx4
      · replace e1 := zif_t c6 e1
        refine z_aload_n fx (k := 0) (i := 0) rfl rfl d12_laysOpenParts_8 ?_
        refine z_getO fx 12 50 29 ho lf12_163 fk12_50 d12_laysOpenParts_9 ?_
        refine z_iload_n fx (k := 2) (i := 2) rfl rfl d12_laysOpenParts_12 ?_
        refine z_iload_n fx (k := 2) (i := 2) rfl rfl d12_laysOpenParts_13 ?_
        obtain ⟨μ5, e7, e1⟩ := zinv e1
        refine z_iast fx (ok12_50 hO ho) e7 d12_laysOpenParts_14 ?_
        obtain ⟨v_b_6, e8, e1⟩ := zinv e1
        replace e8 := Option.some.inj e8
        refine z_iinc fx (i := 2) (x := v_b_1) (v := v_b_6) rfl (by rw [in1]; exact e8) rfl (lv' := [(0, .ref o_), (1, .int v_without), (2, .int v_b_6)]) rfl rfl d12_laysOpenParts_15 ?_
        cases e1
        refine z_goto fx d12_laysOpenParts_18 ?_
        exact ih5 _ _ hl2
  exact klr3 _ _ _ e45
theorem d12_ringBridge_0 : zd cX12_ringBridge 0 (.iconst 0) 1 1 := by decide +kernel
theorem d12_ringBridge_1 : zd cX12_ringBridge 1 (.istore_n 1) 1 2 := by decide +kernel
theorem d12_ringBridge_2 : zd cX12_ringBridge 2 (.iload_n 1) 1 3 := by decide +kernel
theorem d12_ringBridge_3 : zd cX12_ringBridge 3 (.aload_n 0) 1 4 := by decide +kernel
theorem d12_ringBridge_4 : zd cX12_ringBridge 4 (.getfield 13) 3 7 := by decide +kernel
theorem d12_ringBridge_7 : zj cX12_ringBridge 7 (.if_icmp .ge 101) 101 10 108 := by decide +kernel
theorem d12_ringBridge_10 : zd cX12_ringBridge 10 (.iconst 0) 1 11 := by decide +kernel
theorem d12_ringBridge_11 : zd cX12_ringBridge 11 (.istore_n 2) 1 12 := by decide +kernel
theorem d12_ringBridge_12 : zd cX12_ringBridge 12 (.iload_n 2) 1 13 := by decide +kernel
theorem d12_ringBridge_13 : zd cX12_ringBridge 13 (.aload_n 0) 1 14 := by decide +kernel
theorem d12_ringBridge_14 : zd cX12_ringBridge 14 (.getfield 16) 3 17 := by decide +kernel
theorem d12_ringBridge_17 : zj cX12_ringBridge 17 (.if_icmp .ge 85) 85 20 102 := by decide +kernel
theorem d12_ringBridge_20 : zd cX12_ringBridge 20 (.aload_n 0) 1 21 := by decide +kernel
theorem d12_ringBridge_21 : zd cX12_ringBridge 21 (.iload_n 2) 1 22 := by decide +kernel
theorem d12_ringBridge_22 : zd cX12_ringBridge 22 (.invokevirtual 462) 3 25 := by decide +kernel
theorem d12_ringBridge_25 : zj cX12_ringBridge 25 (.ifCond .eq 71) 71 28 96 := by decide +kernel
theorem d12_ringBridge_28 : zd cX12_ringBridge 28 (.aload_n 0) 1 29 := by decide +kernel
theorem d12_ringBridge_29 : zd cX12_ringBridge 29 (.getfield 38) 3 32 := by decide +kernel
theorem d12_ringBridge_32 : zd cX12_ringBridge 32 (.iconst 4) 1 33 := by decide +kernel
theorem d12_ringBridge_33 : zd cX12_ringBridge 33 (.iload_n 2) 1 34 := by decide +kernel
theorem d12_ringBridge_34 : zd cX12_ringBridge 34 (.imul) 1 35 := by decide +kernel
theorem d12_ringBridge_35 : zd cX12_ringBridge 35 (.iaload) 1 36 := by decide +kernel
theorem d12_ringBridge_36 : zd cX12_ringBridge 36 (.iload_n 1) 1 37 := by decide +kernel
theorem d12_ringBridge_37 : zj cX12_ringBridge 37 (.if_icmp .eq 20) 20 40 57 := by decide +kernel
theorem d12_ringBridge_40 : zd cX12_ringBridge 40 (.aload_n 0) 1 41 := by decide +kernel
theorem d12_ringBridge_41 : zd cX12_ringBridge 41 (.getfield 38) 3 44 := by decide +kernel
theorem d12_ringBridge_44 : zd cX12_ringBridge 44 (.iconst 4) 1 45 := by decide +kernel
theorem d12_ringBridge_45 : zd cX12_ringBridge 45 (.iload_n 2) 1 46 := by decide +kernel
theorem d12_ringBridge_46 : zd cX12_ringBridge 46 (.imul) 1 47 := by decide +kernel
theorem d12_ringBridge_47 : zd cX12_ringBridge 47 (.iconst 2) 1 48 := by decide +kernel
theorem d12_ringBridge_48 : zd cX12_ringBridge 48 (.iadd) 1 49 := by decide +kernel
theorem d12_ringBridge_49 : zd cX12_ringBridge 49 (.iaload) 1 50 := by decide +kernel
theorem d12_ringBridge_50 : zd cX12_ringBridge 50 (.iload_n 1) 1 51 := by decide +kernel
theorem d12_ringBridge_51 : zj cX12_ringBridge 51 (.if_icmp .eq 6) 6 54 57 := by decide +kernel
theorem d12_ringBridge_54 : zj cX12_ringBridge 54 (.goto 42) 42 57 96 := by decide +kernel
theorem d12_ringBridge_57 : zd cX12_ringBridge 57 (.aload_n 0) 1 58 := by decide +kernel
theorem d12_ringBridge_58 : zd cX12_ringBridge 58 (.iload_n 2) 1 59 := by decide +kernel
theorem d12_ringBridge_59 : zd cX12_ringBridge 59 (.invokevirtual 514) 3 62 := by decide +kernel
theorem d12_ringBridge_62 : zd cX12_ringBridge 62 (.pop) 1 63 := by decide +kernel
theorem d12_ringBridge_63 : zd cX12_ringBridge 63 (.aload_n 0) 1 64 := by decide +kernel
theorem d12_ringBridge_64 : zd cX12_ringBridge 64 (.getfield 163) 3 67 := by decide +kernel
theorem d12_ringBridge_67 : zd cX12_ringBridge 67 (.aload_n 0) 1 68 := by decide +kernel
theorem d12_ringBridge_68 : zd cX12_ringBridge 68 (.getfield 38) 3 71 := by decide +kernel
theorem d12_ringBridge_71 : zd cX12_ringBridge 71 (.iconst 4) 1 72 := by decide +kernel
theorem d12_ringBridge_72 : zd cX12_ringBridge 72 (.iload_n 2) 1 73 := by decide +kernel
theorem d12_ringBridge_73 : zd cX12_ringBridge 73 (.imul) 1 74 := by decide +kernel
theorem d12_ringBridge_74 : zd cX12_ringBridge 74 (.iaload) 1 75 := by decide +kernel
theorem d12_ringBridge_75 : zd cX12_ringBridge 75 (.iaload) 1 76 := by decide +kernel
theorem d12_ringBridge_76 : zd cX12_ringBridge 76 (.aload_n 0) 1 77 := by decide +kernel
theorem d12_ringBridge_77 : zd cX12_ringBridge 77 (.getfield 163) 3 80 := by decide +kernel
theorem d12_ringBridge_80 : zd cX12_ringBridge 80 (.aload_n 0) 1 81 := by decide +kernel
theorem d12_ringBridge_81 : zd cX12_ringBridge 81 (.getfield 38) 3 84 := by decide +kernel
theorem d12_ringBridge_84 : zd cX12_ringBridge 84 (.iconst 4) 1 85 := by decide +kernel
theorem d12_ringBridge_85 : zd cX12_ringBridge 85 (.iload_n 2) 1 86 := by decide +kernel
theorem d12_ringBridge_86 : zd cX12_ringBridge 86 (.imul) 1 87 := by decide +kernel
theorem d12_ringBridge_87 : zd cX12_ringBridge 87 (.iconst 2) 1 88 := by decide +kernel
theorem d12_ringBridge_88 : zd cX12_ringBridge 88 (.iadd) 1 89 := by decide +kernel
theorem d12_ringBridge_89 : zd cX12_ringBridge 89 (.iaload) 1 90 := by decide +kernel
theorem d12_ringBridge_90 : zd cX12_ringBridge 90 (.iaload) 1 91 := by decide +kernel
theorem d12_ringBridge_91 : zj cX12_ringBridge 91 (.if_icmp .ne 5) 5 94 96 := by decide +kernel
theorem d12_ringBridge_94 : zd cX12_ringBridge 94 (.iload_n 1) 1 95 := by decide +kernel
theorem d12_ringBridge_95 : zd cX12_ringBridge 95 (.ireturn) 1 96 := by decide +kernel
theorem d12_ringBridge_96 : zd cX12_ringBridge 96 (.iinc 2 1) 3 99 := by decide +kernel
theorem d12_ringBridge_99 : zj cX12_ringBridge 99 (.goto (-87)) (-87) 102 12 := by decide +kernel
theorem d12_ringBridge_102 : zd cX12_ringBridge 102 (.iinc 1 1) 3 105 := by decide +kernel
theorem d12_ringBridge_105 : zj cX12_ringBridge 105 (.goto (-103)) (-103) 108 2 := by decide +kernel
theorem d12_ringBridge_108 : zd cX12_ringBridge 108 (.iconst (-1)) 1 109 := by decide +kernel
theorem d12_ringBridge_109 : zd cX12_ringBridge 109 (.ireturn) 1 110 := by decide +kernel
set_option maxHeartbeats 4000000 in
set_option maxRecDepth 20000 in
theorem c12_ringBridge (l : Launch) (D : zDt) (Sh : zSh) (top : Nat) (hO : zOK Sh) (o_ : Nat) (μ : zM) (r_ : Int32) (μ_ : zM) (ho : (Sh o_).1 = 19) (h : f12_ringBridge o_ μ = some (r_, μ_)) : zMet l D zK1 yX12_ringBridge cX12_ringBridge 3 (some .int) (zrm 4 90) [.ref o_] Sh top μ (some (.int r_)) Sh top μ_ 0 0 := by
  refine zMet_of (by decide) (Nat.le_of_ble_eq_true rfl) fun X hX1 hX2 fx fin => ?_
  subst hX1; subst hX2
  replace fx : zFix X cX12_ringBridge RX12 (zrm 4 90) 3 := fx
  show zZ zK1 X (zT0 Sh top) μ 0 [(0, .ref o_)] []
  unfold f12_ringBridge at h
  refine z_iconst fx (v := 0) ic0 d12_ringBridge_0 ?_
  refine z_istore_n fx (k := 1) (i := 1) rfl rfl (lv' := [(0, .ref o_), (1, .int 0)]) rfl rfl d12_ringBridge_1 ?_
  obtain ⟨r3, e35, h⟩ := zinv h
  have kx4 : ∀ (v_b_3 : Int32) (μ4 : zM), r3 = .inr (v_b_3, μ4) → zZ zK1 X (zT0 Sh top) μ4 108 [(0, .ref o_), (1, .int v_b_3)] [] := by
    intro v_b_3 μ4 hr
    subst hr
    replace h := zel2 h
    refine z_take 1 (lv' := [(0, .ref o_)]) rfl ?_
    refine z_iconst fx (v := (-1)) icm1 d12_ringBridge_108 ?_
    cases h
    exact z_ireturn fx fin d12_ringBridge_109
  have klr3 : ∀ (n : Nat) (v_b_1 : Int32) (μ2 : zM), zloop (fun s => f12_ringBridge_L1 o_ s.1 s.2) n (v_b_1, μ2) = some r3 → zZ zK1 X (zT0 Sh top) μ2 2 [(0, .ref o_), (1, .int v_b_1)] [] := by
    intro n
    induction n with
    | zero => intro v_b_1 μ2 hl2; cases hl2
    | succ n ih5 =>
      intro v_b_1 μ2 hl2
      obtain ⟨y, e1, hl2⟩ := zloop_inv hl2
      replace e1 : f12_ringBridge_L1 o_ v_b_1 μ2 = some y := e1
      unfold f12_ringBridge_L1 at e1
      refine z_iload_n fx (k := 1) (i := 1) rfl rfl d12_ringBridge_2 ?_
      refine z_aload_n fx (k := 0) (i := 0) rfl rfl d12_ringBridge_3 ?_
      refine z_getI fx 12 1 1201 ho lf12_13 ⟨fk12_1, rfl⟩ d12_ringBridge_4 ?_
      refine z_icmp_ge fx d12_ringBridge_7 (fun c6 => ?_) (fun c6 => ?_)
      · replace e1 := zif_f c6 e1
        cases e1
        exact kx4 _ _ (Eq.symm hl2)
      · replace e1 := zif_t c6 e1
        refine z_iconst fx (v := 0) ic0 d12_ringBridge_10 ?_
        refine z_istore_n fx (k := 2) (i := 2) rfl rfl (lv' := [(0, .ref o_), (1, .int v_b_1), (2, .int 0)]) rfl rfl d12_ringBridge_11 ?_
        obtain ⟨r9, e34, e1⟩ := zinv e1
        have kx10 : ∀ (v_l_7 : Int32) (μ8 : zM), r9 = .inr (v_l_7, μ8) → zZ zK1 X (zT0 Sh top) μ8 102 [(0, .ref o_), (1, .int v_b_1), (2, .int v_l_7)] [] := by
          intro v_l_7 μ8 hr
          subst hr
          replace e1 := zel2 e1
          refine z_take 2 (lv' := [(0, .ref o_), (1, .int v_b_1)]) rfl ?_
          obtain ⟨v_b_23, e33, e1⟩ := zinv e1
          replace e33 := Option.some.inj e33
          refine z_iinc fx (i := 1) (x := v_b_1) (v := v_b_23) rfl (by rw [in1]; exact e33) rfl (lv' := [(0, .ref o_), (1, .int v_b_23)]) rfl rfl d12_ringBridge_102 ?_
          cases e1
          refine z_goto fx d12_ringBridge_105 ?_
          exact ih5 _ _ hl2
        have klr9 : ∀ (n : Nat) (v_l_5 : Int32) (μ6 : zM), zloop (fun s => f12_ringBridge_L2 o_ v_b_1 s.1 s.2) n (v_l_5, μ6) = some r9 → zZ zK1 X (zT0 Sh top) μ6 12 [(0, .ref o_), (1, .int v_b_1), (2, .int v_l_5)] [] := by
          intro n
          induction n with
          | zero => intro v_l_5 μ6 hl8; cases hl8
          | succ n ih11 =>
            intro v_l_5 μ6 hl8
            obtain ⟨y, e7, hl8⟩ := zloop_inv hl8
            replace e7 : f12_ringBridge_L2 o_ v_b_1 v_l_5 μ6 = some y := e7
            unfold f12_ringBridge_L2 at e7
            refine z_iload_n fx (k := 2) (i := 2) rfl rfl d12_ringBridge_12 ?_
            refine z_aload_n fx (k := 0) (i := 0) rfl rfl d12_ringBridge_13 ?_
            refine z_getI fx 12 2 1202 ho lf12_16 ⟨fk12_2, rfl⟩ d12_ringBridge_14 ?_
            refine z_icmp_ge fx d12_ringBridge_17 (fun c12 => ?_) (fun c12 => ?_)
            · replace e7 := zif_f c12 e7
              cases e7
              exact kx10 _ _ (Eq.symm hl8)
            · replace e7 := zif_t c12 e7
              obtain ⟨b9, e14, e7⟩ := zinv e7
              have kt13 : b9 = true → zZ zK1 X (zT0 Sh top) μ6 96 [(0, .ref o_), (1, .int v_b_1), (2, .int v_l_5)] [] := by
                intro hc
                replace e7 := zif_t hc e7
                obtain ⟨v_l_10, e15, e7⟩ := zinv e7
                replace e15 := Option.some.inj e15
                refine z_iinc fx (i := 2) (x := v_l_5) (v := v_l_10) rfl (by rw [in1]; exact e15) rfl (lv' := [(0, .ref o_), (1, .int v_b_1), (2, .int v_l_10)]) rfl rfl d12_ringBridge_96 ?_
                cases e7
                refine z_goto fx d12_ringBridge_99 ?_
                exact ih11 _ _ hl8
              have kf13 : b9 = false → zZ zK1 X (zT0 Sh top) μ6 57 [(0, .ref o_), (1, .int v_b_1), (2, .int v_l_5)] [] := by
                intro hc
                replace e7 := zif_f hc e7
                refine z_aload_n fx (k := 0) (i := 0) rfl rfl d12_ringBridge_57 ?_
                refine z_iload_n fx (k := 2) (i := 2) rfl rfl d12_ringBridge_58 ?_
                obtain ⟨t11, μ12, e16, e7⟩ := zinv2 e7
                refine z_cVr fx (c12_laysOpenParts (zLo X) (zDo X) Sh top hO o_ v_l_5 μ6 _ _ ho e16) mv12_laysOpenParts ml12_514 ho rfl rfl rfl rfl d12_ringBridge_59 ?_
                refine z_pop fx rfl d12_ringBridge_62 ?_
                refine z_aload_n fx (k := 0) (i := 0) rfl rfl d12_ringBridge_63 ?_
                refine z_getO fx 12 50 29 ho lf12_163 fk12_50 d12_ringBridge_64 ?_
                refine z_aload_n fx (k := 0) (i := 0) rfl rfl d12_ringBridge_67 ?_
                refine z_getO fx 12 9 4 ho lf12_38 fk12_9 d12_ringBridge_68 ?_
                refine z_iconst fx (v := 4) ic4 d12_ringBridge_71 ?_
                refine z_iload_n fx (k := 2) (i := 2) rfl rfl d12_ringBridge_72 ?_
                refine z_imul fx d12_ringBridge_73 ?_
                obtain ⟨t13, e17, e7⟩ := zinv e7
                refine z_iald fx (ok12_9 hO ho) e17 d12_ringBridge_74 ?_
                obtain ⟨t14, e18, e7⟩ := zinv e7
                refine z_iald fx (ok12_50 hO ho) e18 d12_ringBridge_75 ?_
                refine z_aload_n fx (k := 0) (i := 0) rfl rfl d12_ringBridge_76 ?_
                refine z_getO fx 12 50 29 ho lf12_163 fk12_50 d12_ringBridge_77 ?_
                refine z_aload_n fx (k := 0) (i := 0) rfl rfl d12_ringBridge_80 ?_
                refine z_getO fx 12 9 4 ho lf12_38 fk12_9 d12_ringBridge_81 ?_
                refine z_iconst fx (v := 4) ic4 d12_ringBridge_84 ?_
                refine z_iload_n fx (k := 2) (i := 2) rfl rfl d12_ringBridge_85 ?_
                refine z_imul fx d12_ringBridge_86 ?_
                refine z_iconst fx (v := 2) ic2 d12_ringBridge_87 ?_
                refine z_iadd fx d12_ringBridge_88 ?_
                obtain ⟨t15, e19, e7⟩ := zinv e7
                refine z_iald fx (ok12_9 hO ho) e19 d12_ringBridge_89 ?_
                obtain ⟨t16, e20, e7⟩ := zinv e7
                refine z_iald fx (ok12_50 hO ho) e20 d12_ringBridge_90 ?_
                refine z_icmp_ne fx d12_ringBridge_91 (fun c21 => ?_) (fun c21 => ?_)
                · replace e7 := zif_f c21 e7
                  obtain ⟨v_l_17, e22, e7⟩ := zinv e7
                  replace e22 := Option.some.inj e22
                  refine z_iinc fx (i := 2) (x := v_l_5) (v := v_l_17) rfl (by rw [in1]; exact e22) rfl (lv' := [(0, .ref o_), (1, .int v_b_1), (2, .int v_l_17)]) rfl rfl d12_ringBridge_96 ?_
                  cases e7
                  refine z_goto fx d12_ringBridge_99 ?_
                  exact ih11 _ _ hl8
                · replace e7 := zif_t c21 e7
                  refine z_iload_n fx (k := 1) (i := 1) rfl rfl d12_ringBridge_94 ?_
                  cases e7
                  cases hl8
                  cases e1
                  cases hl2
                  cases h
                  exact z_ireturn fx fin d12_ringBridge_95
              clear e7
              obtain ⟨b18, e23, e14⟩ := zinv e14
              have kf24 : b18 = false → zZ zK1 X (zT0 Sh top) μ6 28 [(0, .ref o_), (1, .int v_b_1), (2, .int v_l_5)] [] := by
                intro hc
                replace e14 := zif_f hc e14
                obtain ⟨b19, e25, e14⟩ := zinv e14
                have kt26 : b19 = true → zZ zK1 X (zT0 Sh top) μ6 40 [(0, .ref o_), (1, .int v_b_1), (2, .int v_l_5)] [] := by
                  intro hc
                  replace e14 := zif_t hc e14
                  refine z_aload_n fx (k := 0) (i := 0) rfl rfl d12_ringBridge_40 ?_
                  refine z_getO fx 12 9 4 ho lf12_38 fk12_9 d12_ringBridge_41 ?_
                  refine z_iconst fx (v := 4) ic4 d12_ringBridge_44 ?_
                  refine z_iload_n fx (k := 2) (i := 2) rfl rfl d12_ringBridge_45 ?_
                  refine z_imul fx d12_ringBridge_46 ?_
                  refine z_iconst fx (v := 2) ic2 d12_ringBridge_47 ?_
                  refine z_iadd fx d12_ringBridge_48 ?_
                  obtain ⟨t20, e27, e14⟩ := zinv e14
                  refine z_iald fx (ok12_9 hO ho) e27 d12_ringBridge_49 ?_
                  refine z_iload_n fx (k := 1) (i := 1) rfl rfl d12_ringBridge_50 ?_
                  cases e14
                  refine z_icmp_eq fx d12_ringBridge_51 (fun c28 => ?_) (fun c28 => ?_)
                  · exact kf13 (by rw [c28]; rfl)
                  · refine z_goto fx d12_ringBridge_54 ?_
                    exact kt13 (by rw [c28]; rfl)
                have kf26 : b19 = false → zZ zK1 X (zT0 Sh top) μ6 57 [(0, .ref o_), (1, .int v_b_1), (2, .int v_l_5)] [] := by
                  intro hc
                  replace e14 := zif_f hc e14
                  cases e14
                  exact kf13 rfl
                clear e14
                refine z_aload_n fx (k := 0) (i := 0) rfl rfl d12_ringBridge_28 ?_
                refine z_getO fx 12 9 4 ho lf12_38 fk12_9 d12_ringBridge_29 ?_
                refine z_iconst fx (v := 4) ic4 d12_ringBridge_32 ?_
                refine z_iload_n fx (k := 2) (i := 2) rfl rfl d12_ringBridge_33 ?_
                refine z_imul fx d12_ringBridge_34 ?_
                obtain ⟨t21, e29, e25⟩ := zinv e25
                refine z_iald fx (ok12_9 hO ho) e29 d12_ringBridge_35 ?_
                refine z_iload_n fx (k := 1) (i := 1) rfl rfl d12_ringBridge_36 ?_
                cases e25
                refine z_icmp_eq fx d12_ringBridge_37 (fun c30 => ?_) (fun c30 => ?_)
                · exact kf26 (by rw [c30]; rfl)
                · exact kt26 (by rw [c30]; rfl)
              have kt24 : b18 = true → zZ zK1 X (zT0 Sh top) μ6 96 [(0, .ref o_), (1, .int v_b_1), (2, .int v_l_5)] [] := by
                intro hc
                replace e14 := zif_t hc e14
                cases e14
                exact kt13 rfl
              clear e14
              refine z_aload_n fx (k := 0) (i := 0) rfl rfl d12_ringBridge_20 ?_
              refine z_iload_n fx (k := 2) (i := 2) rfl rfl d12_ringBridge_21 ?_
              obtain ⟨t22, e31, e23⟩ := zinv e23
              refine z_cVr fx (c12_isOpenLink (zLo X) (zDo X) Sh top hO o_ v_l_5 μ6 _ ho e31) mv12_isOpenLink ml12_462 ho rfl rfl rfl rfl d12_ringBridge_22 ?_
              cases e23
              refine z_ifb_eq fx d12_ringBridge_25 (fun c32 => ?_) (fun c32 => ?_)
              · exact kt24 (by rw [c32]; rfl)
              · exact kf24 (by rw [c32]; rfl)
        exact klr9 _ _ _ e34
  exact klr3 _ _ _ e35
theorem d12_ring_0 : zd cX12_ring 0 (.aload_n 0) 1 1 := by decide +kernel
theorem d12_ring_1 : zd cX12_ring 1 (.iconst 0) 1 2 := by decide +kernel
theorem d12_ring_2 : zd cX12_ring 2 (.putfield 144) 3 5 := by decide +kernel
theorem d12_ring_5 : zd cX12_ring 5 (.iload_n 1) 1 6 := by decide +kernel
theorem d12_ring_6 : zj cX12_ring 6 (.ifCond .ne 11) 11 9 17 := by decide +kernel
theorem d12_ring_9 : zd cX12_ring 9 (.aload_n 0) 1 10 := by decide +kernel
theorem d12_ring_10 : zd cX12_ring 10 (.iconst (-1)) 1 11 := by decide +kernel
theorem d12_ring_11 : zd cX12_ring 11 (.invokevirtual 514) 3 14 := by decide +kernel
theorem d12_ring_14 : zj cX12_ring 14 (.goto 16) 16 17 30 := by decide +kernel
theorem d12_ring_17 : zd cX12_ring 17 (.iload_n 1) 1 18 := by decide +kernel
theorem d12_ring_18 : zd cX12_ring 18 (.iconst 1) 1 19 := by decide +kernel
theorem d12_ring_19 : zj cX12_ring 19 (.if_icmp .ne 10) 10 22 29 := by decide +kernel
theorem d12_ring_22 : zd cX12_ring 22 (.aload_n 0) 1 23 := by decide +kernel
theorem d12_ring_23 : zd cX12_ring 23 (.invokevirtual 517) 3 26 := by decide +kernel
theorem d12_ring_26 : zj cX12_ring 26 (.goto 4) 4 29 30 := by decide +kernel
theorem d12_ring_29 : zd cX12_ring 29 (.iconst (-1)) 1 30 := by decide +kernel
theorem d12_ring_30 : zd cX12_ring 30 (.ireturn) 1 31 := by decide +kernel
set_option maxHeartbeats 4000000 in
set_option maxRecDepth 20000 in
theorem c12_ring (l : Launch) (D : zDt) (Sh : zSh) (top : Nat) (hO : zOK Sh) (o_ : Nat) (v_what : Int32) (μ : zM) (r_ : Int32) (μ_ : zM) (ho : (Sh o_).1 = 19) (h : f12_ring o_ v_what μ = some (r_, μ_)) : zMet l D zK1 yX12_ring cX12_ring 2 (some .int) (zrm 5 112) [.ref o_, .int v_what] Sh top μ (some (.int r_)) Sh top μ_ 0 0 := by
  refine zMet_of (by decide) (Nat.le_of_ble_eq_true rfl) fun X hX1 hX2 fx fin => ?_
  subst hX1; subst hX2
  replace fx : zFix X cX12_ring RX12 (zrm 5 112) 2 := fx
  show zZ zK1 X (zT0 Sh top) μ 0 [(0, .ref o_), (1, .int v_what)] []
  unfold f12_ring at h
  refine z_aload_n fx (k := 0) (i := 0) rfl rfl d12_ring_0 ?_
  refine z_iconst fx (v := 0) ic0 d12_ring_1 ?_
  obtain ⟨μ1, e1, h⟩ := zinv h
  refine z_putI fx (ci := 12) 44 ho lf12_144 fp12_44 e1 d12_ring_2 ?_
  obtain ⟨x2, μ3, e2, h⟩ := zinv2 h
  have k3 : zZ zK1 X (zT0 Sh top) μ3 30 [(0, .ref o_), (1, .int v_what)] [.int x2] := by
    cases h
    exact z_ireturn fx fin d12_ring_30
  refine z_iload_n fx (k := 1) (i := 1) rfl rfl d12_ring_5 ?_
  refine z_if_ne fx d12_ring_6 (fun c4 => ?_) (fun c4 => ?_)
  · replace e2 := zif_f c4 e2
    obtain ⟨x4, μ5, e5, e2⟩ := zinv2 e2
    have k6 : zZ zK1 X (zT0 Sh top) μ5 30 [(0, .ref o_), (1, .int v_what)] [.int x4] := by
      cases e2
      exact k3
    refine z_iload_n fx (k := 1) (i := 1) rfl rfl d12_ring_17 ?_
    refine z_iconst fx (v := 1) ic1 d12_ring_18 ?_
    refine z_icmp_ne fx d12_ring_19 (fun c7 => ?_) (fun c7 => ?_)
    · replace e5 := zif_f c7 e5
      refine z_iconst fx (v := (-1)) icm1 d12_ring_29 ?_
      cases e5
      exact k6
    · replace e5 := zif_t c7 e5
      refine z_aload_n fx (k := 0) (i := 0) rfl rfl d12_ring_22 ?_
      obtain ⟨t6, μ7, e8, e5⟩ := zinv2 e5
      refine z_cVr fx (c12_ringBridge (zLo X) (zDo X) Sh top hO o_ μ1 _ _ ho e8) mv12_ringBridge ml12_517 ho rfl rfl rfl rfl d12_ring_23 ?_
      cases e5
      refine z_goto fx d12_ring_26 ?_
      exact k6
  · replace e2 := zif_t c4 e2
    refine z_aload_n fx (k := 0) (i := 0) rfl rfl d12_ring_9 ?_
    refine z_iconst fx (v := (-1)) icm1 d12_ring_10 ?_
    obtain ⟨t8, μ9, e9, e2⟩ := zinv2 e2
    refine z_cVr fx (c12_laysOpenParts (zLo X) (zDo X) Sh top hO o_ (-1) μ1 _ _ ho e9) mv12_laysOpenParts ml12_514 ho rfl rfl rfl rfl d12_ring_11 ?_
    cases e2
    refine z_goto fx d12_ring_14 ?_
    exact k3
theorem d12_rings_0 : zd cX12_rings 0 (.aload_n 0) 1 1 := by decide +kernel
theorem d12_rings_1 : zd cX12_rings 1 (.getfield 150) 3 4 := by decide +kernel
theorem d12_rings_4 : zj cX12_rings 4 (.ifCond .eq 14) 14 7 18 := by decide +kernel
theorem d12_rings_7 : zd cX12_rings 7 (.iload_n 1) 1 8 := by decide +kernel
theorem d12_rings_8 : zd cX12_rings 8 (.iconst 1) 1 9 := by decide +kernel
theorem d12_rings_9 : zd cX12_rings 9 (.sipush 200) 3 12 := by decide +kernel
theorem d12_rings_12 : zd cX12_rings 12 (.invokestatic 250) 3 15 := by decide +kernel
theorem d12_rings_15 : zj cX12_rings 15 (.ifCond .ne 5) 5 18 20 := by decide +kernel
theorem d12_rings_18 : zd cX12_rings 18 (.iconst (-1)) 1 19 := by decide +kernel
theorem d12_rings_19 : zd cX12_rings 19 (.ireturn) 1 20 := by decide +kernel
theorem d12_rings_20 : zd cX12_rings 20 (.aload_n 0) 1 21 := by decide +kernel
theorem d12_rings_21 : zd cX12_rings 21 (.invokevirtual 508) 3 24 := by decide +kernel
theorem d12_rings_24 : zd cX12_rings 24 (.iconst 0) 1 25 := by decide +kernel
theorem d12_rings_25 : zd cX12_rings 25 (.istore_n 2) 1 26 := by decide +kernel
theorem d12_rings_26 : zd cX12_rings 26 (.iconst 0) 1 27 := by decide +kernel
theorem d12_rings_27 : zd cX12_rings 27 (.istore_n 3) 1 28 := by decide +kernel
theorem d12_rings_28 : zd cX12_rings 28 (.iload_n 3) 1 29 := by decide +kernel
theorem d12_rings_29 : zd cX12_rings 29 (.iload_n 1) 1 30 := by decide +kernel
theorem d12_rings_30 : zj cX12_rings 30 (.if_icmp .ge 29) 29 33 59 := by decide +kernel
theorem d12_rings_33 : zd cX12_rings 33 (.aload_n 0) 1 34 := by decide +kernel
theorem d12_rings_34 : zd cX12_rings 34 (.invokevirtual 511) 3 37 := by decide +kernel
theorem d12_rings_37 : zd cX12_rings 37 (.iload_n 2) 1 38 := by decide +kernel
theorem d12_rings_38 : zd cX12_rings 38 (.aload_n 0) 1 39 := by decide +kernel
theorem d12_rings_39 : zd cX12_rings 39 (.iconst (-1)) 1 40 := by decide +kernel
theorem d12_rings_40 : zd cX12_rings 40 (.invokevirtual 514) 3 43 := by decide +kernel
theorem d12_rings_43 : zj cX12_rings 43 (.ifCond .le 7) 7 46 50 := by decide +kernel
theorem d12_rings_46 : zd cX12_rings 46 (.iconst 1) 1 47 := by decide +kernel
theorem d12_rings_47 : zj cX12_rings 47 (.goto 4) 4 50 51 := by decide +kernel
theorem d12_rings_50 : zd cX12_rings 50 (.iconst 0) 1 51 := by decide +kernel
theorem d12_rings_51 : zd cX12_rings 51 (.iadd) 1 52 := by decide +kernel
theorem d12_rings_52 : zd cX12_rings 52 (.istore_n 2) 1 53 := by decide +kernel
theorem d12_rings_53 : zd cX12_rings 53 (.iinc 3 1) 3 56 := by decide +kernel
theorem d12_rings_56 : zj cX12_rings 56 (.goto (-28)) (-28) 59 28 := by decide +kernel
theorem d12_rings_59 : zd cX12_rings 59 (.iload_n 2) 1 60 := by decide +kernel
theorem d12_rings_60 : zd cX12_rings 60 (.ireturn) 1 61 := by decide +kernel
set_option maxHeartbeats 4000000 in
set_option maxRecDepth 20000 in
theorem c12_rings (l : Launch) (D : zDt) (Sh : zSh) (top : Nat) (hO : zOK Sh) (o_ : Nat) (v_n : Int32) (μ : zM) (r_ : Int32) (μ_ : zM) (ho : (Sh o_).1 = 19) (h : f12_rings o_ v_n μ = some (r_, μ_)) : zMet l D zK1 yX12_rings cX12_rings 4 (some .int) (zrm 11 254) [.ref o_, .int v_n] Sh top μ (some (.int r_)) Sh top μ_ 0 0 := by
  refine zMet_of (by decide) (Nat.le_of_ble_eq_true rfl) fun X hX1 hX2 fx fin => ?_
  subst hX1; subst hX2
  replace fx : zFix X cX12_rings RX12 (zrm 11 254) 4 := fx
  show zZ zK1 X (zT0 Sh top) μ 0 [(0, .ref o_), (1, .int v_n)] []
  unfold f12_rings at h
  obtain ⟨b1, e2, h⟩ := zinv h
  have kt1 : b1 = true → zZ zK1 X (zT0 Sh top) μ 18 [(0, .ref o_), (1, .int v_n)] [] := by
    intro hc
    replace h := zif_t hc h
    refine z_iconst fx (v := (-1)) icm1 d12_rings_18 ?_
    cases h
    exact z_ireturn fx fin d12_rings_19
  have kf1 : b1 = false → zZ zK1 X (zT0 Sh top) μ 20 [(0, .ref o_), (1, .int v_n)] [] := by
    intro hc
    replace h := zif_f hc h
    refine z_aload_n fx (k := 0) (i := 0) rfl rfl d12_rings_20 ?_
    obtain ⟨μ2, e3, h⟩ := zinv h
    refine z_cVv fx (c12_tries (zLo X) (zDo X) Sh top hO o_ μ _ ho e3) mv12_tries ml12_508 ho rfl rfl rfl rfl d12_rings_21 ?_
    refine z_iconst fx (v := 0) ic0 d12_rings_24 ?_
    refine z_istore_n fx (k := 2) (i := 2) rfl rfl (lv' := [(0, .ref o_), (1, .int v_n), (2, .int 0)]) rfl rfl d12_rings_25 ?_
    refine z_iconst fx (v := 0) ic0 d12_rings_26 ?_
    refine z_istore_n fx (k := 3) (i := 3) rfl rfl (lv' := [(0, .ref o_), (1, .int v_n), (2, .int 0), (3, .int 0)]) rfl rfl d12_rings_27 ?_
    obtain ⟨v_many_6, v_k_7, μ8, e17, h⟩ := zinv3 h
    have kx7 : zZ zK1 X (zT0 Sh top) μ8 59 [(0, .ref o_), (1, .int v_n), (2, .int v_many_6), (3, .int v_k_7)] [] := by
      refine z_take 3 (lv' := [(0, .ref o_), (1, .int v_n), (2, .int v_many_6)]) rfl ?_
      refine z_iload_n fx (k := 2) (i := 2) rfl rfl d12_rings_59 ?_
      cases h
      exact z_ireturn fx fin d12_rings_60
    clear h
    have klr6 : ∀ (n : Nat) (v_many_3 : Int32) (v_k_4 : Int32) (μ5 : zM), zloop (fun s => f12_rings_L1 o_ v_n s.1 s.2.1 s.2.2) n (v_many_3, v_k_4, μ5) = some (v_many_6, v_k_7, μ8) → zZ zK1 X (zT0 Sh top) μ5 28 [(0, .ref o_), (1, .int v_n), (2, .int v_many_3), (3, .int v_k_4)] [] := by
      intro n
      induction n with
      | zero => intro v_many_3 v_k_4 μ5 hl5; cases hl5
      | succ n ih8 =>
        intro v_many_3 v_k_4 μ5 hl5
        obtain ⟨y, e4, hl5⟩ := zloop_inv hl5
        replace e4 : f12_rings_L1 o_ v_n v_many_3 v_k_4 μ5 = some y := e4
        unfold f12_rings_L1 at e4
        refine z_iload_n fx (k := 3) (i := 3) rfl rfl d12_rings_28 ?_
        refine z_iload_n fx (k := 1) (i := 1) rfl rfl d12_rings_29 ?_
        refine z_icmp_ge fx d12_rings_30 (fun c9 => ?_) (fun c9 => ?_)
        · replace e4 := zif_f c9 e4
          cases e4
          cases hl5
          exact kx7
        · replace e4 := zif_t c9 e4
          refine z_aload_n fx (k := 0) (i := 0) rfl rfl d12_rings_33 ?_
          obtain ⟨μ9, e10, e4⟩ := zinv e4
          refine z_cVv fx (c12_steps (zLo X) (zDo X) Sh top hO o_ μ5 _ ho e10) mv12_steps ml12_511 ho rfl rfl rfl rfl d12_rings_34 ?_
          refine z_iload_n fx (k := 2) (i := 2) rfl rfl d12_rings_37 ?_
          obtain ⟨x10, μ11, e11, e4⟩ := zinv2 e4
          have k12 : zZ zK1 X (zT0 Sh top) μ11 51 [(0, .ref o_), (1, .int v_n), (2, .int v_many_3), (3, .int v_k_4)] [.int x10, .int v_many_3] := by
            refine z_iadd fx d12_rings_51 ?_
            obtain ⟨v_many_14, e15, e4⟩ := zinv e4
            replace e15 := Option.some.inj e15
            refine z_top (congrArg Value.int e15) ?_
            refine z_istore_n fx (k := 2) (i := 2) rfl rfl (lv' := [(0, .ref o_), (1, .int v_n), (2, .int v_many_14), (3, .int v_k_4)]) rfl rfl d12_rings_52 ?_
            obtain ⟨v_k_15, e16, e4⟩ := zinv e4
            replace e16 := Option.some.inj e16
            refine z_iinc fx (i := 3) (x := v_k_4) (v := v_k_15) rfl (by rw [in1]; exact e16) rfl (lv' := [(0, .ref o_), (1, .int v_n), (2, .int v_many_14), (3, .int v_k_15)]) rfl rfl d12_rings_53 ?_
            cases e4
            refine z_goto fx d12_rings_56 ?_
            exact ih8 _ _ _ hl5
          refine z_aload_n fx (k := 0) (i := 0) rfl rfl d12_rings_38 ?_
          refine z_iconst fx (v := (-1)) icm1 d12_rings_39 ?_
          obtain ⟨t12, μ13, e13, e11⟩ := zinv2 e11
          refine z_cVr fx (c12_laysOpenParts (zLo X) (zDo X) Sh top hO o_ (-1) μ9 _ _ ho e13) mv12_laysOpenParts ml12_514 ho rfl rfl rfl rfl d12_rings_40 ?_
          refine z_if_le fx d12_rings_43 (fun c14 => ?_) (fun c14 => ?_)
          · replace e11 := zif_f c14 e11
            refine z_iconst fx (v := 0) ic0 d12_rings_50 ?_
            cases e11
            exact k12
          · replace e11 := zif_t c14 e11
            refine z_iconst fx (v := 1) ic1 d12_rings_46 ?_
            cases e11
            refine z_goto fx d12_rings_47 ?_
            exact k12
    exact klr6 _ _ _ _ e17
  clear h
  refine z_aload_n fx (k := 0) (i := 0) rfl rfl d12_rings_0 ?_
  refine z_getB fx 12 46 1246 ho lf12_150 ⟨fk12_46, rfl⟩ d12_rings_1 ?_
  refine z_ifb_eq fx d12_rings_4 (fun c18 => ?_) (fun c18 => ?_)
  · replace e2 := zif_f c18 e2
    cases e2
    exact kt1 rfl
  · replace e2 := zif_t c18 e2
    refine z_iload_n fx (k := 1) (i := 1) rfl rfl d12_rings_7 ?_
    refine z_iconst fx (v := 1) ic1 d12_rings_8 ?_
    refine z_sipush fx (v := 200) sp200 d12_rings_9 ?_
    obtain ⟨t16, e19, e2⟩ := zinv e2
    refine z_cSr fx (c12_isIn (zLo X) (zDo X) Sh top hO v_n 1 200 μ _  e19) ms12_isIn ml12_250 rfl rfl rfl rfl d12_rings_12 ?_
    cases e2
    refine z_ifb_ne fx d12_rings_15 (fun c20 => ?_) (fun c20 => ?_)
    · exact kf1 (by rw [c20]; rfl)
    · exact kt1 (by rw [c20]; rfl)
