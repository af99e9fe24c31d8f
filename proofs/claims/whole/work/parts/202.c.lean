theorem d8_spread_0 : zd cX8_spread 0 (.aload_n 0) 1 1 := by decide +kernel
theorem d8_spread_1 : zd cX8_spread 1 (.getfield 62) 3 4 := by decide +kernel
theorem d8_spread_4 : zd cX8_spread 4 (.getfield 158) 3 7 := by decide +kernel
theorem d8_spread_7 : zd cX8_spread 7 (.iload_n 1) 1 8 := by decide +kernel
theorem d8_spread_8 : zd cX8_spread 8 (.iaload) 1 9 := by decide +kernel
theorem d8_spread_9 : zd cX8_spread 9 (.istore_n 2) 1 10 := by decide +kernel
theorem d8_spread_10 : zd cX8_spread 10 (.iconst 0) 1 11 := by decide +kernel
theorem d8_spread_11 : zd cX8_spread 11 (.istore_n 3) 1 12 := by decide +kernel
theorem d8_spread_12 : zd cX8_spread 12 (.iload_n 3) 1 13 := by decide +kernel
theorem d8_spread_13 : zd cX8_spread 13 (.aload_n 0) 1 14 := by decide +kernel
theorem d8_spread_14 : zd cX8_spread 14 (.getfield 62) 3 17 := by decide +kernel
theorem d8_spread_17 : zd cX8_spread 17 (.getfield 174) 3 20 := by decide +kernel
theorem d8_spread_20 : zd cX8_spread 20 (.iload_n 2) 1 21 := by decide +kernel
theorem d8_spread_21 : zd cX8_spread 21 (.iaload) 1 22 := by decide +kernel
theorem d8_spread_22 : zj cX8_spread 22 (.if_icmp .ge 71) 71 25 93 := by decide +kernel
theorem d8_spread_25 : zd cX8_spread 25 (.aload_n 0) 1 26 := by decide +kernel
theorem d8_spread_26 : zd cX8_spread 26 (.getfield 62) 3 29 := by decide +kernel
theorem d8_spread_29 : zd cX8_spread 29 (.iload_n 2) 1 30 := by decide +kernel
theorem d8_spread_30 : zd cX8_spread 30 (.iload_n 3) 1 31 := by decide +kernel
theorem d8_spread_31 : zd cX8_spread 31 (.invokevirtual 176) 3 34 := by decide +kernel
theorem d8_spread_34 : zd cX8_spread 34 (.istore 4) 2 36 := by decide +kernel
theorem d8_spread_36 : zd cX8_spread 36 (.aload_n 0) 1 37 := by decide +kernel
theorem d8_spread_37 : zd cX8_spread 37 (.getfield 19) 3 40 := by decide +kernel
theorem d8_spread_40 : zd cX8_spread 40 (.iload 4) 2 42 := by decide +kernel
theorem d8_spread_42 : zd cX8_spread 42 (.aaload) 1 43 := by decide +kernel
theorem d8_spread_43 : zd cX8_spread 43 (.astore 5) 2 45 := by decide +kernel
theorem d8_spread_45 : zd cX8_spread 45 (.iload 4) 2 47 := by decide +kernel
theorem d8_spread_47 : zd cX8_spread 47 (.iload_n 1) 1 48 := by decide +kernel
theorem d8_spread_48 : zj cX8_spread 48 (.if_icmp .eq 39) 39 51 87 := by decide +kernel
theorem d8_spread_51 : zd cX8_spread 51 (.aload 5) 2 53 := by decide +kernel
theorem d8_spread_53 : zd cX8_spread 53 (.invokevirtual 292) 3 56 := by decide +kernel
theorem d8_spread_56 : zj cX8_spread 56 (.ifCond .eq 31) 31 59 87 := by decide +kernel
theorem d8_spread_59 : zd cX8_spread 59 (.aload 5) 2 61 := by decide +kernel
theorem d8_spread_61 : zd cX8_spread 61 (.getfield 280) 3 64 := by decide +kernel
theorem d8_spread_64 : zj cX8_spread 64 (.ifCond .ne 23) 23 67 87 := by decide +kernel
theorem d8_spread_67 : zd cX8_spread 67 (.aload 5) 2 69 := by decide +kernel
theorem d8_spread_69 : zd cX8_spread 69 (.getfield 283) 3 72 := by decide +kernel
theorem d8_spread_72 : zj cX8_spread 72 (.ifCond .ne 15) 15 75 87 := by decide +kernel
theorem d8_spread_75 : zd cX8_spread 75 (.aload 5) 2 77 := by decide +kernel
theorem d8_spread_77 : zd cX8_spread 77 (.iconst 2) 1 78 := by decide +kernel
theorem d8_spread_78 : zd cX8_spread 78 (.putfield 283) 3 81 := by decide +kernel
theorem d8_spread_81 : zd cX8_spread 81 (.aload 5) 2 83 := by decide +kernel
theorem d8_spread_83 : zd cX8_spread 83 (.iconst 1) 1 84 := by decide +kernel
theorem d8_spread_84 : zd cX8_spread 84 (.putfield 286) 3 87 := by decide +kernel
theorem d8_spread_87 : zd cX8_spread 87 (.iinc 3 1) 3 90 := by decide +kernel
theorem d8_spread_90 : zj cX8_spread 90 (.goto (-78)) (-78) 93 12 := by decide +kernel
theorem d8_spread_93 : zd cX8_spread 93 (.aload_n 0) 1 94 := by decide +kernel
theorem d8_spread_94 : zd cX8_spread 94 (.getfield 11) 3 97 := by decide +kernel
theorem d8_spread_97 : zd cX8_spread 97 (.iload_n 2) 1 98 := by decide +kernel
theorem d8_spread_98 : zd cX8_spread 98 (.aaload) 1 99 := by decide +kernel
theorem d8_spread_99 : zd cX8_spread 99 (.getfield 117) 3 102 := by decide +kernel
theorem d8_spread_102 : zj cX8_spread 102 (.ifCond .eq 28) 28 105 130 := by decide +kernel
theorem d8_spread_105 : zd cX8_spread 105 (.aload_n 0) 1 106 := by decide +kernel
theorem d8_spread_106 : zd cX8_spread 106 (.getfield 11) 3 109 := by decide +kernel
theorem d8_spread_109 : zd cX8_spread 109 (.iload_n 2) 1 110 := by decide +kernel
theorem d8_spread_110 : zd cX8_spread 110 (.aaload) 1 111 := by decide +kernel
theorem d8_spread_111 : zd cX8_spread 111 (.aload_n 0) 1 112 := by decide +kernel
theorem d8_spread_112 : zd cX8_spread 112 (.getfield 62) 3 115 := by decide +kernel
theorem d8_spread_115 : zd cX8_spread 115 (.getfield 296) 3 118 := by decide +kernel
theorem d8_spread_118 : zd cX8_spread 118 (.aload_n 0) 1 119 := by decide +kernel
theorem d8_spread_119 : zd cX8_spread 119 (.getfield 62) 3 122 := by decide +kernel
theorem d8_spread_122 : zd cX8_spread 122 (.getfield 214) 3 125 := by decide +kernel
theorem d8_spread_125 : zd cX8_spread 125 (.iadd) 1 126 := by decide +kernel
theorem d8_spread_126 : zd cX8_spread 126 (.putfield 152) 3 129 := by decide +kernel
theorem d8_spread_129 : zd cX8_spread 129 (.return_) 1 130 := by decide +kernel
theorem d8_spread_130 : zd cX8_spread 130 (.iconst 0) 1 131 := by decide +kernel
theorem d8_spread_131 : zd cX8_spread 131 (.istore_n 3) 1 132 := by decide +kernel
theorem d8_spread_132 : zd cX8_spread 132 (.iload_n 3) 1 133 := by decide +kernel
theorem d8_spread_133 : zd cX8_spread 133 (.aload_n 0) 1 134 := by decide +kernel
theorem d8_spread_134 : zd cX8_spread 134 (.getfield 62) 3 137 := by decide +kernel
theorem d8_spread_137 : zd cX8_spread 137 (.getfield 299) 3 140 := by decide +kernel
theorem d8_spread_140 : zj cX8_spread 140 (.if_icmp .ge 101) 101 143 241 := by decide +kernel
theorem d8_spread_143 : zd cX8_spread 143 (.aload_n 0) 1 144 := by decide +kernel
theorem d8_spread_144 : zd cX8_spread 144 (.getfield 37) 3 147 := by decide +kernel
theorem d8_spread_147 : zd cX8_spread 147 (.iload_n 2) 1 148 := by decide +kernel
theorem d8_spread_148 : zd cX8_spread 148 (.bipush 8) 2 150 := by decide +kernel
theorem d8_spread_150 : zd cX8_spread 150 (.imul) 1 151 := by decide +kernel
theorem d8_spread_151 : zd cX8_spread 151 (.iload_n 3) 1 152 := by decide +kernel
theorem d8_spread_152 : zd cX8_spread 152 (.iadd) 1 153 := by decide +kernel
theorem d8_spread_153 : zd cX8_spread 153 (.iaload) 1 154 := by decide +kernel
theorem d8_spread_154 : zd cX8_spread 154 (.istore 4) 2 156 := by decide +kernel
theorem d8_spread_156 : zd cX8_spread 156 (.iload 4) 2 158 := by decide +kernel
theorem d8_spread_158 : zd cX8_spread 158 (.iconst (-1)) 1 159 := by decide +kernel
theorem d8_spread_159 : zj cX8_spread 159 (.if_icmp .eq 76) 76 162 235 := by decide +kernel
theorem d8_spread_162 : zd cX8_spread 162 (.iload 4) 2 164 := by decide +kernel
theorem d8_spread_164 : zd cX8_spread 164 (.bipush 6) 2 166 := by decide +kernel
theorem d8_spread_166 : zj cX8_spread 166 (.if_icmp .eq 69) 69 169 235 := by decide +kernel
theorem d8_spread_169 : zd cX8_spread 169 (.iload 4) 2 171 := by decide +kernel
theorem d8_spread_171 : zd cX8_spread 171 (.aload_n 0) 1 172 := by decide +kernel
theorem d8_spread_172 : zd cX8_spread 172 (.getfield 62) 3 175 := by decide +kernel
theorem d8_spread_175 : zd cX8_spread 175 (.getfield 189) 3 178 := by decide +kernel
theorem d8_spread_178 : zd cX8_spread 178 (.iload_n 1) 1 179 := by decide +kernel
theorem d8_spread_179 : zd cX8_spread 179 (.iaload) 1 180 := by decide +kernel
theorem d8_spread_180 : zj cX8_spread 180 (.if_icmp .ne 6) 6 183 186 := by decide +kernel
theorem d8_spread_183 : zj cX8_spread 183 (.goto 52) 52 186 235 := by decide +kernel
theorem d8_spread_186 : zd cX8_spread 186 (.aload_n 0) 1 187 := by decide +kernel
theorem d8_spread_187 : zd cX8_spread 187 (.getfield 19) 3 190 := by decide +kernel
theorem d8_spread_190 : zd cX8_spread 190 (.aload_n 0) 1 191 := by decide +kernel
theorem d8_spread_191 : zd cX8_spread 191 (.getfield 62) 3 194 := by decide +kernel
theorem d8_spread_194 : zd cX8_spread 194 (.iload_n 2) 1 195 := by decide +kernel
theorem d8_spread_195 : zd cX8_spread 195 (.iload 4) 2 197 := by decide +kernel
theorem d8_spread_197 : zd cX8_spread 197 (.invokevirtual 176) 3 200 := by decide +kernel
theorem d8_spread_200 : zd cX8_spread 200 (.aaload) 1 201 := by decide +kernel
theorem d8_spread_201 : zd cX8_spread 201 (.getfield 280) 3 204 := by decide +kernel
theorem d8_spread_204 : zj cX8_spread 204 (.ifCond .ne 31) 31 207 235 := by decide +kernel
theorem d8_spread_207 : zd cX8_spread 207 (.aload_n 0) 1 208 := by decide +kernel
theorem d8_spread_208 : zd cX8_spread 208 (.getfield 37) 3 211 := by decide +kernel
theorem d8_spread_211 : zd cX8_spread 211 (.iload_n 2) 1 212 := by decide +kernel
theorem d8_spread_212 : zd cX8_spread 212 (.bipush 8) 2 214 := by decide +kernel
theorem d8_spread_214 : zd cX8_spread 214 (.imul) 1 215 := by decide +kernel
theorem d8_spread_215 : zd cX8_spread 215 (.iload_n 3) 1 216 := by decide +kernel
theorem d8_spread_216 : zd cX8_spread 216 (.iadd) 1 217 := by decide +kernel
theorem d8_spread_217 : zd cX8_spread 217 (.iconst (-1)) 1 218 := by decide +kernel
theorem d8_spread_218 : zd cX8_spread 218 (.iastore) 1 219 := by decide +kernel
theorem d8_spread_219 : zd cX8_spread 219 (.aload_n 0) 1 220 := by decide +kernel
theorem d8_spread_220 : zd cX8_spread 220 (.sipush 9999) 3 223 := by decide +kernel
theorem d8_spread_223 : zd cX8_spread 223 (.aload_n 0) 1 224 := by decide +kernel
theorem d8_spread_224 : zd cX8_spread 224 (.getfield 75) 3 227 := by decide +kernel
theorem d8_spread_227 : zd cX8_spread 227 (.iconst 1) 1 228 := by decide +kernel
theorem d8_spread_228 : zd cX8_spread 228 (.iadd) 1 229 := by decide +kernel
theorem d8_spread_229 : zd cX8_spread 229 (.invokestatic 302) 3 232 := by decide +kernel
theorem d8_spread_232 : zd cX8_spread 232 (.putfield 75) 3 235 := by decide +kernel
theorem d8_spread_235 : zd cX8_spread 235 (.iinc 3 1) 3 238 := by decide +kernel
theorem d8_spread_238 : zj cX8_spread 238 (.goto (-106)) (-106) 241 132 := by decide +kernel
theorem d8_spread_241 : zd cX8_spread 241 (.return_) 1 242 := by decide +kernel
set_option maxHeartbeats 4000000 in
set_option maxRecDepth 20000 in
theorem c8_spread (l : Launch) (D : zDt) (Sh : zSh) (top : Nat) (hO : zOK Sh) (o_ : Nat) (v_from : Int32) (μ : zM) (μ_ : zM) (ho : (Sh o_).1 = 15) (h : f8_spread o_ v_from μ = some μ_) : zMet l D zK1 yX8_spread cX8_spread 6 none (zrm 1 22) [.ref o_, .int v_from] Sh top μ none Sh top μ_ 0 0 := by
  refine zMet_of (by decide) (Nat.le_of_ble_eq_true rfl) fun X hX1 hX2 fx fin => ?_
  subst hX1; subst hX2
  replace fx : zFix X cX8_spread RX8 (zrm 1 22) 6 := fx
  show zZ zK1 X (zT0 Sh top) μ 0 [(0, .ref o_), (1, .int v_from)] []
  unfold f8_spread at h
  refine z_aload_n fx (k := 0) (i := 0) rfl rfl d8_spread_0 ?_
  obtain ⟨w1, e1, h⟩ := zinv h
  refine z_getR fx 8 12 812 17 ho lf8_62 ⟨fk8_12, rfl⟩ e1 d8_spread_1 (fun tw1 => ?_)
  refine z_getO fx 10 6 7 tw1 lf8_158 fk10_6 d8_spread_4 ?_
  refine z_iload_n fx (k := 1) (i := 1) rfl rfl d8_spread_7 ?_
  obtain ⟨t2, e2, h⟩ := zinv h
  refine z_iald fx (ok10_6 hO tw1) e2 d8_spread_8 ?_
  refine z_istore_n fx (k := 2) (i := 2) rfl rfl (lv' := [(0, .ref o_), (1, .int v_from), (2, .int t2)]) rfl rfl d8_spread_9 ?_
  refine z_iconst fx (v := 0) ic0 d8_spread_10 ?_
  refine z_istore_n fx (k := 3) (i := 3) rfl rfl (lv' := [(0, .ref o_), (1, .int v_from), (2, .int t2), (3, .int 0)]) rfl rfl d8_spread_11 ?_
  obtain ⟨v_p_5, μ6, e61, h⟩ := zinv2 h
  have kx6 : zZ zK1 X (zT0 Sh top) μ6 93 [(0, .ref o_), (1, .int v_from), (2, .int t2), (3, .int v_p_5)] [] := by
    refine z_take 3 (lv' := [(0, .ref o_), (1, .int v_from), (2, .int t2)]) rfl ?_
    refine z_aload_n fx (k := 0) (i := 0) rfl rfl d8_spread_93 ?_
    refine z_getO fx 8 0 1 ho lf8_11 fk8_0 d8_spread_94 ?_
    refine z_iload_n fx (k := 2) (i := 2) rfl rfl d8_spread_97 ?_
    obtain ⟨j20, e29, h⟩ := zinv h
    refine z_aald fx 0 (by decide) (ok8_0 hO ho) e29 (v := .ref (o_ + 13 + 3 * j20)) rfl d8_spread_98 ?_
    refine z_getB fx 0 4 4 (okA0 hO (ok8_0 hO ho) (rI_lt e29)) lf8_117 ⟨fk0_4, rfl⟩ d8_spread_99 ?_
    refine z_ifb_eq fx d8_spread_102 (fun c30 => ?_) (fun c30 => ?_)
    · replace h := zif_f c30 h
      refine z_iconst fx (v := 0) ic0 d8_spread_130 ?_
      refine z_istore_n fx (k := 3) (i := 3) rfl rfl (lv' := [(0, .ref o_), (1, .int v_from), (2, .int t2), (3, .int 0)]) rfl rfl d8_spread_131 ?_
      obtain ⟨v_h_23, μ24, e56, h⟩ := zinv2 h
      have kx34 : zZ zK1 X (zT0 Sh top) μ24 241 [(0, .ref o_), (1, .int v_from), (2, .int t2), (3, .int v_h_23)] [] := by
        refine z_take 3 (lv' := [(0, .ref o_), (1, .int v_from), (2, .int t2)]) rfl ?_
        cases h
        exact z_return fx fin d8_spread_241
      clear h
      have klr33 : ∀ (n : Nat) (v_h_21 : Int32) (μ22 : zM), zloop (fun s => f8_spread_L2 o_ v_from t2 s.1 s.2) n (v_h_21, μ22) = some (v_h_23, μ24) → zZ zK1 X (zT0 Sh top) μ22 132 [(0, .ref o_), (1, .int v_from), (2, .int t2), (3, .int v_h_21)] [] := by
        intro n
        induction n with
        | zero => intro v_h_21 μ22 hl32; cases hl32
        | succ n ih35 =>
          intro v_h_21 μ22 hl32
          obtain ⟨y, e31, hl32⟩ := zloop_inv hl32
          replace e31 : f8_spread_L2 o_ v_from t2 v_h_21 μ22 = some y := e31
          unfold f8_spread_L2 at e31
          refine z_iload_n fx (k := 3) (i := 3) rfl rfl d8_spread_132 ?_
          refine z_aload_n fx (k := 0) (i := 0) rfl rfl d8_spread_133 ?_
          obtain ⟨w25, e36, e31⟩ := zinv e31
          refine z_getR fx 8 12 812 17 ho lf8_62 ⟨fk8_12, rfl⟩ e36 d8_spread_134 (fun tw25 => ?_)
          refine z_getI fx 10 17 1017 tw25 lf8_299 ⟨fk10_17, rfl⟩ d8_spread_137 ?_
          refine z_icmp_ge fx d8_spread_140 (fun c37 => ?_) (fun c37 => ?_)
          · replace e31 := zif_f c37 e31
            cases e31
            cases hl32
            exact kx34
          · replace e31 := zif_t c37 e31
            refine z_aload_n fx (k := 0) (i := 0) rfl rfl d8_spread_143 ?_
            refine z_getO fx 8 5 6 ho lf8_37 fk8_5 d8_spread_144 ?_
            refine z_iload_n fx (k := 2) (i := 2) rfl rfl d8_spread_147 ?_
            refine z_bipush fx (v := 8) bp8 d8_spread_148 ?_
            refine z_imul fx d8_spread_150 ?_
            refine z_iload_n fx (k := 3) (i := 3) rfl rfl d8_spread_151 ?_
            refine z_iadd fx d8_spread_152 ?_
            obtain ⟨t26, e38, e31⟩ := zinv e31
            refine z_iald fx (ok8_5 hO ho) e38 d8_spread_153 ?_
            refine z_istore fx (i := 4) rfl (lv' := [(0, .ref o_), (1, .int v_from), (2, .int t2), (3, .int v_h_21), (4, .int t26)]) rfl rfl d8_spread_154 ?_
            obtain ⟨b27, e40, e31⟩ := zinv e31
            have kt39 : b27 = true → zZ zK1 X (zT0 Sh top) μ22 235 [(0, .ref o_), (1, .int v_from), (2, .int t2), (3, .int v_h_21), (4, .int t26)] [] := by
              intro hc
              replace e31 := zif_t hc e31
              refine z_take 4 (lv' := [(0, .ref o_), (1, .int v_from), (2, .int t2), (3, .int v_h_21)]) rfl ?_
              obtain ⟨v_h_28, e41, e31⟩ := zinv e31
              replace e41 := Option.some.inj e41
              refine z_iinc fx (i := 3) (x := v_h_21) (v := v_h_28) rfl (by rw [in1]; exact e41) rfl (lv' := [(0, .ref o_), (1, .int v_from), (2, .int t2), (3, .int v_h_28)]) rfl rfl d8_spread_235 ?_
              cases e31
              refine z_goto fx d8_spread_238 ?_
              exact ih35 _ _ hl32
            have kf39 : b27 = false → zZ zK1 X (zT0 Sh top) μ22 186 [(0, .ref o_), (1, .int v_from), (2, .int t2), (3, .int v_h_21), (4, .int t26)] [] := by
              intro hc
              replace e31 := zif_f hc e31
              refine z_aload_n fx (k := 0) (i := 0) rfl rfl d8_spread_186 ?_
              refine z_getO fx 8 1 2 ho lf8_19 fk8_1 d8_spread_187 ?_
              refine z_aload_n fx (k := 0) (i := 0) rfl rfl d8_spread_190 ?_
              obtain ⟨w29, e42, e31⟩ := zinv e31
              refine z_getR fx 8 12 812 17 ho lf8_62 ⟨fk8_12, rfl⟩ e42 d8_spread_191 (fun tw29 => ?_)
              refine z_iload_n fx (k := 2) (i := 2) rfl rfl d8_spread_194 ?_
              refine z_iload fx (i := 4) rfl d8_spread_195 ?_
              obtain ⟨t30, e43, e31⟩ := zinv e31
              refine z_cVr fx (c10_endOf (zLo X) (zDo X) Sh top hO w29 t2 t26 μ22 _ tw29 e43) mv10_endOf ml8_176 tw29 rfl rfl rfl rfl d8_spread_197 ?_
              obtain ⟨j31, e44, e31⟩ := zinv e31
              refine z_aald fx 1 (by decide) (ok8_1 hO ho) e44 (v := .ref (o_ + 37 + 2 * j31)) rfl d8_spread_200 ?_
              refine z_getB fx 4 10 410 (okA1 hO (ok8_1 hO ho) (rI_lt e44)) lf8_280 ⟨fk4_10, rfl⟩ d8_spread_201 ?_
              refine z_ifb_ne fx d8_spread_204 (fun c45 => ?_) (fun c45 => ?_)
              · replace e31 := zif_t c45 e31
                refine z_take 4 (lv' := [(0, .ref o_), (1, .int v_from), (2, .int t2), (3, .int v_h_21)]) rfl ?_
                obtain ⟨v_h_32, e46, e31⟩ := zinv e31
                replace e46 := Option.some.inj e46
                refine z_iinc fx (i := 3) (x := v_h_21) (v := v_h_32) rfl (by rw [in1]; exact e46) rfl (lv' := [(0, .ref o_), (1, .int v_from), (2, .int t2), (3, .int v_h_32)]) rfl rfl d8_spread_235 ?_
                cases e31
                refine z_goto fx d8_spread_238 ?_
                exact ih35 _ _ hl32
              · replace e31 := zif_f c45 e31
                refine z_aload_n fx (k := 0) (i := 0) rfl rfl d8_spread_207 ?_
                refine z_getO fx 8 5 6 ho lf8_37 fk8_5 d8_spread_208 ?_
                refine z_iload_n fx (k := 2) (i := 2) rfl rfl d8_spread_211 ?_
                refine z_bipush fx (v := 8) bp8 d8_spread_212 ?_
                refine z_imul fx d8_spread_214 ?_
                refine z_iload_n fx (k := 3) (i := 3) rfl rfl d8_spread_215 ?_
                refine z_iadd fx d8_spread_216 ?_
                refine z_iconst fx (v := (-1)) icm1 d8_spread_217 ?_
                obtain ⟨μ33, e47, e31⟩ := zinv e31
                refine z_iast fx (ok8_5 hO ho) e47 d8_spread_218 ?_
                refine z_aload_n fx (k := 0) (i := 0) rfl rfl d8_spread_219 ?_
                refine z_sipush fx (v := 9999) sp9999 d8_spread_220 ?_
                refine z_aload_n fx (k := 0) (i := 0) rfl rfl d8_spread_223 ?_
                refine z_getI fx 8 14 814 ho lf8_75 ⟨fk8_14, rfl⟩ d8_spread_224 ?_
                refine z_iconst fx (v := 1) ic1 d8_spread_227 ?_
                refine z_iadd fx d8_spread_228 ?_
                refine z_mmin fx ml8_302 zm_min (Nat.le_of_ble_eq_true rfl) ⟨Nat.le_of_ble_eq_true rfl, Nat.le_of_ble_eq_true rfl, Nat.le_of_ble_eq_true rfl, Nat.le_of_ble_eq_true rfl⟩ d8_spread_229 ?_
                obtain ⟨μ34, e48, e31⟩ := zinv e31
                refine z_putI fx (ci := 8) 14 ho lf8_75 fp8_14 e48 d8_spread_232 ?_
                refine z_take 4 (lv' := [(0, .ref o_), (1, .int v_from), (2, .int t2), (3, .int v_h_21)]) rfl ?_
                obtain ⟨v_h_35, e49, e31⟩ := zinv e31
                replace e49 := Option.some.inj e49
                refine z_iinc fx (i := 3) (x := v_h_21) (v := v_h_35) rfl (by rw [in1]; exact e49) rfl (lv' := [(0, .ref o_), (1, .int v_from), (2, .int t2), (3, .int v_h_35)]) rfl rfl d8_spread_235 ?_
                cases e31
                refine z_goto fx d8_spread_238 ?_
                exact ih35 _ _ hl32
            clear e31
            have kf50 : ((ceq t26 (-1)) || (ceq t26 6)) = false → zZ zK1 X (zT0 Sh top) μ22 169 [(0, .ref o_), (1, .int v_from), (2, .int t2), (3, .int v_h_21), (4, .int t26)] [] := by
              intro hc
              replace e40 := zif_f hc e40
              refine z_iload fx (i := 4) rfl d8_spread_169 ?_
              refine z_aload_n fx (k := 0) (i := 0) rfl rfl d8_spread_171 ?_
              obtain ⟨w36, e51, e40⟩ := zinv e40
              refine z_getR fx 8 12 812 17 ho lf8_62 ⟨fk8_12, rfl⟩ e51 d8_spread_172 (fun tw36 => ?_)
              refine z_getO fx 10 7 8 tw36 lf8_189 fk10_7 d8_spread_175 ?_
              refine z_iload_n fx (k := 1) (i := 1) rfl rfl d8_spread_178 ?_
              obtain ⟨t37, e52, e40⟩ := zinv e40
              refine z_iald fx (ok10_7 hO tw36) e52 d8_spread_179 ?_
              cases e40
              refine z_icmp_ne fx d8_spread_180 (fun c53 => ?_) (fun c53 => ?_)
              · exact kf39 c53
              · refine z_goto fx d8_spread_183 ?_
                exact kt39 c53
            have kt50 : ((ceq t26 (-1)) || (ceq t26 6)) = true → zZ zK1 X (zT0 Sh top) μ22 235 [(0, .ref o_), (1, .int v_from), (2, .int t2), (3, .int v_h_21), (4, .int t26)] [] := by
              intro hc
              replace e40 := zif_t hc e40
              cases e40
              exact kt39 rfl
            refine z_iload fx (i := 4) rfl d8_spread_156 ?_
            refine z_iconst fx (v := (-1)) icm1 d8_spread_158 ?_
            refine z_icmp_eq fx d8_spread_159 (fun c54 => ?_) (fun c54 => ?_)
            · exact kt50 (by simp [c54])
            · refine z_iload fx (i := 4) rfl d8_spread_162 ?_
              refine z_bipush fx (v := 6) bp6 d8_spread_164 ?_
              refine z_icmp_eq fx d8_spread_166 (fun c55 => ?_) (fun c55 => ?_)
              · exact kt50 (by simp [c54, c55])
              · exact kf50 (by simp [c54, c55])
      exact klr33 _ _ _ e56
    · replace h := zif_t c30 h
      refine z_aload_n fx (k := 0) (i := 0) rfl rfl d8_spread_105 ?_
      refine z_getO fx 8 0 1 ho lf8_11 fk8_0 d8_spread_106 ?_
      refine z_iload_n fx (k := 2) (i := 2) rfl rfl d8_spread_109 ?_
      obtain ⟨j38, e57, h⟩ := zinv h
      refine z_aald fx 0 (by decide) (ok8_0 hO ho) e57 (v := .ref (o_ + 13 + 3 * j38)) rfl d8_spread_110 ?_
      refine z_aload_n fx (k := 0) (i := 0) rfl rfl d8_spread_111 ?_
      obtain ⟨w39, e58, h⟩ := zinv h
      refine z_getR fx 8 12 812 17 ho lf8_62 ⟨fk8_12, rfl⟩ e58 d8_spread_112 (fun tw39 => ?_)
      refine z_getI fx 10 13 1013 tw39 lf8_296 ⟨fk10_13, rfl⟩ d8_spread_115 ?_
      refine z_aload_n fx (k := 0) (i := 0) rfl rfl d8_spread_118 ?_
      obtain ⟨w40, e59, h⟩ := zinv h
      refine z_getR fx 8 12 812 17 ho lf8_62 ⟨fk8_12, rfl⟩ e59 d8_spread_119 (fun tw40 => ?_)
      refine z_getI fx 10 14 1014 tw40 lf8_214 ⟨fk10_14, rfl⟩ d8_spread_122 ?_
      refine z_iadd fx d8_spread_125 ?_
      obtain ⟨μ41, e60, h⟩ := zinv h
      refine z_putI fx (ci := 0) 8 (okA0 hO (ok8_0 hO ho) (rI_lt e57)) lf8_152 fp0_8 e60 d8_spread_126 ?_
      cases h
      exact z_return fx fin d8_spread_129
  clear h
  have klr5 : ∀ (n : Nat) (v_p_3 : Int32) (μ4 : zM), zloop (fun s => f8_spread_L1 o_ v_from t2 s.1 s.2) n (v_p_3, μ4) = some (v_p_5, μ6) → zZ zK1 X (zT0 Sh top) μ4 12 [(0, .ref o_), (1, .int v_from), (2, .int t2), (3, .int v_p_3)] [] := by
    intro n
    induction n with
    | zero => intro v_p_3 μ4 hl4; cases hl4
    | succ n ih7 =>
      intro v_p_3 μ4 hl4
      obtain ⟨y, e3, hl4⟩ := zloop_inv hl4
      replace e3 : f8_spread_L1 o_ v_from t2 v_p_3 μ4 = some y := e3
      unfold f8_spread_L1 at e3
      refine z_iload_n fx (k := 3) (i := 3) rfl rfl d8_spread_12 ?_
      refine z_aload_n fx (k := 0) (i := 0) rfl rfl d8_spread_13 ?_
      obtain ⟨w7, e8, e3⟩ := zinv e3
      refine z_getR fx 8 12 812 17 ho lf8_62 ⟨fk8_12, rfl⟩ e8 d8_spread_14 (fun tw7 => ?_)
      refine z_getO fx 10 4 5 tw7 lf8_174 fk10_4 d8_spread_17 ?_
      refine z_iload_n fx (k := 2) (i := 2) rfl rfl d8_spread_20 ?_
      obtain ⟨t8, e9, e3⟩ := zinv e3
      refine z_iald fx (ok10_4 hO tw7) e9 d8_spread_21 ?_
      refine z_icmp_ge fx d8_spread_22 (fun c10 => ?_) (fun c10 => ?_)
      · replace e3 := zif_f c10 e3
        cases e3
        cases hl4
        exact kx6
      · replace e3 := zif_t c10 e3
        refine z_aload_n fx (k := 0) (i := 0) rfl rfl d8_spread_25 ?_
        obtain ⟨w9, e11, e3⟩ := zinv e3
        refine z_getR fx 8 12 812 17 ho lf8_62 ⟨fk8_12, rfl⟩ e11 d8_spread_26 (fun tw9 => ?_)
        refine z_iload_n fx (k := 2) (i := 2) rfl rfl d8_spread_29 ?_
        refine z_iload_n fx (k := 3) (i := 3) rfl rfl d8_spread_30 ?_
        obtain ⟨t10, e12, e3⟩ := zinv e3
        refine z_cVr fx (c10_endOf (zLo X) (zDo X) Sh top hO w9 t2 v_p_3 μ4 _ tw9 e12) mv10_endOf ml8_176 tw9 rfl rfl rfl rfl d8_spread_31 ?_
        refine z_istore fx (i := 4) rfl (lv' := [(0, .ref o_), (1, .int v_from), (2, .int t2), (3, .int v_p_3), (4, .int t10)]) rfl rfl d8_spread_34 ?_
        refine z_aload_n fx (k := 0) (i := 0) rfl rfl d8_spread_36 ?_
        refine z_getO fx 8 1 2 ho lf8_19 fk8_1 d8_spread_37 ?_
        refine z_iload fx (i := 4) rfl d8_spread_40 ?_
        obtain ⟨j11, e13, e3⟩ := zinv e3
        refine z_aald fx 1 (by decide) (ok8_1 hO ho) e13 (v := .ref (o_ + 37 + 2 * j11)) rfl d8_spread_42 ?_
        refine z_astore fx (i := 5) rfl (lv' := [(0, .ref o_), (1, .int v_from), (2, .int t2), (3, .int v_p_3), (4, .int t10), (5, .ref (o_ + 37 + 2 * j11))]) rfl rfl d8_spread_43 ?_
        obtain ⟨b12, e15, e3⟩ := zinv e3
        have kt14 : b12 = true → zZ zK1 X (zT0 Sh top) μ4 75 [(0, .ref o_), (1, .int v_from), (2, .int t2), (3, .int v_p_3), (4, .int t10), (5, .ref (o_ + 37 + 2 * j11))] [] := by
          intro hc
          replace e3 := zif_t hc e3
          refine z_aload fx (i := 5) rfl d8_spread_75 ?_
          refine z_iconst fx (v := 2) ic2 d8_spread_77 ?_
          obtain ⟨μ13, e16, e3⟩ := zinv e3
          refine z_putI fx (ci := 4) 8 (okA1 hO (ok8_1 hO ho) (rI_lt e13)) lf8_283 fp4_8 e16 d8_spread_78 ?_
          refine z_aload fx (i := 5) rfl d8_spread_81 ?_
          refine z_iconst fx (v := 1) ic1 d8_spread_83 ?_
          refine z_top (show Value.int 1 = .int (bI true) from rfl) ?_
          obtain ⟨μ14, e17, e3⟩ := zinv e3
          refine z_putB fx (ci := 4) 14 (okA1 hO (ok8_1 hO ho) (rI_lt e13)) lf8_286 fp4_14 e17 d8_spread_84 ?_
          refine z_take 4 (lv' := [(0, .ref o_), (1, .int v_from), (2, .int t2), (3, .int v_p_3)]) rfl ?_
          obtain ⟨v_p_15, e18, e3⟩ := zinv e3
          replace e18 := Option.some.inj e18
          refine z_iinc fx (i := 3) (x := v_p_3) (v := v_p_15) rfl (by rw [in1]; exact e18) rfl (lv' := [(0, .ref o_), (1, .int v_from), (2, .int t2), (3, .int v_p_15)]) rfl rfl d8_spread_87 ?_
          cases e3
          refine z_goto fx d8_spread_90 ?_
          exact ih7 _ _ hl4
        have kf14 : b12 = false → zZ zK1 X (zT0 Sh top) μ4 87 [(0, .ref o_), (1, .int v_from), (2, .int t2), (3, .int v_p_3), (4, .int t10), (5, .ref (o_ + 37 + 2 * j11))] [] := by
          intro hc
          replace e3 := zif_f hc e3
          refine z_take 4 (lv' := [(0, .ref o_), (1, .int v_from), (2, .int t2), (3, .int v_p_3)]) rfl ?_
          obtain ⟨v_p_16, e19, e3⟩ := zinv e3
          replace e19 := Option.some.inj e19
          refine z_iinc fx (i := 3) (x := v_p_3) (v := v_p_16) rfl (by rw [in1]; exact e19) rfl (lv' := [(0, .ref o_), (1, .int v_from), (2, .int t2), (3, .int v_p_16)]) rfl rfl d8_spread_87 ?_
          cases e3
          refine z_goto fx d8_spread_90 ?_
          exact ih7 _ _ hl4
        clear e3
        obtain ⟨b17, e20, e15⟩ := zinv e15
        have kt21 : b17 = true → zZ zK1 X (zT0 Sh top) μ4 67 [(0, .ref o_), (1, .int v_from), (2, .int t2), (3, .int v_p_3), (4, .int t10), (5, .ref (o_ + 37 + 2 * j11))] [] := by
          intro hc
          replace e15 := zif_t hc e15
          refine z_aload fx (i := 5) rfl d8_spread_67 ?_
          refine z_getI fx 4 8 408 (okA1 hO (ok8_1 hO ho) (rI_lt e13)) lf8_283 ⟨fk4_8, rfl⟩ d8_spread_69 ?_
          cases e15
          refine z_if_ne fx d8_spread_72 (fun c22 => ?_) (fun c22 => ?_)
          · exact kf14 c22
          · exact kt14 c22
        have kf21 : b17 = false → zZ zK1 X (zT0 Sh top) μ4 87 [(0, .ref o_), (1, .int v_from), (2, .int t2), (3, .int v_p_3), (4, .int t10), (5, .ref (o_ + 37 + 2 * j11))] [] := by
          intro hc
          replace e15 := zif_f hc e15
          cases e15
          exact kf14 rfl
        clear e15
        obtain ⟨b18, e23, e20⟩ := zinv e20
        have kt24 : b18 = true → zZ zK1 X (zT0 Sh top) μ4 59 [(0, .ref o_), (1, .int v_from), (2, .int t2), (3, .int v_p_3), (4, .int t10), (5, .ref (o_ + 37 + 2 * j11))] [] := by
          intro hc
          replace e20 := zif_t hc e20
          refine z_aload fx (i := 5) rfl d8_spread_59 ?_
          refine z_getB fx 4 10 410 (okA1 hO (ok8_1 hO ho) (rI_lt e13)) lf8_280 ⟨fk4_10, rfl⟩ d8_spread_61 ?_
          cases e20
          refine z_ifb_ne fx d8_spread_64 (fun c25 => ?_) (fun c25 => ?_)
          · exact kf21 (by rw [c25]; rfl)
          · exact kt21 (by rw [c25]; rfl)
        have kf24 : b18 = false → zZ zK1 X (zT0 Sh top) μ4 87 [(0, .ref o_), (1, .int v_from), (2, .int t2), (3, .int v_p_3), (4, .int t10), (5, .ref (o_ + 37 + 2 * j11))] [] := by
          intro hc
          replace e20 := zif_f hc e20
          cases e20
          exact kf21 rfl
        clear e20
        refine z_iload fx (i := 4) rfl d8_spread_45 ?_
        refine z_iload_n fx (k := 1) (i := 1) rfl rfl d8_spread_47 ?_
        refine z_icmp_eq fx d8_spread_48 (fun c26 => ?_) (fun c26 => ?_)
        · replace e23 := zif_t c26 e23
          cases e23
          exact kf24 rfl
        · replace e23 := zif_f c26 e23
          refine z_aload fx (i := 5) rfl d8_spread_51 ?_
          obtain ⟨t19, e27, e23⟩ := zinv e23
          refine z_cVr fx (c4_isInUse (zLo X) (zDo X) Sh top hO (o_ + 37 + 2 * j11) μ4 _ (okA1 hO (ok8_1 hO ho) (rI_lt e13)) e27) mv4_isInUse ml8_292 (okA1 hO (ok8_1 hO ho) (rI_lt e13)) rfl rfl rfl rfl d8_spread_53 ?_
          cases e23
          refine z_ifb_eq fx d8_spread_56 (fun c28 => ?_) (fun c28 => ?_)
          · exact kf24 c28
          · exact kt24 c28
  exact klr5 _ _ _ e61
theorem d8_open_0 : zd cX8_open 0 (.aload_n 0) 1 1 := by decide +kernel
theorem d8_open_1 : zd cX8_open 1 (.getfield 19) 3 4 := by decide +kernel
theorem d8_open_4 : zd cX8_open 4 (.iload_n 1) 1 5 := by decide +kernel
theorem d8_open_5 : zd cX8_open 5 (.aaload) 1 6 := by decide +kernel
theorem d8_open_6 : zd cX8_open 6 (.astore_n 2) 1 7 := by decide +kernel
theorem d8_open_7 : zd cX8_open 7 (.aload_n 2) 1 8 := by decide +kernel
theorem d8_open_8 : zd cX8_open 8 (.getfield 165) 3 11 := by decide +kernel
theorem d8_open_11 : zd cX8_open 11 (.iconst 2) 1 12 := by decide +kernel
theorem d8_open_12 : zj cX8_open 12 (.if_icmp .ne 4) 4 15 16 := by decide +kernel
theorem d8_open_15 : zd cX8_open 15 (.return_) 1 16 := by decide +kernel
theorem d8_open_16 : zd cX8_open 16 (.aload_n 0) 1 17 := by decide +kernel
theorem d8_open_17 : zd cX8_open 17 (.iload_n 1) 1 18 := by decide +kernel
theorem d8_open_18 : zd cX8_open 18 (.iconst 2) 1 19 := by decide +kernel
theorem d8_open_19 : zd cX8_open 19 (.invokevirtual 273) 3 22 := by decide +kernel
theorem d8_open_22 : zd cX8_open 22 (.aload_n 2) 1 23 := by decide +kernel
theorem d8_open_23 : zd cX8_open 23 (.iconst 0) 1 24 := by decide +kernel
theorem d8_open_24 : zd cX8_open 24 (.putfield 277) 3 27 := by decide +kernel
theorem d8_open_27 : zd cX8_open 27 (.aload_n 2) 1 28 := by decide +kernel
theorem d8_open_28 : zd cX8_open 28 (.getfield 280) 3 31 := by decide +kernel
theorem d8_open_31 : zj cX8_open 31 (.ifCond .eq 4) 4 34 35 := by decide +kernel
theorem d8_open_34 : zd cX8_open 34 (.return_) 1 35 := by decide +kernel
theorem d8_open_35 : zd cX8_open 35 (.aload_n 2) 1 36 := by decide +kernel
theorem d8_open_36 : zd cX8_open 36 (.iconst 2) 1 37 := by decide +kernel
theorem d8_open_37 : zd cX8_open 37 (.putfield 283) 3 40 := by decide +kernel
theorem d8_open_40 : zd cX8_open 40 (.aload_n 2) 1 41 := by decide +kernel
theorem d8_open_41 : zd cX8_open 41 (.iconst 1) 1 42 := by decide +kernel
theorem d8_open_42 : zd cX8_open 42 (.putfield 286) 3 45 := by decide +kernel
theorem d8_open_45 : zd cX8_open 45 (.aload_n 0) 1 46 := by decide +kernel
theorem d8_open_46 : zd cX8_open 46 (.iload_n 1) 1 47 := by decide +kernel
theorem d8_open_47 : zd cX8_open 47 (.invokevirtual 289) 3 50 := by decide +kernel
theorem d8_open_50 : zd cX8_open 50 (.return_) 1 51 := by decide +kernel
set_option maxHeartbeats 4000000 in
set_option maxRecDepth 20000 in
theorem c8_open (l : Launch) (D : zDt) (Sh : zSh) (top : Nat) (hO : zOK Sh) (o_ : Nat) (v_end : Int32) (μ : zM) (μ_ : zM) (ho : (Sh o_).1 = 15) (h : f8_open o_ v_end μ = some μ_) : zMet l D zK1 yX8_open cX8_open 3 none (zrm 2 47) [.ref o_, .int v_end] Sh top μ none Sh top μ_ 0 0 := by
  refine zMet_of (by decide) (Nat.le_of_ble_eq_true rfl) fun X hX1 hX2 fx fin => ?_
  subst hX1; subst hX2
  replace fx : zFix X cX8_open RX8 (zrm 2 47) 3 := fx
  show zZ zK1 X (zT0 Sh top) μ 0 [(0, .ref o_), (1, .int v_end)] []
  unfold f8_open at h
  refine z_aload_n fx (k := 0) (i := 0) rfl rfl d8_open_0 ?_
  refine z_getO fx 8 1 2 ho lf8_19 fk8_1 d8_open_1 ?_
  refine z_iload_n fx (k := 1) (i := 1) rfl rfl d8_open_4 ?_
  obtain ⟨j1, e1, h⟩ := zinv h
  refine z_aald fx 1 (by decide) (ok8_1 hO ho) e1 (v := .ref (o_ + 37 + 2 * j1)) rfl d8_open_5 ?_
  refine z_astore_n fx (k := 2) (i := 2) rfl rfl (lv' := [(0, .ref o_), (1, .int v_end), (2, .ref (o_ + 37 + 2 * j1))]) rfl rfl d8_open_6 ?_
  refine z_aload_n fx (k := 2) (i := 2) rfl rfl d8_open_7 ?_
  refine z_getI fx 4 6 406 (okA1 hO (ok8_1 hO ho) (rI_lt e1)) lf8_165 ⟨fk4_6, rfl⟩ d8_open_8 ?_
  refine z_iconst fx (v := 2) ic2 d8_open_11 ?_
  refine z_icmp_ne fx d8_open_12 (fun c2 => ?_) (fun c2 => ?_)
  · replace h := zif_f c2 h
    refine z_aload_n fx (k := 0) (i := 0) rfl rfl d8_open_16 ?_
    refine z_iload_n fx (k := 1) (i := 1) rfl rfl d8_open_17 ?_
    refine z_iconst fx (v := 2) ic2 d8_open_18 ?_
    obtain ⟨μ2, e3, h⟩ := zinv h
    refine z_cVv fx (c8_enter (zLo X) (zDo X) Sh top hO o_ v_end 2 μ _ ho e3) mv8_enter ml8_273 ho rfl rfl rfl rfl d8_open_19 ?_
    refine z_aload_n fx (k := 2) (i := 2) rfl rfl d8_open_22 ?_
    refine z_iconst fx (v := 0) ic0 d8_open_23 ?_
    obtain ⟨μ3, e4, h⟩ := zinv h
    refine z_putI fx (ci := 4) 7 (okA1 hO (ok8_1 hO ho) (rI_lt e1)) lf8_277 fp4_7 e4 d8_open_24 ?_
    refine z_aload_n fx (k := 2) (i := 2) rfl rfl d8_open_27 ?_
    refine z_getB fx 4 10 410 (okA1 hO (ok8_1 hO ho) (rI_lt e1)) lf8_280 ⟨fk4_10, rfl⟩ d8_open_28 ?_
    refine z_ifb_eq fx d8_open_31 (fun c5 => ?_) (fun c5 => ?_)
    · replace h := zif_f c5 h
      refine z_aload_n fx (k := 2) (i := 2) rfl rfl d8_open_35 ?_
      refine z_iconst fx (v := 2) ic2 d8_open_36 ?_
      obtain ⟨μ4, e6, h⟩ := zinv h
      refine z_putI fx (ci := 4) 8 (okA1 hO (ok8_1 hO ho) (rI_lt e1)) lf8_283 fp4_8 e6 d8_open_37 ?_
      refine z_aload_n fx (k := 2) (i := 2) rfl rfl d8_open_40 ?_
      refine z_iconst fx (v := 1) ic1 d8_open_41 ?_
      refine z_top (show Value.int 1 = .int (bI true) from rfl) ?_
      obtain ⟨μ5, e7, h⟩ := zinv h
      refine z_putB fx (ci := 4) 14 (okA1 hO (ok8_1 hO ho) (rI_lt e1)) lf8_286 fp4_14 e7 d8_open_42 ?_
      refine z_aload_n fx (k := 0) (i := 0) rfl rfl d8_open_45 ?_
      refine z_iload_n fx (k := 1) (i := 1) rfl rfl d8_open_46 ?_
      obtain ⟨μ6, e8, h⟩ := zinv h
      refine z_cVv fx (c8_spread (zLo X) (zDo X) Sh top hO o_ v_end μ5 _ ho e8) mv8_spread ml8_289 ho rfl rfl rfl rfl d8_open_47 ?_
      cases h
      exact z_return fx fin d8_open_50
    · replace h := zif_t c5 h
      cases h
      exact z_return fx fin d8_open_34
  · replace h := zif_t c2 h
    cases h
    exact z_return fx fin d8_open_15
theorem d8_forgetAt_0 : zd cX8_forgetAt 0 (.aload_n 0) 1 1 := by decide +kernel
theorem d8_forgetAt_1 : zd cX8_forgetAt 1 (.getfield 62) 3 4 := by decide +kernel
theorem d8_forgetAt_4 : zd cX8_forgetAt 4 (.getfield 158) 3 7 := by decide +kernel
theorem d8_forgetAt_7 : zd cX8_forgetAt 7 (.iload_n 1) 1 8 := by decide +kernel
theorem d8_forgetAt_8 : zd cX8_forgetAt 8 (.iaload) 1 9 := by decide +kernel
theorem d8_forgetAt_9 : zd cX8_forgetAt 9 (.bipush 8) 2 11 := by decide +kernel
theorem d8_forgetAt_11 : zd cX8_forgetAt 11 (.imul) 1 12 := by decide +kernel
theorem d8_forgetAt_12 : zd cX8_forgetAt 12 (.istore_n 2) 1 13 := by decide +kernel
theorem d8_forgetAt_13 : zd cX8_forgetAt 13 (.iconst 0) 1 14 := by decide +kernel
theorem d8_forgetAt_14 : zd cX8_forgetAt 14 (.istore_n 3) 1 15 := by decide +kernel
theorem d8_forgetAt_15 : zd cX8_forgetAt 15 (.iload_n 3) 1 16 := by decide +kernel
theorem d8_forgetAt_16 : zd cX8_forgetAt 16 (.bipush 8) 2 18 := by decide +kernel
theorem d8_forgetAt_18 : zj cX8_forgetAt 18 (.if_icmp .ge 38) 38 21 56 := by decide +kernel
theorem d8_forgetAt_21 : zd cX8_forgetAt 21 (.aload_n 0) 1 22 := by decide +kernel
theorem d8_forgetAt_22 : zd cX8_forgetAt 22 (.getfield 37) 3 25 := by decide +kernel
theorem d8_forgetAt_25 : zd cX8_forgetAt 25 (.iload_n 2) 1 26 := by decide +kernel
theorem d8_forgetAt_26 : zd cX8_forgetAt 26 (.iload_n 3) 1 27 := by decide +kernel
theorem d8_forgetAt_27 : zd cX8_forgetAt 27 (.iadd) 1 28 := by decide +kernel
theorem d8_forgetAt_28 : zd cX8_forgetAt 28 (.iaload) 1 29 := by decide +kernel
theorem d8_forgetAt_29 : zd cX8_forgetAt 29 (.aload_n 0) 1 30 := by decide +kernel
theorem d8_forgetAt_30 : zd cX8_forgetAt 30 (.getfield 62) 3 33 := by decide +kernel
theorem d8_forgetAt_33 : zd cX8_forgetAt 33 (.getfield 189) 3 36 := by decide +kernel
theorem d8_forgetAt_36 : zd cX8_forgetAt 36 (.iload_n 1) 1 37 := by decide +kernel
theorem d8_forgetAt_37 : zd cX8_forgetAt 37 (.iaload) 1 38 := by decide +kernel
theorem d8_forgetAt_38 : zj cX8_forgetAt 38 (.if_icmp .ne 12) 12 41 50 := by decide +kernel
theorem d8_forgetAt_41 : zd cX8_forgetAt 41 (.aload_n 0) 1 42 := by decide +kernel
theorem d8_forgetAt_42 : zd cX8_forgetAt 42 (.getfield 37) 3 45 := by decide +kernel
theorem d8_forgetAt_45 : zd cX8_forgetAt 45 (.iload_n 2) 1 46 := by decide +kernel
theorem d8_forgetAt_46 : zd cX8_forgetAt 46 (.iload_n 3) 1 47 := by decide +kernel
theorem d8_forgetAt_47 : zd cX8_forgetAt 47 (.iadd) 1 48 := by decide +kernel
theorem d8_forgetAt_48 : zd cX8_forgetAt 48 (.iconst (-1)) 1 49 := by decide +kernel
theorem d8_forgetAt_49 : zd cX8_forgetAt 49 (.iastore) 1 50 := by decide +kernel
theorem d8_forgetAt_50 : zd cX8_forgetAt 50 (.iinc 3 1) 3 53 := by decide +kernel
theorem d8_forgetAt_53 : zj cX8_forgetAt 53 (.goto (-38)) (-38) 56 15 := by decide +kernel
theorem d8_forgetAt_56 : zd cX8_forgetAt 56 (.return_) 1 57 := by decide +kernel
set_option maxHeartbeats 4000000 in
set_option maxRecDepth 20000 in
theorem c8_forgetAt (l : Launch) (D : zDt) (Sh : zSh) (top : Nat) (hO : zOK Sh) (o_ : Nat) (v_end : Int32) (μ : zM) (μ_ : zM) (ho : (Sh o_).1 = 15) (h : f8_forgetAt o_ v_end μ = some μ_) : zMet l D zK1 yX8_forgetAt cX8_forgetAt 4 none (zrm 0 0) [.ref o_, .int v_end] Sh top μ none Sh top μ_ 0 0 := by
  refine zMet_of (by decide) (Nat.le_of_ble_eq_true rfl) fun X hX1 hX2 fx fin => ?_
  subst hX1; subst hX2
  replace fx : zFix X cX8_forgetAt RX8 (zrm 0 0) 4 := fx
  show zZ zK1 X (zT0 Sh top) μ 0 [(0, .ref o_), (1, .int v_end)] []
  unfold f8_forgetAt at h
  refine z_aload_n fx (k := 0) (i := 0) rfl rfl d8_forgetAt_0 ?_
  obtain ⟨w1, e1, h⟩ := zinv h
  refine z_getR fx 8 12 812 17 ho lf8_62 ⟨fk8_12, rfl⟩ e1 d8_forgetAt_1 (fun tw1 => ?_)
  refine z_getO fx 10 6 7 tw1 lf8_158 fk10_6 d8_forgetAt_4 ?_
  refine z_iload_n fx (k := 1) (i := 1) rfl rfl d8_forgetAt_7 ?_
  obtain ⟨t2, e2, h⟩ := zinv h
  refine z_iald fx (ok10_6 hO tw1) e2 d8_forgetAt_8 ?_
  refine z_bipush fx (v := 8) bp8 d8_forgetAt_9 ?_
  refine z_imul fx d8_forgetAt_11 ?_
  obtain ⟨v_row_3, e3, h⟩ := zinv h
  replace e3 := Option.some.inj e3
  refine z_top (congrArg Value.int e3) ?_
  refine z_istore_n fx (k := 2) (i := 2) rfl rfl (lv' := [(0, .ref o_), (1, .int v_end), (2, .int v_row_3)]) rfl rfl d8_forgetAt_12 ?_
  refine z_iconst fx (v := 0) ic0 d8_forgetAt_13 ?_
  refine z_istore_n fx (k := 3) (i := 3) rfl rfl (lv' := [(0, .ref o_), (1, .int v_end), (2, .int v_row_3), (3, .int 0)]) rfl rfl d8_forgetAt_14 ?_
  obtain ⟨v_h_6, μ7, e17, h⟩ := zinv2 h
  have kx7 : zZ zK1 X (zT0 Sh top) μ7 56 [(0, .ref o_), (1, .int v_end), (2, .int v_row_3), (3, .int v_h_6)] [] := by
    refine z_take 3 (lv' := [(0, .ref o_), (1, .int v_end), (2, .int v_row_3)]) rfl ?_
    cases h
    exact z_return fx fin d8_forgetAt_56
  clear h
  have klr6 : ∀ (n : Nat) (v_h_4 : Int32) (μ5 : zM), zloop (fun s => f8_forgetAt_L1 o_ v_end v_row_3 s.1 s.2) n (v_h_4, μ5) = some (v_h_6, μ7) → zZ zK1 X (zT0 Sh top) μ5 15 [(0, .ref o_), (1, .int v_end), (2, .int v_row_3), (3, .int v_h_4)] [] := by
    intro n
    induction n with
    | zero => intro v_h_4 μ5 hl5; cases hl5
    | succ n ih8 =>
      intro v_h_4 μ5 hl5
      obtain ⟨y, e4, hl5⟩ := zloop_inv hl5
      replace e4 : f8_forgetAt_L1 o_ v_end v_row_3 v_h_4 μ5 = some y := e4
      unfold f8_forgetAt_L1 at e4
      refine z_iload_n fx (k := 3) (i := 3) rfl rfl d8_forgetAt_15 ?_
      refine z_bipush fx (v := 8) bp8 d8_forgetAt_16 ?_
      refine z_icmp_ge fx d8_forgetAt_18 (fun c9 => ?_) (fun c9 => ?_)
      · replace e4 := zif_f c9 e4
        cases e4
        cases hl5
        exact kx7
      · replace e4 := zif_t c9 e4
        refine z_aload_n fx (k := 0) (i := 0) rfl rfl d8_forgetAt_21 ?_
        refine z_getO fx 8 5 6 ho lf8_37 fk8_5 d8_forgetAt_22 ?_
        refine z_iload_n fx (k := 2) (i := 2) rfl rfl d8_forgetAt_25 ?_
        refine z_iload_n fx (k := 3) (i := 3) rfl rfl d8_forgetAt_26 ?_
        refine z_iadd fx d8_forgetAt_27 ?_
        obtain ⟨t8, e10, e4⟩ := zinv e4
        refine z_iald fx (ok8_5 hO ho) e10 d8_forgetAt_28 ?_
        refine z_aload_n fx (k := 0) (i := 0) rfl rfl d8_forgetAt_29 ?_
        obtain ⟨w9, e11, e4⟩ := zinv e4
        refine z_getR fx 8 12 812 17 ho lf8_62 ⟨fk8_12, rfl⟩ e11 d8_forgetAt_30 (fun tw9 => ?_)
        refine z_getO fx 10 7 8 tw9 lf8_189 fk10_7 d8_forgetAt_33 ?_
        refine z_iload_n fx (k := 1) (i := 1) rfl rfl d8_forgetAt_36 ?_
        obtain ⟨t10, e12, e4⟩ := zinv e4
        refine z_iald fx (ok10_7 hO tw9) e12 d8_forgetAt_37 ?_
        refine z_icmp_ne fx d8_forgetAt_38 (fun c13 => ?_) (fun c13 => ?_)
        · replace e4 := zif_f c13 e4
          obtain ⟨v_h_11, e14, e4⟩ := zinv e4
          replace e14 := Option.some.inj e14
          refine z_iinc fx (i := 3) (x := v_h_4) (v := v_h_11) rfl (by rw [in1]; exact e14) rfl (lv' := [(0, .ref o_), (1, .int v_end), (2, .int v_row_3), (3, .int v_h_11)]) rfl rfl d8_forgetAt_50 ?_
          cases e4
          refine z_goto fx d8_forgetAt_53 ?_
          exact ih8 _ _ hl5
        · replace e4 := zif_t c13 e4
          refine z_aload_n fx (k := 0) (i := 0) rfl rfl d8_forgetAt_41 ?_
          refine z_getO fx 8 5 6 ho lf8_37 fk8_5 d8_forgetAt_42 ?_
          refine z_iload_n fx (k := 2) (i := 2) rfl rfl d8_forgetAt_45 ?_
          refine z_iload_n fx (k := 3) (i := 3) rfl rfl d8_forgetAt_46 ?_
          refine z_iadd fx d8_forgetAt_47 ?_
          refine z_iconst fx (v := (-1)) icm1 d8_forgetAt_48 ?_
          obtain ⟨μ12, e15, e4⟩ := zinv e4
          refine z_iast fx (ok8_5 hO ho) e15 d8_forgetAt_49 ?_
          obtain ⟨v_h_13, e16, e4⟩ := zinv e4
          replace e16 := Option.some.inj e16
          refine z_iinc fx (i := 3) (x := v_h_4) (v := v_h_13) rfl (by rw [in1]; exact e16) rfl (lv' := [(0, .ref o_), (1, .int v_end), (2, .int v_row_3), (3, .int v_h_13)]) rfl rfl d8_forgetAt_50 ?_
          cases e4
          refine z_goto fx d8_forgetAt_53 ?_
          exact ih8 _ _ hl5
  exact klr6 _ _ _ e17
theorem d8_shut_0 : zd cX8_shut 0 (.aload_n 0) 1 1 := by decide +kernel
theorem d8_shut_1 : zd cX8_shut 1 (.getfield 19) 3 4 := by decide +kernel
theorem d8_shut_4 : zd cX8_shut 4 (.iload_n 1) 1 5 := by decide +kernel
theorem d8_shut_5 : zd cX8_shut 5 (.aaload) 1 6 := by decide +kernel
theorem d8_shut_6 : zd cX8_shut 6 (.getfield 165) 3 9 := by decide +kernel
theorem d8_shut_9 : zj cX8_shut 9 (.ifCond .ne 4) 4 12 13 := by decide +kernel
theorem d8_shut_12 : zd cX8_shut 12 (.return_) 1 13 := by decide +kernel
theorem d8_shut_13 : zd cX8_shut 13 (.aload_n 0) 1 14 := by decide +kernel
theorem d8_shut_14 : zd cX8_shut 14 (.iload_n 1) 1 15 := by decide +kernel
theorem d8_shut_15 : zd cX8_shut 15 (.iconst 0) 1 16 := by decide +kernel
theorem d8_shut_16 : zd cX8_shut 16 (.invokevirtual 273) 3 19 := by decide +kernel
theorem d8_shut_19 : zd cX8_shut 19 (.aload_n 0) 1 20 := by decide +kernel
theorem d8_shut_20 : zd cX8_shut 20 (.iload_n 1) 1 21 := by decide +kernel
theorem d8_shut_21 : zd cX8_shut 21 (.invokevirtual 195) 3 24 := by decide +kernel
theorem d8_shut_24 : zd cX8_shut 24 (.return_) 1 25 := by decide +kernel
set_option maxHeartbeats 4000000 in
set_option maxRecDepth 20000 in
theorem c8_shut (l : Launch) (D : zDt) (Sh : zSh) (top : Nat) (hO : zOK Sh) (o_ : Nat) (v_end : Int32) (μ : zM) (μ_ : zM) (ho : (Sh o_).1 = 15) (h : f8_shut o_ v_end μ = some μ_) : zMet l D zK1 yX8_shut cX8_shut 2 none (zrm 1 23) [.ref o_, .int v_end] Sh top μ none Sh top μ_ 0 0 := by
  refine zMet_of (by decide) (Nat.le_of_ble_eq_true rfl) fun X hX1 hX2 fx fin => ?_
  subst hX1; subst hX2
  replace fx : zFix X cX8_shut RX8 (zrm 1 23) 2 := fx
  show zZ zK1 X (zT0 Sh top) μ 0 [(0, .ref o_), (1, .int v_end)] []
  unfold f8_shut at h
  refine z_aload_n fx (k := 0) (i := 0) rfl rfl d8_shut_0 ?_
  refine z_getO fx 8 1 2 ho lf8_19 fk8_1 d8_shut_1 ?_
  refine z_iload_n fx (k := 1) (i := 1) rfl rfl d8_shut_4 ?_
  obtain ⟨j1, e1, h⟩ := zinv h
  refine z_aald fx 1 (by decide) (ok8_1 hO ho) e1 (v := .ref (o_ + 37 + 2 * j1)) rfl d8_shut_5 ?_
  refine z_getI fx 4 6 406 (okA1 hO (ok8_1 hO ho) (rI_lt e1)) lf8_165 ⟨fk4_6, rfl⟩ d8_shut_6 ?_
  refine z_if_ne fx d8_shut_9 (fun c2 => ?_) (fun c2 => ?_)
  · replace h := zif_f c2 h
    refine z_aload_n fx (k := 0) (i := 0) rfl rfl d8_shut_13 ?_
    refine z_iload_n fx (k := 1) (i := 1) rfl rfl d8_shut_14 ?_
    refine z_iconst fx (v := 0) ic0 d8_shut_15 ?_
    obtain ⟨μ2, e3, h⟩ := zinv h
    refine z_cVv fx (c8_enter (zLo X) (zDo X) Sh top hO o_ v_end 0 μ _ ho e3) mv8_enter ml8_273 ho rfl rfl rfl rfl d8_shut_16 ?_
    refine z_aload_n fx (k := 0) (i := 0) rfl rfl d8_shut_19 ?_
    refine z_iload_n fx (k := 1) (i := 1) rfl rfl d8_shut_20 ?_
    obtain ⟨μ3, e4, h⟩ := zinv h
    refine z_cVv fx (c8_forgetAt (zLo X) (zDo X) Sh top hO o_ v_end μ2 _ ho e4) mv8_forgetAt ml8_195 ho rfl rfl rfl rfl d8_shut_21 ?_
    cases h
    exact z_return fx fin d8_shut_24
  · replace h := zif_t c2 h
    cases h
    exact z_return fx fin d8_shut_12
theorem d8_choose_0 : zd cX8_choose 0 (.aload_n 0) 1 1 := by decide +kernel
theorem d8_choose_1 : zd cX8_choose 1 (.getfield 11) 3 4 := by decide +kernel
theorem d8_choose_4 : zd cX8_choose 4 (.iload_n 1) 1 5 := by decide +kernel
theorem d8_choose_5 : zd cX8_choose 5 (.aaload) 1 6 := by decide +kernel
theorem d8_choose_6 : zd cX8_choose 6 (.astore_n 2) 1 7 := by decide +kernel
theorem d8_choose_7 : zd cX8_choose 7 (.aload_n 2) 1 8 := by decide +kernel
theorem d8_choose_8 : zd cX8_choose 8 (.getfield 201) 3 11 := by decide +kernel
theorem d8_choose_11 : zd cX8_choose 11 (.aload_n 2) 1 12 := by decide +kernel
theorem d8_choose_12 : zd cX8_choose 12 (.getfield 183) 3 15 := by decide +kernel
theorem d8_choose_15 : zd cX8_choose 15 (.invokevirtual 186) 3 18 := by decide +kernel
theorem d8_choose_18 : zd cX8_choose 18 (.aload_n 0) 1 19 := by decide +kernel
theorem d8_choose_19 : zd cX8_choose 19 (.aload_n 2) 1 20 := by decide +kernel
theorem d8_choose_20 : zd cX8_choose 20 (.invokevirtual 204) 3 23 := by decide +kernel
theorem d8_choose_23 : zd cX8_choose 23 (.aload_n 0) 1 24 := by decide +kernel
theorem d8_choose_24 : zd cX8_choose 24 (.aload_n 2) 1 25 := by decide +kernel
theorem d8_choose_25 : zd cX8_choose 25 (.invokevirtual 207) 3 28 := by decide +kernel
theorem d8_choose_28 : zd cX8_choose 28 (.aload_n 2) 1 29 := by decide +kernel
theorem d8_choose_29 : zd cX8_choose 29 (.getfield 201) 3 32 := by decide +kernel
theorem d8_choose_32 : zd cX8_choose 32 (.aload_n 2) 1 33 := by decide +kernel
theorem d8_choose_33 : zd cX8_choose 33 (.getfield 183) 3 36 := by decide +kernel
theorem d8_choose_36 : zd cX8_choose 36 (.invokevirtual 210) 3 39 := by decide +kernel
theorem d8_choose_39 : zd cX8_choose 39 (.istore_n 3) 1 40 := by decide +kernel
theorem d8_choose_40 : zd cX8_choose 40 (.iconst 0) 1 41 := by decide +kernel
theorem d8_choose_41 : zd cX8_choose 41 (.istore 4) 2 43 := by decide +kernel
theorem d8_choose_43 : zd cX8_choose 43 (.iload 4) 2 45 := by decide +kernel
theorem d8_choose_45 : zd cX8_choose 45 (.aload_n 0) 1 46 := by decide +kernel
theorem d8_choose_46 : zd cX8_choose 46 (.getfield 62) 3 49 := by decide +kernel
theorem d8_choose_49 : zd cX8_choose 49 (.getfield 174) 3 52 := by decide +kernel
theorem d8_choose_52 : zd cX8_choose 52 (.iload_n 1) 1 53 := by decide +kernel
theorem d8_choose_53 : zd cX8_choose 53 (.iaload) 1 54 := by decide +kernel
theorem d8_choose_54 : zj cX8_choose 54 (.if_icmp .ge 72) 72 57 126 := by decide +kernel
theorem d8_choose_57 : zd cX8_choose 57 (.aload_n 0) 1 58 := by decide +kernel
theorem d8_choose_58 : zd cX8_choose 58 (.getfield 62) 3 61 := by decide +kernel
theorem d8_choose_61 : zd cX8_choose 61 (.iload_n 1) 1 62 := by decide +kernel
theorem d8_choose_62 : zd cX8_choose 62 (.iload 4) 2 64 := by decide +kernel
theorem d8_choose_64 : zd cX8_choose 64 (.invokevirtual 176) 3 67 := by decide +kernel
theorem d8_choose_67 : zd cX8_choose 67 (.istore 5) 2 69 := by decide +kernel
theorem d8_choose_69 : zd cX8_choose 69 (.aload_n 0) 1 70 := by decide +kernel
theorem d8_choose_70 : zd cX8_choose 70 (.getfield 19) 3 73 := by decide +kernel
theorem d8_choose_73 : zd cX8_choose 73 (.iload 5) 2 75 := by decide +kernel
theorem d8_choose_75 : zd cX8_choose 75 (.aaload) 1 76 := by decide +kernel
theorem d8_choose_76 : zd cX8_choose 76 (.aload_n 2) 1 77 := by decide +kernel
theorem d8_choose_77 : zd cX8_choose 77 (.getfield 117) 3 80 := by decide +kernel
theorem d8_choose_80 : zd cX8_choose 80 (.iload_n 3) 1 81 := by decide +kernel
theorem d8_choose_81 : zd cX8_choose 81 (.aload_n 0) 1 82 := by decide +kernel
theorem d8_choose_82 : zd cX8_choose 82 (.getfield 62) 3 85 := by decide +kernel
theorem d8_choose_85 : zd cX8_choose 85 (.getfield 214) 3 88 := by decide +kernel
theorem d8_choose_88 : zd cX8_choose 88 (.invokevirtual 217) 3 91 := by decide +kernel
theorem d8_choose_91 : zd cX8_choose 91 (.istore 6) 2 93 := by decide +kernel
theorem d8_choose_93 : zd cX8_choose 93 (.iload 6) 2 95 := by decide +kernel
theorem d8_choose_95 : zd cX8_choose 95 (.iconst 1) 1 96 := by decide +kernel
theorem d8_choose_96 : zj cX8_choose 96 (.if_icmp .ne 12) 12 99 108 := by decide +kernel
theorem d8_choose_99 : zd cX8_choose 99 (.aload_n 0) 1 100 := by decide +kernel
theorem d8_choose_100 : zd cX8_choose 100 (.iload 5) 2 102 := by decide +kernel
theorem d8_choose_102 : zd cX8_choose 102 (.invokevirtual 221) 3 105 := by decide +kernel
theorem d8_choose_105 : zj cX8_choose 105 (.goto 15) 15 108 120 := by decide +kernel
theorem d8_choose_108 : zd cX8_choose 108 (.iload 6) 2 110 := by decide +kernel
theorem d8_choose_110 : zd cX8_choose 110 (.iconst 2) 1 111 := by decide +kernel
theorem d8_choose_111 : zj cX8_choose 111 (.if_icmp .ne 9) 9 114 120 := by decide +kernel
theorem d8_choose_114 : zd cX8_choose 114 (.aload_n 0) 1 115 := by decide +kernel
theorem d8_choose_115 : zd cX8_choose 115 (.iload 5) 2 117 := by decide +kernel
theorem d8_choose_117 : zd cX8_choose 117 (.invokevirtual 224) 3 120 := by decide +kernel
theorem d8_choose_120 : zd cX8_choose 120 (.iinc 4 1) 3 123 := by decide +kernel
theorem d8_choose_123 : zj cX8_choose 123 (.goto (-80)) (-80) 126 43 := by decide +kernel
theorem d8_choose_126 : zd cX8_choose 126 (.return_) 1 127 := by decide +kernel
set_option maxHeartbeats 4000000 in
set_option maxRecDepth 20000 in
theorem c8_choose (l : Launch) (D : zDt) (Sh : zSh) (top : Nat) (hO : zOK Sh) (o_ : Nat) (v_b : Int32) (μ : zM) (μ_ : zM) (ho : (Sh o_).1 = 15) (h : f8_choose o_ v_b μ = some μ_) : zMet l D zK1 yX8_choose cX8_choose 7 none (zrm 3 69) [.ref o_, .int v_b] Sh top μ none Sh top μ_ 0 0 := by
  refine zMet_of (by decide) (Nat.le_of_ble_eq_true rfl) fun X hX1 hX2 fx fin => ?_
  subst hX1; subst hX2
  replace fx : zFix X cX8_choose RX8 (zrm 3 69) 7 := fx
  show zZ zK1 X (zT0 Sh top) μ 0 [(0, .ref o_), (1, .int v_b)] []
  unfold f8_choose at h
  refine z_aload_n fx (k := 0) (i := 0) rfl rfl d8_choose_0 ?_
  refine z_getO fx 8 0 1 ho lf8_11 fk8_0 d8_choose_1 ?_
  refine z_iload_n fx (k := 1) (i := 1) rfl rfl d8_choose_4 ?_
  obtain ⟨j1, e1, h⟩ := zinv h
  refine z_aald fx 0 (by decide) (ok8_0 hO ho) e1 (v := .ref (o_ + 13 + 3 * j1)) rfl d8_choose_5 ?_
  refine z_astore_n fx (k := 2) (i := 2) rfl rfl (lv' := [(0, .ref o_), (1, .int v_b), (2, .ref (o_ + 13 + 3 * j1))]) rfl rfl d8_choose_6 ?_
  refine z_aload_n fx (k := 2) (i := 2) rfl rfl d8_choose_7 ?_
  refine z_getO fx 0 2 2 (okA0 hO (ok8_0 hO ho) (rI_lt e1)) lf8_201 fk0_2 d8_choose_8 ?_
  refine z_aload_n fx (k := 2) (i := 2) rfl rfl d8_choose_11 ?_
  refine z_getO fx 0 1 1 (okA0 hO (ok8_0 hO ho) (rI_lt e1)) lf8_183 fk0_1 d8_choose_12 ?_
  obtain ⟨μ2, e2, h⟩ := zinv h
  refine z_cVv fx (c9_copyFrom (zLo X) (zDo X) Sh top hO ((o_ + 13 + 3 * j1) + 2) ((o_ + 13 + 3 * j1) + 1) μ _ (ok0_2 hO (okA0 hO (ok8_0 hO ho) (rI_lt e1))) (ok0_1 hO (okA0 hO (ok8_0 hO ho) (rI_lt e1))) e2) mv9_copyFrom ml8_186 (ok0_2 hO (okA0 hO (ok8_0 hO ho) (rI_lt e1))) rfl rfl rfl rfl d8_choose_15 ?_
  refine z_aload_n fx (k := 0) (i := 0) rfl rfl d8_choose_18 ?_
  refine z_aload_n fx (k := 2) (i := 2) rfl rfl d8_choose_19 ?_
  obtain ⟨μ3, e3, h⟩ := zinv h
  refine z_cVv fx (c8_pickRoot (zLo X) (zDo X) Sh top hO o_ (o_ + 13 + 3 * j1) μ2 _ ho (okA0 hO (ok8_0 hO ho) (rI_lt e1)) e3) mv8_pickRoot ml8_204 ho rfl rfl rfl rfl d8_choose_20 ?_
  refine z_aload_n fx (k := 0) (i := 0) rfl rfl d8_choose_23 ?_
  refine z_aload_n fx (k := 2) (i := 2) rfl rfl d8_choose_24 ?_
  obtain ⟨μ4, e4, h⟩ := zinv h
  refine z_cVv fx (c8_tellRoles (zLo X) (zDo X) Sh top hO o_ (o_ + 13 + 3 * j1) μ3 _ ho (okA0 hO (ok8_0 hO ho) (rI_lt e1)) e4) mv8_tellRoles ml8_207 ho rfl rfl rfl rfl d8_choose_25 ?_
  refine z_aload_n fx (k := 2) (i := 2) rfl rfl d8_choose_28 ?_
  refine z_getO fx 0 2 2 (okA0 hO (ok8_0 hO ho) (rI_lt e1)) lf8_201 fk0_2 d8_choose_29 ?_
  refine z_aload_n fx (k := 2) (i := 2) rfl rfl d8_choose_32 ?_
  refine z_getO fx 0 1 1 (okA0 hO (ok8_0 hO ho) (rI_lt e1)) lf8_183 fk0_1 d8_choose_33 ?_
  obtain ⟨t5, e5, h⟩ := zinv h
  refine z_cVr fx (c9_against (zLo X) (zDo X) Sh top hO ((o_ + 13 + 3 * j1) + 2) ((o_ + 13 + 3 * j1) + 1) μ4 _ (ok0_2 hO (okA0 hO (ok8_0 hO ho) (rI_lt e1))) (ok0_1 hO (okA0 hO (ok8_0 hO ho) (rI_lt e1))) e5) mv9_against ml8_210 (ok0_2 hO (okA0 hO (ok8_0 hO ho) (rI_lt e1))) rfl rfl rfl rfl d8_choose_36 ?_
  refine z_istore_n fx (k := 3) (i := 3) rfl rfl (lv' := [(0, .ref o_), (1, .int v_b), (2, .ref (o_ + 13 + 3 * j1)), (3, .int t5)]) rfl rfl d8_choose_39 ?_
  refine z_iconst fx (v := 0) ic0 d8_choose_40 ?_
  refine z_istore fx (i := 4) rfl (lv' := [(0, .ref o_), (1, .int v_b), (2, .ref (o_ + 13 + 3 * j1)), (3, .int t5), (4, .int 0)]) rfl rfl d8_choose_41 ?_
  obtain ⟨v_p_8, μ9, e26, h⟩ := zinv2 h
  have kx9 : zZ zK1 X (zT0 Sh top) μ9 126 [(0, .ref o_), (1, .int v_b), (2, .ref (o_ + 13 + 3 * j1)), (3, .int t5), (4, .int v_p_8)] [] := by
    refine z_take 4 (lv' := [(0, .ref o_), (1, .int v_b), (2, .ref (o_ + 13 + 3 * j1)), (3, .int t5)]) rfl ?_
    cases h
    exact z_return fx fin d8_choose_126
  clear h
  have klr8 : ∀ (n : Nat) (v_p_6 : Int32) (μ7 : zM), zloop (fun s => f8_choose_L1 o_ v_b j1 t5 s.1 s.2) n (v_p_6, μ7) = some (v_p_8, μ9) → zZ zK1 X (zT0 Sh top) μ7 43 [(0, .ref o_), (1, .int v_b), (2, .ref (o_ + 13 + 3 * j1)), (3, .int t5), (4, .int v_p_6)] [] := by
    intro n
    induction n with
    | zero => intro v_p_6 μ7 hl7; cases hl7
    | succ n ih10 =>
      intro v_p_6 μ7 hl7
      obtain ⟨y, e6, hl7⟩ := zloop_inv hl7
      replace e6 : f8_choose_L1 o_ v_b j1 t5 v_p_6 μ7 = some y := e6
      unfold f8_choose_L1 at e6
      refine z_iload fx (i := 4) rfl d8_choose_43 ?_
      refine z_aload_n fx (k := 0) (i := 0) rfl rfl d8_choose_45 ?_
      obtain ⟨w10, e11, e6⟩ := zinv e6
      refine z_getR fx 8 12 812 17 ho lf8_62 ⟨fk8_12, rfl⟩ e11 d8_choose_46 (fun tw10 => ?_)
      refine z_getO fx 10 4 5 tw10 lf8_174 fk10_4 d8_choose_49 ?_
      refine z_iload_n fx (k := 1) (i := 1) rfl rfl d8_choose_52 ?_
      obtain ⟨t11, e12, e6⟩ := zinv e6
      refine z_iald fx (ok10_4 hO tw10) e12 d8_choose_53 ?_
      refine z_icmp_ge fx d8_choose_54 (fun c13 => ?_) (fun c13 => ?_)
      · replace e6 := zif_f c13 e6
        cases e6
        cases hl7
        exact kx9
      · replace e6 := zif_t c13 e6
        refine z_aload_n fx (k := 0) (i := 0) rfl rfl d8_choose_57 ?_
        obtain ⟨w12, e14, e6⟩ := zinv e6
        refine z_getR fx 8 12 812 17 ho lf8_62 ⟨fk8_12, rfl⟩ e14 d8_choose_58 (fun tw12 => ?_)
        refine z_iload_n fx (k := 1) (i := 1) rfl rfl d8_choose_61 ?_
        refine z_iload fx (i := 4) rfl d8_choose_62 ?_
        obtain ⟨t13, e15, e6⟩ := zinv e6
        refine z_cVr fx (c10_endOf (zLo X) (zDo X) Sh top hO w12 v_b v_p_6 μ7 _ tw12 e15) mv10_endOf ml8_176 tw12 rfl rfl rfl rfl d8_choose_64 ?_
        refine z_istore fx (i := 5) rfl (lv' := [(0, .ref o_), (1, .int v_b), (2, .ref (o_ + 13 + 3 * j1)), (3, .int t5), (4, .int v_p_6), (5, .int t13)]) rfl rfl d8_choose_67 ?_
        refine z_aload_n fx (k := 0) (i := 0) rfl rfl d8_choose_69 ?_
        refine z_getO fx 8 1 2 ho lf8_19 fk8_1 d8_choose_70 ?_
        refine z_iload fx (i := 5) rfl d8_choose_73 ?_
        obtain ⟨j14, e16, e6⟩ := zinv e6
        refine z_aald fx 1 (by decide) (ok8_1 hO ho) e16 (v := .ref (o_ + 37 + 2 * j14)) rfl d8_choose_75 ?_
        refine z_aload_n fx (k := 2) (i := 2) rfl rfl d8_choose_76 ?_
        refine z_getB fx 0 4 4 (okA0 hO (ok8_0 hO ho) (rI_lt e1)) lf8_117 ⟨fk0_4, rfl⟩ d8_choose_77 ?_
        refine z_iload_n fx (k := 3) (i := 3) rfl rfl d8_choose_80 ?_
        refine z_aload_n fx (k := 0) (i := 0) rfl rfl d8_choose_81 ?_
        obtain ⟨w15, e17, e6⟩ := zinv e6
        refine z_getR fx 8 12 812 17 ho lf8_62 ⟨fk8_12, rfl⟩ e17 d8_choose_82 (fun tw15 => ?_)
        refine z_getI fx 10 14 1014 tw15 lf8_214 ⟨fk10_14, rfl⟩ d8_choose_85 ?_
        obtain ⟨t16, μ17, e18, e6⟩ := zinv2 e6
        refine z_cVr fx (c4_settle (zLo X) (zDo X) Sh top hO (o_ + 37 + 2 * j14) (gB μ7 4 (o_ + 13 + 3 * j1)) t5 (gF μ7 1014 w15) μ7 _ _ (okA1 hO (ok8_1 hO ho) (rI_lt e16)) e18) mv4_settle ml8_217 (okA1 hO (ok8_1 hO ho) (rI_lt e16)) rfl rfl rfl rfl d8_choose_88 ?_
        refine z_istore fx (i := 6) rfl (lv' := [(0, .ref o_), (1, .int v_b), (2, .ref (o_ + 13 + 3 * j1)), (3, .int t5), (4, .int v_p_6), (5, .int t13), (6, .int t16)]) rfl rfl d8_choose_91 ?_
        refine z_iload fx (i := 6) rfl d8_choose_93 ?_
        refine z_iconst fx (v := 1) ic1 d8_choose_95 ?_
        refine z_icmp_ne fx d8_choose_96 (fun c19 => ?_) (fun c19 => ?_)
        · replace e6 := zif_f c19 e6
          refine z_iload fx (i := 6) rfl d8_choose_108 ?_
          refine z_iconst fx (v := 2) ic2 d8_choose_110 ?_
          refine z_icmp_ne fx d8_choose_111 (fun c20 => ?_) (fun c20 => ?_)
          · replace e6 := zif_f c20 e6
            refine z_take 5 (lv' := [(0, .ref o_), (1, .int v_b), (2, .ref (o_ + 13 + 3 * j1)), (3, .int t5), (4, .int v_p_6)]) rfl ?_
            obtain ⟨v_p_18, e21, e6⟩ := zinv e6
            replace e21 := Option.some.inj e21
            refine z_iinc fx (i := 4) (x := v_p_6) (v := v_p_18) rfl (by rw [in1]; exact e21) rfl (lv' := [(0, .ref o_), (1, .int v_b), (2, .ref (o_ + 13 + 3 * j1)), (3, .int t5), (4, .int v_p_18)]) rfl rfl d8_choose_120 ?_
            cases e6
            refine z_goto fx d8_choose_123 ?_
            exact ih10 _ _ hl7
          · replace e6 := zif_t c20 e6
            refine z_aload_n fx (k := 0) (i := 0) rfl rfl d8_choose_114 ?_
            refine z_iload fx (i := 5) rfl d8_choose_115 ?_
            obtain ⟨μ19, e22, e6⟩ := zinv e6
            refine z_cVv fx (c8_shut (zLo X) (zDo X) Sh top hO o_ t13 μ17 _ ho e22) mv8_shut ml8_224 ho rfl rfl rfl rfl d8_choose_117 ?_
            refine z_take 5 (lv' := [(0, .ref o_), (1, .int v_b), (2, .ref (o_ + 13 + 3 * j1)), (3, .int t5), (4, .int v_p_6)]) rfl ?_
            obtain ⟨v_p_20, e23, e6⟩ := zinv e6
            replace e23 := Option.some.inj e23
            refine z_iinc fx (i := 4) (x := v_p_6) (v := v_p_20) rfl (by rw [in1]; exact e23) rfl (lv' := [(0, .ref o_), (1, .int v_b), (2, .ref (o_ + 13 + 3 * j1)), (3, .int t5), (4, .int v_p_20)]) rfl rfl d8_choose_120 ?_
            cases e6
            refine z_goto fx d8_choose_123 ?_
            exact ih10 _ _ hl7
        · replace e6 := zif_t c19 e6
          refine z_aload_n fx (k := 0) (i := 0) rfl rfl d8_choose_99 ?_
          refine z_iload fx (i := 5) rfl d8_choose_100 ?_
          obtain ⟨μ21, e24, e6⟩ := zinv e6
          refine z_cVv fx (c8_open (zLo X) (zDo X) Sh top hO o_ t13 μ17 _ ho e24) mv8_open ml8_221 ho rfl rfl rfl rfl d8_choose_102 ?_
          refine z_take 5 (lv' := [(0, .ref o_), (1, .int v_b), (2, .ref (o_ + 13 + 3 * j1)), (3, .int t5), (4, .int v_p_6)]) rfl ?_
          refine z_goto fx d8_choose_105 ?_
          obtain ⟨v_p_22, e25, e6⟩ := zinv e6
          replace e25 := Option.some.inj e25
          refine z_iinc fx (i := 4) (x := v_p_6) (v := v_p_22) rfl (by rw [in1]; exact e25) rfl (lv' := [(0, .ref o_), (1, .int v_b), (2, .ref (o_ + 13 + 3 * j1)), (3, .int t5), (4, .int v_p_22)]) rfl rfl d8_choose_120 ?_
          cases e6
          refine z_goto fx d8_choose_123 ?_
          exact ih10 _ _ hl7
  exact klr8 _ _ _ e26
theorem d8_chooseTouched_0 : zd cX8_chooseTouched 0 (.iconst 0) 1 1 := by decide +kernel
theorem d8_chooseTouched_1 : zd cX8_chooseTouched 1 (.istore_n 1) 1 2 := by decide +kernel
theorem d8_chooseTouched_2 : zd cX8_chooseTouched 2 (.iload_n 1) 1 3 := by decide +kernel
theorem d8_chooseTouched_3 : zd cX8_chooseTouched 3 (.aload_n 0) 1 4 := by decide +kernel
theorem d8_chooseTouched_4 : zd cX8_chooseTouched 4 (.getfield 62) 3 7 := by decide +kernel
theorem d8_chooseTouched_7 : zd cX8_chooseTouched 7 (.getfield 100) 3 10 := by decide +kernel
theorem d8_chooseTouched_10 : zj cX8_chooseTouched 10 (.if_icmp .ge 42) 42 13 52 := by decide +kernel
theorem d8_chooseTouched_13 : zd cX8_chooseTouched 13 (.aload_n 0) 1 14 := by decide +kernel
theorem d8_chooseTouched_14 : zd cX8_chooseTouched 14 (.getfield 46) 3 17 := by decide +kernel
theorem d8_chooseTouched_17 : zd cX8_chooseTouched 17 (.iload_n 1) 1 18 := by decide +kernel
theorem d8_chooseTouched_18 : zd cX8_chooseTouched 18 (.baload) 1 19 := by decide +kernel
theorem d8_chooseTouched_19 : zj cX8_chooseTouched 19 (.ifCond .eq 20) 20 22 39 := by decide +kernel
theorem d8_chooseTouched_22 : zd cX8_chooseTouched 22 (.aload_n 0) 1 23 := by decide +kernel
theorem d8_chooseTouched_23 : zd cX8_chooseTouched 23 (.getfield 11) 3 26 := by decide +kernel
theorem d8_chooseTouched_26 : zd cX8_chooseTouched 26 (.iload_n 1) 1 27 := by decide +kernel
theorem d8_chooseTouched_27 : zd cX8_chooseTouched 27 (.aaload) 1 28 := by decide +kernel
theorem d8_chooseTouched_28 : zd cX8_chooseTouched 28 (.getfield 104) 3 31 := by decide +kernel
theorem d8_chooseTouched_31 : zj cX8_chooseTouched 31 (.ifCond .eq 8) 8 34 39 := by decide +kernel
theorem d8_chooseTouched_34 : zd cX8_chooseTouched 34 (.aload_n 0) 1 35 := by decide +kernel
theorem d8_chooseTouched_35 : zd cX8_chooseTouched 35 (.iload_n 1) 1 36 := by decide +kernel
theorem d8_chooseTouched_36 : zd cX8_chooseTouched 36 (.invokevirtual 198) 3 39 := by decide +kernel
theorem d8_chooseTouched_39 : zd cX8_chooseTouched 39 (.aload_n 0) 1 40 := by decide +kernel
theorem d8_chooseTouched_40 : zd cX8_chooseTouched 40 (.getfield 46) 3 43 := by decide +kernel
theorem d8_chooseTouched_43 : zd cX8_chooseTouched 43 (.iload_n 1) 1 44 := by decide +kernel
theorem d8_chooseTouched_44 : zd cX8_chooseTouched 44 (.iconst 0) 1 45 := by decide +kernel
theorem d8_chooseTouched_45 : zd cX8_chooseTouched 45 (.bastore) 1 46 := by decide +kernel
theorem d8_chooseTouched_46 : zd cX8_chooseTouched 46 (.iinc 1 1) 3 49 := by decide +kernel
theorem d8_chooseTouched_49 : zj cX8_chooseTouched 49 (.goto (-47)) (-47) 52 2 := by decide +kernel
theorem d8_chooseTouched_52 : zd cX8_chooseTouched 52 (.return_) 1 53 := by decide +kernel
set_option maxHeartbeats 4000000 in
set_option maxRecDepth 20000 in
theorem c8_chooseTouched (l : Launch) (D : zDt) (Sh : zSh) (top : Nat) (hO : zOK Sh) (o_ : Nat) (μ : zM) (μ_ : zM) (ho : (Sh o_).1 = 15) (h : f8_chooseTouched o_ μ = some μ_) : zMet l D zK1 yX8_chooseTouched cX8_chooseTouched 2 none (zrm 4 95) [.ref o_] Sh top μ none Sh top μ_ 0 0 := by
  refine zMet_of (by decide) (Nat.le_of_ble_eq_true rfl) fun X hX1 hX2 fx fin => ?_
  subst hX1; subst hX2
  replace fx : zFix X cX8_chooseTouched RX8 (zrm 4 95) 2 := fx
  show zZ zK1 X (zT0 Sh top) μ 0 [(0, .ref o_)] []
  unfold f8_chooseTouched at h
  refine z_iconst fx (v := 0) ic0 d8_chooseTouched_0 ?_
  refine z_istore_n fx (k := 1) (i := 1) rfl rfl (lv' := [(0, .ref o_), (1, .int 0)]) rfl rfl d8_chooseTouched_1 ?_
  obtain ⟨v_b_3, μ4, e21, h⟩ := zinv2 h
  have kx4 : zZ zK1 X (zT0 Sh top) μ4 52 [(0, .ref o_), (1, .int v_b_3)] [] := by
    refine z_take 1 (lv' := [(0, .ref o_)]) rfl ?_
    cases h
    exact z_return fx fin d8_chooseTouched_52
  clear h
  have klr3 : ∀ (n : Nat) (v_b_1 : Int32) (μ2 : zM), zloop (fun s => f8_chooseTouched_L1 o_ s.1 s.2) n (v_b_1, μ2) = some (v_b_3, μ4) → zZ zK1 X (zT0 Sh top) μ2 2 [(0, .ref o_), (1, .int v_b_1)] [] := by
    intro n
    induction n with
    | zero => intro v_b_1 μ2 hl2; cases hl2
    | succ n ih5 =>
      intro v_b_1 μ2 hl2
      obtain ⟨y, e1, hl2⟩ := zloop_inv hl2
      replace e1 : f8_chooseTouched_L1 o_ v_b_1 μ2 = some y := e1
      unfold f8_chooseTouched_L1 at e1
      refine z_iload_n fx (k := 1) (i := 1) rfl rfl d8_chooseTouched_2 ?_
      refine z_aload_n fx (k := 0) (i := 0) rfl rfl d8_chooseTouched_3 ?_
      obtain ⟨w5, e6, e1⟩ := zinv e1
      refine z_getR fx 8 12 812 17 ho lf8_62 ⟨fk8_12, rfl⟩ e6 d8_chooseTouched_4 (fun tw5 => ?_)
      refine z_getI fx 10 15 1015 tw5 lf8_100 ⟨fk10_15, rfl⟩ d8_chooseTouched_7 ?_
      refine z_icmp_ge fx d8_chooseTouched_10 (fun c7 => ?_) (fun c7 => ?_)
      · replace e1 := zif_f c7 e1
        cases e1
        cases hl2
        exact kx4
      · replace e1 := zif_t c7 e1
        obtain ⟨μ6, e8, e1⟩ := zinv e1
        have k9 : zZ zK1 X (zT0 Sh top) μ6 39 [(0, .ref o_), (1, .int v_b_1)] [] := by
          refine z_aload_n fx (k := 0) (i := 0) rfl rfl d8_chooseTouched_39 ?_
          refine z_getO fx 8 8 9 ho lf8_46 fk8_8 d8_chooseTouched_40 ?_
          refine z_iload_n fx (k := 1) (i := 1) rfl rfl d8_chooseTouched_43 ?_
          refine z_iconst fx (v := 0) ic0 d8_chooseTouched_44 ?_
          refine z_top (show Value.int 0 = .int (bI false) from rfl) ?_
          obtain ⟨μ7, e10, e1⟩ := zinv e1
          refine z_zast fx (ok8_8 hO ho) e10 d8_chooseTouched_45 ?_
          obtain ⟨v_b_8, e11, e1⟩ := zinv e1
          replace e11 := Option.some.inj e11
          refine z_iinc fx (i := 1) (x := v_b_1) (v := v_b_8) rfl (by rw [in1]; exact e11) rfl (lv' := [(0, .ref o_), (1, .int v_b_8)]) rfl rfl d8_chooseTouched_46 ?_
          cases e1
          refine z_goto fx d8_chooseTouched_49 ?_
          exact ih5 _ _ hl2
        clear e1
        obtain ⟨b9, e13, e8⟩ := zinv e8
        have kt12 : b9 = true → zZ zK1 X (zT0 Sh top) μ2 34 [(0, .ref o_), (1, .int v_b_1)] [] := by
          intro hc
          replace e8 := zif_t hc e8
          refine z_aload_n fx (k := 0) (i := 0) rfl rfl d8_chooseTouched_34 ?_
          refine z_iload_n fx (k := 1) (i := 1) rfl rfl d8_chooseTouched_35 ?_
          obtain ⟨μ10, e14, e8⟩ := zinv e8
          refine z_cVv fx (c8_choose (zLo X) (zDo X) Sh top hO o_ v_b_1 μ2 _ ho e14) mv8_choose ml8_198 ho rfl rfl rfl rfl d8_chooseTouched_36 ?_
          cases e8
          exact k9
        have kf12 : b9 = false → zZ zK1 X (zT0 Sh top) μ2 39 [(0, .ref o_), (1, .int v_b_1)] [] := by
          intro hc
          replace e8 := zif_f hc e8
          cases e8
          exact k9
        clear e8
        obtain ⟨b11, e15, e13⟩ := zinv e13
        have kt16 : b11 = true → zZ zK1 X (zT0 Sh top) μ2 22 [(0, .ref o_), (1, .int v_b_1)] [] := by
          intro hc
          replace e13 := zif_t hc e13
          refine z_aload_n fx (k := 0) (i := 0) rfl rfl d8_chooseTouched_22 ?_
          refine z_getO fx 8 0 1 ho lf8_11 fk8_0 d8_chooseTouched_23 ?_
          refine z_iload_n fx (k := 1) (i := 1) rfl rfl d8_chooseTouched_26 ?_
          obtain ⟨j12, e17, e13⟩ := zinv e13
          refine z_aald fx 0 (by decide) (ok8_0 hO ho) e17 (v := .ref (o_ + 13 + 3 * j12)) rfl d8_chooseTouched_27 ?_
          refine z_getB fx 0 3 3 (okA0 hO (ok8_0 hO ho) (rI_lt e17)) lf8_104 ⟨fk0_3, rfl⟩ d8_chooseTouched_28 ?_
          cases e13
          refine z_ifb_eq fx d8_chooseTouched_31 (fun c18 => ?_) (fun c18 => ?_)
          · exact kf12 c18
          · exact kt12 c18
        have kf16 : b11 = false → zZ zK1 X (zT0 Sh top) μ2 39 [(0, .ref o_), (1, .int v_b_1)] [] := by
          intro hc
          replace e13 := zif_f hc e13
          cases e13
          exact kf12 rfl
        clear e13
        refine z_aload_n fx (k := 0) (i := 0) rfl rfl d8_chooseTouched_13 ?_
        refine z_getO fx 8 8 9 ho lf8_46 fk8_8 d8_chooseTouched_14 ?_
        refine z_iload_n fx (k := 1) (i := 1) rfl rfl d8_chooseTouched_17 ?_
        obtain ⟨t13, e19, e15⟩ := zinv e15
        refine z_zald fx (ok8_8 hO ho) e19 d8_chooseTouched_18 ?_
        cases e15
        refine z_ifb_eq fx d8_chooseTouched_19 (fun c20 => ?_) (fun c20 => ?_)
        · exact kf16 c20
        · exact kt16 c20
  exact klr3 _ _ _ e21
theorem d8_begin_0 : zd cX8_begin 0 (.aload_n 0) 1 1 := by decide +kernel
theorem d8_begin_1 : zd cX8_begin 1 (.iconst 0) 1 2 := by decide +kernel
theorem d8_begin_2 : zd cX8_begin 2 (.putfield 71) 3 5 := by decide +kernel
theorem d8_begin_5 : zd cX8_begin 5 (.aload_n 0) 1 6 := by decide +kernel
theorem d8_begin_6 : zd cX8_begin 6 (.iconst 0) 1 7 := by decide +kernel
theorem d8_begin_7 : zd cX8_begin 7 (.putfield 75) 3 10 := by decide +kernel
theorem d8_begin_10 : zd cX8_begin 10 (.aload_n 0) 1 11 := by decide +kernel
theorem d8_begin_11 : zd cX8_begin 11 (.iconst 0) 1 12 := by decide +kernel
theorem d8_begin_12 : zd cX8_begin 12 (.putfield 78) 3 15 := by decide +kernel
theorem d8_begin_15 : zd cX8_begin 15 (.aload_n 0) 1 16 := by decide +kernel
theorem d8_begin_16 : zd cX8_begin 16 (.iconst 0) 1 17 := by decide +kernel
theorem d8_begin_17 : zd cX8_begin 17 (.putfield 81) 3 20 := by decide +kernel
theorem d8_begin_20 : zd cX8_begin 20 (.aload_n 0) 1 21 := by decide +kernel
theorem d8_begin_21 : zd cX8_begin 21 (.getfield 37) 3 24 := by decide +kernel
theorem d8_begin_24 : zd cX8_begin 24 (.iconst (-1)) 1 25 := by decide +kernel
theorem d8_begin_25 : zd cX8_begin 25 (.invokestatic 129) 3 28 := by decide +kernel
theorem d8_begin_28 : zd cX8_begin 28 (.aload_n 0) 1 29 := by decide +kernel
theorem d8_begin_29 : zd cX8_begin 29 (.getfield 40) 3 32 := by decide +kernel
theorem d8_begin_32 : zd cX8_begin 32 (.iconst 0) 1 33 := by decide +kernel
theorem d8_begin_33 : zd cX8_begin 33 (.invokestatic 129) 3 36 := by decide +kernel
theorem d8_begin_36 : zd cX8_begin 36 (.aload_n 0) 1 37 := by decide +kernel
theorem d8_begin_37 : zd cX8_begin 37 (.iconst 1) 1 38 := by decide +kernel
theorem d8_begin_38 : zd cX8_begin 38 (.putfield 135) 3 41 := by decide +kernel
theorem d8_begin_41 : zd cX8_begin 41 (.iconst 0) 1 42 := by decide +kernel
theorem d8_begin_42 : zd cX8_begin 42 (.istore_n 1) 1 43 := by decide +kernel
theorem d8_begin_43 : zd cX8_begin 43 (.iload_n 1) 1 44 := by decide +kernel
theorem d8_begin_44 : zd cX8_begin 44 (.iconst 2) 1 45 := by decide +kernel
theorem d8_begin_45 : zd cX8_begin 45 (.aload_n 0) 1 46 := by decide +kernel
theorem d8_begin_46 : zd cX8_begin 46 (.getfield 62) 3 49 := by decide +kernel
theorem d8_begin_49 : zd cX8_begin 49 (.getfield 120) 3 52 := by decide +kernel
theorem d8_begin_52 : zd cX8_begin 52 (.imul) 1 53 := by decide +kernel
theorem d8_begin_53 : zj cX8_begin 53 (.if_icmp .ge 48) 48 56 101 := by decide +kernel
theorem d8_begin_56 : zd cX8_begin 56 (.aload_n 0) 1 57 := by decide +kernel
theorem d8_begin_57 : zd cX8_begin 57 (.iload_n 1) 1 58 := by decide +kernel
theorem d8_begin_58 : zd cX8_begin 58 (.invokevirtual 138) 3 61 := by decide +kernel
theorem d8_begin_61 : zd cX8_begin 61 (.aload_n 0) 1 62 := by decide +kernel
theorem d8_begin_62 : zd cX8_begin 62 (.getfield 19) 3 65 := by decide +kernel
theorem d8_begin_65 : zd cX8_begin 65 (.iload_n 1) 1 66 := by decide +kernel
theorem d8_begin_66 : zd cX8_begin 66 (.aaload) 1 67 := by decide +kernel
theorem d8_begin_67 : zd cX8_begin 67 (.aload_n 0) 1 68 := by decide +kernel
theorem d8_begin_68 : zd cX8_begin 68 (.iload_n 1) 1 69 := by decide +kernel
theorem d8_begin_69 : zd cX8_begin 69 (.invokevirtual 141) 3 72 := by decide +kernel
theorem d8_begin_72 : zj cX8_begin 72 (.ifCond .eq 19) 19 75 91 := by decide +kernel
theorem d8_begin_75 : zd cX8_begin 75 (.aload_n 0) 1 76 := by decide +kernel
theorem d8_begin_76 : zd cX8_begin 76 (.getfield 62) 3 79 := by decide +kernel
theorem d8_begin_79 : zd cX8_begin 79 (.getfield 145) 3 82 := by decide +kernel
theorem d8_begin_82 : zd cX8_begin 82 (.iload_n 1) 1 83 := by decide +kernel
theorem d8_begin_83 : zd cX8_begin 83 (.baload) 1 84 := by decide +kernel
theorem d8_begin_84 : zj cX8_begin 84 (.ifCond .eq 7) 7 87 91 := by decide +kernel
theorem d8_begin_87 : zd cX8_begin 87 (.iconst 1) 1 88 := by decide +kernel
theorem d8_begin_88 : zj cX8_begin 88 (.goto 4) 4 91 92 := by decide +kernel
theorem d8_begin_91 : zd cX8_begin 91 (.iconst 0) 1 92 := by decide +kernel
theorem d8_begin_92 : zd cX8_begin 92 (.invokevirtual 148) 3 95 := by decide +kernel
theorem d8_begin_95 : zd cX8_begin 95 (.iinc 1 1) 3 98 := by decide +kernel
theorem d8_begin_98 : zj cX8_begin 98 (.goto (-55)) (-55) 101 43 := by decide +kernel
theorem d8_begin_101 : zd cX8_begin 101 (.iconst 0) 1 102 := by decide +kernel
theorem d8_begin_102 : zd cX8_begin 102 (.istore_n 1) 1 103 := by decide +kernel
theorem d8_begin_103 : zd cX8_begin 103 (.iload_n 1) 1 104 := by decide +kernel
theorem d8_begin_104 : zd cX8_begin 104 (.aload_n 0) 1 105 := by decide +kernel
theorem d8_begin_105 : zd cX8_begin 105 (.getfield 62) 3 108 := by decide +kernel
theorem d8_begin_108 : zd cX8_begin 108 (.getfield 100) 3 111 := by decide +kernel
theorem d8_begin_111 : zj cX8_begin 111 (.if_icmp .ge 26) 26 114 137 := by decide +kernel
theorem d8_begin_114 : zd cX8_begin 114 (.aload_n 0) 1 115 := by decide +kernel
theorem d8_begin_115 : zd cX8_begin 115 (.getfield 11) 3 118 := by decide +kernel
theorem d8_begin_118 : zd cX8_begin 118 (.iload_n 1) 1 119 := by decide +kernel
theorem d8_begin_119 : zd cX8_begin 119 (.aaload) 1 120 := by decide +kernel
theorem d8_begin_120 : zd cX8_begin 120 (.iconst 0) 1 121 := by decide +kernel
theorem d8_begin_121 : zd cX8_begin 121 (.putfield 152) 3 124 := by decide +kernel
theorem d8_begin_124 : zd cX8_begin 124 (.aload_n 0) 1 125 := by decide +kernel
theorem d8_begin_125 : zd cX8_begin 125 (.getfield 46) 3 128 := by decide +kernel
theorem d8_begin_128 : zd cX8_begin 128 (.iload_n 1) 1 129 := by decide +kernel
theorem d8_begin_129 : zd cX8_begin 129 (.iconst 1) 1 130 := by decide +kernel
theorem d8_begin_130 : zd cX8_begin 130 (.bastore) 1 131 := by decide +kernel
theorem d8_begin_131 : zd cX8_begin 131 (.iinc 1 1) 3 134 := by decide +kernel
theorem d8_begin_134 : zj cX8_begin 134 (.goto (-31)) (-31) 137 103 := by decide +kernel
theorem d8_begin_137 : zd cX8_begin 137 (.aload_n 0) 1 138 := by decide +kernel
theorem d8_begin_138 : zd cX8_begin 138 (.invokevirtual 155) 3 141 := by decide +kernel
theorem d8_begin_141 : zd cX8_begin 141 (.aload_n 0) 1 142 := by decide +kernel
theorem d8_begin_142 : zd cX8_begin 142 (.iconst 0) 1 143 := by decide +kernel
theorem d8_begin_143 : zd cX8_begin 143 (.putfield 135) 3 146 := by decide +kernel
theorem d8_begin_146 : zd cX8_begin 146 (.return_) 1 147 := by decide +kernel
set_option maxHeartbeats 4000000 in
set_option maxRecDepth 20000 in
theorem c8_begin (l : Launch) (D : zDt) (Sh : zSh) (top : Nat) (hO : zOK Sh) (o_ : Nat) (μ : zM) (μ_ : zM) (ho : (Sh o_).1 = 15) (h : f8_begin o_ μ = some μ_) : zMet l D zK1 yX8_begin cX8_begin 2 none (zrm 5 116) [.ref o_] Sh top μ none Sh top μ_ 0 0 := by
  refine zMet_of (by decide) (Nat.le_of_ble_eq_true rfl) fun X hX1 hX2 fx fin => ?_
  subst hX1; subst hX2
  replace fx : zFix X cX8_begin RX8 (zrm 5 116) 2 := fx
  show zZ zK1 X (zT0 Sh top) μ 0 [(0, .ref o_)] []
  unfold f8_begin at h
  refine z_aload_n fx (k := 0) (i := 0) rfl rfl d8_begin_0 ?_
  refine z_iconst fx (v := 0) ic0 d8_begin_1 ?_
  obtain ⟨μ1, e1, h⟩ := zinv h
  refine z_putI fx (ci := 8) 13 ho lf8_71 fp8_13 e1 d8_begin_2 ?_
  refine z_aload_n fx (k := 0) (i := 0) rfl rfl d8_begin_5 ?_
  refine z_iconst fx (v := 0) ic0 d8_begin_6 ?_
  obtain ⟨μ2, e2, h⟩ := zinv h
  refine z_putI fx (ci := 8) 14 ho lf8_75 fp8_14 e2 d8_begin_7 ?_
  refine z_aload_n fx (k := 0) (i := 0) rfl rfl d8_begin_10 ?_
  refine z_iconst fx (v := 0) ic0 d8_begin_11 ?_
  obtain ⟨μ3, e3, h⟩ := zinv h
  refine z_putI fx (ci := 8) 15 ho lf8_78 fp8_15 e3 d8_begin_12 ?_
  refine z_aload_n fx (k := 0) (i := 0) rfl rfl d8_begin_15 ?_
  refine z_iconst fx (v := 0) ic0 d8_begin_16 ?_
  obtain ⟨μ4, e4, h⟩ := zinv h
  refine z_putI fx (ci := 8) 16 ho lf8_81 fp8_16 e4 d8_begin_17 ?_
  refine z_aload_n fx (k := 0) (i := 0) rfl rfl d8_begin_20 ?_
  refine z_getO fx 8 5 6 ho lf8_37 fk8_5 d8_begin_21 ?_
  refine z_iconst fx (v := (-1)) icm1 d8_begin_24 ?_
  obtain ⟨μ5, e5, h⟩ := zinv h
  refine z_cSv fx (cJ_fill (zLo X) (zDo X) Sh top hO (o_ + 6) 64 (-1) μ4 _ (ok8_5 hO ho) (Nat.le_of_ble_eq_true rfl) e5) msJ_fill ml8_129 rfl rfl rfl rfl d8_begin_25 ?_
  refine z_aload_n fx (k := 0) (i := 0) rfl rfl d8_begin_28 ?_
  refine z_getO fx 8 6 7 ho lf8_40 fk8_6 d8_begin_29 ?_
  refine z_iconst fx (v := 0) ic0 d8_begin_32 ?_
  obtain ⟨μ6, e6, h⟩ := zinv h
  refine z_cSv fx (cJ_fill (zLo X) (zDo X) Sh top hO (o_ + 7) 64 0 μ5 _ (ok8_6 hO ho) (Nat.le_of_ble_eq_true rfl) e6) msJ_fill ml8_129 rfl rfl rfl rfl d8_begin_33 ?_
  refine z_aload_n fx (k := 0) (i := 0) rfl rfl d8_begin_36 ?_
  refine z_iconst fx (v := 1) ic1 d8_begin_37 ?_
  refine z_top (show Value.int 1 = .int (bI true) from rfl) ?_
  obtain ⟨μ7, e7, h⟩ := zinv h
  refine z_putB fx (ci := 8) 17 ho lf8_135 fp8_17 e7 d8_begin_38 ?_
  refine z_iconst fx (v := 0) ic0 d8_begin_41 ?_
  refine z_istore_n fx (k := 1) (i := 1) rfl rfl (lv' := [(0, .ref o_), (1, .int 0)]) rfl rfl d8_begin_42 ?_
  obtain ⟨v_end_10, μ11, e43, h⟩ := zinv2 h
  have kx11 : zZ zK1 X (zT0 Sh top) μ11 101 [(0, .ref o_), (1, .int v_end_10)] [] := by
    refine z_take 1 (lv' := [(0, .ref o_)]) rfl ?_
    refine z_iconst fx (v := 0) ic0 d8_begin_101 ?_
    refine z_istore_n fx (k := 1) (i := 1) rfl rfl (lv' := [(0, .ref o_), (1, .int 0)]) rfl rfl d8_begin_102 ?_
    obtain ⟨v_b_24, μ25, e42, h⟩ := zinv2 h
    have kx32 : zZ zK1 X (zT0 Sh top) μ25 137 [(0, .ref o_), (1, .int v_b_24)] [] := by
      refine z_take 1 (lv' := [(0, .ref o_)]) rfl ?_
      refine z_aload_n fx (k := 0) (i := 0) rfl rfl d8_begin_137 ?_
      obtain ⟨μ31, e40, h⟩ := zinv h
      refine z_cVv fx (c8_chooseTouched (zLo X) (zDo X) Sh top hO o_ μ25 _ ho e40) mv8_chooseTouched ml8_155 ho rfl rfl rfl rfl d8_begin_138 ?_
      refine z_aload_n fx (k := 0) (i := 0) rfl rfl d8_begin_141 ?_
      refine z_iconst fx (v := 0) ic0 d8_begin_142 ?_
      refine z_top (show Value.int 0 = .int (bI false) from rfl) ?_
      obtain ⟨μ32, e41, h⟩ := zinv h
      refine z_putB fx (ci := 8) 17 ho lf8_135 fp8_17 e41 d8_begin_143 ?_
      cases h
      exact z_return fx fin d8_begin_146
    clear h
    have klr31 : ∀ (n : Nat) (v_b_22 : Int32) (μ23 : zM), zloop (fun s => f8_begin_L2 o_ s.1 s.2) n (v_b_22, μ23) = some (v_b_24, μ25) → zZ zK1 X (zT0 Sh top) μ23 103 [(0, .ref o_), (1, .int v_b_22)] [] := by
      intro n
      induction n with
      | zero => intro v_b_22 μ23 hl30; cases hl30
      | succ n ih33 =>
        intro v_b_22 μ23 hl30
        obtain ⟨y, e29, hl30⟩ := zloop_inv hl30
        replace e29 : f8_begin_L2 o_ v_b_22 μ23 = some y := e29
        unfold f8_begin_L2 at e29
        refine z_iload_n fx (k := 1) (i := 1) rfl rfl d8_begin_103 ?_
        refine z_aload_n fx (k := 0) (i := 0) rfl rfl d8_begin_104 ?_
        obtain ⟨w26, e34, e29⟩ := zinv e29
        refine z_getR fx 8 12 812 17 ho lf8_62 ⟨fk8_12, rfl⟩ e34 d8_begin_105 (fun tw26 => ?_)
        refine z_getI fx 10 15 1015 tw26 lf8_100 ⟨fk10_15, rfl⟩ d8_begin_108 ?_
        refine z_icmp_ge fx d8_begin_111 (fun c35 => ?_) (fun c35 => ?_)
        · replace e29 := zif_f c35 e29
          cases e29
          cases hl30
          exact kx32
        · replace e29 := zif_t c35 e29
          refine z_aload_n fx (k := 0) (i := 0) rfl rfl d8_begin_114 ?_
          refine z_getO fx 8 0 1 ho lf8_11 fk8_0 d8_begin_115 ?_
          refine z_iload_n fx (k := 1) (i := 1) rfl rfl d8_begin_118 ?_
          obtain ⟨j27, e36, e29⟩ := zinv e29
          refine z_aald fx 0 (by decide) (ok8_0 hO ho) e36 (v := .ref (o_ + 13 + 3 * j27)) rfl d8_begin_119 ?_
          refine z_iconst fx (v := 0) ic0 d8_begin_120 ?_
          obtain ⟨μ28, e37, e29⟩ := zinv e29
          refine z_putI fx (ci := 0) 8 (okA0 hO (ok8_0 hO ho) (rI_lt e36)) lf8_152 fp0_8 e37 d8_begin_121 ?_
          refine z_aload_n fx (k := 0) (i := 0) rfl rfl d8_begin_124 ?_
          refine z_getO fx 8 8 9 ho lf8_46 fk8_8 d8_begin_125 ?_
          refine z_iload_n fx (k := 1) (i := 1) rfl rfl d8_begin_128 ?_
          refine z_iconst fx (v := 1) ic1 d8_begin_129 ?_
          refine z_top (show Value.int 1 = .int (bI true) from rfl) ?_
          obtain ⟨μ29, e38, e29⟩ := zinv e29
          refine z_zast fx (ok8_8 hO ho) e38 d8_begin_130 ?_
          obtain ⟨v_b_30, e39, e29⟩ := zinv e29
          replace e39 := Option.some.inj e39
          refine z_iinc fx (i := 1) (x := v_b_22) (v := v_b_30) rfl (by rw [in1]; exact e39) rfl (lv' := [(0, .ref o_), (1, .int v_b_30)]) rfl rfl d8_begin_131 ?_
          cases e29
          refine z_goto fx d8_begin_134 ?_
          exact ih33 _ _ hl30
    exact klr31 _ _ _ e42
  clear h
  have klr10 : ∀ (n : Nat) (v_end_8 : Int32) (μ9 : zM), zloop (fun s => f8_begin_L1 o_ s.1 s.2) n (v_end_8, μ9) = some (v_end_10, μ11) → zZ zK1 X (zT0 Sh top) μ9 43 [(0, .ref o_), (1, .int v_end_8)] [] := by
    intro n
    induction n with
    | zero => intro v_end_8 μ9 hl9; cases hl9
    | succ n ih12 =>
      intro v_end_8 μ9 hl9
      obtain ⟨y, e8, hl9⟩ := zloop_inv hl9
      replace e8 : f8_begin_L1 o_ v_end_8 μ9 = some y := e8
      unfold f8_begin_L1 at e8
      refine z_iload_n fx (k := 1) (i := 1) rfl rfl d8_begin_43 ?_
      refine z_iconst fx (v := 2) ic2 d8_begin_44 ?_
      refine z_aload_n fx (k := 0) (i := 0) rfl rfl d8_begin_45 ?_
      obtain ⟨w12, e13, e8⟩ := zinv e8
      refine z_getR fx 8 12 812 17 ho lf8_62 ⟨fk8_12, rfl⟩ e13 d8_begin_46 (fun tw12 => ?_)
      refine z_getI fx 10 16 1016 tw12 lf8_120 ⟨fk10_16, rfl⟩ d8_begin_49 ?_
      refine z_imul fx d8_begin_52 ?_
      refine z_icmp_ge fx d8_begin_53 (fun c14 => ?_) (fun c14 => ?_)
      · replace e8 := zif_f c14 e8
        cases e8
        cases hl9
        exact kx11
      · replace e8 := zif_t c14 e8
        refine z_aload_n fx (k := 0) (i := 0) rfl rfl d8_begin_56 ?_
        refine z_iload_n fx (k := 1) (i := 1) rfl rfl d8_begin_57 ?_
        obtain ⟨μ13, e15, e8⟩ := zinv e8
        refine z_cVv fx (c8_dropMail (zLo X) (zDo X) Sh top hO o_ v_end_8 μ9 _ ho e15) mv8_dropMail ml8_138 ho rfl rfl rfl rfl d8_begin_58 ?_
        refine z_aload_n fx (k := 0) (i := 0) rfl rfl d8_begin_61 ?_
        refine z_getO fx 8 1 2 ho lf8_19 fk8_1 d8_begin_62 ?_
        refine z_iload_n fx (k := 1) (i := 1) rfl rfl d8_begin_65 ?_
        obtain ⟨j14, e16, e8⟩ := zinv e8
        refine z_aald fx 1 (by decide) (ok8_1 hO ho) e16 (v := .ref (o_ + 37 + 2 * j14)) rfl d8_begin_66 ?_
        obtain ⟨b15, e17, e8⟩ := zinv e8
        have k18 : zZ zK1 X (zT0 Sh top) μ13 92 [(0, .ref o_), (1, .int v_end_8)] [.int (bI b15), .ref (o_ + 37 + 2 * j14)] := by
          obtain ⟨μ20, e27, e8⟩ := zinv e8
          refine z_cVv fx (c4_clear (zLo X) (zDo X) Sh top hO (o_ + 37 + 2 * j14) b15 μ13 _ (okA1 hO (ok8_1 hO ho) (rI_lt e16)) e27) mv4_clear ml8_148 (okA1 hO (ok8_1 hO ho) (rI_lt e16)) rfl rfl rfl rfl d8_begin_92 ?_
          obtain ⟨v_end_21, e28, e8⟩ := zinv e8
          replace e28 := Option.some.inj e28
          refine z_iinc fx (i := 1) (x := v_end_8) (v := v_end_21) rfl (by rw [in1]; exact e28) rfl (lv' := [(0, .ref o_), (1, .int v_end_21)]) rfl rfl d8_begin_95 ?_
          cases e8
          refine z_goto fx d8_begin_98 ?_
          exact ih12 _ _ hl9
        have kt19 : b15 = true → zZ zK1 X (zT0 Sh top) μ13 87 [(0, .ref o_), (1, .int v_end_8)] [.ref (o_ + 37 + 2 * j14)] := by
          intro hc
          refine z_iconst fx (v := 1) ic1 d8_begin_87 ?_
          refine z_goto fx d8_begin_88 ?_
          exact z_top (congrArg Value.int (show 1 = bI b15 by rw [hc]; rfl)) k18
        have kf19 : b15 = false → zZ zK1 X (zT0 Sh top) μ13 91 [(0, .ref o_), (1, .int v_end_8)] [.ref (o_ + 37 + 2 * j14)] := by
          intro hc
          refine z_iconst fx (v := 0) ic0 d8_begin_91 ?_
          exact z_top (congrArg Value.int (show 0 = bI b15 by rw [hc]; rfl)) k18
        obtain ⟨b16, e20, e17⟩ := zinv e17
        have kt21 : b16 = true → zZ zK1 X (zT0 Sh top) μ13 75 [(0, .ref o_), (1, .int v_end_8)] [.ref (o_ + 37 + 2 * j14)] := by
          intro hc
          replace e17 := zif_t hc e17
          refine z_aload_n fx (k := 0) (i := 0) rfl rfl d8_begin_75 ?_
          obtain ⟨w17, e22, e17⟩ := zinv e17
          refine z_getR fx 8 12 812 17 ho lf8_62 ⟨fk8_12, rfl⟩ e22 d8_begin_76 (fun tw17 => ?_)
          refine z_getO fx 10 8 9 tw17 lf8_145 fk10_8 d8_begin_79 ?_
          refine z_iload_n fx (k := 1) (i := 1) rfl rfl d8_begin_82 ?_
          obtain ⟨t18, e23, e17⟩ := zinv e17
          refine z_zald fx (ok10_8 hO tw17) e23 d8_begin_83 ?_
          cases e17
          refine z_ifb_eq fx d8_begin_84 (fun c24 => ?_) (fun c24 => ?_)
          · exact kf19 c24
          · exact kt19 c24
        have kf21 : b16 = false → zZ zK1 X (zT0 Sh top) μ13 91 [(0, .ref o_), (1, .int v_end_8)] [.ref (o_ + 37 + 2 * j14)] := by
          intro hc
          replace e17 := zif_f hc e17
          cases e17
          exact kf19 rfl
        clear e17
        refine z_aload_n fx (k := 0) (i := 0) rfl rfl d8_begin_67 ?_
        refine z_iload_n fx (k := 1) (i := 1) rfl rfl d8_begin_68 ?_
        obtain ⟨t19, e25, e20⟩ := zinv e20
        refine z_cVr fx (c8_isUp (zLo X) (zDo X) Sh top hO o_ v_end_8 μ13 _ ho e25) mv8_isUp ml8_141 ho rfl rfl rfl rfl d8_begin_69 ?_
        cases e20
        refine z_ifb_eq fx d8_begin_72 (fun c26 => ?_) (fun c26 => ?_)
        · exact kf21 c26
        · exact kt21 c26
  exact klr10 _ _ _ e43
theorem d8_beginAsTold_0 : zd cX8_beginAsTold 0 (.aload_n 0) 1 1 := by decide +kernel
theorem d8_beginAsTold_1 : zd cX8_beginAsTold 1 (.aload_n 1) 1 2 := by decide +kernel
theorem d8_beginAsTold_2 : zd cX8_beginAsTold 2 (.putfield 62) 3 5 := by decide +kernel
theorem d8_beginAsTold_5 : zd cX8_beginAsTold 5 (.iconst 0) 1 6 := by decide +kernel
theorem d8_beginAsTold_6 : zd cX8_beginAsTold 6 (.istore_n 2) 1 7 := by decide +kernel
theorem d8_beginAsTold_7 : zd cX8_beginAsTold 7 (.iload_n 2) 1 8 := by decide +kernel
theorem d8_beginAsTold_8 : zd cX8_beginAsTold 8 (.aload_n 0) 1 9 := by decide +kernel
theorem d8_beginAsTold_9 : zd cX8_beginAsTold 9 (.getfield 62) 3 12 := by decide +kernel
theorem d8_beginAsTold_12 : zd cX8_beginAsTold 12 (.getfield 100) 3 15 := by decide +kernel
theorem d8_beginAsTold_15 : zj cX8_beginAsTold 15 (.if_icmp .ge 55) 55 18 70 := by decide +kernel
theorem d8_beginAsTold_18 : zd cX8_beginAsTold 18 (.aload_n 0) 1 19 := by decide +kernel
theorem d8_beginAsTold_19 : zd cX8_beginAsTold 19 (.getfield 11) 3 22 := by decide +kernel
theorem d8_beginAsTold_22 : zd cX8_beginAsTold 22 (.iload_n 2) 1 23 := by decide +kernel
theorem d8_beginAsTold_23 : zd cX8_beginAsTold 23 (.aaload) 1 24 := by decide +kernel
theorem d8_beginAsTold_24 : zd cX8_beginAsTold 24 (.iconst 1) 1 25 := by decide +kernel
theorem d8_beginAsTold_25 : zd cX8_beginAsTold 25 (.putfield 104) 3 28 := by decide +kernel
theorem d8_beginAsTold_28 : zd cX8_beginAsTold 28 (.aload_n 0) 1 29 := by decide +kernel
theorem d8_beginAsTold_29 : zd cX8_beginAsTold 29 (.getfield 11) 3 32 := by decide +kernel
theorem d8_beginAsTold_32 : zd cX8_beginAsTold 32 (.iload_n 2) 1 33 := by decide +kernel
theorem d8_beginAsTold_33 : zd cX8_beginAsTold 33 (.aaload) 1 34 := by decide +kernel
theorem d8_beginAsTold_34 : zd cX8_beginAsTold 34 (.aload_n 0) 1 35 := by decide +kernel
theorem d8_beginAsTold_35 : zd cX8_beginAsTold 35 (.getfield 62) 3 38 := by decide +kernel
theorem d8_beginAsTold_38 : zd cX8_beginAsTold 38 (.getfield 108) 3 41 := by decide +kernel
theorem d8_beginAsTold_41 : zd cX8_beginAsTold 41 (.iload_n 2) 1 42 := by decide +kernel
theorem d8_beginAsTold_42 : zd cX8_beginAsTold 42 (.iaload) 1 43 := by decide +kernel
theorem d8_beginAsTold_43 : zd cX8_beginAsTold 43 (.putfield 111) 3 46 := by decide +kernel
theorem d8_beginAsTold_46 : zd cX8_beginAsTold 46 (.aload_n 0) 1 47 := by decide +kernel
theorem d8_beginAsTold_47 : zd cX8_beginAsTold 47 (.getfield 11) 3 50 := by decide +kernel
theorem d8_beginAsTold_50 : zd cX8_beginAsTold 50 (.iload_n 2) 1 51 := by decide +kernel
theorem d8_beginAsTold_51 : zd cX8_beginAsTold 51 (.aaload) 1 52 := by decide +kernel
theorem d8_beginAsTold_52 : zd cX8_beginAsTold 52 (.aload_n 0) 1 53 := by decide +kernel
theorem d8_beginAsTold_53 : zd cX8_beginAsTold 53 (.getfield 62) 3 56 := by decide +kernel
theorem d8_beginAsTold_56 : zd cX8_beginAsTold 56 (.getfield 114) 3 59 := by decide +kernel
theorem d8_beginAsTold_59 : zd cX8_beginAsTold 59 (.iload_n 2) 1 60 := by decide +kernel
theorem d8_beginAsTold_60 : zd cX8_beginAsTold 60 (.baload) 1 61 := by decide +kernel
theorem d8_beginAsTold_61 : zd cX8_beginAsTold 61 (.putfield 117) 3 64 := by decide +kernel
theorem d8_beginAsTold_64 : zd cX8_beginAsTold 64 (.iinc 2 1) 3 67 := by decide +kernel
theorem d8_beginAsTold_67 : zj cX8_beginAsTold 67 (.goto (-60)) (-60) 70 7 := by decide +kernel
theorem d8_beginAsTold_70 : zd cX8_beginAsTold 70 (.iconst 0) 1 71 := by decide +kernel
theorem d8_beginAsTold_71 : zd cX8_beginAsTold 71 (.istore_n 2) 1 72 := by decide +kernel
theorem d8_beginAsTold_72 : zd cX8_beginAsTold 72 (.iload_n 2) 1 73 := by decide +kernel
theorem d8_beginAsTold_73 : zd cX8_beginAsTold 73 (.aload_n 0) 1 74 := by decide +kernel
theorem d8_beginAsTold_74 : zd cX8_beginAsTold 74 (.getfield 62) 3 77 := by decide +kernel
theorem d8_beginAsTold_77 : zd cX8_beginAsTold 77 (.getfield 120) 3 80 := by decide +kernel
theorem d8_beginAsTold_80 : zj cX8_beginAsTold 80 (.if_icmp .ge 16) 16 83 96 := by decide +kernel
theorem d8_beginAsTold_83 : zd cX8_beginAsTold 83 (.aload_n 0) 1 84 := by decide +kernel
theorem d8_beginAsTold_84 : zd cX8_beginAsTold 84 (.getfield 29) 3 87 := by decide +kernel
theorem d8_beginAsTold_87 : zd cX8_beginAsTold 87 (.iload_n 2) 1 88 := by decide +kernel
theorem d8_beginAsTold_88 : zd cX8_beginAsTold 88 (.iconst 1) 1 89 := by decide +kernel
theorem d8_beginAsTold_89 : zd cX8_beginAsTold 89 (.bastore) 1 90 := by decide +kernel
theorem d8_beginAsTold_90 : zd cX8_beginAsTold 90 (.iinc 2 1) 3 93 := by decide +kernel
theorem d8_beginAsTold_93 : zj cX8_beginAsTold 93 (.goto (-21)) (-21) 96 72 := by decide +kernel
theorem d8_beginAsTold_96 : zd cX8_beginAsTold 96 (.aload_n 0) 1 97 := by decide +kernel
theorem d8_beginAsTold_97 : zd cX8_beginAsTold 97 (.getfield 62) 3 100 := by decide +kernel
theorem d8_beginAsTold_100 : zd cX8_beginAsTold 100 (.getfield 123) 3 103 := by decide +kernel
theorem d8_beginAsTold_103 : zd cX8_beginAsTold 103 (.iconst 0) 1 104 := by decide +kernel
theorem d8_beginAsTold_104 : zd cX8_beginAsTold 104 (.aload_n 0) 1 105 := by decide +kernel
theorem d8_beginAsTold_105 : zd cX8_beginAsTold 105 (.getfield 33) 3 108 := by decide +kernel
theorem d8_beginAsTold_108 : zd cX8_beginAsTold 108 (.iconst 0) 1 109 := by decide +kernel
theorem d8_beginAsTold_109 : zd cX8_beginAsTold 109 (.bipush 8) 2 111 := by decide +kernel
theorem d8_beginAsTold_111 : zd cX8_beginAsTold 111 (.invokestatic 94) 3 114 := by decide +kernel
theorem d8_beginAsTold_114 : zd cX8_beginAsTold 114 (.aload_n 0) 1 115 := by decide +kernel
theorem d8_beginAsTold_115 : zd cX8_beginAsTold 115 (.invokevirtual 126) 3 118 := by decide +kernel
theorem d8_beginAsTold_118 : zd cX8_beginAsTold 118 (.return_) 1 119 := by decide +kernel
set_option maxHeartbeats 4000000 in
set_option maxRecDepth 20000 in
theorem c8_beginAsTold (l : Launch) (D : zDt) (Sh : zSh) (top : Nat) (hO : zOK Sh) (o_ : Nat) (v_told : Nat) (μ : zM) (μ_ : zM) (ho : (Sh o_).1 = 15) (h_told : (Sh v_told).1 = 17) (h : f8_beginAsTold o_ v_told μ = some μ_) : zMet l D zK1 yX8_beginAsTold cX8_beginAsTold 3 none (zrm 6 137) [.ref o_, .ref v_told] Sh top μ none Sh top μ_ 0 0 := by
  refine zMet_of (by decide) (Nat.le_of_ble_eq_true rfl) fun X hX1 hX2 fx fin => ?_
  subst hX1; subst hX2
  replace fx : zFix X cX8_beginAsTold RX8 (zrm 6 137) 3 := fx
  show zZ zK1 X (zT0 Sh top) μ 0 [(0, .ref o_), (1, .ref v_told)] []
  unfold f8_beginAsTold at h
  refine z_aload_n fx (k := 0) (i := 0) rfl rfl d8_beginAsTold_0 ?_
  refine z_aload_n fx (k := 1) (i := 1) rfl rfl d8_beginAsTold_1 ?_
  obtain ⟨μ1, e1, h⟩ := zinv h
  refine z_putR fx (ci := 8) 12 (zci ho (by decide) (by decide)) ho lf8_62 fp8_12 (h_told.trans (congrArg Prod.snd fk8_12).symm) e1 d8_beginAsTold_2 ?_
  refine z_iconst fx (v := 0) ic0 d8_beginAsTold_5 ?_
  refine z_istore_n fx (k := 2) (i := 2) rfl rfl (lv' := [(0, .ref o_), (1, .ref v_told), (2, .int 0)]) rfl rfl d8_beginAsTold_6 ?_
  obtain ⟨v_b_4, μ5, e33, h⟩ := zinv2 h
  have kx5 : zZ zK1 X (zT0 Sh top) μ5 70 [(0, .ref o_), (1, .ref v_told), (2, .int v_b_4)] [] := by
    refine z_take 2 (lv' := [(0, .ref o_), (1, .ref v_told)]) rfl ?_
    refine z_iconst fx (v := 0) ic0 d8_beginAsTold_70 ?_
    refine z_istore_n fx (k := 2) (i := 2) rfl rfl (lv' := [(0, .ref o_), (1, .ref v_told), (2, .int 0)]) rfl rfl d8_beginAsTold_71 ?_
    obtain ⟨v_link_20, μ21, e32, h⟩ := zinv2 h
    have kx23 : zZ zK1 X (zT0 Sh top) μ21 96 [(0, .ref o_), (1, .ref v_told), (2, .int v_link_20)] [] := by
      refine z_take 2 (lv' := [(0, .ref o_), (1, .ref v_told)]) rfl ?_
      refine z_aload_n fx (k := 0) (i := 0) rfl rfl d8_beginAsTold_96 ?_
      obtain ⟨w25, e29, h⟩ := zinv h
      refine z_getR fx 8 12 812 17 ho lf8_62 ⟨fk8_12, rfl⟩ e29 d8_beginAsTold_97 (fun tw25 => ?_)
      refine z_getO fx 10 11 12 tw25 lf8_123 fk10_11 d8_beginAsTold_100 ?_
      refine z_iconst fx (v := 0) ic0 d8_beginAsTold_103 ?_
      refine z_aload_n fx (k := 0) (i := 0) rfl rfl d8_beginAsTold_104 ?_
      refine z_getO fx 8 4 5 ho lf8_33 fk8_4 d8_beginAsTold_105 ?_
      refine z_iconst fx (v := 0) ic0 d8_beginAsTold_108 ?_
      refine z_bipush fx (v := 8) bp8 d8_beginAsTold_109 ?_
      obtain ⟨μ26, e30, h⟩ := zinv h
      refine z_copy fx ml8_94 (ok10_11 hO tw25) (ok8_4 hO ho) e30 (Nat.le_of_ble_eq_true rfl) ⟨Nat.le_of_ble_eq_true rfl, Nat.le_of_ble_eq_true rfl⟩ d8_beginAsTold_111 ?_
      refine z_aload_n fx (k := 0) (i := 0) rfl rfl d8_beginAsTold_114 ?_
      obtain ⟨μ27, e31, h⟩ := zinv h
      refine z_cVv fx (c8_begin (zLo X) (zDo X) Sh top hO o_ μ26 _ ho e31) mv8_begin ml8_126 ho rfl rfl rfl rfl d8_beginAsTold_115 ?_
      cases h
      exact z_return fx fin d8_beginAsTold_118
    clear h
    have klr22 : ∀ (n : Nat) (v_link_18 : Int32) (μ19 : zM), zloop (fun s => f8_beginAsTold_L2 o_ s.1 s.2) n (v_link_18, μ19) = some (v_link_20, μ21) → zZ zK1 X (zT0 Sh top) μ19 72 [(0, .ref o_), (1, .ref v_told), (2, .int v_link_18)] [] := by
      intro n
      induction n with
      | zero => intro v_link_18 μ19 hl21; cases hl21
      | succ n ih24 =>
        intro v_link_18 μ19 hl21
        obtain ⟨y, e20, hl21⟩ := zloop_inv hl21
        replace e20 : f8_beginAsTold_L2 o_ v_link_18 μ19 = some y := e20
        unfold f8_beginAsTold_L2 at e20
        refine z_iload_n fx (k := 2) (i := 2) rfl rfl d8_beginAsTold_72 ?_
        refine z_aload_n fx (k := 0) (i := 0) rfl rfl d8_beginAsTold_73 ?_
        obtain ⟨w22, e25, e20⟩ := zinv e20
        refine z_getR fx 8 12 812 17 ho lf8_62 ⟨fk8_12, rfl⟩ e25 d8_beginAsTold_74 (fun tw22 => ?_)
        refine z_getI fx 10 16 1016 tw22 lf8_120 ⟨fk10_16, rfl⟩ d8_beginAsTold_77 ?_
        refine z_icmp_ge fx d8_beginAsTold_80 (fun c26 => ?_) (fun c26 => ?_)
        · replace e20 := zif_f c26 e20
          cases e20
          cases hl21
          exact kx23
        · replace e20 := zif_t c26 e20
          refine z_aload_n fx (k := 0) (i := 0) rfl rfl d8_beginAsTold_83 ?_
          refine z_getO fx 8 3 4 ho lf8_29 fk8_3 d8_beginAsTold_84 ?_
          refine z_iload_n fx (k := 2) (i := 2) rfl rfl d8_beginAsTold_87 ?_
          refine z_iconst fx (v := 1) ic1 d8_beginAsTold_88 ?_
          refine z_top (show Value.int 1 = .int (bI true) from rfl) ?_
          obtain ⟨μ23, e27, e20⟩ := zinv e20
          refine z_zast fx (ok8_3 hO ho) e27 d8_beginAsTold_89 ?_
          obtain ⟨v_link_24, e28, e20⟩ := zinv e20
          replace e28 := Option.some.inj e28
          refine z_iinc fx (i := 2) (x := v_link_18) (v := v_link_24) rfl (by rw [in1]; exact e28) rfl (lv' := [(0, .ref o_), (1, .ref v_told), (2, .int v_link_24)]) rfl rfl d8_beginAsTold_90 ?_
          cases e20
          refine z_goto fx d8_beginAsTold_93 ?_
          exact ih24 _ _ hl21
    exact klr22 _ _ _ e32
  clear h
  have klr4 : ∀ (n : Nat) (v_b_2 : Int32) (μ3 : zM), zloop (fun s => f8_beginAsTold_L1 o_ s.1 s.2) n (v_b_2, μ3) = some (v_b_4, μ5) → zZ zK1 X (zT0 Sh top) μ3 7 [(0, .ref o_), (1, .ref v_told), (2, .int v_b_2)] [] := by
    intro n
    induction n with
    | zero => intro v_b_2 μ3 hl3; cases hl3
    | succ n ih6 =>
      intro v_b_2 μ3 hl3
      obtain ⟨y, e2, hl3⟩ := zloop_inv hl3
      replace e2 : f8_beginAsTold_L1 o_ v_b_2 μ3 = some y := e2
      unfold f8_beginAsTold_L1 at e2
      refine z_iload_n fx (k := 2) (i := 2) rfl rfl d8_beginAsTold_7 ?_
      refine z_aload_n fx (k := 0) (i := 0) rfl rfl d8_beginAsTold_8 ?_
      obtain ⟨w6, e7, e2⟩ := zinv e2
      refine z_getR fx 8 12 812 17 ho lf8_62 ⟨fk8_12, rfl⟩ e7 d8_beginAsTold_9 (fun tw6 => ?_)
      refine z_getI fx 10 15 1015 tw6 lf8_100 ⟨fk10_15, rfl⟩ d8_beginAsTold_12 ?_
      refine z_icmp_ge fx d8_beginAsTold_15 (fun c8 => ?_) (fun c8 => ?_)
      · replace e2 := zif_f c8 e2
        cases e2
        cases hl3
        exact kx5
      · replace e2 := zif_t c8 e2
        refine z_aload_n fx (k := 0) (i := 0) rfl rfl d8_beginAsTold_18 ?_
        refine z_getO fx 8 0 1 ho lf8_11 fk8_0 d8_beginAsTold_19 ?_
        refine z_iload_n fx (k := 2) (i := 2) rfl rfl d8_beginAsTold_22 ?_
        obtain ⟨j7, e9, e2⟩ := zinv e2
        refine z_aald fx 0 (by decide) (ok8_0 hO ho) e9 (v := .ref (o_ + 13 + 3 * j7)) rfl d8_beginAsTold_23 ?_
        refine z_iconst fx (v := 1) ic1 d8_beginAsTold_24 ?_
        refine z_top (show Value.int 1 = .int (bI true) from rfl) ?_
        obtain ⟨μ8, e10, e2⟩ := zinv e2
        refine z_putB fx (ci := 0) 3 (okA0 hO (ok8_0 hO ho) (rI_lt e9)) lf8_104 fp0_3 e10 d8_beginAsTold_25 ?_
        refine z_aload_n fx (k := 0) (i := 0) rfl rfl d8_beginAsTold_28 ?_
        refine z_getO fx 8 0 1 ho lf8_11 fk8_0 d8_beginAsTold_29 ?_
        refine z_iload_n fx (k := 2) (i := 2) rfl rfl d8_beginAsTold_32 ?_
        obtain ⟨j9, e11, e2⟩ := zinv e2
        refine z_aald fx 0 (by decide) (ok8_0 hO ho) e11 (v := .ref (o_ + 13 + 3 * j9)) rfl d8_beginAsTold_33 ?_
        refine z_aload_n fx (k := 0) (i := 0) rfl rfl d8_beginAsTold_34 ?_
        obtain ⟨w10, e12, e2⟩ := zinv e2
        refine z_getR fx 8 12 812 17 ho lf8_62 ⟨fk8_12, rfl⟩ e12 d8_beginAsTold_35 (fun tw10 => ?_)
        refine z_getO fx 10 2 3 tw10 lf8_108 fk10_2 d8_beginAsTold_38 ?_
        refine z_iload_n fx (k := 2) (i := 2) rfl rfl d8_beginAsTold_41 ?_
        obtain ⟨t11, e13, e2⟩ := zinv e2
        refine z_iald fx (ok10_2 hO tw10) e13 d8_beginAsTold_42 ?_
        obtain ⟨μ12, e14, e2⟩ := zinv e2
        refine z_putI fx (ci := 0) 5 (okA0 hO (ok8_0 hO ho) (rI_lt e11)) lf8_111 fp0_5 e14 d8_beginAsTold_43 ?_
        refine z_aload_n fx (k := 0) (i := 0) rfl rfl d8_beginAsTold_46 ?_
        refine z_getO fx 8 0 1 ho lf8_11 fk8_0 d8_beginAsTold_47 ?_
        refine z_iload_n fx (k := 2) (i := 2) rfl rfl d8_beginAsTold_50 ?_
        obtain ⟨j13, e15, e2⟩ := zinv e2
        refine z_aald fx 0 (by decide) (ok8_0 hO ho) e15 (v := .ref (o_ + 13 + 3 * j13)) rfl d8_beginAsTold_51 ?_
        refine z_aload_n fx (k := 0) (i := 0) rfl rfl d8_beginAsTold_52 ?_
        obtain ⟨w14, e16, e2⟩ := zinv e2
        refine z_getR fx 8 12 812 17 ho lf8_62 ⟨fk8_12, rfl⟩ e16 d8_beginAsTold_53 (fun tw14 => ?_)
        refine z_getO fx 10 3 4 tw14 lf8_114 fk10_3 d8_beginAsTold_56 ?_
        refine z_iload_n fx (k := 2) (i := 2) rfl rfl d8_beginAsTold_59 ?_
        obtain ⟨t15, e17, e2⟩ := zinv e2
        refine z_zald fx (ok10_3 hO tw14) e17 d8_beginAsTold_60 ?_
        obtain ⟨μ16, e18, e2⟩ := zinv e2
        refine z_putB fx (ci := 0) 4 (okA0 hO (ok8_0 hO ho) (rI_lt e15)) lf8_117 fp0_4 e18 d8_beginAsTold_61 ?_
        obtain ⟨v_b_17, e19, e2⟩ := zinv e2
        replace e19 := Option.some.inj e19
        refine z_iinc fx (i := 2) (x := v_b_2) (v := v_b_17) rfl (by rw [in1]; exact e19) rfl (lv' := [(0, .ref o_), (1, .ref v_told), (2, .int v_b_17)]) rfl rfl d8_beginAsTold_64 ?_
        cases e2
        refine z_goto fx d8_beginAsTold_67 ?_
        exact ih6 _ _ hl3
  exact klr4 _ _ _ e33
theorem d7_clear_0 : zd cX7_clear 0 (.aload_n 0) 1 1 := by decide +kernel
theorem d7_clear_1 : zd cX7_clear 1 (.iconst 0) 1 2 := by decide +kernel
theorem d7_clear_2 : zd cX7_clear 2 (.putfield 21) 3 5 := by decide +kernel
theorem d7_clear_5 : zd cX7_clear 5 (.aload_n 0) 1 6 := by decide +kernel
theorem d7_clear_6 : zd cX7_clear 6 (.iconst 0) 1 7 := by decide +kernel
theorem d7_clear_7 : zd cX7_clear 7 (.putfield 25) 3 10 := by decide +kernel
theorem d7_clear_10 : zd cX7_clear 10 (.return_) 1 11 := by decide +kernel
set_option maxHeartbeats 4000000 in
set_option maxRecDepth 20000 in
theorem c7_clear (l : Launch) (D : zDt) (Sh : zSh) (top : Nat) (hO : zOK Sh) (o_ : Nat) (μ : zM) (μ_ : zM) (ho : (Sh o_).1 = 14) (h : f7_clear o_ μ = some μ_) : zMet l D zK1 yX7_clear cX7_clear 1 none (zrm 0 0) [.ref o_] Sh top μ none Sh top μ_ 0 0 := by
  refine zMet_of (by decide) (Nat.le_of_ble_eq_true rfl) fun X hX1 hX2 fx fin => ?_
  subst hX1; subst hX2
  replace fx : zFix X cX7_clear RX7 (zrm 0 0) 1 := fx
  show zZ zK1 X (zT0 Sh top) μ 0 [(0, .ref o_)] []
  unfold f7_clear at h
  refine z_aload_n fx (k := 0) (i := 0) rfl rfl d7_clear_0 ?_
  refine z_iconst fx (v := 0) ic0 d7_clear_1 ?_
  obtain ⟨μ1, e1, h⟩ := zinv h
  refine z_putI fx (ci := 7) 3 ho lf7_21 fp7_3 e1 d7_clear_2 ?_
  refine z_aload_n fx (k := 0) (i := 0) rfl rfl d7_clear_5 ?_
  refine z_iconst fx (v := 0) ic0 d7_clear_6 ?_
  obtain ⟨μ2, e2, h⟩ := zinv h
  refine z_putI fx (ci := 7) 4 ho lf7_25 fp7_4 e2 d7_clear_7 ?_
  cases h
  exact z_return fx fin d7_clear_10
theorem d11_net_0 : zd cX11_net 0 (.aload_n 0) 1 1 := by decide +kernel
theorem d11_net_1 : zd cX11_net 1 (.getfield 68) 3 4 := by decide +kernel
theorem d11_net_4 : zd cX11_net 4 (.aload_n 0) 1 5 := by decide +kernel
theorem d11_net_5 : zd cX11_net 5 (.invokevirtual 101) 3 8 := by decide +kernel
theorem d11_net_8 : zd cX11_net 8 (.aload_n 0) 1 9 := by decide +kernel
theorem d11_net_9 : zd cX11_net 9 (.getfield 60) 3 12 := by decide +kernel
theorem d11_net_12 : zd cX11_net 12 (.invokevirtual 105) 3 15 := by decide +kernel
theorem d11_net_15 : zd cX11_net 15 (.istore_n 1) 1 16 := by decide +kernel
theorem d11_net_16 : zd cX11_net 16 (.iload_n 1) 1 17 := by decide +kernel
theorem d11_net_17 : zd cX11_net 17 (.iconst (-1)) 1 18 := by decide +kernel
theorem d11_net_18 : zj cX11_net 18 (.if_icmp .ne 9) 9 21 27 := by decide +kernel
theorem d11_net_21 : zd cX11_net 21 (.aload_n 0) 1 22 := by decide +kernel
theorem d11_net_22 : zd cX11_net 22 (.iconst 1) 1 23 := by decide +kernel
theorem d11_net_23 : zd cX11_net 23 (.invokevirtual 89) 3 26 := by decide +kernel
theorem d11_net_26 : zd cX11_net 26 (.ireturn) 1 27 := by decide +kernel
theorem d11_net_27 : zd cX11_net 27 (.aload_n 0) 1 28 := by decide +kernel
theorem d11_net_28 : zd cX11_net 28 (.getfield 56) 3 31 := by decide +kernel
theorem d11_net_31 : zd cX11_net 31 (.astore_n 2) 1 32 := by decide +kernel
theorem d11_net_32 : zd cX11_net 32 (.aload_n 0) 1 33 := by decide +kernel
theorem d11_net_33 : zd cX11_net 33 (.aload_n 0) 1 34 := by decide +kernel
theorem d11_net_34 : zd cX11_net 34 (.getfield 60) 3 37 := by decide +kernel
theorem d11_net_37 : zd cX11_net 37 (.putfield 56) 3 40 := by decide +kernel
theorem d11_net_40 : zd cX11_net 40 (.aload_n 0) 1 41 := by decide +kernel
theorem d11_net_41 : zd cX11_net 41 (.aload_n 2) 1 42 := by decide +kernel
theorem d11_net_42 : zd cX11_net 42 (.putfield 60) 3 45 := by decide +kernel
theorem d11_net_45 : zd cX11_net 45 (.aload_n 0) 1 46 := by decide +kernel
theorem d11_net_46 : zd cX11_net 46 (.getfield 75) 3 49 := by decide +kernel
theorem d11_net_49 : zd cX11_net 49 (.aload_n 0) 1 50 := by decide +kernel
theorem d11_net_50 : zd cX11_net 50 (.getfield 56) 3 53 := by decide +kernel
theorem d11_net_53 : zd cX11_net 53 (.invokevirtual 109) 3 56 := by decide +kernel
theorem d11_net_56 : zd cX11_net 56 (.aload_n 0) 1 57 := by decide +kernel
theorem d11_net_57 : zd cX11_net 57 (.getfield 43) 3 60 := by decide +kernel
theorem d11_net_60 : zd cX11_net 60 (.invokevirtual 112) 3 63 := by decide +kernel
theorem d11_net_63 : zd cX11_net 63 (.aload_n 0) 1 64 := by decide +kernel
theorem d11_net_64 : zd cX11_net 64 (.getfield 36) 3 67 := by decide +kernel
theorem d11_net_67 : zd cX11_net 67 (.iconst 0) 1 68 := by decide +kernel
theorem d11_net_68 : zd cX11_net 68 (.putfield 115) 3 71 := by decide +kernel
theorem d11_net_71 : zd cX11_net 71 (.aload_n 0) 1 72 := by decide +kernel
theorem d11_net_72 : zd cX11_net 72 (.iconst 0) 1 73 := by decide +kernel
theorem d11_net_73 : zd cX11_net 73 (.putfield 119) 3 76 := by decide +kernel
theorem d11_net_76 : zd cX11_net 76 (.iload_n 1) 1 77 := by decide +kernel
theorem d11_net_77 : zd cX11_net 77 (.ireturn) 1 78 := by decide +kernel
set_option maxHeartbeats 4000000 in
set_option maxRecDepth 20000 in
theorem c11_net (l : Launch) (D : zDt) (Sh : zSh) (top : Nat) (hO : zOK Sh) (o_ : Nat) (μ : zM) (r_ : Int32) (μ_ : zM) (ho : (Sh o_).1 = 18) (h : f11_net o_ μ = some (r_, μ_)) : zMet l D zK1 yX11_net cX11_net 3 (some .int) (zrm 13 304) [.ref o_] Sh top μ (some (.int r_)) Sh top μ_ 0 0 := by
  refine zMet_of (by decide) (Nat.le_of_ble_eq_true rfl) fun X hX1 hX2 fx fin => ?_
  subst hX1; subst hX2
  replace fx : zFix X cX11_net RX11 (zrm 13 304) 3 := fx
  show zZ zK1 X (zT0 Sh top) μ 0 [(0, .ref o_)] []
  unfold f11_net at h
  refine z_aload_n fx (k := 0) (i := 0) rfl rfl d11_net_0 ?_
  refine z_getO fx 11 1 49 ho lf11_68 fk11_1 d11_net_1 ?_
  refine z_aload_n fx (k := 0) (i := 0) rfl rfl d11_net_4 ?_
  obtain ⟨t1, μ2, e1, h⟩ := zinv2 h
  refine z_cVr fx (c11_takeTape (zLo X) (zDo X) Sh top hO o_ μ _ _ ho e1) mv11_takeTape ml11_101 ho rfl rfl rfl rfl d11_net_5 ?_
  refine z_aload_n fx (k := 0) (i := 0) rfl rfl d11_net_8 ?_
  obtain ⟨w3, e2, h⟩ := zinv h
  refine z_getR fx 11 12 1112 17 ho lf11_60 ⟨fk11_12, rfl⟩ e2 d11_net_9 (fun tw3 => ?_)
  obtain ⟨t4, μ5, e3, h⟩ := zinv2 h
  refine z_cVr fx (c5_statements (zLo X) (zDo X) Sh top hO (o_ + 49) t1 w3 μ2 _ _ (ok11_1 hO ho) tw3 e3) mv5_statements ml11_105 (ok11_1 hO ho) rfl rfl rfl rfl d11_net_12 ?_
  refine z_istore_n fx (k := 1) (i := 1) rfl rfl (lv' := [(0, .ref o_), (1, .int t4)]) rfl rfl d11_net_15 ?_
  refine z_iload_n fx (k := 1) (i := 1) rfl rfl d11_net_16 ?_
  refine z_iconst fx (v := (-1)) icm1 d11_net_17 ?_
  refine z_icmp_ne fx d11_net_18 (fun c4 => ?_) (fun c4 => ?_)
  · replace h := zif_f c4 h
    refine z_aload_n fx (k := 0) (i := 0) rfl rfl d11_net_27 ?_
    obtain ⟨w6, e5, h⟩ := zinv h
    refine z_getR fx 11 11 1111 17 ho lf11_56 ⟨fk11_11, rfl⟩ e5 d11_net_28 (fun tw6 => ?_)
    refine z_astore_n fx (k := 2) (i := 2) rfl rfl (lv' := [(0, .ref o_), (1, .int t4), (2, .ref w6)]) rfl rfl d11_net_31 ?_
    refine z_aload_n fx (k := 0) (i := 0) rfl rfl d11_net_32 ?_
    refine z_aload_n fx (k := 0) (i := 0) rfl rfl d11_net_33 ?_
    obtain ⟨w7, e6, h⟩ := zinv h
    refine z_getR fx 11 12 1112 17 ho lf11_60 ⟨fk11_12, rfl⟩ e6 d11_net_34 (fun tw7 => ?_)
    obtain ⟨μ8, e7, h⟩ := zinv h
    refine z_putR fx (ci := 11) 11 (zci ho (by decide) (by decide)) ho lf11_56 fp11_11 (tw7.trans (congrArg Prod.snd fk11_11).symm) e7 d11_net_37 ?_
    refine z_aload_n fx (k := 0) (i := 0) rfl rfl d11_net_40 ?_
    refine z_aload_n fx (k := 2) (i := 2) rfl rfl d11_net_41 ?_
    obtain ⟨μ9, e8, h⟩ := zinv h
    refine z_putR fx (ci := 11) 12 (zci ho (by decide) (by decide)) ho lf11_60 fp11_12 (tw6.trans (congrArg Prod.snd fk11_12).symm) e8 d11_net_42 ?_
    refine z_aload_n fx (k := 0) (i := 0) rfl rfl d11_net_45 ?_
    refine z_getO fx 11 3 51 ho lf11_75 fk11_3 d11_net_46 ?_
    refine z_aload_n fx (k := 0) (i := 0) rfl rfl d11_net_49 ?_
    obtain ⟨w10, e9, h⟩ := zinv h
    refine z_getR fx 11 11 1111 17 ho lf11_56 ⟨fk11_11, rfl⟩ e9 d11_net_50 (fun tw10 => ?_)
    obtain ⟨μ11, e10, h⟩ := zinv h
    refine z_cVv fx (c8_beginAsTold (zLo X) (zDo X) Sh top hO (o_ + 51) w10 μ9 _ (ok11_3 hO ho) tw10 e10) mv8_beginAsTold ml11_109 (ok11_3 hO ho) rfl rfl rfl rfl d11_net_53 ?_
    refine z_aload_n fx (k := 0) (i := 0) rfl rfl d11_net_56 ?_
    refine z_getO fx 11 8 17 ho lf11_43 fk11_8 d11_net_57 ?_
    obtain ⟨μ12, e11, h⟩ := zinv h
    refine z_cVv fx (c7_clear (zLo X) (zDo X) Sh top hO (o_ + 17) μ11 _ (ok11_8 hO ho) e11) mv7_clear ml11_112 (ok11_8 hO ho) rfl rfl rfl rfl d11_net_60 ?_
    refine z_aload_n fx (k := 0) (i := 0) rfl rfl d11_net_63 ?_
    refine z_getO fx 11 7 14 ho lf11_36 fk11_7 d11_net_64 ?_
    refine z_iconst fx (v := 0) ic0 d11_net_67 ?_
    refine z_top (show Value.int 0 = .int (bI false) from rfl) ?_
    obtain ⟨μ13, e12, h⟩ := zinv h
    refine z_putB fx (ci := 2) 3 (ok11_7 hO ho) lf11_115 fp2_3 e12 d11_net_68 ?_
    refine z_aload_n fx (k := 0) (i := 0) rfl rfl d11_net_71 ?_
    refine z_iconst fx (v := 0) ic0 d11_net_72 ?_
    obtain ⟨μ14, e13, h⟩ := zinv h
    refine z_putI fx (ci := 11) 15 ho lf11_119 fp11_15 e13 d11_net_73 ?_
    refine z_iload_n fx (k := 1) (i := 1) rfl rfl d11_net_76 ?_
    cases h
    exact z_ireturn fx fin d11_net_77
  · replace h := zif_t c4 h
    refine z_aload_n fx (k := 0) (i := 0) rfl rfl d11_net_21 ?_
    refine z_iconst fx (v := 1) ic1 d11_net_22 ?_
    obtain ⟨t15, μ16, e14, h⟩ := zinv2 h
    refine z_cVr fx (c11_refuse (zLo X) (zDo X) Sh top hO o_ 1 μ5 _ _ ho e14) mv11_refuse ml11_89 ho rfl rfl rfl rfl d11_net_23 ?_
    cases h
    exact z_ireturn fx fin d11_net_26
theorem d11_fault_0 : zd cX11_fault 0 (.iload_n 1) 1 1 := by decide +kernel
theorem d11_fault_1 : decode cX11_fault 1 = .ok (.lookupswitch 43 #[(0, 27), (1, 35)], 27) := by decide +kernel
theorem d11_fault_28 : zd cX11_fault 28 (.aload_n 0) 1 29 := by decide +kernel
theorem d11_fault_29 : zd cX11_fault 29 (.getfield 68) 3 32 := by decide +kernel
theorem d11_fault_32 : zd cX11_fault 32 (.getfield 122) 3 35 := by decide +kernel
theorem d11_fault_35 : zd cX11_fault 35 (.ireturn) 1 36 := by decide +kernel
theorem d11_fault_36 : zd cX11_fault 36 (.aload_n 0) 1 37 := by decide +kernel
theorem d11_fault_37 : zd cX11_fault 37 (.getfield 68) 3 40 := by decide +kernel
theorem d11_fault_40 : zd cX11_fault 40 (.getfield 125) 3 43 := by decide +kernel
theorem d11_fault_43 : zd cX11_fault 43 (.ireturn) 1 44 := by decide +kernel
theorem d11_fault_44 : zd cX11_fault 44 (.iconst (-1)) 1 45 := by decide +kernel
theorem d11_fault_45 : zd cX11_fault 45 (.ireturn) 1 46 := by decide +kernel
set_option maxHeartbeats 4000000 in
set_option maxRecDepth 20000 in
theorem c11_fault (l : Launch) (D : zDt) (Sh : zSh) (top : Nat) (hO : zOK Sh) (o_ : Nat) (v_what : Int32) (μ : zM) (r_ : Int32) (ho : (Sh o_).1 = 18) (h : f11_fault o_ v_what μ = some r_) : zMet l D zK1 yX11_fault cX11_fault 2 (some .int) (zrm 0 0) [.ref o_, .int v_what] Sh top μ (some (.int r_)) Sh top μ 0 0 := by
  refine zMet_of (by decide) (Nat.le_of_ble_eq_true rfl) fun X hX1 hX2 fx fin => ?_
  subst hX1; subst hX2
  replace fx : zFix X cX11_fault RX11 (zrm 0 0) 2 := fx
  show zZ zK1 X (zT0 Sh top) μ 0 [(0, .ref o_), (1, .int v_what)] []
  unfold f11_fault at h
  refine z_iload_n fx (k := 1) (i := 1) rfl rfl d11_fault_0 ?_
  cases c1 : ceq v_what 0 with
  | true =>
    replace h := zif_t c1 h
    refine z_lookup fx d11_fault_1 (off := 27) (tgt := 28) (by rw [ceq_of c1]; decide) (by decide) ?_
    refine z_aload_n fx (k := 0) (i := 0) rfl rfl d11_fault_28 ?_
    refine z_getO fx 11 1 49 ho lf11_68 fk11_1 d11_fault_29 ?_
    refine z_getI fx 5 7 507 (ok11_1 hO ho) lf11_122 ⟨fk5_7, rfl⟩ d11_fault_32 ?_
    cases h
    exact z_ireturn fx fin d11_fault_35
  | false =>
  replace h := zif_f c1 h
  cases c2 : ceq v_what 1 with
  | true =>
    replace h := zif_t c2 h
    refine z_lookup fx d11_fault_1 (off := 35) (tgt := 36) (by rw [ceq_of c2]; decide) (by decide) ?_
    refine z_aload_n fx (k := 0) (i := 0) rfl rfl d11_fault_36 ?_
    refine z_getO fx 11 1 49 ho lf11_68 fk11_1 d11_fault_37 ?_
    refine z_getI fx 5 8 508 (ok11_1 hO ho) lf11_125 ⟨fk5_8, rfl⟩ d11_fault_40 ?_
    cases h
    exact z_ireturn fx fin d11_fault_43
  | false =>
  replace h := zif_f c2 h
  have hn0 := zne c1 (k := 0) (by decide)
  have hn1 := zne c2 (k := 1) (by decide)
  refine z_lookup fx d11_fault_1 (off := 43) (tgt := 44) ⟨by simp [Op.lookupswitch.offset, hn0, Ne.symm hn0, hn1, Ne.symm hn1], by decide⟩ (by decide) ?_
  refine z_iconst fx (v := (-1)) icm1 d11_fault_44 ?_
  cases h
  exact z_ireturn fx fin d11_fault_45
theorem d8_countMail_0 : zd cX8_countMail 0 (.iconst 0) 1 1 := by decide +kernel
theorem d8_countMail_1 : zd cX8_countMail 1 (.istore_n 1) 1 2 := by decide +kernel
theorem d8_countMail_2 : zd cX8_countMail 2 (.iconst 0) 1 3 := by decide +kernel
theorem d8_countMail_3 : zd cX8_countMail 3 (.istore_n 2) 1 4 := by decide +kernel
theorem d8_countMail_4 : zd cX8_countMail 4 (.iload_n 2) 1 5 := by decide +kernel
theorem d8_countMail_5 : zd cX8_countMail 5 (.iconst 2) 1 6 := by decide +kernel
theorem d8_countMail_6 : zd cX8_countMail 6 (.aload_n 0) 1 7 := by decide +kernel
theorem d8_countMail_7 : zd cX8_countMail 7 (.getfield 62) 3 10 := by decide +kernel
theorem d8_countMail_10 : zd cX8_countMail 10 (.getfield 120) 3 13 := by decide +kernel
theorem d8_countMail_13 : zd cX8_countMail 13 (.imul) 1 14 := by decide +kernel
theorem d8_countMail_14 : zd cX8_countMail 14 (.iconst 3) 1 15 := by decide +kernel
theorem d8_countMail_15 : zd cX8_countMail 15 (.imul) 1 16 := by decide +kernel
theorem d8_countMail_16 : zj cX8_countMail 16 (.if_icmp .ge 29) 29 19 45 := by decide +kernel
theorem d8_countMail_19 : zd cX8_countMail 19 (.iload_n 1) 1 20 := by decide +kernel
theorem d8_countMail_20 : zd cX8_countMail 20 (.aload_n 0) 1 21 := by decide +kernel
theorem d8_countMail_21 : zd cX8_countMail 21 (.getfield 25) 3 24 := by decide +kernel
theorem d8_countMail_24 : zd cX8_countMail 24 (.iload_n 2) 1 25 := by decide +kernel
theorem d8_countMail_25 : zd cX8_countMail 25 (.aaload) 1 26 := by decide +kernel
theorem d8_countMail_26 : zd cX8_countMail 26 (.getfield 171) 3 29 := by decide +kernel
theorem d8_countMail_29 : zj cX8_countMail 29 (.ifCond .eq 7) 7 32 36 := by decide +kernel
theorem d8_countMail_32 : zd cX8_countMail 32 (.iconst 1) 1 33 := by decide +kernel
theorem d8_countMail_33 : zj cX8_countMail 33 (.goto 4) 4 36 37 := by decide +kernel
theorem d8_countMail_36 : zd cX8_countMail 36 (.iconst 0) 1 37 := by decide +kernel
theorem d8_countMail_37 : zd cX8_countMail 37 (.iadd) 1 38 := by decide +kernel
theorem d8_countMail_38 : zd cX8_countMail 38 (.istore_n 1) 1 39 := by decide +kernel
theorem d8_countMail_39 : zd cX8_countMail 39 (.iinc 2 1) 3 42 := by decide +kernel
theorem d8_countMail_42 : zj cX8_countMail 42 (.goto (-38)) (-38) 45 4 := by decide +kernel
theorem d8_countMail_45 : zd cX8_countMail 45 (.iload_n 1) 1 46 := by decide +kernel
theorem d8_countMail_46 : zd cX8_countMail 46 (.ireturn) 1 47 := by decide +kernel
set_option maxHeartbeats 4000000 in
set_option maxRecDepth 20000 in
theorem c8_countMail (l : Launch) (D : zDt) (Sh : zSh) (top : Nat) (hO : zOK Sh) (o_ : Nat) (μ : zM) (r_ : Int32) (ho : (Sh o_).1 = 15) (h : f8_countMail o_ μ = some r_) : zMet l D zK1 yX8_countMail cX8_countMail 3 (some .int) (zrm 0 0) [.ref o_] Sh top μ (some (.int r_)) Sh top μ 0 0 := by
  refine zMet_of (by decide) (Nat.le_of_ble_eq_true rfl) fun X hX1 hX2 fx fin => ?_
  subst hX1; subst hX2
  replace fx : zFix X cX8_countMail RX8 (zrm 0 0) 3 := fx
  show zZ zK1 X (zT0 Sh top) μ 0 [(0, .ref o_)] []
  unfold f8_countMail at h
  refine z_iconst fx (v := 0) ic0 d8_countMail_0 ?_
  refine z_istore_n fx (k := 1) (i := 1) rfl rfl (lv' := [(0, .ref o_), (1, .int 0)]) rfl rfl d8_countMail_1 ?_
  refine z_iconst fx (v := 0) ic0 d8_countMail_2 ?_
  refine z_istore_n fx (k := 2) (i := 2) rfl rfl (lv' := [(0, .ref o_), (1, .int 0), (2, .int 0)]) rfl rfl d8_countMail_3 ?_
  obtain ⟨v_count_3, v_slot_4, e14, h⟩ := zinv2 h
  have kx4 : zZ zK1 X (zT0 Sh top) μ 45 [(0, .ref o_), (1, .int v_count_3), (2, .int v_slot_4)] [] := by
    refine z_take 2 (lv' := [(0, .ref o_), (1, .int v_count_3)]) rfl ?_
    refine z_iload_n fx (k := 1) (i := 1) rfl rfl d8_countMail_45 ?_
    cases h
    exact z_ireturn fx fin d8_countMail_46
  clear h
  have klr3 : ∀ (n : Nat) (v_count_1 : Int32) (v_slot_2 : Int32), zloop (fun s => f8_countMail_L1 o_ μ s.1 s.2) n (v_count_1, v_slot_2) = some (v_count_3, v_slot_4) → zZ zK1 X (zT0 Sh top) μ 4 [(0, .ref o_), (1, .int v_count_1), (2, .int v_slot_2)] [] := by
    intro n
    induction n with
    | zero => intro v_count_1 v_slot_2 hl2; cases hl2
    | succ n ih5 =>
      intro v_count_1 v_slot_2 hl2
      obtain ⟨y, e1, hl2⟩ := zloop_inv hl2
      replace e1 : f8_countMail_L1 o_ μ v_count_1 v_slot_2 = some y := e1
      unfold f8_countMail_L1 at e1
      refine z_iload_n fx (k := 2) (i := 2) rfl rfl d8_countMail_4 ?_
      refine z_iconst fx (v := 2) ic2 d8_countMail_5 ?_
      refine z_aload_n fx (k := 0) (i := 0) rfl rfl d8_countMail_6 ?_
      obtain ⟨w5, e6, e1⟩ := zinv e1
      refine z_getR fx 8 12 812 17 ho lf8_62 ⟨fk8_12, rfl⟩ e6 d8_countMail_7 (fun tw5 => ?_)
      refine z_getI fx 10 16 1016 tw5 lf8_120 ⟨fk10_16, rfl⟩ d8_countMail_10 ?_
      refine z_imul fx d8_countMail_13 ?_
      refine z_iconst fx (v := 3) ic3 d8_countMail_14 ?_
      refine z_imul fx d8_countMail_15 ?_
      refine z_icmp_ge fx d8_countMail_16 (fun c7 => ?_) (fun c7 => ?_)
      · replace e1 := zif_f c7 e1
        cases e1
        cases hl2
        exact kx4
      · replace e1 := zif_t c7 e1
        refine z_iload_n fx (k := 1) (i := 1) rfl rfl d8_countMail_19 ?_
        obtain ⟨x6, e8, e1⟩ := zinv e1
        have k9 : zZ zK1 X (zT0 Sh top) μ 37 [(0, .ref o_), (1, .int v_count_1), (2, .int v_slot_2)] [.int x6, .int v_count_1] := by
          refine z_iadd fx d8_countMail_37 ?_
          obtain ⟨v_count_8, e12, e1⟩ := zinv e1
          replace e12 := Option.some.inj e12
          refine z_top (congrArg Value.int e12) ?_
          refine z_istore_n fx (k := 1) (i := 1) rfl rfl (lv' := [(0, .ref o_), (1, .int v_count_8), (2, .int v_slot_2)]) rfl rfl d8_countMail_38 ?_
          obtain ⟨v_slot_9, e13, e1⟩ := zinv e1
          replace e13 := Option.some.inj e13
          refine z_iinc fx (i := 2) (x := v_slot_2) (v := v_slot_9) rfl (by rw [in1]; exact e13) rfl (lv' := [(0, .ref o_), (1, .int v_count_8), (2, .int v_slot_9)]) rfl rfl d8_countMail_39 ?_
          cases e1
          refine z_goto fx d8_countMail_42 ?_
          exact ih5 _ _ hl2
        refine z_aload_n fx (k := 0) (i := 0) rfl rfl d8_countMail_20 ?_
        refine z_getO fx 8 2 3 ho lf8_25 fk8_2 d8_countMail_21 ?_
        refine z_iload_n fx (k := 2) (i := 2) rfl rfl d8_countMail_24 ?_
        obtain ⟨j7, e10, e8⟩ := zinv e8
        refine z_aald fx 2 (by decide) (ok8_2 hO ho) e10 (v := .ref (o_ + 93 + 2 * j7)) rfl d8_countMail_25 ?_
        refine z_getB fx 3 1 301 (okA2 hO (ok8_2 hO ho) (rI_lt e10)) lf8_171 ⟨fk3_1, rfl⟩ d8_countMail_26 ?_
        refine z_ifb_eq fx d8_countMail_29 (fun c11 => ?_) (fun c11 => ?_)
        · replace e8 := zif_f c11 e8
          refine z_iconst fx (v := 0) ic0 d8_countMail_36 ?_
          cases e8
          exact k9
        · replace e8 := zif_t c11 e8
          refine z_iconst fx (v := 1) ic1 d8_countMail_32 ?_
          cases e8
          refine z_goto fx d8_countMail_33 ?_
          exact k9
  exact klr3 _ _ _ e14
theorem d8_countOn_0 : zd cX8_countOn 0 (.iconst 0) 1 1 := by decide +kernel
theorem d8_countOn_1 : zd cX8_countOn 1 (.istore_n 1) 1 2 := by decide +kernel
theorem d8_countOn_2 : zd cX8_countOn 2 (.iconst 0) 1 3 := by decide +kernel
theorem d8_countOn_3 : zd cX8_countOn 3 (.istore_n 2) 1 4 := by decide +kernel
theorem d8_countOn_4 : zd cX8_countOn 4 (.iload_n 2) 1 5 := by decide +kernel
theorem d8_countOn_5 : zd cX8_countOn 5 (.aload_n 0) 1 6 := by decide +kernel
theorem d8_countOn_6 : zd cX8_countOn 6 (.getfield 62) 3 9 := by decide +kernel
theorem d8_countOn_9 : zd cX8_countOn 9 (.getfield 100) 3 12 := by decide +kernel
theorem d8_countOn_12 : zj cX8_countOn 12 (.if_icmp .ge 29) 29 15 41 := by decide +kernel
theorem d8_countOn_15 : zd cX8_countOn 15 (.iload_n 1) 1 16 := by decide +kernel
theorem d8_countOn_16 : zd cX8_countOn 16 (.aload_n 0) 1 17 := by decide +kernel
theorem d8_countOn_17 : zd cX8_countOn 17 (.getfield 11) 3 20 := by decide +kernel
theorem d8_countOn_20 : zd cX8_countOn 20 (.iload_n 2) 1 21 := by decide +kernel
theorem d8_countOn_21 : zd cX8_countOn 21 (.aaload) 1 22 := by decide +kernel
theorem d8_countOn_22 : zd cX8_countOn 22 (.getfield 104) 3 25 := by decide +kernel
theorem d8_countOn_25 : zj cX8_countOn 25 (.ifCond .eq 7) 7 28 32 := by decide +kernel
theorem d8_countOn_28 : zd cX8_countOn 28 (.iconst 1) 1 29 := by decide +kernel
theorem d8_countOn_29 : zj cX8_countOn 29 (.goto 4) 4 32 33 := by decide +kernel
theorem d8_countOn_32 : zd cX8_countOn 32 (.iconst 0) 1 33 := by decide +kernel
theorem d8_countOn_33 : zd cX8_countOn 33 (.iadd) 1 34 := by decide +kernel
theorem d8_countOn_34 : zd cX8_countOn 34 (.istore_n 1) 1 35 := by decide +kernel
theorem d8_countOn_35 : zd cX8_countOn 35 (.iinc 2 1) 3 38 := by decide +kernel
theorem d8_countOn_38 : zj cX8_countOn 38 (.goto (-34)) (-34) 41 4 := by decide +kernel
theorem d8_countOn_41 : zd cX8_countOn 41 (.iload_n 1) 1 42 := by decide +kernel
theorem d8_countOn_42 : zd cX8_countOn 42 (.ireturn) 1 43 := by decide +kernel
set_option maxHeartbeats 4000000 in
set_option maxRecDepth 20000 in
theorem c8_countOn (l : Launch) (D : zDt) (Sh : zSh) (top : Nat) (hO : zOK Sh) (o_ : Nat) (μ : zM) (r_ : Int32) (ho : (Sh o_).1 = 15) (h : f8_countOn o_ μ = some r_) : zMet l D zK1 yX8_countOn cX8_countOn 3 (some .int) (zrm 0 0) [.ref o_] Sh top μ (some (.int r_)) Sh top μ 0 0 := by
  refine zMet_of (by decide) (Nat.le_of_ble_eq_true rfl) fun X hX1 hX2 fx fin => ?_
  subst hX1; subst hX2
  replace fx : zFix X cX8_countOn RX8 (zrm 0 0) 3 := fx
  show zZ zK1 X (zT0 Sh top) μ 0 [(0, .ref o_)] []
  unfold f8_countOn at h
  refine z_iconst fx (v := 0) ic0 d8_countOn_0 ?_
  refine z_istore_n fx (k := 1) (i := 1) rfl rfl (lv' := [(0, .ref o_), (1, .int 0)]) rfl rfl d8_countOn_1 ?_
  refine z_iconst fx (v := 0) ic0 d8_countOn_2 ?_
  refine z_istore_n fx (k := 2) (i := 2) rfl rfl (lv' := [(0, .ref o_), (1, .int 0), (2, .int 0)]) rfl rfl d8_countOn_3 ?_
  obtain ⟨v_count_3, v_b_4, e14, h⟩ := zinv2 h
  have kx4 : zZ zK1 X (zT0 Sh top) μ 41 [(0, .ref o_), (1, .int v_count_3), (2, .int v_b_4)] [] := by
    refine z_take 2 (lv' := [(0, .ref o_), (1, .int v_count_3)]) rfl ?_
    refine z_iload_n fx (k := 1) (i := 1) rfl rfl d8_countOn_41 ?_
    cases h
    exact z_ireturn fx fin d8_countOn_42
  clear h
  have klr3 : ∀ (n : Nat) (v_count_1 : Int32) (v_b_2 : Int32), zloop (fun s => f8_countOn_L1 o_ μ s.1 s.2) n (v_count_1, v_b_2) = some (v_count_3, v_b_4) → zZ zK1 X (zT0 Sh top) μ 4 [(0, .ref o_), (1, .int v_count_1), (2, .int v_b_2)] [] := by
    intro n
    induction n with
    | zero => intro v_count_1 v_b_2 hl2; cases hl2
    | succ n ih5 =>
      intro v_count_1 v_b_2 hl2
      obtain ⟨y, e1, hl2⟩ := zloop_inv hl2
      replace e1 : f8_countOn_L1 o_ μ v_count_1 v_b_2 = some y := e1
      unfold f8_countOn_L1 at e1
      refine z_iload_n fx (k := 2) (i := 2) rfl rfl d8_countOn_4 ?_
      refine z_aload_n fx (k := 0) (i := 0) rfl rfl d8_countOn_5 ?_
      obtain ⟨w5, e6, e1⟩ := zinv e1
      refine z_getR fx 8 12 812 17 ho lf8_62 ⟨fk8_12, rfl⟩ e6 d8_countOn_6 (fun tw5 => ?_)
      refine z_getI fx 10 15 1015 tw5 lf8_100 ⟨fk10_15, rfl⟩ d8_countOn_9 ?_
      refine z_icmp_ge fx d8_countOn_12 (fun c7 => ?_) (fun c7 => ?_)
      · replace e1 := zif_f c7 e1
        cases e1
        cases hl2
        exact kx4
      · replace e1 := zif_t c7 e1
        refine z_iload_n fx (k := 1) (i := 1) rfl rfl d8_countOn_15 ?_
        obtain ⟨x6, e8, e1⟩ := zinv e1
        have k9 : zZ zK1 X (zT0 Sh top) μ 33 [(0, .ref o_), (1, .int v_count_1), (2, .int v_b_2)] [.int x6, .int v_count_1] := by
          refine z_iadd fx d8_countOn_33 ?_
          obtain ⟨v_count_8, e12, e1⟩ := zinv e1
          replace e12 := Option.some.inj e12
          refine z_top (congrArg Value.int e12) ?_
          refine z_istore_n fx (k := 1) (i := 1) rfl rfl (lv' := [(0, .ref o_), (1, .int v_count_8), (2, .int v_b_2)]) rfl rfl d8_countOn_34 ?_
          obtain ⟨v_b_9, e13, e1⟩ := zinv e1
          replace e13 := Option.some.inj e13
          refine z_iinc fx (i := 2) (x := v_b_2) (v := v_b_9) rfl (by rw [in1]; exact e13) rfl (lv' := [(0, .ref o_), (1, .int v_count_8), (2, .int v_b_9)]) rfl rfl d8_countOn_35 ?_
          cases e1
          refine z_goto fx d8_countOn_38 ?_
          exact ih5 _ _ hl2
        refine z_aload_n fx (k := 0) (i := 0) rfl rfl d8_countOn_16 ?_
        refine z_getO fx 8 0 1 ho lf8_11 fk8_0 d8_countOn_17 ?_
        refine z_iload_n fx (k := 2) (i := 2) rfl rfl d8_countOn_20 ?_
        obtain ⟨j7, e10, e8⟩ := zinv e8
        refine z_aald fx 0 (by decide) (ok8_0 hO ho) e10 (v := .ref (o_ + 13 + 3 * j7)) rfl d8_countOn_21 ?_
        refine z_getB fx 0 3 3 (okA0 hO (ok8_0 hO ho) (rI_lt e10)) lf8_104 ⟨fk0_3, rfl⟩ d8_countOn_22 ?_
        refine z_ifb_eq fx d8_countOn_25 (fun c11 => ?_) (fun c11 => ?_)
        · replace e8 := zif_f c11 e8
          refine z_iconst fx (v := 0) ic0 d8_countOn_32 ?_
          cases e8
          exact k9
        · replace e8 := zif_t c11 e8
          refine z_iconst fx (v := 1) ic1 d8_countOn_28 ?_
          cases e8
          refine z_goto fx d8_countOn_29 ?_
          exact k9
  exact klr3 _ _ _ e14
theorem d8_countWhole_0 : zd cX8_countWhole 0 (.iconst 0) 1 1 := by decide +kernel
theorem d8_countWhole_1 : zd cX8_countWhole 1 (.istore_n 1) 1 2 := by decide +kernel
theorem d8_countWhole_2 : zd cX8_countWhole 2 (.iconst 0) 1 3 := by decide +kernel
theorem d8_countWhole_3 : zd cX8_countWhole 3 (.istore_n 2) 1 4 := by decide +kernel
theorem d8_countWhole_4 : zd cX8_countWhole 4 (.iload_n 2) 1 5 := by decide +kernel
theorem d8_countWhole_5 : zd cX8_countWhole 5 (.aload_n 0) 1 6 := by decide +kernel
theorem d8_countWhole_6 : zd cX8_countWhole 6 (.getfield 62) 3 9 := by decide +kernel
theorem d8_countWhole_9 : zd cX8_countWhole 9 (.getfield 120) 3 12 := by decide +kernel
theorem d8_countWhole_12 : zj cX8_countWhole 12 (.if_icmp .ge 26) 26 15 38 := by decide +kernel
theorem d8_countWhole_15 : zd cX8_countWhole 15 (.iload_n 1) 1 16 := by decide +kernel
theorem d8_countWhole_16 : zd cX8_countWhole 16 (.aload_n 0) 1 17 := by decide +kernel
theorem d8_countWhole_17 : zd cX8_countWhole 17 (.getfield 29) 3 20 := by decide +kernel
theorem d8_countWhole_20 : zd cX8_countWhole 20 (.iload_n 2) 1 21 := by decide +kernel
theorem d8_countWhole_21 : zd cX8_countWhole 21 (.baload) 1 22 := by decide +kernel
theorem d8_countWhole_22 : zj cX8_countWhole 22 (.ifCond .eq 7) 7 25 29 := by decide +kernel
theorem d8_countWhole_25 : zd cX8_countWhole 25 (.iconst 1) 1 26 := by decide +kernel
theorem d8_countWhole_26 : zj cX8_countWhole 26 (.goto 4) 4 29 30 := by decide +kernel
theorem d8_countWhole_29 : zd cX8_countWhole 29 (.iconst 0) 1 30 := by decide +kernel
theorem d8_countWhole_30 : zd cX8_countWhole 30 (.iadd) 1 31 := by decide +kernel
theorem d8_countWhole_31 : zd cX8_countWhole 31 (.istore_n 1) 1 32 := by decide +kernel
theorem d8_countWhole_32 : zd cX8_countWhole 32 (.iinc 2 1) 3 35 := by decide +kernel
theorem d8_countWhole_35 : zj cX8_countWhole 35 (.goto (-31)) (-31) 38 4 := by decide +kernel
theorem d8_countWhole_38 : zd cX8_countWhole 38 (.iload_n 1) 1 39 := by decide +kernel
theorem d8_countWhole_39 : zd cX8_countWhole 39 (.ireturn) 1 40 := by decide +kernel
set_option maxHeartbeats 4000000 in
set_option maxRecDepth 20000 in
theorem c8_countWhole (l : Launch) (D : zDt) (Sh : zSh) (top : Nat) (hO : zOK Sh) (o_ : Nat) (μ : zM) (r_ : Int32) (ho : (Sh o_).1 = 15) (h : f8_countWhole o_ μ = some r_) : zMet l D zK1 yX8_countWhole cX8_countWhole 3 (some .int) (zrm 0 0) [.ref o_] Sh top μ (some (.int r_)) Sh top μ 0 0 := by
  refine zMet_of (by decide) (Nat.le_of_ble_eq_true rfl) fun X hX1 hX2 fx fin => ?_
  subst hX1; subst hX2
  replace fx : zFix X cX8_countWhole RX8 (zrm 0 0) 3 := fx
  show zZ zK1 X (zT0 Sh top) μ 0 [(0, .ref o_)] []
  unfold f8_countWhole at h
  refine z_iconst fx (v := 0) ic0 d8_countWhole_0 ?_
  refine z_istore_n fx (k := 1) (i := 1) rfl rfl (lv' := [(0, .ref o_), (1, .int 0)]) rfl rfl d8_countWhole_1 ?_
  refine z_iconst fx (v := 0) ic0 d8_countWhole_2 ?_
  refine z_istore_n fx (k := 2) (i := 2) rfl rfl (lv' := [(0, .ref o_), (1, .int 0), (2, .int 0)]) rfl rfl d8_countWhole_3 ?_
  obtain ⟨v_count_3, v_link_4, e14, h⟩ := zinv2 h
  have kx4 : zZ zK1 X (zT0 Sh top) μ 38 [(0, .ref o_), (1, .int v_count_3), (2, .int v_link_4)] [] := by
    refine z_take 2 (lv' := [(0, .ref o_), (1, .int v_count_3)]) rfl ?_
    refine z_iload_n fx (k := 1) (i := 1) rfl rfl d8_countWhole_38 ?_
    cases h
    exact z_ireturn fx fin d8_countWhole_39
  clear h
  have klr3 : ∀ (n : Nat) (v_count_1 : Int32) (v_link_2 : Int32), zloop (fun s => f8_countWhole_L1 o_ μ s.1 s.2) n (v_count_1, v_link_2) = some (v_count_3, v_link_4) → zZ zK1 X (zT0 Sh top) μ 4 [(0, .ref o_), (1, .int v_count_1), (2, .int v_link_2)] [] := by
    intro n
    induction n with
    | zero => intro v_count_1 v_link_2 hl2; cases hl2
    | succ n ih5 =>
      intro v_count_1 v_link_2 hl2
      obtain ⟨y, e1, hl2⟩ := zloop_inv hl2
      replace e1 : f8_countWhole_L1 o_ μ v_count_1 v_link_2 = some y := e1
      unfold f8_countWhole_L1 at e1
      refine z_iload_n fx (k := 2) (i := 2) rfl rfl d8_countWhole_4 ?_
      refine z_aload_n fx (k := 0) (i := 0) rfl rfl d8_countWhole_5 ?_
      obtain ⟨w5, e6, e1⟩ := zinv e1
      refine z_getR fx 8 12 812 17 ho lf8_62 ⟨fk8_12, rfl⟩ e6 d8_countWhole_6 (fun tw5 => ?_)
      refine z_getI fx 10 16 1016 tw5 lf8_120 ⟨fk10_16, rfl⟩ d8_countWhole_9 ?_
      refine z_icmp_ge fx d8_countWhole_12 (fun c7 => ?_) (fun c7 => ?_)
      · replace e1 := zif_f c7 e1
        cases e1
        cases hl2
        exact kx4
      · replace e1 := zif_t c7 e1
        refine z_iload_n fx (k := 1) (i := 1) rfl rfl d8_countWhole_15 ?_
        obtain ⟨x6, e8, e1⟩ := zinv e1
        have k9 : zZ zK1 X (zT0 Sh top) μ 30 [(0, .ref o_), (1, .int v_count_1), (2, .int v_link_2)] [.int x6, .int v_count_1] := by
          refine z_iadd fx d8_countWhole_30 ?_
          obtain ⟨v_count_8, e12, e1⟩ := zinv e1
          replace e12 := Option.some.inj e12
          refine z_top (congrArg Value.int e12) ?_
          refine z_istore_n fx (k := 1) (i := 1) rfl rfl (lv' := [(0, .ref o_), (1, .int v_count_8), (2, .int v_link_2)]) rfl rfl d8_countWhole_31 ?_
          obtain ⟨v_link_9, e13, e1⟩ := zinv e1
          replace e13 := Option.some.inj e13
          refine z_iinc fx (i := 2) (x := v_link_2) (v := v_link_9) rfl (by rw [in1]; exact e13) rfl (lv' := [(0, .ref o_), (1, .int v_count_8), (2, .int v_link_9)]) rfl rfl d8_countWhole_32 ?_
          cases e1
          refine z_goto fx d8_countWhole_35 ?_
          exact ih5 _ _ hl2
        refine z_aload_n fx (k := 0) (i := 0) rfl rfl d8_countWhole_16 ?_
        refine z_getO fx 8 3 4 ho lf8_29 fk8_3 d8_countWhole_17 ?_
        refine z_iload_n fx (k := 2) (i := 2) rfl rfl d8_countWhole_20 ?_
        obtain ⟨t7, e10, e8⟩ := zinv e8
        refine z_zald fx (ok8_3 hO ho) e10 d8_countWhole_21 ?_
        refine z_ifb_eq fx d8_countWhole_22 (fun c11 => ?_) (fun c11 => ?_)
        · replace e8 := zif_f c11 e8
          refine z_iconst fx (v := 0) ic0 d8_countWhole_29 ?_
          cases e8
          exact k9
        · replace e8 := zif_t c11 e8
          refine z_iconst fx (v := 1) ic1 d8_countWhole_25 ?_
          cases e8
          refine z_goto fx d8_countWhole_26 ?_
          exact k9
  exact klr3 _ _ _ e14
theorem d8_isOpen_0 : zd cX8_isOpen 0 (.aload_n 0) 1 1 := by decide +kernel
theorem d8_isOpen_1 : zd cX8_isOpen 1 (.getfield 19) 3 4 := by decide +kernel
theorem d8_isOpen_4 : zd cX8_isOpen 4 (.iconst 2) 1 5 := by decide +kernel
theorem d8_isOpen_5 : zd cX8_isOpen 5 (.iload_n 1) 1 6 := by decide +kernel
theorem d8_isOpen_6 : zd cX8_isOpen 6 (.imul) 1 7 := by decide +kernel
theorem d8_isOpen_7 : zd cX8_isOpen 7 (.aaload) 1 8 := by decide +kernel
theorem d8_isOpen_8 : zd cX8_isOpen 8 (.getfield 165) 3 11 := by decide +kernel
theorem d8_isOpen_11 : zd cX8_isOpen 11 (.iconst 2) 1 12 := by decide +kernel
theorem d8_isOpen_12 : zj cX8_isOpen 12 (.if_icmp .ne 24) 24 15 36 := by decide +kernel
theorem d8_isOpen_15 : zd cX8_isOpen 15 (.aload_n 0) 1 16 := by decide +kernel
theorem d8_isOpen_16 : zd cX8_isOpen 16 (.getfield 19) 3 19 := by decide +kernel
theorem d8_isOpen_19 : zd cX8_isOpen 19 (.iconst 2) 1 20 := by decide +kernel
theorem d8_isOpen_20 : zd cX8_isOpen 20 (.iload_n 1) 1 21 := by decide +kernel
theorem d8_isOpen_21 : zd cX8_isOpen 21 (.imul) 1 22 := by decide +kernel
theorem d8_isOpen_22 : zd cX8_isOpen 22 (.iconst 1) 1 23 := by decide +kernel
theorem d8_isOpen_23 : zd cX8_isOpen 23 (.iadd) 1 24 := by decide +kernel
theorem d8_isOpen_24 : zd cX8_isOpen 24 (.aaload) 1 25 := by decide +kernel
theorem d8_isOpen_25 : zd cX8_isOpen 25 (.getfield 165) 3 28 := by decide +kernel
theorem d8_isOpen_28 : zd cX8_isOpen 28 (.iconst 2) 1 29 := by decide +kernel
theorem d8_isOpen_29 : zj cX8_isOpen 29 (.if_icmp .ne 7) 7 32 36 := by decide +kernel
theorem d8_isOpen_32 : zd cX8_isOpen 32 (.iconst 1) 1 33 := by decide +kernel
theorem d8_isOpen_33 : zj cX8_isOpen 33 (.goto 4) 4 36 37 := by decide +kernel
theorem d8_isOpen_36 : zd cX8_isOpen 36 (.iconst 0) 1 37 := by decide +kernel
theorem d8_isOpen_37 : zd cX8_isOpen 37 (.ireturn) 1 38 := by decide +kernel
set_option maxHeartbeats 4000000 in
set_option maxRecDepth 20000 in
theorem c8_isOpen (l : Launch) (D : zDt) (Sh : zSh) (top : Nat) (hO : zOK Sh) (o_ : Nat) (v_link : Int32) (μ : zM) (r_ : Bool) (ho : (Sh o_).1 = 15) (h : f8_isOpen o_ v_link μ = some r_) : zMet l D zK1 yX8_isOpen cX8_isOpen 2 (some .boolean) (zrm 0 0) [.ref o_, .int v_link] Sh top μ (some (.int (bI r_))) Sh top μ 0 0 := by
  refine zMet_of (by decide) (Nat.le_of_ble_eq_true rfl) fun X hX1 hX2 fx fin => ?_
  subst hX1; subst hX2
  replace fx : zFix X cX8_isOpen RX8 (zrm 0 0) 2 := fx
  show zZ zK1 X (zT0 Sh top) μ 0 [(0, .ref o_), (1, .int v_link)] []
  unfold f8_isOpen at h
  obtain ⟨b1, e1, h⟩ := zinv h
  have k2 : zZ zK1 X (zT0 Sh top) μ 37 [(0, .ref o_), (1, .int v_link)] [.int (bI b1)] := by
    cases h
    exact z_zreturn fx fin d8_isOpen_37
  have kt3 : b1 = true → zZ zK1 X (zT0 Sh top) μ 32 [(0, .ref o_), (1, .int v_link)] [] := by
    intro hc
    refine z_iconst fx (v := 1) ic1 d8_isOpen_32 ?_
    refine z_goto fx d8_isOpen_33 ?_
    exact z_top (congrArg Value.int (show 1 = bI b1 by rw [hc]; rfl)) k2
  have kf3 : b1 = false → zZ zK1 X (zT0 Sh top) μ 36 [(0, .ref o_), (1, .int v_link)] [] := by
    intro hc
    refine z_iconst fx (v := 0) ic0 d8_isOpen_36 ?_
    exact z_top (congrArg Value.int (show 0 = bI b1 by rw [hc]; rfl)) k2
  obtain ⟨b2, e4, e1⟩ := zinv e1
  have kt5 : b2 = true → zZ zK1 X (zT0 Sh top) μ 15 [(0, .ref o_), (1, .int v_link)] [] := by
    intro hc
    replace e1 := zif_t hc e1
    refine z_aload_n fx (k := 0) (i := 0) rfl rfl d8_isOpen_15 ?_
    refine z_getO fx 8 1 2 ho lf8_19 fk8_1 d8_isOpen_16 ?_
    refine z_iconst fx (v := 2) ic2 d8_isOpen_19 ?_
    refine z_iload_n fx (k := 1) (i := 1) rfl rfl d8_isOpen_20 ?_
    refine z_imul fx d8_isOpen_21 ?_
    refine z_iconst fx (v := 1) ic1 d8_isOpen_22 ?_
    refine z_iadd fx d8_isOpen_23 ?_
    obtain ⟨j3, e6, e1⟩ := zinv e1
    refine z_aald fx 1 (by decide) (ok8_1 hO ho) e6 (v := .ref (o_ + 37 + 2 * j3)) rfl d8_isOpen_24 ?_
    refine z_getI fx 4 6 406 (okA1 hO (ok8_1 hO ho) (rI_lt e6)) lf8_165 ⟨fk4_6, rfl⟩ d8_isOpen_25 ?_
    refine z_iconst fx (v := 2) ic2 d8_isOpen_28 ?_
    cases e1
    refine z_icmp_ne fx d8_isOpen_29 (fun c7 => ?_) (fun c7 => ?_)
    · exact kf3 c7
    · exact kt3 c7
  have kf5 : b2 = false → zZ zK1 X (zT0 Sh top) μ 36 [(0, .ref o_), (1, .int v_link)] [] := by
    intro hc
    replace e1 := zif_f hc e1
    cases e1
    exact kf3 rfl
  clear e1
  refine z_aload_n fx (k := 0) (i := 0) rfl rfl d8_isOpen_0 ?_
  refine z_getO fx 8 1 2 ho lf8_19 fk8_1 d8_isOpen_1 ?_
  refine z_iconst fx (v := 2) ic2 d8_isOpen_4 ?_
  refine z_iload_n fx (k := 1) (i := 1) rfl rfl d8_isOpen_5 ?_
  refine z_imul fx d8_isOpen_6 ?_
  obtain ⟨j4, e8, e4⟩ := zinv e4
  refine z_aald fx 1 (by decide) (ok8_1 hO ho) e8 (v := .ref (o_ + 37 + 2 * j4)) rfl d8_isOpen_7 ?_
  refine z_getI fx 4 6 406 (okA1 hO (ok8_1 hO ho) (rI_lt e8)) lf8_165 ⟨fk4_6, rfl⟩ d8_isOpen_8 ?_
  refine z_iconst fx (v := 2) ic2 d8_isOpen_11 ?_
  cases e4
  refine z_icmp_ne fx d8_isOpen_12 (fun c9 => ?_) (fun c9 => ?_)
  · exact kf5 c9
  · exact kt5 c9
theorem d8_countOpen_0 : zd cX8_countOpen 0 (.iconst 0) 1 1 := by decide +kernel
theorem d8_countOpen_1 : zd cX8_countOpen 1 (.istore_n 1) 1 2 := by decide +kernel
theorem d8_countOpen_2 : zd cX8_countOpen 2 (.iconst 0) 1 3 := by decide +kernel
theorem d8_countOpen_3 : zd cX8_countOpen 3 (.istore_n 2) 1 4 := by decide +kernel
theorem d8_countOpen_4 : zd cX8_countOpen 4 (.iload_n 2) 1 5 := by decide +kernel
theorem d8_countOpen_5 : zd cX8_countOpen 5 (.aload_n 0) 1 6 := by decide +kernel
theorem d8_countOpen_6 : zd cX8_countOpen 6 (.getfield 62) 3 9 := by decide +kernel
theorem d8_countOpen_9 : zd cX8_countOpen 9 (.getfield 120) 3 12 := by decide +kernel
theorem d8_countOpen_12 : zj cX8_countOpen 12 (.if_icmp .ge 25) 25 15 37 := by decide +kernel
theorem d8_countOpen_15 : zd cX8_countOpen 15 (.iload_n 1) 1 16 := by decide +kernel
theorem d8_countOpen_16 : zd cX8_countOpen 16 (.aload_n 0) 1 17 := by decide +kernel
theorem d8_countOpen_17 : zd cX8_countOpen 17 (.iload_n 2) 1 18 := by decide +kernel
theorem d8_countOpen_18 : zd cX8_countOpen 18 (.invokevirtual 168) 3 21 := by decide +kernel
theorem d8_countOpen_21 : zj cX8_countOpen 21 (.ifCond .eq 7) 7 24 28 := by decide +kernel
theorem d8_countOpen_24 : zd cX8_countOpen 24 (.iconst 1) 1 25 := by decide +kernel
theorem d8_countOpen_25 : zj cX8_countOpen 25 (.goto 4) 4 28 29 := by decide +kernel
theorem d8_countOpen_28 : zd cX8_countOpen 28 (.iconst 0) 1 29 := by decide +kernel
theorem d8_countOpen_29 : zd cX8_countOpen 29 (.iadd) 1 30 := by decide +kernel
theorem d8_countOpen_30 : zd cX8_countOpen 30 (.istore_n 1) 1 31 := by decide +kernel
theorem d8_countOpen_31 : zd cX8_countOpen 31 (.iinc 2 1) 3 34 := by decide +kernel
theorem d8_countOpen_34 : zj cX8_countOpen 34 (.goto (-30)) (-30) 37 4 := by decide +kernel
theorem d8_countOpen_37 : zd cX8_countOpen 37 (.iload_n 1) 1 38 := by decide +kernel
theorem d8_countOpen_38 : zd cX8_countOpen 38 (.ireturn) 1 39 := by decide +kernel
set_option maxHeartbeats 4000000 in
set_option maxRecDepth 20000 in
theorem c8_countOpen (l : Launch) (D : zDt) (Sh : zSh) (top : Nat) (hO : zOK Sh) (o_ : Nat) (μ : zM) (r_ : Int32) (ho : (Sh o_).1 = 15) (h : f8_countOpen o_ μ = some r_) : zMet l D zK1 yX8_countOpen cX8_countOpen 3 (some .int) (zrm 1 21) [.ref o_] Sh top μ (some (.int r_)) Sh top μ 0 0 := by
  refine zMet_of (by decide) (Nat.le_of_ble_eq_true rfl) fun X hX1 hX2 fx fin => ?_
  subst hX1; subst hX2
  replace fx : zFix X cX8_countOpen RX8 (zrm 1 21) 3 := fx
  show zZ zK1 X (zT0 Sh top) μ 0 [(0, .ref o_)] []
  unfold f8_countOpen at h
  refine z_iconst fx (v := 0) ic0 d8_countOpen_0 ?_
  refine z_istore_n fx (k := 1) (i := 1) rfl rfl (lv' := [(0, .ref o_), (1, .int 0)]) rfl rfl d8_countOpen_1 ?_
  refine z_iconst fx (v := 0) ic0 d8_countOpen_2 ?_
  refine z_istore_n fx (k := 2) (i := 2) rfl rfl (lv' := [(0, .ref o_), (1, .int 0), (2, .int 0)]) rfl rfl d8_countOpen_3 ?_
  obtain ⟨v_count_3, v_link_4, e14, h⟩ := zinv2 h
  have kx4 : zZ zK1 X (zT0 Sh top) μ 37 [(0, .ref o_), (1, .int v_count_3), (2, .int v_link_4)] [] := by
    refine z_take 2 (lv' := [(0, .ref o_), (1, .int v_count_3)]) rfl ?_
    refine z_iload_n fx (k := 1) (i := 1) rfl rfl d8_countOpen_37 ?_
    cases h
    exact z_ireturn fx fin d8_countOpen_38
  clear h
  have klr3 : ∀ (n : Nat) (v_count_1 : Int32) (v_link_2 : Int32), zloop (fun s => f8_countOpen_L1 o_ μ s.1 s.2) n (v_count_1, v_link_2) = some (v_count_3, v_link_4) → zZ zK1 X (zT0 Sh top) μ 4 [(0, .ref o_), (1, .int v_count_1), (2, .int v_link_2)] [] := by
    intro n
    induction n with
    | zero => intro v_count_1 v_link_2 hl2; cases hl2
    | succ n ih5 =>
      intro v_count_1 v_link_2 hl2
      obtain ⟨y, e1, hl2⟩ := zloop_inv hl2
      replace e1 : f8_countOpen_L1 o_ μ v_count_1 v_link_2 = some y := e1
      unfold f8_countOpen_L1 at e1
      refine z_iload_n fx (k := 2) (i := 2) rfl rfl d8_countOpen_4 ?_
      refine z_aload_n fx (k := 0) (i := 0) rfl rfl d8_countOpen_5 ?_
      obtain ⟨w5, e6, e1⟩ := zinv e1
      refine z_getR fx 8 12 812 17 ho lf8_62 ⟨fk8_12, rfl⟩ e6 d8_countOpen_6 (fun tw5 => ?_)
      refine z_getI fx 10 16 1016 tw5 lf8_120 ⟨fk10_16, rfl⟩ d8_countOpen_9 ?_
      refine z_icmp_ge fx d8_countOpen_12 (fun c7 => ?_) (fun c7 => ?_)
      · replace e1 := zif_f c7 e1
        cases e1
        cases hl2
        exact kx4
      · replace e1 := zif_t c7 e1
        refine z_iload_n fx (k := 1) (i := 1) rfl rfl d8_countOpen_15 ?_
        obtain ⟨x6, e8, e1⟩ := zinv e1
        have k9 : zZ zK1 X (zT0 Sh top) μ 29 [(0, .ref o_), (1, .int v_count_1), (2, .int v_link_2)] [.int x6, .int v_count_1] := by
          refine z_iadd fx d8_countOpen_29 ?_
          obtain ⟨v_count_8, e12, e1⟩ := zinv e1
          replace e12 := Option.some.inj e12
          refine z_top (congrArg Value.int e12) ?_
          refine z_istore_n fx (k := 1) (i := 1) rfl rfl (lv' := [(0, .ref o_), (1, .int v_count_8), (2, .int v_link_2)]) rfl rfl d8_countOpen_30 ?_
          obtain ⟨v_link_9, e13, e1⟩ := zinv e1
          replace e13 := Option.some.inj e13
          refine z_iinc fx (i := 2) (x := v_link_2) (v := v_link_9) rfl (by rw [in1]; exact e13) rfl (lv' := [(0, .ref o_), (1, .int v_count_8), (2, .int v_link_9)]) rfl rfl d8_countOpen_31 ?_
          cases e1
          refine z_goto fx d8_countOpen_34 ?_
          exact ih5 _ _ hl2
        refine z_aload_n fx (k := 0) (i := 0) rfl rfl d8_countOpen_16 ?_
        refine z_iload_n fx (k := 2) (i := 2) rfl rfl d8_countOpen_17 ?_
        obtain ⟨t7, e10, e8⟩ := zinv e8
        refine z_cVr fx (c8_isOpen (zLo X) (zDo X) Sh top hO o_ v_link_2 μ _ ho e10) mv8_isOpen ml8_168 ho rfl rfl rfl rfl d8_countOpen_18 ?_
        refine z_ifb_eq fx d8_countOpen_21 (fun c11 => ?_) (fun c11 => ?_)
        · replace e8 := zif_f c11 e8
          refine z_iconst fx (v := 0) ic0 d8_countOpen_28 ?_
          cases e8
          exact k9
        · replace e8 := zif_t c11 e8
          refine z_iconst fx (v := 1) ic1 d8_countOpen_24 ?_
          cases e8
          refine z_goto fx d8_countOpen_25 ?_
          exact k9
  exact klr3 _ _ _ e14
theorem d11_has_0 : zd cX11_has 0 (.iload_n 1) 1 1 := by decide +kernel
theorem d11_has_1 : decode cX11_has 1 = .ok (.tableswitch 165 0 12 #[67, 75, 83, 91, 99, 107, 115, 123, 131, 139, 147, 155, 160], 67) := by decide +kernel
theorem d11_has_68 : zd cX11_has 68 (.aload_n 0) 1 69 := by decide +kernel
theorem d11_has_69 : zd cX11_has 69 (.getfield 56) 3 72 := by decide +kernel
theorem d11_has_72 : zd cX11_has 72 (.getfield 128) 3 75 := by decide +kernel
theorem d11_has_75 : zd cX11_has 75 (.ireturn) 1 76 := by decide +kernel
theorem d11_has_76 : zd cX11_has 76 (.aload_n 0) 1 77 := by decide +kernel
theorem d11_has_77 : zd cX11_has 77 (.getfield 56) 3 80 := by decide +kernel
theorem d11_has_80 : zd cX11_has 80 (.getfield 131) 3 83 := by decide +kernel
theorem d11_has_83 : zd cX11_has 83 (.ireturn) 1 84 := by decide +kernel
theorem d11_has_84 : zd cX11_has 84 (.aload_n 0) 1 85 := by decide +kernel
theorem d11_has_85 : zd cX11_has 85 (.getfield 56) 3 88 := by decide +kernel
theorem d11_has_88 : zd cX11_has 88 (.getfield 134) 3 91 := by decide +kernel
theorem d11_has_91 : zd cX11_has 91 (.ireturn) 1 92 := by decide +kernel
theorem d11_has_92 : zd cX11_has 92 (.aload_n 0) 1 93 := by decide +kernel
theorem d11_has_93 : zd cX11_has 93 (.getfield 75) 3 96 := by decide +kernel
theorem d11_has_96 : zd cX11_has 96 (.getfield 137) 3 99 := by decide +kernel
theorem d11_has_99 : zd cX11_has 99 (.ireturn) 1 100 := by decide +kernel
theorem d11_has_100 : zd cX11_has 100 (.aload_n 0) 1 101 := by decide +kernel
theorem d11_has_101 : zd cX11_has 101 (.getfield 75) 3 104 := by decide +kernel
theorem d11_has_104 : zd cX11_has 104 (.invokevirtual 140) 3 107 := by decide +kernel
theorem d11_has_107 : zd cX11_has 107 (.ireturn) 1 108 := by decide +kernel
theorem d11_has_108 : zd cX11_has 108 (.aload_n 0) 1 109 := by decide +kernel
theorem d11_has_109 : zd cX11_has 109 (.getfield 75) 3 112 := by decide +kernel
theorem d11_has_112 : zd cX11_has 112 (.invokevirtual 143) 3 115 := by decide +kernel
theorem d11_has_115 : zd cX11_has 115 (.ireturn) 1 116 := by decide +kernel
theorem d11_has_116 : zd cX11_has 116 (.aload_n 0) 1 117 := by decide +kernel
theorem d11_has_117 : zd cX11_has 117 (.getfield 75) 3 120 := by decide +kernel
theorem d11_has_120 : zd cX11_has 120 (.invokevirtual 146) 3 123 := by decide +kernel
theorem d11_has_123 : zd cX11_has 123 (.ireturn) 1 124 := by decide +kernel
theorem d11_has_124 : zd cX11_has 124 (.aload_n 0) 1 125 := by decide +kernel
theorem d11_has_125 : zd cX11_has 125 (.getfield 75) 3 128 := by decide +kernel
theorem d11_has_128 : zd cX11_has 128 (.invokevirtual 149) 3 131 := by decide +kernel
theorem d11_has_131 : zd cX11_has 131 (.ireturn) 1 132 := by decide +kernel
theorem d11_has_132 : zd cX11_has 132 (.aload_n 0) 1 133 := by decide +kernel
theorem d11_has_133 : zd cX11_has 133 (.getfield 75) 3 136 := by decide +kernel
theorem d11_has_136 : zd cX11_has 136 (.getfield 152) 3 139 := by decide +kernel
theorem d11_has_139 : zd cX11_has 139 (.ireturn) 1 140 := by decide +kernel
theorem d11_has_140 : zd cX11_has 140 (.aload_n 0) 1 141 := by decide +kernel
theorem d11_has_141 : zd cX11_has 141 (.getfield 75) 3 144 := by decide +kernel
theorem d11_has_144 : zd cX11_has 144 (.getfield 155) 3 147 := by decide +kernel
theorem d11_has_147 : zd cX11_has 147 (.ireturn) 1 148 := by decide +kernel
theorem d11_has_148 : zd cX11_has 148 (.aload_n 0) 1 149 := by decide +kernel
theorem d11_has_149 : zd cX11_has 149 (.getfield 43) 3 152 := by decide +kernel
theorem d11_has_152 : zd cX11_has 152 (.getfield 158) 3 155 := by decide +kernel
theorem d11_has_155 : zd cX11_has 155 (.ireturn) 1 156 := by decide +kernel
theorem d11_has_156 : zd cX11_has 156 (.aload_n 0) 1 157 := by decide +kernel
theorem d11_has_157 : zd cX11_has 157 (.getfield 119) 3 160 := by decide +kernel
theorem d11_has_160 : zd cX11_has 160 (.ireturn) 1 161 := by decide +kernel
theorem d11_has_161 : zd cX11_has 161 (.aload_n 0) 1 162 := by decide +kernel
theorem d11_has_162 : zd cX11_has 162 (.getfield 82) 3 165 := by decide +kernel
theorem d11_has_165 : zd cX11_has 165 (.ireturn) 1 166 := by decide +kernel
theorem d11_has_166 : zd cX11_has 166 (.iconst (-1)) 1 167 := by decide +kernel
theorem d11_has_167 : zd cX11_has 167 (.ireturn) 1 168 := by decide +kernel
set_option maxHeartbeats 4000000 in
set_option maxRecDepth 20000 in
theorem c11_has (l : Launch) (D : zDt) (Sh : zSh) (top : Nat) (hO : zOK Sh) (o_ : Nat) (v_what : Int32) (μ : zM) (r_ : Int32) (ho : (Sh o_).1 = 18) (h : f11_has o_ v_what μ = some r_) : zMet l D zK1 yX11_has cX11_has 2 (some .int) (zrm 2 43) [.ref o_, .int v_what] Sh top μ (some (.int r_)) Sh top μ 0 0 := by
  refine zMet_of (by decide) (Nat.le_of_ble_eq_true rfl) fun X hX1 hX2 fx fin => ?_
  subst hX1; subst hX2
  replace fx : zFix X cX11_has RX11 (zrm 2 43) 2 := fx
  show zZ zK1 X (zT0 Sh top) μ 0 [(0, .ref o_), (1, .int v_what)] []
  unfold f11_has at h
  refine z_iload_n fx (k := 1) (i := 1) rfl rfl d11_has_0 ?_
  cases c1 : ceq v_what 0 with
  | true =>
    replace h := zif_t c1 h
    refine z_table fx d11_has_1 (off := 67) (tgt := 68) (by rw [ceq_of c1]; decide) (by decide) ?_
    refine z_aload_n fx (k := 0) (i := 0) rfl rfl d11_has_68 ?_
    obtain ⟨w1, e2, h⟩ := zinv h
    refine z_getR fx 11 11 1111 17 ho lf11_56 ⟨fk11_11, rfl⟩ e2 d11_has_69 (fun tw1 => ?_)
    refine z_getI fx 10 15 1015 tw1 lf11_128 ⟨fk10_15, rfl⟩ d11_has_72 ?_
    cases h
    exact z_ireturn fx fin d11_has_75
  | false =>
  replace h := zif_f c1 h
  cases c3 : ceq v_what 1 with
  | true =>
    replace h := zif_t c3 h
    refine z_table fx d11_has_1 (off := 75) (tgt := 76) (by rw [ceq_of c3]; decide) (by decide) ?_
    refine z_aload_n fx (k := 0) (i := 0) rfl rfl d11_has_76 ?_
    obtain ⟨w2, e4, h⟩ := zinv h
    refine z_getR fx 11 11 1111 17 ho lf11_56 ⟨fk11_11, rfl⟩ e4 d11_has_77 (fun tw2 => ?_)
    refine z_getI fx 10 16 1016 tw2 lf11_131 ⟨fk10_16, rfl⟩ d11_has_80 ?_
    cases h
    exact z_ireturn fx fin d11_has_83
  | false =>
  replace h := zif_f c3 h
  cases c5 : ceq v_what 2 with
  | true =>
    replace h := zif_t c5 h
    refine z_table fx d11_has_1 (off := 83) (tgt := 84) (by rw [ceq_of c5]; decide) (by decide) ?_
    refine z_aload_n fx (k := 0) (i := 0) rfl rfl d11_has_84 ?_
    obtain ⟨w3, e6, h⟩ := zinv h
    refine z_getR fx 11 11 1111 17 ho lf11_56 ⟨fk11_11, rfl⟩ e6 d11_has_85 (fun tw3 => ?_)
    refine z_getI fx 10 17 1017 tw3 lf11_134 ⟨fk10_17, rfl⟩ d11_has_88 ?_
    cases h
    exact z_ireturn fx fin d11_has_91
  | false =>
  replace h := zif_f c5 h
  cases c7 : ceq v_what 3 with
  | true =>
    replace h := zif_t c7 h
    refine z_table fx d11_has_1 (off := 91) (tgt := 92) (by rw [ceq_of c7]; decide) (by decide) ?_
    refine z_aload_n fx (k := 0) (i := 0) rfl rfl d11_has_92 ?_
    refine z_getO fx 11 3 51 ho lf11_75 fk11_3 d11_has_93 ?_
    refine z_getI fx 8 13 813 (ok11_3 hO ho) lf11_137 ⟨fk8_13, rfl⟩ d11_has_96 ?_
    cases h
    exact z_ireturn fx fin d11_has_99
  | false =>
  replace h := zif_f c7 h
  cases c8 : ceq v_what 4 with
  | true =>
    replace h := zif_t c8 h
    refine z_table fx d11_has_1 (off := 99) (tgt := 100) (by rw [ceq_of c8]; decide) (by decide) ?_
    refine z_aload_n fx (k := 0) (i := 0) rfl rfl d11_has_100 ?_
    refine z_getO fx 11 3 51 ho lf11_75 fk11_3 d11_has_101 ?_
    obtain ⟨t4, e9, h⟩ := zinv h
    refine z_cVr fx (c8_countMail (zLo X) (zDo X) Sh top hO (o_ + 51) μ _ (ok11_3 hO ho) e9) mv8_countMail ml11_140 (ok11_3 hO ho) rfl rfl rfl rfl d11_has_104 ?_
    cases h
    exact z_ireturn fx fin d11_has_107
  | false =>
  replace h := zif_f c8 h
  cases c10 : ceq v_what 5 with
  | true =>
    replace h := zif_t c10 h
    refine z_table fx d11_has_1 (off := 107) (tgt := 108) (by rw [ceq_of c10]; decide) (by decide) ?_
    refine z_aload_n fx (k := 0) (i := 0) rfl rfl d11_has_108 ?_
    refine z_getO fx 11 3 51 ho lf11_75 fk11_3 d11_has_109 ?_
    obtain ⟨t5, e11, h⟩ := zinv h
    refine z_cVr fx (c8_countOn (zLo X) (zDo X) Sh top hO (o_ + 51) μ _ (ok11_3 hO ho) e11) mv8_countOn ml11_143 (ok11_3 hO ho) rfl rfl rfl rfl d11_has_112 ?_
    cases h
    exact z_ireturn fx fin d11_has_115
  | false =>
  replace h := zif_f c10 h
  cases c12 : ceq v_what 6 with
  | true =>
    replace h := zif_t c12 h
    refine z_table fx d11_has_1 (off := 115) (tgt := 116) (by rw [ceq_of c12]; decide) (by decide) ?_
    refine z_aload_n fx (k := 0) (i := 0) rfl rfl d11_has_116 ?_
    refine z_getO fx 11 3 51 ho lf11_75 fk11_3 d11_has_117 ?_
    obtain ⟨t6, e13, h⟩ := zinv h
    refine z_cVr fx (c8_countWhole (zLo X) (zDo X) Sh top hO (o_ + 51) μ _ (ok11_3 hO ho) e13) mv8_countWhole ml11_146 (ok11_3 hO ho) rfl rfl rfl rfl d11_has_120 ?_
    cases h
    exact z_ireturn fx fin d11_has_123
  | false =>
  replace h := zif_f c12 h
  cases c14 : ceq v_what 7 with
  | true =>
    replace h := zif_t c14 h
    refine z_table fx d11_has_1 (off := 123) (tgt := 124) (by rw [ceq_of c14]; decide) (by decide) ?_
    refine z_aload_n fx (k := 0) (i := 0) rfl rfl d11_has_124 ?_
    refine z_getO fx 11 3 51 ho lf11_75 fk11_3 d11_has_125 ?_
    obtain ⟨t7, e15, h⟩ := zinv h
    refine z_cVr fx (c8_countOpen (zLo X) (zDo X) Sh top hO (o_ + 51) μ _ (ok11_3 hO ho) e15) mv8_countOpen ml11_149 (ok11_3 hO ho) rfl rfl rfl rfl d11_has_128 ?_
    cases h
    exact z_ireturn fx fin d11_has_131
  | false =>
  replace h := zif_f c14 h
  cases c16 : ceq v_what 8 with
  | true =>
    replace h := zif_t c16 h
    refine z_table fx d11_has_1 (off := 131) (tgt := 132) (by rw [ceq_of c16]; decide) (by decide) ?_
    refine z_aload_n fx (k := 0) (i := 0) rfl rfl d11_has_132 ?_
    refine z_getO fx 11 3 51 ho lf11_75 fk11_3 d11_has_133 ?_
    refine z_getI fx 8 14 814 (ok11_3 hO ho) lf11_152 ⟨fk8_14, rfl⟩ d11_has_136 ?_
    cases h
    exact z_ireturn fx fin d11_has_139
  | false =>
  replace h := zif_f c16 h
  cases c17 : ceq v_what 9 with
  | true =>
    replace h := zif_t c17 h
    refine z_table fx d11_has_1 (off := 139) (tgt := 140) (by rw [ceq_of c17]; decide) (by decide) ?_
    refine z_aload_n fx (k := 0) (i := 0) rfl rfl d11_has_140 ?_
    refine z_getO fx 11 3 51 ho lf11_75 fk11_3 d11_has_141 ?_
    refine z_getI fx 8 16 816 (ok11_3 hO ho) lf11_155 ⟨fk8_16, rfl⟩ d11_has_144 ?_
    cases h
    exact z_ireturn fx fin d11_has_147
  | false =>
  replace h := zif_f c17 h
  cases c18 : ceq v_what 10 with
  | true =>
    replace h := zif_t c18 h
    refine z_table fx d11_has_1 (off := 147) (tgt := 148) (by rw [ceq_of c18]; decide) (by decide) ?_
    refine z_aload_n fx (k := 0) (i := 0) rfl rfl d11_has_148 ?_
    refine z_getO fx 11 8 17 ho lf11_43 fk11_8 d11_has_149 ?_
    refine z_getI fx 7 3 703 (ok11_8 hO ho) lf11_158 ⟨fk7_3, rfl⟩ d11_has_152 ?_
    cases h
    exact z_ireturn fx fin d11_has_155
  | false =>
  replace h := zif_f c18 h
  cases c19 : ceq v_what 11 with
  | true =>
    replace h := zif_t c19 h
    refine z_table fx d11_has_1 (off := 155) (tgt := 156) (by rw [ceq_of c19]; decide) (by decide) ?_
    refine z_aload_n fx (k := 0) (i := 0) rfl rfl d11_has_156 ?_
    refine z_getI fx 11 15 1115 ho lf11_119 ⟨fk11_15, rfl⟩ d11_has_157 ?_
    cases h
    exact z_ireturn fx fin d11_has_160
  | false =>
  replace h := zif_f c19 h
  cases c20 : ceq v_what 12 with
  | true =>
    replace h := zif_t c20 h
    refine z_table fx d11_has_1 (off := 160) (tgt := 161) (by rw [ceq_of c20]; decide) (by decide) ?_
    refine z_aload_n fx (k := 0) (i := 0) rfl rfl d11_has_161 ?_
    refine z_getI fx 11 17 1117 ho lf11_82 ⟨fk11_17, rfl⟩ d11_has_162 ?_
    cases h
    exact z_ireturn fx fin d11_has_165
  | false =>
  replace h := zif_f c20 h
  have hn0 := zne c1 (k := 0) (by decide)
  have hn1 := zne c3 (k := 1) (by decide)
  have hn2 := zne c5 (k := 2) (by decide)
  have hn3 := zne c7 (k := 3) (by decide)
  have hn4 := zne c8 (k := 4) (by decide)
  have hn5 := zne c10 (k := 5) (by decide)
  have hn6 := zne c12 (k := 6) (by decide)
  have hn7 := zne c14 (k := 7) (by decide)
  have hn8 := zne c16 (k := 8) (by decide)
  have hn9 := zne c17 (k := 9) (by decide)
  have hn10 := zne c18 (k := 10) (by decide)
  have hn11 := zne c19 (k := 11) (by decide)
  have hn12 := zne c20 (k := 12) (by decide)
  refine z_table fx d11_has_1 (off := 165) (tgt := 166) ⟨zsw_out (by omega), by decide⟩ (by decide) ?_
  refine z_iconst fx (v := (-1)) icm1 d11_has_166 ?_
  cases h
  exact z_ireturn fx fin d11_has_167
theorem d10_isBridge_0 : zd cX10_isBridge 0 (.iload_n 1) 1 1 := by decide +kernel
theorem d10_isBridge_1 : zj cX10_isBridge 1 (.ifCond .lt 15) 15 4 16 := by decide +kernel
theorem d10_isBridge_4 : zd cX10_isBridge 4 (.iload_n 1) 1 5 := by decide +kernel
theorem d10_isBridge_5 : zd cX10_isBridge 5 (.aload_n 0) 1 6 := by decide +kernel
theorem d10_isBridge_6 : zd cX10_isBridge 6 (.getfield 60) 3 9 := by decide +kernel
theorem d10_isBridge_9 : zj cX10_isBridge 9 (.if_icmp .ge 7) 7 12 16 := by decide +kernel
theorem d10_isBridge_12 : zd cX10_isBridge 12 (.iconst 1) 1 13 := by decide +kernel
theorem d10_isBridge_13 : zj cX10_isBridge 13 (.goto 4) 4 16 17 := by decide +kernel
theorem d10_isBridge_16 : zd cX10_isBridge 16 (.iconst 0) 1 17 := by decide +kernel
theorem d10_isBridge_17 : zd cX10_isBridge 17 (.ireturn) 1 18 := by decide +kernel
set_option maxHeartbeats 4000000 in
set_option maxRecDepth 20000 in
theorem c10_isBridge (l : Launch) (D : zDt) (Sh : zSh) (top : Nat) (hO : zOK Sh) (o_ : Nat) (v_bridge : Int32) (μ : zM) (r_ : Bool) (ho : (Sh o_).1 = 17) (h : f10_isBridge o_ v_bridge μ = some r_) : zMet l D zK1 yX10_isBridge cX10_isBridge 2 (some .boolean) (zrm 0 0) [.ref o_, .int v_bridge] Sh top μ (some (.int (bI r_))) Sh top μ 0 0 := by
  refine zMet_of (by decide) (Nat.le_of_ble_eq_true rfl) fun X hX1 hX2 fx fin => ?_
  subst hX1; subst hX2
  replace fx : zFix X cX10_isBridge RX10 (zrm 0 0) 2 := fx
  show zZ zK1 X (zT0 Sh top) μ 0 [(0, .ref o_), (1, .int v_bridge)] []
  unfold f10_isBridge at h
  obtain ⟨b1, e1, h⟩ := zinv h
  replace e1 := Option.some.inj e1
  have k2 : zZ zK1 X (zT0 Sh top) μ 17 [(0, .ref o_), (1, .int v_bridge)] [.int (bI b1)] := by
    cases h
    exact z_zreturn fx fin d10_isBridge_17
  refine z_iload_n fx (k := 1) (i := 1) rfl rfl d10_isBridge_0 ?_
  refine z_if_lt fx d10_isBridge_1 (fun c3 => ?_) (fun c3 => ?_)
  · refine z_iconst fx (v := 0) ic0 d10_isBridge_16 ?_
    exact z_top (congrArg Value.int (show 0 = bI b1 by rw [← e1]; simp [c3, bI])) k2
  · refine z_iload_n fx (k := 1) (i := 1) rfl rfl d10_isBridge_4 ?_
    refine z_aload_n fx (k := 0) (i := 0) rfl rfl d10_isBridge_5 ?_
    refine z_getI fx 10 15 1015 ho lf10_60 ⟨fk10_15, rfl⟩ d10_isBridge_6 ?_
    refine z_icmp_ge fx d10_isBridge_9 (fun c4 => ?_) (fun c4 => ?_)
    · refine z_iconst fx (v := 0) ic0 d10_isBridge_16 ?_
      exact z_top (congrArg Value.int (show 0 = bI b1 by rw [← e1]; simp [c3, c4, bI])) k2
    · refine z_iconst fx (v := 1) ic1 d10_isBridge_12 ?_
      refine z_goto fx d10_isBridge_13 ?_
      exact z_top (congrArg Value.int (show 1 = bI b1 by rw [← e1]; simp [c3, c4, bI])) k2
theorem d10_isHost_0 : zd cX10_isHost 0 (.iload_n 1) 1 1 := by decide +kernel
theorem d10_isHost_1 : zj cX10_isHost 1 (.ifCond .lt 15) 15 4 16 := by decide +kernel
theorem d10_isHost_4 : zd cX10_isHost 4 (.iload_n 1) 1 5 := by decide +kernel
theorem d10_isHost_5 : zd cX10_isHost 5 (.aload_n 0) 1 6 := by decide +kernel
theorem d10_isHost_6 : zd cX10_isHost 6 (.getfield 66) 3 9 := by decide +kernel
theorem d10_isHost_9 : zj cX10_isHost 9 (.if_icmp .ge 7) 7 12 16 := by decide +kernel
theorem d10_isHost_12 : zd cX10_isHost 12 (.iconst 1) 1 13 := by decide +kernel
theorem d10_isHost_13 : zj cX10_isHost 13 (.goto 4) 4 16 17 := by decide +kernel
theorem d10_isHost_16 : zd cX10_isHost 16 (.iconst 0) 1 17 := by decide +kernel
theorem d10_isHost_17 : zd cX10_isHost 17 (.ireturn) 1 18 := by decide +kernel
set_option maxHeartbeats 4000000 in
set_option maxRecDepth 20000 in
theorem c10_isHost (l : Launch) (D : zDt) (Sh : zSh) (top : Nat) (hO : zOK Sh) (o_ : Nat) (v_host : Int32) (μ : zM) (r_ : Bool) (ho : (Sh o_).1 = 17) (h : f10_isHost o_ v_host μ = some r_) : zMet l D zK1 yX10_isHost cX10_isHost 2 (some .boolean) (zrm 0 0) [.ref o_, .int v_host] Sh top μ (some (.int (bI r_))) Sh top μ 0 0 := by
  refine zMet_of (by decide) (Nat.le_of_ble_eq_true rfl) fun X hX1 hX2 fx fin => ?_
  subst hX1; subst hX2
  replace fx : zFix X cX10_isHost RX10 (zrm 0 0) 2 := fx
  show zZ zK1 X (zT0 Sh top) μ 0 [(0, .ref o_), (1, .int v_host)] []
  unfold f10_isHost at h
  obtain ⟨b1, e1, h⟩ := zinv h
  replace e1 := Option.some.inj e1
  have k2 : zZ zK1 X (zT0 Sh top) μ 17 [(0, .ref o_), (1, .int v_host)] [.int (bI b1)] := by
    cases h
    exact z_zreturn fx fin d10_isHost_17
  refine z_iload_n fx (k := 1) (i := 1) rfl rfl d10_isHost_0 ?_
  refine z_if_lt fx d10_isHost_1 (fun c3 => ?_) (fun c3 => ?_)
  · refine z_iconst fx (v := 0) ic0 d10_isHost_16 ?_
    exact z_top (congrArg Value.int (show 0 = bI b1 by rw [← e1]; simp [c3, bI])) k2
  · refine z_iload_n fx (k := 1) (i := 1) rfl rfl d10_isHost_4 ?_
    refine z_aload_n fx (k := 0) (i := 0) rfl rfl d10_isHost_5 ?_
    refine z_getI fx 10 17 1017 ho lf10_66 ⟨fk10_17, rfl⟩ d10_isHost_6 ?_
    refine z_icmp_ge fx d10_isHost_9 (fun c4 => ?_) (fun c4 => ?_)
    · refine z_iconst fx (v := 0) ic0 d10_isHost_16 ?_
      exact z_top (congrArg Value.int (show 0 = bI b1 by rw [← e1]; simp [c3, c4, bI])) k2
    · refine z_iconst fx (v := 1) ic1 d10_isHost_12 ?_
      refine z_goto fx d10_isHost_13 ?_
      exact z_top (congrArg Value.int (show 1 = bI b1 by rw [← e1]; simp [c3, c4, bI])) k2
theorem d11_letter_0 : zd cX11_letter 0 (.iload_n 3) 1 1 := by decide +kernel
theorem d11_letter_1 : zj cX11_letter 1 (.ifCond .lt 9) 9 4 10 := by decide +kernel
theorem d11_letter_4 : zd cX11_letter 4 (.iload_n 3) 1 5 := by decide +kernel
theorem d11_letter_5 : zd cX11_letter 5 (.bipush 6) 2 7 := by decide +kernel
theorem d11_letter_7 : zj cX11_letter 7 (.if_icmp .lt 5) 5 10 12 := by decide +kernel
theorem d11_letter_10 : zd cX11_letter 10 (.iconst (-1)) 1 11 := by decide +kernel
theorem d11_letter_11 : zd cX11_letter 11 (.ireturn) 1 12 := by decide +kernel
theorem d11_letter_12 : zd cX11_letter 12 (.iload_n 1) 1 13 := by decide +kernel
theorem d11_letter_13 : zj cX11_letter 13 (.ifCond .ne 29) 29 16 42 := by decide +kernel
theorem d11_letter_16 : zd cX11_letter 16 (.aload_n 0) 1 17 := by decide +kernel
theorem d11_letter_17 : zd cX11_letter 17 (.getfield 56) 3 20 := by decide +kernel
theorem d11_letter_20 : zd cX11_letter 20 (.iload_n 2) 1 21 := by decide +kernel
theorem d11_letter_21 : zd cX11_letter 21 (.invokevirtual 161) 3 24 := by decide +kernel
theorem d11_letter_24 : zj cX11_letter 24 (.ifCond .eq 18) 18 27 42 := by decide +kernel
theorem d11_letter_27 : zd cX11_letter 27 (.aload_n 0) 1 28 := by decide +kernel
theorem d11_letter_28 : zd cX11_letter 28 (.getfield 56) 3 31 := by decide +kernel
theorem d11_letter_31 : zd cX11_letter 31 (.getfield 164) 3 34 := by decide +kernel
theorem d11_letter_34 : zd cX11_letter 34 (.iload_n 2) 1 35 := by decide +kernel
theorem d11_letter_35 : zd cX11_letter 35 (.bipush 6) 2 37 := by decide +kernel
theorem d11_letter_37 : zd cX11_letter 37 (.imul) 1 38 := by decide +kernel
theorem d11_letter_38 : zd cX11_letter 38 (.iload_n 3) 1 39 := by decide +kernel
theorem d11_letter_39 : zd cX11_letter 39 (.iadd) 1 40 := by decide +kernel
theorem d11_letter_40 : zd cX11_letter 40 (.iaload) 1 41 := by decide +kernel
theorem d11_letter_41 : zd cX11_letter 41 (.ireturn) 1 42 := by decide +kernel
theorem d11_letter_42 : zd cX11_letter 42 (.iload_n 1) 1 43 := by decide +kernel
theorem d11_letter_43 : zd cX11_letter 43 (.iconst 1) 1 44 := by decide +kernel
theorem d11_letter_44 : zj cX11_letter 44 (.if_icmp .ne 29) 29 47 73 := by decide +kernel
theorem d11_letter_47 : zd cX11_letter 47 (.aload_n 0) 1 48 := by decide +kernel
theorem d11_letter_48 : zd cX11_letter 48 (.getfield 56) 3 51 := by decide +kernel
theorem d11_letter_51 : zd cX11_letter 51 (.iload_n 2) 1 52 := by decide +kernel
theorem d11_letter_52 : zd cX11_letter 52 (.invokevirtual 167) 3 55 := by decide +kernel
theorem d11_letter_55 : zj cX11_letter 55 (.ifCond .eq 18) 18 58 73 := by decide +kernel
theorem d11_letter_58 : zd cX11_letter 58 (.aload_n 0) 1 59 := by decide +kernel
theorem d11_letter_59 : zd cX11_letter 59 (.getfield 56) 3 62 := by decide +kernel
theorem d11_letter_62 : zd cX11_letter 62 (.getfield 170) 3 65 := by decide +kernel
theorem d11_letter_65 : zd cX11_letter 65 (.iload_n 2) 1 66 := by decide +kernel
theorem d11_letter_66 : zd cX11_letter 66 (.bipush 6) 2 68 := by decide +kernel
theorem d11_letter_68 : zd cX11_letter 68 (.imul) 1 69 := by decide +kernel
theorem d11_letter_69 : zd cX11_letter 69 (.iload_n 3) 1 70 := by decide +kernel
theorem d11_letter_70 : zd cX11_letter 70 (.iadd) 1 71 := by decide +kernel
theorem d11_letter_71 : zd cX11_letter 71 (.iaload) 1 72 := by decide +kernel
theorem d11_letter_72 : zd cX11_letter 72 (.ireturn) 1 73 := by decide +kernel
theorem d11_letter_73 : zd cX11_letter 73 (.iconst (-1)) 1 74 := by decide +kernel
theorem d11_letter_74 : zd cX11_letter 74 (.ireturn) 1 75 := by decide +kernel
set_option maxHeartbeats 4000000 in
set_option maxRecDepth 20000 in
theorem c11_letter (l : Launch) (D : zDt) (Sh : zSh) (top : Nat) (hO : zOK Sh) (o_ : Nat) (v_kind : Int32) (v_which : Int32) (v_k : Int32) (μ : zM) (r_ : Int32) (ho : (Sh o_).1 = 18) (h : f11_letter o_ v_kind v_which v_k μ = some r_) : zMet l D zK1 yX11_letter cX11_letter 4 (some .int) (zrm 1 21) [.ref o_, .int v_kind, .int v_which, .int v_k] Sh top μ (some (.int r_)) Sh top μ 0 0 := by
  refine zMet_of (by decide) (Nat.le_of_ble_eq_true rfl) fun X hX1 hX2 fx fin => ?_
  subst hX1; subst hX2
  replace fx : zFix X cX11_letter RX11 (zrm 1 21) 4 := fx
  show zZ zK1 X (zT0 Sh top) μ 0 [(0, .ref o_), (1, .int v_kind), (2, .int v_which), (3, .int v_k)] []
  unfold f11_letter at h
  have kt1 : ((clt v_k 0) || (!(clt v_k 6))) = true → zZ zK1 X (zT0 Sh top) μ 10 [(0, .ref o_), (1, .int v_kind), (2, .int v_which), (3, .int v_k)] [] := by
    intro hc
    replace h := zif_t hc h
    refine z_iconst fx (v := (-1)) icm1 d11_letter_10 ?_
    cases h
    exact z_ireturn fx fin d11_letter_11
  have kf1 : ((clt v_k 0) || (!(clt v_k 6))) = false → zZ zK1 X (zT0 Sh top) μ 12 [(0, .ref o_), (1, .int v_kind), (2, .int v_which), (3, .int v_k)] [] := by
    intro hc
    replace h := zif_f hc h
    obtain ⟨b1, e3, h⟩ := zinv h
    have kt2 : b1 = true → zZ zK1 X (zT0 Sh top) μ 27 [(0, .ref o_), (1, .int v_kind), (2, .int v_which), (3, .int v_k)] [] := by
      intro hc
      replace h := zif_t hc h
      refine z_aload_n fx (k := 0) (i := 0) rfl rfl d11_letter_27 ?_
      obtain ⟨w2, e4, h⟩ := zinv h
      refine z_getR fx 11 11 1111 17 ho lf11_56 ⟨fk11_11, rfl⟩ e4 d11_letter_28 (fun tw2 => ?_)
      refine z_getO fx 10 0 1 tw2 lf11_164 fk10_0 d11_letter_31 ?_
      refine z_iload_n fx (k := 2) (i := 2) rfl rfl d11_letter_34 ?_
      refine z_bipush fx (v := 6) bp6 d11_letter_35 ?_
      refine z_imul fx d11_letter_37 ?_
      refine z_iload_n fx (k := 3) (i := 3) rfl rfl d11_letter_38 ?_
      refine z_iadd fx d11_letter_39 ?_
      obtain ⟨t3, e5, h⟩ := zinv h
      refine z_iald fx (ok10_0 hO tw2) e5 d11_letter_40 ?_
      cases h
      exact z_ireturn fx fin d11_letter_41
    have kf2 : b1 = false → zZ zK1 X (zT0 Sh top) μ 42 [(0, .ref o_), (1, .int v_kind), (2, .int v_which), (3, .int v_k)] [] := by
      intro hc
      replace h := zif_f hc h
      obtain ⟨b4, e7, h⟩ := zinv h
      have kt6 : b4 = true → zZ zK1 X (zT0 Sh top) μ 58 [(0, .ref o_), (1, .int v_kind), (2, .int v_which), (3, .int v_k)] [] := by
        intro hc
        replace h := zif_t hc h
        refine z_aload_n fx (k := 0) (i := 0) rfl rfl d11_letter_58 ?_
        obtain ⟨w5, e8, h⟩ := zinv h
        refine z_getR fx 11 11 1111 17 ho lf11_56 ⟨fk11_11, rfl⟩ e8 d11_letter_59 (fun tw5 => ?_)
        refine z_getO fx 10 1 2 tw5 lf11_170 fk10_1 d11_letter_62 ?_
        refine z_iload_n fx (k := 2) (i := 2) rfl rfl d11_letter_65 ?_
        refine z_bipush fx (v := 6) bp6 d11_letter_66 ?_
        refine z_imul fx d11_letter_68 ?_
        refine z_iload_n fx (k := 3) (i := 3) rfl rfl d11_letter_69 ?_
        refine z_iadd fx d11_letter_70 ?_
        obtain ⟨t6, e9, h⟩ := zinv h
        refine z_iald fx (ok10_1 hO tw5) e9 d11_letter_71 ?_
        cases h
        exact z_ireturn fx fin d11_letter_72
      have kf6 : b4 = false → zZ zK1 X (zT0 Sh top) μ 73 [(0, .ref o_), (1, .int v_kind), (2, .int v_which), (3, .int v_k)] [] := by
        intro hc
        replace h := zif_f hc h
        refine z_iconst fx (v := (-1)) icm1 d11_letter_73 ?_
        cases h
        exact z_ireturn fx fin d11_letter_74
      clear h
      refine z_iload_n fx (k := 1) (i := 1) rfl rfl d11_letter_42 ?_
      refine z_iconst fx (v := 1) ic1 d11_letter_43 ?_
      refine z_icmp_ne fx d11_letter_44 (fun c10 => ?_) (fun c10 => ?_)
      · replace e7 := zif_f c10 e7
        cases e7
        exact kf6 rfl
      · replace e7 := zif_t c10 e7
        refine z_aload_n fx (k := 0) (i := 0) rfl rfl d11_letter_47 ?_
        obtain ⟨w7, e11, e7⟩ := zinv e7
        refine z_getR fx 11 11 1111 17 ho lf11_56 ⟨fk11_11, rfl⟩ e11 d11_letter_48 (fun tw7 => ?_)
        refine z_iload_n fx (k := 2) (i := 2) rfl rfl d11_letter_51 ?_
        obtain ⟨t8, e12, e7⟩ := zinv e7
        refine z_cVr fx (c10_isHost (zLo X) (zDo X) Sh top hO w7 v_which μ _ tw7 e12) mv10_isHost ml11_167 tw7 rfl rfl rfl rfl d11_letter_52 ?_
        cases e7
        refine z_ifb_eq fx d11_letter_55 (fun c13 => ?_) (fun c13 => ?_)
        · exact kf6 c13
        · exact kt6 c13
    clear h
    refine z_iload_n fx (k := 1) (i := 1) rfl rfl d11_letter_12 ?_
    refine z_if_ne fx d11_letter_13 (fun c14 => ?_) (fun c14 => ?_)
    · replace e3 := zif_f c14 e3
      cases e3
      exact kf2 rfl
    · replace e3 := zif_t c14 e3
      refine z_aload_n fx (k := 0) (i := 0) rfl rfl d11_letter_16 ?_
      obtain ⟨w9, e15, e3⟩ := zinv e3
      refine z_getR fx 11 11 1111 17 ho lf11_56 ⟨fk11_11, rfl⟩ e15 d11_letter_17 (fun tw9 => ?_)
      refine z_iload_n fx (k := 2) (i := 2) rfl rfl d11_letter_20 ?_
      obtain ⟨t10, e16, e3⟩ := zinv e3
      refine z_cVr fx (c10_isBridge (zLo X) (zDo X) Sh top hO w9 v_which μ _ tw9 e16) mv10_isBridge ml11_161 tw9 rfl rfl rfl rfl d11_letter_21 ?_
      cases e3
      refine z_ifb_eq fx d11_letter_24 (fun c17 => ?_) (fun c17 => ?_)
      · exact kf2 c17
      · exact kt2 c17
  clear h
  refine z_iload_n fx (k := 3) (i := 3) rfl rfl d11_letter_0 ?_
  refine z_if_lt fx d11_letter_1 (fun c18 => ?_) (fun c18 => ?_)
  · exact kt1 (by simp [c18])
  · refine z_iload_n fx (k := 3) (i := 3) rfl rfl d11_letter_4 ?_
    refine z_bipush fx (v := 6) bp6 d11_letter_5 ?_
    refine z_icmp_lt fx d11_letter_7 (fun c19 => ?_) (fun c19 => ?_)
    · exact kf1 (by simp [c18, c19])
    · exact kt1 (by simp [c18, c19])
theorem d10_isLink_0 : zd cX10_isLink 0 (.iload_n 1) 1 1 := by decide +kernel
theorem d10_isLink_1 : zj cX10_isLink 1 (.ifCond .lt 15) 15 4 16 := by decide +kernel
theorem d10_isLink_4 : zd cX10_isLink 4 (.iload_n 1) 1 5 := by decide +kernel
theorem d10_isLink_5 : zd cX10_isLink 5 (.aload_n 0) 1 6 := by decide +kernel
theorem d10_isLink_6 : zd cX10_isLink 6 (.getfield 63) 3 9 := by decide +kernel
theorem d10_isLink_9 : zj cX10_isLink 9 (.if_icmp .ge 7) 7 12 16 := by decide +kernel
theorem d10_isLink_12 : zd cX10_isLink 12 (.iconst 1) 1 13 := by decide +kernel
theorem d10_isLink_13 : zj cX10_isLink 13 (.goto 4) 4 16 17 := by decide +kernel
theorem d10_isLink_16 : zd cX10_isLink 16 (.iconst 0) 1 17 := by decide +kernel
theorem d10_isLink_17 : zd cX10_isLink 17 (.ireturn) 1 18 := by decide +kernel
set_option maxHeartbeats 4000000 in
set_option maxRecDepth 20000 in
theorem c10_isLink (l : Launch) (D : zDt) (Sh : zSh) (top : Nat) (hO : zOK Sh) (o_ : Nat) (v_link : Int32) (μ : zM) (r_ : Bool) (ho : (Sh o_).1 = 17) (h : f10_isLink o_ v_link μ = some r_) : zMet l D zK1 yX10_isLink cX10_isLink 2 (some .boolean) (zrm 0 0) [.ref o_, .int v_link] Sh top μ (some (.int (bI r_))) Sh top μ 0 0 := by
  refine zMet_of (by decide) (Nat.le_of_ble_eq_true rfl) fun X hX1 hX2 fx fin => ?_
  subst hX1; subst hX2
  replace fx : zFix X cX10_isLink RX10 (zrm 0 0) 2 := fx
  show zZ zK1 X (zT0 Sh top) μ 0 [(0, .ref o_), (1, .int v_link)] []
  unfold f10_isLink at h
  obtain ⟨b1, e1, h⟩ := zinv h
  replace e1 := Option.some.inj e1
  have k2 : zZ zK1 X (zT0 Sh top) μ 17 [(0, .ref o_), (1, .int v_link)] [.int (bI b1)] := by
    cases h
    exact z_zreturn fx fin d10_isLink_17
  refine z_iload_n fx (k := 1) (i := 1) rfl rfl d10_isLink_0 ?_
  refine z_if_lt fx d10_isLink_1 (fun c3 => ?_) (fun c3 => ?_)
  · refine z_iconst fx (v := 0) ic0 d10_isLink_16 ?_
    exact z_top (congrArg Value.int (show 0 = bI b1 by rw [← e1]; simp [c3, bI])) k2
  · refine z_iload_n fx (k := 1) (i := 1) rfl rfl d10_isLink_4 ?_
    refine z_aload_n fx (k := 0) (i := 0) rfl rfl d10_isLink_5 ?_
    refine z_getI fx 10 16 1016 ho lf10_63 ⟨fk10_16, rfl⟩ d10_isLink_6 ?_
    refine z_icmp_ge fx d10_isLink_9 (fun c4 => ?_) (fun c4 => ?_)
    · refine z_iconst fx (v := 0) ic0 d10_isLink_16 ?_
      exact z_top (congrArg Value.int (show 0 = bI b1 by rw [← e1]; simp [c3, c4, bI])) k2
    · refine z_iconst fx (v := 1) ic1 d10_isLink_12 ?_
      refine z_goto fx d10_isLink_13 ?_
      exact z_top (congrArg Value.int (show 1 = bI b1 by rw [← e1]; simp [c3, c4, bI])) k2
theorem d11_link_0 : zd cX11_link 0 (.aload_n 0) 1 1 := by decide +kernel
theorem d11_link_1 : zd cX11_link 1 (.getfield 56) 3 4 := by decide +kernel
theorem d11_link_4 : zd cX11_link 4 (.iload_n 1) 1 5 := by decide +kernel
theorem d11_link_5 : zd cX11_link 5 (.invokevirtual 173) 3 8 := by decide +kernel
theorem d11_link_8 : zj cX11_link 8 (.ifCond .ne 5) 5 11 13 := by decide +kernel
theorem d11_link_11 : zd cX11_link 11 (.iconst (-1)) 1 12 := by decide +kernel
theorem d11_link_12 : zd cX11_link 12 (.ireturn) 1 13 := by decide +kernel
theorem d11_link_13 : zd cX11_link 13 (.iload_n 2) 1 14 := by decide +kernel
theorem d11_link_14 : decode cX11_link 14 = .ok (.tableswitch 153 0 7 #[46, 58, 70, 84, 98, 108, 118, 136], 46) := by decide +kernel
theorem d11_link_60 : zd cX11_link 60 (.aload_n 0) 1 61 := by decide +kernel
theorem d11_link_61 : zd cX11_link 61 (.getfield 56) 3 64 := by decide +kernel
theorem d11_link_64 : zd cX11_link 64 (.getfield 176) 3 67 := by decide +kernel
theorem d11_link_67 : zd cX11_link 67 (.iconst 2) 1 68 := by decide +kernel
theorem d11_link_68 : zd cX11_link 68 (.iload_n 1) 1 69 := by decide +kernel
theorem d11_link_69 : zd cX11_link 69 (.imul) 1 70 := by decide +kernel
theorem d11_link_70 : zd cX11_link 70 (.iaload) 1 71 := by decide +kernel
theorem d11_link_71 : zd cX11_link 71 (.ireturn) 1 72 := by decide +kernel
theorem d11_link_72 : zd cX11_link 72 (.aload_n 0) 1 73 := by decide +kernel
theorem d11_link_73 : zd cX11_link 73 (.getfield 56) 3 76 := by decide +kernel
theorem d11_link_76 : zd cX11_link 76 (.getfield 179) 3 79 := by decide +kernel
theorem d11_link_79 : zd cX11_link 79 (.iconst 2) 1 80 := by decide +kernel
theorem d11_link_80 : zd cX11_link 80 (.iload_n 1) 1 81 := by decide +kernel
theorem d11_link_81 : zd cX11_link 81 (.imul) 1 82 := by decide +kernel
theorem d11_link_82 : zd cX11_link 82 (.iaload) 1 83 := by decide +kernel
theorem d11_link_83 : zd cX11_link 83 (.ireturn) 1 84 := by decide +kernel
theorem d11_link_84 : zd cX11_link 84 (.aload_n 0) 1 85 := by decide +kernel
theorem d11_link_85 : zd cX11_link 85 (.getfield 56) 3 88 := by decide +kernel
theorem d11_link_88 : zd cX11_link 88 (.getfield 176) 3 91 := by decide +kernel
theorem d11_link_91 : zd cX11_link 91 (.iconst 2) 1 92 := by decide +kernel
theorem d11_link_92 : zd cX11_link 92 (.iload_n 1) 1 93 := by decide +kernel
theorem d11_link_93 : zd cX11_link 93 (.imul) 1 94 := by decide +kernel
theorem d11_link_94 : zd cX11_link 94 (.iconst 1) 1 95 := by decide +kernel
theorem d11_link_95 : zd cX11_link 95 (.iadd) 1 96 := by decide +kernel
theorem d11_link_96 : zd cX11_link 96 (.iaload) 1 97 := by decide +kernel
theorem d11_link_97 : zd cX11_link 97 (.ireturn) 1 98 := by decide +kernel
theorem d11_link_98 : zd cX11_link 98 (.aload_n 0) 1 99 := by decide +kernel
theorem d11_link_99 : zd cX11_link 99 (.getfield 56) 3 102 := by decide +kernel
theorem d11_link_102 : zd cX11_link 102 (.getfield 179) 3 105 := by decide +kernel
theorem d11_link_105 : zd cX11_link 105 (.iconst 2) 1 106 := by decide +kernel
theorem d11_link_106 : zd cX11_link 106 (.iload_n 1) 1 107 := by decide +kernel
theorem d11_link_107 : zd cX11_link 107 (.imul) 1 108 := by decide +kernel
theorem d11_link_108 : zd cX11_link 108 (.iconst 1) 1 109 := by decide +kernel
theorem d11_link_109 : zd cX11_link 109 (.iadd) 1 110 := by decide +kernel
theorem d11_link_110 : zd cX11_link 110 (.iaload) 1 111 := by decide +kernel
theorem d11_link_111 : zd cX11_link 111 (.ireturn) 1 112 := by decide +kernel
theorem d11_link_112 : zd cX11_link 112 (.aload_n 0) 1 113 := by decide +kernel
theorem d11_link_113 : zd cX11_link 113 (.getfield 56) 3 116 := by decide +kernel
theorem d11_link_116 : zd cX11_link 116 (.getfield 182) 3 119 := by decide +kernel
theorem d11_link_119 : zd cX11_link 119 (.iload_n 1) 1 120 := by decide +kernel
theorem d11_link_120 : zd cX11_link 120 (.iaload) 1 121 := by decide +kernel
theorem d11_link_121 : zd cX11_link 121 (.ireturn) 1 122 := by decide +kernel
theorem d11_link_122 : zd cX11_link 122 (.aload_n 0) 1 123 := by decide +kernel
theorem d11_link_123 : zd cX11_link 123 (.getfield 56) 3 126 := by decide +kernel
theorem d11_link_126 : zd cX11_link 126 (.getfield 185) 3 129 := by decide +kernel
theorem d11_link_129 : zd cX11_link 129 (.iload_n 1) 1 130 := by decide +kernel
theorem d11_link_130 : zd cX11_link 130 (.iaload) 1 131 := by decide +kernel
theorem d11_link_131 : zd cX11_link 131 (.ireturn) 1 132 := by decide +kernel
theorem d11_link_132 : zd cX11_link 132 (.aload_n 0) 1 133 := by decide +kernel
theorem d11_link_133 : zd cX11_link 133 (.getfield 75) 3 136 := by decide +kernel
theorem d11_link_136 : zd cX11_link 136 (.getfield 188) 3 139 := by decide +kernel
theorem d11_link_139 : zd cX11_link 139 (.iload_n 1) 1 140 := by decide +kernel
theorem d11_link_140 : zd cX11_link 140 (.baload) 1 141 := by decide +kernel
theorem d11_link_141 : zj cX11_link 141 (.ifCond .eq 7) 7 144 148 := by decide +kernel
theorem d11_link_144 : zd cX11_link 144 (.iconst 1) 1 145 := by decide +kernel
theorem d11_link_145 : zj cX11_link 145 (.goto 4) 4 148 149 := by decide +kernel
theorem d11_link_148 : zd cX11_link 148 (.iconst 0) 1 149 := by decide +kernel
theorem d11_link_149 : zd cX11_link 149 (.ireturn) 1 150 := by decide +kernel
theorem d11_link_150 : zd cX11_link 150 (.aload_n 0) 1 151 := by decide +kernel
theorem d11_link_151 : zd cX11_link 151 (.getfield 75) 3 154 := by decide +kernel
theorem d11_link_154 : zd cX11_link 154 (.iload_n 1) 1 155 := by decide +kernel
theorem d11_link_155 : zd cX11_link 155 (.invokevirtual 192) 3 158 := by decide +kernel
theorem d11_link_158 : zj cX11_link 158 (.ifCond .eq 7) 7 161 165 := by decide +kernel
theorem d11_link_161 : zd cX11_link 161 (.iconst 1) 1 162 := by decide +kernel
theorem d11_link_162 : zj cX11_link 162 (.goto 4) 4 165 166 := by decide +kernel
theorem d11_link_165 : zd cX11_link 165 (.iconst 0) 1 166 := by decide +kernel
theorem d11_link_166 : zd cX11_link 166 (.ireturn) 1 167 := by decide +kernel
theorem d11_link_167 : zd cX11_link 167 (.iconst (-1)) 1 168 := by decide +kernel
theorem d11_link_168 : zd cX11_link 168 (.ireturn) 1 169 := by decide +kernel
set_option maxHeartbeats 4000000 in
set_option maxRecDepth 20000 in
theorem c11_link (l : Launch) (D : zDt) (Sh : zSh) (top : Nat) (hO : zOK Sh) (o_ : Nat) (v_link : Int32) (v_what : Int32) (μ : zM) (r_ : Int32) (ho : (Sh o_).1 = 18) (h : f11_link o_ v_link v_what μ = some r_) : zMet l D zK1 yX11_link cX11_link 3 (some .int) (zrm 1 21) [.ref o_, .int v_link, .int v_what] Sh top μ (some (.int r_)) Sh top μ 0 0 := by
  refine zMet_of (by decide) (Nat.le_of_ble_eq_true rfl) fun X hX1 hX2 fx fin => ?_
  subst hX1; subst hX2
  replace fx : zFix X cX11_link RX11 (zrm 1 21) 3 := fx
  show zZ zK1 X (zT0 Sh top) μ 0 [(0, .ref o_), (1, .int v_link), (2, .int v_what)] []
  unfold f11_link at h
  refine z_aload_n fx (k := 0) (i := 0) rfl rfl d11_link_0 ?_
  obtain ⟨w1, e1, h⟩ := zinv h
  refine z_getR fx 11 11 1111 17 ho lf11_56 ⟨fk11_11, rfl⟩ e1 d11_link_1 (fun tw1 => ?_)
  refine z_iload_n fx (k := 1) (i := 1) rfl rfl d11_link_4 ?_
  obtain ⟨t2, e2, h⟩ := zinv h
  refine z_cVr fx (c10_isLink (zLo X) (zDo X) Sh top hO w1 v_link μ _ tw1 e2) mv10_isLink ml11_173 tw1 rfl rfl rfl rfl d11_link_5 ?_
  refine z_ifb_ne fx d11_link_8 (fun c3 => ?_) (fun c3 => ?_)
  · replace h := zif_t c3 h
    refine z_iload_n fx (k := 2) (i := 2) rfl rfl d11_link_13 ?_
    cases c4 : ceq v_what 0 with
    | true =>
      replace h := zif_t c4 h
      refine z_table fx d11_link_14 (off := 46) (tgt := 60) (by rw [ceq_of c4]; decide) (by decide) ?_
      refine z_aload_n fx (k := 0) (i := 0) rfl rfl d11_link_60 ?_
      obtain ⟨w3, e5, h⟩ := zinv h
      refine z_getR fx 11 11 1111 17 ho lf11_56 ⟨fk11_11, rfl⟩ e5 d11_link_61 (fun tw3 => ?_)
      refine z_getO fx 10 6 7 tw3 lf11_176 fk10_6 d11_link_64 ?_
      refine z_iconst fx (v := 2) ic2 d11_link_67 ?_
      refine z_iload_n fx (k := 1) (i := 1) rfl rfl d11_link_68 ?_
      refine z_imul fx d11_link_69 ?_
      obtain ⟨t4, e6, h⟩ := zinv h
      refine z_iald fx (ok10_6 hO tw3) e6 d11_link_70 ?_
      cases h
      exact z_ireturn fx fin d11_link_71
    | false =>
    replace h := zif_f c4 h
    cases c7 : ceq v_what 1 with
    | true =>
      replace h := zif_t c7 h
      refine z_table fx d11_link_14 (off := 58) (tgt := 72) (by rw [ceq_of c7]; decide) (by decide) ?_
      refine z_aload_n fx (k := 0) (i := 0) rfl rfl d11_link_72 ?_
      obtain ⟨w5, e8, h⟩ := zinv h
      refine z_getR fx 11 11 1111 17 ho lf11_56 ⟨fk11_11, rfl⟩ e8 d11_link_73 (fun tw5 => ?_)
      refine z_getO fx 10 7 8 tw5 lf11_179 fk10_7 d11_link_76 ?_
      refine z_iconst fx (v := 2) ic2 d11_link_79 ?_
      refine z_iload_n fx (k := 1) (i := 1) rfl rfl d11_link_80 ?_
      refine z_imul fx d11_link_81 ?_
      obtain ⟨t6, e9, h⟩ := zinv h
      refine z_iald fx (ok10_7 hO tw5) e9 d11_link_82 ?_
      cases h
      exact z_ireturn fx fin d11_link_83
    | false =>
    replace h := zif_f c7 h
    cases c10 : ceq v_what 2 with
    | true =>
      replace h := zif_t c10 h
      refine z_table fx d11_link_14 (off := 70) (tgt := 84) (by rw [ceq_of c10]; decide) (by decide) ?_
      refine z_aload_n fx (k := 0) (i := 0) rfl rfl d11_link_84 ?_
      obtain ⟨w7, e11, h⟩ := zinv h
      refine z_getR fx 11 11 1111 17 ho lf11_56 ⟨fk11_11, rfl⟩ e11 d11_link_85 (fun tw7 => ?_)
      refine z_getO fx 10 6 7 tw7 lf11_176 fk10_6 d11_link_88 ?_
      refine z_iconst fx (v := 2) ic2 d11_link_91 ?_
      refine z_iload_n fx (k := 1) (i := 1) rfl rfl d11_link_92 ?_
      refine z_imul fx d11_link_93 ?_
      refine z_iconst fx (v := 1) ic1 d11_link_94 ?_
      refine z_iadd fx d11_link_95 ?_
      obtain ⟨t8, e12, h⟩ := zinv h
      refine z_iald fx (ok10_6 hO tw7) e12 d11_link_96 ?_
      cases h
      exact z_ireturn fx fin d11_link_97
    | false =>
    replace h := zif_f c10 h
    cases c13 : ceq v_what 3 with
    | true =>
      replace h := zif_t c13 h
      refine z_table fx d11_link_14 (off := 84) (tgt := 98) (by rw [ceq_of c13]; decide) (by decide) ?_
      refine z_aload_n fx (k := 0) (i := 0) rfl rfl d11_link_98 ?_
      obtain ⟨w9, e14, h⟩ := zinv h
      refine z_getR fx 11 11 1111 17 ho lf11_56 ⟨fk11_11, rfl⟩ e14 d11_link_99 (fun tw9 => ?_)
      refine z_getO fx 10 7 8 tw9 lf11_179 fk10_7 d11_link_102 ?_
      refine z_iconst fx (v := 2) ic2 d11_link_105 ?_
      refine z_iload_n fx (k := 1) (i := 1) rfl rfl d11_link_106 ?_
      refine z_imul fx d11_link_107 ?_
      refine z_iconst fx (v := 1) ic1 d11_link_108 ?_
      refine z_iadd fx d11_link_109 ?_
      obtain ⟨t10, e15, h⟩ := zinv h
      refine z_iald fx (ok10_7 hO tw9) e15 d11_link_110 ?_
      cases h
      exact z_ireturn fx fin d11_link_111
    | false =>
    replace h := zif_f c13 h
    cases c16 : ceq v_what 4 with
    | true =>
      replace h := zif_t c16 h
      refine z_table fx d11_link_14 (off := 98) (tgt := 112) (by rw [ceq_of c16]; decide) (by decide) ?_
      refine z_aload_n fx (k := 0) (i := 0) rfl rfl d11_link_112 ?_
      obtain ⟨w11, e17, h⟩ := zinv h
      refine z_getR fx 11 11 1111 17 ho lf11_56 ⟨fk11_11, rfl⟩ e17 d11_link_113 (fun tw11 => ?_)
      refine z_getO fx 10 9 10 tw11 lf11_182 fk10_9 d11_link_116 ?_
      refine z_iload_n fx (k := 1) (i := 1) rfl rfl d11_link_119 ?_
      obtain ⟨t12, e18, h⟩ := zinv h
      refine z_iald fx (ok10_9 hO tw11) e18 d11_link_120 ?_
      cases h
      exact z_ireturn fx fin d11_link_121
    | false =>
    replace h := zif_f c16 h
    cases c19 : ceq v_what 5 with
    | true =>
      replace h := zif_t c19 h
      refine z_table fx d11_link_14 (off := 108) (tgt := 122) (by rw [ceq_of c19]; decide) (by decide) ?_
      refine z_aload_n fx (k := 0) (i := 0) rfl rfl d11_link_122 ?_
      obtain ⟨w13, e20, h⟩ := zinv h
      refine z_getR fx 11 11 1111 17 ho lf11_56 ⟨fk11_11, rfl⟩ e20 d11_link_123 (fun tw13 => ?_)
      refine z_getO fx 10 10 11 tw13 lf11_185 fk10_10 d11_link_126 ?_
      refine z_iload_n fx (k := 1) (i := 1) rfl rfl d11_link_129 ?_
      obtain ⟨t14, e21, h⟩ := zinv h
      refine z_iald fx (ok10_10 hO tw13) e21 d11_link_130 ?_
      cases h
      exact z_ireturn fx fin d11_link_131
    | false =>
    replace h := zif_f c19 h
    cases c22 : ceq v_what 6 with
    | true =>
      replace h := zif_t c22 h
      refine z_table fx d11_link_14 (off := 118) (tgt := 132) (by rw [ceq_of c22]; decide) (by decide) ?_
      obtain ⟨x15, e23, h⟩ := zinv h
      have k24 : zZ zK1 X (zT0 Sh top) μ 149 [(0, .ref o_), (1, .int v_link), (2, .int v_what)] [.int x15] := by
        cases h
        exact z_ireturn fx fin d11_link_149
      refine z_aload_n fx (k := 0) (i := 0) rfl rfl d11_link_132 ?_
      refine z_getO fx 11 3 51 ho lf11_75 fk11_3 d11_link_133 ?_
      refine z_getO fx 8 3 4 (ok11_3 hO ho) lf11_188 fk8_3 d11_link_136 ?_
      refine z_iload_n fx (k := 1) (i := 1) rfl rfl d11_link_139 ?_
      obtain ⟨t16, e25, e23⟩ := zinv e23
      refine z_zald fx (ok8_3 hO (ok11_3 hO ho)) e25 d11_link_140 ?_
      refine z_ifb_eq fx d11_link_141 (fun c26 => ?_) (fun c26 => ?_)
      · replace e23 := zif_f c26 e23
        refine z_iconst fx (v := 0) ic0 d11_link_148 ?_
        cases e23
        exact k24
      · replace e23 := zif_t c26 e23
        refine z_iconst fx (v := 1) ic1 d11_link_144 ?_
        cases e23
        refine z_goto fx d11_link_145 ?_
        exact k24
    | false =>
    replace h := zif_f c22 h
    cases c27 : ceq v_what 7 with
    | true =>
      replace h := zif_t c27 h
      refine z_table fx d11_link_14 (off := 136) (tgt := 150) (by rw [ceq_of c27]; decide) (by decide) ?_
      obtain ⟨x17, e28, h⟩ := zinv h
      have k29 : zZ zK1 X (zT0 Sh top) μ 166 [(0, .ref o_), (1, .int v_link), (2, .int v_what)] [.int x17] := by
        cases h
        exact z_ireturn fx fin d11_link_166
      refine z_aload_n fx (k := 0) (i := 0) rfl rfl d11_link_150 ?_
      refine z_getO fx 11 3 51 ho lf11_75 fk11_3 d11_link_151 ?_
      refine z_iload_n fx (k := 1) (i := 1) rfl rfl d11_link_154 ?_
      obtain ⟨t18, e30, e28⟩ := zinv e28
      refine z_cVr fx (c8_isOpen (zLo X) (zDo X) Sh top hO (o_ + 51) v_link μ _ (ok11_3 hO ho) e30) mv8_isOpen ml11_192 (ok11_3 hO ho) rfl rfl rfl rfl d11_link_155 ?_
      refine z_ifb_eq fx d11_link_158 (fun c31 => ?_) (fun c31 => ?_)
      · replace e28 := zif_f c31 e28
        refine z_iconst fx (v := 0) ic0 d11_link_165 ?_
        cases e28
        exact k29
      · replace e28 := zif_t c31 e28
        refine z_iconst fx (v := 1) ic1 d11_link_161 ?_
        cases e28
        refine z_goto fx d11_link_162 ?_
        exact k29
    | false =>
    replace h := zif_f c27 h
    have hn0 := zne c4 (k := 0) (by decide)
    have hn1 := zne c7 (k := 1) (by decide)
    have hn2 := zne c10 (k := 2) (by decide)
    have hn3 := zne c13 (k := 3) (by decide)
    have hn4 := zne c16 (k := 4) (by decide)
    have hn5 := zne c19 (k := 5) (by decide)
    have hn6 := zne c22 (k := 6) (by decide)
    have hn7 := zne c27 (k := 7) (by decide)
    refine z_table fx d11_link_14 (off := 153) (tgt := 167) ⟨zsw_out (by omega), by decide⟩ (by decide) ?_
    refine z_iconst fx (v := (-1)) icm1 d11_link_167 ?_
    cases h
    exact z_ireturn fx fin d11_link_168
  · replace h := zif_f c3 h
    refine z_iconst fx (v := (-1)) icm1 d11_link_11 ?_
    cases h
    exact z_ireturn fx fin d11_link_12
theorem d0_tellChosen_0 : zd cX0_tellChosen 0 (.aload_n 0) 1 1 := by decide +kernel
theorem d0_tellChosen_1 : zd cX0_tellChosen 1 (.getfield 50) 3 4 := by decide +kernel
theorem d0_tellChosen_4 : zj cX0_tellChosen 4 (.ifCond .eq 7) 7 7 11 := by decide +kernel
theorem d0_tellChosen_7 : zd cX0_tellChosen 7 (.iload_n 1) 1 8 := by decide +kernel
theorem d0_tellChosen_8 : zj cX0_tellChosen 8 (.goto 4) 4 11 12 := by decide +kernel
theorem d0_tellChosen_11 : zd cX0_tellChosen 11 (.iconst (-1)) 1 12 := by decide +kernel
theorem d0_tellChosen_12 : decode cX0_tellChosen 12 = .ok (.tableswitch 67 4 8 #[36, 44, 52, 57, 62], 36) := by decide +kernel
theorem d0_tellChosen_48 : zd cX0_tellChosen 48 (.aload_n 0) 1 49 := by decide +kernel
theorem d0_tellChosen_49 : zd cX0_tellChosen 49 (.getfield 12) 3 52 := by decide +kernel
theorem d0_tellChosen_52 : zd cX0_tellChosen 52 (.getfield 32) 3 55 := by decide +kernel
theorem d0_tellChosen_55 : zd cX0_tellChosen 55 (.ireturn) 1 56 := by decide +kernel
theorem d0_tellChosen_56 : zd cX0_tellChosen 56 (.aload_n 0) 1 57 := by decide +kernel
theorem d0_tellChosen_57 : zd cX0_tellChosen 57 (.getfield 12) 3 60 := by decide +kernel
theorem d0_tellChosen_60 : zd cX0_tellChosen 60 (.getfield 35) 3 63 := by decide +kernel
theorem d0_tellChosen_63 : zd cX0_tellChosen 63 (.ireturn) 1 64 := by decide +kernel
theorem d0_tellChosen_64 : zd cX0_tellChosen 64 (.aload_n 0) 1 65 := by decide +kernel
theorem d0_tellChosen_65 : zd cX0_tellChosen 65 (.getfield 43) 3 68 := by decide +kernel
theorem d0_tellChosen_68 : zd cX0_tellChosen 68 (.ireturn) 1 69 := by decide +kernel
theorem d0_tellChosen_69 : zd cX0_tellChosen 69 (.aload_n 0) 1 70 := by decide +kernel
theorem d0_tellChosen_70 : zd cX0_tellChosen 70 (.getfield 40) 3 73 := by decide +kernel
theorem d0_tellChosen_73 : zd cX0_tellChosen 73 (.ireturn) 1 74 := by decide +kernel
theorem d0_tellChosen_74 : zd cX0_tellChosen 74 (.aload_n 0) 1 75 := by decide +kernel
theorem d0_tellChosen_75 : zd cX0_tellChosen 75 (.getfield 57) 3 78 := by decide +kernel
theorem d0_tellChosen_78 : zd cX0_tellChosen 78 (.ireturn) 1 79 := by decide +kernel
theorem d0_tellChosen_79 : zd cX0_tellChosen 79 (.iconst (-1)) 1 80 := by decide +kernel
theorem d0_tellChosen_80 : zd cX0_tellChosen 80 (.ireturn) 1 81 := by decide +kernel
set_option maxHeartbeats 4000000 in
set_option maxRecDepth 20000 in
theorem c0_tellChosen (l : Launch) (D : zDt) (Sh : zSh) (top : Nat) (hO : zOK Sh) (o_ : Nat) (v_what : Int32) (μ : zM) (r_ : Int32) (ho : (Sh o_).1 = 7) (h : f0_tellChosen o_ v_what μ = some r_) : zMet l D zK1 yX0_tellChosen cX0_tellChosen 2 (some .int) (zrm 0 0) [.ref o_, .int v_what] Sh top μ (some (.int r_)) Sh top μ 0 0 := by
  refine zMet_of (by decide) (Nat.le_of_ble_eq_true rfl) fun X hX1 hX2 fx fin => ?_
  subst hX1; subst hX2
  replace fx : zFix X cX0_tellChosen RX0 (zrm 0 0) 2 := fx
  show zZ zK1 X (zT0 Sh top) μ 0 [(0, .ref o_), (1, .int v_what)] []
  unfold f0_tellChosen at h
  obtain ⟨x1, e1, h⟩ := zinv h
  have k2 : zZ zK1 X (zT0 Sh top) μ 12 [(0, .ref o_), (1, .int v_what)] [.int x1] := by
    cases c4 : ceq x1 4 with
    | true =>
      replace h := zif_t c4 h
      refine z_table fx d0_tellChosen_12 (off := 36) (tgt := 48) (by rw [ceq_of c4]; decide) (by decide) ?_
      refine z_aload_n fx (k := 0) (i := 0) rfl rfl d0_tellChosen_48 ?_
      refine z_getO fx 0 1 1 ho lf0_12 fk0_1 d0_tellChosen_49 ?_
      refine z_getI fx 9 0 900 (ok0_1 hO ho) lf0_32 ⟨fk9_0, rfl⟩ d0_tellChosen_52 ?_
      cases h
      exact z_ireturn fx fin d0_tellChosen_55
    | false =>
    replace h := zif_f c4 h
    cases c5 : ceq x1 5 with
    | true =>
      replace h := zif_t c5 h
      refine z_table fx d0_tellChosen_12 (off := 44) (tgt := 56) (by rw [ceq_of c5]; decide) (by decide) ?_
      refine z_aload_n fx (k := 0) (i := 0) rfl rfl d0_tellChosen_56 ?_
      refine z_getO fx 0 1 1 ho lf0_12 fk0_1 d0_tellChosen_57 ?_
      refine z_getI fx 9 1 901 (ok0_1 hO ho) lf0_35 ⟨fk9_1, rfl⟩ d0_tellChosen_60 ?_
      cases h
      exact z_ireturn fx fin d0_tellChosen_63
    | false =>
    replace h := zif_f c5 h
    cases c6 : ceq x1 6 with
    | true =>
      replace h := zif_t c6 h
      refine z_table fx d0_tellChosen_12 (off := 52) (tgt := 64) (by rw [ceq_of c6]; decide) (by decide) ?_
      refine z_aload_n fx (k := 0) (i := 0) rfl rfl d0_tellChosen_64 ?_
      refine z_getI fx 0 7 7 ho lf0_43 ⟨fk0_7, rfl⟩ d0_tellChosen_65 ?_
      cases h
      exact z_ireturn fx fin d0_tellChosen_68
    | false =>
    replace h := zif_f c6 h
    cases c7 : ceq x1 7 with
    | true =>
      replace h := zif_t c7 h
      refine z_table fx d0_tellChosen_12 (off := 57) (tgt := 69) (by rw [ceq_of c7]; decide) (by decide) ?_
      refine z_aload_n fx (k := 0) (i := 0) rfl rfl d0_tellChosen_69 ?_
      refine z_getI fx 0 6 6 ho lf0_40 ⟨fk0_6, rfl⟩ d0_tellChosen_70 ?_
      cases h
      exact z_ireturn fx fin d0_tellChosen_73
    | false =>
    replace h := zif_f c7 h
    cases c8 : ceq x1 8 with
    | true =>
      replace h := zif_t c8 h
      refine z_table fx d0_tellChosen_12 (off := 62) (tgt := 74) (by rw [ceq_of c8]; decide) (by decide) ?_
      refine z_aload_n fx (k := 0) (i := 0) rfl rfl d0_tellChosen_74 ?_
      refine z_getI fx 0 8 8 ho lf0_57 ⟨fk0_8, rfl⟩ d0_tellChosen_75 ?_
      cases h
      exact z_ireturn fx fin d0_tellChosen_78
    | false =>
    replace h := zif_f c8 h
    have hn0 := zne c4 (k := 4) (by decide)
    have hn1 := zne c5 (k := 5) (by decide)
    have hn2 := zne c6 (k := 6) (by decide)
    have hn3 := zne c7 (k := 7) (by decide)
    have hn4 := zne c8 (k := 8) (by decide)
    refine z_table fx d0_tellChosen_12 (off := 67) (tgt := 79) ⟨zsw_out (by omega), by decide⟩ (by decide) ?_
    refine z_iconst fx (v := (-1)) icm1 d0_tellChosen_79 ?_
    cases h
    exact z_ireturn fx fin d0_tellChosen_80
  refine z_aload_n fx (k := 0) (i := 0) rfl rfl d0_tellChosen_0 ?_
  refine z_getB fx 0 3 3 ho lf0_50 ⟨fk0_3, rfl⟩ d0_tellChosen_1 ?_
  refine z_ifb_eq fx d0_tellChosen_4 (fun c3 => ?_) (fun c3 => ?_)
  · replace e1 := zif_f c3 e1
    refine z_iconst fx (v := (-1)) icm1 d0_tellChosen_11 ?_
    cases e1
    exact k2
  · replace e1 := zif_t c3 e1
    refine z_iload_n fx (k := 1) (i := 1) rfl rfl d0_tellChosen_7 ?_
    cases e1
    refine z_goto fx d0_tellChosen_8 ?_
    exact k2
