theorem d12_joined_0 : zd cX12_joined 0 (.aload_n 0) 1 1 := by decide +kernel
theorem d12_joined_1 : zd cX12_joined 1 (.iconst 0) 1 2 := by decide +kernel
theorem d12_joined_2 : zd cX12_joined 2 (.putfield 144) 3 5 := by decide +kernel
theorem d12_joined_5 : zd cX12_joined 5 (.aload_n 0) 1 6 := by decide +kernel
theorem d12_joined_6 : zd cX12_joined 6 (.iload_n 1) 1 7 := by decide +kernel
theorem d12_joined_7 : zd cX12_joined 7 (.invokevirtual 471) 3 10 := by decide +kernel
theorem d12_joined_10 : zj cX12_joined 10 (.ifCond .eq 27) 27 13 37 := by decide +kernel
theorem d12_joined_13 : zd cX12_joined 13 (.aload_n 0) 1 14 := by decide +kernel
theorem d12_joined_14 : zd cX12_joined 14 (.iload_n 2) 1 15 := by decide +kernel
theorem d12_joined_15 : zd cX12_joined 15 (.invokevirtual 471) 3 18 := by decide +kernel
theorem d12_joined_18 : zj cX12_joined 18 (.ifCond .eq 19) 19 21 37 := by decide +kernel
theorem d12_joined_21 : zd cX12_joined 21 (.aload_n 0) 1 22 := by decide +kernel
theorem d12_joined_22 : zd cX12_joined 22 (.iload_n 1) 1 23 := by decide +kernel
theorem d12_joined_23 : zd cX12_joined 23 (.invokevirtual 328) 3 26 := by decide +kernel
theorem d12_joined_26 : zj cX12_joined 26 (.ifCond .eq 11) 11 29 37 := by decide +kernel
theorem d12_joined_29 : zd cX12_joined 29 (.aload_n 0) 1 30 := by decide +kernel
theorem d12_joined_30 : zd cX12_joined 30 (.iload_n 2) 1 31 := by decide +kernel
theorem d12_joined_31 : zd cX12_joined 31 (.invokevirtual 328) 3 34 := by decide +kernel
theorem d12_joined_34 : zj cX12_joined 34 (.ifCond .ne 5) 5 37 39 := by decide +kernel
theorem d12_joined_37 : zd cX12_joined 37 (.iconst (-1)) 1 38 := by decide +kernel
theorem d12_joined_38 : zd cX12_joined 38 (.ireturn) 1 39 := by decide +kernel
theorem d12_joined_39 : zd cX12_joined 39 (.iconst 0) 1 40 := by decide +kernel
theorem d12_joined_40 : zd cX12_joined 40 (.istore_n 3) 1 41 := by decide +kernel
theorem d12_joined_41 : zd cX12_joined 41 (.iload_n 3) 1 42 := by decide +kernel
theorem d12_joined_42 : zd cX12_joined 42 (.bipush 8) 2 44 := by decide +kernel
theorem d12_joined_44 : zj cX12_joined 44 (.if_icmp .ge 27) 27 47 71 := by decide +kernel
theorem d12_joined_47 : zd cX12_joined 47 (.aload_n 0) 1 48 := by decide +kernel
theorem d12_joined_48 : zd cX12_joined 48 (.getfield 166) 3 51 := by decide +kernel
theorem d12_joined_51 : zd cX12_joined 51 (.iload_n 3) 1 52 := by decide +kernel
theorem d12_joined_52 : zd cX12_joined 52 (.iload_n 3) 1 53 := by decide +kernel
theorem d12_joined_53 : zd cX12_joined 53 (.iload_n 1) 1 54 := by decide +kernel
theorem d12_joined_54 : zj cX12_joined 54 (.if_icmp .ne 7) 7 57 61 := by decide +kernel
theorem d12_joined_57 : zd cX12_joined 57 (.iconst 0) 1 58 := by decide +kernel
theorem d12_joined_58 : zj cX12_joined 58 (.goto 6) 6 61 64 := by decide +kernel
theorem d12_joined_61 : zd cX12_joined 61 (.ldc_w 489) 3 64 := by decide +kernel
theorem d12_joined_64 : zd cX12_joined 64 (.iastore) 1 65 := by decide +kernel
theorem d12_joined_65 : zd cX12_joined 65 (.iinc 3 1) 3 68 := by decide +kernel
theorem d12_joined_68 : zj cX12_joined 68 (.goto (-27)) (-27) 71 41 := by decide +kernel
theorem d12_joined_71 : zd cX12_joined 71 (.iconst 0) 1 72 := by decide +kernel
theorem d12_joined_72 : zd cX12_joined 72 (.istore_n 3) 1 73 := by decide +kernel
theorem d12_joined_73 : zd cX12_joined 73 (.iload_n 3) 1 74 := by decide +kernel
theorem d12_joined_74 : zd cX12_joined 74 (.bipush 8) 2 76 := by decide +kernel
theorem d12_joined_76 : zj cX12_joined 76 (.if_icmp .ge 115) 115 79 191 := by decide +kernel
theorem d12_joined_79 : zd cX12_joined 79 (.iconst 0) 1 80 := by decide +kernel
theorem d12_joined_80 : zd cX12_joined 80 (.istore 4) 2 82 := by decide +kernel
theorem d12_joined_82 : zd cX12_joined 82 (.iload 4) 2 84 := by decide +kernel
theorem d12_joined_84 : zd cX12_joined 84 (.aload_n 0) 1 85 := by decide +kernel
theorem d12_joined_85 : zd cX12_joined 85 (.getfield 16) 3 88 := by decide +kernel
theorem d12_joined_88 : zj cX12_joined 88 (.if_icmp .ge 97) 97 91 185 := by decide +kernel
theorem d12_joined_91 : zd cX12_joined 91 (.aload_n 0) 1 92 := by decide +kernel
theorem d12_joined_92 : zd cX12_joined 92 (.iload 4) 2 94 := by decide +kernel
theorem d12_joined_94 : zd cX12_joined 94 (.invokevirtual 462) 3 97 := by decide +kernel
theorem d12_joined_97 : zj cX12_joined 97 (.ifCond .ne 6) 6 100 103 := by decide +kernel
theorem d12_joined_100 : zj cX12_joined 100 (.goto 79) 79 103 179 := by decide +kernel
theorem d12_joined_103 : zd cX12_joined 103 (.aload_n 0) 1 104 := by decide +kernel
theorem d12_joined_104 : zd cX12_joined 104 (.getfield 38) 3 107 := by decide +kernel
theorem d12_joined_107 : zd cX12_joined 107 (.iconst 4) 1 108 := by decide +kernel
theorem d12_joined_108 : zd cX12_joined 108 (.iload 4) 2 110 := by decide +kernel
theorem d12_joined_110 : zd cX12_joined 110 (.imul) 1 111 := by decide +kernel
theorem d12_joined_111 : zd cX12_joined 111 (.iaload) 1 112 := by decide +kernel
theorem d12_joined_112 : zd cX12_joined 112 (.istore 5) 2 114 := by decide +kernel
theorem d12_joined_114 : zd cX12_joined 114 (.aload_n 0) 1 115 := by decide +kernel
theorem d12_joined_115 : zd cX12_joined 115 (.getfield 38) 3 118 := by decide +kernel
theorem d12_joined_118 : zd cX12_joined 118 (.iconst 4) 1 119 := by decide +kernel
theorem d12_joined_119 : zd cX12_joined 119 (.iload 4) 2 121 := by decide +kernel
theorem d12_joined_121 : zd cX12_joined 121 (.imul) 1 122 := by decide +kernel
theorem d12_joined_122 : zd cX12_joined 122 (.iconst 2) 1 123 := by decide +kernel
theorem d12_joined_123 : zd cX12_joined 123 (.iadd) 1 124 := by decide +kernel
theorem d12_joined_124 : zd cX12_joined 124 (.iaload) 1 125 := by decide +kernel
theorem d12_joined_125 : zd cX12_joined 125 (.istore 6) 2 127 := by decide +kernel
theorem d12_joined_127 : zd cX12_joined 127 (.aload_n 0) 1 128 := by decide +kernel
theorem d12_joined_128 : zd cX12_joined 128 (.getfield 166) 3 131 := by decide +kernel
theorem d12_joined_131 : zd cX12_joined 131 (.iload 5) 2 133 := by decide +kernel
theorem d12_joined_133 : zd cX12_joined 133 (.aload_n 0) 1 134 := by decide +kernel
theorem d12_joined_134 : zd cX12_joined 134 (.getfield 166) 3 137 := by decide +kernel
theorem d12_joined_137 : zd cX12_joined 137 (.iload 5) 2 139 := by decide +kernel
theorem d12_joined_139 : zd cX12_joined 139 (.iaload) 1 140 := by decide +kernel
theorem d12_joined_140 : zd cX12_joined 140 (.aload_n 0) 1 141 := by decide +kernel
theorem d12_joined_141 : zd cX12_joined 141 (.getfield 166) 3 144 := by decide +kernel
theorem d12_joined_144 : zd cX12_joined 144 (.iload 6) 2 146 := by decide +kernel
theorem d12_joined_146 : zd cX12_joined 146 (.iaload) 1 147 := by decide +kernel
theorem d12_joined_147 : zd cX12_joined 147 (.iconst 1) 1 148 := by decide +kernel
theorem d12_joined_148 : zd cX12_joined 148 (.iadd) 1 149 := by decide +kernel
theorem d12_joined_149 : zd cX12_joined 149 (.invokestatic 360) 3 152 := by decide +kernel
theorem d12_joined_152 : zd cX12_joined 152 (.iastore) 1 153 := by decide +kernel
theorem d12_joined_153 : zd cX12_joined 153 (.aload_n 0) 1 154 := by decide +kernel
theorem d12_joined_154 : zd cX12_joined 154 (.getfield 166) 3 157 := by decide +kernel
theorem d12_joined_157 : zd cX12_joined 157 (.iload 6) 2 159 := by decide +kernel
theorem d12_joined_159 : zd cX12_joined 159 (.aload_n 0) 1 160 := by decide +kernel
theorem d12_joined_160 : zd cX12_joined 160 (.getfield 166) 3 163 := by decide +kernel
theorem d12_joined_163 : zd cX12_joined 163 (.iload 6) 2 165 := by decide +kernel
theorem d12_joined_165 : zd cX12_joined 165 (.iaload) 1 166 := by decide +kernel
theorem d12_joined_166 : zd cX12_joined 166 (.aload_n 0) 1 167 := by decide +kernel
theorem d12_joined_167 : zd cX12_joined 167 (.getfield 166) 3 170 := by decide +kernel
theorem d12_joined_170 : zd cX12_joined 170 (.iload 5) 2 172 := by decide +kernel
theorem d12_joined_172 : zd cX12_joined 172 (.iaload) 1 173 := by decide +kernel
theorem d12_joined_173 : zd cX12_joined 173 (.iconst 1) 1 174 := by decide +kernel
theorem d12_joined_174 : zd cX12_joined 174 (.iadd) 1 175 := by decide +kernel
theorem d12_joined_175 : zd cX12_joined 175 (.invokestatic 360) 3 178 := by decide +kernel
theorem d12_joined_178 : zd cX12_joined 178 (.iastore) 1 179 := by decide +kernel
theorem d12_joined_179 : zd cX12_joined 179 (.iinc 4 1) 3 182 := by decide +kernel
theorem d12_joined_182 : zj cX12_joined 182 (.goto (-100)) (-100) 185 82 := by decide +kernel
theorem d12_joined_185 : zd cX12_joined 185 (.iinc 3 1) 3 188 := by decide +kernel
theorem d12_joined_188 : zj cX12_joined 188 (.goto (-115)) (-115) 191 73 := by decide +kernel
theorem d12_joined_191 : zd cX12_joined 191 (.aload_n 0) 1 192 := by decide +kernel
theorem d12_joined_192 : zd cX12_joined 192 (.getfield 166) 3 195 := by decide +kernel
theorem d12_joined_195 : zd cX12_joined 195 (.iload_n 2) 1 196 := by decide +kernel
theorem d12_joined_196 : zd cX12_joined 196 (.iaload) 1 197 := by decide +kernel
theorem d12_joined_197 : zd cX12_joined 197 (.ldc_w 489) 3 200 := by decide +kernel
theorem d12_joined_200 : zj cX12_joined 200 (.if_icmp .lt 7) 7 203 207 := by decide +kernel
theorem d12_joined_203 : zd cX12_joined 203 (.iconst (-1)) 1 204 := by decide +kernel
theorem d12_joined_204 : zj cX12_joined 204 (.goto 9) 9 207 213 := by decide +kernel
theorem d12_joined_207 : zd cX12_joined 207 (.aload_n 0) 1 208 := by decide +kernel
theorem d12_joined_208 : zd cX12_joined 208 (.getfield 166) 3 211 := by decide +kernel
theorem d12_joined_211 : zd cX12_joined 211 (.iload_n 2) 1 212 := by decide +kernel
theorem d12_joined_212 : zd cX12_joined 212 (.iaload) 1 213 := by decide +kernel
theorem d12_joined_213 : zd cX12_joined 213 (.ireturn) 1 214 := by decide +kernel
set_option maxHeartbeats 4000000 in
set_option maxRecDepth 20000 in
theorem c12_joined (l : Launch) (D : zDt) (Sh : zSh) (top : Nat) (hO : zOK Sh) (o_ : Nat) (v_one : Int32) (v_other : Int32) (μ : zM) (r_ : Int32) (μ_ : zM) (ho : (Sh o_).1 = 19) (h : f12_joined o_ v_one v_other μ = some (r_, μ_)) : zMet l D zK1 yX12_joined cX12_joined 7 (some .int) (zrm 3 64) [.ref o_, .int v_one, .int v_other] Sh top μ (some (.int r_)) Sh top μ_ 0 0 := by
  refine zMet_of (by decide) (Nat.le_of_ble_eq_true rfl) fun X hX1 hX2 fx fin => ?_
  subst hX1; subst hX2
  replace fx : zFix X cX12_joined RX12 (zrm 3 64) 7 := fx
  show zZ zK1 X (zT0 Sh top) μ 0 [(0, .ref o_), (1, .int v_one), (2, .int v_other)] []
  unfold f12_joined at h
  refine z_aload_n fx (k := 0) (i := 0) rfl rfl d12_joined_0 ?_
  refine z_iconst fx (v := 0) ic0 d12_joined_1 ?_
  obtain ⟨μ1, e1, h⟩ := zinv h
  refine z_putI fx (ci := 12) 44 ho lf12_144 fp12_44 e1 d12_joined_2 ?_
  obtain ⟨b2, e3, h⟩ := zinv h
  have kt2 : b2 = true → zZ zK1 X (zT0 Sh top) μ1 37 [(0, .ref o_), (1, .int v_one), (2, .int v_other)] [] := by
    intro hc
    replace h := zif_t hc h
    refine z_iconst fx (v := (-1)) icm1 d12_joined_37 ?_
    cases h
    exact z_ireturn fx fin d12_joined_38
  have kf2 : b2 = false → zZ zK1 X (zT0 Sh top) μ1 39 [(0, .ref o_), (1, .int v_one), (2, .int v_other)] [] := by
    intro hc
    replace h := zif_f hc h
    refine z_iconst fx (v := 0) ic0 d12_joined_39 ?_
    refine z_istore_n fx (k := 3) (i := 3) rfl rfl (lv' := [(0, .ref o_), (1, .int v_one), (2, .int v_other), (3, .int 0)]) rfl rfl d12_joined_40 ?_
    obtain ⟨v_b_5, μ6, e49, h⟩ := zinv2 h
    have kx7 : zZ zK1 X (zT0 Sh top) μ6 71 [(0, .ref o_), (1, .int v_one), (2, .int v_other), (3, .int v_b_5)] [] := by
      refine z_take 3 (lv' := [(0, .ref o_), (1, .int v_one), (2, .int v_other)]) rfl ?_
      refine z_iconst fx (v := 0) ic0 d12_joined_71 ?_
      refine z_istore_n fx (k := 3) (i := 3) rfl rfl (lv' := [(0, .ref o_), (1, .int v_one), (2, .int v_other), (3, .int 0)]) rfl rfl d12_joined_72 ?_
      obtain ⟨v_n_12, μ13, e48, h⟩ := zinv2 h
      have kx18 : zZ zK1 X (zT0 Sh top) μ13 191 [(0, .ref o_), (1, .int v_one), (2, .int v_other), (3, .int v_n_12)] [] := by
        refine z_take 3 (lv' := [(0, .ref o_), (1, .int v_one), (2, .int v_other)]) rfl ?_
        obtain ⟨x32, e43, h⟩ := zinv h
        have k44 : zZ zK1 X (zT0 Sh top) μ13 213 [(0, .ref o_), (1, .int v_one), (2, .int v_other)] [.int x32] := by
          cases h
          exact z_ireturn fx fin d12_joined_213
        refine z_aload_n fx (k := 0) (i := 0) rfl rfl d12_joined_191 ?_
        refine z_getO fx 12 51 30 ho lf12_166 fk12_51 d12_joined_192 ?_
        refine z_iload_n fx (k := 2) (i := 2) rfl rfl d12_joined_195 ?_
        obtain ⟨t33, e45, e43⟩ := zinv e43
        refine z_iald fx (ok12_51 hO ho) e45 d12_joined_196 ?_
        refine z_ldcw fx (v := 100000000) kc12_489 d12_joined_197 ?_
        refine z_icmp_lt fx d12_joined_200 (fun c46 => ?_) (fun c46 => ?_)
        · replace e43 := zif_t c46 e43
          refine z_aload_n fx (k := 0) (i := 0) rfl rfl d12_joined_207 ?_
          refine z_getO fx 12 51 30 ho lf12_166 fk12_51 d12_joined_208 ?_
          refine z_iload_n fx (k := 2) (i := 2) rfl rfl d12_joined_211 ?_
          obtain ⟨t34, e47, e43⟩ := zinv e43
          refine z_iald fx (ok12_51 hO ho) e47 d12_joined_212 ?_
          cases e43
          exact k44
        · replace e43 := zif_f c46 e43
          refine z_iconst fx (v := (-1)) icm1 d12_joined_203 ?_
          cases e43
          refine z_goto fx d12_joined_204 ?_
          exact k44
      clear h
      have klr17 : ∀ (n : Nat) (v_n_10 : Int32) (μ11 : zM), zloop (fun s => f12_joined_L2 o_ s.1 s.2) n (v_n_10, μ11) = some (v_n_12, μ13) → zZ zK1 X (zT0 Sh top) μ11 73 [(0, .ref o_), (1, .int v_one), (2, .int v_other), (3, .int v_n_10)] [] := by
        intro n
        induction n with
        | zero => intro v_n_10 μ11 hl16; cases hl16
        | succ n ih19 =>
          intro v_n_10 μ11 hl16
          obtain ⟨y, e15, hl16⟩ := zloop_inv hl16
          replace e15 : f12_joined_L2 o_ v_n_10 μ11 = some y := e15
          unfold f12_joined_L2 at e15
          refine z_iload_n fx (k := 3) (i := 3) rfl rfl d12_joined_73 ?_
          refine z_bipush fx (v := 8) bp8 d12_joined_74 ?_
          refine z_icmp_ge fx d12_joined_76 (fun c20 => ?_) (fun c20 => ?_)
          · replace e15 := zif_f c20 e15
            cases e15
            cases hl16
            exact kx18
          · replace e15 := zif_t c20 e15
            refine z_iconst fx (v := 0) ic0 d12_joined_79 ?_
            refine z_istore fx (i := 4) rfl (lv' := [(0, .ref o_), (1, .int v_one), (2, .int v_other), (3, .int v_n_10), (4, .int 0)]) rfl rfl d12_joined_80 ?_
            obtain ⟨v_l_16, μ17, e42, e15⟩ := zinv2 e15
            have kx24 : zZ zK1 X (zT0 Sh top) μ17 185 [(0, .ref o_), (1, .int v_one), (2, .int v_other), (3, .int v_n_10), (4, .int v_l_16)] [] := by
              refine z_take 4 (lv' := [(0, .ref o_), (1, .int v_one), (2, .int v_other), (3, .int v_n_10)]) rfl ?_
              obtain ⟨v_n_31, e41, e15⟩ := zinv e15
              replace e41 := Option.some.inj e41
              refine z_iinc fx (i := 3) (x := v_n_10) (v := v_n_31) rfl (by rw [in1]; exact e41) rfl (lv' := [(0, .ref o_), (1, .int v_one), (2, .int v_other), (3, .int v_n_31)]) rfl rfl d12_joined_185 ?_
              cases e15
              refine z_goto fx d12_joined_188 ?_
              exact ih19 _ _ hl16
            clear e15
            have klr23 : ∀ (n : Nat) (v_l_14 : Int32) (μ15 : zM), zloop (fun s => f12_joined_L3 o_ s.1 s.2) n (v_l_14, μ15) = some (v_l_16, μ17) → zZ zK1 X (zT0 Sh top) μ15 82 [(0, .ref o_), (1, .int v_one), (2, .int v_other), (3, .int v_n_10), (4, .int v_l_14)] [] := by
              intro n
              induction n with
              | zero => intro v_l_14 μ15 hl22; cases hl22
              | succ n ih25 =>
                intro v_l_14 μ15 hl22
                obtain ⟨y, e21, hl22⟩ := zloop_inv hl22
                replace e21 : f12_joined_L3 o_ v_l_14 μ15 = some y := e21
                unfold f12_joined_L3 at e21
                refine z_iload fx (i := 4) rfl d12_joined_82 ?_
                refine z_aload_n fx (k := 0) (i := 0) rfl rfl d12_joined_84 ?_
                refine z_getI fx 12 2 1202 ho lf12_16 ⟨fk12_2, rfl⟩ d12_joined_85 ?_
                refine z_icmp_ge fx d12_joined_88 (fun c26 => ?_) (fun c26 => ?_)
                · replace e21 := zif_f c26 e21
                  cases e21
                  cases hl22
                  exact kx24
                · replace e21 := zif_t c26 e21
                  refine z_aload_n fx (k := 0) (i := 0) rfl rfl d12_joined_91 ?_
                  refine z_iload fx (i := 4) rfl d12_joined_92 ?_
                  obtain ⟨t18, e27, e21⟩ := zinv e21
                  refine z_cVr fx (c12_isOpenLink (zLo X) (zDo X) Sh top hO o_ v_l_14 μ15 _ ho e27) mv12_isOpenLink ml12_462 ho rfl rfl rfl rfl d12_joined_94 ?_
                  refine z_ifb_ne fx d12_joined_97 (fun c28 => ?_) (fun c28 => ?_)
                  · replace e21 := zif_t c28 e21
                    refine z_aload_n fx (k := 0) (i := 0) rfl rfl d12_joined_103 ?_
                    refine z_getO fx 12 9 4 ho lf12_38 fk12_9 d12_joined_104 ?_
                    refine z_iconst fx (v := 4) ic4 d12_joined_107 ?_
                    refine z_iload fx (i := 4) rfl d12_joined_108 ?_
                    refine z_imul fx d12_joined_110 ?_
                    obtain ⟨t19, e29, e21⟩ := zinv e21
                    refine z_iald fx (ok12_9 hO ho) e29 d12_joined_111 ?_
                    refine z_istore fx (i := 5) rfl (lv' := [(0, .ref o_), (1, .int v_one), (2, .int v_other), (3, .int v_n_10), (4, .int v_l_14), (5, .int t19)]) rfl rfl d12_joined_112 ?_
                    refine z_aload_n fx (k := 0) (i := 0) rfl rfl d12_joined_114 ?_
                    refine z_getO fx 12 9 4 ho lf12_38 fk12_9 d12_joined_115 ?_
                    refine z_iconst fx (v := 4) ic4 d12_joined_118 ?_
                    refine z_iload fx (i := 4) rfl d12_joined_119 ?_
                    refine z_imul fx d12_joined_121 ?_
                    refine z_iconst fx (v := 2) ic2 d12_joined_122 ?_
                    refine z_iadd fx d12_joined_123 ?_
                    obtain ⟨t20, e30, e21⟩ := zinv e21
                    refine z_iald fx (ok12_9 hO ho) e30 d12_joined_124 ?_
                    refine z_istore fx (i := 6) rfl (lv' := [(0, .ref o_), (1, .int v_one), (2, .int v_other), (3, .int v_n_10), (4, .int v_l_14), (5, .int t19), (6, .int t20)]) rfl rfl d12_joined_125 ?_
                    refine z_aload_n fx (k := 0) (i := 0) rfl rfl d12_joined_127 ?_
                    refine z_getO fx 12 51 30 ho lf12_166 fk12_51 d12_joined_128 ?_
                    refine z_iload fx (i := 5) rfl d12_joined_131 ?_
                    refine z_aload_n fx (k := 0) (i := 0) rfl rfl d12_joined_133 ?_
                    refine z_getO fx 12 51 30 ho lf12_166 fk12_51 d12_joined_134 ?_
                    refine z_iload fx (i := 5) rfl d12_joined_137 ?_
                    obtain ⟨t21, e31, e21⟩ := zinv e21
                    refine z_iald fx (ok12_51 hO ho) e31 d12_joined_139 ?_
                    refine z_aload_n fx (k := 0) (i := 0) rfl rfl d12_joined_140 ?_
                    refine z_getO fx 12 51 30 ho lf12_166 fk12_51 d12_joined_141 ?_
                    refine z_iload fx (i := 6) rfl d12_joined_144 ?_
                    obtain ⟨t22, e32, e21⟩ := zinv e21
                    refine z_iald fx (ok12_51 hO ho) e32 d12_joined_146 ?_
                    refine z_iconst fx (v := 1) ic1 d12_joined_147 ?_
                    refine z_iadd fx d12_joined_148 ?_
                    obtain ⟨t23, e33, e21⟩ := zinv e21
                    refine z_cSr fx (c12_least (zLo X) (zDo X) Sh top hO t21 (t22 + 1) μ15 _  e33) ms12_least ml12_360 rfl rfl rfl rfl d12_joined_149 ?_
                    obtain ⟨μ24, e34, e21⟩ := zinv e21
                    refine z_iast fx (ok12_51 hO ho) e34 d12_joined_152 ?_
                    refine z_aload_n fx (k := 0) (i := 0) rfl rfl d12_joined_153 ?_
                    refine z_getO fx 12 51 30 ho lf12_166 fk12_51 d12_joined_154 ?_
                    refine z_iload fx (i := 6) rfl d12_joined_157 ?_
                    refine z_aload_n fx (k := 0) (i := 0) rfl rfl d12_joined_159 ?_
                    refine z_getO fx 12 51 30 ho lf12_166 fk12_51 d12_joined_160 ?_
                    refine z_iload fx (i := 6) rfl d12_joined_163 ?_
                    obtain ⟨t25, e35, e21⟩ := zinv e21
                    refine z_iald fx (ok12_51 hO ho) e35 d12_joined_165 ?_
                    refine z_aload_n fx (k := 0) (i := 0) rfl rfl d12_joined_166 ?_
                    refine z_getO fx 12 51 30 ho lf12_166 fk12_51 d12_joined_167 ?_
                    refine z_iload fx (i := 5) rfl d12_joined_170 ?_
                    obtain ⟨t26, e36, e21⟩ := zinv e21
                    refine z_iald fx (ok12_51 hO ho) e36 d12_joined_172 ?_
                    refine z_iconst fx (v := 1) ic1 d12_joined_173 ?_
                    refine z_iadd fx d12_joined_174 ?_
                    obtain ⟨t27, e37, e21⟩ := zinv e21
                    refine z_cSr fx (c12_least (zLo X) (zDo X) Sh top hO t25 (t26 + 1) μ24 _  e37) ms12_least ml12_360 rfl rfl rfl rfl d12_joined_175 ?_
                    obtain ⟨μ28, e38, e21⟩ := zinv e21
                    refine z_iast fx (ok12_51 hO ho) e38 d12_joined_178 ?_
                    refine z_take 5 (lv' := [(0, .ref o_), (1, .int v_one), (2, .int v_other), (3, .int v_n_10), (4, .int v_l_14)]) rfl ?_
                    obtain ⟨v_l_29, e39, e21⟩ := zinv e21
                    replace e39 := Option.some.inj e39
                    refine z_iinc fx (i := 4) (x := v_l_14) (v := v_l_29) rfl (by rw [in1]; exact e39) rfl (lv' := [(0, .ref o_), (1, .int v_one), (2, .int v_other), (3, .int v_n_10), (4, .int v_l_29)]) rfl rfl d12_joined_179 ?_
                    cases e21
                    refine z_goto fx d12_joined_182 ?_
                    exact ih25 _ _ hl22
                  · replace e21 := zif_f c28 e21
                    refine z_goto fx d12_joined_100 ?_
                    obtain ⟨v_l_30, e40, e21⟩ := zinv e21
                    replace e40 := Option.some.inj e40
                    refine z_iinc fx (i := 4) (x := v_l_14) (v := v_l_30) rfl (by rw [in1]; exact e40) rfl (lv' := [(0, .ref o_), (1, .int v_one), (2, .int v_other), (3, .int v_n_10), (4, .int v_l_30)]) rfl rfl d12_joined_179 ?_
                    cases e21
                    refine z_goto fx d12_joined_182 ?_
                    exact ih25 _ _ hl22
            exact klr23 _ _ _ e42
      exact klr17 _ _ _ e48
    clear h
    have klr6 : ∀ (n : Nat) (v_b_3 : Int32) (μ4 : zM), zloop (fun s => f12_joined_L1 o_ v_one s.1 s.2) n (v_b_3, μ4) = some (v_b_5, μ6) → zZ zK1 X (zT0 Sh top) μ4 41 [(0, .ref o_), (1, .int v_one), (2, .int v_other), (3, .int v_b_3)] [] := by
      intro n
      induction n with
      | zero => intro v_b_3 μ4 hl5; cases hl5
      | succ n ih8 =>
        intro v_b_3 μ4 hl5
        obtain ⟨y, e4, hl5⟩ := zloop_inv hl5
        replace e4 : f12_joined_L1 o_ v_one v_b_3 μ4 = some y := e4
        unfold f12_joined_L1 at e4
        refine z_iload_n fx (k := 3) (i := 3) rfl rfl d12_joined_41 ?_
        refine z_bipush fx (v := 8) bp8 d12_joined_42 ?_
        refine z_icmp_ge fx d12_joined_44 (fun c9 => ?_) (fun c9 => ?_)
        · replace e4 := zif_f c9 e4
          cases e4
          cases hl5
          exact kx7
        · replace e4 := zif_t c9 e4
          refine z_aload_n fx (k := 0) (i := 0) rfl rfl d12_joined_47 ?_
          refine z_getO fx 12 51 30 ho lf12_166 fk12_51 d12_joined_48 ?_
          refine z_iload_n fx (k := 3) (i := 3) rfl rfl d12_joined_51 ?_
          obtain ⟨x7, e10, e4⟩ := zinv e4
          have k11 : zZ zK1 X (zT0 Sh top) μ4 64 [(0, .ref o_), (1, .int v_one), (2, .int v_other), (3, .int v_b_3)] [.int x7, .int v_b_3, .ref (o_ + 30)] := by
            obtain ⟨μ8, e13, e4⟩ := zinv e4
            refine z_iast fx (ok12_51 hO ho) e13 d12_joined_64 ?_
            obtain ⟨v_b_9, e14, e4⟩ := zinv e4
            replace e14 := Option.some.inj e14
            refine z_iinc fx (i := 3) (x := v_b_3) (v := v_b_9) rfl (by rw [in1]; exact e14) rfl (lv' := [(0, .ref o_), (1, .int v_one), (2, .int v_other), (3, .int v_b_9)]) rfl rfl d12_joined_65 ?_
            cases e4
            refine z_goto fx d12_joined_68 ?_
            exact ih8 _ _ hl5
          refine z_iload_n fx (k := 3) (i := 3) rfl rfl d12_joined_52 ?_
          refine z_iload_n fx (k := 1) (i := 1) rfl rfl d12_joined_53 ?_
          refine z_icmp_ne fx d12_joined_54 (fun c12 => ?_) (fun c12 => ?_)
          · replace e10 := zif_f c12 e10
            refine z_ldcw fx (v := 100000000) kc12_489 d12_joined_61 ?_
            cases e10
            exact k11
          · replace e10 := zif_t c12 e10
            refine z_iconst fx (v := 0) ic0 d12_joined_57 ?_
            cases e10
            refine z_goto fx d12_joined_58 ?_
            exact k11
    exact klr6 _ _ _ e49
  clear h
  obtain ⟨b35, e50, e3⟩ := zinv e3
  have kf51 : b35 = false → zZ zK1 X (zT0 Sh top) μ1 29 [(0, .ref o_), (1, .int v_one), (2, .int v_other)] [] := by
    intro hc
    replace e3 := zif_f hc e3
    refine z_aload_n fx (k := 0) (i := 0) rfl rfl d12_joined_29 ?_
    refine z_iload_n fx (k := 2) (i := 2) rfl rfl d12_joined_30 ?_
    obtain ⟨t36, e52, e3⟩ := zinv e3
    refine z_cVr fx (c12_isOn (zLo X) (zDo X) Sh top hO o_ v_other μ1 _ ho e52) mv12_isOn ml12_328 ho rfl rfl rfl rfl d12_joined_31 ?_
    cases e3
    refine z_ifb_ne fx d12_joined_34 (fun c53 => ?_) (fun c53 => ?_)
    · exact kf2 (by rw [c53]; rfl)
    · exact kt2 (by rw [c53]; rfl)
  have kt51 : b35 = true → zZ zK1 X (zT0 Sh top) μ1 37 [(0, .ref o_), (1, .int v_one), (2, .int v_other)] [] := by
    intro hc
    replace e3 := zif_t hc e3
    cases e3
    exact kt2 rfl
  clear e3
  obtain ⟨b37, e54, e50⟩ := zinv e50
  have kf55 : b37 = false → zZ zK1 X (zT0 Sh top) μ1 21 [(0, .ref o_), (1, .int v_one), (2, .int v_other)] [] := by
    intro hc
    replace e50 := zif_f hc e50
    refine z_aload_n fx (k := 0) (i := 0) rfl rfl d12_joined_21 ?_
    refine z_iload_n fx (k := 1) (i := 1) rfl rfl d12_joined_22 ?_
    obtain ⟨t38, e56, e50⟩ := zinv e50
    refine z_cVr fx (c12_isOn (zLo X) (zDo X) Sh top hO o_ v_one μ1 _ ho e56) mv12_isOn ml12_328 ho rfl rfl rfl rfl d12_joined_23 ?_
    cases e50
    refine z_ifb_eq fx d12_joined_26 (fun c57 => ?_) (fun c57 => ?_)
    · exact kt51 (by rw [c57]; rfl)
    · exact kf51 (by rw [c57]; rfl)
  have kt55 : b37 = true → zZ zK1 X (zT0 Sh top) μ1 37 [(0, .ref o_), (1, .int v_one), (2, .int v_other)] [] := by
    intro hc
    replace e50 := zif_t hc e50
    cases e50
    exact kt51 rfl
  clear e50
  obtain ⟨b39, e58, e54⟩ := zinv e54
  have kf59 : b39 = false → zZ zK1 X (zT0 Sh top) μ1 13 [(0, .ref o_), (1, .int v_one), (2, .int v_other)] [] := by
    intro hc
    replace e54 := zif_f hc e54
    refine z_aload_n fx (k := 0) (i := 0) rfl rfl d12_joined_13 ?_
    refine z_iload_n fx (k := 2) (i := 2) rfl rfl d12_joined_14 ?_
    obtain ⟨t40, e60, e54⟩ := zinv e54
    refine z_cVr fx (c12_isBridge (zLo X) (zDo X) Sh top hO o_ v_other μ1 _ ho e60) mv12_isBridge ml12_471 ho rfl rfl rfl rfl d12_joined_15 ?_
    cases e54
    refine z_ifb_eq fx d12_joined_18 (fun c61 => ?_) (fun c61 => ?_)
    · exact kt55 (by rw [c61]; rfl)
    · exact kf55 (by rw [c61]; rfl)
  have kt59 : b39 = true → zZ zK1 X (zT0 Sh top) μ1 37 [(0, .ref o_), (1, .int v_one), (2, .int v_other)] [] := by
    intro hc
    replace e54 := zif_t hc e54
    cases e54
    exact kt55 rfl
  clear e54
  refine z_aload_n fx (k := 0) (i := 0) rfl rfl d12_joined_5 ?_
  refine z_iload_n fx (k := 1) (i := 1) rfl rfl d12_joined_6 ?_
  obtain ⟨t41, e62, e58⟩ := zinv e58
  refine z_cVr fx (c12_isBridge (zLo X) (zDo X) Sh top hO o_ v_one μ1 _ ho e62) mv12_isBridge ml12_471 ho rfl rfl rfl rfl d12_joined_7 ?_
  cases e58
  refine z_ifb_eq fx d12_joined_10 (fun c63 => ?_) (fun c63 => ?_)
  · exact kt59 (by rw [c63]; rfl)
  · exact kf59 (by rw [c63]; rfl)
theorem d12_leads_0 : zd cX12_leads 0 (.aload_n 0) 1 1 := by decide +kernel
theorem d12_leads_1 : zd cX12_leads 1 (.iconst 0) 1 2 := by decide +kernel
theorem d12_leads_2 : zd cX12_leads 2 (.putfield 144) 3 5 := by decide +kernel
theorem d12_leads_5 : zd cX12_leads 5 (.aload_n 0) 1 6 := by decide +kernel
theorem d12_leads_6 : zd cX12_leads 6 (.iload_n 1) 1 7 := by decide +kernel
theorem d12_leads_7 : zd cX12_leads 7 (.invokevirtual 471) 3 10 := by decide +kernel
theorem d12_leads_10 : zj cX12_leads 10 (.ifCond .eq 11) 11 13 21 := by decide +kernel
theorem d12_leads_13 : zd cX12_leads 13 (.aload_n 0) 1 14 := by decide +kernel
theorem d12_leads_14 : zd cX12_leads 14 (.iload_n 2) 1 15 := by decide +kernel
theorem d12_leads_15 : zd cX12_leads 15 (.invokevirtual 483) 3 18 := by decide +kernel
theorem d12_leads_18 : zj cX12_leads 18 (.ifCond .ne 5) 5 21 23 := by decide +kernel
theorem d12_leads_21 : zd cX12_leads 21 (.iconst (-1)) 1 22 := by decide +kernel
theorem d12_leads_22 : zd cX12_leads 22 (.ireturn) 1 23 := by decide +kernel
theorem d12_leads_23 : zd cX12_leads 23 (.iload_n 1) 1 24 := by decide +kernel
theorem d12_leads_24 : zd cX12_leads 24 (.istore_n 3) 1 25 := by decide +kernel
theorem d12_leads_25 : zd cX12_leads 25 (.iconst 0) 1 26 := by decide +kernel
theorem d12_leads_26 : zd cX12_leads 26 (.istore 4) 2 28 := by decide +kernel
theorem d12_leads_28 : zd cX12_leads 28 (.iload 4) 2 30 := by decide +kernel
theorem d12_leads_30 : zd cX12_leads 30 (.bipush 8) 2 32 := by decide +kernel
theorem d12_leads_32 : zj cX12_leads 32 (.if_icmp .gt 79) 79 35 111 := by decide +kernel
theorem d12_leads_35 : zd cX12_leads 35 (.aload_n 0) 1 36 := by decide +kernel
theorem d12_leads_36 : zd cX12_leads 36 (.iload_n 3) 1 37 := by decide +kernel
theorem d12_leads_37 : zd cX12_leads 37 (.iload_n 2) 1 38 := by decide +kernel
theorem d12_leads_38 : zd cX12_leads 38 (.invokestatic 348) 3 41 := by decide +kernel
theorem d12_leads_41 : zd cX12_leads 41 (.invokevirtual 316) 3 44 := by decide +kernel
theorem d12_leads_44 : zd cX12_leads 44 (.istore 5) 2 46 := by decide +kernel
theorem d12_leads_46 : zd cX12_leads 46 (.iload 5) 2 48 := by decide +kernel
theorem d12_leads_48 : zd cX12_leads 48 (.bipush 6) 2 50 := by decide +kernel
theorem d12_leads_50 : zj cX12_leads 50 (.if_icmp .ne 23) 23 53 73 := by decide +kernel
theorem d12_leads_53 : zd cX12_leads 53 (.aload_n 0) 1 54 := by decide +kernel
theorem d12_leads_54 : zd cX12_leads 54 (.sipush 978) 3 57 := by decide +kernel
theorem d12_leads_57 : zd cX12_leads 57 (.iload_n 2) 1 58 := by decide +kernel
theorem d12_leads_58 : zd cX12_leads 58 (.iadd) 1 59 := by decide +kernel
theorem d12_leads_59 : zd cX12_leads 59 (.invokevirtual 316) 3 62 := by decide +kernel
theorem d12_leads_62 : zd cX12_leads 62 (.iload_n 3) 1 63 := by decide +kernel
theorem d12_leads_63 : zj cX12_leads 63 (.if_icmp .ne 8) 8 66 71 := by decide +kernel
theorem d12_leads_66 : zd cX12_leads 66 (.iload 4) 2 68 := by decide +kernel
theorem d12_leads_68 : zj cX12_leads 68 (.goto 4) 4 71 72 := by decide +kernel
theorem d12_leads_71 : zd cX12_leads 71 (.iconst (-1)) 1 72 := by decide +kernel
theorem d12_leads_72 : zd cX12_leads 72 (.ireturn) 1 73 := by decide +kernel
theorem d12_leads_73 : zd cX12_leads 73 (.iload 5) 2 75 := by decide +kernel
theorem d12_leads_75 : zd cX12_leads 75 (.iconst (-1)) 1 76 := by decide +kernel
theorem d12_leads_76 : zj cX12_leads 76 (.if_icmp .eq 16) 16 79 92 := by decide +kernel
theorem d12_leads_79 : zd cX12_leads 79 (.aload_n 0) 1 80 := by decide +kernel
theorem d12_leads_80 : zd cX12_leads 80 (.iload_n 3) 1 81 := by decide +kernel
theorem d12_leads_81 : zd cX12_leads 81 (.iload 5) 2 83 := by decide +kernel
theorem d12_leads_83 : zd cX12_leads 83 (.invokestatic 325) 3 86 := by decide +kernel
theorem d12_leads_86 : zd cX12_leads 86 (.invokevirtual 393) 3 89 := by decide +kernel
theorem d12_leads_89 : zj cX12_leads 89 (.ifCond .ne 5) 5 92 94 := by decide +kernel
theorem d12_leads_92 : zd cX12_leads 92 (.iconst (-1)) 1 93 := by decide +kernel
theorem d12_leads_93 : zd cX12_leads 93 (.ireturn) 1 94 := by decide +kernel
theorem d12_leads_94 : zd cX12_leads 94 (.aload_n 0) 1 95 := by decide +kernel
theorem d12_leads_95 : zd cX12_leads 95 (.iload_n 3) 1 96 := by decide +kernel
theorem d12_leads_96 : zd cX12_leads 96 (.iload 5) 2 98 := by decide +kernel
theorem d12_leads_98 : zd cX12_leads 98 (.invokestatic 325) 3 101 := by decide +kernel
theorem d12_leads_101 : zd cX12_leads 101 (.invokevirtual 322) 3 104 := by decide +kernel
theorem d12_leads_104 : zd cX12_leads 104 (.istore_n 3) 1 105 := by decide +kernel
theorem d12_leads_105 : zd cX12_leads 105 (.iinc 4 1) 3 108 := by decide +kernel
theorem d12_leads_108 : zj cX12_leads 108 (.goto (-80)) (-80) 111 28 := by decide +kernel
theorem d12_leads_111 : zd cX12_leads 111 (.iconst (-1)) 1 112 := by decide +kernel
theorem d12_leads_112 : zd cX12_leads 112 (.ireturn) 1 113 := by decide +kernel
set_option maxHeartbeats 4000000 in
set_option maxRecDepth 20000 in
theorem c12_leads (l : Launch) (D : zDt) (Sh : zSh) (top : Nat) (hO : zOK Sh) (o_ : Nat) (v_bridge : Int32) (v_host : Int32) (μ : zM) (r_ : Int32) (μ_ : zM) (ho : (Sh o_).1 = 19) (h : f12_leads o_ v_bridge v_host μ = some (r_, μ_)) : zMet l D zK1 yX12_leads cX12_leads 6 (some .int) (zrm 5 106) [.ref o_, .int v_bridge, .int v_host] Sh top μ (some (.int r_)) Sh top μ_ 0 0 := by
  refine zMet_of (by decide) (Nat.le_of_ble_eq_true rfl) fun X hX1 hX2 fx fin => ?_
  subst hX1; subst hX2
  replace fx : zFix X cX12_leads RX12 (zrm 5 106) 6 := fx
  show zZ zK1 X (zT0 Sh top) μ 0 [(0, .ref o_), (1, .int v_bridge), (2, .int v_host)] []
  unfold f12_leads at h
  refine z_aload_n fx (k := 0) (i := 0) rfl rfl d12_leads_0 ?_
  refine z_iconst fx (v := 0) ic0 d12_leads_1 ?_
  obtain ⟨μ1, e1, h⟩ := zinv h
  refine z_putI fx (ci := 12) 44 ho lf12_144 fp12_44 e1 d12_leads_2 ?_
  obtain ⟨b2, e3, h⟩ := zinv h
  have kt2 : b2 = true → zZ zK1 X (zT0 Sh top) μ1 21 [(0, .ref o_), (1, .int v_bridge), (2, .int v_host)] [] := by
    intro hc
    replace h := zif_t hc h
    refine z_iconst fx (v := (-1)) icm1 d12_leads_21 ?_
    cases h
    exact z_ireturn fx fin d12_leads_22
  have kf2 : b2 = false → zZ zK1 X (zT0 Sh top) μ1 23 [(0, .ref o_), (1, .int v_bridge), (2, .int v_host)] [] := by
    intro hc
    replace h := zif_f hc h
    refine z_iload_n fx (k := 1) (i := 1) rfl rfl d12_leads_23 ?_
    refine z_istore_n fx (k := 3) (i := 3) rfl rfl (lv' := [(0, .ref o_), (1, .int v_bridge), (2, .int v_host), (3, .int v_bridge)]) rfl rfl d12_leads_24 ?_
    refine z_iconst fx (v := 0) ic0 d12_leads_25 ?_
    refine z_istore fx (i := 4) rfl (lv' := [(0, .ref o_), (1, .int v_bridge), (2, .int v_host), (3, .int v_bridge), (4, .int 0)]) rfl rfl d12_leads_26 ?_
    obtain ⟨r6, e26, h⟩ := zinv h
    have kx7 : ∀ (v_b_5 : Int32) (v_n_6 : Int32), r6 = .inr (v_b_5, v_n_6) → zZ zK1 X (zT0 Sh top) μ1 111 [(0, .ref o_), (1, .int v_bridge), (2, .int v_host), (3, .int v_b_5), (4, .int v_n_6)] [] := by
      intro v_b_5 v_n_6 hr
      subst hr
      replace h := zel2 h
      refine z_take 4 (lv' := [(0, .ref o_), (1, .int v_bridge), (2, .int v_host), (3, .int v_b_5)]) rfl ?_
      refine z_iconst fx (v := (-1)) icm1 d12_leads_111 ?_
      cases h
      exact z_ireturn fx fin d12_leads_112
    have klr6 : ∀ (n : Nat) (v_b_3 : Int32) (v_n_4 : Int32), zloop (fun s => f12_leads_L1 o_ v_host μ1 s.1 s.2) n (v_b_3, v_n_4) = some r6 → zZ zK1 X (zT0 Sh top) μ1 28 [(0, .ref o_), (1, .int v_bridge), (2, .int v_host), (3, .int v_b_3), (4, .int v_n_4)] [] := by
      intro n
      induction n with
      | zero => intro v_b_3 v_n_4 hl5; cases hl5
      | succ n ih8 =>
        intro v_b_3 v_n_4 hl5
        obtain ⟨y, e4, hl5⟩ := zloop_inv hl5
        replace e4 : f12_leads_L1 o_ v_host μ1 v_b_3 v_n_4 = some y := e4
        unfold f12_leads_L1 at e4
        refine z_iload fx (i := 4) rfl d12_leads_28 ?_
        refine z_bipush fx (v := 8) bp8 d12_leads_30 ?_
        refine z_icmp_gt fx d12_leads_32 (fun c9 => ?_) (fun c9 => ?_)
        · replace e4 := zif_t c9 e4
          cases e4
          exact kx7 _ _ (Eq.symm hl5)
        · replace e4 := zif_f c9 e4
          refine z_aload_n fx (k := 0) (i := 0) rfl rfl d12_leads_35 ?_
          refine z_iload_n fx (k := 3) (i := 3) rfl rfl d12_leads_36 ?_
          refine z_iload_n fx (k := 2) (i := 2) rfl rfl d12_leads_37 ?_
          obtain ⟨t7, e10, e4⟩ := zinv e4
          refine z_cSr fx (c12_addressAt (zLo X) (zDo X) Sh top hO v_b_3 v_host μ1 _  e10) ms12_addressAt ml12_348 rfl rfl rfl rfl d12_leads_38 ?_
          obtain ⟨t8, e11, e4⟩ := zinv e4
          refine z_cVr fx (c12_its (zLo X) (zDo X) Sh top hO o_ t7 μ1 _ ho e11) mv12_its ml12_316 ho rfl rfl rfl rfl d12_leads_41 ?_
          refine z_istore fx (i := 5) rfl (lv' := [(0, .ref o_), (1, .int v_bridge), (2, .int v_host), (3, .int v_b_3), (4, .int v_n_4), (5, .int t8)]) rfl rfl d12_leads_44 ?_
          refine z_iload fx (i := 5) rfl d12_leads_46 ?_
          refine z_bipush fx (v := 6) bp6 d12_leads_48 ?_
          refine z_icmp_ne fx d12_leads_50 (fun c12 => ?_) (fun c12 => ?_)
          · replace e4 := zif_f c12 e4
            obtain ⟨b9, e14, e4⟩ := zinv e4
            have kt13 : b9 = true → zZ zK1 X (zT0 Sh top) μ1 92 [(0, .ref o_), (1, .int v_bridge), (2, .int v_host), (3, .int v_b_3), (4, .int v_n_4), (5, .int t8)] [] := by
              intro hc
              replace e4 := zif_t hc e4
              refine z_iconst fx (v := (-1)) icm1 d12_leads_92 ?_
              cases e4
              cases hl5
              cases h
              exact z_ireturn fx fin d12_leads_93
            have kf13 : b9 = false → zZ zK1 X (zT0 Sh top) μ1 94 [(0, .ref o_), (1, .int v_bridge), (2, .int v_host), (3, .int v_b_3), (4, .int v_n_4), (5, .int t8)] [] := by
              intro hc
              replace e4 := zif_f hc e4
              refine z_aload_n fx (k := 0) (i := 0) rfl rfl d12_leads_94 ?_
              refine z_iload_n fx (k := 3) (i := 3) rfl rfl d12_leads_95 ?_
              refine z_iload fx (i := 5) rfl d12_leads_96 ?_
              obtain ⟨t10, e15, e4⟩ := zinv e4
              refine z_cSr fx (c12_placeOf (zLo X) (zDo X) Sh top hO v_b_3 t8 μ1 _  e15) ms12_placeOf ml12_325 rfl rfl rfl rfl d12_leads_98 ?_
              obtain ⟨t11, e16, e4⟩ := zinv e4
              refine z_cVr fx (c12_otherBridge (zLo X) (zDo X) Sh top hO o_ t10 μ1 _ ho e16) mv12_otherBridge ml12_322 ho rfl rfl rfl rfl d12_leads_101 ?_
              refine z_istore_n fx (k := 3) (i := 3) rfl rfl (lv' := [(0, .ref o_), (1, .int v_bridge), (2, .int v_host), (3, .int t11), (4, .int v_n_4), (5, .int t8)]) rfl rfl d12_leads_104 ?_
              refine z_take 5 (lv' := [(0, .ref o_), (1, .int v_bridge), (2, .int v_host), (3, .int t11), (4, .int v_n_4)]) rfl ?_
              obtain ⟨v_n_12, e17, e4⟩ := zinv e4
              replace e17 := Option.some.inj e17
              refine z_iinc fx (i := 4) (x := v_n_4) (v := v_n_12) rfl (by rw [in1]; exact e17) rfl (lv' := [(0, .ref o_), (1, .int v_bridge), (2, .int v_host), (3, .int t11), (4, .int v_n_12)]) rfl rfl d12_leads_105 ?_
              cases e4
              refine z_goto fx d12_leads_108 ?_
              exact ih8 _ _ hl5
            clear e4
            refine z_iload fx (i := 5) rfl d12_leads_73 ?_
            refine z_iconst fx (v := (-1)) icm1 d12_leads_75 ?_
            refine z_icmp_eq fx d12_leads_76 (fun c18 => ?_) (fun c18 => ?_)
            · replace e14 := zif_t c18 e14
              cases e14
              exact kt13 rfl
            · replace e14 := zif_f c18 e14
              refine z_aload_n fx (k := 0) (i := 0) rfl rfl d12_leads_79 ?_
              refine z_iload_n fx (k := 3) (i := 3) rfl rfl d12_leads_80 ?_
              refine z_iload fx (i := 5) rfl d12_leads_81 ?_
              obtain ⟨t13, e19, e14⟩ := zinv e14
              refine z_cSr fx (c12_placeOf (zLo X) (zDo X) Sh top hO v_b_3 t8 μ1 _  e19) ms12_placeOf ml12_325 rfl rfl rfl rfl d12_leads_83 ?_
              obtain ⟨t14, e20, e14⟩ := zinv e14
              refine z_cVr fx (c12_isUp (zLo X) (zDo X) Sh top hO o_ t13 μ1 _ ho e20) mv12_isUp ml12_393 ho rfl rfl rfl rfl d12_leads_86 ?_
              cases e14
              refine z_ifb_ne fx d12_leads_89 (fun c21 => ?_) (fun c21 => ?_)
              · exact kf13 (by rw [c21]; rfl)
              · exact kt13 (by rw [c21]; rfl)
          · replace e4 := zif_t c12 e4
            obtain ⟨x15, e22, e4⟩ := zinv e4
            have k23 : zZ zK1 X (zT0 Sh top) μ1 72 [(0, .ref o_), (1, .int v_bridge), (2, .int v_host), (3, .int v_b_3), (4, .int v_n_4), (5, .int t8)] [.int x15] := by
              cases e4
              cases hl5
              cases h
              exact z_ireturn fx fin d12_leads_72
            refine z_aload_n fx (k := 0) (i := 0) rfl rfl d12_leads_53 ?_
            refine z_sipush fx (v := 978) sp978 d12_leads_54 ?_
            refine z_iload_n fx (k := 2) (i := 2) rfl rfl d12_leads_57 ?_
            refine z_iadd fx d12_leads_58 ?_
            obtain ⟨t16, e24, e22⟩ := zinv e22
            refine z_cVr fx (c12_its (zLo X) (zDo X) Sh top hO o_ (978 + v_host) μ1 _ ho e24) mv12_its ml12_316 ho rfl rfl rfl rfl d12_leads_59 ?_
            refine z_iload_n fx (k := 3) (i := 3) rfl rfl d12_leads_62 ?_
            refine z_icmp_ne fx d12_leads_63 (fun c25 => ?_) (fun c25 => ?_)
            · replace e22 := zif_f c25 e22
              refine z_iconst fx (v := (-1)) icm1 d12_leads_71 ?_
              cases e22
              exact k23
            · replace e22 := zif_t c25 e22
              refine z_iload fx (i := 4) rfl d12_leads_66 ?_
              cases e22
              refine z_goto fx d12_leads_68 ?_
              exact k23
    exact klr6 _ _ _ e26
  clear h
  obtain ⟨b17, e27, e3⟩ := zinv e3
  have kf28 : b17 = false → zZ zK1 X (zT0 Sh top) μ1 13 [(0, .ref o_), (1, .int v_bridge), (2, .int v_host)] [] := by
    intro hc
    replace e3 := zif_f hc e3
    refine z_aload_n fx (k := 0) (i := 0) rfl rfl d12_leads_13 ?_
    refine z_iload_n fx (k := 2) (i := 2) rfl rfl d12_leads_14 ?_
    obtain ⟨t18, e29, e3⟩ := zinv e3
    refine z_cVr fx (c12_isHost (zLo X) (zDo X) Sh top hO o_ v_host μ1 _ ho e29) mv12_isHost ml12_483 ho rfl rfl rfl rfl d12_leads_15 ?_
    cases e3
    refine z_ifb_ne fx d12_leads_18 (fun c30 => ?_) (fun c30 => ?_)
    · exact kf2 (by rw [c30]; rfl)
    · exact kt2 (by rw [c30]; rfl)
  have kt28 : b17 = true → zZ zK1 X (zT0 Sh top) μ1 21 [(0, .ref o_), (1, .int v_bridge), (2, .int v_host)] [] := by
    intro hc
    replace e3 := zif_t hc e3
    cases e3
    exact kt2 rfl
  clear e3
  refine z_aload_n fx (k := 0) (i := 0) rfl rfl d12_leads_5 ?_
  refine z_iload_n fx (k := 1) (i := 1) rfl rfl d12_leads_6 ?_
  obtain ⟨t19, e31, e27⟩ := zinv e27
  refine z_cVr fx (c12_isBridge (zLo X) (zDo X) Sh top hO o_ v_bridge μ1 _ ho e31) mv12_isBridge ml12_471 ho rfl rfl rfl rfl d12_leads_7 ?_
  cases e27
  refine z_ifb_eq fx d12_leads_10 (fun c32 => ?_) (fun c32 => ?_)
  · exact kt28 (by rw [c32]; rfl)
  · exact kf28 (by rw [c32]; rfl)
theorem d12_isHealed_0 : zd cX12_isHealed 0 (.aload_n 0) 1 1 := by decide +kernel
theorem d12_isHealed_1 : zd cX12_isHealed 1 (.invokevirtual 496) 3 4 := by decide +kernel
theorem d12_isHealed_4 : zd cX12_isHealed 4 (.aload_n 0) 1 5 := by decide +kernel
theorem d12_isHealed_5 : zd cX12_isHealed 5 (.iconst (-1)) 1 6 := by decide +kernel
theorem d12_isHealed_6 : zd cX12_isHealed 6 (.invokevirtual 514) 3 9 := by decide +kernel
theorem d12_isHealed_9 : zd cX12_isHealed 9 (.pop) 1 10 := by decide +kernel
theorem d12_isHealed_10 : zd cX12_isHealed 10 (.iconst 0) 1 11 := by decide +kernel
theorem d12_isHealed_11 : zd cX12_isHealed 11 (.istore_n 1) 1 12 := by decide +kernel
theorem d12_isHealed_12 : zd cX12_isHealed 12 (.iload_n 1) 1 13 := by decide +kernel
theorem d12_isHealed_13 : zd cX12_isHealed 13 (.aload_n 0) 1 14 := by decide +kernel
theorem d12_isHealed_14 : zd cX12_isHealed 14 (.getfield 13) 3 17 := by decide +kernel
theorem d12_isHealed_17 : zj cX12_isHealed 17 (.if_icmp .ge 59) 59 20 76 := by decide +kernel
theorem d12_isHealed_20 : zd cX12_isHealed 20 (.iconst 0) 1 21 := by decide +kernel
theorem d12_isHealed_21 : zd cX12_isHealed 21 (.istore_n 2) 1 22 := by decide +kernel
theorem d12_isHealed_22 : zd cX12_isHealed 22 (.iload_n 2) 1 23 := by decide +kernel
theorem d12_isHealed_23 : zd cX12_isHealed 23 (.aload_n 0) 1 24 := by decide +kernel
theorem d12_isHealed_24 : zd cX12_isHealed 24 (.getfield 13) 3 27 := by decide +kernel
theorem d12_isHealed_27 : zj cX12_isHealed 27 (.if_icmp .ge 43) 43 30 70 := by decide +kernel
theorem d12_isHealed_30 : zd cX12_isHealed 30 (.aload_n 0) 1 31 := by decide +kernel
theorem d12_isHealed_31 : zd cX12_isHealed 31 (.getfield 160) 3 34 := by decide +kernel
theorem d12_isHealed_34 : zd cX12_isHealed 34 (.bipush 8) 2 36 := by decide +kernel
theorem d12_isHealed_36 : zd cX12_isHealed 36 (.iload_n 1) 1 37 := by decide +kernel
theorem d12_isHealed_37 : zd cX12_isHealed 37 (.imul) 1 38 := by decide +kernel
theorem d12_isHealed_38 : zd cX12_isHealed 38 (.iload_n 2) 1 39 := by decide +kernel
theorem d12_isHealed_39 : zd cX12_isHealed 39 (.iadd) 1 40 := by decide +kernel
theorem d12_isHealed_40 : zd cX12_isHealed 40 (.iaload) 1 41 := by decide +kernel
theorem d12_isHealed_41 : zd cX12_isHealed 41 (.ldc_w 489) 3 44 := by decide +kernel
theorem d12_isHealed_44 : zj cX12_isHealed 44 (.if_icmp .ge 20) 20 47 64 := by decide +kernel
theorem d12_isHealed_47 : zd cX12_isHealed 47 (.aload_n 0) 1 48 := by decide +kernel
theorem d12_isHealed_48 : zd cX12_isHealed 48 (.getfield 163) 3 51 := by decide +kernel
theorem d12_isHealed_51 : zd cX12_isHealed 51 (.iload_n 1) 1 52 := by decide +kernel
theorem d12_isHealed_52 : zd cX12_isHealed 52 (.iaload) 1 53 := by decide +kernel
theorem d12_isHealed_53 : zd cX12_isHealed 53 (.aload_n 0) 1 54 := by decide +kernel
theorem d12_isHealed_54 : zd cX12_isHealed 54 (.getfield 163) 3 57 := by decide +kernel
theorem d12_isHealed_57 : zd cX12_isHealed 57 (.iload_n 2) 1 58 := by decide +kernel
theorem d12_isHealed_58 : zd cX12_isHealed 58 (.iaload) 1 59 := by decide +kernel
theorem d12_isHealed_59 : zj cX12_isHealed 59 (.if_icmp .eq 5) 5 62 64 := by decide +kernel
theorem d12_isHealed_62 : zd cX12_isHealed 62 (.iconst 0) 1 63 := by decide +kernel
theorem d12_isHealed_63 : zd cX12_isHealed 63 (.ireturn) 1 64 := by decide +kernel
theorem d12_isHealed_64 : zd cX12_isHealed 64 (.iinc 2 1) 3 67 := by decide +kernel
theorem d12_isHealed_67 : zj cX12_isHealed 67 (.goto (-45)) (-45) 70 22 := by decide +kernel
theorem d12_isHealed_70 : zd cX12_isHealed 70 (.iinc 1 1) 3 73 := by decide +kernel
theorem d12_isHealed_73 : zj cX12_isHealed 73 (.goto (-61)) (-61) 76 12 := by decide +kernel
theorem d12_isHealed_76 : zd cX12_isHealed 76 (.iconst 1) 1 77 := by decide +kernel
theorem d12_isHealed_77 : zd cX12_isHealed 77 (.ireturn) 1 78 := by decide +kernel
set_option maxHeartbeats 4000000 in
set_option maxRecDepth 20000 in
theorem c12_isHealed (l : Launch) (D : zDt) (Sh : zSh) (top : Nat) (hO : zOK Sh) (o_ : Nat) (μ : zM) (r_ : Bool) (μ_ : zM) (ho : (Sh o_).1 = 19) (h : f12_isHealed o_ μ = some (r_, μ_)) : zMet l D zK1 yX12_isHealed cX12_isHealed 3 (some .boolean) (zrm 5 108) [.ref o_] Sh top μ (some (.int (bI r_))) Sh top μ_ 0 0 := by
  refine zMet_of (by decide) (Nat.le_of_ble_eq_true rfl) fun X hX1 hX2 fx fin => ?_
  subst hX1; subst hX2
  replace fx : zFix X cX12_isHealed RX12 (zrm 5 108) 3 := fx
  show zZ zK1 X (zT0 Sh top) μ 0 [(0, .ref o_)] []
  unfold f12_isHealed at h
  refine z_aload_n fx (k := 0) (i := 0) rfl rfl d12_isHealed_0 ?_
  obtain ⟨μ1, e1, h⟩ := zinv h
  refine z_cVv fx (c12_laysFar (zLo X) (zDo X) Sh top hO o_ μ _ ho e1) mv12_laysFar ml12_496 ho rfl rfl rfl rfl d12_isHealed_1 ?_
  refine z_aload_n fx (k := 0) (i := 0) rfl rfl d12_isHealed_4 ?_
  refine z_iconst fx (v := (-1)) icm1 d12_isHealed_5 ?_
  obtain ⟨t2, μ3, e2, h⟩ := zinv2 h
  refine z_cVr fx (c12_laysOpenParts (zLo X) (zDo X) Sh top hO o_ (-1) μ1 _ _ ho e2) mv12_laysOpenParts ml12_514 ho rfl rfl rfl rfl d12_isHealed_6 ?_
  refine z_pop fx rfl d12_isHealed_9 ?_
  refine z_iconst fx (v := 0) ic0 d12_isHealed_10 ?_
  refine z_istore_n fx (k := 1) (i := 1) rfl rfl (lv' := [(0, .ref o_), (1, .int 0)]) rfl rfl d12_isHealed_11 ?_
  obtain ⟨r5, e27, h⟩ := zinv h
  have kx6 : ∀ (v_a_5 : Int32), r5 = .inr v_a_5 → zZ zK1 X (zT0 Sh top) μ3 76 [(0, .ref o_), (1, .int v_a_5)] [] := by
    intro v_a_5 hr
    subst hr
    replace h := zel1 h
    refine z_take 1 (lv' := [(0, .ref o_)]) rfl ?_
    refine z_iconst fx (v := 1) ic1 d12_isHealed_76 ?_
    refine z_top (show Value.int 1 = .int (bI true) from rfl) ?_
    cases h
    exact z_zreturn fx fin d12_isHealed_77
  have klr5 : ∀ (n : Nat) (v_a_4 : Int32), zloop (fun s => f12_isHealed_L1 o_ μ3 s) n v_a_4 = some r5 → zZ zK1 X (zT0 Sh top) μ3 12 [(0, .ref o_), (1, .int v_a_4)] [] := by
    intro n
    induction n with
    | zero => intro v_a_4 hl4; cases hl4
    | succ n ih7 =>
      intro v_a_4 hl4
      obtain ⟨y, e3, hl4⟩ := zloop_inv hl4
      replace e3 : f12_isHealed_L1 o_ μ3 v_a_4 = some y := e3
      unfold f12_isHealed_L1 at e3
      refine z_iload_n fx (k := 1) (i := 1) rfl rfl d12_isHealed_12 ?_
      refine z_aload_n fx (k := 0) (i := 0) rfl rfl d12_isHealed_13 ?_
      refine z_getI fx 12 1 1201 ho lf12_13 ⟨fk12_1, rfl⟩ d12_isHealed_14 ?_
      refine z_icmp_ge fx d12_isHealed_17 (fun c8 => ?_) (fun c8 => ?_)
      · replace e3 := zif_f c8 e3
        cases e3
        exact kx6 _ (Eq.symm hl4)
      · replace e3 := zif_t c8 e3
        refine z_iconst fx (v := 0) ic0 d12_isHealed_20 ?_
        refine z_istore_n fx (k := 2) (i := 2) rfl rfl (lv' := [(0, .ref o_), (1, .int v_a_4), (2, .int 0)]) rfl rfl d12_isHealed_21 ?_
        obtain ⟨r11, e26, e3⟩ := zinv e3
        have kx12 : ∀ (v_b_7 : Int32), r11 = .inr v_b_7 → zZ zK1 X (zT0 Sh top) μ3 70 [(0, .ref o_), (1, .int v_a_4), (2, .int v_b_7)] [] := by
          intro v_b_7 hr
          subst hr
          replace e3 := zel1 e3
          refine z_take 2 (lv' := [(0, .ref o_), (1, .int v_a_4)]) rfl ?_
          obtain ⟨v_a_14, e25, e3⟩ := zinv e3
          replace e25 := Option.some.inj e25
          refine z_iinc fx (i := 1) (x := v_a_4) (v := v_a_14) rfl (by rw [in1]; exact e25) rfl (lv' := [(0, .ref o_), (1, .int v_a_14)]) rfl rfl d12_isHealed_70 ?_
          cases e3
          refine z_goto fx d12_isHealed_73 ?_
          exact ih7 _ hl4
        have klr11 : ∀ (n : Nat) (v_b_6 : Int32), zloop (fun s => f12_isHealed_L2 o_ μ3 v_a_4 s) n v_b_6 = some r11 → zZ zK1 X (zT0 Sh top) μ3 22 [(0, .ref o_), (1, .int v_a_4), (2, .int v_b_6)] [] := by
          intro n
          induction n with
          | zero => intro v_b_6 hl10; cases hl10
          | succ n ih13 =>
            intro v_b_6 hl10
            obtain ⟨y, e9, hl10⟩ := zloop_inv hl10
            replace e9 : f12_isHealed_L2 o_ μ3 v_a_4 v_b_6 = some y := e9
            unfold f12_isHealed_L2 at e9
            refine z_iload_n fx (k := 2) (i := 2) rfl rfl d12_isHealed_22 ?_
            refine z_aload_n fx (k := 0) (i := 0) rfl rfl d12_isHealed_23 ?_
            refine z_getI fx 12 1 1201 ho lf12_13 ⟨fk12_1, rfl⟩ d12_isHealed_24 ?_
            refine z_icmp_ge fx d12_isHealed_27 (fun c14 => ?_) (fun c14 => ?_)
            · replace e9 := zif_f c14 e9
              cases e9
              exact kx12 _ (Eq.symm hl10)
            · replace e9 := zif_t c14 e9
              obtain ⟨b8, e16, e9⟩ := zinv e9
              have kt15 : b8 = true → zZ zK1 X (zT0 Sh top) μ3 62 [(0, .ref o_), (1, .int v_a_4), (2, .int v_b_6)] [] := by
                intro hc
                replace e9 := zif_t hc e9
                refine z_iconst fx (v := 0) ic0 d12_isHealed_62 ?_
                refine z_top (show Value.int 0 = .int (bI false) from rfl) ?_
                cases e9
                cases hl10
                cases e3
                cases hl4
                cases h
                exact z_zreturn fx fin d12_isHealed_63
              have kf15 : b8 = false → zZ zK1 X (zT0 Sh top) μ3 64 [(0, .ref o_), (1, .int v_a_4), (2, .int v_b_6)] [] := by
                intro hc
                replace e9 := zif_f hc e9
                obtain ⟨v_b_9, e17, e9⟩ := zinv e9
                replace e17 := Option.some.inj e17
                refine z_iinc fx (i := 2) (x := v_b_6) (v := v_b_9) rfl (by rw [in1]; exact e17) rfl (lv' := [(0, .ref o_), (1, .int v_a_4), (2, .int v_b_9)]) rfl rfl d12_isHealed_64 ?_
                cases e9
                refine z_goto fx d12_isHealed_67 ?_
                exact ih13 _ hl10
              clear e9
              obtain ⟨b10, e18, e16⟩ := zinv e16
              have kt19 : b10 = true → zZ zK1 X (zT0 Sh top) μ3 47 [(0, .ref o_), (1, .int v_a_4), (2, .int v_b_6)] [] := by
                intro hc
                replace e16 := zif_t hc e16
                refine z_aload_n fx (k := 0) (i := 0) rfl rfl d12_isHealed_47 ?_
                refine z_getO fx 12 50 29 ho lf12_163 fk12_50 d12_isHealed_48 ?_
                refine z_iload_n fx (k := 1) (i := 1) rfl rfl d12_isHealed_51 ?_
                obtain ⟨t11, e20, e16⟩ := zinv e16
                refine z_iald fx (ok12_50 hO ho) e20 d12_isHealed_52 ?_
                refine z_aload_n fx (k := 0) (i := 0) rfl rfl d12_isHealed_53 ?_
                refine z_getO fx 12 50 29 ho lf12_163 fk12_50 d12_isHealed_54 ?_
                refine z_iload_n fx (k := 2) (i := 2) rfl rfl d12_isHealed_57 ?_
                obtain ⟨t12, e21, e16⟩ := zinv e16
                refine z_iald fx (ok12_50 hO ho) e21 d12_isHealed_58 ?_
                cases e16
                refine z_icmp_eq fx d12_isHealed_59 (fun c22 => ?_) (fun c22 => ?_)
                · exact kf15 (by rw [c22]; rfl)
                · exact kt15 (by rw [c22]; rfl)
              have kf19 : b10 = false → zZ zK1 X (zT0 Sh top) μ3 64 [(0, .ref o_), (1, .int v_a_4), (2, .int v_b_6)] [] := by
                intro hc
                replace e16 := zif_f hc e16
                cases e16
                exact kf15 rfl
              clear e16
              refine z_aload_n fx (k := 0) (i := 0) rfl rfl d12_isHealed_30 ?_
              refine z_getO fx 12 49 28 ho lf12_160 fk12_49 d12_isHealed_31 ?_
              refine z_bipush fx (v := 8) bp8 d12_isHealed_34 ?_
              refine z_iload_n fx (k := 1) (i := 1) rfl rfl d12_isHealed_36 ?_
              refine z_imul fx d12_isHealed_37 ?_
              refine z_iload_n fx (k := 2) (i := 2) rfl rfl d12_isHealed_38 ?_
              refine z_iadd fx d12_isHealed_39 ?_
              obtain ⟨t13, e23, e18⟩ := zinv e18
              refine z_iald fx (ok12_49 hO ho) e23 d12_isHealed_40 ?_
              refine z_ldcw fx (v := 100000000) kc12_489 d12_isHealed_41 ?_
              cases e18
              refine z_icmp_ge fx d12_isHealed_44 (fun c24 => ?_) (fun c24 => ?_)
              · exact kf19 c24
              · exact kt19 c24
        exact klr11 _ _ e26
  exact klr5 _ _ e27
theorem d12_healsIn_0 : zd cX12_healsIn 0 (.aload_n 0) 1 1 := by decide +kernel
theorem d12_healsIn_1 : zd cX12_healsIn 1 (.invokevirtual 508) 3 4 := by decide +kernel
theorem d12_healsIn_4 : zd cX12_healsIn 4 (.aload_n 0) 1 5 := by decide +kernel
theorem d12_healsIn_5 : zd cX12_healsIn 5 (.iload_n 1) 1 6 := by decide +kernel
theorem d12_healsIn_6 : zd cX12_healsIn 6 (.invokevirtual 520) 3 9 := by decide +kernel
theorem d12_healsIn_9 : zd cX12_healsIn 9 (.iconst 0) 1 10 := by decide +kernel
theorem d12_healsIn_10 : zd cX12_healsIn 10 (.istore_n 2) 1 11 := by decide +kernel
theorem d12_healsIn_11 : zd cX12_healsIn 11 (.iload_n 2) 1 12 := by decide +kernel
theorem d12_healsIn_12 : zd cX12_healsIn 12 (.sipush 320) 3 15 := by decide +kernel
theorem d12_healsIn_15 : zj cX12_healsIn 15 (.if_icmp .gt 22) 22 18 37 := by decide +kernel
theorem d12_healsIn_18 : zd cX12_healsIn 18 (.aload_n 0) 1 19 := by decide +kernel
theorem d12_healsIn_19 : zd cX12_healsIn 19 (.invokevirtual 523) 3 22 := by decide +kernel
theorem d12_healsIn_22 : zj cX12_healsIn 22 (.ifCond .eq 5) 5 25 27 := by decide +kernel
theorem d12_healsIn_25 : zd cX12_healsIn 25 (.iload_n 2) 1 26 := by decide +kernel
theorem d12_healsIn_26 : zd cX12_healsIn 26 (.ireturn) 1 27 := by decide +kernel
theorem d12_healsIn_27 : zd cX12_healsIn 27 (.aload_n 0) 1 28 := by decide +kernel
theorem d12_healsIn_28 : zd cX12_healsIn 28 (.invokevirtual 511) 3 31 := by decide +kernel
theorem d12_healsIn_31 : zd cX12_healsIn 31 (.iinc 2 1) 3 34 := by decide +kernel
theorem d12_healsIn_34 : zj cX12_healsIn 34 (.goto (-23)) (-23) 37 11 := by decide +kernel
theorem d12_healsIn_37 : zd cX12_healsIn 37 (.sipush 321) 3 40 := by decide +kernel
theorem d12_healsIn_40 : zd cX12_healsIn 40 (.ireturn) 1 41 := by decide +kernel
set_option maxHeartbeats 4000000 in
set_option maxRecDepth 20000 in
theorem c12_healsIn (l : Launch) (D : zDt) (Sh : zSh) (top : Nat) (hO : zOK Sh) (o_ : Nat) (v_l : Int32) (μ : zM) (r_ : Int32) (μ_ : zM) (ho : (Sh o_).1 = 19) (h : f12_healsIn o_ v_l μ = some (r_, μ_)) : zMet l D zK1 yX12_healsIn cX12_healsIn 3 (some .int) (zrm 11 254) [.ref o_, .int v_l] Sh top μ (some (.int r_)) Sh top μ_ 0 0 := by
  refine zMet_of (by decide) (Nat.le_of_ble_eq_true rfl) fun X hX1 hX2 fx fin => ?_
  subst hX1; subst hX2
  replace fx : zFix X cX12_healsIn RX12 (zrm 11 254) 3 := fx
  show zZ zK1 X (zT0 Sh top) μ 0 [(0, .ref o_), (1, .int v_l)] []
  unfold f12_healsIn at h
  refine z_aload_n fx (k := 0) (i := 0) rfl rfl d12_healsIn_0 ?_
  obtain ⟨μ1, e1, h⟩ := zinv h
  refine z_cVv fx (c12_tries (zLo X) (zDo X) Sh top hO o_ μ _ ho e1) mv12_tries ml12_508 ho rfl rfl rfl rfl d12_healsIn_1 ?_
  refine z_aload_n fx (k := 0) (i := 0) rfl rfl d12_healsIn_4 ?_
  refine z_iload_n fx (k := 1) (i := 1) rfl rfl d12_healsIn_5 ?_
  obtain ⟨μ2, e2, h⟩ := zinv h
  refine z_cVv fx (c12_isCut (zLo X) (zDo X) Sh top hO o_ v_l μ1 _ ho e2) mv12_isCut ml12_520 ho rfl rfl rfl rfl d12_healsIn_6 ?_
  refine z_iconst fx (v := 0) ic0 d12_healsIn_9 ?_
  refine z_istore_n fx (k := 2) (i := 2) rfl rfl (lv' := [(0, .ref o_), (1, .int v_l), (2, .int 0)]) rfl rfl d12_healsIn_10 ?_
  obtain ⟨r5, e13, h⟩ := zinv h
  have kx6 : ∀ (v_n_5 : Int32) (μ6 : zM), r5 = .inr (v_n_5, μ6) → zZ zK1 X (zT0 Sh top) μ6 37 [(0, .ref o_), (1, .int v_l), (2, .int v_n_5)] [] := by
    intro v_n_5 μ6 hr
    subst hr
    replace h := zel2 h
    refine z_take 2 (lv' := [(0, .ref o_), (1, .int v_l)]) rfl ?_
    refine z_sipush fx (v := 321) sp321 d12_healsIn_37 ?_
    cases h
    exact z_ireturn fx fin d12_healsIn_40
  have klr5 : ∀ (n : Nat) (v_n_3 : Int32) (μ4 : zM), zloop (fun s => f12_healsIn_L1 o_ s.1 s.2) n (v_n_3, μ4) = some r5 → zZ zK1 X (zT0 Sh top) μ4 11 [(0, .ref o_), (1, .int v_l), (2, .int v_n_3)] [] := by
    intro n
    induction n with
    | zero => intro v_n_3 μ4 hl4; cases hl4
    | succ n ih7 =>
      intro v_n_3 μ4 hl4
      obtain ⟨y, e3, hl4⟩ := zloop_inv hl4
      replace e3 : f12_healsIn_L1 o_ v_n_3 μ4 = some y := e3
      unfold f12_healsIn_L1 at e3
      refine z_iload_n fx (k := 2) (i := 2) rfl rfl d12_healsIn_11 ?_
      refine z_sipush fx (v := 320) sp320 d12_healsIn_12 ?_
      refine z_icmp_gt fx d12_healsIn_15 (fun c8 => ?_) (fun c8 => ?_)
      · replace e3 := zif_t c8 e3
        cases e3
        exact kx6 _ _ (Eq.symm hl4)
      · replace e3 := zif_f c8 e3
        refine z_aload_n fx (k := 0) (i := 0) rfl rfl d12_healsIn_18 ?_
        obtain ⟨t7, μ8, e9, e3⟩ := zinv2 e3
        refine z_cVr fx (c12_isHealed (zLo X) (zDo X) Sh top hO o_ μ4 _ _ ho e9) mv12_isHealed ml12_523 ho rfl rfl rfl rfl d12_healsIn_19 ?_
        refine z_ifb_eq fx d12_healsIn_22 (fun c10 => ?_) (fun c10 => ?_)
        · replace e3 := zif_f c10 e3
          refine z_aload_n fx (k := 0) (i := 0) rfl rfl d12_healsIn_27 ?_
          obtain ⟨μ9, e11, e3⟩ := zinv e3
          refine z_cVv fx (c12_steps (zLo X) (zDo X) Sh top hO o_ μ8 _ ho e11) mv12_steps ml12_511 ho rfl rfl rfl rfl d12_healsIn_28 ?_
          obtain ⟨v_n_10, e12, e3⟩ := zinv e3
          replace e12 := Option.some.inj e12
          refine z_iinc fx (i := 2) (x := v_n_3) (v := v_n_10) rfl (by rw [in1]; exact e12) rfl (lv' := [(0, .ref o_), (1, .int v_l), (2, .int v_n_10)]) rfl rfl d12_healsIn_31 ?_
          cases e3
          refine z_goto fx d12_healsIn_34 ?_
          exact ih7 _ _ hl4
        · replace e3 := zif_t c10 e3
          refine z_iload_n fx (k := 2) (i := 2) rfl rfl d12_healsIn_25 ?_
          cases e3
          cases hl4
          cases h
          exact z_ireturn fx fin d12_healsIn_26
  exact klr5 _ _ _ e13
theorem d12_isWhole_0 : zd cX12_isWhole 0 (.aload_n 0) 1 1 := by decide +kernel
theorem d12_isWhole_1 : zd cX12_isWhole 1 (.iload_n 1) 1 2 := by decide +kernel
theorem d12_isWhole_2 : zd cX12_isWhole 2 (.invokevirtual 474) 3 5 := by decide +kernel
theorem d12_isWhole_5 : zj cX12_isWhole 5 (.ifCond .eq 21) 21 8 26 := by decide +kernel
theorem d12_isWhole_8 : zd cX12_isWhole 8 (.aload_n 0) 1 9 := by decide +kernel
theorem d12_isWhole_9 : zd cX12_isWhole 9 (.getfield 137) 3 12 := by decide +kernel
theorem d12_isWhole_12 : zd cX12_isWhole 12 (.sipush 964) 3 15 := by decide +kernel
theorem d12_isWhole_15 : zd cX12_isWhole 15 (.iload_n 1) 1 16 := by decide +kernel
theorem d12_isWhole_16 : zd cX12_isWhole 16 (.iadd) 1 17 := by decide +kernel
theorem d12_isWhole_17 : zd cX12_isWhole 17 (.iaload) 1 18 := by decide +kernel
theorem d12_isWhole_18 : zd cX12_isWhole 18 (.iconst 1) 1 19 := by decide +kernel
theorem d12_isWhole_19 : zj cX12_isWhole 19 (.if_icmp .ne 7) 7 22 26 := by decide +kernel
theorem d12_isWhole_22 : zd cX12_isWhole 22 (.iconst 1) 1 23 := by decide +kernel
theorem d12_isWhole_23 : zj cX12_isWhole 23 (.goto 4) 4 26 27 := by decide +kernel
theorem d12_isWhole_26 : zd cX12_isWhole 26 (.iconst 0) 1 27 := by decide +kernel
theorem d12_isWhole_27 : zd cX12_isWhole 27 (.ireturn) 1 28 := by decide +kernel
set_option maxHeartbeats 4000000 in
set_option maxRecDepth 20000 in
theorem c12_isWhole (l : Launch) (D : zDt) (Sh : zSh) (top : Nat) (hO : zOK Sh) (o_ : Nat) (v_l : Int32) (μ : zM) (r_ : Bool) (ho : (Sh o_).1 = 19) (h : f12_isWhole o_ v_l μ = some r_) : zMet l D zK1 yX12_isWhole cX12_isWhole 2 (some .boolean) (zrm 2 43) [.ref o_, .int v_l] Sh top μ (some (.int (bI r_))) Sh top μ 0 0 := by
  refine zMet_of (by decide) (Nat.le_of_ble_eq_true rfl) fun X hX1 hX2 fx fin => ?_
  subst hX1; subst hX2
  replace fx : zFix X cX12_isWhole RX12 (zrm 2 43) 2 := fx
  show zZ zK1 X (zT0 Sh top) μ 0 [(0, .ref o_), (1, .int v_l)] []
  unfold f12_isWhole at h
  obtain ⟨b1, e1, h⟩ := zinv h
  have k2 : zZ zK1 X (zT0 Sh top) μ 27 [(0, .ref o_), (1, .int v_l)] [.int (bI b1)] := by
    cases h
    exact z_zreturn fx fin d12_isWhole_27
  have kt3 : b1 = true → zZ zK1 X (zT0 Sh top) μ 22 [(0, .ref o_), (1, .int v_l)] [] := by
    intro hc
    refine z_iconst fx (v := 1) ic1 d12_isWhole_22 ?_
    refine z_goto fx d12_isWhole_23 ?_
    exact z_top (congrArg Value.int (show 1 = bI b1 by rw [hc]; rfl)) k2
  have kf3 : b1 = false → zZ zK1 X (zT0 Sh top) μ 26 [(0, .ref o_), (1, .int v_l)] [] := by
    intro hc
    refine z_iconst fx (v := 0) ic0 d12_isWhole_26 ?_
    exact z_top (congrArg Value.int (show 0 = bI b1 by rw [hc]; rfl)) k2
  obtain ⟨b2, e4, e1⟩ := zinv e1
  have kt5 : b2 = true → zZ zK1 X (zT0 Sh top) μ 8 [(0, .ref o_), (1, .int v_l)] [] := by
    intro hc
    replace e1 := zif_t hc e1
    refine z_aload_n fx (k := 0) (i := 0) rfl rfl d12_isWhole_8 ?_
    refine z_getO fx 12 42 24 ho lf12_137 fk12_42 d12_isWhole_9 ?_
    refine z_sipush fx (v := 964) sp964 d12_isWhole_12 ?_
    refine z_iload_n fx (k := 1) (i := 1) rfl rfl d12_isWhole_15 ?_
    refine z_iadd fx d12_isWhole_16 ?_
    obtain ⟨t3, e6, e1⟩ := zinv e1
    refine z_iald fx (ok12_42 hO ho) e6 d12_isWhole_17 ?_
    refine z_iconst fx (v := 1) ic1 d12_isWhole_18 ?_
    cases e1
    refine z_icmp_ne fx d12_isWhole_19 (fun c7 => ?_) (fun c7 => ?_)
    · exact kf3 c7
    · exact kt3 c7
  have kf5 : b2 = false → zZ zK1 X (zT0 Sh top) μ 26 [(0, .ref o_), (1, .int v_l)] [] := by
    intro hc
    replace e1 := zif_f hc e1
    cases e1
    exact kf3 rfl
  clear e1
  refine z_aload_n fx (k := 0) (i := 0) rfl rfl d12_isWhole_0 ?_
  refine z_iload_n fx (k := 1) (i := 1) rfl rfl d12_isWhole_1 ?_
  obtain ⟨t4, e8, e4⟩ := zinv e4
  refine z_cVr fx (c12_isLink (zLo X) (zDo X) Sh top hO o_ v_l μ _ ho e8) mv12_isLink ml12_474 ho rfl rfl rfl rfl d12_isWhole_2 ?_
  cases e4
  refine z_ifb_eq fx d12_isWhole_5 (fun c9 => ?_) (fun c9 => ?_)
  · exact kf5 c9
  · exact kt5 c9
theorem d12_heal_0 : zd cX12_heal 0 (.aload_n 0) 1 1 := by decide +kernel
theorem d12_heal_1 : zd cX12_heal 1 (.iload_n 1) 1 2 := by decide +kernel
theorem d12_heal_2 : zd cX12_heal 2 (.invokevirtual 526) 3 5 := by decide +kernel
theorem d12_heal_5 : zj cX12_heal 5 (.ifCond .ne 5) 5 8 10 := by decide +kernel
theorem d12_heal_8 : zd cX12_heal 8 (.iconst (-1)) 1 9 := by decide +kernel
theorem d12_heal_9 : zd cX12_heal 9 (.ireturn) 1 10 := by decide +kernel
theorem d12_heal_10 : zd cX12_heal 10 (.aload_n 0) 1 11 := by decide +kernel
theorem d12_heal_11 : zd cX12_heal 11 (.iload_n 1) 1 12 := by decide +kernel
theorem d12_heal_12 : zd cX12_heal 12 (.invokevirtual 529) 3 15 := by decide +kernel
theorem d12_heal_15 : zd cX12_heal 15 (.istore_n 2) 1 16 := by decide +kernel
theorem d12_heal_16 : zd cX12_heal 16 (.iload_n 2) 1 17 := by decide +kernel
theorem d12_heal_17 : zd cX12_heal 17 (.sipush 320) 3 20 := by decide +kernel
theorem d12_heal_20 : zj cX12_heal 20 (.if_icmp .le 7) 7 23 27 := by decide +kernel
theorem d12_heal_23 : zd cX12_heal 23 (.iconst (-1)) 1 24 := by decide +kernel
theorem d12_heal_24 : zj cX12_heal 24 (.goto 4) 4 27 28 := by decide +kernel
theorem d12_heal_27 : zd cX12_heal 27 (.iload_n 2) 1 28 := by decide +kernel
theorem d12_heal_28 : zd cX12_heal 28 (.ireturn) 1 29 := by decide +kernel
set_option maxHeartbeats 4000000 in
set_option maxRecDepth 20000 in
theorem c12_heal (l : Launch) (D : zDt) (Sh : zSh) (top : Nat) (hO : zOK Sh) (o_ : Nat) (v_link : Int32) (μ : zM) (r_ : Int32) (μ_ : zM) (ho : (Sh o_).1 = 19) (h : f12_heal o_ v_link μ = some (r_, μ_)) : zMet l D zK1 yX12_heal cX12_heal 3 (some .int) (zrm 12 276) [.ref o_, .int v_link] Sh top μ (some (.int r_)) Sh top μ_ 0 0 := by
  refine zMet_of (by decide) (Nat.le_of_ble_eq_true rfl) fun X hX1 hX2 fx fin => ?_
  subst hX1; subst hX2
  replace fx : zFix X cX12_heal RX12 (zrm 12 276) 3 := fx
  show zZ zK1 X (zT0 Sh top) μ 0 [(0, .ref o_), (1, .int v_link)] []
  unfold f12_heal at h
  refine z_aload_n fx (k := 0) (i := 0) rfl rfl d12_heal_0 ?_
  refine z_iload_n fx (k := 1) (i := 1) rfl rfl d12_heal_1 ?_
  obtain ⟨t1, e1, h⟩ := zinv h
  refine z_cVr fx (c12_isWhole (zLo X) (zDo X) Sh top hO o_ v_link μ _ ho e1) mv12_isWhole ml12_526 ho rfl rfl rfl rfl d12_heal_2 ?_
  refine z_ifb_ne fx d12_heal_5 (fun c2 => ?_) (fun c2 => ?_)
  · replace h := zif_t c2 h
    refine z_aload_n fx (k := 0) (i := 0) rfl rfl d12_heal_10 ?_
    refine z_iload_n fx (k := 1) (i := 1) rfl rfl d12_heal_11 ?_
    obtain ⟨t2, μ3, e3, h⟩ := zinv2 h
    refine z_cVr fx (c12_healsIn (zLo X) (zDo X) Sh top hO o_ v_link μ _ _ ho e3) mv12_healsIn ml12_529 ho rfl rfl rfl rfl d12_heal_12 ?_
    refine z_istore_n fx (k := 2) (i := 2) rfl rfl (lv' := [(0, .ref o_), (1, .int v_link), (2, .int t2)]) rfl rfl d12_heal_15 ?_
    obtain ⟨x4, e4, h⟩ := zinv h
    have k5 : zZ zK1 X (zT0 Sh top) μ3 28 [(0, .ref o_), (1, .int v_link), (2, .int t2)] [.int x4] := by
      cases h
      exact z_ireturn fx fin d12_heal_28
    refine z_iload_n fx (k := 2) (i := 2) rfl rfl d12_heal_16 ?_
    refine z_sipush fx (v := 320) sp320 d12_heal_17 ?_
    refine z_icmp_le fx d12_heal_20 (fun c6 => ?_) (fun c6 => ?_)
    · replace e4 := zif_f c6 e4
      refine z_iload_n fx (k := 2) (i := 2) rfl rfl d12_heal_27 ?_
      cases e4
      exact k5
    · replace e4 := zif_t c6 e4
      refine z_iconst fx (v := (-1)) icm1 d12_heal_23 ?_
      cases e4
      refine z_goto fx d12_heal_24 ?_
      exact k5
  · replace h := zif_f c2 h
    refine z_iconst fx (v := (-1)) icm1 d12_heal_8 ?_
    cases h
    exact z_ireturn fx fin d12_heal_9
theorem d12_worst_0 : zd cX12_worst 0 (.iload_n 1) 1 1 := by decide +kernel
theorem d12_worst_1 : zd cX12_worst 1 (.iconst 0) 1 2 := by decide +kernel
theorem d12_worst_2 : zd cX12_worst 2 (.iconst 1) 1 3 := by decide +kernel
theorem d12_worst_3 : zd cX12_worst 3 (.invokestatic 250) 3 6 := by decide +kernel
theorem d12_worst_6 : zj cX12_worst 6 (.ifCond .ne 5) 5 9 11 := by decide +kernel
theorem d12_worst_9 : zd cX12_worst 9 (.iconst (-1)) 1 10 := by decide +kernel
theorem d12_worst_10 : zd cX12_worst 10 (.ireturn) 1 11 := by decide +kernel
theorem d12_worst_11 : zd cX12_worst 11 (.iconst (-1)) 1 12 := by decide +kernel
theorem d12_worst_12 : zd cX12_worst 12 (.istore_n 2) 1 13 := by decide +kernel
theorem d12_worst_13 : zd cX12_worst 13 (.iconst (-1)) 1 14 := by decide +kernel
theorem d12_worst_14 : zd cX12_worst 14 (.istore_n 3) 1 15 := by decide +kernel
theorem d12_worst_15 : zd cX12_worst 15 (.iconst 0) 1 16 := by decide +kernel
theorem d12_worst_16 : zd cX12_worst 16 (.istore 4) 2 18 := by decide +kernel
theorem d12_worst_18 : zd cX12_worst 18 (.iload 4) 2 20 := by decide +kernel
theorem d12_worst_20 : zd cX12_worst 20 (.aload_n 0) 1 21 := by decide +kernel
theorem d12_worst_21 : zd cX12_worst 21 (.getfield 16) 3 24 := by decide +kernel
theorem d12_worst_24 : zj cX12_worst 24 (.if_icmp .ge 44) 44 27 68 := by decide +kernel
theorem d12_worst_27 : zd cX12_worst 27 (.aload_n 0) 1 28 := by decide +kernel
theorem d12_worst_28 : zd cX12_worst 28 (.iload 4) 2 30 := by decide +kernel
theorem d12_worst_30 : zd cX12_worst 30 (.invokevirtual 526) 3 33 := by decide +kernel
theorem d12_worst_33 : zj cX12_worst 33 (.ifCond .ne 6) 6 36 39 := by decide +kernel
theorem d12_worst_36 : zj cX12_worst 36 (.goto 26) 26 39 62 := by decide +kernel
theorem d12_worst_39 : zd cX12_worst 39 (.aload_n 0) 1 40 := by decide +kernel
theorem d12_worst_40 : zd cX12_worst 40 (.iload 4) 2 42 := by decide +kernel
theorem d12_worst_42 : zd cX12_worst 42 (.invokevirtual 529) 3 45 := by decide +kernel
theorem d12_worst_45 : zd cX12_worst 45 (.istore 5) 2 47 := by decide +kernel
theorem d12_worst_47 : zd cX12_worst 47 (.iload 5) 2 49 := by decide +kernel
theorem d12_worst_49 : zd cX12_worst 49 (.iload_n 3) 1 50 := by decide +kernel
theorem d12_worst_50 : zj cX12_worst 50 (.if_icmp .gt 6) 6 53 56 := by decide +kernel
theorem d12_worst_53 : zj cX12_worst 53 (.goto 9) 9 56 62 := by decide +kernel
theorem d12_worst_56 : zd cX12_worst 56 (.iload 5) 2 58 := by decide +kernel
theorem d12_worst_58 : zd cX12_worst 58 (.istore_n 3) 1 59 := by decide +kernel
theorem d12_worst_59 : zd cX12_worst 59 (.iload 4) 2 61 := by decide +kernel
theorem d12_worst_61 : zd cX12_worst 61 (.istore_n 2) 1 62 := by decide +kernel
theorem d12_worst_62 : zd cX12_worst 62 (.iinc 4 1) 3 65 := by decide +kernel
theorem d12_worst_65 : zj cX12_worst 65 (.goto (-47)) (-47) 68 18 := by decide +kernel
theorem d12_worst_68 : zd cX12_worst 68 (.iload_n 1) 1 69 := by decide +kernel
theorem d12_worst_69 : zj cX12_worst 69 (.ifCond .ne 7) 7 72 76 := by decide +kernel
theorem d12_worst_72 : zd cX12_worst 72 (.iload_n 2) 1 73 := by decide +kernel
theorem d12_worst_73 : zj cX12_worst 73 (.goto 15) 15 76 88 := by decide +kernel
theorem d12_worst_76 : zd cX12_worst 76 (.iload_n 3) 1 77 := by decide +kernel
theorem d12_worst_77 : zd cX12_worst 77 (.sipush 320) 3 80 := by decide +kernel
theorem d12_worst_80 : zj cX12_worst 80 (.if_icmp .le 7) 7 83 87 := by decide +kernel
theorem d12_worst_83 : zd cX12_worst 83 (.iconst (-1)) 1 84 := by decide +kernel
theorem d12_worst_84 : zj cX12_worst 84 (.goto 4) 4 87 88 := by decide +kernel
theorem d12_worst_87 : zd cX12_worst 87 (.iload_n 3) 1 88 := by decide +kernel
theorem d12_worst_88 : zd cX12_worst 88 (.ireturn) 1 89 := by decide +kernel
set_option maxHeartbeats 4000000 in
set_option maxRecDepth 20000 in
theorem c12_worst (l : Launch) (D : zDt) (Sh : zSh) (top : Nat) (hO : zOK Sh) (o_ : Nat) (v_what : Int32) (μ : zM) (r_ : Int32) (μ_ : zM) (ho : (Sh o_).1 = 19) (h : f12_worst o_ v_what μ = some (r_, μ_)) : zMet l D zK1 yX12_worst cX12_worst 6 (some .int) (zrm 12 276) [.ref o_, .int v_what] Sh top μ (some (.int r_)) Sh top μ_ 0 0 := by
  refine zMet_of (by decide) (Nat.le_of_ble_eq_true rfl) fun X hX1 hX2 fx fin => ?_
  subst hX1; subst hX2
  replace fx : zFix X cX12_worst RX12 (zrm 12 276) 6 := fx
  show zZ zK1 X (zT0 Sh top) μ 0 [(0, .ref o_), (1, .int v_what)] []
  unfold f12_worst at h
  refine z_iload_n fx (k := 1) (i := 1) rfl rfl d12_worst_0 ?_
  refine z_iconst fx (v := 0) ic0 d12_worst_1 ?_
  refine z_iconst fx (v := 1) ic1 d12_worst_2 ?_
  obtain ⟨t1, e1, h⟩ := zinv h
  refine z_cSr fx (c12_isIn (zLo X) (zDo X) Sh top hO v_what 0 1 μ _  e1) ms12_isIn ml12_250 rfl rfl rfl rfl d12_worst_3 ?_
  refine z_ifb_ne fx d12_worst_6 (fun c2 => ?_) (fun c2 => ?_)
  · replace h := zif_t c2 h
    refine z_iconst fx (v := (-1)) icm1 d12_worst_11 ?_
    refine z_istore_n fx (k := 2) (i := 2) rfl rfl (lv' := [(0, .ref o_), (1, .int v_what), (2, .int (-1))]) rfl rfl d12_worst_12 ?_
    refine z_iconst fx (v := (-1)) icm1 d12_worst_13 ?_
    refine z_istore_n fx (k := 3) (i := 3) rfl rfl (lv' := [(0, .ref o_), (1, .int v_what), (2, .int (-1)), (3, .int (-1))]) rfl rfl d12_worst_14 ?_
    refine z_iconst fx (v := 0) ic0 d12_worst_15 ?_
    refine z_istore fx (i := 4) rfl (lv' := [(0, .ref o_), (1, .int v_what), (2, .int (-1)), (3, .int (-1)), (4, .int 0)]) rfl rfl d12_worst_16 ?_
    obtain ⟨v_best_6, v_most_7, v_l_8, μ9, e22, h⟩ := zinv4 h
    have kx6 : zZ zK1 X (zT0 Sh top) μ9 68 [(0, .ref o_), (1, .int v_what), (2, .int v_best_6), (3, .int v_most_7), (4, .int v_l_8)] [] := by
      refine z_take 4 (lv' := [(0, .ref o_), (1, .int v_what), (2, .int v_best_6), (3, .int v_most_7)]) rfl ?_
      obtain ⟨x16, e16, h⟩ := zinv h
      have k17 : zZ zK1 X (zT0 Sh top) μ9 88 [(0, .ref o_), (1, .int v_what), (2, .int v_best_6), (3, .int v_most_7)] [.int x16] := by
        cases h
        exact z_ireturn fx fin d12_worst_88
      refine z_iload_n fx (k := 1) (i := 1) rfl rfl d12_worst_68 ?_
      refine z_if_ne fx d12_worst_69 (fun c18 => ?_) (fun c18 => ?_)
      · replace e16 := zif_f c18 e16
        obtain ⟨x17, e19, e16⟩ := zinv e16
        have k20 : zZ zK1 X (zT0 Sh top) μ9 88 [(0, .ref o_), (1, .int v_what), (2, .int v_best_6), (3, .int v_most_7)] [.int x17] := by
          cases e16
          exact k17
        refine z_iload_n fx (k := 3) (i := 3) rfl rfl d12_worst_76 ?_
        refine z_sipush fx (v := 320) sp320 d12_worst_77 ?_
        refine z_icmp_le fx d12_worst_80 (fun c21 => ?_) (fun c21 => ?_)
        · replace e19 := zif_f c21 e19
          refine z_iload_n fx (k := 3) (i := 3) rfl rfl d12_worst_87 ?_
          cases e19
          exact k20
        · replace e19 := zif_t c21 e19
          refine z_iconst fx (v := (-1)) icm1 d12_worst_83 ?_
          cases e19
          refine z_goto fx d12_worst_84 ?_
          exact k20
      · replace e16 := zif_t c18 e16
        refine z_iload_n fx (k := 2) (i := 2) rfl rfl d12_worst_72 ?_
        cases e16
        refine z_goto fx d12_worst_73 ?_
        exact k17
    clear h
    have klr5 : ∀ (n : Nat) (v_best_2 : Int32) (v_most_3 : Int32) (v_l_4 : Int32) (μ5 : zM), zloop (fun s => f12_worst_L1 o_ s.1 s.2.1 s.2.2.1 s.2.2.2) n (v_best_2, v_most_3, v_l_4, μ5) = some (v_best_6, v_most_7, v_l_8, μ9) → zZ zK1 X (zT0 Sh top) μ5 18 [(0, .ref o_), (1, .int v_what), (2, .int v_best_2), (3, .int v_most_3), (4, .int v_l_4)] [] := by
      intro n
      induction n with
      | zero => intro v_best_2 v_most_3 v_l_4 μ5 hl4; cases hl4
      | succ n ih7 =>
        intro v_best_2 v_most_3 v_l_4 μ5 hl4
        obtain ⟨y, e3, hl4⟩ := zloop_inv hl4
        replace e3 : f12_worst_L1 o_ v_best_2 v_most_3 v_l_4 μ5 = some y := e3
        unfold f12_worst_L1 at e3
        refine z_iload fx (i := 4) rfl d12_worst_18 ?_
        refine z_aload_n fx (k := 0) (i := 0) rfl rfl d12_worst_20 ?_
        refine z_getI fx 12 2 1202 ho lf12_16 ⟨fk12_2, rfl⟩ d12_worst_21 ?_
        refine z_icmp_ge fx d12_worst_24 (fun c8 => ?_) (fun c8 => ?_)
        · replace e3 := zif_f c8 e3
          cases e3
          cases hl4
          exact kx6
        · replace e3 := zif_t c8 e3
          refine z_aload_n fx (k := 0) (i := 0) rfl rfl d12_worst_27 ?_
          refine z_iload fx (i := 4) rfl d12_worst_28 ?_
          obtain ⟨t10, e9, e3⟩ := zinv e3
          refine z_cVr fx (c12_isWhole (zLo X) (zDo X) Sh top hO o_ v_l_4 μ5 _ ho e9) mv12_isWhole ml12_526 ho rfl rfl rfl rfl d12_worst_30 ?_
          refine z_ifb_ne fx d12_worst_33 (fun c10 => ?_) (fun c10 => ?_)
          · replace e3 := zif_t c10 e3
            refine z_aload_n fx (k := 0) (i := 0) rfl rfl d12_worst_39 ?_
            refine z_iload fx (i := 4) rfl d12_worst_40 ?_
            obtain ⟨t11, μ12, e11, e3⟩ := zinv2 e3
            refine z_cVr fx (c12_healsIn (zLo X) (zDo X) Sh top hO o_ v_l_4 μ5 _ _ ho e11) mv12_healsIn ml12_529 ho rfl rfl rfl rfl d12_worst_42 ?_
            refine z_istore fx (i := 5) rfl (lv' := [(0, .ref o_), (1, .int v_what), (2, .int v_best_2), (3, .int v_most_3), (4, .int v_l_4), (5, .int t11)]) rfl rfl d12_worst_45 ?_
            refine z_iload fx (i := 5) rfl d12_worst_47 ?_
            refine z_iload_n fx (k := 3) (i := 3) rfl rfl d12_worst_49 ?_
            refine z_icmp_gt fx d12_worst_50 (fun c12 => ?_) (fun c12 => ?_)
            · replace e3 := zif_t c12 e3
              refine z_iload fx (i := 5) rfl d12_worst_56 ?_
              refine z_istore_n fx (k := 3) (i := 3) rfl rfl (lv' := [(0, .ref o_), (1, .int v_what), (2, .int v_best_2), (3, .int t11), (4, .int v_l_4), (5, .int t11)]) rfl rfl d12_worst_58 ?_
              refine z_iload fx (i := 4) rfl d12_worst_59 ?_
              refine z_istore_n fx (k := 2) (i := 2) rfl rfl (lv' := [(0, .ref o_), (1, .int v_what), (2, .int v_l_4), (3, .int t11), (4, .int v_l_4), (5, .int t11)]) rfl rfl d12_worst_61 ?_
              refine z_take 5 (lv' := [(0, .ref o_), (1, .int v_what), (2, .int v_l_4), (3, .int t11), (4, .int v_l_4)]) rfl ?_
              obtain ⟨v_l_13, e13, e3⟩ := zinv e3
              replace e13 := Option.some.inj e13
              refine z_iinc fx (i := 4) (x := v_l_4) (v := v_l_13) rfl (by rw [in1]; exact e13) rfl (lv' := [(0, .ref o_), (1, .int v_what), (2, .int v_l_4), (3, .int t11), (4, .int v_l_13)]) rfl rfl d12_worst_62 ?_
              cases e3
              refine z_goto fx d12_worst_65 ?_
              exact ih7 _ _ _ _ hl4
            · replace e3 := zif_f c12 e3
              refine z_take 5 (lv' := [(0, .ref o_), (1, .int v_what), (2, .int v_best_2), (3, .int v_most_3), (4, .int v_l_4)]) rfl ?_
              refine z_goto fx d12_worst_53 ?_
              obtain ⟨v_l_14, e14, e3⟩ := zinv e3
              replace e14 := Option.some.inj e14
              refine z_iinc fx (i := 4) (x := v_l_4) (v := v_l_14) rfl (by rw [in1]; exact e14) rfl (lv' := [(0, .ref o_), (1, .int v_what), (2, .int v_best_2), (3, .int v_most_3), (4, .int v_l_14)]) rfl rfl d12_worst_62 ?_
              cases e3
              refine z_goto fx d12_worst_65 ?_
              exact ih7 _ _ _ _ hl4
          · replace e3 := zif_f c10 e3
            refine z_goto fx d12_worst_36 ?_
            obtain ⟨v_l_15, e15, e3⟩ := zinv e3
            replace e15 := Option.some.inj e15
            refine z_iinc fx (i := 4) (x := v_l_4) (v := v_l_15) rfl (by rw [in1]; exact e15) rfl (lv' := [(0, .ref o_), (1, .int v_what), (2, .int v_best_2), (3, .int v_most_3), (4, .int v_l_15)]) rfl rfl d12_worst_62 ?_
            cases e3
            refine z_goto fx d12_worst_65 ?_
            exact ih7 _ _ _ _ hl4
    exact klr5 _ _ _ _ _ e22
  · replace h := zif_f c2 h
    refine z_iconst fx (v := (-1)) icm1 d12_worst_9 ?_
    cases h
    exact z_ireturn fx fin d12_worst_10
theorem d12_see_0 : zd cX12_see 0 (.aload_n 0) 1 1 := by decide +kernel
theorem d12_see_1 : zd cX12_see 1 (.invokevirtual 295) 3 4 := by decide +kernel
theorem d12_see_4 : zd cX12_see 4 (.istore_n 2) 1 5 := by decide +kernel
theorem d12_see_5 : zd cX12_see 5 (.aload_n 0) 1 6 := by decide +kernel
theorem d12_see_6 : zd cX12_see 6 (.getfield 150) 3 9 := by decide +kernel
theorem d12_see_9 : zj cX12_see 9 (.ifCond .eq 33) 33 12 42 := by decide +kernel
theorem d12_see_12 : zd cX12_see 12 (.iload_n 1) 1 13 := by decide +kernel
theorem d12_see_13 : zd cX12_see 13 (.iconst 0) 1 14 := by decide +kernel
theorem d12_see_14 : zd cX12_see 14 (.bipush 80) 2 16 := by decide +kernel
theorem d12_see_16 : zd cX12_see 16 (.invokestatic 250) 3 19 := by decide +kernel
theorem d12_see_19 : zj cX12_see 19 (.ifCond .eq 23) 23 22 42 := by decide +kernel
theorem d12_see_22 : zd cX12_see 22 (.iload_n 2) 1 23 := by decide +kernel
theorem d12_see_23 : zj cX12_see 23 (.ifCond .le 19) 19 26 42 := by decide +kernel
theorem d12_see_26 : zd cX12_see 26 (.iload_n 2) 1 27 := by decide +kernel
theorem d12_see_27 : zd cX12_see 27 (.iconst 3) 1 28 := by decide +kernel
theorem d12_see_28 : zd cX12_see 28 (.irem) 1 29 := by decide +kernel
theorem d12_see_29 : zj cX12_see 29 (.ifCond .ne 13) 13 32 42 := by decide +kernel
theorem d12_see_32 : zd cX12_see 32 (.iload_n 2) 1 33 := by decide +kernel
theorem d12_see_33 : zd cX12_see 33 (.bipush 48) 2 35 := by decide +kernel
theorem d12_see_35 : zj cX12_see 35 (.if_icmp .gt 7) 7 38 42 := by decide +kernel
theorem d12_see_38 : zd cX12_see 38 (.iconst 1) 1 39 := by decide +kernel
theorem d12_see_39 : zj cX12_see 39 (.goto 4) 4 42 43 := by decide +kernel
theorem d12_see_42 : zd cX12_see 42 (.iconst 0) 1 43 := by decide +kernel
theorem d12_see_43 : zd cX12_see 43 (.istore_n 3) 1 44 := by decide +kernel
theorem d12_see_44 : zd cX12_see 44 (.iconst 0) 1 45 := by decide +kernel
theorem d12_see_45 : zd cX12_see 45 (.istore 4) 2 47 := by decide +kernel
theorem d12_see_47 : zd cX12_see 47 (.iload_n 3) 1 48 := by decide +kernel
theorem d12_see_48 : zj cX12_see 48 (.ifCond .eq 57) 57 51 105 := by decide +kernel
theorem d12_see_51 : zd cX12_see 51 (.iload 4) 2 53 := by decide +kernel
theorem d12_see_53 : zd cX12_see 53 (.iload_n 2) 1 54 := by decide +kernel
theorem d12_see_54 : zj cX12_see 54 (.if_icmp .ge 51) 51 57 105 := by decide +kernel
theorem d12_see_57 : zd cX12_see 57 (.aload_n 0) 1 58 := by decide +kernel
theorem d12_see_58 : zd cX12_see 58 (.aload_n 0) 1 59 := by decide +kernel
theorem d12_see_59 : zd cX12_see 59 (.getfield 104) 3 62 := by decide +kernel
theorem d12_see_62 : zd cX12_see 62 (.iload 4) 2 64 := by decide +kernel
theorem d12_see_64 : zd cX12_see 64 (.iaload) 1 65 := by decide +kernel
theorem d12_see_65 : zd cX12_see 65 (.aload_n 0) 1 66 := by decide +kernel
theorem d12_see_66 : zd cX12_see 66 (.getfield 104) 3 69 := by decide +kernel
theorem d12_see_69 : zd cX12_see 69 (.iload 4) 2 71 := by decide +kernel
theorem d12_see_71 : zd cX12_see 71 (.iconst 1) 1 72 := by decide +kernel
theorem d12_see_72 : zd cX12_see 72 (.iadd) 1 73 := by decide +kernel
theorem d12_see_73 : zd cX12_see 73 (.iaload) 1 74 := by decide +kernel
theorem d12_see_74 : zd cX12_see 74 (.invokevirtual 477) 3 77 := by decide +kernel
theorem d12_see_77 : zj cX12_see 77 (.ifCond .eq 20) 20 80 97 := by decide +kernel
theorem d12_see_80 : zd cX12_see 80 (.aload_n 0) 1 81 := by decide +kernel
theorem d12_see_81 : zd cX12_see 81 (.getfield 104) 3 84 := by decide +kernel
theorem d12_see_84 : zd cX12_see 84 (.iload 4) 2 86 := by decide +kernel
theorem d12_see_86 : zd cX12_see 86 (.iconst 2) 1 87 := by decide +kernel
theorem d12_see_87 : zd cX12_see 87 (.iadd) 1 88 := by decide +kernel
theorem d12_see_88 : zd cX12_see 88 (.iaload) 1 89 := by decide +kernel
theorem d12_see_89 : zd cX12_see 89 (.iconst 4) 1 90 := by decide +kernel
theorem d12_see_90 : zj cX12_see 90 (.if_icmp .gt 7) 7 93 97 := by decide +kernel
theorem d12_see_93 : zd cX12_see 93 (.iconst 1) 1 94 := by decide +kernel
theorem d12_see_94 : zj cX12_see 94 (.goto 4) 4 97 98 := by decide +kernel
theorem d12_see_97 : zd cX12_see 97 (.iconst 0) 1 98 := by decide +kernel
theorem d12_see_98 : zd cX12_see 98 (.istore_n 3) 1 99 := by decide +kernel
theorem d12_see_99 : zd cX12_see 99 (.iinc 4 3) 3 102 := by decide +kernel
theorem d12_see_102 : zj cX12_see 102 (.goto (-55)) (-55) 105 47 := by decide +kernel
theorem d12_see_105 : zd cX12_see 105 (.iload_n 3) 1 106 := by decide +kernel
theorem d12_see_106 : zj cX12_see 106 (.ifCond .ne 9) 9 109 115 := by decide +kernel
theorem d12_see_109 : zd cX12_see 109 (.aload_n 0) 1 110 := by decide +kernel
theorem d12_see_110 : zd cX12_see 110 (.iconst 5) 1 111 := by decide +kernel
theorem d12_see_111 : zd cX12_see 111 (.invokevirtual 214) 3 114 := by decide +kernel
theorem d12_see_114 : zd cX12_see 114 (.ireturn) 1 115 := by decide +kernel
theorem d12_see_115 : zd cX12_see 115 (.aload_n 0) 1 116 := by decide +kernel
theorem d12_see_116 : zd cX12_see 116 (.iload_n 2) 1 117 := by decide +kernel
theorem d12_see_117 : zd cX12_see 117 (.iconst 3) 1 118 := by decide +kernel
theorem d12_see_118 : zd cX12_see 118 (.idiv) 1 119 := by decide +kernel
theorem d12_see_119 : zd cX12_see 119 (.putfield 169) 3 122 := by decide +kernel
theorem d12_see_122 : zd cX12_see 122 (.aload_n 0) 1 123 := by decide +kernel
theorem d12_see_123 : zd cX12_see 123 (.iload_n 1) 1 124 := by decide +kernel
theorem d12_see_124 : zd cX12_see 124 (.putfield 172) 3 127 := by decide +kernel
theorem d12_see_127 : zd cX12_see 127 (.iconst 0) 1 128 := by decide +kernel
theorem d12_see_128 : zd cX12_see 128 (.istore 4) 2 130 := by decide +kernel
theorem d12_see_130 : zd cX12_see 130 (.iload 4) 2 132 := by decide +kernel
theorem d12_see_132 : zd cX12_see 132 (.aload_n 0) 1 133 := by decide +kernel
theorem d12_see_133 : zd cX12_see 133 (.getfield 169) 3 136 := by decide +kernel
theorem d12_see_136 : zj cX12_see 136 (.if_icmp .ge 57) 57 139 193 := by decide +kernel
theorem d12_see_139 : zd cX12_see 139 (.aload_n 0) 1 140 := by decide +kernel
theorem d12_see_140 : zd cX12_see 140 (.getfield 175) 3 143 := by decide +kernel
theorem d12_see_143 : zd cX12_see 143 (.iload 4) 2 145 := by decide +kernel
theorem d12_see_145 : zd cX12_see 145 (.aload_n 0) 1 146 := by decide +kernel
theorem d12_see_146 : zd cX12_see 146 (.getfield 104) 3 149 := by decide +kernel
theorem d12_see_149 : zd cX12_see 149 (.iconst 3) 1 150 := by decide +kernel
theorem d12_see_150 : zd cX12_see 150 (.iload 4) 2 152 := by decide +kernel
theorem d12_see_152 : zd cX12_see 152 (.imul) 1 153 := by decide +kernel
theorem d12_see_153 : zd cX12_see 153 (.iaload) 1 154 := by decide +kernel
theorem d12_see_154 : zd cX12_see 154 (.aload_n 0) 1 155 := by decide +kernel
theorem d12_see_155 : zd cX12_see 155 (.getfield 104) 3 158 := by decide +kernel
theorem d12_see_158 : zd cX12_see 158 (.iconst 3) 1 159 := by decide +kernel
theorem d12_see_159 : zd cX12_see 159 (.iload 4) 2 161 := by decide +kernel
theorem d12_see_161 : zd cX12_see 161 (.imul) 1 162 := by decide +kernel
theorem d12_see_162 : zd cX12_see 162 (.iconst 1) 1 163 := by decide +kernel
theorem d12_see_163 : zd cX12_see 163 (.iadd) 1 164 := by decide +kernel
theorem d12_see_164 : zd cX12_see 164 (.iaload) 1 165 := by decide +kernel
theorem d12_see_165 : zd cX12_see 165 (.invokestatic 325) 3 168 := by decide +kernel
theorem d12_see_168 : zd cX12_see 168 (.iastore) 1 169 := by decide +kernel
theorem d12_see_169 : zd cX12_see 169 (.aload_n 0) 1 170 := by decide +kernel
theorem d12_see_170 : zd cX12_see 170 (.getfield 178) 3 173 := by decide +kernel
theorem d12_see_173 : zd cX12_see 173 (.iload 4) 2 175 := by decide +kernel
theorem d12_see_175 : zd cX12_see 175 (.aload_n 0) 1 176 := by decide +kernel
theorem d12_see_176 : zd cX12_see 176 (.getfield 104) 3 179 := by decide +kernel
theorem d12_see_179 : zd cX12_see 179 (.iconst 3) 1 180 := by decide +kernel
theorem d12_see_180 : zd cX12_see 180 (.iload 4) 2 182 := by decide +kernel
theorem d12_see_182 : zd cX12_see 182 (.imul) 1 183 := by decide +kernel
theorem d12_see_183 : zd cX12_see 183 (.iconst 2) 1 184 := by decide +kernel
theorem d12_see_184 : zd cX12_see 184 (.iadd) 1 185 := by decide +kernel
theorem d12_see_185 : zd cX12_see 185 (.iaload) 1 186 := by decide +kernel
theorem d12_see_186 : zd cX12_see 186 (.iastore) 1 187 := by decide +kernel
theorem d12_see_187 : zd cX12_see 187 (.iinc 4 1) 3 190 := by decide +kernel
theorem d12_see_190 : zj cX12_see 190 (.goto (-60)) (-60) 193 130 := by decide +kernel
theorem d12_see_193 : zd cX12_see 193 (.aload_n 0) 1 194 := by decide +kernel
theorem d12_see_194 : zd cX12_see 194 (.getfield 169) 3 197 := by decide +kernel
theorem d12_see_197 : zd cX12_see 197 (.ireturn) 1 198 := by decide +kernel
set_option maxHeartbeats 4000000 in
set_option maxRecDepth 20000 in
theorem c12_see (l : Launch) (D : zDt) (Sh : zSh) (top : Nat) (hO : zOK Sh) (o_ : Nat) (v_n : Int32) (μ : zM) (r_ : Int32) (μ_ : zM) (ho : (Sh o_).1 = 19) (h : f12_see o_ v_n μ = some (r_, μ_)) : zMet l D zK1 yX12_see cX12_see 5 (some .int) (zrm 3 65) [.ref o_, .int v_n] Sh top μ (some (.int r_)) Sh top μ_ 0 0 := by
  refine zMet_of (by decide) (Nat.le_of_ble_eq_true rfl) fun X hX1 hX2 fx fin => ?_
  subst hX1; subst hX2
  replace fx : zFix X cX12_see RX12 (zrm 3 65) 5 := fx
  show zZ zK1 X (zT0 Sh top) μ 0 [(0, .ref o_), (1, .int v_n)] []
  unfold f12_see at h
  refine z_aload_n fx (k := 0) (i := 0) rfl rfl d12_see_0 ?_
  obtain ⟨t1, μ2, e1, h⟩ := zinv2 h
  refine z_cVr fx (c12_taken (zLo X) (zDo X) Sh top hO o_ μ _ _ ho e1) mv12_taken ml12_295 ho rfl rfl rfl rfl d12_see_1 ?_
  refine z_istore_n fx (k := 2) (i := 2) rfl rfl (lv' := [(0, .ref o_), (1, .int v_n), (2, .int t1)]) rfl rfl d12_see_4 ?_
  obtain ⟨b3, e2, h⟩ := zinv h
  have k3 : zZ zK1 X (zT0 Sh top) μ2 43 [(0, .ref o_), (1, .int v_n), (2, .int t1)] [.int (bI b3)] := by
    refine z_istore_n fx (k := 3) (i := 3) rfl rfl (lv' := [(0, .ref o_), (1, .int v_n), (2, .int t1), (3, .int (bI b3))]) rfl rfl d12_see_43 ?_
    refine z_iconst fx (v := 0) ic0 d12_see_44 ?_
    refine z_istore fx (i := 4) rfl (lv' := [(0, .ref o_), (1, .int v_n), (2, .int t1), (3, .int (bI b3)), (4, .int 0)]) rfl rfl d12_see_45 ?_
    obtain ⟨v_can_11, v_k_12, e57, h⟩ := zinv2 h
    have kx21 : zZ zK1 X (zT0 Sh top) μ2 105 [(0, .ref o_), (1, .int v_n), (2, .int t1), (3, .int (bI v_can_11)), (4, .int v_k_12)] [] := by
      refine z_take 4 (lv' := [(0, .ref o_), (1, .int v_n), (2, .int t1), (3, .int (bI v_can_11))]) rfl ?_
      refine z_iload_n fx (k := 3) (i := 3) rfl rfl d12_see_105 ?_
      refine z_ifb_ne fx d12_see_106 (fun c38 => ?_) (fun c38 => ?_)
      · replace h := zif_t c38 h
        refine z_aload_n fx (k := 0) (i := 0) rfl rfl d12_see_115 ?_
        refine z_iload_n fx (k := 2) (i := 2) rfl rfl d12_see_116 ?_
        refine z_iconst fx (v := 3) ic3 d12_see_117 ?_
        obtain ⟨t20, e39, h⟩ := zinv h
        refine z_idiv fx e39 d12_see_118 ?_
        obtain ⟨μ21, e40, h⟩ := zinv h
        refine z_putI fx (ci := 12) 52 ho lf12_169 fp12_52 e40 d12_see_119 ?_
        refine z_aload_n fx (k := 0) (i := 0) rfl rfl d12_see_122 ?_
        refine z_iload_n fx (k := 1) (i := 1) rfl rfl d12_see_123 ?_
        obtain ⟨μ22, e41, h⟩ := zinv h
        refine z_putI fx (ci := 12) 53 ho lf12_172 fp12_53 e41 d12_see_124 ?_
        refine z_iconst fx (v := 0) ic0 d12_see_127 ?_
        refine z_istore fx (i := 4) rfl (lv' := [(0, .ref o_), (1, .int v_n), (2, .int t1), (3, .int (bI v_can_11)), (4, .int 0)]) rfl rfl d12_see_128 ?_
        obtain ⟨v_k_25, μ26, e55, h⟩ := zinv2 h
        have kx45 : zZ zK1 X (zT0 Sh top) μ26 193 [(0, .ref o_), (1, .int v_n), (2, .int t1), (3, .int (bI v_can_11)), (4, .int v_k_25)] [] := by
          refine z_take 4 (lv' := [(0, .ref o_), (1, .int v_n), (2, .int t1), (3, .int (bI v_can_11))]) rfl ?_
          refine z_aload_n fx (k := 0) (i := 0) rfl rfl d12_see_193 ?_
          refine z_getI fx 12 52 1252 ho lf12_169 ⟨fk12_52, rfl⟩ d12_see_194 ?_
          cases h
          exact z_ireturn fx fin d12_see_197
        clear h
        have klr44 : ∀ (n : Nat) (v_k_23 : Int32) (μ24 : zM), zloop (fun s => f12_see_L2 o_ s.1 s.2) n (v_k_23, μ24) = some (v_k_25, μ26) → zZ zK1 X (zT0 Sh top) μ24 130 [(0, .ref o_), (1, .int v_n), (2, .int t1), (3, .int (bI v_can_11)), (4, .int v_k_23)] [] := by
          intro n
          induction n with
          | zero => intro v_k_23 μ24 hl43; cases hl43
          | succ n ih46 =>
            intro v_k_23 μ24 hl43
            obtain ⟨y, e42, hl43⟩ := zloop_inv hl43
            replace e42 : f12_see_L2 o_ v_k_23 μ24 = some y := e42
            unfold f12_see_L2 at e42
            refine z_iload fx (i := 4) rfl d12_see_130 ?_
            refine z_aload_n fx (k := 0) (i := 0) rfl rfl d12_see_132 ?_
            refine z_getI fx 12 52 1252 ho lf12_169 ⟨fk12_52, rfl⟩ d12_see_133 ?_
            refine z_icmp_ge fx d12_see_136 (fun c47 => ?_) (fun c47 => ?_)
            · replace e42 := zif_f c47 e42
              cases e42
              cases hl43
              exact kx45
            · replace e42 := zif_t c47 e42
              refine z_aload_n fx (k := 0) (i := 0) rfl rfl d12_see_139 ?_
              refine z_getO fx 12 54 31 ho lf12_175 fk12_54 d12_see_140 ?_
              refine z_iload fx (i := 4) rfl d12_see_143 ?_
              refine z_aload_n fx (k := 0) (i := 0) rfl rfl d12_see_145 ?_
              refine z_getO fx 12 31 21 ho lf12_104 fk12_31 d12_see_146 ?_
              refine z_iconst fx (v := 3) ic3 d12_see_149 ?_
              refine z_iload fx (i := 4) rfl d12_see_150 ?_
              refine z_imul fx d12_see_152 ?_
              obtain ⟨t27, e48, e42⟩ := zinv e42
              refine z_iald fx (ok12_31 hO ho) e48 d12_see_153 ?_
              refine z_aload_n fx (k := 0) (i := 0) rfl rfl d12_see_154 ?_
              refine z_getO fx 12 31 21 ho lf12_104 fk12_31 d12_see_155 ?_
              refine z_iconst fx (v := 3) ic3 d12_see_158 ?_
              refine z_iload fx (i := 4) rfl d12_see_159 ?_
              refine z_imul fx d12_see_161 ?_
              refine z_iconst fx (v := 1) ic1 d12_see_162 ?_
              refine z_iadd fx d12_see_163 ?_
              obtain ⟨t28, e49, e42⟩ := zinv e42
              refine z_iald fx (ok12_31 hO ho) e49 d12_see_164 ?_
              obtain ⟨t29, e50, e42⟩ := zinv e42
              refine z_cSr fx (c12_placeOf (zLo X) (zDo X) Sh top hO t27 t28 μ24 _  e50) ms12_placeOf ml12_325 rfl rfl rfl rfl d12_see_165 ?_
              obtain ⟨μ30, e51, e42⟩ := zinv e42
              refine z_iast fx (ok12_54 hO ho) e51 d12_see_168 ?_
              refine z_aload_n fx (k := 0) (i := 0) rfl rfl d12_see_169 ?_
              refine z_getO fx 12 55 32 ho lf12_178 fk12_55 d12_see_170 ?_
              refine z_iload fx (i := 4) rfl d12_see_173 ?_
              refine z_aload_n fx (k := 0) (i := 0) rfl rfl d12_see_175 ?_
              refine z_getO fx 12 31 21 ho lf12_104 fk12_31 d12_see_176 ?_
              refine z_iconst fx (v := 3) ic3 d12_see_179 ?_
              refine z_iload fx (i := 4) rfl d12_see_180 ?_
              refine z_imul fx d12_see_182 ?_
              refine z_iconst fx (v := 2) ic2 d12_see_183 ?_
              refine z_iadd fx d12_see_184 ?_
              obtain ⟨t31, e52, e42⟩ := zinv e42
              refine z_iald fx (ok12_31 hO ho) e52 d12_see_185 ?_
              obtain ⟨μ32, e53, e42⟩ := zinv e42
              refine z_iast fx (ok12_55 hO ho) e53 d12_see_186 ?_
              obtain ⟨v_k_33, e54, e42⟩ := zinv e42
              replace e54 := Option.some.inj e54
              refine z_iinc fx (i := 4) (x := v_k_23) (v := v_k_33) rfl (by rw [in1]; exact e54) rfl (lv' := [(0, .ref o_), (1, .int v_n), (2, .int t1), (3, .int (bI v_can_11)), (4, .int v_k_33)]) rfl rfl d12_see_187 ?_
              cases e42
              refine z_goto fx d12_see_190 ?_
              exact ih46 _ _ hl43
        exact klr44 _ _ _ e55
      · replace h := zif_f c38 h
        refine z_aload_n fx (k := 0) (i := 0) rfl rfl d12_see_109 ?_
        refine z_iconst fx (v := 5) ic5 d12_see_110 ?_
        obtain ⟨t34, μ35, e56, h⟩ := zinv2 h
        refine z_cVr fx (c12_refuses (zLo X) (zDo X) Sh top hO o_ 5 μ2 _ _ ho e56) mv12_refuses ml12_214 ho rfl rfl rfl rfl d12_see_111 ?_
        cases h
        exact z_ireturn fx fin d12_see_114
    clear h
    have klr20 : ∀ (n : Nat) (v_can_9 : Bool) (v_k_10 : Int32), zloop (fun s => f12_see_L1 o_ t1 μ2 s.1 s.2) n (v_can_9, v_k_10) = some (v_can_11, v_k_12) → zZ zK1 X (zT0 Sh top) μ2 47 [(0, .ref o_), (1, .int v_n), (2, .int t1), (3, .int (bI v_can_9)), (4, .int v_k_10)] [] := by
      intro n
      induction n with
      | zero => intro v_can_9 v_k_10 hl19; cases hl19
      | succ n ih22 =>
        intro v_can_9 v_k_10 hl19
        obtain ⟨y, e18, hl19⟩ := zloop_inv hl19
        replace e18 : f12_see_L1 o_ t1 μ2 v_can_9 v_k_10 = some y := e18
        unfold f12_see_L1 at e18
        have kt23 : (v_can_9 && (clt v_k_10 t1)) = true → zZ zK1 X (zT0 Sh top) μ2 57 [(0, .ref o_), (1, .int v_n), (2, .int t1), (3, .int (bI v_can_9)), (4, .int v_k_10)] [] := by
          intro hc
          replace e18 := zif_t hc e18
          obtain ⟨b13, e24, e18⟩ := zinv e18
          have k25 : zZ zK1 X (zT0 Sh top) μ2 98 [(0, .ref o_), (1, .int v_n), (2, .int t1), (3, .int (bI v_can_9)), (4, .int v_k_10)] [.int (bI b13)] := by
            refine z_istore_n fx (k := 3) (i := 3) rfl rfl (lv' := [(0, .ref o_), (1, .int v_n), (2, .int t1), (3, .int (bI b13)), (4, .int v_k_10)]) rfl rfl d12_see_98 ?_
            obtain ⟨v_k_19, e35, e18⟩ := zinv e18
            replace e35 := Option.some.inj e35
            refine z_iinc fx (i := 4) (x := v_k_10) (v := v_k_19) rfl (by rw [in3]; exact e35) rfl (lv' := [(0, .ref o_), (1, .int v_n), (2, .int t1), (3, .int (bI b13)), (4, .int v_k_19)]) rfl rfl d12_see_99 ?_
            cases e18
            refine z_goto fx d12_see_102 ?_
            exact ih22 _ _ hl19
          have kt26 : b13 = true → zZ zK1 X (zT0 Sh top) μ2 93 [(0, .ref o_), (1, .int v_n), (2, .int t1), (3, .int (bI v_can_9)), (4, .int v_k_10)] [] := by
            intro hc
            refine z_iconst fx (v := 1) ic1 d12_see_93 ?_
            refine z_goto fx d12_see_94 ?_
            exact z_top (congrArg Value.int (show 1 = bI b13 by rw [hc]; rfl)) k25
          have kf26 : b13 = false → zZ zK1 X (zT0 Sh top) μ2 97 [(0, .ref o_), (1, .int v_n), (2, .int t1), (3, .int (bI v_can_9)), (4, .int v_k_10)] [] := by
            intro hc
            refine z_iconst fx (v := 0) ic0 d12_see_97 ?_
            exact z_top (congrArg Value.int (show 0 = bI b13 by rw [hc]; rfl)) k25
          obtain ⟨b14, e27, e24⟩ := zinv e24
          have kt28 : b14 = true → zZ zK1 X (zT0 Sh top) μ2 80 [(0, .ref o_), (1, .int v_n), (2, .int t1), (3, .int (bI v_can_9)), (4, .int v_k_10)] [] := by
            intro hc
            replace e24 := zif_t hc e24
            refine z_aload_n fx (k := 0) (i := 0) rfl rfl d12_see_80 ?_
            refine z_getO fx 12 31 21 ho lf12_104 fk12_31 d12_see_81 ?_
            refine z_iload fx (i := 4) rfl d12_see_84 ?_
            refine z_iconst fx (v := 2) ic2 d12_see_86 ?_
            refine z_iadd fx d12_see_87 ?_
            obtain ⟨t15, e29, e24⟩ := zinv e24
            refine z_iald fx (ok12_31 hO ho) e29 d12_see_88 ?_
            refine z_iconst fx (v := 4) ic4 d12_see_89 ?_
            cases e24
            refine z_icmp_gt fx d12_see_90 (fun c30 => ?_) (fun c30 => ?_)
            · exact kf26 (by rw [c30]; rfl)
            · exact kt26 (by rw [c30]; rfl)
          have kf28 : b14 = false → zZ zK1 X (zT0 Sh top) μ2 97 [(0, .ref o_), (1, .int v_n), (2, .int t1), (3, .int (bI v_can_9)), (4, .int v_k_10)] [] := by
            intro hc
            replace e24 := zif_f hc e24
            cases e24
            exact kf26 rfl
          clear e24
          refine z_aload_n fx (k := 0) (i := 0) rfl rfl d12_see_57 ?_
          refine z_aload_n fx (k := 0) (i := 0) rfl rfl d12_see_58 ?_
          refine z_getO fx 12 31 21 ho lf12_104 fk12_31 d12_see_59 ?_
          refine z_iload fx (i := 4) rfl d12_see_62 ?_
          obtain ⟨t16, e31, e27⟩ := zinv e27
          refine z_iald fx (ok12_31 hO ho) e31 d12_see_64 ?_
          refine z_aload_n fx (k := 0) (i := 0) rfl rfl d12_see_65 ?_
          refine z_getO fx 12 31 21 ho lf12_104 fk12_31 d12_see_66 ?_
          refine z_iload fx (i := 4) rfl d12_see_69 ?_
          refine z_iconst fx (v := 1) ic1 d12_see_71 ?_
          refine z_iadd fx d12_see_72 ?_
          obtain ⟨t17, e32, e27⟩ := zinv e27
          refine z_iald fx (ok12_31 hO ho) e32 d12_see_73 ?_
          obtain ⟨t18, e33, e27⟩ := zinv e27
          refine z_cVr fx (c12_isPort (zLo X) (zDo X) Sh top hO o_ t16 t17 μ2 _ ho e33) mv12_isPort ml12_477 ho rfl rfl rfl rfl d12_see_74 ?_
          cases e27
          refine z_ifb_eq fx d12_see_77 (fun c34 => ?_) (fun c34 => ?_)
          · exact kf28 c34
          · exact kt28 c34
        have kf23 : (v_can_9 && (clt v_k_10 t1)) = false → zZ zK1 X (zT0 Sh top) μ2 105 [(0, .ref o_), (1, .int v_n), (2, .int t1), (3, .int (bI v_can_9)), (4, .int v_k_10)] [] := by
          intro hc
          replace e18 := zif_f hc e18
          cases e18
          cases hl19
          exact kx21
        clear e18
        refine z_iload_n fx (k := 3) (i := 3) rfl rfl d12_see_47 ?_
        refine z_ifb_eq fx d12_see_48 (fun c36 => ?_) (fun c36 => ?_)
        · exact kf23 (by simp [c36])
        · refine z_iload fx (i := 4) rfl d12_see_51 ?_
          refine z_iload_n fx (k := 2) (i := 2) rfl rfl d12_see_53 ?_
          refine z_icmp_ge fx d12_see_54 (fun c37 => ?_) (fun c37 => ?_)
          · exact kf23 (by simp [c36, c37])
          · exact kt23 (by simp [c36, c37])
    exact klr20 _ _ _ e57
  have kt4 : b3 = true → zZ zK1 X (zT0 Sh top) μ2 38 [(0, .ref o_), (1, .int v_n), (2, .int t1)] [] := by
    intro hc
    refine z_iconst fx (v := 1) ic1 d12_see_38 ?_
    refine z_goto fx d12_see_39 ?_
    exact z_top (congrArg Value.int (show 1 = bI b3 by rw [hc]; rfl)) k3
  have kf4 : b3 = false → zZ zK1 X (zT0 Sh top) μ2 42 [(0, .ref o_), (1, .int v_n), (2, .int t1)] [] := by
    intro hc
    refine z_iconst fx (v := 0) ic0 d12_see_42 ?_
    exact z_top (congrArg Value.int (show 0 = bI b3 by rw [hc]; rfl)) k3
  obtain ⟨b4, e5, e2⟩ := zinv e2
  have kt6 : b4 = true → zZ zK1 X (zT0 Sh top) μ2 32 [(0, .ref o_), (1, .int v_n), (2, .int t1)] [] := by
    intro hc
    replace e2 := zif_t hc e2
    refine z_iload_n fx (k := 2) (i := 2) rfl rfl d12_see_32 ?_
    refine z_bipush fx (v := 48) bp48 d12_see_33 ?_
    cases e2
    refine z_icmp_gt fx d12_see_35 (fun c7 => ?_) (fun c7 => ?_)
    · exact kf4 (by rw [c7]; rfl)
    · exact kt4 (by rw [c7]; rfl)
  have kf6 : b4 = false → zZ zK1 X (zT0 Sh top) μ2 42 [(0, .ref o_), (1, .int v_n), (2, .int t1)] [] := by
    intro hc
    replace e2 := zif_f hc e2
    cases e2
    exact kf4 rfl
  clear e2
  obtain ⟨b5, e8, e5⟩ := zinv e5
  have kt9 : b5 = true → zZ zK1 X (zT0 Sh top) μ2 26 [(0, .ref o_), (1, .int v_n), (2, .int t1)] [] := by
    intro hc
    replace e5 := zif_t hc e5
    refine z_iload_n fx (k := 2) (i := 2) rfl rfl d12_see_26 ?_
    refine z_iconst fx (v := 3) ic3 d12_see_27 ?_
    obtain ⟨t6, e10, e5⟩ := zinv e5
    refine z_irem fx e10 d12_see_28 ?_
    cases e5
    refine z_if_ne fx d12_see_29 (fun c11 => ?_) (fun c11 => ?_)
    · exact kf6 c11
    · exact kt6 c11
  have kf9 : b5 = false → zZ zK1 X (zT0 Sh top) μ2 42 [(0, .ref o_), (1, .int v_n), (2, .int t1)] [] := by
    intro hc
    replace e5 := zif_f hc e5
    cases e5
    exact kf6 rfl
  clear e5
  obtain ⟨b7, e12, e8⟩ := zinv e8
  have kt13 : b7 = true → zZ zK1 X (zT0 Sh top) μ2 22 [(0, .ref o_), (1, .int v_n), (2, .int t1)] [] := by
    intro hc
    replace e8 := zif_t hc e8
    refine z_iload_n fx (k := 2) (i := 2) rfl rfl d12_see_22 ?_
    cases e8
    refine z_if_le fx d12_see_23 (fun c14 => ?_) (fun c14 => ?_)
    · exact kf9 c14
    · exact kt9 c14
  have kf13 : b7 = false → zZ zK1 X (zT0 Sh top) μ2 42 [(0, .ref o_), (1, .int v_n), (2, .int t1)] [] := by
    intro hc
    replace e8 := zif_f hc e8
    cases e8
    exact kf9 rfl
  clear e8
  refine z_aload_n fx (k := 0) (i := 0) rfl rfl d12_see_5 ?_
  refine z_getB fx 12 46 1246 ho lf12_150 ⟨fk12_46, rfl⟩ d12_see_6 ?_
  refine z_ifb_eq fx d12_see_9 (fun c15 => ?_) (fun c15 => ?_)
  · replace e12 := zif_f c15 e12
    cases e12
    exact kf13 rfl
  · replace e12 := zif_t c15 e12
    refine z_iload_n fx (k := 1) (i := 1) rfl rfl d12_see_12 ?_
    refine z_iconst fx (v := 0) ic0 d12_see_13 ?_
    refine z_bipush fx (v := 80) bp80 d12_see_14 ?_
    obtain ⟨t8, e16, e12⟩ := zinv e12
    refine z_cSr fx (c12_isIn (zLo X) (zDo X) Sh top hO v_n 0 80 μ2 _  e16) ms12_isIn ml12_250 rfl rfl rfl rfl d12_see_16 ?_
    cases e12
    refine z_ifb_eq fx d12_see_19 (fun c17 => ?_) (fun c17 => ?_)
    · exact kf13 c17
    · exact kt13 c17
theorem d12_laysSuspect_0 : zd cX12_laysSuspect 0 (.aload_n 0) 1 1 := by decide +kernel
theorem d12_laysSuspect_1 : zd cX12_laysSuspect 1 (.getfield 181) 3 4 := by decide +kernel
theorem d12_laysSuspect_4 : zd cX12_laysSuspect 4 (.iload_n 1) 1 5 := by decide +kernel
theorem d12_laysSuspect_5 : zd cX12_laysSuspect 5 (.iload_n 1) 1 6 := by decide +kernel
theorem d12_laysSuspect_6 : zd cX12_laysSuspect 6 (.aload_n 0) 1 7 := by decide +kernel
theorem d12_laysSuspect_7 : zd cX12_laysSuspect 7 (.getfield 16) 3 10 := by decide +kernel
theorem d12_laysSuspect_10 : zj cX12_laysSuspect 10 (.if_icmp .eq 11) 11 13 21 := by decide +kernel
theorem d12_laysSuspect_13 : zd cX12_laysSuspect 13 (.aload_n 0) 1 14 := by decide +kernel
theorem d12_laysSuspect_14 : zd cX12_laysSuspect 14 (.iload_n 1) 1 15 := by decide +kernel
theorem d12_laysSuspect_15 : zd cX12_laysSuspect 15 (.invokevirtual 526) 3 18 := by decide +kernel
theorem d12_laysSuspect_18 : zj cX12_laysSuspect 18 (.ifCond .eq 7) 7 21 25 := by decide +kernel
theorem d12_laysSuspect_21 : zd cX12_laysSuspect 21 (.iconst 1) 1 22 := by decide +kernel
theorem d12_laysSuspect_22 : zj cX12_laysSuspect 22 (.goto 4) 4 25 26 := by decide +kernel
theorem d12_laysSuspect_25 : zd cX12_laysSuspect 25 (.iconst 0) 1 26 := by decide +kernel
theorem d12_laysSuspect_26 : zd cX12_laysSuspect 26 (.iastore) 1 27 := by decide +kernel
theorem d12_laysSuspect_27 : zd cX12_laysSuspect 27 (.aload_n 0) 1 28 := by decide +kernel
theorem d12_laysSuspect_28 : zd cX12_laysSuspect 28 (.getfield 181) 3 31 := by decide +kernel
theorem d12_laysSuspect_31 : zd cX12_laysSuspect 31 (.iload_n 1) 1 32 := by decide +kernel
theorem d12_laysSuspect_32 : zd cX12_laysSuspect 32 (.iaload) 1 33 := by decide +kernel
theorem d12_laysSuspect_33 : zj cX12_laysSuspect 33 (.ifCond .ne 4) 4 36 37 := by decide +kernel
theorem d12_laysSuspect_36 : zd cX12_laysSuspect 36 (.return_) 1 37 := by decide +kernel
theorem d12_laysSuspect_37 : zd cX12_laysSuspect 37 (.aload_n 0) 1 38 := by decide +kernel
theorem d12_laysSuspect_38 : zd cX12_laysSuspect 38 (.invokevirtual 508) 3 41 := by decide +kernel
theorem d12_laysSuspect_41 : zd cX12_laysSuspect 41 (.iload_n 1) 1 42 := by decide +kernel
theorem d12_laysSuspect_42 : zd cX12_laysSuspect 42 (.aload_n 0) 1 43 := by decide +kernel
theorem d12_laysSuspect_43 : zd cX12_laysSuspect 43 (.getfield 16) 3 46 := by decide +kernel
theorem d12_laysSuspect_46 : zj cX12_laysSuspect 46 (.if_icmp .ge 8) 8 49 54 := by decide +kernel
theorem d12_laysSuspect_49 : zd cX12_laysSuspect 49 (.aload_n 0) 1 50 := by decide +kernel
theorem d12_laysSuspect_50 : zd cX12_laysSuspect 50 (.iload_n 1) 1 51 := by decide +kernel
theorem d12_laysSuspect_51 : zd cX12_laysSuspect 51 (.invokevirtual 520) 3 54 := by decide +kernel
theorem d12_laysSuspect_54 : zd cX12_laysSuspect 54 (.iconst 0) 1 55 := by decide +kernel
theorem d12_laysSuspect_55 : zd cX12_laysSuspect 55 (.istore_n 2) 1 56 := by decide +kernel
theorem d12_laysSuspect_56 : zd cX12_laysSuspect 56 (.iload_n 2) 1 57 := by decide +kernel
theorem d12_laysSuspect_57 : zd cX12_laysSuspect 57 (.aload_n 0) 1 58 := by decide +kernel
theorem d12_laysSuspect_58 : zd cX12_laysSuspect 58 (.getfield 172) 3 61 := by decide +kernel
theorem d12_laysSuspect_61 : zj cX12_laysSuspect 61 (.if_icmp .ge 13) 13 64 74 := by decide +kernel
theorem d12_laysSuspect_64 : zd cX12_laysSuspect 64 (.aload_n 0) 1 65 := by decide +kernel
theorem d12_laysSuspect_65 : zd cX12_laysSuspect 65 (.invokevirtual 511) 3 68 := by decide +kernel
theorem d12_laysSuspect_68 : zd cX12_laysSuspect 68 (.iinc 2 1) 3 71 := by decide +kernel
theorem d12_laysSuspect_71 : zj cX12_laysSuspect 71 (.goto (-15)) (-15) 74 56 := by decide +kernel
theorem d12_laysSuspect_74 : zd cX12_laysSuspect 74 (.iconst 0) 1 75 := by decide +kernel
theorem d12_laysSuspect_75 : zd cX12_laysSuspect 75 (.istore_n 2) 1 76 := by decide +kernel
theorem d12_laysSuspect_76 : zd cX12_laysSuspect 76 (.iload_n 2) 1 77 := by decide +kernel
theorem d12_laysSuspect_77 : zd cX12_laysSuspect 77 (.bipush 6) 2 79 := by decide +kernel
theorem d12_laysSuspect_79 : zd cX12_laysSuspect 79 (.aload_n 0) 1 80 := by decide +kernel
theorem d12_laysSuspect_80 : zd cX12_laysSuspect 80 (.getfield 13) 3 83 := by decide +kernel
theorem d12_laysSuspect_83 : zd cX12_laysSuspect 83 (.imul) 1 84 := by decide +kernel
theorem d12_laysSuspect_84 : zj cX12_laysSuspect 84 (.if_icmp .ge 26) 26 87 110 := by decide +kernel
theorem d12_laysSuspect_87 : zd cX12_laysSuspect 87 (.aload_n 0) 1 88 := by decide +kernel
theorem d12_laysSuspect_88 : zd cX12_laysSuspect 88 (.getfield 184) 3 91 := by decide +kernel
theorem d12_laysSuspect_91 : zd cX12_laysSuspect 91 (.bipush 48) 2 93 := by decide +kernel
theorem d12_laysSuspect_93 : zd cX12_laysSuspect 93 (.iload_n 1) 1 94 := by decide +kernel
theorem d12_laysSuspect_94 : zd cX12_laysSuspect 94 (.imul) 1 95 := by decide +kernel
theorem d12_laysSuspect_95 : zd cX12_laysSuspect 95 (.iload_n 2) 1 96 := by decide +kernel
theorem d12_laysSuspect_96 : zd cX12_laysSuspect 96 (.iadd) 1 97 := by decide +kernel
theorem d12_laysSuspect_97 : zd cX12_laysSuspect 97 (.aload_n 0) 1 98 := by decide +kernel
theorem d12_laysSuspect_98 : zd cX12_laysSuspect 98 (.iload_n 2) 1 99 := by decide +kernel
theorem d12_laysSuspect_99 : zd cX12_laysSuspect 99 (.iconst 0) 1 100 := by decide +kernel
theorem d12_laysSuspect_100 : zd cX12_laysSuspect 100 (.invokevirtual 334) 3 103 := by decide +kernel
theorem d12_laysSuspect_103 : zd cX12_laysSuspect 103 (.iastore) 1 104 := by decide +kernel
theorem d12_laysSuspect_104 : zd cX12_laysSuspect 104 (.iinc 2 1) 3 107 := by decide +kernel
theorem d12_laysSuspect_107 : zj cX12_laysSuspect 107 (.goto (-31)) (-31) 110 76 := by decide +kernel
theorem d12_laysSuspect_110 : zd cX12_laysSuspect 110 (.iconst 0) 1 111 := by decide +kernel
theorem d12_laysSuspect_111 : zd cX12_laysSuspect 111 (.istore_n 2) 1 112 := by decide +kernel
theorem d12_laysSuspect_112 : zd cX12_laysSuspect 112 (.iload_n 2) 1 113 := by decide +kernel
theorem d12_laysSuspect_113 : zd cX12_laysSuspect 113 (.aload_n 0) 1 114 := by decide +kernel
theorem d12_laysSuspect_114 : zd cX12_laysSuspect 114 (.getfield 169) 3 117 := by decide +kernel
theorem d12_laysSuspect_117 : zj cX12_laysSuspect 117 (.if_icmp .ge 50) 50 120 167 := by decide +kernel
theorem d12_laysSuspect_120 : zd cX12_laysSuspect 120 (.aload_n 0) 1 121 := by decide +kernel
theorem d12_laysSuspect_121 : zd cX12_laysSuspect 121 (.getfield 181) 3 124 := by decide +kernel
theorem d12_laysSuspect_124 : zd cX12_laysSuspect 124 (.iload_n 1) 1 125 := by decide +kernel
theorem d12_laysSuspect_125 : zd cX12_laysSuspect 125 (.aload_n 0) 1 126 := by decide +kernel
theorem d12_laysSuspect_126 : zd cX12_laysSuspect 126 (.getfield 184) 3 129 := by decide +kernel
theorem d12_laysSuspect_129 : zd cX12_laysSuspect 129 (.bipush 48) 2 131 := by decide +kernel
theorem d12_laysSuspect_131 : zd cX12_laysSuspect 131 (.iload_n 1) 1 132 := by decide +kernel
theorem d12_laysSuspect_132 : zd cX12_laysSuspect 132 (.imul) 1 133 := by decide +kernel
theorem d12_laysSuspect_133 : zd cX12_laysSuspect 133 (.aload_n 0) 1 134 := by decide +kernel
theorem d12_laysSuspect_134 : zd cX12_laysSuspect 134 (.getfield 175) 3 137 := by decide +kernel
theorem d12_laysSuspect_137 : zd cX12_laysSuspect 137 (.iload_n 2) 1 138 := by decide +kernel
theorem d12_laysSuspect_138 : zd cX12_laysSuspect 138 (.iaload) 1 139 := by decide +kernel
theorem d12_laysSuspect_139 : zd cX12_laysSuspect 139 (.iadd) 1 140 := by decide +kernel
theorem d12_laysSuspect_140 : zd cX12_laysSuspect 140 (.iaload) 1 141 := by decide +kernel
theorem d12_laysSuspect_141 : zd cX12_laysSuspect 141 (.aload_n 0) 1 142 := by decide +kernel
theorem d12_laysSuspect_142 : zd cX12_laysSuspect 142 (.getfield 178) 3 145 := by decide +kernel
theorem d12_laysSuspect_145 : zd cX12_laysSuspect 145 (.iload_n 2) 1 146 := by decide +kernel
theorem d12_laysSuspect_146 : zd cX12_laysSuspect 146 (.iaload) 1 147 := by decide +kernel
theorem d12_laysSuspect_147 : zj cX12_laysSuspect 147 (.if_icmp .ne 12) 12 150 159 := by decide +kernel
theorem d12_laysSuspect_150 : zd cX12_laysSuspect 150 (.aload_n 0) 1 151 := by decide +kernel
theorem d12_laysSuspect_151 : zd cX12_laysSuspect 151 (.getfield 181) 3 154 := by decide +kernel
theorem d12_laysSuspect_154 : zd cX12_laysSuspect 154 (.iload_n 1) 1 155 := by decide +kernel
theorem d12_laysSuspect_155 : zd cX12_laysSuspect 155 (.iaload) 1 156 := by decide +kernel
theorem d12_laysSuspect_156 : zj cX12_laysSuspect 156 (.goto 4) 4 159 160 := by decide +kernel
theorem d12_laysSuspect_159 : zd cX12_laysSuspect 159 (.iconst 0) 1 160 := by decide +kernel
theorem d12_laysSuspect_160 : zd cX12_laysSuspect 160 (.iastore) 1 161 := by decide +kernel
theorem d12_laysSuspect_161 : zd cX12_laysSuspect 161 (.iinc 2 1) 3 164 := by decide +kernel
theorem d12_laysSuspect_164 : zj cX12_laysSuspect 164 (.goto (-52)) (-52) 167 112 := by decide +kernel
theorem d12_laysSuspect_167 : zd cX12_laysSuspect 167 (.return_) 1 168 := by decide +kernel
set_option maxHeartbeats 4000000 in
set_option maxRecDepth 20000 in
theorem c12_laysSuspect (l : Launch) (D : zDt) (Sh : zSh) (top : Nat) (hO : zOK Sh) (o_ : Nat) (v_l : Int32) (μ : zM) (μ_ : zM) (ho : (Sh o_).1 = 19) (h : f12_laysSuspect o_ v_l μ = some μ_) : zMet l D zK1 yX12_laysSuspect cX12_laysSuspect 3 none (zrm 11 254) [.ref o_, .int v_l] Sh top μ none Sh top μ_ 0 0 := by
  refine zMet_of (by decide) (Nat.le_of_ble_eq_true rfl) fun X hX1 hX2 fx fin => ?_
  subst hX1; subst hX2
  replace fx : zFix X cX12_laysSuspect RX12 (zrm 11 254) 3 := fx
  show zZ zK1 X (zT0 Sh top) μ 0 [(0, .ref o_), (1, .int v_l)] []
  unfold f12_laysSuspect at h
  refine z_aload_n fx (k := 0) (i := 0) rfl rfl d12_laysSuspect_0 ?_
  refine z_getO fx 12 56 33 ho lf12_181 fk12_56 d12_laysSuspect_1 ?_
  refine z_iload_n fx (k := 1) (i := 1) rfl rfl d12_laysSuspect_4 ?_
  obtain ⟨x1, e1, h⟩ := zinv h
  have k2 : zZ zK1 X (zT0 Sh top) μ 26 [(0, .ref o_), (1, .int v_l)] [.int x1, .int v_l, .ref (o_ + 33)] := by
    obtain ⟨μ4, e8, h⟩ := zinv h
    refine z_iast fx (ok12_56 hO ho) e8 d12_laysSuspect_26 ?_
    refine z_aload_n fx (k := 0) (i := 0) rfl rfl d12_laysSuspect_27 ?_
    refine z_getO fx 12 56 33 ho lf12_181 fk12_56 d12_laysSuspect_28 ?_
    refine z_iload_n fx (k := 1) (i := 1) rfl rfl d12_laysSuspect_31 ?_
    obtain ⟨t5, e9, h⟩ := zinv h
    refine z_iald fx (ok12_56 hO ho) e9 d12_laysSuspect_32 ?_
    refine z_if_ne fx d12_laysSuspect_33 (fun c10 => ?_) (fun c10 => ?_)
    · replace h := zif_f c10 h
      refine z_aload_n fx (k := 0) (i := 0) rfl rfl d12_laysSuspect_37 ?_
      obtain ⟨μ6, e11, h⟩ := zinv h
      refine z_cVv fx (c12_tries (zLo X) (zDo X) Sh top hO o_ μ4 _ ho e11) mv12_tries ml12_508 ho rfl rfl rfl rfl d12_laysSuspect_38 ?_
      obtain ⟨μ7, e12, h⟩ := zinv h
      have k13 : zZ zK1 X (zT0 Sh top) μ7 54 [(0, .ref o_), (1, .int v_l)] [] := by
        refine z_iconst fx (v := 0) ic0 d12_laysSuspect_54 ?_
        refine z_istore_n fx (k := 2) (i := 2) rfl rfl (lv' := [(0, .ref o_), (1, .int v_l), (2, .int 0)]) rfl rfl d12_laysSuspect_55 ?_
        obtain ⟨v_n_10, μ11, e48, h⟩ := zinv2 h
        have kx17 : zZ zK1 X (zT0 Sh top) μ11 74 [(0, .ref o_), (1, .int v_l), (2, .int v_n_10)] [] := by
          refine z_take 2 (lv' := [(0, .ref o_), (1, .int v_l)]) rfl ?_
          refine z_iconst fx (v := 0) ic0 d12_laysSuspect_74 ?_
          refine z_istore_n fx (k := 2) (i := 2) rfl rfl (lv' := [(0, .ref o_), (1, .int v_l), (2, .int 0)]) rfl rfl d12_laysSuspect_75 ?_
          obtain ⟨v_p_16, μ17, e47, h⟩ := zinv2 h
          have kx25 : zZ zK1 X (zT0 Sh top) μ17 110 [(0, .ref o_), (1, .int v_l), (2, .int v_p_16)] [] := by
            refine z_take 2 (lv' := [(0, .ref o_), (1, .int v_l)]) rfl ?_
            refine z_iconst fx (v := 0) ic0 d12_laysSuspect_110 ?_
            refine z_istore_n fx (k := 2) (i := 2) rfl rfl (lv' := [(0, .ref o_), (1, .int v_l), (2, .int 0)]) rfl rfl d12_laysSuspect_111 ?_
            obtain ⟨v_k_23, μ24, e46, h⟩ := zinv2 h
            have kx34 : zZ zK1 X (zT0 Sh top) μ24 167 [(0, .ref o_), (1, .int v_l), (2, .int v_k_23)] [] := by
              refine z_take 2 (lv' := [(0, .ref o_), (1, .int v_l)]) rfl ?_
              cases h
              exact z_return fx fin d12_laysSuspect_167
            clear h
            have klr33 : ∀ (n : Nat) (v_k_21 : Int32) (μ22 : zM), zloop (fun s => f12_laysSuspect_L3 o_ v_l s.1 s.2) n (v_k_21, μ22) = some (v_k_23, μ24) → zZ zK1 X (zT0 Sh top) μ22 112 [(0, .ref o_), (1, .int v_l), (2, .int v_k_21)] [] := by
              intro n
              induction n with
              | zero => intro v_k_21 μ22 hl32; cases hl32
              | succ n ih35 =>
                intro v_k_21 μ22 hl32
                obtain ⟨y, e31, hl32⟩ := zloop_inv hl32
                replace e31 : f12_laysSuspect_L3 o_ v_l v_k_21 μ22 = some y := e31
                unfold f12_laysSuspect_L3 at e31
                refine z_iload_n fx (k := 2) (i := 2) rfl rfl d12_laysSuspect_112 ?_
                refine z_aload_n fx (k := 0) (i := 0) rfl rfl d12_laysSuspect_113 ?_
                refine z_getI fx 12 52 1252 ho lf12_169 ⟨fk12_52, rfl⟩ d12_laysSuspect_114 ?_
                refine z_icmp_ge fx d12_laysSuspect_117 (fun c36 => ?_) (fun c36 => ?_)
                · replace e31 := zif_f c36 e31
                  cases e31
                  cases hl32
                  exact kx34
                · replace e31 := zif_t c36 e31
                  refine z_aload_n fx (k := 0) (i := 0) rfl rfl d12_laysSuspect_120 ?_
                  refine z_getO fx 12 56 33 ho lf12_181 fk12_56 d12_laysSuspect_121 ?_
                  refine z_iload_n fx (k := 1) (i := 1) rfl rfl d12_laysSuspect_124 ?_
                  obtain ⟨x25, e37, e31⟩ := zinv e31
                  have k38 : zZ zK1 X (zT0 Sh top) μ22 160 [(0, .ref o_), (1, .int v_l), (2, .int v_k_21)] [.int x25, .int v_l, .ref (o_ + 33)] := by
                    obtain ⟨μ30, e44, e31⟩ := zinv e31
                    refine z_iast fx (ok12_56 hO ho) e44 d12_laysSuspect_160 ?_
                    obtain ⟨v_k_31, e45, e31⟩ := zinv e31
                    replace e45 := Option.some.inj e45
                    refine z_iinc fx (i := 2) (x := v_k_21) (v := v_k_31) rfl (by rw [in1]; exact e45) rfl (lv' := [(0, .ref o_), (1, .int v_l), (2, .int v_k_31)]) rfl rfl d12_laysSuspect_161 ?_
                    cases e31
                    refine z_goto fx d12_laysSuspect_164 ?_
                    exact ih35 _ _ hl32
                  refine z_aload_n fx (k := 0) (i := 0) rfl rfl d12_laysSuspect_125 ?_
                  refine z_getO fx 12 57 34 ho lf12_184 fk12_57 d12_laysSuspect_126 ?_
                  refine z_bipush fx (v := 48) bp48 d12_laysSuspect_129 ?_
                  refine z_iload_n fx (k := 1) (i := 1) rfl rfl d12_laysSuspect_131 ?_
                  refine z_imul fx d12_laysSuspect_132 ?_
                  refine z_aload_n fx (k := 0) (i := 0) rfl rfl d12_laysSuspect_133 ?_
                  refine z_getO fx 12 54 31 ho lf12_175 fk12_54 d12_laysSuspect_134 ?_
                  refine z_iload_n fx (k := 2) (i := 2) rfl rfl d12_laysSuspect_137 ?_
                  obtain ⟨t26, e39, e37⟩ := zinv e37
                  refine z_iald fx (ok12_54 hO ho) e39 d12_laysSuspect_138 ?_
                  refine z_iadd fx d12_laysSuspect_139 ?_
                  obtain ⟨t27, e40, e37⟩ := zinv e37
                  refine z_iald fx (ok12_57 hO ho) e40 d12_laysSuspect_140 ?_
                  refine z_aload_n fx (k := 0) (i := 0) rfl rfl d12_laysSuspect_141 ?_
                  refine z_getO fx 12 55 32 ho lf12_178 fk12_55 d12_laysSuspect_142 ?_
                  refine z_iload_n fx (k := 2) (i := 2) rfl rfl d12_laysSuspect_145 ?_
                  obtain ⟨t28, e41, e37⟩ := zinv e37
                  refine z_iald fx (ok12_55 hO ho) e41 d12_laysSuspect_146 ?_
                  refine z_icmp_ne fx d12_laysSuspect_147 (fun c42 => ?_) (fun c42 => ?_)
                  · replace e37 := zif_f c42 e37
                    refine z_iconst fx (v := 0) ic0 d12_laysSuspect_159 ?_
                    cases e37
                    exact k38
                  · replace e37 := zif_t c42 e37
                    refine z_aload_n fx (k := 0) (i := 0) rfl rfl d12_laysSuspect_150 ?_
                    refine z_getO fx 12 56 33 ho lf12_181 fk12_56 d12_laysSuspect_151 ?_
                    refine z_iload_n fx (k := 1) (i := 1) rfl rfl d12_laysSuspect_154 ?_
                    obtain ⟨t29, e43, e37⟩ := zinv e37
                    refine z_iald fx (ok12_56 hO ho) e43 d12_laysSuspect_155 ?_
                    cases e37
                    refine z_goto fx d12_laysSuspect_156 ?_
                    exact k38
            exact klr33 _ _ _ e46
          clear h
          have klr24 : ∀ (n : Nat) (v_p_14 : Int32) (μ15 : zM), zloop (fun s => f12_laysSuspect_L2 o_ v_l s.1 s.2) n (v_p_14, μ15) = some (v_p_16, μ17) → zZ zK1 X (zT0 Sh top) μ15 76 [(0, .ref o_), (1, .int v_l), (2, .int v_p_14)] [] := by
            intro n
            induction n with
            | zero => intro v_p_14 μ15 hl23; cases hl23
            | succ n ih26 =>
              intro v_p_14 μ15 hl23
              obtain ⟨y, e22, hl23⟩ := zloop_inv hl23
              replace e22 : f12_laysSuspect_L2 o_ v_l v_p_14 μ15 = some y := e22
              unfold f12_laysSuspect_L2 at e22
              refine z_iload_n fx (k := 2) (i := 2) rfl rfl d12_laysSuspect_76 ?_
              refine z_bipush fx (v := 6) bp6 d12_laysSuspect_77 ?_
              refine z_aload_n fx (k := 0) (i := 0) rfl rfl d12_laysSuspect_79 ?_
              refine z_getI fx 12 1 1201 ho lf12_13 ⟨fk12_1, rfl⟩ d12_laysSuspect_80 ?_
              refine z_imul fx d12_laysSuspect_83 ?_
              refine z_icmp_ge fx d12_laysSuspect_84 (fun c27 => ?_) (fun c27 => ?_)
              · replace e22 := zif_f c27 e22
                cases e22
                cases hl23
                exact kx25
              · replace e22 := zif_t c27 e22
                refine z_aload_n fx (k := 0) (i := 0) rfl rfl d12_laysSuspect_87 ?_
                refine z_getO fx 12 57 34 ho lf12_184 fk12_57 d12_laysSuspect_88 ?_
                refine z_bipush fx (v := 48) bp48 d12_laysSuspect_91 ?_
                refine z_iload_n fx (k := 1) (i := 1) rfl rfl d12_laysSuspect_93 ?_
                refine z_imul fx d12_laysSuspect_94 ?_
                refine z_iload_n fx (k := 2) (i := 2) rfl rfl d12_laysSuspect_95 ?_
                refine z_iadd fx d12_laysSuspect_96 ?_
                refine z_aload_n fx (k := 0) (i := 0) rfl rfl d12_laysSuspect_97 ?_
                refine z_iload_n fx (k := 2) (i := 2) rfl rfl d12_laysSuspect_98 ?_
                refine z_iconst fx (v := 0) ic0 d12_laysSuspect_99 ?_
                obtain ⟨t18, e28, e22⟩ := zinv e22
                refine z_cVr fx (c12_portOf (zLo X) (zDo X) Sh top hO o_ v_p_14 0 μ15 _ ho e28) mv12_portOf ml12_334 ho rfl rfl rfl rfl d12_laysSuspect_100 ?_
                obtain ⟨μ19, e29, e22⟩ := zinv e22
                refine z_iast fx (ok12_57 hO ho) e29 d12_laysSuspect_103 ?_
                obtain ⟨v_p_20, e30, e22⟩ := zinv e22
                replace e30 := Option.some.inj e30
                refine z_iinc fx (i := 2) (x := v_p_14) (v := v_p_20) rfl (by rw [in1]; exact e30) rfl (lv' := [(0, .ref o_), (1, .int v_l), (2, .int v_p_20)]) rfl rfl d12_laysSuspect_104 ?_
                cases e22
                refine z_goto fx d12_laysSuspect_107 ?_
                exact ih26 _ _ hl23
          exact klr24 _ _ _ e47
        clear h
        have klr16 : ∀ (n : Nat) (v_n_8 : Int32) (μ9 : zM), zloop (fun s => f12_laysSuspect_L1 o_ s.1 s.2) n (v_n_8, μ9) = some (v_n_10, μ11) → zZ zK1 X (zT0 Sh top) μ9 56 [(0, .ref o_), (1, .int v_l), (2, .int v_n_8)] [] := by
          intro n
          induction n with
          | zero => intro v_n_8 μ9 hl15; cases hl15
          | succ n ih18 =>
            intro v_n_8 μ9 hl15
            obtain ⟨y, e14, hl15⟩ := zloop_inv hl15
            replace e14 : f12_laysSuspect_L1 o_ v_n_8 μ9 = some y := e14
            unfold f12_laysSuspect_L1 at e14
            refine z_iload_n fx (k := 2) (i := 2) rfl rfl d12_laysSuspect_56 ?_
            refine z_aload_n fx (k := 0) (i := 0) rfl rfl d12_laysSuspect_57 ?_
            refine z_getI fx 12 53 1253 ho lf12_172 ⟨fk12_53, rfl⟩ d12_laysSuspect_58 ?_
            refine z_icmp_ge fx d12_laysSuspect_61 (fun c19 => ?_) (fun c19 => ?_)
            · replace e14 := zif_f c19 e14
              cases e14
              cases hl15
              exact kx17
            · replace e14 := zif_t c19 e14
              refine z_aload_n fx (k := 0) (i := 0) rfl rfl d12_laysSuspect_64 ?_
              obtain ⟨μ12, e20, e14⟩ := zinv e14
              refine z_cVv fx (c12_steps (zLo X) (zDo X) Sh top hO o_ μ9 _ ho e20) mv12_steps ml12_511 ho rfl rfl rfl rfl d12_laysSuspect_65 ?_
              obtain ⟨v_n_13, e21, e14⟩ := zinv e14
              replace e21 := Option.some.inj e21
              refine z_iinc fx (i := 2) (x := v_n_8) (v := v_n_13) rfl (by rw [in1]; exact e21) rfl (lv' := [(0, .ref o_), (1, .int v_l), (2, .int v_n_13)]) rfl rfl d12_laysSuspect_68 ?_
              cases e14
              refine z_goto fx d12_laysSuspect_71 ?_
              exact ih18 _ _ hl15
        exact klr16 _ _ _ e48
      clear h
      refine z_iload_n fx (k := 1) (i := 1) rfl rfl d12_laysSuspect_41 ?_
      refine z_aload_n fx (k := 0) (i := 0) rfl rfl d12_laysSuspect_42 ?_
      refine z_getI fx 12 2 1202 ho lf12_16 ⟨fk12_2, rfl⟩ d12_laysSuspect_43 ?_
      refine z_icmp_ge fx d12_laysSuspect_46 (fun c49 => ?_) (fun c49 => ?_)
      · replace e12 := zif_f c49 e12
        cases e12
        exact k13
      · replace e12 := zif_t c49 e12
        refine z_aload_n fx (k := 0) (i := 0) rfl rfl d12_laysSuspect_49 ?_
        refine z_iload_n fx (k := 1) (i := 1) rfl rfl d12_laysSuspect_50 ?_
        obtain ⟨μ32, e50, e12⟩ := zinv e12
        refine z_cVv fx (c12_isCut (zLo X) (zDo X) Sh top hO o_ v_l μ6 _ ho e50) mv12_isCut ml12_520 ho rfl rfl rfl rfl d12_laysSuspect_51 ?_
        cases e12
        exact k13
    · replace h := zif_t c10 h
      cases h
      exact z_return fx fin d12_laysSuspect_36
  obtain ⟨b2, e4, e1⟩ := zinv e1
  have kt3 : b2 = true → zZ zK1 X (zT0 Sh top) μ 21 [(0, .ref o_), (1, .int v_l)] [.int v_l, .ref (o_ + 33)] := by
    intro hc
    replace e1 := zif_t hc e1
    refine z_iconst fx (v := 1) ic1 d12_laysSuspect_21 ?_
    cases e1
    refine z_goto fx d12_laysSuspect_22 ?_
    exact k2
  have kf3 : b2 = false → zZ zK1 X (zT0 Sh top) μ 25 [(0, .ref o_), (1, .int v_l)] [.int v_l, .ref (o_ + 33)] := by
    intro hc
    replace e1 := zif_f hc e1
    refine z_iconst fx (v := 0) ic0 d12_laysSuspect_25 ?_
    cases e1
    exact k2
  clear e1
  refine z_iload_n fx (k := 1) (i := 1) rfl rfl d12_laysSuspect_5 ?_
  refine z_aload_n fx (k := 0) (i := 0) rfl rfl d12_laysSuspect_6 ?_
  refine z_getI fx 12 2 1202 ho lf12_16 ⟨fk12_2, rfl⟩ d12_laysSuspect_7 ?_
  refine z_icmp_eq fx d12_laysSuspect_10 (fun c5 => ?_) (fun c5 => ?_)
  · replace e4 := zif_t c5 e4
    cases e4
    exact kt3 rfl
  · replace e4 := zif_f c5 e4
    refine z_aload_n fx (k := 0) (i := 0) rfl rfl d12_laysSuspect_13 ?_
    refine z_iload_n fx (k := 1) (i := 1) rfl rfl d12_laysSuspect_14 ?_
    obtain ⟨t3, e6, e4⟩ := zinv e4
    refine z_cVr fx (c12_isWhole (zLo X) (zDo X) Sh top hO o_ v_l μ _ ho e6) mv12_isWhole ml12_526 ho rfl rfl rfl rfl d12_laysSuspect_15 ?_
    cases e4
    refine z_ifb_eq fx d12_laysSuspect_18 (fun c7 => ?_) (fun c7 => ?_)
    · exact kf3 c7
    · exact kt3 c7
theorem d12_laysSuspects_0 : zd cX12_laysSuspects 0 (.iconst 0) 1 1 := by decide +kernel
theorem d12_laysSuspects_1 : zd cX12_laysSuspects 1 (.istore_n 1) 1 2 := by decide +kernel
theorem d12_laysSuspects_2 : zd cX12_laysSuspects 2 (.iconst 0) 1 3 := by decide +kernel
theorem d12_laysSuspects_3 : zd cX12_laysSuspects 3 (.istore_n 2) 1 4 := by decide +kernel
theorem d12_laysSuspects_4 : zd cX12_laysSuspects 4 (.iload_n 2) 1 5 := by decide +kernel
theorem d12_laysSuspects_5 : zd cX12_laysSuspects 5 (.aload_n 0) 1 6 := by decide +kernel
theorem d12_laysSuspects_6 : zd cX12_laysSuspects 6 (.getfield 16) 3 9 := by decide +kernel
theorem d12_laysSuspects_9 : zj cX12_laysSuspects 9 (.if_icmp .gt 23) 23 12 32 := by decide +kernel
theorem d12_laysSuspects_12 : zd cX12_laysSuspects 12 (.aload_n 0) 1 13 := by decide +kernel
theorem d12_laysSuspects_13 : zd cX12_laysSuspects 13 (.iload_n 2) 1 14 := by decide +kernel
theorem d12_laysSuspects_14 : zd cX12_laysSuspects 14 (.invokevirtual 532) 3 17 := by decide +kernel
theorem d12_laysSuspects_17 : zd cX12_laysSuspects 17 (.iload_n 1) 1 18 := by decide +kernel
theorem d12_laysSuspects_18 : zd cX12_laysSuspects 18 (.aload_n 0) 1 19 := by decide +kernel
theorem d12_laysSuspects_19 : zd cX12_laysSuspects 19 (.getfield 181) 3 22 := by decide +kernel
theorem d12_laysSuspects_22 : zd cX12_laysSuspects 22 (.iload_n 2) 1 23 := by decide +kernel
theorem d12_laysSuspects_23 : zd cX12_laysSuspects 23 (.iaload) 1 24 := by decide +kernel
theorem d12_laysSuspects_24 : zd cX12_laysSuspects 24 (.iadd) 1 25 := by decide +kernel
theorem d12_laysSuspects_25 : zd cX12_laysSuspects 25 (.istore_n 1) 1 26 := by decide +kernel
theorem d12_laysSuspects_26 : zd cX12_laysSuspects 26 (.iinc 2 1) 3 29 := by decide +kernel
theorem d12_laysSuspects_29 : zj cX12_laysSuspects 29 (.goto (-25)) (-25) 32 4 := by decide +kernel
theorem d12_laysSuspects_32 : zd cX12_laysSuspects 32 (.iload_n 1) 1 33 := by decide +kernel
theorem d12_laysSuspects_33 : zd cX12_laysSuspects 33 (.ireturn) 1 34 := by decide +kernel
set_option maxHeartbeats 4000000 in
set_option maxRecDepth 20000 in
theorem c12_laysSuspects (l : Launch) (D : zDt) (Sh : zSh) (top : Nat) (hO : zOK Sh) (o_ : Nat) (μ : zM) (r_ : Int32) (μ_ : zM) (ho : (Sh o_).1 = 19) (h : f12_laysSuspects o_ μ = some (r_, μ_)) : zMet l D zK1 yX12_laysSuspects cX12_laysSuspects 3 (some .int) (zrm 12 276) [.ref o_] Sh top μ (some (.int r_)) Sh top μ_ 0 0 := by
  refine zMet_of (by decide) (Nat.le_of_ble_eq_true rfl) fun X hX1 hX2 fx fin => ?_
  subst hX1; subst hX2
  replace fx : zFix X cX12_laysSuspects RX12 (zrm 12 276) 3 := fx
  show zZ zK1 X (zT0 Sh top) μ 0 [(0, .ref o_)] []
  unfold f12_laysSuspects at h
  refine z_iconst fx (v := 0) ic0 d12_laysSuspects_0 ?_
  refine z_istore_n fx (k := 1) (i := 1) rfl rfl (lv' := [(0, .ref o_), (1, .int 0)]) rfl rfl d12_laysSuspects_1 ?_
  refine z_iconst fx (v := 0) ic0 d12_laysSuspects_2 ?_
  refine z_istore_n fx (k := 2) (i := 2) rfl rfl (lv' := [(0, .ref o_), (1, .int 0), (2, .int 0)]) rfl rfl d12_laysSuspects_3 ?_
  obtain ⟨v_n_4, v_l_5, μ6, e11, h⟩ := zinv3 h
  have kx4 : zZ zK1 X (zT0 Sh top) μ6 32 [(0, .ref o_), (1, .int v_n_4), (2, .int v_l_5)] [] := by
    refine z_take 2 (lv' := [(0, .ref o_), (1, .int v_n_4)]) rfl ?_
    refine z_iload_n fx (k := 1) (i := 1) rfl rfl d12_laysSuspects_32 ?_
    cases h
    exact z_ireturn fx fin d12_laysSuspects_33
  clear h
  have klr3 : ∀ (n : Nat) (v_n_1 : Int32) (v_l_2 : Int32) (μ3 : zM), zloop (fun s => f12_laysSuspects_L1 o_ s.1 s.2.1 s.2.2) n (v_n_1, v_l_2, μ3) = some (v_n_4, v_l_5, μ6) → zZ zK1 X (zT0 Sh top) μ3 4 [(0, .ref o_), (1, .int v_n_1), (2, .int v_l_2)] [] := by
    intro n
    induction n with
    | zero => intro v_n_1 v_l_2 μ3 hl2; cases hl2
    | succ n ih5 =>
      intro v_n_1 v_l_2 μ3 hl2
      obtain ⟨y, e1, hl2⟩ := zloop_inv hl2
      replace e1 : f12_laysSuspects_L1 o_ v_n_1 v_l_2 μ3 = some y := e1
      unfold f12_laysSuspects_L1 at e1
      refine z_iload_n fx (k := 2) (i := 2) rfl rfl d12_laysSuspects_4 ?_
      refine z_aload_n fx (k := 0) (i := 0) rfl rfl d12_laysSuspects_5 ?_
      refine z_getI fx 12 2 1202 ho lf12_16 ⟨fk12_2, rfl⟩ d12_laysSuspects_6 ?_
      refine z_icmp_gt fx d12_laysSuspects_9 (fun c6 => ?_) (fun c6 => ?_)
      · replace e1 := zif_t c6 e1
        cases e1
        cases hl2
        exact kx4
      · replace e1 := zif_f c6 e1
        refine z_aload_n fx (k := 0) (i := 0) rfl rfl d12_laysSuspects_12 ?_
        refine z_iload_n fx (k := 2) (i := 2) rfl rfl d12_laysSuspects_13 ?_
        obtain ⟨μ7, e7, e1⟩ := zinv e1
        refine z_cVv fx (c12_laysSuspect (zLo X) (zDo X) Sh top hO o_ v_l_2 μ3 _ ho e7) mv12_laysSuspect ml12_532 ho rfl rfl rfl rfl d12_laysSuspects_14 ?_
        refine z_iload_n fx (k := 1) (i := 1) rfl rfl d12_laysSuspects_17 ?_
        refine z_aload_n fx (k := 0) (i := 0) rfl rfl d12_laysSuspects_18 ?_
        refine z_getO fx 12 56 33 ho lf12_181 fk12_56 d12_laysSuspects_19 ?_
        refine z_iload_n fx (k := 2) (i := 2) rfl rfl d12_laysSuspects_22 ?_
        obtain ⟨t8, e8, e1⟩ := zinv e1
        refine z_iald fx (ok12_56 hO ho) e8 d12_laysSuspects_23 ?_
        refine z_iadd fx d12_laysSuspects_24 ?_
        obtain ⟨v_n_9, e9, e1⟩ := zinv e1
        replace e9 := Option.some.inj e9
        refine z_top (congrArg Value.int e9) ?_
        refine z_istore_n fx (k := 1) (i := 1) rfl rfl (lv' := [(0, .ref o_), (1, .int v_n_9), (2, .int v_l_2)]) rfl rfl d12_laysSuspects_25 ?_
        obtain ⟨v_l_10, e10, e1⟩ := zinv e1
        replace e10 := Option.some.inj e10
        refine z_iinc fx (i := 2) (x := v_l_2) (v := v_l_10) rfl (by rw [in1]; exact e10) rfl (lv' := [(0, .ref o_), (1, .int v_n_9), (2, .int v_l_10)]) rfl rfl d12_laysSuspects_26 ?_
        cases e1
        refine z_goto fx d12_laysSuspects_29 ?_
        exact ih5 _ _ _ hl2
  exact klr3 _ _ _ _ e11
theorem d12_suspect_0 : zd cX12_suspect 0 (.aload_n 0) 1 1 := by decide +kernel
theorem d12_suspect_1 : zd cX12_suspect 1 (.getfield 150) 3 4 := by decide +kernel
theorem d12_suspect_4 : zj cX12_suspect 4 (.ifCond .eq 8) 8 7 12 := by decide +kernel
theorem d12_suspect_7 : zd cX12_suspect 7 (.iload_n 1) 1 8 := by decide +kernel
theorem d12_suspect_8 : zd cX12_suspect 8 (.iconst (-1)) 1 9 := by decide +kernel
theorem d12_suspect_9 : zj cX12_suspect 9 (.if_icmp .ge 5) 5 12 14 := by decide +kernel
theorem d12_suspect_12 : zd cX12_suspect 12 (.iconst (-1)) 1 13 := by decide +kernel
theorem d12_suspect_13 : zd cX12_suspect 13 (.ireturn) 1 14 := by decide +kernel
theorem d12_suspect_14 : zd cX12_suspect 14 (.aload_n 0) 1 15 := by decide +kernel
theorem d12_suspect_15 : zd cX12_suspect 15 (.invokevirtual 535) 3 18 := by decide +kernel
theorem d12_suspect_18 : zd cX12_suspect 18 (.istore_n 2) 1 19 := by decide +kernel
theorem d12_suspect_19 : zd cX12_suspect 19 (.iload_n 1) 1 20 := by decide +kernel
theorem d12_suspect_20 : zd cX12_suspect 20 (.iconst (-1)) 1 21 := by decide +kernel
theorem d12_suspect_21 : zj cX12_suspect 21 (.if_icmp .ne 5) 5 24 26 := by decide +kernel
theorem d12_suspect_24 : zd cX12_suspect 24 (.iload_n 2) 1 25 := by decide +kernel
theorem d12_suspect_25 : zd cX12_suspect 25 (.ireturn) 1 26 := by decide +kernel
theorem d12_suspect_26 : zd cX12_suspect 26 (.iconst 0) 1 27 := by decide +kernel
theorem d12_suspect_27 : zd cX12_suspect 27 (.istore_n 3) 1 28 := by decide +kernel
theorem d12_suspect_28 : zd cX12_suspect 28 (.iconst 0) 1 29 := by decide +kernel
theorem d12_suspect_29 : zd cX12_suspect 29 (.istore 4) 2 31 := by decide +kernel
theorem d12_suspect_31 : zd cX12_suspect 31 (.iload 4) 2 33 := by decide +kernel
theorem d12_suspect_33 : zd cX12_suspect 33 (.aload_n 0) 1 34 := by decide +kernel
theorem d12_suspect_34 : zd cX12_suspect 34 (.getfield 16) 3 37 := by decide +kernel
theorem d12_suspect_37 : zj cX12_suspect 37 (.if_icmp .gt 33) 33 40 70 := by decide +kernel
theorem d12_suspect_40 : zd cX12_suspect 40 (.aload_n 0) 1 41 := by decide +kernel
theorem d12_suspect_41 : zd cX12_suspect 41 (.getfield 181) 3 44 := by decide +kernel
theorem d12_suspect_44 : zd cX12_suspect 44 (.iload 4) 2 46 := by decide +kernel
theorem d12_suspect_46 : zd cX12_suspect 46 (.iaload) 1 47 := by decide +kernel
theorem d12_suspect_47 : zj cX12_suspect 47 (.ifCond .ne 6) 6 50 53 := by decide +kernel
theorem d12_suspect_50 : zj cX12_suspect 50 (.goto 14) 14 53 64 := by decide +kernel
theorem d12_suspect_53 : zd cX12_suspect 53 (.iload_n 3) 1 54 := by decide +kernel
theorem d12_suspect_54 : zd cX12_suspect 54 (.iload_n 1) 1 55 := by decide +kernel
theorem d12_suspect_55 : zj cX12_suspect 55 (.if_icmp .ne 6) 6 58 61 := by decide +kernel
theorem d12_suspect_58 : zd cX12_suspect 58 (.iload 4) 2 60 := by decide +kernel
theorem d12_suspect_60 : zd cX12_suspect 60 (.ireturn) 1 61 := by decide +kernel
theorem d12_suspect_61 : zd cX12_suspect 61 (.iinc 3 1) 3 64 := by decide +kernel
theorem d12_suspect_64 : zd cX12_suspect 64 (.iinc 4 1) 3 67 := by decide +kernel
theorem d12_suspect_67 : zj cX12_suspect 67 (.goto (-36)) (-36) 70 31 := by decide +kernel
theorem d12_suspect_70 : zd cX12_suspect 70 (.iconst (-1)) 1 71 := by decide +kernel
theorem d12_suspect_71 : zd cX12_suspect 71 (.ireturn) 1 72 := by decide +kernel
set_option maxHeartbeats 4000000 in
set_option maxRecDepth 20000 in
theorem c12_suspect (l : Launch) (D : zDt) (Sh : zSh) (top : Nat) (hO : zOK Sh) (o_ : Nat) (v_k : Int32) (μ : zM) (r_ : Int32) (μ_ : zM) (ho : (Sh o_).1 = 19) (h : f12_suspect o_ v_k μ = some (r_, μ_)) : zMet l D zK1 yX12_suspect cX12_suspect 5 (some .int) (zrm 13 298) [.ref o_, .int v_k] Sh top μ (some (.int r_)) Sh top μ_ 0 0 := by
  refine zMet_of (by decide) (Nat.le_of_ble_eq_true rfl) fun X hX1 hX2 fx fin => ?_
  subst hX1; subst hX2
  replace fx : zFix X cX12_suspect RX12 (zrm 13 298) 5 := fx
  show zZ zK1 X (zT0 Sh top) μ 0 [(0, .ref o_), (1, .int v_k)] []
  unfold f12_suspect at h
  have kt1 : ((!(gB μ 1246 o_)) || (clt v_k (-1))) = true → zZ zK1 X (zT0 Sh top) μ 12 [(0, .ref o_), (1, .int v_k)] [] := by
    intro hc
    replace h := zif_t hc h
    refine z_iconst fx (v := (-1)) icm1 d12_suspect_12 ?_
    cases h
    exact z_ireturn fx fin d12_suspect_13
  have kf1 : ((!(gB μ 1246 o_)) || (clt v_k (-1))) = false → zZ zK1 X (zT0 Sh top) μ 14 [(0, .ref o_), (1, .int v_k)] [] := by
    intro hc
    replace h := zif_f hc h
    refine z_aload_n fx (k := 0) (i := 0) rfl rfl d12_suspect_14 ?_
    obtain ⟨t1, μ2, e2, h⟩ := zinv2 h
    refine z_cVr fx (c12_laysSuspects (zLo X) (zDo X) Sh top hO o_ μ _ _ ho e2) mv12_laysSuspects ml12_535 ho rfl rfl rfl rfl d12_suspect_15 ?_
    refine z_istore_n fx (k := 2) (i := 2) rfl rfl (lv' := [(0, .ref o_), (1, .int v_k), (2, .int t1)]) rfl rfl d12_suspect_18 ?_
    refine z_iload_n fx (k := 1) (i := 1) rfl rfl d12_suspect_19 ?_
    refine z_iconst fx (v := (-1)) icm1 d12_suspect_20 ?_
    refine z_icmp_ne fx d12_suspect_21 (fun c3 => ?_) (fun c3 => ?_)
    · replace h := zif_f c3 h
      refine z_iconst fx (v := 0) ic0 d12_suspect_26 ?_
      refine z_istore_n fx (k := 3) (i := 3) rfl rfl (lv' := [(0, .ref o_), (1, .int v_k), (2, .int t1), (3, .int 0)]) rfl rfl d12_suspect_27 ?_
      refine z_iconst fx (v := 0) ic0 d12_suspect_28 ?_
      refine z_istore fx (i := 4) rfl (lv' := [(0, .ref o_), (1, .int v_k), (2, .int t1), (3, .int 0), (4, .int 0)]) rfl rfl d12_suspect_29 ?_
      obtain ⟨r6, e16, h⟩ := zinv h
      have kx7 : ∀ (v_n_5 : Int32) (v_l_6 : Int32), r6 = .inr (v_n_5, v_l_6) → zZ zK1 X (zT0 Sh top) μ2 70 [(0, .ref o_), (1, .int v_k), (2, .int t1), (3, .int v_n_5), (4, .int v_l_6)] [] := by
        intro v_n_5 v_l_6 hr
        subst hr
        replace h := zel2 h
        refine z_take 4 (lv' := [(0, .ref o_), (1, .int v_k), (2, .int t1), (3, .int v_n_5)]) rfl ?_
        refine z_iconst fx (v := (-1)) icm1 d12_suspect_70 ?_
        cases h
        exact z_ireturn fx fin d12_suspect_71
      have klr6 : ∀ (n : Nat) (v_n_3 : Int32) (v_l_4 : Int32), zloop (fun s => f12_suspect_L1 o_ v_k μ2 s.1 s.2) n (v_n_3, v_l_4) = some r6 → zZ zK1 X (zT0 Sh top) μ2 31 [(0, .ref o_), (1, .int v_k), (2, .int t1), (3, .int v_n_3), (4, .int v_l_4)] [] := by
        intro n
        induction n with
        | zero => intro v_n_3 v_l_4 hl5; cases hl5
        | succ n ih8 =>
          intro v_n_3 v_l_4 hl5
          obtain ⟨y, e4, hl5⟩ := zloop_inv hl5
          replace e4 : f12_suspect_L1 o_ v_k μ2 v_n_3 v_l_4 = some y := e4
          unfold f12_suspect_L1 at e4
          refine z_iload fx (i := 4) rfl d12_suspect_31 ?_
          refine z_aload_n fx (k := 0) (i := 0) rfl rfl d12_suspect_33 ?_
          refine z_getI fx 12 2 1202 ho lf12_16 ⟨fk12_2, rfl⟩ d12_suspect_34 ?_
          refine z_icmp_gt fx d12_suspect_37 (fun c9 => ?_) (fun c9 => ?_)
          · replace e4 := zif_t c9 e4
            cases e4
            exact kx7 _ _ (Eq.symm hl5)
          · replace e4 := zif_f c9 e4
            refine z_aload_n fx (k := 0) (i := 0) rfl rfl d12_suspect_40 ?_
            refine z_getO fx 12 56 33 ho lf12_181 fk12_56 d12_suspect_41 ?_
            refine z_iload fx (i := 4) rfl d12_suspect_44 ?_
            obtain ⟨t7, e10, e4⟩ := zinv e4
            refine z_iald fx (ok12_56 hO ho) e10 d12_suspect_46 ?_
            refine z_if_ne fx d12_suspect_47 (fun c11 => ?_) (fun c11 => ?_)
            · replace e4 := zif_f c11 e4
              refine z_iload_n fx (k := 3) (i := 3) rfl rfl d12_suspect_53 ?_
              refine z_iload_n fx (k := 1) (i := 1) rfl rfl d12_suspect_54 ?_
              refine z_icmp_ne fx d12_suspect_55 (fun c12 => ?_) (fun c12 => ?_)
              · replace e4 := zif_f c12 e4
                obtain ⟨v_n_8, e13, e4⟩ := zinv e4
                replace e13 := Option.some.inj e13
                refine z_iinc fx (i := 3) (x := v_n_3) (v := v_n_8) rfl (by rw [in1]; exact e13) rfl (lv' := [(0, .ref o_), (1, .int v_k), (2, .int t1), (3, .int v_n_8), (4, .int v_l_4)]) rfl rfl d12_suspect_61 ?_
                obtain ⟨v_l_9, e14, e4⟩ := zinv e4
                replace e14 := Option.some.inj e14
                refine z_iinc fx (i := 4) (x := v_l_4) (v := v_l_9) rfl (by rw [in1]; exact e14) rfl (lv' := [(0, .ref o_), (1, .int v_k), (2, .int t1), (3, .int v_n_8), (4, .int v_l_9)]) rfl rfl d12_suspect_64 ?_
                cases e4
                refine z_goto fx d12_suspect_67 ?_
                exact ih8 _ _ hl5
              · replace e4 := zif_t c12 e4
                refine z_iload fx (i := 4) rfl d12_suspect_58 ?_
                cases e4
                cases hl5
                cases h
                exact z_ireturn fx fin d12_suspect_60
            · replace e4 := zif_t c11 e4
              refine z_goto fx d12_suspect_50 ?_
              obtain ⟨v_l_10, e15, e4⟩ := zinv e4
              replace e15 := Option.some.inj e15
              refine z_iinc fx (i := 4) (x := v_l_4) (v := v_l_10) rfl (by rw [in1]; exact e15) rfl (lv' := [(0, .ref o_), (1, .int v_k), (2, .int t1), (3, .int v_n_3), (4, .int v_l_10)]) rfl rfl d12_suspect_64 ?_
              cases e4
              refine z_goto fx d12_suspect_67 ?_
              exact ih8 _ _ hl5
      exact klr6 _ _ _ e16
    · replace h := zif_t c3 h
      refine z_iload_n fx (k := 2) (i := 2) rfl rfl d12_suspect_24 ?_
      cases h
      exact z_ireturn fx fin d12_suspect_25
  clear h
  refine z_aload_n fx (k := 0) (i := 0) rfl rfl d12_suspect_0 ?_
  refine z_getB fx 12 46 1246 ho lf12_150 ⟨fk12_46, rfl⟩ d12_suspect_1 ?_
  refine z_ifb_eq fx d12_suspect_4 (fun c17 => ?_) (fun c17 => ?_)
  · exact kt1 (by simp [c17])
  · refine z_iload_n fx (k := 1) (i := 1) rfl rfl d12_suspect_7 ?_
    refine z_iconst fx (v := (-1)) icm1 d12_suspect_8 ?_
    refine z_icmp_ge fx d12_suspect_9 (fun c18 => ?_) (fun c18 => ?_)
    · exact kf1 (by simp [c17, c18])
    · exact kt1 (by simp [c17, c18])
theorem d12_mostBy_0 : zd cX12_mostBy 0 (.iconst 0) 1 1 := by decide +kernel
theorem d12_mostBy_1 : zd cX12_mostBy 1 (.istore_n 2) 1 2 := by decide +kernel
theorem d12_mostBy_2 : zd cX12_mostBy 2 (.iconst 0) 1 3 := by decide +kernel
theorem d12_mostBy_3 : zd cX12_mostBy 3 (.istore_n 3) 1 4 := by decide +kernel
theorem d12_mostBy_4 : zd cX12_mostBy 4 (.iload_n 3) 1 5 := by decide +kernel
theorem d12_mostBy_5 : zd cX12_mostBy 5 (.iconst 4) 1 6 := by decide +kernel
theorem d12_mostBy_6 : zj cX12_mostBy 6 (.if_icmp .gt 74) 74 9 80 := by decide +kernel
theorem d12_mostBy_9 : zd cX12_mostBy 9 (.iconst 0) 1 10 := by decide +kernel
theorem d12_mostBy_10 : zd cX12_mostBy 10 (.istore 4) 2 12 := by decide +kernel
theorem d12_mostBy_12 : zd cX12_mostBy 12 (.iconst 0) 1 13 := by decide +kernel
theorem d12_mostBy_13 : zd cX12_mostBy 13 (.istore 5) 2 15 := by decide +kernel
theorem d12_mostBy_15 : zd cX12_mostBy 15 (.iload 5) 2 17 := by decide +kernel
theorem d12_mostBy_17 : zd cX12_mostBy 17 (.aload_n 0) 1 18 := by decide +kernel
theorem d12_mostBy_18 : zd cX12_mostBy 18 (.getfield 16) 3 21 := by decide +kernel
theorem d12_mostBy_21 : zj cX12_mostBy 21 (.if_icmp .gt 46) 46 24 67 := by decide +kernel
theorem d12_mostBy_24 : zd cX12_mostBy 24 (.iload 4) 2 26 := by decide +kernel
theorem d12_mostBy_26 : zd cX12_mostBy 26 (.aload_n 0) 1 27 := by decide +kernel
theorem d12_mostBy_27 : zd cX12_mostBy 27 (.getfield 181) 3 30 := by decide +kernel
theorem d12_mostBy_30 : zd cX12_mostBy 30 (.iload 5) 2 32 := by decide +kernel
theorem d12_mostBy_32 : zd cX12_mostBy 32 (.iaload) 1 33 := by decide +kernel
theorem d12_mostBy_33 : zd cX12_mostBy 33 (.iconst 1) 1 34 := by decide +kernel
theorem d12_mostBy_34 : zj cX12_mostBy 34 (.if_icmp .ne 23) 23 37 57 := by decide +kernel
theorem d12_mostBy_37 : zd cX12_mostBy 37 (.aload_n 0) 1 38 := by decide +kernel
theorem d12_mostBy_38 : zd cX12_mostBy 38 (.getfield 184) 3 41 := by decide +kernel
theorem d12_mostBy_41 : zd cX12_mostBy 41 (.bipush 48) 2 43 := by decide +kernel
theorem d12_mostBy_43 : zd cX12_mostBy 43 (.iload 5) 2 45 := by decide +kernel
theorem d12_mostBy_45 : zd cX12_mostBy 45 (.imul) 1 46 := by decide +kernel
theorem d12_mostBy_46 : zd cX12_mostBy 46 (.iload_n 1) 1 47 := by decide +kernel
theorem d12_mostBy_47 : zd cX12_mostBy 47 (.iadd) 1 48 := by decide +kernel
theorem d12_mostBy_48 : zd cX12_mostBy 48 (.iaload) 1 49 := by decide +kernel
theorem d12_mostBy_49 : zd cX12_mostBy 49 (.iload_n 3) 1 50 := by decide +kernel
theorem d12_mostBy_50 : zj cX12_mostBy 50 (.if_icmp .ne 7) 7 53 57 := by decide +kernel
theorem d12_mostBy_53 : zd cX12_mostBy 53 (.iconst 1) 1 54 := by decide +kernel
theorem d12_mostBy_54 : zj cX12_mostBy 54 (.goto 4) 4 57 58 := by decide +kernel
theorem d12_mostBy_57 : zd cX12_mostBy 57 (.iconst 0) 1 58 := by decide +kernel
theorem d12_mostBy_58 : zd cX12_mostBy 58 (.iadd) 1 59 := by decide +kernel
theorem d12_mostBy_59 : zd cX12_mostBy 59 (.istore 4) 2 61 := by decide +kernel
theorem d12_mostBy_61 : zd cX12_mostBy 61 (.iinc 5 1) 3 64 := by decide +kernel
theorem d12_mostBy_64 : zj cX12_mostBy 64 (.goto (-49)) (-49) 67 15 := by decide +kernel
theorem d12_mostBy_67 : zd cX12_mostBy 67 (.iload_n 2) 1 68 := by decide +kernel
theorem d12_mostBy_68 : zd cX12_mostBy 68 (.iload 4) 2 70 := by decide +kernel
theorem d12_mostBy_70 : zd cX12_mostBy 70 (.invokestatic 372) 3 73 := by decide +kernel
theorem d12_mostBy_73 : zd cX12_mostBy 73 (.istore_n 2) 1 74 := by decide +kernel
theorem d12_mostBy_74 : zd cX12_mostBy 74 (.iinc 3 1) 3 77 := by decide +kernel
theorem d12_mostBy_77 : zj cX12_mostBy 77 (.goto (-73)) (-73) 80 4 := by decide +kernel
theorem d12_mostBy_80 : zd cX12_mostBy 80 (.iload_n 2) 1 81 := by decide +kernel
theorem d12_mostBy_81 : zd cX12_mostBy 81 (.ireturn) 1 82 := by decide +kernel
set_option maxHeartbeats 4000000 in
set_option maxRecDepth 20000 in
theorem c12_mostBy (l : Launch) (D : zDt) (Sh : zSh) (top : Nat) (hO : zOK Sh) (o_ : Nat) (v_p : Int32) (μ : zM) (r_ : Int32) (ho : (Sh o_).1 = 19) (h : f12_mostBy o_ v_p μ = some r_) : zMet l D zK1 yX12_mostBy cX12_mostBy 6 (some .int) (zrm 1 21) [.ref o_, .int v_p] Sh top μ (some (.int r_)) Sh top μ 0 0 := by
  refine zMet_of (by decide) (Nat.le_of_ble_eq_true rfl) fun X hX1 hX2 fx fin => ?_
  subst hX1; subst hX2
  replace fx : zFix X cX12_mostBy RX12 (zrm 1 21) 6 := fx
  show zZ zK1 X (zT0 Sh top) μ 0 [(0, .ref o_), (1, .int v_p)] []
  unfold f12_mostBy at h
  refine z_iconst fx (v := 0) ic0 d12_mostBy_0 ?_
  refine z_istore_n fx (k := 2) (i := 2) rfl rfl (lv' := [(0, .ref o_), (1, .int v_p), (2, .int 0)]) rfl rfl d12_mostBy_1 ?_
  refine z_iconst fx (v := 0) ic0 d12_mostBy_2 ?_
  refine z_istore_n fx (k := 3) (i := 3) rfl rfl (lv' := [(0, .ref o_), (1, .int v_p), (2, .int 0), (3, .int 0)]) rfl rfl d12_mostBy_3 ?_
  obtain ⟨v_most_3, v_role_4, e28, h⟩ := zinv2 h
  have kx4 : zZ zK1 X (zT0 Sh top) μ 80 [(0, .ref o_), (1, .int v_p), (2, .int v_most_3), (3, .int v_role_4)] [] := by
    refine z_take 3 (lv' := [(0, .ref o_), (1, .int v_p), (2, .int v_most_3)]) rfl ?_
    refine z_iload_n fx (k := 2) (i := 2) rfl rfl d12_mostBy_80 ?_
    cases h
    exact z_ireturn fx fin d12_mostBy_81
  clear h
  have klr3 : ∀ (n : Nat) (v_most_1 : Int32) (v_role_2 : Int32), zloop (fun s => f12_mostBy_L1 o_ v_p μ s.1 s.2) n (v_most_1, v_role_2) = some (v_most_3, v_role_4) → zZ zK1 X (zT0 Sh top) μ 4 [(0, .ref o_), (1, .int v_p), (2, .int v_most_1), (3, .int v_role_2)] [] := by
    intro n
    induction n with
    | zero => intro v_most_1 v_role_2 hl2; cases hl2
    | succ n ih5 =>
      intro v_most_1 v_role_2 hl2
      obtain ⟨y, e1, hl2⟩ := zloop_inv hl2
      replace e1 : f12_mostBy_L1 o_ v_p μ v_most_1 v_role_2 = some y := e1
      unfold f12_mostBy_L1 at e1
      refine z_iload_n fx (k := 3) (i := 3) rfl rfl d12_mostBy_4 ?_
      refine z_iconst fx (v := 4) ic4 d12_mostBy_5 ?_
      refine z_icmp_gt fx d12_mostBy_6 (fun c6 => ?_) (fun c6 => ?_)
      · replace e1 := zif_t c6 e1
        cases e1
        cases hl2
        exact kx4
      · replace e1 := zif_f c6 e1
        refine z_iconst fx (v := 0) ic0 d12_mostBy_9 ?_
        refine z_istore fx (i := 4) rfl (lv' := [(0, .ref o_), (1, .int v_p), (2, .int v_most_1), (3, .int v_role_2), (4, .int 0)]) rfl rfl d12_mostBy_10 ?_
        refine z_iconst fx (v := 0) ic0 d12_mostBy_12 ?_
        refine z_istore fx (i := 5) rfl (lv' := [(0, .ref o_), (1, .int v_p), (2, .int v_most_1), (3, .int v_role_2), (4, .int 0), (5, .int 0)]) rfl rfl d12_mostBy_13 ?_
        obtain ⟨v_n_7, v_l_8, e27, e1⟩ := zinv2 e1
        have kx10 : zZ zK1 X (zT0 Sh top) μ 67 [(0, .ref o_), (1, .int v_p), (2, .int v_most_1), (3, .int v_role_2), (4, .int v_n_7), (5, .int v_l_8)] [] := by
          refine z_take 5 (lv' := [(0, .ref o_), (1, .int v_p), (2, .int v_most_1), (3, .int v_role_2), (4, .int v_n_7)]) rfl ?_
          refine z_iload_n fx (k := 2) (i := 2) rfl rfl d12_mostBy_67 ?_
          refine z_iload fx (i := 4) rfl d12_mostBy_68 ?_
          obtain ⟨t16, e25, e1⟩ := zinv e1
          refine z_cSr fx (c12_greatest (zLo X) (zDo X) Sh top hO v_most_1 v_n_7 μ _  e25) ms12_greatest ml12_372 rfl rfl rfl rfl d12_mostBy_70 ?_
          refine z_istore_n fx (k := 2) (i := 2) rfl rfl (lv' := [(0, .ref o_), (1, .int v_p), (2, .int t16), (3, .int v_role_2), (4, .int v_n_7)]) rfl rfl d12_mostBy_73 ?_
          refine z_take 4 (lv' := [(0, .ref o_), (1, .int v_p), (2, .int t16), (3, .int v_role_2)]) rfl ?_
          obtain ⟨v_role_17, e26, e1⟩ := zinv e1
          replace e26 := Option.some.inj e26
          refine z_iinc fx (i := 3) (x := v_role_2) (v := v_role_17) rfl (by rw [in1]; exact e26) rfl (lv' := [(0, .ref o_), (1, .int v_p), (2, .int t16), (3, .int v_role_17)]) rfl rfl d12_mostBy_74 ?_
          cases e1
          refine z_goto fx d12_mostBy_77 ?_
          exact ih5 _ _ hl2
        clear e1
        have klr9 : ∀ (n : Nat) (v_n_5 : Int32) (v_l_6 : Int32), zloop (fun s => f12_mostBy_L2 o_ v_p μ v_role_2 s.1 s.2) n (v_n_5, v_l_6) = some (v_n_7, v_l_8) → zZ zK1 X (zT0 Sh top) μ 15 [(0, .ref o_), (1, .int v_p), (2, .int v_most_1), (3, .int v_role_2), (4, .int v_n_5), (5, .int v_l_6)] [] := by
          intro n
          induction n with
          | zero => intro v_n_5 v_l_6 hl8; cases hl8
          | succ n ih11 =>
            intro v_n_5 v_l_6 hl8
            obtain ⟨y, e7, hl8⟩ := zloop_inv hl8
            replace e7 : f12_mostBy_L2 o_ v_p μ v_role_2 v_n_5 v_l_6 = some y := e7
            unfold f12_mostBy_L2 at e7
            refine z_iload fx (i := 5) rfl d12_mostBy_15 ?_
            refine z_aload_n fx (k := 0) (i := 0) rfl rfl d12_mostBy_17 ?_
            refine z_getI fx 12 2 1202 ho lf12_16 ⟨fk12_2, rfl⟩ d12_mostBy_18 ?_
            refine z_icmp_gt fx d12_mostBy_21 (fun c12 => ?_) (fun c12 => ?_)
            · replace e7 := zif_t c12 e7
              cases e7
              cases hl8
              exact kx10
            · replace e7 := zif_f c12 e7
              refine z_iload fx (i := 4) rfl d12_mostBy_24 ?_
              obtain ⟨x9, e13, e7⟩ := zinv e7
              have k14 : zZ zK1 X (zT0 Sh top) μ 58 [(0, .ref o_), (1, .int v_p), (2, .int v_most_1), (3, .int v_role_2), (4, .int v_n_5), (5, .int v_l_6)] [.int x9, .int v_n_5] := by
                refine z_iadd fx d12_mostBy_58 ?_
                obtain ⟨v_n_14, e23, e7⟩ := zinv e7
                replace e23 := Option.some.inj e23
                refine z_top (congrArg Value.int e23) ?_
                refine z_istore fx (i := 4) rfl (lv' := [(0, .ref o_), (1, .int v_p), (2, .int v_most_1), (3, .int v_role_2), (4, .int v_n_14), (5, .int v_l_6)]) rfl rfl d12_mostBy_59 ?_
                obtain ⟨v_l_15, e24, e7⟩ := zinv e7
                replace e24 := Option.some.inj e24
                refine z_iinc fx (i := 5) (x := v_l_6) (v := v_l_15) rfl (by rw [in1]; exact e24) rfl (lv' := [(0, .ref o_), (1, .int v_p), (2, .int v_most_1), (3, .int v_role_2), (4, .int v_n_14), (5, .int v_l_15)]) rfl rfl d12_mostBy_61 ?_
                cases e7
                refine z_goto fx d12_mostBy_64 ?_
                exact ih11 _ _ hl8
              obtain ⟨b10, e16, e13⟩ := zinv e13
              have kt15 : b10 = true → zZ zK1 X (zT0 Sh top) μ 53 [(0, .ref o_), (1, .int v_p), (2, .int v_most_1), (3, .int v_role_2), (4, .int v_n_5), (5, .int v_l_6)] [.int v_n_5] := by
                intro hc
                replace e13 := zif_t hc e13
                refine z_iconst fx (v := 1) ic1 d12_mostBy_53 ?_
                cases e13
                refine z_goto fx d12_mostBy_54 ?_
                exact k14
              have kf15 : b10 = false → zZ zK1 X (zT0 Sh top) μ 57 [(0, .ref o_), (1, .int v_p), (2, .int v_most_1), (3, .int v_role_2), (4, .int v_n_5), (5, .int v_l_6)] [.int v_n_5] := by
                intro hc
                replace e13 := zif_f hc e13
                refine z_iconst fx (v := 0) ic0 d12_mostBy_57 ?_
                cases e13
                exact k14
              clear e13
              obtain ⟨b11, e17, e16⟩ := zinv e16
              have kt18 : b11 = true → zZ zK1 X (zT0 Sh top) μ 37 [(0, .ref o_), (1, .int v_p), (2, .int v_most_1), (3, .int v_role_2), (4, .int v_n_5), (5, .int v_l_6)] [.int v_n_5] := by
                intro hc
                replace e16 := zif_t hc e16
                refine z_aload_n fx (k := 0) (i := 0) rfl rfl d12_mostBy_37 ?_
                refine z_getO fx 12 57 34 ho lf12_184 fk12_57 d12_mostBy_38 ?_
                refine z_bipush fx (v := 48) bp48 d12_mostBy_41 ?_
                refine z_iload fx (i := 5) rfl d12_mostBy_43 ?_
                refine z_imul fx d12_mostBy_45 ?_
                refine z_iload_n fx (k := 1) (i := 1) rfl rfl d12_mostBy_46 ?_
                refine z_iadd fx d12_mostBy_47 ?_
                obtain ⟨t12, e19, e16⟩ := zinv e16
                refine z_iald fx (ok12_57 hO ho) e19 d12_mostBy_48 ?_
                refine z_iload_n fx (k := 3) (i := 3) rfl rfl d12_mostBy_49 ?_
                cases e16
                refine z_icmp_ne fx d12_mostBy_50 (fun c20 => ?_) (fun c20 => ?_)
                · exact kf15 c20
                · exact kt15 c20
              have kf18 : b11 = false → zZ zK1 X (zT0 Sh top) μ 57 [(0, .ref o_), (1, .int v_p), (2, .int v_most_1), (3, .int v_role_2), (4, .int v_n_5), (5, .int v_l_6)] [.int v_n_5] := by
                intro hc
                replace e16 := zif_f hc e16
                cases e16
                exact kf15 rfl
              clear e16
              refine z_aload_n fx (k := 0) (i := 0) rfl rfl d12_mostBy_26 ?_
              refine z_getO fx 12 56 33 ho lf12_181 fk12_56 d12_mostBy_27 ?_
              refine z_iload fx (i := 5) rfl d12_mostBy_30 ?_
              obtain ⟨t13, e21, e17⟩ := zinv e17
              refine z_iald fx (ok12_56 hO ho) e21 d12_mostBy_32 ?_
              refine z_iconst fx (v := 1) ic1 d12_mostBy_33 ?_
              cases e17
              refine z_icmp_ne fx d12_mostBy_34 (fun c22 => ?_) (fun c22 => ?_)
              · exact kf18 c22
              · exact kt18 c22
        exact klr9 _ _ _ e27
  exact klr3 _ _ _ e28
theorem d12_tells_0 : zd cX12_tells 0 (.aload_n 0) 1 1 := by decide +kernel
theorem d12_tells_1 : zd cX12_tells 1 (.getfield 150) 3 4 := by decide +kernel
theorem d12_tells_4 : zj cX12_tells 4 (.ifCond .eq 19) 19 7 23 := by decide +kernel
theorem d12_tells_7 : zd cX12_tells 7 (.iload_n 1) 1 8 := by decide +kernel
theorem d12_tells_8 : zd cX12_tells 8 (.iconst 0) 1 9 := by decide +kernel
theorem d12_tells_9 : zd cX12_tells 9 (.iconst 2) 1 10 := by decide +kernel
theorem d12_tells_10 : zd cX12_tells 10 (.invokestatic 250) 3 13 := by decide +kernel
theorem d12_tells_13 : zj cX12_tells 13 (.ifCond .eq 10) 10 16 23 := by decide +kernel
theorem d12_tells_16 : zd cX12_tells 16 (.aload_n 0) 1 17 := by decide +kernel
theorem d12_tells_17 : zd cX12_tells 17 (.invokevirtual 535) 3 20 := by decide +kernel
theorem d12_tells_20 : zj cX12_tells 20 (.ifCond .ne 5) 5 23 25 := by decide +kernel
theorem d12_tells_23 : zd cX12_tells 23 (.iconst (-1)) 1 24 := by decide +kernel
theorem d12_tells_24 : zd cX12_tells 24 (.ireturn) 1 25 := by decide +kernel
theorem d12_tells_25 : zd cX12_tells 25 (.iconst (-1)) 1 26 := by decide +kernel
theorem d12_tells_26 : zd cX12_tells 26 (.istore_n 2) 1 27 := by decide +kernel
theorem d12_tells_27 : zd cX12_tells 27 (.ldc_w 489) 3 30 := by decide +kernel
theorem d12_tells_30 : zd cX12_tells 30 (.istore_n 3) 1 31 := by decide +kernel
theorem d12_tells_31 : zd cX12_tells 31 (.iconst 0) 1 32 := by decide +kernel
theorem d12_tells_32 : zd cX12_tells 32 (.istore 4) 2 34 := by decide +kernel
theorem d12_tells_34 : zd cX12_tells 34 (.iload 4) 2 36 := by decide +kernel
theorem d12_tells_36 : zd cX12_tells 36 (.aload_n 0) 1 37 := by decide +kernel
theorem d12_tells_37 : zd cX12_tells 37 (.getfield 13) 3 40 := by decide +kernel
theorem d12_tells_40 : zj cX12_tells 40 (.if_icmp .ge 63) 63 43 103 := by decide +kernel
theorem d12_tells_43 : zd cX12_tells 43 (.iload 4) 2 45 := by decide +kernel
theorem d12_tells_45 : zd cX12_tells 45 (.iconst 0) 1 46 := by decide +kernel
theorem d12_tells_46 : zd cX12_tells 46 (.invokestatic 325) 3 49 := by decide +kernel
theorem d12_tells_49 : zd cX12_tells 49 (.istore 5) 2 51 := by decide +kernel
theorem d12_tells_51 : zd cX12_tells 51 (.iload 5) 2 53 := by decide +kernel
theorem d12_tells_53 : zd cX12_tells 53 (.iload 4) 2 55 := by decide +kernel
theorem d12_tells_55 : zd cX12_tells 55 (.aload_n 0) 1 56 := by decide +kernel
theorem d12_tells_56 : zd cX12_tells 56 (.getfield 35) 3 59 := by decide +kernel
theorem d12_tells_59 : zd cX12_tells 59 (.iload 4) 2 61 := by decide +kernel
theorem d12_tells_61 : zd cX12_tells 61 (.iaload) 1 62 := by decide +kernel
theorem d12_tells_62 : zd cX12_tells 62 (.invokestatic 325) 3 65 := by decide +kernel
theorem d12_tells_65 : zj cX12_tells 65 (.if_icmp .ge 32) 32 68 97 := by decide +kernel
theorem d12_tells_68 : zd cX12_tells 68 (.aload_n 0) 1 69 := by decide +kernel
theorem d12_tells_69 : zd cX12_tells 69 (.iload 5) 2 71 := by decide +kernel
theorem d12_tells_71 : zd cX12_tells 71 (.invokevirtual 538) 3 74 := by decide +kernel
theorem d12_tells_74 : zd cX12_tells 74 (.istore 6) 2 76 := by decide +kernel
theorem d12_tells_76 : zd cX12_tells 76 (.iload 6) 2 78 := by decide +kernel
theorem d12_tells_78 : zd cX12_tells 78 (.iload_n 3) 1 79 := by decide +kernel
theorem d12_tells_79 : zj cX12_tells 79 (.if_icmp .lt 6) 6 82 85 := by decide +kernel
theorem d12_tells_82 : zj cX12_tells 82 (.goto 9) 9 85 91 := by decide +kernel
theorem d12_tells_85 : zd cX12_tells 85 (.iload 6) 2 87 := by decide +kernel
theorem d12_tells_87 : zd cX12_tells 87 (.istore_n 3) 1 88 := by decide +kernel
theorem d12_tells_88 : zd cX12_tells 88 (.iload 5) 2 90 := by decide +kernel
theorem d12_tells_90 : zd cX12_tells 90 (.istore_n 2) 1 91 := by decide +kernel
theorem d12_tells_91 : zd cX12_tells 91 (.iinc 5 1) 3 94 := by decide +kernel
theorem d12_tells_94 : zj cX12_tells 94 (.goto (-43)) (-43) 97 51 := by decide +kernel
theorem d12_tells_97 : zd cX12_tells 97 (.iinc 4 1) 3 100 := by decide +kernel
theorem d12_tells_100 : zj cX12_tells 100 (.goto (-66)) (-66) 103 34 := by decide +kernel
theorem d12_tells_103 : zd cX12_tells 103 (.iload_n 2) 1 104 := by decide +kernel
theorem d12_tells_104 : zd cX12_tells 104 (.iconst (-1)) 1 105 := by decide +kernel
theorem d12_tells_105 : zj cX12_tells 105 (.if_icmp .ne 7) 7 108 112 := by decide +kernel
theorem d12_tells_108 : zd cX12_tells 108 (.iconst (-1)) 1 109 := by decide +kernel
theorem d12_tells_109 : zj cX12_tells 109 (.goto 27) 27 112 136 := by decide +kernel
theorem d12_tells_112 : zd cX12_tells 112 (.iload_n 1) 1 113 := by decide +kernel
theorem d12_tells_113 : zj cX12_tells 113 (.ifCond .ne 10) 10 116 123 := by decide +kernel
theorem d12_tells_116 : zd cX12_tells 116 (.iload_n 2) 1 117 := by decide +kernel
theorem d12_tells_117 : zd cX12_tells 117 (.bipush 6) 2 119 := by decide +kernel
theorem d12_tells_119 : zd cX12_tells 119 (.idiv) 1 120 := by decide +kernel
theorem d12_tells_120 : zj cX12_tells 120 (.goto 16) 16 123 136 := by decide +kernel
theorem d12_tells_123 : zd cX12_tells 123 (.iload_n 1) 1 124 := by decide +kernel
theorem d12_tells_124 : zd cX12_tells 124 (.iconst 1) 1 125 := by decide +kernel
theorem d12_tells_125 : zj cX12_tells 125 (.if_icmp .ne 10) 10 128 135 := by decide +kernel
theorem d12_tells_128 : zd cX12_tells 128 (.iload_n 2) 1 129 := by decide +kernel
theorem d12_tells_129 : zd cX12_tells 129 (.bipush 6) 2 131 := by decide +kernel
theorem d12_tells_131 : zd cX12_tells 131 (.irem) 1 132 := by decide +kernel
theorem d12_tells_132 : zj cX12_tells 132 (.goto 4) 4 135 136 := by decide +kernel
theorem d12_tells_135 : zd cX12_tells 135 (.iload_n 3) 1 136 := by decide +kernel
theorem d12_tells_136 : zd cX12_tells 136 (.ireturn) 1 137 := by decide +kernel
set_option maxHeartbeats 4000000 in
set_option maxRecDepth 20000 in
theorem c12_tells (l : Launch) (D : zDt) (Sh : zSh) (top : Nat) (hO : zOK Sh) (o_ : Nat) (v_what : Int32) (μ : zM) (r_ : Int32) (μ_ : zM) (ho : (Sh o_).1 = 19) (h : f12_tells o_ v_what μ = some (r_, μ_)) : zMet l D zK1 yX12_tells cX12_tells 7 (some .int) (zrm 13 298) [.ref o_, .int v_what] Sh top μ (some (.int r_)) Sh top μ_ 0 0 := by
  refine zMet_of (by decide) (Nat.le_of_ble_eq_true rfl) fun X hX1 hX2 fx fin => ?_
  subst hX1; subst hX2
  replace fx : zFix X cX12_tells RX12 (zrm 13 298) 7 := fx
  show zZ zK1 X (zT0 Sh top) μ 0 [(0, .ref o_), (1, .int v_what)] []
  unfold f12_tells at h
  obtain ⟨b1, μ2, e2, h⟩ := zinv2 h
  have kt1 : b1 = true → zZ zK1 X (zT0 Sh top) μ2 23 [(0, .ref o_), (1, .int v_what)] [] := by
    intro hc
    replace h := zif_t hc h
    refine z_iconst fx (v := (-1)) icm1 d12_tells_23 ?_
    cases h
    exact z_ireturn fx fin d12_tells_24
  have kf1 : b1 = false → zZ zK1 X (zT0 Sh top) μ2 25 [(0, .ref o_), (1, .int v_what)] [] := by
    intro hc
    replace h := zif_f hc h
    refine z_iconst fx (v := (-1)) icm1 d12_tells_25 ?_
    refine z_istore_n fx (k := 2) (i := 2) rfl rfl (lv' := [(0, .ref o_), (1, .int v_what), (2, .int (-1))]) rfl rfl d12_tells_26 ?_
    refine z_ldcw fx (v := 100000000) kc12_489 d12_tells_27 ?_
    refine z_istore_n fx (k := 3) (i := 3) rfl rfl (lv' := [(0, .ref o_), (1, .int v_what), (2, .int (-1)), (3, .int 100000000)]) rfl rfl d12_tells_30 ?_
    refine z_iconst fx (v := 0) ic0 d12_tells_31 ?_
    refine z_istore fx (i := 4) rfl (lv' := [(0, .ref o_), (1, .int v_what), (2, .int (-1)), (3, .int 100000000), (4, .int 0)]) rfl rfl d12_tells_32 ?_
    obtain ⟨v_best_6, v_least_7, v_b_8, e35, h⟩ := zinv3 h
    have kx6 : zZ zK1 X (zT0 Sh top) μ2 103 [(0, .ref o_), (1, .int v_what), (2, .int v_best_6), (3, .int v_least_7), (4, .int v_b_8)] [] := by
      refine z_take 4 (lv' := [(0, .ref o_), (1, .int v_what), (2, .int v_best_6), (3, .int v_least_7)]) rfl ?_
      obtain ⟨x22, e24, h⟩ := zinv h
      have k25 : zZ zK1 X (zT0 Sh top) μ2 136 [(0, .ref o_), (1, .int v_what), (2, .int v_best_6), (3, .int v_least_7)] [.int x22] := by
        cases h
        exact z_ireturn fx fin d12_tells_136
      refine z_iload_n fx (k := 2) (i := 2) rfl rfl d12_tells_103 ?_
      refine z_iconst fx (v := (-1)) icm1 d12_tells_104 ?_
      refine z_icmp_ne fx d12_tells_105 (fun c26 => ?_) (fun c26 => ?_)
      · replace e24 := zif_f c26 e24
        obtain ⟨x23, e27, e24⟩ := zinv e24
        have k28 : zZ zK1 X (zT0 Sh top) μ2 136 [(0, .ref o_), (1, .int v_what), (2, .int v_best_6), (3, .int v_least_7)] [.int x23] := by
          cases e24
          exact k25
        refine z_iload_n fx (k := 1) (i := 1) rfl rfl d12_tells_112 ?_
        refine z_if_ne fx d12_tells_113 (fun c29 => ?_) (fun c29 => ?_)
        · replace e27 := zif_f c29 e27
          obtain ⟨x24, e30, e27⟩ := zinv e27
          have k31 : zZ zK1 X (zT0 Sh top) μ2 136 [(0, .ref o_), (1, .int v_what), (2, .int v_best_6), (3, .int v_least_7)] [.int x24] := by
            cases e27
            exact k28
          refine z_iload_n fx (k := 1) (i := 1) rfl rfl d12_tells_123 ?_
          refine z_iconst fx (v := 1) ic1 d12_tells_124 ?_
          refine z_icmp_ne fx d12_tells_125 (fun c32 => ?_) (fun c32 => ?_)
          · replace e30 := zif_f c32 e30
            refine z_iload_n fx (k := 3) (i := 3) rfl rfl d12_tells_135 ?_
            cases e30
            exact k31
          · replace e30 := zif_t c32 e30
            refine z_iload_n fx (k := 2) (i := 2) rfl rfl d12_tells_128 ?_
            refine z_bipush fx (v := 6) bp6 d12_tells_129 ?_
            obtain ⟨t25, e33, e30⟩ := zinv e30
            refine z_irem fx e33 d12_tells_131 ?_
            cases e30
            refine z_goto fx d12_tells_132 ?_
            exact k31
        · replace e27 := zif_t c29 e27
          refine z_iload_n fx (k := 2) (i := 2) rfl rfl d12_tells_116 ?_
          refine z_bipush fx (v := 6) bp6 d12_tells_117 ?_
          obtain ⟨t26, e34, e27⟩ := zinv e27
          refine z_idiv fx e34 d12_tells_119 ?_
          cases e27
          refine z_goto fx d12_tells_120 ?_
          exact k28
      · replace e24 := zif_t c26 e24
        refine z_iconst fx (v := (-1)) icm1 d12_tells_108 ?_
        cases e24
        refine z_goto fx d12_tells_109 ?_
        exact k25
    clear h
    have klr5 : ∀ (n : Nat) (v_best_3 : Int32) (v_least_4 : Int32) (v_b_5 : Int32), zloop (fun s => f12_tells_L1 o_ μ2 s.1 s.2.1 s.2.2) n (v_best_3, v_least_4, v_b_5) = some (v_best_6, v_least_7, v_b_8) → zZ zK1 X (zT0 Sh top) μ2 34 [(0, .ref o_), (1, .int v_what), (2, .int v_best_3), (3, .int v_least_4), (4, .int v_b_5)] [] := by
      intro n
      induction n with
      | zero => intro v_best_3 v_least_4 v_b_5 hl4; cases hl4
      | succ n ih7 =>
        intro v_best_3 v_least_4 v_b_5 hl4
        obtain ⟨y, e3, hl4⟩ := zloop_inv hl4
        replace e3 : f12_tells_L1 o_ μ2 v_best_3 v_least_4 v_b_5 = some y := e3
        unfold f12_tells_L1 at e3
        refine z_iload fx (i := 4) rfl d12_tells_34 ?_
        refine z_aload_n fx (k := 0) (i := 0) rfl rfl d12_tells_36 ?_
        refine z_getI fx 12 1 1201 ho lf12_13 ⟨fk12_1, rfl⟩ d12_tells_37 ?_
        refine z_icmp_ge fx d12_tells_40 (fun c8 => ?_) (fun c8 => ?_)
        · replace e3 := zif_f c8 e3
          cases e3
          cases hl4
          exact kx6
        · replace e3 := zif_t c8 e3
          refine z_iload fx (i := 4) rfl d12_tells_43 ?_
          refine z_iconst fx (v := 0) ic0 d12_tells_45 ?_
          obtain ⟨t9, e9, e3⟩ := zinv e3
          refine z_cSr fx (c12_placeOf (zLo X) (zDo X) Sh top hO v_b_5 0 μ2 _  e9) ms12_placeOf ml12_325 rfl rfl rfl rfl d12_tells_46 ?_
          refine z_istore fx (i := 5) rfl (lv' := [(0, .ref o_), (1, .int v_what), (2, .int v_best_3), (3, .int v_least_4), (4, .int v_b_5), (5, .int t9)]) rfl rfl d12_tells_49 ?_
          obtain ⟨v_best_13, v_least_14, v_p_15, e23, e3⟩ := zinv3 e3
          have kx13 : zZ zK1 X (zT0 Sh top) μ2 97 [(0, .ref o_), (1, .int v_what), (2, .int v_best_13), (3, .int v_least_14), (4, .int v_b_5), (5, .int v_p_15)] [] := by
            refine z_take 5 (lv' := [(0, .ref o_), (1, .int v_what), (2, .int v_best_13), (3, .int v_least_14), (4, .int v_b_5)]) rfl ?_
            obtain ⟨v_b_21, e22, e3⟩ := zinv e3
            replace e22 := Option.some.inj e22
            refine z_iinc fx (i := 4) (x := v_b_5) (v := v_b_21) rfl (by rw [in1]; exact e22) rfl (lv' := [(0, .ref o_), (1, .int v_what), (2, .int v_best_13), (3, .int v_least_14), (4, .int v_b_21)]) rfl rfl d12_tells_97 ?_
            cases e3
            refine z_goto fx d12_tells_100 ?_
            exact ih7 _ _ _ hl4
          clear e3
          have klr12 : ∀ (n : Nat) (v_best_10 : Int32) (v_least_11 : Int32) (v_p_12 : Int32), zloop (fun s => f12_tells_L2 o_ μ2 v_b_5 s.1 s.2.1 s.2.2) n (v_best_10, v_least_11, v_p_12) = some (v_best_13, v_least_14, v_p_15) → zZ zK1 X (zT0 Sh top) μ2 51 [(0, .ref o_), (1, .int v_what), (2, .int v_best_10), (3, .int v_least_11), (4, .int v_b_5), (5, .int v_p_12)] [] := by
            intro n
            induction n with
            | zero => intro v_best_10 v_least_11 v_p_12 hl11; cases hl11
            | succ n ih14 =>
              intro v_best_10 v_least_11 v_p_12 hl11
              obtain ⟨y, e10, hl11⟩ := zloop_inv hl11
              replace e10 : f12_tells_L2 o_ μ2 v_b_5 v_best_10 v_least_11 v_p_12 = some y := e10
              unfold f12_tells_L2 at e10
              refine z_iload fx (i := 5) rfl d12_tells_51 ?_
              refine z_iload fx (i := 4) rfl d12_tells_53 ?_
              refine z_aload_n fx (k := 0) (i := 0) rfl rfl d12_tells_55 ?_
              refine z_getO fx 12 8 3 ho lf12_35 fk12_8 d12_tells_56 ?_
              refine z_iload fx (i := 4) rfl d12_tells_59 ?_
              obtain ⟨t16, e15, e10⟩ := zinv e10
              refine z_iald fx (ok12_8 hO ho) e15 d12_tells_61 ?_
              obtain ⟨t17, e16, e10⟩ := zinv e10
              refine z_cSr fx (c12_placeOf (zLo X) (zDo X) Sh top hO v_b_5 t16 μ2 _  e16) ms12_placeOf ml12_325 rfl rfl rfl rfl d12_tells_62 ?_
              refine z_icmp_ge fx d12_tells_65 (fun c17 => ?_) (fun c17 => ?_)
              · replace e10 := zif_f c17 e10
                cases e10
                cases hl11
                exact kx13
              · replace e10 := zif_t c17 e10
                refine z_aload_n fx (k := 0) (i := 0) rfl rfl d12_tells_68 ?_
                refine z_iload fx (i := 5) rfl d12_tells_69 ?_
                obtain ⟨t18, e18, e10⟩ := zinv e10
                refine z_cVr fx (c12_mostBy (zLo X) (zDo X) Sh top hO o_ v_p_12 μ2 _ ho e18) mv12_mostBy ml12_538 ho rfl rfl rfl rfl d12_tells_71 ?_
                refine z_istore fx (i := 6) rfl (lv' := [(0, .ref o_), (1, .int v_what), (2, .int v_best_10), (3, .int v_least_11), (4, .int v_b_5), (5, .int v_p_12), (6, .int t18)]) rfl rfl d12_tells_74 ?_
                refine z_iload fx (i := 6) rfl d12_tells_76 ?_
                refine z_iload_n fx (k := 3) (i := 3) rfl rfl d12_tells_78 ?_
                refine z_icmp_lt fx d12_tells_79 (fun c19 => ?_) (fun c19 => ?_)
                · replace e10 := zif_t c19 e10
                  refine z_iload fx (i := 6) rfl d12_tells_85 ?_
                  refine z_istore_n fx (k := 3) (i := 3) rfl rfl (lv' := [(0, .ref o_), (1, .int v_what), (2, .int v_best_10), (3, .int t18), (4, .int v_b_5), (5, .int v_p_12), (6, .int t18)]) rfl rfl d12_tells_87 ?_
                  refine z_iload fx (i := 5) rfl d12_tells_88 ?_
                  refine z_istore_n fx (k := 2) (i := 2) rfl rfl (lv' := [(0, .ref o_), (1, .int v_what), (2, .int v_p_12), (3, .int t18), (4, .int v_b_5), (5, .int v_p_12), (6, .int t18)]) rfl rfl d12_tells_90 ?_
                  refine z_take 6 (lv' := [(0, .ref o_), (1, .int v_what), (2, .int v_p_12), (3, .int t18), (4, .int v_b_5), (5, .int v_p_12)]) rfl ?_
                  obtain ⟨v_p_19, e20, e10⟩ := zinv e10
                  replace e20 := Option.some.inj e20
                  refine z_iinc fx (i := 5) (x := v_p_12) (v := v_p_19) rfl (by rw [in1]; exact e20) rfl (lv' := [(0, .ref o_), (1, .int v_what), (2, .int v_p_12), (3, .int t18), (4, .int v_b_5), (5, .int v_p_19)]) rfl rfl d12_tells_91 ?_
                  cases e10
                  refine z_goto fx d12_tells_94 ?_
                  exact ih14 _ _ _ hl11
                · replace e10 := zif_f c19 e10
                  refine z_take 6 (lv' := [(0, .ref o_), (1, .int v_what), (2, .int v_best_10), (3, .int v_least_11), (4, .int v_b_5), (5, .int v_p_12)]) rfl ?_
                  refine z_goto fx d12_tells_82 ?_
                  obtain ⟨v_p_20, e21, e10⟩ := zinv e10
                  replace e21 := Option.some.inj e21
                  refine z_iinc fx (i := 5) (x := v_p_12) (v := v_p_20) rfl (by rw [in1]; exact e21) rfl (lv' := [(0, .ref o_), (1, .int v_what), (2, .int v_best_10), (3, .int v_least_11), (4, .int v_b_5), (5, .int v_p_20)]) rfl rfl d12_tells_91 ?_
                  cases e10
                  refine z_goto fx d12_tells_94 ?_
                  exact ih14 _ _ _ hl11
          exact klr12 _ _ _ _ e23
    exact klr5 _ _ _ _ e35
  clear h
  obtain ⟨b27, e36, e2⟩ := zinv e2
  have kf37 : b27 = false → zZ zK1 X (zT0 Sh top) μ 16 [(0, .ref o_), (1, .int v_what)] [] := by
    intro hc
    replace e2 := zif_f hc e2
    refine z_aload_n fx (k := 0) (i := 0) rfl rfl d12_tells_16 ?_
    obtain ⟨t28, μ29, e38, e2⟩ := zinv2 e2
    refine z_cVr fx (c12_laysSuspects (zLo X) (zDo X) Sh top hO o_ μ _ _ ho e38) mv12_laysSuspects ml12_535 ho rfl rfl rfl rfl d12_tells_17 ?_
    cases e2
    refine z_if_ne fx d12_tells_20 (fun c39 => ?_) (fun c39 => ?_)
    · exact kf1 c39
    · exact kt1 c39
  have kt37 : b27 = true → zZ zK1 X (zT0 Sh top) μ 23 [(0, .ref o_), (1, .int v_what)] [] := by
    intro hc
    replace e2 := zif_t hc e2
    cases e2
    exact kt1 rfl
  clear e2
  refine z_aload_n fx (k := 0) (i := 0) rfl rfl d12_tells_0 ?_
  refine z_getB fx 12 46 1246 ho lf12_150 ⟨fk12_46, rfl⟩ d12_tells_1 ?_
  refine z_ifb_eq fx d12_tells_4 (fun c40 => ?_) (fun c40 => ?_)
  · replace e36 := zif_f c40 e36
    cases e36
    exact kt37 rfl
  · replace e36 := zif_t c40 e36
    refine z_iload_n fx (k := 1) (i := 1) rfl rfl d12_tells_7 ?_
    refine z_iconst fx (v := 0) ic0 d12_tells_8 ?_
    refine z_iconst fx (v := 2) ic2 d12_tells_9 ?_
    obtain ⟨t30, e41, e36⟩ := zinv e36
    refine z_cSr fx (c12_isIn (zLo X) (zDo X) Sh top hO v_what 0 2 μ _  e41) ms12_isIn ml12_250 rfl rfl rfl rfl d12_tells_10 ?_
    cases e36
    refine z_ifb_eq fx d12_tells_13 (fun c42 => ?_) (fun c42 => ?_)
    · exact kt37 (by rw [c42]; rfl)
    · exact kf37 (by rw [c42]; rfl)
theorem d12_centre_0 : zd cX12_centre 0 (.aload_n 0) 1 1 := by decide +kernel
theorem d12_centre_1 : zd cX12_centre 1 (.iconst 0) 1 2 := by decide +kernel
theorem d12_centre_2 : zd cX12_centre 2 (.putfield 144) 3 5 := by decide +kernel
theorem d12_centre_5 : zd cX12_centre 5 (.iload_n 1) 1 6 := by decide +kernel
theorem d12_centre_6 : zd cX12_centre 6 (.iconst 0) 1 7 := by decide +kernel
theorem d12_centre_7 : zd cX12_centre 7 (.iconst 2) 1 8 := by decide +kernel
theorem d12_centre_8 : zd cX12_centre 8 (.invokestatic 250) 3 11 := by decide +kernel
theorem d12_centre_11 : zj cX12_centre 11 (.ifCond .ne 5) 5 14 16 := by decide +kernel
theorem d12_centre_14 : zd cX12_centre 14 (.iconst (-1)) 1 15 := by decide +kernel
theorem d12_centre_15 : zd cX12_centre 15 (.ireturn) 1 16 := by decide +kernel
theorem d12_centre_16 : zd cX12_centre 16 (.aload_n 0) 1 17 := by decide +kernel
theorem d12_centre_17 : zd cX12_centre 17 (.invokevirtual 496) 3 20 := by decide +kernel
theorem d12_centre_20 : zd cX12_centre 20 (.iconst (-1)) 1 21 := by decide +kernel
theorem d12_centre_21 : zd cX12_centre 21 (.istore_n 2) 1 22 := by decide +kernel
theorem d12_centre_22 : zd cX12_centre 22 (.iconst 0) 1 23 := by decide +kernel
theorem d12_centre_23 : zd cX12_centre 23 (.istore_n 3) 1 24 := by decide +kernel
theorem d12_centre_24 : zd cX12_centre 24 (.iconst 0) 1 25 := by decide +kernel
theorem d12_centre_25 : zd cX12_centre 25 (.istore 4) 2 27 := by decide +kernel
theorem d12_centre_27 : zd cX12_centre 27 (.iconst 0) 1 28 := by decide +kernel
theorem d12_centre_28 : zd cX12_centre 28 (.istore 5) 2 30 := by decide +kernel
theorem d12_centre_30 : zd cX12_centre 30 (.iload 5) 2 32 := by decide +kernel
theorem d12_centre_32 : zd cX12_centre 32 (.aload_n 0) 1 33 := by decide +kernel
theorem d12_centre_33 : zd cX12_centre 33 (.getfield 13) 3 36 := by decide +kernel
theorem d12_centre_36 : zj cX12_centre 36 (.if_icmp .ge 118) 118 39 154 := by decide +kernel
theorem d12_centre_39 : zd cX12_centre 39 (.iconst 0) 1 40 := by decide +kernel
theorem d12_centre_40 : zd cX12_centre 40 (.istore 6) 2 42 := by decide +kernel
theorem d12_centre_42 : zd cX12_centre 42 (.iconst 0) 1 43 := by decide +kernel
theorem d12_centre_43 : zd cX12_centre 43 (.istore 7) 2 45 := by decide +kernel
theorem d12_centre_45 : zd cX12_centre 45 (.iconst 0) 1 46 := by decide +kernel
theorem d12_centre_46 : zd cX12_centre 46 (.istore 8) 2 48 := by decide +kernel
theorem d12_centre_48 : zd cX12_centre 48 (.iload 8) 2 50 := by decide +kernel
theorem d12_centre_50 : zd cX12_centre 50 (.aload_n 0) 1 51 := by decide +kernel
theorem d12_centre_51 : zd cX12_centre 51 (.getfield 13) 3 54 := by decide +kernel
theorem d12_centre_54 : zj cX12_centre 54 (.if_icmp .ge 52) 52 57 106 := by decide +kernel
theorem d12_centre_57 : zd cX12_centre 57 (.aload_n 0) 1 58 := by decide +kernel
theorem d12_centre_58 : zd cX12_centre 58 (.getfield 160) 3 61 := by decide +kernel
theorem d12_centre_61 : zd cX12_centre 61 (.bipush 8) 2 63 := by decide +kernel
theorem d12_centre_63 : zd cX12_centre 63 (.iload 5) 2 65 := by decide +kernel
theorem d12_centre_65 : zd cX12_centre 65 (.imul) 1 66 := by decide +kernel
theorem d12_centre_66 : zd cX12_centre 66 (.iload 8) 2 68 := by decide +kernel
theorem d12_centre_68 : zd cX12_centre 68 (.iadd) 1 69 := by decide +kernel
theorem d12_centre_69 : zd cX12_centre 69 (.iaload) 1 70 := by decide +kernel
theorem d12_centre_70 : zd cX12_centre 70 (.ldc_w 489) 3 73 := by decide +kernel
theorem d12_centre_73 : zj cX12_centre 73 (.if_icmp .lt 6) 6 76 79 := by decide +kernel
theorem d12_centre_76 : zj cX12_centre 76 (.goto 24) 24 79 100 := by decide +kernel
theorem d12_centre_79 : zd cX12_centre 79 (.iinc 6 1) 3 82 := by decide +kernel
theorem d12_centre_82 : zd cX12_centre 82 (.iload 7) 2 84 := by decide +kernel
theorem d12_centre_84 : zd cX12_centre 84 (.aload_n 0) 1 85 := by decide +kernel
theorem d12_centre_85 : zd cX12_centre 85 (.getfield 160) 3 88 := by decide +kernel
theorem d12_centre_88 : zd cX12_centre 88 (.bipush 8) 2 90 := by decide +kernel
theorem d12_centre_90 : zd cX12_centre 90 (.iload 5) 2 92 := by decide +kernel
theorem d12_centre_92 : zd cX12_centre 92 (.imul) 1 93 := by decide +kernel
theorem d12_centre_93 : zd cX12_centre 93 (.iload 8) 2 95 := by decide +kernel
theorem d12_centre_95 : zd cX12_centre 95 (.iadd) 1 96 := by decide +kernel
theorem d12_centre_96 : zd cX12_centre 96 (.iaload) 1 97 := by decide +kernel
theorem d12_centre_97 : zd cX12_centre 97 (.iadd) 1 98 := by decide +kernel
theorem d12_centre_98 : zd cX12_centre 98 (.istore 7) 2 100 := by decide +kernel
theorem d12_centre_100 : zd cX12_centre 100 (.iinc 8 1) 3 103 := by decide +kernel
theorem d12_centre_103 : zj cX12_centre 103 (.goto (-55)) (-55) 106 48 := by decide +kernel
theorem d12_centre_106 : zd cX12_centre 106 (.iload 6) 2 108 := by decide +kernel
theorem d12_centre_108 : zd cX12_centre 108 (.iload_n 3) 1 109 := by decide +kernel
theorem d12_centre_109 : zj cX12_centre 109 (.if_icmp .lt 39) 39 112 148 := by decide +kernel
theorem d12_centre_112 : zd cX12_centre 112 (.iload 6) 2 114 := by decide +kernel
theorem d12_centre_114 : zj cX12_centre 114 (.ifCond .eq 34) 34 117 148 := by decide +kernel
theorem d12_centre_117 : zd cX12_centre 117 (.iload 6) 2 119 := by decide +kernel
theorem d12_centre_119 : zd cX12_centre 119 (.iload_n 3) 1 120 := by decide +kernel
theorem d12_centre_120 : zj cX12_centre 120 (.if_icmp .ne 18) 18 123 138 := by decide +kernel
theorem d12_centre_123 : zd cX12_centre 123 (.iload_n 2) 1 124 := by decide +kernel
theorem d12_centre_124 : zd cX12_centre 124 (.iconst (-1)) 1 125 := by decide +kernel
theorem d12_centre_125 : zj cX12_centre 125 (.if_icmp .eq 13) 13 128 138 := by decide +kernel
theorem d12_centre_128 : zd cX12_centre 128 (.iload 7) 2 130 := by decide +kernel
theorem d12_centre_130 : zd cX12_centre 130 (.iload 4) 2 132 := by decide +kernel
theorem d12_centre_132 : zj cX12_centre 132 (.if_icmp .lt 6) 6 135 138 := by decide +kernel
theorem d12_centre_135 : zj cX12_centre 135 (.goto 13) 13 138 148 := by decide +kernel
theorem d12_centre_138 : zd cX12_centre 138 (.iload 5) 2 140 := by decide +kernel
theorem d12_centre_140 : zd cX12_centre 140 (.istore_n 2) 1 141 := by decide +kernel
theorem d12_centre_141 : zd cX12_centre 141 (.iload 6) 2 143 := by decide +kernel
theorem d12_centre_143 : zd cX12_centre 143 (.istore_n 3) 1 144 := by decide +kernel
theorem d12_centre_144 : zd cX12_centre 144 (.iload 7) 2 146 := by decide +kernel
theorem d12_centre_146 : zd cX12_centre 146 (.istore 4) 2 148 := by decide +kernel
theorem d12_centre_148 : zd cX12_centre 148 (.iinc 5 1) 3 151 := by decide +kernel
theorem d12_centre_151 : zj cX12_centre 151 (.goto (-121)) (-121) 154 30 := by decide +kernel
theorem d12_centre_154 : zd cX12_centre 154 (.iload_n 2) 1 155 := by decide +kernel
theorem d12_centre_155 : zd cX12_centre 155 (.iconst (-1)) 1 156 := by decide +kernel
theorem d12_centre_156 : zj cX12_centre 156 (.if_icmp .eq 7) 7 159 163 := by decide +kernel
theorem d12_centre_159 : zd cX12_centre 159 (.iload_n 1) 1 160 := by decide +kernel
theorem d12_centre_160 : zj cX12_centre 160 (.ifCond .ne 7) 7 163 167 := by decide +kernel
theorem d12_centre_163 : zd cX12_centre 163 (.iload_n 2) 1 164 := by decide +kernel
theorem d12_centre_164 : zj cX12_centre 164 (.goto 14) 14 167 178 := by decide +kernel
theorem d12_centre_167 : zd cX12_centre 167 (.iload_n 1) 1 168 := by decide +kernel
theorem d12_centre_168 : zd cX12_centre 168 (.iconst 1) 1 169 := by decide +kernel
theorem d12_centre_169 : zj cX12_centre 169 (.if_icmp .ne 7) 7 172 176 := by decide +kernel
theorem d12_centre_172 : zd cX12_centre 172 (.iload_n 3) 1 173 := by decide +kernel
theorem d12_centre_173 : zj cX12_centre 173 (.goto 5) 5 176 178 := by decide +kernel
theorem d12_centre_176 : zd cX12_centre 176 (.iload 4) 2 178 := by decide +kernel
theorem d12_centre_178 : zd cX12_centre 178 (.ireturn) 1 179 := by decide +kernel
set_option maxHeartbeats 4000000 in
set_option maxRecDepth 20000 in
theorem c12_centre (l : Launch) (D : zDt) (Sh : zSh) (top : Nat) (hO : zOK Sh) (o_ : Nat) (v_what : Int32) (μ : zM) (r_ : Int32) (μ_ : zM) (ho : (Sh o_).1 = 19) (h : f12_centre o_ v_what μ = some (r_, μ_)) : zMet l D zK1 yX12_centre cX12_centre 9 (some .int) (zrm 5 108) [.ref o_, .int v_what] Sh top μ (some (.int r_)) Sh top μ_ 0 0 := by
  refine zMet_of (by decide) (Nat.le_of_ble_eq_true rfl) fun X hX1 hX2 fx fin => ?_
  subst hX1; subst hX2
  replace fx : zFix X cX12_centre RX12 (zrm 5 108) 9 := fx
  show zZ zK1 X (zT0 Sh top) μ 0 [(0, .ref o_), (1, .int v_what)] []
  unfold f12_centre at h
  refine z_aload_n fx (k := 0) (i := 0) rfl rfl d12_centre_0 ?_
  refine z_iconst fx (v := 0) ic0 d12_centre_1 ?_
  obtain ⟨μ1, e1, h⟩ := zinv h
  refine z_putI fx (ci := 12) 44 ho lf12_144 fp12_44 e1 d12_centre_2 ?_
  refine z_iload_n fx (k := 1) (i := 1) rfl rfl d12_centre_5 ?_
  refine z_iconst fx (v := 0) ic0 d12_centre_6 ?_
  refine z_iconst fx (v := 2) ic2 d12_centre_7 ?_
  obtain ⟨t2, e2, h⟩ := zinv h
  refine z_cSr fx (c12_isIn (zLo X) (zDo X) Sh top hO v_what 0 2 μ1 _  e2) ms12_isIn ml12_250 rfl rfl rfl rfl d12_centre_8 ?_
  refine z_ifb_ne fx d12_centre_11 (fun c3 => ?_) (fun c3 => ?_)
  · replace h := zif_t c3 h
    refine z_aload_n fx (k := 0) (i := 0) rfl rfl d12_centre_16 ?_
    obtain ⟨μ3, e4, h⟩ := zinv h
    refine z_cVv fx (c12_laysFar (zLo X) (zDo X) Sh top hO o_ μ1 _ ho e4) mv12_laysFar ml12_496 ho rfl rfl rfl rfl d12_centre_17 ?_
    refine z_iconst fx (v := (-1)) icm1 d12_centre_20 ?_
    refine z_istore_n fx (k := 2) (i := 2) rfl rfl (lv' := [(0, .ref o_), (1, .int v_what), (2, .int (-1))]) rfl rfl d12_centre_21 ?_
    refine z_iconst fx (v := 0) ic0 d12_centre_22 ?_
    refine z_istore_n fx (k := 3) (i := 3) rfl rfl (lv' := [(0, .ref o_), (1, .int v_what), (2, .int (-1)), (3, .int 0)]) rfl rfl d12_centre_23 ?_
    refine z_iconst fx (v := 0) ic0 d12_centre_24 ?_
    refine z_istore fx (i := 4) rfl (lv' := [(0, .ref o_), (1, .int v_what), (2, .int (-1)), (3, .int 0), (4, .int 0)]) rfl rfl d12_centre_25 ?_
    refine z_iconst fx (v := 0) ic0 d12_centre_27 ?_
    refine z_istore fx (i := 5) rfl (lv' := [(0, .ref o_), (1, .int v_what), (2, .int (-1)), (3, .int 0), (4, .int 0), (5, .int 0)]) rfl rfl d12_centre_28 ?_
    obtain ⟨v_best_8, v_most_9, v_least_10, v_b_11, e41, h⟩ := zinv4 h
    have kx8 : zZ zK1 X (zT0 Sh top) μ3 154 [(0, .ref o_), (1, .int v_what), (2, .int v_best_8), (3, .int v_most_9), (4, .int v_least_10), (5, .int v_b_11)] [] := by
      refine z_take 5 (lv' := [(0, .ref o_), (1, .int v_what), (2, .int v_best_8), (3, .int v_most_9), (4, .int v_least_10)]) rfl ?_
      obtain ⟨x26, e33, h⟩ := zinv h
      have k34 : zZ zK1 X (zT0 Sh top) μ3 178 [(0, .ref o_), (1, .int v_what), (2, .int v_best_8), (3, .int v_most_9), (4, .int v_least_10)] [.int x26] := by
        cases h
        exact z_ireturn fx fin d12_centre_178
      have kt35 : ((ceq v_best_8 (-1)) || (ceq v_what 0)) = true → zZ zK1 X (zT0 Sh top) μ3 163 [(0, .ref o_), (1, .int v_what), (2, .int v_best_8), (3, .int v_most_9), (4, .int v_least_10)] [] := by
        intro hc
        replace e33 := zif_t hc e33
        refine z_iload_n fx (k := 2) (i := 2) rfl rfl d12_centre_163 ?_
        cases e33
        refine z_goto fx d12_centre_164 ?_
        exact k34
      have kf35 : ((ceq v_best_8 (-1)) || (ceq v_what 0)) = false → zZ zK1 X (zT0 Sh top) μ3 167 [(0, .ref o_), (1, .int v_what), (2, .int v_best_8), (3, .int v_most_9), (4, .int v_least_10)] [] := by
        intro hc
        replace e33 := zif_f hc e33
        obtain ⟨x27, e36, e33⟩ := zinv e33
        have k37 : zZ zK1 X (zT0 Sh top) μ3 178 [(0, .ref o_), (1, .int v_what), (2, .int v_best_8), (3, .int v_most_9), (4, .int v_least_10)] [.int x27] := by
          cases e33
          exact k34
        refine z_iload_n fx (k := 1) (i := 1) rfl rfl d12_centre_167 ?_
        refine z_iconst fx (v := 1) ic1 d12_centre_168 ?_
        refine z_icmp_ne fx d12_centre_169 (fun c38 => ?_) (fun c38 => ?_)
        · replace e36 := zif_f c38 e36
          refine z_iload fx (i := 4) rfl d12_centre_176 ?_
          cases e36
          exact k37
        · replace e36 := zif_t c38 e36
          refine z_iload_n fx (k := 3) (i := 3) rfl rfl d12_centre_172 ?_
          cases e36
          refine z_goto fx d12_centre_173 ?_
          exact k37
      clear e33
      refine z_iload_n fx (k := 2) (i := 2) rfl rfl d12_centre_154 ?_
      refine z_iconst fx (v := (-1)) icm1 d12_centre_155 ?_
      refine z_icmp_eq fx d12_centre_156 (fun c39 => ?_) (fun c39 => ?_)
      · exact kt35 (by simp [c39])
      · refine z_iload_n fx (k := 1) (i := 1) rfl rfl d12_centre_159 ?_
        refine z_if_ne fx d12_centre_160 (fun c40 => ?_) (fun c40 => ?_)
        · exact kf35 (by simp [c39, c40])
        · exact kt35 (by simp [c39, c40])
    clear h
    have klr7 : ∀ (n : Nat) (v_best_4 : Int32) (v_most_5 : Int32) (v_least_6 : Int32) (v_b_7 : Int32), zloop (fun s => f12_centre_L1 o_ μ3 s.1 s.2.1 s.2.2.1 s.2.2.2) n (v_best_4, v_most_5, v_least_6, v_b_7) = some (v_best_8, v_most_9, v_least_10, v_b_11) → zZ zK1 X (zT0 Sh top) μ3 30 [(0, .ref o_), (1, .int v_what), (2, .int v_best_4), (3, .int v_most_5), (4, .int v_least_6), (5, .int v_b_7)] [] := by
      intro n
      induction n with
      | zero => intro v_best_4 v_most_5 v_least_6 v_b_7 hl6; cases hl6
      | succ n ih9 =>
        intro v_best_4 v_most_5 v_least_6 v_b_7 hl6
        obtain ⟨y, e5, hl6⟩ := zloop_inv hl6
        replace e5 : f12_centre_L1 o_ μ3 v_best_4 v_most_5 v_least_6 v_b_7 = some y := e5
        unfold f12_centre_L1 at e5
        refine z_iload fx (i := 5) rfl d12_centre_30 ?_
        refine z_aload_n fx (k := 0) (i := 0) rfl rfl d12_centre_32 ?_
        refine z_getI fx 12 1 1201 ho lf12_13 ⟨fk12_1, rfl⟩ d12_centre_33 ?_
        refine z_icmp_ge fx d12_centre_36 (fun c10 => ?_) (fun c10 => ?_)
        · replace e5 := zif_f c10 e5
          cases e5
          cases hl6
          exact kx8
        · replace e5 := zif_t c10 e5
          refine z_iconst fx (v := 0) ic0 d12_centre_39 ?_
          refine z_istore fx (i := 6) rfl (lv' := [(0, .ref o_), (1, .int v_what), (2, .int v_best_4), (3, .int v_most_5), (4, .int v_least_6), (5, .int v_b_7), (6, .int 0)]) rfl rfl d12_centre_40 ?_
          refine z_iconst fx (v := 0) ic0 d12_centre_42 ?_
          refine z_istore fx (i := 7) rfl (lv' := [(0, .ref o_), (1, .int v_what), (2, .int v_best_4), (3, .int v_most_5), (4, .int v_least_6), (5, .int v_b_7), (6, .int 0), (7, .int 0)]) rfl rfl d12_centre_43 ?_
          refine z_iconst fx (v := 0) ic0 d12_centre_45 ?_
          refine z_istore fx (i := 8) rfl (lv' := [(0, .ref o_), (1, .int v_what), (2, .int v_best_4), (3, .int v_most_5), (4, .int v_least_6), (5, .int v_b_7), (6, .int 0), (7, .int 0), (8, .int 0)]) rfl rfl d12_centre_46 ?_
          obtain ⟨v_many_15, v_sum_16, v_o_17, e32, e5⟩ := zinv3 e5
          have kx14 : zZ zK1 X (zT0 Sh top) μ3 106 [(0, .ref o_), (1, .int v_what), (2, .int v_best_4), (3, .int v_most_5), (4, .int v_least_6), (5, .int v_b_7), (6, .int v_many_15), (7, .int v_sum_16), (8, .int v_o_17)] [] := by
            refine z_take 8 (lv' := [(0, .ref o_), (1, .int v_what), (2, .int v_best_4), (3, .int v_most_5), (4, .int v_least_6), (5, .int v_b_7), (6, .int v_many_15), (7, .int v_sum_16)]) rfl ?_
            have kt24 : (((clt v_many_15 v_most_5) || (ceq v_many_15 0)) || (((ceq v_many_15 v_most_5) && (!(ceq v_best_4 (-1)))) && (!(clt v_sum_16 v_least_6)))) = true → zZ zK1 X (zT0 Sh top) μ3 148 [(0, .ref o_), (1, .int v_what), (2, .int v_best_4), (3, .int v_most_5), (4, .int v_least_6), (5, .int v_b_7), (6, .int v_many_15), (7, .int v_sum_16)] [] := by
              intro hc
              replace e5 := zif_t hc e5
              refine z_take 6 (lv' := [(0, .ref o_), (1, .int v_what), (2, .int v_best_4), (3, .int v_most_5), (4, .int v_least_6), (5, .int v_b_7)]) rfl ?_
              obtain ⟨v_b_24, e25, e5⟩ := zinv e5
              replace e25 := Option.some.inj e25
              refine z_iinc fx (i := 5) (x := v_b_7) (v := v_b_24) rfl (by rw [in1]; exact e25) rfl (lv' := [(0, .ref o_), (1, .int v_what), (2, .int v_best_4), (3, .int v_most_5), (4, .int v_least_6), (5, .int v_b_24)]) rfl rfl d12_centre_148 ?_
              cases e5
              refine z_goto fx d12_centre_151 ?_
              exact ih9 _ _ _ _ hl6
            have kf24 : (((clt v_many_15 v_most_5) || (ceq v_many_15 0)) || (((ceq v_many_15 v_most_5) && (!(ceq v_best_4 (-1)))) && (!(clt v_sum_16 v_least_6)))) = false → zZ zK1 X (zT0 Sh top) μ3 138 [(0, .ref o_), (1, .int v_what), (2, .int v_best_4), (3, .int v_most_5), (4, .int v_least_6), (5, .int v_b_7), (6, .int v_many_15), (7, .int v_sum_16)] [] := by
              intro hc
              replace e5 := zif_f hc e5
              refine z_iload fx (i := 5) rfl d12_centre_138 ?_
              refine z_istore_n fx (k := 2) (i := 2) rfl rfl (lv' := [(0, .ref o_), (1, .int v_what), (2, .int v_b_7), (3, .int v_most_5), (4, .int v_least_6), (5, .int v_b_7), (6, .int v_many_15), (7, .int v_sum_16)]) rfl rfl d12_centre_140 ?_
              refine z_iload fx (i := 6) rfl d12_centre_141 ?_
              refine z_istore_n fx (k := 3) (i := 3) rfl rfl (lv' := [(0, .ref o_), (1, .int v_what), (2, .int v_b_7), (3, .int v_many_15), (4, .int v_least_6), (5, .int v_b_7), (6, .int v_many_15), (7, .int v_sum_16)]) rfl rfl d12_centre_143 ?_
              refine z_iload fx (i := 7) rfl d12_centre_144 ?_
              refine z_istore fx (i := 4) rfl (lv' := [(0, .ref o_), (1, .int v_what), (2, .int v_b_7), (3, .int v_many_15), (4, .int v_sum_16), (5, .int v_b_7), (6, .int v_many_15), (7, .int v_sum_16)]) rfl rfl d12_centre_146 ?_
              refine z_take 6 (lv' := [(0, .ref o_), (1, .int v_what), (2, .int v_b_7), (3, .int v_many_15), (4, .int v_sum_16), (5, .int v_b_7)]) rfl ?_
              obtain ⟨v_b_25, e26, e5⟩ := zinv e5
              replace e26 := Option.some.inj e26
              refine z_iinc fx (i := 5) (x := v_b_7) (v := v_b_25) rfl (by rw [in1]; exact e26) rfl (lv' := [(0, .ref o_), (1, .int v_what), (2, .int v_b_7), (3, .int v_many_15), (4, .int v_sum_16), (5, .int v_b_25)]) rfl rfl d12_centre_148 ?_
              cases e5
              refine z_goto fx d12_centre_151 ?_
              exact ih9 _ _ _ _ hl6
            clear e5
            refine z_iload fx (i := 6) rfl d12_centre_106 ?_
            refine z_iload_n fx (k := 3) (i := 3) rfl rfl d12_centre_108 ?_
            refine z_icmp_lt fx d12_centre_109 (fun c27 => ?_) (fun c27 => ?_)
            · exact kt24 (by simp [c27])
            · refine z_iload fx (i := 6) rfl d12_centre_112 ?_
              refine z_if_eq fx d12_centre_114 (fun c28 => ?_) (fun c28 => ?_)
              · exact kt24 (by simp [c27, c28])
              · refine z_iload fx (i := 6) rfl d12_centre_117 ?_
                refine z_iload_n fx (k := 3) (i := 3) rfl rfl d12_centre_119 ?_
                refine z_icmp_ne fx d12_centre_120 (fun c29 => ?_) (fun c29 => ?_)
                · exact kf24 (by simp [c27, c28, c29])
                · refine z_iload_n fx (k := 2) (i := 2) rfl rfl d12_centre_123 ?_
                  refine z_iconst fx (v := (-1)) icm1 d12_centre_124 ?_
                  refine z_icmp_eq fx d12_centre_125 (fun c30 => ?_) (fun c30 => ?_)
                  · exact kf24 (by simp [c27, c28, c29, c30])
                  · refine z_iload fx (i := 7) rfl d12_centre_128 ?_
                    refine z_iload fx (i := 4) rfl d12_centre_130 ?_
                    refine z_icmp_lt fx d12_centre_132 (fun c31 => ?_) (fun c31 => ?_)
                    · exact kf24 (by simp [c27, c28, c29, c30, c31])
                    · refine z_goto fx d12_centre_135 ?_
                      exact kt24 (by simp [c27, c28, c29, c30, c31])
          clear e5
          have klr13 : ∀ (n : Nat) (v_many_12 : Int32) (v_sum_13 : Int32) (v_o_14 : Int32), zloop (fun s => f12_centre_L2 o_ μ3 v_b_7 s.1 s.2.1 s.2.2) n (v_many_12, v_sum_13, v_o_14) = some (v_many_15, v_sum_16, v_o_17) → zZ zK1 X (zT0 Sh top) μ3 48 [(0, .ref o_), (1, .int v_what), (2, .int v_best_4), (3, .int v_most_5), (4, .int v_least_6), (5, .int v_b_7), (6, .int v_many_12), (7, .int v_sum_13), (8, .int v_o_14)] [] := by
            intro n
            induction n with
            | zero => intro v_many_12 v_sum_13 v_o_14 hl12; cases hl12
            | succ n ih15 =>
              intro v_many_12 v_sum_13 v_o_14 hl12
              obtain ⟨y, e11, hl12⟩ := zloop_inv hl12
              replace e11 : f12_centre_L2 o_ μ3 v_b_7 v_many_12 v_sum_13 v_o_14 = some y := e11
              unfold f12_centre_L2 at e11
              refine z_iload fx (i := 8) rfl d12_centre_48 ?_
              refine z_aload_n fx (k := 0) (i := 0) rfl rfl d12_centre_50 ?_
              refine z_getI fx 12 1 1201 ho lf12_13 ⟨fk12_1, rfl⟩ d12_centre_51 ?_
              refine z_icmp_ge fx d12_centre_54 (fun c16 => ?_) (fun c16 => ?_)
              · replace e11 := zif_f c16 e11
                cases e11
                cases hl12
                exact kx14
              · replace e11 := zif_t c16 e11
                refine z_aload_n fx (k := 0) (i := 0) rfl rfl d12_centre_57 ?_
                refine z_getO fx 12 49 28 ho lf12_160 fk12_49 d12_centre_58 ?_
                refine z_bipush fx (v := 8) bp8 d12_centre_61 ?_
                refine z_iload fx (i := 5) rfl d12_centre_63 ?_
                refine z_imul fx d12_centre_65 ?_
                refine z_iload fx (i := 8) rfl d12_centre_66 ?_
                refine z_iadd fx d12_centre_68 ?_
                obtain ⟨t18, e17, e11⟩ := zinv e11
                refine z_iald fx (ok12_49 hO ho) e17 d12_centre_69 ?_
                refine z_ldcw fx (v := 100000000) kc12_489 d12_centre_70 ?_
                refine z_icmp_lt fx d12_centre_73 (fun c18 => ?_) (fun c18 => ?_)
                · replace e11 := zif_t c18 e11
                  obtain ⟨v_many_19, e19, e11⟩ := zinv e11
                  replace e19 := Option.some.inj e19
                  refine z_iinc fx (i := 6) (x := v_many_12) (v := v_many_19) rfl (by rw [in1]; exact e19) rfl (lv' := [(0, .ref o_), (1, .int v_what), (2, .int v_best_4), (3, .int v_most_5), (4, .int v_least_6), (5, .int v_b_7), (6, .int v_many_19), (7, .int v_sum_13), (8, .int v_o_14)]) rfl rfl d12_centre_79 ?_
                  refine z_iload fx (i := 7) rfl d12_centre_82 ?_
                  refine z_aload_n fx (k := 0) (i := 0) rfl rfl d12_centre_84 ?_
                  refine z_getO fx 12 49 28 ho lf12_160 fk12_49 d12_centre_85 ?_
                  refine z_bipush fx (v := 8) bp8 d12_centre_88 ?_
                  refine z_iload fx (i := 5) rfl d12_centre_90 ?_
                  refine z_imul fx d12_centre_92 ?_
                  refine z_iload fx (i := 8) rfl d12_centre_93 ?_
                  refine z_iadd fx d12_centre_95 ?_
                  obtain ⟨t20, e20, e11⟩ := zinv e11
                  refine z_iald fx (ok12_49 hO ho) e20 d12_centre_96 ?_
                  refine z_iadd fx d12_centre_97 ?_
                  obtain ⟨v_sum_21, e21, e11⟩ := zinv e11
                  replace e21 := Option.some.inj e21
                  refine z_top (congrArg Value.int e21) ?_
                  refine z_istore fx (i := 7) rfl (lv' := [(0, .ref o_), (1, .int v_what), (2, .int v_best_4), (3, .int v_most_5), (4, .int v_least_6), (5, .int v_b_7), (6, .int v_many_19), (7, .int v_sum_21), (8, .int v_o_14)]) rfl rfl d12_centre_98 ?_
                  obtain ⟨v_o_22, e22, e11⟩ := zinv e11
                  replace e22 := Option.some.inj e22
                  refine z_iinc fx (i := 8) (x := v_o_14) (v := v_o_22) rfl (by rw [in1]; exact e22) rfl (lv' := [(0, .ref o_), (1, .int v_what), (2, .int v_best_4), (3, .int v_most_5), (4, .int v_least_6), (5, .int v_b_7), (6, .int v_many_19), (7, .int v_sum_21), (8, .int v_o_22)]) rfl rfl d12_centre_100 ?_
                  cases e11
                  refine z_goto fx d12_centre_103 ?_
                  exact ih15 _ _ _ hl12
                · replace e11 := zif_f c18 e11
                  refine z_goto fx d12_centre_76 ?_
                  obtain ⟨v_o_23, e23, e11⟩ := zinv e11
                  replace e23 := Option.some.inj e23
                  refine z_iinc fx (i := 8) (x := v_o_14) (v := v_o_23) rfl (by rw [in1]; exact e23) rfl (lv' := [(0, .ref o_), (1, .int v_what), (2, .int v_best_4), (3, .int v_most_5), (4, .int v_least_6), (5, .int v_b_7), (6, .int v_many_12), (7, .int v_sum_13), (8, .int v_o_23)]) rfl rfl d12_centre_100 ?_
                  cases e11
                  refine z_goto fx d12_centre_103 ?_
                  exact ih15 _ _ _ hl12
          exact klr13 _ _ _ _ e32
    exact klr7 _ _ _ _ _ e41
  · replace h := zif_f c3 h
    refine z_iconst fx (v := (-1)) icm1 d12_centre_14 ?_
    cases h
    exact z_ireturn fx fin d12_centre_15
theorem d12_remembers_0 : zd cX12_remembers 0 (.aload_n 0) 1 1 := by decide +kernel
theorem d12_remembers_1 : zd cX12_remembers 1 (.getfield 147) 3 4 := by decide +kernel
theorem d12_remembers_4 : zd cX12_remembers 4 (.bipush 20) 2 6 := by decide +kernel
theorem d12_remembers_6 : zj cX12_remembers 6 (.if_icmp .ne 44) 44 9 50 := by decide +kernel
theorem d12_remembers_9 : zd cX12_remembers 9 (.iconst 0) 1 10 := by decide +kernel
theorem d12_remembers_10 : zd cX12_remembers 10 (.istore_n 1) 1 11 := by decide +kernel
theorem d12_remembers_11 : zd cX12_remembers 11 (.iload_n 1) 1 12 := by decide +kernel
theorem d12_remembers_12 : zd cX12_remembers 12 (.ldc_w 541) 3 15 := by decide +kernel
theorem d12_remembers_15 : zj cX12_remembers 15 (.if_icmp .ge 25) 25 18 40 := by decide +kernel
theorem d12_remembers_18 : zd cX12_remembers 18 (.aload_n 0) 1 19 := by decide +kernel
theorem d12_remembers_19 : zd cX12_remembers 19 (.getfield 141) 3 22 := by decide +kernel
theorem d12_remembers_22 : zd cX12_remembers 22 (.iload_n 1) 1 23 := by decide +kernel
theorem d12_remembers_23 : zd cX12_remembers 23 (.aload_n 0) 1 24 := by decide +kernel
theorem d12_remembers_24 : zd cX12_remembers 24 (.getfield 141) 3 27 := by decide +kernel
theorem d12_remembers_27 : zd cX12_remembers 27 (.iload_n 1) 1 28 := by decide +kernel
theorem d12_remembers_28 : zd cX12_remembers 28 (.sipush 2874) 3 31 := by decide +kernel
theorem d12_remembers_31 : zd cX12_remembers 31 (.iadd) 1 32 := by decide +kernel
theorem d12_remembers_32 : zd cX12_remembers 32 (.iaload) 1 33 := by decide +kernel
theorem d12_remembers_33 : zd cX12_remembers 33 (.iastore) 1 34 := by decide +kernel
theorem d12_remembers_34 : zd cX12_remembers 34 (.iinc 1 1) 3 37 := by decide +kernel
theorem d12_remembers_37 : zj cX12_remembers 37 (.goto (-26)) (-26) 40 11 := by decide +kernel
theorem d12_remembers_40 : zd cX12_remembers 40 (.aload_n 0) 1 41 := by decide +kernel
theorem d12_remembers_41 : zd cX12_remembers 41 (.dup) 1 42 := by decide +kernel
theorem d12_remembers_42 : zd cX12_remembers 42 (.getfield 147) 3 45 := by decide +kernel
theorem d12_remembers_45 : zd cX12_remembers 45 (.iconst 1) 1 46 := by decide +kernel
theorem d12_remembers_46 : zd cX12_remembers 46 (.isub) 1 47 := by decide +kernel
theorem d12_remembers_47 : zd cX12_remembers 47 (.putfield 147) 3 50 := by decide +kernel
theorem d12_remembers_50 : zd cX12_remembers 50 (.iconst 0) 1 51 := by decide +kernel
theorem d12_remembers_51 : zd cX12_remembers 51 (.istore_n 1) 1 52 := by decide +kernel
theorem d12_remembers_52 : zd cX12_remembers 52 (.iload_n 1) 1 53 := by decide +kernel
theorem d12_remembers_53 : zd cX12_remembers 53 (.sipush 2874) 3 56 := by decide +kernel
theorem d12_remembers_56 : zj cX12_remembers 56 (.if_icmp .ge 32) 32 59 88 := by decide +kernel
theorem d12_remembers_59 : zd cX12_remembers 59 (.aload_n 0) 1 60 := by decide +kernel
theorem d12_remembers_60 : zd cX12_remembers 60 (.getfield 141) 3 63 := by decide +kernel
theorem d12_remembers_63 : zd cX12_remembers 63 (.sipush 2874) 3 66 := by decide +kernel
theorem d12_remembers_66 : zd cX12_remembers 66 (.aload_n 0) 1 67 := by decide +kernel
theorem d12_remembers_67 : zd cX12_remembers 67 (.getfield 147) 3 70 := by decide +kernel
theorem d12_remembers_70 : zd cX12_remembers 70 (.imul) 1 71 := by decide +kernel
theorem d12_remembers_71 : zd cX12_remembers 71 (.iload_n 1) 1 72 := by decide +kernel
theorem d12_remembers_72 : zd cX12_remembers 72 (.iadd) 1 73 := by decide +kernel
theorem d12_remembers_73 : zd cX12_remembers 73 (.aload_n 0) 1 74 := by decide +kernel
theorem d12_remembers_74 : zd cX12_remembers 74 (.getfield 137) 3 77 := by decide +kernel
theorem d12_remembers_77 : zd cX12_remembers 77 (.iconst 0) 1 78 := by decide +kernel
theorem d12_remembers_78 : zd cX12_remembers 78 (.iload_n 1) 1 79 := by decide +kernel
theorem d12_remembers_79 : zd cX12_remembers 79 (.iadd) 1 80 := by decide +kernel
theorem d12_remembers_80 : zd cX12_remembers 80 (.iaload) 1 81 := by decide +kernel
theorem d12_remembers_81 : zd cX12_remembers 81 (.iastore) 1 82 := by decide +kernel
theorem d12_remembers_82 : zd cX12_remembers 82 (.iinc 1 1) 3 85 := by decide +kernel
theorem d12_remembers_85 : zj cX12_remembers 85 (.goto (-33)) (-33) 88 52 := by decide +kernel
theorem d12_remembers_88 : zd cX12_remembers 88 (.aload_n 0) 1 89 := by decide +kernel
theorem d12_remembers_89 : zd cX12_remembers 89 (.dup) 1 90 := by decide +kernel
theorem d12_remembers_90 : zd cX12_remembers 90 (.getfield 147) 3 93 := by decide +kernel
theorem d12_remembers_93 : zd cX12_remembers 93 (.iconst 1) 1 94 := by decide +kernel
theorem d12_remembers_94 : zd cX12_remembers 94 (.iadd) 1 95 := by decide +kernel
theorem d12_remembers_95 : zd cX12_remembers 95 (.putfield 147) 3 98 := by decide +kernel
theorem d12_remembers_98 : zd cX12_remembers 98 (.aload_n 0) 1 99 := by decide +kernel
theorem d12_remembers_99 : zd cX12_remembers 99 (.iconst 0) 1 100 := by decide +kernel
theorem d12_remembers_100 : zd cX12_remembers 100 (.putfield 144) 3 103 := by decide +kernel
theorem d12_remembers_103 : zd cX12_remembers 103 (.return_) 1 104 := by decide +kernel
set_option maxHeartbeats 4000000 in
set_option maxRecDepth 20000 in
theorem c12_remembers (l : Launch) (D : zDt) (Sh : zSh) (top : Nat) (hO : zOK Sh) (o_ : Nat) (μ : zM) (μ_ : zM) (ho : (Sh o_).1 = 19) (h : f12_remembers o_ μ = some μ_) : zMet l D zK1 yX12_remembers cX12_remembers 2 none (zrm 0 0) [.ref o_] Sh top μ none Sh top μ_ 0 0 := by
  refine zMet_of (by decide) (Nat.le_of_ble_eq_true rfl) fun X hX1 hX2 fx fin => ?_
  subst hX1; subst hX2
  replace fx : zFix X cX12_remembers RX12 (zrm 0 0) 2 := fx
  show zZ zK1 X (zT0 Sh top) μ 0 [(0, .ref o_)] []
  unfold f12_remembers at h
  obtain ⟨μ1, e1, h⟩ := zinv h
  have k2 : zZ zK1 X (zT0 Sh top) μ1 50 [(0, .ref o_)] [] := by
    refine z_iconst fx (v := 0) ic0 d12_remembers_50 ?_
    refine z_istore_n fx (k := 1) (i := 1) rfl rfl (lv' := [(0, .ref o_), (1, .int 0)]) rfl rfl d12_remembers_51 ?_
    obtain ⟨v_k_4, μ5, e14, h⟩ := zinv2 h
    have kx6 : zZ zK1 X (zT0 Sh top) μ5 88 [(0, .ref o_), (1, .int v_k_4)] [] := by
      refine z_take 1 (lv' := [(0, .ref o_)]) rfl ?_
      refine z_aload_n fx (k := 0) (i := 0) rfl rfl d12_remembers_88 ?_
      refine z_dup fx rfl d12_remembers_89 ?_
      refine z_getI fx 12 45 1245 ho lf12_147 ⟨fk12_45, rfl⟩ d12_remembers_90 ?_
      refine z_iconst fx (v := 1) ic1 d12_remembers_93 ?_
      refine z_iadd fx d12_remembers_94 ?_
      obtain ⟨μ9, e12, h⟩ := zinv h
      refine z_putI fx (ci := 12) 45 ho lf12_147 fp12_45 e12 d12_remembers_95 ?_
      refine z_aload_n fx (k := 0) (i := 0) rfl rfl d12_remembers_98 ?_
      refine z_iconst fx (v := 0) ic0 d12_remembers_99 ?_
      obtain ⟨μ10, e13, h⟩ := zinv h
      refine z_putI fx (ci := 12) 44 ho lf12_144 fp12_44 e13 d12_remembers_100 ?_
      cases h
      exact z_return fx fin d12_remembers_103
    clear h
    have klr5 : ∀ (n : Nat) (v_k_2 : Int32) (μ3 : zM), zloop (fun s => f12_remembers_L1 o_ s.1 s.2) n (v_k_2, μ3) = some (v_k_4, μ5) → zZ zK1 X (zT0 Sh top) μ3 52 [(0, .ref o_), (1, .int v_k_2)] [] := by
      intro n
      induction n with
      | zero => intro v_k_2 μ3 hl4; cases hl4
      | succ n ih7 =>
        intro v_k_2 μ3 hl4
        obtain ⟨y, e3, hl4⟩ := zloop_inv hl4
        replace e3 : f12_remembers_L1 o_ v_k_2 μ3 = some y := e3
        unfold f12_remembers_L1 at e3
        refine z_iload_n fx (k := 1) (i := 1) rfl rfl d12_remembers_52 ?_
        refine z_sipush fx (v := 2874) sp2874 d12_remembers_53 ?_
        refine z_icmp_ge fx d12_remembers_56 (fun c8 => ?_) (fun c8 => ?_)
        · replace e3 := zif_f c8 e3
          cases e3
          cases hl4
          exact kx6
        · replace e3 := zif_t c8 e3
          refine z_aload_n fx (k := 0) (i := 0) rfl rfl d12_remembers_59 ?_
          refine z_getO fx 12 43 25 ho lf12_141 fk12_43 d12_remembers_60 ?_
          refine z_sipush fx (v := 2874) sp2874 d12_remembers_63 ?_
          refine z_aload_n fx (k := 0) (i := 0) rfl rfl d12_remembers_66 ?_
          refine z_getI fx 12 45 1245 ho lf12_147 ⟨fk12_45, rfl⟩ d12_remembers_67 ?_
          refine z_imul fx d12_remembers_70 ?_
          refine z_iload_n fx (k := 1) (i := 1) rfl rfl d12_remembers_71 ?_
          refine z_iadd fx d12_remembers_72 ?_
          refine z_aload_n fx (k := 0) (i := 0) rfl rfl d12_remembers_73 ?_
          refine z_getO fx 12 42 24 ho lf12_137 fk12_42 d12_remembers_74 ?_
          refine z_iconst fx (v := 0) ic0 d12_remembers_77 ?_
          refine z_iload_n fx (k := 1) (i := 1) rfl rfl d12_remembers_78 ?_
          refine z_iadd fx d12_remembers_79 ?_
          obtain ⟨t6, e9, e3⟩ := zinv e3
          refine z_iald fx (ok12_42 hO ho) e9 d12_remembers_80 ?_
          obtain ⟨μ7, e10, e3⟩ := zinv e3
          refine z_iast fx (ok12_43 hO ho) e10 d12_remembers_81 ?_
          obtain ⟨v_k_8, e11, e3⟩ := zinv e3
          replace e11 := Option.some.inj e11
          refine z_iinc fx (i := 1) (x := v_k_2) (v := v_k_8) rfl (by rw [in1]; exact e11) rfl (lv' := [(0, .ref o_), (1, .int v_k_8)]) rfl rfl d12_remembers_82 ?_
          cases e3
          refine z_goto fx d12_remembers_85 ?_
          exact ih7 _ _ hl4
    exact klr5 _ _ _ e14
  clear h
  refine z_aload_n fx (k := 0) (i := 0) rfl rfl d12_remembers_0 ?_
  refine z_getI fx 12 45 1245 ho lf12_147 ⟨fk12_45, rfl⟩ d12_remembers_1 ?_
  refine z_bipush fx (v := 20) bp20 d12_remembers_4 ?_
  refine z_icmp_ne fx d12_remembers_6 (fun c15 => ?_) (fun c15 => ?_)
  · replace e1 := zif_f c15 e1
    cases e1
    exact k2
  · replace e1 := zif_t c15 e1
    refine z_iconst fx (v := 0) ic0 d12_remembers_9 ?_
    refine z_istore_n fx (k := 1) (i := 1) rfl rfl (lv' := [(0, .ref o_), (1, .int 0)]) rfl rfl d12_remembers_10 ?_
    obtain ⟨v_k_13, μ14, e26, e1⟩ := zinv2 e1
    have kx19 : zZ zK1 X (zT0 Sh top) μ14 40 [(0, .ref o_), (1, .int v_k_13)] [] := by
      refine z_take 1 (lv' := [(0, .ref o_)]) rfl ?_
      refine z_aload_n fx (k := 0) (i := 0) rfl rfl d12_remembers_40 ?_
      refine z_dup fx rfl d12_remembers_41 ?_
      refine z_getI fx 12 45 1245 ho lf12_147 ⟨fk12_45, rfl⟩ d12_remembers_42 ?_
      refine z_iconst fx (v := 1) ic1 d12_remembers_45 ?_
      refine z_isub fx d12_remembers_46 ?_
      obtain ⟨μ18, e25, e1⟩ := zinv e1
      refine z_putI fx (ci := 12) 45 ho lf12_147 fp12_45 e25 d12_remembers_47 ?_
      cases e1
      exact k2
    clear e1
    have klr18 : ∀ (n : Nat) (v_k_11 : Int32) (μ12 : zM), zloop (fun s => f12_remembers_L2 o_ s.1 s.2) n (v_k_11, μ12) = some (v_k_13, μ14) → zZ zK1 X (zT0 Sh top) μ12 11 [(0, .ref o_), (1, .int v_k_11)] [] := by
      intro n
      induction n with
      | zero => intro v_k_11 μ12 hl17; cases hl17
      | succ n ih20 =>
        intro v_k_11 μ12 hl17
        obtain ⟨y, e16, hl17⟩ := zloop_inv hl17
        replace e16 : f12_remembers_L2 o_ v_k_11 μ12 = some y := e16
        unfold f12_remembers_L2 at e16
        refine z_iload_n fx (k := 1) (i := 1) rfl rfl d12_remembers_11 ?_
        refine z_ldcw fx (v := 54606) kc12_541 d12_remembers_12 ?_
        refine z_icmp_ge fx d12_remembers_15 (fun c21 => ?_) (fun c21 => ?_)
        · replace e16 := zif_f c21 e16
          cases e16
          cases hl17
          exact kx19
        · replace e16 := zif_t c21 e16
          refine z_aload_n fx (k := 0) (i := 0) rfl rfl d12_remembers_18 ?_
          refine z_getO fx 12 43 25 ho lf12_141 fk12_43 d12_remembers_19 ?_
          refine z_iload_n fx (k := 1) (i := 1) rfl rfl d12_remembers_22 ?_
          refine z_aload_n fx (k := 0) (i := 0) rfl rfl d12_remembers_23 ?_
          refine z_getO fx 12 43 25 ho lf12_141 fk12_43 d12_remembers_24 ?_
          refine z_iload_n fx (k := 1) (i := 1) rfl rfl d12_remembers_27 ?_
          refine z_sipush fx (v := 2874) sp2874 d12_remembers_28 ?_
          refine z_iadd fx d12_remembers_31 ?_
          obtain ⟨t15, e22, e16⟩ := zinv e16
          refine z_iald fx (ok12_43 hO ho) e22 d12_remembers_32 ?_
          obtain ⟨μ16, e23, e16⟩ := zinv e16
          refine z_iast fx (ok12_43 hO ho) e23 d12_remembers_33 ?_
          obtain ⟨v_k_17, e24, e16⟩ := zinv e16
          replace e24 := Option.some.inj e24
          refine z_iinc fx (i := 1) (x := v_k_11) (v := v_k_17) rfl (by rw [in1]; exact e24) rfl (lv' := [(0, .ref o_), (1, .int v_k_17)]) rfl rfl d12_remembers_34 ?_
          cases e16
          refine z_goto fx d12_remembers_37 ?_
          exact ih20 _ _ hl17
    exact klr18 _ _ _ e26
