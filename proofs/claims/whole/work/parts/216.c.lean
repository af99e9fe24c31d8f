theorem d12_on_0 : zd cX12_on 0 (.aload_n 0) 1 1 := by decide +kernel
theorem d12_on_1 : zd cX12_on 1 (.invokevirtual 295) 3 4 := by decide +kernel
theorem d12_on_4 : zd cX12_on 4 (.istore_n 1) 1 5 := by decide +kernel
theorem d12_on_5 : zd cX12_on 5 (.aload_n 0) 1 6 := by decide +kernel
theorem d12_on_6 : zd cX12_on 6 (.iload_n 1) 1 7 := by decide +kernel
theorem d12_on_7 : zd cX12_on 7 (.invokevirtual 579) 3 10 := by decide +kernel
theorem d12_on_10 : zj cX12_on 10 (.ifCond .ne 9) 9 13 19 := by decide +kernel
theorem d12_on_13 : zd cX12_on 13 (.aload_n 0) 1 14 := by decide +kernel
theorem d12_on_14 : zd cX12_on 14 (.iconst 5) 1 15 := by decide +kernel
theorem d12_on_15 : zd cX12_on 15 (.invokevirtual 545) 3 18 := by decide +kernel
theorem d12_on_18 : zd cX12_on 18 (.ireturn) 1 19 := by decide +kernel
theorem d12_on_19 : zd cX12_on 19 (.aload_n 0) 1 20 := by decide +kernel
theorem d12_on_20 : zd cX12_on 20 (.iconst 0) 1 21 := by decide +kernel
theorem d12_on_21 : zd cX12_on 21 (.putfield 144) 3 24 := by decide +kernel
theorem d12_on_24 : zd cX12_on 24 (.aload_n 0) 1 25 := by decide +kernel
theorem d12_on_25 : zd cX12_on 25 (.invokevirtual 304) 3 28 := by decide +kernel
theorem d12_on_28 : zd cX12_on 28 (.iconst 0) 1 29 := by decide +kernel
theorem d12_on_29 : zd cX12_on 29 (.istore_n 2) 1 30 := by decide +kernel
theorem d12_on_30 : zd cX12_on 30 (.iload_n 2) 1 31 := by decide +kernel
theorem d12_on_31 : zd cX12_on 31 (.aload_n 0) 1 32 := by decide +kernel
theorem d12_on_32 : zd cX12_on 32 (.getfield 13) 3 35 := by decide +kernel
theorem d12_on_35 : zj cX12_on 35 (.if_icmp .ge 64) 64 38 99 := by decide +kernel
theorem d12_on_38 : zd cX12_on 38 (.aload_n 0) 1 39 := by decide +kernel
theorem d12_on_39 : zd cX12_on 39 (.iload_n 2) 1 40 := by decide +kernel
theorem d12_on_40 : zd cX12_on 40 (.iconst 0) 1 41 := by decide +kernel
theorem d12_on_41 : zd cX12_on 41 (.invokestatic 307) 3 44 := by decide +kernel
theorem d12_on_44 : zd cX12_on 44 (.aload_n 0) 1 45 := by decide +kernel
theorem d12_on_45 : zd cX12_on 45 (.getfield 104) 3 48 := by decide +kernel
theorem d12_on_48 : zd cX12_on 48 (.iconst 3) 1 49 := by decide +kernel
theorem d12_on_49 : zd cX12_on 49 (.iload_n 2) 1 50 := by decide +kernel
theorem d12_on_50 : zd cX12_on 50 (.imul) 1 51 := by decide +kernel
theorem d12_on_51 : zd cX12_on 51 (.iaload) 1 52 := by decide +kernel
theorem d12_on_52 : zd cX12_on 52 (.invokevirtual 310) 3 55 := by decide +kernel
theorem d12_on_55 : zd cX12_on 55 (.aload_n 0) 1 56 := by decide +kernel
theorem d12_on_56 : zd cX12_on 56 (.iload_n 2) 1 57 := by decide +kernel
theorem d12_on_57 : zd cX12_on 57 (.iconst 1) 1 58 := by decide +kernel
theorem d12_on_58 : zd cX12_on 58 (.invokestatic 307) 3 61 := by decide +kernel
theorem d12_on_61 : zd cX12_on 61 (.aload_n 0) 1 62 := by decide +kernel
theorem d12_on_62 : zd cX12_on 62 (.getfield 104) 3 65 := by decide +kernel
theorem d12_on_65 : zd cX12_on 65 (.iconst 3) 1 66 := by decide +kernel
theorem d12_on_66 : zd cX12_on 66 (.iload_n 2) 1 67 := by decide +kernel
theorem d12_on_67 : zd cX12_on 67 (.imul) 1 68 := by decide +kernel
theorem d12_on_68 : zd cX12_on 68 (.iconst 1) 1 69 := by decide +kernel
theorem d12_on_69 : zd cX12_on 69 (.iadd) 1 70 := by decide +kernel
theorem d12_on_70 : zd cX12_on 70 (.iaload) 1 71 := by decide +kernel
theorem d12_on_71 : zd cX12_on 71 (.invokevirtual 310) 3 74 := by decide +kernel
theorem d12_on_74 : zd cX12_on 74 (.aload_n 0) 1 75 := by decide +kernel
theorem d12_on_75 : zd cX12_on 75 (.iload_n 2) 1 76 := by decide +kernel
theorem d12_on_76 : zd cX12_on 76 (.iconst 2) 1 77 := by decide +kernel
theorem d12_on_77 : zd cX12_on 77 (.invokestatic 307) 3 80 := by decide +kernel
theorem d12_on_80 : zd cX12_on 80 (.aload_n 0) 1 81 := by decide +kernel
theorem d12_on_81 : zd cX12_on 81 (.getfield 104) 3 84 := by decide +kernel
theorem d12_on_84 : zd cX12_on 84 (.iconst 3) 1 85 := by decide +kernel
theorem d12_on_85 : zd cX12_on 85 (.iload_n 2) 1 86 := by decide +kernel
theorem d12_on_86 : zd cX12_on 86 (.imul) 1 87 := by decide +kernel
theorem d12_on_87 : zd cX12_on 87 (.iconst 2) 1 88 := by decide +kernel
theorem d12_on_88 : zd cX12_on 88 (.iadd) 1 89 := by decide +kernel
theorem d12_on_89 : zd cX12_on 89 (.iaload) 1 90 := by decide +kernel
theorem d12_on_90 : zd cX12_on 90 (.invokevirtual 310) 3 93 := by decide +kernel
theorem d12_on_93 : zd cX12_on 93 (.iinc 2 1) 3 96 := by decide +kernel
theorem d12_on_96 : zj cX12_on 96 (.goto (-66)) (-66) 99 30 := by decide +kernel
theorem d12_on_99 : zd cX12_on 99 (.iconst 0) 1 100 := by decide +kernel
theorem d12_on_100 : zd cX12_on 100 (.istore_n 2) 1 101 := by decide +kernel
theorem d12_on_101 : zd cX12_on 101 (.iload_n 2) 1 102 := by decide +kernel
theorem d12_on_102 : zd cX12_on 102 (.aload_n 0) 1 103 := by decide +kernel
theorem d12_on_103 : zd cX12_on 103 (.getfield 16) 3 106 := by decide +kernel
theorem d12_on_106 : zj cX12_on 106 (.if_icmp .ge 31) 31 109 137 := by decide +kernel
theorem d12_on_109 : zd cX12_on 109 (.aload_n 0) 1 110 := by decide +kernel
theorem d12_on_110 : zd cX12_on 110 (.sipush 964) 3 113 := by decide +kernel
theorem d12_on_113 : zd cX12_on 113 (.iload_n 2) 1 114 := by decide +kernel
theorem d12_on_114 : zd cX12_on 114 (.iadd) 1 115 := by decide +kernel
theorem d12_on_115 : zd cX12_on 115 (.aload_n 0) 1 116 := by decide +kernel
theorem d12_on_116 : zd cX12_on 116 (.getfield 104) 3 119 := by decide +kernel
theorem d12_on_119 : zd cX12_on 119 (.iconst 3) 1 120 := by decide +kernel
theorem d12_on_120 : zd cX12_on 120 (.aload_n 0) 1 121 := by decide +kernel
theorem d12_on_121 : zd cX12_on 121 (.getfield 13) 3 124 := by decide +kernel
theorem d12_on_124 : zd cX12_on 124 (.imul) 1 125 := by decide +kernel
theorem d12_on_125 : zd cX12_on 125 (.iload_n 2) 1 126 := by decide +kernel
theorem d12_on_126 : zd cX12_on 126 (.iadd) 1 127 := by decide +kernel
theorem d12_on_127 : zd cX12_on 127 (.iaload) 1 128 := by decide +kernel
theorem d12_on_128 : zd cX12_on 128 (.invokevirtual 310) 3 131 := by decide +kernel
theorem d12_on_131 : zd cX12_on 131 (.iinc 2 1) 3 134 := by decide +kernel
theorem d12_on_134 : zj cX12_on 134 (.goto (-33)) (-33) 137 101 := by decide +kernel
theorem d12_on_137 : zd cX12_on 137 (.iconst 0) 1 138 := by decide +kernel
theorem d12_on_138 : zd cX12_on 138 (.istore_n 2) 1 139 := by decide +kernel
theorem d12_on_139 : zd cX12_on 139 (.iload_n 2) 1 140 := by decide +kernel
theorem d12_on_140 : zd cX12_on 140 (.aload_n 0) 1 141 := by decide +kernel
theorem d12_on_141 : zd cX12_on 141 (.getfield 19) 3 144 := by decide +kernel
theorem d12_on_144 : zj cX12_on 144 (.if_icmp .ge 36) 36 147 180 := by decide +kernel
theorem d12_on_147 : zd cX12_on 147 (.aload_n 0) 1 148 := by decide +kernel
theorem d12_on_148 : zd cX12_on 148 (.sipush 978) 3 151 := by decide +kernel
theorem d12_on_151 : zd cX12_on 151 (.iload_n 2) 1 152 := by decide +kernel
theorem d12_on_152 : zd cX12_on 152 (.iadd) 1 153 := by decide +kernel
theorem d12_on_153 : zd cX12_on 153 (.aload_n 0) 1 154 := by decide +kernel
theorem d12_on_154 : zd cX12_on 154 (.getfield 104) 3 157 := by decide +kernel
theorem d12_on_157 : zd cX12_on 157 (.iconst 3) 1 158 := by decide +kernel
theorem d12_on_158 : zd cX12_on 158 (.aload_n 0) 1 159 := by decide +kernel
theorem d12_on_159 : zd cX12_on 159 (.getfield 13) 3 162 := by decide +kernel
theorem d12_on_162 : zd cX12_on 162 (.imul) 1 163 := by decide +kernel
theorem d12_on_163 : zd cX12_on 163 (.aload_n 0) 1 164 := by decide +kernel
theorem d12_on_164 : zd cX12_on 164 (.getfield 16) 3 167 := by decide +kernel
theorem d12_on_167 : zd cX12_on 167 (.iadd) 1 168 := by decide +kernel
theorem d12_on_168 : zd cX12_on 168 (.iload_n 2) 1 169 := by decide +kernel
theorem d12_on_169 : zd cX12_on 169 (.iadd) 1 170 := by decide +kernel
theorem d12_on_170 : zd cX12_on 170 (.iaload) 1 171 := by decide +kernel
theorem d12_on_171 : zd cX12_on 171 (.invokevirtual 310) 3 174 := by decide +kernel
theorem d12_on_174 : zd cX12_on 174 (.iinc 2 1) 3 177 := by decide +kernel
theorem d12_on_177 : zj cX12_on 177 (.goto (-38)) (-38) 180 139 := by decide +kernel
theorem d12_on_180 : zd cX12_on 180 (.aload_n 0) 1 181 := by decide +kernel
theorem d12_on_181 : zd cX12_on 181 (.invokevirtual 313) 3 184 := by decide +kernel
theorem d12_on_184 : zd cX12_on 184 (.aload_n 0) 1 185 := by decide +kernel
theorem d12_on_185 : zd cX12_on 185 (.iconst 0) 1 186 := by decide +kernel
theorem d12_on_186 : zd cX12_on 186 (.putfield 147) 3 189 := by decide +kernel
theorem d12_on_189 : zd cX12_on 189 (.iconst 1) 1 190 := by decide +kernel
theorem d12_on_190 : zd cX12_on 190 (.ireturn) 1 191 := by decide +kernel
set_option maxHeartbeats 4000000 in
set_option maxRecDepth 20000 in
theorem c12_on (l : Launch) (D : zDt) (Sh : zSh) (top : Nat) (hO : zOK Sh) (o_ : Nat) (μ : zM) (r_ : Bool) (μ_ : zM) (ho : (Sh o_).1 = 19) (h : f12_on o_ μ = some (r_, μ_)) : zMet l D zK1 yX12_on cX12_on 3 (some .boolean) (zrm 9 199) [.ref o_] Sh top μ (some (.int (bI r_))) Sh top μ_ 0 0 := by
  refine zMet_of (by decide) (Nat.le_of_ble_eq_true rfl) fun X hX1 hX2 fx fin => ?_
  subst hX1; subst hX2
  replace fx : zFix X cX12_on RX12 (zrm 9 199) 3 := fx
  show zZ zK1 X (zT0 Sh top) μ 0 [(0, .ref o_)] []
  unfold f12_on at h
  refine z_aload_n fx (k := 0) (i := 0) rfl rfl d12_on_0 ?_
  obtain ⟨t1, μ2, e1, h⟩ := zinv2 h
  refine z_cVr fx (c12_taken (zLo X) (zDo X) Sh top hO o_ μ _ _ ho e1) mv12_taken ml12_295 ho rfl rfl rfl rfl d12_on_1 ?_
  refine z_istore_n fx (k := 1) (i := 1) rfl rfl (lv' := [(0, .ref o_), (1, .int t1)]) rfl rfl d12_on_4 ?_
  refine z_aload_n fx (k := 0) (i := 0) rfl rfl d12_on_5 ?_
  refine z_iload_n fx (k := 1) (i := 1) rfl rfl d12_on_6 ?_
  obtain ⟨t3, e2, h⟩ := zinv h
  refine z_cVr fx (c12_isImage (zLo X) (zDo X) Sh top hO o_ t1 μ2 _ ho e2) mv12_isImage ml12_579 ho rfl rfl rfl rfl d12_on_7 ?_
  refine z_ifb_ne fx d12_on_10 (fun c3 => ?_) (fun c3 => ?_)
  · replace h := zif_t c3 h
    refine z_aload_n fx (k := 0) (i := 0) rfl rfl d12_on_19 ?_
    refine z_iconst fx (v := 0) ic0 d12_on_20 ?_
    obtain ⟨μ4, e4, h⟩ := zinv h
    refine z_putI fx (ci := 12) 44 ho lf12_144 fp12_44 e4 d12_on_21 ?_
    refine z_aload_n fx (k := 0) (i := 0) rfl rfl d12_on_24 ?_
    obtain ⟨μ5, e5, h⟩ := zinv h
    refine z_cVv fx (c12_clears (zLo X) (zDo X) Sh top hO o_ μ4 _ ho e5) mv12_clears ml12_304 ho rfl rfl rfl rfl d12_on_25 ?_
    refine z_iconst fx (v := 0) ic0 d12_on_28 ?_
    refine z_istore_n fx (k := 2) (i := 2) rfl rfl (lv' := [(0, .ref o_), (1, .int t1), (2, .int 0)]) rfl rfl d12_on_29 ?_
    obtain ⟨v_b_8, μ9, e44, h⟩ := zinv2 h
    have kx9 : zZ zK1 X (zT0 Sh top) μ9 99 [(0, .ref o_), (1, .int t1), (2, .int v_b_8)] [] := by
      refine z_take 2 (lv' := [(0, .ref o_), (1, .int t1)]) rfl ?_
      refine z_iconst fx (v := 0) ic0 d12_on_99 ?_
      refine z_istore_n fx (k := 2) (i := 2) rfl rfl (lv' := [(0, .ref o_), (1, .int t1), (2, .int 0)]) rfl rfl d12_on_100 ?_
      obtain ⟨v_l_22, μ23, e43, h⟩ := zinv2 h
      have kx25 : zZ zK1 X (zT0 Sh top) μ23 137 [(0, .ref o_), (1, .int t1), (2, .int v_l_22)] [] := by
        refine z_take 2 (lv' := [(0, .ref o_), (1, .int t1)]) rfl ?_
        refine z_iconst fx (v := 0) ic0 d12_on_137 ?_
        refine z_istore_n fx (k := 2) (i := 2) rfl rfl (lv' := [(0, .ref o_), (1, .int t1), (2, .int 0)]) rfl rfl d12_on_138 ?_
        obtain ⟨v_h_29, μ30, e42, h⟩ := zinv2 h
        have kx34 : zZ zK1 X (zT0 Sh top) μ30 180 [(0, .ref o_), (1, .int t1), (2, .int v_h_29)] [] := by
          refine z_take 2 (lv' := [(0, .ref o_), (1, .int t1)]) rfl ?_
          refine z_aload_n fx (k := 0) (i := 0) rfl rfl d12_on_180 ?_
          obtain ⟨μ34, e40, h⟩ := zinv h
          refine z_cVv fx (c12_allBegin (zLo X) (zDo X) Sh top hO o_ μ30 _ ho e40) mv12_allBegin ml12_313 ho rfl rfl rfl rfl d12_on_181 ?_
          refine z_aload_n fx (k := 0) (i := 0) rfl rfl d12_on_184 ?_
          refine z_iconst fx (v := 0) ic0 d12_on_185 ?_
          obtain ⟨μ35, e41, h⟩ := zinv h
          refine z_putI fx (ci := 12) 45 ho lf12_147 fp12_45 e41 d12_on_186 ?_
          refine z_iconst fx (v := 1) ic1 d12_on_189 ?_
          refine z_top (show Value.int 1 = .int (bI true) from rfl) ?_
          cases h
          exact z_zreturn fx fin d12_on_190
        clear h
        have klr33 : ∀ (n : Nat) (v_h_27 : Int32) (μ28 : zM), zloop (fun s => f12_on_L3 o_ s.1 s.2) n (v_h_27, μ28) = some (v_h_29, μ30) → zZ zK1 X (zT0 Sh top) μ28 139 [(0, .ref o_), (1, .int t1), (2, .int v_h_27)] [] := by
          intro n
          induction n with
          | zero => intro v_h_27 μ28 hl32; cases hl32
          | succ n ih35 =>
            intro v_h_27 μ28 hl32
            obtain ⟨y, e31, hl32⟩ := zloop_inv hl32
            replace e31 : f12_on_L3 o_ v_h_27 μ28 = some y := e31
            unfold f12_on_L3 at e31
            refine z_iload_n fx (k := 2) (i := 2) rfl rfl d12_on_139 ?_
            refine z_aload_n fx (k := 0) (i := 0) rfl rfl d12_on_140 ?_
            refine z_getI fx 12 3 1203 ho lf12_19 ⟨fk12_3, rfl⟩ d12_on_141 ?_
            refine z_icmp_ge fx d12_on_144 (fun c36 => ?_) (fun c36 => ?_)
            · replace e31 := zif_f c36 e31
              cases e31
              cases hl32
              exact kx34
            · replace e31 := zif_t c36 e31
              refine z_aload_n fx (k := 0) (i := 0) rfl rfl d12_on_147 ?_
              refine z_sipush fx (v := 978) sp978 d12_on_148 ?_
              refine z_iload_n fx (k := 2) (i := 2) rfl rfl d12_on_151 ?_
              refine z_iadd fx d12_on_152 ?_
              refine z_aload_n fx (k := 0) (i := 0) rfl rfl d12_on_153 ?_
              refine z_getO fx 12 31 21 ho lf12_104 fk12_31 d12_on_154 ?_
              refine z_iconst fx (v := 3) ic3 d12_on_157 ?_
              refine z_aload_n fx (k := 0) (i := 0) rfl rfl d12_on_158 ?_
              refine z_getI fx 12 1 1201 ho lf12_13 ⟨fk12_1, rfl⟩ d12_on_159 ?_
              refine z_imul fx d12_on_162 ?_
              refine z_aload_n fx (k := 0) (i := 0) rfl rfl d12_on_163 ?_
              refine z_getI fx 12 2 1202 ho lf12_16 ⟨fk12_2, rfl⟩ d12_on_164 ?_
              refine z_iadd fx d12_on_167 ?_
              refine z_iload_n fx (k := 2) (i := 2) rfl rfl d12_on_168 ?_
              refine z_iadd fx d12_on_169 ?_
              obtain ⟨t31, e37, e31⟩ := zinv e31
              refine z_iald fx (ok12_31 hO ho) e37 d12_on_170 ?_
              obtain ⟨μ32, e38, e31⟩ := zinv e31
              refine z_cVv fx (c12_puts (zLo X) (zDo X) Sh top hO o_ (978 + v_h_27) t31 μ28 _ ho e38) mv12_puts ml12_310 ho rfl rfl rfl rfl d12_on_171 ?_
              obtain ⟨v_h_33, e39, e31⟩ := zinv e31
              replace e39 := Option.some.inj e39
              refine z_iinc fx (i := 2) (x := v_h_27) (v := v_h_33) rfl (by rw [in1]; exact e39) rfl (lv' := [(0, .ref o_), (1, .int t1), (2, .int v_h_33)]) rfl rfl d12_on_174 ?_
              cases e31
              refine z_goto fx d12_on_177 ?_
              exact ih35 _ _ hl32
        exact klr33 _ _ _ e42
      clear h
      have klr24 : ∀ (n : Nat) (v_l_20 : Int32) (μ21 : zM), zloop (fun s => f12_on_L2 o_ s.1 s.2) n (v_l_20, μ21) = some (v_l_22, μ23) → zZ zK1 X (zT0 Sh top) μ21 101 [(0, .ref o_), (1, .int t1), (2, .int v_l_20)] [] := by
        intro n
        induction n with
        | zero => intro v_l_20 μ21 hl23; cases hl23
        | succ n ih26 =>
          intro v_l_20 μ21 hl23
          obtain ⟨y, e22, hl23⟩ := zloop_inv hl23
          replace e22 : f12_on_L2 o_ v_l_20 μ21 = some y := e22
          unfold f12_on_L2 at e22
          refine z_iload_n fx (k := 2) (i := 2) rfl rfl d12_on_101 ?_
          refine z_aload_n fx (k := 0) (i := 0) rfl rfl d12_on_102 ?_
          refine z_getI fx 12 2 1202 ho lf12_16 ⟨fk12_2, rfl⟩ d12_on_103 ?_
          refine z_icmp_ge fx d12_on_106 (fun c27 => ?_) (fun c27 => ?_)
          · replace e22 := zif_f c27 e22
            cases e22
            cases hl23
            exact kx25
          · replace e22 := zif_t c27 e22
            refine z_aload_n fx (k := 0) (i := 0) rfl rfl d12_on_109 ?_
            refine z_sipush fx (v := 964) sp964 d12_on_110 ?_
            refine z_iload_n fx (k := 2) (i := 2) rfl rfl d12_on_113 ?_
            refine z_iadd fx d12_on_114 ?_
            refine z_aload_n fx (k := 0) (i := 0) rfl rfl d12_on_115 ?_
            refine z_getO fx 12 31 21 ho lf12_104 fk12_31 d12_on_116 ?_
            refine z_iconst fx (v := 3) ic3 d12_on_119 ?_
            refine z_aload_n fx (k := 0) (i := 0) rfl rfl d12_on_120 ?_
            refine z_getI fx 12 1 1201 ho lf12_13 ⟨fk12_1, rfl⟩ d12_on_121 ?_
            refine z_imul fx d12_on_124 ?_
            refine z_iload_n fx (k := 2) (i := 2) rfl rfl d12_on_125 ?_
            refine z_iadd fx d12_on_126 ?_
            obtain ⟨t24, e28, e22⟩ := zinv e22
            refine z_iald fx (ok12_31 hO ho) e28 d12_on_127 ?_
            obtain ⟨μ25, e29, e22⟩ := zinv e22
            refine z_cVv fx (c12_puts (zLo X) (zDo X) Sh top hO o_ (964 + v_l_20) t24 μ21 _ ho e29) mv12_puts ml12_310 ho rfl rfl rfl rfl d12_on_128 ?_
            obtain ⟨v_l_26, e30, e22⟩ := zinv e22
            replace e30 := Option.some.inj e30
            refine z_iinc fx (i := 2) (x := v_l_20) (v := v_l_26) rfl (by rw [in1]; exact e30) rfl (lv' := [(0, .ref o_), (1, .int t1), (2, .int v_l_26)]) rfl rfl d12_on_131 ?_
            cases e22
            refine z_goto fx d12_on_134 ?_
            exact ih26 _ _ hl23
      exact klr24 _ _ _ e43
    clear h
    have klr8 : ∀ (n : Nat) (v_b_6 : Int32) (μ7 : zM), zloop (fun s => f12_on_L1 o_ s.1 s.2) n (v_b_6, μ7) = some (v_b_8, μ9) → zZ zK1 X (zT0 Sh top) μ7 30 [(0, .ref o_), (1, .int t1), (2, .int v_b_6)] [] := by
      intro n
      induction n with
      | zero => intro v_b_6 μ7 hl7; cases hl7
      | succ n ih10 =>
        intro v_b_6 μ7 hl7
        obtain ⟨y, e6, hl7⟩ := zloop_inv hl7
        replace e6 : f12_on_L1 o_ v_b_6 μ7 = some y := e6
        unfold f12_on_L1 at e6
        refine z_iload_n fx (k := 2) (i := 2) rfl rfl d12_on_30 ?_
        refine z_aload_n fx (k := 0) (i := 0) rfl rfl d12_on_31 ?_
        refine z_getI fx 12 1 1201 ho lf12_13 ⟨fk12_1, rfl⟩ d12_on_32 ?_
        refine z_icmp_ge fx d12_on_35 (fun c11 => ?_) (fun c11 => ?_)
        · replace e6 := zif_f c11 e6
          cases e6
          cases hl7
          exact kx9
        · replace e6 := zif_t c11 e6
          refine z_aload_n fx (k := 0) (i := 0) rfl rfl d12_on_38 ?_
          refine z_iload_n fx (k := 2) (i := 2) rfl rfl d12_on_39 ?_
          refine z_iconst fx (v := 0) ic0 d12_on_40 ?_
          obtain ⟨t10, e12, e6⟩ := zinv e6
          refine z_cSr fx (c12_bridgeAt (zLo X) (zDo X) Sh top hO v_b_6 0 μ7 _  e12) ms12_bridgeAt ml12_307 rfl rfl rfl rfl d12_on_41 ?_
          refine z_aload_n fx (k := 0) (i := 0) rfl rfl d12_on_44 ?_
          refine z_getO fx 12 31 21 ho lf12_104 fk12_31 d12_on_45 ?_
          refine z_iconst fx (v := 3) ic3 d12_on_48 ?_
          refine z_iload_n fx (k := 2) (i := 2) rfl rfl d12_on_49 ?_
          refine z_imul fx d12_on_50 ?_
          obtain ⟨t11, e13, e6⟩ := zinv e6
          refine z_iald fx (ok12_31 hO ho) e13 d12_on_51 ?_
          obtain ⟨μ12, e14, e6⟩ := zinv e6
          refine z_cVv fx (c12_puts (zLo X) (zDo X) Sh top hO o_ t10 t11 μ7 _ ho e14) mv12_puts ml12_310 ho rfl rfl rfl rfl d12_on_52 ?_
          refine z_aload_n fx (k := 0) (i := 0) rfl rfl d12_on_55 ?_
          refine z_iload_n fx (k := 2) (i := 2) rfl rfl d12_on_56 ?_
          refine z_iconst fx (v := 1) ic1 d12_on_57 ?_
          obtain ⟨t13, e15, e6⟩ := zinv e6
          refine z_cSr fx (c12_bridgeAt (zLo X) (zDo X) Sh top hO v_b_6 1 μ12 _  e15) ms12_bridgeAt ml12_307 rfl rfl rfl rfl d12_on_58 ?_
          refine z_aload_n fx (k := 0) (i := 0) rfl rfl d12_on_61 ?_
          refine z_getO fx 12 31 21 ho lf12_104 fk12_31 d12_on_62 ?_
          refine z_iconst fx (v := 3) ic3 d12_on_65 ?_
          refine z_iload_n fx (k := 2) (i := 2) rfl rfl d12_on_66 ?_
          refine z_imul fx d12_on_67 ?_
          refine z_iconst fx (v := 1) ic1 d12_on_68 ?_
          refine z_iadd fx d12_on_69 ?_
          obtain ⟨t14, e16, e6⟩ := zinv e6
          refine z_iald fx (ok12_31 hO ho) e16 d12_on_70 ?_
          obtain ⟨μ15, e17, e6⟩ := zinv e6
          refine z_cVv fx (c12_puts (zLo X) (zDo X) Sh top hO o_ t13 t14 μ12 _ ho e17) mv12_puts ml12_310 ho rfl rfl rfl rfl d12_on_71 ?_
          refine z_aload_n fx (k := 0) (i := 0) rfl rfl d12_on_74 ?_
          refine z_iload_n fx (k := 2) (i := 2) rfl rfl d12_on_75 ?_
          refine z_iconst fx (v := 2) ic2 d12_on_76 ?_
          obtain ⟨t16, e18, e6⟩ := zinv e6
          refine z_cSr fx (c12_bridgeAt (zLo X) (zDo X) Sh top hO v_b_6 2 μ15 _  e18) ms12_bridgeAt ml12_307 rfl rfl rfl rfl d12_on_77 ?_
          refine z_aload_n fx (k := 0) (i := 0) rfl rfl d12_on_80 ?_
          refine z_getO fx 12 31 21 ho lf12_104 fk12_31 d12_on_81 ?_
          refine z_iconst fx (v := 3) ic3 d12_on_84 ?_
          refine z_iload_n fx (k := 2) (i := 2) rfl rfl d12_on_85 ?_
          refine z_imul fx d12_on_86 ?_
          refine z_iconst fx (v := 2) ic2 d12_on_87 ?_
          refine z_iadd fx d12_on_88 ?_
          obtain ⟨t17, e19, e6⟩ := zinv e6
          refine z_iald fx (ok12_31 hO ho) e19 d12_on_89 ?_
          obtain ⟨μ18, e20, e6⟩ := zinv e6
          refine z_cVv fx (c12_puts (zLo X) (zDo X) Sh top hO o_ t16 t17 μ15 _ ho e20) mv12_puts ml12_310 ho rfl rfl rfl rfl d12_on_90 ?_
          obtain ⟨v_b_19, e21, e6⟩ := zinv e6
          replace e21 := Option.some.inj e21
          refine z_iinc fx (i := 2) (x := v_b_6) (v := v_b_19) rfl (by rw [in1]; exact e21) rfl (lv' := [(0, .ref o_), (1, .int t1), (2, .int v_b_19)]) rfl rfl d12_on_93 ?_
          cases e6
          refine z_goto fx d12_on_96 ?_
          exact ih10 _ _ hl7
    exact klr8 _ _ _ e44
  · replace h := zif_f c3 h
    refine z_aload_n fx (k := 0) (i := 0) rfl rfl d12_on_13 ?_
    refine z_iconst fx (v := 5) ic5 d12_on_14 ?_
    obtain ⟨t36, μ37, e45, h⟩ := zinv2 h
    refine z_cVr fx (c12_isRefused (zLo X) (zDo X) Sh top hO o_ 5 μ2 _ _ ho e45) mv12_isRefused ml12_545 ho rfl rfl rfl rfl d12_on_15 ?_
    cases h
    exact z_zreturn fx fin d12_on_18
theorem d12_status_0 : zd cX12_status 0 (.iload_n 1) 1 1 := by decide +kernel
theorem d12_status_1 : zd cX12_status 1 (.iconst 0) 1 2 := by decide +kernel
theorem d12_status_2 : zd cX12_status 2 (.iconst 5) 1 3 := by decide +kernel
theorem d12_status_3 : zd cX12_status 3 (.invokestatic 250) 3 6 := by decide +kernel
theorem d12_status_6 : zj cX12_status 6 (.ifCond .eq 12) 12 9 18 := by decide +kernel
theorem d12_status_9 : zd cX12_status 9 (.aload_n 0) 1 10 := by decide +kernel
theorem d12_status_10 : zd cX12_status 10 (.getfield 110) 3 13 := by decide +kernel
theorem d12_status_13 : zd cX12_status 13 (.iload_n 1) 1 14 := by decide +kernel
theorem d12_status_14 : zd cX12_status 14 (.iaload) 1 15 := by decide +kernel
theorem d12_status_15 : zj cX12_status 15 (.goto 4) 4 18 19 := by decide +kernel
theorem d12_status_18 : zd cX12_status 18 (.iconst (-1)) 1 19 := by decide +kernel
theorem d12_status_19 : zd cX12_status 19 (.ireturn) 1 20 := by decide +kernel
set_option maxHeartbeats 4000000 in
set_option maxRecDepth 20000 in
theorem c12_status (l : Launch) (D : zDt) (Sh : zSh) (top : Nat) (hO : zOK Sh) (o_ : Nat) (v_what : Int32) (μ : zM) (r_ : Int32) (ho : (Sh o_).1 = 19) (h : f12_status o_ v_what μ = some r_) : zMet l D zK1 yX12_status cX12_status 2 (some .int) (zrm 1 22) [.ref o_, .int v_what] Sh top μ (some (.int r_)) Sh top μ 0 0 := by
  refine zMet_of (by decide) (Nat.le_of_ble_eq_true rfl) fun X hX1 hX2 fx fin => ?_
  subst hX1; subst hX2
  replace fx : zFix X cX12_status RX12 (zrm 1 22) 2 := fx
  show zZ zK1 X (zT0 Sh top) μ 0 [(0, .ref o_), (1, .int v_what)] []
  unfold f12_status at h
  obtain ⟨x1, e1, h⟩ := zinv h
  have k2 : zZ zK1 X (zT0 Sh top) μ 19 [(0, .ref o_), (1, .int v_what)] [.int x1] := by
    cases h
    exact z_ireturn fx fin d12_status_19
  refine z_iload_n fx (k := 1) (i := 1) rfl rfl d12_status_0 ?_
  refine z_iconst fx (v := 0) ic0 d12_status_1 ?_
  refine z_iconst fx (v := 5) ic5 d12_status_2 ?_
  obtain ⟨t2, e3, e1⟩ := zinv e1
  refine z_cSr fx (c12_isIn (zLo X) (zDo X) Sh top hO v_what 0 5 μ _  e3) ms12_isIn ml12_250 rfl rfl rfl rfl d12_status_3 ?_
  refine z_ifb_eq fx d12_status_6 (fun c4 => ?_) (fun c4 => ?_)
  · replace e1 := zif_f c4 e1
    refine z_iconst fx (v := (-1)) icm1 d12_status_18 ?_
    cases e1
    exact k2
  · replace e1 := zif_t c4 e1
    refine z_aload_n fx (k := 0) (i := 0) rfl rfl d12_status_9 ?_
    refine z_getO fx 12 33 22 ho lf12_110 fk12_33 d12_status_10 ?_
    refine z_iload_n fx (k := 1) (i := 1) rfl rfl d12_status_13 ?_
    obtain ⟨t3, e5, e1⟩ := zinv e1
    refine z_iald fx (ok12_33 hO ho) e5 d12_status_14 ?_
    cases e1
    refine z_goto fx d12_status_15 ?_
    exact k2
