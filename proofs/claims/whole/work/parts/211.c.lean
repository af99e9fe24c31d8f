theorem d12_isOff_0 : zd cX12_isOff 0 (.iconst 0) 1 1 := by decide +kernel
theorem d12_isOff_1 : zd cX12_isOff 1 (.istore_n 2) 1 2 := by decide +kernel
theorem d12_isOff_2 : zd cX12_isOff 2 (.iload_n 2) 1 3 := by decide +kernel
theorem d12_isOff_3 : zd cX12_isOff 3 (.bipush 8) 2 5 := by decide +kernel
theorem d12_isOff_5 : zj cX12_isOff 5 (.if_icmp .ge 16) 16 8 21 := by decide +kernel
theorem d12_isOff_8 : zd cX12_isOff 8 (.aload_n 0) 1 9 := by decide +kernel
theorem d12_isOff_9 : zd cX12_isOff 9 (.getfield 154) 3 12 := by decide +kernel
theorem d12_isOff_12 : zd cX12_isOff 12 (.iload_n 2) 1 13 := by decide +kernel
theorem d12_isOff_13 : zd cX12_isOff 13 (.iconst 0) 1 14 := by decide +kernel
theorem d12_isOff_14 : zd cX12_isOff 14 (.iastore) 1 15 := by decide +kernel
theorem d12_isOff_15 : zd cX12_isOff 15 (.iinc 2 1) 3 18 := by decide +kernel
theorem d12_isOff_18 : zj cX12_isOff 18 (.goto (-16)) (-16) 21 2 := by decide +kernel
theorem d12_isOff_21 : zd cX12_isOff 21 (.iconst 0) 1 22 := by decide +kernel
theorem d12_isOff_22 : zd cX12_isOff 22 (.istore_n 2) 1 23 := by decide +kernel
theorem d12_isOff_23 : zd cX12_isOff 23 (.iload_n 2) 1 24 := by decide +kernel
theorem d12_isOff_24 : zd cX12_isOff 24 (.aload_n 0) 1 25 := by decide +kernel
theorem d12_isOff_25 : zd cX12_isOff 25 (.getfield 16) 3 28 := by decide +kernel
theorem d12_isOff_28 : zj cX12_isOff 28 (.if_icmp .ge 96) 96 31 124 := by decide +kernel
theorem d12_isOff_31 : zd cX12_isOff 31 (.aload_n 0) 1 32 := by decide +kernel
theorem d12_isOff_32 : zd cX12_isOff 32 (.iload_n 2) 1 33 := by decide +kernel
theorem d12_isOff_33 : zd cX12_isOff 33 (.invokevirtual 331) 3 36 := by decide +kernel
theorem d12_isOff_36 : zj cX12_isOff 36 (.ifCond .eq 82) 82 39 118 := by decide +kernel
theorem d12_isOff_39 : zd cX12_isOff 39 (.aload_n 0) 1 40 := by decide +kernel
theorem d12_isOff_40 : zd cX12_isOff 40 (.getfield 38) 3 43 := by decide +kernel
theorem d12_isOff_43 : zd cX12_isOff 43 (.iconst 4) 1 44 := by decide +kernel
theorem d12_isOff_44 : zd cX12_isOff 44 (.iload_n 2) 1 45 := by decide +kernel
theorem d12_isOff_45 : zd cX12_isOff 45 (.imul) 1 46 := by decide +kernel
theorem d12_isOff_46 : zd cX12_isOff 46 (.iaload) 1 47 := by decide +kernel
theorem d12_isOff_47 : zd cX12_isOff 47 (.iload_n 1) 1 48 := by decide +kernel
theorem d12_isOff_48 : zj cX12_isOff 48 (.if_icmp .eq 20) 20 51 68 := by decide +kernel
theorem d12_isOff_51 : zd cX12_isOff 51 (.aload_n 0) 1 52 := by decide +kernel
theorem d12_isOff_52 : zd cX12_isOff 52 (.getfield 38) 3 55 := by decide +kernel
theorem d12_isOff_55 : zd cX12_isOff 55 (.iconst 4) 1 56 := by decide +kernel
theorem d12_isOff_56 : zd cX12_isOff 56 (.iload_n 2) 1 57 := by decide +kernel
theorem d12_isOff_57 : zd cX12_isOff 57 (.imul) 1 58 := by decide +kernel
theorem d12_isOff_58 : zd cX12_isOff 58 (.iconst 2) 1 59 := by decide +kernel
theorem d12_isOff_59 : zd cX12_isOff 59 (.iadd) 1 60 := by decide +kernel
theorem d12_isOff_60 : zd cX12_isOff 60 (.iaload) 1 61 := by decide +kernel
theorem d12_isOff_61 : zd cX12_isOff 61 (.iload_n 1) 1 62 := by decide +kernel
theorem d12_isOff_62 : zj cX12_isOff 62 (.if_icmp .eq 6) 6 65 68 := by decide +kernel
theorem d12_isOff_65 : zj cX12_isOff 65 (.goto 53) 53 68 118 := by decide +kernel
theorem d12_isOff_68 : zd cX12_isOff 68 (.aload_n 0) 1 69 := by decide +kernel
theorem d12_isOff_69 : zd cX12_isOff 69 (.getfield 154) 3 72 := by decide +kernel
theorem d12_isOff_72 : zd cX12_isOff 72 (.aload_n 0) 1 73 := by decide +kernel
theorem d12_isOff_73 : zd cX12_isOff 73 (.getfield 38) 3 76 := by decide +kernel
theorem d12_isOff_76 : zd cX12_isOff 76 (.iconst 4) 1 77 := by decide +kernel
theorem d12_isOff_77 : zd cX12_isOff 77 (.iload_n 2) 1 78 := by decide +kernel
theorem d12_isOff_78 : zd cX12_isOff 78 (.imul) 1 79 := by decide +kernel
theorem d12_isOff_79 : zd cX12_isOff 79 (.iaload) 1 80 := by decide +kernel
theorem d12_isOff_80 : zd cX12_isOff 80 (.iconst 1) 1 81 := by decide +kernel
theorem d12_isOff_81 : zd cX12_isOff 81 (.iastore) 1 82 := by decide +kernel
theorem d12_isOff_82 : zd cX12_isOff 82 (.aload_n 0) 1 83 := by decide +kernel
theorem d12_isOff_83 : zd cX12_isOff 83 (.getfield 154) 3 86 := by decide +kernel
theorem d12_isOff_86 : zd cX12_isOff 86 (.aload_n 0) 1 87 := by decide +kernel
theorem d12_isOff_87 : zd cX12_isOff 87 (.getfield 38) 3 90 := by decide +kernel
theorem d12_isOff_90 : zd cX12_isOff 90 (.iconst 4) 1 91 := by decide +kernel
theorem d12_isOff_91 : zd cX12_isOff 91 (.iload_n 2) 1 92 := by decide +kernel
theorem d12_isOff_92 : zd cX12_isOff 92 (.imul) 1 93 := by decide +kernel
theorem d12_isOff_93 : zd cX12_isOff 93 (.iconst 2) 1 94 := by decide +kernel
theorem d12_isOff_94 : zd cX12_isOff 94 (.iadd) 1 95 := by decide +kernel
theorem d12_isOff_95 : zd cX12_isOff 95 (.iaload) 1 96 := by decide +kernel
theorem d12_isOff_96 : zd cX12_isOff 96 (.iconst 1) 1 97 := by decide +kernel
theorem d12_isOff_97 : zd cX12_isOff 97 (.iastore) 1 98 := by decide +kernel
theorem d12_isOff_98 : zd cX12_isOff 98 (.aload_n 0) 1 99 := by decide +kernel
theorem d12_isOff_99 : zd cX12_isOff 99 (.aload_n 0) 1 100 := by decide +kernel
theorem d12_isOff_100 : zd cX12_isOff 100 (.iload_n 2) 1 101 := by decide +kernel
theorem d12_isOff_101 : zd cX12_isOff 101 (.iconst 0) 1 102 := by decide +kernel
theorem d12_isOff_102 : zd cX12_isOff 102 (.invokevirtual 378) 3 105 := by decide +kernel
theorem d12_isOff_105 : zd cX12_isOff 105 (.invokevirtual 381) 3 108 := by decide +kernel
theorem d12_isOff_108 : zd cX12_isOff 108 (.aload_n 0) 1 109 := by decide +kernel
theorem d12_isOff_109 : zd cX12_isOff 109 (.aload_n 0) 1 110 := by decide +kernel
theorem d12_isOff_110 : zd cX12_isOff 110 (.iload_n 2) 1 111 := by decide +kernel
theorem d12_isOff_111 : zd cX12_isOff 111 (.iconst 1) 1 112 := by decide +kernel
theorem d12_isOff_112 : zd cX12_isOff 112 (.invokevirtual 378) 3 115 := by decide +kernel
theorem d12_isOff_115 : zd cX12_isOff 115 (.invokevirtual 381) 3 118 := by decide +kernel
theorem d12_isOff_118 : zd cX12_isOff 118 (.iinc 2 1) 3 121 := by decide +kernel
theorem d12_isOff_121 : zj cX12_isOff 121 (.goto (-98)) (-98) 124 23 := by decide +kernel
theorem d12_isOff_124 : zd cX12_isOff 124 (.aload_n 0) 1 125 := by decide +kernel
theorem d12_isOff_125 : zd cX12_isOff 125 (.iload_n 1) 1 126 := by decide +kernel
theorem d12_isOff_126 : zd cX12_isOff 126 (.iconst 0) 1 127 := by decide +kernel
theorem d12_isOff_127 : zd cX12_isOff 127 (.invokestatic 307) 3 130 := by decide +kernel
theorem d12_isOff_130 : zd cX12_isOff 130 (.iconst 0) 1 131 := by decide +kernel
theorem d12_isOff_131 : zd cX12_isOff 131 (.invokevirtual 310) 3 134 := by decide +kernel
theorem d12_isOff_134 : zd cX12_isOff 134 (.iconst 0) 1 135 := by decide +kernel
theorem d12_isOff_135 : zd cX12_isOff 135 (.istore_n 2) 1 136 := by decide +kernel
theorem d12_isOff_136 : zd cX12_isOff 136 (.iload_n 2) 1 137 := by decide +kernel
theorem d12_isOff_137 : zd cX12_isOff 137 (.aload_n 0) 1 138 := by decide +kernel
theorem d12_isOff_138 : zd cX12_isOff 138 (.getfield 19) 3 141 := by decide +kernel
theorem d12_isOff_141 : zj cX12_isOff 141 (.if_icmp .ge 19) 19 144 160 := by decide +kernel
theorem d12_isOff_144 : zd cX12_isOff 144 (.aload_n 0) 1 145 := by decide +kernel
theorem d12_isOff_145 : zd cX12_isOff 145 (.iload_n 1) 1 146 := by decide +kernel
theorem d12_isOff_146 : zd cX12_isOff 146 (.iload_n 2) 1 147 := by decide +kernel
theorem d12_isOff_147 : zd cX12_isOff 147 (.invokestatic 348) 3 150 := by decide +kernel
theorem d12_isOff_150 : zd cX12_isOff 150 (.iconst (-1)) 1 151 := by decide +kernel
theorem d12_isOff_151 : zd cX12_isOff 151 (.invokevirtual 310) 3 154 := by decide +kernel
theorem d12_isOff_154 : zd cX12_isOff 154 (.iinc 2 1) 3 157 := by decide +kernel
theorem d12_isOff_157 : zj cX12_isOff 157 (.goto (-21)) (-21) 160 136 := by decide +kernel
theorem d12_isOff_160 : zd cX12_isOff 160 (.aload_n 0) 1 161 := by decide +kernel
theorem d12_isOff_161 : zd cX12_isOff 161 (.invokevirtual 390) 3 164 := by decide +kernel
theorem d12_isOff_164 : zd cX12_isOff 164 (.return_) 1 165 := by decide +kernel
set_option maxHeartbeats 4000000 in
set_option maxRecDepth 20000 in
theorem c12_isOff (l : Launch) (D : zDt) (Sh : zSh) (top : Nat) (hO : zOK Sh) (o_ : Nat) (v_b : Int32) (μ : zM) (μ_ : zM) (ho : (Sh o_).1 = 19) (h : f12_isOff o_ v_b μ = some μ_) : zMet l D zK1 yX12_isOff cX12_isOff 3 none (zrm 8 178) [.ref o_, .int v_b] Sh top μ none Sh top μ_ 0 0 := by
  refine zMet_of (by decide) (Nat.le_of_ble_eq_true rfl) fun X hX1 hX2 fx fin => ?_
  subst hX1; subst hX2
  replace fx : zFix X cX12_isOff RX12 (zrm 8 178) 3 := fx
  show zZ zK1 X (zT0 Sh top) μ 0 [(0, .ref o_), (1, .int v_b)] []
  unfold f12_isOff at h
  refine z_iconst fx (v := 0) ic0 d12_isOff_0 ?_
  refine z_istore_n fx (k := 2) (i := 2) rfl rfl (lv' := [(0, .ref o_), (1, .int v_b), (2, .int 0)]) rfl rfl d12_isOff_1 ?_
  obtain ⟨v_o_3, μ4, e51, h⟩ := zinv2 h
  have kx4 : zZ zK1 X (zT0 Sh top) μ4 21 [(0, .ref o_), (1, .int v_b), (2, .int v_o_3)] [] := by
    refine z_take 2 (lv' := [(0, .ref o_), (1, .int v_b)]) rfl ?_
    refine z_iconst fx (v := 0) ic0 d12_isOff_21 ?_
    refine z_istore_n fx (k := 2) (i := 2) rfl rfl (lv' := [(0, .ref o_), (1, .int v_b), (2, .int 0)]) rfl rfl d12_isOff_22 ?_
    obtain ⟨v_l_9, μ10, e50, h⟩ := zinv2 h
    have kx12 : zZ zK1 X (zT0 Sh top) μ10 124 [(0, .ref o_), (1, .int v_b), (2, .int v_l_9)] [] := by
      refine z_take 2 (lv' := [(0, .ref o_), (1, .int v_b)]) rfl ?_
      refine z_aload_n fx (k := 0) (i := 0) rfl rfl d12_isOff_124 ?_
      refine z_iload_n fx (k := 1) (i := 1) rfl rfl d12_isOff_125 ?_
      refine z_iconst fx (v := 0) ic0 d12_isOff_126 ?_
      obtain ⟨t27, e37, h⟩ := zinv h
      refine z_cSr fx (c12_bridgeAt (zLo X) (zDo X) Sh top hO v_b 0 μ10 _  e37) ms12_bridgeAt ml12_307 rfl rfl rfl rfl d12_isOff_127 ?_
      refine z_iconst fx (v := 0) ic0 d12_isOff_130 ?_
      obtain ⟨μ28, e38, h⟩ := zinv h
      refine z_cVv fx (c12_puts (zLo X) (zDo X) Sh top hO o_ t27 0 μ10 _ ho e38) mv12_puts ml12_310 ho rfl rfl rfl rfl d12_isOff_131 ?_
      refine z_iconst fx (v := 0) ic0 d12_isOff_134 ?_
      refine z_istore_n fx (k := 2) (i := 2) rfl rfl (lv' := [(0, .ref o_), (1, .int v_b), (2, .int 0)]) rfl rfl d12_isOff_135 ?_
      obtain ⟨v_h_31, μ32, e49, h⟩ := zinv2 h
      have kx42 : zZ zK1 X (zT0 Sh top) μ32 160 [(0, .ref o_), (1, .int v_b), (2, .int v_h_31)] [] := by
        refine z_take 2 (lv' := [(0, .ref o_), (1, .int v_b)]) rfl ?_
        refine z_aload_n fx (k := 0) (i := 0) rfl rfl d12_isOff_160 ?_
        obtain ⟨μ36, e48, h⟩ := zinv h
        refine z_cVv fx (c12_choosesAll (zLo X) (zDo X) Sh top hO o_ μ32 _ ho e48) mv12_choosesAll ml12_390 ho rfl rfl rfl rfl d12_isOff_161 ?_
        cases h
        exact z_return fx fin d12_isOff_164
      clear h
      have klr41 : ∀ (n : Nat) (v_h_29 : Int32) (μ30 : zM), zloop (fun s => f12_isOff_L3 o_ v_b s.1 s.2) n (v_h_29, μ30) = some (v_h_31, μ32) → zZ zK1 X (zT0 Sh top) μ30 136 [(0, .ref o_), (1, .int v_b), (2, .int v_h_29)] [] := by
        intro n
        induction n with
        | zero => intro v_h_29 μ30 hl40; cases hl40
        | succ n ih43 =>
          intro v_h_29 μ30 hl40
          obtain ⟨y, e39, hl40⟩ := zloop_inv hl40
          replace e39 : f12_isOff_L3 o_ v_b v_h_29 μ30 = some y := e39
          unfold f12_isOff_L3 at e39
          refine z_iload_n fx (k := 2) (i := 2) rfl rfl d12_isOff_136 ?_
          refine z_aload_n fx (k := 0) (i := 0) rfl rfl d12_isOff_137 ?_
          refine z_getI fx 12 3 1203 ho lf12_19 ⟨fk12_3, rfl⟩ d12_isOff_138 ?_
          refine z_icmp_ge fx d12_isOff_141 (fun c44 => ?_) (fun c44 => ?_)
          · replace e39 := zif_f c44 e39
            cases e39
            cases hl40
            exact kx42
          · replace e39 := zif_t c44 e39
            refine z_aload_n fx (k := 0) (i := 0) rfl rfl d12_isOff_144 ?_
            refine z_iload_n fx (k := 1) (i := 1) rfl rfl d12_isOff_145 ?_
            refine z_iload_n fx (k := 2) (i := 2) rfl rfl d12_isOff_146 ?_
            obtain ⟨t33, e45, e39⟩ := zinv e39
            refine z_cSr fx (c12_addressAt (zLo X) (zDo X) Sh top hO v_b v_h_29 μ30 _  e45) ms12_addressAt ml12_348 rfl rfl rfl rfl d12_isOff_147 ?_
            refine z_iconst fx (v := (-1)) icm1 d12_isOff_150 ?_
            obtain ⟨μ34, e46, e39⟩ := zinv e39
            refine z_cVv fx (c12_puts (zLo X) (zDo X) Sh top hO o_ t33 (-1) μ30 _ ho e46) mv12_puts ml12_310 ho rfl rfl rfl rfl d12_isOff_151 ?_
            obtain ⟨v_h_35, e47, e39⟩ := zinv e39
            replace e47 := Option.some.inj e47
            refine z_iinc fx (i := 2) (x := v_h_29) (v := v_h_35) rfl (by rw [in1]; exact e47) rfl (lv' := [(0, .ref o_), (1, .int v_b), (2, .int v_h_35)]) rfl rfl d12_isOff_154 ?_
            cases e39
            refine z_goto fx d12_isOff_157 ?_
            exact ih43 _ _ hl40
      exact klr41 _ _ _ e49
    clear h
    have klr11 : ∀ (n : Nat) (v_l_7 : Int32) (μ8 : zM), zloop (fun s => f12_isOff_L2 o_ v_b s.1 s.2) n (v_l_7, μ8) = some (v_l_9, μ10) → zZ zK1 X (zT0 Sh top) μ8 23 [(0, .ref o_), (1, .int v_b), (2, .int v_l_7)] [] := by
      intro n
      induction n with
      | zero => intro v_l_7 μ8 hl10; cases hl10
      | succ n ih13 =>
        intro v_l_7 μ8 hl10
        obtain ⟨y, e9, hl10⟩ := zloop_inv hl10
        replace e9 : f12_isOff_L2 o_ v_b v_l_7 μ8 = some y := e9
        unfold f12_isOff_L2 at e9
        refine z_iload_n fx (k := 2) (i := 2) rfl rfl d12_isOff_23 ?_
        refine z_aload_n fx (k := 0) (i := 0) rfl rfl d12_isOff_24 ?_
        refine z_getI fx 12 2 1202 ho lf12_16 ⟨fk12_2, rfl⟩ d12_isOff_25 ?_
        refine z_icmp_ge fx d12_isOff_28 (fun c14 => ?_) (fun c14 => ?_)
        · replace e9 := zif_f c14 e9
          cases e9
          cases hl10
          exact kx12
        · replace e9 := zif_t c14 e9
          obtain ⟨b11, e16, e9⟩ := zinv e9
          have kt15 : b11 = true → zZ zK1 X (zT0 Sh top) μ8 118 [(0, .ref o_), (1, .int v_b), (2, .int v_l_7)] [] := by
            intro hc
            replace e9 := zif_t hc e9
            obtain ⟨v_l_12, e17, e9⟩ := zinv e9
            replace e17 := Option.some.inj e17
            refine z_iinc fx (i := 2) (x := v_l_7) (v := v_l_12) rfl (by rw [in1]; exact e17) rfl (lv' := [(0, .ref o_), (1, .int v_b), (2, .int v_l_12)]) rfl rfl d12_isOff_118 ?_
            cases e9
            refine z_goto fx d12_isOff_121 ?_
            exact ih13 _ _ hl10
          have kf15 : b11 = false → zZ zK1 X (zT0 Sh top) μ8 68 [(0, .ref o_), (1, .int v_b), (2, .int v_l_7)] [] := by
            intro hc
            replace e9 := zif_f hc e9
            refine z_aload_n fx (k := 0) (i := 0) rfl rfl d12_isOff_68 ?_
            refine z_getO fx 12 47 26 ho lf12_154 fk12_47 d12_isOff_69 ?_
            refine z_aload_n fx (k := 0) (i := 0) rfl rfl d12_isOff_72 ?_
            refine z_getO fx 12 9 4 ho lf12_38 fk12_9 d12_isOff_73 ?_
            refine z_iconst fx (v := 4) ic4 d12_isOff_76 ?_
            refine z_iload_n fx (k := 2) (i := 2) rfl rfl d12_isOff_77 ?_
            refine z_imul fx d12_isOff_78 ?_
            obtain ⟨t13, e18, e9⟩ := zinv e9
            refine z_iald fx (ok12_9 hO ho) e18 d12_isOff_79 ?_
            refine z_iconst fx (v := 1) ic1 d12_isOff_80 ?_
            obtain ⟨μ14, e19, e9⟩ := zinv e9
            refine z_iast fx (ok12_47 hO ho) e19 d12_isOff_81 ?_
            refine z_aload_n fx (k := 0) (i := 0) rfl rfl d12_isOff_82 ?_
            refine z_getO fx 12 47 26 ho lf12_154 fk12_47 d12_isOff_83 ?_
            refine z_aload_n fx (k := 0) (i := 0) rfl rfl d12_isOff_86 ?_
            refine z_getO fx 12 9 4 ho lf12_38 fk12_9 d12_isOff_87 ?_
            refine z_iconst fx (v := 4) ic4 d12_isOff_90 ?_
            refine z_iload_n fx (k := 2) (i := 2) rfl rfl d12_isOff_91 ?_
            refine z_imul fx d12_isOff_92 ?_
            refine z_iconst fx (v := 2) ic2 d12_isOff_93 ?_
            refine z_iadd fx d12_isOff_94 ?_
            obtain ⟨t15, e20, e9⟩ := zinv e9
            refine z_iald fx (ok12_9 hO ho) e20 d12_isOff_95 ?_
            refine z_iconst fx (v := 1) ic1 d12_isOff_96 ?_
            obtain ⟨μ16, e21, e9⟩ := zinv e9
            refine z_iast fx (ok12_47 hO ho) e21 d12_isOff_97 ?_
            refine z_aload_n fx (k := 0) (i := 0) rfl rfl d12_isOff_98 ?_
            refine z_aload_n fx (k := 0) (i := 0) rfl rfl d12_isOff_99 ?_
            refine z_iload_n fx (k := 2) (i := 2) rfl rfl d12_isOff_100 ?_
            refine z_iconst fx (v := 0) ic0 d12_isOff_101 ?_
            obtain ⟨t17, e22, e9⟩ := zinv e9
            refine z_cVr fx (c12_portOfEnd (zLo X) (zDo X) Sh top hO o_ v_l_7 0 μ16 _ ho e22) mv12_portOfEnd ml12_378 ho rfl rfl rfl rfl d12_isOff_102 ?_
            obtain ⟨μ18, e23, e9⟩ := zinv e9
            refine z_cVv fx (c12_goesDown (zLo X) (zDo X) Sh top hO o_ t17 μ16 _ ho e23) mv12_goesDown ml12_381 ho rfl rfl rfl rfl d12_isOff_105 ?_
            refine z_aload_n fx (k := 0) (i := 0) rfl rfl d12_isOff_108 ?_
            refine z_aload_n fx (k := 0) (i := 0) rfl rfl d12_isOff_109 ?_
            refine z_iload_n fx (k := 2) (i := 2) rfl rfl d12_isOff_110 ?_
            refine z_iconst fx (v := 1) ic1 d12_isOff_111 ?_
            obtain ⟨t19, e24, e9⟩ := zinv e9
            refine z_cVr fx (c12_portOfEnd (zLo X) (zDo X) Sh top hO o_ v_l_7 1 μ18 _ ho e24) mv12_portOfEnd ml12_378 ho rfl rfl rfl rfl d12_isOff_112 ?_
            obtain ⟨μ20, e25, e9⟩ := zinv e9
            refine z_cVv fx (c12_goesDown (zLo X) (zDo X) Sh top hO o_ t19 μ18 _ ho e25) mv12_goesDown ml12_381 ho rfl rfl rfl rfl d12_isOff_115 ?_
            obtain ⟨v_l_21, e26, e9⟩ := zinv e9
            replace e26 := Option.some.inj e26
            refine z_iinc fx (i := 2) (x := v_l_7) (v := v_l_21) rfl (by rw [in1]; exact e26) rfl (lv' := [(0, .ref o_), (1, .int v_b), (2, .int v_l_21)]) rfl rfl d12_isOff_118 ?_
            cases e9
            refine z_goto fx d12_isOff_121 ?_
            exact ih13 _ _ hl10
          clear e9
          obtain ⟨b22, e27, e16⟩ := zinv e16
          have kf28 : b22 = false → zZ zK1 X (zT0 Sh top) μ8 39 [(0, .ref o_), (1, .int v_b), (2, .int v_l_7)] [] := by
            intro hc
            replace e16 := zif_f hc e16
            obtain ⟨b23, e29, e16⟩ := zinv e16
            have kt30 : b23 = true → zZ zK1 X (zT0 Sh top) μ8 51 [(0, .ref o_), (1, .int v_b), (2, .int v_l_7)] [] := by
              intro hc
              replace e16 := zif_t hc e16
              refine z_aload_n fx (k := 0) (i := 0) rfl rfl d12_isOff_51 ?_
              refine z_getO fx 12 9 4 ho lf12_38 fk12_9 d12_isOff_52 ?_
              refine z_iconst fx (v := 4) ic4 d12_isOff_55 ?_
              refine z_iload_n fx (k := 2) (i := 2) rfl rfl d12_isOff_56 ?_
              refine z_imul fx d12_isOff_57 ?_
              refine z_iconst fx (v := 2) ic2 d12_isOff_58 ?_
              refine z_iadd fx d12_isOff_59 ?_
              obtain ⟨t24, e31, e16⟩ := zinv e16
              refine z_iald fx (ok12_9 hO ho) e31 d12_isOff_60 ?_
              refine z_iload_n fx (k := 1) (i := 1) rfl rfl d12_isOff_61 ?_
              cases e16
              refine z_icmp_eq fx d12_isOff_62 (fun c32 => ?_) (fun c32 => ?_)
              · exact kf15 (by rw [c32]; rfl)
              · refine z_goto fx d12_isOff_65 ?_
                exact kt15 (by rw [c32]; rfl)
            have kf30 : b23 = false → zZ zK1 X (zT0 Sh top) μ8 68 [(0, .ref o_), (1, .int v_b), (2, .int v_l_7)] [] := by
              intro hc
              replace e16 := zif_f hc e16
              cases e16
              exact kf15 rfl
            clear e16
            refine z_aload_n fx (k := 0) (i := 0) rfl rfl d12_isOff_39 ?_
            refine z_getO fx 12 9 4 ho lf12_38 fk12_9 d12_isOff_40 ?_
            refine z_iconst fx (v := 4) ic4 d12_isOff_43 ?_
            refine z_iload_n fx (k := 2) (i := 2) rfl rfl d12_isOff_44 ?_
            refine z_imul fx d12_isOff_45 ?_
            obtain ⟨t25, e33, e29⟩ := zinv e29
            refine z_iald fx (ok12_9 hO ho) e33 d12_isOff_46 ?_
            refine z_iload_n fx (k := 1) (i := 1) rfl rfl d12_isOff_47 ?_
            cases e29
            refine z_icmp_eq fx d12_isOff_48 (fun c34 => ?_) (fun c34 => ?_)
            · exact kf30 (by rw [c34]; rfl)
            · exact kt30 (by rw [c34]; rfl)
          have kt28 : b22 = true → zZ zK1 X (zT0 Sh top) μ8 118 [(0, .ref o_), (1, .int v_b), (2, .int v_l_7)] [] := by
            intro hc
            replace e16 := zif_t hc e16
            cases e16
            exact kt15 rfl
          clear e16
          refine z_aload_n fx (k := 0) (i := 0) rfl rfl d12_isOff_31 ?_
          refine z_iload_n fx (k := 2) (i := 2) rfl rfl d12_isOff_32 ?_
          obtain ⟨t26, e35, e27⟩ := zinv e27
          refine z_cVr fx (c12_isUpLink (zLo X) (zDo X) Sh top hO o_ v_l_7 μ8 _ ho e35) mv12_isUpLink ml12_331 ho rfl rfl rfl rfl d12_isOff_33 ?_
          cases e27
          refine z_ifb_eq fx d12_isOff_36 (fun c36 => ?_) (fun c36 => ?_)
          · exact kt28 (by rw [c36]; rfl)
          · exact kf28 (by rw [c36]; rfl)
    exact klr11 _ _ _ e50
  clear h
  have klr3 : ∀ (n : Nat) (v_o_1 : Int32) (μ2 : zM), zloop (fun s => f12_isOff_L1 o_ s.1 s.2) n (v_o_1, μ2) = some (v_o_3, μ4) → zZ zK1 X (zT0 Sh top) μ2 2 [(0, .ref o_), (1, .int v_b), (2, .int v_o_1)] [] := by
    intro n
    induction n with
    | zero => intro v_o_1 μ2 hl2; cases hl2
    | succ n ih5 =>
      intro v_o_1 μ2 hl2
      obtain ⟨y, e1, hl2⟩ := zloop_inv hl2
      replace e1 : f12_isOff_L1 o_ v_o_1 μ2 = some y := e1
      unfold f12_isOff_L1 at e1
      refine z_iload_n fx (k := 2) (i := 2) rfl rfl d12_isOff_2 ?_
      refine z_bipush fx (v := 8) bp8 d12_isOff_3 ?_
      refine z_icmp_ge fx d12_isOff_5 (fun c6 => ?_) (fun c6 => ?_)
      · replace e1 := zif_f c6 e1
        cases e1
        cases hl2
        exact kx4
      · replace e1 := zif_t c6 e1
        refine z_aload_n fx (k := 0) (i := 0) rfl rfl d12_isOff_8 ?_
        refine z_getO fx 12 47 26 ho lf12_154 fk12_47 d12_isOff_9 ?_
        refine z_iload_n fx (k := 2) (i := 2) rfl rfl d12_isOff_12 ?_
        refine z_iconst fx (v := 0) ic0 d12_isOff_13 ?_
        obtain ⟨μ5, e7, e1⟩ := zinv e1
        refine z_iast fx (ok12_47 hO ho) e7 d12_isOff_14 ?_
        obtain ⟨v_o_6, e8, e1⟩ := zinv e1
        replace e8 := Option.some.inj e8
        refine z_iinc fx (i := 2) (x := v_o_1) (v := v_o_6) rfl (by rw [in1]; exact e8) rfl (lv' := [(0, .ref o_), (1, .int v_b), (2, .int v_o_6)]) rfl rfl d12_isOff_15 ?_
        cases e1
        refine z_goto fx d12_isOff_18 ?_
        exact ih5 _ _ hl2
  exact klr3 _ _ _ e51
theorem d12_isBackOn_0 : zd cX12_isBackOn 0 (.aload_n 0) 1 1 := by decide +kernel
theorem d12_isBackOn_1 : zd cX12_isBackOn 1 (.iload_n 1) 1 2 := by decide +kernel
theorem d12_isBackOn_2 : zd cX12_isBackOn 2 (.iconst 0) 1 3 := by decide +kernel
theorem d12_isBackOn_3 : zd cX12_isBackOn 3 (.invokestatic 307) 3 6 := by decide +kernel
theorem d12_isBackOn_6 : zd cX12_isBackOn 6 (.iconst 1) 1 7 := by decide +kernel
theorem d12_isBackOn_7 : zd cX12_isBackOn 7 (.invokevirtual 310) 3 10 := by decide +kernel
theorem d12_isBackOn_10 : zd cX12_isBackOn 10 (.iconst 3) 1 11 := by decide +kernel
theorem d12_isBackOn_11 : zd cX12_isBackOn 11 (.istore_n 2) 1 12 := by decide +kernel
theorem d12_isBackOn_12 : zd cX12_isBackOn 12 (.iload_n 2) 1 13 := by decide +kernel
theorem d12_isBackOn_13 : zd cX12_isBackOn 13 (.bipush 10) 2 15 := by decide +kernel
theorem d12_isBackOn_15 : zj cX12_isBackOn 15 (.if_icmp .gt 19) 19 18 34 := by decide +kernel
theorem d12_isBackOn_18 : zd cX12_isBackOn 18 (.aload_n 0) 1 19 := by decide +kernel
theorem d12_isBackOn_19 : zd cX12_isBackOn 19 (.iload_n 1) 1 20 := by decide +kernel
theorem d12_isBackOn_20 : zd cX12_isBackOn 20 (.iload_n 2) 1 21 := by decide +kernel
theorem d12_isBackOn_21 : zd cX12_isBackOn 21 (.invokestatic 307) 3 24 := by decide +kernel
theorem d12_isBackOn_24 : zd cX12_isBackOn 24 (.iconst 0) 1 25 := by decide +kernel
theorem d12_isBackOn_25 : zd cX12_isBackOn 25 (.invokevirtual 310) 3 28 := by decide +kernel
theorem d12_isBackOn_28 : zd cX12_isBackOn 28 (.iinc 2 1) 3 31 := by decide +kernel
theorem d12_isBackOn_31 : zj cX12_isBackOn 31 (.goto (-19)) (-19) 34 12 := by decide +kernel
theorem d12_isBackOn_34 : zd cX12_isBackOn 34 (.iconst 0) 1 35 := by decide +kernel
theorem d12_isBackOn_35 : zd cX12_isBackOn 35 (.istore_n 2) 1 36 := by decide +kernel
theorem d12_isBackOn_36 : zd cX12_isBackOn 36 (.iload_n 2) 1 37 := by decide +kernel
theorem d12_isBackOn_37 : zd cX12_isBackOn 37 (.bipush 8) 2 39 := by decide +kernel
theorem d12_isBackOn_39 : zj cX12_isBackOn 39 (.if_icmp .ge 25) 25 42 64 := by decide +kernel
theorem d12_isBackOn_42 : zd cX12_isBackOn 42 (.aload_n 0) 1 43 := by decide +kernel
theorem d12_isBackOn_43 : zd cX12_isBackOn 43 (.getfield 154) 3 46 := by decide +kernel
theorem d12_isBackOn_46 : zd cX12_isBackOn 46 (.iload_n 2) 1 47 := by decide +kernel
theorem d12_isBackOn_47 : zd cX12_isBackOn 47 (.iload_n 2) 1 48 := by decide +kernel
theorem d12_isBackOn_48 : zd cX12_isBackOn 48 (.iload_n 1) 1 49 := by decide +kernel
theorem d12_isBackOn_49 : zj cX12_isBackOn 49 (.if_icmp .ne 7) 7 52 56 := by decide +kernel
theorem d12_isBackOn_52 : zd cX12_isBackOn 52 (.iconst 1) 1 53 := by decide +kernel
theorem d12_isBackOn_53 : zj cX12_isBackOn 53 (.goto 4) 4 56 57 := by decide +kernel
theorem d12_isBackOn_56 : zd cX12_isBackOn 56 (.iconst 0) 1 57 := by decide +kernel
theorem d12_isBackOn_57 : zd cX12_isBackOn 57 (.iastore) 1 58 := by decide +kernel
theorem d12_isBackOn_58 : zd cX12_isBackOn 58 (.iinc 2 1) 3 61 := by decide +kernel
theorem d12_isBackOn_61 : zj cX12_isBackOn 61 (.goto (-25)) (-25) 64 36 := by decide +kernel
theorem d12_isBackOn_64 : zd cX12_isBackOn 64 (.iconst 0) 1 65 := by decide +kernel
theorem d12_isBackOn_65 : zd cX12_isBackOn 65 (.istore_n 2) 1 66 := by decide +kernel
theorem d12_isBackOn_66 : zd cX12_isBackOn 66 (.iload_n 2) 1 67 := by decide +kernel
theorem d12_isBackOn_67 : zd cX12_isBackOn 67 (.aload_n 0) 1 68 := by decide +kernel
theorem d12_isBackOn_68 : zd cX12_isBackOn 68 (.getfield 16) 3 71 := by decide +kernel
theorem d12_isBackOn_71 : zj cX12_isBackOn 71 (.if_icmp .ge 96) 96 74 167 := by decide +kernel
theorem d12_isBackOn_74 : zd cX12_isBackOn 74 (.aload_n 0) 1 75 := by decide +kernel
theorem d12_isBackOn_75 : zd cX12_isBackOn 75 (.iload_n 2) 1 76 := by decide +kernel
theorem d12_isBackOn_76 : zd cX12_isBackOn 76 (.invokevirtual 331) 3 79 := by decide +kernel
theorem d12_isBackOn_79 : zj cX12_isBackOn 79 (.ifCond .eq 82) 82 82 161 := by decide +kernel
theorem d12_isBackOn_82 : zd cX12_isBackOn 82 (.aload_n 0) 1 83 := by decide +kernel
theorem d12_isBackOn_83 : zd cX12_isBackOn 83 (.getfield 38) 3 86 := by decide +kernel
theorem d12_isBackOn_86 : zd cX12_isBackOn 86 (.iconst 4) 1 87 := by decide +kernel
theorem d12_isBackOn_87 : zd cX12_isBackOn 87 (.iload_n 2) 1 88 := by decide +kernel
theorem d12_isBackOn_88 : zd cX12_isBackOn 88 (.imul) 1 89 := by decide +kernel
theorem d12_isBackOn_89 : zd cX12_isBackOn 89 (.iaload) 1 90 := by decide +kernel
theorem d12_isBackOn_90 : zd cX12_isBackOn 90 (.iload_n 1) 1 91 := by decide +kernel
theorem d12_isBackOn_91 : zj cX12_isBackOn 91 (.if_icmp .eq 20) 20 94 111 := by decide +kernel
theorem d12_isBackOn_94 : zd cX12_isBackOn 94 (.aload_n 0) 1 95 := by decide +kernel
theorem d12_isBackOn_95 : zd cX12_isBackOn 95 (.getfield 38) 3 98 := by decide +kernel
theorem d12_isBackOn_98 : zd cX12_isBackOn 98 (.iconst 4) 1 99 := by decide +kernel
theorem d12_isBackOn_99 : zd cX12_isBackOn 99 (.iload_n 2) 1 100 := by decide +kernel
theorem d12_isBackOn_100 : zd cX12_isBackOn 100 (.imul) 1 101 := by decide +kernel
theorem d12_isBackOn_101 : zd cX12_isBackOn 101 (.iconst 2) 1 102 := by decide +kernel
theorem d12_isBackOn_102 : zd cX12_isBackOn 102 (.iadd) 1 103 := by decide +kernel
theorem d12_isBackOn_103 : zd cX12_isBackOn 103 (.iaload) 1 104 := by decide +kernel
theorem d12_isBackOn_104 : zd cX12_isBackOn 104 (.iload_n 1) 1 105 := by decide +kernel
theorem d12_isBackOn_105 : zj cX12_isBackOn 105 (.if_icmp .eq 6) 6 108 111 := by decide +kernel
theorem d12_isBackOn_108 : zj cX12_isBackOn 108 (.goto 53) 53 111 161 := by decide +kernel
theorem d12_isBackOn_111 : zd cX12_isBackOn 111 (.aload_n 0) 1 112 := by decide +kernel
theorem d12_isBackOn_112 : zd cX12_isBackOn 112 (.getfield 154) 3 115 := by decide +kernel
theorem d12_isBackOn_115 : zd cX12_isBackOn 115 (.aload_n 0) 1 116 := by decide +kernel
theorem d12_isBackOn_116 : zd cX12_isBackOn 116 (.getfield 38) 3 119 := by decide +kernel
theorem d12_isBackOn_119 : zd cX12_isBackOn 119 (.iconst 4) 1 120 := by decide +kernel
theorem d12_isBackOn_120 : zd cX12_isBackOn 120 (.iload_n 2) 1 121 := by decide +kernel
theorem d12_isBackOn_121 : zd cX12_isBackOn 121 (.imul) 1 122 := by decide +kernel
theorem d12_isBackOn_122 : zd cX12_isBackOn 122 (.iaload) 1 123 := by decide +kernel
theorem d12_isBackOn_123 : zd cX12_isBackOn 123 (.iconst 1) 1 124 := by decide +kernel
theorem d12_isBackOn_124 : zd cX12_isBackOn 124 (.iastore) 1 125 := by decide +kernel
theorem d12_isBackOn_125 : zd cX12_isBackOn 125 (.aload_n 0) 1 126 := by decide +kernel
theorem d12_isBackOn_126 : zd cX12_isBackOn 126 (.getfield 154) 3 129 := by decide +kernel
theorem d12_isBackOn_129 : zd cX12_isBackOn 129 (.aload_n 0) 1 130 := by decide +kernel
theorem d12_isBackOn_130 : zd cX12_isBackOn 130 (.getfield 38) 3 133 := by decide +kernel
theorem d12_isBackOn_133 : zd cX12_isBackOn 133 (.iconst 4) 1 134 := by decide +kernel
theorem d12_isBackOn_134 : zd cX12_isBackOn 134 (.iload_n 2) 1 135 := by decide +kernel
theorem d12_isBackOn_135 : zd cX12_isBackOn 135 (.imul) 1 136 := by decide +kernel
theorem d12_isBackOn_136 : zd cX12_isBackOn 136 (.iconst 2) 1 137 := by decide +kernel
theorem d12_isBackOn_137 : zd cX12_isBackOn 137 (.iadd) 1 138 := by decide +kernel
theorem d12_isBackOn_138 : zd cX12_isBackOn 138 (.iaload) 1 139 := by decide +kernel
theorem d12_isBackOn_139 : zd cX12_isBackOn 139 (.iconst 1) 1 140 := by decide +kernel
theorem d12_isBackOn_140 : zd cX12_isBackOn 140 (.iastore) 1 141 := by decide +kernel
theorem d12_isBackOn_141 : zd cX12_isBackOn 141 (.aload_n 0) 1 142 := by decide +kernel
theorem d12_isBackOn_142 : zd cX12_isBackOn 142 (.aload_n 0) 1 143 := by decide +kernel
theorem d12_isBackOn_143 : zd cX12_isBackOn 143 (.iload_n 2) 1 144 := by decide +kernel
theorem d12_isBackOn_144 : zd cX12_isBackOn 144 (.iconst 0) 1 145 := by decide +kernel
theorem d12_isBackOn_145 : zd cX12_isBackOn 145 (.invokevirtual 378) 3 148 := by decide +kernel
theorem d12_isBackOn_148 : zd cX12_isBackOn 148 (.invokevirtual 387) 3 151 := by decide +kernel
theorem d12_isBackOn_151 : zd cX12_isBackOn 151 (.aload_n 0) 1 152 := by decide +kernel
theorem d12_isBackOn_152 : zd cX12_isBackOn 152 (.aload_n 0) 1 153 := by decide +kernel
theorem d12_isBackOn_153 : zd cX12_isBackOn 153 (.iload_n 2) 1 154 := by decide +kernel
theorem d12_isBackOn_154 : zd cX12_isBackOn 154 (.iconst 1) 1 155 := by decide +kernel
theorem d12_isBackOn_155 : zd cX12_isBackOn 155 (.invokevirtual 378) 3 158 := by decide +kernel
theorem d12_isBackOn_158 : zd cX12_isBackOn 158 (.invokevirtual 387) 3 161 := by decide +kernel
theorem d12_isBackOn_161 : zd cX12_isBackOn 161 (.iinc 2 1) 3 164 := by decide +kernel
theorem d12_isBackOn_164 : zj cX12_isBackOn 164 (.goto (-98)) (-98) 167 66 := by decide +kernel
theorem d12_isBackOn_167 : zd cX12_isBackOn 167 (.aload_n 0) 1 168 := by decide +kernel
theorem d12_isBackOn_168 : zd cX12_isBackOn 168 (.invokevirtual 390) 3 171 := by decide +kernel
theorem d12_isBackOn_171 : zd cX12_isBackOn 171 (.return_) 1 172 := by decide +kernel
set_option maxHeartbeats 4000000 in
set_option maxRecDepth 20000 in
theorem c12_isBackOn (l : Launch) (D : zDt) (Sh : zSh) (top : Nat) (hO : zOK Sh) (o_ : Nat) (v_b : Int32) (μ : zM) (μ_ : zM) (ho : (Sh o_).1 = 19) (h : f12_isBackOn o_ v_b μ = some μ_) : zMet l D zK1 yX12_isBackOn cX12_isBackOn 3 none (zrm 8 178) [.ref o_, .int v_b] Sh top μ none Sh top μ_ 0 0 := by
  refine zMet_of (by decide) (Nat.le_of_ble_eq_true rfl) fun X hX1 hX2 fx fin => ?_
  subst hX1; subst hX2
  replace fx : zFix X cX12_isBackOn RX12 (zrm 8 178) 3 := fx
  show zZ zK1 X (zT0 Sh top) μ 0 [(0, .ref o_), (1, .int v_b)] []
  unfold f12_isBackOn at h
  refine z_aload_n fx (k := 0) (i := 0) rfl rfl d12_isBackOn_0 ?_
  refine z_iload_n fx (k := 1) (i := 1) rfl rfl d12_isBackOn_1 ?_
  refine z_iconst fx (v := 0) ic0 d12_isBackOn_2 ?_
  obtain ⟨t1, e1, h⟩ := zinv h
  refine z_cSr fx (c12_bridgeAt (zLo X) (zDo X) Sh top hO v_b 0 μ _  e1) ms12_bridgeAt ml12_307 rfl rfl rfl rfl d12_isBackOn_3 ?_
  refine z_iconst fx (v := 1) ic1 d12_isBackOn_6 ?_
  obtain ⟨μ2, e2, h⟩ := zinv h
  refine z_cVv fx (c12_puts (zLo X) (zDo X) Sh top hO o_ t1 1 μ _ ho e2) mv12_puts ml12_310 ho rfl rfl rfl rfl d12_isBackOn_7 ?_
  refine z_iconst fx (v := 3) ic3 d12_isBackOn_10 ?_
  refine z_istore_n fx (k := 2) (i := 2) rfl rfl (lv' := [(0, .ref o_), (1, .int v_b), (2, .int 3)]) rfl rfl d12_isBackOn_11 ?_
  obtain ⟨v_k_5, μ6, e54, h⟩ := zinv2 h
  have kx6 : zZ zK1 X (zT0 Sh top) μ6 34 [(0, .ref o_), (1, .int v_b), (2, .int v_k_5)] [] := by
    refine z_take 2 (lv' := [(0, .ref o_), (1, .int v_b)]) rfl ?_
    refine z_iconst fx (v := 0) ic0 d12_isBackOn_34 ?_
    refine z_istore_n fx (k := 2) (i := 2) rfl rfl (lv' := [(0, .ref o_), (1, .int v_b), (2, .int 0)]) rfl rfl d12_isBackOn_35 ?_
    obtain ⟨v_o_12, μ13, e53, h⟩ := zinv2 h
    have kx15 : zZ zK1 X (zT0 Sh top) μ13 64 [(0, .ref o_), (1, .int v_b), (2, .int v_o_12)] [] := by
      refine z_take 2 (lv' := [(0, .ref o_), (1, .int v_b)]) rfl ?_
      refine z_iconst fx (v := 0) ic0 d12_isBackOn_64 ?_
      refine z_istore_n fx (k := 2) (i := 2) rfl rfl (lv' := [(0, .ref o_), (1, .int v_b), (2, .int 0)]) rfl rfl d12_isBackOn_65 ?_
      obtain ⟨v_l_19, μ20, e52, h⟩ := zinv2 h
      have kx26 : zZ zK1 X (zT0 Sh top) μ20 167 [(0, .ref o_), (1, .int v_b), (2, .int v_l_19)] [] := by
        refine z_take 2 (lv' := [(0, .ref o_), (1, .int v_b)]) rfl ?_
        refine z_aload_n fx (k := 0) (i := 0) rfl rfl d12_isBackOn_167 ?_
        obtain ⟨μ37, e51, h⟩ := zinv h
        refine z_cVv fx (c12_choosesAll (zLo X) (zDo X) Sh top hO o_ μ20 _ ho e51) mv12_choosesAll ml12_390 ho rfl rfl rfl rfl d12_isBackOn_168 ?_
        cases h
        exact z_return fx fin d12_isBackOn_171
      clear h
      have klr25 : ∀ (n : Nat) (v_l_17 : Int32) (μ18 : zM), zloop (fun s => f12_isBackOn_L3 o_ v_b s.1 s.2) n (v_l_17, μ18) = some (v_l_19, μ20) → zZ zK1 X (zT0 Sh top) μ18 66 [(0, .ref o_), (1, .int v_b), (2, .int v_l_17)] [] := by
        intro n
        induction n with
        | zero => intro v_l_17 μ18 hl24; cases hl24
        | succ n ih27 =>
          intro v_l_17 μ18 hl24
          obtain ⟨y, e23, hl24⟩ := zloop_inv hl24
          replace e23 : f12_isBackOn_L3 o_ v_b v_l_17 μ18 = some y := e23
          unfold f12_isBackOn_L3 at e23
          refine z_iload_n fx (k := 2) (i := 2) rfl rfl d12_isBackOn_66 ?_
          refine z_aload_n fx (k := 0) (i := 0) rfl rfl d12_isBackOn_67 ?_
          refine z_getI fx 12 2 1202 ho lf12_16 ⟨fk12_2, rfl⟩ d12_isBackOn_68 ?_
          refine z_icmp_ge fx d12_isBackOn_71 (fun c28 => ?_) (fun c28 => ?_)
          · replace e23 := zif_f c28 e23
            cases e23
            cases hl24
            exact kx26
          · replace e23 := zif_t c28 e23
            obtain ⟨b21, e30, e23⟩ := zinv e23
            have kt29 : b21 = true → zZ zK1 X (zT0 Sh top) μ18 161 [(0, .ref o_), (1, .int v_b), (2, .int v_l_17)] [] := by
              intro hc
              replace e23 := zif_t hc e23
              obtain ⟨v_l_22, e31, e23⟩ := zinv e23
              replace e31 := Option.some.inj e31
              refine z_iinc fx (i := 2) (x := v_l_17) (v := v_l_22) rfl (by rw [in1]; exact e31) rfl (lv' := [(0, .ref o_), (1, .int v_b), (2, .int v_l_22)]) rfl rfl d12_isBackOn_161 ?_
              cases e23
              refine z_goto fx d12_isBackOn_164 ?_
              exact ih27 _ _ hl24
            have kf29 : b21 = false → zZ zK1 X (zT0 Sh top) μ18 111 [(0, .ref o_), (1, .int v_b), (2, .int v_l_17)] [] := by
              intro hc
              replace e23 := zif_f hc e23
              refine z_aload_n fx (k := 0) (i := 0) rfl rfl d12_isBackOn_111 ?_
              refine z_getO fx 12 47 26 ho lf12_154 fk12_47 d12_isBackOn_112 ?_
              refine z_aload_n fx (k := 0) (i := 0) rfl rfl d12_isBackOn_115 ?_
              refine z_getO fx 12 9 4 ho lf12_38 fk12_9 d12_isBackOn_116 ?_
              refine z_iconst fx (v := 4) ic4 d12_isBackOn_119 ?_
              refine z_iload_n fx (k := 2) (i := 2) rfl rfl d12_isBackOn_120 ?_
              refine z_imul fx d12_isBackOn_121 ?_
              obtain ⟨t23, e32, e23⟩ := zinv e23
              refine z_iald fx (ok12_9 hO ho) e32 d12_isBackOn_122 ?_
              refine z_iconst fx (v := 1) ic1 d12_isBackOn_123 ?_
              obtain ⟨μ24, e33, e23⟩ := zinv e23
              refine z_iast fx (ok12_47 hO ho) e33 d12_isBackOn_124 ?_
              refine z_aload_n fx (k := 0) (i := 0) rfl rfl d12_isBackOn_125 ?_
              refine z_getO fx 12 47 26 ho lf12_154 fk12_47 d12_isBackOn_126 ?_
              refine z_aload_n fx (k := 0) (i := 0) rfl rfl d12_isBackOn_129 ?_
              refine z_getO fx 12 9 4 ho lf12_38 fk12_9 d12_isBackOn_130 ?_
              refine z_iconst fx (v := 4) ic4 d12_isBackOn_133 ?_
              refine z_iload_n fx (k := 2) (i := 2) rfl rfl d12_isBackOn_134 ?_
              refine z_imul fx d12_isBackOn_135 ?_
              refine z_iconst fx (v := 2) ic2 d12_isBackOn_136 ?_
              refine z_iadd fx d12_isBackOn_137 ?_
              obtain ⟨t25, e34, e23⟩ := zinv e23
              refine z_iald fx (ok12_9 hO ho) e34 d12_isBackOn_138 ?_
              refine z_iconst fx (v := 1) ic1 d12_isBackOn_139 ?_
              obtain ⟨μ26, e35, e23⟩ := zinv e23
              refine z_iast fx (ok12_47 hO ho) e35 d12_isBackOn_140 ?_
              refine z_aload_n fx (k := 0) (i := 0) rfl rfl d12_isBackOn_141 ?_
              refine z_aload_n fx (k := 0) (i := 0) rfl rfl d12_isBackOn_142 ?_
              refine z_iload_n fx (k := 2) (i := 2) rfl rfl d12_isBackOn_143 ?_
              refine z_iconst fx (v := 0) ic0 d12_isBackOn_144 ?_
              obtain ⟨t27, e36, e23⟩ := zinv e23
              refine z_cVr fx (c12_portOfEnd (zLo X) (zDo X) Sh top hO o_ v_l_17 0 μ26 _ ho e36) mv12_portOfEnd ml12_378 ho rfl rfl rfl rfl d12_isBackOn_145 ?_
              obtain ⟨μ28, e37, e23⟩ := zinv e23
              refine z_cVv fx (c12_comesUp (zLo X) (zDo X) Sh top hO o_ t27 μ26 _ ho e37) mv12_comesUp ml12_387 ho rfl rfl rfl rfl d12_isBackOn_148 ?_
              refine z_aload_n fx (k := 0) (i := 0) rfl rfl d12_isBackOn_151 ?_
              refine z_aload_n fx (k := 0) (i := 0) rfl rfl d12_isBackOn_152 ?_
              refine z_iload_n fx (k := 2) (i := 2) rfl rfl d12_isBackOn_153 ?_
              refine z_iconst fx (v := 1) ic1 d12_isBackOn_154 ?_
              obtain ⟨t29, e38, e23⟩ := zinv e23
              refine z_cVr fx (c12_portOfEnd (zLo X) (zDo X) Sh top hO o_ v_l_17 1 μ28 _ ho e38) mv12_portOfEnd ml12_378 ho rfl rfl rfl rfl d12_isBackOn_155 ?_
              obtain ⟨μ30, e39, e23⟩ := zinv e23
              refine z_cVv fx (c12_comesUp (zLo X) (zDo X) Sh top hO o_ t29 μ28 _ ho e39) mv12_comesUp ml12_387 ho rfl rfl rfl rfl d12_isBackOn_158 ?_
              obtain ⟨v_l_31, e40, e23⟩ := zinv e23
              replace e40 := Option.some.inj e40
              refine z_iinc fx (i := 2) (x := v_l_17) (v := v_l_31) rfl (by rw [in1]; exact e40) rfl (lv' := [(0, .ref o_), (1, .int v_b), (2, .int v_l_31)]) rfl rfl d12_isBackOn_161 ?_
              cases e23
              refine z_goto fx d12_isBackOn_164 ?_
              exact ih27 _ _ hl24
            clear e23
            obtain ⟨b32, e41, e30⟩ := zinv e30
            have kf42 : b32 = false → zZ zK1 X (zT0 Sh top) μ18 82 [(0, .ref o_), (1, .int v_b), (2, .int v_l_17)] [] := by
              intro hc
              replace e30 := zif_f hc e30
              obtain ⟨b33, e43, e30⟩ := zinv e30
              have kt44 : b33 = true → zZ zK1 X (zT0 Sh top) μ18 94 [(0, .ref o_), (1, .int v_b), (2, .int v_l_17)] [] := by
                intro hc
                replace e30 := zif_t hc e30
                refine z_aload_n fx (k := 0) (i := 0) rfl rfl d12_isBackOn_94 ?_
                refine z_getO fx 12 9 4 ho lf12_38 fk12_9 d12_isBackOn_95 ?_
                refine z_iconst fx (v := 4) ic4 d12_isBackOn_98 ?_
                refine z_iload_n fx (k := 2) (i := 2) rfl rfl d12_isBackOn_99 ?_
                refine z_imul fx d12_isBackOn_100 ?_
                refine z_iconst fx (v := 2) ic2 d12_isBackOn_101 ?_
                refine z_iadd fx d12_isBackOn_102 ?_
                obtain ⟨t34, e45, e30⟩ := zinv e30
                refine z_iald fx (ok12_9 hO ho) e45 d12_isBackOn_103 ?_
                refine z_iload_n fx (k := 1) (i := 1) rfl rfl d12_isBackOn_104 ?_
                cases e30
                refine z_icmp_eq fx d12_isBackOn_105 (fun c46 => ?_) (fun c46 => ?_)
                · exact kf29 (by rw [c46]; rfl)
                · refine z_goto fx d12_isBackOn_108 ?_
                  exact kt29 (by rw [c46]; rfl)
              have kf44 : b33 = false → zZ zK1 X (zT0 Sh top) μ18 111 [(0, .ref o_), (1, .int v_b), (2, .int v_l_17)] [] := by
                intro hc
                replace e30 := zif_f hc e30
                cases e30
                exact kf29 rfl
              clear e30
              refine z_aload_n fx (k := 0) (i := 0) rfl rfl d12_isBackOn_82 ?_
              refine z_getO fx 12 9 4 ho lf12_38 fk12_9 d12_isBackOn_83 ?_
              refine z_iconst fx (v := 4) ic4 d12_isBackOn_86 ?_
              refine z_iload_n fx (k := 2) (i := 2) rfl rfl d12_isBackOn_87 ?_
              refine z_imul fx d12_isBackOn_88 ?_
              obtain ⟨t35, e47, e43⟩ := zinv e43
              refine z_iald fx (ok12_9 hO ho) e47 d12_isBackOn_89 ?_
              refine z_iload_n fx (k := 1) (i := 1) rfl rfl d12_isBackOn_90 ?_
              cases e43
              refine z_icmp_eq fx d12_isBackOn_91 (fun c48 => ?_) (fun c48 => ?_)
              · exact kf44 (by rw [c48]; rfl)
              · exact kt44 (by rw [c48]; rfl)
            have kt42 : b32 = true → zZ zK1 X (zT0 Sh top) μ18 161 [(0, .ref o_), (1, .int v_b), (2, .int v_l_17)] [] := by
              intro hc
              replace e30 := zif_t hc e30
              cases e30
              exact kt29 rfl
            clear e30
            refine z_aload_n fx (k := 0) (i := 0) rfl rfl d12_isBackOn_74 ?_
            refine z_iload_n fx (k := 2) (i := 2) rfl rfl d12_isBackOn_75 ?_
            obtain ⟨t36, e49, e41⟩ := zinv e41
            refine z_cVr fx (c12_isUpLink (zLo X) (zDo X) Sh top hO o_ v_l_17 μ18 _ ho e49) mv12_isUpLink ml12_331 ho rfl rfl rfl rfl d12_isBackOn_76 ?_
            cases e41
            refine z_ifb_eq fx d12_isBackOn_79 (fun c50 => ?_) (fun c50 => ?_)
            · exact kt42 (by rw [c50]; rfl)
            · exact kf42 (by rw [c50]; rfl)
      exact klr25 _ _ _ e52
    clear h
    have klr14 : ∀ (n : Nat) (v_o_10 : Int32) (μ11 : zM), zloop (fun s => f12_isBackOn_L2 o_ v_b s.1 s.2) n (v_o_10, μ11) = some (v_o_12, μ13) → zZ zK1 X (zT0 Sh top) μ11 36 [(0, .ref o_), (1, .int v_b), (2, .int v_o_10)] [] := by
      intro n
      induction n with
      | zero => intro v_o_10 μ11 hl13; cases hl13
      | succ n ih16 =>
        intro v_o_10 μ11 hl13
        obtain ⟨y, e12, hl13⟩ := zloop_inv hl13
        replace e12 : f12_isBackOn_L2 o_ v_b v_o_10 μ11 = some y := e12
        unfold f12_isBackOn_L2 at e12
        refine z_iload_n fx (k := 2) (i := 2) rfl rfl d12_isBackOn_36 ?_
        refine z_bipush fx (v := 8) bp8 d12_isBackOn_37 ?_
        refine z_icmp_ge fx d12_isBackOn_39 (fun c17 => ?_) (fun c17 => ?_)
        · replace e12 := zif_f c17 e12
          cases e12
          cases hl13
          exact kx15
        · replace e12 := zif_t c17 e12
          refine z_aload_n fx (k := 0) (i := 0) rfl rfl d12_isBackOn_42 ?_
          refine z_getO fx 12 47 26 ho lf12_154 fk12_47 d12_isBackOn_43 ?_
          refine z_iload_n fx (k := 2) (i := 2) rfl rfl d12_isBackOn_46 ?_
          obtain ⟨x14, e18, e12⟩ := zinv e12
          have k19 : zZ zK1 X (zT0 Sh top) μ11 57 [(0, .ref o_), (1, .int v_b), (2, .int v_o_10)] [.int x14, .int v_o_10, .ref (o_ + 26)] := by
            obtain ⟨μ15, e21, e12⟩ := zinv e12
            refine z_iast fx (ok12_47 hO ho) e21 d12_isBackOn_57 ?_
            obtain ⟨v_o_16, e22, e12⟩ := zinv e12
            replace e22 := Option.some.inj e22
            refine z_iinc fx (i := 2) (x := v_o_10) (v := v_o_16) rfl (by rw [in1]; exact e22) rfl (lv' := [(0, .ref o_), (1, .int v_b), (2, .int v_o_16)]) rfl rfl d12_isBackOn_58 ?_
            cases e12
            refine z_goto fx d12_isBackOn_61 ?_
            exact ih16 _ _ hl13
          refine z_iload_n fx (k := 2) (i := 2) rfl rfl d12_isBackOn_47 ?_
          refine z_iload_n fx (k := 1) (i := 1) rfl rfl d12_isBackOn_48 ?_
          refine z_icmp_ne fx d12_isBackOn_49 (fun c20 => ?_) (fun c20 => ?_)
          · replace e18 := zif_f c20 e18
            refine z_iconst fx (v := 0) ic0 d12_isBackOn_56 ?_
            cases e18
            exact k19
          · replace e18 := zif_t c20 e18
            refine z_iconst fx (v := 1) ic1 d12_isBackOn_52 ?_
            cases e18
            refine z_goto fx d12_isBackOn_53 ?_
            exact k19
    exact klr14 _ _ _ e53
  clear h
  have klr5 : ∀ (n : Nat) (v_k_3 : Int32) (μ4 : zM), zloop (fun s => f12_isBackOn_L1 o_ v_b s.1 s.2) n (v_k_3, μ4) = some (v_k_5, μ6) → zZ zK1 X (zT0 Sh top) μ4 12 [(0, .ref o_), (1, .int v_b), (2, .int v_k_3)] [] := by
    intro n
    induction n with
    | zero => intro v_k_3 μ4 hl4; cases hl4
    | succ n ih7 =>
      intro v_k_3 μ4 hl4
      obtain ⟨y, e3, hl4⟩ := zloop_inv hl4
      replace e3 : f12_isBackOn_L1 o_ v_b v_k_3 μ4 = some y := e3
      unfold f12_isBackOn_L1 at e3
      refine z_iload_n fx (k := 2) (i := 2) rfl rfl d12_isBackOn_12 ?_
      refine z_bipush fx (v := 10) bp10 d12_isBackOn_13 ?_
      refine z_icmp_gt fx d12_isBackOn_15 (fun c8 => ?_) (fun c8 => ?_)
      · replace e3 := zif_t c8 e3
        cases e3
        cases hl4
        exact kx6
      · replace e3 := zif_f c8 e3
        refine z_aload_n fx (k := 0) (i := 0) rfl rfl d12_isBackOn_18 ?_
        refine z_iload_n fx (k := 1) (i := 1) rfl rfl d12_isBackOn_19 ?_
        refine z_iload_n fx (k := 2) (i := 2) rfl rfl d12_isBackOn_20 ?_
        obtain ⟨t7, e9, e3⟩ := zinv e3
        refine z_cSr fx (c12_bridgeAt (zLo X) (zDo X) Sh top hO v_b v_k_3 μ4 _  e9) ms12_bridgeAt ml12_307 rfl rfl rfl rfl d12_isBackOn_21 ?_
        refine z_iconst fx (v := 0) ic0 d12_isBackOn_24 ?_
        obtain ⟨μ8, e10, e3⟩ := zinv e3
        refine z_cVv fx (c12_puts (zLo X) (zDo X) Sh top hO o_ t7 0 μ4 _ ho e10) mv12_puts ml12_310 ho rfl rfl rfl rfl d12_isBackOn_25 ?_
        obtain ⟨v_k_9, e11, e3⟩ := zinv e3
        replace e11 := Option.some.inj e11
        refine z_iinc fx (i := 2) (x := v_k_3) (v := v_k_9) rfl (by rw [in1]; exact e11) rfl (lv' := [(0, .ref o_), (1, .int v_b), (2, .int v_k_9)]) rfl rfl d12_isBackOn_28 ?_
        cases e3
        refine z_goto fx d12_isBackOn_31 ?_
        exact ih7 _ _ hl4
  exact klr5 _ _ _ e54
theorem d12_sends_0 : zd cX12_sends 0 (.aload_n 0) 1 1 := by decide +kernel
theorem d12_sends_1 : zd cX12_sends 1 (.iload_n 1) 1 2 := by decide +kernel
theorem d12_sends_2 : zd cX12_sends 2 (.bipush 9) 2 4 := by decide +kernel
theorem d12_sends_4 : zd cX12_sends 4 (.iconst 0) 1 5 := by decide +kernel
theorem d12_sends_5 : zd cX12_sends 5 (.invokevirtual 344) 3 8 := by decide +kernel
theorem d12_sends_8 : zd cX12_sends 8 (.iload_n 1) 1 9 := by decide +kernel
theorem d12_sends_9 : zd cX12_sends 9 (.bipush 6) 2 11 := by decide +kernel
theorem d12_sends_11 : zd cX12_sends 11 (.idiv) 1 12 := by decide +kernel
theorem d12_sends_12 : zd cX12_sends 12 (.istore_n 2) 1 13 := by decide +kernel
theorem d12_sends_13 : zd cX12_sends 13 (.aload_n 0) 1 14 := by decide +kernel
theorem d12_sends_14 : zd cX12_sends 14 (.iload_n 1) 1 15 := by decide +kernel
theorem d12_sends_15 : zd cX12_sends 15 (.iconst 0) 1 16 := by decide +kernel
theorem d12_sends_16 : zd cX12_sends 16 (.invokevirtual 334) 3 19 := by decide +kernel
theorem d12_sends_19 : zd cX12_sends 19 (.iconst 2) 1 20 := by decide +kernel
theorem d12_sends_20 : zj cX12_sends 20 (.if_icmp .ne 7) 7 23 27 := by decide +kernel
theorem d12_sends_23 : zd cX12_sends 23 (.iconst 1) 1 24 := by decide +kernel
theorem d12_sends_24 : zj cX12_sends 24 (.goto 4) 4 27 28 := by decide +kernel
theorem d12_sends_27 : zd cX12_sends 27 (.iconst 0) 1 28 := by decide +kernel
theorem d12_sends_28 : zd cX12_sends 28 (.istore_n 3) 1 29 := by decide +kernel
theorem d12_sends_29 : zd cX12_sends 29 (.aload_n 0) 1 30 := by decide +kernel
theorem d12_sends_30 : zd cX12_sends 30 (.iload_n 1) 1 31 := by decide +kernel
theorem d12_sends_31 : zd cX12_sends 31 (.bipush 6) 2 33 := by decide +kernel
theorem d12_sends_33 : zd cX12_sends 33 (.invokevirtual 334) 3 36 := by decide +kernel
theorem d12_sends_36 : zj cX12_sends 36 (.ifCond .ne 16) 16 39 52 := by decide +kernel
theorem d12_sends_39 : zd cX12_sends 39 (.aload_n 0) 1 40 := by decide +kernel
theorem d12_sends_40 : zd cX12_sends 40 (.iload_n 2) 1 41 := by decide +kernel
theorem d12_sends_41 : zd cX12_sends 41 (.iconst 2) 1 42 := by decide +kernel
theorem d12_sends_42 : zd cX12_sends 42 (.invokevirtual 319) 3 45 := by decide +kernel
theorem d12_sends_45 : zj cX12_sends 45 (.ifCond .ne 7) 7 48 52 := by decide +kernel
theorem d12_sends_48 : zd cX12_sends 48 (.iconst 1) 1 49 := by decide +kernel
theorem d12_sends_49 : zj cX12_sends 49 (.goto 4) 4 52 53 := by decide +kernel
theorem d12_sends_52 : zd cX12_sends 52 (.iconst 0) 1 53 := by decide +kernel
theorem d12_sends_53 : zd cX12_sends 53 (.istore 4) 2 55 := by decide +kernel
theorem d12_sends_55 : zd cX12_sends 55 (.iload 4) 2 57 := by decide +kernel
theorem d12_sends_57 : zj cX12_sends 57 (.ifCond .eq 7) 7 60 64 := by decide +kernel
theorem d12_sends_60 : zd cX12_sends 60 (.iconst 0) 1 61 := by decide +kernel
theorem d12_sends_61 : zj cX12_sends 61 (.goto 5) 5 64 66 := by decide +kernel
theorem d12_sends_64 : zd cX12_sends 64 (.bipush 16) 2 66 := by decide +kernel
theorem d12_sends_66 : zd cX12_sends 66 (.aload_n 0) 1 67 := by decide +kernel
theorem d12_sends_67 : zd cX12_sends 67 (.iload_n 1) 1 68 := by decide +kernel
theorem d12_sends_68 : zd cX12_sends 68 (.iconst 3) 1 69 := by decide +kernel
theorem d12_sends_69 : zd cX12_sends 69 (.invokevirtual 334) 3 72 := by decide +kernel
theorem d12_sends_72 : zj cX12_sends 72 (.ifCond .eq 7) 7 75 79 := by decide +kernel
theorem d12_sends_75 : zd cX12_sends 75 (.iconst 4) 1 76 := by decide +kernel
theorem d12_sends_76 : zj cX12_sends 76 (.goto 4) 4 79 80 := by decide +kernel
theorem d12_sends_79 : zd cX12_sends 79 (.iconst 0) 1 80 := by decide +kernel
theorem d12_sends_80 : zd cX12_sends 80 (.iadd) 1 81 := by decide +kernel
theorem d12_sends_81 : zd cX12_sends 81 (.istore 5) 2 83 := by decide +kernel
theorem d12_sends_83 : zd cX12_sends 83 (.iload_n 3) 1 84 := by decide +kernel
theorem d12_sends_84 : zj cX12_sends 84 (.ifCond .eq 46) 46 87 130 := by decide +kernel
theorem d12_sends_87 : zd cX12_sends 87 (.iload 4) 2 89 := by decide +kernel
theorem d12_sends_89 : zj cX12_sends 89 (.ifCond .eq 16) 16 92 105 := by decide +kernel
theorem d12_sends_92 : zd cX12_sends 92 (.aload_n 0) 1 93 := by decide +kernel
theorem d12_sends_93 : zd cX12_sends 93 (.iload_n 1) 1 94 := by decide +kernel
theorem d12_sends_94 : zd cX12_sends 94 (.iconst 1) 1 95 := by decide +kernel
theorem d12_sends_95 : zd cX12_sends 95 (.invokevirtual 334) 3 98 := by decide +kernel
theorem d12_sends_98 : zd cX12_sends 98 (.iconst 2) 1 99 := by decide +kernel
theorem d12_sends_99 : zj cX12_sends 99 (.if_icmp .eq 6) 6 102 105 := by decide +kernel
theorem d12_sends_102 : zd cX12_sends 102 (.iinc 5 1) 3 105 := by decide +kernel
theorem d12_sends_105 : zd cX12_sends 105 (.aload_n 0) 1 106 := by decide +kernel
theorem d12_sends_106 : zd cX12_sends 106 (.iload_n 1) 1 107 := by decide +kernel
theorem d12_sends_107 : zd cX12_sends 107 (.bipush 8) 2 109 := by decide +kernel
theorem d12_sends_109 : zd cX12_sends 109 (.invokevirtual 334) 3 112 := by decide +kernel
theorem d12_sends_112 : zd cX12_sends 112 (.iconst 1) 1 113 := by decide +kernel
theorem d12_sends_113 : zj cX12_sends 113 (.if_icmp .ne 6) 6 116 119 := by decide +kernel
theorem d12_sends_116 : zd cX12_sends 116 (.iinc 5 8) 3 119 := by decide +kernel
theorem d12_sends_119 : zd cX12_sends 119 (.aload_n 0) 1 120 := by decide +kernel
theorem d12_sends_120 : zd cX12_sends 120 (.iload_n 1) 1 121 := by decide +kernel
theorem d12_sends_121 : zd cX12_sends 121 (.bipush 8) 2 123 := by decide +kernel
theorem d12_sends_123 : zd cX12_sends 123 (.iconst 0) 1 124 := by decide +kernel
theorem d12_sends_124 : zd cX12_sends 124 (.invokevirtual 344) 3 127 := by decide +kernel
theorem d12_sends_127 : zj cX12_sends 127 (.goto 39) 39 130 166 := by decide +kernel
theorem d12_sends_130 : zd cX12_sends 130 (.iload 4) 2 132 := by decide +kernel
theorem d12_sends_132 : zj cX12_sends 132 (.ifCond .eq 17) 17 135 149 := by decide +kernel
theorem d12_sends_135 : zd cX12_sends 135 (.aload_n 0) 1 136 := by decide +kernel
theorem d12_sends_136 : zd cX12_sends 136 (.iload_n 1) 1 137 := by decide +kernel
theorem d12_sends_137 : zd cX12_sends 137 (.bipush 7) 2 139 := by decide +kernel
theorem d12_sends_139 : zd cX12_sends 139 (.invokevirtual 334) 3 142 := by decide +kernel
theorem d12_sends_142 : zd cX12_sends 142 (.iconst 1) 1 143 := by decide +kernel
theorem d12_sends_143 : zj cX12_sends 143 (.if_icmp .ne 6) 6 146 149 := by decide +kernel
theorem d12_sends_146 : zd cX12_sends 146 (.iinc 5 2) 3 149 := by decide +kernel
theorem d12_sends_149 : zd cX12_sends 149 (.aload_n 0) 1 150 := by decide +kernel
theorem d12_sends_150 : zd cX12_sends 150 (.iload_n 1) 1 151 := by decide +kernel
theorem d12_sends_151 : zd cX12_sends 151 (.bipush 7) 2 153 := by decide +kernel
theorem d12_sends_153 : zd cX12_sends 153 (.iconst 0) 1 154 := by decide +kernel
theorem d12_sends_154 : zd cX12_sends 154 (.invokevirtual 344) 3 157 := by decide +kernel
theorem d12_sends_157 : zd cX12_sends 157 (.iload 5) 2 159 := by decide +kernel
theorem d12_sends_159 : zd cX12_sends 159 (.bipush 6) 2 161 := by decide +kernel
theorem d12_sends_161 : zd cX12_sends 161 (.iand) 1 162 := by decide +kernel
theorem d12_sends_162 : zj cX12_sends 162 (.ifCond .ne 4) 4 165 166 := by decide +kernel
theorem d12_sends_165 : zd cX12_sends 165 (.return_) 1 166 := by decide +kernel
theorem d12_sends_166 : zd cX12_sends 166 (.aload_n 0) 1 167 := by decide +kernel
theorem d12_sends_167 : zd cX12_sends 167 (.iconst 2) 1 168 := by decide +kernel
theorem d12_sends_168 : zd cX12_sends 168 (.invokevirtual 316) 3 171 := by decide +kernel
theorem d12_sends_171 : zd cX12_sends 171 (.istore 6) 2 173 := by decide +kernel
theorem d12_sends_173 : zd cX12_sends 173 (.aload_n 0) 1 174 := by decide +kernel
theorem d12_sends_174 : zd cX12_sends 174 (.iconst 2) 1 175 := by decide +kernel
theorem d12_sends_175 : zd cX12_sends 175 (.iload 6) 2 177 := by decide +kernel
theorem d12_sends_177 : zd cX12_sends 177 (.iconst 1) 1 178 := by decide +kernel
theorem d12_sends_178 : zd cX12_sends 178 (.iadd) 1 179 := by decide +kernel
theorem d12_sends_179 : zd cX12_sends 179 (.invokevirtual 310) 3 182 := by decide +kernel
theorem d12_sends_182 : zd cX12_sends 182 (.sipush 1274) 3 185 := by decide +kernel
theorem d12_sends_185 : zd cX12_sends 185 (.bipush 10) 2 187 := by decide +kernel
theorem d12_sends_187 : zd cX12_sends 187 (.iload 6) 2 189 := by decide +kernel
theorem d12_sends_189 : zd cX12_sends 189 (.imul) 1 190 := by decide +kernel
theorem d12_sends_190 : zd cX12_sends 190 (.iadd) 1 191 := by decide +kernel
theorem d12_sends_191 : zd cX12_sends 191 (.istore 7) 2 193 := by decide +kernel
theorem d12_sends_193 : zd cX12_sends 193 (.aload_n 0) 1 194 := by decide +kernel
theorem d12_sends_194 : zd cX12_sends 194 (.iload 7) 2 196 := by decide +kernel
theorem d12_sends_196 : zd cX12_sends 196 (.iconst 0) 1 197 := by decide +kernel
theorem d12_sends_197 : zd cX12_sends 197 (.iadd) 1 198 := by decide +kernel
theorem d12_sends_198 : zd cX12_sends 198 (.aload_n 0) 1 199 := by decide +kernel
theorem d12_sends_199 : zd cX12_sends 199 (.iconst 0) 1 200 := by decide +kernel
theorem d12_sends_200 : zd cX12_sends 200 (.invokevirtual 316) 3 203 := by decide +kernel
theorem d12_sends_203 : zd cX12_sends 203 (.aload_n 0) 1 204 := by decide +kernel
theorem d12_sends_204 : zd cX12_sends 204 (.getfield 47) 3 207 := by decide +kernel
theorem d12_sends_207 : zd cX12_sends 207 (.aload_n 0) 1 208 := by decide +kernel
theorem d12_sends_208 : zd cX12_sends 208 (.getfield 56) 3 211 := by decide +kernel
theorem d12_sends_211 : zd cX12_sends 211 (.iload_n 1) 1 212 := by decide +kernel
theorem d12_sends_212 : zd cX12_sends 212 (.iaload) 1 213 := by decide +kernel
theorem d12_sends_213 : zd cX12_sends 213 (.iaload) 1 214 := by decide +kernel
theorem d12_sends_214 : zd cX12_sends 214 (.iadd) 1 215 := by decide +kernel
theorem d12_sends_215 : zd cX12_sends 215 (.invokevirtual 310) 3 218 := by decide +kernel
theorem d12_sends_218 : zd cX12_sends 218 (.aload_n 0) 1 219 := by decide +kernel
theorem d12_sends_219 : zd cX12_sends 219 (.iload 7) 2 221 := by decide +kernel
theorem d12_sends_221 : zd cX12_sends 221 (.iconst 1) 1 222 := by decide +kernel
theorem d12_sends_222 : zd cX12_sends 222 (.iadd) 1 223 := by decide +kernel
theorem d12_sends_223 : zd cX12_sends 223 (.aload_n 0) 1 224 := by decide +kernel
theorem d12_sends_224 : zd cX12_sends 224 (.iload_n 1) 1 225 := by decide +kernel
theorem d12_sends_225 : zd cX12_sends 225 (.invokevirtual 422) 3 228 := by decide +kernel
theorem d12_sends_228 : zd cX12_sends 228 (.bipush 6) 2 230 := by decide +kernel
theorem d12_sends_230 : zd cX12_sends 230 (.idiv) 1 231 := by decide +kernel
theorem d12_sends_231 : zd cX12_sends 231 (.invokevirtual 310) 3 234 := by decide +kernel
theorem d12_sends_234 : zd cX12_sends 234 (.aload_n 0) 1 235 := by decide +kernel
theorem d12_sends_235 : zd cX12_sends 235 (.iload 7) 2 237 := by decide +kernel
theorem d12_sends_237 : zd cX12_sends 237 (.iconst 2) 1 238 := by decide +kernel
theorem d12_sends_238 : zd cX12_sends 238 (.iadd) 1 239 := by decide +kernel
theorem d12_sends_239 : zd cX12_sends 239 (.aload_n 0) 1 240 := by decide +kernel
theorem d12_sends_240 : zd cX12_sends 240 (.iload_n 1) 1 241 := by decide +kernel
theorem d12_sends_241 : zd cX12_sends 241 (.invokevirtual 422) 3 244 := by decide +kernel
theorem d12_sends_244 : zd cX12_sends 244 (.bipush 6) 2 246 := by decide +kernel
theorem d12_sends_246 : zd cX12_sends 246 (.irem) 1 247 := by decide +kernel
theorem d12_sends_247 : zd cX12_sends 247 (.invokevirtual 310) 3 250 := by decide +kernel
theorem d12_sends_250 : zd cX12_sends 250 (.aload_n 0) 1 251 := by decide +kernel
theorem d12_sends_251 : zd cX12_sends 251 (.iload 7) 2 253 := by decide +kernel
theorem d12_sends_253 : zd cX12_sends 253 (.iconst 3) 1 254 := by decide +kernel
theorem d12_sends_254 : zd cX12_sends 254 (.iadd) 1 255 := by decide +kernel
theorem d12_sends_255 : zd cX12_sends 255 (.iload_n 3) 1 256 := by decide +kernel
theorem d12_sends_256 : zj cX12_sends 256 (.ifCond .eq 7) 7 259 263 := by decide +kernel
theorem d12_sends_259 : zd cX12_sends 259 (.iconst 0) 1 260 := by decide +kernel
theorem d12_sends_260 : zj cX12_sends 260 (.goto 4) 4 263 264 := by decide +kernel
theorem d12_sends_263 : zd cX12_sends 263 (.iconst 1) 1 264 := by decide +kernel
theorem d12_sends_264 : zd cX12_sends 264 (.invokevirtual 310) 3 267 := by decide +kernel
theorem d12_sends_267 : zd cX12_sends 267 (.aload_n 0) 1 268 := by decide +kernel
theorem d12_sends_268 : zd cX12_sends 268 (.iload 7) 2 270 := by decide +kernel
theorem d12_sends_270 : zd cX12_sends 270 (.iconst 4) 1 271 := by decide +kernel
theorem d12_sends_271 : zd cX12_sends 271 (.iadd) 1 272 := by decide +kernel
theorem d12_sends_272 : zd cX12_sends 272 (.iload_n 3) 1 273 := by decide +kernel
theorem d12_sends_273 : zj cX12_sends 273 (.ifCond .eq 12) 12 276 285 := by decide +kernel
theorem d12_sends_276 : zd cX12_sends 276 (.aload_n 0) 1 277 := by decide +kernel
theorem d12_sends_277 : zd cX12_sends 277 (.iload_n 2) 1 278 := by decide +kernel
theorem d12_sends_278 : zd cX12_sends 278 (.iconst 3) 1 279 := by decide +kernel
theorem d12_sends_279 : zd cX12_sends 279 (.invokevirtual 319) 3 282 := by decide +kernel
theorem d12_sends_282 : zj cX12_sends 282 (.goto 10) 10 285 292 := by decide +kernel
theorem d12_sends_285 : zd cX12_sends 285 (.aload_n 0) 1 286 := by decide +kernel
theorem d12_sends_286 : zd cX12_sends 286 (.iload_n 1) 1 287 := by decide +kernel
theorem d12_sends_287 : zd cX12_sends 287 (.bipush 11) 2 289 := by decide +kernel
theorem d12_sends_289 : zd cX12_sends 289 (.invokevirtual 334) 3 292 := by decide +kernel
theorem d12_sends_292 : zd cX12_sends 292 (.invokevirtual 310) 3 295 := by decide +kernel
theorem d12_sends_295 : zd cX12_sends 295 (.aload_n 0) 1 296 := by decide +kernel
theorem d12_sends_296 : zd cX12_sends 296 (.iload 7) 2 298 := by decide +kernel
theorem d12_sends_298 : zd cX12_sends 298 (.iconst 5) 1 299 := by decide +kernel
theorem d12_sends_299 : zd cX12_sends 299 (.iadd) 1 300 := by decide +kernel
theorem d12_sends_300 : zd cX12_sends 300 (.iload_n 3) 1 301 := by decide +kernel
theorem d12_sends_301 : zj cX12_sends 301 (.ifCond .eq 12) 12 304 313 := by decide +kernel
theorem d12_sends_304 : zd cX12_sends 304 (.aload_n 0) 1 305 := by decide +kernel
theorem d12_sends_305 : zd cX12_sends 305 (.iload_n 2) 1 306 := by decide +kernel
theorem d12_sends_306 : zd cX12_sends 306 (.iconst 4) 1 307 := by decide +kernel
theorem d12_sends_307 : zd cX12_sends 307 (.invokevirtual 319) 3 310 := by decide +kernel
theorem d12_sends_310 : zj cX12_sends 310 (.goto 10) 10 313 320 := by decide +kernel
theorem d12_sends_313 : zd cX12_sends 313 (.aload_n 0) 1 314 := by decide +kernel
theorem d12_sends_314 : zd cX12_sends 314 (.iload_n 1) 1 315 := by decide +kernel
theorem d12_sends_315 : zd cX12_sends 315 (.bipush 12) 2 317 := by decide +kernel
theorem d12_sends_317 : zd cX12_sends 317 (.invokevirtual 334) 3 320 := by decide +kernel
theorem d12_sends_320 : zd cX12_sends 320 (.invokevirtual 310) 3 323 := by decide +kernel
theorem d12_sends_323 : zd cX12_sends 323 (.aload_n 0) 1 324 := by decide +kernel
theorem d12_sends_324 : zd cX12_sends 324 (.iload 7) 2 326 := by decide +kernel
theorem d12_sends_326 : zd cX12_sends 326 (.bipush 6) 2 328 := by decide +kernel
theorem d12_sends_328 : zd cX12_sends 328 (.iadd) 1 329 := by decide +kernel
theorem d12_sends_329 : zd cX12_sends 329 (.iload_n 3) 1 330 := by decide +kernel
theorem d12_sends_330 : zj cX12_sends 330 (.ifCond .eq 11) 11 333 341 := by decide +kernel
theorem d12_sends_333 : zd cX12_sends 333 (.aload_n 0) 1 334 := by decide +kernel
theorem d12_sends_334 : zd cX12_sends 334 (.iload_n 2) 1 335 := by decide +kernel
theorem d12_sends_335 : zd cX12_sends 335 (.invokevirtual 337) 3 338 := by decide +kernel
theorem d12_sends_338 : zj cX12_sends 338 (.goto 10) 10 341 348 := by decide +kernel
theorem d12_sends_341 : zd cX12_sends 341 (.aload_n 0) 1 342 := by decide +kernel
theorem d12_sends_342 : zd cX12_sends 342 (.iload_n 1) 1 343 := by decide +kernel
theorem d12_sends_343 : zd cX12_sends 343 (.bipush 13) 2 345 := by decide +kernel
theorem d12_sends_345 : zd cX12_sends 345 (.invokevirtual 334) 3 348 := by decide +kernel
theorem d12_sends_348 : zd cX12_sends 348 (.invokevirtual 310) 3 351 := by decide +kernel
theorem d12_sends_351 : zd cX12_sends 351 (.aload_n 0) 1 352 := by decide +kernel
theorem d12_sends_352 : zd cX12_sends 352 (.iload 7) 2 354 := by decide +kernel
theorem d12_sends_354 : zd cX12_sends 354 (.bipush 7) 2 356 := by decide +kernel
theorem d12_sends_356 : zd cX12_sends 356 (.iadd) 1 357 := by decide +kernel
theorem d12_sends_357 : zd cX12_sends 357 (.iload_n 3) 1 358 := by decide +kernel
theorem d12_sends_358 : zj cX12_sends 358 (.ifCond .eq 10) 10 361 368 := by decide +kernel
theorem d12_sends_361 : zd cX12_sends 361 (.iload_n 1) 1 362 := by decide +kernel
theorem d12_sends_362 : zd cX12_sends 362 (.bipush 6) 2 364 := by decide +kernel
theorem d12_sends_364 : zd cX12_sends 364 (.irem) 1 365 := by decide +kernel
theorem d12_sends_365 : zj cX12_sends 365 (.goto 10) 10 368 375 := by decide +kernel
theorem d12_sends_368 : zd cX12_sends 368 (.aload_n 0) 1 369 := by decide +kernel
theorem d12_sends_369 : zd cX12_sends 369 (.iload_n 1) 1 370 := by decide +kernel
theorem d12_sends_370 : zd cX12_sends 370 (.bipush 14) 2 372 := by decide +kernel
theorem d12_sends_372 : zd cX12_sends 372 (.invokevirtual 334) 3 375 := by decide +kernel
theorem d12_sends_375 : zd cX12_sends 375 (.invokevirtual 310) 3 378 := by decide +kernel
theorem d12_sends_378 : zd cX12_sends 378 (.aload_n 0) 1 379 := by decide +kernel
theorem d12_sends_379 : zd cX12_sends 379 (.iload 7) 2 381 := by decide +kernel
theorem d12_sends_381 : zd cX12_sends 381 (.bipush 8) 2 383 := by decide +kernel
theorem d12_sends_383 : zd cX12_sends 383 (.iadd) 1 384 := by decide +kernel
theorem d12_sends_384 : zd cX12_sends 384 (.iload_n 3) 1 385 := by decide +kernel
theorem d12_sends_385 : zj cX12_sends 385 (.ifCond .eq 13) 13 388 398 := by decide +kernel
theorem d12_sends_388 : zd cX12_sends 388 (.aload_n 0) 1 389 := by decide +kernel
theorem d12_sends_389 : zd cX12_sends 389 (.iload_n 2) 1 390 := by decide +kernel
theorem d12_sends_390 : zd cX12_sends 390 (.bipush 6) 2 392 := by decide +kernel
theorem d12_sends_392 : zd cX12_sends 392 (.invokevirtual 319) 3 395 := by decide +kernel
theorem d12_sends_395 : zj cX12_sends 395 (.goto 4) 4 398 399 := by decide +kernel
theorem d12_sends_398 : zd cX12_sends 398 (.iconst 0) 1 399 := by decide +kernel
theorem d12_sends_399 : zd cX12_sends 399 (.invokevirtual 310) 3 402 := by decide +kernel
theorem d12_sends_402 : zd cX12_sends 402 (.aload_n 0) 1 403 := by decide +kernel
theorem d12_sends_403 : zd cX12_sends 403 (.iload 7) 2 405 := by decide +kernel
theorem d12_sends_405 : zd cX12_sends 405 (.bipush 9) 2 407 := by decide +kernel
theorem d12_sends_407 : zd cX12_sends 407 (.iadd) 1 408 := by decide +kernel
theorem d12_sends_408 : zd cX12_sends 408 (.iload 5) 2 410 := by decide +kernel
theorem d12_sends_410 : zd cX12_sends 410 (.invokevirtual 310) 3 413 := by decide +kernel
theorem d12_sends_413 : zd cX12_sends 413 (.return_) 1 414 := by decide +kernel
set_option maxHeartbeats 4000000 in
set_option maxRecDepth 20000 in
theorem c12_sends (l : Launch) (D : zDt) (Sh : zSh) (top : Nat) (hO : zOK Sh) (o_ : Nat) (v_p : Int32) (μ : zM) (μ_ : zM) (ho : (Sh o_).1 = 19) (h : f12_sends o_ v_p μ = some μ_) : zMet l D zK1 yX12_sends cX12_sends 8 none (zrm 3 64) [.ref o_, .int v_p] Sh top μ none Sh top μ_ 0 0 := by
  refine zMet_of (by decide) (Nat.le_of_ble_eq_true rfl) fun X hX1 hX2 fx fin => ?_
  subst hX1; subst hX2
  replace fx : zFix X cX12_sends RX12 (zrm 3 64) 8 := fx
  show zZ zK1 X (zT0 Sh top) μ 0 [(0, .ref o_), (1, .int v_p)] []
  unfold f12_sends at h
  refine z_aload_n fx (k := 0) (i := 0) rfl rfl d12_sends_0 ?_
  refine z_iload_n fx (k := 1) (i := 1) rfl rfl d12_sends_1 ?_
  refine z_bipush fx (v := 9) bp9 d12_sends_2 ?_
  refine z_iconst fx (v := 0) ic0 d12_sends_4 ?_
  obtain ⟨μ1, e1, h⟩ := zinv h
  refine z_cVv fx (c12_sets (zLo X) (zDo X) Sh top hO o_ v_p 9 0 μ _ ho e1) mv12_sets ml12_344 ho rfl rfl rfl rfl d12_sends_5 ?_
  refine z_iload_n fx (k := 1) (i := 1) rfl rfl d12_sends_8 ?_
  refine z_bipush fx (v := 6) bp6 d12_sends_9 ?_
  obtain ⟨t2, e2, h⟩ := zinv h
  refine z_idiv fx e2 d12_sends_11 ?_
  refine z_istore_n fx (k := 2) (i := 2) rfl rfl (lv' := [(0, .ref o_), (1, .int v_p), (2, .int t2)]) rfl rfl d12_sends_12 ?_
  obtain ⟨b3, e3, h⟩ := zinv h
  have k4 : zZ zK1 X (zT0 Sh top) μ1 28 [(0, .ref o_), (1, .int v_p), (2, .int t2)] [.int (bI b3)] := by
    refine z_istore_n fx (k := 3) (i := 3) rfl rfl (lv' := [(0, .ref o_), (1, .int v_p), (2, .int t2), (3, .int (bI b3))]) rfl rfl d12_sends_28 ?_
    obtain ⟨b5, e8, h⟩ := zinv h
    have k9 : zZ zK1 X (zT0 Sh top) μ1 53 [(0, .ref o_), (1, .int v_p), (2, .int t2), (3, .int (bI b3))] [.int (bI b5)] := by
      refine z_istore fx (i := 4) rfl (lv' := [(0, .ref o_), (1, .int v_p), (2, .int t2), (3, .int (bI b3)), (4, .int (bI b5))]) rfl rfl d12_sends_53 ?_
      obtain ⟨x9, e17, h⟩ := zinv h
      have k18 : zZ zK1 X (zT0 Sh top) μ1 66 [(0, .ref o_), (1, .int v_p), (2, .int t2), (3, .int (bI b3)), (4, .int (bI b5))] [.int x9] := by
        obtain ⟨x10, e20, h⟩ := zinv h
        have k21 : zZ zK1 X (zT0 Sh top) μ1 80 [(0, .ref o_), (1, .int v_p), (2, .int t2), (3, .int (bI b3)), (4, .int (bI b5))] [.int x10, .int x9] := by
          refine z_iadd fx d12_sends_80 ?_
          obtain ⟨v_bits_12, e24, h⟩ := zinv h
          replace e24 := Option.some.inj e24
          refine z_top (congrArg Value.int e24) ?_
          refine z_istore fx (i := 5) rfl (lv' := [(0, .ref o_), (1, .int v_p), (2, .int t2), (3, .int (bI b3)), (4, .int (bI b5)), (5, .int v_bits_12)]) rfl rfl d12_sends_81 ?_
          refine z_iload_n fx (k := 3) (i := 3) rfl rfl d12_sends_83 ?_
          refine z_ifb_eq fx d12_sends_84 (fun c25 => ?_) (fun c25 => ?_)
          · replace h := zif_f c25 h
            obtain ⟨v_bits_13, e26, h⟩ := zinv h
            have k27 : zZ zK1 X (zT0 Sh top) μ1 149 [(0, .ref o_), (1, .int v_p), (2, .int t2), (3, .int (bI b3)), (4, .int (bI b5)), (5, .int v_bits_13)] [] := by
              refine z_aload_n fx (k := 0) (i := 0) rfl rfl d12_sends_149 ?_
              refine z_iload_n fx (k := 1) (i := 1) rfl rfl d12_sends_150 ?_
              refine z_bipush fx (v := 7) bp7 d12_sends_151 ?_
              refine z_iconst fx (v := 0) ic0 d12_sends_153 ?_
              obtain ⟨μ14, e28, h⟩ := zinv h
              refine z_cVv fx (c12_sets (zLo X) (zDo X) Sh top hO o_ v_p 7 0 μ1 _ ho e28) mv12_sets ml12_344 ho rfl rfl rfl rfl d12_sends_154 ?_
              refine z_iload fx (i := 5) rfl d12_sends_157 ?_
              refine z_bipush fx (v := 6) bp6 d12_sends_159 ?_
              refine z_iand fx d12_sends_161 ?_
              refine z_if_ne fx d12_sends_162 (fun c29 => ?_) (fun c29 => ?_)
              · replace h := zif_f c29 h
                refine z_aload_n fx (k := 0) (i := 0) rfl rfl d12_sends_166 ?_
                refine z_iconst fx (v := 2) ic2 d12_sends_167 ?_
                obtain ⟨t15, e30, h⟩ := zinv h
                refine z_cVr fx (c12_its (zLo X) (zDo X) Sh top hO o_ 2 μ14 _ ho e30) mv12_its ml12_316 ho rfl rfl rfl rfl d12_sends_168 ?_
                refine z_istore fx (i := 6) rfl (lv' := [(0, .ref o_), (1, .int v_p), (2, .int t2), (3, .int (bI b3)), (4, .int (bI b5)), (5, .int v_bits_13), (6, .int t15)]) rfl rfl d12_sends_171 ?_
                refine z_aload_n fx (k := 0) (i := 0) rfl rfl d12_sends_173 ?_
                refine z_iconst fx (v := 2) ic2 d12_sends_174 ?_
                refine z_iload fx (i := 6) rfl d12_sends_175 ?_
                refine z_iconst fx (v := 1) ic1 d12_sends_177 ?_
                refine z_iadd fx d12_sends_178 ?_
                obtain ⟨μ16, e31, h⟩ := zinv h
                refine z_cVv fx (c12_puts (zLo X) (zDo X) Sh top hO o_ 2 (t15 + 1) μ14 _ ho e31) mv12_puts ml12_310 ho rfl rfl rfl rfl d12_sends_179 ?_
                refine z_sipush fx (v := 1274) sp1274 d12_sends_182 ?_
                refine z_bipush fx (v := 10) bp10 d12_sends_185 ?_
                refine z_iload fx (i := 6) rfl d12_sends_187 ?_
                refine z_imul fx d12_sends_189 ?_
                refine z_iadd fx d12_sends_190 ?_
                obtain ⟨v_m_17, e32, h⟩ := zinv h
                replace e32 := Option.some.inj e32
                refine z_top (congrArg Value.int e32) ?_
                refine z_istore fx (i := 7) rfl (lv' := [(0, .ref o_), (1, .int v_p), (2, .int t2), (3, .int (bI b3)), (4, .int (bI b5)), (5, .int v_bits_13), (6, .int t15), (7, .int v_m_17)]) rfl rfl d12_sends_191 ?_
                refine z_aload_n fx (k := 0) (i := 0) rfl rfl d12_sends_193 ?_
                refine z_iload fx (i := 7) rfl d12_sends_194 ?_
                refine z_iconst fx (v := 0) ic0 d12_sends_196 ?_
                refine z_iadd fx d12_sends_197 ?_
                refine z_aload_n fx (k := 0) (i := 0) rfl rfl d12_sends_198 ?_
                refine z_iconst fx (v := 0) ic0 d12_sends_199 ?_
                obtain ⟨t18, e33, h⟩ := zinv h
                refine z_cVr fx (c12_its (zLo X) (zDo X) Sh top hO o_ 0 μ16 _ ho e33) mv12_its ml12_316 ho rfl rfl rfl rfl d12_sends_200 ?_
                refine z_aload_n fx (k := 0) (i := 0) rfl rfl d12_sends_203 ?_
                refine z_getO fx 12 12 7 ho lf12_47 fk12_12 d12_sends_204 ?_
                refine z_aload_n fx (k := 0) (i := 0) rfl rfl d12_sends_207 ?_
                refine z_getO fx 12 15 10 ho lf12_56 fk12_15 d12_sends_208 ?_
                refine z_iload_n fx (k := 1) (i := 1) rfl rfl d12_sends_211 ?_
                obtain ⟨t19, e34, h⟩ := zinv h
                refine z_iald fx (ok12_15 hO ho) e34 d12_sends_212 ?_
                obtain ⟨t20, e35, h⟩ := zinv h
                refine z_iald fx (ok12_12 hO ho) e35 d12_sends_213 ?_
                refine z_iadd fx d12_sends_214 ?_
                obtain ⟨μ21, e36, h⟩ := zinv h
                refine z_cVv fx (c12_puts (zLo X) (zDo X) Sh top hO o_ (v_m_17 + 0) (t18 + t20) μ16 _ ho e36) mv12_puts ml12_310 ho rfl rfl rfl rfl d12_sends_215 ?_
                refine z_aload_n fx (k := 0) (i := 0) rfl rfl d12_sends_218 ?_
                refine z_iload fx (i := 7) rfl d12_sends_219 ?_
                refine z_iconst fx (v := 1) ic1 d12_sends_221 ?_
                refine z_iadd fx d12_sends_222 ?_
                refine z_aload_n fx (k := 0) (i := 0) rfl rfl d12_sends_223 ?_
                refine z_iload_n fx (k := 1) (i := 1) rfl rfl d12_sends_224 ?_
                obtain ⟨t22, e37, h⟩ := zinv h
                refine z_cVr fx (c12_otherPort (zLo X) (zDo X) Sh top hO o_ v_p μ21 _ ho e37) mv12_otherPort ml12_422 ho rfl rfl rfl rfl d12_sends_225 ?_
                refine z_bipush fx (v := 6) bp6 d12_sends_228 ?_
                obtain ⟨t23, e38, h⟩ := zinv h
                refine z_idiv fx e38 d12_sends_230 ?_
                obtain ⟨μ24, e39, h⟩ := zinv h
                refine z_cVv fx (c12_puts (zLo X) (zDo X) Sh top hO o_ (v_m_17 + 1) t23 μ21 _ ho e39) mv12_puts ml12_310 ho rfl rfl rfl rfl d12_sends_231 ?_
                refine z_aload_n fx (k := 0) (i := 0) rfl rfl d12_sends_234 ?_
                refine z_iload fx (i := 7) rfl d12_sends_235 ?_
                refine z_iconst fx (v := 2) ic2 d12_sends_237 ?_
                refine z_iadd fx d12_sends_238 ?_
                refine z_aload_n fx (k := 0) (i := 0) rfl rfl d12_sends_239 ?_
                refine z_iload_n fx (k := 1) (i := 1) rfl rfl d12_sends_240 ?_
                obtain ⟨t25, e40, h⟩ := zinv h
                refine z_cVr fx (c12_otherPort (zLo X) (zDo X) Sh top hO o_ v_p μ24 _ ho e40) mv12_otherPort ml12_422 ho rfl rfl rfl rfl d12_sends_241 ?_
                refine z_bipush fx (v := 6) bp6 d12_sends_244 ?_
                obtain ⟨t26, e41, h⟩ := zinv h
                refine z_irem fx e41 d12_sends_246 ?_
                obtain ⟨μ27, e42, h⟩ := zinv h
                refine z_cVv fx (c12_puts (zLo X) (zDo X) Sh top hO o_ (v_m_17 + 2) t26 μ24 _ ho e42) mv12_puts ml12_310 ho rfl rfl rfl rfl d12_sends_247 ?_
                refine z_aload_n fx (k := 0) (i := 0) rfl rfl d12_sends_250 ?_
                refine z_iload fx (i := 7) rfl d12_sends_251 ?_
                refine z_iconst fx (v := 3) ic3 d12_sends_253 ?_
                refine z_iadd fx d12_sends_254 ?_
                obtain ⟨x28, e43, h⟩ := zinv h
                have k44 : zZ zK1 X (zT0 Sh top) μ27 264 [(0, .ref o_), (1, .int v_p), (2, .int t2), (3, .int (bI b3)), (4, .int (bI b5)), (5, .int v_bits_13), (6, .int t15), (7, .int v_m_17)] [.int x28, .int (v_m_17 + 3), .ref o_] := by
                  obtain ⟨μ29, e46, h⟩ := zinv h
                  refine z_cVv fx (c12_puts (zLo X) (zDo X) Sh top hO o_ (v_m_17 + 3) x28 μ27 _ ho e46) mv12_puts ml12_310 ho rfl rfl rfl rfl d12_sends_264 ?_
                  refine z_aload_n fx (k := 0) (i := 0) rfl rfl d12_sends_267 ?_
                  refine z_iload fx (i := 7) rfl d12_sends_268 ?_
                  refine z_iconst fx (v := 4) ic4 d12_sends_270 ?_
                  refine z_iadd fx d12_sends_271 ?_
                  obtain ⟨x30, e47, h⟩ := zinv h
                  have k48 : zZ zK1 X (zT0 Sh top) μ29 292 [(0, .ref o_), (1, .int v_p), (2, .int t2), (3, .int (bI b3)), (4, .int (bI b5)), (5, .int v_bits_13), (6, .int t15), (7, .int v_m_17)] [.int x30, .int (v_m_17 + 4), .ref o_] := by
                    obtain ⟨μ33, e52, h⟩ := zinv h
                    refine z_cVv fx (c12_puts (zLo X) (zDo X) Sh top hO o_ (v_m_17 + 4) x30 μ29 _ ho e52) mv12_puts ml12_310 ho rfl rfl rfl rfl d12_sends_292 ?_
                    refine z_aload_n fx (k := 0) (i := 0) rfl rfl d12_sends_295 ?_
                    refine z_iload fx (i := 7) rfl d12_sends_296 ?_
                    refine z_iconst fx (v := 5) ic5 d12_sends_298 ?_
                    refine z_iadd fx d12_sends_299 ?_
                    obtain ⟨x34, e53, h⟩ := zinv h
                    have k54 : zZ zK1 X (zT0 Sh top) μ33 320 [(0, .ref o_), (1, .int v_p), (2, .int t2), (3, .int (bI b3)), (4, .int (bI b5)), (5, .int v_bits_13), (6, .int t15), (7, .int v_m_17)] [.int x34, .int (v_m_17 + 5), .ref o_] := by
                      obtain ⟨μ37, e58, h⟩ := zinv h
                      refine z_cVv fx (c12_puts (zLo X) (zDo X) Sh top hO o_ (v_m_17 + 5) x34 μ33 _ ho e58) mv12_puts ml12_310 ho rfl rfl rfl rfl d12_sends_320 ?_
                      refine z_aload_n fx (k := 0) (i := 0) rfl rfl d12_sends_323 ?_
                      refine z_iload fx (i := 7) rfl d12_sends_324 ?_
                      refine z_bipush fx (v := 6) bp6 d12_sends_326 ?_
                      refine z_iadd fx d12_sends_328 ?_
                      obtain ⟨x38, e59, h⟩ := zinv h
                      have k60 : zZ zK1 X (zT0 Sh top) μ37 348 [(0, .ref o_), (1, .int v_p), (2, .int t2), (3, .int (bI b3)), (4, .int (bI b5)), (5, .int v_bits_13), (6, .int t15), (7, .int v_m_17)] [.int x38, .int (v_m_17 + 6), .ref o_] := by
                        obtain ⟨μ41, e64, h⟩ := zinv h
                        refine z_cVv fx (c12_puts (zLo X) (zDo X) Sh top hO o_ (v_m_17 + 6) x38 μ37 _ ho e64) mv12_puts ml12_310 ho rfl rfl rfl rfl d12_sends_348 ?_
                        refine z_aload_n fx (k := 0) (i := 0) rfl rfl d12_sends_351 ?_
                        refine z_iload fx (i := 7) rfl d12_sends_352 ?_
                        refine z_bipush fx (v := 7) bp7 d12_sends_354 ?_
                        refine z_iadd fx d12_sends_356 ?_
                        obtain ⟨x42, e65, h⟩ := zinv h
                        have k66 : zZ zK1 X (zT0 Sh top) μ41 375 [(0, .ref o_), (1, .int v_p), (2, .int t2), (3, .int (bI b3)), (4, .int (bI b5)), (5, .int v_bits_13), (6, .int t15), (7, .int v_m_17)] [.int x42, .int (v_m_17 + 7), .ref o_] := by
                          obtain ⟨μ45, e70, h⟩ := zinv h
                          refine z_cVv fx (c12_puts (zLo X) (zDo X) Sh top hO o_ (v_m_17 + 7) x42 μ41 _ ho e70) mv12_puts ml12_310 ho rfl rfl rfl rfl d12_sends_375 ?_
                          refine z_aload_n fx (k := 0) (i := 0) rfl rfl d12_sends_378 ?_
                          refine z_iload fx (i := 7) rfl d12_sends_379 ?_
                          refine z_bipush fx (v := 8) bp8 d12_sends_381 ?_
                          refine z_iadd fx d12_sends_383 ?_
                          obtain ⟨x46, e71, h⟩ := zinv h
                          have k72 : zZ zK1 X (zT0 Sh top) μ45 399 [(0, .ref o_), (1, .int v_p), (2, .int t2), (3, .int (bI b3)), (4, .int (bI b5)), (5, .int v_bits_13), (6, .int t15), (7, .int v_m_17)] [.int x46, .int (v_m_17 + 8), .ref o_] := by
                            obtain ⟨μ48, e75, h⟩ := zinv h
                            refine z_cVv fx (c12_puts (zLo X) (zDo X) Sh top hO o_ (v_m_17 + 8) x46 μ45 _ ho e75) mv12_puts ml12_310 ho rfl rfl rfl rfl d12_sends_399 ?_
                            refine z_aload_n fx (k := 0) (i := 0) rfl rfl d12_sends_402 ?_
                            refine z_iload fx (i := 7) rfl d12_sends_403 ?_
                            refine z_bipush fx (v := 9) bp9 d12_sends_405 ?_
                            refine z_iadd fx d12_sends_407 ?_
                            refine z_iload fx (i := 5) rfl d12_sends_408 ?_
                            obtain ⟨μ49, e76, h⟩ := zinv h
                            refine z_cVv fx (c12_puts (zLo X) (zDo X) Sh top hO o_ (v_m_17 + 9) v_bits_13 μ48 _ ho e76) mv12_puts ml12_310 ho rfl rfl rfl rfl d12_sends_410 ?_
                            cases h
                            exact z_return fx fin d12_sends_413
                          refine z_iload_n fx (k := 3) (i := 3) rfl rfl d12_sends_384 ?_
                          refine z_ifb_eq fx d12_sends_385 (fun c73 => ?_) (fun c73 => ?_)
                          · replace e71 := zif_f c73 e71
                            refine z_iconst fx (v := 0) ic0 d12_sends_398 ?_
                            cases e71
                            exact k72
                          · replace e71 := zif_t c73 e71
                            refine z_aload_n fx (k := 0) (i := 0) rfl rfl d12_sends_388 ?_
                            refine z_iload_n fx (k := 2) (i := 2) rfl rfl d12_sends_389 ?_
                            refine z_bipush fx (v := 6) bp6 d12_sends_390 ?_
                            obtain ⟨t47, e74, e71⟩ := zinv e71
                            refine z_cVr fx (c12_of (zLo X) (zDo X) Sh top hO o_ t2 6 μ45 _ ho e74) mv12_of ml12_319 ho rfl rfl rfl rfl d12_sends_392 ?_
                            cases e71
                            refine z_goto fx d12_sends_395 ?_
                            exact k72
                        refine z_iload_n fx (k := 3) (i := 3) rfl rfl d12_sends_357 ?_
                        refine z_ifb_eq fx d12_sends_358 (fun c67 => ?_) (fun c67 => ?_)
                        · replace e65 := zif_f c67 e65
                          refine z_aload_n fx (k := 0) (i := 0) rfl rfl d12_sends_368 ?_
                          refine z_iload_n fx (k := 1) (i := 1) rfl rfl d12_sends_369 ?_
                          refine z_bipush fx (v := 14) bp14 d12_sends_370 ?_
                          obtain ⟨t43, e68, e65⟩ := zinv e65
                          refine z_cVr fx (c12_portOf (zLo X) (zDo X) Sh top hO o_ v_p 14 μ41 _ ho e68) mv12_portOf ml12_334 ho rfl rfl rfl rfl d12_sends_372 ?_
                          cases e65
                          exact k66
                        · replace e65 := zif_t c67 e65
                          refine z_iload_n fx (k := 1) (i := 1) rfl rfl d12_sends_361 ?_
                          refine z_bipush fx (v := 6) bp6 d12_sends_362 ?_
                          obtain ⟨t44, e69, e65⟩ := zinv e65
                          refine z_irem fx e69 d12_sends_364 ?_
                          cases e65
                          refine z_goto fx d12_sends_365 ?_
                          exact k66
                      refine z_iload_n fx (k := 3) (i := 3) rfl rfl d12_sends_329 ?_
                      refine z_ifb_eq fx d12_sends_330 (fun c61 => ?_) (fun c61 => ?_)
                      · replace e59 := zif_f c61 e59
                        refine z_aload_n fx (k := 0) (i := 0) rfl rfl d12_sends_341 ?_
                        refine z_iload_n fx (k := 1) (i := 1) rfl rfl d12_sends_342 ?_
                        refine z_bipush fx (v := 13) bp13 d12_sends_343 ?_
                        obtain ⟨t39, e62, e59⟩ := zinv e59
                        refine z_cVr fx (c12_portOf (zLo X) (zDo X) Sh top hO o_ v_p 13 μ37 _ ho e62) mv12_portOf ml12_334 ho rfl rfl rfl rfl d12_sends_345 ?_
                        cases e59
                        exact k60
                      · replace e59 := zif_t c61 e59
                        refine z_aload_n fx (k := 0) (i := 0) rfl rfl d12_sends_333 ?_
                        refine z_iload_n fx (k := 2) (i := 2) rfl rfl d12_sends_334 ?_
                        obtain ⟨t40, e63, e59⟩ := zinv e59
                        refine z_cVr fx (c12_idOf (zLo X) (zDo X) Sh top hO o_ t2 μ37 _ ho e63) mv12_idOf ml12_337 ho rfl rfl rfl rfl d12_sends_335 ?_
                        cases e59
                        refine z_goto fx d12_sends_338 ?_
                        exact k60
                    refine z_iload_n fx (k := 3) (i := 3) rfl rfl d12_sends_300 ?_
                    refine z_ifb_eq fx d12_sends_301 (fun c55 => ?_) (fun c55 => ?_)
                    · replace e53 := zif_f c55 e53
                      refine z_aload_n fx (k := 0) (i := 0) rfl rfl d12_sends_313 ?_
                      refine z_iload_n fx (k := 1) (i := 1) rfl rfl d12_sends_314 ?_
                      refine z_bipush fx (v := 12) bp12 d12_sends_315 ?_
                      obtain ⟨t35, e56, e53⟩ := zinv e53
                      refine z_cVr fx (c12_portOf (zLo X) (zDo X) Sh top hO o_ v_p 12 μ33 _ ho e56) mv12_portOf ml12_334 ho rfl rfl rfl rfl d12_sends_317 ?_
                      cases e53
                      exact k54
                    · replace e53 := zif_t c55 e53
                      refine z_aload_n fx (k := 0) (i := 0) rfl rfl d12_sends_304 ?_
                      refine z_iload_n fx (k := 2) (i := 2) rfl rfl d12_sends_305 ?_
                      refine z_iconst fx (v := 4) ic4 d12_sends_306 ?_
                      obtain ⟨t36, e57, e53⟩ := zinv e53
                      refine z_cVr fx (c12_of (zLo X) (zDo X) Sh top hO o_ t2 4 μ33 _ ho e57) mv12_of ml12_319 ho rfl rfl rfl rfl d12_sends_307 ?_
                      cases e53
                      refine z_goto fx d12_sends_310 ?_
                      exact k54
                  refine z_iload_n fx (k := 3) (i := 3) rfl rfl d12_sends_272 ?_
                  refine z_ifb_eq fx d12_sends_273 (fun c49 => ?_) (fun c49 => ?_)
                  · replace e47 := zif_f c49 e47
                    refine z_aload_n fx (k := 0) (i := 0) rfl rfl d12_sends_285 ?_
                    refine z_iload_n fx (k := 1) (i := 1) rfl rfl d12_sends_286 ?_
                    refine z_bipush fx (v := 11) bp11 d12_sends_287 ?_
                    obtain ⟨t31, e50, e47⟩ := zinv e47
                    refine z_cVr fx (c12_portOf (zLo X) (zDo X) Sh top hO o_ v_p 11 μ29 _ ho e50) mv12_portOf ml12_334 ho rfl rfl rfl rfl d12_sends_289 ?_
                    cases e47
                    exact k48
                  · replace e47 := zif_t c49 e47
                    refine z_aload_n fx (k := 0) (i := 0) rfl rfl d12_sends_276 ?_
                    refine z_iload_n fx (k := 2) (i := 2) rfl rfl d12_sends_277 ?_
                    refine z_iconst fx (v := 3) ic3 d12_sends_278 ?_
                    obtain ⟨t32, e51, e47⟩ := zinv e47
                    refine z_cVr fx (c12_of (zLo X) (zDo X) Sh top hO o_ t2 3 μ29 _ ho e51) mv12_of ml12_319 ho rfl rfl rfl rfl d12_sends_279 ?_
                    cases e47
                    refine z_goto fx d12_sends_282 ?_
                    exact k48
                refine z_iload_n fx (k := 3) (i := 3) rfl rfl d12_sends_255 ?_
                refine z_ifb_eq fx d12_sends_256 (fun c45 => ?_) (fun c45 => ?_)
                · replace e43 := zif_f c45 e43
                  refine z_iconst fx (v := 1) ic1 d12_sends_263 ?_
                  cases e43
                  exact k44
                · replace e43 := zif_t c45 e43
                  refine z_iconst fx (v := 0) ic0 d12_sends_259 ?_
                  cases e43
                  refine z_goto fx d12_sends_260 ?_
                  exact k44
              · replace h := zif_t c29 h
                cases h
                exact z_return fx fin d12_sends_165
            clear h
            obtain ⟨b50, e78, e26⟩ := zinv e26
            have kt77 : b50 = true → zZ zK1 X (zT0 Sh top) μ1 146 [(0, .ref o_), (1, .int v_p), (2, .int t2), (3, .int (bI b3)), (4, .int (bI b5)), (5, .int v_bits_12)] [] := by
              intro hc
              replace e26 := zif_t hc e26
              obtain ⟨v_bits_51, e79, e26⟩ := zinv e26
              replace e79 := Option.some.inj e79
              refine z_iinc fx (i := 5) (x := v_bits_12) (v := v_bits_51) rfl (by rw [in2]; exact e79) rfl (lv' := [(0, .ref o_), (1, .int v_p), (2, .int t2), (3, .int (bI b3)), (4, .int (bI b5)), (5, .int v_bits_51)]) rfl rfl d12_sends_146 ?_
              cases e26
              exact k27
            have kf77 : b50 = false → zZ zK1 X (zT0 Sh top) μ1 149 [(0, .ref o_), (1, .int v_p), (2, .int t2), (3, .int (bI b3)), (4, .int (bI b5)), (5, .int v_bits_12)] [] := by
              intro hc
              replace e26 := zif_f hc e26
              cases e26
              exact k27
            clear e26
            refine z_iload fx (i := 4) rfl d12_sends_130 ?_
            refine z_ifb_eq fx d12_sends_132 (fun c80 => ?_) (fun c80 => ?_)
            · replace e78 := zif_f c80 e78
              cases e78
              exact kf77 rfl
            · replace e78 := zif_t c80 e78
              refine z_aload_n fx (k := 0) (i := 0) rfl rfl d12_sends_135 ?_
              refine z_iload_n fx (k := 1) (i := 1) rfl rfl d12_sends_136 ?_
              refine z_bipush fx (v := 7) bp7 d12_sends_137 ?_
              obtain ⟨t52, e81, e78⟩ := zinv e78
              refine z_cVr fx (c12_portOf (zLo X) (zDo X) Sh top hO o_ v_p 7 μ1 _ ho e81) mv12_portOf ml12_334 ho rfl rfl rfl rfl d12_sends_139 ?_
              refine z_iconst fx (v := 1) ic1 d12_sends_142 ?_
              cases e78
              refine z_icmp_ne fx d12_sends_143 (fun c82 => ?_) (fun c82 => ?_)
              · exact kf77 c82
              · exact kt77 c82
          · replace h := zif_t c25 h
            obtain ⟨v_bits_53, e83, h⟩ := zinv h
            have k84 : zZ zK1 X (zT0 Sh top) μ1 105 [(0, .ref o_), (1, .int v_p), (2, .int t2), (3, .int (bI b3)), (4, .int (bI b5)), (5, .int v_bits_53)] [] := by
              obtain ⟨v_bits_54, e85, h⟩ := zinv h
              have k86 : zZ zK1 X (zT0 Sh top) μ1 119 [(0, .ref o_), (1, .int v_p), (2, .int t2), (3, .int (bI b3)), (4, .int (bI b5)), (5, .int v_bits_54)] [] := by
                refine z_aload_n fx (k := 0) (i := 0) rfl rfl d12_sends_119 ?_
                refine z_iload_n fx (k := 1) (i := 1) rfl rfl d12_sends_120 ?_
                refine z_bipush fx (v := 8) bp8 d12_sends_121 ?_
                refine z_iconst fx (v := 0) ic0 d12_sends_123 ?_
                obtain ⟨μ55, e87, h⟩ := zinv h
                refine z_cVv fx (c12_sets (zLo X) (zDo X) Sh top hO o_ v_p 8 0 μ1 _ ho e87) mv12_sets ml12_344 ho rfl rfl rfl rfl d12_sends_124 ?_
                refine z_goto fx d12_sends_127 ?_
                refine z_aload_n fx (k := 0) (i := 0) rfl rfl d12_sends_166 ?_
                refine z_iconst fx (v := 2) ic2 d12_sends_167 ?_
                obtain ⟨t56, e88, h⟩ := zinv h
                refine z_cVr fx (c12_its (zLo X) (zDo X) Sh top hO o_ 2 μ55 _ ho e88) mv12_its ml12_316 ho rfl rfl rfl rfl d12_sends_168 ?_
                refine z_istore fx (i := 6) rfl (lv' := [(0, .ref o_), (1, .int v_p), (2, .int t2), (3, .int (bI b3)), (4, .int (bI b5)), (5, .int v_bits_54), (6, .int t56)]) rfl rfl d12_sends_171 ?_
                refine z_aload_n fx (k := 0) (i := 0) rfl rfl d12_sends_173 ?_
                refine z_iconst fx (v := 2) ic2 d12_sends_174 ?_
                refine z_iload fx (i := 6) rfl d12_sends_175 ?_
                refine z_iconst fx (v := 1) ic1 d12_sends_177 ?_
                refine z_iadd fx d12_sends_178 ?_
                obtain ⟨μ57, e89, h⟩ := zinv h
                refine z_cVv fx (c12_puts (zLo X) (zDo X) Sh top hO o_ 2 (t56 + 1) μ55 _ ho e89) mv12_puts ml12_310 ho rfl rfl rfl rfl d12_sends_179 ?_
                refine z_sipush fx (v := 1274) sp1274 d12_sends_182 ?_
                refine z_bipush fx (v := 10) bp10 d12_sends_185 ?_
                refine z_iload fx (i := 6) rfl d12_sends_187 ?_
                refine z_imul fx d12_sends_189 ?_
                refine z_iadd fx d12_sends_190 ?_
                obtain ⟨v_m_58, e90, h⟩ := zinv h
                replace e90 := Option.some.inj e90
                refine z_top (congrArg Value.int e90) ?_
                refine z_istore fx (i := 7) rfl (lv' := [(0, .ref o_), (1, .int v_p), (2, .int t2), (3, .int (bI b3)), (4, .int (bI b5)), (5, .int v_bits_54), (6, .int t56), (7, .int v_m_58)]) rfl rfl d12_sends_191 ?_
                refine z_aload_n fx (k := 0) (i := 0) rfl rfl d12_sends_193 ?_
                refine z_iload fx (i := 7) rfl d12_sends_194 ?_
                refine z_iconst fx (v := 0) ic0 d12_sends_196 ?_
                refine z_iadd fx d12_sends_197 ?_
                refine z_aload_n fx (k := 0) (i := 0) rfl rfl d12_sends_198 ?_
                refine z_iconst fx (v := 0) ic0 d12_sends_199 ?_
                obtain ⟨t59, e91, h⟩ := zinv h
                refine z_cVr fx (c12_its (zLo X) (zDo X) Sh top hO o_ 0 μ57 _ ho e91) mv12_its ml12_316 ho rfl rfl rfl rfl d12_sends_200 ?_
                refine z_aload_n fx (k := 0) (i := 0) rfl rfl d12_sends_203 ?_
                refine z_getO fx 12 12 7 ho lf12_47 fk12_12 d12_sends_204 ?_
                refine z_aload_n fx (k := 0) (i := 0) rfl rfl d12_sends_207 ?_
                refine z_getO fx 12 15 10 ho lf12_56 fk12_15 d12_sends_208 ?_
                refine z_iload_n fx (k := 1) (i := 1) rfl rfl d12_sends_211 ?_
                obtain ⟨t60, e92, h⟩ := zinv h
                refine z_iald fx (ok12_15 hO ho) e92 d12_sends_212 ?_
                obtain ⟨t61, e93, h⟩ := zinv h
                refine z_iald fx (ok12_12 hO ho) e93 d12_sends_213 ?_
                refine z_iadd fx d12_sends_214 ?_
                obtain ⟨μ62, e94, h⟩ := zinv h
                refine z_cVv fx (c12_puts (zLo X) (zDo X) Sh top hO o_ (v_m_58 + 0) (t59 + t61) μ57 _ ho e94) mv12_puts ml12_310 ho rfl rfl rfl rfl d12_sends_215 ?_
                refine z_aload_n fx (k := 0) (i := 0) rfl rfl d12_sends_218 ?_
                refine z_iload fx (i := 7) rfl d12_sends_219 ?_
                refine z_iconst fx (v := 1) ic1 d12_sends_221 ?_
                refine z_iadd fx d12_sends_222 ?_
                refine z_aload_n fx (k := 0) (i := 0) rfl rfl d12_sends_223 ?_
                refine z_iload_n fx (k := 1) (i := 1) rfl rfl d12_sends_224 ?_
                obtain ⟨t63, e95, h⟩ := zinv h
                refine z_cVr fx (c12_otherPort (zLo X) (zDo X) Sh top hO o_ v_p μ62 _ ho e95) mv12_otherPort ml12_422 ho rfl rfl rfl rfl d12_sends_225 ?_
                refine z_bipush fx (v := 6) bp6 d12_sends_228 ?_
                obtain ⟨t64, e96, h⟩ := zinv h
                refine z_idiv fx e96 d12_sends_230 ?_
                obtain ⟨μ65, e97, h⟩ := zinv h
                refine z_cVv fx (c12_puts (zLo X) (zDo X) Sh top hO o_ (v_m_58 + 1) t64 μ62 _ ho e97) mv12_puts ml12_310 ho rfl rfl rfl rfl d12_sends_231 ?_
                refine z_aload_n fx (k := 0) (i := 0) rfl rfl d12_sends_234 ?_
                refine z_iload fx (i := 7) rfl d12_sends_235 ?_
                refine z_iconst fx (v := 2) ic2 d12_sends_237 ?_
                refine z_iadd fx d12_sends_238 ?_
                refine z_aload_n fx (k := 0) (i := 0) rfl rfl d12_sends_239 ?_
                refine z_iload_n fx (k := 1) (i := 1) rfl rfl d12_sends_240 ?_
                obtain ⟨t66, e98, h⟩ := zinv h
                refine z_cVr fx (c12_otherPort (zLo X) (zDo X) Sh top hO o_ v_p μ65 _ ho e98) mv12_otherPort ml12_422 ho rfl rfl rfl rfl d12_sends_241 ?_
                refine z_bipush fx (v := 6) bp6 d12_sends_244 ?_
                obtain ⟨t67, e99, h⟩ := zinv h
                refine z_irem fx e99 d12_sends_246 ?_
                obtain ⟨μ68, e100, h⟩ := zinv h
                refine z_cVv fx (c12_puts (zLo X) (zDo X) Sh top hO o_ (v_m_58 + 2) t67 μ65 _ ho e100) mv12_puts ml12_310 ho rfl rfl rfl rfl d12_sends_247 ?_
                refine z_aload_n fx (k := 0) (i := 0) rfl rfl d12_sends_250 ?_
                refine z_iload fx (i := 7) rfl d12_sends_251 ?_
                refine z_iconst fx (v := 3) ic3 d12_sends_253 ?_
                refine z_iadd fx d12_sends_254 ?_
                obtain ⟨x69, e101, h⟩ := zinv h
                have k102 : zZ zK1 X (zT0 Sh top) μ68 264 [(0, .ref o_), (1, .int v_p), (2, .int t2), (3, .int (bI b3)), (4, .int (bI b5)), (5, .int v_bits_54), (6, .int t56), (7, .int v_m_58)] [.int x69, .int (v_m_58 + 3), .ref o_] := by
                  obtain ⟨μ70, e104, h⟩ := zinv h
                  refine z_cVv fx (c12_puts (zLo X) (zDo X) Sh top hO o_ (v_m_58 + 3) x69 μ68 _ ho e104) mv12_puts ml12_310 ho rfl rfl rfl rfl d12_sends_264 ?_
                  refine z_aload_n fx (k := 0) (i := 0) rfl rfl d12_sends_267 ?_
                  refine z_iload fx (i := 7) rfl d12_sends_268 ?_
                  refine z_iconst fx (v := 4) ic4 d12_sends_270 ?_
                  refine z_iadd fx d12_sends_271 ?_
                  obtain ⟨x71, e105, h⟩ := zinv h
                  have k106 : zZ zK1 X (zT0 Sh top) μ70 292 [(0, .ref o_), (1, .int v_p), (2, .int t2), (3, .int (bI b3)), (4, .int (bI b5)), (5, .int v_bits_54), (6, .int t56), (7, .int v_m_58)] [.int x71, .int (v_m_58 + 4), .ref o_] := by
                    obtain ⟨μ74, e110, h⟩ := zinv h
                    refine z_cVv fx (c12_puts (zLo X) (zDo X) Sh top hO o_ (v_m_58 + 4) x71 μ70 _ ho e110) mv12_puts ml12_310 ho rfl rfl rfl rfl d12_sends_292 ?_
                    refine z_aload_n fx (k := 0) (i := 0) rfl rfl d12_sends_295 ?_
                    refine z_iload fx (i := 7) rfl d12_sends_296 ?_
                    refine z_iconst fx (v := 5) ic5 d12_sends_298 ?_
                    refine z_iadd fx d12_sends_299 ?_
                    obtain ⟨x75, e111, h⟩ := zinv h
                    have k112 : zZ zK1 X (zT0 Sh top) μ74 320 [(0, .ref o_), (1, .int v_p), (2, .int t2), (3, .int (bI b3)), (4, .int (bI b5)), (5, .int v_bits_54), (6, .int t56), (7, .int v_m_58)] [.int x75, .int (v_m_58 + 5), .ref o_] := by
                      obtain ⟨μ78, e116, h⟩ := zinv h
                      refine z_cVv fx (c12_puts (zLo X) (zDo X) Sh top hO o_ (v_m_58 + 5) x75 μ74 _ ho e116) mv12_puts ml12_310 ho rfl rfl rfl rfl d12_sends_320 ?_
                      refine z_aload_n fx (k := 0) (i := 0) rfl rfl d12_sends_323 ?_
                      refine z_iload fx (i := 7) rfl d12_sends_324 ?_
                      refine z_bipush fx (v := 6) bp6 d12_sends_326 ?_
                      refine z_iadd fx d12_sends_328 ?_
                      obtain ⟨x79, e117, h⟩ := zinv h
                      have k118 : zZ zK1 X (zT0 Sh top) μ78 348 [(0, .ref o_), (1, .int v_p), (2, .int t2), (3, .int (bI b3)), (4, .int (bI b5)), (5, .int v_bits_54), (6, .int t56), (7, .int v_m_58)] [.int x79, .int (v_m_58 + 6), .ref o_] := by
                        obtain ⟨μ82, e122, h⟩ := zinv h
                        refine z_cVv fx (c12_puts (zLo X) (zDo X) Sh top hO o_ (v_m_58 + 6) x79 μ78 _ ho e122) mv12_puts ml12_310 ho rfl rfl rfl rfl d12_sends_348 ?_
                        refine z_aload_n fx (k := 0) (i := 0) rfl rfl d12_sends_351 ?_
                        refine z_iload fx (i := 7) rfl d12_sends_352 ?_
                        refine z_bipush fx (v := 7) bp7 d12_sends_354 ?_
                        refine z_iadd fx d12_sends_356 ?_
                        obtain ⟨x83, e123, h⟩ := zinv h
                        have k124 : zZ zK1 X (zT0 Sh top) μ82 375 [(0, .ref o_), (1, .int v_p), (2, .int t2), (3, .int (bI b3)), (4, .int (bI b5)), (5, .int v_bits_54), (6, .int t56), (7, .int v_m_58)] [.int x83, .int (v_m_58 + 7), .ref o_] := by
                          obtain ⟨μ86, e128, h⟩ := zinv h
                          refine z_cVv fx (c12_puts (zLo X) (zDo X) Sh top hO o_ (v_m_58 + 7) x83 μ82 _ ho e128) mv12_puts ml12_310 ho rfl rfl rfl rfl d12_sends_375 ?_
                          refine z_aload_n fx (k := 0) (i := 0) rfl rfl d12_sends_378 ?_
                          refine z_iload fx (i := 7) rfl d12_sends_379 ?_
                          refine z_bipush fx (v := 8) bp8 d12_sends_381 ?_
                          refine z_iadd fx d12_sends_383 ?_
                          obtain ⟨x87, e129, h⟩ := zinv h
                          have k130 : zZ zK1 X (zT0 Sh top) μ86 399 [(0, .ref o_), (1, .int v_p), (2, .int t2), (3, .int (bI b3)), (4, .int (bI b5)), (5, .int v_bits_54), (6, .int t56), (7, .int v_m_58)] [.int x87, .int (v_m_58 + 8), .ref o_] := by
                            obtain ⟨μ89, e133, h⟩ := zinv h
                            refine z_cVv fx (c12_puts (zLo X) (zDo X) Sh top hO o_ (v_m_58 + 8) x87 μ86 _ ho e133) mv12_puts ml12_310 ho rfl rfl rfl rfl d12_sends_399 ?_
                            refine z_aload_n fx (k := 0) (i := 0) rfl rfl d12_sends_402 ?_
                            refine z_iload fx (i := 7) rfl d12_sends_403 ?_
                            refine z_bipush fx (v := 9) bp9 d12_sends_405 ?_
                            refine z_iadd fx d12_sends_407 ?_
                            refine z_iload fx (i := 5) rfl d12_sends_408 ?_
                            obtain ⟨μ90, e134, h⟩ := zinv h
                            refine z_cVv fx (c12_puts (zLo X) (zDo X) Sh top hO o_ (v_m_58 + 9) v_bits_54 μ89 _ ho e134) mv12_puts ml12_310 ho rfl rfl rfl rfl d12_sends_410 ?_
                            cases h
                            exact z_return fx fin d12_sends_413
                          refine z_iload_n fx (k := 3) (i := 3) rfl rfl d12_sends_384 ?_
                          refine z_ifb_eq fx d12_sends_385 (fun c131 => ?_) (fun c131 => ?_)
                          · replace e129 := zif_f c131 e129
                            refine z_iconst fx (v := 0) ic0 d12_sends_398 ?_
                            cases e129
                            exact k130
                          · replace e129 := zif_t c131 e129
                            refine z_aload_n fx (k := 0) (i := 0) rfl rfl d12_sends_388 ?_
                            refine z_iload_n fx (k := 2) (i := 2) rfl rfl d12_sends_389 ?_
                            refine z_bipush fx (v := 6) bp6 d12_sends_390 ?_
                            obtain ⟨t88, e132, e129⟩ := zinv e129
                            refine z_cVr fx (c12_of (zLo X) (zDo X) Sh top hO o_ t2 6 μ86 _ ho e132) mv12_of ml12_319 ho rfl rfl rfl rfl d12_sends_392 ?_
                            cases e129
                            refine z_goto fx d12_sends_395 ?_
                            exact k130
                        refine z_iload_n fx (k := 3) (i := 3) rfl rfl d12_sends_357 ?_
                        refine z_ifb_eq fx d12_sends_358 (fun c125 => ?_) (fun c125 => ?_)
                        · replace e123 := zif_f c125 e123
                          refine z_aload_n fx (k := 0) (i := 0) rfl rfl d12_sends_368 ?_
                          refine z_iload_n fx (k := 1) (i := 1) rfl rfl d12_sends_369 ?_
                          refine z_bipush fx (v := 14) bp14 d12_sends_370 ?_
                          obtain ⟨t84, e126, e123⟩ := zinv e123
                          refine z_cVr fx (c12_portOf (zLo X) (zDo X) Sh top hO o_ v_p 14 μ82 _ ho e126) mv12_portOf ml12_334 ho rfl rfl rfl rfl d12_sends_372 ?_
                          cases e123
                          exact k124
                        · replace e123 := zif_t c125 e123
                          refine z_iload_n fx (k := 1) (i := 1) rfl rfl d12_sends_361 ?_
                          refine z_bipush fx (v := 6) bp6 d12_sends_362 ?_
                          obtain ⟨t85, e127, e123⟩ := zinv e123
                          refine z_irem fx e127 d12_sends_364 ?_
                          cases e123
                          refine z_goto fx d12_sends_365 ?_
                          exact k124
                      refine z_iload_n fx (k := 3) (i := 3) rfl rfl d12_sends_329 ?_
                      refine z_ifb_eq fx d12_sends_330 (fun c119 => ?_) (fun c119 => ?_)
                      · replace e117 := zif_f c119 e117
                        refine z_aload_n fx (k := 0) (i := 0) rfl rfl d12_sends_341 ?_
                        refine z_iload_n fx (k := 1) (i := 1) rfl rfl d12_sends_342 ?_
                        refine z_bipush fx (v := 13) bp13 d12_sends_343 ?_
                        obtain ⟨t80, e120, e117⟩ := zinv e117
                        refine z_cVr fx (c12_portOf (zLo X) (zDo X) Sh top hO o_ v_p 13 μ78 _ ho e120) mv12_portOf ml12_334 ho rfl rfl rfl rfl d12_sends_345 ?_
                        cases e117
                        exact k118
                      · replace e117 := zif_t c119 e117
                        refine z_aload_n fx (k := 0) (i := 0) rfl rfl d12_sends_333 ?_
                        refine z_iload_n fx (k := 2) (i := 2) rfl rfl d12_sends_334 ?_
                        obtain ⟨t81, e121, e117⟩ := zinv e117
                        refine z_cVr fx (c12_idOf (zLo X) (zDo X) Sh top hO o_ t2 μ78 _ ho e121) mv12_idOf ml12_337 ho rfl rfl rfl rfl d12_sends_335 ?_
                        cases e117
                        refine z_goto fx d12_sends_338 ?_
                        exact k118
                    refine z_iload_n fx (k := 3) (i := 3) rfl rfl d12_sends_300 ?_
                    refine z_ifb_eq fx d12_sends_301 (fun c113 => ?_) (fun c113 => ?_)
                    · replace e111 := zif_f c113 e111
                      refine z_aload_n fx (k := 0) (i := 0) rfl rfl d12_sends_313 ?_
                      refine z_iload_n fx (k := 1) (i := 1) rfl rfl d12_sends_314 ?_
                      refine z_bipush fx (v := 12) bp12 d12_sends_315 ?_
                      obtain ⟨t76, e114, e111⟩ := zinv e111
                      refine z_cVr fx (c12_portOf (zLo X) (zDo X) Sh top hO o_ v_p 12 μ74 _ ho e114) mv12_portOf ml12_334 ho rfl rfl rfl rfl d12_sends_317 ?_
                      cases e111
                      exact k112
                    · replace e111 := zif_t c113 e111
                      refine z_aload_n fx (k := 0) (i := 0) rfl rfl d12_sends_304 ?_
                      refine z_iload_n fx (k := 2) (i := 2) rfl rfl d12_sends_305 ?_
                      refine z_iconst fx (v := 4) ic4 d12_sends_306 ?_
                      obtain ⟨t77, e115, e111⟩ := zinv e111
                      refine z_cVr fx (c12_of (zLo X) (zDo X) Sh top hO o_ t2 4 μ74 _ ho e115) mv12_of ml12_319 ho rfl rfl rfl rfl d12_sends_307 ?_
                      cases e111
                      refine z_goto fx d12_sends_310 ?_
                      exact k112
                  refine z_iload_n fx (k := 3) (i := 3) rfl rfl d12_sends_272 ?_
                  refine z_ifb_eq fx d12_sends_273 (fun c107 => ?_) (fun c107 => ?_)
                  · replace e105 := zif_f c107 e105
                    refine z_aload_n fx (k := 0) (i := 0) rfl rfl d12_sends_285 ?_
                    refine z_iload_n fx (k := 1) (i := 1) rfl rfl d12_sends_286 ?_
                    refine z_bipush fx (v := 11) bp11 d12_sends_287 ?_
                    obtain ⟨t72, e108, e105⟩ := zinv e105
                    refine z_cVr fx (c12_portOf (zLo X) (zDo X) Sh top hO o_ v_p 11 μ70 _ ho e108) mv12_portOf ml12_334 ho rfl rfl rfl rfl d12_sends_289 ?_
                    cases e105
                    exact k106
                  · replace e105 := zif_t c107 e105
                    refine z_aload_n fx (k := 0) (i := 0) rfl rfl d12_sends_276 ?_
                    refine z_iload_n fx (k := 2) (i := 2) rfl rfl d12_sends_277 ?_
                    refine z_iconst fx (v := 3) ic3 d12_sends_278 ?_
                    obtain ⟨t73, e109, e105⟩ := zinv e105
                    refine z_cVr fx (c12_of (zLo X) (zDo X) Sh top hO o_ t2 3 μ70 _ ho e109) mv12_of ml12_319 ho rfl rfl rfl rfl d12_sends_279 ?_
                    cases e105
                    refine z_goto fx d12_sends_282 ?_
                    exact k106
                refine z_iload_n fx (k := 3) (i := 3) rfl rfl d12_sends_255 ?_
                refine z_ifb_eq fx d12_sends_256 (fun c103 => ?_) (fun c103 => ?_)
                · replace e101 := zif_f c103 e101
                  refine z_iconst fx (v := 1) ic1 d12_sends_263 ?_
                  cases e101
                  exact k102
                · replace e101 := zif_t c103 e101
                  refine z_iconst fx (v := 0) ic0 d12_sends_259 ?_
                  cases e101
                  refine z_goto fx d12_sends_260 ?_
                  exact k102
              clear h
              refine z_aload_n fx (k := 0) (i := 0) rfl rfl d12_sends_105 ?_
              refine z_iload_n fx (k := 1) (i := 1) rfl rfl d12_sends_106 ?_
              refine z_bipush fx (v := 8) bp8 d12_sends_107 ?_
              obtain ⟨t91, e135, e85⟩ := zinv e85
              refine z_cVr fx (c12_portOf (zLo X) (zDo X) Sh top hO o_ v_p 8 μ1 _ ho e135) mv12_portOf ml12_334 ho rfl rfl rfl rfl d12_sends_109 ?_
              refine z_iconst fx (v := 1) ic1 d12_sends_112 ?_
              refine z_icmp_ne fx d12_sends_113 (fun c136 => ?_) (fun c136 => ?_)
              · replace e85 := zif_f c136 e85
                cases e85
                exact k86
              · replace e85 := zif_t c136 e85
                obtain ⟨v_bits_92, e137, e85⟩ := zinv e85
                replace e137 := Option.some.inj e137
                refine z_iinc fx (i := 5) (x := v_bits_53) (v := v_bits_92) rfl (by rw [in8]; exact e137) rfl (lv' := [(0, .ref o_), (1, .int v_p), (2, .int t2), (3, .int (bI b3)), (4, .int (bI b5)), (5, .int v_bits_92)]) rfl rfl d12_sends_116 ?_
                cases e85
                exact k86
            clear h
            obtain ⟨b93, e139, e83⟩ := zinv e83
            have kt138 : b93 = true → zZ zK1 X (zT0 Sh top) μ1 102 [(0, .ref o_), (1, .int v_p), (2, .int t2), (3, .int (bI b3)), (4, .int (bI b5)), (5, .int v_bits_12)] [] := by
              intro hc
              replace e83 := zif_t hc e83
              obtain ⟨v_bits_94, e140, e83⟩ := zinv e83
              replace e140 := Option.some.inj e140
              refine z_iinc fx (i := 5) (x := v_bits_12) (v := v_bits_94) rfl (by rw [in1]; exact e140) rfl (lv' := [(0, .ref o_), (1, .int v_p), (2, .int t2), (3, .int (bI b3)), (4, .int (bI b5)), (5, .int v_bits_94)]) rfl rfl d12_sends_102 ?_
              cases e83
              exact k84
            have kf138 : b93 = false → zZ zK1 X (zT0 Sh top) μ1 105 [(0, .ref o_), (1, .int v_p), (2, .int t2), (3, .int (bI b3)), (4, .int (bI b5)), (5, .int v_bits_12)] [] := by
              intro hc
              replace e83 := zif_f hc e83
              cases e83
              exact k84
            clear e83
            refine z_iload fx (i := 4) rfl d12_sends_87 ?_
            refine z_ifb_eq fx d12_sends_89 (fun c141 => ?_) (fun c141 => ?_)
            · replace e139 := zif_f c141 e139
              cases e139
              exact kf138 rfl
            · replace e139 := zif_t c141 e139
              refine z_aload_n fx (k := 0) (i := 0) rfl rfl d12_sends_92 ?_
              refine z_iload_n fx (k := 1) (i := 1) rfl rfl d12_sends_93 ?_
              refine z_iconst fx (v := 1) ic1 d12_sends_94 ?_
              obtain ⟨t95, e142, e139⟩ := zinv e139
              refine z_cVr fx (c12_portOf (zLo X) (zDo X) Sh top hO o_ v_p 1 μ1 _ ho e142) mv12_portOf ml12_334 ho rfl rfl rfl rfl d12_sends_95 ?_
              refine z_iconst fx (v := 2) ic2 d12_sends_98 ?_
              cases e139
              refine z_icmp_eq fx d12_sends_99 (fun c143 => ?_) (fun c143 => ?_)
              · exact kf138 (by rw [c143]; rfl)
              · exact kt138 (by rw [c143]; rfl)
        refine z_aload_n fx (k := 0) (i := 0) rfl rfl d12_sends_66 ?_
        refine z_iload_n fx (k := 1) (i := 1) rfl rfl d12_sends_67 ?_
        refine z_iconst fx (v := 3) ic3 d12_sends_68 ?_
        obtain ⟨t11, e22, e20⟩ := zinv e20
        refine z_cVr fx (c12_portOf (zLo X) (zDo X) Sh top hO o_ v_p 3 μ1 _ ho e22) mv12_portOf ml12_334 ho rfl rfl rfl rfl d12_sends_69 ?_
        refine z_if_eq fx d12_sends_72 (fun c23 => ?_) (fun c23 => ?_)
        · replace e20 := zif_t c23 e20
          refine z_iconst fx (v := 0) ic0 d12_sends_79 ?_
          cases e20
          exact k21
        · replace e20 := zif_f c23 e20
          refine z_iconst fx (v := 4) ic4 d12_sends_75 ?_
          cases e20
          refine z_goto fx d12_sends_76 ?_
          exact k21
      refine z_iload fx (i := 4) rfl d12_sends_55 ?_
      refine z_ifb_eq fx d12_sends_57 (fun c19 => ?_) (fun c19 => ?_)
      · replace e17 := zif_f c19 e17
        refine z_bipush fx (v := 16) bp16 d12_sends_64 ?_
        cases e17
        exact k18
      · replace e17 := zif_t c19 e17
        refine z_iconst fx (v := 0) ic0 d12_sends_60 ?_
        cases e17
        refine z_goto fx d12_sends_61 ?_
        exact k18
    have kt10 : b5 = true → zZ zK1 X (zT0 Sh top) μ1 48 [(0, .ref o_), (1, .int v_p), (2, .int t2), (3, .int (bI b3))] [] := by
      intro hc
      refine z_iconst fx (v := 1) ic1 d12_sends_48 ?_
      refine z_goto fx d12_sends_49 ?_
      exact z_top (congrArg Value.int (show 1 = bI b5 by rw [hc]; rfl)) k9
    have kf10 : b5 = false → zZ zK1 X (zT0 Sh top) μ1 52 [(0, .ref o_), (1, .int v_p), (2, .int t2), (3, .int (bI b3))] [] := by
      intro hc
      refine z_iconst fx (v := 0) ic0 d12_sends_52 ?_
      exact z_top (congrArg Value.int (show 0 = bI b5 by rw [hc]; rfl)) k9
    obtain ⟨b6, e11, e8⟩ := zinv e8
    have kt12 : b6 = true → zZ zK1 X (zT0 Sh top) μ1 39 [(0, .ref o_), (1, .int v_p), (2, .int t2), (3, .int (bI b3))] [] := by
      intro hc
      replace e8 := zif_t hc e8
      refine z_aload_n fx (k := 0) (i := 0) rfl rfl d12_sends_39 ?_
      refine z_iload_n fx (k := 2) (i := 2) rfl rfl d12_sends_40 ?_
      refine z_iconst fx (v := 2) ic2 d12_sends_41 ?_
      obtain ⟨t7, e13, e8⟩ := zinv e8
      refine z_cVr fx (c12_of (zLo X) (zDo X) Sh top hO o_ t2 2 μ1 _ ho e13) mv12_of ml12_319 ho rfl rfl rfl rfl d12_sends_42 ?_
      cases e8
      refine z_if_ne fx d12_sends_45 (fun c14 => ?_) (fun c14 => ?_)
      · exact kf10 c14
      · exact kt10 c14
    have kf12 : b6 = false → zZ zK1 X (zT0 Sh top) μ1 52 [(0, .ref o_), (1, .int v_p), (2, .int t2), (3, .int (bI b3))] [] := by
      intro hc
      replace e8 := zif_f hc e8
      cases e8
      exact kf10 rfl
    clear e8
    refine z_aload_n fx (k := 0) (i := 0) rfl rfl d12_sends_29 ?_
    refine z_iload_n fx (k := 1) (i := 1) rfl rfl d12_sends_30 ?_
    refine z_bipush fx (v := 6) bp6 d12_sends_31 ?_
    obtain ⟨t8, e15, e11⟩ := zinv e11
    refine z_cVr fx (c12_portOf (zLo X) (zDo X) Sh top hO o_ v_p 6 μ1 _ ho e15) mv12_portOf ml12_334 ho rfl rfl rfl rfl d12_sends_33 ?_
    cases e11
    refine z_if_ne fx d12_sends_36 (fun c16 => ?_) (fun c16 => ?_)
    · exact kf12 c16
    · exact kt12 c16
  have kt5 : b3 = true → zZ zK1 X (zT0 Sh top) μ1 23 [(0, .ref o_), (1, .int v_p), (2, .int t2)] [] := by
    intro hc
    refine z_iconst fx (v := 1) ic1 d12_sends_23 ?_
    refine z_goto fx d12_sends_24 ?_
    exact z_top (congrArg Value.int (show 1 = bI b3 by rw [hc]; rfl)) k4
  have kf5 : b3 = false → zZ zK1 X (zT0 Sh top) μ1 27 [(0, .ref o_), (1, .int v_p), (2, .int t2)] [] := by
    intro hc
    refine z_iconst fx (v := 0) ic0 d12_sends_27 ?_
    exact z_top (congrArg Value.int (show 0 = bI b3 by rw [hc]; rfl)) k4
  refine z_aload_n fx (k := 0) (i := 0) rfl rfl d12_sends_13 ?_
  refine z_iload_n fx (k := 1) (i := 1) rfl rfl d12_sends_14 ?_
  refine z_iconst fx (v := 0) ic0 d12_sends_15 ?_
  obtain ⟨t4, e6, e3⟩ := zinv e3
  refine z_cVr fx (c12_portOf (zLo X) (zDo X) Sh top hO o_ v_p 0 μ1 _ ho e6) mv12_portOf ml12_334 ho rfl rfl rfl rfl d12_sends_16 ?_
  refine z_iconst fx (v := 2) ic2 d12_sends_19 ?_
  cases e3
  refine z_icmp_ne fx d12_sends_20 (fun c7 => ?_) (fun c7 => ?_)
  · exact kf5 c7
  · exact kt5 c7
theorem d12_hasBit_0 : zd cX12_hasBit 0 (.iload_n 0) 1 1 := by decide +kernel
theorem d12_hasBit_1 : zd cX12_hasBit 1 (.iload_n 1) 1 2 := by decide +kernel
theorem d12_hasBit_2 : zd cX12_hasBit 2 (.iand) 1 3 := by decide +kernel
theorem d12_hasBit_3 : zj cX12_hasBit 3 (.ifCond .eq 7) 7 6 10 := by decide +kernel
theorem d12_hasBit_6 : zd cX12_hasBit 6 (.iconst 1) 1 7 := by decide +kernel
theorem d12_hasBit_7 : zj cX12_hasBit 7 (.goto 4) 4 10 11 := by decide +kernel
theorem d12_hasBit_10 : zd cX12_hasBit 10 (.iconst 0) 1 11 := by decide +kernel
theorem d12_hasBit_11 : zd cX12_hasBit 11 (.ireturn) 1 12 := by decide +kernel
set_option maxHeartbeats 4000000 in
set_option maxRecDepth 20000 in
theorem c12_hasBit (l : Launch) (D : zDt) (Sh : zSh) (top : Nat) (hO : zOK Sh) (v_bits : Int32) (v_bit : Int32) (μ : zM) (r_ : Bool)  (h : f12_hasBit v_bits v_bit μ = some r_) : zMet l D zK1 yX12_hasBit cX12_hasBit 2 (some .boolean) (zrm 0 0) [.int v_bits, .int v_bit] Sh top μ (some (.int (bI r_))) Sh top μ 0 0 := by
  refine zMet_of (by decide) (Nat.le_of_ble_eq_true rfl) fun X hX1 hX2 fx fin => ?_
  subst hX1; subst hX2
  replace fx : zFix X cX12_hasBit RX12 (zrm 0 0) 2 := fx
  show zZ zK1 X (zT0 Sh top) μ 0 [(0, .int v_bits), (1, .int v_bit)] []
  unfold f12_hasBit at h
  obtain ⟨b1, e1, h⟩ := zinv h
  replace e1 := Option.some.inj e1
  have k2 : zZ zK1 X (zT0 Sh top) μ 11 [(0, .int v_bits), (1, .int v_bit)] [.int (bI b1)] := by
    cases h
    exact z_zreturn fx fin d12_hasBit_11
  refine z_iload_n fx (k := 0) (i := 0) rfl rfl d12_hasBit_0 ?_
  refine z_iload_n fx (k := 1) (i := 1) rfl rfl d12_hasBit_1 ?_
  refine z_iand fx d12_hasBit_2 ?_
  refine z_if_eq fx d12_hasBit_3 (fun c3 => ?_) (fun c3 => ?_)
  · refine z_iconst fx (v := 0) ic0 d12_hasBit_10 ?_
    exact z_top (congrArg Value.int (show 0 = bI b1 by rw [← e1]; simp [c3, bI])) k2
  · refine z_iconst fx (v := 1) ic1 d12_hasBit_6 ?_
    refine z_goto fx d12_hasBit_7 ?_
    exact z_top (congrArg Value.int (show 1 = bI b1 by rw [← e1]; simp [c3, bI])) k2
theorem d12_readsReply_0 : zd cX12_readsReply 0 (.aload_n 0) 1 1 := by decide +kernel
theorem d12_readsReply_1 : zd cX12_readsReply 1 (.iload_n 2) 1 2 := by decide +kernel
theorem d12_readsReply_2 : zd cX12_readsReply 2 (.iconst 0) 1 3 := by decide +kernel
theorem d12_readsReply_3 : zd cX12_readsReply 3 (.invokevirtual 334) 3 6 := by decide +kernel
theorem d12_readsReply_6 : zd cX12_readsReply 6 (.iconst 2) 1 7 := by decide +kernel
theorem d12_readsReply_7 : zj cX12_readsReply 7 (.if_icmp .eq 4) 4 10 11 := by decide +kernel
theorem d12_readsReply_10 : zd cX12_readsReply 10 (.return_) 1 11 := by decide +kernel
theorem d12_readsReply_11 : zd cX12_readsReply 11 (.iload_n 2) 1 12 := by decide +kernel
theorem d12_readsReply_12 : zd cX12_readsReply 12 (.bipush 6) 2 14 := by decide +kernel
theorem d12_readsReply_14 : zd cX12_readsReply 14 (.idiv) 1 15 := by decide +kernel
theorem d12_readsReply_15 : zd cX12_readsReply 15 (.istore 4) 2 17 := by decide +kernel
theorem d12_readsReply_17 : zd cX12_readsReply 17 (.aload_n 0) 1 18 := by decide +kernel
theorem d12_readsReply_18 : zd cX12_readsReply 18 (.iload_n 1) 1 19 := by decide +kernel
theorem d12_readsReply_19 : zd cX12_readsReply 19 (.iconst 4) 1 20 := by decide +kernel
theorem d12_readsReply_20 : zd cX12_readsReply 20 (.invokevirtual 366) 3 23 := by decide +kernel
theorem d12_readsReply_23 : zd cX12_readsReply 23 (.aload_n 0) 1 24 := by decide +kernel
theorem d12_readsReply_24 : zd cX12_readsReply 24 (.iload 4) 2 26 := by decide +kernel
theorem d12_readsReply_26 : zd cX12_readsReply 26 (.iconst 3) 1 27 := by decide +kernel
theorem d12_readsReply_27 : zd cX12_readsReply 27 (.invokevirtual 319) 3 30 := by decide +kernel
theorem d12_readsReply_30 : zj cX12_readsReply 30 (.if_icmp .ne 53) 53 33 83 := by decide +kernel
theorem d12_readsReply_33 : zd cX12_readsReply 33 (.aload_n 0) 1 34 := by decide +kernel
theorem d12_readsReply_34 : zd cX12_readsReply 34 (.iload_n 1) 1 35 := by decide +kernel
theorem d12_readsReply_35 : zd cX12_readsReply 35 (.iconst 5) 1 36 := by decide +kernel
theorem d12_readsReply_36 : zd cX12_readsReply 36 (.invokevirtual 366) 3 39 := by decide +kernel
theorem d12_readsReply_39 : zd cX12_readsReply 39 (.aload_n 0) 1 40 := by decide +kernel
theorem d12_readsReply_40 : zd cX12_readsReply 40 (.iload 4) 2 42 := by decide +kernel
theorem d12_readsReply_42 : zd cX12_readsReply 42 (.iconst 4) 1 43 := by decide +kernel
theorem d12_readsReply_43 : zd cX12_readsReply 43 (.invokevirtual 319) 3 46 := by decide +kernel
theorem d12_readsReply_46 : zj cX12_readsReply 46 (.if_icmp .ne 37) 37 49 83 := by decide +kernel
theorem d12_readsReply_49 : zd cX12_readsReply 49 (.aload_n 0) 1 50 := by decide +kernel
theorem d12_readsReply_50 : zd cX12_readsReply 50 (.iload_n 1) 1 51 := by decide +kernel
theorem d12_readsReply_51 : zd cX12_readsReply 51 (.bipush 6) 2 53 := by decide +kernel
theorem d12_readsReply_53 : zd cX12_readsReply 53 (.invokevirtual 366) 3 56 := by decide +kernel
theorem d12_readsReply_56 : zd cX12_readsReply 56 (.aload_n 0) 1 57 := by decide +kernel
theorem d12_readsReply_57 : zd cX12_readsReply 57 (.iload 4) 2 59 := by decide +kernel
theorem d12_readsReply_59 : zd cX12_readsReply 59 (.invokevirtual 337) 3 62 := by decide +kernel
theorem d12_readsReply_62 : zj cX12_readsReply 62 (.if_icmp .ne 21) 21 65 83 := by decide +kernel
theorem d12_readsReply_65 : zd cX12_readsReply 65 (.aload_n 0) 1 66 := by decide +kernel
theorem d12_readsReply_66 : zd cX12_readsReply 66 (.iload_n 1) 1 67 := by decide +kernel
theorem d12_readsReply_67 : zd cX12_readsReply 67 (.bipush 7) 2 69 := by decide +kernel
theorem d12_readsReply_69 : zd cX12_readsReply 69 (.invokevirtual 366) 3 72 := by decide +kernel
theorem d12_readsReply_72 : zd cX12_readsReply 72 (.iload_n 2) 1 73 := by decide +kernel
theorem d12_readsReply_73 : zd cX12_readsReply 73 (.bipush 6) 2 75 := by decide +kernel
theorem d12_readsReply_75 : zd cX12_readsReply 75 (.irem) 1 76 := by decide +kernel
theorem d12_readsReply_76 : zj cX12_readsReply 76 (.if_icmp .ne 7) 7 79 83 := by decide +kernel
theorem d12_readsReply_79 : zd cX12_readsReply 79 (.iconst 1) 1 80 := by decide +kernel
theorem d12_readsReply_80 : zj cX12_readsReply 80 (.goto 4) 4 83 84 := by decide +kernel
theorem d12_readsReply_83 : zd cX12_readsReply 83 (.iconst 0) 1 84 := by decide +kernel
theorem d12_readsReply_84 : zd cX12_readsReply 84 (.istore 5) 2 86 := by decide +kernel
theorem d12_readsReply_86 : zd cX12_readsReply 86 (.iload_n 3) 1 87 := by decide +kernel
theorem d12_readsReply_87 : zd cX12_readsReply 87 (.iconst 2) 1 88 := by decide +kernel
theorem d12_readsReply_88 : zd cX12_readsReply 88 (.invokestatic 425) 3 91 := by decide +kernel
theorem d12_readsReply_91 : zj cX12_readsReply 91 (.ifCond .eq 20) 20 94 111 := by decide +kernel
theorem d12_readsReply_94 : zd cX12_readsReply 94 (.iload 5) 2 96 := by decide +kernel
theorem d12_readsReply_96 : zj cX12_readsReply 96 (.ifCond .eq 15) 15 99 111 := by decide +kernel
theorem d12_readsReply_99 : zd cX12_readsReply 99 (.aload_n 0) 1 100 := by decide +kernel
theorem d12_readsReply_100 : zd cX12_readsReply 100 (.iload_n 2) 1 101 := by decide +kernel
theorem d12_readsReply_101 : zd cX12_readsReply 101 (.iconst 4) 1 102 := by decide +kernel
theorem d12_readsReply_102 : zd cX12_readsReply 102 (.iconst 1) 1 103 := by decide +kernel
theorem d12_readsReply_103 : zd cX12_readsReply 103 (.invokevirtual 344) 3 106 := by decide +kernel
theorem d12_readsReply_106 : zd cX12_readsReply 106 (.aload_n 0) 1 107 := by decide +kernel
theorem d12_readsReply_107 : zd cX12_readsReply 107 (.iload_n 2) 1 108 := by decide +kernel
theorem d12_readsReply_108 : zd cX12_readsReply 108 (.invokevirtual 416) 3 111 := by decide +kernel
theorem d12_readsReply_111 : zd cX12_readsReply 111 (.iload_n 3) 1 112 := by decide +kernel
theorem d12_readsReply_112 : zd cX12_readsReply 112 (.iconst 4) 1 113 := by decide +kernel
theorem d12_readsReply_113 : zd cX12_readsReply 113 (.invokestatic 425) 3 116 := by decide +kernel
theorem d12_readsReply_116 : zj cX12_readsReply 116 (.ifCond .ne 4) 4 119 120 := by decide +kernel
theorem d12_readsReply_119 : zd cX12_readsReply 119 (.return_) 1 120 := by decide +kernel
theorem d12_readsReply_120 : zd cX12_readsReply 120 (.aload_n 0) 1 121 := by decide +kernel
theorem d12_readsReply_121 : zd cX12_readsReply 121 (.iload_n 2) 1 122 := by decide +kernel
theorem d12_readsReply_122 : zd cX12_readsReply 122 (.invokevirtual 357) 3 125 := by decide +kernel
theorem d12_readsReply_125 : zd cX12_readsReply 125 (.iload_n 3) 1 126 := by decide +kernel
theorem d12_readsReply_126 : zd cX12_readsReply 126 (.bipush 16) 2 128 := by decide +kernel
theorem d12_readsReply_128 : zd cX12_readsReply 128 (.invokestatic 425) 3 131 := by decide +kernel
theorem d12_readsReply_131 : zj cX12_readsReply 131 (.ifCond .ne 4) 4 134 135 := by decide +kernel
theorem d12_readsReply_134 : zd cX12_readsReply 134 (.return_) 1 135 := by decide +kernel
theorem d12_readsReply_135 : zd cX12_readsReply 135 (.aload_n 0) 1 136 := by decide +kernel
theorem d12_readsReply_136 : zd cX12_readsReply 136 (.iload_n 2) 1 137 := by decide +kernel
theorem d12_readsReply_137 : zd cX12_readsReply 137 (.bipush 8) 2 139 := by decide +kernel
theorem d12_readsReply_139 : zd cX12_readsReply 139 (.iconst 1) 1 140 := by decide +kernel
theorem d12_readsReply_140 : zd cX12_readsReply 140 (.invokevirtual 344) 3 143 := by decide +kernel
theorem d12_readsReply_143 : zd cX12_readsReply 143 (.aload_n 0) 1 144 := by decide +kernel
theorem d12_readsReply_144 : zd cX12_readsReply 144 (.iload_n 2) 1 145 := by decide +kernel
theorem d12_readsReply_145 : zd cX12_readsReply 145 (.bipush 9) 2 147 := by decide +kernel
theorem d12_readsReply_147 : zd cX12_readsReply 147 (.iconst 1) 1 148 := by decide +kernel
theorem d12_readsReply_148 : zd cX12_readsReply 148 (.invokevirtual 344) 3 151 := by decide +kernel
theorem d12_readsReply_151 : zd cX12_readsReply 151 (.return_) 1 152 := by decide +kernel
set_option maxHeartbeats 4000000 in
set_option maxRecDepth 20000 in
theorem c12_readsReply (l : Launch) (D : zDt) (Sh : zSh) (top : Nat) (hO : zOK Sh) (o_ : Nat) (v_k : Int32) (v_p : Int32) (v_bits : Int32) (μ : zM) (μ_ : zM) (ho : (Sh o_).1 = 19) (h : f12_readsReply o_ v_k v_p v_bits μ = some μ_) : zMet l D zK1 yX12_readsReply cX12_readsReply 6 none (zrm 4 90) [.ref o_, .int v_k, .int v_p, .int v_bits] Sh top μ none Sh top μ_ 0 0 := by
  refine zMet_of (by decide) (Nat.le_of_ble_eq_true rfl) fun X hX1 hX2 fx fin => ?_
  subst hX1; subst hX2
  replace fx : zFix X cX12_readsReply RX12 (zrm 4 90) 6 := fx
  show zZ zK1 X (zT0 Sh top) μ 0 [(0, .ref o_), (1, .int v_k), (2, .int v_p), (3, .int v_bits)] []
  unfold f12_readsReply at h
  refine z_aload_n fx (k := 0) (i := 0) rfl rfl d12_readsReply_0 ?_
  refine z_iload_n fx (k := 2) (i := 2) rfl rfl d12_readsReply_1 ?_
  refine z_iconst fx (v := 0) ic0 d12_readsReply_2 ?_
  obtain ⟨t1, e1, h⟩ := zinv h
  refine z_cVr fx (c12_portOf (zLo X) (zDo X) Sh top hO o_ v_p 0 μ _ ho e1) mv12_portOf ml12_334 ho rfl rfl rfl rfl d12_readsReply_3 ?_
  refine z_iconst fx (v := 2) ic2 d12_readsReply_6 ?_
  refine z_icmp_eq fx d12_readsReply_7 (fun c2 => ?_) (fun c2 => ?_)
  · replace h := zif_t c2 h
    refine z_iload_n fx (k := 2) (i := 2) rfl rfl d12_readsReply_11 ?_
    refine z_bipush fx (v := 6) bp6 d12_readsReply_12 ?_
    obtain ⟨t2, e3, h⟩ := zinv h
    refine z_idiv fx e3 d12_readsReply_14 ?_
    refine z_istore fx (i := 4) rfl (lv' := [(0, .ref o_), (1, .int v_k), (2, .int v_p), (3, .int v_bits), (4, .int t2)]) rfl rfl d12_readsReply_15 ?_
    obtain ⟨b3, e4, h⟩ := zinv h
    have k5 : zZ zK1 X (zT0 Sh top) μ 84 [(0, .ref o_), (1, .int v_k), (2, .int v_p), (3, .int v_bits), (4, .int t2)] [.int (bI b3)] := by
      refine z_istore fx (i := 5) rfl (lv' := [(0, .ref o_), (1, .int v_k), (2, .int v_p), (3, .int v_bits), (4, .int t2), (5, .int (bI b3))]) rfl rfl d12_readsReply_84 ?_
      obtain ⟨μ15, e25, h⟩ := zinv h
      have k26 : zZ zK1 X (zT0 Sh top) μ15 111 [(0, .ref o_), (1, .int v_k), (2, .int v_p), (3, .int v_bits), (4, .int t2), (5, .int (bI b3))] [] := by
        refine z_iload_n fx (k := 3) (i := 3) rfl rfl d12_readsReply_111 ?_
        refine z_iconst fx (v := 4) ic4 d12_readsReply_112 ?_
        obtain ⟨t16, e27, h⟩ := zinv h
        refine z_cSr fx (c12_hasBit (zLo X) (zDo X) Sh top hO v_bits 4 μ15 _  e27) ms12_hasBit ml12_425 rfl rfl rfl rfl d12_readsReply_113 ?_
        refine z_ifb_ne fx d12_readsReply_116 (fun c28 => ?_) (fun c28 => ?_)
        · replace h := zif_t c28 h
          refine z_aload_n fx (k := 0) (i := 0) rfl rfl d12_readsReply_120 ?_
          refine z_iload_n fx (k := 2) (i := 2) rfl rfl d12_readsReply_121 ?_
          obtain ⟨μ17, e29, h⟩ := zinv h
          refine z_cVv fx (c12_spreads (zLo X) (zDo X) Sh top hO o_ v_p μ15 _ ho e29) mv12_spreads ml12_357 ho rfl rfl rfl rfl d12_readsReply_122 ?_
          refine z_iload_n fx (k := 3) (i := 3) rfl rfl d12_readsReply_125 ?_
          refine z_bipush fx (v := 16) bp16 d12_readsReply_126 ?_
          obtain ⟨t18, e30, h⟩ := zinv h
          refine z_cSr fx (c12_hasBit (zLo X) (zDo X) Sh top hO v_bits 16 μ17 _  e30) ms12_hasBit ml12_425 rfl rfl rfl rfl d12_readsReply_128 ?_
          refine z_ifb_ne fx d12_readsReply_131 (fun c31 => ?_) (fun c31 => ?_)
          · replace h := zif_t c31 h
            refine z_aload_n fx (k := 0) (i := 0) rfl rfl d12_readsReply_135 ?_
            refine z_iload_n fx (k := 2) (i := 2) rfl rfl d12_readsReply_136 ?_
            refine z_bipush fx (v := 8) bp8 d12_readsReply_137 ?_
            refine z_iconst fx (v := 1) ic1 d12_readsReply_139 ?_
            obtain ⟨μ19, e32, h⟩ := zinv h
            refine z_cVv fx (c12_sets (zLo X) (zDo X) Sh top hO o_ v_p 8 1 μ17 _ ho e32) mv12_sets ml12_344 ho rfl rfl rfl rfl d12_readsReply_140 ?_
            refine z_aload_n fx (k := 0) (i := 0) rfl rfl d12_readsReply_143 ?_
            refine z_iload_n fx (k := 2) (i := 2) rfl rfl d12_readsReply_144 ?_
            refine z_bipush fx (v := 9) bp9 d12_readsReply_145 ?_
            refine z_iconst fx (v := 1) ic1 d12_readsReply_147 ?_
            obtain ⟨μ20, e33, h⟩ := zinv h
            refine z_cVv fx (c12_sets (zLo X) (zDo X) Sh top hO o_ v_p 9 1 μ19 _ ho e33) mv12_sets ml12_344 ho rfl rfl rfl rfl d12_readsReply_148 ?_
            cases h
            exact z_return fx fin d12_readsReply_151
          · replace h := zif_f c31 h
            cases h
            exact z_return fx fin d12_readsReply_134
        · replace h := zif_f c28 h
          cases h
          exact z_return fx fin d12_readsReply_119
      clear h
      obtain ⟨b21, e35, e25⟩ := zinv e25
      have kt34 : b21 = true → zZ zK1 X (zT0 Sh top) μ 99 [(0, .ref o_), (1, .int v_k), (2, .int v_p), (3, .int v_bits), (4, .int t2), (5, .int (bI b3))] [] := by
        intro hc
        replace e25 := zif_t hc e25
        refine z_aload_n fx (k := 0) (i := 0) rfl rfl d12_readsReply_99 ?_
        refine z_iload_n fx (k := 2) (i := 2) rfl rfl d12_readsReply_100 ?_
        refine z_iconst fx (v := 4) ic4 d12_readsReply_101 ?_
        refine z_iconst fx (v := 1) ic1 d12_readsReply_102 ?_
        obtain ⟨μ22, e36, e25⟩ := zinv e25
        refine z_cVv fx (c12_sets (zLo X) (zDo X) Sh top hO o_ v_p 4 1 μ _ ho e36) mv12_sets ml12_344 ho rfl rfl rfl rfl d12_readsReply_103 ?_
        refine z_aload_n fx (k := 0) (i := 0) rfl rfl d12_readsReply_106 ?_
        refine z_iload_n fx (k := 2) (i := 2) rfl rfl d12_readsReply_107 ?_
        obtain ⟨μ23, e37, e25⟩ := zinv e25
        refine z_cVv fx (c12_opens (zLo X) (zDo X) Sh top hO o_ v_p μ22 _ ho e37) mv12_opens ml12_416 ho rfl rfl rfl rfl d12_readsReply_108 ?_
        cases e25
        exact k26
      have kf34 : b21 = false → zZ zK1 X (zT0 Sh top) μ 111 [(0, .ref o_), (1, .int v_k), (2, .int v_p), (3, .int v_bits), (4, .int t2), (5, .int (bI b3))] [] := by
        intro hc
        replace e25 := zif_f hc e25
        cases e25
        exact k26
      clear e25
      obtain ⟨b24, e38, e35⟩ := zinv e35
      have kt39 : b24 = true → zZ zK1 X (zT0 Sh top) μ 94 [(0, .ref o_), (1, .int v_k), (2, .int v_p), (3, .int v_bits), (4, .int t2), (5, .int (bI b3))] [] := by
        intro hc
        replace e35 := zif_t hc e35
        refine z_iload fx (i := 5) rfl d12_readsReply_94 ?_
        cases e35
        refine z_ifb_eq fx d12_readsReply_96 (fun c40 => ?_) (fun c40 => ?_)
        · exact kf34 c40
        · exact kt34 c40
      have kf39 : b24 = false → zZ zK1 X (zT0 Sh top) μ 111 [(0, .ref o_), (1, .int v_k), (2, .int v_p), (3, .int v_bits), (4, .int t2), (5, .int (bI b3))] [] := by
        intro hc
        replace e35 := zif_f hc e35
        cases e35
        exact kf34 rfl
      clear e35
      refine z_iload_n fx (k := 3) (i := 3) rfl rfl d12_readsReply_86 ?_
      refine z_iconst fx (v := 2) ic2 d12_readsReply_87 ?_
      obtain ⟨t25, e41, e38⟩ := zinv e38
      refine z_cSr fx (c12_hasBit (zLo X) (zDo X) Sh top hO v_bits 2 μ _  e41) ms12_hasBit ml12_425 rfl rfl rfl rfl d12_readsReply_88 ?_
      cases e38
      refine z_ifb_eq fx d12_readsReply_91 (fun c42 => ?_) (fun c42 => ?_)
      · exact kf39 c42
      · exact kt39 c42
    have kt6 : b3 = true → zZ zK1 X (zT0 Sh top) μ 79 [(0, .ref o_), (1, .int v_k), (2, .int v_p), (3, .int v_bits), (4, .int t2)] [] := by
      intro hc
      refine z_iconst fx (v := 1) ic1 d12_readsReply_79 ?_
      refine z_goto fx d12_readsReply_80 ?_
      exact z_top (congrArg Value.int (show 1 = bI b3 by rw [hc]; rfl)) k5
    have kf6 : b3 = false → zZ zK1 X (zT0 Sh top) μ 83 [(0, .ref o_), (1, .int v_k), (2, .int v_p), (3, .int v_bits), (4, .int t2)] [] := by
      intro hc
      refine z_iconst fx (v := 0) ic0 d12_readsReply_83 ?_
      exact z_top (congrArg Value.int (show 0 = bI b3 by rw [hc]; rfl)) k5
    obtain ⟨b4, e7, e4⟩ := zinv e4
    have kt8 : b4 = true → zZ zK1 X (zT0 Sh top) μ 65 [(0, .ref o_), (1, .int v_k), (2, .int v_p), (3, .int v_bits), (4, .int t2)] [] := by
      intro hc
      replace e4 := zif_t hc e4
      refine z_aload_n fx (k := 0) (i := 0) rfl rfl d12_readsReply_65 ?_
      refine z_iload_n fx (k := 1) (i := 1) rfl rfl d12_readsReply_66 ?_
      refine z_bipush fx (v := 7) bp7 d12_readsReply_67 ?_
      obtain ⟨t5, e9, e4⟩ := zinv e4
      refine z_cVr fx (c12_msg (zLo X) (zDo X) Sh top hO o_ v_k 7 μ _ ho e9) mv12_msg ml12_366 ho rfl rfl rfl rfl d12_readsReply_69 ?_
      refine z_iload_n fx (k := 2) (i := 2) rfl rfl d12_readsReply_72 ?_
      refine z_bipush fx (v := 6) bp6 d12_readsReply_73 ?_
      obtain ⟨t6, e10, e4⟩ := zinv e4
      refine z_irem fx e10 d12_readsReply_75 ?_
      cases e4
      refine z_icmp_ne fx d12_readsReply_76 (fun c11 => ?_) (fun c11 => ?_)
      · exact kf6 c11
      · exact kt6 c11
    have kf8 : b4 = false → zZ zK1 X (zT0 Sh top) μ 83 [(0, .ref o_), (1, .int v_k), (2, .int v_p), (3, .int v_bits), (4, .int t2)] [] := by
      intro hc
      replace e4 := zif_f hc e4
      cases e4
      exact kf6 rfl
    clear e4
    obtain ⟨b7, e12, e7⟩ := zinv e7
    have kt13 : b7 = true → zZ zK1 X (zT0 Sh top) μ 49 [(0, .ref o_), (1, .int v_k), (2, .int v_p), (3, .int v_bits), (4, .int t2)] [] := by
      intro hc
      replace e7 := zif_t hc e7
      refine z_aload_n fx (k := 0) (i := 0) rfl rfl d12_readsReply_49 ?_
      refine z_iload_n fx (k := 1) (i := 1) rfl rfl d12_readsReply_50 ?_
      refine z_bipush fx (v := 6) bp6 d12_readsReply_51 ?_
      obtain ⟨t8, e14, e7⟩ := zinv e7
      refine z_cVr fx (c12_msg (zLo X) (zDo X) Sh top hO o_ v_k 6 μ _ ho e14) mv12_msg ml12_366 ho rfl rfl rfl rfl d12_readsReply_53 ?_
      refine z_aload_n fx (k := 0) (i := 0) rfl rfl d12_readsReply_56 ?_
      refine z_iload fx (i := 4) rfl d12_readsReply_57 ?_
      obtain ⟨t9, e15, e7⟩ := zinv e7
      refine z_cVr fx (c12_idOf (zLo X) (zDo X) Sh top hO o_ t2 μ _ ho e15) mv12_idOf ml12_337 ho rfl rfl rfl rfl d12_readsReply_59 ?_
      cases e7
      refine z_icmp_ne fx d12_readsReply_62 (fun c16 => ?_) (fun c16 => ?_)
      · exact kf8 c16
      · exact kt8 c16
    have kf13 : b7 = false → zZ zK1 X (zT0 Sh top) μ 83 [(0, .ref o_), (1, .int v_k), (2, .int v_p), (3, .int v_bits), (4, .int t2)] [] := by
      intro hc
      replace e7 := zif_f hc e7
      cases e7
      exact kf8 rfl
    clear e7
    obtain ⟨b10, e17, e12⟩ := zinv e12
    have kt18 : b10 = true → zZ zK1 X (zT0 Sh top) μ 33 [(0, .ref o_), (1, .int v_k), (2, .int v_p), (3, .int v_bits), (4, .int t2)] [] := by
      intro hc
      replace e12 := zif_t hc e12
      refine z_aload_n fx (k := 0) (i := 0) rfl rfl d12_readsReply_33 ?_
      refine z_iload_n fx (k := 1) (i := 1) rfl rfl d12_readsReply_34 ?_
      refine z_iconst fx (v := 5) ic5 d12_readsReply_35 ?_
      obtain ⟨t11, e19, e12⟩ := zinv e12
      refine z_cVr fx (c12_msg (zLo X) (zDo X) Sh top hO o_ v_k 5 μ _ ho e19) mv12_msg ml12_366 ho rfl rfl rfl rfl d12_readsReply_36 ?_
      refine z_aload_n fx (k := 0) (i := 0) rfl rfl d12_readsReply_39 ?_
      refine z_iload fx (i := 4) rfl d12_readsReply_40 ?_
      refine z_iconst fx (v := 4) ic4 d12_readsReply_42 ?_
      obtain ⟨t12, e20, e12⟩ := zinv e12
      refine z_cVr fx (c12_of (zLo X) (zDo X) Sh top hO o_ t2 4 μ _ ho e20) mv12_of ml12_319 ho rfl rfl rfl rfl d12_readsReply_43 ?_
      cases e12
      refine z_icmp_ne fx d12_readsReply_46 (fun c21 => ?_) (fun c21 => ?_)
      · exact kf13 c21
      · exact kt13 c21
    have kf18 : b10 = false → zZ zK1 X (zT0 Sh top) μ 83 [(0, .ref o_), (1, .int v_k), (2, .int v_p), (3, .int v_bits), (4, .int t2)] [] := by
      intro hc
      replace e12 := zif_f hc e12
      cases e12
      exact kf13 rfl
    clear e12
    refine z_aload_n fx (k := 0) (i := 0) rfl rfl d12_readsReply_17 ?_
    refine z_iload_n fx (k := 1) (i := 1) rfl rfl d12_readsReply_18 ?_
    refine z_iconst fx (v := 4) ic4 d12_readsReply_19 ?_
    obtain ⟨t13, e22, e17⟩ := zinv e17
    refine z_cVr fx (c12_msg (zLo X) (zDo X) Sh top hO o_ v_k 4 μ _ ho e22) mv12_msg ml12_366 ho rfl rfl rfl rfl d12_readsReply_20 ?_
    refine z_aload_n fx (k := 0) (i := 0) rfl rfl d12_readsReply_23 ?_
    refine z_iload fx (i := 4) rfl d12_readsReply_24 ?_
    refine z_iconst fx (v := 3) ic3 d12_readsReply_26 ?_
    obtain ⟨t14, e23, e17⟩ := zinv e17
    refine z_cVr fx (c12_of (zLo X) (zDo X) Sh top hO o_ t2 3 μ _ ho e23) mv12_of ml12_319 ho rfl rfl rfl rfl d12_readsReply_27 ?_
    cases e17
    refine z_icmp_ne fx d12_readsReply_30 (fun c24 => ?_) (fun c24 => ?_)
    · exact kf18 c24
    · exact kt18 c24
  · replace h := zif_f c2 h
    cases h
    exact z_return fx fin d12_readsReply_10
theorem d12_syncs_0 : zd cX12_syncs 0 (.iload_n 1) 1 1 := by decide +kernel
theorem d12_syncs_1 : zd cX12_syncs 1 (.bipush 6) 2 3 := by decide +kernel
theorem d12_syncs_3 : zd cX12_syncs 3 (.idiv) 1 4 := by decide +kernel
theorem d12_syncs_4 : zd cX12_syncs 4 (.istore_n 2) 1 5 := by decide +kernel
theorem d12_syncs_5 : zd cX12_syncs 5 (.iload_n 2) 1 6 := by decide +kernel
theorem d12_syncs_6 : zd cX12_syncs 6 (.iconst 0) 1 7 := by decide +kernel
theorem d12_syncs_7 : zd cX12_syncs 7 (.invokestatic 325) 3 10 := by decide +kernel
theorem d12_syncs_10 : zd cX12_syncs 10 (.istore_n 3) 1 11 := by decide +kernel
theorem d12_syncs_11 : zd cX12_syncs 11 (.iload_n 3) 1 12 := by decide +kernel
theorem d12_syncs_12 : zd cX12_syncs 12 (.iload_n 2) 1 13 := by decide +kernel
theorem d12_syncs_13 : zd cX12_syncs 13 (.aload_n 0) 1 14 := by decide +kernel
theorem d12_syncs_14 : zd cX12_syncs 14 (.getfield 35) 3 17 := by decide +kernel
theorem d12_syncs_17 : zd cX12_syncs 17 (.iload_n 2) 1 18 := by decide +kernel
theorem d12_syncs_18 : zd cX12_syncs 18 (.iaload) 1 19 := by decide +kernel
theorem d12_syncs_19 : zd cX12_syncs 19 (.invokestatic 325) 3 22 := by decide +kernel
theorem d12_syncs_22 : zj cX12_syncs 22 (.if_icmp .ge 70) 70 25 92 := by decide +kernel
theorem d12_syncs_25 : zd cX12_syncs 25 (.iload_n 3) 1 26 := by decide +kernel
theorem d12_syncs_26 : zd cX12_syncs 26 (.iload_n 1) 1 27 := by decide +kernel
theorem d12_syncs_27 : zj cX12_syncs 27 (.if_icmp .eq 59) 59 30 86 := by decide +kernel
theorem d12_syncs_30 : zd cX12_syncs 30 (.aload_n 0) 1 31 := by decide +kernel
theorem d12_syncs_31 : zd cX12_syncs 31 (.iload_n 3) 1 32 := by decide +kernel
theorem d12_syncs_32 : zd cX12_syncs 32 (.iconst 0) 1 33 := by decide +kernel
theorem d12_syncs_33 : zd cX12_syncs 33 (.invokevirtual 334) 3 36 := by decide +kernel
theorem d12_syncs_36 : zd cX12_syncs 36 (.iconst 2) 1 37 := by decide +kernel
theorem d12_syncs_37 : zj cX12_syncs 37 (.if_icmp .ne 49) 49 40 86 := by decide +kernel
theorem d12_syncs_40 : zd cX12_syncs 40 (.aload_n 0) 1 41 := by decide +kernel
theorem d12_syncs_41 : zd cX12_syncs 41 (.iload_n 3) 1 42 := by decide +kernel
theorem d12_syncs_42 : zd cX12_syncs 42 (.iconst 5) 1 43 := by decide +kernel
theorem d12_syncs_43 : zd cX12_syncs 43 (.invokevirtual 334) 3 46 := by decide +kernel
theorem d12_syncs_46 : zd cX12_syncs 46 (.iconst 1) 1 47 := by decide +kernel
theorem d12_syncs_47 : zj cX12_syncs 47 (.if_icmp .eq 39) 39 50 86 := by decide +kernel
theorem d12_syncs_50 : zd cX12_syncs 50 (.aload_n 0) 1 51 := by decide +kernel
theorem d12_syncs_51 : zd cX12_syncs 51 (.iload_n 3) 1 52 := by decide +kernel
theorem d12_syncs_52 : zd cX12_syncs 52 (.iconst 4) 1 53 := by decide +kernel
theorem d12_syncs_53 : zd cX12_syncs 53 (.invokevirtual 334) 3 56 := by decide +kernel
theorem d12_syncs_56 : zd cX12_syncs 56 (.iconst 1) 1 57 := by decide +kernel
theorem d12_syncs_57 : zj cX12_syncs 57 (.if_icmp .ne 6) 6 60 63 := by decide +kernel
theorem d12_syncs_60 : zj cX12_syncs 60 (.goto 26) 26 63 86 := by decide +kernel
theorem d12_syncs_63 : zd cX12_syncs 63 (.aload_n 0) 1 64 := by decide +kernel
theorem d12_syncs_64 : zd cX12_syncs 64 (.iload_n 3) 1 65 := by decide +kernel
theorem d12_syncs_65 : zd cX12_syncs 65 (.invokevirtual 419) 3 68 := by decide +kernel
theorem d12_syncs_68 : zd cX12_syncs 68 (.aload_n 0) 1 69 := by decide +kernel
theorem d12_syncs_69 : zd cX12_syncs 69 (.iload_n 3) 1 70 := by decide +kernel
theorem d12_syncs_70 : zd cX12_syncs 70 (.iconst 2) 1 71 := by decide +kernel
theorem d12_syncs_71 : zd cX12_syncs 71 (.aload_n 0) 1 72 := by decide +kernel
theorem d12_syncs_72 : zd cX12_syncs 72 (.getfield 25) 3 75 := by decide +kernel
theorem d12_syncs_75 : zd cX12_syncs 75 (.invokevirtual 344) 3 78 := by decide +kernel
theorem d12_syncs_78 : zd cX12_syncs 78 (.aload_n 0) 1 79 := by decide +kernel
theorem d12_syncs_79 : zd cX12_syncs 79 (.iload_n 3) 1 80 := by decide +kernel
theorem d12_syncs_80 : zd cX12_syncs 80 (.bipush 9) 2 82 := by decide +kernel
theorem d12_syncs_82 : zd cX12_syncs 82 (.iconst 1) 1 83 := by decide +kernel
theorem d12_syncs_83 : zd cX12_syncs 83 (.invokevirtual 344) 3 86 := by decide +kernel
theorem d12_syncs_86 : zd cX12_syncs 86 (.iinc 3 1) 3 89 := by decide +kernel
theorem d12_syncs_89 : zj cX12_syncs 89 (.goto (-78)) (-78) 92 11 := by decide +kernel
theorem d12_syncs_92 : zd cX12_syncs 92 (.return_) 1 93 := by decide +kernel
set_option maxHeartbeats 4000000 in
set_option maxRecDepth 20000 in
theorem c12_syncs (l : Launch) (D : zDt) (Sh : zSh) (top : Nat) (hO : zOK Sh) (o_ : Nat) (v_p : Int32) (μ : zM) (μ_ : zM) (ho : (Sh o_).1 = 19) (h : f12_syncs o_ v_p μ = some μ_) : zMet l D zK1 yX12_syncs cX12_syncs 4 none (zrm 4 89) [.ref o_, .int v_p] Sh top μ none Sh top μ_ 0 0 := by
  refine zMet_of (by decide) (Nat.le_of_ble_eq_true rfl) fun X hX1 hX2 fx fin => ?_
  subst hX1; subst hX2
  replace fx : zFix X cX12_syncs RX12 (zrm 4 89) 4 := fx
  show zZ zK1 X (zT0 Sh top) μ 0 [(0, .ref o_), (1, .int v_p)] []
  unfold f12_syncs at h
  refine z_iload_n fx (k := 1) (i := 1) rfl rfl d12_syncs_0 ?_
  refine z_bipush fx (v := 6) bp6 d12_syncs_1 ?_
  obtain ⟨t1, e1, h⟩ := zinv h
  refine z_idiv fx e1 d12_syncs_3 ?_
  refine z_istore_n fx (k := 2) (i := 2) rfl rfl (lv' := [(0, .ref o_), (1, .int v_p), (2, .int t1)]) rfl rfl d12_syncs_4 ?_
  refine z_iload_n fx (k := 2) (i := 2) rfl rfl d12_syncs_5 ?_
  refine z_iconst fx (v := 0) ic0 d12_syncs_6 ?_
  obtain ⟨t2, e2, h⟩ := zinv h
  refine z_cSr fx (c12_placeOf (zLo X) (zDo X) Sh top hO t1 0 μ _  e2) ms12_placeOf ml12_325 rfl rfl rfl rfl d12_syncs_7 ?_
  refine z_istore_n fx (k := 3) (i := 3) rfl rfl (lv' := [(0, .ref o_), (1, .int v_p), (2, .int t1), (3, .int t2)]) rfl rfl d12_syncs_10 ?_
  obtain ⟨v_q_5, μ6, e29, h⟩ := zinv2 h
  have kx6 : zZ zK1 X (zT0 Sh top) μ6 92 [(0, .ref o_), (1, .int v_p), (2, .int t1), (3, .int v_q_5)] [] := by
    refine z_take 3 (lv' := [(0, .ref o_), (1, .int v_p), (2, .int t1)]) rfl ?_
    cases h
    exact z_return fx fin d12_syncs_92
  clear h
  have klr5 : ∀ (n : Nat) (v_q_3 : Int32) (μ4 : zM), zloop (fun s => f12_syncs_L1 o_ v_p t1 s.1 s.2) n (v_q_3, μ4) = some (v_q_5, μ6) → zZ zK1 X (zT0 Sh top) μ4 11 [(0, .ref o_), (1, .int v_p), (2, .int t1), (3, .int v_q_3)] [] := by
    intro n
    induction n with
    | zero => intro v_q_3 μ4 hl4; cases hl4
    | succ n ih7 =>
      intro v_q_3 μ4 hl4
      obtain ⟨y, e3, hl4⟩ := zloop_inv hl4
      replace e3 : f12_syncs_L1 o_ v_p t1 v_q_3 μ4 = some y := e3
      unfold f12_syncs_L1 at e3
      refine z_iload_n fx (k := 3) (i := 3) rfl rfl d12_syncs_11 ?_
      refine z_iload_n fx (k := 2) (i := 2) rfl rfl d12_syncs_12 ?_
      refine z_aload_n fx (k := 0) (i := 0) rfl rfl d12_syncs_13 ?_
      refine z_getO fx 12 8 3 ho lf12_35 fk12_8 d12_syncs_14 ?_
      refine z_iload_n fx (k := 2) (i := 2) rfl rfl d12_syncs_17 ?_
      obtain ⟨t7, e8, e3⟩ := zinv e3
      refine z_iald fx (ok12_8 hO ho) e8 d12_syncs_18 ?_
      obtain ⟨t8, e9, e3⟩ := zinv e3
      refine z_cSr fx (c12_placeOf (zLo X) (zDo X) Sh top hO t1 t7 μ4 _  e9) ms12_placeOf ml12_325 rfl rfl rfl rfl d12_syncs_19 ?_
      refine z_icmp_ge fx d12_syncs_22 (fun c10 => ?_) (fun c10 => ?_)
      · replace e3 := zif_f c10 e3
        cases e3
        cases hl4
        exact kx6
      · replace e3 := zif_t c10 e3
        obtain ⟨b9, e12, e3⟩ := zinv e3
        have kt11 : b9 = true → zZ zK1 X (zT0 Sh top) μ4 86 [(0, .ref o_), (1, .int v_p), (2, .int t1), (3, .int v_q_3)] [] := by
          intro hc
          replace e3 := zif_t hc e3
          obtain ⟨v_q_10, e13, e3⟩ := zinv e3
          replace e13 := Option.some.inj e13
          refine z_iinc fx (i := 3) (x := v_q_3) (v := v_q_10) rfl (by rw [in1]; exact e13) rfl (lv' := [(0, .ref o_), (1, .int v_p), (2, .int t1), (3, .int v_q_10)]) rfl rfl d12_syncs_86 ?_
          cases e3
          refine z_goto fx d12_syncs_89 ?_
          exact ih7 _ _ hl4
        have kf11 : b9 = false → zZ zK1 X (zT0 Sh top) μ4 63 [(0, .ref o_), (1, .int v_p), (2, .int t1), (3, .int v_q_3)] [] := by
          intro hc
          replace e3 := zif_f hc e3
          refine z_aload_n fx (k := 0) (i := 0) rfl rfl d12_syncs_63 ?_
          refine z_iload_n fx (k := 3) (i := 3) rfl rfl d12_syncs_64 ?_
          obtain ⟨μ11, e14, e3⟩ := zinv e3
          refine z_cVv fx (c12_shuts (zLo X) (zDo X) Sh top hO o_ v_q_3 μ4 _ ho e14) mv12_shuts ml12_419 ho rfl rfl rfl rfl d12_syncs_65 ?_
          refine z_aload_n fx (k := 0) (i := 0) rfl rfl d12_syncs_68 ?_
          refine z_iload_n fx (k := 3) (i := 3) rfl rfl d12_syncs_69 ?_
          refine z_iconst fx (v := 2) ic2 d12_syncs_70 ?_
          refine z_aload_n fx (k := 0) (i := 0) rfl rfl d12_syncs_71 ?_
          refine z_getI fx 12 5 1205 ho lf12_25 ⟨fk12_5, rfl⟩ d12_syncs_72 ?_
          obtain ⟨μ12, e15, e3⟩ := zinv e3
          refine z_cVv fx (c12_sets (zLo X) (zDo X) Sh top hO o_ v_q_3 2 (gF μ11 1205 o_) μ11 _ ho e15) mv12_sets ml12_344 ho rfl rfl rfl rfl d12_syncs_75 ?_
          refine z_aload_n fx (k := 0) (i := 0) rfl rfl d12_syncs_78 ?_
          refine z_iload_n fx (k := 3) (i := 3) rfl rfl d12_syncs_79 ?_
          refine z_bipush fx (v := 9) bp9 d12_syncs_80 ?_
          refine z_iconst fx (v := 1) ic1 d12_syncs_82 ?_
          obtain ⟨μ13, e16, e3⟩ := zinv e3
          refine z_cVv fx (c12_sets (zLo X) (zDo X) Sh top hO o_ v_q_3 9 1 μ12 _ ho e16) mv12_sets ml12_344 ho rfl rfl rfl rfl d12_syncs_83 ?_
          obtain ⟨v_q_14, e17, e3⟩ := zinv e3
          replace e17 := Option.some.inj e17
          refine z_iinc fx (i := 3) (x := v_q_3) (v := v_q_14) rfl (by rw [in1]; exact e17) rfl (lv' := [(0, .ref o_), (1, .int v_p), (2, .int t1), (3, .int v_q_14)]) rfl rfl d12_syncs_86 ?_
          cases e3
          refine z_goto fx d12_syncs_89 ?_
          exact ih7 _ _ hl4
        clear e3
        obtain ⟨b15, e18, e12⟩ := zinv e12
        have kf19 : b15 = false → zZ zK1 X (zT0 Sh top) μ4 50 [(0, .ref o_), (1, .int v_p), (2, .int t1), (3, .int v_q_3)] [] := by
          intro hc
          replace e12 := zif_f hc e12
          refine z_aload_n fx (k := 0) (i := 0) rfl rfl d12_syncs_50 ?_
          refine z_iload_n fx (k := 3) (i := 3) rfl rfl d12_syncs_51 ?_
          refine z_iconst fx (v := 4) ic4 d12_syncs_52 ?_
          obtain ⟨t16, e20, e12⟩ := zinv e12
          refine z_cVr fx (c12_portOf (zLo X) (zDo X) Sh top hO o_ v_q_3 4 μ4 _ ho e20) mv12_portOf ml12_334 ho rfl rfl rfl rfl d12_syncs_53 ?_
          refine z_iconst fx (v := 1) ic1 d12_syncs_56 ?_
          cases e12
          refine z_icmp_ne fx d12_syncs_57 (fun c21 => ?_) (fun c21 => ?_)
          · exact kf11 c21
          · refine z_goto fx d12_syncs_60 ?_
            exact kt11 c21
        have kt19 : b15 = true → zZ zK1 X (zT0 Sh top) μ4 86 [(0, .ref o_), (1, .int v_p), (2, .int t1), (3, .int v_q_3)] [] := by
          intro hc
          replace e12 := zif_t hc e12
          cases e12
          exact kt11 rfl
        clear e12
        obtain ⟨b17, e22, e18⟩ := zinv e18
        have kf23 : b17 = false → zZ zK1 X (zT0 Sh top) μ4 40 [(0, .ref o_), (1, .int v_p), (2, .int t1), (3, .int v_q_3)] [] := by
          intro hc
          replace e18 := zif_f hc e18
          refine z_aload_n fx (k := 0) (i := 0) rfl rfl d12_syncs_40 ?_
          refine z_iload_n fx (k := 3) (i := 3) rfl rfl d12_syncs_41 ?_
          refine z_iconst fx (v := 5) ic5 d12_syncs_42 ?_
          obtain ⟨t18, e24, e18⟩ := zinv e18
          refine z_cVr fx (c12_portOf (zLo X) (zDo X) Sh top hO o_ v_q_3 5 μ4 _ ho e24) mv12_portOf ml12_334 ho rfl rfl rfl rfl d12_syncs_43 ?_
          refine z_iconst fx (v := 1) ic1 d12_syncs_46 ?_
          cases e18
          refine z_icmp_eq fx d12_syncs_47 (fun c25 => ?_) (fun c25 => ?_)
          · exact kt19 c25
          · exact kf19 c25
        have kt23 : b17 = true → zZ zK1 X (zT0 Sh top) μ4 86 [(0, .ref o_), (1, .int v_p), (2, .int t1), (3, .int v_q_3)] [] := by
          intro hc
          replace e18 := zif_t hc e18
          cases e18
          exact kt19 rfl
        clear e18
        refine z_iload_n fx (k := 3) (i := 3) rfl rfl d12_syncs_25 ?_
        refine z_iload_n fx (k := 1) (i := 1) rfl rfl d12_syncs_26 ?_
        refine z_icmp_eq fx d12_syncs_27 (fun c26 => ?_) (fun c26 => ?_)
        · replace e22 := zif_t c26 e22
          cases e22
          exact kt23 rfl
        · replace e22 := zif_f c26 e22
          refine z_aload_n fx (k := 0) (i := 0) rfl rfl d12_syncs_30 ?_
          refine z_iload_n fx (k := 3) (i := 3) rfl rfl d12_syncs_31 ?_
          refine z_iconst fx (v := 0) ic0 d12_syncs_32 ?_
          obtain ⟨t19, e27, e22⟩ := zinv e22
          refine z_cVr fx (c12_portOf (zLo X) (zDo X) Sh top hO o_ v_q_3 0 μ4 _ ho e27) mv12_portOf ml12_334 ho rfl rfl rfl rfl d12_syncs_33 ?_
          refine z_iconst fx (v := 2) ic2 d12_syncs_36 ?_
          cases e22
          refine z_icmp_ne fx d12_syncs_37 (fun c28 => ?_) (fun c28 => ?_)
          · exact kt23 (by rw [c28]; rfl)
          · exact kf23 (by rw [c28]; rfl)
  exact klr5 _ _ _ e29
theorem d12_marksAll_0 : zd cX12_marksAll 0 (.iload_n 1) 1 1 := by decide +kernel
theorem d12_marksAll_1 : zd cX12_marksAll 1 (.iconst 0) 1 2 := by decide +kernel
theorem d12_marksAll_2 : zd cX12_marksAll 2 (.invokestatic 325) 3 5 := by decide +kernel
theorem d12_marksAll_5 : zd cX12_marksAll 5 (.istore_n 3) 1 6 := by decide +kernel
theorem d12_marksAll_6 : zd cX12_marksAll 6 (.iload_n 3) 1 7 := by decide +kernel
theorem d12_marksAll_7 : zd cX12_marksAll 7 (.iload_n 1) 1 8 := by decide +kernel
theorem d12_marksAll_8 : zd cX12_marksAll 8 (.aload_n 0) 1 9 := by decide +kernel
theorem d12_marksAll_9 : zd cX12_marksAll 9 (.getfield 35) 3 12 := by decide +kernel
theorem d12_marksAll_12 : zd cX12_marksAll 12 (.iload_n 1) 1 13 := by decide +kernel
theorem d12_marksAll_13 : zd cX12_marksAll 13 (.iaload) 1 14 := by decide +kernel
theorem d12_marksAll_14 : zd cX12_marksAll 14 (.invokestatic 325) 3 17 := by decide +kernel
theorem d12_marksAll_17 : zj cX12_marksAll 17 (.if_icmp .ge 27) 27 20 44 := by decide +kernel
theorem d12_marksAll_20 : zd cX12_marksAll 20 (.aload_n 0) 1 21 := by decide +kernel
theorem d12_marksAll_21 : zd cX12_marksAll 21 (.iload_n 3) 1 22 := by decide +kernel
theorem d12_marksAll_22 : zd cX12_marksAll 22 (.iconst 0) 1 23 := by decide +kernel
theorem d12_marksAll_23 : zd cX12_marksAll 23 (.invokevirtual 334) 3 26 := by decide +kernel
theorem d12_marksAll_26 : zd cX12_marksAll 26 (.iload_n 2) 1 27 := by decide +kernel
theorem d12_marksAll_27 : zj cX12_marksAll 27 (.if_icmp .ne 11) 11 30 38 := by decide +kernel
theorem d12_marksAll_30 : zd cX12_marksAll 30 (.aload_n 0) 1 31 := by decide +kernel
theorem d12_marksAll_31 : zd cX12_marksAll 31 (.iload_n 3) 1 32 := by decide +kernel
theorem d12_marksAll_32 : zd cX12_marksAll 32 (.bipush 9) 2 34 := by decide +kernel
theorem d12_marksAll_34 : zd cX12_marksAll 34 (.iconst 1) 1 35 := by decide +kernel
theorem d12_marksAll_35 : zd cX12_marksAll 35 (.invokevirtual 344) 3 38 := by decide +kernel
theorem d12_marksAll_38 : zd cX12_marksAll 38 (.iinc 3 1) 3 41 := by decide +kernel
theorem d12_marksAll_41 : zj cX12_marksAll 41 (.goto (-35)) (-35) 44 6 := by decide +kernel
theorem d12_marksAll_44 : zd cX12_marksAll 44 (.return_) 1 45 := by decide +kernel
set_option maxHeartbeats 4000000 in
set_option maxRecDepth 20000 in
theorem c12_marksAll (l : Launch) (D : zDt) (Sh : zSh) (top : Nat) (hO : zOK Sh) (o_ : Nat) (v_b : Int32) (v_role : Int32) (μ : zM) (μ_ : zM) (ho : (Sh o_).1 = 19) (h : f12_marksAll o_ v_b v_role μ = some μ_) : zMet l D zK1 yX12_marksAll cX12_marksAll 4 none (zrm 2 45) [.ref o_, .int v_b, .int v_role] Sh top μ none Sh top μ_ 0 0 := by
  refine zMet_of (by decide) (Nat.le_of_ble_eq_true rfl) fun X hX1 hX2 fx fin => ?_
  subst hX1; subst hX2
  replace fx : zFix X cX12_marksAll RX12 (zrm 2 45) 4 := fx
  show zZ zK1 X (zT0 Sh top) μ 0 [(0, .ref o_), (1, .int v_b), (2, .int v_role)] []
  unfold f12_marksAll at h
  refine z_iload_n fx (k := 1) (i := 1) rfl rfl d12_marksAll_0 ?_
  refine z_iconst fx (v := 0) ic0 d12_marksAll_1 ?_
  obtain ⟨t1, e1, h⟩ := zinv h
  refine z_cSr fx (c12_placeOf (zLo X) (zDo X) Sh top hO v_b 0 μ _  e1) ms12_placeOf ml12_325 rfl rfl rfl rfl d12_marksAll_2 ?_
  refine z_istore_n fx (k := 3) (i := 3) rfl rfl (lv' := [(0, .ref o_), (1, .int v_b), (2, .int v_role), (3, .int t1)]) rfl rfl d12_marksAll_5 ?_
  obtain ⟨v_q_4, μ5, e15, h⟩ := zinv2 h
  have kx5 : zZ zK1 X (zT0 Sh top) μ5 44 [(0, .ref o_), (1, .int v_b), (2, .int v_role), (3, .int v_q_4)] [] := by
    refine z_take 3 (lv' := [(0, .ref o_), (1, .int v_b), (2, .int v_role)]) rfl ?_
    cases h
    exact z_return fx fin d12_marksAll_44
  clear h
  have klr4 : ∀ (n : Nat) (v_q_2 : Int32) (μ3 : zM), zloop (fun s => f12_marksAll_L1 o_ v_b v_role s.1 s.2) n (v_q_2, μ3) = some (v_q_4, μ5) → zZ zK1 X (zT0 Sh top) μ3 6 [(0, .ref o_), (1, .int v_b), (2, .int v_role), (3, .int v_q_2)] [] := by
    intro n
    induction n with
    | zero => intro v_q_2 μ3 hl3; cases hl3
    | succ n ih6 =>
      intro v_q_2 μ3 hl3
      obtain ⟨y, e2, hl3⟩ := zloop_inv hl3
      replace e2 : f12_marksAll_L1 o_ v_b v_role v_q_2 μ3 = some y := e2
      unfold f12_marksAll_L1 at e2
      refine z_iload_n fx (k := 3) (i := 3) rfl rfl d12_marksAll_6 ?_
      refine z_iload_n fx (k := 1) (i := 1) rfl rfl d12_marksAll_7 ?_
      refine z_aload_n fx (k := 0) (i := 0) rfl rfl d12_marksAll_8 ?_
      refine z_getO fx 12 8 3 ho lf12_35 fk12_8 d12_marksAll_9 ?_
      refine z_iload_n fx (k := 1) (i := 1) rfl rfl d12_marksAll_12 ?_
      obtain ⟨t6, e7, e2⟩ := zinv e2
      refine z_iald fx (ok12_8 hO ho) e7 d12_marksAll_13 ?_
      obtain ⟨t7, e8, e2⟩ := zinv e2
      refine z_cSr fx (c12_placeOf (zLo X) (zDo X) Sh top hO v_b t6 μ3 _  e8) ms12_placeOf ml12_325 rfl rfl rfl rfl d12_marksAll_14 ?_
      refine z_icmp_ge fx d12_marksAll_17 (fun c9 => ?_) (fun c9 => ?_)
      · replace e2 := zif_f c9 e2
        cases e2
        cases hl3
        exact kx5
      · replace e2 := zif_t c9 e2
        refine z_aload_n fx (k := 0) (i := 0) rfl rfl d12_marksAll_20 ?_
        refine z_iload_n fx (k := 3) (i := 3) rfl rfl d12_marksAll_21 ?_
        refine z_iconst fx (v := 0) ic0 d12_marksAll_22 ?_
        obtain ⟨t8, e10, e2⟩ := zinv e2
        refine z_cVr fx (c12_portOf (zLo X) (zDo X) Sh top hO o_ v_q_2 0 μ3 _ ho e10) mv12_portOf ml12_334 ho rfl rfl rfl rfl d12_marksAll_23 ?_
        refine z_iload_n fx (k := 2) (i := 2) rfl rfl d12_marksAll_26 ?_
        refine z_icmp_ne fx d12_marksAll_27 (fun c11 => ?_) (fun c11 => ?_)
        · replace e2 := zif_f c11 e2
          obtain ⟨v_q_9, e12, e2⟩ := zinv e2
          replace e12 := Option.some.inj e12
          refine z_iinc fx (i := 3) (x := v_q_2) (v := v_q_9) rfl (by rw [in1]; exact e12) rfl (lv' := [(0, .ref o_), (1, .int v_b), (2, .int v_role), (3, .int v_q_9)]) rfl rfl d12_marksAll_38 ?_
          cases e2
          refine z_goto fx d12_marksAll_41 ?_
          exact ih6 _ _ hl3
        · replace e2 := zif_t c11 e2
          refine z_aload_n fx (k := 0) (i := 0) rfl rfl d12_marksAll_30 ?_
          refine z_iload_n fx (k := 3) (i := 3) rfl rfl d12_marksAll_31 ?_
          refine z_bipush fx (v := 9) bp9 d12_marksAll_32 ?_
          refine z_iconst fx (v := 1) ic1 d12_marksAll_34 ?_
          obtain ⟨μ10, e13, e2⟩ := zinv e2
          refine z_cVv fx (c12_sets (zLo X) (zDo X) Sh top hO o_ v_q_2 9 1 μ3 _ ho e13) mv12_sets ml12_344 ho rfl rfl rfl rfl d12_marksAll_35 ?_
          obtain ⟨v_q_11, e14, e2⟩ := zinv e2
          replace e14 := Option.some.inj e14
          refine z_iinc fx (i := 3) (x := v_q_2) (v := v_q_11) rfl (by rw [in1]; exact e14) rfl (lv' := [(0, .ref o_), (1, .int v_b), (2, .int v_role), (3, .int v_q_11)]) rfl rfl d12_marksAll_38 ?_
          cases e2
          refine z_goto fx d12_marksAll_41 ?_
          exact ih6 _ _ hl3
  exact klr4 _ _ _ e15
theorem d12_readsConfig_0 : zd cX12_readsConfig 0 (.iload_n 2) 1 1 := by decide +kernel
theorem d12_readsConfig_1 : zd cX12_readsConfig 1 (.bipush 6) 2 3 := by decide +kernel
theorem d12_readsConfig_3 : zd cX12_readsConfig 3 (.idiv) 1 4 := by decide +kernel
theorem d12_readsConfig_4 : zd cX12_readsConfig 4 (.istore 4) 2 6 := by decide +kernel
theorem d12_readsConfig_6 : zd cX12_readsConfig 6 (.aload_n 0) 1 7 := by decide +kernel
theorem d12_readsConfig_7 : zd cX12_readsConfig 7 (.iload_n 2) 1 8 := by decide +kernel
theorem d12_readsConfig_8 : zd cX12_readsConfig 8 (.bipush 10) 2 10 := by decide +kernel
theorem d12_readsConfig_10 : zd cX12_readsConfig 10 (.invokevirtual 334) 3 13 := by decide +kernel
theorem d12_readsConfig_13 : zd cX12_readsConfig 13 (.iconst 1) 1 14 := by decide +kernel
theorem d12_readsConfig_14 : zj cX12_readsConfig 14 (.if_icmp .ne 7) 7 17 21 := by decide +kernel
theorem d12_readsConfig_17 : zd cX12_readsConfig 17 (.iconst 1) 1 18 := by decide +kernel
theorem d12_readsConfig_18 : zj cX12_readsConfig 18 (.goto 4) 4 21 22 := by decide +kernel
theorem d12_readsConfig_21 : zd cX12_readsConfig 21 (.iconst 0) 1 22 := by decide +kernel
theorem d12_readsConfig_22 : zd cX12_readsConfig 22 (.istore 5) 2 24 := by decide +kernel
theorem d12_readsConfig_24 : zd cX12_readsConfig 24 (.aload_n 0) 1 25 := by decide +kernel
theorem d12_readsConfig_25 : zd cX12_readsConfig 25 (.iload_n 1) 1 26 := by decide +kernel
theorem d12_readsConfig_26 : zd cX12_readsConfig 26 (.bipush 8) 2 28 := by decide +kernel
theorem d12_readsConfig_28 : zd cX12_readsConfig 28 (.invokevirtual 366) 3 31 := by decide +kernel
theorem d12_readsConfig_31 : zd cX12_readsConfig 31 (.iconst 1) 1 32 := by decide +kernel
theorem d12_readsConfig_32 : zd cX12_readsConfig 32 (.iadd) 1 33 := by decide +kernel
theorem d12_readsConfig_33 : zd cX12_readsConfig 33 (.aload_n 0) 1 34 := by decide +kernel
theorem d12_readsConfig_34 : zd cX12_readsConfig 34 (.getfield 22) 3 37 := by decide +kernel
theorem d12_readsConfig_37 : zj cX12_readsConfig 37 (.if_icmp .le 23) 23 40 60 := by decide +kernel
theorem d12_readsConfig_40 : zd cX12_readsConfig 40 (.aload_n 0) 1 41 := by decide +kernel
theorem d12_readsConfig_41 : zd cX12_readsConfig 41 (.iload_n 2) 1 42 := by decide +kernel
theorem d12_readsConfig_42 : zd cX12_readsConfig 42 (.bipush 10) 2 44 := by decide +kernel
theorem d12_readsConfig_44 : zd cX12_readsConfig 44 (.iconst 0) 1 45 := by decide +kernel
theorem d12_readsConfig_45 : zd cX12_readsConfig 45 (.invokevirtual 344) 3 48 := by decide +kernel
theorem d12_readsConfig_48 : zd cX12_readsConfig 48 (.iload 5) 2 50 := by decide +kernel
theorem d12_readsConfig_50 : zj cX12_readsConfig 50 (.ifCond .eq 9) 9 53 59 := by decide +kernel
theorem d12_readsConfig_53 : zd cX12_readsConfig 53 (.aload_n 0) 1 54 := by decide +kernel
theorem d12_readsConfig_54 : zd cX12_readsConfig 54 (.iload 4) 2 56 := by decide +kernel
theorem d12_readsConfig_56 : zd cX12_readsConfig 56 (.invokevirtual 375) 3 59 := by decide +kernel
theorem d12_readsConfig_59 : zd cX12_readsConfig 59 (.return_) 1 60 := by decide +kernel
theorem d12_readsConfig_60 : zd cX12_readsConfig 60 (.iload 5) 2 62 := by decide +kernel
theorem d12_readsConfig_62 : zj cX12_readsConfig 62 (.ifCond .ne 46) 46 65 108 := by decide +kernel
theorem d12_readsConfig_65 : zd cX12_readsConfig 65 (.aload_n 0) 1 66 := by decide +kernel
theorem d12_readsConfig_66 : zd cX12_readsConfig 66 (.iload_n 2) 1 67 := by decide +kernel
theorem d12_readsConfig_67 : zd cX12_readsConfig 67 (.aload_n 0) 1 68 := by decide +kernel
theorem d12_readsConfig_68 : zd cX12_readsConfig 68 (.iload_n 1) 1 69 := by decide +kernel
theorem d12_readsConfig_69 : zd cX12_readsConfig 69 (.iconst 4) 1 70 := by decide +kernel
theorem d12_readsConfig_70 : zd cX12_readsConfig 70 (.invokevirtual 366) 3 73 := by decide +kernel
theorem d12_readsConfig_73 : zd cX12_readsConfig 73 (.aload_n 0) 1 74 := by decide +kernel
theorem d12_readsConfig_74 : zd cX12_readsConfig 74 (.iload_n 1) 1 75 := by decide +kernel
theorem d12_readsConfig_75 : zd cX12_readsConfig 75 (.iconst 5) 1 76 := by decide +kernel
theorem d12_readsConfig_76 : zd cX12_readsConfig 76 (.invokevirtual 366) 3 79 := by decide +kernel
theorem d12_readsConfig_79 : zd cX12_readsConfig 79 (.aload_n 0) 1 80 := by decide +kernel
theorem d12_readsConfig_80 : zd cX12_readsConfig 80 (.iload_n 1) 1 81 := by decide +kernel
theorem d12_readsConfig_81 : zd cX12_readsConfig 81 (.bipush 6) 2 83 := by decide +kernel
theorem d12_readsConfig_83 : zd cX12_readsConfig 83 (.invokevirtual 366) 3 86 := by decide +kernel
theorem d12_readsConfig_86 : zd cX12_readsConfig 86 (.aload_n 0) 1 87 := by decide +kernel
theorem d12_readsConfig_87 : zd cX12_readsConfig 87 (.iload_n 1) 1 88 := by decide +kernel
theorem d12_readsConfig_88 : zd cX12_readsConfig 88 (.bipush 7) 2 90 := by decide +kernel
theorem d12_readsConfig_90 : zd cX12_readsConfig 90 (.invokevirtual 366) 3 93 := by decide +kernel
theorem d12_readsConfig_93 : zd cX12_readsConfig 93 (.invokevirtual 396) 3 96 := by decide +kernel
theorem d12_readsConfig_96 : zj cX12_readsConfig 96 (.ifCond .ne 12) 12 99 108 := by decide +kernel
theorem d12_readsConfig_99 : zd cX12_readsConfig 99 (.aload_n 0) 1 100 := by decide +kernel
theorem d12_readsConfig_100 : zd cX12_readsConfig 100 (.iload_n 2) 1 101 := by decide +kernel
theorem d12_readsConfig_101 : zd cX12_readsConfig 101 (.bipush 9) 2 103 := by decide +kernel
theorem d12_readsConfig_103 : zd cX12_readsConfig 103 (.iconst 1) 1 104 := by decide +kernel
theorem d12_readsConfig_104 : zd cX12_readsConfig 104 (.invokevirtual 344) 3 107 := by decide +kernel
theorem d12_readsConfig_107 : zd cX12_readsConfig 107 (.return_) 1 108 := by decide +kernel
theorem d12_readsConfig_108 : zd cX12_readsConfig 108 (.aload_n 0) 1 109 := by decide +kernel
theorem d12_readsConfig_109 : zd cX12_readsConfig 109 (.iload_n 2) 1 110 := by decide +kernel
theorem d12_readsConfig_110 : zd cX12_readsConfig 110 (.bipush 10) 2 112 := by decide +kernel
theorem d12_readsConfig_112 : zd cX12_readsConfig 112 (.iconst 1) 1 113 := by decide +kernel
theorem d12_readsConfig_113 : zd cX12_readsConfig 113 (.invokevirtual 344) 3 116 := by decide +kernel
theorem d12_readsConfig_116 : zd cX12_readsConfig 116 (.aload_n 0) 1 117 := by decide +kernel
theorem d12_readsConfig_117 : zd cX12_readsConfig 117 (.iload_n 2) 1 118 := by decide +kernel
theorem d12_readsConfig_118 : zd cX12_readsConfig 118 (.bipush 11) 2 120 := by decide +kernel
theorem d12_readsConfig_120 : zd cX12_readsConfig 120 (.aload_n 0) 1 121 := by decide +kernel
theorem d12_readsConfig_121 : zd cX12_readsConfig 121 (.iload_n 1) 1 122 := by decide +kernel
theorem d12_readsConfig_122 : zd cX12_readsConfig 122 (.iconst 4) 1 123 := by decide +kernel
theorem d12_readsConfig_123 : zd cX12_readsConfig 123 (.invokevirtual 366) 3 126 := by decide +kernel
theorem d12_readsConfig_126 : zd cX12_readsConfig 126 (.invokevirtual 344) 3 129 := by decide +kernel
theorem d12_readsConfig_129 : zd cX12_readsConfig 129 (.aload_n 0) 1 130 := by decide +kernel
theorem d12_readsConfig_130 : zd cX12_readsConfig 130 (.iload_n 2) 1 131 := by decide +kernel
theorem d12_readsConfig_131 : zd cX12_readsConfig 131 (.bipush 12) 2 133 := by decide +kernel
theorem d12_readsConfig_133 : zd cX12_readsConfig 133 (.aload_n 0) 1 134 := by decide +kernel
theorem d12_readsConfig_134 : zd cX12_readsConfig 134 (.iload_n 1) 1 135 := by decide +kernel
theorem d12_readsConfig_135 : zd cX12_readsConfig 135 (.iconst 5) 1 136 := by decide +kernel
theorem d12_readsConfig_136 : zd cX12_readsConfig 136 (.invokevirtual 366) 3 139 := by decide +kernel
theorem d12_readsConfig_139 : zd cX12_readsConfig 139 (.invokevirtual 344) 3 142 := by decide +kernel
theorem d12_readsConfig_142 : zd cX12_readsConfig 142 (.aload_n 0) 1 143 := by decide +kernel
theorem d12_readsConfig_143 : zd cX12_readsConfig 143 (.iload_n 2) 1 144 := by decide +kernel
theorem d12_readsConfig_144 : zd cX12_readsConfig 144 (.bipush 13) 2 146 := by decide +kernel
theorem d12_readsConfig_146 : zd cX12_readsConfig 146 (.aload_n 0) 1 147 := by decide +kernel
theorem d12_readsConfig_147 : zd cX12_readsConfig 147 (.iload_n 1) 1 148 := by decide +kernel
theorem d12_readsConfig_148 : zd cX12_readsConfig 148 (.bipush 6) 2 150 := by decide +kernel
theorem d12_readsConfig_150 : zd cX12_readsConfig 150 (.invokevirtual 366) 3 153 := by decide +kernel
theorem d12_readsConfig_153 : zd cX12_readsConfig 153 (.invokevirtual 344) 3 156 := by decide +kernel
theorem d12_readsConfig_156 : zd cX12_readsConfig 156 (.aload_n 0) 1 157 := by decide +kernel
theorem d12_readsConfig_157 : zd cX12_readsConfig 157 (.iload_n 2) 1 158 := by decide +kernel
theorem d12_readsConfig_158 : zd cX12_readsConfig 158 (.bipush 14) 2 160 := by decide +kernel
theorem d12_readsConfig_160 : zd cX12_readsConfig 160 (.aload_n 0) 1 161 := by decide +kernel
theorem d12_readsConfig_161 : zd cX12_readsConfig 161 (.iload_n 1) 1 162 := by decide +kernel
theorem d12_readsConfig_162 : zd cX12_readsConfig 162 (.bipush 7) 2 164 := by decide +kernel
theorem d12_readsConfig_164 : zd cX12_readsConfig 164 (.invokevirtual 366) 3 167 := by decide +kernel
theorem d12_readsConfig_167 : zd cX12_readsConfig 167 (.invokevirtual 344) 3 170 := by decide +kernel
theorem d12_readsConfig_170 : zd cX12_readsConfig 170 (.aload_n 0) 1 171 := by decide +kernel
theorem d12_readsConfig_171 : zd cX12_readsConfig 171 (.iload_n 2) 1 172 := by decide +kernel
theorem d12_readsConfig_172 : zd cX12_readsConfig 172 (.bipush 15) 2 174 := by decide +kernel
theorem d12_readsConfig_174 : zd cX12_readsConfig 174 (.aload_n 0) 1 175 := by decide +kernel
theorem d12_readsConfig_175 : zd cX12_readsConfig 175 (.iload_n 1) 1 176 := by decide +kernel
theorem d12_readsConfig_176 : zd cX12_readsConfig 176 (.bipush 8) 2 178 := by decide +kernel
theorem d12_readsConfig_178 : zd cX12_readsConfig 178 (.invokevirtual 366) 3 181 := by decide +kernel
theorem d12_readsConfig_181 : zd cX12_readsConfig 181 (.invokevirtual 344) 3 184 := by decide +kernel
theorem d12_readsConfig_184 : zd cX12_readsConfig 184 (.aload_n 0) 1 185 := by decide +kernel
theorem d12_readsConfig_185 : zd cX12_readsConfig 185 (.iload_n 2) 1 186 := by decide +kernel
theorem d12_readsConfig_186 : zd cX12_readsConfig 186 (.bipush 16) 2 188 := by decide +kernel
theorem d12_readsConfig_188 : zd cX12_readsConfig 188 (.iconst 3) 1 189 := by decide +kernel
theorem d12_readsConfig_189 : zd cX12_readsConfig 189 (.invokevirtual 344) 3 192 := by decide +kernel
theorem d12_readsConfig_192 : zd cX12_readsConfig 192 (.aload_n 0) 1 193 := by decide +kernel
theorem d12_readsConfig_193 : zd cX12_readsConfig 193 (.iload 4) 2 195 := by decide +kernel
theorem d12_readsConfig_195 : zd cX12_readsConfig 195 (.invokevirtual 375) 3 198 := by decide +kernel
theorem d12_readsConfig_198 : zd cX12_readsConfig 198 (.aload_n 0) 1 199 := by decide +kernel
theorem d12_readsConfig_199 : zd cX12_readsConfig 199 (.iload_n 2) 1 200 := by decide +kernel
theorem d12_readsConfig_200 : zd cX12_readsConfig 200 (.iconst 0) 1 201 := by decide +kernel
theorem d12_readsConfig_201 : zd cX12_readsConfig 201 (.invokevirtual 334) 3 204 := by decide +kernel
theorem d12_readsConfig_204 : zd cX12_readsConfig 204 (.istore 6) 2 206 := by decide +kernel
theorem d12_readsConfig_206 : zd cX12_readsConfig 206 (.iload 6) 2 208 := by decide +kernel
theorem d12_readsConfig_208 : zd cX12_readsConfig 208 (.iconst 2) 1 209 := by decide +kernel
theorem d12_readsConfig_209 : zj cX12_readsConfig 209 (.if_icmp .ne 4) 4 212 213 := by decide +kernel
theorem d12_readsConfig_212 : zd cX12_readsConfig 212 (.return_) 1 213 := by decide +kernel
theorem d12_readsConfig_213 : zd cX12_readsConfig 213 (.iload_n 3) 1 214 := by decide +kernel
theorem d12_readsConfig_214 : zd cX12_readsConfig 214 (.iconst 1) 1 215 := by decide +kernel
theorem d12_readsConfig_215 : zd cX12_readsConfig 215 (.invokestatic 425) 3 218 := by decide +kernel
theorem d12_readsConfig_218 : zj cX12_readsConfig 218 (.ifCond .eq 30) 30 221 248 := by decide +kernel
theorem d12_readsConfig_221 : zd cX12_readsConfig 221 (.iload 6) 2 223 := by decide +kernel
theorem d12_readsConfig_223 : zd cX12_readsConfig 223 (.iconst 1) 1 224 := by decide +kernel
theorem d12_readsConfig_224 : zj cX12_readsConfig 224 (.if_icmp .ne 8) 8 227 232 := by decide +kernel
theorem d12_readsConfig_227 : zd cX12_readsConfig 227 (.aload_n 0) 1 228 := by decide +kernel
theorem d12_readsConfig_228 : zd cX12_readsConfig 228 (.iload_n 2) 1 229 := by decide +kernel
theorem d12_readsConfig_229 : zd cX12_readsConfig 229 (.invokevirtual 435) 3 232 := by decide +kernel
theorem d12_readsConfig_232 : zd cX12_readsConfig 232 (.aload_n 0) 1 233 := by decide +kernel
theorem d12_readsConfig_233 : zd cX12_readsConfig 233 (.iload_n 2) 1 234 := by decide +kernel
theorem d12_readsConfig_234 : zd cX12_readsConfig 234 (.bipush 7) 2 236 := by decide +kernel
theorem d12_readsConfig_236 : zd cX12_readsConfig 236 (.iconst 1) 1 237 := by decide +kernel
theorem d12_readsConfig_237 : zd cX12_readsConfig 237 (.invokevirtual 344) 3 240 := by decide +kernel
theorem d12_readsConfig_240 : zd cX12_readsConfig 240 (.aload_n 0) 1 241 := by decide +kernel
theorem d12_readsConfig_241 : zd cX12_readsConfig 241 (.iload_n 2) 1 242 := by decide +kernel
theorem d12_readsConfig_242 : zd cX12_readsConfig 242 (.bipush 9) 2 244 := by decide +kernel
theorem d12_readsConfig_244 : zd cX12_readsConfig 244 (.iconst 1) 1 245 := by decide +kernel
theorem d12_readsConfig_245 : zd cX12_readsConfig 245 (.invokevirtual 344) 3 248 := by decide +kernel
theorem d12_readsConfig_248 : zd cX12_readsConfig 248 (.iload 6) 2 250 := by decide +kernel
theorem d12_readsConfig_250 : zd cX12_readsConfig 250 (.iconst 1) 1 251 := by decide +kernel
theorem d12_readsConfig_251 : zj cX12_readsConfig 251 (.if_icmp .eq 4) 4 254 255 := by decide +kernel
theorem d12_readsConfig_254 : zd cX12_readsConfig 254 (.return_) 1 255 := by decide +kernel
theorem d12_readsConfig_255 : zd cX12_readsConfig 255 (.aload_n 0) 1 256 := by decide +kernel
theorem d12_readsConfig_256 : zd cX12_readsConfig 256 (.iload 4) 2 258 := by decide +kernel
theorem d12_readsConfig_258 : zd cX12_readsConfig 258 (.iconst 2) 1 259 := by decide +kernel
theorem d12_readsConfig_259 : zd cX12_readsConfig 259 (.invokevirtual 319) 3 262 := by decide +kernel
theorem d12_readsConfig_262 : zd cX12_readsConfig 262 (.iconst 1) 1 263 := by decide +kernel
theorem d12_readsConfig_263 : zj cX12_readsConfig 263 (.if_icmp .ne 10) 10 266 273 := by decide +kernel
theorem d12_readsConfig_266 : zd cX12_readsConfig 266 (.aload_n 0) 1 267 := by decide +kernel
theorem d12_readsConfig_267 : zd cX12_readsConfig 267 (.iload 4) 2 269 := by decide +kernel
theorem d12_readsConfig_269 : zd cX12_readsConfig 269 (.iconst 2) 1 270 := by decide +kernel
theorem d12_readsConfig_270 : zd cX12_readsConfig 270 (.invokevirtual 438) 3 273 := by decide +kernel
theorem d12_readsConfig_273 : zd cX12_readsConfig 273 (.iload_n 3) 1 274 := by decide +kernel
theorem d12_readsConfig_274 : zd cX12_readsConfig 274 (.bipush 8) 2 276 := by decide +kernel
theorem d12_readsConfig_276 : zd cX12_readsConfig 276 (.invokestatic 425) 3 279 := by decide +kernel
theorem d12_readsConfig_279 : zj cX12_readsConfig 279 (.ifCond .eq 10) 10 282 289 := by decide +kernel
theorem d12_readsConfig_282 : zd cX12_readsConfig 282 (.aload_n 0) 1 283 := by decide +kernel
theorem d12_readsConfig_283 : zd cX12_readsConfig 283 (.iload_n 2) 1 284 := by decide +kernel
theorem d12_readsConfig_284 : zd cX12_readsConfig 284 (.iconst 3) 1 285 := by decide +kernel
theorem d12_readsConfig_285 : zd cX12_readsConfig 285 (.iconst 0) 1 286 := by decide +kernel
theorem d12_readsConfig_286 : zd cX12_readsConfig 286 (.invokevirtual 344) 3 289 := by decide +kernel
theorem d12_readsConfig_289 : zd cX12_readsConfig 289 (.iload_n 3) 1 290 := by decide +kernel
theorem d12_readsConfig_290 : zd cX12_readsConfig 290 (.iconst 4) 1 291 := by decide +kernel
theorem d12_readsConfig_291 : zd cX12_readsConfig 291 (.invokestatic 425) 3 294 := by decide +kernel
theorem d12_readsConfig_294 : zj cX12_readsConfig 294 (.ifCond .eq 8) 8 297 302 := by decide +kernel
theorem d12_readsConfig_297 : zd cX12_readsConfig 297 (.aload_n 0) 1 298 := by decide +kernel
theorem d12_readsConfig_298 : zd cX12_readsConfig 298 (.iload_n 2) 1 299 := by decide +kernel
theorem d12_readsConfig_299 : zd cX12_readsConfig 299 (.invokevirtual 357) 3 302 := by decide +kernel
theorem d12_readsConfig_302 : zd cX12_readsConfig 302 (.return_) 1 303 := by decide +kernel
set_option maxHeartbeats 4000000 in
set_option maxRecDepth 20000 in
theorem c12_readsConfig (l : Launch) (D : zDt) (Sh : zSh) (top : Nat) (hO : zOK Sh) (o_ : Nat) (v_k : Int32) (v_p : Int32) (v_bits : Int32) (μ : zM) (μ_ : zM) (ho : (Sh o_).1 = 19) (h : f12_readsConfig o_ v_k v_p v_bits μ = some μ_) : zMet l D zK1 yX12_readsConfig cX12_readsConfig 7 none (zrm 7 157) [.ref o_, .int v_k, .int v_p, .int v_bits] Sh top μ none Sh top μ_ 0 0 := by
  refine zMet_of (by decide) (Nat.le_of_ble_eq_true rfl) fun X hX1 hX2 fx fin => ?_
  subst hX1; subst hX2
  replace fx : zFix X cX12_readsConfig RX12 (zrm 7 157) 7 := fx
  show zZ zK1 X (zT0 Sh top) μ 0 [(0, .ref o_), (1, .int v_k), (2, .int v_p), (3, .int v_bits)] []
  unfold f12_readsConfig at h
  refine z_iload_n fx (k := 2) (i := 2) rfl rfl d12_readsConfig_0 ?_
  refine z_bipush fx (v := 6) bp6 d12_readsConfig_1 ?_
  obtain ⟨t1, e1, h⟩ := zinv h
  refine z_idiv fx e1 d12_readsConfig_3 ?_
  refine z_istore fx (i := 4) rfl (lv' := [(0, .ref o_), (1, .int v_k), (2, .int v_p), (3, .int v_bits), (4, .int t1)]) rfl rfl d12_readsConfig_4 ?_
  obtain ⟨b2, e2, h⟩ := zinv h
  have k3 : zZ zK1 X (zT0 Sh top) μ 22 [(0, .ref o_), (1, .int v_k), (2, .int v_p), (3, .int v_bits), (4, .int t1)] [.int (bI b2)] := by
    refine z_istore fx (i := 5) rfl (lv' := [(0, .ref o_), (1, .int v_k), (2, .int v_p), (3, .int v_bits), (4, .int t1), (5, .int (bI b2))]) rfl rfl d12_readsConfig_22 ?_
    refine z_aload_n fx (k := 0) (i := 0) rfl rfl d12_readsConfig_24 ?_
    refine z_iload_n fx (k := 1) (i := 1) rfl rfl d12_readsConfig_25 ?_
    refine z_bipush fx (v := 8) bp8 d12_readsConfig_26 ?_
    obtain ⟨t4, e7, h⟩ := zinv h
    refine z_cVr fx (c12_msg (zLo X) (zDo X) Sh top hO o_ v_k 8 μ _ ho e7) mv12_msg ml12_366 ho rfl rfl rfl rfl d12_readsConfig_28 ?_
    refine z_iconst fx (v := 1) ic1 d12_readsConfig_31 ?_
    refine z_iadd fx d12_readsConfig_32 ?_
    refine z_aload_n fx (k := 0) (i := 0) rfl rfl d12_readsConfig_33 ?_
    refine z_getI fx 12 4 1204 ho lf12_22 ⟨fk12_4, rfl⟩ d12_readsConfig_34 ?_
    refine z_icmp_le fx d12_readsConfig_37 (fun c8 => ?_) (fun c8 => ?_)
    · replace h := zif_f c8 h
      obtain ⟨b5, e10, h⟩ := zinv h
      have kt9 : b5 = true → zZ zK1 X (zT0 Sh top) μ 99 [(0, .ref o_), (1, .int v_k), (2, .int v_p), (3, .int v_bits), (4, .int t1), (5, .int (bI b2))] [] := by
        intro hc
        replace h := zif_t hc h
        refine z_aload_n fx (k := 0) (i := 0) rfl rfl d12_readsConfig_99 ?_
        refine z_iload_n fx (k := 2) (i := 2) rfl rfl d12_readsConfig_100 ?_
        refine z_bipush fx (v := 9) bp9 d12_readsConfig_101 ?_
        refine z_iconst fx (v := 1) ic1 d12_readsConfig_103 ?_
        obtain ⟨μ6, e11, h⟩ := zinv h
        refine z_cVv fx (c12_sets (zLo X) (zDo X) Sh top hO o_ v_p 9 1 μ _ ho e11) mv12_sets ml12_344 ho rfl rfl rfl rfl d12_readsConfig_104 ?_
        cases h
        exact z_return fx fin d12_readsConfig_107
      have kf9 : b5 = false → zZ zK1 X (zT0 Sh top) μ 108 [(0, .ref o_), (1, .int v_k), (2, .int v_p), (3, .int v_bits), (4, .int t1), (5, .int (bI b2))] [] := by
        intro hc
        replace h := zif_f hc h
        refine z_aload_n fx (k := 0) (i := 0) rfl rfl d12_readsConfig_108 ?_
        refine z_iload_n fx (k := 2) (i := 2) rfl rfl d12_readsConfig_109 ?_
        refine z_bipush fx (v := 10) bp10 d12_readsConfig_110 ?_
        refine z_iconst fx (v := 1) ic1 d12_readsConfig_112 ?_
        obtain ⟨μ7, e12, h⟩ := zinv h
        refine z_cVv fx (c12_sets (zLo X) (zDo X) Sh top hO o_ v_p 10 1 μ _ ho e12) mv12_sets ml12_344 ho rfl rfl rfl rfl d12_readsConfig_113 ?_
        refine z_aload_n fx (k := 0) (i := 0) rfl rfl d12_readsConfig_116 ?_
        refine z_iload_n fx (k := 2) (i := 2) rfl rfl d12_readsConfig_117 ?_
        refine z_bipush fx (v := 11) bp11 d12_readsConfig_118 ?_
        refine z_aload_n fx (k := 0) (i := 0) rfl rfl d12_readsConfig_120 ?_
        refine z_iload_n fx (k := 1) (i := 1) rfl rfl d12_readsConfig_121 ?_
        refine z_iconst fx (v := 4) ic4 d12_readsConfig_122 ?_
        obtain ⟨t8, e13, h⟩ := zinv h
        refine z_cVr fx (c12_msg (zLo X) (zDo X) Sh top hO o_ v_k 4 μ7 _ ho e13) mv12_msg ml12_366 ho rfl rfl rfl rfl d12_readsConfig_123 ?_
        obtain ⟨μ9, e14, h⟩ := zinv h
        refine z_cVv fx (c12_sets (zLo X) (zDo X) Sh top hO o_ v_p 11 t8 μ7 _ ho e14) mv12_sets ml12_344 ho rfl rfl rfl rfl d12_readsConfig_126 ?_
        refine z_aload_n fx (k := 0) (i := 0) rfl rfl d12_readsConfig_129 ?_
        refine z_iload_n fx (k := 2) (i := 2) rfl rfl d12_readsConfig_130 ?_
        refine z_bipush fx (v := 12) bp12 d12_readsConfig_131 ?_
        refine z_aload_n fx (k := 0) (i := 0) rfl rfl d12_readsConfig_133 ?_
        refine z_iload_n fx (k := 1) (i := 1) rfl rfl d12_readsConfig_134 ?_
        refine z_iconst fx (v := 5) ic5 d12_readsConfig_135 ?_
        obtain ⟨t10, e15, h⟩ := zinv h
        refine z_cVr fx (c12_msg (zLo X) (zDo X) Sh top hO o_ v_k 5 μ9 _ ho e15) mv12_msg ml12_366 ho rfl rfl rfl rfl d12_readsConfig_136 ?_
        obtain ⟨μ11, e16, h⟩ := zinv h
        refine z_cVv fx (c12_sets (zLo X) (zDo X) Sh top hO o_ v_p 12 t10 μ9 _ ho e16) mv12_sets ml12_344 ho rfl rfl rfl rfl d12_readsConfig_139 ?_
        refine z_aload_n fx (k := 0) (i := 0) rfl rfl d12_readsConfig_142 ?_
        refine z_iload_n fx (k := 2) (i := 2) rfl rfl d12_readsConfig_143 ?_
        refine z_bipush fx (v := 13) bp13 d12_readsConfig_144 ?_
        refine z_aload_n fx (k := 0) (i := 0) rfl rfl d12_readsConfig_146 ?_
        refine z_iload_n fx (k := 1) (i := 1) rfl rfl d12_readsConfig_147 ?_
        refine z_bipush fx (v := 6) bp6 d12_readsConfig_148 ?_
        obtain ⟨t12, e17, h⟩ := zinv h
        refine z_cVr fx (c12_msg (zLo X) (zDo X) Sh top hO o_ v_k 6 μ11 _ ho e17) mv12_msg ml12_366 ho rfl rfl rfl rfl d12_readsConfig_150 ?_
        obtain ⟨μ13, e18, h⟩ := zinv h
        refine z_cVv fx (c12_sets (zLo X) (zDo X) Sh top hO o_ v_p 13 t12 μ11 _ ho e18) mv12_sets ml12_344 ho rfl rfl rfl rfl d12_readsConfig_153 ?_
        refine z_aload_n fx (k := 0) (i := 0) rfl rfl d12_readsConfig_156 ?_
        refine z_iload_n fx (k := 2) (i := 2) rfl rfl d12_readsConfig_157 ?_
        refine z_bipush fx (v := 14) bp14 d12_readsConfig_158 ?_
        refine z_aload_n fx (k := 0) (i := 0) rfl rfl d12_readsConfig_160 ?_
        refine z_iload_n fx (k := 1) (i := 1) rfl rfl d12_readsConfig_161 ?_
        refine z_bipush fx (v := 7) bp7 d12_readsConfig_162 ?_
        obtain ⟨t14, e19, h⟩ := zinv h
        refine z_cVr fx (c12_msg (zLo X) (zDo X) Sh top hO o_ v_k 7 μ13 _ ho e19) mv12_msg ml12_366 ho rfl rfl rfl rfl d12_readsConfig_164 ?_
        obtain ⟨μ15, e20, h⟩ := zinv h
        refine z_cVv fx (c12_sets (zLo X) (zDo X) Sh top hO o_ v_p 14 t14 μ13 _ ho e20) mv12_sets ml12_344 ho rfl rfl rfl rfl d12_readsConfig_167 ?_
        refine z_aload_n fx (k := 0) (i := 0) rfl rfl d12_readsConfig_170 ?_
        refine z_iload_n fx (k := 2) (i := 2) rfl rfl d12_readsConfig_171 ?_
        refine z_bipush fx (v := 15) bp15 d12_readsConfig_172 ?_
        refine z_aload_n fx (k := 0) (i := 0) rfl rfl d12_readsConfig_174 ?_
        refine z_iload_n fx (k := 1) (i := 1) rfl rfl d12_readsConfig_175 ?_
        refine z_bipush fx (v := 8) bp8 d12_readsConfig_176 ?_
        obtain ⟨t16, e21, h⟩ := zinv h
        refine z_cVr fx (c12_msg (zLo X) (zDo X) Sh top hO o_ v_k 8 μ15 _ ho e21) mv12_msg ml12_366 ho rfl rfl rfl rfl d12_readsConfig_178 ?_
        obtain ⟨μ17, e22, h⟩ := zinv h
        refine z_cVv fx (c12_sets (zLo X) (zDo X) Sh top hO o_ v_p 15 t16 μ15 _ ho e22) mv12_sets ml12_344 ho rfl rfl rfl rfl d12_readsConfig_181 ?_
        refine z_aload_n fx (k := 0) (i := 0) rfl rfl d12_readsConfig_184 ?_
        refine z_iload_n fx (k := 2) (i := 2) rfl rfl d12_readsConfig_185 ?_
        refine z_bipush fx (v := 16) bp16 d12_readsConfig_186 ?_
        refine z_iconst fx (v := 3) ic3 d12_readsConfig_188 ?_
        obtain ⟨μ18, e23, h⟩ := zinv h
        refine z_cVv fx (c12_sets (zLo X) (zDo X) Sh top hO o_ v_p 16 3 μ17 _ ho e23) mv12_sets ml12_344 ho rfl rfl rfl rfl d12_readsConfig_189 ?_
        refine z_aload_n fx (k := 0) (i := 0) rfl rfl d12_readsConfig_192 ?_
        refine z_iload fx (i := 4) rfl d12_readsConfig_193 ?_
        obtain ⟨μ19, e24, h⟩ := zinv h
        refine z_cVv fx (c12_chooses (zLo X) (zDo X) Sh top hO o_ t1 μ18 _ ho e24) mv12_chooses ml12_375 ho rfl rfl rfl rfl d12_readsConfig_195 ?_
        refine z_aload_n fx (k := 0) (i := 0) rfl rfl d12_readsConfig_198 ?_
        refine z_iload_n fx (k := 2) (i := 2) rfl rfl d12_readsConfig_199 ?_
        refine z_iconst fx (v := 0) ic0 d12_readsConfig_200 ?_
        obtain ⟨t20, e25, h⟩ := zinv h
        refine z_cVr fx (c12_portOf (zLo X) (zDo X) Sh top hO o_ v_p 0 μ19 _ ho e25) mv12_portOf ml12_334 ho rfl rfl rfl rfl d12_readsConfig_201 ?_
        refine z_istore fx (i := 6) rfl (lv' := [(0, .ref o_), (1, .int v_k), (2, .int v_p), (3, .int v_bits), (4, .int t1), (5, .int (bI b2)), (6, .int t20)]) rfl rfl d12_readsConfig_204 ?_
        refine z_iload fx (i := 6) rfl d12_readsConfig_206 ?_
        refine z_iconst fx (v := 2) ic2 d12_readsConfig_208 ?_
        refine z_icmp_ne fx d12_readsConfig_209 (fun c26 => ?_) (fun c26 => ?_)
        · replace h := zif_f c26 h
          obtain ⟨μ21, e27, h⟩ := zinv h
          have k28 : zZ zK1 X (zT0 Sh top) μ21 248 [(0, .ref o_), (1, .int v_k), (2, .int v_p), (3, .int v_bits), (4, .int t1), (5, .int (bI b2)), (6, .int t20)] [] := by
            refine z_iload fx (i := 6) rfl d12_readsConfig_248 ?_
            refine z_iconst fx (v := 1) ic1 d12_readsConfig_250 ?_
            refine z_icmp_eq fx d12_readsConfig_251 (fun c29 => ?_) (fun c29 => ?_)
            · replace h := zif_t c29 h
              obtain ⟨μ22, e30, h⟩ := zinv h
              have k31 : zZ zK1 X (zT0 Sh top) μ22 273 [(0, .ref o_), (1, .int v_k), (2, .int v_p), (3, .int v_bits), (4, .int t1), (5, .int (bI b2)), (6, .int t20)] [] := by
                obtain ⟨μ23, e32, h⟩ := zinv h
                have k33 : zZ zK1 X (zT0 Sh top) μ23 289 [(0, .ref o_), (1, .int v_k), (2, .int v_p), (3, .int v_bits), (4, .int t1), (5, .int (bI b2)), (6, .int t20)] [] := by
                  refine z_iload_n fx (k := 3) (i := 3) rfl rfl d12_readsConfig_289 ?_
                  refine z_iconst fx (v := 4) ic4 d12_readsConfig_290 ?_
                  obtain ⟨t24, e34, h⟩ := zinv h
                  refine z_cSr fx (c12_hasBit (zLo X) (zDo X) Sh top hO v_bits 4 μ23 _  e34) ms12_hasBit ml12_425 rfl rfl rfl rfl d12_readsConfig_291 ?_
                  refine z_ifb_eq fx d12_readsConfig_294 (fun c35 => ?_) (fun c35 => ?_)
                  · replace h := zif_f c35 h
                    cases h
                    exact z_return fx fin d12_readsConfig_302
                  · replace h := zif_t c35 h
                    refine z_aload_n fx (k := 0) (i := 0) rfl rfl d12_readsConfig_297 ?_
                    refine z_iload_n fx (k := 2) (i := 2) rfl rfl d12_readsConfig_298 ?_
                    obtain ⟨μ25, e36, h⟩ := zinv h
                    refine z_cVv fx (c12_spreads (zLo X) (zDo X) Sh top hO o_ v_p μ23 _ ho e36) mv12_spreads ml12_357 ho rfl rfl rfl rfl d12_readsConfig_299 ?_
                    cases h
                    exact z_return fx fin d12_readsConfig_302
                clear h
                refine z_iload_n fx (k := 3) (i := 3) rfl rfl d12_readsConfig_273 ?_
                refine z_bipush fx (v := 8) bp8 d12_readsConfig_274 ?_
                obtain ⟨t26, e37, e32⟩ := zinv e32
                refine z_cSr fx (c12_hasBit (zLo X) (zDo X) Sh top hO v_bits 8 μ22 _  e37) ms12_hasBit ml12_425 rfl rfl rfl rfl d12_readsConfig_276 ?_
                refine z_ifb_eq fx d12_readsConfig_279 (fun c38 => ?_) (fun c38 => ?_)
                · replace e32 := zif_f c38 e32
                  cases e32
                  exact k33
                · replace e32 := zif_t c38 e32
                  refine z_aload_n fx (k := 0) (i := 0) rfl rfl d12_readsConfig_282 ?_
                  refine z_iload_n fx (k := 2) (i := 2) rfl rfl d12_readsConfig_283 ?_
                  refine z_iconst fx (v := 3) ic3 d12_readsConfig_284 ?_
                  refine z_iconst fx (v := 0) ic0 d12_readsConfig_285 ?_
                  obtain ⟨μ27, e39, e32⟩ := zinv e32
                  refine z_cVv fx (c12_sets (zLo X) (zDo X) Sh top hO o_ v_p 3 0 μ22 _ ho e39) mv12_sets ml12_344 ho rfl rfl rfl rfl d12_readsConfig_286 ?_
                  cases e32
                  exact k33
              clear h
              refine z_aload_n fx (k := 0) (i := 0) rfl rfl d12_readsConfig_255 ?_
              refine z_iload fx (i := 4) rfl d12_readsConfig_256 ?_
              refine z_iconst fx (v := 2) ic2 d12_readsConfig_258 ?_
              obtain ⟨t28, e40, e30⟩ := zinv e30
              refine z_cVr fx (c12_of (zLo X) (zDo X) Sh top hO o_ t1 2 μ21 _ ho e40) mv12_of ml12_319 ho rfl rfl rfl rfl d12_readsConfig_259 ?_
              refine z_iconst fx (v := 1) ic1 d12_readsConfig_262 ?_
              refine z_icmp_ne fx d12_readsConfig_263 (fun c41 => ?_) (fun c41 => ?_)
              · replace e30 := zif_f c41 e30
                cases e30
                exact k31
              · replace e30 := zif_t c41 e30
                refine z_aload_n fx (k := 0) (i := 0) rfl rfl d12_readsConfig_266 ?_
                refine z_iload fx (i := 4) rfl d12_readsConfig_267 ?_
                refine z_iconst fx (v := 2) ic2 d12_readsConfig_269 ?_
                obtain ⟨μ29, e42, e30⟩ := zinv e30
                refine z_cVv fx (c12_marksAll (zLo X) (zDo X) Sh top hO o_ t1 2 μ21 _ ho e42) mv12_marksAll ml12_438 ho rfl rfl rfl rfl d12_readsConfig_270 ?_
                cases e30
                exact k31
            · replace h := zif_f c29 h
              cases h
              exact z_return fx fin d12_readsConfig_254
          clear h
          refine z_iload_n fx (k := 3) (i := 3) rfl rfl d12_readsConfig_213 ?_
          refine z_iconst fx (v := 1) ic1 d12_readsConfig_214 ?_
          obtain ⟨t30, e43, e27⟩ := zinv e27
          refine z_cSr fx (c12_hasBit (zLo X) (zDo X) Sh top hO v_bits 1 μ19 _  e43) ms12_hasBit ml12_425 rfl rfl rfl rfl d12_readsConfig_215 ?_
          refine z_ifb_eq fx d12_readsConfig_218 (fun c44 => ?_) (fun c44 => ?_)
          · replace e27 := zif_f c44 e27
            cases e27
            exact k28
          · replace e27 := zif_t c44 e27
            obtain ⟨μ31, e45, e27⟩ := zinv e27
            have k46 : zZ zK1 X (zT0 Sh top) μ31 232 [(0, .ref o_), (1, .int v_k), (2, .int v_p), (3, .int v_bits), (4, .int t1), (5, .int (bI b2)), (6, .int t20)] [] := by
              refine z_aload_n fx (k := 0) (i := 0) rfl rfl d12_readsConfig_232 ?_
              refine z_iload_n fx (k := 2) (i := 2) rfl rfl d12_readsConfig_233 ?_
              refine z_bipush fx (v := 7) bp7 d12_readsConfig_234 ?_
              refine z_iconst fx (v := 1) ic1 d12_readsConfig_236 ?_
              obtain ⟨μ32, e47, e27⟩ := zinv e27
              refine z_cVv fx (c12_sets (zLo X) (zDo X) Sh top hO o_ v_p 7 1 μ31 _ ho e47) mv12_sets ml12_344 ho rfl rfl rfl rfl d12_readsConfig_237 ?_
              refine z_aload_n fx (k := 0) (i := 0) rfl rfl d12_readsConfig_240 ?_
              refine z_iload_n fx (k := 2) (i := 2) rfl rfl d12_readsConfig_241 ?_
              refine z_bipush fx (v := 9) bp9 d12_readsConfig_242 ?_
              refine z_iconst fx (v := 1) ic1 d12_readsConfig_244 ?_
              obtain ⟨μ33, e48, e27⟩ := zinv e27
              refine z_cVv fx (c12_sets (zLo X) (zDo X) Sh top hO o_ v_p 9 1 μ32 _ ho e48) mv12_sets ml12_344 ho rfl rfl rfl rfl d12_readsConfig_245 ?_
              cases e27
              exact k28
            clear e27
            refine z_iload fx (i := 6) rfl d12_readsConfig_221 ?_
            refine z_iconst fx (v := 1) ic1 d12_readsConfig_223 ?_
            refine z_icmp_ne fx d12_readsConfig_224 (fun c49 => ?_) (fun c49 => ?_)
            · replace e45 := zif_f c49 e45
              cases e45
              exact k46
            · replace e45 := zif_t c49 e45
              refine z_aload_n fx (k := 0) (i := 0) rfl rfl d12_readsConfig_227 ?_
              refine z_iload_n fx (k := 2) (i := 2) rfl rfl d12_readsConfig_228 ?_
              obtain ⟨μ34, e50, e45⟩ := zinv e45
              refine z_cVv fx (c12_syncs (zLo X) (zDo X) Sh top hO o_ v_p μ19 _ ho e50) mv12_syncs ml12_435 ho rfl rfl rfl rfl d12_readsConfig_229 ?_
              cases e45
              exact k46
        · replace h := zif_t c26 h
          cases h
          exact z_return fx fin d12_readsConfig_212
      clear h
      refine z_iload fx (i := 5) rfl d12_readsConfig_60 ?_
      refine z_ifb_ne fx d12_readsConfig_62 (fun c51 => ?_) (fun c51 => ?_)
      · replace e10 := zif_t c51 e10
        cases e10
        exact kf9 rfl
      · replace e10 := zif_f c51 e10
        refine z_aload_n fx (k := 0) (i := 0) rfl rfl d12_readsConfig_65 ?_
        refine z_iload_n fx (k := 2) (i := 2) rfl rfl d12_readsConfig_66 ?_
        refine z_aload_n fx (k := 0) (i := 0) rfl rfl d12_readsConfig_67 ?_
        refine z_iload_n fx (k := 1) (i := 1) rfl rfl d12_readsConfig_68 ?_
        refine z_iconst fx (v := 4) ic4 d12_readsConfig_69 ?_
        obtain ⟨t35, e52, e10⟩ := zinv e10
        refine z_cVr fx (c12_msg (zLo X) (zDo X) Sh top hO o_ v_k 4 μ _ ho e52) mv12_msg ml12_366 ho rfl rfl rfl rfl d12_readsConfig_70 ?_
        refine z_aload_n fx (k := 0) (i := 0) rfl rfl d12_readsConfig_73 ?_
        refine z_iload_n fx (k := 1) (i := 1) rfl rfl d12_readsConfig_74 ?_
        refine z_iconst fx (v := 5) ic5 d12_readsConfig_75 ?_
        obtain ⟨t36, e53, e10⟩ := zinv e10
        refine z_cVr fx (c12_msg (zLo X) (zDo X) Sh top hO o_ v_k 5 μ _ ho e53) mv12_msg ml12_366 ho rfl rfl rfl rfl d12_readsConfig_76 ?_
        refine z_aload_n fx (k := 0) (i := 0) rfl rfl d12_readsConfig_79 ?_
        refine z_iload_n fx (k := 1) (i := 1) rfl rfl d12_readsConfig_80 ?_
        refine z_bipush fx (v := 6) bp6 d12_readsConfig_81 ?_
        obtain ⟨t37, e54, e10⟩ := zinv e10
        refine z_cVr fx (c12_msg (zLo X) (zDo X) Sh top hO o_ v_k 6 μ _ ho e54) mv12_msg ml12_366 ho rfl rfl rfl rfl d12_readsConfig_83 ?_
        refine z_aload_n fx (k := 0) (i := 0) rfl rfl d12_readsConfig_86 ?_
        refine z_iload_n fx (k := 1) (i := 1) rfl rfl d12_readsConfig_87 ?_
        refine z_bipush fx (v := 7) bp7 d12_readsConfig_88 ?_
        obtain ⟨t38, e55, e10⟩ := zinv e10
        refine z_cVr fx (c12_msg (zLo X) (zDo X) Sh top hO o_ v_k 7 μ _ ho e55) mv12_msg ml12_366 ho rfl rfl rfl rfl d12_readsConfig_90 ?_
        obtain ⟨t39, e56, e10⟩ := zinv e10
        refine z_cVr fx (c12_isLessThanOurs (zLo X) (zDo X) Sh top hO o_ v_p t35 t36 t37 t38 μ _ ho e56) mv12_isLessThanOurs ml12_396 ho rfl rfl rfl rfl d12_readsConfig_93 ?_
        cases e10
        refine z_ifb_ne fx d12_readsConfig_96 (fun c57 => ?_) (fun c57 => ?_)
        · exact kf9 (by rw [c57]; rfl)
        · exact kt9 (by rw [c57]; rfl)
    · replace h := zif_t c8 h
      refine z_aload_n fx (k := 0) (i := 0) rfl rfl d12_readsConfig_40 ?_
      refine z_iload_n fx (k := 2) (i := 2) rfl rfl d12_readsConfig_41 ?_
      refine z_bipush fx (v := 10) bp10 d12_readsConfig_42 ?_
      refine z_iconst fx (v := 0) ic0 d12_readsConfig_44 ?_
      obtain ⟨μ40, e58, h⟩ := zinv h
      refine z_cVv fx (c12_sets (zLo X) (zDo X) Sh top hO o_ v_p 10 0 μ _ ho e58) mv12_sets ml12_344 ho rfl rfl rfl rfl d12_readsConfig_45 ?_
      obtain ⟨μ41, e59, h⟩ := zinv h
      have k60 : zZ zK1 X (zT0 Sh top) μ41 59 [(0, .ref o_), (1, .int v_k), (2, .int v_p), (3, .int v_bits), (4, .int t1), (5, .int (bI b2))] [] := by
        cases h
        exact z_return fx fin d12_readsConfig_59
      clear h
      refine z_iload fx (i := 5) rfl d12_readsConfig_48 ?_
      refine z_ifb_eq fx d12_readsConfig_50 (fun c61 => ?_) (fun c61 => ?_)
      · replace e59 := zif_f c61 e59
        cases e59
        exact k60
      · replace e59 := zif_t c61 e59
        refine z_aload_n fx (k := 0) (i := 0) rfl rfl d12_readsConfig_53 ?_
        refine z_iload fx (i := 4) rfl d12_readsConfig_54 ?_
        obtain ⟨μ42, e62, e59⟩ := zinv e59
        refine z_cVv fx (c12_chooses (zLo X) (zDo X) Sh top hO o_ t1 μ40 _ ho e62) mv12_chooses ml12_375 ho rfl rfl rfl rfl d12_readsConfig_56 ?_
        cases e59
        exact k60
  have kt4 : b2 = true → zZ zK1 X (zT0 Sh top) μ 17 [(0, .ref o_), (1, .int v_k), (2, .int v_p), (3, .int v_bits), (4, .int t1)] [] := by
    intro hc
    refine z_iconst fx (v := 1) ic1 d12_readsConfig_17 ?_
    refine z_goto fx d12_readsConfig_18 ?_
    exact z_top (congrArg Value.int (show 1 = bI b2 by rw [hc]; rfl)) k3
  have kf4 : b2 = false → zZ zK1 X (zT0 Sh top) μ 21 [(0, .ref o_), (1, .int v_k), (2, .int v_p), (3, .int v_bits), (4, .int t1)] [] := by
    intro hc
    refine z_iconst fx (v := 0) ic0 d12_readsConfig_21 ?_
    exact z_top (congrArg Value.int (show 0 = bI b2 by rw [hc]; rfl)) k3
  refine z_aload_n fx (k := 0) (i := 0) rfl rfl d12_readsConfig_6 ?_
  refine z_iload_n fx (k := 2) (i := 2) rfl rfl d12_readsConfig_7 ?_
  refine z_bipush fx (v := 10) bp10 d12_readsConfig_8 ?_
  obtain ⟨t3, e5, e2⟩ := zinv e2
  refine z_cVr fx (c12_portOf (zLo X) (zDo X) Sh top hO o_ v_p 10 μ _ ho e5) mv12_portOf ml12_334 ho rfl rfl rfl rfl d12_readsConfig_10 ?_
  refine z_iconst fx (v := 1) ic1 d12_readsConfig_13 ?_
  cases e2
  refine z_icmp_ne fx d12_readsConfig_14 (fun c6 => ?_) (fun c6 => ?_)
  · exact kf4 c6
  · exact kt4 c6
theorem d12_reads_0 : zd cX12_reads 0 (.aload_n 0) 1 1 := by decide +kernel
theorem d12_reads_1 : zd cX12_reads 1 (.iload_n 1) 1 2 := by decide +kernel
theorem d12_reads_2 : zd cX12_reads 2 (.iconst 1) 1 3 := by decide +kernel
theorem d12_reads_3 : zd cX12_reads 3 (.invokevirtual 366) 3 6 := by decide +kernel
theorem d12_reads_6 : zd cX12_reads 6 (.aload_n 0) 1 7 := by decide +kernel
theorem d12_reads_7 : zd cX12_reads 7 (.iload_n 1) 1 8 := by decide +kernel
theorem d12_reads_8 : zd cX12_reads 8 (.iconst 2) 1 9 := by decide +kernel
theorem d12_reads_9 : zd cX12_reads 9 (.invokevirtual 366) 3 12 := by decide +kernel
theorem d12_reads_12 : zd cX12_reads 12 (.invokestatic 325) 3 15 := by decide +kernel
theorem d12_reads_15 : zd cX12_reads 15 (.istore_n 2) 1 16 := by decide +kernel
theorem d12_reads_16 : zd cX12_reads 16 (.iload_n 2) 1 17 := by decide +kernel
theorem d12_reads_17 : zd cX12_reads 17 (.bipush 6) 2 19 := by decide +kernel
theorem d12_reads_19 : zd cX12_reads 19 (.idiv) 1 20 := by decide +kernel
theorem d12_reads_20 : zd cX12_reads 20 (.istore_n 3) 1 21 := by decide +kernel
theorem d12_reads_21 : zd cX12_reads 21 (.aload_n 0) 1 22 := by decide +kernel
theorem d12_reads_22 : zd cX12_reads 22 (.iload_n 1) 1 23 := by decide +kernel
theorem d12_reads_23 : zd cX12_reads 23 (.bipush 9) 2 25 := by decide +kernel
theorem d12_reads_25 : zd cX12_reads 25 (.invokevirtual 366) 3 28 := by decide +kernel
theorem d12_reads_28 : zd cX12_reads 28 (.istore 4) 2 30 := by decide +kernel
theorem d12_reads_30 : zd cX12_reads 30 (.aload_n 0) 1 31 := by decide +kernel
theorem d12_reads_31 : zd cX12_reads 31 (.iload_n 3) 1 32 := by decide +kernel
theorem d12_reads_32 : zd cX12_reads 32 (.iconst 2) 1 33 := by decide +kernel
theorem d12_reads_33 : zd cX12_reads 33 (.invokevirtual 319) 3 36 := by decide +kernel
theorem d12_reads_36 : zd cX12_reads 36 (.iconst 1) 1 37 := by decide +kernel
theorem d12_reads_37 : zj cX12_reads 37 (.if_icmp .ne 7) 7 40 44 := by decide +kernel
theorem d12_reads_40 : zd cX12_reads 40 (.iconst 1) 1 41 := by decide +kernel
theorem d12_reads_41 : zj cX12_reads 41 (.goto 4) 4 44 45 := by decide +kernel
theorem d12_reads_44 : zd cX12_reads 44 (.iconst 0) 1 45 := by decide +kernel
theorem d12_reads_45 : zd cX12_reads 45 (.istore 5) 2 47 := by decide +kernel
theorem d12_reads_47 : zd cX12_reads 47 (.iload 5) 2 49 := by decide +kernel
theorem d12_reads_49 : zj cX12_reads 49 (.ifCond .eq 14) 14 52 63 := by decide +kernel
theorem d12_reads_52 : zd cX12_reads 52 (.iload 4) 2 54 := by decide +kernel
theorem d12_reads_54 : zd cX12_reads 54 (.bipush 16) 2 56 := by decide +kernel
theorem d12_reads_56 : zd cX12_reads 56 (.invokestatic 425) 3 59 := by decide +kernel
theorem d12_reads_59 : zj cX12_reads 59 (.ifCond .ne 4) 4 62 63 := by decide +kernel
theorem d12_reads_62 : zd cX12_reads 62 (.return_) 1 63 := by decide +kernel
theorem d12_reads_63 : zd cX12_reads 63 (.aload_n 0) 1 64 := by decide +kernel
theorem d12_reads_64 : zd cX12_reads 64 (.iload_n 2) 1 65 := by decide +kernel
theorem d12_reads_65 : zd cX12_reads 65 (.iconst 5) 1 66 := by decide +kernel
theorem d12_reads_66 : zd cX12_reads 66 (.invokevirtual 334) 3 69 := by decide +kernel
theorem d12_reads_69 : zd cX12_reads 69 (.iconst 1) 1 70 := by decide +kernel
theorem d12_reads_70 : zj cX12_reads 70 (.if_icmp .ne 25) 25 73 95 := by decide +kernel
theorem d12_reads_73 : zd cX12_reads 73 (.aload_n 0) 1 74 := by decide +kernel
theorem d12_reads_74 : zd cX12_reads 74 (.iload_n 2) 1 75 := by decide +kernel
theorem d12_reads_75 : zd cX12_reads 75 (.iconst 5) 1 76 := by decide +kernel
theorem d12_reads_76 : zd cX12_reads 76 (.iconst 0) 1 77 := by decide +kernel
theorem d12_reads_77 : zd cX12_reads 77 (.invokevirtual 344) 3 80 := by decide +kernel
theorem d12_reads_80 : zd cX12_reads 80 (.aload_n 0) 1 81 := by decide +kernel
theorem d12_reads_81 : zd cX12_reads 81 (.iload_n 2) 1 82 := by decide +kernel
theorem d12_reads_82 : zd cX12_reads 82 (.invokevirtual 419) 3 85 := by decide +kernel
theorem d12_reads_85 : zd cX12_reads 85 (.aload_n 0) 1 86 := by decide +kernel
theorem d12_reads_86 : zd cX12_reads 86 (.iload_n 2) 1 87 := by decide +kernel
theorem d12_reads_87 : zd cX12_reads 87 (.iconst 2) 1 88 := by decide +kernel
theorem d12_reads_88 : zd cX12_reads 88 (.aload_n 0) 1 89 := by decide +kernel
theorem d12_reads_89 : zd cX12_reads 89 (.getfield 25) 3 92 := by decide +kernel
theorem d12_reads_92 : zd cX12_reads 92 (.invokevirtual 344) 3 95 := by decide +kernel
theorem d12_reads_95 : zd cX12_reads 95 (.iload 4) 2 97 := by decide +kernel
theorem d12_reads_97 : zd cX12_reads 97 (.bipush 16) 2 99 := by decide +kernel
theorem d12_reads_99 : zd cX12_reads 99 (.invokestatic 425) 3 102 := by decide +kernel
theorem d12_reads_102 : zj cX12_reads 102 (.ifCond .eq 7) 7 105 109 := by decide +kernel
theorem d12_reads_105 : zd cX12_reads 105 (.iconst 1) 1 106 := by decide +kernel
theorem d12_reads_106 : zj cX12_reads 106 (.goto 4) 4 109 110 := by decide +kernel
theorem d12_reads_109 : zd cX12_reads 109 (.iconst 0) 1 110 := by decide +kernel
theorem d12_reads_110 : zd cX12_reads 110 (.istore 6) 2 112 := by decide +kernel
theorem d12_reads_112 : zd cX12_reads 112 (.iload 5) 2 114 := by decide +kernel
theorem d12_reads_114 : zj cX12_reads 114 (.ifCond .ne 32) 32 117 146 := by decide +kernel
theorem d12_reads_117 : zd cX12_reads 117 (.aload_n 0) 1 118 := by decide +kernel
theorem d12_reads_118 : zd cX12_reads 118 (.iload_n 2) 1 119 := by decide +kernel
theorem d12_reads_119 : zd cX12_reads 119 (.bipush 6) 2 121 := by decide +kernel
theorem d12_reads_121 : zd cX12_reads 121 (.invokevirtual 334) 3 124 := by decide +kernel
theorem d12_reads_124 : zd cX12_reads 124 (.iload 6) 2 126 := by decide +kernel
theorem d12_reads_126 : zj cX12_reads 126 (.if_icmp .eq 20) 20 129 146 := by decide +kernel
theorem d12_reads_129 : zd cX12_reads 129 (.aload_n 0) 1 130 := by decide +kernel
theorem d12_reads_130 : zd cX12_reads 130 (.iload_n 2) 1 131 := by decide +kernel
theorem d12_reads_131 : zd cX12_reads 131 (.bipush 6) 2 133 := by decide +kernel
theorem d12_reads_133 : zd cX12_reads 133 (.iload 6) 2 135 := by decide +kernel
theorem d12_reads_135 : zd cX12_reads 135 (.invokevirtual 344) 3 138 := by decide +kernel
theorem d12_reads_138 : zd cX12_reads 138 (.aload_n 0) 1 139 := by decide +kernel
theorem d12_reads_139 : zd cX12_reads 139 (.iload_n 2) 1 140 := by decide +kernel
theorem d12_reads_140 : zd cX12_reads 140 (.bipush 9) 2 142 := by decide +kernel
theorem d12_reads_142 : zd cX12_reads 142 (.iconst 1) 1 143 := by decide +kernel
theorem d12_reads_143 : zd cX12_reads 143 (.invokevirtual 344) 3 146 := by decide +kernel
theorem d12_reads_146 : zd cX12_reads 146 (.aload_n 0) 1 147 := by decide +kernel
theorem d12_reads_147 : zd cX12_reads 147 (.iload_n 1) 1 148 := by decide +kernel
theorem d12_reads_148 : zd cX12_reads 148 (.iconst 3) 1 149 := by decide +kernel
theorem d12_reads_149 : zd cX12_reads 149 (.invokevirtual 366) 3 152 := by decide +kernel
theorem d12_reads_152 : zd cX12_reads 152 (.iconst 1) 1 153 := by decide +kernel
theorem d12_reads_153 : zj cX12_reads 153 (.if_icmp .ne 14) 14 156 167 := by decide +kernel
theorem d12_reads_156 : zd cX12_reads 156 (.aload_n 0) 1 157 := by decide +kernel
theorem d12_reads_157 : zd cX12_reads 157 (.iload_n 1) 1 158 := by decide +kernel
theorem d12_reads_158 : zd cX12_reads 158 (.iload_n 2) 1 159 := by decide +kernel
theorem d12_reads_159 : zd cX12_reads 159 (.iload 4) 2 161 := by decide +kernel
theorem d12_reads_161 : zd cX12_reads 161 (.invokevirtual 429) 3 164 := by decide +kernel
theorem d12_reads_164 : zj cX12_reads 164 (.goto 11) 11 167 175 := by decide +kernel
theorem d12_reads_167 : zd cX12_reads 167 (.aload_n 0) 1 168 := by decide +kernel
theorem d12_reads_168 : zd cX12_reads 168 (.iload_n 1) 1 169 := by decide +kernel
theorem d12_reads_169 : zd cX12_reads 169 (.iload_n 2) 1 170 := by decide +kernel
theorem d12_reads_170 : zd cX12_reads 170 (.iload 4) 2 172 := by decide +kernel
theorem d12_reads_172 : zd cX12_reads 172 (.invokevirtual 432) 3 175 := by decide +kernel
theorem d12_reads_175 : zd cX12_reads 175 (.return_) 1 176 := by decide +kernel
set_option maxHeartbeats 4000000 in
set_option maxRecDepth 20000 in
theorem c12_reads (l : Launch) (D : zDt) (Sh : zSh) (top : Nat) (hO : zOK Sh) (o_ : Nat) (v_k : Int32) (μ : zM) (μ_ : zM) (ho : (Sh o_).1 = 19) (h : f12_reads o_ v_k μ = some μ_) : zMet l D zK1 yX12_reads cX12_reads 7 none (zrm 8 183) [.ref o_, .int v_k] Sh top μ none Sh top μ_ 0 0 := by
  refine zMet_of (by decide) (Nat.le_of_ble_eq_true rfl) fun X hX1 hX2 fx fin => ?_
  subst hX1; subst hX2
  replace fx : zFix X cX12_reads RX12 (zrm 8 183) 7 := fx
  show zZ zK1 X (zT0 Sh top) μ 0 [(0, .ref o_), (1, .int v_k)] []
  unfold f12_reads at h
  refine z_aload_n fx (k := 0) (i := 0) rfl rfl d12_reads_0 ?_
  refine z_iload_n fx (k := 1) (i := 1) rfl rfl d12_reads_1 ?_
  refine z_iconst fx (v := 1) ic1 d12_reads_2 ?_
  obtain ⟨t1, e1, h⟩ := zinv h
  refine z_cVr fx (c12_msg (zLo X) (zDo X) Sh top hO o_ v_k 1 μ _ ho e1) mv12_msg ml12_366 ho rfl rfl rfl rfl d12_reads_3 ?_
  refine z_aload_n fx (k := 0) (i := 0) rfl rfl d12_reads_6 ?_
  refine z_iload_n fx (k := 1) (i := 1) rfl rfl d12_reads_7 ?_
  refine z_iconst fx (v := 2) ic2 d12_reads_8 ?_
  obtain ⟨t2, e2, h⟩ := zinv h
  refine z_cVr fx (c12_msg (zLo X) (zDo X) Sh top hO o_ v_k 2 μ _ ho e2) mv12_msg ml12_366 ho rfl rfl rfl rfl d12_reads_9 ?_
  obtain ⟨t3, e3, h⟩ := zinv h
  refine z_cSr fx (c12_placeOf (zLo X) (zDo X) Sh top hO t1 t2 μ _  e3) ms12_placeOf ml12_325 rfl rfl rfl rfl d12_reads_12 ?_
  refine z_istore_n fx (k := 2) (i := 2) rfl rfl (lv' := [(0, .ref o_), (1, .int v_k), (2, .int t3)]) rfl rfl d12_reads_15 ?_
  refine z_iload_n fx (k := 2) (i := 2) rfl rfl d12_reads_16 ?_
  refine z_bipush fx (v := 6) bp6 d12_reads_17 ?_
  obtain ⟨t4, e4, h⟩ := zinv h
  refine z_idiv fx e4 d12_reads_19 ?_
  refine z_istore_n fx (k := 3) (i := 3) rfl rfl (lv' := [(0, .ref o_), (1, .int v_k), (2, .int t3), (3, .int t4)]) rfl rfl d12_reads_20 ?_
  refine z_aload_n fx (k := 0) (i := 0) rfl rfl d12_reads_21 ?_
  refine z_iload_n fx (k := 1) (i := 1) rfl rfl d12_reads_22 ?_
  refine z_bipush fx (v := 9) bp9 d12_reads_23 ?_
  obtain ⟨t5, e5, h⟩ := zinv h
  refine z_cVr fx (c12_msg (zLo X) (zDo X) Sh top hO o_ v_k 9 μ _ ho e5) mv12_msg ml12_366 ho rfl rfl rfl rfl d12_reads_25 ?_
  refine z_istore fx (i := 4) rfl (lv' := [(0, .ref o_), (1, .int v_k), (2, .int t3), (3, .int t4), (4, .int t5)]) rfl rfl d12_reads_28 ?_
  obtain ⟨b6, e6, h⟩ := zinv h
  have k7 : zZ zK1 X (zT0 Sh top) μ 45 [(0, .ref o_), (1, .int v_k), (2, .int t3), (3, .int t4), (4, .int t5)] [.int (bI b6)] := by
    refine z_istore fx (i := 5) rfl (lv' := [(0, .ref o_), (1, .int v_k), (2, .int t3), (3, .int t4), (4, .int t5), (5, .int (bI b6))]) rfl rfl d12_reads_45 ?_
    obtain ⟨b8, e12, h⟩ := zinv h
    have kt11 : b8 = true → zZ zK1 X (zT0 Sh top) μ 62 [(0, .ref o_), (1, .int v_k), (2, .int t3), (3, .int t4), (4, .int t5), (5, .int (bI b6))] [] := by
      intro hc
      replace h := zif_t hc h
      cases h
      exact z_return fx fin d12_reads_62
    have kf11 : b8 = false → zZ zK1 X (zT0 Sh top) μ 63 [(0, .ref o_), (1, .int v_k), (2, .int t3), (3, .int t4), (4, .int t5), (5, .int (bI b6))] [] := by
      intro hc
      replace h := zif_f hc h
      obtain ⟨μ9, e13, h⟩ := zinv h
      have k14 : zZ zK1 X (zT0 Sh top) μ9 95 [(0, .ref o_), (1, .int v_k), (2, .int t3), (3, .int t4), (4, .int t5), (5, .int (bI b6))] [] := by
        obtain ⟨x10, e15, h⟩ := zinv h
        have k16 : zZ zK1 X (zT0 Sh top) μ9 110 [(0, .ref o_), (1, .int v_k), (2, .int t3), (3, .int t4), (4, .int t5), (5, .int (bI b6))] [.int x10] := by
          refine z_istore fx (i := 6) rfl (lv' := [(0, .ref o_), (1, .int v_k), (2, .int t3), (3, .int t4), (4, .int t5), (5, .int (bI b6)), (6, .int x10)]) rfl rfl d12_reads_110 ?_
          obtain ⟨μ12, e19, h⟩ := zinv h
          have k20 : zZ zK1 X (zT0 Sh top) μ12 146 [(0, .ref o_), (1, .int v_k), (2, .int t3), (3, .int t4), (4, .int t5), (5, .int (bI b6)), (6, .int x10)] [] := by
            refine z_aload_n fx (k := 0) (i := 0) rfl rfl d12_reads_146 ?_
            refine z_iload_n fx (k := 1) (i := 1) rfl rfl d12_reads_147 ?_
            refine z_iconst fx (v := 3) ic3 d12_reads_148 ?_
            obtain ⟨t13, e21, h⟩ := zinv h
            refine z_cVr fx (c12_msg (zLo X) (zDo X) Sh top hO o_ v_k 3 μ12 _ ho e21) mv12_msg ml12_366 ho rfl rfl rfl rfl d12_reads_149 ?_
            refine z_iconst fx (v := 1) ic1 d12_reads_152 ?_
            refine z_icmp_ne fx d12_reads_153 (fun c22 => ?_) (fun c22 => ?_)
            · replace h := zif_f c22 h
              refine z_aload_n fx (k := 0) (i := 0) rfl rfl d12_reads_167 ?_
              refine z_iload_n fx (k := 1) (i := 1) rfl rfl d12_reads_168 ?_
              refine z_iload_n fx (k := 2) (i := 2) rfl rfl d12_reads_169 ?_
              refine z_iload fx (i := 4) rfl d12_reads_170 ?_
              obtain ⟨μ14, e23, h⟩ := zinv h
              refine z_cVv fx (c12_readsConfig (zLo X) (zDo X) Sh top hO o_ v_k t3 t5 μ12 _ ho e23) mv12_readsConfig ml12_432 ho rfl rfl rfl rfl d12_reads_172 ?_
              cases h
              exact z_return fx fin d12_reads_175
            · replace h := zif_t c22 h
              refine z_aload_n fx (k := 0) (i := 0) rfl rfl d12_reads_156 ?_
              refine z_iload_n fx (k := 1) (i := 1) rfl rfl d12_reads_157 ?_
              refine z_iload_n fx (k := 2) (i := 2) rfl rfl d12_reads_158 ?_
              refine z_iload fx (i := 4) rfl d12_reads_159 ?_
              obtain ⟨μ15, e24, h⟩ := zinv h
              refine z_cVv fx (c12_readsReply (zLo X) (zDo X) Sh top hO o_ v_k t3 t5 μ12 _ ho e24) mv12_readsReply ml12_429 ho rfl rfl rfl rfl d12_reads_161 ?_
              refine z_goto fx d12_reads_164 ?_
              cases h
              exact z_return fx fin d12_reads_175
          clear h
          obtain ⟨b16, e26, e19⟩ := zinv e19
          have kt25 : b16 = true → zZ zK1 X (zT0 Sh top) μ9 129 [(0, .ref o_), (1, .int v_k), (2, .int t3), (3, .int t4), (4, .int t5), (5, .int (bI b6)), (6, .int x10)] [] := by
            intro hc
            replace e19 := zif_t hc e19
            refine z_aload_n fx (k := 0) (i := 0) rfl rfl d12_reads_129 ?_
            refine z_iload_n fx (k := 2) (i := 2) rfl rfl d12_reads_130 ?_
            refine z_bipush fx (v := 6) bp6 d12_reads_131 ?_
            refine z_iload fx (i := 6) rfl d12_reads_133 ?_
            obtain ⟨μ17, e27, e19⟩ := zinv e19
            refine z_cVv fx (c12_sets (zLo X) (zDo X) Sh top hO o_ t3 6 x10 μ9 _ ho e27) mv12_sets ml12_344 ho rfl rfl rfl rfl d12_reads_135 ?_
            refine z_aload_n fx (k := 0) (i := 0) rfl rfl d12_reads_138 ?_
            refine z_iload_n fx (k := 2) (i := 2) rfl rfl d12_reads_139 ?_
            refine z_bipush fx (v := 9) bp9 d12_reads_140 ?_
            refine z_iconst fx (v := 1) ic1 d12_reads_142 ?_
            obtain ⟨μ18, e28, e19⟩ := zinv e19
            refine z_cVv fx (c12_sets (zLo X) (zDo X) Sh top hO o_ t3 9 1 μ17 _ ho e28) mv12_sets ml12_344 ho rfl rfl rfl rfl d12_reads_143 ?_
            cases e19
            exact k20
          have kf25 : b16 = false → zZ zK1 X (zT0 Sh top) μ9 146 [(0, .ref o_), (1, .int v_k), (2, .int t3), (3, .int t4), (4, .int t5), (5, .int (bI b6)), (6, .int x10)] [] := by
            intro hc
            replace e19 := zif_f hc e19
            cases e19
            exact k20
          clear e19
          refine z_iload fx (i := 5) rfl d12_reads_112 ?_
          refine z_ifb_ne fx d12_reads_114 (fun c29 => ?_) (fun c29 => ?_)
          · replace e26 := zif_t c29 e26
            cases e26
            exact kf25 rfl
          · replace e26 := zif_f c29 e26
            refine z_aload_n fx (k := 0) (i := 0) rfl rfl d12_reads_117 ?_
            refine z_iload_n fx (k := 2) (i := 2) rfl rfl d12_reads_118 ?_
            refine z_bipush fx (v := 6) bp6 d12_reads_119 ?_
            obtain ⟨t19, e30, e26⟩ := zinv e26
            refine z_cVr fx (c12_portOf (zLo X) (zDo X) Sh top hO o_ t3 6 μ9 _ ho e30) mv12_portOf ml12_334 ho rfl rfl rfl rfl d12_reads_121 ?_
            refine z_iload fx (i := 6) rfl d12_reads_124 ?_
            cases e26
            refine z_icmp_eq fx d12_reads_126 (fun c31 => ?_) (fun c31 => ?_)
            · exact kf25 (by rw [c31]; rfl)
            · exact kt25 (by rw [c31]; rfl)
        refine z_iload fx (i := 4) rfl d12_reads_95 ?_
        refine z_bipush fx (v := 16) bp16 d12_reads_97 ?_
        obtain ⟨t11, e17, e15⟩ := zinv e15
        refine z_cSr fx (c12_hasBit (zLo X) (zDo X) Sh top hO t5 16 μ9 _  e17) ms12_hasBit ml12_425 rfl rfl rfl rfl d12_reads_99 ?_
        refine z_ifb_eq fx d12_reads_102 (fun c18 => ?_) (fun c18 => ?_)
        · replace e15 := zif_f c18 e15
          refine z_iconst fx (v := 0) ic0 d12_reads_109 ?_
          cases e15
          exact k16
        · replace e15 := zif_t c18 e15
          refine z_iconst fx (v := 1) ic1 d12_reads_105 ?_
          cases e15
          refine z_goto fx d12_reads_106 ?_
          exact k16
      clear h
      refine z_aload_n fx (k := 0) (i := 0) rfl rfl d12_reads_63 ?_
      refine z_iload_n fx (k := 2) (i := 2) rfl rfl d12_reads_64 ?_
      refine z_iconst fx (v := 5) ic5 d12_reads_65 ?_
      obtain ⟨t20, e32, e13⟩ := zinv e13
      refine z_cVr fx (c12_portOf (zLo X) (zDo X) Sh top hO o_ t3 5 μ _ ho e32) mv12_portOf ml12_334 ho rfl rfl rfl rfl d12_reads_66 ?_
      refine z_iconst fx (v := 1) ic1 d12_reads_69 ?_
      refine z_icmp_ne fx d12_reads_70 (fun c33 => ?_) (fun c33 => ?_)
      · replace e13 := zif_f c33 e13
        cases e13
        exact k14
      · replace e13 := zif_t c33 e13
        refine z_aload_n fx (k := 0) (i := 0) rfl rfl d12_reads_73 ?_
        refine z_iload_n fx (k := 2) (i := 2) rfl rfl d12_reads_74 ?_
        refine z_iconst fx (v := 5) ic5 d12_reads_75 ?_
        refine z_iconst fx (v := 0) ic0 d12_reads_76 ?_
        obtain ⟨μ21, e34, e13⟩ := zinv e13
        refine z_cVv fx (c12_sets (zLo X) (zDo X) Sh top hO o_ t3 5 0 μ _ ho e34) mv12_sets ml12_344 ho rfl rfl rfl rfl d12_reads_77 ?_
        refine z_aload_n fx (k := 0) (i := 0) rfl rfl d12_reads_80 ?_
        refine z_iload_n fx (k := 2) (i := 2) rfl rfl d12_reads_81 ?_
        obtain ⟨μ22, e35, e13⟩ := zinv e13
        refine z_cVv fx (c12_shuts (zLo X) (zDo X) Sh top hO o_ t3 μ21 _ ho e35) mv12_shuts ml12_419 ho rfl rfl rfl rfl d12_reads_82 ?_
        refine z_aload_n fx (k := 0) (i := 0) rfl rfl d12_reads_85 ?_
        refine z_iload_n fx (k := 2) (i := 2) rfl rfl d12_reads_86 ?_
        refine z_iconst fx (v := 2) ic2 d12_reads_87 ?_
        refine z_aload_n fx (k := 0) (i := 0) rfl rfl d12_reads_88 ?_
        refine z_getI fx 12 5 1205 ho lf12_25 ⟨fk12_5, rfl⟩ d12_reads_89 ?_
        obtain ⟨μ23, e36, e13⟩ := zinv e13
        refine z_cVv fx (c12_sets (zLo X) (zDo X) Sh top hO o_ t3 2 (gF μ22 1205 o_) μ22 _ ho e36) mv12_sets ml12_344 ho rfl rfl rfl rfl d12_reads_92 ?_
        cases e13
        exact k14
    clear h
    refine z_iload fx (i := 5) rfl d12_reads_47 ?_
    refine z_ifb_eq fx d12_reads_49 (fun c37 => ?_) (fun c37 => ?_)
    · replace e12 := zif_f c37 e12
      cases e12
      exact kf11 rfl
    · replace e12 := zif_t c37 e12
      refine z_iload fx (i := 4) rfl d12_reads_52 ?_
      refine z_bipush fx (v := 16) bp16 d12_reads_54 ?_
      obtain ⟨t24, e38, e12⟩ := zinv e12
      refine z_cSr fx (c12_hasBit (zLo X) (zDo X) Sh top hO t5 16 μ _  e38) ms12_hasBit ml12_425 rfl rfl rfl rfl d12_reads_56 ?_
      cases e12
      refine z_ifb_ne fx d12_reads_59 (fun c39 => ?_) (fun c39 => ?_)
      · exact kf11 (by rw [c39]; rfl)
      · exact kt11 (by rw [c39]; rfl)
  have kt8 : b6 = true → zZ zK1 X (zT0 Sh top) μ 40 [(0, .ref o_), (1, .int v_k), (2, .int t3), (3, .int t4), (4, .int t5)] [] := by
    intro hc
    refine z_iconst fx (v := 1) ic1 d12_reads_40 ?_
    refine z_goto fx d12_reads_41 ?_
    exact z_top (congrArg Value.int (show 1 = bI b6 by rw [hc]; rfl)) k7
  have kf8 : b6 = false → zZ zK1 X (zT0 Sh top) μ 44 [(0, .ref o_), (1, .int v_k), (2, .int t3), (3, .int t4), (4, .int t5)] [] := by
    intro hc
    refine z_iconst fx (v := 0) ic0 d12_reads_44 ?_
    exact z_top (congrArg Value.int (show 0 = bI b6 by rw [hc]; rfl)) k7
  refine z_aload_n fx (k := 0) (i := 0) rfl rfl d12_reads_30 ?_
  refine z_iload_n fx (k := 3) (i := 3) rfl rfl d12_reads_31 ?_
  refine z_iconst fx (v := 2) ic2 d12_reads_32 ?_
  obtain ⟨t7, e9, e6⟩ := zinv e6
  refine z_cVr fx (c12_of (zLo X) (zDo X) Sh top hO o_ t4 2 μ _ ho e9) mv12_of ml12_319 ho rfl rfl rfl rfl d12_reads_33 ?_
  refine z_iconst fx (v := 1) ic1 d12_reads_36 ?_
  cases e6
  refine z_icmp_ne fx d12_reads_37 (fun c10 => ?_) (fun c10 => ?_)
  · exact kf8 c10
  · exact kt8 c10
