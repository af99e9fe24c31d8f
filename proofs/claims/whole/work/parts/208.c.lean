theorem d12_word_0 : zd cX12_word 0 (.aload_n 0) 1 1 := by decide +kernel
theorem d12_word_1 : zd cX12_word 1 (.invokevirtual 225) 3 4 := by decide +kernel
theorem d12_word_4 : zj cX12_word 4 (.ifCond .ne 4) 4 7 8 := by decide +kernel
theorem d12_word_7 : zd cX12_word 7 (.return_) 1 8 := by decide +kernel
theorem d12_word_8 : zd cX12_word 8 (.aload_n 0) 1 9 := by decide +kernel
theorem d12_word_9 : zd cX12_word 9 (.invokevirtual 229) 3 12 := by decide +kernel
theorem d12_word_12 : zd cX12_word 12 (.pop) 1 13 := by decide +kernel
theorem d12_word_13 : zd cX12_word 13 (.aload_n 0) 1 14 := by decide +kernel
theorem d12_word_14 : zd cX12_word 14 (.aload_n 0) 1 15 := by decide +kernel
theorem d12_word_15 : zd cX12_word 15 (.getfield 122) 3 18 := by decide +kernel
theorem d12_word_18 : zd cX12_word 18 (.putfield 125) 3 21 := by decide +kernel
theorem d12_word_21 : zd cX12_word 21 (.aload_n 0) 1 22 := by decide +kernel
theorem d12_word_22 : zd cX12_word 22 (.aload_n 0) 1 23 := by decide +kernel
theorem d12_word_23 : zd cX12_word 23 (.getfield 122) 3 26 := by decide +kernel
theorem d12_word_26 : zd cX12_word 26 (.invokevirtual 233) 3 29 := by decide +kernel
theorem d12_word_29 : zj cX12_word 29 (.ifCond .eq 29) 29 32 58 := by decide +kernel
theorem d12_word_32 : zd cX12_word 32 (.aload_n 0) 1 33 := by decide +kernel
theorem d12_word_33 : zd cX12_word 33 (.aload_n 0) 1 34 := by decide +kernel
theorem d12_word_34 : zd cX12_word 34 (.getfield 122) 3 37 := by decide +kernel
theorem d12_word_37 : zd cX12_word 37 (.iconst 1) 1 38 := by decide +kernel
theorem d12_word_38 : zd cX12_word 38 (.isub) 1 39 := by decide +kernel
theorem d12_word_39 : zd cX12_word 39 (.invokevirtual 233) 3 42 := by decide +kernel
theorem d12_word_42 : zj cX12_word 42 (.ifCond .ne 16) 16 45 58 := by decide +kernel
theorem d12_word_45 : zd cX12_word 45 (.aload_n 0) 1 46 := by decide +kernel
theorem d12_word_46 : zd cX12_word 46 (.aload_n 0) 1 47 := by decide +kernel
theorem d12_word_47 : zd cX12_word 47 (.getfield 122) 3 50 := by decide +kernel
theorem d12_word_50 : zd cX12_word 50 (.iconst 1) 1 51 := by decide +kernel
theorem d12_word_51 : zd cX12_word 51 (.isub) 1 52 := by decide +kernel
theorem d12_word_52 : zd cX12_word 52 (.invokevirtual 237) 3 55 := by decide +kernel
theorem d12_word_55 : zj cX12_word 55 (.ifCond .eq 13) 13 58 68 := by decide +kernel
theorem d12_word_58 : zd cX12_word 58 (.aload_n 0) 1 59 := by decide +kernel
theorem d12_word_59 : zd cX12_word 59 (.iconst 1) 1 60 := by decide +kernel
theorem d12_word_60 : zd cX12_word 60 (.aload_n 0) 1 61 := by decide +kernel
theorem d12_word_61 : zd cX12_word 61 (.getfield 122) 3 64 := by decide +kernel
theorem d12_word_64 : zd cX12_word 64 (.invokevirtual 240) 3 67 := by decide +kernel
theorem d12_word_67 : zd cX12_word 67 (.return_) 1 68 := by decide +kernel
theorem d12_word_68 : zd cX12_word 68 (.aload_n 0) 1 69 := by decide +kernel
theorem d12_word_69 : zd cX12_word 69 (.aload_n 0) 1 70 := by decide +kernel
theorem d12_word_70 : zd cX12_word 70 (.getfield 122) 3 73 := by decide +kernel
theorem d12_word_73 : zd cX12_word 73 (.invokevirtual 233) 3 76 := by decide +kernel
theorem d12_word_76 : zj cX12_word 76 (.ifCond .eq 16) 16 79 92 := by decide +kernel
theorem d12_word_79 : zd cX12_word 79 (.aload_n 0) 1 80 := by decide +kernel
theorem d12_word_80 : zd cX12_word 80 (.dup) 1 81 := by decide +kernel
theorem d12_word_81 : zd cX12_word 81 (.getfield 122) 3 84 := by decide +kernel
theorem d12_word_84 : zd cX12_word 84 (.iconst 1) 1 85 := by decide +kernel
theorem d12_word_85 : zd cX12_word 85 (.iadd) 1 86 := by decide +kernel
theorem d12_word_86 : zd cX12_word 86 (.putfield 122) 3 89 := by decide +kernel
theorem d12_word_89 : zj cX12_word 89 (.goto (-21)) (-21) 92 68 := by decide +kernel
theorem d12_word_92 : zd cX12_word 92 (.return_) 1 93 := by decide +kernel
set_option maxHeartbeats 4000000 in
set_option maxRecDepth 20000 in
theorem c12_word (l : Launch) (D : zDt) (Sh : zSh) (top : Nat) (hO : zOK Sh) (o_ : Nat) (μ : zM) (μ_ : zM) (ho : (Sh o_).1 = 19) (h : f12_word o_ μ = some μ_) : zMet l D zK1 yX12_word cX12_word 1 none (zrm 2 42) [.ref o_] Sh top μ none Sh top μ_ 0 0 := by
  refine zMet_of (by decide) (Nat.le_of_ble_eq_true rfl) fun X hX1 hX2 fx fin => ?_
  subst hX1; subst hX2
  replace fx : zFix X cX12_word RX12 (zrm 2 42) 1 := fx
  show zZ zK1 X (zT0 Sh top) μ 0 [(0, .ref o_)] []
  unfold f12_word at h
  refine z_aload_n fx (k := 0) (i := 0) rfl rfl d12_word_0 ?_
  obtain ⟨t1, e1, h⟩ := zinv h
  refine z_cVr fx (c12_goes (zLo X) (zDo X) Sh top hO o_ μ _ ho e1) mv12_goes ml12_225 ho rfl rfl rfl rfl d12_word_1 ?_
  refine z_ifb_ne fx d12_word_4 (fun c2 => ?_) (fun c2 => ?_)
  · replace h := zif_t c2 h
    refine z_aload_n fx (k := 0) (i := 0) rfl rfl d12_word_8 ?_
    obtain ⟨t2, μ3, e3, h⟩ := zinv2 h
    refine z_cVr fx (c12_here (zLo X) (zDo X) Sh top hO o_ μ _ _ ho e3) mv12_here ml12_229 ho rfl rfl rfl rfl d12_word_9 ?_
    refine z_pop fx rfl d12_word_12 ?_
    refine z_aload_n fx (k := 0) (i := 0) rfl rfl d12_word_13 ?_
    refine z_aload_n fx (k := 0) (i := 0) rfl rfl d12_word_14 ?_
    refine z_getI fx 12 37 1237 ho lf12_122 ⟨fk12_37, rfl⟩ d12_word_15 ?_
    obtain ⟨μ4, e4, h⟩ := zinv h
    refine z_putI fx (ci := 12) 38 ho lf12_125 fp12_38 e4 d12_word_18 ?_
    obtain ⟨b5, e6, h⟩ := zinv h
    have kt5 : b5 = true → zZ zK1 X (zT0 Sh top) μ4 58 [(0, .ref o_)] [] := by
      intro hc
      replace h := zif_t hc h
      refine z_aload_n fx (k := 0) (i := 0) rfl rfl d12_word_58 ?_
      refine z_iconst fx (v := 1) ic1 d12_word_59 ?_
      refine z_aload_n fx (k := 0) (i := 0) rfl rfl d12_word_60 ?_
      refine z_getI fx 12 37 1237 ho lf12_122 ⟨fk12_37, rfl⟩ d12_word_61 ?_
      obtain ⟨μ6, e7, h⟩ := zinv h
      refine z_cVv fx (c12_fails (zLo X) (zDo X) Sh top hO o_ 1 (gF μ4 1237 o_) μ4 _ ho e7) mv12_fails ml12_240 ho rfl rfl rfl rfl d12_word_64 ?_
      cases h
      exact z_return fx fin d12_word_67
    have kf5 : b5 = false → zZ zK1 X (zT0 Sh top) μ4 68 [(0, .ref o_)] [] := by
      intro hc
      replace h := zif_f hc h
      obtain ⟨μ8, e16, h⟩ := zinv h
      have kx11 : zZ zK1 X (zT0 Sh top) μ8 92 [(0, .ref o_)] [] := by
        cases h
        exact z_return fx fin d12_word_92
      clear h
      have klr10 : ∀ (n : Nat) (μ7 : zM), zloop (fun s => f12_word_L1 o_ s) n μ7 = some μ8 → zZ zK1 X (zT0 Sh top) μ7 68 [(0, .ref o_)] [] := by
        intro n
        induction n with
        | zero => intro μ7 hl9; cases hl9
        | succ n ih12 =>
          intro μ7 hl9
          obtain ⟨y, e8, hl9⟩ := zloop_inv hl9
          replace e8 : f12_word_L1 o_ μ7 = some y := e8
          unfold f12_word_L1 at e8
          refine z_aload_n fx (k := 0) (i := 0) rfl rfl d12_word_68 ?_
          refine z_aload_n fx (k := 0) (i := 0) rfl rfl d12_word_69 ?_
          refine z_getI fx 12 37 1237 ho lf12_122 ⟨fk12_37, rfl⟩ d12_word_70 ?_
          obtain ⟨t9, e13, e8⟩ := zinv e8
          refine z_cVr fx (c12_isSmall (zLo X) (zDo X) Sh top hO o_ (gF μ7 1237 o_) μ7 _ ho e13) mv12_isSmall ml12_233 ho rfl rfl rfl rfl d12_word_73 ?_
          refine z_ifb_eq fx d12_word_76 (fun c14 => ?_) (fun c14 => ?_)
          · replace e8 := zif_f c14 e8
            cases e8
            cases hl9
            exact kx11
          · replace e8 := zif_t c14 e8
            refine z_aload_n fx (k := 0) (i := 0) rfl rfl d12_word_79 ?_
            refine z_dup fx rfl d12_word_80 ?_
            refine z_getI fx 12 37 1237 ho lf12_122 ⟨fk12_37, rfl⟩ d12_word_81 ?_
            refine z_iconst fx (v := 1) ic1 d12_word_84 ?_
            refine z_iadd fx d12_word_85 ?_
            obtain ⟨μ10, e15, e8⟩ := zinv e8
            refine z_putI fx (ci := 12) 37 ho lf12_122 fp12_37 e15 d12_word_86 ?_
            cases e8
            refine z_goto fx d12_word_89 ?_
            exact ih12 _ hl9
      exact klr10 _ _ e16
    clear h
    obtain ⟨b11, e17, e6⟩ := zinv e6
    have kf18 : b11 = false → zZ zK1 X (zT0 Sh top) μ4 45 [(0, .ref o_)] [] := by
      intro hc
      replace e6 := zif_f hc e6
      refine z_aload_n fx (k := 0) (i := 0) rfl rfl d12_word_45 ?_
      refine z_aload_n fx (k := 0) (i := 0) rfl rfl d12_word_46 ?_
      refine z_getI fx 12 37 1237 ho lf12_122 ⟨fk12_37, rfl⟩ d12_word_47 ?_
      refine z_iconst fx (v := 1) ic1 d12_word_50 ?_
      refine z_isub fx d12_word_51 ?_
      obtain ⟨t12, e19, e6⟩ := zinv e6
      refine z_cVr fx (c12_isDigit (zLo X) (zDo X) Sh top hO o_ ((gF μ4 1237 o_) - 1) μ4 _ ho e19) mv12_isDigit ml12_237 ho rfl rfl rfl rfl d12_word_52 ?_
      cases e6
      refine z_ifb_eq fx d12_word_55 (fun c20 => ?_) (fun c20 => ?_)
      · exact kf5 c20
      · exact kt5 c20
    have kt18 : b11 = true → zZ zK1 X (zT0 Sh top) μ4 58 [(0, .ref o_)] [] := by
      intro hc
      replace e6 := zif_t hc e6
      cases e6
      exact kt5 rfl
    clear e6
    obtain ⟨b13, e21, e17⟩ := zinv e17
    have kf22 : b13 = false → zZ zK1 X (zT0 Sh top) μ4 32 [(0, .ref o_)] [] := by
      intro hc
      replace e17 := zif_f hc e17
      refine z_aload_n fx (k := 0) (i := 0) rfl rfl d12_word_32 ?_
      refine z_aload_n fx (k := 0) (i := 0) rfl rfl d12_word_33 ?_
      refine z_getI fx 12 37 1237 ho lf12_122 ⟨fk12_37, rfl⟩ d12_word_34 ?_
      refine z_iconst fx (v := 1) ic1 d12_word_37 ?_
      refine z_isub fx d12_word_38 ?_
      obtain ⟨t14, e23, e17⟩ := zinv e17
      refine z_cVr fx (c12_isSmall (zLo X) (zDo X) Sh top hO o_ ((gF μ4 1237 o_) - 1) μ4 _ ho e23) mv12_isSmall ml12_233 ho rfl rfl rfl rfl d12_word_39 ?_
      cases e17
      refine z_ifb_ne fx d12_word_42 (fun c24 => ?_) (fun c24 => ?_)
      · exact kt18 c24
      · exact kf18 c24
    have kt22 : b13 = true → zZ zK1 X (zT0 Sh top) μ4 58 [(0, .ref o_)] [] := by
      intro hc
      replace e17 := zif_t hc e17
      cases e17
      exact kt18 rfl
    clear e17
    refine z_aload_n fx (k := 0) (i := 0) rfl rfl d12_word_21 ?_
    refine z_aload_n fx (k := 0) (i := 0) rfl rfl d12_word_22 ?_
    refine z_getI fx 12 37 1237 ho lf12_122 ⟨fk12_37, rfl⟩ d12_word_23 ?_
    obtain ⟨t15, e25, e21⟩ := zinv e21
    refine z_cVr fx (c12_isSmall (zLo X) (zDo X) Sh top hO o_ (gF μ4 1237 o_) μ4 _ ho e25) mv12_isSmall ml12_233 ho rfl rfl rfl rfl d12_word_26 ?_
    cases e21
    refine z_ifb_eq fx d12_word_29 (fun c26 => ?_) (fun c26 => ?_)
    · exact kt22 (by rw [c26]; rfl)
    · exact kf22 (by rw [c26]; rfl)
  · replace h := zif_f c2 h
    cases h
    exact z_return fx fin d12_word_7
theorem d12_own_0 : zd cX12_own 0 (.iconst 0) 1 1 := by decide +kernel
theorem d12_own_1 : zd cX12_own 1 (.istore_n 1) 1 2 := by decide +kernel
theorem d12_own_2 : zd cX12_own 2 (.iconst 0) 1 3 := by decide +kernel
theorem d12_own_3 : zd cX12_own 3 (.istore_n 2) 1 4 := by decide +kernel
theorem d12_own_4 : zd cX12_own 4 (.iload_n 1) 1 5 := by decide +kernel
theorem d12_own_5 : zd cX12_own 5 (.bipush 62) 2 7 := by decide +kernel
theorem d12_own_7 : zj cX12_own 7 (.if_icmp .ge 110) 110 10 117 := by decide +kernel
theorem d12_own_10 : zd cX12_own 10 (.iconst 0) 1 11 := by decide +kernel
theorem d12_own_11 : zd cX12_own 11 (.istore_n 3) 1 12 := by decide +kernel
theorem d12_own_12 : zd cX12_own 12 (.aload_n 0) 1 13 := by decide +kernel
theorem d12_own_13 : zd cX12_own 13 (.getfield 134) 3 16 := by decide +kernel
theorem d12_own_16 : zd cX12_own 16 (.iload_n 1) 1 17 := by decide +kernel
theorem d12_own_17 : zd cX12_own 17 (.iload_n 3) 1 18 := by decide +kernel
theorem d12_own_18 : zd cX12_own 18 (.iadd) 1 19 := by decide +kernel
theorem d12_own_19 : zd cX12_own 19 (.iaload) 1 20 := by decide +kernel
theorem d12_own_20 : zj cX12_own 20 (.ifCond .eq 47) 47 23 67 := by decide +kernel
theorem d12_own_23 : zd cX12_own 23 (.aload_n 0) 1 24 := by decide +kernel
theorem d12_own_24 : zd cX12_own 24 (.getfield 125) 3 27 := by decide +kernel
theorem d12_own_27 : zd cX12_own 27 (.iload_n 3) 1 28 := by decide +kernel
theorem d12_own_28 : zd cX12_own 28 (.iadd) 1 29 := by decide +kernel
theorem d12_own_29 : zd cX12_own 29 (.aload_n 0) 1 30 := by decide +kernel
theorem d12_own_30 : zd cX12_own 30 (.getfield 122) 3 33 := by decide +kernel
theorem d12_own_33 : zj cX12_own 33 (.if_icmp .ge 34) 34 36 67 := by decide +kernel
theorem d12_own_36 : zd cX12_own 36 (.aload_n 0) 1 37 := by decide +kernel
theorem d12_own_37 : zd cX12_own 37 (.getfield 104) 3 40 := by decide +kernel
theorem d12_own_40 : zd cX12_own 40 (.aload_n 0) 1 41 := by decide +kernel
theorem d12_own_41 : zd cX12_own 41 (.getfield 125) 3 44 := by decide +kernel
theorem d12_own_44 : zd cX12_own 44 (.iload_n 3) 1 45 := by decide +kernel
theorem d12_own_45 : zd cX12_own 45 (.iadd) 1 46 := by decide +kernel
theorem d12_own_46 : zd cX12_own 46 (.iaload) 1 47 := by decide +kernel
theorem d12_own_47 : zd cX12_own 47 (.bipush 96) 2 49 := by decide +kernel
theorem d12_own_49 : zd cX12_own 49 (.isub) 1 50 := by decide +kernel
theorem d12_own_50 : zd cX12_own 50 (.aload_n 0) 1 51 := by decide +kernel
theorem d12_own_51 : zd cX12_own 51 (.getfield 134) 3 54 := by decide +kernel
theorem d12_own_54 : zd cX12_own 54 (.iload_n 1) 1 55 := by decide +kernel
theorem d12_own_55 : zd cX12_own 55 (.iload_n 3) 1 56 := by decide +kernel
theorem d12_own_56 : zd cX12_own 56 (.iadd) 1 57 := by decide +kernel
theorem d12_own_57 : zd cX12_own 57 (.iaload) 1 58 := by decide +kernel
theorem d12_own_58 : zj cX12_own 58 (.if_icmp .ne 9) 9 61 67 := by decide +kernel
theorem d12_own_61 : zd cX12_own 61 (.iinc 3 1) 3 64 := by decide +kernel
theorem d12_own_64 : zj cX12_own 64 (.goto (-52)) (-52) 67 12 := by decide +kernel
theorem d12_own_67 : zd cX12_own 67 (.aload_n 0) 1 68 := by decide +kernel
theorem d12_own_68 : zd cX12_own 68 (.getfield 134) 3 71 := by decide +kernel
theorem d12_own_71 : zd cX12_own 71 (.iload_n 1) 1 72 := by decide +kernel
theorem d12_own_72 : zd cX12_own 72 (.iload_n 3) 1 73 := by decide +kernel
theorem d12_own_73 : zd cX12_own 73 (.iadd) 1 74 := by decide +kernel
theorem d12_own_74 : zd cX12_own 74 (.iaload) 1 75 := by decide +kernel
theorem d12_own_75 : zj cX12_own 75 (.ifCond .ne 18) 18 78 93 := by decide +kernel
theorem d12_own_78 : zd cX12_own 78 (.aload_n 0) 1 79 := by decide +kernel
theorem d12_own_79 : zd cX12_own 79 (.getfield 125) 3 82 := by decide +kernel
theorem d12_own_82 : zd cX12_own 82 (.iload_n 3) 1 83 := by decide +kernel
theorem d12_own_83 : zd cX12_own 83 (.iadd) 1 84 := by decide +kernel
theorem d12_own_84 : zd cX12_own 84 (.aload_n 0) 1 85 := by decide +kernel
theorem d12_own_85 : zd cX12_own 85 (.getfield 122) 3 88 := by decide +kernel
theorem d12_own_88 : zj cX12_own 88 (.if_icmp .ne 5) 5 91 93 := by decide +kernel
theorem d12_own_91 : zd cX12_own 91 (.iload_n 2) 1 92 := by decide +kernel
theorem d12_own_92 : zd cX12_own 92 (.ireturn) 1 93 := by decide +kernel
theorem d12_own_93 : zd cX12_own 93 (.aload_n 0) 1 94 := by decide +kernel
theorem d12_own_94 : zd cX12_own 94 (.getfield 134) 3 97 := by decide +kernel
theorem d12_own_97 : zd cX12_own 97 (.iload_n 1) 1 98 := by decide +kernel
theorem d12_own_98 : zd cX12_own 98 (.iaload) 1 99 := by decide +kernel
theorem d12_own_99 : zj cX12_own 99 (.ifCond .eq 9) 9 102 108 := by decide +kernel
theorem d12_own_102 : zd cX12_own 102 (.iinc 1 1) 3 105 := by decide +kernel
theorem d12_own_105 : zj cX12_own 105 (.goto (-12)) (-12) 108 93 := by decide +kernel
theorem d12_own_108 : zd cX12_own 108 (.iinc 1 1) 3 111 := by decide +kernel
theorem d12_own_111 : zd cX12_own 111 (.iinc 2 1) 3 114 := by decide +kernel
theorem d12_own_114 : zj cX12_own 114 (.goto (-110)) (-110) 117 4 := by decide +kernel
theorem d12_own_117 : zd cX12_own 117 (.iconst (-1)) 1 118 := by decide +kernel
theorem d12_own_118 : zd cX12_own 118 (.ireturn) 1 119 := by decide +kernel
set_option maxHeartbeats 4000000 in
set_option maxRecDepth 20000 in
theorem c12_own (l : Launch) (D : zDt) (Sh : zSh) (top : Nat) (hO : zOK Sh) (o_ : Nat) (μ : zM) (r_ : Int32) (ho : (Sh o_).1 = 19) (h : f12_own o_ μ = some r_) : zMet l D zK1 yX12_own cX12_own 4 (some .int) (zrm 0 0) [.ref o_] Sh top μ (some (.int r_)) Sh top μ 0 0 := by
  refine zMet_of (by decide) (Nat.le_of_ble_eq_true rfl) fun X hX1 hX2 fx fin => ?_
  subst hX1; subst hX2
  replace fx : zFix X cX12_own RX12 (zrm 0 0) 4 := fx
  show zZ zK1 X (zT0 Sh top) μ 0 [(0, .ref o_)] []
  unfold f12_own at h
  refine z_iconst fx (v := 0) ic0 d12_own_0 ?_
  refine z_istore_n fx (k := 1) (i := 1) rfl rfl (lv' := [(0, .ref o_), (1, .int 0)]) rfl rfl d12_own_1 ?_
  refine z_iconst fx (v := 0) ic0 d12_own_2 ?_
  refine z_istore_n fx (k := 2) (i := 2) rfl rfl (lv' := [(0, .ref o_), (1, .int 0), (2, .int 0)]) rfl rfl d12_own_3 ?_
  obtain ⟨r3, e44, h⟩ := zinv h
  have kx4 : ∀ (v_k_3 : Int32) (v_n_4 : Int32), r3 = .inr (v_k_3, v_n_4) → zZ zK1 X (zT0 Sh top) μ 117 [(0, .ref o_), (1, .int v_k_3), (2, .int v_n_4)] [] := by
    intro v_k_3 v_n_4 hr
    subst hr
    replace h := zel2 h
    refine z_iconst fx (v := (-1)) icm1 d12_own_117 ?_
    cases h
    exact z_ireturn fx fin d12_own_118
  have klr3 : ∀ (n : Nat) (v_k_1 : Int32) (v_n_2 : Int32), zloop (fun s => f12_own_L1 o_ μ s.1 s.2) n (v_k_1, v_n_2) = some r3 → zZ zK1 X (zT0 Sh top) μ 4 [(0, .ref o_), (1, .int v_k_1), (2, .int v_n_2)] [] := by
    intro n
    induction n with
    | zero => intro v_k_1 v_n_2 hl2; cases hl2
    | succ n ih5 =>
      intro v_k_1 v_n_2 hl2
      obtain ⟨y, e1, hl2⟩ := zloop_inv hl2
      replace e1 : f12_own_L1 o_ μ v_k_1 v_n_2 = some y := e1
      unfold f12_own_L1 at e1
      refine z_iload_n fx (k := 1) (i := 1) rfl rfl d12_own_4 ?_
      refine z_bipush fx (v := 62) bp62 d12_own_5 ?_
      refine z_icmp_ge fx d12_own_7 (fun c6 => ?_) (fun c6 => ?_)
      · replace e1 := zif_f c6 e1
        cases e1
        exact kx4 _ _ (Eq.symm hl2)
      · replace e1 := zif_t c6 e1
        refine z_iconst fx (v := 0) ic0 d12_own_10 ?_
        refine z_istore_n fx (k := 3) (i := 3) rfl rfl (lv' := [(0, .ref o_), (1, .int v_k_1), (2, .int v_n_2), (3, .int 0)]) rfl rfl d12_own_11 ?_
        obtain ⟨v_i_6, e43, e1⟩ := zinv e1
        have kx10 : zZ zK1 X (zT0 Sh top) μ 67 [(0, .ref o_), (1, .int v_k_1), (2, .int v_n_2), (3, .int v_i_6)] [] := by
          obtain ⟨b14, e26, e1⟩ := zinv e1
          have kt25 : b14 = true → zZ zK1 X (zT0 Sh top) μ 91 [(0, .ref o_), (1, .int v_k_1), (2, .int v_n_2), (3, .int v_i_6)] [] := by
            intro hc
            replace e1 := zif_t hc e1
            refine z_iload_n fx (k := 2) (i := 2) rfl rfl d12_own_91 ?_
            cases e1
            cases hl2
            cases h
            exact z_ireturn fx fin d12_own_92
          have kf25 : b14 = false → zZ zK1 X (zT0 Sh top) μ 93 [(0, .ref o_), (1, .int v_k_1), (2, .int v_n_2), (3, .int v_i_6)] [] := by
            intro hc
            replace e1 := zif_f hc e1
            obtain ⟨v_k_16, e37, e1⟩ := zinv e1
            have kx30 : zZ zK1 X (zT0 Sh top) μ 108 [(0, .ref o_), (1, .int v_k_16), (2, .int v_n_2), (3, .int v_i_6)] [] := by
              obtain ⟨v_k_19, e35, e1⟩ := zinv e1
              replace e35 := Option.some.inj e35
              refine z_iinc fx (i := 1) (x := v_k_16) (v := v_k_19) rfl (by rw [in1]; exact e35) rfl (lv' := [(0, .ref o_), (1, .int v_k_19), (2, .int v_n_2), (3, .int v_i_6)]) rfl rfl d12_own_108 ?_
              obtain ⟨v_n_20, e36, e1⟩ := zinv e1
              replace e36 := Option.some.inj e36
              refine z_iinc fx (i := 2) (x := v_n_2) (v := v_n_20) rfl (by rw [in1]; exact e36) rfl (lv' := [(0, .ref o_), (1, .int v_k_19), (2, .int v_n_20), (3, .int v_i_6)]) rfl rfl d12_own_111 ?_
              refine z_take 3 (lv' := [(0, .ref o_), (1, .int v_k_19), (2, .int v_n_20)]) rfl ?_
              cases e1
              refine z_goto fx d12_own_114 ?_
              exact ih5 _ _ hl2
            clear e1
            have klr29 : ∀ (n : Nat) (v_k_15 : Int32), zloop (fun s => f12_own_L3 o_ μ s) n v_k_15 = some v_k_16 → zZ zK1 X (zT0 Sh top) μ 93 [(0, .ref o_), (1, .int v_k_15), (2, .int v_n_2), (3, .int v_i_6)] [] := by
              intro n
              induction n with
              | zero => intro v_k_15 hl28; cases hl28
              | succ n ih31 =>
                intro v_k_15 hl28
                obtain ⟨y, e27, hl28⟩ := zloop_inv hl28
                replace e27 : f12_own_L3 o_ μ v_k_15 = some y := e27
                unfold f12_own_L3 at e27
                refine z_aload_n fx (k := 0) (i := 0) rfl rfl d12_own_93 ?_
                refine z_getO fx 12 41 23 ho lf12_134 fk12_41 d12_own_94 ?_
                refine z_iload_n fx (k := 1) (i := 1) rfl rfl d12_own_97 ?_
                obtain ⟨t17, e32, e27⟩ := zinv e27
                refine z_iald fx (ok12_41 hO ho) e32 d12_own_98 ?_
                refine z_if_eq fx d12_own_99 (fun c33 => ?_) (fun c33 => ?_)
                · replace e27 := zif_t c33 e27
                  cases e27
                  cases hl28
                  exact kx30
                · replace e27 := zif_f c33 e27
                  obtain ⟨v_k_18, e34, e27⟩ := zinv e27
                  replace e34 := Option.some.inj e34
                  refine z_iinc fx (i := 1) (x := v_k_15) (v := v_k_18) rfl (by rw [in1]; exact e34) rfl (lv' := [(0, .ref o_), (1, .int v_k_18), (2, .int v_n_2), (3, .int v_i_6)]) rfl rfl d12_own_102 ?_
                  cases e27
                  refine z_goto fx d12_own_105 ?_
                  exact ih31 _ hl28
            exact klr29 _ _ e37
          clear e1
          obtain ⟨b21, e38, e26⟩ := zinv e26
          have kt39 : b21 = true → zZ zK1 X (zT0 Sh top) μ 78 [(0, .ref o_), (1, .int v_k_1), (2, .int v_n_2), (3, .int v_i_6)] [] := by
            intro hc
            replace e26 := zif_t hc e26
            refine z_aload_n fx (k := 0) (i := 0) rfl rfl d12_own_78 ?_
            refine z_getI fx 12 38 1238 ho lf12_125 ⟨fk12_38, rfl⟩ d12_own_79 ?_
            refine z_iload_n fx (k := 3) (i := 3) rfl rfl d12_own_82 ?_
            refine z_iadd fx d12_own_83 ?_
            refine z_aload_n fx (k := 0) (i := 0) rfl rfl d12_own_84 ?_
            refine z_getI fx 12 37 1237 ho lf12_122 ⟨fk12_37, rfl⟩ d12_own_85 ?_
            cases e26
            refine z_icmp_ne fx d12_own_88 (fun c40 => ?_) (fun c40 => ?_)
            · exact kf25 c40
            · exact kt25 c40
          have kf39 : b21 = false → zZ zK1 X (zT0 Sh top) μ 93 [(0, .ref o_), (1, .int v_k_1), (2, .int v_n_2), (3, .int v_i_6)] [] := by
            intro hc
            replace e26 := zif_f hc e26
            cases e26
            exact kf25 rfl
          clear e26
          refine z_aload_n fx (k := 0) (i := 0) rfl rfl d12_own_67 ?_
          refine z_getO fx 12 41 23 ho lf12_134 fk12_41 d12_own_68 ?_
          refine z_iload_n fx (k := 1) (i := 1) rfl rfl d12_own_71 ?_
          refine z_iload_n fx (k := 3) (i := 3) rfl rfl d12_own_72 ?_
          refine z_iadd fx d12_own_73 ?_
          obtain ⟨t22, e41, e38⟩ := zinv e38
          refine z_iald fx (ok12_41 hO ho) e41 d12_own_74 ?_
          cases e38
          refine z_if_ne fx d12_own_75 (fun c42 => ?_) (fun c42 => ?_)
          · exact kf39 c42
          · exact kt39 c42
        clear e1
        have klr9 : ∀ (n : Nat) (v_i_5 : Int32), zloop (fun s => f12_own_L2 o_ μ v_k_1 s) n v_i_5 = some v_i_6 → zZ zK1 X (zT0 Sh top) μ 12 [(0, .ref o_), (1, .int v_k_1), (2, .int v_n_2), (3, .int v_i_5)] [] := by
          intro n
          induction n with
          | zero => intro v_i_5 hl8; cases hl8
          | succ n ih11 =>
            intro v_i_5 hl8
            obtain ⟨y, e7, hl8⟩ := zloop_inv hl8
            replace e7 : f12_own_L2 o_ μ v_k_1 v_i_5 = some y := e7
            unfold f12_own_L2 at e7
            obtain ⟨b7, e13, e7⟩ := zinv e7
            have kt12 : b7 = true → zZ zK1 X (zT0 Sh top) μ 61 [(0, .ref o_), (1, .int v_k_1), (2, .int v_n_2), (3, .int v_i_5)] [] := by
              intro hc
              replace e7 := zif_t hc e7
              obtain ⟨v_i_8, e14, e7⟩ := zinv e7
              replace e14 := Option.some.inj e14
              refine z_iinc fx (i := 3) (x := v_i_5) (v := v_i_8) rfl (by rw [in1]; exact e14) rfl (lv' := [(0, .ref o_), (1, .int v_k_1), (2, .int v_n_2), (3, .int v_i_8)]) rfl rfl d12_own_61 ?_
              cases e7
              refine z_goto fx d12_own_64 ?_
              exact ih11 _ hl8
            have kf12 : b7 = false → zZ zK1 X (zT0 Sh top) μ 67 [(0, .ref o_), (1, .int v_k_1), (2, .int v_n_2), (3, .int v_i_5)] [] := by
              intro hc
              replace e7 := zif_f hc e7
              cases e7
              cases hl8
              exact kx10
            clear e7
            obtain ⟨b9, e15, e13⟩ := zinv e13
            have kt16 : b9 = true → zZ zK1 X (zT0 Sh top) μ 36 [(0, .ref o_), (1, .int v_k_1), (2, .int v_n_2), (3, .int v_i_5)] [] := by
              intro hc
              replace e13 := zif_t hc e13
              refine z_aload_n fx (k := 0) (i := 0) rfl rfl d12_own_36 ?_
              refine z_getO fx 12 31 21 ho lf12_104 fk12_31 d12_own_37 ?_
              refine z_aload_n fx (k := 0) (i := 0) rfl rfl d12_own_40 ?_
              refine z_getI fx 12 38 1238 ho lf12_125 ⟨fk12_38, rfl⟩ d12_own_41 ?_
              refine z_iload_n fx (k := 3) (i := 3) rfl rfl d12_own_44 ?_
              refine z_iadd fx d12_own_45 ?_
              obtain ⟨t10, e17, e13⟩ := zinv e13
              refine z_iald fx (ok12_31 hO ho) e17 d12_own_46 ?_
              refine z_bipush fx (v := 96) bp96 d12_own_47 ?_
              refine z_isub fx d12_own_49 ?_
              refine z_aload_n fx (k := 0) (i := 0) rfl rfl d12_own_50 ?_
              refine z_getO fx 12 41 23 ho lf12_134 fk12_41 d12_own_51 ?_
              refine z_iload_n fx (k := 1) (i := 1) rfl rfl d12_own_54 ?_
              refine z_iload_n fx (k := 3) (i := 3) rfl rfl d12_own_55 ?_
              refine z_iadd fx d12_own_56 ?_
              obtain ⟨t11, e18, e13⟩ := zinv e13
              refine z_iald fx (ok12_41 hO ho) e18 d12_own_57 ?_
              cases e13
              refine z_icmp_ne fx d12_own_58 (fun c19 => ?_) (fun c19 => ?_)
              · exact kf12 c19
              · exact kt12 c19
            have kf16 : b9 = false → zZ zK1 X (zT0 Sh top) μ 67 [(0, .ref o_), (1, .int v_k_1), (2, .int v_n_2), (3, .int v_i_5)] [] := by
              intro hc
              replace e13 := zif_f hc e13
              cases e13
              exact kf12 rfl
            clear e13
            obtain ⟨b12, e20, e15⟩ := zinv e15
            have kt21 : b12 = true → zZ zK1 X (zT0 Sh top) μ 23 [(0, .ref o_), (1, .int v_k_1), (2, .int v_n_2), (3, .int v_i_5)] [] := by
              intro hc
              replace e15 := zif_t hc e15
              refine z_aload_n fx (k := 0) (i := 0) rfl rfl d12_own_23 ?_
              refine z_getI fx 12 38 1238 ho lf12_125 ⟨fk12_38, rfl⟩ d12_own_24 ?_
              refine z_iload_n fx (k := 3) (i := 3) rfl rfl d12_own_27 ?_
              refine z_iadd fx d12_own_28 ?_
              refine z_aload_n fx (k := 0) (i := 0) rfl rfl d12_own_29 ?_
              refine z_getI fx 12 37 1237 ho lf12_122 ⟨fk12_37, rfl⟩ d12_own_30 ?_
              cases e15
              refine z_icmp_ge fx d12_own_33 (fun c22 => ?_) (fun c22 => ?_)
              · exact kf16 c22
              · exact kt16 c22
            have kf21 : b12 = false → zZ zK1 X (zT0 Sh top) μ 67 [(0, .ref o_), (1, .int v_k_1), (2, .int v_n_2), (3, .int v_i_5)] [] := by
              intro hc
              replace e15 := zif_f hc e15
              cases e15
              exact kf16 rfl
            clear e15
            refine z_aload_n fx (k := 0) (i := 0) rfl rfl d12_own_12 ?_
            refine z_getO fx 12 41 23 ho lf12_134 fk12_41 d12_own_13 ?_
            refine z_iload_n fx (k := 1) (i := 1) rfl rfl d12_own_16 ?_
            refine z_iload_n fx (k := 3) (i := 3) rfl rfl d12_own_17 ?_
            refine z_iadd fx d12_own_18 ?_
            obtain ⟨t13, e23, e20⟩ := zinv e20
            refine z_iald fx (ok12_41 hO ho) e23 d12_own_19 ?_
            cases e20
            refine z_if_eq fx d12_own_20 (fun c24 => ?_) (fun c24 => ?_)
            · exact kf21 (by rw [c24]; rfl)
            · exact kt21 (by rw [c24]; rfl)
        exact klr9 _ _ e43
  exact klr3 _ _ _ e44
theorem d12_must_0 : zd cX12_must 0 (.aload_n 0) 1 1 := by decide +kernel
theorem d12_must_1 : zd cX12_must 1 (.invokevirtual 244) 3 4 := by decide +kernel
theorem d12_must_4 : zd cX12_must 4 (.aload_n 0) 1 5 := by decide +kernel
theorem d12_must_5 : zd cX12_must 5 (.invokevirtual 225) 3 8 := by decide +kernel
theorem d12_must_8 : zj cX12_must 8 (.ifCond .eq 20) 20 11 28 := by decide +kernel
theorem d12_must_11 : zd cX12_must 11 (.aload_n 0) 1 12 := by decide +kernel
theorem d12_must_12 : zd cX12_must 12 (.invokevirtual 247) 3 15 := by decide +kernel
theorem d12_must_15 : zd cX12_must 15 (.iload_n 1) 1 16 := by decide +kernel
theorem d12_must_16 : zj cX12_must 16 (.if_icmp .eq 12) 12 19 28 := by decide +kernel
theorem d12_must_19 : zd cX12_must 19 (.aload_n 0) 1 20 := by decide +kernel
theorem d12_must_20 : zd cX12_must 20 (.iconst 1) 1 21 := by decide +kernel
theorem d12_must_21 : zd cX12_must 21 (.aload_n 0) 1 22 := by decide +kernel
theorem d12_must_22 : zd cX12_must 22 (.getfield 125) 3 25 := by decide +kernel
theorem d12_must_25 : zd cX12_must 25 (.invokevirtual 240) 3 28 := by decide +kernel
theorem d12_must_28 : zd cX12_must 28 (.return_) 1 29 := by decide +kernel
set_option maxHeartbeats 4000000 in
set_option maxRecDepth 20000 in
theorem c12_must (l : Launch) (D : zDt) (Sh : zSh) (top : Nat) (hO : zOK Sh) (o_ : Nat) (v_key : Int32) (μ : zM) (μ_ : zM) (ho : (Sh o_).1 = 19) (h : f12_must o_ v_key μ = some μ_) : zMet l D zK1 yX12_must cX12_must 2 none (zrm 3 62) [.ref o_, .int v_key] Sh top μ none Sh top μ_ 0 0 := by
  refine zMet_of (by decide) (Nat.le_of_ble_eq_true rfl) fun X hX1 hX2 fx fin => ?_
  subst hX1; subst hX2
  replace fx : zFix X cX12_must RX12 (zrm 3 62) 2 := fx
  show zZ zK1 X (zT0 Sh top) μ 0 [(0, .ref o_), (1, .int v_key)] []
  unfold f12_must at h
  refine z_aload_n fx (k := 0) (i := 0) rfl rfl d12_must_0 ?_
  obtain ⟨μ1, e1, h⟩ := zinv h
  refine z_cVv fx (c12_word (zLo X) (zDo X) Sh top hO o_ μ _ ho e1) mv12_word ml12_244 ho rfl rfl rfl rfl d12_must_1 ?_
  obtain ⟨b2, e3, h⟩ := zinv h
  have kt2 : b2 = true → zZ zK1 X (zT0 Sh top) μ1 19 [(0, .ref o_), (1, .int v_key)] [] := by
    intro hc
    replace h := zif_t hc h
    refine z_aload_n fx (k := 0) (i := 0) rfl rfl d12_must_19 ?_
    refine z_iconst fx (v := 1) ic1 d12_must_20 ?_
    refine z_aload_n fx (k := 0) (i := 0) rfl rfl d12_must_21 ?_
    refine z_getI fx 12 38 1238 ho lf12_125 ⟨fk12_38, rfl⟩ d12_must_22 ?_
    obtain ⟨μ3, e4, h⟩ := zinv h
    refine z_cVv fx (c12_fails (zLo X) (zDo X) Sh top hO o_ 1 (gF μ1 1238 o_) μ1 _ ho e4) mv12_fails ml12_240 ho rfl rfl rfl rfl d12_must_25 ?_
    cases h
    exact z_return fx fin d12_must_28
  have kf2 : b2 = false → zZ zK1 X (zT0 Sh top) μ1 28 [(0, .ref o_), (1, .int v_key)] [] := by
    intro hc
    replace h := zif_f hc h
    cases h
    exact z_return fx fin d12_must_28
  clear h
  obtain ⟨b4, e5, e3⟩ := zinv e3
  have kt6 : b4 = true → zZ zK1 X (zT0 Sh top) μ1 11 [(0, .ref o_), (1, .int v_key)] [] := by
    intro hc
    replace e3 := zif_t hc e3
    refine z_aload_n fx (k := 0) (i := 0) rfl rfl d12_must_11 ?_
    obtain ⟨t5, e7, e3⟩ := zinv e3
    refine z_cVr fx (c12_own (zLo X) (zDo X) Sh top hO o_ μ1 _ ho e7) mv12_own ml12_247 ho rfl rfl rfl rfl d12_must_12 ?_
    refine z_iload_n fx (k := 1) (i := 1) rfl rfl d12_must_15 ?_
    cases e3
    refine z_icmp_eq fx d12_must_16 (fun c8 => ?_) (fun c8 => ?_)
    · exact kf2 (by rw [c8]; rfl)
    · exact kt2 (by rw [c8]; rfl)
  have kf6 : b4 = false → zZ zK1 X (zT0 Sh top) μ1 28 [(0, .ref o_), (1, .int v_key)] [] := by
    intro hc
    replace e3 := zif_f hc e3
    cases e3
    exact kf2 rfl
  clear e3
  refine z_aload_n fx (k := 0) (i := 0) rfl rfl d12_must_4 ?_
  obtain ⟨t6, e9, e5⟩ := zinv e5
  refine z_cVr fx (c12_goes (zLo X) (zDo X) Sh top hO o_ μ1 _ ho e9) mv12_goes ml12_225 ho rfl rfl rfl rfl d12_must_5 ?_
  cases e5
  refine z_ifb_eq fx d12_must_8 (fun c10 => ?_) (fun c10 => ?_)
  · exact kf6 c10
  · exact kt6 c10
theorem d12_endsWell_0 : zd cX12_endsWell 0 (.aload_n 0) 1 1 := by decide +kernel
theorem d12_endsWell_1 : zd cX12_endsWell 1 (.invokevirtual 225) 3 4 := by decide +kernel
theorem d12_endsWell_4 : zj cX12_endsWell 4 (.ifCond .ne 4) 4 7 8 := by decide +kernel
theorem d12_endsWell_7 : zd cX12_endsWell 7 (.return_) 1 8 := by decide +kernel
theorem d12_endsWell_8 : zd cX12_endsWell 8 (.aload_n 0) 1 9 := by decide +kernel
theorem d12_endsWell_9 : zd cX12_endsWell 9 (.invokevirtual 229) 3 12 := by decide +kernel
theorem d12_endsWell_12 : zd cX12_endsWell 12 (.bipush 59) 2 14 := by decide +kernel
theorem d12_endsWell_14 : zj cX12_endsWell 14 (.if_icmp .ne 16) 16 17 30 := by decide +kernel
theorem d12_endsWell_17 : zd cX12_endsWell 17 (.aload_n 0) 1 18 := by decide +kernel
theorem d12_endsWell_18 : zd cX12_endsWell 18 (.dup) 1 19 := by decide +kernel
theorem d12_endsWell_19 : zd cX12_endsWell 19 (.getfield 122) 3 22 := by decide +kernel
theorem d12_endsWell_22 : zd cX12_endsWell 22 (.iconst 1) 1 23 := by decide +kernel
theorem d12_endsWell_23 : zd cX12_endsWell 23 (.iadd) 1 24 := by decide +kernel
theorem d12_endsWell_24 : zd cX12_endsWell 24 (.putfield 122) 3 27 := by decide +kernel
theorem d12_endsWell_27 : zj cX12_endsWell 27 (.goto 12) 12 30 39 := by decide +kernel
theorem d12_endsWell_30 : zd cX12_endsWell 30 (.aload_n 0) 1 31 := by decide +kernel
theorem d12_endsWell_31 : zd cX12_endsWell 31 (.iconst 1) 1 32 := by decide +kernel
theorem d12_endsWell_32 : zd cX12_endsWell 32 (.aload_n 0) 1 33 := by decide +kernel
theorem d12_endsWell_33 : zd cX12_endsWell 33 (.getfield 122) 3 36 := by decide +kernel
theorem d12_endsWell_36 : zd cX12_endsWell 36 (.invokevirtual 240) 3 39 := by decide +kernel
theorem d12_endsWell_39 : zd cX12_endsWell 39 (.return_) 1 40 := by decide +kernel
set_option maxHeartbeats 4000000 in
set_option maxRecDepth 20000 in
theorem c12_endsWell (l : Launch) (D : zDt) (Sh : zSh) (top : Nat) (hO : zOK Sh) (o_ : Nat) (μ : zM) (μ_ : zM) (ho : (Sh o_).1 = 19) (h : f12_endsWell o_ μ = some μ_) : zMet l D zK1 yX12_endsWell cX12_endsWell 1 none (zrm 2 41) [.ref o_] Sh top μ none Sh top μ_ 0 0 := by
  refine zMet_of (by decide) (Nat.le_of_ble_eq_true rfl) fun X hX1 hX2 fx fin => ?_
  subst hX1; subst hX2
  replace fx : zFix X cX12_endsWell RX12 (zrm 2 41) 1 := fx
  show zZ zK1 X (zT0 Sh top) μ 0 [(0, .ref o_)] []
  unfold f12_endsWell at h
  refine z_aload_n fx (k := 0) (i := 0) rfl rfl d12_endsWell_0 ?_
  obtain ⟨t1, e1, h⟩ := zinv h
  refine z_cVr fx (c12_goes (zLo X) (zDo X) Sh top hO o_ μ _ ho e1) mv12_goes ml12_225 ho rfl rfl rfl rfl d12_endsWell_1 ?_
  refine z_ifb_ne fx d12_endsWell_4 (fun c2 => ?_) (fun c2 => ?_)
  · replace h := zif_t c2 h
    refine z_aload_n fx (k := 0) (i := 0) rfl rfl d12_endsWell_8 ?_
    obtain ⟨t2, μ3, e3, h⟩ := zinv2 h
    refine z_cVr fx (c12_here (zLo X) (zDo X) Sh top hO o_ μ _ _ ho e3) mv12_here ml12_229 ho rfl rfl rfl rfl d12_endsWell_9 ?_
    refine z_bipush fx (v := 59) bp59 d12_endsWell_12 ?_
    refine z_icmp_ne fx d12_endsWell_14 (fun c4 => ?_) (fun c4 => ?_)
    · replace h := zif_f c4 h
      refine z_aload_n fx (k := 0) (i := 0) rfl rfl d12_endsWell_30 ?_
      refine z_iconst fx (v := 1) ic1 d12_endsWell_31 ?_
      refine z_aload_n fx (k := 0) (i := 0) rfl rfl d12_endsWell_32 ?_
      refine z_getI fx 12 37 1237 ho lf12_122 ⟨fk12_37, rfl⟩ d12_endsWell_33 ?_
      obtain ⟨μ4, e5, h⟩ := zinv h
      refine z_cVv fx (c12_fails (zLo X) (zDo X) Sh top hO o_ 1 (gF μ3 1237 o_) μ3 _ ho e5) mv12_fails ml12_240 ho rfl rfl rfl rfl d12_endsWell_36 ?_
      cases h
      exact z_return fx fin d12_endsWell_39
    · replace h := zif_t c4 h
      refine z_aload_n fx (k := 0) (i := 0) rfl rfl d12_endsWell_17 ?_
      refine z_dup fx rfl d12_endsWell_18 ?_
      refine z_getI fx 12 37 1237 ho lf12_122 ⟨fk12_37, rfl⟩ d12_endsWell_19 ?_
      refine z_iconst fx (v := 1) ic1 d12_endsWell_22 ?_
      refine z_iadd fx d12_endsWell_23 ?_
      obtain ⟨μ5, e6, h⟩ := zinv h
      refine z_putI fx (ci := 12) 37 ho lf12_122 fp12_37 e6 d12_endsWell_24 ?_
      refine z_goto fx d12_endsWell_27 ?_
      cases h
      exact z_return fx fin d12_endsWell_39
  · replace h := zif_f c2 h
    cases h
    exact z_return fx fin d12_endsWell_7
theorem d12_number_0 : zd cX12_number 0 (.aload_n 0) 1 1 := by decide +kernel
theorem d12_number_1 : zd cX12_number 1 (.invokevirtual 225) 3 4 := by decide +kernel
theorem d12_number_4 : zj cX12_number 4 (.ifCond .ne 5) 5 7 9 := by decide +kernel
theorem d12_number_7 : zd cX12_number 7 (.iconst 0) 1 8 := by decide +kernel
theorem d12_number_8 : zd cX12_number 8 (.ireturn) 1 9 := by decide +kernel
theorem d12_number_9 : zd cX12_number 9 (.aload_n 0) 1 10 := by decide +kernel
theorem d12_number_10 : zd cX12_number 10 (.invokevirtual 229) 3 13 := by decide +kernel
theorem d12_number_13 : zd cX12_number 13 (.pop) 1 14 := by decide +kernel
theorem d12_number_14 : zd cX12_number 14 (.aload_n 0) 1 15 := by decide +kernel
theorem d12_number_15 : zd cX12_number 15 (.aload_n 0) 1 16 := by decide +kernel
theorem d12_number_16 : zd cX12_number 16 (.getfield 122) 3 19 := by decide +kernel
theorem d12_number_19 : zd cX12_number 19 (.putfield 125) 3 22 := by decide +kernel
theorem d12_number_22 : zd cX12_number 22 (.aload_n 0) 1 23 := by decide +kernel
theorem d12_number_23 : zd cX12_number 23 (.aload_n 0) 1 24 := by decide +kernel
theorem d12_number_24 : zd cX12_number 24 (.getfield 122) 3 27 := by decide +kernel
theorem d12_number_27 : zd cX12_number 27 (.invokevirtual 237) 3 30 := by decide +kernel
theorem d12_number_30 : zj cX12_number 30 (.ifCond .eq 29) 29 33 59 := by decide +kernel
theorem d12_number_33 : zd cX12_number 33 (.aload_n 0) 1 34 := by decide +kernel
theorem d12_number_34 : zd cX12_number 34 (.aload_n 0) 1 35 := by decide +kernel
theorem d12_number_35 : zd cX12_number 35 (.getfield 122) 3 38 := by decide +kernel
theorem d12_number_38 : zd cX12_number 38 (.iconst 1) 1 39 := by decide +kernel
theorem d12_number_39 : zd cX12_number 39 (.isub) 1 40 := by decide +kernel
theorem d12_number_40 : zd cX12_number 40 (.invokevirtual 233) 3 43 := by decide +kernel
theorem d12_number_43 : zj cX12_number 43 (.ifCond .ne 16) 16 46 59 := by decide +kernel
theorem d12_number_46 : zd cX12_number 46 (.aload_n 0) 1 47 := by decide +kernel
theorem d12_number_47 : zd cX12_number 47 (.aload_n 0) 1 48 := by decide +kernel
theorem d12_number_48 : zd cX12_number 48 (.getfield 122) 3 51 := by decide +kernel
theorem d12_number_51 : zd cX12_number 51 (.iconst 1) 1 52 := by decide +kernel
theorem d12_number_52 : zd cX12_number 52 (.isub) 1 53 := by decide +kernel
theorem d12_number_53 : zd cX12_number 53 (.invokevirtual 237) 3 56 := by decide +kernel
theorem d12_number_56 : zj cX12_number 56 (.ifCond .eq 14) 14 59 70 := by decide +kernel
theorem d12_number_59 : zd cX12_number 59 (.aload_n 0) 1 60 := by decide +kernel
theorem d12_number_60 : zd cX12_number 60 (.iconst 1) 1 61 := by decide +kernel
theorem d12_number_61 : zd cX12_number 61 (.aload_n 0) 1 62 := by decide +kernel
theorem d12_number_62 : zd cX12_number 62 (.getfield 122) 3 65 := by decide +kernel
theorem d12_number_65 : zd cX12_number 65 (.invokevirtual 240) 3 68 := by decide +kernel
theorem d12_number_68 : zd cX12_number 68 (.iconst 0) 1 69 := by decide +kernel
theorem d12_number_69 : zd cX12_number 69 (.ireturn) 1 70 := by decide +kernel
theorem d12_number_70 : zd cX12_number 70 (.iconst 0) 1 71 := by decide +kernel
theorem d12_number_71 : zd cX12_number 71 (.istore_n 3) 1 72 := by decide +kernel
theorem d12_number_72 : zd cX12_number 72 (.aload_n 0) 1 73 := by decide +kernel
theorem d12_number_73 : zd cX12_number 73 (.aload_n 0) 1 74 := by decide +kernel
theorem d12_number_74 : zd cX12_number 74 (.getfield 122) 3 77 := by decide +kernel
theorem d12_number_77 : zd cX12_number 77 (.invokevirtual 237) 3 80 := by decide +kernel
theorem d12_number_80 : zj cX12_number 80 (.ifCond .eq 62) 62 83 142 := by decide +kernel
theorem d12_number_83 : zd cX12_number 83 (.aload_n 0) 1 84 := by decide +kernel
theorem d12_number_84 : zd cX12_number 84 (.invokevirtual 225) 3 87 := by decide +kernel
theorem d12_number_87 : zj cX12_number 87 (.ifCond .eq 55) 55 90 142 := by decide +kernel
theorem d12_number_90 : zd cX12_number 90 (.aload_n 0) 1 91 := by decide +kernel
theorem d12_number_91 : zd cX12_number 91 (.getfield 122) 3 94 := by decide +kernel
theorem d12_number_94 : zd cX12_number 94 (.aload_n 0) 1 95 := by decide +kernel
theorem d12_number_95 : zd cX12_number 95 (.getfield 125) 3 98 := by decide +kernel
theorem d12_number_98 : zd cX12_number 98 (.isub) 1 99 := by decide +kernel
theorem d12_number_99 : zd cX12_number 99 (.iconst 3) 1 100 := by decide +kernel
theorem d12_number_100 : zj cX12_number 100 (.if_icmp .ne 12) 12 103 112 := by decide +kernel
theorem d12_number_103 : zd cX12_number 103 (.aload_n 0) 1 104 := by decide +kernel
theorem d12_number_104 : zd cX12_number 104 (.iconst 1) 1 105 := by decide +kernel
theorem d12_number_105 : zd cX12_number 105 (.aload_n 0) 1 106 := by decide +kernel
theorem d12_number_106 : zd cX12_number 106 (.getfield 122) 3 109 := by decide +kernel
theorem d12_number_109 : zd cX12_number 109 (.invokevirtual 240) 3 112 := by decide +kernel
theorem d12_number_112 : zd cX12_number 112 (.bipush 10) 2 114 := by decide +kernel
theorem d12_number_114 : zd cX12_number 114 (.iload_n 3) 1 115 := by decide +kernel
theorem d12_number_115 : zd cX12_number 115 (.imul) 1 116 := by decide +kernel
theorem d12_number_116 : zd cX12_number 116 (.aload_n 0) 1 117 := by decide +kernel
theorem d12_number_117 : zd cX12_number 117 (.aload_n 0) 1 118 := by decide +kernel
theorem d12_number_118 : zd cX12_number 118 (.getfield 122) 3 121 := by decide +kernel
theorem d12_number_121 : zd cX12_number 121 (.invokevirtual 222) 3 124 := by decide +kernel
theorem d12_number_124 : zd cX12_number 124 (.iadd) 1 125 := by decide +kernel
theorem d12_number_125 : zd cX12_number 125 (.bipush 48) 2 127 := by decide +kernel
theorem d12_number_127 : zd cX12_number 127 (.isub) 1 128 := by decide +kernel
theorem d12_number_128 : zd cX12_number 128 (.istore_n 3) 1 129 := by decide +kernel
theorem d12_number_129 : zd cX12_number 129 (.aload_n 0) 1 130 := by decide +kernel
theorem d12_number_130 : zd cX12_number 130 (.dup) 1 131 := by decide +kernel
theorem d12_number_131 : zd cX12_number 131 (.getfield 122) 3 134 := by decide +kernel
theorem d12_number_134 : zd cX12_number 134 (.iconst 1) 1 135 := by decide +kernel
theorem d12_number_135 : zd cX12_number 135 (.iadd) 1 136 := by decide +kernel
theorem d12_number_136 : zd cX12_number 136 (.putfield 122) 3 139 := by decide +kernel
theorem d12_number_139 : zj cX12_number 139 (.goto (-67)) (-67) 142 72 := by decide +kernel
theorem d12_number_142 : zd cX12_number 142 (.iload_n 3) 1 143 := by decide +kernel
theorem d12_number_143 : zd cX12_number 143 (.iload_n 1) 1 144 := by decide +kernel
theorem d12_number_144 : zd cX12_number 144 (.iload_n 2) 1 145 := by decide +kernel
theorem d12_number_145 : zd cX12_number 145 (.invokestatic 250) 3 148 := by decide +kernel
theorem d12_number_148 : zj cX12_number 148 (.ifCond .ne 12) 12 151 160 := by decide +kernel
theorem d12_number_151 : zd cX12_number 151 (.aload_n 0) 1 152 := by decide +kernel
theorem d12_number_152 : zd cX12_number 152 (.iconst 2) 1 153 := by decide +kernel
theorem d12_number_153 : zd cX12_number 153 (.aload_n 0) 1 154 := by decide +kernel
theorem d12_number_154 : zd cX12_number 154 (.getfield 125) 3 157 := by decide +kernel
theorem d12_number_157 : zd cX12_number 157 (.invokevirtual 240) 3 160 := by decide +kernel
theorem d12_number_160 : zd cX12_number 160 (.aload_n 0) 1 161 := by decide +kernel
theorem d12_number_161 : zd cX12_number 161 (.invokevirtual 225) 3 164 := by decide +kernel
theorem d12_number_164 : zj cX12_number 164 (.ifCond .eq 7) 7 167 171 := by decide +kernel
theorem d12_number_167 : zd cX12_number 167 (.iload_n 3) 1 168 := by decide +kernel
theorem d12_number_168 : zj cX12_number 168 (.goto 4) 4 171 172 := by decide +kernel
theorem d12_number_171 : zd cX12_number 171 (.iconst 0) 1 172 := by decide +kernel
theorem d12_number_172 : zd cX12_number 172 (.ireturn) 1 173 := by decide +kernel
set_option maxHeartbeats 4000000 in
set_option maxRecDepth 20000 in
theorem c12_number (l : Launch) (D : zDt) (Sh : zSh) (top : Nat) (hO : zOK Sh) (o_ : Nat) (v_least : Int32) (v_most : Int32) (μ : zM) (r_ : Int32) (μ_ : zM) (ho : (Sh o_).1 = 19) (h : f12_number o_ v_least v_most μ = some (r_, μ_)) : zMet l D zK1 yX12_number cX12_number 4 (some .int) (zrm 2 42) [.ref o_, .int v_least, .int v_most] Sh top μ (some (.int r_)) Sh top μ_ 0 0 := by
  refine zMet_of (by decide) (Nat.le_of_ble_eq_true rfl) fun X hX1 hX2 fx fin => ?_
  subst hX1; subst hX2
  replace fx : zFix X cX12_number RX12 (zrm 2 42) 4 := fx
  show zZ zK1 X (zT0 Sh top) μ 0 [(0, .ref o_), (1, .int v_least), (2, .int v_most)] []
  unfold f12_number at h
  refine z_aload_n fx (k := 0) (i := 0) rfl rfl d12_number_0 ?_
  obtain ⟨t1, e1, h⟩ := zinv h
  refine z_cVr fx (c12_goes (zLo X) (zDo X) Sh top hO o_ μ _ ho e1) mv12_goes ml12_225 ho rfl rfl rfl rfl d12_number_1 ?_
  refine z_ifb_ne fx d12_number_4 (fun c2 => ?_) (fun c2 => ?_)
  · replace h := zif_t c2 h
    refine z_aload_n fx (k := 0) (i := 0) rfl rfl d12_number_9 ?_
    obtain ⟨t2, μ3, e3, h⟩ := zinv2 h
    refine z_cVr fx (c12_here (zLo X) (zDo X) Sh top hO o_ μ _ _ ho e3) mv12_here ml12_229 ho rfl rfl rfl rfl d12_number_10 ?_
    refine z_pop fx rfl d12_number_13 ?_
    refine z_aload_n fx (k := 0) (i := 0) rfl rfl d12_number_14 ?_
    refine z_aload_n fx (k := 0) (i := 0) rfl rfl d12_number_15 ?_
    refine z_getI fx 12 37 1237 ho lf12_122 ⟨fk12_37, rfl⟩ d12_number_16 ?_
    obtain ⟨μ4, e4, h⟩ := zinv h
    refine z_putI fx (ci := 12) 38 ho lf12_125 fp12_38 e4 d12_number_19 ?_
    obtain ⟨b5, e6, h⟩ := zinv h
    have kt5 : b5 = true → zZ zK1 X (zT0 Sh top) μ4 59 [(0, .ref o_), (1, .int v_least), (2, .int v_most)] [] := by
      intro hc
      replace h := zif_t hc h
      refine z_aload_n fx (k := 0) (i := 0) rfl rfl d12_number_59 ?_
      refine z_iconst fx (v := 1) ic1 d12_number_60 ?_
      refine z_aload_n fx (k := 0) (i := 0) rfl rfl d12_number_61 ?_
      refine z_getI fx 12 37 1237 ho lf12_122 ⟨fk12_37, rfl⟩ d12_number_62 ?_
      obtain ⟨μ6, e7, h⟩ := zinv h
      refine z_cVv fx (c12_fails (zLo X) (zDo X) Sh top hO o_ 1 (gF μ4 1237 o_) μ4 _ ho e7) mv12_fails ml12_240 ho rfl rfl rfl rfl d12_number_65 ?_
      refine z_iconst fx (v := 0) ic0 d12_number_68 ?_
      cases h
      exact z_ireturn fx fin d12_number_69
    have kf5 : b5 = false → zZ zK1 X (zT0 Sh top) μ4 70 [(0, .ref o_), (1, .int v_least), (2, .int v_most)] [] := by
      intro hc
      replace h := zif_f hc h
      refine z_iconst fx (v := 0) ic0 d12_number_70 ?_
      refine z_istore_n fx (k := 3) (i := 3) rfl rfl (lv' := [(0, .ref o_), (1, .int v_least), (2, .int v_most), (3, .int 0)]) rfl rfl d12_number_71 ?_
      obtain ⟨v_v_9, μ10, e37, h⟩ := zinv2 h
      have kx11 : zZ zK1 X (zT0 Sh top) μ10 142 [(0, .ref o_), (1, .int v_least), (2, .int v_most), (3, .int v_v_9)] [] := by
        obtain ⟨μ20, e28, h⟩ := zinv h
        have k29 : zZ zK1 X (zT0 Sh top) μ20 160 [(0, .ref o_), (1, .int v_least), (2, .int v_most), (3, .int v_v_9)] [] := by
          obtain ⟨x21, e30, h⟩ := zinv h
          have k31 : zZ zK1 X (zT0 Sh top) μ20 172 [(0, .ref o_), (1, .int v_least), (2, .int v_most), (3, .int v_v_9)] [.int x21] := by
            cases h
            exact z_ireturn fx fin d12_number_172
          refine z_aload_n fx (k := 0) (i := 0) rfl rfl d12_number_160 ?_
          obtain ⟨t22, e32, e30⟩ := zinv e30
          refine z_cVr fx (c12_goes (zLo X) (zDo X) Sh top hO o_ μ20 _ ho e32) mv12_goes ml12_225 ho rfl rfl rfl rfl d12_number_161 ?_
          refine z_ifb_eq fx d12_number_164 (fun c33 => ?_) (fun c33 => ?_)
          · replace e30 := zif_f c33 e30
            refine z_iconst fx (v := 0) ic0 d12_number_171 ?_
            cases e30
            exact k31
          · replace e30 := zif_t c33 e30
            refine z_iload_n fx (k := 3) (i := 3) rfl rfl d12_number_167 ?_
            cases e30
            refine z_goto fx d12_number_168 ?_
            exact k31
        clear h
        refine z_iload_n fx (k := 3) (i := 3) rfl rfl d12_number_142 ?_
        refine z_iload_n fx (k := 1) (i := 1) rfl rfl d12_number_143 ?_
        refine z_iload_n fx (k := 2) (i := 2) rfl rfl d12_number_144 ?_
        obtain ⟨t23, e34, e28⟩ := zinv e28
        refine z_cSr fx (c12_isIn (zLo X) (zDo X) Sh top hO v_v_9 v_least v_most μ10 _  e34) ms12_isIn ml12_250 rfl rfl rfl rfl d12_number_145 ?_
        refine z_ifb_ne fx d12_number_148 (fun c35 => ?_) (fun c35 => ?_)
        · replace e28 := zif_t c35 e28
          cases e28
          exact k29
        · replace e28 := zif_f c35 e28
          refine z_aload_n fx (k := 0) (i := 0) rfl rfl d12_number_151 ?_
          refine z_iconst fx (v := 2) ic2 d12_number_152 ?_
          refine z_aload_n fx (k := 0) (i := 0) rfl rfl d12_number_153 ?_
          refine z_getI fx 12 38 1238 ho lf12_125 ⟨fk12_38, rfl⟩ d12_number_154 ?_
          obtain ⟨μ24, e36, e28⟩ := zinv e28
          refine z_cVv fx (c12_fails (zLo X) (zDo X) Sh top hO o_ 2 (gF μ10 1238 o_) μ10 _ ho e36) mv12_fails ml12_240 ho rfl rfl rfl rfl d12_number_157 ?_
          cases e28
          exact k29
      clear h
      have klr10 : ∀ (n : Nat) (v_v_7 : Int32) (μ8 : zM), zloop (fun s => f12_number_L1 o_ s.1 s.2) n (v_v_7, μ8) = some (v_v_9, μ10) → zZ zK1 X (zT0 Sh top) μ8 72 [(0, .ref o_), (1, .int v_least), (2, .int v_most), (3, .int v_v_7)] [] := by
        intro n
        induction n with
        | zero => intro v_v_7 μ8 hl9; cases hl9
        | succ n ih12 =>
          intro v_v_7 μ8 hl9
          obtain ⟨y, e8, hl9⟩ := zloop_inv hl9
          replace e8 : f12_number_L1 o_ v_v_7 μ8 = some y := e8
          unfold f12_number_L1 at e8
          obtain ⟨b11, e14, e8⟩ := zinv e8
          have kt13 : b11 = true → zZ zK1 X (zT0 Sh top) μ8 90 [(0, .ref o_), (1, .int v_least), (2, .int v_most), (3, .int v_v_7)] [] := by
            intro hc
            replace e8 := zif_t hc e8
            obtain ⟨μ12, e15, e8⟩ := zinv e8
            have k16 : zZ zK1 X (zT0 Sh top) μ12 112 [(0, .ref o_), (1, .int v_least), (2, .int v_most), (3, .int v_v_7)] [] := by
              refine z_bipush fx (v := 10) bp10 d12_number_112 ?_
              refine z_iload_n fx (k := 3) (i := 3) rfl rfl d12_number_114 ?_
              refine z_imul fx d12_number_115 ?_
              refine z_aload_n fx (k := 0) (i := 0) rfl rfl d12_number_116 ?_
              refine z_aload_n fx (k := 0) (i := 0) rfl rfl d12_number_117 ?_
              refine z_getI fx 12 37 1237 ho lf12_122 ⟨fk12_37, rfl⟩ d12_number_118 ?_
              obtain ⟨t13, e17, e8⟩ := zinv e8
              refine z_cVr fx (c12_seen (zLo X) (zDo X) Sh top hO o_ (gF μ12 1237 o_) μ12 _ ho e17) mv12_seen ml12_222 ho rfl rfl rfl rfl d12_number_121 ?_
              refine z_iadd fx d12_number_124 ?_
              refine z_bipush fx (v := 48) bp48 d12_number_125 ?_
              refine z_isub fx d12_number_127 ?_
              obtain ⟨v_v_14, e18, e8⟩ := zinv e8
              replace e18 := Option.some.inj e18
              refine z_top (congrArg Value.int e18) ?_
              refine z_istore_n fx (k := 3) (i := 3) rfl rfl (lv' := [(0, .ref o_), (1, .int v_least), (2, .int v_most), (3, .int v_v_14)]) rfl rfl d12_number_128 ?_
              refine z_aload_n fx (k := 0) (i := 0) rfl rfl d12_number_129 ?_
              refine z_dup fx rfl d12_number_130 ?_
              refine z_getI fx 12 37 1237 ho lf12_122 ⟨fk12_37, rfl⟩ d12_number_131 ?_
              refine z_iconst fx (v := 1) ic1 d12_number_134 ?_
              refine z_iadd fx d12_number_135 ?_
              obtain ⟨μ15, e19, e8⟩ := zinv e8
              refine z_putI fx (ci := 12) 37 ho lf12_122 fp12_37 e19 d12_number_136 ?_
              cases e8
              refine z_goto fx d12_number_139 ?_
              exact ih12 _ _ hl9
            clear e8
            refine z_aload_n fx (k := 0) (i := 0) rfl rfl d12_number_90 ?_
            refine z_getI fx 12 37 1237 ho lf12_122 ⟨fk12_37, rfl⟩ d12_number_91 ?_
            refine z_aload_n fx (k := 0) (i := 0) rfl rfl d12_number_94 ?_
            refine z_getI fx 12 38 1238 ho lf12_125 ⟨fk12_38, rfl⟩ d12_number_95 ?_
            refine z_isub fx d12_number_98 ?_
            refine z_iconst fx (v := 3) ic3 d12_number_99 ?_
            refine z_icmp_ne fx d12_number_100 (fun c20 => ?_) (fun c20 => ?_)
            · replace e15 := zif_f c20 e15
              cases e15
              exact k16
            · replace e15 := zif_t c20 e15
              refine z_aload_n fx (k := 0) (i := 0) rfl rfl d12_number_103 ?_
              refine z_iconst fx (v := 1) ic1 d12_number_104 ?_
              refine z_aload_n fx (k := 0) (i := 0) rfl rfl d12_number_105 ?_
              refine z_getI fx 12 37 1237 ho lf12_122 ⟨fk12_37, rfl⟩ d12_number_106 ?_
              obtain ⟨μ16, e21, e15⟩ := zinv e15
              refine z_cVv fx (c12_fails (zLo X) (zDo X) Sh top hO o_ 1 (gF μ8 1237 o_) μ8 _ ho e21) mv12_fails ml12_240 ho rfl rfl rfl rfl d12_number_109 ?_
              cases e15
              exact k16
          have kf13 : b11 = false → zZ zK1 X (zT0 Sh top) μ8 142 [(0, .ref o_), (1, .int v_least), (2, .int v_most), (3, .int v_v_7)] [] := by
            intro hc
            replace e8 := zif_f hc e8
            cases e8
            cases hl9
            exact kx11
          clear e8
          obtain ⟨b17, e22, e14⟩ := zinv e14
          have kt23 : b17 = true → zZ zK1 X (zT0 Sh top) μ8 83 [(0, .ref o_), (1, .int v_least), (2, .int v_most), (3, .int v_v_7)] [] := by
            intro hc
            replace e14 := zif_t hc e14
            refine z_aload_n fx (k := 0) (i := 0) rfl rfl d12_number_83 ?_
            obtain ⟨t18, e24, e14⟩ := zinv e14
            refine z_cVr fx (c12_goes (zLo X) (zDo X) Sh top hO o_ μ8 _ ho e24) mv12_goes ml12_225 ho rfl rfl rfl rfl d12_number_84 ?_
            cases e14
            refine z_ifb_eq fx d12_number_87 (fun c25 => ?_) (fun c25 => ?_)
            · exact kf13 c25
            · exact kt13 c25
          have kf23 : b17 = false → zZ zK1 X (zT0 Sh top) μ8 142 [(0, .ref o_), (1, .int v_least), (2, .int v_most), (3, .int v_v_7)] [] := by
            intro hc
            replace e14 := zif_f hc e14
            cases e14
            exact kf13 rfl
          clear e14
          refine z_aload_n fx (k := 0) (i := 0) rfl rfl d12_number_72 ?_
          refine z_aload_n fx (k := 0) (i := 0) rfl rfl d12_number_73 ?_
          refine z_getI fx 12 37 1237 ho lf12_122 ⟨fk12_37, rfl⟩ d12_number_74 ?_
          obtain ⟨t19, e26, e22⟩ := zinv e22
          refine z_cVr fx (c12_isDigit (zLo X) (zDo X) Sh top hO o_ (gF μ8 1237 o_) μ8 _ ho e26) mv12_isDigit ml12_237 ho rfl rfl rfl rfl d12_number_77 ?_
          cases e22
          refine z_ifb_eq fx d12_number_80 (fun c27 => ?_) (fun c27 => ?_)
          · exact kf23 c27
          · exact kt23 c27
      exact klr10 _ _ _ e37
    clear h
    obtain ⟨b25, e38, e6⟩ := zinv e6
    have kf39 : b25 = false → zZ zK1 X (zT0 Sh top) μ4 46 [(0, .ref o_), (1, .int v_least), (2, .int v_most)] [] := by
      intro hc
      replace e6 := zif_f hc e6
      refine z_aload_n fx (k := 0) (i := 0) rfl rfl d12_number_46 ?_
      refine z_aload_n fx (k := 0) (i := 0) rfl rfl d12_number_47 ?_
      refine z_getI fx 12 37 1237 ho lf12_122 ⟨fk12_37, rfl⟩ d12_number_48 ?_
      refine z_iconst fx (v := 1) ic1 d12_number_51 ?_
      refine z_isub fx d12_number_52 ?_
      obtain ⟨t26, e40, e6⟩ := zinv e6
      refine z_cVr fx (c12_isDigit (zLo X) (zDo X) Sh top hO o_ ((gF μ4 1237 o_) - 1) μ4 _ ho e40) mv12_isDigit ml12_237 ho rfl rfl rfl rfl d12_number_53 ?_
      cases e6
      refine z_ifb_eq fx d12_number_56 (fun c41 => ?_) (fun c41 => ?_)
      · exact kf5 c41
      · exact kt5 c41
    have kt39 : b25 = true → zZ zK1 X (zT0 Sh top) μ4 59 [(0, .ref o_), (1, .int v_least), (2, .int v_most)] [] := by
      intro hc
      replace e6 := zif_t hc e6
      cases e6
      exact kt5 rfl
    clear e6
    obtain ⟨b27, e42, e38⟩ := zinv e38
    have kf43 : b27 = false → zZ zK1 X (zT0 Sh top) μ4 33 [(0, .ref o_), (1, .int v_least), (2, .int v_most)] [] := by
      intro hc
      replace e38 := zif_f hc e38
      refine z_aload_n fx (k := 0) (i := 0) rfl rfl d12_number_33 ?_
      refine z_aload_n fx (k := 0) (i := 0) rfl rfl d12_number_34 ?_
      refine z_getI fx 12 37 1237 ho lf12_122 ⟨fk12_37, rfl⟩ d12_number_35 ?_
      refine z_iconst fx (v := 1) ic1 d12_number_38 ?_
      refine z_isub fx d12_number_39 ?_
      obtain ⟨t28, e44, e38⟩ := zinv e38
      refine z_cVr fx (c12_isSmall (zLo X) (zDo X) Sh top hO o_ ((gF μ4 1237 o_) - 1) μ4 _ ho e44) mv12_isSmall ml12_233 ho rfl rfl rfl rfl d12_number_40 ?_
      cases e38
      refine z_ifb_ne fx d12_number_43 (fun c45 => ?_) (fun c45 => ?_)
      · exact kt39 c45
      · exact kf39 c45
    have kt43 : b27 = true → zZ zK1 X (zT0 Sh top) μ4 59 [(0, .ref o_), (1, .int v_least), (2, .int v_most)] [] := by
      intro hc
      replace e38 := zif_t hc e38
      cases e38
      exact kt39 rfl
    clear e38
    refine z_aload_n fx (k := 0) (i := 0) rfl rfl d12_number_22 ?_
    refine z_aload_n fx (k := 0) (i := 0) rfl rfl d12_number_23 ?_
    refine z_getI fx 12 37 1237 ho lf12_122 ⟨fk12_37, rfl⟩ d12_number_24 ?_
    obtain ⟨t29, e46, e42⟩ := zinv e42
    refine z_cVr fx (c12_isDigit (zLo X) (zDo X) Sh top hO o_ (gF μ4 1237 o_) μ4 _ ho e46) mv12_isDigit ml12_237 ho rfl rfl rfl rfl d12_number_27 ?_
    cases e42
    refine z_ifb_eq fx d12_number_30 (fun c47 => ?_) (fun c47 => ?_)
    · exact kt43 (by rw [c47]; rfl)
    · exact kf43 (by rw [c47]; rfl)
  · replace h := zif_f c2 h
    refine z_iconst fx (v := 0) ic0 d12_number_7 ?_
    cases h
    exact z_ireturn fx fin d12_number_8
theorem d12_told_0 : zd cX12_told 0 (.aload_n 0) 1 1 := by decide +kernel
theorem d12_told_1 : zd cX12_told 1 (.iload_n 1) 1 2 := by decide +kernel
theorem d12_told_2 : zd cX12_told 2 (.invokevirtual 254) 3 5 := by decide +kernel
theorem d12_told_5 : zd cX12_told 5 (.aload_n 0) 1 6 := by decide +kernel
theorem d12_told_6 : zd cX12_told 6 (.iload_n 2) 1 7 := by decide +kernel
theorem d12_told_7 : zd cX12_told 7 (.iload_n 3) 1 8 := by decide +kernel
theorem d12_told_8 : zd cX12_told 8 (.invokevirtual 257) 3 11 := by decide +kernel
theorem d12_told_11 : zd cX12_told 11 (.ireturn) 1 12 := by decide +kernel
set_option maxHeartbeats 4000000 in
set_option maxRecDepth 20000 in
theorem c12_told (l : Launch) (D : zDt) (Sh : zSh) (top : Nat) (hO : zOK Sh) (o_ : Nat) (v_key : Int32) (v_least : Int32) (v_most : Int32) (μ : zM) (r_ : Int32) (μ_ : zM) (ho : (Sh o_).1 = 19) (h : f12_told o_ v_key v_least v_most μ = some (r_, μ_)) : zMet l D zK1 yX12_told cX12_told 4 (some .int) (zrm 4 83) [.ref o_, .int v_key, .int v_least, .int v_most] Sh top μ (some (.int r_)) Sh top μ_ 0 0 := by
  refine zMet_of (by decide) (Nat.le_of_ble_eq_true rfl) fun X hX1 hX2 fx fin => ?_
  subst hX1; subst hX2
  replace fx : zFix X cX12_told RX12 (zrm 4 83) 4 := fx
  show zZ zK1 X (zT0 Sh top) μ 0 [(0, .ref o_), (1, .int v_key), (2, .int v_least), (3, .int v_most)] []
  unfold f12_told at h
  refine z_aload_n fx (k := 0) (i := 0) rfl rfl d12_told_0 ?_
  refine z_iload_n fx (k := 1) (i := 1) rfl rfl d12_told_1 ?_
  obtain ⟨μ1, e1, h⟩ := zinv h
  refine z_cVv fx (c12_must (zLo X) (zDo X) Sh top hO o_ v_key μ _ ho e1) mv12_must ml12_254 ho rfl rfl rfl rfl d12_told_2 ?_
  refine z_aload_n fx (k := 0) (i := 0) rfl rfl d12_told_5 ?_
  refine z_iload_n fx (k := 2) (i := 2) rfl rfl d12_told_6 ?_
  refine z_iload_n fx (k := 3) (i := 3) rfl rfl d12_told_7 ?_
  obtain ⟨t2, μ3, e2, h⟩ := zinv2 h
  refine z_cVr fx (c12_number (zLo X) (zDo X) Sh top hO o_ v_least v_most μ1 _ _ ho e2) mv12_number ml12_257 ho rfl rfl rfl rfl d12_told_8 ?_
  cases h
  exact z_ireturn fx fin d12_told_11
theorem d12_name_0 : zd cX12_name 0 (.aload_n 0) 1 1 := by decide +kernel
theorem d12_name_1 : zd cX12_name 1 (.invokevirtual 244) 3 4 := by decide +kernel
theorem d12_name_4 : zd cX12_name 4 (.aload_n 0) 1 5 := by decide +kernel
theorem d12_name_5 : zd cX12_name 5 (.invokevirtual 225) 3 8 := by decide +kernel
theorem d12_name_8 : zj cX12_name 8 (.ifCond .ne 4) 4 11 12 := by decide +kernel
theorem d12_name_11 : zd cX12_name 11 (.return_) 1 12 := by decide +kernel
theorem d12_name_12 : zd cX12_name 12 (.aload_n 0) 1 13 := by decide +kernel
theorem d12_name_13 : zd cX12_name 13 (.invokevirtual 247) 3 16 := by decide +kernel
theorem d12_name_16 : zd cX12_name 16 (.iconst (-1)) 1 17 := by decide +kernel
theorem d12_name_17 : zj cX12_name 17 (.if_icmp .eq 15) 15 20 32 := by decide +kernel
theorem d12_name_20 : zd cX12_name 20 (.aload_n 0) 1 21 := by decide +kernel
theorem d12_name_21 : zd cX12_name 21 (.iconst 1) 1 22 := by decide +kernel
theorem d12_name_22 : zd cX12_name 22 (.aload_n 0) 1 23 := by decide +kernel
theorem d12_name_23 : zd cX12_name 23 (.getfield 125) 3 26 := by decide +kernel
theorem d12_name_26 : zd cX12_name 26 (.invokevirtual 240) 3 29 := by decide +kernel
theorem d12_name_29 : zj cX12_name 29 (.goto 29) 29 32 58 := by decide +kernel
theorem d12_name_32 : zd cX12_name 32 (.aload_n 0) 1 33 := by decide +kernel
theorem d12_name_33 : zd cX12_name 33 (.getfield 122) 3 36 := by decide +kernel
theorem d12_name_36 : zd cX12_name 36 (.aload_n 0) 1 37 := by decide +kernel
theorem d12_name_37 : zd cX12_name 37 (.getfield 125) 3 40 := by decide +kernel
theorem d12_name_40 : zd cX12_name 40 (.isub) 1 41 := by decide +kernel
theorem d12_name_41 : zd cX12_name 41 (.bipush 6) 2 43 := by decide +kernel
theorem d12_name_43 : zj cX12_name 43 (.if_icmp .le 15) 15 46 58 := by decide +kernel
theorem d12_name_46 : zd cX12_name 46 (.aload_n 0) 1 47 := by decide +kernel
theorem d12_name_47 : zd cX12_name 47 (.iconst 1) 1 48 := by decide +kernel
theorem d12_name_48 : zd cX12_name 48 (.aload_n 0) 1 49 := by decide +kernel
theorem d12_name_49 : zd cX12_name 49 (.getfield 125) 3 52 := by decide +kernel
theorem d12_name_52 : zd cX12_name 52 (.bipush 6) 2 54 := by decide +kernel
theorem d12_name_54 : zd cX12_name 54 (.iadd) 1 55 := by decide +kernel
theorem d12_name_55 : zd cX12_name 55 (.invokevirtual 240) 3 58 := by decide +kernel
theorem d12_name_58 : zd cX12_name 58 (.return_) 1 59 := by decide +kernel
set_option maxHeartbeats 4000000 in
set_option maxRecDepth 20000 in
theorem c12_name (l : Launch) (D : zDt) (Sh : zSh) (top : Nat) (hO : zOK Sh) (o_ : Nat) (μ : zM) (μ_ : zM) (ho : (Sh o_).1 = 19) (h : f12_name o_ μ = some μ_) : zMet l D zK1 yX12_name cX12_name 1 none (zrm 3 62) [.ref o_] Sh top μ none Sh top μ_ 0 0 := by
  refine zMet_of (by decide) (Nat.le_of_ble_eq_true rfl) fun X hX1 hX2 fx fin => ?_
  subst hX1; subst hX2
  replace fx : zFix X cX12_name RX12 (zrm 3 62) 1 := fx
  show zZ zK1 X (zT0 Sh top) μ 0 [(0, .ref o_)] []
  unfold f12_name at h
  refine z_aload_n fx (k := 0) (i := 0) rfl rfl d12_name_0 ?_
  obtain ⟨μ1, e1, h⟩ := zinv h
  refine z_cVv fx (c12_word (zLo X) (zDo X) Sh top hO o_ μ _ ho e1) mv12_word ml12_244 ho rfl rfl rfl rfl d12_name_1 ?_
  refine z_aload_n fx (k := 0) (i := 0) rfl rfl d12_name_4 ?_
  obtain ⟨t2, e2, h⟩ := zinv h
  refine z_cVr fx (c12_goes (zLo X) (zDo X) Sh top hO o_ μ1 _ ho e2) mv12_goes ml12_225 ho rfl rfl rfl rfl d12_name_5 ?_
  refine z_ifb_ne fx d12_name_8 (fun c3 => ?_) (fun c3 => ?_)
  · replace h := zif_t c3 h
    refine z_aload_n fx (k := 0) (i := 0) rfl rfl d12_name_12 ?_
    obtain ⟨t3, e4, h⟩ := zinv h
    refine z_cVr fx (c12_own (zLo X) (zDo X) Sh top hO o_ μ1 _ ho e4) mv12_own ml12_247 ho rfl rfl rfl rfl d12_name_13 ?_
    refine z_iconst fx (v := (-1)) icm1 d12_name_16 ?_
    refine z_icmp_eq fx d12_name_17 (fun c5 => ?_) (fun c5 => ?_)
    · replace h := zif_t c5 h
      refine z_aload_n fx (k := 0) (i := 0) rfl rfl d12_name_32 ?_
      refine z_getI fx 12 37 1237 ho lf12_122 ⟨fk12_37, rfl⟩ d12_name_33 ?_
      refine z_aload_n fx (k := 0) (i := 0) rfl rfl d12_name_36 ?_
      refine z_getI fx 12 38 1238 ho lf12_125 ⟨fk12_38, rfl⟩ d12_name_37 ?_
      refine z_isub fx d12_name_40 ?_
      refine z_bipush fx (v := 6) bp6 d12_name_41 ?_
      refine z_icmp_le fx d12_name_43 (fun c6 => ?_) (fun c6 => ?_)
      · replace h := zif_f c6 h
        cases h
        exact z_return fx fin d12_name_58
      · replace h := zif_t c6 h
        refine z_aload_n fx (k := 0) (i := 0) rfl rfl d12_name_46 ?_
        refine z_iconst fx (v := 1) ic1 d12_name_47 ?_
        refine z_aload_n fx (k := 0) (i := 0) rfl rfl d12_name_48 ?_
        refine z_getI fx 12 38 1238 ho lf12_125 ⟨fk12_38, rfl⟩ d12_name_49 ?_
        refine z_bipush fx (v := 6) bp6 d12_name_52 ?_
        refine z_iadd fx d12_name_54 ?_
        obtain ⟨μ4, e7, h⟩ := zinv h
        refine z_cVv fx (c12_fails (zLo X) (zDo X) Sh top hO o_ 1 ((gF μ1 1238 o_) + 6) μ1 _ ho e7) mv12_fails ml12_240 ho rfl rfl rfl rfl d12_name_55 ?_
        cases h
        exact z_return fx fin d12_name_58
    · replace h := zif_f c5 h
      refine z_aload_n fx (k := 0) (i := 0) rfl rfl d12_name_20 ?_
      refine z_iconst fx (v := 1) ic1 d12_name_21 ?_
      refine z_aload_n fx (k := 0) (i := 0) rfl rfl d12_name_22 ?_
      refine z_getI fx 12 38 1238 ho lf12_125 ⟨fk12_38, rfl⟩ d12_name_23 ?_
      obtain ⟨μ5, e8, h⟩ := zinv h
      refine z_cVv fx (c12_fails (zLo X) (zDo X) Sh top hO o_ 1 (gF μ1 1238 o_) μ1 _ ho e8) mv12_fails ml12_240 ho rfl rfl rfl rfl d12_name_26 ?_
      refine z_goto fx d12_name_29 ?_
      cases h
      exact z_return fx fin d12_name_58
  · replace h := zif_f c3 h
    cases h
    exact z_return fx fin d12_name_11
theorem d12_isName_0 : zd cX12_isName 0 (.iconst 0) 1 1 := by decide +kernel
theorem d12_isName_1 : zd cX12_isName 1 (.istore_n 2) 1 2 := by decide +kernel
theorem d12_isName_2 : zd cX12_isName 2 (.iload_n 2) 1 3 := by decide +kernel
theorem d12_isName_3 : zd cX12_isName 3 (.bipush 6) 2 5 := by decide +kernel
theorem d12_isName_5 : zj cX12_isName 5 (.if_icmp .ge 58) 58 8 63 := by decide +kernel
theorem d12_isName_8 : zd cX12_isName 8 (.aload_n 0) 1 9 := by decide +kernel
theorem d12_isName_9 : zd cX12_isName 9 (.getfield 125) 3 12 := by decide +kernel
theorem d12_isName_12 : zd cX12_isName 12 (.iload_n 2) 1 13 := by decide +kernel
theorem d12_isName_13 : zd cX12_isName 13 (.iadd) 1 14 := by decide +kernel
theorem d12_isName_14 : zd cX12_isName 14 (.aload_n 0) 1 15 := by decide +kernel
theorem d12_isName_15 : zd cX12_isName 15 (.getfield 122) 3 18 := by decide +kernel
theorem d12_isName_18 : zj cX12_isName 18 (.if_icmp .ge 20) 20 21 38 := by decide +kernel
theorem d12_isName_21 : zd cX12_isName 21 (.aload_n 0) 1 22 := by decide +kernel
theorem d12_isName_22 : zd cX12_isName 22 (.getfield 104) 3 25 := by decide +kernel
theorem d12_isName_25 : zd cX12_isName 25 (.aload_n 0) 1 26 := by decide +kernel
theorem d12_isName_26 : zd cX12_isName 26 (.getfield 125) 3 29 := by decide +kernel
theorem d12_isName_29 : zd cX12_isName 29 (.iload_n 2) 1 30 := by decide +kernel
theorem d12_isName_30 : zd cX12_isName 30 (.iadd) 1 31 := by decide +kernel
theorem d12_isName_31 : zd cX12_isName 31 (.iaload) 1 32 := by decide +kernel
theorem d12_isName_32 : zd cX12_isName 32 (.bipush 96) 2 34 := by decide +kernel
theorem d12_isName_34 : zd cX12_isName 34 (.isub) 1 35 := by decide +kernel
theorem d12_isName_35 : zj cX12_isName 35 (.goto 4) 4 38 39 := by decide +kernel
theorem d12_isName_38 : zd cX12_isName 38 (.iconst 0) 1 39 := by decide +kernel
theorem d12_isName_39 : zd cX12_isName 39 (.istore_n 3) 1 40 := by decide +kernel
theorem d12_isName_40 : zd cX12_isName 40 (.aload_n 0) 1 41 := by decide +kernel
theorem d12_isName_41 : zd cX12_isName 41 (.getfield 101) 3 44 := by decide +kernel
theorem d12_isName_44 : zd cX12_isName 44 (.bipush 6) 2 46 := by decide +kernel
theorem d12_isName_46 : zd cX12_isName 46 (.iload_n 1) 1 47 := by decide +kernel
theorem d12_isName_47 : zd cX12_isName 47 (.imul) 1 48 := by decide +kernel
theorem d12_isName_48 : zd cX12_isName 48 (.iload_n 2) 1 49 := by decide +kernel
theorem d12_isName_49 : zd cX12_isName 49 (.iadd) 1 50 := by decide +kernel
theorem d12_isName_50 : zd cX12_isName 50 (.iaload) 1 51 := by decide +kernel
theorem d12_isName_51 : zd cX12_isName 51 (.iload_n 3) 1 52 := by decide +kernel
theorem d12_isName_52 : zj cX12_isName 52 (.if_icmp .eq 5) 5 55 57 := by decide +kernel
theorem d12_isName_55 : zd cX12_isName 55 (.iconst 0) 1 56 := by decide +kernel
theorem d12_isName_56 : zd cX12_isName 56 (.ireturn) 1 57 := by decide +kernel
theorem d12_isName_57 : zd cX12_isName 57 (.iinc 2 1) 3 60 := by decide +kernel
theorem d12_isName_60 : zj cX12_isName 60 (.goto (-58)) (-58) 63 2 := by decide +kernel
theorem d12_isName_63 : zd cX12_isName 63 (.iconst 1) 1 64 := by decide +kernel
theorem d12_isName_64 : zd cX12_isName 64 (.ireturn) 1 65 := by decide +kernel
set_option maxHeartbeats 4000000 in
set_option maxRecDepth 20000 in
theorem c12_isName (l : Launch) (D : zDt) (Sh : zSh) (top : Nat) (hO : zOK Sh) (o_ : Nat) (v_k : Int32) (μ : zM) (r_ : Bool) (ho : (Sh o_).1 = 19) (h : f12_isName o_ v_k μ = some r_) : zMet l D zK1 yX12_isName cX12_isName 4 (some .boolean) (zrm 0 0) [.ref o_, .int v_k] Sh top μ (some (.int (bI r_))) Sh top μ 0 0 := by
  refine zMet_of (by decide) (Nat.le_of_ble_eq_true rfl) fun X hX1 hX2 fx fin => ?_
  subst hX1; subst hX2
  replace fx : zFix X cX12_isName RX12 (zrm 0 0) 4 := fx
  show zZ zK1 X (zT0 Sh top) μ 0 [(0, .ref o_), (1, .int v_k)] []
  unfold f12_isName at h
  refine z_iconst fx (v := 0) ic0 d12_isName_0 ?_
  refine z_istore_n fx (k := 2) (i := 2) rfl rfl (lv' := [(0, .ref o_), (1, .int v_k), (2, .int 0)]) rfl rfl d12_isName_1 ?_
  obtain ⟨r3, e14, h⟩ := zinv h
  have kx4 : ∀ (v_i_2 : Int32), r3 = .inr v_i_2 → zZ zK1 X (zT0 Sh top) μ 63 [(0, .ref o_), (1, .int v_k), (2, .int v_i_2)] [] := by
    intro v_i_2 hr
    subst hr
    replace h := zel1 h
    refine z_take 2 (lv' := [(0, .ref o_), (1, .int v_k)]) rfl ?_
    refine z_iconst fx (v := 1) ic1 d12_isName_63 ?_
    refine z_top (show Value.int 1 = .int (bI true) from rfl) ?_
    cases h
    exact z_zreturn fx fin d12_isName_64
  have klr3 : ∀ (n : Nat) (v_i_1 : Int32), zloop (fun s => f12_isName_L1 o_ v_k μ s) n v_i_1 = some r3 → zZ zK1 X (zT0 Sh top) μ 2 [(0, .ref o_), (1, .int v_k), (2, .int v_i_1)] [] := by
    intro n
    induction n with
    | zero => intro v_i_1 hl2; cases hl2
    | succ n ih5 =>
      intro v_i_1 hl2
      obtain ⟨y, e1, hl2⟩ := zloop_inv hl2
      replace e1 : f12_isName_L1 o_ v_k μ v_i_1 = some y := e1
      unfold f12_isName_L1 at e1
      refine z_iload_n fx (k := 2) (i := 2) rfl rfl d12_isName_2 ?_
      refine z_bipush fx (v := 6) bp6 d12_isName_3 ?_
      refine z_icmp_ge fx d12_isName_5 (fun c6 => ?_) (fun c6 => ?_)
      · replace e1 := zif_f c6 e1
        cases e1
        exact kx4 _ (Eq.symm hl2)
      · replace e1 := zif_t c6 e1
        obtain ⟨x3, e7, e1⟩ := zinv e1
        have k8 : zZ zK1 X (zT0 Sh top) μ 39 [(0, .ref o_), (1, .int v_k), (2, .int v_i_1)] [.int x3] := by
          refine z_istore_n fx (k := 3) (i := 3) rfl rfl (lv' := [(0, .ref o_), (1, .int v_k), (2, .int v_i_1), (3, .int x3)]) rfl rfl d12_isName_39 ?_
          refine z_aload_n fx (k := 0) (i := 0) rfl rfl d12_isName_40 ?_
          refine z_getO fx 12 30 20 ho lf12_101 fk12_30 d12_isName_41 ?_
          refine z_bipush fx (v := 6) bp6 d12_isName_44 ?_
          refine z_iload_n fx (k := 1) (i := 1) rfl rfl d12_isName_46 ?_
          refine z_imul fx d12_isName_47 ?_
          refine z_iload_n fx (k := 2) (i := 2) rfl rfl d12_isName_48 ?_
          refine z_iadd fx d12_isName_49 ?_
          obtain ⟨t5, e11, e1⟩ := zinv e1
          refine z_iald fx (ok12_30 hO ho) e11 d12_isName_50 ?_
          refine z_iload_n fx (k := 3) (i := 3) rfl rfl d12_isName_51 ?_
          refine z_icmp_eq fx d12_isName_52 (fun c12 => ?_) (fun c12 => ?_)
          · replace e1 := zif_t c12 e1
            refine z_take 3 (lv' := [(0, .ref o_), (1, .int v_k), (2, .int v_i_1)]) rfl ?_
            obtain ⟨v_i_6, e13, e1⟩ := zinv e1
            replace e13 := Option.some.inj e13
            refine z_iinc fx (i := 2) (x := v_i_1) (v := v_i_6) rfl (by rw [in1]; exact e13) rfl (lv' := [(0, .ref o_), (1, .int v_k), (2, .int v_i_6)]) rfl rfl d12_isName_57 ?_
            cases e1
            refine z_goto fx d12_isName_60 ?_
            exact ih5 _ hl2
          · replace e1 := zif_f c12 e1
            refine z_iconst fx (v := 0) ic0 d12_isName_55 ?_
            refine z_top (show Value.int 0 = .int (bI false) from rfl) ?_
            cases e1
            cases hl2
            cases h
            exact z_zreturn fx fin d12_isName_56
        refine z_aload_n fx (k := 0) (i := 0) rfl rfl d12_isName_8 ?_
        refine z_getI fx 12 38 1238 ho lf12_125 ⟨fk12_38, rfl⟩ d12_isName_9 ?_
        refine z_iload_n fx (k := 2) (i := 2) rfl rfl d12_isName_12 ?_
        refine z_iadd fx d12_isName_13 ?_
        refine z_aload_n fx (k := 0) (i := 0) rfl rfl d12_isName_14 ?_
        refine z_getI fx 12 37 1237 ho lf12_122 ⟨fk12_37, rfl⟩ d12_isName_15 ?_
        refine z_icmp_ge fx d12_isName_18 (fun c9 => ?_) (fun c9 => ?_)
        · replace e7 := zif_f c9 e7
          refine z_iconst fx (v := 0) ic0 d12_isName_38 ?_
          cases e7
          exact k8
        · replace e7 := zif_t c9 e7
          refine z_aload_n fx (k := 0) (i := 0) rfl rfl d12_isName_21 ?_
          refine z_getO fx 12 31 21 ho lf12_104 fk12_31 d12_isName_22 ?_
          refine z_aload_n fx (k := 0) (i := 0) rfl rfl d12_isName_25 ?_
          refine z_getI fx 12 38 1238 ho lf12_125 ⟨fk12_38, rfl⟩ d12_isName_26 ?_
          refine z_iload_n fx (k := 2) (i := 2) rfl rfl d12_isName_29 ?_
          refine z_iadd fx d12_isName_30 ?_
          obtain ⟨t4, e10, e7⟩ := zinv e7
          refine z_iald fx (ok12_31 hO ho) e10 d12_isName_31 ?_
          refine z_bipush fx (v := 96) bp96 d12_isName_32 ?_
          refine z_isub fx d12_isName_34 ?_
          cases e7
          refine z_goto fx d12_isName_35 ?_
          exact k8
  exact klr3 _ _ e14
theorem d12_nameIn_0 : zd cX12_nameIn 0 (.iload_n 1) 1 1 := by decide +kernel
theorem d12_nameIn_1 : zd cX12_nameIn 1 (.istore_n 3) 1 2 := by decide +kernel
theorem d12_nameIn_2 : zd cX12_nameIn 2 (.iload_n 3) 1 3 := by decide +kernel
theorem d12_nameIn_3 : zd cX12_nameIn 3 (.iload_n 1) 1 4 := by decide +kernel
theorem d12_nameIn_4 : zd cX12_nameIn 4 (.iload_n 2) 1 5 := by decide +kernel
theorem d12_nameIn_5 : zd cX12_nameIn 5 (.iadd) 1 6 := by decide +kernel
theorem d12_nameIn_6 : zj cX12_nameIn 6 (.if_icmp .ge 21) 21 9 27 := by decide +kernel
theorem d12_nameIn_9 : zd cX12_nameIn 9 (.aload_n 0) 1 10 := by decide +kernel
theorem d12_nameIn_10 : zd cX12_nameIn 10 (.iload_n 3) 1 11 := by decide +kernel
theorem d12_nameIn_11 : zd cX12_nameIn 11 (.invokevirtual 261) 3 14 := by decide +kernel
theorem d12_nameIn_14 : zj cX12_nameIn 14 (.ifCond .eq 7) 7 17 21 := by decide +kernel
theorem d12_nameIn_17 : zd cX12_nameIn 17 (.iload_n 3) 1 18 := by decide +kernel
theorem d12_nameIn_18 : zd cX12_nameIn 18 (.iload_n 1) 1 19 := by decide +kernel
theorem d12_nameIn_19 : zd cX12_nameIn 19 (.isub) 1 20 := by decide +kernel
theorem d12_nameIn_20 : zd cX12_nameIn 20 (.ireturn) 1 21 := by decide +kernel
theorem d12_nameIn_21 : zd cX12_nameIn 21 (.iinc 3 1) 3 24 := by decide +kernel
theorem d12_nameIn_24 : zj cX12_nameIn 24 (.goto (-22)) (-22) 27 2 := by decide +kernel
theorem d12_nameIn_27 : zd cX12_nameIn 27 (.iconst (-1)) 1 28 := by decide +kernel
theorem d12_nameIn_28 : zd cX12_nameIn 28 (.ireturn) 1 29 := by decide +kernel
set_option maxHeartbeats 4000000 in
set_option maxRecDepth 20000 in
theorem c12_nameIn (l : Launch) (D : zDt) (Sh : zSh) (top : Nat) (hO : zOK Sh) (o_ : Nat) (v_first : Int32) (v_many : Int32) (μ : zM) (r_ : Int32) (ho : (Sh o_).1 = 19) (h : f12_nameIn o_ v_first v_many μ = some r_) : zMet l D zK1 yX12_nameIn cX12_nameIn 4 (some .int) (zrm 1 23) [.ref o_, .int v_first, .int v_many] Sh top μ (some (.int r_)) Sh top μ 0 0 := by
  refine zMet_of (by decide) (Nat.le_of_ble_eq_true rfl) fun X hX1 hX2 fx fin => ?_
  subst hX1; subst hX2
  replace fx : zFix X cX12_nameIn RX12 (zrm 1 23) 4 := fx
  show zZ zK1 X (zT0 Sh top) μ 0 [(0, .ref o_), (1, .int v_first), (2, .int v_many)] []
  unfold f12_nameIn at h
  refine z_iload_n fx (k := 1) (i := 1) rfl rfl d12_nameIn_0 ?_
  refine z_istore_n fx (k := 3) (i := 3) rfl rfl (lv' := [(0, .ref o_), (1, .int v_first), (2, .int v_many), (3, .int v_first)]) rfl rfl d12_nameIn_1 ?_
  obtain ⟨r3, e10, h⟩ := zinv h
  have kx4 : ∀ (v_k_2 : Int32), r3 = .inr v_k_2 → zZ zK1 X (zT0 Sh top) μ 27 [(0, .ref o_), (1, .int v_first), (2, .int v_many), (3, .int v_k_2)] [] := by
    intro v_k_2 hr
    subst hr
    replace h := zel1 h
    refine z_take 3 (lv' := [(0, .ref o_), (1, .int v_first), (2, .int v_many)]) rfl ?_
    refine z_iconst fx (v := (-1)) icm1 d12_nameIn_27 ?_
    cases h
    exact z_ireturn fx fin d12_nameIn_28
  have klr3 : ∀ (n : Nat) (v_k_1 : Int32), zloop (fun s => f12_nameIn_L1 o_ v_first v_many μ s) n v_k_1 = some r3 → zZ zK1 X (zT0 Sh top) μ 2 [(0, .ref o_), (1, .int v_first), (2, .int v_many), (3, .int v_k_1)] [] := by
    intro n
    induction n with
    | zero => intro v_k_1 hl2; cases hl2
    | succ n ih5 =>
      intro v_k_1 hl2
      obtain ⟨y, e1, hl2⟩ := zloop_inv hl2
      replace e1 : f12_nameIn_L1 o_ v_first v_many μ v_k_1 = some y := e1
      unfold f12_nameIn_L1 at e1
      refine z_iload_n fx (k := 3) (i := 3) rfl rfl d12_nameIn_2 ?_
      refine z_iload_n fx (k := 1) (i := 1) rfl rfl d12_nameIn_3 ?_
      refine z_iload_n fx (k := 2) (i := 2) rfl rfl d12_nameIn_4 ?_
      refine z_iadd fx d12_nameIn_5 ?_
      refine z_icmp_ge fx d12_nameIn_6 (fun c6 => ?_) (fun c6 => ?_)
      · replace e1 := zif_f c6 e1
        cases e1
        exact kx4 _ (Eq.symm hl2)
      · replace e1 := zif_t c6 e1
        refine z_aload_n fx (k := 0) (i := 0) rfl rfl d12_nameIn_9 ?_
        refine z_iload_n fx (k := 3) (i := 3) rfl rfl d12_nameIn_10 ?_
        obtain ⟨t3, e7, e1⟩ := zinv e1
        refine z_cVr fx (c12_isName (zLo X) (zDo X) Sh top hO o_ v_k_1 μ _ ho e7) mv12_isName ml12_261 ho rfl rfl rfl rfl d12_nameIn_11 ?_
        refine z_ifb_eq fx d12_nameIn_14 (fun c8 => ?_) (fun c8 => ?_)
        · replace e1 := zif_f c8 e1
          obtain ⟨v_k_4, e9, e1⟩ := zinv e1
          replace e9 := Option.some.inj e9
          refine z_iinc fx (i := 3) (x := v_k_1) (v := v_k_4) rfl (by rw [in1]; exact e9) rfl (lv' := [(0, .ref o_), (1, .int v_first), (2, .int v_many), (3, .int v_k_4)]) rfl rfl d12_nameIn_21 ?_
          cases e1
          refine z_goto fx d12_nameIn_24 ?_
          exact ih5 _ hl2
        · replace e1 := zif_t c8 e1
          refine z_iload_n fx (k := 3) (i := 3) rfl rfl d12_nameIn_17 ?_
          refine z_iload_n fx (k := 1) (i := 1) rfl rfl d12_nameIn_18 ?_
          refine z_isub fx d12_nameIn_19 ?_
          cases e1
          cases hl2
          cases h
          exact z_ireturn fx fin d12_nameIn_20
  exact klr3 _ _ e10
theorem d12_freshName_0 : zd cX12_freshName 0 (.aload_n 0) 1 1 := by decide +kernel
theorem d12_freshName_1 : zd cX12_freshName 1 (.invokevirtual 264) 3 4 := by decide +kernel
theorem d12_freshName_4 : zd cX12_freshName 4 (.aload_n 0) 1 5 := by decide +kernel
theorem d12_freshName_5 : zd cX12_freshName 5 (.invokevirtual 225) 3 8 := by decide +kernel
theorem d12_freshName_8 : zj cX12_freshName 8 (.ifCond .ne 4) 4 11 12 := by decide +kernel
theorem d12_freshName_11 : zd cX12_freshName 11 (.return_) 1 12 := by decide +kernel
theorem d12_freshName_12 : zd cX12_freshName 12 (.aload_n 0) 1 13 := by decide +kernel
theorem d12_freshName_13 : zd cX12_freshName 13 (.iconst 0) 1 14 := by decide +kernel
theorem d12_freshName_14 : zd cX12_freshName 14 (.aload_n 0) 1 15 := by decide +kernel
theorem d12_freshName_15 : zd cX12_freshName 15 (.getfield 62) 3 18 := by decide +kernel
theorem d12_freshName_18 : zd cX12_freshName 18 (.invokevirtual 267) 3 21 := by decide +kernel
theorem d12_freshName_21 : zd cX12_freshName 21 (.iconst (-1)) 1 22 := by decide +kernel
theorem d12_freshName_22 : zj cX12_freshName 22 (.if_icmp .ne 17) 17 25 39 := by decide +kernel
theorem d12_freshName_25 : zd cX12_freshName 25 (.aload_n 0) 1 26 := by decide +kernel
theorem d12_freshName_26 : zd cX12_freshName 26 (.bipush 8) 2 28 := by decide +kernel
theorem d12_freshName_28 : zd cX12_freshName 28 (.aload_n 0) 1 29 := by decide +kernel
theorem d12_freshName_29 : zd cX12_freshName 29 (.getfield 68) 3 32 := by decide +kernel
theorem d12_freshName_32 : zd cX12_freshName 32 (.invokevirtual 267) 3 35 := by decide +kernel
theorem d12_freshName_35 : zd cX12_freshName 35 (.iconst (-1)) 1 36 := by decide +kernel
theorem d12_freshName_36 : zj cX12_freshName 36 (.if_icmp .eq 13) 13 39 49 := by decide +kernel
theorem d12_freshName_39 : zd cX12_freshName 39 (.aload_n 0) 1 40 := by decide +kernel
theorem d12_freshName_40 : zd cX12_freshName 40 (.iconst 3) 1 41 := by decide +kernel
theorem d12_freshName_41 : zd cX12_freshName 41 (.aload_n 0) 1 42 := by decide +kernel
theorem d12_freshName_42 : zd cX12_freshName 42 (.getfield 125) 3 45 := by decide +kernel
theorem d12_freshName_45 : zd cX12_freshName 45 (.invokevirtual 240) 3 48 := by decide +kernel
theorem d12_freshName_48 : zd cX12_freshName 48 (.return_) 1 49 := by decide +kernel
theorem d12_freshName_49 : zd cX12_freshName 49 (.iconst 0) 1 50 := by decide +kernel
theorem d12_freshName_50 : zd cX12_freshName 50 (.istore_n 2) 1 51 := by decide +kernel
theorem d12_freshName_51 : zd cX12_freshName 51 (.iload_n 2) 1 52 := by decide +kernel
theorem d12_freshName_52 : zd cX12_freshName 52 (.bipush 6) 2 54 := by decide +kernel
theorem d12_freshName_54 : zj cX12_freshName 54 (.if_icmp .ge 51) 51 57 105 := by decide +kernel
theorem d12_freshName_57 : zd cX12_freshName 57 (.aload_n 0) 1 58 := by decide +kernel
theorem d12_freshName_58 : zd cX12_freshName 58 (.getfield 101) 3 61 := by decide +kernel
theorem d12_freshName_61 : zd cX12_freshName 61 (.bipush 6) 2 63 := by decide +kernel
theorem d12_freshName_63 : zd cX12_freshName 63 (.iload_n 1) 1 64 := by decide +kernel
theorem d12_freshName_64 : zd cX12_freshName 64 (.imul) 1 65 := by decide +kernel
theorem d12_freshName_65 : zd cX12_freshName 65 (.iload_n 2) 1 66 := by decide +kernel
theorem d12_freshName_66 : zd cX12_freshName 66 (.iadd) 1 67 := by decide +kernel
theorem d12_freshName_67 : zd cX12_freshName 67 (.aload_n 0) 1 68 := by decide +kernel
theorem d12_freshName_68 : zd cX12_freshName 68 (.getfield 125) 3 71 := by decide +kernel
theorem d12_freshName_71 : zd cX12_freshName 71 (.iload_n 2) 1 72 := by decide +kernel
theorem d12_freshName_72 : zd cX12_freshName 72 (.iadd) 1 73 := by decide +kernel
theorem d12_freshName_73 : zd cX12_freshName 73 (.aload_n 0) 1 74 := by decide +kernel
theorem d12_freshName_74 : zd cX12_freshName 74 (.getfield 122) 3 77 := by decide +kernel
theorem d12_freshName_77 : zj cX12_freshName 77 (.if_icmp .ge 20) 20 80 97 := by decide +kernel
theorem d12_freshName_80 : zd cX12_freshName 80 (.aload_n 0) 1 81 := by decide +kernel
theorem d12_freshName_81 : zd cX12_freshName 81 (.getfield 104) 3 84 := by decide +kernel
theorem d12_freshName_84 : zd cX12_freshName 84 (.aload_n 0) 1 85 := by decide +kernel
theorem d12_freshName_85 : zd cX12_freshName 85 (.getfield 125) 3 88 := by decide +kernel
theorem d12_freshName_88 : zd cX12_freshName 88 (.iload_n 2) 1 89 := by decide +kernel
theorem d12_freshName_89 : zd cX12_freshName 89 (.iadd) 1 90 := by decide +kernel
theorem d12_freshName_90 : zd cX12_freshName 90 (.iaload) 1 91 := by decide +kernel
theorem d12_freshName_91 : zd cX12_freshName 91 (.bipush 96) 2 93 := by decide +kernel
theorem d12_freshName_93 : zd cX12_freshName 93 (.isub) 1 94 := by decide +kernel
theorem d12_freshName_94 : zj cX12_freshName 94 (.goto 4) 4 97 98 := by decide +kernel
theorem d12_freshName_97 : zd cX12_freshName 97 (.iconst 0) 1 98 := by decide +kernel
theorem d12_freshName_98 : zd cX12_freshName 98 (.iastore) 1 99 := by decide +kernel
theorem d12_freshName_99 : zd cX12_freshName 99 (.iinc 2 1) 3 102 := by decide +kernel
theorem d12_freshName_102 : zj cX12_freshName 102 (.goto (-51)) (-51) 105 51 := by decide +kernel
theorem d12_freshName_105 : zd cX12_freshName 105 (.return_) 1 106 := by decide +kernel
set_option maxHeartbeats 4000000 in
set_option maxRecDepth 20000 in
theorem c12_freshName (l : Launch) (D : zDt) (Sh : zSh) (top : Nat) (hO : zOK Sh) (o_ : Nat) (v_as : Int32) (μ : zM) (μ_ : zM) (ho : (Sh o_).1 = 19) (h : f12_freshName o_ v_as μ = some μ_) : zMet l D zK1 yX12_freshName cX12_freshName 3 none (zrm 4 82) [.ref o_, .int v_as] Sh top μ none Sh top μ_ 0 0 := by
  refine zMet_of (by decide) (Nat.le_of_ble_eq_true rfl) fun X hX1 hX2 fx fin => ?_
  subst hX1; subst hX2
  replace fx : zFix X cX12_freshName RX12 (zrm 4 82) 3 := fx
  show zZ zK1 X (zT0 Sh top) μ 0 [(0, .ref o_), (1, .int v_as)] []
  unfold f12_freshName at h
  refine z_aload_n fx (k := 0) (i := 0) rfl rfl d12_freshName_0 ?_
  obtain ⟨μ1, e1, h⟩ := zinv h
  refine z_cVv fx (c12_name (zLo X) (zDo X) Sh top hO o_ μ _ ho e1) mv12_name ml12_264 ho rfl rfl rfl rfl d12_freshName_1 ?_
  refine z_aload_n fx (k := 0) (i := 0) rfl rfl d12_freshName_4 ?_
  obtain ⟨t2, e2, h⟩ := zinv h
  refine z_cVr fx (c12_goes (zLo X) (zDo X) Sh top hO o_ μ1 _ ho e2) mv12_goes ml12_225 ho rfl rfl rfl rfl d12_freshName_5 ?_
  refine z_ifb_ne fx d12_freshName_8 (fun c3 => ?_) (fun c3 => ?_)
  · replace h := zif_t c3 h
    obtain ⟨b3, e5, h⟩ := zinv h
    have kt4 : b3 = true → zZ zK1 X (zT0 Sh top) μ1 39 [(0, .ref o_), (1, .int v_as)] [] := by
      intro hc
      replace h := zif_t hc h
      refine z_aload_n fx (k := 0) (i := 0) rfl rfl d12_freshName_39 ?_
      refine z_iconst fx (v := 3) ic3 d12_freshName_40 ?_
      refine z_aload_n fx (k := 0) (i := 0) rfl rfl d12_freshName_41 ?_
      refine z_getI fx 12 38 1238 ho lf12_125 ⟨fk12_38, rfl⟩ d12_freshName_42 ?_
      obtain ⟨μ4, e6, h⟩ := zinv h
      refine z_cVv fx (c12_fails (zLo X) (zDo X) Sh top hO o_ 3 (gF μ1 1238 o_) μ1 _ ho e6) mv12_fails ml12_240 ho rfl rfl rfl rfl d12_freshName_45 ?_
      cases h
      exact z_return fx fin d12_freshName_48
    have kf4 : b3 = false → zZ zK1 X (zT0 Sh top) μ1 49 [(0, .ref o_), (1, .int v_as)] [] := by
      intro hc
      replace h := zif_f hc h
      refine z_iconst fx (v := 0) ic0 d12_freshName_49 ?_
      refine z_istore_n fx (k := 2) (i := 2) rfl rfl (lv' := [(0, .ref o_), (1, .int v_as), (2, .int 0)]) rfl rfl d12_freshName_50 ?_
      obtain ⟨v_i_7, μ8, e19, h⟩ := zinv2 h
      have kx10 : zZ zK1 X (zT0 Sh top) μ8 105 [(0, .ref o_), (1, .int v_as), (2, .int v_i_7)] [] := by
        refine z_take 2 (lv' := [(0, .ref o_), (1, .int v_as)]) rfl ?_
        cases h
        exact z_return fx fin d12_freshName_105
      clear h
      have klr9 : ∀ (n : Nat) (v_i_5 : Int32) (μ6 : zM), zloop (fun s => f12_freshName_L1 o_ v_as s.1 s.2) n (v_i_5, μ6) = some (v_i_7, μ8) → zZ zK1 X (zT0 Sh top) μ6 51 [(0, .ref o_), (1, .int v_as), (2, .int v_i_5)] [] := by
        intro n
        induction n with
        | zero => intro v_i_5 μ6 hl8; cases hl8
        | succ n ih11 =>
          intro v_i_5 μ6 hl8
          obtain ⟨y, e7, hl8⟩ := zloop_inv hl8
          replace e7 : f12_freshName_L1 o_ v_as v_i_5 μ6 = some y := e7
          unfold f12_freshName_L1 at e7
          refine z_iload_n fx (k := 2) (i := 2) rfl rfl d12_freshName_51 ?_
          refine z_bipush fx (v := 6) bp6 d12_freshName_52 ?_
          refine z_icmp_ge fx d12_freshName_54 (fun c12 => ?_) (fun c12 => ?_)
          · replace e7 := zif_f c12 e7
            cases e7
            cases hl8
            exact kx10
          · replace e7 := zif_t c12 e7
            refine z_aload_n fx (k := 0) (i := 0) rfl rfl d12_freshName_57 ?_
            refine z_getO fx 12 30 20 ho lf12_101 fk12_30 d12_freshName_58 ?_
            refine z_bipush fx (v := 6) bp6 d12_freshName_61 ?_
            refine z_iload_n fx (k := 1) (i := 1) rfl rfl d12_freshName_63 ?_
            refine z_imul fx d12_freshName_64 ?_
            refine z_iload_n fx (k := 2) (i := 2) rfl rfl d12_freshName_65 ?_
            refine z_iadd fx d12_freshName_66 ?_
            obtain ⟨x9, e13, e7⟩ := zinv e7
            have k14 : zZ zK1 X (zT0 Sh top) μ6 98 [(0, .ref o_), (1, .int v_as), (2, .int v_i_5)] [.int x9, .int ((6 * v_as) + v_i_5), .ref (o_ + 20)] := by
              obtain ⟨μ11, e17, e7⟩ := zinv e7
              refine z_iast fx (ok12_30 hO ho) e17 d12_freshName_98 ?_
              obtain ⟨v_i_12, e18, e7⟩ := zinv e7
              replace e18 := Option.some.inj e18
              refine z_iinc fx (i := 2) (x := v_i_5) (v := v_i_12) rfl (by rw [in1]; exact e18) rfl (lv' := [(0, .ref o_), (1, .int v_as), (2, .int v_i_12)]) rfl rfl d12_freshName_99 ?_
              cases e7
              refine z_goto fx d12_freshName_102 ?_
              exact ih11 _ _ hl8
            refine z_aload_n fx (k := 0) (i := 0) rfl rfl d12_freshName_67 ?_
            refine z_getI fx 12 38 1238 ho lf12_125 ⟨fk12_38, rfl⟩ d12_freshName_68 ?_
            refine z_iload_n fx (k := 2) (i := 2) rfl rfl d12_freshName_71 ?_
            refine z_iadd fx d12_freshName_72 ?_
            refine z_aload_n fx (k := 0) (i := 0) rfl rfl d12_freshName_73 ?_
            refine z_getI fx 12 37 1237 ho lf12_122 ⟨fk12_37, rfl⟩ d12_freshName_74 ?_
            refine z_icmp_ge fx d12_freshName_77 (fun c15 => ?_) (fun c15 => ?_)
            · replace e13 := zif_f c15 e13
              refine z_iconst fx (v := 0) ic0 d12_freshName_97 ?_
              cases e13
              exact k14
            · replace e13 := zif_t c15 e13
              refine z_aload_n fx (k := 0) (i := 0) rfl rfl d12_freshName_80 ?_
              refine z_getO fx 12 31 21 ho lf12_104 fk12_31 d12_freshName_81 ?_
              refine z_aload_n fx (k := 0) (i := 0) rfl rfl d12_freshName_84 ?_
              refine z_getI fx 12 38 1238 ho lf12_125 ⟨fk12_38, rfl⟩ d12_freshName_85 ?_
              refine z_iload_n fx (k := 2) (i := 2) rfl rfl d12_freshName_88 ?_
              refine z_iadd fx d12_freshName_89 ?_
              obtain ⟨t10, e16, e13⟩ := zinv e13
              refine z_iald fx (ok12_31 hO ho) e16 d12_freshName_90 ?_
              refine z_bipush fx (v := 96) bp96 d12_freshName_91 ?_
              refine z_isub fx d12_freshName_93 ?_
              cases e13
              refine z_goto fx d12_freshName_94 ?_
              exact k14
      exact klr9 _ _ _ e19
    clear h
    obtain ⟨b13, e20, e5⟩ := zinv e5
    have kf21 : b13 = false → zZ zK1 X (zT0 Sh top) μ1 25 [(0, .ref o_), (1, .int v_as)] [] := by
      intro hc
      replace e5 := zif_f hc e5
      refine z_aload_n fx (k := 0) (i := 0) rfl rfl d12_freshName_25 ?_
      refine z_bipush fx (v := 8) bp8 d12_freshName_26 ?_
      refine z_aload_n fx (k := 0) (i := 0) rfl rfl d12_freshName_28 ?_
      refine z_getI fx 12 19 1219 ho lf12_68 ⟨fk12_19, rfl⟩ d12_freshName_29 ?_
      obtain ⟨t14, e22, e5⟩ := zinv e5
      refine z_cVr fx (c12_nameIn (zLo X) (zDo X) Sh top hO o_ 8 (gF μ1 1219 o_) μ1 _ ho e22) mv12_nameIn ml12_267 ho rfl rfl rfl rfl d12_freshName_32 ?_
      refine z_iconst fx (v := (-1)) icm1 d12_freshName_35 ?_
      cases e5
      refine z_icmp_eq fx d12_freshName_36 (fun c23 => ?_) (fun c23 => ?_)
      · exact kf4 (by rw [c23]; rfl)
      · exact kt4 (by rw [c23]; rfl)
    have kt21 : b13 = true → zZ zK1 X (zT0 Sh top) μ1 39 [(0, .ref o_), (1, .int v_as)] [] := by
      intro hc
      replace e5 := zif_t hc e5
      cases e5
      exact kt4 rfl
    clear e5
    refine z_aload_n fx (k := 0) (i := 0) rfl rfl d12_freshName_12 ?_
    refine z_iconst fx (v := 0) ic0 d12_freshName_13 ?_
    refine z_aload_n fx (k := 0) (i := 0) rfl rfl d12_freshName_14 ?_
    refine z_getI fx 12 17 1217 ho lf12_62 ⟨fk12_17, rfl⟩ d12_freshName_15 ?_
    obtain ⟨t15, e24, e20⟩ := zinv e20
    refine z_cVr fx (c12_nameIn (zLo X) (zDo X) Sh top hO o_ 0 (gF μ1 1217 o_) μ1 _ ho e24) mv12_nameIn ml12_267 ho rfl rfl rfl rfl d12_freshName_18 ?_
    refine z_iconst fx (v := (-1)) icm1 d12_freshName_21 ?_
    cases e20
    refine z_icmp_ne fx d12_freshName_22 (fun c25 => ?_) (fun c25 => ?_)
    · exact kt21 (by rw [c25]; rfl)
    · exact kf21 (by rw [c25]; rfl)
  · replace h := zif_f c3 h
    cases h
    exact z_return fx fin d12_freshName_11
theorem d12_knownBridge_0 : zd cX12_knownBridge 0 (.aload_n 0) 1 1 := by decide +kernel
theorem d12_knownBridge_1 : zd cX12_knownBridge 1 (.invokevirtual 264) 3 4 := by decide +kernel
theorem d12_knownBridge_4 : zd cX12_knownBridge 4 (.aload_n 0) 1 5 := by decide +kernel
theorem d12_knownBridge_5 : zd cX12_knownBridge 5 (.invokevirtual 225) 3 8 := by decide +kernel
theorem d12_knownBridge_8 : zj cX12_knownBridge 8 (.ifCond .ne 5) 5 11 13 := by decide +kernel
theorem d12_knownBridge_11 : zd cX12_knownBridge 11 (.iconst 0) 1 12 := by decide +kernel
theorem d12_knownBridge_12 : zd cX12_knownBridge 12 (.ireturn) 1 13 := by decide +kernel
theorem d12_knownBridge_13 : zd cX12_knownBridge 13 (.aload_n 0) 1 14 := by decide +kernel
theorem d12_knownBridge_14 : zd cX12_knownBridge 14 (.iconst 0) 1 15 := by decide +kernel
theorem d12_knownBridge_15 : zd cX12_knownBridge 15 (.aload_n 0) 1 16 := by decide +kernel
theorem d12_knownBridge_16 : zd cX12_knownBridge 16 (.getfield 62) 3 19 := by decide +kernel
theorem d12_knownBridge_19 : zd cX12_knownBridge 19 (.invokevirtual 267) 3 22 := by decide +kernel
theorem d12_knownBridge_22 : zd cX12_knownBridge 22 (.istore_n 1) 1 23 := by decide +kernel
theorem d12_knownBridge_23 : zd cX12_knownBridge 23 (.iload_n 1) 1 24 := by decide +kernel
theorem d12_knownBridge_24 : zd cX12_knownBridge 24 (.iconst (-1)) 1 25 := by decide +kernel
theorem d12_knownBridge_25 : zj cX12_knownBridge 25 (.if_icmp .ne 12) 12 28 37 := by decide +kernel
theorem d12_knownBridge_28 : zd cX12_knownBridge 28 (.aload_n 0) 1 29 := by decide +kernel
theorem d12_knownBridge_29 : zd cX12_knownBridge 29 (.iconst 3) 1 30 := by decide +kernel
theorem d12_knownBridge_30 : zd cX12_knownBridge 30 (.aload_n 0) 1 31 := by decide +kernel
theorem d12_knownBridge_31 : zd cX12_knownBridge 31 (.getfield 125) 3 34 := by decide +kernel
theorem d12_knownBridge_34 : zd cX12_knownBridge 34 (.invokevirtual 240) 3 37 := by decide +kernel
theorem d12_knownBridge_37 : zd cX12_knownBridge 37 (.iload_n 1) 1 38 := by decide +kernel
theorem d12_knownBridge_38 : zd cX12_knownBridge 38 (.iconst (-1)) 1 39 := by decide +kernel
theorem d12_knownBridge_39 : zj cX12_knownBridge 39 (.if_icmp .ne 7) 7 42 46 := by decide +kernel
theorem d12_knownBridge_42 : zd cX12_knownBridge 42 (.iconst 0) 1 43 := by decide +kernel
theorem d12_knownBridge_43 : zj cX12_knownBridge 43 (.goto 4) 4 46 47 := by decide +kernel
theorem d12_knownBridge_46 : zd cX12_knownBridge 46 (.iload_n 1) 1 47 := by decide +kernel
theorem d12_knownBridge_47 : zd cX12_knownBridge 47 (.ireturn) 1 48 := by decide +kernel
set_option maxHeartbeats 4000000 in
set_option maxRecDepth 20000 in
theorem c12_knownBridge (l : Launch) (D : zDt) (Sh : zSh) (top : Nat) (hO : zOK Sh) (o_ : Nat) (μ : zM) (r_ : Int32) (μ_ : zM) (ho : (Sh o_).1 = 19) (h : f12_knownBridge o_ μ = some (r_, μ_)) : zMet l D zK1 yX12_knownBridge cX12_knownBridge 2 (some .int) (zrm 4 82) [.ref o_] Sh top μ (some (.int r_)) Sh top μ_ 0 0 := by
  refine zMet_of (by decide) (Nat.le_of_ble_eq_true rfl) fun X hX1 hX2 fx fin => ?_
  subst hX1; subst hX2
  replace fx : zFix X cX12_knownBridge RX12 (zrm 4 82) 2 := fx
  show zZ zK1 X (zT0 Sh top) μ 0 [(0, .ref o_)] []
  unfold f12_knownBridge at h
  refine z_aload_n fx (k := 0) (i := 0) rfl rfl d12_knownBridge_0 ?_
  obtain ⟨μ1, e1, h⟩ := zinv h
  refine z_cVv fx (c12_name (zLo X) (zDo X) Sh top hO o_ μ _ ho e1) mv12_name ml12_264 ho rfl rfl rfl rfl d12_knownBridge_1 ?_
  refine z_aload_n fx (k := 0) (i := 0) rfl rfl d12_knownBridge_4 ?_
  obtain ⟨t2, e2, h⟩ := zinv h
  refine z_cVr fx (c12_goes (zLo X) (zDo X) Sh top hO o_ μ1 _ ho e2) mv12_goes ml12_225 ho rfl rfl rfl rfl d12_knownBridge_5 ?_
  refine z_ifb_ne fx d12_knownBridge_8 (fun c3 => ?_) (fun c3 => ?_)
  · replace h := zif_t c3 h
    refine z_aload_n fx (k := 0) (i := 0) rfl rfl d12_knownBridge_13 ?_
    refine z_iconst fx (v := 0) ic0 d12_knownBridge_14 ?_
    refine z_aload_n fx (k := 0) (i := 0) rfl rfl d12_knownBridge_15 ?_
    refine z_getI fx 12 17 1217 ho lf12_62 ⟨fk12_17, rfl⟩ d12_knownBridge_16 ?_
    obtain ⟨t3, e4, h⟩ := zinv h
    refine z_cVr fx (c12_nameIn (zLo X) (zDo X) Sh top hO o_ 0 (gF μ1 1217 o_) μ1 _ ho e4) mv12_nameIn ml12_267 ho rfl rfl rfl rfl d12_knownBridge_19 ?_
    refine z_istore_n fx (k := 1) (i := 1) rfl rfl (lv' := [(0, .ref o_), (1, .int t3)]) rfl rfl d12_knownBridge_22 ?_
    obtain ⟨μ4, e5, h⟩ := zinv h
    have k6 : zZ zK1 X (zT0 Sh top) μ4 37 [(0, .ref o_), (1, .int t3)] [] := by
      obtain ⟨x5, e7, h⟩ := zinv h
      have k8 : zZ zK1 X (zT0 Sh top) μ4 47 [(0, .ref o_), (1, .int t3)] [.int x5] := by
        cases h
        exact z_ireturn fx fin d12_knownBridge_47
      refine z_iload_n fx (k := 1) (i := 1) rfl rfl d12_knownBridge_37 ?_
      refine z_iconst fx (v := (-1)) icm1 d12_knownBridge_38 ?_
      refine z_icmp_ne fx d12_knownBridge_39 (fun c9 => ?_) (fun c9 => ?_)
      · replace e7 := zif_f c9 e7
        refine z_iload_n fx (k := 1) (i := 1) rfl rfl d12_knownBridge_46 ?_
        cases e7
        exact k8
      · replace e7 := zif_t c9 e7
        refine z_iconst fx (v := 0) ic0 d12_knownBridge_42 ?_
        cases e7
        refine z_goto fx d12_knownBridge_43 ?_
        exact k8
    clear h
    refine z_iload_n fx (k := 1) (i := 1) rfl rfl d12_knownBridge_23 ?_
    refine z_iconst fx (v := (-1)) icm1 d12_knownBridge_24 ?_
    refine z_icmp_ne fx d12_knownBridge_25 (fun c10 => ?_) (fun c10 => ?_)
    · replace e5 := zif_f c10 e5
      cases e5
      exact k6
    · replace e5 := zif_t c10 e5
      refine z_aload_n fx (k := 0) (i := 0) rfl rfl d12_knownBridge_28 ?_
      refine z_iconst fx (v := 3) ic3 d12_knownBridge_29 ?_
      refine z_aload_n fx (k := 0) (i := 0) rfl rfl d12_knownBridge_30 ?_
      refine z_getI fx 12 38 1238 ho lf12_125 ⟨fk12_38, rfl⟩ d12_knownBridge_31 ?_
      obtain ⟨μ6, e11, e5⟩ := zinv e5
      refine z_cVv fx (c12_fails (zLo X) (zDo X) Sh top hO o_ 3 (gF μ1 1238 o_) μ1 _ ho e11) mv12_fails ml12_240 ho rfl rfl rfl rfl d12_knownBridge_34 ?_
      cases e5
      exact k6
  · replace h := zif_f c3 h
    refine z_iconst fx (v := 0) ic0 d12_knownBridge_11 ?_
    cases h
    exact z_ireturn fx fin d12_knownBridge_12
theorem d12_readsBridge_0 : zd cX12_readsBridge 0 (.aload_n 0) 1 1 := by decide +kernel
theorem d12_readsBridge_1 : zd cX12_readsBridge 1 (.getfield 62) 3 4 := by decide +kernel
theorem d12_readsBridge_4 : zd cX12_readsBridge 4 (.bipush 8) 2 6 := by decide +kernel
theorem d12_readsBridge_6 : zj cX12_readsBridge 6 (.if_icmp .ne 12) 12 9 18 := by decide +kernel
theorem d12_readsBridge_9 : zd cX12_readsBridge 9 (.aload_n 0) 1 10 := by decide +kernel
theorem d12_readsBridge_10 : zd cX12_readsBridge 10 (.iconst 5) 1 11 := by decide +kernel
theorem d12_readsBridge_11 : zd cX12_readsBridge 11 (.aload_n 0) 1 12 := by decide +kernel
theorem d12_readsBridge_12 : zd cX12_readsBridge 12 (.getfield 125) 3 15 := by decide +kernel
theorem d12_readsBridge_15 : zd cX12_readsBridge 15 (.invokevirtual 240) 3 18 := by decide +kernel
theorem d12_readsBridge_18 : zd cX12_readsBridge 18 (.aload_n 0) 1 19 := by decide +kernel
theorem d12_readsBridge_19 : zd cX12_readsBridge 19 (.aload_n 0) 1 20 := by decide +kernel
theorem d12_readsBridge_20 : zd cX12_readsBridge 20 (.getfield 62) 3 23 := by decide +kernel
theorem d12_readsBridge_23 : zd cX12_readsBridge 23 (.invokevirtual 270) 3 26 := by decide +kernel
theorem d12_readsBridge_26 : zd cX12_readsBridge 26 (.aload_n 0) 1 27 := by decide +kernel
theorem d12_readsBridge_27 : zd cX12_readsBridge 27 (.iconst 4) 1 28 := by decide +kernel
theorem d12_readsBridge_28 : zd cX12_readsBridge 28 (.iconst 0) 1 29 := by decide +kernel
theorem d12_readsBridge_29 : zd cX12_readsBridge 29 (.bipush 15) 2 31 := by decide +kernel
theorem d12_readsBridge_31 : zd cX12_readsBridge 31 (.invokevirtual 273) 3 34 := by decide +kernel
theorem d12_readsBridge_34 : zd cX12_readsBridge 34 (.istore_n 1) 1 35 := by decide +kernel
theorem d12_readsBridge_35 : zd cX12_readsBridge 35 (.iconst 0) 1 36 := by decide +kernel
theorem d12_readsBridge_36 : zd cX12_readsBridge 36 (.istore_n 2) 1 37 := by decide +kernel
theorem d12_readsBridge_37 : zd cX12_readsBridge 37 (.aload_n 0) 1 38 := by decide +kernel
theorem d12_readsBridge_38 : zd cX12_readsBridge 38 (.invokevirtual 225) 3 41 := by decide +kernel
theorem d12_readsBridge_41 : zj cX12_readsBridge 41 (.ifCond .eq 19) 19 44 60 := by decide +kernel
theorem d12_readsBridge_44 : zd cX12_readsBridge 44 (.aload_n 0) 1 45 := by decide +kernel
theorem d12_readsBridge_45 : zd cX12_readsBridge 45 (.invokevirtual 229) 3 48 := by decide +kernel
theorem d12_readsBridge_48 : zd cX12_readsBridge 48 (.bipush 59) 2 50 := by decide +kernel
theorem d12_readsBridge_50 : zj cX12_readsBridge 50 (.if_icmp .eq 10) 10 53 60 := by decide +kernel
theorem d12_readsBridge_53 : zd cX12_readsBridge 53 (.aload_n 0) 1 54 := by decide +kernel
theorem d12_readsBridge_54 : zd cX12_readsBridge 54 (.iconst 5) 1 55 := by decide +kernel
theorem d12_readsBridge_55 : zd cX12_readsBridge 55 (.invokevirtual 254) 3 58 := by decide +kernel
theorem d12_readsBridge_58 : zd cX12_readsBridge 58 (.iconst 1) 1 59 := by decide +kernel
theorem d12_readsBridge_59 : zd cX12_readsBridge 59 (.istore_n 2) 1 60 := by decide +kernel
theorem d12_readsBridge_60 : zd cX12_readsBridge 60 (.aload_n 0) 1 61 := by decide +kernel
theorem d12_readsBridge_61 : zd cX12_readsBridge 61 (.invokevirtual 225) 3 64 := by decide +kernel
theorem d12_readsBridge_64 : zj cX12_readsBridge 64 (.ifCond .ne 4) 4 67 68 := by decide +kernel
theorem d12_readsBridge_67 : zd cX12_readsBridge 67 (.return_) 1 68 := by decide +kernel
theorem d12_readsBridge_68 : zd cX12_readsBridge 68 (.aload_n 0) 1 69 := by decide +kernel
theorem d12_readsBridge_69 : zd cX12_readsBridge 69 (.getfield 77) 3 72 := by decide +kernel
theorem d12_readsBridge_72 : zd cX12_readsBridge 72 (.aload_n 0) 1 73 := by decide +kernel
theorem d12_readsBridge_73 : zd cX12_readsBridge 73 (.getfield 62) 3 76 := by decide +kernel
theorem d12_readsBridge_76 : zd cX12_readsBridge 76 (.iload_n 1) 1 77 := by decide +kernel
theorem d12_readsBridge_77 : zd cX12_readsBridge 77 (.iastore) 1 78 := by decide +kernel
theorem d12_readsBridge_78 : zd cX12_readsBridge 78 (.aload_n 0) 1 79 := by decide +kernel
theorem d12_readsBridge_79 : zd cX12_readsBridge 79 (.getfield 80) 3 82 := by decide +kernel
theorem d12_readsBridge_82 : zd cX12_readsBridge 82 (.aload_n 0) 1 83 := by decide +kernel
theorem d12_readsBridge_83 : zd cX12_readsBridge 83 (.getfield 62) 3 86 := by decide +kernel
theorem d12_readsBridge_86 : zd cX12_readsBridge 86 (.iload_n 2) 1 87 := by decide +kernel
theorem d12_readsBridge_87 : zd cX12_readsBridge 87 (.iastore) 1 88 := by decide +kernel
theorem d12_readsBridge_88 : zd cX12_readsBridge 88 (.aload_n 0) 1 89 := by decide +kernel
theorem d12_readsBridge_89 : zd cX12_readsBridge 89 (.getfield 83) 3 92 := by decide +kernel
theorem d12_readsBridge_92 : zd cX12_readsBridge 92 (.aload_n 0) 1 93 := by decide +kernel
theorem d12_readsBridge_93 : zd cX12_readsBridge 93 (.getfield 62) 3 96 := by decide +kernel
theorem d12_readsBridge_96 : zd cX12_readsBridge 96 (.iconst 0) 1 97 := by decide +kernel
theorem d12_readsBridge_97 : zd cX12_readsBridge 97 (.iastore) 1 98 := by decide +kernel
theorem d12_readsBridge_98 : zd cX12_readsBridge 98 (.aload_n 0) 1 99 := by decide +kernel
theorem d12_readsBridge_99 : zd cX12_readsBridge 99 (.dup) 1 100 := by decide +kernel
theorem d12_readsBridge_100 : zd cX12_readsBridge 100 (.getfield 62) 3 103 := by decide +kernel
theorem d12_readsBridge_103 : zd cX12_readsBridge 103 (.iconst 1) 1 104 := by decide +kernel
theorem d12_readsBridge_104 : zd cX12_readsBridge 104 (.iadd) 1 105 := by decide +kernel
theorem d12_readsBridge_105 : zd cX12_readsBridge 105 (.putfield 62) 3 108 := by decide +kernel
theorem d12_readsBridge_108 : zd cX12_readsBridge 108 (.return_) 1 109 := by decide +kernel
set_option maxHeartbeats 4000000 in
set_option maxRecDepth 20000 in
theorem c12_readsBridge (l : Launch) (D : zDt) (Sh : zSh) (top : Nat) (hO : zOK Sh) (o_ : Nat) (μ : zM) (μ_ : zM) (ho : (Sh o_).1 = 19) (h : f12_readsBridge o_ μ = some μ_) : zMet l D zK1 yX12_readsBridge cX12_readsBridge 3 none (zrm 5 106) [.ref o_] Sh top μ none Sh top μ_ 0 0 := by
  refine zMet_of (by decide) (Nat.le_of_ble_eq_true rfl) fun X hX1 hX2 fx fin => ?_
  subst hX1; subst hX2
  replace fx : zFix X cX12_readsBridge RX12 (zrm 5 106) 3 := fx
  show zZ zK1 X (zT0 Sh top) μ 0 [(0, .ref o_)] []
  unfold f12_readsBridge at h
  obtain ⟨μ1, e1, h⟩ := zinv h
  have k2 : zZ zK1 X (zT0 Sh top) μ1 18 [(0, .ref o_)] [] := by
    refine z_aload_n fx (k := 0) (i := 0) rfl rfl d12_readsBridge_18 ?_
    refine z_aload_n fx (k := 0) (i := 0) rfl rfl d12_readsBridge_19 ?_
    refine z_getI fx 12 17 1217 ho lf12_62 ⟨fk12_17, rfl⟩ d12_readsBridge_20 ?_
    obtain ⟨μ2, e3, h⟩ := zinv h
    refine z_cVv fx (c12_freshName (zLo X) (zDo X) Sh top hO o_ (gF μ1 1217 o_) μ1 _ ho e3) mv12_freshName ml12_270 ho rfl rfl rfl rfl d12_readsBridge_23 ?_
    refine z_aload_n fx (k := 0) (i := 0) rfl rfl d12_readsBridge_26 ?_
    refine z_iconst fx (v := 4) ic4 d12_readsBridge_27 ?_
    refine z_iconst fx (v := 0) ic0 d12_readsBridge_28 ?_
    refine z_bipush fx (v := 15) bp15 d12_readsBridge_29 ?_
    obtain ⟨t3, μ4, e4, h⟩ := zinv2 h
    refine z_cVr fx (c12_told (zLo X) (zDo X) Sh top hO o_ 4 0 15 μ2 _ _ ho e4) mv12_told ml12_273 ho rfl rfl rfl rfl d12_readsBridge_31 ?_
    refine z_istore_n fx (k := 1) (i := 1) rfl rfl (lv' := [(0, .ref o_), (1, .int t3)]) rfl rfl d12_readsBridge_34 ?_
    refine z_iconst fx (v := 0) ic0 d12_readsBridge_35 ?_
    refine z_istore_n fx (k := 2) (i := 2) rfl rfl (lv' := [(0, .ref o_), (1, .int t3), (2, .int 0)]) rfl rfl d12_readsBridge_36 ?_
    obtain ⟨v_old_5, μ6, e5, h⟩ := zinv2 h
    have k6 : zZ zK1 X (zT0 Sh top) μ6 60 [(0, .ref o_), (1, .int t3), (2, .int v_old_5)] [] := by
      refine z_aload_n fx (k := 0) (i := 0) rfl rfl d12_readsBridge_60 ?_
      obtain ⟨t7, e7, h⟩ := zinv h
      refine z_cVr fx (c12_goes (zLo X) (zDo X) Sh top hO o_ μ6 _ ho e7) mv12_goes ml12_225 ho rfl rfl rfl rfl d12_readsBridge_61 ?_
      refine z_ifb_ne fx d12_readsBridge_64 (fun c8 => ?_) (fun c8 => ?_)
      · replace h := zif_t c8 h
        refine z_aload_n fx (k := 0) (i := 0) rfl rfl d12_readsBridge_68 ?_
        refine z_getO fx 12 22 12 ho lf12_77 fk12_22 d12_readsBridge_69 ?_
        refine z_aload_n fx (k := 0) (i := 0) rfl rfl d12_readsBridge_72 ?_
        refine z_getI fx 12 17 1217 ho lf12_62 ⟨fk12_17, rfl⟩ d12_readsBridge_73 ?_
        refine z_iload_n fx (k := 1) (i := 1) rfl rfl d12_readsBridge_76 ?_
        obtain ⟨μ8, e9, h⟩ := zinv h
        refine z_iast fx (ok12_22 hO ho) e9 d12_readsBridge_77 ?_
        refine z_aload_n fx (k := 0) (i := 0) rfl rfl d12_readsBridge_78 ?_
        refine z_getO fx 12 23 13 ho lf12_80 fk12_23 d12_readsBridge_79 ?_
        refine z_aload_n fx (k := 0) (i := 0) rfl rfl d12_readsBridge_82 ?_
        refine z_getI fx 12 17 1217 ho lf12_62 ⟨fk12_17, rfl⟩ d12_readsBridge_83 ?_
        refine z_iload_n fx (k := 2) (i := 2) rfl rfl d12_readsBridge_86 ?_
        obtain ⟨μ9, e10, h⟩ := zinv h
        refine z_iast fx (ok12_23 hO ho) e10 d12_readsBridge_87 ?_
        refine z_aload_n fx (k := 0) (i := 0) rfl rfl d12_readsBridge_88 ?_
        refine z_getO fx 12 24 14 ho lf12_83 fk12_24 d12_readsBridge_89 ?_
        refine z_aload_n fx (k := 0) (i := 0) rfl rfl d12_readsBridge_92 ?_
        refine z_getI fx 12 17 1217 ho lf12_62 ⟨fk12_17, rfl⟩ d12_readsBridge_93 ?_
        refine z_iconst fx (v := 0) ic0 d12_readsBridge_96 ?_
        obtain ⟨μ10, e11, h⟩ := zinv h
        refine z_iast fx (ok12_24 hO ho) e11 d12_readsBridge_97 ?_
        refine z_aload_n fx (k := 0) (i := 0) rfl rfl d12_readsBridge_98 ?_
        refine z_dup fx rfl d12_readsBridge_99 ?_
        refine z_getI fx 12 17 1217 ho lf12_62 ⟨fk12_17, rfl⟩ d12_readsBridge_100 ?_
        refine z_iconst fx (v := 1) ic1 d12_readsBridge_103 ?_
        refine z_iadd fx d12_readsBridge_104 ?_
        obtain ⟨μ11, e12, h⟩ := zinv h
        refine z_putI fx (ci := 12) 17 ho lf12_62 fp12_17 e12 d12_readsBridge_105 ?_
        cases h
        exact z_return fx fin d12_readsBridge_108
      · replace h := zif_f c8 h
        cases h
        exact z_return fx fin d12_readsBridge_67
    clear h
    obtain ⟨b12, μ13, e14, e5⟩ := zinv2 e5
    have kt13 : b12 = true → zZ zK1 X (zT0 Sh top) μ13 53 [(0, .ref o_), (1, .int t3), (2, .int 0)] [] := by
      intro hc
      replace e5 := zif_t hc e5
      refine z_aload_n fx (k := 0) (i := 0) rfl rfl d12_readsBridge_53 ?_
      refine z_iconst fx (v := 5) ic5 d12_readsBridge_54 ?_
      obtain ⟨μ14, e15, e5⟩ := zinv e5
      refine z_cVv fx (c12_must (zLo X) (zDo X) Sh top hO o_ 5 μ13 _ ho e15) mv12_must ml12_254 ho rfl rfl rfl rfl d12_readsBridge_55 ?_
      refine z_iconst fx (v := 1) ic1 d12_readsBridge_58 ?_
      refine z_istore_n fx (k := 2) (i := 2) rfl rfl (lv' := [(0, .ref o_), (1, .int t3), (2, .int 1)]) rfl rfl d12_readsBridge_59 ?_
      cases e5
      exact k6
    have kf13 : b12 = false → zZ zK1 X (zT0 Sh top) μ13 60 [(0, .ref o_), (1, .int t3), (2, .int 0)] [] := by
      intro hc
      replace e5 := zif_f hc e5
      cases e5
      exact k6
    clear e5
    obtain ⟨b15, e16, e14⟩ := zinv e14
    have kt17 : b15 = true → zZ zK1 X (zT0 Sh top) μ4 44 [(0, .ref o_), (1, .int t3), (2, .int 0)] [] := by
      intro hc
      replace e14 := zif_t hc e14
      refine z_aload_n fx (k := 0) (i := 0) rfl rfl d12_readsBridge_44 ?_
      obtain ⟨t16, μ17, e18, e14⟩ := zinv2 e14
      refine z_cVr fx (c12_here (zLo X) (zDo X) Sh top hO o_ μ4 _ _ ho e18) mv12_here ml12_229 ho rfl rfl rfl rfl d12_readsBridge_45 ?_
      refine z_bipush fx (v := 59) bp59 d12_readsBridge_48 ?_
      cases e14
      refine z_icmp_eq fx d12_readsBridge_50 (fun c19 => ?_) (fun c19 => ?_)
      · exact kf13 (by rw [c19]; rfl)
      · exact kt13 (by rw [c19]; rfl)
    have kf17 : b15 = false → zZ zK1 X (zT0 Sh top) μ4 60 [(0, .ref o_), (1, .int t3), (2, .int 0)] [] := by
      intro hc
      replace e14 := zif_f hc e14
      cases e14
      exact kf13 rfl
    clear e14
    refine z_aload_n fx (k := 0) (i := 0) rfl rfl d12_readsBridge_37 ?_
    obtain ⟨t18, e20, e16⟩ := zinv e16
    refine z_cVr fx (c12_goes (zLo X) (zDo X) Sh top hO o_ μ4 _ ho e20) mv12_goes ml12_225 ho rfl rfl rfl rfl d12_readsBridge_38 ?_
    cases e16
    refine z_ifb_eq fx d12_readsBridge_41 (fun c21 => ?_) (fun c21 => ?_)
    · exact kf17 c21
    · exact kt17 c21
  clear h
  refine z_aload_n fx (k := 0) (i := 0) rfl rfl d12_readsBridge_0 ?_
  refine z_getI fx 12 17 1217 ho lf12_62 ⟨fk12_17, rfl⟩ d12_readsBridge_1 ?_
  refine z_bipush fx (v := 8) bp8 d12_readsBridge_4 ?_
  refine z_icmp_ne fx d12_readsBridge_6 (fun c22 => ?_) (fun c22 => ?_)
  · replace e1 := zif_f c22 e1
    cases e1
    exact k2
  · replace e1 := zif_t c22 e1
    refine z_aload_n fx (k := 0) (i := 0) rfl rfl d12_readsBridge_9 ?_
    refine z_iconst fx (v := 5) ic5 d12_readsBridge_10 ?_
    refine z_aload_n fx (k := 0) (i := 0) rfl rfl d12_readsBridge_11 ?_
    refine z_getI fx 12 38 1238 ho lf12_125 ⟨fk12_38, rfl⟩ d12_readsBridge_12 ?_
    obtain ⟨μ19, e23, e1⟩ := zinv e1
    refine z_cVv fx (c12_fails (zLo X) (zDo X) Sh top hO o_ 5 (gF μ 1238 o_) μ _ ho e23) mv12_fails ml12_240 ho rfl rfl rfl rfl d12_readsBridge_15 ?_
    cases e1
    exact k2
theorem d12_readsEnd_0 : zd cX12_readsEnd 0 (.aload_n 0) 1 1 := by decide +kernel
theorem d12_readsEnd_1 : zd cX12_readsEnd 1 (.invokevirtual 277) 3 4 := by decide +kernel
theorem d12_readsEnd_4 : zd cX12_readsEnd 4 (.istore_n 3) 1 5 := by decide +kernel
theorem d12_readsEnd_5 : zd cX12_readsEnd 5 (.aload_n 0) 1 6 := by decide +kernel
theorem d12_readsEnd_6 : zd cX12_readsEnd 6 (.invokevirtual 225) 3 9 := by decide +kernel
theorem d12_readsEnd_9 : zj cX12_readsEnd 9 (.ifCond .eq 23) 23 12 32 := by decide +kernel
theorem d12_readsEnd_12 : zd cX12_readsEnd 12 (.aload_n 0) 1 13 := by decide +kernel
theorem d12_readsEnd_13 : zd cX12_readsEnd 13 (.getfield 83) 3 16 := by decide +kernel
theorem d12_readsEnd_16 : zd cX12_readsEnd 16 (.iload_n 3) 1 17 := by decide +kernel
theorem d12_readsEnd_17 : zd cX12_readsEnd 17 (.iaload) 1 18 := by decide +kernel
theorem d12_readsEnd_18 : zd cX12_readsEnd 18 (.bipush 6) 2 20 := by decide +kernel
theorem d12_readsEnd_20 : zj cX12_readsEnd 20 (.if_icmp .ne 12) 12 23 32 := by decide +kernel
theorem d12_readsEnd_23 : zd cX12_readsEnd 23 (.aload_n 0) 1 24 := by decide +kernel
theorem d12_readsEnd_24 : zd cX12_readsEnd 24 (.iconst 5) 1 25 := by decide +kernel
theorem d12_readsEnd_25 : zd cX12_readsEnd 25 (.aload_n 0) 1 26 := by decide +kernel
theorem d12_readsEnd_26 : zd cX12_readsEnd 26 (.getfield 125) 3 29 := by decide +kernel
theorem d12_readsEnd_29 : zd cX12_readsEnd 29 (.invokevirtual 240) 3 32 := by decide +kernel
theorem d12_readsEnd_32 : zd cX12_readsEnd 32 (.aload_n 0) 1 33 := by decide +kernel
theorem d12_readsEnd_33 : zd cX12_readsEnd 33 (.invokevirtual 225) 3 36 := by decide +kernel
theorem d12_readsEnd_36 : zj cX12_readsEnd 36 (.ifCond .ne 4) 4 39 40 := by decide +kernel
theorem d12_readsEnd_39 : zd cX12_readsEnd 39 (.return_) 1 40 := by decide +kernel
theorem d12_readsEnd_40 : zd cX12_readsEnd 40 (.aload_n 0) 1 41 := by decide +kernel
theorem d12_readsEnd_41 : zd cX12_readsEnd 41 (.getfield 86) 3 44 := by decide +kernel
theorem d12_readsEnd_44 : zd cX12_readsEnd 44 (.iconst 4) 1 45 := by decide +kernel
theorem d12_readsEnd_45 : zd cX12_readsEnd 45 (.aload_n 0) 1 46 := by decide +kernel
theorem d12_readsEnd_46 : zd cX12_readsEnd 46 (.getfield 65) 3 49 := by decide +kernel
theorem d12_readsEnd_49 : zd cX12_readsEnd 49 (.imul) 1 50 := by decide +kernel
theorem d12_readsEnd_50 : zd cX12_readsEnd 50 (.iconst 2) 1 51 := by decide +kernel
theorem d12_readsEnd_51 : zd cX12_readsEnd 51 (.iload_n 1) 1 52 := by decide +kernel
theorem d12_readsEnd_52 : zd cX12_readsEnd 52 (.imul) 1 53 := by decide +kernel
theorem d12_readsEnd_53 : zd cX12_readsEnd 53 (.iadd) 1 54 := by decide +kernel
theorem d12_readsEnd_54 : zd cX12_readsEnd 54 (.iload_n 3) 1 55 := by decide +kernel
theorem d12_readsEnd_55 : zd cX12_readsEnd 55 (.iastore) 1 56 := by decide +kernel
theorem d12_readsEnd_56 : zd cX12_readsEnd 56 (.aload_n 0) 1 57 := by decide +kernel
theorem d12_readsEnd_57 : zd cX12_readsEnd 57 (.getfield 86) 3 60 := by decide +kernel
theorem d12_readsEnd_60 : zd cX12_readsEnd 60 (.iconst 4) 1 61 := by decide +kernel
theorem d12_readsEnd_61 : zd cX12_readsEnd 61 (.aload_n 0) 1 62 := by decide +kernel
theorem d12_readsEnd_62 : zd cX12_readsEnd 62 (.getfield 65) 3 65 := by decide +kernel
theorem d12_readsEnd_65 : zd cX12_readsEnd 65 (.imul) 1 66 := by decide +kernel
theorem d12_readsEnd_66 : zd cX12_readsEnd 66 (.iconst 2) 1 67 := by decide +kernel
theorem d12_readsEnd_67 : zd cX12_readsEnd 67 (.iload_n 1) 1 68 := by decide +kernel
theorem d12_readsEnd_68 : zd cX12_readsEnd 68 (.imul) 1 69 := by decide +kernel
theorem d12_readsEnd_69 : zd cX12_readsEnd 69 (.iadd) 1 70 := by decide +kernel
theorem d12_readsEnd_70 : zd cX12_readsEnd 70 (.iconst 1) 1 71 := by decide +kernel
theorem d12_readsEnd_71 : zd cX12_readsEnd 71 (.iadd) 1 72 := by decide +kernel
theorem d12_readsEnd_72 : zd cX12_readsEnd 72 (.aload_n 0) 1 73 := by decide +kernel
theorem d12_readsEnd_73 : zd cX12_readsEnd 73 (.getfield 83) 3 76 := by decide +kernel
theorem d12_readsEnd_76 : zd cX12_readsEnd 76 (.iload_n 3) 1 77 := by decide +kernel
theorem d12_readsEnd_77 : zd cX12_readsEnd 77 (.iaload) 1 78 := by decide +kernel
theorem d12_readsEnd_78 : zd cX12_readsEnd 78 (.iastore) 1 79 := by decide +kernel
theorem d12_readsEnd_79 : zd cX12_readsEnd 79 (.aload_n 0) 1 80 := by decide +kernel
theorem d12_readsEnd_80 : zd cX12_readsEnd 80 (.getfield 83) 3 83 := by decide +kernel
theorem d12_readsEnd_83 : zd cX12_readsEnd 83 (.iload_n 3) 1 84 := by decide +kernel
theorem d12_readsEnd_84 : zd cX12_readsEnd 84 (.dup2) 1 85 := by decide +kernel
theorem d12_readsEnd_85 : zd cX12_readsEnd 85 (.iaload) 1 86 := by decide +kernel
theorem d12_readsEnd_86 : zd cX12_readsEnd 86 (.iconst 1) 1 87 := by decide +kernel
theorem d12_readsEnd_87 : zd cX12_readsEnd 87 (.iadd) 1 88 := by decide +kernel
theorem d12_readsEnd_88 : zd cX12_readsEnd 88 (.iastore) 1 89 := by decide +kernel
theorem d12_readsEnd_89 : zd cX12_readsEnd 89 (.aload_n 0) 1 90 := by decide +kernel
theorem d12_readsEnd_90 : zd cX12_readsEnd 90 (.invokevirtual 244) 3 93 := by decide +kernel
theorem d12_readsEnd_93 : zd cX12_readsEnd 93 (.aload_n 0) 1 94 := by decide +kernel
theorem d12_readsEnd_94 : zd cX12_readsEnd 94 (.invokevirtual 225) 3 97 := by decide +kernel
theorem d12_readsEnd_97 : zj cX12_readsEnd 97 (.ifCond .eq 16) 16 100 113 := by decide +kernel
theorem d12_readsEnd_100 : zd cX12_readsEnd 100 (.aload_n 0) 1 101 := by decide +kernel
theorem d12_readsEnd_101 : zd cX12_readsEnd 101 (.invokevirtual 247) 3 104 := by decide +kernel
theorem d12_readsEnd_104 : zd cX12_readsEnd 104 (.bipush 7) 2 106 := by decide +kernel
theorem d12_readsEnd_106 : zj cX12_readsEnd 106 (.if_icmp .ne 7) 7 109 113 := by decide +kernel
theorem d12_readsEnd_109 : zd cX12_readsEnd 109 (.iconst 1) 1 110 := by decide +kernel
theorem d12_readsEnd_110 : zj cX12_readsEnd 110 (.goto 4) 4 113 114 := by decide +kernel
theorem d12_readsEnd_113 : zd cX12_readsEnd 113 (.iconst 0) 1 114 := by decide +kernel
theorem d12_readsEnd_114 : zd cX12_readsEnd 114 (.istore 4) 2 116 := by decide +kernel
theorem d12_readsEnd_116 : zd cX12_readsEnd 116 (.aload_n 0) 1 117 := by decide +kernel
theorem d12_readsEnd_117 : zd cX12_readsEnd 117 (.getfield 89) 3 120 := by decide +kernel
theorem d12_readsEnd_120 : zd cX12_readsEnd 120 (.iconst 2) 1 121 := by decide +kernel
theorem d12_readsEnd_121 : zd cX12_readsEnd 121 (.aload_n 0) 1 122 := by decide +kernel
theorem d12_readsEnd_122 : zd cX12_readsEnd 122 (.getfield 65) 3 125 := by decide +kernel
theorem d12_readsEnd_125 : zd cX12_readsEnd 125 (.imul) 1 126 := by decide +kernel
theorem d12_readsEnd_126 : zd cX12_readsEnd 126 (.iload_n 1) 1 127 := by decide +kernel
theorem d12_readsEnd_127 : zd cX12_readsEnd 127 (.iadd) 1 128 := by decide +kernel
theorem d12_readsEnd_128 : zd cX12_readsEnd 128 (.iload 4) 2 130 := by decide +kernel
theorem d12_readsEnd_130 : zj cX12_readsEnd 130 (.ifCond .eq 7) 7 133 137 := by decide +kernel
theorem d12_readsEnd_133 : zd cX12_readsEnd 133 (.iconst 1) 1 134 := by decide +kernel
theorem d12_readsEnd_134 : zj cX12_readsEnd 134 (.goto 4) 4 137 138 := by decide +kernel
theorem d12_readsEnd_137 : zd cX12_readsEnd 137 (.iconst 0) 1 138 := by decide +kernel
theorem d12_readsEnd_138 : zd cX12_readsEnd 138 (.iastore) 1 139 := by decide +kernel
theorem d12_readsEnd_139 : zd cX12_readsEnd 139 (.iload 4) 2 141 := by decide +kernel
theorem d12_readsEnd_141 : zj cX12_readsEnd 141 (.ifCond .eq 7) 7 144 148 := by decide +kernel
theorem d12_readsEnd_144 : zd cX12_readsEnd 144 (.aload_n 0) 1 145 := by decide +kernel
theorem d12_readsEnd_145 : zd cX12_readsEnd 145 (.invokevirtual 244) 3 148 := by decide +kernel
theorem d12_readsEnd_148 : zd cX12_readsEnd 148 (.aload_n 0) 1 149 := by decide +kernel
theorem d12_readsEnd_149 : zd cX12_readsEnd 149 (.invokevirtual 225) 3 152 := by decide +kernel
theorem d12_readsEnd_152 : zj cX12_readsEnd 152 (.ifCond .eq 20) 20 155 172 := by decide +kernel
theorem d12_readsEnd_155 : zd cX12_readsEnd 155 (.aload_n 0) 1 156 := by decide +kernel
theorem d12_readsEnd_156 : zd cX12_readsEnd 156 (.invokevirtual 247) 3 159 := by decide +kernel
theorem d12_readsEnd_159 : zd cX12_readsEnd 159 (.iload_n 2) 1 160 := by decide +kernel
theorem d12_readsEnd_160 : zj cX12_readsEnd 160 (.if_icmp .eq 12) 12 163 172 := by decide +kernel
theorem d12_readsEnd_163 : zd cX12_readsEnd 163 (.aload_n 0) 1 164 := by decide +kernel
theorem d12_readsEnd_164 : zd cX12_readsEnd 164 (.iconst 1) 1 165 := by decide +kernel
theorem d12_readsEnd_165 : zd cX12_readsEnd 165 (.aload_n 0) 1 166 := by decide +kernel
theorem d12_readsEnd_166 : zd cX12_readsEnd 166 (.getfield 125) 3 169 := by decide +kernel
theorem d12_readsEnd_169 : zd cX12_readsEnd 169 (.invokevirtual 240) 3 172 := by decide +kernel
theorem d12_readsEnd_172 : zd cX12_readsEnd 172 (.return_) 1 173 := by decide +kernel
set_option maxHeartbeats 4000000 in
set_option maxRecDepth 20000 in
theorem c12_readsEnd (l : Launch) (D : zDt) (Sh : zSh) (top : Nat) (hO : zOK Sh) (o_ : Nat) (v_end : Int32) (v_behind : Int32) (μ : zM) (μ_ : zM) (ho : (Sh o_).1 = 19) (h : f12_readsEnd o_ v_end v_behind μ = some μ_) : zMet l D zK1 yX12_readsEnd cX12_readsEnd 5 none (zrm 5 103) [.ref o_, .int v_end, .int v_behind] Sh top μ none Sh top μ_ 0 0 := by
  refine zMet_of (by decide) (Nat.le_of_ble_eq_true rfl) fun X hX1 hX2 fx fin => ?_
  subst hX1; subst hX2
  replace fx : zFix X cX12_readsEnd RX12 (zrm 5 103) 5 := fx
  show zZ zK1 X (zT0 Sh top) μ 0 [(0, .ref o_), (1, .int v_end), (2, .int v_behind)] []
  unfold f12_readsEnd at h
  refine z_aload_n fx (k := 0) (i := 0) rfl rfl d12_readsEnd_0 ?_
  obtain ⟨t1, μ2, e1, h⟩ := zinv2 h
  refine z_cVr fx (c12_knownBridge (zLo X) (zDo X) Sh top hO o_ μ _ _ ho e1) mv12_knownBridge ml12_277 ho rfl rfl rfl rfl d12_readsEnd_1 ?_
  refine z_istore_n fx (k := 3) (i := 3) rfl rfl (lv' := [(0, .ref o_), (1, .int v_end), (2, .int v_behind), (3, .int t1)]) rfl rfl d12_readsEnd_4 ?_
  obtain ⟨μ3, e2, h⟩ := zinv h
  have k3 : zZ zK1 X (zT0 Sh top) μ3 32 [(0, .ref o_), (1, .int v_end), (2, .int v_behind), (3, .int t1)] [] := by
    refine z_aload_n fx (k := 0) (i := 0) rfl rfl d12_readsEnd_32 ?_
    obtain ⟨t4, e4, h⟩ := zinv h
    refine z_cVr fx (c12_goes (zLo X) (zDo X) Sh top hO o_ μ3 _ ho e4) mv12_goes ml12_225 ho rfl rfl rfl rfl d12_readsEnd_33 ?_
    refine z_ifb_ne fx d12_readsEnd_36 (fun c5 => ?_) (fun c5 => ?_)
    · replace h := zif_t c5 h
      refine z_aload_n fx (k := 0) (i := 0) rfl rfl d12_readsEnd_40 ?_
      refine z_getO fx 12 25 15 ho lf12_86 fk12_25 d12_readsEnd_41 ?_
      refine z_iconst fx (v := 4) ic4 d12_readsEnd_44 ?_
      refine z_aload_n fx (k := 0) (i := 0) rfl rfl d12_readsEnd_45 ?_
      refine z_getI fx 12 18 1218 ho lf12_65 ⟨fk12_18, rfl⟩ d12_readsEnd_46 ?_
      refine z_imul fx d12_readsEnd_49 ?_
      refine z_iconst fx (v := 2) ic2 d12_readsEnd_50 ?_
      refine z_iload_n fx (k := 1) (i := 1) rfl rfl d12_readsEnd_51 ?_
      refine z_imul fx d12_readsEnd_52 ?_
      refine z_iadd fx d12_readsEnd_53 ?_
      refine z_iload_n fx (k := 3) (i := 3) rfl rfl d12_readsEnd_54 ?_
      obtain ⟨μ5, e6, h⟩ := zinv h
      refine z_iast fx (ok12_25 hO ho) e6 d12_readsEnd_55 ?_
      refine z_aload_n fx (k := 0) (i := 0) rfl rfl d12_readsEnd_56 ?_
      refine z_getO fx 12 25 15 ho lf12_86 fk12_25 d12_readsEnd_57 ?_
      refine z_iconst fx (v := 4) ic4 d12_readsEnd_60 ?_
      refine z_aload_n fx (k := 0) (i := 0) rfl rfl d12_readsEnd_61 ?_
      refine z_getI fx 12 18 1218 ho lf12_65 ⟨fk12_18, rfl⟩ d12_readsEnd_62 ?_
      refine z_imul fx d12_readsEnd_65 ?_
      refine z_iconst fx (v := 2) ic2 d12_readsEnd_66 ?_
      refine z_iload_n fx (k := 1) (i := 1) rfl rfl d12_readsEnd_67 ?_
      refine z_imul fx d12_readsEnd_68 ?_
      refine z_iadd fx d12_readsEnd_69 ?_
      refine z_iconst fx (v := 1) ic1 d12_readsEnd_70 ?_
      refine z_iadd fx d12_readsEnd_71 ?_
      refine z_aload_n fx (k := 0) (i := 0) rfl rfl d12_readsEnd_72 ?_
      refine z_getO fx 12 24 14 ho lf12_83 fk12_24 d12_readsEnd_73 ?_
      refine z_iload_n fx (k := 3) (i := 3) rfl rfl d12_readsEnd_76 ?_
      obtain ⟨t6, e7, h⟩ := zinv h
      refine z_iald fx (ok12_24 hO ho) e7 d12_readsEnd_77 ?_
      obtain ⟨μ7, e8, h⟩ := zinv h
      refine z_iast fx (ok12_25 hO ho) e8 d12_readsEnd_78 ?_
      refine z_aload_n fx (k := 0) (i := 0) rfl rfl d12_readsEnd_79 ?_
      refine z_getO fx 12 24 14 ho lf12_83 fk12_24 d12_readsEnd_80 ?_
      refine z_iload_n fx (k := 3) (i := 3) rfl rfl d12_readsEnd_83 ?_
      refine z_dup2 fx rfl rfl d12_readsEnd_84 ?_
      obtain ⟨t8, e9, h⟩ := zinv h
      refine z_iald fx (ok12_24 hO ho) e9 d12_readsEnd_85 ?_
      refine z_iconst fx (v := 1) ic1 d12_readsEnd_86 ?_
      refine z_iadd fx d12_readsEnd_87 ?_
      obtain ⟨μ9, e10, h⟩ := zinv h
      refine z_iast fx (ok12_24 hO ho) e10 d12_readsEnd_88 ?_
      refine z_aload_n fx (k := 0) (i := 0) rfl rfl d12_readsEnd_89 ?_
      obtain ⟨μ10, e11, h⟩ := zinv h
      refine z_cVv fx (c12_word (zLo X) (zDo X) Sh top hO o_ μ9 _ ho e11) mv12_word ml12_244 ho rfl rfl rfl rfl d12_readsEnd_90 ?_
      obtain ⟨b11, e12, h⟩ := zinv h
      have k13 : zZ zK1 X (zT0 Sh top) μ10 114 [(0, .ref o_), (1, .int v_end), (2, .int v_behind), (3, .int t1)] [.int (bI b11)] := by
        refine z_istore fx (i := 4) rfl (lv' := [(0, .ref o_), (1, .int v_end), (2, .int v_behind), (3, .int t1), (4, .int (bI b11))]) rfl rfl d12_readsEnd_114 ?_
        refine z_aload_n fx (k := 0) (i := 0) rfl rfl d12_readsEnd_116 ?_
        refine z_getO fx 12 26 16 ho lf12_89 fk12_26 d12_readsEnd_117 ?_
        refine z_iconst fx (v := 2) ic2 d12_readsEnd_120 ?_
        refine z_aload_n fx (k := 0) (i := 0) rfl rfl d12_readsEnd_121 ?_
        refine z_getI fx 12 18 1218 ho lf12_65 ⟨fk12_18, rfl⟩ d12_readsEnd_122 ?_
        refine z_imul fx d12_readsEnd_125 ?_
        refine z_iload_n fx (k := 1) (i := 1) rfl rfl d12_readsEnd_126 ?_
        refine z_iadd fx d12_readsEnd_127 ?_
        obtain ⟨x15, e21, h⟩ := zinv h
        have k22 : zZ zK1 X (zT0 Sh top) μ10 138 [(0, .ref o_), (1, .int v_end), (2, .int v_behind), (3, .int t1), (4, .int (bI b11))] [.int x15, .int ((2 * (gF μ10 1218 o_)) + v_end), .ref (o_ + 16)] := by
          obtain ⟨μ16, e24, h⟩ := zinv h
          refine z_iast fx (ok12_26 hO ho) e24 d12_readsEnd_138 ?_
          obtain ⟨μ17, e25, h⟩ := zinv h
          have k26 : zZ zK1 X (zT0 Sh top) μ17 148 [(0, .ref o_), (1, .int v_end), (2, .int v_behind), (3, .int t1), (4, .int (bI b11))] [] := by
            obtain ⟨b18, e28, h⟩ := zinv h
            have kt27 : b18 = true → zZ zK1 X (zT0 Sh top) μ17 163 [(0, .ref o_), (1, .int v_end), (2, .int v_behind), (3, .int t1), (4, .int (bI b11))] [] := by
              intro hc
              replace h := zif_t hc h
              refine z_aload_n fx (k := 0) (i := 0) rfl rfl d12_readsEnd_163 ?_
              refine z_iconst fx (v := 1) ic1 d12_readsEnd_164 ?_
              refine z_aload_n fx (k := 0) (i := 0) rfl rfl d12_readsEnd_165 ?_
              refine z_getI fx 12 38 1238 ho lf12_125 ⟨fk12_38, rfl⟩ d12_readsEnd_166 ?_
              obtain ⟨μ19, e29, h⟩ := zinv h
              refine z_cVv fx (c12_fails (zLo X) (zDo X) Sh top hO o_ 1 (gF μ17 1238 o_) μ17 _ ho e29) mv12_fails ml12_240 ho rfl rfl rfl rfl d12_readsEnd_169 ?_
              cases h
              exact z_return fx fin d12_readsEnd_172
            have kf27 : b18 = false → zZ zK1 X (zT0 Sh top) μ17 172 [(0, .ref o_), (1, .int v_end), (2, .int v_behind), (3, .int t1), (4, .int (bI b11))] [] := by
              intro hc
              replace h := zif_f hc h
              cases h
              exact z_return fx fin d12_readsEnd_172
            clear h
            obtain ⟨b20, e30, e28⟩ := zinv e28
            have kt31 : b20 = true → zZ zK1 X (zT0 Sh top) μ17 155 [(0, .ref o_), (1, .int v_end), (2, .int v_behind), (3, .int t1), (4, .int (bI b11))] [] := by
              intro hc
              replace e28 := zif_t hc e28
              refine z_aload_n fx (k := 0) (i := 0) rfl rfl d12_readsEnd_155 ?_
              obtain ⟨t21, e32, e28⟩ := zinv e28
              refine z_cVr fx (c12_own (zLo X) (zDo X) Sh top hO o_ μ17 _ ho e32) mv12_own ml12_247 ho rfl rfl rfl rfl d12_readsEnd_156 ?_
              refine z_iload_n fx (k := 2) (i := 2) rfl rfl d12_readsEnd_159 ?_
              cases e28
              refine z_icmp_eq fx d12_readsEnd_160 (fun c33 => ?_) (fun c33 => ?_)
              · exact kf27 (by rw [c33]; rfl)
              · exact kt27 (by rw [c33]; rfl)
            have kf31 : b20 = false → zZ zK1 X (zT0 Sh top) μ17 172 [(0, .ref o_), (1, .int v_end), (2, .int v_behind), (3, .int t1), (4, .int (bI b11))] [] := by
              intro hc
              replace e28 := zif_f hc e28
              cases e28
              exact kf27 rfl
            clear e28
            refine z_aload_n fx (k := 0) (i := 0) rfl rfl d12_readsEnd_148 ?_
            obtain ⟨t22, e34, e30⟩ := zinv e30
            refine z_cVr fx (c12_goes (zLo X) (zDo X) Sh top hO o_ μ17 _ ho e34) mv12_goes ml12_225 ho rfl rfl rfl rfl d12_readsEnd_149 ?_
            cases e30
            refine z_ifb_eq fx d12_readsEnd_152 (fun c35 => ?_) (fun c35 => ?_)
            · exact kf31 c35
            · exact kt31 c35
          clear h
          refine z_iload fx (i := 4) rfl d12_readsEnd_139 ?_
          refine z_ifb_eq fx d12_readsEnd_141 (fun c36 => ?_) (fun c36 => ?_)
          · replace e25 := zif_f c36 e25
            cases e25
            exact k26
          · replace e25 := zif_t c36 e25
            refine z_aload_n fx (k := 0) (i := 0) rfl rfl d12_readsEnd_144 ?_
            obtain ⟨μ23, e37, e25⟩ := zinv e25
            refine z_cVv fx (c12_word (zLo X) (zDo X) Sh top hO o_ μ16 _ ho e37) mv12_word ml12_244 ho rfl rfl rfl rfl d12_readsEnd_145 ?_
            cases e25
            exact k26
        refine z_iload fx (i := 4) rfl d12_readsEnd_128 ?_
        refine z_ifb_eq fx d12_readsEnd_130 (fun c23 => ?_) (fun c23 => ?_)
        · replace e21 := zif_f c23 e21
          refine z_iconst fx (v := 0) ic0 d12_readsEnd_137 ?_
          cases e21
          exact k22
        · replace e21 := zif_t c23 e21
          refine z_iconst fx (v := 1) ic1 d12_readsEnd_133 ?_
          cases e21
          refine z_goto fx d12_readsEnd_134 ?_
          exact k22
      have kt14 : b11 = true → zZ zK1 X (zT0 Sh top) μ10 109 [(0, .ref o_), (1, .int v_end), (2, .int v_behind), (3, .int t1)] [] := by
        intro hc
        refine z_iconst fx (v := 1) ic1 d12_readsEnd_109 ?_
        refine z_goto fx d12_readsEnd_110 ?_
        exact z_top (congrArg Value.int (show 1 = bI b11 by rw [hc]; rfl)) k13
      have kf14 : b11 = false → zZ zK1 X (zT0 Sh top) μ10 113 [(0, .ref o_), (1, .int v_end), (2, .int v_behind), (3, .int t1)] [] := by
        intro hc
        refine z_iconst fx (v := 0) ic0 d12_readsEnd_113 ?_
        exact z_top (congrArg Value.int (show 0 = bI b11 by rw [hc]; rfl)) k13
      obtain ⟨b12, e15, e12⟩ := zinv e12
      have kt16 : b12 = true → zZ zK1 X (zT0 Sh top) μ10 100 [(0, .ref o_), (1, .int v_end), (2, .int v_behind), (3, .int t1)] [] := by
        intro hc
        replace e12 := zif_t hc e12
        refine z_aload_n fx (k := 0) (i := 0) rfl rfl d12_readsEnd_100 ?_
        obtain ⟨t13, e17, e12⟩ := zinv e12
        refine z_cVr fx (c12_own (zLo X) (zDo X) Sh top hO o_ μ10 _ ho e17) mv12_own ml12_247 ho rfl rfl rfl rfl d12_readsEnd_101 ?_
        refine z_bipush fx (v := 7) bp7 d12_readsEnd_104 ?_
        cases e12
        refine z_icmp_ne fx d12_readsEnd_106 (fun c18 => ?_) (fun c18 => ?_)
        · exact kf14 c18
        · exact kt14 c18
      have kf16 : b12 = false → zZ zK1 X (zT0 Sh top) μ10 113 [(0, .ref o_), (1, .int v_end), (2, .int v_behind), (3, .int t1)] [] := by
        intro hc
        replace e12 := zif_f hc e12
        cases e12
        exact kf14 rfl
      clear e12
      refine z_aload_n fx (k := 0) (i := 0) rfl rfl d12_readsEnd_93 ?_
      obtain ⟨t14, e19, e15⟩ := zinv e15
      refine z_cVr fx (c12_goes (zLo X) (zDo X) Sh top hO o_ μ10 _ ho e19) mv12_goes ml12_225 ho rfl rfl rfl rfl d12_readsEnd_94 ?_
      cases e15
      refine z_ifb_eq fx d12_readsEnd_97 (fun c20 => ?_) (fun c20 => ?_)
      · exact kf16 c20
      · exact kt16 c20
    · replace h := zif_f c5 h
      cases h
      exact z_return fx fin d12_readsEnd_39
  clear h
  obtain ⟨b24, e39, e2⟩ := zinv e2
  have kt38 : b24 = true → zZ zK1 X (zT0 Sh top) μ2 23 [(0, .ref o_), (1, .int v_end), (2, .int v_behind), (3, .int t1)] [] := by
    intro hc
    replace e2 := zif_t hc e2
    refine z_aload_n fx (k := 0) (i := 0) rfl rfl d12_readsEnd_23 ?_
    refine z_iconst fx (v := 5) ic5 d12_readsEnd_24 ?_
    refine z_aload_n fx (k := 0) (i := 0) rfl rfl d12_readsEnd_25 ?_
    refine z_getI fx 12 38 1238 ho lf12_125 ⟨fk12_38, rfl⟩ d12_readsEnd_26 ?_
    obtain ⟨μ25, e40, e2⟩ := zinv e2
    refine z_cVv fx (c12_fails (zLo X) (zDo X) Sh top hO o_ 5 (gF μ2 1238 o_) μ2 _ ho e40) mv12_fails ml12_240 ho rfl rfl rfl rfl d12_readsEnd_29 ?_
    cases e2
    exact k3
  have kf38 : b24 = false → zZ zK1 X (zT0 Sh top) μ2 32 [(0, .ref o_), (1, .int v_end), (2, .int v_behind), (3, .int t1)] [] := by
    intro hc
    replace e2 := zif_f hc e2
    cases e2
    exact k3
  clear e2
  obtain ⟨b26, e41, e39⟩ := zinv e39
  have kt42 : b26 = true → zZ zK1 X (zT0 Sh top) μ2 12 [(0, .ref o_), (1, .int v_end), (2, .int v_behind), (3, .int t1)] [] := by
    intro hc
    replace e39 := zif_t hc e39
    refine z_aload_n fx (k := 0) (i := 0) rfl rfl d12_readsEnd_12 ?_
    refine z_getO fx 12 24 14 ho lf12_83 fk12_24 d12_readsEnd_13 ?_
    refine z_iload_n fx (k := 3) (i := 3) rfl rfl d12_readsEnd_16 ?_
    obtain ⟨t27, e43, e39⟩ := zinv e39
    refine z_iald fx (ok12_24 hO ho) e43 d12_readsEnd_17 ?_
    refine z_bipush fx (v := 6) bp6 d12_readsEnd_18 ?_
    cases e39
    refine z_icmp_ne fx d12_readsEnd_20 (fun c44 => ?_) (fun c44 => ?_)
    · exact kf38 c44
    · exact kt38 c44
  have kf42 : b26 = false → zZ zK1 X (zT0 Sh top) μ2 32 [(0, .ref o_), (1, .int v_end), (2, .int v_behind), (3, .int t1)] [] := by
    intro hc
    replace e39 := zif_f hc e39
    cases e39
    exact kf38 rfl
  clear e39
  refine z_aload_n fx (k := 0) (i := 0) rfl rfl d12_readsEnd_5 ?_
  obtain ⟨t28, e45, e41⟩ := zinv e41
  refine z_cVr fx (c12_goes (zLo X) (zDo X) Sh top hO o_ μ2 _ ho e45) mv12_goes ml12_225 ho rfl rfl rfl rfl d12_readsEnd_6 ?_
  cases e41
  refine z_ifb_eq fx d12_readsEnd_9 (fun c46 => ?_) (fun c46 => ?_)
  · exact kf42 c46
  · exact kt42 c46
theorem d12_readsLink_0 : zd cX12_readsLink 0 (.aload_n 0) 1 1 := by decide +kernel
theorem d12_readsLink_1 : zd cX12_readsLink 1 (.getfield 65) 3 4 := by decide +kernel
theorem d12_readsLink_4 : zd cX12_readsLink 4 (.bipush 14) 2 6 := by decide +kernel
theorem d12_readsLink_6 : zj cX12_readsLink 6 (.if_icmp .ne 12) 12 9 18 := by decide +kernel
theorem d12_readsLink_9 : zd cX12_readsLink 9 (.aload_n 0) 1 10 := by decide +kernel
theorem d12_readsLink_10 : zd cX12_readsLink 10 (.iconst 5) 1 11 := by decide +kernel
theorem d12_readsLink_11 : zd cX12_readsLink 11 (.aload_n 0) 1 12 := by decide +kernel
theorem d12_readsLink_12 : zd cX12_readsLink 12 (.getfield 125) 3 15 := by decide +kernel
theorem d12_readsLink_15 : zd cX12_readsLink 15 (.invokevirtual 240) 3 18 := by decide +kernel
theorem d12_readsLink_18 : zd cX12_readsLink 18 (.aload_n 0) 1 19 := by decide +kernel
theorem d12_readsLink_19 : zd cX12_readsLink 19 (.invokevirtual 225) 3 22 := by decide +kernel
theorem d12_readsLink_22 : zj cX12_readsLink 22 (.ifCond .ne 4) 4 25 26 := by decide +kernel
theorem d12_readsLink_25 : zd cX12_readsLink 25 (.return_) 1 26 := by decide +kernel
theorem d12_readsLink_26 : zd cX12_readsLink 26 (.aload_n 0) 1 27 := by decide +kernel
theorem d12_readsLink_27 : zd cX12_readsLink 27 (.iconst 0) 1 28 := by decide +kernel
theorem d12_readsLink_28 : zd cX12_readsLink 28 (.bipush 8) 2 30 := by decide +kernel
theorem d12_readsLink_30 : zd cX12_readsLink 30 (.invokevirtual 280) 3 33 := by decide +kernel
theorem d12_readsLink_33 : zd cX12_readsLink 33 (.aload_n 0) 1 34 := by decide +kernel
theorem d12_readsLink_34 : zd cX12_readsLink 34 (.invokevirtual 225) 3 37 := by decide +kernel
theorem d12_readsLink_37 : zj cX12_readsLink 37 (.ifCond .ne 4) 4 40 41 := by decide +kernel
theorem d12_readsLink_40 : zd cX12_readsLink 40 (.return_) 1 41 := by decide +kernel
theorem d12_readsLink_41 : zd cX12_readsLink 41 (.aload_n 0) 1 42 := by decide +kernel
theorem d12_readsLink_42 : zd cX12_readsLink 42 (.iconst 1) 1 43 := by decide +kernel
theorem d12_readsLink_43 : zd cX12_readsLink 43 (.bipush 9) 2 45 := by decide +kernel
theorem d12_readsLink_45 : zd cX12_readsLink 45 (.invokevirtual 280) 3 48 := by decide +kernel
theorem d12_readsLink_48 : zd cX12_readsLink 48 (.aload_n 0) 1 49 := by decide +kernel
theorem d12_readsLink_49 : zd cX12_readsLink 49 (.getfield 92) 3 52 := by decide +kernel
theorem d12_readsLink_52 : zd cX12_readsLink 52 (.aload_n 0) 1 53 := by decide +kernel
theorem d12_readsLink_53 : zd cX12_readsLink 53 (.getfield 65) 3 56 := by decide +kernel
theorem d12_readsLink_56 : zd cX12_readsLink 56 (.aload_n 0) 1 57 := by decide +kernel
theorem d12_readsLink_57 : zd cX12_readsLink 57 (.iconst 1) 1 58 := by decide +kernel
theorem d12_readsLink_58 : zd cX12_readsLink 58 (.sipush 200) 3 61 := by decide +kernel
theorem d12_readsLink_61 : zd cX12_readsLink 61 (.invokevirtual 257) 3 64 := by decide +kernel
theorem d12_readsLink_64 : zd cX12_readsLink 64 (.iastore) 1 65 := by decide +kernel
theorem d12_readsLink_65 : zd cX12_readsLink 65 (.aload_n 0) 1 66 := by decide +kernel
theorem d12_readsLink_66 : zd cX12_readsLink 66 (.getfield 95) 3 69 := by decide +kernel
theorem d12_readsLink_69 : zd cX12_readsLink 69 (.aload_n 0) 1 70 := by decide +kernel
theorem d12_readsLink_70 : zd cX12_readsLink 70 (.getfield 65) 3 73 := by decide +kernel
theorem d12_readsLink_73 : zd cX12_readsLink 73 (.aload_n 0) 1 74 := by decide +kernel
theorem d12_readsLink_74 : zd cX12_readsLink 74 (.bipush 10) 2 76 := by decide +kernel
theorem d12_readsLink_76 : zd cX12_readsLink 76 (.iconst 1) 1 77 := by decide +kernel
theorem d12_readsLink_77 : zd cX12_readsLink 77 (.iconst 3) 1 78 := by decide +kernel
theorem d12_readsLink_78 : zd cX12_readsLink 78 (.invokevirtual 273) 3 81 := by decide +kernel
theorem d12_readsLink_81 : zd cX12_readsLink 81 (.iastore) 1 82 := by decide +kernel
theorem d12_readsLink_82 : zd cX12_readsLink 82 (.aload_n 0) 1 83 := by decide +kernel
theorem d12_readsLink_83 : zd cX12_readsLink 83 (.dup) 1 84 := by decide +kernel
theorem d12_readsLink_84 : zd cX12_readsLink 84 (.getfield 65) 3 87 := by decide +kernel
theorem d12_readsLink_87 : zd cX12_readsLink 87 (.iconst 1) 1 88 := by decide +kernel
theorem d12_readsLink_88 : zd cX12_readsLink 88 (.iadd) 1 89 := by decide +kernel
theorem d12_readsLink_89 : zd cX12_readsLink 89 (.putfield 65) 3 92 := by decide +kernel
theorem d12_readsLink_92 : zd cX12_readsLink 92 (.return_) 1 93 := by decide +kernel
set_option maxHeartbeats 4000000 in
set_option maxRecDepth 20000 in
theorem c12_readsLink (l : Launch) (D : zDt) (Sh : zSh) (top : Nat) (hO : zOK Sh) (o_ : Nat) (μ : zM) (μ_ : zM) (ho : (Sh o_).1 = 19) (h : f12_readsLink o_ μ = some μ_) : zMet l D zK1 yX12_readsLink cX12_readsLink 1 none (zrm 6 127) [.ref o_] Sh top μ none Sh top μ_ 0 0 := by
  refine zMet_of (by decide) (Nat.le_of_ble_eq_true rfl) fun X hX1 hX2 fx fin => ?_
  subst hX1; subst hX2
  replace fx : zFix X cX12_readsLink RX12 (zrm 6 127) 1 := fx
  show zZ zK1 X (zT0 Sh top) μ 0 [(0, .ref o_)] []
  unfold f12_readsLink at h
  obtain ⟨μ1, e1, h⟩ := zinv h
  have k2 : zZ zK1 X (zT0 Sh top) μ1 18 [(0, .ref o_)] [] := by
    refine z_aload_n fx (k := 0) (i := 0) rfl rfl d12_readsLink_18 ?_
    obtain ⟨t2, e3, h⟩ := zinv h
    refine z_cVr fx (c12_goes (zLo X) (zDo X) Sh top hO o_ μ1 _ ho e3) mv12_goes ml12_225 ho rfl rfl rfl rfl d12_readsLink_19 ?_
    refine z_ifb_ne fx d12_readsLink_22 (fun c4 => ?_) (fun c4 => ?_)
    · replace h := zif_t c4 h
      refine z_aload_n fx (k := 0) (i := 0) rfl rfl d12_readsLink_26 ?_
      refine z_iconst fx (v := 0) ic0 d12_readsLink_27 ?_
      refine z_bipush fx (v := 8) bp8 d12_readsLink_28 ?_
      obtain ⟨μ3, e5, h⟩ := zinv h
      refine z_cVv fx (c12_readsEnd (zLo X) (zDo X) Sh top hO o_ 0 8 μ1 _ ho e5) mv12_readsEnd ml12_280 ho rfl rfl rfl rfl d12_readsLink_30 ?_
      refine z_aload_n fx (k := 0) (i := 0) rfl rfl d12_readsLink_33 ?_
      obtain ⟨t4, e6, h⟩ := zinv h
      refine z_cVr fx (c12_goes (zLo X) (zDo X) Sh top hO o_ μ3 _ ho e6) mv12_goes ml12_225 ho rfl rfl rfl rfl d12_readsLink_34 ?_
      refine z_ifb_ne fx d12_readsLink_37 (fun c7 => ?_) (fun c7 => ?_)
      · replace h := zif_t c7 h
        refine z_aload_n fx (k := 0) (i := 0) rfl rfl d12_readsLink_41 ?_
        refine z_iconst fx (v := 1) ic1 d12_readsLink_42 ?_
        refine z_bipush fx (v := 9) bp9 d12_readsLink_43 ?_
        obtain ⟨μ5, e8, h⟩ := zinv h
        refine z_cVv fx (c12_readsEnd (zLo X) (zDo X) Sh top hO o_ 1 9 μ3 _ ho e8) mv12_readsEnd ml12_280 ho rfl rfl rfl rfl d12_readsLink_45 ?_
        refine z_aload_n fx (k := 0) (i := 0) rfl rfl d12_readsLink_48 ?_
        refine z_getO fx 12 27 17 ho lf12_92 fk12_27 d12_readsLink_49 ?_
        refine z_aload_n fx (k := 0) (i := 0) rfl rfl d12_readsLink_52 ?_
        refine z_getI fx 12 18 1218 ho lf12_65 ⟨fk12_18, rfl⟩ d12_readsLink_53 ?_
        refine z_aload_n fx (k := 0) (i := 0) rfl rfl d12_readsLink_56 ?_
        refine z_iconst fx (v := 1) ic1 d12_readsLink_57 ?_
        refine z_sipush fx (v := 200) sp200 d12_readsLink_58 ?_
        obtain ⟨t6, μ7, e9, h⟩ := zinv2 h
        refine z_cVr fx (c12_number (zLo X) (zDo X) Sh top hO o_ 1 200 μ5 _ _ ho e9) mv12_number ml12_257 ho rfl rfl rfl rfl d12_readsLink_61 ?_
        obtain ⟨μ8, e10, h⟩ := zinv h
        refine z_iast fx (ok12_27 hO ho) e10 d12_readsLink_64 ?_
        refine z_aload_n fx (k := 0) (i := 0) rfl rfl d12_readsLink_65 ?_
        refine z_getO fx 12 28 18 ho lf12_95 fk12_28 d12_readsLink_66 ?_
        refine z_aload_n fx (k := 0) (i := 0) rfl rfl d12_readsLink_69 ?_
        refine z_getI fx 12 18 1218 ho lf12_65 ⟨fk12_18, rfl⟩ d12_readsLink_70 ?_
        refine z_aload_n fx (k := 0) (i := 0) rfl rfl d12_readsLink_73 ?_
        refine z_bipush fx (v := 10) bp10 d12_readsLink_74 ?_
        refine z_iconst fx (v := 1) ic1 d12_readsLink_76 ?_
        refine z_iconst fx (v := 3) ic3 d12_readsLink_77 ?_
        obtain ⟨t9, μ10, e11, h⟩ := zinv2 h
        refine z_cVr fx (c12_told (zLo X) (zDo X) Sh top hO o_ 10 1 3 μ8 _ _ ho e11) mv12_told ml12_273 ho rfl rfl rfl rfl d12_readsLink_78 ?_
        obtain ⟨μ11, e12, h⟩ := zinv h
        refine z_iast fx (ok12_28 hO ho) e12 d12_readsLink_81 ?_
        refine z_aload_n fx (k := 0) (i := 0) rfl rfl d12_readsLink_82 ?_
        refine z_dup fx rfl d12_readsLink_83 ?_
        refine z_getI fx 12 18 1218 ho lf12_65 ⟨fk12_18, rfl⟩ d12_readsLink_84 ?_
        refine z_iconst fx (v := 1) ic1 d12_readsLink_87 ?_
        refine z_iadd fx d12_readsLink_88 ?_
        obtain ⟨μ12, e13, h⟩ := zinv h
        refine z_putI fx (ci := 12) 18 ho lf12_65 fp12_18 e13 d12_readsLink_89 ?_
        cases h
        exact z_return fx fin d12_readsLink_92
      · replace h := zif_f c7 h
        cases h
        exact z_return fx fin d12_readsLink_40
    · replace h := zif_f c4 h
      cases h
      exact z_return fx fin d12_readsLink_25
  clear h
  refine z_aload_n fx (k := 0) (i := 0) rfl rfl d12_readsLink_0 ?_
  refine z_getI fx 12 18 1218 ho lf12_65 ⟨fk12_18, rfl⟩ d12_readsLink_1 ?_
  refine z_bipush fx (v := 14) bp14 d12_readsLink_4 ?_
  refine z_icmp_ne fx d12_readsLink_6 (fun c14 => ?_) (fun c14 => ?_)
  · replace e1 := zif_f c14 e1
    cases e1
    exact k2
  · replace e1 := zif_t c14 e1
    refine z_aload_n fx (k := 0) (i := 0) rfl rfl d12_readsLink_9 ?_
    refine z_iconst fx (v := 5) ic5 d12_readsLink_10 ?_
    refine z_aload_n fx (k := 0) (i := 0) rfl rfl d12_readsLink_11 ?_
    refine z_getI fx 12 38 1238 ho lf12_125 ⟨fk12_38, rfl⟩ d12_readsLink_12 ?_
    obtain ⟨μ13, e15, e1⟩ := zinv e1
    refine z_cVv fx (c12_fails (zLo X) (zDo X) Sh top hO o_ 5 (gF μ 1238 o_) μ _ ho e15) mv12_fails ml12_240 ho rfl rfl rfl rfl d12_readsLink_15 ?_
    cases e1
    exact k2
theorem d12_readsHost_0 : zd cX12_readsHost 0 (.aload_n 0) 1 1 := by decide +kernel
theorem d12_readsHost_1 : zd cX12_readsHost 1 (.getfield 68) 3 4 := by decide +kernel
theorem d12_readsHost_4 : zd cX12_readsHost 4 (.bipush 8) 2 6 := by decide +kernel
theorem d12_readsHost_6 : zj cX12_readsHost 6 (.if_icmp .ne 12) 12 9 18 := by decide +kernel
theorem d12_readsHost_9 : zd cX12_readsHost 9 (.aload_n 0) 1 10 := by decide +kernel
theorem d12_readsHost_10 : zd cX12_readsHost 10 (.iconst 5) 1 11 := by decide +kernel
theorem d12_readsHost_11 : zd cX12_readsHost 11 (.aload_n 0) 1 12 := by decide +kernel
theorem d12_readsHost_12 : zd cX12_readsHost 12 (.getfield 125) 3 15 := by decide +kernel
theorem d12_readsHost_15 : zd cX12_readsHost 15 (.invokevirtual 240) 3 18 := by decide +kernel
theorem d12_readsHost_18 : zd cX12_readsHost 18 (.aload_n 0) 1 19 := by decide +kernel
theorem d12_readsHost_19 : zd cX12_readsHost 19 (.invokevirtual 225) 3 22 := by decide +kernel
theorem d12_readsHost_22 : zj cX12_readsHost 22 (.ifCond .ne 4) 4 25 26 := by decide +kernel
theorem d12_readsHost_25 : zd cX12_readsHost 25 (.return_) 1 26 := by decide +kernel
theorem d12_readsHost_26 : zd cX12_readsHost 26 (.aload_n 0) 1 27 := by decide +kernel
theorem d12_readsHost_27 : zd cX12_readsHost 27 (.bipush 8) 2 29 := by decide +kernel
theorem d12_readsHost_29 : zd cX12_readsHost 29 (.aload_n 0) 1 30 := by decide +kernel
theorem d12_readsHost_30 : zd cX12_readsHost 30 (.getfield 68) 3 33 := by decide +kernel
theorem d12_readsHost_33 : zd cX12_readsHost 33 (.iadd) 1 34 := by decide +kernel
theorem d12_readsHost_34 : zd cX12_readsHost 34 (.invokevirtual 270) 3 37 := by decide +kernel
theorem d12_readsHost_37 : zd cX12_readsHost 37 (.aload_n 0) 1 38 := by decide +kernel
theorem d12_readsHost_38 : zd cX12_readsHost 38 (.bipush 12) 2 40 := by decide +kernel
theorem d12_readsHost_40 : zd cX12_readsHost 40 (.invokevirtual 254) 3 43 := by decide +kernel
theorem d12_readsHost_43 : zd cX12_readsHost 43 (.aload_n 0) 1 44 := by decide +kernel
theorem d12_readsHost_44 : zd cX12_readsHost 44 (.getfield 98) 3 47 := by decide +kernel
theorem d12_readsHost_47 : zd cX12_readsHost 47 (.aload_n 0) 1 48 := by decide +kernel
theorem d12_readsHost_48 : zd cX12_readsHost 48 (.getfield 68) 3 51 := by decide +kernel
theorem d12_readsHost_51 : zd cX12_readsHost 51 (.aload_n 0) 1 52 := by decide +kernel
theorem d12_readsHost_52 : zd cX12_readsHost 52 (.invokevirtual 277) 3 55 := by decide +kernel
theorem d12_readsHost_55 : zd cX12_readsHost 55 (.iastore) 1 56 := by decide +kernel
theorem d12_readsHost_56 : zd cX12_readsHost 56 (.aload_n 0) 1 57 := by decide +kernel
theorem d12_readsHost_57 : zd cX12_readsHost 57 (.dup) 1 58 := by decide +kernel
theorem d12_readsHost_58 : zd cX12_readsHost 58 (.getfield 68) 3 61 := by decide +kernel
theorem d12_readsHost_61 : zd cX12_readsHost 61 (.iconst 1) 1 62 := by decide +kernel
theorem d12_readsHost_62 : zd cX12_readsHost 62 (.iadd) 1 63 := by decide +kernel
theorem d12_readsHost_63 : zd cX12_readsHost 63 (.putfield 68) 3 66 := by decide +kernel
theorem d12_readsHost_66 : zd cX12_readsHost 66 (.return_) 1 67 := by decide +kernel
set_option maxHeartbeats 4000000 in
set_option maxRecDepth 20000 in
theorem c12_readsHost (l : Launch) (D : zDt) (Sh : zSh) (top : Nat) (hO : zOK Sh) (o_ : Nat) (μ : zM) (μ_ : zM) (ho : (Sh o_).1 = 19) (h : f12_readsHost o_ μ = some μ_) : zMet l D zK1 yX12_readsHost cX12_readsHost 1 none (zrm 5 104) [.ref o_] Sh top μ none Sh top μ_ 0 0 := by
  refine zMet_of (by decide) (Nat.le_of_ble_eq_true rfl) fun X hX1 hX2 fx fin => ?_
  subst hX1; subst hX2
  replace fx : zFix X cX12_readsHost RX12 (zrm 5 104) 1 := fx
  show zZ zK1 X (zT0 Sh top) μ 0 [(0, .ref o_)] []
  unfold f12_readsHost at h
  obtain ⟨μ1, e1, h⟩ := zinv h
  have k2 : zZ zK1 X (zT0 Sh top) μ1 18 [(0, .ref o_)] [] := by
    refine z_aload_n fx (k := 0) (i := 0) rfl rfl d12_readsHost_18 ?_
    obtain ⟨t2, e3, h⟩ := zinv h
    refine z_cVr fx (c12_goes (zLo X) (zDo X) Sh top hO o_ μ1 _ ho e3) mv12_goes ml12_225 ho rfl rfl rfl rfl d12_readsHost_19 ?_
    refine z_ifb_ne fx d12_readsHost_22 (fun c4 => ?_) (fun c4 => ?_)
    · replace h := zif_t c4 h
      refine z_aload_n fx (k := 0) (i := 0) rfl rfl d12_readsHost_26 ?_
      refine z_bipush fx (v := 8) bp8 d12_readsHost_27 ?_
      refine z_aload_n fx (k := 0) (i := 0) rfl rfl d12_readsHost_29 ?_
      refine z_getI fx 12 19 1219 ho lf12_68 ⟨fk12_19, rfl⟩ d12_readsHost_30 ?_
      refine z_iadd fx d12_readsHost_33 ?_
      obtain ⟨μ3, e5, h⟩ := zinv h
      refine z_cVv fx (c12_freshName (zLo X) (zDo X) Sh top hO o_ (8 + (gF μ1 1219 o_)) μ1 _ ho e5) mv12_freshName ml12_270 ho rfl rfl rfl rfl d12_readsHost_34 ?_
      refine z_aload_n fx (k := 0) (i := 0) rfl rfl d12_readsHost_37 ?_
      refine z_bipush fx (v := 12) bp12 d12_readsHost_38 ?_
      obtain ⟨μ4, e6, h⟩ := zinv h
      refine z_cVv fx (c12_must (zLo X) (zDo X) Sh top hO o_ 12 μ3 _ ho e6) mv12_must ml12_254 ho rfl rfl rfl rfl d12_readsHost_40 ?_
      refine z_aload_n fx (k := 0) (i := 0) rfl rfl d12_readsHost_43 ?_
      refine z_getO fx 12 29 19 ho lf12_98 fk12_29 d12_readsHost_44 ?_
      refine z_aload_n fx (k := 0) (i := 0) rfl rfl d12_readsHost_47 ?_
      refine z_getI fx 12 19 1219 ho lf12_68 ⟨fk12_19, rfl⟩ d12_readsHost_48 ?_
      refine z_aload_n fx (k := 0) (i := 0) rfl rfl d12_readsHost_51 ?_
      obtain ⟨t5, μ6, e7, h⟩ := zinv2 h
      refine z_cVr fx (c12_knownBridge (zLo X) (zDo X) Sh top hO o_ μ4 _ _ ho e7) mv12_knownBridge ml12_277 ho rfl rfl rfl rfl d12_readsHost_52 ?_
      obtain ⟨μ7, e8, h⟩ := zinv h
      refine z_iast fx (ok12_29 hO ho) e8 d12_readsHost_55 ?_
      refine z_aload_n fx (k := 0) (i := 0) rfl rfl d12_readsHost_56 ?_
      refine z_dup fx rfl d12_readsHost_57 ?_
      refine z_getI fx 12 19 1219 ho lf12_68 ⟨fk12_19, rfl⟩ d12_readsHost_58 ?_
      refine z_iconst fx (v := 1) ic1 d12_readsHost_61 ?_
      refine z_iadd fx d12_readsHost_62 ?_
      obtain ⟨μ8, e9, h⟩ := zinv h
      refine z_putI fx (ci := 12) 19 ho lf12_68 fp12_19 e9 d12_readsHost_63 ?_
      cases h
      exact z_return fx fin d12_readsHost_66
    · replace h := zif_f c4 h
      cases h
      exact z_return fx fin d12_readsHost_25
  clear h
  refine z_aload_n fx (k := 0) (i := 0) rfl rfl d12_readsHost_0 ?_
  refine z_getI fx 12 19 1219 ho lf12_68 ⟨fk12_19, rfl⟩ d12_readsHost_1 ?_
  refine z_bipush fx (v := 8) bp8 d12_readsHost_4 ?_
  refine z_icmp_ne fx d12_readsHost_6 (fun c10 => ?_) (fun c10 => ?_)
  · replace e1 := zif_f c10 e1
    cases e1
    exact k2
  · replace e1 := zif_t c10 e1
    refine z_aload_n fx (k := 0) (i := 0) rfl rfl d12_readsHost_9 ?_
    refine z_iconst fx (v := 5) ic5 d12_readsHost_10 ?_
    refine z_aload_n fx (k := 0) (i := 0) rfl rfl d12_readsHost_11 ?_
    refine z_getI fx 12 38 1238 ho lf12_125 ⟨fk12_38, rfl⟩ d12_readsHost_12 ?_
    obtain ⟨μ9, e11, e1⟩ := zinv e1
    refine z_cVv fx (c12_fails (zLo X) (zDo X) Sh top hO o_ 5 (gF μ 1238 o_) μ _ ho e11) mv12_fails ml12_240 ho rfl rfl rfl rfl d12_readsHost_15 ?_
    cases e1
    exact k2
theorem d12_readsAll_0 : zd cX12_readsAll 0 (.aload_n 0) 1 1 := by decide +kernel
theorem d12_readsAll_1 : zd cX12_readsAll 1 (.iconst 0) 1 2 := by decide +kernel
theorem d12_readsAll_2 : zd cX12_readsAll 2 (.putfield 62) 3 5 := by decide +kernel
theorem d12_readsAll_5 : zd cX12_readsAll 5 (.aload_n 0) 1 6 := by decide +kernel
theorem d12_readsAll_6 : zd cX12_readsAll 6 (.iconst 0) 1 7 := by decide +kernel
theorem d12_readsAll_7 : zd cX12_readsAll 7 (.putfield 65) 3 10 := by decide +kernel
theorem d12_readsAll_10 : zd cX12_readsAll 10 (.aload_n 0) 1 11 := by decide +kernel
theorem d12_readsAll_11 : zd cX12_readsAll 11 (.iconst 0) 1 12 := by decide +kernel
theorem d12_readsAll_12 : zd cX12_readsAll 12 (.putfield 68) 3 15 := by decide +kernel
theorem d12_readsAll_15 : zd cX12_readsAll 15 (.aload_n 0) 1 16 := by decide +kernel
theorem d12_readsAll_16 : zd cX12_readsAll 16 (.iconst 0) 1 17 := by decide +kernel
theorem d12_readsAll_17 : zd cX12_readsAll 17 (.invokevirtual 254) 3 20 := by decide +kernel
theorem d12_readsAll_20 : zd cX12_readsAll 20 (.aload_n 0) 1 21 := by decide +kernel
theorem d12_readsAll_21 : zd cX12_readsAll 21 (.aload_n 0) 1 22 := by decide +kernel
theorem d12_readsAll_22 : zd cX12_readsAll 22 (.iconst 1) 1 23 := by decide +kernel
theorem d12_readsAll_23 : zd cX12_readsAll 23 (.iconst 2) 1 24 := by decide +kernel
theorem d12_readsAll_24 : zd cX12_readsAll 24 (.bipush 20) 2 26 := by decide +kernel
theorem d12_readsAll_26 : zd cX12_readsAll 26 (.invokevirtual 273) 3 29 := by decide +kernel
theorem d12_readsAll_29 : zd cX12_readsAll 29 (.putfield 71) 3 32 := by decide +kernel
theorem d12_readsAll_32 : zd cX12_readsAll 32 (.aload_n 0) 1 33 := by decide +kernel
theorem d12_readsAll_33 : zd cX12_readsAll 33 (.aload_n 0) 1 34 := by decide +kernel
theorem d12_readsAll_34 : zd cX12_readsAll 34 (.iconst 2) 1 35 := by decide +kernel
theorem d12_readsAll_35 : zd cX12_readsAll 35 (.iconst 1) 1 36 := by decide +kernel
theorem d12_readsAll_36 : zd cX12_readsAll 36 (.bipush 9) 2 38 := by decide +kernel
theorem d12_readsAll_38 : zd cX12_readsAll 38 (.invokevirtual 273) 3 41 := by decide +kernel
theorem d12_readsAll_41 : zd cX12_readsAll 41 (.putfield 74) 3 44 := by decide +kernel
theorem d12_readsAll_44 : zd cX12_readsAll 44 (.aload_n 0) 1 45 := by decide +kernel
theorem d12_readsAll_45 : zd cX12_readsAll 45 (.invokevirtual 283) 3 48 := by decide +kernel
theorem d12_readsAll_48 : zd cX12_readsAll 48 (.iconst 1) 1 49 := by decide +kernel
theorem d12_readsAll_49 : zd cX12_readsAll 49 (.istore_n 1) 1 50 := by decide +kernel
theorem d12_readsAll_50 : zd cX12_readsAll 50 (.aload_n 0) 1 51 := by decide +kernel
theorem d12_readsAll_51 : zd cX12_readsAll 51 (.invokevirtual 225) 3 54 := by decide +kernel
theorem d12_readsAll_54 : zj cX12_readsAll 54 (.ifCond .eq 88) 88 57 142 := by decide +kernel
theorem d12_readsAll_57 : zd cX12_readsAll 57 (.aload_n 0) 1 58 := by decide +kernel
theorem d12_readsAll_58 : zd cX12_readsAll 58 (.invokevirtual 229) 3 61 := by decide +kernel
theorem d12_readsAll_61 : zd cX12_readsAll 61 (.iconst (-1)) 1 62 := by decide +kernel
theorem d12_readsAll_62 : zj cX12_readsAll 62 (.if_icmp .eq 80) 80 65 142 := by decide +kernel
theorem d12_readsAll_65 : zd cX12_readsAll 65 (.aload_n 0) 1 66 := by decide +kernel
theorem d12_readsAll_66 : zd cX12_readsAll 66 (.invokevirtual 244) 3 69 := by decide +kernel
theorem d12_readsAll_69 : zd cX12_readsAll 69 (.aload_n 0) 1 70 := by decide +kernel
theorem d12_readsAll_70 : zd cX12_readsAll 70 (.invokevirtual 225) 3 73 := by decide +kernel
theorem d12_readsAll_73 : zj cX12_readsAll 73 (.ifCond .eq 10) 10 76 83 := by decide +kernel
theorem d12_readsAll_76 : zd cX12_readsAll 76 (.aload_n 0) 1 77 := by decide +kernel
theorem d12_readsAll_77 : zd cX12_readsAll 77 (.invokevirtual 247) 3 80 := by decide +kernel
theorem d12_readsAll_80 : zj cX12_readsAll 80 (.goto 4) 4 83 84 := by decide +kernel
theorem d12_readsAll_83 : zd cX12_readsAll 83 (.iconst (-1)) 1 84 := by decide +kernel
theorem d12_readsAll_84 : zd cX12_readsAll 84 (.istore_n 2) 1 85 := by decide +kernel
theorem d12_readsAll_85 : zd cX12_readsAll 85 (.iload_n 2) 1 86 := by decide +kernel
theorem d12_readsAll_86 : zd cX12_readsAll 86 (.iconst 3) 1 87 := by decide +kernel
theorem d12_readsAll_87 : zj cX12_readsAll 87 (.if_icmp .ne 10) 10 90 97 := by decide +kernel
theorem d12_readsAll_90 : zd cX12_readsAll 90 (.aload_n 0) 1 91 := by decide +kernel
theorem d12_readsAll_91 : zd cX12_readsAll 91 (.invokevirtual 286) 3 94 := by decide +kernel
theorem d12_readsAll_94 : zj cX12_readsAll 94 (.goto 38) 38 97 132 := by decide +kernel
theorem d12_readsAll_97 : zd cX12_readsAll 97 (.iload_n 2) 1 98 := by decide +kernel
theorem d12_readsAll_98 : zd cX12_readsAll 98 (.bipush 6) 2 100 := by decide +kernel
theorem d12_readsAll_100 : zj cX12_readsAll 100 (.if_icmp .ne 10) 10 103 110 := by decide +kernel
theorem d12_readsAll_103 : zd cX12_readsAll 103 (.aload_n 0) 1 104 := by decide +kernel
theorem d12_readsAll_104 : zd cX12_readsAll 104 (.invokevirtual 289) 3 107 := by decide +kernel
theorem d12_readsAll_107 : zj cX12_readsAll 107 (.goto 25) 25 110 132 := by decide +kernel
theorem d12_readsAll_110 : zd cX12_readsAll 110 (.iload_n 2) 1 111 := by decide +kernel
theorem d12_readsAll_111 : zd cX12_readsAll 111 (.bipush 11) 2 113 := by decide +kernel
theorem d12_readsAll_113 : zj cX12_readsAll 113 (.if_icmp .ne 10) 10 116 123 := by decide +kernel
theorem d12_readsAll_116 : zd cX12_readsAll 116 (.aload_n 0) 1 117 := by decide +kernel
theorem d12_readsAll_117 : zd cX12_readsAll 117 (.invokevirtual 292) 3 120 := by decide +kernel
theorem d12_readsAll_120 : zj cX12_readsAll 120 (.goto 12) 12 123 132 := by decide +kernel
theorem d12_readsAll_123 : zd cX12_readsAll 123 (.aload_n 0) 1 124 := by decide +kernel
theorem d12_readsAll_124 : zd cX12_readsAll 124 (.iconst 1) 1 125 := by decide +kernel
theorem d12_readsAll_125 : zd cX12_readsAll 125 (.aload_n 0) 1 126 := by decide +kernel
theorem d12_readsAll_126 : zd cX12_readsAll 126 (.getfield 125) 3 129 := by decide +kernel
theorem d12_readsAll_129 : zd cX12_readsAll 129 (.invokevirtual 240) 3 132 := by decide +kernel
theorem d12_readsAll_132 : zd cX12_readsAll 132 (.aload_n 0) 1 133 := by decide +kernel
theorem d12_readsAll_133 : zd cX12_readsAll 133 (.invokevirtual 283) 3 136 := by decide +kernel
theorem d12_readsAll_136 : zd cX12_readsAll 136 (.iinc 1 1) 3 139 := by decide +kernel
theorem d12_readsAll_139 : zj cX12_readsAll 139 (.goto (-89)) (-89) 142 50 := by decide +kernel
theorem d12_readsAll_142 : zd cX12_readsAll 142 (.iload_n 1) 1 143 := by decide +kernel
theorem d12_readsAll_143 : zd cX12_readsAll 143 (.ireturn) 1 144 := by decide +kernel
set_option maxHeartbeats 4000000 in
set_option maxRecDepth 20000 in
theorem c12_readsAll (l : Launch) (D : zDt) (Sh : zSh) (top : Nat) (hO : zOK Sh) (o_ : Nat) (μ : zM) (r_ : Int32) (μ_ : zM) (ho : (Sh o_).1 = 19) (h : f12_readsAll o_ μ = some (r_, μ_)) : zMet l D zK1 yX12_readsAll cX12_readsAll 3 (some .int) (zrm 7 147) [.ref o_] Sh top μ (some (.int r_)) Sh top μ_ 0 0 := by
  refine zMet_of (by decide) (Nat.le_of_ble_eq_true rfl) fun X hX1 hX2 fx fin => ?_
  subst hX1; subst hX2
  replace fx : zFix X cX12_readsAll RX12 (zrm 7 147) 3 := fx
  show zZ zK1 X (zT0 Sh top) μ 0 [(0, .ref o_)] []
  unfold f12_readsAll at h
  refine z_aload_n fx (k := 0) (i := 0) rfl rfl d12_readsAll_0 ?_
  refine z_iconst fx (v := 0) ic0 d12_readsAll_1 ?_
  obtain ⟨μ1, e1, h⟩ := zinv h
  refine z_putI fx (ci := 12) 17 ho lf12_62 fp12_17 e1 d12_readsAll_2 ?_
  refine z_aload_n fx (k := 0) (i := 0) rfl rfl d12_readsAll_5 ?_
  refine z_iconst fx (v := 0) ic0 d12_readsAll_6 ?_
  obtain ⟨μ2, e2, h⟩ := zinv h
  refine z_putI fx (ci := 12) 18 ho lf12_65 fp12_18 e2 d12_readsAll_7 ?_
  refine z_aload_n fx (k := 0) (i := 0) rfl rfl d12_readsAll_10 ?_
  refine z_iconst fx (v := 0) ic0 d12_readsAll_11 ?_
  obtain ⟨μ3, e3, h⟩ := zinv h
  refine z_putI fx (ci := 12) 19 ho lf12_68 fp12_19 e3 d12_readsAll_12 ?_
  refine z_aload_n fx (k := 0) (i := 0) rfl rfl d12_readsAll_15 ?_
  refine z_iconst fx (v := 0) ic0 d12_readsAll_16 ?_
  obtain ⟨μ4, e4, h⟩ := zinv h
  refine z_cVv fx (c12_must (zLo X) (zDo X) Sh top hO o_ 0 μ3 _ ho e4) mv12_must ml12_254 ho rfl rfl rfl rfl d12_readsAll_17 ?_
  refine z_aload_n fx (k := 0) (i := 0) rfl rfl d12_readsAll_20 ?_
  refine z_aload_n fx (k := 0) (i := 0) rfl rfl d12_readsAll_21 ?_
  refine z_iconst fx (v := 1) ic1 d12_readsAll_22 ?_
  refine z_iconst fx (v := 2) ic2 d12_readsAll_23 ?_
  refine z_bipush fx (v := 20) bp20 d12_readsAll_24 ?_
  obtain ⟨t5, μ6, e5, h⟩ := zinv2 h
  refine z_cVr fx (c12_told (zLo X) (zDo X) Sh top hO o_ 1 2 20 μ4 _ _ ho e5) mv12_told ml12_273 ho rfl rfl rfl rfl d12_readsAll_26 ?_
  obtain ⟨μ7, e6, h⟩ := zinv h
  refine z_putI fx (ci := 12) 20 ho lf12_71 fp12_20 e6 d12_readsAll_29 ?_
  refine z_aload_n fx (k := 0) (i := 0) rfl rfl d12_readsAll_32 ?_
  refine z_aload_n fx (k := 0) (i := 0) rfl rfl d12_readsAll_33 ?_
  refine z_iconst fx (v := 2) ic2 d12_readsAll_34 ?_
  refine z_iconst fx (v := 1) ic1 d12_readsAll_35 ?_
  refine z_bipush fx (v := 9) bp9 d12_readsAll_36 ?_
  obtain ⟨t8, μ9, e7, h⟩ := zinv2 h
  refine z_cVr fx (c12_told (zLo X) (zDo X) Sh top hO o_ 2 1 9 μ7 _ _ ho e7) mv12_told ml12_273 ho rfl rfl rfl rfl d12_readsAll_38 ?_
  obtain ⟨μ10, e8, h⟩ := zinv h
  refine z_putI fx (ci := 12) 21 ho lf12_74 fp12_21 e8 d12_readsAll_41 ?_
  refine z_aload_n fx (k := 0) (i := 0) rfl rfl d12_readsAll_44 ?_
  obtain ⟨μ11, e9, h⟩ := zinv h
  refine z_cVv fx (c12_endsWell (zLo X) (zDo X) Sh top hO o_ μ10 _ ho e9) mv12_endsWell ml12_283 ho rfl rfl rfl rfl d12_readsAll_45 ?_
  refine z_iconst fx (v := 1) ic1 d12_readsAll_48 ?_
  refine z_istore_n fx (k := 1) (i := 1) rfl rfl (lv' := [(0, .ref o_), (1, .int 1)]) rfl rfl d12_readsAll_49 ?_
  obtain ⟨v_n_14, μ15, e40, h⟩ := zinv2 h
  have kx13 : zZ zK1 X (zT0 Sh top) μ15 142 [(0, .ref o_), (1, .int v_n_14)] [] := by
    refine z_iload_n fx (k := 1) (i := 1) rfl rfl d12_readsAll_142 ?_
    cases h
    exact z_ireturn fx fin d12_readsAll_143
  clear h
  have klr12 : ∀ (n : Nat) (v_n_12 : Int32) (μ13 : zM), zloop (fun s => f12_readsAll_L1 o_ s.1 s.2) n (v_n_12, μ13) = some (v_n_14, μ15) → zZ zK1 X (zT0 Sh top) μ13 50 [(0, .ref o_), (1, .int v_n_12)] [] := by
    intro n
    induction n with
    | zero => intro v_n_12 μ13 hl11; cases hl11
    | succ n ih14 =>
      intro v_n_12 μ13 hl11
      obtain ⟨y, e10, hl11⟩ := zloop_inv hl11
      replace e10 : f12_readsAll_L1 o_ v_n_12 μ13 = some y := e10
      unfold f12_readsAll_L1 at e10
      obtain ⟨b16, μ17, e16, e10⟩ := zinv2 e10
      have kt15 : b16 = true → zZ zK1 X (zT0 Sh top) μ17 65 [(0, .ref o_), (1, .int v_n_12)] [] := by
        intro hc
        replace e10 := zif_t hc e10
        refine z_aload_n fx (k := 0) (i := 0) rfl rfl d12_readsAll_65 ?_
        obtain ⟨μ18, e17, e10⟩ := zinv e10
        refine z_cVv fx (c12_word (zLo X) (zDo X) Sh top hO o_ μ17 _ ho e17) mv12_word ml12_244 ho rfl rfl rfl rfl d12_readsAll_66 ?_
        obtain ⟨x19, e18, e10⟩ := zinv e10
        have k19 : zZ zK1 X (zT0 Sh top) μ18 84 [(0, .ref o_), (1, .int v_n_12)] [.int x19] := by
          refine z_istore_n fx (k := 2) (i := 2) rfl rfl (lv' := [(0, .ref o_), (1, .int v_n_12), (2, .int x19)]) rfl rfl d12_readsAll_84 ?_
          obtain ⟨μ22, e23, e10⟩ := zinv e10
          have k24 : zZ zK1 X (zT0 Sh top) μ22 132 [(0, .ref o_), (1, .int v_n_12), (2, .int x19)] [] := by
            refine z_aload_n fx (k := 0) (i := 0) rfl rfl d12_readsAll_132 ?_
            obtain ⟨μ23, e25, e10⟩ := zinv e10
            refine z_cVv fx (c12_endsWell (zLo X) (zDo X) Sh top hO o_ μ22 _ ho e25) mv12_endsWell ml12_283 ho rfl rfl rfl rfl d12_readsAll_133 ?_
            obtain ⟨v_n_24, e26, e10⟩ := zinv e10
            replace e26 := Option.some.inj e26
            refine z_iinc fx (i := 1) (x := v_n_12) (v := v_n_24) rfl (by rw [in1]; exact e26) rfl (lv' := [(0, .ref o_), (1, .int v_n_24), (2, .int x19)]) rfl rfl d12_readsAll_136 ?_
            refine z_take 2 (lv' := [(0, .ref o_), (1, .int v_n_24)]) rfl ?_
            cases e10
            refine z_goto fx d12_readsAll_139 ?_
            exact ih14 _ _ hl11
          clear e10
          refine z_iload_n fx (k := 2) (i := 2) rfl rfl d12_readsAll_85 ?_
          refine z_iconst fx (v := 3) ic3 d12_readsAll_86 ?_
          refine z_icmp_ne fx d12_readsAll_87 (fun c27 => ?_) (fun c27 => ?_)
          · replace e23 := zif_f c27 e23
            refine z_iload_n fx (k := 2) (i := 2) rfl rfl d12_readsAll_97 ?_
            refine z_bipush fx (v := 6) bp6 d12_readsAll_98 ?_
            refine z_icmp_ne fx d12_readsAll_100 (fun c28 => ?_) (fun c28 => ?_)
            · replace e23 := zif_f c28 e23
              refine z_iload_n fx (k := 2) (i := 2) rfl rfl d12_readsAll_110 ?_
              refine z_bipush fx (v := 11) bp11 d12_readsAll_111 ?_
              refine z_icmp_ne fx d12_readsAll_113 (fun c29 => ?_) (fun c29 => ?_)
              · replace e23 := zif_f c29 e23
                refine z_aload_n fx (k := 0) (i := 0) rfl rfl d12_readsAll_123 ?_
                refine z_iconst fx (v := 1) ic1 d12_readsAll_124 ?_
                refine z_aload_n fx (k := 0) (i := 0) rfl rfl d12_readsAll_125 ?_
                refine z_getI fx 12 38 1238 ho lf12_125 ⟨fk12_38, rfl⟩ d12_readsAll_126 ?_
                obtain ⟨μ25, e30, e23⟩ := zinv e23
                refine z_cVv fx (c12_fails (zLo X) (zDo X) Sh top hO o_ 1 (gF μ18 1238 o_) μ18 _ ho e30) mv12_fails ml12_240 ho rfl rfl rfl rfl d12_readsAll_129 ?_
                cases e23
                exact k24
              · replace e23 := zif_t c29 e23
                refine z_aload_n fx (k := 0) (i := 0) rfl rfl d12_readsAll_116 ?_
                obtain ⟨μ26, e31, e23⟩ := zinv e23
                refine z_cVv fx (c12_readsHost (zLo X) (zDo X) Sh top hO o_ μ18 _ ho e31) mv12_readsHost ml12_292 ho rfl rfl rfl rfl d12_readsAll_117 ?_
                cases e23
                refine z_goto fx d12_readsAll_120 ?_
                exact k24
            · replace e23 := zif_t c28 e23
              refine z_aload_n fx (k := 0) (i := 0) rfl rfl d12_readsAll_103 ?_
              obtain ⟨μ27, e32, e23⟩ := zinv e23
              refine z_cVv fx (c12_readsLink (zLo X) (zDo X) Sh top hO o_ μ18 _ ho e32) mv12_readsLink ml12_289 ho rfl rfl rfl rfl d12_readsAll_104 ?_
              cases e23
              refine z_goto fx d12_readsAll_107 ?_
              exact k24
          · replace e23 := zif_t c27 e23
            refine z_aload_n fx (k := 0) (i := 0) rfl rfl d12_readsAll_90 ?_
            obtain ⟨μ28, e33, e23⟩ := zinv e23
            refine z_cVv fx (c12_readsBridge (zLo X) (zDo X) Sh top hO o_ μ18 _ ho e33) mv12_readsBridge ml12_286 ho rfl rfl rfl rfl d12_readsAll_91 ?_
            cases e23
            refine z_goto fx d12_readsAll_94 ?_
            exact k24
        refine z_aload_n fx (k := 0) (i := 0) rfl rfl d12_readsAll_69 ?_
        obtain ⟨t20, e20, e18⟩ := zinv e18
        refine z_cVr fx (c12_goes (zLo X) (zDo X) Sh top hO o_ μ18 _ ho e20) mv12_goes ml12_225 ho rfl rfl rfl rfl d12_readsAll_70 ?_
        refine z_ifb_eq fx d12_readsAll_73 (fun c21 => ?_) (fun c21 => ?_)
        · replace e18 := zif_f c21 e18
          refine z_iconst fx (v := (-1)) icm1 d12_readsAll_83 ?_
          cases e18
          exact k19
        · replace e18 := zif_t c21 e18
          refine z_aload_n fx (k := 0) (i := 0) rfl rfl d12_readsAll_76 ?_
          obtain ⟨t21, e22, e18⟩ := zinv e18
          refine z_cVr fx (c12_own (zLo X) (zDo X) Sh top hO o_ μ18 _ ho e22) mv12_own ml12_247 ho rfl rfl rfl rfl d12_readsAll_77 ?_
          cases e18
          refine z_goto fx d12_readsAll_80 ?_
          exact k19
      have kf15 : b16 = false → zZ zK1 X (zT0 Sh top) μ17 142 [(0, .ref o_), (1, .int v_n_12)] [] := by
        intro hc
        replace e10 := zif_f hc e10
        cases e10
        cases hl11
        exact kx13
      clear e10
      obtain ⟨b29, e34, e16⟩ := zinv e16
      have kt35 : b29 = true → zZ zK1 X (zT0 Sh top) μ13 57 [(0, .ref o_), (1, .int v_n_12)] [] := by
        intro hc
        replace e16 := zif_t hc e16
        refine z_aload_n fx (k := 0) (i := 0) rfl rfl d12_readsAll_57 ?_
        obtain ⟨t30, μ31, e36, e16⟩ := zinv2 e16
        refine z_cVr fx (c12_here (zLo X) (zDo X) Sh top hO o_ μ13 _ _ ho e36) mv12_here ml12_229 ho rfl rfl rfl rfl d12_readsAll_58 ?_
        refine z_iconst fx (v := (-1)) icm1 d12_readsAll_61 ?_
        cases e16
        refine z_icmp_eq fx d12_readsAll_62 (fun c37 => ?_) (fun c37 => ?_)
        · exact kf15 (by rw [c37]; rfl)
        · exact kt15 (by rw [c37]; rfl)
      have kf35 : b29 = false → zZ zK1 X (zT0 Sh top) μ13 142 [(0, .ref o_), (1, .int v_n_12)] [] := by
        intro hc
        replace e16 := zif_f hc e16
        cases e16
        exact kf15 rfl
      clear e16
      refine z_aload_n fx (k := 0) (i := 0) rfl rfl d12_readsAll_50 ?_
      obtain ⟨t32, e38, e34⟩ := zinv e34
      refine z_cVr fx (c12_goes (zLo X) (zDo X) Sh top hO o_ μ13 _ ho e38) mv12_goes ml12_225 ho rfl rfl rfl rfl d12_readsAll_51 ?_
      cases e34
      refine z_ifb_eq fx d12_readsAll_54 (fun c39 => ?_) (fun c39 => ?_)
      · exact kf35 c39
      · exact kt35 c39
  exact klr12 _ _ _ e40
