theorem d12_ages_0 : zd cX12_ages 0 (.iconst 0) 1 1 := by decide +kernel
theorem d12_ages_1 : zd cX12_ages 1 (.istore_n 2) 1 2 := by decide +kernel
theorem d12_ages_2 : zd cX12_ages 2 (.aload_n 0) 1 3 := by decide +kernel
theorem d12_ages_3 : zd cX12_ages 3 (.iload_n 1) 1 4 := by decide +kernel
theorem d12_ages_4 : zd cX12_ages 4 (.bipush 7) 2 6 := by decide +kernel
theorem d12_ages_6 : zd cX12_ages 6 (.invokevirtual 319) 3 9 := by decide +kernel
theorem d12_ages_9 : zj cX12_ages 9 (.ifCond .le 22) 22 12 31 := by decide +kernel
theorem d12_ages_12 : zd cX12_ages 12 (.aload_n 0) 1 13 := by decide +kernel
theorem d12_ages_13 : zd cX12_ages 13 (.iload_n 1) 1 14 := by decide +kernel
theorem d12_ages_14 : zd cX12_ages 14 (.bipush 7) 2 16 := by decide +kernel
theorem d12_ages_16 : zd cX12_ages 16 (.invokestatic 307) 3 19 := by decide +kernel
theorem d12_ages_19 : zd cX12_ages 19 (.aload_n 0) 1 20 := by decide +kernel
theorem d12_ages_20 : zd cX12_ages 20 (.iload_n 1) 1 21 := by decide +kernel
theorem d12_ages_21 : zd cX12_ages 21 (.bipush 7) 2 23 := by decide +kernel
theorem d12_ages_23 : zd cX12_ages 23 (.invokevirtual 319) 3 26 := by decide +kernel
theorem d12_ages_26 : zd cX12_ages 26 (.iconst 1) 1 27 := by decide +kernel
theorem d12_ages_27 : zd cX12_ages 27 (.isub) 1 28 := by decide +kernel
theorem d12_ages_28 : zd cX12_ages 28 (.invokevirtual 310) 3 31 := by decide +kernel
theorem d12_ages_31 : zd cX12_ages 31 (.iload_n 1) 1 32 := by decide +kernel
theorem d12_ages_32 : zd cX12_ages 32 (.iconst 0) 1 33 := by decide +kernel
theorem d12_ages_33 : zd cX12_ages 33 (.invokestatic 325) 3 36 := by decide +kernel
theorem d12_ages_36 : zd cX12_ages 36 (.istore_n 3) 1 37 := by decide +kernel
theorem d12_ages_37 : zd cX12_ages 37 (.iload_n 3) 1 38 := by decide +kernel
theorem d12_ages_38 : zd cX12_ages 38 (.iload_n 1) 1 39 := by decide +kernel
theorem d12_ages_39 : zd cX12_ages 39 (.aload_n 0) 1 40 := by decide +kernel
theorem d12_ages_40 : zd cX12_ages 40 (.getfield 35) 3 43 := by decide +kernel
theorem d12_ages_43 : zd cX12_ages 43 (.iload_n 1) 1 44 := by decide +kernel
theorem d12_ages_44 : zd cX12_ages 44 (.iaload) 1 45 := by decide +kernel
theorem d12_ages_45 : zd cX12_ages 45 (.invokestatic 325) 3 48 := by decide +kernel
theorem d12_ages_48 : zj cX12_ages 48 (.if_icmp .ge 84) 84 51 132 := by decide +kernel
theorem d12_ages_51 : zd cX12_ages 51 (.aload_n 0) 1 52 := by decide +kernel
theorem d12_ages_52 : zd cX12_ages 52 (.iload_n 3) 1 53 := by decide +kernel
theorem d12_ages_53 : zd cX12_ages 53 (.iconst 3) 1 54 := by decide +kernel
theorem d12_ages_54 : zd cX12_ages 54 (.invokevirtual 334) 3 57 := by decide +kernel
theorem d12_ages_57 : zj cX12_ages 57 (.ifCond .le 17) 17 60 74 := by decide +kernel
theorem d12_ages_60 : zd cX12_ages 60 (.aload_n 0) 1 61 := by decide +kernel
theorem d12_ages_61 : zd cX12_ages 61 (.iload_n 3) 1 62 := by decide +kernel
theorem d12_ages_62 : zd cX12_ages 62 (.iconst 3) 1 63 := by decide +kernel
theorem d12_ages_63 : zd cX12_ages 63 (.aload_n 0) 1 64 := by decide +kernel
theorem d12_ages_64 : zd cX12_ages 64 (.iload_n 3) 1 65 := by decide +kernel
theorem d12_ages_65 : zd cX12_ages 65 (.iconst 3) 1 66 := by decide +kernel
theorem d12_ages_66 : zd cX12_ages 66 (.invokevirtual 334) 3 69 := by decide +kernel
theorem d12_ages_69 : zd cX12_ages 69 (.iconst 1) 1 70 := by decide +kernel
theorem d12_ages_70 : zd cX12_ages 70 (.isub) 1 71 := by decide +kernel
theorem d12_ages_71 : zd cX12_ages 71 (.invokevirtual 344) 3 74 := by decide +kernel
theorem d12_ages_74 : zd cX12_ages 74 (.aload_n 0) 1 75 := by decide +kernel
theorem d12_ages_75 : zd cX12_ages 75 (.iload_n 3) 1 76 := by decide +kernel
theorem d12_ages_76 : zd cX12_ages 76 (.bipush 10) 2 78 := by decide +kernel
theorem d12_ages_78 : zd cX12_ages 78 (.invokevirtual 334) 3 81 := by decide +kernel
theorem d12_ages_81 : zj cX12_ages 81 (.ifCond .ne 6) 6 84 87 := by decide +kernel
theorem d12_ages_84 : zj cX12_ages 84 (.goto 42) 42 87 126 := by decide +kernel
theorem d12_ages_87 : zd cX12_ages 87 (.aload_n 0) 1 88 := by decide +kernel
theorem d12_ages_88 : zd cX12_ages 88 (.iload_n 3) 1 89 := by decide +kernel
theorem d12_ages_89 : zd cX12_ages 89 (.bipush 16) 2 91 := by decide +kernel
theorem d12_ages_91 : zd cX12_ages 91 (.aload_n 0) 1 92 := by decide +kernel
theorem d12_ages_92 : zd cX12_ages 92 (.iload_n 3) 1 93 := by decide +kernel
theorem d12_ages_93 : zd cX12_ages 93 (.bipush 16) 2 95 := by decide +kernel
theorem d12_ages_95 : zd cX12_ages 95 (.invokevirtual 334) 3 98 := by decide +kernel
theorem d12_ages_98 : zd cX12_ages 98 (.iconst 1) 1 99 := by decide +kernel
theorem d12_ages_99 : zd cX12_ages 99 (.isub) 1 100 := by decide +kernel
theorem d12_ages_100 : zd cX12_ages 100 (.invokevirtual 344) 3 103 := by decide +kernel
theorem d12_ages_103 : zd cX12_ages 103 (.aload_n 0) 1 104 := by decide +kernel
theorem d12_ages_104 : zd cX12_ages 104 (.iload_n 3) 1 105 := by decide +kernel
theorem d12_ages_105 : zd cX12_ages 105 (.bipush 16) 2 107 := by decide +kernel
theorem d12_ages_107 : zd cX12_ages 107 (.invokevirtual 334) 3 110 := by decide +kernel
theorem d12_ages_110 : zj cX12_ages 110 (.ifCond .le 6) 6 113 116 := by decide +kernel
theorem d12_ages_113 : zj cX12_ages 113 (.goto 13) 13 116 126 := by decide +kernel
theorem d12_ages_116 : zd cX12_ages 116 (.aload_n 0) 1 117 := by decide +kernel
theorem d12_ages_117 : zd cX12_ages 117 (.iload_n 3) 1 118 := by decide +kernel
theorem d12_ages_118 : zd cX12_ages 118 (.bipush 10) 2 120 := by decide +kernel
theorem d12_ages_120 : zd cX12_ages 120 (.iconst 0) 1 121 := by decide +kernel
theorem d12_ages_121 : zd cX12_ages 121 (.invokevirtual 344) 3 124 := by decide +kernel
theorem d12_ages_124 : zd cX12_ages 124 (.iconst 1) 1 125 := by decide +kernel
theorem d12_ages_125 : zd cX12_ages 125 (.istore_n 2) 1 126 := by decide +kernel
theorem d12_ages_126 : zd cX12_ages 126 (.iinc 3 1) 3 129 := by decide +kernel
theorem d12_ages_129 : zj cX12_ages 129 (.goto (-92)) (-92) 132 37 := by decide +kernel
theorem d12_ages_132 : zd cX12_ages 132 (.iload_n 2) 1 133 := by decide +kernel
theorem d12_ages_133 : zj cX12_ages 133 (.ifCond .eq 8) 8 136 141 := by decide +kernel
theorem d12_ages_136 : zd cX12_ages 136 (.aload_n 0) 1 137 := by decide +kernel
theorem d12_ages_137 : zd cX12_ages 137 (.iload_n 1) 1 138 := by decide +kernel
theorem d12_ages_138 : zd cX12_ages 138 (.invokevirtual 375) 3 141 := by decide +kernel
theorem d12_ages_141 : zd cX12_ages 141 (.return_) 1 142 := by decide +kernel
set_option maxHeartbeats 4000000 in
set_option maxRecDepth 20000 in
theorem c12_ages (l : Launch) (D : zDt) (Sh : zSh) (top : Nat) (hO : zOK Sh) (o_ : Nat) (v_b : Int32) (μ : zM) (μ_ : zM) (ho : (Sh o_).1 = 19) (h : f12_ages o_ v_b μ = some μ_) : zMet l D zK1 yX12_ages cX12_ages 4 none (zrm 7 157) [.ref o_, .int v_b] Sh top μ none Sh top μ_ 0 0 := by
  refine zMet_of (by decide) (Nat.le_of_ble_eq_true rfl) fun X hX1 hX2 fx fin => ?_
  subst hX1; subst hX2
  replace fx : zFix X cX12_ages RX12 (zrm 7 157) 4 := fx
  show zZ zK1 X (zT0 Sh top) μ 0 [(0, .ref o_), (1, .int v_b)] []
  unfold f12_ages at h
  refine z_iconst fx (v := 0) ic0 d12_ages_0 ?_
  refine z_top (show Value.int 0 = .int (bI false) from rfl) ?_
  refine z_istore_n fx (k := 2) (i := 2) rfl rfl (lv' := [(0, .ref o_), (1, .int v_b), (2, .int (bI false))]) rfl rfl d12_ages_1 ?_
  obtain ⟨μ1, e1, h⟩ := zinv h
  have k2 : zZ zK1 X (zT0 Sh top) μ1 31 [(0, .ref o_), (1, .int v_b), (2, .int (bI false))] [] := by
    refine z_iload_n fx (k := 1) (i := 1) rfl rfl d12_ages_31 ?_
    refine z_iconst fx (v := 0) ic0 d12_ages_32 ?_
    obtain ⟨t2, e3, h⟩ := zinv h
    refine z_cSr fx (c12_placeOf (zLo X) (zDo X) Sh top hO v_b 0 μ1 _  e3) ms12_placeOf ml12_325 rfl rfl rfl rfl d12_ages_33 ?_
    refine z_istore_n fx (k := 3) (i := 3) rfl rfl (lv' := [(0, .ref o_), (1, .int v_b), (2, .int (bI false)), (3, .int t2)]) rfl rfl d12_ages_36 ?_
    obtain ⟨v_goes_6, v_p_7, μ8, e30, h⟩ := zinv3 h
    have kx7 : zZ zK1 X (zT0 Sh top) μ8 132 [(0, .ref o_), (1, .int v_b), (2, .int (bI v_goes_6)), (3, .int v_p_7)] [] := by
      refine z_take 3 (lv' := [(0, .ref o_), (1, .int v_b), (2, .int (bI v_goes_6))]) rfl ?_
      refine z_iload_n fx (k := 2) (i := 2) rfl rfl d12_ages_132 ?_
      refine z_ifb_eq fx d12_ages_133 (fun c28 => ?_) (fun c28 => ?_)
      · replace h := zif_f c28 h
        cases h
        exact z_return fx fin d12_ages_141
      · replace h := zif_t c28 h
        refine z_aload_n fx (k := 0) (i := 0) rfl rfl d12_ages_136 ?_
        refine z_iload_n fx (k := 1) (i := 1) rfl rfl d12_ages_137 ?_
        obtain ⟨μ23, e29, h⟩ := zinv h
        refine z_cVv fx (c12_chooses (zLo X) (zDo X) Sh top hO o_ v_b μ8 _ ho e29) mv12_chooses ml12_375 ho rfl rfl rfl rfl d12_ages_138 ?_
        cases h
        exact z_return fx fin d12_ages_141
    clear h
    have klr6 : ∀ (n : Nat) (v_goes_3 : Bool) (v_p_4 : Int32) (μ5 : zM), zloop (fun s => f12_ages_L1 o_ v_b s.1 s.2.1 s.2.2) n (v_goes_3, v_p_4, μ5) = some (v_goes_6, v_p_7, μ8) → zZ zK1 X (zT0 Sh top) μ5 37 [(0, .ref o_), (1, .int v_b), (2, .int (bI v_goes_3)), (3, .int v_p_4)] [] := by
      intro n
      induction n with
      | zero => intro v_goes_3 v_p_4 μ5 hl5; cases hl5
      | succ n ih8 =>
        intro v_goes_3 v_p_4 μ5 hl5
        obtain ⟨y, e4, hl5⟩ := zloop_inv hl5
        replace e4 : f12_ages_L1 o_ v_b v_goes_3 v_p_4 μ5 = some y := e4
        unfold f12_ages_L1 at e4
        refine z_iload_n fx (k := 3) (i := 3) rfl rfl d12_ages_37 ?_
        refine z_iload_n fx (k := 1) (i := 1) rfl rfl d12_ages_38 ?_
        refine z_aload_n fx (k := 0) (i := 0) rfl rfl d12_ages_39 ?_
        refine z_getO fx 12 8 3 ho lf12_35 fk12_8 d12_ages_40 ?_
        refine z_iload_n fx (k := 1) (i := 1) rfl rfl d12_ages_43 ?_
        obtain ⟨t9, e9, e4⟩ := zinv e4
        refine z_iald fx (ok12_8 hO ho) e9 d12_ages_44 ?_
        obtain ⟨t10, e10, e4⟩ := zinv e4
        refine z_cSr fx (c12_placeOf (zLo X) (zDo X) Sh top hO v_b t9 μ5 _  e10) ms12_placeOf ml12_325 rfl rfl rfl rfl d12_ages_45 ?_
        refine z_icmp_ge fx d12_ages_48 (fun c11 => ?_) (fun c11 => ?_)
        · replace e4 := zif_f c11 e4
          cases e4
          cases hl5
          exact kx7
        · replace e4 := zif_t c11 e4
          obtain ⟨μ11, e12, e4⟩ := zinv e4
          have k13 : zZ zK1 X (zT0 Sh top) μ11 74 [(0, .ref o_), (1, .int v_b), (2, .int (bI v_goes_3)), (3, .int v_p_4)] [] := by
            refine z_aload_n fx (k := 0) (i := 0) rfl rfl d12_ages_74 ?_
            refine z_iload_n fx (k := 3) (i := 3) rfl rfl d12_ages_75 ?_
            refine z_bipush fx (v := 10) bp10 d12_ages_76 ?_
            obtain ⟨t12, e14, e4⟩ := zinv e4
            refine z_cVr fx (c12_portOf (zLo X) (zDo X) Sh top hO o_ v_p_4 10 μ11 _ ho e14) mv12_portOf ml12_334 ho rfl rfl rfl rfl d12_ages_78 ?_
            refine z_if_ne fx d12_ages_81 (fun c15 => ?_) (fun c15 => ?_)
            · replace e4 := zif_f c15 e4
              refine z_aload_n fx (k := 0) (i := 0) rfl rfl d12_ages_87 ?_
              refine z_iload_n fx (k := 3) (i := 3) rfl rfl d12_ages_88 ?_
              refine z_bipush fx (v := 16) bp16 d12_ages_89 ?_
              refine z_aload_n fx (k := 0) (i := 0) rfl rfl d12_ages_91 ?_
              refine z_iload_n fx (k := 3) (i := 3) rfl rfl d12_ages_92 ?_
              refine z_bipush fx (v := 16) bp16 d12_ages_93 ?_
              obtain ⟨t13, e16, e4⟩ := zinv e4
              refine z_cVr fx (c12_portOf (zLo X) (zDo X) Sh top hO o_ v_p_4 16 μ11 _ ho e16) mv12_portOf ml12_334 ho rfl rfl rfl rfl d12_ages_95 ?_
              refine z_iconst fx (v := 1) ic1 d12_ages_98 ?_
              refine z_isub fx d12_ages_99 ?_
              obtain ⟨μ14, e17, e4⟩ := zinv e4
              refine z_cVv fx (c12_sets (zLo X) (zDo X) Sh top hO o_ v_p_4 16 (t13 - 1) μ11 _ ho e17) mv12_sets ml12_344 ho rfl rfl rfl rfl d12_ages_100 ?_
              refine z_aload_n fx (k := 0) (i := 0) rfl rfl d12_ages_103 ?_
              refine z_iload_n fx (k := 3) (i := 3) rfl rfl d12_ages_104 ?_
              refine z_bipush fx (v := 16) bp16 d12_ages_105 ?_
              obtain ⟨t15, e18, e4⟩ := zinv e4
              refine z_cVr fx (c12_portOf (zLo X) (zDo X) Sh top hO o_ v_p_4 16 μ14 _ ho e18) mv12_portOf ml12_334 ho rfl rfl rfl rfl d12_ages_107 ?_
              refine z_if_le fx d12_ages_110 (fun c19 => ?_) (fun c19 => ?_)
              · replace e4 := zif_f c19 e4
                refine z_aload_n fx (k := 0) (i := 0) rfl rfl d12_ages_116 ?_
                refine z_iload_n fx (k := 3) (i := 3) rfl rfl d12_ages_117 ?_
                refine z_bipush fx (v := 10) bp10 d12_ages_118 ?_
                refine z_iconst fx (v := 0) ic0 d12_ages_120 ?_
                obtain ⟨μ16, e20, e4⟩ := zinv e4
                refine z_cVv fx (c12_sets (zLo X) (zDo X) Sh top hO o_ v_p_4 10 0 μ14 _ ho e20) mv12_sets ml12_344 ho rfl rfl rfl rfl d12_ages_121 ?_
                refine z_iconst fx (v := 1) ic1 d12_ages_124 ?_
                refine z_top (show Value.int 1 = .int (bI true) from rfl) ?_
                refine z_istore_n fx (k := 2) (i := 2) rfl rfl (lv' := [(0, .ref o_), (1, .int v_b), (2, .int (bI true)), (3, .int v_p_4)]) rfl rfl d12_ages_125 ?_
                obtain ⟨v_p_17, e21, e4⟩ := zinv e4
                replace e21 := Option.some.inj e21
                refine z_iinc fx (i := 3) (x := v_p_4) (v := v_p_17) rfl (by rw [in1]; exact e21) rfl (lv' := [(0, .ref o_), (1, .int v_b), (2, .int (bI true)), (3, .int v_p_17)]) rfl rfl d12_ages_126 ?_
                cases e4
                refine z_goto fx d12_ages_129 ?_
                exact ih8 _ _ _ hl5
              · replace e4 := zif_t c19 e4
                refine z_goto fx d12_ages_113 ?_
                obtain ⟨v_p_18, e22, e4⟩ := zinv e4
                replace e22 := Option.some.inj e22
                refine z_iinc fx (i := 3) (x := v_p_4) (v := v_p_18) rfl (by rw [in1]; exact e22) rfl (lv' := [(0, .ref o_), (1, .int v_b), (2, .int (bI v_goes_3)), (3, .int v_p_18)]) rfl rfl d12_ages_126 ?_
                cases e4
                refine z_goto fx d12_ages_129 ?_
                exact ih8 _ _ _ hl5
            · replace e4 := zif_t c15 e4
              refine z_goto fx d12_ages_84 ?_
              obtain ⟨v_p_19, e23, e4⟩ := zinv e4
              replace e23 := Option.some.inj e23
              refine z_iinc fx (i := 3) (x := v_p_4) (v := v_p_19) rfl (by rw [in1]; exact e23) rfl (lv' := [(0, .ref o_), (1, .int v_b), (2, .int (bI v_goes_3)), (3, .int v_p_19)]) rfl rfl d12_ages_126 ?_
              cases e4
              refine z_goto fx d12_ages_129 ?_
              exact ih8 _ _ _ hl5
          clear e4
          refine z_aload_n fx (k := 0) (i := 0) rfl rfl d12_ages_51 ?_
          refine z_iload_n fx (k := 3) (i := 3) rfl rfl d12_ages_52 ?_
          refine z_iconst fx (v := 3) ic3 d12_ages_53 ?_
          obtain ⟨t20, e24, e12⟩ := zinv e12
          refine z_cVr fx (c12_portOf (zLo X) (zDo X) Sh top hO o_ v_p_4 3 μ5 _ ho e24) mv12_portOf ml12_334 ho rfl rfl rfl rfl d12_ages_54 ?_
          refine z_if_le fx d12_ages_57 (fun c25 => ?_) (fun c25 => ?_)
          · replace e12 := zif_f c25 e12
            cases e12
            exact k13
          · replace e12 := zif_t c25 e12
            refine z_aload_n fx (k := 0) (i := 0) rfl rfl d12_ages_60 ?_
            refine z_iload_n fx (k := 3) (i := 3) rfl rfl d12_ages_61 ?_
            refine z_iconst fx (v := 3) ic3 d12_ages_62 ?_
            refine z_aload_n fx (k := 0) (i := 0) rfl rfl d12_ages_63 ?_
            refine z_iload_n fx (k := 3) (i := 3) rfl rfl d12_ages_64 ?_
            refine z_iconst fx (v := 3) ic3 d12_ages_65 ?_
            obtain ⟨t21, e26, e12⟩ := zinv e12
            refine z_cVr fx (c12_portOf (zLo X) (zDo X) Sh top hO o_ v_p_4 3 μ5 _ ho e26) mv12_portOf ml12_334 ho rfl rfl rfl rfl d12_ages_66 ?_
            refine z_iconst fx (v := 1) ic1 d12_ages_69 ?_
            refine z_isub fx d12_ages_70 ?_
            obtain ⟨μ22, e27, e12⟩ := zinv e12
            refine z_cVv fx (c12_sets (zLo X) (zDo X) Sh top hO o_ v_p_4 3 (t21 - 1) μ5 _ ho e27) mv12_sets ml12_344 ho rfl rfl rfl rfl d12_ages_71 ?_
            cases e12
            exact k13
    exact klr6 _ _ _ _ e30
  clear h
  refine z_aload_n fx (k := 0) (i := 0) rfl rfl d12_ages_2 ?_
  refine z_iload_n fx (k := 1) (i := 1) rfl rfl d12_ages_3 ?_
  refine z_bipush fx (v := 7) bp7 d12_ages_4 ?_
  obtain ⟨t24, e31, e1⟩ := zinv e1
  refine z_cVr fx (c12_of (zLo X) (zDo X) Sh top hO o_ v_b 7 μ _ ho e31) mv12_of ml12_319 ho rfl rfl rfl rfl d12_ages_6 ?_
  refine z_if_le fx d12_ages_9 (fun c32 => ?_) (fun c32 => ?_)
  · replace e1 := zif_f c32 e1
    cases e1
    exact k2
  · replace e1 := zif_t c32 e1
    refine z_aload_n fx (k := 0) (i := 0) rfl rfl d12_ages_12 ?_
    refine z_iload_n fx (k := 1) (i := 1) rfl rfl d12_ages_13 ?_
    refine z_bipush fx (v := 7) bp7 d12_ages_14 ?_
    obtain ⟨t25, e33, e1⟩ := zinv e1
    refine z_cSr fx (c12_bridgeAt (zLo X) (zDo X) Sh top hO v_b 7 μ _  e33) ms12_bridgeAt ml12_307 rfl rfl rfl rfl d12_ages_16 ?_
    refine z_aload_n fx (k := 0) (i := 0) rfl rfl d12_ages_19 ?_
    refine z_iload_n fx (k := 1) (i := 1) rfl rfl d12_ages_20 ?_
    refine z_bipush fx (v := 7) bp7 d12_ages_21 ?_
    obtain ⟨t26, e34, e1⟩ := zinv e1
    refine z_cVr fx (c12_of (zLo X) (zDo X) Sh top hO o_ v_b 7 μ _ ho e34) mv12_of ml12_319 ho rfl rfl rfl rfl d12_ages_23 ?_
    refine z_iconst fx (v := 1) ic1 d12_ages_26 ?_
    refine z_isub fx d12_ages_27 ?_
    obtain ⟨μ27, e35, e1⟩ := zinv e1
    refine z_cVv fx (c12_puts (zLo X) (zDo X) Sh top hO o_ t25 (t26 - 1) μ _ ho e35) mv12_puts ml12_310 ho rfl rfl rfl rfl d12_ages_28 ?_
    cases e1
    exact k2
theorem d12_waits_0 : zd cX12_waits 0 (.iload_n 1) 1 1 := by decide +kernel
theorem d12_waits_1 : zd cX12_waits 1 (.iconst 0) 1 2 := by decide +kernel
theorem d12_waits_2 : zd cX12_waits 2 (.invokestatic 325) 3 5 := by decide +kernel
theorem d12_waits_5 : zd cX12_waits 5 (.istore_n 2) 1 6 := by decide +kernel
theorem d12_waits_6 : zd cX12_waits 6 (.iload_n 2) 1 7 := by decide +kernel
theorem d12_waits_7 : zd cX12_waits 7 (.iload_n 1) 1 8 := by decide +kernel
theorem d12_waits_8 : zd cX12_waits 8 (.aload_n 0) 1 9 := by decide +kernel
theorem d12_waits_9 : zd cX12_waits 9 (.getfield 35) 3 12 := by decide +kernel
theorem d12_waits_12 : zd cX12_waits 12 (.iload_n 1) 1 13 := by decide +kernel
theorem d12_waits_13 : zd cX12_waits 13 (.iaload) 1 14 := by decide +kernel
theorem d12_waits_14 : zd cX12_waits 14 (.invokestatic 325) 3 17 := by decide +kernel
theorem d12_waits_17 : zj cX12_waits 17 (.if_icmp .ge 107) 107 20 124 := by decide +kernel
theorem d12_waits_20 : zd cX12_waits 20 (.aload_n 0) 1 21 := by decide +kernel
theorem d12_waits_21 : zd cX12_waits 21 (.iload_n 2) 1 22 := by decide +kernel
theorem d12_waits_22 : zd cX12_waits 22 (.iconst 0) 1 23 := by decide +kernel
theorem d12_waits_23 : zd cX12_waits 23 (.invokevirtual 334) 3 26 := by decide +kernel
theorem d12_waits_26 : zd cX12_waits 26 (.istore_n 3) 1 27 := by decide +kernel
theorem d12_waits_27 : zd cX12_waits 27 (.iload_n 3) 1 28 := by decide +kernel
theorem d12_waits_28 : zd cX12_waits 28 (.iconst 1) 1 29 := by decide +kernel
theorem d12_waits_29 : zj cX12_waits 29 (.if_icmp .eq 8) 8 32 37 := by decide +kernel
theorem d12_waits_32 : zd cX12_waits 32 (.iload_n 3) 1 33 := by decide +kernel
theorem d12_waits_33 : zd cX12_waits 33 (.iconst 2) 1 34 := by decide +kernel
theorem d12_waits_34 : zj cX12_waits 34 (.if_icmp .ne 84) 84 37 118 := by decide +kernel
theorem d12_waits_37 : zd cX12_waits 37 (.aload_n 0) 1 38 := by decide +kernel
theorem d12_waits_38 : zd cX12_waits 38 (.iload_n 2) 1 39 := by decide +kernel
theorem d12_waits_39 : zd cX12_waits 39 (.iconst 1) 1 40 := by decide +kernel
theorem d12_waits_40 : zd cX12_waits 40 (.invokevirtual 334) 3 43 := by decide +kernel
theorem d12_waits_43 : zd cX12_waits 43 (.iconst 2) 1 44 := by decide +kernel
theorem d12_waits_44 : zj cX12_waits 44 (.if_icmp .eq 74) 74 47 118 := by decide +kernel
theorem d12_waits_47 : zd cX12_waits 47 (.aload_n 0) 1 48 := by decide +kernel
theorem d12_waits_48 : zd cX12_waits 48 (.iload_n 2) 1 49 := by decide +kernel
theorem d12_waits_49 : zd cX12_waits 49 (.iconst 2) 1 50 := by decide +kernel
theorem d12_waits_50 : zd cX12_waits 50 (.invokevirtual 334) 3 53 := by decide +kernel
theorem d12_waits_53 : zj cX12_waits 53 (.ifCond .ne 6) 6 56 59 := by decide +kernel
theorem d12_waits_56 : zj cX12_waits 56 (.goto 62) 62 59 118 := by decide +kernel
theorem d12_waits_59 : zd cX12_waits 59 (.aload_n 0) 1 60 := by decide +kernel
theorem d12_waits_60 : zd cX12_waits 60 (.iload_n 2) 1 61 := by decide +kernel
theorem d12_waits_61 : zd cX12_waits 61 (.iconst 2) 1 62 := by decide +kernel
theorem d12_waits_62 : zd cX12_waits 62 (.aload_n 0) 1 63 := by decide +kernel
theorem d12_waits_63 : zd cX12_waits 63 (.iload_n 2) 1 64 := by decide +kernel
theorem d12_waits_64 : zd cX12_waits 64 (.iconst 2) 1 65 := by decide +kernel
theorem d12_waits_65 : zd cX12_waits 65 (.invokevirtual 334) 3 68 := by decide +kernel
theorem d12_waits_68 : zd cX12_waits 68 (.iconst 1) 1 69 := by decide +kernel
theorem d12_waits_69 : zd cX12_waits 69 (.isub) 1 70 := by decide +kernel
theorem d12_waits_70 : zd cX12_waits 70 (.invokevirtual 344) 3 73 := by decide +kernel
theorem d12_waits_73 : zd cX12_waits 73 (.aload_n 0) 1 74 := by decide +kernel
theorem d12_waits_74 : zd cX12_waits 74 (.iload_n 2) 1 75 := by decide +kernel
theorem d12_waits_75 : zd cX12_waits 75 (.iconst 2) 1 76 := by decide +kernel
theorem d12_waits_76 : zd cX12_waits 76 (.invokevirtual 334) 3 79 := by decide +kernel
theorem d12_waits_79 : zj cX12_waits 79 (.ifCond .le 6) 6 82 85 := by decide +kernel
theorem d12_waits_82 : zj cX12_waits 82 (.goto 36) 36 85 118 := by decide +kernel
theorem d12_waits_85 : zd cX12_waits 85 (.aload_n 0) 1 86 := by decide +kernel
theorem d12_waits_86 : zd cX12_waits 86 (.iload_n 2) 1 87 := by decide +kernel
theorem d12_waits_87 : zd cX12_waits 87 (.iconst 1) 1 88 := by decide +kernel
theorem d12_waits_88 : zd cX12_waits 88 (.invokevirtual 334) 3 91 := by decide +kernel
theorem d12_waits_91 : zj cX12_waits 91 (.ifCond .ne 22) 22 94 113 := by decide +kernel
theorem d12_waits_94 : zd cX12_waits 94 (.aload_n 0) 1 95 := by decide +kernel
theorem d12_waits_95 : zd cX12_waits 95 (.iload_n 2) 1 96 := by decide +kernel
theorem d12_waits_96 : zd cX12_waits 96 (.iconst 1) 1 97 := by decide +kernel
theorem d12_waits_97 : zd cX12_waits 97 (.invokevirtual 351) 3 100 := by decide +kernel
theorem d12_waits_100 : zd cX12_waits 100 (.aload_n 0) 1 101 := by decide +kernel
theorem d12_waits_101 : zd cX12_waits 101 (.iload_n 2) 1 102 := by decide +kernel
theorem d12_waits_102 : zd cX12_waits 102 (.iconst 2) 1 103 := by decide +kernel
theorem d12_waits_103 : zd cX12_waits 103 (.aload_n 0) 1 104 := by decide +kernel
theorem d12_waits_104 : zd cX12_waits 104 (.getfield 25) 3 107 := by decide +kernel
theorem d12_waits_107 : zd cX12_waits 107 (.invokevirtual 344) 3 110 := by decide +kernel
theorem d12_waits_110 : zj cX12_waits 110 (.goto 8) 8 113 118 := by decide +kernel
theorem d12_waits_113 : zd cX12_waits 113 (.aload_n 0) 1 114 := by decide +kernel
theorem d12_waits_114 : zd cX12_waits 114 (.iload_n 2) 1 115 := by decide +kernel
theorem d12_waits_115 : zd cX12_waits 115 (.invokevirtual 416) 3 118 := by decide +kernel
theorem d12_waits_118 : zd cX12_waits 118 (.iinc 2 1) 3 121 := by decide +kernel
theorem d12_waits_121 : zj cX12_waits 121 (.goto (-115)) (-115) 124 6 := by decide +kernel
theorem d12_waits_124 : zd cX12_waits 124 (.return_) 1 125 := by decide +kernel
set_option maxHeartbeats 4000000 in
set_option maxRecDepth 20000 in
theorem c12_waits (l : Launch) (D : zDt) (Sh : zSh) (top : Nat) (hO : zOK Sh) (o_ : Nat) (v_b : Int32) (μ : zM) (μ_ : zM) (ho : (Sh o_).1 = 19) (h : f12_waits o_ v_b μ = some μ_) : zMet l D zK1 yX12_waits cX12_waits 4 none (zrm 4 90) [.ref o_, .int v_b] Sh top μ none Sh top μ_ 0 0 := by
  refine zMet_of (by decide) (Nat.le_of_ble_eq_true rfl) fun X hX1 hX2 fx fin => ?_
  subst hX1; subst hX2
  replace fx : zFix X cX12_waits RX12 (zrm 4 90) 4 := fx
  show zZ zK1 X (zT0 Sh top) μ 0 [(0, .ref o_), (1, .int v_b)] []
  unfold f12_waits at h
  refine z_iload_n fx (k := 1) (i := 1) rfl rfl d12_waits_0 ?_
  refine z_iconst fx (v := 0) ic0 d12_waits_1 ?_
  obtain ⟨t1, e1, h⟩ := zinv h
  refine z_cSr fx (c12_placeOf (zLo X) (zDo X) Sh top hO v_b 0 μ _  e1) ms12_placeOf ml12_325 rfl rfl rfl rfl d12_waits_2 ?_
  refine z_istore_n fx (k := 2) (i := 2) rfl rfl (lv' := [(0, .ref o_), (1, .int v_b), (2, .int t1)]) rfl rfl d12_waits_5 ?_
  obtain ⟨v_p_4, μ5, e35, h⟩ := zinv2 h
  have kx5 : zZ zK1 X (zT0 Sh top) μ5 124 [(0, .ref o_), (1, .int v_b), (2, .int v_p_4)] [] := by
    refine z_take 2 (lv' := [(0, .ref o_), (1, .int v_b)]) rfl ?_
    cases h
    exact z_return fx fin d12_waits_124
  clear h
  have klr4 : ∀ (n : Nat) (v_p_2 : Int32) (μ3 : zM), zloop (fun s => f12_waits_L1 o_ v_b s.1 s.2) n (v_p_2, μ3) = some (v_p_4, μ5) → zZ zK1 X (zT0 Sh top) μ3 6 [(0, .ref o_), (1, .int v_b), (2, .int v_p_2)] [] := by
    intro n
    induction n with
    | zero => intro v_p_2 μ3 hl3; cases hl3
    | succ n ih6 =>
      intro v_p_2 μ3 hl3
      obtain ⟨y, e2, hl3⟩ := zloop_inv hl3
      replace e2 : f12_waits_L1 o_ v_b v_p_2 μ3 = some y := e2
      unfold f12_waits_L1 at e2
      refine z_iload_n fx (k := 2) (i := 2) rfl rfl d12_waits_6 ?_
      refine z_iload_n fx (k := 1) (i := 1) rfl rfl d12_waits_7 ?_
      refine z_aload_n fx (k := 0) (i := 0) rfl rfl d12_waits_8 ?_
      refine z_getO fx 12 8 3 ho lf12_35 fk12_8 d12_waits_9 ?_
      refine z_iload_n fx (k := 1) (i := 1) rfl rfl d12_waits_12 ?_
      obtain ⟨t6, e7, e2⟩ := zinv e2
      refine z_iald fx (ok12_8 hO ho) e7 d12_waits_13 ?_
      obtain ⟨t7, e8, e2⟩ := zinv e2
      refine z_cSr fx (c12_placeOf (zLo X) (zDo X) Sh top hO v_b t6 μ3 _  e8) ms12_placeOf ml12_325 rfl rfl rfl rfl d12_waits_14 ?_
      refine z_icmp_ge fx d12_waits_17 (fun c9 => ?_) (fun c9 => ?_)
      · replace e2 := zif_f c9 e2
        cases e2
        cases hl3
        exact kx5
      · replace e2 := zif_t c9 e2
        refine z_aload_n fx (k := 0) (i := 0) rfl rfl d12_waits_20 ?_
        refine z_iload_n fx (k := 2) (i := 2) rfl rfl d12_waits_21 ?_
        refine z_iconst fx (v := 0) ic0 d12_waits_22 ?_
        obtain ⟨t8, e10, e2⟩ := zinv e2
        refine z_cVr fx (c12_portOf (zLo X) (zDo X) Sh top hO o_ v_p_2 0 μ3 _ ho e10) mv12_portOf ml12_334 ho rfl rfl rfl rfl d12_waits_23 ?_
        refine z_istore_n fx (k := 3) (i := 3) rfl rfl (lv' := [(0, .ref o_), (1, .int v_b), (2, .int v_p_2), (3, .int t8)]) rfl rfl d12_waits_26 ?_
        obtain ⟨b9, e12, e2⟩ := zinv e2
        have kt11 : b9 = true → zZ zK1 X (zT0 Sh top) μ3 118 [(0, .ref o_), (1, .int v_b), (2, .int v_p_2), (3, .int t8)] [] := by
          intro hc
          replace e2 := zif_t hc e2
          refine z_take 3 (lv' := [(0, .ref o_), (1, .int v_b), (2, .int v_p_2)]) rfl ?_
          obtain ⟨v_p_10, e13, e2⟩ := zinv e2
          replace e13 := Option.some.inj e13
          refine z_iinc fx (i := 2) (x := v_p_2) (v := v_p_10) rfl (by rw [in1]; exact e13) rfl (lv' := [(0, .ref o_), (1, .int v_b), (2, .int v_p_10)]) rfl rfl d12_waits_118 ?_
          cases e2
          refine z_goto fx d12_waits_121 ?_
          exact ih6 _ _ hl3
        have kf11 : b9 = false → zZ zK1 X (zT0 Sh top) μ3 59 [(0, .ref o_), (1, .int v_b), (2, .int v_p_2), (3, .int t8)] [] := by
          intro hc
          replace e2 := zif_f hc e2
          refine z_aload_n fx (k := 0) (i := 0) rfl rfl d12_waits_59 ?_
          refine z_iload_n fx (k := 2) (i := 2) rfl rfl d12_waits_60 ?_
          refine z_iconst fx (v := 2) ic2 d12_waits_61 ?_
          refine z_aload_n fx (k := 0) (i := 0) rfl rfl d12_waits_62 ?_
          refine z_iload_n fx (k := 2) (i := 2) rfl rfl d12_waits_63 ?_
          refine z_iconst fx (v := 2) ic2 d12_waits_64 ?_
          obtain ⟨t11, e14, e2⟩ := zinv e2
          refine z_cVr fx (c12_portOf (zLo X) (zDo X) Sh top hO o_ v_p_2 2 μ3 _ ho e14) mv12_portOf ml12_334 ho rfl rfl rfl rfl d12_waits_65 ?_
          refine z_iconst fx (v := 1) ic1 d12_waits_68 ?_
          refine z_isub fx d12_waits_69 ?_
          obtain ⟨μ12, e15, e2⟩ := zinv e2
          refine z_cVv fx (c12_sets (zLo X) (zDo X) Sh top hO o_ v_p_2 2 (t11 - 1) μ3 _ ho e15) mv12_sets ml12_344 ho rfl rfl rfl rfl d12_waits_70 ?_
          refine z_aload_n fx (k := 0) (i := 0) rfl rfl d12_waits_73 ?_
          refine z_iload_n fx (k := 2) (i := 2) rfl rfl d12_waits_74 ?_
          refine z_iconst fx (v := 2) ic2 d12_waits_75 ?_
          obtain ⟨t13, e16, e2⟩ := zinv e2
          refine z_cVr fx (c12_portOf (zLo X) (zDo X) Sh top hO o_ v_p_2 2 μ12 _ ho e16) mv12_portOf ml12_334 ho rfl rfl rfl rfl d12_waits_76 ?_
          refine z_if_le fx d12_waits_79 (fun c17 => ?_) (fun c17 => ?_)
          · replace e2 := zif_f c17 e2
            refine z_aload_n fx (k := 0) (i := 0) rfl rfl d12_waits_85 ?_
            refine z_iload_n fx (k := 2) (i := 2) rfl rfl d12_waits_86 ?_
            refine z_iconst fx (v := 1) ic1 d12_waits_87 ?_
            obtain ⟨t14, e18, e2⟩ := zinv e2
            refine z_cVr fx (c12_portOf (zLo X) (zDo X) Sh top hO o_ v_p_2 1 μ12 _ ho e18) mv12_portOf ml12_334 ho rfl rfl rfl rfl d12_waits_88 ?_
            refine z_if_ne fx d12_waits_91 (fun c19 => ?_) (fun c19 => ?_)
            · replace e2 := zif_f c19 e2
              refine z_aload_n fx (k := 0) (i := 0) rfl rfl d12_waits_113 ?_
              refine z_iload_n fx (k := 2) (i := 2) rfl rfl d12_waits_114 ?_
              obtain ⟨μ15, e20, e2⟩ := zinv e2
              refine z_cVv fx (c12_opens (zLo X) (zDo X) Sh top hO o_ v_p_2 μ12 _ ho e20) mv12_opens ml12_416 ho rfl rfl rfl rfl d12_waits_115 ?_
              refine z_take 3 (lv' := [(0, .ref o_), (1, .int v_b), (2, .int v_p_2)]) rfl ?_
              obtain ⟨v_p_16, e21, e2⟩ := zinv e2
              replace e21 := Option.some.inj e21
              refine z_iinc fx (i := 2) (x := v_p_2) (v := v_p_16) rfl (by rw [in1]; exact e21) rfl (lv' := [(0, .ref o_), (1, .int v_b), (2, .int v_p_16)]) rfl rfl d12_waits_118 ?_
              cases e2
              refine z_goto fx d12_waits_121 ?_
              exact ih6 _ _ hl3
            · replace e2 := zif_t c19 e2
              refine z_aload_n fx (k := 0) (i := 0) rfl rfl d12_waits_94 ?_
              refine z_iload_n fx (k := 2) (i := 2) rfl rfl d12_waits_95 ?_
              refine z_iconst fx (v := 1) ic1 d12_waits_96 ?_
              obtain ⟨μ17, e22, e2⟩ := zinv e2
              refine z_cVv fx (c12_isState (zLo X) (zDo X) Sh top hO o_ v_p_2 1 μ12 _ ho e22) mv12_isState ml12_351 ho rfl rfl rfl rfl d12_waits_97 ?_
              refine z_aload_n fx (k := 0) (i := 0) rfl rfl d12_waits_100 ?_
              refine z_iload_n fx (k := 2) (i := 2) rfl rfl d12_waits_101 ?_
              refine z_iconst fx (v := 2) ic2 d12_waits_102 ?_
              refine z_aload_n fx (k := 0) (i := 0) rfl rfl d12_waits_103 ?_
              refine z_getI fx 12 5 1205 ho lf12_25 ⟨fk12_5, rfl⟩ d12_waits_104 ?_
              obtain ⟨μ18, e23, e2⟩ := zinv e2
              refine z_cVv fx (c12_sets (zLo X) (zDo X) Sh top hO o_ v_p_2 2 (gF μ17 1205 o_) μ17 _ ho e23) mv12_sets ml12_344 ho rfl rfl rfl rfl d12_waits_107 ?_
              refine z_take 3 (lv' := [(0, .ref o_), (1, .int v_b), (2, .int v_p_2)]) rfl ?_
              refine z_goto fx d12_waits_110 ?_
              obtain ⟨v_p_19, e24, e2⟩ := zinv e2
              replace e24 := Option.some.inj e24
              refine z_iinc fx (i := 2) (x := v_p_2) (v := v_p_19) rfl (by rw [in1]; exact e24) rfl (lv' := [(0, .ref o_), (1, .int v_b), (2, .int v_p_19)]) rfl rfl d12_waits_118 ?_
              cases e2
              refine z_goto fx d12_waits_121 ?_
              exact ih6 _ _ hl3
          · replace e2 := zif_t c17 e2
            refine z_take 3 (lv' := [(0, .ref o_), (1, .int v_b), (2, .int v_p_2)]) rfl ?_
            refine z_goto fx d12_waits_82 ?_
            obtain ⟨v_p_20, e25, e2⟩ := zinv e2
            replace e25 := Option.some.inj e25
            refine z_iinc fx (i := 2) (x := v_p_2) (v := v_p_20) rfl (by rw [in1]; exact e25) rfl (lv' := [(0, .ref o_), (1, .int v_b), (2, .int v_p_20)]) rfl rfl d12_waits_118 ?_
            cases e2
            refine z_goto fx d12_waits_121 ?_
            exact ih6 _ _ hl3
        clear e2
        obtain ⟨b21, e26, e12⟩ := zinv e12
        have kf27 : b21 = false → zZ zK1 X (zT0 Sh top) μ3 47 [(0, .ref o_), (1, .int v_b), (2, .int v_p_2), (3, .int t8)] [] := by
          intro hc
          replace e12 := zif_f hc e12
          refine z_aload_n fx (k := 0) (i := 0) rfl rfl d12_waits_47 ?_
          refine z_iload_n fx (k := 2) (i := 2) rfl rfl d12_waits_48 ?_
          refine z_iconst fx (v := 2) ic2 d12_waits_49 ?_
          obtain ⟨t22, e28, e12⟩ := zinv e12
          refine z_cVr fx (c12_portOf (zLo X) (zDo X) Sh top hO o_ v_p_2 2 μ3 _ ho e28) mv12_portOf ml12_334 ho rfl rfl rfl rfl d12_waits_50 ?_
          cases e12
          refine z_if_ne fx d12_waits_53 (fun c29 => ?_) (fun c29 => ?_)
          · exact kf11 c29
          · refine z_goto fx d12_waits_56 ?_
            exact kt11 c29
        have kt27 : b21 = true → zZ zK1 X (zT0 Sh top) μ3 118 [(0, .ref o_), (1, .int v_b), (2, .int v_p_2), (3, .int t8)] [] := by
          intro hc
          replace e12 := zif_t hc e12
          cases e12
          exact kt11 rfl
        clear e12
        have kf30 : ((!(ceq t8 1)) && (!(ceq t8 2))) = false → zZ zK1 X (zT0 Sh top) μ3 37 [(0, .ref o_), (1, .int v_b), (2, .int v_p_2), (3, .int t8)] [] := by
          intro hc
          replace e26 := zif_f hc e26
          refine z_aload_n fx (k := 0) (i := 0) rfl rfl d12_waits_37 ?_
          refine z_iload_n fx (k := 2) (i := 2) rfl rfl d12_waits_38 ?_
          refine z_iconst fx (v := 1) ic1 d12_waits_39 ?_
          obtain ⟨t23, e31, e26⟩ := zinv e26
          refine z_cVr fx (c12_portOf (zLo X) (zDo X) Sh top hO o_ v_p_2 1 μ3 _ ho e31) mv12_portOf ml12_334 ho rfl rfl rfl rfl d12_waits_40 ?_
          refine z_iconst fx (v := 2) ic2 d12_waits_43 ?_
          cases e26
          refine z_icmp_eq fx d12_waits_44 (fun c32 => ?_) (fun c32 => ?_)
          · exact kt27 c32
          · exact kf27 c32
        have kt30 : ((!(ceq t8 1)) && (!(ceq t8 2))) = true → zZ zK1 X (zT0 Sh top) μ3 118 [(0, .ref o_), (1, .int v_b), (2, .int v_p_2), (3, .int t8)] [] := by
          intro hc
          replace e26 := zif_t hc e26
          cases e26
          exact kt27 rfl
        refine z_iload_n fx (k := 3) (i := 3) rfl rfl d12_waits_27 ?_
        refine z_iconst fx (v := 1) ic1 d12_waits_28 ?_
        refine z_icmp_eq fx d12_waits_29 (fun c33 => ?_) (fun c33 => ?_)
        · exact kf30 (by simp [c33])
        · refine z_iload_n fx (k := 3) (i := 3) rfl rfl d12_waits_32 ?_
          refine z_iconst fx (v := 2) ic2 d12_waits_33 ?_
          refine z_icmp_ne fx d12_waits_34 (fun c34 => ?_) (fun c34 => ?_)
          · exact kt30 (by simp [c33, c34])
          · exact kf30 (by simp [c33, c34])
  exact klr4 _ _ _ e35
theorem d12_forgets_0 : zd cX12_forgets 0 (.iconst 0) 1 1 := by decide +kernel
theorem d12_forgets_1 : zd cX12_forgets 1 (.istore_n 2) 1 2 := by decide +kernel
theorem d12_forgets_2 : zd cX12_forgets 2 (.iload_n 2) 1 3 := by decide +kernel
theorem d12_forgets_3 : zd cX12_forgets 3 (.aload_n 0) 1 4 := by decide +kernel
theorem d12_forgets_4 : zd cX12_forgets 4 (.getfield 19) 3 7 := by decide +kernel
theorem d12_forgets_7 : zj cX12_forgets 7 (.if_icmp .ge 85) 85 10 92 := by decide +kernel
theorem d12_forgets_10 : zd cX12_forgets 10 (.iload_n 1) 1 11 := by decide +kernel
theorem d12_forgets_11 : zd cX12_forgets 11 (.iload_n 2) 1 12 := by decide +kernel
theorem d12_forgets_12 : zd cX12_forgets 12 (.invokestatic 348) 3 15 := by decide +kernel
theorem d12_forgets_15 : zd cX12_forgets 15 (.istore_n 3) 1 16 := by decide +kernel
theorem d12_forgets_16 : zd cX12_forgets 16 (.aload_n 0) 1 17 := by decide +kernel
theorem d12_forgets_17 : zd cX12_forgets 17 (.iload_n 3) 1 18 := by decide +kernel
theorem d12_forgets_18 : zd cX12_forgets 18 (.invokevirtual 316) 3 21 := by decide +kernel
theorem d12_forgets_21 : zd cX12_forgets 21 (.iconst (-1)) 1 22 := by decide +kernel
theorem d12_forgets_22 : zj cX12_forgets 22 (.if_icmp .ne 6) 6 25 28 := by decide +kernel
theorem d12_forgets_25 : zj cX12_forgets 25 (.goto 61) 61 28 86 := by decide +kernel
theorem d12_forgets_28 : zd cX12_forgets 28 (.aload_n 0) 1 29 := by decide +kernel
theorem d12_forgets_29 : zd cX12_forgets 29 (.iload_n 3) 1 30 := by decide +kernel
theorem d12_forgets_30 : zd cX12_forgets 30 (.iconst 1) 1 31 := by decide +kernel
theorem d12_forgets_31 : zd cX12_forgets 31 (.iadd) 1 32 := by decide +kernel
theorem d12_forgets_32 : zd cX12_forgets 32 (.aload_n 0) 1 33 := by decide +kernel
theorem d12_forgets_33 : zd cX12_forgets 33 (.iload_n 3) 1 34 := by decide +kernel
theorem d12_forgets_34 : zd cX12_forgets 34 (.iconst 1) 1 35 := by decide +kernel
theorem d12_forgets_35 : zd cX12_forgets 35 (.iadd) 1 36 := by decide +kernel
theorem d12_forgets_36 : zd cX12_forgets 36 (.invokevirtual 316) 3 39 := by decide +kernel
theorem d12_forgets_39 : zd cX12_forgets 39 (.iconst 1) 1 40 := by decide +kernel
theorem d12_forgets_40 : zd cX12_forgets 40 (.iadd) 1 41 := by decide +kernel
theorem d12_forgets_41 : zd cX12_forgets 41 (.invokevirtual 310) 3 44 := by decide +kernel
theorem d12_forgets_44 : zd cX12_forgets 44 (.aload_n 0) 1 45 := by decide +kernel
theorem d12_forgets_45 : zd cX12_forgets 45 (.iload_n 3) 1 46 := by decide +kernel
theorem d12_forgets_46 : zd cX12_forgets 46 (.iconst 1) 1 47 := by decide +kernel
theorem d12_forgets_47 : zd cX12_forgets 47 (.iadd) 1 48 := by decide +kernel
theorem d12_forgets_48 : zd cX12_forgets 48 (.invokevirtual 316) 3 51 := by decide +kernel
theorem d12_forgets_51 : zd cX12_forgets 51 (.bipush 30) 2 53 := by decide +kernel
theorem d12_forgets_53 : zj cX12_forgets 53 (.if_icmp .ge 27) 27 56 80 := by decide +kernel
theorem d12_forgets_56 : zd cX12_forgets 56 (.aload_n 0) 1 57 := by decide +kernel
theorem d12_forgets_57 : zd cX12_forgets 57 (.iload_n 1) 1 58 := by decide +kernel
theorem d12_forgets_58 : zd cX12_forgets 58 (.bipush 7) 2 60 := by decide +kernel
theorem d12_forgets_60 : zd cX12_forgets 60 (.invokevirtual 319) 3 63 := by decide +kernel
theorem d12_forgets_63 : zj cX12_forgets 63 (.ifCond .eq 23) 23 66 86 := by decide +kernel
theorem d12_forgets_66 : zd cX12_forgets 66 (.aload_n 0) 1 67 := by decide +kernel
theorem d12_forgets_67 : zd cX12_forgets 67 (.iload_n 3) 1 68 := by decide +kernel
theorem d12_forgets_68 : zd cX12_forgets 68 (.iconst 1) 1 69 := by decide +kernel
theorem d12_forgets_69 : zd cX12_forgets 69 (.iadd) 1 70 := by decide +kernel
theorem d12_forgets_70 : zd cX12_forgets 70 (.invokevirtual 316) 3 73 := by decide +kernel
theorem d12_forgets_73 : zd cX12_forgets 73 (.aload_n 0) 1 74 := by decide +kernel
theorem d12_forgets_74 : zd cX12_forgets 74 (.getfield 25) 3 77 := by decide +kernel
theorem d12_forgets_77 : zj cX12_forgets 77 (.if_icmp .le 9) 9 80 86 := by decide +kernel
theorem d12_forgets_80 : zd cX12_forgets 80 (.aload_n 0) 1 81 := by decide +kernel
theorem d12_forgets_81 : zd cX12_forgets 81 (.iload_n 3) 1 82 := by decide +kernel
theorem d12_forgets_82 : zd cX12_forgets 82 (.iconst (-1)) 1 83 := by decide +kernel
theorem d12_forgets_83 : zd cX12_forgets 83 (.invokevirtual 310) 3 86 := by decide +kernel
theorem d12_forgets_86 : zd cX12_forgets 86 (.iinc 2 1) 3 89 := by decide +kernel
theorem d12_forgets_89 : zj cX12_forgets 89 (.goto (-87)) (-87) 92 2 := by decide +kernel
theorem d12_forgets_92 : zd cX12_forgets 92 (.return_) 1 93 := by decide +kernel
set_option maxHeartbeats 4000000 in
set_option maxRecDepth 20000 in
theorem c12_forgets (l : Launch) (D : zDt) (Sh : zSh) (top : Nat) (hO : zOK Sh) (o_ : Nat) (v_b : Int32) (μ : zM) (μ_ : zM) (ho : (Sh o_).1 = 19) (h : f12_forgets o_ v_b μ = some μ_) : zMet l D zK1 yX12_forgets cX12_forgets 4 none (zrm 2 43) [.ref o_, .int v_b] Sh top μ none Sh top μ_ 0 0 := by
  refine zMet_of (by decide) (Nat.le_of_ble_eq_true rfl) fun X hX1 hX2 fx fin => ?_
  subst hX1; subst hX2
  replace fx : zFix X cX12_forgets RX12 (zrm 2 43) 4 := fx
  show zZ zK1 X (zT0 Sh top) μ 0 [(0, .ref o_), (1, .int v_b)] []
  unfold f12_forgets at h
  refine z_iconst fx (v := 0) ic0 d12_forgets_0 ?_
  refine z_istore_n fx (k := 2) (i := 2) rfl rfl (lv' := [(0, .ref o_), (1, .int v_b), (2, .int 0)]) rfl rfl d12_forgets_1 ?_
  obtain ⟨v_h_3, μ4, e28, h⟩ := zinv2 h
  have kx4 : zZ zK1 X (zT0 Sh top) μ4 92 [(0, .ref o_), (1, .int v_b), (2, .int v_h_3)] [] := by
    refine z_take 2 (lv' := [(0, .ref o_), (1, .int v_b)]) rfl ?_
    cases h
    exact z_return fx fin d12_forgets_92
  clear h
  have klr3 : ∀ (n : Nat) (v_h_1 : Int32) (μ2 : zM), zloop (fun s => f12_forgets_L1 o_ v_b s.1 s.2) n (v_h_1, μ2) = some (v_h_3, μ4) → zZ zK1 X (zT0 Sh top) μ2 2 [(0, .ref o_), (1, .int v_b), (2, .int v_h_1)] [] := by
    intro n
    induction n with
    | zero => intro v_h_1 μ2 hl2; cases hl2
    | succ n ih5 =>
      intro v_h_1 μ2 hl2
      obtain ⟨y, e1, hl2⟩ := zloop_inv hl2
      replace e1 : f12_forgets_L1 o_ v_b v_h_1 μ2 = some y := e1
      unfold f12_forgets_L1 at e1
      refine z_iload_n fx (k := 2) (i := 2) rfl rfl d12_forgets_2 ?_
      refine z_aload_n fx (k := 0) (i := 0) rfl rfl d12_forgets_3 ?_
      refine z_getI fx 12 3 1203 ho lf12_19 ⟨fk12_3, rfl⟩ d12_forgets_4 ?_
      refine z_icmp_ge fx d12_forgets_7 (fun c6 => ?_) (fun c6 => ?_)
      · replace e1 := zif_f c6 e1
        cases e1
        cases hl2
        exact kx4
      · replace e1 := zif_t c6 e1
        refine z_iload_n fx (k := 1) (i := 1) rfl rfl d12_forgets_10 ?_
        refine z_iload_n fx (k := 2) (i := 2) rfl rfl d12_forgets_11 ?_
        obtain ⟨t5, e7, e1⟩ := zinv e1
        refine z_cSr fx (c12_addressAt (zLo X) (zDo X) Sh top hO v_b v_h_1 μ2 _  e7) ms12_addressAt ml12_348 rfl rfl rfl rfl d12_forgets_12 ?_
        refine z_istore_n fx (k := 3) (i := 3) rfl rfl (lv' := [(0, .ref o_), (1, .int v_b), (2, .int v_h_1), (3, .int t5)]) rfl rfl d12_forgets_15 ?_
        refine z_aload_n fx (k := 0) (i := 0) rfl rfl d12_forgets_16 ?_
        refine z_iload_n fx (k := 3) (i := 3) rfl rfl d12_forgets_17 ?_
        obtain ⟨t6, e8, e1⟩ := zinv e1
        refine z_cVr fx (c12_its (zLo X) (zDo X) Sh top hO o_ t5 μ2 _ ho e8) mv12_its ml12_316 ho rfl rfl rfl rfl d12_forgets_18 ?_
        refine z_iconst fx (v := (-1)) icm1 d12_forgets_21 ?_
        refine z_icmp_ne fx d12_forgets_22 (fun c9 => ?_) (fun c9 => ?_)
        · replace e1 := zif_f c9 e1
          refine z_aload_n fx (k := 0) (i := 0) rfl rfl d12_forgets_28 ?_
          refine z_iload_n fx (k := 3) (i := 3) rfl rfl d12_forgets_29 ?_
          refine z_iconst fx (v := 1) ic1 d12_forgets_30 ?_
          refine z_iadd fx d12_forgets_31 ?_
          refine z_aload_n fx (k := 0) (i := 0) rfl rfl d12_forgets_32 ?_
          refine z_iload_n fx (k := 3) (i := 3) rfl rfl d12_forgets_33 ?_
          refine z_iconst fx (v := 1) ic1 d12_forgets_34 ?_
          refine z_iadd fx d12_forgets_35 ?_
          obtain ⟨t7, e10, e1⟩ := zinv e1
          refine z_cVr fx (c12_its (zLo X) (zDo X) Sh top hO o_ (t5 + 1) μ2 _ ho e10) mv12_its ml12_316 ho rfl rfl rfl rfl d12_forgets_36 ?_
          refine z_iconst fx (v := 1) ic1 d12_forgets_39 ?_
          refine z_iadd fx d12_forgets_40 ?_
          obtain ⟨μ8, e11, e1⟩ := zinv e1
          refine z_cVv fx (c12_puts (zLo X) (zDo X) Sh top hO o_ (t5 + 1) (t7 + 1) μ2 _ ho e11) mv12_puts ml12_310 ho rfl rfl rfl rfl d12_forgets_41 ?_
          obtain ⟨b9, e13, e1⟩ := zinv e1
          have kt12 : b9 = true → zZ zK1 X (zT0 Sh top) μ8 80 [(0, .ref o_), (1, .int v_b), (2, .int v_h_1), (3, .int t5)] [] := by
            intro hc
            replace e1 := zif_t hc e1
            refine z_aload_n fx (k := 0) (i := 0) rfl rfl d12_forgets_80 ?_
            refine z_iload_n fx (k := 3) (i := 3) rfl rfl d12_forgets_81 ?_
            refine z_iconst fx (v := (-1)) icm1 d12_forgets_82 ?_
            obtain ⟨μ10, e14, e1⟩ := zinv e1
            refine z_cVv fx (c12_puts (zLo X) (zDo X) Sh top hO o_ t5 (-1) μ8 _ ho e14) mv12_puts ml12_310 ho rfl rfl rfl rfl d12_forgets_83 ?_
            refine z_take 3 (lv' := [(0, .ref o_), (1, .int v_b), (2, .int v_h_1)]) rfl ?_
            obtain ⟨v_h_11, e15, e1⟩ := zinv e1
            replace e15 := Option.some.inj e15
            refine z_iinc fx (i := 2) (x := v_h_1) (v := v_h_11) rfl (by rw [in1]; exact e15) rfl (lv' := [(0, .ref o_), (1, .int v_b), (2, .int v_h_11)]) rfl rfl d12_forgets_86 ?_
            cases e1
            refine z_goto fx d12_forgets_89 ?_
            exact ih5 _ _ hl2
          have kf12 : b9 = false → zZ zK1 X (zT0 Sh top) μ8 86 [(0, .ref o_), (1, .int v_b), (2, .int v_h_1), (3, .int t5)] [] := by
            intro hc
            replace e1 := zif_f hc e1
            refine z_take 3 (lv' := [(0, .ref o_), (1, .int v_b), (2, .int v_h_1)]) rfl ?_
            obtain ⟨v_h_12, e16, e1⟩ := zinv e1
            replace e16 := Option.some.inj e16
            refine z_iinc fx (i := 2) (x := v_h_1) (v := v_h_12) rfl (by rw [in1]; exact e16) rfl (lv' := [(0, .ref o_), (1, .int v_b), (2, .int v_h_12)]) rfl rfl d12_forgets_86 ?_
            cases e1
            refine z_goto fx d12_forgets_89 ?_
            exact ih5 _ _ hl2
          clear e1
          obtain ⟨b13, e17, e13⟩ := zinv e13
          have kf18 : b13 = false → zZ zK1 X (zT0 Sh top) μ8 56 [(0, .ref o_), (1, .int v_b), (2, .int v_h_1), (3, .int t5)] [] := by
            intro hc
            replace e13 := zif_f hc e13
            obtain ⟨b14, e19, e13⟩ := zinv e13
            have kt20 : b14 = true → zZ zK1 X (zT0 Sh top) μ8 66 [(0, .ref o_), (1, .int v_b), (2, .int v_h_1), (3, .int t5)] [] := by
              intro hc
              replace e13 := zif_t hc e13
              refine z_aload_n fx (k := 0) (i := 0) rfl rfl d12_forgets_66 ?_
              refine z_iload_n fx (k := 3) (i := 3) rfl rfl d12_forgets_67 ?_
              refine z_iconst fx (v := 1) ic1 d12_forgets_68 ?_
              refine z_iadd fx d12_forgets_69 ?_
              obtain ⟨t15, e21, e13⟩ := zinv e13
              refine z_cVr fx (c12_its (zLo X) (zDo X) Sh top hO o_ (t5 + 1) μ8 _ ho e21) mv12_its ml12_316 ho rfl rfl rfl rfl d12_forgets_70 ?_
              refine z_aload_n fx (k := 0) (i := 0) rfl rfl d12_forgets_73 ?_
              refine z_getI fx 12 5 1205 ho lf12_25 ⟨fk12_5, rfl⟩ d12_forgets_74 ?_
              cases e13
              refine z_icmp_le fx d12_forgets_77 (fun c22 => ?_) (fun c22 => ?_)
              · exact kf12 c22
              · exact kt12 c22
            have kf20 : b14 = false → zZ zK1 X (zT0 Sh top) μ8 86 [(0, .ref o_), (1, .int v_b), (2, .int v_h_1), (3, .int t5)] [] := by
              intro hc
              replace e13 := zif_f hc e13
              cases e13
              exact kf12 rfl
            clear e13
            refine z_aload_n fx (k := 0) (i := 0) rfl rfl d12_forgets_56 ?_
            refine z_iload_n fx (k := 1) (i := 1) rfl rfl d12_forgets_57 ?_
            refine z_bipush fx (v := 7) bp7 d12_forgets_58 ?_
            obtain ⟨t16, e23, e19⟩ := zinv e19
            refine z_cVr fx (c12_of (zLo X) (zDo X) Sh top hO o_ v_b 7 μ8 _ ho e23) mv12_of ml12_319 ho rfl rfl rfl rfl d12_forgets_60 ?_
            cases e19
            refine z_if_eq fx d12_forgets_63 (fun c24 => ?_) (fun c24 => ?_)
            · exact kf20 (by rw [c24]; rfl)
            · exact kt20 (by rw [c24]; rfl)
          have kt18 : b13 = true → zZ zK1 X (zT0 Sh top) μ8 80 [(0, .ref o_), (1, .int v_b), (2, .int v_h_1), (3, .int t5)] [] := by
            intro hc
            replace e13 := zif_t hc e13
            cases e13
            exact kt12 rfl
          clear e13
          refine z_aload_n fx (k := 0) (i := 0) rfl rfl d12_forgets_44 ?_
          refine z_iload_n fx (k := 3) (i := 3) rfl rfl d12_forgets_45 ?_
          refine z_iconst fx (v := 1) ic1 d12_forgets_46 ?_
          refine z_iadd fx d12_forgets_47 ?_
          obtain ⟨t17, e25, e17⟩ := zinv e17
          refine z_cVr fx (c12_its (zLo X) (zDo X) Sh top hO o_ (t5 + 1) μ8 _ ho e25) mv12_its ml12_316 ho rfl rfl rfl rfl d12_forgets_48 ?_
          refine z_bipush fx (v := 30) bp30 d12_forgets_51 ?_
          cases e17
          refine z_icmp_ge fx d12_forgets_53 (fun c26 => ?_) (fun c26 => ?_)
          · exact kt18 (by rw [c26]; rfl)
          · exact kf18 (by rw [c26]; rfl)
        · replace e1 := zif_t c9 e1
          refine z_take 3 (lv' := [(0, .ref o_), (1, .int v_b), (2, .int v_h_1)]) rfl ?_
          refine z_goto fx d12_forgets_25 ?_
          obtain ⟨v_h_18, e27, e1⟩ := zinv e1
          replace e27 := Option.some.inj e27
          refine z_iinc fx (i := 2) (x := v_h_1) (v := v_h_18) rfl (by rw [in1]; exact e27) rfl (lv' := [(0, .ref o_), (1, .int v_b), (2, .int v_h_18)]) rfl rfl d12_forgets_86 ?_
          cases e1
          refine z_goto fx d12_forgets_89 ?_
          exact ih5 _ _ hl2
  exact klr3 _ _ _ e28
theorem d12_ticks_0 : zd cX12_ticks 0 (.iconst 0) 1 1 := by decide +kernel
theorem d12_ticks_1 : zd cX12_ticks 1 (.istore_n 1) 1 2 := by decide +kernel
theorem d12_ticks_2 : zd cX12_ticks 2 (.iload_n 1) 1 3 := by decide +kernel
theorem d12_ticks_3 : zd cX12_ticks 3 (.aload_n 0) 1 4 := by decide +kernel
theorem d12_ticks_4 : zd cX12_ticks 4 (.getfield 13) 3 7 := by decide +kernel
theorem d12_ticks_7 : zj cX12_ticks 7 (.if_icmp .ge 113) 113 10 120 := by decide +kernel
theorem d12_ticks_10 : zd cX12_ticks 10 (.aload_n 0) 1 11 := by decide +kernel
theorem d12_ticks_11 : zd cX12_ticks 11 (.iload_n 1) 1 12 := by decide +kernel
theorem d12_ticks_12 : zd cX12_ticks 12 (.invokevirtual 328) 3 15 := by decide +kernel
theorem d12_ticks_15 : zj cX12_ticks 15 (.ifCond .ne 6) 6 18 21 := by decide +kernel
theorem d12_ticks_18 : zj cX12_ticks 18 (.goto 96) 96 21 114 := by decide +kernel
theorem d12_ticks_21 : zd cX12_ticks 21 (.aload_n 0) 1 22 := by decide +kernel
theorem d12_ticks_22 : zd cX12_ticks 22 (.iload_n 1) 1 23 := by decide +kernel
theorem d12_ticks_23 : zd cX12_ticks 23 (.invokevirtual 441) 3 26 := by decide +kernel
theorem d12_ticks_26 : zd cX12_ticks 26 (.aload_n 0) 1 27 := by decide +kernel
theorem d12_ticks_27 : zd cX12_ticks 27 (.iload_n 1) 1 28 := by decide +kernel
theorem d12_ticks_28 : zd cX12_ticks 28 (.invokevirtual 444) 3 31 := by decide +kernel
theorem d12_ticks_31 : zd cX12_ticks 31 (.aload_n 0) 1 32 := by decide +kernel
theorem d12_ticks_32 : zd cX12_ticks 32 (.iload_n 1) 1 33 := by decide +kernel
theorem d12_ticks_33 : zd cX12_ticks 33 (.invokevirtual 447) 3 36 := by decide +kernel
theorem d12_ticks_36 : zd cX12_ticks 36 (.aload_n 0) 1 37 := by decide +kernel
theorem d12_ticks_37 : zd cX12_ticks 37 (.iload_n 1) 1 38 := by decide +kernel
theorem d12_ticks_38 : zd cX12_ticks 38 (.iconst 2) 1 39 := by decide +kernel
theorem d12_ticks_39 : zd cX12_ticks 39 (.invokevirtual 319) 3 42 := by decide +kernel
theorem d12_ticks_42 : zj cX12_ticks 42 (.ifCond .eq 13) 13 45 55 := by decide +kernel
theorem d12_ticks_45 : zd cX12_ticks 45 (.aload_n 0) 1 46 := by decide +kernel
theorem d12_ticks_46 : zd cX12_ticks 46 (.iload_n 1) 1 47 := by decide +kernel
theorem d12_ticks_47 : zd cX12_ticks 47 (.iconst 5) 1 48 := by decide +kernel
theorem d12_ticks_48 : zd cX12_ticks 48 (.invokevirtual 319) 3 51 := by decide +kernel
theorem d12_ticks_51 : zd cX12_ticks 51 (.iconst (-1)) 1 52 := by decide +kernel
theorem d12_ticks_52 : zj cX12_ticks 52 (.if_icmp .ne 9) 9 55 61 := by decide +kernel
theorem d12_ticks_55 : zd cX12_ticks 55 (.aload_n 0) 1 56 := by decide +kernel
theorem d12_ticks_56 : zd cX12_ticks 56 (.iload_n 1) 1 57 := by decide +kernel
theorem d12_ticks_57 : zd cX12_ticks 57 (.iconst 2) 1 58 := by decide +kernel
theorem d12_ticks_58 : zd cX12_ticks 58 (.invokevirtual 438) 3 61 := by decide +kernel
theorem d12_ticks_61 : zd cX12_ticks 61 (.iload_n 1) 1 62 := by decide +kernel
theorem d12_ticks_62 : zd cX12_ticks 62 (.iconst 0) 1 63 := by decide +kernel
theorem d12_ticks_63 : zd cX12_ticks 63 (.invokestatic 325) 3 66 := by decide +kernel
theorem d12_ticks_66 : zd cX12_ticks 66 (.istore_n 2) 1 67 := by decide +kernel
theorem d12_ticks_67 : zd cX12_ticks 67 (.iload_n 2) 1 68 := by decide +kernel
theorem d12_ticks_68 : zd cX12_ticks 68 (.iload_n 1) 1 69 := by decide +kernel
theorem d12_ticks_69 : zd cX12_ticks 69 (.aload_n 0) 1 70 := by decide +kernel
theorem d12_ticks_70 : zd cX12_ticks 70 (.getfield 35) 3 73 := by decide +kernel
theorem d12_ticks_73 : zd cX12_ticks 73 (.iload_n 1) 1 74 := by decide +kernel
theorem d12_ticks_74 : zd cX12_ticks 74 (.iaload) 1 75 := by decide +kernel
theorem d12_ticks_75 : zd cX12_ticks 75 (.invokestatic 325) 3 78 := by decide +kernel
theorem d12_ticks_78 : zj cX12_ticks 78 (.if_icmp .ge 36) 36 81 114 := by decide +kernel
theorem d12_ticks_81 : zd cX12_ticks 81 (.aload_n 0) 1 82 := by decide +kernel
theorem d12_ticks_82 : zd cX12_ticks 82 (.iload_n 2) 1 83 := by decide +kernel
theorem d12_ticks_83 : zd cX12_ticks 83 (.iconst 0) 1 84 := by decide +kernel
theorem d12_ticks_84 : zd cX12_ticks 84 (.invokevirtual 334) 3 87 := by decide +kernel
theorem d12_ticks_87 : zd cX12_ticks 87 (.iconst 1) 1 88 := by decide +kernel
theorem d12_ticks_88 : zj cX12_ticks 88 (.if_icmp .ne 20) 20 91 108 := by decide +kernel
theorem d12_ticks_91 : zd cX12_ticks 91 (.aload_n 0) 1 92 := by decide +kernel
theorem d12_ticks_92 : zd cX12_ticks 92 (.iload_n 2) 1 93 := by decide +kernel
theorem d12_ticks_93 : zd cX12_ticks 93 (.iconst 3) 1 94 := by decide +kernel
theorem d12_ticks_94 : zd cX12_ticks 94 (.invokevirtual 334) 3 97 := by decide +kernel
theorem d12_ticks_97 : zj cX12_ticks 97 (.ifCond .eq 11) 11 100 108 := by decide +kernel
theorem d12_ticks_100 : zd cX12_ticks 100 (.aload_n 0) 1 101 := by decide +kernel
theorem d12_ticks_101 : zd cX12_ticks 101 (.iload_n 2) 1 102 := by decide +kernel
theorem d12_ticks_102 : zd cX12_ticks 102 (.bipush 9) 2 104 := by decide +kernel
theorem d12_ticks_104 : zd cX12_ticks 104 (.iconst 1) 1 105 := by decide +kernel
theorem d12_ticks_105 : zd cX12_ticks 105 (.invokevirtual 344) 3 108 := by decide +kernel
theorem d12_ticks_108 : zd cX12_ticks 108 (.iinc 2 1) 3 111 := by decide +kernel
theorem d12_ticks_111 : zj cX12_ticks 111 (.goto (-44)) (-44) 114 67 := by decide +kernel
theorem d12_ticks_114 : zd cX12_ticks 114 (.iinc 1 1) 3 117 := by decide +kernel
theorem d12_ticks_117 : zj cX12_ticks 117 (.goto (-115)) (-115) 120 2 := by decide +kernel
theorem d12_ticks_120 : zd cX12_ticks 120 (.return_) 1 121 := by decide +kernel
set_option maxHeartbeats 4000000 in
set_option maxRecDepth 20000 in
theorem c12_ticks (l : Launch) (D : zDt) (Sh : zSh) (top : Nat) (hO : zOK Sh) (o_ : Nat) (μ : zM) (μ_ : zM) (ho : (Sh o_).1 = 19) (h : f12_ticks o_ μ = some μ_) : zMet l D zK1 yX12_ticks cX12_ticks 3 none (zrm 8 180) [.ref o_] Sh top μ none Sh top μ_ 0 0 := by
  refine zMet_of (by decide) (Nat.le_of_ble_eq_true rfl) fun X hX1 hX2 fx fin => ?_
  subst hX1; subst hX2
  replace fx : zFix X cX12_ticks RX12 (zrm 8 180) 3 := fx
  show zZ zK1 X (zT0 Sh top) μ 0 [(0, .ref o_)] []
  unfold f12_ticks at h
  refine z_iconst fx (v := 0) ic0 d12_ticks_0 ?_
  refine z_istore_n fx (k := 1) (i := 1) rfl rfl (lv' := [(0, .ref o_), (1, .int 0)]) rfl rfl d12_ticks_1 ?_
  obtain ⟨v_b_3, μ4, e46, h⟩ := zinv2 h
  have kx4 : zZ zK1 X (zT0 Sh top) μ4 120 [(0, .ref o_), (1, .int v_b_3)] [] := by
    refine z_take 1 (lv' := [(0, .ref o_)]) rfl ?_
    cases h
    exact z_return fx fin d12_ticks_120
  clear h
  have klr3 : ∀ (n : Nat) (v_b_1 : Int32) (μ2 : zM), zloop (fun s => f12_ticks_L1 o_ s.1 s.2) n (v_b_1, μ2) = some (v_b_3, μ4) → zZ zK1 X (zT0 Sh top) μ2 2 [(0, .ref o_), (1, .int v_b_1)] [] := by
    intro n
    induction n with
    | zero => intro v_b_1 μ2 hl2; cases hl2
    | succ n ih5 =>
      intro v_b_1 μ2 hl2
      obtain ⟨y, e1, hl2⟩ := zloop_inv hl2
      replace e1 : f12_ticks_L1 o_ v_b_1 μ2 = some y := e1
      unfold f12_ticks_L1 at e1
      refine z_iload_n fx (k := 1) (i := 1) rfl rfl d12_ticks_2 ?_
      refine z_aload_n fx (k := 0) (i := 0) rfl rfl d12_ticks_3 ?_
      refine z_getI fx 12 1 1201 ho lf12_13 ⟨fk12_1, rfl⟩ d12_ticks_4 ?_
      refine z_icmp_ge fx d12_ticks_7 (fun c6 => ?_) (fun c6 => ?_)
      · replace e1 := zif_f c6 e1
        cases e1
        cases hl2
        exact kx4
      · replace e1 := zif_t c6 e1
        refine z_aload_n fx (k := 0) (i := 0) rfl rfl d12_ticks_10 ?_
        refine z_iload_n fx (k := 1) (i := 1) rfl rfl d12_ticks_11 ?_
        obtain ⟨t5, e7, e1⟩ := zinv e1
        refine z_cVr fx (c12_isOn (zLo X) (zDo X) Sh top hO o_ v_b_1 μ2 _ ho e7) mv12_isOn ml12_328 ho rfl rfl rfl rfl d12_ticks_12 ?_
        refine z_ifb_ne fx d12_ticks_15 (fun c8 => ?_) (fun c8 => ?_)
        · replace e1 := zif_t c8 e1
          refine z_aload_n fx (k := 0) (i := 0) rfl rfl d12_ticks_21 ?_
          refine z_iload_n fx (k := 1) (i := 1) rfl rfl d12_ticks_22 ?_
          obtain ⟨μ6, e9, e1⟩ := zinv e1
          refine z_cVv fx (c12_ages (zLo X) (zDo X) Sh top hO o_ v_b_1 μ2 _ ho e9) mv12_ages ml12_441 ho rfl rfl rfl rfl d12_ticks_23 ?_
          refine z_aload_n fx (k := 0) (i := 0) rfl rfl d12_ticks_26 ?_
          refine z_iload_n fx (k := 1) (i := 1) rfl rfl d12_ticks_27 ?_
          obtain ⟨μ7, e10, e1⟩ := zinv e1
          refine z_cVv fx (c12_waits (zLo X) (zDo X) Sh top hO o_ v_b_1 μ6 _ ho e10) mv12_waits ml12_444 ho rfl rfl rfl rfl d12_ticks_28 ?_
          refine z_aload_n fx (k := 0) (i := 0) rfl rfl d12_ticks_31 ?_
          refine z_iload_n fx (k := 1) (i := 1) rfl rfl d12_ticks_32 ?_
          obtain ⟨μ8, e11, e1⟩ := zinv e1
          refine z_cVv fx (c12_forgets (zLo X) (zDo X) Sh top hO o_ v_b_1 μ7 _ ho e11) mv12_forgets ml12_447 ho rfl rfl rfl rfl d12_ticks_33 ?_
          obtain ⟨μ9, e12, e1⟩ := zinv e1
          have k13 : zZ zK1 X (zT0 Sh top) μ9 61 [(0, .ref o_), (1, .int v_b_1)] [] := by
            refine z_iload_n fx (k := 1) (i := 1) rfl rfl d12_ticks_61 ?_
            refine z_iconst fx (v := 0) ic0 d12_ticks_62 ?_
            obtain ⟨t10, e14, e1⟩ := zinv e1
            refine z_cSr fx (c12_placeOf (zLo X) (zDo X) Sh top hO v_b_1 0 μ9 _  e14) ms12_placeOf ml12_325 rfl rfl rfl rfl d12_ticks_63 ?_
            refine z_istore_n fx (k := 2) (i := 2) rfl rfl (lv' := [(0, .ref o_), (1, .int v_b_1), (2, .int t10)]) rfl rfl d12_ticks_66 ?_
            obtain ⟨v_p_13, μ14, e35, e1⟩ := zinv2 e1
            have kx18 : zZ zK1 X (zT0 Sh top) μ14 114 [(0, .ref o_), (1, .int v_b_1), (2, .int v_p_13)] [] := by
              refine z_take 2 (lv' := [(0, .ref o_), (1, .int v_b_1)]) rfl ?_
              obtain ⟨v_b_24, e34, e1⟩ := zinv e1
              replace e34 := Option.some.inj e34
              refine z_iinc fx (i := 1) (x := v_b_1) (v := v_b_24) rfl (by rw [in1]; exact e34) rfl (lv' := [(0, .ref o_), (1, .int v_b_24)]) rfl rfl d12_ticks_114 ?_
              cases e1
              refine z_goto fx d12_ticks_117 ?_
              exact ih5 _ _ hl2
            clear e1
            have klr17 : ∀ (n : Nat) (v_p_11 : Int32) (μ12 : zM), zloop (fun s => f12_ticks_L2 o_ v_b_1 s.1 s.2) n (v_p_11, μ12) = some (v_p_13, μ14) → zZ zK1 X (zT0 Sh top) μ12 67 [(0, .ref o_), (1, .int v_b_1), (2, .int v_p_11)] [] := by
              intro n
              induction n with
              | zero => intro v_p_11 μ12 hl16; cases hl16
              | succ n ih19 =>
                intro v_p_11 μ12 hl16
                obtain ⟨y, e15, hl16⟩ := zloop_inv hl16
                replace e15 : f12_ticks_L2 o_ v_b_1 v_p_11 μ12 = some y := e15
                unfold f12_ticks_L2 at e15
                refine z_iload_n fx (k := 2) (i := 2) rfl rfl d12_ticks_67 ?_
                refine z_iload_n fx (k := 1) (i := 1) rfl rfl d12_ticks_68 ?_
                refine z_aload_n fx (k := 0) (i := 0) rfl rfl d12_ticks_69 ?_
                refine z_getO fx 12 8 3 ho lf12_35 fk12_8 d12_ticks_70 ?_
                refine z_iload_n fx (k := 1) (i := 1) rfl rfl d12_ticks_73 ?_
                obtain ⟨t15, e20, e15⟩ := zinv e15
                refine z_iald fx (ok12_8 hO ho) e20 d12_ticks_74 ?_
                obtain ⟨t16, e21, e15⟩ := zinv e15
                refine z_cSr fx (c12_placeOf (zLo X) (zDo X) Sh top hO v_b_1 t15 μ12 _  e21) ms12_placeOf ml12_325 rfl rfl rfl rfl d12_ticks_75 ?_
                refine z_icmp_ge fx d12_ticks_78 (fun c22 => ?_) (fun c22 => ?_)
                · replace e15 := zif_f c22 e15
                  cases e15
                  cases hl16
                  exact kx18
                · replace e15 := zif_t c22 e15
                  obtain ⟨b17, e24, e15⟩ := zinv e15
                  have kt23 : b17 = true → zZ zK1 X (zT0 Sh top) μ12 100 [(0, .ref o_), (1, .int v_b_1), (2, .int v_p_11)] [] := by
                    intro hc
                    replace e15 := zif_t hc e15
                    refine z_aload_n fx (k := 0) (i := 0) rfl rfl d12_ticks_100 ?_
                    refine z_iload_n fx (k := 2) (i := 2) rfl rfl d12_ticks_101 ?_
                    refine z_bipush fx (v := 9) bp9 d12_ticks_102 ?_
                    refine z_iconst fx (v := 1) ic1 d12_ticks_104 ?_
                    obtain ⟨μ18, e25, e15⟩ := zinv e15
                    refine z_cVv fx (c12_sets (zLo X) (zDo X) Sh top hO o_ v_p_11 9 1 μ12 _ ho e25) mv12_sets ml12_344 ho rfl rfl rfl rfl d12_ticks_105 ?_
                    obtain ⟨v_p_19, e26, e15⟩ := zinv e15
                    replace e26 := Option.some.inj e26
                    refine z_iinc fx (i := 2) (x := v_p_11) (v := v_p_19) rfl (by rw [in1]; exact e26) rfl (lv' := [(0, .ref o_), (1, .int v_b_1), (2, .int v_p_19)]) rfl rfl d12_ticks_108 ?_
                    cases e15
                    refine z_goto fx d12_ticks_111 ?_
                    exact ih19 _ _ hl16
                  have kf23 : b17 = false → zZ zK1 X (zT0 Sh top) μ12 108 [(0, .ref o_), (1, .int v_b_1), (2, .int v_p_11)] [] := by
                    intro hc
                    replace e15 := zif_f hc e15
                    obtain ⟨v_p_20, e27, e15⟩ := zinv e15
                    replace e27 := Option.some.inj e27
                    refine z_iinc fx (i := 2) (x := v_p_11) (v := v_p_20) rfl (by rw [in1]; exact e27) rfl (lv' := [(0, .ref o_), (1, .int v_b_1), (2, .int v_p_20)]) rfl rfl d12_ticks_108 ?_
                    cases e15
                    refine z_goto fx d12_ticks_111 ?_
                    exact ih19 _ _ hl16
                  clear e15
                  obtain ⟨b21, e28, e24⟩ := zinv e24
                  have kt29 : b21 = true → zZ zK1 X (zT0 Sh top) μ12 91 [(0, .ref o_), (1, .int v_b_1), (2, .int v_p_11)] [] := by
                    intro hc
                    replace e24 := zif_t hc e24
                    refine z_aload_n fx (k := 0) (i := 0) rfl rfl d12_ticks_91 ?_
                    refine z_iload_n fx (k := 2) (i := 2) rfl rfl d12_ticks_92 ?_
                    refine z_iconst fx (v := 3) ic3 d12_ticks_93 ?_
                    obtain ⟨t22, e30, e24⟩ := zinv e24
                    refine z_cVr fx (c12_portOf (zLo X) (zDo X) Sh top hO o_ v_p_11 3 μ12 _ ho e30) mv12_portOf ml12_334 ho rfl rfl rfl rfl d12_ticks_94 ?_
                    cases e24
                    refine z_if_eq fx d12_ticks_97 (fun c31 => ?_) (fun c31 => ?_)
                    · exact kf23 (by rw [c31]; rfl)
                    · exact kt23 (by rw [c31]; rfl)
                  have kf29 : b21 = false → zZ zK1 X (zT0 Sh top) μ12 108 [(0, .ref o_), (1, .int v_b_1), (2, .int v_p_11)] [] := by
                    intro hc
                    replace e24 := zif_f hc e24
                    cases e24
                    exact kf23 rfl
                  clear e24
                  refine z_aload_n fx (k := 0) (i := 0) rfl rfl d12_ticks_81 ?_
                  refine z_iload_n fx (k := 2) (i := 2) rfl rfl d12_ticks_82 ?_
                  refine z_iconst fx (v := 0) ic0 d12_ticks_83 ?_
                  obtain ⟨t23, e32, e28⟩ := zinv e28
                  refine z_cVr fx (c12_portOf (zLo X) (zDo X) Sh top hO o_ v_p_11 0 μ12 _ ho e32) mv12_portOf ml12_334 ho rfl rfl rfl rfl d12_ticks_84 ?_
                  refine z_iconst fx (v := 1) ic1 d12_ticks_87 ?_
                  cases e28
                  refine z_icmp_ne fx d12_ticks_88 (fun c33 => ?_) (fun c33 => ?_)
                  · exact kf29 c33
                  · exact kt29 c33
            exact klr17 _ _ _ e35
          clear e1
          obtain ⟨b25, e37, e12⟩ := zinv e12
          have kt36 : b25 = true → zZ zK1 X (zT0 Sh top) μ8 55 [(0, .ref o_), (1, .int v_b_1)] [] := by
            intro hc
            replace e12 := zif_t hc e12
            refine z_aload_n fx (k := 0) (i := 0) rfl rfl d12_ticks_55 ?_
            refine z_iload_n fx (k := 1) (i := 1) rfl rfl d12_ticks_56 ?_
            refine z_iconst fx (v := 2) ic2 d12_ticks_57 ?_
            obtain ⟨μ26, e38, e12⟩ := zinv e12
            refine z_cVv fx (c12_marksAll (zLo X) (zDo X) Sh top hO o_ v_b_1 2 μ8 _ ho e38) mv12_marksAll ml12_438 ho rfl rfl rfl rfl d12_ticks_58 ?_
            cases e12
            exact k13
          have kf36 : b25 = false → zZ zK1 X (zT0 Sh top) μ8 61 [(0, .ref o_), (1, .int v_b_1)] [] := by
            intro hc
            replace e12 := zif_f hc e12
            cases e12
            exact k13
          clear e12
          obtain ⟨b27, e39, e37⟩ := zinv e37
          have kf40 : b27 = false → zZ zK1 X (zT0 Sh top) μ8 45 [(0, .ref o_), (1, .int v_b_1)] [] := by
            intro hc
            replace e37 := zif_f hc e37
            refine z_aload_n fx (k := 0) (i := 0) rfl rfl d12_ticks_45 ?_
            refine z_iload_n fx (k := 1) (i := 1) rfl rfl d12_ticks_46 ?_
            refine z_iconst fx (v := 5) ic5 d12_ticks_47 ?_
            obtain ⟨t28, e41, e37⟩ := zinv e37
            refine z_cVr fx (c12_of (zLo X) (zDo X) Sh top hO o_ v_b_1 5 μ8 _ ho e41) mv12_of ml12_319 ho rfl rfl rfl rfl d12_ticks_48 ?_
            refine z_iconst fx (v := (-1)) icm1 d12_ticks_51 ?_
            cases e37
            refine z_icmp_ne fx d12_ticks_52 (fun c42 => ?_) (fun c42 => ?_)
            · exact kf36 c42
            · exact kt36 c42
          have kt40 : b27 = true → zZ zK1 X (zT0 Sh top) μ8 55 [(0, .ref o_), (1, .int v_b_1)] [] := by
            intro hc
            replace e37 := zif_t hc e37
            cases e37
            exact kt36 rfl
          clear e37
          refine z_aload_n fx (k := 0) (i := 0) rfl rfl d12_ticks_36 ?_
          refine z_iload_n fx (k := 1) (i := 1) rfl rfl d12_ticks_37 ?_
          refine z_iconst fx (v := 2) ic2 d12_ticks_38 ?_
          obtain ⟨t29, e43, e39⟩ := zinv e39
          refine z_cVr fx (c12_of (zLo X) (zDo X) Sh top hO o_ v_b_1 2 μ8 _ ho e43) mv12_of ml12_319 ho rfl rfl rfl rfl d12_ticks_39 ?_
          cases e39
          refine z_if_eq fx d12_ticks_42 (fun c44 => ?_) (fun c44 => ?_)
          · exact kt40 c44
          · exact kf40 c44
        · replace e1 := zif_f c8 e1
          refine z_goto fx d12_ticks_18 ?_
          obtain ⟨v_b_30, e45, e1⟩ := zinv e1
          replace e45 := Option.some.inj e45
          refine z_iinc fx (i := 1) (x := v_b_1) (v := v_b_30) rfl (by rw [in1]; exact e45) rfl (lv' := [(0, .ref o_), (1, .int v_b_30)]) rfl rfl d12_ticks_114 ?_
          cases e1
          refine z_goto fx d12_ticks_117 ?_
          exact ih5 _ _ hl2
  exact klr3 _ _ _ e46
theorem d12_arrive_0 : zd cX12_arrive 0 (.iconst 0) 1 1 := by decide +kernel
theorem d12_arrive_1 : zd cX12_arrive 1 (.istore_n 1) 1 2 := by decide +kernel
theorem d12_arrive_2 : zd cX12_arrive 2 (.iload_n 1) 1 3 := by decide +kernel
theorem d12_arrive_3 : zd cX12_arrive 3 (.bipush 6) 2 5 := by decide +kernel
theorem d12_arrive_5 : zd cX12_arrive 5 (.aload_n 0) 1 6 := by decide +kernel
theorem d12_arrive_6 : zd cX12_arrive 6 (.getfield 13) 3 9 := by decide +kernel
theorem d12_arrive_9 : zd cX12_arrive 9 (.imul) 1 10 := by decide +kernel
theorem d12_arrive_10 : zj cX12_arrive 10 (.if_icmp .ge 64) 64 13 74 := by decide +kernel
theorem d12_arrive_13 : zd cX12_arrive 13 (.iconst 0) 1 14 := by decide +kernel
theorem d12_arrive_14 : zd cX12_arrive 14 (.istore_n 2) 1 15 := by decide +kernel
theorem d12_arrive_15 : zd cX12_arrive 15 (.iload_n 2) 1 16 := by decide +kernel
theorem d12_arrive_16 : zd cX12_arrive 16 (.aload_n 0) 1 17 := by decide +kernel
theorem d12_arrive_17 : zd cX12_arrive 17 (.iconst 2) 1 18 := by decide +kernel
theorem d12_arrive_18 : zd cX12_arrive 18 (.invokevirtual 316) 3 21 := by decide +kernel
theorem d12_arrive_21 : zj cX12_arrive 21 (.if_icmp .ge 47) 47 24 68 := by decide +kernel
theorem d12_arrive_24 : zd cX12_arrive 24 (.aload_n 0) 1 25 := by decide +kernel
theorem d12_arrive_25 : zd cX12_arrive 25 (.iload_n 2) 1 26 := by decide +kernel
theorem d12_arrive_26 : zd cX12_arrive 26 (.iconst 0) 1 27 := by decide +kernel
theorem d12_arrive_27 : zd cX12_arrive 27 (.invokevirtual 366) 3 30 := by decide +kernel
theorem d12_arrive_30 : zd cX12_arrive 30 (.aload_n 0) 1 31 := by decide +kernel
theorem d12_arrive_31 : zd cX12_arrive 31 (.iconst 0) 1 32 := by decide +kernel
theorem d12_arrive_32 : zd cX12_arrive 32 (.invokevirtual 316) 3 35 := by decide +kernel
theorem d12_arrive_35 : zj cX12_arrive 35 (.if_icmp .ne 27) 27 38 62 := by decide +kernel
theorem d12_arrive_38 : zd cX12_arrive 38 (.aload_n 0) 1 39 := by decide +kernel
theorem d12_arrive_39 : zd cX12_arrive 39 (.iload_n 2) 1 40 := by decide +kernel
theorem d12_arrive_40 : zd cX12_arrive 40 (.iconst 1) 1 41 := by decide +kernel
theorem d12_arrive_41 : zd cX12_arrive 41 (.invokevirtual 366) 3 44 := by decide +kernel
theorem d12_arrive_44 : zd cX12_arrive 44 (.aload_n 0) 1 45 := by decide +kernel
theorem d12_arrive_45 : zd cX12_arrive 45 (.iload_n 2) 1 46 := by decide +kernel
theorem d12_arrive_46 : zd cX12_arrive 46 (.iconst 2) 1 47 := by decide +kernel
theorem d12_arrive_47 : zd cX12_arrive 47 (.invokevirtual 366) 3 50 := by decide +kernel
theorem d12_arrive_50 : zd cX12_arrive 50 (.invokestatic 325) 3 53 := by decide +kernel
theorem d12_arrive_53 : zd cX12_arrive 53 (.iload_n 1) 1 54 := by decide +kernel
theorem d12_arrive_54 : zj cX12_arrive 54 (.if_icmp .ne 8) 8 57 62 := by decide +kernel
theorem d12_arrive_57 : zd cX12_arrive 57 (.aload_n 0) 1 58 := by decide +kernel
theorem d12_arrive_58 : zd cX12_arrive 58 (.iload_n 2) 1 59 := by decide +kernel
theorem d12_arrive_59 : zd cX12_arrive 59 (.invokevirtual 450) 3 62 := by decide +kernel
theorem d12_arrive_62 : zd cX12_arrive 62 (.iinc 2 1) 3 65 := by decide +kernel
theorem d12_arrive_65 : zj cX12_arrive 65 (.goto (-50)) (-50) 68 15 := by decide +kernel
theorem d12_arrive_68 : zd cX12_arrive 68 (.iinc 1 1) 3 71 := by decide +kernel
theorem d12_arrive_71 : zj cX12_arrive 71 (.goto (-69)) (-69) 74 2 := by decide +kernel
theorem d12_arrive_74 : zd cX12_arrive 74 (.iconst 0) 1 75 := by decide +kernel
theorem d12_arrive_75 : zd cX12_arrive 75 (.istore_n 1) 1 76 := by decide +kernel
theorem d12_arrive_76 : zd cX12_arrive 76 (.iconst 0) 1 77 := by decide +kernel
theorem d12_arrive_77 : zd cX12_arrive 77 (.istore_n 2) 1 78 := by decide +kernel
theorem d12_arrive_78 : zd cX12_arrive 78 (.iload_n 2) 1 79 := by decide +kernel
theorem d12_arrive_79 : zd cX12_arrive 79 (.aload_n 0) 1 80 := by decide +kernel
theorem d12_arrive_80 : zd cX12_arrive 80 (.iconst 2) 1 81 := by decide +kernel
theorem d12_arrive_81 : zd cX12_arrive 81 (.invokevirtual 316) 3 84 := by decide +kernel
theorem d12_arrive_84 : zj cX12_arrive 84 (.if_icmp .ge 63) 63 87 147 := by decide +kernel
theorem d12_arrive_87 : zd cX12_arrive 87 (.aload_n 0) 1 88 := by decide +kernel
theorem d12_arrive_88 : zd cX12_arrive 88 (.iload_n 2) 1 89 := by decide +kernel
theorem d12_arrive_89 : zd cX12_arrive 89 (.iconst 0) 1 90 := by decide +kernel
theorem d12_arrive_90 : zd cX12_arrive 90 (.invokevirtual 366) 3 93 := by decide +kernel
theorem d12_arrive_93 : zd cX12_arrive 93 (.aload_n 0) 1 94 := by decide +kernel
theorem d12_arrive_94 : zd cX12_arrive 94 (.iconst 0) 1 95 := by decide +kernel
theorem d12_arrive_95 : zd cX12_arrive 95 (.invokevirtual 316) 3 98 := by decide +kernel
theorem d12_arrive_98 : zj cX12_arrive 98 (.if_icmp .ne 6) 6 101 104 := by decide +kernel
theorem d12_arrive_101 : zj cX12_arrive 101 (.goto 40) 40 104 141 := by decide +kernel
theorem d12_arrive_104 : zd cX12_arrive 104 (.iconst 0) 1 105 := by decide +kernel
theorem d12_arrive_105 : zd cX12_arrive 105 (.istore_n 3) 1 106 := by decide +kernel
theorem d12_arrive_106 : zd cX12_arrive 106 (.iload_n 3) 1 107 := by decide +kernel
theorem d12_arrive_107 : zd cX12_arrive 107 (.bipush 10) 2 109 := by decide +kernel
theorem d12_arrive_109 : zj cX12_arrive 109 (.if_icmp .ge 29) 29 112 138 := by decide +kernel
theorem d12_arrive_112 : zd cX12_arrive 112 (.aload_n 0) 1 113 := by decide +kernel
theorem d12_arrive_113 : zd cX12_arrive 113 (.sipush 1274) 3 116 := by decide +kernel
theorem d12_arrive_116 : zd cX12_arrive 116 (.bipush 10) 2 118 := by decide +kernel
theorem d12_arrive_118 : zd cX12_arrive 118 (.iload_n 1) 1 119 := by decide +kernel
theorem d12_arrive_119 : zd cX12_arrive 119 (.imul) 1 120 := by decide +kernel
theorem d12_arrive_120 : zd cX12_arrive 120 (.iadd) 1 121 := by decide +kernel
theorem d12_arrive_121 : zd cX12_arrive 121 (.iload_n 3) 1 122 := by decide +kernel
theorem d12_arrive_122 : zd cX12_arrive 122 (.iadd) 1 123 := by decide +kernel
theorem d12_arrive_123 : zd cX12_arrive 123 (.aload_n 0) 1 124 := by decide +kernel
theorem d12_arrive_124 : zd cX12_arrive 124 (.iload_n 2) 1 125 := by decide +kernel
theorem d12_arrive_125 : zd cX12_arrive 125 (.iload_n 3) 1 126 := by decide +kernel
theorem d12_arrive_126 : zd cX12_arrive 126 (.invokevirtual 366) 3 129 := by decide +kernel
theorem d12_arrive_129 : zd cX12_arrive 129 (.invokevirtual 310) 3 132 := by decide +kernel
theorem d12_arrive_132 : zd cX12_arrive 132 (.iinc 3 1) 3 135 := by decide +kernel
theorem d12_arrive_135 : zj cX12_arrive 135 (.goto (-29)) (-29) 138 106 := by decide +kernel
theorem d12_arrive_138 : zd cX12_arrive 138 (.iinc 1 1) 3 141 := by decide +kernel
theorem d12_arrive_141 : zd cX12_arrive 141 (.iinc 2 1) 3 144 := by decide +kernel
theorem d12_arrive_144 : zj cX12_arrive 144 (.goto (-66)) (-66) 147 78 := by decide +kernel
theorem d12_arrive_147 : zd cX12_arrive 147 (.aload_n 0) 1 148 := by decide +kernel
theorem d12_arrive_148 : zd cX12_arrive 148 (.iconst 2) 1 149 := by decide +kernel
theorem d12_arrive_149 : zd cX12_arrive 149 (.iload_n 1) 1 150 := by decide +kernel
theorem d12_arrive_150 : zd cX12_arrive 150 (.invokevirtual 310) 3 153 := by decide +kernel
theorem d12_arrive_153 : zd cX12_arrive 153 (.return_) 1 154 := by decide +kernel
set_option maxHeartbeats 4000000 in
set_option maxRecDepth 20000 in
theorem c12_arrive (l : Launch) (D : zDt) (Sh : zSh) (top : Nat) (hO : zOK Sh) (o_ : Nat) (μ : zM) (μ_ : zM) (ho : (Sh o_).1 = 19) (h : f12_arrive o_ μ = some μ_) : zMet l D zK1 yX12_arrive cX12_arrive 4 none (zrm 9 209) [.ref o_] Sh top μ none Sh top μ_ 0 0 := by
  refine zMet_of (by decide) (Nat.le_of_ble_eq_true rfl) fun X hX1 hX2 fx fin => ?_
  subst hX1; subst hX2
  replace fx : zFix X cX12_arrive RX12 (zrm 9 209) 4 := fx
  show zZ zK1 X (zT0 Sh top) μ 0 [(0, .ref o_)] []
  unfold f12_arrive at h
  refine z_iconst fx (v := 0) ic0 d12_arrive_0 ?_
  refine z_istore_n fx (k := 1) (i := 1) rfl rfl (lv' := [(0, .ref o_), (1, .int 0)]) rfl rfl d12_arrive_1 ?_
  obtain ⟨v_p_3, μ4, e55, h⟩ := zinv2 h
  have kx4 : zZ zK1 X (zT0 Sh top) μ4 74 [(0, .ref o_), (1, .int v_p_3)] [] := by
    refine z_take 1 (lv' := [(0, .ref o_)]) rfl ?_
    refine z_iconst fx (v := 0) ic0 d12_arrive_74 ?_
    refine z_istore_n fx (k := 1) (i := 1) rfl rfl (lv' := [(0, .ref o_), (1, .int 0)]) rfl rfl d12_arrive_75 ?_
    refine z_iconst fx (v := 0) ic0 d12_arrive_76 ?_
    refine z_istore_n fx (k := 2) (i := 2) rfl rfl (lv' := [(0, .ref o_), (1, .int 0), (2, .int 0)]) rfl rfl d12_arrive_77 ?_
    obtain ⟨v_n_24, v_k_25, μ26, e54, h⟩ := zinv3 h
    have kx33 : zZ zK1 X (zT0 Sh top) μ26 147 [(0, .ref o_), (1, .int v_n_24), (2, .int v_k_25)] [] := by
      refine z_take 2 (lv' := [(0, .ref o_), (1, .int v_n_24)]) rfl ?_
      refine z_aload_n fx (k := 0) (i := 0) rfl rfl d12_arrive_147 ?_
      refine z_iconst fx (v := 2) ic2 d12_arrive_148 ?_
      refine z_iload_n fx (k := 1) (i := 1) rfl rfl d12_arrive_149 ?_
      obtain ⟨μ40, e53, h⟩ := zinv h
      refine z_cVv fx (c12_puts (zLo X) (zDo X) Sh top hO o_ 2 v_n_24 μ26 _ ho e53) mv12_puts ml12_310 ho rfl rfl rfl rfl d12_arrive_150 ?_
      cases h
      exact z_return fx fin d12_arrive_153
    clear h
    have klr32 : ∀ (n : Nat) (v_n_21 : Int32) (v_k_22 : Int32) (μ23 : zM), zloop (fun s => f12_arrive_L3 o_ s.1 s.2.1 s.2.2) n (v_n_21, v_k_22, μ23) = some (v_n_24, v_k_25, μ26) → zZ zK1 X (zT0 Sh top) μ23 78 [(0, .ref o_), (1, .int v_n_21), (2, .int v_k_22)] [] := by
      intro n
      induction n with
      | zero => intro v_n_21 v_k_22 μ23 hl31; cases hl31
      | succ n ih34 =>
        intro v_n_21 v_k_22 μ23 hl31
        obtain ⟨y, e30, hl31⟩ := zloop_inv hl31
        replace e30 : f12_arrive_L3 o_ v_n_21 v_k_22 μ23 = some y := e30
        unfold f12_arrive_L3 at e30
        refine z_iload_n fx (k := 2) (i := 2) rfl rfl d12_arrive_78 ?_
        refine z_aload_n fx (k := 0) (i := 0) rfl rfl d12_arrive_79 ?_
        refine z_iconst fx (v := 2) ic2 d12_arrive_80 ?_
        obtain ⟨t27, e35, e30⟩ := zinv e30
        refine z_cVr fx (c12_its (zLo X) (zDo X) Sh top hO o_ 2 μ23 _ ho e35) mv12_its ml12_316 ho rfl rfl rfl rfl d12_arrive_81 ?_
        refine z_icmp_ge fx d12_arrive_84 (fun c36 => ?_) (fun c36 => ?_)
        · replace e30 := zif_f c36 e30
          cases e30
          cases hl31
          exact kx33
        · replace e30 := zif_t c36 e30
          refine z_aload_n fx (k := 0) (i := 0) rfl rfl d12_arrive_87 ?_
          refine z_iload_n fx (k := 2) (i := 2) rfl rfl d12_arrive_88 ?_
          refine z_iconst fx (v := 0) ic0 d12_arrive_89 ?_
          obtain ⟨t28, e37, e30⟩ := zinv e30
          refine z_cVr fx (c12_msg (zLo X) (zDo X) Sh top hO o_ v_k_22 0 μ23 _ ho e37) mv12_msg ml12_366 ho rfl rfl rfl rfl d12_arrive_90 ?_
          refine z_aload_n fx (k := 0) (i := 0) rfl rfl d12_arrive_93 ?_
          refine z_iconst fx (v := 0) ic0 d12_arrive_94 ?_
          obtain ⟨t29, e38, e30⟩ := zinv e30
          refine z_cVr fx (c12_its (zLo X) (zDo X) Sh top hO o_ 0 μ23 _ ho e38) mv12_its ml12_316 ho rfl rfl rfl rfl d12_arrive_95 ?_
          refine z_icmp_ne fx d12_arrive_98 (fun c39 => ?_) (fun c39 => ?_)
          · replace e30 := zif_f c39 e30
            refine z_iconst fx (v := 0) ic0 d12_arrive_104 ?_
            refine z_istore_n fx (k := 3) (i := 3) rfl rfl (lv' := [(0, .ref o_), (1, .int v_n_21), (2, .int v_k_22), (3, .int 0)]) rfl rfl d12_arrive_105 ?_
            obtain ⟨v_i_32, μ33, e51, e30⟩ := zinv2 e30
            have kx43 : zZ zK1 X (zT0 Sh top) μ33 138 [(0, .ref o_), (1, .int v_n_21), (2, .int v_k_22), (3, .int v_i_32)] [] := by
              refine z_take 3 (lv' := [(0, .ref o_), (1, .int v_n_21), (2, .int v_k_22)]) rfl ?_
              obtain ⟨v_n_37, e49, e30⟩ := zinv e30
              replace e49 := Option.some.inj e49
              refine z_iinc fx (i := 1) (x := v_n_21) (v := v_n_37) rfl (by rw [in1]; exact e49) rfl (lv' := [(0, .ref o_), (1, .int v_n_37), (2, .int v_k_22)]) rfl rfl d12_arrive_138 ?_
              obtain ⟨v_k_38, e50, e30⟩ := zinv e30
              replace e50 := Option.some.inj e50
              refine z_iinc fx (i := 2) (x := v_k_22) (v := v_k_38) rfl (by rw [in1]; exact e50) rfl (lv' := [(0, .ref o_), (1, .int v_n_37), (2, .int v_k_38)]) rfl rfl d12_arrive_141 ?_
              cases e30
              refine z_goto fx d12_arrive_144 ?_
              exact ih34 _ _ _ hl31
            clear e30
            have klr42 : ∀ (n : Nat) (v_i_30 : Int32) (μ31 : zM), zloop (fun s => f12_arrive_L4 o_ v_n_21 v_k_22 s.1 s.2) n (v_i_30, μ31) = some (v_i_32, μ33) → zZ zK1 X (zT0 Sh top) μ31 106 [(0, .ref o_), (1, .int v_n_21), (2, .int v_k_22), (3, .int v_i_30)] [] := by
              intro n
              induction n with
              | zero => intro v_i_30 μ31 hl41; cases hl41
              | succ n ih44 =>
                intro v_i_30 μ31 hl41
                obtain ⟨y, e40, hl41⟩ := zloop_inv hl41
                replace e40 : f12_arrive_L4 o_ v_n_21 v_k_22 v_i_30 μ31 = some y := e40
                unfold f12_arrive_L4 at e40
                refine z_iload_n fx (k := 3) (i := 3) rfl rfl d12_arrive_106 ?_
                refine z_bipush fx (v := 10) bp10 d12_arrive_107 ?_
                refine z_icmp_ge fx d12_arrive_109 (fun c45 => ?_) (fun c45 => ?_)
                · replace e40 := zif_f c45 e40
                  cases e40
                  cases hl41
                  exact kx43
                · replace e40 := zif_t c45 e40
                  refine z_aload_n fx (k := 0) (i := 0) rfl rfl d12_arrive_112 ?_
                  refine z_sipush fx (v := 1274) sp1274 d12_arrive_113 ?_
                  refine z_bipush fx (v := 10) bp10 d12_arrive_116 ?_
                  refine z_iload_n fx (k := 1) (i := 1) rfl rfl d12_arrive_118 ?_
                  refine z_imul fx d12_arrive_119 ?_
                  refine z_iadd fx d12_arrive_120 ?_
                  refine z_iload_n fx (k := 3) (i := 3) rfl rfl d12_arrive_121 ?_
                  refine z_iadd fx d12_arrive_122 ?_
                  refine z_aload_n fx (k := 0) (i := 0) rfl rfl d12_arrive_123 ?_
                  refine z_iload_n fx (k := 2) (i := 2) rfl rfl d12_arrive_124 ?_
                  refine z_iload_n fx (k := 3) (i := 3) rfl rfl d12_arrive_125 ?_
                  obtain ⟨t34, e46, e40⟩ := zinv e40
                  refine z_cVr fx (c12_msg (zLo X) (zDo X) Sh top hO o_ v_k_22 v_i_30 μ31 _ ho e46) mv12_msg ml12_366 ho rfl rfl rfl rfl d12_arrive_126 ?_
                  obtain ⟨μ35, e47, e40⟩ := zinv e40
                  refine z_cVv fx (c12_puts (zLo X) (zDo X) Sh top hO o_ ((1274 + (10 * v_n_21)) + v_i_30) t34 μ31 _ ho e47) mv12_puts ml12_310 ho rfl rfl rfl rfl d12_arrive_129 ?_
                  obtain ⟨v_i_36, e48, e40⟩ := zinv e40
                  replace e48 := Option.some.inj e48
                  refine z_iinc fx (i := 3) (x := v_i_30) (v := v_i_36) rfl (by rw [in1]; exact e48) rfl (lv' := [(0, .ref o_), (1, .int v_n_21), (2, .int v_k_22), (3, .int v_i_36)]) rfl rfl d12_arrive_132 ?_
                  cases e40
                  refine z_goto fx d12_arrive_135 ?_
                  exact ih44 _ _ hl41
            exact klr42 _ _ _ e51
          · replace e30 := zif_t c39 e30
            refine z_goto fx d12_arrive_101 ?_
            obtain ⟨v_k_39, e52, e30⟩ := zinv e30
            replace e52 := Option.some.inj e52
            refine z_iinc fx (i := 2) (x := v_k_22) (v := v_k_39) rfl (by rw [in1]; exact e52) rfl (lv' := [(0, .ref o_), (1, .int v_n_21), (2, .int v_k_39)]) rfl rfl d12_arrive_141 ?_
            cases e30
            refine z_goto fx d12_arrive_144 ?_
            exact ih34 _ _ _ hl31
    exact klr32 _ _ _ _ e54
  clear h
  have klr3 : ∀ (n : Nat) (v_p_1 : Int32) (μ2 : zM), zloop (fun s => f12_arrive_L1 o_ s.1 s.2) n (v_p_1, μ2) = some (v_p_3, μ4) → zZ zK1 X (zT0 Sh top) μ2 2 [(0, .ref o_), (1, .int v_p_1)] [] := by
    intro n
    induction n with
    | zero => intro v_p_1 μ2 hl2; cases hl2
    | succ n ih5 =>
      intro v_p_1 μ2 hl2
      obtain ⟨y, e1, hl2⟩ := zloop_inv hl2
      replace e1 : f12_arrive_L1 o_ v_p_1 μ2 = some y := e1
      unfold f12_arrive_L1 at e1
      refine z_iload_n fx (k := 1) (i := 1) rfl rfl d12_arrive_2 ?_
      refine z_bipush fx (v := 6) bp6 d12_arrive_3 ?_
      refine z_aload_n fx (k := 0) (i := 0) rfl rfl d12_arrive_5 ?_
      refine z_getI fx 12 1 1201 ho lf12_13 ⟨fk12_1, rfl⟩ d12_arrive_6 ?_
      refine z_imul fx d12_arrive_9 ?_
      refine z_icmp_ge fx d12_arrive_10 (fun c6 => ?_) (fun c6 => ?_)
      · replace e1 := zif_f c6 e1
        cases e1
        cases hl2
        exact kx4
      · replace e1 := zif_t c6 e1
        refine z_iconst fx (v := 0) ic0 d12_arrive_13 ?_
        refine z_istore_n fx (k := 2) (i := 2) rfl rfl (lv' := [(0, .ref o_), (1, .int v_p_1), (2, .int 0)]) rfl rfl d12_arrive_14 ?_
        obtain ⟨v_k_7, μ8, e29, e1⟩ := zinv2 e1
        have kx10 : zZ zK1 X (zT0 Sh top) μ8 68 [(0, .ref o_), (1, .int v_p_1), (2, .int v_k_7)] [] := by
          refine z_take 2 (lv' := [(0, .ref o_), (1, .int v_p_1)]) rfl ?_
          obtain ⟨v_p_20, e28, e1⟩ := zinv e1
          replace e28 := Option.some.inj e28
          refine z_iinc fx (i := 1) (x := v_p_1) (v := v_p_20) rfl (by rw [in1]; exact e28) rfl (lv' := [(0, .ref o_), (1, .int v_p_20)]) rfl rfl d12_arrive_68 ?_
          cases e1
          refine z_goto fx d12_arrive_71 ?_
          exact ih5 _ _ hl2
        clear e1
        have klr9 : ∀ (n : Nat) (v_k_5 : Int32) (μ6 : zM), zloop (fun s => f12_arrive_L2 o_ v_p_1 s.1 s.2) n (v_k_5, μ6) = some (v_k_7, μ8) → zZ zK1 X (zT0 Sh top) μ6 15 [(0, .ref o_), (1, .int v_p_1), (2, .int v_k_5)] [] := by
          intro n
          induction n with
          | zero => intro v_k_5 μ6 hl8; cases hl8
          | succ n ih11 =>
            intro v_k_5 μ6 hl8
            obtain ⟨y, e7, hl8⟩ := zloop_inv hl8
            replace e7 : f12_arrive_L2 o_ v_p_1 v_k_5 μ6 = some y := e7
            unfold f12_arrive_L2 at e7
            refine z_iload_n fx (k := 2) (i := 2) rfl rfl d12_arrive_15 ?_
            refine z_aload_n fx (k := 0) (i := 0) rfl rfl d12_arrive_16 ?_
            refine z_iconst fx (v := 2) ic2 d12_arrive_17 ?_
            obtain ⟨t9, e12, e7⟩ := zinv e7
            refine z_cVr fx (c12_its (zLo X) (zDo X) Sh top hO o_ 2 μ6 _ ho e12) mv12_its ml12_316 ho rfl rfl rfl rfl d12_arrive_18 ?_
            refine z_icmp_ge fx d12_arrive_21 (fun c13 => ?_) (fun c13 => ?_)
            · replace e7 := zif_f c13 e7
              cases e7
              cases hl8
              exact kx10
            · replace e7 := zif_t c13 e7
              obtain ⟨b10, e15, e7⟩ := zinv e7
              have kt14 : b10 = true → zZ zK1 X (zT0 Sh top) μ6 57 [(0, .ref o_), (1, .int v_p_1), (2, .int v_k_5)] [] := by
                intro hc
                replace e7 := zif_t hc e7
                refine z_aload_n fx (k := 0) (i := 0) rfl rfl d12_arrive_57 ?_
                refine z_iload_n fx (k := 2) (i := 2) rfl rfl d12_arrive_58 ?_
                obtain ⟨μ11, e16, e7⟩ := zinv e7
                refine z_cVv fx (c12_reads (zLo X) (zDo X) Sh top hO o_ v_k_5 μ6 _ ho e16) mv12_reads ml12_450 ho rfl rfl rfl rfl d12_arrive_59 ?_
                obtain ⟨v_k_12, e17, e7⟩ := zinv e7
                replace e17 := Option.some.inj e17
                refine z_iinc fx (i := 2) (x := v_k_5) (v := v_k_12) rfl (by rw [in1]; exact e17) rfl (lv' := [(0, .ref o_), (1, .int v_p_1), (2, .int v_k_12)]) rfl rfl d12_arrive_62 ?_
                cases e7
                refine z_goto fx d12_arrive_65 ?_
                exact ih11 _ _ hl8
              have kf14 : b10 = false → zZ zK1 X (zT0 Sh top) μ6 62 [(0, .ref o_), (1, .int v_p_1), (2, .int v_k_5)] [] := by
                intro hc
                replace e7 := zif_f hc e7
                obtain ⟨v_k_13, e18, e7⟩ := zinv e7
                replace e18 := Option.some.inj e18
                refine z_iinc fx (i := 2) (x := v_k_5) (v := v_k_13) rfl (by rw [in1]; exact e18) rfl (lv' := [(0, .ref o_), (1, .int v_p_1), (2, .int v_k_13)]) rfl rfl d12_arrive_62 ?_
                cases e7
                refine z_goto fx d12_arrive_65 ?_
                exact ih11 _ _ hl8
              clear e7
              obtain ⟨b14, e19, e15⟩ := zinv e15
              have kt20 : b14 = true → zZ zK1 X (zT0 Sh top) μ6 38 [(0, .ref o_), (1, .int v_p_1), (2, .int v_k_5)] [] := by
                intro hc
                replace e15 := zif_t hc e15
                refine z_aload_n fx (k := 0) (i := 0) rfl rfl d12_arrive_38 ?_
                refine z_iload_n fx (k := 2) (i := 2) rfl rfl d12_arrive_39 ?_
                refine z_iconst fx (v := 1) ic1 d12_arrive_40 ?_
                obtain ⟨t15, e21, e15⟩ := zinv e15
                refine z_cVr fx (c12_msg (zLo X) (zDo X) Sh top hO o_ v_k_5 1 μ6 _ ho e21) mv12_msg ml12_366 ho rfl rfl rfl rfl d12_arrive_41 ?_
                refine z_aload_n fx (k := 0) (i := 0) rfl rfl d12_arrive_44 ?_
                refine z_iload_n fx (k := 2) (i := 2) rfl rfl d12_arrive_45 ?_
                refine z_iconst fx (v := 2) ic2 d12_arrive_46 ?_
                obtain ⟨t16, e22, e15⟩ := zinv e15
                refine z_cVr fx (c12_msg (zLo X) (zDo X) Sh top hO o_ v_k_5 2 μ6 _ ho e22) mv12_msg ml12_366 ho rfl rfl rfl rfl d12_arrive_47 ?_
                obtain ⟨t17, e23, e15⟩ := zinv e15
                refine z_cSr fx (c12_placeOf (zLo X) (zDo X) Sh top hO t15 t16 μ6 _  e23) ms12_placeOf ml12_325 rfl rfl rfl rfl d12_arrive_50 ?_
                refine z_iload_n fx (k := 1) (i := 1) rfl rfl d12_arrive_53 ?_
                cases e15
                refine z_icmp_ne fx d12_arrive_54 (fun c24 => ?_) (fun c24 => ?_)
                · exact kf14 c24
                · exact kt14 c24
              have kf20 : b14 = false → zZ zK1 X (zT0 Sh top) μ6 62 [(0, .ref o_), (1, .int v_p_1), (2, .int v_k_5)] [] := by
                intro hc
                replace e15 := zif_f hc e15
                cases e15
                exact kf14 rfl
              clear e15
              refine z_aload_n fx (k := 0) (i := 0) rfl rfl d12_arrive_24 ?_
              refine z_iload_n fx (k := 2) (i := 2) rfl rfl d12_arrive_25 ?_
              refine z_iconst fx (v := 0) ic0 d12_arrive_26 ?_
              obtain ⟨t18, e25, e19⟩ := zinv e19
              refine z_cVr fx (c12_msg (zLo X) (zDo X) Sh top hO o_ v_k_5 0 μ6 _ ho e25) mv12_msg ml12_366 ho rfl rfl rfl rfl d12_arrive_27 ?_
              refine z_aload_n fx (k := 0) (i := 0) rfl rfl d12_arrive_30 ?_
              refine z_iconst fx (v := 0) ic0 d12_arrive_31 ?_
              obtain ⟨t19, e26, e19⟩ := zinv e19
              refine z_cVr fx (c12_its (zLo X) (zDo X) Sh top hO o_ 0 μ6 _ ho e26) mv12_its ml12_316 ho rfl rfl rfl rfl d12_arrive_32 ?_
              cases e19
              refine z_icmp_ne fx d12_arrive_35 (fun c27 => ?_) (fun c27 => ?_)
              · exact kf20 c27
              · exact kt20 c27
        exact klr9 _ _ _ e29
  exact klr3 _ _ _ e55
theorem d12_steps_0 : zd cX12_steps 0 (.aload_n 0) 1 1 := by decide +kernel
theorem d12_steps_1 : zd cX12_steps 1 (.iconst 0) 1 2 := by decide +kernel
theorem d12_steps_2 : zd cX12_steps 2 (.invokevirtual 316) 3 5 := by decide +kernel
theorem d12_steps_5 : zd cX12_steps 5 (.bipush 8) 2 7 := by decide +kernel
theorem d12_steps_7 : zd cX12_steps 7 (.irem) 1 8 := by decide +kernel
theorem d12_steps_8 : zj cX12_steps 8 (.ifCond .ne 7) 7 11 15 := by decide +kernel
theorem d12_steps_11 : zd cX12_steps 11 (.aload_n 0) 1 12 := by decide +kernel
theorem d12_steps_12 : zd cX12_steps 12 (.invokevirtual 453) 3 15 := by decide +kernel
theorem d12_steps_15 : zd cX12_steps 15 (.aload_n 0) 1 16 := by decide +kernel
theorem d12_steps_16 : zd cX12_steps 16 (.invokevirtual 456) 3 19 := by decide +kernel
theorem d12_steps_19 : zd cX12_steps 19 (.iconst 0) 1 20 := by decide +kernel
theorem d12_steps_20 : zd cX12_steps 20 (.istore_n 1) 1 21 := by decide +kernel
theorem d12_steps_21 : zd cX12_steps 21 (.iload_n 1) 1 22 := by decide +kernel
theorem d12_steps_22 : zd cX12_steps 22 (.aload_n 0) 1 23 := by decide +kernel
theorem d12_steps_23 : zd cX12_steps 23 (.getfield 13) 3 26 := by decide +kernel
theorem d12_steps_26 : zj cX12_steps 26 (.if_icmp .ge 59) 59 29 85 := by decide +kernel
theorem d12_steps_29 : zd cX12_steps 29 (.iload_n 1) 1 30 := by decide +kernel
theorem d12_steps_30 : zd cX12_steps 30 (.iconst 0) 1 31 := by decide +kernel
theorem d12_steps_31 : zd cX12_steps 31 (.invokestatic 325) 3 34 := by decide +kernel
theorem d12_steps_34 : zd cX12_steps 34 (.istore_n 2) 1 35 := by decide +kernel
theorem d12_steps_35 : zd cX12_steps 35 (.iload_n 2) 1 36 := by decide +kernel
theorem d12_steps_36 : zd cX12_steps 36 (.iload_n 1) 1 37 := by decide +kernel
theorem d12_steps_37 : zd cX12_steps 37 (.aload_n 0) 1 38 := by decide +kernel
theorem d12_steps_38 : zd cX12_steps 38 (.getfield 35) 3 41 := by decide +kernel
theorem d12_steps_41 : zd cX12_steps 41 (.iload_n 1) 1 42 := by decide +kernel
theorem d12_steps_42 : zd cX12_steps 42 (.iaload) 1 43 := by decide +kernel
theorem d12_steps_43 : zd cX12_steps 43 (.invokestatic 325) 3 46 := by decide +kernel
theorem d12_steps_46 : zj cX12_steps 46 (.if_icmp .ge 33) 33 49 79 := by decide +kernel
theorem d12_steps_49 : zd cX12_steps 49 (.aload_n 0) 1 50 := by decide +kernel
theorem d12_steps_50 : zd cX12_steps 50 (.iload_n 2) 1 51 := by decide +kernel
theorem d12_steps_51 : zd cX12_steps 51 (.bipush 9) 2 53 := by decide +kernel
theorem d12_steps_53 : zd cX12_steps 53 (.invokevirtual 334) 3 56 := by decide +kernel
theorem d12_steps_56 : zd cX12_steps 56 (.iconst 1) 1 57 := by decide +kernel
theorem d12_steps_57 : zj cX12_steps 57 (.if_icmp .ne 16) 16 60 73 := by decide +kernel
theorem d12_steps_60 : zd cX12_steps 60 (.aload_n 0) 1 61 := by decide +kernel
theorem d12_steps_61 : zd cX12_steps 61 (.iload_n 2) 1 62 := by decide +kernel
theorem d12_steps_62 : zd cX12_steps 62 (.invokevirtual 393) 3 65 := by decide +kernel
theorem d12_steps_65 : zj cX12_steps 65 (.ifCond .eq 8) 8 68 73 := by decide +kernel
theorem d12_steps_68 : zd cX12_steps 68 (.aload_n 0) 1 69 := by decide +kernel
theorem d12_steps_69 : zd cX12_steps 69 (.iload_n 2) 1 70 := by decide +kernel
theorem d12_steps_70 : zd cX12_steps 70 (.invokevirtual 459) 3 73 := by decide +kernel
theorem d12_steps_73 : zd cX12_steps 73 (.iinc 2 1) 3 76 := by decide +kernel
theorem d12_steps_76 : zj cX12_steps 76 (.goto (-41)) (-41) 79 35 := by decide +kernel
theorem d12_steps_79 : zd cX12_steps 79 (.iinc 1 1) 3 82 := by decide +kernel
theorem d12_steps_82 : zj cX12_steps 82 (.goto (-61)) (-61) 85 21 := by decide +kernel
theorem d12_steps_85 : zd cX12_steps 85 (.aload_n 0) 1 86 := by decide +kernel
theorem d12_steps_86 : zd cX12_steps 86 (.iconst 0) 1 87 := by decide +kernel
theorem d12_steps_87 : zd cX12_steps 87 (.aload_n 0) 1 88 := by decide +kernel
theorem d12_steps_88 : zd cX12_steps 88 (.iconst 0) 1 89 := by decide +kernel
theorem d12_steps_89 : zd cX12_steps 89 (.invokevirtual 316) 3 92 := by decide +kernel
theorem d12_steps_92 : zd cX12_steps 92 (.iconst 1) 1 93 := by decide +kernel
theorem d12_steps_93 : zd cX12_steps 93 (.iadd) 1 94 := by decide +kernel
theorem d12_steps_94 : zd cX12_steps 94 (.invokevirtual 310) 3 97 := by decide +kernel
theorem d12_steps_97 : zd cX12_steps 97 (.return_) 1 98 := by decide +kernel
set_option maxHeartbeats 4000000 in
set_option maxRecDepth 20000 in
theorem c12_steps (l : Launch) (D : zDt) (Sh : zSh) (top : Nat) (hO : zOK Sh) (o_ : Nat) (μ : zM) (μ_ : zM) (ho : (Sh o_).1 = 19) (h : f12_steps o_ μ = some μ_) : zMet l D zK1 yX12_steps cX12_steps 3 none (zrm 10 232) [.ref o_] Sh top μ none Sh top μ_ 0 0 := by
  refine zMet_of (by decide) (Nat.le_of_ble_eq_true rfl) fun X hX1 hX2 fx fin => ?_
  subst hX1; subst hX2
  replace fx : zFix X cX12_steps RX12 (zrm 10 232) 3 := fx
  show zZ zK1 X (zT0 Sh top) μ 0 [(0, .ref o_)] []
  unfold f12_steps at h
  obtain ⟨μ1, e1, h⟩ := zinv h
  have k2 : zZ zK1 X (zT0 Sh top) μ1 15 [(0, .ref o_)] [] := by
    refine z_aload_n fx (k := 0) (i := 0) rfl rfl d12_steps_15 ?_
    obtain ⟨μ2, e3, h⟩ := zinv h
    refine z_cVv fx (c12_arrive (zLo X) (zDo X) Sh top hO o_ μ1 _ ho e3) mv12_arrive ml12_456 ho rfl rfl rfl rfl d12_steps_16 ?_
    refine z_iconst fx (v := 0) ic0 d12_steps_19 ?_
    refine z_istore_n fx (k := 1) (i := 1) rfl rfl (lv' := [(0, .ref o_), (1, .int 0)]) rfl rfl d12_steps_20 ?_
    obtain ⟨v_b_5, μ6, e34, h⟩ := zinv2 h
    have kx7 : zZ zK1 X (zT0 Sh top) μ6 85 [(0, .ref o_), (1, .int v_b_5)] [] := by
      refine z_take 1 (lv' := [(0, .ref o_)]) rfl ?_
      refine z_aload_n fx (k := 0) (i := 0) rfl rfl d12_steps_85 ?_
      refine z_iconst fx (v := 0) ic0 d12_steps_86 ?_
      refine z_aload_n fx (k := 0) (i := 0) rfl rfl d12_steps_87 ?_
      refine z_iconst fx (v := 0) ic0 d12_steps_88 ?_
      obtain ⟨t22, e32, h⟩ := zinv h
      refine z_cVr fx (c12_its (zLo X) (zDo X) Sh top hO o_ 0 μ6 _ ho e32) mv12_its ml12_316 ho rfl rfl rfl rfl d12_steps_89 ?_
      refine z_iconst fx (v := 1) ic1 d12_steps_92 ?_
      refine z_iadd fx d12_steps_93 ?_
      obtain ⟨μ23, e33, h⟩ := zinv h
      refine z_cVv fx (c12_puts (zLo X) (zDo X) Sh top hO o_ 0 (t22 + 1) μ6 _ ho e33) mv12_puts ml12_310 ho rfl rfl rfl rfl d12_steps_94 ?_
      cases h
      exact z_return fx fin d12_steps_97
    clear h
    have klr6 : ∀ (n : Nat) (v_b_3 : Int32) (μ4 : zM), zloop (fun s => f12_steps_L1 o_ s.1 s.2) n (v_b_3, μ4) = some (v_b_5, μ6) → zZ zK1 X (zT0 Sh top) μ4 21 [(0, .ref o_), (1, .int v_b_3)] [] := by
      intro n
      induction n with
      | zero => intro v_b_3 μ4 hl5; cases hl5
      | succ n ih8 =>
        intro v_b_3 μ4 hl5
        obtain ⟨y, e4, hl5⟩ := zloop_inv hl5
        replace e4 : f12_steps_L1 o_ v_b_3 μ4 = some y := e4
        unfold f12_steps_L1 at e4
        refine z_iload_n fx (k := 1) (i := 1) rfl rfl d12_steps_21 ?_
        refine z_aload_n fx (k := 0) (i := 0) rfl rfl d12_steps_22 ?_
        refine z_getI fx 12 1 1201 ho lf12_13 ⟨fk12_1, rfl⟩ d12_steps_23 ?_
        refine z_icmp_ge fx d12_steps_26 (fun c9 => ?_) (fun c9 => ?_)
        · replace e4 := zif_f c9 e4
          cases e4
          cases hl5
          exact kx7
        · replace e4 := zif_t c9 e4
          refine z_iload_n fx (k := 1) (i := 1) rfl rfl d12_steps_29 ?_
          refine z_iconst fx (v := 0) ic0 d12_steps_30 ?_
          obtain ⟨t7, e10, e4⟩ := zinv e4
          refine z_cSr fx (c12_placeOf (zLo X) (zDo X) Sh top hO v_b_3 0 μ4 _  e10) ms12_placeOf ml12_325 rfl rfl rfl rfl d12_steps_31 ?_
          refine z_istore_n fx (k := 2) (i := 2) rfl rfl (lv' := [(0, .ref o_), (1, .int v_b_3), (2, .int t7)]) rfl rfl d12_steps_34 ?_
          obtain ⟨v_p_10, μ11, e31, e4⟩ := zinv2 e4
          have kx14 : zZ zK1 X (zT0 Sh top) μ11 79 [(0, .ref o_), (1, .int v_b_3), (2, .int v_p_10)] [] := by
            refine z_take 2 (lv' := [(0, .ref o_), (1, .int v_b_3)]) rfl ?_
            obtain ⟨v_b_21, e30, e4⟩ := zinv e4
            replace e30 := Option.some.inj e30
            refine z_iinc fx (i := 1) (x := v_b_3) (v := v_b_21) rfl (by rw [in1]; exact e30) rfl (lv' := [(0, .ref o_), (1, .int v_b_21)]) rfl rfl d12_steps_79 ?_
            cases e4
            refine z_goto fx d12_steps_82 ?_
            exact ih8 _ _ hl5
          clear e4
          have klr13 : ∀ (n : Nat) (v_p_8 : Int32) (μ9 : zM), zloop (fun s => f12_steps_L2 o_ v_b_3 s.1 s.2) n (v_p_8, μ9) = some (v_p_10, μ11) → zZ zK1 X (zT0 Sh top) μ9 35 [(0, .ref o_), (1, .int v_b_3), (2, .int v_p_8)] [] := by
            intro n
            induction n with
            | zero => intro v_p_8 μ9 hl12; cases hl12
            | succ n ih15 =>
              intro v_p_8 μ9 hl12
              obtain ⟨y, e11, hl12⟩ := zloop_inv hl12
              replace e11 : f12_steps_L2 o_ v_b_3 v_p_8 μ9 = some y := e11
              unfold f12_steps_L2 at e11
              refine z_iload_n fx (k := 2) (i := 2) rfl rfl d12_steps_35 ?_
              refine z_iload_n fx (k := 1) (i := 1) rfl rfl d12_steps_36 ?_
              refine z_aload_n fx (k := 0) (i := 0) rfl rfl d12_steps_37 ?_
              refine z_getO fx 12 8 3 ho lf12_35 fk12_8 d12_steps_38 ?_
              refine z_iload_n fx (k := 1) (i := 1) rfl rfl d12_steps_41 ?_
              obtain ⟨t12, e16, e11⟩ := zinv e11
              refine z_iald fx (ok12_8 hO ho) e16 d12_steps_42 ?_
              obtain ⟨t13, e17, e11⟩ := zinv e11
              refine z_cSr fx (c12_placeOf (zLo X) (zDo X) Sh top hO v_b_3 t12 μ9 _  e17) ms12_placeOf ml12_325 rfl rfl rfl rfl d12_steps_43 ?_
              refine z_icmp_ge fx d12_steps_46 (fun c18 => ?_) (fun c18 => ?_)
              · replace e11 := zif_f c18 e11
                cases e11
                cases hl12
                exact kx14
              · replace e11 := zif_t c18 e11
                obtain ⟨b14, e20, e11⟩ := zinv e11
                have kt19 : b14 = true → zZ zK1 X (zT0 Sh top) μ9 68 [(0, .ref o_), (1, .int v_b_3), (2, .int v_p_8)] [] := by
                  intro hc
                  replace e11 := zif_t hc e11
                  refine z_aload_n fx (k := 0) (i := 0) rfl rfl d12_steps_68 ?_
                  refine z_iload_n fx (k := 2) (i := 2) rfl rfl d12_steps_69 ?_
                  obtain ⟨μ15, e21, e11⟩ := zinv e11
                  refine z_cVv fx (c12_sends (zLo X) (zDo X) Sh top hO o_ v_p_8 μ9 _ ho e21) mv12_sends ml12_459 ho rfl rfl rfl rfl d12_steps_70 ?_
                  obtain ⟨v_p_16, e22, e11⟩ := zinv e11
                  replace e22 := Option.some.inj e22
                  refine z_iinc fx (i := 2) (x := v_p_8) (v := v_p_16) rfl (by rw [in1]; exact e22) rfl (lv' := [(0, .ref o_), (1, .int v_b_3), (2, .int v_p_16)]) rfl rfl d12_steps_73 ?_
                  cases e11
                  refine z_goto fx d12_steps_76 ?_
                  exact ih15 _ _ hl12
                have kf19 : b14 = false → zZ zK1 X (zT0 Sh top) μ9 73 [(0, .ref o_), (1, .int v_b_3), (2, .int v_p_8)] [] := by
                  intro hc
                  replace e11 := zif_f hc e11
                  obtain ⟨v_p_17, e23, e11⟩ := zinv e11
                  replace e23 := Option.some.inj e23
                  refine z_iinc fx (i := 2) (x := v_p_8) (v := v_p_17) rfl (by rw [in1]; exact e23) rfl (lv' := [(0, .ref o_), (1, .int v_b_3), (2, .int v_p_17)]) rfl rfl d12_steps_73 ?_
                  cases e11
                  refine z_goto fx d12_steps_76 ?_
                  exact ih15 _ _ hl12
                clear e11
                obtain ⟨b18, e24, e20⟩ := zinv e20
                have kt25 : b18 = true → zZ zK1 X (zT0 Sh top) μ9 60 [(0, .ref o_), (1, .int v_b_3), (2, .int v_p_8)] [] := by
                  intro hc
                  replace e20 := zif_t hc e20
                  refine z_aload_n fx (k := 0) (i := 0) rfl rfl d12_steps_60 ?_
                  refine z_iload_n fx (k := 2) (i := 2) rfl rfl d12_steps_61 ?_
                  obtain ⟨t19, e26, e20⟩ := zinv e20
                  refine z_cVr fx (c12_isUp (zLo X) (zDo X) Sh top hO o_ v_p_8 μ9 _ ho e26) mv12_isUp ml12_393 ho rfl rfl rfl rfl d12_steps_62 ?_
                  cases e20
                  refine z_ifb_eq fx d12_steps_65 (fun c27 => ?_) (fun c27 => ?_)
                  · exact kf19 c27
                  · exact kt19 c27
                have kf25 : b18 = false → zZ zK1 X (zT0 Sh top) μ9 73 [(0, .ref o_), (1, .int v_b_3), (2, .int v_p_8)] [] := by
                  intro hc
                  replace e20 := zif_f hc e20
                  cases e20
                  exact kf19 rfl
                clear e20
                refine z_aload_n fx (k := 0) (i := 0) rfl rfl d12_steps_49 ?_
                refine z_iload_n fx (k := 2) (i := 2) rfl rfl d12_steps_50 ?_
                refine z_bipush fx (v := 9) bp9 d12_steps_51 ?_
                obtain ⟨t20, e28, e24⟩ := zinv e24
                refine z_cVr fx (c12_portOf (zLo X) (zDo X) Sh top hO o_ v_p_8 9 μ9 _ ho e28) mv12_portOf ml12_334 ho rfl rfl rfl rfl d12_steps_53 ?_
                refine z_iconst fx (v := 1) ic1 d12_steps_56 ?_
                cases e24
                refine z_icmp_ne fx d12_steps_57 (fun c29 => ?_) (fun c29 => ?_)
                · exact kf25 c29
                · exact kt25 c29
          exact klr13 _ _ _ e31
    exact klr6 _ _ _ e34
  clear h
  refine z_aload_n fx (k := 0) (i := 0) rfl rfl d12_steps_0 ?_
  refine z_iconst fx (v := 0) ic0 d12_steps_1 ?_
  obtain ⟨t24, e35, e1⟩ := zinv e1
  refine z_cVr fx (c12_its (zLo X) (zDo X) Sh top hO o_ 0 μ _ ho e35) mv12_its ml12_316 ho rfl rfl rfl rfl d12_steps_2 ?_
  refine z_bipush fx (v := 8) bp8 d12_steps_5 ?_
  obtain ⟨t25, e36, e1⟩ := zinv e1
  refine z_irem fx e36 d12_steps_7 ?_
  refine z_if_ne fx d12_steps_8 (fun c37 => ?_) (fun c37 => ?_)
  · replace e1 := zif_f c37 e1
    cases e1
    exact k2
  · replace e1 := zif_t c37 e1
    refine z_aload_n fx (k := 0) (i := 0) rfl rfl d12_steps_11 ?_
    obtain ⟨μ26, e38, e1⟩ := zinv e1
    refine z_cVv fx (c12_ticks (zLo X) (zDo X) Sh top hO o_ μ _ ho e38) mv12_ticks ml12_453 ho rfl rfl rfl rfl d12_steps_12 ?_
    cases e1
    exact k2
theorem d12_countOf_0 : zd cX12_countOf 0 (.iconst 0) 1 1 := by decide +kernel
theorem d12_countOf_1 : zd cX12_countOf 1 (.istore 4) 2 3 := by decide +kernel
theorem d12_countOf_3 : zd cX12_countOf 3 (.iconst 0) 1 4 := by decide +kernel
theorem d12_countOf_4 : zd cX12_countOf 4 (.istore 5) 2 6 := by decide +kernel
theorem d12_countOf_6 : zd cX12_countOf 6 (.iload 5) 2 8 := by decide +kernel
theorem d12_countOf_8 : zd cX12_countOf 8 (.iload_n 2) 1 9 := by decide +kernel
theorem d12_countOf_9 : zj cX12_countOf 9 (.if_icmp .ge 24) 24 12 33 := by decide +kernel
theorem d12_countOf_12 : zd cX12_countOf 12 (.iload 4) 2 14 := by decide +kernel
theorem d12_countOf_14 : zd cX12_countOf 14 (.aload_n 0) 1 15 := by decide +kernel
theorem d12_countOf_15 : zd cX12_countOf 15 (.iload_n 1) 1 16 := by decide +kernel
theorem d12_countOf_16 : zd cX12_countOf 16 (.iload_n 3) 1 17 := by decide +kernel
theorem d12_countOf_17 : zd cX12_countOf 17 (.iload 5) 2 19 := by decide +kernel
theorem d12_countOf_19 : zd cX12_countOf 19 (.imul) 1 20 := by decide +kernel
theorem d12_countOf_20 : zd cX12_countOf 20 (.iadd) 1 21 := by decide +kernel
theorem d12_countOf_21 : zd cX12_countOf 21 (.invokevirtual 316) 3 24 := by decide +kernel
theorem d12_countOf_24 : zd cX12_countOf 24 (.iadd) 1 25 := by decide +kernel
theorem d12_countOf_25 : zd cX12_countOf 25 (.istore 4) 2 27 := by decide +kernel
theorem d12_countOf_27 : zd cX12_countOf 27 (.iinc 5 1) 3 30 := by decide +kernel
theorem d12_countOf_30 : zj cX12_countOf 30 (.goto (-24)) (-24) 33 6 := by decide +kernel
theorem d12_countOf_33 : zd cX12_countOf 33 (.iload 4) 2 35 := by decide +kernel
theorem d12_countOf_35 : zd cX12_countOf 35 (.ireturn) 1 36 := by decide +kernel
set_option maxHeartbeats 4000000 in
set_option maxRecDepth 20000 in
theorem c12_countOf (l : Launch) (D : zDt) (Sh : zSh) (top : Nat) (hO : zOK Sh) (o_ : Nat) (v_first : Int32) (v_many : Int32) (v_each : Int32) (μ : zM) (r_ : Int32) (ho : (Sh o_).1 = 19) (h : f12_countOf o_ v_first v_many v_each μ = some r_) : zMet l D zK1 yX12_countOf cX12_countOf 6 (some .int) (zrm 1 21) [.ref o_, .int v_first, .int v_many, .int v_each] Sh top μ (some (.int r_)) Sh top μ 0 0 := by
  refine zMet_of (by decide) (Nat.le_of_ble_eq_true rfl) fun X hX1 hX2 fx fin => ?_
  subst hX1; subst hX2
  replace fx : zFix X cX12_countOf RX12 (zrm 1 21) 6 := fx
  show zZ zK1 X (zT0 Sh top) μ 0 [(0, .ref o_), (1, .int v_first), (2, .int v_many), (3, .int v_each)] []
  unfold f12_countOf at h
  refine z_iconst fx (v := 0) ic0 d12_countOf_0 ?_
  refine z_istore fx (i := 4) rfl (lv' := [(0, .ref o_), (1, .int v_first), (2, .int v_many), (3, .int v_each), (4, .int 0)]) rfl rfl d12_countOf_1 ?_
  refine z_iconst fx (v := 0) ic0 d12_countOf_3 ?_
  refine z_istore fx (i := 5) rfl (lv' := [(0, .ref o_), (1, .int v_first), (2, .int v_many), (3, .int v_each), (4, .int 0), (5, .int 0)]) rfl rfl d12_countOf_4 ?_
  obtain ⟨v_n_3, v_k_4, e10, h⟩ := zinv2 h
  have kx4 : zZ zK1 X (zT0 Sh top) μ 33 [(0, .ref o_), (1, .int v_first), (2, .int v_many), (3, .int v_each), (4, .int v_n_3), (5, .int v_k_4)] [] := by
    refine z_take 5 (lv' := [(0, .ref o_), (1, .int v_first), (2, .int v_many), (3, .int v_each), (4, .int v_n_3)]) rfl ?_
    refine z_iload fx (i := 4) rfl d12_countOf_33 ?_
    cases h
    exact z_ireturn fx fin d12_countOf_35
  clear h
  have klr3 : ∀ (n : Nat) (v_n_1 : Int32) (v_k_2 : Int32), zloop (fun s => f12_countOf_L1 o_ v_first v_many v_each μ s.1 s.2) n (v_n_1, v_k_2) = some (v_n_3, v_k_4) → zZ zK1 X (zT0 Sh top) μ 6 [(0, .ref o_), (1, .int v_first), (2, .int v_many), (3, .int v_each), (4, .int v_n_1), (5, .int v_k_2)] [] := by
    intro n
    induction n with
    | zero => intro v_n_1 v_k_2 hl2; cases hl2
    | succ n ih5 =>
      intro v_n_1 v_k_2 hl2
      obtain ⟨y, e1, hl2⟩ := zloop_inv hl2
      replace e1 : f12_countOf_L1 o_ v_first v_many v_each μ v_n_1 v_k_2 = some y := e1
      unfold f12_countOf_L1 at e1
      refine z_iload fx (i := 5) rfl d12_countOf_6 ?_
      refine z_iload_n fx (k := 2) (i := 2) rfl rfl d12_countOf_8 ?_
      refine z_icmp_ge fx d12_countOf_9 (fun c6 => ?_) (fun c6 => ?_)
      · replace e1 := zif_f c6 e1
        cases e1
        cases hl2
        exact kx4
      · replace e1 := zif_t c6 e1
        refine z_iload fx (i := 4) rfl d12_countOf_12 ?_
        refine z_aload_n fx (k := 0) (i := 0) rfl rfl d12_countOf_14 ?_
        refine z_iload_n fx (k := 1) (i := 1) rfl rfl d12_countOf_15 ?_
        refine z_iload_n fx (k := 3) (i := 3) rfl rfl d12_countOf_16 ?_
        refine z_iload fx (i := 5) rfl d12_countOf_17 ?_
        refine z_imul fx d12_countOf_19 ?_
        refine z_iadd fx d12_countOf_20 ?_
        obtain ⟨t5, e7, e1⟩ := zinv e1
        refine z_cVr fx (c12_its (zLo X) (zDo X) Sh top hO o_ (v_first + (v_each * v_k_2)) μ _ ho e7) mv12_its ml12_316 ho rfl rfl rfl rfl d12_countOf_21 ?_
        refine z_iadd fx d12_countOf_24 ?_
        obtain ⟨v_n_6, e8, e1⟩ := zinv e1
        replace e8 := Option.some.inj e8
        refine z_top (congrArg Value.int e8) ?_
        refine z_istore fx (i := 4) rfl (lv' := [(0, .ref o_), (1, .int v_first), (2, .int v_many), (3, .int v_each), (4, .int v_n_6), (5, .int v_k_2)]) rfl rfl d12_countOf_25 ?_
        obtain ⟨v_k_7, e9, e1⟩ := zinv e1
        replace e9 := Option.some.inj e9
        refine z_iinc fx (i := 5) (x := v_k_2) (v := v_k_7) rfl (by rw [in1]; exact e9) rfl (lv' := [(0, .ref o_), (1, .int v_first), (2, .int v_many), (3, .int v_each), (4, .int v_n_6), (5, .int v_k_7)]) rfl rfl d12_countOf_27 ?_
        cases e1
        refine z_goto fx d12_countOf_30 ?_
        exact ih5 _ _ hl2
  exact klr3 _ _ _ e10
theorem d12_openLinks_0 : zd cX12_openLinks 0 (.iconst 0) 1 1 := by decide +kernel
theorem d12_openLinks_1 : zd cX12_openLinks 1 (.istore_n 1) 1 2 := by decide +kernel
theorem d12_openLinks_2 : zd cX12_openLinks 2 (.iconst 0) 1 3 := by decide +kernel
theorem d12_openLinks_3 : zd cX12_openLinks 3 (.istore_n 2) 1 4 := by decide +kernel
theorem d12_openLinks_4 : zd cX12_openLinks 4 (.iload_n 2) 1 5 := by decide +kernel
theorem d12_openLinks_5 : zd cX12_openLinks 5 (.aload_n 0) 1 6 := by decide +kernel
theorem d12_openLinks_6 : zd cX12_openLinks 6 (.getfield 16) 3 9 := by decide +kernel
theorem d12_openLinks_9 : zj cX12_openLinks 9 (.if_icmp .ge 25) 25 12 34 := by decide +kernel
theorem d12_openLinks_12 : zd cX12_openLinks 12 (.iload_n 1) 1 13 := by decide +kernel
theorem d12_openLinks_13 : zd cX12_openLinks 13 (.aload_n 0) 1 14 := by decide +kernel
theorem d12_openLinks_14 : zd cX12_openLinks 14 (.iload_n 2) 1 15 := by decide +kernel
theorem d12_openLinks_15 : zd cX12_openLinks 15 (.invokevirtual 462) 3 18 := by decide +kernel
theorem d12_openLinks_18 : zj cX12_openLinks 18 (.ifCond .eq 7) 7 21 25 := by decide +kernel
theorem d12_openLinks_21 : zd cX12_openLinks 21 (.iconst 1) 1 22 := by decide +kernel
theorem d12_openLinks_22 : zj cX12_openLinks 22 (.goto 4) 4 25 26 := by decide +kernel
theorem d12_openLinks_25 : zd cX12_openLinks 25 (.iconst 0) 1 26 := by decide +kernel
theorem d12_openLinks_26 : zd cX12_openLinks 26 (.iadd) 1 27 := by decide +kernel
theorem d12_openLinks_27 : zd cX12_openLinks 27 (.istore_n 1) 1 28 := by decide +kernel
theorem d12_openLinks_28 : zd cX12_openLinks 28 (.iinc 2 1) 3 31 := by decide +kernel
theorem d12_openLinks_31 : zj cX12_openLinks 31 (.goto (-27)) (-27) 34 4 := by decide +kernel
theorem d12_openLinks_34 : zd cX12_openLinks 34 (.iload_n 1) 1 35 := by decide +kernel
theorem d12_openLinks_35 : zd cX12_openLinks 35 (.ireturn) 1 36 := by decide +kernel
set_option maxHeartbeats 4000000 in
set_option maxRecDepth 20000 in
theorem c12_openLinks (l : Launch) (D : zDt) (Sh : zSh) (top : Nat) (hO : zOK Sh) (o_ : Nat) (μ : zM) (r_ : Int32) (ho : (Sh o_).1 = 19) (h : f12_openLinks o_ μ = some r_) : zMet l D zK1 yX12_openLinks cX12_openLinks 3 (some .int) (zrm 3 64) [.ref o_] Sh top μ (some (.int r_)) Sh top μ 0 0 := by
  refine zMet_of (by decide) (Nat.le_of_ble_eq_true rfl) fun X hX1 hX2 fx fin => ?_
  subst hX1; subst hX2
  replace fx : zFix X cX12_openLinks RX12 (zrm 3 64) 3 := fx
  show zZ zK1 X (zT0 Sh top) μ 0 [(0, .ref o_)] []
  unfold f12_openLinks at h
  refine z_iconst fx (v := 0) ic0 d12_openLinks_0 ?_
  refine z_istore_n fx (k := 1) (i := 1) rfl rfl (lv' := [(0, .ref o_), (1, .int 0)]) rfl rfl d12_openLinks_1 ?_
  refine z_iconst fx (v := 0) ic0 d12_openLinks_2 ?_
  refine z_istore_n fx (k := 2) (i := 2) rfl rfl (lv' := [(0, .ref o_), (1, .int 0), (2, .int 0)]) rfl rfl d12_openLinks_3 ?_
  obtain ⟨v_n_3, v_l_4, e13, h⟩ := zinv2 h
  have kx4 : zZ zK1 X (zT0 Sh top) μ 34 [(0, .ref o_), (1, .int v_n_3), (2, .int v_l_4)] [] := by
    refine z_take 2 (lv' := [(0, .ref o_), (1, .int v_n_3)]) rfl ?_
    refine z_iload_n fx (k := 1) (i := 1) rfl rfl d12_openLinks_34 ?_
    cases h
    exact z_ireturn fx fin d12_openLinks_35
  clear h
  have klr3 : ∀ (n : Nat) (v_n_1 : Int32) (v_l_2 : Int32), zloop (fun s => f12_openLinks_L1 o_ μ s.1 s.2) n (v_n_1, v_l_2) = some (v_n_3, v_l_4) → zZ zK1 X (zT0 Sh top) μ 4 [(0, .ref o_), (1, .int v_n_1), (2, .int v_l_2)] [] := by
    intro n
    induction n with
    | zero => intro v_n_1 v_l_2 hl2; cases hl2
    | succ n ih5 =>
      intro v_n_1 v_l_2 hl2
      obtain ⟨y, e1, hl2⟩ := zloop_inv hl2
      replace e1 : f12_openLinks_L1 o_ μ v_n_1 v_l_2 = some y := e1
      unfold f12_openLinks_L1 at e1
      refine z_iload_n fx (k := 2) (i := 2) rfl rfl d12_openLinks_4 ?_
      refine z_aload_n fx (k := 0) (i := 0) rfl rfl d12_openLinks_5 ?_
      refine z_getI fx 12 2 1202 ho lf12_16 ⟨fk12_2, rfl⟩ d12_openLinks_6 ?_
      refine z_icmp_ge fx d12_openLinks_9 (fun c6 => ?_) (fun c6 => ?_)
      · replace e1 := zif_f c6 e1
        cases e1
        cases hl2
        exact kx4
      · replace e1 := zif_t c6 e1
        refine z_iload_n fx (k := 1) (i := 1) rfl rfl d12_openLinks_12 ?_
        obtain ⟨x5, e7, e1⟩ := zinv e1
        have k8 : zZ zK1 X (zT0 Sh top) μ 26 [(0, .ref o_), (1, .int v_n_1), (2, .int v_l_2)] [.int x5, .int v_n_1] := by
          refine z_iadd fx d12_openLinks_26 ?_
          obtain ⟨v_n_7, e11, e1⟩ := zinv e1
          replace e11 := Option.some.inj e11
          refine z_top (congrArg Value.int e11) ?_
          refine z_istore_n fx (k := 1) (i := 1) rfl rfl (lv' := [(0, .ref o_), (1, .int v_n_7), (2, .int v_l_2)]) rfl rfl d12_openLinks_27 ?_
          obtain ⟨v_l_8, e12, e1⟩ := zinv e1
          replace e12 := Option.some.inj e12
          refine z_iinc fx (i := 2) (x := v_l_2) (v := v_l_8) rfl (by rw [in1]; exact e12) rfl (lv' := [(0, .ref o_), (1, .int v_n_7), (2, .int v_l_8)]) rfl rfl d12_openLinks_28 ?_
          cases e1
          refine z_goto fx d12_openLinks_31 ?_
          exact ih5 _ _ hl2
        refine z_aload_n fx (k := 0) (i := 0) rfl rfl d12_openLinks_13 ?_
        refine z_iload_n fx (k := 2) (i := 2) rfl rfl d12_openLinks_14 ?_
        obtain ⟨t6, e9, e7⟩ := zinv e7
        refine z_cVr fx (c12_isOpenLink (zLo X) (zDo X) Sh top hO o_ v_l_2 μ _ ho e9) mv12_isOpenLink ml12_462 ho rfl rfl rfl rfl d12_openLinks_15 ?_
        refine z_ifb_eq fx d12_openLinks_18 (fun c10 => ?_) (fun c10 => ?_)
        · replace e7 := zif_f c10 e7
          refine z_iconst fx (v := 0) ic0 d12_openLinks_25 ?_
          cases e7
          exact k8
        · replace e7 := zif_t c10 e7
          refine z_iconst fx (v := 1) ic1 d12_openLinks_21 ?_
          cases e7
          refine z_goto fx d12_openLinks_22 ?_
          exact k8
  exact klr3 _ _ _ e13
theorem d12_has_0 : zd cX12_has 0 (.aload_n 0) 1 1 := by decide +kernel
theorem d12_has_1 : zd cX12_has 1 (.iconst 0) 1 2 := by decide +kernel
theorem d12_has_2 : zd cX12_has 2 (.putfield 144) 3 5 := by decide +kernel
theorem d12_has_5 : zd cX12_has 5 (.iload_n 1) 1 6 := by decide +kernel
theorem d12_has_6 : decode cX12_has 6 = .ok (.tableswitch 154 0 12 #[66, 71, 76, 81, 87, 93, 109, 122, 127, 133, 139, 144, 149], 66) := by decide +kernel
theorem d12_has_72 : zd cX12_has 72 (.aload_n 0) 1 73 := by decide +kernel
theorem d12_has_73 : zd cX12_has 73 (.getfield 13) 3 76 := by decide +kernel
theorem d12_has_76 : zd cX12_has 76 (.ireturn) 1 77 := by decide +kernel
theorem d12_has_77 : zd cX12_has 77 (.aload_n 0) 1 78 := by decide +kernel
theorem d12_has_78 : zd cX12_has 78 (.getfield 16) 3 81 := by decide +kernel
theorem d12_has_81 : zd cX12_has 81 (.ireturn) 1 82 := by decide +kernel
theorem d12_has_82 : zd cX12_has 82 (.aload_n 0) 1 83 := by decide +kernel
theorem d12_has_83 : zd cX12_has 83 (.getfield 19) 3 86 := by decide +kernel
theorem d12_has_86 : zd cX12_has 86 (.ireturn) 1 87 := by decide +kernel
theorem d12_has_87 : zd cX12_has 87 (.aload_n 0) 1 88 := by decide +kernel
theorem d12_has_88 : zd cX12_has 88 (.iconst 0) 1 89 := by decide +kernel
theorem d12_has_89 : zd cX12_has 89 (.invokevirtual 316) 3 92 := by decide +kernel
theorem d12_has_92 : zd cX12_has 92 (.ireturn) 1 93 := by decide +kernel
theorem d12_has_93 : zd cX12_has 93 (.aload_n 0) 1 94 := by decide +kernel
theorem d12_has_94 : zd cX12_has 94 (.iconst 2) 1 95 := by decide +kernel
theorem d12_has_95 : zd cX12_has 95 (.invokevirtual 316) 3 98 := by decide +kernel
theorem d12_has_98 : zd cX12_has 98 (.ireturn) 1 99 := by decide +kernel
theorem d12_has_99 : zd cX12_has 99 (.aload_n 0) 1 100 := by decide +kernel
theorem d12_has_100 : zd cX12_has 100 (.iconst 0) 1 101 := by decide +kernel
theorem d12_has_101 : zd cX12_has 101 (.iconst 0) 1 102 := by decide +kernel
theorem d12_has_102 : zd cX12_has 102 (.invokestatic 307) 3 105 := by decide +kernel
theorem d12_has_105 : zd cX12_has 105 (.aload_n 0) 1 106 := by decide +kernel
theorem d12_has_106 : zd cX12_has 106 (.getfield 13) 3 109 := by decide +kernel
theorem d12_has_109 : zd cX12_has 109 (.bipush 12) 2 111 := by decide +kernel
theorem d12_has_111 : zd cX12_has 111 (.invokevirtual 465) 3 114 := by decide +kernel
theorem d12_has_114 : zd cX12_has 114 (.ireturn) 1 115 := by decide +kernel
theorem d12_has_115 : zd cX12_has 115 (.aload_n 0) 1 116 := by decide +kernel
theorem d12_has_116 : zd cX12_has 116 (.sipush 964) 3 119 := by decide +kernel
theorem d12_has_119 : zd cX12_has 119 (.aload_n 0) 1 120 := by decide +kernel
theorem d12_has_120 : zd cX12_has 120 (.getfield 16) 3 123 := by decide +kernel
theorem d12_has_123 : zd cX12_has 123 (.iconst 1) 1 124 := by decide +kernel
theorem d12_has_124 : zd cX12_has 124 (.invokevirtual 465) 3 127 := by decide +kernel
theorem d12_has_127 : zd cX12_has 127 (.ireturn) 1 128 := by decide +kernel
theorem d12_has_128 : zd cX12_has 128 (.aload_n 0) 1 129 := by decide +kernel
theorem d12_has_129 : zd cX12_has 129 (.invokevirtual 468) 3 132 := by decide +kernel
theorem d12_has_132 : zd cX12_has 132 (.ireturn) 1 133 := by decide +kernel
theorem d12_has_133 : zd cX12_has 133 (.aload_n 0) 1 134 := by decide +kernel
theorem d12_has_134 : zd cX12_has 134 (.iconst 1) 1 135 := by decide +kernel
theorem d12_has_135 : zd cX12_has 135 (.invokevirtual 316) 3 138 := by decide +kernel
theorem d12_has_138 : zd cX12_has 138 (.ireturn) 1 139 := by decide +kernel
theorem d12_has_139 : zd cX12_has 139 (.aload_n 0) 1 140 := by decide +kernel
theorem d12_has_140 : zd cX12_has 140 (.iconst 3) 1 141 := by decide +kernel
theorem d12_has_141 : zd cX12_has 141 (.invokevirtual 316) 3 144 := by decide +kernel
theorem d12_has_144 : zd cX12_has 144 (.ireturn) 1 145 := by decide +kernel
theorem d12_has_145 : zd cX12_has 145 (.aload_n 0) 1 146 := by decide +kernel
theorem d12_has_146 : zd cX12_has 146 (.getfield 169) 3 149 := by decide +kernel
theorem d12_has_149 : zd cX12_has 149 (.ireturn) 1 150 := by decide +kernel
theorem d12_has_150 : zd cX12_has 150 (.aload_n 0) 1 151 := by decide +kernel
theorem d12_has_151 : zd cX12_has 151 (.getfield 147) 3 154 := by decide +kernel
theorem d12_has_154 : zd cX12_has 154 (.ireturn) 1 155 := by decide +kernel
theorem d12_has_155 : zd cX12_has 155 (.aload_n 0) 1 156 := by decide +kernel
theorem d12_has_156 : zd cX12_has 156 (.getfield 205) 3 159 := by decide +kernel
theorem d12_has_159 : zd cX12_has 159 (.ireturn) 1 160 := by decide +kernel
theorem d12_has_160 : zd cX12_has 160 (.iconst (-1)) 1 161 := by decide +kernel
theorem d12_has_161 : zd cX12_has 161 (.ireturn) 1 162 := by decide +kernel
set_option maxHeartbeats 4000000 in
set_option maxRecDepth 20000 in
theorem c12_has (l : Launch) (D : zDt) (Sh : zSh) (top : Nat) (hO : zOK Sh) (o_ : Nat) (v_what : Int32) (μ : zM) (r_ : Int32) (μ_ : zM) (ho : (Sh o_).1 = 19) (h : f12_has o_ v_what μ = some (r_, μ_)) : zMet l D zK1 yX12_has cX12_has 2 (some .int) (zrm 4 86) [.ref o_, .int v_what] Sh top μ (some (.int r_)) Sh top μ_ 0 0 := by
  refine zMet_of (by decide) (Nat.le_of_ble_eq_true rfl) fun X hX1 hX2 fx fin => ?_
  subst hX1; subst hX2
  replace fx : zFix X cX12_has RX12 (zrm 4 86) 2 := fx
  show zZ zK1 X (zT0 Sh top) μ 0 [(0, .ref o_), (1, .int v_what)] []
  unfold f12_has at h
  refine z_aload_n fx (k := 0) (i := 0) rfl rfl d12_has_0 ?_
  refine z_iconst fx (v := 0) ic0 d12_has_1 ?_
  obtain ⟨μ1, e1, h⟩ := zinv h
  refine z_putI fx (ci := 12) 44 ho lf12_144 fp12_44 e1 d12_has_2 ?_
  refine z_iload_n fx (k := 1) (i := 1) rfl rfl d12_has_5 ?_
  cases c2 : ceq v_what 0 with
  | true =>
    replace h := zif_t c2 h
    refine z_table fx d12_has_6 (off := 66) (tgt := 72) (by rw [ceq_of c2]; decide) (by decide) ?_
    refine z_aload_n fx (k := 0) (i := 0) rfl rfl d12_has_72 ?_
    refine z_getI fx 12 1 1201 ho lf12_13 ⟨fk12_1, rfl⟩ d12_has_73 ?_
    cases h
    exact z_ireturn fx fin d12_has_76
  | false =>
  replace h := zif_f c2 h
  cases c3 : ceq v_what 1 with
  | true =>
    replace h := zif_t c3 h
    refine z_table fx d12_has_6 (off := 71) (tgt := 77) (by rw [ceq_of c3]; decide) (by decide) ?_
    refine z_aload_n fx (k := 0) (i := 0) rfl rfl d12_has_77 ?_
    refine z_getI fx 12 2 1202 ho lf12_16 ⟨fk12_2, rfl⟩ d12_has_78 ?_
    cases h
    exact z_ireturn fx fin d12_has_81
  | false =>
  replace h := zif_f c3 h
  cases c4 : ceq v_what 2 with
  | true =>
    replace h := zif_t c4 h
    refine z_table fx d12_has_6 (off := 76) (tgt := 82) (by rw [ceq_of c4]; decide) (by decide) ?_
    refine z_aload_n fx (k := 0) (i := 0) rfl rfl d12_has_82 ?_
    refine z_getI fx 12 3 1203 ho lf12_19 ⟨fk12_3, rfl⟩ d12_has_83 ?_
    cases h
    exact z_ireturn fx fin d12_has_86
  | false =>
  replace h := zif_f c4 h
  cases c5 : ceq v_what 3 with
  | true =>
    replace h := zif_t c5 h
    refine z_table fx d12_has_6 (off := 81) (tgt := 87) (by rw [ceq_of c5]; decide) (by decide) ?_
    refine z_aload_n fx (k := 0) (i := 0) rfl rfl d12_has_87 ?_
    refine z_iconst fx (v := 0) ic0 d12_has_88 ?_
    obtain ⟨t2, e6, h⟩ := zinv h
    refine z_cVr fx (c12_its (zLo X) (zDo X) Sh top hO o_ 0 μ1 _ ho e6) mv12_its ml12_316 ho rfl rfl rfl rfl d12_has_89 ?_
    cases h
    exact z_ireturn fx fin d12_has_92
  | false =>
  replace h := zif_f c5 h
  cases c7 : ceq v_what 4 with
  | true =>
    replace h := zif_t c7 h
    refine z_table fx d12_has_6 (off := 87) (tgt := 93) (by rw [ceq_of c7]; decide) (by decide) ?_
    refine z_aload_n fx (k := 0) (i := 0) rfl rfl d12_has_93 ?_
    refine z_iconst fx (v := 2) ic2 d12_has_94 ?_
    obtain ⟨t3, e8, h⟩ := zinv h
    refine z_cVr fx (c12_its (zLo X) (zDo X) Sh top hO o_ 2 μ1 _ ho e8) mv12_its ml12_316 ho rfl rfl rfl rfl d12_has_95 ?_
    cases h
    exact z_ireturn fx fin d12_has_98
  | false =>
  replace h := zif_f c7 h
  cases c9 : ceq v_what 5 with
  | true =>
    replace h := zif_t c9 h
    refine z_table fx d12_has_6 (off := 93) (tgt := 99) (by rw [ceq_of c9]; decide) (by decide) ?_
    refine z_aload_n fx (k := 0) (i := 0) rfl rfl d12_has_99 ?_
    refine z_iconst fx (v := 0) ic0 d12_has_100 ?_
    refine z_iconst fx (v := 0) ic0 d12_has_101 ?_
    obtain ⟨t4, e10, h⟩ := zinv h
    refine z_cSr fx (c12_bridgeAt (zLo X) (zDo X) Sh top hO 0 0 μ1 _  e10) ms12_bridgeAt ml12_307 rfl rfl rfl rfl d12_has_102 ?_
    refine z_aload_n fx (k := 0) (i := 0) rfl rfl d12_has_105 ?_
    refine z_getI fx 12 1 1201 ho lf12_13 ⟨fk12_1, rfl⟩ d12_has_106 ?_
    refine z_bipush fx (v := 12) bp12 d12_has_109 ?_
    obtain ⟨t5, e11, h⟩ := zinv h
    refine z_cVr fx (c12_countOf (zLo X) (zDo X) Sh top hO o_ t4 (gF μ1 1201 o_) 12 μ1 _ ho e11) mv12_countOf ml12_465 ho rfl rfl rfl rfl d12_has_111 ?_
    cases h
    exact z_ireturn fx fin d12_has_114
  | false =>
  replace h := zif_f c9 h
  cases c12 : ceq v_what 6 with
  | true =>
    replace h := zif_t c12 h
    refine z_table fx d12_has_6 (off := 109) (tgt := 115) (by rw [ceq_of c12]; decide) (by decide) ?_
    refine z_aload_n fx (k := 0) (i := 0) rfl rfl d12_has_115 ?_
    refine z_sipush fx (v := 964) sp964 d12_has_116 ?_
    refine z_aload_n fx (k := 0) (i := 0) rfl rfl d12_has_119 ?_
    refine z_getI fx 12 2 1202 ho lf12_16 ⟨fk12_2, rfl⟩ d12_has_120 ?_
    refine z_iconst fx (v := 1) ic1 d12_has_123 ?_
    obtain ⟨t6, e13, h⟩ := zinv h
    refine z_cVr fx (c12_countOf (zLo X) (zDo X) Sh top hO o_ 964 (gF μ1 1202 o_) 1 μ1 _ ho e13) mv12_countOf ml12_465 ho rfl rfl rfl rfl d12_has_124 ?_
    cases h
    exact z_ireturn fx fin d12_has_127
  | false =>
  replace h := zif_f c12 h
  cases c14 : ceq v_what 7 with
  | true =>
    replace h := zif_t c14 h
    refine z_table fx d12_has_6 (off := 122) (tgt := 128) (by rw [ceq_of c14]; decide) (by decide) ?_
    refine z_aload_n fx (k := 0) (i := 0) rfl rfl d12_has_128 ?_
    obtain ⟨t7, e15, h⟩ := zinv h
    refine z_cVr fx (c12_openLinks (zLo X) (zDo X) Sh top hO o_ μ1 _ ho e15) mv12_openLinks ml12_468 ho rfl rfl rfl rfl d12_has_129 ?_
    cases h
    exact z_ireturn fx fin d12_has_132
  | false =>
  replace h := zif_f c14 h
  cases c16 : ceq v_what 8 with
  | true =>
    replace h := zif_t c16 h
    refine z_table fx d12_has_6 (off := 127) (tgt := 133) (by rw [ceq_of c16]; decide) (by decide) ?_
    refine z_aload_n fx (k := 0) (i := 0) rfl rfl d12_has_133 ?_
    refine z_iconst fx (v := 1) ic1 d12_has_134 ?_
    obtain ⟨t8, e17, h⟩ := zinv h
    refine z_cVr fx (c12_its (zLo X) (zDo X) Sh top hO o_ 1 μ1 _ ho e17) mv12_its ml12_316 ho rfl rfl rfl rfl d12_has_135 ?_
    cases h
    exact z_ireturn fx fin d12_has_138
  | false =>
  replace h := zif_f c16 h
  cases c18 : ceq v_what 9 with
  | true =>
    replace h := zif_t c18 h
    refine z_table fx d12_has_6 (off := 133) (tgt := 139) (by rw [ceq_of c18]; decide) (by decide) ?_
    refine z_aload_n fx (k := 0) (i := 0) rfl rfl d12_has_139 ?_
    refine z_iconst fx (v := 3) ic3 d12_has_140 ?_
    obtain ⟨t9, e19, h⟩ := zinv h
    refine z_cVr fx (c12_its (zLo X) (zDo X) Sh top hO o_ 3 μ1 _ ho e19) mv12_its ml12_316 ho rfl rfl rfl rfl d12_has_141 ?_
    cases h
    exact z_ireturn fx fin d12_has_144
  | false =>
  replace h := zif_f c18 h
  cases c20 : ceq v_what 10 with
  | true =>
    replace h := zif_t c20 h
    refine z_table fx d12_has_6 (off := 139) (tgt := 145) (by rw [ceq_of c20]; decide) (by decide) ?_
    refine z_aload_n fx (k := 0) (i := 0) rfl rfl d12_has_145 ?_
    refine z_getI fx 12 52 1252 ho lf12_169 ⟨fk12_52, rfl⟩ d12_has_146 ?_
    cases h
    exact z_ireturn fx fin d12_has_149
  | false =>
  replace h := zif_f c20 h
  cases c21 : ceq v_what 11 with
  | true =>
    replace h := zif_t c21 h
    refine z_table fx d12_has_6 (off := 144) (tgt := 150) (by rw [ceq_of c21]; decide) (by decide) ?_
    refine z_aload_n fx (k := 0) (i := 0) rfl rfl d12_has_150 ?_
    refine z_getI fx 12 45 1245 ho lf12_147 ⟨fk12_45, rfl⟩ d12_has_151 ?_
    cases h
    exact z_ireturn fx fin d12_has_154
  | false =>
  replace h := zif_f c21 h
  cases c22 : ceq v_what 12 with
  | true =>
    replace h := zif_t c22 h
    refine z_table fx d12_has_6 (off := 149) (tgt := 155) (by rw [ceq_of c22]; decide) (by decide) ?_
    refine z_aload_n fx (k := 0) (i := 0) rfl rfl d12_has_155 ?_
    refine z_getI fx 12 64 1264 ho lf12_205 ⟨fk12_64, rfl⟩ d12_has_156 ?_
    cases h
    exact z_ireturn fx fin d12_has_159
  | false =>
  replace h := zif_f c22 h
  have hn0 := zne c2 (k := 0) (by decide)
  have hn1 := zne c3 (k := 1) (by decide)
  have hn2 := zne c4 (k := 2) (by decide)
  have hn3 := zne c5 (k := 3) (by decide)
  have hn4 := zne c7 (k := 4) (by decide)
  have hn5 := zne c9 (k := 5) (by decide)
  have hn6 := zne c12 (k := 6) (by decide)
  have hn7 := zne c14 (k := 7) (by decide)
  have hn8 := zne c16 (k := 8) (by decide)
  have hn9 := zne c18 (k := 9) (by decide)
  have hn10 := zne c20 (k := 10) (by decide)
  have hn11 := zne c21 (k := 11) (by decide)
  have hn12 := zne c22 (k := 12) (by decide)
  refine z_table fx d12_has_6 (off := 154) (tgt := 160) ⟨zsw_out (by omega), by decide⟩ (by decide) ?_
  refine z_iconst fx (v := (-1)) icm1 d12_has_160 ?_
  cases h
  exact z_ireturn fx fin d12_has_161
theorem d12_letter_0 : zd cX12_letter 0 (.iload_n 1) 1 1 := by decide +kernel
theorem d12_letter_1 : zd cX12_letter 1 (.iconst 0) 1 2 := by decide +kernel
theorem d12_letter_2 : zd cX12_letter 2 (.iconst 1) 1 3 := by decide +kernel
theorem d12_letter_3 : zd cX12_letter 3 (.invokestatic 250) 3 6 := by decide +kernel
theorem d12_letter_6 : zj cX12_letter 6 (.ifCond .eq 37) 37 9 43 := by decide +kernel
theorem d12_letter_9 : zd cX12_letter 9 (.iload_n 2) 1 10 := by decide +kernel
theorem d12_letter_10 : zd cX12_letter 10 (.iconst 0) 1 11 := by decide +kernel
theorem d12_letter_11 : zd cX12_letter 11 (.iload_n 1) 1 12 := by decide +kernel
theorem d12_letter_12 : zj cX12_letter 12 (.ifCond .ne 10) 10 15 22 := by decide +kernel
theorem d12_letter_15 : zd cX12_letter 15 (.aload_n 0) 1 16 := by decide +kernel
theorem d12_letter_16 : zd cX12_letter 16 (.getfield 13) 3 19 := by decide +kernel
theorem d12_letter_19 : zj cX12_letter 19 (.goto 7) 7 22 26 := by decide +kernel
theorem d12_letter_22 : zd cX12_letter 22 (.aload_n 0) 1 23 := by decide +kernel
theorem d12_letter_23 : zd cX12_letter 23 (.getfield 19) 3 26 := by decide +kernel
theorem d12_letter_26 : zd cX12_letter 26 (.iconst 1) 1 27 := by decide +kernel
theorem d12_letter_27 : zd cX12_letter 27 (.isub) 1 28 := by decide +kernel
theorem d12_letter_28 : zd cX12_letter 28 (.invokestatic 250) 3 31 := by decide +kernel
theorem d12_letter_31 : zj cX12_letter 31 (.ifCond .eq 12) 12 34 43 := by decide +kernel
theorem d12_letter_34 : zd cX12_letter 34 (.iload_n 3) 1 35 := by decide +kernel
theorem d12_letter_35 : zd cX12_letter 35 (.iconst 0) 1 36 := by decide +kernel
theorem d12_letter_36 : zd cX12_letter 36 (.iconst 5) 1 37 := by decide +kernel
theorem d12_letter_37 : zd cX12_letter 37 (.invokestatic 250) 3 40 := by decide +kernel
theorem d12_letter_40 : zj cX12_letter 40 (.ifCond .ne 5) 5 43 45 := by decide +kernel
theorem d12_letter_43 : zd cX12_letter 43 (.iconst (-1)) 1 44 := by decide +kernel
theorem d12_letter_44 : zd cX12_letter 44 (.ireturn) 1 45 := by decide +kernel
theorem d12_letter_45 : zd cX12_letter 45 (.aload_n 0) 1 46 := by decide +kernel
theorem d12_letter_46 : zd cX12_letter 46 (.getfield 53) 3 49 := by decide +kernel
theorem d12_letter_49 : zd cX12_letter 49 (.bipush 6) 2 51 := by decide +kernel
theorem d12_letter_51 : zd cX12_letter 51 (.bipush 8) 2 53 := by decide +kernel
theorem d12_letter_53 : zd cX12_letter 53 (.iload_n 1) 1 54 := by decide +kernel
theorem d12_letter_54 : zd cX12_letter 54 (.imul) 1 55 := by decide +kernel
theorem d12_letter_55 : zd cX12_letter 55 (.iload_n 2) 1 56 := by decide +kernel
theorem d12_letter_56 : zd cX12_letter 56 (.iadd) 1 57 := by decide +kernel
theorem d12_letter_57 : zd cX12_letter 57 (.imul) 1 58 := by decide +kernel
theorem d12_letter_58 : zd cX12_letter 58 (.iload_n 3) 1 59 := by decide +kernel
theorem d12_letter_59 : zd cX12_letter 59 (.iadd) 1 60 := by decide +kernel
theorem d12_letter_60 : zd cX12_letter 60 (.iaload) 1 61 := by decide +kernel
theorem d12_letter_61 : zd cX12_letter 61 (.ireturn) 1 62 := by decide +kernel
set_option maxHeartbeats 4000000 in
set_option maxRecDepth 20000 in
theorem c12_letter (l : Launch) (D : zDt) (Sh : zSh) (top : Nat) (hO : zOK Sh) (o_ : Nat) (v_kind : Int32) (v_which : Int32) (v_k : Int32) (μ : zM) (r_ : Int32) (ho : (Sh o_).1 = 19) (h : f12_letter o_ v_kind v_which v_k μ = some r_) : zMet l D zK1 yX12_letter cX12_letter 4 (some .int) (zrm 1 22) [.ref o_, .int v_kind, .int v_which, .int v_k] Sh top μ (some (.int r_)) Sh top μ 0 0 := by
  refine zMet_of (by decide) (Nat.le_of_ble_eq_true rfl) fun X hX1 hX2 fx fin => ?_
  subst hX1; subst hX2
  replace fx : zFix X cX12_letter RX12 (zrm 1 22) 4 := fx
  show zZ zK1 X (zT0 Sh top) μ 0 [(0, .ref o_), (1, .int v_kind), (2, .int v_which), (3, .int v_k)] []
  unfold f12_letter at h
  obtain ⟨b1, e2, h⟩ := zinv h
  have kt1 : b1 = true → zZ zK1 X (zT0 Sh top) μ 43 [(0, .ref o_), (1, .int v_kind), (2, .int v_which), (3, .int v_k)] [] := by
    intro hc
    replace h := zif_t hc h
    refine z_iconst fx (v := (-1)) icm1 d12_letter_43 ?_
    cases h
    exact z_ireturn fx fin d12_letter_44
  have kf1 : b1 = false → zZ zK1 X (zT0 Sh top) μ 45 [(0, .ref o_), (1, .int v_kind), (2, .int v_which), (3, .int v_k)] [] := by
    intro hc
    replace h := zif_f hc h
    refine z_aload_n fx (k := 0) (i := 0) rfl rfl d12_letter_45 ?_
    refine z_getO fx 12 14 9 ho lf12_53 fk12_14 d12_letter_46 ?_
    refine z_bipush fx (v := 6) bp6 d12_letter_49 ?_
    refine z_bipush fx (v := 8) bp8 d12_letter_51 ?_
    refine z_iload_n fx (k := 1) (i := 1) rfl rfl d12_letter_53 ?_
    refine z_imul fx d12_letter_54 ?_
    refine z_iload_n fx (k := 2) (i := 2) rfl rfl d12_letter_55 ?_
    refine z_iadd fx d12_letter_56 ?_
    refine z_imul fx d12_letter_57 ?_
    refine z_iload_n fx (k := 3) (i := 3) rfl rfl d12_letter_58 ?_
    refine z_iadd fx d12_letter_59 ?_
    obtain ⟨t2, e3, h⟩ := zinv h
    refine z_iald fx (ok12_14 hO ho) e3 d12_letter_60 ?_
    cases h
    exact z_ireturn fx fin d12_letter_61
  clear h
  obtain ⟨b3, e4, e2⟩ := zinv e2
  have kf5 : b3 = false → zZ zK1 X (zT0 Sh top) μ 34 [(0, .ref o_), (1, .int v_kind), (2, .int v_which), (3, .int v_k)] [] := by
    intro hc
    replace e2 := zif_f hc e2
    refine z_iload_n fx (k := 3) (i := 3) rfl rfl d12_letter_34 ?_
    refine z_iconst fx (v := 0) ic0 d12_letter_35 ?_
    refine z_iconst fx (v := 5) ic5 d12_letter_36 ?_
    obtain ⟨t4, e6, e2⟩ := zinv e2
    refine z_cSr fx (c12_isIn (zLo X) (zDo X) Sh top hO v_k 0 5 μ _  e6) ms12_isIn ml12_250 rfl rfl rfl rfl d12_letter_37 ?_
    cases e2
    refine z_ifb_ne fx d12_letter_40 (fun c7 => ?_) (fun c7 => ?_)
    · exact kf1 (by rw [c7]; rfl)
    · exact kt1 (by rw [c7]; rfl)
  have kt5 : b3 = true → zZ zK1 X (zT0 Sh top) μ 43 [(0, .ref o_), (1, .int v_kind), (2, .int v_which), (3, .int v_k)] [] := by
    intro hc
    replace e2 := zif_t hc e2
    cases e2
    exact kt1 rfl
  clear e2
  obtain ⟨b5, e8, e4⟩ := zinv e4
  have kf9 : b5 = false → zZ zK1 X (zT0 Sh top) μ 9 [(0, .ref o_), (1, .int v_kind), (2, .int v_which), (3, .int v_k)] [] := by
    intro hc
    replace e4 := zif_f hc e4
    refine z_iload_n fx (k := 2) (i := 2) rfl rfl d12_letter_9 ?_
    refine z_iconst fx (v := 0) ic0 d12_letter_10 ?_
    obtain ⟨x6, e10, e4⟩ := zinv e4
    have k11 : zZ zK1 X (zT0 Sh top) μ 26 [(0, .ref o_), (1, .int v_kind), (2, .int v_which), (3, .int v_k)] [.int x6, .int 0, .int v_which] := by
      refine z_iconst fx (v := 1) ic1 d12_letter_26 ?_
      refine z_isub fx d12_letter_27 ?_
      obtain ⟨t7, e13, e4⟩ := zinv e4
      refine z_cSr fx (c12_isIn (zLo X) (zDo X) Sh top hO v_which 0 (x6 - 1) μ _  e13) ms12_isIn ml12_250 rfl rfl rfl rfl d12_letter_28 ?_
      cases e4
      refine z_ifb_eq fx d12_letter_31 (fun c14 => ?_) (fun c14 => ?_)
      · exact kt5 (by rw [c14]; rfl)
      · exact kf5 (by rw [c14]; rfl)
    refine z_iload_n fx (k := 1) (i := 1) rfl rfl d12_letter_11 ?_
    refine z_if_ne fx d12_letter_12 (fun c12 => ?_) (fun c12 => ?_)
    · replace e10 := zif_f c12 e10
      refine z_aload_n fx (k := 0) (i := 0) rfl rfl d12_letter_22 ?_
      refine z_getI fx 12 3 1203 ho lf12_19 ⟨fk12_3, rfl⟩ d12_letter_23 ?_
      cases e10
      exact k11
    · replace e10 := zif_t c12 e10
      refine z_aload_n fx (k := 0) (i := 0) rfl rfl d12_letter_15 ?_
      refine z_getI fx 12 1 1201 ho lf12_13 ⟨fk12_1, rfl⟩ d12_letter_16 ?_
      cases e10
      refine z_goto fx d12_letter_19 ?_
      exact k11
  have kt9 : b5 = true → zZ zK1 X (zT0 Sh top) μ 43 [(0, .ref o_), (1, .int v_kind), (2, .int v_which), (3, .int v_k)] [] := by
    intro hc
    replace e4 := zif_t hc e4
    cases e4
    exact kt5 rfl
  clear e4
  refine z_iload_n fx (k := 1) (i := 1) rfl rfl d12_letter_0 ?_
  refine z_iconst fx (v := 0) ic0 d12_letter_1 ?_
  refine z_iconst fx (v := 1) ic1 d12_letter_2 ?_
  obtain ⟨t8, e15, e8⟩ := zinv e8
  refine z_cSr fx (c12_isIn (zLo X) (zDo X) Sh top hO v_kind 0 1 μ _  e15) ms12_isIn ml12_250 rfl rfl rfl rfl d12_letter_3 ?_
  cases e8
  refine z_ifb_eq fx d12_letter_6 (fun c16 => ?_) (fun c16 => ?_)
  · exact kt9 (by rw [c16]; rfl)
  · exact kf9 (by rw [c16]; rfl)
theorem d12_isLink_0 : zd cX12_isLink 0 (.iload_n 1) 1 1 := by decide +kernel
theorem d12_isLink_1 : zd cX12_isLink 1 (.iconst 0) 1 2 := by decide +kernel
theorem d12_isLink_2 : zd cX12_isLink 2 (.aload_n 0) 1 3 := by decide +kernel
theorem d12_isLink_3 : zd cX12_isLink 3 (.getfield 16) 3 6 := by decide +kernel
theorem d12_isLink_6 : zd cX12_isLink 6 (.iconst 1) 1 7 := by decide +kernel
theorem d12_isLink_7 : zd cX12_isLink 7 (.isub) 1 8 := by decide +kernel
theorem d12_isLink_8 : zd cX12_isLink 8 (.invokestatic 250) 3 11 := by decide +kernel
theorem d12_isLink_11 : zd cX12_isLink 11 (.ireturn) 1 12 := by decide +kernel
set_option maxHeartbeats 4000000 in
set_option maxRecDepth 20000 in
theorem c12_isLink (l : Launch) (D : zDt) (Sh : zSh) (top : Nat) (hO : zOK Sh) (o_ : Nat) (v_l : Int32) (μ : zM) (r_ : Bool) (ho : (Sh o_).1 = 19) (h : f12_isLink o_ v_l μ = some r_) : zMet l D zK1 yX12_isLink cX12_isLink 2 (some .boolean) (zrm 1 22) [.ref o_, .int v_l] Sh top μ (some (.int (bI r_))) Sh top μ 0 0 := by
  refine zMet_of (by decide) (Nat.le_of_ble_eq_true rfl) fun X hX1 hX2 fx fin => ?_
  subst hX1; subst hX2
  replace fx : zFix X cX12_isLink RX12 (zrm 1 22) 2 := fx
  show zZ zK1 X (zT0 Sh top) μ 0 [(0, .ref o_), (1, .int v_l)] []
  unfold f12_isLink at h
  refine z_iload_n fx (k := 1) (i := 1) rfl rfl d12_isLink_0 ?_
  refine z_iconst fx (v := 0) ic0 d12_isLink_1 ?_
  refine z_aload_n fx (k := 0) (i := 0) rfl rfl d12_isLink_2 ?_
  refine z_getI fx 12 2 1202 ho lf12_16 ⟨fk12_2, rfl⟩ d12_isLink_3 ?_
  refine z_iconst fx (v := 1) ic1 d12_isLink_6 ?_
  refine z_isub fx d12_isLink_7 ?_
  obtain ⟨t1, e1, h⟩ := zinv h
  refine z_cSr fx (c12_isIn (zLo X) (zDo X) Sh top hO v_l 0 ((gF μ 1202 o_) - 1) μ _  e1) ms12_isIn ml12_250 rfl rfl rfl rfl d12_isLink_8 ?_
  cases h
  exact z_zreturn fx fin d12_isLink_11
theorem d12_isBridge_0 : zd cX12_isBridge 0 (.iload_n 1) 1 1 := by decide +kernel
theorem d12_isBridge_1 : zd cX12_isBridge 1 (.iconst 0) 1 2 := by decide +kernel
theorem d12_isBridge_2 : zd cX12_isBridge 2 (.aload_n 0) 1 3 := by decide +kernel
theorem d12_isBridge_3 : zd cX12_isBridge 3 (.getfield 13) 3 6 := by decide +kernel
theorem d12_isBridge_6 : zd cX12_isBridge 6 (.iconst 1) 1 7 := by decide +kernel
theorem d12_isBridge_7 : zd cX12_isBridge 7 (.isub) 1 8 := by decide +kernel
theorem d12_isBridge_8 : zd cX12_isBridge 8 (.invokestatic 250) 3 11 := by decide +kernel
theorem d12_isBridge_11 : zd cX12_isBridge 11 (.ireturn) 1 12 := by decide +kernel
set_option maxHeartbeats 4000000 in
set_option maxRecDepth 20000 in
theorem c12_isBridge (l : Launch) (D : zDt) (Sh : zSh) (top : Nat) (hO : zOK Sh) (o_ : Nat) (v_b : Int32) (μ : zM) (r_ : Bool) (ho : (Sh o_).1 = 19) (h : f12_isBridge o_ v_b μ = some r_) : zMet l D zK1 yX12_isBridge cX12_isBridge 2 (some .boolean) (zrm 1 22) [.ref o_, .int v_b] Sh top μ (some (.int (bI r_))) Sh top μ 0 0 := by
  refine zMet_of (by decide) (Nat.le_of_ble_eq_true rfl) fun X hX1 hX2 fx fin => ?_
  subst hX1; subst hX2
  replace fx : zFix X cX12_isBridge RX12 (zrm 1 22) 2 := fx
  show zZ zK1 X (zT0 Sh top) μ 0 [(0, .ref o_), (1, .int v_b)] []
  unfold f12_isBridge at h
  refine z_iload_n fx (k := 1) (i := 1) rfl rfl d12_isBridge_0 ?_
  refine z_iconst fx (v := 0) ic0 d12_isBridge_1 ?_
  refine z_aload_n fx (k := 0) (i := 0) rfl rfl d12_isBridge_2 ?_
  refine z_getI fx 12 1 1201 ho lf12_13 ⟨fk12_1, rfl⟩ d12_isBridge_3 ?_
  refine z_iconst fx (v := 1) ic1 d12_isBridge_6 ?_
  refine z_isub fx d12_isBridge_7 ?_
  obtain ⟨t1, e1, h⟩ := zinv h
  refine z_cSr fx (c12_isIn (zLo X) (zDo X) Sh top hO v_b 0 ((gF μ 1201 o_) - 1) μ _  e1) ms12_isIn ml12_250 rfl rfl rfl rfl d12_isBridge_8 ?_
  cases h
  exact z_zreturn fx fin d12_isBridge_11
theorem d12_isHost_0 : zd cX12_isHost 0 (.iload_n 1) 1 1 := by decide +kernel
theorem d12_isHost_1 : zd cX12_isHost 1 (.iconst 0) 1 2 := by decide +kernel
theorem d12_isHost_2 : zd cX12_isHost 2 (.aload_n 0) 1 3 := by decide +kernel
theorem d12_isHost_3 : zd cX12_isHost 3 (.getfield 19) 3 6 := by decide +kernel
theorem d12_isHost_6 : zd cX12_isHost 6 (.iconst 1) 1 7 := by decide +kernel
theorem d12_isHost_7 : zd cX12_isHost 7 (.isub) 1 8 := by decide +kernel
theorem d12_isHost_8 : zd cX12_isHost 8 (.invokestatic 250) 3 11 := by decide +kernel
theorem d12_isHost_11 : zd cX12_isHost 11 (.ireturn) 1 12 := by decide +kernel
set_option maxHeartbeats 4000000 in
set_option maxRecDepth 20000 in
theorem c12_isHost (l : Launch) (D : zDt) (Sh : zSh) (top : Nat) (hO : zOK Sh) (o_ : Nat) (v_h : Int32) (μ : zM) (r_ : Bool) (ho : (Sh o_).1 = 19) (h : f12_isHost o_ v_h μ = some r_) : zMet l D zK1 yX12_isHost cX12_isHost 2 (some .boolean) (zrm 1 22) [.ref o_, .int v_h] Sh top μ (some (.int (bI r_))) Sh top μ 0 0 := by
  refine zMet_of (by decide) (Nat.le_of_ble_eq_true rfl) fun X hX1 hX2 fx fin => ?_
  subst hX1; subst hX2
  replace fx : zFix X cX12_isHost RX12 (zrm 1 22) 2 := fx
  show zZ zK1 X (zT0 Sh top) μ 0 [(0, .ref o_), (1, .int v_h)] []
  unfold f12_isHost at h
  refine z_iload_n fx (k := 1) (i := 1) rfl rfl d12_isHost_0 ?_
  refine z_iconst fx (v := 0) ic0 d12_isHost_1 ?_
  refine z_aload_n fx (k := 0) (i := 0) rfl rfl d12_isHost_2 ?_
  refine z_getI fx 12 3 1203 ho lf12_19 ⟨fk12_3, rfl⟩ d12_isHost_3 ?_
  refine z_iconst fx (v := 1) ic1 d12_isHost_6 ?_
  refine z_isub fx d12_isHost_7 ?_
  obtain ⟨t1, e1, h⟩ := zinv h
  refine z_cSr fx (c12_isIn (zLo X) (zDo X) Sh top hO v_h 0 ((gF μ 1203 o_) - 1) μ _  e1) ms12_isIn ml12_250 rfl rfl rfl rfl d12_isHost_8 ?_
  cases h
  exact z_zreturn fx fin d12_isHost_11
theorem d12_isPort_0 : zd cX12_isPort 0 (.aload_n 0) 1 1 := by decide +kernel
theorem d12_isPort_1 : zd cX12_isPort 1 (.iload_n 1) 1 2 := by decide +kernel
theorem d12_isPort_2 : zd cX12_isPort 2 (.invokevirtual 471) 3 5 := by decide +kernel
theorem d12_isPort_5 : zj cX12_isPort 5 (.ifCond .eq 23) 23 8 28 := by decide +kernel
theorem d12_isPort_8 : zd cX12_isPort 8 (.iload_n 2) 1 9 := by decide +kernel
theorem d12_isPort_9 : zd cX12_isPort 9 (.iconst 0) 1 10 := by decide +kernel
theorem d12_isPort_10 : zd cX12_isPort 10 (.aload_n 0) 1 11 := by decide +kernel
theorem d12_isPort_11 : zd cX12_isPort 11 (.getfield 35) 3 14 := by decide +kernel
theorem d12_isPort_14 : zd cX12_isPort 14 (.iload_n 1) 1 15 := by decide +kernel
theorem d12_isPort_15 : zd cX12_isPort 15 (.iaload) 1 16 := by decide +kernel
theorem d12_isPort_16 : zd cX12_isPort 16 (.iconst 1) 1 17 := by decide +kernel
theorem d12_isPort_17 : zd cX12_isPort 17 (.isub) 1 18 := by decide +kernel
theorem d12_isPort_18 : zd cX12_isPort 18 (.invokestatic 250) 3 21 := by decide +kernel
theorem d12_isPort_21 : zj cX12_isPort 21 (.ifCond .eq 7) 7 24 28 := by decide +kernel
theorem d12_isPort_24 : zd cX12_isPort 24 (.iconst 1) 1 25 := by decide +kernel
theorem d12_isPort_25 : zj cX12_isPort 25 (.goto 4) 4 28 29 := by decide +kernel
theorem d12_isPort_28 : zd cX12_isPort 28 (.iconst 0) 1 29 := by decide +kernel
theorem d12_isPort_29 : zd cX12_isPort 29 (.ireturn) 1 30 := by decide +kernel
set_option maxHeartbeats 4000000 in
set_option maxRecDepth 20000 in
theorem c12_isPort (l : Launch) (D : zDt) (Sh : zSh) (top : Nat) (hO : zOK Sh) (o_ : Nat) (v_b : Int32) (v_p : Int32) (μ : zM) (r_ : Bool) (ho : (Sh o_).1 = 19) (h : f12_isPort o_ v_b v_p μ = some r_) : zMet l D zK1 yX12_isPort cX12_isPort 3 (some .boolean) (zrm 2 43) [.ref o_, .int v_b, .int v_p] Sh top μ (some (.int (bI r_))) Sh top μ 0 0 := by
  refine zMet_of (by decide) (Nat.le_of_ble_eq_true rfl) fun X hX1 hX2 fx fin => ?_
  subst hX1; subst hX2
  replace fx : zFix X cX12_isPort RX12 (zrm 2 43) 3 := fx
  show zZ zK1 X (zT0 Sh top) μ 0 [(0, .ref o_), (1, .int v_b), (2, .int v_p)] []
  unfold f12_isPort at h
  obtain ⟨b1, e1, h⟩ := zinv h
  have k2 : zZ zK1 X (zT0 Sh top) μ 29 [(0, .ref o_), (1, .int v_b), (2, .int v_p)] [.int (bI b1)] := by
    cases h
    exact z_zreturn fx fin d12_isPort_29
  have kt3 : b1 = true → zZ zK1 X (zT0 Sh top) μ 24 [(0, .ref o_), (1, .int v_b), (2, .int v_p)] [] := by
    intro hc
    refine z_iconst fx (v := 1) ic1 d12_isPort_24 ?_
    refine z_goto fx d12_isPort_25 ?_
    exact z_top (congrArg Value.int (show 1 = bI b1 by rw [hc]; rfl)) k2
  have kf3 : b1 = false → zZ zK1 X (zT0 Sh top) μ 28 [(0, .ref o_), (1, .int v_b), (2, .int v_p)] [] := by
    intro hc
    refine z_iconst fx (v := 0) ic0 d12_isPort_28 ?_
    exact z_top (congrArg Value.int (show 0 = bI b1 by rw [hc]; rfl)) k2
  obtain ⟨b2, e4, e1⟩ := zinv e1
  have kt5 : b2 = true → zZ zK1 X (zT0 Sh top) μ 8 [(0, .ref o_), (1, .int v_b), (2, .int v_p)] [] := by
    intro hc
    replace e1 := zif_t hc e1
    refine z_iload_n fx (k := 2) (i := 2) rfl rfl d12_isPort_8 ?_
    refine z_iconst fx (v := 0) ic0 d12_isPort_9 ?_
    refine z_aload_n fx (k := 0) (i := 0) rfl rfl d12_isPort_10 ?_
    refine z_getO fx 12 8 3 ho lf12_35 fk12_8 d12_isPort_11 ?_
    refine z_iload_n fx (k := 1) (i := 1) rfl rfl d12_isPort_14 ?_
    obtain ⟨t3, e6, e1⟩ := zinv e1
    refine z_iald fx (ok12_8 hO ho) e6 d12_isPort_15 ?_
    refine z_iconst fx (v := 1) ic1 d12_isPort_16 ?_
    refine z_isub fx d12_isPort_17 ?_
    obtain ⟨t4, e7, e1⟩ := zinv e1
    refine z_cSr fx (c12_isIn (zLo X) (zDo X) Sh top hO v_p 0 (t3 - 1) μ _  e7) ms12_isIn ml12_250 rfl rfl rfl rfl d12_isPort_18 ?_
    cases e1
    refine z_ifb_eq fx d12_isPort_21 (fun c8 => ?_) (fun c8 => ?_)
    · exact kf3 c8
    · exact kt3 c8
  have kf5 : b2 = false → zZ zK1 X (zT0 Sh top) μ 28 [(0, .ref o_), (1, .int v_b), (2, .int v_p)] [] := by
    intro hc
    replace e1 := zif_f hc e1
    cases e1
    exact kf3 rfl
  clear e1
  refine z_aload_n fx (k := 0) (i := 0) rfl rfl d12_isPort_0 ?_
  refine z_iload_n fx (k := 1) (i := 1) rfl rfl d12_isPort_1 ?_
  obtain ⟨t5, e9, e4⟩ := zinv e4
  refine z_cVr fx (c12_isBridge (zLo X) (zDo X) Sh top hO o_ v_b μ _ ho e9) mv12_isBridge ml12_471 ho rfl rfl rfl rfl d12_isPort_2 ?_
  cases e4
  refine z_ifb_eq fx d12_isPort_5 (fun c10 => ?_) (fun c10 => ?_)
  · exact kf5 c10
  · exact kt5 c10
theorem d12_link_0 : zd cX12_link 0 (.aload_n 0) 1 1 := by decide +kernel
theorem d12_link_1 : zd cX12_link 1 (.iconst 0) 1 2 := by decide +kernel
theorem d12_link_2 : zd cX12_link 2 (.putfield 144) 3 5 := by decide +kernel
theorem d12_link_5 : zd cX12_link 5 (.aload_n 0) 1 6 := by decide +kernel
theorem d12_link_6 : zd cX12_link 6 (.iload_n 1) 1 7 := by decide +kernel
theorem d12_link_7 : zd cX12_link 7 (.invokevirtual 474) 3 10 := by decide +kernel
theorem d12_link_10 : zj cX12_link 10 (.ifCond .ne 5) 5 13 15 := by decide +kernel
theorem d12_link_13 : zd cX12_link 13 (.iconst (-1)) 1 14 := by decide +kernel
theorem d12_link_14 : zd cX12_link 14 (.ireturn) 1 15 := by decide +kernel
theorem d12_link_15 : zd cX12_link 15 (.iload_n 2) 1 16 := by decide +kernel
theorem d12_link_16 : decode cX12_link 16 = .ok (.tableswitch 70 4 7 #[32, 39, 46, 56], 32) := by decide +kernel
theorem d12_link_48 : zd cX12_link 48 (.aload_n 0) 1 49 := by decide +kernel
theorem d12_link_49 : zd cX12_link 49 (.getfield 44) 3 52 := by decide +kernel
theorem d12_link_52 : zd cX12_link 52 (.iload_n 1) 1 53 := by decide +kernel
theorem d12_link_53 : zd cX12_link 53 (.iaload) 1 54 := by decide +kernel
theorem d12_link_54 : zd cX12_link 54 (.ireturn) 1 55 := by decide +kernel
theorem d12_link_55 : zd cX12_link 55 (.aload_n 0) 1 56 := by decide +kernel
theorem d12_link_56 : zd cX12_link 56 (.getfield 47) 3 59 := by decide +kernel
theorem d12_link_59 : zd cX12_link 59 (.iload_n 1) 1 60 := by decide +kernel
theorem d12_link_60 : zd cX12_link 60 (.iaload) 1 61 := by decide +kernel
theorem d12_link_61 : zd cX12_link 61 (.ireturn) 1 62 := by decide +kernel
theorem d12_link_62 : zd cX12_link 62 (.aload_n 0) 1 63 := by decide +kernel
theorem d12_link_63 : zd cX12_link 63 (.sipush 964) 3 66 := by decide +kernel
theorem d12_link_66 : zd cX12_link 66 (.iload_n 1) 1 67 := by decide +kernel
theorem d12_link_67 : zd cX12_link 67 (.iadd) 1 68 := by decide +kernel
theorem d12_link_68 : zd cX12_link 68 (.invokevirtual 316) 3 71 := by decide +kernel
theorem d12_link_71 : zd cX12_link 71 (.ireturn) 1 72 := by decide +kernel
theorem d12_link_72 : zd cX12_link 72 (.aload_n 0) 1 73 := by decide +kernel
theorem d12_link_73 : zd cX12_link 73 (.iload_n 1) 1 74 := by decide +kernel
theorem d12_link_74 : zd cX12_link 74 (.invokevirtual 462) 3 77 := by decide +kernel
theorem d12_link_77 : zj cX12_link 77 (.ifCond .eq 7) 7 80 84 := by decide +kernel
theorem d12_link_80 : zd cX12_link 80 (.iconst 1) 1 81 := by decide +kernel
theorem d12_link_81 : zj cX12_link 81 (.goto 4) 4 84 85 := by decide +kernel
theorem d12_link_84 : zd cX12_link 84 (.iconst 0) 1 85 := by decide +kernel
theorem d12_link_85 : zd cX12_link 85 (.ireturn) 1 86 := by decide +kernel
theorem d12_link_86 : zd cX12_link 86 (.iload_n 2) 1 87 := by decide +kernel
theorem d12_link_87 : zd cX12_link 87 (.iconst 0) 1 88 := by decide +kernel
theorem d12_link_88 : zd cX12_link 88 (.iconst 3) 1 89 := by decide +kernel
theorem d12_link_89 : zd cX12_link 89 (.invokestatic 250) 3 92 := by decide +kernel
theorem d12_link_92 : zj cX12_link 92 (.ifCond .eq 16) 16 95 108 := by decide +kernel
theorem d12_link_95 : zd cX12_link 95 (.aload_n 0) 1 96 := by decide +kernel
theorem d12_link_96 : zd cX12_link 96 (.getfield 38) 3 99 := by decide +kernel
theorem d12_link_99 : zd cX12_link 99 (.iconst 4) 1 100 := by decide +kernel
theorem d12_link_100 : zd cX12_link 100 (.iload_n 1) 1 101 := by decide +kernel
theorem d12_link_101 : zd cX12_link 101 (.imul) 1 102 := by decide +kernel
theorem d12_link_102 : zd cX12_link 102 (.iload_n 2) 1 103 := by decide +kernel
theorem d12_link_103 : zd cX12_link 103 (.iadd) 1 104 := by decide +kernel
theorem d12_link_104 : zd cX12_link 104 (.iaload) 1 105 := by decide +kernel
theorem d12_link_105 : zj cX12_link 105 (.goto 4) 4 108 109 := by decide +kernel
theorem d12_link_108 : zd cX12_link 108 (.iconst (-1)) 1 109 := by decide +kernel
theorem d12_link_109 : zd cX12_link 109 (.ireturn) 1 110 := by decide +kernel
set_option maxHeartbeats 4000000 in
set_option maxRecDepth 20000 in
theorem c12_link (l : Launch) (D : zDt) (Sh : zSh) (top : Nat) (hO : zOK Sh) (o_ : Nat) (v_link : Int32) (v_what : Int32) (μ : zM) (r_ : Int32) (μ_ : zM) (ho : (Sh o_).1 = 19) (h : f12_link o_ v_link v_what μ = some (r_, μ_)) : zMet l D zK1 yX12_link cX12_link 3 (some .int) (zrm 3 64) [.ref o_, .int v_link, .int v_what] Sh top μ (some (.int r_)) Sh top μ_ 0 0 := by
  refine zMet_of (by decide) (Nat.le_of_ble_eq_true rfl) fun X hX1 hX2 fx fin => ?_
  subst hX1; subst hX2
  replace fx : zFix X cX12_link RX12 (zrm 3 64) 3 := fx
  show zZ zK1 X (zT0 Sh top) μ 0 [(0, .ref o_), (1, .int v_link), (2, .int v_what)] []
  unfold f12_link at h
  refine z_aload_n fx (k := 0) (i := 0) rfl rfl d12_link_0 ?_
  refine z_iconst fx (v := 0) ic0 d12_link_1 ?_
  obtain ⟨μ1, e1, h⟩ := zinv h
  refine z_putI fx (ci := 12) 44 ho lf12_144 fp12_44 e1 d12_link_2 ?_
  refine z_aload_n fx (k := 0) (i := 0) rfl rfl d12_link_5 ?_
  refine z_iload_n fx (k := 1) (i := 1) rfl rfl d12_link_6 ?_
  obtain ⟨t2, e2, h⟩ := zinv h
  refine z_cVr fx (c12_isLink (zLo X) (zDo X) Sh top hO o_ v_link μ1 _ ho e2) mv12_isLink ml12_474 ho rfl rfl rfl rfl d12_link_7 ?_
  refine z_ifb_ne fx d12_link_10 (fun c3 => ?_) (fun c3 => ?_)
  · replace h := zif_t c3 h
    refine z_iload_n fx (k := 2) (i := 2) rfl rfl d12_link_15 ?_
    cases c4 : ceq v_what 4 with
    | true =>
      replace h := zif_t c4 h
      refine z_table fx d12_link_16 (off := 32) (tgt := 48) (by rw [ceq_of c4]; decide) (by decide) ?_
      refine z_aload_n fx (k := 0) (i := 0) rfl rfl d12_link_48 ?_
      refine z_getO fx 12 11 6 ho lf12_44 fk12_11 d12_link_49 ?_
      refine z_iload_n fx (k := 1) (i := 1) rfl rfl d12_link_52 ?_
      obtain ⟨t3, e5, h⟩ := zinv h
      refine z_iald fx (ok12_11 hO ho) e5 d12_link_53 ?_
      cases h
      exact z_ireturn fx fin d12_link_54
    | false =>
    replace h := zif_f c4 h
    cases c6 : ceq v_what 5 with
    | true =>
      replace h := zif_t c6 h
      refine z_table fx d12_link_16 (off := 39) (tgt := 55) (by rw [ceq_of c6]; decide) (by decide) ?_
      refine z_aload_n fx (k := 0) (i := 0) rfl rfl d12_link_55 ?_
      refine z_getO fx 12 12 7 ho lf12_47 fk12_12 d12_link_56 ?_
      refine z_iload_n fx (k := 1) (i := 1) rfl rfl d12_link_59 ?_
      obtain ⟨t4, e7, h⟩ := zinv h
      refine z_iald fx (ok12_12 hO ho) e7 d12_link_60 ?_
      cases h
      exact z_ireturn fx fin d12_link_61
    | false =>
    replace h := zif_f c6 h
    cases c8 : ceq v_what 6 with
    | true =>
      replace h := zif_t c8 h
      refine z_table fx d12_link_16 (off := 46) (tgt := 62) (by rw [ceq_of c8]; decide) (by decide) ?_
      refine z_aload_n fx (k := 0) (i := 0) rfl rfl d12_link_62 ?_
      refine z_sipush fx (v := 964) sp964 d12_link_63 ?_
      refine z_iload_n fx (k := 1) (i := 1) rfl rfl d12_link_66 ?_
      refine z_iadd fx d12_link_67 ?_
      obtain ⟨t5, e9, h⟩ := zinv h
      refine z_cVr fx (c12_its (zLo X) (zDo X) Sh top hO o_ (964 + v_link) μ1 _ ho e9) mv12_its ml12_316 ho rfl rfl rfl rfl d12_link_68 ?_
      cases h
      exact z_ireturn fx fin d12_link_71
    | false =>
    replace h := zif_f c8 h
    cases c10 : ceq v_what 7 with
    | true =>
      replace h := zif_t c10 h
      refine z_table fx d12_link_16 (off := 56) (tgt := 72) (by rw [ceq_of c10]; decide) (by decide) ?_
      obtain ⟨x6, e11, h⟩ := zinv h
      have k12 : zZ zK1 X (zT0 Sh top) μ1 85 [(0, .ref o_), (1, .int v_link), (2, .int v_what)] [.int x6] := by
        cases h
        exact z_ireturn fx fin d12_link_85
      refine z_aload_n fx (k := 0) (i := 0) rfl rfl d12_link_72 ?_
      refine z_iload_n fx (k := 1) (i := 1) rfl rfl d12_link_73 ?_
      obtain ⟨t7, e13, e11⟩ := zinv e11
      refine z_cVr fx (c12_isOpenLink (zLo X) (zDo X) Sh top hO o_ v_link μ1 _ ho e13) mv12_isOpenLink ml12_462 ho rfl rfl rfl rfl d12_link_74 ?_
      refine z_ifb_eq fx d12_link_77 (fun c14 => ?_) (fun c14 => ?_)
      · replace e11 := zif_f c14 e11
        refine z_iconst fx (v := 0) ic0 d12_link_84 ?_
        cases e11
        exact k12
      · replace e11 := zif_t c14 e11
        refine z_iconst fx (v := 1) ic1 d12_link_80 ?_
        cases e11
        refine z_goto fx d12_link_81 ?_
        exact k12
    | false =>
    replace h := zif_f c10 h
    have hn0 := zne c4 (k := 4) (by decide)
    have hn1 := zne c6 (k := 5) (by decide)
    have hn2 := zne c8 (k := 6) (by decide)
    have hn3 := zne c10 (k := 7) (by decide)
    refine z_table fx d12_link_16 (off := 70) (tgt := 86) ⟨zsw_out (by omega), by decide⟩ (by decide) ?_
    obtain ⟨x8, e15, h⟩ := zinv h
    have k16 : zZ zK1 X (zT0 Sh top) μ1 109 [(0, .ref o_), (1, .int v_link), (2, .int v_what)] [.int x8] := by
      cases h
      exact z_ireturn fx fin d12_link_109
    refine z_iload_n fx (k := 2) (i := 2) rfl rfl d12_link_86 ?_
    refine z_iconst fx (v := 0) ic0 d12_link_87 ?_
    refine z_iconst fx (v := 3) ic3 d12_link_88 ?_
    obtain ⟨t9, e17, e15⟩ := zinv e15
    refine z_cSr fx (c12_isIn (zLo X) (zDo X) Sh top hO v_what 0 3 μ1 _  e17) ms12_isIn ml12_250 rfl rfl rfl rfl d12_link_89 ?_
    refine z_ifb_eq fx d12_link_92 (fun c18 => ?_) (fun c18 => ?_)
    · replace e15 := zif_f c18 e15
      refine z_iconst fx (v := (-1)) icm1 d12_link_108 ?_
      cases e15
      exact k16
    · replace e15 := zif_t c18 e15
      refine z_aload_n fx (k := 0) (i := 0) rfl rfl d12_link_95 ?_
      refine z_getO fx 12 9 4 ho lf12_38 fk12_9 d12_link_96 ?_
      refine z_iconst fx (v := 4) ic4 d12_link_99 ?_
      refine z_iload_n fx (k := 1) (i := 1) rfl rfl d12_link_100 ?_
      refine z_imul fx d12_link_101 ?_
      refine z_iload_n fx (k := 2) (i := 2) rfl rfl d12_link_102 ?_
      refine z_iadd fx d12_link_103 ?_
      obtain ⟨t10, e19, e15⟩ := zinv e15
      refine z_iald fx (ok12_9 hO ho) e19 d12_link_104 ?_
      cases e15
      refine z_goto fx d12_link_105 ?_
      exact k16
  · replace h := zif_f c3 h
    refine z_iconst fx (v := (-1)) icm1 d12_link_13 ?_
    cases h
    exact z_ireturn fx fin d12_link_14
theorem d12_bridge_0 : zd cX12_bridge 0 (.aload_n 0) 1 1 := by decide +kernel
theorem d12_bridge_1 : zd cX12_bridge 1 (.iconst 0) 1 2 := by decide +kernel
theorem d12_bridge_2 : zd cX12_bridge 2 (.putfield 144) 3 5 := by decide +kernel
theorem d12_bridge_5 : zd cX12_bridge 5 (.aload_n 0) 1 6 := by decide +kernel
theorem d12_bridge_6 : zd cX12_bridge 6 (.iload_n 1) 1 7 := by decide +kernel
theorem d12_bridge_7 : zd cX12_bridge 7 (.invokevirtual 471) 3 10 := by decide +kernel
theorem d12_bridge_10 : zj cX12_bridge 10 (.ifCond .ne 5) 5 13 15 := by decide +kernel
theorem d12_bridge_13 : zd cX12_bridge 13 (.iconst (-1)) 1 14 := by decide +kernel
theorem d12_bridge_14 : zd cX12_bridge 14 (.ireturn) 1 15 := by decide +kernel
theorem d12_bridge_15 : zd cX12_bridge 15 (.iload_n 2) 1 16 := by decide +kernel
theorem d12_bridge_16 : decode cX12_bridge 16 = .ok (.tableswitch 59 0 3 #[32, 38, 45, 52], 32) := by decide +kernel
theorem d12_bridge_48 : zd cX12_bridge 48 (.aload_n 0) 1 49 := by decide +kernel
theorem d12_bridge_49 : zd cX12_bridge 49 (.iload_n 1) 1 50 := by decide +kernel
theorem d12_bridge_50 : zd cX12_bridge 50 (.invokevirtual 337) 3 53 := by decide +kernel
theorem d12_bridge_53 : zd cX12_bridge 53 (.ireturn) 1 54 := by decide +kernel
theorem d12_bridge_54 : zd cX12_bridge 54 (.aload_n 0) 1 55 := by decide +kernel
theorem d12_bridge_55 : zd cX12_bridge 55 (.getfield 35) 3 58 := by decide +kernel
theorem d12_bridge_58 : zd cX12_bridge 58 (.iload_n 1) 1 59 := by decide +kernel
theorem d12_bridge_59 : zd cX12_bridge 59 (.iaload) 1 60 := by decide +kernel
theorem d12_bridge_60 : zd cX12_bridge 60 (.ireturn) 1 61 := by decide +kernel
theorem d12_bridge_61 : zd cX12_bridge 61 (.aload_n 0) 1 62 := by decide +kernel
theorem d12_bridge_62 : zd cX12_bridge 62 (.iload_n 1) 1 63 := by decide +kernel
theorem d12_bridge_63 : zd cX12_bridge 63 (.iconst 2) 1 64 := by decide +kernel
theorem d12_bridge_64 : zd cX12_bridge 64 (.invokevirtual 319) 3 67 := by decide +kernel
theorem d12_bridge_67 : zd cX12_bridge 67 (.ireturn) 1 68 := by decide +kernel
theorem d12_bridge_68 : zd cX12_bridge 68 (.aload_n 0) 1 69 := by decide +kernel
theorem d12_bridge_69 : zd cX12_bridge 69 (.iload_n 1) 1 70 := by decide +kernel
theorem d12_bridge_70 : zd cX12_bridge 70 (.iconst 0) 1 71 := by decide +kernel
theorem d12_bridge_71 : zd cX12_bridge 71 (.invokevirtual 319) 3 74 := by decide +kernel
theorem d12_bridge_74 : zd cX12_bridge 74 (.ireturn) 1 75 := by decide +kernel
theorem d12_bridge_75 : zd cX12_bridge 75 (.iload_n 2) 1 76 := by decide +kernel
theorem d12_bridge_76 : zd cX12_bridge 76 (.iconst 4) 1 77 := by decide +kernel
theorem d12_bridge_77 : zd cX12_bridge 77 (.bipush 8) 2 79 := by decide +kernel
theorem d12_bridge_79 : zd cX12_bridge 79 (.invokestatic 250) 3 82 := by decide +kernel
theorem d12_bridge_82 : zj cX12_bridge 82 (.ifCond .eq 24) 24 85 106 := by decide +kernel
theorem d12_bridge_85 : zd cX12_bridge 85 (.aload_n 0) 1 86 := by decide +kernel
theorem d12_bridge_86 : zd cX12_bridge 86 (.iload_n 1) 1 87 := by decide +kernel
theorem d12_bridge_87 : zd cX12_bridge 87 (.invokevirtual 328) 3 90 := by decide +kernel
theorem d12_bridge_90 : zj cX12_bridge 90 (.ifCond .eq 16) 16 93 106 := by decide +kernel
theorem d12_bridge_93 : zd cX12_bridge 93 (.aload_n 0) 1 94 := by decide +kernel
theorem d12_bridge_94 : zd cX12_bridge 94 (.iload_n 1) 1 95 := by decide +kernel
theorem d12_bridge_95 : zd cX12_bridge 95 (.iconst 3) 1 96 := by decide +kernel
theorem d12_bridge_96 : zd cX12_bridge 96 (.iload_n 2) 1 97 := by decide +kernel
theorem d12_bridge_97 : zd cX12_bridge 97 (.iadd) 1 98 := by decide +kernel
theorem d12_bridge_98 : zd cX12_bridge 98 (.iconst 4) 1 99 := by decide +kernel
theorem d12_bridge_99 : zd cX12_bridge 99 (.isub) 1 100 := by decide +kernel
theorem d12_bridge_100 : zd cX12_bridge 100 (.invokevirtual 319) 3 103 := by decide +kernel
theorem d12_bridge_103 : zj cX12_bridge 103 (.goto 4) 4 106 107 := by decide +kernel
theorem d12_bridge_106 : zd cX12_bridge 106 (.iconst (-1)) 1 107 := by decide +kernel
theorem d12_bridge_107 : zd cX12_bridge 107 (.ireturn) 1 108 := by decide +kernel
set_option maxHeartbeats 4000000 in
set_option maxRecDepth 20000 in
theorem c12_bridge (l : Launch) (D : zDt) (Sh : zSh) (top : Nat) (hO : zOK Sh) (o_ : Nat) (v_bridge : Int32) (v_what : Int32) (μ : zM) (r_ : Int32) (μ_ : zM) (ho : (Sh o_).1 = 19) (h : f12_bridge o_ v_bridge v_what μ = some (r_, μ_)) : zMet l D zK1 yX12_bridge cX12_bridge 3 (some .int) (zrm 3 64) [.ref o_, .int v_bridge, .int v_what] Sh top μ (some (.int r_)) Sh top μ_ 0 0 := by
  refine zMet_of (by decide) (Nat.le_of_ble_eq_true rfl) fun X hX1 hX2 fx fin => ?_
  subst hX1; subst hX2
  replace fx : zFix X cX12_bridge RX12 (zrm 3 64) 3 := fx
  show zZ zK1 X (zT0 Sh top) μ 0 [(0, .ref o_), (1, .int v_bridge), (2, .int v_what)] []
  unfold f12_bridge at h
  refine z_aload_n fx (k := 0) (i := 0) rfl rfl d12_bridge_0 ?_
  refine z_iconst fx (v := 0) ic0 d12_bridge_1 ?_
  obtain ⟨μ1, e1, h⟩ := zinv h
  refine z_putI fx (ci := 12) 44 ho lf12_144 fp12_44 e1 d12_bridge_2 ?_
  refine z_aload_n fx (k := 0) (i := 0) rfl rfl d12_bridge_5 ?_
  refine z_iload_n fx (k := 1) (i := 1) rfl rfl d12_bridge_6 ?_
  obtain ⟨t2, e2, h⟩ := zinv h
  refine z_cVr fx (c12_isBridge (zLo X) (zDo X) Sh top hO o_ v_bridge μ1 _ ho e2) mv12_isBridge ml12_471 ho rfl rfl rfl rfl d12_bridge_7 ?_
  refine z_ifb_ne fx d12_bridge_10 (fun c3 => ?_) (fun c3 => ?_)
  · replace h := zif_t c3 h
    refine z_iload_n fx (k := 2) (i := 2) rfl rfl d12_bridge_15 ?_
    cases c4 : ceq v_what 0 with
    | true =>
      replace h := zif_t c4 h
      refine z_table fx d12_bridge_16 (off := 32) (tgt := 48) (by rw [ceq_of c4]; decide) (by decide) ?_
      refine z_aload_n fx (k := 0) (i := 0) rfl rfl d12_bridge_48 ?_
      refine z_iload_n fx (k := 1) (i := 1) rfl rfl d12_bridge_49 ?_
      obtain ⟨t3, e5, h⟩ := zinv h
      refine z_cVr fx (c12_idOf (zLo X) (zDo X) Sh top hO o_ v_bridge μ1 _ ho e5) mv12_idOf ml12_337 ho rfl rfl rfl rfl d12_bridge_50 ?_
      cases h
      exact z_ireturn fx fin d12_bridge_53
    | false =>
    replace h := zif_f c4 h
    cases c6 : ceq v_what 1 with
    | true =>
      replace h := zif_t c6 h
      refine z_table fx d12_bridge_16 (off := 38) (tgt := 54) (by rw [ceq_of c6]; decide) (by decide) ?_
      refine z_aload_n fx (k := 0) (i := 0) rfl rfl d12_bridge_54 ?_
      refine z_getO fx 12 8 3 ho lf12_35 fk12_8 d12_bridge_55 ?_
      refine z_iload_n fx (k := 1) (i := 1) rfl rfl d12_bridge_58 ?_
      obtain ⟨t4, e7, h⟩ := zinv h
      refine z_iald fx (ok12_8 hO ho) e7 d12_bridge_59 ?_
      cases h
      exact z_ireturn fx fin d12_bridge_60
    | false =>
    replace h := zif_f c6 h
    cases c8 : ceq v_what 2 with
    | true =>
      replace h := zif_t c8 h
      refine z_table fx d12_bridge_16 (off := 45) (tgt := 61) (by rw [ceq_of c8]; decide) (by decide) ?_
      refine z_aload_n fx (k := 0) (i := 0) rfl rfl d12_bridge_61 ?_
      refine z_iload_n fx (k := 1) (i := 1) rfl rfl d12_bridge_62 ?_
      refine z_iconst fx (v := 2) ic2 d12_bridge_63 ?_
      obtain ⟨t5, e9, h⟩ := zinv h
      refine z_cVr fx (c12_of (zLo X) (zDo X) Sh top hO o_ v_bridge 2 μ1 _ ho e9) mv12_of ml12_319 ho rfl rfl rfl rfl d12_bridge_64 ?_
      cases h
      exact z_ireturn fx fin d12_bridge_67
    | false =>
    replace h := zif_f c8 h
    cases c10 : ceq v_what 3 with
    | true =>
      replace h := zif_t c10 h
      refine z_table fx d12_bridge_16 (off := 52) (tgt := 68) (by rw [ceq_of c10]; decide) (by decide) ?_
      refine z_aload_n fx (k := 0) (i := 0) rfl rfl d12_bridge_68 ?_
      refine z_iload_n fx (k := 1) (i := 1) rfl rfl d12_bridge_69 ?_
      refine z_iconst fx (v := 0) ic0 d12_bridge_70 ?_
      obtain ⟨t6, e11, h⟩ := zinv h
      refine z_cVr fx (c12_of (zLo X) (zDo X) Sh top hO o_ v_bridge 0 μ1 _ ho e11) mv12_of ml12_319 ho rfl rfl rfl rfl d12_bridge_71 ?_
      cases h
      exact z_ireturn fx fin d12_bridge_74
    | false =>
    replace h := zif_f c10 h
    have hn0 := zne c4 (k := 0) (by decide)
    have hn1 := zne c6 (k := 1) (by decide)
    have hn2 := zne c8 (k := 2) (by decide)
    have hn3 := zne c10 (k := 3) (by decide)
    refine z_table fx d12_bridge_16 (off := 59) (tgt := 75) ⟨zsw_out (by omega), by decide⟩ (by decide) ?_
    obtain ⟨x7, e12, h⟩ := zinv h
    have k13 : zZ zK1 X (zT0 Sh top) μ1 107 [(0, .ref o_), (1, .int v_bridge), (2, .int v_what)] [.int x7] := by
      cases h
      exact z_ireturn fx fin d12_bridge_107
    obtain ⟨b8, e15, e12⟩ := zinv e12
    have kt14 : b8 = true → zZ zK1 X (zT0 Sh top) μ1 93 [(0, .ref o_), (1, .int v_bridge), (2, .int v_what)] [] := by
      intro hc
      replace e12 := zif_t hc e12
      refine z_aload_n fx (k := 0) (i := 0) rfl rfl d12_bridge_93 ?_
      refine z_iload_n fx (k := 1) (i := 1) rfl rfl d12_bridge_94 ?_
      refine z_iconst fx (v := 3) ic3 d12_bridge_95 ?_
      refine z_iload_n fx (k := 2) (i := 2) rfl rfl d12_bridge_96 ?_
      refine z_iadd fx d12_bridge_97 ?_
      refine z_iconst fx (v := 4) ic4 d12_bridge_98 ?_
      refine z_isub fx d12_bridge_99 ?_
      obtain ⟨t9, e16, e12⟩ := zinv e12
      refine z_cVr fx (c12_of (zLo X) (zDo X) Sh top hO o_ v_bridge ((3 + v_what) - 4) μ1 _ ho e16) mv12_of ml12_319 ho rfl rfl rfl rfl d12_bridge_100 ?_
      cases e12
      refine z_goto fx d12_bridge_103 ?_
      exact k13
    have kf14 : b8 = false → zZ zK1 X (zT0 Sh top) μ1 106 [(0, .ref o_), (1, .int v_bridge), (2, .int v_what)] [] := by
      intro hc
      replace e12 := zif_f hc e12
      refine z_iconst fx (v := (-1)) icm1 d12_bridge_106 ?_
      cases e12
      exact k13
    clear e12
    obtain ⟨b10, e17, e15⟩ := zinv e15
    have kt18 : b10 = true → zZ zK1 X (zT0 Sh top) μ1 85 [(0, .ref o_), (1, .int v_bridge), (2, .int v_what)] [] := by
      intro hc
      replace e15 := zif_t hc e15
      refine z_aload_n fx (k := 0) (i := 0) rfl rfl d12_bridge_85 ?_
      refine z_iload_n fx (k := 1) (i := 1) rfl rfl d12_bridge_86 ?_
      obtain ⟨t11, e19, e15⟩ := zinv e15
      refine z_cVr fx (c12_isOn (zLo X) (zDo X) Sh top hO o_ v_bridge μ1 _ ho e19) mv12_isOn ml12_328 ho rfl rfl rfl rfl d12_bridge_87 ?_
      cases e15
      refine z_ifb_eq fx d12_bridge_90 (fun c20 => ?_) (fun c20 => ?_)
      · exact kf14 c20
      · exact kt14 c20
    have kf18 : b10 = false → zZ zK1 X (zT0 Sh top) μ1 106 [(0, .ref o_), (1, .int v_bridge), (2, .int v_what)] [] := by
      intro hc
      replace e15 := zif_f hc e15
      cases e15
      exact kf14 rfl
    clear e15
    refine z_iload_n fx (k := 2) (i := 2) rfl rfl d12_bridge_75 ?_
    refine z_iconst fx (v := 4) ic4 d12_bridge_76 ?_
    refine z_bipush fx (v := 8) bp8 d12_bridge_77 ?_
    obtain ⟨t12, e21, e17⟩ := zinv e17
    refine z_cSr fx (c12_isIn (zLo X) (zDo X) Sh top hO v_what 4 8 μ1 _  e21) ms12_isIn ml12_250 rfl rfl rfl rfl d12_bridge_79 ?_
    cases e17
    refine z_ifb_eq fx d12_bridge_82 (fun c22 => ?_) (fun c22 => ?_)
    · exact kf18 c22
    · exact kt18 c22
  · replace h := zif_f c3 h
    refine z_iconst fx (v := (-1)) icm1 d12_bridge_13 ?_
    cases h
    exact z_ireturn fx fin d12_bridge_14
theorem d12_port_0 : zd cX12_port 0 (.aload_n 0) 1 1 := by decide +kernel
theorem d12_port_1 : zd cX12_port 1 (.iconst 0) 1 2 := by decide +kernel
theorem d12_port_2 : zd cX12_port 2 (.putfield 144) 3 5 := by decide +kernel
theorem d12_port_5 : zd cX12_port 5 (.aload_n 0) 1 6 := by decide +kernel
theorem d12_port_6 : zd cX12_port 6 (.iload_n 1) 1 7 := by decide +kernel
theorem d12_port_7 : zd cX12_port 7 (.iload_n 2) 1 8 := by decide +kernel
theorem d12_port_8 : zd cX12_port 8 (.invokevirtual 477) 3 11 := by decide +kernel
theorem d12_port_11 : zj cX12_port 11 (.ifCond .eq 26) 26 14 37 := by decide +kernel
theorem d12_port_14 : zd cX12_port 14 (.iload_n 3) 1 15 := by decide +kernel
theorem d12_port_15 : zd cX12_port 15 (.iconst 0) 1 16 := by decide +kernel
theorem d12_port_16 : zd cX12_port 16 (.bipush 9) 2 18 := by decide +kernel
theorem d12_port_18 : zd cX12_port 18 (.invokestatic 250) 3 21 := by decide +kernel
theorem d12_port_21 : zj cX12_port 21 (.ifCond .eq 16) 16 24 37 := by decide +kernel
theorem d12_port_24 : zd cX12_port 24 (.aload_n 0) 1 25 := by decide +kernel
theorem d12_port_25 : zd cX12_port 25 (.iload_n 1) 1 26 := by decide +kernel
theorem d12_port_26 : zd cX12_port 26 (.iload_n 2) 1 27 := by decide +kernel
theorem d12_port_27 : zd cX12_port 27 (.iload_n 3) 1 28 := by decide +kernel
theorem d12_port_28 : zd cX12_port 28 (.invokestatic 480) 3 31 := by decide +kernel
theorem d12_port_31 : zd cX12_port 31 (.invokevirtual 316) 3 34 := by decide +kernel
theorem d12_port_34 : zj cX12_port 34 (.goto 4) 4 37 38 := by decide +kernel
theorem d12_port_37 : zd cX12_port 37 (.iconst (-1)) 1 38 := by decide +kernel
theorem d12_port_38 : zd cX12_port 38 (.ireturn) 1 39 := by decide +kernel
set_option maxHeartbeats 4000000 in
set_option maxRecDepth 20000 in
theorem c12_port (l : Launch) (D : zDt) (Sh : zSh) (top : Nat) (hO : zOK Sh) (o_ : Nat) (v_bridge : Int32) (v_port : Int32) (v_what : Int32) (μ : zM) (r_ : Int32) (μ_ : zM) (ho : (Sh o_).1 = 19) (h : f12_port o_ v_bridge v_port v_what μ = some (r_, μ_)) : zMet l D zK1 yX12_port cX12_port 4 (some .int) (zrm 3 65) [.ref o_, .int v_bridge, .int v_port, .int v_what] Sh top μ (some (.int r_)) Sh top μ_ 0 0 := by
  refine zMet_of (by decide) (Nat.le_of_ble_eq_true rfl) fun X hX1 hX2 fx fin => ?_
  subst hX1; subst hX2
  replace fx : zFix X cX12_port RX12 (zrm 3 65) 4 := fx
  show zZ zK1 X (zT0 Sh top) μ 0 [(0, .ref o_), (1, .int v_bridge), (2, .int v_port), (3, .int v_what)] []
  unfold f12_port at h
  refine z_aload_n fx (k := 0) (i := 0) rfl rfl d12_port_0 ?_
  refine z_iconst fx (v := 0) ic0 d12_port_1 ?_
  obtain ⟨μ1, e1, h⟩ := zinv h
  refine z_putI fx (ci := 12) 44 ho lf12_144 fp12_44 e1 d12_port_2 ?_
  obtain ⟨x2, e2, h⟩ := zinv h
  have k3 : zZ zK1 X (zT0 Sh top) μ1 38 [(0, .ref o_), (1, .int v_bridge), (2, .int v_port), (3, .int v_what)] [.int x2] := by
    cases h
    exact z_ireturn fx fin d12_port_38
  obtain ⟨b3, e5, e2⟩ := zinv e2
  have kt4 : b3 = true → zZ zK1 X (zT0 Sh top) μ1 24 [(0, .ref o_), (1, .int v_bridge), (2, .int v_port), (3, .int v_what)] [] := by
    intro hc
    replace e2 := zif_t hc e2
    refine z_aload_n fx (k := 0) (i := 0) rfl rfl d12_port_24 ?_
    refine z_iload_n fx (k := 1) (i := 1) rfl rfl d12_port_25 ?_
    refine z_iload_n fx (k := 2) (i := 2) rfl rfl d12_port_26 ?_
    refine z_iload_n fx (k := 3) (i := 3) rfl rfl d12_port_27 ?_
    obtain ⟨t4, e6, e2⟩ := zinv e2
    refine z_cSr fx (c12_portAt (zLo X) (zDo X) Sh top hO v_bridge v_port v_what μ1 _  e6) ms12_portAt ml12_480 rfl rfl rfl rfl d12_port_28 ?_
    obtain ⟨t5, e7, e2⟩ := zinv e2
    refine z_cVr fx (c12_its (zLo X) (zDo X) Sh top hO o_ t4 μ1 _ ho e7) mv12_its ml12_316 ho rfl rfl rfl rfl d12_port_31 ?_
    cases e2
    refine z_goto fx d12_port_34 ?_
    exact k3
  have kf4 : b3 = false → zZ zK1 X (zT0 Sh top) μ1 37 [(0, .ref o_), (1, .int v_bridge), (2, .int v_port), (3, .int v_what)] [] := by
    intro hc
    replace e2 := zif_f hc e2
    refine z_iconst fx (v := (-1)) icm1 d12_port_37 ?_
    cases e2
    exact k3
  clear e2
  obtain ⟨b6, e8, e5⟩ := zinv e5
  have kt9 : b6 = true → zZ zK1 X (zT0 Sh top) μ1 14 [(0, .ref o_), (1, .int v_bridge), (2, .int v_port), (3, .int v_what)] [] := by
    intro hc
    replace e5 := zif_t hc e5
    refine z_iload_n fx (k := 3) (i := 3) rfl rfl d12_port_14 ?_
    refine z_iconst fx (v := 0) ic0 d12_port_15 ?_
    refine z_bipush fx (v := 9) bp9 d12_port_16 ?_
    obtain ⟨t7, e10, e5⟩ := zinv e5
    refine z_cSr fx (c12_isIn (zLo X) (zDo X) Sh top hO v_what 0 9 μ1 _  e10) ms12_isIn ml12_250 rfl rfl rfl rfl d12_port_18 ?_
    cases e5
    refine z_ifb_eq fx d12_port_21 (fun c11 => ?_) (fun c11 => ?_)
    · exact kf4 c11
    · exact kt4 c11
  have kf9 : b6 = false → zZ zK1 X (zT0 Sh top) μ1 37 [(0, .ref o_), (1, .int v_bridge), (2, .int v_port), (3, .int v_what)] [] := by
    intro hc
    replace e5 := zif_f hc e5
    cases e5
    exact kf4 rfl
  clear e5
  refine z_aload_n fx (k := 0) (i := 0) rfl rfl d12_port_5 ?_
  refine z_iload_n fx (k := 1) (i := 1) rfl rfl d12_port_6 ?_
  refine z_iload_n fx (k := 2) (i := 2) rfl rfl d12_port_7 ?_
  obtain ⟨t8, e12, e8⟩ := zinv e8
  refine z_cVr fx (c12_isPort (zLo X) (zDo X) Sh top hO o_ v_bridge v_port μ1 _ ho e12) mv12_isPort ml12_477 ho rfl rfl rfl rfl d12_port_8 ?_
  cases e8
  refine z_ifb_eq fx d12_port_11 (fun c13 => ?_) (fun c13 => ?_)
  · exact kf9 c13
  · exact kt9 c13
theorem d12_held_0 : zd cX12_held 0 (.aload_n 0) 1 1 := by decide +kernel
theorem d12_held_1 : zd cX12_held 1 (.iconst 0) 1 2 := by decide +kernel
theorem d12_held_2 : zd cX12_held 2 (.putfield 144) 3 5 := by decide +kernel
theorem d12_held_5 : zd cX12_held 5 (.aload_n 0) 1 6 := by decide +kernel
theorem d12_held_6 : zd cX12_held 6 (.iload_n 1) 1 7 := by decide +kernel
theorem d12_held_7 : zd cX12_held 7 (.iload_n 2) 1 8 := by decide +kernel
theorem d12_held_8 : zd cX12_held 8 (.invokevirtual 477) 3 11 := by decide +kernel
theorem d12_held_11 : zj cX12_held 11 (.ifCond .eq 43) 43 14 54 := by decide +kernel
theorem d12_held_14 : zd cX12_held 14 (.iload_n 3) 1 15 := by decide +kernel
theorem d12_held_15 : zd cX12_held 15 (.iconst 0) 1 16 := by decide +kernel
theorem d12_held_16 : zd cX12_held 16 (.iconst 5) 1 17 := by decide +kernel
theorem d12_held_17 : zd cX12_held 17 (.invokestatic 250) 3 20 := by decide +kernel
theorem d12_held_20 : zj cX12_held 20 (.ifCond .eq 34) 34 23 54 := by decide +kernel
theorem d12_held_23 : zd cX12_held 23 (.aload_n 0) 1 24 := by decide +kernel
theorem d12_held_24 : zd cX12_held 24 (.iload_n 1) 1 25 := by decide +kernel
theorem d12_held_25 : zd cX12_held 25 (.iload_n 2) 1 26 := by decide +kernel
theorem d12_held_26 : zd cX12_held 26 (.bipush 10) 2 28 := by decide +kernel
theorem d12_held_28 : zd cX12_held 28 (.invokestatic 480) 3 31 := by decide +kernel
theorem d12_held_31 : zd cX12_held 31 (.invokevirtual 316) 3 34 := by decide +kernel
theorem d12_held_34 : zd cX12_held 34 (.iconst 1) 1 35 := by decide +kernel
theorem d12_held_35 : zj cX12_held 35 (.if_icmp .ne 19) 19 38 54 := by decide +kernel
theorem d12_held_38 : zd cX12_held 38 (.aload_n 0) 1 39 := by decide +kernel
theorem d12_held_39 : zd cX12_held 39 (.iload_n 1) 1 40 := by decide +kernel
theorem d12_held_40 : zd cX12_held 40 (.iload_n 2) 1 41 := by decide +kernel
theorem d12_held_41 : zd cX12_held 41 (.bipush 11) 2 43 := by decide +kernel
theorem d12_held_43 : zd cX12_held 43 (.iload_n 3) 1 44 := by decide +kernel
theorem d12_held_44 : zd cX12_held 44 (.iadd) 1 45 := by decide +kernel
theorem d12_held_45 : zd cX12_held 45 (.invokestatic 480) 3 48 := by decide +kernel
theorem d12_held_48 : zd cX12_held 48 (.invokevirtual 316) 3 51 := by decide +kernel
theorem d12_held_51 : zj cX12_held 51 (.goto 4) 4 54 55 := by decide +kernel
theorem d12_held_54 : zd cX12_held 54 (.iconst (-1)) 1 55 := by decide +kernel
theorem d12_held_55 : zd cX12_held 55 (.ireturn) 1 56 := by decide +kernel
set_option maxHeartbeats 4000000 in
set_option maxRecDepth 20000 in
theorem c12_held (l : Launch) (D : zDt) (Sh : zSh) (top : Nat) (hO : zOK Sh) (o_ : Nat) (v_bridge : Int32) (v_port : Int32) (v_what : Int32) (μ : zM) (r_ : Int32) (μ_ : zM) (ho : (Sh o_).1 = 19) (h : f12_held o_ v_bridge v_port v_what μ = some (r_, μ_)) : zMet l D zK1 yX12_held cX12_held 4 (some .int) (zrm 3 65) [.ref o_, .int v_bridge, .int v_port, .int v_what] Sh top μ (some (.int r_)) Sh top μ_ 0 0 := by
  refine zMet_of (by decide) (Nat.le_of_ble_eq_true rfl) fun X hX1 hX2 fx fin => ?_
  subst hX1; subst hX2
  replace fx : zFix X cX12_held RX12 (zrm 3 65) 4 := fx
  show zZ zK1 X (zT0 Sh top) μ 0 [(0, .ref o_), (1, .int v_bridge), (2, .int v_port), (3, .int v_what)] []
  unfold f12_held at h
  refine z_aload_n fx (k := 0) (i := 0) rfl rfl d12_held_0 ?_
  refine z_iconst fx (v := 0) ic0 d12_held_1 ?_
  obtain ⟨μ1, e1, h⟩ := zinv h
  refine z_putI fx (ci := 12) 44 ho lf12_144 fp12_44 e1 d12_held_2 ?_
  obtain ⟨x2, e2, h⟩ := zinv h
  have k3 : zZ zK1 X (zT0 Sh top) μ1 55 [(0, .ref o_), (1, .int v_bridge), (2, .int v_port), (3, .int v_what)] [.int x2] := by
    cases h
    exact z_ireturn fx fin d12_held_55
  obtain ⟨b3, e5, e2⟩ := zinv e2
  have kt4 : b3 = true → zZ zK1 X (zT0 Sh top) μ1 38 [(0, .ref o_), (1, .int v_bridge), (2, .int v_port), (3, .int v_what)] [] := by
    intro hc
    replace e2 := zif_t hc e2
    refine z_aload_n fx (k := 0) (i := 0) rfl rfl d12_held_38 ?_
    refine z_iload_n fx (k := 1) (i := 1) rfl rfl d12_held_39 ?_
    refine z_iload_n fx (k := 2) (i := 2) rfl rfl d12_held_40 ?_
    refine z_bipush fx (v := 11) bp11 d12_held_41 ?_
    refine z_iload_n fx (k := 3) (i := 3) rfl rfl d12_held_43 ?_
    refine z_iadd fx d12_held_44 ?_
    obtain ⟨t4, e6, e2⟩ := zinv e2
    refine z_cSr fx (c12_portAt (zLo X) (zDo X) Sh top hO v_bridge v_port (11 + v_what) μ1 _  e6) ms12_portAt ml12_480 rfl rfl rfl rfl d12_held_45 ?_
    obtain ⟨t5, e7, e2⟩ := zinv e2
    refine z_cVr fx (c12_its (zLo X) (zDo X) Sh top hO o_ t4 μ1 _ ho e7) mv12_its ml12_316 ho rfl rfl rfl rfl d12_held_48 ?_
    cases e2
    refine z_goto fx d12_held_51 ?_
    exact k3
  have kf4 : b3 = false → zZ zK1 X (zT0 Sh top) μ1 54 [(0, .ref o_), (1, .int v_bridge), (2, .int v_port), (3, .int v_what)] [] := by
    intro hc
    replace e2 := zif_f hc e2
    refine z_iconst fx (v := (-1)) icm1 d12_held_54 ?_
    cases e2
    exact k3
  clear e2
  obtain ⟨b6, e8, e5⟩ := zinv e5
  have kt9 : b6 = true → zZ zK1 X (zT0 Sh top) μ1 23 [(0, .ref o_), (1, .int v_bridge), (2, .int v_port), (3, .int v_what)] [] := by
    intro hc
    replace e5 := zif_t hc e5
    refine z_aload_n fx (k := 0) (i := 0) rfl rfl d12_held_23 ?_
    refine z_iload_n fx (k := 1) (i := 1) rfl rfl d12_held_24 ?_
    refine z_iload_n fx (k := 2) (i := 2) rfl rfl d12_held_25 ?_
    refine z_bipush fx (v := 10) bp10 d12_held_26 ?_
    obtain ⟨t7, e10, e5⟩ := zinv e5
    refine z_cSr fx (c12_portAt (zLo X) (zDo X) Sh top hO v_bridge v_port 10 μ1 _  e10) ms12_portAt ml12_480 rfl rfl rfl rfl d12_held_28 ?_
    obtain ⟨t8, e11, e5⟩ := zinv e5
    refine z_cVr fx (c12_its (zLo X) (zDo X) Sh top hO o_ t7 μ1 _ ho e11) mv12_its ml12_316 ho rfl rfl rfl rfl d12_held_31 ?_
    refine z_iconst fx (v := 1) ic1 d12_held_34 ?_
    cases e5
    refine z_icmp_ne fx d12_held_35 (fun c12 => ?_) (fun c12 => ?_)
    · exact kf4 c12
    · exact kt4 c12
  have kf9 : b6 = false → zZ zK1 X (zT0 Sh top) μ1 54 [(0, .ref o_), (1, .int v_bridge), (2, .int v_port), (3, .int v_what)] [] := by
    intro hc
    replace e5 := zif_f hc e5
    cases e5
    exact kf4 rfl
  clear e5
  obtain ⟨b9, e13, e8⟩ := zinv e8
  have kt14 : b9 = true → zZ zK1 X (zT0 Sh top) μ1 14 [(0, .ref o_), (1, .int v_bridge), (2, .int v_port), (3, .int v_what)] [] := by
    intro hc
    replace e8 := zif_t hc e8
    refine z_iload_n fx (k := 3) (i := 3) rfl rfl d12_held_14 ?_
    refine z_iconst fx (v := 0) ic0 d12_held_15 ?_
    refine z_iconst fx (v := 5) ic5 d12_held_16 ?_
    obtain ⟨t10, e15, e8⟩ := zinv e8
    refine z_cSr fx (c12_isIn (zLo X) (zDo X) Sh top hO v_what 0 5 μ1 _  e15) ms12_isIn ml12_250 rfl rfl rfl rfl d12_held_17 ?_
    cases e8
    refine z_ifb_eq fx d12_held_20 (fun c16 => ?_) (fun c16 => ?_)
    · exact kf9 c16
    · exact kt9 c16
  have kf14 : b9 = false → zZ zK1 X (zT0 Sh top) μ1 54 [(0, .ref o_), (1, .int v_bridge), (2, .int v_port), (3, .int v_what)] [] := by
    intro hc
    replace e8 := zif_f hc e8
    cases e8
    exact kf9 rfl
  clear e8
  refine z_aload_n fx (k := 0) (i := 0) rfl rfl d12_held_5 ?_
  refine z_iload_n fx (k := 1) (i := 1) rfl rfl d12_held_6 ?_
  refine z_iload_n fx (k := 2) (i := 2) rfl rfl d12_held_7 ?_
  obtain ⟨t11, e17, e13⟩ := zinv e13
  refine z_cVr fx (c12_isPort (zLo X) (zDo X) Sh top hO o_ v_bridge v_port μ1 _ ho e17) mv12_isPort ml12_477 ho rfl rfl rfl rfl d12_held_8 ?_
  cases e13
  refine z_ifb_eq fx d12_held_11 (fun c18 => ?_) (fun c18 => ?_)
  · exact kf14 c18
  · exact kt14 c18
theorem d12_address_0 : zd cX12_address 0 (.aload_n 0) 1 1 := by decide +kernel
theorem d12_address_1 : zd cX12_address 1 (.iconst 0) 1 2 := by decide +kernel
theorem d12_address_2 : zd cX12_address 2 (.putfield 144) 3 5 := by decide +kernel
theorem d12_address_5 : zd cX12_address 5 (.aload_n 0) 1 6 := by decide +kernel
theorem d12_address_6 : zd cX12_address 6 (.iload_n 1) 1 7 := by decide +kernel
theorem d12_address_7 : zd cX12_address 7 (.invokevirtual 471) 3 10 := by decide +kernel
theorem d12_address_10 : zj cX12_address 10 (.ifCond .eq 33) 33 13 43 := by decide +kernel
theorem d12_address_13 : zd cX12_address 13 (.aload_n 0) 1 14 := by decide +kernel
theorem d12_address_14 : zd cX12_address 14 (.iload_n 2) 1 15 := by decide +kernel
theorem d12_address_15 : zd cX12_address 15 (.invokevirtual 483) 3 18 := by decide +kernel
theorem d12_address_18 : zj cX12_address 18 (.ifCond .eq 25) 25 21 43 := by decide +kernel
theorem d12_address_21 : zd cX12_address 21 (.iload_n 3) 1 22 := by decide +kernel
theorem d12_address_22 : zd cX12_address 22 (.iconst 0) 1 23 := by decide +kernel
theorem d12_address_23 : zd cX12_address 23 (.iconst 1) 1 24 := by decide +kernel
theorem d12_address_24 : zd cX12_address 24 (.invokestatic 250) 3 27 := by decide +kernel
theorem d12_address_27 : zj cX12_address 27 (.ifCond .eq 16) 16 30 43 := by decide +kernel
theorem d12_address_30 : zd cX12_address 30 (.aload_n 0) 1 31 := by decide +kernel
theorem d12_address_31 : zd cX12_address 31 (.iload_n 1) 1 32 := by decide +kernel
theorem d12_address_32 : zd cX12_address 32 (.iload_n 2) 1 33 := by decide +kernel
theorem d12_address_33 : zd cX12_address 33 (.invokestatic 348) 3 36 := by decide +kernel
theorem d12_address_36 : zd cX12_address 36 (.invokevirtual 316) 3 39 := by decide +kernel
theorem d12_address_39 : zd cX12_address 39 (.iconst (-1)) 1 40 := by decide +kernel
theorem d12_address_40 : zj cX12_address 40 (.if_icmp .ne 5) 5 43 45 := by decide +kernel
theorem d12_address_43 : zd cX12_address 43 (.iconst (-1)) 1 44 := by decide +kernel
theorem d12_address_44 : zd cX12_address 44 (.ireturn) 1 45 := by decide +kernel
theorem d12_address_45 : zd cX12_address 45 (.aload_n 0) 1 46 := by decide +kernel
theorem d12_address_46 : zd cX12_address 46 (.iload_n 1) 1 47 := by decide +kernel
theorem d12_address_47 : zd cX12_address 47 (.iload_n 2) 1 48 := by decide +kernel
theorem d12_address_48 : zd cX12_address 48 (.invokestatic 348) 3 51 := by decide +kernel
theorem d12_address_51 : zd cX12_address 51 (.iload_n 3) 1 52 := by decide +kernel
theorem d12_address_52 : zd cX12_address 52 (.iadd) 1 53 := by decide +kernel
theorem d12_address_53 : zd cX12_address 53 (.invokevirtual 316) 3 56 := by decide +kernel
theorem d12_address_56 : zd cX12_address 56 (.ireturn) 1 57 := by decide +kernel
set_option maxHeartbeats 4000000 in
set_option maxRecDepth 20000 in
theorem c12_address (l : Launch) (D : zDt) (Sh : zSh) (top : Nat) (hO : zOK Sh) (o_ : Nat) (v_bridge : Int32) (v_host : Int32) (v_what : Int32) (μ : zM) (r_ : Int32) (μ_ : zM) (ho : (Sh o_).1 = 19) (h : f12_address o_ v_bridge v_host v_what μ = some (r_, μ_)) : zMet l D zK1 yX12_address cX12_address 4 (some .int) (zrm 2 43) [.ref o_, .int v_bridge, .int v_host, .int v_what] Sh top μ (some (.int r_)) Sh top μ_ 0 0 := by
  refine zMet_of (by decide) (Nat.le_of_ble_eq_true rfl) fun X hX1 hX2 fx fin => ?_
  subst hX1; subst hX2
  replace fx : zFix X cX12_address RX12 (zrm 2 43) 4 := fx
  show zZ zK1 X (zT0 Sh top) μ 0 [(0, .ref o_), (1, .int v_bridge), (2, .int v_host), (3, .int v_what)] []
  unfold f12_address at h
  refine z_aload_n fx (k := 0) (i := 0) rfl rfl d12_address_0 ?_
  refine z_iconst fx (v := 0) ic0 d12_address_1 ?_
  obtain ⟨μ1, e1, h⟩ := zinv h
  refine z_putI fx (ci := 12) 44 ho lf12_144 fp12_44 e1 d12_address_2 ?_
  obtain ⟨b2, e3, h⟩ := zinv h
  have kt2 : b2 = true → zZ zK1 X (zT0 Sh top) μ1 43 [(0, .ref o_), (1, .int v_bridge), (2, .int v_host), (3, .int v_what)] [] := by
    intro hc
    replace h := zif_t hc h
    refine z_iconst fx (v := (-1)) icm1 d12_address_43 ?_
    cases h
    exact z_ireturn fx fin d12_address_44
  have kf2 : b2 = false → zZ zK1 X (zT0 Sh top) μ1 45 [(0, .ref o_), (1, .int v_bridge), (2, .int v_host), (3, .int v_what)] [] := by
    intro hc
    replace h := zif_f hc h
    refine z_aload_n fx (k := 0) (i := 0) rfl rfl d12_address_45 ?_
    refine z_iload_n fx (k := 1) (i := 1) rfl rfl d12_address_46 ?_
    refine z_iload_n fx (k := 2) (i := 2) rfl rfl d12_address_47 ?_
    obtain ⟨t3, e4, h⟩ := zinv h
    refine z_cSr fx (c12_addressAt (zLo X) (zDo X) Sh top hO v_bridge v_host μ1 _  e4) ms12_addressAt ml12_348 rfl rfl rfl rfl d12_address_48 ?_
    refine z_iload_n fx (k := 3) (i := 3) rfl rfl d12_address_51 ?_
    refine z_iadd fx d12_address_52 ?_
    obtain ⟨t4, e5, h⟩ := zinv h
    refine z_cVr fx (c12_its (zLo X) (zDo X) Sh top hO o_ (t3 + v_what) μ1 _ ho e5) mv12_its ml12_316 ho rfl rfl rfl rfl d12_address_53 ?_
    cases h
    exact z_ireturn fx fin d12_address_56
  clear h
  obtain ⟨b5, e6, e3⟩ := zinv e3
  have kf7 : b5 = false → zZ zK1 X (zT0 Sh top) μ1 30 [(0, .ref o_), (1, .int v_bridge), (2, .int v_host), (3, .int v_what)] [] := by
    intro hc
    replace e3 := zif_f hc e3
    refine z_aload_n fx (k := 0) (i := 0) rfl rfl d12_address_30 ?_
    refine z_iload_n fx (k := 1) (i := 1) rfl rfl d12_address_31 ?_
    refine z_iload_n fx (k := 2) (i := 2) rfl rfl d12_address_32 ?_
    obtain ⟨t6, e8, e3⟩ := zinv e3
    refine z_cSr fx (c12_addressAt (zLo X) (zDo X) Sh top hO v_bridge v_host μ1 _  e8) ms12_addressAt ml12_348 rfl rfl rfl rfl d12_address_33 ?_
    obtain ⟨t7, e9, e3⟩ := zinv e3
    refine z_cVr fx (c12_its (zLo X) (zDo X) Sh top hO o_ t6 μ1 _ ho e9) mv12_its ml12_316 ho rfl rfl rfl rfl d12_address_36 ?_
    refine z_iconst fx (v := (-1)) icm1 d12_address_39 ?_
    cases e3
    refine z_icmp_ne fx d12_address_40 (fun c10 => ?_) (fun c10 => ?_)
    · exact kf2 c10
    · exact kt2 c10
  have kt7 : b5 = true → zZ zK1 X (zT0 Sh top) μ1 43 [(0, .ref o_), (1, .int v_bridge), (2, .int v_host), (3, .int v_what)] [] := by
    intro hc
    replace e3 := zif_t hc e3
    cases e3
    exact kt2 rfl
  clear e3
  obtain ⟨b8, e11, e6⟩ := zinv e6
  have kf12 : b8 = false → zZ zK1 X (zT0 Sh top) μ1 21 [(0, .ref o_), (1, .int v_bridge), (2, .int v_host), (3, .int v_what)] [] := by
    intro hc
    replace e6 := zif_f hc e6
    refine z_iload_n fx (k := 3) (i := 3) rfl rfl d12_address_21 ?_
    refine z_iconst fx (v := 0) ic0 d12_address_22 ?_
    refine z_iconst fx (v := 1) ic1 d12_address_23 ?_
    obtain ⟨t9, e13, e6⟩ := zinv e6
    refine z_cSr fx (c12_isIn (zLo X) (zDo X) Sh top hO v_what 0 1 μ1 _  e13) ms12_isIn ml12_250 rfl rfl rfl rfl d12_address_24 ?_
    cases e6
    refine z_ifb_eq fx d12_address_27 (fun c14 => ?_) (fun c14 => ?_)
    · exact kt7 (by rw [c14]; rfl)
    · exact kf7 (by rw [c14]; rfl)
  have kt12 : b8 = true → zZ zK1 X (zT0 Sh top) μ1 43 [(0, .ref o_), (1, .int v_bridge), (2, .int v_host), (3, .int v_what)] [] := by
    intro hc
    replace e6 := zif_t hc e6
    cases e6
    exact kt7 rfl
  clear e6
  obtain ⟨b10, e15, e11⟩ := zinv e11
  have kf16 : b10 = false → zZ zK1 X (zT0 Sh top) μ1 13 [(0, .ref o_), (1, .int v_bridge), (2, .int v_host), (3, .int v_what)] [] := by
    intro hc
    replace e11 := zif_f hc e11
    refine z_aload_n fx (k := 0) (i := 0) rfl rfl d12_address_13 ?_
    refine z_iload_n fx (k := 2) (i := 2) rfl rfl d12_address_14 ?_
    obtain ⟨t11, e17, e11⟩ := zinv e11
    refine z_cVr fx (c12_isHost (zLo X) (zDo X) Sh top hO o_ v_host μ1 _ ho e17) mv12_isHost ml12_483 ho rfl rfl rfl rfl d12_address_15 ?_
    cases e11
    refine z_ifb_eq fx d12_address_18 (fun c18 => ?_) (fun c18 => ?_)
    · exact kt12 (by rw [c18]; rfl)
    · exact kf12 (by rw [c18]; rfl)
  have kt16 : b10 = true → zZ zK1 X (zT0 Sh top) μ1 43 [(0, .ref o_), (1, .int v_bridge), (2, .int v_host), (3, .int v_what)] [] := by
    intro hc
    replace e11 := zif_t hc e11
    cases e11
    exact kt12 rfl
  clear e11
  refine z_aload_n fx (k := 0) (i := 0) rfl rfl d12_address_5 ?_
  refine z_iload_n fx (k := 1) (i := 1) rfl rfl d12_address_6 ?_
  obtain ⟨t12, e19, e15⟩ := zinv e15
  refine z_cVr fx (c12_isBridge (zLo X) (zDo X) Sh top hO o_ v_bridge μ1 _ ho e19) mv12_isBridge ml12_471 ho rfl rfl rfl rfl d12_address_7 ?_
  cases e15
  refine z_ifb_eq fx d12_address_10 (fun c20 => ?_) (fun c20 => ?_)
  · exact kt16 (by rw [c20]; rfl)
  · exact kf16 (by rw [c20]; rfl)
theorem d12_isEarlier_0 : zd cX12_isEarlier 0 (.aload_n 0) 1 1 := by decide +kernel
theorem d12_isEarlier_1 : zd cX12_isEarlier 1 (.iload_n 1) 1 2 := by decide +kernel
theorem d12_isEarlier_2 : zd cX12_isEarlier 2 (.iconst 0) 1 3 := by decide +kernel
theorem d12_isEarlier_3 : zd cX12_isEarlier 3 (.invokevirtual 366) 3 6 := by decide +kernel
theorem d12_isEarlier_6 : zd cX12_isEarlier 6 (.aload_n 0) 1 7 := by decide +kernel
theorem d12_isEarlier_7 : zd cX12_isEarlier 7 (.iload_n 1) 1 8 := by decide +kernel
theorem d12_isEarlier_8 : zd cX12_isEarlier 8 (.iconst 1) 1 9 := by decide +kernel
theorem d12_isEarlier_9 : zd cX12_isEarlier 9 (.invokevirtual 366) 3 12 := by decide +kernel
theorem d12_isEarlier_12 : zd cX12_isEarlier 12 (.aload_n 0) 1 13 := by decide +kernel
theorem d12_isEarlier_13 : zd cX12_isEarlier 13 (.iload_n 1) 1 14 := by decide +kernel
theorem d12_isEarlier_14 : zd cX12_isEarlier 14 (.iconst 2) 1 15 := by decide +kernel
theorem d12_isEarlier_15 : zd cX12_isEarlier 15 (.invokevirtual 366) 3 18 := by decide +kernel
theorem d12_isEarlier_18 : zd cX12_isEarlier 18 (.iload_n 1) 1 19 := by decide +kernel
theorem d12_isEarlier_19 : zd cX12_isEarlier 19 (.aload_n 0) 1 20 := by decide +kernel
theorem d12_isEarlier_20 : zd cX12_isEarlier 20 (.iload_n 2) 1 21 := by decide +kernel
theorem d12_isEarlier_21 : zd cX12_isEarlier 21 (.iconst 0) 1 22 := by decide +kernel
theorem d12_isEarlier_22 : zd cX12_isEarlier 22 (.invokevirtual 366) 3 25 := by decide +kernel
theorem d12_isEarlier_25 : zd cX12_isEarlier 25 (.aload_n 0) 1 26 := by decide +kernel
theorem d12_isEarlier_26 : zd cX12_isEarlier 26 (.iload_n 2) 1 27 := by decide +kernel
theorem d12_isEarlier_27 : zd cX12_isEarlier 27 (.iconst 1) 1 28 := by decide +kernel
theorem d12_isEarlier_28 : zd cX12_isEarlier 28 (.invokevirtual 366) 3 31 := by decide +kernel
theorem d12_isEarlier_31 : zd cX12_isEarlier 31 (.aload_n 0) 1 32 := by decide +kernel
theorem d12_isEarlier_32 : zd cX12_isEarlier 32 (.iload_n 2) 1 33 := by decide +kernel
theorem d12_isEarlier_33 : zd cX12_isEarlier 33 (.iconst 2) 1 34 := by decide +kernel
theorem d12_isEarlier_34 : zd cX12_isEarlier 34 (.invokevirtual 366) 3 37 := by decide +kernel
theorem d12_isEarlier_37 : zd cX12_isEarlier 37 (.iload_n 2) 1 38 := by decide +kernel
theorem d12_isEarlier_38 : zd cX12_isEarlier 38 (.invokestatic 340) 3 41 := by decide +kernel
theorem d12_isEarlier_41 : zd cX12_isEarlier 41 (.ireturn) 1 42 := by decide +kernel
set_option maxHeartbeats 4000000 in
set_option maxRecDepth 20000 in
theorem c12_isEarlier (l : Launch) (D : zDt) (Sh : zSh) (top : Nat) (hO : zOK Sh) (o_ : Nat) (v_k : Int32) (v_o : Int32) (μ : zM) (r_ : Bool) (ho : (Sh o_).1 = 19) (h : f12_isEarlier o_ v_k v_o μ = some r_) : zMet l D zK1 yX12_isEarlier cX12_isEarlier 3 (some .boolean) (zrm 2 43) [.ref o_, .int v_k, .int v_o] Sh top μ (some (.int (bI r_))) Sh top μ 0 0 := by
  refine zMet_of (by decide) (Nat.le_of_ble_eq_true rfl) fun X hX1 hX2 fx fin => ?_
  subst hX1; subst hX2
  replace fx : zFix X cX12_isEarlier RX12 (zrm 2 43) 3 := fx
  show zZ zK1 X (zT0 Sh top) μ 0 [(0, .ref o_), (1, .int v_k), (2, .int v_o)] []
  unfold f12_isEarlier at h
  refine z_aload_n fx (k := 0) (i := 0) rfl rfl d12_isEarlier_0 ?_
  refine z_iload_n fx (k := 1) (i := 1) rfl rfl d12_isEarlier_1 ?_
  refine z_iconst fx (v := 0) ic0 d12_isEarlier_2 ?_
  obtain ⟨t1, e1, h⟩ := zinv h
  refine z_cVr fx (c12_msg (zLo X) (zDo X) Sh top hO o_ v_k 0 μ _ ho e1) mv12_msg ml12_366 ho rfl rfl rfl rfl d12_isEarlier_3 ?_
  refine z_aload_n fx (k := 0) (i := 0) rfl rfl d12_isEarlier_6 ?_
  refine z_iload_n fx (k := 1) (i := 1) rfl rfl d12_isEarlier_7 ?_
  refine z_iconst fx (v := 1) ic1 d12_isEarlier_8 ?_
  obtain ⟨t2, e2, h⟩ := zinv h
  refine z_cVr fx (c12_msg (zLo X) (zDo X) Sh top hO o_ v_k 1 μ _ ho e2) mv12_msg ml12_366 ho rfl rfl rfl rfl d12_isEarlier_9 ?_
  refine z_aload_n fx (k := 0) (i := 0) rfl rfl d12_isEarlier_12 ?_
  refine z_iload_n fx (k := 1) (i := 1) rfl rfl d12_isEarlier_13 ?_
  refine z_iconst fx (v := 2) ic2 d12_isEarlier_14 ?_
  obtain ⟨t3, e3, h⟩ := zinv h
  refine z_cVr fx (c12_msg (zLo X) (zDo X) Sh top hO o_ v_k 2 μ _ ho e3) mv12_msg ml12_366 ho rfl rfl rfl rfl d12_isEarlier_15 ?_
  refine z_iload_n fx (k := 1) (i := 1) rfl rfl d12_isEarlier_18 ?_
  refine z_aload_n fx (k := 0) (i := 0) rfl rfl d12_isEarlier_19 ?_
  refine z_iload_n fx (k := 2) (i := 2) rfl rfl d12_isEarlier_20 ?_
  refine z_iconst fx (v := 0) ic0 d12_isEarlier_21 ?_
  obtain ⟨t4, e4, h⟩ := zinv h
  refine z_cVr fx (c12_msg (zLo X) (zDo X) Sh top hO o_ v_o 0 μ _ ho e4) mv12_msg ml12_366 ho rfl rfl rfl rfl d12_isEarlier_22 ?_
  refine z_aload_n fx (k := 0) (i := 0) rfl rfl d12_isEarlier_25 ?_
  refine z_iload_n fx (k := 2) (i := 2) rfl rfl d12_isEarlier_26 ?_
  refine z_iconst fx (v := 1) ic1 d12_isEarlier_27 ?_
  obtain ⟨t5, e5, h⟩ := zinv h
  refine z_cVr fx (c12_msg (zLo X) (zDo X) Sh top hO o_ v_o 1 μ _ ho e5) mv12_msg ml12_366 ho rfl rfl rfl rfl d12_isEarlier_28 ?_
  refine z_aload_n fx (k := 0) (i := 0) rfl rfl d12_isEarlier_31 ?_
  refine z_iload_n fx (k := 2) (i := 2) rfl rfl d12_isEarlier_32 ?_
  refine z_iconst fx (v := 2) ic2 d12_isEarlier_33 ?_
  obtain ⟨t6, e6, h⟩ := zinv h
  refine z_cVr fx (c12_msg (zLo X) (zDo X) Sh top hO o_ v_o 2 μ _ ho e6) mv12_msg ml12_366 ho rfl rfl rfl rfl d12_isEarlier_34 ?_
  refine z_iload_n fx (k := 2) (i := 2) rfl rfl d12_isEarlier_37 ?_
  obtain ⟨t7, e7, h⟩ := zinv h
  refine z_cSr fx (c12_isLess (zLo X) (zDo X) Sh top hO t1 t2 t3 v_k t4 t5 t6 v_o μ _  e7) ms12_isLess ml12_340 rfl rfl rfl rfl d12_isEarlier_38 ?_
  cases h
  exact z_zreturn fx fin d12_isEarlier_41
theorem d12_message_0 : zd cX12_message 0 (.aload_n 0) 1 1 := by decide +kernel
theorem d12_message_1 : zd cX12_message 1 (.iconst 0) 1 2 := by decide +kernel
theorem d12_message_2 : zd cX12_message 2 (.putfield 144) 3 5 := by decide +kernel
theorem d12_message_5 : zd cX12_message 5 (.iload_n 1) 1 6 := by decide +kernel
theorem d12_message_6 : zd cX12_message 6 (.iconst 0) 1 7 := by decide +kernel
theorem d12_message_7 : zd cX12_message 7 (.aload_n 0) 1 8 := by decide +kernel
theorem d12_message_8 : zd cX12_message 8 (.iconst 2) 1 9 := by decide +kernel
theorem d12_message_9 : zd cX12_message 9 (.invokevirtual 316) 3 12 := by decide +kernel
theorem d12_message_12 : zd cX12_message 12 (.iconst 1) 1 13 := by decide +kernel
theorem d12_message_13 : zd cX12_message 13 (.isub) 1 14 := by decide +kernel
theorem d12_message_14 : zd cX12_message 14 (.invokestatic 250) 3 17 := by decide +kernel
theorem d12_message_17 : zj cX12_message 17 (.ifCond .eq 13) 13 20 30 := by decide +kernel
theorem d12_message_20 : zd cX12_message 20 (.iload_n 2) 1 21 := by decide +kernel
theorem d12_message_21 : zd cX12_message 21 (.iconst 0) 1 22 := by decide +kernel
theorem d12_message_22 : zd cX12_message 22 (.bipush 9) 2 24 := by decide +kernel
theorem d12_message_24 : zd cX12_message 24 (.invokestatic 250) 3 27 := by decide +kernel
theorem d12_message_27 : zj cX12_message 27 (.ifCond .ne 5) 5 30 32 := by decide +kernel
theorem d12_message_30 : zd cX12_message 30 (.iconst (-1)) 1 31 := by decide +kernel
theorem d12_message_31 : zd cX12_message 31 (.ireturn) 1 32 := by decide +kernel
theorem d12_message_32 : zd cX12_message 32 (.iconst 0) 1 33 := by decide +kernel
theorem d12_message_33 : zd cX12_message 33 (.istore_n 3) 1 34 := by decide +kernel
theorem d12_message_34 : zd cX12_message 34 (.iload_n 3) 1 35 := by decide +kernel
theorem d12_message_35 : zd cX12_message 35 (.aload_n 0) 1 36 := by decide +kernel
theorem d12_message_36 : zd cX12_message 36 (.iconst 2) 1 37 := by decide +kernel
theorem d12_message_37 : zd cX12_message 37 (.invokevirtual 316) 3 40 := by decide +kernel
theorem d12_message_40 : zj cX12_message 40 (.if_icmp .ge 70) 70 43 110 := by decide +kernel
theorem d12_message_43 : zd cX12_message 43 (.iconst 0) 1 44 := by decide +kernel
theorem d12_message_44 : zd cX12_message 44 (.istore 4) 2 46 := by decide +kernel
theorem d12_message_46 : zd cX12_message 46 (.iconst 0) 1 47 := by decide +kernel
theorem d12_message_47 : zd cX12_message 47 (.istore 5) 2 49 := by decide +kernel
theorem d12_message_49 : zd cX12_message 49 (.iload 5) 2 51 := by decide +kernel
theorem d12_message_51 : zd cX12_message 51 (.aload_n 0) 1 52 := by decide +kernel
theorem d12_message_52 : zd cX12_message 52 (.iconst 2) 1 53 := by decide +kernel
theorem d12_message_53 : zd cX12_message 53 (.invokevirtual 316) 3 56 := by decide +kernel
theorem d12_message_56 : zj cX12_message 56 (.if_icmp .ge 35) 35 59 91 := by decide +kernel
theorem d12_message_59 : zd cX12_message 59 (.iload 4) 2 61 := by decide +kernel
theorem d12_message_61 : zd cX12_message 61 (.iload 5) 2 63 := by decide +kernel
theorem d12_message_63 : zd cX12_message 63 (.iload_n 3) 1 64 := by decide +kernel
theorem d12_message_64 : zj cX12_message 64 (.if_icmp .eq 17) 17 67 81 := by decide +kernel
theorem d12_message_67 : zd cX12_message 67 (.aload_n 0) 1 68 := by decide +kernel
theorem d12_message_68 : zd cX12_message 68 (.iload 5) 2 70 := by decide +kernel
theorem d12_message_70 : zd cX12_message 70 (.iload_n 3) 1 71 := by decide +kernel
theorem d12_message_71 : zd cX12_message 71 (.invokevirtual 486) 3 74 := by decide +kernel
theorem d12_message_74 : zj cX12_message 74 (.ifCond .eq 7) 7 77 81 := by decide +kernel
theorem d12_message_77 : zd cX12_message 77 (.iconst 1) 1 78 := by decide +kernel
theorem d12_message_78 : zj cX12_message 78 (.goto 4) 4 81 82 := by decide +kernel
theorem d12_message_81 : zd cX12_message 81 (.iconst 0) 1 82 := by decide +kernel
theorem d12_message_82 : zd cX12_message 82 (.iadd) 1 83 := by decide +kernel
theorem d12_message_83 : zd cX12_message 83 (.istore 4) 2 85 := by decide +kernel
theorem d12_message_85 : zd cX12_message 85 (.iinc 5 1) 3 88 := by decide +kernel
theorem d12_message_88 : zj cX12_message 88 (.goto (-39)) (-39) 91 49 := by decide +kernel
theorem d12_message_91 : zd cX12_message 91 (.iload 4) 2 93 := by decide +kernel
theorem d12_message_93 : zd cX12_message 93 (.iload_n 1) 1 94 := by decide +kernel
theorem d12_message_94 : zj cX12_message 94 (.if_icmp .ne 10) 10 97 104 := by decide +kernel
theorem d12_message_97 : zd cX12_message 97 (.aload_n 0) 1 98 := by decide +kernel
theorem d12_message_98 : zd cX12_message 98 (.iload_n 3) 1 99 := by decide +kernel
theorem d12_message_99 : zd cX12_message 99 (.iload_n 2) 1 100 := by decide +kernel
theorem d12_message_100 : zd cX12_message 100 (.invokevirtual 366) 3 103 := by decide +kernel
theorem d12_message_103 : zd cX12_message 103 (.ireturn) 1 104 := by decide +kernel
theorem d12_message_104 : zd cX12_message 104 (.iinc 3 1) 3 107 := by decide +kernel
theorem d12_message_107 : zj cX12_message 107 (.goto (-73)) (-73) 110 34 := by decide +kernel
theorem d12_message_110 : zd cX12_message 110 (.iconst (-1)) 1 111 := by decide +kernel
theorem d12_message_111 : zd cX12_message 111 (.ireturn) 1 112 := by decide +kernel
set_option maxHeartbeats 4000000 in
set_option maxRecDepth 20000 in
theorem c12_message (l : Launch) (D : zDt) (Sh : zSh) (top : Nat) (hO : zOK Sh) (o_ : Nat) (v_k : Int32) (v_what : Int32) (μ : zM) (r_ : Int32) (μ_ : zM) (ho : (Sh o_).1 = 19) (h : f12_message o_ v_k v_what μ = some (r_, μ_)) : zMet l D zK1 yX12_message cX12_message 6 (some .int) (zrm 3 65) [.ref o_, .int v_k, .int v_what] Sh top μ (some (.int r_)) Sh top μ_ 0 0 := by
  refine zMet_of (by decide) (Nat.le_of_ble_eq_true rfl) fun X hX1 hX2 fx fin => ?_
  subst hX1; subst hX2
  replace fx : zFix X cX12_message RX12 (zrm 3 65) 6 := fx
  show zZ zK1 X (zT0 Sh top) μ 0 [(0, .ref o_), (1, .int v_k), (2, .int v_what)] []
  unfold f12_message at h
  refine z_aload_n fx (k := 0) (i := 0) rfl rfl d12_message_0 ?_
  refine z_iconst fx (v := 0) ic0 d12_message_1 ?_
  obtain ⟨μ1, e1, h⟩ := zinv h
  refine z_putI fx (ci := 12) 44 ho lf12_144 fp12_44 e1 d12_message_2 ?_
  obtain ⟨b2, e3, h⟩ := zinv h
  have kt2 : b2 = true → zZ zK1 X (zT0 Sh top) μ1 30 [(0, .ref o_), (1, .int v_k), (2, .int v_what)] [] := by
    intro hc
    replace h := zif_t hc h
    refine z_iconst fx (v := (-1)) icm1 d12_message_30 ?_
    cases h
    exact z_ireturn fx fin d12_message_31
  have kf2 : b2 = false → zZ zK1 X (zT0 Sh top) μ1 32 [(0, .ref o_), (1, .int v_k), (2, .int v_what)] [] := by
    intro hc
    replace h := zif_f hc h
    refine z_iconst fx (v := 0) ic0 d12_message_32 ?_
    refine z_istore_n fx (k := 3) (i := 3) rfl rfl (lv' := [(0, .ref o_), (1, .int v_k), (2, .int v_what), (3, .int 0)]) rfl rfl d12_message_33 ?_
    obtain ⟨r6, e31, h⟩ := zinv h
    have kx7 : ∀ (v_i_4 : Int32), r6 = .inr v_i_4 → zZ zK1 X (zT0 Sh top) μ1 110 [(0, .ref o_), (1, .int v_k), (2, .int v_what), (3, .int v_i_4)] [] := by
      intro v_i_4 hr
      subst hr
      replace h := zel1 h
      refine z_take 3 (lv' := [(0, .ref o_), (1, .int v_k), (2, .int v_what)]) rfl ?_
      refine z_iconst fx (v := (-1)) icm1 d12_message_110 ?_
      cases h
      exact z_ireturn fx fin d12_message_111
    have klr6 : ∀ (n : Nat) (v_i_3 : Int32), zloop (fun s => f12_message_L1 o_ v_k v_what μ1 s) n v_i_3 = some r6 → zZ zK1 X (zT0 Sh top) μ1 34 [(0, .ref o_), (1, .int v_k), (2, .int v_what), (3, .int v_i_3)] [] := by
      intro n
      induction n with
      | zero => intro v_i_3 hl5; cases hl5
      | succ n ih8 =>
        intro v_i_3 hl5
        obtain ⟨y, e4, hl5⟩ := zloop_inv hl5
        replace e4 : f12_message_L1 o_ v_k v_what μ1 v_i_3 = some y := e4
        unfold f12_message_L1 at e4
        refine z_iload_n fx (k := 3) (i := 3) rfl rfl d12_message_34 ?_
        refine z_aload_n fx (k := 0) (i := 0) rfl rfl d12_message_35 ?_
        refine z_iconst fx (v := 2) ic2 d12_message_36 ?_
        obtain ⟨t5, e9, e4⟩ := zinv e4
        refine z_cVr fx (c12_its (zLo X) (zDo X) Sh top hO o_ 2 μ1 _ ho e9) mv12_its ml12_316 ho rfl rfl rfl rfl d12_message_37 ?_
        refine z_icmp_ge fx d12_message_40 (fun c10 => ?_) (fun c10 => ?_)
        · replace e4 := zif_f c10 e4
          cases e4
          exact kx7 _ (Eq.symm hl5)
        · replace e4 := zif_t c10 e4
          refine z_iconst fx (v := 0) ic0 d12_message_43 ?_
          refine z_istore fx (i := 4) rfl (lv' := [(0, .ref o_), (1, .int v_k), (2, .int v_what), (3, .int v_i_3), (4, .int 0)]) rfl rfl d12_message_44 ?_
          refine z_iconst fx (v := 0) ic0 d12_message_46 ?_
          refine z_istore fx (i := 5) rfl (lv' := [(0, .ref o_), (1, .int v_k), (2, .int v_what), (3, .int v_i_3), (4, .int 0), (5, .int 0)]) rfl rfl d12_message_47 ?_
          obtain ⟨v_ahead_8, v_o_9, e30, e4⟩ := zinv2 e4
          have kx14 : zZ zK1 X (zT0 Sh top) μ1 91 [(0, .ref o_), (1, .int v_k), (2, .int v_what), (3, .int v_i_3), (4, .int v_ahead_8), (5, .int v_o_9)] [] := by
            refine z_take 5 (lv' := [(0, .ref o_), (1, .int v_k), (2, .int v_what), (3, .int v_i_3), (4, .int v_ahead_8)]) rfl ?_
            refine z_iload fx (i := 4) rfl d12_message_91 ?_
            refine z_iload_n fx (k := 1) (i := 1) rfl rfl d12_message_93 ?_
            refine z_icmp_ne fx d12_message_94 (fun c27 => ?_) (fun c27 => ?_)
            · replace e4 := zif_f c27 e4
              refine z_take 4 (lv' := [(0, .ref o_), (1, .int v_k), (2, .int v_what), (3, .int v_i_3)]) rfl ?_
              obtain ⟨v_i_16, e28, e4⟩ := zinv e4
              replace e28 := Option.some.inj e28
              refine z_iinc fx (i := 3) (x := v_i_3) (v := v_i_16) rfl (by rw [in1]; exact e28) rfl (lv' := [(0, .ref o_), (1, .int v_k), (2, .int v_what), (3, .int v_i_16)]) rfl rfl d12_message_104 ?_
              cases e4
              refine z_goto fx d12_message_107 ?_
              exact ih8 _ hl5
            · replace e4 := zif_t c27 e4
              refine z_aload_n fx (k := 0) (i := 0) rfl rfl d12_message_97 ?_
              refine z_iload_n fx (k := 3) (i := 3) rfl rfl d12_message_98 ?_
              refine z_iload_n fx (k := 2) (i := 2) rfl rfl d12_message_99 ?_
              obtain ⟨t17, e29, e4⟩ := zinv e4
              refine z_cVr fx (c12_msg (zLo X) (zDo X) Sh top hO o_ v_i_3 v_what μ1 _ ho e29) mv12_msg ml12_366 ho rfl rfl rfl rfl d12_message_100 ?_
              cases e4
              cases hl5
              cases h
              exact z_ireturn fx fin d12_message_103
          clear e4
          have klr13 : ∀ (n : Nat) (v_ahead_6 : Int32) (v_o_7 : Int32), zloop (fun s => f12_message_L2 o_ μ1 v_i_3 s.1 s.2) n (v_ahead_6, v_o_7) = some (v_ahead_8, v_o_9) → zZ zK1 X (zT0 Sh top) μ1 49 [(0, .ref o_), (1, .int v_k), (2, .int v_what), (3, .int v_i_3), (4, .int v_ahead_6), (5, .int v_o_7)] [] := by
            intro n
            induction n with
            | zero => intro v_ahead_6 v_o_7 hl12; cases hl12
            | succ n ih15 =>
              intro v_ahead_6 v_o_7 hl12
              obtain ⟨y, e11, hl12⟩ := zloop_inv hl12
              replace e11 : f12_message_L2 o_ μ1 v_i_3 v_ahead_6 v_o_7 = some y := e11
              unfold f12_message_L2 at e11
              refine z_iload fx (i := 5) rfl d12_message_49 ?_
              refine z_aload_n fx (k := 0) (i := 0) rfl rfl d12_message_51 ?_
              refine z_iconst fx (v := 2) ic2 d12_message_52 ?_
              obtain ⟨t10, e16, e11⟩ := zinv e11
              refine z_cVr fx (c12_its (zLo X) (zDo X) Sh top hO o_ 2 μ1 _ ho e16) mv12_its ml12_316 ho rfl rfl rfl rfl d12_message_53 ?_
              refine z_icmp_ge fx d12_message_56 (fun c17 => ?_) (fun c17 => ?_)
              · replace e11 := zif_f c17 e11
                cases e11
                cases hl12
                exact kx14
              · replace e11 := zif_t c17 e11
                refine z_iload fx (i := 4) rfl d12_message_59 ?_
                obtain ⟨x11, e18, e11⟩ := zinv e11
                have k19 : zZ zK1 X (zT0 Sh top) μ1 82 [(0, .ref o_), (1, .int v_k), (2, .int v_what), (3, .int v_i_3), (4, .int v_ahead_6), (5, .int v_o_7)] [.int x11, .int v_ahead_6] := by
                  refine z_iadd fx d12_message_82 ?_
                  obtain ⟨v_ahead_14, e25, e11⟩ := zinv e11
                  replace e25 := Option.some.inj e25
                  refine z_top (congrArg Value.int e25) ?_
                  refine z_istore fx (i := 4) rfl (lv' := [(0, .ref o_), (1, .int v_k), (2, .int v_what), (3, .int v_i_3), (4, .int v_ahead_14), (5, .int v_o_7)]) rfl rfl d12_message_83 ?_
                  obtain ⟨v_o_15, e26, e11⟩ := zinv e11
                  replace e26 := Option.some.inj e26
                  refine z_iinc fx (i := 5) (x := v_o_7) (v := v_o_15) rfl (by rw [in1]; exact e26) rfl (lv' := [(0, .ref o_), (1, .int v_k), (2, .int v_what), (3, .int v_i_3), (4, .int v_ahead_14), (5, .int v_o_15)]) rfl rfl d12_message_85 ?_
                  cases e11
                  refine z_goto fx d12_message_88 ?_
                  exact ih15 _ _ hl12
                obtain ⟨b12, e21, e18⟩ := zinv e18
                have kt20 : b12 = true → zZ zK1 X (zT0 Sh top) μ1 77 [(0, .ref o_), (1, .int v_k), (2, .int v_what), (3, .int v_i_3), (4, .int v_ahead_6), (5, .int v_o_7)] [.int v_ahead_6] := by
                  intro hc
                  replace e18 := zif_t hc e18
                  refine z_iconst fx (v := 1) ic1 d12_message_77 ?_
                  cases e18
                  refine z_goto fx d12_message_78 ?_
                  exact k19
                have kf20 : b12 = false → zZ zK1 X (zT0 Sh top) μ1 81 [(0, .ref o_), (1, .int v_k), (2, .int v_what), (3, .int v_i_3), (4, .int v_ahead_6), (5, .int v_o_7)] [.int v_ahead_6] := by
                  intro hc
                  replace e18 := zif_f hc e18
                  refine z_iconst fx (v := 0) ic0 d12_message_81 ?_
                  cases e18
                  exact k19
                clear e18
                refine z_iload fx (i := 5) rfl d12_message_61 ?_
                refine z_iload_n fx (k := 3) (i := 3) rfl rfl d12_message_63 ?_
                refine z_icmp_eq fx d12_message_64 (fun c22 => ?_) (fun c22 => ?_)
                · replace e21 := zif_t c22 e21
                  cases e21
                  exact kf20 rfl
                · replace e21 := zif_f c22 e21
                  refine z_aload_n fx (k := 0) (i := 0) rfl rfl d12_message_67 ?_
                  refine z_iload fx (i := 5) rfl d12_message_68 ?_
                  refine z_iload_n fx (k := 3) (i := 3) rfl rfl d12_message_70 ?_
                  obtain ⟨t13, e23, e21⟩ := zinv e21
                  refine z_cVr fx (c12_isEarlier (zLo X) (zDo X) Sh top hO o_ v_o_7 v_i_3 μ1 _ ho e23) mv12_isEarlier ml12_486 ho rfl rfl rfl rfl d12_message_71 ?_
                  cases e21
                  refine z_ifb_eq fx d12_message_74 (fun c24 => ?_) (fun c24 => ?_)
                  · exact kf20 c24
                  · exact kt20 c24
          exact klr13 _ _ _ e30
    exact klr6 _ _ e31
  clear h
  obtain ⟨b18, e32, e3⟩ := zinv e3
  have kf33 : b18 = false → zZ zK1 X (zT0 Sh top) μ1 20 [(0, .ref o_), (1, .int v_k), (2, .int v_what)] [] := by
    intro hc
    replace e3 := zif_f hc e3
    refine z_iload_n fx (k := 2) (i := 2) rfl rfl d12_message_20 ?_
    refine z_iconst fx (v := 0) ic0 d12_message_21 ?_
    refine z_bipush fx (v := 9) bp9 d12_message_22 ?_
    obtain ⟨t19, e34, e3⟩ := zinv e3
    refine z_cSr fx (c12_isIn (zLo X) (zDo X) Sh top hO v_what 0 9 μ1 _  e34) ms12_isIn ml12_250 rfl rfl rfl rfl d12_message_24 ?_
    cases e3
    refine z_ifb_ne fx d12_message_27 (fun c35 => ?_) (fun c35 => ?_)
    · exact kf2 (by rw [c35]; rfl)
    · exact kt2 (by rw [c35]; rfl)
  have kt33 : b18 = true → zZ zK1 X (zT0 Sh top) μ1 30 [(0, .ref o_), (1, .int v_k), (2, .int v_what)] [] := by
    intro hc
    replace e3 := zif_t hc e3
    cases e3
    exact kt2 rfl
  clear e3
  refine z_iload_n fx (k := 1) (i := 1) rfl rfl d12_message_5 ?_
  refine z_iconst fx (v := 0) ic0 d12_message_6 ?_
  refine z_aload_n fx (k := 0) (i := 0) rfl rfl d12_message_7 ?_
  refine z_iconst fx (v := 2) ic2 d12_message_8 ?_
  obtain ⟨t20, e36, e32⟩ := zinv e32
  refine z_cVr fx (c12_its (zLo X) (zDo X) Sh top hO o_ 2 μ1 _ ho e36) mv12_its ml12_316 ho rfl rfl rfl rfl d12_message_9 ?_
  refine z_iconst fx (v := 1) ic1 d12_message_12 ?_
  refine z_isub fx d12_message_13 ?_
  obtain ⟨t21, e37, e32⟩ := zinv e32
  refine z_cSr fx (c12_isIn (zLo X) (zDo X) Sh top hO v_k 0 (t20 - 1) μ1 _  e37) ms12_isIn ml12_250 rfl rfl rfl rfl d12_message_14 ?_
  cases e32
  refine z_ifb_eq fx d12_message_17 (fun c38 => ?_) (fun c38 => ?_)
  · exact kt33 (by rw [c38]; rfl)
  · exact kf33 (by rw [c38]; rfl)
