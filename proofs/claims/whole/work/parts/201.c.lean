theorem d5_hostStatement_0 : zd cX5_hostStatement 0 (.aload_n 0) 1 1 := by decide +kernel
theorem d5_hostStatement_1 : zd cX5_hostStatement 1 (.getfield 18) 3 4 := by decide +kernel
theorem d5_hostStatement_4 : zd cX5_hostStatement 4 (.getfield 162) 3 7 := by decide +kernel
theorem d5_hostStatement_7 : zd cX5_hostStatement 7 (.bipush 8) 2 9 := by decide +kernel
theorem d5_hostStatement_9 : zj cX5_hostStatement 9 (.if_icmp .ne 13) 13 12 22 := by decide +kernel
theorem d5_hostStatement_12 : zd cX5_hostStatement 12 (.aload_n 0) 1 13 := by decide +kernel
theorem d5_hostStatement_13 : zd cX5_hostStatement 13 (.iconst 5) 1 14 := by decide +kernel
theorem d5_hostStatement_14 : zd cX5_hostStatement 14 (.aload_n 0) 1 15 := by decide +kernel
theorem d5_hostStatement_15 : zd cX5_hostStatement 15 (.getfield 60) 3 18 := by decide +kernel
theorem d5_hostStatement_18 : zd cX5_hostStatement 18 (.invokevirtual 92) 3 21 := by decide +kernel
theorem d5_hostStatement_21 : zd cX5_hostStatement 21 (.ireturn) 1 22 := by decide +kernel
theorem d5_hostStatement_22 : zd cX5_hostStatement 22 (.aload_n 0) 1 23 := by decide +kernel
theorem d5_hostStatement_23 : zd cX5_hostStatement 23 (.ldc 48) 2 25 := by decide +kernel
theorem d5_hostStatement_25 : zd cX5_hostStatement 25 (.invokevirtual 99) 3 28 := by decide +kernel
theorem d5_hostStatement_28 : zj cX5_hostStatement 28 (.ifCond .eq 10) 10 31 38 := by decide +kernel
theorem d5_hostStatement_31 : zd cX5_hostStatement 31 (.aload_n 0) 1 32 := by decide +kernel
theorem d5_hostStatement_32 : zd cX5_hostStatement 32 (.invokevirtual 115) 3 35 := by decide +kernel
theorem d5_hostStatement_35 : zj cX5_hostStatement 35 (.ifCond .ne 5) 5 38 40 := by decide +kernel
theorem d5_hostStatement_38 : zd cX5_hostStatement 38 (.iconst 0) 1 39 := by decide +kernel
theorem d5_hostStatement_39 : zd cX5_hostStatement 39 (.ireturn) 1 40 := by decide +kernel
theorem d5_hostStatement_40 : zd cX5_hostStatement 40 (.aload_n 0) 1 41 := by decide +kernel
theorem d5_hostStatement_41 : zd cX5_hostStatement 41 (.getfield 18) 3 44 := by decide +kernel
theorem d5_hostStatement_44 : zd cX5_hostStatement 44 (.getfield 162) 3 47 := by decide +kernel
theorem d5_hostStatement_47 : zd cX5_hostStatement 47 (.istore_n 1) 1 48 := by decide +kernel
theorem d5_hostStatement_48 : zd cX5_hostStatement 48 (.aload_n 0) 1 49 := by decide +kernel
theorem d5_hostStatement_49 : zd cX5_hostStatement 49 (.getfield 9) 3 52 := by decide +kernel
theorem d5_hostStatement_52 : zd cX5_hostStatement 52 (.iconst 0) 1 53 := by decide +kernel
theorem d5_hostStatement_53 : zd cX5_hostStatement 53 (.aload_n 0) 1 54 := by decide +kernel
theorem d5_hostStatement_54 : zd cX5_hostStatement 54 (.getfield 18) 3 57 := by decide +kernel
theorem d5_hostStatement_57 : zd cX5_hostStatement 57 (.getfield 165) 3 60 := by decide +kernel
theorem d5_hostStatement_60 : zd cX5_hostStatement 60 (.iload_n 1) 1 61 := by decide +kernel
theorem d5_hostStatement_61 : zd cX5_hostStatement 61 (.bipush 6) 2 63 := by decide +kernel
theorem d5_hostStatement_63 : zd cX5_hostStatement 63 (.imul) 1 64 := by decide +kernel
theorem d5_hostStatement_64 : zd cX5_hostStatement 64 (.bipush 6) 2 66 := by decide +kernel
theorem d5_hostStatement_66 : zd cX5_hostStatement 66 (.invokestatic 121) 3 69 := by decide +kernel
theorem d5_hostStatement_69 : zd cX5_hostStatement 69 (.aload_n 0) 1 70 := by decide +kernel
theorem d5_hostStatement_70 : zd cX5_hostStatement 70 (.getfield 18) 3 73 := by decide +kernel
theorem d5_hostStatement_73 : zd cX5_hostStatement 73 (.dup) 1 74 := by decide +kernel
theorem d5_hostStatement_74 : zd cX5_hostStatement 74 (.getfield 162) 3 77 := by decide +kernel
theorem d5_hostStatement_77 : zd cX5_hostStatement 77 (.iconst 1) 1 78 := by decide +kernel
theorem d5_hostStatement_78 : zd cX5_hostStatement 78 (.iadd) 1 79 := by decide +kernel
theorem d5_hostStatement_79 : zd cX5_hostStatement 79 (.putfield 162) 3 82 := by decide +kernel
theorem d5_hostStatement_82 : zd cX5_hostStatement 82 (.aload_n 0) 1 83 := by decide +kernel
theorem d5_hostStatement_83 : zd cX5_hostStatement 83 (.ldc 50) 2 85 := by decide +kernel
theorem d5_hostStatement_85 : zd cX5_hostStatement 85 (.invokevirtual 99) 3 88 := by decide +kernel
theorem d5_hostStatement_88 : zj cX5_hostStatement 88 (.ifCond .ne 5) 5 91 93 := by decide +kernel
theorem d5_hostStatement_91 : zd cX5_hostStatement 91 (.iconst 0) 1 92 := by decide +kernel
theorem d5_hostStatement_92 : zd cX5_hostStatement 92 (.ireturn) 1 93 := by decide +kernel
theorem d5_hostStatement_93 : zd cX5_hostStatement 93 (.aload_n 0) 1 94 := by decide +kernel
theorem d5_hostStatement_94 : zd cX5_hostStatement 94 (.invokevirtual 145) 3 97 := by decide +kernel
theorem d5_hostStatement_97 : zd cX5_hostStatement 97 (.istore_n 2) 1 98 := by decide +kernel
theorem d5_hostStatement_98 : zd cX5_hostStatement 98 (.iload_n 2) 1 99 := by decide +kernel
theorem d5_hostStatement_99 : zd cX5_hostStatement 99 (.iconst (-1)) 1 100 := by decide +kernel
theorem d5_hostStatement_100 : zj cX5_hostStatement 100 (.if_icmp .ne 5) 5 103 105 := by decide +kernel
theorem d5_hostStatement_103 : zd cX5_hostStatement 103 (.iconst 0) 1 104 := by decide +kernel
theorem d5_hostStatement_104 : zd cX5_hostStatement 104 (.ireturn) 1 105 := by decide +kernel
theorem d5_hostStatement_105 : zd cX5_hostStatement 105 (.aload_n 0) 1 106 := by decide +kernel
theorem d5_hostStatement_106 : zd cX5_hostStatement 106 (.getfield 18) 3 109 := by decide +kernel
theorem d5_hostStatement_109 : zd cX5_hostStatement 109 (.getfield 168) 3 112 := by decide +kernel
theorem d5_hostStatement_112 : zd cX5_hostStatement 112 (.iload_n 1) 1 113 := by decide +kernel
theorem d5_hostStatement_113 : zd cX5_hostStatement 113 (.iload_n 2) 1 114 := by decide +kernel
theorem d5_hostStatement_114 : zd cX5_hostStatement 114 (.iastore) 1 115 := by decide +kernel
theorem d5_hostStatement_115 : zd cX5_hostStatement 115 (.iconst 1) 1 116 := by decide +kernel
theorem d5_hostStatement_116 : zd cX5_hostStatement 116 (.ireturn) 1 117 := by decide +kernel
set_option maxHeartbeats 4000000 in
set_option maxRecDepth 20000 in
theorem c5_hostStatement (l : Launch) (D : zDt) (Sh : zSh) (top : Nat) (hO : zOK Sh) (o_ : Nat) (μ : zM) (r_ : Bool) (μ_ : zM) (ho : (Sh o_).1 = 12) (h : f5_hostStatement o_ μ = some (r_, μ_)) : zMet l D zK1 yX5_hostStatement cX5_hostStatement 3 (some .boolean) (zrm 10 237) [.ref o_] Sh top μ (some (.int (bI r_))) Sh top μ_ 0 0 := by
  refine zMet_of (by decide) (Nat.le_of_ble_eq_true rfl) fun X hX1 hX2 fx fin => ?_
  subst hX1; subst hX2
  replace fx : zFix X cX5_hostStatement RX5 (zrm 10 237) 3 := fx
  show zZ zK1 X (zT0 Sh top) μ 0 [(0, .ref o_)] []
  unfold f5_hostStatement at h
  refine z_aload_n fx (k := 0) (i := 0) rfl rfl d5_hostStatement_0 ?_
  obtain ⟨w1, e1, h⟩ := zinv h
  refine z_getR fx 5 9 509 17 ho lf5_18 ⟨fk5_9, rfl⟩ e1 d5_hostStatement_1 (fun tw1 => ?_)
  refine z_getI fx 10 17 1017 tw1 lf5_162 ⟨fk10_17, rfl⟩ d5_hostStatement_4 ?_
  refine z_bipush fx (v := 8) bp8 d5_hostStatement_7 ?_
  refine z_icmp_ne fx d5_hostStatement_9 (fun c2 => ?_) (fun c2 => ?_)
  · replace h := zif_f c2 h
    obtain ⟨b2, μ3, e4, h⟩ := zinv2 h
    have kt3 : b2 = true → zZ zK1 X (zT0 Sh top) μ3 38 [(0, .ref o_)] [] := by
      intro hc
      replace h := zif_t hc h
      refine z_iconst fx (v := 0) ic0 d5_hostStatement_38 ?_
      refine z_top (show Value.int 0 = .int (bI false) from rfl) ?_
      cases h
      exact z_zreturn fx fin d5_hostStatement_39
    have kf3 : b2 = false → zZ zK1 X (zT0 Sh top) μ3 40 [(0, .ref o_)] [] := by
      intro hc
      replace h := zif_f hc h
      refine z_aload_n fx (k := 0) (i := 0) rfl rfl d5_hostStatement_40 ?_
      obtain ⟨w4, e5, h⟩ := zinv h
      refine z_getR fx 5 9 509 17 ho lf5_18 ⟨fk5_9, rfl⟩ e5 d5_hostStatement_41 (fun tw4 => ?_)
      refine z_getI fx 10 17 1017 tw4 lf5_162 ⟨fk10_17, rfl⟩ d5_hostStatement_44 ?_
      obtain ⟨v_host_5, e6, h⟩ := zinv h
      replace e6 := Option.some.inj e6
      refine z_top (congrArg Value.int e6) ?_
      refine z_istore_n fx (k := 1) (i := 1) rfl rfl (lv' := [(0, .ref o_), (1, .int v_host_5)]) rfl rfl d5_hostStatement_47 ?_
      refine z_aload_n fx (k := 0) (i := 0) rfl rfl d5_hostStatement_48 ?_
      refine z_getO fx 5 0 1 ho lf5_9 fk5_0 d5_hostStatement_49 ?_
      refine z_iconst fx (v := 0) ic0 d5_hostStatement_52 ?_
      refine z_aload_n fx (k := 0) (i := 0) rfl rfl d5_hostStatement_53 ?_
      obtain ⟨w6, e7, h⟩ := zinv h
      refine z_getR fx 5 9 509 17 ho lf5_18 ⟨fk5_9, rfl⟩ e7 d5_hostStatement_54 (fun tw6 => ?_)
      refine z_getO fx 10 1 2 tw6 lf5_165 fk10_1 d5_hostStatement_57 ?_
      refine z_iload_n fx (k := 1) (i := 1) rfl rfl d5_hostStatement_60 ?_
      refine z_bipush fx (v := 6) bp6 d5_hostStatement_61 ?_
      refine z_imul fx d5_hostStatement_63 ?_
      refine z_bipush fx (v := 6) bp6 d5_hostStatement_64 ?_
      obtain ⟨μ7, e8, h⟩ := zinv h
      refine z_copy fx ml5_121 (ok5_0 hO ho) (ok10_1 hO tw6) e8 (Nat.le_of_ble_eq_true rfl) ⟨Nat.le_of_ble_eq_true rfl, Nat.le_of_ble_eq_true rfl⟩ d5_hostStatement_66 ?_
      refine z_aload_n fx (k := 0) (i := 0) rfl rfl d5_hostStatement_69 ?_
      obtain ⟨w8, e9, h⟩ := zinv h
      refine z_getR fx 5 9 509 17 ho lf5_18 ⟨fk5_9, rfl⟩ e9 d5_hostStatement_70 (fun tw8 => ?_)
      refine z_dup fx rfl d5_hostStatement_73 ?_
      refine z_getI fx 10 17 1017 tw8 lf5_162 ⟨fk10_17, rfl⟩ d5_hostStatement_74 ?_
      refine z_iconst fx (v := 1) ic1 d5_hostStatement_77 ?_
      refine z_iadd fx d5_hostStatement_78 ?_
      obtain ⟨μ9, e10, h⟩ := zinv h
      refine z_putI fx (ci := 10) 17 tw8 lf5_162 fp10_17 e10 d5_hostStatement_79 ?_
      refine z_aload_n fx (k := 0) (i := 0) rfl rfl d5_hostStatement_82 ?_
      refine z_ldcS fx 12 (by decide) d5_hostStatement_83 ?_
      obtain ⟨t10, μ11, e11, h⟩ := zinv2 h
      refine z_cVr fx (c5_word (zLo X) (zDo X) Sh top hO o_ 12 μ9 _ _ ho (by decide) e11) mv5_word ml5_99 ho rfl rfl rfl rfl d5_hostStatement_85 ?_
      refine z_ifb_ne fx d5_hostStatement_88 (fun c12 => ?_) (fun c12 => ?_)
      · replace h := zif_t c12 h
        refine z_aload_n fx (k := 0) (i := 0) rfl rfl d5_hostStatement_93 ?_
        obtain ⟨t12, μ13, e13, h⟩ := zinv2 h
        refine z_cVr fx (c5_bridgeName (zLo X) (zDo X) Sh top hO o_ μ11 _ _ ho e13) mv5_bridgeName ml5_145 ho rfl rfl rfl rfl d5_hostStatement_94 ?_
        refine z_istore_n fx (k := 2) (i := 2) rfl rfl (lv' := [(0, .ref o_), (1, .int v_host_5), (2, .int t12)]) rfl rfl d5_hostStatement_97 ?_
        refine z_iload_n fx (k := 2) (i := 2) rfl rfl d5_hostStatement_98 ?_
        refine z_iconst fx (v := (-1)) icm1 d5_hostStatement_99 ?_
        refine z_icmp_ne fx d5_hostStatement_100 (fun c14 => ?_) (fun c14 => ?_)
        · replace h := zif_f c14 h
          refine z_aload_n fx (k := 0) (i := 0) rfl rfl d5_hostStatement_105 ?_
          obtain ⟨w14, e15, h⟩ := zinv h
          refine z_getR fx 5 9 509 17 ho lf5_18 ⟨fk5_9, rfl⟩ e15 d5_hostStatement_106 (fun tw14 => ?_)
          refine z_getO fx 10 11 12 tw14 lf5_168 fk10_11 d5_hostStatement_109 ?_
          refine z_iload_n fx (k := 1) (i := 1) rfl rfl d5_hostStatement_112 ?_
          refine z_iload_n fx (k := 2) (i := 2) rfl rfl d5_hostStatement_113 ?_
          obtain ⟨μ15, e16, h⟩ := zinv h
          refine z_iast fx (ok10_11 hO tw14) e16 d5_hostStatement_114 ?_
          refine z_iconst fx (v := 1) ic1 d5_hostStatement_115 ?_
          refine z_top (show Value.int 1 = .int (bI true) from rfl) ?_
          cases h
          exact z_zreturn fx fin d5_hostStatement_116
        · replace h := zif_t c14 h
          refine z_iconst fx (v := 0) ic0 d5_hostStatement_103 ?_
          refine z_top (show Value.int 0 = .int (bI false) from rfl) ?_
          cases h
          exact z_zreturn fx fin d5_hostStatement_104
      · replace h := zif_f c12 h
        refine z_iconst fx (v := 0) ic0 d5_hostStatement_91 ?_
        refine z_top (show Value.int 0 = .int (bI false) from rfl) ?_
        cases h
        exact z_zreturn fx fin d5_hostStatement_92
    clear h
    obtain ⟨b16, μ17, e17, e4⟩ := zinv2 e4
    have kf18 : b16 = false → zZ zK1 X (zT0 Sh top) μ17 31 [(0, .ref o_)] [] := by
      intro hc
      replace e4 := zif_f hc e4
      refine z_aload_n fx (k := 0) (i := 0) rfl rfl d5_hostStatement_31 ?_
      obtain ⟨t18, μ19, e19, e4⟩ := zinv2 e4
      refine z_cVr fx (c5_newName (zLo X) (zDo X) Sh top hO o_ μ17 _ _ ho e19) mv5_newName ml5_115 ho rfl rfl rfl rfl d5_hostStatement_32 ?_
      cases e4
      refine z_ifb_ne fx d5_hostStatement_35 (fun c20 => ?_) (fun c20 => ?_)
      · exact kf3 (by rw [c20]; rfl)
      · exact kt3 (by rw [c20]; rfl)
    have kt18 : b16 = true → zZ zK1 X (zT0 Sh top) μ17 38 [(0, .ref o_)] [] := by
      intro hc
      replace e4 := zif_t hc e4
      cases e4
      exact kt3 rfl
    clear e4
    refine z_aload_n fx (k := 0) (i := 0) rfl rfl d5_hostStatement_22 ?_
    refine z_ldcS fx 11 (by decide) d5_hostStatement_23 ?_
    obtain ⟨t20, μ21, e21, e17⟩ := zinv2 e17
    refine z_cVr fx (c5_word (zLo X) (zDo X) Sh top hO o_ 11 μ _ _ ho (by decide) e21) mv5_word ml5_99 ho rfl rfl rfl rfl d5_hostStatement_25 ?_
    cases e17
    refine z_ifb_eq fx d5_hostStatement_28 (fun c22 => ?_) (fun c22 => ?_)
    · exact kt18 (by rw [c22]; rfl)
    · exact kf18 (by rw [c22]; rfl)
  · replace h := zif_t c2 h
    refine z_aload_n fx (k := 0) (i := 0) rfl rfl d5_hostStatement_12 ?_
    refine z_iconst fx (v := 5) ic5 d5_hostStatement_13 ?_
    refine z_aload_n fx (k := 0) (i := 0) rfl rfl d5_hostStatement_14 ?_
    refine z_getI fx 5 3 503 ho lf5_60 ⟨fk5_3, rfl⟩ d5_hostStatement_15 ?_
    obtain ⟨t22, μ23, e23, h⟩ := zinv2 h
    refine z_cVr fx (c5_fails (zLo X) (zDo X) Sh top hO o_ 5 (gF μ 503 o_) μ _ _ ho e23) mv5_fails ml5_92 ho rfl rfl rfl rfl d5_hostStatement_18 ?_
    cases h
    exact z_zreturn fx fin d5_hostStatement_21
theorem d5_semicolon_0 : zd cX5_semicolon 0 (.aload_n 0) 1 1 := by decide +kernel
theorem d5_semicolon_1 : zd cX5_semicolon 1 (.invokevirtual 68) 3 4 := by decide +kernel
theorem d5_semicolon_4 : zd cX5_semicolon 4 (.aload_n 0) 1 5 := by decide +kernel
theorem d5_semicolon_5 : zd cX5_semicolon 5 (.getfield 60) 3 8 := by decide +kernel
theorem d5_semicolon_8 : zd cX5_semicolon 8 (.aload_n 0) 1 9 := by decide +kernel
theorem d5_semicolon_9 : zd cX5_semicolon 9 (.getfield 52) 3 12 := by decide +kernel
theorem d5_semicolon_12 : zj cX5_semicolon 12 (.if_icmp .ge 17) 17 15 29 := by decide +kernel
theorem d5_semicolon_15 : zd cX5_semicolon 15 (.aload_n 0) 1 16 := by decide +kernel
theorem d5_semicolon_16 : zd cX5_semicolon 16 (.getfield 15) 3 19 := by decide +kernel
theorem d5_semicolon_19 : zd cX5_semicolon 19 (.aload_n 0) 1 20 := by decide +kernel
theorem d5_semicolon_20 : zd cX5_semicolon 20 (.getfield 60) 3 23 := by decide +kernel
theorem d5_semicolon_23 : zd cX5_semicolon 23 (.iaload) 1 24 := by decide +kernel
theorem d5_semicolon_24 : zd cX5_semicolon 24 (.bipush 59) 2 26 := by decide +kernel
theorem d5_semicolon_26 : zj cX5_semicolon 26 (.if_icmp .eq 13) 13 29 39 := by decide +kernel
theorem d5_semicolon_29 : zd cX5_semicolon 29 (.aload_n 0) 1 30 := by decide +kernel
theorem d5_semicolon_30 : zd cX5_semicolon 30 (.iconst 1) 1 31 := by decide +kernel
theorem d5_semicolon_31 : zd cX5_semicolon 31 (.aload_n 0) 1 32 := by decide +kernel
theorem d5_semicolon_32 : zd cX5_semicolon 32 (.getfield 60) 3 35 := by decide +kernel
theorem d5_semicolon_35 : zd cX5_semicolon 35 (.invokevirtual 92) 3 38 := by decide +kernel
theorem d5_semicolon_38 : zd cX5_semicolon 38 (.ireturn) 1 39 := by decide +kernel
theorem d5_semicolon_39 : zd cX5_semicolon 39 (.aload_n 0) 1 40 := by decide +kernel
theorem d5_semicolon_40 : zd cX5_semicolon 40 (.dup) 1 41 := by decide +kernel
theorem d5_semicolon_41 : zd cX5_semicolon 41 (.getfield 60) 3 44 := by decide +kernel
theorem d5_semicolon_44 : zd cX5_semicolon 44 (.iconst 1) 1 45 := by decide +kernel
theorem d5_semicolon_45 : zd cX5_semicolon 45 (.iadd) 1 46 := by decide +kernel
theorem d5_semicolon_46 : zd cX5_semicolon 46 (.putfield 60) 3 49 := by decide +kernel
theorem d5_semicolon_49 : zd cX5_semicolon 49 (.iconst 1) 1 50 := by decide +kernel
theorem d5_semicolon_50 : zd cX5_semicolon 50 (.ireturn) 1 51 := by decide +kernel
set_option maxHeartbeats 4000000 in
set_option maxRecDepth 20000 in
theorem c5_semicolon (l : Launch) (D : zDt) (Sh : zSh) (top : Nat) (hO : zOK Sh) (o_ : Nat) (μ : zM) (r_ : Bool) (μ_ : zM) (ho : (Sh o_).1 = 12) (h : f5_semicolon o_ μ = some (r_, μ_)) : zMet l D zK1 yX5_semicolon cX5_semicolon 1 (some .boolean) (zrm 7 170) [.ref o_] Sh top μ (some (.int (bI r_))) Sh top μ_ 0 0 := by
  refine zMet_of (by decide) (Nat.le_of_ble_eq_true rfl) fun X hX1 hX2 fx fin => ?_
  subst hX1; subst hX2
  replace fx : zFix X cX5_semicolon RX5 (zrm 7 170) 1 := fx
  show zZ zK1 X (zT0 Sh top) μ 0 [(0, .ref o_)] []
  unfold f5_semicolon at h
  refine z_aload_n fx (k := 0) (i := 0) rfl rfl d5_semicolon_0 ?_
  obtain ⟨μ1, e1, h⟩ := zinv h
  refine z_cVv fx (c5_skipBlanks (zLo X) (zDo X) Sh top hO o_ μ _ ho e1) mv5_skipBlanks ml5_68 ho rfl rfl rfl rfl d5_semicolon_1 ?_
  obtain ⟨b2, e3, h⟩ := zinv h
  have kt2 : b2 = true → zZ zK1 X (zT0 Sh top) μ1 29 [(0, .ref o_)] [] := by
    intro hc
    replace h := zif_t hc h
    refine z_aload_n fx (k := 0) (i := 0) rfl rfl d5_semicolon_29 ?_
    refine z_iconst fx (v := 1) ic1 d5_semicolon_30 ?_
    refine z_aload_n fx (k := 0) (i := 0) rfl rfl d5_semicolon_31 ?_
    refine z_getI fx 5 3 503 ho lf5_60 ⟨fk5_3, rfl⟩ d5_semicolon_32 ?_
    obtain ⟨t3, μ4, e4, h⟩ := zinv2 h
    refine z_cVr fx (c5_fails (zLo X) (zDo X) Sh top hO o_ 1 (gF μ1 503 o_) μ1 _ _ ho e4) mv5_fails ml5_92 ho rfl rfl rfl rfl d5_semicolon_35 ?_
    cases h
    exact z_zreturn fx fin d5_semicolon_38
  have kf2 : b2 = false → zZ zK1 X (zT0 Sh top) μ1 39 [(0, .ref o_)] [] := by
    intro hc
    replace h := zif_f hc h
    refine z_aload_n fx (k := 0) (i := 0) rfl rfl d5_semicolon_39 ?_
    refine z_dup fx rfl d5_semicolon_40 ?_
    refine z_getI fx 5 3 503 ho lf5_60 ⟨fk5_3, rfl⟩ d5_semicolon_41 ?_
    refine z_iconst fx (v := 1) ic1 d5_semicolon_44 ?_
    refine z_iadd fx d5_semicolon_45 ?_
    obtain ⟨μ5, e5, h⟩ := zinv h
    refine z_putI fx (ci := 5) 3 ho lf5_60 fp5_3 e5 d5_semicolon_46 ?_
    refine z_iconst fx (v := 1) ic1 d5_semicolon_49 ?_
    refine z_top (show Value.int 1 = .int (bI true) from rfl) ?_
    cases h
    exact z_zreturn fx fin d5_semicolon_50
  clear h
  refine z_aload_n fx (k := 0) (i := 0) rfl rfl d5_semicolon_4 ?_
  refine z_getI fx 5 3 503 ho lf5_60 ⟨fk5_3, rfl⟩ d5_semicolon_5 ?_
  refine z_aload_n fx (k := 0) (i := 0) rfl rfl d5_semicolon_8 ?_
  refine z_getI fx 5 2 502 ho lf5_52 ⟨fk5_2, rfl⟩ d5_semicolon_9 ?_
  refine z_icmp_ge fx d5_semicolon_12 (fun c6 => ?_) (fun c6 => ?_)
  · replace e3 := zif_f c6 e3
    cases e3
    exact kt2 rfl
  · replace e3 := zif_t c6 e3
    refine z_aload_n fx (k := 0) (i := 0) rfl rfl d5_semicolon_15 ?_
    refine z_getM fx 5 1 48 ho lf5_15 fk5_1 d5_semicolon_16 ?_
    refine z_aload_n fx (k := 0) (i := 0) rfl rfl d5_semicolon_19 ?_
    refine z_getI fx 5 3 503 ho lf5_60 ⟨fk5_3, rfl⟩ d5_semicolon_20 ?_
    obtain ⟨t6, e7, e3⟩ := zinv e3
    refine z_iald fx (ok5_1 hO ho) e7 d5_semicolon_23 ?_
    refine z_bipush fx (v := 59) bp59 d5_semicolon_24 ?_
    cases e3
    refine z_icmp_eq fx d5_semicolon_26 (fun c8 => ?_) (fun c8 => ?_)
    · exact kf2 (by rw [c8]; rfl)
    · exact kt2 (by rw [c8]; rfl)
theorem d5_statements_0 : zd cX5_statements 0 (.aload_n 0) 1 1 := by decide +kernel
theorem d5_statements_1 : zd cX5_statements 1 (.iload_n 1) 1 2 := by decide +kernel
theorem d5_statements_2 : zd cX5_statements 2 (.putfield 52) 3 5 := by decide +kernel
theorem d5_statements_5 : zd cX5_statements 5 (.aload_n 0) 1 6 := by decide +kernel
theorem d5_statements_6 : zd cX5_statements 6 (.aload_n 2) 1 7 := by decide +kernel
theorem d5_statements_7 : zd cX5_statements 7 (.putfield 18) 3 10 := by decide +kernel
theorem d5_statements_10 : zd cX5_statements 10 (.aload_n 0) 1 11 := by decide +kernel
theorem d5_statements_11 : zd cX5_statements 11 (.getfield 18) 3 14 := by decide +kernel
theorem d5_statements_14 : zd cX5_statements 14 (.invokevirtual 55) 3 17 := by decide +kernel
theorem d5_statements_17 : zd cX5_statements 17 (.aload_n 0) 1 18 := by decide +kernel
theorem d5_statements_18 : zd cX5_statements 18 (.iconst 0) 1 19 := by decide +kernel
theorem d5_statements_19 : zd cX5_statements 19 (.putfield 60) 3 22 := by decide +kernel
theorem d5_statements_22 : zd cX5_statements 22 (.aload_n 0) 1 23 := by decide +kernel
theorem d5_statements_23 : zd cX5_statements 23 (.iconst (-1)) 1 24 := by decide +kernel
theorem d5_statements_24 : zd cX5_statements 24 (.putfield 62) 3 27 := by decide +kernel
theorem d5_statements_27 : zd cX5_statements 27 (.aload_n 0) 1 28 := by decide +kernel
theorem d5_statements_28 : zd cX5_statements 28 (.iconst 0) 1 29 := by decide +kernel
theorem d5_statements_29 : zd cX5_statements 29 (.putfield 65) 3 32 := by decide +kernel
theorem d5_statements_32 : zd cX5_statements 32 (.aload_n 0) 1 33 := by decide +kernel
theorem d5_statements_33 : zd cX5_statements 33 (.iconst (-1)) 1 34 := by decide +kernel
theorem d5_statements_34 : zd cX5_statements 34 (.putfield 22) 3 37 := by decide +kernel
theorem d5_statements_37 : zd cX5_statements 37 (.iconst 0) 1 38 := by decide +kernel
theorem d5_statements_38 : zd cX5_statements 38 (.istore_n 3) 1 39 := by decide +kernel
theorem d5_statements_39 : zd cX5_statements 39 (.iload_n 3) 1 40 := by decide +kernel
theorem d5_statements_40 : zd cX5_statements 40 (.sipush 1600) 3 43 := by decide +kernel
theorem d5_statements_43 : zj cX5_statements 43 (.if_icmp .ge 130) 130 46 173 := by decide +kernel
theorem d5_statements_46 : zd cX5_statements 46 (.aload_n 0) 1 47 := by decide +kernel
theorem d5_statements_47 : zd cX5_statements 47 (.invokevirtual 68) 3 50 := by decide +kernel
theorem d5_statements_50 : zd cX5_statements 50 (.iload_n 3) 1 51 := by decide +kernel
theorem d5_statements_51 : zj cX5_statements 51 (.ifCond .le 24) 24 54 75 := by decide +kernel
theorem d5_statements_54 : zd cX5_statements 54 (.aload_n 0) 1 55 := by decide +kernel
theorem d5_statements_55 : zd cX5_statements 55 (.getfield 60) 3 58 := by decide +kernel
theorem d5_statements_58 : zd cX5_statements 58 (.aload_n 0) 1 59 := by decide +kernel
theorem d5_statements_59 : zd cX5_statements 59 (.getfield 52) 3 62 := by decide +kernel
theorem d5_statements_62 : zj cX5_statements 62 (.if_icmp .lt 13) 13 65 75 := by decide +kernel
theorem d5_statements_65 : zd cX5_statements 65 (.aload_n 0) 1 66 := by decide +kernel
theorem d5_statements_66 : zd cX5_statements 66 (.getfield 18) 3 69 := by decide +kernel
theorem d5_statements_69 : zd cX5_statements 69 (.iconst 1) 1 70 := by decide +kernel
theorem d5_statements_70 : zd cX5_statements 70 (.putfield 71) 3 73 := by decide +kernel
theorem d5_statements_73 : zd cX5_statements 73 (.iload_n 3) 1 74 := by decide +kernel
theorem d5_statements_74 : zd cX5_statements 74 (.ireturn) 1 75 := by decide +kernel
theorem d5_statements_75 : zd cX5_statements 75 (.iload_n 3) 1 76 := by decide +kernel
theorem d5_statements_76 : zj cX5_statements 76 (.ifCond .ne 12) 12 79 88 := by decide +kernel
theorem d5_statements_79 : zd cX5_statements 79 (.aload_n 0) 1 80 := by decide +kernel
theorem d5_statements_80 : zd cX5_statements 80 (.invokevirtual 75) 3 83 := by decide +kernel
theorem d5_statements_83 : zd cX5_statements 83 (.istore 4) 2 85 := by decide +kernel
theorem d5_statements_85 : zj cX5_statements 85 (.goto 68) 68 88 153 := by decide +kernel
theorem d5_statements_88 : zd cX5_statements 88 (.aload_n 0) 1 89 := by decide +kernel
theorem d5_statements_89 : zd cX5_statements 89 (.ldc 32) 2 91 := by decide +kernel
theorem d5_statements_91 : zd cX5_statements 91 (.invokevirtual 79) 3 94 := by decide +kernel
theorem d5_statements_94 : zj cX5_statements 94 (.ifCond .eq 12) 12 97 106 := by decide +kernel
theorem d5_statements_97 : zd cX5_statements 97 (.aload_n 0) 1 98 := by decide +kernel
theorem d5_statements_98 : zd cX5_statements 98 (.invokevirtual 83) 3 101 := by decide +kernel
theorem d5_statements_101 : zd cX5_statements 101 (.istore 4) 2 103 := by decide +kernel
theorem d5_statements_103 : zj cX5_statements 103 (.goto 50) 50 106 153 := by decide +kernel
theorem d5_statements_106 : zd cX5_statements 106 (.aload_n 0) 1 107 := by decide +kernel
theorem d5_statements_107 : zd cX5_statements 107 (.ldc 38) 2 109 := by decide +kernel
theorem d5_statements_109 : zd cX5_statements 109 (.invokevirtual 79) 3 112 := by decide +kernel
theorem d5_statements_112 : zj cX5_statements 112 (.ifCond .eq 12) 12 115 124 := by decide +kernel
theorem d5_statements_115 : zd cX5_statements 115 (.aload_n 0) 1 116 := by decide +kernel
theorem d5_statements_116 : zd cX5_statements 116 (.invokevirtual 86) 3 119 := by decide +kernel
theorem d5_statements_119 : zd cX5_statements 119 (.istore 4) 2 121 := by decide +kernel
theorem d5_statements_121 : zj cX5_statements 121 (.goto 32) 32 124 153 := by decide +kernel
theorem d5_statements_124 : zd cX5_statements 124 (.aload_n 0) 1 125 := by decide +kernel
theorem d5_statements_125 : zd cX5_statements 125 (.ldc 48) 2 127 := by decide +kernel
theorem d5_statements_127 : zd cX5_statements 127 (.invokevirtual 79) 3 130 := by decide +kernel
theorem d5_statements_130 : zj cX5_statements 130 (.ifCond .eq 12) 12 133 142 := by decide +kernel
theorem d5_statements_133 : zd cX5_statements 133 (.aload_n 0) 1 134 := by decide +kernel
theorem d5_statements_134 : zd cX5_statements 134 (.invokevirtual 89) 3 137 := by decide +kernel
theorem d5_statements_137 : zd cX5_statements 137 (.istore 4) 2 139 := by decide +kernel
theorem d5_statements_139 : zj cX5_statements 139 (.goto 14) 14 142 153 := by decide +kernel
theorem d5_statements_142 : zd cX5_statements 142 (.aload_n 0) 1 143 := by decide +kernel
theorem d5_statements_143 : zd cX5_statements 143 (.iconst 1) 1 144 := by decide +kernel
theorem d5_statements_144 : zd cX5_statements 144 (.aload_n 0) 1 145 := by decide +kernel
theorem d5_statements_145 : zd cX5_statements 145 (.getfield 60) 3 148 := by decide +kernel
theorem d5_statements_148 : zd cX5_statements 148 (.invokevirtual 92) 3 151 := by decide +kernel
theorem d5_statements_151 : zd cX5_statements 151 (.istore 4) 2 153 := by decide +kernel
theorem d5_statements_153 : zd cX5_statements 153 (.iload 4) 2 155 := by decide +kernel
theorem d5_statements_155 : zj cX5_statements 155 (.ifCond .eq 10) 10 158 165 := by decide +kernel
theorem d5_statements_158 : zd cX5_statements 158 (.aload_n 0) 1 159 := by decide +kernel
theorem d5_statements_159 : zd cX5_statements 159 (.invokevirtual 96) 3 162 := by decide +kernel
theorem d5_statements_162 : zj cX5_statements 162 (.ifCond .ne 5) 5 165 167 := by decide +kernel
theorem d5_statements_165 : zd cX5_statements 165 (.iconst (-1)) 1 166 := by decide +kernel
theorem d5_statements_166 : zd cX5_statements 166 (.ireturn) 1 167 := by decide +kernel
theorem d5_statements_167 : zd cX5_statements 167 (.iinc 3 1) 3 170 := by decide +kernel
theorem d5_statements_170 : zj cX5_statements 170 (.goto (-131)) (-131) 173 39 := by decide +kernel
theorem d5_statements_173 : zd cX5_statements 173 (.iconst (-1)) 1 174 := by decide +kernel
theorem d5_statements_174 : zd cX5_statements 174 (.ireturn) 1 175 := by decide +kernel
set_option maxHeartbeats 4000000 in
set_option maxRecDepth 20000 in
theorem c5_statements (l : Launch) (D : zDt) (Sh : zSh) (top : Nat) (hO : zOK Sh) (o_ : Nat) (v_textLength : Int32) (v_into : Nat) (μ : zM) (r_ : Int32) (μ_ : zM) (ho : (Sh o_).1 = 12) (h_into : (Sh v_into).1 = 17) (h : f5_statements o_ v_textLength v_into μ = some (r_, μ_)) : zMet l D zK1 yX5_statements cX5_statements 5 (some .int) (zrm 12 280) [.ref o_, .int v_textLength, .ref v_into] Sh top μ (some (.int r_)) Sh top μ_ 0 0 := by
  refine zMet_of (by decide) (Nat.le_of_ble_eq_true rfl) fun X hX1 hX2 fx fin => ?_
  subst hX1; subst hX2
  replace fx : zFix X cX5_statements RX5 (zrm 12 280) 5 := fx
  show zZ zK1 X (zT0 Sh top) μ 0 [(0, .ref o_), (1, .int v_textLength), (2, .ref v_into)] []
  unfold f5_statements at h
  refine z_aload_n fx (k := 0) (i := 0) rfl rfl d5_statements_0 ?_
  refine z_iload_n fx (k := 1) (i := 1) rfl rfl d5_statements_1 ?_
  obtain ⟨μ1, e1, h⟩ := zinv h
  refine z_putI fx (ci := 5) 2 ho lf5_52 fp5_2 e1 d5_statements_2 ?_
  refine z_aload_n fx (k := 0) (i := 0) rfl rfl d5_statements_5 ?_
  refine z_aload_n fx (k := 2) (i := 2) rfl rfl d5_statements_6 ?_
  obtain ⟨μ2, e2, h⟩ := zinv h
  refine z_putR fx (ci := 5) 9 (zci ho (by decide) (by decide)) ho lf5_18 fp5_9 (h_into.trans (congrArg Prod.snd fk5_9).symm) e2 d5_statements_7 ?_
  refine z_aload_n fx (k := 0) (i := 0) rfl rfl d5_statements_10 ?_
  obtain ⟨w3, e3, h⟩ := zinv h
  refine z_getR fx 5 9 509 17 ho lf5_18 ⟨fk5_9, rfl⟩ e3 d5_statements_11 (fun tw3 => ?_)
  obtain ⟨μ4, e4, h⟩ := zinv h
  refine z_cVv fx (c10_clear (zLo X) (zDo X) Sh top hO w3 μ2 _ tw3 e4) mv10_clear ml5_55 tw3 rfl rfl rfl rfl d5_statements_14 ?_
  refine z_aload_n fx (k := 0) (i := 0) rfl rfl d5_statements_17 ?_
  refine z_iconst fx (v := 0) ic0 d5_statements_18 ?_
  obtain ⟨μ5, e5, h⟩ := zinv h
  refine z_putI fx (ci := 5) 3 ho lf5_60 fp5_3 e5 d5_statements_19 ?_
  refine z_aload_n fx (k := 0) (i := 0) rfl rfl d5_statements_22 ?_
  refine z_iconst fx (v := (-1)) icm1 d5_statements_23 ?_
  obtain ⟨μ6, e6, h⟩ := zinv h
  refine z_putI fx (ci := 5) 4 ho lf5_62 fp5_4 e6 d5_statements_24 ?_
  refine z_aload_n fx (k := 0) (i := 0) rfl rfl d5_statements_27 ?_
  refine z_iconst fx (v := 0) ic0 d5_statements_28 ?_
  obtain ⟨μ7, e7, h⟩ := zinv h
  refine z_putI fx (ci := 5) 7 ho lf5_65 fp5_7 e7 d5_statements_29 ?_
  refine z_aload_n fx (k := 0) (i := 0) rfl rfl d5_statements_32 ?_
  refine z_iconst fx (v := (-1)) icm1 d5_statements_33 ?_
  obtain ⟨μ8, e8, h⟩ := zinv h
  refine z_putI fx (ci := 5) 8 ho lf5_22 fp5_8 e8 d5_statements_34 ?_
  refine z_iconst fx (v := 0) ic0 d5_statements_37 ?_
  refine z_istore_n fx (k := 3) (i := 3) rfl rfl (lv' := [(0, .ref o_), (1, .int v_textLength), (2, .ref v_into), (3, .int 0)]) rfl rfl d5_statements_38 ?_
  obtain ⟨r11, e41, h⟩ := zinv h
  have kx12 : ∀ (v_count_11 : Int32) (μ12 : zM), r11 = .inr (v_count_11, μ12) → zZ zK1 X (zT0 Sh top) μ12 173 [(0, .ref o_), (1, .int v_textLength), (2, .ref v_into), (3, .int v_count_11)] [] := by
    intro v_count_11 μ12 hr
    subst hr
    replace h := zel2 h
    refine z_take 3 (lv' := [(0, .ref o_), (1, .int v_textLength), (2, .ref v_into)]) rfl ?_
    refine z_iconst fx (v := (-1)) icm1 d5_statements_173 ?_
    cases h
    exact z_ireturn fx fin d5_statements_174
  have klr11 : ∀ (n : Nat) (v_count_9 : Int32) (μ10 : zM), zloop (fun s => f5_statements_L1 o_ s.1 s.2) n (v_count_9, μ10) = some r11 → zZ zK1 X (zT0 Sh top) μ10 39 [(0, .ref o_), (1, .int v_textLength), (2, .ref v_into), (3, .int v_count_9)] [] := by
    intro n
    induction n with
    | zero => intro v_count_9 μ10 hl10; cases hl10
    | succ n ih13 =>
      intro v_count_9 μ10 hl10
      obtain ⟨y, e9, hl10⟩ := zloop_inv hl10
      replace e9 : f5_statements_L1 o_ v_count_9 μ10 = some y := e9
      unfold f5_statements_L1 at e9
      refine z_iload_n fx (k := 3) (i := 3) rfl rfl d5_statements_39 ?_
      refine z_sipush fx (v := 1600) sp1600 d5_statements_40 ?_
      refine z_icmp_ge fx d5_statements_43 (fun c14 => ?_) (fun c14 => ?_)
      · replace e9 := zif_f c14 e9
        cases e9
        exact kx12 _ _ (Eq.symm hl10)
      · replace e9 := zif_t c14 e9
        refine z_aload_n fx (k := 0) (i := 0) rfl rfl d5_statements_46 ?_
        obtain ⟨μ13, e15, e9⟩ := zinv e9
        refine z_cVv fx (c5_skipBlanks (zLo X) (zDo X) Sh top hO o_ μ10 _ ho e15) mv5_skipBlanks ml5_68 ho rfl rfl rfl rfl d5_statements_47 ?_
        have kt16 : ((clt 0 v_count_9) && (!(clt (gF μ13 503 o_) (gF μ13 502 o_)))) = true → zZ zK1 X (zT0 Sh top) μ13 65 [(0, .ref o_), (1, .int v_textLength), (2, .ref v_into), (3, .int v_count_9)] [] := by
          intro hc
          replace e9 := zif_t hc e9
          refine z_aload_n fx (k := 0) (i := 0) rfl rfl d5_statements_65 ?_
          obtain ⟨w14, e17, e9⟩ := zinv e9
          refine z_getR fx 5 9 509 17 ho lf5_18 ⟨fk5_9, rfl⟩ e17 d5_statements_66 (fun tw14 => ?_)
          refine z_iconst fx (v := 1) ic1 d5_statements_69 ?_
          refine z_top (show Value.int 1 = .int (bI true) from rfl) ?_
          obtain ⟨μ15, e18, e9⟩ := zinv e9
          refine z_putB fx (ci := 10) 12 tw14 lf5_71 fp10_12 e18 d5_statements_70 ?_
          refine z_iload_n fx (k := 3) (i := 3) rfl rfl d5_statements_73 ?_
          cases e9
          cases hl10
          cases h
          exact z_ireturn fx fin d5_statements_74
        have kf16 : ((clt 0 v_count_9) && (!(clt (gF μ13 503 o_) (gF μ13 502 o_)))) = false → zZ zK1 X (zT0 Sh top) μ13 75 [(0, .ref o_), (1, .int v_textLength), (2, .ref v_into), (3, .int v_count_9)] [] := by
          intro hc
          replace e9 := zif_f hc e9
          obtain ⟨v_good_16, μ17, e19, e9⟩ := zinv2 e9
          have k20 : zZ zK1 X (zT0 Sh top) μ17 153 [(0, .ref o_), (1, .int v_textLength), (2, .ref v_into), (3, .int v_count_9), (4, .int (bI v_good_16))] [] := by
            obtain ⟨b18, μ19, e22, e9⟩ := zinv2 e9
            have kt21 : b18 = true → zZ zK1 X (zT0 Sh top) μ19 165 [(0, .ref o_), (1, .int v_textLength), (2, .ref v_into), (3, .int v_count_9), (4, .int (bI v_good_16))] [] := by
              intro hc
              replace e9 := zif_t hc e9
              refine z_iconst fx (v := (-1)) icm1 d5_statements_165 ?_
              cases e9
              cases hl10
              cases h
              exact z_ireturn fx fin d5_statements_166
            have kf21 : b18 = false → zZ zK1 X (zT0 Sh top) μ19 167 [(0, .ref o_), (1, .int v_textLength), (2, .ref v_into), (3, .int v_count_9), (4, .int (bI v_good_16))] [] := by
              intro hc
              replace e9 := zif_f hc e9
              refine z_take 4 (lv' := [(0, .ref o_), (1, .int v_textLength), (2, .ref v_into), (3, .int v_count_9)]) rfl ?_
              obtain ⟨v_count_20, e23, e9⟩ := zinv e9
              replace e23 := Option.some.inj e23
              refine z_iinc fx (i := 3) (x := v_count_9) (v := v_count_20) rfl (by rw [in1]; exact e23) rfl (lv' := [(0, .ref o_), (1, .int v_textLength), (2, .ref v_into), (3, .int v_count_20)]) rfl rfl d5_statements_167 ?_
              cases e9
              refine z_goto fx d5_statements_170 ?_
              exact ih13 _ _ hl10
            clear e9
            refine z_iload fx (i := 4) rfl d5_statements_153 ?_
            refine z_ifb_eq fx d5_statements_155 (fun c24 => ?_) (fun c24 => ?_)
            · replace e22 := zif_f c24 e22
              cases e22
              exact kt21 rfl
            · replace e22 := zif_t c24 e22
              refine z_aload_n fx (k := 0) (i := 0) rfl rfl d5_statements_158 ?_
              obtain ⟨t21, μ22, e25, e22⟩ := zinv2 e22
              refine z_cVr fx (c5_semicolon (zLo X) (zDo X) Sh top hO o_ μ17 _ _ ho e25) mv5_semicolon ml5_96 ho rfl rfl rfl rfl d5_statements_159 ?_
              cases e22
              refine z_ifb_ne fx d5_statements_162 (fun c26 => ?_) (fun c26 => ?_)
              · exact kf21 (by rw [c26]; rfl)
              · exact kt21 (by rw [c26]; rfl)
          clear e9
          refine z_iload_n fx (k := 3) (i := 3) rfl rfl d5_statements_75 ?_
          refine z_if_ne fx d5_statements_76 (fun c27 => ?_) (fun c27 => ?_)
          · replace e19 := zif_f c27 e19
            refine z_aload_n fx (k := 0) (i := 0) rfl rfl d5_statements_88 ?_
            refine z_ldcS fx 3 (by decide) d5_statements_89 ?_
            obtain ⟨t23, μ24, e28, e19⟩ := zinv2 e19
            refine z_cVr fx (c5_nextIs (zLo X) (zDo X) Sh top hO o_ 3 μ13 _ _ ho (by decide) e28) mv5_nextIs ml5_79 ho rfl rfl rfl rfl d5_statements_91 ?_
            refine z_ifb_eq fx d5_statements_94 (fun c29 => ?_) (fun c29 => ?_)
            · replace e19 := zif_f c29 e19
              refine z_aload_n fx (k := 0) (i := 0) rfl rfl d5_statements_106 ?_
              refine z_ldcS fx 6 (by decide) d5_statements_107 ?_
              obtain ⟨t25, μ26, e30, e19⟩ := zinv2 e19
              refine z_cVr fx (c5_nextIs (zLo X) (zDo X) Sh top hO o_ 6 μ24 _ _ ho (by decide) e30) mv5_nextIs ml5_79 ho rfl rfl rfl rfl d5_statements_109 ?_
              refine z_ifb_eq fx d5_statements_112 (fun c31 => ?_) (fun c31 => ?_)
              · replace e19 := zif_f c31 e19
                refine z_aload_n fx (k := 0) (i := 0) rfl rfl d5_statements_124 ?_
                refine z_ldcS fx 11 (by decide) d5_statements_125 ?_
                obtain ⟨t27, μ28, e32, e19⟩ := zinv2 e19
                refine z_cVr fx (c5_nextIs (zLo X) (zDo X) Sh top hO o_ 11 μ26 _ _ ho (by decide) e32) mv5_nextIs ml5_79 ho rfl rfl rfl rfl d5_statements_127 ?_
                refine z_ifb_eq fx d5_statements_130 (fun c33 => ?_) (fun c33 => ?_)
                · replace e19 := zif_f c33 e19
                  refine z_aload_n fx (k := 0) (i := 0) rfl rfl d5_statements_142 ?_
                  refine z_iconst fx (v := 1) ic1 d5_statements_143 ?_
                  refine z_aload_n fx (k := 0) (i := 0) rfl rfl d5_statements_144 ?_
                  refine z_getI fx 5 3 503 ho lf5_60 ⟨fk5_3, rfl⟩ d5_statements_145 ?_
                  obtain ⟨t29, μ30, e34, e19⟩ := zinv2 e19
                  refine z_cVr fx (c5_fails (zLo X) (zDo X) Sh top hO o_ 1 (gF μ28 503 o_) μ28 _ _ ho e34) mv5_fails ml5_92 ho rfl rfl rfl rfl d5_statements_148 ?_
                  refine z_istore fx (i := 4) rfl (lv' := [(0, .ref o_), (1, .int v_textLength), (2, .ref v_into), (3, .int v_count_9), (4, .int (bI t29))]) rfl rfl d5_statements_151 ?_
                  cases e19
                  exact k20
                · replace e19 := zif_t c33 e19
                  refine z_aload_n fx (k := 0) (i := 0) rfl rfl d5_statements_133 ?_
                  obtain ⟨t31, μ32, e35, e19⟩ := zinv2 e19
                  refine z_cVr fx (c5_hostStatement (zLo X) (zDo X) Sh top hO o_ μ28 _ _ ho e35) mv5_hostStatement ml5_89 ho rfl rfl rfl rfl d5_statements_134 ?_
                  refine z_istore fx (i := 4) rfl (lv' := [(0, .ref o_), (1, .int v_textLength), (2, .ref v_into), (3, .int v_count_9), (4, .int (bI t31))]) rfl rfl d5_statements_137 ?_
                  cases e19
                  refine z_goto fx d5_statements_139 ?_
                  exact k20
              · replace e19 := zif_t c31 e19
                refine z_aload_n fx (k := 0) (i := 0) rfl rfl d5_statements_115 ?_
                obtain ⟨t33, μ34, e36, e19⟩ := zinv2 e19
                refine z_cVr fx (c5_linkStatement (zLo X) (zDo X) Sh top hO o_ μ26 _ _ ho e36) mv5_linkStatement ml5_86 ho rfl rfl rfl rfl d5_statements_116 ?_
                refine z_istore fx (i := 4) rfl (lv' := [(0, .ref o_), (1, .int v_textLength), (2, .ref v_into), (3, .int v_count_9), (4, .int (bI t33))]) rfl rfl d5_statements_119 ?_
                cases e19
                refine z_goto fx d5_statements_121 ?_
                exact k20
            · replace e19 := zif_t c29 e19
              refine z_aload_n fx (k := 0) (i := 0) rfl rfl d5_statements_97 ?_
              obtain ⟨t35, μ36, e37, e19⟩ := zinv2 e19
              refine z_cVr fx (c5_bridgeStatement (zLo X) (zDo X) Sh top hO o_ μ24 _ _ ho e37) mv5_bridgeStatement ml5_83 ho rfl rfl rfl rfl d5_statements_98 ?_
              refine z_istore fx (i := 4) rfl (lv' := [(0, .ref o_), (1, .int v_textLength), (2, .ref v_into), (3, .int v_count_9), (4, .int (bI t35))]) rfl rfl d5_statements_101 ?_
              cases e19
              refine z_goto fx d5_statements_103 ?_
              exact k20
          · replace e19 := zif_t c27 e19
            refine z_aload_n fx (k := 0) (i := 0) rfl rfl d5_statements_79 ?_
            obtain ⟨t37, μ38, e38, e19⟩ := zinv2 e19
            refine z_cVr fx (c5_netStatement (zLo X) (zDo X) Sh top hO o_ μ13 _ _ ho e38) mv5_netStatement ml5_75 ho rfl rfl rfl rfl d5_statements_80 ?_
            refine z_istore fx (i := 4) rfl (lv' := [(0, .ref o_), (1, .int v_textLength), (2, .ref v_into), (3, .int v_count_9), (4, .int (bI t37))]) rfl rfl d5_statements_83 ?_
            cases e19
            refine z_goto fx d5_statements_85 ?_
            exact k20
        clear e9
        refine z_iload_n fx (k := 3) (i := 3) rfl rfl d5_statements_50 ?_
        refine z_if_le fx d5_statements_51 (fun c39 => ?_) (fun c39 => ?_)
        · exact kf16 (by simp [c39])
        · refine z_aload_n fx (k := 0) (i := 0) rfl rfl d5_statements_54 ?_
          refine z_getI fx 5 3 503 ho lf5_60 ⟨fk5_3, rfl⟩ d5_statements_55 ?_
          refine z_aload_n fx (k := 0) (i := 0) rfl rfl d5_statements_58 ?_
          refine z_getI fx 5 2 502 ho lf5_52 ⟨fk5_2, rfl⟩ d5_statements_59 ?_
          refine z_icmp_lt fx d5_statements_62 (fun c40 => ?_) (fun c40 => ?_)
          · exact kf16 (by simp [c39, c40])
          · exact kt16 (by simp [c39, c40])
  exact klr11 _ _ _ e41
theorem d8_dropMail_0 : zd cX8_dropMail 0 (.iconst 0) 1 1 := by decide +kernel
theorem d8_dropMail_1 : zd cX8_dropMail 1 (.istore_n 2) 1 2 := by decide +kernel
theorem d8_dropMail_2 : zd cX8_dropMail 2 (.iload_n 2) 1 3 := by decide +kernel
theorem d8_dropMail_3 : zd cX8_dropMail 3 (.iconst 3) 1 4 := by decide +kernel
theorem d8_dropMail_4 : zj cX8_dropMail 4 (.if_icmp .ge 23) 23 7 27 := by decide +kernel
theorem d8_dropMail_7 : zd cX8_dropMail 7 (.aload_n 0) 1 8 := by decide +kernel
theorem d8_dropMail_8 : zd cX8_dropMail 8 (.getfield 25) 3 11 := by decide +kernel
theorem d8_dropMail_11 : zd cX8_dropMail 11 (.iload_n 1) 1 12 := by decide +kernel
theorem d8_dropMail_12 : zd cX8_dropMail 12 (.iconst 3) 1 13 := by decide +kernel
theorem d8_dropMail_13 : zd cX8_dropMail 13 (.imul) 1 14 := by decide +kernel
theorem d8_dropMail_14 : zd cX8_dropMail 14 (.iload_n 2) 1 15 := by decide +kernel
theorem d8_dropMail_15 : zd cX8_dropMail 15 (.iadd) 1 16 := by decide +kernel
theorem d8_dropMail_16 : zd cX8_dropMail 16 (.aaload) 1 17 := by decide +kernel
theorem d8_dropMail_17 : zd cX8_dropMail 17 (.iconst 0) 1 18 := by decide +kernel
theorem d8_dropMail_18 : zd cX8_dropMail 18 (.putfield 171) 3 21 := by decide +kernel
theorem d8_dropMail_21 : zd cX8_dropMail 21 (.iinc 2 1) 3 24 := by decide +kernel
theorem d8_dropMail_24 : zj cX8_dropMail 24 (.goto (-22)) (-22) 27 2 := by decide +kernel
theorem d8_dropMail_27 : zd cX8_dropMail 27 (.return_) 1 28 := by decide +kernel
set_option maxHeartbeats 4000000 in
set_option maxRecDepth 20000 in
theorem c8_dropMail (l : Launch) (D : zDt) (Sh : zSh) (top : Nat) (hO : zOK Sh) (o_ : Nat) (v_end : Int32) (μ : zM) (μ_ : zM) (ho : (Sh o_).1 = 15) (h : f8_dropMail o_ v_end μ = some μ_) : zMet l D zK1 yX8_dropMail cX8_dropMail 3 none (zrm 0 0) [.ref o_, .int v_end] Sh top μ none Sh top μ_ 0 0 := by
  refine zMet_of (by decide) (Nat.le_of_ble_eq_true rfl) fun X hX1 hX2 fx fin => ?_
  subst hX1; subst hX2
  replace fx : zFix X cX8_dropMail RX8 (zrm 0 0) 3 := fx
  show zZ zK1 X (zT0 Sh top) μ 0 [(0, .ref o_), (1, .int v_end)] []
  unfold f8_dropMail at h
  refine z_iconst fx (v := 0) ic0 d8_dropMail_0 ?_
  refine z_istore_n fx (k := 2) (i := 2) rfl rfl (lv' := [(0, .ref o_), (1, .int v_end), (2, .int 0)]) rfl rfl d8_dropMail_1 ?_
  obtain ⟨v_k_3, μ4, e10, h⟩ := zinv2 h
  have kx4 : zZ zK1 X (zT0 Sh top) μ4 27 [(0, .ref o_), (1, .int v_end), (2, .int v_k_3)] [] := by
    refine z_take 2 (lv' := [(0, .ref o_), (1, .int v_end)]) rfl ?_
    cases h
    exact z_return fx fin d8_dropMail_27
  clear h
  have klr3 : ∀ (n : Nat) (v_k_1 : Int32) (μ2 : zM), zloop (fun s => f8_dropMail_L1 o_ v_end s.1 s.2) n (v_k_1, μ2) = some (v_k_3, μ4) → zZ zK1 X (zT0 Sh top) μ2 2 [(0, .ref o_), (1, .int v_end), (2, .int v_k_1)] [] := by
    intro n
    induction n with
    | zero => intro v_k_1 μ2 hl2; cases hl2
    | succ n ih5 =>
      intro v_k_1 μ2 hl2
      obtain ⟨y, e1, hl2⟩ := zloop_inv hl2
      replace e1 : f8_dropMail_L1 o_ v_end v_k_1 μ2 = some y := e1
      unfold f8_dropMail_L1 at e1
      refine z_iload_n fx (k := 2) (i := 2) rfl rfl d8_dropMail_2 ?_
      refine z_iconst fx (v := 3) ic3 d8_dropMail_3 ?_
      refine z_icmp_ge fx d8_dropMail_4 (fun c6 => ?_) (fun c6 => ?_)
      · replace e1 := zif_f c6 e1
        cases e1
        cases hl2
        exact kx4
      · replace e1 := zif_t c6 e1
        refine z_aload_n fx (k := 0) (i := 0) rfl rfl d8_dropMail_7 ?_
        refine z_getO fx 8 2 3 ho lf8_25 fk8_2 d8_dropMail_8 ?_
        refine z_iload_n fx (k := 1) (i := 1) rfl rfl d8_dropMail_11 ?_
        refine z_iconst fx (v := 3) ic3 d8_dropMail_12 ?_
        refine z_imul fx d8_dropMail_13 ?_
        refine z_iload_n fx (k := 2) (i := 2) rfl rfl d8_dropMail_14 ?_
        refine z_iadd fx d8_dropMail_15 ?_
        obtain ⟨j5, e7, e1⟩ := zinv e1
        refine z_aald fx 2 (by decide) (ok8_2 hO ho) e7 (v := .ref (o_ + 93 + 2 * j5)) rfl d8_dropMail_16 ?_
        refine z_iconst fx (v := 0) ic0 d8_dropMail_17 ?_
        refine z_top (show Value.int 0 = .int (bI false) from rfl) ?_
        obtain ⟨μ6, e8, e1⟩ := zinv e1
        refine z_putB fx (ci := 3) 1 (okA2 hO (ok8_2 hO ho) (rI_lt e7)) lf8_171 fp3_1 e8 d8_dropMail_18 ?_
        obtain ⟨v_k_7, e9, e1⟩ := zinv e1
        replace e9 := Option.some.inj e9
        refine z_iinc fx (i := 2) (x := v_k_1) (v := v_k_7) rfl (by rw [in1]; exact e9) rfl (lv' := [(0, .ref o_), (1, .int v_end), (2, .int v_k_7)]) rfl rfl d8_dropMail_21 ?_
        cases e1
        refine z_goto fx d8_dropMail_24 ?_
        exact ih5 _ _ hl2
  exact klr3 _ _ _ e10
theorem d10_farBridge_0 : zd cX10_farBridge 0 (.aload_n 0) 1 1 := by decide +kernel
theorem d10_farBridge_1 : zd cX10_farBridge 1 (.getfield 31) 3 4 := by decide +kernel
theorem d10_farBridge_4 : zd cX10_farBridge 4 (.iload_n 1) 1 5 := by decide +kernel
theorem d10_farBridge_5 : zd cX10_farBridge 5 (.iconst 1) 1 6 := by decide +kernel
theorem d10_farBridge_6 : zd cX10_farBridge 6 (.ixor) 1 7 := by decide +kernel
theorem d10_farBridge_7 : zd cX10_farBridge 7 (.iaload) 1 8 := by decide +kernel
theorem d10_farBridge_8 : zd cX10_farBridge 8 (.ireturn) 1 9 := by decide +kernel
set_option maxHeartbeats 4000000 in
set_option maxRecDepth 20000 in
theorem c10_farBridge (l : Launch) (D : zDt) (Sh : zSh) (top : Nat) (hO : zOK Sh) (o_ : Nat) (v_end : Int32) (μ : zM) (r_ : Int32) (ho : (Sh o_).1 = 17) (h : f10_farBridge o_ v_end μ = some r_) : zMet l D zK1 yX10_farBridge cX10_farBridge 2 (some .int) (zrm 0 0) [.ref o_, .int v_end] Sh top μ (some (.int r_)) Sh top μ 0 0 := by
  refine zMet_of (by decide) (Nat.le_of_ble_eq_true rfl) fun X hX1 hX2 fx fin => ?_
  subst hX1; subst hX2
  replace fx : zFix X cX10_farBridge RX10 (zrm 0 0) 2 := fx
  show zZ zK1 X (zT0 Sh top) μ 0 [(0, .ref o_), (1, .int v_end)] []
  unfold f10_farBridge at h
  refine z_aload_n fx (k := 0) (i := 0) rfl rfl d10_farBridge_0 ?_
  refine z_getO fx 10 6 7 ho lf10_31 fk10_6 d10_farBridge_1 ?_
  refine z_iload_n fx (k := 1) (i := 1) rfl rfl d10_farBridge_4 ?_
  refine z_iconst fx (v := 1) ic1 d10_farBridge_5 ?_
  refine z_ixor fx d10_farBridge_6 ?_
  obtain ⟨t1, e1, h⟩ := zinv h
  refine z_iald fx (ok10_6 hO ho) e1 d10_farBridge_7 ?_
  cases h
  exact z_ireturn fx fin d10_farBridge_8
theorem d8_isUp_0 : zd cX8_isUp 0 (.aload_n 0) 1 1 := by decide +kernel
theorem d8_isUp_1 : zd cX8_isUp 1 (.getfield 29) 3 4 := by decide +kernel
theorem d8_isUp_4 : zd cX8_isUp 4 (.iload_n 1) 1 5 := by decide +kernel
theorem d8_isUp_5 : zd cX8_isUp 5 (.iconst 1) 1 6 := by decide +kernel
theorem d8_isUp_6 : zd cX8_isUp 6 (.ishr) 1 7 := by decide +kernel
theorem d8_isUp_7 : zd cX8_isUp 7 (.baload) 1 8 := by decide +kernel
theorem d8_isUp_8 : zj cX8_isUp 8 (.ifCond .eq 46) 46 11 54 := by decide +kernel
theorem d8_isUp_11 : zd cX8_isUp 11 (.aload_n 0) 1 12 := by decide +kernel
theorem d8_isUp_12 : zd cX8_isUp 12 (.getfield 11) 3 15 := by decide +kernel
theorem d8_isUp_15 : zd cX8_isUp 15 (.aload_n 0) 1 16 := by decide +kernel
theorem d8_isUp_16 : zd cX8_isUp 16 (.getfield 62) 3 19 := by decide +kernel
theorem d8_isUp_19 : zd cX8_isUp 19 (.getfield 158) 3 22 := by decide +kernel
theorem d8_isUp_22 : zd cX8_isUp 22 (.iload_n 1) 1 23 := by decide +kernel
theorem d8_isUp_23 : zd cX8_isUp 23 (.iaload) 1 24 := by decide +kernel
theorem d8_isUp_24 : zd cX8_isUp 24 (.aaload) 1 25 := by decide +kernel
theorem d8_isUp_25 : zd cX8_isUp 25 (.getfield 104) 3 28 := by decide +kernel
theorem d8_isUp_28 : zj cX8_isUp 28 (.ifCond .eq 26) 26 31 54 := by decide +kernel
theorem d8_isUp_31 : zd cX8_isUp 31 (.aload_n 0) 1 32 := by decide +kernel
theorem d8_isUp_32 : zd cX8_isUp 32 (.getfield 11) 3 35 := by decide +kernel
theorem d8_isUp_35 : zd cX8_isUp 35 (.aload_n 0) 1 36 := by decide +kernel
theorem d8_isUp_36 : zd cX8_isUp 36 (.getfield 62) 3 39 := by decide +kernel
theorem d8_isUp_39 : zd cX8_isUp 39 (.iload_n 1) 1 40 := by decide +kernel
theorem d8_isUp_40 : zd cX8_isUp 40 (.invokevirtual 161) 3 43 := by decide +kernel
theorem d8_isUp_43 : zd cX8_isUp 43 (.aaload) 1 44 := by decide +kernel
theorem d8_isUp_44 : zd cX8_isUp 44 (.getfield 104) 3 47 := by decide +kernel
theorem d8_isUp_47 : zj cX8_isUp 47 (.ifCond .eq 7) 7 50 54 := by decide +kernel
theorem d8_isUp_50 : zd cX8_isUp 50 (.iconst 1) 1 51 := by decide +kernel
theorem d8_isUp_51 : zj cX8_isUp 51 (.goto 4) 4 54 55 := by decide +kernel
theorem d8_isUp_54 : zd cX8_isUp 54 (.iconst 0) 1 55 := by decide +kernel
theorem d8_isUp_55 : zd cX8_isUp 55 (.ireturn) 1 56 := by decide +kernel
set_option maxHeartbeats 4000000 in
set_option maxRecDepth 20000 in
theorem c8_isUp (l : Launch) (D : zDt) (Sh : zSh) (top : Nat) (hO : zOK Sh) (o_ : Nat) (v_end : Int32) (μ : zM) (r_ : Bool) (ho : (Sh o_).1 = 15) (h : f8_isUp o_ v_end μ = some r_) : zMet l D zK1 yX8_isUp cX8_isUp 2 (some .boolean) (zrm 1 21) [.ref o_, .int v_end] Sh top μ (some (.int (bI r_))) Sh top μ 0 0 := by
  refine zMet_of (by decide) (Nat.le_of_ble_eq_true rfl) fun X hX1 hX2 fx fin => ?_
  subst hX1; subst hX2
  replace fx : zFix X cX8_isUp RX8 (zrm 1 21) 2 := fx
  show zZ zK1 X (zT0 Sh top) μ 0 [(0, .ref o_), (1, .int v_end)] []
  unfold f8_isUp at h
  obtain ⟨b1, e1, h⟩ := zinv h
  have k2 : zZ zK1 X (zT0 Sh top) μ 55 [(0, .ref o_), (1, .int v_end)] [.int (bI b1)] := by
    cases h
    exact z_zreturn fx fin d8_isUp_55
  have kt3 : b1 = true → zZ zK1 X (zT0 Sh top) μ 50 [(0, .ref o_), (1, .int v_end)] [] := by
    intro hc
    refine z_iconst fx (v := 1) ic1 d8_isUp_50 ?_
    refine z_goto fx d8_isUp_51 ?_
    exact z_top (congrArg Value.int (show 1 = bI b1 by rw [hc]; rfl)) k2
  have kf3 : b1 = false → zZ zK1 X (zT0 Sh top) μ 54 [(0, .ref o_), (1, .int v_end)] [] := by
    intro hc
    refine z_iconst fx (v := 0) ic0 d8_isUp_54 ?_
    exact z_top (congrArg Value.int (show 0 = bI b1 by rw [hc]; rfl)) k2
  obtain ⟨b2, e4, e1⟩ := zinv e1
  have kt5 : b2 = true → zZ zK1 X (zT0 Sh top) μ 31 [(0, .ref o_), (1, .int v_end)] [] := by
    intro hc
    replace e1 := zif_t hc e1
    refine z_aload_n fx (k := 0) (i := 0) rfl rfl d8_isUp_31 ?_
    refine z_getO fx 8 0 1 ho lf8_11 fk8_0 d8_isUp_32 ?_
    refine z_aload_n fx (k := 0) (i := 0) rfl rfl d8_isUp_35 ?_
    obtain ⟨w3, e6, e1⟩ := zinv e1
    refine z_getR fx 8 12 812 17 ho lf8_62 ⟨fk8_12, rfl⟩ e6 d8_isUp_36 (fun tw3 => ?_)
    refine z_iload_n fx (k := 1) (i := 1) rfl rfl d8_isUp_39 ?_
    obtain ⟨t4, e7, e1⟩ := zinv e1
    refine z_cVr fx (c10_farBridge (zLo X) (zDo X) Sh top hO w3 v_end μ _ tw3 e7) mv10_farBridge ml8_161 tw3 rfl rfl rfl rfl d8_isUp_40 ?_
    obtain ⟨j5, e8, e1⟩ := zinv e1
    refine z_aald fx 0 (by decide) (ok8_0 hO ho) e8 (v := .ref (o_ + 13 + 3 * j5)) rfl d8_isUp_43 ?_
    refine z_getB fx 0 3 3 (okA0 hO (ok8_0 hO ho) (rI_lt e8)) lf8_104 ⟨fk0_3, rfl⟩ d8_isUp_44 ?_
    cases e1
    refine z_ifb_eq fx d8_isUp_47 (fun c9 => ?_) (fun c9 => ?_)
    · exact kf3 c9
    · exact kt3 c9
  have kf5 : b2 = false → zZ zK1 X (zT0 Sh top) μ 54 [(0, .ref o_), (1, .int v_end)] [] := by
    intro hc
    replace e1 := zif_f hc e1
    cases e1
    exact kf3 rfl
  clear e1
  obtain ⟨b6, e10, e4⟩ := zinv e4
  have kt11 : b6 = true → zZ zK1 X (zT0 Sh top) μ 11 [(0, .ref o_), (1, .int v_end)] [] := by
    intro hc
    replace e4 := zif_t hc e4
    refine z_aload_n fx (k := 0) (i := 0) rfl rfl d8_isUp_11 ?_
    refine z_getO fx 8 0 1 ho lf8_11 fk8_0 d8_isUp_12 ?_
    refine z_aload_n fx (k := 0) (i := 0) rfl rfl d8_isUp_15 ?_
    obtain ⟨w7, e12, e4⟩ := zinv e4
    refine z_getR fx 8 12 812 17 ho lf8_62 ⟨fk8_12, rfl⟩ e12 d8_isUp_16 (fun tw7 => ?_)
    refine z_getO fx 10 6 7 tw7 lf8_158 fk10_6 d8_isUp_19 ?_
    refine z_iload_n fx (k := 1) (i := 1) rfl rfl d8_isUp_22 ?_
    obtain ⟨t8, e13, e4⟩ := zinv e4
    refine z_iald fx (ok10_6 hO tw7) e13 d8_isUp_23 ?_
    obtain ⟨j9, e14, e4⟩ := zinv e4
    refine z_aald fx 0 (by decide) (ok8_0 hO ho) e14 (v := .ref (o_ + 13 + 3 * j9)) rfl d8_isUp_24 ?_
    refine z_getB fx 0 3 3 (okA0 hO (ok8_0 hO ho) (rI_lt e14)) lf8_104 ⟨fk0_3, rfl⟩ d8_isUp_25 ?_
    cases e4
    refine z_ifb_eq fx d8_isUp_28 (fun c15 => ?_) (fun c15 => ?_)
    · exact kf5 c15
    · exact kt5 c15
  have kf11 : b6 = false → zZ zK1 X (zT0 Sh top) μ 54 [(0, .ref o_), (1, .int v_end)] [] := by
    intro hc
    replace e4 := zif_f hc e4
    cases e4
    exact kf5 rfl
  clear e4
  refine z_aload_n fx (k := 0) (i := 0) rfl rfl d8_isUp_0 ?_
  refine z_getO fx 8 3 4 ho lf8_29 fk8_3 d8_isUp_1 ?_
  refine z_iload_n fx (k := 1) (i := 1) rfl rfl d8_isUp_4 ?_
  refine z_iconst fx (v := 1) ic1 d8_isUp_5 ?_
  refine z_ishr fx d8_isUp_6 ?_
  obtain ⟨t10, e16, e10⟩ := zinv e10
  refine z_zald fx (ok8_3 hO ho) e16 d8_isUp_7 ?_
  cases e10
  refine z_ifb_eq fx d8_isUp_8 (fun c17 => ?_) (fun c17 => ?_)
  · exact kf11 c17
  · exact kt11 c17
theorem d4_clear_0 : zd cX4_clear 0 (.aload_n 0) 1 1 := by decide +kernel
theorem d4_clear_1 : zd cX4_clear 1 (.iconst 0) 1 2 := by decide +kernel
theorem d4_clear_2 : zd cX4_clear 2 (.putfield 18) 3 5 := by decide +kernel
theorem d4_clear_5 : zd cX4_clear 5 (.aload_n 0) 1 6 := by decide +kernel
theorem d4_clear_6 : zd cX4_clear 6 (.iconst 0) 1 7 := by decide +kernel
theorem d4_clear_7 : zd cX4_clear 7 (.putfield 22) 3 10 := by decide +kernel
theorem d4_clear_10 : zd cX4_clear 10 (.aload_n 0) 1 11 := by decide +kernel
theorem d4_clear_11 : zd cX4_clear 11 (.iconst 0) 1 12 := by decide +kernel
theorem d4_clear_12 : zd cX4_clear 12 (.putfield 26) 3 15 := by decide +kernel
theorem d4_clear_15 : zd cX4_clear 15 (.aload_n 0) 1 16 := by decide +kernel
theorem d4_clear_16 : zd cX4_clear 16 (.iconst 0) 1 17 := by decide +kernel
theorem d4_clear_17 : zd cX4_clear 17 (.putfield 29) 3 20 := by decide +kernel
theorem d4_clear_20 : zd cX4_clear 20 (.aload_n 0) 1 21 := by decide +kernel
theorem d4_clear_21 : zd cX4_clear 21 (.iconst 0) 1 22 := by decide +kernel
theorem d4_clear_22 : zd cX4_clear 22 (.putfield 32) 3 25 := by decide +kernel
theorem d4_clear_25 : zd cX4_clear 25 (.aload_n 0) 1 26 := by decide +kernel
theorem d4_clear_26 : zd cX4_clear 26 (.iconst 0) 1 27 := by decide +kernel
theorem d4_clear_27 : zd cX4_clear 27 (.putfield 35) 3 30 := by decide +kernel
theorem d4_clear_30 : zd cX4_clear 30 (.aload_n 0) 1 31 := by decide +kernel
theorem d4_clear_31 : zd cX4_clear 31 (.iconst 0) 1 32 := by decide +kernel
theorem d4_clear_32 : zd cX4_clear 32 (.putfield 38) 3 35 := by decide +kernel
theorem d4_clear_35 : zd cX4_clear 35 (.aload_n 0) 1 36 := by decide +kernel
theorem d4_clear_36 : zd cX4_clear 36 (.iconst 0) 1 37 := by decide +kernel
theorem d4_clear_37 : zd cX4_clear 37 (.putfield 41) 3 40 := by decide +kernel
theorem d4_clear_40 : zd cX4_clear 40 (.aload_n 0) 1 41 := by decide +kernel
theorem d4_clear_41 : zd cX4_clear 41 (.iconst 0) 1 42 := by decide +kernel
theorem d4_clear_42 : zd cX4_clear 42 (.putfield 44) 3 45 := by decide +kernel
theorem d4_clear_45 : zd cX4_clear 45 (.aload_n 0) 1 46 := by decide +kernel
theorem d4_clear_46 : zd cX4_clear 46 (.iload_n 1) 1 47 := by decide +kernel
theorem d4_clear_47 : zd cX4_clear 47 (.putfield 47) 3 50 := by decide +kernel
theorem d4_clear_50 : zd cX4_clear 50 (.aload_n 0) 1 51 := by decide +kernel
theorem d4_clear_51 : zd cX4_clear 51 (.iconst 0) 1 52 := by decide +kernel
theorem d4_clear_52 : zd cX4_clear 52 (.putfield 50) 3 55 := by decide +kernel
theorem d4_clear_55 : zd cX4_clear 55 (.aload_n 0) 1 56 := by decide +kernel
theorem d4_clear_56 : zd cX4_clear 56 (.iconst 0) 1 57 := by decide +kernel
theorem d4_clear_57 : zd cX4_clear 57 (.putfield 53) 3 60 := by decide +kernel
theorem d4_clear_60 : zd cX4_clear 60 (.aload_n 0) 1 61 := by decide +kernel
theorem d4_clear_61 : zd cX4_clear 61 (.iconst 0) 1 62 := by decide +kernel
theorem d4_clear_62 : zd cX4_clear 62 (.putfield 56) 3 65 := by decide +kernel
theorem d4_clear_65 : zd cX4_clear 65 (.aload_n 0) 1 66 := by decide +kernel
theorem d4_clear_66 : zd cX4_clear 66 (.iconst 0) 1 67 := by decide +kernel
theorem d4_clear_67 : zd cX4_clear 67 (.putfield 59) 3 70 := by decide +kernel
theorem d4_clear_70 : zd cX4_clear 70 (.return_) 1 71 := by decide +kernel
set_option maxHeartbeats 4000000 in
set_option maxRecDepth 20000 in
theorem c4_clear (l : Launch) (D : zDt) (Sh : zSh) (top : Nat) (hO : zOK Sh) (o_ : Nat) (v_asEdge : Bool) (μ : zM) (μ_ : zM) (ho : (Sh o_).1 = 11) (h : f4_clear o_ v_asEdge μ = some μ_) : zMet l D zK1 yX4_clear cX4_clear 2 none (zrm 0 0) [.ref o_, .int (bI v_asEdge)] Sh top μ none Sh top μ_ 0 0 := by
  refine zMet_of (by decide) (Nat.le_of_ble_eq_true rfl) fun X hX1 hX2 fx fin => ?_
  subst hX1; subst hX2
  replace fx : zFix X cX4_clear RX4 (zrm 0 0) 2 := fx
  show zZ zK1 X (zT0 Sh top) μ 0 [(0, .ref o_), (1, .int (bI v_asEdge))] []
  unfold f4_clear at h
  refine z_aload_n fx (k := 0) (i := 0) rfl rfl d4_clear_0 ?_
  refine z_iconst fx (v := 0) ic0 d4_clear_1 ?_
  refine z_top (show Value.int 0 = .int (bI false) from rfl) ?_
  obtain ⟨μ1, e1, h⟩ := zinv h
  refine z_putB fx (ci := 4) 1 ho lf4_18 fp4_1 e1 d4_clear_2 ?_
  refine z_aload_n fx (k := 0) (i := 0) rfl rfl d4_clear_5 ?_
  refine z_iconst fx (v := 0) ic0 d4_clear_6 ?_
  obtain ⟨μ2, e2, h⟩ := zinv h
  refine z_putI fx (ci := 4) 2 ho lf4_22 fp4_2 e2 d4_clear_7 ?_
  refine z_aload_n fx (k := 0) (i := 0) rfl rfl d4_clear_10 ?_
  refine z_iconst fx (v := 0) ic0 d4_clear_11 ?_
  obtain ⟨μ3, e3, h⟩ := zinv h
  refine z_putI fx (ci := 4) 3 ho lf4_26 fp4_3 e3 d4_clear_12 ?_
  refine z_aload_n fx (k := 0) (i := 0) rfl rfl d4_clear_15 ?_
  refine z_iconst fx (v := 0) ic0 d4_clear_16 ?_
  obtain ⟨μ4, e4, h⟩ := zinv h
  refine z_putI fx (ci := 4) 4 ho lf4_29 fp4_4 e4 d4_clear_17 ?_
  refine z_aload_n fx (k := 0) (i := 0) rfl rfl d4_clear_20 ?_
  refine z_iconst fx (v := 0) ic0 d4_clear_21 ?_
  obtain ⟨μ5, e5, h⟩ := zinv h
  refine z_putI fx (ci := 4) 5 ho lf4_32 fp4_5 e5 d4_clear_22 ?_
  refine z_aload_n fx (k := 0) (i := 0) rfl rfl d4_clear_25 ?_
  refine z_iconst fx (v := 0) ic0 d4_clear_26 ?_
  obtain ⟨μ6, e6, h⟩ := zinv h
  refine z_putI fx (ci := 4) 6 ho lf4_35 fp4_6 e6 d4_clear_27 ?_
  refine z_aload_n fx (k := 0) (i := 0) rfl rfl d4_clear_30 ?_
  refine z_iconst fx (v := 0) ic0 d4_clear_31 ?_
  obtain ⟨μ7, e7, h⟩ := zinv h
  refine z_putI fx (ci := 4) 7 ho lf4_38 fp4_7 e7 d4_clear_32 ?_
  refine z_aload_n fx (k := 0) (i := 0) rfl rfl d4_clear_35 ?_
  refine z_iconst fx (v := 0) ic0 d4_clear_36 ?_
  obtain ⟨μ8, e8, h⟩ := zinv h
  refine z_putI fx (ci := 4) 8 ho lf4_41 fp4_8 e8 d4_clear_37 ?_
  refine z_aload_n fx (k := 0) (i := 0) rfl rfl d4_clear_40 ?_
  refine z_iconst fx (v := 0) ic0 d4_clear_41 ?_
  refine z_top (show Value.int 0 = .int (bI false) from rfl) ?_
  obtain ⟨μ9, e9, h⟩ := zinv h
  refine z_putB fx (ci := 4) 9 ho lf4_44 fp4_9 e9 d4_clear_42 ?_
  refine z_aload_n fx (k := 0) (i := 0) rfl rfl d4_clear_45 ?_
  refine z_iload_n fx (k := 1) (i := 1) rfl rfl d4_clear_46 ?_
  obtain ⟨μ10, e10, h⟩ := zinv h
  refine z_putB fx (ci := 4) 10 ho lf4_47 fp4_10 e10 d4_clear_47 ?_
  refine z_aload_n fx (k := 0) (i := 0) rfl rfl d4_clear_50 ?_
  refine z_iconst fx (v := 0) ic0 d4_clear_51 ?_
  refine z_top (show Value.int 0 = .int (bI false) from rfl) ?_
  obtain ⟨μ11, e11, h⟩ := zinv h
  refine z_putB fx (ci := 4) 11 ho lf4_50 fp4_11 e11 d4_clear_52 ?_
  refine z_aload_n fx (k := 0) (i := 0) rfl rfl d4_clear_55 ?_
  refine z_iconst fx (v := 0) ic0 d4_clear_56 ?_
  refine z_top (show Value.int 0 = .int (bI false) from rfl) ?_
  obtain ⟨μ12, e12, h⟩ := zinv h
  refine z_putB fx (ci := 4) 12 ho lf4_53 fp4_12 e12 d4_clear_57 ?_
  refine z_aload_n fx (k := 0) (i := 0) rfl rfl d4_clear_60 ?_
  refine z_iconst fx (v := 0) ic0 d4_clear_61 ?_
  refine z_top (show Value.int 0 = .int (bI false) from rfl) ?_
  obtain ⟨μ13, e13, h⟩ := zinv h
  refine z_putB fx (ci := 4) 13 ho lf4_56 fp4_13 e13 d4_clear_62 ?_
  refine z_aload_n fx (k := 0) (i := 0) rfl rfl d4_clear_65 ?_
  refine z_iconst fx (v := 0) ic0 d4_clear_66 ?_
  refine z_top (show Value.int 0 = .int (bI false) from rfl) ?_
  obtain ⟨μ14, e14, h⟩ := zinv h
  refine z_putB fx (ci := 4) 14 ho lf4_59 fp4_14 e14 d4_clear_67 ?_
  cases h
  exact z_return fx fin d4_clear_70
theorem d9_copyFrom_0 : zd cX9_copyFrom 0 (.aload_n 0) 1 1 := by decide +kernel
theorem d9_copyFrom_1 : zd cX9_copyFrom 1 (.aload_n 1) 1 2 := by decide +kernel
theorem d9_copyFrom_2 : zd cX9_copyFrom 2 (.getfield 7) 3 5 := by decide +kernel
theorem d9_copyFrom_5 : zd cX9_copyFrom 5 (.putfield 7) 3 8 := by decide +kernel
theorem d9_copyFrom_8 : zd cX9_copyFrom 8 (.aload_n 0) 1 9 := by decide +kernel
theorem d9_copyFrom_9 : zd cX9_copyFrom 9 (.aload_n 1) 1 10 := by decide +kernel
theorem d9_copyFrom_10 : zd cX9_copyFrom 10 (.getfield 13) 3 13 := by decide +kernel
theorem d9_copyFrom_13 : zd cX9_copyFrom 13 (.putfield 13) 3 16 := by decide +kernel
theorem d9_copyFrom_16 : zd cX9_copyFrom 16 (.aload_n 0) 1 17 := by decide +kernel
theorem d9_copyFrom_17 : zd cX9_copyFrom 17 (.aload_n 1) 1 18 := by decide +kernel
theorem d9_copyFrom_18 : zd cX9_copyFrom 18 (.getfield 16) 3 21 := by decide +kernel
theorem d9_copyFrom_21 : zd cX9_copyFrom 21 (.putfield 16) 3 24 := by decide +kernel
theorem d9_copyFrom_24 : zd cX9_copyFrom 24 (.aload_n 0) 1 25 := by decide +kernel
theorem d9_copyFrom_25 : zd cX9_copyFrom 25 (.aload_n 1) 1 26 := by decide +kernel
theorem d9_copyFrom_26 : zd cX9_copyFrom 26 (.getfield 19) 3 29 := by decide +kernel
theorem d9_copyFrom_29 : zd cX9_copyFrom 29 (.putfield 19) 3 32 := by decide +kernel
theorem d9_copyFrom_32 : zd cX9_copyFrom 32 (.return_) 1 33 := by decide +kernel
set_option maxHeartbeats 4000000 in
set_option maxRecDepth 20000 in
theorem c9_copyFrom (l : Launch) (D : zDt) (Sh : zSh) (top : Nat) (hO : zOK Sh) (o_ : Nat) (v_other : Nat) (μ : zM) (μ_ : zM) (ho : (Sh o_).1 = 16) (h_other : (Sh v_other).1 = 16) (h : f9_copyFrom o_ v_other μ = some μ_) : zMet l D zK1 yX9_copyFrom cX9_copyFrom 2 none (zrm 0 0) [.ref o_, .ref v_other] Sh top μ none Sh top μ_ 0 0 := by
  refine zMet_of (by decide) (Nat.le_of_ble_eq_true rfl) fun X hX1 hX2 fx fin => ?_
  subst hX1; subst hX2
  replace fx : zFix X cX9_copyFrom RX9 (zrm 0 0) 2 := fx
  show zZ zK1 X (zT0 Sh top) μ 0 [(0, .ref o_), (1, .ref v_other)] []
  unfold f9_copyFrom at h
  refine z_aload_n fx (k := 0) (i := 0) rfl rfl d9_copyFrom_0 ?_
  refine z_aload_n fx (k := 1) (i := 1) rfl rfl d9_copyFrom_1 ?_
  refine z_getI fx 9 0 900 h_other lf9_7 ⟨fk9_0, rfl⟩ d9_copyFrom_2 ?_
  obtain ⟨μ1, e1, h⟩ := zinv h
  refine z_putI fx (ci := 9) 0 ho lf9_7 fp9_0 e1 d9_copyFrom_5 ?_
  refine z_aload_n fx (k := 0) (i := 0) rfl rfl d9_copyFrom_8 ?_
  refine z_aload_n fx (k := 1) (i := 1) rfl rfl d9_copyFrom_9 ?_
  refine z_getI fx 9 1 901 h_other lf9_13 ⟨fk9_1, rfl⟩ d9_copyFrom_10 ?_
  obtain ⟨μ2, e2, h⟩ := zinv h
  refine z_putI fx (ci := 9) 1 ho lf9_13 fp9_1 e2 d9_copyFrom_13 ?_
  refine z_aload_n fx (k := 0) (i := 0) rfl rfl d9_copyFrom_16 ?_
  refine z_aload_n fx (k := 1) (i := 1) rfl rfl d9_copyFrom_17 ?_
  refine z_getI fx 9 2 902 h_other lf9_16 ⟨fk9_2, rfl⟩ d9_copyFrom_18 ?_
  obtain ⟨μ3, e3, h⟩ := zinv h
  refine z_putI fx (ci := 9) 2 ho lf9_16 fp9_2 e3 d9_copyFrom_21 ?_
  refine z_aload_n fx (k := 0) (i := 0) rfl rfl d9_copyFrom_24 ?_
  refine z_aload_n fx (k := 1) (i := 1) rfl rfl d9_copyFrom_25 ?_
  refine z_getI fx 9 3 903 h_other lf9_19 ⟨fk9_3, rfl⟩ d9_copyFrom_26 ?_
  obtain ⟨μ4, e4, h⟩ := zinv h
  refine z_putI fx (ci := 9) 3 ho lf9_19 fp9_3 e4 d9_copyFrom_29 ?_
  cases h
  exact z_return fx fin d9_copyFrom_32
theorem d10_endOf_0 : zd cX10_endOf 0 (.aload_n 0) 1 1 := by decide +kernel
theorem d10_endOf_1 : zd cX10_endOf 1 (.getfield 28) 3 4 := by decide +kernel
theorem d10_endOf_4 : zd cX10_endOf 4 (.iload_n 1) 1 5 := by decide +kernel
theorem d10_endOf_5 : zd cX10_endOf 5 (.bipush 6) 2 7 := by decide +kernel
theorem d10_endOf_7 : zd cX10_endOf 7 (.imul) 1 8 := by decide +kernel
theorem d10_endOf_8 : zd cX10_endOf 8 (.iload_n 2) 1 9 := by decide +kernel
theorem d10_endOf_9 : zd cX10_endOf 9 (.iadd) 1 10 := by decide +kernel
theorem d10_endOf_10 : zd cX10_endOf 10 (.iaload) 1 11 := by decide +kernel
theorem d10_endOf_11 : zd cX10_endOf 11 (.ireturn) 1 12 := by decide +kernel
set_option maxHeartbeats 4000000 in
set_option maxRecDepth 20000 in
theorem c10_endOf (l : Launch) (D : zDt) (Sh : zSh) (top : Nat) (hO : zOK Sh) (o_ : Nat) (v_bridge : Int32) (v_port : Int32) (μ : zM) (r_ : Int32) (ho : (Sh o_).1 = 17) (h : f10_endOf o_ v_bridge v_port μ = some r_) : zMet l D zK1 yX10_endOf cX10_endOf 3 (some .int) (zrm 0 0) [.ref o_, .int v_bridge, .int v_port] Sh top μ (some (.int r_)) Sh top μ 0 0 := by
  refine zMet_of (by decide) (Nat.le_of_ble_eq_true rfl) fun X hX1 hX2 fx fin => ?_
  subst hX1; subst hX2
  replace fx : zFix X cX10_endOf RX10 (zrm 0 0) 3 := fx
  show zZ zK1 X (zT0 Sh top) μ 0 [(0, .ref o_), (1, .int v_bridge), (2, .int v_port)] []
  unfold f10_endOf at h
  refine z_aload_n fx (k := 0) (i := 0) rfl rfl d10_endOf_0 ?_
  refine z_getO fx 10 5 6 ho lf10_28 fk10_5 d10_endOf_1 ?_
  refine z_iload_n fx (k := 1) (i := 1) rfl rfl d10_endOf_4 ?_
  refine z_bipush fx (v := 6) bp6 d10_endOf_5 ?_
  refine z_imul fx d10_endOf_7 ?_
  refine z_iload_n fx (k := 2) (i := 2) rfl rfl d10_endOf_8 ?_
  refine z_iadd fx d10_endOf_9 ?_
  obtain ⟨t1, e1, h⟩ := zinv h
  refine z_iald fx (ok10_5 hO ho) e1 d10_endOf_10 ?_
  cases h
  exact z_ireturn fx fin d10_endOf_11
theorem d0_id_0 : zd cX0_id 0 (.bipush 16) 2 2 := by decide +kernel
theorem d0_id_2 : zd cX0_id 2 (.aload_n 0) 1 3 := by decide +kernel
theorem d0_id_3 : zd cX0_id 3 (.getfield 25) 3 6 := by decide +kernel
theorem d0_id_6 : zd cX0_id 6 (.imul) 1 7 := by decide +kernel
theorem d0_id_7 : zd cX0_id 7 (.aload_n 0) 1 8 := by decide +kernel
theorem d0_id_8 : zd cX0_id 8 (.getfield 21) 3 11 := by decide +kernel
theorem d0_id_11 : zd cX0_id 11 (.iadd) 1 12 := by decide +kernel
theorem d0_id_12 : zd cX0_id 12 (.ireturn) 1 13 := by decide +kernel
set_option maxHeartbeats 4000000 in
set_option maxRecDepth 20000 in
theorem c0_id (l : Launch) (D : zDt) (Sh : zSh) (top : Nat) (hO : zOK Sh) (o_ : Nat) (μ : zM) (r_ : Int32) (ho : (Sh o_).1 = 7) (h : f0_id o_ μ = some r_) : zMet l D zK1 yX0_id cX0_id 1 (some .int) (zrm 0 0) [.ref o_] Sh top μ (some (.int r_)) Sh top μ 0 0 := by
  refine zMet_of (by decide) (Nat.le_of_ble_eq_true rfl) fun X hX1 hX2 fx fin => ?_
  subst hX1; subst hX2
  replace fx : zFix X cX0_id RX0 (zrm 0 0) 1 := fx
  show zZ zK1 X (zT0 Sh top) μ 0 [(0, .ref o_)] []
  unfold f0_id at h
  refine z_bipush fx (v := 16) bp16 d0_id_0 ?_
  refine z_aload_n fx (k := 0) (i := 0) rfl rfl d0_id_2 ?_
  refine z_getI fx 0 5 5 ho lf0_25 ⟨fk0_5, rfl⟩ d0_id_3 ?_
  refine z_imul fx d0_id_6 ?_
  refine z_aload_n fx (k := 0) (i := 0) rfl rfl d0_id_7 ?_
  refine z_getI fx 0 0 0 ho lf0_21 ⟨fk0_0, rfl⟩ d0_id_8 ?_
  refine z_iadd fx d0_id_11 ?_
  cases h
  exact z_ireturn fx fin d0_id_12
theorem d9_against_0 : zd cX9_against 0 (.aload_n 0) 1 1 := by decide +kernel
theorem d9_against_1 : zd cX9_against 1 (.getfield 7) 3 4 := by decide +kernel
theorem d9_against_4 : zd cX9_against 4 (.aload_n 1) 1 5 := by decide +kernel
theorem d9_against_5 : zd cX9_against 5 (.getfield 7) 3 8 := by decide +kernel
theorem d9_against_8 : zj cX9_against 8 (.if_icmp .eq 20) 20 11 28 := by decide +kernel
theorem d9_against_11 : zd cX9_against 11 (.aload_n 0) 1 12 := by decide +kernel
theorem d9_against_12 : zd cX9_against 12 (.getfield 7) 3 15 := by decide +kernel
theorem d9_against_15 : zd cX9_against 15 (.aload_n 1) 1 16 := by decide +kernel
theorem d9_against_16 : zd cX9_against 16 (.getfield 7) 3 19 := by decide +kernel
theorem d9_against_19 : zj cX9_against 19 (.if_icmp .ge 7) 7 22 26 := by decide +kernel
theorem d9_against_22 : zd cX9_against 22 (.iconst (-1)) 1 23 := by decide +kernel
theorem d9_against_23 : zj cX9_against 23 (.goto 4) 4 26 27 := by decide +kernel
theorem d9_against_26 : zd cX9_against 26 (.iconst 1) 1 27 := by decide +kernel
theorem d9_against_27 : zd cX9_against 27 (.ireturn) 1 28 := by decide +kernel
theorem d9_against_28 : zd cX9_against 28 (.aload_n 0) 1 29 := by decide +kernel
theorem d9_against_29 : zd cX9_against 29 (.getfield 13) 3 32 := by decide +kernel
theorem d9_against_32 : zd cX9_against 32 (.aload_n 1) 1 33 := by decide +kernel
theorem d9_against_33 : zd cX9_against 33 (.getfield 13) 3 36 := by decide +kernel
theorem d9_against_36 : zj cX9_against 36 (.if_icmp .eq 20) 20 39 56 := by decide +kernel
theorem d9_against_39 : zd cX9_against 39 (.aload_n 0) 1 40 := by decide +kernel
theorem d9_against_40 : zd cX9_against 40 (.getfield 13) 3 43 := by decide +kernel
theorem d9_against_43 : zd cX9_against 43 (.aload_n 1) 1 44 := by decide +kernel
theorem d9_against_44 : zd cX9_against 44 (.getfield 13) 3 47 := by decide +kernel
theorem d9_against_47 : zj cX9_against 47 (.if_icmp .ge 7) 7 50 54 := by decide +kernel
theorem d9_against_50 : zd cX9_against 50 (.iconst (-1)) 1 51 := by decide +kernel
theorem d9_against_51 : zj cX9_against 51 (.goto 4) 4 54 55 := by decide +kernel
theorem d9_against_54 : zd cX9_against 54 (.iconst 1) 1 55 := by decide +kernel
theorem d9_against_55 : zd cX9_against 55 (.ireturn) 1 56 := by decide +kernel
theorem d9_against_56 : zd cX9_against 56 (.aload_n 0) 1 57 := by decide +kernel
theorem d9_against_57 : zd cX9_against 57 (.getfield 16) 3 60 := by decide +kernel
theorem d9_against_60 : zd cX9_against 60 (.aload_n 1) 1 61 := by decide +kernel
theorem d9_against_61 : zd cX9_against 61 (.getfield 16) 3 64 := by decide +kernel
theorem d9_against_64 : zj cX9_against 64 (.if_icmp .eq 20) 20 67 84 := by decide +kernel
theorem d9_against_67 : zd cX9_against 67 (.aload_n 0) 1 68 := by decide +kernel
theorem d9_against_68 : zd cX9_against 68 (.getfield 16) 3 71 := by decide +kernel
theorem d9_against_71 : zd cX9_against 71 (.aload_n 1) 1 72 := by decide +kernel
theorem d9_against_72 : zd cX9_against 72 (.getfield 16) 3 75 := by decide +kernel
theorem d9_against_75 : zj cX9_against 75 (.if_icmp .ge 7) 7 78 82 := by decide +kernel
theorem d9_against_78 : zd cX9_against 78 (.iconst (-1)) 1 79 := by decide +kernel
theorem d9_against_79 : zj cX9_against 79 (.goto 4) 4 82 83 := by decide +kernel
theorem d9_against_82 : zd cX9_against 82 (.iconst 1) 1 83 := by decide +kernel
theorem d9_against_83 : zd cX9_against 83 (.ireturn) 1 84 := by decide +kernel
theorem d9_against_84 : zd cX9_against 84 (.aload_n 0) 1 85 := by decide +kernel
theorem d9_against_85 : zd cX9_against 85 (.getfield 19) 3 88 := by decide +kernel
theorem d9_against_88 : zd cX9_against 88 (.aload_n 1) 1 89 := by decide +kernel
theorem d9_against_89 : zd cX9_against 89 (.getfield 19) 3 92 := by decide +kernel
theorem d9_against_92 : zj cX9_against 92 (.if_icmp .eq 20) 20 95 112 := by decide +kernel
theorem d9_against_95 : zd cX9_against 95 (.aload_n 0) 1 96 := by decide +kernel
theorem d9_against_96 : zd cX9_against 96 (.getfield 19) 3 99 := by decide +kernel
theorem d9_against_99 : zd cX9_against 99 (.aload_n 1) 1 100 := by decide +kernel
theorem d9_against_100 : zd cX9_against 100 (.getfield 19) 3 103 := by decide +kernel
theorem d9_against_103 : zj cX9_against 103 (.if_icmp .ge 7) 7 106 110 := by decide +kernel
theorem d9_against_106 : zd cX9_against 106 (.iconst (-1)) 1 107 := by decide +kernel
theorem d9_against_107 : zj cX9_against 107 (.goto 4) 4 110 111 := by decide +kernel
theorem d9_against_110 : zd cX9_against 110 (.iconst 1) 1 111 := by decide +kernel
theorem d9_against_111 : zd cX9_against 111 (.ireturn) 1 112 := by decide +kernel
theorem d9_against_112 : zd cX9_against 112 (.iconst 0) 1 113 := by decide +kernel
theorem d9_against_113 : zd cX9_against 113 (.ireturn) 1 114 := by decide +kernel
set_option maxHeartbeats 4000000 in
set_option maxRecDepth 20000 in
theorem c9_against (l : Launch) (D : zDt) (Sh : zSh) (top : Nat) (hO : zOK Sh) (o_ : Nat) (v_other : Nat) (μ : zM) (r_ : Int32) (ho : (Sh o_).1 = 16) (h_other : (Sh v_other).1 = 16) (h : f9_against o_ v_other μ = some r_) : zMet l D zK1 yX9_against cX9_against 2 (some .int) (zrm 0 0) [.ref o_, .ref v_other] Sh top μ (some (.int r_)) Sh top μ 0 0 := by
  refine zMet_of (by decide) (Nat.le_of_ble_eq_true rfl) fun X hX1 hX2 fx fin => ?_
  subst hX1; subst hX2
  replace fx : zFix X cX9_against RX9 (zrm 0 0) 2 := fx
  show zZ zK1 X (zT0 Sh top) μ 0 [(0, .ref o_), (1, .ref v_other)] []
  unfold f9_against at h
  refine z_aload_n fx (k := 0) (i := 0) rfl rfl d9_against_0 ?_
  refine z_getI fx 9 0 900 ho lf9_7 ⟨fk9_0, rfl⟩ d9_against_1 ?_
  refine z_aload_n fx (k := 1) (i := 1) rfl rfl d9_against_4 ?_
  refine z_getI fx 9 0 900 h_other lf9_7 ⟨fk9_0, rfl⟩ d9_against_5 ?_
  refine z_icmp_eq fx d9_against_8 (fun c1 => ?_) (fun c1 => ?_)
  · replace h := zif_t c1 h
    refine z_aload_n fx (k := 0) (i := 0) rfl rfl d9_against_28 ?_
    refine z_getI fx 9 1 901 ho lf9_13 ⟨fk9_1, rfl⟩ d9_against_29 ?_
    refine z_aload_n fx (k := 1) (i := 1) rfl rfl d9_against_32 ?_
    refine z_getI fx 9 1 901 h_other lf9_13 ⟨fk9_1, rfl⟩ d9_against_33 ?_
    refine z_icmp_eq fx d9_against_36 (fun c2 => ?_) (fun c2 => ?_)
    · replace h := zif_t c2 h
      refine z_aload_n fx (k := 0) (i := 0) rfl rfl d9_against_56 ?_
      refine z_getI fx 9 2 902 ho lf9_16 ⟨fk9_2, rfl⟩ d9_against_57 ?_
      refine z_aload_n fx (k := 1) (i := 1) rfl rfl d9_against_60 ?_
      refine z_getI fx 9 2 902 h_other lf9_16 ⟨fk9_2, rfl⟩ d9_against_61 ?_
      refine z_icmp_eq fx d9_against_64 (fun c3 => ?_) (fun c3 => ?_)
      · replace h := zif_t c3 h
        refine z_aload_n fx (k := 0) (i := 0) rfl rfl d9_against_84 ?_
        refine z_getI fx 9 3 903 ho lf9_19 ⟨fk9_3, rfl⟩ d9_against_85 ?_
        refine z_aload_n fx (k := 1) (i := 1) rfl rfl d9_against_88 ?_
        refine z_getI fx 9 3 903 h_other lf9_19 ⟨fk9_3, rfl⟩ d9_against_89 ?_
        refine z_icmp_eq fx d9_against_92 (fun c4 => ?_) (fun c4 => ?_)
        · replace h := zif_t c4 h
          refine z_iconst fx (v := 0) ic0 d9_against_112 ?_
          cases h
          exact z_ireturn fx fin d9_against_113
        · replace h := zif_f c4 h
          obtain ⟨x1, e5, h⟩ := zinv h
          have k6 : zZ zK1 X (zT0 Sh top) μ 111 [(0, .ref o_), (1, .ref v_other)] [.int x1] := by
            cases h
            exact z_ireturn fx fin d9_against_111
          refine z_aload_n fx (k := 0) (i := 0) rfl rfl d9_against_95 ?_
          refine z_getI fx 9 3 903 ho lf9_19 ⟨fk9_3, rfl⟩ d9_against_96 ?_
          refine z_aload_n fx (k := 1) (i := 1) rfl rfl d9_against_99 ?_
          refine z_getI fx 9 3 903 h_other lf9_19 ⟨fk9_3, rfl⟩ d9_against_100 ?_
          refine z_icmp_ge fx d9_against_103 (fun c7 => ?_) (fun c7 => ?_)
          · replace e5 := zif_f c7 e5
            refine z_iconst fx (v := 1) ic1 d9_against_110 ?_
            cases e5
            exact k6
          · replace e5 := zif_t c7 e5
            refine z_iconst fx (v := (-1)) icm1 d9_against_106 ?_
            cases e5
            refine z_goto fx d9_against_107 ?_
            exact k6
      · replace h := zif_f c3 h
        obtain ⟨x2, e8, h⟩ := zinv h
        have k9 : zZ zK1 X (zT0 Sh top) μ 83 [(0, .ref o_), (1, .ref v_other)] [.int x2] := by
          cases h
          exact z_ireturn fx fin d9_against_83
        refine z_aload_n fx (k := 0) (i := 0) rfl rfl d9_against_67 ?_
        refine z_getI fx 9 2 902 ho lf9_16 ⟨fk9_2, rfl⟩ d9_against_68 ?_
        refine z_aload_n fx (k := 1) (i := 1) rfl rfl d9_against_71 ?_
        refine z_getI fx 9 2 902 h_other lf9_16 ⟨fk9_2, rfl⟩ d9_against_72 ?_
        refine z_icmp_ge fx d9_against_75 (fun c10 => ?_) (fun c10 => ?_)
        · replace e8 := zif_f c10 e8
          refine z_iconst fx (v := 1) ic1 d9_against_82 ?_
          cases e8
          exact k9
        · replace e8 := zif_t c10 e8
          refine z_iconst fx (v := (-1)) icm1 d9_against_78 ?_
          cases e8
          refine z_goto fx d9_against_79 ?_
          exact k9
    · replace h := zif_f c2 h
      obtain ⟨x3, e11, h⟩ := zinv h
      have k12 : zZ zK1 X (zT0 Sh top) μ 55 [(0, .ref o_), (1, .ref v_other)] [.int x3] := by
        cases h
        exact z_ireturn fx fin d9_against_55
      refine z_aload_n fx (k := 0) (i := 0) rfl rfl d9_against_39 ?_
      refine z_getI fx 9 1 901 ho lf9_13 ⟨fk9_1, rfl⟩ d9_against_40 ?_
      refine z_aload_n fx (k := 1) (i := 1) rfl rfl d9_against_43 ?_
      refine z_getI fx 9 1 901 h_other lf9_13 ⟨fk9_1, rfl⟩ d9_against_44 ?_
      refine z_icmp_ge fx d9_against_47 (fun c13 => ?_) (fun c13 => ?_)
      · replace e11 := zif_f c13 e11
        refine z_iconst fx (v := 1) ic1 d9_against_54 ?_
        cases e11
        exact k12
      · replace e11 := zif_t c13 e11
        refine z_iconst fx (v := (-1)) icm1 d9_against_50 ?_
        cases e11
        refine z_goto fx d9_against_51 ?_
        exact k12
  · replace h := zif_f c1 h
    obtain ⟨x4, e14, h⟩ := zinv h
    have k15 : zZ zK1 X (zT0 Sh top) μ 27 [(0, .ref o_), (1, .ref v_other)] [.int x4] := by
      cases h
      exact z_ireturn fx fin d9_against_27
    refine z_aload_n fx (k := 0) (i := 0) rfl rfl d9_against_11 ?_
    refine z_getI fx 9 0 900 ho lf9_7 ⟨fk9_0, rfl⟩ d9_against_12 ?_
    refine z_aload_n fx (k := 1) (i := 1) rfl rfl d9_against_15 ?_
    refine z_getI fx 9 0 900 h_other lf9_7 ⟨fk9_0, rfl⟩ d9_against_16 ?_
    refine z_icmp_ge fx d9_against_19 (fun c16 => ?_) (fun c16 => ?_)
    · replace e14 := zif_f c16 e14
      refine z_iconst fx (v := 1) ic1 d9_against_26 ?_
      cases e14
      exact k15
    · replace e14 := zif_t c16 e14
      refine z_iconst fx (v := (-1)) icm1 d9_against_22 ?_
      cases e14
      refine z_goto fx d9_against_23 ?_
      exact k15
theorem d0_follow_0 : zd cX0_follow 0 (.aload_n 0) 1 1 := by decide +kernel
theorem d0_follow_1 : zd cX0_follow 1 (.getfield 12) 3 4 := by decide +kernel
theorem d0_follow_4 : zd cX0_follow 4 (.aload_n 2) 1 5 := by decide +kernel
theorem d0_follow_5 : zd cX0_follow 5 (.getfield 32) 3 8 := by decide +kernel
theorem d0_follow_8 : zd cX0_follow 8 (.putfield 32) 3 11 := by decide +kernel
theorem d0_follow_11 : zd cX0_follow 11 (.aload_n 0) 1 12 := by decide +kernel
theorem d0_follow_12 : zd cX0_follow 12 (.getfield 12) 3 15 := by decide +kernel
theorem d0_follow_15 : zd cX0_follow 15 (.aload_n 2) 1 16 := by decide +kernel
theorem d0_follow_16 : zd cX0_follow 16 (.getfield 35) 3 19 := by decide +kernel
theorem d0_follow_19 : zd cX0_follow 19 (.putfield 35) 3 22 := by decide +kernel
theorem d0_follow_22 : zd cX0_follow 22 (.aload_n 0) 1 23 := by decide +kernel
theorem d0_follow_23 : zd cX0_follow 23 (.getfield 12) 3 26 := by decide +kernel
theorem d0_follow_26 : zd cX0_follow 26 (.aload_n 0) 1 27 := by decide +kernel
theorem d0_follow_27 : zd cX0_follow 27 (.invokevirtual 28) 3 30 := by decide +kernel
theorem d0_follow_30 : zd cX0_follow 30 (.putfield 38) 3 33 := by decide +kernel
theorem d0_follow_33 : zd cX0_follow 33 (.aload_n 0) 1 34 := by decide +kernel
theorem d0_follow_34 : zd cX0_follow 34 (.iload_n 3) 1 35 := by decide +kernel
theorem d0_follow_35 : zd cX0_follow 35 (.iconst 1) 1 36 := by decide +kernel
theorem d0_follow_36 : zd cX0_follow 36 (.iadd) 1 37 := by decide +kernel
theorem d0_follow_37 : zd cX0_follow 37 (.putfield 40) 3 40 := by decide +kernel
theorem d0_follow_40 : zd cX0_follow 40 (.aload_n 0) 1 41 := by decide +kernel
theorem d0_follow_41 : zd cX0_follow 41 (.iload_n 1) 1 42 := by decide +kernel
theorem d0_follow_42 : zd cX0_follow 42 (.putfield 43) 3 45 := by decide +kernel
theorem d0_follow_45 : zd cX0_follow 45 (.return_) 1 46 := by decide +kernel
set_option maxHeartbeats 4000000 in
set_option maxRecDepth 20000 in
theorem c0_follow (l : Launch) (D : zDt) (Sh : zSh) (top : Nat) (hO : zOK Sh) (o_ : Nat) (v_port : Int32) (v_least : Nat) (v_heldAge : Int32) (μ : zM) (μ_ : zM) (ho : (Sh o_).1 = 7) (h_least : (Sh v_least).1 = 16) (h : f0_follow o_ v_port v_least v_heldAge μ = some μ_) : zMet l D zK1 yX0_follow cX0_follow 4 none (zrm 1 20) [.ref o_, .int v_port, .ref v_least, .int v_heldAge] Sh top μ none Sh top μ_ 0 0 := by
  refine zMet_of (by decide) (Nat.le_of_ble_eq_true rfl) fun X hX1 hX2 fx fin => ?_
  subst hX1; subst hX2
  replace fx : zFix X cX0_follow RX0 (zrm 1 20) 4 := fx
  show zZ zK1 X (zT0 Sh top) μ 0 [(0, .ref o_), (1, .int v_port), (2, .ref v_least), (3, .int v_heldAge)] []
  unfold f0_follow at h
  refine z_aload_n fx (k := 0) (i := 0) rfl rfl d0_follow_0 ?_
  refine z_getO fx 0 1 1 ho lf0_12 fk0_1 d0_follow_1 ?_
  refine z_aload_n fx (k := 2) (i := 2) rfl rfl d0_follow_4 ?_
  refine z_getI fx 9 0 900 h_least lf0_32 ⟨fk9_0, rfl⟩ d0_follow_5 ?_
  obtain ⟨μ1, e1, h⟩ := zinv h
  refine z_putI fx (ci := 9) 0 (ok0_1 hO ho) lf0_32 fp9_0 e1 d0_follow_8 ?_
  refine z_aload_n fx (k := 0) (i := 0) rfl rfl d0_follow_11 ?_
  refine z_getO fx 0 1 1 ho lf0_12 fk0_1 d0_follow_12 ?_
  refine z_aload_n fx (k := 2) (i := 2) rfl rfl d0_follow_15 ?_
  refine z_getI fx 9 1 901 h_least lf0_35 ⟨fk9_1, rfl⟩ d0_follow_16 ?_
  obtain ⟨μ2, e2, h⟩ := zinv h
  refine z_putI fx (ci := 9) 1 (ok0_1 hO ho) lf0_35 fp9_1 e2 d0_follow_19 ?_
  refine z_aload_n fx (k := 0) (i := 0) rfl rfl d0_follow_22 ?_
  refine z_getO fx 0 1 1 ho lf0_12 fk0_1 d0_follow_23 ?_
  refine z_aload_n fx (k := 0) (i := 0) rfl rfl d0_follow_26 ?_
  obtain ⟨t3, e3, h⟩ := zinv h
  refine z_cVr fx (c0_id (zLo X) (zDo X) Sh top hO o_ μ2 _ ho e3) mv0_id ml0_28 ho rfl rfl rfl rfl d0_follow_27 ?_
  obtain ⟨μ4, e4, h⟩ := zinv h
  refine z_putI fx (ci := 9) 2 (ok0_1 hO ho) lf0_38 fp9_2 e4 d0_follow_30 ?_
  refine z_aload_n fx (k := 0) (i := 0) rfl rfl d0_follow_33 ?_
  refine z_iload_n fx (k := 3) (i := 3) rfl rfl d0_follow_34 ?_
  refine z_iconst fx (v := 1) ic1 d0_follow_35 ?_
  refine z_iadd fx d0_follow_36 ?_
  obtain ⟨μ5, e5, h⟩ := zinv h
  refine z_putI fx (ci := 0) 6 ho lf0_40 fp0_6 e5 d0_follow_37 ?_
  refine z_aload_n fx (k := 0) (i := 0) rfl rfl d0_follow_40 ?_
  refine z_iload_n fx (k := 1) (i := 1) rfl rfl d0_follow_41 ?_
  obtain ⟨μ6, e6, h⟩ := zinv h
  refine z_putI fx (ci := 0) 7 ho lf0_43 fp0_7 e6 d0_follow_42 ?_
  cases h
  exact z_return fx fin d0_follow_45
theorem d0_rule_0 : zd cX0_rule 0 (.aload_n 0) 1 1 := by decide +kernel
theorem d0_rule_1 : zd cX0_rule 1 (.getfield 12) 3 4 := by decide +kernel
theorem d0_rule_4 : zd cX0_rule 4 (.aload_n 0) 1 5 := by decide +kernel
theorem d0_rule_5 : zd cX0_rule 5 (.invokevirtual 28) 3 8 := by decide +kernel
theorem d0_rule_8 : zd cX0_rule 8 (.putfield 32) 3 11 := by decide +kernel
theorem d0_rule_11 : zd cX0_rule 11 (.aload_n 0) 1 12 := by decide +kernel
theorem d0_rule_12 : zd cX0_rule 12 (.getfield 12) 3 15 := by decide +kernel
theorem d0_rule_15 : zd cX0_rule 15 (.iconst 0) 1 16 := by decide +kernel
theorem d0_rule_16 : zd cX0_rule 16 (.putfield 35) 3 19 := by decide +kernel
theorem d0_rule_19 : zd cX0_rule 19 (.aload_n 0) 1 20 := by decide +kernel
theorem d0_rule_20 : zd cX0_rule 20 (.getfield 12) 3 23 := by decide +kernel
theorem d0_rule_23 : zd cX0_rule 23 (.aload_n 0) 1 24 := by decide +kernel
theorem d0_rule_24 : zd cX0_rule 24 (.invokevirtual 28) 3 27 := by decide +kernel
theorem d0_rule_27 : zd cX0_rule 27 (.putfield 38) 3 30 := by decide +kernel
theorem d0_rule_30 : zd cX0_rule 30 (.aload_n 0) 1 31 := by decide +kernel
theorem d0_rule_31 : zd cX0_rule 31 (.iconst 0) 1 32 := by decide +kernel
theorem d0_rule_32 : zd cX0_rule 32 (.putfield 40) 3 35 := by decide +kernel
theorem d0_rule_35 : zd cX0_rule 35 (.aload_n 0) 1 36 := by decide +kernel
theorem d0_rule_36 : zd cX0_rule 36 (.iconst (-1)) 1 37 := by decide +kernel
theorem d0_rule_37 : zd cX0_rule 37 (.putfield 43) 3 40 := by decide +kernel
theorem d0_rule_40 : zd cX0_rule 40 (.return_) 1 41 := by decide +kernel
set_option maxHeartbeats 4000000 in
set_option maxRecDepth 20000 in
theorem c0_rule (l : Launch) (D : zDt) (Sh : zSh) (top : Nat) (hO : zOK Sh) (o_ : Nat) (μ : zM) (μ_ : zM) (ho : (Sh o_).1 = 7) (h : f0_rule o_ μ = some μ_) : zMet l D zK1 yX0_rule cX0_rule 1 none (zrm 1 20) [.ref o_] Sh top μ none Sh top μ_ 0 0 := by
  refine zMet_of (by decide) (Nat.le_of_ble_eq_true rfl) fun X hX1 hX2 fx fin => ?_
  subst hX1; subst hX2
  replace fx : zFix X cX0_rule RX0 (zrm 1 20) 1 := fx
  show zZ zK1 X (zT0 Sh top) μ 0 [(0, .ref o_)] []
  unfold f0_rule at h
  refine z_aload_n fx (k := 0) (i := 0) rfl rfl d0_rule_0 ?_
  refine z_getO fx 0 1 1 ho lf0_12 fk0_1 d0_rule_1 ?_
  refine z_aload_n fx (k := 0) (i := 0) rfl rfl d0_rule_4 ?_
  obtain ⟨t1, e1, h⟩ := zinv h
  refine z_cVr fx (c0_id (zLo X) (zDo X) Sh top hO o_ μ _ ho e1) mv0_id ml0_28 ho rfl rfl rfl rfl d0_rule_5 ?_
  obtain ⟨μ2, e2, h⟩ := zinv h
  refine z_putI fx (ci := 9) 0 (ok0_1 hO ho) lf0_32 fp9_0 e2 d0_rule_8 ?_
  refine z_aload_n fx (k := 0) (i := 0) rfl rfl d0_rule_11 ?_
  refine z_getO fx 0 1 1 ho lf0_12 fk0_1 d0_rule_12 ?_
  refine z_iconst fx (v := 0) ic0 d0_rule_15 ?_
  obtain ⟨μ3, e3, h⟩ := zinv h
  refine z_putI fx (ci := 9) 1 (ok0_1 hO ho) lf0_35 fp9_1 e3 d0_rule_16 ?_
  refine z_aload_n fx (k := 0) (i := 0) rfl rfl d0_rule_19 ?_
  refine z_getO fx 0 1 1 ho lf0_12 fk0_1 d0_rule_20 ?_
  refine z_aload_n fx (k := 0) (i := 0) rfl rfl d0_rule_23 ?_
  obtain ⟨t4, e4, h⟩ := zinv h
  refine z_cVr fx (c0_id (zLo X) (zDo X) Sh top hO o_ μ3 _ ho e4) mv0_id ml0_28 ho rfl rfl rfl rfl d0_rule_24 ?_
  obtain ⟨μ5, e5, h⟩ := zinv h
  refine z_putI fx (ci := 9) 2 (ok0_1 hO ho) lf0_38 fp9_2 e5 d0_rule_27 ?_
  refine z_aload_n fx (k := 0) (i := 0) rfl rfl d0_rule_30 ?_
  refine z_iconst fx (v := 0) ic0 d0_rule_31 ?_
  obtain ⟨μ6, e6, h⟩ := zinv h
  refine z_putI fx (ci := 0) 6 ho lf0_40 fp0_6 e6 d0_rule_32 ?_
  refine z_aload_n fx (k := 0) (i := 0) rfl rfl d0_rule_35 ?_
  refine z_iconst fx (v := (-1)) icm1 d0_rule_36 ?_
  obtain ⟨μ7, e7, h⟩ := zinv h
  refine z_putI fx (ci := 0) 7 ho lf0_43 fp0_7 e7 d0_rule_37 ?_
  cases h
  exact z_return fx fin d0_rule_40
theorem d8_pickRoot_0 : zd cX8_pickRoot 0 (.iconst (-1)) 1 1 := by decide +kernel
theorem d8_pickRoot_1 : zd cX8_pickRoot 1 (.istore_n 2) 1 2 := by decide +kernel
theorem d8_pickRoot_2 : zd cX8_pickRoot 2 (.iconst 0) 1 3 := by decide +kernel
theorem d8_pickRoot_3 : zd cX8_pickRoot 3 (.istore_n 3) 1 4 := by decide +kernel
theorem d8_pickRoot_4 : zd cX8_pickRoot 4 (.iconst 0) 1 5 := by decide +kernel
theorem d8_pickRoot_5 : zd cX8_pickRoot 5 (.istore 4) 2 7 := by decide +kernel
theorem d8_pickRoot_7 : zd cX8_pickRoot 7 (.iload 4) 2 9 := by decide +kernel
theorem d8_pickRoot_9 : zd cX8_pickRoot 9 (.aload_n 0) 1 10 := by decide +kernel
theorem d8_pickRoot_10 : zd cX8_pickRoot 10 (.getfield 62) 3 13 := by decide +kernel
theorem d8_pickRoot_13 : zd cX8_pickRoot 13 (.getfield 174) 3 16 := by decide +kernel
theorem d8_pickRoot_16 : zd cX8_pickRoot 16 (.aload_n 1) 1 17 := by decide +kernel
theorem d8_pickRoot_17 : zd cX8_pickRoot 17 (.getfield 227) 3 20 := by decide +kernel
theorem d8_pickRoot_20 : zd cX8_pickRoot 20 (.iaload) 1 21 := by decide +kernel
theorem d8_pickRoot_21 : zj cX8_pickRoot 21 (.if_icmp .ge 134) 134 24 155 := by decide +kernel
theorem d8_pickRoot_24 : zd cX8_pickRoot 24 (.aload_n 0) 1 25 := by decide +kernel
theorem d8_pickRoot_25 : zd cX8_pickRoot 25 (.getfield 62) 3 28 := by decide +kernel
theorem d8_pickRoot_28 : zd cX8_pickRoot 28 (.aload_n 1) 1 29 := by decide +kernel
theorem d8_pickRoot_29 : zd cX8_pickRoot 29 (.getfield 227) 3 32 := by decide +kernel
theorem d8_pickRoot_32 : zd cX8_pickRoot 32 (.iload 4) 2 34 := by decide +kernel
theorem d8_pickRoot_34 : zd cX8_pickRoot 34 (.invokevirtual 176) 3 37 := by decide +kernel
theorem d8_pickRoot_37 : zd cX8_pickRoot 37 (.istore 5) 2 39 := by decide +kernel
theorem d8_pickRoot_39 : zd cX8_pickRoot 39 (.aload_n 0) 1 40 := by decide +kernel
theorem d8_pickRoot_40 : zd cX8_pickRoot 40 (.getfield 19) 3 43 := by decide +kernel
theorem d8_pickRoot_43 : zd cX8_pickRoot 43 (.iload 5) 2 45 := by decide +kernel
theorem d8_pickRoot_45 : zd cX8_pickRoot 45 (.aaload) 1 46 := by decide +kernel
theorem d8_pickRoot_46 : zd cX8_pickRoot 46 (.astore 6) 2 48 := by decide +kernel
theorem d8_pickRoot_48 : zd cX8_pickRoot 48 (.aload 6) 2 50 := by decide +kernel
theorem d8_pickRoot_50 : zd cX8_pickRoot 50 (.getfield 230) 3 53 := by decide +kernel
theorem d8_pickRoot_53 : zj cX8_pickRoot 53 (.ifCond .eq 96) 96 56 149 := by decide +kernel
theorem d8_pickRoot_56 : zd cX8_pickRoot 56 (.aload 6) 2 58 := by decide +kernel
theorem d8_pickRoot_58 : zd cX8_pickRoot 58 (.getfield 233) 3 61 := by decide +kernel
theorem d8_pickRoot_61 : zd cX8_pickRoot 61 (.getfield 236) 3 64 := by decide +kernel
theorem d8_pickRoot_64 : zd cX8_pickRoot 64 (.aload_n 1) 1 65 := by decide +kernel
theorem d8_pickRoot_65 : zd cX8_pickRoot 65 (.invokevirtual 239) 3 68 := by decide +kernel
theorem d8_pickRoot_68 : zj cX8_pickRoot 68 (.if_icmp .ne 6) 6 71 74 := by decide +kernel
theorem d8_pickRoot_71 : zj cX8_pickRoot 71 (.goto 78) 78 74 149 := by decide +kernel
theorem d8_pickRoot_74 : zd cX8_pickRoot 74 (.aload_n 0) 1 75 := by decide +kernel
theorem d8_pickRoot_75 : zd cX8_pickRoot 75 (.getfield 56) 3 78 := by decide +kernel
theorem d8_pickRoot_78 : zd cX8_pickRoot 78 (.aload 6) 2 80 := by decide +kernel
theorem d8_pickRoot_80 : zd cX8_pickRoot 80 (.getfield 233) 3 83 := by decide +kernel
theorem d8_pickRoot_83 : zd cX8_pickRoot 83 (.invokevirtual 186) 3 86 := by decide +kernel
theorem d8_pickRoot_86 : zd cX8_pickRoot 86 (.aload_n 0) 1 87 := by decide +kernel
theorem d8_pickRoot_87 : zd cX8_pickRoot 87 (.getfield 56) 3 90 := by decide +kernel
theorem d8_pickRoot_90 : zd cX8_pickRoot 90 (.dup) 1 91 := by decide +kernel
theorem d8_pickRoot_91 : zd cX8_pickRoot 91 (.getfield 242) 3 94 := by decide +kernel
theorem d8_pickRoot_94 : zd cX8_pickRoot 94 (.aload_n 0) 1 95 := by decide +kernel
theorem d8_pickRoot_95 : zd cX8_pickRoot 95 (.getfield 62) 3 98 := by decide +kernel
theorem d8_pickRoot_98 : zd cX8_pickRoot 98 (.getfield 245) 3 101 := by decide +kernel
theorem d8_pickRoot_101 : zd cX8_pickRoot 101 (.iload 5) 2 103 := by decide +kernel
theorem d8_pickRoot_103 : zd cX8_pickRoot 103 (.iconst 1) 1 104 := by decide +kernel
theorem d8_pickRoot_104 : zd cX8_pickRoot 104 (.ishr) 1 105 := by decide +kernel
theorem d8_pickRoot_105 : zd cX8_pickRoot 105 (.iaload) 1 106 := by decide +kernel
theorem d8_pickRoot_106 : zd cX8_pickRoot 106 (.iadd) 1 107 := by decide +kernel
theorem d8_pickRoot_107 : zd cX8_pickRoot 107 (.putfield 242) 3 110 := by decide +kernel
theorem d8_pickRoot_110 : zd cX8_pickRoot 110 (.iload_n 2) 1 111 := by decide +kernel
theorem d8_pickRoot_111 : zd cX8_pickRoot 111 (.iconst (-1)) 1 112 := by decide +kernel
theorem d8_pickRoot_112 : zj cX8_pickRoot 112 (.if_icmp .eq 17) 17 115 129 := by decide +kernel
theorem d8_pickRoot_115 : zd cX8_pickRoot 115 (.aload_n 0) 1 116 := by decide +kernel
theorem d8_pickRoot_116 : zd cX8_pickRoot 116 (.getfield 56) 3 119 := by decide +kernel
theorem d8_pickRoot_119 : zd cX8_pickRoot 119 (.aload_n 0) 1 120 := by decide +kernel
theorem d8_pickRoot_120 : zd cX8_pickRoot 120 (.getfield 59) 3 123 := by decide +kernel
theorem d8_pickRoot_123 : zd cX8_pickRoot 123 (.invokevirtual 210) 3 126 := by decide +kernel
theorem d8_pickRoot_126 : zj cX8_pickRoot 126 (.ifCond .ge 23) 23 129 149 := by decide +kernel
theorem d8_pickRoot_129 : zd cX8_pickRoot 129 (.iload 4) 2 131 := by decide +kernel
theorem d8_pickRoot_131 : zd cX8_pickRoot 131 (.istore_n 2) 1 132 := by decide +kernel
theorem d8_pickRoot_132 : zd cX8_pickRoot 132 (.aload 6) 2 134 := by decide +kernel
theorem d8_pickRoot_134 : zd cX8_pickRoot 134 (.getfield 247) 3 137 := by decide +kernel
theorem d8_pickRoot_137 : zd cX8_pickRoot 137 (.istore_n 3) 1 138 := by decide +kernel
theorem d8_pickRoot_138 : zd cX8_pickRoot 138 (.aload_n 0) 1 139 := by decide +kernel
theorem d8_pickRoot_139 : zd cX8_pickRoot 139 (.getfield 59) 3 142 := by decide +kernel
theorem d8_pickRoot_142 : zd cX8_pickRoot 142 (.aload_n 0) 1 143 := by decide +kernel
theorem d8_pickRoot_143 : zd cX8_pickRoot 143 (.getfield 56) 3 146 := by decide +kernel
theorem d8_pickRoot_146 : zd cX8_pickRoot 146 (.invokevirtual 186) 3 149 := by decide +kernel
theorem d8_pickRoot_149 : zd cX8_pickRoot 149 (.iinc 4 1) 3 152 := by decide +kernel
theorem d8_pickRoot_152 : zj cX8_pickRoot 152 (.goto (-145)) (-145) 155 7 := by decide +kernel
theorem d8_pickRoot_155 : zd cX8_pickRoot 155 (.iload_n 2) 1 156 := by decide +kernel
theorem d8_pickRoot_156 : zd cX8_pickRoot 156 (.iconst (-1)) 1 157 := by decide +kernel
theorem d8_pickRoot_157 : zj cX8_pickRoot 157 (.if_icmp .eq 30) 30 160 187 := by decide +kernel
theorem d8_pickRoot_160 : zd cX8_pickRoot 160 (.aload_n 0) 1 161 := by decide +kernel
theorem d8_pickRoot_161 : zd cX8_pickRoot 161 (.getfield 59) 3 164 := by decide +kernel
theorem d8_pickRoot_164 : zd cX8_pickRoot 164 (.getfield 250) 3 167 := by decide +kernel
theorem d8_pickRoot_167 : zd cX8_pickRoot 167 (.aload_n 1) 1 168 := by decide +kernel
theorem d8_pickRoot_168 : zd cX8_pickRoot 168 (.invokevirtual 239) 3 171 := by decide +kernel
theorem d8_pickRoot_171 : zj cX8_pickRoot 171 (.if_icmp .ge 16) 16 174 187 := by decide +kernel
theorem d8_pickRoot_174 : zd cX8_pickRoot 174 (.aload_n 1) 1 175 := by decide +kernel
theorem d8_pickRoot_175 : zd cX8_pickRoot 175 (.iload_n 2) 1 176 := by decide +kernel
theorem d8_pickRoot_176 : zd cX8_pickRoot 176 (.aload_n 0) 1 177 := by decide +kernel
theorem d8_pickRoot_177 : zd cX8_pickRoot 177 (.getfield 59) 3 180 := by decide +kernel
theorem d8_pickRoot_180 : zd cX8_pickRoot 180 (.iload_n 3) 1 181 := by decide +kernel
theorem d8_pickRoot_181 : zd cX8_pickRoot 181 (.invokevirtual 253) 3 184 := by decide +kernel
theorem d8_pickRoot_184 : zj cX8_pickRoot 184 (.goto 7) 7 187 191 := by decide +kernel
theorem d8_pickRoot_187 : zd cX8_pickRoot 187 (.aload_n 1) 1 188 := by decide +kernel
theorem d8_pickRoot_188 : zd cX8_pickRoot 188 (.invokevirtual 257) 3 191 := by decide +kernel
theorem d8_pickRoot_191 : zd cX8_pickRoot 191 (.return_) 1 192 := by decide +kernel
set_option maxHeartbeats 4000000 in
set_option maxRecDepth 20000 in
theorem c8_pickRoot (l : Launch) (D : zDt) (Sh : zSh) (top : Nat) (hO : zOK Sh) (o_ : Nat) (v_bridge : Nat) (μ : zM) (μ_ : zM) (ho : (Sh o_).1 = 15) (h_bridge : (Sh v_bridge).1 = 7) (h : f8_pickRoot o_ v_bridge μ = some μ_) : zMet l D zK1 yX8_pickRoot cX8_pickRoot 7 none (zrm 2 43) [.ref o_, .ref v_bridge] Sh top μ none Sh top μ_ 0 0 := by
  refine zMet_of (by decide) (Nat.le_of_ble_eq_true rfl) fun X hX1 hX2 fx fin => ?_
  subst hX1; subst hX2
  replace fx : zFix X cX8_pickRoot RX8 (zrm 2 43) 7 := fx
  show zZ zK1 X (zT0 Sh top) μ 0 [(0, .ref o_), (1, .ref v_bridge)] []
  unfold f8_pickRoot at h
  refine z_iconst fx (v := (-1)) icm1 d8_pickRoot_0 ?_
  refine z_istore_n fx (k := 2) (i := 2) rfl rfl (lv' := [(0, .ref o_), (1, .ref v_bridge), (2, .int (-1))]) rfl rfl d8_pickRoot_1 ?_
  refine z_iconst fx (v := 0) ic0 d8_pickRoot_2 ?_
  refine z_istore_n fx (k := 3) (i := 3) rfl rfl (lv' := [(0, .ref o_), (1, .ref v_bridge), (2, .int (-1)), (3, .int 0)]) rfl rfl d8_pickRoot_3 ?_
  refine z_iconst fx (v := 0) ic0 d8_pickRoot_4 ?_
  refine z_istore fx (i := 4) rfl (lv' := [(0, .ref o_), (1, .ref v_bridge), (2, .int (-1)), (3, .int 0), (4, .int 0)]) rfl rfl d8_pickRoot_5 ?_
  obtain ⟨v_best_5, v_bestAge_6, v_p_7, μ8, e38, h⟩ := zinv4 h
  have kx4 : zZ zK1 X (zT0 Sh top) μ8 155 [(0, .ref o_), (1, .ref v_bridge), (2, .int v_best_5), (3, .int v_bestAge_6), (4, .int v_p_7)] [] := by
    refine z_take 4 (lv' := [(0, .ref o_), (1, .ref v_bridge), (2, .int v_best_5), (3, .int v_bestAge_6)]) rfl ?_
    obtain ⟨b27, e32, h⟩ := zinv h
    have kt31 : b27 = true → zZ zK1 X (zT0 Sh top) μ8 174 [(0, .ref o_), (1, .ref v_bridge), (2, .int v_best_5), (3, .int v_bestAge_6)] [] := by
      intro hc
      replace h := zif_t hc h
      refine z_aload_n fx (k := 1) (i := 1) rfl rfl d8_pickRoot_174 ?_
      refine z_iload_n fx (k := 2) (i := 2) rfl rfl d8_pickRoot_175 ?_
      refine z_aload_n fx (k := 0) (i := 0) rfl rfl d8_pickRoot_176 ?_
      refine z_getO fx 8 11 12 ho lf8_59 fk8_11 d8_pickRoot_177 ?_
      refine z_iload_n fx (k := 3) (i := 3) rfl rfl d8_pickRoot_180 ?_
      obtain ⟨μ28, e33, h⟩ := zinv h
      refine z_cVv fx (c0_follow (zLo X) (zDo X) Sh top hO v_bridge v_best_5 (o_ + 12) v_bestAge_6 μ8 _ h_bridge (ok8_11 hO ho) e33) mv0_follow ml8_253 h_bridge rfl rfl rfl rfl d8_pickRoot_181 ?_
      refine z_goto fx d8_pickRoot_184 ?_
      cases h
      exact z_return fx fin d8_pickRoot_191
    have kf31 : b27 = false → zZ zK1 X (zT0 Sh top) μ8 187 [(0, .ref o_), (1, .ref v_bridge), (2, .int v_best_5), (3, .int v_bestAge_6)] [] := by
      intro hc
      replace h := zif_f hc h
      refine z_aload_n fx (k := 1) (i := 1) rfl rfl d8_pickRoot_187 ?_
      obtain ⟨μ29, e34, h⟩ := zinv h
      refine z_cVv fx (c0_rule (zLo X) (zDo X) Sh top hO v_bridge μ8 _ h_bridge e34) mv0_rule ml8_257 h_bridge rfl rfl rfl rfl d8_pickRoot_188 ?_
      cases h
      exact z_return fx fin d8_pickRoot_191
    clear h
    refine z_iload_n fx (k := 2) (i := 2) rfl rfl d8_pickRoot_155 ?_
    refine z_iconst fx (v := (-1)) icm1 d8_pickRoot_156 ?_
    refine z_icmp_eq fx d8_pickRoot_157 (fun c35 => ?_) (fun c35 => ?_)
    · replace e32 := zif_t c35 e32
      cases e32
      exact kf31 rfl
    · replace e32 := zif_f c35 e32
      refine z_aload_n fx (k := 0) (i := 0) rfl rfl d8_pickRoot_160 ?_
      refine z_getO fx 8 11 12 ho lf8_59 fk8_11 d8_pickRoot_161 ?_
      refine z_getI fx 9 0 900 (ok8_11 hO ho) lf8_250 ⟨fk9_0, rfl⟩ d8_pickRoot_164 ?_
      refine z_aload_n fx (k := 1) (i := 1) rfl rfl d8_pickRoot_167 ?_
      obtain ⟨t30, e36, e32⟩ := zinv e32
      refine z_cVr fx (c0_id (zLo X) (zDo X) Sh top hO v_bridge μ8 _ h_bridge e36) mv0_id ml8_239 h_bridge rfl rfl rfl rfl d8_pickRoot_168 ?_
      cases e32
      refine z_icmp_ge fx d8_pickRoot_171 (fun c37 => ?_) (fun c37 => ?_)
      · exact kf31 c37
      · exact kt31 c37
  clear h
  have klr3 : ∀ (n : Nat) (v_best_1 : Int32) (v_bestAge_2 : Int32) (v_p_3 : Int32) (μ4 : zM), zloop (fun s => f8_pickRoot_L1 o_ v_bridge s.1 s.2.1 s.2.2.1 s.2.2.2) n (v_best_1, v_bestAge_2, v_p_3, μ4) = some (v_best_5, v_bestAge_6, v_p_7, μ8) → zZ zK1 X (zT0 Sh top) μ4 7 [(0, .ref o_), (1, .ref v_bridge), (2, .int v_best_1), (3, .int v_bestAge_2), (4, .int v_p_3)] [] := by
    intro n
    induction n with
    | zero => intro v_best_1 v_bestAge_2 v_p_3 μ4 hl2; cases hl2
    | succ n ih5 =>
      intro v_best_1 v_bestAge_2 v_p_3 μ4 hl2
      obtain ⟨y, e1, hl2⟩ := zloop_inv hl2
      replace e1 : f8_pickRoot_L1 o_ v_bridge v_best_1 v_bestAge_2 v_p_3 μ4 = some y := e1
      unfold f8_pickRoot_L1 at e1
      refine z_iload fx (i := 4) rfl d8_pickRoot_7 ?_
      refine z_aload_n fx (k := 0) (i := 0) rfl rfl d8_pickRoot_9 ?_
      obtain ⟨w9, e6, e1⟩ := zinv e1
      refine z_getR fx 8 12 812 17 ho lf8_62 ⟨fk8_12, rfl⟩ e6 d8_pickRoot_10 (fun tw9 => ?_)
      refine z_getO fx 10 4 5 tw9 lf8_174 fk10_4 d8_pickRoot_13 ?_
      refine z_aload_n fx (k := 1) (i := 1) rfl rfl d8_pickRoot_16 ?_
      refine z_getI fx 0 0 0 h_bridge lf8_227 ⟨fk0_0, rfl⟩ d8_pickRoot_17 ?_
      obtain ⟨t10, e7, e1⟩ := zinv e1
      refine z_iald fx (ok10_4 hO tw9) e7 d8_pickRoot_20 ?_
      refine z_icmp_ge fx d8_pickRoot_21 (fun c8 => ?_) (fun c8 => ?_)
      · replace e1 := zif_f c8 e1
        cases e1
        cases hl2
        exact kx4
      · replace e1 := zif_t c8 e1
        refine z_aload_n fx (k := 0) (i := 0) rfl rfl d8_pickRoot_24 ?_
        obtain ⟨w11, e9, e1⟩ := zinv e1
        refine z_getR fx 8 12 812 17 ho lf8_62 ⟨fk8_12, rfl⟩ e9 d8_pickRoot_25 (fun tw11 => ?_)
        refine z_aload_n fx (k := 1) (i := 1) rfl rfl d8_pickRoot_28 ?_
        refine z_getI fx 0 0 0 h_bridge lf8_227 ⟨fk0_0, rfl⟩ d8_pickRoot_29 ?_
        refine z_iload fx (i := 4) rfl d8_pickRoot_32 ?_
        obtain ⟨t12, e10, e1⟩ := zinv e1
        refine z_cVr fx (c10_endOf (zLo X) (zDo X) Sh top hO w11 (gF μ4 0 v_bridge) v_p_3 μ4 _ tw11 e10) mv10_endOf ml8_176 tw11 rfl rfl rfl rfl d8_pickRoot_34 ?_
        refine z_istore fx (i := 5) rfl (lv' := [(0, .ref o_), (1, .ref v_bridge), (2, .int v_best_1), (3, .int v_bestAge_2), (4, .int v_p_3), (5, .int t12)]) rfl rfl d8_pickRoot_37 ?_
        refine z_aload_n fx (k := 0) (i := 0) rfl rfl d8_pickRoot_39 ?_
        refine z_getO fx 8 1 2 ho lf8_19 fk8_1 d8_pickRoot_40 ?_
        refine z_iload fx (i := 5) rfl d8_pickRoot_43 ?_
        obtain ⟨j13, e11, e1⟩ := zinv e1
        refine z_aald fx 1 (by decide) (ok8_1 hO ho) e11 (v := .ref (o_ + 37 + 2 * j13)) rfl d8_pickRoot_45 ?_
        refine z_astore fx (i := 6) rfl (lv' := [(0, .ref o_), (1, .ref v_bridge), (2, .int v_best_1), (3, .int v_bestAge_2), (4, .int v_p_3), (5, .int t12), (6, .ref (o_ + 37 + 2 * j13))]) rfl rfl d8_pickRoot_46 ?_
        obtain ⟨b14, e13, e1⟩ := zinv e1
        have kt12 : b14 = true → zZ zK1 X (zT0 Sh top) μ4 149 [(0, .ref o_), (1, .ref v_bridge), (2, .int v_best_1), (3, .int v_bestAge_2), (4, .int v_p_3), (5, .int t12), (6, .ref (o_ + 37 + 2 * j13))] [] := by
          intro hc
          replace e1 := zif_t hc e1
          refine z_take 5 (lv' := [(0, .ref o_), (1, .ref v_bridge), (2, .int v_best_1), (3, .int v_bestAge_2), (4, .int v_p_3)]) rfl ?_
          obtain ⟨v_p_15, e14, e1⟩ := zinv e1
          replace e14 := Option.some.inj e14
          refine z_iinc fx (i := 4) (x := v_p_3) (v := v_p_15) rfl (by rw [in1]; exact e14) rfl (lv' := [(0, .ref o_), (1, .ref v_bridge), (2, .int v_best_1), (3, .int v_bestAge_2), (4, .int v_p_15)]) rfl rfl d8_pickRoot_149 ?_
          cases e1
          refine z_goto fx d8_pickRoot_152 ?_
          exact ih5 _ _ _ _ hl2
        have kf12 : b14 = false → zZ zK1 X (zT0 Sh top) μ4 74 [(0, .ref o_), (1, .ref v_bridge), (2, .int v_best_1), (3, .int v_bestAge_2), (4, .int v_p_3), (5, .int t12), (6, .ref (o_ + 37 + 2 * j13))] [] := by
          intro hc
          replace e1 := zif_f hc e1
          refine z_aload_n fx (k := 0) (i := 0) rfl rfl d8_pickRoot_74 ?_
          refine z_getO fx 8 10 11 ho lf8_56 fk8_10 d8_pickRoot_75 ?_
          refine z_aload fx (i := 6) rfl d8_pickRoot_78 ?_
          refine z_getO fx 4 0 1 (okA1 hO (ok8_1 hO ho) (rI_lt e11)) lf8_233 fk4_0 d8_pickRoot_80 ?_
          obtain ⟨μ16, e15, e1⟩ := zinv e1
          refine z_cVv fx (c9_copyFrom (zLo X) (zDo X) Sh top hO (o_ + 11) ((o_ + 37 + 2 * j13) + 1) μ4 _ (ok8_10 hO ho) (ok4_0 hO (okA1 hO (ok8_1 hO ho) (rI_lt e11))) e15) mv9_copyFrom ml8_186 (ok8_10 hO ho) rfl rfl rfl rfl d8_pickRoot_83 ?_
          refine z_aload_n fx (k := 0) (i := 0) rfl rfl d8_pickRoot_86 ?_
          refine z_getO fx 8 10 11 ho lf8_56 fk8_10 d8_pickRoot_87 ?_
          refine z_dup fx rfl d8_pickRoot_90 ?_
          refine z_getI fx 9 1 901 (ok8_10 hO ho) lf8_242 ⟨fk9_1, rfl⟩ d8_pickRoot_91 ?_
          refine z_aload_n fx (k := 0) (i := 0) rfl rfl d8_pickRoot_94 ?_
          obtain ⟨w17, e16, e1⟩ := zinv e1
          refine z_getR fx 8 12 812 17 ho lf8_62 ⟨fk8_12, rfl⟩ e16 d8_pickRoot_95 (fun tw17 => ?_)
          refine z_getO fx 10 9 10 tw17 lf8_245 fk10_9 d8_pickRoot_98 ?_
          refine z_iload fx (i := 5) rfl d8_pickRoot_101 ?_
          refine z_iconst fx (v := 1) ic1 d8_pickRoot_103 ?_
          refine z_ishr fx d8_pickRoot_104 ?_
          obtain ⟨t18, e17, e1⟩ := zinv e1
          refine z_iald fx (ok10_9 hO tw17) e17 d8_pickRoot_105 ?_
          refine z_iadd fx d8_pickRoot_106 ?_
          obtain ⟨μ19, e18, e1⟩ := zinv e1
          refine z_putI fx (ci := 9) 1 (ok8_10 hO ho) lf8_242 fp9_1 e18 d8_pickRoot_107 ?_
          obtain ⟨b20, e20, e1⟩ := zinv e1
          have kt19 : b20 = true → zZ zK1 X (zT0 Sh top) μ19 129 [(0, .ref o_), (1, .ref v_bridge), (2, .int v_best_1), (3, .int v_bestAge_2), (4, .int v_p_3), (5, .int t12), (6, .ref (o_ + 37 + 2 * j13))] [] := by
            intro hc
            replace e1 := zif_t hc e1
            refine z_iload fx (i := 4) rfl d8_pickRoot_129 ?_
            refine z_istore_n fx (k := 2) (i := 2) rfl rfl (lv' := [(0, .ref o_), (1, .ref v_bridge), (2, .int v_p_3), (3, .int v_bestAge_2), (4, .int v_p_3), (5, .int t12), (6, .ref (o_ + 37 + 2 * j13))]) rfl rfl d8_pickRoot_131 ?_
            refine z_aload fx (i := 6) rfl d8_pickRoot_132 ?_
            refine z_getI fx 4 2 402 (okA1 hO (ok8_1 hO ho) (rI_lt e11)) lf8_247 ⟨fk4_2, rfl⟩ d8_pickRoot_134 ?_
            obtain ⟨v_bestAge_21, e21, e1⟩ := zinv e1
            replace e21 := Option.some.inj e21
            refine z_top (congrArg Value.int e21) ?_
            refine z_istore_n fx (k := 3) (i := 3) rfl rfl (lv' := [(0, .ref o_), (1, .ref v_bridge), (2, .int v_p_3), (3, .int v_bestAge_21), (4, .int v_p_3), (5, .int t12), (6, .ref (o_ + 37 + 2 * j13))]) rfl rfl d8_pickRoot_137 ?_
            refine z_aload_n fx (k := 0) (i := 0) rfl rfl d8_pickRoot_138 ?_
            refine z_getO fx 8 11 12 ho lf8_59 fk8_11 d8_pickRoot_139 ?_
            refine z_aload_n fx (k := 0) (i := 0) rfl rfl d8_pickRoot_142 ?_
            refine z_getO fx 8 10 11 ho lf8_56 fk8_10 d8_pickRoot_143 ?_
            obtain ⟨μ22, e22, e1⟩ := zinv e1
            refine z_cVv fx (c9_copyFrom (zLo X) (zDo X) Sh top hO (o_ + 12) (o_ + 11) μ19 _ (ok8_11 hO ho) (ok8_10 hO ho) e22) mv9_copyFrom ml8_186 (ok8_11 hO ho) rfl rfl rfl rfl d8_pickRoot_146 ?_
            refine z_take 5 (lv' := [(0, .ref o_), (1, .ref v_bridge), (2, .int v_p_3), (3, .int v_bestAge_21), (4, .int v_p_3)]) rfl ?_
            obtain ⟨v_p_23, e23, e1⟩ := zinv e1
            replace e23 := Option.some.inj e23
            refine z_iinc fx (i := 4) (x := v_p_3) (v := v_p_23) rfl (by rw [in1]; exact e23) rfl (lv' := [(0, .ref o_), (1, .ref v_bridge), (2, .int v_p_3), (3, .int v_bestAge_21), (4, .int v_p_23)]) rfl rfl d8_pickRoot_149 ?_
            cases e1
            refine z_goto fx d8_pickRoot_152 ?_
            exact ih5 _ _ _ _ hl2
          have kf19 : b20 = false → zZ zK1 X (zT0 Sh top) μ19 149 [(0, .ref o_), (1, .ref v_bridge), (2, .int v_best_1), (3, .int v_bestAge_2), (4, .int v_p_3), (5, .int t12), (6, .ref (o_ + 37 + 2 * j13))] [] := by
            intro hc
            replace e1 := zif_f hc e1
            refine z_take 5 (lv' := [(0, .ref o_), (1, .ref v_bridge), (2, .int v_best_1), (3, .int v_bestAge_2), (4, .int v_p_3)]) rfl ?_
            obtain ⟨v_p_24, e24, e1⟩ := zinv e1
            replace e24 := Option.some.inj e24
            refine z_iinc fx (i := 4) (x := v_p_3) (v := v_p_24) rfl (by rw [in1]; exact e24) rfl (lv' := [(0, .ref o_), (1, .ref v_bridge), (2, .int v_best_1), (3, .int v_bestAge_2), (4, .int v_p_24)]) rfl rfl d8_pickRoot_149 ?_
            cases e1
            refine z_goto fx d8_pickRoot_152 ?_
            exact ih5 _ _ _ _ hl2
          clear e1
          refine z_iload_n fx (k := 2) (i := 2) rfl rfl d8_pickRoot_110 ?_
          refine z_iconst fx (v := (-1)) icm1 d8_pickRoot_111 ?_
          refine z_icmp_eq fx d8_pickRoot_112 (fun c25 => ?_) (fun c25 => ?_)
          · replace e20 := zif_t c25 e20
            cases e20
            exact kt19 rfl
          · replace e20 := zif_f c25 e20
            refine z_aload_n fx (k := 0) (i := 0) rfl rfl d8_pickRoot_115 ?_
            refine z_getO fx 8 10 11 ho lf8_56 fk8_10 d8_pickRoot_116 ?_
            refine z_aload_n fx (k := 0) (i := 0) rfl rfl d8_pickRoot_119 ?_
            refine z_getO fx 8 11 12 ho lf8_59 fk8_11 d8_pickRoot_120 ?_
            obtain ⟨t25, e26, e20⟩ := zinv e20
            refine z_cVr fx (c9_against (zLo X) (zDo X) Sh top hO (o_ + 11) (o_ + 12) μ19 _ (ok8_10 hO ho) (ok8_11 hO ho) e26) mv9_against ml8_210 (ok8_10 hO ho) rfl rfl rfl rfl d8_pickRoot_123 ?_
            cases e20
            refine z_if_ge fx d8_pickRoot_126 (fun c27 => ?_) (fun c27 => ?_)
            · exact kf19 c27
            · exact kt19 c27
        clear e1
        refine z_aload fx (i := 6) rfl d8_pickRoot_48 ?_
        refine z_getB fx 4 1 401 (okA1 hO (ok8_1 hO ho) (rI_lt e11)) lf8_230 ⟨fk4_1, rfl⟩ d8_pickRoot_50 ?_
        refine z_ifb_eq fx d8_pickRoot_53 (fun c28 => ?_) (fun c28 => ?_)
        · replace e13 := zif_f c28 e13
          cases e13
          exact kt12 rfl
        · replace e13 := zif_t c28 e13
          refine z_aload fx (i := 6) rfl d8_pickRoot_56 ?_
          refine z_getO fx 4 0 1 (okA1 hO (ok8_1 hO ho) (rI_lt e11)) lf8_233 fk4_0 d8_pickRoot_58 ?_
          refine z_getI fx 9 2 902 (ok4_0 hO (okA1 hO (ok8_1 hO ho) (rI_lt e11))) lf8_236 ⟨fk9_2, rfl⟩ d8_pickRoot_61 ?_
          refine z_aload_n fx (k := 1) (i := 1) rfl rfl d8_pickRoot_64 ?_
          obtain ⟨t26, e29, e13⟩ := zinv e13
          refine z_cVr fx (c0_id (zLo X) (zDo X) Sh top hO v_bridge μ4 _ h_bridge e29) mv0_id ml8_239 h_bridge rfl rfl rfl rfl d8_pickRoot_65 ?_
          cases e13
          refine z_icmp_ne fx d8_pickRoot_68 (fun c30 => ?_) (fun c30 => ?_)
          · exact kf12 c30
          · refine z_goto fx d8_pickRoot_71 ?_
            exact kt12 c30
  exact klr3 _ _ _ _ _ e38
theorem d8_oursAt_0 : zd cX8_oursAt 0 (.aload_n 0) 1 1 := by decide +kernel
theorem d8_oursAt_1 : zd cX8_oursAt 1 (.getfield 52) 3 4 := by decide +kernel
theorem d8_oursAt_4 : zd cX8_oursAt 4 (.aload_n 0) 1 5 := by decide +kernel
theorem d8_oursAt_5 : zd cX8_oursAt 5 (.getfield 11) 3 8 := by decide +kernel
theorem d8_oursAt_8 : zd cX8_oursAt 8 (.aload_n 0) 1 9 := by decide +kernel
theorem d8_oursAt_9 : zd cX8_oursAt 9 (.getfield 62) 3 12 := by decide +kernel
theorem d8_oursAt_12 : zd cX8_oursAt 12 (.getfield 158) 3 15 := by decide +kernel
theorem d8_oursAt_15 : zd cX8_oursAt 15 (.iload_n 1) 1 16 := by decide +kernel
theorem d8_oursAt_16 : zd cX8_oursAt 16 (.iaload) 1 17 := by decide +kernel
theorem d8_oursAt_17 : zd cX8_oursAt 17 (.aaload) 1 18 := by decide +kernel
theorem d8_oursAt_18 : zd cX8_oursAt 18 (.getfield 183) 3 21 := by decide +kernel
theorem d8_oursAt_21 : zd cX8_oursAt 21 (.invokevirtual 186) 3 24 := by decide +kernel
theorem d8_oursAt_24 : zd cX8_oursAt 24 (.aload_n 0) 1 25 := by decide +kernel
theorem d8_oursAt_25 : zd cX8_oursAt 25 (.getfield 52) 3 28 := by decide +kernel
theorem d8_oursAt_28 : zd cX8_oursAt 28 (.aload_n 0) 1 29 := by decide +kernel
theorem d8_oursAt_29 : zd cX8_oursAt 29 (.getfield 62) 3 32 := by decide +kernel
theorem d8_oursAt_32 : zd cX8_oursAt 32 (.getfield 189) 3 35 := by decide +kernel
theorem d8_oursAt_35 : zd cX8_oursAt 35 (.iload_n 1) 1 36 := by decide +kernel
theorem d8_oursAt_36 : zd cX8_oursAt 36 (.iaload) 1 37 := by decide +kernel
theorem d8_oursAt_37 : zd cX8_oursAt 37 (.putfield 192) 3 40 := by decide +kernel
theorem d8_oursAt_40 : zd cX8_oursAt 40 (.aload_n 0) 1 41 := by decide +kernel
theorem d8_oursAt_41 : zd cX8_oursAt 41 (.getfield 52) 3 44 := by decide +kernel
theorem d8_oursAt_44 : zd cX8_oursAt 44 (.areturn) 1 45 := by decide +kernel
set_option maxHeartbeats 4000000 in
set_option maxRecDepth 20000 in
theorem c8_oursAt (l : Launch) (D : zDt) (Sh : zSh) (top : Nat) (hO : zOK Sh) (o_ : Nat) (v_end : Int32) (μ : zM) (r_ : Nat) (μ_ : zM) (ho : (Sh o_).1 = 15) (h : f8_oursAt o_ v_end μ = some (r_, μ_)) : (zMet l D zK1 yX8_oursAt cX8_oursAt 2 (some (.object RX9)) (zrm 1 21) [.ref o_, .int v_end] Sh top μ (some (.ref r_)) Sh top μ_ 0 0) ∧ (Sh r_).1 = 16 := by
  refine ⟨?_, ?_⟩
  · refine zMet_of (by decide) (Nat.le_of_ble_eq_true rfl) fun X hX1 hX2 fx fin => ?_
    subst hX1; subst hX2
    replace fx : zFix X cX8_oursAt RX8 (zrm 1 21) 2 := fx
    show zZ zK1 X (zT0 Sh top) μ 0 [(0, .ref o_), (1, .int v_end)] []
    unfold f8_oursAt at h
    refine z_aload_n fx (k := 0) (i := 0) rfl rfl d8_oursAt_0 ?_
    refine z_getO fx 8 9 10 ho lf8_52 fk8_9 d8_oursAt_1 ?_
    refine z_aload_n fx (k := 0) (i := 0) rfl rfl d8_oursAt_4 ?_
    refine z_getO fx 8 0 1 ho lf8_11 fk8_0 d8_oursAt_5 ?_
    refine z_aload_n fx (k := 0) (i := 0) rfl rfl d8_oursAt_8 ?_
    obtain ⟨w1, e1, h⟩ := zinv h
    refine z_getR fx 8 12 812 17 ho lf8_62 ⟨fk8_12, rfl⟩ e1 d8_oursAt_9 (fun tw1 => ?_)
    refine z_getO fx 10 6 7 tw1 lf8_158 fk10_6 d8_oursAt_12 ?_
    refine z_iload_n fx (k := 1) (i := 1) rfl rfl d8_oursAt_15 ?_
    obtain ⟨t2, e2, h⟩ := zinv h
    refine z_iald fx (ok10_6 hO tw1) e2 d8_oursAt_16 ?_
    obtain ⟨j3, e3, h⟩ := zinv h
    refine z_aald fx 0 (by decide) (ok8_0 hO ho) e3 (v := .ref (o_ + 13 + 3 * j3)) rfl d8_oursAt_17 ?_
    refine z_getO fx 0 1 1 (okA0 hO (ok8_0 hO ho) (rI_lt e3)) lf8_183 fk0_1 d8_oursAt_18 ?_
    obtain ⟨μ4, e4, h⟩ := zinv h
    refine z_cVv fx (c9_copyFrom (zLo X) (zDo X) Sh top hO (o_ + 10) ((o_ + 13 + 3 * j3) + 1) μ _ (ok8_9 hO ho) (ok0_1 hO (okA0 hO (ok8_0 hO ho) (rI_lt e3))) e4) mv9_copyFrom ml8_186 (ok8_9 hO ho) rfl rfl rfl rfl d8_oursAt_21 ?_
    refine z_aload_n fx (k := 0) (i := 0) rfl rfl d8_oursAt_24 ?_
    refine z_getO fx 8 9 10 ho lf8_52 fk8_9 d8_oursAt_25 ?_
    refine z_aload_n fx (k := 0) (i := 0) rfl rfl d8_oursAt_28 ?_
    obtain ⟨w5, e5, h⟩ := zinv h
    refine z_getR fx 8 12 812 17 ho lf8_62 ⟨fk8_12, rfl⟩ e5 d8_oursAt_29 (fun tw5 => ?_)
    refine z_getO fx 10 7 8 tw5 lf8_189 fk10_7 d8_oursAt_32 ?_
    refine z_iload_n fx (k := 1) (i := 1) rfl rfl d8_oursAt_35 ?_
    obtain ⟨t6, e6, h⟩ := zinv h
    refine z_iald fx (ok10_7 hO tw5) e6 d8_oursAt_36 ?_
    obtain ⟨μ7, e7, h⟩ := zinv h
    refine z_putI fx (ci := 9) 3 (ok8_9 hO ho) lf8_192 fp9_3 e7 d8_oursAt_37 ?_
    refine z_aload_n fx (k := 0) (i := 0) rfl rfl d8_oursAt_40 ?_
    refine z_getO fx 8 9 10 ho lf8_52 fk8_9 d8_oursAt_41 ?_
    cases h
    exact z_areturn fx fin d8_oursAt_44
  · unfold f8_oursAt at h
    obtain ⟨w1, e1, h⟩ := zinv h
    obtain ⟨t2, e2, h⟩ := zinv h
    obtain ⟨j3, e3, h⟩ := zinv h
    obtain ⟨μ4, e4, h⟩ := zinv h
    obtain ⟨w5, e5, h⟩ := zinv h
    obtain ⟨t6, e6, h⟩ := zinv h
    obtain ⟨μ7, e7, h⟩ := zinv h
    cases h
    exact (ok8_9 hO ho)
theorem d8_tellRoles_0 : zd cX8_tellRoles 0 (.iconst 0) 1 1 := by decide +kernel
theorem d8_tellRoles_1 : zd cX8_tellRoles 1 (.istore_n 2) 1 2 := by decide +kernel
theorem d8_tellRoles_2 : zd cX8_tellRoles 2 (.iload_n 2) 1 3 := by decide +kernel
theorem d8_tellRoles_3 : zd cX8_tellRoles 3 (.aload_n 0) 1 4 := by decide +kernel
theorem d8_tellRoles_4 : zd cX8_tellRoles 4 (.getfield 62) 3 7 := by decide +kernel
theorem d8_tellRoles_7 : zd cX8_tellRoles 7 (.getfield 174) 3 10 := by decide +kernel
theorem d8_tellRoles_10 : zd cX8_tellRoles 10 (.aload_n 1) 1 11 := by decide +kernel
theorem d8_tellRoles_11 : zd cX8_tellRoles 11 (.getfield 227) 3 14 := by decide +kernel
theorem d8_tellRoles_14 : zd cX8_tellRoles 14 (.iaload) 1 15 := by decide +kernel
theorem d8_tellRoles_15 : zj cX8_tellRoles 15 (.if_icmp .ge 132) 132 18 147 := by decide +kernel
theorem d8_tellRoles_18 : zd cX8_tellRoles 18 (.aload_n 0) 1 19 := by decide +kernel
theorem d8_tellRoles_19 : zd cX8_tellRoles 19 (.getfield 62) 3 22 := by decide +kernel
theorem d8_tellRoles_22 : zd cX8_tellRoles 22 (.aload_n 1) 1 23 := by decide +kernel
theorem d8_tellRoles_23 : zd cX8_tellRoles 23 (.getfield 227) 3 26 := by decide +kernel
theorem d8_tellRoles_26 : zd cX8_tellRoles 26 (.iload_n 2) 1 27 := by decide +kernel
theorem d8_tellRoles_27 : zd cX8_tellRoles 27 (.invokevirtual 176) 3 30 := by decide +kernel
theorem d8_tellRoles_30 : zd cX8_tellRoles 30 (.istore_n 3) 1 31 := by decide +kernel
theorem d8_tellRoles_31 : zd cX8_tellRoles 31 (.aload_n 0) 1 32 := by decide +kernel
theorem d8_tellRoles_32 : zd cX8_tellRoles 32 (.getfield 19) 3 35 := by decide +kernel
theorem d8_tellRoles_35 : zd cX8_tellRoles 35 (.iload_n 3) 1 36 := by decide +kernel
theorem d8_tellRoles_36 : zd cX8_tellRoles 36 (.aaload) 1 37 := by decide +kernel
theorem d8_tellRoles_37 : zd cX8_tellRoles 37 (.astore 4) 2 39 := by decide +kernel
theorem d8_tellRoles_39 : zd cX8_tellRoles 39 (.aload 4) 2 41 := by decide +kernel
theorem d8_tellRoles_41 : zd cX8_tellRoles 41 (.aload 4) 2 43 := by decide +kernel
theorem d8_tellRoles_43 : zd cX8_tellRoles 43 (.getfield 260) 3 46 := by decide +kernel
theorem d8_tellRoles_46 : zd cX8_tellRoles 46 (.putfield 263) 3 49 := by decide +kernel
theorem d8_tellRoles_49 : zd cX8_tellRoles 49 (.aload_n 0) 1 50 := by decide +kernel
theorem d8_tellRoles_50 : zd cX8_tellRoles 50 (.iload_n 3) 1 51 := by decide +kernel
theorem d8_tellRoles_51 : zd cX8_tellRoles 51 (.invokevirtual 141) 3 54 := by decide +kernel
theorem d8_tellRoles_54 : zj cX8_tellRoles 54 (.ifCond .ne 12) 12 57 66 := by decide +kernel
theorem d8_tellRoles_57 : zd cX8_tellRoles 57 (.aload 4) 2 59 := by decide +kernel
theorem d8_tellRoles_59 : zd cX8_tellRoles 59 (.iconst 0) 1 60 := by decide +kernel
theorem d8_tellRoles_60 : zd cX8_tellRoles 60 (.putfield 260) 3 63 := by decide +kernel
theorem d8_tellRoles_63 : zj cX8_tellRoles 63 (.goto 78) 78 66 141 := by decide +kernel
theorem d8_tellRoles_66 : zd cX8_tellRoles 66 (.iload_n 2) 1 67 := by decide +kernel
theorem d8_tellRoles_67 : zd cX8_tellRoles 67 (.aload_n 1) 1 68 := by decide +kernel
theorem d8_tellRoles_68 : zd cX8_tellRoles 68 (.getfield 266) 3 71 := by decide +kernel
theorem d8_tellRoles_71 : zj cX8_tellRoles 71 (.if_icmp .ne 12) 12 74 83 := by decide +kernel
theorem d8_tellRoles_74 : zd cX8_tellRoles 74 (.aload 4) 2 76 := by decide +kernel
theorem d8_tellRoles_76 : zd cX8_tellRoles 76 (.iconst 1) 1 77 := by decide +kernel
theorem d8_tellRoles_77 : zd cX8_tellRoles 77 (.putfield 260) 3 80 := by decide +kernel
theorem d8_tellRoles_80 : zj cX8_tellRoles 80 (.goto 61) 61 83 141 := by decide +kernel
theorem d8_tellRoles_83 : zd cX8_tellRoles 83 (.aload 4) 2 85 := by decide +kernel
theorem d8_tellRoles_85 : zd cX8_tellRoles 85 (.getfield 230) 3 88 := by decide +kernel
theorem d8_tellRoles_88 : zj cX8_tellRoles 88 (.ifCond .eq 47) 47 91 135 := by decide +kernel
theorem d8_tellRoles_91 : zd cX8_tellRoles 91 (.aload 4) 2 93 := by decide +kernel
theorem d8_tellRoles_93 : zd cX8_tellRoles 93 (.getfield 233) 3 96 := by decide +kernel
theorem d8_tellRoles_96 : zd cX8_tellRoles 96 (.aload_n 0) 1 97 := by decide +kernel
theorem d8_tellRoles_97 : zd cX8_tellRoles 97 (.iload_n 3) 1 98 := by decide +kernel
theorem d8_tellRoles_98 : zd cX8_tellRoles 98 (.invokevirtual 269) 3 101 := by decide +kernel
theorem d8_tellRoles_101 : zd cX8_tellRoles 101 (.invokevirtual 210) 3 104 := by decide +kernel
theorem d8_tellRoles_104 : zj cX8_tellRoles 104 (.ifCond .ge 31) 31 107 135 := by decide +kernel
theorem d8_tellRoles_107 : zd cX8_tellRoles 107 (.aload 4) 2 109 := by decide +kernel
theorem d8_tellRoles_109 : zd cX8_tellRoles 109 (.aload 4) 2 111 := by decide +kernel
theorem d8_tellRoles_111 : zd cX8_tellRoles 111 (.getfield 233) 3 114 := by decide +kernel
theorem d8_tellRoles_114 : zd cX8_tellRoles 114 (.getfield 236) 3 117 := by decide +kernel
theorem d8_tellRoles_117 : zd cX8_tellRoles 117 (.aload_n 1) 1 118 := by decide +kernel
theorem d8_tellRoles_118 : zd cX8_tellRoles 118 (.invokevirtual 239) 3 121 := by decide +kernel
theorem d8_tellRoles_121 : zj cX8_tellRoles 121 (.if_icmp .ne 7) 7 124 128 := by decide +kernel
theorem d8_tellRoles_124 : zd cX8_tellRoles 124 (.iconst 4) 1 125 := by decide +kernel
theorem d8_tellRoles_125 : zj cX8_tellRoles 125 (.goto 4) 4 128 129 := by decide +kernel
theorem d8_tellRoles_128 : zd cX8_tellRoles 128 (.iconst 3) 1 129 := by decide +kernel
theorem d8_tellRoles_129 : zd cX8_tellRoles 129 (.putfield 260) 3 132 := by decide +kernel
theorem d8_tellRoles_132 : zj cX8_tellRoles 132 (.goto 9) 9 135 141 := by decide +kernel
theorem d8_tellRoles_135 : zd cX8_tellRoles 135 (.aload 4) 2 137 := by decide +kernel
theorem d8_tellRoles_137 : zd cX8_tellRoles 137 (.iconst 2) 1 138 := by decide +kernel
theorem d8_tellRoles_138 : zd cX8_tellRoles 138 (.putfield 260) 3 141 := by decide +kernel
theorem d8_tellRoles_141 : zd cX8_tellRoles 141 (.iinc 2 1) 3 144 := by decide +kernel
theorem d8_tellRoles_144 : zj cX8_tellRoles 144 (.goto (-142)) (-142) 147 2 := by decide +kernel
theorem d8_tellRoles_147 : zd cX8_tellRoles 147 (.return_) 1 148 := by decide +kernel
set_option maxHeartbeats 4000000 in
set_option maxRecDepth 20000 in
theorem c8_tellRoles (l : Launch) (D : zDt) (Sh : zSh) (top : Nat) (hO : zOK Sh) (o_ : Nat) (v_bridge : Nat) (μ : zM) (μ_ : zM) (ho : (Sh o_).1 = 15) (h_bridge : (Sh v_bridge).1 = 7) (h : f8_tellRoles o_ v_bridge μ = some μ_) : zMet l D zK1 yX8_tellRoles cX8_tellRoles 5 none (zrm 2 42) [.ref o_, .ref v_bridge] Sh top μ none Sh top μ_ 0 0 := by
  refine zMet_of (by decide) (Nat.le_of_ble_eq_true rfl) fun X hX1 hX2 fx fin => ?_
  subst hX1; subst hX2
  replace fx : zFix X cX8_tellRoles RX8 (zrm 2 42) 5 := fx
  show zZ zK1 X (zT0 Sh top) μ 0 [(0, .ref o_), (1, .ref v_bridge)] []
  unfold f8_tellRoles at h
  refine z_iconst fx (v := 0) ic0 d8_tellRoles_0 ?_
  refine z_istore_n fx (k := 2) (i := 2) rfl rfl (lv' := [(0, .ref o_), (1, .ref v_bridge), (2, .int 0)]) rfl rfl d8_tellRoles_1 ?_
  obtain ⟨v_p_3, μ4, e34, h⟩ := zinv2 h
  have kx4 : zZ zK1 X (zT0 Sh top) μ4 147 [(0, .ref o_), (1, .ref v_bridge), (2, .int v_p_3)] [] := by
    refine z_take 2 (lv' := [(0, .ref o_), (1, .ref v_bridge)]) rfl ?_
    cases h
    exact z_return fx fin d8_tellRoles_147
  clear h
  have klr3 : ∀ (n : Nat) (v_p_1 : Int32) (μ2 : zM), zloop (fun s => f8_tellRoles_L1 o_ v_bridge s.1 s.2) n (v_p_1, μ2) = some (v_p_3, μ4) → zZ zK1 X (zT0 Sh top) μ2 2 [(0, .ref o_), (1, .ref v_bridge), (2, .int v_p_1)] [] := by
    intro n
    induction n with
    | zero => intro v_p_1 μ2 hl2; cases hl2
    | succ n ih5 =>
      intro v_p_1 μ2 hl2
      obtain ⟨y, e1, hl2⟩ := zloop_inv hl2
      replace e1 : f8_tellRoles_L1 o_ v_bridge v_p_1 μ2 = some y := e1
      unfold f8_tellRoles_L1 at e1
      refine z_iload_n fx (k := 2) (i := 2) rfl rfl d8_tellRoles_2 ?_
      refine z_aload_n fx (k := 0) (i := 0) rfl rfl d8_tellRoles_3 ?_
      obtain ⟨w5, e6, e1⟩ := zinv e1
      refine z_getR fx 8 12 812 17 ho lf8_62 ⟨fk8_12, rfl⟩ e6 d8_tellRoles_4 (fun tw5 => ?_)
      refine z_getO fx 10 4 5 tw5 lf8_174 fk10_4 d8_tellRoles_7 ?_
      refine z_aload_n fx (k := 1) (i := 1) rfl rfl d8_tellRoles_10 ?_
      refine z_getI fx 0 0 0 h_bridge lf8_227 ⟨fk0_0, rfl⟩ d8_tellRoles_11 ?_
      obtain ⟨t6, e7, e1⟩ := zinv e1
      refine z_iald fx (ok10_4 hO tw5) e7 d8_tellRoles_14 ?_
      refine z_icmp_ge fx d8_tellRoles_15 (fun c8 => ?_) (fun c8 => ?_)
      · replace e1 := zif_f c8 e1
        cases e1
        cases hl2
        exact kx4
      · replace e1 := zif_t c8 e1
        refine z_aload_n fx (k := 0) (i := 0) rfl rfl d8_tellRoles_18 ?_
        obtain ⟨w7, e9, e1⟩ := zinv e1
        refine z_getR fx 8 12 812 17 ho lf8_62 ⟨fk8_12, rfl⟩ e9 d8_tellRoles_19 (fun tw7 => ?_)
        refine z_aload_n fx (k := 1) (i := 1) rfl rfl d8_tellRoles_22 ?_
        refine z_getI fx 0 0 0 h_bridge lf8_227 ⟨fk0_0, rfl⟩ d8_tellRoles_23 ?_
        refine z_iload_n fx (k := 2) (i := 2) rfl rfl d8_tellRoles_26 ?_
        obtain ⟨t8, e10, e1⟩ := zinv e1
        refine z_cVr fx (c10_endOf (zLo X) (zDo X) Sh top hO w7 (gF μ2 0 v_bridge) v_p_1 μ2 _ tw7 e10) mv10_endOf ml8_176 tw7 rfl rfl rfl rfl d8_tellRoles_27 ?_
        refine z_istore_n fx (k := 3) (i := 3) rfl rfl (lv' := [(0, .ref o_), (1, .ref v_bridge), (2, .int v_p_1), (3, .int t8)]) rfl rfl d8_tellRoles_30 ?_
        refine z_aload_n fx (k := 0) (i := 0) rfl rfl d8_tellRoles_31 ?_
        refine z_getO fx 8 1 2 ho lf8_19 fk8_1 d8_tellRoles_32 ?_
        refine z_iload_n fx (k := 3) (i := 3) rfl rfl d8_tellRoles_35 ?_
        obtain ⟨j9, e11, e1⟩ := zinv e1
        refine z_aald fx 1 (by decide) (ok8_1 hO ho) e11 (v := .ref (o_ + 37 + 2 * j9)) rfl d8_tellRoles_36 ?_
        refine z_astore fx (i := 4) rfl (lv' := [(0, .ref o_), (1, .ref v_bridge), (2, .int v_p_1), (3, .int t8), (4, .ref (o_ + 37 + 2 * j9))]) rfl rfl d8_tellRoles_37 ?_
        refine z_aload fx (i := 4) rfl d8_tellRoles_39 ?_
        refine z_aload fx (i := 4) rfl d8_tellRoles_41 ?_
        refine z_getI fx 4 4 404 (okA1 hO (ok8_1 hO ho) (rI_lt e11)) lf8_260 ⟨fk4_4, rfl⟩ d8_tellRoles_43 ?_
        obtain ⟨μ10, e12, e1⟩ := zinv e1
        refine z_putI fx (ci := 4) 5 (okA1 hO (ok8_1 hO ho) (rI_lt e11)) lf8_263 fp4_5 e12 d8_tellRoles_46 ?_
        refine z_aload_n fx (k := 0) (i := 0) rfl rfl d8_tellRoles_49 ?_
        refine z_iload_n fx (k := 3) (i := 3) rfl rfl d8_tellRoles_50 ?_
        obtain ⟨t11, e13, e1⟩ := zinv e1
        refine z_cVr fx (c8_isUp (zLo X) (zDo X) Sh top hO o_ t8 μ10 _ ho e13) mv8_isUp ml8_141 ho rfl rfl rfl rfl d8_tellRoles_51 ?_
        refine z_ifb_ne fx d8_tellRoles_54 (fun c14 => ?_) (fun c14 => ?_)
        · replace e1 := zif_t c14 e1
          refine z_iload_n fx (k := 2) (i := 2) rfl rfl d8_tellRoles_66 ?_
          refine z_aload_n fx (k := 1) (i := 1) rfl rfl d8_tellRoles_67 ?_
          refine z_getI fx 0 7 7 h_bridge lf8_266 ⟨fk0_7, rfl⟩ d8_tellRoles_68 ?_
          refine z_icmp_ne fx d8_tellRoles_71 (fun c15 => ?_) (fun c15 => ?_)
          · replace e1 := zif_f c15 e1
            obtain ⟨b12, μ13, e17, e1⟩ := zinv2 e1
            have kt16 : b12 = true → zZ zK1 X (zT0 Sh top) μ13 107 [(0, .ref o_), (1, .ref v_bridge), (2, .int v_p_1), (3, .int t8), (4, .ref (o_ + 37 + 2 * j9))] [] := by
              intro hc
              replace e1 := zif_t hc e1
              refine z_aload fx (i := 4) rfl d8_tellRoles_107 ?_
              obtain ⟨x14, e18, e1⟩ := zinv e1
              have k19 : zZ zK1 X (zT0 Sh top) μ13 129 [(0, .ref o_), (1, .ref v_bridge), (2, .int v_p_1), (3, .int t8), (4, .ref (o_ + 37 + 2 * j9))] [.int x14, .ref (o_ + 37 + 2 * j9)] := by
                obtain ⟨μ16, e22, e1⟩ := zinv e1
                refine z_putI fx (ci := 4) 4 (okA1 hO (ok8_1 hO ho) (rI_lt e11)) lf8_260 fp4_4 e22 d8_tellRoles_129 ?_
                refine z_take 3 (lv' := [(0, .ref o_), (1, .ref v_bridge), (2, .int v_p_1)]) rfl ?_
                refine z_goto fx d8_tellRoles_132 ?_
                obtain ⟨v_p_17, e23, e1⟩ := zinv e1
                replace e23 := Option.some.inj e23
                refine z_iinc fx (i := 2) (x := v_p_1) (v := v_p_17) rfl (by rw [in1]; exact e23) rfl (lv' := [(0, .ref o_), (1, .ref v_bridge), (2, .int v_p_17)]) rfl rfl d8_tellRoles_141 ?_
                cases e1
                refine z_goto fx d8_tellRoles_144 ?_
                exact ih5 _ _ hl2
              refine z_aload fx (i := 4) rfl d8_tellRoles_109 ?_
              refine z_getO fx 4 0 1 (okA1 hO (ok8_1 hO ho) (rI_lt e11)) lf8_233 fk4_0 d8_tellRoles_111 ?_
              refine z_getI fx 9 2 902 (ok4_0 hO (okA1 hO (ok8_1 hO ho) (rI_lt e11))) lf8_236 ⟨fk9_2, rfl⟩ d8_tellRoles_114 ?_
              refine z_aload_n fx (k := 1) (i := 1) rfl rfl d8_tellRoles_117 ?_
              obtain ⟨t15, e20, e18⟩ := zinv e18
              refine z_cVr fx (c0_id (zLo X) (zDo X) Sh top hO v_bridge μ13 _ h_bridge e20) mv0_id ml8_239 h_bridge rfl rfl rfl rfl d8_tellRoles_118 ?_
              refine z_icmp_ne fx d8_tellRoles_121 (fun c21 => ?_) (fun c21 => ?_)
              · replace e18 := zif_f c21 e18
                refine z_iconst fx (v := 3) ic3 d8_tellRoles_128 ?_
                cases e18
                exact k19
              · replace e18 := zif_t c21 e18
                refine z_iconst fx (v := 4) ic4 d8_tellRoles_124 ?_
                cases e18
                refine z_goto fx d8_tellRoles_125 ?_
                exact k19
            have kf16 : b12 = false → zZ zK1 X (zT0 Sh top) μ13 135 [(0, .ref o_), (1, .ref v_bridge), (2, .int v_p_1), (3, .int t8), (4, .ref (o_ + 37 + 2 * j9))] [] := by
              intro hc
              replace e1 := zif_f hc e1
              refine z_aload fx (i := 4) rfl d8_tellRoles_135 ?_
              refine z_iconst fx (v := 2) ic2 d8_tellRoles_137 ?_
              obtain ⟨μ18, e24, e1⟩ := zinv e1
              refine z_putI fx (ci := 4) 4 (okA1 hO (ok8_1 hO ho) (rI_lt e11)) lf8_260 fp4_4 e24 d8_tellRoles_138 ?_
              refine z_take 3 (lv' := [(0, .ref o_), (1, .ref v_bridge), (2, .int v_p_1)]) rfl ?_
              obtain ⟨v_p_19, e25, e1⟩ := zinv e1
              replace e25 := Option.some.inj e25
              refine z_iinc fx (i := 2) (x := v_p_1) (v := v_p_19) rfl (by rw [in1]; exact e25) rfl (lv' := [(0, .ref o_), (1, .ref v_bridge), (2, .int v_p_19)]) rfl rfl d8_tellRoles_141 ?_
              cases e1
              refine z_goto fx d8_tellRoles_144 ?_
              exact ih5 _ _ hl2
            clear e1
            refine z_aload fx (i := 4) rfl d8_tellRoles_83 ?_
            refine z_getB fx 4 1 401 (okA1 hO (ok8_1 hO ho) (rI_lt e11)) lf8_230 ⟨fk4_1, rfl⟩ d8_tellRoles_85 ?_
            refine z_ifb_eq fx d8_tellRoles_88 (fun c26 => ?_) (fun c26 => ?_)
            · replace e17 := zif_f c26 e17
              cases e17
              exact kf16 rfl
            · replace e17 := zif_t c26 e17
              refine z_aload fx (i := 4) rfl d8_tellRoles_91 ?_
              refine z_getO fx 4 0 1 (okA1 hO (ok8_1 hO ho) (rI_lt e11)) lf8_233 fk4_0 d8_tellRoles_93 ?_
              refine z_aload_n fx (k := 0) (i := 0) rfl rfl d8_tellRoles_96 ?_
              refine z_iload_n fx (k := 3) (i := 3) rfl rfl d8_tellRoles_97 ?_
              obtain ⟨t20, μ21, e27, e17⟩ := zinv2 e17
              have tt20 : (Sh t20).1 = 16 := (c8_oursAt (zLo X) (zDo X) Sh top hO o_ t8 μ10 _ _ ho e27).2
              refine z_cVr fx ((c8_oursAt (zLo X) (zDo X) Sh top hO o_ t8 μ10 _ _ ho e27).1) mv8_oursAt ml8_269 ho rfl rfl rfl rfl d8_tellRoles_98 ?_
              obtain ⟨t22, e28, e17⟩ := zinv e17
              refine z_cVr fx (c9_against (zLo X) (zDo X) Sh top hO ((o_ + 37 + 2 * j9) + 1) t20 μ21 _ (ok4_0 hO (okA1 hO (ok8_1 hO ho) (rI_lt e11))) tt20 e28) mv9_against ml8_210 (ok4_0 hO (okA1 hO (ok8_1 hO ho) (rI_lt e11))) rfl rfl rfl rfl d8_tellRoles_101 ?_
              cases e17
              refine z_if_ge fx d8_tellRoles_104 (fun c29 => ?_) (fun c29 => ?_)
              · exact kf16 c29
              · exact kt16 c29
          · replace e1 := zif_t c15 e1
            refine z_aload fx (i := 4) rfl d8_tellRoles_74 ?_
            refine z_iconst fx (v := 1) ic1 d8_tellRoles_76 ?_
            obtain ⟨μ23, e30, e1⟩ := zinv e1
            refine z_putI fx (ci := 4) 4 (okA1 hO (ok8_1 hO ho) (rI_lt e11)) lf8_260 fp4_4 e30 d8_tellRoles_77 ?_
            refine z_take 3 (lv' := [(0, .ref o_), (1, .ref v_bridge), (2, .int v_p_1)]) rfl ?_
            refine z_goto fx d8_tellRoles_80 ?_
            obtain ⟨v_p_24, e31, e1⟩ := zinv e1
            replace e31 := Option.some.inj e31
            refine z_iinc fx (i := 2) (x := v_p_1) (v := v_p_24) rfl (by rw [in1]; exact e31) rfl (lv' := [(0, .ref o_), (1, .ref v_bridge), (2, .int v_p_24)]) rfl rfl d8_tellRoles_141 ?_
            cases e1
            refine z_goto fx d8_tellRoles_144 ?_
            exact ih5 _ _ hl2
        · replace e1 := zif_f c14 e1
          refine z_aload fx (i := 4) rfl d8_tellRoles_57 ?_
          refine z_iconst fx (v := 0) ic0 d8_tellRoles_59 ?_
          obtain ⟨μ25, e32, e1⟩ := zinv e1
          refine z_putI fx (ci := 4) 4 (okA1 hO (ok8_1 hO ho) (rI_lt e11)) lf8_260 fp4_4 e32 d8_tellRoles_60 ?_
          refine z_take 3 (lv' := [(0, .ref o_), (1, .ref v_bridge), (2, .int v_p_1)]) rfl ?_
          refine z_goto fx d8_tellRoles_63 ?_
          obtain ⟨v_p_26, e33, e1⟩ := zinv e1
          replace e33 := Option.some.inj e33
          refine z_iinc fx (i := 2) (x := v_p_1) (v := v_p_26) rfl (by rw [in1]; exact e33) rfl (lv' := [(0, .ref o_), (1, .ref v_bridge), (2, .int v_p_26)]) rfl rfl d8_tellRoles_141 ?_
          cases e1
          refine z_goto fx d8_tellRoles_144 ?_
          exact ih5 _ _ hl2
  exact klr3 _ _ _ e34
theorem d4_settleRoot_0 : zd cX4_settleRoot 0 (.aload_n 0) 1 1 := by decide +kernel
theorem d4_settleRoot_1 : zd cX4_settleRoot 1 (.iconst 0) 1 2 := by decide +kernel
theorem d4_settleRoot_2 : zd cX4_settleRoot 2 (.putfield 44) 3 5 := by decide +kernel
theorem d4_settleRoot_5 : zd cX4_settleRoot 5 (.iload_n 1) 1 6 := by decide +kernel
theorem d4_settleRoot_6 : zj cX4_settleRoot 6 (.ifCond .ne 5) 5 9 11 := by decide +kernel
theorem d4_settleRoot_9 : zd cX4_settleRoot 9 (.iconst 1) 1 10 := by decide +kernel
theorem d4_settleRoot_10 : zd cX4_settleRoot 10 (.ireturn) 1 11 := by decide +kernel
theorem d4_settleRoot_11 : zd cX4_settleRoot 11 (.aload_n 0) 1 12 := by decide +kernel
theorem d4_settleRoot_12 : zd cX4_settleRoot 12 (.getfield 32) 3 15 := by decide +kernel
theorem d4_settleRoot_15 : zd cX4_settleRoot 15 (.iconst 1) 1 16 := by decide +kernel
theorem d4_settleRoot_16 : zj cX4_settleRoot 16 (.if_icmp .eq 16) 16 19 32 := by decide +kernel
theorem d4_settleRoot_19 : zd cX4_settleRoot 19 (.aload_n 0) 1 20 := by decide +kernel
theorem d4_settleRoot_20 : zd cX4_settleRoot 20 (.getfield 32) 3 23 := by decide +kernel
theorem d4_settleRoot_23 : zd cX4_settleRoot 23 (.iconst 2) 1 24 := by decide +kernel
theorem d4_settleRoot_24 : zj cX4_settleRoot 24 (.if_icmp .eq 8) 8 27 32 := by decide +kernel
theorem d4_settleRoot_27 : zd cX4_settleRoot 27 (.aload_n 0) 1 28 := by decide +kernel
theorem d4_settleRoot_28 : zd cX4_settleRoot 28 (.iload_n 2) 1 29 := by decide +kernel
theorem d4_settleRoot_29 : zd cX4_settleRoot 29 (.putfield 38) 3 32 := by decide +kernel
theorem d4_settleRoot_32 : zd cX4_settleRoot 32 (.iconst 0) 1 33 := by decide +kernel
theorem d4_settleRoot_33 : zd cX4_settleRoot 33 (.ireturn) 1 34 := by decide +kernel
set_option maxHeartbeats 4000000 in
set_option maxRecDepth 20000 in
theorem c4_settleRoot (l : Launch) (D : zDt) (Sh : zSh) (top : Nat) (hO : zOK Sh) (o_ : Nat) (v_oldBridge : Bool) (v_delay : Int32) (μ : zM) (r_ : Int32) (μ_ : zM) (ho : (Sh o_).1 = 11) (h : f4_settleRoot o_ v_oldBridge v_delay μ = some (r_, μ_)) : zMet l D zK1 yX4_settleRoot cX4_settleRoot 3 (some .int) (zrm 0 0) [.ref o_, .int (bI v_oldBridge), .int v_delay] Sh top μ (some (.int r_)) Sh top μ_ 0 0 := by
  refine zMet_of (by decide) (Nat.le_of_ble_eq_true rfl) fun X hX1 hX2 fx fin => ?_
  subst hX1; subst hX2
  replace fx : zFix X cX4_settleRoot RX4 (zrm 0 0) 3 := fx
  show zZ zK1 X (zT0 Sh top) μ 0 [(0, .ref o_), (1, .int (bI v_oldBridge)), (2, .int v_delay)] []
  unfold f4_settleRoot at h
  refine z_aload_n fx (k := 0) (i := 0) rfl rfl d4_settleRoot_0 ?_
  refine z_iconst fx (v := 0) ic0 d4_settleRoot_1 ?_
  refine z_top (show Value.int 0 = .int (bI false) from rfl) ?_
  obtain ⟨μ1, e1, h⟩ := zinv h
  refine z_putB fx (ci := 4) 9 ho lf4_44 fp4_9 e1 d4_settleRoot_2 ?_
  refine z_iload_n fx (k := 1) (i := 1) rfl rfl d4_settleRoot_5 ?_
  refine z_ifb_ne fx d4_settleRoot_6 (fun c2 => ?_) (fun c2 => ?_)
  · replace h := zif_t c2 h
    obtain ⟨μ2, e3, h⟩ := zinv h
    have k4 : zZ zK1 X (zT0 Sh top) μ2 32 [(0, .ref o_), (1, .int (bI v_oldBridge)), (2, .int v_delay)] [] := by
      refine z_iconst fx (v := 0) ic0 d4_settleRoot_32 ?_
      cases h
      exact z_ireturn fx fin d4_settleRoot_33
    clear h
    have kt5 : ((!(ceq (gF μ1 405 o_) 1)) && (!(ceq (gF μ1 405 o_) 2))) = true → zZ zK1 X (zT0 Sh top) μ1 27 [(0, .ref o_), (1, .int (bI v_oldBridge)), (2, .int v_delay)] [] := by
      intro hc
      replace e3 := zif_t hc e3
      refine z_aload_n fx (k := 0) (i := 0) rfl rfl d4_settleRoot_27 ?_
      refine z_iload_n fx (k := 2) (i := 2) rfl rfl d4_settleRoot_28 ?_
      obtain ⟨μ3, e6, e3⟩ := zinv e3
      refine z_putI fx (ci := 4) 7 ho lf4_38 fp4_7 e6 d4_settleRoot_29 ?_
      cases e3
      exact k4
    have kf5 : ((!(ceq (gF μ1 405 o_) 1)) && (!(ceq (gF μ1 405 o_) 2))) = false → zZ zK1 X (zT0 Sh top) μ1 32 [(0, .ref o_), (1, .int (bI v_oldBridge)), (2, .int v_delay)] [] := by
      intro hc
      replace e3 := zif_f hc e3
      cases e3
      exact k4
    clear e3
    refine z_aload_n fx (k := 0) (i := 0) rfl rfl d4_settleRoot_11 ?_
    refine z_getI fx 4 5 405 ho lf4_32 ⟨fk4_5, rfl⟩ d4_settleRoot_12 ?_
    refine z_iconst fx (v := 1) ic1 d4_settleRoot_15 ?_
    refine z_icmp_eq fx d4_settleRoot_16 (fun c7 => ?_) (fun c7 => ?_)
    · exact kf5 (by simp [c7])
    · refine z_aload_n fx (k := 0) (i := 0) rfl rfl d4_settleRoot_19 ?_
      refine z_getI fx 4 5 405 ho lf4_32 ⟨fk4_5, rfl⟩ d4_settleRoot_20 ?_
      refine z_iconst fx (v := 2) ic2 d4_settleRoot_23 ?_
      refine z_icmp_eq fx d4_settleRoot_24 (fun c8 => ?_) (fun c8 => ?_)
      · exact kf5 (by simp [c7, c8])
      · exact kt5 (by simp [c7, c8])
  · replace h := zif_f c2 h
    refine z_iconst fx (v := 1) ic1 d4_settleRoot_9 ?_
    cases h
    exact z_ireturn fx fin d4_settleRoot_10
theorem d4_settleDesignated_0 : zd cX4_settleDesignated 0 (.aload_n 0) 1 1 := by decide +kernel
theorem d4_settleDesignated_1 : zd cX4_settleDesignated 1 (.iconst 0) 1 2 := by decide +kernel
theorem d4_settleDesignated_2 : zd cX4_settleDesignated 2 (.putfield 18) 3 5 := by decide +kernel
theorem d4_settleDesignated_5 : zd cX4_settleDesignated 5 (.aload_n 0) 1 6 := by decide +kernel
theorem d4_settleDesignated_6 : zd cX4_settleDesignated 6 (.iconst 0) 1 7 := by decide +kernel
theorem d4_settleDesignated_7 : zd cX4_settleDesignated 7 (.putfield 53) 3 10 := by decide +kernel
theorem d4_settleDesignated_10 : zd cX4_settleDesignated 10 (.aload_n 0) 1 11 := by decide +kernel
theorem d4_settleDesignated_11 : zd cX4_settleDesignated 11 (.getfield 32) 3 14 := by decide +kernel
theorem d4_settleDesignated_14 : zd cX4_settleDesignated 14 (.iconst 2) 1 15 := by decide +kernel
theorem d4_settleDesignated_15 : zj cX4_settleDesignated 15 (.if_icmp .eq 29) 29 18 44 := by decide +kernel
theorem d4_settleDesignated_18 : zd cX4_settleDesignated 18 (.aload_n 0) 1 19 := by decide +kernel
theorem d4_settleDesignated_19 : zd cX4_settleDesignated 19 (.iconst 0) 1 20 := by decide +kernel
theorem d4_settleDesignated_20 : zd cX4_settleDesignated 20 (.putfield 44) 3 23 := by decide +kernel
theorem d4_settleDesignated_23 : zd cX4_settleDesignated 23 (.aload_n 0) 1 24 := by decide +kernel
theorem d4_settleDesignated_24 : zd cX4_settleDesignated 24 (.iconst 1) 1 25 := by decide +kernel
theorem d4_settleDesignated_25 : zd cX4_settleDesignated 25 (.putfield 59) 3 28 := by decide +kernel
theorem d4_settleDesignated_28 : zd cX4_settleDesignated 28 (.aload_n 0) 1 29 := by decide +kernel
theorem d4_settleDesignated_29 : zd cX4_settleDesignated 29 (.getfield 47) 3 32 := by decide +kernel
theorem d4_settleDesignated_32 : zj cX4_settleDesignated 32 (.ifCond .eq 5) 5 35 37 := by decide +kernel
theorem d4_settleDesignated_35 : zd cX4_settleDesignated 35 (.iconst 1) 1 36 := by decide +kernel
theorem d4_settleDesignated_36 : zd cX4_settleDesignated 36 (.ireturn) 1 37 := by decide +kernel
theorem d4_settleDesignated_37 : zd cX4_settleDesignated 37 (.aload_n 0) 1 38 := by decide +kernel
theorem d4_settleDesignated_38 : zd cX4_settleDesignated 38 (.iload_n 2) 1 39 := by decide +kernel
theorem d4_settleDesignated_39 : zd cX4_settleDesignated 39 (.putfield 38) 3 42 := by decide +kernel
theorem d4_settleDesignated_42 : zd cX4_settleDesignated 42 (.iconst 2) 1 43 := by decide +kernel
theorem d4_settleDesignated_43 : zd cX4_settleDesignated 43 (.ireturn) 1 44 := by decide +kernel
theorem d4_settleDesignated_44 : zd cX4_settleDesignated 44 (.iload_n 1) 1 45 := by decide +kernel
theorem d4_settleDesignated_45 : zj cX4_settleDesignated 45 (.ifCond .eq 8) 8 48 53 := by decide +kernel
theorem d4_settleDesignated_48 : zd cX4_settleDesignated 48 (.aload_n 0) 1 49 := by decide +kernel
theorem d4_settleDesignated_49 : zd cX4_settleDesignated 49 (.iconst 1) 1 50 := by decide +kernel
theorem d4_settleDesignated_50 : zd cX4_settleDesignated 50 (.putfield 59) 3 53 := by decide +kernel
theorem d4_settleDesignated_53 : zd cX4_settleDesignated 53 (.iload_n 1) 1 54 := by decide +kernel
theorem d4_settleDesignated_54 : zj cX4_settleDesignated 54 (.ifCond .ge 8) 8 57 62 := by decide +kernel
theorem d4_settleDesignated_57 : zd cX4_settleDesignated 57 (.aload_n 0) 1 58 := by decide +kernel
theorem d4_settleDesignated_58 : zd cX4_settleDesignated 58 (.iconst 0) 1 59 := by decide +kernel
theorem d4_settleDesignated_59 : zd cX4_settleDesignated 59 (.putfield 44) 3 62 := by decide +kernel
theorem d4_settleDesignated_62 : zd cX4_settleDesignated 62 (.iconst 0) 1 63 := by decide +kernel
theorem d4_settleDesignated_63 : zd cX4_settleDesignated 63 (.ireturn) 1 64 := by decide +kernel
set_option maxHeartbeats 4000000 in
set_option maxRecDepth 20000 in
theorem c4_settleDesignated (l : Launch) (D : zDt) (Sh : zSh) (top : Nat) (hO : zOK Sh) (o_ : Nat) (v_moved : Int32) (v_delay : Int32) (μ : zM) (r_ : Int32) (μ_ : zM) (ho : (Sh o_).1 = 11) (h : f4_settleDesignated o_ v_moved v_delay μ = some (r_, μ_)) : zMet l D zK1 yX4_settleDesignated cX4_settleDesignated 3 (some .int) (zrm 0 0) [.ref o_, .int v_moved, .int v_delay] Sh top μ (some (.int r_)) Sh top μ_ 0 0 := by
  refine zMet_of (by decide) (Nat.le_of_ble_eq_true rfl) fun X hX1 hX2 fx fin => ?_
  subst hX1; subst hX2
  replace fx : zFix X cX4_settleDesignated RX4 (zrm 0 0) 3 := fx
  show zZ zK1 X (zT0 Sh top) μ 0 [(0, .ref o_), (1, .int v_moved), (2, .int v_delay)] []
  unfold f4_settleDesignated at h
  refine z_aload_n fx (k := 0) (i := 0) rfl rfl d4_settleDesignated_0 ?_
  refine z_iconst fx (v := 0) ic0 d4_settleDesignated_1 ?_
  refine z_top (show Value.int 0 = .int (bI false) from rfl) ?_
  obtain ⟨μ1, e1, h⟩ := zinv h
  refine z_putB fx (ci := 4) 1 ho lf4_18 fp4_1 e1 d4_settleDesignated_2 ?_
  refine z_aload_n fx (k := 0) (i := 0) rfl rfl d4_settleDesignated_5 ?_
  refine z_iconst fx (v := 0) ic0 d4_settleDesignated_6 ?_
  refine z_top (show Value.int 0 = .int (bI false) from rfl) ?_
  obtain ⟨μ2, e2, h⟩ := zinv h
  refine z_putB fx (ci := 4) 12 ho lf4_53 fp4_12 e2 d4_settleDesignated_7 ?_
  refine z_aload_n fx (k := 0) (i := 0) rfl rfl d4_settleDesignated_10 ?_
  refine z_getI fx 4 5 405 ho lf4_32 ⟨fk4_5, rfl⟩ d4_settleDesignated_11 ?_
  refine z_iconst fx (v := 2) ic2 d4_settleDesignated_14 ?_
  refine z_icmp_eq fx d4_settleDesignated_15 (fun c3 => ?_) (fun c3 => ?_)
  · replace h := zif_t c3 h
    obtain ⟨μ3, e4, h⟩ := zinv h
    have k5 : zZ zK1 X (zT0 Sh top) μ3 53 [(0, .ref o_), (1, .int v_moved), (2, .int v_delay)] [] := by
      obtain ⟨μ4, e6, h⟩ := zinv h
      have k7 : zZ zK1 X (zT0 Sh top) μ4 62 [(0, .ref o_), (1, .int v_moved), (2, .int v_delay)] [] := by
        refine z_iconst fx (v := 0) ic0 d4_settleDesignated_62 ?_
        cases h
        exact z_ireturn fx fin d4_settleDesignated_63
      clear h
      refine z_iload_n fx (k := 1) (i := 1) rfl rfl d4_settleDesignated_53 ?_
      refine z_if_ge fx d4_settleDesignated_54 (fun c8 => ?_) (fun c8 => ?_)
      · replace e6 := zif_f c8 e6
        cases e6
        exact k7
      · replace e6 := zif_t c8 e6
        refine z_aload_n fx (k := 0) (i := 0) rfl rfl d4_settleDesignated_57 ?_
        refine z_iconst fx (v := 0) ic0 d4_settleDesignated_58 ?_
        refine z_top (show Value.int 0 = .int (bI false) from rfl) ?_
        obtain ⟨μ5, e9, e6⟩ := zinv e6
        refine z_putB fx (ci := 4) 9 ho lf4_44 fp4_9 e9 d4_settleDesignated_59 ?_
        cases e6
        exact k7
    clear h
    refine z_iload_n fx (k := 1) (i := 1) rfl rfl d4_settleDesignated_44 ?_
    refine z_if_eq fx d4_settleDesignated_45 (fun c10 => ?_) (fun c10 => ?_)
    · replace e4 := zif_t c10 e4
      cases e4
      exact k5
    · replace e4 := zif_f c10 e4
      refine z_aload_n fx (k := 0) (i := 0) rfl rfl d4_settleDesignated_48 ?_
      refine z_iconst fx (v := 1) ic1 d4_settleDesignated_49 ?_
      refine z_top (show Value.int 1 = .int (bI true) from rfl) ?_
      obtain ⟨μ6, e11, e4⟩ := zinv e4
      refine z_putB fx (ci := 4) 14 ho lf4_59 fp4_14 e11 d4_settleDesignated_50 ?_
      cases e4
      exact k5
  · replace h := zif_f c3 h
    refine z_aload_n fx (k := 0) (i := 0) rfl rfl d4_settleDesignated_18 ?_
    refine z_iconst fx (v := 0) ic0 d4_settleDesignated_19 ?_
    refine z_top (show Value.int 0 = .int (bI false) from rfl) ?_
    obtain ⟨μ7, e12, h⟩ := zinv h
    refine z_putB fx (ci := 4) 9 ho lf4_44 fp4_9 e12 d4_settleDesignated_20 ?_
    refine z_aload_n fx (k := 0) (i := 0) rfl rfl d4_settleDesignated_23 ?_
    refine z_iconst fx (v := 1) ic1 d4_settleDesignated_24 ?_
    refine z_top (show Value.int 1 = .int (bI true) from rfl) ?_
    obtain ⟨μ8, e13, h⟩ := zinv h
    refine z_putB fx (ci := 4) 14 ho lf4_59 fp4_14 e13 d4_settleDesignated_25 ?_
    refine z_aload_n fx (k := 0) (i := 0) rfl rfl d4_settleDesignated_28 ?_
    refine z_getB fx 4 10 410 ho lf4_47 ⟨fk4_10, rfl⟩ d4_settleDesignated_29 ?_
    refine z_ifb_eq fx d4_settleDesignated_32 (fun c14 => ?_) (fun c14 => ?_)
    · replace h := zif_f c14 h
      refine z_aload_n fx (k := 0) (i := 0) rfl rfl d4_settleDesignated_37 ?_
      refine z_iload_n fx (k := 2) (i := 2) rfl rfl d4_settleDesignated_38 ?_
      obtain ⟨μ9, e15, h⟩ := zinv h
      refine z_putI fx (ci := 4) 7 ho lf4_38 fp4_7 e15 d4_settleDesignated_39 ?_
      refine z_iconst fx (v := 2) ic2 d4_settleDesignated_42 ?_
      cases h
      exact z_ireturn fx fin d4_settleDesignated_43
    · replace h := zif_t c14 h
      refine z_iconst fx (v := 1) ic1 d4_settleDesignated_35 ?_
      cases h
      exact z_ireturn fx fin d4_settleDesignated_36
theorem d4_settle_0 : zd cX4_settle 0 (.aload_n 0) 1 1 := by decide +kernel
theorem d4_settle_1 : zd cX4_settle 1 (.getfield 29) 3 4 := by decide +kernel
theorem d4_settle_4 : zd cX4_settle 4 (.iconst 1) 1 5 := by decide +kernel
theorem d4_settle_5 : zj cX4_settle 5 (.if_icmp .ne 10) 10 8 15 := by decide +kernel
theorem d4_settle_8 : zd cX4_settle 8 (.aload_n 0) 1 9 := by decide +kernel
theorem d4_settle_9 : zd cX4_settle 9 (.iload_n 1) 1 10 := by decide +kernel
theorem d4_settle_10 : zd cX4_settle 10 (.iload_n 3) 1 11 := by decide +kernel
theorem d4_settle_11 : zd cX4_settle 11 (.invokevirtual 66) 3 14 := by decide +kernel
theorem d4_settle_14 : zd cX4_settle 14 (.ireturn) 1 15 := by decide +kernel
theorem d4_settle_15 : zd cX4_settle 15 (.aload_n 0) 1 16 := by decide +kernel
theorem d4_settle_16 : zd cX4_settle 16 (.getfield 29) 3 19 := by decide +kernel
theorem d4_settle_19 : zd cX4_settle 19 (.iconst 2) 1 20 := by decide +kernel
theorem d4_settle_20 : zj cX4_settle 20 (.if_icmp .ne 10) 10 23 30 := by decide +kernel
theorem d4_settle_23 : zd cX4_settle 23 (.aload_n 0) 1 24 := by decide +kernel
theorem d4_settle_24 : zd cX4_settle 24 (.iload_n 2) 1 25 := by decide +kernel
theorem d4_settle_25 : zd cX4_settle 25 (.iload_n 3) 1 26 := by decide +kernel
theorem d4_settle_26 : zd cX4_settle 26 (.invokevirtual 70) 3 29 := by decide +kernel
theorem d4_settle_29 : zd cX4_settle 29 (.ireturn) 1 30 := by decide +kernel
theorem d4_settle_30 : zd cX4_settle 30 (.aload_n 0) 1 31 := by decide +kernel
theorem d4_settle_31 : zd cX4_settle 31 (.getfield 29) 3 34 := by decide +kernel
theorem d4_settle_34 : zj cX4_settle 34 (.ifCond .ne 5) 5 37 39 := by decide +kernel
theorem d4_settle_37 : zd cX4_settle 37 (.iconst 0) 1 38 := by decide +kernel
theorem d4_settle_38 : zd cX4_settle 38 (.ireturn) 1 39 := by decide +kernel
theorem d4_settle_39 : zd cX4_settle 39 (.aload_n 0) 1 40 := by decide +kernel
theorem d4_settle_40 : zd cX4_settle 40 (.iconst 0) 1 41 := by decide +kernel
theorem d4_settle_41 : zd cX4_settle 41 (.putfield 44) 3 44 := by decide +kernel
theorem d4_settle_44 : zd cX4_settle 44 (.aload_n 0) 1 45 := by decide +kernel
theorem d4_settle_45 : zd cX4_settle 45 (.iconst 0) 1 46 := by decide +kernel
theorem d4_settle_46 : zd cX4_settle 46 (.putfield 38) 3 49 := by decide +kernel
theorem d4_settle_49 : zd cX4_settle 49 (.aload_n 0) 1 50 := by decide +kernel
theorem d4_settle_50 : zd cX4_settle 50 (.iconst 0) 1 51 := by decide +kernel
theorem d4_settle_51 : zd cX4_settle 51 (.putfield 41) 3 54 := by decide +kernel
theorem d4_settle_54 : zd cX4_settle 54 (.aload_n 0) 1 55 := by decide +kernel
theorem d4_settle_55 : zd cX4_settle 55 (.iconst 0) 1 56 := by decide +kernel
theorem d4_settle_56 : zd cX4_settle 56 (.putfield 56) 3 59 := by decide +kernel
theorem d4_settle_59 : zd cX4_settle 59 (.iconst 2) 1 60 := by decide +kernel
theorem d4_settle_60 : zd cX4_settle 60 (.ireturn) 1 61 := by decide +kernel
set_option maxHeartbeats 4000000 in
set_option maxRecDepth 20000 in
theorem c4_settle (l : Launch) (D : zDt) (Sh : zSh) (top : Nat) (hO : zOK Sh) (o_ : Nat) (v_oldBridge : Bool) (v_moved : Int32) (v_delay : Int32) (μ : zM) (r_ : Int32) (μ_ : zM) (ho : (Sh o_).1 = 11) (h : f4_settle o_ v_oldBridge v_moved v_delay μ = some (r_, μ_)) : zMet l D zK1 yX4_settle cX4_settle 4 (some .int) (zrm 1 22) [.ref o_, .int (bI v_oldBridge), .int v_moved, .int v_delay] Sh top μ (some (.int r_)) Sh top μ_ 0 0 := by
  refine zMet_of (by decide) (Nat.le_of_ble_eq_true rfl) fun X hX1 hX2 fx fin => ?_
  subst hX1; subst hX2
  replace fx : zFix X cX4_settle RX4 (zrm 1 22) 4 := fx
  show zZ zK1 X (zT0 Sh top) μ 0 [(0, .ref o_), (1, .int (bI v_oldBridge)), (2, .int v_moved), (3, .int v_delay)] []
  unfold f4_settle at h
  refine z_aload_n fx (k := 0) (i := 0) rfl rfl d4_settle_0 ?_
  refine z_getI fx 4 4 404 ho lf4_29 ⟨fk4_4, rfl⟩ d4_settle_1 ?_
  refine z_iconst fx (v := 1) ic1 d4_settle_4 ?_
  refine z_icmp_ne fx d4_settle_5 (fun c1 => ?_) (fun c1 => ?_)
  · replace h := zif_f c1 h
    refine z_aload_n fx (k := 0) (i := 0) rfl rfl d4_settle_15 ?_
    refine z_getI fx 4 4 404 ho lf4_29 ⟨fk4_4, rfl⟩ d4_settle_16 ?_
    refine z_iconst fx (v := 2) ic2 d4_settle_19 ?_
    refine z_icmp_ne fx d4_settle_20 (fun c2 => ?_) (fun c2 => ?_)
    · replace h := zif_f c2 h
      refine z_aload_n fx (k := 0) (i := 0) rfl rfl d4_settle_30 ?_
      refine z_getI fx 4 4 404 ho lf4_29 ⟨fk4_4, rfl⟩ d4_settle_31 ?_
      refine z_if_ne fx d4_settle_34 (fun c3 => ?_) (fun c3 => ?_)
      · replace h := zif_f c3 h
        refine z_aload_n fx (k := 0) (i := 0) rfl rfl d4_settle_39 ?_
        refine z_iconst fx (v := 0) ic0 d4_settle_40 ?_
        refine z_top (show Value.int 0 = .int (bI false) from rfl) ?_
        obtain ⟨μ1, e4, h⟩ := zinv h
        refine z_putB fx (ci := 4) 9 ho lf4_44 fp4_9 e4 d4_settle_41 ?_
        refine z_aload_n fx (k := 0) (i := 0) rfl rfl d4_settle_44 ?_
        refine z_iconst fx (v := 0) ic0 d4_settle_45 ?_
        obtain ⟨μ2, e5, h⟩ := zinv h
        refine z_putI fx (ci := 4) 7 ho lf4_38 fp4_7 e5 d4_settle_46 ?_
        refine z_aload_n fx (k := 0) (i := 0) rfl rfl d4_settle_49 ?_
        refine z_iconst fx (v := 0) ic0 d4_settle_50 ?_
        obtain ⟨μ3, e6, h⟩ := zinv h
        refine z_putI fx (ci := 4) 8 ho lf4_41 fp4_8 e6 d4_settle_51 ?_
        refine z_aload_n fx (k := 0) (i := 0) rfl rfl d4_settle_54 ?_
        refine z_iconst fx (v := 0) ic0 d4_settle_55 ?_
        refine z_top (show Value.int 0 = .int (bI false) from rfl) ?_
        obtain ⟨μ4, e7, h⟩ := zinv h
        refine z_putB fx (ci := 4) 13 ho lf4_56 fp4_13 e7 d4_settle_56 ?_
        refine z_iconst fx (v := 2) ic2 d4_settle_59 ?_
        cases h
        exact z_ireturn fx fin d4_settle_60
      · replace h := zif_t c3 h
        refine z_iconst fx (v := 0) ic0 d4_settle_37 ?_
        cases h
        exact z_ireturn fx fin d4_settle_38
    · replace h := zif_t c2 h
      refine z_aload_n fx (k := 0) (i := 0) rfl rfl d4_settle_23 ?_
      refine z_iload_n fx (k := 2) (i := 2) rfl rfl d4_settle_24 ?_
      refine z_iload_n fx (k := 3) (i := 3) rfl rfl d4_settle_25 ?_
      obtain ⟨t5, μ6, e8, h⟩ := zinv2 h
      refine z_cVr fx (c4_settleDesignated (zLo X) (zDo X) Sh top hO o_ v_moved v_delay μ _ _ ho e8) mv4_settleDesignated ml4_70 ho rfl rfl rfl rfl d4_settle_26 ?_
      cases h
      exact z_ireturn fx fin d4_settle_29
  · replace h := zif_t c1 h
    refine z_aload_n fx (k := 0) (i := 0) rfl rfl d4_settle_8 ?_
    refine z_iload_n fx (k := 1) (i := 1) rfl rfl d4_settle_9 ?_
    refine z_iload_n fx (k := 3) (i := 3) rfl rfl d4_settle_10 ?_
    obtain ⟨t7, μ8, e9, h⟩ := zinv2 h
    refine z_cVr fx (c4_settleRoot (zLo X) (zDo X) Sh top hO o_ v_oldBridge v_delay μ _ _ ho e9) mv4_settleRoot ml4_66 ho rfl rfl rfl rfl d4_settle_11 ?_
    cases h
    exact z_ireturn fx fin d4_settle_14
theorem d8_enter_0 : zd cX8_enter 0 (.aload_n 0) 1 1 := by decide +kernel
theorem d8_enter_1 : zd cX8_enter 1 (.getfield 19) 3 4 := by decide +kernel
theorem d8_enter_4 : zd cX8_enter 4 (.iload_n 1) 1 5 := by decide +kernel
theorem d8_enter_5 : zd cX8_enter 5 (.aaload) 1 6 := by decide +kernel
theorem d8_enter_6 : zd cX8_enter 6 (.iload_n 2) 1 7 := by decide +kernel
theorem d8_enter_7 : zd cX8_enter 7 (.putfield 165) 3 10 := by decide +kernel
theorem d8_enter_10 : zd cX8_enter 10 (.aload_n 0) 1 11 := by decide +kernel
theorem d8_enter_11 : zd cX8_enter 11 (.getfield 135) 3 14 := by decide +kernel
theorem d8_enter_14 : zj cX8_enter 14 (.ifCond .eq 4) 4 17 18 := by decide +kernel
theorem d8_enter_17 : zd cX8_enter 17 (.return_) 1 18 := by decide +kernel
theorem d8_enter_18 : zd cX8_enter 18 (.aload_n 0) 1 19 := by decide +kernel
theorem d8_enter_19 : zd cX8_enter 19 (.getfield 78) 3 22 := by decide +kernel
theorem d8_enter_22 : zd cX8_enter 22 (.aload_n 0) 1 23 := by decide +kernel
theorem d8_enter_23 : zd cX8_enter 23 (.getfield 81) 3 26 := by decide +kernel
theorem d8_enter_26 : zd cX8_enter 26 (.iadd) 1 27 := by decide +kernel
theorem d8_enter_27 : zd cX8_enter 27 (.bipush 40) 2 29 := by decide +kernel
theorem d8_enter_29 : zd cX8_enter 29 (.irem) 1 30 := by decide +kernel
theorem d8_enter_30 : zd cX8_enter 30 (.istore_n 3) 1 31 := by decide +kernel
theorem d8_enter_31 : zd cX8_enter 31 (.aload_n 0) 1 32 := by decide +kernel
theorem d8_enter_32 : zd cX8_enter 32 (.getfield 81) 3 35 := by decide +kernel
theorem d8_enter_35 : zd cX8_enter 35 (.bipush 40) 2 37 := by decide +kernel
theorem d8_enter_37 : zj cX8_enter 37 (.if_icmp .ne 19) 19 40 56 := by decide +kernel
theorem d8_enter_40 : zd cX8_enter 40 (.aload_n 0) 1 41 := by decide +kernel
theorem d8_enter_41 : zd cX8_enter 41 (.aload_n 0) 1 42 := by decide +kernel
theorem d8_enter_42 : zd cX8_enter 42 (.getfield 78) 3 45 := by decide +kernel
theorem d8_enter_45 : zd cX8_enter 45 (.iconst 1) 1 46 := by decide +kernel
theorem d8_enter_46 : zd cX8_enter 46 (.iadd) 1 47 := by decide +kernel
theorem d8_enter_47 : zd cX8_enter 47 (.bipush 40) 2 49 := by decide +kernel
theorem d8_enter_49 : zd cX8_enter 49 (.irem) 1 50 := by decide +kernel
theorem d8_enter_50 : zd cX8_enter 50 (.putfield 78) 3 53 := by decide +kernel
theorem d8_enter_53 : zj cX8_enter 53 (.goto 13) 13 56 66 := by decide +kernel
theorem d8_enter_56 : zd cX8_enter 56 (.aload_n 0) 1 57 := by decide +kernel
theorem d8_enter_57 : zd cX8_enter 57 (.dup) 1 58 := by decide +kernel
theorem d8_enter_58 : zd cX8_enter 58 (.getfield 81) 3 61 := by decide +kernel
theorem d8_enter_61 : zd cX8_enter 61 (.iconst 1) 1 62 := by decide +kernel
theorem d8_enter_62 : zd cX8_enter 62 (.iadd) 1 63 := by decide +kernel
theorem d8_enter_63 : zd cX8_enter 63 (.putfield 81) 3 66 := by decide +kernel
theorem d8_enter_66 : zd cX8_enter 66 (.aload_n 0) 1 67 := by decide +kernel
theorem d8_enter_67 : zd cX8_enter 67 (.getfield 43) 3 70 := by decide +kernel
theorem d8_enter_70 : zd cX8_enter 70 (.iload_n 3) 1 71 := by decide +kernel
theorem d8_enter_71 : zd cX8_enter 71 (.iconst 4) 1 72 := by decide +kernel
theorem d8_enter_72 : zd cX8_enter 72 (.imul) 1 73 := by decide +kernel
theorem d8_enter_73 : zd cX8_enter 73 (.aload_n 0) 1 74 := by decide +kernel
theorem d8_enter_74 : zd cX8_enter 74 (.getfield 71) 3 77 := by decide +kernel
theorem d8_enter_77 : zd cX8_enter 77 (.iastore) 1 78 := by decide +kernel
theorem d8_enter_78 : zd cX8_enter 78 (.aload_n 0) 1 79 := by decide +kernel
theorem d8_enter_79 : zd cX8_enter 79 (.getfield 43) 3 82 := by decide +kernel
theorem d8_enter_82 : zd cX8_enter 82 (.iload_n 3) 1 83 := by decide +kernel
theorem d8_enter_83 : zd cX8_enter 83 (.iconst 4) 1 84 := by decide +kernel
theorem d8_enter_84 : zd cX8_enter 84 (.imul) 1 85 := by decide +kernel
theorem d8_enter_85 : zd cX8_enter 85 (.iconst 1) 1 86 := by decide +kernel
theorem d8_enter_86 : zd cX8_enter 86 (.iadd) 1 87 := by decide +kernel
theorem d8_enter_87 : zd cX8_enter 87 (.aload_n 0) 1 88 := by decide +kernel
theorem d8_enter_88 : zd cX8_enter 88 (.getfield 62) 3 91 := by decide +kernel
theorem d8_enter_91 : zd cX8_enter 91 (.getfield 158) 3 94 := by decide +kernel
theorem d8_enter_94 : zd cX8_enter 94 (.iload_n 1) 1 95 := by decide +kernel
theorem d8_enter_95 : zd cX8_enter 95 (.iaload) 1 96 := by decide +kernel
theorem d8_enter_96 : zd cX8_enter 96 (.iastore) 1 97 := by decide +kernel
theorem d8_enter_97 : zd cX8_enter 97 (.aload_n 0) 1 98 := by decide +kernel
theorem d8_enter_98 : zd cX8_enter 98 (.getfield 43) 3 101 := by decide +kernel
theorem d8_enter_101 : zd cX8_enter 101 (.iload_n 3) 1 102 := by decide +kernel
theorem d8_enter_102 : zd cX8_enter 102 (.iconst 4) 1 103 := by decide +kernel
theorem d8_enter_103 : zd cX8_enter 103 (.imul) 1 104 := by decide +kernel
theorem d8_enter_104 : zd cX8_enter 104 (.iconst 2) 1 105 := by decide +kernel
theorem d8_enter_105 : zd cX8_enter 105 (.iadd) 1 106 := by decide +kernel
theorem d8_enter_106 : zd cX8_enter 106 (.aload_n 0) 1 107 := by decide +kernel
theorem d8_enter_107 : zd cX8_enter 107 (.getfield 62) 3 110 := by decide +kernel
theorem d8_enter_110 : zd cX8_enter 110 (.getfield 189) 3 113 := by decide +kernel
theorem d8_enter_113 : zd cX8_enter 113 (.iload_n 1) 1 114 := by decide +kernel
theorem d8_enter_114 : zd cX8_enter 114 (.iaload) 1 115 := by decide +kernel
theorem d8_enter_115 : zd cX8_enter 115 (.iastore) 1 116 := by decide +kernel
theorem d8_enter_116 : zd cX8_enter 116 (.aload_n 0) 1 117 := by decide +kernel
theorem d8_enter_117 : zd cX8_enter 117 (.getfield 43) 3 120 := by decide +kernel
theorem d8_enter_120 : zd cX8_enter 120 (.iload_n 3) 1 121 := by decide +kernel
theorem d8_enter_121 : zd cX8_enter 121 (.iconst 4) 1 122 := by decide +kernel
theorem d8_enter_122 : zd cX8_enter 122 (.imul) 1 123 := by decide +kernel
theorem d8_enter_123 : zd cX8_enter 123 (.iconst 3) 1 124 := by decide +kernel
theorem d8_enter_124 : zd cX8_enter 124 (.iadd) 1 125 := by decide +kernel
theorem d8_enter_125 : zd cX8_enter 125 (.iload_n 2) 1 126 := by decide +kernel
theorem d8_enter_126 : zd cX8_enter 126 (.iastore) 1 127 := by decide +kernel
theorem d8_enter_127 : zd cX8_enter 127 (.return_) 1 128 := by decide +kernel
set_option maxHeartbeats 4000000 in
set_option maxRecDepth 20000 in
theorem c8_enter (l : Launch) (D : zDt) (Sh : zSh) (top : Nat) (hO : zOK Sh) (o_ : Nat) (v_end : Int32) (v_state : Int32) (μ : zM) (μ_ : zM) (ho : (Sh o_).1 = 15) (h : f8_enter o_ v_end v_state μ = some μ_) : zMet l D zK1 yX8_enter cX8_enter 4 none (zrm 0 0) [.ref o_, .int v_end, .int v_state] Sh top μ none Sh top μ_ 0 0 := by
  refine zMet_of (by decide) (Nat.le_of_ble_eq_true rfl) fun X hX1 hX2 fx fin => ?_
  subst hX1; subst hX2
  replace fx : zFix X cX8_enter RX8 (zrm 0 0) 4 := fx
  show zZ zK1 X (zT0 Sh top) μ 0 [(0, .ref o_), (1, .int v_end), (2, .int v_state)] []
  unfold f8_enter at h
  refine z_aload_n fx (k := 0) (i := 0) rfl rfl d8_enter_0 ?_
  refine z_getO fx 8 1 2 ho lf8_19 fk8_1 d8_enter_1 ?_
  refine z_iload_n fx (k := 1) (i := 1) rfl rfl d8_enter_4 ?_
  obtain ⟨j1, e1, h⟩ := zinv h
  refine z_aald fx 1 (by decide) (ok8_1 hO ho) e1 (v := .ref (o_ + 37 + 2 * j1)) rfl d8_enter_5 ?_
  refine z_iload_n fx (k := 2) (i := 2) rfl rfl d8_enter_6 ?_
  obtain ⟨μ2, e2, h⟩ := zinv h
  refine z_putI fx (ci := 4) 6 (okA1 hO (ok8_1 hO ho) (rI_lt e1)) lf8_165 fp4_6 e2 d8_enter_7 ?_
  refine z_aload_n fx (k := 0) (i := 0) rfl rfl d8_enter_10 ?_
  refine z_getB fx 8 17 817 ho lf8_135 ⟨fk8_17, rfl⟩ d8_enter_11 ?_
  refine z_ifb_eq fx d8_enter_14 (fun c3 => ?_) (fun c3 => ?_)
  · replace h := zif_f c3 h
    refine z_aload_n fx (k := 0) (i := 0) rfl rfl d8_enter_18 ?_
    refine z_getI fx 8 15 815 ho lf8_78 ⟨fk8_15, rfl⟩ d8_enter_19 ?_
    refine z_aload_n fx (k := 0) (i := 0) rfl rfl d8_enter_22 ?_
    refine z_getI fx 8 16 816 ho lf8_81 ⟨fk8_16, rfl⟩ d8_enter_23 ?_
    refine z_iadd fx d8_enter_26 ?_
    refine z_bipush fx (v := 40) bp40 d8_enter_27 ?_
    obtain ⟨t3, e4, h⟩ := zinv h
    refine z_irem fx e4 d8_enter_29 ?_
    refine z_istore_n fx (k := 3) (i := 3) rfl rfl (lv' := [(0, .ref o_), (1, .int v_end), (2, .int v_state), (3, .int t3)]) rfl rfl d8_enter_30 ?_
    obtain ⟨μ4, e5, h⟩ := zinv h
    have k6 : zZ zK1 X (zT0 Sh top) μ4 66 [(0, .ref o_), (1, .int v_end), (2, .int v_state), (3, .int t3)] [] := by
      refine z_aload_n fx (k := 0) (i := 0) rfl rfl d8_enter_66 ?_
      refine z_getO fx 8 7 8 ho lf8_43 fk8_7 d8_enter_67 ?_
      refine z_iload_n fx (k := 3) (i := 3) rfl rfl d8_enter_70 ?_
      refine z_iconst fx (v := 4) ic4 d8_enter_71 ?_
      refine z_imul fx d8_enter_72 ?_
      refine z_aload_n fx (k := 0) (i := 0) rfl rfl d8_enter_73 ?_
      refine z_getI fx 8 13 813 ho lf8_71 ⟨fk8_13, rfl⟩ d8_enter_74 ?_
      obtain ⟨μ5, e7, h⟩ := zinv h
      refine z_iast fx (ok8_7 hO ho) e7 d8_enter_77 ?_
      refine z_aload_n fx (k := 0) (i := 0) rfl rfl d8_enter_78 ?_
      refine z_getO fx 8 7 8 ho lf8_43 fk8_7 d8_enter_79 ?_
      refine z_iload_n fx (k := 3) (i := 3) rfl rfl d8_enter_82 ?_
      refine z_iconst fx (v := 4) ic4 d8_enter_83 ?_
      refine z_imul fx d8_enter_84 ?_
      refine z_iconst fx (v := 1) ic1 d8_enter_85 ?_
      refine z_iadd fx d8_enter_86 ?_
      refine z_aload_n fx (k := 0) (i := 0) rfl rfl d8_enter_87 ?_
      obtain ⟨w6, e8, h⟩ := zinv h
      refine z_getR fx 8 12 812 17 ho lf8_62 ⟨fk8_12, rfl⟩ e8 d8_enter_88 (fun tw6 => ?_)
      refine z_getO fx 10 6 7 tw6 lf8_158 fk10_6 d8_enter_91 ?_
      refine z_iload_n fx (k := 1) (i := 1) rfl rfl d8_enter_94 ?_
      obtain ⟨t7, e9, h⟩ := zinv h
      refine z_iald fx (ok10_6 hO tw6) e9 d8_enter_95 ?_
      obtain ⟨μ8, e10, h⟩ := zinv h
      refine z_iast fx (ok8_7 hO ho) e10 d8_enter_96 ?_
      refine z_aload_n fx (k := 0) (i := 0) rfl rfl d8_enter_97 ?_
      refine z_getO fx 8 7 8 ho lf8_43 fk8_7 d8_enter_98 ?_
      refine z_iload_n fx (k := 3) (i := 3) rfl rfl d8_enter_101 ?_
      refine z_iconst fx (v := 4) ic4 d8_enter_102 ?_
      refine z_imul fx d8_enter_103 ?_
      refine z_iconst fx (v := 2) ic2 d8_enter_104 ?_
      refine z_iadd fx d8_enter_105 ?_
      refine z_aload_n fx (k := 0) (i := 0) rfl rfl d8_enter_106 ?_
      obtain ⟨w9, e11, h⟩ := zinv h
      refine z_getR fx 8 12 812 17 ho lf8_62 ⟨fk8_12, rfl⟩ e11 d8_enter_107 (fun tw9 => ?_)
      refine z_getO fx 10 7 8 tw9 lf8_189 fk10_7 d8_enter_110 ?_
      refine z_iload_n fx (k := 1) (i := 1) rfl rfl d8_enter_113 ?_
      obtain ⟨t10, e12, h⟩ := zinv h
      refine z_iald fx (ok10_7 hO tw9) e12 d8_enter_114 ?_
      obtain ⟨μ11, e13, h⟩ := zinv h
      refine z_iast fx (ok8_7 hO ho) e13 d8_enter_115 ?_
      refine z_aload_n fx (k := 0) (i := 0) rfl rfl d8_enter_116 ?_
      refine z_getO fx 8 7 8 ho lf8_43 fk8_7 d8_enter_117 ?_
      refine z_iload_n fx (k := 3) (i := 3) rfl rfl d8_enter_120 ?_
      refine z_iconst fx (v := 4) ic4 d8_enter_121 ?_
      refine z_imul fx d8_enter_122 ?_
      refine z_iconst fx (v := 3) ic3 d8_enter_123 ?_
      refine z_iadd fx d8_enter_124 ?_
      refine z_iload_n fx (k := 2) (i := 2) rfl rfl d8_enter_125 ?_
      obtain ⟨μ12, e14, h⟩ := zinv h
      refine z_iast fx (ok8_7 hO ho) e14 d8_enter_126 ?_
      cases h
      exact z_return fx fin d8_enter_127
    clear h
    refine z_aload_n fx (k := 0) (i := 0) rfl rfl d8_enter_31 ?_
    refine z_getI fx 8 16 816 ho lf8_81 ⟨fk8_16, rfl⟩ d8_enter_32 ?_
    refine z_bipush fx (v := 40) bp40 d8_enter_35 ?_
    refine z_icmp_ne fx d8_enter_37 (fun c15 => ?_) (fun c15 => ?_)
    · replace e5 := zif_f c15 e5
      refine z_aload_n fx (k := 0) (i := 0) rfl rfl d8_enter_56 ?_
      refine z_dup fx rfl d8_enter_57 ?_
      refine z_getI fx 8 16 816 ho lf8_81 ⟨fk8_16, rfl⟩ d8_enter_58 ?_
      refine z_iconst fx (v := 1) ic1 d8_enter_61 ?_
      refine z_iadd fx d8_enter_62 ?_
      obtain ⟨μ13, e16, e5⟩ := zinv e5
      refine z_putI fx (ci := 8) 16 ho lf8_81 fp8_16 e16 d8_enter_63 ?_
      cases e5
      exact k6
    · replace e5 := zif_t c15 e5
      refine z_aload_n fx (k := 0) (i := 0) rfl rfl d8_enter_40 ?_
      refine z_aload_n fx (k := 0) (i := 0) rfl rfl d8_enter_41 ?_
      refine z_getI fx 8 15 815 ho lf8_78 ⟨fk8_15, rfl⟩ d8_enter_42 ?_
      refine z_iconst fx (v := 1) ic1 d8_enter_45 ?_
      refine z_iadd fx d8_enter_46 ?_
      refine z_bipush fx (v := 40) bp40 d8_enter_47 ?_
      obtain ⟨t14, e17, e5⟩ := zinv e5
      refine z_irem fx e17 d8_enter_49 ?_
      obtain ⟨μ15, e18, e5⟩ := zinv e5
      refine z_putI fx (ci := 8) 15 ho lf8_78 fp8_15 e18 d8_enter_50 ?_
      cases e5
      refine z_goto fx d8_enter_53 ?_
      exact k6
  · replace h := zif_t c3 h
    cases h
    exact z_return fx fin d8_enter_17
theorem d4_isInUse_0 : zd cX4_isInUse 0 (.aload_n 0) 1 1 := by decide +kernel
theorem d4_isInUse_1 : zd cX4_isInUse 1 (.getfield 29) 3 4 := by decide +kernel
theorem d4_isInUse_4 : zd cX4_isInUse 4 (.iconst 1) 1 5 := by decide +kernel
theorem d4_isInUse_5 : zj cX4_isInUse 5 (.if_icmp .eq 11) 11 8 16 := by decide +kernel
theorem d4_isInUse_8 : zd cX4_isInUse 8 (.aload_n 0) 1 9 := by decide +kernel
theorem d4_isInUse_9 : zd cX4_isInUse 9 (.getfield 29) 3 12 := by decide +kernel
theorem d4_isInUse_12 : zd cX4_isInUse 12 (.iconst 2) 1 13 := by decide +kernel
theorem d4_isInUse_13 : zj cX4_isInUse 13 (.if_icmp .ne 7) 7 16 20 := by decide +kernel
theorem d4_isInUse_16 : zd cX4_isInUse 16 (.iconst 1) 1 17 := by decide +kernel
theorem d4_isInUse_17 : zj cX4_isInUse 17 (.goto 4) 4 20 21 := by decide +kernel
theorem d4_isInUse_20 : zd cX4_isInUse 20 (.iconst 0) 1 21 := by decide +kernel
theorem d4_isInUse_21 : zd cX4_isInUse 21 (.ireturn) 1 22 := by decide +kernel
set_option maxHeartbeats 4000000 in
set_option maxRecDepth 20000 in
theorem c4_isInUse (l : Launch) (D : zDt) (Sh : zSh) (top : Nat) (hO : zOK Sh) (o_ : Nat) (μ : zM) (r_ : Bool) (ho : (Sh o_).1 = 11) (h : f4_isInUse o_ μ = some r_) : zMet l D zK1 yX4_isInUse cX4_isInUse 1 (some .boolean) (zrm 0 0) [.ref o_] Sh top μ (some (.int (bI r_))) Sh top μ 0 0 := by
  refine zMet_of (by decide) (Nat.le_of_ble_eq_true rfl) fun X hX1 hX2 fx fin => ?_
  subst hX1; subst hX2
  replace fx : zFix X cX4_isInUse RX4 (zrm 0 0) 1 := fx
  show zZ zK1 X (zT0 Sh top) μ 0 [(0, .ref o_)] []
  unfold f4_isInUse at h
  obtain ⟨b1, e1, h⟩ := zinv h
  replace e1 := Option.some.inj e1
  have k2 : zZ zK1 X (zT0 Sh top) μ 21 [(0, .ref o_)] [.int (bI b1)] := by
    cases h
    exact z_zreturn fx fin d4_isInUse_21
  refine z_aload_n fx (k := 0) (i := 0) rfl rfl d4_isInUse_0 ?_
  refine z_getI fx 4 4 404 ho lf4_29 ⟨fk4_4, rfl⟩ d4_isInUse_1 ?_
  refine z_iconst fx (v := 1) ic1 d4_isInUse_4 ?_
  refine z_icmp_eq fx d4_isInUse_5 (fun c3 => ?_) (fun c3 => ?_)
  · refine z_iconst fx (v := 1) ic1 d4_isInUse_16 ?_
    refine z_goto fx d4_isInUse_17 ?_
    exact z_top (congrArg Value.int (show 1 = bI b1 by rw [← e1]; simp [c3, bI])) k2
  · refine z_aload_n fx (k := 0) (i := 0) rfl rfl d4_isInUse_8 ?_
    refine z_getI fx 4 4 404 ho lf4_29 ⟨fk4_4, rfl⟩ d4_isInUse_9 ?_
    refine z_iconst fx (v := 2) ic2 d4_isInUse_12 ?_
    refine z_icmp_ne fx d4_isInUse_13 (fun c4 => ?_) (fun c4 => ?_)
    · refine z_iconst fx (v := 0) ic0 d4_isInUse_20 ?_
      exact z_top (congrArg Value.int (show 0 = bI b1 by rw [← e1]; simp [c3, c4, bI])) k2
    · refine z_iconst fx (v := 1) ic1 d4_isInUse_16 ?_
      refine z_goto fx d4_isInUse_17 ?_
      exact z_top (congrArg Value.int (show 1 = bI b1 by rw [← e1]; simp [c3, c4, bI])) k2
