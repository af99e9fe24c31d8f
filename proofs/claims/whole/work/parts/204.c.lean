theorem d1_isMet_0 : zd cX1_isMet 0 (.iconst 0) 1 1 := by decide +kernel
theorem d1_isMet_1 : zd cX1_isMet 1 (.istore_n 2) 1 2 := by decide +kernel
theorem d1_isMet_2 : zd cX1_isMet 2 (.iload_n 2) 1 3 := by decide +kernel
theorem d1_isMet_3 : zd cX1_isMet 3 (.aload_n 1) 1 4 := by decide +kernel
theorem d1_isMet_4 : zd cX1_isMet 4 (.getfield 41) 3 7 := by decide +kernel
theorem d1_isMet_7 : zd cX1_isMet 7 (.getfield 47) 3 10 := by decide +kernel
theorem d1_isMet_10 : zj cX1_isMet 10 (.if_icmp .ge 73) 73 13 83 := by decide +kernel
theorem d1_isMet_13 : zd cX1_isMet 13 (.aload_n 1) 1 14 := by decide +kernel
theorem d1_isMet_14 : zd cX1_isMet 14 (.getfield 74) 3 17 := by decide +kernel
theorem d1_isMet_17 : zd cX1_isMet 17 (.iload_n 2) 1 18 := by decide +kernel
theorem d1_isMet_18 : zd cX1_isMet 18 (.aaload) 1 19 := by decide +kernel
theorem d1_isMet_19 : zd cX1_isMet 19 (.astore_n 3) 1 20 := by decide +kernel
theorem d1_isMet_20 : zd cX1_isMet 20 (.aload_n 3) 1 21 := by decide +kernel
theorem d1_isMet_21 : zd cX1_isMet 21 (.getfield 77) 3 24 := by decide +kernel
theorem d1_isMet_24 : zj cX1_isMet 24 (.ifCond .ne 6) 6 27 30 := by decide +kernel
theorem d1_isMet_27 : zj cX1_isMet 27 (.goto 50) 50 30 77 := by decide +kernel
theorem d1_isMet_30 : zd cX1_isMet 30 (.aload_n 3) 1 31 := by decide +kernel
theorem d1_isMet_31 : zd cX1_isMet 31 (.getfield 135) 3 34 := by decide +kernel
theorem d1_isMet_34 : zd cX1_isMet 34 (.getfield 125) 3 37 := by decide +kernel
theorem d1_isMet_37 : zd cX1_isMet 37 (.aload_n 0) 1 38 := by decide +kernel
theorem d1_isMet_38 : zd cX1_isMet 38 (.getfield 15) 3 41 := by decide +kernel
theorem d1_isMet_41 : zd cX1_isMet 41 (.iload_n 2) 1 42 := by decide +kernel
theorem d1_isMet_42 : zd cX1_isMet 42 (.iaload) 1 43 := by decide +kernel
theorem d1_isMet_43 : zj cX1_isMet 43 (.if_icmp .ne 32) 32 46 75 := by decide +kernel
theorem d1_isMet_46 : zd cX1_isMet 46 (.aload_n 3) 1 47 := by decide +kernel
theorem d1_isMet_47 : zd cX1_isMet 47 (.getfield 135) 3 50 := by decide +kernel
theorem d1_isMet_50 : zd cX1_isMet 50 (.getfield 115) 3 53 := by decide +kernel
theorem d1_isMet_53 : zd cX1_isMet 53 (.aload_n 0) 1 54 := by decide +kernel
theorem d1_isMet_54 : zd cX1_isMet 54 (.getfield 18) 3 57 := by decide +kernel
theorem d1_isMet_57 : zd cX1_isMet 57 (.iload_n 2) 1 58 := by decide +kernel
theorem d1_isMet_58 : zd cX1_isMet 58 (.iaload) 1 59 := by decide +kernel
theorem d1_isMet_59 : zj cX1_isMet 59 (.if_icmp .ne 16) 16 62 75 := by decide +kernel
theorem d1_isMet_62 : zd cX1_isMet 62 (.aload_n 3) 1 63 := by decide +kernel
theorem d1_isMet_63 : zd cX1_isMet 63 (.getfield 138) 3 66 := by decide +kernel
theorem d1_isMet_66 : zd cX1_isMet 66 (.aload_n 0) 1 67 := by decide +kernel
theorem d1_isMet_67 : zd cX1_isMet 67 (.getfield 21) 3 70 := by decide +kernel
theorem d1_isMet_70 : zd cX1_isMet 70 (.iload_n 2) 1 71 := by decide +kernel
theorem d1_isMet_71 : zd cX1_isMet 71 (.iaload) 1 72 := by decide +kernel
theorem d1_isMet_72 : zj cX1_isMet 72 (.if_icmp .eq 5) 5 75 77 := by decide +kernel
theorem d1_isMet_75 : zd cX1_isMet 75 (.iconst 0) 1 76 := by decide +kernel
theorem d1_isMet_76 : zd cX1_isMet 76 (.ireturn) 1 77 := by decide +kernel
theorem d1_isMet_77 : zd cX1_isMet 77 (.iinc 2 1) 3 80 := by decide +kernel
theorem d1_isMet_80 : zj cX1_isMet 80 (.goto (-78)) (-78) 83 2 := by decide +kernel
theorem d1_isMet_83 : zd cX1_isMet 83 (.iconst 0) 1 84 := by decide +kernel
theorem d1_isMet_84 : zd cX1_isMet 84 (.istore_n 2) 1 85 := by decide +kernel
theorem d1_isMet_85 : zd cX1_isMet 85 (.iload_n 2) 1 86 := by decide +kernel
theorem d1_isMet_86 : zd cX1_isMet 86 (.iconst 2) 1 87 := by decide +kernel
theorem d1_isMet_87 : zd cX1_isMet 87 (.aload_n 1) 1 88 := by decide +kernel
theorem d1_isMet_88 : zd cX1_isMet 88 (.getfield 41) 3 91 := by decide +kernel
theorem d1_isMet_91 : zd cX1_isMet 91 (.getfield 60) 3 94 := by decide +kernel
theorem d1_isMet_94 : zd cX1_isMet 94 (.imul) 1 95 := by decide +kernel
theorem d1_isMet_95 : zj cX1_isMet 95 (.if_icmp .ge 50) 50 98 145 := by decide +kernel
theorem d1_isMet_98 : zd cX1_isMet 98 (.aload_n 1) 1 99 := by decide +kernel
theorem d1_isMet_99 : zd cX1_isMet 99 (.getfield 140) 3 102 := by decide +kernel
theorem d1_isMet_102 : zd cX1_isMet 102 (.iload_n 2) 1 103 := by decide +kernel
theorem d1_isMet_103 : zd cX1_isMet 103 (.aaload) 1 104 := by decide +kernel
theorem d1_isMet_104 : zd cX1_isMet 104 (.astore_n 3) 1 105 := by decide +kernel
theorem d1_isMet_105 : zd cX1_isMet 105 (.aload_n 3) 1 106 := by decide +kernel
theorem d1_isMet_106 : zd cX1_isMet 106 (.getfield 143) 3 109 := by decide +kernel
theorem d1_isMet_109 : zd cX1_isMet 109 (.aload_n 0) 1 110 := by decide +kernel
theorem d1_isMet_110 : zd cX1_isMet 110 (.getfield 24) 3 113 := by decide +kernel
theorem d1_isMet_113 : zd cX1_isMet 113 (.iload_n 2) 1 114 := by decide +kernel
theorem d1_isMet_114 : zd cX1_isMet 114 (.iaload) 1 115 := by decide +kernel
theorem d1_isMet_115 : zj cX1_isMet 115 (.if_icmp .ne 22) 22 118 137 := by decide +kernel
theorem d1_isMet_118 : zd cX1_isMet 118 (.aload_n 3) 1 119 := by decide +kernel
theorem d1_isMet_119 : zd cX1_isMet 119 (.getfield 147) 3 122 := by decide +kernel
theorem d1_isMet_122 : zd cX1_isMet 122 (.aload_n 3) 1 123 := by decide +kernel
theorem d1_isMet_123 : zd cX1_isMet 123 (.invokevirtual 150) 3 126 := by decide +kernel
theorem d1_isMet_126 : zj cX1_isMet 126 (.ifCond .eq 7) 7 129 133 := by decide +kernel
theorem d1_isMet_129 : zd cX1_isMet 129 (.iconst 2) 1 130 := by decide +kernel
theorem d1_isMet_130 : zj cX1_isMet 130 (.goto 4) 4 133 134 := by decide +kernel
theorem d1_isMet_133 : zd cX1_isMet 133 (.iconst 0) 1 134 := by decide +kernel
theorem d1_isMet_134 : zj cX1_isMet 134 (.if_icmp .eq 5) 5 137 139 := by decide +kernel
theorem d1_isMet_137 : zd cX1_isMet 137 (.iconst 0) 1 138 := by decide +kernel
theorem d1_isMet_138 : zd cX1_isMet 138 (.ireturn) 1 139 := by decide +kernel
theorem d1_isMet_139 : zd cX1_isMet 139 (.iinc 2 1) 3 142 := by decide +kernel
theorem d1_isMet_142 : zj cX1_isMet 142 (.goto (-57)) (-57) 145 85 := by decide +kernel
theorem d1_isMet_145 : zd cX1_isMet 145 (.iconst 1) 1 146 := by decide +kernel
theorem d1_isMet_146 : zd cX1_isMet 146 (.ireturn) 1 147 := by decide +kernel
set_option maxHeartbeats 4000000 in
set_option maxRecDepth 20000 in
theorem c1_isMet (l : Launch) (D : zDt) (Sh : zSh) (top : Nat) (hO : zOK Sh) (o_ : Nat) (v_state : Nat) (μ : zM) (r_ : Bool) (ho : (Sh o_).1 = 8) (h_state : (Sh v_state).1 = 15) (h : f1_isMet o_ v_state μ = some r_) : zMet l D zK1 yX1_isMet cX1_isMet 4 (some .boolean) (zrm 1 20) [.ref o_, .ref v_state] Sh top μ (some (.int (bI r_))) Sh top μ 0 0 := by
  refine zMet_of (by decide) (Nat.le_of_ble_eq_true rfl) fun X hX1 hX2 fx fin => ?_
  subst hX1; subst hX2
  replace fx : zFix X cX1_isMet RX1 (zrm 1 20) 4 := fx
  show zZ zK1 X (zT0 Sh top) μ 0 [(0, .ref o_), (1, .ref v_state)] []
  unfold f1_isMet at h
  refine z_iconst fx (v := 0) ic0 d1_isMet_0 ?_
  refine z_istore_n fx (k := 2) (i := 2) rfl rfl (lv' := [(0, .ref o_), (1, .ref v_state), (2, .int 0)]) rfl rfl d1_isMet_1 ?_
  obtain ⟨r3, e45, h⟩ := zinv h
  have kx4 : ∀ (v_b_2 : Int32), r3 = .inr v_b_2 → zZ zK1 X (zT0 Sh top) μ 83 [(0, .ref o_), (1, .ref v_state), (2, .int v_b_2)] [] := by
    intro v_b_2 hr
    subst hr
    replace h := zel1 h
    refine z_take 2 (lv' := [(0, .ref o_), (1, .ref v_state)]) rfl ?_
    refine z_iconst fx (v := 0) ic0 d1_isMet_83 ?_
    refine z_istore_n fx (k := 2) (i := 2) rfl rfl (lv' := [(0, .ref o_), (1, .ref v_state), (2, .int 0)]) rfl rfl d1_isMet_84 ?_
    obtain ⟨r26, e44, h⟩ := zinv h
    have kx27 : ∀ (v_end_14 : Int32), r26 = .inr v_end_14 → zZ zK1 X (zT0 Sh top) μ 145 [(0, .ref o_), (1, .ref v_state), (2, .int v_end_14)] [] := by
      intro v_end_14 hr
      subst hr
      replace h := zel1 h
      refine z_take 2 (lv' := [(0, .ref o_), (1, .ref v_state)]) rfl ?_
      refine z_iconst fx (v := 1) ic1 d1_isMet_145 ?_
      refine z_top (show Value.int 1 = .int (bI true) from rfl) ?_
      cases h
      exact z_zreturn fx fin d1_isMet_146
    have klr26 : ∀ (n : Nat) (v_end_13 : Int32), zloop (fun s => f1_isMet_L2 o_ v_state μ s) n v_end_13 = some r26 → zZ zK1 X (zT0 Sh top) μ 85 [(0, .ref o_), (1, .ref v_state), (2, .int v_end_13)] [] := by
      intro n
      induction n with
      | zero => intro v_end_13 hl25; cases hl25
      | succ n ih28 =>
        intro v_end_13 hl25
        obtain ⟨y, e24, hl25⟩ := zloop_inv hl25
        replace e24 : f1_isMet_L2 o_ v_state μ v_end_13 = some y := e24
        unfold f1_isMet_L2 at e24
        refine z_iload_n fx (k := 2) (i := 2) rfl rfl d1_isMet_85 ?_
        refine z_iconst fx (v := 2) ic2 d1_isMet_86 ?_
        refine z_aload_n fx (k := 1) (i := 1) rfl rfl d1_isMet_87 ?_
        obtain ⟨w15, e29, e24⟩ := zinv e24
        refine z_getR fx 8 12 812 17 h_state lf1_41 ⟨fk8_12, rfl⟩ e29 d1_isMet_88 (fun tw15 => ?_)
        refine z_getI fx 10 16 1016 tw15 lf1_60 ⟨fk10_16, rfl⟩ d1_isMet_91 ?_
        refine z_imul fx d1_isMet_94 ?_
        refine z_icmp_ge fx d1_isMet_95 (fun c30 => ?_) (fun c30 => ?_)
        · replace e24 := zif_f c30 e24
          cases e24
          exact kx27 _ (Eq.symm hl25)
        · replace e24 := zif_t c30 e24
          refine z_aload_n fx (k := 1) (i := 1) rfl rfl d1_isMet_98 ?_
          refine z_getO fx 8 1 2 h_state lf1_140 fk8_1 d1_isMet_99 ?_
          refine z_iload_n fx (k := 2) (i := 2) rfl rfl d1_isMet_102 ?_
          obtain ⟨j16, e31, e24⟩ := zinv e24
          refine z_aald fx 1 (by decide) (ok8_1 hO h_state) e31 (v := .ref (v_state + 37 + 2 * j16)) rfl d1_isMet_103 ?_
          refine z_astore_n fx (k := 3) (i := 3) rfl rfl (lv' := [(0, .ref o_), (1, .ref v_state), (2, .int v_end_13), (3, .ref (v_state + 37 + 2 * j16))]) rfl rfl d1_isMet_104 ?_
          obtain ⟨b17, e33, e24⟩ := zinv e24
          have kt32 : b17 = true → zZ zK1 X (zT0 Sh top) μ 137 [(0, .ref o_), (1, .ref v_state), (2, .int v_end_13), (3, .ref (v_state + 37 + 2 * j16))] [] := by
            intro hc
            replace e24 := zif_t hc e24
            refine z_iconst fx (v := 0) ic0 d1_isMet_137 ?_
            refine z_top (show Value.int 0 = .int (bI false) from rfl) ?_
            cases e24
            cases hl25
            cases h
            exact z_zreturn fx fin d1_isMet_138
          have kf32 : b17 = false → zZ zK1 X (zT0 Sh top) μ 139 [(0, .ref o_), (1, .ref v_state), (2, .int v_end_13), (3, .ref (v_state + 37 + 2 * j16))] [] := by
            intro hc
            replace e24 := zif_f hc e24
            refine z_take 3 (lv' := [(0, .ref o_), (1, .ref v_state), (2, .int v_end_13)]) rfl ?_
            obtain ⟨v_end_18, e34, e24⟩ := zinv e24
            replace e34 := Option.some.inj e34
            refine z_iinc fx (i := 2) (x := v_end_13) (v := v_end_18) rfl (by rw [in1]; exact e34) rfl (lv' := [(0, .ref o_), (1, .ref v_state), (2, .int v_end_18)]) rfl rfl d1_isMet_139 ?_
            cases e24
            refine z_goto fx d1_isMet_142 ?_
            exact ih28 _ hl25
          clear e24
          obtain ⟨b19, e35, e33⟩ := zinv e33
          have kf36 : b19 = false → zZ zK1 X (zT0 Sh top) μ 118 [(0, .ref o_), (1, .ref v_state), (2, .int v_end_13), (3, .ref (v_state + 37 + 2 * j16))] [] := by
            intro hc
            replace e33 := zif_f hc e33
            refine z_aload_n fx (k := 3) (i := 3) rfl rfl d1_isMet_118 ?_
            refine z_getI fx 4 6 406 (okA1 hO (ok8_1 hO h_state) (rI_lt e31)) lf1_147 ⟨fk4_6, rfl⟩ d1_isMet_119 ?_
            obtain ⟨x20, e37, e33⟩ := zinv e33
            have k38 : zZ zK1 X (zT0 Sh top) μ 134 [(0, .ref o_), (1, .ref v_state), (2, .int v_end_13), (3, .ref (v_state + 37 + 2 * j16))] [.int x20, .int (gF μ 406 (v_state + 37 + 2 * j16))] := by
              cases e33
              refine z_icmp_eq fx d1_isMet_134 (fun c41 => ?_) (fun c41 => ?_)
              · exact kf32 (by rw [c41]; rfl)
              · exact kt32 (by rw [c41]; rfl)
            refine z_aload_n fx (k := 3) (i := 3) rfl rfl d1_isMet_122 ?_
            obtain ⟨t21, e39, e37⟩ := zinv e37
            refine z_cVr fx (c4_isInUse (zLo X) (zDo X) Sh top hO (v_state + 37 + 2 * j16) μ _ (okA1 hO (ok8_1 hO h_state) (rI_lt e31)) e39) mv4_isInUse ml1_150 (okA1 hO (ok8_1 hO h_state) (rI_lt e31)) rfl rfl rfl rfl d1_isMet_123 ?_
            refine z_ifb_eq fx d1_isMet_126 (fun c40 => ?_) (fun c40 => ?_)
            · replace e37 := zif_f c40 e37
              refine z_iconst fx (v := 0) ic0 d1_isMet_133 ?_
              cases e37
              exact k38
            · replace e37 := zif_t c40 e37
              refine z_iconst fx (v := 2) ic2 d1_isMet_129 ?_
              cases e37
              refine z_goto fx d1_isMet_130 ?_
              exact k38
          have kt36 : b19 = true → zZ zK1 X (zT0 Sh top) μ 137 [(0, .ref o_), (1, .ref v_state), (2, .int v_end_13), (3, .ref (v_state + 37 + 2 * j16))] [] := by
            intro hc
            replace e33 := zif_t hc e33
            cases e33
            exact kt32 rfl
          clear e33
          refine z_aload_n fx (k := 3) (i := 3) rfl rfl d1_isMet_105 ?_
          refine z_getI fx 4 4 404 (okA1 hO (ok8_1 hO h_state) (rI_lt e31)) lf1_143 ⟨fk4_4, rfl⟩ d1_isMet_106 ?_
          refine z_aload_n fx (k := 0) (i := 0) rfl rfl d1_isMet_109 ?_
          refine z_getO fx 1 4 5 ho lf1_24 fk1_4 d1_isMet_110 ?_
          refine z_iload_n fx (k := 2) (i := 2) rfl rfl d1_isMet_113 ?_
          obtain ⟨t22, e42, e35⟩ := zinv e35
          refine z_iald fx (ok1_4 hO ho) e42 d1_isMet_114 ?_
          cases e35
          refine z_icmp_ne fx d1_isMet_115 (fun c43 => ?_) (fun c43 => ?_)
          · exact kt36 (by rw [c43]; rfl)
          · exact kf36 (by rw [c43]; rfl)
    exact klr26 _ _ e44
  have klr3 : ∀ (n : Nat) (v_b_1 : Int32), zloop (fun s => f1_isMet_L1 o_ v_state μ s) n v_b_1 = some r3 → zZ zK1 X (zT0 Sh top) μ 2 [(0, .ref o_), (1, .ref v_state), (2, .int v_b_1)] [] := by
    intro n
    induction n with
    | zero => intro v_b_1 hl2; cases hl2
    | succ n ih5 =>
      intro v_b_1 hl2
      obtain ⟨y, e1, hl2⟩ := zloop_inv hl2
      replace e1 : f1_isMet_L1 o_ v_state μ v_b_1 = some y := e1
      unfold f1_isMet_L1 at e1
      refine z_iload_n fx (k := 2) (i := 2) rfl rfl d1_isMet_2 ?_
      refine z_aload_n fx (k := 1) (i := 1) rfl rfl d1_isMet_3 ?_
      obtain ⟨w3, e6, e1⟩ := zinv e1
      refine z_getR fx 8 12 812 17 h_state lf1_41 ⟨fk8_12, rfl⟩ e6 d1_isMet_4 (fun tw3 => ?_)
      refine z_getI fx 10 15 1015 tw3 lf1_47 ⟨fk10_15, rfl⟩ d1_isMet_7 ?_
      refine z_icmp_ge fx d1_isMet_10 (fun c7 => ?_) (fun c7 => ?_)
      · replace e1 := zif_f c7 e1
        cases e1
        exact kx4 _ (Eq.symm hl2)
      · replace e1 := zif_t c7 e1
        refine z_aload_n fx (k := 1) (i := 1) rfl rfl d1_isMet_13 ?_
        refine z_getO fx 8 0 1 h_state lf1_74 fk8_0 d1_isMet_14 ?_
        refine z_iload_n fx (k := 2) (i := 2) rfl rfl d1_isMet_17 ?_
        obtain ⟨j4, e8, e1⟩ := zinv e1
        refine z_aald fx 0 (by decide) (ok8_0 hO h_state) e8 (v := .ref (v_state + 13 + 3 * j4)) rfl d1_isMet_18 ?_
        refine z_astore_n fx (k := 3) (i := 3) rfl rfl (lv' := [(0, .ref o_), (1, .ref v_state), (2, .int v_b_1), (3, .ref (v_state + 13 + 3 * j4))]) rfl rfl d1_isMet_19 ?_
        refine z_aload_n fx (k := 3) (i := 3) rfl rfl d1_isMet_20 ?_
        refine z_getB fx 0 3 3 (okA0 hO (ok8_0 hO h_state) (rI_lt e8)) lf1_77 ⟨fk0_3, rfl⟩ d1_isMet_21 ?_
        refine z_ifb_ne fx d1_isMet_24 (fun c9 => ?_) (fun c9 => ?_)
        · replace e1 := zif_t c9 e1
          obtain ⟨b5, e11, e1⟩ := zinv e1
          have kt10 : b5 = true → zZ zK1 X (zT0 Sh top) μ 75 [(0, .ref o_), (1, .ref v_state), (2, .int v_b_1), (3, .ref (v_state + 13 + 3 * j4))] [] := by
            intro hc
            replace e1 := zif_t hc e1
            refine z_iconst fx (v := 0) ic0 d1_isMet_75 ?_
            refine z_top (show Value.int 0 = .int (bI false) from rfl) ?_
            cases e1
            cases hl2
            cases h
            exact z_zreturn fx fin d1_isMet_76
          have kf10 : b5 = false → zZ zK1 X (zT0 Sh top) μ 77 [(0, .ref o_), (1, .ref v_state), (2, .int v_b_1), (3, .ref (v_state + 13 + 3 * j4))] [] := by
            intro hc
            replace e1 := zif_f hc e1
            refine z_take 3 (lv' := [(0, .ref o_), (1, .ref v_state), (2, .int v_b_1)]) rfl ?_
            obtain ⟨v_b_6, e12, e1⟩ := zinv e1
            replace e12 := Option.some.inj e12
            refine z_iinc fx (i := 2) (x := v_b_1) (v := v_b_6) rfl (by rw [in1]; exact e12) rfl (lv' := [(0, .ref o_), (1, .ref v_state), (2, .int v_b_6)]) rfl rfl d1_isMet_77 ?_
            cases e1
            refine z_goto fx d1_isMet_80 ?_
            exact ih5 _ hl2
          clear e1
          obtain ⟨b7, e13, e11⟩ := zinv e11
          have kf14 : b7 = false → zZ zK1 X (zT0 Sh top) μ 62 [(0, .ref o_), (1, .ref v_state), (2, .int v_b_1), (3, .ref (v_state + 13 + 3 * j4))] [] := by
            intro hc
            replace e11 := zif_f hc e11
            refine z_aload_n fx (k := 3) (i := 3) rfl rfl d1_isMet_62 ?_
            refine z_getI fx 0 7 7 (okA0 hO (ok8_0 hO h_state) (rI_lt e8)) lf1_138 ⟨fk0_7, rfl⟩ d1_isMet_63 ?_
            refine z_aload_n fx (k := 0) (i := 0) rfl rfl d1_isMet_66 ?_
            refine z_getO fx 1 3 4 ho lf1_21 fk1_3 d1_isMet_67 ?_
            refine z_iload_n fx (k := 2) (i := 2) rfl rfl d1_isMet_70 ?_
            obtain ⟨t8, e15, e11⟩ := zinv e11
            refine z_iald fx (ok1_3 hO ho) e15 d1_isMet_71 ?_
            cases e11
            refine z_icmp_eq fx d1_isMet_72 (fun c16 => ?_) (fun c16 => ?_)
            · exact kf10 (by rw [c16]; rfl)
            · exact kt10 (by rw [c16]; rfl)
          have kt14 : b7 = true → zZ zK1 X (zT0 Sh top) μ 75 [(0, .ref o_), (1, .ref v_state), (2, .int v_b_1), (3, .ref (v_state + 13 + 3 * j4))] [] := by
            intro hc
            replace e11 := zif_t hc e11
            cases e11
            exact kt10 rfl
          clear e11
          obtain ⟨b9, e17, e13⟩ := zinv e13
          have kf18 : b9 = false → zZ zK1 X (zT0 Sh top) μ 46 [(0, .ref o_), (1, .ref v_state), (2, .int v_b_1), (3, .ref (v_state + 13 + 3 * j4))] [] := by
            intro hc
            replace e13 := zif_f hc e13
            refine z_aload_n fx (k := 3) (i := 3) rfl rfl d1_isMet_46 ?_
            refine z_getO fx 0 1 1 (okA0 hO (ok8_0 hO h_state) (rI_lt e8)) lf1_135 fk0_1 d1_isMet_47 ?_
            refine z_getI fx 9 1 901 (ok0_1 hO (okA0 hO (ok8_0 hO h_state) (rI_lt e8))) lf1_115 ⟨fk9_1, rfl⟩ d1_isMet_50 ?_
            refine z_aload_n fx (k := 0) (i := 0) rfl rfl d1_isMet_53 ?_
            refine z_getO fx 1 2 3 ho lf1_18 fk1_2 d1_isMet_54 ?_
            refine z_iload_n fx (k := 2) (i := 2) rfl rfl d1_isMet_57 ?_
            obtain ⟨t10, e19, e13⟩ := zinv e13
            refine z_iald fx (ok1_2 hO ho) e19 d1_isMet_58 ?_
            cases e13
            refine z_icmp_ne fx d1_isMet_59 (fun c20 => ?_) (fun c20 => ?_)
            · exact kt14 (by rw [c20]; rfl)
            · exact kf14 (by rw [c20]; rfl)
          have kt18 : b9 = true → zZ zK1 X (zT0 Sh top) μ 75 [(0, .ref o_), (1, .ref v_state), (2, .int v_b_1), (3, .ref (v_state + 13 + 3 * j4))] [] := by
            intro hc
            replace e13 := zif_t hc e13
            cases e13
            exact kt14 rfl
          clear e13
          refine z_aload_n fx (k := 3) (i := 3) rfl rfl d1_isMet_30 ?_
          refine z_getO fx 0 1 1 (okA0 hO (ok8_0 hO h_state) (rI_lt e8)) lf1_135 fk0_1 d1_isMet_31 ?_
          refine z_getI fx 9 0 900 (ok0_1 hO (okA0 hO (ok8_0 hO h_state) (rI_lt e8))) lf1_125 ⟨fk9_0, rfl⟩ d1_isMet_34 ?_
          refine z_aload_n fx (k := 0) (i := 0) rfl rfl d1_isMet_37 ?_
          refine z_getO fx 1 1 2 ho lf1_15 fk1_1 d1_isMet_38 ?_
          refine z_iload_n fx (k := 2) (i := 2) rfl rfl d1_isMet_41 ?_
          obtain ⟨t11, e21, e17⟩ := zinv e17
          refine z_iald fx (ok1_1 hO ho) e21 d1_isMet_42 ?_
          cases e17
          refine z_icmp_ne fx d1_isMet_43 (fun c22 => ?_) (fun c22 => ?_)
          · exact kt18 (by rw [c22]; rfl)
          · exact kf18 (by rw [c22]; rfl)
        · replace e1 := zif_f c9 e1
          refine z_take 3 (lv' := [(0, .ref o_), (1, .ref v_state), (2, .int v_b_1)]) rfl ?_
          refine z_goto fx d1_isMet_27 ?_
          obtain ⟨v_b_12, e23, e1⟩ := zinv e1
          replace e23 := Option.some.inj e23
          refine z_iinc fx (i := 2) (x := v_b_1) (v := v_b_12) rfl (by rw [in1]; exact e23) rfl (lv' := [(0, .ref o_), (1, .ref v_state), (2, .int v_b_12)]) rfl rfl d1_isMet_77 ?_
          cases e1
          refine z_goto fx d1_isMet_80 ?_
          exact ih5 _ hl2
  exact klr3 _ _ e45
theorem d11_rests_0 : zd cX11_rests 0 (.aload_n 0) 1 1 := by decide +kernel
theorem d11_rests_1 : zd cX11_rests 1 (.getfield 22) 3 4 := by decide +kernel
theorem d11_rests_4 : zd cX11_rests 4 (.aload_n 0) 1 5 := by decide +kernel
theorem d11_rests_5 : zd cX11_rests 5 (.getfield 75) 3 8 := by decide +kernel
theorem d11_rests_8 : zd cX11_rests 8 (.invokevirtual 283) 3 11 := by decide +kernel
theorem d11_rests_11 : zd cX11_rests 11 (.aload_n 0) 1 12 := by decide +kernel
theorem d11_rests_12 : zd cX11_rests 12 (.getfield 22) 3 15 := by decide +kernel
theorem d11_rests_15 : zd cX11_rests 15 (.aload_n 0) 1 16 := by decide +kernel
theorem d11_rests_16 : zd cX11_rests 16 (.getfield 75) 3 19 := by decide +kernel
theorem d11_rests_19 : zd cX11_rests 19 (.invokevirtual 296) 3 22 := by decide +kernel
theorem d11_rests_22 : zd cX11_rests 22 (.ireturn) 1 23 := by decide +kernel
set_option maxHeartbeats 4000000 in
set_option maxRecDepth 20000 in
theorem c11_rests (l : Launch) (D : zDt) (Sh : zSh) (top : Nat) (hO : zOK Sh) (o_ : Nat) (μ : zM) (r_ : Bool) (μ_ : zM) (ho : (Sh o_).1 = 18) (h : f11_rests o_ μ = some (r_, μ_)) : zMet l D zK1 yX11_rests cX11_rests 1 (some .boolean) (zrm 4 90) [.ref o_] Sh top μ (some (.int (bI r_))) Sh top μ_ 0 0 := by
  refine zMet_of (by decide) (Nat.le_of_ble_eq_true rfl) fun X hX1 hX2 fx fin => ?_
  subst hX1; subst hX2
  replace fx : zFix X cX11_rests RX11 (zrm 4 90) 1 := fx
  show zZ zK1 X (zT0 Sh top) μ 0 [(0, .ref o_)] []
  unfold f11_rests at h
  refine z_aload_n fx (k := 0) (i := 0) rfl rfl d11_rests_0 ?_
  refine z_getO fx 11 5 3 ho lf11_22 fk11_5 d11_rests_1 ?_
  refine z_aload_n fx (k := 0) (i := 0) rfl rfl d11_rests_4 ?_
  refine z_getO fx 11 3 51 ho lf11_75 fk11_3 d11_rests_5 ?_
  obtain ⟨μ1, e1, h⟩ := zinv h
  refine z_cVv fx (c1_find (zLo X) (zDo X) Sh top hO (o_ + 3) (o_ + 51) μ _ (ok11_5 hO ho) (ok11_3 hO ho) e1) mv1_find ml11_283 (ok11_5 hO ho) rfl rfl rfl rfl d11_rests_8 ?_
  refine z_aload_n fx (k := 0) (i := 0) rfl rfl d11_rests_11 ?_
  refine z_getO fx 11 5 3 ho lf11_22 fk11_5 d11_rests_12 ?_
  refine z_aload_n fx (k := 0) (i := 0) rfl rfl d11_rests_15 ?_
  refine z_getO fx 11 3 51 ho lf11_75 fk11_3 d11_rests_16 ?_
  obtain ⟨t2, e2, h⟩ := zinv h
  refine z_cVr fx (c1_isMet (zLo X) (zDo X) Sh top hO (o_ + 3) (o_ + 51) μ1 _ (ok11_5 hO ho) (ok11_3 hO ho) e2) mv1_isMet ml11_296 (ok11_5 hO ho) rfl rfl rfl rfl d11_rests_19 ?_
  cases h
  exact z_zreturn fx fin d11_rests_22
theorem d0_copyFrom_0 : zd cX0_copyFrom 0 (.aload_n 0) 1 1 := by decide +kernel
theorem d0_copyFrom_1 : zd cX0_copyFrom 1 (.getfield 12) 3 4 := by decide +kernel
theorem d0_copyFrom_4 : zd cX0_copyFrom 4 (.aload_n 1) 1 5 := by decide +kernel
theorem d0_copyFrom_5 : zd cX0_copyFrom 5 (.getfield 12) 3 8 := by decide +kernel
theorem d0_copyFrom_8 : zd cX0_copyFrom 8 (.invokevirtual 46) 3 11 := by decide +kernel
theorem d0_copyFrom_11 : zd cX0_copyFrom 11 (.aload_n 0) 1 12 := by decide +kernel
theorem d0_copyFrom_12 : zd cX0_copyFrom 12 (.getfield 18) 3 15 := by decide +kernel
theorem d0_copyFrom_15 : zd cX0_copyFrom 15 (.aload_n 1) 1 16 := by decide +kernel
theorem d0_copyFrom_16 : zd cX0_copyFrom 16 (.getfield 18) 3 19 := by decide +kernel
theorem d0_copyFrom_19 : zd cX0_copyFrom 19 (.invokevirtual 46) 3 22 := by decide +kernel
theorem d0_copyFrom_22 : zd cX0_copyFrom 22 (.aload_n 0) 1 23 := by decide +kernel
theorem d0_copyFrom_23 : zd cX0_copyFrom 23 (.aload_n 1) 1 24 := by decide +kernel
theorem d0_copyFrom_24 : zd cX0_copyFrom 24 (.getfield 50) 3 27 := by decide +kernel
theorem d0_copyFrom_27 : zd cX0_copyFrom 27 (.putfield 50) 3 30 := by decide +kernel
theorem d0_copyFrom_30 : zd cX0_copyFrom 30 (.aload_n 0) 1 31 := by decide +kernel
theorem d0_copyFrom_31 : zd cX0_copyFrom 31 (.aload_n 1) 1 32 := by decide +kernel
theorem d0_copyFrom_32 : zd cX0_copyFrom 32 (.getfield 54) 3 35 := by decide +kernel
theorem d0_copyFrom_35 : zd cX0_copyFrom 35 (.putfield 54) 3 38 := by decide +kernel
theorem d0_copyFrom_38 : zd cX0_copyFrom 38 (.aload_n 0) 1 39 := by decide +kernel
theorem d0_copyFrom_39 : zd cX0_copyFrom 39 (.aload_n 1) 1 40 := by decide +kernel
theorem d0_copyFrom_40 : zd cX0_copyFrom 40 (.getfield 25) 3 43 := by decide +kernel
theorem d0_copyFrom_43 : zd cX0_copyFrom 43 (.putfield 25) 3 46 := by decide +kernel
theorem d0_copyFrom_46 : zd cX0_copyFrom 46 (.aload_n 0) 1 47 := by decide +kernel
theorem d0_copyFrom_47 : zd cX0_copyFrom 47 (.aload_n 1) 1 48 := by decide +kernel
theorem d0_copyFrom_48 : zd cX0_copyFrom 48 (.getfield 40) 3 51 := by decide +kernel
theorem d0_copyFrom_51 : zd cX0_copyFrom 51 (.putfield 40) 3 54 := by decide +kernel
theorem d0_copyFrom_54 : zd cX0_copyFrom 54 (.aload_n 0) 1 55 := by decide +kernel
theorem d0_copyFrom_55 : zd cX0_copyFrom 55 (.aload_n 1) 1 56 := by decide +kernel
theorem d0_copyFrom_56 : zd cX0_copyFrom 56 (.getfield 43) 3 59 := by decide +kernel
theorem d0_copyFrom_59 : zd cX0_copyFrom 59 (.putfield 43) 3 62 := by decide +kernel
theorem d0_copyFrom_62 : zd cX0_copyFrom 62 (.aload_n 0) 1 63 := by decide +kernel
theorem d0_copyFrom_63 : zd cX0_copyFrom 63 (.aload_n 1) 1 64 := by decide +kernel
theorem d0_copyFrom_64 : zd cX0_copyFrom 64 (.getfield 57) 3 67 := by decide +kernel
theorem d0_copyFrom_67 : zd cX0_copyFrom 67 (.putfield 57) 3 70 := by decide +kernel
theorem d0_copyFrom_70 : zd cX0_copyFrom 70 (.return_) 1 71 := by decide +kernel
set_option maxHeartbeats 4000000 in
set_option maxRecDepth 20000 in
theorem c0_copyFrom (l : Launch) (D : zDt) (Sh : zSh) (top : Nat) (hO : zOK Sh) (o_ : Nat) (v_other : Nat) (μ : zM) (μ_ : zM) (ho : (Sh o_).1 = 7) (h_other : (Sh v_other).1 = 7) (h : f0_copyFrom o_ v_other μ = some μ_) : zMet l D zK1 yX0_copyFrom cX0_copyFrom 2 none (zrm 1 21) [.ref o_, .ref v_other] Sh top μ none Sh top μ_ 0 0 := by
  refine zMet_of (by decide) (Nat.le_of_ble_eq_true rfl) fun X hX1 hX2 fx fin => ?_
  subst hX1; subst hX2
  replace fx : zFix X cX0_copyFrom RX0 (zrm 1 21) 2 := fx
  show zZ zK1 X (zT0 Sh top) μ 0 [(0, .ref o_), (1, .ref v_other)] []
  unfold f0_copyFrom at h
  refine z_aload_n fx (k := 0) (i := 0) rfl rfl d0_copyFrom_0 ?_
  refine z_getO fx 0 1 1 ho lf0_12 fk0_1 d0_copyFrom_1 ?_
  refine z_aload_n fx (k := 1) (i := 1) rfl rfl d0_copyFrom_4 ?_
  refine z_getO fx 0 1 1 h_other lf0_12 fk0_1 d0_copyFrom_5 ?_
  obtain ⟨μ1, e1, h⟩ := zinv h
  refine z_cVv fx (c9_copyFrom (zLo X) (zDo X) Sh top hO (o_ + 1) (v_other + 1) μ _ (ok0_1 hO ho) (ok0_1 hO h_other) e1) mv9_copyFrom ml0_46 (ok0_1 hO ho) rfl rfl rfl rfl d0_copyFrom_8 ?_
  refine z_aload_n fx (k := 0) (i := 0) rfl rfl d0_copyFrom_11 ?_
  refine z_getO fx 0 2 2 ho lf0_18 fk0_2 d0_copyFrom_12 ?_
  refine z_aload_n fx (k := 1) (i := 1) rfl rfl d0_copyFrom_15 ?_
  refine z_getO fx 0 2 2 h_other lf0_18 fk0_2 d0_copyFrom_16 ?_
  obtain ⟨μ2, e2, h⟩ := zinv h
  refine z_cVv fx (c9_copyFrom (zLo X) (zDo X) Sh top hO (o_ + 2) (v_other + 2) μ1 _ (ok0_2 hO ho) (ok0_2 hO h_other) e2) mv9_copyFrom ml0_46 (ok0_2 hO ho) rfl rfl rfl rfl d0_copyFrom_19 ?_
  refine z_aload_n fx (k := 0) (i := 0) rfl rfl d0_copyFrom_22 ?_
  refine z_aload_n fx (k := 1) (i := 1) rfl rfl d0_copyFrom_23 ?_
  refine z_getB fx 0 3 3 h_other lf0_50 ⟨fk0_3, rfl⟩ d0_copyFrom_24 ?_
  obtain ⟨μ3, e3, h⟩ := zinv h
  refine z_putB fx (ci := 0) 3 ho lf0_50 fp0_3 e3 d0_copyFrom_27 ?_
  refine z_aload_n fx (k := 0) (i := 0) rfl rfl d0_copyFrom_30 ?_
  refine z_aload_n fx (k := 1) (i := 1) rfl rfl d0_copyFrom_31 ?_
  refine z_getB fx 0 4 4 h_other lf0_54 ⟨fk0_4, rfl⟩ d0_copyFrom_32 ?_
  obtain ⟨μ4, e4, h⟩ := zinv h
  refine z_putB fx (ci := 0) 4 ho lf0_54 fp0_4 e4 d0_copyFrom_35 ?_
  refine z_aload_n fx (k := 0) (i := 0) rfl rfl d0_copyFrom_38 ?_
  refine z_aload_n fx (k := 1) (i := 1) rfl rfl d0_copyFrom_39 ?_
  refine z_getI fx 0 5 5 h_other lf0_25 ⟨fk0_5, rfl⟩ d0_copyFrom_40 ?_
  obtain ⟨μ5, e5, h⟩ := zinv h
  refine z_putI fx (ci := 0) 5 ho lf0_25 fp0_5 e5 d0_copyFrom_43 ?_
  refine z_aload_n fx (k := 0) (i := 0) rfl rfl d0_copyFrom_46 ?_
  refine z_aload_n fx (k := 1) (i := 1) rfl rfl d0_copyFrom_47 ?_
  refine z_getI fx 0 6 6 h_other lf0_40 ⟨fk0_6, rfl⟩ d0_copyFrom_48 ?_
  obtain ⟨μ6, e6, h⟩ := zinv h
  refine z_putI fx (ci := 0) 6 ho lf0_40 fp0_6 e6 d0_copyFrom_51 ?_
  refine z_aload_n fx (k := 0) (i := 0) rfl rfl d0_copyFrom_54 ?_
  refine z_aload_n fx (k := 1) (i := 1) rfl rfl d0_copyFrom_55 ?_
  refine z_getI fx 0 7 7 h_other lf0_43 ⟨fk0_7, rfl⟩ d0_copyFrom_56 ?_
  obtain ⟨μ7, e7, h⟩ := zinv h
  refine z_putI fx (ci := 0) 7 ho lf0_43 fp0_7 e7 d0_copyFrom_59 ?_
  refine z_aload_n fx (k := 0) (i := 0) rfl rfl d0_copyFrom_62 ?_
  refine z_aload_n fx (k := 1) (i := 1) rfl rfl d0_copyFrom_63 ?_
  refine z_getI fx 0 8 8 h_other lf0_57 ⟨fk0_8, rfl⟩ d0_copyFrom_64 ?_
  obtain ⟨μ8, e8, h⟩ := zinv h
  refine z_putI fx (ci := 0) 8 ho lf0_57 fp0_8 e8 d0_copyFrom_67 ?_
  cases h
  exact z_return fx fin d0_copyFrom_70
theorem d4_copyFrom_0 : zd cX4_copyFrom 0 (.aload_n 0) 1 1 := by decide +kernel
theorem d4_copyFrom_1 : zd cX4_copyFrom 1 (.getfield 12) 3 4 := by decide +kernel
theorem d4_copyFrom_4 : zd cX4_copyFrom 4 (.aload_n 1) 1 5 := by decide +kernel
theorem d4_copyFrom_5 : zd cX4_copyFrom 5 (.getfield 12) 3 8 := by decide +kernel
theorem d4_copyFrom_8 : zd cX4_copyFrom 8 (.invokevirtual 62) 3 11 := by decide +kernel
theorem d4_copyFrom_11 : zd cX4_copyFrom 11 (.aload_n 0) 1 12 := by decide +kernel
theorem d4_copyFrom_12 : zd cX4_copyFrom 12 (.aload_n 1) 1 13 := by decide +kernel
theorem d4_copyFrom_13 : zd cX4_copyFrom 13 (.getfield 18) 3 16 := by decide +kernel
theorem d4_copyFrom_16 : zd cX4_copyFrom 16 (.putfield 18) 3 19 := by decide +kernel
theorem d4_copyFrom_19 : zd cX4_copyFrom 19 (.aload_n 0) 1 20 := by decide +kernel
theorem d4_copyFrom_20 : zd cX4_copyFrom 20 (.aload_n 1) 1 21 := by decide +kernel
theorem d4_copyFrom_21 : zd cX4_copyFrom 21 (.getfield 22) 3 24 := by decide +kernel
theorem d4_copyFrom_24 : zd cX4_copyFrom 24 (.putfield 22) 3 27 := by decide +kernel
theorem d4_copyFrom_27 : zd cX4_copyFrom 27 (.aload_n 0) 1 28 := by decide +kernel
theorem d4_copyFrom_28 : zd cX4_copyFrom 28 (.aload_n 1) 1 29 := by decide +kernel
theorem d4_copyFrom_29 : zd cX4_copyFrom 29 (.getfield 26) 3 32 := by decide +kernel
theorem d4_copyFrom_32 : zd cX4_copyFrom 32 (.putfield 26) 3 35 := by decide +kernel
theorem d4_copyFrom_35 : zd cX4_copyFrom 35 (.aload_n 0) 1 36 := by decide +kernel
theorem d4_copyFrom_36 : zd cX4_copyFrom 36 (.aload_n 1) 1 37 := by decide +kernel
theorem d4_copyFrom_37 : zd cX4_copyFrom 37 (.getfield 29) 3 40 := by decide +kernel
theorem d4_copyFrom_40 : zd cX4_copyFrom 40 (.putfield 29) 3 43 := by decide +kernel
theorem d4_copyFrom_43 : zd cX4_copyFrom 43 (.aload_n 0) 1 44 := by decide +kernel
theorem d4_copyFrom_44 : zd cX4_copyFrom 44 (.aload_n 1) 1 45 := by decide +kernel
theorem d4_copyFrom_45 : zd cX4_copyFrom 45 (.getfield 32) 3 48 := by decide +kernel
theorem d4_copyFrom_48 : zd cX4_copyFrom 48 (.putfield 32) 3 51 := by decide +kernel
theorem d4_copyFrom_51 : zd cX4_copyFrom 51 (.aload_n 0) 1 52 := by decide +kernel
theorem d4_copyFrom_52 : zd cX4_copyFrom 52 (.aload_n 1) 1 53 := by decide +kernel
theorem d4_copyFrom_53 : zd cX4_copyFrom 53 (.getfield 35) 3 56 := by decide +kernel
theorem d4_copyFrom_56 : zd cX4_copyFrom 56 (.putfield 35) 3 59 := by decide +kernel
theorem d4_copyFrom_59 : zd cX4_copyFrom 59 (.aload_n 0) 1 60 := by decide +kernel
theorem d4_copyFrom_60 : zd cX4_copyFrom 60 (.aload_n 1) 1 61 := by decide +kernel
theorem d4_copyFrom_61 : zd cX4_copyFrom 61 (.getfield 38) 3 64 := by decide +kernel
theorem d4_copyFrom_64 : zd cX4_copyFrom 64 (.putfield 38) 3 67 := by decide +kernel
theorem d4_copyFrom_67 : zd cX4_copyFrom 67 (.aload_n 0) 1 68 := by decide +kernel
theorem d4_copyFrom_68 : zd cX4_copyFrom 68 (.aload_n 1) 1 69 := by decide +kernel
theorem d4_copyFrom_69 : zd cX4_copyFrom 69 (.getfield 41) 3 72 := by decide +kernel
theorem d4_copyFrom_72 : zd cX4_copyFrom 72 (.putfield 41) 3 75 := by decide +kernel
theorem d4_copyFrom_75 : zd cX4_copyFrom 75 (.aload_n 0) 1 76 := by decide +kernel
theorem d4_copyFrom_76 : zd cX4_copyFrom 76 (.aload_n 1) 1 77 := by decide +kernel
theorem d4_copyFrom_77 : zd cX4_copyFrom 77 (.getfield 44) 3 80 := by decide +kernel
theorem d4_copyFrom_80 : zd cX4_copyFrom 80 (.putfield 44) 3 83 := by decide +kernel
theorem d4_copyFrom_83 : zd cX4_copyFrom 83 (.aload_n 0) 1 84 := by decide +kernel
theorem d4_copyFrom_84 : zd cX4_copyFrom 84 (.aload_n 1) 1 85 := by decide +kernel
theorem d4_copyFrom_85 : zd cX4_copyFrom 85 (.getfield 47) 3 88 := by decide +kernel
theorem d4_copyFrom_88 : zd cX4_copyFrom 88 (.putfield 47) 3 91 := by decide +kernel
theorem d4_copyFrom_91 : zd cX4_copyFrom 91 (.aload_n 0) 1 92 := by decide +kernel
theorem d4_copyFrom_92 : zd cX4_copyFrom 92 (.aload_n 1) 1 93 := by decide +kernel
theorem d4_copyFrom_93 : zd cX4_copyFrom 93 (.getfield 50) 3 96 := by decide +kernel
theorem d4_copyFrom_96 : zd cX4_copyFrom 96 (.putfield 50) 3 99 := by decide +kernel
theorem d4_copyFrom_99 : zd cX4_copyFrom 99 (.aload_n 0) 1 100 := by decide +kernel
theorem d4_copyFrom_100 : zd cX4_copyFrom 100 (.aload_n 1) 1 101 := by decide +kernel
theorem d4_copyFrom_101 : zd cX4_copyFrom 101 (.getfield 53) 3 104 := by decide +kernel
theorem d4_copyFrom_104 : zd cX4_copyFrom 104 (.putfield 53) 3 107 := by decide +kernel
theorem d4_copyFrom_107 : zd cX4_copyFrom 107 (.aload_n 0) 1 108 := by decide +kernel
theorem d4_copyFrom_108 : zd cX4_copyFrom 108 (.aload_n 1) 1 109 := by decide +kernel
theorem d4_copyFrom_109 : zd cX4_copyFrom 109 (.getfield 56) 3 112 := by decide +kernel
theorem d4_copyFrom_112 : zd cX4_copyFrom 112 (.putfield 56) 3 115 := by decide +kernel
theorem d4_copyFrom_115 : zd cX4_copyFrom 115 (.aload_n 0) 1 116 := by decide +kernel
theorem d4_copyFrom_116 : zd cX4_copyFrom 116 (.aload_n 1) 1 117 := by decide +kernel
theorem d4_copyFrom_117 : zd cX4_copyFrom 117 (.getfield 59) 3 120 := by decide +kernel
theorem d4_copyFrom_120 : zd cX4_copyFrom 120 (.putfield 59) 3 123 := by decide +kernel
theorem d4_copyFrom_123 : zd cX4_copyFrom 123 (.return_) 1 124 := by decide +kernel
set_option maxHeartbeats 4000000 in
set_option maxRecDepth 20000 in
theorem c4_copyFrom (l : Launch) (D : zDt) (Sh : zSh) (top : Nat) (hO : zOK Sh) (o_ : Nat) (v_other : Nat) (μ : zM) (μ_ : zM) (ho : (Sh o_).1 = 11) (h_other : (Sh v_other).1 = 11) (h : f4_copyFrom o_ v_other μ = some μ_) : zMet l D zK1 yX4_copyFrom cX4_copyFrom 2 none (zrm 1 21) [.ref o_, .ref v_other] Sh top μ none Sh top μ_ 0 0 := by
  refine zMet_of (by decide) (Nat.le_of_ble_eq_true rfl) fun X hX1 hX2 fx fin => ?_
  subst hX1; subst hX2
  replace fx : zFix X cX4_copyFrom RX4 (zrm 1 21) 2 := fx
  show zZ zK1 X (zT0 Sh top) μ 0 [(0, .ref o_), (1, .ref v_other)] []
  unfold f4_copyFrom at h
  refine z_aload_n fx (k := 0) (i := 0) rfl rfl d4_copyFrom_0 ?_
  refine z_getO fx 4 0 1 ho lf4_12 fk4_0 d4_copyFrom_1 ?_
  refine z_aload_n fx (k := 1) (i := 1) rfl rfl d4_copyFrom_4 ?_
  refine z_getO fx 4 0 1 h_other lf4_12 fk4_0 d4_copyFrom_5 ?_
  obtain ⟨μ1, e1, h⟩ := zinv h
  refine z_cVv fx (c9_copyFrom (zLo X) (zDo X) Sh top hO (o_ + 1) (v_other + 1) μ _ (ok4_0 hO ho) (ok4_0 hO h_other) e1) mv9_copyFrom ml4_62 (ok4_0 hO ho) rfl rfl rfl rfl d4_copyFrom_8 ?_
  refine z_aload_n fx (k := 0) (i := 0) rfl rfl d4_copyFrom_11 ?_
  refine z_aload_n fx (k := 1) (i := 1) rfl rfl d4_copyFrom_12 ?_
  refine z_getB fx 4 1 401 h_other lf4_18 ⟨fk4_1, rfl⟩ d4_copyFrom_13 ?_
  obtain ⟨μ2, e2, h⟩ := zinv h
  refine z_putB fx (ci := 4) 1 ho lf4_18 fp4_1 e2 d4_copyFrom_16 ?_
  refine z_aload_n fx (k := 0) (i := 0) rfl rfl d4_copyFrom_19 ?_
  refine z_aload_n fx (k := 1) (i := 1) rfl rfl d4_copyFrom_20 ?_
  refine z_getI fx 4 2 402 h_other lf4_22 ⟨fk4_2, rfl⟩ d4_copyFrom_21 ?_
  obtain ⟨μ3, e3, h⟩ := zinv h
  refine z_putI fx (ci := 4) 2 ho lf4_22 fp4_2 e3 d4_copyFrom_24 ?_
  refine z_aload_n fx (k := 0) (i := 0) rfl rfl d4_copyFrom_27 ?_
  refine z_aload_n fx (k := 1) (i := 1) rfl rfl d4_copyFrom_28 ?_
  refine z_getI fx 4 3 403 h_other lf4_26 ⟨fk4_3, rfl⟩ d4_copyFrom_29 ?_
  obtain ⟨μ4, e4, h⟩ := zinv h
  refine z_putI fx (ci := 4) 3 ho lf4_26 fp4_3 e4 d4_copyFrom_32 ?_
  refine z_aload_n fx (k := 0) (i := 0) rfl rfl d4_copyFrom_35 ?_
  refine z_aload_n fx (k := 1) (i := 1) rfl rfl d4_copyFrom_36 ?_
  refine z_getI fx 4 4 404 h_other lf4_29 ⟨fk4_4, rfl⟩ d4_copyFrom_37 ?_
  obtain ⟨μ5, e5, h⟩ := zinv h
  refine z_putI fx (ci := 4) 4 ho lf4_29 fp4_4 e5 d4_copyFrom_40 ?_
  refine z_aload_n fx (k := 0) (i := 0) rfl rfl d4_copyFrom_43 ?_
  refine z_aload_n fx (k := 1) (i := 1) rfl rfl d4_copyFrom_44 ?_
  refine z_getI fx 4 5 405 h_other lf4_32 ⟨fk4_5, rfl⟩ d4_copyFrom_45 ?_
  obtain ⟨μ6, e6, h⟩ := zinv h
  refine z_putI fx (ci := 4) 5 ho lf4_32 fp4_5 e6 d4_copyFrom_48 ?_
  refine z_aload_n fx (k := 0) (i := 0) rfl rfl d4_copyFrom_51 ?_
  refine z_aload_n fx (k := 1) (i := 1) rfl rfl d4_copyFrom_52 ?_
  refine z_getI fx 4 6 406 h_other lf4_35 ⟨fk4_6, rfl⟩ d4_copyFrom_53 ?_
  obtain ⟨μ7, e7, h⟩ := zinv h
  refine z_putI fx (ci := 4) 6 ho lf4_35 fp4_6 e7 d4_copyFrom_56 ?_
  refine z_aload_n fx (k := 0) (i := 0) rfl rfl d4_copyFrom_59 ?_
  refine z_aload_n fx (k := 1) (i := 1) rfl rfl d4_copyFrom_60 ?_
  refine z_getI fx 4 7 407 h_other lf4_38 ⟨fk4_7, rfl⟩ d4_copyFrom_61 ?_
  obtain ⟨μ8, e8, h⟩ := zinv h
  refine z_putI fx (ci := 4) 7 ho lf4_38 fp4_7 e8 d4_copyFrom_64 ?_
  refine z_aload_n fx (k := 0) (i := 0) rfl rfl d4_copyFrom_67 ?_
  refine z_aload_n fx (k := 1) (i := 1) rfl rfl d4_copyFrom_68 ?_
  refine z_getI fx 4 8 408 h_other lf4_41 ⟨fk4_8, rfl⟩ d4_copyFrom_69 ?_
  obtain ⟨μ9, e9, h⟩ := zinv h
  refine z_putI fx (ci := 4) 8 ho lf4_41 fp4_8 e9 d4_copyFrom_72 ?_
  refine z_aload_n fx (k := 0) (i := 0) rfl rfl d4_copyFrom_75 ?_
  refine z_aload_n fx (k := 1) (i := 1) rfl rfl d4_copyFrom_76 ?_
  refine z_getB fx 4 9 409 h_other lf4_44 ⟨fk4_9, rfl⟩ d4_copyFrom_77 ?_
  obtain ⟨μ10, e10, h⟩ := zinv h
  refine z_putB fx (ci := 4) 9 ho lf4_44 fp4_9 e10 d4_copyFrom_80 ?_
  refine z_aload_n fx (k := 0) (i := 0) rfl rfl d4_copyFrom_83 ?_
  refine z_aload_n fx (k := 1) (i := 1) rfl rfl d4_copyFrom_84 ?_
  refine z_getB fx 4 10 410 h_other lf4_47 ⟨fk4_10, rfl⟩ d4_copyFrom_85 ?_
  obtain ⟨μ11, e11, h⟩ := zinv h
  refine z_putB fx (ci := 4) 10 ho lf4_47 fp4_10 e11 d4_copyFrom_88 ?_
  refine z_aload_n fx (k := 0) (i := 0) rfl rfl d4_copyFrom_91 ?_
  refine z_aload_n fx (k := 1) (i := 1) rfl rfl d4_copyFrom_92 ?_
  refine z_getB fx 4 11 411 h_other lf4_50 ⟨fk4_11, rfl⟩ d4_copyFrom_93 ?_
  obtain ⟨μ12, e12, h⟩ := zinv h
  refine z_putB fx (ci := 4) 11 ho lf4_50 fp4_11 e12 d4_copyFrom_96 ?_
  refine z_aload_n fx (k := 0) (i := 0) rfl rfl d4_copyFrom_99 ?_
  refine z_aload_n fx (k := 1) (i := 1) rfl rfl d4_copyFrom_100 ?_
  refine z_getB fx 4 12 412 h_other lf4_53 ⟨fk4_12, rfl⟩ d4_copyFrom_101 ?_
  obtain ⟨μ13, e13, h⟩ := zinv h
  refine z_putB fx (ci := 4) 12 ho lf4_53 fp4_12 e13 d4_copyFrom_104 ?_
  refine z_aload_n fx (k := 0) (i := 0) rfl rfl d4_copyFrom_107 ?_
  refine z_aload_n fx (k := 1) (i := 1) rfl rfl d4_copyFrom_108 ?_
  refine z_getB fx 4 13 413 h_other lf4_56 ⟨fk4_13, rfl⟩ d4_copyFrom_109 ?_
  obtain ⟨μ14, e14, h⟩ := zinv h
  refine z_putB fx (ci := 4) 13 ho lf4_56 fp4_13 e14 d4_copyFrom_112 ?_
  refine z_aload_n fx (k := 0) (i := 0) rfl rfl d4_copyFrom_115 ?_
  refine z_aload_n fx (k := 1) (i := 1) rfl rfl d4_copyFrom_116 ?_
  refine z_getB fx 4 14 414 h_other lf4_59 ⟨fk4_14, rfl⟩ d4_copyFrom_117 ?_
  obtain ⟨μ15, e15, h⟩ := zinv h
  refine z_putB fx (ci := 4) 14 ho lf4_59 fp4_14 e15 d4_copyFrom_120 ?_
  cases h
  exact z_return fx fin d4_copyFrom_123
theorem d3_copyFrom_0 : zd cX3_copyFrom 0 (.aload_n 0) 1 1 := by decide +kernel
theorem d3_copyFrom_1 : zd cX3_copyFrom 1 (.aload_n 1) 1 2 := by decide +kernel
theorem d3_copyFrom_2 : zd cX3_copyFrom 2 (.getfield 20) 3 5 := by decide +kernel
theorem d3_copyFrom_5 : zd cX3_copyFrom 5 (.putfield 20) 3 8 := by decide +kernel
theorem d3_copyFrom_8 : zd cX3_copyFrom 8 (.aload_n 0) 1 9 := by decide +kernel
theorem d3_copyFrom_9 : zd cX3_copyFrom 9 (.getfield 20) 3 12 := by decide +kernel
theorem d3_copyFrom_12 : zj cX3_copyFrom 12 (.ifCond .ne 4) 4 15 16 := by decide +kernel
theorem d3_copyFrom_15 : zd cX3_copyFrom 15 (.return_) 1 16 := by decide +kernel
theorem d3_copyFrom_16 : zd cX3_copyFrom 16 (.aload_n 0) 1 17 := by decide +kernel
theorem d3_copyFrom_17 : zd cX3_copyFrom 17 (.getfield 10) 3 20 := by decide +kernel
theorem d3_copyFrom_20 : zd cX3_copyFrom 20 (.aload_n 1) 1 21 := by decide +kernel
theorem d3_copyFrom_21 : zd cX3_copyFrom 21 (.getfield 10) 3 24 := by decide +kernel
theorem d3_copyFrom_24 : zd cX3_copyFrom 24 (.invokevirtual 24) 3 27 := by decide +kernel
theorem d3_copyFrom_27 : zd cX3_copyFrom 27 (.aload_n 0) 1 28 := by decide +kernel
theorem d3_copyFrom_28 : zd cX3_copyFrom 28 (.aload_n 1) 1 29 := by decide +kernel
theorem d3_copyFrom_29 : zd cX3_copyFrom 29 (.getfield 28) 3 32 := by decide +kernel
theorem d3_copyFrom_32 : zd cX3_copyFrom 32 (.putfield 28) 3 35 := by decide +kernel
theorem d3_copyFrom_35 : zd cX3_copyFrom 35 (.aload_n 0) 1 36 := by decide +kernel
theorem d3_copyFrom_36 : zd cX3_copyFrom 36 (.aload_n 1) 1 37 := by decide +kernel
theorem d3_copyFrom_37 : zd cX3_copyFrom 37 (.getfield 31) 3 40 := by decide +kernel
theorem d3_copyFrom_40 : zd cX3_copyFrom 40 (.putfield 31) 3 43 := by decide +kernel
theorem d3_copyFrom_43 : zd cX3_copyFrom 43 (.aload_n 0) 1 44 := by decide +kernel
theorem d3_copyFrom_44 : zd cX3_copyFrom 44 (.aload_n 1) 1 45 := by decide +kernel
theorem d3_copyFrom_45 : zd cX3_copyFrom 45 (.getfield 34) 3 48 := by decide +kernel
theorem d3_copyFrom_48 : zd cX3_copyFrom 48 (.putfield 34) 3 51 := by decide +kernel
theorem d3_copyFrom_51 : zd cX3_copyFrom 51 (.aload_n 0) 1 52 := by decide +kernel
theorem d3_copyFrom_52 : zd cX3_copyFrom 52 (.aload_n 1) 1 53 := by decide +kernel
theorem d3_copyFrom_53 : zd cX3_copyFrom 53 (.getfield 16) 3 56 := by decide +kernel
theorem d3_copyFrom_56 : zd cX3_copyFrom 56 (.putfield 16) 3 59 := by decide +kernel
theorem d3_copyFrom_59 : zd cX3_copyFrom 59 (.return_) 1 60 := by decide +kernel
set_option maxHeartbeats 4000000 in
set_option maxRecDepth 20000 in
theorem c3_copyFrom (l : Launch) (D : zDt) (Sh : zSh) (top : Nat) (hO : zOK Sh) (o_ : Nat) (v_other : Nat) (μ : zM) (μ_ : zM) (ho : (Sh o_).1 = 10) (h_other : (Sh v_other).1 = 10) (h : f3_copyFrom o_ v_other μ = some μ_) : zMet l D zK1 yX3_copyFrom cX3_copyFrom 2 none (zrm 1 21) [.ref o_, .ref v_other] Sh top μ none Sh top μ_ 0 0 := by
  refine zMet_of (by decide) (Nat.le_of_ble_eq_true rfl) fun X hX1 hX2 fx fin => ?_
  subst hX1; subst hX2
  replace fx : zFix X cX3_copyFrom RX3 (zrm 1 21) 2 := fx
  show zZ zK1 X (zT0 Sh top) μ 0 [(0, .ref o_), (1, .ref v_other)] []
  unfold f3_copyFrom at h
  refine z_aload_n fx (k := 0) (i := 0) rfl rfl d3_copyFrom_0 ?_
  refine z_aload_n fx (k := 1) (i := 1) rfl rfl d3_copyFrom_1 ?_
  refine z_getB fx 3 1 301 h_other lf3_20 ⟨fk3_1, rfl⟩ d3_copyFrom_2 ?_
  obtain ⟨μ1, e1, h⟩ := zinv h
  refine z_putB fx (ci := 3) 1 ho lf3_20 fp3_1 e1 d3_copyFrom_5 ?_
  refine z_aload_n fx (k := 0) (i := 0) rfl rfl d3_copyFrom_8 ?_
  refine z_getB fx 3 1 301 ho lf3_20 ⟨fk3_1, rfl⟩ d3_copyFrom_9 ?_
  refine z_ifb_ne fx d3_copyFrom_12 (fun c2 => ?_) (fun c2 => ?_)
  · replace h := zif_t c2 h
    refine z_aload_n fx (k := 0) (i := 0) rfl rfl d3_copyFrom_16 ?_
    refine z_getO fx 3 0 1 ho lf3_10 fk3_0 d3_copyFrom_17 ?_
    refine z_aload_n fx (k := 1) (i := 1) rfl rfl d3_copyFrom_20 ?_
    refine z_getO fx 3 0 1 h_other lf3_10 fk3_0 d3_copyFrom_21 ?_
    obtain ⟨μ2, e3, h⟩ := zinv h
    refine z_cVv fx (c9_copyFrom (zLo X) (zDo X) Sh top hO (o_ + 1) (v_other + 1) μ1 _ (ok3_0 hO ho) (ok3_0 hO h_other) e3) mv9_copyFrom ml3_24 (ok3_0 hO ho) rfl rfl rfl rfl d3_copyFrom_24 ?_
    refine z_aload_n fx (k := 0) (i := 0) rfl rfl d3_copyFrom_27 ?_
    refine z_aload_n fx (k := 1) (i := 1) rfl rfl d3_copyFrom_28 ?_
    refine z_getI fx 3 2 302 h_other lf3_28 ⟨fk3_2, rfl⟩ d3_copyFrom_29 ?_
    obtain ⟨μ3, e4, h⟩ := zinv h
    refine z_putI fx (ci := 3) 2 ho lf3_28 fp3_2 e4 d3_copyFrom_32 ?_
    refine z_aload_n fx (k := 0) (i := 0) rfl rfl d3_copyFrom_35 ?_
    refine z_aload_n fx (k := 1) (i := 1) rfl rfl d3_copyFrom_36 ?_
    refine z_getB fx 3 3 303 h_other lf3_31 ⟨fk3_3, rfl⟩ d3_copyFrom_37 ?_
    obtain ⟨μ4, e5, h⟩ := zinv h
    refine z_putB fx (ci := 3) 3 ho lf3_31 fp3_3 e5 d3_copyFrom_40 ?_
    refine z_aload_n fx (k := 0) (i := 0) rfl rfl d3_copyFrom_43 ?_
    refine z_aload_n fx (k := 1) (i := 1) rfl rfl d3_copyFrom_44 ?_
    refine z_getI fx 3 4 304 h_other lf3_34 ⟨fk3_4, rfl⟩ d3_copyFrom_45 ?_
    obtain ⟨μ5, e6, h⟩ := zinv h
    refine z_putI fx (ci := 3) 4 ho lf3_34 fp3_4 e6 d3_copyFrom_48 ?_
    refine z_aload_n fx (k := 0) (i := 0) rfl rfl d3_copyFrom_51 ?_
    refine z_aload_n fx (k := 1) (i := 1) rfl rfl d3_copyFrom_52 ?_
    refine z_getI fx 3 5 305 h_other lf3_16 ⟨fk3_5, rfl⟩ d3_copyFrom_53 ?_
    obtain ⟨μ6, e7, h⟩ := zinv h
    refine z_putI fx (ci := 3) 5 ho lf3_16 fp3_5 e7 d3_copyFrom_56 ?_
    cases h
    exact z_return fx fin d3_copyFrom_59
  · replace h := zif_f c2 h
    cases h
    exact z_return fx fin d3_copyFrom_15
theorem d8_copyFrom_0 : zd cX8_copyFrom 0 (.aload_n 0) 1 1 := by decide +kernel
theorem d8_copyFrom_1 : zd cX8_copyFrom 1 (.aload_n 1) 1 2 := by decide +kernel
theorem d8_copyFrom_2 : zd cX8_copyFrom 2 (.getfield 62) 3 5 := by decide +kernel
theorem d8_copyFrom_5 : zd cX8_copyFrom 5 (.putfield 62) 3 8 := by decide +kernel
theorem d8_copyFrom_8 : zd cX8_copyFrom 8 (.aload_n 0) 1 9 := by decide +kernel
theorem d8_copyFrom_9 : zd cX8_copyFrom 9 (.aload_n 1) 1 10 := by decide +kernel
theorem d8_copyFrom_10 : zd cX8_copyFrom 10 (.getfield 71) 3 13 := by decide +kernel
theorem d8_copyFrom_13 : zd cX8_copyFrom 13 (.putfield 71) 3 16 := by decide +kernel
theorem d8_copyFrom_16 : zd cX8_copyFrom 16 (.aload_n 0) 1 17 := by decide +kernel
theorem d8_copyFrom_17 : zd cX8_copyFrom 17 (.aload_n 1) 1 18 := by decide +kernel
theorem d8_copyFrom_18 : zd cX8_copyFrom 18 (.getfield 75) 3 21 := by decide +kernel
theorem d8_copyFrom_21 : zd cX8_copyFrom 21 (.putfield 75) 3 24 := by decide +kernel
theorem d8_copyFrom_24 : zd cX8_copyFrom 24 (.aload_n 0) 1 25 := by decide +kernel
theorem d8_copyFrom_25 : zd cX8_copyFrom 25 (.aload_n 1) 1 26 := by decide +kernel
theorem d8_copyFrom_26 : zd cX8_copyFrom 26 (.getfield 78) 3 29 := by decide +kernel
theorem d8_copyFrom_29 : zd cX8_copyFrom 29 (.putfield 78) 3 32 := by decide +kernel
theorem d8_copyFrom_32 : zd cX8_copyFrom 32 (.aload_n 0) 1 33 := by decide +kernel
theorem d8_copyFrom_33 : zd cX8_copyFrom 33 (.aload_n 1) 1 34 := by decide +kernel
theorem d8_copyFrom_34 : zd cX8_copyFrom 34 (.getfield 81) 3 37 := by decide +kernel
theorem d8_copyFrom_37 : zd cX8_copyFrom 37 (.putfield 81) 3 40 := by decide +kernel
theorem d8_copyFrom_40 : zd cX8_copyFrom 40 (.iconst 0) 1 41 := by decide +kernel
theorem d8_copyFrom_41 : zd cX8_copyFrom 41 (.istore_n 2) 1 42 := by decide +kernel
theorem d8_copyFrom_42 : zd cX8_copyFrom 42 (.iload_n 2) 1 43 := by decide +kernel
theorem d8_copyFrom_43 : zd cX8_copyFrom 43 (.bipush 8) 2 45 := by decide +kernel
theorem d8_copyFrom_45 : zj cX8_copyFrom 45 (.if_icmp .ge 24) 24 48 69 := by decide +kernel
theorem d8_copyFrom_48 : zd cX8_copyFrom 48 (.aload_n 0) 1 49 := by decide +kernel
theorem d8_copyFrom_49 : zd cX8_copyFrom 49 (.getfield 11) 3 52 := by decide +kernel
theorem d8_copyFrom_52 : zd cX8_copyFrom 52 (.iload_n 2) 1 53 := by decide +kernel
theorem d8_copyFrom_53 : zd cX8_copyFrom 53 (.aaload) 1 54 := by decide +kernel
theorem d8_copyFrom_54 : zd cX8_copyFrom 54 (.aload_n 1) 1 55 := by decide +kernel
theorem d8_copyFrom_55 : zd cX8_copyFrom 55 (.getfield 11) 3 58 := by decide +kernel
theorem d8_copyFrom_58 : zd cX8_copyFrom 58 (.iload_n 2) 1 59 := by decide +kernel
theorem d8_copyFrom_59 : zd cX8_copyFrom 59 (.aaload) 1 60 := by decide +kernel
theorem d8_copyFrom_60 : zd cX8_copyFrom 60 (.invokevirtual 84) 3 63 := by decide +kernel
theorem d8_copyFrom_63 : zd cX8_copyFrom 63 (.iinc 2 1) 3 66 := by decide +kernel
theorem d8_copyFrom_66 : zj cX8_copyFrom 66 (.goto (-24)) (-24) 69 42 := by decide +kernel
theorem d8_copyFrom_69 : zd cX8_copyFrom 69 (.iconst 0) 1 70 := by decide +kernel
theorem d8_copyFrom_70 : zd cX8_copyFrom 70 (.istore_n 2) 1 71 := by decide +kernel
theorem d8_copyFrom_71 : zd cX8_copyFrom 71 (.iload_n 2) 1 72 := by decide +kernel
theorem d8_copyFrom_72 : zd cX8_copyFrom 72 (.bipush 28) 2 74 := by decide +kernel
theorem d8_copyFrom_74 : zj cX8_copyFrom 74 (.if_icmp .ge 24) 24 77 98 := by decide +kernel
theorem d8_copyFrom_77 : zd cX8_copyFrom 77 (.aload_n 0) 1 78 := by decide +kernel
theorem d8_copyFrom_78 : zd cX8_copyFrom 78 (.getfield 19) 3 81 := by decide +kernel
theorem d8_copyFrom_81 : zd cX8_copyFrom 81 (.iload_n 2) 1 82 := by decide +kernel
theorem d8_copyFrom_82 : zd cX8_copyFrom 82 (.aaload) 1 83 := by decide +kernel
theorem d8_copyFrom_83 : zd cX8_copyFrom 83 (.aload_n 1) 1 84 := by decide +kernel
theorem d8_copyFrom_84 : zd cX8_copyFrom 84 (.getfield 19) 3 87 := by decide +kernel
theorem d8_copyFrom_87 : zd cX8_copyFrom 87 (.iload_n 2) 1 88 := by decide +kernel
theorem d8_copyFrom_88 : zd cX8_copyFrom 88 (.aaload) 1 89 := by decide +kernel
theorem d8_copyFrom_89 : zd cX8_copyFrom 89 (.invokevirtual 88) 3 92 := by decide +kernel
theorem d8_copyFrom_92 : zd cX8_copyFrom 92 (.iinc 2 1) 3 95 := by decide +kernel
theorem d8_copyFrom_95 : zj cX8_copyFrom 95 (.goto (-24)) (-24) 98 71 := by decide +kernel
theorem d8_copyFrom_98 : zd cX8_copyFrom 98 (.iconst 0) 1 99 := by decide +kernel
theorem d8_copyFrom_99 : zd cX8_copyFrom 99 (.istore_n 2) 1 100 := by decide +kernel
theorem d8_copyFrom_100 : zd cX8_copyFrom 100 (.iload_n 2) 1 101 := by decide +kernel
theorem d8_copyFrom_101 : zd cX8_copyFrom 101 (.aload_n 0) 1 102 := by decide +kernel
theorem d8_copyFrom_102 : zd cX8_copyFrom 102 (.getfield 25) 3 105 := by decide +kernel
theorem d8_copyFrom_105 : zd cX8_copyFrom 105 (.arraylength) 1 106 := by decide +kernel
theorem d8_copyFrom_106 : zj cX8_copyFrom 106 (.if_icmp .ge 24) 24 109 130 := by decide +kernel
theorem d8_copyFrom_109 : zd cX8_copyFrom 109 (.aload_n 0) 1 110 := by decide +kernel
theorem d8_copyFrom_110 : zd cX8_copyFrom 110 (.getfield 25) 3 113 := by decide +kernel
theorem d8_copyFrom_113 : zd cX8_copyFrom 113 (.iload_n 2) 1 114 := by decide +kernel
theorem d8_copyFrom_114 : zd cX8_copyFrom 114 (.aaload) 1 115 := by decide +kernel
theorem d8_copyFrom_115 : zd cX8_copyFrom 115 (.aload_n 1) 1 116 := by decide +kernel
theorem d8_copyFrom_116 : zd cX8_copyFrom 116 (.getfield 25) 3 119 := by decide +kernel
theorem d8_copyFrom_119 : zd cX8_copyFrom 119 (.iload_n 2) 1 120 := by decide +kernel
theorem d8_copyFrom_120 : zd cX8_copyFrom 120 (.aaload) 1 121 := by decide +kernel
theorem d8_copyFrom_121 : zd cX8_copyFrom 121 (.invokevirtual 91) 3 124 := by decide +kernel
theorem d8_copyFrom_124 : zd cX8_copyFrom 124 (.iinc 2 1) 3 127 := by decide +kernel
theorem d8_copyFrom_127 : zj cX8_copyFrom 127 (.goto (-27)) (-27) 130 100 := by decide +kernel
theorem d8_copyFrom_130 : zd cX8_copyFrom 130 (.iconst 0) 1 131 := by decide +kernel
theorem d8_copyFrom_131 : zd cX8_copyFrom 131 (.istore_n 2) 1 132 := by decide +kernel
theorem d8_copyFrom_132 : zd cX8_copyFrom 132 (.iload_n 2) 1 133 := by decide +kernel
theorem d8_copyFrom_133 : zd cX8_copyFrom 133 (.bipush 14) 2 135 := by decide +kernel
theorem d8_copyFrom_135 : zj cX8_copyFrom 135 (.if_icmp .ge 21) 21 138 156 := by decide +kernel
theorem d8_copyFrom_138 : zd cX8_copyFrom 138 (.aload_n 0) 1 139 := by decide +kernel
theorem d8_copyFrom_139 : zd cX8_copyFrom 139 (.getfield 29) 3 142 := by decide +kernel
theorem d8_copyFrom_142 : zd cX8_copyFrom 142 (.iload_n 2) 1 143 := by decide +kernel
theorem d8_copyFrom_143 : zd cX8_copyFrom 143 (.aload_n 1) 1 144 := by decide +kernel
theorem d8_copyFrom_144 : zd cX8_copyFrom 144 (.getfield 29) 3 147 := by decide +kernel
theorem d8_copyFrom_147 : zd cX8_copyFrom 147 (.iload_n 2) 1 148 := by decide +kernel
theorem d8_copyFrom_148 : zd cX8_copyFrom 148 (.baload) 1 149 := by decide +kernel
theorem d8_copyFrom_149 : zd cX8_copyFrom 149 (.bastore) 1 150 := by decide +kernel
theorem d8_copyFrom_150 : zd cX8_copyFrom 150 (.iinc 2 1) 3 153 := by decide +kernel
theorem d8_copyFrom_153 : zj cX8_copyFrom 153 (.goto (-21)) (-21) 156 132 := by decide +kernel
theorem d8_copyFrom_156 : zd cX8_copyFrom 156 (.aload_n 1) 1 157 := by decide +kernel
theorem d8_copyFrom_157 : zd cX8_copyFrom 157 (.getfield 33) 3 160 := by decide +kernel
theorem d8_copyFrom_160 : zd cX8_copyFrom 160 (.iconst 0) 1 161 := by decide +kernel
theorem d8_copyFrom_161 : zd cX8_copyFrom 161 (.aload_n 0) 1 162 := by decide +kernel
theorem d8_copyFrom_162 : zd cX8_copyFrom 162 (.getfield 33) 3 165 := by decide +kernel
theorem d8_copyFrom_165 : zd cX8_copyFrom 165 (.iconst 0) 1 166 := by decide +kernel
theorem d8_copyFrom_166 : zd cX8_copyFrom 166 (.bipush 8) 2 168 := by decide +kernel
theorem d8_copyFrom_168 : zd cX8_copyFrom 168 (.invokestatic 94) 3 171 := by decide +kernel
theorem d8_copyFrom_171 : zd cX8_copyFrom 171 (.aload_n 1) 1 172 := by decide +kernel
theorem d8_copyFrom_172 : zd cX8_copyFrom 172 (.getfield 37) 3 175 := by decide +kernel
theorem d8_copyFrom_175 : zd cX8_copyFrom 175 (.iconst 0) 1 176 := by decide +kernel
theorem d8_copyFrom_176 : zd cX8_copyFrom 176 (.aload_n 0) 1 177 := by decide +kernel
theorem d8_copyFrom_177 : zd cX8_copyFrom 177 (.getfield 37) 3 180 := by decide +kernel
theorem d8_copyFrom_180 : zd cX8_copyFrom 180 (.iconst 0) 1 181 := by decide +kernel
theorem d8_copyFrom_181 : zd cX8_copyFrom 181 (.aload_n 0) 1 182 := by decide +kernel
theorem d8_copyFrom_182 : zd cX8_copyFrom 182 (.getfield 37) 3 185 := by decide +kernel
theorem d8_copyFrom_185 : zd cX8_copyFrom 185 (.arraylength) 1 186 := by decide +kernel
theorem d8_copyFrom_186 : zd cX8_copyFrom 186 (.invokestatic 94) 3 189 := by decide +kernel
theorem d8_copyFrom_189 : zd cX8_copyFrom 189 (.aload_n 1) 1 190 := by decide +kernel
theorem d8_copyFrom_190 : zd cX8_copyFrom 190 (.getfield 40) 3 193 := by decide +kernel
theorem d8_copyFrom_193 : zd cX8_copyFrom 193 (.iconst 0) 1 194 := by decide +kernel
theorem d8_copyFrom_194 : zd cX8_copyFrom 194 (.aload_n 0) 1 195 := by decide +kernel
theorem d8_copyFrom_195 : zd cX8_copyFrom 195 (.getfield 40) 3 198 := by decide +kernel
theorem d8_copyFrom_198 : zd cX8_copyFrom 198 (.iconst 0) 1 199 := by decide +kernel
theorem d8_copyFrom_199 : zd cX8_copyFrom 199 (.aload_n 0) 1 200 := by decide +kernel
theorem d8_copyFrom_200 : zd cX8_copyFrom 200 (.getfield 40) 3 203 := by decide +kernel
theorem d8_copyFrom_203 : zd cX8_copyFrom 203 (.arraylength) 1 204 := by decide +kernel
theorem d8_copyFrom_204 : zd cX8_copyFrom 204 (.invokestatic 94) 3 207 := by decide +kernel
theorem d8_copyFrom_207 : zd cX8_copyFrom 207 (.aload_n 1) 1 208 := by decide +kernel
theorem d8_copyFrom_208 : zd cX8_copyFrom 208 (.getfield 43) 3 211 := by decide +kernel
theorem d8_copyFrom_211 : zd cX8_copyFrom 211 (.iconst 0) 1 212 := by decide +kernel
theorem d8_copyFrom_212 : zd cX8_copyFrom 212 (.aload_n 0) 1 213 := by decide +kernel
theorem d8_copyFrom_213 : zd cX8_copyFrom 213 (.getfield 43) 3 216 := by decide +kernel
theorem d8_copyFrom_216 : zd cX8_copyFrom 216 (.iconst 0) 1 217 := by decide +kernel
theorem d8_copyFrom_217 : zd cX8_copyFrom 217 (.aload_n 0) 1 218 := by decide +kernel
theorem d8_copyFrom_218 : zd cX8_copyFrom 218 (.getfield 43) 3 221 := by decide +kernel
theorem d8_copyFrom_221 : zd cX8_copyFrom 221 (.arraylength) 1 222 := by decide +kernel
theorem d8_copyFrom_222 : zd cX8_copyFrom 222 (.invokestatic 94) 3 225 := by decide +kernel
theorem d8_copyFrom_225 : zd cX8_copyFrom 225 (.return_) 1 226 := by decide +kernel
set_option maxHeartbeats 4000000 in
set_option maxRecDepth 20000 in
theorem c8_copyFrom (l : Launch) (D : zDt) (Sh : zSh) (top : Nat) (hO : zOK Sh) (o_ : Nat) (v_other : Nat) (μ : zM) (μ_ : zM) (ho : (Sh o_).1 = 15) (h_other : (Sh v_other).1 = 15) (h : f8_copyFrom o_ v_other μ = some μ_) : zMet l D zK1 yX8_copyFrom cX8_copyFrom 3 none (zrm 2 60) [.ref o_, .ref v_other] Sh top μ none Sh top μ_ 0 0 := by
  refine zMet_of (by decide) (Nat.le_of_ble_eq_true rfl) fun X hX1 hX2 fx fin => ?_
  subst hX1; subst hX2
  replace fx : zFix X cX8_copyFrom RX8 (zrm 2 60) 3 := fx
  show zZ zK1 X (zT0 Sh top) μ 0 [(0, .ref o_), (1, .ref v_other)] []
  unfold f8_copyFrom at h
  refine z_aload_n fx (k := 0) (i := 0) rfl rfl d8_copyFrom_0 ?_
  refine z_aload_n fx (k := 1) (i := 1) rfl rfl d8_copyFrom_1 ?_
  obtain ⟨w1, e1, h⟩ := zinv h
  refine z_getR fx 8 12 812 17 h_other lf8_62 ⟨fk8_12, rfl⟩ e1 d8_copyFrom_2 (fun tw1 => ?_)
  obtain ⟨μ2, e2, h⟩ := zinv h
  refine z_putR fx (ci := 8) 12 (zci ho (by decide) (by decide)) ho lf8_62 fp8_12 (tw1.trans (congrArg Prod.snd fk8_12).symm) e2 d8_copyFrom_5 ?_
  refine z_aload_n fx (k := 0) (i := 0) rfl rfl d8_copyFrom_8 ?_
  refine z_aload_n fx (k := 1) (i := 1) rfl rfl d8_copyFrom_9 ?_
  refine z_getI fx 8 13 813 h_other lf8_71 ⟨fk8_13, rfl⟩ d8_copyFrom_10 ?_
  obtain ⟨μ3, e3, h⟩ := zinv h
  refine z_putI fx (ci := 8) 13 ho lf8_71 fp8_13 e3 d8_copyFrom_13 ?_
  refine z_aload_n fx (k := 0) (i := 0) rfl rfl d8_copyFrom_16 ?_
  refine z_aload_n fx (k := 1) (i := 1) rfl rfl d8_copyFrom_17 ?_
  refine z_getI fx 8 14 814 h_other lf8_75 ⟨fk8_14, rfl⟩ d8_copyFrom_18 ?_
  obtain ⟨μ4, e4, h⟩ := zinv h
  refine z_putI fx (ci := 8) 14 ho lf8_75 fp8_14 e4 d8_copyFrom_21 ?_
  refine z_aload_n fx (k := 0) (i := 0) rfl rfl d8_copyFrom_24 ?_
  refine z_aload_n fx (k := 1) (i := 1) rfl rfl d8_copyFrom_25 ?_
  refine z_getI fx 8 15 815 h_other lf8_78 ⟨fk8_15, rfl⟩ d8_copyFrom_26 ?_
  obtain ⟨μ5, e5, h⟩ := zinv h
  refine z_putI fx (ci := 8) 15 ho lf8_78 fp8_15 e5 d8_copyFrom_29 ?_
  refine z_aload_n fx (k := 0) (i := 0) rfl rfl d8_copyFrom_32 ?_
  refine z_aload_n fx (k := 1) (i := 1) rfl rfl d8_copyFrom_33 ?_
  refine z_getI fx 8 16 816 h_other lf8_81 ⟨fk8_16, rfl⟩ d8_copyFrom_34 ?_
  obtain ⟨μ6, e6, h⟩ := zinv h
  refine z_putI fx (ci := 8) 16 ho lf8_81 fp8_16 e6 d8_copyFrom_37 ?_
  refine z_iconst fx (v := 0) ic0 d8_copyFrom_40 ?_
  refine z_istore_n fx (k := 2) (i := 2) rfl rfl (lv' := [(0, .ref o_), (1, .ref v_other), (2, .int 0)]) rfl rfl d8_copyFrom_41 ?_
  obtain ⟨v_b_9, μ10, e53, h⟩ := zinv2 h
  have kx10 : zZ zK1 X (zT0 Sh top) μ10 69 [(0, .ref o_), (1, .ref v_other), (2, .int v_b_9)] [] := by
    refine z_take 2 (lv' := [(0, .ref o_), (1, .ref v_other)]) rfl ?_
    refine z_iconst fx (v := 0) ic0 d8_copyFrom_69 ?_
    refine z_istore_n fx (k := 2) (i := 2) rfl rfl (lv' := [(0, .ref o_), (1, .ref v_other), (2, .int 0)]) rfl rfl d8_copyFrom_70 ?_
    obtain ⟨v_end_17, μ18, e52, h⟩ := zinv2 h
    have kx20 : zZ zK1 X (zT0 Sh top) μ18 98 [(0, .ref o_), (1, .ref v_other), (2, .int v_end_17)] [] := by
      refine z_take 2 (lv' := [(0, .ref o_), (1, .ref v_other)]) rfl ?_
      refine z_iconst fx (v := 0) ic0 d8_copyFrom_98 ?_
      refine z_istore_n fx (k := 2) (i := 2) rfl rfl (lv' := [(0, .ref o_), (1, .ref v_other), (2, .int 0)]) rfl rfl d8_copyFrom_99 ?_
      obtain ⟨v_slot_25, μ26, e51, h⟩ := zinv2 h
      have kx30 : zZ zK1 X (zT0 Sh top) μ26 130 [(0, .ref o_), (1, .ref v_other), (2, .int v_slot_25)] [] := by
        refine z_take 2 (lv' := [(0, .ref o_), (1, .ref v_other)]) rfl ?_
        refine z_iconst fx (v := 0) ic0 d8_copyFrom_130 ?_
        refine z_istore_n fx (k := 2) (i := 2) rfl rfl (lv' := [(0, .ref o_), (1, .ref v_other), (2, .int 0)]) rfl rfl d8_copyFrom_131 ?_
        obtain ⟨v_link_33, μ34, e50, h⟩ := zinv2 h
        have kx40 : zZ zK1 X (zT0 Sh top) μ34 156 [(0, .ref o_), (1, .ref v_other), (2, .int v_link_33)] [] := by
          refine z_take 2 (lv' := [(0, .ref o_), (1, .ref v_other)]) rfl ?_
          refine z_aload_n fx (k := 1) (i := 1) rfl rfl d8_copyFrom_156 ?_
          refine z_getO fx 8 4 5 h_other lf8_33 fk8_4 d8_copyFrom_157 ?_
          refine z_iconst fx (v := 0) ic0 d8_copyFrom_160 ?_
          refine z_aload_n fx (k := 0) (i := 0) rfl rfl d8_copyFrom_161 ?_
          refine z_getO fx 8 4 5 ho lf8_33 fk8_4 d8_copyFrom_162 ?_
          refine z_iconst fx (v := 0) ic0 d8_copyFrom_165 ?_
          refine z_bipush fx (v := 8) bp8 d8_copyFrom_166 ?_
          obtain ⟨μ38, e46, h⟩ := zinv h
          refine z_copy fx ml8_94 (ok8_4 hO h_other) (ok8_4 hO ho) e46 (Nat.le_of_ble_eq_true rfl) ⟨Nat.le_of_ble_eq_true rfl, Nat.le_of_ble_eq_true rfl⟩ d8_copyFrom_168 ?_
          refine z_aload_n fx (k := 1) (i := 1) rfl rfl d8_copyFrom_171 ?_
          refine z_getO fx 8 5 6 h_other lf8_37 fk8_5 d8_copyFrom_172 ?_
          refine z_iconst fx (v := 0) ic0 d8_copyFrom_175 ?_
          refine z_aload_n fx (k := 0) (i := 0) rfl rfl d8_copyFrom_176 ?_
          refine z_getO fx 8 5 6 ho lf8_37 fk8_5 d8_copyFrom_177 ?_
          refine z_iconst fx (v := 0) ic0 d8_copyFrom_180 ?_
          refine z_aload_n fx (k := 0) (i := 0) rfl rfl d8_copyFrom_181 ?_
          refine z_getO fx 8 5 6 ho lf8_37 fk8_5 d8_copyFrom_182 ?_
          refine z_alen fx (ok8_5 hO ho) d8_copyFrom_185 ?_
          obtain ⟨μ39, e47, h⟩ := zinv h
          refine z_copy fx ml8_94 (ok8_5 hO h_other) (ok8_5 hO ho) e47 (Nat.le_of_ble_eq_true rfl) ⟨Nat.le_of_ble_eq_true rfl, Nat.le_of_ble_eq_true rfl⟩ d8_copyFrom_186 ?_
          refine z_aload_n fx (k := 1) (i := 1) rfl rfl d8_copyFrom_189 ?_
          refine z_getO fx 8 6 7 h_other lf8_40 fk8_6 d8_copyFrom_190 ?_
          refine z_iconst fx (v := 0) ic0 d8_copyFrom_193 ?_
          refine z_aload_n fx (k := 0) (i := 0) rfl rfl d8_copyFrom_194 ?_
          refine z_getO fx 8 6 7 ho lf8_40 fk8_6 d8_copyFrom_195 ?_
          refine z_iconst fx (v := 0) ic0 d8_copyFrom_198 ?_
          refine z_aload_n fx (k := 0) (i := 0) rfl rfl d8_copyFrom_199 ?_
          refine z_getO fx 8 6 7 ho lf8_40 fk8_6 d8_copyFrom_200 ?_
          refine z_alen fx (ok8_6 hO ho) d8_copyFrom_203 ?_
          obtain ⟨μ40, e48, h⟩ := zinv h
          refine z_copy fx ml8_94 (ok8_6 hO h_other) (ok8_6 hO ho) e48 (Nat.le_of_ble_eq_true rfl) ⟨Nat.le_of_ble_eq_true rfl, Nat.le_of_ble_eq_true rfl⟩ d8_copyFrom_204 ?_
          refine z_aload_n fx (k := 1) (i := 1) rfl rfl d8_copyFrom_207 ?_
          refine z_getO fx 8 7 8 h_other lf8_43 fk8_7 d8_copyFrom_208 ?_
          refine z_iconst fx (v := 0) ic0 d8_copyFrom_211 ?_
          refine z_aload_n fx (k := 0) (i := 0) rfl rfl d8_copyFrom_212 ?_
          refine z_getO fx 8 7 8 ho lf8_43 fk8_7 d8_copyFrom_213 ?_
          refine z_iconst fx (v := 0) ic0 d8_copyFrom_216 ?_
          refine z_aload_n fx (k := 0) (i := 0) rfl rfl d8_copyFrom_217 ?_
          refine z_getO fx 8 7 8 ho lf8_43 fk8_7 d8_copyFrom_218 ?_
          refine z_alen fx (ok8_7 hO ho) d8_copyFrom_221 ?_
          obtain ⟨μ41, e49, h⟩ := zinv h
          refine z_copy fx ml8_94 (ok8_7 hO h_other) (ok8_7 hO ho) e49 (Nat.le_of_ble_eq_true rfl) ⟨Nat.le_of_ble_eq_true rfl, Nat.le_of_ble_eq_true rfl⟩ d8_copyFrom_222 ?_
          cases h
          exact z_return fx fin d8_copyFrom_225
        clear h
        have klr39 : ∀ (n : Nat) (v_link_31 : Int32) (μ32 : zM), zloop (fun s => f8_copyFrom_L4 o_ v_other s.1 s.2) n (v_link_31, μ32) = some (v_link_33, μ34) → zZ zK1 X (zT0 Sh top) μ32 132 [(0, .ref o_), (1, .ref v_other), (2, .int v_link_31)] [] := by
          intro n
          induction n with
          | zero => intro v_link_31 μ32 hl38; cases hl38
          | succ n ih41 =>
            intro v_link_31 μ32 hl38
            obtain ⟨y, e37, hl38⟩ := zloop_inv hl38
            replace e37 : f8_copyFrom_L4 o_ v_other v_link_31 μ32 = some y := e37
            unfold f8_copyFrom_L4 at e37
            refine z_iload_n fx (k := 2) (i := 2) rfl rfl d8_copyFrom_132 ?_
            refine z_bipush fx (v := 14) bp14 d8_copyFrom_133 ?_
            refine z_icmp_ge fx d8_copyFrom_135 (fun c42 => ?_) (fun c42 => ?_)
            · replace e37 := zif_f c42 e37
              cases e37
              cases hl38
              exact kx40
            · replace e37 := zif_t c42 e37
              refine z_aload_n fx (k := 0) (i := 0) rfl rfl d8_copyFrom_138 ?_
              refine z_getO fx 8 3 4 ho lf8_29 fk8_3 d8_copyFrom_139 ?_
              refine z_iload_n fx (k := 2) (i := 2) rfl rfl d8_copyFrom_142 ?_
              refine z_aload_n fx (k := 1) (i := 1) rfl rfl d8_copyFrom_143 ?_
              refine z_getO fx 8 3 4 h_other lf8_29 fk8_3 d8_copyFrom_144 ?_
              refine z_iload_n fx (k := 2) (i := 2) rfl rfl d8_copyFrom_147 ?_
              obtain ⟨t35, e43, e37⟩ := zinv e37
              refine z_zald fx (ok8_3 hO h_other) e43 d8_copyFrom_148 ?_
              obtain ⟨μ36, e44, e37⟩ := zinv e37
              refine z_zast fx (ok8_3 hO ho) e44 d8_copyFrom_149 ?_
              obtain ⟨v_link_37, e45, e37⟩ := zinv e37
              replace e45 := Option.some.inj e45
              refine z_iinc fx (i := 2) (x := v_link_31) (v := v_link_37) rfl (by rw [in1]; exact e45) rfl (lv' := [(0, .ref o_), (1, .ref v_other), (2, .int v_link_37)]) rfl rfl d8_copyFrom_150 ?_
              cases e37
              refine z_goto fx d8_copyFrom_153 ?_
              exact ih41 _ _ hl38
        exact klr39 _ _ _ e50
      clear h
      have klr29 : ∀ (n : Nat) (v_slot_23 : Int32) (μ24 : zM), zloop (fun s => f8_copyFrom_L3 o_ v_other s.1 s.2) n (v_slot_23, μ24) = some (v_slot_25, μ26) → zZ zK1 X (zT0 Sh top) μ24 100 [(0, .ref o_), (1, .ref v_other), (2, .int v_slot_23)] [] := by
        intro n
        induction n with
        | zero => intro v_slot_23 μ24 hl28; cases hl28
        | succ n ih31 =>
          intro v_slot_23 μ24 hl28
          obtain ⟨y, e27, hl28⟩ := zloop_inv hl28
          replace e27 : f8_copyFrom_L3 o_ v_other v_slot_23 μ24 = some y := e27
          unfold f8_copyFrom_L3 at e27
          refine z_iload_n fx (k := 2) (i := 2) rfl rfl d8_copyFrom_100 ?_
          refine z_aload_n fx (k := 0) (i := 0) rfl rfl d8_copyFrom_101 ?_
          refine z_getO fx 8 2 3 ho lf8_25 fk8_2 d8_copyFrom_102 ?_
          refine z_alenX fx 2 (by decide) (ok8_2 hO ho) d8_copyFrom_105 ?_
          refine z_icmp_ge fx d8_copyFrom_106 (fun c32 => ?_) (fun c32 => ?_)
          · replace e27 := zif_f c32 e27
            cases e27
            cases hl28
            exact kx30
          · replace e27 := zif_t c32 e27
            refine z_aload_n fx (k := 0) (i := 0) rfl rfl d8_copyFrom_109 ?_
            refine z_getO fx 8 2 3 ho lf8_25 fk8_2 d8_copyFrom_110 ?_
            refine z_iload_n fx (k := 2) (i := 2) rfl rfl d8_copyFrom_113 ?_
            obtain ⟨j27, e33, e27⟩ := zinv e27
            refine z_aald fx 2 (by decide) (ok8_2 hO ho) e33 (v := .ref (o_ + 93 + 2 * j27)) rfl d8_copyFrom_114 ?_
            refine z_aload_n fx (k := 1) (i := 1) rfl rfl d8_copyFrom_115 ?_
            refine z_getO fx 8 2 3 h_other lf8_25 fk8_2 d8_copyFrom_116 ?_
            refine z_iload_n fx (k := 2) (i := 2) rfl rfl d8_copyFrom_119 ?_
            obtain ⟨j28, e34, e27⟩ := zinv e27
            refine z_aald fx 2 (by decide) (ok8_2 hO h_other) e34 (v := .ref (v_other + 93 + 2 * j28)) rfl d8_copyFrom_120 ?_
            obtain ⟨μ29, e35, e27⟩ := zinv e27
            refine z_cVv fx (c3_copyFrom (zLo X) (zDo X) Sh top hO (o_ + 93 + 2 * j27) (v_other + 93 + 2 * j28) μ24 _ (okA2 hO (ok8_2 hO ho) (rI_lt e33)) (okA2 hO (ok8_2 hO h_other) (rI_lt e34)) e35) mv3_copyFrom ml8_91 (okA2 hO (ok8_2 hO ho) (rI_lt e33)) rfl rfl rfl rfl d8_copyFrom_121 ?_
            obtain ⟨v_slot_30, e36, e27⟩ := zinv e27
            replace e36 := Option.some.inj e36
            refine z_iinc fx (i := 2) (x := v_slot_23) (v := v_slot_30) rfl (by rw [in1]; exact e36) rfl (lv' := [(0, .ref o_), (1, .ref v_other), (2, .int v_slot_30)]) rfl rfl d8_copyFrom_124 ?_
            cases e27
            refine z_goto fx d8_copyFrom_127 ?_
            exact ih31 _ _ hl28
      exact klr29 _ _ _ e51
    clear h
    have klr19 : ∀ (n : Nat) (v_end_15 : Int32) (μ16 : zM), zloop (fun s => f8_copyFrom_L2 o_ v_other s.1 s.2) n (v_end_15, μ16) = some (v_end_17, μ18) → zZ zK1 X (zT0 Sh top) μ16 71 [(0, .ref o_), (1, .ref v_other), (2, .int v_end_15)] [] := by
      intro n
      induction n with
      | zero => intro v_end_15 μ16 hl18; cases hl18
      | succ n ih21 =>
        intro v_end_15 μ16 hl18
        obtain ⟨y, e17, hl18⟩ := zloop_inv hl18
        replace e17 : f8_copyFrom_L2 o_ v_other v_end_15 μ16 = some y := e17
        unfold f8_copyFrom_L2 at e17
        refine z_iload_n fx (k := 2) (i := 2) rfl rfl d8_copyFrom_71 ?_
        refine z_bipush fx (v := 28) bp28 d8_copyFrom_72 ?_
        refine z_icmp_ge fx d8_copyFrom_74 (fun c22 => ?_) (fun c22 => ?_)
        · replace e17 := zif_f c22 e17
          cases e17
          cases hl18
          exact kx20
        · replace e17 := zif_t c22 e17
          refine z_aload_n fx (k := 0) (i := 0) rfl rfl d8_copyFrom_77 ?_
          refine z_getO fx 8 1 2 ho lf8_19 fk8_1 d8_copyFrom_78 ?_
          refine z_iload_n fx (k := 2) (i := 2) rfl rfl d8_copyFrom_81 ?_
          obtain ⟨j19, e23, e17⟩ := zinv e17
          refine z_aald fx 1 (by decide) (ok8_1 hO ho) e23 (v := .ref (o_ + 37 + 2 * j19)) rfl d8_copyFrom_82 ?_
          refine z_aload_n fx (k := 1) (i := 1) rfl rfl d8_copyFrom_83 ?_
          refine z_getO fx 8 1 2 h_other lf8_19 fk8_1 d8_copyFrom_84 ?_
          refine z_iload_n fx (k := 2) (i := 2) rfl rfl d8_copyFrom_87 ?_
          obtain ⟨j20, e24, e17⟩ := zinv e17
          refine z_aald fx 1 (by decide) (ok8_1 hO h_other) e24 (v := .ref (v_other + 37 + 2 * j20)) rfl d8_copyFrom_88 ?_
          obtain ⟨μ21, e25, e17⟩ := zinv e17
          refine z_cVv fx (c4_copyFrom (zLo X) (zDo X) Sh top hO (o_ + 37 + 2 * j19) (v_other + 37 + 2 * j20) μ16 _ (okA1 hO (ok8_1 hO ho) (rI_lt e23)) (okA1 hO (ok8_1 hO h_other) (rI_lt e24)) e25) mv4_copyFrom ml8_88 (okA1 hO (ok8_1 hO ho) (rI_lt e23)) rfl rfl rfl rfl d8_copyFrom_89 ?_
          obtain ⟨v_end_22, e26, e17⟩ := zinv e17
          replace e26 := Option.some.inj e26
          refine z_iinc fx (i := 2) (x := v_end_15) (v := v_end_22) rfl (by rw [in1]; exact e26) rfl (lv' := [(0, .ref o_), (1, .ref v_other), (2, .int v_end_22)]) rfl rfl d8_copyFrom_92 ?_
          cases e17
          refine z_goto fx d8_copyFrom_95 ?_
          exact ih21 _ _ hl18
    exact klr19 _ _ _ e52
  clear h
  have klr9 : ∀ (n : Nat) (v_b_7 : Int32) (μ8 : zM), zloop (fun s => f8_copyFrom_L1 o_ v_other s.1 s.2) n (v_b_7, μ8) = some (v_b_9, μ10) → zZ zK1 X (zT0 Sh top) μ8 42 [(0, .ref o_), (1, .ref v_other), (2, .int v_b_7)] [] := by
    intro n
    induction n with
    | zero => intro v_b_7 μ8 hl8; cases hl8
    | succ n ih11 =>
      intro v_b_7 μ8 hl8
      obtain ⟨y, e7, hl8⟩ := zloop_inv hl8
      replace e7 : f8_copyFrom_L1 o_ v_other v_b_7 μ8 = some y := e7
      unfold f8_copyFrom_L1 at e7
      refine z_iload_n fx (k := 2) (i := 2) rfl rfl d8_copyFrom_42 ?_
      refine z_bipush fx (v := 8) bp8 d8_copyFrom_43 ?_
      refine z_icmp_ge fx d8_copyFrom_45 (fun c12 => ?_) (fun c12 => ?_)
      · replace e7 := zif_f c12 e7
        cases e7
        cases hl8
        exact kx10
      · replace e7 := zif_t c12 e7
        refine z_aload_n fx (k := 0) (i := 0) rfl rfl d8_copyFrom_48 ?_
        refine z_getO fx 8 0 1 ho lf8_11 fk8_0 d8_copyFrom_49 ?_
        refine z_iload_n fx (k := 2) (i := 2) rfl rfl d8_copyFrom_52 ?_
        obtain ⟨j11, e13, e7⟩ := zinv e7
        refine z_aald fx 0 (by decide) (ok8_0 hO ho) e13 (v := .ref (o_ + 13 + 3 * j11)) rfl d8_copyFrom_53 ?_
        refine z_aload_n fx (k := 1) (i := 1) rfl rfl d8_copyFrom_54 ?_
        refine z_getO fx 8 0 1 h_other lf8_11 fk8_0 d8_copyFrom_55 ?_
        refine z_iload_n fx (k := 2) (i := 2) rfl rfl d8_copyFrom_58 ?_
        obtain ⟨j12, e14, e7⟩ := zinv e7
        refine z_aald fx 0 (by decide) (ok8_0 hO h_other) e14 (v := .ref (v_other + 13 + 3 * j12)) rfl d8_copyFrom_59 ?_
        obtain ⟨μ13, e15, e7⟩ := zinv e7
        refine z_cVv fx (c0_copyFrom (zLo X) (zDo X) Sh top hO (o_ + 13 + 3 * j11) (v_other + 13 + 3 * j12) μ8 _ (okA0 hO (ok8_0 hO ho) (rI_lt e13)) (okA0 hO (ok8_0 hO h_other) (rI_lt e14)) e15) mv0_copyFrom ml8_84 (okA0 hO (ok8_0 hO ho) (rI_lt e13)) rfl rfl rfl rfl d8_copyFrom_60 ?_
        obtain ⟨v_b_14, e16, e7⟩ := zinv e7
        replace e16 := Option.some.inj e16
        refine z_iinc fx (i := 2) (x := v_b_7) (v := v_b_14) rfl (by rw [in1]; exact e16) rfl (lv' := [(0, .ref o_), (1, .ref v_other), (2, .int v_b_14)]) rfl rfl d8_copyFrom_63 ?_
        cases e7
        refine z_goto fx d8_copyFrom_66 ?_
        exact ih11 _ _ hl8
  exact klr9 _ _ _ e53
theorem d8_fade_0 : zd cX8_fade 0 (.iconst 0) 1 1 := by decide +kernel
theorem d8_fade_1 : zd cX8_fade 1 (.istore_n 2) 1 2 := by decide +kernel
theorem d8_fade_2 : zd cX8_fade 2 (.aload_n 0) 1 3 := by decide +kernel
theorem d8_fade_3 : zd cX8_fade 3 (.getfield 11) 3 6 := by decide +kernel
theorem d8_fade_6 : zd cX8_fade 6 (.iload_n 1) 1 7 := by decide +kernel
theorem d8_fade_7 : zd cX8_fade 7 (.aaload) 1 8 := by decide +kernel
theorem d8_fade_8 : zd cX8_fade 8 (.astore_n 3) 1 9 := by decide +kernel
theorem d8_fade_9 : zd cX8_fade 9 (.aload_n 3) 1 10 := by decide +kernel
theorem d8_fade_10 : zd cX8_fade 10 (.getfield 152) 3 13 := by decide +kernel
theorem d8_fade_13 : zj cX8_fade 13 (.ifCond .eq 13) 13 16 26 := by decide +kernel
theorem d8_fade_16 : zd cX8_fade 16 (.aload_n 3) 1 17 := by decide +kernel
theorem d8_fade_17 : zd cX8_fade 17 (.dup) 1 18 := by decide +kernel
theorem d8_fade_18 : zd cX8_fade 18 (.getfield 152) 3 21 := by decide +kernel
theorem d8_fade_21 : zd cX8_fade 21 (.iconst 1) 1 22 := by decide +kernel
theorem d8_fade_22 : zd cX8_fade 22 (.isub) 1 23 := by decide +kernel
theorem d8_fade_23 : zd cX8_fade 23 (.putfield 152) 3 26 := by decide +kernel
theorem d8_fade_26 : zd cX8_fade 26 (.iconst 0) 1 27 := by decide +kernel
theorem d8_fade_27 : zd cX8_fade 27 (.istore 4) 2 29 := by decide +kernel
theorem d8_fade_29 : zd cX8_fade 29 (.iload 4) 2 31 := by decide +kernel
theorem d8_fade_31 : zd cX8_fade 31 (.aload_n 0) 1 32 := by decide +kernel
theorem d8_fade_32 : zd cX8_fade 32 (.getfield 62) 3 35 := by decide +kernel
theorem d8_fade_35 : zd cX8_fade 35 (.getfield 174) 3 38 := by decide +kernel
theorem d8_fade_38 : zd cX8_fade 38 (.iload_n 1) 1 39 := by decide +kernel
theorem d8_fade_39 : zd cX8_fade 39 (.iaload) 1 40 := by decide +kernel
theorem d8_fade_40 : zj cX8_fade 40 (.if_icmp .ge 83) 83 43 123 := by decide +kernel
theorem d8_fade_43 : zd cX8_fade 43 (.aload_n 0) 1 44 := by decide +kernel
theorem d8_fade_44 : zd cX8_fade 44 (.getfield 19) 3 47 := by decide +kernel
theorem d8_fade_47 : zd cX8_fade 47 (.aload_n 0) 1 48 := by decide +kernel
theorem d8_fade_48 : zd cX8_fade 48 (.getfield 62) 3 51 := by decide +kernel
theorem d8_fade_51 : zd cX8_fade 51 (.iload_n 1) 1 52 := by decide +kernel
theorem d8_fade_52 : zd cX8_fade 52 (.iload 4) 2 54 := by decide +kernel
theorem d8_fade_54 : zd cX8_fade 54 (.invokevirtual 176) 3 57 := by decide +kernel
theorem d8_fade_57 : zd cX8_fade 57 (.aaload) 1 58 := by decide +kernel
theorem d8_fade_58 : zd cX8_fade 58 (.astore 5) 2 60 := by decide +kernel
theorem d8_fade_60 : zd cX8_fade 60 (.aload 5) 2 62 := by decide +kernel
theorem d8_fade_62 : zd cX8_fade 62 (.getfield 283) 3 65 := by decide +kernel
theorem d8_fade_65 : zj cX8_fade 65 (.ifCond .eq 14) 14 68 79 := by decide +kernel
theorem d8_fade_68 : zd cX8_fade 68 (.aload 5) 2 70 := by decide +kernel
theorem d8_fade_70 : zd cX8_fade 70 (.dup) 1 71 := by decide +kernel
theorem d8_fade_71 : zd cX8_fade 71 (.getfield 283) 3 74 := by decide +kernel
theorem d8_fade_74 : zd cX8_fade 74 (.iconst 1) 1 75 := by decide +kernel
theorem d8_fade_75 : zd cX8_fade 75 (.isub) 1 76 := by decide +kernel
theorem d8_fade_76 : zd cX8_fade 76 (.putfield 283) 3 79 := by decide +kernel
theorem d8_fade_79 : zd cX8_fade 79 (.aload 5) 2 81 := by decide +kernel
theorem d8_fade_81 : zd cX8_fade 81 (.getfield 230) 3 84 := by decide +kernel
theorem d8_fade_84 : zj cX8_fade 84 (.ifCond .ne 6) 6 87 90 := by decide +kernel
theorem d8_fade_87 : zj cX8_fade 87 (.goto 30) 30 90 117 := by decide +kernel
theorem d8_fade_90 : zd cX8_fade 90 (.aload 5) 2 92 := by decide +kernel
theorem d8_fade_92 : zd cX8_fade 92 (.dup) 1 93 := by decide +kernel
theorem d8_fade_93 : zd cX8_fade 93 (.getfield 338) 3 96 := by decide +kernel
theorem d8_fade_96 : zd cX8_fade 96 (.iconst 1) 1 97 := by decide +kernel
theorem d8_fade_97 : zd cX8_fade 97 (.isub) 1 98 := by decide +kernel
theorem d8_fade_98 : zd cX8_fade 98 (.putfield 338) 3 101 := by decide +kernel
theorem d8_fade_101 : zd cX8_fade 101 (.aload 5) 2 103 := by decide +kernel
theorem d8_fade_103 : zd cX8_fade 103 (.getfield 338) 3 106 := by decide +kernel
theorem d8_fade_106 : zj cX8_fade 106 (.ifCond .ne 11) 11 109 117 := by decide +kernel
theorem d8_fade_109 : zd cX8_fade 109 (.aload 5) 2 111 := by decide +kernel
theorem d8_fade_111 : zd cX8_fade 111 (.iconst 0) 1 112 := by decide +kernel
theorem d8_fade_112 : zd cX8_fade 112 (.putfield 230) 3 115 := by decide +kernel
theorem d8_fade_115 : zd cX8_fade 115 (.iconst 1) 1 116 := by decide +kernel
theorem d8_fade_116 : zd cX8_fade 116 (.istore_n 2) 1 117 := by decide +kernel
theorem d8_fade_117 : zd cX8_fade 117 (.iinc 4 1) 3 120 := by decide +kernel
theorem d8_fade_120 : zj cX8_fade 120 (.goto (-91)) (-91) 123 29 := by decide +kernel
theorem d8_fade_123 : zd cX8_fade 123 (.iload_n 2) 1 124 := by decide +kernel
theorem d8_fade_124 : zd cX8_fade 124 (.ireturn) 1 125 := by decide +kernel
set_option maxHeartbeats 4000000 in
set_option maxRecDepth 20000 in
theorem c8_fade (l : Launch) (D : zDt) (Sh : zSh) (top : Nat) (hO : zOK Sh) (o_ : Nat) (v_b : Int32) (μ : zM) (r_ : Bool) (μ_ : zM) (ho : (Sh o_).1 = 15) (h : f8_fade o_ v_b μ = some (r_, μ_)) : zMet l D zK1 yX8_fade cX8_fade 6 (some .boolean) (zrm 1 22) [.ref o_, .int v_b] Sh top μ (some (.int (bI r_))) Sh top μ_ 0 0 := by
  refine zMet_of (by decide) (Nat.le_of_ble_eq_true rfl) fun X hX1 hX2 fx fin => ?_
  subst hX1; subst hX2
  replace fx : zFix X cX8_fade RX8 (zrm 1 22) 6 := fx
  show zZ zK1 X (zT0 Sh top) μ 0 [(0, .ref o_), (1, .int v_b)] []
  unfold f8_fade at h
  refine z_iconst fx (v := 0) ic0 d8_fade_0 ?_
  refine z_top (show Value.int 0 = .int (bI false) from rfl) ?_
  refine z_istore_n fx (k := 2) (i := 2) rfl rfl (lv' := [(0, .ref o_), (1, .int v_b), (2, .int (bI false))]) rfl rfl d8_fade_1 ?_
  refine z_aload_n fx (k := 0) (i := 0) rfl rfl d8_fade_2 ?_
  refine z_getO fx 8 0 1 ho lf8_11 fk8_0 d8_fade_3 ?_
  refine z_iload_n fx (k := 1) (i := 1) rfl rfl d8_fade_6 ?_
  obtain ⟨j1, e1, h⟩ := zinv h
  refine z_aald fx 0 (by decide) (ok8_0 hO ho) e1 (v := .ref (o_ + 13 + 3 * j1)) rfl d8_fade_7 ?_
  refine z_astore_n fx (k := 3) (i := 3) rfl rfl (lv' := [(0, .ref o_), (1, .int v_b), (2, .int (bI false)), (3, .ref (o_ + 13 + 3 * j1))]) rfl rfl d8_fade_8 ?_
  obtain ⟨μ2, e2, h⟩ := zinv h
  have k3 : zZ zK1 X (zT0 Sh top) μ2 26 [(0, .ref o_), (1, .int v_b), (2, .int (bI false)), (3, .ref (o_ + 13 + 3 * j1))] [] := by
    refine z_iconst fx (v := 0) ic0 d8_fade_26 ?_
    refine z_istore fx (i := 4) rfl (lv' := [(0, .ref o_), (1, .int v_b), (2, .int (bI false)), (3, .ref (o_ + 13 + 3 * j1)), (4, .int 0)]) rfl rfl d8_fade_27 ?_
    obtain ⟨v_went_6, v_p_7, μ8, e26, h⟩ := zinv3 h
    have kx7 : zZ zK1 X (zT0 Sh top) μ8 123 [(0, .ref o_), (1, .int v_b), (2, .int (bI v_went_6)), (3, .ref (o_ + 13 + 3 * j1)), (4, .int v_p_7)] [] := by
      refine z_take 4 (lv' := [(0, .ref o_), (1, .int v_b), (2, .int (bI v_went_6)), (3, .ref (o_ + 13 + 3 * j1))]) rfl ?_
      refine z_iload_n fx (k := 2) (i := 2) rfl rfl d8_fade_123 ?_
      cases h
      exact z_zreturn fx fin d8_fade_124
    clear h
    have klr6 : ∀ (n : Nat) (v_went_3 : Bool) (v_p_4 : Int32) (μ5 : zM), zloop (fun s => f8_fade_L1 o_ v_b s.1 s.2.1 s.2.2) n (v_went_3, v_p_4, μ5) = some (v_went_6, v_p_7, μ8) → zZ zK1 X (zT0 Sh top) μ5 29 [(0, .ref o_), (1, .int v_b), (2, .int (bI v_went_3)), (3, .ref (o_ + 13 + 3 * j1)), (4, .int v_p_4)] [] := by
      intro n
      induction n with
      | zero => intro v_went_3 v_p_4 μ5 hl5; cases hl5
      | succ n ih8 =>
        intro v_went_3 v_p_4 μ5 hl5
        obtain ⟨y, e4, hl5⟩ := zloop_inv hl5
        replace e4 : f8_fade_L1 o_ v_b v_went_3 v_p_4 μ5 = some y := e4
        unfold f8_fade_L1 at e4
        refine z_iload fx (i := 4) rfl d8_fade_29 ?_
        refine z_aload_n fx (k := 0) (i := 0) rfl rfl d8_fade_31 ?_
        obtain ⟨w9, e9, e4⟩ := zinv e4
        refine z_getR fx 8 12 812 17 ho lf8_62 ⟨fk8_12, rfl⟩ e9 d8_fade_32 (fun tw9 => ?_)
        refine z_getO fx 10 4 5 tw9 lf8_174 fk10_4 d8_fade_35 ?_
        refine z_iload_n fx (k := 1) (i := 1) rfl rfl d8_fade_38 ?_
        obtain ⟨t10, e10, e4⟩ := zinv e4
        refine z_iald fx (ok10_4 hO tw9) e10 d8_fade_39 ?_
        refine z_icmp_ge fx d8_fade_40 (fun c11 => ?_) (fun c11 => ?_)
        · replace e4 := zif_f c11 e4
          cases e4
          cases hl5
          exact kx7
        · replace e4 := zif_t c11 e4
          refine z_aload_n fx (k := 0) (i := 0) rfl rfl d8_fade_43 ?_
          refine z_getO fx 8 1 2 ho lf8_19 fk8_1 d8_fade_44 ?_
          refine z_aload_n fx (k := 0) (i := 0) rfl rfl d8_fade_47 ?_
          obtain ⟨w11, e12, e4⟩ := zinv e4
          refine z_getR fx 8 12 812 17 ho lf8_62 ⟨fk8_12, rfl⟩ e12 d8_fade_48 (fun tw11 => ?_)
          refine z_iload_n fx (k := 1) (i := 1) rfl rfl d8_fade_51 ?_
          refine z_iload fx (i := 4) rfl d8_fade_52 ?_
          obtain ⟨t12, e13, e4⟩ := zinv e4
          refine z_cVr fx (c10_endOf (zLo X) (zDo X) Sh top hO w11 v_b v_p_4 μ5 _ tw11 e13) mv10_endOf ml8_176 tw11 rfl rfl rfl rfl d8_fade_54 ?_
          obtain ⟨j13, e14, e4⟩ := zinv e4
          refine z_aald fx 1 (by decide) (ok8_1 hO ho) e14 (v := .ref (o_ + 37 + 2 * j13)) rfl d8_fade_57 ?_
          refine z_astore fx (i := 5) rfl (lv' := [(0, .ref o_), (1, .int v_b), (2, .int (bI v_went_3)), (3, .ref (o_ + 13 + 3 * j1)), (4, .int v_p_4), (5, .ref (o_ + 37 + 2 * j13))]) rfl rfl d8_fade_58 ?_
          obtain ⟨μ14, e15, e4⟩ := zinv e4
          have k16 : zZ zK1 X (zT0 Sh top) μ14 79 [(0, .ref o_), (1, .int v_b), (2, .int (bI v_went_3)), (3, .ref (o_ + 13 + 3 * j1)), (4, .int v_p_4), (5, .ref (o_ + 37 + 2 * j13))] [] := by
            refine z_aload fx (i := 5) rfl d8_fade_79 ?_
            refine z_getB fx 4 1 401 (okA1 hO (ok8_1 hO ho) (rI_lt e14)) lf8_230 ⟨fk4_1, rfl⟩ d8_fade_81 ?_
            refine z_ifb_ne fx d8_fade_84 (fun c17 => ?_) (fun c17 => ?_)
            · replace e4 := zif_t c17 e4
              refine z_aload fx (i := 5) rfl d8_fade_90 ?_
              refine z_dup fx rfl d8_fade_92 ?_
              refine z_getI fx 4 3 403 (okA1 hO (ok8_1 hO ho) (rI_lt e14)) lf8_338 ⟨fk4_3, rfl⟩ d8_fade_93 ?_
              refine z_iconst fx (v := 1) ic1 d8_fade_96 ?_
              refine z_isub fx d8_fade_97 ?_
              obtain ⟨μ15, e18, e4⟩ := zinv e4
              refine z_putI fx (ci := 4) 3 (okA1 hO (ok8_1 hO ho) (rI_lt e14)) lf8_338 fp4_3 e18 d8_fade_98 ?_
              refine z_aload fx (i := 5) rfl d8_fade_101 ?_
              refine z_getI fx 4 3 403 (okA1 hO (ok8_1 hO ho) (rI_lt e14)) lf8_338 ⟨fk4_3, rfl⟩ d8_fade_103 ?_
              refine z_if_ne fx d8_fade_106 (fun c19 => ?_) (fun c19 => ?_)
              · replace e4 := zif_f c19 e4
                refine z_take 5 (lv' := [(0, .ref o_), (1, .int v_b), (2, .int (bI v_went_3)), (3, .ref (o_ + 13 + 3 * j1)), (4, .int v_p_4)]) rfl ?_
                obtain ⟨v_p_16, e20, e4⟩ := zinv e4
                replace e20 := Option.some.inj e20
                refine z_iinc fx (i := 4) (x := v_p_4) (v := v_p_16) rfl (by rw [in1]; exact e20) rfl (lv' := [(0, .ref o_), (1, .int v_b), (2, .int (bI v_went_3)), (3, .ref (o_ + 13 + 3 * j1)), (4, .int v_p_16)]) rfl rfl d8_fade_117 ?_
                cases e4
                refine z_goto fx d8_fade_120 ?_
                exact ih8 _ _ _ hl5
              · replace e4 := zif_t c19 e4
                refine z_aload fx (i := 5) rfl d8_fade_109 ?_
                refine z_iconst fx (v := 0) ic0 d8_fade_111 ?_
                refine z_top (show Value.int 0 = .int (bI false) from rfl) ?_
                obtain ⟨μ17, e21, e4⟩ := zinv e4
                refine z_putB fx (ci := 4) 1 (okA1 hO (ok8_1 hO ho) (rI_lt e14)) lf8_230 fp4_1 e21 d8_fade_112 ?_
                refine z_iconst fx (v := 1) ic1 d8_fade_115 ?_
                refine z_top (show Value.int 1 = .int (bI true) from rfl) ?_
                refine z_istore_n fx (k := 2) (i := 2) rfl rfl (lv' := [(0, .ref o_), (1, .int v_b), (2, .int (bI true)), (3, .ref (o_ + 13 + 3 * j1)), (4, .int v_p_4), (5, .ref (o_ + 37 + 2 * j13))]) rfl rfl d8_fade_116 ?_
                refine z_take 5 (lv' := [(0, .ref o_), (1, .int v_b), (2, .int (bI true)), (3, .ref (o_ + 13 + 3 * j1)), (4, .int v_p_4)]) rfl ?_
                obtain ⟨v_p_18, e22, e4⟩ := zinv e4
                replace e22 := Option.some.inj e22
                refine z_iinc fx (i := 4) (x := v_p_4) (v := v_p_18) rfl (by rw [in1]; exact e22) rfl (lv' := [(0, .ref o_), (1, .int v_b), (2, .int (bI true)), (3, .ref (o_ + 13 + 3 * j1)), (4, .int v_p_18)]) rfl rfl d8_fade_117 ?_
                cases e4
                refine z_goto fx d8_fade_120 ?_
                exact ih8 _ _ _ hl5
            · replace e4 := zif_f c17 e4
              refine z_take 5 (lv' := [(0, .ref o_), (1, .int v_b), (2, .int (bI v_went_3)), (3, .ref (o_ + 13 + 3 * j1)), (4, .int v_p_4)]) rfl ?_
              refine z_goto fx d8_fade_87 ?_
              obtain ⟨v_p_19, e23, e4⟩ := zinv e4
              replace e23 := Option.some.inj e23
              refine z_iinc fx (i := 4) (x := v_p_4) (v := v_p_19) rfl (by rw [in1]; exact e23) rfl (lv' := [(0, .ref o_), (1, .int v_b), (2, .int (bI v_went_3)), (3, .ref (o_ + 13 + 3 * j1)), (4, .int v_p_19)]) rfl rfl d8_fade_117 ?_
              cases e4
              refine z_goto fx d8_fade_120 ?_
              exact ih8 _ _ _ hl5
          clear e4
          refine z_aload fx (i := 5) rfl d8_fade_60 ?_
          refine z_getI fx 4 8 408 (okA1 hO (ok8_1 hO ho) (rI_lt e14)) lf8_283 ⟨fk4_8, rfl⟩ d8_fade_62 ?_
          refine z_if_eq fx d8_fade_65 (fun c24 => ?_) (fun c24 => ?_)
          · replace e15 := zif_t c24 e15
            cases e15
            exact k16
          · replace e15 := zif_f c24 e15
            refine z_aload fx (i := 5) rfl d8_fade_68 ?_
            refine z_dup fx rfl d8_fade_70 ?_
            refine z_getI fx 4 8 408 (okA1 hO (ok8_1 hO ho) (rI_lt e14)) lf8_283 ⟨fk4_8, rfl⟩ d8_fade_71 ?_
            refine z_iconst fx (v := 1) ic1 d8_fade_74 ?_
            refine z_isub fx d8_fade_75 ?_
            obtain ⟨μ20, e25, e15⟩ := zinv e15
            refine z_putI fx (ci := 4) 8 (okA1 hO (ok8_1 hO ho) (rI_lt e14)) lf8_283 fp4_8 e25 d8_fade_76 ?_
            cases e15
            exact k16
    exact klr6 _ _ _ _ e26
  clear h
  refine z_aload_n fx (k := 3) (i := 3) rfl rfl d8_fade_9 ?_
  refine z_getI fx 0 8 8 (okA0 hO (ok8_0 hO ho) (rI_lt e1)) lf8_152 ⟨fk0_8, rfl⟩ d8_fade_10 ?_
  refine z_if_eq fx d8_fade_13 (fun c27 => ?_) (fun c27 => ?_)
  · replace e2 := zif_t c27 e2
    cases e2
    exact k3
  · replace e2 := zif_f c27 e2
    refine z_aload_n fx (k := 3) (i := 3) rfl rfl d8_fade_16 ?_
    refine z_dup fx rfl d8_fade_17 ?_
    refine z_getI fx 0 8 8 (okA0 hO (ok8_0 hO ho) (rI_lt e1)) lf8_152 ⟨fk0_8, rfl⟩ d8_fade_18 ?_
    refine z_iconst fx (v := 1) ic1 d8_fade_21 ?_
    refine z_isub fx d8_fade_22 ?_
    obtain ⟨μ21, e28, e2⟩ := zinv e2
    refine z_putI fx (ci := 0) 8 (okA0 hO (ok8_0 hO ho) (rI_lt e1)) lf8_152 fp0_8 e28 d8_fade_23 ?_
    cases e2
    exact k3
theorem d8_ageAddresses_0 : zd cX8_ageAddresses 0 (.aload_n 0) 1 1 := by decide +kernel
theorem d8_ageAddresses_1 : zd cX8_ageAddresses 1 (.getfield 11) 3 4 := by decide +kernel
theorem d8_ageAddresses_4 : zd cX8_ageAddresses 4 (.iload_n 1) 1 5 := by decide +kernel
theorem d8_ageAddresses_5 : zd cX8_ageAddresses 5 (.aaload) 1 6 := by decide +kernel
theorem d8_ageAddresses_6 : zd cX8_ageAddresses 6 (.getfield 152) 3 9 := by decide +kernel
theorem d8_ageAddresses_9 : zj cX8_ageAddresses 9 (.ifCond .eq 7) 7 12 16 := by decide +kernel
theorem d8_ageAddresses_12 : zd cX8_ageAddresses 12 (.iconst 1) 1 13 := by decide +kernel
theorem d8_ageAddresses_13 : zj cX8_ageAddresses 13 (.goto 4) 4 16 17 := by decide +kernel
theorem d8_ageAddresses_16 : zd cX8_ageAddresses 16 (.iconst 0) 1 17 := by decide +kernel
theorem d8_ageAddresses_17 : zd cX8_ageAddresses 17 (.istore_n 2) 1 18 := by decide +kernel
theorem d8_ageAddresses_18 : zd cX8_ageAddresses 18 (.iload_n 1) 1 19 := by decide +kernel
theorem d8_ageAddresses_19 : zd cX8_ageAddresses 19 (.bipush 8) 2 21 := by decide +kernel
theorem d8_ageAddresses_21 : zd cX8_ageAddresses 21 (.imul) 1 22 := by decide +kernel
theorem d8_ageAddresses_22 : zd cX8_ageAddresses 22 (.istore_n 3) 1 23 := by decide +kernel
theorem d8_ageAddresses_23 : zd cX8_ageAddresses 23 (.iload_n 3) 1 24 := by decide +kernel
theorem d8_ageAddresses_24 : zd cX8_ageAddresses 24 (.iload_n 1) 1 25 := by decide +kernel
theorem d8_ageAddresses_25 : zd cX8_ageAddresses 25 (.bipush 8) 2 27 := by decide +kernel
theorem d8_ageAddresses_27 : zd cX8_ageAddresses 27 (.imul) 1 28 := by decide +kernel
theorem d8_ageAddresses_28 : zd cX8_ageAddresses 28 (.bipush 8) 2 30 := by decide +kernel
theorem d8_ageAddresses_30 : zd cX8_ageAddresses 30 (.iadd) 1 31 := by decide +kernel
theorem d8_ageAddresses_31 : zj cX8_ageAddresses 31 (.if_icmp .ge 70) 70 34 101 := by decide +kernel
theorem d8_ageAddresses_34 : zd cX8_ageAddresses 34 (.aload_n 0) 1 35 := by decide +kernel
theorem d8_ageAddresses_35 : zd cX8_ageAddresses 35 (.getfield 37) 3 38 := by decide +kernel
theorem d8_ageAddresses_38 : zd cX8_ageAddresses 38 (.iload_n 3) 1 39 := by decide +kernel
theorem d8_ageAddresses_39 : zd cX8_ageAddresses 39 (.iaload) 1 40 := by decide +kernel
theorem d8_ageAddresses_40 : zd cX8_ageAddresses 40 (.iconst (-1)) 1 41 := by decide +kernel
theorem d8_ageAddresses_41 : zj cX8_ageAddresses 41 (.if_icmp .ne 6) 6 44 47 := by decide +kernel
theorem d8_ageAddresses_44 : zj cX8_ageAddresses 44 (.goto 51) 51 47 95 := by decide +kernel
theorem d8_ageAddresses_47 : zd cX8_ageAddresses 47 (.aload_n 0) 1 48 := by decide +kernel
theorem d8_ageAddresses_48 : zd cX8_ageAddresses 48 (.getfield 40) 3 51 := by decide +kernel
theorem d8_ageAddresses_51 : zd cX8_ageAddresses 51 (.iload_n 3) 1 52 := by decide +kernel
theorem d8_ageAddresses_52 : zd cX8_ageAddresses 52 (.dup2) 1 53 := by decide +kernel
theorem d8_ageAddresses_53 : zd cX8_ageAddresses 53 (.iaload) 1 54 := by decide +kernel
theorem d8_ageAddresses_54 : zd cX8_ageAddresses 54 (.iconst 1) 1 55 := by decide +kernel
theorem d8_ageAddresses_55 : zd cX8_ageAddresses 55 (.iadd) 1 56 := by decide +kernel
theorem d8_ageAddresses_56 : zd cX8_ageAddresses 56 (.iastore) 1 57 := by decide +kernel
theorem d8_ageAddresses_57 : zd cX8_ageAddresses 57 (.aload_n 0) 1 58 := by decide +kernel
theorem d8_ageAddresses_58 : zd cX8_ageAddresses 58 (.getfield 40) 3 61 := by decide +kernel
theorem d8_ageAddresses_61 : zd cX8_ageAddresses 61 (.iload_n 3) 1 62 := by decide +kernel
theorem d8_ageAddresses_62 : zd cX8_ageAddresses 62 (.iaload) 1 63 := by decide +kernel
theorem d8_ageAddresses_63 : zd cX8_ageAddresses 63 (.bipush 30) 2 65 := by decide +kernel
theorem d8_ageAddresses_65 : zj cX8_ageAddresses 65 (.if_icmp .ge 23) 23 68 88 := by decide +kernel
theorem d8_ageAddresses_68 : zd cX8_ageAddresses 68 (.iload_n 2) 1 69 := by decide +kernel
theorem d8_ageAddresses_69 : zj cX8_ageAddresses 69 (.ifCond .eq 26) 26 72 95 := by decide +kernel
theorem d8_ageAddresses_72 : zd cX8_ageAddresses 72 (.aload_n 0) 1 73 := by decide +kernel
theorem d8_ageAddresses_73 : zd cX8_ageAddresses 73 (.getfield 40) 3 76 := by decide +kernel
theorem d8_ageAddresses_76 : zd cX8_ageAddresses 76 (.iload_n 3) 1 77 := by decide +kernel
theorem d8_ageAddresses_77 : zd cX8_ageAddresses 77 (.iaload) 1 78 := by decide +kernel
theorem d8_ageAddresses_78 : zd cX8_ageAddresses 78 (.aload_n 0) 1 79 := by decide +kernel
theorem d8_ageAddresses_79 : zd cX8_ageAddresses 79 (.getfield 62) 3 82 := by decide +kernel
theorem d8_ageAddresses_82 : zd cX8_ageAddresses 82 (.getfield 214) 3 85 := by decide +kernel
theorem d8_ageAddresses_85 : zj cX8_ageAddresses 85 (.if_icmp .le 10) 10 88 95 := by decide +kernel
theorem d8_ageAddresses_88 : zd cX8_ageAddresses 88 (.aload_n 0) 1 89 := by decide +kernel
theorem d8_ageAddresses_89 : zd cX8_ageAddresses 89 (.getfield 37) 3 92 := by decide +kernel
theorem d8_ageAddresses_92 : zd cX8_ageAddresses 92 (.iload_n 3) 1 93 := by decide +kernel
theorem d8_ageAddresses_93 : zd cX8_ageAddresses 93 (.iconst (-1)) 1 94 := by decide +kernel
theorem d8_ageAddresses_94 : zd cX8_ageAddresses 94 (.iastore) 1 95 := by decide +kernel
theorem d8_ageAddresses_95 : zd cX8_ageAddresses 95 (.iinc 3 1) 3 98 := by decide +kernel
theorem d8_ageAddresses_98 : zj cX8_ageAddresses 98 (.goto (-75)) (-75) 101 23 := by decide +kernel
theorem d8_ageAddresses_101 : zd cX8_ageAddresses 101 (.return_) 1 102 := by decide +kernel
set_option maxHeartbeats 4000000 in
set_option maxRecDepth 20000 in
theorem c8_ageAddresses (l : Launch) (D : zDt) (Sh : zSh) (top : Nat) (hO : zOK Sh) (o_ : Nat) (v_b : Int32) (μ : zM) (μ_ : zM) (ho : (Sh o_).1 = 15) (h : f8_ageAddresses o_ v_b μ = some μ_) : zMet l D zK1 yX8_ageAddresses cX8_ageAddresses 4 none (zrm 0 0) [.ref o_, .int v_b] Sh top μ none Sh top μ_ 0 0 := by
  refine zMet_of (by decide) (Nat.le_of_ble_eq_true rfl) fun X hX1 hX2 fx fin => ?_
  subst hX1; subst hX2
  replace fx : zFix X cX8_ageAddresses RX8 (zrm 0 0) 4 := fx
  show zZ zK1 X (zT0 Sh top) μ 0 [(0, .ref o_), (1, .int v_b)] []
  unfold f8_ageAddresses at h
  obtain ⟨b1, e1, h⟩ := zinv h
  have k2 : zZ zK1 X (zT0 Sh top) μ 17 [(0, .ref o_), (1, .int v_b)] [.int (bI b1)] := by
    refine z_istore_n fx (k := 2) (i := 2) rfl rfl (lv' := [(0, .ref o_), (1, .int v_b), (2, .int (bI b1))]) rfl rfl d8_ageAddresses_17 ?_
    refine z_iload_n fx (k := 1) (i := 1) rfl rfl d8_ageAddresses_18 ?_
    refine z_bipush fx (v := 8) bp8 d8_ageAddresses_19 ?_
    refine z_imul fx d8_ageAddresses_21 ?_
    obtain ⟨v_k_3, e6, h⟩ := zinv h
    replace e6 := Option.some.inj e6
    refine z_top (congrArg Value.int e6) ?_
    refine z_istore_n fx (k := 3) (i := 3) rfl rfl (lv' := [(0, .ref o_), (1, .int v_b), (2, .int (bI b1)), (3, .int v_k_3)]) rfl rfl d8_ageAddresses_22 ?_
    obtain ⟨v_k_6, μ7, e31, h⟩ := zinv2 h
    have kx10 : zZ zK1 X (zT0 Sh top) μ7 101 [(0, .ref o_), (1, .int v_b), (2, .int (bI b1)), (3, .int v_k_6)] [] := by
      refine z_take 3 (lv' := [(0, .ref o_), (1, .int v_b), (2, .int (bI b1))]) rfl ?_
      cases h
      exact z_return fx fin d8_ageAddresses_101
    clear h
    have klr9 : ∀ (n : Nat) (v_k_4 : Int32) (μ5 : zM), zloop (fun s => f8_ageAddresses_L1 o_ v_b b1 s.1 s.2) n (v_k_4, μ5) = some (v_k_6, μ7) → zZ zK1 X (zT0 Sh top) μ5 23 [(0, .ref o_), (1, .int v_b), (2, .int (bI b1)), (3, .int v_k_4)] [] := by
      intro n
      induction n with
      | zero => intro v_k_4 μ5 hl8; cases hl8
      | succ n ih11 =>
        intro v_k_4 μ5 hl8
        obtain ⟨y, e7, hl8⟩ := zloop_inv hl8
        replace e7 : f8_ageAddresses_L1 o_ v_b b1 v_k_4 μ5 = some y := e7
        unfold f8_ageAddresses_L1 at e7
        refine z_iload_n fx (k := 3) (i := 3) rfl rfl d8_ageAddresses_23 ?_
        refine z_iload_n fx (k := 1) (i := 1) rfl rfl d8_ageAddresses_24 ?_
        refine z_bipush fx (v := 8) bp8 d8_ageAddresses_25 ?_
        refine z_imul fx d8_ageAddresses_27 ?_
        refine z_bipush fx (v := 8) bp8 d8_ageAddresses_28 ?_
        refine z_iadd fx d8_ageAddresses_30 ?_
        refine z_icmp_ge fx d8_ageAddresses_31 (fun c12 => ?_) (fun c12 => ?_)
        · replace e7 := zif_f c12 e7
          cases e7
          cases hl8
          exact kx10
        · replace e7 := zif_t c12 e7
          refine z_aload_n fx (k := 0) (i := 0) rfl rfl d8_ageAddresses_34 ?_
          refine z_getO fx 8 5 6 ho lf8_37 fk8_5 d8_ageAddresses_35 ?_
          refine z_iload_n fx (k := 3) (i := 3) rfl rfl d8_ageAddresses_38 ?_
          obtain ⟨t8, e13, e7⟩ := zinv e7
          refine z_iald fx (ok8_5 hO ho) e13 d8_ageAddresses_39 ?_
          refine z_iconst fx (v := (-1)) icm1 d8_ageAddresses_40 ?_
          refine z_icmp_ne fx d8_ageAddresses_41 (fun c14 => ?_) (fun c14 => ?_)
          · replace e7 := zif_f c14 e7
            refine z_aload_n fx (k := 0) (i := 0) rfl rfl d8_ageAddresses_47 ?_
            refine z_getO fx 8 6 7 ho lf8_40 fk8_6 d8_ageAddresses_48 ?_
            refine z_iload_n fx (k := 3) (i := 3) rfl rfl d8_ageAddresses_51 ?_
            refine z_dup2 fx rfl rfl d8_ageAddresses_52 ?_
            obtain ⟨t9, e15, e7⟩ := zinv e7
            refine z_iald fx (ok8_6 hO ho) e15 d8_ageAddresses_53 ?_
            refine z_iconst fx (v := 1) ic1 d8_ageAddresses_54 ?_
            refine z_iadd fx d8_ageAddresses_55 ?_
            obtain ⟨μ10, e16, e7⟩ := zinv e7
            refine z_iast fx (ok8_6 hO ho) e16 d8_ageAddresses_56 ?_
            obtain ⟨b11, e18, e7⟩ := zinv e7
            have kt17 : b11 = true → zZ zK1 X (zT0 Sh top) μ10 88 [(0, .ref o_), (1, .int v_b), (2, .int (bI b1)), (3, .int v_k_4)] [] := by
              intro hc
              replace e7 := zif_t hc e7
              refine z_aload_n fx (k := 0) (i := 0) rfl rfl d8_ageAddresses_88 ?_
              refine z_getO fx 8 5 6 ho lf8_37 fk8_5 d8_ageAddresses_89 ?_
              refine z_iload_n fx (k := 3) (i := 3) rfl rfl d8_ageAddresses_92 ?_
              refine z_iconst fx (v := (-1)) icm1 d8_ageAddresses_93 ?_
              obtain ⟨μ12, e19, e7⟩ := zinv e7
              refine z_iast fx (ok8_5 hO ho) e19 d8_ageAddresses_94 ?_
              obtain ⟨v_k_13, e20, e7⟩ := zinv e7
              replace e20 := Option.some.inj e20
              refine z_iinc fx (i := 3) (x := v_k_4) (v := v_k_13) rfl (by rw [in1]; exact e20) rfl (lv' := [(0, .ref o_), (1, .int v_b), (2, .int (bI b1)), (3, .int v_k_13)]) rfl rfl d8_ageAddresses_95 ?_
              cases e7
              refine z_goto fx d8_ageAddresses_98 ?_
              exact ih11 _ _ hl8
            have kf17 : b11 = false → zZ zK1 X (zT0 Sh top) μ10 95 [(0, .ref o_), (1, .int v_b), (2, .int (bI b1)), (3, .int v_k_4)] [] := by
              intro hc
              replace e7 := zif_f hc e7
              obtain ⟨v_k_14, e21, e7⟩ := zinv e7
              replace e21 := Option.some.inj e21
              refine z_iinc fx (i := 3) (x := v_k_4) (v := v_k_14) rfl (by rw [in1]; exact e21) rfl (lv' := [(0, .ref o_), (1, .int v_b), (2, .int (bI b1)), (3, .int v_k_14)]) rfl rfl d8_ageAddresses_95 ?_
              cases e7
              refine z_goto fx d8_ageAddresses_98 ?_
              exact ih11 _ _ hl8
            clear e7
            obtain ⟨b15, e22, e18⟩ := zinv e18
            have kf23 : b15 = false → zZ zK1 X (zT0 Sh top) μ10 68 [(0, .ref o_), (1, .int v_b), (2, .int (bI b1)), (3, .int v_k_4)] [] := by
              intro hc
              replace e18 := zif_f hc e18
              refine z_iload_n fx (k := 2) (i := 2) rfl rfl d8_ageAddresses_68 ?_
              refine z_ifb_eq fx d8_ageAddresses_69 (fun c24 => ?_) (fun c24 => ?_)
              · replace e18 := zif_f c24 e18
                cases e18
                exact kf17 rfl
              · replace e18 := zif_t c24 e18
                refine z_aload_n fx (k := 0) (i := 0) rfl rfl d8_ageAddresses_72 ?_
                refine z_getO fx 8 6 7 ho lf8_40 fk8_6 d8_ageAddresses_73 ?_
                refine z_iload_n fx (k := 3) (i := 3) rfl rfl d8_ageAddresses_76 ?_
                obtain ⟨t16, e25, e18⟩ := zinv e18
                refine z_iald fx (ok8_6 hO ho) e25 d8_ageAddresses_77 ?_
                refine z_aload_n fx (k := 0) (i := 0) rfl rfl d8_ageAddresses_78 ?_
                obtain ⟨w17, e26, e18⟩ := zinv e18
                refine z_getR fx 8 12 812 17 ho lf8_62 ⟨fk8_12, rfl⟩ e26 d8_ageAddresses_79 (fun tw17 => ?_)
                refine z_getI fx 10 14 1014 tw17 lf8_214 ⟨fk10_14, rfl⟩ d8_ageAddresses_82 ?_
                cases e18
                refine z_icmp_le fx d8_ageAddresses_85 (fun c27 => ?_) (fun c27 => ?_)
                · exact kf17 c27
                · exact kt17 c27
            have kt23 : b15 = true → zZ zK1 X (zT0 Sh top) μ10 88 [(0, .ref o_), (1, .int v_b), (2, .int (bI b1)), (3, .int v_k_4)] [] := by
              intro hc
              replace e18 := zif_t hc e18
              cases e18
              exact kt17 rfl
            clear e18
            refine z_aload_n fx (k := 0) (i := 0) rfl rfl d8_ageAddresses_57 ?_
            refine z_getO fx 8 6 7 ho lf8_40 fk8_6 d8_ageAddresses_58 ?_
            refine z_iload_n fx (k := 3) (i := 3) rfl rfl d8_ageAddresses_61 ?_
            obtain ⟨t18, e28, e22⟩ := zinv e22
            refine z_iald fx (ok8_6 hO ho) e28 d8_ageAddresses_62 ?_
            refine z_bipush fx (v := 30) bp30 d8_ageAddresses_63 ?_
            cases e22
            refine z_icmp_ge fx d8_ageAddresses_65 (fun c29 => ?_) (fun c29 => ?_)
            · exact kt23 (by rw [c29]; rfl)
            · exact kf23 (by rw [c29]; rfl)
          · replace e7 := zif_t c14 e7
            refine z_goto fx d8_ageAddresses_44 ?_
            obtain ⟨v_k_19, e30, e7⟩ := zinv e7
            replace e30 := Option.some.inj e30
            refine z_iinc fx (i := 3) (x := v_k_4) (v := v_k_19) rfl (by rw [in1]; exact e30) rfl (lv' := [(0, .ref o_), (1, .int v_b), (2, .int (bI b1)), (3, .int v_k_19)]) rfl rfl d8_ageAddresses_95 ?_
            cases e7
            refine z_goto fx d8_ageAddresses_98 ?_
            exact ih11 _ _ hl8
    exact klr9 _ _ _ e31
  have kt3 : b1 = true → zZ zK1 X (zT0 Sh top) μ 12 [(0, .ref o_), (1, .int v_b)] [] := by
    intro hc
    refine z_iconst fx (v := 1) ic1 d8_ageAddresses_12 ?_
    refine z_goto fx d8_ageAddresses_13 ?_
    exact z_top (congrArg Value.int (show 1 = bI b1 by rw [hc]; rfl)) k2
  have kf3 : b1 = false → zZ zK1 X (zT0 Sh top) μ 16 [(0, .ref o_), (1, .int v_b)] [] := by
    intro hc
    refine z_iconst fx (v := 0) ic0 d8_ageAddresses_16 ?_
    exact z_top (congrArg Value.int (show 0 = bI b1 by rw [hc]; rfl)) k2
  refine z_aload_n fx (k := 0) (i := 0) rfl rfl d8_ageAddresses_0 ?_
  refine z_getO fx 8 0 1 ho lf8_11 fk8_0 d8_ageAddresses_1 ?_
  refine z_iload_n fx (k := 1) (i := 1) rfl rfl d8_ageAddresses_4 ?_
  obtain ⟨j2, e4, e1⟩ := zinv e1
  refine z_aald fx 0 (by decide) (ok8_0 hO ho) e4 (v := .ref (o_ + 13 + 3 * j2)) rfl d8_ageAddresses_5 ?_
  refine z_getI fx 0 8 8 (okA0 hO (ok8_0 hO ho) (rI_lt e4)) lf8_152 ⟨fk0_8, rfl⟩ d8_ageAddresses_6 ?_
  cases e1
  refine z_if_eq fx d8_ageAddresses_9 (fun c5 => ?_) (fun c5 => ?_)
  · exact kf3 (by rw [c5]; rfl)
  · exact kt3 (by rw [c5]; rfl)
theorem d8_markByTick_0 : zd cX8_markByTick 0 (.aload_n 0) 1 1 := by decide +kernel
theorem d8_markByTick_1 : zd cX8_markByTick 1 (.getfield 11) 3 4 := by decide +kernel
theorem d8_markByTick_4 : zd cX8_markByTick 4 (.iload_n 1) 1 5 := by decide +kernel
theorem d8_markByTick_5 : zd cX8_markByTick 5 (.aaload) 1 6 := by decide +kernel
theorem d8_markByTick_6 : zd cX8_markByTick 6 (.astore_n 2) 1 7 := by decide +kernel
theorem d8_markByTick_7 : zd cX8_markByTick 7 (.aload_n 2) 1 8 := by decide +kernel
theorem d8_markByTick_8 : zd cX8_markByTick 8 (.getfield 117) 3 11 := by decide +kernel
theorem d8_markByTick_11 : zj cX8_markByTick 11 (.ifCond .eq 11) 11 14 22 := by decide +kernel
theorem d8_markByTick_14 : zd cX8_markByTick 14 (.aload_n 2) 1 15 := by decide +kernel
theorem d8_markByTick_15 : zd cX8_markByTick 15 (.getfield 266) 3 18 := by decide +kernel
theorem d8_markByTick_18 : zd cX8_markByTick 18 (.iconst (-1)) 1 19 := by decide +kernel
theorem d8_markByTick_19 : zj cX8_markByTick 19 (.if_icmp .ne 7) 7 22 26 := by decide +kernel
theorem d8_markByTick_22 : zd cX8_markByTick 22 (.iconst 1) 1 23 := by decide +kernel
theorem d8_markByTick_23 : zj cX8_markByTick 23 (.goto 4) 4 26 27 := by decide +kernel
theorem d8_markByTick_26 : zd cX8_markByTick 26 (.iconst 0) 1 27 := by decide +kernel
theorem d8_markByTick_27 : zd cX8_markByTick 27 (.istore_n 3) 1 28 := by decide +kernel
theorem d8_markByTick_28 : zd cX8_markByTick 28 (.iconst 0) 1 29 := by decide +kernel
theorem d8_markByTick_29 : zd cX8_markByTick 29 (.istore 4) 2 31 := by decide +kernel
theorem d8_markByTick_31 : zd cX8_markByTick 31 (.iload 4) 2 33 := by decide +kernel
theorem d8_markByTick_33 : zd cX8_markByTick 33 (.aload_n 0) 1 34 := by decide +kernel
theorem d8_markByTick_34 : zd cX8_markByTick 34 (.getfield 62) 3 37 := by decide +kernel
theorem d8_markByTick_37 : zd cX8_markByTick 37 (.getfield 174) 3 40 := by decide +kernel
theorem d8_markByTick_40 : zd cX8_markByTick 40 (.iload_n 1) 1 41 := by decide +kernel
theorem d8_markByTick_41 : zd cX8_markByTick 41 (.iaload) 1 42 := by decide +kernel
theorem d8_markByTick_42 : zj cX8_markByTick 42 (.if_icmp .ge 62) 62 45 104 := by decide +kernel
theorem d8_markByTick_45 : zd cX8_markByTick 45 (.aload_n 0) 1 46 := by decide +kernel
theorem d8_markByTick_46 : zd cX8_markByTick 46 (.getfield 19) 3 49 := by decide +kernel
theorem d8_markByTick_49 : zd cX8_markByTick 49 (.aload_n 0) 1 50 := by decide +kernel
theorem d8_markByTick_50 : zd cX8_markByTick 50 (.getfield 62) 3 53 := by decide +kernel
theorem d8_markByTick_53 : zd cX8_markByTick 53 (.iload_n 1) 1 54 := by decide +kernel
theorem d8_markByTick_54 : zd cX8_markByTick 54 (.iload 4) 2 56 := by decide +kernel
theorem d8_markByTick_56 : zd cX8_markByTick 56 (.invokevirtual 176) 3 59 := by decide +kernel
theorem d8_markByTick_59 : zd cX8_markByTick 59 (.aaload) 1 60 := by decide +kernel
theorem d8_markByTick_60 : zd cX8_markByTick 60 (.astore 5) 2 62 := by decide +kernel
theorem d8_markByTick_62 : zd cX8_markByTick 62 (.aload 5) 2 64 := by decide +kernel
theorem d8_markByTick_64 : zd cX8_markByTick 64 (.getfield 260) 3 67 := by decide +kernel
theorem d8_markByTick_67 : zd cX8_markByTick 67 (.iconst 2) 1 68 := by decide +kernel
theorem d8_markByTick_68 : zj cX8_markByTick 68 (.if_icmp .ne 7) 7 71 75 := by decide +kernel
theorem d8_markByTick_71 : zd cX8_markByTick 71 (.iload_n 3) 1 72 := by decide +kernel
theorem d8_markByTick_72 : zj cX8_markByTick 72 (.ifCond .ne 20) 20 75 92 := by decide +kernel
theorem d8_markByTick_75 : zd cX8_markByTick 75 (.aload 5) 2 77 := by decide +kernel
theorem d8_markByTick_77 : zd cX8_markByTick 77 (.getfield 260) 3 80 := by decide +kernel
theorem d8_markByTick_80 : zd cX8_markByTick 80 (.iconst 1) 1 81 := by decide +kernel
theorem d8_markByTick_81 : zj cX8_markByTick 81 (.if_icmp .ne 17) 17 84 98 := by decide +kernel
theorem d8_markByTick_84 : zd cX8_markByTick 84 (.aload 5) 2 86 := by decide +kernel
theorem d8_markByTick_86 : zd cX8_markByTick 86 (.getfield 283) 3 89 := by decide +kernel
theorem d8_markByTick_89 : zj cX8_markByTick 89 (.ifCond .eq 9) 9 92 98 := by decide +kernel
theorem d8_markByTick_92 : zd cX8_markByTick 92 (.aload 5) 2 94 := by decide +kernel
theorem d8_markByTick_94 : zd cX8_markByTick 94 (.iconst 1) 1 95 := by decide +kernel
theorem d8_markByTick_95 : zd cX8_markByTick 95 (.putfield 286) 3 98 := by decide +kernel
theorem d8_markByTick_98 : zd cX8_markByTick 98 (.iinc 4 1) 3 101 := by decide +kernel
theorem d8_markByTick_101 : zj cX8_markByTick 101 (.goto (-70)) (-70) 104 31 := by decide +kernel
theorem d8_markByTick_104 : zd cX8_markByTick 104 (.return_) 1 105 := by decide +kernel
set_option maxHeartbeats 4000000 in
set_option maxRecDepth 20000 in
theorem c8_markByTick (l : Launch) (D : zDt) (Sh : zSh) (top : Nat) (hO : zOK Sh) (o_ : Nat) (v_b : Int32) (μ : zM) (μ_ : zM) (ho : (Sh o_).1 = 15) (h : f8_markByTick o_ v_b μ = some μ_) : zMet l D zK1 yX8_markByTick cX8_markByTick 6 none (zrm 1 22) [.ref o_, .int v_b] Sh top μ none Sh top μ_ 0 0 := by
  refine zMet_of (by decide) (Nat.le_of_ble_eq_true rfl) fun X hX1 hX2 fx fin => ?_
  subst hX1; subst hX2
  replace fx : zFix X cX8_markByTick RX8 (zrm 1 22) 6 := fx
  show zZ zK1 X (zT0 Sh top) μ 0 [(0, .ref o_), (1, .int v_b)] []
  unfold f8_markByTick at h
  refine z_aload_n fx (k := 0) (i := 0) rfl rfl d8_markByTick_0 ?_
  refine z_getO fx 8 0 1 ho lf8_11 fk8_0 d8_markByTick_1 ?_
  refine z_iload_n fx (k := 1) (i := 1) rfl rfl d8_markByTick_4 ?_
  obtain ⟨j1, e1, h⟩ := zinv h
  refine z_aald fx 0 (by decide) (ok8_0 hO ho) e1 (v := .ref (o_ + 13 + 3 * j1)) rfl d8_markByTick_5 ?_
  refine z_astore_n fx (k := 2) (i := 2) rfl rfl (lv' := [(0, .ref o_), (1, .int v_b), (2, .ref (o_ + 13 + 3 * j1))]) rfl rfl d8_markByTick_6 ?_
  obtain ⟨b2, e2, h⟩ := zinv h
  replace e2 := Option.some.inj e2
  have k3 : zZ zK1 X (zT0 Sh top) μ 27 [(0, .ref o_), (1, .int v_b), (2, .ref (o_ + 13 + 3 * j1))] [.int (bI b2)] := by
    refine z_istore_n fx (k := 3) (i := 3) rfl rfl (lv' := [(0, .ref o_), (1, .int v_b), (2, .ref (o_ + 13 + 3 * j1)), (3, .int (bI b2))]) rfl rfl d8_markByTick_27 ?_
    refine z_iconst fx (v := 0) ic0 d8_markByTick_28 ?_
    refine z_istore fx (i := 4) rfl (lv' := [(0, .ref o_), (1, .int v_b), (2, .ref (o_ + 13 + 3 * j1)), (3, .int (bI b2)), (4, .int 0)]) rfl rfl d8_markByTick_29 ?_
    obtain ⟨v_p_5, μ6, e27, h⟩ := zinv2 h
    have kx9 : zZ zK1 X (zT0 Sh top) μ6 104 [(0, .ref o_), (1, .int v_b), (2, .ref (o_ + 13 + 3 * j1)), (3, .int (bI b2)), (4, .int v_p_5)] [] := by
      refine z_take 4 (lv' := [(0, .ref o_), (1, .int v_b), (2, .ref (o_ + 13 + 3 * j1)), (3, .int (bI b2))]) rfl ?_
      cases h
      exact z_return fx fin d8_markByTick_104
    clear h
    have klr8 : ∀ (n : Nat) (v_p_3 : Int32) (μ4 : zM), zloop (fun s => f8_markByTick_L1 o_ v_b b2 s.1 s.2) n (v_p_3, μ4) = some (v_p_5, μ6) → zZ zK1 X (zT0 Sh top) μ4 31 [(0, .ref o_), (1, .int v_b), (2, .ref (o_ + 13 + 3 * j1)), (3, .int (bI b2)), (4, .int v_p_3)] [] := by
      intro n
      induction n with
      | zero => intro v_p_3 μ4 hl7; cases hl7
      | succ n ih10 =>
        intro v_p_3 μ4 hl7
        obtain ⟨y, e6, hl7⟩ := zloop_inv hl7
        replace e6 : f8_markByTick_L1 o_ v_b b2 v_p_3 μ4 = some y := e6
        unfold f8_markByTick_L1 at e6
        refine z_iload fx (i := 4) rfl d8_markByTick_31 ?_
        refine z_aload_n fx (k := 0) (i := 0) rfl rfl d8_markByTick_33 ?_
        obtain ⟨w7, e11, e6⟩ := zinv e6
        refine z_getR fx 8 12 812 17 ho lf8_62 ⟨fk8_12, rfl⟩ e11 d8_markByTick_34 (fun tw7 => ?_)
        refine z_getO fx 10 4 5 tw7 lf8_174 fk10_4 d8_markByTick_37 ?_
        refine z_iload_n fx (k := 1) (i := 1) rfl rfl d8_markByTick_40 ?_
        obtain ⟨t8, e12, e6⟩ := zinv e6
        refine z_iald fx (ok10_4 hO tw7) e12 d8_markByTick_41 ?_
        refine z_icmp_ge fx d8_markByTick_42 (fun c13 => ?_) (fun c13 => ?_)
        · replace e6 := zif_f c13 e6
          cases e6
          cases hl7
          exact kx9
        · replace e6 := zif_t c13 e6
          refine z_aload_n fx (k := 0) (i := 0) rfl rfl d8_markByTick_45 ?_
          refine z_getO fx 8 1 2 ho lf8_19 fk8_1 d8_markByTick_46 ?_
          refine z_aload_n fx (k := 0) (i := 0) rfl rfl d8_markByTick_49 ?_
          obtain ⟨w9, e14, e6⟩ := zinv e6
          refine z_getR fx 8 12 812 17 ho lf8_62 ⟨fk8_12, rfl⟩ e14 d8_markByTick_50 (fun tw9 => ?_)
          refine z_iload_n fx (k := 1) (i := 1) rfl rfl d8_markByTick_53 ?_
          refine z_iload fx (i := 4) rfl d8_markByTick_54 ?_
          obtain ⟨t10, e15, e6⟩ := zinv e6
          refine z_cVr fx (c10_endOf (zLo X) (zDo X) Sh top hO w9 v_b v_p_3 μ4 _ tw9 e15) mv10_endOf ml8_176 tw9 rfl rfl rfl rfl d8_markByTick_56 ?_
          obtain ⟨j11, e16, e6⟩ := zinv e6
          refine z_aald fx 1 (by decide) (ok8_1 hO ho) e16 (v := .ref (o_ + 37 + 2 * j11)) rfl d8_markByTick_59 ?_
          refine z_astore fx (i := 5) rfl (lv' := [(0, .ref o_), (1, .int v_b), (2, .ref (o_ + 13 + 3 * j1)), (3, .int (bI b2)), (4, .int v_p_3), (5, .ref (o_ + 37 + 2 * j11))]) rfl rfl d8_markByTick_60 ?_
          have kt17 : (((ceq (gF μ4 404 (o_ + 37 + 2 * j11)) 2) && b2) || ((ceq (gF μ4 404 (o_ + 37 + 2 * j11)) 1) && (!(ceq (gF μ4 408 (o_ + 37 + 2 * j11)) 0)))) = true → zZ zK1 X (zT0 Sh top) μ4 92 [(0, .ref o_), (1, .int v_b), (2, .ref (o_ + 13 + 3 * j1)), (3, .int (bI b2)), (4, .int v_p_3), (5, .ref (o_ + 37 + 2 * j11))] [] := by
            intro hc
            replace e6 := zif_t hc e6
            refine z_aload fx (i := 5) rfl d8_markByTick_92 ?_
            refine z_iconst fx (v := 1) ic1 d8_markByTick_94 ?_
            refine z_top (show Value.int 1 = .int (bI true) from rfl) ?_
            obtain ⟨μ12, e18, e6⟩ := zinv e6
            refine z_putB fx (ci := 4) 14 (okA1 hO (ok8_1 hO ho) (rI_lt e16)) lf8_286 fp4_14 e18 d8_markByTick_95 ?_
            refine z_take 5 (lv' := [(0, .ref o_), (1, .int v_b), (2, .ref (o_ + 13 + 3 * j1)), (3, .int (bI b2)), (4, .int v_p_3)]) rfl ?_
            obtain ⟨v_p_13, e19, e6⟩ := zinv e6
            replace e19 := Option.some.inj e19
            refine z_iinc fx (i := 4) (x := v_p_3) (v := v_p_13) rfl (by rw [in1]; exact e19) rfl (lv' := [(0, .ref o_), (1, .int v_b), (2, .ref (o_ + 13 + 3 * j1)), (3, .int (bI b2)), (4, .int v_p_13)]) rfl rfl d8_markByTick_98 ?_
            cases e6
            refine z_goto fx d8_markByTick_101 ?_
            exact ih10 _ _ hl7
          have kf17 : (((ceq (gF μ4 404 (o_ + 37 + 2 * j11)) 2) && b2) || ((ceq (gF μ4 404 (o_ + 37 + 2 * j11)) 1) && (!(ceq (gF μ4 408 (o_ + 37 + 2 * j11)) 0)))) = false → zZ zK1 X (zT0 Sh top) μ4 98 [(0, .ref o_), (1, .int v_b), (2, .ref (o_ + 13 + 3 * j1)), (3, .int (bI b2)), (4, .int v_p_3), (5, .ref (o_ + 37 + 2 * j11))] [] := by
            intro hc
            replace e6 := zif_f hc e6
            refine z_take 5 (lv' := [(0, .ref o_), (1, .int v_b), (2, .ref (o_ + 13 + 3 * j1)), (3, .int (bI b2)), (4, .int v_p_3)]) rfl ?_
            obtain ⟨v_p_14, e20, e6⟩ := zinv e6
            replace e20 := Option.some.inj e20
            refine z_iinc fx (i := 4) (x := v_p_3) (v := v_p_14) rfl (by rw [in1]; exact e20) rfl (lv' := [(0, .ref o_), (1, .int v_b), (2, .ref (o_ + 13 + 3 * j1)), (3, .int (bI b2)), (4, .int v_p_14)]) rfl rfl d8_markByTick_98 ?_
            cases e6
            refine z_goto fx d8_markByTick_101 ?_
            exact ih10 _ _ hl7
          clear e6
          refine z_aload fx (i := 5) rfl d8_markByTick_62 ?_
          refine z_getI fx 4 4 404 (okA1 hO (ok8_1 hO ho) (rI_lt e16)) lf8_260 ⟨fk4_4, rfl⟩ d8_markByTick_64 ?_
          refine z_iconst fx (v := 2) ic2 d8_markByTick_67 ?_
          refine z_icmp_ne fx d8_markByTick_68 (fun c21 => ?_) (fun c21 => ?_)
          · refine z_aload fx (i := 5) rfl d8_markByTick_75 ?_
            refine z_getI fx 4 4 404 (okA1 hO (ok8_1 hO ho) (rI_lt e16)) lf8_260 ⟨fk4_4, rfl⟩ d8_markByTick_77 ?_
            refine z_iconst fx (v := 1) ic1 d8_markByTick_80 ?_
            refine z_icmp_ne fx d8_markByTick_81 (fun c22 => ?_) (fun c22 => ?_)
            · exact kf17 (by simp [c21, c22])
            · refine z_aload fx (i := 5) rfl d8_markByTick_84 ?_
              refine z_getI fx 4 8 408 (okA1 hO (ok8_1 hO ho) (rI_lt e16)) lf8_283 ⟨fk4_8, rfl⟩ d8_markByTick_86 ?_
              refine z_if_eq fx d8_markByTick_89 (fun c23 => ?_) (fun c23 => ?_)
              · exact kf17 (by simp [c21, c22, c23])
              · exact kt17 (by simp [c21, c22, c23])
          · refine z_iload_n fx (k := 3) (i := 3) rfl rfl d8_markByTick_71 ?_
            refine z_ifb_ne fx d8_markByTick_72 (fun c24 => ?_) (fun c24 => ?_)
            · exact kt17 (by simp [c21, c24])
            · refine z_aload fx (i := 5) rfl d8_markByTick_75 ?_
              refine z_getI fx 4 4 404 (okA1 hO (ok8_1 hO ho) (rI_lt e16)) lf8_260 ⟨fk4_4, rfl⟩ d8_markByTick_77 ?_
              refine z_iconst fx (v := 1) ic1 d8_markByTick_80 ?_
              refine z_icmp_ne fx d8_markByTick_81 (fun c25 => ?_) (fun c25 => ?_)
              · exact kf17 (by simp [c21, c24, c25])
              · refine z_aload fx (i := 5) rfl d8_markByTick_84 ?_
                refine z_getI fx 4 8 408 (okA1 hO (ok8_1 hO ho) (rI_lt e16)) lf8_283 ⟨fk4_8, rfl⟩ d8_markByTick_86 ?_
                refine z_if_eq fx d8_markByTick_89 (fun c26 => ?_) (fun c26 => ?_)
                · exact kf17 (by simp [c21, c24, c25, c26])
                · exact kt17 (by simp [c21, c24, c25, c26])
    exact klr8 _ _ _ e27
  refine z_aload_n fx (k := 2) (i := 2) rfl rfl d8_markByTick_7 ?_
  refine z_getB fx 0 4 4 (okA0 hO (ok8_0 hO ho) (rI_lt e1)) lf8_117 ⟨fk0_4, rfl⟩ d8_markByTick_8 ?_
  refine z_ifb_eq fx d8_markByTick_11 (fun c4 => ?_) (fun c4 => ?_)
  · refine z_iconst fx (v := 1) ic1 d8_markByTick_22 ?_
    refine z_goto fx d8_markByTick_23 ?_
    exact z_top (congrArg Value.int (show 1 = bI b2 by rw [← e2]; simp [c4, bI])) k3
  · refine z_aload_n fx (k := 2) (i := 2) rfl rfl d8_markByTick_14 ?_
    refine z_getI fx 0 7 7 (okA0 hO (ok8_0 hO ho) (rI_lt e1)) lf8_266 ⟨fk0_7, rfl⟩ d8_markByTick_15 ?_
    refine z_iconst fx (v := (-1)) icm1 d8_markByTick_18 ?_
    refine z_icmp_ne fx d8_markByTick_19 (fun c5 => ?_) (fun c5 => ?_)
    · refine z_iconst fx (v := 0) ic0 d8_markByTick_26 ?_
      exact z_top (congrArg Value.int (show 0 = bI b2 by rw [← e2]; simp [c4, c5, bI])) k3
    · refine z_iconst fx (v := 1) ic1 d8_markByTick_22 ?_
      refine z_goto fx d8_markByTick_23 ?_
      exact z_top (congrArg Value.int (show 1 = bI b2 by rw [← e2]; simp [c4, c5, bI])) k3
theorem d8_tick_0 : zd cX8_tick 0 (.aload_n 0) 1 1 := by decide +kernel
theorem d8_tick_1 : zd cX8_tick 1 (.iload_n 1) 1 2 := by decide +kernel
theorem d8_tick_2 : zd cX8_tick 2 (.invokevirtual 329) 3 5 := by decide +kernel
theorem d8_tick_5 : zj cX8_tick 5 (.ifCond .eq 8) 8 8 13 := by decide +kernel
theorem d8_tick_8 : zd cX8_tick 8 (.aload_n 0) 1 9 := by decide +kernel
theorem d8_tick_9 : zd cX8_tick 9 (.iload_n 1) 1 10 := by decide +kernel
theorem d8_tick_10 : zd cX8_tick 10 (.invokevirtual 198) 3 13 := by decide +kernel
theorem d8_tick_13 : zd cX8_tick 13 (.iconst 0) 1 14 := by decide +kernel
theorem d8_tick_14 : zd cX8_tick 14 (.istore_n 2) 1 15 := by decide +kernel
theorem d8_tick_15 : zd cX8_tick 15 (.iload_n 2) 1 16 := by decide +kernel
theorem d8_tick_16 : zd cX8_tick 16 (.aload_n 0) 1 17 := by decide +kernel
theorem d8_tick_17 : zd cX8_tick 17 (.getfield 62) 3 20 := by decide +kernel
theorem d8_tick_20 : zd cX8_tick 20 (.getfield 174) 3 23 := by decide +kernel
theorem d8_tick_23 : zd cX8_tick 23 (.iload_n 1) 1 24 := by decide +kernel
theorem d8_tick_24 : zd cX8_tick 24 (.iaload) 1 25 := by decide +kernel
theorem d8_tick_25 : zj cX8_tick 25 (.if_icmp .ge 111) 111 28 136 := by decide +kernel
theorem d8_tick_28 : zd cX8_tick 28 (.aload_n 0) 1 29 := by decide +kernel
theorem d8_tick_29 : zd cX8_tick 29 (.getfield 62) 3 32 := by decide +kernel
theorem d8_tick_32 : zd cX8_tick 32 (.iload_n 1) 1 33 := by decide +kernel
theorem d8_tick_33 : zd cX8_tick 33 (.iload_n 2) 1 34 := by decide +kernel
theorem d8_tick_34 : zd cX8_tick 34 (.invokevirtual 176) 3 37 := by decide +kernel
theorem d8_tick_37 : zd cX8_tick 37 (.istore_n 3) 1 38 := by decide +kernel
theorem d8_tick_38 : zd cX8_tick 38 (.aload_n 0) 1 39 := by decide +kernel
theorem d8_tick_39 : zd cX8_tick 39 (.getfield 19) 3 42 := by decide +kernel
theorem d8_tick_42 : zd cX8_tick 42 (.iload_n 3) 1 43 := by decide +kernel
theorem d8_tick_43 : zd cX8_tick 43 (.aaload) 1 44 := by decide +kernel
theorem d8_tick_44 : zd cX8_tick 44 (.astore 4) 2 46 := by decide +kernel
theorem d8_tick_46 : zd cX8_tick 46 (.aload 4) 2 48 := by decide +kernel
theorem d8_tick_48 : zd cX8_tick 48 (.invokevirtual 292) 3 51 := by decide +kernel
theorem d8_tick_51 : zj cX8_tick 51 (.ifCond .eq 79) 79 54 130 := by decide +kernel
theorem d8_tick_54 : zd cX8_tick 54 (.aload 4) 2 56 := by decide +kernel
theorem d8_tick_56 : zd cX8_tick 56 (.getfield 165) 3 59 := by decide +kernel
theorem d8_tick_59 : zd cX8_tick 59 (.iconst 2) 1 60 := by decide +kernel
theorem d8_tick_60 : zj cX8_tick 60 (.if_icmp .eq 70) 70 63 130 := by decide +kernel
theorem d8_tick_63 : zd cX8_tick 63 (.aload 4) 2 65 := by decide +kernel
theorem d8_tick_65 : zd cX8_tick 65 (.getfield 277) 3 68 := by decide +kernel
theorem d8_tick_68 : zj cX8_tick 68 (.ifCond .ne 6) 6 71 74 := by decide +kernel
theorem d8_tick_71 : zj cX8_tick 71 (.goto 59) 59 74 130 := by decide +kernel
theorem d8_tick_74 : zd cX8_tick 74 (.aload 4) 2 76 := by decide +kernel
theorem d8_tick_76 : zd cX8_tick 76 (.dup) 1 77 := by decide +kernel
theorem d8_tick_77 : zd cX8_tick 77 (.getfield 277) 3 80 := by decide +kernel
theorem d8_tick_80 : zd cX8_tick 80 (.iconst 1) 1 81 := by decide +kernel
theorem d8_tick_81 : zd cX8_tick 81 (.isub) 1 82 := by decide +kernel
theorem d8_tick_82 : zd cX8_tick 82 (.putfield 277) 3 85 := by decide +kernel
theorem d8_tick_85 : zd cX8_tick 85 (.aload 4) 2 87 := by decide +kernel
theorem d8_tick_87 : zd cX8_tick 87 (.getfield 277) 3 90 := by decide +kernel
theorem d8_tick_90 : zj cX8_tick 90 (.ifCond .eq 6) 6 93 96 := by decide +kernel
theorem d8_tick_93 : zj cX8_tick 93 (.goto 37) 37 96 130 := by decide +kernel
theorem d8_tick_96 : zd cX8_tick 96 (.aload 4) 2 98 := by decide +kernel
theorem d8_tick_98 : zd cX8_tick 98 (.getfield 165) 3 101 := by decide +kernel
theorem d8_tick_101 : zj cX8_tick 101 (.ifCond .ne 24) 24 104 125 := by decide +kernel
theorem d8_tick_104 : zd cX8_tick 104 (.aload_n 0) 1 105 := by decide +kernel
theorem d8_tick_105 : zd cX8_tick 105 (.iload_n 3) 1 106 := by decide +kernel
theorem d8_tick_106 : zd cX8_tick 106 (.iconst 1) 1 107 := by decide +kernel
theorem d8_tick_107 : zd cX8_tick 107 (.invokevirtual 273) 3 110 := by decide +kernel
theorem d8_tick_110 : zd cX8_tick 110 (.aload 4) 2 112 := by decide +kernel
theorem d8_tick_112 : zd cX8_tick 112 (.aload_n 0) 1 113 := by decide +kernel
theorem d8_tick_113 : zd cX8_tick 113 (.getfield 62) 3 116 := by decide +kernel
theorem d8_tick_116 : zd cX8_tick 116 (.getfield 214) 3 119 := by decide +kernel
theorem d8_tick_119 : zd cX8_tick 119 (.putfield 277) 3 122 := by decide +kernel
theorem d8_tick_122 : zj cX8_tick 122 (.goto 8) 8 125 130 := by decide +kernel
theorem d8_tick_125 : zd cX8_tick 125 (.aload_n 0) 1 126 := by decide +kernel
theorem d8_tick_126 : zd cX8_tick 126 (.iload_n 3) 1 127 := by decide +kernel
theorem d8_tick_127 : zd cX8_tick 127 (.invokevirtual 221) 3 130 := by decide +kernel
theorem d8_tick_130 : zd cX8_tick 130 (.iinc 2 1) 3 133 := by decide +kernel
theorem d8_tick_133 : zj cX8_tick 133 (.goto (-118)) (-118) 136 15 := by decide +kernel
theorem d8_tick_136 : zd cX8_tick 136 (.aload_n 0) 1 137 := by decide +kernel
theorem d8_tick_137 : zd cX8_tick 137 (.iload_n 1) 1 138 := by decide +kernel
theorem d8_tick_138 : zd cX8_tick 138 (.invokevirtual 332) 3 141 := by decide +kernel
theorem d8_tick_141 : zd cX8_tick 141 (.aload_n 0) 1 142 := by decide +kernel
theorem d8_tick_142 : zd cX8_tick 142 (.iload_n 1) 1 143 := by decide +kernel
theorem d8_tick_143 : zd cX8_tick 143 (.invokevirtual 335) 3 146 := by decide +kernel
theorem d8_tick_146 : zd cX8_tick 146 (.return_) 1 147 := by decide +kernel
set_option maxHeartbeats 4000000 in
set_option maxRecDepth 20000 in
theorem c8_tick (l : Launch) (D : zDt) (Sh : zSh) (top : Nat) (hO : zOK Sh) (o_ : Nat) (v_b : Int32) (μ : zM) (μ_ : zM) (ho : (Sh o_).1 = 15) (h : f8_tick o_ v_b μ = some μ_) : zMet l D zK1 yX8_tick cX8_tick 5 none (zrm 4 95) [.ref o_, .int v_b] Sh top μ none Sh top μ_ 0 0 := by
  refine zMet_of (by decide) (Nat.le_of_ble_eq_true rfl) fun X hX1 hX2 fx fin => ?_
  subst hX1; subst hX2
  replace fx : zFix X cX8_tick RX8 (zrm 4 95) 5 := fx
  show zZ zK1 X (zT0 Sh top) μ 0 [(0, .ref o_), (1, .int v_b)] []
  unfold f8_tick at h
  obtain ⟨μ1, e1, h⟩ := zinv h
  have k2 : zZ zK1 X (zT0 Sh top) μ1 13 [(0, .ref o_), (1, .int v_b)] [] := by
    refine z_iconst fx (v := 0) ic0 d8_tick_13 ?_
    refine z_istore_n fx (k := 2) (i := 2) rfl rfl (lv' := [(0, .ref o_), (1, .int v_b), (2, .int 0)]) rfl rfl d8_tick_14 ?_
    obtain ⟨v_p_4, μ5, e37, h⟩ := zinv2 h
    have kx6 : zZ zK1 X (zT0 Sh top) μ5 136 [(0, .ref o_), (1, .int v_b), (2, .int v_p_4)] [] := by
      refine z_take 2 (lv' := [(0, .ref o_), (1, .int v_b)]) rfl ?_
      refine z_aload_n fx (k := 0) (i := 0) rfl rfl d8_tick_136 ?_
      refine z_iload_n fx (k := 1) (i := 1) rfl rfl d8_tick_137 ?_
      obtain ⟨μ24, e35, h⟩ := zinv h
      refine z_cVv fx (c8_ageAddresses (zLo X) (zDo X) Sh top hO o_ v_b μ5 _ ho e35) mv8_ageAddresses ml8_332 ho rfl rfl rfl rfl d8_tick_138 ?_
      refine z_aload_n fx (k := 0) (i := 0) rfl rfl d8_tick_141 ?_
      refine z_iload_n fx (k := 1) (i := 1) rfl rfl d8_tick_142 ?_
      obtain ⟨μ25, e36, h⟩ := zinv h
      refine z_cVv fx (c8_markByTick (zLo X) (zDo X) Sh top hO o_ v_b μ24 _ ho e36) mv8_markByTick ml8_335 ho rfl rfl rfl rfl d8_tick_143 ?_
      cases h
      exact z_return fx fin d8_tick_146
    clear h
    have klr5 : ∀ (n : Nat) (v_p_2 : Int32) (μ3 : zM), zloop (fun s => f8_tick_L1 o_ v_b s.1 s.2) n (v_p_2, μ3) = some (v_p_4, μ5) → zZ zK1 X (zT0 Sh top) μ3 15 [(0, .ref o_), (1, .int v_b), (2, .int v_p_2)] [] := by
      intro n
      induction n with
      | zero => intro v_p_2 μ3 hl4; cases hl4
      | succ n ih7 =>
        intro v_p_2 μ3 hl4
        obtain ⟨y, e3, hl4⟩ := zloop_inv hl4
        replace e3 : f8_tick_L1 o_ v_b v_p_2 μ3 = some y := e3
        unfold f8_tick_L1 at e3
        refine z_iload_n fx (k := 2) (i := 2) rfl rfl d8_tick_15 ?_
        refine z_aload_n fx (k := 0) (i := 0) rfl rfl d8_tick_16 ?_
        obtain ⟨w6, e8, e3⟩ := zinv e3
        refine z_getR fx 8 12 812 17 ho lf8_62 ⟨fk8_12, rfl⟩ e8 d8_tick_17 (fun tw6 => ?_)
        refine z_getO fx 10 4 5 tw6 lf8_174 fk10_4 d8_tick_20 ?_
        refine z_iload_n fx (k := 1) (i := 1) rfl rfl d8_tick_23 ?_
        obtain ⟨t7, e9, e3⟩ := zinv e3
        refine z_iald fx (ok10_4 hO tw6) e9 d8_tick_24 ?_
        refine z_icmp_ge fx d8_tick_25 (fun c10 => ?_) (fun c10 => ?_)
        · replace e3 := zif_f c10 e3
          cases e3
          cases hl4
          exact kx6
        · replace e3 := zif_t c10 e3
          refine z_aload_n fx (k := 0) (i := 0) rfl rfl d8_tick_28 ?_
          obtain ⟨w8, e11, e3⟩ := zinv e3
          refine z_getR fx 8 12 812 17 ho lf8_62 ⟨fk8_12, rfl⟩ e11 d8_tick_29 (fun tw8 => ?_)
          refine z_iload_n fx (k := 1) (i := 1) rfl rfl d8_tick_32 ?_
          refine z_iload_n fx (k := 2) (i := 2) rfl rfl d8_tick_33 ?_
          obtain ⟨t9, e12, e3⟩ := zinv e3
          refine z_cVr fx (c10_endOf (zLo X) (zDo X) Sh top hO w8 v_b v_p_2 μ3 _ tw8 e12) mv10_endOf ml8_176 tw8 rfl rfl rfl rfl d8_tick_34 ?_
          refine z_istore_n fx (k := 3) (i := 3) rfl rfl (lv' := [(0, .ref o_), (1, .int v_b), (2, .int v_p_2), (3, .int t9)]) rfl rfl d8_tick_37 ?_
          refine z_aload_n fx (k := 0) (i := 0) rfl rfl d8_tick_38 ?_
          refine z_getO fx 8 1 2 ho lf8_19 fk8_1 d8_tick_39 ?_
          refine z_iload_n fx (k := 3) (i := 3) rfl rfl d8_tick_42 ?_
          obtain ⟨j10, e13, e3⟩ := zinv e3
          refine z_aald fx 1 (by decide) (ok8_1 hO ho) e13 (v := .ref (o_ + 37 + 2 * j10)) rfl d8_tick_43 ?_
          refine z_astore fx (i := 4) rfl (lv' := [(0, .ref o_), (1, .int v_b), (2, .int v_p_2), (3, .int t9), (4, .ref (o_ + 37 + 2 * j10))]) rfl rfl d8_tick_44 ?_
          obtain ⟨b11, e15, e3⟩ := zinv e3
          have kt14 : b11 = true → zZ zK1 X (zT0 Sh top) μ3 130 [(0, .ref o_), (1, .int v_b), (2, .int v_p_2), (3, .int t9), (4, .ref (o_ + 37 + 2 * j10))] [] := by
            intro hc
            replace e3 := zif_t hc e3
            refine z_take 3 (lv' := [(0, .ref o_), (1, .int v_b), (2, .int v_p_2)]) rfl ?_
            obtain ⟨v_p_12, e16, e3⟩ := zinv e3
            replace e16 := Option.some.inj e16
            refine z_iinc fx (i := 2) (x := v_p_2) (v := v_p_12) rfl (by rw [in1]; exact e16) rfl (lv' := [(0, .ref o_), (1, .int v_b), (2, .int v_p_12)]) rfl rfl d8_tick_130 ?_
            cases e3
            refine z_goto fx d8_tick_133 ?_
            exact ih7 _ _ hl4
          have kf14 : b11 = false → zZ zK1 X (zT0 Sh top) μ3 74 [(0, .ref o_), (1, .int v_b), (2, .int v_p_2), (3, .int t9), (4, .ref (o_ + 37 + 2 * j10))] [] := by
            intro hc
            replace e3 := zif_f hc e3
            refine z_aload fx (i := 4) rfl d8_tick_74 ?_
            refine z_dup fx rfl d8_tick_76 ?_
            refine z_getI fx 4 7 407 (okA1 hO (ok8_1 hO ho) (rI_lt e13)) lf8_277 ⟨fk4_7, rfl⟩ d8_tick_77 ?_
            refine z_iconst fx (v := 1) ic1 d8_tick_80 ?_
            refine z_isub fx d8_tick_81 ?_
            obtain ⟨μ13, e17, e3⟩ := zinv e3
            refine z_putI fx (ci := 4) 7 (okA1 hO (ok8_1 hO ho) (rI_lt e13)) lf8_277 fp4_7 e17 d8_tick_82 ?_
            refine z_aload fx (i := 4) rfl d8_tick_85 ?_
            refine z_getI fx 4 7 407 (okA1 hO (ok8_1 hO ho) (rI_lt e13)) lf8_277 ⟨fk4_7, rfl⟩ d8_tick_87 ?_
            refine z_if_eq fx d8_tick_90 (fun c18 => ?_) (fun c18 => ?_)
            · replace e3 := zif_t c18 e3
              refine z_aload fx (i := 4) rfl d8_tick_96 ?_
              refine z_getI fx 4 6 406 (okA1 hO (ok8_1 hO ho) (rI_lt e13)) lf8_165 ⟨fk4_6, rfl⟩ d8_tick_98 ?_
              refine z_if_ne fx d8_tick_101 (fun c19 => ?_) (fun c19 => ?_)
              · replace e3 := zif_f c19 e3
                refine z_aload_n fx (k := 0) (i := 0) rfl rfl d8_tick_125 ?_
                refine z_iload_n fx (k := 3) (i := 3) rfl rfl d8_tick_126 ?_
                obtain ⟨μ14, e20, e3⟩ := zinv e3
                refine z_cVv fx (c8_open (zLo X) (zDo X) Sh top hO o_ t9 μ13 _ ho e20) mv8_open ml8_221 ho rfl rfl rfl rfl d8_tick_127 ?_
                refine z_take 3 (lv' := [(0, .ref o_), (1, .int v_b), (2, .int v_p_2)]) rfl ?_
                obtain ⟨v_p_15, e21, e3⟩ := zinv e3
                replace e21 := Option.some.inj e21
                refine z_iinc fx (i := 2) (x := v_p_2) (v := v_p_15) rfl (by rw [in1]; exact e21) rfl (lv' := [(0, .ref o_), (1, .int v_b), (2, .int v_p_15)]) rfl rfl d8_tick_130 ?_
                cases e3
                refine z_goto fx d8_tick_133 ?_
                exact ih7 _ _ hl4
              · replace e3 := zif_t c19 e3
                refine z_aload_n fx (k := 0) (i := 0) rfl rfl d8_tick_104 ?_
                refine z_iload_n fx (k := 3) (i := 3) rfl rfl d8_tick_105 ?_
                refine z_iconst fx (v := 1) ic1 d8_tick_106 ?_
                obtain ⟨μ16, e22, e3⟩ := zinv e3
                refine z_cVv fx (c8_enter (zLo X) (zDo X) Sh top hO o_ t9 1 μ13 _ ho e22) mv8_enter ml8_273 ho rfl rfl rfl rfl d8_tick_107 ?_
                refine z_aload fx (i := 4) rfl d8_tick_110 ?_
                refine z_aload_n fx (k := 0) (i := 0) rfl rfl d8_tick_112 ?_
                obtain ⟨w17, e23, e3⟩ := zinv e3
                refine z_getR fx 8 12 812 17 ho lf8_62 ⟨fk8_12, rfl⟩ e23 d8_tick_113 (fun tw17 => ?_)
                refine z_getI fx 10 14 1014 tw17 lf8_214 ⟨fk10_14, rfl⟩ d8_tick_116 ?_
                obtain ⟨μ18, e24, e3⟩ := zinv e3
                refine z_putI fx (ci := 4) 7 (okA1 hO (ok8_1 hO ho) (rI_lt e13)) lf8_277 fp4_7 e24 d8_tick_119 ?_
                refine z_take 3 (lv' := [(0, .ref o_), (1, .int v_b), (2, .int v_p_2)]) rfl ?_
                refine z_goto fx d8_tick_122 ?_
                obtain ⟨v_p_19, e25, e3⟩ := zinv e3
                replace e25 := Option.some.inj e25
                refine z_iinc fx (i := 2) (x := v_p_2) (v := v_p_19) rfl (by rw [in1]; exact e25) rfl (lv' := [(0, .ref o_), (1, .int v_b), (2, .int v_p_19)]) rfl rfl d8_tick_130 ?_
                cases e3
                refine z_goto fx d8_tick_133 ?_
                exact ih7 _ _ hl4
            · replace e3 := zif_f c18 e3
              refine z_take 3 (lv' := [(0, .ref o_), (1, .int v_b), (2, .int v_p_2)]) rfl ?_
              refine z_goto fx d8_tick_93 ?_
              obtain ⟨v_p_20, e26, e3⟩ := zinv e3
              replace e26 := Option.some.inj e26
              refine z_iinc fx (i := 2) (x := v_p_2) (v := v_p_20) rfl (by rw [in1]; exact e26) rfl (lv' := [(0, .ref o_), (1, .int v_b), (2, .int v_p_20)]) rfl rfl d8_tick_130 ?_
              cases e3
              refine z_goto fx d8_tick_133 ?_
              exact ih7 _ _ hl4
          clear e3
          obtain ⟨b21, e27, e15⟩ := zinv e15
          have kf28 : b21 = false → zZ zK1 X (zT0 Sh top) μ3 63 [(0, .ref o_), (1, .int v_b), (2, .int v_p_2), (3, .int t9), (4, .ref (o_ + 37 + 2 * j10))] [] := by
            intro hc
            replace e15 := zif_f hc e15
            refine z_aload fx (i := 4) rfl d8_tick_63 ?_
            refine z_getI fx 4 7 407 (okA1 hO (ok8_1 hO ho) (rI_lt e13)) lf8_277 ⟨fk4_7, rfl⟩ d8_tick_65 ?_
            cases e15
            refine z_if_ne fx d8_tick_68 (fun c29 => ?_) (fun c29 => ?_)
            · exact kf14 c29
            · refine z_goto fx d8_tick_71 ?_
              exact kt14 c29
          have kt28 : b21 = true → zZ zK1 X (zT0 Sh top) μ3 130 [(0, .ref o_), (1, .int v_b), (2, .int v_p_2), (3, .int t9), (4, .ref (o_ + 37 + 2 * j10))] [] := by
            intro hc
            replace e15 := zif_t hc e15
            cases e15
            exact kt14 rfl
          clear e15
          obtain ⟨b22, e30, e27⟩ := zinv e27
          have kf31 : b22 = false → zZ zK1 X (zT0 Sh top) μ3 54 [(0, .ref o_), (1, .int v_b), (2, .int v_p_2), (3, .int t9), (4, .ref (o_ + 37 + 2 * j10))] [] := by
            intro hc
            replace e27 := zif_f hc e27
            refine z_aload fx (i := 4) rfl d8_tick_54 ?_
            refine z_getI fx 4 6 406 (okA1 hO (ok8_1 hO ho) (rI_lt e13)) lf8_165 ⟨fk4_6, rfl⟩ d8_tick_56 ?_
            refine z_iconst fx (v := 2) ic2 d8_tick_59 ?_
            cases e27
            refine z_icmp_eq fx d8_tick_60 (fun c32 => ?_) (fun c32 => ?_)
            · exact kt28 c32
            · exact kf28 c32
          have kt31 : b22 = true → zZ zK1 X (zT0 Sh top) μ3 130 [(0, .ref o_), (1, .int v_b), (2, .int v_p_2), (3, .int t9), (4, .ref (o_ + 37 + 2 * j10))] [] := by
            intro hc
            replace e27 := zif_t hc e27
            cases e27
            exact kt28 rfl
          clear e27
          refine z_aload fx (i := 4) rfl d8_tick_46 ?_
          obtain ⟨t23, e33, e30⟩ := zinv e30
          refine z_cVr fx (c4_isInUse (zLo X) (zDo X) Sh top hO (o_ + 37 + 2 * j10) μ3 _ (okA1 hO (ok8_1 hO ho) (rI_lt e13)) e33) mv4_isInUse ml8_292 (okA1 hO (ok8_1 hO ho) (rI_lt e13)) rfl rfl rfl rfl d8_tick_48 ?_
          cases e30
          refine z_ifb_eq fx d8_tick_51 (fun c34 => ?_) (fun c34 => ?_)
          · exact kt31 (by rw [c34]; rfl)
          · exact kf31 (by rw [c34]; rfl)
    exact klr5 _ _ _ e37
  clear h
  refine z_aload_n fx (k := 0) (i := 0) rfl rfl d8_tick_0 ?_
  refine z_iload_n fx (k := 1) (i := 1) rfl rfl d8_tick_1 ?_
  obtain ⟨t26, μ27, e38, e1⟩ := zinv2 e1
  refine z_cVr fx (c8_fade (zLo X) (zDo X) Sh top hO o_ v_b μ _ _ ho e38) mv8_fade ml8_329 ho rfl rfl rfl rfl d8_tick_2 ?_
  refine z_ifb_eq fx d8_tick_5 (fun c39 => ?_) (fun c39 => ?_)
  · replace e1 := zif_f c39 e1
    cases e1
    exact k2
  · replace e1 := zif_t c39 e1
    refine z_aload_n fx (k := 0) (i := 0) rfl rfl d8_tick_8 ?_
    refine z_iload_n fx (k := 1) (i := 1) rfl rfl d8_tick_9 ?_
    obtain ⟨μ28, e40, e1⟩ := zinv e1
    refine z_cVv fx (c8_choose (zLo X) (zDo X) Sh top hO o_ v_b μ27 _ ho e40) mv8_choose ml8_198 ho rfl rfl rfl rfl d8_tick_10 ?_
    cases e1
    exact k2
theorem d3_carries_0 : zd cX3_carries 0 (.aload_n 0) 1 1 := by decide +kernel
theorem d3_carries_1 : zd cX3_carries 1 (.getfield 16) 3 4 := by decide +kernel
theorem d3_carries_4 : zd cX3_carries 4 (.iload_n 1) 1 5 := by decide +kernel
theorem d3_carries_5 : zd cX3_carries 5 (.iand) 1 6 := by decide +kernel
theorem d3_carries_6 : zj cX3_carries 6 (.ifCond .eq 7) 7 9 13 := by decide +kernel
theorem d3_carries_9 : zd cX3_carries 9 (.iconst 1) 1 10 := by decide +kernel
theorem d3_carries_10 : zj cX3_carries 10 (.goto 4) 4 13 14 := by decide +kernel
theorem d3_carries_13 : zd cX3_carries 13 (.iconst 0) 1 14 := by decide +kernel
theorem d3_carries_14 : zd cX3_carries 14 (.ireturn) 1 15 := by decide +kernel
set_option maxHeartbeats 4000000 in
set_option maxRecDepth 20000 in
theorem c3_carries (l : Launch) (D : zDt) (Sh : zSh) (top : Nat) (hO : zOK Sh) (o_ : Nat) (v_bit : Int32) (μ : zM) (r_ : Bool) (ho : (Sh o_).1 = 10) (h : f3_carries o_ v_bit μ = some r_) : zMet l D zK1 yX3_carries cX3_carries 2 (some .boolean) (zrm 0 0) [.ref o_, .int v_bit] Sh top μ (some (.int (bI r_))) Sh top μ 0 0 := by
  refine zMet_of (by decide) (Nat.le_of_ble_eq_true rfl) fun X hX1 hX2 fx fin => ?_
  subst hX1; subst hX2
  replace fx : zFix X cX3_carries RX3 (zrm 0 0) 2 := fx
  show zZ zK1 X (zT0 Sh top) μ 0 [(0, .ref o_), (1, .int v_bit)] []
  unfold f3_carries at h
  obtain ⟨b1, e1, h⟩ := zinv h
  replace e1 := Option.some.inj e1
  have k2 : zZ zK1 X (zT0 Sh top) μ 14 [(0, .ref o_), (1, .int v_bit)] [.int (bI b1)] := by
    cases h
    exact z_zreturn fx fin d3_carries_14
  refine z_aload_n fx (k := 0) (i := 0) rfl rfl d3_carries_0 ?_
  refine z_getI fx 3 5 305 ho lf3_16 ⟨fk3_5, rfl⟩ d3_carries_1 ?_
  refine z_iload_n fx (k := 1) (i := 1) rfl rfl d3_carries_4 ?_
  refine z_iand fx d3_carries_5 ?_
  refine z_if_eq fx d3_carries_6 (fun c3 => ?_) (fun c3 => ?_)
  · refine z_iconst fx (v := 0) ic0 d3_carries_13 ?_
    exact z_top (congrArg Value.int (show 0 = bI b1 by rw [← e1]; simp [c3, bI])) k2
  · refine z_iconst fx (v := 1) ic1 d3_carries_9 ?_
    refine z_goto fx d3_carries_10 ?_
    exact z_top (congrArg Value.int (show 1 = bI b1 by rw [← e1]; simp [c3, bI])) k2
theorem d8_isRead_0 : zd cX8_isRead 0 (.aload_n 0) 1 1 := by decide +kernel
theorem d8_isRead_1 : zd cX8_isRead 1 (.getfield 19) 3 4 := by decide +kernel
theorem d8_isRead_4 : zd cX8_isRead 4 (.iload_n 1) 1 5 := by decide +kernel
theorem d8_isRead_5 : zd cX8_isRead 5 (.aaload) 1 6 := by decide +kernel
theorem d8_isRead_6 : zd cX8_isRead 6 (.astore_n 3) 1 7 := by decide +kernel
theorem d8_isRead_7 : zd cX8_isRead 7 (.aload_n 0) 1 8 := by decide +kernel
theorem d8_isRead_8 : zd cX8_isRead 8 (.getfield 11) 3 11 := by decide +kernel
theorem d8_isRead_11 : zd cX8_isRead 11 (.aload_n 0) 1 12 := by decide +kernel
theorem d8_isRead_12 : zd cX8_isRead 12 (.getfield 62) 3 15 := by decide +kernel
theorem d8_isRead_15 : zd cX8_isRead 15 (.getfield 158) 3 18 := by decide +kernel
theorem d8_isRead_18 : zd cX8_isRead 18 (.iload_n 1) 1 19 := by decide +kernel
theorem d8_isRead_19 : zd cX8_isRead 19 (.iaload) 1 20 := by decide +kernel
theorem d8_isRead_20 : zd cX8_isRead 20 (.aaload) 1 21 := by decide +kernel
theorem d8_isRead_21 : zd cX8_isRead 21 (.getfield 117) 3 24 := by decide +kernel
theorem d8_isRead_24 : zd cX8_isRead 24 (.istore 4) 2 26 := by decide +kernel
theorem d8_isRead_26 : zd cX8_isRead 26 (.aload_n 2) 1 27 := by decide +kernel
theorem d8_isRead_27 : zd cX8_isRead 27 (.bipush 16) 2 29 := by decide +kernel
theorem d8_isRead_29 : zd cX8_isRead 29 (.invokevirtual 341) 3 32 := by decide +kernel
theorem d8_isRead_32 : zd cX8_isRead 32 (.istore 5) 2 34 := by decide +kernel
theorem d8_isRead_34 : zd cX8_isRead 34 (.iload 4) 2 36 := by decide +kernel
theorem d8_isRead_36 : zj cX8_isRead 36 (.ifCond .eq 10) 10 39 46 := by decide +kernel
theorem d8_isRead_39 : zd cX8_isRead 39 (.iload 5) 2 41 := by decide +kernel
theorem d8_isRead_41 : zj cX8_isRead 41 (.ifCond .ne 5) 5 44 46 := by decide +kernel
theorem d8_isRead_44 : zd cX8_isRead 44 (.iconst 0) 1 45 := by decide +kernel
theorem d8_isRead_45 : zd cX8_isRead 45 (.ireturn) 1 46 := by decide +kernel
theorem d8_isRead_46 : zd cX8_isRead 46 (.aload_n 3) 1 47 := by decide +kernel
theorem d8_isRead_47 : zd cX8_isRead 47 (.getfield 280) 3 50 := by decide +kernel
theorem d8_isRead_50 : zj cX8_isRead 50 (.ifCond .eq 24) 24 53 74 := by decide +kernel
theorem d8_isRead_53 : zd cX8_isRead 53 (.aload_n 3) 1 54 := by decide +kernel
theorem d8_isRead_54 : zd cX8_isRead 54 (.iconst 0) 1 55 := by decide +kernel
theorem d8_isRead_55 : zd cX8_isRead 55 (.putfield 280) 3 58 := by decide +kernel
theorem d8_isRead_58 : zd cX8_isRead 58 (.aload_n 0) 1 59 := by decide +kernel
theorem d8_isRead_59 : zd cX8_isRead 59 (.iload_n 1) 1 60 := by decide +kernel
theorem d8_isRead_60 : zd cX8_isRead 60 (.invokevirtual 224) 3 63 := by decide +kernel
theorem d8_isRead_63 : zd cX8_isRead 63 (.aload_n 3) 1 64 := by decide +kernel
theorem d8_isRead_64 : zd cX8_isRead 64 (.aload_n 0) 1 65 := by decide +kernel
theorem d8_isRead_65 : zd cX8_isRead 65 (.getfield 62) 3 68 := by decide +kernel
theorem d8_isRead_68 : zd cX8_isRead 68 (.getfield 214) 3 71 := by decide +kernel
theorem d8_isRead_71 : zd cX8_isRead 71 (.putfield 277) 3 74 := by decide +kernel
theorem d8_isRead_74 : zd cX8_isRead 74 (.iload 4) 2 76 := by decide +kernel
theorem d8_isRead_76 : zj cX8_isRead 76 (.ifCond .ne 23) 23 79 99 := by decide +kernel
theorem d8_isRead_79 : zd cX8_isRead 79 (.aload_n 3) 1 80 := by decide +kernel
theorem d8_isRead_80 : zd cX8_isRead 80 (.getfield 344) 3 83 := by decide +kernel
theorem d8_isRead_83 : zd cX8_isRead 83 (.iload 5) 2 85 := by decide +kernel
theorem d8_isRead_85 : zj cX8_isRead 85 (.if_icmp .eq 14) 14 88 99 := by decide +kernel
theorem d8_isRead_88 : zd cX8_isRead 88 (.aload_n 3) 1 89 := by decide +kernel
theorem d8_isRead_89 : zd cX8_isRead 89 (.iload 5) 2 91 := by decide +kernel
theorem d8_isRead_91 : zd cX8_isRead 91 (.putfield 344) 3 94 := by decide +kernel
theorem d8_isRead_94 : zd cX8_isRead 94 (.aload_n 3) 1 95 := by decide +kernel
theorem d8_isRead_95 : zd cX8_isRead 95 (.iconst 1) 1 96 := by decide +kernel
theorem d8_isRead_96 : zd cX8_isRead 96 (.putfield 286) 3 99 := by decide +kernel
theorem d8_isRead_99 : zd cX8_isRead 99 (.iconst 1) 1 100 := by decide +kernel
theorem d8_isRead_100 : zd cX8_isRead 100 (.ireturn) 1 101 := by decide +kernel
set_option maxHeartbeats 4000000 in
set_option maxRecDepth 20000 in
theorem c8_isRead (l : Launch) (D : zDt) (Sh : zSh) (top : Nat) (hO : zOK Sh) (o_ : Nat) (v_end : Int32) (v_message : Nat) (μ : zM) (r_ : Bool) (μ_ : zM) (ho : (Sh o_).1 = 15) (h_message : (Sh v_message).1 = 10) (h : f8_isRead o_ v_end v_message μ = some (r_, μ_)) : zMet l D zK1 yX8_isRead cX8_isRead 6 (some .boolean) (zrm 2 44) [.ref o_, .int v_end, .ref v_message] Sh top μ (some (.int (bI r_))) Sh top μ_ 0 0 := by
  refine zMet_of (by decide) (Nat.le_of_ble_eq_true rfl) fun X hX1 hX2 fx fin => ?_
  subst hX1; subst hX2
  replace fx : zFix X cX8_isRead RX8 (zrm 2 44) 6 := fx
  show zZ zK1 X (zT0 Sh top) μ 0 [(0, .ref o_), (1, .int v_end), (2, .ref v_message)] []
  unfold f8_isRead at h
  refine z_aload_n fx (k := 0) (i := 0) rfl rfl d8_isRead_0 ?_
  refine z_getO fx 8 1 2 ho lf8_19 fk8_1 d8_isRead_1 ?_
  refine z_iload_n fx (k := 1) (i := 1) rfl rfl d8_isRead_4 ?_
  obtain ⟨j1, e1, h⟩ := zinv h
  refine z_aald fx 1 (by decide) (ok8_1 hO ho) e1 (v := .ref (o_ + 37 + 2 * j1)) rfl d8_isRead_5 ?_
  refine z_astore_n fx (k := 3) (i := 3) rfl rfl (lv' := [(0, .ref o_), (1, .int v_end), (2, .ref v_message), (3, .ref (o_ + 37 + 2 * j1))]) rfl rfl d8_isRead_6 ?_
  refine z_aload_n fx (k := 0) (i := 0) rfl rfl d8_isRead_7 ?_
  refine z_getO fx 8 0 1 ho lf8_11 fk8_0 d8_isRead_8 ?_
  refine z_aload_n fx (k := 0) (i := 0) rfl rfl d8_isRead_11 ?_
  obtain ⟨w2, e2, h⟩ := zinv h
  refine z_getR fx 8 12 812 17 ho lf8_62 ⟨fk8_12, rfl⟩ e2 d8_isRead_12 (fun tw2 => ?_)
  refine z_getO fx 10 6 7 tw2 lf8_158 fk10_6 d8_isRead_15 ?_
  refine z_iload_n fx (k := 1) (i := 1) rfl rfl d8_isRead_18 ?_
  obtain ⟨t3, e3, h⟩ := zinv h
  refine z_iald fx (ok10_6 hO tw2) e3 d8_isRead_19 ?_
  obtain ⟨j4, e4, h⟩ := zinv h
  refine z_aald fx 0 (by decide) (ok8_0 hO ho) e4 (v := .ref (o_ + 13 + 3 * j4)) rfl d8_isRead_20 ?_
  refine z_getB fx 0 4 4 (okA0 hO (ok8_0 hO ho) (rI_lt e4)) lf8_117 ⟨fk0_4, rfl⟩ d8_isRead_21 ?_
  obtain ⟨v_oldBridge_5, e5, h⟩ := zinv h
  replace e5 := Option.some.inj e5
  refine z_top (congrArg (fun z => Value.int (bI z)) e5) ?_
  refine z_istore fx (i := 4) rfl (lv' := [(0, .ref o_), (1, .int v_end), (2, .ref v_message), (3, .ref (o_ + 37 + 2 * j1)), (4, .int (bI v_oldBridge_5))]) rfl rfl d8_isRead_24 ?_
  refine z_aload_n fx (k := 2) (i := 2) rfl rfl d8_isRead_26 ?_
  refine z_bipush fx (v := 16) bp16 d8_isRead_27 ?_
  obtain ⟨t6, e6, h⟩ := zinv h
  refine z_cVr fx (c3_carries (zLo X) (zDo X) Sh top hO v_message 16 μ _ h_message e6) mv3_carries ml8_341 h_message rfl rfl rfl rfl d8_isRead_29 ?_
  refine z_istore fx (i := 5) rfl (lv' := [(0, .ref o_), (1, .int v_end), (2, .ref v_message), (3, .ref (o_ + 37 + 2 * j1)), (4, .int (bI v_oldBridge_5)), (5, .int (bI t6))]) rfl rfl d8_isRead_32 ?_
  have kt7 : (v_oldBridge_5 && (!t6)) = true → zZ zK1 X (zT0 Sh top) μ 44 [(0, .ref o_), (1, .int v_end), (2, .ref v_message), (3, .ref (o_ + 37 + 2 * j1)), (4, .int (bI v_oldBridge_5)), (5, .int (bI t6))] [] := by
    intro hc
    replace h := zif_t hc h
    refine z_iconst fx (v := 0) ic0 d8_isRead_44 ?_
    refine z_top (show Value.int 0 = .int (bI false) from rfl) ?_
    cases h
    exact z_zreturn fx fin d8_isRead_45
  have kf7 : (v_oldBridge_5 && (!t6)) = false → zZ zK1 X (zT0 Sh top) μ 46 [(0, .ref o_), (1, .int v_end), (2, .ref v_message), (3, .ref (o_ + 37 + 2 * j1)), (4, .int (bI v_oldBridge_5)), (5, .int (bI t6))] [] := by
    intro hc
    replace h := zif_f hc h
    obtain ⟨μ7, e8, h⟩ := zinv h
    have k9 : zZ zK1 X (zT0 Sh top) μ7 74 [(0, .ref o_), (1, .int v_end), (2, .ref v_message), (3, .ref (o_ + 37 + 2 * j1)), (4, .int (bI v_oldBridge_5)), (5, .int (bI t6))] [] := by
      obtain ⟨μ8, e10, h⟩ := zinv h
      have k11 : zZ zK1 X (zT0 Sh top) μ8 99 [(0, .ref o_), (1, .int v_end), (2, .ref v_message), (3, .ref (o_ + 37 + 2 * j1)), (4, .int (bI v_oldBridge_5)), (5, .int (bI t6))] [] := by
        refine z_iconst fx (v := 1) ic1 d8_isRead_99 ?_
        refine z_top (show Value.int 1 = .int (bI true) from rfl) ?_
        cases h
        exact z_zreturn fx fin d8_isRead_100
      clear h
      have kt12 : ((!v_oldBridge_5) && (!(ceq (bI (gB μ7 411 (o_ + 37 + 2 * j1))) (bI t6)))) = true → zZ zK1 X (zT0 Sh top) μ7 88 [(0, .ref o_), (1, .int v_end), (2, .ref v_message), (3, .ref (o_ + 37 + 2 * j1)), (4, .int (bI v_oldBridge_5)), (5, .int (bI t6))] [] := by
        intro hc
        replace e10 := zif_t hc e10
        refine z_aload_n fx (k := 3) (i := 3) rfl rfl d8_isRead_88 ?_
        refine z_iload fx (i := 5) rfl d8_isRead_89 ?_
        obtain ⟨μ9, e13, e10⟩ := zinv e10
        refine z_putB fx (ci := 4) 11 (okA1 hO (ok8_1 hO ho) (rI_lt e1)) lf8_344 fp4_11 e13 d8_isRead_91 ?_
        refine z_aload_n fx (k := 3) (i := 3) rfl rfl d8_isRead_94 ?_
        refine z_iconst fx (v := 1) ic1 d8_isRead_95 ?_
        refine z_top (show Value.int 1 = .int (bI true) from rfl) ?_
        obtain ⟨μ10, e14, e10⟩ := zinv e10
        refine z_putB fx (ci := 4) 14 (okA1 hO (ok8_1 hO ho) (rI_lt e1)) lf8_286 fp4_14 e14 d8_isRead_96 ?_
        cases e10
        exact k11
      have kf12 : ((!v_oldBridge_5) && (!(ceq (bI (gB μ7 411 (o_ + 37 + 2 * j1))) (bI t6)))) = false → zZ zK1 X (zT0 Sh top) μ7 99 [(0, .ref o_), (1, .int v_end), (2, .ref v_message), (3, .ref (o_ + 37 + 2 * j1)), (4, .int (bI v_oldBridge_5)), (5, .int (bI t6))] [] := by
        intro hc
        replace e10 := zif_f hc e10
        cases e10
        exact k11
      clear e10
      refine z_iload fx (i := 4) rfl d8_isRead_74 ?_
      refine z_ifb_ne fx d8_isRead_76 (fun c15 => ?_) (fun c15 => ?_)
      · exact kf12 (by simp [c15])
      · refine z_aload_n fx (k := 3) (i := 3) rfl rfl d8_isRead_79 ?_
        refine z_getB fx 4 11 411 (okA1 hO (ok8_1 hO ho) (rI_lt e1)) lf8_344 ⟨fk4_11, rfl⟩ d8_isRead_80 ?_
        refine z_iload fx (i := 5) rfl d8_isRead_83 ?_
        refine z_icmp_eq fx d8_isRead_85 (fun c16 => ?_) (fun c16 => ?_)
        · exact kf12 (by simp [c15, c16])
        · exact kt12 (by simp [c15, c16])
    clear h
    refine z_aload_n fx (k := 3) (i := 3) rfl rfl d8_isRead_46 ?_
    refine z_getB fx 4 10 410 (okA1 hO (ok8_1 hO ho) (rI_lt e1)) lf8_280 ⟨fk4_10, rfl⟩ d8_isRead_47 ?_
    refine z_ifb_eq fx d8_isRead_50 (fun c17 => ?_) (fun c17 => ?_)
    · replace e8 := zif_f c17 e8
      cases e8
      exact k9
    · replace e8 := zif_t c17 e8
      refine z_aload_n fx (k := 3) (i := 3) rfl rfl d8_isRead_53 ?_
      refine z_iconst fx (v := 0) ic0 d8_isRead_54 ?_
      refine z_top (show Value.int 0 = .int (bI false) from rfl) ?_
      obtain ⟨μ11, e18, e8⟩ := zinv e8
      refine z_putB fx (ci := 4) 10 (okA1 hO (ok8_1 hO ho) (rI_lt e1)) lf8_280 fp4_10 e18 d8_isRead_55 ?_
      refine z_aload_n fx (k := 0) (i := 0) rfl rfl d8_isRead_58 ?_
      refine z_iload_n fx (k := 1) (i := 1) rfl rfl d8_isRead_59 ?_
      obtain ⟨μ12, e19, e8⟩ := zinv e8
      refine z_cVv fx (c8_shut (zLo X) (zDo X) Sh top hO o_ v_end μ11 _ ho e19) mv8_shut ml8_224 ho rfl rfl rfl rfl d8_isRead_60 ?_
      refine z_aload_n fx (k := 3) (i := 3) rfl rfl d8_isRead_63 ?_
      refine z_aload_n fx (k := 0) (i := 0) rfl rfl d8_isRead_64 ?_
      obtain ⟨w13, e20, e8⟩ := zinv e8
      refine z_getR fx 8 12 812 17 ho lf8_62 ⟨fk8_12, rfl⟩ e20 d8_isRead_65 (fun tw13 => ?_)
      refine z_getI fx 10 14 1014 tw13 lf8_214 ⟨fk10_14, rfl⟩ d8_isRead_68 ?_
      obtain ⟨μ14, e21, e8⟩ := zinv e8
      refine z_putI fx (ci := 4) 7 (okA1 hO (ok8_1 hO ho) (rI_lt e1)) lf8_277 fp4_7 e21 d8_isRead_71 ?_
      cases e8
      exact k9
  clear h
  refine z_iload fx (i := 4) rfl d8_isRead_34 ?_
  refine z_ifb_eq fx d8_isRead_36 (fun c22 => ?_) (fun c22 => ?_)
  · exact kf7 (by simp [c22])
  · refine z_iload fx (i := 5) rfl d8_isRead_39 ?_
    refine z_ifb_ne fx d8_isRead_41 (fun c23 => ?_) (fun c23 => ?_)
    · exact kf7 (by simp [c22, c23])
    · exact kt7 (by simp [c22, c23])
theorem d8_readReply_0 : zd cX8_readReply 0 (.aload_n 0) 1 1 := by decide +kernel
theorem d8_readReply_1 : zd cX8_readReply 1 (.getfield 19) 3 4 := by decide +kernel
theorem d8_readReply_4 : zd cX8_readReply 4 (.iload_n 1) 1 5 := by decide +kernel
theorem d8_readReply_5 : zd cX8_readReply 5 (.aaload) 1 6 := by decide +kernel
theorem d8_readReply_6 : zd cX8_readReply 6 (.astore_n 3) 1 7 := by decide +kernel
theorem d8_readReply_7 : zd cX8_readReply 7 (.aload_n 3) 1 8 := by decide +kernel
theorem d8_readReply_8 : zd cX8_readReply 8 (.getfield 260) 3 11 := by decide +kernel
theorem d8_readReply_11 : zd cX8_readReply 11 (.iconst 2) 1 12 := by decide +kernel
theorem d8_readReply_12 : zj cX8_readReply 12 (.if_icmp .eq 4) 4 15 16 := by decide +kernel
theorem d8_readReply_15 : zd cX8_readReply 15 (.return_) 1 16 := by decide +kernel
theorem d8_readReply_16 : zd cX8_readReply 16 (.aload_n 2) 1 17 := by decide +kernel
theorem d8_readReply_17 : zd cX8_readReply 17 (.iconst 2) 1 18 := by decide +kernel
theorem d8_readReply_18 : zd cX8_readReply 18 (.invokevirtual 341) 3 21 := by decide +kernel
theorem d8_readReply_21 : zj cX8_readReply 21 (.ifCond .eq 28) 28 24 49 := by decide +kernel
theorem d8_readReply_24 : zd cX8_readReply 24 (.aload_n 2) 1 25 := by decide +kernel
theorem d8_readReply_25 : zd cX8_readReply 25 (.getfield 348) 3 28 := by decide +kernel
theorem d8_readReply_28 : zd cX8_readReply 28 (.aload_n 0) 1 29 := by decide +kernel
theorem d8_readReply_29 : zd cX8_readReply 29 (.iload_n 1) 1 30 := by decide +kernel
theorem d8_readReply_30 : zd cX8_readReply 30 (.invokevirtual 269) 3 33 := by decide +kernel
theorem d8_readReply_33 : zd cX8_readReply 33 (.invokevirtual 210) 3 36 := by decide +kernel
theorem d8_readReply_36 : zj cX8_readReply 36 (.ifCond .ne 13) 13 39 49 := by decide +kernel
theorem d8_readReply_39 : zd cX8_readReply 39 (.aload_n 3) 1 40 := by decide +kernel
theorem d8_readReply_40 : zd cX8_readReply 40 (.iconst 1) 1 41 := by decide +kernel
theorem d8_readReply_41 : zd cX8_readReply 41 (.putfield 357) 3 44 := by decide +kernel
theorem d8_readReply_44 : zd cX8_readReply 44 (.aload_n 0) 1 45 := by decide +kernel
theorem d8_readReply_45 : zd cX8_readReply 45 (.iload_n 1) 1 46 := by decide +kernel
theorem d8_readReply_46 : zd cX8_readReply 46 (.invokevirtual 221) 3 49 := by decide +kernel
theorem d8_readReply_49 : zd cX8_readReply 49 (.aload_n 2) 1 50 := by decide +kernel
theorem d8_readReply_50 : zd cX8_readReply 50 (.iconst 4) 1 51 := by decide +kernel
theorem d8_readReply_51 : zd cX8_readReply 51 (.invokevirtual 341) 3 54 := by decide +kernel
theorem d8_readReply_54 : zj cX8_readReply 54 (.ifCond .eq 27) 27 57 81 := by decide +kernel
theorem d8_readReply_57 : zd cX8_readReply 57 (.aload_n 0) 1 58 := by decide +kernel
theorem d8_readReply_58 : zd cX8_readReply 58 (.iload_n 1) 1 59 := by decide +kernel
theorem d8_readReply_59 : zd cX8_readReply 59 (.invokevirtual 289) 3 62 := by decide +kernel
theorem d8_readReply_62 : zd cX8_readReply 62 (.aload_n 2) 1 63 := by decide +kernel
theorem d8_readReply_63 : zd cX8_readReply 63 (.bipush 16) 2 65 := by decide +kernel
theorem d8_readReply_65 : zd cX8_readReply 65 (.invokevirtual 341) 3 68 := by decide +kernel
theorem d8_readReply_68 : zj cX8_readReply 68 (.ifCond .eq 13) 13 71 81 := by decide +kernel
theorem d8_readReply_71 : zd cX8_readReply 71 (.aload_n 3) 1 72 := by decide +kernel
theorem d8_readReply_72 : zd cX8_readReply 72 (.iconst 1) 1 73 := by decide +kernel
theorem d8_readReply_73 : zd cX8_readReply 73 (.putfield 363) 3 76 := by decide +kernel
theorem d8_readReply_76 : zd cX8_readReply 76 (.aload_n 3) 1 77 := by decide +kernel
theorem d8_readReply_77 : zd cX8_readReply 77 (.iconst 1) 1 78 := by decide +kernel
theorem d8_readReply_78 : zd cX8_readReply 78 (.putfield 286) 3 81 := by decide +kernel
theorem d8_readReply_81 : zd cX8_readReply 81 (.return_) 1 82 := by decide +kernel
set_option maxHeartbeats 4000000 in
set_option maxRecDepth 20000 in
theorem c8_readReply (l : Launch) (D : zDt) (Sh : zSh) (top : Nat) (hO : zOK Sh) (o_ : Nat) (v_end : Int32) (v_message : Nat) (μ : zM) (μ_ : zM) (ho : (Sh o_).1 = 15) (h_message : (Sh v_message).1 = 10) (h : f8_readReply o_ v_end v_message μ = some μ_) : zMet l D zK1 yX8_readReply cX8_readReply 4 none (zrm 3 69) [.ref o_, .int v_end, .ref v_message] Sh top μ none Sh top μ_ 0 0 := by
  refine zMet_of (by decide) (Nat.le_of_ble_eq_true rfl) fun X hX1 hX2 fx fin => ?_
  subst hX1; subst hX2
  replace fx : zFix X cX8_readReply RX8 (zrm 3 69) 4 := fx
  show zZ zK1 X (zT0 Sh top) μ 0 [(0, .ref o_), (1, .int v_end), (2, .ref v_message)] []
  unfold f8_readReply at h
  refine z_aload_n fx (k := 0) (i := 0) rfl rfl d8_readReply_0 ?_
  refine z_getO fx 8 1 2 ho lf8_19 fk8_1 d8_readReply_1 ?_
  refine z_iload_n fx (k := 1) (i := 1) rfl rfl d8_readReply_4 ?_
  obtain ⟨j1, e1, h⟩ := zinv h
  refine z_aald fx 1 (by decide) (ok8_1 hO ho) e1 (v := .ref (o_ + 37 + 2 * j1)) rfl d8_readReply_5 ?_
  refine z_astore_n fx (k := 3) (i := 3) rfl rfl (lv' := [(0, .ref o_), (1, .int v_end), (2, .ref v_message), (3, .ref (o_ + 37 + 2 * j1))]) rfl rfl d8_readReply_6 ?_
  refine z_aload_n fx (k := 3) (i := 3) rfl rfl d8_readReply_7 ?_
  refine z_getI fx 4 4 404 (okA1 hO (ok8_1 hO ho) (rI_lt e1)) lf8_260 ⟨fk4_4, rfl⟩ d8_readReply_8 ?_
  refine z_iconst fx (v := 2) ic2 d8_readReply_11 ?_
  refine z_icmp_eq fx d8_readReply_12 (fun c2 => ?_) (fun c2 => ?_)
  · replace h := zif_t c2 h
    obtain ⟨μ2, e3, h⟩ := zinv h
    have k4 : zZ zK1 X (zT0 Sh top) μ2 49 [(0, .ref o_), (1, .int v_end), (2, .ref v_message), (3, .ref (o_ + 37 + 2 * j1))] [] := by
      refine z_aload_n fx (k := 2) (i := 2) rfl rfl d8_readReply_49 ?_
      refine z_iconst fx (v := 4) ic4 d8_readReply_50 ?_
      obtain ⟨t3, e5, h⟩ := zinv h
      refine z_cVr fx (c3_carries (zLo X) (zDo X) Sh top hO v_message 4 μ2 _ h_message e5) mv3_carries ml8_341 h_message rfl rfl rfl rfl d8_readReply_51 ?_
      refine z_ifb_eq fx d8_readReply_54 (fun c6 => ?_) (fun c6 => ?_)
      · replace h := zif_f c6 h
        cases h
        exact z_return fx fin d8_readReply_81
      · replace h := zif_t c6 h
        refine z_aload_n fx (k := 0) (i := 0) rfl rfl d8_readReply_57 ?_
        refine z_iload_n fx (k := 1) (i := 1) rfl rfl d8_readReply_58 ?_
        obtain ⟨μ4, e7, h⟩ := zinv h
        refine z_cVv fx (c8_spread (zLo X) (zDo X) Sh top hO o_ v_end μ2 _ ho e7) mv8_spread ml8_289 ho rfl rfl rfl rfl d8_readReply_59 ?_
        refine z_aload_n fx (k := 2) (i := 2) rfl rfl d8_readReply_62 ?_
        refine z_bipush fx (v := 16) bp16 d8_readReply_63 ?_
        obtain ⟨t5, e8, h⟩ := zinv h
        refine z_cVr fx (c3_carries (zLo X) (zDo X) Sh top hO v_message 16 μ4 _ h_message e8) mv3_carries ml8_341 h_message rfl rfl rfl rfl d8_readReply_65 ?_
        refine z_ifb_eq fx d8_readReply_68 (fun c9 => ?_) (fun c9 => ?_)
        · replace h := zif_f c9 h
          cases h
          exact z_return fx fin d8_readReply_81
        · replace h := zif_t c9 h
          refine z_aload_n fx (k := 3) (i := 3) rfl rfl d8_readReply_71 ?_
          refine z_iconst fx (v := 1) ic1 d8_readReply_72 ?_
          refine z_top (show Value.int 1 = .int (bI true) from rfl) ?_
          obtain ⟨μ6, e10, h⟩ := zinv h
          refine z_putB fx (ci := 4) 13 (okA1 hO (ok8_1 hO ho) (rI_lt e1)) lf8_363 fp4_13 e10 d8_readReply_73 ?_
          refine z_aload_n fx (k := 3) (i := 3) rfl rfl d8_readReply_76 ?_
          refine z_iconst fx (v := 1) ic1 d8_readReply_77 ?_
          refine z_top (show Value.int 1 = .int (bI true) from rfl) ?_
          obtain ⟨μ7, e11, h⟩ := zinv h
          refine z_putB fx (ci := 4) 14 (okA1 hO (ok8_1 hO ho) (rI_lt e1)) lf8_286 fp4_14 e11 d8_readReply_78 ?_
          cases h
          exact z_return fx fin d8_readReply_81
    clear h
    obtain ⟨b8, μ9, e13, e3⟩ := zinv2 e3
    have kt12 : b8 = true → zZ zK1 X (zT0 Sh top) μ9 39 [(0, .ref o_), (1, .int v_end), (2, .ref v_message), (3, .ref (o_ + 37 + 2 * j1))] [] := by
      intro hc
      replace e3 := zif_t hc e3
      refine z_aload_n fx (k := 3) (i := 3) rfl rfl d8_readReply_39 ?_
      refine z_iconst fx (v := 1) ic1 d8_readReply_40 ?_
      refine z_top (show Value.int 1 = .int (bI true) from rfl) ?_
      obtain ⟨μ10, e14, e3⟩ := zinv e3
      refine z_putB fx (ci := 4) 9 (okA1 hO (ok8_1 hO ho) (rI_lt e1)) lf8_357 fp4_9 e14 d8_readReply_41 ?_
      refine z_aload_n fx (k := 0) (i := 0) rfl rfl d8_readReply_44 ?_
      refine z_iload_n fx (k := 1) (i := 1) rfl rfl d8_readReply_45 ?_
      obtain ⟨μ11, e15, e3⟩ := zinv e3
      refine z_cVv fx (c8_open (zLo X) (zDo X) Sh top hO o_ v_end μ10 _ ho e15) mv8_open ml8_221 ho rfl rfl rfl rfl d8_readReply_46 ?_
      cases e3
      exact k4
    have kf12 : b8 = false → zZ zK1 X (zT0 Sh top) μ9 49 [(0, .ref o_), (1, .int v_end), (2, .ref v_message), (3, .ref (o_ + 37 + 2 * j1))] [] := by
      intro hc
      replace e3 := zif_f hc e3
      cases e3
      exact k4
    clear e3
    obtain ⟨b12, e16, e13⟩ := zinv e13
    have kt17 : b12 = true → zZ zK1 X (zT0 Sh top) μ 24 [(0, .ref o_), (1, .int v_end), (2, .ref v_message), (3, .ref (o_ + 37 + 2 * j1))] [] := by
      intro hc
      replace e13 := zif_t hc e13
      refine z_aload_n fx (k := 2) (i := 2) rfl rfl d8_readReply_24 ?_
      refine z_getO fx 3 0 1 h_message lf8_348 fk3_0 d8_readReply_25 ?_
      refine z_aload_n fx (k := 0) (i := 0) rfl rfl d8_readReply_28 ?_
      refine z_iload_n fx (k := 1) (i := 1) rfl rfl d8_readReply_29 ?_
      obtain ⟨t13, μ14, e18, e13⟩ := zinv2 e13
      have tt13 : (Sh t13).1 = 16 := (c8_oursAt (zLo X) (zDo X) Sh top hO o_ v_end μ _ _ ho e18).2
      refine z_cVr fx ((c8_oursAt (zLo X) (zDo X) Sh top hO o_ v_end μ _ _ ho e18).1) mv8_oursAt ml8_269 ho rfl rfl rfl rfl d8_readReply_30 ?_
      obtain ⟨t15, e19, e13⟩ := zinv e13
      refine z_cVr fx (c9_against (zLo X) (zDo X) Sh top hO (v_message + 1) t13 μ14 _ (ok3_0 hO h_message) tt13 e19) mv9_against ml8_210 (ok3_0 hO h_message) rfl rfl rfl rfl d8_readReply_33 ?_
      cases e13
      refine z_if_ne fx d8_readReply_36 (fun c20 => ?_) (fun c20 => ?_)
      · exact kf12 c20
      · exact kt12 c20
    have kf17 : b12 = false → zZ zK1 X (zT0 Sh top) μ 49 [(0, .ref o_), (1, .int v_end), (2, .ref v_message), (3, .ref (o_ + 37 + 2 * j1))] [] := by
      intro hc
      replace e13 := zif_f hc e13
      cases e13
      exact kf12 rfl
    clear e13
    refine z_aload_n fx (k := 2) (i := 2) rfl rfl d8_readReply_16 ?_
    refine z_iconst fx (v := 2) ic2 d8_readReply_17 ?_
    obtain ⟨t16, e21, e16⟩ := zinv e16
    refine z_cVr fx (c3_carries (zLo X) (zDo X) Sh top hO v_message 2 μ _ h_message e21) mv3_carries ml8_341 h_message rfl rfl rfl rfl d8_readReply_18 ?_
    cases e16
    refine z_ifb_eq fx d8_readReply_21 (fun c22 => ?_) (fun c22 => ?_)
    · exact kf17 c22
    · exact kt17 c22
  · replace h := zif_f c2 h
    cases h
    exact z_return fx fin d8_readReply_15
theorem d8_takeProposal_0 : zd cX8_takeProposal 0 (.aload_n 0) 1 1 := by decide +kernel
theorem d8_takeProposal_1 : zd cX8_takeProposal 1 (.getfield 62) 3 4 := by decide +kernel
theorem d8_takeProposal_4 : zd cX8_takeProposal 4 (.getfield 158) 3 7 := by decide +kernel
theorem d8_takeProposal_7 : zd cX8_takeProposal 7 (.iload_n 1) 1 8 := by decide +kernel
theorem d8_takeProposal_8 : zd cX8_takeProposal 8 (.iaload) 1 9 := by decide +kernel
theorem d8_takeProposal_9 : zd cX8_takeProposal 9 (.istore_n 2) 1 10 := by decide +kernel
theorem d8_takeProposal_10 : zd cX8_takeProposal 10 (.iconst 0) 1 11 := by decide +kernel
theorem d8_takeProposal_11 : zd cX8_takeProposal 11 (.istore_n 3) 1 12 := by decide +kernel
theorem d8_takeProposal_12 : zd cX8_takeProposal 12 (.iload_n 3) 1 13 := by decide +kernel
theorem d8_takeProposal_13 : zd cX8_takeProposal 13 (.aload_n 0) 1 14 := by decide +kernel
theorem d8_takeProposal_14 : zd cX8_takeProposal 14 (.getfield 62) 3 17 := by decide +kernel
theorem d8_takeProposal_17 : zd cX8_takeProposal 17 (.getfield 174) 3 20 := by decide +kernel
theorem d8_takeProposal_20 : zd cX8_takeProposal 20 (.iload_n 2) 1 21 := by decide +kernel
theorem d8_takeProposal_21 : zd cX8_takeProposal 21 (.iaload) 1 22 := by decide +kernel
theorem d8_takeProposal_22 : zj cX8_takeProposal 22 (.if_icmp .ge 91) 91 25 113 := by decide +kernel
theorem d8_takeProposal_25 : zd cX8_takeProposal 25 (.aload_n 0) 1 26 := by decide +kernel
theorem d8_takeProposal_26 : zd cX8_takeProposal 26 (.getfield 19) 3 29 := by decide +kernel
theorem d8_takeProposal_29 : zd cX8_takeProposal 29 (.iload_n 1) 1 30 := by decide +kernel
theorem d8_takeProposal_30 : zd cX8_takeProposal 30 (.aaload) 1 31 := by decide +kernel
theorem d8_takeProposal_31 : zd cX8_takeProposal 31 (.getfield 260) 3 34 := by decide +kernel
theorem d8_takeProposal_34 : zd cX8_takeProposal 34 (.iconst 1) 1 35 := by decide +kernel
theorem d8_takeProposal_35 : zj cX8_takeProposal 35 (.if_icmp .ne 78) 78 38 113 := by decide +kernel
theorem d8_takeProposal_38 : zd cX8_takeProposal 38 (.aload_n 0) 1 39 := by decide +kernel
theorem d8_takeProposal_39 : zd cX8_takeProposal 39 (.getfield 62) 3 42 := by decide +kernel
theorem d8_takeProposal_42 : zd cX8_takeProposal 42 (.iload_n 2) 1 43 := by decide +kernel
theorem d8_takeProposal_43 : zd cX8_takeProposal 43 (.iload_n 3) 1 44 := by decide +kernel
theorem d8_takeProposal_44 : zd cX8_takeProposal 44 (.invokevirtual 176) 3 47 := by decide +kernel
theorem d8_takeProposal_47 : zd cX8_takeProposal 47 (.istore 4) 2 49 := by decide +kernel
theorem d8_takeProposal_49 : zd cX8_takeProposal 49 (.aload_n 0) 1 50 := by decide +kernel
theorem d8_takeProposal_50 : zd cX8_takeProposal 50 (.getfield 19) 3 53 := by decide +kernel
theorem d8_takeProposal_53 : zd cX8_takeProposal 53 (.iload 4) 2 55 := by decide +kernel
theorem d8_takeProposal_55 : zd cX8_takeProposal 55 (.aaload) 1 56 := by decide +kernel
theorem d8_takeProposal_56 : zd cX8_takeProposal 56 (.astore 5) 2 58 := by decide +kernel
theorem d8_takeProposal_58 : zd cX8_takeProposal 58 (.aload 5) 2 60 := by decide +kernel
theorem d8_takeProposal_60 : zd cX8_takeProposal 60 (.getfield 260) 3 63 := by decide +kernel
theorem d8_takeProposal_63 : zd cX8_takeProposal 63 (.iconst 2) 1 64 := by decide +kernel
theorem d8_takeProposal_64 : zj cX8_takeProposal 64 (.if_icmp .ne 43) 43 67 107 := by decide +kernel
theorem d8_takeProposal_67 : zd cX8_takeProposal 67 (.aload 5) 2 69 := by decide +kernel
theorem d8_takeProposal_69 : zd cX8_takeProposal 69 (.getfield 280) 3 72 := by decide +kernel
theorem d8_takeProposal_72 : zj cX8_takeProposal 72 (.ifCond .ne 35) 35 75 107 := by decide +kernel
theorem d8_takeProposal_75 : zd cX8_takeProposal 75 (.aload 5) 2 77 := by decide +kernel
theorem d8_takeProposal_77 : zd cX8_takeProposal 77 (.getfield 357) 3 80 := by decide +kernel
theorem d8_takeProposal_80 : zj cX8_takeProposal 80 (.ifCond .ne 27) 27 83 107 := by decide +kernel
theorem d8_takeProposal_83 : zd cX8_takeProposal 83 (.aload_n 0) 1 84 := by decide +kernel
theorem d8_takeProposal_84 : zd cX8_takeProposal 84 (.iload 4) 2 86 := by decide +kernel
theorem d8_takeProposal_86 : zd cX8_takeProposal 86 (.invokevirtual 224) 3 89 := by decide +kernel
theorem d8_takeProposal_89 : zd cX8_takeProposal 89 (.aload 5) 2 91 := by decide +kernel
theorem d8_takeProposal_91 : zd cX8_takeProposal 91 (.aload_n 0) 1 92 := by decide +kernel
theorem d8_takeProposal_92 : zd cX8_takeProposal 92 (.getfield 62) 3 95 := by decide +kernel
theorem d8_takeProposal_95 : zd cX8_takeProposal 95 (.getfield 214) 3 98 := by decide +kernel
theorem d8_takeProposal_98 : zd cX8_takeProposal 98 (.putfield 277) 3 101 := by decide +kernel
theorem d8_takeProposal_101 : zd cX8_takeProposal 101 (.aload 5) 2 103 := by decide +kernel
theorem d8_takeProposal_103 : zd cX8_takeProposal 103 (.iconst 1) 1 104 := by decide +kernel
theorem d8_takeProposal_104 : zd cX8_takeProposal 104 (.putfield 286) 3 107 := by decide +kernel
theorem d8_takeProposal_107 : zd cX8_takeProposal 107 (.iinc 3 1) 3 110 := by decide +kernel
theorem d8_takeProposal_110 : zj cX8_takeProposal 110 (.goto (-98)) (-98) 113 12 := by decide +kernel
theorem d8_takeProposal_113 : zd cX8_takeProposal 113 (.aload_n 0) 1 114 := by decide +kernel
theorem d8_takeProposal_114 : zd cX8_takeProposal 114 (.getfield 19) 3 117 := by decide +kernel
theorem d8_takeProposal_117 : zd cX8_takeProposal 117 (.iload_n 1) 1 118 := by decide +kernel
theorem d8_takeProposal_118 : zd cX8_takeProposal 118 (.aaload) 1 119 := by decide +kernel
theorem d8_takeProposal_119 : zd cX8_takeProposal 119 (.iconst 1) 1 120 := by decide +kernel
theorem d8_takeProposal_120 : zd cX8_takeProposal 120 (.putfield 360) 3 123 := by decide +kernel
theorem d8_takeProposal_123 : zd cX8_takeProposal 123 (.aload_n 0) 1 124 := by decide +kernel
theorem d8_takeProposal_124 : zd cX8_takeProposal 124 (.getfield 19) 3 127 := by decide +kernel
theorem d8_takeProposal_127 : zd cX8_takeProposal 127 (.iload_n 1) 1 128 := by decide +kernel
theorem d8_takeProposal_128 : zd cX8_takeProposal 128 (.aaload) 1 129 := by decide +kernel
theorem d8_takeProposal_129 : zd cX8_takeProposal 129 (.iconst 1) 1 130 := by decide +kernel
theorem d8_takeProposal_130 : zd cX8_takeProposal 130 (.putfield 286) 3 133 := by decide +kernel
theorem d8_takeProposal_133 : zd cX8_takeProposal 133 (.return_) 1 134 := by decide +kernel
set_option maxHeartbeats 4000000 in
set_option maxRecDepth 20000 in
theorem c8_takeProposal (l : Launch) (D : zDt) (Sh : zSh) (top : Nat) (hO : zOK Sh) (o_ : Nat) (v_end : Int32) (μ : zM) (μ_ : zM) (ho : (Sh o_).1 = 15) (h : f8_takeProposal o_ v_end μ = some μ_) : zMet l D zK1 yX8_takeProposal cX8_takeProposal 6 none (zrm 2 44) [.ref o_, .int v_end] Sh top μ none Sh top μ_ 0 0 := by
  refine zMet_of (by decide) (Nat.le_of_ble_eq_true rfl) fun X hX1 hX2 fx fin => ?_
  subst hX1; subst hX2
  replace fx : zFix X cX8_takeProposal RX8 (zrm 2 44) 6 := fx
  show zZ zK1 X (zT0 Sh top) μ 0 [(0, .ref o_), (1, .int v_end)] []
  unfold f8_takeProposal at h
  refine z_aload_n fx (k := 0) (i := 0) rfl rfl d8_takeProposal_0 ?_
  obtain ⟨w1, e1, h⟩ := zinv h
  refine z_getR fx 8 12 812 17 ho lf8_62 ⟨fk8_12, rfl⟩ e1 d8_takeProposal_1 (fun tw1 => ?_)
  refine z_getO fx 10 6 7 tw1 lf8_158 fk10_6 d8_takeProposal_4 ?_
  refine z_iload_n fx (k := 1) (i := 1) rfl rfl d8_takeProposal_7 ?_
  obtain ⟨t2, e2, h⟩ := zinv h
  refine z_iald fx (ok10_6 hO tw1) e2 d8_takeProposal_8 ?_
  refine z_istore_n fx (k := 2) (i := 2) rfl rfl (lv' := [(0, .ref o_), (1, .int v_end), (2, .int t2)]) rfl rfl d8_takeProposal_9 ?_
  refine z_iconst fx (v := 0) ic0 d8_takeProposal_10 ?_
  refine z_istore_n fx (k := 3) (i := 3) rfl rfl (lv' := [(0, .ref o_), (1, .int v_end), (2, .int t2), (3, .int 0)]) rfl rfl d8_takeProposal_11 ?_
  obtain ⟨v_p_5, μ6, e34, h⟩ := zinv2 h
  have kx6 : zZ zK1 X (zT0 Sh top) μ6 113 [(0, .ref o_), (1, .int v_end), (2, .int t2), (3, .int v_p_5)] [] := by
    refine z_take 3 (lv' := [(0, .ref o_), (1, .int v_end), (2, .int t2)]) rfl ?_
    refine z_aload_n fx (k := 0) (i := 0) rfl rfl d8_takeProposal_113 ?_
    refine z_getO fx 8 1 2 ho lf8_19 fk8_1 d8_takeProposal_114 ?_
    refine z_iload_n fx (k := 1) (i := 1) rfl rfl d8_takeProposal_117 ?_
    obtain ⟨j21, e30, h⟩ := zinv h
    refine z_aald fx 1 (by decide) (ok8_1 hO ho) e30 (v := .ref (o_ + 37 + 2 * j21)) rfl d8_takeProposal_118 ?_
    refine z_iconst fx (v := 1) ic1 d8_takeProposal_119 ?_
    refine z_top (show Value.int 1 = .int (bI true) from rfl) ?_
    obtain ⟨μ22, e31, h⟩ := zinv h
    refine z_putB fx (ci := 4) 12 (okA1 hO (ok8_1 hO ho) (rI_lt e30)) lf8_360 fp4_12 e31 d8_takeProposal_120 ?_
    refine z_aload_n fx (k := 0) (i := 0) rfl rfl d8_takeProposal_123 ?_
    refine z_getO fx 8 1 2 ho lf8_19 fk8_1 d8_takeProposal_124 ?_
    refine z_iload_n fx (k := 1) (i := 1) rfl rfl d8_takeProposal_127 ?_
    obtain ⟨j23, e32, h⟩ := zinv h
    refine z_aald fx 1 (by decide) (ok8_1 hO ho) e32 (v := .ref (o_ + 37 + 2 * j23)) rfl d8_takeProposal_128 ?_
    refine z_iconst fx (v := 1) ic1 d8_takeProposal_129 ?_
    refine z_top (show Value.int 1 = .int (bI true) from rfl) ?_
    obtain ⟨μ24, e33, h⟩ := zinv h
    refine z_putB fx (ci := 4) 14 (okA1 hO (ok8_1 hO ho) (rI_lt e32)) lf8_286 fp4_14 e33 d8_takeProposal_130 ?_
    cases h
    exact z_return fx fin d8_takeProposal_133
  clear h
  have klr5 : ∀ (n : Nat) (v_p_3 : Int32) (μ4 : zM), zloop (fun s => f8_takeProposal_L1 o_ v_end t2 s.1 s.2) n (v_p_3, μ4) = some (v_p_5, μ6) → zZ zK1 X (zT0 Sh top) μ4 12 [(0, .ref o_), (1, .int v_end), (2, .int t2), (3, .int v_p_3)] [] := by
    intro n
    induction n with
    | zero => intro v_p_3 μ4 hl4; cases hl4
    | succ n ih7 =>
      intro v_p_3 μ4 hl4
      obtain ⟨y, e3, hl4⟩ := zloop_inv hl4
      replace e3 : f8_takeProposal_L1 o_ v_end t2 v_p_3 μ4 = some y := e3
      unfold f8_takeProposal_L1 at e3
      obtain ⟨b7, e9, e3⟩ := zinv e3
      have kt8 : b7 = true → zZ zK1 X (zT0 Sh top) μ4 38 [(0, .ref o_), (1, .int v_end), (2, .int t2), (3, .int v_p_3)] [] := by
        intro hc
        replace e3 := zif_t hc e3
        refine z_aload_n fx (k := 0) (i := 0) rfl rfl d8_takeProposal_38 ?_
        obtain ⟨w8, e10, e3⟩ := zinv e3
        refine z_getR fx 8 12 812 17 ho lf8_62 ⟨fk8_12, rfl⟩ e10 d8_takeProposal_39 (fun tw8 => ?_)
        refine z_iload_n fx (k := 2) (i := 2) rfl rfl d8_takeProposal_42 ?_
        refine z_iload_n fx (k := 3) (i := 3) rfl rfl d8_takeProposal_43 ?_
        obtain ⟨t9, e11, e3⟩ := zinv e3
        refine z_cVr fx (c10_endOf (zLo X) (zDo X) Sh top hO w8 t2 v_p_3 μ4 _ tw8 e11) mv10_endOf ml8_176 tw8 rfl rfl rfl rfl d8_takeProposal_44 ?_
        refine z_istore fx (i := 4) rfl (lv' := [(0, .ref o_), (1, .int v_end), (2, .int t2), (3, .int v_p_3), (4, .int t9)]) rfl rfl d8_takeProposal_47 ?_
        refine z_aload_n fx (k := 0) (i := 0) rfl rfl d8_takeProposal_49 ?_
        refine z_getO fx 8 1 2 ho lf8_19 fk8_1 d8_takeProposal_50 ?_
        refine z_iload fx (i := 4) rfl d8_takeProposal_53 ?_
        obtain ⟨j10, e12, e3⟩ := zinv e3
        refine z_aald fx 1 (by decide) (ok8_1 hO ho) e12 (v := .ref (o_ + 37 + 2 * j10)) rfl d8_takeProposal_55 ?_
        refine z_astore fx (i := 5) rfl (lv' := [(0, .ref o_), (1, .int v_end), (2, .int t2), (3, .int v_p_3), (4, .int t9), (5, .ref (o_ + 37 + 2 * j10))]) rfl rfl d8_takeProposal_56 ?_
        have kt13 : (((ceq (gF μ4 404 (o_ + 37 + 2 * j10)) 2) && (!(gB μ4 410 (o_ + 37 + 2 * j10)))) && (!(gB μ4 409 (o_ + 37 + 2 * j10)))) = true → zZ zK1 X (zT0 Sh top) μ4 83 [(0, .ref o_), (1, .int v_end), (2, .int t2), (3, .int v_p_3), (4, .int t9), (5, .ref (o_ + 37 + 2 * j10))] [] := by
          intro hc
          replace e3 := zif_t hc e3
          refine z_aload_n fx (k := 0) (i := 0) rfl rfl d8_takeProposal_83 ?_
          refine z_iload fx (i := 4) rfl d8_takeProposal_84 ?_
          obtain ⟨μ11, e14, e3⟩ := zinv e3
          refine z_cVv fx (c8_shut (zLo X) (zDo X) Sh top hO o_ t9 μ4 _ ho e14) mv8_shut ml8_224 ho rfl rfl rfl rfl d8_takeProposal_86 ?_
          refine z_aload fx (i := 5) rfl d8_takeProposal_89 ?_
          refine z_aload_n fx (k := 0) (i := 0) rfl rfl d8_takeProposal_91 ?_
          obtain ⟨w12, e15, e3⟩ := zinv e3
          refine z_getR fx 8 12 812 17 ho lf8_62 ⟨fk8_12, rfl⟩ e15 d8_takeProposal_92 (fun tw12 => ?_)
          refine z_getI fx 10 14 1014 tw12 lf8_214 ⟨fk10_14, rfl⟩ d8_takeProposal_95 ?_
          obtain ⟨μ13, e16, e3⟩ := zinv e3
          refine z_putI fx (ci := 4) 7 (okA1 hO (ok8_1 hO ho) (rI_lt e12)) lf8_277 fp4_7 e16 d8_takeProposal_98 ?_
          refine z_aload fx (i := 5) rfl d8_takeProposal_101 ?_
          refine z_iconst fx (v := 1) ic1 d8_takeProposal_103 ?_
          refine z_top (show Value.int 1 = .int (bI true) from rfl) ?_
          obtain ⟨μ14, e17, e3⟩ := zinv e3
          refine z_putB fx (ci := 4) 14 (okA1 hO (ok8_1 hO ho) (rI_lt e12)) lf8_286 fp4_14 e17 d8_takeProposal_104 ?_
          refine z_take 4 (lv' := [(0, .ref o_), (1, .int v_end), (2, .int t2), (3, .int v_p_3)]) rfl ?_
          obtain ⟨v_p_15, e18, e3⟩ := zinv e3
          replace e18 := Option.some.inj e18
          refine z_iinc fx (i := 3) (x := v_p_3) (v := v_p_15) rfl (by rw [in1]; exact e18) rfl (lv' := [(0, .ref o_), (1, .int v_end), (2, .int t2), (3, .int v_p_15)]) rfl rfl d8_takeProposal_107 ?_
          cases e3
          refine z_goto fx d8_takeProposal_110 ?_
          exact ih7 _ _ hl4
        have kf13 : (((ceq (gF μ4 404 (o_ + 37 + 2 * j10)) 2) && (!(gB μ4 410 (o_ + 37 + 2 * j10)))) && (!(gB μ4 409 (o_ + 37 + 2 * j10)))) = false → zZ zK1 X (zT0 Sh top) μ4 107 [(0, .ref o_), (1, .int v_end), (2, .int t2), (3, .int v_p_3), (4, .int t9), (5, .ref (o_ + 37 + 2 * j10))] [] := by
          intro hc
          replace e3 := zif_f hc e3
          refine z_take 4 (lv' := [(0, .ref o_), (1, .int v_end), (2, .int t2), (3, .int v_p_3)]) rfl ?_
          obtain ⟨v_p_16, e19, e3⟩ := zinv e3
          replace e19 := Option.some.inj e19
          refine z_iinc fx (i := 3) (x := v_p_3) (v := v_p_16) rfl (by rw [in1]; exact e19) rfl (lv' := [(0, .ref o_), (1, .int v_end), (2, .int t2), (3, .int v_p_16)]) rfl rfl d8_takeProposal_107 ?_
          cases e3
          refine z_goto fx d8_takeProposal_110 ?_
          exact ih7 _ _ hl4
        clear e3
        refine z_aload fx (i := 5) rfl d8_takeProposal_58 ?_
        refine z_getI fx 4 4 404 (okA1 hO (ok8_1 hO ho) (rI_lt e12)) lf8_260 ⟨fk4_4, rfl⟩ d8_takeProposal_60 ?_
        refine z_iconst fx (v := 2) ic2 d8_takeProposal_63 ?_
        refine z_icmp_ne fx d8_takeProposal_64 (fun c20 => ?_) (fun c20 => ?_)
        · exact kf13 (by simp [c20])
        · refine z_aload fx (i := 5) rfl d8_takeProposal_67 ?_
          refine z_getB fx 4 10 410 (okA1 hO (ok8_1 hO ho) (rI_lt e12)) lf8_280 ⟨fk4_10, rfl⟩ d8_takeProposal_69 ?_
          refine z_ifb_ne fx d8_takeProposal_72 (fun c21 => ?_) (fun c21 => ?_)
          · exact kf13 (by simp [c20, c21])
          · refine z_aload fx (i := 5) rfl d8_takeProposal_75 ?_
            refine z_getB fx 4 9 409 (okA1 hO (ok8_1 hO ho) (rI_lt e12)) lf8_357 ⟨fk4_9, rfl⟩ d8_takeProposal_77 ?_
            refine z_ifb_ne fx d8_takeProposal_80 (fun c22 => ?_) (fun c22 => ?_)
            · exact kf13 (by simp [c20, c21, c22])
            · exact kt13 (by simp [c20, c21, c22])
      have kf8 : b7 = false → zZ zK1 X (zT0 Sh top) μ4 113 [(0, .ref o_), (1, .int v_end), (2, .int t2), (3, .int v_p_3)] [] := by
        intro hc
        replace e3 := zif_f hc e3
        cases e3
        cases hl4
        exact kx6
      clear e3
      obtain ⟨b17, e23, e9⟩ := zinv e9
      have kt24 : b17 = true → zZ zK1 X (zT0 Sh top) μ4 25 [(0, .ref o_), (1, .int v_end), (2, .int t2), (3, .int v_p_3)] [] := by
        intro hc
        replace e9 := zif_t hc e9
        refine z_aload_n fx (k := 0) (i := 0) rfl rfl d8_takeProposal_25 ?_
        refine z_getO fx 8 1 2 ho lf8_19 fk8_1 d8_takeProposal_26 ?_
        refine z_iload_n fx (k := 1) (i := 1) rfl rfl d8_takeProposal_29 ?_
        obtain ⟨j18, e25, e9⟩ := zinv e9
        refine z_aald fx 1 (by decide) (ok8_1 hO ho) e25 (v := .ref (o_ + 37 + 2 * j18)) rfl d8_takeProposal_30 ?_
        refine z_getI fx 4 4 404 (okA1 hO (ok8_1 hO ho) (rI_lt e25)) lf8_260 ⟨fk4_4, rfl⟩ d8_takeProposal_31 ?_
        refine z_iconst fx (v := 1) ic1 d8_takeProposal_34 ?_
        cases e9
        refine z_icmp_ne fx d8_takeProposal_35 (fun c26 => ?_) (fun c26 => ?_)
        · exact kf8 c26
        · exact kt8 c26
      have kf24 : b17 = false → zZ zK1 X (zT0 Sh top) μ4 113 [(0, .ref o_), (1, .int v_end), (2, .int t2), (3, .int v_p_3)] [] := by
        intro hc
        replace e9 := zif_f hc e9
        cases e9
        exact kf8 rfl
      clear e9
      refine z_iload_n fx (k := 3) (i := 3) rfl rfl d8_takeProposal_12 ?_
      refine z_aload_n fx (k := 0) (i := 0) rfl rfl d8_takeProposal_13 ?_
      obtain ⟨w19, e27, e23⟩ := zinv e23
      refine z_getR fx 8 12 812 17 ho lf8_62 ⟨fk8_12, rfl⟩ e27 d8_takeProposal_14 (fun tw19 => ?_)
      refine z_getO fx 10 4 5 tw19 lf8_174 fk10_4 d8_takeProposal_17 ?_
      refine z_iload_n fx (k := 2) (i := 2) rfl rfl d8_takeProposal_20 ?_
      obtain ⟨t20, e28, e23⟩ := zinv e23
      refine z_iald fx (ok10_4 hO tw19) e28 d8_takeProposal_21 ?_
      cases e23
      refine z_icmp_ge fx d8_takeProposal_22 (fun c29 => ?_) (fun c29 => ?_)
      · exact kf24 c29
      · exact kt24 c29
  exact klr5 _ _ _ e34
theorem d8_followRoot_0 : zd cX8_followRoot 0 (.aload_n 0) 1 1 := by decide +kernel
theorem d8_followRoot_1 : zd cX8_followRoot 1 (.getfield 62) 3 4 := by decide +kernel
theorem d8_followRoot_4 : zd cX8_followRoot 4 (.getfield 158) 3 7 := by decide +kernel
theorem d8_followRoot_7 : zd cX8_followRoot 7 (.iload_n 1) 1 8 := by decide +kernel
theorem d8_followRoot_8 : zd cX8_followRoot 8 (.iaload) 1 9 := by decide +kernel
theorem d8_followRoot_9 : zd cX8_followRoot 9 (.istore_n 3) 1 10 := by decide +kernel
theorem d8_followRoot_10 : zd cX8_followRoot 10 (.aload_n 0) 1 11 := by decide +kernel
theorem d8_followRoot_11 : zd cX8_followRoot 11 (.getfield 11) 3 14 := by decide +kernel
theorem d8_followRoot_14 : zd cX8_followRoot 14 (.iload_n 3) 1 15 := by decide +kernel
theorem d8_followRoot_15 : zd cX8_followRoot 15 (.aaload) 1 16 := by decide +kernel
theorem d8_followRoot_16 : zd cX8_followRoot 16 (.getfield 117) 3 19 := by decide +kernel
theorem d8_followRoot_19 : zj cX8_followRoot 19 (.ifCond .eq 58) 58 22 77 := by decide +kernel
theorem d8_followRoot_22 : zd cX8_followRoot 22 (.iconst 0) 1 23 := by decide +kernel
theorem d8_followRoot_23 : zd cX8_followRoot 23 (.istore 4) 2 25 := by decide +kernel
theorem d8_followRoot_25 : zd cX8_followRoot 25 (.iload 4) 2 27 := by decide +kernel
theorem d8_followRoot_27 : zd cX8_followRoot 27 (.aload_n 0) 1 28 := by decide +kernel
theorem d8_followRoot_28 : zd cX8_followRoot 28 (.getfield 62) 3 31 := by decide +kernel
theorem d8_followRoot_31 : zd cX8_followRoot 31 (.getfield 174) 3 34 := by decide +kernel
theorem d8_followRoot_34 : zd cX8_followRoot 34 (.iload_n 3) 1 35 := by decide +kernel
theorem d8_followRoot_35 : zd cX8_followRoot 35 (.iaload) 1 36 := by decide +kernel
theorem d8_followRoot_36 : zj cX8_followRoot 36 (.if_icmp .ge 41) 41 39 77 := by decide +kernel
theorem d8_followRoot_39 : zd cX8_followRoot 39 (.aload_n 0) 1 40 := by decide +kernel
theorem d8_followRoot_40 : zd cX8_followRoot 40 (.getfield 19) 3 43 := by decide +kernel
theorem d8_followRoot_43 : zd cX8_followRoot 43 (.aload_n 0) 1 44 := by decide +kernel
theorem d8_followRoot_44 : zd cX8_followRoot 44 (.getfield 62) 3 47 := by decide +kernel
theorem d8_followRoot_47 : zd cX8_followRoot 47 (.iload_n 3) 1 48 := by decide +kernel
theorem d8_followRoot_48 : zd cX8_followRoot 48 (.iload 4) 2 50 := by decide +kernel
theorem d8_followRoot_50 : zd cX8_followRoot 50 (.invokevirtual 176) 3 53 := by decide +kernel
theorem d8_followRoot_53 : zd cX8_followRoot 53 (.aaload) 1 54 := by decide +kernel
theorem d8_followRoot_54 : zd cX8_followRoot 54 (.astore 5) 2 56 := by decide +kernel
theorem d8_followRoot_56 : zd cX8_followRoot 56 (.aload 5) 2 58 := by decide +kernel
theorem d8_followRoot_58 : zd cX8_followRoot 58 (.getfield 260) 3 61 := by decide +kernel
theorem d8_followRoot_61 : zd cX8_followRoot 61 (.iconst 2) 1 62 := by decide +kernel
theorem d8_followRoot_62 : zj cX8_followRoot 62 (.if_icmp .ne 9) 9 65 71 := by decide +kernel
theorem d8_followRoot_65 : zd cX8_followRoot 65 (.aload 5) 2 67 := by decide +kernel
theorem d8_followRoot_67 : zd cX8_followRoot 67 (.iconst 1) 1 68 := by decide +kernel
theorem d8_followRoot_68 : zd cX8_followRoot 68 (.putfield 286) 3 71 := by decide +kernel
theorem d8_followRoot_71 : zd cX8_followRoot 71 (.iinc 4 1) 3 74 := by decide +kernel
theorem d8_followRoot_74 : zj cX8_followRoot 74 (.goto (-49)) (-49) 77 25 := by decide +kernel
theorem d8_followRoot_77 : zd cX8_followRoot 77 (.aload_n 2) 1 78 := by decide +kernel
theorem d8_followRoot_78 : zd cX8_followRoot 78 (.bipush 8) 2 80 := by decide +kernel
theorem d8_followRoot_80 : zd cX8_followRoot 80 (.invokevirtual 341) 3 83 := by decide +kernel
theorem d8_followRoot_83 : zj cX8_followRoot 83 (.ifCond .eq 13) 13 86 96 := by decide +kernel
theorem d8_followRoot_86 : zd cX8_followRoot 86 (.aload_n 0) 1 87 := by decide +kernel
theorem d8_followRoot_87 : zd cX8_followRoot 87 (.getfield 19) 3 90 := by decide +kernel
theorem d8_followRoot_90 : zd cX8_followRoot 90 (.iload_n 1) 1 91 := by decide +kernel
theorem d8_followRoot_91 : zd cX8_followRoot 91 (.aaload) 1 92 := by decide +kernel
theorem d8_followRoot_92 : zd cX8_followRoot 92 (.iconst 0) 1 93 := by decide +kernel
theorem d8_followRoot_93 : zd cX8_followRoot 93 (.putfield 283) 3 96 := by decide +kernel
theorem d8_followRoot_96 : zd cX8_followRoot 96 (.aload_n 2) 1 97 := by decide +kernel
theorem d8_followRoot_97 : zd cX8_followRoot 97 (.iconst 4) 1 98 := by decide +kernel
theorem d8_followRoot_98 : zd cX8_followRoot 98 (.invokevirtual 341) 3 101 := by decide +kernel
theorem d8_followRoot_101 : zj cX8_followRoot 101 (.ifCond .eq 8) 8 104 109 := by decide +kernel
theorem d8_followRoot_104 : zd cX8_followRoot 104 (.aload_n 0) 1 105 := by decide +kernel
theorem d8_followRoot_105 : zd cX8_followRoot 105 (.iload_n 1) 1 106 := by decide +kernel
theorem d8_followRoot_106 : zd cX8_followRoot 106 (.invokevirtual 289) 3 109 := by decide +kernel
theorem d8_followRoot_109 : zd cX8_followRoot 109 (.return_) 1 110 := by decide +kernel
set_option maxHeartbeats 4000000 in
set_option maxRecDepth 20000 in
theorem c8_followRoot (l : Launch) (D : zDt) (Sh : zSh) (top : Nat) (hO : zOK Sh) (o_ : Nat) (v_end : Int32) (v_message : Nat) (μ : zM) (μ_ : zM) (ho : (Sh o_).1 = 15) (h_message : (Sh v_message).1 = 10) (h : f8_followRoot o_ v_end v_message μ = some μ_) : zMet l D zK1 yX8_followRoot cX8_followRoot 6 none (zrm 2 47) [.ref o_, .int v_end, .ref v_message] Sh top μ none Sh top μ_ 0 0 := by
  refine zMet_of (by decide) (Nat.le_of_ble_eq_true rfl) fun X hX1 hX2 fx fin => ?_
  subst hX1; subst hX2
  replace fx : zFix X cX8_followRoot RX8 (zrm 2 47) 6 := fx
  show zZ zK1 X (zT0 Sh top) μ 0 [(0, .ref o_), (1, .int v_end), (2, .ref v_message)] []
  unfold f8_followRoot at h
  refine z_aload_n fx (k := 0) (i := 0) rfl rfl d8_followRoot_0 ?_
  obtain ⟨w1, e1, h⟩ := zinv h
  refine z_getR fx 8 12 812 17 ho lf8_62 ⟨fk8_12, rfl⟩ e1 d8_followRoot_1 (fun tw1 => ?_)
  refine z_getO fx 10 6 7 tw1 lf8_158 fk10_6 d8_followRoot_4 ?_
  refine z_iload_n fx (k := 1) (i := 1) rfl rfl d8_followRoot_7 ?_
  obtain ⟨t2, e2, h⟩ := zinv h
  refine z_iald fx (ok10_6 hO tw1) e2 d8_followRoot_8 ?_
  refine z_istore_n fx (k := 3) (i := 3) rfl rfl (lv' := [(0, .ref o_), (1, .int v_end), (2, .ref v_message), (3, .int t2)]) rfl rfl d8_followRoot_9 ?_
  obtain ⟨μ3, e3, h⟩ := zinv h
  have k4 : zZ zK1 X (zT0 Sh top) μ3 77 [(0, .ref o_), (1, .int v_end), (2, .ref v_message), (3, .int t2)] [] := by
    obtain ⟨μ4, e5, h⟩ := zinv h
    have k6 : zZ zK1 X (zT0 Sh top) μ4 96 [(0, .ref o_), (1, .int v_end), (2, .ref v_message), (3, .int t2)] [] := by
      refine z_aload_n fx (k := 2) (i := 2) rfl rfl d8_followRoot_96 ?_
      refine z_iconst fx (v := 4) ic4 d8_followRoot_97 ?_
      obtain ⟨t5, e7, h⟩ := zinv h
      refine z_cVr fx (c3_carries (zLo X) (zDo X) Sh top hO v_message 4 μ4 _ h_message e7) mv3_carries ml8_341 h_message rfl rfl rfl rfl d8_followRoot_98 ?_
      refine z_ifb_eq fx d8_followRoot_101 (fun c8 => ?_) (fun c8 => ?_)
      · replace h := zif_f c8 h
        cases h
        exact z_return fx fin d8_followRoot_109
      · replace h := zif_t c8 h
        refine z_aload_n fx (k := 0) (i := 0) rfl rfl d8_followRoot_104 ?_
        refine z_iload_n fx (k := 1) (i := 1) rfl rfl d8_followRoot_105 ?_
        obtain ⟨μ6, e9, h⟩ := zinv h
        refine z_cVv fx (c8_spread (zLo X) (zDo X) Sh top hO o_ v_end μ4 _ ho e9) mv8_spread ml8_289 ho rfl rfl rfl rfl d8_followRoot_106 ?_
        cases h
        exact z_return fx fin d8_followRoot_109
    clear h
    refine z_aload_n fx (k := 2) (i := 2) rfl rfl d8_followRoot_77 ?_
    refine z_bipush fx (v := 8) bp8 d8_followRoot_78 ?_
    obtain ⟨t7, e10, e5⟩ := zinv e5
    refine z_cVr fx (c3_carries (zLo X) (zDo X) Sh top hO v_message 8 μ3 _ h_message e10) mv3_carries ml8_341 h_message rfl rfl rfl rfl d8_followRoot_80 ?_
    refine z_ifb_eq fx d8_followRoot_83 (fun c11 => ?_) (fun c11 => ?_)
    · replace e5 := zif_f c11 e5
      cases e5
      exact k6
    · replace e5 := zif_t c11 e5
      refine z_aload_n fx (k := 0) (i := 0) rfl rfl d8_followRoot_86 ?_
      refine z_getO fx 8 1 2 ho lf8_19 fk8_1 d8_followRoot_87 ?_
      refine z_iload_n fx (k := 1) (i := 1) rfl rfl d8_followRoot_90 ?_
      obtain ⟨j8, e12, e5⟩ := zinv e5
      refine z_aald fx 1 (by decide) (ok8_1 hO ho) e12 (v := .ref (o_ + 37 + 2 * j8)) rfl d8_followRoot_91 ?_
      refine z_iconst fx (v := 0) ic0 d8_followRoot_92 ?_
      obtain ⟨μ9, e13, e5⟩ := zinv e5
      refine z_putI fx (ci := 4) 8 (okA1 hO (ok8_1 hO ho) (rI_lt e12)) lf8_283 fp4_8 e13 d8_followRoot_93 ?_
      cases e5
      exact k6
  clear h
  refine z_aload_n fx (k := 0) (i := 0) rfl rfl d8_followRoot_10 ?_
  refine z_getO fx 8 0 1 ho lf8_11 fk8_0 d8_followRoot_11 ?_
  refine z_iload_n fx (k := 3) (i := 3) rfl rfl d8_followRoot_14 ?_
  obtain ⟨j10, e14, e3⟩ := zinv e3
  refine z_aald fx 0 (by decide) (ok8_0 hO ho) e14 (v := .ref (o_ + 13 + 3 * j10)) rfl d8_followRoot_15 ?_
  refine z_getB fx 0 4 4 (okA0 hO (ok8_0 hO ho) (rI_lt e14)) lf8_117 ⟨fk0_4, rfl⟩ d8_followRoot_16 ?_
  refine z_ifb_eq fx d8_followRoot_19 (fun c15 => ?_) (fun c15 => ?_)
  · replace e3 := zif_f c15 e3
    cases e3
    exact k4
  · replace e3 := zif_t c15 e3
    refine z_iconst fx (v := 0) ic0 d8_followRoot_22 ?_
    refine z_istore fx (i := 4) rfl (lv' := [(0, .ref o_), (1, .int v_end), (2, .ref v_message), (3, .int t2), (4, .int 0)]) rfl rfl d8_followRoot_23 ?_
    obtain ⟨v_p_13, μ14, e31, e3⟩ := zinv2 e3
    have kx19 : zZ zK1 X (zT0 Sh top) μ14 77 [(0, .ref o_), (1, .int v_end), (2, .ref v_message), (3, .int t2), (4, .int v_p_13)] [] := by
      refine z_take 4 (lv' := [(0, .ref o_), (1, .int v_end), (2, .ref v_message), (3, .int t2)]) rfl ?_
      cases e3
      exact k4
    clear e3
    have klr18 : ∀ (n : Nat) (v_p_11 : Int32) (μ12 : zM), zloop (fun s => f8_followRoot_L1 o_ t2 s.1 s.2) n (v_p_11, μ12) = some (v_p_13, μ14) → zZ zK1 X (zT0 Sh top) μ12 25 [(0, .ref o_), (1, .int v_end), (2, .ref v_message), (3, .int t2), (4, .int v_p_11)] [] := by
      intro n
      induction n with
      | zero => intro v_p_11 μ12 hl17; cases hl17
      | succ n ih20 =>
        intro v_p_11 μ12 hl17
        obtain ⟨y, e16, hl17⟩ := zloop_inv hl17
        replace e16 : f8_followRoot_L1 o_ t2 v_p_11 μ12 = some y := e16
        unfold f8_followRoot_L1 at e16
        refine z_iload fx (i := 4) rfl d8_followRoot_25 ?_
        refine z_aload_n fx (k := 0) (i := 0) rfl rfl d8_followRoot_27 ?_
        obtain ⟨w15, e21, e16⟩ := zinv e16
        refine z_getR fx 8 12 812 17 ho lf8_62 ⟨fk8_12, rfl⟩ e21 d8_followRoot_28 (fun tw15 => ?_)
        refine z_getO fx 10 4 5 tw15 lf8_174 fk10_4 d8_followRoot_31 ?_
        refine z_iload_n fx (k := 3) (i := 3) rfl rfl d8_followRoot_34 ?_
        obtain ⟨t16, e22, e16⟩ := zinv e16
        refine z_iald fx (ok10_4 hO tw15) e22 d8_followRoot_35 ?_
        refine z_icmp_ge fx d8_followRoot_36 (fun c23 => ?_) (fun c23 => ?_)
        · replace e16 := zif_f c23 e16
          cases e16
          cases hl17
          exact kx19
        · replace e16 := zif_t c23 e16
          refine z_aload_n fx (k := 0) (i := 0) rfl rfl d8_followRoot_39 ?_
          refine z_getO fx 8 1 2 ho lf8_19 fk8_1 d8_followRoot_40 ?_
          refine z_aload_n fx (k := 0) (i := 0) rfl rfl d8_followRoot_43 ?_
          obtain ⟨w17, e24, e16⟩ := zinv e16
          refine z_getR fx 8 12 812 17 ho lf8_62 ⟨fk8_12, rfl⟩ e24 d8_followRoot_44 (fun tw17 => ?_)
          refine z_iload_n fx (k := 3) (i := 3) rfl rfl d8_followRoot_47 ?_
          refine z_iload fx (i := 4) rfl d8_followRoot_48 ?_
          obtain ⟨t18, e25, e16⟩ := zinv e16
          refine z_cVr fx (c10_endOf (zLo X) (zDo X) Sh top hO w17 t2 v_p_11 μ12 _ tw17 e25) mv10_endOf ml8_176 tw17 rfl rfl rfl rfl d8_followRoot_50 ?_
          obtain ⟨j19, e26, e16⟩ := zinv e16
          refine z_aald fx 1 (by decide) (ok8_1 hO ho) e26 (v := .ref (o_ + 37 + 2 * j19)) rfl d8_followRoot_53 ?_
          refine z_astore fx (i := 5) rfl (lv' := [(0, .ref o_), (1, .int v_end), (2, .ref v_message), (3, .int t2), (4, .int v_p_11), (5, .ref (o_ + 37 + 2 * j19))]) rfl rfl d8_followRoot_54 ?_
          refine z_aload fx (i := 5) rfl d8_followRoot_56 ?_
          refine z_getI fx 4 4 404 (okA1 hO (ok8_1 hO ho) (rI_lt e26)) lf8_260 ⟨fk4_4, rfl⟩ d8_followRoot_58 ?_
          refine z_iconst fx (v := 2) ic2 d8_followRoot_61 ?_
          refine z_icmp_ne fx d8_followRoot_62 (fun c27 => ?_) (fun c27 => ?_)
          · replace e16 := zif_f c27 e16
            refine z_take 5 (lv' := [(0, .ref o_), (1, .int v_end), (2, .ref v_message), (3, .int t2), (4, .int v_p_11)]) rfl ?_
            obtain ⟨v_p_20, e28, e16⟩ := zinv e16
            replace e28 := Option.some.inj e28
            refine z_iinc fx (i := 4) (x := v_p_11) (v := v_p_20) rfl (by rw [in1]; exact e28) rfl (lv' := [(0, .ref o_), (1, .int v_end), (2, .ref v_message), (3, .int t2), (4, .int v_p_20)]) rfl rfl d8_followRoot_71 ?_
            cases e16
            refine z_goto fx d8_followRoot_74 ?_
            exact ih20 _ _ hl17
          · replace e16 := zif_t c27 e16
            refine z_aload fx (i := 5) rfl d8_followRoot_65 ?_
            refine z_iconst fx (v := 1) ic1 d8_followRoot_67 ?_
            refine z_top (show Value.int 1 = .int (bI true) from rfl) ?_
            obtain ⟨μ21, e29, e16⟩ := zinv e16
            refine z_putB fx (ci := 4) 14 (okA1 hO (ok8_1 hO ho) (rI_lt e26)) lf8_286 fp4_14 e29 d8_followRoot_68 ?_
            refine z_take 5 (lv' := [(0, .ref o_), (1, .int v_end), (2, .ref v_message), (3, .int t2), (4, .int v_p_11)]) rfl ?_
            obtain ⟨v_p_22, e30, e16⟩ := zinv e16
            replace e30 := Option.some.inj e30
            refine z_iinc fx (i := 4) (x := v_p_11) (v := v_p_22) rfl (by rw [in1]; exact e30) rfl (lv' := [(0, .ref o_), (1, .int v_end), (2, .ref v_message), (3, .int t2), (4, .int v_p_22)]) rfl rfl d8_followRoot_71 ?_
            cases e16
            refine z_goto fx d8_followRoot_74 ?_
            exact ih20 _ _ hl17
    exact klr18 _ _ _ e31
