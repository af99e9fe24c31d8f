/-! THE ACTS: what changes a net, with the past kept -/
theorem mv11_draw : zMv yX11_draw cX11_draw 4 (some .int) 1 11 := ⟨⟨zTb6 228 rfl rfl, zTb1 1 rfl rfl, by decide, by decide, by decide +kernel⟩, zTb6 227 rfl rfl, zTb_p 67 rfl rfl, by decide +kernel⟩
theorem mv11_keepPast : zMv yX11_keepPast cX11_keepPast 2 none 0 11 := ⟨⟨zTb6 128 rfl rfl, zTb1 1 rfl rfl, by decide, by decide, by decide +kernel⟩, zTb6 127 rfl rfl, zTb_p 61 rfl rfl, by decide +kernel⟩
theorem mv2_carry : zMv yX2_carry cX2_carry 8 none 3 2 := ⟨⟨zTb6 195 rfl rfl, zTb1 5 rfl rfl, by decide, by decide, by decide +kernel⟩, zTb6 193 rfl rfl, zTb6 194 rfl rfl, by decide +kernel⟩
theorem mv8_changePrio : zMv yX8_changePrio cX8_changePrio 3 none 2 8 := ⟨⟨zTb6 173 rfl rfl, zTb1 9 rfl rfl, by decide, by decide, by decide +kernel⟩, zTb6 171 rfl rfl, zTb6 172 rfl rfl, by decide +kernel⟩
theorem mv8_mendLink : zMv yX8_mendLink cX8_mendLink 2 none 1 8 := ⟨⟨zTb6 145 rfl rfl, zTb1 9 rfl rfl, by decide, by decide, by decide +kernel⟩, zTb6 143 rfl rfl, zTb6 144 rfl rfl, by decide +kernel⟩
theorem mv8_steps : zMv yX8_steps cX8_steps 3 none 1 8 := ⟨⟨zTb6 132 rfl rfl, zTb1 9 rfl rfl, by decide, by decide, by decide +kernel⟩, zTb6 130 rfl rfl, zTb6 131 rfl rfl, by decide +kernel⟩
theorem mv8_turnAge : zMv yX8_turnAge cX8_turnAge 3 none 1 8 := ⟨⟨zTb6 181 rfl rfl, zTb1 9 rfl rfl, by decide, by decide, by decide +kernel⟩, zTb6 179 rfl rfl, zTb6 180 rfl rfl, by decide +kernel⟩
theorem d11_run_0 : zd cX11_run 0 (.iload_n 1) 1 1 := by decide +kernel
theorem d11_run_1 : zd cX11_run 1 (.iconst 1) 1 2 := by decide +kernel
theorem d11_run_2 : zj cX11_run 2 (.if_icmp .lt 35) (35) 5 37 := by decide +kernel
theorem d11_run_5 : zd cX11_run 5 (.iload_n 1) 1 6 := by decide +kernel
theorem d11_run_6 : zd cX11_run 6 (.sipush 200) 3 9 := by decide +kernel
theorem d11_run_9 : zj cX11_run 9 (.if_icmp .gt 28) (28) 12 37 := by decide +kernel
theorem d11_run_12 : zd cX11_run 12 (.aload_n 0) 1 13 := by decide +kernel
theorem d11_run_13 : zd cX11_run 13 (.getfield 56) 3 16 := by decide +kernel
theorem d11_run_16 : zd cX11_run 16 (.getfield 300) 3 19 := by decide +kernel
theorem d11_run_19 : zj cX11_run 19 (.ifCond .eq 18) (18) 22 37 := by decide +kernel
theorem d11_run_22 : zd cX11_run 22 (.aload_n 0) 1 23 := by decide +kernel
theorem d11_run_23 : zd cX11_run 23 (.getfield 75) 3 26 := by decide +kernel
theorem d11_run_26 : zd cX11_run 26 (.getfield 137) 3 29 := by decide +kernel
theorem d11_run_29 : zd cX11_run 29 (.iload_n 1) 1 30 := by decide +kernel
theorem d11_run_30 : zd cX11_run 30 (.iadd) 1 31 := by decide +kernel
theorem d11_run_31 : zd cX11_run 31 (.sipush 9999) 3 34 := by decide +kernel
theorem d11_run_34 : zj cX11_run 34 (.if_icmp .le 9) (9) 37 43 := by decide +kernel
theorem d11_run_37 : zd cX11_run 37 (.aload_n 0) 1 38 := by decide +kernel
theorem d11_run_38 : zd cX11_run 38 (.iconst 2) 1 39 := by decide +kernel
theorem d11_run_39 : zd cX11_run 39 (.invokevirtual 89) 3 42 := by decide +kernel
theorem d11_run_42 : zd cX11_run 42 (.ireturn) 1 43 := by decide +kernel
theorem d11_run_43 : zd cX11_run 43 (.aload_n 0) 1 44 := by decide +kernel
theorem d11_run_44 : zd cX11_run 44 (.invokevirtual 386) 3 47 := by decide +kernel
theorem d11_run_47 : zd cX11_run 47 (.aload_n 0) 1 48 := by decide +kernel
theorem d11_run_48 : zd cX11_run 48 (.getfield 75) 3 51 := by decide +kernel
theorem d11_run_51 : zd cX11_run 51 (.iload_n 1) 1 52 := by decide +kernel
theorem d11_run_52 : zd cX11_run 52 (.invokevirtual 389) 3 55 := by decide +kernel
theorem d11_run_55 : zd cX11_run 55 (.aload_n 0) 1 56 := by decide +kernel
theorem d11_run_56 : zd cX11_run 56 (.getfield 75) 3 59 := by decide +kernel
theorem d11_run_59 : zd cX11_run 59 (.getfield 137) 3 62 := by decide +kernel
theorem d11_run_62 : zd cX11_run 62 (.ireturn) 1 63 := by decide +kernel
def f11_run (o_ top : Nat) (v_n : Int32) (μ : zM) : Option (Int32 × Bool × zM) :=
  (if clt v_n 1 = true then (zb2 (f11_refuse o_ 2 μ) fun t4 μ3 => (some (t4, false, μ3))) else (if clt 200 v_n = true then (zb2 (f11_refuse o_ 2 μ) fun t8 μ7 => (some (t8, false, μ7))) else ((gR μ 1111 o_).bind fun w9 => (if (gB μ 1012 w9) = true then (if clt 9999 ((gF μ 813 (o_ + 51)) + v_n) = true then (zb2 (f11_refuse o_ 2 μ) fun t24 μ23 => (some (t24, false, μ23))) else (zb2 (f11_keepPast o_ top μ) fun b17 μ18 => ((f8_steps (o_ + 51) v_n μ18).bind fun μ21 => (some ((gF μ21 813 (o_ + 51)), b17, μ21))))) else (zb2 (f11_refuse o_ 2 μ) fun t15 μ14 => (some (t15, false, μ14)))))))
set_option maxHeartbeats 4000000 in
theorem c11_run (l : Launch) (D : zDt) (Sh : zSh) (top : Nat) (o_ : Nat) (v_n : Int32) (μ : zM) (r_ : Int32) (b_ : Bool) (μ_ : zM) (hk : zPk D Sh top o_) (h : f11_run o_ top v_n μ = some (r_, b_, μ_)) : zMet l D zK1 yX11_run cX11_run 2 (some .int) (zrc 7 165 261 1976) [.ref o_, .int v_n] Sh top μ (some (.int r_)) (shN b_ Sh top) (topN b_ top) μ_ 261 1976 := by
  refine zMet_of (by decide) (Nat.le_of_ble_eq_true rfl) fun X hX1 hX2 fx fin => ?_
  subst hX1; subst hX2
  replace fx : zFix X cX11_run RX11 (zrc 7 165 261 1976) 2 := fx
  have hO := hk.1
  have ho := hk.2.2.2.2
  show zZ zK1 X (Sh, top, 0, 0) μ 0 [(0, .ref o_), (1, .int v_n)] []
  unfold f11_run at h
  refine z_iload_n fx (k := 1) (i := 1) rfl rfl d11_run_0 ?_
  refine z_iconst fx (v := 1) (by decide) d11_run_1 ?_
  refine z_icmp_lt fx d11_run_2 (fun c1 => ?_) (fun c1 => ?_)
  · replace h := zif_t c1 h
    refine z_aload_n fx (k := 0) (i := 0) rfl rfl d11_run_37 ?_
    refine z_iconst fx (v := 2) (by decide) d11_run_38 ?_
    obtain ⟨t4, μ3, e2, h⟩ := zinv2 h
    refine z_qVr fx (c11_refuse (zLo X) (zDo X) Sh top hO o_ 2 μ _ _ ho e2) mv11_refuse ml11_89 ho rfl rfl rfl rfl d11_run_39 ?_
    cases h
    refine z_widen (c' := 261) (s' := 1976) (Nat.zero_le _) (Nat.zero_le _) ?_
    exact z_ireturn fx fin d11_run_42
  · replace h := zif_f c1 h
    refine z_iload_n fx (k := 1) (i := 1) rfl rfl d11_run_5 ?_
    refine z_sipush fx (v := 200) (by decide) d11_run_6 ?_
    refine z_icmp_gt fx d11_run_9 (fun c5 => ?_) (fun c5 => ?_)
    · replace h := zif_t c5 h
      refine z_aload_n fx (k := 0) (i := 0) rfl rfl d11_run_37 ?_
      refine z_iconst fx (v := 2) (by decide) d11_run_38 ?_
      obtain ⟨t8, μ7, e6, h⟩ := zinv2 h
      refine z_qVr fx (c11_refuse (zLo X) (zDo X) Sh top hO o_ 2 μ _ _ ho e6) mv11_refuse ml11_89 ho rfl rfl rfl rfl d11_run_39 ?_
      cases h
      refine z_widen (c' := 261) (s' := 1976) (Nat.zero_le _) (Nat.zero_le _) ?_
      exact z_ireturn fx fin d11_run_42
    · replace h := zif_f c5 h
      refine z_aload_n fx (k := 0) (i := 0) rfl rfl d11_run_12 ?_
      obtain ⟨w9, e10, h⟩ := zinv h
      refine z_getR fx 11 11 1111 17 ho lf11_56 ⟨fk11_11, rfl⟩ e10 d11_run_13 (fun tw11 => ?_)
      refine z_getB fx 10 12 1012 tw11 lf11_300 ⟨fk10_12, rfl⟩ d11_run_16 ?_
      refine z_ifb_eq fx d11_run_19 (fun c12 => ?_) (fun c12 => ?_)
      · replace h := zif_f c12 h
        refine z_aload_n fx (k := 0) (i := 0) rfl rfl d11_run_37 ?_
        refine z_iconst fx (v := 2) (by decide) d11_run_38 ?_
        obtain ⟨t15, μ14, e13, h⟩ := zinv2 h
        refine z_qVr fx (c11_refuse (zLo X) (zDo X) Sh top hO o_ 2 μ _ _ ho e13) mv11_refuse ml11_89 ho rfl rfl rfl rfl d11_run_39 ?_
        cases h
        refine z_widen (c' := 261) (s' := 1976) (Nat.zero_le _) (Nat.zero_le _) ?_
        exact z_ireturn fx fin d11_run_42
      · replace h := zif_t c12 h
        refine z_aload_n fx (k := 0) (i := 0) rfl rfl d11_run_22 ?_
        refine z_getO fx 11 3 51 ho lf11_75 fk11_3 d11_run_23 ?_
        refine z_getI fx 8 13 813 (ok11_3 hO ho) lf11_137 ⟨fk8_13, rfl⟩ d11_run_26 ?_
        refine z_iload_n fx (k := 1) (i := 1) rfl rfl d11_run_29 ?_
        refine z_iadd fx d11_run_30 ?_
        refine z_sipush fx (v := 9999) (by decide) d11_run_31 ?_
        refine z_icmp_le fx d11_run_34 (fun c16 => ?_) (fun c16 => ?_)
        · replace h := zif_f c16 h
          refine z_aload_n fx (k := 0) (i := 0) rfl rfl d11_run_43 ?_
          obtain ⟨b17, μ18, e19, h⟩ := zinv2 h
          refine z_callV fx (As := []) (v := none) [] (c11_keepPast (zLo X) o_ μ b17 μ18 hk e19) mv11_keepPast.1 mv11_keepPast.2.1 mv11_keepPast.2.2.1 (zTb6 125 rfl rfl) mv11_keepPast.2.2.2 ho rfl ⟨rfl, rfl, Nat.le_of_ble_eq_true rfl, Nat.le_of_ble_eq_true rfl, (by show 0 + 261 ≤ 261; omega), (by show 0 + 1976 ≤ 1976; omega)⟩ rfl (Nat.le_of_ble_eq_true rfl) d11_run_44 ?_
          have hk1 := hk.nx b17
          have hO1 := hk1.1
          have ho1 := hk1.2.2.2.2
          show zZ zK1 X (shN b17 Sh top, topN b17 top, 261, 1976) μ18 47 [(0, .ref o_), (1, .int v_n)] []
          refine z_aload_n fx (k := 0) (i := 0) rfl rfl d11_run_47 ?_
          refine z_getO fx 11 3 51 ho1 lf11_75 fk11_3 d11_run_48 ?_
          refine z_iload_n fx (k := 1) (i := 1) rfl rfl d11_run_51 ?_
          obtain ⟨μ21, e20, h⟩ := zinv h
          refine z_qVv fx (c8_steps (zLo X) (zDo X) (shN b17 Sh top) (topN b17 top) hO1 (o_ + 51) v_n μ18 _ (ok11_3 hO1 ho1) e20) mv8_steps (zTb6 129 rfl rfl) (ok11_3 hO1 ho1) rfl rfl rfl rfl d11_run_52 ?_
          refine z_aload_n fx (k := 0) (i := 0) rfl rfl d11_run_55 ?_
          refine z_getO fx 11 3 51 ho1 lf11_75 fk11_3 d11_run_56 ?_
          refine z_getI fx 8 13 813 (ok11_3 hO1 ho1) lf11_137 ⟨fk8_13, rfl⟩ d11_run_59 ?_
          cases h
          exact z_ireturn fx fin d11_run_62
        · replace h := zif_t c16 h
          refine z_aload_n fx (k := 0) (i := 0) rfl rfl d11_run_37 ?_
          refine z_iconst fx (v := 2) (by decide) d11_run_38 ?_
          obtain ⟨t24, μ23, e22, h⟩ := zinv2 h
          refine z_qVr fx (c11_refuse (zLo X) (zDo X) Sh top hO o_ 2 μ _ _ ho e22) mv11_refuse ml11_89 ho rfl rfl rfl rfl d11_run_39 ?_
          cases h
          refine z_widen (c' := 261) (s' := 1976) (Nat.zero_le _) (Nat.zero_le _) ?_
          exact z_ireturn fx fin d11_run_42
theorem d11_cut_0 : zd cX11_cut 0 (.aload_n 0) 1 1 := by decide +kernel
theorem d11_cut_1 : zd cX11_cut 1 (.iload_n 1) 1 2 := by decide +kernel
theorem d11_cut_2 : zd cX11_cut 2 (.invokevirtual 325) 3 5 := by decide +kernel
theorem d11_cut_5 : zj cX11_cut 5 (.ifCond .ne 9) (9) 8 14 := by decide +kernel
theorem d11_cut_8 : zd cX11_cut 8 (.aload_n 0) 1 9 := by decide +kernel
theorem d11_cut_9 : zd cX11_cut 9 (.iconst 3) 1 10 := by decide +kernel
theorem d11_cut_10 : zd cX11_cut 10 (.invokevirtual 97) 3 13 := by decide +kernel
theorem d11_cut_13 : zd cX11_cut 13 (.ireturn) 1 14 := by decide +kernel
theorem d11_cut_14 : zd cX11_cut 14 (.aload_n 0) 1 15 := by decide +kernel
theorem d11_cut_15 : zd cX11_cut 15 (.invokevirtual 386) 3 18 := by decide +kernel
theorem d11_cut_18 : zd cX11_cut 18 (.aload_n 0) 1 19 := by decide +kernel
theorem d11_cut_19 : zd cX11_cut 19 (.getfield 75) 3 22 := by decide +kernel
theorem d11_cut_22 : zd cX11_cut 22 (.iload_n 1) 1 23 := by decide +kernel
theorem d11_cut_23 : zd cX11_cut 23 (.invokevirtual 331) 3 26 := by decide +kernel
theorem d11_cut_26 : zd cX11_cut 26 (.iconst 1) 1 27 := by decide +kernel
theorem d11_cut_27 : zd cX11_cut 27 (.ireturn) 1 28 := by decide +kernel
def f11_cut (o_ top : Nat) (v_link : Int32) (μ : zM) : Option (Bool × Bool × zM) :=
  ((f11_isWhole o_ v_link μ).bind fun t26 => (if t26 = true then (zb2 (f11_keepPast o_ top μ) fun b28 μ29 => ((f8_cutLink (o_ + 51) v_link μ29).bind fun μ32 => (some (true, b28, μ32)))) else (zb2 (f11_refuses o_ 3 μ) fun t35 μ34 => (some (t35, false, μ34)))))
set_option maxHeartbeats 4000000 in
theorem c11_cut (l : Launch) (D : zDt) (Sh : zSh) (top : Nat) (o_ : Nat) (v_link : Int32) (μ : zM) (r_ : Bool) (b_ : Bool) (μ_ : zM) (hk : zPk D Sh top o_) (h : f11_cut o_ top v_link μ = some (r_, b_, μ_)) : zMet l D zK1 yX11_cut cX11_cut 2 (some .boolean) (zrc 6 137 261 1976) [.ref o_, .int v_link] Sh top μ (some (.int (bI r_))) (shN b_ Sh top) (topN b_ top) μ_ 261 1976 := by
  refine zMet_of (by decide) (Nat.le_of_ble_eq_true rfl) fun X hX1 hX2 fx fin => ?_
  subst hX1; subst hX2
  replace fx : zFix X cX11_cut RX11 (zrc 6 137 261 1976) 2 := fx
  have hO := hk.1
  have ho := hk.2.2.2.2
  show zZ zK1 X (Sh, top, 0, 0) μ 0 [(0, .ref o_), (1, .int v_link)] []
  unfold f11_cut at h
  refine z_aload_n fx (k := 0) (i := 0) rfl rfl d11_cut_0 ?_
  refine z_iload_n fx (k := 1) (i := 1) rfl rfl d11_cut_1 ?_
  obtain ⟨t26, e25, h⟩ := zinv h
  refine z_qVr fx (c11_isWhole (zLo X) (zDo X) Sh top hO o_ v_link μ _ ho e25) mv11_isWhole ml11_325 ho rfl rfl rfl rfl d11_cut_2 ?_
  refine z_ifb_ne fx d11_cut_5 (fun c27 => ?_) (fun c27 => ?_)
  · replace h := zif_t c27 h
    refine z_aload_n fx (k := 0) (i := 0) rfl rfl d11_cut_14 ?_
    obtain ⟨b28, μ29, e30, h⟩ := zinv2 h
    refine z_callV fx (As := []) (v := none) [] (c11_keepPast (zLo X) o_ μ b28 μ29 hk e30) mv11_keepPast.1 mv11_keepPast.2.1 mv11_keepPast.2.2.1 (zTb6 125 rfl rfl) mv11_keepPast.2.2.2 ho rfl ⟨rfl, rfl, Nat.le_of_ble_eq_true rfl, Nat.le_of_ble_eq_true rfl, (by show 0 + 261 ≤ 261; omega), (by show 0 + 1976 ≤ 1976; omega)⟩ rfl (Nat.le_of_ble_eq_true rfl) d11_cut_15 ?_
    have hk1 := hk.nx b28
    have hO1 := hk1.1
    have ho1 := hk1.2.2.2.2
    show zZ zK1 X (shN b28 Sh top, topN b28 top, 261, 1976) μ29 18 [(0, .ref o_), (1, .int v_link)] []
    refine z_aload_n fx (k := 0) (i := 0) rfl rfl d11_cut_18 ?_
    refine z_getO fx 11 3 51 ho1 lf11_75 fk11_3 d11_cut_19 ?_
    refine z_iload_n fx (k := 1) (i := 1) rfl rfl d11_cut_22 ?_
    obtain ⟨μ32, e31, h⟩ := zinv h
    refine z_qVv fx (c8_cutLink (zLo X) (zDo X) (shN b28 Sh top) (topN b28 top) hO1 (o_ + 51) v_link μ29 _ (ok11_3 hO1 ho1) e31) mv8_cutLink ml11_331 (ok11_3 hO1 ho1) rfl rfl rfl rfl d11_cut_23 ?_
    refine z_iconst fx (v := 1) (by decide) d11_cut_26 ?_
    refine z_top (show Value.int 1 = .int (bI true) from rfl) ?_
    cases h
    exact z_zreturn fx fin d11_cut_27
  · replace h := zif_f c27 h
    refine z_aload_n fx (k := 0) (i := 0) rfl rfl d11_cut_8 ?_
    refine z_iconst fx (v := 3) (by decide) d11_cut_9 ?_
    obtain ⟨t35, μ34, e33, h⟩ := zinv2 h
    refine z_qVr fx (c11_refuses (zLo X) (zDo X) Sh top hO o_ 3 μ _ _ ho e33) mv11_refuses ml11_97 ho rfl rfl rfl rfl d11_cut_10 ?_
    cases h
    refine z_widen (c' := 261) (s' := 1976) (Nat.zero_le _) (Nat.zero_le _) ?_
    exact z_zreturn fx fin d11_cut_13
theorem d11_mend_0 : zd cX11_mend 0 (.aload_n 0) 1 1 := by decide +kernel
theorem d11_mend_1 : zd cX11_mend 1 (.getfield 56) 3 4 := by decide +kernel
theorem d11_mend_4 : zd cX11_mend 4 (.iload_n 1) 1 5 := by decide +kernel
theorem d11_mend_5 : zd cX11_mend 5 (.invokevirtual 173) 3 8 := by decide +kernel
theorem d11_mend_8 : zj cX11_mend 8 (.ifCond .eq 15) (15) 11 23 := by decide +kernel
theorem d11_mend_11 : zd cX11_mend 11 (.aload_n 0) 1 12 := by decide +kernel
theorem d11_mend_12 : zd cX11_mend 12 (.getfield 75) 3 15 := by decide +kernel
theorem d11_mend_15 : zd cX11_mend 15 (.getfield 188) 3 18 := by decide +kernel
theorem d11_mend_18 : zd cX11_mend 18 (.iload_n 1) 1 19 := by decide +kernel
theorem d11_mend_19 : zd cX11_mend 19 (.baload) 1 20 := by decide +kernel
theorem d11_mend_20 : zj cX11_mend 20 (.ifCond .eq 9) (9) 23 29 := by decide +kernel
theorem d11_mend_23 : zd cX11_mend 23 (.aload_n 0) 1 24 := by decide +kernel
theorem d11_mend_24 : zd cX11_mend 24 (.iconst 3) 1 25 := by decide +kernel
theorem d11_mend_25 : zd cX11_mend 25 (.invokevirtual 97) 3 28 := by decide +kernel
theorem d11_mend_28 : zd cX11_mend 28 (.ireturn) 1 29 := by decide +kernel
theorem d11_mend_29 : zd cX11_mend 29 (.aload_n 0) 1 30 := by decide +kernel
theorem d11_mend_30 : zd cX11_mend 30 (.invokevirtual 386) 3 33 := by decide +kernel
theorem d11_mend_33 : zd cX11_mend 33 (.aload_n 0) 1 34 := by decide +kernel
theorem d11_mend_34 : zd cX11_mend 34 (.getfield 75) 3 37 := by decide +kernel
theorem d11_mend_37 : zd cX11_mend 37 (.iload_n 1) 1 38 := by decide +kernel
theorem d11_mend_38 : zd cX11_mend 38 (.invokevirtual 394) 3 41 := by decide +kernel
theorem d11_mend_41 : zd cX11_mend 41 (.iconst 1) 1 42 := by decide +kernel
theorem d11_mend_42 : zd cX11_mend 42 (.ireturn) 1 43 := by decide +kernel
def f11_mend (o_ top : Nat) (v_link : Int32) (μ : zM) : Option (Bool × Bool × zM) :=
  ((gR μ 1111 o_).bind fun w36 => ((f10_isLink w36 v_link μ).bind fun t40 => (if t40 = true then ((rZ μ (o_ + 55) 14 v_link).bind fun t45 => (if t45 = true then (zb2 (f11_refuses o_ 3 μ) fun t55 μ54 => (some (t55, false, μ54))) else (zb2 (f11_keepPast o_ top μ) fun b48 μ49 => ((f8_mendLink (o_ + 51) v_link μ49).bind fun μ52 => (some (true, b48, μ52)))))) else (zb2 (f11_refuses o_ 3 μ) fun t44 μ43 => (some (t44, false, μ43))))))
set_option maxHeartbeats 4000000 in
theorem c11_mend (l : Launch) (D : zDt) (Sh : zSh) (top : Nat) (o_ : Nat) (v_link : Int32) (μ : zM) (r_ : Bool) (b_ : Bool) (μ_ : zM) (hk : zPk D Sh top o_) (h : f11_mend o_ top v_link μ = some (r_, b_, μ_)) : zMet l D zK1 yX11_mend cX11_mend 2 (some .boolean) (zrc 6 137 261 1976) [.ref o_, .int v_link] Sh top μ (some (.int (bI r_))) (shN b_ Sh top) (topN b_ top) μ_ 261 1976 := by
  refine zMet_of (by decide) (Nat.le_of_ble_eq_true rfl) fun X hX1 hX2 fx fin => ?_
  subst hX1; subst hX2
  replace fx : zFix X cX11_mend RX11 (zrc 6 137 261 1976) 2 := fx
  have hO := hk.1
  have ho := hk.2.2.2.2
  show zZ zK1 X (Sh, top, 0, 0) μ 0 [(0, .ref o_), (1, .int v_link)] []
  unfold f11_mend at h
  refine z_aload_n fx (k := 0) (i := 0) rfl rfl d11_mend_0 ?_
  obtain ⟨w36, e37, h⟩ := zinv h
  refine z_getR fx 11 11 1111 17 ho lf11_56 ⟨fk11_11, rfl⟩ e37 d11_mend_1 (fun tw38 => ?_)
  refine z_iload_n fx (k := 1) (i := 1) rfl rfl d11_mend_4 ?_
  obtain ⟨t40, e39, h⟩ := zinv h
  refine z_qVr fx (c10_isLink (zLo X) (zDo X) Sh top hO w36 v_link μ _ tw38 e39) mv10_isLink ml11_173 tw38 rfl rfl rfl rfl d11_mend_5 ?_
  refine z_ifb_eq fx d11_mend_8 (fun c41 => ?_) (fun c41 => ?_)
  · replace h := zif_f c41 h
    refine z_aload_n fx (k := 0) (i := 0) rfl rfl d11_mend_23 ?_
    refine z_iconst fx (v := 3) (by decide) d11_mend_24 ?_
    obtain ⟨t44, μ43, e42, h⟩ := zinv2 h
    refine z_qVr fx (c11_refuses (zLo X) (zDo X) Sh top hO o_ 3 μ _ _ ho e42) mv11_refuses ml11_97 ho rfl rfl rfl rfl d11_mend_25 ?_
    cases h
    refine z_widen (c' := 261) (s' := 1976) (Nat.zero_le _) (Nat.zero_le _) ?_
    exact z_zreturn fx fin d11_mend_28
  · replace h := zif_t c41 h
    refine z_aload_n fx (k := 0) (i := 0) rfl rfl d11_mend_11 ?_
    refine z_getO fx 11 3 51 ho lf11_75 fk11_3 d11_mend_12 ?_
    refine z_getO fx 8 3 4 (ok11_3 hO ho) lf11_188 fk8_3 d11_mend_15 ?_
    refine z_iload_n fx (k := 1) (i := 1) rfl rfl d11_mend_18 ?_
    obtain ⟨t45, e46, h⟩ := zinv h
    refine z_zald fx (ok8_3 hO (ok11_3 hO ho)) e46 d11_mend_19 ?_
    refine z_ifb_eq fx d11_mend_20 (fun c47 => ?_) (fun c47 => ?_)
    · replace h := zif_f c47 h
      refine z_aload_n fx (k := 0) (i := 0) rfl rfl d11_mend_29 ?_
      obtain ⟨b48, μ49, e50, h⟩ := zinv2 h
      refine z_callV fx (As := []) (v := none) [] (c11_keepPast (zLo X) o_ μ b48 μ49 hk e50) mv11_keepPast.1 mv11_keepPast.2.1 mv11_keepPast.2.2.1 (zTb6 125 rfl rfl) mv11_keepPast.2.2.2 ho rfl ⟨rfl, rfl, Nat.le_of_ble_eq_true rfl, Nat.le_of_ble_eq_true rfl, (by show 0 + 261 ≤ 261; omega), (by show 0 + 1976 ≤ 1976; omega)⟩ rfl (Nat.le_of_ble_eq_true rfl) d11_mend_30 ?_
      have hk1 := hk.nx b48
      have hO1 := hk1.1
      have ho1 := hk1.2.2.2.2
      show zZ zK1 X (shN b48 Sh top, topN b48 top, 261, 1976) μ49 33 [(0, .ref o_), (1, .int v_link)] []
      refine z_aload_n fx (k := 0) (i := 0) rfl rfl d11_mend_33 ?_
      refine z_getO fx 11 3 51 ho1 lf11_75 fk11_3 d11_mend_34 ?_
      refine z_iload_n fx (k := 1) (i := 1) rfl rfl d11_mend_37 ?_
      obtain ⟨μ52, e51, h⟩ := zinv h
      refine z_qVv fx (c8_mendLink (zLo X) (zDo X) (shN b48 Sh top) (topN b48 top) hO1 (o_ + 51) v_link μ49 _ (ok11_3 hO1 ho1) e51) mv8_mendLink (zTb6 142 rfl rfl) (ok11_3 hO1 ho1) rfl rfl rfl rfl d11_mend_38 ?_
      refine z_iconst fx (v := 1) (by decide) d11_mend_41 ?_
      refine z_top (show Value.int 1 = .int (bI true) from rfl) ?_
      cases h
      exact z_zreturn fx fin d11_mend_42
    · replace h := zif_t c47 h
      refine z_aload_n fx (k := 0) (i := 0) rfl rfl d11_mend_23 ?_
      refine z_iconst fx (v := 3) (by decide) d11_mend_24 ?_
      obtain ⟨t55, μ54, e53, h⟩ := zinv2 h
      refine z_qVr fx (c11_refuses (zLo X) (zDo X) Sh top hO o_ 3 μ _ _ ho e53) mv11_refuses ml11_97 ho rfl rfl rfl rfl d11_mend_25 ?_
      cases h
      refine z_widen (c' := 261) (s' := 1976) (Nat.zero_le _) (Nat.zero_le _) ?_
      exact z_zreturn fx fin d11_mend_28
theorem d11_stop_0 : zd cX11_stop 0 (.aload_n 0) 1 1 := by decide +kernel
theorem d11_stop_1 : zd cX11_stop 1 (.iload_n 1) 1 2 := by decide +kernel
theorem d11_stop_2 : zd cX11_stop 2 (.invokevirtual 315) 3 5 := by decide +kernel
theorem d11_stop_5 : zj cX11_stop 5 (.ifCond .ne 9) (9) 8 14 := by decide +kernel
theorem d11_stop_8 : zd cX11_stop 8 (.aload_n 0) 1 9 := by decide +kernel
theorem d11_stop_9 : zd cX11_stop 9 (.iconst 3) 1 10 := by decide +kernel
theorem d11_stop_10 : zd cX11_stop 10 (.invokevirtual 97) 3 13 := by decide +kernel
theorem d11_stop_13 : zd cX11_stop 13 (.ireturn) 1 14 := by decide +kernel
theorem d11_stop_14 : zd cX11_stop 14 (.aload_n 0) 1 15 := by decide +kernel
theorem d11_stop_15 : zd cX11_stop 15 (.invokevirtual 386) 3 18 := by decide +kernel
theorem d11_stop_18 : zd cX11_stop 18 (.aload_n 0) 1 19 := by decide +kernel
theorem d11_stop_19 : zd cX11_stop 19 (.getfield 75) 3 22 := by decide +kernel
theorem d11_stop_22 : zd cX11_stop 22 (.iload_n 1) 1 23 := by decide +kernel
theorem d11_stop_23 : zd cX11_stop 23 (.invokevirtual 397) 3 26 := by decide +kernel
theorem d11_stop_26 : zd cX11_stop 26 (.iconst 1) 1 27 := by decide +kernel
theorem d11_stop_27 : zd cX11_stop 27 (.ireturn) 1 28 := by decide +kernel
def f11_stop (o_ top : Nat) (v_bridge : Int32) (μ : zM) : Option (Bool × Bool × zM) :=
  ((f11_isOn o_ v_bridge μ).bind fun t57 => (if t57 = true then (zb2 (f11_keepPast o_ top μ) fun b59 μ60 => ((f8_turnOff (o_ + 51) v_bridge μ60).bind fun μ63 => (some (true, b59, μ63)))) else (zb2 (f11_refuses o_ 3 μ) fun t66 μ65 => (some (t66, false, μ65)))))
set_option maxHeartbeats 4000000 in
theorem c11_stop (l : Launch) (D : zDt) (Sh : zSh) (top : Nat) (o_ : Nat) (v_bridge : Int32) (μ : zM) (r_ : Bool) (b_ : Bool) (μ_ : zM) (hk : zPk D Sh top o_) (h : f11_stop o_ top v_bridge μ = some (r_, b_, μ_)) : zMet l D zK1 yX11_stop cX11_stop 2 (some .boolean) (zrc 6 139 261 1976) [.ref o_, .int v_bridge] Sh top μ (some (.int (bI r_))) (shN b_ Sh top) (topN b_ top) μ_ 261 1976 := by
  refine zMet_of (by decide) (Nat.le_of_ble_eq_true rfl) fun X hX1 hX2 fx fin => ?_
  subst hX1; subst hX2
  replace fx : zFix X cX11_stop RX11 (zrc 6 139 261 1976) 2 := fx
  have hO := hk.1
  have ho := hk.2.2.2.2
  show zZ zK1 X (Sh, top, 0, 0) μ 0 [(0, .ref o_), (1, .int v_bridge)] []
  unfold f11_stop at h
  refine z_aload_n fx (k := 0) (i := 0) rfl rfl d11_stop_0 ?_
  refine z_iload_n fx (k := 1) (i := 1) rfl rfl d11_stop_1 ?_
  obtain ⟨t57, e56, h⟩ := zinv h
  refine z_qVr fx (c11_isOn (zLo X) (zDo X) Sh top hO o_ v_bridge μ _ ho e56) mv11_isOn ml11_315 ho rfl rfl rfl rfl d11_stop_2 ?_
  refine z_ifb_ne fx d11_stop_5 (fun c58 => ?_) (fun c58 => ?_)
  · replace h := zif_t c58 h
    refine z_aload_n fx (k := 0) (i := 0) rfl rfl d11_stop_14 ?_
    obtain ⟨b59, μ60, e61, h⟩ := zinv2 h
    refine z_callV fx (As := []) (v := none) [] (c11_keepPast (zLo X) o_ μ b59 μ60 hk e61) mv11_keepPast.1 mv11_keepPast.2.1 mv11_keepPast.2.2.1 (zTb6 125 rfl rfl) mv11_keepPast.2.2.2 ho rfl ⟨rfl, rfl, Nat.le_of_ble_eq_true rfl, Nat.le_of_ble_eq_true rfl, (by show 0 + 261 ≤ 261; omega), (by show 0 + 1976 ≤ 1976; omega)⟩ rfl (Nat.le_of_ble_eq_true rfl) d11_stop_15 ?_
    have hk1 := hk.nx b59
    have hO1 := hk1.1
    have ho1 := hk1.2.2.2.2
    show zZ zK1 X (shN b59 Sh top, topN b59 top, 261, 1976) μ60 18 [(0, .ref o_), (1, .int v_bridge)] []
    refine z_aload_n fx (k := 0) (i := 0) rfl rfl d11_stop_18 ?_
    refine z_getO fx 11 3 51 ho1 lf11_75 fk11_3 d11_stop_19 ?_
    refine z_iload_n fx (k := 1) (i := 1) rfl rfl d11_stop_22 ?_
    obtain ⟨μ63, e62, h⟩ := zinv h
    refine z_qVv fx (c8_turnOff (zLo X) (zDo X) (shN b59 Sh top) (topN b59 top) hO1 (o_ + 51) v_bridge μ60 _ (ok11_3 hO1 ho1) e62) mv8_turnOff (zTb6 154 rfl rfl) (ok11_3 hO1 ho1) rfl rfl rfl rfl d11_stop_23 ?_
    refine z_iconst fx (v := 1) (by decide) d11_stop_26 ?_
    refine z_top (show Value.int 1 = .int (bI true) from rfl) ?_
    cases h
    exact z_zreturn fx fin d11_stop_27
  · replace h := zif_f c58 h
    refine z_aload_n fx (k := 0) (i := 0) rfl rfl d11_stop_8 ?_
    refine z_iconst fx (v := 3) (by decide) d11_stop_9 ?_
    obtain ⟨t66, μ65, e64, h⟩ := zinv2 h
    refine z_qVr fx (c11_refuses (zLo X) (zDo X) Sh top hO o_ 3 μ _ _ ho e64) mv11_refuses ml11_97 ho rfl rfl rfl rfl d11_stop_10 ?_
    cases h
    refine z_widen (c' := 261) (s' := 1976) (Nat.zero_le _) (Nat.zero_le _) ?_
    exact z_zreturn fx fin d11_stop_13
theorem d11_start_0 : zd cX11_start 0 (.aload_n 0) 1 1 := by decide +kernel
theorem d11_start_1 : zd cX11_start 1 (.getfield 56) 3 4 := by decide +kernel
theorem d11_start_4 : zd cX11_start 4 (.iload_n 1) 1 5 := by decide +kernel
theorem d11_start_5 : zd cX11_start 5 (.invokevirtual 161) 3 8 := by decide +kernel
theorem d11_start_8 : zj cX11_start 8 (.ifCond .eq 18) (18) 11 26 := by decide +kernel
theorem d11_start_11 : zd cX11_start 11 (.aload_n 0) 1 12 := by decide +kernel
theorem d11_start_12 : zd cX11_start 12 (.getfield 75) 3 15 := by decide +kernel
theorem d11_start_15 : zd cX11_start 15 (.getfield 195) 3 18 := by decide +kernel
theorem d11_start_18 : zd cX11_start 18 (.iload_n 1) 1 19 := by decide +kernel
theorem d11_start_19 : zd cX11_start 19 (.aaload) 1 20 := by decide +kernel
theorem d11_start_20 : zd cX11_start 20 (.getfield 209) 3 23 := by decide +kernel
theorem d11_start_23 : zj cX11_start 23 (.ifCond .eq 9) (9) 26 32 := by decide +kernel
theorem d11_start_26 : zd cX11_start 26 (.aload_n 0) 1 27 := by decide +kernel
theorem d11_start_27 : zd cX11_start 27 (.iconst 3) 1 28 := by decide +kernel
theorem d11_start_28 : zd cX11_start 28 (.invokevirtual 97) 3 31 := by decide +kernel
theorem d11_start_31 : zd cX11_start 31 (.ireturn) 1 32 := by decide +kernel
theorem d11_start_32 : zd cX11_start 32 (.aload_n 0) 1 33 := by decide +kernel
theorem d11_start_33 : zd cX11_start 33 (.invokevirtual 386) 3 36 := by decide +kernel
theorem d11_start_36 : zd cX11_start 36 (.aload_n 0) 1 37 := by decide +kernel
theorem d11_start_37 : zd cX11_start 37 (.getfield 75) 3 40 := by decide +kernel
theorem d11_start_40 : zd cX11_start 40 (.iload_n 1) 1 41 := by decide +kernel
theorem d11_start_41 : zd cX11_start 41 (.invokevirtual 400) 3 44 := by decide +kernel
theorem d11_start_44 : zd cX11_start 44 (.iconst 1) 1 45 := by decide +kernel
theorem d11_start_45 : zd cX11_start 45 (.ireturn) 1 46 := by decide +kernel
def f11_start (o_ top : Nat) (v_bridge : Int32) (μ : zM) : Option (Bool × Bool × zM) :=
  ((gR μ 1111 o_).bind fun w67 => ((f10_isBridge w67 v_bridge μ).bind fun t71 => (if t71 = true then ((rI 8 v_bridge).bind fun j76 => (if (gB μ 3 (o_ + 64 + 3 * j76)) = true then (zb2 (f11_refuses o_ 3 μ) fun t86 μ85 => (some (t86, false, μ85))) else (zb2 (f11_keepPast o_ top μ) fun b79 μ80 => ((f8_turnOn (o_ + 51) v_bridge μ80).bind fun μ83 => (some (true, b79, μ83)))))) else (zb2 (f11_refuses o_ 3 μ) fun t75 μ74 => (some (t75, false, μ74))))))
set_option maxHeartbeats 4000000 in
theorem c11_start (l : Launch) (D : zDt) (Sh : zSh) (top : Nat) (o_ : Nat) (v_bridge : Int32) (μ : zM) (r_ : Bool) (b_ : Bool) (μ_ : zM) (hk : zPk D Sh top o_) (h : f11_start o_ top v_bridge μ = some (r_, b_, μ_)) : zMet l D zK1 yX11_start cX11_start 2 (some .boolean) (zrc 6 139 261 1976) [.ref o_, .int v_bridge] Sh top μ (some (.int (bI r_))) (shN b_ Sh top) (topN b_ top) μ_ 261 1976 := by
  refine zMet_of (by decide) (Nat.le_of_ble_eq_true rfl) fun X hX1 hX2 fx fin => ?_
  subst hX1; subst hX2
  replace fx : zFix X cX11_start RX11 (zrc 6 139 261 1976) 2 := fx
  have hO := hk.1
  have ho := hk.2.2.2.2
  show zZ zK1 X (Sh, top, 0, 0) μ 0 [(0, .ref o_), (1, .int v_bridge)] []
  unfold f11_start at h
  refine z_aload_n fx (k := 0) (i := 0) rfl rfl d11_start_0 ?_
  obtain ⟨w67, e68, h⟩ := zinv h
  refine z_getR fx 11 11 1111 17 ho lf11_56 ⟨fk11_11, rfl⟩ e68 d11_start_1 (fun tw69 => ?_)
  refine z_iload_n fx (k := 1) (i := 1) rfl rfl d11_start_4 ?_
  obtain ⟨t71, e70, h⟩ := zinv h
  refine z_qVr fx (c10_isBridge (zLo X) (zDo X) Sh top hO w67 v_bridge μ _ tw69 e70) mv10_isBridge ml11_161 tw69 rfl rfl rfl rfl d11_start_5 ?_
  refine z_ifb_eq fx d11_start_8 (fun c72 => ?_) (fun c72 => ?_)
  · replace h := zif_f c72 h
    refine z_aload_n fx (k := 0) (i := 0) rfl rfl d11_start_26 ?_
    refine z_iconst fx (v := 3) (by decide) d11_start_27 ?_
    obtain ⟨t75, μ74, e73, h⟩ := zinv2 h
    refine z_qVr fx (c11_refuses (zLo X) (zDo X) Sh top hO o_ 3 μ _ _ ho e73) mv11_refuses ml11_97 ho rfl rfl rfl rfl d11_start_28 ?_
    cases h
    refine z_widen (c' := 261) (s' := 1976) (Nat.zero_le _) (Nat.zero_le _) ?_
    exact z_zreturn fx fin d11_start_31
  · replace h := zif_t c72 h
    refine z_aload_n fx (k := 0) (i := 0) rfl rfl d11_start_11 ?_
    refine z_getO fx 11 3 51 ho lf11_75 fk11_3 d11_start_12 ?_
    refine z_getO fx 8 0 1 (ok11_3 hO ho) lf11_195 fk8_0 d11_start_15 ?_
    refine z_iload_n fx (k := 1) (i := 1) rfl rfl d11_start_18 ?_
    obtain ⟨j76, e77, h⟩ := zinv h
    refine z_aald fx 0 (by decide) (ok8_0 hO (ok11_3 hO ho)) e77 (v := .ref (o_ + 64 + 3 * j76)) rfl d11_start_19 ?_
    refine z_getB fx 0 3 3 (okA0 hO (ok8_0 hO (ok11_3 hO ho)) (rI_lt e77)) lf11_209 ⟨fk0_3, rfl⟩ d11_start_20 ?_
    refine z_ifb_eq fx d11_start_23 (fun c78 => ?_) (fun c78 => ?_)
    · replace h := zif_f c78 h
      refine z_aload_n fx (k := 0) (i := 0) rfl rfl d11_start_32 ?_
      obtain ⟨b79, μ80, e81, h⟩ := zinv2 h
      refine z_callV fx (As := []) (v := none) [] (c11_keepPast (zLo X) o_ μ b79 μ80 hk e81) mv11_keepPast.1 mv11_keepPast.2.1 mv11_keepPast.2.2.1 (zTb6 125 rfl rfl) mv11_keepPast.2.2.2 ho rfl ⟨rfl, rfl, Nat.le_of_ble_eq_true rfl, Nat.le_of_ble_eq_true rfl, (by show 0 + 261 ≤ 261; omega), (by show 0 + 1976 ≤ 1976; omega)⟩ rfl (Nat.le_of_ble_eq_true rfl) d11_start_33 ?_
      have hk1 := hk.nx b79
      have hO1 := hk1.1
      have ho1 := hk1.2.2.2.2
      show zZ zK1 X (shN b79 Sh top, topN b79 top, 261, 1976) μ80 36 [(0, .ref o_), (1, .int v_bridge)] []
      refine z_aload_n fx (k := 0) (i := 0) rfl rfl d11_start_36 ?_
      refine z_getO fx 11 3 51 ho1 lf11_75 fk11_3 d11_start_37 ?_
      refine z_iload_n fx (k := 1) (i := 1) rfl rfl d11_start_40 ?_
      obtain ⟨μ83, e82, h⟩ := zinv h
      refine z_qVv fx (c8_turnOn (zLo X) (zDo X) (shN b79 Sh top) (topN b79 top) hO1 (o_ + 51) v_bridge μ80 _ (ok11_3 hO1 ho1) e82) mv8_turnOn (zTb6 162 rfl rfl) (ok11_3 hO1 ho1) rfl rfl rfl rfl d11_start_41 ?_
      refine z_iconst fx (v := 1) (by decide) d11_start_44 ?_
      refine z_top (show Value.int 1 = .int (bI true) from rfl) ?_
      cases h
      exact z_zreturn fx fin d11_start_45
    · replace h := zif_t c78 h
      refine z_aload_n fx (k := 0) (i := 0) rfl rfl d11_start_26 ?_
      refine z_iconst fx (v := 3) (by decide) d11_start_27 ?_
      obtain ⟨t86, μ85, e84, h⟩ := zinv2 h
      refine z_qVr fx (c11_refuses (zLo X) (zDo X) Sh top hO o_ 3 μ _ _ ho e84) mv11_refuses ml11_97 ho rfl rfl rfl rfl d11_start_28 ?_
      cases h
      refine z_widen (c' := 261) (s' := 1976) (Nat.zero_le _) (Nat.zero_le _) ?_
      exact z_zreturn fx fin d11_start_31
theorem d11_prio_0 : zd cX11_prio 0 (.aload_n 0) 1 1 := by decide +kernel
theorem d11_prio_1 : zd cX11_prio 1 (.getfield 56) 3 4 := by decide +kernel
theorem d11_prio_4 : zd cX11_prio 4 (.iload_n 1) 1 5 := by decide +kernel
theorem d11_prio_5 : zd cX11_prio 5 (.invokevirtual 161) 3 8 := by decide +kernel
theorem d11_prio_8 : zj cX11_prio 8 (.ifCond .eq 29) (29) 11 37 := by decide +kernel
theorem d11_prio_11 : zd cX11_prio 11 (.iload_n 2) 1 12 := by decide +kernel
theorem d11_prio_12 : zj cX11_prio 12 (.ifCond .lt 25) (25) 15 37 := by decide +kernel
theorem d11_prio_15 : zd cX11_prio 15 (.iload_n 2) 1 16 := by decide +kernel
theorem d11_prio_16 : zd cX11_prio 16 (.bipush 16) 2 18 := by decide +kernel
theorem d11_prio_18 : zj cX11_prio 18 (.if_icmp .ge 19) (19) 21 37 := by decide +kernel
theorem d11_prio_21 : zd cX11_prio 21 (.aload_n 0) 1 22 := by decide +kernel
theorem d11_prio_22 : zd cX11_prio 22 (.getfield 75) 3 25 := by decide +kernel
theorem d11_prio_25 : zd cX11_prio 25 (.getfield 195) 3 28 := by decide +kernel
theorem d11_prio_28 : zd cX11_prio 28 (.iload_n 1) 1 29 := by decide +kernel
theorem d11_prio_29 : zd cX11_prio 29 (.aaload) 1 30 := by decide +kernel
theorem d11_prio_30 : zd cX11_prio 30 (.getfield 403) 3 33 := by decide +kernel
theorem d11_prio_33 : zd cX11_prio 33 (.iload_n 2) 1 34 := by decide +kernel
theorem d11_prio_34 : zj cX11_prio 34 (.if_icmp .ne 9) (9) 37 43 := by decide +kernel
theorem d11_prio_37 : zd cX11_prio 37 (.aload_n 0) 1 38 := by decide +kernel
theorem d11_prio_38 : zd cX11_prio 38 (.iconst 3) 1 39 := by decide +kernel
theorem d11_prio_39 : zd cX11_prio 39 (.invokevirtual 97) 3 42 := by decide +kernel
theorem d11_prio_42 : zd cX11_prio 42 (.ireturn) 1 43 := by decide +kernel
theorem d11_prio_43 : zd cX11_prio 43 (.aload_n 0) 1 44 := by decide +kernel
theorem d11_prio_44 : zd cX11_prio 44 (.invokevirtual 386) 3 47 := by decide +kernel
theorem d11_prio_47 : zd cX11_prio 47 (.aload_n 0) 1 48 := by decide +kernel
theorem d11_prio_48 : zd cX11_prio 48 (.getfield 75) 3 51 := by decide +kernel
theorem d11_prio_51 : zd cX11_prio 51 (.iload_n 1) 1 52 := by decide +kernel
theorem d11_prio_52 : zd cX11_prio 52 (.iload_n 2) 1 53 := by decide +kernel
theorem d11_prio_53 : zd cX11_prio 53 (.invokevirtual 406) 3 56 := by decide +kernel
theorem d11_prio_56 : zd cX11_prio 56 (.iconst 1) 1 57 := by decide +kernel
theorem d11_prio_57 : zd cX11_prio 57 (.ireturn) 1 58 := by decide +kernel
def f11_prio (o_ top : Nat) (v_bridge : Int32) (v_prio : Int32) (μ : zM) : Option (Bool × Bool × zM) :=
  ((gR μ 1111 o_).bind fun w87 => ((f10_isBridge w87 v_bridge μ).bind fun t91 => (if t91 = true then (if clt v_prio 0 = true then (zb2 (f11_refuses o_ 3 μ) fun t99 μ98 => (some (t99, false, μ98))) else (if clt v_prio 16 = true then ((rI 8 v_bridge).bind fun j104 => (if ceq (gF μ 5 (o_ + 64 + 3 * j104)) v_prio = true then (zb2 (f11_refuses o_ 3 μ) fun t114 μ113 => (some (t114, false, μ113))) else (zb2 (f11_keepPast o_ top μ) fun b107 μ108 => ((f8_changePrio (o_ + 51) v_bridge v_prio μ108).bind fun μ111 => (some (true, b107, μ111)))))) else (zb2 (f11_refuses o_ 3 μ) fun t103 μ102 => (some (t103, false, μ102))))) else (zb2 (f11_refuses o_ 3 μ) fun t95 μ94 => (some (t95, false, μ94))))))
set_option maxHeartbeats 4000000 in
theorem c11_prio (l : Launch) (D : zDt) (Sh : zSh) (top : Nat) (o_ : Nat) (v_bridge : Int32) (v_prio : Int32) (μ : zM) (r_ : Bool) (b_ : Bool) (μ_ : zM) (hk : zPk D Sh top o_) (h : f11_prio o_ top v_bridge v_prio μ = some (r_, b_, μ_)) : zMet l D zK1 yX11_prio cX11_prio 3 (some .boolean) (zrc 6 138 261 1976) [.ref o_, .int v_bridge, .int v_prio] Sh top μ (some (.int (bI r_))) (shN b_ Sh top) (topN b_ top) μ_ 261 1976 := by
  refine zMet_of (by decide) (Nat.le_of_ble_eq_true rfl) fun X hX1 hX2 fx fin => ?_
  subst hX1; subst hX2
  replace fx : zFix X cX11_prio RX11 (zrc 6 138 261 1976) 3 := fx
  have hO := hk.1
  have ho := hk.2.2.2.2
  show zZ zK1 X (Sh, top, 0, 0) μ 0 [(0, .ref o_), (1, .int v_bridge), (2, .int v_prio)] []
  unfold f11_prio at h
  refine z_aload_n fx (k := 0) (i := 0) rfl rfl d11_prio_0 ?_
  obtain ⟨w87, e88, h⟩ := zinv h
  refine z_getR fx 11 11 1111 17 ho lf11_56 ⟨fk11_11, rfl⟩ e88 d11_prio_1 (fun tw89 => ?_)
  refine z_iload_n fx (k := 1) (i := 1) rfl rfl d11_prio_4 ?_
  obtain ⟨t91, e90, h⟩ := zinv h
  refine z_qVr fx (c10_isBridge (zLo X) (zDo X) Sh top hO w87 v_bridge μ _ tw89 e90) mv10_isBridge ml11_161 tw89 rfl rfl rfl rfl d11_prio_5 ?_
  refine z_ifb_eq fx d11_prio_8 (fun c92 => ?_) (fun c92 => ?_)
  · replace h := zif_f c92 h
    refine z_aload_n fx (k := 0) (i := 0) rfl rfl d11_prio_37 ?_
    refine z_iconst fx (v := 3) (by decide) d11_prio_38 ?_
    obtain ⟨t95, μ94, e93, h⟩ := zinv2 h
    refine z_qVr fx (c11_refuses (zLo X) (zDo X) Sh top hO o_ 3 μ _ _ ho e93) mv11_refuses ml11_97 ho rfl rfl rfl rfl d11_prio_39 ?_
    cases h
    refine z_widen (c' := 261) (s' := 1976) (Nat.zero_le _) (Nat.zero_le _) ?_
    exact z_zreturn fx fin d11_prio_42
  · replace h := zif_t c92 h
    refine z_iload_n fx (k := 2) (i := 2) rfl rfl d11_prio_11 ?_
    refine z_if_lt fx d11_prio_12 (fun c96 => ?_) (fun c96 => ?_)
    · replace h := zif_t c96 h
      refine z_aload_n fx (k := 0) (i := 0) rfl rfl d11_prio_37 ?_
      refine z_iconst fx (v := 3) (by decide) d11_prio_38 ?_
      obtain ⟨t99, μ98, e97, h⟩ := zinv2 h
      refine z_qVr fx (c11_refuses (zLo X) (zDo X) Sh top hO o_ 3 μ _ _ ho e97) mv11_refuses ml11_97 ho rfl rfl rfl rfl d11_prio_39 ?_
      cases h
      refine z_widen (c' := 261) (s' := 1976) (Nat.zero_le _) (Nat.zero_le _) ?_
      exact z_zreturn fx fin d11_prio_42
    · replace h := zif_f c96 h
      refine z_iload_n fx (k := 2) (i := 2) rfl rfl d11_prio_15 ?_
      refine z_bipush fx (v := 16) (by decide) d11_prio_16 ?_
      refine z_icmp_ge fx d11_prio_18 (fun c100 => ?_) (fun c100 => ?_)
      · replace h := zif_f c100 h
        refine z_aload_n fx (k := 0) (i := 0) rfl rfl d11_prio_37 ?_
        refine z_iconst fx (v := 3) (by decide) d11_prio_38 ?_
        obtain ⟨t103, μ102, e101, h⟩ := zinv2 h
        refine z_qVr fx (c11_refuses (zLo X) (zDo X) Sh top hO o_ 3 μ _ _ ho e101) mv11_refuses ml11_97 ho rfl rfl rfl rfl d11_prio_39 ?_
        cases h
        refine z_widen (c' := 261) (s' := 1976) (Nat.zero_le _) (Nat.zero_le _) ?_
        exact z_zreturn fx fin d11_prio_42
      · replace h := zif_t c100 h
        refine z_aload_n fx (k := 0) (i := 0) rfl rfl d11_prio_21 ?_
        refine z_getO fx 11 3 51 ho lf11_75 fk11_3 d11_prio_22 ?_
        refine z_getO fx 8 0 1 (ok11_3 hO ho) lf11_195 fk8_0 d11_prio_25 ?_
        refine z_iload_n fx (k := 1) (i := 1) rfl rfl d11_prio_28 ?_
        obtain ⟨j104, e105, h⟩ := zinv h
        refine z_aald fx 0 (by decide) (ok8_0 hO (ok11_3 hO ho)) e105 (v := .ref (o_ + 64 + 3 * j104)) rfl d11_prio_29 ?_
        refine z_getI fx 0 5 5 (okA0 hO (ok8_0 hO (ok11_3 hO ho)) (rI_lt e105)) lf11_403 ⟨fk0_5, rfl⟩ d11_prio_30 ?_
        refine z_iload_n fx (k := 2) (i := 2) rfl rfl d11_prio_33 ?_
        refine z_icmp_ne fx d11_prio_34 (fun c106 => ?_) (fun c106 => ?_)
        · replace h := zif_f c106 h
          refine z_aload_n fx (k := 0) (i := 0) rfl rfl d11_prio_43 ?_
          obtain ⟨b107, μ108, e109, h⟩ := zinv2 h
          refine z_callV fx (As := []) (v := none) [] (c11_keepPast (zLo X) o_ μ b107 μ108 hk e109) mv11_keepPast.1 mv11_keepPast.2.1 mv11_keepPast.2.2.1 (zTb6 125 rfl rfl) mv11_keepPast.2.2.2 ho rfl ⟨rfl, rfl, Nat.le_of_ble_eq_true rfl, Nat.le_of_ble_eq_true rfl, (by show 0 + 261 ≤ 261; omega), (by show 0 + 1976 ≤ 1976; omega)⟩ rfl (Nat.le_of_ble_eq_true rfl) d11_prio_44 ?_
          have hk1 := hk.nx b107
          have hO1 := hk1.1
          have ho1 := hk1.2.2.2.2
          show zZ zK1 X (shN b107 Sh top, topN b107 top, 261, 1976) μ108 47 [(0, .ref o_), (1, .int v_bridge), (2, .int v_prio)] []
          refine z_aload_n fx (k := 0) (i := 0) rfl rfl d11_prio_47 ?_
          refine z_getO fx 11 3 51 ho1 lf11_75 fk11_3 d11_prio_48 ?_
          refine z_iload_n fx (k := 1) (i := 1) rfl rfl d11_prio_51 ?_
          refine z_iload_n fx (k := 2) (i := 2) rfl rfl d11_prio_52 ?_
          obtain ⟨μ111, e110, h⟩ := zinv h
          refine z_qVv fx (c8_changePrio (zLo X) (zDo X) (shN b107 Sh top) (topN b107 top) hO1 (o_ + 51) v_bridge v_prio μ108 _ (ok11_3 hO1 ho1) e110) mv8_changePrio (zTb6 170 rfl rfl) (ok11_3 hO1 ho1) rfl rfl rfl rfl d11_prio_53 ?_
          refine z_iconst fx (v := 1) (by decide) d11_prio_56 ?_
          refine z_top (show Value.int 1 = .int (bI true) from rfl) ?_
          cases h
          exact z_zreturn fx fin d11_prio_57
        · replace h := zif_t c106 h
          refine z_aload_n fx (k := 0) (i := 0) rfl rfl d11_prio_37 ?_
          refine z_iconst fx (v := 3) (by decide) d11_prio_38 ?_
          obtain ⟨t114, μ113, e112, h⟩ := zinv2 h
          refine z_qVr fx (c11_refuses (zLo X) (zDo X) Sh top hO o_ 3 μ _ _ ho e112) mv11_refuses ml11_97 ho rfl rfl rfl rfl d11_prio_39 ?_
          cases h
          refine z_widen (c' := 261) (s' := 1976) (Nat.zero_le _) (Nat.zero_le _) ?_
          exact z_zreturn fx fin d11_prio_42
theorem d11_turn_0 : zd cX11_turn 0 (.aload_n 0) 1 1 := by decide +kernel
theorem d11_turn_1 : zd cX11_turn 1 (.getfield 56) 3 4 := by decide +kernel
theorem d11_turn_4 : zd cX11_turn 4 (.iload_n 1) 1 5 := by decide +kernel
theorem d11_turn_5 : zd cX11_turn 5 (.invokevirtual 161) 3 8 := by decide +kernel
theorem d11_turn_8 : zj cX11_turn 8 (.ifCond .ne 9) (9) 11 17 := by decide +kernel
theorem d11_turn_11 : zd cX11_turn 11 (.aload_n 0) 1 12 := by decide +kernel
theorem d11_turn_12 : zd cX11_turn 12 (.iconst 3) 1 13 := by decide +kernel
theorem d11_turn_13 : zd cX11_turn 13 (.invokevirtual 89) 3 16 := by decide +kernel
theorem d11_turn_16 : zd cX11_turn 16 (.ireturn) 1 17 := by decide +kernel
theorem d11_turn_17 : zd cX11_turn 17 (.aload_n 0) 1 18 := by decide +kernel
theorem d11_turn_18 : zd cX11_turn 18 (.invokevirtual 386) 3 21 := by decide +kernel
theorem d11_turn_21 : zd cX11_turn 21 (.aload_n 0) 1 22 := by decide +kernel
theorem d11_turn_22 : zd cX11_turn 22 (.getfield 75) 3 25 := by decide +kernel
theorem d11_turn_25 : zd cX11_turn 25 (.iload_n 1) 1 26 := by decide +kernel
theorem d11_turn_26 : zd cX11_turn 26 (.invokevirtual 410) 3 29 := by decide +kernel
theorem d11_turn_29 : zd cX11_turn 29 (.aload_n 0) 1 30 := by decide +kernel
theorem d11_turn_30 : zd cX11_turn 30 (.getfield 75) 3 33 := by decide +kernel
theorem d11_turn_33 : zd cX11_turn 33 (.getfield 195) 3 36 := by decide +kernel
theorem d11_turn_36 : zd cX11_turn 36 (.iload_n 1) 1 37 := by decide +kernel
theorem d11_turn_37 : zd cX11_turn 37 (.aaload) 1 38 := by decide +kernel
theorem d11_turn_38 : zd cX11_turn 38 (.getfield 206) 3 41 := by decide +kernel
theorem d11_turn_41 : zj cX11_turn 41 (.ifCond .eq 7) (7) 44 48 := by decide +kernel
theorem d11_turn_44 : zd cX11_turn 44 (.iconst 1) 1 45 := by decide +kernel
theorem d11_turn_45 : zj cX11_turn 45 (.goto 4) (4) 48 49 := by decide +kernel
theorem d11_turn_48 : zd cX11_turn 48 (.iconst 0) 1 49 := by decide +kernel
theorem d11_turn_49 : zd cX11_turn 49 (.ireturn) 1 50 := by decide +kernel
def f11_turn (o_ top : Nat) (v_bridge : Int32) (μ : zM) : Option (Int32 × Bool × zM) :=
  ((gR μ 1111 o_).bind fun w115 => ((f10_isBridge w115 v_bridge μ).bind fun t119 => (if t119 = true then (zb2 (f11_keepPast o_ top μ) fun b121 μ122 => ((f8_turnAge (o_ + 51) v_bridge μ122).bind fun μ125 => ((rI 8 v_bridge).bind fun j126 => (if (gB μ125 4 (o_ + 64 + 3 * j126)) = true then (some (1, b121, μ125)) else (some (0, b121, μ125)))))) else (zb2 (f11_refuse o_ 3 μ) fun t131 μ130 => (some (t131, false, μ130))))))
set_option maxHeartbeats 4000000 in
theorem c11_turn (l : Launch) (D : zDt) (Sh : zSh) (top : Nat) (o_ : Nat) (v_bridge : Int32) (μ : zM) (r_ : Int32) (b_ : Bool) (μ_ : zM) (hk : zPk D Sh top o_) (h : f11_turn o_ top v_bridge μ = some (r_, b_, μ_)) : zMet l D zK1 yX11_turn cX11_turn 2 (some .int) (zrc 7 161 261 1976) [.ref o_, .int v_bridge] Sh top μ (some (.int r_)) (shN b_ Sh top) (topN b_ top) μ_ 261 1976 := by
  refine zMet_of (by decide) (Nat.le_of_ble_eq_true rfl) fun X hX1 hX2 fx fin => ?_
  subst hX1; subst hX2
  replace fx : zFix X cX11_turn RX11 (zrc 7 161 261 1976) 2 := fx
  have hO := hk.1
  have ho := hk.2.2.2.2
  show zZ zK1 X (Sh, top, 0, 0) μ 0 [(0, .ref o_), (1, .int v_bridge)] []
  unfold f11_turn at h
  refine z_aload_n fx (k := 0) (i := 0) rfl rfl d11_turn_0 ?_
  obtain ⟨w115, e116, h⟩ := zinv h
  refine z_getR fx 11 11 1111 17 ho lf11_56 ⟨fk11_11, rfl⟩ e116 d11_turn_1 (fun tw117 => ?_)
  refine z_iload_n fx (k := 1) (i := 1) rfl rfl d11_turn_4 ?_
  obtain ⟨t119, e118, h⟩ := zinv h
  refine z_qVr fx (c10_isBridge (zLo X) (zDo X) Sh top hO w115 v_bridge μ _ tw117 e118) mv10_isBridge ml11_161 tw117 rfl rfl rfl rfl d11_turn_5 ?_
  refine z_ifb_ne fx d11_turn_8 (fun c120 => ?_) (fun c120 => ?_)
  · replace h := zif_t c120 h
    refine z_aload_n fx (k := 0) (i := 0) rfl rfl d11_turn_17 ?_
    obtain ⟨b121, μ122, e123, h⟩ := zinv2 h
    refine z_callV fx (As := []) (v := none) [] (c11_keepPast (zLo X) o_ μ b121 μ122 hk e123) mv11_keepPast.1 mv11_keepPast.2.1 mv11_keepPast.2.2.1 (zTb6 125 rfl rfl) mv11_keepPast.2.2.2 ho rfl ⟨rfl, rfl, Nat.le_of_ble_eq_true rfl, Nat.le_of_ble_eq_true rfl, (by show 0 + 261 ≤ 261; omega), (by show 0 + 1976 ≤ 1976; omega)⟩ rfl (Nat.le_of_ble_eq_true rfl) d11_turn_18 ?_
    have hk1 := hk.nx b121
    have hO1 := hk1.1
    have ho1 := hk1.2.2.2.2
    show zZ zK1 X (shN b121 Sh top, topN b121 top, 261, 1976) μ122 21 [(0, .ref o_), (1, .int v_bridge)] []
    refine z_aload_n fx (k := 0) (i := 0) rfl rfl d11_turn_21 ?_
    refine z_getO fx 11 3 51 ho1 lf11_75 fk11_3 d11_turn_22 ?_
    refine z_iload_n fx (k := 1) (i := 1) rfl rfl d11_turn_25 ?_
    obtain ⟨μ125, e124, h⟩ := zinv h
    refine z_qVv fx (c8_turnAge (zLo X) (zDo X) (shN b121 Sh top) (topN b121 top) hO1 (o_ + 51) v_bridge μ122 _ (ok11_3 hO1 ho1) e124) mv8_turnAge (zTb6 178 rfl rfl) (ok11_3 hO1 ho1) rfl rfl rfl rfl d11_turn_26 ?_
    refine z_aload_n fx (k := 0) (i := 0) rfl rfl d11_turn_29 ?_
    refine z_getO fx 11 3 51 ho1 lf11_75 fk11_3 d11_turn_30 ?_
    refine z_getO fx 8 0 1 (ok11_3 hO1 ho1) lf11_195 fk8_0 d11_turn_33 ?_
    refine z_iload_n fx (k := 1) (i := 1) rfl rfl d11_turn_36 ?_
    obtain ⟨j126, e127, h⟩ := zinv h
    refine z_aald fx 0 (by decide) (ok8_0 hO1 (ok11_3 hO1 ho1)) e127 (v := .ref (o_ + 64 + 3 * j126)) rfl d11_turn_37 ?_
    refine z_getB fx 0 4 4 (okA0 hO1 (ok8_0 hO1 (ok11_3 hO1 ho1)) (rI_lt e127)) lf11_206 ⟨fk0_4, rfl⟩ d11_turn_38 ?_
    refine z_ifb_eq fx d11_turn_41 (fun c128 => ?_) (fun c128 => ?_)
    · replace h := zif_f c128 h
      refine z_iconst fx (v := 0) (by decide) d11_turn_48 ?_
      cases h
      exact z_ireturn fx fin d11_turn_49
    · replace h := zif_t c128 h
      refine z_iconst fx (v := 1) (by decide) d11_turn_44 ?_
      refine z_goto fx d11_turn_45 ?_
      cases h
      exact z_ireturn fx fin d11_turn_49
  · replace h := zif_f c120 h
    refine z_aload_n fx (k := 0) (i := 0) rfl rfl d11_turn_11 ?_
    refine z_iconst fx (v := 3) (by decide) d11_turn_12 ?_
    obtain ⟨t131, μ130, e129, h⟩ := zinv2 h
    refine z_qVr fx (c11_refuse (zLo X) (zDo X) Sh top hO o_ 3 μ _ _ ho e129) mv11_refuse ml11_89 ho rfl rfl rfl rfl d11_turn_13 ?_
    cases h
    refine z_widen (c' := 261) (s' := 1976) (Nat.zero_le _) (Nat.zero_le _) ?_
    exact z_ireturn fx fin d11_turn_16
theorem d11_move_0 : zd cX11_move 0 (.aload_n 0) 1 1 := by decide +kernel
theorem d11_move_1 : zd cX11_move 1 (.getfield 56) 3 4 := by decide +kernel
theorem d11_move_4 : zd cX11_move 4 (.iload_n 1) 1 5 := by decide +kernel
theorem d11_move_5 : zd cX11_move 5 (.invokevirtual 167) 3 8 := by decide +kernel
theorem d11_move_8 : zj cX11_move 8 (.ifCond .eq 27) (27) 11 35 := by decide +kernel
theorem d11_move_11 : zd cX11_move 11 (.aload_n 0) 1 12 := by decide +kernel
theorem d11_move_12 : zd cX11_move 12 (.getfield 56) 3 15 := by decide +kernel
theorem d11_move_15 : zd cX11_move 15 (.iload_n 2) 1 16 := by decide +kernel
theorem d11_move_16 : zd cX11_move 16 (.invokevirtual 161) 3 19 := by decide +kernel
theorem d11_move_19 : zj cX11_move 19 (.ifCond .eq 16) (16) 22 35 := by decide +kernel
theorem d11_move_22 : zd cX11_move 22 (.aload_n 0) 1 23 := by decide +kernel
theorem d11_move_23 : zd cX11_move 23 (.getfield 75) 3 26 := by decide +kernel
theorem d11_move_26 : zd cX11_move 26 (.getfield 413) 3 29 := by decide +kernel
theorem d11_move_29 : zd cX11_move 29 (.iload_n 1) 1 30 := by decide +kernel
theorem d11_move_30 : zd cX11_move 30 (.iaload) 1 31 := by decide +kernel
theorem d11_move_31 : zd cX11_move 31 (.iload_n 2) 1 32 := by decide +kernel
theorem d11_move_32 : zj cX11_move 32 (.if_icmp .ne 9) (9) 35 41 := by decide +kernel
theorem d11_move_35 : zd cX11_move 35 (.aload_n 0) 1 36 := by decide +kernel
theorem d11_move_36 : zd cX11_move 36 (.iconst 3) 1 37 := by decide +kernel
theorem d11_move_37 : zd cX11_move 37 (.invokevirtual 97) 3 40 := by decide +kernel
theorem d11_move_40 : zd cX11_move 40 (.ireturn) 1 41 := by decide +kernel
theorem d11_move_41 : zd cX11_move 41 (.aload_n 0) 1 42 := by decide +kernel
theorem d11_move_42 : zd cX11_move 42 (.invokevirtual 386) 3 45 := by decide +kernel
theorem d11_move_45 : zd cX11_move 45 (.aload_n 0) 1 46 := by decide +kernel
theorem d11_move_46 : zd cX11_move 46 (.getfield 75) 3 49 := by decide +kernel
theorem d11_move_49 : zd cX11_move 49 (.getfield 413) 3 52 := by decide +kernel
theorem d11_move_52 : zd cX11_move 52 (.iload_n 1) 1 53 := by decide +kernel
theorem d11_move_53 : zd cX11_move 53 (.iload_n 2) 1 54 := by decide +kernel
theorem d11_move_54 : zd cX11_move 54 (.iastore) 1 55 := by decide +kernel
theorem d11_move_55 : zd cX11_move 55 (.iconst 1) 1 56 := by decide +kernel
theorem d11_move_56 : zd cX11_move 56 (.ireturn) 1 57 := by decide +kernel
def f11_move (o_ top : Nat) (v_host : Int32) (v_bridge : Int32) (μ : zM) : Option (Bool × Bool × zM) :=
  ((gR μ 1111 o_).bind fun w132 => ((f10_isHost w132 v_host μ).bind fun t136 => (if t136 = true then ((gR μ 1111 o_).bind fun w141 => ((f10_isBridge w141 v_bridge μ).bind fun t145 => (if t145 = true then ((rA μ (o_ + 56) 8 v_host).bind fun t150 => (if ceq t150 v_bridge = true then (zb2 (f11_refuses o_ 3 μ) fun t160 μ159 => (some (t160, false, μ159))) else (zb2 (f11_keepPast o_ top μ) fun b153 μ154 => ((wA μ154 (o_ + 56) 8 v_host v_bridge).bind fun μ156 => (some (true, b153, μ156)))))) else (zb2 (f11_refuses o_ 3 μ) fun t149 μ148 => (some (t149, false, μ148)))))) else (zb2 (f11_refuses o_ 3 μ) fun t140 μ139 => (some (t140, false, μ139))))))
set_option maxHeartbeats 4000000 in
theorem c11_move (l : Launch) (D : zDt) (Sh : zSh) (top : Nat) (o_ : Nat) (v_host : Int32) (v_bridge : Int32) (μ : zM) (r_ : Bool) (b_ : Bool) (μ_ : zM) (hk : zPk D Sh top o_) (h : f11_move o_ top v_host v_bridge μ = some (r_, b_, μ_)) : zMet l D zK1 yX11_move cX11_move 3 (some .boolean) (zrc 5 104 261 1976) [.ref o_, .int v_host, .int v_bridge] Sh top μ (some (.int (bI r_))) (shN b_ Sh top) (topN b_ top) μ_ 261 1976 := by
  refine zMet_of (by decide) (Nat.le_of_ble_eq_true rfl) fun X hX1 hX2 fx fin => ?_
  subst hX1; subst hX2
  replace fx : zFix X cX11_move RX11 (zrc 5 104 261 1976) 3 := fx
  have hO := hk.1
  have ho := hk.2.2.2.2
  show zZ zK1 X (Sh, top, 0, 0) μ 0 [(0, .ref o_), (1, .int v_host), (2, .int v_bridge)] []
  unfold f11_move at h
  refine z_aload_n fx (k := 0) (i := 0) rfl rfl d11_move_0 ?_
  obtain ⟨w132, e133, h⟩ := zinv h
  refine z_getR fx 11 11 1111 17 ho lf11_56 ⟨fk11_11, rfl⟩ e133 d11_move_1 (fun tw134 => ?_)
  refine z_iload_n fx (k := 1) (i := 1) rfl rfl d11_move_4 ?_
  obtain ⟨t136, e135, h⟩ := zinv h
  refine z_qVr fx (c10_isHost (zLo X) (zDo X) Sh top hO w132 v_host μ _ tw134 e135) mv10_isHost ml11_167 tw134 rfl rfl rfl rfl d11_move_5 ?_
  refine z_ifb_eq fx d11_move_8 (fun c137 => ?_) (fun c137 => ?_)
  · replace h := zif_f c137 h
    refine z_aload_n fx (k := 0) (i := 0) rfl rfl d11_move_35 ?_
    refine z_iconst fx (v := 3) (by decide) d11_move_36 ?_
    obtain ⟨t140, μ139, e138, h⟩ := zinv2 h
    refine z_qVr fx (c11_refuses (zLo X) (zDo X) Sh top hO o_ 3 μ _ _ ho e138) mv11_refuses ml11_97 ho rfl rfl rfl rfl d11_move_37 ?_
    cases h
    refine z_widen (c' := 261) (s' := 1976) (Nat.zero_le _) (Nat.zero_le _) ?_
    exact z_zreturn fx fin d11_move_40
  · replace h := zif_t c137 h
    refine z_aload_n fx (k := 0) (i := 0) rfl rfl d11_move_11 ?_
    obtain ⟨w141, e142, h⟩ := zinv h
    refine z_getR fx 11 11 1111 17 ho lf11_56 ⟨fk11_11, rfl⟩ e142 d11_move_12 (fun tw143 => ?_)
    refine z_iload_n fx (k := 2) (i := 2) rfl rfl d11_move_15 ?_
    obtain ⟨t145, e144, h⟩ := zinv h
    refine z_qVr fx (c10_isBridge (zLo X) (zDo X) Sh top hO w141 v_bridge μ _ tw143 e144) mv10_isBridge ml11_161 tw143 rfl rfl rfl rfl d11_move_16 ?_
    refine z_ifb_eq fx d11_move_19 (fun c146 => ?_) (fun c146 => ?_)
    · replace h := zif_f c146 h
      refine z_aload_n fx (k := 0) (i := 0) rfl rfl d11_move_35 ?_
      refine z_iconst fx (v := 3) (by decide) d11_move_36 ?_
      obtain ⟨t149, μ148, e147, h⟩ := zinv2 h
      refine z_qVr fx (c11_refuses (zLo X) (zDo X) Sh top hO o_ 3 μ _ _ ho e147) mv11_refuses ml11_97 ho rfl rfl rfl rfl d11_move_37 ?_
      cases h
      refine z_widen (c' := 261) (s' := 1976) (Nat.zero_le _) (Nat.zero_le _) ?_
      exact z_zreturn fx fin d11_move_40
    · replace h := zif_t c146 h
      refine z_aload_n fx (k := 0) (i := 0) rfl rfl d11_move_22 ?_
      refine z_getO fx 11 3 51 ho lf11_75 fk11_3 d11_move_23 ?_
      refine z_getO fx 8 4 5 (ok11_3 hO ho) lf11_413 fk8_4 d11_move_26 ?_
      refine z_iload_n fx (k := 1) (i := 1) rfl rfl d11_move_29 ?_
      obtain ⟨t150, e151, h⟩ := zinv h
      refine z_iald fx (ok8_4 hO (ok11_3 hO ho)) e151 d11_move_30 ?_
      refine z_iload_n fx (k := 2) (i := 2) rfl rfl d11_move_31 ?_
      refine z_icmp_ne fx d11_move_32 (fun c152 => ?_) (fun c152 => ?_)
      · replace h := zif_f c152 h
        refine z_aload_n fx (k := 0) (i := 0) rfl rfl d11_move_41 ?_
        obtain ⟨b153, μ154, e155, h⟩ := zinv2 h
        refine z_callV fx (As := []) (v := none) [] (c11_keepPast (zLo X) o_ μ b153 μ154 hk e155) mv11_keepPast.1 mv11_keepPast.2.1 mv11_keepPast.2.2.1 (zTb6 125 rfl rfl) mv11_keepPast.2.2.2 ho rfl ⟨rfl, rfl, Nat.le_of_ble_eq_true rfl, Nat.le_of_ble_eq_true rfl, (by show 0 + 261 ≤ 261; omega), (by show 0 + 1976 ≤ 1976; omega)⟩ rfl (Nat.le_of_ble_eq_true rfl) d11_move_42 ?_
        have hk1 := hk.nx b153
        have hO1 := hk1.1
        have ho1 := hk1.2.2.2.2
        show zZ zK1 X (shN b153 Sh top, topN b153 top, 261, 1976) μ154 45 [(0, .ref o_), (1, .int v_host), (2, .int v_bridge)] []
        refine z_aload_n fx (k := 0) (i := 0) rfl rfl d11_move_45 ?_
        refine z_getO fx 11 3 51 ho1 lf11_75 fk11_3 d11_move_46 ?_
        refine z_getO fx 8 4 5 (ok11_3 hO1 ho1) lf11_413 fk8_4 d11_move_49 ?_
        refine z_iload_n fx (k := 1) (i := 1) rfl rfl d11_move_52 ?_
        refine z_iload_n fx (k := 2) (i := 2) rfl rfl d11_move_53 ?_
        obtain ⟨μ156, e157, h⟩ := zinv h
        refine z_iast fx (ok8_4 hO1 (ok11_3 hO1 ho1)) e157 d11_move_54 ?_
        refine z_iconst fx (v := 1) (by decide) d11_move_55 ?_
        refine z_top (show Value.int 1 = .int (bI true) from rfl) ?_
        cases h
        exact z_zreturn fx fin d11_move_56
      · replace h := zif_t c152 h
        refine z_aload_n fx (k := 0) (i := 0) rfl rfl d11_move_35 ?_
        refine z_iconst fx (v := 3) (by decide) d11_move_36 ?_
        obtain ⟨t160, μ159, e158, h⟩ := zinv2 h
        refine z_qVr fx (c11_refuses (zLo X) (zDo X) Sh top hO o_ 3 μ _ _ ho e158) mv11_refuses ml11_97 ho rfl rfl rfl rfl d11_move_37 ?_
        cases h
        refine z_widen (c' := 261) (s' := 1976) (Nat.zero_le _) (Nat.zero_le _) ?_
        exact z_zreturn fx fin d11_move_40
theorem d11_send_0 : zd cX11_send 0 (.aload_n 0) 1 1 := by decide +kernel
theorem d11_send_1 : zd cX11_send 1 (.getfield 56) 3 4 := by decide +kernel
theorem d11_send_4 : zd cX11_send 4 (.iload_n 1) 1 5 := by decide +kernel
theorem d11_send_5 : zd cX11_send 5 (.invokevirtual 167) 3 8 := by decide +kernel
theorem d11_send_8 : zj cX11_send 8 (.ifCond .eq 19) (19) 11 27 := by decide +kernel
theorem d11_send_11 : zd cX11_send 11 (.aload_n 0) 1 12 := by decide +kernel
theorem d11_send_12 : zd cX11_send 12 (.getfield 56) 3 15 := by decide +kernel
theorem d11_send_15 : zd cX11_send 15 (.iload_n 2) 1 16 := by decide +kernel
theorem d11_send_16 : zd cX11_send 16 (.invokevirtual 167) 3 19 := by decide +kernel
theorem d11_send_19 : zj cX11_send 19 (.ifCond .eq 8) (8) 22 27 := by decide +kernel
theorem d11_send_22 : zd cX11_send 22 (.iload_n 1) 1 23 := by decide +kernel
theorem d11_send_23 : zd cX11_send 23 (.iload_n 2) 1 24 := by decide +kernel
theorem d11_send_24 : zj cX11_send 24 (.if_icmp .ne 9) (9) 27 33 := by decide +kernel
theorem d11_send_27 : zd cX11_send 27 (.aload_n 0) 1 28 := by decide +kernel
theorem d11_send_28 : zd cX11_send 28 (.iconst 4) 1 29 := by decide +kernel
theorem d11_send_29 : zd cX11_send 29 (.invokevirtual 89) 3 32 := by decide +kernel
theorem d11_send_32 : zd cX11_send 32 (.ireturn) 1 33 := by decide +kernel
theorem d11_send_33 : zd cX11_send 33 (.aload_n 0) 1 34 := by decide +kernel
theorem d11_send_34 : zd cX11_send 34 (.invokevirtual 386) 3 37 := by decide +kernel
theorem d11_send_37 : zd cX11_send 37 (.aload_n 0) 1 38 := by decide +kernel
theorem d11_send_38 : zd cX11_send 38 (.getfield 36) 3 41 := by decide +kernel
theorem d11_send_41 : zd cX11_send 41 (.aload_n 0) 1 42 := by decide +kernel
theorem d11_send_42 : zd cX11_send 42 (.getfield 75) 3 45 := by decide +kernel
theorem d11_send_45 : zd cX11_send 45 (.iload_n 1) 1 46 := by decide +kernel
theorem d11_send_46 : zd cX11_send 46 (.iload_n 2) 1 47 := by decide +kernel
theorem d11_send_47 : zd cX11_send 47 (.invokevirtual 416) 3 50 := by decide +kernel
theorem d11_send_50 : zd cX11_send 50 (.aload_n 0) 1 51 := by decide +kernel
theorem d11_send_51 : zd cX11_send 51 (.getfield 36) 3 54 := by decide +kernel
theorem d11_send_54 : zd cX11_send 54 (.getfield 420) 3 57 := by decide +kernel
theorem d11_send_57 : zd cX11_send 57 (.ireturn) 1 58 := by decide +kernel
def f11_send (o_ top : Nat) (v_from : Int32) (v_to : Int32) (μ : zM) : Option (Int32 × Bool × zM) :=
  ((gR μ 1111 o_).bind fun w161 => ((f10_isHost w161 v_from μ).bind fun t165 => (if t165 = true then ((gR μ 1111 o_).bind fun w170 => ((f10_isHost w170 v_to μ).bind fun t174 => (if t174 = true then (if ceq v_from v_to = true then (zb2 (f11_refuse o_ 4 μ) fun t187 μ186 => (some (t187, false, μ186))) else (zb2 (f11_keepPast o_ top μ) fun b180 μ181 => ((f2_carry (o_ + 14) (o_ + 51) v_from v_to μ181).bind fun μ184 => (some ((gF μ184 204 (o_ + 14)), b180, μ184))))) else (zb2 (f11_refuse o_ 4 μ) fun t178 μ177 => (some (t178, false, μ177)))))) else (zb2 (f11_refuse o_ 4 μ) fun t169 μ168 => (some (t169, false, μ168))))))
set_option maxHeartbeats 4000000 in
theorem c11_send (l : Launch) (D : zDt) (Sh : zSh) (top : Nat) (o_ : Nat) (v_from : Int32) (v_to : Int32) (μ : zM) (r_ : Int32) (b_ : Bool) (μ_ : zM) (hk : zPk D Sh top o_) (h : f11_send o_ top v_from v_to μ = some (r_, b_, μ_)) : zMet l D zK1 yX11_send cX11_send 3 (some .int) (zrc 5 104 261 1976) [.ref o_, .int v_from, .int v_to] Sh top μ (some (.int r_)) (shN b_ Sh top) (topN b_ top) μ_ 261 1976 := by
  refine zMet_of (by decide) (Nat.le_of_ble_eq_true rfl) fun X hX1 hX2 fx fin => ?_
  subst hX1; subst hX2
  replace fx : zFix X cX11_send RX11 (zrc 5 104 261 1976) 3 := fx
  have hO := hk.1
  have ho := hk.2.2.2.2
  show zZ zK1 X (Sh, top, 0, 0) μ 0 [(0, .ref o_), (1, .int v_from), (2, .int v_to)] []
  unfold f11_send at h
  refine z_aload_n fx (k := 0) (i := 0) rfl rfl d11_send_0 ?_
  obtain ⟨w161, e162, h⟩ := zinv h
  refine z_getR fx 11 11 1111 17 ho lf11_56 ⟨fk11_11, rfl⟩ e162 d11_send_1 (fun tw163 => ?_)
  refine z_iload_n fx (k := 1) (i := 1) rfl rfl d11_send_4 ?_
  obtain ⟨t165, e164, h⟩ := zinv h
  refine z_qVr fx (c10_isHost (zLo X) (zDo X) Sh top hO w161 v_from μ _ tw163 e164) mv10_isHost ml11_167 tw163 rfl rfl rfl rfl d11_send_5 ?_
  refine z_ifb_eq fx d11_send_8 (fun c166 => ?_) (fun c166 => ?_)
  · replace h := zif_f c166 h
    refine z_aload_n fx (k := 0) (i := 0) rfl rfl d11_send_27 ?_
    refine z_iconst fx (v := 4) (by decide) d11_send_28 ?_
    obtain ⟨t169, μ168, e167, h⟩ := zinv2 h
    refine z_qVr fx (c11_refuse (zLo X) (zDo X) Sh top hO o_ 4 μ _ _ ho e167) mv11_refuse ml11_89 ho rfl rfl rfl rfl d11_send_29 ?_
    cases h
    refine z_widen (c' := 261) (s' := 1976) (Nat.zero_le _) (Nat.zero_le _) ?_
    exact z_ireturn fx fin d11_send_32
  · replace h := zif_t c166 h
    refine z_aload_n fx (k := 0) (i := 0) rfl rfl d11_send_11 ?_
    obtain ⟨w170, e171, h⟩ := zinv h
    refine z_getR fx 11 11 1111 17 ho lf11_56 ⟨fk11_11, rfl⟩ e171 d11_send_12 (fun tw172 => ?_)
    refine z_iload_n fx (k := 2) (i := 2) rfl rfl d11_send_15 ?_
    obtain ⟨t174, e173, h⟩ := zinv h
    refine z_qVr fx (c10_isHost (zLo X) (zDo X) Sh top hO w170 v_to μ _ tw172 e173) mv10_isHost ml11_167 tw172 rfl rfl rfl rfl d11_send_16 ?_
    refine z_ifb_eq fx d11_send_19 (fun c175 => ?_) (fun c175 => ?_)
    · replace h := zif_f c175 h
      refine z_aload_n fx (k := 0) (i := 0) rfl rfl d11_send_27 ?_
      refine z_iconst fx (v := 4) (by decide) d11_send_28 ?_
      obtain ⟨t178, μ177, e176, h⟩ := zinv2 h
      refine z_qVr fx (c11_refuse (zLo X) (zDo X) Sh top hO o_ 4 μ _ _ ho e176) mv11_refuse ml11_89 ho rfl rfl rfl rfl d11_send_29 ?_
      cases h
      refine z_widen (c' := 261) (s' := 1976) (Nat.zero_le _) (Nat.zero_le _) ?_
      exact z_ireturn fx fin d11_send_32
    · replace h := zif_t c175 h
      refine z_iload_n fx (k := 1) (i := 1) rfl rfl d11_send_22 ?_
      refine z_iload_n fx (k := 2) (i := 2) rfl rfl d11_send_23 ?_
      refine z_icmp_ne fx d11_send_24 (fun c179 => ?_) (fun c179 => ?_)
      · replace h := zif_f c179 h
        refine z_aload_n fx (k := 0) (i := 0) rfl rfl d11_send_33 ?_
        obtain ⟨b180, μ181, e182, h⟩ := zinv2 h
        refine z_callV fx (As := []) (v := none) [] (c11_keepPast (zLo X) o_ μ b180 μ181 hk e182) mv11_keepPast.1 mv11_keepPast.2.1 mv11_keepPast.2.2.1 (zTb6 125 rfl rfl) mv11_keepPast.2.2.2 ho rfl ⟨rfl, rfl, Nat.le_of_ble_eq_true rfl, Nat.le_of_ble_eq_true rfl, (by show 0 + 261 ≤ 261; omega), (by show 0 + 1976 ≤ 1976; omega)⟩ rfl (Nat.le_of_ble_eq_true rfl) d11_send_34 ?_
        have hk1 := hk.nx b180
        have hO1 := hk1.1
        have ho1 := hk1.2.2.2.2
        show zZ zK1 X (shN b180 Sh top, topN b180 top, 261, 1976) μ181 37 [(0, .ref o_), (1, .int v_from), (2, .int v_to)] []
        refine z_aload_n fx (k := 0) (i := 0) rfl rfl d11_send_37 ?_
        refine z_getO fx 11 7 14 ho1 lf11_36 fk11_7 d11_send_38 ?_
        refine z_aload_n fx (k := 0) (i := 0) rfl rfl d11_send_41 ?_
        refine z_getO fx 11 3 51 ho1 lf11_75 fk11_3 d11_send_42 ?_
        refine z_iload_n fx (k := 1) (i := 1) rfl rfl d11_send_45 ?_
        refine z_iload_n fx (k := 2) (i := 2) rfl rfl d11_send_46 ?_
        obtain ⟨μ184, e183, h⟩ := zinv h
        refine z_qVv fx (c2_carry (zLo X) (zDo X) (shN b180 Sh top) (topN b180 top) hO1 (o_ + 14) (o_ + 51) v_from v_to μ181 _ (ok11_7 hO1 ho1) (ok11_3 hO1 ho1) e183) mv2_carry (zTb6 192 rfl rfl) (ok11_7 hO1 ho1) rfl rfl rfl rfl d11_send_47 ?_
        refine z_aload_n fx (k := 0) (i := 0) rfl rfl d11_send_50 ?_
        refine z_getO fx 11 7 14 ho1 lf11_36 fk11_7 d11_send_51 ?_
        refine z_getI fx 2 4 204 (ok11_7 hO1 ho1) lf11_420 ⟨fk2_4, rfl⟩ d11_send_54 ?_
        cases h
        exact z_ireturn fx fin d11_send_57
      · replace h := zif_t c179 h
        refine z_aload_n fx (k := 0) (i := 0) rfl rfl d11_send_27 ?_
        refine z_iconst fx (v := 4) (by decide) d11_send_28 ?_
        obtain ⟨t187, μ186, e185, h⟩ := zinv2 h
        refine z_qVr fx (c11_refuse (zLo X) (zDo X) Sh top hO o_ 4 μ _ _ ho e185) mv11_refuse ml11_89 ho rfl rfl rfl rfl d11_send_29 ?_
        cases h
        refine z_widen (c' := 261) (s' := 1976) (Nat.zero_le _) (Nat.zero_le _) ?_
        exact z_ireturn fx fin d11_send_32
