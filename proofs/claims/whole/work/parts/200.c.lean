theorem d11_refuse_0 : zd cX11_refuse 0 (.aload_n 0) 1 1 := by decide +kernel
theorem d11_refuse_1 : zd cX11_refuse 1 (.getfield 50) 3 4 := by decide +kernel
theorem d11_refuse_4 : zd cX11_refuse 4 (.iload_n 1) 1 5 := by decide +kernel
theorem d11_refuse_5 : zd cX11_refuse 5 (.dup2) 1 6 := by decide +kernel
theorem d11_refuse_6 : zd cX11_refuse 6 (.iaload) 1 7 := by decide +kernel
theorem d11_refuse_7 : zd cX11_refuse 7 (.iconst 1) 1 8 := by decide +kernel
theorem d11_refuse_8 : zd cX11_refuse 8 (.iadd) 1 9 := by decide +kernel
theorem d11_refuse_9 : zd cX11_refuse 9 (.iastore) 1 10 := by decide +kernel
theorem d11_refuse_10 : zd cX11_refuse 10 (.iconst (-1)) 1 11 := by decide +kernel
theorem d11_refuse_11 : zd cX11_refuse 11 (.ireturn) 1 12 := by decide +kernel
set_option maxHeartbeats 4000000 in
set_option maxRecDepth 20000 in
theorem c11_refuse (l : Launch) (D : zDt) (Sh : zSh) (top : Nat) (hO : zOK Sh) (o_ : Nat) (v_kind : Int32) (μ : zM) (r_ : Int32) (μ_ : zM) (ho : (Sh o_).1 = 18) (h : f11_refuse o_ v_kind μ = some (r_, μ_)) : zMet l D zK1 yX11_refuse cX11_refuse 2 (some .int) (zrm 0 0) [.ref o_, .int v_kind] Sh top μ (some (.int r_)) Sh top μ_ 0 0 := by
  refine zMet_of (by decide) (Nat.le_of_ble_eq_true rfl) fun X hX1 hX2 fx fin => ?_
  subst hX1; subst hX2
  replace fx : zFix X cX11_refuse RX11 (zrm 0 0) 2 := fx
  show zZ zK1 X (zT0 Sh top) μ 0 [(0, .ref o_), (1, .int v_kind)] []
  unfold f11_refuse at h
  refine z_aload_n fx (k := 0) (i := 0) rfl rfl d11_refuse_0 ?_
  refine z_getO fx 11 10 22 ho lf11_50 fk11_10 d11_refuse_1 ?_
  refine z_iload_n fx (k := 1) (i := 1) rfl rfl d11_refuse_4 ?_
  refine z_dup2 fx rfl rfl d11_refuse_5 ?_
  obtain ⟨t1, e1, h⟩ := zinv h
  refine z_iald fx (ok11_10 hO ho) e1 d11_refuse_6 ?_
  refine z_iconst fx (v := 1) ic1 d11_refuse_7 ?_
  refine z_iadd fx d11_refuse_8 ?_
  obtain ⟨μ2, e2, h⟩ := zinv h
  refine z_iast fx (ok11_10 hO ho) e2 d11_refuse_9 ?_
  refine z_iconst fx (v := (-1)) icm1 d11_refuse_10 ?_
  cases h
  exact z_ireturn fx fin d11_refuse_11
theorem d11_putNumber_0 : zd cX11_putNumber 0 (.bipush 24) 2 2 := by decide +kernel
theorem d11_putNumber_2 : zd cX11_putNumber 2 (.istore_n 2) 1 3 := by decide +kernel
theorem d11_putNumber_3 : zd cX11_putNumber 3 (.iload_n 2) 1 4 := by decide +kernel
theorem d11_putNumber_4 : zj cX11_putNumber 4 (.ifCond .lt 35) 35 7 39 := by decide +kernel
theorem d11_putNumber_7 : zd cX11_putNumber 7 (.aload_n 0) 1 8 := by decide +kernel
theorem d11_putNumber_8 : zd cX11_putNumber 8 (.getfield 9) 3 11 := by decide +kernel
theorem d11_putNumber_11 : zd cX11_putNumber 11 (.aload_n 0) 1 12 := by decide +kernel
theorem d11_putNumber_12 : zd cX11_putNumber 12 (.getfield 86) 3 15 := by decide +kernel
theorem d11_putNumber_15 : zd cX11_putNumber 15 (.iload_n 1) 1 16 := by decide +kernel
theorem d11_putNumber_16 : zd cX11_putNumber 16 (.iload_n 2) 1 17 := by decide +kernel
theorem d11_putNumber_17 : zd cX11_putNumber 17 (.ishr) 1 18 := by decide +kernel
theorem d11_putNumber_18 : zd cX11_putNumber 18 (.sipush 255) 3 21 := by decide +kernel
theorem d11_putNumber_21 : zd cX11_putNumber 21 (.iand) 1 22 := by decide +kernel
theorem d11_putNumber_22 : zd cX11_putNumber 22 (.iastore) 1 23 := by decide +kernel
theorem d11_putNumber_23 : zd cX11_putNumber 23 (.aload_n 0) 1 24 := by decide +kernel
theorem d11_putNumber_24 : zd cX11_putNumber 24 (.dup) 1 25 := by decide +kernel
theorem d11_putNumber_25 : zd cX11_putNumber 25 (.getfield 86) 3 28 := by decide +kernel
theorem d11_putNumber_28 : zd cX11_putNumber 28 (.iconst 1) 1 29 := by decide +kernel
theorem d11_putNumber_29 : zd cX11_putNumber 29 (.iadd) 1 30 := by decide +kernel
theorem d11_putNumber_30 : zd cX11_putNumber 30 (.putfield 86) 3 33 := by decide +kernel
theorem d11_putNumber_33 : zd cX11_putNumber 33 (.iinc 2 (-8)) 3 36 := by decide +kernel
theorem d11_putNumber_36 : zj cX11_putNumber 36 (.goto (-33)) (-33) 39 3 := by decide +kernel
theorem d11_putNumber_39 : zd cX11_putNumber 39 (.return_) 1 40 := by decide +kernel
set_option maxHeartbeats 4000000 in
set_option maxRecDepth 20000 in
theorem c11_putNumber (l : Launch) (D : zDt) (Sh : zSh) (top : Nat) (hO : zOK Sh) (o_ : Nat) (v_number : Int32) (μ : zM) (μ_ : zM) (ho : (Sh o_).1 = 18) (h : f11_putNumber o_ v_number μ = some μ_) : zMet l D zK1 yX11_putNumber cX11_putNumber 3 none (zrm 0 0) [.ref o_, .int v_number] Sh top μ none Sh top μ_ 0 0 := by
  refine zMet_of (by decide) (Nat.le_of_ble_eq_true rfl) fun X hX1 hX2 fx fin => ?_
  subst hX1; subst hX2
  replace fx : zFix X cX11_putNumber RX11 (zrm 0 0) 3 := fx
  show zZ zK1 X (zT0 Sh top) μ 0 [(0, .ref o_), (1, .int v_number)] []
  unfold f11_putNumber at h
  refine z_bipush fx (v := 24) bp24 d11_putNumber_0 ?_
  refine z_istore_n fx (k := 2) (i := 2) rfl rfl (lv' := [(0, .ref o_), (1, .int v_number), (2, .int 24)]) rfl rfl d11_putNumber_2 ?_
  obtain ⟨v_shift_3, μ4, e10, h⟩ := zinv2 h
  have kx4 : zZ zK1 X (zT0 Sh top) μ4 39 [(0, .ref o_), (1, .int v_number), (2, .int v_shift_3)] [] := by
    refine z_take 2 (lv' := [(0, .ref o_), (1, .int v_number)]) rfl ?_
    cases h
    exact z_return fx fin d11_putNumber_39
  clear h
  have klr3 : ∀ (n : Nat) (v_shift_1 : Int32) (μ2 : zM), zloop (fun s => f11_putNumber_L1 o_ v_number s.1 s.2) n (v_shift_1, μ2) = some (v_shift_3, μ4) → zZ zK1 X (zT0 Sh top) μ2 3 [(0, .ref o_), (1, .int v_number), (2, .int v_shift_1)] [] := by
    intro n
    induction n with
    | zero => intro v_shift_1 μ2 hl2; cases hl2
    | succ n ih5 =>
      intro v_shift_1 μ2 hl2
      obtain ⟨y, e1, hl2⟩ := zloop_inv hl2
      replace e1 : f11_putNumber_L1 o_ v_number v_shift_1 μ2 = some y := e1
      unfold f11_putNumber_L1 at e1
      refine z_iload_n fx (k := 2) (i := 2) rfl rfl d11_putNumber_3 ?_
      refine z_if_lt fx d11_putNumber_4 (fun c6 => ?_) (fun c6 => ?_)
      · replace e1 := zif_t c6 e1
        cases e1
        cases hl2
        exact kx4
      · replace e1 := zif_f c6 e1
        refine z_aload_n fx (k := 0) (i := 0) rfl rfl d11_putNumber_7 ?_
        refine z_getO fx 11 0 1 ho lf11_9 fk11_0 d11_putNumber_8 ?_
        refine z_aload_n fx (k := 0) (i := 0) rfl rfl d11_putNumber_11 ?_
        refine z_getI fx 11 13 1113 ho lf11_86 ⟨fk11_13, rfl⟩ d11_putNumber_12 ?_
        refine z_iload_n fx (k := 1) (i := 1) rfl rfl d11_putNumber_15 ?_
        refine z_iload_n fx (k := 2) (i := 2) rfl rfl d11_putNumber_16 ?_
        refine z_ishr fx d11_putNumber_17 ?_
        refine z_sipush fx (v := 255) sp255 d11_putNumber_18 ?_
        refine z_iand fx d11_putNumber_21 ?_
        obtain ⟨μ5, e7, e1⟩ := zinv e1
        refine z_iast fx (ok11_0 hO ho) e7 d11_putNumber_22 ?_
        refine z_aload_n fx (k := 0) (i := 0) rfl rfl d11_putNumber_23 ?_
        refine z_dup fx rfl d11_putNumber_24 ?_
        refine z_getI fx 11 13 1113 ho lf11_86 ⟨fk11_13, rfl⟩ d11_putNumber_25 ?_
        refine z_iconst fx (v := 1) ic1 d11_putNumber_28 ?_
        refine z_iadd fx d11_putNumber_29 ?_
        obtain ⟨μ6, e8, e1⟩ := zinv e1
        refine z_putI fx (ci := 11) 13 ho lf11_86 fp11_13 e8 d11_putNumber_30 ?_
        obtain ⟨v_shift_7, e9, e1⟩ := zinv e1
        replace e9 := Option.some.inj e9
        refine z_iinc fx (i := 2) (x := v_shift_1) (v := v_shift_7) rfl (by rw [inm8]; exact e9) rfl (lv' := [(0, .ref o_), (1, .int v_number), (2, .int v_shift_7)]) rfl rfl d11_putNumber_33 ?_
        cases e1
        refine z_goto fx d11_putNumber_36 ?_
        exact ih5 _ _ hl2
  exact klr3 _ _ _ e10
theorem d11_feed_0 : zd cX11_feed 0 (.aload_n 0) 1 1 := by decide +kernel
theorem d11_feed_1 : zd cX11_feed 1 (.getfield 86) 3 4 := by decide +kernel
theorem d11_feed_4 : zd cX11_feed 4 (.bipush 20) 2 6 := by decide +kernel
theorem d11_feed_6 : zd cX11_feed 6 (.iadd) 1 7 := by decide +kernel
theorem d11_feed_7 : zd cX11_feed 7 (.sipush 1600) 3 10 := by decide +kernel
theorem d11_feed_10 : zj cX11_feed 10 (.if_icmp .le 9) 9 13 19 := by decide +kernel
theorem d11_feed_13 : zd cX11_feed 13 (.aload_n 0) 1 14 := by decide +kernel
theorem d11_feed_14 : zd cX11_feed 14 (.iconst 0) 1 15 := by decide +kernel
theorem d11_feed_15 : zd cX11_feed 15 (.invokevirtual 89) 3 18 := by decide +kernel
theorem d11_feed_18 : zd cX11_feed 18 (.ireturn) 1 19 := by decide +kernel
theorem d11_feed_19 : zd cX11_feed 19 (.aload_n 0) 1 20 := by decide +kernel
theorem d11_feed_20 : zd cX11_feed 20 (.iload_n 1) 1 21 := by decide +kernel
theorem d11_feed_21 : zd cX11_feed 21 (.invokevirtual 93) 3 24 := by decide +kernel
theorem d11_feed_24 : zd cX11_feed 24 (.aload_n 0) 1 25 := by decide +kernel
theorem d11_feed_25 : zd cX11_feed 25 (.iload_n 2) 1 26 := by decide +kernel
theorem d11_feed_26 : zd cX11_feed 26 (.invokevirtual 93) 3 29 := by decide +kernel
theorem d11_feed_29 : zd cX11_feed 29 (.aload_n 0) 1 30 := by decide +kernel
theorem d11_feed_30 : zd cX11_feed 30 (.iload_n 3) 1 31 := by decide +kernel
theorem d11_feed_31 : zd cX11_feed 31 (.invokevirtual 93) 3 34 := by decide +kernel
theorem d11_feed_34 : zd cX11_feed 34 (.aload_n 0) 1 35 := by decide +kernel
theorem d11_feed_35 : zd cX11_feed 35 (.iload 4) 2 37 := by decide +kernel
theorem d11_feed_37 : zd cX11_feed 37 (.invokevirtual 93) 3 40 := by decide +kernel
theorem d11_feed_40 : zd cX11_feed 40 (.aload_n 0) 1 41 := by decide +kernel
theorem d11_feed_41 : zd cX11_feed 41 (.iload 5) 2 43 := by decide +kernel
theorem d11_feed_43 : zd cX11_feed 43 (.invokevirtual 93) 3 46 := by decide +kernel
theorem d11_feed_46 : zd cX11_feed 46 (.aload_n 0) 1 47 := by decide +kernel
theorem d11_feed_47 : zd cX11_feed 47 (.getfield 86) 3 50 := by decide +kernel
theorem d11_feed_50 : zd cX11_feed 50 (.ireturn) 1 51 := by decide +kernel
set_option maxHeartbeats 4000000 in
set_option maxRecDepth 20000 in
theorem c11_feed (l : Launch) (D : zDt) (Sh : zSh) (top : Nat) (hO : zOK Sh) (o_ : Nat) (v_a : Int32) (v_b : Int32) (v_c : Int32) (v_d : Int32) (v_e : Int32) (μ : zM) (r_ : Int32) (μ_ : zM) (ho : (Sh o_).1 = 18) (h : f11_feed o_ v_a v_b v_c v_d v_e μ = some (r_, μ_)) : zMet l D zK1 yX11_feed cX11_feed 6 (some .int) (zrm 1 22) [.ref o_, .int v_a, .int v_b, .int v_c, .int v_d, .int v_e] Sh top μ (some (.int r_)) Sh top μ_ 0 0 := by
  refine zMet_of (by decide) (Nat.le_of_ble_eq_true rfl) fun X hX1 hX2 fx fin => ?_
  subst hX1; subst hX2
  replace fx : zFix X cX11_feed RX11 (zrm 1 22) 6 := fx
  show zZ zK1 X (zT0 Sh top) μ 0 [(0, .ref o_), (1, .int v_a), (2, .int v_b), (3, .int v_c), (4, .int v_d), (5, .int v_e)] []
  unfold f11_feed at h
  refine z_aload_n fx (k := 0) (i := 0) rfl rfl d11_feed_0 ?_
  refine z_getI fx 11 13 1113 ho lf11_86 ⟨fk11_13, rfl⟩ d11_feed_1 ?_
  refine z_bipush fx (v := 20) bp20 d11_feed_4 ?_
  refine z_iadd fx d11_feed_6 ?_
  refine z_sipush fx (v := 1600) sp1600 d11_feed_7 ?_
  refine z_icmp_le fx d11_feed_10 (fun c1 => ?_) (fun c1 => ?_)
  · replace h := zif_f c1 h
    refine z_aload_n fx (k := 0) (i := 0) rfl rfl d11_feed_19 ?_
    refine z_iload_n fx (k := 1) (i := 1) rfl rfl d11_feed_20 ?_
    obtain ⟨μ1, e2, h⟩ := zinv h
    refine z_cVv fx (c11_putNumber (zLo X) (zDo X) Sh top hO o_ v_a μ _ ho e2) mv11_putNumber ml11_93 ho rfl rfl rfl rfl d11_feed_21 ?_
    refine z_aload_n fx (k := 0) (i := 0) rfl rfl d11_feed_24 ?_
    refine z_iload_n fx (k := 2) (i := 2) rfl rfl d11_feed_25 ?_
    obtain ⟨μ2, e3, h⟩ := zinv h
    refine z_cVv fx (c11_putNumber (zLo X) (zDo X) Sh top hO o_ v_b μ1 _ ho e3) mv11_putNumber ml11_93 ho rfl rfl rfl rfl d11_feed_26 ?_
    refine z_aload_n fx (k := 0) (i := 0) rfl rfl d11_feed_29 ?_
    refine z_iload_n fx (k := 3) (i := 3) rfl rfl d11_feed_30 ?_
    obtain ⟨μ3, e4, h⟩ := zinv h
    refine z_cVv fx (c11_putNumber (zLo X) (zDo X) Sh top hO o_ v_c μ2 _ ho e4) mv11_putNumber ml11_93 ho rfl rfl rfl rfl d11_feed_31 ?_
    refine z_aload_n fx (k := 0) (i := 0) rfl rfl d11_feed_34 ?_
    refine z_iload fx (i := 4) rfl d11_feed_35 ?_
    obtain ⟨μ4, e5, h⟩ := zinv h
    refine z_cVv fx (c11_putNumber (zLo X) (zDo X) Sh top hO o_ v_d μ3 _ ho e5) mv11_putNumber ml11_93 ho rfl rfl rfl rfl d11_feed_37 ?_
    refine z_aload_n fx (k := 0) (i := 0) rfl rfl d11_feed_40 ?_
    refine z_iload fx (i := 5) rfl d11_feed_41 ?_
    obtain ⟨μ5, e6, h⟩ := zinv h
    refine z_cVv fx (c11_putNumber (zLo X) (zDo X) Sh top hO o_ v_e μ4 _ ho e6) mv11_putNumber ml11_93 ho rfl rfl rfl rfl d11_feed_43 ?_
    refine z_aload_n fx (k := 0) (i := 0) rfl rfl d11_feed_46 ?_
    refine z_getI fx 11 13 1113 ho lf11_86 ⟨fk11_13, rfl⟩ d11_feed_47 ?_
    cases h
    exact z_ireturn fx fin d11_feed_50
  · replace h := zif_t c1 h
    refine z_aload_n fx (k := 0) (i := 0) rfl rfl d11_feed_13 ?_
    refine z_iconst fx (v := 0) ic0 d11_feed_14 ?_
    obtain ⟨t6, μ7, e7, h⟩ := zinv2 h
    refine z_cVr fx (c11_refuse (zLo X) (zDo X) Sh top hO o_ 0 μ _ _ ho e7) mv11_refuse ml11_89 ho rfl rfl rfl rfl d11_feed_15 ?_
    cases h
    exact z_ireturn fx fin d11_feed_18
theorem d11_refuses_0 : zd cX11_refuses 0 (.aload_n 0) 1 1 := by decide +kernel
theorem d11_refuses_1 : zd cX11_refuses 1 (.getfield 50) 3 4 := by decide +kernel
theorem d11_refuses_4 : zd cX11_refuses 4 (.iload_n 1) 1 5 := by decide +kernel
theorem d11_refuses_5 : zd cX11_refuses 5 (.dup2) 1 6 := by decide +kernel
theorem d11_refuses_6 : zd cX11_refuses 6 (.iaload) 1 7 := by decide +kernel
theorem d11_refuses_7 : zd cX11_refuses 7 (.iconst 1) 1 8 := by decide +kernel
theorem d11_refuses_8 : zd cX11_refuses 8 (.iadd) 1 9 := by decide +kernel
theorem d11_refuses_9 : zd cX11_refuses 9 (.iastore) 1 10 := by decide +kernel
theorem d11_refuses_10 : zd cX11_refuses 10 (.iconst 0) 1 11 := by decide +kernel
theorem d11_refuses_11 : zd cX11_refuses 11 (.ireturn) 1 12 := by decide +kernel
set_option maxHeartbeats 4000000 in
set_option maxRecDepth 20000 in
theorem c11_refuses (l : Launch) (D : zDt) (Sh : zSh) (top : Nat) (hO : zOK Sh) (o_ : Nat) (v_kind : Int32) (μ : zM) (r_ : Bool) (μ_ : zM) (ho : (Sh o_).1 = 18) (h : f11_refuses o_ v_kind μ = some (r_, μ_)) : zMet l D zK1 yX11_refuses cX11_refuses 2 (some .boolean) (zrm 0 0) [.ref o_, .int v_kind] Sh top μ (some (.int (bI r_))) Sh top μ_ 0 0 := by
  refine zMet_of (by decide) (Nat.le_of_ble_eq_true rfl) fun X hX1 hX2 fx fin => ?_
  subst hX1; subst hX2
  replace fx : zFix X cX11_refuses RX11 (zrm 0 0) 2 := fx
  show zZ zK1 X (zT0 Sh top) μ 0 [(0, .ref o_), (1, .int v_kind)] []
  unfold f11_refuses at h
  refine z_aload_n fx (k := 0) (i := 0) rfl rfl d11_refuses_0 ?_
  refine z_getO fx 11 10 22 ho lf11_50 fk11_10 d11_refuses_1 ?_
  refine z_iload_n fx (k := 1) (i := 1) rfl rfl d11_refuses_4 ?_
  refine z_dup2 fx rfl rfl d11_refuses_5 ?_
  obtain ⟨t1, e1, h⟩ := zinv h
  refine z_iald fx (ok11_10 hO ho) e1 d11_refuses_6 ?_
  refine z_iconst fx (v := 1) ic1 d11_refuses_7 ?_
  refine z_iadd fx d11_refuses_8 ?_
  obtain ⟨μ2, e2, h⟩ := zinv h
  refine z_iast fx (ok11_10 hO ho) e2 d11_refuses_9 ?_
  refine z_iconst fx (v := 0) ic0 d11_refuses_10 ?_
  refine z_top (show Value.int 0 = .int (bI false) from rfl) ?_
  cases h
  exact z_zreturn fx fin d11_refuses_11
theorem d11_end_0 : zd cX11_end 0 (.iload_n 1) 1 1 := by decide +kernel
theorem d11_end_1 : zj cX11_end 1 (.ifCond .lt 11) 11 4 12 := by decide +kernel
theorem d11_end_4 : zd cX11_end 4 (.iload_n 1) 1 5 := by decide +kernel
theorem d11_end_5 : zd cX11_end 5 (.aload_n 0) 1 6 := by decide +kernel
theorem d11_end_6 : zd cX11_end 6 (.getfield 86) 3 9 := by decide +kernel
theorem d11_end_9 : zj cX11_end 9 (.if_icmp .le 9) 9 12 18 := by decide +kernel
theorem d11_end_12 : zd cX11_end 12 (.aload_n 0) 1 13 := by decide +kernel
theorem d11_end_13 : zd cX11_end 13 (.iconst 0) 1 14 := by decide +kernel
theorem d11_end_14 : zd cX11_end 14 (.invokevirtual 97) 3 17 := by decide +kernel
theorem d11_end_17 : zd cX11_end 17 (.ireturn) 1 18 := by decide +kernel
theorem d11_end_18 : zd cX11_end 18 (.aload_n 0) 1 19 := by decide +kernel
theorem d11_end_19 : zd cX11_end 19 (.iload_n 1) 1 20 := by decide +kernel
theorem d11_end_20 : zd cX11_end 20 (.putfield 86) 3 23 := by decide +kernel
theorem d11_end_23 : zd cX11_end 23 (.iconst 1) 1 24 := by decide +kernel
theorem d11_end_24 : zd cX11_end 24 (.ireturn) 1 25 := by decide +kernel
set_option maxHeartbeats 4000000 in
set_option maxRecDepth 20000 in
theorem c11_end (l : Launch) (D : zDt) (Sh : zSh) (top : Nat) (hO : zOK Sh) (o_ : Nat) (v_n : Int32) (μ : zM) (r_ : Bool) (μ_ : zM) (ho : (Sh o_).1 = 18) (h : f11_end o_ v_n μ = some (r_, μ_)) : zMet l D zK1 yX11_end cX11_end 2 (some .boolean) (zrm 1 21) [.ref o_, .int v_n] Sh top μ (some (.int (bI r_))) Sh top μ_ 0 0 := by
  refine zMet_of (by decide) (Nat.le_of_ble_eq_true rfl) fun X hX1 hX2 fx fin => ?_
  subst hX1; subst hX2
  replace fx : zFix X cX11_end RX11 (zrm 1 21) 2 := fx
  show zZ zK1 X (zT0 Sh top) μ 0 [(0, .ref o_), (1, .int v_n)] []
  unfold f11_end at h
  have kt1 : ((clt v_n 0) || (clt (gF μ 1113 o_) v_n)) = true → zZ zK1 X (zT0 Sh top) μ 12 [(0, .ref o_), (1, .int v_n)] [] := by
    intro hc
    replace h := zif_t hc h
    refine z_aload_n fx (k := 0) (i := 0) rfl rfl d11_end_12 ?_
    refine z_iconst fx (v := 0) ic0 d11_end_13 ?_
    obtain ⟨t1, μ2, e2, h⟩ := zinv2 h
    refine z_cVr fx (c11_refuses (zLo X) (zDo X) Sh top hO o_ 0 μ _ _ ho e2) mv11_refuses ml11_97 ho rfl rfl rfl rfl d11_end_14 ?_
    cases h
    exact z_zreturn fx fin d11_end_17
  have kf1 : ((clt v_n 0) || (clt (gF μ 1113 o_) v_n)) = false → zZ zK1 X (zT0 Sh top) μ 18 [(0, .ref o_), (1, .int v_n)] [] := by
    intro hc
    replace h := zif_f hc h
    refine z_aload_n fx (k := 0) (i := 0) rfl rfl d11_end_18 ?_
    refine z_iload_n fx (k := 1) (i := 1) rfl rfl d11_end_19 ?_
    obtain ⟨μ3, e3, h⟩ := zinv h
    refine z_putI fx (ci := 11) 13 ho lf11_86 fp11_13 e3 d11_end_20 ?_
    refine z_iconst fx (v := 1) ic1 d11_end_23 ?_
    refine z_top (show Value.int 1 = .int (bI true) from rfl) ?_
    cases h
    exact z_zreturn fx fin d11_end_24
  clear h
  refine z_iload_n fx (k := 1) (i := 1) rfl rfl d11_end_0 ?_
  refine z_if_lt fx d11_end_1 (fun c4 => ?_) (fun c4 => ?_)
  · exact kt1 (by simp [c4])
  · refine z_iload_n fx (k := 1) (i := 1) rfl rfl d11_end_4 ?_
    refine z_aload_n fx (k := 0) (i := 0) rfl rfl d11_end_5 ?_
    refine z_getI fx 11 13 1113 ho lf11_86 ⟨fk11_13, rfl⟩ d11_end_6 ?_
    refine z_icmp_le fx d11_end_9 (fun c5 => ?_) (fun c5 => ?_)
    · exact kf1 (by simp [c4, c5])
    · exact kt1 (by simp [c4, c5])
theorem d11_takeTape_0 : zd cX11_takeTape 0 (.aload_n 0) 1 1 := by decide +kernel
theorem d11_takeTape_1 : zd cX11_takeTape 1 (.getfield 86) 3 4 := by decide +kernel
theorem d11_takeTape_4 : zd cX11_takeTape 4 (.istore_n 1) 1 5 := by decide +kernel
theorem d11_takeTape_5 : zd cX11_takeTape 5 (.aload_n 0) 1 6 := by decide +kernel
theorem d11_takeTape_6 : zd cX11_takeTape 6 (.iconst 0) 1 7 := by decide +kernel
theorem d11_takeTape_7 : zd cX11_takeTape 7 (.putfield 86) 3 10 := by decide +kernel
theorem d11_takeTape_10 : zd cX11_takeTape 10 (.iload_n 1) 1 11 := by decide +kernel
theorem d11_takeTape_11 : zd cX11_takeTape 11 (.ireturn) 1 12 := by decide +kernel
set_option maxHeartbeats 4000000 in
set_option maxRecDepth 20000 in
theorem c11_takeTape (l : Launch) (D : zDt) (Sh : zSh) (top : Nat) (hO : zOK Sh) (o_ : Nat) (μ : zM) (r_ : Int32) (μ_ : zM) (ho : (Sh o_).1 = 18) (h : f11_takeTape o_ μ = some (r_, μ_)) : zMet l D zK1 yX11_takeTape cX11_takeTape 2 (some .int) (zrm 0 0) [.ref o_] Sh top μ (some (.int r_)) Sh top μ_ 0 0 := by
  refine zMet_of (by decide) (Nat.le_of_ble_eq_true rfl) fun X hX1 hX2 fx fin => ?_
  subst hX1; subst hX2
  replace fx : zFix X cX11_takeTape RX11 (zrm 0 0) 2 := fx
  show zZ zK1 X (zT0 Sh top) μ 0 [(0, .ref o_)] []
  unfold f11_takeTape at h
  refine z_aload_n fx (k := 0) (i := 0) rfl rfl d11_takeTape_0 ?_
  refine z_getI fx 11 13 1113 ho lf11_86 ⟨fk11_13, rfl⟩ d11_takeTape_1 ?_
  obtain ⟨v_length_1, e1, h⟩ := zinv h
  replace e1 := Option.some.inj e1
  refine z_top (congrArg Value.int e1) ?_
  refine z_istore_n fx (k := 1) (i := 1) rfl rfl (lv' := [(0, .ref o_), (1, .int v_length_1)]) rfl rfl d11_takeTape_4 ?_
  refine z_aload_n fx (k := 0) (i := 0) rfl rfl d11_takeTape_5 ?_
  refine z_iconst fx (v := 0) ic0 d11_takeTape_6 ?_
  obtain ⟨μ2, e2, h⟩ := zinv h
  refine z_putI fx (ci := 11) 13 ho lf11_86 fp11_13 e2 d11_takeTape_7 ?_
  refine z_iload_n fx (k := 1) (i := 1) rfl rfl d11_takeTape_10 ?_
  cases h
  exact z_ireturn fx fin d11_takeTape_11
theorem d10_clear_0 : zd cX10_clear 0 (.aload_n 0) 1 1 := by decide +kernel
theorem d10_clear_1 : zd cX10_clear 1 (.iconst 0) 1 2 := by decide +kernel
theorem d10_clear_2 : zd cX10_clear 2 (.putfield 49) 3 5 := by decide +kernel
theorem d10_clear_5 : zd cX10_clear 5 (.aload_n 0) 1 6 := by decide +kernel
theorem d10_clear_6 : zd cX10_clear 6 (.iconst 0) 1 7 := by decide +kernel
theorem d10_clear_7 : zd cX10_clear 7 (.putfield 53) 3 10 := by decide +kernel
theorem d10_clear_10 : zd cX10_clear 10 (.aload_n 0) 1 11 := by decide +kernel
theorem d10_clear_11 : zd cX10_clear 11 (.iconst 0) 1 12 := by decide +kernel
theorem d10_clear_12 : zd cX10_clear 12 (.putfield 57) 3 15 := by decide +kernel
theorem d10_clear_15 : zd cX10_clear 15 (.aload_n 0) 1 16 := by decide +kernel
theorem d10_clear_16 : zd cX10_clear 16 (.iconst 0) 1 17 := by decide +kernel
theorem d10_clear_17 : zd cX10_clear 17 (.putfield 60) 3 20 := by decide +kernel
theorem d10_clear_20 : zd cX10_clear 20 (.aload_n 0) 1 21 := by decide +kernel
theorem d10_clear_21 : zd cX10_clear 21 (.iconst 0) 1 22 := by decide +kernel
theorem d10_clear_22 : zd cX10_clear 22 (.putfield 63) 3 25 := by decide +kernel
theorem d10_clear_25 : zd cX10_clear 25 (.aload_n 0) 1 26 := by decide +kernel
theorem d10_clear_26 : zd cX10_clear 26 (.iconst 0) 1 27 := by decide +kernel
theorem d10_clear_27 : zd cX10_clear 27 (.putfield 66) 3 30 := by decide +kernel
theorem d10_clear_30 : zd cX10_clear 30 (.aload_n 0) 1 31 := by decide +kernel
theorem d10_clear_31 : zd cX10_clear 31 (.getfield 25) 3 34 := by decide +kernel
theorem d10_clear_34 : zd cX10_clear 34 (.iconst 0) 1 35 := by decide +kernel
theorem d10_clear_35 : zd cX10_clear 35 (.invokestatic 69) 3 38 := by decide +kernel
theorem d10_clear_38 : zd cX10_clear 38 (.return_) 1 39 := by decide +kernel
set_option maxHeartbeats 4000000 in
set_option maxRecDepth 20000 in
theorem c10_clear (l : Launch) (D : zDt) (Sh : zSh) (top : Nat) (hO : zOK Sh) (o_ : Nat) (μ : zM) (μ_ : zM) (ho : (Sh o_).1 = 17) (h : f10_clear o_ μ = some μ_) : zMet l D zK1 yX10_clear cX10_clear 1 none (zrm 1 23) [.ref o_] Sh top μ none Sh top μ_ 0 0 := by
  refine zMet_of (by decide) (Nat.le_of_ble_eq_true rfl) fun X hX1 hX2 fx fin => ?_
  subst hX1; subst hX2
  replace fx : zFix X cX10_clear RX10 (zrm 1 23) 1 := fx
  show zZ zK1 X (zT0 Sh top) μ 0 [(0, .ref o_)] []
  unfold f10_clear at h
  refine z_aload_n fx (k := 0) (i := 0) rfl rfl d10_clear_0 ?_
  refine z_iconst fx (v := 0) ic0 d10_clear_1 ?_
  refine z_top (show Value.int 0 = .int (bI false) from rfl) ?_
  obtain ⟨μ1, e1, h⟩ := zinv h
  refine z_putB fx (ci := 10) 12 ho lf10_49 fp10_12 e1 d10_clear_2 ?_
  refine z_aload_n fx (k := 0) (i := 0) rfl rfl d10_clear_5 ?_
  refine z_iconst fx (v := 0) ic0 d10_clear_6 ?_
  obtain ⟨μ2, e2, h⟩ := zinv h
  refine z_putI fx (ci := 10) 13 ho lf10_53 fp10_13 e2 d10_clear_7 ?_
  refine z_aload_n fx (k := 0) (i := 0) rfl rfl d10_clear_10 ?_
  refine z_iconst fx (v := 0) ic0 d10_clear_11 ?_
  obtain ⟨μ3, e3, h⟩ := zinv h
  refine z_putI fx (ci := 10) 14 ho lf10_57 fp10_14 e3 d10_clear_12 ?_
  refine z_aload_n fx (k := 0) (i := 0) rfl rfl d10_clear_15 ?_
  refine z_iconst fx (v := 0) ic0 d10_clear_16 ?_
  obtain ⟨μ4, e4, h⟩ := zinv h
  refine z_putI fx (ci := 10) 15 ho lf10_60 fp10_15 e4 d10_clear_17 ?_
  refine z_aload_n fx (k := 0) (i := 0) rfl rfl d10_clear_20 ?_
  refine z_iconst fx (v := 0) ic0 d10_clear_21 ?_
  obtain ⟨μ5, e5, h⟩ := zinv h
  refine z_putI fx (ci := 10) 16 ho lf10_63 fp10_16 e5 d10_clear_22 ?_
  refine z_aload_n fx (k := 0) (i := 0) rfl rfl d10_clear_25 ?_
  refine z_iconst fx (v := 0) ic0 d10_clear_26 ?_
  obtain ⟨μ6, e6, h⟩ := zinv h
  refine z_putI fx (ci := 10) 17 ho lf10_66 fp10_17 e6 d10_clear_27 ?_
  refine z_aload_n fx (k := 0) (i := 0) rfl rfl d10_clear_30 ?_
  refine z_getO fx 10 4 5 ho lf10_25 fk10_4 d10_clear_31 ?_
  refine z_iconst fx (v := 0) ic0 d10_clear_34 ?_
  obtain ⟨μ7, e7, h⟩ := zinv h
  refine z_cSv fx (cJ_fill (zLo X) (zDo X) Sh top hO (o_ + 5) 8 0 μ6 _ (ok10_4 hO ho) (Nat.le_of_ble_eq_true rfl) e7) msJ_fill ml10_69 rfl rfl rfl rfl d10_clear_35 ?_
  cases h
  exact z_return fx fin d10_clear_38
theorem d5_skipBlanks_0 : zd cX5_skipBlanks 0 (.aload_n 0) 1 1 := by decide +kernel
theorem d5_skipBlanks_1 : zd cX5_skipBlanks 1 (.getfield 60) 3 4 := by decide +kernel
theorem d5_skipBlanks_4 : zd cX5_skipBlanks 4 (.aload_n 0) 1 5 := by decide +kernel
theorem d5_skipBlanks_5 : zd cX5_skipBlanks 5 (.getfield 52) 3 8 := by decide +kernel
theorem d5_skipBlanks_8 : zj cX5_skipBlanks 8 (.if_icmp .ge 44) 44 11 52 := by decide +kernel
theorem d5_skipBlanks_11 : zd cX5_skipBlanks 11 (.aload_n 0) 1 12 := by decide +kernel
theorem d5_skipBlanks_12 : zd cX5_skipBlanks 12 (.getfield 15) 3 15 := by decide +kernel
theorem d5_skipBlanks_15 : zd cX5_skipBlanks 15 (.aload_n 0) 1 16 := by decide +kernel
theorem d5_skipBlanks_16 : zd cX5_skipBlanks 16 (.getfield 60) 3 19 := by decide +kernel
theorem d5_skipBlanks_19 : zd cX5_skipBlanks 19 (.iaload) 1 20 := by decide +kernel
theorem d5_skipBlanks_20 : zd cX5_skipBlanks 20 (.bipush 32) 2 22 := by decide +kernel
theorem d5_skipBlanks_22 : zj cX5_skipBlanks 22 (.if_icmp .eq 17) 17 25 39 := by decide +kernel
theorem d5_skipBlanks_25 : zd cX5_skipBlanks 25 (.aload_n 0) 1 26 := by decide +kernel
theorem d5_skipBlanks_26 : zd cX5_skipBlanks 26 (.getfield 15) 3 29 := by decide +kernel
theorem d5_skipBlanks_29 : zd cX5_skipBlanks 29 (.aload_n 0) 1 30 := by decide +kernel
theorem d5_skipBlanks_30 : zd cX5_skipBlanks 30 (.getfield 60) 3 33 := by decide +kernel
theorem d5_skipBlanks_33 : zd cX5_skipBlanks 33 (.iaload) 1 34 := by decide +kernel
theorem d5_skipBlanks_34 : zd cX5_skipBlanks 34 (.bipush 10) 2 36 := by decide +kernel
theorem d5_skipBlanks_36 : zj cX5_skipBlanks 36 (.if_icmp .ne 16) 16 39 52 := by decide +kernel
theorem d5_skipBlanks_39 : zd cX5_skipBlanks 39 (.aload_n 0) 1 40 := by decide +kernel
theorem d5_skipBlanks_40 : zd cX5_skipBlanks 40 (.dup) 1 41 := by decide +kernel
theorem d5_skipBlanks_41 : zd cX5_skipBlanks 41 (.getfield 60) 3 44 := by decide +kernel
theorem d5_skipBlanks_44 : zd cX5_skipBlanks 44 (.iconst 1) 1 45 := by decide +kernel
theorem d5_skipBlanks_45 : zd cX5_skipBlanks 45 (.iadd) 1 46 := by decide +kernel
theorem d5_skipBlanks_46 : zd cX5_skipBlanks 46 (.putfield 60) 3 49 := by decide +kernel
theorem d5_skipBlanks_49 : zj cX5_skipBlanks 49 (.goto (-49)) (-49) 52 0 := by decide +kernel
theorem d5_skipBlanks_52 : zd cX5_skipBlanks 52 (.return_) 1 53 := by decide +kernel
set_option maxHeartbeats 4000000 in
set_option maxRecDepth 20000 in
theorem c5_skipBlanks (l : Launch) (D : zDt) (Sh : zSh) (top : Nat) (hO : zOK Sh) (o_ : Nat) (μ : zM) (μ_ : zM) (ho : (Sh o_).1 = 12) (h : f5_skipBlanks o_ μ = some μ_) : zMet l D zK1 yX5_skipBlanks cX5_skipBlanks 1 none (zrm 6 150) [.ref o_] Sh top μ none Sh top μ_ 0 0 := by
  refine zMet_of (by decide) (Nat.le_of_ble_eq_true rfl) fun X hX1 hX2 fx fin => ?_
  subst hX1; subst hX2
  replace fx : zFix X cX5_skipBlanks RX5 (zrm 6 150) 1 := fx
  show zZ zK1 X (zT0 Sh top) μ 0 [(0, .ref o_)] []
  unfold f5_skipBlanks at h
  obtain ⟨μ2, e16, h⟩ := zinv h
  have kx4 : zZ zK1 X (zT0 Sh top) μ2 52 [(0, .ref o_)] [] := by
    cases h
    exact z_return fx fin d5_skipBlanks_52
  clear h
  have klr3 : ∀ (n : Nat) (μ1 : zM), zloop (fun s => f5_skipBlanks_L1 o_ s) n μ1 = some μ2 → zZ zK1 X (zT0 Sh top) μ1 0 [(0, .ref o_)] [] := by
    intro n
    induction n with
    | zero => intro μ1 hl2; cases hl2
    | succ n ih5 =>
      intro μ1 hl2
      obtain ⟨y, e1, hl2⟩ := zloop_inv hl2
      replace e1 : f5_skipBlanks_L1 o_ μ1 = some y := e1
      unfold f5_skipBlanks_L1 at e1
      obtain ⟨b3, e7, e1⟩ := zinv e1
      have kt6 : b3 = true → zZ zK1 X (zT0 Sh top) μ1 39 [(0, .ref o_)] [] := by
        intro hc
        replace e1 := zif_t hc e1
        refine z_aload_n fx (k := 0) (i := 0) rfl rfl d5_skipBlanks_39 ?_
        refine z_dup fx rfl d5_skipBlanks_40 ?_
        refine z_getI fx 5 3 503 ho lf5_60 ⟨fk5_3, rfl⟩ d5_skipBlanks_41 ?_
        refine z_iconst fx (v := 1) ic1 d5_skipBlanks_44 ?_
        refine z_iadd fx d5_skipBlanks_45 ?_
        obtain ⟨μ4, e8, e1⟩ := zinv e1
        refine z_putI fx (ci := 5) 3 ho lf5_60 fp5_3 e8 d5_skipBlanks_46 ?_
        cases e1
        refine z_goto fx d5_skipBlanks_49 ?_
        exact ih5 _ hl2
      have kf6 : b3 = false → zZ zK1 X (zT0 Sh top) μ1 52 [(0, .ref o_)] [] := by
        intro hc
        replace e1 := zif_f hc e1
        cases e1
        cases hl2
        exact kx4
      clear e1
      refine z_aload_n fx (k := 0) (i := 0) rfl rfl d5_skipBlanks_0 ?_
      refine z_getI fx 5 3 503 ho lf5_60 ⟨fk5_3, rfl⟩ d5_skipBlanks_1 ?_
      refine z_aload_n fx (k := 0) (i := 0) rfl rfl d5_skipBlanks_4 ?_
      refine z_getI fx 5 2 502 ho lf5_52 ⟨fk5_2, rfl⟩ d5_skipBlanks_5 ?_
      refine z_icmp_ge fx d5_skipBlanks_8 (fun c9 => ?_) (fun c9 => ?_)
      · replace e7 := zif_f c9 e7
        cases e7
        exact kf6 rfl
      · replace e7 := zif_t c9 e7
        obtain ⟨b5, e10, e7⟩ := zinv e7
        have kf11 : b5 = false → zZ zK1 X (zT0 Sh top) μ1 25 [(0, .ref o_)] [] := by
          intro hc
          replace e7 := zif_f hc e7
          refine z_aload_n fx (k := 0) (i := 0) rfl rfl d5_skipBlanks_25 ?_
          refine z_getM fx 5 1 48 ho lf5_15 fk5_1 d5_skipBlanks_26 ?_
          refine z_aload_n fx (k := 0) (i := 0) rfl rfl d5_skipBlanks_29 ?_
          refine z_getI fx 5 3 503 ho lf5_60 ⟨fk5_3, rfl⟩ d5_skipBlanks_30 ?_
          obtain ⟨t6, e12, e7⟩ := zinv e7
          refine z_iald fx (ok5_1 hO ho) e12 d5_skipBlanks_33 ?_
          refine z_bipush fx (v := 10) bp10 d5_skipBlanks_34 ?_
          cases e7
          refine z_icmp_ne fx d5_skipBlanks_36 (fun c13 => ?_) (fun c13 => ?_)
          · exact kf6 c13
          · exact kt6 c13
        have kt11 : b5 = true → zZ zK1 X (zT0 Sh top) μ1 39 [(0, .ref o_)] [] := by
          intro hc
          replace e7 := zif_t hc e7
          cases e7
          exact kt6 rfl
        clear e7
        refine z_aload_n fx (k := 0) (i := 0) rfl rfl d5_skipBlanks_11 ?_
        refine z_getM fx 5 1 48 ho lf5_15 fk5_1 d5_skipBlanks_12 ?_
        refine z_aload_n fx (k := 0) (i := 0) rfl rfl d5_skipBlanks_15 ?_
        refine z_getI fx 5 3 503 ho lf5_60 ⟨fk5_3, rfl⟩ d5_skipBlanks_16 ?_
        obtain ⟨t7, e14, e10⟩ := zinv e10
        refine z_iald fx (ok5_1 hO ho) e14 d5_skipBlanks_19 ?_
        refine z_bipush fx (v := 32) bp32 d5_skipBlanks_20 ?_
        cases e10
        refine z_icmp_eq fx d5_skipBlanks_22 (fun c15 => ?_) (fun c15 => ?_)
        · exact kt11 c15
        · exact kf11 c15
  exact klr3 _ _ e16
theorem d5_wordEnd_0 : zd cX5_wordEnd 0 (.aload_n 0) 1 1 := by decide +kernel
theorem d5_wordEnd_1 : zd cX5_wordEnd 1 (.getfield 60) 3 4 := by decide +kernel
theorem d5_wordEnd_4 : zd cX5_wordEnd 4 (.istore_n 1) 1 5 := by decide +kernel
theorem d5_wordEnd_5 : zd cX5_wordEnd 5 (.iload_n 1) 1 6 := by decide +kernel
theorem d5_wordEnd_6 : zd cX5_wordEnd 6 (.aload_n 0) 1 7 := by decide +kernel
theorem d5_wordEnd_7 : zd cX5_wordEnd 7 (.getfield 52) 3 10 := by decide +kernel
theorem d5_wordEnd_10 : zj cX5_wordEnd 10 (.if_icmp .ge 31) 31 13 41 := by decide +kernel
theorem d5_wordEnd_13 : zd cX5_wordEnd 13 (.aload_n 0) 1 14 := by decide +kernel
theorem d5_wordEnd_14 : zd cX5_wordEnd 14 (.getfield 15) 3 17 := by decide +kernel
theorem d5_wordEnd_17 : zd cX5_wordEnd 17 (.iload_n 1) 1 18 := by decide +kernel
theorem d5_wordEnd_18 : zd cX5_wordEnd 18 (.iaload) 1 19 := by decide +kernel
theorem d5_wordEnd_19 : zd cX5_wordEnd 19 (.bipush 97) 2 21 := by decide +kernel
theorem d5_wordEnd_21 : zj cX5_wordEnd 21 (.if_icmp .lt 20) 20 24 41 := by decide +kernel
theorem d5_wordEnd_24 : zd cX5_wordEnd 24 (.aload_n 0) 1 25 := by decide +kernel
theorem d5_wordEnd_25 : zd cX5_wordEnd 25 (.getfield 15) 3 28 := by decide +kernel
theorem d5_wordEnd_28 : zd cX5_wordEnd 28 (.iload_n 1) 1 29 := by decide +kernel
theorem d5_wordEnd_29 : zd cX5_wordEnd 29 (.iaload) 1 30 := by decide +kernel
theorem d5_wordEnd_30 : zd cX5_wordEnd 30 (.bipush 122) 2 32 := by decide +kernel
theorem d5_wordEnd_32 : zj cX5_wordEnd 32 (.if_icmp .gt 9) 9 35 41 := by decide +kernel
theorem d5_wordEnd_35 : zd cX5_wordEnd 35 (.iinc 1 1) 3 38 := by decide +kernel
theorem d5_wordEnd_38 : zj cX5_wordEnd 38 (.goto (-33)) (-33) 41 5 := by decide +kernel
theorem d5_wordEnd_41 : zd cX5_wordEnd 41 (.iload_n 1) 1 42 := by decide +kernel
theorem d5_wordEnd_42 : zd cX5_wordEnd 42 (.ireturn) 1 43 := by decide +kernel
set_option maxHeartbeats 4000000 in
set_option maxRecDepth 20000 in
theorem c5_wordEnd (l : Launch) (D : zDt) (Sh : zSh) (top : Nat) (hO : zOK Sh) (o_ : Nat) (μ : zM) (r_ : Int32) (ho : (Sh o_).1 = 12) (h : f5_wordEnd o_ μ = some r_) : zMet l D zK1 yX5_wordEnd cX5_wordEnd 2 (some .int) (zrm 6 150) [.ref o_] Sh top μ (some (.int r_)) Sh top μ 0 0 := by
  refine zMet_of (by decide) (Nat.le_of_ble_eq_true rfl) fun X hX1 hX2 fx fin => ?_
  subst hX1; subst hX2
  replace fx : zFix X cX5_wordEnd RX5 (zrm 6 150) 2 := fx
  show zZ zK1 X (zT0 Sh top) μ 0 [(0, .ref o_)] []
  unfold f5_wordEnd at h
  refine z_aload_n fx (k := 0) (i := 0) rfl rfl d5_wordEnd_0 ?_
  refine z_getI fx 5 3 503 ho lf5_60 ⟨fk5_3, rfl⟩ d5_wordEnd_1 ?_
  obtain ⟨v_end_1, e1, h⟩ := zinv h
  replace e1 := Option.some.inj e1
  refine z_top (congrArg Value.int e1) ?_
  refine z_istore_n fx (k := 1) (i := 1) rfl rfl (lv' := [(0, .ref o_), (1, .int v_end_1)]) rfl rfl d5_wordEnd_4 ?_
  obtain ⟨v_end_3, e17, h⟩ := zinv h
  have kx5 : zZ zK1 X (zT0 Sh top) μ 41 [(0, .ref o_), (1, .int v_end_3)] [] := by
    refine z_iload_n fx (k := 1) (i := 1) rfl rfl d5_wordEnd_41 ?_
    cases h
    exact z_ireturn fx fin d5_wordEnd_42
  clear h
  have klr4 : ∀ (n : Nat) (v_end_2 : Int32), zloop (fun s => f5_wordEnd_L1 o_ μ s) n v_end_2 = some v_end_3 → zZ zK1 X (zT0 Sh top) μ 5 [(0, .ref o_), (1, .int v_end_2)] [] := by
    intro n
    induction n with
    | zero => intro v_end_2 hl3; cases hl3
    | succ n ih6 =>
      intro v_end_2 hl3
      obtain ⟨y, e2, hl3⟩ := zloop_inv hl3
      replace e2 : f5_wordEnd_L1 o_ μ v_end_2 = some y := e2
      unfold f5_wordEnd_L1 at e2
      obtain ⟨b4, e8, e2⟩ := zinv e2
      have kt7 : b4 = true → zZ zK1 X (zT0 Sh top) μ 35 [(0, .ref o_), (1, .int v_end_2)] [] := by
        intro hc
        replace e2 := zif_t hc e2
        obtain ⟨v_end_5, e9, e2⟩ := zinv e2
        replace e9 := Option.some.inj e9
        refine z_iinc fx (i := 1) (x := v_end_2) (v := v_end_5) rfl (by rw [in1]; exact e9) rfl (lv' := [(0, .ref o_), (1, .int v_end_5)]) rfl rfl d5_wordEnd_35 ?_
        cases e2
        refine z_goto fx d5_wordEnd_38 ?_
        exact ih6 _ hl3
      have kf7 : b4 = false → zZ zK1 X (zT0 Sh top) μ 41 [(0, .ref o_), (1, .int v_end_2)] [] := by
        intro hc
        replace e2 := zif_f hc e2
        cases e2
        cases hl3
        exact kx5
      clear e2
      obtain ⟨b6, e10, e8⟩ := zinv e8
      have kt11 : b6 = true → zZ zK1 X (zT0 Sh top) μ 24 [(0, .ref o_), (1, .int v_end_2)] [] := by
        intro hc
        replace e8 := zif_t hc e8
        refine z_aload_n fx (k := 0) (i := 0) rfl rfl d5_wordEnd_24 ?_
        refine z_getM fx 5 1 48 ho lf5_15 fk5_1 d5_wordEnd_25 ?_
        refine z_iload_n fx (k := 1) (i := 1) rfl rfl d5_wordEnd_28 ?_
        obtain ⟨t7, e12, e8⟩ := zinv e8
        refine z_iald fx (ok5_1 hO ho) e12 d5_wordEnd_29 ?_
        refine z_bipush fx (v := 122) bp122 d5_wordEnd_30 ?_
        cases e8
        refine z_icmp_gt fx d5_wordEnd_32 (fun c13 => ?_) (fun c13 => ?_)
        · exact kf7 (by rw [c13]; rfl)
        · exact kt7 (by rw [c13]; rfl)
      have kf11 : b6 = false → zZ zK1 X (zT0 Sh top) μ 41 [(0, .ref o_), (1, .int v_end_2)] [] := by
        intro hc
        replace e8 := zif_f hc e8
        cases e8
        exact kf7 rfl
      clear e8
      refine z_iload_n fx (k := 1) (i := 1) rfl rfl d5_wordEnd_5 ?_
      refine z_aload_n fx (k := 0) (i := 0) rfl rfl d5_wordEnd_6 ?_
      refine z_getI fx 5 2 502 ho lf5_52 ⟨fk5_2, rfl⟩ d5_wordEnd_7 ?_
      refine z_icmp_ge fx d5_wordEnd_10 (fun c14 => ?_) (fun c14 => ?_)
      · replace e10 := zif_f c14 e10
        cases e10
        exact kf11 rfl
      · replace e10 := zif_t c14 e10
        refine z_aload_n fx (k := 0) (i := 0) rfl rfl d5_wordEnd_13 ?_
        refine z_getM fx 5 1 48 ho lf5_15 fk5_1 d5_wordEnd_14 ?_
        refine z_iload_n fx (k := 1) (i := 1) rfl rfl d5_wordEnd_17 ?_
        obtain ⟨t8, e15, e10⟩ := zinv e10
        refine z_iald fx (ok5_1 hO ho) e15 d5_wordEnd_18 ?_
        refine z_bipush fx (v := 97) bp97 d5_wordEnd_19 ?_
        cases e10
        refine z_icmp_lt fx d5_wordEnd_21 (fun c16 => ?_) (fun c16 => ?_)
        · exact kf11 (by rw [c16]; rfl)
        · exact kt11 (by rw [c16]; rfl)
  exact klr4 _ _ e17
theorem d5_isWord_0 : zd cX5_isWord 0 (.aload_n 1) 1 1 := by decide +kernel
theorem d5_isWord_1 : zd cX5_isWord 1 (.invokevirtual 195) 3 4 := by decide +kernel
theorem d5_isWord_4 : zd cX5_isWord 4 (.istore_n 2) 1 5 := by decide +kernel
theorem d5_isWord_5 : zd cX5_isWord 5 (.aload_n 0) 1 6 := by decide +kernel
theorem d5_isWord_6 : zd cX5_isWord 6 (.invokevirtual 178) 3 9 := by decide +kernel
theorem d5_isWord_9 : zd cX5_isWord 9 (.aload_n 0) 1 10 := by decide +kernel
theorem d5_isWord_10 : zd cX5_isWord 10 (.getfield 60) 3 13 := by decide +kernel
theorem d5_isWord_13 : zd cX5_isWord 13 (.isub) 1 14 := by decide +kernel
theorem d5_isWord_14 : zd cX5_isWord 14 (.iload_n 2) 1 15 := by decide +kernel
theorem d5_isWord_15 : zj cX5_isWord 15 (.if_icmp .eq 5) 5 18 20 := by decide +kernel
theorem d5_isWord_18 : zd cX5_isWord 18 (.iconst 0) 1 19 := by decide +kernel
theorem d5_isWord_19 : zd cX5_isWord 19 (.ireturn) 1 20 := by decide +kernel
theorem d5_isWord_20 : zd cX5_isWord 20 (.iconst 0) 1 21 := by decide +kernel
theorem d5_isWord_21 : zd cX5_isWord 21 (.istore_n 3) 1 22 := by decide +kernel
theorem d5_isWord_22 : zd cX5_isWord 22 (.iload_n 3) 1 23 := by decide +kernel
theorem d5_isWord_23 : zd cX5_isWord 23 (.iload_n 2) 1 24 := by decide +kernel
theorem d5_isWord_24 : zj cX5_isWord 24 (.if_icmp .ge 30) 30 27 54 := by decide +kernel
theorem d5_isWord_27 : zd cX5_isWord 27 (.aload_n 0) 1 28 := by decide +kernel
theorem d5_isWord_28 : zd cX5_isWord 28 (.getfield 15) 3 31 := by decide +kernel
theorem d5_isWord_31 : zd cX5_isWord 31 (.aload_n 0) 1 32 := by decide +kernel
theorem d5_isWord_32 : zd cX5_isWord 32 (.getfield 60) 3 35 := by decide +kernel
theorem d5_isWord_35 : zd cX5_isWord 35 (.iload_n 3) 1 36 := by decide +kernel
theorem d5_isWord_36 : zd cX5_isWord 36 (.iadd) 1 37 := by decide +kernel
theorem d5_isWord_37 : zd cX5_isWord 37 (.iaload) 1 38 := by decide +kernel
theorem d5_isWord_38 : zd cX5_isWord 38 (.aload_n 1) 1 39 := by decide +kernel
theorem d5_isWord_39 : zd cX5_isWord 39 (.iload_n 3) 1 40 := by decide +kernel
theorem d5_isWord_40 : zd cX5_isWord 40 (.invokevirtual 199) 3 43 := by decide +kernel
theorem d5_isWord_43 : zj cX5_isWord 43 (.if_icmp .eq 5) 5 46 48 := by decide +kernel
theorem d5_isWord_46 : zd cX5_isWord 46 (.iconst 0) 1 47 := by decide +kernel
theorem d5_isWord_47 : zd cX5_isWord 47 (.ireturn) 1 48 := by decide +kernel
theorem d5_isWord_48 : zd cX5_isWord 48 (.iinc 3 1) 3 51 := by decide +kernel
theorem d5_isWord_51 : zj cX5_isWord 51 (.goto (-29)) (-29) 54 22 := by decide +kernel
theorem d5_isWord_54 : zd cX5_isWord 54 (.iconst 1) 1 55 := by decide +kernel
theorem d5_isWord_55 : zd cX5_isWord 55 (.ireturn) 1 56 := by decide +kernel
set_option maxHeartbeats 4000000 in
set_option maxRecDepth 20000 in
theorem c5_isWord (l : Launch) (D : zDt) (Sh : zSh) (top : Nat) (hO : zOK Sh) (o_ : Nat) (v_word : Nat) (μ : zM) (r_ : Bool) (ho : (Sh o_).1 = 12) (h_word : v_word < 13) (h : f5_isWord o_ v_word μ = some r_) : zMet l D zK1 yX5_isWord cX5_isWord 4 (some .boolean) (zrm 7 171) [.ref o_, .ref (zSa D v_word)] Sh top μ (some (.int (bI r_))) Sh top μ 0 0 := by
  refine zMet_of (by decide) (Nat.le_of_ble_eq_true rfl) fun X hX1 hX2 fx fin => ?_
  subst hX1; subst hX2
  replace fx : zFix X cX5_isWord RX5 (zrm 7 171) 4 := fx
  show zZ zK1 X (zT0 Sh top) μ 0 [(0, .ref o_), (1, .ref (zSa (zDo X) v_word))] []
  unfold f5_isWord at h
  refine z_aload_n fx (k := 1) (i := 1) rfl rfl d5_isWord_0 ?_
  refine z_slen fx h_word ml5_195 rfl rfl d5_isWord_1 ?_
  obtain ⟨v_size_1, e1, h⟩ := zinv h
  replace e1 := Option.some.inj e1
  refine z_top (congrArg Value.int e1) ?_
  refine z_istore_n fx (k := 2) (i := 2) rfl rfl (lv' := [(0, .ref o_), (1, .ref (zSa (zDo X) v_word)), (2, .int v_size_1)]) rfl rfl d5_isWord_4 ?_
  refine z_aload_n fx (k := 0) (i := 0) rfl rfl d5_isWord_5 ?_
  obtain ⟨t2, e2, h⟩ := zinv h
  refine z_cVr fx (c5_wordEnd (zLo X) (zDo X) Sh top hO o_ μ _ ho e2) mv5_wordEnd ml5_178 ho rfl rfl rfl rfl d5_isWord_6 ?_
  refine z_aload_n fx (k := 0) (i := 0) rfl rfl d5_isWord_9 ?_
  refine z_getI fx 5 3 503 ho lf5_60 ⟨fk5_3, rfl⟩ d5_isWord_10 ?_
  refine z_isub fx d5_isWord_13 ?_
  refine z_iload_n fx (k := 2) (i := 2) rfl rfl d5_isWord_14 ?_
  refine z_icmp_eq fx d5_isWord_15 (fun c3 => ?_) (fun c3 => ?_)
  · replace h := zif_t c3 h
    refine z_iconst fx (v := 0) ic0 d5_isWord_20 ?_
    refine z_istore_n fx (k := 3) (i := 3) rfl rfl (lv' := [(0, .ref o_), (1, .ref (zSa (zDo X) v_word)), (2, .int v_size_1), (3, .int 0)]) rfl rfl d5_isWord_21 ?_
    obtain ⟨r6, e14, h⟩ := zinv h
    have kx7 : ∀ (v_k_4 : Int32), r6 = .inr v_k_4 → zZ zK1 X (zT0 Sh top) μ 54 [(0, .ref o_), (1, .ref (zSa (zDo X) v_word)), (2, .int v_size_1), (3, .int v_k_4)] [] := by
      intro v_k_4 hr
      subst hr
      replace h := zel1 h
      refine z_take 3 (lv' := [(0, .ref o_), (1, .ref (zSa (zDo X) v_word)), (2, .int v_size_1)]) rfl ?_
      refine z_iconst fx (v := 1) ic1 d5_isWord_54 ?_
      refine z_top (show Value.int 1 = .int (bI true) from rfl) ?_
      cases h
      exact z_zreturn fx fin d5_isWord_55
    have klr6 : ∀ (n : Nat) (v_k_3 : Int32), zloop (fun s => f5_isWord_L1 o_ v_word μ v_size_1 s) n v_k_3 = some r6 → zZ zK1 X (zT0 Sh top) μ 22 [(0, .ref o_), (1, .ref (zSa (zDo X) v_word)), (2, .int v_size_1), (3, .int v_k_3)] [] := by
      intro n
      induction n with
      | zero => intro v_k_3 hl5; cases hl5
      | succ n ih8 =>
        intro v_k_3 hl5
        obtain ⟨y, e4, hl5⟩ := zloop_inv hl5
        replace e4 : f5_isWord_L1 o_ v_word μ v_size_1 v_k_3 = some y := e4
        unfold f5_isWord_L1 at e4
        refine z_iload_n fx (k := 3) (i := 3) rfl rfl d5_isWord_22 ?_
        refine z_iload_n fx (k := 2) (i := 2) rfl rfl d5_isWord_23 ?_
        refine z_icmp_ge fx d5_isWord_24 (fun c9 => ?_) (fun c9 => ?_)
        · replace e4 := zif_f c9 e4
          cases e4
          exact kx7 _ (Eq.symm hl5)
        · replace e4 := zif_t c9 e4
          refine z_aload_n fx (k := 0) (i := 0) rfl rfl d5_isWord_27 ?_
          refine z_getM fx 5 1 48 ho lf5_15 fk5_1 d5_isWord_28 ?_
          refine z_aload_n fx (k := 0) (i := 0) rfl rfl d5_isWord_31 ?_
          refine z_getI fx 5 3 503 ho lf5_60 ⟨fk5_3, rfl⟩ d5_isWord_32 ?_
          refine z_iload_n fx (k := 3) (i := 3) rfl rfl d5_isWord_35 ?_
          refine z_iadd fx d5_isWord_36 ?_
          obtain ⟨t5, e10, e4⟩ := zinv e4
          refine z_iald fx (ok5_1 hO ho) e10 d5_isWord_37 ?_
          refine z_aload_n fx (k := 1) (i := 1) rfl rfl d5_isWord_38 ?_
          refine z_iload_n fx (k := 3) (i := 3) rfl rfl d5_isWord_39 ?_
          obtain ⟨t6, e11, e4⟩ := zinv e4
          refine z_schr fx h_word e11 ml5_199 rfl rfl d5_isWord_40 ?_
          refine z_icmp_eq fx d5_isWord_43 (fun c12 => ?_) (fun c12 => ?_)
          · replace e4 := zif_t c12 e4
            obtain ⟨v_k_7, e13, e4⟩ := zinv e4
            replace e13 := Option.some.inj e13
            refine z_iinc fx (i := 3) (x := v_k_3) (v := v_k_7) rfl (by rw [in1]; exact e13) rfl (lv' := [(0, .ref o_), (1, .ref (zSa (zDo X) v_word)), (2, .int v_size_1), (3, .int v_k_7)]) rfl rfl d5_isWord_48 ?_
            cases e4
            refine z_goto fx d5_isWord_51 ?_
            exact ih8 _ hl5
          · replace e4 := zif_f c12 e4
            refine z_iconst fx (v := 0) ic0 d5_isWord_46 ?_
            refine z_top (show Value.int 0 = .int (bI false) from rfl) ?_
            cases e4
            cases hl5
            cases h
            exact z_zreturn fx fin d5_isWord_47
    exact klr6 _ _ e14
  · replace h := zif_f c3 h
    refine z_iconst fx (v := 0) ic0 d5_isWord_18 ?_
    refine z_top (show Value.int 0 = .int (bI false) from rfl) ?_
    cases h
    exact z_zreturn fx fin d5_isWord_19
theorem d5_nextIs_0 : zd cX5_nextIs 0 (.aload_n 0) 1 1 := by decide +kernel
theorem d5_nextIs_1 : zd cX5_nextIs 1 (.invokevirtual 68) 3 4 := by decide +kernel
theorem d5_nextIs_4 : zd cX5_nextIs 4 (.aload_n 0) 1 5 := by decide +kernel
theorem d5_nextIs_5 : zd cX5_nextIs 5 (.getfield 60) 3 8 := by decide +kernel
theorem d5_nextIs_8 : zd cX5_nextIs 8 (.aload_n 0) 1 9 := by decide +kernel
theorem d5_nextIs_9 : zd cX5_nextIs 9 (.getfield 62) 3 12 := by decide +kernel
theorem d5_nextIs_12 : zj cX5_nextIs 12 (.if_icmp .eq 15) 15 15 27 := by decide +kernel
theorem d5_nextIs_15 : zd cX5_nextIs 15 (.aload_n 0) 1 16 := by decide +kernel
theorem d5_nextIs_16 : zd cX5_nextIs 16 (.aload_n 1) 1 17 := by decide +kernel
theorem d5_nextIs_17 : zd cX5_nextIs 17 (.invokevirtual 185) 3 20 := by decide +kernel
theorem d5_nextIs_20 : zj cX5_nextIs 20 (.ifCond .eq 7) 7 23 27 := by decide +kernel
theorem d5_nextIs_23 : zd cX5_nextIs 23 (.iconst 1) 1 24 := by decide +kernel
theorem d5_nextIs_24 : zj cX5_nextIs 24 (.goto 4) 4 27 28 := by decide +kernel
theorem d5_nextIs_27 : zd cX5_nextIs 27 (.iconst 0) 1 28 := by decide +kernel
theorem d5_nextIs_28 : zd cX5_nextIs 28 (.ireturn) 1 29 := by decide +kernel
set_option maxHeartbeats 4000000 in
set_option maxRecDepth 20000 in
theorem c5_nextIs (l : Launch) (D : zDt) (Sh : zSh) (top : Nat) (hO : zOK Sh) (o_ : Nat) (v_word : Nat) (μ : zM) (r_ : Bool) (μ_ : zM) (ho : (Sh o_).1 = 12) (h_word : v_word < 13) (h : f5_nextIs o_ v_word μ = some (r_, μ_)) : zMet l D zK1 yX5_nextIs cX5_nextIs 2 (some .boolean) (zrm 8 194) [.ref o_, .ref (zSa D v_word)] Sh top μ (some (.int (bI r_))) Sh top μ_ 0 0 := by
  refine zMet_of (by decide) (Nat.le_of_ble_eq_true rfl) fun X hX1 hX2 fx fin => ?_
  subst hX1; subst hX2
  replace fx : zFix X cX5_nextIs RX5 (zrm 8 194) 2 := fx
  show zZ zK1 X (zT0 Sh top) μ 0 [(0, .ref o_), (1, .ref (zSa (zDo X) v_word))] []
  unfold f5_nextIs at h
  refine z_aload_n fx (k := 0) (i := 0) rfl rfl d5_nextIs_0 ?_
  obtain ⟨μ1, e1, h⟩ := zinv h
  refine z_cVv fx (c5_skipBlanks (zLo X) (zDo X) Sh top hO o_ μ _ ho e1) mv5_skipBlanks ml5_68 ho rfl rfl rfl rfl d5_nextIs_1 ?_
  obtain ⟨b2, e2, h⟩ := zinv h
  have k3 : zZ zK1 X (zT0 Sh top) μ1 28 [(0, .ref o_), (1, .ref (zSa (zDo X) v_word))] [.int (bI b2)] := by
    cases h
    exact z_zreturn fx fin d5_nextIs_28
  have kt4 : b2 = true → zZ zK1 X (zT0 Sh top) μ1 23 [(0, .ref o_), (1, .ref (zSa (zDo X) v_word))] [] := by
    intro hc
    refine z_iconst fx (v := 1) ic1 d5_nextIs_23 ?_
    refine z_goto fx d5_nextIs_24 ?_
    exact z_top (congrArg Value.int (show 1 = bI b2 by rw [hc]; rfl)) k3
  have kf4 : b2 = false → zZ zK1 X (zT0 Sh top) μ1 27 [(0, .ref o_), (1, .ref (zSa (zDo X) v_word))] [] := by
    intro hc
    refine z_iconst fx (v := 0) ic0 d5_nextIs_27 ?_
    exact z_top (congrArg Value.int (show 0 = bI b2 by rw [hc]; rfl)) k3
  refine z_aload_n fx (k := 0) (i := 0) rfl rfl d5_nextIs_4 ?_
  refine z_getI fx 5 3 503 ho lf5_60 ⟨fk5_3, rfl⟩ d5_nextIs_5 ?_
  refine z_aload_n fx (k := 0) (i := 0) rfl rfl d5_nextIs_8 ?_
  refine z_getI fx 5 4 504 ho lf5_62 ⟨fk5_4, rfl⟩ d5_nextIs_9 ?_
  refine z_icmp_eq fx d5_nextIs_12 (fun c5 => ?_) (fun c5 => ?_)
  · replace e2 := zif_t c5 e2
    cases e2
    exact kf4 rfl
  · replace e2 := zif_f c5 e2
    refine z_aload_n fx (k := 0) (i := 0) rfl rfl d5_nextIs_15 ?_
    refine z_aload_n fx (k := 1) (i := 1) rfl rfl d5_nextIs_16 ?_
    obtain ⟨t3, e6, e2⟩ := zinv e2
    refine z_cVr fx (c5_isWord (zLo X) (zDo X) Sh top hO o_ v_word μ1 _ ho h_word e6) mv5_isWord ml5_185 ho rfl rfl rfl rfl d5_nextIs_17 ?_
    cases e2
    refine z_ifb_eq fx d5_nextIs_20 (fun c7 => ?_) (fun c7 => ?_)
    · exact kf4 c7
    · exact kt4 c7
theorem d5_fails_0 : zd cX5_fails 0 (.aload_n 0) 1 1 := by decide +kernel
theorem d5_fails_1 : zd cX5_fails 1 (.iload_n 1) 1 2 := by decide +kernel
theorem d5_fails_2 : zd cX5_fails 2 (.putfield 65) 3 5 := by decide +kernel
theorem d5_fails_5 : zd cX5_fails 5 (.aload_n 0) 1 6 := by decide +kernel
theorem d5_fails_6 : zd cX5_fails 6 (.iload_n 2) 1 7 := by decide +kernel
theorem d5_fails_7 : zd cX5_fails 7 (.putfield 22) 3 10 := by decide +kernel
theorem d5_fails_10 : zd cX5_fails 10 (.iconst 0) 1 11 := by decide +kernel
theorem d5_fails_11 : zd cX5_fails 11 (.ireturn) 1 12 := by decide +kernel
set_option maxHeartbeats 4000000 in
set_option maxRecDepth 20000 in
theorem c5_fails (l : Launch) (D : zDt) (Sh : zSh) (top : Nat) (hO : zOK Sh) (o_ : Nat) (v_kind : Int32) (v_where : Int32) (μ : zM) (r_ : Bool) (μ_ : zM) (ho : (Sh o_).1 = 12) (h : f5_fails o_ v_kind v_where μ = some (r_, μ_)) : zMet l D zK1 yX5_fails cX5_fails 3 (some .boolean) (zrm 0 0) [.ref o_, .int v_kind, .int v_where] Sh top μ (some (.int (bI r_))) Sh top μ_ 0 0 := by
  refine zMet_of (by decide) (Nat.le_of_ble_eq_true rfl) fun X hX1 hX2 fx fin => ?_
  subst hX1; subst hX2
  replace fx : zFix X cX5_fails RX5 (zrm 0 0) 3 := fx
  show zZ zK1 X (zT0 Sh top) μ 0 [(0, .ref o_), (1, .int v_kind), (2, .int v_where)] []
  unfold f5_fails at h
  refine z_aload_n fx (k := 0) (i := 0) rfl rfl d5_fails_0 ?_
  refine z_iload_n fx (k := 1) (i := 1) rfl rfl d5_fails_1 ?_
  obtain ⟨μ1, e1, h⟩ := zinv h
  refine z_putI fx (ci := 5) 7 ho lf5_65 fp5_7 e1 d5_fails_2 ?_
  refine z_aload_n fx (k := 0) (i := 0) rfl rfl d5_fails_5 ?_
  refine z_iload_n fx (k := 2) (i := 2) rfl rfl d5_fails_6 ?_
  obtain ⟨μ2, e2, h⟩ := zinv h
  refine z_putI fx (ci := 5) 8 ho lf5_22 fp5_8 e2 d5_fails_7 ?_
  refine z_iconst fx (v := 0) ic0 d5_fails_10 ?_
  refine z_top (show Value.int 0 = .int (bI false) from rfl) ?_
  cases h
  exact z_zreturn fx fin d5_fails_11
theorem d5_pass_0 : zd cX5_pass 0 (.aload_n 0) 1 1 := by decide +kernel
theorem d5_pass_1 : zd cX5_pass 1 (.dup) 1 2 := by decide +kernel
theorem d5_pass_2 : zd cX5_pass 2 (.getfield 60) 3 5 := by decide +kernel
theorem d5_pass_5 : zd cX5_pass 5 (.iload_n 1) 1 6 := by decide +kernel
theorem d5_pass_6 : zd cX5_pass 6 (.iadd) 1 7 := by decide +kernel
theorem d5_pass_7 : zd cX5_pass 7 (.putfield 60) 3 10 := by decide +kernel
theorem d5_pass_10 : zd cX5_pass 10 (.aload_n 0) 1 11 := by decide +kernel
theorem d5_pass_11 : zd cX5_pass 11 (.aload_n 0) 1 12 := by decide +kernel
theorem d5_pass_12 : zd cX5_pass 12 (.getfield 60) 3 15 := by decide +kernel
theorem d5_pass_15 : zd cX5_pass 15 (.putfield 62) 3 18 := by decide +kernel
theorem d5_pass_18 : zd cX5_pass 18 (.return_) 1 19 := by decide +kernel
set_option maxHeartbeats 4000000 in
set_option maxRecDepth 20000 in
theorem c5_pass (l : Launch) (D : zDt) (Sh : zSh) (top : Nat) (hO : zOK Sh) (o_ : Nat) (v_size : Int32) (μ : zM) (μ_ : zM) (ho : (Sh o_).1 = 12) (h : f5_pass o_ v_size μ = some μ_) : zMet l D zK1 yX5_pass cX5_pass 2 none (zrm 0 0) [.ref o_, .int v_size] Sh top μ none Sh top μ_ 0 0 := by
  refine zMet_of (by decide) (Nat.le_of_ble_eq_true rfl) fun X hX1 hX2 fx fin => ?_
  subst hX1; subst hX2
  replace fx : zFix X cX5_pass RX5 (zrm 0 0) 2 := fx
  show zZ zK1 X (zT0 Sh top) μ 0 [(0, .ref o_), (1, .int v_size)] []
  unfold f5_pass at h
  refine z_aload_n fx (k := 0) (i := 0) rfl rfl d5_pass_0 ?_
  refine z_dup fx rfl d5_pass_1 ?_
  refine z_getI fx 5 3 503 ho lf5_60 ⟨fk5_3, rfl⟩ d5_pass_2 ?_
  refine z_iload_n fx (k := 1) (i := 1) rfl rfl d5_pass_5 ?_
  refine z_iadd fx d5_pass_6 ?_
  obtain ⟨μ1, e1, h⟩ := zinv h
  refine z_putI fx (ci := 5) 3 ho lf5_60 fp5_3 e1 d5_pass_7 ?_
  refine z_aload_n fx (k := 0) (i := 0) rfl rfl d5_pass_10 ?_
  refine z_aload_n fx (k := 0) (i := 0) rfl rfl d5_pass_11 ?_
  refine z_getI fx 5 3 503 ho lf5_60 ⟨fk5_3, rfl⟩ d5_pass_12 ?_
  obtain ⟨μ2, e2, h⟩ := zinv h
  refine z_putI fx (ci := 5) 4 ho lf5_62 fp5_4 e2 d5_pass_15 ?_
  cases h
  exact z_return fx fin d5_pass_18
theorem d5_word_0 : zd cX5_word 0 (.aload_n 0) 1 1 := by decide +kernel
theorem d5_word_1 : zd cX5_word 1 (.aload_n 1) 1 2 := by decide +kernel
theorem d5_word_2 : zd cX5_word 2 (.invokevirtual 79) 3 5 := by decide +kernel
theorem d5_word_5 : zj cX5_word 5 (.ifCond .ne 13) 13 8 18 := by decide +kernel
theorem d5_word_8 : zd cX5_word 8 (.aload_n 0) 1 9 := by decide +kernel
theorem d5_word_9 : zd cX5_word 9 (.iconst 1) 1 10 := by decide +kernel
theorem d5_word_10 : zd cX5_word 10 (.aload_n 0) 1 11 := by decide +kernel
theorem d5_word_11 : zd cX5_word 11 (.getfield 60) 3 14 := by decide +kernel
theorem d5_word_14 : zd cX5_word 14 (.invokevirtual 92) 3 17 := by decide +kernel
theorem d5_word_17 : zd cX5_word 17 (.ireturn) 1 18 := by decide +kernel
theorem d5_word_18 : zd cX5_word 18 (.aload_n 0) 1 19 := by decide +kernel
theorem d5_word_19 : zd cX5_word 19 (.aload_n 1) 1 20 := by decide +kernel
theorem d5_word_20 : zd cX5_word 20 (.invokevirtual 195) 3 23 := by decide +kernel
theorem d5_word_23 : zd cX5_word 23 (.invokevirtual 188) 3 26 := by decide +kernel
theorem d5_word_26 : zd cX5_word 26 (.iconst 1) 1 27 := by decide +kernel
theorem d5_word_27 : zd cX5_word 27 (.ireturn) 1 28 := by decide +kernel
set_option maxHeartbeats 4000000 in
set_option maxRecDepth 20000 in
theorem c5_word (l : Launch) (D : zDt) (Sh : zSh) (top : Nat) (hO : zOK Sh) (o_ : Nat) (v_word : Nat) (μ : zM) (r_ : Bool) (μ_ : zM) (ho : (Sh o_).1 = 12) (h_word : v_word < 13) (h : f5_word o_ v_word μ = some (r_, μ_)) : zMet l D zK1 yX5_word cX5_word 2 (some .boolean) (zrm 9 215) [.ref o_, .ref (zSa D v_word)] Sh top μ (some (.int (bI r_))) Sh top μ_ 0 0 := by
  refine zMet_of (by decide) (Nat.le_of_ble_eq_true rfl) fun X hX1 hX2 fx fin => ?_
  subst hX1; subst hX2
  replace fx : zFix X cX5_word RX5 (zrm 9 215) 2 := fx
  show zZ zK1 X (zT0 Sh top) μ 0 [(0, .ref o_), (1, .ref (zSa (zDo X) v_word))] []
  unfold f5_word at h
  refine z_aload_n fx (k := 0) (i := 0) rfl rfl d5_word_0 ?_
  refine z_aload_n fx (k := 1) (i := 1) rfl rfl d5_word_1 ?_
  obtain ⟨t1, μ2, e1, h⟩ := zinv2 h
  refine z_cVr fx (c5_nextIs (zLo X) (zDo X) Sh top hO o_ v_word μ _ _ ho h_word e1) mv5_nextIs ml5_79 ho rfl rfl rfl rfl d5_word_2 ?_
  refine z_ifb_ne fx d5_word_5 (fun c2 => ?_) (fun c2 => ?_)
  · replace h := zif_t c2 h
    refine z_aload_n fx (k := 0) (i := 0) rfl rfl d5_word_18 ?_
    refine z_aload_n fx (k := 1) (i := 1) rfl rfl d5_word_19 ?_
    refine z_slen fx h_word ml5_195 rfl rfl d5_word_20 ?_
    obtain ⟨μ3, e3, h⟩ := zinv h
    refine z_cVv fx (c5_pass (zLo X) (zDo X) Sh top hO o_ (sLen v_word) μ2 _ ho e3) mv5_pass ml5_188 ho rfl rfl rfl rfl d5_word_23 ?_
    refine z_iconst fx (v := 1) ic1 d5_word_26 ?_
    refine z_top (show Value.int 1 = .int (bI true) from rfl) ?_
    cases h
    exact z_zreturn fx fin d5_word_27
  · replace h := zif_f c2 h
    refine z_aload_n fx (k := 0) (i := 0) rfl rfl d5_word_8 ?_
    refine z_iconst fx (v := 1) ic1 d5_word_9 ?_
    refine z_aload_n fx (k := 0) (i := 0) rfl rfl d5_word_10 ?_
    refine z_getI fx 5 3 503 ho lf5_60 ⟨fk5_3, rfl⟩ d5_word_11 ?_
    obtain ⟨t4, μ5, e4, h⟩ := zinv2 h
    refine z_cVr fx (c5_fails (zLo X) (zDo X) Sh top hO o_ 1 (gF μ2 503 o_) μ2 _ _ ho e4) mv5_fails ml5_92 ho rfl rfl rfl rfl d5_word_14 ?_
    cases h
    exact z_zreturn fx fin d5_word_17
theorem d5_isDigit_0 : zd cX5_isDigit 0 (.iload_n 1) 1 1 := by decide +kernel
theorem d5_isDigit_1 : zd cX5_isDigit 1 (.aload_n 0) 1 2 := by decide +kernel
theorem d5_isDigit_2 : zd cX5_isDigit 2 (.getfield 52) 3 5 := by decide +kernel
theorem d5_isDigit_5 : zj cX5_isDigit 5 (.if_icmp .ge 29) 29 8 34 := by decide +kernel
theorem d5_isDigit_8 : zd cX5_isDigit 8 (.aload_n 0) 1 9 := by decide +kernel
theorem d5_isDigit_9 : zd cX5_isDigit 9 (.getfield 15) 3 12 := by decide +kernel
theorem d5_isDigit_12 : zd cX5_isDigit 12 (.iload_n 1) 1 13 := by decide +kernel
theorem d5_isDigit_13 : zd cX5_isDigit 13 (.iaload) 1 14 := by decide +kernel
theorem d5_isDigit_14 : zd cX5_isDigit 14 (.bipush 48) 2 16 := by decide +kernel
theorem d5_isDigit_16 : zj cX5_isDigit 16 (.if_icmp .lt 18) 18 19 34 := by decide +kernel
theorem d5_isDigit_19 : zd cX5_isDigit 19 (.aload_n 0) 1 20 := by decide +kernel
theorem d5_isDigit_20 : zd cX5_isDigit 20 (.getfield 15) 3 23 := by decide +kernel
theorem d5_isDigit_23 : zd cX5_isDigit 23 (.iload_n 1) 1 24 := by decide +kernel
theorem d5_isDigit_24 : zd cX5_isDigit 24 (.iaload) 1 25 := by decide +kernel
theorem d5_isDigit_25 : zd cX5_isDigit 25 (.bipush 57) 2 27 := by decide +kernel
theorem d5_isDigit_27 : zj cX5_isDigit 27 (.if_icmp .gt 7) 7 30 34 := by decide +kernel
theorem d5_isDigit_30 : zd cX5_isDigit 30 (.iconst 1) 1 31 := by decide +kernel
theorem d5_isDigit_31 : zj cX5_isDigit 31 (.goto 4) 4 34 35 := by decide +kernel
theorem d5_isDigit_34 : zd cX5_isDigit 34 (.iconst 0) 1 35 := by decide +kernel
theorem d5_isDigit_35 : zd cX5_isDigit 35 (.ireturn) 1 36 := by decide +kernel
set_option maxHeartbeats 4000000 in
set_option maxRecDepth 20000 in
theorem c5_isDigit (l : Launch) (D : zDt) (Sh : zSh) (top : Nat) (hO : zOK Sh) (o_ : Nat) (v_where : Int32) (μ : zM) (r_ : Bool) (ho : (Sh o_).1 = 12) (h : f5_isDigit o_ v_where μ = some r_) : zMet l D zK1 yX5_isDigit cX5_isDigit 2 (some .boolean) (zrm 6 150) [.ref o_, .int v_where] Sh top μ (some (.int (bI r_))) Sh top μ 0 0 := by
  refine zMet_of (by decide) (Nat.le_of_ble_eq_true rfl) fun X hX1 hX2 fx fin => ?_
  subst hX1; subst hX2
  replace fx : zFix X cX5_isDigit RX5 (zrm 6 150) 2 := fx
  show zZ zK1 X (zT0 Sh top) μ 0 [(0, .ref o_), (1, .int v_where)] []
  unfold f5_isDigit at h
  obtain ⟨b1, e1, h⟩ := zinv h
  have k2 : zZ zK1 X (zT0 Sh top) μ 35 [(0, .ref o_), (1, .int v_where)] [.int (bI b1)] := by
    cases h
    exact z_zreturn fx fin d5_isDigit_35
  have kt3 : b1 = true → zZ zK1 X (zT0 Sh top) μ 30 [(0, .ref o_), (1, .int v_where)] [] := by
    intro hc
    refine z_iconst fx (v := 1) ic1 d5_isDigit_30 ?_
    refine z_goto fx d5_isDigit_31 ?_
    exact z_top (congrArg Value.int (show 1 = bI b1 by rw [hc]; rfl)) k2
  have kf3 : b1 = false → zZ zK1 X (zT0 Sh top) μ 34 [(0, .ref o_), (1, .int v_where)] [] := by
    intro hc
    refine z_iconst fx (v := 0) ic0 d5_isDigit_34 ?_
    exact z_top (congrArg Value.int (show 0 = bI b1 by rw [hc]; rfl)) k2
  obtain ⟨b2, e4, e1⟩ := zinv e1
  have kt5 : b2 = true → zZ zK1 X (zT0 Sh top) μ 19 [(0, .ref o_), (1, .int v_where)] [] := by
    intro hc
    replace e1 := zif_t hc e1
    refine z_aload_n fx (k := 0) (i := 0) rfl rfl d5_isDigit_19 ?_
    refine z_getM fx 5 1 48 ho lf5_15 fk5_1 d5_isDigit_20 ?_
    refine z_iload_n fx (k := 1) (i := 1) rfl rfl d5_isDigit_23 ?_
    obtain ⟨t3, e6, e1⟩ := zinv e1
    refine z_iald fx (ok5_1 hO ho) e6 d5_isDigit_24 ?_
    refine z_bipush fx (v := 57) bp57 d5_isDigit_25 ?_
    cases e1
    refine z_icmp_gt fx d5_isDigit_27 (fun c7 => ?_) (fun c7 => ?_)
    · exact kf3 (by rw [c7]; rfl)
    · exact kt3 (by rw [c7]; rfl)
  have kf5 : b2 = false → zZ zK1 X (zT0 Sh top) μ 34 [(0, .ref o_), (1, .int v_where)] [] := by
    intro hc
    replace e1 := zif_f hc e1
    cases e1
    exact kf3 rfl
  clear e1
  refine z_iload_n fx (k := 1) (i := 1) rfl rfl d5_isDigit_0 ?_
  refine z_aload_n fx (k := 0) (i := 0) rfl rfl d5_isDigit_1 ?_
  refine z_getI fx 5 2 502 ho lf5_52 ⟨fk5_2, rfl⟩ d5_isDigit_2 ?_
  refine z_icmp_ge fx d5_isDigit_5 (fun c8 => ?_) (fun c8 => ?_)
  · replace e4 := zif_f c8 e4
    cases e4
    exact kf5 rfl
  · replace e4 := zif_t c8 e4
    refine z_aload_n fx (k := 0) (i := 0) rfl rfl d5_isDigit_8 ?_
    refine z_getM fx 5 1 48 ho lf5_15 fk5_1 d5_isDigit_9 ?_
    refine z_iload_n fx (k := 1) (i := 1) rfl rfl d5_isDigit_12 ?_
    obtain ⟨t4, e9, e4⟩ := zinv e4
    refine z_iald fx (ok5_1 hO ho) e9 d5_isDigit_13 ?_
    refine z_bipush fx (v := 48) bp48 d5_isDigit_14 ?_
    cases e4
    refine z_icmp_lt fx d5_isDigit_16 (fun c10 => ?_) (fun c10 => ?_)
    · exact kf5 (by rw [c10]; rfl)
    · exact kt5 (by rw [c10]; rfl)
theorem d5_number_0 : zd cX5_number 0 (.aload_n 0) 1 1 := by decide +kernel
theorem d5_number_1 : zd cX5_number 1 (.invokevirtual 68) 3 4 := by decide +kernel
theorem d5_number_4 : zd cX5_number 4 (.aload_n 0) 1 5 := by decide +kernel
theorem d5_number_5 : zd cX5_number 5 (.aload_n 0) 1 6 := by decide +kernel
theorem d5_number_6 : zd cX5_number 6 (.getfield 60) 3 9 := by decide +kernel
theorem d5_number_9 : zd cX5_number 9 (.invokevirtual 192) 3 12 := by decide +kernel
theorem d5_number_12 : zj cX5_number 12 (.ifCond .eq 14) 14 15 26 := by decide +kernel
theorem d5_number_15 : zd cX5_number 15 (.aload_n 0) 1 16 := by decide +kernel
theorem d5_number_16 : zd cX5_number 16 (.getfield 60) 3 19 := by decide +kernel
theorem d5_number_19 : zd cX5_number 19 (.aload_n 0) 1 20 := by decide +kernel
theorem d5_number_20 : zd cX5_number 20 (.getfield 62) 3 23 := by decide +kernel
theorem d5_number_23 : zj cX5_number 23 (.if_icmp .ne 13) 13 26 36 := by decide +kernel
theorem d5_number_26 : zd cX5_number 26 (.aload_n 0) 1 27 := by decide +kernel
theorem d5_number_27 : zd cX5_number 27 (.iconst 1) 1 28 := by decide +kernel
theorem d5_number_28 : zd cX5_number 28 (.aload_n 0) 1 29 := by decide +kernel
theorem d5_number_29 : zd cX5_number 29 (.getfield 60) 3 32 := by decide +kernel
theorem d5_number_32 : zd cX5_number 32 (.invokevirtual 92) 3 35 := by decide +kernel
theorem d5_number_35 : zd cX5_number 35 (.ireturn) 1 36 := by decide +kernel
theorem d5_number_36 : zd cX5_number 36 (.iconst 0) 1 37 := by decide +kernel
theorem d5_number_37 : zd cX5_number 37 (.istore_n 3) 1 38 := by decide +kernel
theorem d5_number_38 : zd cX5_number 38 (.aload_n 0) 1 39 := by decide +kernel
theorem d5_number_39 : zd cX5_number 39 (.iconst 0) 1 40 := by decide +kernel
theorem d5_number_40 : zd cX5_number 40 (.putfield 105) 3 43 := by decide +kernel
theorem d5_number_43 : zd cX5_number 43 (.iload_n 3) 1 44 := by decide +kernel
theorem d5_number_44 : zd cX5_number 44 (.iconst 3) 1 45 := by decide +kernel
theorem d5_number_45 : zj cX5_number 45 (.if_icmp .ge 48) 48 48 93 := by decide +kernel
theorem d5_number_48 : zd cX5_number 48 (.aload_n 0) 1 49 := by decide +kernel
theorem d5_number_49 : zd cX5_number 49 (.aload_n 0) 1 50 := by decide +kernel
theorem d5_number_50 : zd cX5_number 50 (.getfield 60) 3 53 := by decide +kernel
theorem d5_number_53 : zd cX5_number 53 (.iload_n 3) 1 54 := by decide +kernel
theorem d5_number_54 : zd cX5_number 54 (.iadd) 1 55 := by decide +kernel
theorem d5_number_55 : zd cX5_number 55 (.invokevirtual 192) 3 58 := by decide +kernel
theorem d5_number_58 : zj cX5_number 58 (.ifCond .eq 35) 35 61 93 := by decide +kernel
theorem d5_number_61 : zd cX5_number 61 (.aload_n 0) 1 62 := by decide +kernel
theorem d5_number_62 : zd cX5_number 62 (.bipush 10) 2 64 := by decide +kernel
theorem d5_number_64 : zd cX5_number 64 (.aload_n 0) 1 65 := by decide +kernel
theorem d5_number_65 : zd cX5_number 65 (.getfield 105) 3 68 := by decide +kernel
theorem d5_number_68 : zd cX5_number 68 (.imul) 1 69 := by decide +kernel
theorem d5_number_69 : zd cX5_number 69 (.aload_n 0) 1 70 := by decide +kernel
theorem d5_number_70 : zd cX5_number 70 (.getfield 15) 3 73 := by decide +kernel
theorem d5_number_73 : zd cX5_number 73 (.aload_n 0) 1 74 := by decide +kernel
theorem d5_number_74 : zd cX5_number 74 (.getfield 60) 3 77 := by decide +kernel
theorem d5_number_77 : zd cX5_number 77 (.iload_n 3) 1 78 := by decide +kernel
theorem d5_number_78 : zd cX5_number 78 (.iadd) 1 79 := by decide +kernel
theorem d5_number_79 : zd cX5_number 79 (.iaload) 1 80 := by decide +kernel
theorem d5_number_80 : zd cX5_number 80 (.iadd) 1 81 := by decide +kernel
theorem d5_number_81 : zd cX5_number 81 (.bipush 48) 2 83 := by decide +kernel
theorem d5_number_83 : zd cX5_number 83 (.isub) 1 84 := by decide +kernel
theorem d5_number_84 : zd cX5_number 84 (.putfield 105) 3 87 := by decide +kernel
theorem d5_number_87 : zd cX5_number 87 (.iinc 3 1) 3 90 := by decide +kernel
theorem d5_number_90 : zj cX5_number 90 (.goto (-47)) (-47) 93 43 := by decide +kernel
theorem d5_number_93 : zd cX5_number 93 (.aload_n 0) 1 94 := by decide +kernel
theorem d5_number_94 : zd cX5_number 94 (.aload_n 0) 1 95 := by decide +kernel
theorem d5_number_95 : zd cX5_number 95 (.getfield 60) 3 98 := by decide +kernel
theorem d5_number_98 : zd cX5_number 98 (.iload_n 3) 1 99 := by decide +kernel
theorem d5_number_99 : zd cX5_number 99 (.iadd) 1 100 := by decide +kernel
theorem d5_number_100 : zd cX5_number 100 (.invokevirtual 192) 3 103 := by decide +kernel
theorem d5_number_103 : zj cX5_number 103 (.ifCond .eq 15) 15 106 118 := by decide +kernel
theorem d5_number_106 : zd cX5_number 106 (.aload_n 0) 1 107 := by decide +kernel
theorem d5_number_107 : zd cX5_number 107 (.iconst 1) 1 108 := by decide +kernel
theorem d5_number_108 : zd cX5_number 108 (.aload_n 0) 1 109 := by decide +kernel
theorem d5_number_109 : zd cX5_number 109 (.getfield 60) 3 112 := by decide +kernel
theorem d5_number_112 : zd cX5_number 112 (.iload_n 3) 1 113 := by decide +kernel
theorem d5_number_113 : zd cX5_number 113 (.iadd) 1 114 := by decide +kernel
theorem d5_number_114 : zd cX5_number 114 (.invokevirtual 92) 3 117 := by decide +kernel
theorem d5_number_117 : zd cX5_number 117 (.ireturn) 1 118 := by decide +kernel
theorem d5_number_118 : zd cX5_number 118 (.aload_n 0) 1 119 := by decide +kernel
theorem d5_number_119 : zd cX5_number 119 (.getfield 105) 3 122 := by decide +kernel
theorem d5_number_122 : zd cX5_number 122 (.iload_n 1) 1 123 := by decide +kernel
theorem d5_number_123 : zj cX5_number 123 (.if_icmp .lt 11) 11 126 134 := by decide +kernel
theorem d5_number_126 : zd cX5_number 126 (.aload_n 0) 1 127 := by decide +kernel
theorem d5_number_127 : zd cX5_number 127 (.getfield 105) 3 130 := by decide +kernel
theorem d5_number_130 : zd cX5_number 130 (.iload_n 2) 1 131 := by decide +kernel
theorem d5_number_131 : zj cX5_number 131 (.if_icmp .le 13) 13 134 144 := by decide +kernel
theorem d5_number_134 : zd cX5_number 134 (.aload_n 0) 1 135 := by decide +kernel
theorem d5_number_135 : zd cX5_number 135 (.iconst 2) 1 136 := by decide +kernel
theorem d5_number_136 : zd cX5_number 136 (.aload_n 0) 1 137 := by decide +kernel
theorem d5_number_137 : zd cX5_number 137 (.getfield 60) 3 140 := by decide +kernel
theorem d5_number_140 : zd cX5_number 140 (.invokevirtual 92) 3 143 := by decide +kernel
theorem d5_number_143 : zd cX5_number 143 (.ireturn) 1 144 := by decide +kernel
theorem d5_number_144 : zd cX5_number 144 (.aload_n 0) 1 145 := by decide +kernel
theorem d5_number_145 : zd cX5_number 145 (.iload_n 3) 1 146 := by decide +kernel
theorem d5_number_146 : zd cX5_number 146 (.invokevirtual 188) 3 149 := by decide +kernel
theorem d5_number_149 : zd cX5_number 149 (.iconst 1) 1 150 := by decide +kernel
theorem d5_number_150 : zd cX5_number 150 (.ireturn) 1 151 := by decide +kernel
set_option maxHeartbeats 4000000 in
set_option maxRecDepth 20000 in
theorem c5_number (l : Launch) (D : zDt) (Sh : zSh) (top : Nat) (hO : zOK Sh) (o_ : Nat) (v_least : Int32) (v_most : Int32) (μ : zM) (r_ : Bool) (μ_ : zM) (ho : (Sh o_).1 = 12) (h : f5_number o_ v_least v_most μ = some (r_, μ_)) : zMet l D zK1 yX5_number cX5_number 4 (some .boolean) (zrm 7 171) [.ref o_, .int v_least, .int v_most] Sh top μ (some (.int (bI r_))) Sh top μ_ 0 0 := by
  refine zMet_of (by decide) (Nat.le_of_ble_eq_true rfl) fun X hX1 hX2 fx fin => ?_
  subst hX1; subst hX2
  replace fx : zFix X cX5_number RX5 (zrm 7 171) 4 := fx
  show zZ zK1 X (zT0 Sh top) μ 0 [(0, .ref o_), (1, .int v_least), (2, .int v_most)] []
  unfold f5_number at h
  refine z_aload_n fx (k := 0) (i := 0) rfl rfl d5_number_0 ?_
  obtain ⟨μ1, e1, h⟩ := zinv h
  refine z_cVv fx (c5_skipBlanks (zLo X) (zDo X) Sh top hO o_ μ _ ho e1) mv5_skipBlanks ml5_68 ho rfl rfl rfl rfl d5_number_1 ?_
  obtain ⟨b2, e3, h⟩ := zinv h
  have kt2 : b2 = true → zZ zK1 X (zT0 Sh top) μ1 26 [(0, .ref o_), (1, .int v_least), (2, .int v_most)] [] := by
    intro hc
    replace h := zif_t hc h
    refine z_aload_n fx (k := 0) (i := 0) rfl rfl d5_number_26 ?_
    refine z_iconst fx (v := 1) ic1 d5_number_27 ?_
    refine z_aload_n fx (k := 0) (i := 0) rfl rfl d5_number_28 ?_
    refine z_getI fx 5 3 503 ho lf5_60 ⟨fk5_3, rfl⟩ d5_number_29 ?_
    obtain ⟨t3, μ4, e4, h⟩ := zinv2 h
    refine z_cVr fx (c5_fails (zLo X) (zDo X) Sh top hO o_ 1 (gF μ1 503 o_) μ1 _ _ ho e4) mv5_fails ml5_92 ho rfl rfl rfl rfl d5_number_32 ?_
    cases h
    exact z_zreturn fx fin d5_number_35
  have kf2 : b2 = false → zZ zK1 X (zT0 Sh top) μ1 36 [(0, .ref o_), (1, .int v_least), (2, .int v_most)] [] := by
    intro hc
    replace h := zif_f hc h
    refine z_iconst fx (v := 0) ic0 d5_number_36 ?_
    refine z_istore_n fx (k := 3) (i := 3) rfl rfl (lv' := [(0, .ref o_), (1, .int v_least), (2, .int v_most), (3, .int 0)]) rfl rfl d5_number_37 ?_
    refine z_aload_n fx (k := 0) (i := 0) rfl rfl d5_number_38 ?_
    refine z_iconst fx (v := 0) ic0 d5_number_39 ?_
    obtain ⟨μ5, e5, h⟩ := zinv h
    refine z_putI fx (ci := 5) 5 ho lf5_105 fp5_5 e5 d5_number_40 ?_
    obtain ⟨v_size_8, μ9, e27, h⟩ := zinv2 h
    have kx9 : zZ zK1 X (zT0 Sh top) μ9 93 [(0, .ref o_), (1, .int v_least), (2, .int v_most), (3, .int v_size_8)] [] := by
      refine z_aload_n fx (k := 0) (i := 0) rfl rfl d5_number_93 ?_
      refine z_aload_n fx (k := 0) (i := 0) rfl rfl d5_number_94 ?_
      refine z_getI fx 5 3 503 ho lf5_60 ⟨fk5_3, rfl⟩ d5_number_95 ?_
      refine z_iload_n fx (k := 3) (i := 3) rfl rfl d5_number_98 ?_
      refine z_iadd fx d5_number_99 ?_
      obtain ⟨t15, e19, h⟩ := zinv h
      refine z_cVr fx (c5_isDigit (zLo X) (zDo X) Sh top hO o_ ((gF μ9 503 o_) + v_size_8) μ9 _ ho e19) mv5_isDigit ml5_192 ho rfl rfl rfl rfl d5_number_100 ?_
      refine z_ifb_eq fx d5_number_103 (fun c20 => ?_) (fun c20 => ?_)
      · replace h := zif_f c20 h
        have kt21 : ((clt (gF μ9 505 o_) v_least) || (clt v_most (gF μ9 505 o_))) = true → zZ zK1 X (zT0 Sh top) μ9 134 [(0, .ref o_), (1, .int v_least), (2, .int v_most), (3, .int v_size_8)] [] := by
          intro hc
          replace h := zif_t hc h
          refine z_aload_n fx (k := 0) (i := 0) rfl rfl d5_number_134 ?_
          refine z_iconst fx (v := 2) ic2 d5_number_135 ?_
          refine z_aload_n fx (k := 0) (i := 0) rfl rfl d5_number_136 ?_
          refine z_getI fx 5 3 503 ho lf5_60 ⟨fk5_3, rfl⟩ d5_number_137 ?_
          obtain ⟨t16, μ17, e22, h⟩ := zinv2 h
          refine z_cVr fx (c5_fails (zLo X) (zDo X) Sh top hO o_ 2 (gF μ9 503 o_) μ9 _ _ ho e22) mv5_fails ml5_92 ho rfl rfl rfl rfl d5_number_140 ?_
          cases h
          exact z_zreturn fx fin d5_number_143
        have kf21 : ((clt (gF μ9 505 o_) v_least) || (clt v_most (gF μ9 505 o_))) = false → zZ zK1 X (zT0 Sh top) μ9 144 [(0, .ref o_), (1, .int v_least), (2, .int v_most), (3, .int v_size_8)] [] := by
          intro hc
          replace h := zif_f hc h
          refine z_aload_n fx (k := 0) (i := 0) rfl rfl d5_number_144 ?_
          refine z_iload_n fx (k := 3) (i := 3) rfl rfl d5_number_145 ?_
          obtain ⟨μ18, e23, h⟩ := zinv h
          refine z_cVv fx (c5_pass (zLo X) (zDo X) Sh top hO o_ v_size_8 μ9 _ ho e23) mv5_pass ml5_188 ho rfl rfl rfl rfl d5_number_146 ?_
          refine z_iconst fx (v := 1) ic1 d5_number_149 ?_
          refine z_top (show Value.int 1 = .int (bI true) from rfl) ?_
          cases h
          exact z_zreturn fx fin d5_number_150
        clear h
        refine z_aload_n fx (k := 0) (i := 0) rfl rfl d5_number_118 ?_
        refine z_getI fx 5 5 505 ho lf5_105 ⟨fk5_5, rfl⟩ d5_number_119 ?_
        refine z_iload_n fx (k := 1) (i := 1) rfl rfl d5_number_122 ?_
        refine z_icmp_lt fx d5_number_123 (fun c24 => ?_) (fun c24 => ?_)
        · exact kt21 (by simp [c24])
        · refine z_aload_n fx (k := 0) (i := 0) rfl rfl d5_number_126 ?_
          refine z_getI fx 5 5 505 ho lf5_105 ⟨fk5_5, rfl⟩ d5_number_127 ?_
          refine z_iload_n fx (k := 2) (i := 2) rfl rfl d5_number_130 ?_
          refine z_icmp_le fx d5_number_131 (fun c25 => ?_) (fun c25 => ?_)
          · exact kf21 (by simp [c24, c25])
          · exact kt21 (by simp [c24, c25])
      · replace h := zif_t c20 h
        refine z_aload_n fx (k := 0) (i := 0) rfl rfl d5_number_106 ?_
        refine z_iconst fx (v := 1) ic1 d5_number_107 ?_
        refine z_aload_n fx (k := 0) (i := 0) rfl rfl d5_number_108 ?_
        refine z_getI fx 5 3 503 ho lf5_60 ⟨fk5_3, rfl⟩ d5_number_109 ?_
        refine z_iload_n fx (k := 3) (i := 3) rfl rfl d5_number_112 ?_
        refine z_iadd fx d5_number_113 ?_
        obtain ⟨t19, μ20, e26, h⟩ := zinv2 h
        refine z_cVr fx (c5_fails (zLo X) (zDo X) Sh top hO o_ 1 ((gF μ9 503 o_) + v_size_8) μ9 _ _ ho e26) mv5_fails ml5_92 ho rfl rfl rfl rfl d5_number_114 ?_
        cases h
        exact z_zreturn fx fin d5_number_117
    clear h
    have klr8 : ∀ (n : Nat) (v_size_6 : Int32) (μ7 : zM), zloop (fun s => f5_number_L1 o_ s.1 s.2) n (v_size_6, μ7) = some (v_size_8, μ9) → zZ zK1 X (zT0 Sh top) μ7 43 [(0, .ref o_), (1, .int v_least), (2, .int v_most), (3, .int v_size_6)] [] := by
      intro n
      induction n with
      | zero => intro v_size_6 μ7 hl7; cases hl7
      | succ n ih10 =>
        intro v_size_6 μ7 hl7
        obtain ⟨y, e6, hl7⟩ := zloop_inv hl7
        replace e6 : f5_number_L1 o_ v_size_6 μ7 = some y := e6
        unfold f5_number_L1 at e6
        obtain ⟨b10, e12, e6⟩ := zinv e6
        have kt11 : b10 = true → zZ zK1 X (zT0 Sh top) μ7 61 [(0, .ref o_), (1, .int v_least), (2, .int v_most), (3, .int v_size_6)] [] := by
          intro hc
          replace e6 := zif_t hc e6
          refine z_aload_n fx (k := 0) (i := 0) rfl rfl d5_number_61 ?_
          refine z_bipush fx (v := 10) bp10 d5_number_62 ?_
          refine z_aload_n fx (k := 0) (i := 0) rfl rfl d5_number_64 ?_
          refine z_getI fx 5 5 505 ho lf5_105 ⟨fk5_5, rfl⟩ d5_number_65 ?_
          refine z_imul fx d5_number_68 ?_
          refine z_aload_n fx (k := 0) (i := 0) rfl rfl d5_number_69 ?_
          refine z_getM fx 5 1 48 ho lf5_15 fk5_1 d5_number_70 ?_
          refine z_aload_n fx (k := 0) (i := 0) rfl rfl d5_number_73 ?_
          refine z_getI fx 5 3 503 ho lf5_60 ⟨fk5_3, rfl⟩ d5_number_74 ?_
          refine z_iload_n fx (k := 3) (i := 3) rfl rfl d5_number_77 ?_
          refine z_iadd fx d5_number_78 ?_
          obtain ⟨t11, e13, e6⟩ := zinv e6
          refine z_iald fx (ok5_1 hO ho) e13 d5_number_79 ?_
          refine z_iadd fx d5_number_80 ?_
          refine z_bipush fx (v := 48) bp48 d5_number_81 ?_
          refine z_isub fx d5_number_83 ?_
          obtain ⟨μ12, e14, e6⟩ := zinv e6
          refine z_putI fx (ci := 5) 5 ho lf5_105 fp5_5 e14 d5_number_84 ?_
          obtain ⟨v_size_13, e15, e6⟩ := zinv e6
          replace e15 := Option.some.inj e15
          refine z_iinc fx (i := 3) (x := v_size_6) (v := v_size_13) rfl (by rw [in1]; exact e15) rfl (lv' := [(0, .ref o_), (1, .int v_least), (2, .int v_most), (3, .int v_size_13)]) rfl rfl d5_number_87 ?_
          cases e6
          refine z_goto fx d5_number_90 ?_
          exact ih10 _ _ hl7
        have kf11 : b10 = false → zZ zK1 X (zT0 Sh top) μ7 93 [(0, .ref o_), (1, .int v_least), (2, .int v_most), (3, .int v_size_6)] [] := by
          intro hc
          replace e6 := zif_f hc e6
          cases e6
          cases hl7
          exact kx9
        clear e6
        refine z_iload_n fx (k := 3) (i := 3) rfl rfl d5_number_43 ?_
        refine z_iconst fx (v := 3) ic3 d5_number_44 ?_
        refine z_icmp_ge fx d5_number_45 (fun c16 => ?_) (fun c16 => ?_)
        · replace e12 := zif_f c16 e12
          cases e12
          exact kf11 rfl
        · replace e12 := zif_t c16 e12
          refine z_aload_n fx (k := 0) (i := 0) rfl rfl d5_number_48 ?_
          refine z_aload_n fx (k := 0) (i := 0) rfl rfl d5_number_49 ?_
          refine z_getI fx 5 3 503 ho lf5_60 ⟨fk5_3, rfl⟩ d5_number_50 ?_
          refine z_iload_n fx (k := 3) (i := 3) rfl rfl d5_number_53 ?_
          refine z_iadd fx d5_number_54 ?_
          obtain ⟨t14, e17, e12⟩ := zinv e12
          refine z_cVr fx (c5_isDigit (zLo X) (zDo X) Sh top hO o_ ((gF μ7 503 o_) + v_size_6) μ7 _ ho e17) mv5_isDigit ml5_192 ho rfl rfl rfl rfl d5_number_55 ?_
          cases e12
          refine z_ifb_eq fx d5_number_58 (fun c18 => ?_) (fun c18 => ?_)
          · exact kf11 c18
          · exact kt11 c18
    exact klr8 _ _ _ e27
  clear h
  obtain ⟨b21, e28, e3⟩ := zinv e3
  have kf29 : b21 = false → zZ zK1 X (zT0 Sh top) μ1 15 [(0, .ref o_), (1, .int v_least), (2, .int v_most)] [] := by
    intro hc
    replace e3 := zif_f hc e3
    refine z_aload_n fx (k := 0) (i := 0) rfl rfl d5_number_15 ?_
    refine z_getI fx 5 3 503 ho lf5_60 ⟨fk5_3, rfl⟩ d5_number_16 ?_
    refine z_aload_n fx (k := 0) (i := 0) rfl rfl d5_number_19 ?_
    refine z_getI fx 5 4 504 ho lf5_62 ⟨fk5_4, rfl⟩ d5_number_20 ?_
    cases e3
    refine z_icmp_ne fx d5_number_23 (fun c30 => ?_) (fun c30 => ?_)
    · exact kf2 c30
    · exact kt2 c30
  have kt29 : b21 = true → zZ zK1 X (zT0 Sh top) μ1 26 [(0, .ref o_), (1, .int v_least), (2, .int v_most)] [] := by
    intro hc
    replace e3 := zif_t hc e3
    cases e3
    exact kt2 rfl
  clear e3
  refine z_aload_n fx (k := 0) (i := 0) rfl rfl d5_number_4 ?_
  refine z_aload_n fx (k := 0) (i := 0) rfl rfl d5_number_5 ?_
  refine z_getI fx 5 3 503 ho lf5_60 ⟨fk5_3, rfl⟩ d5_number_6 ?_
  obtain ⟨t22, e31, e28⟩ := zinv e28
  refine z_cVr fx (c5_isDigit (zLo X) (zDo X) Sh top hO o_ (gF μ1 503 o_) μ1 _ ho e31) mv5_isDigit ml5_192 ho rfl rfl rfl rfl d5_number_9 ?_
  cases e28
  refine z_ifb_eq fx d5_number_12 (fun c32 => ?_) (fun c32 => ?_)
  · exact kt29 (by rw [c32]; rfl)
  · exact kf29 (by rw [c32]; rfl)
theorem d5_netStatement_0 : zd cX5_netStatement 0 (.aload_n 0) 1 1 := by decide +kernel
theorem d5_netStatement_1 : zd cX5_netStatement 1 (.ldc 26) 2 3 := by decide +kernel
theorem d5_netStatement_3 : zd cX5_netStatement 3 (.invokevirtual 99) 3 6 := by decide +kernel
theorem d5_netStatement_6 : zj cX5_netStatement 6 (.ifCond .eq 22) 22 9 28 := by decide +kernel
theorem d5_netStatement_9 : zd cX5_netStatement 9 (.aload_n 0) 1 10 := by decide +kernel
theorem d5_netStatement_10 : zd cX5_netStatement 10 (.ldc 28) 2 12 := by decide +kernel
theorem d5_netStatement_12 : zd cX5_netStatement 12 (.invokevirtual 99) 3 15 := by decide +kernel
theorem d5_netStatement_15 : zj cX5_netStatement 15 (.ifCond .eq 13) 13 18 28 := by decide +kernel
theorem d5_netStatement_18 : zd cX5_netStatement 18 (.aload_n 0) 1 19 := by decide +kernel
theorem d5_netStatement_19 : zd cX5_netStatement 19 (.iconst 2) 1 20 := by decide +kernel
theorem d5_netStatement_20 : zd cX5_netStatement 20 (.bipush 20) 2 22 := by decide +kernel
theorem d5_netStatement_22 : zd cX5_netStatement 22 (.invokevirtual 102) 3 25 := by decide +kernel
theorem d5_netStatement_25 : zj cX5_netStatement 25 (.ifCond .ne 5) 5 28 30 := by decide +kernel
theorem d5_netStatement_28 : zd cX5_netStatement 28 (.iconst 0) 1 29 := by decide +kernel
theorem d5_netStatement_29 : zd cX5_netStatement 29 (.ireturn) 1 30 := by decide +kernel
theorem d5_netStatement_30 : zd cX5_netStatement 30 (.aload_n 0) 1 31 := by decide +kernel
theorem d5_netStatement_31 : zd cX5_netStatement 31 (.getfield 18) 3 34 := by decide +kernel
theorem d5_netStatement_34 : zd cX5_netStatement 34 (.aload_n 0) 1 35 := by decide +kernel
theorem d5_netStatement_35 : zd cX5_netStatement 35 (.getfield 105) 3 38 := by decide +kernel
theorem d5_netStatement_38 : zd cX5_netStatement 38 (.putfield 108) 3 41 := by decide +kernel
theorem d5_netStatement_41 : zd cX5_netStatement 41 (.aload_n 0) 1 42 := by decide +kernel
theorem d5_netStatement_42 : zd cX5_netStatement 42 (.ldc 30) 2 44 := by decide +kernel
theorem d5_netStatement_44 : zd cX5_netStatement 44 (.invokevirtual 99) 3 47 := by decide +kernel
theorem d5_netStatement_47 : zj cX5_netStatement 47 (.ifCond .eq 13) 13 50 60 := by decide +kernel
theorem d5_netStatement_50 : zd cX5_netStatement 50 (.aload_n 0) 1 51 := by decide +kernel
theorem d5_netStatement_51 : zd cX5_netStatement 51 (.iconst 1) 1 52 := by decide +kernel
theorem d5_netStatement_52 : zd cX5_netStatement 52 (.bipush 9) 2 54 := by decide +kernel
theorem d5_netStatement_54 : zd cX5_netStatement 54 (.invokevirtual 102) 3 57 := by decide +kernel
theorem d5_netStatement_57 : zj cX5_netStatement 57 (.ifCond .ne 5) 5 60 62 := by decide +kernel
theorem d5_netStatement_60 : zd cX5_netStatement 60 (.iconst 0) 1 61 := by decide +kernel
theorem d5_netStatement_61 : zd cX5_netStatement 61 (.ireturn) 1 62 := by decide +kernel
theorem d5_netStatement_62 : zd cX5_netStatement 62 (.aload_n 0) 1 63 := by decide +kernel
theorem d5_netStatement_63 : zd cX5_netStatement 63 (.getfield 18) 3 66 := by decide +kernel
theorem d5_netStatement_66 : zd cX5_netStatement 66 (.aload_n 0) 1 67 := by decide +kernel
theorem d5_netStatement_67 : zd cX5_netStatement 67 (.getfield 105) 3 70 := by decide +kernel
theorem d5_netStatement_70 : zd cX5_netStatement 70 (.putfield 110) 3 73 := by decide +kernel
theorem d5_netStatement_73 : zd cX5_netStatement 73 (.iconst 1) 1 74 := by decide +kernel
theorem d5_netStatement_74 : zd cX5_netStatement 74 (.ireturn) 1 75 := by decide +kernel
set_option maxHeartbeats 4000000 in
set_option maxRecDepth 20000 in
theorem c5_netStatement (l : Launch) (D : zDt) (Sh : zSh) (top : Nat) (hO : zOK Sh) (o_ : Nat) (μ : zM) (r_ : Bool) (μ_ : zM) (ho : (Sh o_).1 = 12) (h : f5_netStatement o_ μ = some (r_, μ_)) : zMet l D zK1 yX5_netStatement cX5_netStatement 1 (some .boolean) (zrm 10 236) [.ref o_] Sh top μ (some (.int (bI r_))) Sh top μ_ 0 0 := by
  refine zMet_of (by decide) (Nat.le_of_ble_eq_true rfl) fun X hX1 hX2 fx fin => ?_
  subst hX1; subst hX2
  replace fx : zFix X cX5_netStatement RX5 (zrm 10 236) 1 := fx
  show zZ zK1 X (zT0 Sh top) μ 0 [(0, .ref o_)] []
  unfold f5_netStatement at h
  obtain ⟨b1, μ2, e2, h⟩ := zinv2 h
  have kt1 : b1 = true → zZ zK1 X (zT0 Sh top) μ2 28 [(0, .ref o_)] [] := by
    intro hc
    replace h := zif_t hc h
    refine z_iconst fx (v := 0) ic0 d5_netStatement_28 ?_
    refine z_top (show Value.int 0 = .int (bI false) from rfl) ?_
    cases h
    exact z_zreturn fx fin d5_netStatement_29
  have kf1 : b1 = false → zZ zK1 X (zT0 Sh top) μ2 30 [(0, .ref o_)] [] := by
    intro hc
    replace h := zif_f hc h
    refine z_aload_n fx (k := 0) (i := 0) rfl rfl d5_netStatement_30 ?_
    obtain ⟨w3, e3, h⟩ := zinv h
    refine z_getR fx 5 9 509 17 ho lf5_18 ⟨fk5_9, rfl⟩ e3 d5_netStatement_31 (fun tw3 => ?_)
    refine z_aload_n fx (k := 0) (i := 0) rfl rfl d5_netStatement_34 ?_
    refine z_getI fx 5 5 505 ho lf5_105 ⟨fk5_5, rfl⟩ d5_netStatement_35 ?_
    obtain ⟨μ4, e4, h⟩ := zinv h
    refine z_putI fx (ci := 10) 13 tw3 lf5_108 fp10_13 e4 d5_netStatement_38 ?_
    obtain ⟨b5, μ6, e6, h⟩ := zinv2 h
    have kt5 : b5 = true → zZ zK1 X (zT0 Sh top) μ6 60 [(0, .ref o_)] [] := by
      intro hc
      replace h := zif_t hc h
      refine z_iconst fx (v := 0) ic0 d5_netStatement_60 ?_
      refine z_top (show Value.int 0 = .int (bI false) from rfl) ?_
      cases h
      exact z_zreturn fx fin d5_netStatement_61
    have kf5 : b5 = false → zZ zK1 X (zT0 Sh top) μ6 62 [(0, .ref o_)] [] := by
      intro hc
      replace h := zif_f hc h
      refine z_aload_n fx (k := 0) (i := 0) rfl rfl d5_netStatement_62 ?_
      obtain ⟨w7, e7, h⟩ := zinv h
      refine z_getR fx 5 9 509 17 ho lf5_18 ⟨fk5_9, rfl⟩ e7 d5_netStatement_63 (fun tw7 => ?_)
      refine z_aload_n fx (k := 0) (i := 0) rfl rfl d5_netStatement_66 ?_
      refine z_getI fx 5 5 505 ho lf5_105 ⟨fk5_5, rfl⟩ d5_netStatement_67 ?_
      obtain ⟨μ8, e8, h⟩ := zinv h
      refine z_putI fx (ci := 10) 14 tw7 lf5_110 fp10_14 e8 d5_netStatement_70 ?_
      refine z_iconst fx (v := 1) ic1 d5_netStatement_73 ?_
      refine z_top (show Value.int 1 = .int (bI true) from rfl) ?_
      cases h
      exact z_zreturn fx fin d5_netStatement_74
    clear h
    obtain ⟨b9, μ10, e9, e6⟩ := zinv2 e6
    have kf10 : b9 = false → zZ zK1 X (zT0 Sh top) μ10 50 [(0, .ref o_)] [] := by
      intro hc
      replace e6 := zif_f hc e6
      refine z_aload_n fx (k := 0) (i := 0) rfl rfl d5_netStatement_50 ?_
      refine z_iconst fx (v := 1) ic1 d5_netStatement_51 ?_
      refine z_bipush fx (v := 9) bp9 d5_netStatement_52 ?_
      obtain ⟨t11, μ12, e11, e6⟩ := zinv2 e6
      refine z_cVr fx (c5_number (zLo X) (zDo X) Sh top hO o_ 1 9 μ10 _ _ ho e11) mv5_number ml5_102 ho rfl rfl rfl rfl d5_netStatement_54 ?_
      cases e6
      refine z_ifb_ne fx d5_netStatement_57 (fun c12 => ?_) (fun c12 => ?_)
      · exact kf5 (by rw [c12]; rfl)
      · exact kt5 (by rw [c12]; rfl)
    have kt10 : b9 = true → zZ zK1 X (zT0 Sh top) μ10 60 [(0, .ref o_)] [] := by
      intro hc
      replace e6 := zif_t hc e6
      cases e6
      exact kt5 rfl
    clear e6
    refine z_aload_n fx (k := 0) (i := 0) rfl rfl d5_netStatement_41 ?_
    refine z_ldcS fx 2 (by decide) d5_netStatement_42 ?_
    obtain ⟨t13, μ14, e13, e9⟩ := zinv2 e9
    refine z_cVr fx (c5_word (zLo X) (zDo X) Sh top hO o_ 2 μ4 _ _ ho (by decide) e13) mv5_word ml5_99 ho rfl rfl rfl rfl d5_netStatement_44 ?_
    cases e9
    refine z_ifb_eq fx d5_netStatement_47 (fun c14 => ?_) (fun c14 => ?_)
    · exact kt10 (by rw [c14]; rfl)
    · exact kf10 (by rw [c14]; rfl)
  clear h
  obtain ⟨b15, μ16, e15, e2⟩ := zinv2 e2
  have kf16 : b15 = false → zZ zK1 X (zT0 Sh top) μ16 18 [(0, .ref o_)] [] := by
    intro hc
    replace e2 := zif_f hc e2
    refine z_aload_n fx (k := 0) (i := 0) rfl rfl d5_netStatement_18 ?_
    refine z_iconst fx (v := 2) ic2 d5_netStatement_19 ?_
    refine z_bipush fx (v := 20) bp20 d5_netStatement_20 ?_
    obtain ⟨t17, μ18, e17, e2⟩ := zinv2 e2
    refine z_cVr fx (c5_number (zLo X) (zDo X) Sh top hO o_ 2 20 μ16 _ _ ho e17) mv5_number ml5_102 ho rfl rfl rfl rfl d5_netStatement_22 ?_
    cases e2
    refine z_ifb_ne fx d5_netStatement_25 (fun c18 => ?_) (fun c18 => ?_)
    · exact kf1 (by rw [c18]; rfl)
    · exact kt1 (by rw [c18]; rfl)
  have kt16 : b15 = true → zZ zK1 X (zT0 Sh top) μ16 28 [(0, .ref o_)] [] := by
    intro hc
    replace e2 := zif_t hc e2
    cases e2
    exact kt1 rfl
  clear e2
  obtain ⟨b19, μ20, e19, e15⟩ := zinv2 e15
  have kf20 : b19 = false → zZ zK1 X (zT0 Sh top) μ20 9 [(0, .ref o_)] [] := by
    intro hc
    replace e15 := zif_f hc e15
    refine z_aload_n fx (k := 0) (i := 0) rfl rfl d5_netStatement_9 ?_
    refine z_ldcS fx 1 (by decide) d5_netStatement_10 ?_
    obtain ⟨t21, μ22, e21, e15⟩ := zinv2 e15
    refine z_cVr fx (c5_word (zLo X) (zDo X) Sh top hO o_ 1 μ20 _ _ ho (by decide) e21) mv5_word ml5_99 ho rfl rfl rfl rfl d5_netStatement_12 ?_
    cases e15
    refine z_ifb_eq fx d5_netStatement_15 (fun c22 => ?_) (fun c22 => ?_)
    · exact kt16 (by rw [c22]; rfl)
    · exact kf16 (by rw [c22]; rfl)
  have kt20 : b19 = true → zZ zK1 X (zT0 Sh top) μ20 28 [(0, .ref o_)] [] := by
    intro hc
    replace e15 := zif_t hc e15
    cases e15
    exact kt16 rfl
  clear e15
  refine z_aload_n fx (k := 0) (i := 0) rfl rfl d5_netStatement_0 ?_
  refine z_ldcS fx 0 (by decide) d5_netStatement_1 ?_
  obtain ⟨t23, μ24, e23, e19⟩ := zinv2 e19
  refine z_cVr fx (c5_word (zLo X) (zDo X) Sh top hO o_ 0 μ _ _ ho (by decide) e23) mv5_word ml5_99 ho rfl rfl rfl rfl d5_netStatement_3 ?_
  cases e19
  refine z_ifb_eq fx d5_netStatement_6 (fun c24 => ?_) (fun c24 => ?_)
  · exact kt20 (by rw [c24]; rfl)
  · exact kf20 (by rw [c24]; rfl)
theorem d5_ownWord_0 : zd cX5_ownWord 0 (.iload_n 0) 1 1 := by decide +kernel
theorem d5_ownWord_1 : decode cX5_ownWord 1 = .ok (.tableswitch 99 0 11 #[63, 66, 69, 72, 75, 78, 81, 84, 87, 90, 93, 96], 63) := by decide +kernel
theorem d5_ownWord_64 : zd cX5_ownWord 64 (.ldc 26) 2 66 := by decide +kernel
theorem d5_ownWord_66 : zd cX5_ownWord 66 (.areturn) 1 67 := by decide +kernel
theorem d5_ownWord_67 : zd cX5_ownWord 67 (.ldc 28) 2 69 := by decide +kernel
theorem d5_ownWord_69 : zd cX5_ownWord 69 (.areturn) 1 70 := by decide +kernel
theorem d5_ownWord_70 : zd cX5_ownWord 70 (.ldc 30) 2 72 := by decide +kernel
theorem d5_ownWord_72 : zd cX5_ownWord 72 (.areturn) 1 73 := by decide +kernel
theorem d5_ownWord_73 : zd cX5_ownWord 73 (.ldc 32) 2 75 := by decide +kernel
theorem d5_ownWord_75 : zd cX5_ownWord 75 (.areturn) 1 76 := by decide +kernel
theorem d5_ownWord_76 : zd cX5_ownWord 76 (.ldc 34) 2 78 := by decide +kernel
theorem d5_ownWord_78 : zd cX5_ownWord 78 (.areturn) 1 79 := by decide +kernel
theorem d5_ownWord_79 : zd cX5_ownWord 79 (.ldc 36) 2 81 := by decide +kernel
theorem d5_ownWord_81 : zd cX5_ownWord 81 (.areturn) 1 82 := by decide +kernel
theorem d5_ownWord_82 : zd cX5_ownWord 82 (.ldc 38) 2 84 := by decide +kernel
theorem d5_ownWord_84 : zd cX5_ownWord 84 (.areturn) 1 85 := by decide +kernel
theorem d5_ownWord_85 : zd cX5_ownWord 85 (.ldc 40) 2 87 := by decide +kernel
theorem d5_ownWord_87 : zd cX5_ownWord 87 (.areturn) 1 88 := by decide +kernel
theorem d5_ownWord_88 : zd cX5_ownWord 88 (.ldc 42) 2 90 := by decide +kernel
theorem d5_ownWord_90 : zd cX5_ownWord 90 (.areturn) 1 91 := by decide +kernel
theorem d5_ownWord_91 : zd cX5_ownWord 91 (.ldc 44) 2 93 := by decide +kernel
theorem d5_ownWord_93 : zd cX5_ownWord 93 (.areturn) 1 94 := by decide +kernel
theorem d5_ownWord_94 : zd cX5_ownWord 94 (.ldc 46) 2 96 := by decide +kernel
theorem d5_ownWord_96 : zd cX5_ownWord 96 (.areturn) 1 97 := by decide +kernel
theorem d5_ownWord_97 : zd cX5_ownWord 97 (.ldc 48) 2 99 := by decide +kernel
theorem d5_ownWord_99 : zd cX5_ownWord 99 (.areturn) 1 100 := by decide +kernel
theorem d5_ownWord_100 : zd cX5_ownWord 100 (.ldc 50) 2 102 := by decide +kernel
theorem d5_ownWord_102 : zd cX5_ownWord 102 (.areturn) 1 103 := by decide +kernel
set_option maxHeartbeats 4000000 in
set_option maxRecDepth 20000 in
theorem c5_ownWord (l : Launch) (D : zDt) (Sh : zSh) (top : Nat) (hO : zOK Sh) (v_k : Int32) (μ : zM) (r_ : Nat)  (h : f5_ownWord v_k μ = some r_) : zMet l D zK1 yX5_ownWord cX5_ownWord 1 (some (.object "java/lang/String")) (zrm 0 0) [.int v_k] Sh top μ (some (.ref (zSa D r_))) Sh top μ 0 0 := by
  refine zMet_of (by decide) (Nat.le_of_ble_eq_true rfl) fun X hX1 hX2 fx fin => ?_
  subst hX1; subst hX2
  replace fx : zFix X cX5_ownWord RX5 (zrm 0 0) 1 := fx
  show zZ zK1 X (zT0 Sh top) μ 0 [(0, .int v_k)] []
  unfold f5_ownWord at h
  refine z_iload_n fx (k := 0) (i := 0) rfl rfl d5_ownWord_0 ?_
  cases c1 : ceq v_k 0 with
  | true =>
    replace h := zif_t c1 h
    refine z_table fx d5_ownWord_1 (off := 63) (tgt := 64) (by rw [ceq_of c1]; decide) (by decide) ?_
    refine z_ldcS fx 0 (by decide) d5_ownWord_64 ?_
    cases h
    exact z_areturn fx fin d5_ownWord_66
  | false =>
  replace h := zif_f c1 h
  cases c2 : ceq v_k 1 with
  | true =>
    replace h := zif_t c2 h
    refine z_table fx d5_ownWord_1 (off := 66) (tgt := 67) (by rw [ceq_of c2]; decide) (by decide) ?_
    refine z_ldcS fx 1 (by decide) d5_ownWord_67 ?_
    cases h
    exact z_areturn fx fin d5_ownWord_69
  | false =>
  replace h := zif_f c2 h
  cases c3 : ceq v_k 2 with
  | true =>
    replace h := zif_t c3 h
    refine z_table fx d5_ownWord_1 (off := 69) (tgt := 70) (by rw [ceq_of c3]; decide) (by decide) ?_
    refine z_ldcS fx 2 (by decide) d5_ownWord_70 ?_
    cases h
    exact z_areturn fx fin d5_ownWord_72
  | false =>
  replace h := zif_f c3 h
  cases c4 : ceq v_k 3 with
  | true =>
    replace h := zif_t c4 h
    refine z_table fx d5_ownWord_1 (off := 72) (tgt := 73) (by rw [ceq_of c4]; decide) (by decide) ?_
    refine z_ldcS fx 3 (by decide) d5_ownWord_73 ?_
    cases h
    exact z_areturn fx fin d5_ownWord_75
  | false =>
  replace h := zif_f c4 h
  cases c5 : ceq v_k 4 with
  | true =>
    replace h := zif_t c5 h
    refine z_table fx d5_ownWord_1 (off := 75) (tgt := 76) (by rw [ceq_of c5]; decide) (by decide) ?_
    refine z_ldcS fx 4 (by decide) d5_ownWord_76 ?_
    cases h
    exact z_areturn fx fin d5_ownWord_78
  | false =>
  replace h := zif_f c5 h
  cases c6 : ceq v_k 5 with
  | true =>
    replace h := zif_t c6 h
    refine z_table fx d5_ownWord_1 (off := 78) (tgt := 79) (by rw [ceq_of c6]; decide) (by decide) ?_
    refine z_ldcS fx 5 (by decide) d5_ownWord_79 ?_
    cases h
    exact z_areturn fx fin d5_ownWord_81
  | false =>
  replace h := zif_f c6 h
  cases c7 : ceq v_k 6 with
  | true =>
    replace h := zif_t c7 h
    refine z_table fx d5_ownWord_1 (off := 81) (tgt := 82) (by rw [ceq_of c7]; decide) (by decide) ?_
    refine z_ldcS fx 6 (by decide) d5_ownWord_82 ?_
    cases h
    exact z_areturn fx fin d5_ownWord_84
  | false =>
  replace h := zif_f c7 h
  cases c8 : ceq v_k 7 with
  | true =>
    replace h := zif_t c8 h
    refine z_table fx d5_ownWord_1 (off := 84) (tgt := 85) (by rw [ceq_of c8]; decide) (by decide) ?_
    refine z_ldcS fx 7 (by decide) d5_ownWord_85 ?_
    cases h
    exact z_areturn fx fin d5_ownWord_87
  | false =>
  replace h := zif_f c8 h
  cases c9 : ceq v_k 8 with
  | true =>
    replace h := zif_t c9 h
    refine z_table fx d5_ownWord_1 (off := 87) (tgt := 88) (by rw [ceq_of c9]; decide) (by decide) ?_
    refine z_ldcS fx 8 (by decide) d5_ownWord_88 ?_
    cases h
    exact z_areturn fx fin d5_ownWord_90
  | false =>
  replace h := zif_f c9 h
  cases c10 : ceq v_k 9 with
  | true =>
    replace h := zif_t c10 h
    refine z_table fx d5_ownWord_1 (off := 90) (tgt := 91) (by rw [ceq_of c10]; decide) (by decide) ?_
    refine z_ldcS fx 9 (by decide) d5_ownWord_91 ?_
    cases h
    exact z_areturn fx fin d5_ownWord_93
  | false =>
  replace h := zif_f c10 h
  cases c11 : ceq v_k 10 with
  | true =>
    replace h := zif_t c11 h
    refine z_table fx d5_ownWord_1 (off := 93) (tgt := 94) (by rw [ceq_of c11]; decide) (by decide) ?_
    refine z_ldcS fx 10 (by decide) d5_ownWord_94 ?_
    cases h
    exact z_areturn fx fin d5_ownWord_96
  | false =>
  replace h := zif_f c11 h
  cases c12 : ceq v_k 11 with
  | true =>
    replace h := zif_t c12 h
    refine z_table fx d5_ownWord_1 (off := 96) (tgt := 97) (by rw [ceq_of c12]; decide) (by decide) ?_
    refine z_ldcS fx 11 (by decide) d5_ownWord_97 ?_
    cases h
    exact z_areturn fx fin d5_ownWord_99
  | false =>
  replace h := zif_f c12 h
  have hn0 := zne c1 (k := 0) (by decide)
  have hn1 := zne c2 (k := 1) (by decide)
  have hn2 := zne c3 (k := 2) (by decide)
  have hn3 := zne c4 (k := 3) (by decide)
  have hn4 := zne c5 (k := 4) (by decide)
  have hn5 := zne c6 (k := 5) (by decide)
  have hn6 := zne c7 (k := 6) (by decide)
  have hn7 := zne c8 (k := 7) (by decide)
  have hn8 := zne c9 (k := 8) (by decide)
  have hn9 := zne c10 (k := 9) (by decide)
  have hn10 := zne c11 (k := 10) (by decide)
  have hn11 := zne c12 (k := 11) (by decide)
  refine z_table fx d5_ownWord_1 (off := 99) (tgt := 100) ⟨zsw_out (by omega), by decide⟩ (by decide) ?_
  refine z_ldcS fx 12 (by decide) d5_ownWord_100 ?_
  cases h
  exact z_areturn fx fin d5_ownWord_102
theorem d5_name_0 : zd cX5_name 0 (.aload_n 0) 1 1 := by decide +kernel
theorem d5_name_1 : zd cX5_name 1 (.invokevirtual 68) 3 4 := by decide +kernel
theorem d5_name_4 : zd cX5_name 4 (.aload_n 0) 1 5 := by decide +kernel
theorem d5_name_5 : zd cX5_name 5 (.invokevirtual 178) 3 8 := by decide +kernel
theorem d5_name_8 : zd cX5_name 8 (.aload_n 0) 1 9 := by decide +kernel
theorem d5_name_9 : zd cX5_name 9 (.getfield 60) 3 12 := by decide +kernel
theorem d5_name_12 : zd cX5_name 12 (.isub) 1 13 := by decide +kernel
theorem d5_name_13 : zd cX5_name 13 (.istore_n 1) 1 14 := by decide +kernel
theorem d5_name_14 : zd cX5_name 14 (.iload_n 1) 1 15 := by decide +kernel
theorem d5_name_15 : zj cX5_name 15 (.ifCond .eq 14) 14 18 29 := by decide +kernel
theorem d5_name_18 : zd cX5_name 18 (.aload_n 0) 1 19 := by decide +kernel
theorem d5_name_19 : zd cX5_name 19 (.getfield 60) 3 22 := by decide +kernel
theorem d5_name_22 : zd cX5_name 22 (.aload_n 0) 1 23 := by decide +kernel
theorem d5_name_23 : zd cX5_name 23 (.getfield 62) 3 26 := by decide +kernel
theorem d5_name_26 : zj cX5_name 26 (.if_icmp .ne 13) 13 29 39 := by decide +kernel
theorem d5_name_29 : zd cX5_name 29 (.aload_n 0) 1 30 := by decide +kernel
theorem d5_name_30 : zd cX5_name 30 (.iconst 1) 1 31 := by decide +kernel
theorem d5_name_31 : zd cX5_name 31 (.aload_n 0) 1 32 := by decide +kernel
theorem d5_name_32 : zd cX5_name 32 (.getfield 60) 3 35 := by decide +kernel
theorem d5_name_35 : zd cX5_name 35 (.invokevirtual 92) 3 38 := by decide +kernel
theorem d5_name_38 : zd cX5_name 38 (.ireturn) 1 39 := by decide +kernel
theorem d5_name_39 : zd cX5_name 39 (.iconst 0) 1 40 := by decide +kernel
theorem d5_name_40 : zd cX5_name 40 (.istore_n 2) 1 41 := by decide +kernel
theorem d5_name_41 : zd cX5_name 41 (.iload_n 2) 1 42 := by decide +kernel
theorem d5_name_42 : zd cX5_name 42 (.bipush 13) 2 44 := by decide +kernel
theorem d5_name_44 : zj cX5_name 44 (.if_icmp .ge 30) 30 47 74 := by decide +kernel
theorem d5_name_47 : zd cX5_name 47 (.aload_n 0) 1 48 := by decide +kernel
theorem d5_name_48 : zd cX5_name 48 (.iload_n 2) 1 49 := by decide +kernel
theorem d5_name_49 : zd cX5_name 49 (.invokestatic 181) 3 52 := by decide +kernel
theorem d5_name_52 : zd cX5_name 52 (.invokevirtual 185) 3 55 := by decide +kernel
theorem d5_name_55 : zj cX5_name 55 (.ifCond .eq 13) 13 58 68 := by decide +kernel
theorem d5_name_58 : zd cX5_name 58 (.aload_n 0) 1 59 := by decide +kernel
theorem d5_name_59 : zd cX5_name 59 (.iconst 1) 1 60 := by decide +kernel
theorem d5_name_60 : zd cX5_name 60 (.aload_n 0) 1 61 := by decide +kernel
theorem d5_name_61 : zd cX5_name 61 (.getfield 60) 3 64 := by decide +kernel
theorem d5_name_64 : zd cX5_name 64 (.invokevirtual 92) 3 67 := by decide +kernel
theorem d5_name_67 : zd cX5_name 67 (.ireturn) 1 68 := by decide +kernel
theorem d5_name_68 : zd cX5_name 68 (.iinc 2 1) 3 71 := by decide +kernel
theorem d5_name_71 : zj cX5_name 71 (.goto (-30)) (-30) 74 41 := by decide +kernel
theorem d5_name_74 : zd cX5_name 74 (.iload_n 1) 1 75 := by decide +kernel
theorem d5_name_75 : zd cX5_name 75 (.bipush 6) 2 77 := by decide +kernel
theorem d5_name_77 : zj cX5_name 77 (.if_icmp .le 16) 16 80 93 := by decide +kernel
theorem d5_name_80 : zd cX5_name 80 (.aload_n 0) 1 81 := by decide +kernel
theorem d5_name_81 : zd cX5_name 81 (.iconst 1) 1 82 := by decide +kernel
theorem d5_name_82 : zd cX5_name 82 (.aload_n 0) 1 83 := by decide +kernel
theorem d5_name_83 : zd cX5_name 83 (.getfield 60) 3 86 := by decide +kernel
theorem d5_name_86 : zd cX5_name 86 (.bipush 6) 2 88 := by decide +kernel
theorem d5_name_88 : zd cX5_name 88 (.iadd) 1 89 := by decide +kernel
theorem d5_name_89 : zd cX5_name 89 (.invokevirtual 92) 3 92 := by decide +kernel
theorem d5_name_92 : zd cX5_name 92 (.ireturn) 1 93 := by decide +kernel
theorem d5_name_93 : zd cX5_name 93 (.iconst 0) 1 94 := by decide +kernel
theorem d5_name_94 : zd cX5_name 94 (.istore_n 2) 1 95 := by decide +kernel
theorem d5_name_95 : zd cX5_name 95 (.iload_n 2) 1 96 := by decide +kernel
theorem d5_name_96 : zd cX5_name 96 (.bipush 6) 2 98 := by decide +kernel
theorem d5_name_98 : zj cX5_name 98 (.if_icmp .ge 40) 40 101 138 := by decide +kernel
theorem d5_name_101 : zd cX5_name 101 (.aload_n 0) 1 102 := by decide +kernel
theorem d5_name_102 : zd cX5_name 102 (.getfield 9) 3 105 := by decide +kernel
theorem d5_name_105 : zd cX5_name 105 (.iload_n 2) 1 106 := by decide +kernel
theorem d5_name_106 : zd cX5_name 106 (.iload_n 2) 1 107 := by decide +kernel
theorem d5_name_107 : zd cX5_name 107 (.iload_n 1) 1 108 := by decide +kernel
theorem d5_name_108 : zj cX5_name 108 (.if_icmp .ge 22) 22 111 130 := by decide +kernel
theorem d5_name_111 : zd cX5_name 111 (.aload_n 0) 1 112 := by decide +kernel
theorem d5_name_112 : zd cX5_name 112 (.getfield 15) 3 115 := by decide +kernel
theorem d5_name_115 : zd cX5_name 115 (.aload_n 0) 1 116 := by decide +kernel
theorem d5_name_116 : zd cX5_name 116 (.getfield 60) 3 119 := by decide +kernel
theorem d5_name_119 : zd cX5_name 119 (.iload_n 2) 1 120 := by decide +kernel
theorem d5_name_120 : zd cX5_name 120 (.iadd) 1 121 := by decide +kernel
theorem d5_name_121 : zd cX5_name 121 (.iaload) 1 122 := by decide +kernel
theorem d5_name_122 : zd cX5_name 122 (.bipush 97) 2 124 := by decide +kernel
theorem d5_name_124 : zd cX5_name 124 (.isub) 1 125 := by decide +kernel
theorem d5_name_125 : zd cX5_name 125 (.iconst 1) 1 126 := by decide +kernel
theorem d5_name_126 : zd cX5_name 126 (.iadd) 1 127 := by decide +kernel
theorem d5_name_127 : zj cX5_name 127 (.goto 4) 4 130 131 := by decide +kernel
theorem d5_name_130 : zd cX5_name 130 (.iconst 0) 1 131 := by decide +kernel
theorem d5_name_131 : zd cX5_name 131 (.iastore) 1 132 := by decide +kernel
theorem d5_name_132 : zd cX5_name 132 (.iinc 2 1) 3 135 := by decide +kernel
theorem d5_name_135 : zj cX5_name 135 (.goto (-40)) (-40) 138 95 := by decide +kernel
theorem d5_name_138 : zd cX5_name 138 (.aload_n 0) 1 139 := by decide +kernel
theorem d5_name_139 : zd cX5_name 139 (.aload_n 0) 1 140 := by decide +kernel
theorem d5_name_140 : zd cX5_name 140 (.getfield 60) 3 143 := by decide +kernel
theorem d5_name_143 : zd cX5_name 143 (.putfield 152) 3 146 := by decide +kernel
theorem d5_name_146 : zd cX5_name 146 (.aload_n 0) 1 147 := by decide +kernel
theorem d5_name_147 : zd cX5_name 147 (.iload_n 1) 1 148 := by decide +kernel
theorem d5_name_148 : zd cX5_name 148 (.invokevirtual 188) 3 151 := by decide +kernel
theorem d5_name_151 : zd cX5_name 151 (.iconst 1) 1 152 := by decide +kernel
theorem d5_name_152 : zd cX5_name 152 (.ireturn) 1 153 := by decide +kernel
set_option maxHeartbeats 4000000 in
set_option maxRecDepth 20000 in
theorem c5_name (l : Launch) (D : zDt) (Sh : zSh) (top : Nat) (hO : zOK Sh) (o_ : Nat) (μ : zM) (r_ : Bool) (μ_ : zM) (ho : (Sh o_).1 = 12) (h : f5_name o_ μ = some (r_, μ_)) : zMet l D zK1 yX5_name cX5_name 3 (some .boolean) (zrm 8 194) [.ref o_] Sh top μ (some (.int (bI r_))) Sh top μ_ 0 0 := by
  refine zMet_of (by decide) (Nat.le_of_ble_eq_true rfl) fun X hX1 hX2 fx fin => ?_
  subst hX1; subst hX2
  replace fx : zFix X cX5_name RX5 (zrm 8 194) 3 := fx
  show zZ zK1 X (zT0 Sh top) μ 0 [(0, .ref o_)] []
  unfold f5_name at h
  refine z_aload_n fx (k := 0) (i := 0) rfl rfl d5_name_0 ?_
  obtain ⟨μ1, e1, h⟩ := zinv h
  refine z_cVv fx (c5_skipBlanks (zLo X) (zDo X) Sh top hO o_ μ _ ho e1) mv5_skipBlanks ml5_68 ho rfl rfl rfl rfl d5_name_1 ?_
  refine z_aload_n fx (k := 0) (i := 0) rfl rfl d5_name_4 ?_
  obtain ⟨t2, e2, h⟩ := zinv h
  refine z_cVr fx (c5_wordEnd (zLo X) (zDo X) Sh top hO o_ μ1 _ ho e2) mv5_wordEnd ml5_178 ho rfl rfl rfl rfl d5_name_5 ?_
  refine z_aload_n fx (k := 0) (i := 0) rfl rfl d5_name_8 ?_
  refine z_getI fx 5 3 503 ho lf5_60 ⟨fk5_3, rfl⟩ d5_name_9 ?_
  refine z_isub fx d5_name_12 ?_
  obtain ⟨v_size_3, e3, h⟩ := zinv h
  replace e3 := Option.some.inj e3
  refine z_top (congrArg Value.int e3) ?_
  refine z_istore_n fx (k := 1) (i := 1) rfl rfl (lv' := [(0, .ref o_), (1, .int v_size_3)]) rfl rfl d5_name_13 ?_
  have kt4 : ((ceq v_size_3 0) || (ceq (gF μ1 503 o_) (gF μ1 504 o_))) = true → zZ zK1 X (zT0 Sh top) μ1 29 [(0, .ref o_), (1, .int v_size_3)] [] := by
    intro hc
    replace h := zif_t hc h
    refine z_aload_n fx (k := 0) (i := 0) rfl rfl d5_name_29 ?_
    refine z_iconst fx (v := 1) ic1 d5_name_30 ?_
    refine z_aload_n fx (k := 0) (i := 0) rfl rfl d5_name_31 ?_
    refine z_getI fx 5 3 503 ho lf5_60 ⟨fk5_3, rfl⟩ d5_name_32 ?_
    obtain ⟨t4, μ5, e5, h⟩ := zinv2 h
    refine z_cVr fx (c5_fails (zLo X) (zDo X) Sh top hO o_ 1 (gF μ1 503 o_) μ1 _ _ ho e5) mv5_fails ml5_92 ho rfl rfl rfl rfl d5_name_35 ?_
    cases h
    exact z_zreturn fx fin d5_name_38
  have kf4 : ((ceq v_size_3 0) || (ceq (gF μ1 503 o_) (gF μ1 504 o_))) = false → zZ zK1 X (zT0 Sh top) μ1 39 [(0, .ref o_), (1, .int v_size_3)] [] := by
    intro hc
    replace h := zif_f hc h
    refine z_iconst fx (v := 0) ic0 d5_name_39 ?_
    refine z_istore_n fx (k := 2) (i := 2) rfl rfl (lv' := [(0, .ref o_), (1, .int v_size_3), (2, .int 0)]) rfl rfl d5_name_40 ?_
    obtain ⟨r8, e34, h⟩ := zinv h
    have kx9 : ∀ (v_k_8 : Int32) (μ9 : zM), r8 = .inr (v_k_8, μ9) → zZ zK1 X (zT0 Sh top) μ9 74 [(0, .ref o_), (1, .int v_size_3), (2, .int v_k_8)] [] := by
      intro v_k_8 μ9 hr
      subst hr
      replace h := zel2 h
      refine z_take 2 (lv' := [(0, .ref o_), (1, .int v_size_3)]) rfl ?_
      refine z_iload_n fx (k := 1) (i := 1) rfl rfl d5_name_74 ?_
      refine z_bipush fx (v := 6) bp6 d5_name_75 ?_
      refine z_icmp_le fx d5_name_77 (fun c17 => ?_) (fun c17 => ?_)
      · replace h := zif_f c17 h
        refine z_iconst fx (v := 0) ic0 d5_name_93 ?_
        refine z_istore_n fx (k := 2) (i := 2) rfl rfl (lv' := [(0, .ref o_), (1, .int v_size_3), (2, .int 0)]) rfl rfl d5_name_94 ?_
        obtain ⟨v_k_17, μ18, e32, h⟩ := zinv2 h
        have kx21 : zZ zK1 X (zT0 Sh top) μ18 138 [(0, .ref o_), (1, .int v_size_3), (2, .int v_k_17)] [] := by
          refine z_take 2 (lv' := [(0, .ref o_), (1, .int v_size_3)]) rfl ?_
          refine z_aload_n fx (k := 0) (i := 0) rfl rfl d5_name_138 ?_
          refine z_aload_n fx (k := 0) (i := 0) rfl rfl d5_name_139 ?_
          refine z_getI fx 5 3 503 ho lf5_60 ⟨fk5_3, rfl⟩ d5_name_140 ?_
          obtain ⟨μ23, e30, h⟩ := zinv h
          refine z_putI fx (ci := 5) 6 ho lf5_152 fp5_6 e30 d5_name_143 ?_
          refine z_aload_n fx (k := 0) (i := 0) rfl rfl d5_name_146 ?_
          refine z_iload_n fx (k := 1) (i := 1) rfl rfl d5_name_147 ?_
          obtain ⟨μ24, e31, h⟩ := zinv h
          refine z_cVv fx (c5_pass (zLo X) (zDo X) Sh top hO o_ v_size_3 μ23 _ ho e31) mv5_pass ml5_188 ho rfl rfl rfl rfl d5_name_148 ?_
          refine z_iconst fx (v := 1) ic1 d5_name_151 ?_
          refine z_top (show Value.int 1 = .int (bI true) from rfl) ?_
          cases h
          exact z_zreturn fx fin d5_name_152
        clear h
        have klr20 : ∀ (n : Nat) (v_k_15 : Int32) (μ16 : zM), zloop (fun s => f5_name_L2 o_ v_size_3 s.1 s.2) n (v_k_15, μ16) = some (v_k_17, μ18) → zZ zK1 X (zT0 Sh top) μ16 95 [(0, .ref o_), (1, .int v_size_3), (2, .int v_k_15)] [] := by
          intro n
          induction n with
          | zero => intro v_k_15 μ16 hl19; cases hl19
          | succ n ih22 =>
            intro v_k_15 μ16 hl19
            obtain ⟨y, e18, hl19⟩ := zloop_inv hl19
            replace e18 : f5_name_L2 o_ v_size_3 v_k_15 μ16 = some y := e18
            unfold f5_name_L2 at e18
            refine z_iload_n fx (k := 2) (i := 2) rfl rfl d5_name_95 ?_
            refine z_bipush fx (v := 6) bp6 d5_name_96 ?_
            refine z_icmp_ge fx d5_name_98 (fun c23 => ?_) (fun c23 => ?_)
            · replace e18 := zif_f c23 e18
              cases e18
              cases hl19
              exact kx21
            · replace e18 := zif_t c23 e18
              refine z_aload_n fx (k := 0) (i := 0) rfl rfl d5_name_101 ?_
              refine z_getO fx 5 0 1 ho lf5_9 fk5_0 d5_name_102 ?_
              refine z_iload_n fx (k := 2) (i := 2) rfl rfl d5_name_105 ?_
              obtain ⟨x19, e24, e18⟩ := zinv e18
              have k25 : zZ zK1 X (zT0 Sh top) μ16 131 [(0, .ref o_), (1, .int v_size_3), (2, .int v_k_15)] [.int x19, .int v_k_15, .ref (o_ + 1)] := by
                obtain ⟨μ21, e28, e18⟩ := zinv e18
                refine z_iast fx (ok5_0 hO ho) e28 d5_name_131 ?_
                obtain ⟨v_k_22, e29, e18⟩ := zinv e18
                replace e29 := Option.some.inj e29
                refine z_iinc fx (i := 2) (x := v_k_15) (v := v_k_22) rfl (by rw [in1]; exact e29) rfl (lv' := [(0, .ref o_), (1, .int v_size_3), (2, .int v_k_22)]) rfl rfl d5_name_132 ?_
                cases e18
                refine z_goto fx d5_name_135 ?_
                exact ih22 _ _ hl19
              refine z_iload_n fx (k := 2) (i := 2) rfl rfl d5_name_106 ?_
              refine z_iload_n fx (k := 1) (i := 1) rfl rfl d5_name_107 ?_
              refine z_icmp_ge fx d5_name_108 (fun c26 => ?_) (fun c26 => ?_)
              · replace e24 := zif_f c26 e24
                refine z_iconst fx (v := 0) ic0 d5_name_130 ?_
                cases e24
                exact k25
              · replace e24 := zif_t c26 e24
                refine z_aload_n fx (k := 0) (i := 0) rfl rfl d5_name_111 ?_
                refine z_getM fx 5 1 48 ho lf5_15 fk5_1 d5_name_112 ?_
                refine z_aload_n fx (k := 0) (i := 0) rfl rfl d5_name_115 ?_
                refine z_getI fx 5 3 503 ho lf5_60 ⟨fk5_3, rfl⟩ d5_name_116 ?_
                refine z_iload_n fx (k := 2) (i := 2) rfl rfl d5_name_119 ?_
                refine z_iadd fx d5_name_120 ?_
                obtain ⟨t20, e27, e24⟩ := zinv e24
                refine z_iald fx (ok5_1 hO ho) e27 d5_name_121 ?_
                refine z_bipush fx (v := 97) bp97 d5_name_122 ?_
                refine z_isub fx d5_name_124 ?_
                refine z_iconst fx (v := 1) ic1 d5_name_125 ?_
                refine z_iadd fx d5_name_126 ?_
                cases e24
                refine z_goto fx d5_name_127 ?_
                exact k25
        exact klr20 _ _ _ e32
      · replace h := zif_t c17 h
        refine z_aload_n fx (k := 0) (i := 0) rfl rfl d5_name_80 ?_
        refine z_iconst fx (v := 1) ic1 d5_name_81 ?_
        refine z_aload_n fx (k := 0) (i := 0) rfl rfl d5_name_82 ?_
        refine z_getI fx 5 3 503 ho lf5_60 ⟨fk5_3, rfl⟩ d5_name_83 ?_
        refine z_bipush fx (v := 6) bp6 d5_name_86 ?_
        refine z_iadd fx d5_name_88 ?_
        obtain ⟨t25, μ26, e33, h⟩ := zinv2 h
        refine z_cVr fx (c5_fails (zLo X) (zDo X) Sh top hO o_ 1 ((gF μ9 503 o_) + 6) μ9 _ _ ho e33) mv5_fails ml5_92 ho rfl rfl rfl rfl d5_name_89 ?_
        cases h
        exact z_zreturn fx fin d5_name_92
    have klr8 : ∀ (n : Nat) (v_k_6 : Int32) (μ7 : zM), zloop (fun s => f5_name_L1 o_ s.1 s.2) n (v_k_6, μ7) = some r8 → zZ zK1 X (zT0 Sh top) μ7 41 [(0, .ref o_), (1, .int v_size_3), (2, .int v_k_6)] [] := by
      intro n
      induction n with
      | zero => intro v_k_6 μ7 hl7; cases hl7
      | succ n ih10 =>
        intro v_k_6 μ7 hl7
        obtain ⟨y, e6, hl7⟩ := zloop_inv hl7
        replace e6 : f5_name_L1 o_ v_k_6 μ7 = some y := e6
        unfold f5_name_L1 at e6
        refine z_iload_n fx (k := 2) (i := 2) rfl rfl d5_name_41 ?_
        refine z_bipush fx (v := 13) bp13 d5_name_42 ?_
        refine z_icmp_ge fx d5_name_44 (fun c11 => ?_) (fun c11 => ?_)
        · replace e6 := zif_f c11 e6
          cases e6
          exact kx9 _ _ (Eq.symm hl7)
        · replace e6 := zif_t c11 e6
          refine z_aload_n fx (k := 0) (i := 0) rfl rfl d5_name_47 ?_
          refine z_iload_n fx (k := 2) (i := 2) rfl rfl d5_name_48 ?_
          obtain ⟨t10, e12, e6⟩ := zinv e6
          refine z_cSr fx (c5_ownWord (zLo X) (zDo X) Sh top hO v_k_6 μ7 _  e12) ms5_ownWord ml5_181 rfl rfl rfl rfl d5_name_49 ?_
          obtain ⟨t11, e13, e6⟩ := zinv e6
          refine z_cVr fx (c5_isWord (zLo X) (zDo X) Sh top hO o_ t10 μ7 _ ho (hs_ownWord e12) e13) mv5_isWord ml5_185 ho rfl rfl rfl rfl d5_name_52 ?_
          refine z_ifb_eq fx d5_name_55 (fun c14 => ?_) (fun c14 => ?_)
          · replace e6 := zif_f c14 e6
            obtain ⟨v_k_12, e15, e6⟩ := zinv e6
            replace e15 := Option.some.inj e15
            refine z_iinc fx (i := 2) (x := v_k_6) (v := v_k_12) rfl (by rw [in1]; exact e15) rfl (lv' := [(0, .ref o_), (1, .int v_size_3), (2, .int v_k_12)]) rfl rfl d5_name_68 ?_
            cases e6
            refine z_goto fx d5_name_71 ?_
            exact ih10 _ _ hl7
          · replace e6 := zif_t c14 e6
            refine z_aload_n fx (k := 0) (i := 0) rfl rfl d5_name_58 ?_
            refine z_iconst fx (v := 1) ic1 d5_name_59 ?_
            refine z_aload_n fx (k := 0) (i := 0) rfl rfl d5_name_60 ?_
            refine z_getI fx 5 3 503 ho lf5_60 ⟨fk5_3, rfl⟩ d5_name_61 ?_
            obtain ⟨t13, μ14, e16, e6⟩ := zinv2 e6
            refine z_cVr fx (c5_fails (zLo X) (zDo X) Sh top hO o_ 1 (gF μ7 503 o_) μ7 _ _ ho e16) mv5_fails ml5_92 ho rfl rfl rfl rfl d5_name_64 ?_
            cases e6
            cases hl7
            cases h
            exact z_zreturn fx fin d5_name_67
    exact klr8 _ _ _ e34
  clear h
  refine z_iload_n fx (k := 1) (i := 1) rfl rfl d5_name_14 ?_
  refine z_if_eq fx d5_name_15 (fun c35 => ?_) (fun c35 => ?_)
  · exact kt4 (by simp [c35])
  · refine z_aload_n fx (k := 0) (i := 0) rfl rfl d5_name_18 ?_
    refine z_getI fx 5 3 503 ho lf5_60 ⟨fk5_3, rfl⟩ d5_name_19 ?_
    refine z_aload_n fx (k := 0) (i := 0) rfl rfl d5_name_22 ?_
    refine z_getI fx 5 4 504 ho lf5_62 ⟨fk5_4, rfl⟩ d5_name_23 ?_
    refine z_icmp_ne fx d5_name_26 (fun c36 => ?_) (fun c36 => ?_)
    · exact kf4 (by simp [c35, c36])
    · exact kt4 (by simp [c35, c36])
theorem d5_named_0 : zd cX5_named 0 (.iconst 0) 1 1 := by decide +kernel
theorem d5_named_1 : zd cX5_named 1 (.istore_n 3) 1 2 := by decide +kernel
theorem d5_named_2 : zd cX5_named 2 (.iload_n 3) 1 3 := by decide +kernel
theorem d5_named_3 : zd cX5_named 3 (.iload_n 2) 1 4 := by decide +kernel
theorem d5_named_4 : zj cX5_named 4 (.if_icmp .ge 53) 53 7 57 := by decide +kernel
theorem d5_named_7 : zd cX5_named 7 (.iconst 0) 1 8 := by decide +kernel
theorem d5_named_8 : zd cX5_named 8 (.istore 4) 2 10 := by decide +kernel
theorem d5_named_10 : zd cX5_named 10 (.iload 4) 2 12 := by decide +kernel
theorem d5_named_12 : zd cX5_named 12 (.bipush 6) 2 14 := by decide +kernel
theorem d5_named_14 : zj cX5_named 14 (.if_icmp .ge 28) 28 17 42 := by decide +kernel
theorem d5_named_17 : zd cX5_named 17 (.aload_n 1) 1 18 := by decide +kernel
theorem d5_named_18 : zd cX5_named 18 (.iload_n 3) 1 19 := by decide +kernel
theorem d5_named_19 : zd cX5_named 19 (.bipush 6) 2 21 := by decide +kernel
theorem d5_named_21 : zd cX5_named 21 (.imul) 1 22 := by decide +kernel
theorem d5_named_22 : zd cX5_named 22 (.iload 4) 2 24 := by decide +kernel
theorem d5_named_24 : zd cX5_named 24 (.iadd) 1 25 := by decide +kernel
theorem d5_named_25 : zd cX5_named 25 (.iaload) 1 26 := by decide +kernel
theorem d5_named_26 : zd cX5_named 26 (.aload_n 0) 1 27 := by decide +kernel
theorem d5_named_27 : zd cX5_named 27 (.getfield 9) 3 30 := by decide +kernel
theorem d5_named_30 : zd cX5_named 30 (.iload 4) 2 32 := by decide +kernel
theorem d5_named_32 : zd cX5_named 32 (.iaload) 1 33 := by decide +kernel
theorem d5_named_33 : zj cX5_named 33 (.if_icmp .ne 9) 9 36 42 := by decide +kernel
theorem d5_named_36 : zd cX5_named 36 (.iinc 4 1) 3 39 := by decide +kernel
theorem d5_named_39 : zj cX5_named 39 (.goto (-29)) (-29) 42 10 := by decide +kernel
theorem d5_named_42 : zd cX5_named 42 (.iload 4) 2 44 := by decide +kernel
theorem d5_named_44 : zd cX5_named 44 (.bipush 6) 2 46 := by decide +kernel
theorem d5_named_46 : zj cX5_named 46 (.if_icmp .ne 5) 5 49 51 := by decide +kernel
theorem d5_named_49 : zd cX5_named 49 (.iload_n 3) 1 50 := by decide +kernel
theorem d5_named_50 : zd cX5_named 50 (.ireturn) 1 51 := by decide +kernel
theorem d5_named_51 : zd cX5_named 51 (.iinc 3 1) 3 54 := by decide +kernel
theorem d5_named_54 : zj cX5_named 54 (.goto (-52)) (-52) 57 2 := by decide +kernel
theorem d5_named_57 : zd cX5_named 57 (.iconst (-1)) 1 58 := by decide +kernel
theorem d5_named_58 : zd cX5_named 58 (.ireturn) 1 59 := by decide +kernel
set_option maxHeartbeats 4000000 in
set_option maxRecDepth 20000 in
theorem c5_named (l : Launch) (D : zDt) (Sh : zSh) (top : Nat) (hO : zOK Sh) (o_ : Nat) (v_names : Nat) (v_names_n : Nat) (v_count : Int32) (μ : zM) (r_ : Int32) (ho : (Sh o_).1 = 12) (h_names : Sh v_names = (1, v_names_n)) (h : f5_named o_ v_names v_names_n v_count μ = some r_) : zMet l D zK1 yX5_named cX5_named 5 (some .int) (zrm 0 0) [.ref o_, .ref v_names, .int v_count] Sh top μ (some (.int r_)) Sh top μ 0 0 := by
  refine zMet_of (by decide) (Nat.le_of_ble_eq_true rfl) fun X hX1 hX2 fx fin => ?_
  subst hX1; subst hX2
  replace fx : zFix X cX5_named RX5 (zrm 0 0) 5 := fx
  show zZ zK1 X (zT0 Sh top) μ 0 [(0, .ref o_), (1, .ref v_names), (2, .int v_count)] []
  unfold f5_named at h
  refine z_iconst fx (v := 0) ic0 d5_named_0 ?_
  refine z_istore_n fx (k := 3) (i := 3) rfl rfl (lv' := [(0, .ref o_), (1, .ref v_names), (2, .int v_count), (3, .int 0)]) rfl rfl d5_named_1 ?_
  obtain ⟨r3, e22, h⟩ := zinv h
  have kx4 : ∀ (v_which_2 : Int32), r3 = .inr v_which_2 → zZ zK1 X (zT0 Sh top) μ 57 [(0, .ref o_), (1, .ref v_names), (2, .int v_count), (3, .int v_which_2)] [] := by
    intro v_which_2 hr
    subst hr
    replace h := zel1 h
    refine z_take 3 (lv' := [(0, .ref o_), (1, .ref v_names), (2, .int v_count)]) rfl ?_
    refine z_iconst fx (v := (-1)) icm1 d5_named_57 ?_
    cases h
    exact z_ireturn fx fin d5_named_58
  have klr3 : ∀ (n : Nat) (v_which_1 : Int32), zloop (fun s => f5_named_L1 o_ v_names v_names_n v_count μ s) n v_which_1 = some r3 → zZ zK1 X (zT0 Sh top) μ 2 [(0, .ref o_), (1, .ref v_names), (2, .int v_count), (3, .int v_which_1)] [] := by
    intro n
    induction n with
    | zero => intro v_which_1 hl2; cases hl2
    | succ n ih5 =>
      intro v_which_1 hl2
      obtain ⟨y, e1, hl2⟩ := zloop_inv hl2
      replace e1 : f5_named_L1 o_ v_names v_names_n v_count μ v_which_1 = some y := e1
      unfold f5_named_L1 at e1
      refine z_iload_n fx (k := 3) (i := 3) rfl rfl d5_named_2 ?_
      refine z_iload_n fx (k := 2) (i := 2) rfl rfl d5_named_3 ?_
      refine z_icmp_ge fx d5_named_4 (fun c6 => ?_) (fun c6 => ?_)
      · replace e1 := zif_f c6 e1
        cases e1
        exact kx4 _ (Eq.symm hl2)
      · replace e1 := zif_t c6 e1
        refine z_iconst fx (v := 0) ic0 d5_named_7 ?_
        refine z_istore fx (i := 4) rfl (lv' := [(0, .ref o_), (1, .ref v_names), (2, .int v_count), (3, .int v_which_1), (4, .int 0)]) rfl rfl d5_named_8 ?_
        obtain ⟨v_alike_4, e21, e1⟩ := zinv e1
        have kx10 : zZ zK1 X (zT0 Sh top) μ 42 [(0, .ref o_), (1, .ref v_names), (2, .int v_count), (3, .int v_which_1), (4, .int v_alike_4)] [] := by
          refine z_iload fx (i := 4) rfl d5_named_42 ?_
          refine z_bipush fx (v := 6) bp6 d5_named_44 ?_
          refine z_icmp_ne fx d5_named_46 (fun c19 => ?_) (fun c19 => ?_)
          · replace e1 := zif_f c19 e1
            refine z_take 4 (lv' := [(0, .ref o_), (1, .ref v_names), (2, .int v_count), (3, .int v_which_1)]) rfl ?_
            obtain ⟨v_which_9, e20, e1⟩ := zinv e1
            replace e20 := Option.some.inj e20
            refine z_iinc fx (i := 3) (x := v_which_1) (v := v_which_9) rfl (by rw [in1]; exact e20) rfl (lv' := [(0, .ref o_), (1, .ref v_names), (2, .int v_count), (3, .int v_which_9)]) rfl rfl d5_named_51 ?_
            cases e1
            refine z_goto fx d5_named_54 ?_
            exact ih5 _ hl2
          · replace e1 := zif_t c19 e1
            refine z_iload_n fx (k := 3) (i := 3) rfl rfl d5_named_49 ?_
            cases e1
            cases hl2
            cases h
            exact z_ireturn fx fin d5_named_50
        clear e1
        have klr9 : ∀ (n : Nat) (v_alike_3 : Int32), zloop (fun s => f5_named_L2 o_ v_names v_names_n μ v_which_1 s) n v_alike_3 = some v_alike_4 → zZ zK1 X (zT0 Sh top) μ 10 [(0, .ref o_), (1, .ref v_names), (2, .int v_count), (3, .int v_which_1), (4, .int v_alike_3)] [] := by
          intro n
          induction n with
          | zero => intro v_alike_3 hl8; cases hl8
          | succ n ih11 =>
            intro v_alike_3 hl8
            obtain ⟨y, e7, hl8⟩ := zloop_inv hl8
            replace e7 : f5_named_L2 o_ v_names v_names_n μ v_which_1 v_alike_3 = some y := e7
            unfold f5_named_L2 at e7
            obtain ⟨b5, e13, e7⟩ := zinv e7
            have kt12 : b5 = true → zZ zK1 X (zT0 Sh top) μ 36 [(0, .ref o_), (1, .ref v_names), (2, .int v_count), (3, .int v_which_1), (4, .int v_alike_3)] [] := by
              intro hc
              replace e7 := zif_t hc e7
              obtain ⟨v_alike_6, e14, e7⟩ := zinv e7
              replace e14 := Option.some.inj e14
              refine z_iinc fx (i := 4) (x := v_alike_3) (v := v_alike_6) rfl (by rw [in1]; exact e14) rfl (lv' := [(0, .ref o_), (1, .ref v_names), (2, .int v_count), (3, .int v_which_1), (4, .int v_alike_6)]) rfl rfl d5_named_36 ?_
              cases e7
              refine z_goto fx d5_named_39 ?_
              exact ih11 _ hl8
            have kf12 : b5 = false → zZ zK1 X (zT0 Sh top) μ 42 [(0, .ref o_), (1, .ref v_names), (2, .int v_count), (3, .int v_which_1), (4, .int v_alike_3)] [] := by
              intro hc
              replace e7 := zif_f hc e7
              cases e7
              cases hl8
              exact kx10
            clear e7
            refine z_iload fx (i := 4) rfl d5_named_10 ?_
            refine z_bipush fx (v := 6) bp6 d5_named_12 ?_
            refine z_icmp_ge fx d5_named_14 (fun c15 => ?_) (fun c15 => ?_)
            · replace e13 := zif_f c15 e13
              cases e13
              exact kf12 rfl
            · replace e13 := zif_t c15 e13
              refine z_aload_n fx (k := 1) (i := 1) rfl rfl d5_named_17 ?_
              refine z_iload_n fx (k := 3) (i := 3) rfl rfl d5_named_18 ?_
              refine z_bipush fx (v := 6) bp6 d5_named_19 ?_
              refine z_imul fx d5_named_21 ?_
              refine z_iload fx (i := 4) rfl d5_named_22 ?_
              refine z_iadd fx d5_named_24 ?_
              obtain ⟨t7, e16, e13⟩ := zinv e13
              refine z_iald fx h_names e16 d5_named_25 ?_
              refine z_aload_n fx (k := 0) (i := 0) rfl rfl d5_named_26 ?_
              refine z_getO fx 5 0 1 ho lf5_9 fk5_0 d5_named_27 ?_
              refine z_iload fx (i := 4) rfl d5_named_30 ?_
              obtain ⟨t8, e17, e13⟩ := zinv e13
              refine z_iald fx (ok5_0 hO ho) e17 d5_named_32 ?_
              cases e13
              refine z_icmp_ne fx d5_named_33 (fun c18 => ?_) (fun c18 => ?_)
              · exact kf12 c18
              · exact kt12 c18
        exact klr9 _ _ e21
  exact klr3 _ _ e22
theorem d5_newName_0 : zd cX5_newName 0 (.aload_n 0) 1 1 := by decide +kernel
theorem d5_newName_1 : zd cX5_newName 1 (.invokevirtual 171) 3 4 := by decide +kernel
theorem d5_newName_4 : zj cX5_newName 4 (.ifCond .ne 5) 5 7 9 := by decide +kernel
theorem d5_newName_7 : zd cX5_newName 7 (.iconst 0) 1 8 := by decide +kernel
theorem d5_newName_8 : zd cX5_newName 8 (.ireturn) 1 9 := by decide +kernel
theorem d5_newName_9 : zd cX5_newName 9 (.aload_n 0) 1 10 := by decide +kernel
theorem d5_newName_10 : zd cX5_newName 10 (.aload_n 0) 1 11 := by decide +kernel
theorem d5_newName_11 : zd cX5_newName 11 (.getfield 18) 3 14 := by decide +kernel
theorem d5_newName_14 : zd cX5_newName 14 (.getfield 118) 3 17 := by decide +kernel
theorem d5_newName_17 : zd cX5_newName 17 (.aload_n 0) 1 18 := by decide +kernel
theorem d5_newName_18 : zd cX5_newName 18 (.getfield 18) 3 21 := by decide +kernel
theorem d5_newName_21 : zd cX5_newName 21 (.getfield 112) 3 24 := by decide +kernel
theorem d5_newName_24 : zd cX5_newName 24 (.invokevirtual 174) 3 27 := by decide +kernel
theorem d5_newName_27 : zd cX5_newName 27 (.iconst (-1)) 1 28 := by decide +kernel
theorem d5_newName_28 : zj cX5_newName 28 (.if_icmp .ne 25) 25 31 53 := by decide +kernel
theorem d5_newName_31 : zd cX5_newName 31 (.aload_n 0) 1 32 := by decide +kernel
theorem d5_newName_32 : zd cX5_newName 32 (.aload_n 0) 1 33 := by decide +kernel
theorem d5_newName_33 : zd cX5_newName 33 (.getfield 18) 3 36 := by decide +kernel
theorem d5_newName_36 : zd cX5_newName 36 (.getfield 165) 3 39 := by decide +kernel
theorem d5_newName_39 : zd cX5_newName 39 (.aload_n 0) 1 40 := by decide +kernel
theorem d5_newName_40 : zd cX5_newName 40 (.getfield 18) 3 43 := by decide +kernel
theorem d5_newName_43 : zd cX5_newName 43 (.getfield 162) 3 46 := by decide +kernel
theorem d5_newName_46 : zd cX5_newName 46 (.invokevirtual 174) 3 49 := by decide +kernel
theorem d5_newName_49 : zd cX5_newName 49 (.iconst (-1)) 1 50 := by decide +kernel
theorem d5_newName_50 : zj cX5_newName 50 (.if_icmp .eq 7) 7 53 57 := by decide +kernel
theorem d5_newName_53 : zd cX5_newName 53 (.iconst 1) 1 54 := by decide +kernel
theorem d5_newName_54 : zj cX5_newName 54 (.goto 4) 4 57 58 := by decide +kernel
theorem d5_newName_57 : zd cX5_newName 57 (.iconst 0) 1 58 := by decide +kernel
theorem d5_newName_58 : zd cX5_newName 58 (.istore_n 1) 1 59 := by decide +kernel
theorem d5_newName_59 : zd cX5_newName 59 (.iload_n 1) 1 60 := by decide +kernel
theorem d5_newName_60 : zj cX5_newName 60 (.ifCond .eq 15) 15 63 75 := by decide +kernel
theorem d5_newName_63 : zd cX5_newName 63 (.aload_n 0) 1 64 := by decide +kernel
theorem d5_newName_64 : zd cX5_newName 64 (.iconst 3) 1 65 := by decide +kernel
theorem d5_newName_65 : zd cX5_newName 65 (.aload_n 0) 1 66 := by decide +kernel
theorem d5_newName_66 : zd cX5_newName 66 (.getfield 152) 3 69 := by decide +kernel
theorem d5_newName_69 : zd cX5_newName 69 (.invokevirtual 92) 3 72 := by decide +kernel
theorem d5_newName_72 : zj cX5_newName 72 (.ifCond .eq 7) 7 75 79 := by decide +kernel
theorem d5_newName_75 : zd cX5_newName 75 (.iconst 1) 1 76 := by decide +kernel
theorem d5_newName_76 : zj cX5_newName 76 (.goto 4) 4 79 80 := by decide +kernel
theorem d5_newName_79 : zd cX5_newName 79 (.iconst 0) 1 80 := by decide +kernel
theorem d5_newName_80 : zd cX5_newName 80 (.ireturn) 1 81 := by decide +kernel
set_option maxHeartbeats 4000000 in
set_option maxRecDepth 20000 in
theorem c5_newName (l : Launch) (D : zDt) (Sh : zSh) (top : Nat) (hO : zOK Sh) (o_ : Nat) (μ : zM) (r_ : Bool) (μ_ : zM) (ho : (Sh o_).1 = 12) (h : f5_newName o_ μ = some (r_, μ_)) : zMet l D zK1 yX5_newName cX5_newName 2 (some .boolean) (zrm 9 216) [.ref o_] Sh top μ (some (.int (bI r_))) Sh top μ_ 0 0 := by
  refine zMet_of (by decide) (Nat.le_of_ble_eq_true rfl) fun X hX1 hX2 fx fin => ?_
  subst hX1; subst hX2
  replace fx : zFix X cX5_newName RX5 (zrm 9 216) 2 := fx
  show zZ zK1 X (zT0 Sh top) μ 0 [(0, .ref o_)] []
  unfold f5_newName at h
  refine z_aload_n fx (k := 0) (i := 0) rfl rfl d5_newName_0 ?_
  obtain ⟨t1, μ2, e1, h⟩ := zinv2 h
  refine z_cVr fx (c5_name (zLo X) (zDo X) Sh top hO o_ μ _ _ ho e1) mv5_name ml5_171 ho rfl rfl rfl rfl d5_newName_1 ?_
  refine z_ifb_ne fx d5_newName_4 (fun c2 => ?_) (fun c2 => ?_)
  · replace h := zif_t c2 h
    obtain ⟨b3, e3, h⟩ := zinv h
    have k4 : zZ zK1 X (zT0 Sh top) μ2 58 [(0, .ref o_)] [.int (bI b3)] := by
      refine z_istore_n fx (k := 1) (i := 1) rfl rfl (lv' := [(0, .ref o_), (1, .int (bI b3))]) rfl rfl d5_newName_58 ?_
      obtain ⟨b11, μ12, e16, h⟩ := zinv2 h
      have k17 : zZ zK1 X (zT0 Sh top) μ12 80 [(0, .ref o_), (1, .int (bI b3))] [.int (bI b11)] := by
        cases h
        exact z_zreturn fx fin d5_newName_80
      have kt18 : b11 = true → zZ zK1 X (zT0 Sh top) μ12 75 [(0, .ref o_), (1, .int (bI b3))] [] := by
        intro hc
        refine z_iconst fx (v := 1) ic1 d5_newName_75 ?_
        refine z_goto fx d5_newName_76 ?_
        exact z_top (congrArg Value.int (show 1 = bI b11 by rw [hc]; rfl)) k17
      have kf18 : b11 = false → zZ zK1 X (zT0 Sh top) μ12 79 [(0, .ref o_), (1, .int (bI b3))] [] := by
        intro hc
        refine z_iconst fx (v := 0) ic0 d5_newName_79 ?_
        exact z_top (congrArg Value.int (show 0 = bI b11 by rw [hc]; rfl)) k17
      refine z_iload_n fx (k := 1) (i := 1) rfl rfl d5_newName_59 ?_
      refine z_ifb_eq fx d5_newName_60 (fun c19 => ?_) (fun c19 => ?_)
      · replace e16 := zif_f c19 e16
        cases e16
        exact kt18 rfl
      · replace e16 := zif_t c19 e16
        refine z_aload_n fx (k := 0) (i := 0) rfl rfl d5_newName_63 ?_
        refine z_iconst fx (v := 3) ic3 d5_newName_64 ?_
        refine z_aload_n fx (k := 0) (i := 0) rfl rfl d5_newName_65 ?_
        refine z_getI fx 5 6 506 ho lf5_152 ⟨fk5_6, rfl⟩ d5_newName_66 ?_
        obtain ⟨t13, μ14, e20, e16⟩ := zinv2 e16
        refine z_cVr fx (c5_fails (zLo X) (zDo X) Sh top hO o_ 3 (gF μ2 506 o_) μ2 _ _ ho e20) mv5_fails ml5_92 ho rfl rfl rfl rfl d5_newName_69 ?_
        cases e16
        refine z_ifb_eq fx d5_newName_72 (fun c21 => ?_) (fun c21 => ?_)
        · exact kf18 c21
        · exact kt18 c21
    have kt5 : b3 = true → zZ zK1 X (zT0 Sh top) μ2 53 [(0, .ref o_)] [] := by
      intro hc
      refine z_iconst fx (v := 1) ic1 d5_newName_53 ?_
      refine z_goto fx d5_newName_54 ?_
      exact z_top (congrArg Value.int (show 1 = bI b3 by rw [hc]; rfl)) k4
    have kf5 : b3 = false → zZ zK1 X (zT0 Sh top) μ2 57 [(0, .ref o_)] [] := by
      intro hc
      refine z_iconst fx (v := 0) ic0 d5_newName_57 ?_
      exact z_top (congrArg Value.int (show 0 = bI b3 by rw [hc]; rfl)) k4
    obtain ⟨b4, e6, e3⟩ := zinv e3
    have kf7 : b4 = false → zZ zK1 X (zT0 Sh top) μ2 31 [(0, .ref o_)] [] := by
      intro hc
      replace e3 := zif_f hc e3
      refine z_aload_n fx (k := 0) (i := 0) rfl rfl d5_newName_31 ?_
      refine z_aload_n fx (k := 0) (i := 0) rfl rfl d5_newName_32 ?_
      obtain ⟨w5, e8, e3⟩ := zinv e3
      refine z_getR fx 5 9 509 17 ho lf5_18 ⟨fk5_9, rfl⟩ e8 d5_newName_33 (fun tw5 => ?_)
      refine z_getO fx 10 1 2 tw5 lf5_165 fk10_1 d5_newName_36 ?_
      refine z_aload_n fx (k := 0) (i := 0) rfl rfl d5_newName_39 ?_
      obtain ⟨w6, e9, e3⟩ := zinv e3
      refine z_getR fx 5 9 509 17 ho lf5_18 ⟨fk5_9, rfl⟩ e9 d5_newName_40 (fun tw6 => ?_)
      refine z_getI fx 10 17 1017 tw6 lf5_162 ⟨fk10_17, rfl⟩ d5_newName_43 ?_
      obtain ⟨t7, e10, e3⟩ := zinv e3
      refine z_cVr fx (c5_named (zLo X) (zDo X) Sh top hO o_ (w5 + 2) 48 (gF μ2 1017 w6) μ2 _ ho (ok10_1 hO tw5) e10) mv5_named ml5_174 ho rfl rfl rfl rfl d5_newName_46 ?_
      refine z_iconst fx (v := (-1)) icm1 d5_newName_49 ?_
      cases e3
      refine z_icmp_eq fx d5_newName_50 (fun c11 => ?_) (fun c11 => ?_)
      · exact kf5 (by rw [c11]; rfl)
      · exact kt5 (by rw [c11]; rfl)
    have kt7 : b4 = true → zZ zK1 X (zT0 Sh top) μ2 53 [(0, .ref o_)] [] := by
      intro hc
      replace e3 := zif_t hc e3
      cases e3
      exact kt5 rfl
    clear e3
    refine z_aload_n fx (k := 0) (i := 0) rfl rfl d5_newName_9 ?_
    refine z_aload_n fx (k := 0) (i := 0) rfl rfl d5_newName_10 ?_
    obtain ⟨w8, e12, e6⟩ := zinv e6
    refine z_getR fx 5 9 509 17 ho lf5_18 ⟨fk5_9, rfl⟩ e12 d5_newName_11 (fun tw8 => ?_)
    refine z_getO fx 10 0 1 tw8 lf5_118 fk10_0 d5_newName_14 ?_
    refine z_aload_n fx (k := 0) (i := 0) rfl rfl d5_newName_17 ?_
    obtain ⟨w9, e13, e6⟩ := zinv e6
    refine z_getR fx 5 9 509 17 ho lf5_18 ⟨fk5_9, rfl⟩ e13 d5_newName_18 (fun tw9 => ?_)
    refine z_getI fx 10 15 1015 tw9 lf5_112 ⟨fk10_15, rfl⟩ d5_newName_21 ?_
    obtain ⟨t10, e14, e6⟩ := zinv e6
    refine z_cVr fx (c5_named (zLo X) (zDo X) Sh top hO o_ (w8 + 1) 48 (gF μ2 1015 w9) μ2 _ ho (ok10_0 hO tw8) e14) mv5_named ml5_174 ho rfl rfl rfl rfl d5_newName_24 ?_
    refine z_iconst fx (v := (-1)) icm1 d5_newName_27 ?_
    cases e6
    refine z_icmp_ne fx d5_newName_28 (fun c15 => ?_) (fun c15 => ?_)
    · exact kt7 (by rw [c15]; rfl)
    · exact kf7 (by rw [c15]; rfl)
  · replace h := zif_f c2 h
    refine z_iconst fx (v := 0) ic0 d5_newName_7 ?_
    refine z_top (show Value.int 0 = .int (bI false) from rfl) ?_
    cases h
    exact z_zreturn fx fin d5_newName_8
theorem d5_bridgeStatement_0 : zd cX5_bridgeStatement 0 (.aload_n 0) 1 1 := by decide +kernel
theorem d5_bridgeStatement_1 : zd cX5_bridgeStatement 1 (.getfield 18) 3 4 := by decide +kernel
theorem d5_bridgeStatement_4 : zd cX5_bridgeStatement 4 (.getfield 112) 3 7 := by decide +kernel
theorem d5_bridgeStatement_7 : zd cX5_bridgeStatement 7 (.bipush 8) 2 9 := by decide +kernel
theorem d5_bridgeStatement_9 : zj cX5_bridgeStatement 9 (.if_icmp .ne 13) 13 12 22 := by decide +kernel
theorem d5_bridgeStatement_12 : zd cX5_bridgeStatement 12 (.aload_n 0) 1 13 := by decide +kernel
theorem d5_bridgeStatement_13 : zd cX5_bridgeStatement 13 (.iconst 5) 1 14 := by decide +kernel
theorem d5_bridgeStatement_14 : zd cX5_bridgeStatement 14 (.aload_n 0) 1 15 := by decide +kernel
theorem d5_bridgeStatement_15 : zd cX5_bridgeStatement 15 (.getfield 60) 3 18 := by decide +kernel
theorem d5_bridgeStatement_18 : zd cX5_bridgeStatement 18 (.invokevirtual 92) 3 21 := by decide +kernel
theorem d5_bridgeStatement_21 : zd cX5_bridgeStatement 21 (.ireturn) 1 22 := by decide +kernel
theorem d5_bridgeStatement_22 : zd cX5_bridgeStatement 22 (.aload_n 0) 1 23 := by decide +kernel
theorem d5_bridgeStatement_23 : zd cX5_bridgeStatement 23 (.ldc 32) 2 25 := by decide +kernel
theorem d5_bridgeStatement_25 : zd cX5_bridgeStatement 25 (.invokevirtual 99) 3 28 := by decide +kernel
theorem d5_bridgeStatement_28 : zj cX5_bridgeStatement 28 (.ifCond .eq 10) 10 31 38 := by decide +kernel
theorem d5_bridgeStatement_31 : zd cX5_bridgeStatement 31 (.aload_n 0) 1 32 := by decide +kernel
theorem d5_bridgeStatement_32 : zd cX5_bridgeStatement 32 (.invokevirtual 115) 3 35 := by decide +kernel
theorem d5_bridgeStatement_35 : zj cX5_bridgeStatement 35 (.ifCond .ne 5) 5 38 40 := by decide +kernel
theorem d5_bridgeStatement_38 : zd cX5_bridgeStatement 38 (.iconst 0) 1 39 := by decide +kernel
theorem d5_bridgeStatement_39 : zd cX5_bridgeStatement 39 (.ireturn) 1 40 := by decide +kernel
theorem d5_bridgeStatement_40 : zd cX5_bridgeStatement 40 (.aload_n 0) 1 41 := by decide +kernel
theorem d5_bridgeStatement_41 : zd cX5_bridgeStatement 41 (.getfield 18) 3 44 := by decide +kernel
theorem d5_bridgeStatement_44 : zd cX5_bridgeStatement 44 (.getfield 112) 3 47 := by decide +kernel
theorem d5_bridgeStatement_47 : zd cX5_bridgeStatement 47 (.istore_n 1) 1 48 := by decide +kernel
theorem d5_bridgeStatement_48 : zd cX5_bridgeStatement 48 (.aload_n 0) 1 49 := by decide +kernel
theorem d5_bridgeStatement_49 : zd cX5_bridgeStatement 49 (.getfield 9) 3 52 := by decide +kernel
theorem d5_bridgeStatement_52 : zd cX5_bridgeStatement 52 (.iconst 0) 1 53 := by decide +kernel
theorem d5_bridgeStatement_53 : zd cX5_bridgeStatement 53 (.aload_n 0) 1 54 := by decide +kernel
theorem d5_bridgeStatement_54 : zd cX5_bridgeStatement 54 (.getfield 18) 3 57 := by decide +kernel
theorem d5_bridgeStatement_57 : zd cX5_bridgeStatement 57 (.getfield 118) 3 60 := by decide +kernel
theorem d5_bridgeStatement_60 : zd cX5_bridgeStatement 60 (.iload_n 1) 1 61 := by decide +kernel
theorem d5_bridgeStatement_61 : zd cX5_bridgeStatement 61 (.bipush 6) 2 63 := by decide +kernel
theorem d5_bridgeStatement_63 : zd cX5_bridgeStatement 63 (.imul) 1 64 := by decide +kernel
theorem d5_bridgeStatement_64 : zd cX5_bridgeStatement 64 (.bipush 6) 2 66 := by decide +kernel
theorem d5_bridgeStatement_66 : zd cX5_bridgeStatement 66 (.invokestatic 121) 3 69 := by decide +kernel
theorem d5_bridgeStatement_69 : zd cX5_bridgeStatement 69 (.aload_n 0) 1 70 := by decide +kernel
theorem d5_bridgeStatement_70 : zd cX5_bridgeStatement 70 (.ldc 34) 2 72 := by decide +kernel
theorem d5_bridgeStatement_72 : zd cX5_bridgeStatement 72 (.invokevirtual 99) 3 75 := by decide +kernel
theorem d5_bridgeStatement_75 : zj cX5_bridgeStatement 75 (.ifCond .eq 13) 13 78 88 := by decide +kernel
theorem d5_bridgeStatement_78 : zd cX5_bridgeStatement 78 (.aload_n 0) 1 79 := by decide +kernel
theorem d5_bridgeStatement_79 : zd cX5_bridgeStatement 79 (.iconst 0) 1 80 := by decide +kernel
theorem d5_bridgeStatement_80 : zd cX5_bridgeStatement 80 (.bipush 15) 2 82 := by decide +kernel
theorem d5_bridgeStatement_82 : zd cX5_bridgeStatement 82 (.invokevirtual 102) 3 85 := by decide +kernel
theorem d5_bridgeStatement_85 : zj cX5_bridgeStatement 85 (.ifCond .ne 5) 5 88 90 := by decide +kernel
theorem d5_bridgeStatement_88 : zd cX5_bridgeStatement 88 (.iconst 0) 1 89 := by decide +kernel
theorem d5_bridgeStatement_89 : zd cX5_bridgeStatement 89 (.ireturn) 1 90 := by decide +kernel
theorem d5_bridgeStatement_90 : zd cX5_bridgeStatement 90 (.aload_n 0) 1 91 := by decide +kernel
theorem d5_bridgeStatement_91 : zd cX5_bridgeStatement 91 (.getfield 18) 3 94 := by decide +kernel
theorem d5_bridgeStatement_94 : zd cX5_bridgeStatement 94 (.getfield 127) 3 97 := by decide +kernel
theorem d5_bridgeStatement_97 : zd cX5_bridgeStatement 97 (.iload_n 1) 1 98 := by decide +kernel
theorem d5_bridgeStatement_98 : zd cX5_bridgeStatement 98 (.aload_n 0) 1 99 := by decide +kernel
theorem d5_bridgeStatement_99 : zd cX5_bridgeStatement 99 (.getfield 105) 3 102 := by decide +kernel
theorem d5_bridgeStatement_102 : zd cX5_bridgeStatement 102 (.iastore) 1 103 := by decide +kernel
theorem d5_bridgeStatement_103 : zd cX5_bridgeStatement 103 (.aload_n 0) 1 104 := by decide +kernel
theorem d5_bridgeStatement_104 : zd cX5_bridgeStatement 104 (.getfield 18) 3 107 := by decide +kernel
theorem d5_bridgeStatement_107 : zd cX5_bridgeStatement 107 (.getfield 130) 3 110 := by decide +kernel
theorem d5_bridgeStatement_110 : zd cX5_bridgeStatement 110 (.iload_n 1) 1 111 := by decide +kernel
theorem d5_bridgeStatement_111 : zd cX5_bridgeStatement 111 (.aload_n 0) 1 112 := by decide +kernel
theorem d5_bridgeStatement_112 : zd cX5_bridgeStatement 112 (.ldc 36) 2 114 := by decide +kernel
theorem d5_bridgeStatement_114 : zd cX5_bridgeStatement 114 (.invokevirtual 79) 3 117 := by decide +kernel
theorem d5_bridgeStatement_117 : zd cX5_bridgeStatement 117 (.bastore) 1 118 := by decide +kernel
theorem d5_bridgeStatement_118 : zd cX5_bridgeStatement 118 (.aload_n 0) 1 119 := by decide +kernel
theorem d5_bridgeStatement_119 : zd cX5_bridgeStatement 119 (.getfield 18) 3 122 := by decide +kernel
theorem d5_bridgeStatement_122 : zd cX5_bridgeStatement 122 (.dup) 1 123 := by decide +kernel
theorem d5_bridgeStatement_123 : zd cX5_bridgeStatement 123 (.getfield 112) 3 126 := by decide +kernel
theorem d5_bridgeStatement_126 : zd cX5_bridgeStatement 126 (.iconst 1) 1 127 := by decide +kernel
theorem d5_bridgeStatement_127 : zd cX5_bridgeStatement 127 (.iadd) 1 128 := by decide +kernel
theorem d5_bridgeStatement_128 : zd cX5_bridgeStatement 128 (.putfield 112) 3 131 := by decide +kernel
theorem d5_bridgeStatement_131 : zd cX5_bridgeStatement 131 (.aload_n 0) 1 132 := by decide +kernel
theorem d5_bridgeStatement_132 : zd cX5_bridgeStatement 132 (.getfield 18) 3 135 := by decide +kernel
theorem d5_bridgeStatement_135 : zd cX5_bridgeStatement 135 (.getfield 130) 3 138 := by decide +kernel
theorem d5_bridgeStatement_138 : zd cX5_bridgeStatement 138 (.iload_n 1) 1 139 := by decide +kernel
theorem d5_bridgeStatement_139 : zd cX5_bridgeStatement 139 (.baload) 1 140 := by decide +kernel
theorem d5_bridgeStatement_140 : zj cX5_bridgeStatement 140 (.ifCond .eq 12) 12 143 152 := by decide +kernel
theorem d5_bridgeStatement_143 : zd cX5_bridgeStatement 143 (.aload_n 0) 1 144 := by decide +kernel
theorem d5_bridgeStatement_144 : zd cX5_bridgeStatement 144 (.ldc 36) 2 146 := by decide +kernel
theorem d5_bridgeStatement_146 : zd cX5_bridgeStatement 146 (.invokevirtual 99) 3 149 := by decide +kernel
theorem d5_bridgeStatement_149 : zj cX5_bridgeStatement 149 (.ifCond .eq 7) 7 152 156 := by decide +kernel
theorem d5_bridgeStatement_152 : zd cX5_bridgeStatement 152 (.iconst 1) 1 153 := by decide +kernel
theorem d5_bridgeStatement_153 : zj cX5_bridgeStatement 153 (.goto 4) 4 156 157 := by decide +kernel
theorem d5_bridgeStatement_156 : zd cX5_bridgeStatement 156 (.iconst 0) 1 157 := by decide +kernel
theorem d5_bridgeStatement_157 : zd cX5_bridgeStatement 157 (.ireturn) 1 158 := by decide +kernel
set_option maxHeartbeats 4000000 in
set_option maxRecDepth 20000 in
theorem c5_bridgeStatement (l : Launch) (D : zDt) (Sh : zSh) (top : Nat) (hO : zOK Sh) (o_ : Nat) (μ : zM) (r_ : Bool) (μ_ : zM) (ho : (Sh o_).1 = 12) (h : f5_bridgeStatement o_ μ = some (r_, μ_)) : zMet l D zK1 yX5_bridgeStatement cX5_bridgeStatement 2 (some .boolean) (zrm 10 237) [.ref o_] Sh top μ (some (.int (bI r_))) Sh top μ_ 0 0 := by
  refine zMet_of (by decide) (Nat.le_of_ble_eq_true rfl) fun X hX1 hX2 fx fin => ?_
  subst hX1; subst hX2
  replace fx : zFix X cX5_bridgeStatement RX5 (zrm 10 237) 2 := fx
  show zZ zK1 X (zT0 Sh top) μ 0 [(0, .ref o_)] []
  unfold f5_bridgeStatement at h
  refine z_aload_n fx (k := 0) (i := 0) rfl rfl d5_bridgeStatement_0 ?_
  obtain ⟨w1, e1, h⟩ := zinv h
  refine z_getR fx 5 9 509 17 ho lf5_18 ⟨fk5_9, rfl⟩ e1 d5_bridgeStatement_1 (fun tw1 => ?_)
  refine z_getI fx 10 15 1015 tw1 lf5_112 ⟨fk10_15, rfl⟩ d5_bridgeStatement_4 ?_
  refine z_bipush fx (v := 8) bp8 d5_bridgeStatement_7 ?_
  refine z_icmp_ne fx d5_bridgeStatement_9 (fun c2 => ?_) (fun c2 => ?_)
  · replace h := zif_f c2 h
    obtain ⟨b2, μ3, e4, h⟩ := zinv2 h
    have kt3 : b2 = true → zZ zK1 X (zT0 Sh top) μ3 38 [(0, .ref o_)] [] := by
      intro hc
      replace h := zif_t hc h
      refine z_iconst fx (v := 0) ic0 d5_bridgeStatement_38 ?_
      refine z_top (show Value.int 0 = .int (bI false) from rfl) ?_
      cases h
      exact z_zreturn fx fin d5_bridgeStatement_39
    have kf3 : b2 = false → zZ zK1 X (zT0 Sh top) μ3 40 [(0, .ref o_)] [] := by
      intro hc
      replace h := zif_f hc h
      refine z_aload_n fx (k := 0) (i := 0) rfl rfl d5_bridgeStatement_40 ?_
      obtain ⟨w4, e5, h⟩ := zinv h
      refine z_getR fx 5 9 509 17 ho lf5_18 ⟨fk5_9, rfl⟩ e5 d5_bridgeStatement_41 (fun tw4 => ?_)
      refine z_getI fx 10 15 1015 tw4 lf5_112 ⟨fk10_15, rfl⟩ d5_bridgeStatement_44 ?_
      obtain ⟨v_bridge_5, e6, h⟩ := zinv h
      replace e6 := Option.some.inj e6
      refine z_top (congrArg Value.int e6) ?_
      refine z_istore_n fx (k := 1) (i := 1) rfl rfl (lv' := [(0, .ref o_), (1, .int v_bridge_5)]) rfl rfl d5_bridgeStatement_47 ?_
      refine z_aload_n fx (k := 0) (i := 0) rfl rfl d5_bridgeStatement_48 ?_
      refine z_getO fx 5 0 1 ho lf5_9 fk5_0 d5_bridgeStatement_49 ?_
      refine z_iconst fx (v := 0) ic0 d5_bridgeStatement_52 ?_
      refine z_aload_n fx (k := 0) (i := 0) rfl rfl d5_bridgeStatement_53 ?_
      obtain ⟨w6, e7, h⟩ := zinv h
      refine z_getR fx 5 9 509 17 ho lf5_18 ⟨fk5_9, rfl⟩ e7 d5_bridgeStatement_54 (fun tw6 => ?_)
      refine z_getO fx 10 0 1 tw6 lf5_118 fk10_0 d5_bridgeStatement_57 ?_
      refine z_iload_n fx (k := 1) (i := 1) rfl rfl d5_bridgeStatement_60 ?_
      refine z_bipush fx (v := 6) bp6 d5_bridgeStatement_61 ?_
      refine z_imul fx d5_bridgeStatement_63 ?_
      refine z_bipush fx (v := 6) bp6 d5_bridgeStatement_64 ?_
      obtain ⟨μ7, e8, h⟩ := zinv h
      refine z_copy fx ml5_121 (ok5_0 hO ho) (ok10_0 hO tw6) e8 (Nat.le_of_ble_eq_true rfl) ⟨Nat.le_of_ble_eq_true rfl, Nat.le_of_ble_eq_true rfl⟩ d5_bridgeStatement_66 ?_
      obtain ⟨b8, μ9, e10, h⟩ := zinv2 h
      have kt9 : b8 = true → zZ zK1 X (zT0 Sh top) μ9 88 [(0, .ref o_), (1, .int v_bridge_5)] [] := by
        intro hc
        replace h := zif_t hc h
        refine z_iconst fx (v := 0) ic0 d5_bridgeStatement_88 ?_
        refine z_top (show Value.int 0 = .int (bI false) from rfl) ?_
        cases h
        exact z_zreturn fx fin d5_bridgeStatement_89
      have kf9 : b8 = false → zZ zK1 X (zT0 Sh top) μ9 90 [(0, .ref o_), (1, .int v_bridge_5)] [] := by
        intro hc
        replace h := zif_f hc h
        refine z_aload_n fx (k := 0) (i := 0) rfl rfl d5_bridgeStatement_90 ?_
        obtain ⟨w10, e11, h⟩ := zinv h
        refine z_getR fx 5 9 509 17 ho lf5_18 ⟨fk5_9, rfl⟩ e11 d5_bridgeStatement_91 (fun tw10 => ?_)
        refine z_getO fx 10 2 3 tw10 lf5_127 fk10_2 d5_bridgeStatement_94 ?_
        refine z_iload_n fx (k := 1) (i := 1) rfl rfl d5_bridgeStatement_97 ?_
        refine z_aload_n fx (k := 0) (i := 0) rfl rfl d5_bridgeStatement_98 ?_
        refine z_getI fx 5 5 505 ho lf5_105 ⟨fk5_5, rfl⟩ d5_bridgeStatement_99 ?_
        obtain ⟨μ11, e12, h⟩ := zinv h
        refine z_iast fx (ok10_2 hO tw10) e12 d5_bridgeStatement_102 ?_
        refine z_aload_n fx (k := 0) (i := 0) rfl rfl d5_bridgeStatement_103 ?_
        obtain ⟨w12, e13, h⟩ := zinv h
        refine z_getR fx 5 9 509 17 ho lf5_18 ⟨fk5_9, rfl⟩ e13 d5_bridgeStatement_104 (fun tw12 => ?_)
        refine z_getO fx 10 3 4 tw12 lf5_130 fk10_3 d5_bridgeStatement_107 ?_
        refine z_iload_n fx (k := 1) (i := 1) rfl rfl d5_bridgeStatement_110 ?_
        refine z_aload_n fx (k := 0) (i := 0) rfl rfl d5_bridgeStatement_111 ?_
        refine z_ldcS fx 5 (by decide) d5_bridgeStatement_112 ?_
        obtain ⟨t13, μ14, e14, h⟩ := zinv2 h
        refine z_cVr fx (c5_nextIs (zLo X) (zDo X) Sh top hO o_ 5 μ11 _ _ ho (by decide) e14) mv5_nextIs ml5_79 ho rfl rfl rfl rfl d5_bridgeStatement_114 ?_
        obtain ⟨μ15, e15, h⟩ := zinv h
        refine z_zast fx (ok10_3 hO tw12) e15 d5_bridgeStatement_117 ?_
        refine z_aload_n fx (k := 0) (i := 0) rfl rfl d5_bridgeStatement_118 ?_
        obtain ⟨w16, e16, h⟩ := zinv h
        refine z_getR fx 5 9 509 17 ho lf5_18 ⟨fk5_9, rfl⟩ e16 d5_bridgeStatement_119 (fun tw16 => ?_)
        refine z_dup fx rfl d5_bridgeStatement_122 ?_
        refine z_getI fx 10 15 1015 tw16 lf5_112 ⟨fk10_15, rfl⟩ d5_bridgeStatement_123 ?_
        refine z_iconst fx (v := 1) ic1 d5_bridgeStatement_126 ?_
        refine z_iadd fx d5_bridgeStatement_127 ?_
        obtain ⟨μ17, e17, h⟩ := zinv h
        refine z_putI fx (ci := 10) 15 tw16 lf5_112 fp10_15 e17 d5_bridgeStatement_128 ?_
        obtain ⟨b18, μ19, e18, h⟩ := zinv2 h
        have k19 : zZ zK1 X (zT0 Sh top) μ19 157 [(0, .ref o_), (1, .int v_bridge_5)] [.int (bI b18)] := by
          cases h
          exact z_zreturn fx fin d5_bridgeStatement_157
        have kt20 : b18 = true → zZ zK1 X (zT0 Sh top) μ19 152 [(0, .ref o_), (1, .int v_bridge_5)] [] := by
          intro hc
          refine z_iconst fx (v := 1) ic1 d5_bridgeStatement_152 ?_
          refine z_goto fx d5_bridgeStatement_153 ?_
          exact z_top (congrArg Value.int (show 1 = bI b18 by rw [hc]; rfl)) k19
        have kf20 : b18 = false → zZ zK1 X (zT0 Sh top) μ19 156 [(0, .ref o_), (1, .int v_bridge_5)] [] := by
          intro hc
          refine z_iconst fx (v := 0) ic0 d5_bridgeStatement_156 ?_
          exact z_top (congrArg Value.int (show 0 = bI b18 by rw [hc]; rfl)) k19
        obtain ⟨b20, e21, e18⟩ := zinv e18
        have kf22 : b20 = false → zZ zK1 X (zT0 Sh top) μ17 143 [(0, .ref o_), (1, .int v_bridge_5)] [] := by
          intro hc
          replace e18 := zif_f hc e18
          refine z_aload_n fx (k := 0) (i := 0) rfl rfl d5_bridgeStatement_143 ?_
          refine z_ldcS fx 5 (by decide) d5_bridgeStatement_144 ?_
          obtain ⟨t21, μ22, e23, e18⟩ := zinv2 e18
          refine z_cVr fx (c5_word (zLo X) (zDo X) Sh top hO o_ 5 μ17 _ _ ho (by decide) e23) mv5_word ml5_99 ho rfl rfl rfl rfl d5_bridgeStatement_146 ?_
          cases e18
          refine z_ifb_eq fx d5_bridgeStatement_149 (fun c24 => ?_) (fun c24 => ?_)
          · exact kf20 c24
          · exact kt20 c24
        have kt22 : b20 = true → zZ zK1 X (zT0 Sh top) μ17 152 [(0, .ref o_), (1, .int v_bridge_5)] [] := by
          intro hc
          replace e18 := zif_t hc e18
          cases e18
          exact kt20 rfl
        clear e18
        refine z_aload_n fx (k := 0) (i := 0) rfl rfl d5_bridgeStatement_131 ?_
        obtain ⟨w23, e25, e21⟩ := zinv e21
        refine z_getR fx 5 9 509 17 ho lf5_18 ⟨fk5_9, rfl⟩ e25 d5_bridgeStatement_132 (fun tw23 => ?_)
        refine z_getO fx 10 3 4 tw23 lf5_130 fk10_3 d5_bridgeStatement_135 ?_
        refine z_iload_n fx (k := 1) (i := 1) rfl rfl d5_bridgeStatement_138 ?_
        obtain ⟨t24, e26, e21⟩ := zinv e21
        refine z_zald fx (ok10_3 hO tw23) e26 d5_bridgeStatement_139 ?_
        cases e21
        refine z_ifb_eq fx d5_bridgeStatement_140 (fun c27 => ?_) (fun c27 => ?_)
        · exact kt22 (by rw [c27]; rfl)
        · exact kf22 (by rw [c27]; rfl)
      clear h
      obtain ⟨b25, μ26, e28, e10⟩ := zinv2 e10
      have kf29 : b25 = false → zZ zK1 X (zT0 Sh top) μ26 78 [(0, .ref o_), (1, .int v_bridge_5)] [] := by
        intro hc
        replace e10 := zif_f hc e10
        refine z_aload_n fx (k := 0) (i := 0) rfl rfl d5_bridgeStatement_78 ?_
        refine z_iconst fx (v := 0) ic0 d5_bridgeStatement_79 ?_
        refine z_bipush fx (v := 15) bp15 d5_bridgeStatement_80 ?_
        obtain ⟨t27, μ28, e30, e10⟩ := zinv2 e10
        refine z_cVr fx (c5_number (zLo X) (zDo X) Sh top hO o_ 0 15 μ26 _ _ ho e30) mv5_number ml5_102 ho rfl rfl rfl rfl d5_bridgeStatement_82 ?_
        cases e10
        refine z_ifb_ne fx d5_bridgeStatement_85 (fun c31 => ?_) (fun c31 => ?_)
        · exact kf9 (by rw [c31]; rfl)
        · exact kt9 (by rw [c31]; rfl)
      have kt29 : b25 = true → zZ zK1 X (zT0 Sh top) μ26 88 [(0, .ref o_), (1, .int v_bridge_5)] [] := by
        intro hc
        replace e10 := zif_t hc e10
        cases e10
        exact kt9 rfl
      clear e10
      refine z_aload_n fx (k := 0) (i := 0) rfl rfl d5_bridgeStatement_69 ?_
      refine z_ldcS fx 4 (by decide) d5_bridgeStatement_70 ?_
      obtain ⟨t29, μ30, e32, e28⟩ := zinv2 e28
      refine z_cVr fx (c5_word (zLo X) (zDo X) Sh top hO o_ 4 μ7 _ _ ho (by decide) e32) mv5_word ml5_99 ho rfl rfl rfl rfl d5_bridgeStatement_72 ?_
      cases e28
      refine z_ifb_eq fx d5_bridgeStatement_75 (fun c33 => ?_) (fun c33 => ?_)
      · exact kt29 (by rw [c33]; rfl)
      · exact kf29 (by rw [c33]; rfl)
    clear h
    obtain ⟨b31, μ32, e34, e4⟩ := zinv2 e4
    have kf35 : b31 = false → zZ zK1 X (zT0 Sh top) μ32 31 [(0, .ref o_)] [] := by
      intro hc
      replace e4 := zif_f hc e4
      refine z_aload_n fx (k := 0) (i := 0) rfl rfl d5_bridgeStatement_31 ?_
      obtain ⟨t33, μ34, e36, e4⟩ := zinv2 e4
      refine z_cVr fx (c5_newName (zLo X) (zDo X) Sh top hO o_ μ32 _ _ ho e36) mv5_newName ml5_115 ho rfl rfl rfl rfl d5_bridgeStatement_32 ?_
      cases e4
      refine z_ifb_ne fx d5_bridgeStatement_35 (fun c37 => ?_) (fun c37 => ?_)
      · exact kf3 (by rw [c37]; rfl)
      · exact kt3 (by rw [c37]; rfl)
    have kt35 : b31 = true → zZ zK1 X (zT0 Sh top) μ32 38 [(0, .ref o_)] [] := by
      intro hc
      replace e4 := zif_t hc e4
      cases e4
      exact kt3 rfl
    clear e4
    refine z_aload_n fx (k := 0) (i := 0) rfl rfl d5_bridgeStatement_22 ?_
    refine z_ldcS fx 3 (by decide) d5_bridgeStatement_23 ?_
    obtain ⟨t35, μ36, e38, e34⟩ := zinv2 e34
    refine z_cVr fx (c5_word (zLo X) (zDo X) Sh top hO o_ 3 μ _ _ ho (by decide) e38) mv5_word ml5_99 ho rfl rfl rfl rfl d5_bridgeStatement_25 ?_
    cases e34
    refine z_ifb_eq fx d5_bridgeStatement_28 (fun c39 => ?_) (fun c39 => ?_)
    · exact kt35 (by rw [c39]; rfl)
    · exact kf35 (by rw [c39]; rfl)
  · replace h := zif_t c2 h
    refine z_aload_n fx (k := 0) (i := 0) rfl rfl d5_bridgeStatement_12 ?_
    refine z_iconst fx (v := 5) ic5 d5_bridgeStatement_13 ?_
    refine z_aload_n fx (k := 0) (i := 0) rfl rfl d5_bridgeStatement_14 ?_
    refine z_getI fx 5 3 503 ho lf5_60 ⟨fk5_3, rfl⟩ d5_bridgeStatement_15 ?_
    obtain ⟨t37, μ38, e40, h⟩ := zinv2 h
    refine z_cVr fx (c5_fails (zLo X) (zDo X) Sh top hO o_ 5 (gF μ 503 o_) μ _ _ ho e40) mv5_fails ml5_92 ho rfl rfl rfl rfl d5_bridgeStatement_18 ?_
    cases h
    exact z_zreturn fx fin d5_bridgeStatement_21
theorem d5_bridgeName_0 : zd cX5_bridgeName 0 (.aload_n 0) 1 1 := by decide +kernel
theorem d5_bridgeName_1 : zd cX5_bridgeName 1 (.invokevirtual 171) 3 4 := by decide +kernel
theorem d5_bridgeName_4 : zj cX5_bridgeName 4 (.ifCond .ne 5) 5 7 9 := by decide +kernel
theorem d5_bridgeName_7 : zd cX5_bridgeName 7 (.iconst (-1)) 1 8 := by decide +kernel
theorem d5_bridgeName_8 : zd cX5_bridgeName 8 (.ireturn) 1 9 := by decide +kernel
theorem d5_bridgeName_9 : zd cX5_bridgeName 9 (.aload_n 0) 1 10 := by decide +kernel
theorem d5_bridgeName_10 : zd cX5_bridgeName 10 (.aload_n 0) 1 11 := by decide +kernel
theorem d5_bridgeName_11 : zd cX5_bridgeName 11 (.getfield 18) 3 14 := by decide +kernel
theorem d5_bridgeName_14 : zd cX5_bridgeName 14 (.getfield 118) 3 17 := by decide +kernel
theorem d5_bridgeName_17 : zd cX5_bridgeName 17 (.aload_n 0) 1 18 := by decide +kernel
theorem d5_bridgeName_18 : zd cX5_bridgeName 18 (.getfield 18) 3 21 := by decide +kernel
theorem d5_bridgeName_21 : zd cX5_bridgeName 21 (.getfield 112) 3 24 := by decide +kernel
theorem d5_bridgeName_24 : zd cX5_bridgeName 24 (.invokevirtual 174) 3 27 := by decide +kernel
theorem d5_bridgeName_27 : zd cX5_bridgeName 27 (.istore_n 1) 1 28 := by decide +kernel
theorem d5_bridgeName_28 : zd cX5_bridgeName 28 (.iload_n 1) 1 29 := by decide +kernel
theorem d5_bridgeName_29 : zd cX5_bridgeName 29 (.iconst (-1)) 1 30 := by decide +kernel
theorem d5_bridgeName_30 : zj cX5_bridgeName 30 (.if_icmp .ne 13) 13 33 43 := by decide +kernel
theorem d5_bridgeName_33 : zd cX5_bridgeName 33 (.aload_n 0) 1 34 := by decide +kernel
theorem d5_bridgeName_34 : zd cX5_bridgeName 34 (.iconst 3) 1 35 := by decide +kernel
theorem d5_bridgeName_35 : zd cX5_bridgeName 35 (.aload_n 0) 1 36 := by decide +kernel
theorem d5_bridgeName_36 : zd cX5_bridgeName 36 (.getfield 152) 3 39 := by decide +kernel
theorem d5_bridgeName_39 : zd cX5_bridgeName 39 (.invokevirtual 92) 3 42 := by decide +kernel
theorem d5_bridgeName_42 : zd cX5_bridgeName 42 (.pop) 1 43 := by decide +kernel
theorem d5_bridgeName_43 : zd cX5_bridgeName 43 (.iload_n 1) 1 44 := by decide +kernel
theorem d5_bridgeName_44 : zd cX5_bridgeName 44 (.ireturn) 1 45 := by decide +kernel
set_option maxHeartbeats 4000000 in
set_option maxRecDepth 20000 in
theorem c5_bridgeName (l : Launch) (D : zDt) (Sh : zSh) (top : Nat) (hO : zOK Sh) (o_ : Nat) (μ : zM) (r_ : Int32) (μ_ : zM) (ho : (Sh o_).1 = 12) (h : f5_bridgeName o_ μ = some (r_, μ_)) : zMet l D zK1 yX5_bridgeName cX5_bridgeName 2 (some .int) (zrm 9 216) [.ref o_] Sh top μ (some (.int r_)) Sh top μ_ 0 0 := by
  refine zMet_of (by decide) (Nat.le_of_ble_eq_true rfl) fun X hX1 hX2 fx fin => ?_
  subst hX1; subst hX2
  replace fx : zFix X cX5_bridgeName RX5 (zrm 9 216) 2 := fx
  show zZ zK1 X (zT0 Sh top) μ 0 [(0, .ref o_)] []
  unfold f5_bridgeName at h
  refine z_aload_n fx (k := 0) (i := 0) rfl rfl d5_bridgeName_0 ?_
  obtain ⟨t1, μ2, e1, h⟩ := zinv2 h
  refine z_cVr fx (c5_name (zLo X) (zDo X) Sh top hO o_ μ _ _ ho e1) mv5_name ml5_171 ho rfl rfl rfl rfl d5_bridgeName_1 ?_
  refine z_ifb_ne fx d5_bridgeName_4 (fun c2 => ?_) (fun c2 => ?_)
  · replace h := zif_t c2 h
    refine z_aload_n fx (k := 0) (i := 0) rfl rfl d5_bridgeName_9 ?_
    refine z_aload_n fx (k := 0) (i := 0) rfl rfl d5_bridgeName_10 ?_
    obtain ⟨w3, e3, h⟩ := zinv h
    refine z_getR fx 5 9 509 17 ho lf5_18 ⟨fk5_9, rfl⟩ e3 d5_bridgeName_11 (fun tw3 => ?_)
    refine z_getO fx 10 0 1 tw3 lf5_118 fk10_0 d5_bridgeName_14 ?_
    refine z_aload_n fx (k := 0) (i := 0) rfl rfl d5_bridgeName_17 ?_
    obtain ⟨w4, e4, h⟩ := zinv h
    refine z_getR fx 5 9 509 17 ho lf5_18 ⟨fk5_9, rfl⟩ e4 d5_bridgeName_18 (fun tw4 => ?_)
    refine z_getI fx 10 15 1015 tw4 lf5_112 ⟨fk10_15, rfl⟩ d5_bridgeName_21 ?_
    obtain ⟨t5, e5, h⟩ := zinv h
    refine z_cVr fx (c5_named (zLo X) (zDo X) Sh top hO o_ (w3 + 1) 48 (gF μ2 1015 w4) μ2 _ ho (ok10_0 hO tw3) e5) mv5_named ml5_174 ho rfl rfl rfl rfl d5_bridgeName_24 ?_
    refine z_istore_n fx (k := 1) (i := 1) rfl rfl (lv' := [(0, .ref o_), (1, .int t5)]) rfl rfl d5_bridgeName_27 ?_
    obtain ⟨μ6, e6, h⟩ := zinv h
    have k7 : zZ zK1 X (zT0 Sh top) μ6 43 [(0, .ref o_), (1, .int t5)] [] := by
      refine z_iload_n fx (k := 1) (i := 1) rfl rfl d5_bridgeName_43 ?_
      cases h
      exact z_ireturn fx fin d5_bridgeName_44
    clear h
    refine z_iload_n fx (k := 1) (i := 1) rfl rfl d5_bridgeName_28 ?_
    refine z_iconst fx (v := (-1)) icm1 d5_bridgeName_29 ?_
    refine z_icmp_ne fx d5_bridgeName_30 (fun c8 => ?_) (fun c8 => ?_)
    · replace e6 := zif_f c8 e6
      cases e6
      exact k7
    · replace e6 := zif_t c8 e6
      refine z_aload_n fx (k := 0) (i := 0) rfl rfl d5_bridgeName_33 ?_
      refine z_iconst fx (v := 3) ic3 d5_bridgeName_34 ?_
      refine z_aload_n fx (k := 0) (i := 0) rfl rfl d5_bridgeName_35 ?_
      refine z_getI fx 5 6 506 ho lf5_152 ⟨fk5_6, rfl⟩ d5_bridgeName_36 ?_
      obtain ⟨t7, μ8, e9, e6⟩ := zinv2 e6
      refine z_cVr fx (c5_fails (zLo X) (zDo X) Sh top hO o_ 3 (gF μ2 506 o_) μ2 _ _ ho e9) mv5_fails ml5_92 ho rfl rfl rfl rfl d5_bridgeName_39 ?_
      refine z_pop fx rfl d5_bridgeName_42 ?_
      cases e6
      exact k7
  · replace h := zif_f c2 h
    refine z_iconst fx (v := (-1)) icm1 d5_bridgeName_7 ?_
    cases h
    exact z_ireturn fx fin d5_bridgeName_8
theorem d10_addPort_0 : zd cX10_addPort 0 (.aload_n 0) 1 1 := by decide +kernel
theorem d10_addPort_1 : zd cX10_addPort 1 (.getfield 28) 3 4 := by decide +kernel
theorem d10_addPort_4 : zd cX10_addPort 4 (.iload_n 1) 1 5 := by decide +kernel
theorem d10_addPort_5 : zd cX10_addPort 5 (.bipush 6) 2 7 := by decide +kernel
theorem d10_addPort_7 : zd cX10_addPort 7 (.imul) 1 8 := by decide +kernel
theorem d10_addPort_8 : zd cX10_addPort 8 (.aload_n 0) 1 9 := by decide +kernel
theorem d10_addPort_9 : zd cX10_addPort 9 (.getfield 25) 3 12 := by decide +kernel
theorem d10_addPort_12 : zd cX10_addPort 12 (.iload_n 1) 1 13 := by decide +kernel
theorem d10_addPort_13 : zd cX10_addPort 13 (.iaload) 1 14 := by decide +kernel
theorem d10_addPort_14 : zd cX10_addPort 14 (.iadd) 1 15 := by decide +kernel
theorem d10_addPort_15 : zd cX10_addPort 15 (.iload_n 2) 1 16 := by decide +kernel
theorem d10_addPort_16 : zd cX10_addPort 16 (.iastore) 1 17 := by decide +kernel
theorem d10_addPort_17 : zd cX10_addPort 17 (.aload_n 0) 1 18 := by decide +kernel
theorem d10_addPort_18 : zd cX10_addPort 18 (.getfield 31) 3 21 := by decide +kernel
theorem d10_addPort_21 : zd cX10_addPort 21 (.iload_n 2) 1 22 := by decide +kernel
theorem d10_addPort_22 : zd cX10_addPort 22 (.iload_n 1) 1 23 := by decide +kernel
theorem d10_addPort_23 : zd cX10_addPort 23 (.iastore) 1 24 := by decide +kernel
theorem d10_addPort_24 : zd cX10_addPort 24 (.aload_n 0) 1 25 := by decide +kernel
theorem d10_addPort_25 : zd cX10_addPort 25 (.getfield 34) 3 28 := by decide +kernel
theorem d10_addPort_28 : zd cX10_addPort 28 (.iload_n 2) 1 29 := by decide +kernel
theorem d10_addPort_29 : zd cX10_addPort 29 (.aload_n 0) 1 30 := by decide +kernel
theorem d10_addPort_30 : zd cX10_addPort 30 (.getfield 25) 3 33 := by decide +kernel
theorem d10_addPort_33 : zd cX10_addPort 33 (.iload_n 1) 1 34 := by decide +kernel
theorem d10_addPort_34 : zd cX10_addPort 34 (.iaload) 1 35 := by decide +kernel
theorem d10_addPort_35 : zd cX10_addPort 35 (.iastore) 1 36 := by decide +kernel
theorem d10_addPort_36 : zd cX10_addPort 36 (.aload_n 0) 1 37 := by decide +kernel
theorem d10_addPort_37 : zd cX10_addPort 37 (.getfield 37) 3 40 := by decide +kernel
theorem d10_addPort_40 : zd cX10_addPort 40 (.iload_n 2) 1 41 := by decide +kernel
theorem d10_addPort_41 : zd cX10_addPort 41 (.iconst 0) 1 42 := by decide +kernel
theorem d10_addPort_42 : zd cX10_addPort 42 (.bastore) 1 43 := by decide +kernel
theorem d10_addPort_43 : zd cX10_addPort 43 (.aload_n 0) 1 44 := by decide +kernel
theorem d10_addPort_44 : zd cX10_addPort 44 (.getfield 25) 3 47 := by decide +kernel
theorem d10_addPort_47 : zd cX10_addPort 47 (.iload_n 1) 1 48 := by decide +kernel
theorem d10_addPort_48 : zd cX10_addPort 48 (.dup2) 1 49 := by decide +kernel
theorem d10_addPort_49 : zd cX10_addPort 49 (.iaload) 1 50 := by decide +kernel
theorem d10_addPort_50 : zd cX10_addPort 50 (.iconst 1) 1 51 := by decide +kernel
theorem d10_addPort_51 : zd cX10_addPort 51 (.iadd) 1 52 := by decide +kernel
theorem d10_addPort_52 : zd cX10_addPort 52 (.iastore) 1 53 := by decide +kernel
theorem d10_addPort_53 : zd cX10_addPort 53 (.return_) 1 54 := by decide +kernel
set_option maxHeartbeats 4000000 in
set_option maxRecDepth 20000 in
theorem c10_addPort (l : Launch) (D : zDt) (Sh : zSh) (top : Nat) (hO : zOK Sh) (o_ : Nat) (v_bridge : Int32) (v_end : Int32) (μ : zM) (μ_ : zM) (ho : (Sh o_).1 = 17) (h : f10_addPort o_ v_bridge v_end μ = some μ_) : zMet l D zK1 yX10_addPort cX10_addPort 3 none (zrm 0 0) [.ref o_, .int v_bridge, .int v_end] Sh top μ none Sh top μ_ 0 0 := by
  refine zMet_of (by decide) (Nat.le_of_ble_eq_true rfl) fun X hX1 hX2 fx fin => ?_
  subst hX1; subst hX2
  replace fx : zFix X cX10_addPort RX10 (zrm 0 0) 3 := fx
  show zZ zK1 X (zT0 Sh top) μ 0 [(0, .ref o_), (1, .int v_bridge), (2, .int v_end)] []
  unfold f10_addPort at h
  refine z_aload_n fx (k := 0) (i := 0) rfl rfl d10_addPort_0 ?_
  refine z_getO fx 10 5 6 ho lf10_28 fk10_5 d10_addPort_1 ?_
  refine z_iload_n fx (k := 1) (i := 1) rfl rfl d10_addPort_4 ?_
  refine z_bipush fx (v := 6) bp6 d10_addPort_5 ?_
  refine z_imul fx d10_addPort_7 ?_
  refine z_aload_n fx (k := 0) (i := 0) rfl rfl d10_addPort_8 ?_
  refine z_getO fx 10 4 5 ho lf10_25 fk10_4 d10_addPort_9 ?_
  refine z_iload_n fx (k := 1) (i := 1) rfl rfl d10_addPort_12 ?_
  obtain ⟨t1, e1, h⟩ := zinv h
  refine z_iald fx (ok10_4 hO ho) e1 d10_addPort_13 ?_
  refine z_iadd fx d10_addPort_14 ?_
  refine z_iload_n fx (k := 2) (i := 2) rfl rfl d10_addPort_15 ?_
  obtain ⟨μ2, e2, h⟩ := zinv h
  refine z_iast fx (ok10_5 hO ho) e2 d10_addPort_16 ?_
  refine z_aload_n fx (k := 0) (i := 0) rfl rfl d10_addPort_17 ?_
  refine z_getO fx 10 6 7 ho lf10_31 fk10_6 d10_addPort_18 ?_
  refine z_iload_n fx (k := 2) (i := 2) rfl rfl d10_addPort_21 ?_
  refine z_iload_n fx (k := 1) (i := 1) rfl rfl d10_addPort_22 ?_
  obtain ⟨μ3, e3, h⟩ := zinv h
  refine z_iast fx (ok10_6 hO ho) e3 d10_addPort_23 ?_
  refine z_aload_n fx (k := 0) (i := 0) rfl rfl d10_addPort_24 ?_
  refine z_getO fx 10 7 8 ho lf10_34 fk10_7 d10_addPort_25 ?_
  refine z_iload_n fx (k := 2) (i := 2) rfl rfl d10_addPort_28 ?_
  refine z_aload_n fx (k := 0) (i := 0) rfl rfl d10_addPort_29 ?_
  refine z_getO fx 10 4 5 ho lf10_25 fk10_4 d10_addPort_30 ?_
  refine z_iload_n fx (k := 1) (i := 1) rfl rfl d10_addPort_33 ?_
  obtain ⟨t4, e4, h⟩ := zinv h
  refine z_iald fx (ok10_4 hO ho) e4 d10_addPort_34 ?_
  obtain ⟨μ5, e5, h⟩ := zinv h
  refine z_iast fx (ok10_7 hO ho) e5 d10_addPort_35 ?_
  refine z_aload_n fx (k := 0) (i := 0) rfl rfl d10_addPort_36 ?_
  refine z_getO fx 10 8 9 ho lf10_37 fk10_8 d10_addPort_37 ?_
  refine z_iload_n fx (k := 2) (i := 2) rfl rfl d10_addPort_40 ?_
  refine z_iconst fx (v := 0) ic0 d10_addPort_41 ?_
  refine z_top (show Value.int 0 = .int (bI false) from rfl) ?_
  obtain ⟨μ6, e6, h⟩ := zinv h
  refine z_zast fx (ok10_8 hO ho) e6 d10_addPort_42 ?_
  refine z_aload_n fx (k := 0) (i := 0) rfl rfl d10_addPort_43 ?_
  refine z_getO fx 10 4 5 ho lf10_25 fk10_4 d10_addPort_44 ?_
  refine z_iload_n fx (k := 1) (i := 1) rfl rfl d10_addPort_47 ?_
  refine z_dup2 fx rfl rfl d10_addPort_48 ?_
  obtain ⟨t7, e7, h⟩ := zinv h
  refine z_iald fx (ok10_4 hO ho) e7 d10_addPort_49 ?_
  refine z_iconst fx (v := 1) ic1 d10_addPort_50 ?_
  refine z_iadd fx d10_addPort_51 ?_
  obtain ⟨μ8, e8, h⟩ := zinv h
  refine z_iast fx (ok10_4 hO ho) e8 d10_addPort_52 ?_
  cases h
  exact z_return fx fin d10_addPort_53
theorem d5_linkEnd_0 : zd cX5_linkEnd 0 (.aload_n 0) 1 1 := by decide +kernel
theorem d5_linkEnd_1 : zd cX5_linkEnd 1 (.invokevirtual 145) 3 4 := by decide +kernel
theorem d5_linkEnd_4 : zd cX5_linkEnd 4 (.istore_n 2) 1 5 := by decide +kernel
theorem d5_linkEnd_5 : zd cX5_linkEnd 5 (.iload_n 2) 1 6 := by decide +kernel
theorem d5_linkEnd_6 : zd cX5_linkEnd 6 (.iconst (-1)) 1 7 := by decide +kernel
theorem d5_linkEnd_7 : zj cX5_linkEnd 7 (.if_icmp .ne 5) 5 10 12 := by decide +kernel
theorem d5_linkEnd_10 : zd cX5_linkEnd 10 (.iconst 0) 1 11 := by decide +kernel
theorem d5_linkEnd_11 : zd cX5_linkEnd 11 (.ireturn) 1 12 := by decide +kernel
theorem d5_linkEnd_12 : zd cX5_linkEnd 12 (.aload_n 0) 1 13 := by decide +kernel
theorem d5_linkEnd_13 : zd cX5_linkEnd 13 (.getfield 18) 3 16 := by decide +kernel
theorem d5_linkEnd_16 : zd cX5_linkEnd 16 (.getfield 149) 3 19 := by decide +kernel
theorem d5_linkEnd_19 : zd cX5_linkEnd 19 (.iload_n 2) 1 20 := by decide +kernel
theorem d5_linkEnd_20 : zd cX5_linkEnd 20 (.iaload) 1 21 := by decide +kernel
theorem d5_linkEnd_21 : zd cX5_linkEnd 21 (.bipush 6) 2 23 := by decide +kernel
theorem d5_linkEnd_23 : zj cX5_linkEnd 23 (.if_icmp .ne 13) 13 26 36 := by decide +kernel
theorem d5_linkEnd_26 : zd cX5_linkEnd 26 (.aload_n 0) 1 27 := by decide +kernel
theorem d5_linkEnd_27 : zd cX5_linkEnd 27 (.iconst 5) 1 28 := by decide +kernel
theorem d5_linkEnd_28 : zd cX5_linkEnd 28 (.aload_n 0) 1 29 := by decide +kernel
theorem d5_linkEnd_29 : zd cX5_linkEnd 29 (.getfield 152) 3 32 := by decide +kernel
theorem d5_linkEnd_32 : zd cX5_linkEnd 32 (.invokevirtual 92) 3 35 := by decide +kernel
theorem d5_linkEnd_35 : zd cX5_linkEnd 35 (.ireturn) 1 36 := by decide +kernel
theorem d5_linkEnd_36 : zd cX5_linkEnd 36 (.aload_n 0) 1 37 := by decide +kernel
theorem d5_linkEnd_37 : zd cX5_linkEnd 37 (.getfield 18) 3 40 := by decide +kernel
theorem d5_linkEnd_40 : zd cX5_linkEnd 40 (.iload_n 2) 1 41 := by decide +kernel
theorem d5_linkEnd_41 : zd cX5_linkEnd 41 (.iload_n 1) 1 42 := by decide +kernel
theorem d5_linkEnd_42 : zd cX5_linkEnd 42 (.invokevirtual 155) 3 45 := by decide +kernel
theorem d5_linkEnd_45 : zd cX5_linkEnd 45 (.aload_n 0) 1 46 := by decide +kernel
theorem d5_linkEnd_46 : zd cX5_linkEnd 46 (.ldc 40) 2 48 := by decide +kernel
theorem d5_linkEnd_48 : zd cX5_linkEnd 48 (.invokevirtual 79) 3 51 := by decide +kernel
theorem d5_linkEnd_51 : zj cX5_linkEnd 51 (.ifCond .ne 5) 5 54 56 := by decide +kernel
theorem d5_linkEnd_54 : zd cX5_linkEnd 54 (.iconst 1) 1 55 := by decide +kernel
theorem d5_linkEnd_55 : zd cX5_linkEnd 55 (.ireturn) 1 56 := by decide +kernel
theorem d5_linkEnd_56 : zd cX5_linkEnd 56 (.aload_n 0) 1 57 := by decide +kernel
theorem d5_linkEnd_57 : zd cX5_linkEnd 57 (.getfield 18) 3 60 := by decide +kernel
theorem d5_linkEnd_60 : zd cX5_linkEnd 60 (.getfield 159) 3 63 := by decide +kernel
theorem d5_linkEnd_63 : zd cX5_linkEnd 63 (.iload_n 1) 1 64 := by decide +kernel
theorem d5_linkEnd_64 : zd cX5_linkEnd 64 (.iconst 1) 1 65 := by decide +kernel
theorem d5_linkEnd_65 : zd cX5_linkEnd 65 (.bastore) 1 66 := by decide +kernel
theorem d5_linkEnd_66 : zd cX5_linkEnd 66 (.aload_n 0) 1 67 := by decide +kernel
theorem d5_linkEnd_67 : zd cX5_linkEnd 67 (.ldc 40) 2 69 := by decide +kernel
theorem d5_linkEnd_69 : zd cX5_linkEnd 69 (.invokevirtual 99) 3 72 := by decide +kernel
theorem d5_linkEnd_72 : zd cX5_linkEnd 72 (.ireturn) 1 73 := by decide +kernel
set_option maxHeartbeats 4000000 in
set_option maxRecDepth 20000 in
theorem c5_linkEnd (l : Launch) (D : zDt) (Sh : zSh) (top : Nat) (hO : zOK Sh) (o_ : Nat) (v_end : Int32) (μ : zM) (r_ : Bool) (μ_ : zM) (ho : (Sh o_).1 = 12) (h : f5_linkEnd o_ v_end μ = some (r_, μ_)) : zMet l D zK1 yX5_linkEnd cX5_linkEnd 3 (some .boolean) (zrm 10 237) [.ref o_, .int v_end] Sh top μ (some (.int (bI r_))) Sh top μ_ 0 0 := by
  refine zMet_of (by decide) (Nat.le_of_ble_eq_true rfl) fun X hX1 hX2 fx fin => ?_
  subst hX1; subst hX2
  replace fx : zFix X cX5_linkEnd RX5 (zrm 10 237) 3 := fx
  show zZ zK1 X (zT0 Sh top) μ 0 [(0, .ref o_), (1, .int v_end)] []
  unfold f5_linkEnd at h
  refine z_aload_n fx (k := 0) (i := 0) rfl rfl d5_linkEnd_0 ?_
  obtain ⟨t1, μ2, e1, h⟩ := zinv2 h
  refine z_cVr fx (c5_bridgeName (zLo X) (zDo X) Sh top hO o_ μ _ _ ho e1) mv5_bridgeName ml5_145 ho rfl rfl rfl rfl d5_linkEnd_1 ?_
  refine z_istore_n fx (k := 2) (i := 2) rfl rfl (lv' := [(0, .ref o_), (1, .int v_end), (2, .int t1)]) rfl rfl d5_linkEnd_4 ?_
  refine z_iload_n fx (k := 2) (i := 2) rfl rfl d5_linkEnd_5 ?_
  refine z_iconst fx (v := (-1)) icm1 d5_linkEnd_6 ?_
  refine z_icmp_ne fx d5_linkEnd_7 (fun c2 => ?_) (fun c2 => ?_)
  · replace h := zif_f c2 h
    refine z_aload_n fx (k := 0) (i := 0) rfl rfl d5_linkEnd_12 ?_
    obtain ⟨w3, e3, h⟩ := zinv h
    refine z_getR fx 5 9 509 17 ho lf5_18 ⟨fk5_9, rfl⟩ e3 d5_linkEnd_13 (fun tw3 => ?_)
    refine z_getO fx 10 4 5 tw3 lf5_149 fk10_4 d5_linkEnd_16 ?_
    refine z_iload_n fx (k := 2) (i := 2) rfl rfl d5_linkEnd_19 ?_
    obtain ⟨t4, e4, h⟩ := zinv h
    refine z_iald fx (ok10_4 hO tw3) e4 d5_linkEnd_20 ?_
    refine z_bipush fx (v := 6) bp6 d5_linkEnd_21 ?_
    refine z_icmp_ne fx d5_linkEnd_23 (fun c5 => ?_) (fun c5 => ?_)
    · replace h := zif_f c5 h
      refine z_aload_n fx (k := 0) (i := 0) rfl rfl d5_linkEnd_36 ?_
      obtain ⟨w5, e6, h⟩ := zinv h
      refine z_getR fx 5 9 509 17 ho lf5_18 ⟨fk5_9, rfl⟩ e6 d5_linkEnd_37 (fun tw5 => ?_)
      refine z_iload_n fx (k := 2) (i := 2) rfl rfl d5_linkEnd_40 ?_
      refine z_iload_n fx (k := 1) (i := 1) rfl rfl d5_linkEnd_41 ?_
      obtain ⟨μ6, e7, h⟩ := zinv h
      refine z_cVv fx (c10_addPort (zLo X) (zDo X) Sh top hO w5 t1 v_end μ2 _ tw5 e7) mv10_addPort ml5_155 tw5 rfl rfl rfl rfl d5_linkEnd_42 ?_
      refine z_aload_n fx (k := 0) (i := 0) rfl rfl d5_linkEnd_45 ?_
      refine z_ldcS fx 7 (by decide) d5_linkEnd_46 ?_
      obtain ⟨t7, μ8, e8, h⟩ := zinv2 h
      refine z_cVr fx (c5_nextIs (zLo X) (zDo X) Sh top hO o_ 7 μ6 _ _ ho (by decide) e8) mv5_nextIs ml5_79 ho rfl rfl rfl rfl d5_linkEnd_48 ?_
      refine z_ifb_ne fx d5_linkEnd_51 (fun c9 => ?_) (fun c9 => ?_)
      · replace h := zif_t c9 h
        refine z_aload_n fx (k := 0) (i := 0) rfl rfl d5_linkEnd_56 ?_
        obtain ⟨w9, e10, h⟩ := zinv h
        refine z_getR fx 5 9 509 17 ho lf5_18 ⟨fk5_9, rfl⟩ e10 d5_linkEnd_57 (fun tw9 => ?_)
        refine z_getO fx 10 8 9 tw9 lf5_159 fk10_8 d5_linkEnd_60 ?_
        refine z_iload_n fx (k := 1) (i := 1) rfl rfl d5_linkEnd_63 ?_
        refine z_iconst fx (v := 1) ic1 d5_linkEnd_64 ?_
        refine z_top (show Value.int 1 = .int (bI true) from rfl) ?_
        obtain ⟨μ10, e11, h⟩ := zinv h
        refine z_zast fx (ok10_8 hO tw9) e11 d5_linkEnd_65 ?_
        refine z_aload_n fx (k := 0) (i := 0) rfl rfl d5_linkEnd_66 ?_
        refine z_ldcS fx 7 (by decide) d5_linkEnd_67 ?_
        obtain ⟨t11, μ12, e12, h⟩ := zinv2 h
        refine z_cVr fx (c5_word (zLo X) (zDo X) Sh top hO o_ 7 μ10 _ _ ho (by decide) e12) mv5_word ml5_99 ho rfl rfl rfl rfl d5_linkEnd_69 ?_
        cases h
        exact z_zreturn fx fin d5_linkEnd_72
      · replace h := zif_f c9 h
        refine z_iconst fx (v := 1) ic1 d5_linkEnd_54 ?_
        refine z_top (show Value.int 1 = .int (bI true) from rfl) ?_
        cases h
        exact z_zreturn fx fin d5_linkEnd_55
    · replace h := zif_t c5 h
      refine z_aload_n fx (k := 0) (i := 0) rfl rfl d5_linkEnd_26 ?_
      refine z_iconst fx (v := 5) ic5 d5_linkEnd_27 ?_
      refine z_aload_n fx (k := 0) (i := 0) rfl rfl d5_linkEnd_28 ?_
      refine z_getI fx 5 6 506 ho lf5_152 ⟨fk5_6, rfl⟩ d5_linkEnd_29 ?_
      obtain ⟨t13, μ14, e13, h⟩ := zinv2 h
      refine z_cVr fx (c5_fails (zLo X) (zDo X) Sh top hO o_ 5 (gF μ2 506 o_) μ2 _ _ ho e13) mv5_fails ml5_92 ho rfl rfl rfl rfl d5_linkEnd_32 ?_
      cases h
      exact z_zreturn fx fin d5_linkEnd_35
  · replace h := zif_t c2 h
    refine z_iconst fx (v := 0) ic0 d5_linkEnd_10 ?_
    refine z_top (show Value.int 0 = .int (bI false) from rfl) ?_
    cases h
    exact z_zreturn fx fin d5_linkEnd_11
theorem d5_linkStatement_0 : zd cX5_linkStatement 0 (.aload_n 0) 1 1 := by decide +kernel
theorem d5_linkStatement_1 : zd cX5_linkStatement 1 (.getfield 18) 3 4 := by decide +kernel
theorem d5_linkStatement_4 : zd cX5_linkStatement 4 (.getfield 134) 3 7 := by decide +kernel
theorem d5_linkStatement_7 : zd cX5_linkStatement 7 (.bipush 14) 2 9 := by decide +kernel
theorem d5_linkStatement_9 : zj cX5_linkStatement 9 (.if_icmp .ne 13) 13 12 22 := by decide +kernel
theorem d5_linkStatement_12 : zd cX5_linkStatement 12 (.aload_n 0) 1 13 := by decide +kernel
theorem d5_linkStatement_13 : zd cX5_linkStatement 13 (.iconst 5) 1 14 := by decide +kernel
theorem d5_linkStatement_14 : zd cX5_linkStatement 14 (.aload_n 0) 1 15 := by decide +kernel
theorem d5_linkStatement_15 : zd cX5_linkStatement 15 (.getfield 60) 3 18 := by decide +kernel
theorem d5_linkStatement_18 : zd cX5_linkStatement 18 (.invokevirtual 92) 3 21 := by decide +kernel
theorem d5_linkStatement_21 : zd cX5_linkStatement 21 (.ireturn) 1 22 := by decide +kernel
theorem d5_linkStatement_22 : zd cX5_linkStatement 22 (.aload_n 0) 1 23 := by decide +kernel
theorem d5_linkStatement_23 : zd cX5_linkStatement 23 (.getfield 18) 3 26 := by decide +kernel
theorem d5_linkStatement_26 : zd cX5_linkStatement 26 (.getfield 134) 3 29 := by decide +kernel
theorem d5_linkStatement_29 : zd cX5_linkStatement 29 (.istore_n 1) 1 30 := by decide +kernel
theorem d5_linkStatement_30 : zd cX5_linkStatement 30 (.aload_n 0) 1 31 := by decide +kernel
theorem d5_linkStatement_31 : zd cX5_linkStatement 31 (.ldc 38) 2 33 := by decide +kernel
theorem d5_linkStatement_33 : zd cX5_linkStatement 33 (.invokevirtual 99) 3 36 := by decide +kernel
theorem d5_linkStatement_36 : zj cX5_linkStatement 36 (.ifCond .eq 34) 34 39 70 := by decide +kernel
theorem d5_linkStatement_39 : zd cX5_linkStatement 39 (.aload_n 0) 1 40 := by decide +kernel
theorem d5_linkStatement_40 : zd cX5_linkStatement 40 (.iconst 2) 1 41 := by decide +kernel
theorem d5_linkStatement_41 : zd cX5_linkStatement 41 (.iload_n 1) 1 42 := by decide +kernel
theorem d5_linkStatement_42 : zd cX5_linkStatement 42 (.imul) 1 43 := by decide +kernel
theorem d5_linkStatement_43 : zd cX5_linkStatement 43 (.invokevirtual 137) 3 46 := by decide +kernel
theorem d5_linkStatement_46 : zj cX5_linkStatement 46 (.ifCond .eq 24) 24 49 70 := by decide +kernel
theorem d5_linkStatement_49 : zd cX5_linkStatement 49 (.aload_n 0) 1 50 := by decide +kernel
theorem d5_linkStatement_50 : zd cX5_linkStatement 50 (.ldc 42) 2 52 := by decide +kernel
theorem d5_linkStatement_52 : zd cX5_linkStatement 52 (.invokevirtual 99) 3 55 := by decide +kernel
theorem d5_linkStatement_55 : zj cX5_linkStatement 55 (.ifCond .eq 15) 15 58 70 := by decide +kernel
theorem d5_linkStatement_58 : zd cX5_linkStatement 58 (.aload_n 0) 1 59 := by decide +kernel
theorem d5_linkStatement_59 : zd cX5_linkStatement 59 (.iconst 2) 1 60 := by decide +kernel
theorem d5_linkStatement_60 : zd cX5_linkStatement 60 (.iload_n 1) 1 61 := by decide +kernel
theorem d5_linkStatement_61 : zd cX5_linkStatement 61 (.imul) 1 62 := by decide +kernel
theorem d5_linkStatement_62 : zd cX5_linkStatement 62 (.iconst 1) 1 63 := by decide +kernel
theorem d5_linkStatement_63 : zd cX5_linkStatement 63 (.iadd) 1 64 := by decide +kernel
theorem d5_linkStatement_64 : zd cX5_linkStatement 64 (.invokevirtual 137) 3 67 := by decide +kernel
theorem d5_linkStatement_67 : zj cX5_linkStatement 67 (.ifCond .ne 5) 5 70 72 := by decide +kernel
theorem d5_linkStatement_70 : zd cX5_linkStatement 70 (.iconst 0) 1 71 := by decide +kernel
theorem d5_linkStatement_71 : zd cX5_linkStatement 71 (.ireturn) 1 72 := by decide +kernel
theorem d5_linkStatement_72 : zd cX5_linkStatement 72 (.aload_n 0) 1 73 := by decide +kernel
theorem d5_linkStatement_73 : zd cX5_linkStatement 73 (.ldc 44) 2 75 := by decide +kernel
theorem d5_linkStatement_75 : zd cX5_linkStatement 75 (.invokevirtual 99) 3 78 := by decide +kernel
theorem d5_linkStatement_78 : zj cX5_linkStatement 78 (.ifCond .eq 14) 14 81 92 := by decide +kernel
theorem d5_linkStatement_81 : zd cX5_linkStatement 81 (.aload_n 0) 1 82 := by decide +kernel
theorem d5_linkStatement_82 : zd cX5_linkStatement 82 (.iconst 1) 1 83 := by decide +kernel
theorem d5_linkStatement_83 : zd cX5_linkStatement 83 (.sipush 200) 3 86 := by decide +kernel
theorem d5_linkStatement_86 : zd cX5_linkStatement 86 (.invokevirtual 102) 3 89 := by decide +kernel
theorem d5_linkStatement_89 : zj cX5_linkStatement 89 (.ifCond .ne 5) 5 92 94 := by decide +kernel
theorem d5_linkStatement_92 : zd cX5_linkStatement 92 (.iconst 0) 1 93 := by decide +kernel
theorem d5_linkStatement_93 : zd cX5_linkStatement 93 (.ireturn) 1 94 := by decide +kernel
theorem d5_linkStatement_94 : zd cX5_linkStatement 94 (.aload_n 0) 1 95 := by decide +kernel
theorem d5_linkStatement_95 : zd cX5_linkStatement 95 (.getfield 18) 3 98 := by decide +kernel
theorem d5_linkStatement_98 : zd cX5_linkStatement 98 (.getfield 141) 3 101 := by decide +kernel
theorem d5_linkStatement_101 : zd cX5_linkStatement 101 (.iload_n 1) 1 102 := by decide +kernel
theorem d5_linkStatement_102 : zd cX5_linkStatement 102 (.aload_n 0) 1 103 := by decide +kernel
theorem d5_linkStatement_103 : zd cX5_linkStatement 103 (.getfield 105) 3 106 := by decide +kernel
theorem d5_linkStatement_106 : zd cX5_linkStatement 106 (.iastore) 1 107 := by decide +kernel
theorem d5_linkStatement_107 : zd cX5_linkStatement 107 (.aload_n 0) 1 108 := by decide +kernel
theorem d5_linkStatement_108 : zd cX5_linkStatement 108 (.ldc 46) 2 110 := by decide +kernel
theorem d5_linkStatement_110 : zd cX5_linkStatement 110 (.invokevirtual 99) 3 113 := by decide +kernel
theorem d5_linkStatement_113 : zj cX5_linkStatement 113 (.ifCond .eq 12) 12 116 125 := by decide +kernel
theorem d5_linkStatement_116 : zd cX5_linkStatement 116 (.aload_n 0) 1 117 := by decide +kernel
theorem d5_linkStatement_117 : zd cX5_linkStatement 117 (.iconst 1) 1 118 := by decide +kernel
theorem d5_linkStatement_118 : zd cX5_linkStatement 118 (.iconst 3) 1 119 := by decide +kernel
theorem d5_linkStatement_119 : zd cX5_linkStatement 119 (.invokevirtual 102) 3 122 := by decide +kernel
theorem d5_linkStatement_122 : zj cX5_linkStatement 122 (.ifCond .ne 5) 5 125 127 := by decide +kernel
theorem d5_linkStatement_125 : zd cX5_linkStatement 125 (.iconst 0) 1 126 := by decide +kernel
theorem d5_linkStatement_126 : zd cX5_linkStatement 126 (.ireturn) 1 127 := by decide +kernel
theorem d5_linkStatement_127 : zd cX5_linkStatement 127 (.aload_n 0) 1 128 := by decide +kernel
theorem d5_linkStatement_128 : zd cX5_linkStatement 128 (.getfield 18) 3 131 := by decide +kernel
theorem d5_linkStatement_131 : zd cX5_linkStatement 131 (.getfield 143) 3 134 := by decide +kernel
theorem d5_linkStatement_134 : zd cX5_linkStatement 134 (.iload_n 1) 1 135 := by decide +kernel
theorem d5_linkStatement_135 : zd cX5_linkStatement 135 (.aload_n 0) 1 136 := by decide +kernel
theorem d5_linkStatement_136 : zd cX5_linkStatement 136 (.getfield 105) 3 139 := by decide +kernel
theorem d5_linkStatement_139 : zd cX5_linkStatement 139 (.iastore) 1 140 := by decide +kernel
theorem d5_linkStatement_140 : zd cX5_linkStatement 140 (.aload_n 0) 1 141 := by decide +kernel
theorem d5_linkStatement_141 : zd cX5_linkStatement 141 (.getfield 18) 3 144 := by decide +kernel
theorem d5_linkStatement_144 : zd cX5_linkStatement 144 (.dup) 1 145 := by decide +kernel
theorem d5_linkStatement_145 : zd cX5_linkStatement 145 (.getfield 134) 3 148 := by decide +kernel
theorem d5_linkStatement_148 : zd cX5_linkStatement 148 (.iconst 1) 1 149 := by decide +kernel
theorem d5_linkStatement_149 : zd cX5_linkStatement 149 (.iadd) 1 150 := by decide +kernel
theorem d5_linkStatement_150 : zd cX5_linkStatement 150 (.putfield 134) 3 153 := by decide +kernel
theorem d5_linkStatement_153 : zd cX5_linkStatement 153 (.iconst 1) 1 154 := by decide +kernel
theorem d5_linkStatement_154 : zd cX5_linkStatement 154 (.ireturn) 1 155 := by decide +kernel
set_option maxHeartbeats 4000000 in
set_option maxRecDepth 20000 in
theorem c5_linkStatement (l : Launch) (D : zDt) (Sh : zSh) (top : Nat) (hO : zOK Sh) (o_ : Nat) (μ : zM) (r_ : Bool) (μ_ : zM) (ho : (Sh o_).1 = 12) (h : f5_linkStatement o_ μ = some (r_, μ_)) : zMet l D zK1 yX5_linkStatement cX5_linkStatement 2 (some .boolean) (zrm 11 259) [.ref o_] Sh top μ (some (.int (bI r_))) Sh top μ_ 0 0 := by
  refine zMet_of (by decide) (Nat.le_of_ble_eq_true rfl) fun X hX1 hX2 fx fin => ?_
  subst hX1; subst hX2
  replace fx : zFix X cX5_linkStatement RX5 (zrm 11 259) 2 := fx
  show zZ zK1 X (zT0 Sh top) μ 0 [(0, .ref o_)] []
  unfold f5_linkStatement at h
  refine z_aload_n fx (k := 0) (i := 0) rfl rfl d5_linkStatement_0 ?_
  obtain ⟨w1, e1, h⟩ := zinv h
  refine z_getR fx 5 9 509 17 ho lf5_18 ⟨fk5_9, rfl⟩ e1 d5_linkStatement_1 (fun tw1 => ?_)
  refine z_getI fx 10 16 1016 tw1 lf5_134 ⟨fk10_16, rfl⟩ d5_linkStatement_4 ?_
  refine z_bipush fx (v := 14) bp14 d5_linkStatement_7 ?_
  refine z_icmp_ne fx d5_linkStatement_9 (fun c2 => ?_) (fun c2 => ?_)
  · replace h := zif_f c2 h
    refine z_aload_n fx (k := 0) (i := 0) rfl rfl d5_linkStatement_22 ?_
    obtain ⟨w2, e3, h⟩ := zinv h
    refine z_getR fx 5 9 509 17 ho lf5_18 ⟨fk5_9, rfl⟩ e3 d5_linkStatement_23 (fun tw2 => ?_)
    refine z_getI fx 10 16 1016 tw2 lf5_134 ⟨fk10_16, rfl⟩ d5_linkStatement_26 ?_
    obtain ⟨v_link_3, e4, h⟩ := zinv h
    replace e4 := Option.some.inj e4
    refine z_top (congrArg Value.int e4) ?_
    refine z_istore_n fx (k := 1) (i := 1) rfl rfl (lv' := [(0, .ref o_), (1, .int v_link_3)]) rfl rfl d5_linkStatement_29 ?_
    obtain ⟨b4, μ5, e6, h⟩ := zinv2 h
    have kt5 : b4 = true → zZ zK1 X (zT0 Sh top) μ5 70 [(0, .ref o_), (1, .int v_link_3)] [] := by
      intro hc
      replace h := zif_t hc h
      refine z_iconst fx (v := 0) ic0 d5_linkStatement_70 ?_
      refine z_top (show Value.int 0 = .int (bI false) from rfl) ?_
      cases h
      exact z_zreturn fx fin d5_linkStatement_71
    have kf5 : b4 = false → zZ zK1 X (zT0 Sh top) μ5 72 [(0, .ref o_), (1, .int v_link_3)] [] := by
      intro hc
      replace h := zif_f hc h
      obtain ⟨b6, μ7, e8, h⟩ := zinv2 h
      have kt7 : b6 = true → zZ zK1 X (zT0 Sh top) μ7 92 [(0, .ref o_), (1, .int v_link_3)] [] := by
        intro hc
        replace h := zif_t hc h
        refine z_iconst fx (v := 0) ic0 d5_linkStatement_92 ?_
        refine z_top (show Value.int 0 = .int (bI false) from rfl) ?_
        cases h
        exact z_zreturn fx fin d5_linkStatement_93
      have kf7 : b6 = false → zZ zK1 X (zT0 Sh top) μ7 94 [(0, .ref o_), (1, .int v_link_3)] [] := by
        intro hc
        replace h := zif_f hc h
        refine z_aload_n fx (k := 0) (i := 0) rfl rfl d5_linkStatement_94 ?_
        obtain ⟨w8, e9, h⟩ := zinv h
        refine z_getR fx 5 9 509 17 ho lf5_18 ⟨fk5_9, rfl⟩ e9 d5_linkStatement_95 (fun tw8 => ?_)
        refine z_getO fx 10 9 10 tw8 lf5_141 fk10_9 d5_linkStatement_98 ?_
        refine z_iload_n fx (k := 1) (i := 1) rfl rfl d5_linkStatement_101 ?_
        refine z_aload_n fx (k := 0) (i := 0) rfl rfl d5_linkStatement_102 ?_
        refine z_getI fx 5 5 505 ho lf5_105 ⟨fk5_5, rfl⟩ d5_linkStatement_103 ?_
        obtain ⟨μ9, e10, h⟩ := zinv h
        refine z_iast fx (ok10_9 hO tw8) e10 d5_linkStatement_106 ?_
        obtain ⟨b10, μ11, e12, h⟩ := zinv2 h
        have kt11 : b10 = true → zZ zK1 X (zT0 Sh top) μ11 125 [(0, .ref o_), (1, .int v_link_3)] [] := by
          intro hc
          replace h := zif_t hc h
          refine z_iconst fx (v := 0) ic0 d5_linkStatement_125 ?_
          refine z_top (show Value.int 0 = .int (bI false) from rfl) ?_
          cases h
          exact z_zreturn fx fin d5_linkStatement_126
        have kf11 : b10 = false → zZ zK1 X (zT0 Sh top) μ11 127 [(0, .ref o_), (1, .int v_link_3)] [] := by
          intro hc
          replace h := zif_f hc h
          refine z_aload_n fx (k := 0) (i := 0) rfl rfl d5_linkStatement_127 ?_
          obtain ⟨w12, e13, h⟩ := zinv h
          refine z_getR fx 5 9 509 17 ho lf5_18 ⟨fk5_9, rfl⟩ e13 d5_linkStatement_128 (fun tw12 => ?_)
          refine z_getO fx 10 10 11 tw12 lf5_143 fk10_10 d5_linkStatement_131 ?_
          refine z_iload_n fx (k := 1) (i := 1) rfl rfl d5_linkStatement_134 ?_
          refine z_aload_n fx (k := 0) (i := 0) rfl rfl d5_linkStatement_135 ?_
          refine z_getI fx 5 5 505 ho lf5_105 ⟨fk5_5, rfl⟩ d5_linkStatement_136 ?_
          obtain ⟨μ13, e14, h⟩ := zinv h
          refine z_iast fx (ok10_10 hO tw12) e14 d5_linkStatement_139 ?_
          refine z_aload_n fx (k := 0) (i := 0) rfl rfl d5_linkStatement_140 ?_
          obtain ⟨w14, e15, h⟩ := zinv h
          refine z_getR fx 5 9 509 17 ho lf5_18 ⟨fk5_9, rfl⟩ e15 d5_linkStatement_141 (fun tw14 => ?_)
          refine z_dup fx rfl d5_linkStatement_144 ?_
          refine z_getI fx 10 16 1016 tw14 lf5_134 ⟨fk10_16, rfl⟩ d5_linkStatement_145 ?_
          refine z_iconst fx (v := 1) ic1 d5_linkStatement_148 ?_
          refine z_iadd fx d5_linkStatement_149 ?_
          obtain ⟨μ15, e16, h⟩ := zinv h
          refine z_putI fx (ci := 10) 16 tw14 lf5_134 fp10_16 e16 d5_linkStatement_150 ?_
          refine z_iconst fx (v := 1) ic1 d5_linkStatement_153 ?_
          refine z_top (show Value.int 1 = .int (bI true) from rfl) ?_
          cases h
          exact z_zreturn fx fin d5_linkStatement_154
        clear h
        obtain ⟨b16, μ17, e17, e12⟩ := zinv2 e12
        have kf18 : b16 = false → zZ zK1 X (zT0 Sh top) μ17 116 [(0, .ref o_), (1, .int v_link_3)] [] := by
          intro hc
          replace e12 := zif_f hc e12
          refine z_aload_n fx (k := 0) (i := 0) rfl rfl d5_linkStatement_116 ?_
          refine z_iconst fx (v := 1) ic1 d5_linkStatement_117 ?_
          refine z_iconst fx (v := 3) ic3 d5_linkStatement_118 ?_
          obtain ⟨t18, μ19, e19, e12⟩ := zinv2 e12
          refine z_cVr fx (c5_number (zLo X) (zDo X) Sh top hO o_ 1 3 μ17 _ _ ho e19) mv5_number ml5_102 ho rfl rfl rfl rfl d5_linkStatement_119 ?_
          cases e12
          refine z_ifb_ne fx d5_linkStatement_122 (fun c20 => ?_) (fun c20 => ?_)
          · exact kf11 (by rw [c20]; rfl)
          · exact kt11 (by rw [c20]; rfl)
        have kt18 : b16 = true → zZ zK1 X (zT0 Sh top) μ17 125 [(0, .ref o_), (1, .int v_link_3)] [] := by
          intro hc
          replace e12 := zif_t hc e12
          cases e12
          exact kt11 rfl
        clear e12
        refine z_aload_n fx (k := 0) (i := 0) rfl rfl d5_linkStatement_107 ?_
        refine z_ldcS fx 10 (by decide) d5_linkStatement_108 ?_
        obtain ⟨t20, μ21, e21, e17⟩ := zinv2 e17
        refine z_cVr fx (c5_word (zLo X) (zDo X) Sh top hO o_ 10 μ9 _ _ ho (by decide) e21) mv5_word ml5_99 ho rfl rfl rfl rfl d5_linkStatement_110 ?_
        cases e17
        refine z_ifb_eq fx d5_linkStatement_113 (fun c22 => ?_) (fun c22 => ?_)
        · exact kt18 (by rw [c22]; rfl)
        · exact kf18 (by rw [c22]; rfl)
      clear h
      obtain ⟨b22, μ23, e23, e8⟩ := zinv2 e8
      have kf24 : b22 = false → zZ zK1 X (zT0 Sh top) μ23 81 [(0, .ref o_), (1, .int v_link_3)] [] := by
        intro hc
        replace e8 := zif_f hc e8
        refine z_aload_n fx (k := 0) (i := 0) rfl rfl d5_linkStatement_81 ?_
        refine z_iconst fx (v := 1) ic1 d5_linkStatement_82 ?_
        refine z_sipush fx (v := 200) sp200 d5_linkStatement_83 ?_
        obtain ⟨t24, μ25, e25, e8⟩ := zinv2 e8
        refine z_cVr fx (c5_number (zLo X) (zDo X) Sh top hO o_ 1 200 μ23 _ _ ho e25) mv5_number ml5_102 ho rfl rfl rfl rfl d5_linkStatement_86 ?_
        cases e8
        refine z_ifb_ne fx d5_linkStatement_89 (fun c26 => ?_) (fun c26 => ?_)
        · exact kf7 (by rw [c26]; rfl)
        · exact kt7 (by rw [c26]; rfl)
      have kt24 : b22 = true → zZ zK1 X (zT0 Sh top) μ23 92 [(0, .ref o_), (1, .int v_link_3)] [] := by
        intro hc
        replace e8 := zif_t hc e8
        cases e8
        exact kt7 rfl
      clear e8
      refine z_aload_n fx (k := 0) (i := 0) rfl rfl d5_linkStatement_72 ?_
      refine z_ldcS fx 9 (by decide) d5_linkStatement_73 ?_
      obtain ⟨t26, μ27, e27, e23⟩ := zinv2 e23
      refine z_cVr fx (c5_word (zLo X) (zDo X) Sh top hO o_ 9 μ5 _ _ ho (by decide) e27) mv5_word ml5_99 ho rfl rfl rfl rfl d5_linkStatement_75 ?_
      cases e23
      refine z_ifb_eq fx d5_linkStatement_78 (fun c28 => ?_) (fun c28 => ?_)
      · exact kt24 (by rw [c28]; rfl)
      · exact kf24 (by rw [c28]; rfl)
    clear h
    obtain ⟨b28, μ29, e29, e6⟩ := zinv2 e6
    have kf30 : b28 = false → zZ zK1 X (zT0 Sh top) μ29 58 [(0, .ref o_), (1, .int v_link_3)] [] := by
      intro hc
      replace e6 := zif_f hc e6
      refine z_aload_n fx (k := 0) (i := 0) rfl rfl d5_linkStatement_58 ?_
      refine z_iconst fx (v := 2) ic2 d5_linkStatement_59 ?_
      refine z_iload_n fx (k := 1) (i := 1) rfl rfl d5_linkStatement_60 ?_
      refine z_imul fx d5_linkStatement_61 ?_
      refine z_iconst fx (v := 1) ic1 d5_linkStatement_62 ?_
      refine z_iadd fx d5_linkStatement_63 ?_
      obtain ⟨t30, μ31, e31, e6⟩ := zinv2 e6
      refine z_cVr fx (c5_linkEnd (zLo X) (zDo X) Sh top hO o_ ((2 * v_link_3) + 1) μ29 _ _ ho e31) mv5_linkEnd ml5_137 ho rfl rfl rfl rfl d5_linkStatement_64 ?_
      cases e6
      refine z_ifb_ne fx d5_linkStatement_67 (fun c32 => ?_) (fun c32 => ?_)
      · exact kf5 (by rw [c32]; rfl)
      · exact kt5 (by rw [c32]; rfl)
    have kt30 : b28 = true → zZ zK1 X (zT0 Sh top) μ29 70 [(0, .ref o_), (1, .int v_link_3)] [] := by
      intro hc
      replace e6 := zif_t hc e6
      cases e6
      exact kt5 rfl
    clear e6
    obtain ⟨b32, μ33, e33, e29⟩ := zinv2 e29
    have kf34 : b32 = false → zZ zK1 X (zT0 Sh top) μ33 49 [(0, .ref o_), (1, .int v_link_3)] [] := by
      intro hc
      replace e29 := zif_f hc e29
      refine z_aload_n fx (k := 0) (i := 0) rfl rfl d5_linkStatement_49 ?_
      refine z_ldcS fx 8 (by decide) d5_linkStatement_50 ?_
      obtain ⟨t34, μ35, e35, e29⟩ := zinv2 e29
      refine z_cVr fx (c5_word (zLo X) (zDo X) Sh top hO o_ 8 μ33 _ _ ho (by decide) e35) mv5_word ml5_99 ho rfl rfl rfl rfl d5_linkStatement_52 ?_
      cases e29
      refine z_ifb_eq fx d5_linkStatement_55 (fun c36 => ?_) (fun c36 => ?_)
      · exact kt30 (by rw [c36]; rfl)
      · exact kf30 (by rw [c36]; rfl)
    have kt34 : b32 = true → zZ zK1 X (zT0 Sh top) μ33 70 [(0, .ref o_), (1, .int v_link_3)] [] := by
      intro hc
      replace e29 := zif_t hc e29
      cases e29
      exact kt30 rfl
    clear e29
    obtain ⟨b36, μ37, e37, e33⟩ := zinv2 e33
    have kf38 : b36 = false → zZ zK1 X (zT0 Sh top) μ37 39 [(0, .ref o_), (1, .int v_link_3)] [] := by
      intro hc
      replace e33 := zif_f hc e33
      refine z_aload_n fx (k := 0) (i := 0) rfl rfl d5_linkStatement_39 ?_
      refine z_iconst fx (v := 2) ic2 d5_linkStatement_40 ?_
      refine z_iload_n fx (k := 1) (i := 1) rfl rfl d5_linkStatement_41 ?_
      refine z_imul fx d5_linkStatement_42 ?_
      obtain ⟨t38, μ39, e39, e33⟩ := zinv2 e33
      refine z_cVr fx (c5_linkEnd (zLo X) (zDo X) Sh top hO o_ (2 * v_link_3) μ37 _ _ ho e39) mv5_linkEnd ml5_137 ho rfl rfl rfl rfl d5_linkStatement_43 ?_
      cases e33
      refine z_ifb_eq fx d5_linkStatement_46 (fun c40 => ?_) (fun c40 => ?_)
      · exact kt34 (by rw [c40]; rfl)
      · exact kf34 (by rw [c40]; rfl)
    have kt38 : b36 = true → zZ zK1 X (zT0 Sh top) μ37 70 [(0, .ref o_), (1, .int v_link_3)] [] := by
      intro hc
      replace e33 := zif_t hc e33
      cases e33
      exact kt34 rfl
    clear e33
    refine z_aload_n fx (k := 0) (i := 0) rfl rfl d5_linkStatement_30 ?_
    refine z_ldcS fx 6 (by decide) d5_linkStatement_31 ?_
    obtain ⟨t40, μ41, e41, e37⟩ := zinv2 e37
    refine z_cVr fx (c5_word (zLo X) (zDo X) Sh top hO o_ 6 μ _ _ ho (by decide) e41) mv5_word ml5_99 ho rfl rfl rfl rfl d5_linkStatement_33 ?_
    cases e37
    refine z_ifb_eq fx d5_linkStatement_36 (fun c42 => ?_) (fun c42 => ?_)
    · exact kt38 (by rw [c42]; rfl)
    · exact kf38 (by rw [c42]; rfl)
  · replace h := zif_t c2 h
    refine z_aload_n fx (k := 0) (i := 0) rfl rfl d5_linkStatement_12 ?_
    refine z_iconst fx (v := 5) ic5 d5_linkStatement_13 ?_
    refine z_aload_n fx (k := 0) (i := 0) rfl rfl d5_linkStatement_14 ?_
    refine z_getI fx 5 3 503 ho lf5_60 ⟨fk5_3, rfl⟩ d5_linkStatement_15 ?_
    obtain ⟨t42, μ43, e43, h⟩ := zinv2 h
    refine z_cVr fx (c5_fails (zLo X) (zDo X) Sh top hO o_ 5 (gF μ 503 o_) μ _ _ ho e43) mv5_fails ml5_92 ho rfl rfl rfl rfl d5_linkStatement_18 ?_
    cases h
    exact z_zreturn fx fin d5_linkStatement_21
