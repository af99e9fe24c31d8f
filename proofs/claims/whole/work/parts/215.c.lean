theorem d12_run_0 : zd cX12_run 0 (.aload_n 0) 1 1 := by decide +kernel
theorem d12_run_1 : zd cX12_run 1 (.iconst 0) 1 2 := by decide +kernel
theorem d12_run_2 : zd cX12_run 2 (.putfield 144) 3 5 := by decide +kernel
theorem d12_run_5 : zd cX12_run 5 (.aload_n 0) 1 6 := by decide +kernel
theorem d12_run_6 : zd cX12_run 6 (.getfield 150) 3 9 := by decide +kernel
theorem d12_run_9 : zj cX12_run 9 (.ifCond .eq 27) 27 12 36 := by decide +kernel
theorem d12_run_12 : zd cX12_run 12 (.iload_n 1) 1 13 := by decide +kernel
theorem d12_run_13 : zd cX12_run 13 (.iconst 1) 1 14 := by decide +kernel
theorem d12_run_14 : zd cX12_run 14 (.sipush 200) 3 17 := by decide +kernel
theorem d12_run_17 : zd cX12_run 17 (.invokestatic 250) 3 20 := by decide +kernel
theorem d12_run_20 : zj cX12_run 20 (.ifCond .eq 16) 16 23 36 := by decide +kernel
theorem d12_run_23 : zd cX12_run 23 (.aload_n 0) 1 24 := by decide +kernel
theorem d12_run_24 : zd cX12_run 24 (.iconst 0) 1 25 := by decide +kernel
theorem d12_run_25 : zd cX12_run 25 (.invokevirtual 316) 3 28 := by decide +kernel
theorem d12_run_28 : zd cX12_run 28 (.iload_n 1) 1 29 := by decide +kernel
theorem d12_run_29 : zd cX12_run 29 (.iadd) 1 30 := by decide +kernel
theorem d12_run_30 : zd cX12_run 30 (.sipush 9999) 3 33 := by decide +kernel
theorem d12_run_33 : zj cX12_run 33 (.if_icmp .le 9) 9 36 42 := by decide +kernel
theorem d12_run_36 : zd cX12_run 36 (.aload_n 0) 1 37 := by decide +kernel
theorem d12_run_37 : zd cX12_run 37 (.iconst 2) 1 38 := by decide +kernel
theorem d12_run_38 : zd cX12_run 38 (.invokevirtual 214) 3 41 := by decide +kernel
theorem d12_run_41 : zd cX12_run 41 (.ireturn) 1 42 := by decide +kernel
theorem d12_run_42 : zd cX12_run 42 (.aload_n 0) 1 43 := by decide +kernel
theorem d12_run_43 : zd cX12_run 43 (.invokevirtual 542) 3 46 := by decide +kernel
theorem d12_run_46 : zd cX12_run 46 (.iconst 0) 1 47 := by decide +kernel
theorem d12_run_47 : zd cX12_run 47 (.istore_n 2) 1 48 := by decide +kernel
theorem d12_run_48 : zd cX12_run 48 (.iload_n 2) 1 49 := by decide +kernel
theorem d12_run_49 : zd cX12_run 49 (.iload_n 1) 1 50 := by decide +kernel
theorem d12_run_50 : zj cX12_run 50 (.if_icmp .ge 13) 13 53 63 := by decide +kernel
theorem d12_run_53 : zd cX12_run 53 (.aload_n 0) 1 54 := by decide +kernel
theorem d12_run_54 : zd cX12_run 54 (.invokevirtual 511) 3 57 := by decide +kernel
theorem d12_run_57 : zd cX12_run 57 (.iinc 2 1) 3 60 := by decide +kernel
theorem d12_run_60 : zj cX12_run 60 (.goto (-12)) (-12) 63 48 := by decide +kernel
theorem d12_run_63 : zd cX12_run 63 (.aload_n 0) 1 64 := by decide +kernel
theorem d12_run_64 : zd cX12_run 64 (.iconst 0) 1 65 := by decide +kernel
theorem d12_run_65 : zd cX12_run 65 (.invokevirtual 316) 3 68 := by decide +kernel
theorem d12_run_68 : zd cX12_run 68 (.ireturn) 1 69 := by decide +kernel
set_option maxHeartbeats 4000000 in
set_option maxRecDepth 20000 in
theorem c12_run (l : Launch) (D : zDt) (Sh : zSh) (top : Nat) (hO : zOK Sh) (o_ : Nat) (v_n : Int32) (μ : zM) (r_ : Int32) (μ_ : zM) (ho : (Sh o_).1 = 19) (h : f12_run o_ v_n μ = some (r_, μ_)) : zMet l D zK1 yX12_run cX12_run 3 (some .int) (zrm 11 254) [.ref o_, .int v_n] Sh top μ (some (.int r_)) Sh top μ_ 0 0 := by
  refine zMet_of (by decide) (Nat.le_of_ble_eq_true rfl) fun X hX1 hX2 fx fin => ?_
  subst hX1; subst hX2
  replace fx : zFix X cX12_run RX12 (zrm 11 254) 3 := fx
  show zZ zK1 X (zT0 Sh top) μ 0 [(0, .ref o_), (1, .int v_n)] []
  unfold f12_run at h
  refine z_aload_n fx (k := 0) (i := 0) rfl rfl d12_run_0 ?_
  refine z_iconst fx (v := 0) ic0 d12_run_1 ?_
  obtain ⟨μ1, e1, h⟩ := zinv h
  refine z_putI fx (ci := 12) 44 ho lf12_144 fp12_44 e1 d12_run_2 ?_
  obtain ⟨b2, e3, h⟩ := zinv h
  have kt2 : b2 = true → zZ zK1 X (zT0 Sh top) μ1 36 [(0, .ref o_), (1, .int v_n)] [] := by
    intro hc
    replace h := zif_t hc h
    refine z_aload_n fx (k := 0) (i := 0) rfl rfl d12_run_36 ?_
    refine z_iconst fx (v := 2) ic2 d12_run_37 ?_
    obtain ⟨t3, μ4, e4, h⟩ := zinv2 h
    refine z_cVr fx (c12_refuses (zLo X) (zDo X) Sh top hO o_ 2 μ1 _ _ ho e4) mv12_refuses ml12_214 ho rfl rfl rfl rfl d12_run_38 ?_
    cases h
    exact z_ireturn fx fin d12_run_41
  have kf2 : b2 = false → zZ zK1 X (zT0 Sh top) μ1 42 [(0, .ref o_), (1, .int v_n)] [] := by
    intro hc
    replace h := zif_f hc h
    refine z_aload_n fx (k := 0) (i := 0) rfl rfl d12_run_42 ?_
    obtain ⟨μ5, e5, h⟩ := zinv h
    refine z_cVv fx (c12_remembers (zLo X) (zDo X) Sh top hO o_ μ1 _ ho e5) mv12_remembers ml12_542 ho rfl rfl rfl rfl d12_run_43 ?_
    refine z_iconst fx (v := 0) ic0 d12_run_46 ?_
    refine z_istore_n fx (k := 2) (i := 2) rfl rfl (lv' := [(0, .ref o_), (1, .int v_n), (2, .int 0)]) rfl rfl d12_run_47 ?_
    obtain ⟨v_k_8, μ9, e15, h⟩ := zinv2 h
    have kx9 : zZ zK1 X (zT0 Sh top) μ9 63 [(0, .ref o_), (1, .int v_n), (2, .int v_k_8)] [] := by
      refine z_take 2 (lv' := [(0, .ref o_), (1, .int v_n)]) rfl ?_
      refine z_aload_n fx (k := 0) (i := 0) rfl rfl d12_run_63 ?_
      refine z_iconst fx (v := 0) ic0 d12_run_64 ?_
      obtain ⟨t12, e14, h⟩ := zinv h
      refine z_cVr fx (c12_its (zLo X) (zDo X) Sh top hO o_ 0 μ9 _ ho e14) mv12_its ml12_316 ho rfl rfl rfl rfl d12_run_65 ?_
      cases h
      exact z_ireturn fx fin d12_run_68
    clear h
    have klr8 : ∀ (n : Nat) (v_k_6 : Int32) (μ7 : zM), zloop (fun s => f12_run_L1 o_ v_n s.1 s.2) n (v_k_6, μ7) = some (v_k_8, μ9) → zZ zK1 X (zT0 Sh top) μ7 48 [(0, .ref o_), (1, .int v_n), (2, .int v_k_6)] [] := by
      intro n
      induction n with
      | zero => intro v_k_6 μ7 hl7; cases hl7
      | succ n ih10 =>
        intro v_k_6 μ7 hl7
        obtain ⟨y, e6, hl7⟩ := zloop_inv hl7
        replace e6 : f12_run_L1 o_ v_n v_k_6 μ7 = some y := e6
        unfold f12_run_L1 at e6
        refine z_iload_n fx (k := 2) (i := 2) rfl rfl d12_run_48 ?_
        refine z_iload_n fx (k := 1) (i := 1) rfl rfl d12_run_49 ?_
        refine z_icmp_ge fx d12_run_50 (fun c11 => ?_) (fun c11 => ?_)
        · replace e6 := zif_f c11 e6
          cases e6
          cases hl7
          exact kx9
        · replace e6 := zif_t c11 e6
          refine z_aload_n fx (k := 0) (i := 0) rfl rfl d12_run_53 ?_
          obtain ⟨μ10, e12, e6⟩ := zinv e6
          refine z_cVv fx (c12_steps (zLo X) (zDo X) Sh top hO o_ μ7 _ ho e12) mv12_steps ml12_511 ho rfl rfl rfl rfl d12_run_54 ?_
          obtain ⟨v_k_11, e13, e6⟩ := zinv e6
          replace e13 := Option.some.inj e13
          refine z_iinc fx (i := 2) (x := v_k_6) (v := v_k_11) rfl (by rw [in1]; exact e13) rfl (lv' := [(0, .ref o_), (1, .int v_n), (2, .int v_k_11)]) rfl rfl d12_run_57 ?_
          cases e6
          refine z_goto fx d12_run_60 ?_
          exact ih10 _ _ hl7
    exact klr8 _ _ _ e15
  clear h
  obtain ⟨b13, e16, e3⟩ := zinv e3
  have kf17 : b13 = false → zZ zK1 X (zT0 Sh top) μ1 23 [(0, .ref o_), (1, .int v_n)] [] := by
    intro hc
    replace e3 := zif_f hc e3
    refine z_aload_n fx (k := 0) (i := 0) rfl rfl d12_run_23 ?_
    refine z_iconst fx (v := 0) ic0 d12_run_24 ?_
    obtain ⟨t14, e18, e3⟩ := zinv e3
    refine z_cVr fx (c12_its (zLo X) (zDo X) Sh top hO o_ 0 μ1 _ ho e18) mv12_its ml12_316 ho rfl rfl rfl rfl d12_run_25 ?_
    refine z_iload_n fx (k := 1) (i := 1) rfl rfl d12_run_28 ?_
    refine z_iadd fx d12_run_29 ?_
    refine z_sipush fx (v := 9999) sp9999 d12_run_30 ?_
    cases e3
    refine z_icmp_le fx d12_run_33 (fun c19 => ?_) (fun c19 => ?_)
    · exact kf2 c19
    · exact kt2 c19
  have kt17 : b13 = true → zZ zK1 X (zT0 Sh top) μ1 36 [(0, .ref o_), (1, .int v_n)] [] := by
    intro hc
    replace e3 := zif_t hc e3
    cases e3
    exact kt2 rfl
  clear e3
  refine z_aload_n fx (k := 0) (i := 0) rfl rfl d12_run_5 ?_
  refine z_getB fx 12 46 1246 ho lf12_150 ⟨fk12_46, rfl⟩ d12_run_6 ?_
  refine z_ifb_eq fx d12_run_9 (fun c20 => ?_) (fun c20 => ?_)
  · replace e16 := zif_f c20 e16
    cases e16
    exact kt17 rfl
  · replace e16 := zif_t c20 e16
    refine z_iload_n fx (k := 1) (i := 1) rfl rfl d12_run_12 ?_
    refine z_iconst fx (v := 1) ic1 d12_run_13 ?_
    refine z_sipush fx (v := 200) sp200 d12_run_14 ?_
    obtain ⟨t15, e21, e16⟩ := zinv e16
    refine z_cSr fx (c12_isIn (zLo X) (zDo X) Sh top hO v_n 1 200 μ1 _  e21) ms12_isIn ml12_250 rfl rfl rfl rfl d12_run_17 ?_
    cases e16
    refine z_ifb_eq fx d12_run_20 (fun c22 => ?_) (fun c22 => ?_)
    · exact kt17 (by rw [c22]; rfl)
    · exact kf17 (by rw [c22]; rfl)
theorem d12_isRefused_0 : zd cX12_isRefused 0 (.aload_n 0) 1 1 := by decide +kernel
theorem d12_isRefused_1 : zd cX12_isRefused 1 (.getfield 110) 3 4 := by decide +kernel
theorem d12_isRefused_4 : zd cX12_isRefused 4 (.iload_n 1) 1 5 := by decide +kernel
theorem d12_isRefused_5 : zd cX12_isRefused 5 (.dup2) 1 6 := by decide +kernel
theorem d12_isRefused_6 : zd cX12_isRefused 6 (.iaload) 1 7 := by decide +kernel
theorem d12_isRefused_7 : zd cX12_isRefused 7 (.iconst 1) 1 8 := by decide +kernel
theorem d12_isRefused_8 : zd cX12_isRefused 8 (.iadd) 1 9 := by decide +kernel
theorem d12_isRefused_9 : zd cX12_isRefused 9 (.iastore) 1 10 := by decide +kernel
theorem d12_isRefused_10 : zd cX12_isRefused 10 (.iconst 0) 1 11 := by decide +kernel
theorem d12_isRefused_11 : zd cX12_isRefused 11 (.ireturn) 1 12 := by decide +kernel
set_option maxHeartbeats 4000000 in
set_option maxRecDepth 20000 in
theorem c12_isRefused (l : Launch) (D : zDt) (Sh : zSh) (top : Nat) (hO : zOK Sh) (o_ : Nat) (v_why : Int32) (μ : zM) (r_ : Bool) (μ_ : zM) (ho : (Sh o_).1 = 19) (h : f12_isRefused o_ v_why μ = some (r_, μ_)) : zMet l D zK1 yX12_isRefused cX12_isRefused 2 (some .boolean) (zrm 0 0) [.ref o_, .int v_why] Sh top μ (some (.int (bI r_))) Sh top μ_ 0 0 := by
  refine zMet_of (by decide) (Nat.le_of_ble_eq_true rfl) fun X hX1 hX2 fx fin => ?_
  subst hX1; subst hX2
  replace fx : zFix X cX12_isRefused RX12 (zrm 0 0) 2 := fx
  show zZ zK1 X (zT0 Sh top) μ 0 [(0, .ref o_), (1, .int v_why)] []
  unfold f12_isRefused at h
  refine z_aload_n fx (k := 0) (i := 0) rfl rfl d12_isRefused_0 ?_
  refine z_getO fx 12 33 22 ho lf12_110 fk12_33 d12_isRefused_1 ?_
  refine z_iload_n fx (k := 1) (i := 1) rfl rfl d12_isRefused_4 ?_
  refine z_dup2 fx rfl rfl d12_isRefused_5 ?_
  obtain ⟨t1, e1, h⟩ := zinv h
  refine z_iald fx (ok12_33 hO ho) e1 d12_isRefused_6 ?_
  refine z_iconst fx (v := 1) ic1 d12_isRefused_7 ?_
  refine z_iadd fx d12_isRefused_8 ?_
  obtain ⟨μ2, e2, h⟩ := zinv h
  refine z_iast fx (ok12_33 hO ho) e2 d12_isRefused_9 ?_
  refine z_iconst fx (v := 0) ic0 d12_isRefused_10 ?_
  refine z_top (show Value.int 0 = .int (bI false) from rfl) ?_
  cases h
  exact z_zreturn fx fin d12_isRefused_11
theorem d12_cut_0 : zd cX12_cut 0 (.aload_n 0) 1 1 := by decide +kernel
theorem d12_cut_1 : zd cX12_cut 1 (.iload_n 1) 1 2 := by decide +kernel
theorem d12_cut_2 : zd cX12_cut 2 (.invokevirtual 526) 3 5 := by decide +kernel
theorem d12_cut_5 : zj cX12_cut 5 (.ifCond .ne 9) 9 8 14 := by decide +kernel
theorem d12_cut_8 : zd cX12_cut 8 (.aload_n 0) 1 9 := by decide +kernel
theorem d12_cut_9 : zd cX12_cut 9 (.iconst 3) 1 10 := by decide +kernel
theorem d12_cut_10 : zd cX12_cut 10 (.invokevirtual 545) 3 13 := by decide +kernel
theorem d12_cut_13 : zd cX12_cut 13 (.ireturn) 1 14 := by decide +kernel
theorem d12_cut_14 : zd cX12_cut 14 (.aload_n 0) 1 15 := by decide +kernel
theorem d12_cut_15 : zd cX12_cut 15 (.invokevirtual 542) 3 18 := by decide +kernel
theorem d12_cut_18 : zd cX12_cut 18 (.aload_n 0) 1 19 := by decide +kernel
theorem d12_cut_19 : zd cX12_cut 19 (.iload_n 1) 1 20 := by decide +kernel
theorem d12_cut_20 : zd cX12_cut 20 (.invokevirtual 520) 3 23 := by decide +kernel
theorem d12_cut_23 : zd cX12_cut 23 (.iconst 1) 1 24 := by decide +kernel
theorem d12_cut_24 : zd cX12_cut 24 (.ireturn) 1 25 := by decide +kernel
set_option maxHeartbeats 4000000 in
set_option maxRecDepth 20000 in
theorem c12_cut (l : Launch) (D : zDt) (Sh : zSh) (top : Nat) (hO : zOK Sh) (o_ : Nat) (v_link : Int32) (μ : zM) (r_ : Bool) (μ_ : zM) (ho : (Sh o_).1 = 19) (h : f12_cut o_ v_link μ = some (r_, μ_)) : zMet l D zK1 yX12_cut cX12_cut 2 (some .boolean) (zrm 9 201) [.ref o_, .int v_link] Sh top μ (some (.int (bI r_))) Sh top μ_ 0 0 := by
  refine zMet_of (by decide) (Nat.le_of_ble_eq_true rfl) fun X hX1 hX2 fx fin => ?_
  subst hX1; subst hX2
  replace fx : zFix X cX12_cut RX12 (zrm 9 201) 2 := fx
  show zZ zK1 X (zT0 Sh top) μ 0 [(0, .ref o_), (1, .int v_link)] []
  unfold f12_cut at h
  refine z_aload_n fx (k := 0) (i := 0) rfl rfl d12_cut_0 ?_
  refine z_iload_n fx (k := 1) (i := 1) rfl rfl d12_cut_1 ?_
  obtain ⟨t1, e1, h⟩ := zinv h
  refine z_cVr fx (c12_isWhole (zLo X) (zDo X) Sh top hO o_ v_link μ _ ho e1) mv12_isWhole ml12_526 ho rfl rfl rfl rfl d12_cut_2 ?_
  refine z_ifb_ne fx d12_cut_5 (fun c2 => ?_) (fun c2 => ?_)
  · replace h := zif_t c2 h
    refine z_aload_n fx (k := 0) (i := 0) rfl rfl d12_cut_14 ?_
    obtain ⟨μ2, e3, h⟩ := zinv h
    refine z_cVv fx (c12_remembers (zLo X) (zDo X) Sh top hO o_ μ _ ho e3) mv12_remembers ml12_542 ho rfl rfl rfl rfl d12_cut_15 ?_
    refine z_aload_n fx (k := 0) (i := 0) rfl rfl d12_cut_18 ?_
    refine z_iload_n fx (k := 1) (i := 1) rfl rfl d12_cut_19 ?_
    obtain ⟨μ3, e4, h⟩ := zinv h
    refine z_cVv fx (c12_isCut (zLo X) (zDo X) Sh top hO o_ v_link μ2 _ ho e4) mv12_isCut ml12_520 ho rfl rfl rfl rfl d12_cut_20 ?_
    refine z_iconst fx (v := 1) ic1 d12_cut_23 ?_
    refine z_top (show Value.int 1 = .int (bI true) from rfl) ?_
    cases h
    exact z_zreturn fx fin d12_cut_24
  · replace h := zif_f c2 h
    refine z_aload_n fx (k := 0) (i := 0) rfl rfl d12_cut_8 ?_
    refine z_iconst fx (v := 3) ic3 d12_cut_9 ?_
    obtain ⟨t4, μ5, e5, h⟩ := zinv2 h
    refine z_cVr fx (c12_isRefused (zLo X) (zDo X) Sh top hO o_ 3 μ _ _ ho e5) mv12_isRefused ml12_545 ho rfl rfl rfl rfl d12_cut_10 ?_
    cases h
    exact z_zreturn fx fin d12_cut_13
theorem d12_mend_0 : zd cX12_mend 0 (.aload_n 0) 1 1 := by decide +kernel
theorem d12_mend_1 : zd cX12_mend 1 (.iload_n 1) 1 2 := by decide +kernel
theorem d12_mend_2 : zd cX12_mend 2 (.invokevirtual 474) 3 5 := by decide +kernel
theorem d12_mend_5 : zj cX12_mend 5 (.ifCond .eq 11) 11 8 16 := by decide +kernel
theorem d12_mend_8 : zd cX12_mend 8 (.aload_n 0) 1 9 := by decide +kernel
theorem d12_mend_9 : zd cX12_mend 9 (.iload_n 1) 1 10 := by decide +kernel
theorem d12_mend_10 : zd cX12_mend 10 (.invokevirtual 526) 3 13 := by decide +kernel
theorem d12_mend_13 : zj cX12_mend 13 (.ifCond .eq 9) 9 16 22 := by decide +kernel
theorem d12_mend_16 : zd cX12_mend 16 (.aload_n 0) 1 17 := by decide +kernel
theorem d12_mend_17 : zd cX12_mend 17 (.iconst 3) 1 18 := by decide +kernel
theorem d12_mend_18 : zd cX12_mend 18 (.invokevirtual 545) 3 21 := by decide +kernel
theorem d12_mend_21 : zd cX12_mend 21 (.ireturn) 1 22 := by decide +kernel
theorem d12_mend_22 : zd cX12_mend 22 (.aload_n 0) 1 23 := by decide +kernel
theorem d12_mend_23 : zd cX12_mend 23 (.invokevirtual 542) 3 26 := by decide +kernel
theorem d12_mend_26 : zd cX12_mend 26 (.aload_n 0) 1 27 := by decide +kernel
theorem d12_mend_27 : zd cX12_mend 27 (.iload_n 1) 1 28 := by decide +kernel
theorem d12_mend_28 : zd cX12_mend 28 (.invokevirtual 548) 3 31 := by decide +kernel
theorem d12_mend_31 : zd cX12_mend 31 (.iconst 1) 1 32 := by decide +kernel
theorem d12_mend_32 : zd cX12_mend 32 (.ireturn) 1 33 := by decide +kernel
set_option maxHeartbeats 4000000 in
set_option maxRecDepth 20000 in
theorem c12_mend (l : Launch) (D : zDt) (Sh : zSh) (top : Nat) (hO : zOK Sh) (o_ : Nat) (v_link : Int32) (μ : zM) (r_ : Bool) (μ_ : zM) (ho : (Sh o_).1 = 19) (h : f12_mend o_ v_link μ = some (r_, μ_)) : zMet l D zK1 yX12_mend cX12_mend 2 (some .boolean) (zrm 9 201) [.ref o_, .int v_link] Sh top μ (some (.int (bI r_))) Sh top μ_ 0 0 := by
  refine zMet_of (by decide) (Nat.le_of_ble_eq_true rfl) fun X hX1 hX2 fx fin => ?_
  subst hX1; subst hX2
  replace fx : zFix X cX12_mend RX12 (zrm 9 201) 2 := fx
  show zZ zK1 X (zT0 Sh top) μ 0 [(0, .ref o_), (1, .int v_link)] []
  unfold f12_mend at h
  obtain ⟨b1, e2, h⟩ := zinv h
  have kt1 : b1 = true → zZ zK1 X (zT0 Sh top) μ 16 [(0, .ref o_), (1, .int v_link)] [] := by
    intro hc
    replace h := zif_t hc h
    refine z_aload_n fx (k := 0) (i := 0) rfl rfl d12_mend_16 ?_
    refine z_iconst fx (v := 3) ic3 d12_mend_17 ?_
    obtain ⟨t2, μ3, e3, h⟩ := zinv2 h
    refine z_cVr fx (c12_isRefused (zLo X) (zDo X) Sh top hO o_ 3 μ _ _ ho e3) mv12_isRefused ml12_545 ho rfl rfl rfl rfl d12_mend_18 ?_
    cases h
    exact z_zreturn fx fin d12_mend_21
  have kf1 : b1 = false → zZ zK1 X (zT0 Sh top) μ 22 [(0, .ref o_), (1, .int v_link)] [] := by
    intro hc
    replace h := zif_f hc h
    refine z_aload_n fx (k := 0) (i := 0) rfl rfl d12_mend_22 ?_
    obtain ⟨μ4, e4, h⟩ := zinv h
    refine z_cVv fx (c12_remembers (zLo X) (zDo X) Sh top hO o_ μ _ ho e4) mv12_remembers ml12_542 ho rfl rfl rfl rfl d12_mend_23 ?_
    refine z_aload_n fx (k := 0) (i := 0) rfl rfl d12_mend_26 ?_
    refine z_iload_n fx (k := 1) (i := 1) rfl rfl d12_mend_27 ?_
    obtain ⟨μ5, e5, h⟩ := zinv h
    refine z_cVv fx (c12_isMended (zLo X) (zDo X) Sh top hO o_ v_link μ4 _ ho e5) mv12_isMended ml12_548 ho rfl rfl rfl rfl d12_mend_28 ?_
    refine z_iconst fx (v := 1) ic1 d12_mend_31 ?_
    refine z_top (show Value.int 1 = .int (bI true) from rfl) ?_
    cases h
    exact z_zreturn fx fin d12_mend_32
  clear h
  obtain ⟨b6, e6, e2⟩ := zinv e2
  have kf7 : b6 = false → zZ zK1 X (zT0 Sh top) μ 8 [(0, .ref o_), (1, .int v_link)] [] := by
    intro hc
    replace e2 := zif_f hc e2
    refine z_aload_n fx (k := 0) (i := 0) rfl rfl d12_mend_8 ?_
    refine z_iload_n fx (k := 1) (i := 1) rfl rfl d12_mend_9 ?_
    obtain ⟨t7, e8, e2⟩ := zinv e2
    refine z_cVr fx (c12_isWhole (zLo X) (zDo X) Sh top hO o_ v_link μ _ ho e8) mv12_isWhole ml12_526 ho rfl rfl rfl rfl d12_mend_10 ?_
    cases e2
    refine z_ifb_eq fx d12_mend_13 (fun c9 => ?_) (fun c9 => ?_)
    · exact kf1 c9
    · exact kt1 c9
  have kt7 : b6 = true → zZ zK1 X (zT0 Sh top) μ 16 [(0, .ref o_), (1, .int v_link)] [] := by
    intro hc
    replace e2 := zif_t hc e2
    cases e2
    exact kt1 rfl
  clear e2
  refine z_aload_n fx (k := 0) (i := 0) rfl rfl d12_mend_0 ?_
  refine z_iload_n fx (k := 1) (i := 1) rfl rfl d12_mend_1 ?_
  obtain ⟨t8, e10, e6⟩ := zinv e6
  refine z_cVr fx (c12_isLink (zLo X) (zDo X) Sh top hO o_ v_link μ _ ho e10) mv12_isLink ml12_474 ho rfl rfl rfl rfl d12_mend_2 ?_
  cases e6
  refine z_ifb_eq fx d12_mend_5 (fun c11 => ?_) (fun c11 => ?_)
  · exact kt7 (by rw [c11]; rfl)
  · exact kf7 (by rw [c11]; rfl)
theorem d12_stop_0 : zd cX12_stop 0 (.aload_n 0) 1 1 := by decide +kernel
theorem d12_stop_1 : zd cX12_stop 1 (.iconst 0) 1 2 := by decide +kernel
theorem d12_stop_2 : zd cX12_stop 2 (.putfield 144) 3 5 := by decide +kernel
theorem d12_stop_5 : zd cX12_stop 5 (.aload_n 0) 1 6 := by decide +kernel
theorem d12_stop_6 : zd cX12_stop 6 (.iload_n 1) 1 7 := by decide +kernel
theorem d12_stop_7 : zd cX12_stop 7 (.invokevirtual 471) 3 10 := by decide +kernel
theorem d12_stop_10 : zj cX12_stop 10 (.ifCond .eq 11) 11 13 21 := by decide +kernel
theorem d12_stop_13 : zd cX12_stop 13 (.aload_n 0) 1 14 := by decide +kernel
theorem d12_stop_14 : zd cX12_stop 14 (.iload_n 1) 1 15 := by decide +kernel
theorem d12_stop_15 : zd cX12_stop 15 (.invokevirtual 328) 3 18 := by decide +kernel
theorem d12_stop_18 : zj cX12_stop 18 (.ifCond .ne 9) 9 21 27 := by decide +kernel
theorem d12_stop_21 : zd cX12_stop 21 (.aload_n 0) 1 22 := by decide +kernel
theorem d12_stop_22 : zd cX12_stop 22 (.iconst 3) 1 23 := by decide +kernel
theorem d12_stop_23 : zd cX12_stop 23 (.invokevirtual 545) 3 26 := by decide +kernel
theorem d12_stop_26 : zd cX12_stop 26 (.ireturn) 1 27 := by decide +kernel
theorem d12_stop_27 : zd cX12_stop 27 (.aload_n 0) 1 28 := by decide +kernel
theorem d12_stop_28 : zd cX12_stop 28 (.invokevirtual 542) 3 31 := by decide +kernel
theorem d12_stop_31 : zd cX12_stop 31 (.aload_n 0) 1 32 := by decide +kernel
theorem d12_stop_32 : zd cX12_stop 32 (.iload_n 1) 1 33 := by decide +kernel
theorem d12_stop_33 : zd cX12_stop 33 (.invokevirtual 551) 3 36 := by decide +kernel
theorem d12_stop_36 : zd cX12_stop 36 (.iconst 1) 1 37 := by decide +kernel
theorem d12_stop_37 : zd cX12_stop 37 (.ireturn) 1 38 := by decide +kernel
set_option maxHeartbeats 4000000 in
set_option maxRecDepth 20000 in
theorem c12_stop (l : Launch) (D : zDt) (Sh : zSh) (top : Nat) (hO : zOK Sh) (o_ : Nat) (v_bridge : Int32) (μ : zM) (r_ : Bool) (μ_ : zM) (ho : (Sh o_).1 = 19) (h : f12_stop o_ v_bridge μ = some (r_, μ_)) : zMet l D zK1 yX12_stop cX12_stop 2 (some .boolean) (zrm 9 200) [.ref o_, .int v_bridge] Sh top μ (some (.int (bI r_))) Sh top μ_ 0 0 := by
  refine zMet_of (by decide) (Nat.le_of_ble_eq_true rfl) fun X hX1 hX2 fx fin => ?_
  subst hX1; subst hX2
  replace fx : zFix X cX12_stop RX12 (zrm 9 200) 2 := fx
  show zZ zK1 X (zT0 Sh top) μ 0 [(0, .ref o_), (1, .int v_bridge)] []
  unfold f12_stop at h
  refine z_aload_n fx (k := 0) (i := 0) rfl rfl d12_stop_0 ?_
  refine z_iconst fx (v := 0) ic0 d12_stop_1 ?_
  obtain ⟨μ1, e1, h⟩ := zinv h
  refine z_putI fx (ci := 12) 44 ho lf12_144 fp12_44 e1 d12_stop_2 ?_
  obtain ⟨b2, e3, h⟩ := zinv h
  have kt2 : b2 = true → zZ zK1 X (zT0 Sh top) μ1 21 [(0, .ref o_), (1, .int v_bridge)] [] := by
    intro hc
    replace h := zif_t hc h
    refine z_aload_n fx (k := 0) (i := 0) rfl rfl d12_stop_21 ?_
    refine z_iconst fx (v := 3) ic3 d12_stop_22 ?_
    obtain ⟨t3, μ4, e4, h⟩ := zinv2 h
    refine z_cVr fx (c12_isRefused (zLo X) (zDo X) Sh top hO o_ 3 μ1 _ _ ho e4) mv12_isRefused ml12_545 ho rfl rfl rfl rfl d12_stop_23 ?_
    cases h
    exact z_zreturn fx fin d12_stop_26
  have kf2 : b2 = false → zZ zK1 X (zT0 Sh top) μ1 27 [(0, .ref o_), (1, .int v_bridge)] [] := by
    intro hc
    replace h := zif_f hc h
    refine z_aload_n fx (k := 0) (i := 0) rfl rfl d12_stop_27 ?_
    obtain ⟨μ5, e5, h⟩ := zinv h
    refine z_cVv fx (c12_remembers (zLo X) (zDo X) Sh top hO o_ μ1 _ ho e5) mv12_remembers ml12_542 ho rfl rfl rfl rfl d12_stop_28 ?_
    refine z_aload_n fx (k := 0) (i := 0) rfl rfl d12_stop_31 ?_
    refine z_iload_n fx (k := 1) (i := 1) rfl rfl d12_stop_32 ?_
    obtain ⟨μ6, e6, h⟩ := zinv h
    refine z_cVv fx (c12_isOff (zLo X) (zDo X) Sh top hO o_ v_bridge μ5 _ ho e6) mv12_isOff ml12_551 ho rfl rfl rfl rfl d12_stop_33 ?_
    refine z_iconst fx (v := 1) ic1 d12_stop_36 ?_
    refine z_top (show Value.int 1 = .int (bI true) from rfl) ?_
    cases h
    exact z_zreturn fx fin d12_stop_37
  clear h
  obtain ⟨b7, e7, e3⟩ := zinv e3
  have kf8 : b7 = false → zZ zK1 X (zT0 Sh top) μ1 13 [(0, .ref o_), (1, .int v_bridge)] [] := by
    intro hc
    replace e3 := zif_f hc e3
    refine z_aload_n fx (k := 0) (i := 0) rfl rfl d12_stop_13 ?_
    refine z_iload_n fx (k := 1) (i := 1) rfl rfl d12_stop_14 ?_
    obtain ⟨t8, e9, e3⟩ := zinv e3
    refine z_cVr fx (c12_isOn (zLo X) (zDo X) Sh top hO o_ v_bridge μ1 _ ho e9) mv12_isOn ml12_328 ho rfl rfl rfl rfl d12_stop_15 ?_
    cases e3
    refine z_ifb_ne fx d12_stop_18 (fun c10 => ?_) (fun c10 => ?_)
    · exact kf2 (by rw [c10]; rfl)
    · exact kt2 (by rw [c10]; rfl)
  have kt8 : b7 = true → zZ zK1 X (zT0 Sh top) μ1 21 [(0, .ref o_), (1, .int v_bridge)] [] := by
    intro hc
    replace e3 := zif_t hc e3
    cases e3
    exact kt2 rfl
  clear e3
  refine z_aload_n fx (k := 0) (i := 0) rfl rfl d12_stop_5 ?_
  refine z_iload_n fx (k := 1) (i := 1) rfl rfl d12_stop_6 ?_
  obtain ⟨t9, e11, e7⟩ := zinv e7
  refine z_cVr fx (c12_isBridge (zLo X) (zDo X) Sh top hO o_ v_bridge μ1 _ ho e11) mv12_isBridge ml12_471 ho rfl rfl rfl rfl d12_stop_7 ?_
  cases e7
  refine z_ifb_eq fx d12_stop_10 (fun c12 => ?_) (fun c12 => ?_)
  · exact kt8 (by rw [c12]; rfl)
  · exact kf8 (by rw [c12]; rfl)
theorem d12_start_0 : zd cX12_start 0 (.aload_n 0) 1 1 := by decide +kernel
theorem d12_start_1 : zd cX12_start 1 (.iconst 0) 1 2 := by decide +kernel
theorem d12_start_2 : zd cX12_start 2 (.putfield 144) 3 5 := by decide +kernel
theorem d12_start_5 : zd cX12_start 5 (.aload_n 0) 1 6 := by decide +kernel
theorem d12_start_6 : zd cX12_start 6 (.iload_n 1) 1 7 := by decide +kernel
theorem d12_start_7 : zd cX12_start 7 (.invokevirtual 471) 3 10 := by decide +kernel
theorem d12_start_10 : zj cX12_start 10 (.ifCond .eq 11) 11 13 21 := by decide +kernel
theorem d12_start_13 : zd cX12_start 13 (.aload_n 0) 1 14 := by decide +kernel
theorem d12_start_14 : zd cX12_start 14 (.iload_n 1) 1 15 := by decide +kernel
theorem d12_start_15 : zd cX12_start 15 (.invokevirtual 328) 3 18 := by decide +kernel
theorem d12_start_18 : zj cX12_start 18 (.ifCond .eq 9) 9 21 27 := by decide +kernel
theorem d12_start_21 : zd cX12_start 21 (.aload_n 0) 1 22 := by decide +kernel
theorem d12_start_22 : zd cX12_start 22 (.iconst 3) 1 23 := by decide +kernel
theorem d12_start_23 : zd cX12_start 23 (.invokevirtual 545) 3 26 := by decide +kernel
theorem d12_start_26 : zd cX12_start 26 (.ireturn) 1 27 := by decide +kernel
theorem d12_start_27 : zd cX12_start 27 (.aload_n 0) 1 28 := by decide +kernel
theorem d12_start_28 : zd cX12_start 28 (.invokevirtual 542) 3 31 := by decide +kernel
theorem d12_start_31 : zd cX12_start 31 (.aload_n 0) 1 32 := by decide +kernel
theorem d12_start_32 : zd cX12_start 32 (.iload_n 1) 1 33 := by decide +kernel
theorem d12_start_33 : zd cX12_start 33 (.invokevirtual 554) 3 36 := by decide +kernel
theorem d12_start_36 : zd cX12_start 36 (.iconst 1) 1 37 := by decide +kernel
theorem d12_start_37 : zd cX12_start 37 (.ireturn) 1 38 := by decide +kernel
set_option maxHeartbeats 4000000 in
set_option maxRecDepth 20000 in
theorem c12_start (l : Launch) (D : zDt) (Sh : zSh) (top : Nat) (hO : zOK Sh) (o_ : Nat) (v_bridge : Int32) (μ : zM) (r_ : Bool) (μ_ : zM) (ho : (Sh o_).1 = 19) (h : f12_start o_ v_bridge μ = some (r_, μ_)) : zMet l D zK1 yX12_start cX12_start 2 (some .boolean) (zrm 9 200) [.ref o_, .int v_bridge] Sh top μ (some (.int (bI r_))) Sh top μ_ 0 0 := by
  refine zMet_of (by decide) (Nat.le_of_ble_eq_true rfl) fun X hX1 hX2 fx fin => ?_
  subst hX1; subst hX2
  replace fx : zFix X cX12_start RX12 (zrm 9 200) 2 := fx
  show zZ zK1 X (zT0 Sh top) μ 0 [(0, .ref o_), (1, .int v_bridge)] []
  unfold f12_start at h
  refine z_aload_n fx (k := 0) (i := 0) rfl rfl d12_start_0 ?_
  refine z_iconst fx (v := 0) ic0 d12_start_1 ?_
  obtain ⟨μ1, e1, h⟩ := zinv h
  refine z_putI fx (ci := 12) 44 ho lf12_144 fp12_44 e1 d12_start_2 ?_
  obtain ⟨b2, e3, h⟩ := zinv h
  have kt2 : b2 = true → zZ zK1 X (zT0 Sh top) μ1 21 [(0, .ref o_), (1, .int v_bridge)] [] := by
    intro hc
    replace h := zif_t hc h
    refine z_aload_n fx (k := 0) (i := 0) rfl rfl d12_start_21 ?_
    refine z_iconst fx (v := 3) ic3 d12_start_22 ?_
    obtain ⟨t3, μ4, e4, h⟩ := zinv2 h
    refine z_cVr fx (c12_isRefused (zLo X) (zDo X) Sh top hO o_ 3 μ1 _ _ ho e4) mv12_isRefused ml12_545 ho rfl rfl rfl rfl d12_start_23 ?_
    cases h
    exact z_zreturn fx fin d12_start_26
  have kf2 : b2 = false → zZ zK1 X (zT0 Sh top) μ1 27 [(0, .ref o_), (1, .int v_bridge)] [] := by
    intro hc
    replace h := zif_f hc h
    refine z_aload_n fx (k := 0) (i := 0) rfl rfl d12_start_27 ?_
    obtain ⟨μ5, e5, h⟩ := zinv h
    refine z_cVv fx (c12_remembers (zLo X) (zDo X) Sh top hO o_ μ1 _ ho e5) mv12_remembers ml12_542 ho rfl rfl rfl rfl d12_start_28 ?_
    refine z_aload_n fx (k := 0) (i := 0) rfl rfl d12_start_31 ?_
    refine z_iload_n fx (k := 1) (i := 1) rfl rfl d12_start_32 ?_
    obtain ⟨μ6, e6, h⟩ := zinv h
    refine z_cVv fx (c12_isBackOn (zLo X) (zDo X) Sh top hO o_ v_bridge μ5 _ ho e6) mv12_isBackOn ml12_554 ho rfl rfl rfl rfl d12_start_33 ?_
    refine z_iconst fx (v := 1) ic1 d12_start_36 ?_
    refine z_top (show Value.int 1 = .int (bI true) from rfl) ?_
    cases h
    exact z_zreturn fx fin d12_start_37
  clear h
  obtain ⟨b7, e7, e3⟩ := zinv e3
  have kf8 : b7 = false → zZ zK1 X (zT0 Sh top) μ1 13 [(0, .ref o_), (1, .int v_bridge)] [] := by
    intro hc
    replace e3 := zif_f hc e3
    refine z_aload_n fx (k := 0) (i := 0) rfl rfl d12_start_13 ?_
    refine z_iload_n fx (k := 1) (i := 1) rfl rfl d12_start_14 ?_
    obtain ⟨t8, e9, e3⟩ := zinv e3
    refine z_cVr fx (c12_isOn (zLo X) (zDo X) Sh top hO o_ v_bridge μ1 _ ho e9) mv12_isOn ml12_328 ho rfl rfl rfl rfl d12_start_15 ?_
    cases e3
    refine z_ifb_eq fx d12_start_18 (fun c10 => ?_) (fun c10 => ?_)
    · exact kf2 c10
    · exact kt2 c10
  have kt8 : b7 = true → zZ zK1 X (zT0 Sh top) μ1 21 [(0, .ref o_), (1, .int v_bridge)] [] := by
    intro hc
    replace e3 := zif_t hc e3
    cases e3
    exact kt2 rfl
  clear e3
  refine z_aload_n fx (k := 0) (i := 0) rfl rfl d12_start_5 ?_
  refine z_iload_n fx (k := 1) (i := 1) rfl rfl d12_start_6 ?_
  obtain ⟨t9, e11, e7⟩ := zinv e7
  refine z_cVr fx (c12_isBridge (zLo X) (zDo X) Sh top hO o_ v_bridge μ1 _ ho e11) mv12_isBridge ml12_471 ho rfl rfl rfl rfl d12_start_7 ?_
  cases e7
  refine z_ifb_eq fx d12_start_10 (fun c12 => ?_) (fun c12 => ?_)
  · exact kt8 (by rw [c12]; rfl)
  · exact kf8 (by rw [c12]; rfl)
theorem d12_prio_0 : zd cX12_prio 0 (.aload_n 0) 1 1 := by decide +kernel
theorem d12_prio_1 : zd cX12_prio 1 (.iconst 0) 1 2 := by decide +kernel
theorem d12_prio_2 : zd cX12_prio 2 (.putfield 144) 3 5 := by decide +kernel
theorem d12_prio_5 : zd cX12_prio 5 (.aload_n 0) 1 6 := by decide +kernel
theorem d12_prio_6 : zd cX12_prio 6 (.iload_n 1) 1 7 := by decide +kernel
theorem d12_prio_7 : zd cX12_prio 7 (.invokevirtual 471) 3 10 := by decide +kernel
theorem d12_prio_10 : zj cX12_prio 10 (.ifCond .eq 23) 23 13 33 := by decide +kernel
theorem d12_prio_13 : zd cX12_prio 13 (.iload_n 2) 1 14 := by decide +kernel
theorem d12_prio_14 : zd cX12_prio 14 (.iconst 0) 1 15 := by decide +kernel
theorem d12_prio_15 : zd cX12_prio 15 (.bipush 15) 2 17 := by decide +kernel
theorem d12_prio_17 : zd cX12_prio 17 (.invokestatic 250) 3 20 := by decide +kernel
theorem d12_prio_20 : zj cX12_prio 20 (.ifCond .eq 13) 13 23 33 := by decide +kernel
theorem d12_prio_23 : zd cX12_prio 23 (.aload_n 0) 1 24 := by decide +kernel
theorem d12_prio_24 : zd cX12_prio 24 (.iload_n 1) 1 25 := by decide +kernel
theorem d12_prio_25 : zd cX12_prio 25 (.iconst 1) 1 26 := by decide +kernel
theorem d12_prio_26 : zd cX12_prio 26 (.invokevirtual 319) 3 29 := by decide +kernel
theorem d12_prio_29 : zd cX12_prio 29 (.iload_n 2) 1 30 := by decide +kernel
theorem d12_prio_30 : zj cX12_prio 30 (.if_icmp .ne 9) 9 33 39 := by decide +kernel
theorem d12_prio_33 : zd cX12_prio 33 (.aload_n 0) 1 34 := by decide +kernel
theorem d12_prio_34 : zd cX12_prio 34 (.iconst 3) 1 35 := by decide +kernel
theorem d12_prio_35 : zd cX12_prio 35 (.invokevirtual 545) 3 38 := by decide +kernel
theorem d12_prio_38 : zd cX12_prio 38 (.ireturn) 1 39 := by decide +kernel
theorem d12_prio_39 : zd cX12_prio 39 (.aload_n 0) 1 40 := by decide +kernel
theorem d12_prio_40 : zd cX12_prio 40 (.invokevirtual 542) 3 43 := by decide +kernel
theorem d12_prio_43 : zd cX12_prio 43 (.aload_n 0) 1 44 := by decide +kernel
theorem d12_prio_44 : zd cX12_prio 44 (.iload_n 1) 1 45 := by decide +kernel
theorem d12_prio_45 : zd cX12_prio 45 (.iconst 1) 1 46 := by decide +kernel
theorem d12_prio_46 : zd cX12_prio 46 (.invokestatic 307) 3 49 := by decide +kernel
theorem d12_prio_49 : zd cX12_prio 49 (.iload_n 2) 1 50 := by decide +kernel
theorem d12_prio_50 : zd cX12_prio 50 (.invokevirtual 310) 3 53 := by decide +kernel
theorem d12_prio_53 : zd cX12_prio 53 (.aload_n 0) 1 54 := by decide +kernel
theorem d12_prio_54 : zd cX12_prio 54 (.iload_n 1) 1 55 := by decide +kernel
theorem d12_prio_55 : zd cX12_prio 55 (.invokevirtual 328) 3 58 := by decide +kernel
theorem d12_prio_58 : zj cX12_prio 58 (.ifCond .eq 8) 8 61 66 := by decide +kernel
theorem d12_prio_61 : zd cX12_prio 61 (.aload_n 0) 1 62 := by decide +kernel
theorem d12_prio_62 : zd cX12_prio 62 (.iload_n 1) 1 63 := by decide +kernel
theorem d12_prio_63 : zd cX12_prio 63 (.invokevirtual 375) 3 66 := by decide +kernel
theorem d12_prio_66 : zd cX12_prio 66 (.iconst 1) 1 67 := by decide +kernel
theorem d12_prio_67 : zd cX12_prio 67 (.ireturn) 1 68 := by decide +kernel
set_option maxHeartbeats 4000000 in
set_option maxRecDepth 20000 in
theorem c12_prio (l : Launch) (D : zDt) (Sh : zSh) (top : Nat) (hO : zOK Sh) (o_ : Nat) (v_bridge : Int32) (v_prio : Int32) (μ : zM) (r_ : Bool) (μ_ : zM) (ho : (Sh o_).1 = 19) (h : f12_prio o_ v_bridge v_prio μ = some (r_, μ_)) : zMet l D zK1 yX12_prio cX12_prio 3 (some .boolean) (zrm 7 157) [.ref o_, .int v_bridge, .int v_prio] Sh top μ (some (.int (bI r_))) Sh top μ_ 0 0 := by
  refine zMet_of (by decide) (Nat.le_of_ble_eq_true rfl) fun X hX1 hX2 fx fin => ?_
  subst hX1; subst hX2
  replace fx : zFix X cX12_prio RX12 (zrm 7 157) 3 := fx
  show zZ zK1 X (zT0 Sh top) μ 0 [(0, .ref o_), (1, .int v_bridge), (2, .int v_prio)] []
  unfold f12_prio at h
  refine z_aload_n fx (k := 0) (i := 0) rfl rfl d12_prio_0 ?_
  refine z_iconst fx (v := 0) ic0 d12_prio_1 ?_
  obtain ⟨μ1, e1, h⟩ := zinv h
  refine z_putI fx (ci := 12) 44 ho lf12_144 fp12_44 e1 d12_prio_2 ?_
  obtain ⟨b2, e3, h⟩ := zinv h
  have kt2 : b2 = true → zZ zK1 X (zT0 Sh top) μ1 33 [(0, .ref o_), (1, .int v_bridge), (2, .int v_prio)] [] := by
    intro hc
    replace h := zif_t hc h
    refine z_aload_n fx (k := 0) (i := 0) rfl rfl d12_prio_33 ?_
    refine z_iconst fx (v := 3) ic3 d12_prio_34 ?_
    obtain ⟨t3, μ4, e4, h⟩ := zinv2 h
    refine z_cVr fx (c12_isRefused (zLo X) (zDo X) Sh top hO o_ 3 μ1 _ _ ho e4) mv12_isRefused ml12_545 ho rfl rfl rfl rfl d12_prio_35 ?_
    cases h
    exact z_zreturn fx fin d12_prio_38
  have kf2 : b2 = false → zZ zK1 X (zT0 Sh top) μ1 39 [(0, .ref o_), (1, .int v_bridge), (2, .int v_prio)] [] := by
    intro hc
    replace h := zif_f hc h
    refine z_aload_n fx (k := 0) (i := 0) rfl rfl d12_prio_39 ?_
    obtain ⟨μ5, e5, h⟩ := zinv h
    refine z_cVv fx (c12_remembers (zLo X) (zDo X) Sh top hO o_ μ1 _ ho e5) mv12_remembers ml12_542 ho rfl rfl rfl rfl d12_prio_40 ?_
    refine z_aload_n fx (k := 0) (i := 0) rfl rfl d12_prio_43 ?_
    refine z_iload_n fx (k := 1) (i := 1) rfl rfl d12_prio_44 ?_
    refine z_iconst fx (v := 1) ic1 d12_prio_45 ?_
    obtain ⟨t6, e6, h⟩ := zinv h
    refine z_cSr fx (c12_bridgeAt (zLo X) (zDo X) Sh top hO v_bridge 1 μ5 _  e6) ms12_bridgeAt ml12_307 rfl rfl rfl rfl d12_prio_46 ?_
    refine z_iload_n fx (k := 2) (i := 2) rfl rfl d12_prio_49 ?_
    obtain ⟨μ7, e7, h⟩ := zinv h
    refine z_cVv fx (c12_puts (zLo X) (zDo X) Sh top hO o_ t6 v_prio μ5 _ ho e7) mv12_puts ml12_310 ho rfl rfl rfl rfl d12_prio_50 ?_
    obtain ⟨μ8, e8, h⟩ := zinv h
    have k9 : zZ zK1 X (zT0 Sh top) μ8 66 [(0, .ref o_), (1, .int v_bridge), (2, .int v_prio)] [] := by
      refine z_iconst fx (v := 1) ic1 d12_prio_66 ?_
      refine z_top (show Value.int 1 = .int (bI true) from rfl) ?_
      cases h
      exact z_zreturn fx fin d12_prio_67
    clear h
    refine z_aload_n fx (k := 0) (i := 0) rfl rfl d12_prio_53 ?_
    refine z_iload_n fx (k := 1) (i := 1) rfl rfl d12_prio_54 ?_
    obtain ⟨t9, e10, e8⟩ := zinv e8
    refine z_cVr fx (c12_isOn (zLo X) (zDo X) Sh top hO o_ v_bridge μ7 _ ho e10) mv12_isOn ml12_328 ho rfl rfl rfl rfl d12_prio_55 ?_
    refine z_ifb_eq fx d12_prio_58 (fun c11 => ?_) (fun c11 => ?_)
    · replace e8 := zif_f c11 e8
      cases e8
      exact k9
    · replace e8 := zif_t c11 e8
      refine z_aload_n fx (k := 0) (i := 0) rfl rfl d12_prio_61 ?_
      refine z_iload_n fx (k := 1) (i := 1) rfl rfl d12_prio_62 ?_
      obtain ⟨μ10, e12, e8⟩ := zinv e8
      refine z_cVv fx (c12_chooses (zLo X) (zDo X) Sh top hO o_ v_bridge μ7 _ ho e12) mv12_chooses ml12_375 ho rfl rfl rfl rfl d12_prio_63 ?_
      cases e8
      exact k9
  clear h
  obtain ⟨b11, e13, e3⟩ := zinv e3
  have kf14 : b11 = false → zZ zK1 X (zT0 Sh top) μ1 23 [(0, .ref o_), (1, .int v_bridge), (2, .int v_prio)] [] := by
    intro hc
    replace e3 := zif_f hc e3
    refine z_aload_n fx (k := 0) (i := 0) rfl rfl d12_prio_23 ?_
    refine z_iload_n fx (k := 1) (i := 1) rfl rfl d12_prio_24 ?_
    refine z_iconst fx (v := 1) ic1 d12_prio_25 ?_
    obtain ⟨t12, e15, e3⟩ := zinv e3
    refine z_cVr fx (c12_of (zLo X) (zDo X) Sh top hO o_ v_bridge 1 μ1 _ ho e15) mv12_of ml12_319 ho rfl rfl rfl rfl d12_prio_26 ?_
    refine z_iload_n fx (k := 2) (i := 2) rfl rfl d12_prio_29 ?_
    cases e3
    refine z_icmp_ne fx d12_prio_30 (fun c16 => ?_) (fun c16 => ?_)
    · exact kf2 c16
    · exact kt2 c16
  have kt14 : b11 = true → zZ zK1 X (zT0 Sh top) μ1 33 [(0, .ref o_), (1, .int v_bridge), (2, .int v_prio)] [] := by
    intro hc
    replace e3 := zif_t hc e3
    cases e3
    exact kt2 rfl
  clear e3
  obtain ⟨b13, e17, e13⟩ := zinv e13
  have kf18 : b13 = false → zZ zK1 X (zT0 Sh top) μ1 13 [(0, .ref o_), (1, .int v_bridge), (2, .int v_prio)] [] := by
    intro hc
    replace e13 := zif_f hc e13
    refine z_iload_n fx (k := 2) (i := 2) rfl rfl d12_prio_13 ?_
    refine z_iconst fx (v := 0) ic0 d12_prio_14 ?_
    refine z_bipush fx (v := 15) bp15 d12_prio_15 ?_
    obtain ⟨t14, e19, e13⟩ := zinv e13
    refine z_cSr fx (c12_isIn (zLo X) (zDo X) Sh top hO v_prio 0 15 μ1 _  e19) ms12_isIn ml12_250 rfl rfl rfl rfl d12_prio_17 ?_
    cases e13
    refine z_ifb_eq fx d12_prio_20 (fun c20 => ?_) (fun c20 => ?_)
    · exact kt14 (by rw [c20]; rfl)
    · exact kf14 (by rw [c20]; rfl)
  have kt18 : b13 = true → zZ zK1 X (zT0 Sh top) μ1 33 [(0, .ref o_), (1, .int v_bridge), (2, .int v_prio)] [] := by
    intro hc
    replace e13 := zif_t hc e13
    cases e13
    exact kt14 rfl
  clear e13
  refine z_aload_n fx (k := 0) (i := 0) rfl rfl d12_prio_5 ?_
  refine z_iload_n fx (k := 1) (i := 1) rfl rfl d12_prio_6 ?_
  obtain ⟨t15, e21, e17⟩ := zinv e17
  refine z_cVr fx (c12_isBridge (zLo X) (zDo X) Sh top hO o_ v_bridge μ1 _ ho e21) mv12_isBridge ml12_471 ho rfl rfl rfl rfl d12_prio_7 ?_
  cases e17
  refine z_ifb_eq fx d12_prio_10 (fun c22 => ?_) (fun c22 => ?_)
  · exact kt18 (by rw [c22]; rfl)
  · exact kf18 (by rw [c22]; rfl)
theorem d12_turn_0 : zd cX12_turn 0 (.aload_n 0) 1 1 := by decide +kernel
theorem d12_turn_1 : zd cX12_turn 1 (.iconst 0) 1 2 := by decide +kernel
theorem d12_turn_2 : zd cX12_turn 2 (.putfield 144) 3 5 := by decide +kernel
theorem d12_turn_5 : zd cX12_turn 5 (.aload_n 0) 1 6 := by decide +kernel
theorem d12_turn_6 : zd cX12_turn 6 (.iload_n 1) 1 7 := by decide +kernel
theorem d12_turn_7 : zd cX12_turn 7 (.invokevirtual 471) 3 10 := by decide +kernel
theorem d12_turn_10 : zj cX12_turn 10 (.ifCond .ne 9) 9 13 19 := by decide +kernel
theorem d12_turn_13 : zd cX12_turn 13 (.aload_n 0) 1 14 := by decide +kernel
theorem d12_turn_14 : zd cX12_turn 14 (.iconst 3) 1 15 := by decide +kernel
theorem d12_turn_15 : zd cX12_turn 15 (.invokevirtual 214) 3 18 := by decide +kernel
theorem d12_turn_18 : zd cX12_turn 18 (.ireturn) 1 19 := by decide +kernel
theorem d12_turn_19 : zd cX12_turn 19 (.aload_n 0) 1 20 := by decide +kernel
theorem d12_turn_20 : zd cX12_turn 20 (.invokevirtual 542) 3 23 := by decide +kernel
theorem d12_turn_23 : zd cX12_turn 23 (.aload_n 0) 1 24 := by decide +kernel
theorem d12_turn_24 : zd cX12_turn 24 (.iload_n 1) 1 25 := by decide +kernel
theorem d12_turn_25 : zd cX12_turn 25 (.iconst 2) 1 26 := by decide +kernel
theorem d12_turn_26 : zd cX12_turn 26 (.invokestatic 307) 3 29 := by decide +kernel
theorem d12_turn_29 : zd cX12_turn 29 (.iconst 1) 1 30 := by decide +kernel
theorem d12_turn_30 : zd cX12_turn 30 (.aload_n 0) 1 31 := by decide +kernel
theorem d12_turn_31 : zd cX12_turn 31 (.iload_n 1) 1 32 := by decide +kernel
theorem d12_turn_32 : zd cX12_turn 32 (.iconst 2) 1 33 := by decide +kernel
theorem d12_turn_33 : zd cX12_turn 33 (.invokevirtual 319) 3 36 := by decide +kernel
theorem d12_turn_36 : zd cX12_turn 36 (.isub) 1 37 := by decide +kernel
theorem d12_turn_37 : zd cX12_turn 37 (.invokevirtual 310) 3 40 := by decide +kernel
theorem d12_turn_40 : zd cX12_turn 40 (.aload_n 0) 1 41 := by decide +kernel
theorem d12_turn_41 : zd cX12_turn 41 (.iload_n 1) 1 42 := by decide +kernel
theorem d12_turn_42 : zd cX12_turn 42 (.invokevirtual 328) 3 45 := by decide +kernel
theorem d12_turn_45 : zj cX12_turn 45 (.ifCond .eq 13) 13 48 58 := by decide +kernel
theorem d12_turn_48 : zd cX12_turn 48 (.aload_n 0) 1 49 := by decide +kernel
theorem d12_turn_49 : zd cX12_turn 49 (.iload_n 1) 1 50 := by decide +kernel
theorem d12_turn_50 : zd cX12_turn 50 (.invokevirtual 551) 3 53 := by decide +kernel
theorem d12_turn_53 : zd cX12_turn 53 (.aload_n 0) 1 54 := by decide +kernel
theorem d12_turn_54 : zd cX12_turn 54 (.iload_n 1) 1 55 := by decide +kernel
theorem d12_turn_55 : zd cX12_turn 55 (.invokevirtual 554) 3 58 := by decide +kernel
theorem d12_turn_58 : zd cX12_turn 58 (.aload_n 0) 1 59 := by decide +kernel
theorem d12_turn_59 : zd cX12_turn 59 (.iload_n 1) 1 60 := by decide +kernel
theorem d12_turn_60 : zd cX12_turn 60 (.iconst 2) 1 61 := by decide +kernel
theorem d12_turn_61 : zd cX12_turn 61 (.invokevirtual 319) 3 64 := by decide +kernel
theorem d12_turn_64 : zd cX12_turn 64 (.ireturn) 1 65 := by decide +kernel
set_option maxHeartbeats 4000000 in
set_option maxRecDepth 20000 in
theorem c12_turn (l : Launch) (D : zDt) (Sh : zSh) (top : Nat) (hO : zOK Sh) (o_ : Nat) (v_bridge : Int32) (μ : zM) (r_ : Int32) (μ_ : zM) (ho : (Sh o_).1 = 19) (h : f12_turn o_ v_bridge μ = some (r_, μ_)) : zMet l D zK1 yX12_turn cX12_turn 2 (some .int) (zrm 9 200) [.ref o_, .int v_bridge] Sh top μ (some (.int r_)) Sh top μ_ 0 0 := by
  refine zMet_of (by decide) (Nat.le_of_ble_eq_true rfl) fun X hX1 hX2 fx fin => ?_
  subst hX1; subst hX2
  replace fx : zFix X cX12_turn RX12 (zrm 9 200) 2 := fx
  show zZ zK1 X (zT0 Sh top) μ 0 [(0, .ref o_), (1, .int v_bridge)] []
  unfold f12_turn at h
  refine z_aload_n fx (k := 0) (i := 0) rfl rfl d12_turn_0 ?_
  refine z_iconst fx (v := 0) ic0 d12_turn_1 ?_
  obtain ⟨μ1, e1, h⟩ := zinv h
  refine z_putI fx (ci := 12) 44 ho lf12_144 fp12_44 e1 d12_turn_2 ?_
  refine z_aload_n fx (k := 0) (i := 0) rfl rfl d12_turn_5 ?_
  refine z_iload_n fx (k := 1) (i := 1) rfl rfl d12_turn_6 ?_
  obtain ⟨t2, e2, h⟩ := zinv h
  refine z_cVr fx (c12_isBridge (zLo X) (zDo X) Sh top hO o_ v_bridge μ1 _ ho e2) mv12_isBridge ml12_471 ho rfl rfl rfl rfl d12_turn_7 ?_
  refine z_ifb_ne fx d12_turn_10 (fun c3 => ?_) (fun c3 => ?_)
  · replace h := zif_t c3 h
    refine z_aload_n fx (k := 0) (i := 0) rfl rfl d12_turn_19 ?_
    obtain ⟨μ3, e4, h⟩ := zinv h
    refine z_cVv fx (c12_remembers (zLo X) (zDo X) Sh top hO o_ μ1 _ ho e4) mv12_remembers ml12_542 ho rfl rfl rfl rfl d12_turn_20 ?_
    refine z_aload_n fx (k := 0) (i := 0) rfl rfl d12_turn_23 ?_
    refine z_iload_n fx (k := 1) (i := 1) rfl rfl d12_turn_24 ?_
    refine z_iconst fx (v := 2) ic2 d12_turn_25 ?_
    obtain ⟨t4, e5, h⟩ := zinv h
    refine z_cSr fx (c12_bridgeAt (zLo X) (zDo X) Sh top hO v_bridge 2 μ3 _  e5) ms12_bridgeAt ml12_307 rfl rfl rfl rfl d12_turn_26 ?_
    refine z_iconst fx (v := 1) ic1 d12_turn_29 ?_
    refine z_aload_n fx (k := 0) (i := 0) rfl rfl d12_turn_30 ?_
    refine z_iload_n fx (k := 1) (i := 1) rfl rfl d12_turn_31 ?_
    refine z_iconst fx (v := 2) ic2 d12_turn_32 ?_
    obtain ⟨t5, e6, h⟩ := zinv h
    refine z_cVr fx (c12_of (zLo X) (zDo X) Sh top hO o_ v_bridge 2 μ3 _ ho e6) mv12_of ml12_319 ho rfl rfl rfl rfl d12_turn_33 ?_
    refine z_isub fx d12_turn_36 ?_
    obtain ⟨μ6, e7, h⟩ := zinv h
    refine z_cVv fx (c12_puts (zLo X) (zDo X) Sh top hO o_ t4 (1 - t5) μ3 _ ho e7) mv12_puts ml12_310 ho rfl rfl rfl rfl d12_turn_37 ?_
    obtain ⟨μ7, e8, h⟩ := zinv h
    have k9 : zZ zK1 X (zT0 Sh top) μ7 58 [(0, .ref o_), (1, .int v_bridge)] [] := by
      refine z_aload_n fx (k := 0) (i := 0) rfl rfl d12_turn_58 ?_
      refine z_iload_n fx (k := 1) (i := 1) rfl rfl d12_turn_59 ?_
      refine z_iconst fx (v := 2) ic2 d12_turn_60 ?_
      obtain ⟨t8, e10, h⟩ := zinv h
      refine z_cVr fx (c12_of (zLo X) (zDo X) Sh top hO o_ v_bridge 2 μ7 _ ho e10) mv12_of ml12_319 ho rfl rfl rfl rfl d12_turn_61 ?_
      cases h
      exact z_ireturn fx fin d12_turn_64
    clear h
    refine z_aload_n fx (k := 0) (i := 0) rfl rfl d12_turn_40 ?_
    refine z_iload_n fx (k := 1) (i := 1) rfl rfl d12_turn_41 ?_
    obtain ⟨t9, e11, e8⟩ := zinv e8
    refine z_cVr fx (c12_isOn (zLo X) (zDo X) Sh top hO o_ v_bridge μ6 _ ho e11) mv12_isOn ml12_328 ho rfl rfl rfl rfl d12_turn_42 ?_
    refine z_ifb_eq fx d12_turn_45 (fun c12 => ?_) (fun c12 => ?_)
    · replace e8 := zif_f c12 e8
      cases e8
      exact k9
    · replace e8 := zif_t c12 e8
      refine z_aload_n fx (k := 0) (i := 0) rfl rfl d12_turn_48 ?_
      refine z_iload_n fx (k := 1) (i := 1) rfl rfl d12_turn_49 ?_
      obtain ⟨μ10, e13, e8⟩ := zinv e8
      refine z_cVv fx (c12_isOff (zLo X) (zDo X) Sh top hO o_ v_bridge μ6 _ ho e13) mv12_isOff ml12_551 ho rfl rfl rfl rfl d12_turn_50 ?_
      refine z_aload_n fx (k := 0) (i := 0) rfl rfl d12_turn_53 ?_
      refine z_iload_n fx (k := 1) (i := 1) rfl rfl d12_turn_54 ?_
      obtain ⟨μ11, e14, e8⟩ := zinv e8
      refine z_cVv fx (c12_isBackOn (zLo X) (zDo X) Sh top hO o_ v_bridge μ10 _ ho e14) mv12_isBackOn ml12_554 ho rfl rfl rfl rfl d12_turn_55 ?_
      cases e8
      exact k9
  · replace h := zif_f c3 h
    refine z_aload_n fx (k := 0) (i := 0) rfl rfl d12_turn_13 ?_
    refine z_iconst fx (v := 3) ic3 d12_turn_14 ?_
    obtain ⟨t12, μ13, e15, h⟩ := zinv2 h
    refine z_cVr fx (c12_refuses (zLo X) (zDo X) Sh top hO o_ 3 μ1 _ _ ho e15) mv12_refuses ml12_214 ho rfl rfl rfl rfl d12_turn_15 ?_
    cases h
    exact z_ireturn fx fin d12_turn_18
theorem d12_move_0 : zd cX12_move 0 (.aload_n 0) 1 1 := by decide +kernel
theorem d12_move_1 : zd cX12_move 1 (.iconst 0) 1 2 := by decide +kernel
theorem d12_move_2 : zd cX12_move 2 (.putfield 144) 3 5 := by decide +kernel
theorem d12_move_5 : zd cX12_move 5 (.aload_n 0) 1 6 := by decide +kernel
theorem d12_move_6 : zd cX12_move 6 (.iload_n 1) 1 7 := by decide +kernel
theorem d12_move_7 : zd cX12_move 7 (.invokevirtual 483) 3 10 := by decide +kernel
theorem d12_move_10 : zj cX12_move 10 (.ifCond .eq 24) 24 13 34 := by decide +kernel
theorem d12_move_13 : zd cX12_move 13 (.aload_n 0) 1 14 := by decide +kernel
theorem d12_move_14 : zd cX12_move 14 (.iload_n 2) 1 15 := by decide +kernel
theorem d12_move_15 : zd cX12_move 15 (.invokevirtual 471) 3 18 := by decide +kernel
theorem d12_move_18 : zj cX12_move 18 (.ifCond .eq 16) 16 21 34 := by decide +kernel
theorem d12_move_21 : zd cX12_move 21 (.aload_n 0) 1 22 := by decide +kernel
theorem d12_move_22 : zd cX12_move 22 (.sipush 978) 3 25 := by decide +kernel
theorem d12_move_25 : zd cX12_move 25 (.iload_n 1) 1 26 := by decide +kernel
theorem d12_move_26 : zd cX12_move 26 (.iadd) 1 27 := by decide +kernel
theorem d12_move_27 : zd cX12_move 27 (.invokevirtual 316) 3 30 := by decide +kernel
theorem d12_move_30 : zd cX12_move 30 (.iload_n 2) 1 31 := by decide +kernel
theorem d12_move_31 : zj cX12_move 31 (.if_icmp .ne 9) 9 34 40 := by decide +kernel
theorem d12_move_34 : zd cX12_move 34 (.aload_n 0) 1 35 := by decide +kernel
theorem d12_move_35 : zd cX12_move 35 (.iconst 3) 1 36 := by decide +kernel
theorem d12_move_36 : zd cX12_move 36 (.invokevirtual 545) 3 39 := by decide +kernel
theorem d12_move_39 : zd cX12_move 39 (.ireturn) 1 40 := by decide +kernel
theorem d12_move_40 : zd cX12_move 40 (.aload_n 0) 1 41 := by decide +kernel
theorem d12_move_41 : zd cX12_move 41 (.invokevirtual 542) 3 44 := by decide +kernel
theorem d12_move_44 : zd cX12_move 44 (.aload_n 0) 1 45 := by decide +kernel
theorem d12_move_45 : zd cX12_move 45 (.sipush 978) 3 48 := by decide +kernel
theorem d12_move_48 : zd cX12_move 48 (.iload_n 1) 1 49 := by decide +kernel
theorem d12_move_49 : zd cX12_move 49 (.iadd) 1 50 := by decide +kernel
theorem d12_move_50 : zd cX12_move 50 (.iload_n 2) 1 51 := by decide +kernel
theorem d12_move_51 : zd cX12_move 51 (.invokevirtual 310) 3 54 := by decide +kernel
theorem d12_move_54 : zd cX12_move 54 (.iconst 1) 1 55 := by decide +kernel
theorem d12_move_55 : zd cX12_move 55 (.ireturn) 1 56 := by decide +kernel
set_option maxHeartbeats 4000000 in
set_option maxRecDepth 20000 in
theorem c12_move (l : Launch) (D : zDt) (Sh : zSh) (top : Nat) (hO : zOK Sh) (o_ : Nat) (v_host : Int32) (v_bridge : Int32) (μ : zM) (r_ : Bool) (μ_ : zM) (ho : (Sh o_).1 = 19) (h : f12_move o_ v_host v_bridge μ = some (r_, μ_)) : zMet l D zK1 yX12_move cX12_move 3 (some .boolean) (zrm 2 43) [.ref o_, .int v_host, .int v_bridge] Sh top μ (some (.int (bI r_))) Sh top μ_ 0 0 := by
  refine zMet_of (by decide) (Nat.le_of_ble_eq_true rfl) fun X hX1 hX2 fx fin => ?_
  subst hX1; subst hX2
  replace fx : zFix X cX12_move RX12 (zrm 2 43) 3 := fx
  show zZ zK1 X (zT0 Sh top) μ 0 [(0, .ref o_), (1, .int v_host), (2, .int v_bridge)] []
  unfold f12_move at h
  refine z_aload_n fx (k := 0) (i := 0) rfl rfl d12_move_0 ?_
  refine z_iconst fx (v := 0) ic0 d12_move_1 ?_
  obtain ⟨μ1, e1, h⟩ := zinv h
  refine z_putI fx (ci := 12) 44 ho lf12_144 fp12_44 e1 d12_move_2 ?_
  obtain ⟨b2, e3, h⟩ := zinv h
  have kt2 : b2 = true → zZ zK1 X (zT0 Sh top) μ1 34 [(0, .ref o_), (1, .int v_host), (2, .int v_bridge)] [] := by
    intro hc
    replace h := zif_t hc h
    refine z_aload_n fx (k := 0) (i := 0) rfl rfl d12_move_34 ?_
    refine z_iconst fx (v := 3) ic3 d12_move_35 ?_
    obtain ⟨t3, μ4, e4, h⟩ := zinv2 h
    refine z_cVr fx (c12_isRefused (zLo X) (zDo X) Sh top hO o_ 3 μ1 _ _ ho e4) mv12_isRefused ml12_545 ho rfl rfl rfl rfl d12_move_36 ?_
    cases h
    exact z_zreturn fx fin d12_move_39
  have kf2 : b2 = false → zZ zK1 X (zT0 Sh top) μ1 40 [(0, .ref o_), (1, .int v_host), (2, .int v_bridge)] [] := by
    intro hc
    replace h := zif_f hc h
    refine z_aload_n fx (k := 0) (i := 0) rfl rfl d12_move_40 ?_
    obtain ⟨μ5, e5, h⟩ := zinv h
    refine z_cVv fx (c12_remembers (zLo X) (zDo X) Sh top hO o_ μ1 _ ho e5) mv12_remembers ml12_542 ho rfl rfl rfl rfl d12_move_41 ?_
    refine z_aload_n fx (k := 0) (i := 0) rfl rfl d12_move_44 ?_
    refine z_sipush fx (v := 978) sp978 d12_move_45 ?_
    refine z_iload_n fx (k := 1) (i := 1) rfl rfl d12_move_48 ?_
    refine z_iadd fx d12_move_49 ?_
    refine z_iload_n fx (k := 2) (i := 2) rfl rfl d12_move_50 ?_
    obtain ⟨μ6, e6, h⟩ := zinv h
    refine z_cVv fx (c12_puts (zLo X) (zDo X) Sh top hO o_ (978 + v_host) v_bridge μ5 _ ho e6) mv12_puts ml12_310 ho rfl rfl rfl rfl d12_move_51 ?_
    refine z_iconst fx (v := 1) ic1 d12_move_54 ?_
    refine z_top (show Value.int 1 = .int (bI true) from rfl) ?_
    cases h
    exact z_zreturn fx fin d12_move_55
  clear h
  obtain ⟨b7, e7, e3⟩ := zinv e3
  have kf8 : b7 = false → zZ zK1 X (zT0 Sh top) μ1 21 [(0, .ref o_), (1, .int v_host), (2, .int v_bridge)] [] := by
    intro hc
    replace e3 := zif_f hc e3
    refine z_aload_n fx (k := 0) (i := 0) rfl rfl d12_move_21 ?_
    refine z_sipush fx (v := 978) sp978 d12_move_22 ?_
    refine z_iload_n fx (k := 1) (i := 1) rfl rfl d12_move_25 ?_
    refine z_iadd fx d12_move_26 ?_
    obtain ⟨t8, e9, e3⟩ := zinv e3
    refine z_cVr fx (c12_its (zLo X) (zDo X) Sh top hO o_ (978 + v_host) μ1 _ ho e9) mv12_its ml12_316 ho rfl rfl rfl rfl d12_move_27 ?_
    refine z_iload_n fx (k := 2) (i := 2) rfl rfl d12_move_30 ?_
    cases e3
    refine z_icmp_ne fx d12_move_31 (fun c10 => ?_) (fun c10 => ?_)
    · exact kf2 c10
    · exact kt2 c10
  have kt8 : b7 = true → zZ zK1 X (zT0 Sh top) μ1 34 [(0, .ref o_), (1, .int v_host), (2, .int v_bridge)] [] := by
    intro hc
    replace e3 := zif_t hc e3
    cases e3
    exact kt2 rfl
  clear e3
  obtain ⟨b9, e11, e7⟩ := zinv e7
  have kf12 : b9 = false → zZ zK1 X (zT0 Sh top) μ1 13 [(0, .ref o_), (1, .int v_host), (2, .int v_bridge)] [] := by
    intro hc
    replace e7 := zif_f hc e7
    refine z_aload_n fx (k := 0) (i := 0) rfl rfl d12_move_13 ?_
    refine z_iload_n fx (k := 2) (i := 2) rfl rfl d12_move_14 ?_
    obtain ⟨t10, e13, e7⟩ := zinv e7
    refine z_cVr fx (c12_isBridge (zLo X) (zDo X) Sh top hO o_ v_bridge μ1 _ ho e13) mv12_isBridge ml12_471 ho rfl rfl rfl rfl d12_move_15 ?_
    cases e7
    refine z_ifb_eq fx d12_move_18 (fun c14 => ?_) (fun c14 => ?_)
    · exact kt8 (by rw [c14]; rfl)
    · exact kf8 (by rw [c14]; rfl)
  have kt12 : b9 = true → zZ zK1 X (zT0 Sh top) μ1 34 [(0, .ref o_), (1, .int v_host), (2, .int v_bridge)] [] := by
    intro hc
    replace e7 := zif_t hc e7
    cases e7
    exact kt8 rfl
  clear e7
  refine z_aload_n fx (k := 0) (i := 0) rfl rfl d12_move_5 ?_
  refine z_iload_n fx (k := 1) (i := 1) rfl rfl d12_move_6 ?_
  obtain ⟨t11, e15, e11⟩ := zinv e11
  refine z_cVr fx (c12_isHost (zLo X) (zDo X) Sh top hO o_ v_host μ1 _ ho e15) mv12_isHost ml12_483 ho rfl rfl rfl rfl d12_move_7 ?_
  cases e11
  refine z_ifb_eq fx d12_move_10 (fun c16 => ?_) (fun c16 => ?_)
  · exact kt12 (by rw [c16]; rfl)
  · exact kf12 (by rw [c16]; rfl)
theorem d12_learns_0 : zd cX12_learns 0 (.aload_n 0) 1 1 := by decide +kernel
theorem d12_learns_1 : zd cX12_learns 1 (.iload_n 1) 1 2 := by decide +kernel
theorem d12_learns_2 : zd cX12_learns 2 (.iload_n 2) 1 3 := by decide +kernel
theorem d12_learns_3 : zd cX12_learns 3 (.invokestatic 348) 3 6 := by decide +kernel
theorem d12_learns_6 : zd cX12_learns 6 (.iload_n 3) 1 7 := by decide +kernel
theorem d12_learns_7 : zd cX12_learns 7 (.invokevirtual 310) 3 10 := by decide +kernel
theorem d12_learns_10 : zd cX12_learns 10 (.aload_n 0) 1 11 := by decide +kernel
theorem d12_learns_11 : zd cX12_learns 11 (.iload_n 1) 1 12 := by decide +kernel
theorem d12_learns_12 : zd cX12_learns 12 (.iload_n 2) 1 13 := by decide +kernel
theorem d12_learns_13 : zd cX12_learns 13 (.invokestatic 348) 3 16 := by decide +kernel
theorem d12_learns_16 : zd cX12_learns 16 (.iconst 1) 1 17 := by decide +kernel
theorem d12_learns_17 : zd cX12_learns 17 (.iadd) 1 18 := by decide +kernel
theorem d12_learns_18 : zd cX12_learns 18 (.iconst 0) 1 19 := by decide +kernel
theorem d12_learns_19 : zd cX12_learns 19 (.invokevirtual 310) 3 22 := by decide +kernel
theorem d12_learns_22 : zd cX12_learns 22 (.return_) 1 23 := by decide +kernel
set_option maxHeartbeats 4000000 in
set_option maxRecDepth 20000 in
theorem c12_learns (l : Launch) (D : zDt) (Sh : zSh) (top : Nat) (hO : zOK Sh) (o_ : Nat) (v_b : Int32) (v_host : Int32) (v_port : Int32) (μ : zM) (μ_ : zM) (ho : (Sh o_).1 = 19) (h : f12_learns o_ v_b v_host v_port μ = some μ_) : zMet l D zK1 yX12_learns cX12_learns 4 none (zrm 1 22) [.ref o_, .int v_b, .int v_host, .int v_port] Sh top μ none Sh top μ_ 0 0 := by
  refine zMet_of (by decide) (Nat.le_of_ble_eq_true rfl) fun X hX1 hX2 fx fin => ?_
  subst hX1; subst hX2
  replace fx : zFix X cX12_learns RX12 (zrm 1 22) 4 := fx
  show zZ zK1 X (zT0 Sh top) μ 0 [(0, .ref o_), (1, .int v_b), (2, .int v_host), (3, .int v_port)] []
  unfold f12_learns at h
  refine z_aload_n fx (k := 0) (i := 0) rfl rfl d12_learns_0 ?_
  refine z_iload_n fx (k := 1) (i := 1) rfl rfl d12_learns_1 ?_
  refine z_iload_n fx (k := 2) (i := 2) rfl rfl d12_learns_2 ?_
  obtain ⟨t1, e1, h⟩ := zinv h
  refine z_cSr fx (c12_addressAt (zLo X) (zDo X) Sh top hO v_b v_host μ _  e1) ms12_addressAt ml12_348 rfl rfl rfl rfl d12_learns_3 ?_
  refine z_iload_n fx (k := 3) (i := 3) rfl rfl d12_learns_6 ?_
  obtain ⟨μ2, e2, h⟩ := zinv h
  refine z_cVv fx (c12_puts (zLo X) (zDo X) Sh top hO o_ t1 v_port μ _ ho e2) mv12_puts ml12_310 ho rfl rfl rfl rfl d12_learns_7 ?_
  refine z_aload_n fx (k := 0) (i := 0) rfl rfl d12_learns_10 ?_
  refine z_iload_n fx (k := 1) (i := 1) rfl rfl d12_learns_11 ?_
  refine z_iload_n fx (k := 2) (i := 2) rfl rfl d12_learns_12 ?_
  obtain ⟨t3, e3, h⟩ := zinv h
  refine z_cSr fx (c12_addressAt (zLo X) (zDo X) Sh top hO v_b v_host μ2 _  e3) ms12_addressAt ml12_348 rfl rfl rfl rfl d12_learns_13 ?_
  refine z_iconst fx (v := 1) ic1 d12_learns_16 ?_
  refine z_iadd fx d12_learns_17 ?_
  refine z_iconst fx (v := 0) ic0 d12_learns_18 ?_
  obtain ⟨μ4, e4, h⟩ := zinv h
  refine z_cVv fx (c12_puts (zLo X) (zDo X) Sh top hO o_ (t3 + 1) 0 μ2 _ ho e4) mv12_puts ml12_310 ho rfl rfl rfl rfl d12_learns_19 ?_
  cases h
  exact z_return fx fin d12_learns_22
theorem d12_passes_0 : zd cX12_passes 0 (.aload_n 0) 1 1 := by decide +kernel
theorem d12_passes_1 : zd cX12_passes 1 (.iload_n 1) 1 2 := by decide +kernel
theorem d12_passes_2 : zd cX12_passes 2 (.iconst 1) 1 3 := by decide +kernel
theorem d12_passes_3 : zd cX12_passes 3 (.invokevirtual 334) 3 6 := by decide +kernel
theorem d12_passes_6 : zd cX12_passes 6 (.iconst 2) 1 7 := by decide +kernel
theorem d12_passes_7 : zj cX12_passes 7 (.if_icmp .ne 11) 11 10 18 := by decide +kernel
theorem d12_passes_10 : zd cX12_passes 10 (.aload_n 0) 1 11 := by decide +kernel
theorem d12_passes_11 : zd cX12_passes 11 (.getfield 202) 3 14 := by decide +kernel
theorem d12_passes_14 : zd cX12_passes 14 (.iconst 1) 1 15 := by decide +kernel
theorem d12_passes_15 : zj cX12_passes 15 (.if_icmp .ne 4) 4 18 19 := by decide +kernel
theorem d12_passes_18 : zd cX12_passes 18 (.return_) 1 19 := by decide +kernel
theorem d12_passes_19 : zd cX12_passes 19 (.aload_n 0) 1 20 := by decide +kernel
theorem d12_passes_20 : zd cX12_passes 20 (.getfield 199) 3 23 := by decide +kernel
theorem d12_passes_23 : zd cX12_passes 23 (.bipush 64) 2 25 := by decide +kernel
theorem d12_passes_25 : zj cX12_passes 25 (.if_icmp .ne 9) 9 28 34 := by decide +kernel
theorem d12_passes_28 : zd cX12_passes 28 (.aload_n 0) 1 29 := by decide +kernel
theorem d12_passes_29 : zd cX12_passes 29 (.iconst 1) 1 30 := by decide +kernel
theorem d12_passes_30 : zd cX12_passes 30 (.putfield 202) 3 33 := by decide +kernel
theorem d12_passes_33 : zd cX12_passes 33 (.return_) 1 34 := by decide +kernel
theorem d12_passes_34 : zd cX12_passes 34 (.aload_n 0) 1 35 := by decide +kernel
theorem d12_passes_35 : zd cX12_passes 35 (.dup) 1 36 := by decide +kernel
theorem d12_passes_36 : zd cX12_passes 36 (.getfield 199) 3 39 := by decide +kernel
theorem d12_passes_39 : zd cX12_passes 39 (.iconst 1) 1 40 := by decide +kernel
theorem d12_passes_40 : zd cX12_passes 40 (.iadd) 1 41 := by decide +kernel
theorem d12_passes_41 : zd cX12_passes 41 (.putfield 199) 3 44 := by decide +kernel
theorem d12_passes_44 : zd cX12_passes 44 (.aload_n 0) 1 45 := by decide +kernel
theorem d12_passes_45 : zd cX12_passes 45 (.iload_n 1) 1 46 := by decide +kernel
theorem d12_passes_46 : zd cX12_passes 46 (.invokevirtual 422) 3 49 := by decide +kernel
theorem d12_passes_49 : zd cX12_passes 49 (.istore_n 3) 1 50 := by decide +kernel
theorem d12_passes_50 : zd cX12_passes 50 (.aload_n 0) 1 51 := by decide +kernel
theorem d12_passes_51 : zd cX12_passes 51 (.iload_n 3) 1 52 := by decide +kernel
theorem d12_passes_52 : zd cX12_passes 52 (.iconst 1) 1 53 := by decide +kernel
theorem d12_passes_53 : zd cX12_passes 53 (.invokevirtual 334) 3 56 := by decide +kernel
theorem d12_passes_56 : zj cX12_passes 56 (.ifCond .ne 4) 4 59 60 := by decide +kernel
theorem d12_passes_59 : zd cX12_passes 59 (.return_) 1 60 := by decide +kernel
theorem d12_passes_60 : zd cX12_passes 60 (.aload_n 0) 1 61 := by decide +kernel
theorem d12_passes_61 : zd cX12_passes 61 (.iload_n 3) 1 62 := by decide +kernel
theorem d12_passes_62 : zd cX12_passes 62 (.bipush 6) 2 64 := by decide +kernel
theorem d12_passes_64 : zd cX12_passes 64 (.idiv) 1 65 := by decide +kernel
theorem d12_passes_65 : zd cX12_passes 65 (.iload_n 2) 1 66 := by decide +kernel
theorem d12_passes_66 : zd cX12_passes 66 (.iload_n 3) 1 67 := by decide +kernel
theorem d12_passes_67 : zd cX12_passes 67 (.bipush 6) 2 69 := by decide +kernel
theorem d12_passes_69 : zd cX12_passes 69 (.irem) 1 70 := by decide +kernel
theorem d12_passes_70 : zd cX12_passes 70 (.invokevirtual 557) 3 73 := by decide +kernel
theorem d12_passes_73 : zd cX12_passes 73 (.aload_n 0) 1 74 := by decide +kernel
theorem d12_passes_74 : zd cX12_passes 74 (.iload_n 3) 1 75 := by decide +kernel
theorem d12_passes_75 : zd cX12_passes 75 (.iconst 1) 1 76 := by decide +kernel
theorem d12_passes_76 : zd cX12_passes 76 (.invokevirtual 334) 3 79 := by decide +kernel
theorem d12_passes_79 : zd cX12_passes 79 (.iconst 2) 1 80 := by decide +kernel
theorem d12_passes_80 : zj cX12_passes 80 (.if_icmp .eq 4) 4 83 84 := by decide +kernel
theorem d12_passes_83 : zd cX12_passes 83 (.return_) 1 84 := by decide +kernel
theorem d12_passes_84 : zd cX12_passes 84 (.aload_n 0) 1 85 := by decide +kernel
theorem d12_passes_85 : zd cX12_passes 85 (.getfield 187) 3 88 := by decide +kernel
theorem d12_passes_88 : zd cX12_passes 88 (.aload_n 0) 1 89 := by decide +kernel
theorem d12_passes_89 : zd cX12_passes 89 (.getfield 190) 3 92 := by decide +kernel
theorem d12_passes_92 : zd cX12_passes 92 (.bipush 7) 2 94 := by decide +kernel
theorem d12_passes_94 : zd cX12_passes 94 (.iload_n 3) 1 95 := by decide +kernel
theorem d12_passes_95 : zd cX12_passes 95 (.bipush 6) 2 97 := by decide +kernel
theorem d12_passes_97 : zd cX12_passes 97 (.idiv) 1 98 := by decide +kernel
theorem d12_passes_98 : zd cX12_passes 98 (.imul) 1 99 := by decide +kernel
theorem d12_passes_99 : zd cX12_passes 99 (.iload_n 3) 1 100 := by decide +kernel
theorem d12_passes_100 : zd cX12_passes 100 (.bipush 6) 2 102 := by decide +kernel
theorem d12_passes_102 : zd cX12_passes 102 (.irem) 1 103 := by decide +kernel
theorem d12_passes_103 : zd cX12_passes 103 (.iadd) 1 104 := by decide +kernel
theorem d12_passes_104 : zd cX12_passes 104 (.iastore) 1 105 := by decide +kernel
theorem d12_passes_105 : zd cX12_passes 105 (.aload_n 0) 1 106 := by decide +kernel
theorem d12_passes_106 : zd cX12_passes 106 (.dup) 1 107 := by decide +kernel
theorem d12_passes_107 : zd cX12_passes 107 (.getfield 190) 3 110 := by decide +kernel
theorem d12_passes_110 : zd cX12_passes 110 (.iconst 1) 1 111 := by decide +kernel
theorem d12_passes_111 : zd cX12_passes 111 (.iadd) 1 112 := by decide +kernel
theorem d12_passes_112 : zd cX12_passes 112 (.putfield 190) 3 115 := by decide +kernel
theorem d12_passes_115 : zd cX12_passes 115 (.return_) 1 116 := by decide +kernel
set_option maxHeartbeats 4000000 in
set_option maxRecDepth 20000 in
theorem c12_passes (l : Launch) (D : zDt) (Sh : zSh) (top : Nat) (hO : zOK Sh) (o_ : Nat) (v_p : Int32) (v_host : Int32) (μ : zM) (μ_ : zM) (ho : (Sh o_).1 = 19) (h : f12_passes o_ v_p v_host μ = some μ_) : zMet l D zK1 yX12_passes cX12_passes 4 none (zrm 2 45) [.ref o_, .int v_p, .int v_host] Sh top μ none Sh top μ_ 0 0 := by
  refine zMet_of (by decide) (Nat.le_of_ble_eq_true rfl) fun X hX1 hX2 fx fin => ?_
  subst hX1; subst hX2
  replace fx : zFix X cX12_passes RX12 (zrm 2 45) 4 := fx
  show zZ zK1 X (zT0 Sh top) μ 0 [(0, .ref o_), (1, .int v_p), (2, .int v_host)] []
  unfold f12_passes at h
  obtain ⟨b1, e2, h⟩ := zinv h
  have kt1 : b1 = true → zZ zK1 X (zT0 Sh top) μ 18 [(0, .ref o_), (1, .int v_p), (2, .int v_host)] [] := by
    intro hc
    replace h := zif_t hc h
    cases h
    exact z_return fx fin d12_passes_18
  have kf1 : b1 = false → zZ zK1 X (zT0 Sh top) μ 19 [(0, .ref o_), (1, .int v_p), (2, .int v_host)] [] := by
    intro hc
    replace h := zif_f hc h
    refine z_aload_n fx (k := 0) (i := 0) rfl rfl d12_passes_19 ?_
    refine z_getI fx 12 62 1262 ho lf12_199 ⟨fk12_62, rfl⟩ d12_passes_20 ?_
    refine z_bipush fx (v := 64) bp64 d12_passes_23 ?_
    refine z_icmp_ne fx d12_passes_25 (fun c3 => ?_) (fun c3 => ?_)
    · replace h := zif_f c3 h
      refine z_aload_n fx (k := 0) (i := 0) rfl rfl d12_passes_34 ?_
      refine z_dup fx rfl d12_passes_35 ?_
      refine z_getI fx 12 62 1262 ho lf12_199 ⟨fk12_62, rfl⟩ d12_passes_36 ?_
      refine z_iconst fx (v := 1) ic1 d12_passes_39 ?_
      refine z_iadd fx d12_passes_40 ?_
      obtain ⟨μ2, e4, h⟩ := zinv h
      refine z_putI fx (ci := 12) 62 ho lf12_199 fp12_62 e4 d12_passes_41 ?_
      refine z_aload_n fx (k := 0) (i := 0) rfl rfl d12_passes_44 ?_
      refine z_iload_n fx (k := 1) (i := 1) rfl rfl d12_passes_45 ?_
      obtain ⟨t3, e5, h⟩ := zinv h
      refine z_cVr fx (c12_otherPort (zLo X) (zDo X) Sh top hO o_ v_p μ2 _ ho e5) mv12_otherPort ml12_422 ho rfl rfl rfl rfl d12_passes_46 ?_
      refine z_istore_n fx (k := 3) (i := 3) rfl rfl (lv' := [(0, .ref o_), (1, .int v_p), (2, .int v_host), (3, .int t3)]) rfl rfl d12_passes_49 ?_
      refine z_aload_n fx (k := 0) (i := 0) rfl rfl d12_passes_50 ?_
      refine z_iload_n fx (k := 3) (i := 3) rfl rfl d12_passes_51 ?_
      refine z_iconst fx (v := 1) ic1 d12_passes_52 ?_
      obtain ⟨t4, e6, h⟩ := zinv h
      refine z_cVr fx (c12_portOf (zLo X) (zDo X) Sh top hO o_ t3 1 μ2 _ ho e6) mv12_portOf ml12_334 ho rfl rfl rfl rfl d12_passes_53 ?_
      refine z_if_ne fx d12_passes_56 (fun c7 => ?_) (fun c7 => ?_)
      · replace h := zif_f c7 h
        refine z_aload_n fx (k := 0) (i := 0) rfl rfl d12_passes_60 ?_
        refine z_iload_n fx (k := 3) (i := 3) rfl rfl d12_passes_61 ?_
        refine z_bipush fx (v := 6) bp6 d12_passes_62 ?_
        obtain ⟨t5, e8, h⟩ := zinv h
        refine z_idiv fx e8 d12_passes_64 ?_
        refine z_iload_n fx (k := 2) (i := 2) rfl rfl d12_passes_65 ?_
        refine z_iload_n fx (k := 3) (i := 3) rfl rfl d12_passes_66 ?_
        refine z_bipush fx (v := 6) bp6 d12_passes_67 ?_
        obtain ⟨t6, e9, h⟩ := zinv h
        refine z_irem fx e9 d12_passes_69 ?_
        obtain ⟨μ7, e10, h⟩ := zinv h
        refine z_cVv fx (c12_learns (zLo X) (zDo X) Sh top hO o_ t5 v_host t6 μ2 _ ho e10) mv12_learns ml12_557 ho rfl rfl rfl rfl d12_passes_70 ?_
        refine z_aload_n fx (k := 0) (i := 0) rfl rfl d12_passes_73 ?_
        refine z_iload_n fx (k := 3) (i := 3) rfl rfl d12_passes_74 ?_
        refine z_iconst fx (v := 1) ic1 d12_passes_75 ?_
        obtain ⟨t8, e11, h⟩ := zinv h
        refine z_cVr fx (c12_portOf (zLo X) (zDo X) Sh top hO o_ t3 1 μ7 _ ho e11) mv12_portOf ml12_334 ho rfl rfl rfl rfl d12_passes_76 ?_
        refine z_iconst fx (v := 2) ic2 d12_passes_79 ?_
        refine z_icmp_eq fx d12_passes_80 (fun c12 => ?_) (fun c12 => ?_)
        · replace h := zif_t c12 h
          refine z_aload_n fx (k := 0) (i := 0) rfl rfl d12_passes_84 ?_
          refine z_getO fx 12 58 35 ho lf12_187 fk12_58 d12_passes_85 ?_
          refine z_aload_n fx (k := 0) (i := 0) rfl rfl d12_passes_88 ?_
          refine z_getI fx 12 59 1259 ho lf12_190 ⟨fk12_59, rfl⟩ d12_passes_89 ?_
          refine z_bipush fx (v := 7) bp7 d12_passes_92 ?_
          refine z_iload_n fx (k := 3) (i := 3) rfl rfl d12_passes_94 ?_
          refine z_bipush fx (v := 6) bp6 d12_passes_95 ?_
          obtain ⟨t9, e13, h⟩ := zinv h
          refine z_idiv fx e13 d12_passes_97 ?_
          refine z_imul fx d12_passes_98 ?_
          refine z_iload_n fx (k := 3) (i := 3) rfl rfl d12_passes_99 ?_
          refine z_bipush fx (v := 6) bp6 d12_passes_100 ?_
          obtain ⟨t10, e14, h⟩ := zinv h
          refine z_irem fx e14 d12_passes_102 ?_
          refine z_iadd fx d12_passes_103 ?_
          obtain ⟨μ11, e15, h⟩ := zinv h
          refine z_iast fx (ok12_58 hO ho) e15 d12_passes_104 ?_
          refine z_aload_n fx (k := 0) (i := 0) rfl rfl d12_passes_105 ?_
          refine z_dup fx rfl d12_passes_106 ?_
          refine z_getI fx 12 59 1259 ho lf12_190 ⟨fk12_59, rfl⟩ d12_passes_107 ?_
          refine z_iconst fx (v := 1) ic1 d12_passes_110 ?_
          refine z_iadd fx d12_passes_111 ?_
          obtain ⟨μ12, e16, h⟩ := zinv h
          refine z_putI fx (ci := 12) 59 ho lf12_190 fp12_59 e16 d12_passes_112 ?_
          cases h
          exact z_return fx fin d12_passes_115
        · replace h := zif_f c12 h
          cases h
          exact z_return fx fin d12_passes_83
      · replace h := zif_t c7 h
        cases h
        exact z_return fx fin d12_passes_59
    · replace h := zif_t c3 h
      refine z_aload_n fx (k := 0) (i := 0) rfl rfl d12_passes_28 ?_
      refine z_iconst fx (v := 1) ic1 d12_passes_29 ?_
      obtain ⟨μ13, e17, h⟩ := zinv h
      refine z_putI fx (ci := 12) 63 ho lf12_202 fp12_63 e17 d12_passes_30 ?_
      cases h
      exact z_return fx fin d12_passes_33
  clear h
  obtain ⟨b14, e18, e2⟩ := zinv e2
  have kf19 : b14 = false → zZ zK1 X (zT0 Sh top) μ 10 [(0, .ref o_), (1, .int v_p), (2, .int v_host)] [] := by
    intro hc
    replace e2 := zif_f hc e2
    refine z_aload_n fx (k := 0) (i := 0) rfl rfl d12_passes_10 ?_
    refine z_getI fx 12 63 1263 ho lf12_202 ⟨fk12_63, rfl⟩ d12_passes_11 ?_
    refine z_iconst fx (v := 1) ic1 d12_passes_14 ?_
    cases e2
    refine z_icmp_ne fx d12_passes_15 (fun c20 => ?_) (fun c20 => ?_)
    · exact kf1 c20
    · exact kt1 c20
  have kt19 : b14 = true → zZ zK1 X (zT0 Sh top) μ 18 [(0, .ref o_), (1, .int v_p), (2, .int v_host)] [] := by
    intro hc
    replace e2 := zif_t hc e2
    cases e2
    exact kt1 rfl
  clear e2
  refine z_aload_n fx (k := 0) (i := 0) rfl rfl d12_passes_0 ?_
  refine z_iload_n fx (k := 1) (i := 1) rfl rfl d12_passes_1 ?_
  refine z_iconst fx (v := 1) ic1 d12_passes_2 ?_
  obtain ⟨t15, e21, e18⟩ := zinv e18
  refine z_cVr fx (c12_portOf (zLo X) (zDo X) Sh top hO o_ v_p 1 μ _ ho e21) mv12_portOf ml12_334 ho rfl rfl rfl rfl d12_passes_3 ?_
  refine z_iconst fx (v := 2) ic2 d12_passes_6 ?_
  cases e18
  refine z_icmp_ne fx d12_passes_7 (fun c22 => ?_) (fun c22 => ?_)
  · exact kt19 (by rw [c22]; rfl)
  · exact kf19 (by rw [c22]; rfl)
theorem d12_goesOut_0 : zd cX12_goesOut 0 (.aload_n 0) 1 1 := by decide +kernel
theorem d12_goesOut_1 : zd cX12_goesOut 1 (.iload_n 1) 1 2 := by decide +kernel
theorem d12_goesOut_2 : zd cX12_goesOut 2 (.iload 4) 2 4 := by decide +kernel
theorem d12_goesOut_4 : zd cX12_goesOut 4 (.invokestatic 348) 3 7 := by decide +kernel
theorem d12_goesOut_7 : zd cX12_goesOut 7 (.invokevirtual 316) 3 10 := by decide +kernel
theorem d12_goesOut_10 : zd cX12_goesOut 10 (.istore 5) 2 12 := by decide +kernel
theorem d12_goesOut_12 : zd cX12_goesOut 12 (.iload 5) 2 14 := by decide +kernel
theorem d12_goesOut_14 : zd cX12_goesOut 14 (.iconst (-1)) 1 15 := by decide +kernel
theorem d12_goesOut_15 : zj cX12_goesOut 15 (.if_icmp .ne 43) 43 18 58 := by decide +kernel
theorem d12_goesOut_18 : zd cX12_goesOut 18 (.iconst 0) 1 19 := by decide +kernel
theorem d12_goesOut_19 : zd cX12_goesOut 19 (.istore 6) 2 21 := by decide +kernel
theorem d12_goesOut_21 : zd cX12_goesOut 21 (.iload 6) 2 23 := by decide +kernel
theorem d12_goesOut_23 : zd cX12_goesOut 23 (.aload_n 0) 1 24 := by decide +kernel
theorem d12_goesOut_24 : zd cX12_goesOut 24 (.getfield 35) 3 27 := by decide +kernel
theorem d12_goesOut_27 : zd cX12_goesOut 27 (.iload_n 1) 1 28 := by decide +kernel
theorem d12_goesOut_28 : zd cX12_goesOut 28 (.iaload) 1 29 := by decide +kernel
theorem d12_goesOut_29 : zj cX12_goesOut 29 (.if_icmp .ge 26) 26 32 55 := by decide +kernel
theorem d12_goesOut_32 : zd cX12_goesOut 32 (.iload 6) 2 34 := by decide +kernel
theorem d12_goesOut_34 : zd cX12_goesOut 34 (.iload_n 2) 1 35 := by decide +kernel
theorem d12_goesOut_35 : zj cX12_goesOut 35 (.if_icmp .eq 14) 14 38 49 := by decide +kernel
theorem d12_goesOut_38 : zd cX12_goesOut 38 (.aload_n 0) 1 39 := by decide +kernel
theorem d12_goesOut_39 : zd cX12_goesOut 39 (.iload_n 1) 1 40 := by decide +kernel
theorem d12_goesOut_40 : zd cX12_goesOut 40 (.iload 6) 2 42 := by decide +kernel
theorem d12_goesOut_42 : zd cX12_goesOut 42 (.invokestatic 325) 3 45 := by decide +kernel
theorem d12_goesOut_45 : zd cX12_goesOut 45 (.iload_n 3) 1 46 := by decide +kernel
theorem d12_goesOut_46 : zd cX12_goesOut 46 (.invokevirtual 560) 3 49 := by decide +kernel
theorem d12_goesOut_49 : zd cX12_goesOut 49 (.iinc 6 1) 3 52 := by decide +kernel
theorem d12_goesOut_52 : zj cX12_goesOut 52 (.goto (-31)) (-31) 55 21 := by decide +kernel
theorem d12_goesOut_55 : zj cX12_goesOut 55 (.goto 27) 27 58 82 := by decide +kernel
theorem d12_goesOut_58 : zd cX12_goesOut 58 (.iload 5) 2 60 := by decide +kernel
theorem d12_goesOut_60 : zd cX12_goesOut 60 (.bipush 6) 2 62 := by decide +kernel
theorem d12_goesOut_62 : zj cX12_goesOut 62 (.if_icmp .eq 20) 20 65 82 := by decide +kernel
theorem d12_goesOut_65 : zd cX12_goesOut 65 (.iload 5) 2 67 := by decide +kernel
theorem d12_goesOut_67 : zd cX12_goesOut 67 (.iload_n 2) 1 68 := by decide +kernel
theorem d12_goesOut_68 : zj cX12_goesOut 68 (.if_icmp .eq 14) 14 71 82 := by decide +kernel
theorem d12_goesOut_71 : zd cX12_goesOut 71 (.aload_n 0) 1 72 := by decide +kernel
theorem d12_goesOut_72 : zd cX12_goesOut 72 (.iload_n 1) 1 73 := by decide +kernel
theorem d12_goesOut_73 : zd cX12_goesOut 73 (.iload 5) 2 75 := by decide +kernel
theorem d12_goesOut_75 : zd cX12_goesOut 75 (.invokestatic 325) 3 78 := by decide +kernel
theorem d12_goesOut_78 : zd cX12_goesOut 78 (.iload_n 3) 1 79 := by decide +kernel
theorem d12_goesOut_79 : zd cX12_goesOut 79 (.invokevirtual 560) 3 82 := by decide +kernel
theorem d12_goesOut_82 : zd cX12_goesOut 82 (.iload 5) 2 84 := by decide +kernel
theorem d12_goesOut_84 : zd cX12_goesOut 84 (.bipush 6) 2 86 := by decide +kernel
theorem d12_goesOut_86 : zj cX12_goesOut 86 (.if_icmp .eq 16) 16 89 102 := by decide +kernel
theorem d12_goesOut_89 : zd cX12_goesOut 89 (.iload 5) 2 91 := by decide +kernel
theorem d12_goesOut_91 : zd cX12_goesOut 91 (.iconst (-1)) 1 92 := by decide +kernel
theorem d12_goesOut_92 : zj cX12_goesOut 92 (.if_icmp .ne 14) 14 95 106 := by decide +kernel
theorem d12_goesOut_95 : zd cX12_goesOut 95 (.aload_n 0) 1 96 := by decide +kernel
theorem d12_goesOut_96 : zd cX12_goesOut 96 (.getfield 202) 3 99 := by decide +kernel
theorem d12_goesOut_99 : zj cX12_goesOut 99 (.ifCond .ne 7) 7 102 106 := by decide +kernel
theorem d12_goesOut_102 : zd cX12_goesOut 102 (.iconst 1) 1 103 := by decide +kernel
theorem d12_goesOut_103 : zj cX12_goesOut 103 (.goto 4) 4 106 107 := by decide +kernel
theorem d12_goesOut_106 : zd cX12_goesOut 106 (.iconst 0) 1 107 := by decide +kernel
theorem d12_goesOut_107 : zd cX12_goesOut 107 (.istore 6) 2 109 := by decide +kernel
theorem d12_goesOut_109 : zd cX12_goesOut 109 (.aload_n 0) 1 110 := by decide +kernel
theorem d12_goesOut_110 : zd cX12_goesOut 110 (.dup) 1 111 := by decide +kernel
theorem d12_goesOut_111 : zd cX12_goesOut 111 (.getfield 196) 3 114 := by decide +kernel
theorem d12_goesOut_114 : zd cX12_goesOut 114 (.iload 6) 2 116 := by decide +kernel
theorem d12_goesOut_116 : zj cX12_goesOut 116 (.ifCond .eq 21) 21 119 137 := by decide +kernel
theorem d12_goesOut_119 : zd cX12_goesOut 119 (.aload_n 0) 1 120 := by decide +kernel
theorem d12_goesOut_120 : zd cX12_goesOut 120 (.sipush 978) 3 123 := by decide +kernel
theorem d12_goesOut_123 : zd cX12_goesOut 123 (.iload 4) 2 125 := by decide +kernel
theorem d12_goesOut_125 : zd cX12_goesOut 125 (.iadd) 1 126 := by decide +kernel
theorem d12_goesOut_126 : zd cX12_goesOut 126 (.invokevirtual 316) 3 129 := by decide +kernel
theorem d12_goesOut_129 : zd cX12_goesOut 129 (.iload_n 1) 1 130 := by decide +kernel
theorem d12_goesOut_130 : zj cX12_goesOut 130 (.if_icmp .ne 7) 7 133 137 := by decide +kernel
theorem d12_goesOut_133 : zd cX12_goesOut 133 (.iconst 1) 1 134 := by decide +kernel
theorem d12_goesOut_134 : zj cX12_goesOut 134 (.goto 4) 4 137 138 := by decide +kernel
theorem d12_goesOut_137 : zd cX12_goesOut 137 (.iconst 0) 1 138 := by decide +kernel
theorem d12_goesOut_138 : zd cX12_goesOut 138 (.iadd) 1 139 := by decide +kernel
theorem d12_goesOut_139 : zd cX12_goesOut 139 (.putfield 196) 3 142 := by decide +kernel
theorem d12_goesOut_142 : zd cX12_goesOut 142 (.return_) 1 143 := by decide +kernel
set_option maxHeartbeats 4000000 in
set_option maxRecDepth 20000 in
theorem c12_goesOut (l : Launch) (D : zDt) (Sh : zSh) (top : Nat) (hO : zOK Sh) (o_ : Nat) (v_b : Int32) (v_by : Int32) (v_host : Int32) (v_to : Int32) (μ : zM) (μ_ : zM) (ho : (Sh o_).1 = 19) (h : f12_goesOut o_ v_b v_by v_host v_to μ = some μ_) : zMet l D zK1 yX12_goesOut cX12_goesOut 7 none (zrm 3 68) [.ref o_, .int v_b, .int v_by, .int v_host, .int v_to] Sh top μ none Sh top μ_ 0 0 := by
  refine zMet_of (by decide) (Nat.le_of_ble_eq_true rfl) fun X hX1 hX2 fx fin => ?_
  subst hX1; subst hX2
  replace fx : zFix X cX12_goesOut RX12 (zrm 3 68) 7 := fx
  show zZ zK1 X (zT0 Sh top) μ 0 [(0, .ref o_), (1, .int v_b), (2, .int v_by), (3, .int v_host), (4, .int v_to)] []
  unfold f12_goesOut at h
  refine z_aload_n fx (k := 0) (i := 0) rfl rfl d12_goesOut_0 ?_
  refine z_iload_n fx (k := 1) (i := 1) rfl rfl d12_goesOut_1 ?_
  refine z_iload fx (i := 4) rfl d12_goesOut_2 ?_
  obtain ⟨t1, e1, h⟩ := zinv h
  refine z_cSr fx (c12_addressAt (zLo X) (zDo X) Sh top hO v_b v_to μ _  e1) ms12_addressAt ml12_348 rfl rfl rfl rfl d12_goesOut_4 ?_
  obtain ⟨t2, e2, h⟩ := zinv h
  refine z_cVr fx (c12_its (zLo X) (zDo X) Sh top hO o_ t1 μ _ ho e2) mv12_its ml12_316 ho rfl rfl rfl rfl d12_goesOut_7 ?_
  refine z_istore fx (i := 5) rfl (lv' := [(0, .ref o_), (1, .int v_b), (2, .int v_by), (3, .int v_host), (4, .int v_to), (5, .int t2)]) rfl rfl d12_goesOut_10 ?_
  obtain ⟨μ3, e3, h⟩ := zinv h
  have k4 : zZ zK1 X (zT0 Sh top) μ3 82 [(0, .ref o_), (1, .int v_b), (2, .int v_by), (3, .int v_host), (4, .int v_to), (5, .int t2)] [] := by
    obtain ⟨b4, e5, h⟩ := zinv h
    replace e5 := Option.some.inj e5
    have k6 : zZ zK1 X (zT0 Sh top) μ3 107 [(0, .ref o_), (1, .int v_b), (2, .int v_by), (3, .int v_host), (4, .int v_to), (5, .int t2)] [.int (bI b4)] := by
      refine z_istore fx (i := 6) rfl (lv' := [(0, .ref o_), (1, .int v_b), (2, .int v_by), (3, .int v_host), (4, .int v_to), (5, .int t2), (6, .int (bI b4))]) rfl rfl d12_goesOut_107 ?_
      refine z_aload_n fx (k := 0) (i := 0) rfl rfl d12_goesOut_109 ?_
      refine z_dup fx rfl d12_goesOut_110 ?_
      refine z_getI fx 12 61 1261 ho lf12_196 ⟨fk12_61, rfl⟩ d12_goesOut_111 ?_
      obtain ⟨x5, e10, h⟩ := zinv h
      have k11 : zZ zK1 X (zT0 Sh top) μ3 138 [(0, .ref o_), (1, .int v_b), (2, .int v_by), (3, .int v_host), (4, .int v_to), (5, .int t2), (6, .int (bI b4))] [.int x5, .int (gF μ3 1261 o_), .ref o_] := by
        refine z_iadd fx d12_goesOut_138 ?_
        obtain ⟨μ8, e17, h⟩ := zinv h
        refine z_putI fx (ci := 12) 61 ho lf12_196 fp12_61 e17 d12_goesOut_139 ?_
        cases h
        exact z_return fx fin d12_goesOut_142
      obtain ⟨b6, e13, e10⟩ := zinv e10
      have kt12 : b6 = true → zZ zK1 X (zT0 Sh top) μ3 133 [(0, .ref o_), (1, .int v_b), (2, .int v_by), (3, .int v_host), (4, .int v_to), (5, .int t2), (6, .int (bI b4))] [.int (gF μ3 1261 o_), .ref o_] := by
        intro hc
        replace e10 := zif_t hc e10
        refine z_iconst fx (v := 1) ic1 d12_goesOut_133 ?_
        cases e10
        refine z_goto fx d12_goesOut_134 ?_
        exact k11
      have kf12 : b6 = false → zZ zK1 X (zT0 Sh top) μ3 137 [(0, .ref o_), (1, .int v_b), (2, .int v_by), (3, .int v_host), (4, .int v_to), (5, .int t2), (6, .int (bI b4))] [.int (gF μ3 1261 o_), .ref o_] := by
        intro hc
        replace e10 := zif_f hc e10
        refine z_iconst fx (v := 0) ic0 d12_goesOut_137 ?_
        cases e10
        exact k11
      clear e10
      refine z_iload fx (i := 6) rfl d12_goesOut_114 ?_
      refine z_ifb_eq fx d12_goesOut_116 (fun c14 => ?_) (fun c14 => ?_)
      · replace e13 := zif_f c14 e13
        cases e13
        exact kf12 rfl
      · replace e13 := zif_t c14 e13
        refine z_aload_n fx (k := 0) (i := 0) rfl rfl d12_goesOut_119 ?_
        refine z_sipush fx (v := 978) sp978 d12_goesOut_120 ?_
        refine z_iload fx (i := 4) rfl d12_goesOut_123 ?_
        refine z_iadd fx d12_goesOut_125 ?_
        obtain ⟨t7, e15, e13⟩ := zinv e13
        refine z_cVr fx (c12_its (zLo X) (zDo X) Sh top hO o_ (978 + v_to) μ3 _ ho e15) mv12_its ml12_316 ho rfl rfl rfl rfl d12_goesOut_126 ?_
        refine z_iload_n fx (k := 1) (i := 1) rfl rfl d12_goesOut_129 ?_
        cases e13
        refine z_icmp_ne fx d12_goesOut_130 (fun c16 => ?_) (fun c16 => ?_)
        · exact kf12 c16
        · exact kt12 c16
    refine z_iload fx (i := 5) rfl d12_goesOut_82 ?_
    refine z_bipush fx (v := 6) bp6 d12_goesOut_84 ?_
    refine z_icmp_eq fx d12_goesOut_86 (fun c7 => ?_) (fun c7 => ?_)
    · refine z_iconst fx (v := 1) ic1 d12_goesOut_102 ?_
      refine z_goto fx d12_goesOut_103 ?_
      exact z_top (congrArg Value.int (show 1 = bI b4 by rw [← e5]; simp [c7, bI])) k6
    · refine z_iload fx (i := 5) rfl d12_goesOut_89 ?_
      refine z_iconst fx (v := (-1)) icm1 d12_goesOut_91 ?_
      refine z_icmp_ne fx d12_goesOut_92 (fun c8 => ?_) (fun c8 => ?_)
      · refine z_iconst fx (v := 0) ic0 d12_goesOut_106 ?_
        exact z_top (congrArg Value.int (show 0 = bI b4 by rw [← e5]; simp [c7, c8, bI])) k6
      · refine z_aload_n fx (k := 0) (i := 0) rfl rfl d12_goesOut_95 ?_
        refine z_getI fx 12 63 1263 ho lf12_202 ⟨fk12_63, rfl⟩ d12_goesOut_96 ?_
        refine z_if_ne fx d12_goesOut_99 (fun c9 => ?_) (fun c9 => ?_)
        · refine z_iconst fx (v := 0) ic0 d12_goesOut_106 ?_
          exact z_top (congrArg Value.int (show 0 = bI b4 by rw [← e5]; simp [c7, c8, c9, bI])) k6
        · refine z_iconst fx (v := 1) ic1 d12_goesOut_102 ?_
          refine z_goto fx d12_goesOut_103 ?_
          exact z_top (congrArg Value.int (show 1 = bI b4 by rw [← e5]; simp [c7, c8, c9, bI])) k6
  clear h
  refine z_iload fx (i := 5) rfl d12_goesOut_12 ?_
  refine z_iconst fx (v := (-1)) icm1 d12_goesOut_14 ?_
  refine z_icmp_ne fx d12_goesOut_15 (fun c18 => ?_) (fun c18 => ?_)
  · replace e3 := zif_f c18 e3
    have kt19 : ((!(ceq t2 6)) && (!(ceq t2 v_by))) = true → zZ zK1 X (zT0 Sh top) μ 71 [(0, .ref o_), (1, .int v_b), (2, .int v_by), (3, .int v_host), (4, .int v_to), (5, .int t2)] [] := by
      intro hc
      replace e3 := zif_t hc e3
      refine z_aload_n fx (k := 0) (i := 0) rfl rfl d12_goesOut_71 ?_
      refine z_iload_n fx (k := 1) (i := 1) rfl rfl d12_goesOut_72 ?_
      refine z_iload fx (i := 5) rfl d12_goesOut_73 ?_
      obtain ⟨t9, e20, e3⟩ := zinv e3
      refine z_cSr fx (c12_placeOf (zLo X) (zDo X) Sh top hO v_b t2 μ _  e20) ms12_placeOf ml12_325 rfl rfl rfl rfl d12_goesOut_75 ?_
      refine z_iload_n fx (k := 3) (i := 3) rfl rfl d12_goesOut_78 ?_
      obtain ⟨μ10, e21, e3⟩ := zinv e3
      refine z_cVv fx (c12_passes (zLo X) (zDo X) Sh top hO o_ t9 v_host μ _ ho e21) mv12_passes ml12_560 ho rfl rfl rfl rfl d12_goesOut_79 ?_
      cases e3
      exact k4
    have kf19 : ((!(ceq t2 6)) && (!(ceq t2 v_by))) = false → zZ zK1 X (zT0 Sh top) μ 82 [(0, .ref o_), (1, .int v_b), (2, .int v_by), (3, .int v_host), (4, .int v_to), (5, .int t2)] [] := by
      intro hc
      replace e3 := zif_f hc e3
      cases e3
      exact k4
    clear e3
    refine z_iload fx (i := 5) rfl d12_goesOut_58 ?_
    refine z_bipush fx (v := 6) bp6 d12_goesOut_60 ?_
    refine z_icmp_eq fx d12_goesOut_62 (fun c22 => ?_) (fun c22 => ?_)
    · exact kf19 (by simp [c22])
    · refine z_iload fx (i := 5) rfl d12_goesOut_65 ?_
      refine z_iload_n fx (k := 2) (i := 2) rfl rfl d12_goesOut_67 ?_
      refine z_icmp_eq fx d12_goesOut_68 (fun c23 => ?_) (fun c23 => ?_)
      · exact kf19 (by simp [c22, c23])
      · exact kt19 (by simp [c22, c23])
  · replace e3 := zif_t c18 e3
    refine z_iconst fx (v := 0) ic0 d12_goesOut_18 ?_
    refine z_istore fx (i := 6) rfl (lv' := [(0, .ref o_), (1, .int v_b), (2, .int v_by), (3, .int v_host), (4, .int v_to), (5, .int t2), (6, .int 0)]) rfl rfl d12_goesOut_19 ?_
    obtain ⟨v_k_13, μ14, e36, e3⟩ := zinv2 e3
    have kx27 : zZ zK1 X (zT0 Sh top) μ14 55 [(0, .ref o_), (1, .int v_b), (2, .int v_by), (3, .int v_host), (4, .int v_to), (5, .int t2), (6, .int v_k_13)] [] := by
      refine z_take 6 (lv' := [(0, .ref o_), (1, .int v_b), (2, .int v_by), (3, .int v_host), (4, .int v_to), (5, .int t2)]) rfl ?_
      cases e3
      refine z_goto fx d12_goesOut_55 ?_
      exact k4
    clear e3
    have klr26 : ∀ (n : Nat) (v_k_11 : Int32) (μ12 : zM), zloop (fun s => f12_goesOut_L1 o_ v_b v_by v_host s.1 s.2) n (v_k_11, μ12) = some (v_k_13, μ14) → zZ zK1 X (zT0 Sh top) μ12 21 [(0, .ref o_), (1, .int v_b), (2, .int v_by), (3, .int v_host), (4, .int v_to), (5, .int t2), (6, .int v_k_11)] [] := by
      intro n
      induction n with
      | zero => intro v_k_11 μ12 hl25; cases hl25
      | succ n ih28 =>
        intro v_k_11 μ12 hl25
        obtain ⟨y, e24, hl25⟩ := zloop_inv hl25
        replace e24 : f12_goesOut_L1 o_ v_b v_by v_host v_k_11 μ12 = some y := e24
        unfold f12_goesOut_L1 at e24
        refine z_iload fx (i := 6) rfl d12_goesOut_21 ?_
        refine z_aload_n fx (k := 0) (i := 0) rfl rfl d12_goesOut_23 ?_
        refine z_getO fx 12 8 3 ho lf12_35 fk12_8 d12_goesOut_24 ?_
        refine z_iload_n fx (k := 1) (i := 1) rfl rfl d12_goesOut_27 ?_
        obtain ⟨t15, e29, e24⟩ := zinv e24
        refine z_iald fx (ok12_8 hO ho) e29 d12_goesOut_28 ?_
        refine z_icmp_ge fx d12_goesOut_29 (fun c30 => ?_) (fun c30 => ?_)
        · replace e24 := zif_f c30 e24
          cases e24
          cases hl25
          exact kx27
        · replace e24 := zif_t c30 e24
          refine z_iload fx (i := 6) rfl d12_goesOut_32 ?_
          refine z_iload_n fx (k := 2) (i := 2) rfl rfl d12_goesOut_34 ?_
          refine z_icmp_eq fx d12_goesOut_35 (fun c31 => ?_) (fun c31 => ?_)
          · replace e24 := zif_t c31 e24
            obtain ⟨v_k_16, e32, e24⟩ := zinv e24
            replace e32 := Option.some.inj e32
            refine z_iinc fx (i := 6) (x := v_k_11) (v := v_k_16) rfl (by rw [in1]; exact e32) rfl (lv' := [(0, .ref o_), (1, .int v_b), (2, .int v_by), (3, .int v_host), (4, .int v_to), (5, .int t2), (6, .int v_k_16)]) rfl rfl d12_goesOut_49 ?_
            cases e24
            refine z_goto fx d12_goesOut_52 ?_
            exact ih28 _ _ hl25
          · replace e24 := zif_f c31 e24
            refine z_aload_n fx (k := 0) (i := 0) rfl rfl d12_goesOut_38 ?_
            refine z_iload_n fx (k := 1) (i := 1) rfl rfl d12_goesOut_39 ?_
            refine z_iload fx (i := 6) rfl d12_goesOut_40 ?_
            obtain ⟨t17, e33, e24⟩ := zinv e24
            refine z_cSr fx (c12_placeOf (zLo X) (zDo X) Sh top hO v_b v_k_11 μ12 _  e33) ms12_placeOf ml12_325 rfl rfl rfl rfl d12_goesOut_42 ?_
            refine z_iload_n fx (k := 3) (i := 3) rfl rfl d12_goesOut_45 ?_
            obtain ⟨μ18, e34, e24⟩ := zinv e24
            refine z_cVv fx (c12_passes (zLo X) (zDo X) Sh top hO o_ t17 v_host μ12 _ ho e34) mv12_passes ml12_560 ho rfl rfl rfl rfl d12_goesOut_46 ?_
            obtain ⟨v_k_19, e35, e24⟩ := zinv e24
            replace e35 := Option.some.inj e35
            refine z_iinc fx (i := 6) (x := v_k_11) (v := v_k_19) rfl (by rw [in1]; exact e35) rfl (lv' := [(0, .ref o_), (1, .int v_b), (2, .int v_by), (3, .int v_host), (4, .int v_to), (5, .int t2), (6, .int v_k_19)]) rfl rfl d12_goesOut_49 ?_
            cases e24
            refine z_goto fx d12_goesOut_52 ?_
            exact ih28 _ _ hl25
    exact klr26 _ _ _ e36
theorem d12_send_0 : zd cX12_send 0 (.aload_n 0) 1 1 := by decide +kernel
theorem d12_send_1 : zd cX12_send 1 (.iconst 0) 1 2 := by decide +kernel
theorem d12_send_2 : zd cX12_send 2 (.putfield 144) 3 5 := by decide +kernel
theorem d12_send_5 : zd cX12_send 5 (.aload_n 0) 1 6 := by decide +kernel
theorem d12_send_6 : zd cX12_send 6 (.iload_n 1) 1 7 := by decide +kernel
theorem d12_send_7 : zd cX12_send 7 (.invokevirtual 483) 3 10 := by decide +kernel
theorem d12_send_10 : zj cX12_send 10 (.ifCond .eq 16) 16 13 26 := by decide +kernel
theorem d12_send_13 : zd cX12_send 13 (.aload_n 0) 1 14 := by decide +kernel
theorem d12_send_14 : zd cX12_send 14 (.iload_n 2) 1 15 := by decide +kernel
theorem d12_send_15 : zd cX12_send 15 (.invokevirtual 483) 3 18 := by decide +kernel
theorem d12_send_18 : zj cX12_send 18 (.ifCond .eq 8) 8 21 26 := by decide +kernel
theorem d12_send_21 : zd cX12_send 21 (.iload_n 1) 1 22 := by decide +kernel
theorem d12_send_22 : zd cX12_send 22 (.iload_n 2) 1 23 := by decide +kernel
theorem d12_send_23 : zj cX12_send 23 (.if_icmp .ne 9) 9 26 32 := by decide +kernel
theorem d12_send_26 : zd cX12_send 26 (.aload_n 0) 1 27 := by decide +kernel
theorem d12_send_27 : zd cX12_send 27 (.iconst 4) 1 28 := by decide +kernel
theorem d12_send_28 : zd cX12_send 28 (.invokevirtual 214) 3 31 := by decide +kernel
theorem d12_send_31 : zd cX12_send 31 (.ireturn) 1 32 := by decide +kernel
theorem d12_send_32 : zd cX12_send 32 (.aload_n 0) 1 33 := by decide +kernel
theorem d12_send_33 : zd cX12_send 33 (.invokevirtual 542) 3 36 := by decide +kernel
theorem d12_send_36 : zd cX12_send 36 (.aload_n 0) 1 37 := by decide +kernel
theorem d12_send_37 : zd cX12_send 37 (.iconst 1) 1 38 := by decide +kernel
theorem d12_send_38 : zd cX12_send 38 (.putfield 193) 3 41 := by decide +kernel
theorem d12_send_41 : zd cX12_send 41 (.aload_n 0) 1 42 := by decide +kernel
theorem d12_send_42 : zd cX12_send 42 (.iconst 0) 1 43 := by decide +kernel
theorem d12_send_43 : zd cX12_send 43 (.putfield 196) 3 46 := by decide +kernel
theorem d12_send_46 : zd cX12_send 46 (.aload_n 0) 1 47 := by decide +kernel
theorem d12_send_47 : zd cX12_send 47 (.iconst 0) 1 48 := by decide +kernel
theorem d12_send_48 : zd cX12_send 48 (.putfield 199) 3 51 := by decide +kernel
theorem d12_send_51 : zd cX12_send 51 (.aload_n 0) 1 52 := by decide +kernel
theorem d12_send_52 : zd cX12_send 52 (.iconst 0) 1 53 := by decide +kernel
theorem d12_send_53 : zd cX12_send 53 (.putfield 202) 3 56 := by decide +kernel
theorem d12_send_56 : zd cX12_send 56 (.aload_n 0) 1 57 := by decide +kernel
theorem d12_send_57 : zd cX12_send 57 (.iconst 0) 1 58 := by decide +kernel
theorem d12_send_58 : zd cX12_send 58 (.putfield 190) 3 61 := by decide +kernel
theorem d12_send_61 : zd cX12_send 61 (.aload_n 0) 1 62 := by decide +kernel
theorem d12_send_62 : zd cX12_send 62 (.sipush 978) 3 65 := by decide +kernel
theorem d12_send_65 : zd cX12_send 65 (.iload_n 1) 1 66 := by decide +kernel
theorem d12_send_66 : zd cX12_send 66 (.iadd) 1 67 := by decide +kernel
theorem d12_send_67 : zd cX12_send 67 (.invokevirtual 316) 3 70 := by decide +kernel
theorem d12_send_70 : zd cX12_send 70 (.istore_n 3) 1 71 := by decide +kernel
theorem d12_send_71 : zd cX12_send 71 (.aload_n 0) 1 72 := by decide +kernel
theorem d12_send_72 : zd cX12_send 72 (.iload_n 3) 1 73 := by decide +kernel
theorem d12_send_73 : zd cX12_send 73 (.invokevirtual 328) 3 76 := by decide +kernel
theorem d12_send_76 : zj cX12_send 76 (.ifCond .eq 29) 29 79 105 := by decide +kernel
theorem d12_send_79 : zd cX12_send 79 (.aload_n 0) 1 80 := by decide +kernel
theorem d12_send_80 : zd cX12_send 80 (.iload_n 3) 1 81 := by decide +kernel
theorem d12_send_81 : zd cX12_send 81 (.iload_n 1) 1 82 := by decide +kernel
theorem d12_send_82 : zd cX12_send 82 (.bipush 6) 2 84 := by decide +kernel
theorem d12_send_84 : zd cX12_send 84 (.invokevirtual 557) 3 87 := by decide +kernel
theorem d12_send_87 : zd cX12_send 87 (.aload_n 0) 1 88 := by decide +kernel
theorem d12_send_88 : zd cX12_send 88 (.getfield 187) 3 91 := by decide +kernel
theorem d12_send_91 : zd cX12_send 91 (.iconst 0) 1 92 := by decide +kernel
theorem d12_send_92 : zd cX12_send 92 (.bipush 7) 2 94 := by decide +kernel
theorem d12_send_94 : zd cX12_send 94 (.iload_n 3) 1 95 := by decide +kernel
theorem d12_send_95 : zd cX12_send 95 (.imul) 1 96 := by decide +kernel
theorem d12_send_96 : zd cX12_send 96 (.bipush 6) 2 98 := by decide +kernel
theorem d12_send_98 : zd cX12_send 98 (.iadd) 1 99 := by decide +kernel
theorem d12_send_99 : zd cX12_send 99 (.iastore) 1 100 := by decide +kernel
theorem d12_send_100 : zd cX12_send 100 (.aload_n 0) 1 101 := by decide +kernel
theorem d12_send_101 : zd cX12_send 101 (.iconst 1) 1 102 := by decide +kernel
theorem d12_send_102 : zd cX12_send 102 (.putfield 190) 3 105 := by decide +kernel
theorem d12_send_105 : zd cX12_send 105 (.iconst 0) 1 106 := by decide +kernel
theorem d12_send_106 : zd cX12_send 106 (.istore 4) 2 108 := by decide +kernel
theorem d12_send_108 : zd cX12_send 108 (.iload 4) 2 110 := by decide +kernel
theorem d12_send_110 : zd cX12_send 110 (.aload_n 0) 1 111 := by decide +kernel
theorem d12_send_111 : zd cX12_send 111 (.getfield 190) 3 114 := by decide +kernel
theorem d12_send_114 : zj cX12_send 114 (.if_icmp .ge 42) 42 117 156 := by decide +kernel
theorem d12_send_117 : zd cX12_send 117 (.aload_n 0) 1 118 := by decide +kernel
theorem d12_send_118 : zd cX12_send 118 (.getfield 202) 3 121 := by decide +kernel
theorem d12_send_121 : zj cX12_send 121 (.ifCond .ne 35) 35 124 156 := by decide +kernel
theorem d12_send_124 : zd cX12_send 124 (.aload_n 0) 1 125 := by decide +kernel
theorem d12_send_125 : zd cX12_send 125 (.aload_n 0) 1 126 := by decide +kernel
theorem d12_send_126 : zd cX12_send 126 (.getfield 187) 3 129 := by decide +kernel
theorem d12_send_129 : zd cX12_send 129 (.iload 4) 2 131 := by decide +kernel
theorem d12_send_131 : zd cX12_send 131 (.iaload) 1 132 := by decide +kernel
theorem d12_send_132 : zd cX12_send 132 (.bipush 7) 2 134 := by decide +kernel
theorem d12_send_134 : zd cX12_send 134 (.idiv) 1 135 := by decide +kernel
theorem d12_send_135 : zd cX12_send 135 (.aload_n 0) 1 136 := by decide +kernel
theorem d12_send_136 : zd cX12_send 136 (.getfield 187) 3 139 := by decide +kernel
theorem d12_send_139 : zd cX12_send 139 (.iload 4) 2 141 := by decide +kernel
theorem d12_send_141 : zd cX12_send 141 (.iaload) 1 142 := by decide +kernel
theorem d12_send_142 : zd cX12_send 142 (.bipush 7) 2 144 := by decide +kernel
theorem d12_send_144 : zd cX12_send 144 (.irem) 1 145 := by decide +kernel
theorem d12_send_145 : zd cX12_send 145 (.iload_n 1) 1 146 := by decide +kernel
theorem d12_send_146 : zd cX12_send 146 (.iload_n 2) 1 147 := by decide +kernel
theorem d12_send_147 : zd cX12_send 147 (.invokevirtual 563) 3 150 := by decide +kernel
theorem d12_send_150 : zd cX12_send 150 (.iinc 4 1) 3 153 := by decide +kernel
theorem d12_send_153 : zj cX12_send 153 (.goto (-45)) (-45) 156 108 := by decide +kernel
theorem d12_send_156 : zd cX12_send 156 (.aload_n 0) 1 157 := by decide +kernel
theorem d12_send_157 : zd cX12_send 157 (.getfield 196) 3 160 := by decide +kernel
theorem d12_send_160 : zd cX12_send 160 (.ireturn) 1 161 := by decide +kernel
set_option maxHeartbeats 4000000 in
set_option maxRecDepth 20000 in
theorem c12_send (l : Launch) (D : zDt) (Sh : zSh) (top : Nat) (hO : zOK Sh) (o_ : Nat) (v_from : Int32) (v_to : Int32) (μ : zM) (r_ : Int32) (μ_ : zM) (ho : (Sh o_).1 = 19) (h : f12_send o_ v_from v_to μ = some (r_, μ_)) : zMet l D zK1 yX12_send cX12_send 5 (some .int) (zrm 4 94) [.ref o_, .int v_from, .int v_to] Sh top μ (some (.int r_)) Sh top μ_ 0 0 := by
  refine zMet_of (by decide) (Nat.le_of_ble_eq_true rfl) fun X hX1 hX2 fx fin => ?_
  subst hX1; subst hX2
  replace fx : zFix X cX12_send RX12 (zrm 4 94) 5 := fx
  show zZ zK1 X (zT0 Sh top) μ 0 [(0, .ref o_), (1, .int v_from), (2, .int v_to)] []
  unfold f12_send at h
  refine z_aload_n fx (k := 0) (i := 0) rfl rfl d12_send_0 ?_
  refine z_iconst fx (v := 0) ic0 d12_send_1 ?_
  obtain ⟨μ1, e1, h⟩ := zinv h
  refine z_putI fx (ci := 12) 44 ho lf12_144 fp12_44 e1 d12_send_2 ?_
  obtain ⟨b2, e3, h⟩ := zinv h
  have kt2 : b2 = true → zZ zK1 X (zT0 Sh top) μ1 26 [(0, .ref o_), (1, .int v_from), (2, .int v_to)] [] := by
    intro hc
    replace h := zif_t hc h
    refine z_aload_n fx (k := 0) (i := 0) rfl rfl d12_send_26 ?_
    refine z_iconst fx (v := 4) ic4 d12_send_27 ?_
    obtain ⟨t3, μ4, e4, h⟩ := zinv2 h
    refine z_cVr fx (c12_refuses (zLo X) (zDo X) Sh top hO o_ 4 μ1 _ _ ho e4) mv12_refuses ml12_214 ho rfl rfl rfl rfl d12_send_28 ?_
    cases h
    exact z_ireturn fx fin d12_send_31
  have kf2 : b2 = false → zZ zK1 X (zT0 Sh top) μ1 32 [(0, .ref o_), (1, .int v_from), (2, .int v_to)] [] := by
    intro hc
    replace h := zif_f hc h
    refine z_aload_n fx (k := 0) (i := 0) rfl rfl d12_send_32 ?_
    obtain ⟨μ5, e5, h⟩ := zinv h
    refine z_cVv fx (c12_remembers (zLo X) (zDo X) Sh top hO o_ μ1 _ ho e5) mv12_remembers ml12_542 ho rfl rfl rfl rfl d12_send_33 ?_
    refine z_aload_n fx (k := 0) (i := 0) rfl rfl d12_send_36 ?_
    refine z_iconst fx (v := 1) ic1 d12_send_37 ?_
    refine z_top (show Value.int 1 = .int (bI true) from rfl) ?_
    obtain ⟨μ6, e6, h⟩ := zinv h
    refine z_putB fx (ci := 12) 60 ho lf12_193 fp12_60 e6 d12_send_38 ?_
    refine z_aload_n fx (k := 0) (i := 0) rfl rfl d12_send_41 ?_
    refine z_iconst fx (v := 0) ic0 d12_send_42 ?_
    obtain ⟨μ7, e7, h⟩ := zinv h
    refine z_putI fx (ci := 12) 61 ho lf12_196 fp12_61 e7 d12_send_43 ?_
    refine z_aload_n fx (k := 0) (i := 0) rfl rfl d12_send_46 ?_
    refine z_iconst fx (v := 0) ic0 d12_send_47 ?_
    obtain ⟨μ8, e8, h⟩ := zinv h
    refine z_putI fx (ci := 12) 62 ho lf12_199 fp12_62 e8 d12_send_48 ?_
    refine z_aload_n fx (k := 0) (i := 0) rfl rfl d12_send_51 ?_
    refine z_iconst fx (v := 0) ic0 d12_send_52 ?_
    obtain ⟨μ9, e9, h⟩ := zinv h
    refine z_putI fx (ci := 12) 63 ho lf12_202 fp12_63 e9 d12_send_53 ?_
    refine z_aload_n fx (k := 0) (i := 0) rfl rfl d12_send_56 ?_
    refine z_iconst fx (v := 0) ic0 d12_send_57 ?_
    obtain ⟨μ10, e10, h⟩ := zinv h
    refine z_putI fx (ci := 12) 59 ho lf12_190 fp12_59 e10 d12_send_58 ?_
    refine z_aload_n fx (k := 0) (i := 0) rfl rfl d12_send_61 ?_
    refine z_sipush fx (v := 978) sp978 d12_send_62 ?_
    refine z_iload_n fx (k := 1) (i := 1) rfl rfl d12_send_65 ?_
    refine z_iadd fx d12_send_66 ?_
    obtain ⟨t11, e11, h⟩ := zinv h
    refine z_cVr fx (c12_its (zLo X) (zDo X) Sh top hO o_ (978 + v_from) μ10 _ ho e11) mv12_its ml12_316 ho rfl rfl rfl rfl d12_send_67 ?_
    refine z_istore_n fx (k := 3) (i := 3) rfl rfl (lv' := [(0, .ref o_), (1, .int v_from), (2, .int v_to), (3, .int t11)]) rfl rfl d12_send_70 ?_
    obtain ⟨μ12, e12, h⟩ := zinv h
    have k13 : zZ zK1 X (zT0 Sh top) μ12 105 [(0, .ref o_), (1, .int v_from), (2, .int v_to), (3, .int t11)] [] := by
      refine z_iconst fx (v := 0) ic0 d12_send_105 ?_
      refine z_istore fx (i := 4) rfl (lv' := [(0, .ref o_), (1, .int v_from), (2, .int v_to), (3, .int t11), (4, .int 0)]) rfl rfl d12_send_106 ?_
      obtain ⟨v_k_15, μ16, e28, h⟩ := zinv2 h
      have kx17 : zZ zK1 X (zT0 Sh top) μ16 156 [(0, .ref o_), (1, .int v_from), (2, .int v_to), (3, .int t11), (4, .int v_k_15)] [] := by
        refine z_take 4 (lv' := [(0, .ref o_), (1, .int v_from), (2, .int v_to), (3, .int t11)]) rfl ?_
        refine z_aload_n fx (k := 0) (i := 0) rfl rfl d12_send_156 ?_
        refine z_getI fx 12 61 1261 ho lf12_196 ⟨fk12_61, rfl⟩ d12_send_157 ?_
        cases h
        exact z_ireturn fx fin d12_send_160
      clear h
      have klr16 : ∀ (n : Nat) (v_k_13 : Int32) (μ14 : zM), zloop (fun s => f12_send_L1 o_ v_from v_to s.1 s.2) n (v_k_13, μ14) = some (v_k_15, μ16) → zZ zK1 X (zT0 Sh top) μ14 108 [(0, .ref o_), (1, .int v_from), (2, .int v_to), (3, .int t11), (4, .int v_k_13)] [] := by
        intro n
        induction n with
        | zero => intro v_k_13 μ14 hl15; cases hl15
        | succ n ih18 =>
          intro v_k_13 μ14 hl15
          obtain ⟨y, e14, hl15⟩ := zloop_inv hl15
          replace e14 : f12_send_L1 o_ v_from v_to v_k_13 μ14 = some y := e14
          unfold f12_send_L1 at e14
          have kt19 : ((clt v_k_13 (gF μ14 1259 o_)) && (ceq (gF μ14 1263 o_) 0)) = true → zZ zK1 X (zT0 Sh top) μ14 124 [(0, .ref o_), (1, .int v_from), (2, .int v_to), (3, .int t11), (4, .int v_k_13)] [] := by
            intro hc
            replace e14 := zif_t hc e14
            refine z_aload_n fx (k := 0) (i := 0) rfl rfl d12_send_124 ?_
            refine z_aload_n fx (k := 0) (i := 0) rfl rfl d12_send_125 ?_
            refine z_getO fx 12 58 35 ho lf12_187 fk12_58 d12_send_126 ?_
            refine z_iload fx (i := 4) rfl d12_send_129 ?_
            obtain ⟨t17, e20, e14⟩ := zinv e14
            refine z_iald fx (ok12_58 hO ho) e20 d12_send_131 ?_
            refine z_bipush fx (v := 7) bp7 d12_send_132 ?_
            obtain ⟨t18, e21, e14⟩ := zinv e14
            refine z_idiv fx e21 d12_send_134 ?_
            refine z_aload_n fx (k := 0) (i := 0) rfl rfl d12_send_135 ?_
            refine z_getO fx 12 58 35 ho lf12_187 fk12_58 d12_send_136 ?_
            refine z_iload fx (i := 4) rfl d12_send_139 ?_
            obtain ⟨t19, e22, e14⟩ := zinv e14
            refine z_iald fx (ok12_58 hO ho) e22 d12_send_141 ?_
            refine z_bipush fx (v := 7) bp7 d12_send_142 ?_
            obtain ⟨t20, e23, e14⟩ := zinv e14
            refine z_irem fx e23 d12_send_144 ?_
            refine z_iload_n fx (k := 1) (i := 1) rfl rfl d12_send_145 ?_
            refine z_iload_n fx (k := 2) (i := 2) rfl rfl d12_send_146 ?_
            obtain ⟨μ21, e24, e14⟩ := zinv e14
            refine z_cVv fx (c12_goesOut (zLo X) (zDo X) Sh top hO o_ t18 t20 v_from v_to μ14 _ ho e24) mv12_goesOut ml12_563 ho rfl rfl rfl rfl d12_send_147 ?_
            obtain ⟨v_k_22, e25, e14⟩ := zinv e14
            replace e25 := Option.some.inj e25
            refine z_iinc fx (i := 4) (x := v_k_13) (v := v_k_22) rfl (by rw [in1]; exact e25) rfl (lv' := [(0, .ref o_), (1, .int v_from), (2, .int v_to), (3, .int t11), (4, .int v_k_22)]) rfl rfl d12_send_150 ?_
            cases e14
            refine z_goto fx d12_send_153 ?_
            exact ih18 _ _ hl15
          have kf19 : ((clt v_k_13 (gF μ14 1259 o_)) && (ceq (gF μ14 1263 o_) 0)) = false → zZ zK1 X (zT0 Sh top) μ14 156 [(0, .ref o_), (1, .int v_from), (2, .int v_to), (3, .int t11), (4, .int v_k_13)] [] := by
            intro hc
            replace e14 := zif_f hc e14
            cases e14
            cases hl15
            exact kx17
          clear e14
          refine z_iload fx (i := 4) rfl d12_send_108 ?_
          refine z_aload_n fx (k := 0) (i := 0) rfl rfl d12_send_110 ?_
          refine z_getI fx 12 59 1259 ho lf12_190 ⟨fk12_59, rfl⟩ d12_send_111 ?_
          refine z_icmp_ge fx d12_send_114 (fun c26 => ?_) (fun c26 => ?_)
          · exact kf19 (by simp [c26])
          · refine z_aload_n fx (k := 0) (i := 0) rfl rfl d12_send_117 ?_
            refine z_getI fx 12 63 1263 ho lf12_202 ⟨fk12_63, rfl⟩ d12_send_118 ?_
            refine z_if_ne fx d12_send_121 (fun c27 => ?_) (fun c27 => ?_)
            · exact kf19 (by simp [c26, c27])
            · exact kt19 (by simp [c26, c27])
      exact klr16 _ _ _ e28
    clear h
    refine z_aload_n fx (k := 0) (i := 0) rfl rfl d12_send_71 ?_
    refine z_iload_n fx (k := 3) (i := 3) rfl rfl d12_send_72 ?_
    obtain ⟨t23, e29, e12⟩ := zinv e12
    refine z_cVr fx (c12_isOn (zLo X) (zDo X) Sh top hO o_ t11 μ10 _ ho e29) mv12_isOn ml12_328 ho rfl rfl rfl rfl d12_send_73 ?_
    refine z_ifb_eq fx d12_send_76 (fun c30 => ?_) (fun c30 => ?_)
    · replace e12 := zif_f c30 e12
      cases e12
      exact k13
    · replace e12 := zif_t c30 e12
      refine z_aload_n fx (k := 0) (i := 0) rfl rfl d12_send_79 ?_
      refine z_iload_n fx (k := 3) (i := 3) rfl rfl d12_send_80 ?_
      refine z_iload_n fx (k := 1) (i := 1) rfl rfl d12_send_81 ?_
      refine z_bipush fx (v := 6) bp6 d12_send_82 ?_
      obtain ⟨μ24, e31, e12⟩ := zinv e12
      refine z_cVv fx (c12_learns (zLo X) (zDo X) Sh top hO o_ t11 v_from 6 μ10 _ ho e31) mv12_learns ml12_557 ho rfl rfl rfl rfl d12_send_84 ?_
      refine z_aload_n fx (k := 0) (i := 0) rfl rfl d12_send_87 ?_
      refine z_getO fx 12 58 35 ho lf12_187 fk12_58 d12_send_88 ?_
      refine z_iconst fx (v := 0) ic0 d12_send_91 ?_
      refine z_bipush fx (v := 7) bp7 d12_send_92 ?_
      refine z_iload_n fx (k := 3) (i := 3) rfl rfl d12_send_94 ?_
      refine z_imul fx d12_send_95 ?_
      refine z_bipush fx (v := 6) bp6 d12_send_96 ?_
      refine z_iadd fx d12_send_98 ?_
      obtain ⟨μ25, e32, e12⟩ := zinv e12
      refine z_iast fx (ok12_58 hO ho) e32 d12_send_99 ?_
      refine z_aload_n fx (k := 0) (i := 0) rfl rfl d12_send_100 ?_
      refine z_iconst fx (v := 1) ic1 d12_send_101 ?_
      obtain ⟨μ26, e33, e12⟩ := zinv e12
      refine z_putI fx (ci := 12) 59 ho lf12_190 fp12_59 e33 d12_send_102 ?_
      cases e12
      exact k13
  clear h
  obtain ⟨b27, e34, e3⟩ := zinv e3
  have kf35 : b27 = false → zZ zK1 X (zT0 Sh top) μ1 21 [(0, .ref o_), (1, .int v_from), (2, .int v_to)] [] := by
    intro hc
    replace e3 := zif_f hc e3
    refine z_iload_n fx (k := 1) (i := 1) rfl rfl d12_send_21 ?_
    refine z_iload_n fx (k := 2) (i := 2) rfl rfl d12_send_22 ?_
    cases e3
    refine z_icmp_ne fx d12_send_23 (fun c36 => ?_) (fun c36 => ?_)
    · exact kf2 c36
    · exact kt2 c36
  have kt35 : b27 = true → zZ zK1 X (zT0 Sh top) μ1 26 [(0, .ref o_), (1, .int v_from), (2, .int v_to)] [] := by
    intro hc
    replace e3 := zif_t hc e3
    cases e3
    exact kt2 rfl
  clear e3
  obtain ⟨b28, e37, e34⟩ := zinv e34
  have kf38 : b28 = false → zZ zK1 X (zT0 Sh top) μ1 13 [(0, .ref o_), (1, .int v_from), (2, .int v_to)] [] := by
    intro hc
    replace e34 := zif_f hc e34
    refine z_aload_n fx (k := 0) (i := 0) rfl rfl d12_send_13 ?_
    refine z_iload_n fx (k := 2) (i := 2) rfl rfl d12_send_14 ?_
    obtain ⟨t29, e39, e34⟩ := zinv e34
    refine z_cVr fx (c12_isHost (zLo X) (zDo X) Sh top hO o_ v_to μ1 _ ho e39) mv12_isHost ml12_483 ho rfl rfl rfl rfl d12_send_15 ?_
    cases e34
    refine z_ifb_eq fx d12_send_18 (fun c40 => ?_) (fun c40 => ?_)
    · exact kt35 (by rw [c40]; rfl)
    · exact kf35 (by rw [c40]; rfl)
  have kt38 : b28 = true → zZ zK1 X (zT0 Sh top) μ1 26 [(0, .ref o_), (1, .int v_from), (2, .int v_to)] [] := by
    intro hc
    replace e34 := zif_t hc e34
    cases e34
    exact kt35 rfl
  clear e34
  refine z_aload_n fx (k := 0) (i := 0) rfl rfl d12_send_5 ?_
  refine z_iload_n fx (k := 1) (i := 1) rfl rfl d12_send_6 ?_
  obtain ⟨t30, e41, e37⟩ := zinv e37
  refine z_cVr fx (c12_isHost (zLo X) (zDo X) Sh top hO o_ v_from μ1 _ ho e41) mv12_isHost ml12_483 ho rfl rfl rfl rfl d12_send_7 ?_
  cases e37
  refine z_ifb_eq fx d12_send_10 (fun c42 => ?_) (fun c42 => ?_)
  · exact kt38 (by rw [c42]; rfl)
  · exact kf38 (by rw [c42]; rfl)
theorem d12_frame_0 : zd cX12_frame 0 (.aload_n 0) 1 1 := by decide +kernel
theorem d12_frame_1 : zd cX12_frame 1 (.getfield 193) 3 4 := by decide +kernel
theorem d12_frame_4 : zj cX12_frame 4 (.ifCond .ne 5) 5 7 9 := by decide +kernel
theorem d12_frame_7 : zd cX12_frame 7 (.iconst (-1)) 1 8 := by decide +kernel
theorem d12_frame_8 : zd cX12_frame 8 (.ireturn) 1 9 := by decide +kernel
theorem d12_frame_9 : zd cX12_frame 9 (.iload_n 1) 1 10 := by decide +kernel
theorem d12_frame_10 : zj cX12_frame 10 (.ifCond .ne 10) 10 13 20 := by decide +kernel
theorem d12_frame_13 : zd cX12_frame 13 (.aload_n 0) 1 14 := by decide +kernel
theorem d12_frame_14 : zd cX12_frame 14 (.getfield 196) 3 17 := by decide +kernel
theorem d12_frame_17 : zj cX12_frame 17 (.goto 28) 28 20 45 := by decide +kernel
theorem d12_frame_20 : zd cX12_frame 20 (.iload_n 1) 1 21 := by decide +kernel
theorem d12_frame_21 : zd cX12_frame 21 (.iconst 1) 1 22 := by decide +kernel
theorem d12_frame_22 : zj cX12_frame 22 (.if_icmp .ne 10) 10 25 32 := by decide +kernel
theorem d12_frame_25 : zd cX12_frame 25 (.aload_n 0) 1 26 := by decide +kernel
theorem d12_frame_26 : zd cX12_frame 26 (.getfield 199) 3 29 := by decide +kernel
theorem d12_frame_29 : zj cX12_frame 29 (.goto 16) 16 32 45 := by decide +kernel
theorem d12_frame_32 : zd cX12_frame 32 (.iload_n 1) 1 33 := by decide +kernel
theorem d12_frame_33 : zd cX12_frame 33 (.iconst 2) 1 34 := by decide +kernel
theorem d12_frame_34 : zj cX12_frame 34 (.if_icmp .ne 10) 10 37 44 := by decide +kernel
theorem d12_frame_37 : zd cX12_frame 37 (.aload_n 0) 1 38 := by decide +kernel
theorem d12_frame_38 : zd cX12_frame 38 (.getfield 202) 3 41 := by decide +kernel
theorem d12_frame_41 : zj cX12_frame 41 (.goto 4) 4 44 45 := by decide +kernel
theorem d12_frame_44 : zd cX12_frame 44 (.iconst (-1)) 1 45 := by decide +kernel
theorem d12_frame_45 : zd cX12_frame 45 (.ireturn) 1 46 := by decide +kernel
set_option maxHeartbeats 4000000 in
set_option maxRecDepth 20000 in
theorem c12_frame (l : Launch) (D : zDt) (Sh : zSh) (top : Nat) (hO : zOK Sh) (o_ : Nat) (v_what : Int32) (μ : zM) (r_ : Int32) (ho : (Sh o_).1 = 19) (h : f12_frame o_ v_what μ = some r_) : zMet l D zK1 yX12_frame cX12_frame 2 (some .int) (zrm 0 0) [.ref o_, .int v_what] Sh top μ (some (.int r_)) Sh top μ 0 0 := by
  refine zMet_of (by decide) (Nat.le_of_ble_eq_true rfl) fun X hX1 hX2 fx fin => ?_
  subst hX1; subst hX2
  replace fx : zFix X cX12_frame RX12 (zrm 0 0) 2 := fx
  show zZ zK1 X (zT0 Sh top) μ 0 [(0, .ref o_), (1, .int v_what)] []
  unfold f12_frame at h
  refine z_aload_n fx (k := 0) (i := 0) rfl rfl d12_frame_0 ?_
  refine z_getB fx 12 60 1260 ho lf12_193 ⟨fk12_60, rfl⟩ d12_frame_1 ?_
  refine z_ifb_ne fx d12_frame_4 (fun c1 => ?_) (fun c1 => ?_)
  · replace h := zif_t c1 h
    obtain ⟨x1, e2, h⟩ := zinv h
    have k3 : zZ zK1 X (zT0 Sh top) μ 45 [(0, .ref o_), (1, .int v_what)] [.int x1] := by
      cases h
      exact z_ireturn fx fin d12_frame_45
    refine z_iload_n fx (k := 1) (i := 1) rfl rfl d12_frame_9 ?_
    refine z_if_ne fx d12_frame_10 (fun c4 => ?_) (fun c4 => ?_)
    · replace e2 := zif_f c4 e2
      obtain ⟨x2, e5, e2⟩ := zinv e2
      have k6 : zZ zK1 X (zT0 Sh top) μ 45 [(0, .ref o_), (1, .int v_what)] [.int x2] := by
        cases e2
        exact k3
      refine z_iload_n fx (k := 1) (i := 1) rfl rfl d12_frame_20 ?_
      refine z_iconst fx (v := 1) ic1 d12_frame_21 ?_
      refine z_icmp_ne fx d12_frame_22 (fun c7 => ?_) (fun c7 => ?_)
      · replace e5 := zif_f c7 e5
        obtain ⟨x3, e8, e5⟩ := zinv e5
        have k9 : zZ zK1 X (zT0 Sh top) μ 45 [(0, .ref o_), (1, .int v_what)] [.int x3] := by
          cases e5
          exact k6
        refine z_iload_n fx (k := 1) (i := 1) rfl rfl d12_frame_32 ?_
        refine z_iconst fx (v := 2) ic2 d12_frame_33 ?_
        refine z_icmp_ne fx d12_frame_34 (fun c10 => ?_) (fun c10 => ?_)
        · replace e8 := zif_f c10 e8
          refine z_iconst fx (v := (-1)) icm1 d12_frame_44 ?_
          cases e8
          exact k9
        · replace e8 := zif_t c10 e8
          refine z_aload_n fx (k := 0) (i := 0) rfl rfl d12_frame_37 ?_
          refine z_getI fx 12 63 1263 ho lf12_202 ⟨fk12_63, rfl⟩ d12_frame_38 ?_
          cases e8
          refine z_goto fx d12_frame_41 ?_
          exact k9
      · replace e5 := zif_t c7 e5
        refine z_aload_n fx (k := 0) (i := 0) rfl rfl d12_frame_25 ?_
        refine z_getI fx 12 62 1262 ho lf12_199 ⟨fk12_62, rfl⟩ d12_frame_26 ?_
        cases e5
        refine z_goto fx d12_frame_29 ?_
        exact k6
    · replace e2 := zif_t c4 e2
      refine z_aload_n fx (k := 0) (i := 0) rfl rfl d12_frame_13 ?_
      refine z_getI fx 12 61 1261 ho lf12_196 ⟨fk12_61, rfl⟩ d12_frame_14 ?_
      cases e2
      refine z_goto fx d12_frame_17 ?_
      exact k3
  · replace h := zif_f c1 h
    refine z_iconst fx (v := (-1)) icm1 d12_frame_7 ?_
    cases h
    exact z_ireturn fx fin d12_frame_8
theorem d12_draw_0 : zd cX12_draw 0 (.aload_n 0) 1 1 := by decide +kernel
theorem d12_draw_1 : zd cX12_draw 1 (.ldc2_w 567) 3 4 := by decide +kernel
theorem d12_draw_4 : zd cX12_draw 4 (.aload_n 0) 1 5 := by decide +kernel
theorem d12_draw_5 : zd cX12_draw 5 (.getfield 205) 3 8 := by decide +kernel
theorem d12_draw_8 : zd cX12_draw 8 (.i2l) 1 9 := by decide +kernel
theorem d12_draw_9 : zd cX12_draw 9 (.lmul) 1 10 := by decide +kernel
theorem d12_draw_10 : zd cX12_draw 10 (.ldc2_w 569) 3 13 := by decide +kernel
theorem d12_draw_13 : zd cX12_draw 13 (.ladd) 1 14 := by decide +kernel
theorem d12_draw_14 : zd cX12_draw 14 (.ldc2_w 571) 3 17 := by decide +kernel
theorem d12_draw_17 : zd cX12_draw 17 (.lrem) 1 18 := by decide +kernel
theorem d12_draw_18 : zd cX12_draw 18 (.l2i) 1 19 := by decide +kernel
theorem d12_draw_19 : zd cX12_draw 19 (.putfield 205) 3 22 := by decide +kernel
theorem d12_draw_22 : zd cX12_draw 22 (.aload_n 0) 1 23 := by decide +kernel
theorem d12_draw_23 : zd cX12_draw 23 (.getfield 205) 3 26 := by decide +kernel
theorem d12_draw_26 : zd cX12_draw 26 (.bipush 64) 2 28 := by decide +kernel
theorem d12_draw_28 : zd cX12_draw 28 (.idiv) 1 29 := by decide +kernel
theorem d12_draw_29 : zd cX12_draw 29 (.iload_n 1) 1 30 := by decide +kernel
theorem d12_draw_30 : zd cX12_draw 30 (.irem) 1 31 := by decide +kernel
theorem d12_draw_31 : zd cX12_draw 31 (.ireturn) 1 32 := by decide +kernel
set_option maxHeartbeats 4000000 in
set_option maxRecDepth 20000 in
theorem c12_draw (l : Launch) (D : zDt) (Sh : zSh) (top : Nat) (hO : zOK Sh) (o_ : Nat) (v_of : Int32) (μ : zM) (r_ : Int32) (μ_ : zM) (ho : (Sh o_).1 = 19) (h : f12_draw o_ v_of μ = some (r_, μ_)) : zMet l D zK1 yX12_draw cX12_draw 2 (some .int) (zrm 0 0) [.ref o_, .int v_of] Sh top μ (some (.int r_)) Sh top μ_ 0 0 := by
  refine zMet_of (by decide) (Nat.le_of_ble_eq_true rfl) fun X hX1 hX2 fx fin => ?_
  subst hX1; subst hX2
  replace fx : zFix X cX12_draw RX12 (zrm 0 0) 2 := fx
  show zZ zK1 X (zT0 Sh top) μ 0 [(0, .ref o_), (1, .int v_of)] []
  unfold f12_draw at h
  refine z_aload_n fx (k := 0) (i := 0) rfl rfl d12_draw_0 ?_
  refine z_ldc2 fx (v := 1103515245) kl12_567 d12_draw_1 ?_
  refine z_aload_n fx (k := 0) (i := 0) rfl rfl d12_draw_4 ?_
  refine z_getI fx 12 64 1264 ho lf12_205 ⟨fk12_64, rfl⟩ d12_draw_5 ?_
  refine z_i2l fx d12_draw_8 ?_
  refine z_lmul fx d12_draw_9 ?_
  refine z_ldc2 fx (v := 12345) kl12_569 d12_draw_10 ?_
  refine z_ladd fx d12_draw_13 ?_
  refine z_ldc2 fx (v := 2147483648) kl12_571 d12_draw_14 ?_
  obtain ⟨t1, e1, h⟩ := zinv h
  refine z_lrem fx e1 d12_draw_17 ?_
  refine z_l2i fx d12_draw_18 ?_
  obtain ⟨μ2, e2, h⟩ := zinv h
  refine z_putI fx (ci := 12) 64 ho lf12_205 fp12_64 e2 d12_draw_19 ?_
  refine z_aload_n fx (k := 0) (i := 0) rfl rfl d12_draw_22 ?_
  refine z_getI fx 12 64 1264 ho lf12_205 ⟨fk12_64, rfl⟩ d12_draw_23 ?_
  refine z_bipush fx (v := 64) bp64 d12_draw_26 ?_
  obtain ⟨t3, e3, h⟩ := zinv h
  refine z_idiv fx e3 d12_draw_28 ?_
  refine z_iload_n fx (k := 1) (i := 1) rfl rfl d12_draw_29 ?_
  obtain ⟨t4, e4, h⟩ := zinv h
  refine z_irem fx e4 d12_draw_30 ?_
  cases h
  exact z_ireturn fx fin d12_draw_31
theorem d12_chance_0 : zd cX12_chance 0 (.aload_n 0) 1 1 := by decide +kernel
theorem d12_chance_1 : zd cX12_chance 1 (.iconst 0) 1 2 := by decide +kernel
theorem d12_chance_2 : zd cX12_chance 2 (.putfield 144) 3 5 := by decide +kernel
theorem d12_chance_5 : zd cX12_chance 5 (.aload_n 0) 1 6 := by decide +kernel
theorem d12_chance_6 : zd cX12_chance 6 (.getfield 150) 3 9 := by decide +kernel
theorem d12_chance_9 : zj cX12_chance 9 (.ifCond .eq 36) 36 12 45 := by decide +kernel
theorem d12_chance_12 : zd cX12_chance 12 (.iload_n 1) 1 13 := by decide +kernel
theorem d12_chance_13 : zd cX12_chance 13 (.iconst 1) 1 14 := by decide +kernel
theorem d12_chance_14 : zd cX12_chance 14 (.bipush 20) 2 16 := by decide +kernel
theorem d12_chance_16 : zd cX12_chance 16 (.invokestatic 250) 3 19 := by decide +kernel
theorem d12_chance_19 : zj cX12_chance 19 (.ifCond .eq 26) 26 22 45 := by decide +kernel
theorem d12_chance_22 : zd cX12_chance 22 (.aload_n 0) 1 23 := by decide +kernel
theorem d12_chance_23 : zd cX12_chance 23 (.getfield 16) 3 26 := by decide +kernel
theorem d12_chance_26 : zj cX12_chance 26 (.ifCond .eq 19) 19 29 45 := by decide +kernel
theorem d12_chance_29 : zd cX12_chance 29 (.aload_n 0) 1 30 := by decide +kernel
theorem d12_chance_30 : zd cX12_chance 30 (.iconst 0) 1 31 := by decide +kernel
theorem d12_chance_31 : zd cX12_chance 31 (.invokevirtual 316) 3 34 := by decide +kernel
theorem d12_chance_34 : zd cX12_chance 34 (.bipush 16) 2 36 := by decide +kernel
theorem d12_chance_36 : zd cX12_chance 36 (.iload_n 1) 1 37 := by decide +kernel
theorem d12_chance_37 : zd cX12_chance 37 (.imul) 1 38 := by decide +kernel
theorem d12_chance_38 : zd cX12_chance 38 (.iadd) 1 39 := by decide +kernel
theorem d12_chance_39 : zd cX12_chance 39 (.sipush 9999) 3 42 := by decide +kernel
theorem d12_chance_42 : zj cX12_chance 42 (.if_icmp .le 9) 9 45 51 := by decide +kernel
theorem d12_chance_45 : zd cX12_chance 45 (.aload_n 0) 1 46 := by decide +kernel
theorem d12_chance_46 : zd cX12_chance 46 (.iconst 2) 1 47 := by decide +kernel
theorem d12_chance_47 : zd cX12_chance 47 (.invokevirtual 214) 3 50 := by decide +kernel
theorem d12_chance_50 : zd cX12_chance 50 (.ireturn) 1 51 := by decide +kernel
theorem d12_chance_51 : zd cX12_chance 51 (.aload_n 0) 1 52 := by decide +kernel
theorem d12_chance_52 : zd cX12_chance 52 (.invokevirtual 542) 3 55 := by decide +kernel
theorem d12_chance_55 : zd cX12_chance 55 (.iconst 0) 1 56 := by decide +kernel
theorem d12_chance_56 : zd cX12_chance 56 (.istore_n 2) 1 57 := by decide +kernel
theorem d12_chance_57 : zd cX12_chance 57 (.iload_n 2) 1 58 := by decide +kernel
theorem d12_chance_58 : zd cX12_chance 58 (.iload_n 1) 1 59 := by decide +kernel
theorem d12_chance_59 : zj cX12_chance 59 (.if_icmp .ge 74) 74 62 133 := by decide +kernel
theorem d12_chance_62 : zd cX12_chance 62 (.aload_n 0) 1 63 := by decide +kernel
theorem d12_chance_63 : zd cX12_chance 63 (.aload_n 0) 1 64 := by decide +kernel
theorem d12_chance_64 : zd cX12_chance 64 (.getfield 16) 3 67 := by decide +kernel
theorem d12_chance_67 : zd cX12_chance 67 (.invokevirtual 573) 3 70 := by decide +kernel
theorem d12_chance_70 : zd cX12_chance 70 (.istore_n 3) 1 71 := by decide +kernel
theorem d12_chance_71 : zd cX12_chance 71 (.aload_n 0) 1 72 := by decide +kernel
theorem d12_chance_72 : zd cX12_chance 72 (.sipush 964) 3 75 := by decide +kernel
theorem d12_chance_75 : zd cX12_chance 75 (.iload_n 3) 1 76 := by decide +kernel
theorem d12_chance_76 : zd cX12_chance 76 (.iadd) 1 77 := by decide +kernel
theorem d12_chance_77 : zd cX12_chance 77 (.invokevirtual 316) 3 80 := by decide +kernel
theorem d12_chance_80 : zd cX12_chance 80 (.iconst 1) 1 81 := by decide +kernel
theorem d12_chance_81 : zj cX12_chance 81 (.if_icmp .ne 11) 11 84 92 := by decide +kernel
theorem d12_chance_84 : zd cX12_chance 84 (.aload_n 0) 1 85 := by decide +kernel
theorem d12_chance_85 : zd cX12_chance 85 (.iload_n 3) 1 86 := by decide +kernel
theorem d12_chance_86 : zd cX12_chance 86 (.invokevirtual 520) 3 89 := by decide +kernel
theorem d12_chance_89 : zj cX12_chance 89 (.goto 8) 8 92 97 := by decide +kernel
theorem d12_chance_92 : zd cX12_chance 92 (.aload_n 0) 1 93 := by decide +kernel
theorem d12_chance_93 : zd cX12_chance 93 (.iload_n 3) 1 94 := by decide +kernel
theorem d12_chance_94 : zd cX12_chance 94 (.invokevirtual 548) 3 97 := by decide +kernel
theorem d12_chance_97 : zd cX12_chance 97 (.aload_n 0) 1 98 := by decide +kernel
theorem d12_chance_98 : zd cX12_chance 98 (.bipush 16) 2 100 := by decide +kernel
theorem d12_chance_100 : zd cX12_chance 100 (.invokevirtual 573) 3 103 := by decide +kernel
theorem d12_chance_103 : zd cX12_chance 103 (.iconst 1) 1 104 := by decide +kernel
theorem d12_chance_104 : zd cX12_chance 104 (.iadd) 1 105 := by decide +kernel
theorem d12_chance_105 : zd cX12_chance 105 (.istore 4) 2 107 := by decide +kernel
theorem d12_chance_107 : zd cX12_chance 107 (.iconst 0) 1 108 := by decide +kernel
theorem d12_chance_108 : zd cX12_chance 108 (.istore 5) 2 110 := by decide +kernel
theorem d12_chance_110 : zd cX12_chance 110 (.iload 5) 2 112 := by decide +kernel
theorem d12_chance_112 : zd cX12_chance 112 (.iload 4) 2 114 := by decide +kernel
theorem d12_chance_114 : zj cX12_chance 114 (.if_icmp .ge 13) 13 117 127 := by decide +kernel
theorem d12_chance_117 : zd cX12_chance 117 (.aload_n 0) 1 118 := by decide +kernel
theorem d12_chance_118 : zd cX12_chance 118 (.invokevirtual 511) 3 121 := by decide +kernel
theorem d12_chance_121 : zd cX12_chance 121 (.iinc 5 1) 3 124 := by decide +kernel
theorem d12_chance_124 : zj cX12_chance 124 (.goto (-14)) (-14) 127 110 := by decide +kernel
theorem d12_chance_127 : zd cX12_chance 127 (.iinc 2 1) 3 130 := by decide +kernel
theorem d12_chance_130 : zj cX12_chance 130 (.goto (-73)) (-73) 133 57 := by decide +kernel
theorem d12_chance_133 : zd cX12_chance 133 (.aload_n 0) 1 134 := by decide +kernel
theorem d12_chance_134 : zd cX12_chance 134 (.sipush 964) 3 137 := by decide +kernel
theorem d12_chance_137 : zd cX12_chance 137 (.aload_n 0) 1 138 := by decide +kernel
theorem d12_chance_138 : zd cX12_chance 138 (.getfield 16) 3 141 := by decide +kernel
theorem d12_chance_141 : zd cX12_chance 141 (.iconst 1) 1 142 := by decide +kernel
theorem d12_chance_142 : zd cX12_chance 142 (.invokevirtual 465) 3 145 := by decide +kernel
theorem d12_chance_145 : zd cX12_chance 145 (.ireturn) 1 146 := by decide +kernel
set_option maxHeartbeats 4000000 in
set_option maxRecDepth 20000 in
theorem c12_chance (l : Launch) (D : zDt) (Sh : zSh) (top : Nat) (hO : zOK Sh) (o_ : Nat) (v_n : Int32) (μ : zM) (r_ : Int32) (μ_ : zM) (ho : (Sh o_).1 = 19) (h : f12_chance o_ v_n μ = some (r_, μ_)) : zMet l D zK1 yX12_chance cX12_chance 6 (some .int) (zrm 11 254) [.ref o_, .int v_n] Sh top μ (some (.int r_)) Sh top μ_ 0 0 := by
  refine zMet_of (by decide) (Nat.le_of_ble_eq_true rfl) fun X hX1 hX2 fx fin => ?_
  subst hX1; subst hX2
  replace fx : zFix X cX12_chance RX12 (zrm 11 254) 6 := fx
  show zZ zK1 X (zT0 Sh top) μ 0 [(0, .ref o_), (1, .int v_n)] []
  unfold f12_chance at h
  refine z_aload_n fx (k := 0) (i := 0) rfl rfl d12_chance_0 ?_
  refine z_iconst fx (v := 0) ic0 d12_chance_1 ?_
  obtain ⟨μ1, e1, h⟩ := zinv h
  refine z_putI fx (ci := 12) 44 ho lf12_144 fp12_44 e1 d12_chance_2 ?_
  obtain ⟨b2, e3, h⟩ := zinv h
  have kt2 : b2 = true → zZ zK1 X (zT0 Sh top) μ1 45 [(0, .ref o_), (1, .int v_n)] [] := by
    intro hc
    replace h := zif_t hc h
    refine z_aload_n fx (k := 0) (i := 0) rfl rfl d12_chance_45 ?_
    refine z_iconst fx (v := 2) ic2 d12_chance_46 ?_
    obtain ⟨t3, μ4, e4, h⟩ := zinv2 h
    refine z_cVr fx (c12_refuses (zLo X) (zDo X) Sh top hO o_ 2 μ1 _ _ ho e4) mv12_refuses ml12_214 ho rfl rfl rfl rfl d12_chance_47 ?_
    cases h
    exact z_ireturn fx fin d12_chance_50
  have kf2 : b2 = false → zZ zK1 X (zT0 Sh top) μ1 51 [(0, .ref o_), (1, .int v_n)] [] := by
    intro hc
    replace h := zif_f hc h
    refine z_aload_n fx (k := 0) (i := 0) rfl rfl d12_chance_51 ?_
    obtain ⟨μ5, e5, h⟩ := zinv h
    refine z_cVv fx (c12_remembers (zLo X) (zDo X) Sh top hO o_ μ1 _ ho e5) mv12_remembers ml12_542 ho rfl rfl rfl rfl d12_chance_52 ?_
    refine z_iconst fx (v := 0) ic0 d12_chance_55 ?_
    refine z_istore_n fx (k := 2) (i := 2) rfl rfl (lv' := [(0, .ref o_), (1, .int v_n), (2, .int 0)]) rfl rfl d12_chance_56 ?_
    obtain ⟨v_k_8, μ9, e32, h⟩ := zinv2 h
    have kx9 : zZ zK1 X (zT0 Sh top) μ9 133 [(0, .ref o_), (1, .int v_n), (2, .int v_k_8)] [] := by
      refine z_take 2 (lv' := [(0, .ref o_), (1, .int v_n)]) rfl ?_
      refine z_aload_n fx (k := 0) (i := 0) rfl rfl d12_chance_133 ?_
      refine z_sipush fx (v := 964) sp964 d12_chance_134 ?_
      refine z_aload_n fx (k := 0) (i := 0) rfl rfl d12_chance_137 ?_
      refine z_getI fx 12 2 1202 ho lf12_16 ⟨fk12_2, rfl⟩ d12_chance_138 ?_
      refine z_iconst fx (v := 1) ic1 d12_chance_141 ?_
      obtain ⟨t26, e31, h⟩ := zinv h
      refine z_cVr fx (c12_countOf (zLo X) (zDo X) Sh top hO o_ 964 (gF μ9 1202 o_) 1 μ9 _ ho e31) mv12_countOf ml12_465 ho rfl rfl rfl rfl d12_chance_142 ?_
      cases h
      exact z_ireturn fx fin d12_chance_145
    clear h
    have klr8 : ∀ (n : Nat) (v_k_6 : Int32) (μ7 : zM), zloop (fun s => f12_chance_L1 o_ v_n s.1 s.2) n (v_k_6, μ7) = some (v_k_8, μ9) → zZ zK1 X (zT0 Sh top) μ7 57 [(0, .ref o_), (1, .int v_n), (2, .int v_k_6)] [] := by
      intro n
      induction n with
      | zero => intro v_k_6 μ7 hl7; cases hl7
      | succ n ih10 =>
        intro v_k_6 μ7 hl7
        obtain ⟨y, e6, hl7⟩ := zloop_inv hl7
        replace e6 : f12_chance_L1 o_ v_n v_k_6 μ7 = some y := e6
        unfold f12_chance_L1 at e6
        refine z_iload_n fx (k := 2) (i := 2) rfl rfl d12_chance_57 ?_
        refine z_iload_n fx (k := 1) (i := 1) rfl rfl d12_chance_58 ?_
        refine z_icmp_ge fx d12_chance_59 (fun c11 => ?_) (fun c11 => ?_)
        · replace e6 := zif_f c11 e6
          cases e6
          cases hl7
          exact kx9
        · replace e6 := zif_t c11 e6
          refine z_aload_n fx (k := 0) (i := 0) rfl rfl d12_chance_62 ?_
          refine z_aload_n fx (k := 0) (i := 0) rfl rfl d12_chance_63 ?_
          refine z_getI fx 12 2 1202 ho lf12_16 ⟨fk12_2, rfl⟩ d12_chance_64 ?_
          obtain ⟨t10, μ11, e12, e6⟩ := zinv2 e6
          refine z_cVr fx (c12_draw (zLo X) (zDo X) Sh top hO o_ (gF μ7 1202 o_) μ7 _ _ ho e12) mv12_draw ml12_573 ho rfl rfl rfl rfl d12_chance_67 ?_
          refine z_istore_n fx (k := 3) (i := 3) rfl rfl (lv' := [(0, .ref o_), (1, .int v_n), (2, .int v_k_6), (3, .int t10)]) rfl rfl d12_chance_70 ?_
          obtain ⟨μ12, e13, e6⟩ := zinv e6
          have k14 : zZ zK1 X (zT0 Sh top) μ12 97 [(0, .ref o_), (1, .int v_n), (2, .int v_k_6), (3, .int t10)] [] := by
            refine z_aload_n fx (k := 0) (i := 0) rfl rfl d12_chance_97 ?_
            refine z_bipush fx (v := 16) bp16 d12_chance_98 ?_
            obtain ⟨t13, μ14, e15, e6⟩ := zinv2 e6
            refine z_cVr fx (c12_draw (zLo X) (zDo X) Sh top hO o_ 16 μ12 _ _ ho e15) mv12_draw ml12_573 ho rfl rfl rfl rfl d12_chance_100 ?_
            refine z_iconst fx (v := 1) ic1 d12_chance_103 ?_
            refine z_iadd fx d12_chance_104 ?_
            obtain ⟨v_many_15, e16, e6⟩ := zinv e6
            replace e16 := Option.some.inj e16
            refine z_top (congrArg Value.int e16) ?_
            refine z_istore fx (i := 4) rfl (lv' := [(0, .ref o_), (1, .int v_n), (2, .int v_k_6), (3, .int t10), (4, .int v_many_15)]) rfl rfl d12_chance_105 ?_
            refine z_iconst fx (v := 0) ic0 d12_chance_107 ?_
            refine z_istore fx (i := 5) rfl (lv' := [(0, .ref o_), (1, .int v_n), (2, .int v_k_6), (3, .int t10), (4, .int v_many_15), (5, .int 0)]) rfl rfl d12_chance_108 ?_
            obtain ⟨v_i_18, μ19, e26, e6⟩ := zinv2 e6
            have kx20 : zZ zK1 X (zT0 Sh top) μ19 127 [(0, .ref o_), (1, .int v_n), (2, .int v_k_6), (3, .int t10), (4, .int v_many_15), (5, .int v_i_18)] [] := by
              refine z_take 5 (lv' := [(0, .ref o_), (1, .int v_n), (2, .int v_k_6), (3, .int t10), (4, .int v_many_15)]) rfl ?_
              refine z_take 3 (lv' := [(0, .ref o_), (1, .int v_n), (2, .int v_k_6)]) rfl ?_
              obtain ⟨v_k_22, e25, e6⟩ := zinv e6
              replace e25 := Option.some.inj e25
              refine z_iinc fx (i := 2) (x := v_k_6) (v := v_k_22) rfl (by rw [in1]; exact e25) rfl (lv' := [(0, .ref o_), (1, .int v_n), (2, .int v_k_22)]) rfl rfl d12_chance_127 ?_
              cases e6
              refine z_goto fx d12_chance_130 ?_
              exact ih10 _ _ hl7
            clear e6
            have klr19 : ∀ (n : Nat) (v_i_16 : Int32) (μ17 : zM), zloop (fun s => f12_chance_L2 o_ v_many_15 s.1 s.2) n (v_i_16, μ17) = some (v_i_18, μ19) → zZ zK1 X (zT0 Sh top) μ17 110 [(0, .ref o_), (1, .int v_n), (2, .int v_k_6), (3, .int t10), (4, .int v_many_15), (5, .int v_i_16)] [] := by
              intro n
              induction n with
              | zero => intro v_i_16 μ17 hl18; cases hl18
              | succ n ih21 =>
                intro v_i_16 μ17 hl18
                obtain ⟨y, e17, hl18⟩ := zloop_inv hl18
                replace e17 : f12_chance_L2 o_ v_many_15 v_i_16 μ17 = some y := e17
                unfold f12_chance_L2 at e17
                refine z_iload fx (i := 5) rfl d12_chance_110 ?_
                refine z_iload fx (i := 4) rfl d12_chance_112 ?_
                refine z_icmp_ge fx d12_chance_114 (fun c22 => ?_) (fun c22 => ?_)
                · replace e17 := zif_f c22 e17
                  cases e17
                  cases hl18
                  exact kx20
                · replace e17 := zif_t c22 e17
                  refine z_aload_n fx (k := 0) (i := 0) rfl rfl d12_chance_117 ?_
                  obtain ⟨μ20, e23, e17⟩ := zinv e17
                  refine z_cVv fx (c12_steps (zLo X) (zDo X) Sh top hO o_ μ17 _ ho e23) mv12_steps ml12_511 ho rfl rfl rfl rfl d12_chance_118 ?_
                  obtain ⟨v_i_21, e24, e17⟩ := zinv e17
                  replace e24 := Option.some.inj e24
                  refine z_iinc fx (i := 5) (x := v_i_16) (v := v_i_21) rfl (by rw [in1]; exact e24) rfl (lv' := [(0, .ref o_), (1, .int v_n), (2, .int v_k_6), (3, .int t10), (4, .int v_many_15), (5, .int v_i_21)]) rfl rfl d12_chance_121 ?_
                  cases e17
                  refine z_goto fx d12_chance_124 ?_
                  exact ih21 _ _ hl18
            exact klr19 _ _ _ e26
          clear e6
          refine z_aload_n fx (k := 0) (i := 0) rfl rfl d12_chance_71 ?_
          refine z_sipush fx (v := 964) sp964 d12_chance_72 ?_
          refine z_iload_n fx (k := 3) (i := 3) rfl rfl d12_chance_75 ?_
          refine z_iadd fx d12_chance_76 ?_
          obtain ⟨t23, e27, e13⟩ := zinv e13
          refine z_cVr fx (c12_its (zLo X) (zDo X) Sh top hO o_ (964 + t10) μ11 _ ho e27) mv12_its ml12_316 ho rfl rfl rfl rfl d12_chance_77 ?_
          refine z_iconst fx (v := 1) ic1 d12_chance_80 ?_
          refine z_icmp_ne fx d12_chance_81 (fun c28 => ?_) (fun c28 => ?_)
          · replace e13 := zif_f c28 e13
            refine z_aload_n fx (k := 0) (i := 0) rfl rfl d12_chance_92 ?_
            refine z_iload_n fx (k := 3) (i := 3) rfl rfl d12_chance_93 ?_
            obtain ⟨μ24, e29, e13⟩ := zinv e13
            refine z_cVv fx (c12_isMended (zLo X) (zDo X) Sh top hO o_ t10 μ11 _ ho e29) mv12_isMended ml12_548 ho rfl rfl rfl rfl d12_chance_94 ?_
            cases e13
            exact k14
          · replace e13 := zif_t c28 e13
            refine z_aload_n fx (k := 0) (i := 0) rfl rfl d12_chance_84 ?_
            refine z_iload_n fx (k := 3) (i := 3) rfl rfl d12_chance_85 ?_
            obtain ⟨μ25, e30, e13⟩ := zinv e13
            refine z_cVv fx (c12_isCut (zLo X) (zDo X) Sh top hO o_ t10 μ11 _ ho e30) mv12_isCut ml12_520 ho rfl rfl rfl rfl d12_chance_86 ?_
            cases e13
            refine z_goto fx d12_chance_89 ?_
            exact k14
    exact klr8 _ _ _ e32
  clear h
  obtain ⟨b27, e33, e3⟩ := zinv e3
  have kf34 : b27 = false → zZ zK1 X (zT0 Sh top) μ1 29 [(0, .ref o_), (1, .int v_n)] [] := by
    intro hc
    replace e3 := zif_f hc e3
    refine z_aload_n fx (k := 0) (i := 0) rfl rfl d12_chance_29 ?_
    refine z_iconst fx (v := 0) ic0 d12_chance_30 ?_
    obtain ⟨t28, e35, e3⟩ := zinv e3
    refine z_cVr fx (c12_its (zLo X) (zDo X) Sh top hO o_ 0 μ1 _ ho e35) mv12_its ml12_316 ho rfl rfl rfl rfl d12_chance_31 ?_
    refine z_bipush fx (v := 16) bp16 d12_chance_34 ?_
    refine z_iload_n fx (k := 1) (i := 1) rfl rfl d12_chance_36 ?_
    refine z_imul fx d12_chance_37 ?_
    refine z_iadd fx d12_chance_38 ?_
    refine z_sipush fx (v := 9999) sp9999 d12_chance_39 ?_
    cases e3
    refine z_icmp_le fx d12_chance_42 (fun c36 => ?_) (fun c36 => ?_)
    · exact kf2 c36
    · exact kt2 c36
  have kt34 : b27 = true → zZ zK1 X (zT0 Sh top) μ1 45 [(0, .ref o_), (1, .int v_n)] [] := by
    intro hc
    replace e3 := zif_t hc e3
    cases e3
    exact kt2 rfl
  clear e3
  obtain ⟨b29, e37, e33⟩ := zinv e33
  have kf38 : b29 = false → zZ zK1 X (zT0 Sh top) μ1 22 [(0, .ref o_), (1, .int v_n)] [] := by
    intro hc
    replace e33 := zif_f hc e33
    refine z_aload_n fx (k := 0) (i := 0) rfl rfl d12_chance_22 ?_
    refine z_getI fx 12 2 1202 ho lf12_16 ⟨fk12_2, rfl⟩ d12_chance_23 ?_
    cases e33
    refine z_if_eq fx d12_chance_26 (fun c39 => ?_) (fun c39 => ?_)
    · exact kt34 c39
    · exact kf34 c39
  have kt38 : b29 = true → zZ zK1 X (zT0 Sh top) μ1 45 [(0, .ref o_), (1, .int v_n)] [] := by
    intro hc
    replace e33 := zif_t hc e33
    cases e33
    exact kt34 rfl
  clear e33
  refine z_aload_n fx (k := 0) (i := 0) rfl rfl d12_chance_5 ?_
  refine z_getB fx 12 46 1246 ho lf12_150 ⟨fk12_46, rfl⟩ d12_chance_6 ?_
  refine z_ifb_eq fx d12_chance_9 (fun c40 => ?_) (fun c40 => ?_)
  · replace e37 := zif_f c40 e37
    cases e37
    exact kt38 rfl
  · replace e37 := zif_t c40 e37
    refine z_iload_n fx (k := 1) (i := 1) rfl rfl d12_chance_12 ?_
    refine z_iconst fx (v := 1) ic1 d12_chance_13 ?_
    refine z_bipush fx (v := 20) bp20 d12_chance_14 ?_
    obtain ⟨t30, e41, e37⟩ := zinv e37
    refine z_cSr fx (c12_isIn (zLo X) (zDo X) Sh top hO v_n 1 20 μ1 _  e41) ms12_isIn ml12_250 rfl rfl rfl rfl d12_chance_16 ?_
    cases e37
    refine z_ifb_eq fx d12_chance_19 (fun c42 => ?_) (fun c42 => ?_)
    · exact kt38 (by rw [c42]; rfl)
    · exact kf38 (by rw [c42]; rfl)
theorem d12_undo_0 : zd cX12_undo 0 (.aload_n 0) 1 1 := by decide +kernel
theorem d12_undo_1 : zd cX12_undo 1 (.getfield 147) 3 4 := by decide +kernel
theorem d12_undo_4 : zj cX12_undo 4 (.ifCond .ne 9) 9 7 13 := by decide +kernel
theorem d12_undo_7 : zd cX12_undo 7 (.aload_n 0) 1 8 := by decide +kernel
theorem d12_undo_8 : zd cX12_undo 8 (.iconst 4) 1 9 := by decide +kernel
theorem d12_undo_9 : zd cX12_undo 9 (.invokevirtual 545) 3 12 := by decide +kernel
theorem d12_undo_12 : zd cX12_undo 12 (.ireturn) 1 13 := by decide +kernel
theorem d12_undo_13 : zd cX12_undo 13 (.aload_n 0) 1 14 := by decide +kernel
theorem d12_undo_14 : zd cX12_undo 14 (.dup) 1 15 := by decide +kernel
theorem d12_undo_15 : zd cX12_undo 15 (.getfield 147) 3 18 := by decide +kernel
theorem d12_undo_18 : zd cX12_undo 18 (.iconst 1) 1 19 := by decide +kernel
theorem d12_undo_19 : zd cX12_undo 19 (.isub) 1 20 := by decide +kernel
theorem d12_undo_20 : zd cX12_undo 20 (.putfield 147) 3 23 := by decide +kernel
theorem d12_undo_23 : zd cX12_undo 23 (.iconst 0) 1 24 := by decide +kernel
theorem d12_undo_24 : zd cX12_undo 24 (.istore_n 1) 1 25 := by decide +kernel
theorem d12_undo_25 : zd cX12_undo 25 (.iload_n 1) 1 26 := by decide +kernel
theorem d12_undo_26 : zd cX12_undo 26 (.sipush 2874) 3 29 := by decide +kernel
theorem d12_undo_29 : zj cX12_undo 29 (.if_icmp .ge 32) 32 32 61 := by decide +kernel
theorem d12_undo_32 : zd cX12_undo 32 (.aload_n 0) 1 33 := by decide +kernel
theorem d12_undo_33 : zd cX12_undo 33 (.getfield 137) 3 36 := by decide +kernel
theorem d12_undo_36 : zd cX12_undo 36 (.iconst 0) 1 37 := by decide +kernel
theorem d12_undo_37 : zd cX12_undo 37 (.iload_n 1) 1 38 := by decide +kernel
theorem d12_undo_38 : zd cX12_undo 38 (.iadd) 1 39 := by decide +kernel
theorem d12_undo_39 : zd cX12_undo 39 (.aload_n 0) 1 40 := by decide +kernel
theorem d12_undo_40 : zd cX12_undo 40 (.getfield 141) 3 43 := by decide +kernel
theorem d12_undo_43 : zd cX12_undo 43 (.sipush 2874) 3 46 := by decide +kernel
theorem d12_undo_46 : zd cX12_undo 46 (.aload_n 0) 1 47 := by decide +kernel
theorem d12_undo_47 : zd cX12_undo 47 (.getfield 147) 3 50 := by decide +kernel
theorem d12_undo_50 : zd cX12_undo 50 (.imul) 1 51 := by decide +kernel
theorem d12_undo_51 : zd cX12_undo 51 (.iload_n 1) 1 52 := by decide +kernel
theorem d12_undo_52 : zd cX12_undo 52 (.iadd) 1 53 := by decide +kernel
theorem d12_undo_53 : zd cX12_undo 53 (.iaload) 1 54 := by decide +kernel
theorem d12_undo_54 : zd cX12_undo 54 (.iastore) 1 55 := by decide +kernel
theorem d12_undo_55 : zd cX12_undo 55 (.iinc 1 1) 3 58 := by decide +kernel
theorem d12_undo_58 : zj cX12_undo 58 (.goto (-33)) (-33) 61 25 := by decide +kernel
theorem d12_undo_61 : zd cX12_undo 61 (.iconst 1) 1 62 := by decide +kernel
theorem d12_undo_62 : zd cX12_undo 62 (.ireturn) 1 63 := by decide +kernel
set_option maxHeartbeats 4000000 in
set_option maxRecDepth 20000 in
theorem c12_undo (l : Launch) (D : zDt) (Sh : zSh) (top : Nat) (hO : zOK Sh) (o_ : Nat) (μ : zM) (r_ : Bool) (μ_ : zM) (ho : (Sh o_).1 = 19) (h : f12_undo o_ μ = some (r_, μ_)) : zMet l D zK1 yX12_undo cX12_undo 2 (some .boolean) (zrm 1 21) [.ref o_] Sh top μ (some (.int (bI r_))) Sh top μ_ 0 0 := by
  refine zMet_of (by decide) (Nat.le_of_ble_eq_true rfl) fun X hX1 hX2 fx fin => ?_
  subst hX1; subst hX2
  replace fx : zFix X cX12_undo RX12 (zrm 1 21) 2 := fx
  show zZ zK1 X (zT0 Sh top) μ 0 [(0, .ref o_)] []
  unfold f12_undo at h
  refine z_aload_n fx (k := 0) (i := 0) rfl rfl d12_undo_0 ?_
  refine z_getI fx 12 45 1245 ho lf12_147 ⟨fk12_45, rfl⟩ d12_undo_1 ?_
  refine z_if_ne fx d12_undo_4 (fun c1 => ?_) (fun c1 => ?_)
  · replace h := zif_f c1 h
    refine z_aload_n fx (k := 0) (i := 0) rfl rfl d12_undo_13 ?_
    refine z_dup fx rfl d12_undo_14 ?_
    refine z_getI fx 12 45 1245 ho lf12_147 ⟨fk12_45, rfl⟩ d12_undo_15 ?_
    refine z_iconst fx (v := 1) ic1 d12_undo_18 ?_
    refine z_isub fx d12_undo_19 ?_
    obtain ⟨μ1, e2, h⟩ := zinv h
    refine z_putI fx (ci := 12) 45 ho lf12_147 fp12_45 e2 d12_undo_20 ?_
    refine z_iconst fx (v := 0) ic0 d12_undo_23 ?_
    refine z_istore_n fx (k := 1) (i := 1) rfl rfl (lv' := [(0, .ref o_), (1, .int 0)]) rfl rfl d12_undo_24 ?_
    obtain ⟨v_k_4, μ5, e12, h⟩ := zinv2 h
    have kx6 : zZ zK1 X (zT0 Sh top) μ5 61 [(0, .ref o_), (1, .int v_k_4)] [] := by
      refine z_take 1 (lv' := [(0, .ref o_)]) rfl ?_
      refine z_iconst fx (v := 1) ic1 d12_undo_61 ?_
      refine z_top (show Value.int 1 = .int (bI true) from rfl) ?_
      cases h
      exact z_zreturn fx fin d12_undo_62
    clear h
    have klr5 : ∀ (n : Nat) (v_k_2 : Int32) (μ3 : zM), zloop (fun s => f12_undo_L1 o_ s.1 s.2) n (v_k_2, μ3) = some (v_k_4, μ5) → zZ zK1 X (zT0 Sh top) μ3 25 [(0, .ref o_), (1, .int v_k_2)] [] := by
      intro n
      induction n with
      | zero => intro v_k_2 μ3 hl4; cases hl4
      | succ n ih7 =>
        intro v_k_2 μ3 hl4
        obtain ⟨y, e3, hl4⟩ := zloop_inv hl4
        replace e3 : f12_undo_L1 o_ v_k_2 μ3 = some y := e3
        unfold f12_undo_L1 at e3
        refine z_iload_n fx (k := 1) (i := 1) rfl rfl d12_undo_25 ?_
        refine z_sipush fx (v := 2874) sp2874 d12_undo_26 ?_
        refine z_icmp_ge fx d12_undo_29 (fun c8 => ?_) (fun c8 => ?_)
        · replace e3 := zif_f c8 e3
          cases e3
          cases hl4
          exact kx6
        · replace e3 := zif_t c8 e3
          refine z_aload_n fx (k := 0) (i := 0) rfl rfl d12_undo_32 ?_
          refine z_getO fx 12 42 24 ho lf12_137 fk12_42 d12_undo_33 ?_
          refine z_iconst fx (v := 0) ic0 d12_undo_36 ?_
          refine z_iload_n fx (k := 1) (i := 1) rfl rfl d12_undo_37 ?_
          refine z_iadd fx d12_undo_38 ?_
          refine z_aload_n fx (k := 0) (i := 0) rfl rfl d12_undo_39 ?_
          refine z_getO fx 12 43 25 ho lf12_141 fk12_43 d12_undo_40 ?_
          refine z_sipush fx (v := 2874) sp2874 d12_undo_43 ?_
          refine z_aload_n fx (k := 0) (i := 0) rfl rfl d12_undo_46 ?_
          refine z_getI fx 12 45 1245 ho lf12_147 ⟨fk12_45, rfl⟩ d12_undo_47 ?_
          refine z_imul fx d12_undo_50 ?_
          refine z_iload_n fx (k := 1) (i := 1) rfl rfl d12_undo_51 ?_
          refine z_iadd fx d12_undo_52 ?_
          obtain ⟨t6, e9, e3⟩ := zinv e3
          refine z_iald fx (ok12_43 hO ho) e9 d12_undo_53 ?_
          obtain ⟨μ7, e10, e3⟩ := zinv e3
          refine z_iast fx (ok12_42 hO ho) e10 d12_undo_54 ?_
          obtain ⟨v_k_8, e11, e3⟩ := zinv e3
          replace e11 := Option.some.inj e11
          refine z_iinc fx (i := 1) (x := v_k_2) (v := v_k_8) rfl (by rw [in1]; exact e11) rfl (lv' := [(0, .ref o_), (1, .int v_k_8)]) rfl rfl d12_undo_55 ?_
          cases e3
          refine z_goto fx d12_undo_58 ?_
          exact ih7 _ _ hl4
    exact klr5 _ _ _ e12
  · replace h := zif_t c1 h
    refine z_aload_n fx (k := 0) (i := 0) rfl rfl d12_undo_7 ?_
    refine z_iconst fx (v := 4) ic4 d12_undo_8 ?_
    obtain ⟨t9, μ10, e13, h⟩ := zinv2 h
    refine z_cVr fx (c12_isRefused (zLo X) (zDo X) Sh top hO o_ 4 μ _ _ ho e13) mv12_isRefused ml12_545 ho rfl rfl rfl rfl d12_undo_9 ?_
    cases h
    exact z_zreturn fx fin d12_undo_12
theorem d12_seed_0 : zd cX12_seed 0 (.iload_n 1) 1 1 := by decide +kernel
theorem d12_seed_1 : zj cX12_seed 1 (.ifCond .ge 9) 9 4 10 := by decide +kernel
theorem d12_seed_4 : zd cX12_seed 4 (.aload_n 0) 1 5 := by decide +kernel
theorem d12_seed_5 : zd cX12_seed 5 (.iconst 5) 1 6 := by decide +kernel
theorem d12_seed_6 : zd cX12_seed 6 (.invokevirtual 545) 3 9 := by decide +kernel
theorem d12_seed_9 : zd cX12_seed 9 (.ireturn) 1 10 := by decide +kernel
theorem d12_seed_10 : zd cX12_seed 10 (.aload_n 0) 1 11 := by decide +kernel
theorem d12_seed_11 : zd cX12_seed 11 (.iload_n 1) 1 12 := by decide +kernel
theorem d12_seed_12 : zd cX12_seed 12 (.putfield 205) 3 15 := by decide +kernel
theorem d12_seed_15 : zd cX12_seed 15 (.iconst 1) 1 16 := by decide +kernel
theorem d12_seed_16 : zd cX12_seed 16 (.ireturn) 1 17 := by decide +kernel
set_option maxHeartbeats 4000000 in
set_option maxRecDepth 20000 in
theorem c12_seed (l : Launch) (D : zDt) (Sh : zSh) (top : Nat) (hO : zOK Sh) (o_ : Nat) (v_seed : Int32) (μ : zM) (r_ : Bool) (μ_ : zM) (ho : (Sh o_).1 = 19) (h : f12_seed o_ v_seed μ = some (r_, μ_)) : zMet l D zK1 yX12_seed cX12_seed 2 (some .boolean) (zrm 1 21) [.ref o_, .int v_seed] Sh top μ (some (.int (bI r_))) Sh top μ_ 0 0 := by
  refine zMet_of (by decide) (Nat.le_of_ble_eq_true rfl) fun X hX1 hX2 fx fin => ?_
  subst hX1; subst hX2
  replace fx : zFix X cX12_seed RX12 (zrm 1 21) 2 := fx
  show zZ zK1 X (zT0 Sh top) μ 0 [(0, .ref o_), (1, .int v_seed)] []
  unfold f12_seed at h
  refine z_iload_n fx (k := 1) (i := 1) rfl rfl d12_seed_0 ?_
  refine z_if_ge fx d12_seed_1 (fun c1 => ?_) (fun c1 => ?_)
  · replace h := zif_f c1 h
    refine z_aload_n fx (k := 0) (i := 0) rfl rfl d12_seed_10 ?_
    refine z_iload_n fx (k := 1) (i := 1) rfl rfl d12_seed_11 ?_
    obtain ⟨μ1, e2, h⟩ := zinv h
    refine z_putI fx (ci := 12) 64 ho lf12_205 fp12_64 e2 d12_seed_12 ?_
    refine z_iconst fx (v := 1) ic1 d12_seed_15 ?_
    refine z_top (show Value.int 1 = .int (bI true) from rfl) ?_
    cases h
    exact z_zreturn fx fin d12_seed_16
  · replace h := zif_t c1 h
    refine z_aload_n fx (k := 0) (i := 0) rfl rfl d12_seed_4 ?_
    refine z_iconst fx (v := 5) ic5 d12_seed_5 ?_
    obtain ⟨t2, μ3, e3, h⟩ := zinv2 h
    refine z_cVr fx (c12_isRefused (zLo X) (zDo X) Sh top hO o_ 5 μ _ _ ho e3) mv12_isRefused ml12_545 ho rfl rfl rfl rfl d12_seed_6 ?_
    cases h
    exact z_zreturn fx fin d12_seed_9
theorem d12_says_0 : zd cX12_says 0 (.aload_n 0) 1 1 := by decide +kernel
theorem d12_says_1 : zd cX12_says 1 (.getfield 208) 3 4 := by decide +kernel
theorem d12_says_4 : zd cX12_says 4 (.aload_n 0) 1 5 := by decide +kernel
theorem d12_says_5 : zd cX12_says 5 (.getfield 211) 3 8 := by decide +kernel
theorem d12_says_8 : zd cX12_says 8 (.iload_n 1) 1 9 := by decide +kernel
theorem d12_says_9 : zd cX12_says 9 (.iastore) 1 10 := by decide +kernel
theorem d12_says_10 : zd cX12_says 10 (.aload_n 0) 1 11 := by decide +kernel
theorem d12_says_11 : zd cX12_says 11 (.dup) 1 12 := by decide +kernel
theorem d12_says_12 : zd cX12_says 12 (.getfield 211) 3 15 := by decide +kernel
theorem d12_says_15 : zd cX12_says 15 (.iconst 1) 1 16 := by decide +kernel
theorem d12_says_16 : zd cX12_says 16 (.iadd) 1 17 := by decide +kernel
theorem d12_says_17 : zd cX12_says 17 (.putfield 211) 3 20 := by decide +kernel
theorem d12_says_20 : zd cX12_says 20 (.return_) 1 21 := by decide +kernel
set_option maxHeartbeats 4000000 in
set_option maxRecDepth 20000 in
theorem c12_says (l : Launch) (D : zDt) (Sh : zSh) (top : Nat) (hO : zOK Sh) (o_ : Nat) (v_v : Int32) (μ : zM) (μ_ : zM) (ho : (Sh o_).1 = 19) (h : f12_says o_ v_v μ = some μ_) : zMet l D zK1 yX12_says cX12_says 2 none (zrm 0 0) [.ref o_, .int v_v] Sh top μ none Sh top μ_ 0 0 := by
  refine zMet_of (by decide) (Nat.le_of_ble_eq_true rfl) fun X hX1 hX2 fx fin => ?_
  subst hX1; subst hX2
  replace fx : zFix X cX12_says RX12 (zrm 0 0) 2 := fx
  show zZ zK1 X (zT0 Sh top) μ 0 [(0, .ref o_), (1, .int v_v)] []
  unfold f12_says at h
  refine z_aload_n fx (k := 0) (i := 0) rfl rfl d12_says_0 ?_
  refine z_getO fx 12 65 36 ho lf12_208 fk12_65 d12_says_1 ?_
  refine z_aload_n fx (k := 0) (i := 0) rfl rfl d12_says_4 ?_
  refine z_getI fx 12 66 1266 ho lf12_211 ⟨fk12_66, rfl⟩ d12_says_5 ?_
  refine z_iload_n fx (k := 1) (i := 1) rfl rfl d12_says_8 ?_
  obtain ⟨μ1, e1, h⟩ := zinv h
  refine z_iast fx (ok12_65 hO ho) e1 d12_says_9 ?_
  refine z_aload_n fx (k := 0) (i := 0) rfl rfl d12_says_10 ?_
  refine z_dup fx rfl d12_says_11 ?_
  refine z_getI fx 12 66 1266 ho lf12_211 ⟨fk12_66, rfl⟩ d12_says_12 ?_
  refine z_iconst fx (v := 1) ic1 d12_says_15 ?_
  refine z_iadd fx d12_says_16 ?_
  obtain ⟨μ2, e2, h⟩ := zinv h
  refine z_putI fx (ci := 12) 66 ho lf12_211 fp12_66 e2 d12_says_17 ?_
  cases h
  exact z_return fx fin d12_says_20
theorem d12_image_0 : zd cX12_image 0 (.aload_n 0) 1 1 := by decide +kernel
theorem d12_image_1 : zd cX12_image 1 (.iconst 0) 1 2 := by decide +kernel
theorem d12_image_2 : zd cX12_image 2 (.putfield 144) 3 5 := by decide +kernel
theorem d12_image_5 : zd cX12_image 5 (.aload_n 0) 1 6 := by decide +kernel
theorem d12_image_6 : zd cX12_image 6 (.iconst 0) 1 7 := by decide +kernel
theorem d12_image_7 : zd cX12_image 7 (.putfield 211) 3 10 := by decide +kernel
theorem d12_image_10 : zd cX12_image 10 (.iconst 0) 1 11 := by decide +kernel
theorem d12_image_11 : zd cX12_image 11 (.istore_n 1) 1 12 := by decide +kernel
theorem d12_image_12 : zd cX12_image 12 (.iload_n 1) 1 13 := by decide +kernel
theorem d12_image_13 : zd cX12_image 13 (.aload_n 0) 1 14 := by decide +kernel
theorem d12_image_14 : zd cX12_image 14 (.getfield 13) 3 17 := by decide +kernel
theorem d12_image_17 : zj cX12_image 17 (.if_icmp .ge 39) 39 20 56 := by decide +kernel
theorem d12_image_20 : zd cX12_image 20 (.aload_n 0) 1 21 := by decide +kernel
theorem d12_image_21 : zd cX12_image 21 (.aload_n 0) 1 22 := by decide +kernel
theorem d12_image_22 : zd cX12_image 22 (.iload_n 1) 1 23 := by decide +kernel
theorem d12_image_23 : zd cX12_image 23 (.iconst 0) 1 24 := by decide +kernel
theorem d12_image_24 : zd cX12_image 24 (.invokevirtual 319) 3 27 := by decide +kernel
theorem d12_image_27 : zd cX12_image 27 (.invokevirtual 576) 3 30 := by decide +kernel
theorem d12_image_30 : zd cX12_image 30 (.aload_n 0) 1 31 := by decide +kernel
theorem d12_image_31 : zd cX12_image 31 (.aload_n 0) 1 32 := by decide +kernel
theorem d12_image_32 : zd cX12_image 32 (.iload_n 1) 1 33 := by decide +kernel
theorem d12_image_33 : zd cX12_image 33 (.iconst 1) 1 34 := by decide +kernel
theorem d12_image_34 : zd cX12_image 34 (.invokevirtual 319) 3 37 := by decide +kernel
theorem d12_image_37 : zd cX12_image 37 (.invokevirtual 576) 3 40 := by decide +kernel
theorem d12_image_40 : zd cX12_image 40 (.aload_n 0) 1 41 := by decide +kernel
theorem d12_image_41 : zd cX12_image 41 (.aload_n 0) 1 42 := by decide +kernel
theorem d12_image_42 : zd cX12_image 42 (.iload_n 1) 1 43 := by decide +kernel
theorem d12_image_43 : zd cX12_image 43 (.iconst 2) 1 44 := by decide +kernel
theorem d12_image_44 : zd cX12_image 44 (.invokevirtual 319) 3 47 := by decide +kernel
theorem d12_image_47 : zd cX12_image 47 (.invokevirtual 576) 3 50 := by decide +kernel
theorem d12_image_50 : zd cX12_image 50 (.iinc 1 1) 3 53 := by decide +kernel
theorem d12_image_53 : zj cX12_image 53 (.goto (-41)) (-41) 56 12 := by decide +kernel
theorem d12_image_56 : zd cX12_image 56 (.iconst 0) 1 57 := by decide +kernel
theorem d12_image_57 : zd cX12_image 57 (.istore_n 1) 1 58 := by decide +kernel
theorem d12_image_58 : zd cX12_image 58 (.iload_n 1) 1 59 := by decide +kernel
theorem d12_image_59 : zd cX12_image 59 (.aload_n 0) 1 60 := by decide +kernel
theorem d12_image_60 : zd cX12_image 60 (.getfield 16) 3 63 := by decide +kernel
theorem d12_image_63 : zj cX12_image 63 (.if_icmp .ge 22) 22 66 85 := by decide +kernel
theorem d12_image_66 : zd cX12_image 66 (.aload_n 0) 1 67 := by decide +kernel
theorem d12_image_67 : zd cX12_image 67 (.aload_n 0) 1 68 := by decide +kernel
theorem d12_image_68 : zd cX12_image 68 (.sipush 964) 3 71 := by decide +kernel
theorem d12_image_71 : zd cX12_image 71 (.iload_n 1) 1 72 := by decide +kernel
theorem d12_image_72 : zd cX12_image 72 (.iadd) 1 73 := by decide +kernel
theorem d12_image_73 : zd cX12_image 73 (.invokevirtual 316) 3 76 := by decide +kernel
theorem d12_image_76 : zd cX12_image 76 (.invokevirtual 576) 3 79 := by decide +kernel
theorem d12_image_79 : zd cX12_image 79 (.iinc 1 1) 3 82 := by decide +kernel
theorem d12_image_82 : zj cX12_image 82 (.goto (-24)) (-24) 85 58 := by decide +kernel
theorem d12_image_85 : zd cX12_image 85 (.iconst 0) 1 86 := by decide +kernel
theorem d12_image_86 : zd cX12_image 86 (.istore_n 1) 1 87 := by decide +kernel
theorem d12_image_87 : zd cX12_image 87 (.iload_n 1) 1 88 := by decide +kernel
theorem d12_image_88 : zd cX12_image 88 (.aload_n 0) 1 89 := by decide +kernel
theorem d12_image_89 : zd cX12_image 89 (.getfield 19) 3 92 := by decide +kernel
theorem d12_image_92 : zj cX12_image 92 (.if_icmp .ge 22) 22 95 114 := by decide +kernel
theorem d12_image_95 : zd cX12_image 95 (.aload_n 0) 1 96 := by decide +kernel
theorem d12_image_96 : zd cX12_image 96 (.aload_n 0) 1 97 := by decide +kernel
theorem d12_image_97 : zd cX12_image 97 (.sipush 978) 3 100 := by decide +kernel
theorem d12_image_100 : zd cX12_image 100 (.iload_n 1) 1 101 := by decide +kernel
theorem d12_image_101 : zd cX12_image 101 (.iadd) 1 102 := by decide +kernel
theorem d12_image_102 : zd cX12_image 102 (.invokevirtual 316) 3 105 := by decide +kernel
theorem d12_image_105 : zd cX12_image 105 (.invokevirtual 576) 3 108 := by decide +kernel
theorem d12_image_108 : zd cX12_image 108 (.iinc 1 1) 3 111 := by decide +kernel
theorem d12_image_111 : zj cX12_image 111 (.goto (-24)) (-24) 114 87 := by decide +kernel
theorem d12_image_114 : zd cX12_image 114 (.sipush 151) 3 117 := by decide +kernel
theorem d12_image_117 : zd cX12_image 117 (.istore_n 1) 1 118 := by decide +kernel
theorem d12_image_118 : zd cX12_image 118 (.iconst 0) 1 119 := by decide +kernel
theorem d12_image_119 : zd cX12_image 119 (.istore_n 2) 1 120 := by decide +kernel
theorem d12_image_120 : zd cX12_image 120 (.iload_n 2) 1 121 := by decide +kernel
theorem d12_image_121 : zd cX12_image 121 (.aload_n 0) 1 122 := by decide +kernel
theorem d12_image_122 : zd cX12_image 122 (.getfield 211) 3 125 := by decide +kernel
theorem d12_image_125 : zj cX12_image 125 (.if_icmp .ge 24) 24 128 149 := by decide +kernel
theorem d12_image_128 : zd cX12_image 128 (.iconst 3) 1 129 := by decide +kernel
theorem d12_image_129 : zd cX12_image 129 (.iload_n 1) 1 130 := by decide +kernel
theorem d12_image_130 : zd cX12_image 130 (.imul) 1 131 := by decide +kernel
theorem d12_image_131 : zd cX12_image 131 (.aload_n 0) 1 132 := by decide +kernel
theorem d12_image_132 : zd cX12_image 132 (.getfield 208) 3 135 := by decide +kernel
theorem d12_image_135 : zd cX12_image 135 (.iload_n 2) 1 136 := by decide +kernel
theorem d12_image_136 : zd cX12_image 136 (.iaload) 1 137 := by decide +kernel
theorem d12_image_137 : zd cX12_image 137 (.iadd) 1 138 := by decide +kernel
theorem d12_image_138 : zd cX12_image 138 (.sipush 251) 3 141 := by decide +kernel
theorem d12_image_141 : zd cX12_image 141 (.irem) 1 142 := by decide +kernel
theorem d12_image_142 : zd cX12_image 142 (.istore_n 1) 1 143 := by decide +kernel
theorem d12_image_143 : zd cX12_image 143 (.iinc 2 1) 3 146 := by decide +kernel
theorem d12_image_146 : zj cX12_image 146 (.goto (-26)) (-26) 149 120 := by decide +kernel
theorem d12_image_149 : zd cX12_image 149 (.aload_n 0) 1 150 := by decide +kernel
theorem d12_image_150 : zd cX12_image 150 (.iload_n 1) 1 151 := by decide +kernel
theorem d12_image_151 : zd cX12_image 151 (.invokevirtual 576) 3 154 := by decide +kernel
theorem d12_image_154 : zd cX12_image 154 (.aload_n 0) 1 155 := by decide +kernel
theorem d12_image_155 : zd cX12_image 155 (.getfield 211) 3 158 := by decide +kernel
theorem d12_image_158 : zd cX12_image 158 (.ireturn) 1 159 := by decide +kernel
set_option maxHeartbeats 4000000 in
set_option maxRecDepth 20000 in
theorem c12_image (l : Launch) (D : zDt) (Sh : zSh) (top : Nat) (hO : zOK Sh) (o_ : Nat) (μ : zM) (r_ : Int32) (μ_ : zM) (ho : (Sh o_).1 = 19) (h : f12_image o_ μ = some (r_, μ_)) : zMet l D zK1 yX12_image cX12_image 3 (some .int) (zrm 2 43) [.ref o_] Sh top μ (some (.int r_)) Sh top μ_ 0 0 := by
  refine zMet_of (by decide) (Nat.le_of_ble_eq_true rfl) fun X hX1 hX2 fx fin => ?_
  subst hX1; subst hX2
  replace fx : zFix X cX12_image RX12 (zrm 2 43) 3 := fx
  show zZ zK1 X (zT0 Sh top) μ 0 [(0, .ref o_)] []
  unfold f12_image at h
  refine z_aload_n fx (k := 0) (i := 0) rfl rfl d12_image_0 ?_
  refine z_iconst fx (v := 0) ic0 d12_image_1 ?_
  obtain ⟨μ1, e1, h⟩ := zinv h
  refine z_putI fx (ci := 12) 44 ho lf12_144 fp12_44 e1 d12_image_2 ?_
  refine z_aload_n fx (k := 0) (i := 0) rfl rfl d12_image_5 ?_
  refine z_iconst fx (v := 0) ic0 d12_image_6 ?_
  obtain ⟨μ2, e2, h⟩ := zinv h
  refine z_putI fx (ci := 12) 66 ho lf12_211 fp12_66 e2 d12_image_7 ?_
  refine z_iconst fx (v := 0) ic0 d12_image_10 ?_
  refine z_istore_n fx (k := 1) (i := 1) rfl rfl (lv' := [(0, .ref o_), (1, .int 0)]) rfl rfl d12_image_11 ?_
  obtain ⟨v_b_5, μ6, e47, h⟩ := zinv2 h
  have kx6 : zZ zK1 X (zT0 Sh top) μ6 56 [(0, .ref o_), (1, .int v_b_5)] [] := by
    refine z_take 1 (lv' := [(0, .ref o_)]) rfl ?_
    refine z_iconst fx (v := 0) ic0 d12_image_56 ?_
    refine z_istore_n fx (k := 1) (i := 1) rfl rfl (lv' := [(0, .ref o_), (1, .int 0)]) rfl rfl d12_image_57 ?_
    obtain ⟨v_l_16, μ17, e46, h⟩ := zinv2 h
    have kx19 : zZ zK1 X (zT0 Sh top) μ17 85 [(0, .ref o_), (1, .int v_l_16)] [] := by
      refine z_take 1 (lv' := [(0, .ref o_)]) rfl ?_
      refine z_iconst fx (v := 0) ic0 d12_image_85 ?_
      refine z_istore_n fx (k := 1) (i := 1) rfl rfl (lv' := [(0, .ref o_), (1, .int 0)]) rfl rfl d12_image_86 ?_
      obtain ⟨v_h_23, μ24, e45, h⟩ := zinv2 h
      have kx28 : zZ zK1 X (zT0 Sh top) μ24 114 [(0, .ref o_), (1, .int v_h_23)] [] := by
        refine z_take 1 (lv' := [(0, .ref o_)]) rfl ?_
        refine z_sipush fx (v := 151) sp151 d12_image_114 ?_
        refine z_istore_n fx (k := 1) (i := 1) rfl rfl (lv' := [(0, .ref o_), (1, .int 151)]) rfl rfl d12_image_117 ?_
        refine z_iconst fx (v := 0) ic0 d12_image_118 ?_
        refine z_istore_n fx (k := 2) (i := 2) rfl rfl (lv' := [(0, .ref o_), (1, .int 151), (2, .int 0)]) rfl rfl d12_image_119 ?_
        obtain ⟨v_c_30, v_k_31, e44, h⟩ := zinv2 h
        have kx37 : zZ zK1 X (zT0 Sh top) μ24 149 [(0, .ref o_), (1, .int v_c_30), (2, .int v_k_31)] [] := by
          refine z_take 2 (lv' := [(0, .ref o_), (1, .int v_c_30)]) rfl ?_
          refine z_aload_n fx (k := 0) (i := 0) rfl rfl d12_image_149 ?_
          refine z_iload_n fx (k := 1) (i := 1) rfl rfl d12_image_150 ?_
          obtain ⟨μ35, e43, h⟩ := zinv h
          refine z_cVv fx (c12_says (zLo X) (zDo X) Sh top hO o_ v_c_30 μ24 _ ho e43) mv12_says ml12_576 ho rfl rfl rfl rfl d12_image_151 ?_
          refine z_aload_n fx (k := 0) (i := 0) rfl rfl d12_image_154 ?_
          refine z_getI fx 12 66 1266 ho lf12_211 ⟨fk12_66, rfl⟩ d12_image_155 ?_
          cases h
          exact z_ireturn fx fin d12_image_158
        clear h
        have klr36 : ∀ (n : Nat) (v_c_28 : Int32) (v_k_29 : Int32), zloop (fun s => f12_image_L4 o_ μ24 s.1 s.2) n (v_c_28, v_k_29) = some (v_c_30, v_k_31) → zZ zK1 X (zT0 Sh top) μ24 120 [(0, .ref o_), (1, .int v_c_28), (2, .int v_k_29)] [] := by
          intro n
          induction n with
          | zero => intro v_c_28 v_k_29 hl35; cases hl35
          | succ n ih38 =>
            intro v_c_28 v_k_29 hl35
            obtain ⟨y, e34, hl35⟩ := zloop_inv hl35
            replace e34 : f12_image_L4 o_ μ24 v_c_28 v_k_29 = some y := e34
            unfold f12_image_L4 at e34
            refine z_iload_n fx (k := 2) (i := 2) rfl rfl d12_image_120 ?_
            refine z_aload_n fx (k := 0) (i := 0) rfl rfl d12_image_121 ?_
            refine z_getI fx 12 66 1266 ho lf12_211 ⟨fk12_66, rfl⟩ d12_image_122 ?_
            refine z_icmp_ge fx d12_image_125 (fun c39 => ?_) (fun c39 => ?_)
            · replace e34 := zif_f c39 e34
              cases e34
              cases hl35
              exact kx37
            · replace e34 := zif_t c39 e34
              refine z_iconst fx (v := 3) ic3 d12_image_128 ?_
              refine z_iload_n fx (k := 1) (i := 1) rfl rfl d12_image_129 ?_
              refine z_imul fx d12_image_130 ?_
              refine z_aload_n fx (k := 0) (i := 0) rfl rfl d12_image_131 ?_
              refine z_getO fx 12 65 36 ho lf12_208 fk12_65 d12_image_132 ?_
              refine z_iload_n fx (k := 2) (i := 2) rfl rfl d12_image_135 ?_
              obtain ⟨t32, e40, e34⟩ := zinv e34
              refine z_iald fx (ok12_65 hO ho) e40 d12_image_136 ?_
              refine z_iadd fx d12_image_137 ?_
              refine z_sipush fx (v := 251) sp251 d12_image_138 ?_
              obtain ⟨t33, e41, e34⟩ := zinv e34
              refine z_irem fx e41 d12_image_141 ?_
              refine z_istore_n fx (k := 1) (i := 1) rfl rfl (lv' := [(0, .ref o_), (1, .int t33), (2, .int v_k_29)]) rfl rfl d12_image_142 ?_
              obtain ⟨v_k_34, e42, e34⟩ := zinv e34
              replace e42 := Option.some.inj e42
              refine z_iinc fx (i := 2) (x := v_k_29) (v := v_k_34) rfl (by rw [in1]; exact e42) rfl (lv' := [(0, .ref o_), (1, .int t33), (2, .int v_k_34)]) rfl rfl d12_image_143 ?_
              cases e34
              refine z_goto fx d12_image_146 ?_
              exact ih38 _ _ hl35
        exact klr36 _ _ _ e44
      clear h
      have klr27 : ∀ (n : Nat) (v_h_21 : Int32) (μ22 : zM), zloop (fun s => f12_image_L3 o_ s.1 s.2) n (v_h_21, μ22) = some (v_h_23, μ24) → zZ zK1 X (zT0 Sh top) μ22 87 [(0, .ref o_), (1, .int v_h_21)] [] := by
        intro n
        induction n with
        | zero => intro v_h_21 μ22 hl26; cases hl26
        | succ n ih29 =>
          intro v_h_21 μ22 hl26
          obtain ⟨y, e25, hl26⟩ := zloop_inv hl26
          replace e25 : f12_image_L3 o_ v_h_21 μ22 = some y := e25
          unfold f12_image_L3 at e25
          refine z_iload_n fx (k := 1) (i := 1) rfl rfl d12_image_87 ?_
          refine z_aload_n fx (k := 0) (i := 0) rfl rfl d12_image_88 ?_
          refine z_getI fx 12 3 1203 ho lf12_19 ⟨fk12_3, rfl⟩ d12_image_89 ?_
          refine z_icmp_ge fx d12_image_92 (fun c30 => ?_) (fun c30 => ?_)
          · replace e25 := zif_f c30 e25
            cases e25
            cases hl26
            exact kx28
          · replace e25 := zif_t c30 e25
            refine z_aload_n fx (k := 0) (i := 0) rfl rfl d12_image_95 ?_
            refine z_aload_n fx (k := 0) (i := 0) rfl rfl d12_image_96 ?_
            refine z_sipush fx (v := 978) sp978 d12_image_97 ?_
            refine z_iload_n fx (k := 1) (i := 1) rfl rfl d12_image_100 ?_
            refine z_iadd fx d12_image_101 ?_
            obtain ⟨t25, e31, e25⟩ := zinv e25
            refine z_cVr fx (c12_its (zLo X) (zDo X) Sh top hO o_ (978 + v_h_21) μ22 _ ho e31) mv12_its ml12_316 ho rfl rfl rfl rfl d12_image_102 ?_
            obtain ⟨μ26, e32, e25⟩ := zinv e25
            refine z_cVv fx (c12_says (zLo X) (zDo X) Sh top hO o_ t25 μ22 _ ho e32) mv12_says ml12_576 ho rfl rfl rfl rfl d12_image_105 ?_
            obtain ⟨v_h_27, e33, e25⟩ := zinv e25
            replace e33 := Option.some.inj e33
            refine z_iinc fx (i := 1) (x := v_h_21) (v := v_h_27) rfl (by rw [in1]; exact e33) rfl (lv' := [(0, .ref o_), (1, .int v_h_27)]) rfl rfl d12_image_108 ?_
            cases e25
            refine z_goto fx d12_image_111 ?_
            exact ih29 _ _ hl26
      exact klr27 _ _ _ e45
    clear h
    have klr18 : ∀ (n : Nat) (v_l_14 : Int32) (μ15 : zM), zloop (fun s => f12_image_L2 o_ s.1 s.2) n (v_l_14, μ15) = some (v_l_16, μ17) → zZ zK1 X (zT0 Sh top) μ15 58 [(0, .ref o_), (1, .int v_l_14)] [] := by
      intro n
      induction n with
      | zero => intro v_l_14 μ15 hl17; cases hl17
      | succ n ih20 =>
        intro v_l_14 μ15 hl17
        obtain ⟨y, e16, hl17⟩ := zloop_inv hl17
        replace e16 : f12_image_L2 o_ v_l_14 μ15 = some y := e16
        unfold f12_image_L2 at e16
        refine z_iload_n fx (k := 1) (i := 1) rfl rfl d12_image_58 ?_
        refine z_aload_n fx (k := 0) (i := 0) rfl rfl d12_image_59 ?_
        refine z_getI fx 12 2 1202 ho lf12_16 ⟨fk12_2, rfl⟩ d12_image_60 ?_
        refine z_icmp_ge fx d12_image_63 (fun c21 => ?_) (fun c21 => ?_)
        · replace e16 := zif_f c21 e16
          cases e16
          cases hl17
          exact kx19
        · replace e16 := zif_t c21 e16
          refine z_aload_n fx (k := 0) (i := 0) rfl rfl d12_image_66 ?_
          refine z_aload_n fx (k := 0) (i := 0) rfl rfl d12_image_67 ?_
          refine z_sipush fx (v := 964) sp964 d12_image_68 ?_
          refine z_iload_n fx (k := 1) (i := 1) rfl rfl d12_image_71 ?_
          refine z_iadd fx d12_image_72 ?_
          obtain ⟨t18, e22, e16⟩ := zinv e16
          refine z_cVr fx (c12_its (zLo X) (zDo X) Sh top hO o_ (964 + v_l_14) μ15 _ ho e22) mv12_its ml12_316 ho rfl rfl rfl rfl d12_image_73 ?_
          obtain ⟨μ19, e23, e16⟩ := zinv e16
          refine z_cVv fx (c12_says (zLo X) (zDo X) Sh top hO o_ t18 μ15 _ ho e23) mv12_says ml12_576 ho rfl rfl rfl rfl d12_image_76 ?_
          obtain ⟨v_l_20, e24, e16⟩ := zinv e16
          replace e24 := Option.some.inj e24
          refine z_iinc fx (i := 1) (x := v_l_14) (v := v_l_20) rfl (by rw [in1]; exact e24) rfl (lv' := [(0, .ref o_), (1, .int v_l_20)]) rfl rfl d12_image_79 ?_
          cases e16
          refine z_goto fx d12_image_82 ?_
          exact ih20 _ _ hl17
    exact klr18 _ _ _ e46
  clear h
  have klr5 : ∀ (n : Nat) (v_b_3 : Int32) (μ4 : zM), zloop (fun s => f12_image_L1 o_ s.1 s.2) n (v_b_3, μ4) = some (v_b_5, μ6) → zZ zK1 X (zT0 Sh top) μ4 12 [(0, .ref o_), (1, .int v_b_3)] [] := by
    intro n
    induction n with
    | zero => intro v_b_3 μ4 hl4; cases hl4
    | succ n ih7 =>
      intro v_b_3 μ4 hl4
      obtain ⟨y, e3, hl4⟩ := zloop_inv hl4
      replace e3 : f12_image_L1 o_ v_b_3 μ4 = some y := e3
      unfold f12_image_L1 at e3
      refine z_iload_n fx (k := 1) (i := 1) rfl rfl d12_image_12 ?_
      refine z_aload_n fx (k := 0) (i := 0) rfl rfl d12_image_13 ?_
      refine z_getI fx 12 1 1201 ho lf12_13 ⟨fk12_1, rfl⟩ d12_image_14 ?_
      refine z_icmp_ge fx d12_image_17 (fun c8 => ?_) (fun c8 => ?_)
      · replace e3 := zif_f c8 e3
        cases e3
        cases hl4
        exact kx6
      · replace e3 := zif_t c8 e3
        refine z_aload_n fx (k := 0) (i := 0) rfl rfl d12_image_20 ?_
        refine z_aload_n fx (k := 0) (i := 0) rfl rfl d12_image_21 ?_
        refine z_iload_n fx (k := 1) (i := 1) rfl rfl d12_image_22 ?_
        refine z_iconst fx (v := 0) ic0 d12_image_23 ?_
        obtain ⟨t7, e9, e3⟩ := zinv e3
        refine z_cVr fx (c12_of (zLo X) (zDo X) Sh top hO o_ v_b_3 0 μ4 _ ho e9) mv12_of ml12_319 ho rfl rfl rfl rfl d12_image_24 ?_
        obtain ⟨μ8, e10, e3⟩ := zinv e3
        refine z_cVv fx (c12_says (zLo X) (zDo X) Sh top hO o_ t7 μ4 _ ho e10) mv12_says ml12_576 ho rfl rfl rfl rfl d12_image_27 ?_
        refine z_aload_n fx (k := 0) (i := 0) rfl rfl d12_image_30 ?_
        refine z_aload_n fx (k := 0) (i := 0) rfl rfl d12_image_31 ?_
        refine z_iload_n fx (k := 1) (i := 1) rfl rfl d12_image_32 ?_
        refine z_iconst fx (v := 1) ic1 d12_image_33 ?_
        obtain ⟨t9, e11, e3⟩ := zinv e3
        refine z_cVr fx (c12_of (zLo X) (zDo X) Sh top hO o_ v_b_3 1 μ8 _ ho e11) mv12_of ml12_319 ho rfl rfl rfl rfl d12_image_34 ?_
        obtain ⟨μ10, e12, e3⟩ := zinv e3
        refine z_cVv fx (c12_says (zLo X) (zDo X) Sh top hO o_ t9 μ8 _ ho e12) mv12_says ml12_576 ho rfl rfl rfl rfl d12_image_37 ?_
        refine z_aload_n fx (k := 0) (i := 0) rfl rfl d12_image_40 ?_
        refine z_aload_n fx (k := 0) (i := 0) rfl rfl d12_image_41 ?_
        refine z_iload_n fx (k := 1) (i := 1) rfl rfl d12_image_42 ?_
        refine z_iconst fx (v := 2) ic2 d12_image_43 ?_
        obtain ⟨t11, e13, e3⟩ := zinv e3
        refine z_cVr fx (c12_of (zLo X) (zDo X) Sh top hO o_ v_b_3 2 μ10 _ ho e13) mv12_of ml12_319 ho rfl rfl rfl rfl d12_image_44 ?_
        obtain ⟨μ12, e14, e3⟩ := zinv e3
        refine z_cVv fx (c12_says (zLo X) (zDo X) Sh top hO o_ t11 μ10 _ ho e14) mv12_says ml12_576 ho rfl rfl rfl rfl d12_image_47 ?_
        obtain ⟨v_b_13, e15, e3⟩ := zinv e3
        replace e15 := Option.some.inj e15
        refine z_iinc fx (i := 1) (x := v_b_3) (v := v_b_13) rfl (by rw [in1]; exact e15) rfl (lv' := [(0, .ref o_), (1, .int v_b_13)]) rfl rfl d12_image_50 ?_
        cases e3
        refine z_goto fx d12_image_53 ?_
        exact ih7 _ _ hl4
  exact klr5 _ _ _ e47
theorem d12_octet_0 : zd cX12_octet 0 (.iload_n 1) 1 1 := by decide +kernel
theorem d12_octet_1 : zd cX12_octet 1 (.iconst 0) 1 2 := by decide +kernel
theorem d12_octet_2 : zd cX12_octet 2 (.aload_n 0) 1 3 := by decide +kernel
theorem d12_octet_3 : zd cX12_octet 3 (.getfield 211) 3 6 := by decide +kernel
theorem d12_octet_6 : zd cX12_octet 6 (.iconst 1) 1 7 := by decide +kernel
theorem d12_octet_7 : zd cX12_octet 7 (.isub) 1 8 := by decide +kernel
theorem d12_octet_8 : zd cX12_octet 8 (.invokestatic 250) 3 11 := by decide +kernel
theorem d12_octet_11 : zj cX12_octet 11 (.ifCond .eq 12) 12 14 23 := by decide +kernel
theorem d12_octet_14 : zd cX12_octet 14 (.aload_n 0) 1 15 := by decide +kernel
theorem d12_octet_15 : zd cX12_octet 15 (.getfield 208) 3 18 := by decide +kernel
theorem d12_octet_18 : zd cX12_octet 18 (.iload_n 1) 1 19 := by decide +kernel
theorem d12_octet_19 : zd cX12_octet 19 (.iaload) 1 20 := by decide +kernel
theorem d12_octet_20 : zj cX12_octet 20 (.goto 4) 4 23 24 := by decide +kernel
theorem d12_octet_23 : zd cX12_octet 23 (.iconst (-1)) 1 24 := by decide +kernel
theorem d12_octet_24 : zd cX12_octet 24 (.ireturn) 1 25 := by decide +kernel
set_option maxHeartbeats 4000000 in
set_option maxRecDepth 20000 in
theorem c12_octet (l : Launch) (D : zDt) (Sh : zSh) (top : Nat) (hO : zOK Sh) (o_ : Nat) (v_k : Int32) (μ : zM) (r_ : Int32) (ho : (Sh o_).1 = 19) (h : f12_octet o_ v_k μ = some r_) : zMet l D zK1 yX12_octet cX12_octet 2 (some .int) (zrm 1 22) [.ref o_, .int v_k] Sh top μ (some (.int r_)) Sh top μ 0 0 := by
  refine zMet_of (by decide) (Nat.le_of_ble_eq_true rfl) fun X hX1 hX2 fx fin => ?_
  subst hX1; subst hX2
  replace fx : zFix X cX12_octet RX12 (zrm 1 22) 2 := fx
  show zZ zK1 X (zT0 Sh top) μ 0 [(0, .ref o_), (1, .int v_k)] []
  unfold f12_octet at h
  obtain ⟨x1, e1, h⟩ := zinv h
  have k2 : zZ zK1 X (zT0 Sh top) μ 24 [(0, .ref o_), (1, .int v_k)] [.int x1] := by
    cases h
    exact z_ireturn fx fin d12_octet_24
  refine z_iload_n fx (k := 1) (i := 1) rfl rfl d12_octet_0 ?_
  refine z_iconst fx (v := 0) ic0 d12_octet_1 ?_
  refine z_aload_n fx (k := 0) (i := 0) rfl rfl d12_octet_2 ?_
  refine z_getI fx 12 66 1266 ho lf12_211 ⟨fk12_66, rfl⟩ d12_octet_3 ?_
  refine z_iconst fx (v := 1) ic1 d12_octet_6 ?_
  refine z_isub fx d12_octet_7 ?_
  obtain ⟨t2, e3, e1⟩ := zinv e1
  refine z_cSr fx (c12_isIn (zLo X) (zDo X) Sh top hO v_k 0 ((gF μ 1266 o_) - 1) μ _  e3) ms12_isIn ml12_250 rfl rfl rfl rfl d12_octet_8 ?_
  refine z_ifb_eq fx d12_octet_11 (fun c4 => ?_) (fun c4 => ?_)
  · replace e1 := zif_f c4 e1
    refine z_iconst fx (v := (-1)) icm1 d12_octet_23 ?_
    cases e1
    exact k2
  · replace e1 := zif_t c4 e1
    refine z_aload_n fx (k := 0) (i := 0) rfl rfl d12_octet_14 ?_
    refine z_getO fx 12 65 36 ho lf12_208 fk12_65 d12_octet_15 ?_
    refine z_iload_n fx (k := 1) (i := 1) rfl rfl d12_octet_18 ?_
    obtain ⟨t3, e5, e1⟩ := zinv e1
    refine z_iald fx (ok12_65 hO ho) e5 d12_octet_19 ?_
    cases e1
    refine z_goto fx d12_octet_20 ?_
    exact k2
theorem d12_isImage_0 : zd cX12_isImage 0 (.iconst 3) 1 1 := by decide +kernel
theorem d12_isImage_1 : zd cX12_isImage 1 (.aload_n 0) 1 2 := by decide +kernel
theorem d12_isImage_2 : zd cX12_isImage 2 (.getfield 13) 3 5 := by decide +kernel
theorem d12_isImage_5 : zd cX12_isImage 5 (.imul) 1 6 := by decide +kernel
theorem d12_isImage_6 : zd cX12_isImage 6 (.aload_n 0) 1 7 := by decide +kernel
theorem d12_isImage_7 : zd cX12_isImage 7 (.getfield 16) 3 10 := by decide +kernel
theorem d12_isImage_10 : zd cX12_isImage 10 (.iadd) 1 11 := by decide +kernel
theorem d12_isImage_11 : zd cX12_isImage 11 (.aload_n 0) 1 12 := by decide +kernel
theorem d12_isImage_12 : zd cX12_isImage 12 (.getfield 19) 3 15 := by decide +kernel
theorem d12_isImage_15 : zd cX12_isImage 15 (.iadd) 1 16 := by decide +kernel
theorem d12_isImage_16 : zd cX12_isImage 16 (.istore_n 2) 1 17 := by decide +kernel
theorem d12_isImage_17 : zd cX12_isImage 17 (.aload_n 0) 1 18 := by decide +kernel
theorem d12_isImage_18 : zd cX12_isImage 18 (.getfield 150) 3 21 := by decide +kernel
theorem d12_isImage_21 : zj cX12_isImage 21 (.ifCond .eq 10) 10 24 31 := by decide +kernel
theorem d12_isImage_24 : zd cX12_isImage 24 (.iload_n 1) 1 25 := by decide +kernel
theorem d12_isImage_25 : zd cX12_isImage 25 (.iload_n 2) 1 26 := by decide +kernel
theorem d12_isImage_26 : zd cX12_isImage 26 (.iconst 1) 1 27 := by decide +kernel
theorem d12_isImage_27 : zd cX12_isImage 27 (.iadd) 1 28 := by decide +kernel
theorem d12_isImage_28 : zj cX12_isImage 28 (.if_icmp .eq 5) 5 31 33 := by decide +kernel
theorem d12_isImage_31 : zd cX12_isImage 31 (.iconst 0) 1 32 := by decide +kernel
theorem d12_isImage_32 : zd cX12_isImage 32 (.ireturn) 1 33 := by decide +kernel
theorem d12_isImage_33 : zd cX12_isImage 33 (.sipush 151) 3 36 := by decide +kernel
theorem d12_isImage_36 : zd cX12_isImage 36 (.istore_n 3) 1 37 := by decide +kernel
theorem d12_isImage_37 : zd cX12_isImage 37 (.iconst 0) 1 38 := by decide +kernel
theorem d12_isImage_38 : zd cX12_isImage 38 (.istore 4) 2 40 := by decide +kernel
theorem d12_isImage_40 : zd cX12_isImage 40 (.iload 4) 2 42 := by decide +kernel
theorem d12_isImage_42 : zd cX12_isImage 42 (.iload_n 2) 1 43 := by decide +kernel
theorem d12_isImage_43 : zj cX12_isImage 43 (.if_icmp .ge 25) 25 46 68 := by decide +kernel
theorem d12_isImage_46 : zd cX12_isImage 46 (.iconst 3) 1 47 := by decide +kernel
theorem d12_isImage_47 : zd cX12_isImage 47 (.iload_n 3) 1 48 := by decide +kernel
theorem d12_isImage_48 : zd cX12_isImage 48 (.imul) 1 49 := by decide +kernel
theorem d12_isImage_49 : zd cX12_isImage 49 (.aload_n 0) 1 50 := by decide +kernel
theorem d12_isImage_50 : zd cX12_isImage 50 (.getfield 104) 3 53 := by decide +kernel
theorem d12_isImage_53 : zd cX12_isImage 53 (.iload 4) 2 55 := by decide +kernel
theorem d12_isImage_55 : zd cX12_isImage 55 (.iaload) 1 56 := by decide +kernel
theorem d12_isImage_56 : zd cX12_isImage 56 (.iadd) 1 57 := by decide +kernel
theorem d12_isImage_57 : zd cX12_isImage 57 (.sipush 251) 3 60 := by decide +kernel
theorem d12_isImage_60 : zd cX12_isImage 60 (.irem) 1 61 := by decide +kernel
theorem d12_isImage_61 : zd cX12_isImage 61 (.istore_n 3) 1 62 := by decide +kernel
theorem d12_isImage_62 : zd cX12_isImage 62 (.iinc 4 1) 3 65 := by decide +kernel
theorem d12_isImage_65 : zj cX12_isImage 65 (.goto (-25)) (-25) 68 40 := by decide +kernel
theorem d12_isImage_68 : zd cX12_isImage 68 (.aload_n 0) 1 69 := by decide +kernel
theorem d12_isImage_69 : zd cX12_isImage 69 (.getfield 104) 3 72 := by decide +kernel
theorem d12_isImage_72 : zd cX12_isImage 72 (.iload_n 2) 1 73 := by decide +kernel
theorem d12_isImage_73 : zd cX12_isImage 73 (.iaload) 1 74 := by decide +kernel
theorem d12_isImage_74 : zd cX12_isImage 74 (.iload_n 3) 1 75 := by decide +kernel
theorem d12_isImage_75 : zj cX12_isImage 75 (.if_icmp .ne 7) 7 78 82 := by decide +kernel
theorem d12_isImage_78 : zd cX12_isImage 78 (.iconst 1) 1 79 := by decide +kernel
theorem d12_isImage_79 : zj cX12_isImage 79 (.goto 4) 4 82 83 := by decide +kernel
theorem d12_isImage_82 : zd cX12_isImage 82 (.iconst 0) 1 83 := by decide +kernel
theorem d12_isImage_83 : zd cX12_isImage 83 (.istore 4) 2 85 := by decide +kernel
theorem d12_isImage_85 : zd cX12_isImage 85 (.iconst 0) 1 86 := by decide +kernel
theorem d12_isImage_86 : zd cX12_isImage 86 (.istore 5) 2 88 := by decide +kernel
theorem d12_isImage_88 : zd cX12_isImage 88 (.iload 4) 2 90 := by decide +kernel
theorem d12_isImage_90 : zj cX12_isImage 90 (.ifCond .eq 90) 90 93 180 := by decide +kernel
theorem d12_isImage_93 : zd cX12_isImage 93 (.iload 5) 2 95 := by decide +kernel
theorem d12_isImage_95 : zd cX12_isImage 95 (.iload_n 2) 1 96 := by decide +kernel
theorem d12_isImage_96 : zj cX12_isImage 96 (.if_icmp .ge 84) 84 99 180 := by decide +kernel
theorem d12_isImage_99 : zd cX12_isImage 99 (.iload 5) 2 101 := by decide +kernel
theorem d12_isImage_101 : zd cX12_isImage 101 (.iconst 3) 1 102 := by decide +kernel
theorem d12_isImage_102 : zd cX12_isImage 102 (.aload_n 0) 1 103 := by decide +kernel
theorem d12_isImage_103 : zd cX12_isImage 103 (.getfield 13) 3 106 := by decide +kernel
theorem d12_isImage_106 : zd cX12_isImage 106 (.imul) 1 107 := by decide +kernel
theorem d12_isImage_107 : zj cX12_isImage 107 (.if_icmp .ge 20) 20 110 127 := by decide +kernel
theorem d12_isImage_110 : zd cX12_isImage 110 (.iload 5) 2 112 := by decide +kernel
theorem d12_isImage_112 : zd cX12_isImage 112 (.iconst 3) 1 113 := by decide +kernel
theorem d12_isImage_113 : zd cX12_isImage 113 (.irem) 1 114 := by decide +kernel
theorem d12_isImage_114 : zd cX12_isImage 114 (.iconst 1) 1 115 := by decide +kernel
theorem d12_isImage_115 : zj cX12_isImage 115 (.if_icmp .ne 8) 8 118 123 := by decide +kernel
theorem d12_isImage_118 : zd cX12_isImage 118 (.bipush 15) 2 120 := by decide +kernel
theorem d12_isImage_120 : zj cX12_isImage 120 (.goto 33) 33 123 153 := by decide +kernel
theorem d12_isImage_123 : zd cX12_isImage 123 (.iconst 1) 1 124 := by decide +kernel
theorem d12_isImage_124 : zj cX12_isImage 124 (.goto 29) 29 127 153 := by decide +kernel
theorem d12_isImage_127 : zd cX12_isImage 127 (.iload 5) 2 129 := by decide +kernel
theorem d12_isImage_129 : zd cX12_isImage 129 (.iconst 3) 1 130 := by decide +kernel
theorem d12_isImage_130 : zd cX12_isImage 130 (.aload_n 0) 1 131 := by decide +kernel
theorem d12_isImage_131 : zd cX12_isImage 131 (.getfield 13) 3 134 := by decide +kernel
theorem d12_isImage_134 : zd cX12_isImage 134 (.imul) 1 135 := by decide +kernel
theorem d12_isImage_135 : zd cX12_isImage 135 (.aload_n 0) 1 136 := by decide +kernel
theorem d12_isImage_136 : zd cX12_isImage 136 (.getfield 16) 3 139 := by decide +kernel
theorem d12_isImage_139 : zd cX12_isImage 139 (.iadd) 1 140 := by decide +kernel
theorem d12_isImage_140 : zj cX12_isImage 140 (.if_icmp .ge 7) 7 143 147 := by decide +kernel
theorem d12_isImage_143 : zd cX12_isImage 143 (.iconst 1) 1 144 := by decide +kernel
theorem d12_isImage_144 : zj cX12_isImage 144 (.goto 9) 9 147 153 := by decide +kernel
theorem d12_isImage_147 : zd cX12_isImage 147 (.aload_n 0) 1 148 := by decide +kernel
theorem d12_isImage_148 : zd cX12_isImage 148 (.getfield 13) 3 151 := by decide +kernel
theorem d12_isImage_151 : zd cX12_isImage 151 (.iconst 1) 1 152 := by decide +kernel
theorem d12_isImage_152 : zd cX12_isImage 152 (.isub) 1 153 := by decide +kernel
theorem d12_isImage_153 : zd cX12_isImage 153 (.istore 6) 2 155 := by decide +kernel
theorem d12_isImage_155 : zd cX12_isImage 155 (.aload_n 0) 1 156 := by decide +kernel
theorem d12_isImage_156 : zd cX12_isImage 156 (.getfield 104) 3 159 := by decide +kernel
theorem d12_isImage_159 : zd cX12_isImage 159 (.iload 5) 2 161 := by decide +kernel
theorem d12_isImage_161 : zd cX12_isImage 161 (.iaload) 1 162 := by decide +kernel
theorem d12_isImage_162 : zd cX12_isImage 162 (.iload 6) 2 164 := by decide +kernel
theorem d12_isImage_164 : zj cX12_isImage 164 (.if_icmp .gt 7) 7 167 171 := by decide +kernel
theorem d12_isImage_167 : zd cX12_isImage 167 (.iconst 1) 1 168 := by decide +kernel
theorem d12_isImage_168 : zj cX12_isImage 168 (.goto 4) 4 171 172 := by decide +kernel
theorem d12_isImage_171 : zd cX12_isImage 171 (.iconst 0) 1 172 := by decide +kernel
theorem d12_isImage_172 : zd cX12_isImage 172 (.istore 4) 2 174 := by decide +kernel
theorem d12_isImage_174 : zd cX12_isImage 174 (.iinc 5 1) 3 177 := by decide +kernel
theorem d12_isImage_177 : zj cX12_isImage 177 (.goto (-89)) (-89) 180 88 := by decide +kernel
theorem d12_isImage_180 : zd cX12_isImage 180 (.iload 4) 2 182 := by decide +kernel
theorem d12_isImage_182 : zd cX12_isImage 182 (.ireturn) 1 183 := by decide +kernel
set_option maxHeartbeats 4000000 in
set_option maxRecDepth 20000 in
theorem c12_isImage (l : Launch) (D : zDt) (Sh : zSh) (top : Nat) (hO : zOK Sh) (o_ : Nat) (v_n : Int32) (μ : zM) (r_ : Bool) (ho : (Sh o_).1 = 19) (h : f12_isImage o_ v_n μ = some r_) : zMet l D zK1 yX12_isImage cX12_isImage 7 (some .boolean) (zrm 0 0) [.ref o_, .int v_n] Sh top μ (some (.int (bI r_))) Sh top μ 0 0 := by
  refine zMet_of (by decide) (Nat.le_of_ble_eq_true rfl) fun X hX1 hX2 fx fin => ?_
  subst hX1; subst hX2
  replace fx : zFix X cX12_isImage RX12 (zrm 0 0) 7 := fx
  show zZ zK1 X (zT0 Sh top) μ 0 [(0, .ref o_), (1, .int v_n)] []
  unfold f12_isImage at h
  refine z_iconst fx (v := 3) ic3 d12_isImage_0 ?_
  refine z_aload_n fx (k := 0) (i := 0) rfl rfl d12_isImage_1 ?_
  refine z_getI fx 12 1 1201 ho lf12_13 ⟨fk12_1, rfl⟩ d12_isImage_2 ?_
  refine z_imul fx d12_isImage_5 ?_
  refine z_aload_n fx (k := 0) (i := 0) rfl rfl d12_isImage_6 ?_
  refine z_getI fx 12 2 1202 ho lf12_16 ⟨fk12_2, rfl⟩ d12_isImage_7 ?_
  refine z_iadd fx d12_isImage_10 ?_
  refine z_aload_n fx (k := 0) (i := 0) rfl rfl d12_isImage_11 ?_
  refine z_getI fx 12 3 1203 ho lf12_19 ⟨fk12_3, rfl⟩ d12_isImage_12 ?_
  refine z_iadd fx d12_isImage_15 ?_
  obtain ⟨v_all1_1, e1, h⟩ := zinv h
  replace e1 := Option.some.inj e1
  refine z_top (congrArg Value.int e1) ?_
  refine z_istore_n fx (k := 2) (i := 2) rfl rfl (lv' := [(0, .ref o_), (1, .int v_n), (2, .int v_all1_1)]) rfl rfl d12_isImage_16 ?_
  have kt2 : ((!(gB μ 1246 o_)) || (!(ceq v_n (v_all1_1 + 1)))) = true → zZ zK1 X (zT0 Sh top) μ 31 [(0, .ref o_), (1, .int v_n), (2, .int v_all1_1)] [] := by
    intro hc
    replace h := zif_t hc h
    refine z_iconst fx (v := 0) ic0 d12_isImage_31 ?_
    refine z_top (show Value.int 0 = .int (bI false) from rfl) ?_
    cases h
    exact z_zreturn fx fin d12_isImage_32
  have kf2 : ((!(gB μ 1246 o_)) || (!(ceq v_n (v_all1_1 + 1)))) = false → zZ zK1 X (zT0 Sh top) μ 33 [(0, .ref o_), (1, .int v_n), (2, .int v_all1_1)] [] := by
    intro hc
    replace h := zif_f hc h
    refine z_sipush fx (v := 151) sp151 d12_isImage_33 ?_
    refine z_istore_n fx (k := 3) (i := 3) rfl rfl (lv' := [(0, .ref o_), (1, .int v_n), (2, .int v_all1_1), (3, .int 151)]) rfl rfl d12_isImage_36 ?_
    refine z_iconst fx (v := 0) ic0 d12_isImage_37 ?_
    refine z_istore fx (i := 4) rfl (lv' := [(0, .ref o_), (1, .int v_n), (2, .int v_all1_1), (3, .int 151), (4, .int 0)]) rfl rfl d12_isImage_38 ?_
    obtain ⟨v_c_4, v_k_5, e42, h⟩ := zinv2 h
    have kx6 : zZ zK1 X (zT0 Sh top) μ 68 [(0, .ref o_), (1, .int v_n), (2, .int v_all1_1), (3, .int v_c_4), (4, .int v_k_5)] [] := by
      refine z_take 4 (lv' := [(0, .ref o_), (1, .int v_n), (2, .int v_all1_1), (3, .int v_c_4)]) rfl ?_
      obtain ⟨b9, e12, h⟩ := zinv h
      have k13 : zZ zK1 X (zT0 Sh top) μ 83 [(0, .ref o_), (1, .int v_n), (2, .int v_all1_1), (3, .int v_c_4)] [.int (bI b9)] := by
        refine z_istore fx (i := 4) rfl (lv' := [(0, .ref o_), (1, .int v_n), (2, .int v_all1_1), (3, .int v_c_4), (4, .int (bI b9))]) rfl rfl d12_isImage_83 ?_
        refine z_iconst fx (v := 0) ic0 d12_isImage_85 ?_
        refine z_istore fx (i := 5) rfl (lv' := [(0, .ref o_), (1, .int v_n), (2, .int v_all1_1), (3, .int v_c_4), (4, .int (bI b9)), (5, .int 0)]) rfl rfl d12_isImage_86 ?_
        obtain ⟨v_is_13, v_k_14, e41, h⟩ := zinv2 h
        have kx20 : zZ zK1 X (zT0 Sh top) μ 180 [(0, .ref o_), (1, .int v_n), (2, .int v_all1_1), (3, .int v_c_4), (4, .int (bI v_is_13)), (5, .int v_k_14)] [] := by
          refine z_take 5 (lv' := [(0, .ref o_), (1, .int v_n), (2, .int v_all1_1), (3, .int v_c_4), (4, .int (bI v_is_13))]) rfl ?_
          refine z_iload fx (i := 4) rfl d12_isImage_180 ?_
          cases h
          exact z_zreturn fx fin d12_isImage_182
        clear h
        have klr19 : ∀ (n : Nat) (v_is_11 : Bool) (v_k_12 : Int32), zloop (fun s => f12_isImage_L2 o_ μ v_all1_1 s.1 s.2) n (v_is_11, v_k_12) = some (v_is_13, v_k_14) → zZ zK1 X (zT0 Sh top) μ 88 [(0, .ref o_), (1, .int v_n), (2, .int v_all1_1), (3, .int v_c_4), (4, .int (bI v_is_11)), (5, .int v_k_12)] [] := by
          intro n
          induction n with
          | zero => intro v_is_11 v_k_12 hl18; cases hl18
          | succ n ih21 =>
            intro v_is_11 v_k_12 hl18
            obtain ⟨y, e17, hl18⟩ := zloop_inv hl18
            replace e17 : f12_isImage_L2 o_ μ v_all1_1 v_is_11 v_k_12 = some y := e17
            unfold f12_isImage_L2 at e17
            have kt22 : (v_is_11 && (clt v_k_12 v_all1_1)) = true → zZ zK1 X (zT0 Sh top) μ 99 [(0, .ref o_), (1, .int v_n), (2, .int v_all1_1), (3, .int v_c_4), (4, .int (bI v_is_11)), (5, .int v_k_12)] [] := by
              intro hc
              replace e17 := zif_t hc e17
              obtain ⟨x15, e23, e17⟩ := zinv e17
              have k24 : zZ zK1 X (zT0 Sh top) μ 153 [(0, .ref o_), (1, .int v_n), (2, .int v_all1_1), (3, .int v_c_4), (4, .int (bI v_is_11)), (5, .int v_k_12)] [.int x15] := by
                refine z_istore fx (i := 6) rfl (lv' := [(0, .ref o_), (1, .int v_n), (2, .int v_all1_1), (3, .int v_c_4), (4, .int (bI v_is_11)), (5, .int v_k_12), (6, .int x15)]) rfl rfl d12_isImage_153 ?_
                obtain ⟨b19, e33, e17⟩ := zinv e17
                have k34 : zZ zK1 X (zT0 Sh top) μ 172 [(0, .ref o_), (1, .int v_n), (2, .int v_all1_1), (3, .int v_c_4), (4, .int (bI v_is_11)), (5, .int v_k_12), (6, .int x15)] [.int (bI b19)] := by
                  refine z_istore fx (i := 4) rfl (lv' := [(0, .ref o_), (1, .int v_n), (2, .int v_all1_1), (3, .int v_c_4), (4, .int (bI b19)), (5, .int v_k_12), (6, .int x15)]) rfl rfl d12_isImage_172 ?_
                  refine z_take 6 (lv' := [(0, .ref o_), (1, .int v_n), (2, .int v_all1_1), (3, .int v_c_4), (4, .int (bI b19)), (5, .int v_k_12)]) rfl ?_
                  obtain ⟨v_k_21, e38, e17⟩ := zinv e17
                  replace e38 := Option.some.inj e38
                  refine z_iinc fx (i := 5) (x := v_k_12) (v := v_k_21) rfl (by rw [in1]; exact e38) rfl (lv' := [(0, .ref o_), (1, .int v_n), (2, .int v_all1_1), (3, .int v_c_4), (4, .int (bI b19)), (5, .int v_k_21)]) rfl rfl d12_isImage_174 ?_
                  cases e17
                  refine z_goto fx d12_isImage_177 ?_
                  exact ih21 _ _ hl18
                have kt35 : b19 = true → zZ zK1 X (zT0 Sh top) μ 167 [(0, .ref o_), (1, .int v_n), (2, .int v_all1_1), (3, .int v_c_4), (4, .int (bI v_is_11)), (5, .int v_k_12), (6, .int x15)] [] := by
                  intro hc
                  refine z_iconst fx (v := 1) ic1 d12_isImage_167 ?_
                  refine z_goto fx d12_isImage_168 ?_
                  exact z_top (congrArg Value.int (show 1 = bI b19 by rw [hc]; rfl)) k34
                have kf35 : b19 = false → zZ zK1 X (zT0 Sh top) μ 171 [(0, .ref o_), (1, .int v_n), (2, .int v_all1_1), (3, .int v_c_4), (4, .int (bI v_is_11)), (5, .int v_k_12), (6, .int x15)] [] := by
                  intro hc
                  refine z_iconst fx (v := 0) ic0 d12_isImage_171 ?_
                  exact z_top (congrArg Value.int (show 0 = bI b19 by rw [hc]; rfl)) k34
                refine z_aload_n fx (k := 0) (i := 0) rfl rfl d12_isImage_155 ?_
                refine z_getO fx 12 31 21 ho lf12_104 fk12_31 d12_isImage_156 ?_
                refine z_iload fx (i := 5) rfl d12_isImage_159 ?_
                obtain ⟨t20, e36, e33⟩ := zinv e33
                refine z_iald fx (ok12_31 hO ho) e36 d12_isImage_161 ?_
                refine z_iload fx (i := 6) rfl d12_isImage_162 ?_
                cases e33
                refine z_icmp_gt fx d12_isImage_164 (fun c37 => ?_) (fun c37 => ?_)
                · exact kf35 (by rw [c37]; rfl)
                · exact kt35 (by rw [c37]; rfl)
              refine z_iload fx (i := 5) rfl d12_isImage_99 ?_
              refine z_iconst fx (v := 3) ic3 d12_isImage_101 ?_
              refine z_aload_n fx (k := 0) (i := 0) rfl rfl d12_isImage_102 ?_
              refine z_getI fx 12 1 1201 ho lf12_13 ⟨fk12_1, rfl⟩ d12_isImage_103 ?_
              refine z_imul fx d12_isImage_106 ?_
              refine z_icmp_ge fx d12_isImage_107 (fun c25 => ?_) (fun c25 => ?_)
              · replace e23 := zif_f c25 e23
                obtain ⟨x16, e26, e23⟩ := zinv e23
                have k27 : zZ zK1 X (zT0 Sh top) μ 153 [(0, .ref o_), (1, .int v_n), (2, .int v_all1_1), (3, .int v_c_4), (4, .int (bI v_is_11)), (5, .int v_k_12)] [.int x16] := by
                  cases e23
                  exact k24
                refine z_iload fx (i := 5) rfl d12_isImage_127 ?_
                refine z_iconst fx (v := 3) ic3 d12_isImage_129 ?_
                refine z_aload_n fx (k := 0) (i := 0) rfl rfl d12_isImage_130 ?_
                refine z_getI fx 12 1 1201 ho lf12_13 ⟨fk12_1, rfl⟩ d12_isImage_131 ?_
                refine z_imul fx d12_isImage_134 ?_
                refine z_aload_n fx (k := 0) (i := 0) rfl rfl d12_isImage_135 ?_
                refine z_getI fx 12 2 1202 ho lf12_16 ⟨fk12_2, rfl⟩ d12_isImage_136 ?_
                refine z_iadd fx d12_isImage_139 ?_
                refine z_icmp_ge fx d12_isImage_140 (fun c28 => ?_) (fun c28 => ?_)
                · replace e26 := zif_f c28 e26
                  refine z_aload_n fx (k := 0) (i := 0) rfl rfl d12_isImage_147 ?_
                  refine z_getI fx 12 1 1201 ho lf12_13 ⟨fk12_1, rfl⟩ d12_isImage_148 ?_
                  refine z_iconst fx (v := 1) ic1 d12_isImage_151 ?_
                  refine z_isub fx d12_isImage_152 ?_
                  cases e26
                  exact k27
                · replace e26 := zif_t c28 e26
                  refine z_iconst fx (v := 1) ic1 d12_isImage_143 ?_
                  cases e26
                  refine z_goto fx d12_isImage_144 ?_
                  exact k27
              · replace e23 := zif_t c25 e23
                obtain ⟨x17, e29, e23⟩ := zinv e23
                have k30 : zZ zK1 X (zT0 Sh top) μ 153 [(0, .ref o_), (1, .int v_n), (2, .int v_all1_1), (3, .int v_c_4), (4, .int (bI v_is_11)), (5, .int v_k_12)] [.int x17] := by
                  cases e23
                  exact k24
                refine z_iload fx (i := 5) rfl d12_isImage_110 ?_
                refine z_iconst fx (v := 3) ic3 d12_isImage_112 ?_
                obtain ⟨t18, e31, e29⟩ := zinv e29
                refine z_irem fx e31 d12_isImage_113 ?_
                refine z_iconst fx (v := 1) ic1 d12_isImage_114 ?_
                refine z_icmp_ne fx d12_isImage_115 (fun c32 => ?_) (fun c32 => ?_)
                · replace e29 := zif_f c32 e29
                  refine z_iconst fx (v := 1) ic1 d12_isImage_123 ?_
                  cases e29
                  refine z_goto fx d12_isImage_124 ?_
                  exact k30
                · replace e29 := zif_t c32 e29
                  refine z_bipush fx (v := 15) bp15 d12_isImage_118 ?_
                  cases e29
                  refine z_goto fx d12_isImage_120 ?_
                  exact k30
            have kf22 : (v_is_11 && (clt v_k_12 v_all1_1)) = false → zZ zK1 X (zT0 Sh top) μ 180 [(0, .ref o_), (1, .int v_n), (2, .int v_all1_1), (3, .int v_c_4), (4, .int (bI v_is_11)), (5, .int v_k_12)] [] := by
              intro hc
              replace e17 := zif_f hc e17
              cases e17
              cases hl18
              exact kx20
            clear e17
            refine z_iload fx (i := 4) rfl d12_isImage_88 ?_
            refine z_ifb_eq fx d12_isImage_90 (fun c39 => ?_) (fun c39 => ?_)
            · exact kf22 (by simp [c39])
            · refine z_iload fx (i := 5) rfl d12_isImage_93 ?_
              refine z_iload_n fx (k := 2) (i := 2) rfl rfl d12_isImage_95 ?_
              refine z_icmp_ge fx d12_isImage_96 (fun c40 => ?_) (fun c40 => ?_)
              · exact kf22 (by simp [c39, c40])
              · exact kt22 (by simp [c39, c40])
        exact klr19 _ _ _ e41
      have kt14 : b9 = true → zZ zK1 X (zT0 Sh top) μ 78 [(0, .ref o_), (1, .int v_n), (2, .int v_all1_1), (3, .int v_c_4)] [] := by
        intro hc
        refine z_iconst fx (v := 1) ic1 d12_isImage_78 ?_
        refine z_goto fx d12_isImage_79 ?_
        exact z_top (congrArg Value.int (show 1 = bI b9 by rw [hc]; rfl)) k13
      have kf14 : b9 = false → zZ zK1 X (zT0 Sh top) μ 82 [(0, .ref o_), (1, .int v_n), (2, .int v_all1_1), (3, .int v_c_4)] [] := by
        intro hc
        refine z_iconst fx (v := 0) ic0 d12_isImage_82 ?_
        exact z_top (congrArg Value.int (show 0 = bI b9 by rw [hc]; rfl)) k13
      refine z_aload_n fx (k := 0) (i := 0) rfl rfl d12_isImage_68 ?_
      refine z_getO fx 12 31 21 ho lf12_104 fk12_31 d12_isImage_69 ?_
      refine z_iload_n fx (k := 2) (i := 2) rfl rfl d12_isImage_72 ?_
      obtain ⟨t10, e15, e12⟩ := zinv e12
      refine z_iald fx (ok12_31 hO ho) e15 d12_isImage_73 ?_
      refine z_iload_n fx (k := 3) (i := 3) rfl rfl d12_isImage_74 ?_
      cases e12
      refine z_icmp_ne fx d12_isImage_75 (fun c16 => ?_) (fun c16 => ?_)
      · exact kf14 c16
      · exact kt14 c16
    clear h
    have klr5 : ∀ (n : Nat) (v_c_2 : Int32) (v_k_3 : Int32), zloop (fun s => f12_isImage_L1 o_ μ v_all1_1 s.1 s.2) n (v_c_2, v_k_3) = some (v_c_4, v_k_5) → zZ zK1 X (zT0 Sh top) μ 40 [(0, .ref o_), (1, .int v_n), (2, .int v_all1_1), (3, .int v_c_2), (4, .int v_k_3)] [] := by
      intro n
      induction n with
      | zero => intro v_c_2 v_k_3 hl4; cases hl4
      | succ n ih7 =>
        intro v_c_2 v_k_3 hl4
        obtain ⟨y, e3, hl4⟩ := zloop_inv hl4
        replace e3 : f12_isImage_L1 o_ μ v_all1_1 v_c_2 v_k_3 = some y := e3
        unfold f12_isImage_L1 at e3
        refine z_iload fx (i := 4) rfl d12_isImage_40 ?_
        refine z_iload_n fx (k := 2) (i := 2) rfl rfl d12_isImage_42 ?_
        refine z_icmp_ge fx d12_isImage_43 (fun c8 => ?_) (fun c8 => ?_)
        · replace e3 := zif_f c8 e3
          cases e3
          cases hl4
          exact kx6
        · replace e3 := zif_t c8 e3
          refine z_iconst fx (v := 3) ic3 d12_isImage_46 ?_
          refine z_iload_n fx (k := 3) (i := 3) rfl rfl d12_isImage_47 ?_
          refine z_imul fx d12_isImage_48 ?_
          refine z_aload_n fx (k := 0) (i := 0) rfl rfl d12_isImage_49 ?_
          refine z_getO fx 12 31 21 ho lf12_104 fk12_31 d12_isImage_50 ?_
          refine z_iload fx (i := 4) rfl d12_isImage_53 ?_
          obtain ⟨t6, e9, e3⟩ := zinv e3
          refine z_iald fx (ok12_31 hO ho) e9 d12_isImage_55 ?_
          refine z_iadd fx d12_isImage_56 ?_
          refine z_sipush fx (v := 251) sp251 d12_isImage_57 ?_
          obtain ⟨t7, e10, e3⟩ := zinv e3
          refine z_irem fx e10 d12_isImage_60 ?_
          refine z_istore_n fx (k := 3) (i := 3) rfl rfl (lv' := [(0, .ref o_), (1, .int v_n), (2, .int v_all1_1), (3, .int t7), (4, .int v_k_3)]) rfl rfl d12_isImage_61 ?_
          obtain ⟨v_k_8, e11, e3⟩ := zinv e3
          replace e11 := Option.some.inj e11
          refine z_iinc fx (i := 4) (x := v_k_3) (v := v_k_8) rfl (by rw [in1]; exact e11) rfl (lv' := [(0, .ref o_), (1, .int v_n), (2, .int v_all1_1), (3, .int t7), (4, .int v_k_8)]) rfl rfl d12_isImage_62 ?_
          cases e3
          refine z_goto fx d12_isImage_65 ?_
          exact ih7 _ _ hl4
    exact klr5 _ _ _ e42
  clear h
  refine z_aload_n fx (k := 0) (i := 0) rfl rfl d12_isImage_17 ?_
  refine z_getB fx 12 46 1246 ho lf12_150 ⟨fk12_46, rfl⟩ d12_isImage_18 ?_
  refine z_ifb_eq fx d12_isImage_21 (fun c43 => ?_) (fun c43 => ?_)
  · exact kt2 (by simp [c43])
  · refine z_iload_n fx (k := 1) (i := 1) rfl rfl d12_isImage_24 ?_
    refine z_iload_n fx (k := 2) (i := 2) rfl rfl d12_isImage_25 ?_
    refine z_iconst fx (v := 1) ic1 d12_isImage_26 ?_
    refine z_iadd fx d12_isImage_27 ?_
    refine z_icmp_eq fx d12_isImage_28 (fun c44 => ?_) (fun c44 => ?_)
    · exact kf2 (by simp [c43, c44])
    · exact kt2 (by simp [c43, c44])
