theorem d12_isRoot_0 : zd cX12_isRoot 0 (.aload_n 0) 1 1 := by decide +kernel
theorem d12_isRoot_1 : zd cX12_isRoot 1 (.iload_n 1) 1 2 := by decide +kernel
theorem d12_isRoot_2 : zd cX12_isRoot 2 (.iconst 4) 1 3 := by decide +kernel
theorem d12_isRoot_3 : zd cX12_isRoot 3 (.iconst 0) 1 4 := by decide +kernel
theorem d12_isRoot_4 : zd cX12_isRoot 4 (.invokevirtual 344) 3 7 := by decide +kernel
theorem d12_isRoot_7 : zd cX12_isRoot 7 (.aload_n 0) 1 8 := by decide +kernel
theorem d12_isRoot_8 : zd cX12_isRoot 8 (.iload_n 1) 1 9 := by decide +kernel
theorem d12_isRoot_9 : zd cX12_isRoot 9 (.bipush 6) 2 11 := by decide +kernel
theorem d12_isRoot_11 : zd cX12_isRoot 11 (.idiv) 1 12 := by decide +kernel
theorem d12_isRoot_12 : zd cX12_isRoot 12 (.iconst 2) 1 13 := by decide +kernel
theorem d12_isRoot_13 : zd cX12_isRoot 13 (.invokevirtual 319) 3 16 := by decide +kernel
theorem d12_isRoot_16 : zj cX12_isRoot 16 (.ifCond .ne 11) 11 19 27 := by decide +kernel
theorem d12_isRoot_19 : zd cX12_isRoot 19 (.aload_n 0) 1 20 := by decide +kernel
theorem d12_isRoot_20 : zd cX12_isRoot 20 (.iload_n 1) 1 21 := by decide +kernel
theorem d12_isRoot_21 : zd cX12_isRoot 21 (.invokevirtual 416) 3 24 := by decide +kernel
theorem d12_isRoot_24 : zj cX12_isRoot 24 (.goto 23) 23 27 47 := by decide +kernel
theorem d12_isRoot_27 : zd cX12_isRoot 27 (.iload_n 2) 1 28 := by decide +kernel
theorem d12_isRoot_28 : zd cX12_isRoot 28 (.iconst 1) 1 29 := by decide +kernel
theorem d12_isRoot_29 : zj cX12_isRoot 29 (.if_icmp .eq 18) 18 32 47 := by decide +kernel
theorem d12_isRoot_32 : zd cX12_isRoot 32 (.iload_n 2) 1 33 := by decide +kernel
theorem d12_isRoot_33 : zd cX12_isRoot 33 (.iconst 2) 1 34 := by decide +kernel
theorem d12_isRoot_34 : zj cX12_isRoot 34 (.if_icmp .eq 13) 13 37 47 := by decide +kernel
theorem d12_isRoot_37 : zd cX12_isRoot 37 (.aload_n 0) 1 38 := by decide +kernel
theorem d12_isRoot_38 : zd cX12_isRoot 38 (.iload_n 1) 1 39 := by decide +kernel
theorem d12_isRoot_39 : zd cX12_isRoot 39 (.iconst 2) 1 40 := by decide +kernel
theorem d12_isRoot_40 : zd cX12_isRoot 40 (.aload_n 0) 1 41 := by decide +kernel
theorem d12_isRoot_41 : zd cX12_isRoot 41 (.getfield 25) 3 44 := by decide +kernel
theorem d12_isRoot_44 : zd cX12_isRoot 44 (.invokevirtual 344) 3 47 := by decide +kernel
theorem d12_isRoot_47 : zd cX12_isRoot 47 (.return_) 1 48 := by decide +kernel
set_option maxHeartbeats 4000000 in
set_option maxRecDepth 20000 in
theorem c12_isRoot (l : Launch) (D : zDt) (Sh : zSh) (top : Nat) (hO : zOK Sh) (o_ : Nat) (v_p : Int32) (v_was : Int32) (μ : zM) (μ_ : zM) (ho : (Sh o_).1 = 19) (h : f12_isRoot o_ v_p v_was μ = some μ_) : zMet l D zK1 yX12_isRoot cX12_isRoot 3 none (zrm 4 90) [.ref o_, .int v_p, .int v_was] Sh top μ none Sh top μ_ 0 0 := by
  refine zMet_of (by decide) (Nat.le_of_ble_eq_true rfl) fun X hX1 hX2 fx fin => ?_
  subst hX1; subst hX2
  replace fx : zFix X cX12_isRoot RX12 (zrm 4 90) 3 := fx
  show zZ zK1 X (zT0 Sh top) μ 0 [(0, .ref o_), (1, .int v_p), (2, .int v_was)] []
  unfold f12_isRoot at h
  refine z_aload_n fx (k := 0) (i := 0) rfl rfl d12_isRoot_0 ?_
  refine z_iload_n fx (k := 1) (i := 1) rfl rfl d12_isRoot_1 ?_
  refine z_iconst fx (v := 4) ic4 d12_isRoot_2 ?_
  refine z_iconst fx (v := 0) ic0 d12_isRoot_3 ?_
  obtain ⟨μ1, e1, h⟩ := zinv h
  refine z_cVv fx (c12_sets (zLo X) (zDo X) Sh top hO o_ v_p 4 0 μ _ ho e1) mv12_sets ml12_344 ho rfl rfl rfl rfl d12_isRoot_4 ?_
  refine z_aload_n fx (k := 0) (i := 0) rfl rfl d12_isRoot_7 ?_
  refine z_iload_n fx (k := 1) (i := 1) rfl rfl d12_isRoot_8 ?_
  refine z_bipush fx (v := 6) bp6 d12_isRoot_9 ?_
  obtain ⟨t2, e2, h⟩ := zinv h
  refine z_idiv fx e2 d12_isRoot_11 ?_
  refine z_iconst fx (v := 2) ic2 d12_isRoot_12 ?_
  obtain ⟨t3, e3, h⟩ := zinv h
  refine z_cVr fx (c12_of (zLo X) (zDo X) Sh top hO o_ t2 2 μ1 _ ho e3) mv12_of ml12_319 ho rfl rfl rfl rfl d12_isRoot_13 ?_
  refine z_if_ne fx d12_isRoot_16 (fun c4 => ?_) (fun c4 => ?_)
  · replace h := zif_f c4 h
    have kt5 : ((!(ceq v_was 1)) && (!(ceq v_was 2))) = true → zZ zK1 X (zT0 Sh top) μ1 37 [(0, .ref o_), (1, .int v_p), (2, .int v_was)] [] := by
      intro hc
      replace h := zif_t hc h
      refine z_aload_n fx (k := 0) (i := 0) rfl rfl d12_isRoot_37 ?_
      refine z_iload_n fx (k := 1) (i := 1) rfl rfl d12_isRoot_38 ?_
      refine z_iconst fx (v := 2) ic2 d12_isRoot_39 ?_
      refine z_aload_n fx (k := 0) (i := 0) rfl rfl d12_isRoot_40 ?_
      refine z_getI fx 12 5 1205 ho lf12_25 ⟨fk12_5, rfl⟩ d12_isRoot_41 ?_
      obtain ⟨μ4, e6, h⟩ := zinv h
      refine z_cVv fx (c12_sets (zLo X) (zDo X) Sh top hO o_ v_p 2 (gF μ1 1205 o_) μ1 _ ho e6) mv12_sets ml12_344 ho rfl rfl rfl rfl d12_isRoot_44 ?_
      cases h
      exact z_return fx fin d12_isRoot_47
    have kf5 : ((!(ceq v_was 1)) && (!(ceq v_was 2))) = false → zZ zK1 X (zT0 Sh top) μ1 47 [(0, .ref o_), (1, .int v_p), (2, .int v_was)] [] := by
      intro hc
      replace h := zif_f hc h
      cases h
      exact z_return fx fin d12_isRoot_47
    clear h
    refine z_iload_n fx (k := 2) (i := 2) rfl rfl d12_isRoot_27 ?_
    refine z_iconst fx (v := 1) ic1 d12_isRoot_28 ?_
    refine z_icmp_eq fx d12_isRoot_29 (fun c7 => ?_) (fun c7 => ?_)
    · exact kf5 (by simp [c7])
    · refine z_iload_n fx (k := 2) (i := 2) rfl rfl d12_isRoot_32 ?_
      refine z_iconst fx (v := 2) ic2 d12_isRoot_33 ?_
      refine z_icmp_eq fx d12_isRoot_34 (fun c8 => ?_) (fun c8 => ?_)
      · exact kf5 (by simp [c7, c8])
      · exact kt5 (by simp [c7, c8])
  · replace h := zif_t c4 h
    refine z_aload_n fx (k := 0) (i := 0) rfl rfl d12_isRoot_19 ?_
    refine z_iload_n fx (k := 1) (i := 1) rfl rfl d12_isRoot_20 ?_
    obtain ⟨μ5, e9, h⟩ := zinv h
    refine z_cVv fx (c12_opens (zLo X) (zDo X) Sh top hO o_ v_p μ1 _ ho e9) mv12_opens ml12_416 ho rfl rfl rfl rfl d12_isRoot_21 ?_
    refine z_goto fx d12_isRoot_24 ?_
    cases h
    exact z_return fx fin d12_isRoot_47
theorem d12_forgetsAt_0 : zd cX12_forgetsAt 0 (.iload_n 1) 1 1 := by decide +kernel
theorem d12_forgetsAt_1 : zd cX12_forgetsAt 1 (.bipush 6) 2 3 := by decide +kernel
theorem d12_forgetsAt_3 : zd cX12_forgetsAt 3 (.idiv) 1 4 := by decide +kernel
theorem d12_forgetsAt_4 : zd cX12_forgetsAt 4 (.istore_n 2) 1 5 := by decide +kernel
theorem d12_forgetsAt_5 : zd cX12_forgetsAt 5 (.iconst 0) 1 6 := by decide +kernel
theorem d12_forgetsAt_6 : zd cX12_forgetsAt 6 (.istore_n 3) 1 7 := by decide +kernel
theorem d12_forgetsAt_7 : zd cX12_forgetsAt 7 (.iload_n 3) 1 8 := by decide +kernel
theorem d12_forgetsAt_8 : zd cX12_forgetsAt 8 (.aload_n 0) 1 9 := by decide +kernel
theorem d12_forgetsAt_9 : zd cX12_forgetsAt 9 (.getfield 19) 3 12 := by decide +kernel
theorem d12_forgetsAt_12 : zj cX12_forgetsAt 12 (.if_icmp .ge 35) 35 15 47 := by decide +kernel
theorem d12_forgetsAt_15 : zd cX12_forgetsAt 15 (.aload_n 0) 1 16 := by decide +kernel
theorem d12_forgetsAt_16 : zd cX12_forgetsAt 16 (.iload_n 2) 1 17 := by decide +kernel
theorem d12_forgetsAt_17 : zd cX12_forgetsAt 17 (.iload_n 3) 1 18 := by decide +kernel
theorem d12_forgetsAt_18 : zd cX12_forgetsAt 18 (.invokestatic 348) 3 21 := by decide +kernel
theorem d12_forgetsAt_21 : zd cX12_forgetsAt 21 (.invokevirtual 316) 3 24 := by decide +kernel
theorem d12_forgetsAt_24 : zd cX12_forgetsAt 24 (.iload_n 1) 1 25 := by decide +kernel
theorem d12_forgetsAt_25 : zd cX12_forgetsAt 25 (.bipush 6) 2 27 := by decide +kernel
theorem d12_forgetsAt_27 : zd cX12_forgetsAt 27 (.irem) 1 28 := by decide +kernel
theorem d12_forgetsAt_28 : zj cX12_forgetsAt 28 (.if_icmp .ne 13) 13 31 41 := by decide +kernel
theorem d12_forgetsAt_31 : zd cX12_forgetsAt 31 (.aload_n 0) 1 32 := by decide +kernel
theorem d12_forgetsAt_32 : zd cX12_forgetsAt 32 (.iload_n 2) 1 33 := by decide +kernel
theorem d12_forgetsAt_33 : zd cX12_forgetsAt 33 (.iload_n 3) 1 34 := by decide +kernel
theorem d12_forgetsAt_34 : zd cX12_forgetsAt 34 (.invokestatic 348) 3 37 := by decide +kernel
theorem d12_forgetsAt_37 : zd cX12_forgetsAt 37 (.iconst (-1)) 1 38 := by decide +kernel
theorem d12_forgetsAt_38 : zd cX12_forgetsAt 38 (.invokevirtual 310) 3 41 := by decide +kernel
theorem d12_forgetsAt_41 : zd cX12_forgetsAt 41 (.iinc 3 1) 3 44 := by decide +kernel
theorem d12_forgetsAt_44 : zj cX12_forgetsAt 44 (.goto (-37)) (-37) 47 7 := by decide +kernel
theorem d12_forgetsAt_47 : zd cX12_forgetsAt 47 (.return_) 1 48 := by decide +kernel
set_option maxHeartbeats 4000000 in
set_option maxRecDepth 20000 in
theorem c12_forgetsAt (l : Launch) (D : zDt) (Sh : zSh) (top : Nat) (hO : zOK Sh) (o_ : Nat) (v_p : Int32) (μ : zM) (μ_ : zM) (ho : (Sh o_).1 = 19) (h : f12_forgetsAt o_ v_p μ = some μ_) : zMet l D zK1 yX12_forgetsAt cX12_forgetsAt 4 none (zrm 1 22) [.ref o_, .int v_p] Sh top μ none Sh top μ_ 0 0 := by
  refine zMet_of (by decide) (Nat.le_of_ble_eq_true rfl) fun X hX1 hX2 fx fin => ?_
  subst hX1; subst hX2
  replace fx : zFix X cX12_forgetsAt RX12 (zrm 1 22) 4 := fx
  show zZ zK1 X (zT0 Sh top) μ 0 [(0, .ref o_), (1, .int v_p)] []
  unfold f12_forgetsAt at h
  refine z_iload_n fx (k := 1) (i := 1) rfl rfl d12_forgetsAt_0 ?_
  refine z_bipush fx (v := 6) bp6 d12_forgetsAt_1 ?_
  obtain ⟨t1, e1, h⟩ := zinv h
  refine z_idiv fx e1 d12_forgetsAt_3 ?_
  refine z_istore_n fx (k := 2) (i := 2) rfl rfl (lv' := [(0, .ref o_), (1, .int v_p), (2, .int t1)]) rfl rfl d12_forgetsAt_4 ?_
  refine z_iconst fx (v := 0) ic0 d12_forgetsAt_5 ?_
  refine z_istore_n fx (k := 3) (i := 3) rfl rfl (lv' := [(0, .ref o_), (1, .int v_p), (2, .int t1), (3, .int 0)]) rfl rfl d12_forgetsAt_6 ?_
  obtain ⟨v_h_4, μ5, e16, h⟩ := zinv2 h
  have kx5 : zZ zK1 X (zT0 Sh top) μ5 47 [(0, .ref o_), (1, .int v_p), (2, .int t1), (3, .int v_h_4)] [] := by
    refine z_take 3 (lv' := [(0, .ref o_), (1, .int v_p), (2, .int t1)]) rfl ?_
    cases h
    exact z_return fx fin d12_forgetsAt_47
  clear h
  have klr4 : ∀ (n : Nat) (v_h_2 : Int32) (μ3 : zM), zloop (fun s => f12_forgetsAt_L1 o_ v_p t1 s.1 s.2) n (v_h_2, μ3) = some (v_h_4, μ5) → zZ zK1 X (zT0 Sh top) μ3 7 [(0, .ref o_), (1, .int v_p), (2, .int t1), (3, .int v_h_2)] [] := by
    intro n
    induction n with
    | zero => intro v_h_2 μ3 hl3; cases hl3
    | succ n ih6 =>
      intro v_h_2 μ3 hl3
      obtain ⟨y, e2, hl3⟩ := zloop_inv hl3
      replace e2 : f12_forgetsAt_L1 o_ v_p t1 v_h_2 μ3 = some y := e2
      unfold f12_forgetsAt_L1 at e2
      refine z_iload_n fx (k := 3) (i := 3) rfl rfl d12_forgetsAt_7 ?_
      refine z_aload_n fx (k := 0) (i := 0) rfl rfl d12_forgetsAt_8 ?_
      refine z_getI fx 12 3 1203 ho lf12_19 ⟨fk12_3, rfl⟩ d12_forgetsAt_9 ?_
      refine z_icmp_ge fx d12_forgetsAt_12 (fun c7 => ?_) (fun c7 => ?_)
      · replace e2 := zif_f c7 e2
        cases e2
        cases hl3
        exact kx5
      · replace e2 := zif_t c7 e2
        refine z_aload_n fx (k := 0) (i := 0) rfl rfl d12_forgetsAt_15 ?_
        refine z_iload_n fx (k := 2) (i := 2) rfl rfl d12_forgetsAt_16 ?_
        refine z_iload_n fx (k := 3) (i := 3) rfl rfl d12_forgetsAt_17 ?_
        obtain ⟨t6, e8, e2⟩ := zinv e2
        refine z_cSr fx (c12_addressAt (zLo X) (zDo X) Sh top hO t1 v_h_2 μ3 _  e8) ms12_addressAt ml12_348 rfl rfl rfl rfl d12_forgetsAt_18 ?_
        obtain ⟨t7, e9, e2⟩ := zinv e2
        refine z_cVr fx (c12_its (zLo X) (zDo X) Sh top hO o_ t6 μ3 _ ho e9) mv12_its ml12_316 ho rfl rfl rfl rfl d12_forgetsAt_21 ?_
        refine z_iload_n fx (k := 1) (i := 1) rfl rfl d12_forgetsAt_24 ?_
        refine z_bipush fx (v := 6) bp6 d12_forgetsAt_25 ?_
        obtain ⟨t8, e10, e2⟩ := zinv e2
        refine z_irem fx e10 d12_forgetsAt_27 ?_
        refine z_icmp_ne fx d12_forgetsAt_28 (fun c11 => ?_) (fun c11 => ?_)
        · replace e2 := zif_f c11 e2
          obtain ⟨v_h_9, e12, e2⟩ := zinv e2
          replace e12 := Option.some.inj e12
          refine z_iinc fx (i := 3) (x := v_h_2) (v := v_h_9) rfl (by rw [in1]; exact e12) rfl (lv' := [(0, .ref o_), (1, .int v_p), (2, .int t1), (3, .int v_h_9)]) rfl rfl d12_forgetsAt_41 ?_
          cases e2
          refine z_goto fx d12_forgetsAt_44 ?_
          exact ih6 _ _ hl3
        · replace e2 := zif_t c11 e2
          refine z_aload_n fx (k := 0) (i := 0) rfl rfl d12_forgetsAt_31 ?_
          refine z_iload_n fx (k := 2) (i := 2) rfl rfl d12_forgetsAt_32 ?_
          refine z_iload_n fx (k := 3) (i := 3) rfl rfl d12_forgetsAt_33 ?_
          obtain ⟨t10, e13, e2⟩ := zinv e2
          refine z_cSr fx (c12_addressAt (zLo X) (zDo X) Sh top hO t1 v_h_2 μ3 _  e13) ms12_addressAt ml12_348 rfl rfl rfl rfl d12_forgetsAt_34 ?_
          refine z_iconst fx (v := (-1)) icm1 d12_forgetsAt_37 ?_
          obtain ⟨μ11, e14, e2⟩ := zinv e2
          refine z_cVv fx (c12_puts (zLo X) (zDo X) Sh top hO o_ t10 (-1) μ3 _ ho e14) mv12_puts ml12_310 ho rfl rfl rfl rfl d12_forgetsAt_38 ?_
          obtain ⟨v_h_12, e15, e2⟩ := zinv e2
          replace e15 := Option.some.inj e15
          refine z_iinc fx (i := 3) (x := v_h_2) (v := v_h_12) rfl (by rw [in1]; exact e15) rfl (lv' := [(0, .ref o_), (1, .int v_p), (2, .int t1), (3, .int v_h_12)]) rfl rfl d12_forgetsAt_41 ?_
          cases e2
          refine z_goto fx d12_forgetsAt_44 ?_
          exact ih6 _ _ hl3
  exact klr4 _ _ _ e16
theorem d12_shuts_0 : zd cX12_shuts 0 (.aload_n 0) 1 1 := by decide +kernel
theorem d12_shuts_1 : zd cX12_shuts 1 (.iload_n 1) 1 2 := by decide +kernel
theorem d12_shuts_2 : zd cX12_shuts 2 (.iconst 1) 1 3 := by decide +kernel
theorem d12_shuts_3 : zd cX12_shuts 3 (.invokevirtual 334) 3 6 := by decide +kernel
theorem d12_shuts_6 : zj cX12_shuts 6 (.ifCond .ne 4) 4 9 10 := by decide +kernel
theorem d12_shuts_9 : zd cX12_shuts 9 (.return_) 1 10 := by decide +kernel
theorem d12_shuts_10 : zd cX12_shuts 10 (.aload_n 0) 1 11 := by decide +kernel
theorem d12_shuts_11 : zd cX12_shuts 11 (.iload_n 1) 1 12 := by decide +kernel
theorem d12_shuts_12 : zd cX12_shuts 12 (.iconst 0) 1 13 := by decide +kernel
theorem d12_shuts_13 : zd cX12_shuts 13 (.invokevirtual 351) 3 16 := by decide +kernel
theorem d12_shuts_16 : zd cX12_shuts 16 (.aload_n 0) 1 17 := by decide +kernel
theorem d12_shuts_17 : zd cX12_shuts 17 (.iload_n 1) 1 18 := by decide +kernel
theorem d12_shuts_18 : zd cX12_shuts 18 (.invokevirtual 354) 3 21 := by decide +kernel
theorem d12_shuts_21 : zd cX12_shuts 21 (.return_) 1 22 := by decide +kernel
set_option maxHeartbeats 4000000 in
set_option maxRecDepth 20000 in
theorem c12_shuts (l : Launch) (D : zDt) (Sh : zSh) (top : Nat) (hO : zOK Sh) (o_ : Nat) (v_p : Int32) (μ : zM) (μ_ : zM) (ho : (Sh o_).1 = 19) (h : f12_shuts o_ v_p μ = some μ_) : zMet l D zK1 yX12_shuts cX12_shuts 2 none (zrm 3 68) [.ref o_, .int v_p] Sh top μ none Sh top μ_ 0 0 := by
  refine zMet_of (by decide) (Nat.le_of_ble_eq_true rfl) fun X hX1 hX2 fx fin => ?_
  subst hX1; subst hX2
  replace fx : zFix X cX12_shuts RX12 (zrm 3 68) 2 := fx
  show zZ zK1 X (zT0 Sh top) μ 0 [(0, .ref o_), (1, .int v_p)] []
  unfold f12_shuts at h
  refine z_aload_n fx (k := 0) (i := 0) rfl rfl d12_shuts_0 ?_
  refine z_iload_n fx (k := 1) (i := 1) rfl rfl d12_shuts_1 ?_
  refine z_iconst fx (v := 1) ic1 d12_shuts_2 ?_
  obtain ⟨t1, e1, h⟩ := zinv h
  refine z_cVr fx (c12_portOf (zLo X) (zDo X) Sh top hO o_ v_p 1 μ _ ho e1) mv12_portOf ml12_334 ho rfl rfl rfl rfl d12_shuts_3 ?_
  refine z_if_ne fx d12_shuts_6 (fun c2 => ?_) (fun c2 => ?_)
  · replace h := zif_f c2 h
    refine z_aload_n fx (k := 0) (i := 0) rfl rfl d12_shuts_10 ?_
    refine z_iload_n fx (k := 1) (i := 1) rfl rfl d12_shuts_11 ?_
    refine z_iconst fx (v := 0) ic0 d12_shuts_12 ?_
    obtain ⟨μ2, e3, h⟩ := zinv h
    refine z_cVv fx (c12_isState (zLo X) (zDo X) Sh top hO o_ v_p 0 μ _ ho e3) mv12_isState ml12_351 ho rfl rfl rfl rfl d12_shuts_13 ?_
    refine z_aload_n fx (k := 0) (i := 0) rfl rfl d12_shuts_16 ?_
    refine z_iload_n fx (k := 1) (i := 1) rfl rfl d12_shuts_17 ?_
    obtain ⟨μ3, e4, h⟩ := zinv h
    refine z_cVv fx (c12_forgetsAt (zLo X) (zDo X) Sh top hO o_ v_p μ2 _ ho e4) mv12_forgetsAt ml12_354 ho rfl rfl rfl rfl d12_shuts_18 ?_
    cases h
    exact z_return fx fin d12_shuts_21
  · replace h := zif_t c2 h
    cases h
    exact z_return fx fin d12_shuts_9
theorem d12_isDesignated_0 : zd cX12_isDesignated 0 (.aload_n 0) 1 1 := by decide +kernel
theorem d12_isDesignated_1 : zd cX12_isDesignated 1 (.iload_n 1) 1 2 := by decide +kernel
theorem d12_isDesignated_2 : zd cX12_isDesignated 2 (.bipush 10) 2 4 := by decide +kernel
theorem d12_isDesignated_4 : zd cX12_isDesignated 4 (.iconst 0) 1 5 := by decide +kernel
theorem d12_isDesignated_5 : zd cX12_isDesignated 5 (.invokevirtual 344) 3 8 := by decide +kernel
theorem d12_isDesignated_8 : zd cX12_isDesignated 8 (.aload_n 0) 1 9 := by decide +kernel
theorem d12_isDesignated_9 : zd cX12_isDesignated 9 (.iload_n 1) 1 10 := by decide +kernel
theorem d12_isDesignated_10 : zd cX12_isDesignated 10 (.bipush 7) 2 12 := by decide +kernel
theorem d12_isDesignated_12 : zd cX12_isDesignated 12 (.iconst 0) 1 13 := by decide +kernel
theorem d12_isDesignated_13 : zd cX12_isDesignated 13 (.invokevirtual 344) 3 16 := by decide +kernel
theorem d12_isDesignated_16 : zd cX12_isDesignated 16 (.iload_n 2) 1 17 := by decide +kernel
theorem d12_isDesignated_17 : zd cX12_isDesignated 17 (.iconst 2) 1 18 := by decide +kernel
theorem d12_isDesignated_18 : zj cX12_isDesignated 18 (.if_icmp .eq 54) 54 21 72 := by decide +kernel
theorem d12_isDesignated_21 : zd cX12_isDesignated 21 (.aload_n 0) 1 22 := by decide +kernel
theorem d12_isDesignated_22 : zd cX12_isDesignated 22 (.iload_n 1) 1 23 := by decide +kernel
theorem d12_isDesignated_23 : zd cX12_isDesignated 23 (.iconst 4) 1 24 := by decide +kernel
theorem d12_isDesignated_24 : zd cX12_isDesignated 24 (.iconst 0) 1 25 := by decide +kernel
theorem d12_isDesignated_25 : zd cX12_isDesignated 25 (.invokevirtual 344) 3 28 := by decide +kernel
theorem d12_isDesignated_28 : zd cX12_isDesignated 28 (.aload_n 0) 1 29 := by decide +kernel
theorem d12_isDesignated_29 : zd cX12_isDesignated 29 (.iload_n 1) 1 30 := by decide +kernel
theorem d12_isDesignated_30 : zd cX12_isDesignated 30 (.bipush 9) 2 32 := by decide +kernel
theorem d12_isDesignated_32 : zd cX12_isDesignated 32 (.iconst 1) 1 33 := by decide +kernel
theorem d12_isDesignated_33 : zd cX12_isDesignated 33 (.invokevirtual 344) 3 36 := by decide +kernel
theorem d12_isDesignated_36 : zd cX12_isDesignated 36 (.aload_n 0) 1 37 := by decide +kernel
theorem d12_isDesignated_37 : zd cX12_isDesignated 37 (.iload_n 1) 1 38 := by decide +kernel
theorem d12_isDesignated_38 : zd cX12_isDesignated 38 (.iconst 5) 1 39 := by decide +kernel
theorem d12_isDesignated_39 : zd cX12_isDesignated 39 (.invokevirtual 334) 3 42 := by decide +kernel
theorem d12_isDesignated_42 : zd cX12_isDesignated 42 (.iconst 1) 1 43 := by decide +kernel
theorem d12_isDesignated_43 : zj cX12_isDesignated 43 (.if_icmp .ne 11) 11 46 54 := by decide +kernel
theorem d12_isDesignated_46 : zd cX12_isDesignated 46 (.aload_n 0) 1 47 := by decide +kernel
theorem d12_isDesignated_47 : zd cX12_isDesignated 47 (.iload_n 1) 1 48 := by decide +kernel
theorem d12_isDesignated_48 : zd cX12_isDesignated 48 (.invokevirtual 416) 3 51 := by decide +kernel
theorem d12_isDesignated_51 : zj cX12_isDesignated 51 (.goto 45) 45 54 96 := by decide +kernel
theorem d12_isDesignated_54 : zd cX12_isDesignated 54 (.aload_n 0) 1 55 := by decide +kernel
theorem d12_isDesignated_55 : zd cX12_isDesignated 55 (.iload_n 1) 1 56 := by decide +kernel
theorem d12_isDesignated_56 : zd cX12_isDesignated 56 (.invokevirtual 419) 3 59 := by decide +kernel
theorem d12_isDesignated_59 : zd cX12_isDesignated 59 (.aload_n 0) 1 60 := by decide +kernel
theorem d12_isDesignated_60 : zd cX12_isDesignated 60 (.iload_n 1) 1 61 := by decide +kernel
theorem d12_isDesignated_61 : zd cX12_isDesignated 61 (.iconst 2) 1 62 := by decide +kernel
theorem d12_isDesignated_62 : zd cX12_isDesignated 62 (.aload_n 0) 1 63 := by decide +kernel
theorem d12_isDesignated_63 : zd cX12_isDesignated 63 (.getfield 25) 3 66 := by decide +kernel
theorem d12_isDesignated_66 : zd cX12_isDesignated 66 (.invokevirtual 344) 3 69 := by decide +kernel
theorem d12_isDesignated_69 : zj cX12_isDesignated 69 (.goto 27) 27 72 96 := by decide +kernel
theorem d12_isDesignated_72 : zd cX12_isDesignated 72 (.iload_n 3) 1 73 := by decide +kernel
theorem d12_isDesignated_73 : zj cX12_isDesignated 73 (.ifCond .eq 23) 23 76 96 := by decide +kernel
theorem d12_isDesignated_76 : zd cX12_isDesignated 76 (.aload_n 0) 1 77 := by decide +kernel
theorem d12_isDesignated_77 : zd cX12_isDesignated 77 (.iload_n 1) 1 78 := by decide +kernel
theorem d12_isDesignated_78 : zd cX12_isDesignated 78 (.bipush 9) 2 80 := by decide +kernel
theorem d12_isDesignated_80 : zd cX12_isDesignated 80 (.iconst 1) 1 81 := by decide +kernel
theorem d12_isDesignated_81 : zd cX12_isDesignated 81 (.invokevirtual 344) 3 84 := by decide +kernel
theorem d12_isDesignated_84 : zd cX12_isDesignated 84 (.iload 4) 2 86 := by decide +kernel
theorem d12_isDesignated_86 : zj cX12_isDesignated 86 (.ifCond .eq 10) 10 89 96 := by decide +kernel
theorem d12_isDesignated_89 : zd cX12_isDesignated 89 (.aload_n 0) 1 90 := by decide +kernel
theorem d12_isDesignated_90 : zd cX12_isDesignated 90 (.iload_n 1) 1 91 := by decide +kernel
theorem d12_isDesignated_91 : zd cX12_isDesignated 91 (.iconst 4) 1 92 := by decide +kernel
theorem d12_isDesignated_92 : zd cX12_isDesignated 92 (.iconst 0) 1 93 := by decide +kernel
theorem d12_isDesignated_93 : zd cX12_isDesignated 93 (.invokevirtual 344) 3 96 := by decide +kernel
theorem d12_isDesignated_96 : zd cX12_isDesignated 96 (.return_) 1 97 := by decide +kernel
set_option maxHeartbeats 4000000 in
set_option maxRecDepth 20000 in
theorem c12_isDesignated (l : Launch) (D : zDt) (Sh : zSh) (top : Nat) (hO : zOK Sh) (o_ : Nat) (v_p : Int32) (v_was : Int32) (v_isOther : Bool) (v_isWorse : Bool) (μ : zM) (μ_ : zM) (ho : (Sh o_).1 = 19) (h : f12_isDesignated o_ v_p v_was v_isOther v_isWorse μ = some μ_) : zMet l D zK1 yX12_isDesignated cX12_isDesignated 5 none (zrm 4 90) [.ref o_, .int v_p, .int v_was, .int (bI v_isOther), .int (bI v_isWorse)] Sh top μ none Sh top μ_ 0 0 := by
  refine zMet_of (by decide) (Nat.le_of_ble_eq_true rfl) fun X hX1 hX2 fx fin => ?_
  subst hX1; subst hX2
  replace fx : zFix X cX12_isDesignated RX12 (zrm 4 90) 5 := fx
  show zZ zK1 X (zT0 Sh top) μ 0 [(0, .ref o_), (1, .int v_p), (2, .int v_was), (3, .int (bI v_isOther)), (4, .int (bI v_isWorse))] []
  unfold f12_isDesignated at h
  refine z_aload_n fx (k := 0) (i := 0) rfl rfl d12_isDesignated_0 ?_
  refine z_iload_n fx (k := 1) (i := 1) rfl rfl d12_isDesignated_1 ?_
  refine z_bipush fx (v := 10) bp10 d12_isDesignated_2 ?_
  refine z_iconst fx (v := 0) ic0 d12_isDesignated_4 ?_
  obtain ⟨μ1, e1, h⟩ := zinv h
  refine z_cVv fx (c12_sets (zLo X) (zDo X) Sh top hO o_ v_p 10 0 μ _ ho e1) mv12_sets ml12_344 ho rfl rfl rfl rfl d12_isDesignated_5 ?_
  refine z_aload_n fx (k := 0) (i := 0) rfl rfl d12_isDesignated_8 ?_
  refine z_iload_n fx (k := 1) (i := 1) rfl rfl d12_isDesignated_9 ?_
  refine z_bipush fx (v := 7) bp7 d12_isDesignated_10 ?_
  refine z_iconst fx (v := 0) ic0 d12_isDesignated_12 ?_
  obtain ⟨μ2, e2, h⟩ := zinv h
  refine z_cVv fx (c12_sets (zLo X) (zDo X) Sh top hO o_ v_p 7 0 μ1 _ ho e2) mv12_sets ml12_344 ho rfl rfl rfl rfl d12_isDesignated_13 ?_
  refine z_iload_n fx (k := 2) (i := 2) rfl rfl d12_isDesignated_16 ?_
  refine z_iconst fx (v := 2) ic2 d12_isDesignated_17 ?_
  refine z_icmp_eq fx d12_isDesignated_18 (fun c3 => ?_) (fun c3 => ?_)
  · replace h := zif_t c3 h
    refine z_iload_n fx (k := 3) (i := 3) rfl rfl d12_isDesignated_72 ?_
    refine z_ifb_eq fx d12_isDesignated_73 (fun c4 => ?_) (fun c4 => ?_)
    · replace h := zif_f c4 h
      cases h
      exact z_return fx fin d12_isDesignated_96
    · replace h := zif_t c4 h
      refine z_aload_n fx (k := 0) (i := 0) rfl rfl d12_isDesignated_76 ?_
      refine z_iload_n fx (k := 1) (i := 1) rfl rfl d12_isDesignated_77 ?_
      refine z_bipush fx (v := 9) bp9 d12_isDesignated_78 ?_
      refine z_iconst fx (v := 1) ic1 d12_isDesignated_80 ?_
      obtain ⟨μ3, e5, h⟩ := zinv h
      refine z_cVv fx (c12_sets (zLo X) (zDo X) Sh top hO o_ v_p 9 1 μ2 _ ho e5) mv12_sets ml12_344 ho rfl rfl rfl rfl d12_isDesignated_81 ?_
      refine z_iload fx (i := 4) rfl d12_isDesignated_84 ?_
      refine z_ifb_eq fx d12_isDesignated_86 (fun c6 => ?_) (fun c6 => ?_)
      · replace h := zif_f c6 h
        cases h
        exact z_return fx fin d12_isDesignated_96
      · replace h := zif_t c6 h
        refine z_aload_n fx (k := 0) (i := 0) rfl rfl d12_isDesignated_89 ?_
        refine z_iload_n fx (k := 1) (i := 1) rfl rfl d12_isDesignated_90 ?_
        refine z_iconst fx (v := 4) ic4 d12_isDesignated_91 ?_
        refine z_iconst fx (v := 0) ic0 d12_isDesignated_92 ?_
        obtain ⟨μ4, e7, h⟩ := zinv h
        refine z_cVv fx (c12_sets (zLo X) (zDo X) Sh top hO o_ v_p 4 0 μ3 _ ho e7) mv12_sets ml12_344 ho rfl rfl rfl rfl d12_isDesignated_93 ?_
        cases h
        exact z_return fx fin d12_isDesignated_96
  · replace h := zif_f c3 h
    refine z_aload_n fx (k := 0) (i := 0) rfl rfl d12_isDesignated_21 ?_
    refine z_iload_n fx (k := 1) (i := 1) rfl rfl d12_isDesignated_22 ?_
    refine z_iconst fx (v := 4) ic4 d12_isDesignated_23 ?_
    refine z_iconst fx (v := 0) ic0 d12_isDesignated_24 ?_
    obtain ⟨μ5, e8, h⟩ := zinv h
    refine z_cVv fx (c12_sets (zLo X) (zDo X) Sh top hO o_ v_p 4 0 μ2 _ ho e8) mv12_sets ml12_344 ho rfl rfl rfl rfl d12_isDesignated_25 ?_
    refine z_aload_n fx (k := 0) (i := 0) rfl rfl d12_isDesignated_28 ?_
    refine z_iload_n fx (k := 1) (i := 1) rfl rfl d12_isDesignated_29 ?_
    refine z_bipush fx (v := 9) bp9 d12_isDesignated_30 ?_
    refine z_iconst fx (v := 1) ic1 d12_isDesignated_32 ?_
    obtain ⟨μ6, e9, h⟩ := zinv h
    refine z_cVv fx (c12_sets (zLo X) (zDo X) Sh top hO o_ v_p 9 1 μ5 _ ho e9) mv12_sets ml12_344 ho rfl rfl rfl rfl d12_isDesignated_33 ?_
    refine z_aload_n fx (k := 0) (i := 0) rfl rfl d12_isDesignated_36 ?_
    refine z_iload_n fx (k := 1) (i := 1) rfl rfl d12_isDesignated_37 ?_
    refine z_iconst fx (v := 5) ic5 d12_isDesignated_38 ?_
    obtain ⟨t7, e10, h⟩ := zinv h
    refine z_cVr fx (c12_portOf (zLo X) (zDo X) Sh top hO o_ v_p 5 μ6 _ ho e10) mv12_portOf ml12_334 ho rfl rfl rfl rfl d12_isDesignated_39 ?_
    refine z_iconst fx (v := 1) ic1 d12_isDesignated_42 ?_
    refine z_icmp_ne fx d12_isDesignated_43 (fun c11 => ?_) (fun c11 => ?_)
    · replace h := zif_f c11 h
      refine z_aload_n fx (k := 0) (i := 0) rfl rfl d12_isDesignated_54 ?_
      refine z_iload_n fx (k := 1) (i := 1) rfl rfl d12_isDesignated_55 ?_
      obtain ⟨μ8, e12, h⟩ := zinv h
      refine z_cVv fx (c12_shuts (zLo X) (zDo X) Sh top hO o_ v_p μ6 _ ho e12) mv12_shuts ml12_419 ho rfl rfl rfl rfl d12_isDesignated_56 ?_
      refine z_aload_n fx (k := 0) (i := 0) rfl rfl d12_isDesignated_59 ?_
      refine z_iload_n fx (k := 1) (i := 1) rfl rfl d12_isDesignated_60 ?_
      refine z_iconst fx (v := 2) ic2 d12_isDesignated_61 ?_
      refine z_aload_n fx (k := 0) (i := 0) rfl rfl d12_isDesignated_62 ?_
      refine z_getI fx 12 5 1205 ho lf12_25 ⟨fk12_5, rfl⟩ d12_isDesignated_63 ?_
      obtain ⟨μ9, e13, h⟩ := zinv h
      refine z_cVv fx (c12_sets (zLo X) (zDo X) Sh top hO o_ v_p 2 (gF μ8 1205 o_) μ8 _ ho e13) mv12_sets ml12_344 ho rfl rfl rfl rfl d12_isDesignated_66 ?_
      refine z_goto fx d12_isDesignated_69 ?_
      cases h
      exact z_return fx fin d12_isDesignated_96
    · replace h := zif_t c11 h
      refine z_aload_n fx (k := 0) (i := 0) rfl rfl d12_isDesignated_46 ?_
      refine z_iload_n fx (k := 1) (i := 1) rfl rfl d12_isDesignated_47 ?_
      obtain ⟨μ10, e14, h⟩ := zinv h
      refine z_cVv fx (c12_opens (zLo X) (zDo X) Sh top hO o_ v_p μ6 _ ho e14) mv12_opens ml12_416 ho rfl rfl rfl rfl d12_isDesignated_48 ?_
      refine z_goto fx d12_isDesignated_51 ?_
      cases h
      exact z_return fx fin d12_isDesignated_96
theorem d12_isBehind_0 : zd cX12_isBehind 0 (.aload_n 0) 1 1 := by decide +kernel
theorem d12_isBehind_1 : zd cX12_isBehind 1 (.iload_n 1) 1 2 := by decide +kernel
theorem d12_isBehind_2 : zd cX12_isBehind 2 (.iconst 4) 1 3 := by decide +kernel
theorem d12_isBehind_3 : zd cX12_isBehind 3 (.iconst 0) 1 4 := by decide +kernel
theorem d12_isBehind_4 : zd cX12_isBehind 4 (.invokevirtual 344) 3 7 := by decide +kernel
theorem d12_isBehind_7 : zd cX12_isBehind 7 (.aload_n 0) 1 8 := by decide +kernel
theorem d12_isBehind_8 : zd cX12_isBehind 8 (.iload_n 1) 1 9 := by decide +kernel
theorem d12_isBehind_9 : zd cX12_isBehind 9 (.invokevirtual 419) 3 12 := by decide +kernel
theorem d12_isBehind_12 : zd cX12_isBehind 12 (.aload_n 0) 1 13 := by decide +kernel
theorem d12_isBehind_13 : zd cX12_isBehind 13 (.iload_n 1) 1 14 := by decide +kernel
theorem d12_isBehind_14 : zd cX12_isBehind 14 (.iconst 2) 1 15 := by decide +kernel
theorem d12_isBehind_15 : zd cX12_isBehind 15 (.iconst 0) 1 16 := by decide +kernel
theorem d12_isBehind_16 : zd cX12_isBehind 16 (.invokevirtual 344) 3 19 := by decide +kernel
theorem d12_isBehind_19 : zd cX12_isBehind 19 (.aload_n 0) 1 20 := by decide +kernel
theorem d12_isBehind_20 : zd cX12_isBehind 20 (.iload_n 1) 1 21 := by decide +kernel
theorem d12_isBehind_21 : zd cX12_isBehind 21 (.iconst 3) 1 22 := by decide +kernel
theorem d12_isBehind_22 : zd cX12_isBehind 22 (.iconst 0) 1 23 := by decide +kernel
theorem d12_isBehind_23 : zd cX12_isBehind 23 (.invokevirtual 344) 3 26 := by decide +kernel
theorem d12_isBehind_26 : zd cX12_isBehind 26 (.aload_n 0) 1 27 := by decide +kernel
theorem d12_isBehind_27 : zd cX12_isBehind 27 (.iload_n 1) 1 28 := by decide +kernel
theorem d12_isBehind_28 : zd cX12_isBehind 28 (.bipush 8) 2 30 := by decide +kernel
theorem d12_isBehind_30 : zd cX12_isBehind 30 (.iconst 0) 1 31 := by decide +kernel
theorem d12_isBehind_31 : zd cX12_isBehind 31 (.invokevirtual 344) 3 34 := by decide +kernel
theorem d12_isBehind_34 : zd cX12_isBehind 34 (.return_) 1 35 := by decide +kernel
set_option maxHeartbeats 4000000 in
set_option maxRecDepth 20000 in
theorem c12_isBehind (l : Launch) (D : zDt) (Sh : zSh) (top : Nat) (hO : zOK Sh) (o_ : Nat) (v_p : Int32) (μ : zM) (μ_ : zM) (ho : (Sh o_).1 = 19) (h : f12_isBehind o_ v_p μ = some μ_) : zMet l D zK1 yX12_isBehind cX12_isBehind 2 none (zrm 4 89) [.ref o_, .int v_p] Sh top μ none Sh top μ_ 0 0 := by
  refine zMet_of (by decide) (Nat.le_of_ble_eq_true rfl) fun X hX1 hX2 fx fin => ?_
  subst hX1; subst hX2
  replace fx : zFix X cX12_isBehind RX12 (zrm 4 89) 2 := fx
  show zZ zK1 X (zT0 Sh top) μ 0 [(0, .ref o_), (1, .int v_p)] []
  unfold f12_isBehind at h
  refine z_aload_n fx (k := 0) (i := 0) rfl rfl d12_isBehind_0 ?_
  refine z_iload_n fx (k := 1) (i := 1) rfl rfl d12_isBehind_1 ?_
  refine z_iconst fx (v := 4) ic4 d12_isBehind_2 ?_
  refine z_iconst fx (v := 0) ic0 d12_isBehind_3 ?_
  obtain ⟨μ1, e1, h⟩ := zinv h
  refine z_cVv fx (c12_sets (zLo X) (zDo X) Sh top hO o_ v_p 4 0 μ _ ho e1) mv12_sets ml12_344 ho rfl rfl rfl rfl d12_isBehind_4 ?_
  refine z_aload_n fx (k := 0) (i := 0) rfl rfl d12_isBehind_7 ?_
  refine z_iload_n fx (k := 1) (i := 1) rfl rfl d12_isBehind_8 ?_
  obtain ⟨μ2, e2, h⟩ := zinv h
  refine z_cVv fx (c12_shuts (zLo X) (zDo X) Sh top hO o_ v_p μ1 _ ho e2) mv12_shuts ml12_419 ho rfl rfl rfl rfl d12_isBehind_9 ?_
  refine z_aload_n fx (k := 0) (i := 0) rfl rfl d12_isBehind_12 ?_
  refine z_iload_n fx (k := 1) (i := 1) rfl rfl d12_isBehind_13 ?_
  refine z_iconst fx (v := 2) ic2 d12_isBehind_14 ?_
  refine z_iconst fx (v := 0) ic0 d12_isBehind_15 ?_
  obtain ⟨μ3, e3, h⟩ := zinv h
  refine z_cVv fx (c12_sets (zLo X) (zDo X) Sh top hO o_ v_p 2 0 μ2 _ ho e3) mv12_sets ml12_344 ho rfl rfl rfl rfl d12_isBehind_16 ?_
  refine z_aload_n fx (k := 0) (i := 0) rfl rfl d12_isBehind_19 ?_
  refine z_iload_n fx (k := 1) (i := 1) rfl rfl d12_isBehind_20 ?_
  refine z_iconst fx (v := 3) ic3 d12_isBehind_21 ?_
  refine z_iconst fx (v := 0) ic0 d12_isBehind_22 ?_
  obtain ⟨μ4, e4, h⟩ := zinv h
  refine z_cVv fx (c12_sets (zLo X) (zDo X) Sh top hO o_ v_p 3 0 μ3 _ ho e4) mv12_sets ml12_344 ho rfl rfl rfl rfl d12_isBehind_23 ?_
  refine z_aload_n fx (k := 0) (i := 0) rfl rfl d12_isBehind_26 ?_
  refine z_iload_n fx (k := 1) (i := 1) rfl rfl d12_isBehind_27 ?_
  refine z_bipush fx (v := 8) bp8 d12_isBehind_28 ?_
  refine z_iconst fx (v := 0) ic0 d12_isBehind_30 ?_
  obtain ⟨μ5, e5, h⟩ := zinv h
  refine z_cVv fx (c12_sets (zLo X) (zDo X) Sh top hO o_ v_p 8 0 μ4 _ ho e5) mv12_sets ml12_344 ho rfl rfl rfl rfl d12_isBehind_31 ?_
  cases h
  exact z_return fx fin d12_isBehind_34
theorem d12_chooses_0 : zd cX12_chooses 0 (.aload_n 0) 1 1 := by decide +kernel
theorem d12_chooses_1 : zd cX12_chooses 1 (.iload_n 1) 1 2 := by decide +kernel
theorem d12_chooses_2 : zd cX12_chooses 2 (.invokevirtual 337) 3 5 := by decide +kernel
theorem d12_chooses_5 : zd cX12_chooses 5 (.istore_n 2) 1 6 := by decide +kernel
theorem d12_chooses_6 : zd cX12_chooses 6 (.aload_n 0) 1 7 := by decide +kernel
theorem d12_chooses_7 : zd cX12_chooses 7 (.iload_n 1) 1 8 := by decide +kernel
theorem d12_chooses_8 : zd cX12_chooses 8 (.invokevirtual 400) 3 11 := by decide +kernel
theorem d12_chooses_11 : zd cX12_chooses 11 (.istore_n 3) 1 12 := by decide +kernel
theorem d12_chooses_12 : zd cX12_chooses 12 (.aload_n 0) 1 13 := by decide +kernel
theorem d12_chooses_13 : zd cX12_chooses 13 (.iload_n 1) 1 14 := by decide +kernel
theorem d12_chooses_14 : zd cX12_chooses 14 (.iconst 3) 1 15 := by decide +kernel
theorem d12_chooses_15 : zd cX12_chooses 15 (.invokestatic 307) 3 18 := by decide +kernel
theorem d12_chooses_18 : zd cX12_chooses 18 (.iload_n 3) 1 19 := by decide +kernel
theorem d12_chooses_19 : zd cX12_chooses 19 (.iconst (-1)) 1 20 := by decide +kernel
theorem d12_chooses_20 : zj cX12_chooses 20 (.if_icmp .ne 7) 7 23 27 := by decide +kernel
theorem d12_chooses_23 : zd cX12_chooses 23 (.iload_n 2) 1 24 := by decide +kernel
theorem d12_chooses_24 : zj cX12_chooses 24 (.goto 10) 10 27 34 := by decide +kernel
theorem d12_chooses_27 : zd cX12_chooses 27 (.aload_n 0) 1 28 := by decide +kernel
theorem d12_chooses_28 : zd cX12_chooses 28 (.iload_n 3) 1 29 := by decide +kernel
theorem d12_chooses_29 : zd cX12_chooses 29 (.bipush 11) 2 31 := by decide +kernel
theorem d12_chooses_31 : zd cX12_chooses 31 (.invokevirtual 334) 3 34 := by decide +kernel
theorem d12_chooses_34 : zd cX12_chooses 34 (.invokevirtual 310) 3 37 := by decide +kernel
theorem d12_chooses_37 : zd cX12_chooses 37 (.aload_n 0) 1 38 := by decide +kernel
theorem d12_chooses_38 : zd cX12_chooses 38 (.iload_n 1) 1 39 := by decide +kernel
theorem d12_chooses_39 : zd cX12_chooses 39 (.iconst 4) 1 40 := by decide +kernel
theorem d12_chooses_40 : zd cX12_chooses 40 (.invokestatic 307) 3 43 := by decide +kernel
theorem d12_chooses_43 : zd cX12_chooses 43 (.iload_n 3) 1 44 := by decide +kernel
theorem d12_chooses_44 : zd cX12_chooses 44 (.iconst (-1)) 1 45 := by decide +kernel
theorem d12_chooses_45 : zj cX12_chooses 45 (.if_icmp .ne 7) 7 48 52 := by decide +kernel
theorem d12_chooses_48 : zd cX12_chooses 48 (.iconst 0) 1 49 := by decide +kernel
theorem d12_chooses_49 : zj cX12_chooses 49 (.goto 22) 22 52 71 := by decide +kernel
theorem d12_chooses_52 : zd cX12_chooses 52 (.aload_n 0) 1 53 := by decide +kernel
theorem d12_chooses_53 : zd cX12_chooses 53 (.iload_n 3) 1 54 := by decide +kernel
theorem d12_chooses_54 : zd cX12_chooses 54 (.bipush 12) 2 56 := by decide +kernel
theorem d12_chooses_56 : zd cX12_chooses 56 (.invokevirtual 334) 3 59 := by decide +kernel
theorem d12_chooses_59 : zd cX12_chooses 59 (.aload_n 0) 1 60 := by decide +kernel
theorem d12_chooses_60 : zd cX12_chooses 60 (.getfield 44) 3 63 := by decide +kernel
theorem d12_chooses_63 : zd cX12_chooses 63 (.aload_n 0) 1 64 := by decide +kernel
theorem d12_chooses_64 : zd cX12_chooses 64 (.getfield 56) 3 67 := by decide +kernel
theorem d12_chooses_67 : zd cX12_chooses 67 (.iload_n 3) 1 68 := by decide +kernel
theorem d12_chooses_68 : zd cX12_chooses 68 (.iaload) 1 69 := by decide +kernel
theorem d12_chooses_69 : zd cX12_chooses 69 (.iaload) 1 70 := by decide +kernel
theorem d12_chooses_70 : zd cX12_chooses 70 (.iadd) 1 71 := by decide +kernel
theorem d12_chooses_71 : zd cX12_chooses 71 (.invokevirtual 310) 3 74 := by decide +kernel
theorem d12_chooses_74 : zd cX12_chooses 74 (.aload_n 0) 1 75 := by decide +kernel
theorem d12_chooses_75 : zd cX12_chooses 75 (.iload_n 1) 1 76 := by decide +kernel
theorem d12_chooses_76 : zd cX12_chooses 76 (.iconst 5) 1 77 := by decide +kernel
theorem d12_chooses_77 : zd cX12_chooses 77 (.invokestatic 307) 3 80 := by decide +kernel
theorem d12_chooses_80 : zd cX12_chooses 80 (.iload_n 3) 1 81 := by decide +kernel
theorem d12_chooses_81 : zd cX12_chooses 81 (.iconst (-1)) 1 82 := by decide +kernel
theorem d12_chooses_82 : zj cX12_chooses 82 (.if_icmp .ne 7) 7 85 89 := by decide +kernel
theorem d12_chooses_85 : zd cX12_chooses 85 (.iconst (-1)) 1 86 := by decide +kernel
theorem d12_chooses_86 : zj cX12_chooses 86 (.goto 7) 7 89 93 := by decide +kernel
theorem d12_chooses_89 : zd cX12_chooses 89 (.iload_n 3) 1 90 := by decide +kernel
theorem d12_chooses_90 : zd cX12_chooses 90 (.bipush 6) 2 92 := by decide +kernel
theorem d12_chooses_92 : zd cX12_chooses 92 (.irem) 1 93 := by decide +kernel
theorem d12_chooses_93 : zd cX12_chooses 93 (.invokevirtual 310) 3 96 := by decide +kernel
theorem d12_chooses_96 : zd cX12_chooses 96 (.aload_n 0) 1 97 := by decide +kernel
theorem d12_chooses_97 : zd cX12_chooses 97 (.iload_n 1) 1 98 := by decide +kernel
theorem d12_chooses_98 : zd cX12_chooses 98 (.bipush 6) 2 100 := by decide +kernel
theorem d12_chooses_100 : zd cX12_chooses 100 (.invokestatic 307) 3 103 := by decide +kernel
theorem d12_chooses_103 : zd cX12_chooses 103 (.iload_n 3) 1 104 := by decide +kernel
theorem d12_chooses_104 : zd cX12_chooses 104 (.iconst (-1)) 1 105 := by decide +kernel
theorem d12_chooses_105 : zj cX12_chooses 105 (.if_icmp .ne 7) 7 108 112 := by decide +kernel
theorem d12_chooses_108 : zd cX12_chooses 108 (.iconst 0) 1 109 := by decide +kernel
theorem d12_chooses_109 : zj cX12_chooses 109 (.goto 12) 12 112 121 := by decide +kernel
theorem d12_chooses_112 : zd cX12_chooses 112 (.aload_n 0) 1 113 := by decide +kernel
theorem d12_chooses_113 : zd cX12_chooses 113 (.iload_n 3) 1 114 := by decide +kernel
theorem d12_chooses_114 : zd cX12_chooses 114 (.bipush 15) 2 116 := by decide +kernel
theorem d12_chooses_116 : zd cX12_chooses 116 (.invokevirtual 334) 3 119 := by decide +kernel
theorem d12_chooses_119 : zd cX12_chooses 119 (.iconst 1) 1 120 := by decide +kernel
theorem d12_chooses_120 : zd cX12_chooses 120 (.iadd) 1 121 := by decide +kernel
theorem d12_chooses_121 : zd cX12_chooses 121 (.invokevirtual 310) 3 124 := by decide +kernel
theorem d12_chooses_124 : zd cX12_chooses 124 (.aload_n 0) 1 125 := by decide +kernel
theorem d12_chooses_125 : zd cX12_chooses 125 (.iload_n 1) 1 126 := by decide +kernel
theorem d12_chooses_126 : zd cX12_chooses 126 (.bipush 8) 2 128 := by decide +kernel
theorem d12_chooses_128 : zd cX12_chooses 128 (.invokevirtual 319) 3 131 := by decide +kernel
theorem d12_chooses_131 : zd cX12_chooses 131 (.aload_n 0) 1 132 := by decide +kernel
theorem d12_chooses_132 : zd cX12_chooses 132 (.iload_n 1) 1 133 := by decide +kernel
theorem d12_chooses_133 : zd cX12_chooses 133 (.iconst 3) 1 134 := by decide +kernel
theorem d12_chooses_134 : zd cX12_chooses 134 (.invokevirtual 319) 3 137 := by decide +kernel
theorem d12_chooses_137 : zj cX12_chooses 137 (.if_icmp .ne 30) 30 140 167 := by decide +kernel
theorem d12_chooses_140 : zd cX12_chooses 140 (.aload_n 0) 1 141 := by decide +kernel
theorem d12_chooses_141 : zd cX12_chooses 141 (.iload_n 1) 1 142 := by decide +kernel
theorem d12_chooses_142 : zd cX12_chooses 142 (.bipush 9) 2 144 := by decide +kernel
theorem d12_chooses_144 : zd cX12_chooses 144 (.invokevirtual 319) 3 147 := by decide +kernel
theorem d12_chooses_147 : zd cX12_chooses 147 (.aload_n 0) 1 148 := by decide +kernel
theorem d12_chooses_148 : zd cX12_chooses 148 (.iload_n 1) 1 149 := by decide +kernel
theorem d12_chooses_149 : zd cX12_chooses 149 (.iconst 4) 1 150 := by decide +kernel
theorem d12_chooses_150 : zd cX12_chooses 150 (.invokevirtual 319) 3 153 := by decide +kernel
theorem d12_chooses_153 : zj cX12_chooses 153 (.if_icmp .ne 14) 14 156 167 := by decide +kernel
theorem d12_chooses_156 : zd cX12_chooses 156 (.aload_n 0) 1 157 := by decide +kernel
theorem d12_chooses_157 : zd cX12_chooses 157 (.iload_n 1) 1 158 := by decide +kernel
theorem d12_chooses_158 : zd cX12_chooses 158 (.bipush 10) 2 160 := by decide +kernel
theorem d12_chooses_160 : zd cX12_chooses 160 (.invokevirtual 319) 3 163 := by decide +kernel
theorem d12_chooses_163 : zd cX12_chooses 163 (.iload_n 2) 1 164 := by decide +kernel
theorem d12_chooses_164 : zj cX12_chooses 164 (.if_icmp .eq 7) 7 167 171 := by decide +kernel
theorem d12_chooses_167 : zd cX12_chooses 167 (.iconst 1) 1 168 := by decide +kernel
theorem d12_chooses_168 : zj cX12_chooses 168 (.goto 4) 4 171 172 := by decide +kernel
theorem d12_chooses_171 : zd cX12_chooses 171 (.iconst 0) 1 172 := by decide +kernel
theorem d12_chooses_172 : zd cX12_chooses 172 (.istore 4) 2 174 := by decide +kernel
theorem d12_chooses_174 : zd cX12_chooses 174 (.aload_n 0) 1 175 := by decide +kernel
theorem d12_chooses_175 : zd cX12_chooses 175 (.iload_n 1) 1 176 := by decide +kernel
theorem d12_chooses_176 : zd cX12_chooses 176 (.bipush 8) 2 178 := by decide +kernel
theorem d12_chooses_178 : zd cX12_chooses 178 (.invokevirtual 319) 3 181 := by decide +kernel
theorem d12_chooses_181 : zd cX12_chooses 181 (.aload_n 0) 1 182 := by decide +kernel
theorem d12_chooses_182 : zd cX12_chooses 182 (.iload_n 1) 1 183 := by decide +kernel
theorem d12_chooses_183 : zd cX12_chooses 183 (.bipush 9) 2 185 := by decide +kernel
theorem d12_chooses_185 : zd cX12_chooses 185 (.invokevirtual 319) 3 188 := by decide +kernel
theorem d12_chooses_188 : zd cX12_chooses 188 (.aload_n 0) 1 189 := by decide +kernel
theorem d12_chooses_189 : zd cX12_chooses 189 (.iload_n 1) 1 190 := by decide +kernel
theorem d12_chooses_190 : zd cX12_chooses 190 (.bipush 10) 2 192 := by decide +kernel
theorem d12_chooses_192 : zd cX12_chooses 192 (.invokevirtual 319) 3 195 := by decide +kernel
theorem d12_chooses_195 : zd cX12_chooses 195 (.iconst 0) 1 196 := by decide +kernel
theorem d12_chooses_196 : zd cX12_chooses 196 (.aload_n 0) 1 197 := by decide +kernel
theorem d12_chooses_197 : zd cX12_chooses 197 (.iload_n 1) 1 198 := by decide +kernel
theorem d12_chooses_198 : zd cX12_chooses 198 (.iconst 3) 1 199 := by decide +kernel
theorem d12_chooses_199 : zd cX12_chooses 199 (.invokevirtual 319) 3 202 := by decide +kernel
theorem d12_chooses_202 : zd cX12_chooses 202 (.aload_n 0) 1 203 := by decide +kernel
theorem d12_chooses_203 : zd cX12_chooses 203 (.iload_n 1) 1 204 := by decide +kernel
theorem d12_chooses_204 : zd cX12_chooses 204 (.iconst 4) 1 205 := by decide +kernel
theorem d12_chooses_205 : zd cX12_chooses 205 (.invokevirtual 319) 3 208 := by decide +kernel
theorem d12_chooses_208 : zd cX12_chooses 208 (.iload_n 2) 1 209 := by decide +kernel
theorem d12_chooses_209 : zd cX12_chooses 209 (.iconst 0) 1 210 := by decide +kernel
theorem d12_chooses_210 : zd cX12_chooses 210 (.invokestatic 340) 3 213 := by decide +kernel
theorem d12_chooses_213 : zd cX12_chooses 213 (.istore 5) 2 215 := by decide +kernel
theorem d12_chooses_215 : zd cX12_chooses 215 (.iconst 0) 1 216 := by decide +kernel
theorem d12_chooses_216 : zd cX12_chooses 216 (.istore 6) 2 218 := by decide +kernel
theorem d12_chooses_218 : zd cX12_chooses 218 (.iload 6) 2 220 := by decide +kernel
theorem d12_chooses_220 : zd cX12_chooses 220 (.aload_n 0) 1 221 := by decide +kernel
theorem d12_chooses_221 : zd cX12_chooses 221 (.getfield 35) 3 224 := by decide +kernel
theorem d12_chooses_224 : zd cX12_chooses 224 (.iload_n 1) 1 225 := by decide +kernel
theorem d12_chooses_225 : zd cX12_chooses 225 (.iaload) 1 226 := by decide +kernel
theorem d12_chooses_226 : zj cX12_chooses 226 (.if_icmp .ge 45) 45 229 271 := by decide +kernel
theorem d12_chooses_229 : zd cX12_chooses 229 (.iload_n 1) 1 230 := by decide +kernel
theorem d12_chooses_230 : zd cX12_chooses 230 (.iload 6) 2 232 := by decide +kernel
theorem d12_chooses_232 : zd cX12_chooses 232 (.invokestatic 325) 3 235 := by decide +kernel
theorem d12_chooses_235 : zd cX12_chooses 235 (.istore 7) 2 237 := by decide +kernel
theorem d12_chooses_237 : zd cX12_chooses 237 (.aload_n 0) 1 238 := by decide +kernel
theorem d12_chooses_238 : zd cX12_chooses 238 (.getfield 157) 3 241 := by decide +kernel
theorem d12_chooses_241 : zd cX12_chooses 241 (.iload 6) 2 243 := by decide +kernel
theorem d12_chooses_243 : zd cX12_chooses 243 (.aload_n 0) 1 244 := by decide +kernel
theorem d12_chooses_244 : zd cX12_chooses 244 (.iload 7) 2 246 := by decide +kernel
theorem d12_chooses_246 : zd cX12_chooses 246 (.iconst 0) 1 247 := by decide +kernel
theorem d12_chooses_247 : zd cX12_chooses 247 (.invokevirtual 334) 3 250 := by decide +kernel
theorem d12_chooses_250 : zd cX12_chooses 250 (.iastore) 1 251 := by decide +kernel
theorem d12_chooses_251 : zd cX12_chooses 251 (.aload_n 0) 1 252 := by decide +kernel
theorem d12_chooses_252 : zd cX12_chooses 252 (.iload 7) 2 254 := by decide +kernel
theorem d12_chooses_254 : zd cX12_chooses 254 (.iconst 0) 1 255 := by decide +kernel
theorem d12_chooses_255 : zd cX12_chooses 255 (.aload_n 0) 1 256 := by decide +kernel
theorem d12_chooses_256 : zd cX12_chooses 256 (.iload 7) 2 258 := by decide +kernel
theorem d12_chooses_258 : zd cX12_chooses 258 (.iload_n 3) 1 259 := by decide +kernel
theorem d12_chooses_259 : zd cX12_chooses 259 (.invokevirtual 403) 3 262 := by decide +kernel
theorem d12_chooses_262 : zd cX12_chooses 262 (.invokevirtual 344) 3 265 := by decide +kernel
theorem d12_chooses_265 : zd cX12_chooses 265 (.iinc 6 1) 3 268 := by decide +kernel
theorem d12_chooses_268 : zj cX12_chooses 268 (.goto (-50)) (-50) 271 218 := by decide +kernel
theorem d12_chooses_271 : zd cX12_chooses 271 (.iconst 0) 1 272 := by decide +kernel
theorem d12_chooses_272 : zd cX12_chooses 272 (.istore 6) 2 274 := by decide +kernel
theorem d12_chooses_274 : zd cX12_chooses 274 (.iload 6) 2 276 := by decide +kernel
theorem d12_chooses_276 : zd cX12_chooses 276 (.aload_n 0) 1 277 := by decide +kernel
theorem d12_chooses_277 : zd cX12_chooses 277 (.getfield 35) 3 280 := by decide +kernel
theorem d12_chooses_280 : zd cX12_chooses 280 (.iload_n 1) 1 281 := by decide +kernel
theorem d12_chooses_281 : zd cX12_chooses 281 (.iaload) 1 282 := by decide +kernel
theorem d12_chooses_282 : zj cX12_chooses 282 (.if_icmp .ge 91) 91 285 373 := by decide +kernel
theorem d12_chooses_285 : zd cX12_chooses 285 (.iload_n 1) 1 286 := by decide +kernel
theorem d12_chooses_286 : zd cX12_chooses 286 (.iload 6) 2 288 := by decide +kernel
theorem d12_chooses_288 : zd cX12_chooses 288 (.invokestatic 325) 3 291 := by decide +kernel
theorem d12_chooses_291 : zd cX12_chooses 291 (.istore 7) 2 293 := by decide +kernel
theorem d12_chooses_293 : zd cX12_chooses 293 (.aload_n 0) 1 294 := by decide +kernel
theorem d12_chooses_294 : zd cX12_chooses 294 (.iload 7) 2 296 := by decide +kernel
theorem d12_chooses_296 : zd cX12_chooses 296 (.iconst 0) 1 297 := by decide +kernel
theorem d12_chooses_297 : zd cX12_chooses 297 (.invokevirtual 334) 3 300 := by decide +kernel
theorem d12_chooses_300 : zd cX12_chooses 300 (.iconst 1) 1 301 := by decide +kernel
theorem d12_chooses_301 : zj cX12_chooses 301 (.if_icmp .ne 19) 19 304 320 := by decide +kernel
theorem d12_chooses_304 : zd cX12_chooses 304 (.aload_n 0) 1 305 := by decide +kernel
theorem d12_chooses_305 : zd cX12_chooses 305 (.iload 7) 2 307 := by decide +kernel
theorem d12_chooses_307 : zd cX12_chooses 307 (.aload_n 0) 1 308 := by decide +kernel
theorem d12_chooses_308 : zd cX12_chooses 308 (.getfield 157) 3 311 := by decide +kernel
theorem d12_chooses_311 : zd cX12_chooses 311 (.iload 6) 2 313 := by decide +kernel
theorem d12_chooses_313 : zd cX12_chooses 313 (.iaload) 1 314 := by decide +kernel
theorem d12_chooses_314 : zd cX12_chooses 314 (.invokevirtual 406) 3 317 := by decide +kernel
theorem d12_chooses_317 : zj cX12_chooses 317 (.goto 50) 50 320 367 := by decide +kernel
theorem d12_chooses_320 : zd cX12_chooses 320 (.aload_n 0) 1 321 := by decide +kernel
theorem d12_chooses_321 : zd cX12_chooses 321 (.iload 7) 2 323 := by decide +kernel
theorem d12_chooses_323 : zd cX12_chooses 323 (.iconst 0) 1 324 := by decide +kernel
theorem d12_chooses_324 : zd cX12_chooses 324 (.invokevirtual 334) 3 327 := by decide +kernel
theorem d12_chooses_327 : zd cX12_chooses 327 (.iconst 2) 1 328 := by decide +kernel
theorem d12_chooses_328 : zj cX12_chooses 328 (.if_icmp .ne 23) 23 331 351 := by decide +kernel
theorem d12_chooses_331 : zd cX12_chooses 331 (.aload_n 0) 1 332 := by decide +kernel
theorem d12_chooses_332 : zd cX12_chooses 332 (.iload 7) 2 334 := by decide +kernel
theorem d12_chooses_334 : zd cX12_chooses 334 (.aload_n 0) 1 335 := by decide +kernel
theorem d12_chooses_335 : zd cX12_chooses 335 (.getfield 157) 3 338 := by decide +kernel
theorem d12_chooses_338 : zd cX12_chooses 338 (.iload 6) 2 340 := by decide +kernel
theorem d12_chooses_340 : zd cX12_chooses 340 (.iaload) 1 341 := by decide +kernel
theorem d12_chooses_341 : zd cX12_chooses 341 (.iload 4) 2 343 := by decide +kernel
theorem d12_chooses_343 : zd cX12_chooses 343 (.iload 5) 2 345 := by decide +kernel
theorem d12_chooses_345 : zd cX12_chooses 345 (.invokevirtual 409) 3 348 := by decide +kernel
theorem d12_chooses_348 : zj cX12_chooses 348 (.goto 19) 19 351 367 := by decide +kernel
theorem d12_chooses_351 : zd cX12_chooses 351 (.aload_n 0) 1 352 := by decide +kernel
theorem d12_chooses_352 : zd cX12_chooses 352 (.iload 7) 2 354 := by decide +kernel
theorem d12_chooses_354 : zd cX12_chooses 354 (.iconst 0) 1 355 := by decide +kernel
theorem d12_chooses_355 : zd cX12_chooses 355 (.invokevirtual 334) 3 358 := by decide +kernel
theorem d12_chooses_358 : zj cX12_chooses 358 (.ifCond .eq 9) 9 361 367 := by decide +kernel
theorem d12_chooses_361 : zd cX12_chooses 361 (.aload_n 0) 1 362 := by decide +kernel
theorem d12_chooses_362 : zd cX12_chooses 362 (.iload 7) 2 364 := by decide +kernel
theorem d12_chooses_364 : zd cX12_chooses 364 (.invokevirtual 413) 3 367 := by decide +kernel
theorem d12_chooses_367 : zd cX12_chooses 367 (.iinc 6 1) 3 370 := by decide +kernel
theorem d12_chooses_370 : zj cX12_chooses 370 (.goto (-96)) (-96) 373 274 := by decide +kernel
theorem d12_chooses_373 : zd cX12_chooses 373 (.aload_n 0) 1 374 := by decide +kernel
theorem d12_chooses_374 : zd cX12_chooses 374 (.iload_n 1) 1 375 := by decide +kernel
theorem d12_chooses_375 : zd cX12_chooses 375 (.bipush 8) 2 377 := by decide +kernel
theorem d12_chooses_377 : zd cX12_chooses 377 (.invokestatic 307) 3 380 := by decide +kernel
theorem d12_chooses_380 : zd cX12_chooses 380 (.aload_n 0) 1 381 := by decide +kernel
theorem d12_chooses_381 : zd cX12_chooses 381 (.iload_n 1) 1 382 := by decide +kernel
theorem d12_chooses_382 : zd cX12_chooses 382 (.iconst 3) 1 383 := by decide +kernel
theorem d12_chooses_383 : zd cX12_chooses 383 (.invokevirtual 319) 3 386 := by decide +kernel
theorem d12_chooses_386 : zd cX12_chooses 386 (.invokevirtual 310) 3 389 := by decide +kernel
theorem d12_chooses_389 : zd cX12_chooses 389 (.aload_n 0) 1 390 := by decide +kernel
theorem d12_chooses_390 : zd cX12_chooses 390 (.iload_n 1) 1 391 := by decide +kernel
theorem d12_chooses_391 : zd cX12_chooses 391 (.bipush 9) 2 393 := by decide +kernel
theorem d12_chooses_393 : zd cX12_chooses 393 (.invokestatic 307) 3 396 := by decide +kernel
theorem d12_chooses_396 : zd cX12_chooses 396 (.aload_n 0) 1 397 := by decide +kernel
theorem d12_chooses_397 : zd cX12_chooses 397 (.iload_n 1) 1 398 := by decide +kernel
theorem d12_chooses_398 : zd cX12_chooses 398 (.iconst 4) 1 399 := by decide +kernel
theorem d12_chooses_399 : zd cX12_chooses 399 (.invokevirtual 319) 3 402 := by decide +kernel
theorem d12_chooses_402 : zd cX12_chooses 402 (.invokevirtual 310) 3 405 := by decide +kernel
theorem d12_chooses_405 : zd cX12_chooses 405 (.aload_n 0) 1 406 := by decide +kernel
theorem d12_chooses_406 : zd cX12_chooses 406 (.iload_n 1) 1 407 := by decide +kernel
theorem d12_chooses_407 : zd cX12_chooses 407 (.bipush 10) 2 409 := by decide +kernel
theorem d12_chooses_409 : zd cX12_chooses 409 (.invokestatic 307) 3 412 := by decide +kernel
theorem d12_chooses_412 : zd cX12_chooses 412 (.iload_n 2) 1 413 := by decide +kernel
theorem d12_chooses_413 : zd cX12_chooses 413 (.invokevirtual 310) 3 416 := by decide +kernel
theorem d12_chooses_416 : zd cX12_chooses 416 (.return_) 1 417 := by decide +kernel
set_option maxHeartbeats 4000000 in
set_option maxRecDepth 20000 in
theorem c12_chooses (l : Launch) (D : zDt) (Sh : zSh) (top : Nat) (hO : zOK Sh) (o_ : Nat) (v_b : Int32) (μ : zM) (μ_ : zM) (ho : (Sh o_).1 = 19) (h : f12_chooses o_ v_b μ = some μ_) : zMet l D zK1 yX12_chooses cX12_chooses 8 none (zrm 6 130) [.ref o_, .int v_b] Sh top μ none Sh top μ_ 0 0 := by
  refine zMet_of (by decide) (Nat.le_of_ble_eq_true rfl) fun X hX1 hX2 fx fin => ?_
  subst hX1; subst hX2
  replace fx : zFix X cX12_chooses RX12 (zrm 6 130) 8 := fx
  show zZ zK1 X (zT0 Sh top) μ 0 [(0, .ref o_), (1, .int v_b)] []
  unfold f12_chooses at h
  refine z_aload_n fx (k := 0) (i := 0) rfl rfl d12_chooses_0 ?_
  refine z_iload_n fx (k := 1) (i := 1) rfl rfl d12_chooses_1 ?_
  obtain ⟨t1, e1, h⟩ := zinv h
  refine z_cVr fx (c12_idOf (zLo X) (zDo X) Sh top hO o_ v_b μ _ ho e1) mv12_idOf ml12_337 ho rfl rfl rfl rfl d12_chooses_2 ?_
  refine z_istore_n fx (k := 2) (i := 2) rfl rfl (lv' := [(0, .ref o_), (1, .int v_b), (2, .int t1)]) rfl rfl d12_chooses_5 ?_
  refine z_aload_n fx (k := 0) (i := 0) rfl rfl d12_chooses_6 ?_
  refine z_iload_n fx (k := 1) (i := 1) rfl rfl d12_chooses_7 ?_
  obtain ⟨t2, e2, h⟩ := zinv h
  refine z_cVr fx (c12_leastPort (zLo X) (zDo X) Sh top hO o_ v_b μ _ ho e2) mv12_leastPort ml12_400 ho rfl rfl rfl rfl d12_chooses_8 ?_
  refine z_istore_n fx (k := 3) (i := 3) rfl rfl (lv' := [(0, .ref o_), (1, .int v_b), (2, .int t1), (3, .int t2)]) rfl rfl d12_chooses_11 ?_
  refine z_aload_n fx (k := 0) (i := 0) rfl rfl d12_chooses_12 ?_
  refine z_iload_n fx (k := 1) (i := 1) rfl rfl d12_chooses_13 ?_
  refine z_iconst fx (v := 3) ic3 d12_chooses_14 ?_
  obtain ⟨t3, e3, h⟩ := zinv h
  refine z_cSr fx (c12_bridgeAt (zLo X) (zDo X) Sh top hO v_b 3 μ _  e3) ms12_bridgeAt ml12_307 rfl rfl rfl rfl d12_chooses_15 ?_
  obtain ⟨x4, e4, h⟩ := zinv h
  have k5 : zZ zK1 X (zT0 Sh top) μ 34 [(0, .ref o_), (1, .int v_b), (2, .int t1), (3, .int t2)] [.int x4, .int t3, .ref o_] := by
    obtain ⟨μ6, e8, h⟩ := zinv h
    refine z_cVv fx (c12_puts (zLo X) (zDo X) Sh top hO o_ t3 x4 μ _ ho e8) mv12_puts ml12_310 ho rfl rfl rfl rfl d12_chooses_34 ?_
    refine z_aload_n fx (k := 0) (i := 0) rfl rfl d12_chooses_37 ?_
    refine z_iload_n fx (k := 1) (i := 1) rfl rfl d12_chooses_38 ?_
    refine z_iconst fx (v := 4) ic4 d12_chooses_39 ?_
    obtain ⟨t7, e9, h⟩ := zinv h
    refine z_cSr fx (c12_bridgeAt (zLo X) (zDo X) Sh top hO v_b 4 μ6 _  e9) ms12_bridgeAt ml12_307 rfl rfl rfl rfl d12_chooses_40 ?_
    obtain ⟨x8, e10, h⟩ := zinv h
    have k11 : zZ zK1 X (zT0 Sh top) μ6 71 [(0, .ref o_), (1, .int v_b), (2, .int t1), (3, .int t2)] [.int x8, .int t7, .ref o_] := by
      obtain ⟨μ12, e16, h⟩ := zinv h
      refine z_cVv fx (c12_puts (zLo X) (zDo X) Sh top hO o_ t7 x8 μ6 _ ho e16) mv12_puts ml12_310 ho rfl rfl rfl rfl d12_chooses_71 ?_
      refine z_aload_n fx (k := 0) (i := 0) rfl rfl d12_chooses_74 ?_
      refine z_iload_n fx (k := 1) (i := 1) rfl rfl d12_chooses_75 ?_
      refine z_iconst fx (v := 5) ic5 d12_chooses_76 ?_
      obtain ⟨t13, e17, h⟩ := zinv h
      refine z_cSr fx (c12_bridgeAt (zLo X) (zDo X) Sh top hO v_b 5 μ12 _  e17) ms12_bridgeAt ml12_307 rfl rfl rfl rfl d12_chooses_77 ?_
      obtain ⟨x14, e18, h⟩ := zinv h
      have k19 : zZ zK1 X (zT0 Sh top) μ12 93 [(0, .ref o_), (1, .int v_b), (2, .int t1), (3, .int t2)] [.int x14, .int t13, .ref o_] := by
        obtain ⟨μ16, e22, h⟩ := zinv h
        refine z_cVv fx (c12_puts (zLo X) (zDo X) Sh top hO o_ t13 x14 μ12 _ ho e22) mv12_puts ml12_310 ho rfl rfl rfl rfl d12_chooses_93 ?_
        refine z_aload_n fx (k := 0) (i := 0) rfl rfl d12_chooses_96 ?_
        refine z_iload_n fx (k := 1) (i := 1) rfl rfl d12_chooses_97 ?_
        refine z_bipush fx (v := 6) bp6 d12_chooses_98 ?_
        obtain ⟨t17, e23, h⟩ := zinv h
        refine z_cSr fx (c12_bridgeAt (zLo X) (zDo X) Sh top hO v_b 6 μ16 _  e23) ms12_bridgeAt ml12_307 rfl rfl rfl rfl d12_chooses_100 ?_
        obtain ⟨x18, e24, h⟩ := zinv h
        have k25 : zZ zK1 X (zT0 Sh top) μ16 121 [(0, .ref o_), (1, .int v_b), (2, .int t1), (3, .int t2)] [.int x18, .int t17, .ref o_] := by
          obtain ⟨μ20, e28, h⟩ := zinv h
          refine z_cVv fx (c12_puts (zLo X) (zDo X) Sh top hO o_ t17 x18 μ16 _ ho e28) mv12_puts ml12_310 ho rfl rfl rfl rfl d12_chooses_121 ?_
          obtain ⟨b21, e29, h⟩ := zinv h
          have k30 : zZ zK1 X (zT0 Sh top) μ20 172 [(0, .ref o_), (1, .int v_b), (2, .int t1), (3, .int t2)] [.int (bI b21)] := by
            refine z_istore fx (i := 4) rfl (lv' := [(0, .ref o_), (1, .int v_b), (2, .int t1), (3, .int t2), (4, .int (bI b21))]) rfl rfl d12_chooses_172 ?_
            refine z_aload_n fx (k := 0) (i := 0) rfl rfl d12_chooses_174 ?_
            refine z_iload_n fx (k := 1) (i := 1) rfl rfl d12_chooses_175 ?_
            refine z_bipush fx (v := 8) bp8 d12_chooses_176 ?_
            obtain ⟨t29, e44, h⟩ := zinv h
            refine z_cVr fx (c12_of (zLo X) (zDo X) Sh top hO o_ v_b 8 μ20 _ ho e44) mv12_of ml12_319 ho rfl rfl rfl rfl d12_chooses_178 ?_
            refine z_aload_n fx (k := 0) (i := 0) rfl rfl d12_chooses_181 ?_
            refine z_iload_n fx (k := 1) (i := 1) rfl rfl d12_chooses_182 ?_
            refine z_bipush fx (v := 9) bp9 d12_chooses_183 ?_
            obtain ⟨t30, e45, h⟩ := zinv h
            refine z_cVr fx (c12_of (zLo X) (zDo X) Sh top hO o_ v_b 9 μ20 _ ho e45) mv12_of ml12_319 ho rfl rfl rfl rfl d12_chooses_185 ?_
            refine z_aload_n fx (k := 0) (i := 0) rfl rfl d12_chooses_188 ?_
            refine z_iload_n fx (k := 1) (i := 1) rfl rfl d12_chooses_189 ?_
            refine z_bipush fx (v := 10) bp10 d12_chooses_190 ?_
            obtain ⟨t31, e46, h⟩ := zinv h
            refine z_cVr fx (c12_of (zLo X) (zDo X) Sh top hO o_ v_b 10 μ20 _ ho e46) mv12_of ml12_319 ho rfl rfl rfl rfl d12_chooses_192 ?_
            refine z_iconst fx (v := 0) ic0 d12_chooses_195 ?_
            refine z_aload_n fx (k := 0) (i := 0) rfl rfl d12_chooses_196 ?_
            refine z_iload_n fx (k := 1) (i := 1) rfl rfl d12_chooses_197 ?_
            refine z_iconst fx (v := 3) ic3 d12_chooses_198 ?_
            obtain ⟨t32, e47, h⟩ := zinv h
            refine z_cVr fx (c12_of (zLo X) (zDo X) Sh top hO o_ v_b 3 μ20 _ ho e47) mv12_of ml12_319 ho rfl rfl rfl rfl d12_chooses_199 ?_
            refine z_aload_n fx (k := 0) (i := 0) rfl rfl d12_chooses_202 ?_
            refine z_iload_n fx (k := 1) (i := 1) rfl rfl d12_chooses_203 ?_
            refine z_iconst fx (v := 4) ic4 d12_chooses_204 ?_
            obtain ⟨t33, e48, h⟩ := zinv h
            refine z_cVr fx (c12_of (zLo X) (zDo X) Sh top hO o_ v_b 4 μ20 _ ho e48) mv12_of ml12_319 ho rfl rfl rfl rfl d12_chooses_205 ?_
            refine z_iload_n fx (k := 2) (i := 2) rfl rfl d12_chooses_208 ?_
            refine z_iconst fx (v := 0) ic0 d12_chooses_209 ?_
            obtain ⟨t34, e49, h⟩ := zinv h
            refine z_cSr fx (c12_isLess (zLo X) (zDo X) Sh top hO t29 t30 t31 0 t32 t33 t1 0 μ20 _  e49) ms12_isLess ml12_340 rfl rfl rfl rfl d12_chooses_210 ?_
            refine z_istore fx (i := 5) rfl (lv' := [(0, .ref o_), (1, .int v_b), (2, .int t1), (3, .int t2), (4, .int (bI b21)), (5, .int (bI t34))]) rfl rfl d12_chooses_213 ?_
            refine z_iconst fx (v := 0) ic0 d12_chooses_215 ?_
            refine z_istore fx (i := 6) rfl (lv' := [(0, .ref o_), (1, .int v_b), (2, .int t1), (3, .int t2), (4, .int (bI b21)), (5, .int (bI t34)), (6, .int 0)]) rfl rfl d12_chooses_216 ?_
            obtain ⟨v_k_37, μ38, e95, h⟩ := zinv2 h
            have kx53 : zZ zK1 X (zT0 Sh top) μ38 271 [(0, .ref o_), (1, .int v_b), (2, .int t1), (3, .int t2), (4, .int (bI b21)), (5, .int (bI t34)), (6, .int v_k_37)] [] := by
              refine z_take 6 (lv' := [(0, .ref o_), (1, .int v_b), (2, .int t1), (3, .int t2), (4, .int (bI b21)), (5, .int (bI t34))]) rfl ?_
              refine z_iconst fx (v := 0) ic0 d12_chooses_271 ?_
              refine z_istore fx (i := 6) rfl (lv' := [(0, .ref o_), (1, .int v_b), (2, .int t1), (3, .int t2), (4, .int (bI b21)), (5, .int (bI t34)), (6, .int 0)]) rfl rfl d12_chooses_272 ?_
              obtain ⟨v_k_48, μ49, e94, h⟩ := zinv2 h
              have kx66 : zZ zK1 X (zT0 Sh top) μ49 373 [(0, .ref o_), (1, .int v_b), (2, .int t1), (3, .int t2), (4, .int (bI b21)), (5, .int (bI t34)), (6, .int v_k_48)] [] := by
                refine z_take 6 (lv' := [(0, .ref o_), (1, .int v_b), (2, .int t1), (3, .int t2), (4, .int (bI b21)), (5, .int (bI t34))]) rfl ?_
                refine z_aload_n fx (k := 0) (i := 0) rfl rfl d12_chooses_373 ?_
                refine z_iload_n fx (k := 1) (i := 1) rfl rfl d12_chooses_374 ?_
                refine z_bipush fx (v := 8) bp8 d12_chooses_375 ?_
                obtain ⟨t64, e86, h⟩ := zinv h
                refine z_cSr fx (c12_bridgeAt (zLo X) (zDo X) Sh top hO v_b 8 μ49 _  e86) ms12_bridgeAt ml12_307 rfl rfl rfl rfl d12_chooses_377 ?_
                refine z_aload_n fx (k := 0) (i := 0) rfl rfl d12_chooses_380 ?_
                refine z_iload_n fx (k := 1) (i := 1) rfl rfl d12_chooses_381 ?_
                refine z_iconst fx (v := 3) ic3 d12_chooses_382 ?_
                obtain ⟨t65, e87, h⟩ := zinv h
                refine z_cVr fx (c12_of (zLo X) (zDo X) Sh top hO o_ v_b 3 μ49 _ ho e87) mv12_of ml12_319 ho rfl rfl rfl rfl d12_chooses_383 ?_
                obtain ⟨μ66, e88, h⟩ := zinv h
                refine z_cVv fx (c12_puts (zLo X) (zDo X) Sh top hO o_ t64 t65 μ49 _ ho e88) mv12_puts ml12_310 ho rfl rfl rfl rfl d12_chooses_386 ?_
                refine z_aload_n fx (k := 0) (i := 0) rfl rfl d12_chooses_389 ?_
                refine z_iload_n fx (k := 1) (i := 1) rfl rfl d12_chooses_390 ?_
                refine z_bipush fx (v := 9) bp9 d12_chooses_391 ?_
                obtain ⟨t67, e89, h⟩ := zinv h
                refine z_cSr fx (c12_bridgeAt (zLo X) (zDo X) Sh top hO v_b 9 μ66 _  e89) ms12_bridgeAt ml12_307 rfl rfl rfl rfl d12_chooses_393 ?_
                refine z_aload_n fx (k := 0) (i := 0) rfl rfl d12_chooses_396 ?_
                refine z_iload_n fx (k := 1) (i := 1) rfl rfl d12_chooses_397 ?_
                refine z_iconst fx (v := 4) ic4 d12_chooses_398 ?_
                obtain ⟨t68, e90, h⟩ := zinv h
                refine z_cVr fx (c12_of (zLo X) (zDo X) Sh top hO o_ v_b 4 μ66 _ ho e90) mv12_of ml12_319 ho rfl rfl rfl rfl d12_chooses_399 ?_
                obtain ⟨μ69, e91, h⟩ := zinv h
                refine z_cVv fx (c12_puts (zLo X) (zDo X) Sh top hO o_ t67 t68 μ66 _ ho e91) mv12_puts ml12_310 ho rfl rfl rfl rfl d12_chooses_402 ?_
                refine z_aload_n fx (k := 0) (i := 0) rfl rfl d12_chooses_405 ?_
                refine z_iload_n fx (k := 1) (i := 1) rfl rfl d12_chooses_406 ?_
                refine z_bipush fx (v := 10) bp10 d12_chooses_407 ?_
                obtain ⟨t70, e92, h⟩ := zinv h
                refine z_cSr fx (c12_bridgeAt (zLo X) (zDo X) Sh top hO v_b 10 μ69 _  e92) ms12_bridgeAt ml12_307 rfl rfl rfl rfl d12_chooses_409 ?_
                refine z_iload_n fx (k := 2) (i := 2) rfl rfl d12_chooses_412 ?_
                obtain ⟨μ71, e93, h⟩ := zinv h
                refine z_cVv fx (c12_puts (zLo X) (zDo X) Sh top hO o_ t70 t1 μ69 _ ho e93) mv12_puts ml12_310 ho rfl rfl rfl rfl d12_chooses_413 ?_
                cases h
                exact z_return fx fin d12_chooses_416
              clear h
              have klr65 : ∀ (n : Nat) (v_k_46 : Int32) (μ47 : zM), zloop (fun s => f12_chooses_L2 o_ v_b b21 t34 s.1 s.2) n (v_k_46, μ47) = some (v_k_48, μ49) → zZ zK1 X (zT0 Sh top) μ47 274 [(0, .ref o_), (1, .int v_b), (2, .int t1), (3, .int t2), (4, .int (bI b21)), (5, .int (bI t34)), (6, .int v_k_46)] [] := by
                intro n
                induction n with
                | zero => intro v_k_46 μ47 hl64; cases hl64
                | succ n ih67 =>
                  intro v_k_46 μ47 hl64
                  obtain ⟨y, e63, hl64⟩ := zloop_inv hl64
                  replace e63 : f12_chooses_L2 o_ v_b b21 t34 v_k_46 μ47 = some y := e63
                  unfold f12_chooses_L2 at e63
                  refine z_iload fx (i := 6) rfl d12_chooses_274 ?_
                  refine z_aload_n fx (k := 0) (i := 0) rfl rfl d12_chooses_276 ?_
                  refine z_getO fx 12 8 3 ho lf12_35 fk12_8 d12_chooses_277 ?_
                  refine z_iload_n fx (k := 1) (i := 1) rfl rfl d12_chooses_280 ?_
                  obtain ⟨t50, e68, e63⟩ := zinv e63
                  refine z_iald fx (ok12_8 hO ho) e68 d12_chooses_281 ?_
                  refine z_icmp_ge fx d12_chooses_282 (fun c69 => ?_) (fun c69 => ?_)
                  · replace e63 := zif_f c69 e63
                    cases e63
                    cases hl64
                    exact kx66
                  · replace e63 := zif_t c69 e63
                    refine z_iload_n fx (k := 1) (i := 1) rfl rfl d12_chooses_285 ?_
                    refine z_iload fx (i := 6) rfl d12_chooses_286 ?_
                    obtain ⟨t51, e70, e63⟩ := zinv e63
                    refine z_cSr fx (c12_placeOf (zLo X) (zDo X) Sh top hO v_b v_k_46 μ47 _  e70) ms12_placeOf ml12_325 rfl rfl rfl rfl d12_chooses_288 ?_
                    refine z_istore fx (i := 7) rfl (lv' := [(0, .ref o_), (1, .int v_b), (2, .int t1), (3, .int t2), (4, .int (bI b21)), (5, .int (bI t34)), (6, .int v_k_46), (7, .int t51)]) rfl rfl d12_chooses_291 ?_
                    refine z_aload_n fx (k := 0) (i := 0) rfl rfl d12_chooses_293 ?_
                    refine z_iload fx (i := 7) rfl d12_chooses_294 ?_
                    refine z_iconst fx (v := 0) ic0 d12_chooses_296 ?_
                    obtain ⟨t52, e71, e63⟩ := zinv e63
                    refine z_cVr fx (c12_portOf (zLo X) (zDo X) Sh top hO o_ t51 0 μ47 _ ho e71) mv12_portOf ml12_334 ho rfl rfl rfl rfl d12_chooses_297 ?_
                    refine z_iconst fx (v := 1) ic1 d12_chooses_300 ?_
                    refine z_icmp_ne fx d12_chooses_301 (fun c72 => ?_) (fun c72 => ?_)
                    · replace e63 := zif_f c72 e63
                      refine z_aload_n fx (k := 0) (i := 0) rfl rfl d12_chooses_320 ?_
                      refine z_iload fx (i := 7) rfl d12_chooses_321 ?_
                      refine z_iconst fx (v := 0) ic0 d12_chooses_323 ?_
                      obtain ⟨t53, e73, e63⟩ := zinv e63
                      refine z_cVr fx (c12_portOf (zLo X) (zDo X) Sh top hO o_ t51 0 μ47 _ ho e73) mv12_portOf ml12_334 ho rfl rfl rfl rfl d12_chooses_324 ?_
                      refine z_iconst fx (v := 2) ic2 d12_chooses_327 ?_
                      refine z_icmp_ne fx d12_chooses_328 (fun c74 => ?_) (fun c74 => ?_)
                      · replace e63 := zif_f c74 e63
                        refine z_aload_n fx (k := 0) (i := 0) rfl rfl d12_chooses_351 ?_
                        refine z_iload fx (i := 7) rfl d12_chooses_352 ?_
                        refine z_iconst fx (v := 0) ic0 d12_chooses_354 ?_
                        obtain ⟨t54, e75, e63⟩ := zinv e63
                        refine z_cVr fx (c12_portOf (zLo X) (zDo X) Sh top hO o_ t51 0 μ47 _ ho e75) mv12_portOf ml12_334 ho rfl rfl rfl rfl d12_chooses_355 ?_
                        refine z_if_eq fx d12_chooses_358 (fun c76 => ?_) (fun c76 => ?_)
                        · replace e63 := zif_t c76 e63
                          refine z_take 7 (lv' := [(0, .ref o_), (1, .int v_b), (2, .int t1), (3, .int t2), (4, .int (bI b21)), (5, .int (bI t34)), (6, .int v_k_46)]) rfl ?_
                          obtain ⟨v_k_55, e77, e63⟩ := zinv e63
                          replace e77 := Option.some.inj e77
                          refine z_iinc fx (i := 6) (x := v_k_46) (v := v_k_55) rfl (by rw [in1]; exact e77) rfl (lv' := [(0, .ref o_), (1, .int v_b), (2, .int t1), (3, .int t2), (4, .int (bI b21)), (5, .int (bI t34)), (6, .int v_k_55)]) rfl rfl d12_chooses_367 ?_
                          cases e63
                          refine z_goto fx d12_chooses_370 ?_
                          exact ih67 _ _ hl64
                        · replace e63 := zif_f c76 e63
                          refine z_aload_n fx (k := 0) (i := 0) rfl rfl d12_chooses_361 ?_
                          refine z_iload fx (i := 7) rfl d12_chooses_362 ?_
                          obtain ⟨μ56, e78, e63⟩ := zinv e63
                          refine z_cVv fx (c12_isBehind (zLo X) (zDo X) Sh top hO o_ t51 μ47 _ ho e78) mv12_isBehind ml12_413 ho rfl rfl rfl rfl d12_chooses_364 ?_
                          refine z_take 7 (lv' := [(0, .ref o_), (1, .int v_b), (2, .int t1), (3, .int t2), (4, .int (bI b21)), (5, .int (bI t34)), (6, .int v_k_46)]) rfl ?_
                          obtain ⟨v_k_57, e79, e63⟩ := zinv e63
                          replace e79 := Option.some.inj e79
                          refine z_iinc fx (i := 6) (x := v_k_46) (v := v_k_57) rfl (by rw [in1]; exact e79) rfl (lv' := [(0, .ref o_), (1, .int v_b), (2, .int t1), (3, .int t2), (4, .int (bI b21)), (5, .int (bI t34)), (6, .int v_k_57)]) rfl rfl d12_chooses_367 ?_
                          cases e63
                          refine z_goto fx d12_chooses_370 ?_
                          exact ih67 _ _ hl64
                      · replace e63 := zif_t c74 e63
                        refine z_aload_n fx (k := 0) (i := 0) rfl rfl d12_chooses_331 ?_
                        refine z_iload fx (i := 7) rfl d12_chooses_332 ?_
                        refine z_aload_n fx (k := 0) (i := 0) rfl rfl d12_chooses_334 ?_
                        refine z_getO fx 12 48 27 ho lf12_157 fk12_48 d12_chooses_335 ?_
                        refine z_iload fx (i := 6) rfl d12_chooses_338 ?_
                        obtain ⟨t58, e80, e63⟩ := zinv e63
                        refine z_iald fx (ok12_48 hO ho) e80 d12_chooses_340 ?_
                        refine z_iload fx (i := 4) rfl d12_chooses_341 ?_
                        refine z_iload fx (i := 5) rfl d12_chooses_343 ?_
                        obtain ⟨μ59, e81, e63⟩ := zinv e63
                        refine z_cVv fx (c12_isDesignated (zLo X) (zDo X) Sh top hO o_ t51 t58 b21 t34 μ47 _ ho e81) mv12_isDesignated ml12_409 ho rfl rfl rfl rfl d12_chooses_345 ?_
                        refine z_take 7 (lv' := [(0, .ref o_), (1, .int v_b), (2, .int t1), (3, .int t2), (4, .int (bI b21)), (5, .int (bI t34)), (6, .int v_k_46)]) rfl ?_
                        refine z_goto fx d12_chooses_348 ?_
                        obtain ⟨v_k_60, e82, e63⟩ := zinv e63
                        replace e82 := Option.some.inj e82
                        refine z_iinc fx (i := 6) (x := v_k_46) (v := v_k_60) rfl (by rw [in1]; exact e82) rfl (lv' := [(0, .ref o_), (1, .int v_b), (2, .int t1), (3, .int t2), (4, .int (bI b21)), (5, .int (bI t34)), (6, .int v_k_60)]) rfl rfl d12_chooses_367 ?_
                        cases e63
                        refine z_goto fx d12_chooses_370 ?_
                        exact ih67 _ _ hl64
                    · replace e63 := zif_t c72 e63
                      refine z_aload_n fx (k := 0) (i := 0) rfl rfl d12_chooses_304 ?_
                      refine z_iload fx (i := 7) rfl d12_chooses_305 ?_
                      refine z_aload_n fx (k := 0) (i := 0) rfl rfl d12_chooses_307 ?_
                      refine z_getO fx 12 48 27 ho lf12_157 fk12_48 d12_chooses_308 ?_
                      refine z_iload fx (i := 6) rfl d12_chooses_311 ?_
                      obtain ⟨t61, e83, e63⟩ := zinv e63
                      refine z_iald fx (ok12_48 hO ho) e83 d12_chooses_313 ?_
                      obtain ⟨μ62, e84, e63⟩ := zinv e63
                      refine z_cVv fx (c12_isRoot (zLo X) (zDo X) Sh top hO o_ t51 t61 μ47 _ ho e84) mv12_isRoot ml12_406 ho rfl rfl rfl rfl d12_chooses_314 ?_
                      refine z_take 7 (lv' := [(0, .ref o_), (1, .int v_b), (2, .int t1), (3, .int t2), (4, .int (bI b21)), (5, .int (bI t34)), (6, .int v_k_46)]) rfl ?_
                      refine z_goto fx d12_chooses_317 ?_
                      obtain ⟨v_k_63, e85, e63⟩ := zinv e63
                      replace e85 := Option.some.inj e85
                      refine z_iinc fx (i := 6) (x := v_k_46) (v := v_k_63) rfl (by rw [in1]; exact e85) rfl (lv' := [(0, .ref o_), (1, .int v_b), (2, .int t1), (3, .int t2), (4, .int (bI b21)), (5, .int (bI t34)), (6, .int v_k_63)]) rfl rfl d12_chooses_367 ?_
                      cases e63
                      refine z_goto fx d12_chooses_370 ?_
                      exact ih67 _ _ hl64
              exact klr65 _ _ _ e94
            clear h
            have klr52 : ∀ (n : Nat) (v_k_35 : Int32) (μ36 : zM), zloop (fun s => f12_chooses_L1 o_ v_b t2 s.1 s.2) n (v_k_35, μ36) = some (v_k_37, μ38) → zZ zK1 X (zT0 Sh top) μ36 218 [(0, .ref o_), (1, .int v_b), (2, .int t1), (3, .int t2), (4, .int (bI b21)), (5, .int (bI t34)), (6, .int v_k_35)] [] := by
              intro n
              induction n with
              | zero => intro v_k_35 μ36 hl51; cases hl51
              | succ n ih54 =>
                intro v_k_35 μ36 hl51
                obtain ⟨y, e50, hl51⟩ := zloop_inv hl51
                replace e50 : f12_chooses_L1 o_ v_b t2 v_k_35 μ36 = some y := e50
                unfold f12_chooses_L1 at e50
                refine z_iload fx (i := 6) rfl d12_chooses_218 ?_
                refine z_aload_n fx (k := 0) (i := 0) rfl rfl d12_chooses_220 ?_
                refine z_getO fx 12 8 3 ho lf12_35 fk12_8 d12_chooses_221 ?_
                refine z_iload_n fx (k := 1) (i := 1) rfl rfl d12_chooses_224 ?_
                obtain ⟨t39, e55, e50⟩ := zinv e50
                refine z_iald fx (ok12_8 hO ho) e55 d12_chooses_225 ?_
                refine z_icmp_ge fx d12_chooses_226 (fun c56 => ?_) (fun c56 => ?_)
                · replace e50 := zif_f c56 e50
                  cases e50
                  cases hl51
                  exact kx53
                · replace e50 := zif_t c56 e50
                  refine z_iload_n fx (k := 1) (i := 1) rfl rfl d12_chooses_229 ?_
                  refine z_iload fx (i := 6) rfl d12_chooses_230 ?_
                  obtain ⟨t40, e57, e50⟩ := zinv e50
                  refine z_cSr fx (c12_placeOf (zLo X) (zDo X) Sh top hO v_b v_k_35 μ36 _  e57) ms12_placeOf ml12_325 rfl rfl rfl rfl d12_chooses_232 ?_
                  refine z_istore fx (i := 7) rfl (lv' := [(0, .ref o_), (1, .int v_b), (2, .int t1), (3, .int t2), (4, .int (bI b21)), (5, .int (bI t34)), (6, .int v_k_35), (7, .int t40)]) rfl rfl d12_chooses_235 ?_
                  refine z_aload_n fx (k := 0) (i := 0) rfl rfl d12_chooses_237 ?_
                  refine z_getO fx 12 48 27 ho lf12_157 fk12_48 d12_chooses_238 ?_
                  refine z_iload fx (i := 6) rfl d12_chooses_241 ?_
                  refine z_aload_n fx (k := 0) (i := 0) rfl rfl d12_chooses_243 ?_
                  refine z_iload fx (i := 7) rfl d12_chooses_244 ?_
                  refine z_iconst fx (v := 0) ic0 d12_chooses_246 ?_
                  obtain ⟨t41, e58, e50⟩ := zinv e50
                  refine z_cVr fx (c12_portOf (zLo X) (zDo X) Sh top hO o_ t40 0 μ36 _ ho e58) mv12_portOf ml12_334 ho rfl rfl rfl rfl d12_chooses_247 ?_
                  obtain ⟨μ42, e59, e50⟩ := zinv e50
                  refine z_iast fx (ok12_48 hO ho) e59 d12_chooses_250 ?_
                  refine z_aload_n fx (k := 0) (i := 0) rfl rfl d12_chooses_251 ?_
                  refine z_iload fx (i := 7) rfl d12_chooses_252 ?_
                  refine z_iconst fx (v := 0) ic0 d12_chooses_254 ?_
                  refine z_aload_n fx (k := 0) (i := 0) rfl rfl d12_chooses_255 ?_
                  refine z_iload fx (i := 7) rfl d12_chooses_256 ?_
                  refine z_iload_n fx (k := 3) (i := 3) rfl rfl d12_chooses_258 ?_
                  obtain ⟨t43, e60, e50⟩ := zinv e50
                  refine z_cVr fx (c12_roleFor (zLo X) (zDo X) Sh top hO o_ t40 t2 μ42 _ ho e60) mv12_roleFor ml12_403 ho rfl rfl rfl rfl d12_chooses_259 ?_
                  obtain ⟨μ44, e61, e50⟩ := zinv e50
                  refine z_cVv fx (c12_sets (zLo X) (zDo X) Sh top hO o_ t40 0 t43 μ42 _ ho e61) mv12_sets ml12_344 ho rfl rfl rfl rfl d12_chooses_262 ?_
                  refine z_take 7 (lv' := [(0, .ref o_), (1, .int v_b), (2, .int t1), (3, .int t2), (4, .int (bI b21)), (5, .int (bI t34)), (6, .int v_k_35)]) rfl ?_
                  obtain ⟨v_k_45, e62, e50⟩ := zinv e50
                  replace e62 := Option.some.inj e62
                  refine z_iinc fx (i := 6) (x := v_k_35) (v := v_k_45) rfl (by rw [in1]; exact e62) rfl (lv' := [(0, .ref o_), (1, .int v_b), (2, .int t1), (3, .int t2), (4, .int (bI b21)), (5, .int (bI t34)), (6, .int v_k_45)]) rfl rfl d12_chooses_265 ?_
                  cases e50
                  refine z_goto fx d12_chooses_268 ?_
                  exact ih54 _ _ hl51
            exact klr52 _ _ _ e95
          have kt31 : b21 = true → zZ zK1 X (zT0 Sh top) μ20 167 [(0, .ref o_), (1, .int v_b), (2, .int t1), (3, .int t2)] [] := by
            intro hc
            refine z_iconst fx (v := 1) ic1 d12_chooses_167 ?_
            refine z_goto fx d12_chooses_168 ?_
            exact z_top (congrArg Value.int (show 1 = bI b21 by rw [hc]; rfl)) k30
          have kf31 : b21 = false → zZ zK1 X (zT0 Sh top) μ20 171 [(0, .ref o_), (1, .int v_b), (2, .int t1), (3, .int t2)] [] := by
            intro hc
            refine z_iconst fx (v := 0) ic0 d12_chooses_171 ?_
            exact z_top (congrArg Value.int (show 0 = bI b21 by rw [hc]; rfl)) k30
          obtain ⟨b22, e32, e29⟩ := zinv e29
          have kf33 : b22 = false → zZ zK1 X (zT0 Sh top) μ20 156 [(0, .ref o_), (1, .int v_b), (2, .int t1), (3, .int t2)] [] := by
            intro hc
            replace e29 := zif_f hc e29
            refine z_aload_n fx (k := 0) (i := 0) rfl rfl d12_chooses_156 ?_
            refine z_iload_n fx (k := 1) (i := 1) rfl rfl d12_chooses_157 ?_
            refine z_bipush fx (v := 10) bp10 d12_chooses_158 ?_
            obtain ⟨t23, e34, e29⟩ := zinv e29
            refine z_cVr fx (c12_of (zLo X) (zDo X) Sh top hO o_ v_b 10 μ20 _ ho e34) mv12_of ml12_319 ho rfl rfl rfl rfl d12_chooses_160 ?_
            refine z_iload_n fx (k := 2) (i := 2) rfl rfl d12_chooses_163 ?_
            cases e29
            refine z_icmp_eq fx d12_chooses_164 (fun c35 => ?_) (fun c35 => ?_)
            · exact kf31 (by rw [c35]; rfl)
            · exact kt31 (by rw [c35]; rfl)
          have kt33 : b22 = true → zZ zK1 X (zT0 Sh top) μ20 167 [(0, .ref o_), (1, .int v_b), (2, .int t1), (3, .int t2)] [] := by
            intro hc
            replace e29 := zif_t hc e29
            cases e29
            exact kt31 rfl
          clear e29
          obtain ⟨b24, e36, e32⟩ := zinv e32
          have kf37 : b24 = false → zZ zK1 X (zT0 Sh top) μ20 140 [(0, .ref o_), (1, .int v_b), (2, .int t1), (3, .int t2)] [] := by
            intro hc
            replace e32 := zif_f hc e32
            refine z_aload_n fx (k := 0) (i := 0) rfl rfl d12_chooses_140 ?_
            refine z_iload_n fx (k := 1) (i := 1) rfl rfl d12_chooses_141 ?_
            refine z_bipush fx (v := 9) bp9 d12_chooses_142 ?_
            obtain ⟨t25, e38, e32⟩ := zinv e32
            refine z_cVr fx (c12_of (zLo X) (zDo X) Sh top hO o_ v_b 9 μ20 _ ho e38) mv12_of ml12_319 ho rfl rfl rfl rfl d12_chooses_144 ?_
            refine z_aload_n fx (k := 0) (i := 0) rfl rfl d12_chooses_147 ?_
            refine z_iload_n fx (k := 1) (i := 1) rfl rfl d12_chooses_148 ?_
            refine z_iconst fx (v := 4) ic4 d12_chooses_149 ?_
            obtain ⟨t26, e39, e32⟩ := zinv e32
            refine z_cVr fx (c12_of (zLo X) (zDo X) Sh top hO o_ v_b 4 μ20 _ ho e39) mv12_of ml12_319 ho rfl rfl rfl rfl d12_chooses_150 ?_
            cases e32
            refine z_icmp_ne fx d12_chooses_153 (fun c40 => ?_) (fun c40 => ?_)
            · exact kt33 (by rw [c40]; rfl)
            · exact kf33 (by rw [c40]; rfl)
          have kt37 : b24 = true → zZ zK1 X (zT0 Sh top) μ20 167 [(0, .ref o_), (1, .int v_b), (2, .int t1), (3, .int t2)] [] := by
            intro hc
            replace e32 := zif_t hc e32
            cases e32
            exact kt33 rfl
          clear e32
          refine z_aload_n fx (k := 0) (i := 0) rfl rfl d12_chooses_124 ?_
          refine z_iload_n fx (k := 1) (i := 1) rfl rfl d12_chooses_125 ?_
          refine z_bipush fx (v := 8) bp8 d12_chooses_126 ?_
          obtain ⟨t27, e41, e36⟩ := zinv e36
          refine z_cVr fx (c12_of (zLo X) (zDo X) Sh top hO o_ v_b 8 μ20 _ ho e41) mv12_of ml12_319 ho rfl rfl rfl rfl d12_chooses_128 ?_
          refine z_aload_n fx (k := 0) (i := 0) rfl rfl d12_chooses_131 ?_
          refine z_iload_n fx (k := 1) (i := 1) rfl rfl d12_chooses_132 ?_
          refine z_iconst fx (v := 3) ic3 d12_chooses_133 ?_
          obtain ⟨t28, e42, e36⟩ := zinv e36
          refine z_cVr fx (c12_of (zLo X) (zDo X) Sh top hO o_ v_b 3 μ20 _ ho e42) mv12_of ml12_319 ho rfl rfl rfl rfl d12_chooses_134 ?_
          cases e36
          refine z_icmp_ne fx d12_chooses_137 (fun c43 => ?_) (fun c43 => ?_)
          · exact kt37 (by rw [c43]; rfl)
          · exact kf37 (by rw [c43]; rfl)
        refine z_iload_n fx (k := 3) (i := 3) rfl rfl d12_chooses_103 ?_
        refine z_iconst fx (v := (-1)) icm1 d12_chooses_104 ?_
        refine z_icmp_ne fx d12_chooses_105 (fun c26 => ?_) (fun c26 => ?_)
        · replace e24 := zif_f c26 e24
          refine z_aload_n fx (k := 0) (i := 0) rfl rfl d12_chooses_112 ?_
          refine z_iload_n fx (k := 3) (i := 3) rfl rfl d12_chooses_113 ?_
          refine z_bipush fx (v := 15) bp15 d12_chooses_114 ?_
          obtain ⟨t19, e27, e24⟩ := zinv e24
          refine z_cVr fx (c12_portOf (zLo X) (zDo X) Sh top hO o_ t2 15 μ16 _ ho e27) mv12_portOf ml12_334 ho rfl rfl rfl rfl d12_chooses_116 ?_
          refine z_iconst fx (v := 1) ic1 d12_chooses_119 ?_
          refine z_iadd fx d12_chooses_120 ?_
          cases e24
          exact k25
        · replace e24 := zif_t c26 e24
          refine z_iconst fx (v := 0) ic0 d12_chooses_108 ?_
          cases e24
          refine z_goto fx d12_chooses_109 ?_
          exact k25
      refine z_iload_n fx (k := 3) (i := 3) rfl rfl d12_chooses_80 ?_
      refine z_iconst fx (v := (-1)) icm1 d12_chooses_81 ?_
      refine z_icmp_ne fx d12_chooses_82 (fun c20 => ?_) (fun c20 => ?_)
      · replace e18 := zif_f c20 e18
        refine z_iload_n fx (k := 3) (i := 3) rfl rfl d12_chooses_89 ?_
        refine z_bipush fx (v := 6) bp6 d12_chooses_90 ?_
        obtain ⟨t15, e21, e18⟩ := zinv e18
        refine z_irem fx e21 d12_chooses_92 ?_
        cases e18
        exact k19
      · replace e18 := zif_t c20 e18
        refine z_iconst fx (v := (-1)) icm1 d12_chooses_85 ?_
        cases e18
        refine z_goto fx d12_chooses_86 ?_
        exact k19
    refine z_iload_n fx (k := 3) (i := 3) rfl rfl d12_chooses_43 ?_
    refine z_iconst fx (v := (-1)) icm1 d12_chooses_44 ?_
    refine z_icmp_ne fx d12_chooses_45 (fun c12 => ?_) (fun c12 => ?_)
    · replace e10 := zif_f c12 e10
      refine z_aload_n fx (k := 0) (i := 0) rfl rfl d12_chooses_52 ?_
      refine z_iload_n fx (k := 3) (i := 3) rfl rfl d12_chooses_53 ?_
      refine z_bipush fx (v := 12) bp12 d12_chooses_54 ?_
      obtain ⟨t9, e13, e10⟩ := zinv e10
      refine z_cVr fx (c12_portOf (zLo X) (zDo X) Sh top hO o_ t2 12 μ6 _ ho e13) mv12_portOf ml12_334 ho rfl rfl rfl rfl d12_chooses_56 ?_
      refine z_aload_n fx (k := 0) (i := 0) rfl rfl d12_chooses_59 ?_
      refine z_getO fx 12 11 6 ho lf12_44 fk12_11 d12_chooses_60 ?_
      refine z_aload_n fx (k := 0) (i := 0) rfl rfl d12_chooses_63 ?_
      refine z_getO fx 12 15 10 ho lf12_56 fk12_15 d12_chooses_64 ?_
      refine z_iload_n fx (k := 3) (i := 3) rfl rfl d12_chooses_67 ?_
      obtain ⟨t10, e14, e10⟩ := zinv e10
      refine z_iald fx (ok12_15 hO ho) e14 d12_chooses_68 ?_
      obtain ⟨t11, e15, e10⟩ := zinv e10
      refine z_iald fx (ok12_11 hO ho) e15 d12_chooses_69 ?_
      refine z_iadd fx d12_chooses_70 ?_
      cases e10
      exact k11
    · replace e10 := zif_t c12 e10
      refine z_iconst fx (v := 0) ic0 d12_chooses_48 ?_
      cases e10
      refine z_goto fx d12_chooses_49 ?_
      exact k11
  refine z_iload_n fx (k := 3) (i := 3) rfl rfl d12_chooses_18 ?_
  refine z_iconst fx (v := (-1)) icm1 d12_chooses_19 ?_
  refine z_icmp_ne fx d12_chooses_20 (fun c6 => ?_) (fun c6 => ?_)
  · replace e4 := zif_f c6 e4
    refine z_aload_n fx (k := 0) (i := 0) rfl rfl d12_chooses_27 ?_
    refine z_iload_n fx (k := 3) (i := 3) rfl rfl d12_chooses_28 ?_
    refine z_bipush fx (v := 11) bp11 d12_chooses_29 ?_
    obtain ⟨t5, e7, e4⟩ := zinv e4
    refine z_cVr fx (c12_portOf (zLo X) (zDo X) Sh top hO o_ t2 11 μ _ ho e7) mv12_portOf ml12_334 ho rfl rfl rfl rfl d12_chooses_31 ?_
    cases e4
    exact k5
  · replace e4 := zif_t c6 e4
    refine z_iload_n fx (k := 2) (i := 2) rfl rfl d12_chooses_23 ?_
    cases e4
    refine z_goto fx d12_chooses_24 ?_
    exact k5
theorem d12_choosesAll_0 : zd cX12_choosesAll 0 (.iconst 0) 1 1 := by decide +kernel
theorem d12_choosesAll_1 : zd cX12_choosesAll 1 (.istore_n 1) 1 2 := by decide +kernel
theorem d12_choosesAll_2 : zd cX12_choosesAll 2 (.iload_n 1) 1 3 := by decide +kernel
theorem d12_choosesAll_3 : zd cX12_choosesAll 3 (.aload_n 0) 1 4 := by decide +kernel
theorem d12_choosesAll_4 : zd cX12_choosesAll 4 (.getfield 13) 3 7 := by decide +kernel
theorem d12_choosesAll_7 : zj cX12_choosesAll 7 (.if_icmp .ge 32) 32 10 39 := by decide +kernel
theorem d12_choosesAll_10 : zd cX12_choosesAll 10 (.aload_n 0) 1 11 := by decide +kernel
theorem d12_choosesAll_11 : zd cX12_choosesAll 11 (.getfield 154) 3 14 := by decide +kernel
theorem d12_choosesAll_14 : zd cX12_choosesAll 14 (.iload_n 1) 1 15 := by decide +kernel
theorem d12_choosesAll_15 : zd cX12_choosesAll 15 (.iaload) 1 16 := by decide +kernel
theorem d12_choosesAll_16 : zd cX12_choosesAll 16 (.iconst 1) 1 17 := by decide +kernel
theorem d12_choosesAll_17 : zj cX12_choosesAll 17 (.if_icmp .ne 16) 16 20 33 := by decide +kernel
theorem d12_choosesAll_20 : zd cX12_choosesAll 20 (.aload_n 0) 1 21 := by decide +kernel
theorem d12_choosesAll_21 : zd cX12_choosesAll 21 (.iload_n 1) 1 22 := by decide +kernel
theorem d12_choosesAll_22 : zd cX12_choosesAll 22 (.invokevirtual 328) 3 25 := by decide +kernel
theorem d12_choosesAll_25 : zj cX12_choosesAll 25 (.ifCond .eq 8) 8 28 33 := by decide +kernel
theorem d12_choosesAll_28 : zd cX12_choosesAll 28 (.aload_n 0) 1 29 := by decide +kernel
theorem d12_choosesAll_29 : zd cX12_choosesAll 29 (.iload_n 1) 1 30 := by decide +kernel
theorem d12_choosesAll_30 : zd cX12_choosesAll 30 (.invokevirtual 375) 3 33 := by decide +kernel
theorem d12_choosesAll_33 : zd cX12_choosesAll 33 (.iinc 1 1) 3 36 := by decide +kernel
theorem d12_choosesAll_36 : zj cX12_choosesAll 36 (.goto (-34)) (-34) 39 2 := by decide +kernel
theorem d12_choosesAll_39 : zd cX12_choosesAll 39 (.return_) 1 40 := by decide +kernel
set_option maxHeartbeats 4000000 in
set_option maxRecDepth 20000 in
theorem c12_choosesAll (l : Launch) (D : zDt) (Sh : zSh) (top : Nat) (hO : zOK Sh) (o_ : Nat) (μ : zM) (μ_ : zM) (ho : (Sh o_).1 = 19) (h : f12_choosesAll o_ μ = some μ_) : zMet l D zK1 yX12_choosesAll cX12_choosesAll 2 none (zrm 7 157) [.ref o_] Sh top μ none Sh top μ_ 0 0 := by
  refine zMet_of (by decide) (Nat.le_of_ble_eq_true rfl) fun X hX1 hX2 fx fin => ?_
  subst hX1; subst hX2
  replace fx : zFix X cX12_choosesAll RX12 (zrm 7 157) 2 := fx
  show zZ zK1 X (zT0 Sh top) μ 0 [(0, .ref o_)] []
  unfold f12_choosesAll at h
  refine z_iconst fx (v := 0) ic0 d12_choosesAll_0 ?_
  refine z_istore_n fx (k := 1) (i := 1) rfl rfl (lv' := [(0, .ref o_), (1, .int 0)]) rfl rfl d12_choosesAll_1 ?_
  obtain ⟨v_b_3, μ4, e18, h⟩ := zinv2 h
  have kx4 : zZ zK1 X (zT0 Sh top) μ4 39 [(0, .ref o_), (1, .int v_b_3)] [] := by
    refine z_take 1 (lv' := [(0, .ref o_)]) rfl ?_
    cases h
    exact z_return fx fin d12_choosesAll_39
  clear h
  have klr3 : ∀ (n : Nat) (v_b_1 : Int32) (μ2 : zM), zloop (fun s => f12_choosesAll_L1 o_ s.1 s.2) n (v_b_1, μ2) = some (v_b_3, μ4) → zZ zK1 X (zT0 Sh top) μ2 2 [(0, .ref o_), (1, .int v_b_1)] [] := by
    intro n
    induction n with
    | zero => intro v_b_1 μ2 hl2; cases hl2
    | succ n ih5 =>
      intro v_b_1 μ2 hl2
      obtain ⟨y, e1, hl2⟩ := zloop_inv hl2
      replace e1 : f12_choosesAll_L1 o_ v_b_1 μ2 = some y := e1
      unfold f12_choosesAll_L1 at e1
      refine z_iload_n fx (k := 1) (i := 1) rfl rfl d12_choosesAll_2 ?_
      refine z_aload_n fx (k := 0) (i := 0) rfl rfl d12_choosesAll_3 ?_
      refine z_getI fx 12 1 1201 ho lf12_13 ⟨fk12_1, rfl⟩ d12_choosesAll_4 ?_
      refine z_icmp_ge fx d12_choosesAll_7 (fun c6 => ?_) (fun c6 => ?_)
      · replace e1 := zif_f c6 e1
        cases e1
        cases hl2
        exact kx4
      · replace e1 := zif_t c6 e1
        obtain ⟨b5, e8, e1⟩ := zinv e1
        have kt7 : b5 = true → zZ zK1 X (zT0 Sh top) μ2 28 [(0, .ref o_), (1, .int v_b_1)] [] := by
          intro hc
          replace e1 := zif_t hc e1
          refine z_aload_n fx (k := 0) (i := 0) rfl rfl d12_choosesAll_28 ?_
          refine z_iload_n fx (k := 1) (i := 1) rfl rfl d12_choosesAll_29 ?_
          obtain ⟨μ6, e9, e1⟩ := zinv e1
          refine z_cVv fx (c12_chooses (zLo X) (zDo X) Sh top hO o_ v_b_1 μ2 _ ho e9) mv12_chooses ml12_375 ho rfl rfl rfl rfl d12_choosesAll_30 ?_
          obtain ⟨v_b_7, e10, e1⟩ := zinv e1
          replace e10 := Option.some.inj e10
          refine z_iinc fx (i := 1) (x := v_b_1) (v := v_b_7) rfl (by rw [in1]; exact e10) rfl (lv' := [(0, .ref o_), (1, .int v_b_7)]) rfl rfl d12_choosesAll_33 ?_
          cases e1
          refine z_goto fx d12_choosesAll_36 ?_
          exact ih5 _ _ hl2
        have kf7 : b5 = false → zZ zK1 X (zT0 Sh top) μ2 33 [(0, .ref o_), (1, .int v_b_1)] [] := by
          intro hc
          replace e1 := zif_f hc e1
          obtain ⟨v_b_8, e11, e1⟩ := zinv e1
          replace e11 := Option.some.inj e11
          refine z_iinc fx (i := 1) (x := v_b_1) (v := v_b_8) rfl (by rw [in1]; exact e11) rfl (lv' := [(0, .ref o_), (1, .int v_b_8)]) rfl rfl d12_choosesAll_33 ?_
          cases e1
          refine z_goto fx d12_choosesAll_36 ?_
          exact ih5 _ _ hl2
        clear e1
        obtain ⟨b9, e12, e8⟩ := zinv e8
        have kt13 : b9 = true → zZ zK1 X (zT0 Sh top) μ2 20 [(0, .ref o_), (1, .int v_b_1)] [] := by
          intro hc
          replace e8 := zif_t hc e8
          refine z_aload_n fx (k := 0) (i := 0) rfl rfl d12_choosesAll_20 ?_
          refine z_iload_n fx (k := 1) (i := 1) rfl rfl d12_choosesAll_21 ?_
          obtain ⟨t10, e14, e8⟩ := zinv e8
          refine z_cVr fx (c12_isOn (zLo X) (zDo X) Sh top hO o_ v_b_1 μ2 _ ho e14) mv12_isOn ml12_328 ho rfl rfl rfl rfl d12_choosesAll_22 ?_
          cases e8
          refine z_ifb_eq fx d12_choosesAll_25 (fun c15 => ?_) (fun c15 => ?_)
          · exact kf7 c15
          · exact kt7 c15
        have kf13 : b9 = false → zZ zK1 X (zT0 Sh top) μ2 33 [(0, .ref o_), (1, .int v_b_1)] [] := by
          intro hc
          replace e8 := zif_f hc e8
          cases e8
          exact kf7 rfl
        clear e8
        refine z_aload_n fx (k := 0) (i := 0) rfl rfl d12_choosesAll_10 ?_
        refine z_getO fx 12 47 26 ho lf12_154 fk12_47 d12_choosesAll_11 ?_
        refine z_iload_n fx (k := 1) (i := 1) rfl rfl d12_choosesAll_14 ?_
        obtain ⟨t11, e16, e12⟩ := zinv e12
        refine z_iald fx (ok12_47 hO ho) e16 d12_choosesAll_15 ?_
        refine z_iconst fx (v := 1) ic1 d12_choosesAll_16 ?_
        cases e12
        refine z_icmp_ne fx d12_choosesAll_17 (fun c17 => ?_) (fun c17 => ?_)
        · exact kf13 c17
        · exact kt13 c17
  exact klr3 _ _ _ e18
theorem d12_allBegin_0 : zd cX12_allBegin 0 (.iconst 0) 1 1 := by decide +kernel
theorem d12_allBegin_1 : zd cX12_allBegin 1 (.istore_n 1) 1 2 := by decide +kernel
theorem d12_allBegin_2 : zd cX12_allBegin 2 (.iload_n 1) 1 3 := by decide +kernel
theorem d12_allBegin_3 : zd cX12_allBegin 3 (.aload_n 0) 1 4 := by decide +kernel
theorem d12_allBegin_4 : zd cX12_allBegin 4 (.getfield 16) 3 7 := by decide +kernel
theorem d12_allBegin_7 : zj cX12_allBegin 7 (.if_icmp .ge 40) 40 10 47 := by decide +kernel
theorem d12_allBegin_10 : zd cX12_allBegin 10 (.aload_n 0) 1 11 := by decide +kernel
theorem d12_allBegin_11 : zd cX12_allBegin 11 (.iload_n 1) 1 12 := by decide +kernel
theorem d12_allBegin_12 : zd cX12_allBegin 12 (.invokevirtual 331) 3 15 := by decide +kernel
theorem d12_allBegin_15 : zj cX12_allBegin 15 (.ifCond .ne 6) 6 18 21 := by decide +kernel
theorem d12_allBegin_18 : zj cX12_allBegin 18 (.goto 23) 23 21 41 := by decide +kernel
theorem d12_allBegin_21 : zd cX12_allBegin 21 (.aload_n 0) 1 22 := by decide +kernel
theorem d12_allBegin_22 : zd cX12_allBegin 22 (.aload_n 0) 1 23 := by decide +kernel
theorem d12_allBegin_23 : zd cX12_allBegin 23 (.iload_n 1) 1 24 := by decide +kernel
theorem d12_allBegin_24 : zd cX12_allBegin 24 (.iconst 0) 1 25 := by decide +kernel
theorem d12_allBegin_25 : zd cX12_allBegin 25 (.invokevirtual 378) 3 28 := by decide +kernel
theorem d12_allBegin_28 : zd cX12_allBegin 28 (.invokevirtual 387) 3 31 := by decide +kernel
theorem d12_allBegin_31 : zd cX12_allBegin 31 (.aload_n 0) 1 32 := by decide +kernel
theorem d12_allBegin_32 : zd cX12_allBegin 32 (.aload_n 0) 1 33 := by decide +kernel
theorem d12_allBegin_33 : zd cX12_allBegin 33 (.iload_n 1) 1 34 := by decide +kernel
theorem d12_allBegin_34 : zd cX12_allBegin 34 (.iconst 1) 1 35 := by decide +kernel
theorem d12_allBegin_35 : zd cX12_allBegin 35 (.invokevirtual 378) 3 38 := by decide +kernel
theorem d12_allBegin_38 : zd cX12_allBegin 38 (.invokevirtual 387) 3 41 := by decide +kernel
theorem d12_allBegin_41 : zd cX12_allBegin 41 (.iinc 1 1) 3 44 := by decide +kernel
theorem d12_allBegin_44 : zj cX12_allBegin 44 (.goto (-42)) (-42) 47 2 := by decide +kernel
theorem d12_allBegin_47 : zd cX12_allBegin 47 (.iconst 0) 1 48 := by decide +kernel
theorem d12_allBegin_48 : zd cX12_allBegin 48 (.istore_n 1) 1 49 := by decide +kernel
theorem d12_allBegin_49 : zd cX12_allBegin 49 (.iload_n 1) 1 50 := by decide +kernel
theorem d12_allBegin_50 : zd cX12_allBegin 50 (.aload_n 0) 1 51 := by decide +kernel
theorem d12_allBegin_51 : zd cX12_allBegin 51 (.getfield 13) 3 54 := by decide +kernel
theorem d12_allBegin_54 : zj cX12_allBegin 54 (.if_icmp .ge 16) 16 57 70 := by decide +kernel
theorem d12_allBegin_57 : zd cX12_allBegin 57 (.aload_n 0) 1 58 := by decide +kernel
theorem d12_allBegin_58 : zd cX12_allBegin 58 (.getfield 154) 3 61 := by decide +kernel
theorem d12_allBegin_61 : zd cX12_allBegin 61 (.iload_n 1) 1 62 := by decide +kernel
theorem d12_allBegin_62 : zd cX12_allBegin 62 (.iconst 1) 1 63 := by decide +kernel
theorem d12_allBegin_63 : zd cX12_allBegin 63 (.iastore) 1 64 := by decide +kernel
theorem d12_allBegin_64 : zd cX12_allBegin 64 (.iinc 1 1) 3 67 := by decide +kernel
theorem d12_allBegin_67 : zj cX12_allBegin 67 (.goto (-18)) (-18) 70 49 := by decide +kernel
theorem d12_allBegin_70 : zd cX12_allBegin 70 (.aload_n 0) 1 71 := by decide +kernel
theorem d12_allBegin_71 : zd cX12_allBegin 71 (.invokevirtual 390) 3 74 := by decide +kernel
theorem d12_allBegin_74 : zd cX12_allBegin 74 (.aload_n 0) 1 75 := by decide +kernel
theorem d12_allBegin_75 : zd cX12_allBegin 75 (.iconst 3) 1 76 := by decide +kernel
theorem d12_allBegin_76 : zd cX12_allBegin 76 (.iconst 0) 1 77 := by decide +kernel
theorem d12_allBegin_77 : zd cX12_allBegin 77 (.invokevirtual 310) 3 80 := by decide +kernel
theorem d12_allBegin_80 : zd cX12_allBegin 80 (.aload_n 0) 1 81 := by decide +kernel
theorem d12_allBegin_81 : zd cX12_allBegin 81 (.iconst 1) 1 82 := by decide +kernel
theorem d12_allBegin_82 : zd cX12_allBegin 82 (.iconst 0) 1 83 := by decide +kernel
theorem d12_allBegin_83 : zd cX12_allBegin 83 (.invokevirtual 310) 3 86 := by decide +kernel
theorem d12_allBegin_86 : zd cX12_allBegin 86 (.return_) 1 87 := by decide +kernel
set_option maxHeartbeats 4000000 in
set_option maxRecDepth 20000 in
theorem c12_allBegin (l : Launch) (D : zDt) (Sh : zSh) (top : Nat) (hO : zOK Sh) (o_ : Nat) (μ : zM) (μ_ : zM) (ho : (Sh o_).1 = 19) (h : f12_allBegin o_ μ = some μ_) : zMet l D zK1 yX12_allBegin cX12_allBegin 2 none (zrm 8 178) [.ref o_] Sh top μ none Sh top μ_ 0 0 := by
  refine zMet_of (by decide) (Nat.le_of_ble_eq_true rfl) fun X hX1 hX2 fx fin => ?_
  subst hX1; subst hX2
  replace fx : zFix X cX12_allBegin RX12 (zrm 8 178) 2 := fx
  show zZ zK1 X (zT0 Sh top) μ 0 [(0, .ref o_)] []
  unfold f12_allBegin at h
  refine z_iconst fx (v := 0) ic0 d12_allBegin_0 ?_
  refine z_istore_n fx (k := 1) (i := 1) rfl rfl (lv' := [(0, .ref o_), (1, .int 0)]) rfl rfl d12_allBegin_1 ?_
  obtain ⟨v_l_3, μ4, e27, h⟩ := zinv2 h
  have kx4 : zZ zK1 X (zT0 Sh top) μ4 47 [(0, .ref o_), (1, .int v_l_3)] [] := by
    refine z_take 1 (lv' := [(0, .ref o_)]) rfl ?_
    refine z_iconst fx (v := 0) ic0 d12_allBegin_47 ?_
    refine z_istore_n fx (k := 1) (i := 1) rfl rfl (lv' := [(0, .ref o_), (1, .int 0)]) rfl rfl d12_allBegin_48 ?_
    obtain ⟨v_b_14, μ15, e26, h⟩ := zinv2 h
    have kx18 : zZ zK1 X (zT0 Sh top) μ15 70 [(0, .ref o_), (1, .int v_b_14)] [] := by
      refine z_take 1 (lv' := [(0, .ref o_)]) rfl ?_
      refine z_aload_n fx (k := 0) (i := 0) rfl rfl d12_allBegin_70 ?_
      obtain ⟨μ18, e23, h⟩ := zinv h
      refine z_cVv fx (c12_choosesAll (zLo X) (zDo X) Sh top hO o_ μ15 _ ho e23) mv12_choosesAll ml12_390 ho rfl rfl rfl rfl d12_allBegin_71 ?_
      refine z_aload_n fx (k := 0) (i := 0) rfl rfl d12_allBegin_74 ?_
      refine z_iconst fx (v := 3) ic3 d12_allBegin_75 ?_
      refine z_iconst fx (v := 0) ic0 d12_allBegin_76 ?_
      obtain ⟨μ19, e24, h⟩ := zinv h
      refine z_cVv fx (c12_puts (zLo X) (zDo X) Sh top hO o_ 3 0 μ18 _ ho e24) mv12_puts ml12_310 ho rfl rfl rfl rfl d12_allBegin_77 ?_
      refine z_aload_n fx (k := 0) (i := 0) rfl rfl d12_allBegin_80 ?_
      refine z_iconst fx (v := 1) ic1 d12_allBegin_81 ?_
      refine z_iconst fx (v := 0) ic0 d12_allBegin_82 ?_
      obtain ⟨μ20, e25, h⟩ := zinv h
      refine z_cVv fx (c12_puts (zLo X) (zDo X) Sh top hO o_ 1 0 μ19 _ ho e25) mv12_puts ml12_310 ho rfl rfl rfl rfl d12_allBegin_83 ?_
      cases h
      exact z_return fx fin d12_allBegin_86
    clear h
    have klr17 : ∀ (n : Nat) (v_b_12 : Int32) (μ13 : zM), zloop (fun s => f12_allBegin_L2 o_ s.1 s.2) n (v_b_12, μ13) = some (v_b_14, μ15) → zZ zK1 X (zT0 Sh top) μ13 49 [(0, .ref o_), (1, .int v_b_12)] [] := by
      intro n
      induction n with
      | zero => intro v_b_12 μ13 hl16; cases hl16
      | succ n ih19 =>
        intro v_b_12 μ13 hl16
        obtain ⟨y, e15, hl16⟩ := zloop_inv hl16
        replace e15 : f12_allBegin_L2 o_ v_b_12 μ13 = some y := e15
        unfold f12_allBegin_L2 at e15
        refine z_iload_n fx (k := 1) (i := 1) rfl rfl d12_allBegin_49 ?_
        refine z_aload_n fx (k := 0) (i := 0) rfl rfl d12_allBegin_50 ?_
        refine z_getI fx 12 1 1201 ho lf12_13 ⟨fk12_1, rfl⟩ d12_allBegin_51 ?_
        refine z_icmp_ge fx d12_allBegin_54 (fun c20 => ?_) (fun c20 => ?_)
        · replace e15 := zif_f c20 e15
          cases e15
          cases hl16
          exact kx18
        · replace e15 := zif_t c20 e15
          refine z_aload_n fx (k := 0) (i := 0) rfl rfl d12_allBegin_57 ?_
          refine z_getO fx 12 47 26 ho lf12_154 fk12_47 d12_allBegin_58 ?_
          refine z_iload_n fx (k := 1) (i := 1) rfl rfl d12_allBegin_61 ?_
          refine z_iconst fx (v := 1) ic1 d12_allBegin_62 ?_
          obtain ⟨μ16, e21, e15⟩ := zinv e15
          refine z_iast fx (ok12_47 hO ho) e21 d12_allBegin_63 ?_
          obtain ⟨v_b_17, e22, e15⟩ := zinv e15
          replace e22 := Option.some.inj e22
          refine z_iinc fx (i := 1) (x := v_b_12) (v := v_b_17) rfl (by rw [in1]; exact e22) rfl (lv' := [(0, .ref o_), (1, .int v_b_17)]) rfl rfl d12_allBegin_64 ?_
          cases e15
          refine z_goto fx d12_allBegin_67 ?_
          exact ih19 _ _ hl16
    exact klr17 _ _ _ e26
  clear h
  have klr3 : ∀ (n : Nat) (v_l_1 : Int32) (μ2 : zM), zloop (fun s => f12_allBegin_L1 o_ s.1 s.2) n (v_l_1, μ2) = some (v_l_3, μ4) → zZ zK1 X (zT0 Sh top) μ2 2 [(0, .ref o_), (1, .int v_l_1)] [] := by
    intro n
    induction n with
    | zero => intro v_l_1 μ2 hl2; cases hl2
    | succ n ih5 =>
      intro v_l_1 μ2 hl2
      obtain ⟨y, e1, hl2⟩ := zloop_inv hl2
      replace e1 : f12_allBegin_L1 o_ v_l_1 μ2 = some y := e1
      unfold f12_allBegin_L1 at e1
      refine z_iload_n fx (k := 1) (i := 1) rfl rfl d12_allBegin_2 ?_
      refine z_aload_n fx (k := 0) (i := 0) rfl rfl d12_allBegin_3 ?_
      refine z_getI fx 12 2 1202 ho lf12_16 ⟨fk12_2, rfl⟩ d12_allBegin_4 ?_
      refine z_icmp_ge fx d12_allBegin_7 (fun c6 => ?_) (fun c6 => ?_)
      · replace e1 := zif_f c6 e1
        cases e1
        cases hl2
        exact kx4
      · replace e1 := zif_t c6 e1
        refine z_aload_n fx (k := 0) (i := 0) rfl rfl d12_allBegin_10 ?_
        refine z_iload_n fx (k := 1) (i := 1) rfl rfl d12_allBegin_11 ?_
        obtain ⟨t5, e7, e1⟩ := zinv e1
        refine z_cVr fx (c12_isUpLink (zLo X) (zDo X) Sh top hO o_ v_l_1 μ2 _ ho e7) mv12_isUpLink ml12_331 ho rfl rfl rfl rfl d12_allBegin_12 ?_
        refine z_ifb_ne fx d12_allBegin_15 (fun c8 => ?_) (fun c8 => ?_)
        · replace e1 := zif_t c8 e1
          refine z_aload_n fx (k := 0) (i := 0) rfl rfl d12_allBegin_21 ?_
          refine z_aload_n fx (k := 0) (i := 0) rfl rfl d12_allBegin_22 ?_
          refine z_iload_n fx (k := 1) (i := 1) rfl rfl d12_allBegin_23 ?_
          refine z_iconst fx (v := 0) ic0 d12_allBegin_24 ?_
          obtain ⟨t6, e9, e1⟩ := zinv e1
          refine z_cVr fx (c12_portOfEnd (zLo X) (zDo X) Sh top hO o_ v_l_1 0 μ2 _ ho e9) mv12_portOfEnd ml12_378 ho rfl rfl rfl rfl d12_allBegin_25 ?_
          obtain ⟨μ7, e10, e1⟩ := zinv e1
          refine z_cVv fx (c12_comesUp (zLo X) (zDo X) Sh top hO o_ t6 μ2 _ ho e10) mv12_comesUp ml12_387 ho rfl rfl rfl rfl d12_allBegin_28 ?_
          refine z_aload_n fx (k := 0) (i := 0) rfl rfl d12_allBegin_31 ?_
          refine z_aload_n fx (k := 0) (i := 0) rfl rfl d12_allBegin_32 ?_
          refine z_iload_n fx (k := 1) (i := 1) rfl rfl d12_allBegin_33 ?_
          refine z_iconst fx (v := 1) ic1 d12_allBegin_34 ?_
          obtain ⟨t8, e11, e1⟩ := zinv e1
          refine z_cVr fx (c12_portOfEnd (zLo X) (zDo X) Sh top hO o_ v_l_1 1 μ7 _ ho e11) mv12_portOfEnd ml12_378 ho rfl rfl rfl rfl d12_allBegin_35 ?_
          obtain ⟨μ9, e12, e1⟩ := zinv e1
          refine z_cVv fx (c12_comesUp (zLo X) (zDo X) Sh top hO o_ t8 μ7 _ ho e12) mv12_comesUp ml12_387 ho rfl rfl rfl rfl d12_allBegin_38 ?_
          obtain ⟨v_l_10, e13, e1⟩ := zinv e1
          replace e13 := Option.some.inj e13
          refine z_iinc fx (i := 1) (x := v_l_1) (v := v_l_10) rfl (by rw [in1]; exact e13) rfl (lv' := [(0, .ref o_), (1, .int v_l_10)]) rfl rfl d12_allBegin_41 ?_
          cases e1
          refine z_goto fx d12_allBegin_44 ?_
          exact ih5 _ _ hl2
        · replace e1 := zif_f c8 e1
          refine z_goto fx d12_allBegin_18 ?_
          obtain ⟨v_l_11, e14, e1⟩ := zinv e1
          replace e14 := Option.some.inj e14
          refine z_iinc fx (i := 1) (x := v_l_1) (v := v_l_11) rfl (by rw [in1]; exact e14) rfl (lv' := [(0, .ref o_), (1, .int v_l_11)]) rfl rfl d12_allBegin_41 ?_
          cases e1
          refine z_goto fx d12_allBegin_44 ?_
          exact ih5 _ _ hl2
  exact klr3 _ _ _ e27
theorem d12_net_0 : zd cX12_net 0 (.aload_n 0) 1 1 := by decide +kernel
theorem d12_net_1 : zd cX12_net 1 (.aload_n 0) 1 2 := by decide +kernel
theorem d12_net_2 : zd cX12_net 2 (.invokevirtual 295) 3 5 := by decide +kernel
theorem d12_net_5 : zd cX12_net 5 (.putfield 119) 3 8 := by decide +kernel
theorem d12_net_8 : zd cX12_net 8 (.aload_n 0) 1 9 := by decide +kernel
theorem d12_net_9 : zd cX12_net 9 (.iconst 0) 1 10 := by decide +kernel
theorem d12_net_10 : zd cX12_net 10 (.putfield 122) 3 13 := by decide +kernel
theorem d12_net_13 : zd cX12_net 13 (.aload_n 0) 1 14 := by decide +kernel
theorem d12_net_14 : zd cX12_net 14 (.iconst 0) 1 15 := by decide +kernel
theorem d12_net_15 : zd cX12_net 15 (.putfield 128) 3 18 := by decide +kernel
theorem d12_net_18 : zd cX12_net 18 (.aload_n 0) 1 19 := by decide +kernel
theorem d12_net_19 : zd cX12_net 19 (.iconst (-1)) 1 20 := by decide +kernel
theorem d12_net_20 : zd cX12_net 20 (.putfield 131) 3 23 := by decide +kernel
theorem d12_net_23 : zd cX12_net 23 (.aload_n 0) 1 24 := by decide +kernel
theorem d12_net_24 : zd cX12_net 24 (.invokevirtual 298) 3 27 := by decide +kernel
theorem d12_net_27 : zd cX12_net 27 (.istore_n 1) 1 28 := by decide +kernel
theorem d12_net_28 : zd cX12_net 28 (.aload_n 0) 1 29 := by decide +kernel
theorem d12_net_29 : zd cX12_net 29 (.aload_n 0) 1 30 := by decide +kernel
theorem d12_net_30 : zd cX12_net 30 (.getfield 128) 3 33 := by decide +kernel
theorem d12_net_33 : zd cX12_net 33 (.putfield 113) 3 36 := by decide +kernel
theorem d12_net_36 : zd cX12_net 36 (.aload_n 0) 1 37 := by decide +kernel
theorem d12_net_37 : zd cX12_net 37 (.aload_n 0) 1 38 := by decide +kernel
theorem d12_net_38 : zd cX12_net 38 (.getfield 131) 3 41 := by decide +kernel
theorem d12_net_41 : zd cX12_net 41 (.putfield 116) 3 44 := by decide +kernel
theorem d12_net_44 : zd cX12_net 44 (.aload_n 0) 1 45 := by decide +kernel
theorem d12_net_45 : zd cX12_net 45 (.getfield 128) 3 48 := by decide +kernel
theorem d12_net_48 : zj cX12_net 48 (.ifCond .eq 9) 9 51 57 := by decide +kernel
theorem d12_net_51 : zd cX12_net 51 (.aload_n 0) 1 52 := by decide +kernel
theorem d12_net_52 : zd cX12_net 52 (.iconst 1) 1 53 := by decide +kernel
theorem d12_net_53 : zd cX12_net 53 (.invokevirtual 214) 3 56 := by decide +kernel
theorem d12_net_56 : zd cX12_net 56 (.ireturn) 1 57 := by decide +kernel
theorem d12_net_57 : zd cX12_net 57 (.aload_n 0) 1 58 := by decide +kernel
theorem d12_net_58 : zd cX12_net 58 (.invokevirtual 301) 3 61 := by decide +kernel
theorem d12_net_61 : zd cX12_net 61 (.aload_n 0) 1 62 := by decide +kernel
theorem d12_net_62 : zd cX12_net 62 (.iload_n 1) 1 63 := by decide +kernel
theorem d12_net_63 : zd cX12_net 63 (.putfield 9) 3 66 := by decide +kernel
theorem d12_net_66 : zd cX12_net 66 (.aload_n 0) 1 67 := by decide +kernel
theorem d12_net_67 : zd cX12_net 67 (.iconst 1) 1 68 := by decide +kernel
theorem d12_net_68 : zd cX12_net 68 (.putfield 150) 3 71 := by decide +kernel
theorem d12_net_71 : zd cX12_net 71 (.aload_n 0) 1 72 := by decide +kernel
theorem d12_net_72 : zd cX12_net 72 (.iconst 0) 1 73 := by decide +kernel
theorem d12_net_73 : zd cX12_net 73 (.putfield 144) 3 76 := by decide +kernel
theorem d12_net_76 : zd cX12_net 76 (.aload_n 0) 1 77 := by decide +kernel
theorem d12_net_77 : zd cX12_net 77 (.invokevirtual 304) 3 80 := by decide +kernel
theorem d12_net_80 : zd cX12_net 80 (.iconst 0) 1 81 := by decide +kernel
theorem d12_net_81 : zd cX12_net 81 (.istore_n 2) 1 82 := by decide +kernel
theorem d12_net_82 : zd cX12_net 82 (.iload_n 2) 1 83 := by decide +kernel
theorem d12_net_83 : zd cX12_net 83 (.aload_n 0) 1 84 := by decide +kernel
theorem d12_net_84 : zd cX12_net 84 (.getfield 13) 3 87 := by decide +kernel
theorem d12_net_87 : zj cX12_net 87 (.if_icmp .ge 49) 49 90 136 := by decide +kernel
theorem d12_net_90 : zd cX12_net 90 (.aload_n 0) 1 91 := by decide +kernel
theorem d12_net_91 : zd cX12_net 91 (.iload_n 2) 1 92 := by decide +kernel
theorem d12_net_92 : zd cX12_net 92 (.iconst 0) 1 93 := by decide +kernel
theorem d12_net_93 : zd cX12_net 93 (.invokestatic 307) 3 96 := by decide +kernel
theorem d12_net_96 : zd cX12_net 96 (.iconst 1) 1 97 := by decide +kernel
theorem d12_net_97 : zd cX12_net 97 (.invokevirtual 310) 3 100 := by decide +kernel
theorem d12_net_100 : zd cX12_net 100 (.aload_n 0) 1 101 := by decide +kernel
theorem d12_net_101 : zd cX12_net 101 (.iload_n 2) 1 102 := by decide +kernel
theorem d12_net_102 : zd cX12_net 102 (.iconst 1) 1 103 := by decide +kernel
theorem d12_net_103 : zd cX12_net 103 (.invokestatic 307) 3 106 := by decide +kernel
theorem d12_net_106 : zd cX12_net 106 (.aload_n 0) 1 107 := by decide +kernel
theorem d12_net_107 : zd cX12_net 107 (.getfield 28) 3 110 := by decide +kernel
theorem d12_net_110 : zd cX12_net 110 (.iload_n 2) 1 111 := by decide +kernel
theorem d12_net_111 : zd cX12_net 111 (.iaload) 1 112 := by decide +kernel
theorem d12_net_112 : zd cX12_net 112 (.invokevirtual 310) 3 115 := by decide +kernel
theorem d12_net_115 : zd cX12_net 115 (.aload_n 0) 1 116 := by decide +kernel
theorem d12_net_116 : zd cX12_net 116 (.iload_n 2) 1 117 := by decide +kernel
theorem d12_net_117 : zd cX12_net 117 (.iconst 2) 1 118 := by decide +kernel
theorem d12_net_118 : zd cX12_net 118 (.invokestatic 307) 3 121 := by decide +kernel
theorem d12_net_121 : zd cX12_net 121 (.aload_n 0) 1 122 := by decide +kernel
theorem d12_net_122 : zd cX12_net 122 (.getfield 32) 3 125 := by decide +kernel
theorem d12_net_125 : zd cX12_net 125 (.iload_n 2) 1 126 := by decide +kernel
theorem d12_net_126 : zd cX12_net 126 (.iaload) 1 127 := by decide +kernel
theorem d12_net_127 : zd cX12_net 127 (.invokevirtual 310) 3 130 := by decide +kernel
theorem d12_net_130 : zd cX12_net 130 (.iinc 2 1) 3 133 := by decide +kernel
theorem d12_net_133 : zj cX12_net 133 (.goto (-51)) (-51) 136 82 := by decide +kernel
theorem d12_net_136 : zd cX12_net 136 (.iconst 0) 1 137 := by decide +kernel
theorem d12_net_137 : zd cX12_net 137 (.istore_n 2) 1 138 := by decide +kernel
theorem d12_net_138 : zd cX12_net 138 (.iload_n 2) 1 139 := by decide +kernel
theorem d12_net_139 : zd cX12_net 139 (.aload_n 0) 1 140 := by decide +kernel
theorem d12_net_140 : zd cX12_net 140 (.getfield 16) 3 143 := by decide +kernel
theorem d12_net_143 : zj cX12_net 143 (.if_icmp .ge 19) 19 146 162 := by decide +kernel
theorem d12_net_146 : zd cX12_net 146 (.aload_n 0) 1 147 := by decide +kernel
theorem d12_net_147 : zd cX12_net 147 (.sipush 964) 3 150 := by decide +kernel
theorem d12_net_150 : zd cX12_net 150 (.iload_n 2) 1 151 := by decide +kernel
theorem d12_net_151 : zd cX12_net 151 (.iadd) 1 152 := by decide +kernel
theorem d12_net_152 : zd cX12_net 152 (.iconst 1) 1 153 := by decide +kernel
theorem d12_net_153 : zd cX12_net 153 (.invokevirtual 310) 3 156 := by decide +kernel
theorem d12_net_156 : zd cX12_net 156 (.iinc 2 1) 3 159 := by decide +kernel
theorem d12_net_159 : zj cX12_net 159 (.goto (-21)) (-21) 162 138 := by decide +kernel
theorem d12_net_162 : zd cX12_net 162 (.iconst 0) 1 163 := by decide +kernel
theorem d12_net_163 : zd cX12_net 163 (.istore_n 2) 1 164 := by decide +kernel
theorem d12_net_164 : zd cX12_net 164 (.iload_n 2) 1 165 := by decide +kernel
theorem d12_net_165 : zd cX12_net 165 (.aload_n 0) 1 166 := by decide +kernel
theorem d12_net_166 : zd cX12_net 166 (.getfield 19) 3 169 := by decide +kernel
theorem d12_net_169 : zj cX12_net 169 (.if_icmp .ge 24) 24 172 193 := by decide +kernel
theorem d12_net_172 : zd cX12_net 172 (.aload_n 0) 1 173 := by decide +kernel
theorem d12_net_173 : zd cX12_net 173 (.sipush 978) 3 176 := by decide +kernel
theorem d12_net_176 : zd cX12_net 176 (.iload_n 2) 1 177 := by decide +kernel
theorem d12_net_177 : zd cX12_net 177 (.iadd) 1 178 := by decide +kernel
theorem d12_net_178 : zd cX12_net 178 (.aload_n 0) 1 179 := by decide +kernel
theorem d12_net_179 : zd cX12_net 179 (.getfield 50) 3 182 := by decide +kernel
theorem d12_net_182 : zd cX12_net 182 (.iload_n 2) 1 183 := by decide +kernel
theorem d12_net_183 : zd cX12_net 183 (.iaload) 1 184 := by decide +kernel
theorem d12_net_184 : zd cX12_net 184 (.invokevirtual 310) 3 187 := by decide +kernel
theorem d12_net_187 : zd cX12_net 187 (.iinc 2 1) 3 190 := by decide +kernel
theorem d12_net_190 : zj cX12_net 190 (.goto (-26)) (-26) 193 164 := by decide +kernel
theorem d12_net_193 : zd cX12_net 193 (.aload_n 0) 1 194 := by decide +kernel
theorem d12_net_194 : zd cX12_net 194 (.invokevirtual 313) 3 197 := by decide +kernel
theorem d12_net_197 : zd cX12_net 197 (.aload_n 0) 1 198 := by decide +kernel
theorem d12_net_198 : zd cX12_net 198 (.iconst 0) 1 199 := by decide +kernel
theorem d12_net_199 : zd cX12_net 199 (.putfield 147) 3 202 := by decide +kernel
theorem d12_net_202 : zd cX12_net 202 (.aload_n 0) 1 203 := by decide +kernel
theorem d12_net_203 : zd cX12_net 203 (.iconst 0) 1 204 := by decide +kernel
theorem d12_net_204 : zd cX12_net 204 (.putfield 169) 3 207 := by decide +kernel
theorem d12_net_207 : zd cX12_net 207 (.aload_n 0) 1 208 := by decide +kernel
theorem d12_net_208 : zd cX12_net 208 (.iconst 0) 1 209 := by decide +kernel
theorem d12_net_209 : zd cX12_net 209 (.putfield 172) 3 212 := by decide +kernel
theorem d12_net_212 : zd cX12_net 212 (.aload_n 0) 1 213 := by decide +kernel
theorem d12_net_213 : zd cX12_net 213 (.iconst 0) 1 214 := by decide +kernel
theorem d12_net_214 : zd cX12_net 214 (.putfield 193) 3 217 := by decide +kernel
theorem d12_net_217 : zd cX12_net 217 (.iload_n 1) 1 218 := by decide +kernel
theorem d12_net_218 : zd cX12_net 218 (.ireturn) 1 219 := by decide +kernel
set_option maxHeartbeats 4000000 in
set_option maxRecDepth 20000 in
theorem c12_net (l : Launch) (D : zDt) (Sh : zSh) (top : Nat) (hO : zOK Sh) (o_ : Nat) (μ : zM) (r_ : Int32) (μ_ : zM) (ho : (Sh o_).1 = 19) (h : f12_net o_ μ = some (r_, μ_)) : zMet l D zK1 yX12_net cX12_net 3 (some .int) (zrm 9 199) [.ref o_] Sh top μ (some (.int r_)) Sh top μ_ 0 0 := by
  refine zMet_of (by decide) (Nat.le_of_ble_eq_true rfl) fun X hX1 hX2 fx fin => ?_
  subst hX1; subst hX2
  replace fx : zFix X cX12_net RX12 (zrm 9 199) 3 := fx
  show zZ zK1 X (zT0 Sh top) μ 0 [(0, .ref o_)] []
  unfold f12_net at h
  refine z_aload_n fx (k := 0) (i := 0) rfl rfl d12_net_0 ?_
  refine z_aload_n fx (k := 0) (i := 0) rfl rfl d12_net_1 ?_
  obtain ⟨t1, μ2, e1, h⟩ := zinv2 h
  refine z_cVr fx (c12_taken (zLo X) (zDo X) Sh top hO o_ μ _ _ ho e1) mv12_taken ml12_295 ho rfl rfl rfl rfl d12_net_2 ?_
  obtain ⟨μ3, e2, h⟩ := zinv h
  refine z_putI fx (ci := 12) 36 ho lf12_119 fp12_36 e2 d12_net_5 ?_
  refine z_aload_n fx (k := 0) (i := 0) rfl rfl d12_net_8 ?_
  refine z_iconst fx (v := 0) ic0 d12_net_9 ?_
  obtain ⟨μ4, e3, h⟩ := zinv h
  refine z_putI fx (ci := 12) 37 ho lf12_122 fp12_37 e3 d12_net_10 ?_
  refine z_aload_n fx (k := 0) (i := 0) rfl rfl d12_net_13 ?_
  refine z_iconst fx (v := 0) ic0 d12_net_14 ?_
  obtain ⟨μ5, e4, h⟩ := zinv h
  refine z_putI fx (ci := 12) 39 ho lf12_128 fp12_39 e4 d12_net_15 ?_
  refine z_aload_n fx (k := 0) (i := 0) rfl rfl d12_net_18 ?_
  refine z_iconst fx (v := (-1)) icm1 d12_net_19 ?_
  obtain ⟨μ6, e5, h⟩ := zinv h
  refine z_putI fx (ci := 12) 40 ho lf12_131 fp12_40 e5 d12_net_20 ?_
  refine z_aload_n fx (k := 0) (i := 0) rfl rfl d12_net_23 ?_
  obtain ⟨t7, μ8, e6, h⟩ := zinv2 h
  refine z_cVr fx (c12_readsAll (zLo X) (zDo X) Sh top hO o_ μ6 _ _ ho e6) mv12_readsAll ml12_298 ho rfl rfl rfl rfl d12_net_24 ?_
  refine z_istore_n fx (k := 1) (i := 1) rfl rfl (lv' := [(0, .ref o_), (1, .int t7)]) rfl rfl d12_net_27 ?_
  refine z_aload_n fx (k := 0) (i := 0) rfl rfl d12_net_28 ?_
  refine z_aload_n fx (k := 0) (i := 0) rfl rfl d12_net_29 ?_
  refine z_getI fx 12 39 1239 ho lf12_128 ⟨fk12_39, rfl⟩ d12_net_30 ?_
  obtain ⟨μ9, e7, h⟩ := zinv h
  refine z_putI fx (ci := 12) 34 ho lf12_113 fp12_34 e7 d12_net_33 ?_
  refine z_aload_n fx (k := 0) (i := 0) rfl rfl d12_net_36 ?_
  refine z_aload_n fx (k := 0) (i := 0) rfl rfl d12_net_37 ?_
  refine z_getI fx 12 40 1240 ho lf12_131 ⟨fk12_40, rfl⟩ d12_net_38 ?_
  obtain ⟨μ10, e8, h⟩ := zinv h
  refine z_putI fx (ci := 12) 35 ho lf12_116 fp12_35 e8 d12_net_41 ?_
  refine z_aload_n fx (k := 0) (i := 0) rfl rfl d12_net_44 ?_
  refine z_getI fx 12 39 1239 ho lf12_128 ⟨fk12_39, rfl⟩ d12_net_45 ?_
  refine z_if_eq fx d12_net_48 (fun c9 => ?_) (fun c9 => ?_)
  · replace h := zif_t c9 h
    refine z_aload_n fx (k := 0) (i := 0) rfl rfl d12_net_57 ?_
    obtain ⟨μ11, e10, h⟩ := zinv h
    refine z_cVv fx (c12_tellsAll (zLo X) (zDo X) Sh top hO o_ μ10 _ ho e10) mv12_tellsAll ml12_301 ho rfl rfl rfl rfl d12_net_58 ?_
    refine z_aload_n fx (k := 0) (i := 0) rfl rfl d12_net_61 ?_
    refine z_iload_n fx (k := 1) (i := 1) rfl rfl d12_net_62 ?_
    obtain ⟨μ12, e11, h⟩ := zinv h
    refine z_putI fx (ci := 12) 0 ho lf12_9 fp12_0 e11 d12_net_63 ?_
    refine z_aload_n fx (k := 0) (i := 0) rfl rfl d12_net_66 ?_
    refine z_iconst fx (v := 1) ic1 d12_net_67 ?_
    refine z_top (show Value.int 1 = .int (bI true) from rfl) ?_
    obtain ⟨μ13, e12, h⟩ := zinv h
    refine z_putB fx (ci := 12) 46 ho lf12_150 fp12_46 e12 d12_net_68 ?_
    refine z_aload_n fx (k := 0) (i := 0) rfl rfl d12_net_71 ?_
    refine z_iconst fx (v := 0) ic0 d12_net_72 ?_
    obtain ⟨μ14, e13, h⟩ := zinv h
    refine z_putI fx (ci := 12) 44 ho lf12_144 fp12_44 e13 d12_net_73 ?_
    refine z_aload_n fx (k := 0) (i := 0) rfl rfl d12_net_76 ?_
    obtain ⟨μ15, e14, h⟩ := zinv h
    refine z_cVv fx (c12_clears (zLo X) (zDo X) Sh top hO o_ μ14 _ ho e14) mv12_clears ml12_304 ho rfl rfl rfl rfl d12_net_77 ?_
    refine z_iconst fx (v := 0) ic0 d12_net_80 ?_
    refine z_istore_n fx (k := 2) (i := 2) rfl rfl (lv' := [(0, .ref o_), (1, .int t7), (2, .int 0)]) rfl rfl d12_net_81 ?_
    obtain ⟨v_b_18, μ19, e54, h⟩ := zinv2 h
    have kx18 : zZ zK1 X (zT0 Sh top) μ19 136 [(0, .ref o_), (1, .int t7), (2, .int v_b_18)] [] := by
      refine z_take 2 (lv' := [(0, .ref o_), (1, .int t7)]) rfl ?_
      refine z_iconst fx (v := 0) ic0 d12_net_136 ?_
      refine z_istore_n fx (k := 2) (i := 2) rfl rfl (lv' := [(0, .ref o_), (1, .int t7), (2, .int 0)]) rfl rfl d12_net_137 ?_
      obtain ⟨v_l_31, μ32, e53, h⟩ := zinv2 h
      have kx33 : zZ zK1 X (zT0 Sh top) μ32 162 [(0, .ref o_), (1, .int t7), (2, .int v_l_31)] [] := by
        refine z_take 2 (lv' := [(0, .ref o_), (1, .int t7)]) rfl ?_
        refine z_iconst fx (v := 0) ic0 d12_net_162 ?_
        refine z_istore_n fx (k := 2) (i := 2) rfl rfl (lv' := [(0, .ref o_), (1, .int t7), (2, .int 0)]) rfl rfl d12_net_163 ?_
        obtain ⟨v_h_37, μ38, e52, h⟩ := zinv2 h
        have kx41 : zZ zK1 X (zT0 Sh top) μ38 193 [(0, .ref o_), (1, .int t7), (2, .int v_h_37)] [] := by
          refine z_take 2 (lv' := [(0, .ref o_), (1, .int t7)]) rfl ?_
          refine z_aload_n fx (k := 0) (i := 0) rfl rfl d12_net_193 ?_
          obtain ⟨μ42, e47, h⟩ := zinv h
          refine z_cVv fx (c12_allBegin (zLo X) (zDo X) Sh top hO o_ μ38 _ ho e47) mv12_allBegin ml12_313 ho rfl rfl rfl rfl d12_net_194 ?_
          refine z_aload_n fx (k := 0) (i := 0) rfl rfl d12_net_197 ?_
          refine z_iconst fx (v := 0) ic0 d12_net_198 ?_
          obtain ⟨μ43, e48, h⟩ := zinv h
          refine z_putI fx (ci := 12) 45 ho lf12_147 fp12_45 e48 d12_net_199 ?_
          refine z_aload_n fx (k := 0) (i := 0) rfl rfl d12_net_202 ?_
          refine z_iconst fx (v := 0) ic0 d12_net_203 ?_
          obtain ⟨μ44, e49, h⟩ := zinv h
          refine z_putI fx (ci := 12) 52 ho lf12_169 fp12_52 e49 d12_net_204 ?_
          refine z_aload_n fx (k := 0) (i := 0) rfl rfl d12_net_207 ?_
          refine z_iconst fx (v := 0) ic0 d12_net_208 ?_
          obtain ⟨μ45, e50, h⟩ := zinv h
          refine z_putI fx (ci := 12) 53 ho lf12_172 fp12_53 e50 d12_net_209 ?_
          refine z_aload_n fx (k := 0) (i := 0) rfl rfl d12_net_212 ?_
          refine z_iconst fx (v := 0) ic0 d12_net_213 ?_
          refine z_top (show Value.int 0 = .int (bI false) from rfl) ?_
          obtain ⟨μ46, e51, h⟩ := zinv h
          refine z_putB fx (ci := 12) 60 ho lf12_193 fp12_60 e51 d12_net_214 ?_
          refine z_iload_n fx (k := 1) (i := 1) rfl rfl d12_net_217 ?_
          cases h
          exact z_ireturn fx fin d12_net_218
        clear h
        have klr40 : ∀ (n : Nat) (v_h_35 : Int32) (μ36 : zM), zloop (fun s => f12_net_L3 o_ s.1 s.2) n (v_h_35, μ36) = some (v_h_37, μ38) → zZ zK1 X (zT0 Sh top) μ36 164 [(0, .ref o_), (1, .int t7), (2, .int v_h_35)] [] := by
          intro n
          induction n with
          | zero => intro v_h_35 μ36 hl39; cases hl39
          | succ n ih42 =>
            intro v_h_35 μ36 hl39
            obtain ⟨y, e38, hl39⟩ := zloop_inv hl39
            replace e38 : f12_net_L3 o_ v_h_35 μ36 = some y := e38
            unfold f12_net_L3 at e38
            refine z_iload_n fx (k := 2) (i := 2) rfl rfl d12_net_164 ?_
            refine z_aload_n fx (k := 0) (i := 0) rfl rfl d12_net_165 ?_
            refine z_getI fx 12 3 1203 ho lf12_19 ⟨fk12_3, rfl⟩ d12_net_166 ?_
            refine z_icmp_ge fx d12_net_169 (fun c43 => ?_) (fun c43 => ?_)
            · replace e38 := zif_f c43 e38
              cases e38
              cases hl39
              exact kx41
            · replace e38 := zif_t c43 e38
              refine z_aload_n fx (k := 0) (i := 0) rfl rfl d12_net_172 ?_
              refine z_sipush fx (v := 978) sp978 d12_net_173 ?_
              refine z_iload_n fx (k := 2) (i := 2) rfl rfl d12_net_176 ?_
              refine z_iadd fx d12_net_177 ?_
              refine z_aload_n fx (k := 0) (i := 0) rfl rfl d12_net_178 ?_
              refine z_getO fx 12 13 8 ho lf12_50 fk12_13 d12_net_179 ?_
              refine z_iload_n fx (k := 2) (i := 2) rfl rfl d12_net_182 ?_
              obtain ⟨t39, e44, e38⟩ := zinv e38
              refine z_iald fx (ok12_13 hO ho) e44 d12_net_183 ?_
              obtain ⟨μ40, e45, e38⟩ := zinv e38
              refine z_cVv fx (c12_puts (zLo X) (zDo X) Sh top hO o_ (978 + v_h_35) t39 μ36 _ ho e45) mv12_puts ml12_310 ho rfl rfl rfl rfl d12_net_184 ?_
              obtain ⟨v_h_41, e46, e38⟩ := zinv e38
              replace e46 := Option.some.inj e46
              refine z_iinc fx (i := 2) (x := v_h_35) (v := v_h_41) rfl (by rw [in1]; exact e46) rfl (lv' := [(0, .ref o_), (1, .int t7), (2, .int v_h_41)]) rfl rfl d12_net_187 ?_
              cases e38
              refine z_goto fx d12_net_190 ?_
              exact ih42 _ _ hl39
        exact klr40 _ _ _ e52
      clear h
      have klr32 : ∀ (n : Nat) (v_l_29 : Int32) (μ30 : zM), zloop (fun s => f12_net_L2 o_ s.1 s.2) n (v_l_29, μ30) = some (v_l_31, μ32) → zZ zK1 X (zT0 Sh top) μ30 138 [(0, .ref o_), (1, .int t7), (2, .int v_l_29)] [] := by
        intro n
        induction n with
        | zero => intro v_l_29 μ30 hl31; cases hl31
        | succ n ih34 =>
          intro v_l_29 μ30 hl31
          obtain ⟨y, e30, hl31⟩ := zloop_inv hl31
          replace e30 : f12_net_L2 o_ v_l_29 μ30 = some y := e30
          unfold f12_net_L2 at e30
          refine z_iload_n fx (k := 2) (i := 2) rfl rfl d12_net_138 ?_
          refine z_aload_n fx (k := 0) (i := 0) rfl rfl d12_net_139 ?_
          refine z_getI fx 12 2 1202 ho lf12_16 ⟨fk12_2, rfl⟩ d12_net_140 ?_
          refine z_icmp_ge fx d12_net_143 (fun c35 => ?_) (fun c35 => ?_)
          · replace e30 := zif_f c35 e30
            cases e30
            cases hl31
            exact kx33
          · replace e30 := zif_t c35 e30
            refine z_aload_n fx (k := 0) (i := 0) rfl rfl d12_net_146 ?_
            refine z_sipush fx (v := 964) sp964 d12_net_147 ?_
            refine z_iload_n fx (k := 2) (i := 2) rfl rfl d12_net_150 ?_
            refine z_iadd fx d12_net_151 ?_
            refine z_iconst fx (v := 1) ic1 d12_net_152 ?_
            obtain ⟨μ33, e36, e30⟩ := zinv e30
            refine z_cVv fx (c12_puts (zLo X) (zDo X) Sh top hO o_ (964 + v_l_29) 1 μ30 _ ho e36) mv12_puts ml12_310 ho rfl rfl rfl rfl d12_net_153 ?_
            obtain ⟨v_l_34, e37, e30⟩ := zinv e30
            replace e37 := Option.some.inj e37
            refine z_iinc fx (i := 2) (x := v_l_29) (v := v_l_34) rfl (by rw [in1]; exact e37) rfl (lv' := [(0, .ref o_), (1, .int t7), (2, .int v_l_34)]) rfl rfl d12_net_156 ?_
            cases e30
            refine z_goto fx d12_net_159 ?_
            exact ih34 _ _ hl31
      exact klr32 _ _ _ e53
    clear h
    have klr17 : ∀ (n : Nat) (v_b_16 : Int32) (μ17 : zM), zloop (fun s => f12_net_L1 o_ s.1 s.2) n (v_b_16, μ17) = some (v_b_18, μ19) → zZ zK1 X (zT0 Sh top) μ17 82 [(0, .ref o_), (1, .int t7), (2, .int v_b_16)] [] := by
      intro n
      induction n with
      | zero => intro v_b_16 μ17 hl16; cases hl16
      | succ n ih19 =>
        intro v_b_16 μ17 hl16
        obtain ⟨y, e15, hl16⟩ := zloop_inv hl16
        replace e15 : f12_net_L1 o_ v_b_16 μ17 = some y := e15
        unfold f12_net_L1 at e15
        refine z_iload_n fx (k := 2) (i := 2) rfl rfl d12_net_82 ?_
        refine z_aload_n fx (k := 0) (i := 0) rfl rfl d12_net_83 ?_
        refine z_getI fx 12 1 1201 ho lf12_13 ⟨fk12_1, rfl⟩ d12_net_84 ?_
        refine z_icmp_ge fx d12_net_87 (fun c20 => ?_) (fun c20 => ?_)
        · replace e15 := zif_f c20 e15
          cases e15
          cases hl16
          exact kx18
        · replace e15 := zif_t c20 e15
          refine z_aload_n fx (k := 0) (i := 0) rfl rfl d12_net_90 ?_
          refine z_iload_n fx (k := 2) (i := 2) rfl rfl d12_net_91 ?_
          refine z_iconst fx (v := 0) ic0 d12_net_92 ?_
          obtain ⟨t20, e21, e15⟩ := zinv e15
          refine z_cSr fx (c12_bridgeAt (zLo X) (zDo X) Sh top hO v_b_16 0 μ17 _  e21) ms12_bridgeAt ml12_307 rfl rfl rfl rfl d12_net_93 ?_
          refine z_iconst fx (v := 1) ic1 d12_net_96 ?_
          obtain ⟨μ21, e22, e15⟩ := zinv e15
          refine z_cVv fx (c12_puts (zLo X) (zDo X) Sh top hO o_ t20 1 μ17 _ ho e22) mv12_puts ml12_310 ho rfl rfl rfl rfl d12_net_97 ?_
          refine z_aload_n fx (k := 0) (i := 0) rfl rfl d12_net_100 ?_
          refine z_iload_n fx (k := 2) (i := 2) rfl rfl d12_net_101 ?_
          refine z_iconst fx (v := 1) ic1 d12_net_102 ?_
          obtain ⟨t22, e23, e15⟩ := zinv e15
          refine z_cSr fx (c12_bridgeAt (zLo X) (zDo X) Sh top hO v_b_16 1 μ21 _  e23) ms12_bridgeAt ml12_307 rfl rfl rfl rfl d12_net_103 ?_
          refine z_aload_n fx (k := 0) (i := 0) rfl rfl d12_net_106 ?_
          refine z_getO fx 12 6 1 ho lf12_28 fk12_6 d12_net_107 ?_
          refine z_iload_n fx (k := 2) (i := 2) rfl rfl d12_net_110 ?_
          obtain ⟨t23, e24, e15⟩ := zinv e15
          refine z_iald fx (ok12_6 hO ho) e24 d12_net_111 ?_
          obtain ⟨μ24, e25, e15⟩ := zinv e15
          refine z_cVv fx (c12_puts (zLo X) (zDo X) Sh top hO o_ t22 t23 μ21 _ ho e25) mv12_puts ml12_310 ho rfl rfl rfl rfl d12_net_112 ?_
          refine z_aload_n fx (k := 0) (i := 0) rfl rfl d12_net_115 ?_
          refine z_iload_n fx (k := 2) (i := 2) rfl rfl d12_net_116 ?_
          refine z_iconst fx (v := 2) ic2 d12_net_117 ?_
          obtain ⟨t25, e26, e15⟩ := zinv e15
          refine z_cSr fx (c12_bridgeAt (zLo X) (zDo X) Sh top hO v_b_16 2 μ24 _  e26) ms12_bridgeAt ml12_307 rfl rfl rfl rfl d12_net_118 ?_
          refine z_aload_n fx (k := 0) (i := 0) rfl rfl d12_net_121 ?_
          refine z_getO fx 12 7 2 ho lf12_32 fk12_7 d12_net_122 ?_
          refine z_iload_n fx (k := 2) (i := 2) rfl rfl d12_net_125 ?_
          obtain ⟨t26, e27, e15⟩ := zinv e15
          refine z_iald fx (ok12_7 hO ho) e27 d12_net_126 ?_
          obtain ⟨μ27, e28, e15⟩ := zinv e15
          refine z_cVv fx (c12_puts (zLo X) (zDo X) Sh top hO o_ t25 t26 μ24 _ ho e28) mv12_puts ml12_310 ho rfl rfl rfl rfl d12_net_127 ?_
          obtain ⟨v_b_28, e29, e15⟩ := zinv e15
          replace e29 := Option.some.inj e29
          refine z_iinc fx (i := 2) (x := v_b_16) (v := v_b_28) rfl (by rw [in1]; exact e29) rfl (lv' := [(0, .ref o_), (1, .int t7), (2, .int v_b_28)]) rfl rfl d12_net_130 ?_
          cases e15
          refine z_goto fx d12_net_133 ?_
          exact ih19 _ _ hl16
    exact klr17 _ _ _ e54
  · replace h := zif_f c9 h
    refine z_aload_n fx (k := 0) (i := 0) rfl rfl d12_net_51 ?_
    refine z_iconst fx (v := 1) ic1 d12_net_52 ?_
    obtain ⟨t47, μ48, e55, h⟩ := zinv2 h
    refine z_cVr fx (c12_refuses (zLo X) (zDo X) Sh top hO o_ 1 μ10 _ _ ho e55) mv12_refuses ml12_214 ho rfl rfl rfl rfl d12_net_53 ?_
    cases h
    exact z_ireturn fx fin d12_net_56
theorem d12_fault_0 : zd cX12_fault 0 (.iload_n 1) 1 1 := by decide +kernel
theorem d12_fault_1 : zj cX12_fault 1 (.ifCond .ne 10) 10 4 11 := by decide +kernel
theorem d12_fault_4 : zd cX12_fault 4 (.aload_n 0) 1 5 := by decide +kernel
theorem d12_fault_5 : zd cX12_fault 5 (.getfield 113) 3 8 := by decide +kernel
theorem d12_fault_8 : zj cX12_fault 8 (.goto 16) 16 11 24 := by decide +kernel
theorem d12_fault_11 : zd cX12_fault 11 (.iload_n 1) 1 12 := by decide +kernel
theorem d12_fault_12 : zd cX12_fault 12 (.iconst 1) 1 13 := by decide +kernel
theorem d12_fault_13 : zj cX12_fault 13 (.if_icmp .ne 10) 10 16 23 := by decide +kernel
theorem d12_fault_16 : zd cX12_fault 16 (.aload_n 0) 1 17 := by decide +kernel
theorem d12_fault_17 : zd cX12_fault 17 (.getfield 116) 3 20 := by decide +kernel
theorem d12_fault_20 : zj cX12_fault 20 (.goto 4) 4 23 24 := by decide +kernel
theorem d12_fault_23 : zd cX12_fault 23 (.iconst (-1)) 1 24 := by decide +kernel
theorem d12_fault_24 : zd cX12_fault 24 (.ireturn) 1 25 := by decide +kernel
set_option maxHeartbeats 4000000 in
set_option maxRecDepth 20000 in
theorem c12_fault (l : Launch) (D : zDt) (Sh : zSh) (top : Nat) (hO : zOK Sh) (o_ : Nat) (v_what : Int32) (μ : zM) (r_ : Int32) (ho : (Sh o_).1 = 19) (h : f12_fault o_ v_what μ = some r_) : zMet l D zK1 yX12_fault cX12_fault 2 (some .int) (zrm 0 0) [.ref o_, .int v_what] Sh top μ (some (.int r_)) Sh top μ 0 0 := by
  refine zMet_of (by decide) (Nat.le_of_ble_eq_true rfl) fun X hX1 hX2 fx fin => ?_
  subst hX1; subst hX2
  replace fx : zFix X cX12_fault RX12 (zrm 0 0) 2 := fx
  show zZ zK1 X (zT0 Sh top) μ 0 [(0, .ref o_), (1, .int v_what)] []
  unfold f12_fault at h
  obtain ⟨x1, e1, h⟩ := zinv h
  have k2 : zZ zK1 X (zT0 Sh top) μ 24 [(0, .ref o_), (1, .int v_what)] [.int x1] := by
    cases h
    exact z_ireturn fx fin d12_fault_24
  refine z_iload_n fx (k := 1) (i := 1) rfl rfl d12_fault_0 ?_
  refine z_if_ne fx d12_fault_1 (fun c3 => ?_) (fun c3 => ?_)
  · replace e1 := zif_f c3 e1
    obtain ⟨x2, e4, e1⟩ := zinv e1
    have k5 : zZ zK1 X (zT0 Sh top) μ 24 [(0, .ref o_), (1, .int v_what)] [.int x2] := by
      cases e1
      exact k2
    refine z_iload_n fx (k := 1) (i := 1) rfl rfl d12_fault_11 ?_
    refine z_iconst fx (v := 1) ic1 d12_fault_12 ?_
    refine z_icmp_ne fx d12_fault_13 (fun c6 => ?_) (fun c6 => ?_)
    · replace e4 := zif_f c6 e4
      refine z_iconst fx (v := (-1)) icm1 d12_fault_23 ?_
      cases e4
      exact k5
    · replace e4 := zif_t c6 e4
      refine z_aload_n fx (k := 0) (i := 0) rfl rfl d12_fault_16 ?_
      refine z_getI fx 12 35 1235 ho lf12_116 ⟨fk12_35, rfl⟩ d12_fault_17 ?_
      cases e4
      refine z_goto fx d12_fault_20 ?_
      exact k5
  · replace e1 := zif_t c3 e1
    refine z_aload_n fx (k := 0) (i := 0) rfl rfl d12_fault_4 ?_
    refine z_getI fx 12 34 1234 ho lf12_113 ⟨fk12_34, rfl⟩ d12_fault_5 ?_
    cases e1
    refine z_goto fx d12_fault_8 ?_
    exact k2
theorem d12_portAt_0 : zd cX12_portAt 0 (.bipush 100) 2 2 := by decide +kernel
theorem d12_portAt_2 : zd cX12_portAt 2 (.bipush 18) 2 4 := by decide +kernel
theorem d12_portAt_4 : zd cX12_portAt 4 (.bipush 6) 2 6 := by decide +kernel
theorem d12_portAt_6 : zd cX12_portAt 6 (.iload_n 0) 1 7 := by decide +kernel
theorem d12_portAt_7 : zd cX12_portAt 7 (.imul) 1 8 := by decide +kernel
theorem d12_portAt_8 : zd cX12_portAt 8 (.iload_n 1) 1 9 := by decide +kernel
theorem d12_portAt_9 : zd cX12_portAt 9 (.iadd) 1 10 := by decide +kernel
theorem d12_portAt_10 : zd cX12_portAt 10 (.imul) 1 11 := by decide +kernel
theorem d12_portAt_11 : zd cX12_portAt 11 (.iadd) 1 12 := by decide +kernel
theorem d12_portAt_12 : zd cX12_portAt 12 (.iload_n 2) 1 13 := by decide +kernel
theorem d12_portAt_13 : zd cX12_portAt 13 (.iadd) 1 14 := by decide +kernel
theorem d12_portAt_14 : zd cX12_portAt 14 (.ireturn) 1 15 := by decide +kernel
set_option maxHeartbeats 4000000 in
set_option maxRecDepth 20000 in
theorem c12_portAt (l : Launch) (D : zDt) (Sh : zSh) (top : Nat) (hO : zOK Sh) (v_b : Int32) (v_p : Int32) (v_what : Int32) (μ : zM) (r_ : Int32)  (h : f12_portAt v_b v_p v_what μ = some r_) : zMet l D zK1 yX12_portAt cX12_portAt 3 (some .int) (zrm 0 0) [.int v_b, .int v_p, .int v_what] Sh top μ (some (.int r_)) Sh top μ 0 0 := by
  refine zMet_of (by decide) (Nat.le_of_ble_eq_true rfl) fun X hX1 hX2 fx fin => ?_
  subst hX1; subst hX2
  replace fx : zFix X cX12_portAt RX12 (zrm 0 0) 3 := fx
  show zZ zK1 X (zT0 Sh top) μ 0 [(0, .int v_b), (1, .int v_p), (2, .int v_what)] []
  unfold f12_portAt at h
  refine z_bipush fx (v := 100) bp100 d12_portAt_0 ?_
  refine z_bipush fx (v := 18) bp18 d12_portAt_2 ?_
  refine z_bipush fx (v := 6) bp6 d12_portAt_4 ?_
  refine z_iload_n fx (k := 0) (i := 0) rfl rfl d12_portAt_6 ?_
  refine z_imul fx d12_portAt_7 ?_
  refine z_iload_n fx (k := 1) (i := 1) rfl rfl d12_portAt_8 ?_
  refine z_iadd fx d12_portAt_9 ?_
  refine z_imul fx d12_portAt_10 ?_
  refine z_iadd fx d12_portAt_11 ?_
  refine z_iload_n fx (k := 2) (i := 2) rfl rfl d12_portAt_12 ?_
  refine z_iadd fx d12_portAt_13 ?_
  cases h
  exact z_ireturn fx fin d12_portAt_14
theorem d12_otherBridge_0 : zd cX12_otherBridge 0 (.aload_n 0) 1 1 := by decide +kernel
theorem d12_otherBridge_1 : zd cX12_otherBridge 1 (.getfield 38) 3 4 := by decide +kernel
theorem d12_otherBridge_4 : zd cX12_otherBridge 4 (.iconst 4) 1 5 := by decide +kernel
theorem d12_otherBridge_5 : zd cX12_otherBridge 5 (.aload_n 0) 1 6 := by decide +kernel
theorem d12_otherBridge_6 : zd cX12_otherBridge 6 (.getfield 56) 3 9 := by decide +kernel
theorem d12_otherBridge_9 : zd cX12_otherBridge 9 (.iload_n 1) 1 10 := by decide +kernel
theorem d12_otherBridge_10 : zd cX12_otherBridge 10 (.iaload) 1 11 := by decide +kernel
theorem d12_otherBridge_11 : zd cX12_otherBridge 11 (.imul) 1 12 := by decide +kernel
theorem d12_otherBridge_12 : zd cX12_otherBridge 12 (.iconst 2) 1 13 := by decide +kernel
theorem d12_otherBridge_13 : zd cX12_otherBridge 13 (.iadd) 1 14 := by decide +kernel
theorem d12_otherBridge_14 : zd cX12_otherBridge 14 (.iconst 2) 1 15 := by decide +kernel
theorem d12_otherBridge_15 : zd cX12_otherBridge 15 (.aload_n 0) 1 16 := by decide +kernel
theorem d12_otherBridge_16 : zd cX12_otherBridge 16 (.getfield 59) 3 19 := by decide +kernel
theorem d12_otherBridge_19 : zd cX12_otherBridge 19 (.iload_n 1) 1 20 := by decide +kernel
theorem d12_otherBridge_20 : zd cX12_otherBridge 20 (.iaload) 1 21 := by decide +kernel
theorem d12_otherBridge_21 : zd cX12_otherBridge 21 (.imul) 1 22 := by decide +kernel
theorem d12_otherBridge_22 : zd cX12_otherBridge 22 (.isub) 1 23 := by decide +kernel
theorem d12_otherBridge_23 : zd cX12_otherBridge 23 (.iaload) 1 24 := by decide +kernel
theorem d12_otherBridge_24 : zd cX12_otherBridge 24 (.ireturn) 1 25 := by decide +kernel
set_option maxHeartbeats 4000000 in
set_option maxRecDepth 20000 in
theorem c12_otherBridge (l : Launch) (D : zDt) (Sh : zSh) (top : Nat) (hO : zOK Sh) (o_ : Nat) (v_p : Int32) (μ : zM) (r_ : Int32) (ho : (Sh o_).1 = 19) (h : f12_otherBridge o_ v_p μ = some r_) : zMet l D zK1 yX12_otherBridge cX12_otherBridge 2 (some .int) (zrm 0 0) [.ref o_, .int v_p] Sh top μ (some (.int r_)) Sh top μ 0 0 := by
  refine zMet_of (by decide) (Nat.le_of_ble_eq_true rfl) fun X hX1 hX2 fx fin => ?_
  subst hX1; subst hX2
  replace fx : zFix X cX12_otherBridge RX12 (zrm 0 0) 2 := fx
  show zZ zK1 X (zT0 Sh top) μ 0 [(0, .ref o_), (1, .int v_p)] []
  unfold f12_otherBridge at h
  refine z_aload_n fx (k := 0) (i := 0) rfl rfl d12_otherBridge_0 ?_
  refine z_getO fx 12 9 4 ho lf12_38 fk12_9 d12_otherBridge_1 ?_
  refine z_iconst fx (v := 4) ic4 d12_otherBridge_4 ?_
  refine z_aload_n fx (k := 0) (i := 0) rfl rfl d12_otherBridge_5 ?_
  refine z_getO fx 12 15 10 ho lf12_56 fk12_15 d12_otherBridge_6 ?_
  refine z_iload_n fx (k := 1) (i := 1) rfl rfl d12_otherBridge_9 ?_
  obtain ⟨t1, e1, h⟩ := zinv h
  refine z_iald fx (ok12_15 hO ho) e1 d12_otherBridge_10 ?_
  refine z_imul fx d12_otherBridge_11 ?_
  refine z_iconst fx (v := 2) ic2 d12_otherBridge_12 ?_
  refine z_iadd fx d12_otherBridge_13 ?_
  refine z_iconst fx (v := 2) ic2 d12_otherBridge_14 ?_
  refine z_aload_n fx (k := 0) (i := 0) rfl rfl d12_otherBridge_15 ?_
  refine z_getO fx 12 16 11 ho lf12_59 fk12_16 d12_otherBridge_16 ?_
  refine z_iload_n fx (k := 1) (i := 1) rfl rfl d12_otherBridge_19 ?_
  obtain ⟨t2, e2, h⟩ := zinv h
  refine z_iald fx (ok12_16 hO ho) e2 d12_otherBridge_20 ?_
  refine z_imul fx d12_otherBridge_21 ?_
  refine z_isub fx d12_otherBridge_22 ?_
  obtain ⟨t3, e3, h⟩ := zinv h
  refine z_iald fx (ok12_9 hO ho) e3 d12_otherBridge_23 ?_
  cases h
  exact z_ireturn fx fin d12_otherBridge_24
theorem d12_otherPort_0 : zd cX12_otherPort 0 (.aload_n 0) 1 1 := by decide +kernel
theorem d12_otherPort_1 : zd cX12_otherPort 1 (.iload_n 1) 1 2 := by decide +kernel
theorem d12_otherPort_2 : zd cX12_otherPort 2 (.invokevirtual 322) 3 5 := by decide +kernel
theorem d12_otherPort_5 : zd cX12_otherPort 5 (.aload_n 0) 1 6 := by decide +kernel
theorem d12_otherPort_6 : zd cX12_otherPort 6 (.getfield 38) 3 9 := by decide +kernel
theorem d12_otherPort_9 : zd cX12_otherPort 9 (.iconst 4) 1 10 := by decide +kernel
theorem d12_otherPort_10 : zd cX12_otherPort 10 (.aload_n 0) 1 11 := by decide +kernel
theorem d12_otherPort_11 : zd cX12_otherPort 11 (.getfield 56) 3 14 := by decide +kernel
theorem d12_otherPort_14 : zd cX12_otherPort 14 (.iload_n 1) 1 15 := by decide +kernel
theorem d12_otherPort_15 : zd cX12_otherPort 15 (.iaload) 1 16 := by decide +kernel
theorem d12_otherPort_16 : zd cX12_otherPort 16 (.imul) 1 17 := by decide +kernel
theorem d12_otherPort_17 : zd cX12_otherPort 17 (.iconst 3) 1 18 := by decide +kernel
theorem d12_otherPort_18 : zd cX12_otherPort 18 (.iadd) 1 19 := by decide +kernel
theorem d12_otherPort_19 : zd cX12_otherPort 19 (.iconst 2) 1 20 := by decide +kernel
theorem d12_otherPort_20 : zd cX12_otherPort 20 (.aload_n 0) 1 21 := by decide +kernel
theorem d12_otherPort_21 : zd cX12_otherPort 21 (.getfield 59) 3 24 := by decide +kernel
theorem d12_otherPort_24 : zd cX12_otherPort 24 (.iload_n 1) 1 25 := by decide +kernel
theorem d12_otherPort_25 : zd cX12_otherPort 25 (.iaload) 1 26 := by decide +kernel
theorem d12_otherPort_26 : zd cX12_otherPort 26 (.imul) 1 27 := by decide +kernel
theorem d12_otherPort_27 : zd cX12_otherPort 27 (.isub) 1 28 := by decide +kernel
theorem d12_otherPort_28 : zd cX12_otherPort 28 (.iaload) 1 29 := by decide +kernel
theorem d12_otherPort_29 : zd cX12_otherPort 29 (.invokestatic 325) 3 32 := by decide +kernel
theorem d12_otherPort_32 : zd cX12_otherPort 32 (.ireturn) 1 33 := by decide +kernel
set_option maxHeartbeats 4000000 in
set_option maxRecDepth 20000 in
theorem c12_otherPort (l : Launch) (D : zDt) (Sh : zSh) (top : Nat) (hO : zOK Sh) (o_ : Nat) (v_p : Int32) (μ : zM) (r_ : Int32) (ho : (Sh o_).1 = 19) (h : f12_otherPort o_ v_p μ = some r_) : zMet l D zK1 yX12_otherPort cX12_otherPort 2 (some .int) (zrm 1 21) [.ref o_, .int v_p] Sh top μ (some (.int r_)) Sh top μ 0 0 := by
  refine zMet_of (by decide) (Nat.le_of_ble_eq_true rfl) fun X hX1 hX2 fx fin => ?_
  subst hX1; subst hX2
  replace fx : zFix X cX12_otherPort RX12 (zrm 1 21) 2 := fx
  show zZ zK1 X (zT0 Sh top) μ 0 [(0, .ref o_), (1, .int v_p)] []
  unfold f12_otherPort at h
  refine z_aload_n fx (k := 0) (i := 0) rfl rfl d12_otherPort_0 ?_
  refine z_iload_n fx (k := 1) (i := 1) rfl rfl d12_otherPort_1 ?_
  obtain ⟨t1, e1, h⟩ := zinv h
  refine z_cVr fx (c12_otherBridge (zLo X) (zDo X) Sh top hO o_ v_p μ _ ho e1) mv12_otherBridge ml12_322 ho rfl rfl rfl rfl d12_otherPort_2 ?_
  refine z_aload_n fx (k := 0) (i := 0) rfl rfl d12_otherPort_5 ?_
  refine z_getO fx 12 9 4 ho lf12_38 fk12_9 d12_otherPort_6 ?_
  refine z_iconst fx (v := 4) ic4 d12_otherPort_9 ?_
  refine z_aload_n fx (k := 0) (i := 0) rfl rfl d12_otherPort_10 ?_
  refine z_getO fx 12 15 10 ho lf12_56 fk12_15 d12_otherPort_11 ?_
  refine z_iload_n fx (k := 1) (i := 1) rfl rfl d12_otherPort_14 ?_
  obtain ⟨t2, e2, h⟩ := zinv h
  refine z_iald fx (ok12_15 hO ho) e2 d12_otherPort_15 ?_
  refine z_imul fx d12_otherPort_16 ?_
  refine z_iconst fx (v := 3) ic3 d12_otherPort_17 ?_
  refine z_iadd fx d12_otherPort_18 ?_
  refine z_iconst fx (v := 2) ic2 d12_otherPort_19 ?_
  refine z_aload_n fx (k := 0) (i := 0) rfl rfl d12_otherPort_20 ?_
  refine z_getO fx 12 16 11 ho lf12_59 fk12_16 d12_otherPort_21 ?_
  refine z_iload_n fx (k := 1) (i := 1) rfl rfl d12_otherPort_24 ?_
  obtain ⟨t3, e3, h⟩ := zinv h
  refine z_iald fx (ok12_16 hO ho) e3 d12_otherPort_25 ?_
  refine z_imul fx d12_otherPort_26 ?_
  refine z_isub fx d12_otherPort_27 ?_
  obtain ⟨t4, e4, h⟩ := zinv h
  refine z_iald fx (ok12_9 hO ho) e4 d12_otherPort_28 ?_
  obtain ⟨t5, e5, h⟩ := zinv h
  refine z_cSr fx (c12_placeOf (zLo X) (zDo X) Sh top hO t1 t4 μ _  e5) ms12_placeOf ml12_325 rfl rfl rfl rfl d12_otherPort_29 ?_
  cases h
  exact z_ireturn fx fin d12_otherPort_32
theorem d12_isOpenLink_0 : zd cX12_isOpenLink 0 (.aload_n 0) 1 1 := by decide +kernel
theorem d12_isOpenLink_1 : zd cX12_isOpenLink 1 (.aload_n 0) 1 2 := by decide +kernel
theorem d12_isOpenLink_2 : zd cX12_isOpenLink 2 (.getfield 38) 3 5 := by decide +kernel
theorem d12_isOpenLink_5 : zd cX12_isOpenLink 5 (.iconst 4) 1 6 := by decide +kernel
theorem d12_isOpenLink_6 : zd cX12_isOpenLink 6 (.iload_n 1) 1 7 := by decide +kernel
theorem d12_isOpenLink_7 : zd cX12_isOpenLink 7 (.imul) 1 8 := by decide +kernel
theorem d12_isOpenLink_8 : zd cX12_isOpenLink 8 (.iaload) 1 9 := by decide +kernel
theorem d12_isOpenLink_9 : zd cX12_isOpenLink 9 (.aload_n 0) 1 10 := by decide +kernel
theorem d12_isOpenLink_10 : zd cX12_isOpenLink 10 (.getfield 38) 3 13 := by decide +kernel
theorem d12_isOpenLink_13 : zd cX12_isOpenLink 13 (.iconst 4) 1 14 := by decide +kernel
theorem d12_isOpenLink_14 : zd cX12_isOpenLink 14 (.iload_n 1) 1 15 := by decide +kernel
theorem d12_isOpenLink_15 : zd cX12_isOpenLink 15 (.imul) 1 16 := by decide +kernel
theorem d12_isOpenLink_16 : zd cX12_isOpenLink 16 (.iconst 1) 1 17 := by decide +kernel
theorem d12_isOpenLink_17 : zd cX12_isOpenLink 17 (.iadd) 1 18 := by decide +kernel
theorem d12_isOpenLink_18 : zd cX12_isOpenLink 18 (.iaload) 1 19 := by decide +kernel
theorem d12_isOpenLink_19 : zd cX12_isOpenLink 19 (.invokestatic 325) 3 22 := by decide +kernel
theorem d12_isOpenLink_22 : zd cX12_isOpenLink 22 (.iconst 1) 1 23 := by decide +kernel
theorem d12_isOpenLink_23 : zd cX12_isOpenLink 23 (.invokevirtual 334) 3 26 := by decide +kernel
theorem d12_isOpenLink_26 : zd cX12_isOpenLink 26 (.iconst 2) 1 27 := by decide +kernel
theorem d12_isOpenLink_27 : zj cX12_isOpenLink 27 (.if_icmp .ne 39) 39 30 66 := by decide +kernel
theorem d12_isOpenLink_30 : zd cX12_isOpenLink 30 (.aload_n 0) 1 31 := by decide +kernel
theorem d12_isOpenLink_31 : zd cX12_isOpenLink 31 (.aload_n 0) 1 32 := by decide +kernel
theorem d12_isOpenLink_32 : zd cX12_isOpenLink 32 (.getfield 38) 3 35 := by decide +kernel
theorem d12_isOpenLink_35 : zd cX12_isOpenLink 35 (.iconst 4) 1 36 := by decide +kernel
theorem d12_isOpenLink_36 : zd cX12_isOpenLink 36 (.iload_n 1) 1 37 := by decide +kernel
theorem d12_isOpenLink_37 : zd cX12_isOpenLink 37 (.imul) 1 38 := by decide +kernel
theorem d12_isOpenLink_38 : zd cX12_isOpenLink 38 (.iconst 2) 1 39 := by decide +kernel
theorem d12_isOpenLink_39 : zd cX12_isOpenLink 39 (.iadd) 1 40 := by decide +kernel
theorem d12_isOpenLink_40 : zd cX12_isOpenLink 40 (.iaload) 1 41 := by decide +kernel
theorem d12_isOpenLink_41 : zd cX12_isOpenLink 41 (.aload_n 0) 1 42 := by decide +kernel
theorem d12_isOpenLink_42 : zd cX12_isOpenLink 42 (.getfield 38) 3 45 := by decide +kernel
theorem d12_isOpenLink_45 : zd cX12_isOpenLink 45 (.iconst 4) 1 46 := by decide +kernel
theorem d12_isOpenLink_46 : zd cX12_isOpenLink 46 (.iload_n 1) 1 47 := by decide +kernel
theorem d12_isOpenLink_47 : zd cX12_isOpenLink 47 (.imul) 1 48 := by decide +kernel
theorem d12_isOpenLink_48 : zd cX12_isOpenLink 48 (.iconst 3) 1 49 := by decide +kernel
theorem d12_isOpenLink_49 : zd cX12_isOpenLink 49 (.iadd) 1 50 := by decide +kernel
theorem d12_isOpenLink_50 : zd cX12_isOpenLink 50 (.iaload) 1 51 := by decide +kernel
theorem d12_isOpenLink_51 : zd cX12_isOpenLink 51 (.invokestatic 325) 3 54 := by decide +kernel
theorem d12_isOpenLink_54 : zd cX12_isOpenLink 54 (.iconst 1) 1 55 := by decide +kernel
theorem d12_isOpenLink_55 : zd cX12_isOpenLink 55 (.invokevirtual 334) 3 58 := by decide +kernel
theorem d12_isOpenLink_58 : zd cX12_isOpenLink 58 (.iconst 2) 1 59 := by decide +kernel
theorem d12_isOpenLink_59 : zj cX12_isOpenLink 59 (.if_icmp .ne 7) 7 62 66 := by decide +kernel
theorem d12_isOpenLink_62 : zd cX12_isOpenLink 62 (.iconst 1) 1 63 := by decide +kernel
theorem d12_isOpenLink_63 : zj cX12_isOpenLink 63 (.goto 4) 4 66 67 := by decide +kernel
theorem d12_isOpenLink_66 : zd cX12_isOpenLink 66 (.iconst 0) 1 67 := by decide +kernel
theorem d12_isOpenLink_67 : zd cX12_isOpenLink 67 (.ireturn) 1 68 := by decide +kernel
set_option maxHeartbeats 4000000 in
set_option maxRecDepth 20000 in
theorem c12_isOpenLink (l : Launch) (D : zDt) (Sh : zSh) (top : Nat) (hO : zOK Sh) (o_ : Nat) (v_l : Int32) (μ : zM) (r_ : Bool) (ho : (Sh o_).1 = 19) (h : f12_isOpenLink o_ v_l μ = some r_) : zMet l D zK1 yX12_isOpenLink cX12_isOpenLink 2 (some .boolean) (zrm 2 43) [.ref o_, .int v_l] Sh top μ (some (.int (bI r_))) Sh top μ 0 0 := by
  refine zMet_of (by decide) (Nat.le_of_ble_eq_true rfl) fun X hX1 hX2 fx fin => ?_
  subst hX1; subst hX2
  replace fx : zFix X cX12_isOpenLink RX12 (zrm 2 43) 2 := fx
  show zZ zK1 X (zT0 Sh top) μ 0 [(0, .ref o_), (1, .int v_l)] []
  unfold f12_isOpenLink at h
  obtain ⟨b1, e1, h⟩ := zinv h
  have k2 : zZ zK1 X (zT0 Sh top) μ 67 [(0, .ref o_), (1, .int v_l)] [.int (bI b1)] := by
    cases h
    exact z_zreturn fx fin d12_isOpenLink_67
  have kt3 : b1 = true → zZ zK1 X (zT0 Sh top) μ 62 [(0, .ref o_), (1, .int v_l)] [] := by
    intro hc
    refine z_iconst fx (v := 1) ic1 d12_isOpenLink_62 ?_
    refine z_goto fx d12_isOpenLink_63 ?_
    exact z_top (congrArg Value.int (show 1 = bI b1 by rw [hc]; rfl)) k2
  have kf3 : b1 = false → zZ zK1 X (zT0 Sh top) μ 66 [(0, .ref o_), (1, .int v_l)] [] := by
    intro hc
    refine z_iconst fx (v := 0) ic0 d12_isOpenLink_66 ?_
    exact z_top (congrArg Value.int (show 0 = bI b1 by rw [hc]; rfl)) k2
  obtain ⟨b2, e4, e1⟩ := zinv e1
  have kt5 : b2 = true → zZ zK1 X (zT0 Sh top) μ 30 [(0, .ref o_), (1, .int v_l)] [] := by
    intro hc
    replace e1 := zif_t hc e1
    refine z_aload_n fx (k := 0) (i := 0) rfl rfl d12_isOpenLink_30 ?_
    refine z_aload_n fx (k := 0) (i := 0) rfl rfl d12_isOpenLink_31 ?_
    refine z_getO fx 12 9 4 ho lf12_38 fk12_9 d12_isOpenLink_32 ?_
    refine z_iconst fx (v := 4) ic4 d12_isOpenLink_35 ?_
    refine z_iload_n fx (k := 1) (i := 1) rfl rfl d12_isOpenLink_36 ?_
    refine z_imul fx d12_isOpenLink_37 ?_
    refine z_iconst fx (v := 2) ic2 d12_isOpenLink_38 ?_
    refine z_iadd fx d12_isOpenLink_39 ?_
    obtain ⟨t3, e6, e1⟩ := zinv e1
    refine z_iald fx (ok12_9 hO ho) e6 d12_isOpenLink_40 ?_
    refine z_aload_n fx (k := 0) (i := 0) rfl rfl d12_isOpenLink_41 ?_
    refine z_getO fx 12 9 4 ho lf12_38 fk12_9 d12_isOpenLink_42 ?_
    refine z_iconst fx (v := 4) ic4 d12_isOpenLink_45 ?_
    refine z_iload_n fx (k := 1) (i := 1) rfl rfl d12_isOpenLink_46 ?_
    refine z_imul fx d12_isOpenLink_47 ?_
    refine z_iconst fx (v := 3) ic3 d12_isOpenLink_48 ?_
    refine z_iadd fx d12_isOpenLink_49 ?_
    obtain ⟨t4, e7, e1⟩ := zinv e1
    refine z_iald fx (ok12_9 hO ho) e7 d12_isOpenLink_50 ?_
    obtain ⟨t5, e8, e1⟩ := zinv e1
    refine z_cSr fx (c12_placeOf (zLo X) (zDo X) Sh top hO t3 t4 μ _  e8) ms12_placeOf ml12_325 rfl rfl rfl rfl d12_isOpenLink_51 ?_
    refine z_iconst fx (v := 1) ic1 d12_isOpenLink_54 ?_
    obtain ⟨t6, e9, e1⟩ := zinv e1
    refine z_cVr fx (c12_portOf (zLo X) (zDo X) Sh top hO o_ t5 1 μ _ ho e9) mv12_portOf ml12_334 ho rfl rfl rfl rfl d12_isOpenLink_55 ?_
    refine z_iconst fx (v := 2) ic2 d12_isOpenLink_58 ?_
    cases e1
    refine z_icmp_ne fx d12_isOpenLink_59 (fun c10 => ?_) (fun c10 => ?_)
    · exact kf3 c10
    · exact kt3 c10
  have kf5 : b2 = false → zZ zK1 X (zT0 Sh top) μ 66 [(0, .ref o_), (1, .int v_l)] [] := by
    intro hc
    replace e1 := zif_f hc e1
    cases e1
    exact kf3 rfl
  clear e1
  refine z_aload_n fx (k := 0) (i := 0) rfl rfl d12_isOpenLink_0 ?_
  refine z_aload_n fx (k := 0) (i := 0) rfl rfl d12_isOpenLink_1 ?_
  refine z_getO fx 12 9 4 ho lf12_38 fk12_9 d12_isOpenLink_2 ?_
  refine z_iconst fx (v := 4) ic4 d12_isOpenLink_5 ?_
  refine z_iload_n fx (k := 1) (i := 1) rfl rfl d12_isOpenLink_6 ?_
  refine z_imul fx d12_isOpenLink_7 ?_
  obtain ⟨t7, e11, e4⟩ := zinv e4
  refine z_iald fx (ok12_9 hO ho) e11 d12_isOpenLink_8 ?_
  refine z_aload_n fx (k := 0) (i := 0) rfl rfl d12_isOpenLink_9 ?_
  refine z_getO fx 12 9 4 ho lf12_38 fk12_9 d12_isOpenLink_10 ?_
  refine z_iconst fx (v := 4) ic4 d12_isOpenLink_13 ?_
  refine z_iload_n fx (k := 1) (i := 1) rfl rfl d12_isOpenLink_14 ?_
  refine z_imul fx d12_isOpenLink_15 ?_
  refine z_iconst fx (v := 1) ic1 d12_isOpenLink_16 ?_
  refine z_iadd fx d12_isOpenLink_17 ?_
  obtain ⟨t8, e12, e4⟩ := zinv e4
  refine z_iald fx (ok12_9 hO ho) e12 d12_isOpenLink_18 ?_
  obtain ⟨t9, e13, e4⟩ := zinv e4
  refine z_cSr fx (c12_placeOf (zLo X) (zDo X) Sh top hO t7 t8 μ _  e13) ms12_placeOf ml12_325 rfl rfl rfl rfl d12_isOpenLink_19 ?_
  refine z_iconst fx (v := 1) ic1 d12_isOpenLink_22 ?_
  obtain ⟨t10, e14, e4⟩ := zinv e4
  refine z_cVr fx (c12_portOf (zLo X) (zDo X) Sh top hO o_ t9 1 μ _ ho e14) mv12_portOf ml12_334 ho rfl rfl rfl rfl d12_isOpenLink_23 ?_
  refine z_iconst fx (v := 2) ic2 d12_isOpenLink_26 ?_
  cases e4
  refine z_icmp_ne fx d12_isOpenLink_27 (fun c15 => ?_) (fun c15 => ?_)
  · exact kf5 c15
  · exact kt5 c15
theorem d12_msg_0 : zd cX12_msg 0 (.aload_n 0) 1 1 := by decide +kernel
theorem d12_msg_1 : zd cX12_msg 1 (.sipush 1274) 3 4 := by decide +kernel
theorem d12_msg_4 : zd cX12_msg 4 (.bipush 10) 2 6 := by decide +kernel
theorem d12_msg_6 : zd cX12_msg 6 (.iload_n 1) 1 7 := by decide +kernel
theorem d12_msg_7 : zd cX12_msg 7 (.imul) 1 8 := by decide +kernel
theorem d12_msg_8 : zd cX12_msg 8 (.iadd) 1 9 := by decide +kernel
theorem d12_msg_9 : zd cX12_msg 9 (.iload_n 2) 1 10 := by decide +kernel
theorem d12_msg_10 : zd cX12_msg 10 (.iadd) 1 11 := by decide +kernel
theorem d12_msg_11 : zd cX12_msg 11 (.invokevirtual 316) 3 14 := by decide +kernel
theorem d12_msg_14 : zd cX12_msg 14 (.ireturn) 1 15 := by decide +kernel
set_option maxHeartbeats 4000000 in
set_option maxRecDepth 20000 in
theorem c12_msg (l : Launch) (D : zDt) (Sh : zSh) (top : Nat) (hO : zOK Sh) (o_ : Nat) (v_k : Int32) (v_what : Int32) (μ : zM) (r_ : Int32) (ho : (Sh o_).1 = 19) (h : f12_msg o_ v_k v_what μ = some r_) : zMet l D zK1 yX12_msg cX12_msg 3 (some .int) (zrm 1 21) [.ref o_, .int v_k, .int v_what] Sh top μ (some (.int r_)) Sh top μ 0 0 := by
  refine zMet_of (by decide) (Nat.le_of_ble_eq_true rfl) fun X hX1 hX2 fx fin => ?_
  subst hX1; subst hX2
  replace fx : zFix X cX12_msg RX12 (zrm 1 21) 3 := fx
  show zZ zK1 X (zT0 Sh top) μ 0 [(0, .ref o_), (1, .int v_k), (2, .int v_what)] []
  unfold f12_msg at h
  refine z_aload_n fx (k := 0) (i := 0) rfl rfl d12_msg_0 ?_
  refine z_sipush fx (v := 1274) sp1274 d12_msg_1 ?_
  refine z_bipush fx (v := 10) bp10 d12_msg_4 ?_
  refine z_iload_n fx (k := 1) (i := 1) rfl rfl d12_msg_6 ?_
  refine z_imul fx d12_msg_7 ?_
  refine z_iadd fx d12_msg_8 ?_
  refine z_iload_n fx (k := 2) (i := 2) rfl rfl d12_msg_9 ?_
  refine z_iadd fx d12_msg_10 ?_
  obtain ⟨t1, e1, h⟩ := zinv h
  refine z_cVr fx (c12_its (zLo X) (zDo X) Sh top hO o_ ((1274 + (10 * v_k)) + v_what) μ _ ho e1) mv12_its ml12_316 ho rfl rfl rfl rfl d12_msg_11 ?_
  cases h
  exact z_ireturn fx fin d12_msg_14
theorem d12_dropsMessages_0 : zd cX12_dropsMessages 0 (.iconst 0) 1 1 := by decide +kernel
theorem d12_dropsMessages_1 : zd cX12_dropsMessages 1 (.istore_n 2) 1 2 := by decide +kernel
theorem d12_dropsMessages_2 : zd cX12_dropsMessages 2 (.iconst 0) 1 3 := by decide +kernel
theorem d12_dropsMessages_3 : zd cX12_dropsMessages 3 (.istore_n 3) 1 4 := by decide +kernel
theorem d12_dropsMessages_4 : zd cX12_dropsMessages 4 (.iload_n 3) 1 5 := by decide +kernel
theorem d12_dropsMessages_5 : zd cX12_dropsMessages 5 (.aload_n 0) 1 6 := by decide +kernel
theorem d12_dropsMessages_6 : zd cX12_dropsMessages 6 (.iconst 2) 1 7 := by decide +kernel
theorem d12_dropsMessages_7 : zd cX12_dropsMessages 7 (.invokevirtual 316) 3 10 := by decide +kernel
theorem d12_dropsMessages_10 : zj cX12_dropsMessages 10 (.if_icmp .ge 77) 77 13 87 := by decide +kernel
theorem d12_dropsMessages_13 : zd cX12_dropsMessages 13 (.aload_n 0) 1 14 := by decide +kernel
theorem d12_dropsMessages_14 : zd cX12_dropsMessages 14 (.getfield 56) 3 17 := by decide +kernel
theorem d12_dropsMessages_17 : zd cX12_dropsMessages 17 (.aload_n 0) 1 18 := by decide +kernel
theorem d12_dropsMessages_18 : zd cX12_dropsMessages 18 (.iload_n 3) 1 19 := by decide +kernel
theorem d12_dropsMessages_19 : zd cX12_dropsMessages 19 (.iconst 1) 1 20 := by decide +kernel
theorem d12_dropsMessages_20 : zd cX12_dropsMessages 20 (.invokevirtual 366) 3 23 := by decide +kernel
theorem d12_dropsMessages_23 : zd cX12_dropsMessages 23 (.aload_n 0) 1 24 := by decide +kernel
theorem d12_dropsMessages_24 : zd cX12_dropsMessages 24 (.iload_n 3) 1 25 := by decide +kernel
theorem d12_dropsMessages_25 : zd cX12_dropsMessages 25 (.iconst 2) 1 26 := by decide +kernel
theorem d12_dropsMessages_26 : zd cX12_dropsMessages 26 (.invokevirtual 366) 3 29 := by decide +kernel
theorem d12_dropsMessages_29 : zd cX12_dropsMessages 29 (.invokestatic 325) 3 32 := by decide +kernel
theorem d12_dropsMessages_32 : zd cX12_dropsMessages 32 (.iaload) 1 33 := by decide +kernel
theorem d12_dropsMessages_33 : zd cX12_dropsMessages 33 (.iload_n 1) 1 34 := by decide +kernel
theorem d12_dropsMessages_34 : zj cX12_dropsMessages 34 (.if_icmp .ne 6) 6 37 40 := by decide +kernel
theorem d12_dropsMessages_37 : zj cX12_dropsMessages 37 (.goto 44) 44 40 81 := by decide +kernel
theorem d12_dropsMessages_40 : zd cX12_dropsMessages 40 (.iconst 0) 1 41 := by decide +kernel
theorem d12_dropsMessages_41 : zd cX12_dropsMessages 41 (.istore 4) 2 43 := by decide +kernel
theorem d12_dropsMessages_43 : zd cX12_dropsMessages 43 (.iload 4) 2 45 := by decide +kernel
theorem d12_dropsMessages_45 : zd cX12_dropsMessages 45 (.bipush 10) 2 47 := by decide +kernel
theorem d12_dropsMessages_47 : zj cX12_dropsMessages 47 (.if_icmp .ge 31) 31 50 78 := by decide +kernel
theorem d12_dropsMessages_50 : zd cX12_dropsMessages 50 (.aload_n 0) 1 51 := by decide +kernel
theorem d12_dropsMessages_51 : zd cX12_dropsMessages 51 (.sipush 1274) 3 54 := by decide +kernel
theorem d12_dropsMessages_54 : zd cX12_dropsMessages 54 (.bipush 10) 2 56 := by decide +kernel
theorem d12_dropsMessages_56 : zd cX12_dropsMessages 56 (.iload_n 2) 1 57 := by decide +kernel
theorem d12_dropsMessages_57 : zd cX12_dropsMessages 57 (.imul) 1 58 := by decide +kernel
theorem d12_dropsMessages_58 : zd cX12_dropsMessages 58 (.iadd) 1 59 := by decide +kernel
theorem d12_dropsMessages_59 : zd cX12_dropsMessages 59 (.iload 4) 2 61 := by decide +kernel
theorem d12_dropsMessages_61 : zd cX12_dropsMessages 61 (.iadd) 1 62 := by decide +kernel
theorem d12_dropsMessages_62 : zd cX12_dropsMessages 62 (.aload_n 0) 1 63 := by decide +kernel
theorem d12_dropsMessages_63 : zd cX12_dropsMessages 63 (.iload_n 3) 1 64 := by decide +kernel
theorem d12_dropsMessages_64 : zd cX12_dropsMessages 64 (.iload 4) 2 66 := by decide +kernel
theorem d12_dropsMessages_66 : zd cX12_dropsMessages 66 (.invokevirtual 366) 3 69 := by decide +kernel
theorem d12_dropsMessages_69 : zd cX12_dropsMessages 69 (.invokevirtual 310) 3 72 := by decide +kernel
theorem d12_dropsMessages_72 : zd cX12_dropsMessages 72 (.iinc 4 1) 3 75 := by decide +kernel
theorem d12_dropsMessages_75 : zj cX12_dropsMessages 75 (.goto (-32)) (-32) 78 43 := by decide +kernel
theorem d12_dropsMessages_78 : zd cX12_dropsMessages 78 (.iinc 2 1) 3 81 := by decide +kernel
theorem d12_dropsMessages_81 : zd cX12_dropsMessages 81 (.iinc 3 1) 3 84 := by decide +kernel
theorem d12_dropsMessages_84 : zj cX12_dropsMessages 84 (.goto (-80)) (-80) 87 4 := by decide +kernel
theorem d12_dropsMessages_87 : zd cX12_dropsMessages 87 (.aload_n 0) 1 88 := by decide +kernel
theorem d12_dropsMessages_88 : zd cX12_dropsMessages 88 (.iconst 2) 1 89 := by decide +kernel
theorem d12_dropsMessages_89 : zd cX12_dropsMessages 89 (.iload_n 2) 1 90 := by decide +kernel
theorem d12_dropsMessages_90 : zd cX12_dropsMessages 90 (.invokevirtual 310) 3 93 := by decide +kernel
theorem d12_dropsMessages_93 : zd cX12_dropsMessages 93 (.return_) 1 94 := by decide +kernel
set_option maxHeartbeats 4000000 in
set_option maxRecDepth 20000 in
theorem c12_dropsMessages (l : Launch) (D : zDt) (Sh : zSh) (top : Nat) (hO : zOK Sh) (o_ : Nat) (v_l : Int32) (μ : zM) (μ_ : zM) (ho : (Sh o_).1 = 19) (h : f12_dropsMessages o_ v_l μ = some μ_) : zMet l D zK1 yX12_dropsMessages cX12_dropsMessages 5 none (zrm 2 43) [.ref o_, .int v_l] Sh top μ none Sh top μ_ 0 0 := by
  refine zMet_of (by decide) (Nat.le_of_ble_eq_true rfl) fun X hX1 hX2 fx fin => ?_
  subst hX1; subst hX2
  replace fx : zFix X cX12_dropsMessages RX12 (zrm 2 43) 5 := fx
  show zZ zK1 X (zT0 Sh top) μ 0 [(0, .ref o_), (1, .int v_l)] []
  unfold f12_dropsMessages at h
  refine z_iconst fx (v := 0) ic0 d12_dropsMessages_0 ?_
  refine z_istore_n fx (k := 2) (i := 2) rfl rfl (lv' := [(0, .ref o_), (1, .int v_l), (2, .int 0)]) rfl rfl d12_dropsMessages_1 ?_
  refine z_iconst fx (v := 0) ic0 d12_dropsMessages_2 ?_
  refine z_istore_n fx (k := 3) (i := 3) rfl rfl (lv' := [(0, .ref o_), (1, .int v_l), (2, .int 0), (3, .int 0)]) rfl rfl d12_dropsMessages_3 ?_
  obtain ⟨v_n_4, v_k_5, μ6, e27, h⟩ := zinv3 h
  have kx4 : zZ zK1 X (zT0 Sh top) μ6 87 [(0, .ref o_), (1, .int v_l), (2, .int v_n_4), (3, .int v_k_5)] [] := by
    refine z_take 3 (lv' := [(0, .ref o_), (1, .int v_l), (2, .int v_n_4)]) rfl ?_
    refine z_aload_n fx (k := 0) (i := 0) rfl rfl d12_dropsMessages_87 ?_
    refine z_iconst fx (v := 2) ic2 d12_dropsMessages_88 ?_
    refine z_iload_n fx (k := 2) (i := 2) rfl rfl d12_dropsMessages_89 ?_
    obtain ⟨μ22, e26, h⟩ := zinv h
    refine z_cVv fx (c12_puts (zLo X) (zDo X) Sh top hO o_ 2 v_n_4 μ6 _ ho e26) mv12_puts ml12_310 ho rfl rfl rfl rfl d12_dropsMessages_90 ?_
    cases h
    exact z_return fx fin d12_dropsMessages_93
  clear h
  have klr3 : ∀ (n : Nat) (v_n_1 : Int32) (v_k_2 : Int32) (μ3 : zM), zloop (fun s => f12_dropsMessages_L1 o_ v_l s.1 s.2.1 s.2.2) n (v_n_1, v_k_2, μ3) = some (v_n_4, v_k_5, μ6) → zZ zK1 X (zT0 Sh top) μ3 4 [(0, .ref o_), (1, .int v_l), (2, .int v_n_1), (3, .int v_k_2)] [] := by
    intro n
    induction n with
    | zero => intro v_n_1 v_k_2 μ3 hl2; cases hl2
    | succ n ih5 =>
      intro v_n_1 v_k_2 μ3 hl2
      obtain ⟨y, e1, hl2⟩ := zloop_inv hl2
      replace e1 : f12_dropsMessages_L1 o_ v_l v_n_1 v_k_2 μ3 = some y := e1
      unfold f12_dropsMessages_L1 at e1
      refine z_iload_n fx (k := 3) (i := 3) rfl rfl d12_dropsMessages_4 ?_
      refine z_aload_n fx (k := 0) (i := 0) rfl rfl d12_dropsMessages_5 ?_
      refine z_iconst fx (v := 2) ic2 d12_dropsMessages_6 ?_
      obtain ⟨t7, e6, e1⟩ := zinv e1
      refine z_cVr fx (c12_its (zLo X) (zDo X) Sh top hO o_ 2 μ3 _ ho e6) mv12_its ml12_316 ho rfl rfl rfl rfl d12_dropsMessages_7 ?_
      refine z_icmp_ge fx d12_dropsMessages_10 (fun c7 => ?_) (fun c7 => ?_)
      · replace e1 := zif_f c7 e1
        cases e1
        cases hl2
        exact kx4
      · replace e1 := zif_t c7 e1
        refine z_aload_n fx (k := 0) (i := 0) rfl rfl d12_dropsMessages_13 ?_
        refine z_getO fx 12 15 10 ho lf12_56 fk12_15 d12_dropsMessages_14 ?_
        refine z_aload_n fx (k := 0) (i := 0) rfl rfl d12_dropsMessages_17 ?_
        refine z_iload_n fx (k := 3) (i := 3) rfl rfl d12_dropsMessages_18 ?_
        refine z_iconst fx (v := 1) ic1 d12_dropsMessages_19 ?_
        obtain ⟨t8, e8, e1⟩ := zinv e1
        refine z_cVr fx (c12_msg (zLo X) (zDo X) Sh top hO o_ v_k_2 1 μ3 _ ho e8) mv12_msg ml12_366 ho rfl rfl rfl rfl d12_dropsMessages_20 ?_
        refine z_aload_n fx (k := 0) (i := 0) rfl rfl d12_dropsMessages_23 ?_
        refine z_iload_n fx (k := 3) (i := 3) rfl rfl d12_dropsMessages_24 ?_
        refine z_iconst fx (v := 2) ic2 d12_dropsMessages_25 ?_
        obtain ⟨t9, e9, e1⟩ := zinv e1
        refine z_cVr fx (c12_msg (zLo X) (zDo X) Sh top hO o_ v_k_2 2 μ3 _ ho e9) mv12_msg ml12_366 ho rfl rfl rfl rfl d12_dropsMessages_26 ?_
        obtain ⟨t10, e10, e1⟩ := zinv e1
        refine z_cSr fx (c12_placeOf (zLo X) (zDo X) Sh top hO t8 t9 μ3 _  e10) ms12_placeOf ml12_325 rfl rfl rfl rfl d12_dropsMessages_29 ?_
        obtain ⟨t11, e11, e1⟩ := zinv e1
        refine z_iald fx (ok12_15 hO ho) e11 d12_dropsMessages_32 ?_
        refine z_iload_n fx (k := 1) (i := 1) rfl rfl d12_dropsMessages_33 ?_
        refine z_icmp_ne fx d12_dropsMessages_34 (fun c12 => ?_) (fun c12 => ?_)
        · replace e1 := zif_f c12 e1
          refine z_iconst fx (v := 0) ic0 d12_dropsMessages_40 ?_
          refine z_istore fx (i := 4) rfl (lv' := [(0, .ref o_), (1, .int v_l), (2, .int v_n_1), (3, .int v_k_2), (4, .int 0)]) rfl rfl d12_dropsMessages_41 ?_
          obtain ⟨v_i_14, μ15, e24, e1⟩ := zinv2 e1
          have kx16 : zZ zK1 X (zT0 Sh top) μ15 78 [(0, .ref o_), (1, .int v_l), (2, .int v_n_1), (3, .int v_k_2), (4, .int v_i_14)] [] := by
            refine z_take 4 (lv' := [(0, .ref o_), (1, .int v_l), (2, .int v_n_1), (3, .int v_k_2)]) rfl ?_
            obtain ⟨v_n_19, e22, e1⟩ := zinv e1
            replace e22 := Option.some.inj e22
            refine z_iinc fx (i := 2) (x := v_n_1) (v := v_n_19) rfl (by rw [in1]; exact e22) rfl (lv' := [(0, .ref o_), (1, .int v_l), (2, .int v_n_19), (3, .int v_k_2)]) rfl rfl d12_dropsMessages_78 ?_
            obtain ⟨v_k_20, e23, e1⟩ := zinv e1
            replace e23 := Option.some.inj e23
            refine z_iinc fx (i := 3) (x := v_k_2) (v := v_k_20) rfl (by rw [in1]; exact e23) rfl (lv' := [(0, .ref o_), (1, .int v_l), (2, .int v_n_19), (3, .int v_k_20)]) rfl rfl d12_dropsMessages_81 ?_
            cases e1
            refine z_goto fx d12_dropsMessages_84 ?_
            exact ih5 _ _ _ hl2
          clear e1
          have klr15 : ∀ (n : Nat) (v_i_12 : Int32) (μ13 : zM), zloop (fun s => f12_dropsMessages_L2 o_ v_n_1 v_k_2 s.1 s.2) n (v_i_12, μ13) = some (v_i_14, μ15) → zZ zK1 X (zT0 Sh top) μ13 43 [(0, .ref o_), (1, .int v_l), (2, .int v_n_1), (3, .int v_k_2), (4, .int v_i_12)] [] := by
            intro n
            induction n with
            | zero => intro v_i_12 μ13 hl14; cases hl14
            | succ n ih17 =>
              intro v_i_12 μ13 hl14
              obtain ⟨y, e13, hl14⟩ := zloop_inv hl14
              replace e13 : f12_dropsMessages_L2 o_ v_n_1 v_k_2 v_i_12 μ13 = some y := e13
              unfold f12_dropsMessages_L2 at e13
              refine z_iload fx (i := 4) rfl d12_dropsMessages_43 ?_
              refine z_bipush fx (v := 10) bp10 d12_dropsMessages_45 ?_
              refine z_icmp_ge fx d12_dropsMessages_47 (fun c18 => ?_) (fun c18 => ?_)
              · replace e13 := zif_f c18 e13
                cases e13
                cases hl14
                exact kx16
              · replace e13 := zif_t c18 e13
                refine z_aload_n fx (k := 0) (i := 0) rfl rfl d12_dropsMessages_50 ?_
                refine z_sipush fx (v := 1274) sp1274 d12_dropsMessages_51 ?_
                refine z_bipush fx (v := 10) bp10 d12_dropsMessages_54 ?_
                refine z_iload_n fx (k := 2) (i := 2) rfl rfl d12_dropsMessages_56 ?_
                refine z_imul fx d12_dropsMessages_57 ?_
                refine z_iadd fx d12_dropsMessages_58 ?_
                refine z_iload fx (i := 4) rfl d12_dropsMessages_59 ?_
                refine z_iadd fx d12_dropsMessages_61 ?_
                refine z_aload_n fx (k := 0) (i := 0) rfl rfl d12_dropsMessages_62 ?_
                refine z_iload_n fx (k := 3) (i := 3) rfl rfl d12_dropsMessages_63 ?_
                refine z_iload fx (i := 4) rfl d12_dropsMessages_64 ?_
                obtain ⟨t16, e19, e13⟩ := zinv e13
                refine z_cVr fx (c12_msg (zLo X) (zDo X) Sh top hO o_ v_k_2 v_i_12 μ13 _ ho e19) mv12_msg ml12_366 ho rfl rfl rfl rfl d12_dropsMessages_66 ?_
                obtain ⟨μ17, e20, e13⟩ := zinv e13
                refine z_cVv fx (c12_puts (zLo X) (zDo X) Sh top hO o_ ((1274 + (10 * v_n_1)) + v_i_12) t16 μ13 _ ho e20) mv12_puts ml12_310 ho rfl rfl rfl rfl d12_dropsMessages_69 ?_
                obtain ⟨v_i_18, e21, e13⟩ := zinv e13
                replace e21 := Option.some.inj e21
                refine z_iinc fx (i := 4) (x := v_i_12) (v := v_i_18) rfl (by rw [in1]; exact e21) rfl (lv' := [(0, .ref o_), (1, .int v_l), (2, .int v_n_1), (3, .int v_k_2), (4, .int v_i_18)]) rfl rfl d12_dropsMessages_72 ?_
                cases e13
                refine z_goto fx d12_dropsMessages_75 ?_
                exact ih17 _ _ hl14
          exact klr15 _ _ _ e24
        · replace e1 := zif_t c12 e1
          refine z_goto fx d12_dropsMessages_37 ?_
          obtain ⟨v_k_21, e25, e1⟩ := zinv e1
          replace e25 := Option.some.inj e25
          refine z_iinc fx (i := 3) (x := v_k_2) (v := v_k_21) rfl (by rw [in1]; exact e25) rfl (lv' := [(0, .ref o_), (1, .int v_l), (2, .int v_n_1), (3, .int v_k_21)]) rfl rfl d12_dropsMessages_81 ?_
          cases e1
          refine z_goto fx d12_dropsMessages_84 ?_
          exact ih5 _ _ _ hl2
  exact klr3 _ _ _ _ e27
theorem d12_goesDown_0 : zd cX12_goesDown 0 (.aload_n 0) 1 1 := by decide +kernel
theorem d12_goesDown_1 : zd cX12_goesDown 1 (.iload_n 1) 1 2 := by decide +kernel
theorem d12_goesDown_2 : zd cX12_goesDown 2 (.invokevirtual 363) 3 5 := by decide +kernel
theorem d12_goesDown_5 : zd cX12_goesDown 5 (.aload_n 0) 1 6 := by decide +kernel
theorem d12_goesDown_6 : zd cX12_goesDown 6 (.iload_n 1) 1 7 := by decide +kernel
theorem d12_goesDown_7 : zd cX12_goesDown 7 (.invokevirtual 354) 3 10 := by decide +kernel
theorem d12_goesDown_10 : zd cX12_goesDown 10 (.aload_n 0) 1 11 := by decide +kernel
theorem d12_goesDown_11 : zd cX12_goesDown 11 (.aload_n 0) 1 12 := by decide +kernel
theorem d12_goesDown_12 : zd cX12_goesDown 12 (.getfield 56) 3 15 := by decide +kernel
theorem d12_goesDown_15 : zd cX12_goesDown 15 (.iload_n 1) 1 16 := by decide +kernel
theorem d12_goesDown_16 : zd cX12_goesDown 16 (.iaload) 1 17 := by decide +kernel
theorem d12_goesDown_17 : zd cX12_goesDown 17 (.invokevirtual 369) 3 20 := by decide +kernel
theorem d12_goesDown_20 : zd cX12_goesDown 20 (.return_) 1 21 := by decide +kernel
set_option maxHeartbeats 4000000 in
set_option maxRecDepth 20000 in
theorem c12_goesDown (l : Launch) (D : zDt) (Sh : zSh) (top : Nat) (hO : zOK Sh) (o_ : Nat) (v_p : Int32) (μ : zM) (μ_ : zM) (ho : (Sh o_).1 = 19) (h : f12_goesDown o_ v_p μ = some μ_) : zMet l D zK1 yX12_goesDown cX12_goesDown 2 none (zrm 3 67) [.ref o_, .int v_p] Sh top μ none Sh top μ_ 0 0 := by
  refine zMet_of (by decide) (Nat.le_of_ble_eq_true rfl) fun X hX1 hX2 fx fin => ?_
  subst hX1; subst hX2
  replace fx : zFix X cX12_goesDown RX12 (zrm 3 67) 2 := fx
  show zZ zK1 X (zT0 Sh top) μ 0 [(0, .ref o_), (1, .int v_p)] []
  unfold f12_goesDown at h
  refine z_aload_n fx (k := 0) (i := 0) rfl rfl d12_goesDown_0 ?_
  refine z_iload_n fx (k := 1) (i := 1) rfl rfl d12_goesDown_1 ?_
  obtain ⟨μ1, e1, h⟩ := zinv h
  refine z_cVv fx (c12_isFresh (zLo X) (zDo X) Sh top hO o_ v_p μ _ ho e1) mv12_isFresh ml12_363 ho rfl rfl rfl rfl d12_goesDown_2 ?_
  refine z_aload_n fx (k := 0) (i := 0) rfl rfl d12_goesDown_5 ?_
  refine z_iload_n fx (k := 1) (i := 1) rfl rfl d12_goesDown_6 ?_
  obtain ⟨μ2, e2, h⟩ := zinv h
  refine z_cVv fx (c12_forgetsAt (zLo X) (zDo X) Sh top hO o_ v_p μ1 _ ho e2) mv12_forgetsAt ml12_354 ho rfl rfl rfl rfl d12_goesDown_7 ?_
  refine z_aload_n fx (k := 0) (i := 0) rfl rfl d12_goesDown_10 ?_
  refine z_aload_n fx (k := 0) (i := 0) rfl rfl d12_goesDown_11 ?_
  refine z_getO fx 12 15 10 ho lf12_56 fk12_15 d12_goesDown_12 ?_
  refine z_iload_n fx (k := 1) (i := 1) rfl rfl d12_goesDown_15 ?_
  obtain ⟨t3, e3, h⟩ := zinv h
  refine z_iald fx (ok12_15 hO ho) e3 d12_goesDown_16 ?_
  obtain ⟨μ4, e4, h⟩ := zinv h
  refine z_cVv fx (c12_dropsMessages (zLo X) (zDo X) Sh top hO o_ t3 μ2 _ ho e4) mv12_dropsMessages ml12_369 ho rfl rfl rfl rfl d12_goesDown_17 ?_
  cases h
  exact z_return fx fin d12_goesDown_20
theorem d12_choosesBoth_0 : zd cX12_choosesBoth 0 (.aload_n 0) 1 1 := by decide +kernel
theorem d12_choosesBoth_1 : zd cX12_choosesBoth 1 (.getfield 38) 3 4 := by decide +kernel
theorem d12_choosesBoth_4 : zd cX12_choosesBoth 4 (.iconst 4) 1 5 := by decide +kernel
theorem d12_choosesBoth_5 : zd cX12_choosesBoth 5 (.iload_n 1) 1 6 := by decide +kernel
theorem d12_choosesBoth_6 : zd cX12_choosesBoth 6 (.imul) 1 7 := by decide +kernel
theorem d12_choosesBoth_7 : zd cX12_choosesBoth 7 (.iaload) 1 8 := by decide +kernel
theorem d12_choosesBoth_8 : zd cX12_choosesBoth 8 (.aload_n 0) 1 9 := by decide +kernel
theorem d12_choosesBoth_9 : zd cX12_choosesBoth 9 (.getfield 38) 3 12 := by decide +kernel
theorem d12_choosesBoth_12 : zd cX12_choosesBoth 12 (.iconst 4) 1 13 := by decide +kernel
theorem d12_choosesBoth_13 : zd cX12_choosesBoth 13 (.iload_n 1) 1 14 := by decide +kernel
theorem d12_choosesBoth_14 : zd cX12_choosesBoth 14 (.imul) 1 15 := by decide +kernel
theorem d12_choosesBoth_15 : zd cX12_choosesBoth 15 (.iconst 2) 1 16 := by decide +kernel
theorem d12_choosesBoth_16 : zd cX12_choosesBoth 16 (.iadd) 1 17 := by decide +kernel
theorem d12_choosesBoth_17 : zd cX12_choosesBoth 17 (.iaload) 1 18 := by decide +kernel
theorem d12_choosesBoth_18 : zd cX12_choosesBoth 18 (.invokestatic 360) 3 21 := by decide +kernel
theorem d12_choosesBoth_21 : zd cX12_choosesBoth 21 (.istore_n 2) 1 22 := by decide +kernel
theorem d12_choosesBoth_22 : zd cX12_choosesBoth 22 (.aload_n 0) 1 23 := by decide +kernel
theorem d12_choosesBoth_23 : zd cX12_choosesBoth 23 (.getfield 38) 3 26 := by decide +kernel
theorem d12_choosesBoth_26 : zd cX12_choosesBoth 26 (.iconst 4) 1 27 := by decide +kernel
theorem d12_choosesBoth_27 : zd cX12_choosesBoth 27 (.iload_n 1) 1 28 := by decide +kernel
theorem d12_choosesBoth_28 : zd cX12_choosesBoth 28 (.imul) 1 29 := by decide +kernel
theorem d12_choosesBoth_29 : zd cX12_choosesBoth 29 (.iaload) 1 30 := by decide +kernel
theorem d12_choosesBoth_30 : zd cX12_choosesBoth 30 (.aload_n 0) 1 31 := by decide +kernel
theorem d12_choosesBoth_31 : zd cX12_choosesBoth 31 (.getfield 38) 3 34 := by decide +kernel
theorem d12_choosesBoth_34 : zd cX12_choosesBoth 34 (.iconst 4) 1 35 := by decide +kernel
theorem d12_choosesBoth_35 : zd cX12_choosesBoth 35 (.iload_n 1) 1 36 := by decide +kernel
theorem d12_choosesBoth_36 : zd cX12_choosesBoth 36 (.imul) 1 37 := by decide +kernel
theorem d12_choosesBoth_37 : zd cX12_choosesBoth 37 (.iconst 2) 1 38 := by decide +kernel
theorem d12_choosesBoth_38 : zd cX12_choosesBoth 38 (.iadd) 1 39 := by decide +kernel
theorem d12_choosesBoth_39 : zd cX12_choosesBoth 39 (.iaload) 1 40 := by decide +kernel
theorem d12_choosesBoth_40 : zd cX12_choosesBoth 40 (.invokestatic 372) 3 43 := by decide +kernel
theorem d12_choosesBoth_43 : zd cX12_choosesBoth 43 (.istore_n 3) 1 44 := by decide +kernel
theorem d12_choosesBoth_44 : zd cX12_choosesBoth 44 (.aload_n 0) 1 45 := by decide +kernel
theorem d12_choosesBoth_45 : zd cX12_choosesBoth 45 (.iload_n 2) 1 46 := by decide +kernel
theorem d12_choosesBoth_46 : zd cX12_choosesBoth 46 (.invokevirtual 328) 3 49 := by decide +kernel
theorem d12_choosesBoth_49 : zj cX12_choosesBoth 49 (.ifCond .eq 8) 8 52 57 := by decide +kernel
theorem d12_choosesBoth_52 : zd cX12_choosesBoth 52 (.aload_n 0) 1 53 := by decide +kernel
theorem d12_choosesBoth_53 : zd cX12_choosesBoth 53 (.iload_n 2) 1 54 := by decide +kernel
theorem d12_choosesBoth_54 : zd cX12_choosesBoth 54 (.invokevirtual 375) 3 57 := by decide +kernel
theorem d12_choosesBoth_57 : zd cX12_choosesBoth 57 (.iload_n 3) 1 58 := by decide +kernel
theorem d12_choosesBoth_58 : zd cX12_choosesBoth 58 (.iload_n 2) 1 59 := by decide +kernel
theorem d12_choosesBoth_59 : zj cX12_choosesBoth 59 (.if_icmp .eq 16) 16 62 75 := by decide +kernel
theorem d12_choosesBoth_62 : zd cX12_choosesBoth 62 (.aload_n 0) 1 63 := by decide +kernel
theorem d12_choosesBoth_63 : zd cX12_choosesBoth 63 (.iload_n 3) 1 64 := by decide +kernel
theorem d12_choosesBoth_64 : zd cX12_choosesBoth 64 (.invokevirtual 328) 3 67 := by decide +kernel
theorem d12_choosesBoth_67 : zj cX12_choosesBoth 67 (.ifCond .eq 8) 8 70 75 := by decide +kernel
theorem d12_choosesBoth_70 : zd cX12_choosesBoth 70 (.aload_n 0) 1 71 := by decide +kernel
theorem d12_choosesBoth_71 : zd cX12_choosesBoth 71 (.iload_n 3) 1 72 := by decide +kernel
theorem d12_choosesBoth_72 : zd cX12_choosesBoth 72 (.invokevirtual 375) 3 75 := by decide +kernel
theorem d12_choosesBoth_75 : zd cX12_choosesBoth 75 (.return_) 1 76 := by decide +kernel
set_option maxHeartbeats 4000000 in
set_option maxRecDepth 20000 in
theorem c12_choosesBoth (l : Launch) (D : zDt) (Sh : zSh) (top : Nat) (hO : zOK Sh) (o_ : Nat) (v_l : Int32) (μ : zM) (μ_ : zM) (ho : (Sh o_).1 = 19) (h : f12_choosesBoth o_ v_l μ = some μ_) : zMet l D zK1 yX12_choosesBoth cX12_choosesBoth 4 none (zrm 7 157) [.ref o_, .int v_l] Sh top μ none Sh top μ_ 0 0 := by
  refine zMet_of (by decide) (Nat.le_of_ble_eq_true rfl) fun X hX1 hX2 fx fin => ?_
  subst hX1; subst hX2
  replace fx : zFix X cX12_choosesBoth RX12 (zrm 7 157) 4 := fx
  show zZ zK1 X (zT0 Sh top) μ 0 [(0, .ref o_), (1, .int v_l)] []
  unfold f12_choosesBoth at h
  refine z_aload_n fx (k := 0) (i := 0) rfl rfl d12_choosesBoth_0 ?_
  refine z_getO fx 12 9 4 ho lf12_38 fk12_9 d12_choosesBoth_1 ?_
  refine z_iconst fx (v := 4) ic4 d12_choosesBoth_4 ?_
  refine z_iload_n fx (k := 1) (i := 1) rfl rfl d12_choosesBoth_5 ?_
  refine z_imul fx d12_choosesBoth_6 ?_
  obtain ⟨t1, e1, h⟩ := zinv h
  refine z_iald fx (ok12_9 hO ho) e1 d12_choosesBoth_7 ?_
  refine z_aload_n fx (k := 0) (i := 0) rfl rfl d12_choosesBoth_8 ?_
  refine z_getO fx 12 9 4 ho lf12_38 fk12_9 d12_choosesBoth_9 ?_
  refine z_iconst fx (v := 4) ic4 d12_choosesBoth_12 ?_
  refine z_iload_n fx (k := 1) (i := 1) rfl rfl d12_choosesBoth_13 ?_
  refine z_imul fx d12_choosesBoth_14 ?_
  refine z_iconst fx (v := 2) ic2 d12_choosesBoth_15 ?_
  refine z_iadd fx d12_choosesBoth_16 ?_
  obtain ⟨t2, e2, h⟩ := zinv h
  refine z_iald fx (ok12_9 hO ho) e2 d12_choosesBoth_17 ?_
  obtain ⟨t3, e3, h⟩ := zinv h
  refine z_cSr fx (c12_least (zLo X) (zDo X) Sh top hO t1 t2 μ _  e3) ms12_least ml12_360 rfl rfl rfl rfl d12_choosesBoth_18 ?_
  refine z_istore_n fx (k := 2) (i := 2) rfl rfl (lv' := [(0, .ref o_), (1, .int v_l), (2, .int t3)]) rfl rfl d12_choosesBoth_21 ?_
  refine z_aload_n fx (k := 0) (i := 0) rfl rfl d12_choosesBoth_22 ?_
  refine z_getO fx 12 9 4 ho lf12_38 fk12_9 d12_choosesBoth_23 ?_
  refine z_iconst fx (v := 4) ic4 d12_choosesBoth_26 ?_
  refine z_iload_n fx (k := 1) (i := 1) rfl rfl d12_choosesBoth_27 ?_
  refine z_imul fx d12_choosesBoth_28 ?_
  obtain ⟨t4, e4, h⟩ := zinv h
  refine z_iald fx (ok12_9 hO ho) e4 d12_choosesBoth_29 ?_
  refine z_aload_n fx (k := 0) (i := 0) rfl rfl d12_choosesBoth_30 ?_
  refine z_getO fx 12 9 4 ho lf12_38 fk12_9 d12_choosesBoth_31 ?_
  refine z_iconst fx (v := 4) ic4 d12_choosesBoth_34 ?_
  refine z_iload_n fx (k := 1) (i := 1) rfl rfl d12_choosesBoth_35 ?_
  refine z_imul fx d12_choosesBoth_36 ?_
  refine z_iconst fx (v := 2) ic2 d12_choosesBoth_37 ?_
  refine z_iadd fx d12_choosesBoth_38 ?_
  obtain ⟨t5, e5, h⟩ := zinv h
  refine z_iald fx (ok12_9 hO ho) e5 d12_choosesBoth_39 ?_
  obtain ⟨t6, e6, h⟩ := zinv h
  refine z_cSr fx (c12_greatest (zLo X) (zDo X) Sh top hO t4 t5 μ _  e6) ms12_greatest ml12_372 rfl rfl rfl rfl d12_choosesBoth_40 ?_
  refine z_istore_n fx (k := 3) (i := 3) rfl rfl (lv' := [(0, .ref o_), (1, .int v_l), (2, .int t3), (3, .int t6)]) rfl rfl d12_choosesBoth_43 ?_
  obtain ⟨μ7, e7, h⟩ := zinv h
  have k8 : zZ zK1 X (zT0 Sh top) μ7 57 [(0, .ref o_), (1, .int v_l), (2, .int t3), (3, .int t6)] [] := by
    obtain ⟨b8, e10, h⟩ := zinv h
    have kt9 : b8 = true → zZ zK1 X (zT0 Sh top) μ7 70 [(0, .ref o_), (1, .int v_l), (2, .int t3), (3, .int t6)] [] := by
      intro hc
      replace h := zif_t hc h
      refine z_aload_n fx (k := 0) (i := 0) rfl rfl d12_choosesBoth_70 ?_
      refine z_iload_n fx (k := 3) (i := 3) rfl rfl d12_choosesBoth_71 ?_
      obtain ⟨μ9, e11, h⟩ := zinv h
      refine z_cVv fx (c12_chooses (zLo X) (zDo X) Sh top hO o_ t6 μ7 _ ho e11) mv12_chooses ml12_375 ho rfl rfl rfl rfl d12_choosesBoth_72 ?_
      cases h
      exact z_return fx fin d12_choosesBoth_75
    have kf9 : b8 = false → zZ zK1 X (zT0 Sh top) μ7 75 [(0, .ref o_), (1, .int v_l), (2, .int t3), (3, .int t6)] [] := by
      intro hc
      replace h := zif_f hc h
      cases h
      exact z_return fx fin d12_choosesBoth_75
    clear h
    refine z_iload_n fx (k := 3) (i := 3) rfl rfl d12_choosesBoth_57 ?_
    refine z_iload_n fx (k := 2) (i := 2) rfl rfl d12_choosesBoth_58 ?_
    refine z_icmp_eq fx d12_choosesBoth_59 (fun c12 => ?_) (fun c12 => ?_)
    · replace e10 := zif_t c12 e10
      cases e10
      exact kf9 rfl
    · replace e10 := zif_f c12 e10
      refine z_aload_n fx (k := 0) (i := 0) rfl rfl d12_choosesBoth_62 ?_
      refine z_iload_n fx (k := 3) (i := 3) rfl rfl d12_choosesBoth_63 ?_
      obtain ⟨t10, e13, e10⟩ := zinv e10
      refine z_cVr fx (c12_isOn (zLo X) (zDo X) Sh top hO o_ t6 μ7 _ ho e13) mv12_isOn ml12_328 ho rfl rfl rfl rfl d12_choosesBoth_64 ?_
      cases e10
      refine z_ifb_eq fx d12_choosesBoth_67 (fun c14 => ?_) (fun c14 => ?_)
      · exact kf9 c14
      · exact kt9 c14
  clear h
  refine z_aload_n fx (k := 0) (i := 0) rfl rfl d12_choosesBoth_44 ?_
  refine z_iload_n fx (k := 2) (i := 2) rfl rfl d12_choosesBoth_45 ?_
  obtain ⟨t11, e15, e7⟩ := zinv e7
  refine z_cVr fx (c12_isOn (zLo X) (zDo X) Sh top hO o_ t3 μ _ ho e15) mv12_isOn ml12_328 ho rfl rfl rfl rfl d12_choosesBoth_46 ?_
  refine z_ifb_eq fx d12_choosesBoth_49 (fun c16 => ?_) (fun c16 => ?_)
  · replace e7 := zif_f c16 e7
    cases e7
    exact k8
  · replace e7 := zif_t c16 e7
    refine z_aload_n fx (k := 0) (i := 0) rfl rfl d12_choosesBoth_52 ?_
    refine z_iload_n fx (k := 2) (i := 2) rfl rfl d12_choosesBoth_53 ?_
    obtain ⟨μ12, e17, e7⟩ := zinv e7
    refine z_cVv fx (c12_chooses (zLo X) (zDo X) Sh top hO o_ t3 μ _ ho e17) mv12_chooses ml12_375 ho rfl rfl rfl rfl d12_choosesBoth_54 ?_
    cases e7
    exact k8
theorem d12_isCut_0 : zd cX12_isCut 0 (.aload_n 0) 1 1 := by decide +kernel
theorem d12_isCut_1 : zd cX12_isCut 1 (.sipush 964) 3 4 := by decide +kernel
theorem d12_isCut_4 : zd cX12_isCut 4 (.iload_n 1) 1 5 := by decide +kernel
theorem d12_isCut_5 : zd cX12_isCut 5 (.iadd) 1 6 := by decide +kernel
theorem d12_isCut_6 : zd cX12_isCut 6 (.iconst 0) 1 7 := by decide +kernel
theorem d12_isCut_7 : zd cX12_isCut 7 (.invokevirtual 310) 3 10 := by decide +kernel
theorem d12_isCut_10 : zd cX12_isCut 10 (.aload_n 0) 1 11 := by decide +kernel
theorem d12_isCut_11 : zd cX12_isCut 11 (.aload_n 0) 1 12 := by decide +kernel
theorem d12_isCut_12 : zd cX12_isCut 12 (.iload_n 1) 1 13 := by decide +kernel
theorem d12_isCut_13 : zd cX12_isCut 13 (.iconst 0) 1 14 := by decide +kernel
theorem d12_isCut_14 : zd cX12_isCut 14 (.invokevirtual 378) 3 17 := by decide +kernel
theorem d12_isCut_17 : zd cX12_isCut 17 (.invokevirtual 381) 3 20 := by decide +kernel
theorem d12_isCut_20 : zd cX12_isCut 20 (.aload_n 0) 1 21 := by decide +kernel
theorem d12_isCut_21 : zd cX12_isCut 21 (.aload_n 0) 1 22 := by decide +kernel
theorem d12_isCut_22 : zd cX12_isCut 22 (.iload_n 1) 1 23 := by decide +kernel
theorem d12_isCut_23 : zd cX12_isCut 23 (.iconst 1) 1 24 := by decide +kernel
theorem d12_isCut_24 : zd cX12_isCut 24 (.invokevirtual 378) 3 27 := by decide +kernel
theorem d12_isCut_27 : zd cX12_isCut 27 (.invokevirtual 381) 3 30 := by decide +kernel
theorem d12_isCut_30 : zd cX12_isCut 30 (.aload_n 0) 1 31 := by decide +kernel
theorem d12_isCut_31 : zd cX12_isCut 31 (.iload_n 1) 1 32 := by decide +kernel
theorem d12_isCut_32 : zd cX12_isCut 32 (.invokevirtual 384) 3 35 := by decide +kernel
theorem d12_isCut_35 : zd cX12_isCut 35 (.return_) 1 36 := by decide +kernel
set_option maxHeartbeats 4000000 in
set_option maxRecDepth 20000 in
theorem c12_isCut (l : Launch) (D : zDt) (Sh : zSh) (top : Nat) (hO : zOK Sh) (o_ : Nat) (v_l : Int32) (μ : zM) (μ_ : zM) (ho : (Sh o_).1 = 19) (h : f12_isCut o_ v_l μ = some μ_) : zMet l D zK1 yX12_isCut cX12_isCut 2 none (zrm 8 180) [.ref o_, .int v_l] Sh top μ none Sh top μ_ 0 0 := by
  refine zMet_of (by decide) (Nat.le_of_ble_eq_true rfl) fun X hX1 hX2 fx fin => ?_
  subst hX1; subst hX2
  replace fx : zFix X cX12_isCut RX12 (zrm 8 180) 2 := fx
  show zZ zK1 X (zT0 Sh top) μ 0 [(0, .ref o_), (1, .int v_l)] []
  unfold f12_isCut at h
  refine z_aload_n fx (k := 0) (i := 0) rfl rfl d12_isCut_0 ?_
  refine z_sipush fx (v := 964) sp964 d12_isCut_1 ?_
  refine z_iload_n fx (k := 1) (i := 1) rfl rfl d12_isCut_4 ?_
  refine z_iadd fx d12_isCut_5 ?_
  refine z_iconst fx (v := 0) ic0 d12_isCut_6 ?_
  obtain ⟨μ1, e1, h⟩ := zinv h
  refine z_cVv fx (c12_puts (zLo X) (zDo X) Sh top hO o_ (964 + v_l) 0 μ _ ho e1) mv12_puts ml12_310 ho rfl rfl rfl rfl d12_isCut_7 ?_
  refine z_aload_n fx (k := 0) (i := 0) rfl rfl d12_isCut_10 ?_
  refine z_aload_n fx (k := 0) (i := 0) rfl rfl d12_isCut_11 ?_
  refine z_iload_n fx (k := 1) (i := 1) rfl rfl d12_isCut_12 ?_
  refine z_iconst fx (v := 0) ic0 d12_isCut_13 ?_
  obtain ⟨t2, e2, h⟩ := zinv h
  refine z_cVr fx (c12_portOfEnd (zLo X) (zDo X) Sh top hO o_ v_l 0 μ1 _ ho e2) mv12_portOfEnd ml12_378 ho rfl rfl rfl rfl d12_isCut_14 ?_
  obtain ⟨μ3, e3, h⟩ := zinv h
  refine z_cVv fx (c12_goesDown (zLo X) (zDo X) Sh top hO o_ t2 μ1 _ ho e3) mv12_goesDown ml12_381 ho rfl rfl rfl rfl d12_isCut_17 ?_
  refine z_aload_n fx (k := 0) (i := 0) rfl rfl d12_isCut_20 ?_
  refine z_aload_n fx (k := 0) (i := 0) rfl rfl d12_isCut_21 ?_
  refine z_iload_n fx (k := 1) (i := 1) rfl rfl d12_isCut_22 ?_
  refine z_iconst fx (v := 1) ic1 d12_isCut_23 ?_
  obtain ⟨t4, e4, h⟩ := zinv h
  refine z_cVr fx (c12_portOfEnd (zLo X) (zDo X) Sh top hO o_ v_l 1 μ3 _ ho e4) mv12_portOfEnd ml12_378 ho rfl rfl rfl rfl d12_isCut_24 ?_
  obtain ⟨μ5, e5, h⟩ := zinv h
  refine z_cVv fx (c12_goesDown (zLo X) (zDo X) Sh top hO o_ t4 μ3 _ ho e5) mv12_goesDown ml12_381 ho rfl rfl rfl rfl d12_isCut_27 ?_
  refine z_aload_n fx (k := 0) (i := 0) rfl rfl d12_isCut_30 ?_
  refine z_iload_n fx (k := 1) (i := 1) rfl rfl d12_isCut_31 ?_
  obtain ⟨μ6, e6, h⟩ := zinv h
  refine z_cVv fx (c12_choosesBoth (zLo X) (zDo X) Sh top hO o_ v_l μ5 _ ho e6) mv12_choosesBoth ml12_384 ho rfl rfl rfl rfl d12_isCut_32 ?_
  cases h
  exact z_return fx fin d12_isCut_35
theorem d12_isMended_0 : zd cX12_isMended 0 (.aload_n 0) 1 1 := by decide +kernel
theorem d12_isMended_1 : zd cX12_isMended 1 (.sipush 964) 3 4 := by decide +kernel
theorem d12_isMended_4 : zd cX12_isMended 4 (.iload_n 1) 1 5 := by decide +kernel
theorem d12_isMended_5 : zd cX12_isMended 5 (.iadd) 1 6 := by decide +kernel
theorem d12_isMended_6 : zd cX12_isMended 6 (.iconst 1) 1 7 := by decide +kernel
theorem d12_isMended_7 : zd cX12_isMended 7 (.invokevirtual 310) 3 10 := by decide +kernel
theorem d12_isMended_10 : zd cX12_isMended 10 (.aload_n 0) 1 11 := by decide +kernel
theorem d12_isMended_11 : zd cX12_isMended 11 (.iload_n 1) 1 12 := by decide +kernel
theorem d12_isMended_12 : zd cX12_isMended 12 (.invokevirtual 331) 3 15 := by decide +kernel
theorem d12_isMended_15 : zj cX12_isMended 15 (.ifCond .eq 23) 23 18 38 := by decide +kernel
theorem d12_isMended_18 : zd cX12_isMended 18 (.aload_n 0) 1 19 := by decide +kernel
theorem d12_isMended_19 : zd cX12_isMended 19 (.aload_n 0) 1 20 := by decide +kernel
theorem d12_isMended_20 : zd cX12_isMended 20 (.iload_n 1) 1 21 := by decide +kernel
theorem d12_isMended_21 : zd cX12_isMended 21 (.iconst 0) 1 22 := by decide +kernel
theorem d12_isMended_22 : zd cX12_isMended 22 (.invokevirtual 378) 3 25 := by decide +kernel
theorem d12_isMended_25 : zd cX12_isMended 25 (.invokevirtual 387) 3 28 := by decide +kernel
theorem d12_isMended_28 : zd cX12_isMended 28 (.aload_n 0) 1 29 := by decide +kernel
theorem d12_isMended_29 : zd cX12_isMended 29 (.aload_n 0) 1 30 := by decide +kernel
theorem d12_isMended_30 : zd cX12_isMended 30 (.iload_n 1) 1 31 := by decide +kernel
theorem d12_isMended_31 : zd cX12_isMended 31 (.iconst 1) 1 32 := by decide +kernel
theorem d12_isMended_32 : zd cX12_isMended 32 (.invokevirtual 378) 3 35 := by decide +kernel
theorem d12_isMended_35 : zd cX12_isMended 35 (.invokevirtual 387) 3 38 := by decide +kernel
theorem d12_isMended_38 : zd cX12_isMended 38 (.aload_n 0) 1 39 := by decide +kernel
theorem d12_isMended_39 : zd cX12_isMended 39 (.iload_n 1) 1 40 := by decide +kernel
theorem d12_isMended_40 : zd cX12_isMended 40 (.invokevirtual 384) 3 43 := by decide +kernel
theorem d12_isMended_43 : zd cX12_isMended 43 (.return_) 1 44 := by decide +kernel
set_option maxHeartbeats 4000000 in
set_option maxRecDepth 20000 in
theorem c12_isMended (l : Launch) (D : zDt) (Sh : zSh) (top : Nat) (hO : zOK Sh) (o_ : Nat) (v_l : Int32) (μ : zM) (μ_ : zM) (ho : (Sh o_).1 = 19) (h : f12_isMended o_ v_l μ = some μ_) : zMet l D zK1 yX12_isMended cX12_isMended 2 none (zrm 8 180) [.ref o_, .int v_l] Sh top μ none Sh top μ_ 0 0 := by
  refine zMet_of (by decide) (Nat.le_of_ble_eq_true rfl) fun X hX1 hX2 fx fin => ?_
  subst hX1; subst hX2
  replace fx : zFix X cX12_isMended RX12 (zrm 8 180) 2 := fx
  show zZ zK1 X (zT0 Sh top) μ 0 [(0, .ref o_), (1, .int v_l)] []
  unfold f12_isMended at h
  refine z_aload_n fx (k := 0) (i := 0) rfl rfl d12_isMended_0 ?_
  refine z_sipush fx (v := 964) sp964 d12_isMended_1 ?_
  refine z_iload_n fx (k := 1) (i := 1) rfl rfl d12_isMended_4 ?_
  refine z_iadd fx d12_isMended_5 ?_
  refine z_iconst fx (v := 1) ic1 d12_isMended_6 ?_
  obtain ⟨μ1, e1, h⟩ := zinv h
  refine z_cVv fx (c12_puts (zLo X) (zDo X) Sh top hO o_ (964 + v_l) 1 μ _ ho e1) mv12_puts ml12_310 ho rfl rfl rfl rfl d12_isMended_7 ?_
  obtain ⟨μ2, e2, h⟩ := zinv h
  have k3 : zZ zK1 X (zT0 Sh top) μ2 38 [(0, .ref o_), (1, .int v_l)] [] := by
    refine z_aload_n fx (k := 0) (i := 0) rfl rfl d12_isMended_38 ?_
    refine z_iload_n fx (k := 1) (i := 1) rfl rfl d12_isMended_39 ?_
    obtain ⟨μ3, e4, h⟩ := zinv h
    refine z_cVv fx (c12_choosesBoth (zLo X) (zDo X) Sh top hO o_ v_l μ2 _ ho e4) mv12_choosesBoth ml12_384 ho rfl rfl rfl rfl d12_isMended_40 ?_
    cases h
    exact z_return fx fin d12_isMended_43
  clear h
  refine z_aload_n fx (k := 0) (i := 0) rfl rfl d12_isMended_10 ?_
  refine z_iload_n fx (k := 1) (i := 1) rfl rfl d12_isMended_11 ?_
  obtain ⟨t4, e5, e2⟩ := zinv e2
  refine z_cVr fx (c12_isUpLink (zLo X) (zDo X) Sh top hO o_ v_l μ1 _ ho e5) mv12_isUpLink ml12_331 ho rfl rfl rfl rfl d12_isMended_12 ?_
  refine z_ifb_eq fx d12_isMended_15 (fun c6 => ?_) (fun c6 => ?_)
  · replace e2 := zif_f c6 e2
    cases e2
    exact k3
  · replace e2 := zif_t c6 e2
    refine z_aload_n fx (k := 0) (i := 0) rfl rfl d12_isMended_18 ?_
    refine z_aload_n fx (k := 0) (i := 0) rfl rfl d12_isMended_19 ?_
    refine z_iload_n fx (k := 1) (i := 1) rfl rfl d12_isMended_20 ?_
    refine z_iconst fx (v := 0) ic0 d12_isMended_21 ?_
    obtain ⟨t5, e7, e2⟩ := zinv e2
    refine z_cVr fx (c12_portOfEnd (zLo X) (zDo X) Sh top hO o_ v_l 0 μ1 _ ho e7) mv12_portOfEnd ml12_378 ho rfl rfl rfl rfl d12_isMended_22 ?_
    obtain ⟨μ6, e8, e2⟩ := zinv e2
    refine z_cVv fx (c12_comesUp (zLo X) (zDo X) Sh top hO o_ t5 μ1 _ ho e8) mv12_comesUp ml12_387 ho rfl rfl rfl rfl d12_isMended_25 ?_
    refine z_aload_n fx (k := 0) (i := 0) rfl rfl d12_isMended_28 ?_
    refine z_aload_n fx (k := 0) (i := 0) rfl rfl d12_isMended_29 ?_
    refine z_iload_n fx (k := 1) (i := 1) rfl rfl d12_isMended_30 ?_
    refine z_iconst fx (v := 1) ic1 d12_isMended_31 ?_
    obtain ⟨t7, e9, e2⟩ := zinv e2
    refine z_cVr fx (c12_portOfEnd (zLo X) (zDo X) Sh top hO o_ v_l 1 μ6 _ ho e9) mv12_portOfEnd ml12_378 ho rfl rfl rfl rfl d12_isMended_32 ?_
    obtain ⟨μ8, e10, e2⟩ := zinv e2
    refine z_cVv fx (c12_comesUp (zLo X) (zDo X) Sh top hO o_ t7 μ6 _ ho e10) mv12_comesUp ml12_387 ho rfl rfl rfl rfl d12_isMended_35 ?_
    cases e2
    exact k3
