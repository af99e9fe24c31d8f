/-! CHANCE, UNDO -/
theorem d11_chance_0 : zd cX11_chance 0 (.iload_n 1) 1 1 := by decide +kernel
theorem d11_chance_1 : zd cX11_chance 1 (.iconst 1) 1 2 := by decide +kernel
theorem d11_chance_2 : zj cX11_chance 2 (.if_icmp .lt 37) (37) 5 39 := by decide +kernel
theorem d11_chance_5 : zd cX11_chance 5 (.iload_n 1) 1 6 := by decide +kernel
theorem d11_chance_6 : zd cX11_chance 6 (.bipush 20) 2 8 := by decide +kernel
theorem d11_chance_8 : zj cX11_chance 8 (.if_icmp .gt 31) (31) 11 39 := by decide +kernel
theorem d11_chance_11 : zd cX11_chance 11 (.aload_n 0) 1 12 := by decide +kernel
theorem d11_chance_12 : zd cX11_chance 12 (.getfield 56) 3 15 := by decide +kernel
theorem d11_chance_15 : zd cX11_chance 15 (.getfield 131) 3 18 := by decide +kernel
theorem d11_chance_18 : zj cX11_chance 18 (.ifCond .eq 21) (21) 21 39 := by decide +kernel
theorem d11_chance_21 : zd cX11_chance 21 (.aload_n 0) 1 22 := by decide +kernel
theorem d11_chance_22 : zd cX11_chance 22 (.getfield 75) 3 25 := by decide +kernel
theorem d11_chance_25 : zd cX11_chance 25 (.getfield 137) 3 28 := by decide +kernel
theorem d11_chance_28 : zd cX11_chance 28 (.bipush 16) 2 30 := by decide +kernel
theorem d11_chance_30 : zd cX11_chance 30 (.iload_n 1) 1 31 := by decide +kernel
theorem d11_chance_31 : zd cX11_chance 31 (.imul) 1 32 := by decide +kernel
theorem d11_chance_32 : zd cX11_chance 32 (.iadd) 1 33 := by decide +kernel
theorem d11_chance_33 : zd cX11_chance 33 (.sipush 9999) 3 36 := by decide +kernel
theorem d11_chance_36 : zj cX11_chance 36 (.if_icmp .le 9) (9) 39 45 := by decide +kernel
theorem d11_chance_39 : zd cX11_chance 39 (.aload_n 0) 1 40 := by decide +kernel
theorem d11_chance_40 : zd cX11_chance 40 (.iconst 2) 1 41 := by decide +kernel
theorem d11_chance_41 : zd cX11_chance 41 (.invokevirtual 89) 3 44 := by decide +kernel
theorem d11_chance_44 : zd cX11_chance 44 (.ireturn) 1 45 := by decide +kernel
theorem d11_chance_45 : zd cX11_chance 45 (.aload_n 0) 1 46 := by decide +kernel
theorem d11_chance_46 : zd cX11_chance 46 (.invokevirtual 386) 3 49 := by decide +kernel
theorem d11_chance_49 : zd cX11_chance 49 (.iconst 0) 1 50 := by decide +kernel
theorem d11_chance_50 : zd cX11_chance 50 (.istore_n 2) 1 51 := by decide +kernel
theorem d11_chance_51 : zd cX11_chance 51 (.iload_n 2) 1 52 := by decide +kernel
theorem d11_chance_52 : zd cX11_chance 52 (.iload_n 1) 1 53 := by decide +kernel
theorem d11_chance_53 : zj cX11_chance 53 (.if_icmp .ge 67) (67) 56 120 := by decide +kernel
theorem d11_chance_56 : zd cX11_chance 56 (.aload_n 0) 1 57 := by decide +kernel
theorem d11_chance_57 : zd cX11_chance 57 (.aload_n 0) 1 58 := by decide +kernel
theorem d11_chance_58 : zd cX11_chance 58 (.getfield 56) 3 61 := by decide +kernel
theorem d11_chance_61 : zd cX11_chance 61 (.getfield 131) 3 64 := by decide +kernel
theorem d11_chance_64 : zd cX11_chance 64 (.invokevirtual 429) 3 67 := by decide +kernel
theorem d11_chance_67 : zd cX11_chance 67 (.istore_n 3) 1 68 := by decide +kernel
theorem d11_chance_68 : zd cX11_chance 68 (.aload_n 0) 1 69 := by decide +kernel
theorem d11_chance_69 : zd cX11_chance 69 (.getfield 75) 3 72 := by decide +kernel
theorem d11_chance_72 : zd cX11_chance 72 (.getfield 188) 3 75 := by decide +kernel
theorem d11_chance_75 : zd cX11_chance 75 (.iload_n 3) 1 76 := by decide +kernel
theorem d11_chance_76 : zd cX11_chance 76 (.baload) 1 77 := by decide +kernel
theorem d11_chance_77 : zj cX11_chance 77 (.ifCond .eq 14) (14) 80 91 := by decide +kernel
theorem d11_chance_80 : zd cX11_chance 80 (.aload_n 0) 1 81 := by decide +kernel
theorem d11_chance_81 : zd cX11_chance 81 (.getfield 75) 3 84 := by decide +kernel
theorem d11_chance_84 : zd cX11_chance 84 (.iload_n 3) 1 85 := by decide +kernel
theorem d11_chance_85 : zd cX11_chance 85 (.invokevirtual 331) 3 88 := by decide +kernel
theorem d11_chance_88 : zj cX11_chance 88 (.goto 11) (11) 91 99 := by decide +kernel
theorem d11_chance_91 : zd cX11_chance 91 (.aload_n 0) 1 92 := by decide +kernel
theorem d11_chance_92 : zd cX11_chance 92 (.getfield 75) 3 95 := by decide +kernel
theorem d11_chance_95 : zd cX11_chance 95 (.iload_n 3) 1 96 := by decide +kernel
theorem d11_chance_96 : zd cX11_chance 96 (.invokevirtual 394) 3 99 := by decide +kernel
theorem d11_chance_99 : zd cX11_chance 99 (.aload_n 0) 1 100 := by decide +kernel
theorem d11_chance_100 : zd cX11_chance 100 (.getfield 75) 3 103 := by decide +kernel
theorem d11_chance_103 : zd cX11_chance 103 (.aload_n 0) 1 104 := by decide +kernel
theorem d11_chance_104 : zd cX11_chance 104 (.bipush 16) 2 106 := by decide +kernel
theorem d11_chance_106 : zd cX11_chance 106 (.invokevirtual 429) 3 109 := by decide +kernel
theorem d11_chance_109 : zd cX11_chance 109 (.iconst 1) 1 110 := by decide +kernel
theorem d11_chance_110 : zd cX11_chance 110 (.iadd) 1 111 := by decide +kernel
theorem d11_chance_111 : zd cX11_chance 111 (.invokevirtual 389) 3 114 := by decide +kernel
theorem d11_chance_114 : zd cX11_chance 114 (.iinc 2 1) 3 117 := by decide +kernel
theorem d11_chance_117 : zj cX11_chance 117 (.goto (-66)) (-66) 120 51 := by decide +kernel
theorem d11_chance_120 : zd cX11_chance 120 (.aload_n 0) 1 121 := by decide +kernel
theorem d11_chance_121 : zd cX11_chance 121 (.getfield 75) 3 124 := by decide +kernel
theorem d11_chance_124 : zd cX11_chance 124 (.invokevirtual 146) 3 127 := by decide +kernel
theorem d11_chance_127 : zd cX11_chance 127 (.ireturn) 1 128 := by decide +kernel
def f11_chance_L1 (o_ : Nat) (v_n v_k : Int32) (μk : zM) : Option ((Int32 × zM) ⊕ (Int32 × zM)) :=
  (if clt v_k v_n = true then ((gR μk 1111 o_).bind fun w23 => (zb2 (f11_draw o_ (gF μk 1016 w23) μk) fun t28 μ27 => ((rZ μ27 (o_ + 55) 14 t28).bind fun t29 => (if t29 = true then ((f8_cutLink (o_ + 51) t28 μ27).bind fun μ40 => (zb2 (f11_draw o_ 16 μ40) fun t43 μ42 => ((f8_steps (o_ + 51) (t43 + 1) μ42).bind fun μ45 => (some (.inl (v_k + 1, μ45)))))) else ((f8_mendLink (o_ + 51) t28 μ27).bind fun μ33 => (zb2 (f11_draw o_ 16 μ33) fun t36 μ35 => ((f8_steps (o_ + 51) (t36 + 1) μ35).bind fun μ38 => (some (.inl (v_k + 1, μ38)))))))))) else (some (.inr (v_k, μk))))
def f11_chance (o_ top : Nat) (v_n : Int32) (μ : zM) : Option (Int32 × Bool × zM) :=
  (if clt v_n 1 = true then (zb2 (f11_refuse o_ 2 μ) fun t4 μ3 => (some (t4, false, μ3))) else (if clt 20 v_n = true then (zb2 (f11_refuse o_ 2 μ) fun t8 μ7 => (some (t8, false, μ7))) else ((gR μ 1111 o_).bind fun w9 => (if ceq (gF μ 1016 w9) 0 = true then (zb2 (f11_refuse o_ 2 μ) fun t15 μ14 => (some (t15, false, μ14))) else (if clt 9999 ((gF μ 813 (o_ + 51)) + (16 * v_n)) = true then (zb2 (f11_refuse o_ 2 μ) fun t48 μ47 => (some (t48, false, μ47))) else (zb2 (f11_keepPast o_ top μ) fun b17 μ18 => (zb2 (zloop (fun s => f11_chance_L1 o_ v_n s.1 s.2) 1000000 (0, μ18)) fun v_e μe => ((f8_countWhole (o_ + 51) μe).bind fun t21 => (some (t21, b17, μe))))))))))
set_option maxHeartbeats 4000000 in
theorem c11_chance (l : Launch) (D : zDt) (Sh : zSh) (top : Nat) (o_ : Nat) (v_n : Int32) (μ : zM) (r_ : Int32) (b_ : Bool) (μ_ : zM) (hk : zPk D Sh top o_) (h : f11_chance o_ top v_n μ = some (r_, b_, μ_)) : zMet l D zK1 yX11_chance cX11_chance 4 (some .int) (zrc 7 165 261 1976) [.ref o_, .int v_n] Sh top μ (some (.int r_)) (shN b_ Sh top) (topN b_ top) μ_ 261 1976 := by
  refine zMet_of (by decide) (Nat.le_of_ble_eq_true rfl) fun X hX1 hX2 fx fin => ?_
  subst hX1; subst hX2
  replace fx : zFix X cX11_chance RX11 (zrc 7 165 261 1976) 4 := fx
  have hO := hk.1
  have ho := hk.2.2.2.2
  show zZ zK1 X (Sh, top, 0, 0) μ 0 [(0, .ref o_), (1, .int v_n)] []
  unfold f11_chance at h
  refine z_iload_n fx (k := 1) (i := 1) rfl rfl d11_chance_0 ?_
  refine z_iconst fx (v := 1) (by decide) d11_chance_1 ?_
  refine z_icmp_lt fx d11_chance_2 (fun c1 => ?_) (fun c1 => ?_)
  · replace h := zif_t c1 h
    refine z_aload_n fx (k := 0) (i := 0) rfl rfl d11_chance_39 ?_
    refine z_iconst fx (v := 2) (by decide) d11_chance_40 ?_
    obtain ⟨t4, μ3, e2, h⟩ := zinv2 h
    refine z_qVr fx (c11_refuse (zLo X) (zDo X) Sh top hO o_ 2 μ _ _ ho e2) mv11_refuse ml11_89 ho rfl rfl rfl rfl d11_chance_41 ?_
    cases h
    refine z_widen (c' := 261) (s' := 1976) (Nat.zero_le _) (Nat.zero_le _) ?_
    exact z_ireturn fx fin d11_chance_44
  · replace h := zif_f c1 h
    refine z_iload_n fx (k := 1) (i := 1) rfl rfl d11_chance_5 ?_
    refine z_bipush fx (v := 20) (by decide) d11_chance_6 ?_
    refine z_icmp_gt fx d11_chance_8 (fun c5 => ?_) (fun c5 => ?_)
    · replace h := zif_t c5 h
      refine z_aload_n fx (k := 0) (i := 0) rfl rfl d11_chance_39 ?_
      refine z_iconst fx (v := 2) (by decide) d11_chance_40 ?_
      obtain ⟨t8, μ7, e6, h⟩ := zinv2 h
      refine z_qVr fx (c11_refuse (zLo X) (zDo X) Sh top hO o_ 2 μ _ _ ho e6) mv11_refuse ml11_89 ho rfl rfl rfl rfl d11_chance_41 ?_
      cases h
      refine z_widen (c' := 261) (s' := 1976) (Nat.zero_le _) (Nat.zero_le _) ?_
      exact z_ireturn fx fin d11_chance_44
    · replace h := zif_f c5 h
      refine z_aload_n fx (k := 0) (i := 0) rfl rfl d11_chance_11 ?_
      obtain ⟨w9, e10, h⟩ := zinv h
      refine z_getR fx 11 11 1111 17 ho lf11_56 ⟨fk11_11, rfl⟩ e10 d11_chance_12 (fun tw11 => ?_)
      refine z_getI fx 10 16 1016 tw11 lf11_131 ⟨fk10_16, rfl⟩ d11_chance_15 ?_
      refine z_if_eq fx d11_chance_18 (fun c12 => ?_) (fun c12 => ?_)
      · replace h := zif_t c12 h
        refine z_aload_n fx (k := 0) (i := 0) rfl rfl d11_chance_39 ?_
        refine z_iconst fx (v := 2) (by decide) d11_chance_40 ?_
        obtain ⟨t15, μ14, e13, h⟩ := zinv2 h
        refine z_qVr fx (c11_refuse (zLo X) (zDo X) Sh top hO o_ 2 μ _ _ ho e13) mv11_refuse ml11_89 ho rfl rfl rfl rfl d11_chance_41 ?_
        cases h
        refine z_widen (c' := 261) (s' := 1976) (Nat.zero_le _) (Nat.zero_le _) ?_
        exact z_ireturn fx fin d11_chance_44
      · replace h := zif_f c12 h
        refine z_aload_n fx (k := 0) (i := 0) rfl rfl d11_chance_21 ?_
        refine z_getO fx 11 3 51 ho lf11_75 fk11_3 d11_chance_22 ?_
        refine z_getI fx 8 13 813 (ok11_3 hO ho) lf11_137 ⟨fk8_13, rfl⟩ d11_chance_25 ?_
        refine z_bipush fx (v := 16) (by decide) d11_chance_28 ?_
        refine z_iload_n fx (k := 1) (i := 1) rfl rfl d11_chance_30 ?_
        refine z_imul fx d11_chance_31 ?_
        refine z_iadd fx d11_chance_32 ?_
        refine z_sipush fx (v := 9999) (by decide) d11_chance_33 ?_
        refine z_icmp_le fx d11_chance_36 (fun c16 => ?_) (fun c16 => ?_)
        · replace h := zif_f c16 h
          refine z_aload_n fx (k := 0) (i := 0) rfl rfl d11_chance_45 ?_
          obtain ⟨b17, μ18, e19, h⟩ := zinv2 h
          refine z_callV fx (As := []) (v := none) [] (c11_keepPast (zLo X) o_ μ b17 μ18 hk e19) mv11_keepPast.1 mv11_keepPast.2.1 mv11_keepPast.2.2.1 (zTb6 125 rfl rfl) mv11_keepPast.2.2.2 ho rfl ⟨rfl, rfl, Nat.le_of_ble_eq_true rfl, Nat.le_of_ble_eq_true rfl, (by show 0 + 261 ≤ 261; omega), (by show 0 + 1976 ≤ 1976; omega)⟩ rfl (Nat.le_of_ble_eq_true rfl) d11_chance_46 ?_
          have hk1 := hk.nx b17
          have hO1 := hk1.1
          have ho1 := hk1.2.2.2.2
          show zZ zK1 X (shN b17 Sh top, topN b17 top, 261, 1976) μ18 49 [(0, .ref o_), (1, .int v_n)] []
          refine z_iconst fx (v := 0) (by decide) d11_chance_49 ?_
          refine z_istore_n fx (k := 2) (i := 2) rfl rfl (lv' := [(0, .ref o_), (1, .int v_n), (2, .int 0)]) rfl rfl d11_chance_50 ?_
          obtain ⟨v_e, μe, eL, h⟩ := zinv2 h
          have kx : zZ zK1 X ((shN b17 Sh top), (topN b17 top), 261, 1976) μe 120 [(0, .ref o_), (1, .int v_n), (2, .int v_e)] [] := by
            refine z_aload_n fx (k := 0) (i := 0) rfl rfl d11_chance_120 ?_
            refine z_getO fx 11 3 51 ho1 lf11_75 fk11_3 d11_chance_121 ?_
            obtain ⟨t21, e20, h⟩ := zinv h
            refine z_qVr fx (c8_countWhole (zLo X) (zDo X) (shN b17 Sh top) (topN b17 top) hO1 (o_ + 51) μe _ (ok11_3 hO1 ho1) e20) mv8_countWhole ml11_146 (ok11_3 hO1 ho1) rfl rfl rfl rfl d11_chance_124 ?_
            cases h
            exact z_ireturn fx fin d11_chance_127
          clear h
          have klr : ∀ (n : Nat) (v_k : Int32) (μk : zM), zloop (fun s => f11_chance_L1 o_ v_n s.1 s.2) n (v_k, μk) = some (v_e, μe) → zZ zK1 X ((shN b17 Sh top), (topN b17 top), 261, 1976) μk 51 [(0, .ref o_), (1, .int v_n), (2, .int v_k)] [] := by
            intro n
            induction n with
            | zero => intro v_k μk hl; cases hl
            | succ n ih =>
              intro v_k μk hl
              obtain ⟨y, e1, hl⟩ := zloop_inv hl
              replace e1 : f11_chance_L1 o_ v_n v_k μk = some y := e1
              unfold f11_chance_L1 at e1
              refine z_iload_n fx (k := 2) (i := 2) rfl rfl d11_chance_51 ?_
              refine z_iload_n fx (k := 1) (i := 1) rfl rfl d11_chance_52 ?_
              refine z_icmp_ge fx d11_chance_53 (fun c22 => ?_) (fun c22 => ?_)
              · replace e1 := zif_f c22 e1
                cases e1
                cases hl
                skip
                exact kx
              · replace e1 := zif_t c22 e1
                refine z_aload_n fx (k := 0) (i := 0) rfl rfl d11_chance_56 ?_
                refine z_aload_n fx (k := 0) (i := 0) rfl rfl d11_chance_57 ?_
                obtain ⟨w23, e24, e1⟩ := zinv e1
                refine z_getR fx 11 11 1111 17 ho1 lf11_56 ⟨fk11_11, rfl⟩ e24 d11_chance_58 (fun tw25 => ?_)
                refine z_getI fx 10 16 1016 tw25 lf11_131 ⟨fk10_16, rfl⟩ d11_chance_61 ?_
                obtain ⟨t28, μ27, e26, e1⟩ := zinv2 e1
                refine z_qVr fx (c11_draw (zLo X) (zDo X) (shN b17 Sh top) (topN b17 top) hO1 o_ (gF μk 1016 w23) μk _ _ ho1 e26) mv11_draw (zTb6 225 rfl rfl) ho1 rfl rfl rfl rfl d11_chance_64 ?_
                refine z_istore_n fx (k := 3) (i := 3) rfl rfl (lv' := [(0, .ref o_), (1, .int v_n), (2, .int v_k), (3, .int t28)]) rfl rfl d11_chance_67 ?_
                refine z_aload_n fx (k := 0) (i := 0) rfl rfl d11_chance_68 ?_
                refine z_getO fx 11 3 51 ho1 lf11_75 fk11_3 d11_chance_69 ?_
                refine z_getO fx 8 3 4 (ok11_3 hO1 ho1) lf11_188 fk8_3 d11_chance_72 ?_
                refine z_iload_n fx (k := 3) (i := 3) rfl rfl d11_chance_75 ?_
                obtain ⟨t29, e30, e1⟩ := zinv e1
                refine z_zald fx (ok8_3 hO1 (ok11_3 hO1 ho1)) e30 d11_chance_76 ?_
                refine z_ifb_eq fx d11_chance_77 (fun c31 => ?_) (fun c31 => ?_)
                · replace e1 := zif_f c31 e1
                  refine z_aload_n fx (k := 0) (i := 0) rfl rfl d11_chance_91 ?_
                  refine z_getO fx 11 3 51 ho1 lf11_75 fk11_3 d11_chance_92 ?_
                  refine z_iload_n fx (k := 3) (i := 3) rfl rfl d11_chance_95 ?_
                  obtain ⟨μ33, e32, e1⟩ := zinv e1
                  refine z_qVv fx (c8_mendLink (zLo X) (zDo X) (shN b17 Sh top) (topN b17 top) hO1 (o_ + 51) t28 μ27 _ (ok11_3 hO1 ho1) e32) mv8_mendLink (zTb6 142 rfl rfl) (ok11_3 hO1 ho1) rfl rfl rfl rfl d11_chance_96 ?_
                  refine z_aload_n fx (k := 0) (i := 0) rfl rfl d11_chance_99 ?_
                  refine z_getO fx 11 3 51 ho1 lf11_75 fk11_3 d11_chance_100 ?_
                  refine z_aload_n fx (k := 0) (i := 0) rfl rfl d11_chance_103 ?_
                  refine z_bipush fx (v := 16) (by decide) d11_chance_104 ?_
                  obtain ⟨t36, μ35, e34, e1⟩ := zinv2 e1
                  refine z_qVr fx (c11_draw (zLo X) (zDo X) (shN b17 Sh top) (topN b17 top) hO1 o_ 16 μ33 _ _ ho1 e34) mv11_draw (zTb6 225 rfl rfl) ho1 rfl rfl rfl rfl d11_chance_106 ?_
                  refine z_iconst fx (v := 1) (by decide) d11_chance_109 ?_
                  refine z_iadd fx d11_chance_110 ?_
                  obtain ⟨μ38, e37, e1⟩ := zinv e1
                  refine z_qVv fx (c8_steps (zLo X) (zDo X) (shN b17 Sh top) (topN b17 top) hO1 (o_ + 51) (t36 + 1) μ35 _ (ok11_3 hO1 ho1) e37) mv8_steps (zTb6 129 rfl rfl) (ok11_3 hO1 ho1) rfl rfl rfl rfl d11_chance_111 ?_
                  cases e1
                  replace hl : zloop (fun s => f11_chance_L1 o_ v_n s.1 s.2) n (v_k + 1, _) = some (v_e, μe) := hl
                  refine z_iinc fx (i := 2) (x := v_k) (v := v_k + 1) rfl (by rfl) rfl (lv' := [(0, .ref o_), (1, .int v_n), (2, .int (v_k + 1)), (3, .int t28)]) rfl rfl d11_chance_114 ?_
                  refine z_goto fx d11_chance_117 ?_
                  refine z_take 3 (lv' := [(0, .ref o_), (1, .int v_n), (2, .int (v_k + 1))]) rfl ?_
                  exact ih _ _ hl
                · replace e1 := zif_t c31 e1
                  refine z_aload_n fx (k := 0) (i := 0) rfl rfl d11_chance_80 ?_
                  refine z_getO fx 11 3 51 ho1 lf11_75 fk11_3 d11_chance_81 ?_
                  refine z_iload_n fx (k := 3) (i := 3) rfl rfl d11_chance_84 ?_
                  obtain ⟨μ40, e39, e1⟩ := zinv e1
                  refine z_qVv fx (c8_cutLink (zLo X) (zDo X) (shN b17 Sh top) (topN b17 top) hO1 (o_ + 51) t28 μ27 _ (ok11_3 hO1 ho1) e39) mv8_cutLink ml11_331 (ok11_3 hO1 ho1) rfl rfl rfl rfl d11_chance_85 ?_
                  refine z_goto fx d11_chance_88 ?_
                  refine z_aload_n fx (k := 0) (i := 0) rfl rfl d11_chance_99 ?_
                  refine z_getO fx 11 3 51 ho1 lf11_75 fk11_3 d11_chance_100 ?_
                  refine z_aload_n fx (k := 0) (i := 0) rfl rfl d11_chance_103 ?_
                  refine z_bipush fx (v := 16) (by decide) d11_chance_104 ?_
                  obtain ⟨t43, μ42, e41, e1⟩ := zinv2 e1
                  refine z_qVr fx (c11_draw (zLo X) (zDo X) (shN b17 Sh top) (topN b17 top) hO1 o_ 16 μ40 _ _ ho1 e41) mv11_draw (zTb6 225 rfl rfl) ho1 rfl rfl rfl rfl d11_chance_106 ?_
                  refine z_iconst fx (v := 1) (by decide) d11_chance_109 ?_
                  refine z_iadd fx d11_chance_110 ?_
                  obtain ⟨μ45, e44, e1⟩ := zinv e1
                  refine z_qVv fx (c8_steps (zLo X) (zDo X) (shN b17 Sh top) (topN b17 top) hO1 (o_ + 51) (t43 + 1) μ42 _ (ok11_3 hO1 ho1) e44) mv8_steps (zTb6 129 rfl rfl) (ok11_3 hO1 ho1) rfl rfl rfl rfl d11_chance_111 ?_
                  cases e1
                  replace hl : zloop (fun s => f11_chance_L1 o_ v_n s.1 s.2) n (v_k + 1, _) = some (v_e, μe) := hl
                  refine z_iinc fx (i := 2) (x := v_k) (v := v_k + 1) rfl (by rfl) rfl (lv' := [(0, .ref o_), (1, .int v_n), (2, .int (v_k + 1)), (3, .int t28)]) rfl rfl d11_chance_114 ?_
                  refine z_goto fx d11_chance_117 ?_
                  refine z_take 3 (lv' := [(0, .ref o_), (1, .int v_n), (2, .int (v_k + 1))]) rfl ?_
                  exact ih _ _ hl
          exact klr _ _ _ eL
        · replace h := zif_t c16 h
          refine z_aload_n fx (k := 0) (i := 0) rfl rfl d11_chance_39 ?_
          refine z_iconst fx (v := 2) (by decide) d11_chance_40 ?_
          obtain ⟨t48, μ47, e46, h⟩ := zinv2 h
          refine z_qVr fx (c11_refuse (zLo X) (zDo X) Sh top hO o_ 2 μ _ _ ho e46) mv11_refuse ml11_89 ho rfl rfl rfl rfl d11_chance_41 ?_
          cases h
          refine z_widen (c' := 261) (s' := 1976) (Nat.zero_le _) (Nat.zero_le _) ?_
          exact z_ireturn fx fin d11_chance_44
theorem d11_undo_0 : zd cX11_undo 0 (.aload_n 0) 1 1 := by decide +kernel
theorem d11_undo_1 : zd cX11_undo 1 (.getfield 119) 3 4 := by decide +kernel
theorem d11_undo_4 : zj cX11_undo 4 (.ifCond .ne 9) (9) 7 13 := by decide +kernel
theorem d11_undo_7 : zd cX11_undo 7 (.aload_n 0) 1 8 := by decide +kernel
theorem d11_undo_8 : zd cX11_undo 8 (.iconst 4) 1 9 := by decide +kernel
theorem d11_undo_9 : zd cX11_undo 9 (.invokevirtual 97) 3 12 := by decide +kernel
theorem d11_undo_12 : zd cX11_undo 12 (.ireturn) 1 13 := by decide +kernel
theorem d11_undo_13 : zd cX11_undo 13 (.aload_n 0) 1 14 := by decide +kernel
theorem d11_undo_14 : zd cX11_undo 14 (.dup) 1 15 := by decide +kernel
theorem d11_undo_15 : zd cX11_undo 15 (.getfield 119) 3 18 := by decide +kernel
theorem d11_undo_18 : zd cX11_undo 18 (.iconst 1) 1 19 := by decide +kernel
theorem d11_undo_19 : zd cX11_undo 19 (.isub) 1 20 := by decide +kernel
theorem d11_undo_20 : zd cX11_undo 20 (.putfield 119) 3 23 := by decide +kernel
theorem d11_undo_23 : zd cX11_undo 23 (.aload_n 0) 1 24 := by decide +kernel
theorem d11_undo_24 : zd cX11_undo 24 (.getfield 15) 3 27 := by decide +kernel
theorem d11_undo_27 : zd cX11_undo 27 (.aload_n 0) 1 28 := by decide +kernel
theorem d11_undo_28 : zd cX11_undo 28 (.getfield 391) 3 31 := by decide +kernel
theorem d11_undo_31 : zd cX11_undo 31 (.aload_n 0) 1 32 := by decide +kernel
theorem d11_undo_32 : zd cX11_undo 32 (.getfield 119) 3 35 := by decide +kernel
theorem d11_undo_35 : zd cX11_undo 35 (.iadd) 1 36 := by decide +kernel
theorem d11_undo_36 : zd cX11_undo 36 (.bipush 20) 2 38 := by decide +kernel
theorem d11_undo_38 : zd cX11_undo 38 (.irem) 1 39 := by decide +kernel
theorem d11_undo_39 : zd cX11_undo 39 (.aaload) 1 40 := by decide +kernel
theorem d11_undo_40 : zd cX11_undo 40 (.astore_n 1) 1 41 := by decide +kernel
theorem d11_undo_41 : zd cX11_undo 41 (.aload_n 1) 1 42 := by decide +kernel
theorem d11_undo_42 : zj cX11_undo 42 (.ifnull 11) (11) 45 53 := by decide +kernel
theorem d11_undo_45 : zd cX11_undo 45 (.aload_n 0) 1 46 := by decide +kernel
theorem d11_undo_46 : zd cX11_undo 46 (.getfield 75) 3 49 := by decide +kernel
theorem d11_undo_49 : zd cX11_undo 49 (.aload_n 1) 1 50 := by decide +kernel
theorem d11_undo_50 : zd cX11_undo 50 (.invokevirtual 303) 3 53 := by decide +kernel
theorem d11_undo_53 : zd cX11_undo 53 (.iconst 1) 1 54 := by decide +kernel
theorem d11_undo_54 : zd cX11_undo 54 (.ireturn) 1 55 := by decide +kernel
def f11_undo (o_ top : Nat)  (μ : zM) : Option (Bool × Bool × zM) :=
  (if ceq (gF μ 1115 o_) 0 = true then (zb2 (f11_refuses o_ 4 μ) fun t58 μ57 => (some (t58, false, μ57))) else ((wF μ 1115 o_ ((gF μ 1115 o_) - 1)).bind fun μ50 => ((iRem ((gF μ50 1114 o_) + (gF μ50 1115 o_)) 20).bind fun t52 => ((rI 20 t52).bind fun jp => (gX μ50 (o_ + 2) jp).bind fun pp => ((f8_copyFrom (o_ + 51) pp μ50).bind fun μ55 => (some (true, false, μ55)))))))
set_option maxHeartbeats 4000000 in
theorem c11_undo (l : Launch) (D : zDt) (Sh : zSh) (top : Nat) (o_ : Nat)  (μ : zM) (r_ : Bool) (b_ : Bool) (μ_ : zM) (hk : zPk D Sh top o_) (h : f11_undo o_ top  μ = some (r_, b_, μ_)) : zMet l D zK1 yX11_undo cX11_undo 2 (some .boolean) (zrc 3 82 261 1976) [.ref o_] Sh top μ (some (.int (bI r_))) (shN b_ Sh top) (topN b_ top) μ_ 261 1976 := by
  refine zMet_of (by decide) (Nat.le_of_ble_eq_true rfl) fun X hX1 hX2 fx fin => ?_
  subst hX1; subst hX2
  replace fx : zFix X cX11_undo RX11 (zrc 3 82 261 1976) 2 := fx
  have hO := hk.1
  have ho := hk.2.2.2.2
  show zZ zK1 X (Sh, top, 0, 0) μ 0 [(0, .ref o_)] []
  unfold f11_undo at h
  refine z_aload_n fx (k := 0) (i := 0) rfl rfl d11_undo_0 ?_
  refine z_getI fx 11 15 1115 ho lf11_119 ⟨fk11_15, rfl⟩ d11_undo_1 ?_
  refine z_if_ne fx d11_undo_4 (fun c49 => ?_) (fun c49 => ?_)
  · replace h := zif_f c49 h
    refine z_aload_n fx (k := 0) (i := 0) rfl rfl d11_undo_13 ?_
    refine z_dup fx rfl d11_undo_14 ?_
    refine z_getI fx 11 15 1115 ho lf11_119 ⟨fk11_15, rfl⟩ d11_undo_15 ?_
    refine z_iconst fx (v := 1) (by decide) d11_undo_18 ?_
    refine z_isub fx d11_undo_19 ?_
    obtain ⟨μ50, e51, h⟩ := zinv h
    refine z_putI fx (ci := 11) 15 ho lf11_119 fp11_15 e51 d11_undo_20 ?_
    refine z_aload_n fx (k := 0) (i := 0) rfl rfl d11_undo_23 ?_
    refine z_getO fx 11 4 2 ho lf11_15 fk11_4 d11_undo_24 ?_
    refine z_aload_n fx (k := 0) (i := 0) rfl rfl d11_undo_27 ?_
    refine z_getI fx 11 14 1114 ho lf11_391 ⟨fk11_14, rfl⟩ d11_undo_28 ?_
    refine z_aload_n fx (k := 0) (i := 0) rfl rfl d11_undo_31 ?_
    refine z_getI fx 11 15 1115 ho lf11_119 ⟨fk11_15, rfl⟩ d11_undo_32 ?_
    refine z_iadd fx d11_undo_35 ?_
    refine z_bipush fx (v := 20) (by decide) d11_undo_36 ?_
    obtain ⟨t52, e53, h⟩ := zinv h
    refine z_irem fx e53 d11_undo_38 ?_
    obtain ⟨jp, ejp, h⟩ := zinv h
    obtain ⟨pp, epp, h⟩ := zinv h
    refine z_dy fun dy => ?_
    have hp : (Sh pp).1 = 15 := dy.2 (o_ + 2) 3 20 jp pp (by decide) (ok11_4 hO ho) rfl epp
    refine z_aald fx 3 (by decide) (ok11_4 hO ho) ejp (v := .ref pp) (show va_rf (gX _ _ jp) = _ from by rw [epp]; rfl) d11_undo_39 ?_
    refine z_astore_n fx (k := 1) (i := 1) rfl rfl (lv' := [(0, .ref o_), (1, .ref pp)]) rfl rfl d11_undo_40 ?_
    refine z_aload_n fx (k := 1) (i := 1) rfl rfl d11_undo_41 ?_
    refine z_ifnull fx d11_undo_42 ?_
    refine z_aload_n fx (k := 0) (i := 0) rfl rfl d11_undo_45 ?_
    refine z_getO fx 11 3 51 ho lf11_75 fk11_3 d11_undo_46 ?_
    refine z_aload_n fx (k := 1) (i := 1) rfl rfl d11_undo_49 ?_
    obtain ⟨μ55, e54, h⟩ := zinv h
    refine z_qVv fx (c8_copyFrom (zLo X) (zDo X) Sh top hO (o_ + 51) pp μ50 _ (ok11_3 hO ho) hp e54) mv8_copyFrom ml11_303 (ok11_3 hO ho) rfl rfl rfl rfl d11_undo_50 ?_
    refine z_iconst fx (v := 1) (by decide) d11_undo_53 ?_
    refine z_top (show Value.int 1 = .int (bI true) from rfl) ?_
    cases h
    refine z_widen (c' := 261) (s' := 1976) (Nat.zero_le _) (Nat.zero_le _) ?_
    exact z_zreturn fx fin d11_undo_54
  · replace h := zif_t c49 h
    refine z_aload_n fx (k := 0) (i := 0) rfl rfl d11_undo_7 ?_
    refine z_iconst fx (v := 4) (by decide) d11_undo_8 ?_
    obtain ⟨t58, μ57, e56, h⟩ := zinv2 h
    refine z_qVr fx (c11_refuses (zLo X) (zDo X) Sh top hO o_ 4 μ _ _ ho e56) mv11_refuses ml11_97 ho rfl rfl rfl rfl d11_undo_9 ?_
    cases h
    refine z_widen (c' := 261) (s' := 1976) (Nat.zero_le _) (Nat.zero_le _) ?_
    exact z_zreturn fx fin d11_undo_12
