/-! THE CONSTRUCTOR OF STATE: its walk -/
section zSt
variable {Sh : zSh} {s w n r b p m a t k j : Nat} {μ ν : zM}
theorem di8_0 : zd cX8_init 0 (.aload_n 0) 1 1 := by decide +kernel
theorem di8_1 : zd cX8_init 1 (.invokespecial 3) 3 4 := by decide +kernel
theorem di8_4 : zd cX8_init 4 (.aload_n 0) 1 5 := by decide +kernel
theorem di8_5 : zd cX8_init 5 (.bipush 8) 2 7 := by decide +kernel
theorem di8_7 : zd cX8_init 7 (.anewarray 9) 3 10 := by decide +kernel
theorem di8_10 : zd cX8_init 10 (.putfield 11) 3 13 := by decide +kernel
theorem di8_13 : zd cX8_init 13 (.aload_n 0) 1 14 := by decide +kernel
theorem di8_14 : zd cX8_init 14 (.bipush 28) 2 16 := by decide +kernel
theorem di8_16 : zd cX8_init 16 (.anewarray 17) 3 19 := by decide +kernel
theorem di8_19 : zd cX8_init 19 (.putfield 19) 3 22 := by decide +kernel
theorem di8_22 : zd cX8_init 22 (.aload_n 0) 1 23 := by decide +kernel
theorem di8_23 : zd cX8_init 23 (.bipush 84) 2 25 := by decide +kernel
theorem di8_25 : zd cX8_init 25 (.anewarray 23) 3 28 := by decide +kernel
theorem di8_28 : zd cX8_init 28 (.putfield 25) 3 31 := by decide +kernel
theorem di8_31 : zd cX8_init 31 (.aload_n 0) 1 32 := by decide +kernel
theorem di8_32 : zd cX8_init 32 (.bipush 14) 2 34 := by decide +kernel
theorem di8_34 : zd cX8_init 34 (.newarray .boolean) 2 36 := by decide +kernel
theorem di8_36 : zd cX8_init 36 (.putfield 29) 3 39 := by decide +kernel
theorem di8_39 : zd cX8_init 39 (.aload_n 0) 1 40 := by decide +kernel
theorem di8_40 : zd cX8_init 40 (.bipush 8) 2 42 := by decide +kernel
theorem di8_42 : zd cX8_init 42 (.newarray .int) 2 44 := by decide +kernel
theorem di8_44 : zd cX8_init 44 (.putfield 33) 3 47 := by decide +kernel
theorem di8_47 : zd cX8_init 47 (.aload_n 0) 1 48 := by decide +kernel
theorem di8_48 : zd cX8_init 48 (.bipush 64) 2 50 := by decide +kernel
theorem di8_50 : zd cX8_init 50 (.newarray .int) 2 52 := by decide +kernel
theorem di8_52 : zd cX8_init 52 (.putfield 37) 3 55 := by decide +kernel
theorem di8_55 : zd cX8_init 55 (.aload_n 0) 1 56 := by decide +kernel
theorem di8_56 : zd cX8_init 56 (.bipush 64) 2 58 := by decide +kernel
theorem di8_58 : zd cX8_init 58 (.newarray .int) 2 60 := by decide +kernel
theorem di8_60 : zd cX8_init 60 (.putfield 40) 3 63 := by decide +kernel
theorem di8_63 : zd cX8_init 63 (.aload_n 0) 1 64 := by decide +kernel
theorem di8_64 : zd cX8_init 64 (.sipush 160) 3 67 := by decide +kernel
theorem di8_67 : zd cX8_init 67 (.newarray .int) 2 69 := by decide +kernel
theorem di8_69 : zd cX8_init 69 (.putfield 43) 3 72 := by decide +kernel
theorem di8_72 : zd cX8_init 72 (.aload_n 0) 1 73 := by decide +kernel
theorem di8_73 : zd cX8_init 73 (.bipush 8) 2 75 := by decide +kernel
theorem di8_75 : zd cX8_init 75 (.newarray .boolean) 2 77 := by decide +kernel
theorem di8_77 : zd cX8_init 77 (.putfield 46) 3 80 := by decide +kernel
theorem di8_80 : zd cX8_init 80 (.aload_n 0) 1 81 := by decide +kernel
theorem di8_81 : zd cX8_init 81 (.new 49) 3 84 := by decide +kernel
theorem di8_84 : zd cX8_init 84 (.dup) 1 85 := by decide +kernel
theorem di8_85 : zd cX8_init 85 (.invokespecial 51) 3 88 := by decide +kernel
theorem di8_88 : zd cX8_init 88 (.putfield 52) 3 91 := by decide +kernel
theorem di8_91 : zd cX8_init 91 (.aload_n 0) 1 92 := by decide +kernel
theorem di8_92 : zd cX8_init 92 (.new 49) 3 95 := by decide +kernel
theorem di8_95 : zd cX8_init 95 (.dup) 1 96 := by decide +kernel
theorem di8_96 : zd cX8_init 96 (.invokespecial 51) 3 99 := by decide +kernel
theorem di8_99 : zd cX8_init 99 (.putfield 56) 3 102 := by decide +kernel
theorem di8_102 : zd cX8_init 102 (.aload_n 0) 1 103 := by decide +kernel
theorem di8_103 : zd cX8_init 103 (.new 49) 3 106 := by decide +kernel
theorem di8_106 : zd cX8_init 106 (.dup) 1 107 := by decide +kernel
theorem di8_107 : zd cX8_init 107 (.invokespecial 51) 3 110 := by decide +kernel
theorem di8_110 : zd cX8_init 110 (.putfield 59) 3 113 := by decide +kernel
theorem di8_113 : zd cX8_init 113 (.aload_n 0) 1 114 := by decide +kernel
theorem di8_114 : zd cX8_init 114 (.aload_n 1) 1 115 := by decide +kernel
theorem di8_115 : zd cX8_init 115 (.putfield 62) 3 118 := by decide +kernel
theorem di8_118 : zd cX8_init 118 (.iconst 0) 1 119 := by decide +kernel
theorem di8_119 : zd cX8_init 119 (.istore_n 2) 1 120 := by decide +kernel
theorem di8_120 : zd cX8_init 120 (.iload_n 2) 1 121 := by decide +kernel
theorem di8_121 : zd cX8_init 121 (.bipush 8) 2 123 := by decide +kernel
theorem di8_123 : zj cX8_init 123 (.if_icmp .ge 23) (23) 126 146 := by decide +kernel
theorem di8_126 : zd cX8_init 126 (.aload_n 0) 1 127 := by decide +kernel
theorem di8_127 : zd cX8_init 127 (.getfield 11) 3 130 := by decide +kernel
theorem di8_130 : zd cX8_init 130 (.iload_n 2) 1 131 := by decide +kernel
theorem di8_131 : zd cX8_init 131 (.new 9) 3 134 := by decide +kernel
theorem di8_134 : zd cX8_init 134 (.dup) 1 135 := by decide +kernel
theorem di8_135 : zd cX8_init 135 (.iload_n 2) 1 136 := by decide +kernel
theorem di8_136 : zd cX8_init 136 (.invokespecial 66) 3 139 := by decide +kernel
theorem di8_139 : zd cX8_init 139 (.aastore) 1 140 := by decide +kernel
theorem di8_140 : zd cX8_init 140 (.iinc 2 1) 3 143 := by decide +kernel
theorem di8_143 : zj cX8_init 143 (.goto (-23)) (-23) 146 120 := by decide +kernel
theorem di8_146 : zd cX8_init 146 (.iconst 0) 1 147 := by decide +kernel
theorem di8_147 : zd cX8_init 147 (.istore_n 2) 1 148 := by decide +kernel
theorem di8_148 : zd cX8_init 148 (.iload_n 2) 1 149 := by decide +kernel
theorem di8_149 : zd cX8_init 149 (.bipush 28) 2 151 := by decide +kernel
theorem di8_151 : zj cX8_init 151 (.if_icmp .ge 22) (22) 154 173 := by decide +kernel
theorem di8_154 : zd cX8_init 154 (.aload_n 0) 1 155 := by decide +kernel
theorem di8_155 : zd cX8_init 155 (.getfield 19) 3 158 := by decide +kernel
theorem di8_158 : zd cX8_init 158 (.iload_n 2) 1 159 := by decide +kernel
theorem di8_159 : zd cX8_init 159 (.new 17) 3 162 := by decide +kernel
theorem di8_162 : zd cX8_init 162 (.dup) 1 163 := by decide +kernel
theorem di8_163 : zd cX8_init 163 (.invokespecial 69) 3 166 := by decide +kernel
theorem di8_166 : zd cX8_init 166 (.aastore) 1 167 := by decide +kernel
theorem di8_167 : zd cX8_init 167 (.iinc 2 1) 3 170 := by decide +kernel
theorem di8_170 : zj cX8_init 170 (.goto (-22)) (-22) 173 148 := by decide +kernel
theorem di8_173 : zd cX8_init 173 (.iconst 0) 1 174 := by decide +kernel
theorem di8_174 : zd cX8_init 174 (.istore_n 2) 1 175 := by decide +kernel
theorem di8_175 : zd cX8_init 175 (.iload_n 2) 1 176 := by decide +kernel
theorem di8_176 : zd cX8_init 176 (.aload_n 0) 1 177 := by decide +kernel
theorem di8_177 : zd cX8_init 177 (.getfield 25) 3 180 := by decide +kernel
theorem di8_180 : zd cX8_init 180 (.arraylength) 1 181 := by decide +kernel
theorem di8_181 : zj cX8_init 181 (.if_icmp .ge 22) (22) 184 203 := by decide +kernel
theorem di8_184 : zd cX8_init 184 (.aload_n 0) 1 185 := by decide +kernel
theorem di8_185 : zd cX8_init 185 (.getfield 25) 3 188 := by decide +kernel
theorem di8_188 : zd cX8_init 188 (.iload_n 2) 1 189 := by decide +kernel
theorem di8_189 : zd cX8_init 189 (.new 23) 3 192 := by decide +kernel
theorem di8_192 : zd cX8_init 192 (.dup) 1 193 := by decide +kernel
theorem di8_193 : zd cX8_init 193 (.invokespecial 70) 3 196 := by decide +kernel
theorem di8_196 : zd cX8_init 196 (.aastore) 1 197 := by decide +kernel
theorem di8_197 : zd cX8_init 197 (.iinc 2 1) 3 200 := by decide +kernel
theorem di8_200 : zj cX8_init 200 (.goto (-25)) (-25) 203 175 := by decide +kernel
theorem di8_203 : zd cX8_init 203 (.return_) 1 204 := by decide +kernel
theorem stT_b (hj : j < 8) : stT (13 + 3 * j) = (7, 0) := by
  unfold stT
  rw [if_neg (by omega), if_neg (by omega), if_neg (by omega), if_neg (by omega), if_neg (by omega), if_neg (by omega), if_neg (by omega), if_neg (by omega), if_neg (by omega), if_neg (by omega), if_neg (by omega), if_pos (by omega), if_pos (by omega)]
theorem stT_b1 (hj : j < 8) : stT (13 + 3 * j + 1) = (16, 0) := by
  unfold stT
  rw [if_neg (by omega), if_neg (by omega), if_neg (by omega), if_neg (by omega), if_neg (by omega), if_neg (by omega), if_neg (by omega), if_neg (by omega), if_neg (by omega), if_neg (by omega), if_neg (by omega), if_pos (by omega), if_neg (by omega)]
theorem stT_b2 (hj : j < 8) : stT (13 + 3 * j + 2) = (16, 0) := by
  unfold stT
  rw [if_neg (by omega), if_neg (by omega), if_neg (by omega), if_neg (by omega), if_neg (by omega), if_neg (by omega), if_neg (by omega), if_neg (by omega), if_neg (by omega), if_neg (by omega), if_neg (by omega), if_pos (by omega), if_neg (by omega)]
theorem stT_p (hj : j < 28) : stT (37 + 2 * j) = (11, 0) := by
  unfold stT
  rw [if_neg (by omega), if_neg (by omega), if_neg (by omega), if_neg (by omega), if_neg (by omega), if_neg (by omega), if_neg (by omega), if_neg (by omega), if_neg (by omega), if_neg (by omega), if_neg (by omega), if_neg (by omega), if_pos (by omega), if_pos (by omega)]
theorem stT_p1 (hj : j < 28) : stT (37 + 2 * j + 1) = (16, 0) := by
  unfold stT
  rw [if_neg (by omega), if_neg (by omega), if_neg (by omega), if_neg (by omega), if_neg (by omega), if_neg (by omega), if_neg (by omega), if_neg (by omega), if_neg (by omega), if_neg (by omega), if_neg (by omega), if_neg (by omega), if_pos (by omega), if_neg (by omega)]
theorem stT_m (hj : j < 84) : stT (93 + 2 * j) = (10, 0) := by
  unfold stT
  rw [if_neg (by omega), if_neg (by omega), if_neg (by omega), if_neg (by omega), if_neg (by omega), if_neg (by omega), if_neg (by omega), if_neg (by omega), if_neg (by omega), if_neg (by omega), if_neg (by omega), if_neg (by omega), if_neg (by omega), if_pos (by omega)]
theorem stT_m1 (hj : j < 84) : stT (93 + 2 * j + 1) = (16, 0) := by
  unfold stT
  rw [if_neg (by omega), if_neg (by omega), if_neg (by omega), if_neg (by omega), if_neg (by omega), if_neg (by omega), if_neg (by omega), if_neg (by omega), if_neg (by omega), if_neg (by omega), if_neg (by omega), if_neg (by omega), if_neg (by omega), if_neg (by omega)]
theorem z_getRX {X : zCx} {cc : ByteArray} {own : String} {T : zTt} {μ : zM} {pc pc' : Nat} {lv : List (Nat × Value)} {st : List Value} {rv : Room} {nv : Nat} (fx : zFix X cc own rv nv) {i a w : Nat} (ci k0 key : Nat) (hs : (T.1 a).1 = ci + 7) (hf : zLf own i ci k0) (hm : gR μ key a = some w) (d : zd cc pc (.getfield i) 3 pc') (k : zZ zK0 X T μ pc' lv (.ref w :: st)) (hk : (zK0.1 ci k0).1 = 4 ∧ 100 * ci + k0 = key := by exact ⟨rfl, rfl⟩) : zZ zK0 X T μ pc lv (.ref a :: st) := by
  obtain ⟨h1, h2⟩ := hk
  refine z_get fx k0 hs hf ?_ d k
  unfold zv
  rw [h1, h2]
  show va_rf (gR μ key a) = _
  rw [hm]; rfl
theorem st_L1 {X : zCx} (fx : zFix X cX8_init RX8 (zrc 3 61 260 1958) 3) (hA : ∀ q, s ≤ q → zAf (zDo X) q) (k : zZ zK0 X (shP Sh s (13 + 3 * 8), s + (13 + 3 * 8), 12 + 3 * 8, 450 + 17 * 8) (muP μ s w (13 + 3 * 8) 13 8 0 0) 146 [(0, .ref s), (1, .ref w), (2, .int (nI 8))] []) : ∀ q j, j + q = 8 → zZ zK0 X (shP Sh s (13 + 3 * j), s + (13 + 3 * j), 12 + 3 * j, 450 + 17 * j) (muP μ s w (13 + 3 * j) 13 j 0 0) 120 [(0, .ref s), (1, .ref w), (2, .int (nI j))] [] := by
  intro q
  induction q with
  | zero =>
    intro j hj
    have e : j = 8 := by omega
    subst e
    refine z_iload_n fx (k := 2) (i := 2) rfl rfl di8_120 ?_
    refine z_bipush fx (v := 8) (by decide) di8_121 ?_
    refine z_icmp_ge fx di8_123 (fun _ => k) (fun c => absurd c (by decide))
  | succ q ih =>
    intro j hj
    refine z_iload_n fx (k := 2) (i := 2) rfl rfl di8_120 ?_
    refine z_bipush fx (v := 8) (by decide) di8_121 ?_
    refine z_icmp_ge fx di8_123 (fun c => absurd c (by show ¬ clt (nI j) (nI 8) = false; rw [clt_nI (by omega) (by omega), decide_eq_true (by omega)]; decide)) (fun _ => ?_)
    refine z_aload_n fx (k := 0) (i := 0) rfl rfl di8_126 ?_
    refine z_getRX fx 8 0 800 (w := s + 1) (show (shP Sh s _ s).1 = 15 by rw [shP_0 (by omega)]) (lf8_11) (by rw [gR_mP, if_pos (by omega), Nat.sub_self]; rfl) di8_127 ?_
    refine z_iload_n fx (k := 2) (i := 2) rfl rfl di8_130 ?_
    refine z_newO (T := (shP Sh s (13 + 3 * j), s + (13 + 3 * j), 12 + 3 * j, 450 + 17 * j)) fx zK0_ok 0 (C := (RX0, TX0, 9)) rfl ⟨zTb2 122 rfl rfl, zTb2 130 rfl rfl, zTb1 10 rfl rfl⟩ (by decide) (hA _ (by show s ≤ s + _; omega)) ⟨by show 12 + 3 * j + 1 ≤ 260; omega, by show 450 + 17 * j + 9 ≤ 1958; omega⟩ di8_131 ?_
    have e1 : zSu (shP Sh s (13 + 3 * j)) (s + (13 + 3 * j)) 7 0 = (shP Sh s (13 + 3 * j + 1)) := shP_s rfl (stT_b (by omega))
    replace e1 : (zTn (shP Sh s (13 + 3 * j), s + (13 + 3 * j), 12 + 3 * j, 450 + 17 * j) 7 0 9) = ((shP Sh s (13 + 3 * j + 1)), s + (13 + 3 * j) + 1, 12 + 3 * j + 1, 450 + 17 * j + 9) := by unfold zTn; rw [e1]
    rw [e1]
    refine z_dup fx rfl di8_134 ?_
    refine z_iload_n fx (k := 2) (i := 2) rfl rfl di8_135 ?_
    refine z_callI fx _ rfl (i0 (zLo X) (zDo X) (shP Sh s (13 + 3 * j + 1)) (s + (13 + 3 * j) + 1) (zz (muP μ s w (13 + 3 * j) 13 j 0 0) (s + (13 + 3 * j))) (s + (13 + 3 * j)) (nI j) (show ((shP Sh s (13 + 3 * j + 1)) (s + (13 + 3 * j))).1 = 7 by rw [shP_in (by omega), stT_b (by omega)]) (by omega) (fun q hq => hA q (by omega))) mi0 mii0 (zTb2 131 rfl rfl) rfl ⟨rfl, rfl, Nat.le_of_ble_eq_true rfl, Nat.le_of_ble_eq_true rfl, by show 12 + 3 * j + 1 + 2 ≤ 260; omega, by show 450 + 17 * j + 9 + 8 ≤ 1958; omega⟩ rfl (Nat.le_of_ble_eq_true rfl) di8_136 ?_
    have e2 : zSu (zSu (shP Sh s (13 + 3 * j + 1)) (s + (13 + 3 * j) + 1) 16 0) (s + (13 + 3 * j) + 1 + 1) 16 0 = shP Sh s (13 + 3 * (j + 1)) := by
      rw [shP_s (by omega) (stT_b1 (by omega)), shP_s (by omega) (stT_b2 (by omega))]; congr 1
    rw [e2]
    refine z_aast fx 0 (by decide) rfl (n := 8) (j := j) (ci := 0) (show shP Sh s (13 + 3 * (j + 1)) (s + 1) = _ from shP_in (by omega)) (rI_nI (by omega) (by omega)) rfl (show (shP Sh s (13 + 3 * (j + 1)) (s + (13 + 3 * j))).1 = 7 by rw [shP_in (by omega), stT_b (by omega)]) rfl di8_139 ?_
    have e3 := muP_b (μ := μ) (s := s) (w := w) (j := j) (by omega)
    rw [show s + (13 + 3 * j) + 1 + 1 = s + (13 + 3 * j) + 2 by omega]
    rw [e3]
    refine z_iinc fx (v := nI (j + 1)) (lv' := [(0, .ref s), (1, .ref w), (2, .int (nI (j + 1)))]) rfl (nI_1 j) rfl rfl rfl di8_140 ?_
    refine z_goto fx di8_143 ?_
    have key := ih (j + 1) (by omega)
    rw [show 12 + 3 * (j + 1) = 12 + 3 * j + 1 + 2 by omega, show 450 + 17 * (j + 1) = 450 + 17 * j + 9 + 8 by omega] at key
    have e4 : s + (13 + 3 * (j + 1)) = s + (13 + 3 * j) + 1 + 2 := by omega
    rw [e4] at key
    exact key
theorem st_L2 {X : zCx} (fx : zFix X cX8_init RX8 (zrc 3 61 260 1958) 3) (hA : ∀ q, s ≤ q → zAf (zDo X) q) (k : zZ zK0 X (shP Sh s (37 + 2 * 28), s + (37 + 2 * 28), 36 + 2 * 28, 586 + 19 * 28) (muP μ s w (37 + 2 * 28) 13 8 28 0) 173 [(0, .ref s), (1, .ref w), (2, .int (nI 28))] []) : ∀ q j, j + q = 28 → zZ zK0 X (shP Sh s (37 + 2 * j), s + (37 + 2 * j), 36 + 2 * j, 586 + 19 * j) (muP μ s w (37 + 2 * j) 13 8 j 0) 148 [(0, .ref s), (1, .ref w), (2, .int (nI j))] [] := by
  intro q
  induction q with
  | zero =>
    intro j hj
    have e : j = 28 := by omega
    subst e
    refine z_iload_n fx (k := 2) (i := 2) rfl rfl di8_148 ?_
    refine z_bipush fx (v := 28) (by decide) di8_149 ?_
    refine z_icmp_ge fx di8_151 (fun _ => k) (fun c => absurd c (by decide))
  | succ q ih =>
    intro j hj
    refine z_iload_n fx (k := 2) (i := 2) rfl rfl di8_148 ?_
    refine z_bipush fx (v := 28) (by decide) di8_149 ?_
    refine z_icmp_ge fx di8_151 (fun c => absurd c (by show ¬ clt (nI j) (nI 28) = false; rw [clt_nI (by omega) (by omega), decide_eq_true (by omega)]; decide)) (fun _ => ?_)
    refine z_aload_n fx (k := 0) (i := 0) rfl rfl di8_154 ?_
    refine z_getRX fx 8 1 801 (w := s + 2) (show (shP Sh s _ s).1 = 15 by rw [shP_0 (by omega)]) (lf8_19) (by rw [gR_mP, if_pos (by omega), Nat.sub_self]; rfl) di8_155 ?_
    refine z_iload_n fx (k := 2) (i := 2) rfl rfl di8_158 ?_
    refine z_newO (T := (shP Sh s (37 + 2 * j), s + (37 + 2 * j), 36 + 2 * j, 586 + 19 * j)) fx zK0_ok 4 (C := (RX4, TX4, 15)) rfl ⟨zTb2 124 rfl rfl, zTb2 181 rfl rfl, zTb1 11 rfl rfl⟩ (by decide) (hA _ (by show s ≤ s + _; omega)) ⟨by show 36 + 2 * j + 1 ≤ 260; omega, by show 586 + 19 * j + 15 ≤ 1958; omega⟩ di8_159 ?_
    have e1 : zSu (shP Sh s (37 + 2 * j)) (s + (37 + 2 * j)) 11 0 = (shP Sh s (37 + 2 * j + 1)) := shP_s rfl (stT_p (by omega))
    replace e1 : (zTn (shP Sh s (37 + 2 * j), s + (37 + 2 * j), 36 + 2 * j, 586 + 19 * j) 11 0 15) = ((shP Sh s (37 + 2 * j + 1)), s + (37 + 2 * j) + 1, 36 + 2 * j + 1, 586 + 19 * j + 15) := by unfold zTn; rw [e1]
    rw [e1]
    refine z_dup fx rfl di8_162 ?_
    refine z_callIN fx _ rfl (i4 (zLo X) (zDo X) (shP Sh s (37 + 2 * j + 1)) (s + (37 + 2 * j) + 1) (zz (muP μ s w (37 + 2 * j) 13 8 j 0) (s + (37 + 2 * j))) (s + (37 + 2 * j)) (show ((shP Sh s (37 + 2 * j + 1)) (s + (37 + 2 * j))).1 = 11 by rw [shP_in (by omega), stT_p (by omega)]) (by omega) (fun q hq => hA q (by omega))) mi4 mii4 (by decide) rfl ⟨rfl, rfl, Nat.le_of_ble_eq_true rfl, Nat.le_of_ble_eq_true rfl, by show 36 + 2 * j + 1 + 1 ≤ 260; omega, by show 586 + 19 * j + 15 + 4 ≤ 1958; omega⟩ rfl (Nat.le_of_ble_eq_true rfl) di8_163 ?_
    have e2 : zSu (shP Sh s (37 + 2 * j + 1)) (s + (37 + 2 * j) + 1) 16 0 = shP Sh s (37 + 2 * (j + 1)) := by
      rw [shP_s (by omega) (stT_p1 (by omega))]; congr 1
    rw [e2]
    refine z_aast fx 1 (by decide) rfl (n := 28) (j := j) (ci := 4) (show shP Sh s (37 + 2 * (j + 1)) (s + 2) = _ from shP_in (by omega)) (rI_nI (by omega) (by omega)) rfl (show (shP Sh s (37 + 2 * (j + 1)) (s + (37 + 2 * j))).1 = 11 by rw [shP_in (by omega), stT_p (by omega)]) rfl di8_166 ?_
    have e3 := muP_p (μ := μ) (s := s) (w := w) (j := j) (by omega)
    skip
    rw [e3]
    refine z_iinc fx (v := nI (j + 1)) (lv' := [(0, .ref s), (1, .ref w), (2, .int (nI (j + 1)))]) rfl (nI_1 j) rfl rfl rfl di8_167 ?_
    refine z_goto fx di8_170 ?_
    have key := ih (j + 1) (by omega)
    rw [show 36 + 2 * (j + 1) = 36 + 2 * j + 1 + 1 by omega, show 586 + 19 * (j + 1) = 586 + 19 * j + 15 + 4 by omega] at key
    have e4 : s + (37 + 2 * (j + 1)) = s + (37 + 2 * j) + 1 + 1 := by omega
    rw [e4] at key
    exact key
theorem st_L3 {X : zCx} (fx : zFix X cX8_init RX8 (zrc 3 61 260 1958) 3) (hA : ∀ q, s ≤ q → zAf (zDo X) q) (k : zZ zK0 X (shP Sh s (93 + 2 * 84), s + (93 + 2 * 84), 92 + 2 * 84, 1118 + 10 * 84) (muP μ s w (93 + 2 * 84) 13 8 28 84) 203 [(0, .ref s), (1, .ref w), (2, .int (nI 84))] []) : ∀ q j, j + q = 84 → zZ zK0 X (shP Sh s (93 + 2 * j), s + (93 + 2 * j), 92 + 2 * j, 1118 + 10 * j) (muP μ s w (93 + 2 * j) 13 8 28 j) 175 [(0, .ref s), (1, .ref w), (2, .int (nI j))] [] := by
  intro q
  induction q with
  | zero =>
    intro j hj
    have e : j = 84 := by omega
    subst e
    refine z_iload_n fx (k := 2) (i := 2) rfl rfl di8_175 ?_
    refine z_aload_n fx (k := 0) (i := 0) rfl rfl di8_176 ?_
    refine z_getRX fx 8 2 802 (show (shP Sh s _ s).1 = 15 by rw [shP_0 (by omega)]) (lf8_25) (by rw [gR_mP, if_pos (by omega), Nat.sub_self]; rfl) di8_177 ?_
    refine z_alenX fx 2 (by decide) (n := 84) (shP_in (a := 3) (by omega)) di8_180 ?_
    refine z_icmp_ge fx di8_181 (fun _ => k) (fun c => absurd c (by decide))
  | succ q ih =>
    intro j hj
    refine z_iload_n fx (k := 2) (i := 2) rfl rfl di8_175 ?_
    refine z_aload_n fx (k := 0) (i := 0) rfl rfl di8_176 ?_
    refine z_getRX fx 8 2 802 (show (shP Sh s _ s).1 = 15 by rw [shP_0 (by omega)]) (lf8_25) (by rw [gR_mP, if_pos (by omega), Nat.sub_self]; rfl) di8_177 ?_
    refine z_alenX fx 2 (by decide) (n := 84) (shP_in (a := 3) (by omega)) di8_180 ?_
    refine z_icmp_ge fx di8_181 (fun c => absurd c (by show ¬ clt (nI j) (nI 84) = false; rw [clt_nI (by omega) (by omega), decide_eq_true (by omega)]; decide)) (fun _ => ?_)
    refine z_aload_n fx (k := 0) (i := 0) rfl rfl di8_184 ?_
    refine z_getRX fx 8 2 802 (w := s + 3) (show (shP Sh s _ s).1 = 15 by rw [shP_0 (by omega)]) (lf8_25) (by rw [gR_mP, if_pos (by omega), Nat.sub_self]; rfl) di8_185 ?_
    refine z_iload_n fx (k := 2) (i := 2) rfl rfl di8_188 ?_
    refine z_newO (T := (shP Sh s (93 + 2 * j), s + (93 + 2 * j), 92 + 2 * j, 1118 + 10 * j)) fx zK0_ok 3 (C := (RX3, TX3, 6)) rfl ⟨zTb2 126 rfl rfl, zTb3 13 rfl rfl, zTb1 12 rfl rfl⟩ (by decide) (hA _ (by show s ≤ s + _; omega)) ⟨by show 92 + 2 * j + 1 ≤ 260; omega, by show 1118 + 10 * j + 6 ≤ 1958; omega⟩ di8_189 ?_
    have e1 : zSu (shP Sh s (93 + 2 * j)) (s + (93 + 2 * j)) 10 0 = (shP Sh s (93 + 2 * j + 1)) := shP_s rfl (stT_m (by omega))
    replace e1 : (zTn (shP Sh s (93 + 2 * j), s + (93 + 2 * j), 92 + 2 * j, 1118 + 10 * j) 10 0 6) = ((shP Sh s (93 + 2 * j + 1)), s + (93 + 2 * j) + 1, 92 + 2 * j + 1, 1118 + 10 * j + 6) := by unfold zTn; rw [e1]
    rw [e1]
    refine z_dup fx rfl di8_192 ?_
    refine z_callIN fx _ rfl (i3 (zLo X) (zDo X) (shP Sh s (93 + 2 * j + 1)) (s + (93 + 2 * j) + 1) (zz (muP μ s w (93 + 2 * j) 13 8 28 j) (s + (93 + 2 * j))) (s + (93 + 2 * j)) (show ((shP Sh s (93 + 2 * j + 1)) (s + (93 + 2 * j))).1 = 10 by rw [shP_in (by omega), stT_m (by omega)]) (by omega) (fun q hq => hA q (by omega))) mi3 mii3 (by decide) rfl ⟨rfl, rfl, Nat.le_of_ble_eq_true rfl, Nat.le_of_ble_eq_true rfl, by show 92 + 2 * j + 1 + 1 ≤ 260; omega, by show 1118 + 10 * j + 6 + 4 ≤ 1958; omega⟩ rfl (Nat.le_of_ble_eq_true rfl) di8_193 ?_
    have e2 : zSu (shP Sh s (93 + 2 * j + 1)) (s + (93 + 2 * j) + 1) 16 0 = shP Sh s (93 + 2 * (j + 1)) := by
      rw [shP_s (by omega) (stT_m1 (by omega))]; congr 1
    rw [e2]
    refine z_aast fx 2 (by decide) rfl (n := 84) (j := j) (ci := 3) (show shP Sh s (93 + 2 * (j + 1)) (s + 3) = _ from shP_in (by omega)) (rI_nI (by omega) (by omega)) rfl (show (shP Sh s (93 + 2 * (j + 1)) (s + (93 + 2 * j))).1 = 10 by rw [shP_in (by omega), stT_m (by omega)]) rfl di8_196 ?_
    have e3 := muP_m (μ := μ) (s := s) (w := w) (j := j) (by omega)
    skip
    rw [e3]
    refine z_iinc fx (v := nI (j + 1)) (lv' := [(0, .ref s), (1, .ref w), (2, .int (nI (j + 1)))]) rfl (nI_1 j) rfl rfl rfl di8_197 ?_
    refine z_goto fx di8_200 ?_
    have key := ih (j + 1) (by omega)
    rw [show 92 + 2 * (j + 1) = 92 + 2 * j + 1 + 1 by omega, show 1118 + 10 * (j + 1) = 1118 + 10 * j + 6 + 4 by omega] at key
    have e4 : s + (93 + 2 * (j + 1)) = s + (93 + 2 * j) + 1 + 1 := by omega
    rw [e4] at key
    exact key
set_option maxHeartbeats 4000000 in
set_option maxRecDepth 20000 in
theorem i8 (l : Launch) (D : zDt) (hw : (Sh w).1 = 17) (hws : w < s) (hA : ∀ q, s ≤ q → zAf D q) : zMet l D zK0 yX8_init cX8_init 3 none (zrc 3 61 260 1958) [.ref s, .ref w] (shP Sh s 1) (s + 1) (muP μ s w 1 0 0 0 0) none (shP Sh s 261) (s + 261) (muP μ s w 261 13 8 28 84) 260 1958 := by
  refine zMet_ofI (by decide) (Nat.le_of_ble_eq_true rfl) fun X hX1 hX2 fx hnm fin => ?_
  subst hX1; subst hX2
  replace fx : zFix X cX8_init RX8 (zrc 3 61 260 1958) 3 := fx
  replace hnm : (X.2.2.2.2.2.2.2.2.1).name = "<init>" := hnm
  show zZ zK0 X (shP Sh s 1, s + 1, 0, 0) (muP μ s w 1 0 0 0 0) 0 [(0, .ref s), (1, .ref w)] []
  refine z_aload_n fx (k := 0) (i := 0) rfl rfl di8_0 ?_
  refine z_obj fx (zw_obj (zTb2 121 rfl rfl)) (Nat.le_of_ble_eq_true rfl) ⟨Nat.le_of_ble_eq_true rfl, Nat.le_of_ble_eq_true rfl⟩ di8_1 ?_
  refine z_aload_n fx (k := 0) (i := 0) rfl rfl di8_4 ?_
  refine z_bipush fx (v := 8) (by decide) di8_5 ?_
  refine z_newQ (T := (shP Sh s 1, s + 1, 0, 0)) fx zK0_ok 0 (by decide) rfl (N := 8) (by decide) (zTb2 122 rfl rfl) (hA _ (by show s ≤ s + 1; omega)) ⟨Nat.le_of_ble_eq_true rfl, Nat.le_of_ble_eq_true rfl⟩ di8_7 ?_
  have e1 : zTn (shP Sh s 1, s + 1, 0, 0) 3 8 8 = (shP Sh s 2, s + 2, 1, 8) := by unfold zTn; rw [shP_s (n := 1) (t := 3) (u := 8) rfl rfl]
  rw [e1]
  refine z_putRF fx hnm 8 0 (show (shP Sh s 2 s).1 = 15 by rw [shP_0 (by omega)]) (lf8_11) (fun q h => by cases h; exact ⟨rfl, rfl⟩) ⟨rfl, by decide⟩ ⟨rfl, rfl⟩ (show (shP Sh s 2 (s + 1)).1 = _ by rw [shP_in (by omega)]; rfl) di8_10 ?_
  rw [show sR (zz (muP μ s w 1 0 0 0 0) (s + 1)) (100 * 8 + 0) s (some (s + 1)) = muP μ s w 2 1 0 0 0 from muP_f (i := 0) (by omega)]
  refine z_aload_n fx (k := 0) (i := 0) rfl rfl di8_13 ?_
  refine z_bipush fx (v := 28) (by decide) di8_14 ?_
  refine z_newQ (T := (shP Sh s 2, s + 2, 1, 8)) fx zK0_ok 1 (by decide) rfl (N := 28) (by decide) (zTb2 124 rfl rfl) (hA _ (by show s ≤ s + 2; omega)) ⟨Nat.le_of_ble_eq_true rfl, Nat.le_of_ble_eq_true rfl⟩ di8_16 ?_
  have e2 : zTn (shP Sh s 2, s + 2, 1, 8) 4 28 28 = (shP Sh s 3, s + 3, 2, 36) := by unfold zTn; rw [shP_s (n := 2) (t := 4) (u := 28) rfl rfl]
  rw [e2]
  refine z_putRF fx hnm 8 1 (show (shP Sh s 3 s).1 = 15 by rw [shP_0 (by omega)]) (lf8_19) (fun q h => by cases h; exact ⟨rfl, rfl⟩) ⟨rfl, by decide⟩ ⟨rfl, rfl⟩ (show (shP Sh s 3 (s + 2)).1 = _ by rw [shP_in (by omega)]; rfl) di8_19 ?_
  rw [show sR (zz (muP μ s w 2 1 0 0 0) (s + 2)) (100 * 8 + 1) s (some (s + 2)) = muP μ s w 3 2 0 0 0 from muP_f (i := 1) (by omega)]
  refine z_aload_n fx (k := 0) (i := 0) rfl rfl di8_22 ?_
  refine z_bipush fx (v := 84) (by decide) di8_23 ?_
  refine z_newQ (T := (shP Sh s 3, s + 3, 2, 36)) fx zK0_ok 2 (by decide) rfl (N := 84) (by decide) (zTb2 126 rfl rfl) (hA _ (by show s ≤ s + 3; omega)) ⟨Nat.le_of_ble_eq_true rfl, Nat.le_of_ble_eq_true rfl⟩ di8_25 ?_
  have e3 : zTn (shP Sh s 3, s + 3, 2, 36) 5 84 84 = (shP Sh s 4, s + 4, 3, 120) := by unfold zTn; rw [shP_s (n := 3) (t := 5) (u := 84) rfl rfl]
  rw [e3]
  refine z_putRF fx hnm 8 2 (show (shP Sh s 4 s).1 = 15 by rw [shP_0 (by omega)]) (lf8_25) (fun q h => by cases h; exact ⟨rfl, rfl⟩) ⟨rfl, by decide⟩ ⟨rfl, rfl⟩ (show (shP Sh s 4 (s + 3)).1 = _ by rw [shP_in (by omega)]; rfl) di8_28 ?_
  rw [show sR (zz (muP μ s w 3 2 0 0 0) (s + 3)) (100 * 8 + 2) s (some (s + 3)) = muP μ s w 4 3 0 0 0 from muP_f (i := 2) (by omega)]
  refine z_aload_n fx (k := 0) (i := 0) rfl rfl di8_31 ?_
  refine z_bipush fx (v := 14) (by decide) di8_32 ?_
  refine z_newZ (T := (shP Sh s 4, s + 4, 3, 120)) fx zK0_ok (N := 14) (show rI 100000000 (nI 14) = _ from rI_nI (by omega) (by omega)) zw_bool (hA _ (by show s ≤ s + 4; omega)) ⟨Nat.le_of_ble_eq_true rfl, Nat.le_of_ble_eq_true rfl⟩ di8_34 ?_
  have e4 : zTn (shP Sh s 4, s + 4, 3, 120) 2 14 14 = (shP Sh s 5, s + 5, 4, 134) := by unfold zTn; rw [shP_s (n := 4) (t := 2) (u := 14) rfl rfl]
  rw [e4]
  refine z_putRF fx hnm 8 3 (show (shP Sh s 5 s).1 = 15 by rw [shP_0 (by omega)]) (lf8_29) (fun q h => by cases h; exact ⟨rfl, rfl⟩) ⟨rfl, by decide⟩ ⟨rfl, rfl⟩ (show (shP Sh s 5 (s + 4)).1 = _ by rw [shP_in (by omega)]; rfl) di8_36 ?_
  rw [show sR (zz (muP μ s w 4 3 0 0 0) (s + 4)) (100 * 8 + 3) s (some (s + 4)) = muP μ s w 5 4 0 0 0 from muP_f (i := 3) (by omega)]
  refine z_aload_n fx (k := 0) (i := 0) rfl rfl di8_39 ?_
  refine z_bipush fx (v := 8) (by decide) di8_40 ?_
  refine z_newI (T := (shP Sh s 5, s + 5, 4, 134)) fx zK0_ok (N := 8) (show rI 100000000 (nI 8) = _ from rI_nI (by omega) (by omega)) zw_int (hA _ (by show s ≤ s + 5; omega)) ⟨Nat.le_of_ble_eq_true rfl, Nat.le_of_ble_eq_true rfl⟩ di8_42 ?_
  have e5 : zTn (shP Sh s 5, s + 5, 4, 134) 1 8 8 = (shP Sh s 6, s + 6, 5, 142) := by unfold zTn; rw [shP_s (n := 5) (t := 1) (u := 8) rfl rfl]
  rw [e5]
  refine z_putRF fx hnm 8 4 (show (shP Sh s 6 s).1 = 15 by rw [shP_0 (by omega)]) (lf8_33) (fun q h => by cases h; exact ⟨rfl, rfl⟩) ⟨rfl, by decide⟩ ⟨rfl, rfl⟩ (show (shP Sh s 6 (s + 5)).1 = _ by rw [shP_in (by omega)]; rfl) di8_44 ?_
  rw [show sR (zz (muP μ s w 5 4 0 0 0) (s + 5)) (100 * 8 + 4) s (some (s + 5)) = muP μ s w 6 5 0 0 0 from muP_f (i := 4) (by omega)]
  refine z_aload_n fx (k := 0) (i := 0) rfl rfl di8_47 ?_
  refine z_bipush fx (v := 64) (by decide) di8_48 ?_
  refine z_newI (T := (shP Sh s 6, s + 6, 5, 142)) fx zK0_ok (N := 64) (show rI 100000000 (nI 64) = _ from rI_nI (by omega) (by omega)) zw_int (hA _ (by show s ≤ s + 6; omega)) ⟨Nat.le_of_ble_eq_true rfl, Nat.le_of_ble_eq_true rfl⟩ di8_50 ?_
  have e6 : zTn (shP Sh s 6, s + 6, 5, 142) 1 64 64 = (shP Sh s 7, s + 7, 6, 206) := by unfold zTn; rw [shP_s (n := 6) (t := 1) (u := 64) rfl rfl]
  rw [e6]
  refine z_putRF fx hnm 8 5 (show (shP Sh s 7 s).1 = 15 by rw [shP_0 (by omega)]) (lf8_37) (fun q h => by cases h; exact ⟨rfl, rfl⟩) ⟨rfl, by decide⟩ ⟨rfl, rfl⟩ (show (shP Sh s 7 (s + 6)).1 = _ by rw [shP_in (by omega)]; rfl) di8_52 ?_
  rw [show sR (zz (muP μ s w 6 5 0 0 0) (s + 6)) (100 * 8 + 5) s (some (s + 6)) = muP μ s w 7 6 0 0 0 from muP_f (i := 5) (by omega)]
  refine z_aload_n fx (k := 0) (i := 0) rfl rfl di8_55 ?_
  refine z_bipush fx (v := 64) (by decide) di8_56 ?_
  refine z_newI (T := (shP Sh s 7, s + 7, 6, 206)) fx zK0_ok (N := 64) (show rI 100000000 (nI 64) = _ from rI_nI (by omega) (by omega)) zw_int (hA _ (by show s ≤ s + 7; omega)) ⟨Nat.le_of_ble_eq_true rfl, Nat.le_of_ble_eq_true rfl⟩ di8_58 ?_
  have e7 : zTn (shP Sh s 7, s + 7, 6, 206) 1 64 64 = (shP Sh s 8, s + 8, 7, 270) := by unfold zTn; rw [shP_s (n := 7) (t := 1) (u := 64) rfl rfl]
  rw [e7]
  refine z_putRF fx hnm 8 6 (show (shP Sh s 8 s).1 = 15 by rw [shP_0 (by omega)]) (lf8_40) (fun q h => by cases h; exact ⟨rfl, rfl⟩) ⟨rfl, by decide⟩ ⟨rfl, rfl⟩ (show (shP Sh s 8 (s + 7)).1 = _ by rw [shP_in (by omega)]; rfl) di8_60 ?_
  rw [show sR (zz (muP μ s w 7 6 0 0 0) (s + 7)) (100 * 8 + 6) s (some (s + 7)) = muP μ s w 8 7 0 0 0 from muP_f (i := 6) (by omega)]
  refine z_aload_n fx (k := 0) (i := 0) rfl rfl di8_63 ?_
  refine z_sipush fx (v := 160) (by decide) di8_64 ?_
  refine z_newI (T := (shP Sh s 8, s + 8, 7, 270)) fx zK0_ok (N := 160) (show rI 100000000 (nI 160) = _ from rI_nI (by omega) (by omega)) zw_int (hA _ (by show s ≤ s + 8; omega)) ⟨Nat.le_of_ble_eq_true rfl, Nat.le_of_ble_eq_true rfl⟩ di8_67 ?_
  have e8 : zTn (shP Sh s 8, s + 8, 7, 270) 1 160 160 = (shP Sh s 9, s + 9, 8, 430) := by unfold zTn; rw [shP_s (n := 8) (t := 1) (u := 160) rfl rfl]
  rw [e8]
  refine z_putRF fx hnm 8 7 (show (shP Sh s 9 s).1 = 15 by rw [shP_0 (by omega)]) (lf8_43) (fun q h => by cases h; exact ⟨rfl, rfl⟩) ⟨rfl, by decide⟩ ⟨rfl, rfl⟩ (show (shP Sh s 9 (s + 8)).1 = _ by rw [shP_in (by omega)]; rfl) di8_69 ?_
  rw [show sR (zz (muP μ s w 8 7 0 0 0) (s + 8)) (100 * 8 + 7) s (some (s + 8)) = muP μ s w 9 8 0 0 0 from muP_f (i := 7) (by omega)]
  refine z_aload_n fx (k := 0) (i := 0) rfl rfl di8_72 ?_
  refine z_bipush fx (v := 8) (by decide) di8_73 ?_
  refine z_newZ (T := (shP Sh s 9, s + 9, 8, 430)) fx zK0_ok (N := 8) (show rI 100000000 (nI 8) = _ from rI_nI (by omega) (by omega)) zw_bool (hA _ (by show s ≤ s + 9; omega)) ⟨Nat.le_of_ble_eq_true rfl, Nat.le_of_ble_eq_true rfl⟩ di8_75 ?_
  have e9 : zTn (shP Sh s 9, s + 9, 8, 430) 2 8 8 = (shP Sh s 10, s + 10, 9, 438) := by unfold zTn; rw [shP_s (n := 9) (t := 2) (u := 8) rfl rfl]
  rw [e9]
  refine z_putRF fx hnm 8 8 (show (shP Sh s 10 s).1 = 15 by rw [shP_0 (by omega)]) (lf8_46) (fun q h => by cases h; exact ⟨rfl, rfl⟩) ⟨rfl, by decide⟩ ⟨rfl, rfl⟩ (show (shP Sh s 10 (s + 9)).1 = _ by rw [shP_in (by omega)]; rfl) di8_77 ?_
  rw [show sR (zz (muP μ s w 9 8 0 0 0) (s + 9)) (100 * 8 + 8) s (some (s + 9)) = muP μ s w 10 9 0 0 0 from muP_f (i := 8) (by omega)]
  refine z_aload_n fx (k := 0) (i := 0) rfl rfl di8_80 ?_
  refine z_newO (T := (shP Sh s 10, s + 10, 9, 438)) fx zK0_ok 9 (C := (RX9, TX9, 4)) rfl ⟨zTb2 128 rfl rfl, zTb1 38 rfl rfl, zTb1 3 rfl rfl⟩ (by decide) (hA _ (by show s ≤ s + 10; omega)) ⟨Nat.le_of_ble_eq_true rfl, Nat.le_of_ble_eq_true rfl⟩ di8_81 ?_
  have e10 : zTn (shP Sh s 10, s + 10, 9, 438) 16 0 4 = (shP Sh s 11, s + 11, 10, 442) := by unfold zTn; rw [shP_s (n := 10) (t := 16) (u := 0) rfl rfl]
  rw [e10]
  refine z_dup fx rfl di8_84 ?_
  refine z_callIN fx _ rfl (i9 (zLo X) (zDo X) (shP Sh s 11) (s + 11) (zz (muP μ s w 10 9 0 0 0) (s + 10)) (s + 10)) mi9 mii9 (by decide) rfl ⟨rfl, rfl, Nat.le_of_ble_eq_true rfl, Nat.le_of_ble_eq_true rfl, Nat.le_of_ble_eq_true rfl, Nat.le_of_ble_eq_true rfl⟩ rfl (Nat.le_of_ble_eq_true rfl) di8_85 ?_
  refine z_putRF fx hnm 8 9 (show (shP Sh s 11 s).1 = 15 by rw [shP_0 (by omega)]) (lf8_52) (fun q h => by cases h; exact ⟨rfl, rfl⟩) ⟨rfl, by decide⟩ ⟨rfl, rfl⟩ (show (shP Sh s 11 (s + 10)).1 = _ by rw [shP_in (by omega)]; rfl) di8_88 ?_
  rw [show sR (zz (muP μ s w 10 9 0 0 0) (s + 10)) (100 * 8 + 9) s (some (s + 10)) = muP μ s w 11 10 0 0 0 from muP_f (i := 9) (by omega)]
  refine z_aload_n fx (k := 0) (i := 0) rfl rfl di8_91 ?_
  refine z_newO (T := (shP Sh s 11, s + 11, 10, 442)) fx zK0_ok 9 (C := (RX9, TX9, 4)) rfl ⟨zTb2 128 rfl rfl, zTb1 38 rfl rfl, zTb1 3 rfl rfl⟩ (by decide) (hA _ (by show s ≤ s + 11; omega)) ⟨Nat.le_of_ble_eq_true rfl, Nat.le_of_ble_eq_true rfl⟩ di8_92 ?_
  have e11 : zTn (shP Sh s 11, s + 11, 10, 442) 16 0 4 = (shP Sh s 12, s + 12, 11, 446) := by unfold zTn; rw [shP_s (n := 11) (t := 16) (u := 0) rfl rfl]
  rw [e11]
  refine z_dup fx rfl di8_95 ?_
  refine z_callIN fx _ rfl (i9 (zLo X) (zDo X) (shP Sh s 12) (s + 12) (zz (muP μ s w 11 10 0 0 0) (s + 11)) (s + 11)) mi9 mii9 (by decide) rfl ⟨rfl, rfl, Nat.le_of_ble_eq_true rfl, Nat.le_of_ble_eq_true rfl, Nat.le_of_ble_eq_true rfl, Nat.le_of_ble_eq_true rfl⟩ rfl (Nat.le_of_ble_eq_true rfl) di8_96 ?_
  refine z_putRF fx hnm 8 10 (show (shP Sh s 12 s).1 = 15 by rw [shP_0 (by omega)]) (lf8_56) (fun q h => by cases h; exact ⟨rfl, rfl⟩) ⟨rfl, by decide⟩ ⟨rfl, rfl⟩ (show (shP Sh s 12 (s + 11)).1 = _ by rw [shP_in (by omega)]; rfl) di8_99 ?_
  rw [show sR (zz (muP μ s w 11 10 0 0 0) (s + 11)) (100 * 8 + 10) s (some (s + 11)) = muP μ s w 12 11 0 0 0 from muP_f (i := 10) (by omega)]
  refine z_aload_n fx (k := 0) (i := 0) rfl rfl di8_102 ?_
  refine z_newO (T := (shP Sh s 12, s + 12, 11, 446)) fx zK0_ok 9 (C := (RX9, TX9, 4)) rfl ⟨zTb2 128 rfl rfl, zTb1 38 rfl rfl, zTb1 3 rfl rfl⟩ (by decide) (hA _ (by show s ≤ s + 12; omega)) ⟨Nat.le_of_ble_eq_true rfl, Nat.le_of_ble_eq_true rfl⟩ di8_103 ?_
  have e12 : zTn (shP Sh s 12, s + 12, 11, 446) 16 0 4 = (shP Sh s 13, s + 13, 12, 450) := by unfold zTn; rw [shP_s (n := 12) (t := 16) (u := 0) rfl rfl]
  rw [e12]
  refine z_dup fx rfl di8_106 ?_
  refine z_callIN fx _ rfl (i9 (zLo X) (zDo X) (shP Sh s 13) (s + 13) (zz (muP μ s w 12 11 0 0 0) (s + 12)) (s + 12)) mi9 mii9 (by decide) rfl ⟨rfl, rfl, Nat.le_of_ble_eq_true rfl, Nat.le_of_ble_eq_true rfl, Nat.le_of_ble_eq_true rfl, Nat.le_of_ble_eq_true rfl⟩ rfl (Nat.le_of_ble_eq_true rfl) di8_107 ?_
  refine z_putRF fx hnm 8 11 (show (shP Sh s 13 s).1 = 15 by rw [shP_0 (by omega)]) (lf8_59) (fun q h => by cases h; exact ⟨rfl, rfl⟩) ⟨rfl, by decide⟩ ⟨rfl, rfl⟩ (show (shP Sh s 13 (s + 12)).1 = _ by rw [shP_in (by omega)]; rfl) di8_110 ?_
  rw [show sR (zz (muP μ s w 12 11 0 0 0) (s + 12)) (100 * 8 + 11) s (some (s + 12)) = muP μ s w 13 12 0 0 0 from muP_f (i := 11) (by omega)]
  refine z_aload_n fx (k := 0) (i := 0) rfl rfl di8_113 ?_
  refine z_aload_n fx (k := 1) (i := 1) rfl rfl di8_114 ?_
  refine z_putRN fx 8 12 (show (shP Sh s 13 s).1 = 15 by rw [shP_0 (by omega)]) (lf8_62) (fun q h => by cases h; rfl) ⟨rfl, by decide⟩ ⟨rfl, rfl⟩ (show (shP Sh s 13 w).1 = 17 by rw [shP_out (by omega)]; exact hw) di8_115 ?_
  rw [show sR (muP μ s w 13 12 0 0 0) (100 * 8 + 12) s (some w) = muP μ s w 13 13 0 0 0 from muP_w]
  refine z_iconst fx (v := 0) (by decide) di8_118 ?_
  refine z_istore_n fx (k := 2) (i := 2) (lv' := [(0, .ref s), (1, .ref w), (2, .int (nI 0))]) rfl rfl rfl rfl di8_119 ?_
  refine st_L1 fx hA ?_ 8 0 rfl
  refine z_iconst fx (v := 0) (by decide) di8_146 ?_
  refine z_istore_n fx (k := 2) (i := 2) (lv' := [(0, .ref s), (1, .ref w), (2, .int (nI 0))]) rfl rfl rfl rfl di8_147 ?_
  refine st_L2 fx hA ?_ 28 0 rfl
  refine z_iconst fx (v := 0) (by decide) di8_173 ?_
  refine z_istore_n fx (k := 2) (i := 2) (lv' := [(0, .ref s), (1, .ref w), (2, .int (nI 0))]) rfl rfl rfl rfl di8_174 ?_
  refine st_L3 fx hA ?_ 84 0 rfl
  exact z_return fx fin di8_203
theorem mi8 : zMw yX8_init cX8_init 3 none 1 := ⟨zTb2 120 rfl rfl, zTb1 9 rfl rfl, by decide, by decide, by decide +kernel⟩
theorem mii8 : Cond.instanceMethod yX8_init ∈ zTb := zTb2 119 rfl rfl
end zSt
