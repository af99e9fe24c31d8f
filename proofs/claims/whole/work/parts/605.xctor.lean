/-! THE CONSTRUCTOR OF WaveBridges -/
def xL : List (Nat × Nat) := [(18, 0), (1, 1600), (6, 20), (8, 0), (1, 64), (1, 8), (1, 8), (1, 8), (1, 28), (16, 0), (16, 0), (13, 0), (1, 8), (1, 8), (9, 0), (1, 65), (1, 65), (14, 0), (1, 48), (1, 15), (1, 420), (1, 47), (1, 6), (17, 0), (1, 48), (1, 48), (1, 8), (2, 8), (1, 8), (1, 48), (1, 28), (1, 28), (2, 28), (1, 14), (1, 14), (1, 8), (17, 0), (1, 48), (1, 48), (1, 8), (2, 8), (1, 8), (1, 48), (1, 28), (1, 28), (2, 28), (1, 14), (1, 14), (1, 8), (12, 0), (1, 6)]
def xT (d : Nat) : Nat × Nat := if d < 51 then xL.getD d (0, 0) else if d < 312 then stT (d - 51) else stT (d - 312)
def shX (Sh : zSh) (x n : Nat) : zSh := fun a => if x ≤ a ∧ a < x + n then xT (a - x) else Sh a
section zXc
variable {Sh : zSh} {s w x n a t d : Nat} {μ : zM}
theorem shX_s (h : a = x + n) {u : Nat} (ht : xT n = (t, u)) : zSu (shX Sh x n) a t u = shX Sh x (n + 1) := by
  subst h
  funext q
  unfold zSu shX
  by_cases c : q = x + n
  · subst c
    rw [if_pos rfl, if_pos (by omega), Nat.add_sub_cancel_left, ht]
  · rw [if_neg c]
    by_cases c2 : x ≤ q ∧ q < x + n
    · rw [if_pos c2, if_pos (by omega)]
    · rw [if_neg c2, if_neg (by omega)]
theorem shX_in (h : a < n) : shX Sh x n (x + a) = xT a := by
  unfold shX
  rw [if_pos (by omega), Nat.add_sub_cancel_left]
theorem shX_0 (h : 0 < n) : shX Sh x n x = (18, 0) := by
  unfold shX
  rw [if_pos (by omega), Nat.sub_self]; rfl
theorem shX_out (h : a < x ∨ x + n ≤ a) : shX Sh x n a = Sh a := by
  unfold shX
  rw [if_neg (by omega)]
theorem shP_1 : zSu Sh s 15 0 = shP Sh s 1 := by
  have e5 : shP Sh s 0 = Sh := by funext q; exact shP_out (by omega)
  have e6 := shP_s (Sh := Sh) (s := s) (n := 0) (a := s) (t := 15) (u := 0) rfl rfl
  rw [e5] at e6
  exact e6
theorem shX_st1 : shP (shX Sh x 51) (x + 51) 261 = shX Sh x 312 := by
  funext q
  unfold shP
  by_cases c : x + 51 ≤ q ∧ q < x + 51 + 261
  · rw [if_pos c]; unfold shX; rw [if_pos (by omega)]; unfold xT; rw [if_neg (by omega), if_pos (by omega)]; exact congrArg stT (by omega)
  · rw [if_neg c]; unfold shX
    by_cases c2 : x ≤ q ∧ q < x + 51
    · rw [if_pos c2, if_pos (by omega)]
    · rw [if_neg c2, if_neg (by omega)]
theorem shX_st2 : shP (shX Sh x 312) (x + 312) 261 = shX Sh x 573 := by
  funext q
  unfold shP
  by_cases c : x + 312 ≤ q ∧ q < x + 312 + 261
  · rw [if_pos c]; unfold shX; rw [if_pos (by omega)]; unfold xT; rw [if_neg (by omega), if_neg (by omega)]; exact congrArg stT (by omega)
  · rw [if_neg c]; unfold shX
    by_cases c2 : x ≤ q ∧ q < x + 312
    · rw [if_pos c2, if_pos (by omega)]
    · rw [if_neg c2, if_neg (by omega)]
theorem di11_0 : zd cX11_init 0 (.aload_n 0) 1 1 := by decide +kernel
theorem di11_1 : zd cX11_init 1 (.invokespecial 3) 3 4 := by decide +kernel
theorem di11_4 : zd cX11_init 4 (.aload_n 0) 1 5 := by decide +kernel
theorem di11_5 : zd cX11_init 5 (.sipush 1600) 3 8 := by decide +kernel
theorem di11_8 : zd cX11_init 8 (.newarray .int) 2 10 := by decide +kernel
theorem di11_10 : zd cX11_init 10 (.putfield 9) 3 13 := by decide +kernel
theorem di11_13 : zd cX11_init 13 (.aload_n 0) 1 14 := by decide +kernel
theorem di11_14 : zd cX11_init 14 (.bipush 20) 2 16 := by decide +kernel
theorem di11_16 : zd cX11_init 16 (.anewarray 13) 3 19 := by decide +kernel
theorem di11_19 : zd cX11_init 19 (.putfield 15) 3 22 := by decide +kernel
theorem di11_22 : zd cX11_init 22 (.aload_n 0) 1 23 := by decide +kernel
theorem di11_23 : zd cX11_init 23 (.new 19) 3 26 := by decide +kernel
theorem di11_26 : zd cX11_init 26 (.dup) 1 27 := by decide +kernel
theorem di11_27 : zd cX11_init 27 (.invokespecial 21) 3 30 := by decide +kernel
theorem di11_30 : zd cX11_init 30 (.putfield 22) 3 33 := by decide +kernel
theorem di11_33 : zd cX11_init 33 (.aload_n 0) 1 34 := by decide +kernel
theorem di11_34 : zd cX11_init 34 (.new 26) 3 37 := by decide +kernel
theorem di11_37 : zd cX11_init 37 (.dup) 1 38 := by decide +kernel
theorem di11_38 : zd cX11_init 38 (.invokespecial 28) 3 41 := by decide +kernel
theorem di11_41 : zd cX11_init 41 (.putfield 29) 3 44 := by decide +kernel
theorem di11_44 : zd cX11_init 44 (.aload_n 0) 1 45 := by decide +kernel
theorem di11_45 : zd cX11_init 45 (.new 33) 3 48 := by decide +kernel
theorem di11_48 : zd cX11_init 48 (.dup) 1 49 := by decide +kernel
theorem di11_49 : zd cX11_init 49 (.invokespecial 35) 3 52 := by decide +kernel
theorem di11_52 : zd cX11_init 52 (.putfield 36) 3 55 := by decide +kernel
theorem di11_55 : zd cX11_init 55 (.aload_n 0) 1 56 := by decide +kernel
theorem di11_56 : zd cX11_init 56 (.new 40) 3 59 := by decide +kernel
theorem di11_59 : zd cX11_init 59 (.dup) 1 60 := by decide +kernel
theorem di11_60 : zd cX11_init 60 (.invokespecial 42) 3 63 := by decide +kernel
theorem di11_63 : zd cX11_init 63 (.putfield 43) 3 66 := by decide +kernel
theorem di11_66 : zd cX11_init 66 (.aload_n 0) 1 67 := by decide +kernel
theorem di11_67 : zd cX11_init 67 (.bipush 47) 2 69 := by decide +kernel
theorem di11_69 : zd cX11_init 69 (.newarray .int) 2 71 := by decide +kernel
theorem di11_71 : zd cX11_init 71 (.putfield 47) 3 74 := by decide +kernel
theorem di11_74 : zd cX11_init 74 (.aload_n 0) 1 75 := by decide +kernel
theorem di11_75 : zd cX11_init 75 (.bipush 6) 2 77 := by decide +kernel
theorem di11_77 : zd cX11_init 77 (.newarray .int) 2 79 := by decide +kernel
theorem di11_79 : zd cX11_init 79 (.putfield 50) 3 82 := by decide +kernel
theorem di11_82 : zd cX11_init 82 (.aload_n 0) 1 83 := by decide +kernel
theorem di11_83 : zd cX11_init 83 (.new 53) 3 86 := by decide +kernel
theorem di11_86 : zd cX11_init 86 (.dup) 1 87 := by decide +kernel
theorem di11_87 : zd cX11_init 87 (.invokespecial 55) 3 90 := by decide +kernel
theorem di11_90 : zd cX11_init 90 (.putfield 56) 3 93 := by decide +kernel
theorem di11_93 : zd cX11_init 93 (.aload_n 0) 1 94 := by decide +kernel
theorem di11_94 : zd cX11_init 94 (.new 53) 3 97 := by decide +kernel
theorem di11_97 : zd cX11_init 97 (.dup) 1 98 := by decide +kernel
theorem di11_98 : zd cX11_init 98 (.invokespecial 55) 3 101 := by decide +kernel
theorem di11_101 : zd cX11_init 101 (.putfield 60) 3 104 := by decide +kernel
theorem di11_104 : zd cX11_init 104 (.aload_n 0) 1 105 := by decide +kernel
theorem di11_105 : zd cX11_init 105 (.new 63) 3 108 := by decide +kernel
theorem di11_108 : zd cX11_init 108 (.dup) 1 109 := by decide +kernel
theorem di11_109 : zd cX11_init 109 (.aload_n 0) 1 110 := by decide +kernel
theorem di11_110 : zd cX11_init 110 (.getfield 9) 3 113 := by decide +kernel
theorem di11_113 : zd cX11_init 113 (.aload_n 0) 1 114 := by decide +kernel
theorem di11_114 : zd cX11_init 114 (.getfield 60) 3 117 := by decide +kernel
theorem di11_117 : zd cX11_init 117 (.invokespecial 65) 3 120 := by decide +kernel
theorem di11_120 : zd cX11_init 120 (.putfield 68) 3 123 := by decide +kernel
theorem di11_123 : zd cX11_init 123 (.aload_n 0) 1 124 := by decide +kernel
theorem di11_124 : zd cX11_init 124 (.new 13) 3 127 := by decide +kernel
theorem di11_127 : zd cX11_init 127 (.dup) 1 128 := by decide +kernel
theorem di11_128 : zd cX11_init 128 (.aload_n 0) 1 129 := by decide +kernel
theorem di11_129 : zd cX11_init 129 (.getfield 56) 3 132 := by decide +kernel
theorem di11_132 : zd cX11_init 132 (.invokespecial 72) 3 135 := by decide +kernel
theorem di11_135 : zd cX11_init 135 (.putfield 75) 3 138 := by decide +kernel
theorem di11_138 : zd cX11_init 138 (.aload_n 0) 1 139 := by decide +kernel
theorem di11_139 : zd cX11_init 139 (.new 13) 3 142 := by decide +kernel
theorem di11_142 : zd cX11_init 142 (.dup) 1 143 := by decide +kernel
theorem di11_143 : zd cX11_init 143 (.aload_n 0) 1 144 := by decide +kernel
theorem di11_144 : zd cX11_init 144 (.getfield 56) 3 147 := by decide +kernel
theorem di11_147 : zd cX11_init 147 (.invokespecial 72) 3 150 := by decide +kernel
theorem di11_150 : zd cX11_init 150 (.putfield 79) 3 153 := by decide +kernel
theorem di11_153 : zd cX11_init 153 (.aload_n 0) 1 154 := by decide +kernel
theorem di11_154 : zd cX11_init 154 (.iconst 1) 1 155 := by decide +kernel
theorem di11_155 : zd cX11_init 155 (.putfield 82) 3 158 := by decide +kernel
theorem di11_158 : zd cX11_init 158 (.return_) 1 159 := by decide +kernel
theorem gRo_sR {k k' : Nat} {v : Option Nat} {q : Nat} (h : k' ≠ k ∨ q ≠ a) : gR (sR μ k a v) k' q = gR μ k' q := by rw [gR_sR, if_neg (by omega)]
theorem gRo_zz {k q : Nat} (h : q ≠ a) : gR (zz μ a) k q = gR μ k q := by rw [gR_zz, if_neg h]
def xm0 (μ : zM) (x : Nat) : zM := zz μ x
def xm1 (μ : zM) (x : Nat) : zM := sR (zz (xm0 μ x) (x + 1)) 1100 x (some (x + 1))
def xm2 (μ : zM) (x : Nat) : zM := sR (zz (xm1 μ x) (x + 2)) 1104 x (some (x + 2))
def xm3 (μ : zM) (x : Nat) : zM := sR (sR (zz (sR (zz (sR (zz (sR (zz (sR (zz (sR (zz (sR (zz (zz (xm2 μ x) (x + 3)) (x + 4)) 100 (x + 3) (some (x + 4))) (x + 4 + 1)) 101 (x + 3) (some (x + 4 + 1))) (x + 4 + 2)) 102 (x + 3) (some (x + 4 + 2))) (x + 4 + 3)) 103 (x + 3) (some (x + 4 + 3))) (x + 4 + 4)) 104 (x + 3) (some (x + 4 + 4))) (x + 4 + 5)) 105 (x + 3) (some (x + 4 + 5))) (x + 4 + 6)) 106 (x + 3) (some (x + 4 + 6))) 1105 x (some (x + 3))
def xm4 (μ : zM) (x : Nat) : zM := sR (sR (zz (sR (zz (zz (xm3 μ x) (x + 11)) (x + 12)) 600 (x + 11) (some (x + 12))) (x + 12 + 1)) 601 (x + 11) (some (x + 12 + 1))) 1106 x (some (x + 11))
def xm5 (μ : zM) (x : Nat) : zM := sR (sR (zz (sR (zz (zz (xm4 μ x) (x + 14)) (x + 15)) 200 (x + 14) (some (x + 15))) (x + 15 + 1)) 201 (x + 14) (some (x + 15 + 1))) 1107 x (some (x + 14))
def xm6 (μ : zM) (x : Nat) : zM := sR (sR (zz (sR (zz (sR (zz (zz (xm5 μ x) (x + 17)) (x + 18)) 700 (x + 17) (some (x + 18))) (x + 18 + 1)) 701 (x + 17) (some (x + 18 + 1))) (x + 18 + 2)) 702 (x + 17) (some (x + 18 + 2))) 1108 x (some (x + 17))
def xm7 (μ : zM) (x : Nat) : zM := sR (zz (xm6 μ x) (x + 21)) 1109 x (some (x + 21))
def xm8 (μ : zM) (x : Nat) : zM := sR (zz (xm7 μ x) (x + 22)) 1110 x (some (x + 22))
def xm9 (μ : zM) (x : Nat) : zM := sR (sR (zz (sR (zz (sR (zz (sR (zz (sR (zz (sR (zz (sR (zz (sR (zz (sR (zz (sR (zz (sR (zz (sR (zz (zz (xm8 μ x) (x + 23)) (x + 24)) 1000 (x + 23) (some (x + 24))) (x + 24 + 1)) 1001 (x + 23) (some (x + 24 + 1))) (x + 24 + 2)) 1002 (x + 23) (some (x + 24 + 2))) (x + 24 + 3)) 1003 (x + 23) (some (x + 24 + 3))) (x + 24 + 4)) 1004 (x + 23) (some (x + 24 + 4))) (x + 24 + 5)) 1005 (x + 23) (some (x + 24 + 5))) (x + 24 + 6)) 1006 (x + 23) (some (x + 24 + 6))) (x + 24 + 7)) 1007 (x + 23) (some (x + 24 + 7))) (x + 24 + 8)) 1008 (x + 23) (some (x + 24 + 8))) (x + 24 + 9)) 1009 (x + 23) (some (x + 24 + 9))) (x + 24 + 10)) 1010 (x + 23) (some (x + 24 + 10))) (x + 24 + 11)) 1011 (x + 23) (some (x + 24 + 11))) 1111 x (some (x + 23))
def xm10 (μ : zM) (x : Nat) : zM := sR (sR (zz (sR (zz (sR (zz (sR (zz (sR (zz (sR (zz (sR (zz (sR (zz (sR (zz (sR (zz (sR (zz (sR (zz (zz (xm9 μ x) (x + 36)) (x + 37)) 1000 (x + 36) (some (x + 37))) (x + 37 + 1)) 1001 (x + 36) (some (x + 37 + 1))) (x + 37 + 2)) 1002 (x + 36) (some (x + 37 + 2))) (x + 37 + 3)) 1003 (x + 36) (some (x + 37 + 3))) (x + 37 + 4)) 1004 (x + 36) (some (x + 37 + 4))) (x + 37 + 5)) 1005 (x + 36) (some (x + 37 + 5))) (x + 37 + 6)) 1006 (x + 36) (some (x + 37 + 6))) (x + 37 + 7)) 1007 (x + 36) (some (x + 37 + 7))) (x + 37 + 8)) 1008 (x + 36) (some (x + 37 + 8))) (x + 37 + 9)) 1009 (x + 36) (some (x + 37 + 9))) (x + 37 + 10)) 1010 (x + 36) (some (x + 37 + 10))) (x + 37 + 11)) 1011 (x + 36) (some (x + 37 + 11))) 1112 x (some (x + 36))
def xm11 (μ : zM) (x : Nat) : zM := sR (sF (sR (sR (sR (zz (zz (xm10 μ x) (x + 49)) (x + 50)) 500 (x + 49) (some (x + 50))) 501 (x + 49) (some (x + 1))) 509 (x + 49) (some (x + 36))) 508 (x + 49) (-1)) 1101 x (some (x + 49))
def xm12 (μ : zM) (x : Nat) : zM := sR (muP (xm11 μ x) (x + 51) (x + 23) 261 13 8 28 84) 1103 x (some (x + 51))
def xm13 (μ : zM) (x : Nat) : zM := sR (muP (xm12 μ x) (x + 312) (x + 23) 261 13 8 28 84) 1102 x (some (x + 312))
def xm14 (μ : zM) (x : Nat) : zM := sF (xm13 μ x) 1117 x 1
set_option maxHeartbeats 4000000 in
set_option maxRecDepth 20000 in
theorem i11 (l : Launch) (D : zDt) (hA : ∀ q, x ≤ q → zAf D q) : zMet l D zK0 yX11_init cX11_init 1 none (zrc 4 83 572 7034) [.ref x] (shX Sh x 1) (x + 1) (xm0 μ x) none (shX Sh x 573) (x + 573) (xm14 μ x) 572 7034 := by
  refine zMet_ofI (by decide) (Nat.le_of_ble_eq_true rfl) fun X hX1 hX2 fx hnm fin => ?_
  subst hX1; subst hX2
  replace fx : zFix X cX11_init RX11 (zrc 4 83 572 7034) 1 := fx
  replace hnm : (X.2.2.2.2.2.2.2.2.1).name = "<init>" := hnm
  show zZ zK0 X (shX Sh x 1, x + 1, 0, 0) (xm0 μ x) 0 [(0, .ref x)] []
  refine z_aload_n fx (k := 0) (i := 0) rfl rfl di11_0 ?_
  refine z_obj fx (zw_obj (zTb1 26 rfl rfl)) (Nat.le_of_ble_eq_true rfl) ⟨Nat.le_of_ble_eq_true rfl, Nat.le_of_ble_eq_true rfl⟩ di11_1 ?_
  refine z_aload_n fx (k := 0) (i := 0) rfl rfl di11_4 ?_
  refine z_sipush fx (v := 1600) (by decide) di11_5 ?_
  refine z_newI (T := (shX Sh x 1, x + 1, 0, 0)) fx zK0_ok (N := 1600) (show rI 100000000 (nI 1600) = _ from rI_nI (by omega) (by omega)) zw_int (hA _ (by show x ≤ x + 1; omega)) ⟨Nat.le_of_ble_eq_true rfl, Nat.le_of_ble_eq_true rfl⟩ di11_8 ?_
  rw [show zTn (shX Sh x 1, x + 1, 0, 0) 1 1600 1600 = (shX Sh x 2, x + 2, 1, 1600) by unfold zTn; exact congrArg (fun q => (q, x + 1 + 1, 1, 1600)) (shX_s (n := 1) (t := 1) (u := 1600) rfl rfl)]
  refine z_putRF fx hnm 11 0 (show (shX Sh x 2 x).1 = 18 by rw [shX_0 (by omega)]) (lf11_9) (fun q h => by cases h; exact ⟨rfl, rfl⟩) ⟨rfl, by decide⟩ ⟨rfl, rfl⟩ (show (shX Sh x 2 (x + 1)).1 = _ by rw [shX_in (by omega)]; rfl) di11_10 ?_
  show zZ zK0 X (shX Sh x 2, x + 2, 1, 1600) (xm1 μ x) 13 [(0, .ref x)] []
  refine z_aload_n fx (k := 0) (i := 0) rfl rfl di11_13 ?_
  refine z_bipush fx (v := 20) (by decide) di11_14 ?_
  refine z_newQ (T := (shX Sh x 2, x + 2, 1, 1600)) fx zK0_ok 3 (by decide) rfl (N := 20) (by decide) (zTb1 29 rfl rfl) (hA _ (by show x ≤ x + 2; omega)) ⟨Nat.le_of_ble_eq_true rfl, Nat.le_of_ble_eq_true rfl⟩ di11_16 ?_
  rw [show zTn (shX Sh x 2, x + 2, 1, 1600) 6 20 20 = (shX Sh x 3, x + 3, 2, 1620) by unfold zTn; exact congrArg (fun q => (q, x + 2 + 1, 2, 1620)) (shX_s (n := 2) (t := 6) (u := 20) rfl rfl)]
  refine z_putRF fx hnm 11 4 (show (shX Sh x 3 x).1 = 18 by rw [shX_0 (by omega)]) (lf11_15) (fun q h => by cases h; exact ⟨rfl, rfl⟩) ⟨rfl, by decide⟩ ⟨rfl, rfl⟩ (show (shX Sh x 3 (x + 2)).1 = _ by rw [shX_in (by omega)]; rfl) di11_19 ?_
  show zZ zK0 X (shX Sh x 3, x + 3, 2, 1620) (xm2 μ x) 22 [(0, .ref x)] []
  refine z_aload_n fx (k := 0) (i := 0) rfl rfl di11_22 ?_
  refine z_newO (T := (shX Sh x 3, x + 3, 2, 1620)) fx zK0_ok 1 (C := (RX1, TX1, 10)) rfl ⟨zTb1 31 rfl rfl, zTb1 32 rfl rfl, zTb1 2 rfl rfl⟩ (by decide) (hA _ (by show x ≤ x + 3; omega)) ⟨Nat.le_of_ble_eq_true rfl, Nat.le_of_ble_eq_true rfl⟩ di11_23 ?_
  refine z_dup fx rfl di11_26 ?_
  rw [show zTn (shX Sh x 3, x + 3, 2, 1620) (1 + 7) 0 (RX1, TX1, 10).2.2 = (shX Sh x 4, x + 4, 3, 1630) by unfold zTn; exact congrArg (fun q => (q, x + 3 + 1, 3, 1630)) (shX_s rfl rfl)]
  refine z_callIN fx _ rfl (i1 (zLo X) (zDo X) (shX Sh x 4) (x + 4) (zz (xm2 μ x) (x + 3)) (x + 3) (show (shX Sh x 4 (x + 3)).1 = 8 by rw [shX_in (by omega)]; rfl) (by omega) (fun q hq => hA q (by omega))) mi1 mii1 (by decide) rfl ⟨rfl, rfl, Nat.le_of_ble_eq_true rfl, Nat.le_of_ble_eq_true rfl, (by show 3 + 7 ≤ 572; omega), (by show 1630 + 124 ≤ 7034; omega)⟩ rfl (Nat.le_of_ble_eq_true rfl) di11_27 ?_
  rw [show zSu (zSu (zSu (zSu (zSu (zSu (zSu (shX Sh x 4) (x + 4) 1 64) (x + 4 + 1) 1 8) (x + 4 + 2) 1 8) (x + 4 + 3) 1 8) (x + 4 + 4) 1 28) (x + 4 + 5) 16 0) (x + 4 + 6) 16 0 = shX Sh x 11 by rw [shX_s (n := 4) (by omega) rfl, shX_s (n := 5) (by omega) rfl, shX_s (n := 6) (by omega) rfl, shX_s (n := 7) (by omega) rfl, shX_s (n := 8) (by omega) rfl, shX_s (n := 9) (by omega) rfl, shX_s (n := 10) (by omega) rfl]]
  refine z_putRF fx hnm 11 5 (show (shX Sh x 11 x).1 = 18 by rw [shX_0 (by omega)]) (lf11_22) (fun q h => by cases h; exact ⟨rfl, rfl⟩) ⟨rfl, by decide⟩ ⟨rfl, rfl⟩ (show (shX Sh x 11 (x + 3)).1 = _ by rw [shX_in (by omega)]; rfl) di11_30 ?_
  show zZ zK0 X (shX Sh x 11, x + 11, 10, 1754) (xm3 μ x) 33 [(0, .ref x)] []
  refine z_aload_n fx (k := 0) (i := 0) rfl rfl di11_33 ?_
  refine z_newO (T := (shX Sh x 11, x + 11, 10, 1754)) fx zK0_ok 6 (C := (RX6, TX6, 2)) rfl ⟨zTb1 114 rfl rfl, zTb1 115 rfl rfl, zTb1 4 rfl rfl⟩ (by decide) (hA _ (by show x ≤ x + 11; omega)) ⟨Nat.le_of_ble_eq_true rfl, Nat.le_of_ble_eq_true rfl⟩ di11_34 ?_
  refine z_dup fx rfl di11_37 ?_
  rw [show zTn (shX Sh x 11, x + 11, 10, 1754) (6 + 7) 0 (RX6, TX6, 2).2.2 = (shX Sh x 12, x + 12, 11, 1756) by unfold zTn; exact congrArg (fun q => (q, x + 11 + 1, 11, 1756)) (shX_s rfl rfl)]
  refine z_callIN fx _ rfl (i6 (zLo X) (zDo X) (shX Sh x 12) (x + 12) (zz (xm3 μ x) (x + 11)) (x + 11) (show (shX Sh x 12 (x + 11)).1 = 13 by rw [shX_in (by omega)]; rfl) (by omega) (fun q hq => hA q (by omega))) mi6 mii6 (by decide) rfl ⟨rfl, rfl, Nat.le_of_ble_eq_true rfl, Nat.le_of_ble_eq_true rfl, (by show 11 + 2 ≤ 572; omega), (by show 1756 + 16 ≤ 7034; omega)⟩ rfl (Nat.le_of_ble_eq_true rfl) di11_38 ?_
  rw [show zSu (zSu (shX Sh x 12) (x + 12) 1 8) (x + 12 + 1) 1 8 = shX Sh x 14 by rw [shX_s (n := 12) (by omega) rfl, shX_s (n := 13) (by omega) rfl]]
  refine z_putRF fx hnm 11 6 (show (shX Sh x 14 x).1 = 18 by rw [shX_0 (by omega)]) (lf11_29) (fun q h => by cases h; exact ⟨rfl, rfl⟩) ⟨rfl, by decide⟩ ⟨rfl, rfl⟩ (show (shX Sh x 14 (x + 11)).1 = _ by rw [shX_in (by omega)]; rfl) di11_41 ?_
  show zZ zK0 X (shX Sh x 14, x + 14, 13, 1772) (xm4 μ x) 44 [(0, .ref x)] []
  refine z_aload_n fx (k := 0) (i := 0) rfl rfl di11_44 ?_
  refine z_newO (T := (shX Sh x 14, x + 14, 13, 1772)) fx zK0_ok 2 (C := (RX2, TX2, 7)) rfl ⟨zTb1 127 rfl rfl, zTb1 128 rfl rfl, zTb1 5 rfl rfl⟩ (by decide) (hA _ (by show x ≤ x + 14; omega)) ⟨Nat.le_of_ble_eq_true rfl, Nat.le_of_ble_eq_true rfl⟩ di11_45 ?_
  refine z_dup fx rfl di11_48 ?_
  rw [show zTn (shX Sh x 14, x + 14, 13, 1772) (2 + 7) 0 (RX2, TX2, 7).2.2 = (shX Sh x 15, x + 15, 14, 1779) by unfold zTn; exact congrArg (fun q => (q, x + 14 + 1, 14, 1779)) (shX_s rfl rfl)]
  refine z_callIN fx _ rfl (i2 (zLo X) (zDo X) (shX Sh x 15) (x + 15) (zz (xm4 μ x) (x + 14)) (x + 14) (show (shX Sh x 15 (x + 14)).1 = 9 by rw [shX_in (by omega)]; rfl) (by omega) (fun q hq => hA q (by omega))) mi2 mii2 (by decide) rfl ⟨rfl, rfl, Nat.le_of_ble_eq_true rfl, Nat.le_of_ble_eq_true rfl, (by show 14 + 2 ≤ 572; omega), (by show 1779 + 130 ≤ 7034; omega)⟩ rfl (Nat.le_of_ble_eq_true rfl) di11_49 ?_
  rw [show zSu (zSu (shX Sh x 15) (x + 15) 1 65) (x + 15 + 1) 1 65 = shX Sh x 17 by rw [shX_s (n := 15) (by omega) rfl, shX_s (n := 16) (by omega) rfl]]
  refine z_putRF fx hnm 11 7 (show (shX Sh x 17 x).1 = 18 by rw [shX_0 (by omega)]) (lf11_36) (fun q h => by cases h; exact ⟨rfl, rfl⟩) ⟨rfl, by decide⟩ ⟨rfl, rfl⟩ (show (shX Sh x 17 (x + 14)).1 = _ by rw [shX_in (by omega)]; rfl) di11_52 ?_
  show zZ zK0 X (shX Sh x 17, x + 17, 16, 1909) (xm5 μ x) 55 [(0, .ref x)] []
  refine z_aload_n fx (k := 0) (i := 0) rfl rfl di11_55 ?_
  refine z_newO (T := (shX Sh x 17, x + 17, 16, 1909)) fx zK0_ok 7 (C := (RX7, TX7, 9)) rfl ⟨zTb1 159 rfl rfl, zTb1 160 rfl rfl, zTb1 6 rfl rfl⟩ (by decide) (hA _ (by show x ≤ x + 17; omega)) ⟨Nat.le_of_ble_eq_true rfl, Nat.le_of_ble_eq_true rfl⟩ di11_56 ?_
  refine z_dup fx rfl di11_59 ?_
  rw [show zTn (shX Sh x 17, x + 17, 16, 1909) (7 + 7) 0 (RX7, TX7, 9).2.2 = (shX Sh x 18, x + 18, 17, 1918) by unfold zTn; exact congrArg (fun q => (q, x + 17 + 1, 17, 1918)) (shX_s rfl rfl)]
  refine z_callIN fx _ rfl (i7 (zLo X) (zDo X) (shX Sh x 18) (x + 18) (zz (xm5 μ x) (x + 17)) (x + 17) (show (shX Sh x 18 (x + 17)).1 = 14 by rw [shX_in (by omega)]; rfl) (by omega) (fun q hq => hA q (by omega))) mi7 mii7 (by decide) rfl ⟨rfl, rfl, Nat.le_of_ble_eq_true rfl, Nat.le_of_ble_eq_true rfl, (by show 17 + 3 ≤ 572; omega), (by show 1918 + 483 ≤ 7034; omega)⟩ rfl (Nat.le_of_ble_eq_true rfl) di11_60 ?_
  rw [show zSu (zSu (zSu (shX Sh x 18) (x + 18) 1 48) (x + 18 + 1) 1 15) (x + 18 + 2) 1 420 = shX Sh x 21 by rw [shX_s (n := 18) (by omega) rfl, shX_s (n := 19) (by omega) rfl, shX_s (n := 20) (by omega) rfl]]
  refine z_putRF fx hnm 11 8 (show (shX Sh x 21 x).1 = 18 by rw [shX_0 (by omega)]) (lf11_43) (fun q h => by cases h; exact ⟨rfl, rfl⟩) ⟨rfl, by decide⟩ ⟨rfl, rfl⟩ (show (shX Sh x 21 (x + 17)).1 = _ by rw [shX_in (by omega)]; rfl) di11_63 ?_
  show zZ zK0 X (shX Sh x 21, x + 21, 20, 2401) (xm6 μ x) 66 [(0, .ref x)] []
  refine z_aload_n fx (k := 0) (i := 0) rfl rfl di11_66 ?_
  refine z_bipush fx (v := 47) (by decide) di11_67 ?_
  refine z_newI (T := (shX Sh x 21, x + 21, 20, 2401)) fx zK0_ok (N := 47) (show rI 100000000 (nI 47) = _ from rI_nI (by omega) (by omega)) zw_int (hA _ (by show x ≤ x + 21; omega)) ⟨Nat.le_of_ble_eq_true rfl, Nat.le_of_ble_eq_true rfl⟩ di11_69 ?_
  rw [show zTn (shX Sh x 21, x + 21, 20, 2401) 1 47 47 = (shX Sh x 22, x + 22, 21, 2448) by unfold zTn; exact congrArg (fun q => (q, x + 21 + 1, 21, 2448)) (shX_s (n := 21) (t := 1) (u := 47) rfl rfl)]
  refine z_putRF fx hnm 11 9 (show (shX Sh x 22 x).1 = 18 by rw [shX_0 (by omega)]) (lf11_47) (fun q h => by cases h; exact ⟨rfl, rfl⟩) ⟨rfl, by decide⟩ ⟨rfl, rfl⟩ (show (shX Sh x 22 (x + 21)).1 = _ by rw [shX_in (by omega)]; rfl) di11_71 ?_
  show zZ zK0 X (shX Sh x 22, x + 22, 21, 2448) (xm7 μ x) 74 [(0, .ref x)] []
  refine z_aload_n fx (k := 0) (i := 0) rfl rfl di11_74 ?_
  refine z_bipush fx (v := 6) (by decide) di11_75 ?_
  refine z_newI (T := (shX Sh x 22, x + 22, 21, 2448)) fx zK0_ok (N := 6) (show rI 100000000 (nI 6) = _ from rI_nI (by omega) (by omega)) zw_int (hA _ (by show x ≤ x + 22; omega)) ⟨Nat.le_of_ble_eq_true rfl, Nat.le_of_ble_eq_true rfl⟩ di11_77 ?_
  rw [show zTn (shX Sh x 22, x + 22, 21, 2448) 1 6 6 = (shX Sh x 23, x + 23, 22, 2454) by unfold zTn; exact congrArg (fun q => (q, x + 22 + 1, 22, 2454)) (shX_s (n := 22) (t := 1) (u := 6) rfl rfl)]
  refine z_putRF fx hnm 11 10 (show (shX Sh x 23 x).1 = 18 by rw [shX_0 (by omega)]) (lf11_50) (fun q h => by cases h; exact ⟨rfl, rfl⟩) ⟨rfl, by decide⟩ ⟨rfl, rfl⟩ (show (shX Sh x 23 (x + 22)).1 = _ by rw [shX_in (by omega)]; rfl) di11_79 ?_
  show zZ zK0 X (shX Sh x 23, x + 23, 22, 2454) (xm8 μ x) 82 [(0, .ref x)] []
  refine z_aload_n fx (k := 0) (i := 0) rfl rfl di11_82 ?_
  refine z_newO (T := (shX Sh x 23, x + 23, 22, 2454)) fx zK0_ok 10 (C := (RX10, TX10, 18)) rfl ⟨zTb1 201 rfl rfl, zTb1 202 rfl rfl, zTb1 7 rfl rfl⟩ (by decide) (hA _ (by show x ≤ x + 23; omega)) ⟨Nat.le_of_ble_eq_true rfl, Nat.le_of_ble_eq_true rfl⟩ di11_83 ?_
  refine z_dup fx rfl di11_86 ?_
  rw [show zTn (shX Sh x 23, x + 23, 22, 2454) (10 + 7) 0 (RX10, TX10, 18).2.2 = (shX Sh x 24, x + 24, 23, 2472) by unfold zTn; exact congrArg (fun q => (q, x + 23 + 1, 23, 2472)) (shX_s rfl rfl)]
  refine z_callIN fx _ rfl (i10 (zLo X) (zDo X) (shX Sh x 24) (x + 24) (zz (xm8 μ x) (x + 23)) (x + 23) (show (shX Sh x 24 (x + 23)).1 = 17 by rw [shX_in (by omega)]; rfl) (by omega) (fun q hq => hA q (by omega))) mi10 mii10 (by decide) rfl ⟨rfl, rfl, Nat.le_of_ble_eq_true rfl, Nat.le_of_ble_eq_true rfl, (by show 23 + 12 ≤ 572; omega), (by show 2472 + 288 ≤ 7034; omega)⟩ rfl (Nat.le_of_ble_eq_true rfl) di11_87 ?_
  rw [show zSu (zSu (zSu (zSu (zSu (zSu (zSu (zSu (zSu (zSu (zSu (zSu (shX Sh x 24) (x + 24) 1 48) (x + 24 + 1) 1 48) (x + 24 + 2) 1 8) (x + 24 + 3) 2 8) (x + 24 + 4) 1 8) (x + 24 + 5) 1 48) (x + 24 + 6) 1 28) (x + 24 + 7) 1 28) (x + 24 + 8) 2 28) (x + 24 + 9) 1 14) (x + 24 + 10) 1 14) (x + 24 + 11) 1 8 = shX Sh x 36 by rw [shX_s (n := 24) (by omega) rfl, shX_s (n := 25) (by omega) rfl, shX_s (n := 26) (by omega) rfl, shX_s (n := 27) (by omega) rfl, shX_s (n := 28) (by omega) rfl, shX_s (n := 29) (by omega) rfl, shX_s (n := 30) (by omega) rfl, shX_s (n := 31) (by omega) rfl, shX_s (n := 32) (by omega) rfl, shX_s (n := 33) (by omega) rfl, shX_s (n := 34) (by omega) rfl, shX_s (n := 35) (by omega) rfl]]
  refine z_putRN fx 11 11 (show (shX Sh x 36 x).1 = 18 by rw [shX_0 (by omega)]) (lf11_56) (fun q h => by cases h; rfl) ⟨rfl, by decide⟩ ⟨rfl, rfl⟩ (show (shX Sh x 36 (x + 23)).1 = _ by rw [shX_in (by omega)]; rfl) di11_90 ?_
  show zZ zK0 X (shX Sh x 36, x + 36, 35, 2760) (xm9 μ x) 93 [(0, .ref x)] []
  refine z_aload_n fx (k := 0) (i := 0) rfl rfl di11_93 ?_
  refine z_newO (T := (shX Sh x 36, x + 36, 35, 2760)) fx zK0_ok 10 (C := (RX10, TX10, 18)) rfl ⟨zTb1 201 rfl rfl, zTb1 202 rfl rfl, zTb1 7 rfl rfl⟩ (by decide) (hA _ (by show x ≤ x + 36; omega)) ⟨Nat.le_of_ble_eq_true rfl, Nat.le_of_ble_eq_true rfl⟩ di11_94 ?_
  refine z_dup fx rfl di11_97 ?_
  rw [show zTn (shX Sh x 36, x + 36, 35, 2760) (10 + 7) 0 (RX10, TX10, 18).2.2 = (shX Sh x 37, x + 37, 36, 2778) by unfold zTn; exact congrArg (fun q => (q, x + 36 + 1, 36, 2778)) (shX_s rfl rfl)]
  refine z_callIN fx _ rfl (i10 (zLo X) (zDo X) (shX Sh x 37) (x + 37) (zz (xm9 μ x) (x + 36)) (x + 36) (show (shX Sh x 37 (x + 36)).1 = 17 by rw [shX_in (by omega)]; rfl) (by omega) (fun q hq => hA q (by omega))) mi10 mii10 (by decide) rfl ⟨rfl, rfl, Nat.le_of_ble_eq_true rfl, Nat.le_of_ble_eq_true rfl, (by show 36 + 12 ≤ 572; omega), (by show 2778 + 288 ≤ 7034; omega)⟩ rfl (Nat.le_of_ble_eq_true rfl) di11_98 ?_
  rw [show zSu (zSu (zSu (zSu (zSu (zSu (zSu (zSu (zSu (zSu (zSu (zSu (shX Sh x 37) (x + 37) 1 48) (x + 37 + 1) 1 48) (x + 37 + 2) 1 8) (x + 37 + 3) 2 8) (x + 37 + 4) 1 8) (x + 37 + 5) 1 48) (x + 37 + 6) 1 28) (x + 37 + 7) 1 28) (x + 37 + 8) 2 28) (x + 37 + 9) 1 14) (x + 37 + 10) 1 14) (x + 37 + 11) 1 8 = shX Sh x 49 by rw [shX_s (n := 37) (by omega) rfl, shX_s (n := 38) (by omega) rfl, shX_s (n := 39) (by omega) rfl, shX_s (n := 40) (by omega) rfl, shX_s (n := 41) (by omega) rfl, shX_s (n := 42) (by omega) rfl, shX_s (n := 43) (by omega) rfl, shX_s (n := 44) (by omega) rfl, shX_s (n := 45) (by omega) rfl, shX_s (n := 46) (by omega) rfl, shX_s (n := 47) (by omega) rfl, shX_s (n := 48) (by omega) rfl]]
  refine z_putRN fx 11 12 (show (shX Sh x 49 x).1 = 18 by rw [shX_0 (by omega)]) (lf11_60) (fun q h => by cases h; rfl) ⟨rfl, by decide⟩ ⟨rfl, rfl⟩ (show (shX Sh x 49 (x + 36)).1 = _ by rw [shX_in (by omega)]; rfl) di11_101 ?_
  show zZ zK0 X (shX Sh x 49, x + 49, 48, 3066) (xm10 μ x) 104 [(0, .ref x)] []
  refine z_aload_n fx (k := 0) (i := 0) rfl rfl di11_104 ?_
  refine z_newO (T := (shX Sh x 49, x + 49, 48, 3066)) fx zK0_ok 5 (C := (RX5, TX5, 10)) rfl ⟨zTb2 78 rfl rfl, zTb2 79 rfl rfl, zTb1 8 rfl rfl⟩ (by decide) (hA _ (by show x ≤ x + 49; omega)) ⟨Nat.le_of_ble_eq_true rfl, Nat.le_of_ble_eq_true rfl⟩ di11_105 ?_
  refine z_dup fx rfl di11_108 ?_
  rw [show zTn (shX Sh x 49, x + 49, 48, 3066) (5 + 7) 0 (RX5, TX5, 10).2.2 = (shX Sh x 50, x + 50, 49, 3076) by unfold zTn; exact congrArg (fun q => (q, x + 49 + 1, 49, 3076)) (shX_s rfl rfl)]
  refine z_aload_n fx (k := 0) (i := 0) rfl rfl di11_109 ?_
  have htp : gR (zz (xm10 μ x) (x + 49)) 1100 x = some (x + 1) := by
    simp (disch := omega) only [xm10, xm9, xm8, xm7, xm6, xm5, xm4, xm3, xm2, gRo_sR, gRo_zz, gR_sF]
    simp only [xm1, gR_sR, and_self, ↓reduceIte]
  have hsp : gR (zz (xm10 μ x) (x + 49)) 1112 x = some (x + 36) := by
    simp (disch := omega) only [gRo_zz]
    simp only [xm10, gR_sR, and_self, ↓reduceIte]
  refine z_getRX fx 11 0 1100 (w := x + 1) (show (shX Sh x 50 x).1 = 18 by rw [shX_0 (by omega)]) (lf11_9) htp di11_110 ?_
  refine z_aload_n fx (k := 0) (i := 0) rfl rfl di11_113 ?_
  refine z_getRX fx 11 12 1112 (w := x + 36) (show (shX Sh x 50 x).1 = 18 by rw [shX_0 (by omega)]) (lf11_60) hsp di11_114 ?_
  refine z_callI fx _ rfl (i5 (zLo X) (zDo X) (shX Sh x 50) (x + 50) (zz (xm10 μ x) (x + 49)) (x + 49) (x + 1) (x + 36) (show (shX Sh x 50 (x + 49)).1 = 12 by rw [shX_in (by omega)]; rfl) (by omega) (fun q hq => hA q (by omega)) (show (shX Sh x 50 (x + 1)).1 = 1 by rw [shX_in (by omega)]; rfl) (by omega) (show (shX Sh x 50 (x + 36)).1 = 17 by rw [shX_in (by omega)]; rfl) (by omega)) mi5 mii5 (zTb2 80 rfl rfl) rfl ⟨rfl, rfl, Nat.le_of_ble_eq_true rfl, Nat.le_of_ble_eq_true rfl, (by show 49 + 1 ≤ 572; omega), (by show 3076 + 6 ≤ 7034; omega)⟩ rfl (Nat.le_of_ble_eq_true rfl) di11_117 ?_
  rw [show zSu (shX Sh x 50) (x + 50) 1 6 = shX Sh x 51 by rw [shX_s (n := 50) (by omega) rfl]]
  refine z_putRF fx hnm 11 1 (show (shX Sh x 51 x).1 = 18 by rw [shX_0 (by omega)]) (lf11_68) (fun q h => by cases h; exact ⟨rfl, rfl⟩) ⟨rfl, by decide⟩ ⟨rfl, rfl⟩ (show (shX Sh x 51 (x + 49)).1 = _ by rw [shX_in (by omega)]; rfl) di11_120 ?_
  show zZ zK0 X (shX Sh x 51, x + 51, 50, 3082) (xm11 μ x) 123 [(0, .ref x)] []
  have hwir51 : gR (xm11 μ x) 1111 x = some (x + 23) := by
    simp (disch := omega) only [xm11, xm10, gRo_sR, gRo_zz, gR_sF]
    simp only [xm9, gR_sR, and_self, ↓reduceIte]
  refine z_aload_n fx (k := 0) (i := 0) rfl rfl di11_123 ?_
  refine z_newO (T := (shX Sh x 51, x + 51, 50, 3082)) fx zK0_ok 8 (C := (RX8, TX8, 18)) rfl ⟨zTb1 29 rfl rfl, zTb2 117 rfl rfl, zTb1 9 rfl rfl⟩ (by decide) (hA _ (by show x ≤ x + 51; omega)) ⟨Nat.le_of_ble_eq_true rfl, Nat.le_of_ble_eq_true rfl⟩ di11_124 ?_
  refine z_dup fx rfl di11_127 ?_
  rw [show zTn (shX Sh x 51, x + 51, 50, 3082) (8 + 7) 0 (RX8, TX8, 18).2.2 = (shP (shX Sh x 51) (x + 51) 1, x + 51 + 1, 51, 3100) by unfold zTn; exact congrArg (fun q => (q, x + 51 + 1, 51, 3100)) shP_1, show zz (xm11 μ x) (x + 51) = muP (xm11 μ x) (x + 51) (x + 23) 1 0 0 0 0 from muP_1]
  refine z_aload_n fx (k := 0) (i := 0) rfl rfl di11_128 ?_
  refine z_getRX fx 11 11 1111 (w := x + 23) (show (shP (shX Sh x 51) (x + 51) 1 x).1 = 18 by rw [shP_out (by omega), shX_0 (by omega)]) (lf11_56) (by rw [gR_mP, if_neg (by omega)]; exact hwir51) di11_129 ?_
  refine z_callI fx _ rfl (i8 (zLo X) (zDo X) (Sh := shX Sh x 51) (s := x + 51) (w := x + 23) (μ := (xm11 μ x)) (show (shX Sh x 51 (x + 23)).1 = 17 by rw [shX_in (by omega)]; rfl) (by omega) (fun q hq => hA q (by omega))) mi8 mii8 (zTb2 118 rfl rfl) rfl ⟨rfl, rfl, Nat.le_of_ble_eq_true rfl, Nat.le_of_ble_eq_true rfl, (by show 51 + 260 ≤ 572; omega), (by show 3100 + 1958 ≤ 7034; omega)⟩ rfl (Nat.le_of_ble_eq_true rfl) di11_132 ?_
  rw [shX_st1]
  refine z_putRF fx hnm 11 3 (show (shX Sh x 312 x).1 = 18 by rw [shX_0 (by omega)]) (lf11_75) (fun q h => by cases h; exact ⟨rfl, rfl⟩) ⟨rfl, by decide⟩ ⟨rfl, rfl⟩ (show (shX Sh x 312 (x + 51)).1 = _ by rw [shX_in (by omega)]; rfl) di11_135 ?_
  show zZ zK0 X (shX Sh x 312, x + 312, 311, 5058) (xm12 μ x) 138 [(0, .ref x)] []
  have hwir312 : gR (xm12 μ x) 1111 x = some (x + 23) := by
    show gR (sR (muP _ (x + 51) (x + 23) 261 13 8 28 84) 1103 x _) 1111 x = _
    rw [gR_sR, if_neg (by omega), gR_mP, if_neg (by omega)]; exact hwir51
  refine z_aload_n fx (k := 0) (i := 0) rfl rfl di11_138 ?_
  refine z_newO (T := (shX Sh x 312, x + 312, 311, 5058)) fx zK0_ok 8 (C := (RX8, TX8, 18)) rfl ⟨zTb1 29 rfl rfl, zTb2 117 rfl rfl, zTb1 9 rfl rfl⟩ (by decide) (hA _ (by show x ≤ x + 312; omega)) ⟨Nat.le_of_ble_eq_true rfl, Nat.le_of_ble_eq_true rfl⟩ di11_139 ?_
  refine z_dup fx rfl di11_142 ?_
  rw [show zTn (shX Sh x 312, x + 312, 311, 5058) (8 + 7) 0 (RX8, TX8, 18).2.2 = (shP (shX Sh x 312) (x + 312) 1, x + 312 + 1, 312, 5076) by unfold zTn; exact congrArg (fun q => (q, x + 312 + 1, 312, 5076)) shP_1, show zz (xm12 μ x) (x + 312) = muP (xm12 μ x) (x + 312) (x + 23) 1 0 0 0 0 from muP_1]
  refine z_aload_n fx (k := 0) (i := 0) rfl rfl di11_143 ?_
  refine z_getRX fx 11 11 1111 (w := x + 23) (show (shP (shX Sh x 312) (x + 312) 1 x).1 = 18 by rw [shP_out (by omega), shX_0 (by omega)]) (lf11_56) (by rw [gR_mP, if_neg (by omega)]; exact hwir312) di11_144 ?_
  refine z_callI fx _ rfl (i8 (zLo X) (zDo X) (Sh := shX Sh x 312) (s := x + 312) (w := x + 23) (μ := (xm12 μ x)) (show (shX Sh x 312 (x + 23)).1 = 17 by rw [shX_in (by omega)]; rfl) (by omega) (fun q hq => hA q (by omega))) mi8 mii8 (zTb2 118 rfl rfl) rfl ⟨rfl, rfl, Nat.le_of_ble_eq_true rfl, Nat.le_of_ble_eq_true rfl, (by show 312 + 260 ≤ 572; omega), (by show 5076 + 1958 ≤ 7034; omega)⟩ rfl (Nat.le_of_ble_eq_true rfl) di11_147 ?_
  rw [shX_st2]
  refine z_putRF fx hnm 11 2 (show (shX Sh x 573 x).1 = 18 by rw [shX_0 (by omega)]) (lf11_79) (fun q h => by cases h; exact ⟨rfl, rfl⟩) ⟨rfl, by decide⟩ ⟨rfl, rfl⟩ (show (shX Sh x 573 (x + 312)).1 = _ by rw [shX_in (by omega)]; rfl) di11_150 ?_
  show zZ zK0 X (shX Sh x 573, x + 573, 572, 7034) (xm13 μ x) 153 [(0, .ref x)] []
  refine z_aload_n fx (k := 0) (i := 0) rfl rfl di11_153 ?_
  refine z_iconst fx (v := 1) (by decide) di11_154 ?_
  refine z_putI fx (ci := 11) 17 (show (shX Sh x 573 x).1 = 18 by rw [shX_0 (by omega)]) (lf11_82) ⟨rfl, rfl, fun q h => by cases h; rfl⟩ rfl di11_155 ?_
  exact z_return fx fin di11_158
theorem mi11 : zMw yX11_init cX11_init 1 none 0 := ⟨zTb1 25 rfl rfl, zTb1 1 rfl rfl, by decide, by decide, by decide +kernel⟩
theorem mii11 : Cond.instanceMethod yX11_init ∈ zTb := zTb1 24 rfl rfl
end zXc
