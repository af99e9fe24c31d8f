/-! THE CONSTRUCTOR OF WaveBridges -/
def xL : List (Nat × Nat) := [(18, 0), (1, 1600), (12, 0), (1, 6), (6, 20), (8, 0), (1, 64), (1, 8), (1, 8), (1, 8), (1, 28), (16, 0), (16, 0), (13, 0), (1, 8), (1, 8), (9, 0), (1, 65), (1, 65), (14, 0), (1, 48), (1, 15), (1, 420), (1, 47), (1, 6), (17, 0), (1, 48), (1, 48), (1, 8), (2, 8), (1, 8), (1, 48), (1, 28), (1, 28), (2, 28), (1, 14), (1, 14), (1, 8), (17, 0), (1, 48), (1, 48), (1, 8), (2, 8), (1, 8), (1, 48), (1, 28), (1, 28), (2, 28), (1, 14), (1, 14), (1, 8)]
def xT (d : Nat) : Nat × Nat := if d < 51 then xL.getD d (0, 0) else if d < 312 then stT (d - 51) else stT (d - 312)
def shX (Sh : zSh) (x n : Nat) : zSh := fun a => if x ≤ a ∧ a < x + n then xT (a - x) else Sh a
section zXc
variable {Sh : zSh} {s w x n a t d : Nat} {μ : zM}
theorem shX_s (h : a = x + n) {u : Nat} (ht : xT n = (t, u)) : zSu (shX Sh x n) a t u = shX Sh x (n + 1) := by
  subst h
  funext q
  unfold zSu shX
  by_cases c : q = x + n
  · subst c
    rw [if_pos rfl, if_pos (by omega), Nat.add_sub_cancel_left, ht]
  · rw [if_neg c]
    by_cases c2 : x ≤ q ∧ q < x + n
    · rw [if_pos c2, if_pos (by omega)]
    · rw [if_neg c2, if_neg (by omega)]
theorem shX_in (h : a < n) : shX Sh x n (x + a) = xT a := by
  unfold shX
  rw [if_pos (by omega), Nat.add_sub_cancel_left]
theorem shX_0 (h : 0 < n) : shX Sh x n x = (18, 0) := by
  unfold shX
  rw [if_pos (by omega), Nat.sub_self]; rfl
theorem shX_out (h : a < x ∨ x + n ≤ a) : shX Sh x n a = Sh a := by
  unfold shX
  rw [if_neg (by omega)]
theorem shP_1 : zSu Sh s 15 0 = shP Sh s 1 := by
  have e5 : shP Sh s 0 = Sh := by funext q; exact shP_out (by omega)
  have e6 := shP_s (Sh := Sh) (s := s) (n := 0) (a := s) (t := 15) (u := 0) rfl rfl
  rw [e5] at e6
  exact e6
theorem shX_st1 : shP (shX Sh x 51) (x + 51) 261 = shX Sh x 312 := by
  funext q
  unfold shP
  by_cases c : x + 51 ≤ q ∧ q < x + 51 + 261
  · rw [if_pos c]; unfold shX; rw [if_pos (by omega)]; unfold xT; rw [if_neg (by omega), if_pos (by omega)]; exact congrArg stT (by omega)
  · rw [if_neg c]; unfold shX
    by_cases c2 : x ≤ q ∧ q < x + 51
    · rw [if_pos c2, if_pos (by omega)]
    · rw [if_neg c2, if_neg (by omega)]
theorem shX_st2 : shP (shX Sh x 312) (x + 312) 261 = shX Sh x 573 := by
  funext q
  unfold shP
  by_cases c : x + 312 ≤ q ∧ q < x + 312 + 261
  · rw [if_pos c]; unfold shX; rw [if_pos (by omega)]; unfold xT; rw [if_neg (by omega), if_neg (by omega)]; exact congrArg stT (by omega)
  · rw [if_neg c]; unfold shX
    by_cases c2 : x ≤ q ∧ q < x + 312
    · rw [if_pos c2, if_pos (by omega)]
    · rw [if_neg c2, if_neg (by omega)]
theorem di11_0 : zd cX11_init 0 (.aload_n 0) 1 1 := by decide +kernel
theorem di11_1 : zd cX11_init 1 (.invokespecial 3) 3 4 := by decide +kernel
theorem di11_4 : zd cX11_init 4 (.aload_n 0) 1 5 := by decide +kernel
theorem di11_5 : zd cX11_init 5 (.sipush 1600) 3 8 := by decide +kernel
theorem di11_8 : zd cX11_init 8 (.newarray .int) 2 10 := by decide +kernel
theorem di11_10 : zd cX11_init 10 (.putfield 9) 3 13 := by decide +kernel
theorem di11_13 : zd cX11_init 13 (.aload_n 0) 1 14 := by decide +kernel
theorem di11_14 : zd cX11_init 14 (.new 13) 3 17 := by decide +kernel
theorem di11_17 : zd cX11_init 17 (.dup) 1 18 := by decide +kernel
theorem di11_18 : zd cX11_init 18 (.aload_n 0) 1 19 := by decide +kernel
theorem di11_19 : zd cX11_init 19 (.getfield 9) 3 22 := by decide +kernel
theorem di11_22 : zd cX11_init 22 (.invokespecial 15) 3 25 := by decide +kernel
theorem di11_25 : zd cX11_init 25 (.putfield 18) 3 28 := by decide +kernel
theorem di11_28 : zd cX11_init 28 (.aload_n 0) 1 29 := by decide +kernel
theorem di11_29 : zd cX11_init 29 (.bipush 20) 2 31 := by decide +kernel
theorem di11_31 : zd cX11_init 31 (.anewarray 22) 3 34 := by decide +kernel
theorem di11_34 : zd cX11_init 34 (.putfield 24) 3 37 := by decide +kernel
theorem di11_37 : zd cX11_init 37 (.aload_n 0) 1 38 := by decide +kernel
theorem di11_38 : zd cX11_init 38 (.new 28) 3 41 := by decide +kernel
theorem di11_41 : zd cX11_init 41 (.dup) 1 42 := by decide +kernel
theorem di11_42 : zd cX11_init 42 (.invokespecial 30) 3 45 := by decide +kernel
theorem di11_45 : zd cX11_init 45 (.putfield 31) 3 48 := by decide +kernel
theorem di11_48 : zd cX11_init 48 (.aload_n 0) 1 49 := by decide +kernel
theorem di11_49 : zd cX11_init 49 (.new 35) 3 52 := by decide +kernel
theorem di11_52 : zd cX11_init 52 (.dup) 1 53 := by decide +kernel
theorem di11_53 : zd cX11_init 53 (.invokespecial 37) 3 56 := by decide +kernel
theorem di11_56 : zd cX11_init 56 (.putfield 38) 3 59 := by decide +kernel
theorem di11_59 : zd cX11_init 59 (.aload_n 0) 1 60 := by decide +kernel
theorem di11_60 : zd cX11_init 60 (.new 42) 3 63 := by decide +kernel
theorem di11_63 : zd cX11_init 63 (.dup) 1 64 := by decide +kernel
theorem di11_64 : zd cX11_init 64 (.invokespecial 44) 3 67 := by decide +kernel
theorem di11_67 : zd cX11_init 67 (.putfield 45) 3 70 := by decide +kernel
theorem di11_70 : zd cX11_init 70 (.aload_n 0) 1 71 := by decide +kernel
theorem di11_71 : zd cX11_init 71 (.new 49) 3 74 := by decide +kernel
theorem di11_74 : zd cX11_init 74 (.dup) 1 75 := by decide +kernel
theorem di11_75 : zd cX11_init 75 (.invokespecial 51) 3 78 := by decide +kernel
theorem di11_78 : zd cX11_init 78 (.putfield 52) 3 81 := by decide +kernel
theorem di11_81 : zd cX11_init 81 (.aload_n 0) 1 82 := by decide +kernel
theorem di11_82 : zd cX11_init 82 (.bipush 47) 2 84 := by decide +kernel
theorem di11_84 : zd cX11_init 84 (.newarray .int) 2 86 := by decide +kernel
theorem di11_86 : zd cX11_init 86 (.putfield 56) 3 89 := by decide +kernel
theorem di11_89 : zd cX11_init 89 (.aload_n 0) 1 90 := by decide +kernel
theorem di11_90 : zd cX11_init 90 (.bipush 6) 2 92 := by decide +kernel
theorem di11_92 : zd cX11_init 92 (.newarray .int) 2 94 := by decide +kernel
theorem di11_94 : zd cX11_init 94 (.putfield 59) 3 97 := by decide +kernel
theorem di11_97 : zd cX11_init 97 (.aload_n 0) 1 98 := by decide +kernel
theorem di11_98 : zd cX11_init 98 (.new 62) 3 101 := by decide +kernel
theorem di11_101 : zd cX11_init 101 (.dup) 1 102 := by decide +kernel
theorem di11_102 : zd cX11_init 102 (.invokespecial 64) 3 105 := by decide +kernel
theorem di11_105 : zd cX11_init 105 (.putfield 65) 3 108 := by decide +kernel
theorem di11_108 : zd cX11_init 108 (.aload_n 0) 1 109 := by decide +kernel
theorem di11_109 : zd cX11_init 109 (.new 62) 3 112 := by decide +kernel
theorem di11_112 : zd cX11_init 112 (.dup) 1 113 := by decide +kernel
theorem di11_113 : zd cX11_init 113 (.invokespecial 64) 3 116 := by decide +kernel
theorem di11_116 : zd cX11_init 116 (.putfield 69) 3 119 := by decide +kernel
theorem di11_119 : zd cX11_init 119 (.aload_n 0) 1 120 := by decide +kernel
theorem di11_120 : zd cX11_init 120 (.new 22) 3 123 := by decide +kernel
theorem di11_123 : zd cX11_init 123 (.dup) 1 124 := by decide +kernel
theorem di11_124 : zd cX11_init 124 (.aload_n 0) 1 125 := by decide +kernel
theorem di11_125 : zd cX11_init 125 (.getfield 65) 3 128 := by decide +kernel
theorem di11_128 : zd cX11_init 128 (.invokespecial 72) 3 131 := by decide +kernel
theorem di11_131 : zd cX11_init 131 (.putfield 75) 3 134 := by decide +kernel
theorem di11_134 : zd cX11_init 134 (.aload_n 0) 1 135 := by decide +kernel
theorem di11_135 : zd cX11_init 135 (.new 22) 3 138 := by decide +kernel
theorem di11_138 : zd cX11_init 138 (.dup) 1 139 := by decide +kernel
theorem di11_139 : zd cX11_init 139 (.aload_n 0) 1 140 := by decide +kernel
theorem di11_140 : zd cX11_init 140 (.getfield 65) 3 143 := by decide +kernel
theorem di11_143 : zd cX11_init 143 (.invokespecial 72) 3 146 := by decide +kernel
theorem di11_146 : zd cX11_init 146 (.putfield 79) 3 149 := by decide +kernel
theorem di11_149 : zd cX11_init 149 (.aload_n 0) 1 150 := by decide +kernel
theorem di11_150 : zd cX11_init 150 (.iconst 1) 1 151 := by decide +kernel
theorem di11_151 : zd cX11_init 151 (.putfield 82) 3 154 := by decide +kernel
theorem di11_154 : zd cX11_init 154 (.return_) 1 155 := by decide +kernel
theorem gRo_sR {k k' : Nat} {v : Option Nat} {q : Nat} (h : k' ≠ k ∨ q ≠ a) : gR (sR μ k a v) k' q = gR μ k' q := by rw [gR_sR, if_neg (by omega)]
theorem gRo_zz {k q : Nat} (h : q ≠ a) : gR (zz μ a) k q = gR μ k q := by rw [gR_zz, if_neg h]
def xm0 (μ : zM) (x : Nat) : zM := zz μ x
def xm1 (μ : zM) (x : Nat) : zM := sR (zz (xm0 μ x) (x + 1)) 1100 x (some (x + 1))
def xm2 (μ : zM) (x : Nat) : zM := sR (sF (sR (sR (zz (zz (xm1 μ x) (x + 2)) (x + 3)) 500 (x + 2) (some (x + 3))) 501 (x + 2) (some (x + 1))) 508 (x + 2) (-1)) 1101 x (some (x + 2))
def xm3 (μ : zM) (x : Nat) : zM := sR (zz (xm2 μ x) (x + 4)) 1104 x (some (x + 4))
def xm4 (μ : zM) (x : Nat) : zM := sR (sR (zz (sR (zz (sR (zz (sR (zz (sR (zz (sR (zz (sR (zz (zz (xm3 μ x) (x + 5)) (x + 6)) 100 (x + 5) (some (x + 6))) (x + 6 + 1)) 101 (x + 5) (some (x + 6 + 1))) (x + 6 + 2)) 102 (x + 5) (some (x + 6 + 2))) (x + 6 + 3)) 103 (x + 5) (some (x + 6 + 3))) (x + 6 + 4)) 104 (x + 5) (some (x + 6 + 4))) (x + 6 + 5)) 105 (x + 5) (some (x + 6 + 5))) (x + 6 + 6)) 106 (x + 5) (some (x + 6 + 6))) 1105 x (some (x + 5))
def xm5 (μ : zM) (x : Nat) : zM := sR (sR (zz (sR (zz (zz (xm4 μ x) (x + 13)) (x + 14)) 600 (x + 13) (some (x + 14))) (x + 14 + 1)) 601 (x + 13) (some (x + 14 + 1))) 1106 x (some (x + 13))
def xm6 (μ : zM) (x : Nat) : zM := sR (sR (zz (sR (zz (zz (xm5 μ x) (x + 16)) (x + 17)) 200 (x + 16) (some (x + 17))) (x + 17 + 1)) 201 (x + 16) (some (x + 17 + 1))) 1107 x (some (x + 16))
def xm7 (μ : zM) (x : Nat) : zM := sR (sR (zz (sR (zz (sR (zz (zz (xm6 μ x) (x + 19)) (x + 20)) 700 (x + 19) (some (x + 20))) (x + 20 + 1)) 701 (x + 19) (some (x + 20 + 1))) (x + 20 + 2)) 702 (x + 19) (some (x + 20 + 2))) 1108 x (some (x + 19))
def xm8 (μ : zM) (x : Nat) : zM := sR (zz (xm7 μ x) (x + 23)) 1109 x (some (x + 23))
def xm9 (μ : zM) (x : Nat) : zM := sR (zz (xm8 μ x) (x + 24)) 1110 x (some (x + 24))
def xm10 (μ : zM) (x : Nat) : zM := sR (sR (zz (sR (zz (sR (zz (sR (zz (sR (zz (sR (zz (sR (zz (sR (zz (sR (zz (sR (zz (sR (zz (sR (zz (zz (xm9 μ x) (x + 25)) (x + 26)) 1000 (x + 25) (some (x + 26))) (x + 26 + 1)) 1001 (x + 25) (some (x + 26 + 1))) (x + 26 + 2)) 1002 (x + 25) (some (x + 26 + 2))) (x + 26 + 3)) 1003 (x + 25) (some (x + 26 + 3))) (x + 26 + 4)) 1004 (x + 25) (some (x + 26 + 4))) (x + 26 + 5)) 1005 (x + 25) (some (x + 26 + 5))) (x + 26 + 6)) 1006 (x + 25) (some (x + 26 + 6))) (x + 26 + 7)) 1007 (x + 25) (some (x + 26 + 7))) (x + 26 + 8)) 1008 (x + 25) (some (x + 26 + 8))) (x + 26 + 9)) 1009 (x + 25) (some (x + 26 + 9))) (x + 26 + 10)) 1010 (x + 25) (some (x + 26 + 10))) (x + 26 + 11)) 1011 (x + 25) (some (x + 26 + 11))) 1111 x (some (x + 25))
def xm11 (μ : zM) (x : Nat) : zM := sR (sR (zz (sR (zz (sR (zz (sR (zz (sR (zz (sR (zz (sR (zz (sR (zz (sR (zz (sR (zz (sR (zz (sR (zz (zz (xm10 μ x) (x + 38)) (x + 39)) 1000 (x + 38) (some (x + 39))) (x + 39 + 1)) 1001 (x + 38) (some (x + 39 + 1))) (x + 39 + 2)) 1002 (x + 38) (some (x + 39 + 2))) (x + 39 + 3)) 1003 (x + 38) (some (x + 39 + 3))) (x + 39 + 4)) 1004 (x + 38) (some (x + 39 + 4))) (x + 39 + 5)) 1005 (x + 38) (some (x + 39 + 5))) (x + 39 + 6)) 1006 (x + 38) (some (x + 39 + 6))) (x + 39 + 7)) 1007 (x + 38) (some (x + 39 + 7))) (x + 39 + 8)) 1008 (x + 38) (some (x + 39 + 8))) (x + 39 + 9)) 1009 (x + 38) (some (x + 39 + 9))) (x + 39 + 10)) 1010 (x + 38) (some (x + 39 + 10))) (x + 39 + 11)) 1011 (x + 38) (some (x + 39 + 11))) 1112 x (some (x + 38))
def xm12 (μ : zM) (x : Nat) : zM := sR (muP (xm11 μ x) (x + 51) (x + 25) 261 13 8 28 84) 1103 x (some (x + 51))
def xm13 (μ : zM) (x : Nat) : zM := sR (muP (xm12 μ x) (x + 312) (x + 25) 261 13 8 28 84) 1102 x (some (x + 312))
def xm14 (μ : zM) (x : Nat) : zM := sF (xm13 μ x) 1117 x 1
set_option maxHeartbeats 4000000 in
set_option maxRecDepth 20000 in
theorem i11 (l : Launch) (D : zDt) (hA : ∀ q, x ≤ q → zAf D q) : zMet l D zK0 yX11_init cX11_init 1 none (zrc 4 83 572 7034) [.ref x] (shX Sh x 1) (x + 1) (xm0 μ x) none (shX Sh x 573) (x + 573) (xm14 μ x) 572 7034 := by
  refine zMet_ofI (by decide) (Nat.le_of_ble_eq_true rfl) fun X hX1 hX2 fx hnm fin => ?_
  subst hX1; subst hX2
  replace fx : zFix X cX11_init RX11 (zrc 4 83 572 7034) 1 := fx
  replace hnm : (X.2.2.2.2.2.2.2.2.1).name = "<init>" := hnm
  show zZ zK0 X (shX Sh x 1, x + 1, 0, 0) (xm0 μ x) 0 [(0, .ref x)] []
  refine z_aload_n fx (k := 0) (i := 0) rfl rfl di11_0 ?_
  refine z_obj fx (zw_obj (zTb1 26 rfl rfl)) (Nat.le_of_ble_eq_true rfl) ⟨Nat.le_of_ble_eq_true rfl, Nat.le_of_ble_eq_true rfl⟩ di11_1 ?_
  refine z_aload_n fx (k := 0) (i := 0) rfl rfl di11_4 ?_
  refine z_sipush fx (v := 1600) (by decide) di11_5 ?_
  refine z_newI (T := (shX Sh x 1, x + 1, 0, 0)) fx zK0_ok (N := 1600) (show rI 100000000 (nI 1600) = _ from rI_nI (by omega) (by omega)) zw_int (hA _ (by show x ≤ x + 1; omega)) ⟨Nat.le_of_ble_eq_true rfl, Nat.le_of_ble_eq_true rfl⟩ di11_8 ?_
  rw [show zTn (shX Sh x 1, x + 1, 0, 0) 1 1600 1600 = (shX Sh x 2, x + 2, 1, 1600) by unfold zTn; exact congrArg (fun q => (q, x + 1 + 1, 1, 1600)) (shX_s (n := 1) (t := 1) (u := 1600) rfl rfl)]
  refine z_putRF fx hnm 11 0 (show (shX Sh x 2 x).1 = 18 by rw [shX_0 (by omega)]) (lf11_9) (fun q h => by cases h; exact ⟨rfl, rfl⟩) ⟨rfl, by decide⟩ ⟨rfl, rfl⟩ (show (shX Sh x 2 (x + 1)).1 = _ by rw [shX_in (by omega)]; rfl) di11_10 ?_
  show zZ zK0 X (shX Sh x 2, x + 2, 1, 1600) (xm1 μ x) 13 [(0, .ref x)] []
  refine z_aload_n fx (k := 0) (i := 0) rfl rfl di11_13 ?_
  refine z_newO (T := (shX Sh x 2, x + 2, 1, 1600)) fx zK0_ok 5 (C := (RX5, TX5, 10)) rfl ⟨zTb1 29 rfl rfl, zTb1 30 rfl rfl, zTb1 2 rfl rfl⟩ (by decide) (hA _ (by show x ≤ x + 2; omega)) ⟨Nat.le_of_ble_eq_true rfl, Nat.le_of_ble_eq_true rfl⟩ di11_14 ?_
  refine z_dup fx rfl di11_17 ?_
  rw [show zTn (shX Sh x 2, x + 2, 1, 1600) (5 + 7) 0 (RX5, TX5, 10).2.2 = (shX Sh x 3, x + 3, 2, 1610) by unfold zTn; exact congrArg (fun q => (q, x + 2 + 1, 2, 1610)) (shX_s rfl rfl)]
  refine z_aload_n fx (k := 0) (i := 0) rfl rfl di11_18 ?_
  refine z_getRX fx 11 0 1100 (w := x + 1) (show (shX Sh x 3 x).1 = 18 by rw [shX_0 (by omega)]) (lf11_9) (by show gR (zz (xm1 μ x) (x + 2)) 1100 x = _; rw [gR_zz, if_neg (by omega)]; show gR (sR (zz (xm0 μ x) (x + 1)) 1100 x (some (x + 1))) 1100 x = _; rw [gR_sR, if_pos ⟨rfl, rfl⟩]) di11_19 ?_
  refine z_callI fx _ rfl (i5 (zLo X) (zDo X) (shX Sh x 3) (x + 3) (zz (xm1 μ x) (x + 2)) (x + 2) (x + 1) (show (shX Sh x 3 (x + 2)).1 = 12 by rw [shX_in (by omega)]; rfl) (by omega) (fun q hq => hA q (by omega)) (show (shX Sh x 3 (x + 1)).1 = 1 by rw [shX_in (by omega)]; rfl) (by omega)) mi5 mii5 (zTb1 31 rfl rfl) rfl ⟨rfl, rfl, Nat.le_of_ble_eq_true rfl, Nat.le_of_ble_eq_true rfl, (by show 2 + 1 ≤ 572; omega), (by show 1610 + 6 ≤ 7034; omega)⟩ rfl (Nat.le_of_ble_eq_true rfl) di11_22 ?_
  rw [show zSu (shX Sh x 3) (x + 3) 1 6 = shX Sh x 4 by rw [shX_s (n := 3) (by omega) rfl]]
  refine z_putRF fx hnm 11 1 (show (shX Sh x 4 x).1 = 18 by rw [shX_0 (by omega)]) (lf11_18) (fun q h => by cases h; exact ⟨rfl, rfl⟩) ⟨rfl, by decide⟩ ⟨rfl, rfl⟩ (show (shX Sh x 4 (x + 2)).1 = _ by rw [shX_in (by omega)]; rfl) di11_25 ?_
  show zZ zK0 X (shX Sh x 4, x + 4, 3, 1616) (xm2 μ x) 28 [(0, .ref x)] []
  refine z_aload_n fx (k := 0) (i := 0) rfl rfl di11_28 ?_
  refine z_bipush fx (v := 20) (by decide) di11_29 ?_
  refine z_newQ (T := (shX Sh x 4, x + 4, 3, 1616)) fx zK0_ok 3 (by decide) rfl (N := 20) (by decide) (zTb1 69 rfl rfl) (hA _ (by show x ≤ x + 4; omega)) ⟨Nat.le_of_ble_eq_true rfl, Nat.le_of_ble_eq_true rfl⟩ di11_31 ?_
  rw [show zTn (shX Sh x 4, x + 4, 3, 1616) 6 20 20 = (shX Sh x 5, x + 5, 4, 1636) by unfold zTn; exact congrArg (fun q => (q, x + 4 + 1, 4, 1636)) (shX_s (n := 4) (t := 6) (u := 20) rfl rfl)]
  refine z_putRF fx hnm 11 4 (show (shX Sh x 5 x).1 = 18 by rw [shX_0 (by omega)]) (lf11_24) (fun q h => by cases h; exact ⟨rfl, rfl⟩) ⟨rfl, by decide⟩ ⟨rfl, rfl⟩ (show (shX Sh x 5 (x + 4)).1 = _ by rw [shX_in (by omega)]; rfl) di11_34 ?_
  show zZ zK0 X (shX Sh x 5, x + 5, 4, 1636) (xm3 μ x) 37 [(0, .ref x)] []
  refine z_aload_n fx (k := 0) (i := 0) rfl rfl di11_37 ?_
  refine z_newO (T := (shX Sh x 5, x + 5, 4, 1636)) fx zK0_ok 1 (C := (RX1, TX1, 10)) rfl ⟨zTb1 71 rfl rfl, zTb1 72 rfl rfl, zTb1 3 rfl rfl⟩ (by decide) (hA _ (by show x ≤ x + 5; omega)) ⟨Nat.le_of_ble_eq_true rfl, Nat.le_of_ble_eq_true rfl⟩ di11_38 ?_
  refine z_dup fx rfl di11_41 ?_
  rw [show zTn (shX Sh x 5, x + 5, 4, 1636) (1 + 7) 0 (RX1, TX1, 10).2.2 = (shX Sh x 6, x + 6, 5, 1646) by unfold zTn; exact congrArg (fun q => (q, x + 5 + 1, 5, 1646)) (shX_s rfl rfl)]
  refine z_callIN fx _ rfl (i1 (zLo X) (zDo X) (shX Sh x 6) (x + 6) (zz (xm3 μ x) (x + 5)) (x + 5) (show (shX Sh x 6 (x + 5)).1 = 8 by rw [shX_in (by omega)]; rfl) (by omega) (fun q hq => hA q (by omega))) mi1 mii1 (by decide) rfl ⟨rfl, rfl, Nat.le_of_ble_eq_true rfl, Nat.le_of_ble_eq_true rfl, (by show 5 + 7 ≤ 572; omega), (by show 1646 + 124 ≤ 7034; omega)⟩ rfl (Nat.le_of_ble_eq_true rfl) di11_42 ?_
  rw [show zSu (zSu (zSu (zSu (zSu (zSu (zSu (shX Sh x 6) (x + 6) 1 64) (x + 6 + 1) 1 8) (x + 6 + 2) 1 8) (x + 6 + 3) 1 8) (x + 6 + 4) 1 28) (x + 6 + 5) 16 0) (x + 6 + 6) 16 0 = shX Sh x 13 by rw [shX_s (n := 6) (by omega) rfl, shX_s (n := 7) (by omega) rfl, shX_s (n := 8) (by omega) rfl, shX_s (n := 9) (by omega) rfl, shX_s (n := 10) (by omega) rfl, shX_s (n := 11) (by omega) rfl, shX_s (n := 12) (by omega) rfl]]
  refine z_putRF fx hnm 11 5 (show (shX Sh x 13 x).1 = 18 by rw [shX_0 (by omega)]) (lf11_31) (fun q h => by cases h; exact ⟨rfl, rfl⟩) ⟨rfl, by decide⟩ ⟨rfl, rfl⟩ (show (shX Sh x 13 (x + 5)).1 = _ by rw [shX_in (by omega)]; rfl) di11_45 ?_
  show zZ zK0 X (shX Sh x 13, x + 13, 12, 1770) (xm4 μ x) 48 [(0, .ref x)] []
  refine z_aload_n fx (k := 0) (i := 0) rfl rfl di11_48 ?_
  refine z_newO (T := (shX Sh x 13, x + 13, 12, 1770)) fx zK0_ok 6 (C := (RX6, TX6, 2)) rfl ⟨zTb1 153 rfl rfl, zTb1 154 rfl rfl, zTb1 5 rfl rfl⟩ (by decide) (hA _ (by show x ≤ x + 13; omega)) ⟨Nat.le_of_ble_eq_true rfl, Nat.le_of_ble_eq_true rfl⟩ di11_49 ?_
  refine z_dup fx rfl di11_52 ?_
  rw [show zTn (shX Sh x 13, x + 13, 12, 1770) (6 + 7) 0 (RX6, TX6, 2).2.2 = (shX Sh x 14, x + 14, 13, 1772) by unfold zTn; exact congrArg (fun q => (q, x + 13 + 1, 13, 1772)) (shX_s rfl rfl)]
  refine z_callIN fx _ rfl (i6 (zLo X) (zDo X) (shX Sh x 14) (x + 14) (zz (xm4 μ x) (x + 13)) (x + 13) (show (shX Sh x 14 (x + 13)).1 = 13 by rw [shX_in (by omega)]; rfl) (by omega) (fun q hq => hA q (by omega))) mi6 mii6 (by decide) rfl ⟨rfl, rfl, Nat.le_of_ble_eq_true rfl, Nat.le_of_ble_eq_true rfl, (by show 13 + 2 ≤ 572; omega), (by show 1772 + 16 ≤ 7034; omega)⟩ rfl (Nat.le_of_ble_eq_true rfl) di11_53 ?_
  rw [show zSu (zSu (shX Sh x 14) (x + 14) 1 8) (x + 14 + 1) 1 8 = shX Sh x 16 by rw [shX_s (n := 14) (by omega) rfl, shX_s (n := 15) (by omega) rfl]]
  refine z_putRF fx hnm 11 6 (show (shX Sh x 16 x).1 = 18 by rw [shX_0 (by omega)]) (lf11_38) (fun q h => by cases h; exact ⟨rfl, rfl⟩) ⟨rfl, by decide⟩ ⟨rfl, rfl⟩ (show (shX Sh x 16 (x + 13)).1 = _ by rw [shX_in (by omega)]; rfl) di11_56 ?_
  show zZ zK0 X (shX Sh x 16, x + 16, 15, 1788) (xm5 μ x) 59 [(0, .ref x)] []
  refine z_aload_n fx (k := 0) (i := 0) rfl rfl di11_59 ?_
  refine z_newO (T := (shX Sh x 16, x + 16, 15, 1788)) fx zK0_ok 2 (C := (RX2, TX2, 7)) rfl ⟨zTb1 166 rfl rfl, zTb1 167 rfl rfl, zTb1 6 rfl rfl⟩ (by decide) (hA _ (by show x ≤ x + 16; omega)) ⟨Nat.le_of_ble_eq_true rfl, Nat.le_of_ble_eq_true rfl⟩ di11_60 ?_
  refine z_dup fx rfl di11_63 ?_
  rw [show zTn (shX Sh x 16, x + 16, 15, 1788) (2 + 7) 0 (RX2, TX2, 7).2.2 = (shX Sh x 17, x + 17, 16, 1795) by unfold zTn; exact congrArg (fun q => (q, x + 16 + 1, 16, 1795)) (shX_s rfl rfl)]
  refine z_callIN fx _ rfl (i2 (zLo X) (zDo X) (shX Sh x 17) (x + 17) (zz (xm5 μ x) (x + 16)) (x + 16) (show (shX Sh x 17 (x + 16)).1 = 9 by rw [shX_in (by omega)]; rfl) (by omega) (fun q hq => hA q (by omega))) mi2 mii2 (by decide) rfl ⟨rfl, rfl, Nat.le_of_ble_eq_true rfl, Nat.le_of_ble_eq_true rfl, (by show 16 + 2 ≤ 572; omega), (by show 1795 + 130 ≤ 7034; omega)⟩ rfl (Nat.le_of_ble_eq_true rfl) di11_64 ?_
  rw [show zSu (zSu (shX Sh x 17) (x + 17) 1 65) (x + 17 + 1) 1 65 = shX Sh x 19 by rw [shX_s (n := 17) (by omega) rfl, shX_s (n := 18) (by omega) rfl]]
  refine z_putRF fx hnm 11 7 (show (shX Sh x 19 x).1 = 18 by rw [shX_0 (by omega)]) (lf11_45) (fun q h => by cases h; exact ⟨rfl, rfl⟩) ⟨rfl, by decide⟩ ⟨rfl, rfl⟩ (show (shX Sh x 19 (x + 16)).1 = _ by rw [shX_in (by omega)]; rfl) di11_67 ?_
  show zZ zK0 X (shX Sh x 19, x + 19, 18, 1925) (xm6 μ x) 70 [(0, .ref x)] []
  refine z_aload_n fx (k := 0) (i := 0) rfl rfl di11_70 ?_
  refine z_newO (T := (shX Sh x 19, x + 19, 18, 1925)) fx zK0_ok 7 (C := (RX7, TX7, 9)) rfl ⟨zTb1 198 rfl rfl, zTb1 199 rfl rfl, zTb1 7 rfl rfl⟩ (by decide) (hA _ (by show x ≤ x + 19; omega)) ⟨Nat.le_of_ble_eq_true rfl, Nat.le_of_ble_eq_true rfl⟩ di11_71 ?_
  refine z_dup fx rfl di11_74 ?_
  rw [show zTn (shX Sh x 19, x + 19, 18, 1925) (7 + 7) 0 (RX7, TX7, 9).2.2 = (shX Sh x 20, x + 20, 19, 1934) by unfold zTn; exact congrArg (fun q => (q, x + 19 + 1, 19, 1934)) (shX_s rfl rfl)]
  refine z_callIN fx _ rfl (i7 (zLo X) (zDo X) (shX Sh x 20) (x + 20) (zz (xm6 μ x) (x + 19)) (x + 19) (show (shX Sh x 20 (x + 19)).1 = 14 by rw [shX_in (by omega)]; rfl) (by omega) (fun q hq => hA q (by omega))) mi7 mii7 (by decide) rfl ⟨rfl, rfl, Nat.le_of_ble_eq_true rfl, Nat.le_of_ble_eq_true rfl, (by show 19 + 3 ≤ 572; omega), (by show 1934 + 483 ≤ 7034; omega)⟩ rfl (Nat.le_of_ble_eq_true rfl) di11_75 ?_
  rw [show zSu (zSu (zSu (shX Sh x 20) (x + 20) 1 48) (x + 20 + 1) 1 15) (x + 20 + 2) 1 420 = shX Sh x 23 by rw [shX_s (n := 20) (by omega) rfl, shX_s (n := 21) (by omega) rfl, shX_s (n := 22) (by omega) rfl]]
  refine z_putRF fx hnm 11 8 (show (shX Sh x 23 x).1 = 18 by rw [shX_0 (by omega)]) (lf11_52) (fun q h => by cases h; exact ⟨rfl, rfl⟩) ⟨rfl, by decide⟩ ⟨rfl, rfl⟩ (show (shX Sh x 23 (x + 19)).1 = _ by rw [shX_in (by omega)]; rfl) di11_78 ?_
  show zZ zK0 X (shX Sh x 23, x + 23, 22, 2417) (xm7 μ x) 81 [(0, .ref x)] []
  refine z_aload_n fx (k := 0) (i := 0) rfl rfl di11_81 ?_
  refine z_bipush fx (v := 47) (by decide) di11_82 ?_
  refine z_newI (T := (shX Sh x 23, x + 23, 22, 2417)) fx zK0_ok (N := 47) (show rI 100000000 (nI 47) = _ from rI_nI (by omega) (by omega)) zw_int (hA _ (by show x ≤ x + 23; omega)) ⟨Nat.le_of_ble_eq_true rfl, Nat.le_of_ble_eq_true rfl⟩ di11_84 ?_
  rw [show zTn (shX Sh x 23, x + 23, 22, 2417) 1 47 47 = (shX Sh x 24, x + 24, 23, 2464) by unfold zTn; exact congrArg (fun q => (q, x + 23 + 1, 23, 2464)) (shX_s (n := 23) (t := 1) (u := 47) rfl rfl)]
  refine z_putRF fx hnm 11 9 (show (shX Sh x 24 x).1 = 18 by rw [shX_0 (by omega)]) (lf11_56) (fun q h => by cases h; exact ⟨rfl, rfl⟩) ⟨rfl, by decide⟩ ⟨rfl, rfl⟩ (show (shX Sh x 24 (x + 23)).1 = _ by rw [shX_in (by omega)]; rfl) di11_86 ?_
  show zZ zK0 X (shX Sh x 24, x + 24, 23, 2464) (xm8 μ x) 89 [(0, .ref x)] []
  refine z_aload_n fx (k := 0) (i := 0) rfl rfl di11_89 ?_
  refine z_bipush fx (v := 6) (by decide) di11_90 ?_
  refine z_newI (T := (shX Sh x 24, x + 24, 23, 2464)) fx zK0_ok (N := 6) (show rI 100000000 (nI 6) = _ from rI_nI (by omega) (by omega)) zw_int (hA _ (by show x ≤ x + 24; omega)) ⟨Nat.le_of_ble_eq_true rfl, Nat.le_of_ble_eq_true rfl⟩ di11_92 ?_
  rw [show zTn (shX Sh x 24, x + 24, 23, 2464) 1 6 6 = (shX Sh x 25, x + 25, 24, 2470) by unfold zTn; exact congrArg (fun q => (q, x + 24 + 1, 24, 2470)) (shX_s (n := 24) (t := 1) (u := 6) rfl rfl)]
  refine z_putRF fx hnm 11 10 (show (shX Sh x 25 x).1 = 18 by rw [shX_0 (by omega)]) (lf11_59) (fun q h => by cases h; exact ⟨rfl, rfl⟩) ⟨rfl, by decide⟩ ⟨rfl, rfl⟩ (show (shX Sh x 25 (x + 24)).1 = _ by rw [shX_in (by omega)]; rfl) di11_94 ?_
  show zZ zK0 X (shX Sh x 25, x + 25, 24, 2470) (xm9 μ x) 97 [(0, .ref x)] []
  refine z_aload_n fx (k := 0) (i := 0) rfl rfl di11_97 ?_
  refine z_newO (T := (shX Sh x 25, x + 25, 24, 2470)) fx zK0_ok 10 (C := (RX10, TX10, 18)) rfl ⟨zTb2 0 rfl rfl, zTb2 1 rfl rfl, zTb1 8 rfl rfl⟩ (by decide) (hA _ (by show x ≤ x + 25; omega)) ⟨Nat.le_of_ble_eq_true rfl, Nat.le_of_ble_eq_true rfl⟩ di11_98 ?_
  refine z_dup fx rfl di11_101 ?_
  rw [show zTn (shX Sh x 25, x + 25, 24, 2470) (10 + 7) 0 (RX10, TX10, 18).2.2 = (shX Sh x 26, x + 26, 25, 2488) by unfold zTn; exact congrArg (fun q => (q, x + 25 + 1, 25, 2488)) (shX_s rfl rfl)]
  refine z_callIN fx _ rfl (i10 (zLo X) (zDo X) (shX Sh x 26) (x + 26) (zz (xm9 μ x) (x + 25)) (x + 25) (show (shX Sh x 26 (x + 25)).1 = 17 by rw [shX_in (by omega)]; rfl) (by omega) (fun q hq => hA q (by omega))) mi10 mii10 (by decide) rfl ⟨rfl, rfl, Nat.le_of_ble_eq_true rfl, Nat.le_of_ble_eq_true rfl, (by show 25 + 12 ≤ 572; omega), (by show 2488 + 288 ≤ 7034; omega)⟩ rfl (Nat.le_of_ble_eq_true rfl) di11_102 ?_
  rw [show zSu (zSu (zSu (zSu (zSu (zSu (zSu (zSu (zSu (zSu (zSu (zSu (shX Sh x 26) (x + 26) 1 48) (x + 26 + 1) 1 48) (x + 26 + 2) 1 8) (x + 26 + 3) 2 8) (x + 26 + 4) 1 8) (x + 26 + 5) 1 48) (x + 26 + 6) 1 28) (x + 26 + 7) 1 28) (x + 26 + 8) 2 28) (x + 26 + 9) 1 14) (x + 26 + 10) 1 14) (x + 26 + 11) 1 8 = shX Sh x 38 by rw [shX_s (n := 26) (by omega) rfl, shX_s (n := 27) (by omega) rfl, shX_s (n := 28) (by omega) rfl, shX_s (n := 29) (by omega) rfl, shX_s (n := 30) (by omega) rfl, shX_s (n := 31) (by omega) rfl, shX_s (n := 32) (by omega) rfl, shX_s (n := 33) (by omega) rfl, shX_s (n := 34) (by omega) rfl, shX_s (n := 35) (by omega) rfl, shX_s (n := 36) (by omega) rfl, shX_s (n := 37) (by omega) rfl]]
  refine z_putRN fx 11 11 (show (shX Sh x 38 x).1 = 18 by rw [shX_0 (by omega)]) (lf11_65) (fun q h => by cases h; rfl) ⟨rfl, by decide⟩ ⟨rfl, rfl⟩ (show (shX Sh x 38 (x + 25)).1 = _ by rw [shX_in (by omega)]; rfl) di11_105 ?_
  show zZ zK0 X (shX Sh x 38, x + 38, 37, 2776) (xm10 μ x) 108 [(0, .ref x)] []
  refine z_aload_n fx (k := 0) (i := 0) rfl rfl di11_108 ?_
  refine z_newO (T := (shX Sh x 38, x + 38, 37, 2776)) fx zK0_ok 10 (C := (RX10, TX10, 18)) rfl ⟨zTb2 0 rfl rfl, zTb2 1 rfl rfl, zTb1 8 rfl rfl⟩ (by decide) (hA _ (by show x ≤ x + 38; omega)) ⟨Nat.le_of_ble_eq_true rfl, Nat.le_of_ble_eq_true rfl⟩ di11_109 ?_
  refine z_dup fx rfl di11_112 ?_
  rw [show zTn (shX Sh x 38, x + 38, 37, 2776) (10 + 7) 0 (RX10, TX10, 18).2.2 = (shX Sh x 39, x + 39, 38, 2794) by unfold zTn; exact congrArg (fun q => (q, x + 38 + 1, 38, 2794)) (shX_s rfl rfl)]
  refine z_callIN fx _ rfl (i10 (zLo X) (zDo X) (shX Sh x 39) (x + 39) (zz (xm10 μ x) (x + 38)) (x + 38) (show (shX Sh x 39 (x + 38)).1 = 17 by rw [shX_in (by omega)]; rfl) (by omega) (fun q hq => hA q (by omega))) mi10 mii10 (by decide) rfl ⟨rfl, rfl, Nat.le_of_ble_eq_true rfl, Nat.le_of_ble_eq_true rfl, (by show 38 + 12 ≤ 572; omega), (by show 2794 + 288 ≤ 7034; omega)⟩ rfl (Nat.le_of_ble_eq_true rfl) di11_113 ?_
  rw [show zSu (zSu (zSu (zSu (zSu (zSu (zSu (zSu (zSu (zSu (zSu (zSu (shX Sh x 39) (x + 39) 1 48) (x + 39 + 1) 1 48) (x + 39 + 2) 1 8) (x + 39 + 3) 2 8) (x + 39 + 4) 1 8) (x + 39 + 5) 1 48) (x + 39 + 6) 1 28) (x + 39 + 7) 1 28) (x + 39 + 8) 2 28) (x + 39 + 9) 1 14) (x + 39 + 10) 1 14) (x + 39 + 11) 1 8 = shX Sh x 51 by rw [shX_s (n := 39) (by omega) rfl, shX_s (n := 40) (by omega) rfl, shX_s (n := 41) (by omega) rfl, shX_s (n := 42) (by omega) rfl, shX_s (n := 43) (by omega) rfl, shX_s (n := 44) (by omega) rfl, shX_s (n := 45) (by omega) rfl, shX_s (n := 46) (by omega) rfl, shX_s (n := 47) (by omega) rfl, shX_s (n := 48) (by omega) rfl, shX_s (n := 49) (by omega) rfl, shX_s (n := 50) (by omega) rfl]]
  refine z_putRN fx 11 12 (show (shX Sh x 51 x).1 = 18 by rw [shX_0 (by omega)]) (lf11_69) (fun q h => by cases h; rfl) ⟨rfl, by decide⟩ ⟨rfl, rfl⟩ (show (shX Sh x 51 (x + 38)).1 = _ by rw [shX_in (by omega)]; rfl) di11_116 ?_
  show zZ zK0 X (shX Sh x 51, x + 51, 50, 3082) (xm11 μ x) 119 [(0, .ref x)] []
  have hwir51 : gR (xm11 μ x) 1111 x = some (x + 25) := by
    simp (disch := omega) only [xm11, gRo_sR, gRo_zz, gR_sF]
    simp only [xm10, gR_sR, and_self, ↓reduceIte]
  refine z_aload_n fx (k := 0) (i := 0) rfl rfl di11_119 ?_
  refine z_newO (T := (shX Sh x 51, x + 51, 50, 3082)) fx zK0_ok 8 (C := (RX8, TX8, 18)) rfl ⟨zTb1 69 rfl rfl, zTb2 117 rfl rfl, zTb1 9 rfl rfl⟩ (by decide) (hA _ (by show x ≤ x + 51; omega)) ⟨Nat.le_of_ble_eq_true rfl, Nat.le_of_ble_eq_true rfl⟩ di11_120 ?_
  refine z_dup fx rfl di11_123 ?_
  rw [show zTn (shX Sh x 51, x + 51, 50, 3082) (8 + 7) 0 (RX8, TX8, 18).2.2 = (shP (shX Sh x 51) (x + 51) 1, x + 51 + 1, 51, 3100) by unfold zTn; exact congrArg (fun q => (q, x + 51 + 1, 51, 3100)) shP_1, show zz (xm11 μ x) (x + 51) = muP (xm11 μ x) (x + 51) (x + 25) 1 0 0 0 0 from muP_1]
  refine z_aload_n fx (k := 0) (i := 0) rfl rfl di11_124 ?_
  refine z_getRX fx 11 11 1111 (w := x + 25) (show (shP (shX Sh x 51) (x + 51) 1 x).1 = 18 by rw [shP_out (by omega), shX_0 (by omega)]) (lf11_65) (by rw [gR_mP, if_neg (by omega)]; exact hwir51) di11_125 ?_
  refine z_callI fx _ rfl (i8 (zLo X) (zDo X) (Sh := shX Sh x 51) (s := x + 51) (w := x + 25) (μ := (xm11 μ x)) (show (shX Sh x 51 (x + 25)).1 = 17 by rw [shX_in (by omega)]; rfl) (by omega) (fun q hq => hA q (by omega))) mi8 mii8 (zTb2 118 rfl rfl) rfl ⟨rfl, rfl, Nat.le_of_ble_eq_true rfl, Nat.le_of_ble_eq_true rfl, (by show 51 + 260 ≤ 572; omega), (by show 3100 + 1958 ≤ 7034; omega)⟩ rfl (Nat.le_of_ble_eq_true rfl) di11_128 ?_
  rw [shX_st1]
  refine z_putRF fx hnm 11 3 (show (shX Sh x 312 x).1 = 18 by rw [shX_0 (by omega)]) (lf11_75) (fun q h => by cases h; exact ⟨rfl, rfl⟩) ⟨rfl, by decide⟩ ⟨rfl, rfl⟩ (show (shX Sh x 312 (x + 51)).1 = _ by rw [shX_in (by omega)]; rfl) di11_131 ?_
  show zZ zK0 X (shX Sh x 312, x + 312, 311, 5058) (xm12 μ x) 134 [(0, .ref x)] []
  have hwir312 : gR (xm12 μ x) 1111 x = some (x + 25) := by
    show gR (sR (muP _ (x + 51) (x + 25) 261 13 8 28 84) 1103 x _) 1111 x = _
    rw [gR_sR, if_neg (by omega), gR_mP, if_neg (by omega)]; exact hwir51
  refine z_aload_n fx (k := 0) (i := 0) rfl rfl di11_134 ?_
  refine z_newO (T := (shX Sh x 312, x + 312, 311, 5058)) fx zK0_ok 8 (C := (RX8, TX8, 18)) rfl ⟨zTb1 69 rfl rfl, zTb2 117 rfl rfl, zTb1 9 rfl rfl⟩ (by decide) (hA _ (by show x ≤ x + 312; omega)) ⟨Nat.le_of_ble_eq_true rfl, Nat.le_of_ble_eq_true rfl⟩ di11_135 ?_
  refine z_dup fx rfl di11_138 ?_
  rw [show zTn (shX Sh x 312, x + 312, 311, 5058) (8 + 7) 0 (RX8, TX8, 18).2.2 = (shP (shX Sh x 312) (x + 312) 1, x + 312 + 1, 312, 5076) by unfold zTn; exact congrArg (fun q => (q, x + 312 + 1, 312, 5076)) shP_1, show zz (xm12 μ x) (x + 312) = muP (xm12 μ x) (x + 312) (x + 25) 1 0 0 0 0 from muP_1]
  refine z_aload_n fx (k := 0) (i := 0) rfl rfl di11_139 ?_
  refine z_getRX fx 11 11 1111 (w := x + 25) (show (shP (shX Sh x 312) (x + 312) 1 x).1 = 18 by rw [shP_out (by omega), shX_0 (by omega)]) (lf11_65) (by rw [gR_mP, if_neg (by omega)]; exact hwir312) di11_140 ?_
  refine z_callI fx _ rfl (i8 (zLo X) (zDo X) (Sh := shX Sh x 312) (s := x + 312) (w := x + 25) (μ := (xm12 μ x)) (show (shX Sh x 312 (x + 25)).1 = 17 by rw [shX_in (by omega)]; rfl) (by omega) (fun q hq => hA q (by omega))) mi8 mii8 (zTb2 118 rfl rfl) rfl ⟨rfl, rfl, Nat.le_of_ble_eq_true rfl, Nat.le_of_ble_eq_true rfl, (by show 312 + 260 ≤ 572; omega), (by show 5076 + 1958 ≤ 7034; omega)⟩ rfl (Nat.le_of_ble_eq_true rfl) di11_143 ?_
  rw [shX_st2]
  refine z_putRF fx hnm 11 2 (show (shX Sh x 573 x).1 = 18 by rw [shX_0 (by omega)]) (lf11_79) (fun q h => by cases h; exact ⟨rfl, rfl⟩) ⟨rfl, by decide⟩ ⟨rfl, rfl⟩ (show (shX Sh x 573 (x + 312)).1 = _ by rw [shX_in (by omega)]; rfl) di11_146 ?_
  show zZ zK0 X (shX Sh x 573, x + 573, 572, 7034) (xm13 μ x) 149 [(0, .ref x)] []
  refine z_aload_n fx (k := 0) (i := 0) rfl rfl di11_149 ?_
  refine z_iconst fx (v := 1) (by decide) di11_150 ?_
  refine z_putI fx (ci := 11) 17 (show (shX Sh x 573 x).1 = 18 by rw [shX_0 (by omega)]) (lf11_82) ⟨rfl, rfl, fun q h => by cases h; rfl⟩ rfl di11_151 ?_
  exact z_return fx fin di11_154
theorem mi11 : zMw yX11_init cX11_init 1 none 0 := ⟨zTb1 25 rfl rfl, zTb1 1 rfl rfl, by decide, by decide, by decide +kernel⟩
theorem mii11 : Cond.instanceMethod yX11_init ∈ zTb := zTb1 24 rfl rfl
end zXc
