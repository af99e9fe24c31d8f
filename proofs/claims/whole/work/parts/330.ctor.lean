/-! CONSTRUCTORS, with all references told one by one (zK0) -/
def zKl0 : List (List (Nat × Nat)) := [[(0, 0), (4, 16), (4, 16), (1, 0), (1, 0), (0, 0), (0, 0), (0, 0), (0, 0)],
  [(4, 1), (4, 1), (4, 1), (4, 1), (4, 1), (4, 16), (4, 16), (0, 0), (0, 0), (0, 0)],
  [(4, 1), (4, 1), (0, 0), (1, 0), (0, 0), (0, 0), (1, 0)],
  [(4, 16), (1, 0), (0, 0), (1, 0), (0, 0), (0, 0)],
  [(4, 16), (1, 0), (0, 0), (0, 0), (0, 0), (0, 0), (0, 0), (0, 0), (0, 0), (1, 0), (1, 0), (1, 0), (1, 0), (1, 0), (1, 0)],
  [(4, 1), (4, 1), (0, 0), (0, 0), (0, 0), (0, 0), (0, 0), (0, 0), (0, 0), (4, 17)],
  [(4, 1), (4, 1)],
  [(4, 1), (4, 1), (4, 1), (0, 0), (0, 0), (0, 0), (0, 0), (0, 0), (0, 0)],
  [(4, 3), (4, 4), (4, 5), (4, 2), (4, 1), (4, 1), (4, 1), (4, 1), (4, 2), (4, 16), (4, 16), (4, 16), (4, 17), (0, 0), (0, 0), (0, 0), (0, 0), (1, 0)],
  [(0, 0), (0, 0), (0, 0), (0, 0)],
  [(4, 1), (4, 1), (4, 1), (4, 2), (4, 1), (4, 1), (4, 1), (4, 1), (4, 2), (4, 1), (4, 1), (4, 1), (1, 0), (0, 0), (0, 0), (0, 0), (0, 0), (0, 0)],
  [(4, 1), (4, 12), (4, 15), (4, 15), (4, 6), (4, 8), (4, 13), (4, 9), (4, 14), (4, 1), (4, 1), (4, 17), (4, 17), (0, 0), (0, 0), (0, 0), (0, 0), (0, 0)],
  [(0, 0), (0, 0), (0, 0), (0, 0), (0, 0), (0, 0), (4, 1), (4, 1), (4, 1), (4, 1), (4, 1), (4, 1), (4, 1), (4, 1), (4, 1), (4, 1), (4, 1), (0, 0), (0, 0), (0, 0), (0, 0), (0, 0), (4, 1), (4, 1), (4, 1), (4, 1), (4, 1), (4, 1), (4, 1), (4, 1), (4, 1), (4, 1), (0, 0), (4, 1), (0, 0), (0, 0), (0, 0), (0, 0), (0, 0), (0, 0), (0, 0), (4, 1), (4, 1), (4, 1), (0, 0), (0, 0), (1, 0), (4, 1), (4, 1), (4, 1), (4, 1), (4, 1), (0, 0), (0, 0), (4, 1), (4, 1), (4, 1), (4, 1), (4, 1), (0, 0), (1, 0), (0, 0), (0, 0), (0, 0), (0, 0), (4, 1), (0, 0)]]
def zK0 : zKd := (fun ci k => (zKl0.getD ci []).getD k (0, 0), fun t => (0, (if t = 0 then 7 else if t = 1 then 11 else if t = 2 then 10 else 15), 0))
theorem zK0_ok : zKok zK0 := by
  have key : ∀ r ∈ zKl0, ∀ q ∈ r, q.1 = 4 → q.2 ≠ 0 := by decide
  refine ⟨fun ci k h => ?_, fun t _ => ?_⟩
  · have h : ((zKl0.getD ci []).getD k (0, 0)).1 = 4 := h
    show ((zKl0.getD ci []).getD k (0, 0)).2 ≠ 0
    rw [List.getD_eq_getElem?_getD] at h ⊢
    rw [List.getD_eq_getElem?_getD] at h ⊢
    cases hr : zKl0[ci]? with
    | none => simp [hr] at h
    | some r =>
      cases hq : r[k]? with
      | none => simp [hq, hr] at h
      | some q =>
        simp only [Option.getD_some, hq, hr] at h ⊢
        exact key r (List.mem_of_getElem? hr) q (List.mem_of_getElem? hq) h
  · show (if t = 0 then 7 else if t = 1 then 11 else if t = 2 then 10 else 15) ≠ 0
    split <;> (try split) <;> (try split) <;> decide
abbrev zrc (f n c s : Nat) : Room := { frames := f, cells := c, slots := s, locals := n }
theorem z_top2 {K : zKd} {X : zCx} {T : zTt} {μ : zM} {pc : Nat} {lv : List (Nat × Value)} {st : List Value} {v w : Value} (e : v = w) (k : zZ K X T μ pc lv (w :: st)) : zZ K X T μ pc lv (v :: st) := z_top e k
theorem zSu_o {Sh : zSh} {a t n q : Nat} (h : q ≠ a) : zSu Sh a t n q = Sh q := by simp [zSu, h]
theorem zSu_s {Sh : zSh} {a t n : Nat} : zSu Sh a t n a = (t, n) := by simp [zSu]
theorem zw_obj {own : String} {i : Nat} (h : Cond.methodLink own i Lib.objectInit ∈ zTb) : Cond.methodLink own i Lib.objectInit ∈ zTb ∧ Cond.instanceMethod Lib.objectInit ∈ zTb ∧ Cond.code Lib.objectInit ⟨#[0xb1]⟩ 1 none ∈ zTb := ⟨h, zTb1 27 rfl rfl, zTb1 28 rfl rfl⟩
theorem zw_int : Cond.arrayClass .int ∈ zTb := zTb1 75 rfl rfl
theorem zw_bool : Cond.arrayClass .boolean ∈ zTb := zTb2 77 rfl rfl

theorem di9_0 : zd cX9_init 0 (.aload_n 0) 1 1 := by decide +kernel
theorem di9_1 : zd cX9_init 1 (.invokespecial 1) 3 4 := by decide +kernel
theorem di9_4 : zd cX9_init 4 (.return_) 1 5 := by decide +kernel
set_option maxHeartbeats 4000000 in
set_option maxRecDepth 20000 in
theorem i9 (l : Launch) (D : zDt) (Sh : zSh) (top : Nat) (μ : zM) (o_ : Nat)   : zMet l D zK0 yX9_init cX9_init 1 none (zrc 1 20 0 0) [.ref o_] Sh top μ none Sh top μ 0 0 := by
  refine zMet_ofI (by decide) (Nat.le_of_ble_eq_true rfl) fun X hX1 hX2 fx hnm fin => ?_
  subst hX1; subst hX2
  replace fx : zFix X cX9_init RX9 (zrc 1 20 0 0) 1 := fx
  replace hnm : (X.2.2.2.2.2.2.2.2.1).name = "<init>" := hnm
  show zZ zK0 X (Sh, top, 0, 0) μ 0 [(0, .ref o_)] []
  refine z_aload_n fx (k := 0) (i := 0) rfl rfl di9_0 ?_
  refine z_obj fx (zw_obj (zTb1 42 rfl rfl)) (Nat.le_of_ble_eq_true rfl) ⟨Nat.le_of_ble_eq_true rfl, Nat.le_of_ble_eq_true rfl⟩ di9_1 ?_
  exact z_return fx fin di9_4
theorem mi9 : zMw yX9_init cX9_init 1 none 0 := ⟨zTb1 41 rfl rfl, zTb1 3 rfl rfl, by decide, by decide, by decide +kernel⟩
theorem mii9 : Cond.instanceMethod yX9_init ∈ zTb := zTb1 40 rfl rfl
theorem di3_0 : zd cX3_init 0 (.aload_n 0) 1 1 := by decide +kernel
theorem di3_1 : zd cX3_init 1 (.invokespecial 1) 3 4 := by decide +kernel
theorem di3_4 : zd cX3_init 4 (.aload_n 0) 1 5 := by decide +kernel
theorem di3_5 : zd cX3_init 5 (.new 7) 3 8 := by decide +kernel
theorem di3_8 : zd cX3_init 8 (.dup) 1 9 := by decide +kernel
theorem di3_9 : zd cX3_init 9 (.invokespecial 9) 3 12 := by decide +kernel
theorem di3_12 : zd cX3_init 12 (.putfield 10) 3 15 := by decide +kernel
theorem di3_15 : zd cX3_init 15 (.return_) 1 16 := by decide +kernel
set_option maxHeartbeats 4000000 in
set_option maxRecDepth 20000 in
theorem i3 (l : Launch) (D : zDt) (Sh : zSh) (top : Nat) (μ : zM) (o_ : Nat)  (ho : (Sh o_).1 = 10) (hlt : o_ < top) (hA : ∀ q, top ≤ q → zAf D q) : zMet l D zK0 yX3_init cX3_init 1 none (zrc 2 40 1 4) [.ref o_] Sh top μ none (zSu Sh top 16 0) (top + 1) (sR (zz μ top) 300 o_ (some top)) 1 4 := by
  refine zMet_ofI (by decide) (Nat.le_of_ble_eq_true rfl) fun X hX1 hX2 fx hnm fin => ?_
  subst hX1; subst hX2
  replace fx : zFix X cX3_init RX3 (zrc 2 40 1 4) 1 := fx
  replace hnm : (X.2.2.2.2.2.2.2.2.1).name = "<init>" := hnm
  show zZ zK0 X (Sh, top, 0, 0) μ 0 [(0, .ref o_)] []
  refine z_aload_n fx (k := 0) (i := 0) rfl rfl di3_0 ?_
  refine z_obj fx (zw_obj (zTb3 17 rfl rfl)) (Nat.le_of_ble_eq_true rfl) ⟨Nat.le_of_ble_eq_true rfl, Nat.le_of_ble_eq_true rfl⟩ di3_1 ?_
  refine z_aload_n fx (k := 0) (i := 0) rfl rfl di3_4 ?_
  refine z_newO (T := (Sh, top, 0, 0)) fx zK0_ok 9 (C := (RX9, TX9, 4)) rfl ⟨zTb3 18 rfl rfl, zTb1 38 rfl rfl, zTb1 3 rfl rfl⟩ (by decide) (hA _ (by show top ≤ top; omega)) ⟨Nat.le_of_ble_eq_true rfl, Nat.le_of_ble_eq_true rfl⟩ di3_5 ?_
  show zZ zK0 X ((zSu Sh top 16 0), (top + 1), 1, 4) (zz μ top) 8 [(0, .ref o_)] [.ref top, .ref o_]
  refine z_dup fx rfl di3_8 ?_
  refine z_callIN fx _ rfl (i9 (zLo X) (zDo X) (zSu Sh top 16 0) (top + 1) (zz μ top) top) mi9 mii9 (by decide) rfl ⟨rfl, rfl, Nat.le_of_ble_eq_true rfl, Nat.le_of_ble_eq_true rfl, Nat.le_of_ble_eq_true rfl, Nat.le_of_ble_eq_true rfl⟩ rfl (Nat.le_of_ble_eq_true rfl) di3_9 ?_
  refine z_putRF fx hnm 3 0 (show ((zSu Sh top 16 0) o_).1 = 10 by rw [zSu_o (by omega)]; exact ho) (lf3_10) (fun q h => by cases h; exact ⟨rfl, rfl⟩) ⟨rfl, by decide⟩ ⟨rfl, rfl⟩ (show ((zSu Sh top 16 0) top).1 = 16 by rw [zSu_s]) di3_12 ?_
  show zZ zK0 X ((zSu Sh top 16 0), (top + 1), 1, 4) (sR (zz μ top) 300 o_ (some top)) 15 [(0, .ref o_)] []
  exact z_return fx fin di3_15
theorem mi3 : zMw yX3_init cX3_init 1 none 0 := ⟨zTb3 16 rfl rfl, zTb1 12 rfl rfl, by decide, by decide, by decide +kernel⟩
theorem mii3 : Cond.instanceMethod yX3_init ∈ zTb := zTb3 15 rfl rfl
theorem di4_0 : zd cX4_init 0 (.aload_n 0) 1 1 := by decide +kernel
theorem di4_1 : zd cX4_init 1 (.invokespecial 3) 3 4 := by decide +kernel
theorem di4_4 : zd cX4_init 4 (.aload_n 0) 1 5 := by decide +kernel
theorem di4_5 : zd cX4_init 5 (.new 9) 3 8 := by decide +kernel
theorem di4_8 : zd cX4_init 8 (.dup) 1 9 := by decide +kernel
theorem di4_9 : zd cX4_init 9 (.invokespecial 11) 3 12 := by decide +kernel
theorem di4_12 : zd cX4_init 12 (.putfield 12) 3 15 := by decide +kernel
theorem di4_15 : zd cX4_init 15 (.return_) 1 16 := by decide +kernel
set_option maxHeartbeats 4000000 in
set_option maxRecDepth 20000 in
theorem i4 (l : Launch) (D : zDt) (Sh : zSh) (top : Nat) (μ : zM) (o_ : Nat)  (ho : (Sh o_).1 = 11) (hlt : o_ < top) (hA : ∀ q, top ≤ q → zAf D q) : zMet l D zK0 yX4_init cX4_init 1 none (zrc 2 40 1 4) [.ref o_] Sh top μ none (zSu Sh top 16 0) (top + 1) (sR (zz μ top) 400 o_ (some top)) 1 4 := by
  refine zMet_ofI (by decide) (Nat.le_of_ble_eq_true rfl) fun X hX1 hX2 fx hnm fin => ?_
  subst hX1; subst hX2
  replace fx : zFix X cX4_init RX4 (zrc 2 40 1 4) 1 := fx
  replace hnm : (X.2.2.2.2.2.2.2.2.1).name = "<init>" := hnm
  show zZ zK0 X (Sh, top, 0, 0) μ 0 [(0, .ref o_)] []
  refine z_aload_n fx (k := 0) (i := 0) rfl rfl di4_0 ?_
  refine z_obj fx (zw_obj (zTb2 185 rfl rfl)) (Nat.le_of_ble_eq_true rfl) ⟨Nat.le_of_ble_eq_true rfl, Nat.le_of_ble_eq_true rfl⟩ di4_1 ?_
  refine z_aload_n fx (k := 0) (i := 0) rfl rfl di4_4 ?_
  refine z_newO (T := (Sh, top, 0, 0)) fx zK0_ok 9 (C := (RX9, TX9, 4)) rfl ⟨zTb2 186 rfl rfl, zTb1 38 rfl rfl, zTb1 3 rfl rfl⟩ (by decide) (hA _ (by show top ≤ top; omega)) ⟨Nat.le_of_ble_eq_true rfl, Nat.le_of_ble_eq_true rfl⟩ di4_5 ?_
  show zZ zK0 X ((zSu Sh top 16 0), (top + 1), 1, 4) (zz μ top) 8 [(0, .ref o_)] [.ref top, .ref o_]
  refine z_dup fx rfl di4_8 ?_
  refine z_callIN fx _ rfl (i9 (zLo X) (zDo X) (zSu Sh top 16 0) (top + 1) (zz μ top) top) mi9 mii9 (by decide) rfl ⟨rfl, rfl, Nat.le_of_ble_eq_true rfl, Nat.le_of_ble_eq_true rfl, Nat.le_of_ble_eq_true rfl, Nat.le_of_ble_eq_true rfl⟩ rfl (Nat.le_of_ble_eq_true rfl) di4_9 ?_
  refine z_putRF fx hnm 4 0 (show ((zSu Sh top 16 0) o_).1 = 11 by rw [zSu_o (by omega)]; exact ho) (lf4_12) (fun q h => by cases h; exact ⟨rfl, rfl⟩) ⟨rfl, by decide⟩ ⟨rfl, rfl⟩ (show ((zSu Sh top 16 0) top).1 = 16 by rw [zSu_s]) di4_12 ?_
  show zZ zK0 X ((zSu Sh top 16 0), (top + 1), 1, 4) (sR (zz μ top) 400 o_ (some top)) 15 [(0, .ref o_)] []
  exact z_return fx fin di4_15
theorem mi4 : zMw yX4_init cX4_init 1 none 0 := ⟨zTb2 184 rfl rfl, zTb1 11 rfl rfl, by decide, by decide, by decide +kernel⟩
theorem mii4 : Cond.instanceMethod yX4_init ∈ zTb := zTb2 183 rfl rfl
theorem di0_0 : zd cX0_init 0 (.aload_n 0) 1 1 := by decide +kernel
theorem di0_1 : zd cX0_init 1 (.invokespecial 3) 3 4 := by decide +kernel
theorem di0_4 : zd cX0_init 4 (.aload_n 0) 1 5 := by decide +kernel
theorem di0_5 : zd cX0_init 5 (.new 9) 3 8 := by decide +kernel
theorem di0_8 : zd cX0_init 8 (.dup) 1 9 := by decide +kernel
theorem di0_9 : zd cX0_init 9 (.invokespecial 11) 3 12 := by decide +kernel
theorem di0_12 : zd cX0_init 12 (.putfield 12) 3 15 := by decide +kernel
theorem di0_15 : zd cX0_init 15 (.aload_n 0) 1 16 := by decide +kernel
theorem di0_16 : zd cX0_init 16 (.new 9) 3 19 := by decide +kernel
theorem di0_19 : zd cX0_init 19 (.dup) 1 20 := by decide +kernel
theorem di0_20 : zd cX0_init 20 (.invokespecial 11) 3 23 := by decide +kernel
theorem di0_23 : zd cX0_init 23 (.putfield 18) 3 26 := by decide +kernel
theorem di0_26 : zd cX0_init 26 (.aload_n 0) 1 27 := by decide +kernel
theorem di0_27 : zd cX0_init 27 (.iload_n 1) 1 28 := by decide +kernel
theorem di0_28 : zd cX0_init 28 (.putfield 21) 3 31 := by decide +kernel
theorem di0_31 : zd cX0_init 31 (.return_) 1 32 := by decide +kernel
set_option maxHeartbeats 4000000 in
set_option maxRecDepth 20000 in
theorem i0 (l : Launch) (D : zDt) (Sh : zSh) (top : Nat) (μ : zM) (o_ : Nat) (v_n : Int32) (ho : (Sh o_).1 = 7) (hlt : o_ < top) (hA : ∀ q, top ≤ q → zAf D q) : zMet l D zK0 yX0_init cX0_init 2 none (zrc 2 40 2 8) [.ref o_, .int v_n] Sh top μ none (zSu (zSu Sh top 16 0) (top + 1) 16 0) (top + 2) (sF (sR (zz (sR (zz μ top) 1 o_ (some top)) (top + 1)) 2 o_ (some (top + 1))) 0 o_ v_n) 2 8 := by
  refine zMet_ofI (by decide) (Nat.le_of_ble_eq_true rfl) fun X hX1 hX2 fx hnm fin => ?_
  subst hX1; subst hX2
  replace fx : zFix X cX0_init RX0 (zrc 2 40 2 8) 2 := fx
  replace hnm : (X.2.2.2.2.2.2.2.2.1).name = "<init>" := hnm
  show zZ zK0 X (Sh, top, 0, 0) μ 0 [(0, .ref o_), (1, .int v_n)] []
  refine z_aload_n fx (k := 0) (i := 0) rfl rfl di0_0 ?_
  refine z_obj fx (zw_obj (zTb2 134 rfl rfl)) (Nat.le_of_ble_eq_true rfl) ⟨Nat.le_of_ble_eq_true rfl, Nat.le_of_ble_eq_true rfl⟩ di0_1 ?_
  refine z_aload_n fx (k := 0) (i := 0) rfl rfl di0_4 ?_
  refine z_newO (T := (Sh, top, 0, 0)) fx zK0_ok 9 (C := (RX9, TX9, 4)) rfl ⟨zTb2 135 rfl rfl, zTb1 38 rfl rfl, zTb1 3 rfl rfl⟩ (by decide) (hA _ (by show top ≤ top; omega)) ⟨Nat.le_of_ble_eq_true rfl, Nat.le_of_ble_eq_true rfl⟩ di0_5 ?_
  show zZ zK0 X ((zSu Sh top 16 0), (top + 1), 1, 4) (zz μ top) 8 [(0, .ref o_), (1, .int v_n)] [.ref top, .ref o_]
  refine z_dup fx rfl di0_8 ?_
  refine z_callIN fx _ rfl (i9 (zLo X) (zDo X) (zSu Sh top 16 0) (top + 1) (zz μ top) top) mi9 mii9 (by decide) rfl ⟨rfl, rfl, Nat.le_of_ble_eq_true rfl, Nat.le_of_ble_eq_true rfl, Nat.le_of_ble_eq_true rfl, Nat.le_of_ble_eq_true rfl⟩ rfl (Nat.le_of_ble_eq_true rfl) di0_9 ?_
  refine z_putRF fx hnm 0 1 (show ((zSu Sh top 16 0) o_).1 = 7 by rw [zSu_o (by omega)]; exact ho) (lf0_12) (fun q h => by cases h; exact ⟨rfl, rfl⟩) ⟨rfl, by decide⟩ ⟨rfl, rfl⟩ (show ((zSu Sh top 16 0) top).1 = 16 by rw [zSu_s]) di0_12 ?_
  show zZ zK0 X ((zSu Sh top 16 0), (top + 1), 1, 4) (sR (zz μ top) 1 o_ (some top)) 15 [(0, .ref o_), (1, .int v_n)] []
  refine z_aload_n fx (k := 0) (i := 0) rfl rfl di0_15 ?_
  refine z_newO (T := ((zSu Sh top 16 0), (top + 1), 1, 4)) fx zK0_ok 9 (C := (RX9, TX9, 4)) rfl ⟨zTb2 135 rfl rfl, zTb1 38 rfl rfl, zTb1 3 rfl rfl⟩ (by decide) (hA _ (by show top ≤ (top + 1); omega)) ⟨Nat.le_of_ble_eq_true rfl, Nat.le_of_ble_eq_true rfl⟩ di0_16 ?_
  show zZ zK0 X ((zSu (zSu Sh top 16 0) (top + 1) 16 0), (top + 2), 2, 8) (zz (sR (zz μ top) 1 o_ (some top)) (top + 1)) 19 [(0, .ref o_), (1, .int v_n)] [.ref (top + 1), .ref o_]
  refine z_dup fx rfl di0_19 ?_
  refine z_callIN fx _ rfl (i9 (zLo X) (zDo X) (zSu (zSu Sh top 16 0) (top + 1) 16 0) (top + 2) (zz (sR (zz μ top) 1 o_ (some top)) (top + 1)) (top + 1)) mi9 mii9 (by decide) rfl ⟨rfl, rfl, Nat.le_of_ble_eq_true rfl, Nat.le_of_ble_eq_true rfl, Nat.le_of_ble_eq_true rfl, Nat.le_of_ble_eq_true rfl⟩ rfl (Nat.le_of_ble_eq_true rfl) di0_20 ?_
  refine z_putRF fx hnm 0 2 (show ((zSu (zSu Sh top 16 0) (top + 1) 16 0) o_).1 = 7 by rw [zSu_o (by omega)]; rw [zSu_o (by omega)]; exact ho) (lf0_18) (fun q h => by cases h; exact ⟨rfl, rfl⟩) ⟨rfl, by decide⟩ ⟨rfl, rfl⟩ (show ((zSu (zSu Sh top 16 0) (top + 1) 16 0) (top + 1)).1 = 16 by rw [zSu_s]) di0_23 ?_
  show zZ zK0 X ((zSu (zSu Sh top 16 0) (top + 1) 16 0), (top + 2), 2, 8) (sR (zz (sR (zz μ top) 1 o_ (some top)) (top + 1)) 2 o_ (some (top + 1))) 26 [(0, .ref o_), (1, .int v_n)] []
  refine z_aload_n fx (k := 0) (i := 0) rfl rfl di0_26 ?_
  refine z_iload_n fx (k := 1) (i := 1) rfl rfl di0_27 ?_
  refine z_putIF fx hnm 0 0 (show ((zSu (zSu Sh top 16 0) (top + 1) 16 0) o_).1 = 7 by rw [zSu_o (by omega)]; rw [zSu_o (by omega)]; exact ho) (lf0_21) (fun q h => by cases h; exact ⟨rfl, rfl⟩) rfl rfl di0_28 ?_
  show zZ zK0 X ((zSu (zSu Sh top 16 0) (top + 1) 16 0), (top + 2), 2, 8) (sF (sR (zz (sR (zz μ top) 1 o_ (some top)) (top + 1)) 2 o_ (some (top + 1))) 0 o_ v_n) 31 [(0, .ref o_), (1, .int v_n)] []
  exact z_return fx fin di0_31
theorem mi0 : zMw yX0_init cX0_init 2 none 1 := ⟨zTb2 133 rfl rfl, zTb1 10 rfl rfl, by decide, by decide, by decide +kernel⟩
theorem mii0 : Cond.instanceMethod yX0_init ∈ zTb := zTb2 132 rfl rfl
theorem di10_0 : zd cX10_init 0 (.aload_n 0) 1 1 := by decide +kernel
theorem di10_1 : zd cX10_init 1 (.invokespecial 3) 3 4 := by decide +kernel
theorem di10_4 : zd cX10_init 4 (.aload_n 0) 1 5 := by decide +kernel
theorem di10_5 : zd cX10_init 5 (.bipush 48) 2 7 := by decide +kernel
theorem di10_7 : zd cX10_init 7 (.newarray .int) 2 9 := by decide +kernel
theorem di10_9 : zd cX10_init 9 (.putfield 9) 3 12 := by decide +kernel
theorem di10_12 : zd cX10_init 12 (.aload_n 0) 1 13 := by decide +kernel
theorem di10_13 : zd cX10_init 13 (.bipush 48) 2 15 := by decide +kernel
theorem di10_15 : zd cX10_init 15 (.newarray .int) 2 17 := by decide +kernel
theorem di10_17 : zd cX10_init 17 (.putfield 15) 3 20 := by decide +kernel
theorem di10_20 : zd cX10_init 20 (.aload_n 0) 1 21 := by decide +kernel
theorem di10_21 : zd cX10_init 21 (.bipush 8) 2 23 := by decide +kernel
theorem di10_23 : zd cX10_init 23 (.newarray .int) 2 25 := by decide +kernel
theorem di10_25 : zd cX10_init 25 (.putfield 18) 3 28 := by decide +kernel
theorem di10_28 : zd cX10_init 28 (.aload_n 0) 1 29 := by decide +kernel
theorem di10_29 : zd cX10_init 29 (.bipush 8) 2 31 := by decide +kernel
theorem di10_31 : zd cX10_init 31 (.newarray .boolean) 2 33 := by decide +kernel
theorem di10_33 : zd cX10_init 33 (.putfield 21) 3 36 := by decide +kernel
theorem di10_36 : zd cX10_init 36 (.aload_n 0) 1 37 := by decide +kernel
theorem di10_37 : zd cX10_init 37 (.bipush 8) 2 39 := by decide +kernel
theorem di10_39 : zd cX10_init 39 (.newarray .int) 2 41 := by decide +kernel
theorem di10_41 : zd cX10_init 41 (.putfield 25) 3 44 := by decide +kernel
theorem di10_44 : zd cX10_init 44 (.aload_n 0) 1 45 := by decide +kernel
theorem di10_45 : zd cX10_init 45 (.bipush 48) 2 47 := by decide +kernel
theorem di10_47 : zd cX10_init 47 (.newarray .int) 2 49 := by decide +kernel
theorem di10_49 : zd cX10_init 49 (.putfield 28) 3 52 := by decide +kernel
theorem di10_52 : zd cX10_init 52 (.aload_n 0) 1 53 := by decide +kernel
theorem di10_53 : zd cX10_init 53 (.bipush 28) 2 55 := by decide +kernel
theorem di10_55 : zd cX10_init 55 (.newarray .int) 2 57 := by decide +kernel
theorem di10_57 : zd cX10_init 57 (.putfield 31) 3 60 := by decide +kernel
theorem di10_60 : zd cX10_init 60 (.aload_n 0) 1 61 := by decide +kernel
theorem di10_61 : zd cX10_init 61 (.bipush 28) 2 63 := by decide +kernel
theorem di10_63 : zd cX10_init 63 (.newarray .int) 2 65 := by decide +kernel
theorem di10_65 : zd cX10_init 65 (.putfield 34) 3 68 := by decide +kernel
theorem di10_68 : zd cX10_init 68 (.aload_n 0) 1 69 := by decide +kernel
theorem di10_69 : zd cX10_init 69 (.bipush 28) 2 71 := by decide +kernel
theorem di10_71 : zd cX10_init 71 (.newarray .boolean) 2 73 := by decide +kernel
theorem di10_73 : zd cX10_init 73 (.putfield 37) 3 76 := by decide +kernel
theorem di10_76 : zd cX10_init 76 (.aload_n 0) 1 77 := by decide +kernel
theorem di10_77 : zd cX10_init 77 (.bipush 14) 2 79 := by decide +kernel
theorem di10_79 : zd cX10_init 79 (.newarray .int) 2 81 := by decide +kernel
theorem di10_81 : zd cX10_init 81 (.putfield 40) 3 84 := by decide +kernel
theorem di10_84 : zd cX10_init 84 (.aload_n 0) 1 85 := by decide +kernel
theorem di10_85 : zd cX10_init 85 (.bipush 14) 2 87 := by decide +kernel
theorem di10_87 : zd cX10_init 87 (.newarray .int) 2 89 := by decide +kernel
theorem di10_89 : zd cX10_init 89 (.putfield 43) 3 92 := by decide +kernel
theorem di10_92 : zd cX10_init 92 (.aload_n 0) 1 93 := by decide +kernel
theorem di10_93 : zd cX10_init 93 (.bipush 8) 2 95 := by decide +kernel
theorem di10_95 : zd cX10_init 95 (.newarray .int) 2 97 := by decide +kernel
theorem di10_97 : zd cX10_init 97 (.putfield 46) 3 100 := by decide +kernel
theorem di10_100 : zd cX10_init 100 (.return_) 1 101 := by decide +kernel
set_option maxHeartbeats 4000000 in
set_option maxRecDepth 20000 in
theorem i10 (l : Launch) (D : zDt) (Sh : zSh) (top : Nat) (μ : zM) (o_ : Nat)  (ho : (Sh o_).1 = 17) (hlt : o_ < top) (hA : ∀ q, top ≤ q → zAf D q) : zMet l D zK0 yX10_init cX10_init 1 none (zrc 1 20 12 288) [.ref o_] Sh top μ none (zSu (zSu (zSu (zSu (zSu (zSu (zSu (zSu (zSu (zSu (zSu (zSu Sh top 1 48) (top + 1) 1 48) (top + 2) 1 8) (top + 3) 2 8) (top + 4) 1 8) (top + 5) 1 48) (top + 6) 1 28) (top + 7) 1 28) (top + 8) 2 28) (top + 9) 1 14) (top + 10) 1 14) (top + 11) 1 8) (top + 12) (sR (zz (sR (zz (sR (zz (sR (zz (sR (zz (sR (zz (sR (zz (sR (zz (sR (zz (sR (zz (sR (zz (sR (zz μ top) 1000 o_ (some top)) (top + 1)) 1001 o_ (some (top + 1))) (top + 2)) 1002 o_ (some (top + 2))) (top + 3)) 1003 o_ (some (top + 3))) (top + 4)) 1004 o_ (some (top + 4))) (top + 5)) 1005 o_ (some (top + 5))) (top + 6)) 1006 o_ (some (top + 6))) (top + 7)) 1007 o_ (some (top + 7))) (top + 8)) 1008 o_ (some (top + 8))) (top + 9)) 1009 o_ (some (top + 9))) (top + 10)) 1010 o_ (some (top + 10))) (top + 11)) 1011 o_ (some (top + 11))) 12 288 := by
  refine zMet_ofI (by decide) (Nat.le_of_ble_eq_true rfl) fun X hX1 hX2 fx hnm fin => ?_
  subst hX1; subst hX2
  replace fx : zFix X cX10_init RX10 (zrc 1 20 12 288) 1 := fx
  replace hnm : (X.2.2.2.2.2.2.2.2.1).name = "<init>" := hnm
  show zZ zK0 X (Sh, top, 0, 0) μ 0 [(0, .ref o_)] []
  refine z_aload_n fx (k := 0) (i := 0) rfl rfl di10_0 ?_
  refine z_obj fx (zw_obj (zTb1 206 rfl rfl)) (Nat.le_of_ble_eq_true rfl) ⟨Nat.le_of_ble_eq_true rfl, Nat.le_of_ble_eq_true rfl⟩ di10_1 ?_
  refine z_aload_n fx (k := 0) (i := 0) rfl rfl di10_4 ?_
  refine z_bipush fx (v := 48) (by decide) di10_5 ?_
  refine z_newI (T := (Sh, top, 0, 0)) fx zK0_ok (N := 48) (show rI 100000000 (nI 48) = _ from rI_nI (by omega) (by omega)) zw_int (hA _ (by show top ≤ top; omega)) ⟨Nat.le_of_ble_eq_true rfl, Nat.le_of_ble_eq_true rfl⟩ di10_7 ?_
  show zZ zK0 X ((zSu Sh top 1 48), (top + 1), 1, 48) (zz μ top) 9 [(0, .ref o_)] [.ref top, .ref o_]
  refine z_putRF fx hnm 10 0 (show ((zSu Sh top 1 48) o_).1 = 17 by rw [zSu_o (by omega)]; exact ho) (⟨_, rfl, Nat.le_of_ble_eq_true rfl, zTb1 207 rfl rfl⟩) (fun q h => by cases h; exact ⟨rfl, rfl⟩) ⟨rfl, by decide⟩ ⟨rfl, rfl⟩ (show ((zSu Sh top 1 48) top).1 = 1 by rw [zSu_s]) di10_9 ?_
  show zZ zK0 X ((zSu Sh top 1 48), (top + 1), 1, 48) (sR (zz μ top) 1000 o_ (some top)) 12 [(0, .ref o_)] []
  refine z_aload_n fx (k := 0) (i := 0) rfl rfl di10_12 ?_
  refine z_bipush fx (v := 48) (by decide) di10_13 ?_
  refine z_newI (T := ((zSu Sh top 1 48), (top + 1), 1, 48)) fx zK0_ok (N := 48) (show rI 100000000 (nI 48) = _ from rI_nI (by omega) (by omega)) zw_int (hA _ (by show top ≤ (top + 1); omega)) ⟨Nat.le_of_ble_eq_true rfl, Nat.le_of_ble_eq_true rfl⟩ di10_15 ?_
  show zZ zK0 X ((zSu (zSu Sh top 1 48) (top + 1) 1 48), (top + 2), 2, 96) (zz (sR (zz μ top) 1000 o_ (some top)) (top + 1)) 17 [(0, .ref o_)] [.ref (top + 1), .ref o_]
  refine z_putRF fx hnm 10 1 (show ((zSu (zSu Sh top 1 48) (top + 1) 1 48) o_).1 = 17 by rw [zSu_o (by omega)]; rw [zSu_o (by omega)]; exact ho) (⟨_, rfl, Nat.le_of_ble_eq_true rfl, zTb1 210 rfl rfl⟩) (fun q h => by cases h; exact ⟨rfl, rfl⟩) ⟨rfl, by decide⟩ ⟨rfl, rfl⟩ (show ((zSu (zSu Sh top 1 48) (top + 1) 1 48) (top + 1)).1 = 1 by rw [zSu_s]) di10_17 ?_
  show zZ zK0 X ((zSu (zSu Sh top 1 48) (top + 1) 1 48), (top + 2), 2, 96) (sR (zz (sR (zz μ top) 1000 o_ (some top)) (top + 1)) 1001 o_ (some (top + 1))) 20 [(0, .ref o_)] []
  refine z_aload_n fx (k := 0) (i := 0) rfl rfl di10_20 ?_
  refine z_bipush fx (v := 8) (by decide) di10_21 ?_
  refine z_newI (T := ((zSu (zSu Sh top 1 48) (top + 1) 1 48), (top + 2), 2, 96)) fx zK0_ok (N := 8) (show rI 100000000 (nI 8) = _ from rI_nI (by omega) (by omega)) zw_int (hA _ (by show top ≤ (top + 2); omega)) ⟨Nat.le_of_ble_eq_true rfl, Nat.le_of_ble_eq_true rfl⟩ di10_23 ?_
  show zZ zK0 X ((zSu (zSu (zSu Sh top 1 48) (top + 1) 1 48) (top + 2) 1 8), (top + 3), 3, 104) (zz (sR (zz (sR (zz μ top) 1000 o_ (some top)) (top + 1)) 1001 o_ (some (top + 1))) (top + 2)) 25 [(0, .ref o_)] [.ref (top + 2), .ref o_]
  refine z_putRF fx hnm 10 2 (show ((zSu (zSu (zSu Sh top 1 48) (top + 1) 1 48) (top + 2) 1 8) o_).1 = 17 by rw [zSu_o (by omega)]; rw [zSu_o (by omega)]; rw [zSu_o (by omega)]; exact ho) (⟨_, rfl, Nat.le_of_ble_eq_true rfl, zTb1 213 rfl rfl⟩) (fun q h => by cases h; exact ⟨rfl, rfl⟩) ⟨rfl, by decide⟩ ⟨rfl, rfl⟩ (show ((zSu (zSu (zSu Sh top 1 48) (top + 1) 1 48) (top + 2) 1 8) (top + 2)).1 = 1 by rw [zSu_s]) di10_25 ?_
  show zZ zK0 X ((zSu (zSu (zSu Sh top 1 48) (top + 1) 1 48) (top + 2) 1 8), (top + 3), 3, 104) (sR (zz (sR (zz (sR (zz μ top) 1000 o_ (some top)) (top + 1)) 1001 o_ (some (top + 1))) (top + 2)) 1002 o_ (some (top + 2))) 28 [(0, .ref o_)] []
  refine z_aload_n fx (k := 0) (i := 0) rfl rfl di10_28 ?_
  refine z_bipush fx (v := 8) (by decide) di10_29 ?_
  refine z_newZ (T := ((zSu (zSu (zSu Sh top 1 48) (top + 1) 1 48) (top + 2) 1 8), (top + 3), 3, 104)) fx zK0_ok (N := 8) (show rI 100000000 (nI 8) = _ from rI_nI (by omega) (by omega)) zw_bool (hA _ (by show top ≤ (top + 3); omega)) ⟨Nat.le_of_ble_eq_true rfl, Nat.le_of_ble_eq_true rfl⟩ di10_31 ?_
  show zZ zK0 X ((zSu (zSu (zSu (zSu Sh top 1 48) (top + 1) 1 48) (top + 2) 1 8) (top + 3) 2 8), (top + 4), 4, 112) (zz (sR (zz (sR (zz (sR (zz μ top) 1000 o_ (some top)) (top + 1)) 1001 o_ (some (top + 1))) (top + 2)) 1002 o_ (some (top + 2))) (top + 3)) 33 [(0, .ref o_)] [.ref (top + 3), .ref o_]
  refine z_putRF fx hnm 10 3 (show ((zSu (zSu (zSu (zSu Sh top 1 48) (top + 1) 1 48) (top + 2) 1 8) (top + 3) 2 8) o_).1 = 17 by rw [zSu_o (by omega)]; rw [zSu_o (by omega)]; rw [zSu_o (by omega)]; rw [zSu_o (by omega)]; exact ho) (⟨_, rfl, Nat.le_of_ble_eq_true rfl, zTb1 216 rfl rfl⟩) (fun q h => by cases h; exact ⟨rfl, rfl⟩) ⟨rfl, by decide⟩ ⟨rfl, rfl⟩ (show ((zSu (zSu (zSu (zSu Sh top 1 48) (top + 1) 1 48) (top + 2) 1 8) (top + 3) 2 8) (top + 3)).1 = 2 by rw [zSu_s]) di10_33 ?_
  show zZ zK0 X ((zSu (zSu (zSu (zSu Sh top 1 48) (top + 1) 1 48) (top + 2) 1 8) (top + 3) 2 8), (top + 4), 4, 112) (sR (zz (sR (zz (sR (zz (sR (zz μ top) 1000 o_ (some top)) (top + 1)) 1001 o_ (some (top + 1))) (top + 2)) 1002 o_ (some (top + 2))) (top + 3)) 1003 o_ (some (top + 3))) 36 [(0, .ref o_)] []
  refine z_aload_n fx (k := 0) (i := 0) rfl rfl di10_36 ?_
  refine z_bipush fx (v := 8) (by decide) di10_37 ?_
  refine z_newI (T := ((zSu (zSu (zSu (zSu Sh top 1 48) (top + 1) 1 48) (top + 2) 1 8) (top + 3) 2 8), (top + 4), 4, 112)) fx zK0_ok (N := 8) (show rI 100000000 (nI 8) = _ from rI_nI (by omega) (by omega)) zw_int (hA _ (by show top ≤ (top + 4); omega)) ⟨Nat.le_of_ble_eq_true rfl, Nat.le_of_ble_eq_true rfl⟩ di10_39 ?_
  show zZ zK0 X ((zSu (zSu (zSu (zSu (zSu Sh top 1 48) (top + 1) 1 48) (top + 2) 1 8) (top + 3) 2 8) (top + 4) 1 8), (top + 5), 5, 120) (zz (sR (zz (sR (zz (sR (zz (sR (zz μ top) 1000 o_ (some top)) (top + 1)) 1001 o_ (some (top + 1))) (top + 2)) 1002 o_ (some (top + 2))) (top + 3)) 1003 o_ (some (top + 3))) (top + 4)) 41 [(0, .ref o_)] [.ref (top + 4), .ref o_]
  refine z_putRF fx hnm 10 4 (show ((zSu (zSu (zSu (zSu (zSu Sh top 1 48) (top + 1) 1 48) (top + 2) 1 8) (top + 3) 2 8) (top + 4) 1 8) o_).1 = 17 by rw [zSu_o (by omega)]; rw [zSu_o (by omega)]; rw [zSu_o (by omega)]; rw [zSu_o (by omega)]; rw [zSu_o (by omega)]; exact ho) (lf10_25) (fun q h => by cases h; exact ⟨rfl, rfl⟩) ⟨rfl, by decide⟩ ⟨rfl, rfl⟩ (show ((zSu (zSu (zSu (zSu (zSu Sh top 1 48) (top + 1) 1 48) (top + 2) 1 8) (top + 3) 2 8) (top + 4) 1 8) (top + 4)).1 = 1 by rw [zSu_s]) di10_41 ?_
  show zZ zK0 X ((zSu (zSu (zSu (zSu (zSu Sh top 1 48) (top + 1) 1 48) (top + 2) 1 8) (top + 3) 2 8) (top + 4) 1 8), (top + 5), 5, 120) (sR (zz (sR (zz (sR (zz (sR (zz (sR (zz μ top) 1000 o_ (some top)) (top + 1)) 1001 o_ (some (top + 1))) (top + 2)) 1002 o_ (some (top + 2))) (top + 3)) 1003 o_ (some (top + 3))) (top + 4)) 1004 o_ (some (top + 4))) 44 [(0, .ref o_)] []
  refine z_aload_n fx (k := 0) (i := 0) rfl rfl di10_44 ?_
  refine z_bipush fx (v := 48) (by decide) di10_45 ?_
  refine z_newI (T := ((zSu (zSu (zSu (zSu (zSu Sh top 1 48) (top + 1) 1 48) (top + 2) 1 8) (top + 3) 2 8) (top + 4) 1 8), (top + 5), 5, 120)) fx zK0_ok (N := 48) (show rI 100000000 (nI 48) = _ from rI_nI (by omega) (by omega)) zw_int (hA _ (by show top ≤ (top + 5); omega)) ⟨Nat.le_of_ble_eq_true rfl, Nat.le_of_ble_eq_true rfl⟩ di10_47 ?_
  show zZ zK0 X ((zSu (zSu (zSu (zSu (zSu (zSu Sh top 1 48) (top + 1) 1 48) (top + 2) 1 8) (top + 3) 2 8) (top + 4) 1 8) (top + 5) 1 48), (top + 6), 6, 168) (zz (sR (zz (sR (zz (sR (zz (sR (zz (sR (zz μ top) 1000 o_ (some top)) (top + 1)) 1001 o_ (some (top + 1))) (top + 2)) 1002 o_ (some (top + 2))) (top + 3)) 1003 o_ (some (top + 3))) (top + 4)) 1004 o_ (some (top + 4))) (top + 5)) 49 [(0, .ref o_)] [.ref (top + 5), .ref o_]
  refine z_putRF fx hnm 10 5 (show ((zSu (zSu (zSu (zSu (zSu (zSu Sh top 1 48) (top + 1) 1 48) (top + 2) 1 8) (top + 3) 2 8) (top + 4) 1 8) (top + 5) 1 48) o_).1 = 17 by rw [zSu_o (by omega)]; rw [zSu_o (by omega)]; rw [zSu_o (by omega)]; rw [zSu_o (by omega)]; rw [zSu_o (by omega)]; rw [zSu_o (by omega)]; exact ho) (lf10_28) (fun q h => by cases h; exact ⟨rfl, rfl⟩) ⟨rfl, by decide⟩ ⟨rfl, rfl⟩ (show ((zSu (zSu (zSu (zSu (zSu (zSu Sh top 1 48) (top + 1) 1 48) (top + 2) 1 8) (top + 3) 2 8) (top + 4) 1 8) (top + 5) 1 48) (top + 5)).1 = 1 by rw [zSu_s]) di10_49 ?_
  show zZ zK0 X ((zSu (zSu (zSu (zSu (zSu (zSu Sh top 1 48) (top + 1) 1 48) (top + 2) 1 8) (top + 3) 2 8) (top + 4) 1 8) (top + 5) 1 48), (top + 6), 6, 168) (sR (zz (sR (zz (sR (zz (sR (zz (sR (zz (sR (zz μ top) 1000 o_ (some top)) (top + 1)) 1001 o_ (some (top + 1))) (top + 2)) 1002 o_ (some (top + 2))) (top + 3)) 1003 o_ (some (top + 3))) (top + 4)) 1004 o_ (some (top + 4))) (top + 5)) 1005 o_ (some (top + 5))) 52 [(0, .ref o_)] []
  refine z_aload_n fx (k := 0) (i := 0) rfl rfl di10_52 ?_
  refine z_bipush fx (v := 28) (by decide) di10_53 ?_
  refine z_newI (T := ((zSu (zSu (zSu (zSu (zSu (zSu Sh top 1 48) (top + 1) 1 48) (top + 2) 1 8) (top + 3) 2 8) (top + 4) 1 8) (top + 5) 1 48), (top + 6), 6, 168)) fx zK0_ok (N := 28) (show rI 100000000 (nI 28) = _ from rI_nI (by omega) (by omega)) zw_int (hA _ (by show top ≤ (top + 6); omega)) ⟨Nat.le_of_ble_eq_true rfl, Nat.le_of_ble_eq_true rfl⟩ di10_55 ?_
  show zZ zK0 X ((zSu (zSu (zSu (zSu (zSu (zSu (zSu Sh top 1 48) (top + 1) 1 48) (top + 2) 1 8) (top + 3) 2 8) (top + 4) 1 8) (top + 5) 1 48) (top + 6) 1 28), (top + 7), 7, 196) (zz (sR (zz (sR (zz (sR (zz (sR (zz (sR (zz (sR (zz μ top) 1000 o_ (some top)) (top + 1)) 1001 o_ (some (top + 1))) (top + 2)) 1002 o_ (some (top + 2))) (top + 3)) 1003 o_ (some (top + 3))) (top + 4)) 1004 o_ (some (top + 4))) (top + 5)) 1005 o_ (some (top + 5))) (top + 6)) 57 [(0, .ref o_)] [.ref (top + 6), .ref o_]
  refine z_putRF fx hnm 10 6 (show ((zSu (zSu (zSu (zSu (zSu (zSu (zSu Sh top 1 48) (top + 1) 1 48) (top + 2) 1 8) (top + 3) 2 8) (top + 4) 1 8) (top + 5) 1 48) (top + 6) 1 28) o_).1 = 17 by rw [zSu_o (by omega)]; rw [zSu_o (by omega)]; rw [zSu_o (by omega)]; rw [zSu_o (by omega)]; rw [zSu_o (by omega)]; rw [zSu_o (by omega)]; rw [zSu_o (by omega)]; exact ho) (lf10_31) (fun q h => by cases h; exact ⟨rfl, rfl⟩) ⟨rfl, by decide⟩ ⟨rfl, rfl⟩ (show ((zSu (zSu (zSu (zSu (zSu (zSu (zSu Sh top 1 48) (top + 1) 1 48) (top + 2) 1 8) (top + 3) 2 8) (top + 4) 1 8) (top + 5) 1 48) (top + 6) 1 28) (top + 6)).1 = 1 by rw [zSu_s]) di10_57 ?_
  show zZ zK0 X ((zSu (zSu (zSu (zSu (zSu (zSu (zSu Sh top 1 48) (top + 1) 1 48) (top + 2) 1 8) (top + 3) 2 8) (top + 4) 1 8) (top + 5) 1 48) (top + 6) 1 28), (top + 7), 7, 196) (sR (zz (sR (zz (sR (zz (sR (zz (sR (zz (sR (zz (sR (zz μ top) 1000 o_ (some top)) (top + 1)) 1001 o_ (some (top + 1))) (top + 2)) 1002 o_ (some (top + 2))) (top + 3)) 1003 o_ (some (top + 3))) (top + 4)) 1004 o_ (some (top + 4))) (top + 5)) 1005 o_ (some (top + 5))) (top + 6)) 1006 o_ (some (top + 6))) 60 [(0, .ref o_)] []
  refine z_aload_n fx (k := 0) (i := 0) rfl rfl di10_60 ?_
  refine z_bipush fx (v := 28) (by decide) di10_61 ?_
  refine z_newI (T := ((zSu (zSu (zSu (zSu (zSu (zSu (zSu Sh top 1 48) (top + 1) 1 48) (top + 2) 1 8) (top + 3) 2 8) (top + 4) 1 8) (top + 5) 1 48) (top + 6) 1 28), (top + 7), 7, 196)) fx zK0_ok (N := 28) (show rI 100000000 (nI 28) = _ from rI_nI (by omega) (by omega)) zw_int (hA _ (by show top ≤ (top + 7); omega)) ⟨Nat.le_of_ble_eq_true rfl, Nat.le_of_ble_eq_true rfl⟩ di10_63 ?_
  show zZ zK0 X ((zSu (zSu (zSu (zSu (zSu (zSu (zSu (zSu Sh top 1 48) (top + 1) 1 48) (top + 2) 1 8) (top + 3) 2 8) (top + 4) 1 8) (top + 5) 1 48) (top + 6) 1 28) (top + 7) 1 28), (top + 8), 8, 224) (zz (sR (zz (sR (zz (sR (zz (sR (zz (sR (zz (sR (zz (sR (zz μ top) 1000 o_ (some top)) (top + 1)) 1001 o_ (some (top + 1))) (top + 2)) 1002 o_ (some (top + 2))) (top + 3)) 1003 o_ (some (top + 3))) (top + 4)) 1004 o_ (some (top + 4))) (top + 5)) 1005 o_ (some (top + 5))) (top + 6)) 1006 o_ (some (top + 6))) (top + 7)) 65 [(0, .ref o_)] [.ref (top + 7), .ref o_]
  refine z_putRF fx hnm 10 7 (show ((zSu (zSu (zSu (zSu (zSu (zSu (zSu (zSu Sh top 1 48) (top + 1) 1 48) (top + 2) 1 8) (top + 3) 2 8) (top + 4) 1 8) (top + 5) 1 48) (top + 6) 1 28) (top + 7) 1 28) o_).1 = 17 by rw [zSu_o (by omega)]; rw [zSu_o (by omega)]; rw [zSu_o (by omega)]; rw [zSu_o (by omega)]; rw [zSu_o (by omega)]; rw [zSu_o (by omega)]; rw [zSu_o (by omega)]; rw [zSu_o (by omega)]; exact ho) (lf10_34) (fun q h => by cases h; exact ⟨rfl, rfl⟩) ⟨rfl, by decide⟩ ⟨rfl, rfl⟩ (show ((zSu (zSu (zSu (zSu (zSu (zSu (zSu (zSu Sh top 1 48) (top + 1) 1 48) (top + 2) 1 8) (top + 3) 2 8) (top + 4) 1 8) (top + 5) 1 48) (top + 6) 1 28) (top + 7) 1 28) (top + 7)).1 = 1 by rw [zSu_s]) di10_65 ?_
  show zZ zK0 X ((zSu (zSu (zSu (zSu (zSu (zSu (zSu (zSu Sh top 1 48) (top + 1) 1 48) (top + 2) 1 8) (top + 3) 2 8) (top + 4) 1 8) (top + 5) 1 48) (top + 6) 1 28) (top + 7) 1 28), (top + 8), 8, 224) (sR (zz (sR (zz (sR (zz (sR (zz (sR (zz (sR (zz (sR (zz (sR (zz μ top) 1000 o_ (some top)) (top + 1)) 1001 o_ (some (top + 1))) (top + 2)) 1002 o_ (some (top + 2))) (top + 3)) 1003 o_ (some (top + 3))) (top + 4)) 1004 o_ (some (top + 4))) (top + 5)) 1005 o_ (some (top + 5))) (top + 6)) 1006 o_ (some (top + 6))) (top + 7)) 1007 o_ (some (top + 7))) 68 [(0, .ref o_)] []
  refine z_aload_n fx (k := 0) (i := 0) rfl rfl di10_68 ?_
  refine z_bipush fx (v := 28) (by decide) di10_69 ?_
  refine z_newZ (T := ((zSu (zSu (zSu (zSu (zSu (zSu (zSu (zSu Sh top 1 48) (top + 1) 1 48) (top + 2) 1 8) (top + 3) 2 8) (top + 4) 1 8) (top + 5) 1 48) (top + 6) 1 28) (top + 7) 1 28), (top + 8), 8, 224)) fx zK0_ok (N := 28) (show rI 100000000 (nI 28) = _ from rI_nI (by omega) (by omega)) zw_bool (hA _ (by show top ≤ (top + 8); omega)) ⟨Nat.le_of_ble_eq_true rfl, Nat.le_of_ble_eq_true rfl⟩ di10_71 ?_
  show zZ zK0 X ((zSu (zSu (zSu (zSu (zSu (zSu (zSu (zSu (zSu Sh top 1 48) (top + 1) 1 48) (top + 2) 1 8) (top + 3) 2 8) (top + 4) 1 8) (top + 5) 1 48) (top + 6) 1 28) (top + 7) 1 28) (top + 8) 2 28), (top + 9), 9, 252) (zz (sR (zz (sR (zz (sR (zz (sR (zz (sR (zz (sR (zz (sR (zz (sR (zz μ top) 1000 o_ (some top)) (top + 1)) 1001 o_ (some (top + 1))) (top + 2)) 1002 o_ (some (top + 2))) (top + 3)) 1003 o_ (some (top + 3))) (top + 4)) 1004 o_ (some (top + 4))) (top + 5)) 1005 o_ (some (top + 5))) (top + 6)) 1006 o_ (some (top + 6))) (top + 7)) 1007 o_ (some (top + 7))) (top + 8)) 73 [(0, .ref o_)] [.ref (top + 8), .ref o_]
  refine z_putRF fx hnm 10 8 (show ((zSu (zSu (zSu (zSu (zSu (zSu (zSu (zSu (zSu Sh top 1 48) (top + 1) 1 48) (top + 2) 1 8) (top + 3) 2 8) (top + 4) 1 8) (top + 5) 1 48) (top + 6) 1 28) (top + 7) 1 28) (top + 8) 2 28) o_).1 = 17 by rw [zSu_o (by omega)]; rw [zSu_o (by omega)]; rw [zSu_o (by omega)]; rw [zSu_o (by omega)]; rw [zSu_o (by omega)]; rw [zSu_o (by omega)]; rw [zSu_o (by omega)]; rw [zSu_o (by omega)]; rw [zSu_o (by omega)]; exact ho) (lf10_37) (fun q h => by cases h; exact ⟨rfl, rfl⟩) ⟨rfl, by decide⟩ ⟨rfl, rfl⟩ (show ((zSu (zSu (zSu (zSu (zSu (zSu (zSu (zSu (zSu Sh top 1 48) (top + 1) 1 48) (top + 2) 1 8) (top + 3) 2 8) (top + 4) 1 8) (top + 5) 1 48) (top + 6) 1 28) (top + 7) 1 28) (top + 8) 2 28) (top + 8)).1 = 2 by rw [zSu_s]) di10_73 ?_
  show zZ zK0 X ((zSu (zSu (zSu (zSu (zSu (zSu (zSu (zSu (zSu Sh top 1 48) (top + 1) 1 48) (top + 2) 1 8) (top + 3) 2 8) (top + 4) 1 8) (top + 5) 1 48) (top + 6) 1 28) (top + 7) 1 28) (top + 8) 2 28), (top + 9), 9, 252) (sR (zz (sR (zz (sR (zz (sR (zz (sR (zz (sR (zz (sR (zz (sR (zz (sR (zz μ top) 1000 o_ (some top)) (top + 1)) 1001 o_ (some (top + 1))) (top + 2)) 1002 o_ (some (top + 2))) (top + 3)) 1003 o_ (some (top + 3))) (top + 4)) 1004 o_ (some (top + 4))) (top + 5)) 1005 o_ (some (top + 5))) (top + 6)) 1006 o_ (some (top + 6))) (top + 7)) 1007 o_ (some (top + 7))) (top + 8)) 1008 o_ (some (top + 8))) 76 [(0, .ref o_)] []
  refine z_aload_n fx (k := 0) (i := 0) rfl rfl di10_76 ?_
  refine z_bipush fx (v := 14) (by decide) di10_77 ?_
  refine z_newI (T := ((zSu (zSu (zSu (zSu (zSu (zSu (zSu (zSu (zSu Sh top 1 48) (top + 1) 1 48) (top + 2) 1 8) (top + 3) 2 8) (top + 4) 1 8) (top + 5) 1 48) (top + 6) 1 28) (top + 7) 1 28) (top + 8) 2 28), (top + 9), 9, 252)) fx zK0_ok (N := 14) (show rI 100000000 (nI 14) = _ from rI_nI (by omega) (by omega)) zw_int (hA _ (by show top ≤ (top + 9); omega)) ⟨Nat.le_of_ble_eq_true rfl, Nat.le_of_ble_eq_true rfl⟩ di10_79 ?_
  show zZ zK0 X ((zSu (zSu (zSu (zSu (zSu (zSu (zSu (zSu (zSu (zSu Sh top 1 48) (top + 1) 1 48) (top + 2) 1 8) (top + 3) 2 8) (top + 4) 1 8) (top + 5) 1 48) (top + 6) 1 28) (top + 7) 1 28) (top + 8) 2 28) (top + 9) 1 14), (top + 10), 10, 266) (zz (sR (zz (sR (zz (sR (zz (sR (zz (sR (zz (sR (zz (sR (zz (sR (zz (sR (zz μ top) 1000 o_ (some top)) (top + 1)) 1001 o_ (some (top + 1))) (top + 2)) 1002 o_ (some (top + 2))) (top + 3)) 1003 o_ (some (top + 3))) (top + 4)) 1004 o_ (some (top + 4))) (top + 5)) 1005 o_ (some (top + 5))) (top + 6)) 1006 o_ (some (top + 6))) (top + 7)) 1007 o_ (some (top + 7))) (top + 8)) 1008 o_ (some (top + 8))) (top + 9)) 81 [(0, .ref o_)] [.ref (top + 9), .ref o_]
  refine z_putRF fx hnm 10 9 (show ((zSu (zSu (zSu (zSu (zSu (zSu (zSu (zSu (zSu (zSu Sh top 1 48) (top + 1) 1 48) (top + 2) 1 8) (top + 3) 2 8) (top + 4) 1 8) (top + 5) 1 48) (top + 6) 1 28) (top + 7) 1 28) (top + 8) 2 28) (top + 9) 1 14) o_).1 = 17 by rw [zSu_o (by omega)]; rw [zSu_o (by omega)]; rw [zSu_o (by omega)]; rw [zSu_o (by omega)]; rw [zSu_o (by omega)]; rw [zSu_o (by omega)]; rw [zSu_o (by omega)]; rw [zSu_o (by omega)]; rw [zSu_o (by omega)]; rw [zSu_o (by omega)]; exact ho) (⟨_, rfl, Nat.le_of_ble_eq_true rfl, zTb2 1 rfl rfl⟩) (fun q h => by cases h; exact ⟨rfl, rfl⟩) ⟨rfl, by decide⟩ ⟨rfl, rfl⟩ (show ((zSu (zSu (zSu (zSu (zSu (zSu (zSu (zSu (zSu (zSu Sh top 1 48) (top + 1) 1 48) (top + 2) 1 8) (top + 3) 2 8) (top + 4) 1 8) (top + 5) 1 48) (top + 6) 1 28) (top + 7) 1 28) (top + 8) 2 28) (top + 9) 1 14) (top + 9)).1 = 1 by rw [zSu_s]) di10_81 ?_
  show zZ zK0 X ((zSu (zSu (zSu (zSu (zSu (zSu (zSu (zSu (zSu (zSu Sh top 1 48) (top + 1) 1 48) (top + 2) 1 8) (top + 3) 2 8) (top + 4) 1 8) (top + 5) 1 48) (top + 6) 1 28) (top + 7) 1 28) (top + 8) 2 28) (top + 9) 1 14), (top + 10), 10, 266) (sR (zz (sR (zz (sR (zz (sR (zz (sR (zz (sR (zz (sR (zz (sR (zz (sR (zz (sR (zz μ top) 1000 o_ (some top)) (top + 1)) 1001 o_ (some (top + 1))) (top + 2)) 1002 o_ (some (top + 2))) (top + 3)) 1003 o_ (some (top + 3))) (top + 4)) 1004 o_ (some (top + 4))) (top + 5)) 1005 o_ (some (top + 5))) (top + 6)) 1006 o_ (some (top + 6))) (top + 7)) 1007 o_ (some (top + 7))) (top + 8)) 1008 o_ (some (top + 8))) (top + 9)) 1009 o_ (some (top + 9))) 84 [(0, .ref o_)] []
  refine z_aload_n fx (k := 0) (i := 0) rfl rfl di10_84 ?_
  refine z_bipush fx (v := 14) (by decide) di10_85 ?_
  refine z_newI (T := ((zSu (zSu (zSu (zSu (zSu (zSu (zSu (zSu (zSu (zSu Sh top 1 48) (top + 1) 1 48) (top + 2) 1 8) (top + 3) 2 8) (top + 4) 1 8) (top + 5) 1 48) (top + 6) 1 28) (top + 7) 1 28) (top + 8) 2 28) (top + 9) 1 14), (top + 10), 10, 266)) fx zK0_ok (N := 14) (show rI 100000000 (nI 14) = _ from rI_nI (by omega) (by omega)) zw_int (hA _ (by show top ≤ (top + 10); omega)) ⟨Nat.le_of_ble_eq_true rfl, Nat.le_of_ble_eq_true rfl⟩ di10_87 ?_
  show zZ zK0 X ((zSu (zSu (zSu (zSu (zSu (zSu (zSu (zSu (zSu (zSu (zSu Sh top 1 48) (top + 1) 1 48) (top + 2) 1 8) (top + 3) 2 8) (top + 4) 1 8) (top + 5) 1 48) (top + 6) 1 28) (top + 7) 1 28) (top + 8) 2 28) (top + 9) 1 14) (top + 10) 1 14), (top + 11), 11, 280) (zz (sR (zz (sR (zz (sR (zz (sR (zz (sR (zz (sR (zz (sR (zz (sR (zz (sR (zz (sR (zz μ top) 1000 o_ (some top)) (top + 1)) 1001 o_ (some (top + 1))) (top + 2)) 1002 o_ (some (top + 2))) (top + 3)) 1003 o_ (some (top + 3))) (top + 4)) 1004 o_ (some (top + 4))) (top + 5)) 1005 o_ (some (top + 5))) (top + 6)) 1006 o_ (some (top + 6))) (top + 7)) 1007 o_ (some (top + 7))) (top + 8)) 1008 o_ (some (top + 8))) (top + 9)) 1009 o_ (some (top + 9))) (top + 10)) 89 [(0, .ref o_)] [.ref (top + 10), .ref o_]
  refine z_putRF fx hnm 10 10 (show ((zSu (zSu (zSu (zSu (zSu (zSu (zSu (zSu (zSu (zSu (zSu Sh top 1 48) (top + 1) 1 48) (top + 2) 1 8) (top + 3) 2 8) (top + 4) 1 8) (top + 5) 1 48) (top + 6) 1 28) (top + 7) 1 28) (top + 8) 2 28) (top + 9) 1 14) (top + 10) 1 14) o_).1 = 17 by rw [zSu_o (by omega)]; rw [zSu_o (by omega)]; rw [zSu_o (by omega)]; rw [zSu_o (by omega)]; rw [zSu_o (by omega)]; rw [zSu_o (by omega)]; rw [zSu_o (by omega)]; rw [zSu_o (by omega)]; rw [zSu_o (by omega)]; rw [zSu_o (by omega)]; rw [zSu_o (by omega)]; exact ho) (⟨_, rfl, Nat.le_of_ble_eq_true rfl, zTb2 6 rfl rfl⟩) (fun q h => by cases h; exact ⟨rfl, rfl⟩) ⟨rfl, by decide⟩ ⟨rfl, rfl⟩ (show ((zSu (zSu (zSu (zSu (zSu (zSu (zSu (zSu (zSu (zSu (zSu Sh top 1 48) (top + 1) 1 48) (top + 2) 1 8) (top + 3) 2 8) (top + 4) 1 8) (top + 5) 1 48) (top + 6) 1 28) (top + 7) 1 28) (top + 8) 2 28) (top + 9) 1 14) (top + 10) 1 14) (top + 10)).1 = 1 by rw [zSu_s]) di10_89 ?_
  show zZ zK0 X ((zSu (zSu (zSu (zSu (zSu (zSu (zSu (zSu (zSu (zSu (zSu Sh top 1 48) (top + 1) 1 48) (top + 2) 1 8) (top + 3) 2 8) (top + 4) 1 8) (top + 5) 1 48) (top + 6) 1 28) (top + 7) 1 28) (top + 8) 2 28) (top + 9) 1 14) (top + 10) 1 14), (top + 11), 11, 280) (sR (zz (sR (zz (sR (zz (sR (zz (sR (zz (sR (zz (sR (zz (sR (zz (sR (zz (sR (zz (sR (zz μ top) 1000 o_ (some top)) (top + 1)) 1001 o_ (some (top + 1))) (top + 2)) 1002 o_ (some (top + 2))) (top + 3)) 1003 o_ (some (top + 3))) (top + 4)) 1004 o_ (some (top + 4))) (top + 5)) 1005 o_ (some (top + 5))) (top + 6)) 1006 o_ (some (top + 6))) (top + 7)) 1007 o_ (some (top + 7))) (top + 8)) 1008 o_ (some (top + 8))) (top + 9)) 1009 o_ (some (top + 9))) (top + 10)) 1010 o_ (some (top + 10))) 92 [(0, .ref o_)] []
  refine z_aload_n fx (k := 0) (i := 0) rfl rfl di10_92 ?_
  refine z_bipush fx (v := 8) (by decide) di10_93 ?_
  refine z_newI (T := ((zSu (zSu (zSu (zSu (zSu (zSu (zSu (zSu (zSu (zSu (zSu Sh top 1 48) (top + 1) 1 48) (top + 2) 1 8) (top + 3) 2 8) (top + 4) 1 8) (top + 5) 1 48) (top + 6) 1 28) (top + 7) 1 28) (top + 8) 2 28) (top + 9) 1 14) (top + 10) 1 14), (top + 11), 11, 280)) fx zK0_ok (N := 8) (show rI 100000000 (nI 8) = _ from rI_nI (by omega) (by omega)) zw_int (hA _ (by show top ≤ (top + 11); omega)) ⟨Nat.le_of_ble_eq_true rfl, Nat.le_of_ble_eq_true rfl⟩ di10_95 ?_
  show zZ zK0 X ((zSu (zSu (zSu (zSu (zSu (zSu (zSu (zSu (zSu (zSu (zSu (zSu Sh top 1 48) (top + 1) 1 48) (top + 2) 1 8) (top + 3) 2 8) (top + 4) 1 8) (top + 5) 1 48) (top + 6) 1 28) (top + 7) 1 28) (top + 8) 2 28) (top + 9) 1 14) (top + 10) 1 14) (top + 11) 1 8), (top + 12), 12, 288) (zz (sR (zz (sR (zz (sR (zz (sR (zz (sR (zz (sR (zz (sR (zz (sR (zz (sR (zz (sR (zz (sR (zz μ top) 1000 o_ (some top)) (top + 1)) 1001 o_ (some (top + 1))) (top + 2)) 1002 o_ (some (top + 2))) (top + 3)) 1003 o_ (some (top + 3))) (top + 4)) 1004 o_ (some (top + 4))) (top + 5)) 1005 o_ (some (top + 5))) (top + 6)) 1006 o_ (some (top + 6))) (top + 7)) 1007 o_ (some (top + 7))) (top + 8)) 1008 o_ (some (top + 8))) (top + 9)) 1009 o_ (some (top + 9))) (top + 10)) 1010 o_ (some (top + 10))) (top + 11)) 97 [(0, .ref o_)] [.ref (top + 11), .ref o_]
  refine z_putRF fx hnm 10 11 (show ((zSu (zSu (zSu (zSu (zSu (zSu (zSu (zSu (zSu (zSu (zSu (zSu Sh top 1 48) (top + 1) 1 48) (top + 2) 1 8) (top + 3) 2 8) (top + 4) 1 8) (top + 5) 1 48) (top + 6) 1 28) (top + 7) 1 28) (top + 8) 2 28) (top + 9) 1 14) (top + 10) 1 14) (top + 11) 1 8) o_).1 = 17 by rw [zSu_o (by omega)]; rw [zSu_o (by omega)]; rw [zSu_o (by omega)]; rw [zSu_o (by omega)]; rw [zSu_o (by omega)]; rw [zSu_o (by omega)]; rw [zSu_o (by omega)]; rw [zSu_o (by omega)]; rw [zSu_o (by omega)]; rw [zSu_o (by omega)]; rw [zSu_o (by omega)]; rw [zSu_o (by omega)]; exact ho) (⟨_, rfl, Nat.le_of_ble_eq_true rfl, zTb2 10 rfl rfl⟩) (fun q h => by cases h; exact ⟨rfl, rfl⟩) ⟨rfl, by decide⟩ ⟨rfl, rfl⟩ (show ((zSu (zSu (zSu (zSu (zSu (zSu (zSu (zSu (zSu (zSu (zSu (zSu Sh top 1 48) (top + 1) 1 48) (top + 2) 1 8) (top + 3) 2 8) (top + 4) 1 8) (top + 5) 1 48) (top + 6) 1 28) (top + 7) 1 28) (top + 8) 2 28) (top + 9) 1 14) (top + 10) 1 14) (top + 11) 1 8) (top + 11)).1 = 1 by rw [zSu_s]) di10_97 ?_
  show zZ zK0 X ((zSu (zSu (zSu (zSu (zSu (zSu (zSu (zSu (zSu (zSu (zSu (zSu Sh top 1 48) (top + 1) 1 48) (top + 2) 1 8) (top + 3) 2 8) (top + 4) 1 8) (top + 5) 1 48) (top + 6) 1 28) (top + 7) 1 28) (top + 8) 2 28) (top + 9) 1 14) (top + 10) 1 14) (top + 11) 1 8), (top + 12), 12, 288) (sR (zz (sR (zz (sR (zz (sR (zz (sR (zz (sR (zz (sR (zz (sR (zz (sR (zz (sR (zz (sR (zz (sR (zz μ top) 1000 o_ (some top)) (top + 1)) 1001 o_ (some (top + 1))) (top + 2)) 1002 o_ (some (top + 2))) (top + 3)) 1003 o_ (some (top + 3))) (top + 4)) 1004 o_ (some (top + 4))) (top + 5)) 1005 o_ (some (top + 5))) (top + 6)) 1006 o_ (some (top + 6))) (top + 7)) 1007 o_ (some (top + 7))) (top + 8)) 1008 o_ (some (top + 8))) (top + 9)) 1009 o_ (some (top + 9))) (top + 10)) 1010 o_ (some (top + 10))) (top + 11)) 1011 o_ (some (top + 11))) 100 [(0, .ref o_)] []
  exact z_return fx fin di10_100
theorem mi10 : zMw yX10_init cX10_init 1 none 0 := ⟨zTb1 205 rfl rfl, zTb1 7 rfl rfl, by decide, by decide, by decide +kernel⟩
theorem mii10 : Cond.instanceMethod yX10_init ∈ zTb := zTb1 204 rfl rfl
theorem di5_0 : zd cX5_init 0 (.aload_n 0) 1 1 := by decide +kernel
theorem di5_1 : zd cX5_init 1 (.invokespecial 3) 3 4 := by decide +kernel
theorem di5_4 : zd cX5_init 4 (.aload_n 0) 1 5 := by decide +kernel
theorem di5_5 : zd cX5_init 5 (.bipush 6) 2 7 := by decide +kernel
theorem di5_7 : zd cX5_init 7 (.newarray .int) 2 9 := by decide +kernel
theorem di5_9 : zd cX5_init 9 (.putfield 9) 3 12 := by decide +kernel
theorem di5_12 : zd cX5_init 12 (.aload_n 0) 1 13 := by decide +kernel
theorem di5_13 : zd cX5_init 13 (.aload_n 1) 1 14 := by decide +kernel
theorem di5_14 : zd cX5_init 14 (.putfield 15) 3 17 := by decide +kernel
theorem di5_17 : zd cX5_init 17 (.aload_n 0) 1 18 := by decide +kernel
theorem di5_18 : zd cX5_init 18 (.aload_n 2) 1 19 := by decide +kernel
theorem di5_19 : zd cX5_init 19 (.putfield 18) 3 22 := by decide +kernel
theorem di5_22 : zd cX5_init 22 (.aload_n 0) 1 23 := by decide +kernel
theorem di5_23 : zd cX5_init 23 (.iconst (-1)) 1 24 := by decide +kernel
theorem di5_24 : zd cX5_init 24 (.putfield 22) 3 27 := by decide +kernel
theorem di5_27 : zd cX5_init 27 (.return_) 1 28 := by decide +kernel
set_option maxHeartbeats 4000000 in
set_option maxRecDepth 20000 in
theorem i5 (l : Launch) (D : zDt) (Sh : zSh) (top : Nat) (μ : zM) (o_ : Nat) (v_a : Nat) (v_b : Nat) (ho : (Sh o_).1 = 12) (hlt : o_ < top) (hA : ∀ q, top ≤ q → zAf D q) (ha_ : (Sh v_a).1 = 1) (hla : v_a < top) (hb_ : (Sh v_b).1 = 17) (hlb : v_b < top) : zMet l D zK0 yX5_init cX5_init 3 none (zrc 1 20 1 6) [.ref o_, .ref v_a, .ref v_b] Sh top μ none (zSu Sh top 1 6) (top + 1) (sF (sR (sR (sR (zz μ top) 500 o_ (some top)) 501 o_ (some v_a)) 509 o_ (some v_b)) 508 o_ (-1)) 1 6 := by
  refine zMet_ofI (by decide) (Nat.le_of_ble_eq_true rfl) fun X hX1 hX2 fx hnm fin => ?_
  subst hX1; subst hX2
  replace fx : zFix X cX5_init RX5 (zrc 1 20 1 6) 3 := fx
  replace hnm : (X.2.2.2.2.2.2.2.2.1).name = "<init>" := hnm
  show zZ zK0 X (Sh, top, 0, 0) μ 0 [(0, .ref o_), (1, .ref v_a), (2, .ref v_b)] []
  refine z_aload_n fx (k := 0) (i := 0) rfl rfl di5_0 ?_
  refine z_obj fx (zw_obj (zTb2 83 rfl rfl)) (Nat.le_of_ble_eq_true rfl) ⟨Nat.le_of_ble_eq_true rfl, Nat.le_of_ble_eq_true rfl⟩ di5_1 ?_
  refine z_aload_n fx (k := 0) (i := 0) rfl rfl di5_4 ?_
  refine z_bipush fx (v := 6) (by decide) di5_5 ?_
  refine z_newI (T := (Sh, top, 0, 0)) fx zK0_ok (N := 6) (show rI 100000000 (nI 6) = _ from rI_nI (by omega) (by omega)) zw_int (hA _ (by show top ≤ top; omega)) ⟨Nat.le_of_ble_eq_true rfl, Nat.le_of_ble_eq_true rfl⟩ di5_7 ?_
  show zZ zK0 X ((zSu Sh top 1 6), (top + 1), 1, 6) (zz μ top) 9 [(0, .ref o_), (1, .ref v_a), (2, .ref v_b)] [.ref top, .ref o_]
  refine z_putRF fx hnm 5 0 (show ((zSu Sh top 1 6) o_).1 = 12 by rw [zSu_o (by omega)]; exact ho) (lf5_9) (fun q h => by cases h; exact ⟨rfl, rfl⟩) ⟨rfl, by decide⟩ ⟨rfl, rfl⟩ (show ((zSu Sh top 1 6) top).1 = 1 by rw [zSu_s]) di5_9 ?_
  show zZ zK0 X ((zSu Sh top 1 6), (top + 1), 1, 6) (sR (zz μ top) 500 o_ (some top)) 12 [(0, .ref o_), (1, .ref v_a), (2, .ref v_b)] []
  refine z_aload_n fx (k := 0) (i := 0) rfl rfl di5_12 ?_
  refine z_aload_n fx (k := 1) (i := 1) rfl rfl di5_13 ?_
  refine z_putRF fx hnm 5 1 (show ((zSu Sh top 1 6) o_).1 = 12 by rw [zSu_o (by omega)]; exact ho) (lf5_15) (fun q h => by cases h; exact ⟨rfl, rfl⟩) ⟨rfl, by decide⟩ ⟨rfl, rfl⟩ (show ((zSu Sh top 1 6) v_a).1 = 1 by rw [zSu_o (by omega)]; exact ha_) di5_14 ?_
  show zZ zK0 X ((zSu Sh top 1 6), (top + 1), 1, 6) (sR (sR (zz μ top) 500 o_ (some top)) 501 o_ (some v_a)) 17 [(0, .ref o_), (1, .ref v_a), (2, .ref v_b)] []
  refine z_aload_n fx (k := 0) (i := 0) rfl rfl di5_17 ?_
  refine z_aload_n fx (k := 2) (i := 2) rfl rfl di5_18 ?_
  refine z_putRN fx 5 9 (show ((zSu Sh top 1 6) o_).1 = 12 by rw [zSu_o (by omega)]; exact ho) (lf5_18) (fun q h => by cases h; rfl) ⟨rfl, by decide⟩ ⟨rfl, rfl⟩ (show ((zSu Sh top 1 6) v_b).1 = 17 by rw [zSu_o (by omega)]; exact hb_) di5_19 ?_
  show zZ zK0 X ((zSu Sh top 1 6), (top + 1), 1, 6) (sR (sR (sR (zz μ top) 500 o_ (some top)) 501 o_ (some v_a)) 509 o_ (some v_b)) 22 [(0, .ref o_), (1, .ref v_a), (2, .ref v_b)] []
  refine z_aload_n fx (k := 0) (i := 0) rfl rfl di5_22 ?_
  refine z_iconst fx (v := (-1)) (by decide) di5_23 ?_
  refine z_putI fx (ci := 5) 8 (show ((zSu Sh top 1 6) o_).1 = 12 by rw [zSu_o (by omega)]; exact ho) (lf5_22) ⟨rfl, rfl, fun q h => by cases h; rfl⟩ rfl di5_24 ?_
  show zZ zK0 X ((zSu Sh top 1 6), (top + 1), 1, 6) (sF (sR (sR (sR (zz μ top) 500 o_ (some top)) 501 o_ (some v_a)) 509 o_ (some v_b)) 508 o_ (-1)) 27 [(0, .ref o_), (1, .ref v_a), (2, .ref v_b)] []
  exact z_return fx fin di5_27
theorem mi5 : zMw yX5_init cX5_init 3 none 2 := ⟨zTb2 82 rfl rfl, zTb1 8 rfl rfl, by decide, by decide, by decide +kernel⟩
theorem mii5 : Cond.instanceMethod yX5_init ∈ zTb := zTb2 81 rfl rfl
theorem di1_0 : zd cX1_init 0 (.aload_n 0) 1 1 := by decide +kernel
theorem di1_1 : zd cX1_init 1 (.invokespecial 3) 3 4 := by decide +kernel
theorem di1_4 : zd cX1_init 4 (.aload_n 0) 1 5 := by decide +kernel
theorem di1_5 : zd cX1_init 5 (.bipush 64) 2 7 := by decide +kernel
theorem di1_7 : zd cX1_init 7 (.newarray .int) 2 9 := by decide +kernel
theorem di1_9 : zd cX1_init 9 (.putfield 9) 3 12 := by decide +kernel
theorem di1_12 : zd cX1_init 12 (.aload_n 0) 1 13 := by decide +kernel
theorem di1_13 : zd cX1_init 13 (.bipush 8) 2 15 := by decide +kernel
theorem di1_15 : zd cX1_init 15 (.newarray .int) 2 17 := by decide +kernel
theorem di1_17 : zd cX1_init 17 (.putfield 15) 3 20 := by decide +kernel
theorem di1_20 : zd cX1_init 20 (.aload_n 0) 1 21 := by decide +kernel
theorem di1_21 : zd cX1_init 21 (.bipush 8) 2 23 := by decide +kernel
theorem di1_23 : zd cX1_init 23 (.newarray .int) 2 25 := by decide +kernel
theorem di1_25 : zd cX1_init 25 (.putfield 18) 3 28 := by decide +kernel
theorem di1_28 : zd cX1_init 28 (.aload_n 0) 1 29 := by decide +kernel
theorem di1_29 : zd cX1_init 29 (.bipush 8) 2 31 := by decide +kernel
theorem di1_31 : zd cX1_init 31 (.newarray .int) 2 33 := by decide +kernel
theorem di1_33 : zd cX1_init 33 (.putfield 21) 3 36 := by decide +kernel
theorem di1_36 : zd cX1_init 36 (.aload_n 0) 1 37 := by decide +kernel
theorem di1_37 : zd cX1_init 37 (.bipush 28) 2 39 := by decide +kernel
theorem di1_39 : zd cX1_init 39 (.newarray .int) 2 41 := by decide +kernel
theorem di1_41 : zd cX1_init 41 (.putfield 24) 3 44 := by decide +kernel
theorem di1_44 : zd cX1_init 44 (.aload_n 0) 1 45 := by decide +kernel
theorem di1_45 : zd cX1_init 45 (.new 27) 3 48 := by decide +kernel
theorem di1_48 : zd cX1_init 48 (.dup) 1 49 := by decide +kernel
theorem di1_49 : zd cX1_init 49 (.invokespecial 29) 3 52 := by decide +kernel
theorem di1_52 : zd cX1_init 52 (.putfield 30) 3 55 := by decide +kernel
theorem di1_55 : zd cX1_init 55 (.aload_n 0) 1 56 := by decide +kernel
theorem di1_56 : zd cX1_init 56 (.new 27) 3 59 := by decide +kernel
theorem di1_59 : zd cX1_init 59 (.dup) 1 60 := by decide +kernel
theorem di1_60 : zd cX1_init 60 (.invokespecial 29) 3 63 := by decide +kernel
theorem di1_63 : zd cX1_init 63 (.putfield 34) 3 66 := by decide +kernel
theorem di1_66 : zd cX1_init 66 (.return_) 1 67 := by decide +kernel
set_option maxHeartbeats 4000000 in
set_option maxRecDepth 20000 in
theorem i1 (l : Launch) (D : zDt) (Sh : zSh) (top : Nat) (μ : zM) (o_ : Nat)  (ho : (Sh o_).1 = 8) (hlt : o_ < top) (hA : ∀ q, top ≤ q → zAf D q) : zMet l D zK0 yX1_init cX1_init 1 none (zrc 2 40 7 124) [.ref o_] Sh top μ none (zSu (zSu (zSu (zSu (zSu (zSu (zSu Sh top 1 64) (top + 1) 1 8) (top + 2) 1 8) (top + 3) 1 8) (top + 4) 1 28) (top + 5) 16 0) (top + 6) 16 0) (top + 7) (sR (zz (sR (zz (sR (zz (sR (zz (sR (zz (sR (zz (sR (zz μ top) 100 o_ (some top)) (top + 1)) 101 o_ (some (top + 1))) (top + 2)) 102 o_ (some (top + 2))) (top + 3)) 103 o_ (some (top + 3))) (top + 4)) 104 o_ (some (top + 4))) (top + 5)) 105 o_ (some (top + 5))) (top + 6)) 106 o_ (some (top + 6))) 7 124 := by
  refine zMet_ofI (by decide) (Nat.le_of_ble_eq_true rfl) fun X hX1 hX2 fx hnm fin => ?_
  subst hX1; subst hX2
  replace fx : zFix X cX1_init RX1 (zrc 2 40 7 124) 1 := fx
  replace hnm : (X.2.2.2.2.2.2.2.2.1).name = "<init>" := hnm
  show zZ zK0 X (Sh, top, 0, 0) μ 0 [(0, .ref o_)] []
  refine z_aload_n fx (k := 0) (i := 0) rfl rfl di1_0 ?_
  refine z_obj fx (zw_obj (zTb1 36 rfl rfl)) (Nat.le_of_ble_eq_true rfl) ⟨Nat.le_of_ble_eq_true rfl, Nat.le_of_ble_eq_true rfl⟩ di1_1 ?_
  refine z_aload_n fx (k := 0) (i := 0) rfl rfl di1_4 ?_
  refine z_bipush fx (v := 64) (by decide) di1_5 ?_
  refine z_newI (T := (Sh, top, 0, 0)) fx zK0_ok (N := 64) (show rI 100000000 (nI 64) = _ from rI_nI (by omega) (by omega)) zw_int (hA _ (by show top ≤ top; omega)) ⟨Nat.le_of_ble_eq_true rfl, Nat.le_of_ble_eq_true rfl⟩ di1_7 ?_
  show zZ zK0 X ((zSu Sh top 1 64), (top + 1), 1, 64) (zz μ top) 9 [(0, .ref o_)] [.ref top, .ref o_]
  refine z_putRF fx hnm 1 0 (show ((zSu Sh top 1 64) o_).1 = 8 by rw [zSu_o (by omega)]; exact ho) (lf1_9) (fun q h => by cases h; exact ⟨rfl, rfl⟩) ⟨rfl, by decide⟩ ⟨rfl, rfl⟩ (show ((zSu Sh top 1 64) top).1 = 1 by rw [zSu_s]) di1_9 ?_
  show zZ zK0 X ((zSu Sh top 1 64), (top + 1), 1, 64) (sR (zz μ top) 100 o_ (some top)) 12 [(0, .ref o_)] []
  refine z_aload_n fx (k := 0) (i := 0) rfl rfl di1_12 ?_
  refine z_bipush fx (v := 8) (by decide) di1_13 ?_
  refine z_newI (T := ((zSu Sh top 1 64), (top + 1), 1, 64)) fx zK0_ok (N := 8) (show rI 100000000 (nI 8) = _ from rI_nI (by omega) (by omega)) zw_int (hA _ (by show top ≤ (top + 1); omega)) ⟨Nat.le_of_ble_eq_true rfl, Nat.le_of_ble_eq_true rfl⟩ di1_15 ?_
  show zZ zK0 X ((zSu (zSu Sh top 1 64) (top + 1) 1 8), (top + 2), 2, 72) (zz (sR (zz μ top) 100 o_ (some top)) (top + 1)) 17 [(0, .ref o_)] [.ref (top + 1), .ref o_]
  refine z_putRF fx hnm 1 1 (show ((zSu (zSu Sh top 1 64) (top + 1) 1 8) o_).1 = 8 by rw [zSu_o (by omega)]; rw [zSu_o (by omega)]; exact ho) (lf1_15) (fun q h => by cases h; exact ⟨rfl, rfl⟩) ⟨rfl, by decide⟩ ⟨rfl, rfl⟩ (show ((zSu (zSu Sh top 1 64) (top + 1) 1 8) (top + 1)).1 = 1 by rw [zSu_s]) di1_17 ?_
  show zZ zK0 X ((zSu (zSu Sh top 1 64) (top + 1) 1 8), (top + 2), 2, 72) (sR (zz (sR (zz μ top) 100 o_ (some top)) (top + 1)) 101 o_ (some (top + 1))) 20 [(0, .ref o_)] []
  refine z_aload_n fx (k := 0) (i := 0) rfl rfl di1_20 ?_
  refine z_bipush fx (v := 8) (by decide) di1_21 ?_
  refine z_newI (T := ((zSu (zSu Sh top 1 64) (top + 1) 1 8), (top + 2), 2, 72)) fx zK0_ok (N := 8) (show rI 100000000 (nI 8) = _ from rI_nI (by omega) (by omega)) zw_int (hA _ (by show top ≤ (top + 2); omega)) ⟨Nat.le_of_ble_eq_true rfl, Nat.le_of_ble_eq_true rfl⟩ di1_23 ?_
  show zZ zK0 X ((zSu (zSu (zSu Sh top 1 64) (top + 1) 1 8) (top + 2) 1 8), (top + 3), 3, 80) (zz (sR (zz (sR (zz μ top) 100 o_ (some top)) (top + 1)) 101 o_ (some (top + 1))) (top + 2)) 25 [(0, .ref o_)] [.ref (top + 2), .ref o_]
  refine z_putRF fx hnm 1 2 (show ((zSu (zSu (zSu Sh top 1 64) (top + 1) 1 8) (top + 2) 1 8) o_).1 = 8 by rw [zSu_o (by omega)]; rw [zSu_o (by omega)]; rw [zSu_o (by omega)]; exact ho) (lf1_18) (fun q h => by cases h; exact ⟨rfl, rfl⟩) ⟨rfl, by decide⟩ ⟨rfl, rfl⟩ (show ((zSu (zSu (zSu Sh top 1 64) (top + 1) 1 8) (top + 2) 1 8) (top + 2)).1 = 1 by rw [zSu_s]) di1_25 ?_
  show zZ zK0 X ((zSu (zSu (zSu Sh top 1 64) (top + 1) 1 8) (top + 2) 1 8), (top + 3), 3, 80) (sR (zz (sR (zz (sR (zz μ top) 100 o_ (some top)) (top + 1)) 101 o_ (some (top + 1))) (top + 2)) 102 o_ (some (top + 2))) 28 [(0, .ref o_)] []
  refine z_aload_n fx (k := 0) (i := 0) rfl rfl di1_28 ?_
  refine z_bipush fx (v := 8) (by decide) di1_29 ?_
  refine z_newI (T := ((zSu (zSu (zSu Sh top 1 64) (top + 1) 1 8) (top + 2) 1 8), (top + 3), 3, 80)) fx zK0_ok (N := 8) (show rI 100000000 (nI 8) = _ from rI_nI (by omega) (by omega)) zw_int (hA _ (by show top ≤ (top + 3); omega)) ⟨Nat.le_of_ble_eq_true rfl, Nat.le_of_ble_eq_true rfl⟩ di1_31 ?_
  show zZ zK0 X ((zSu (zSu (zSu (zSu Sh top 1 64) (top + 1) 1 8) (top + 2) 1 8) (top + 3) 1 8), (top + 4), 4, 88) (zz (sR (zz (sR (zz (sR (zz μ top) 100 o_ (some top)) (top + 1)) 101 o_ (some (top + 1))) (top + 2)) 102 o_ (some (top + 2))) (top + 3)) 33 [(0, .ref o_)] [.ref (top + 3), .ref o_]
  refine z_putRF fx hnm 1 3 (show ((zSu (zSu (zSu (zSu Sh top 1 64) (top + 1) 1 8) (top + 2) 1 8) (top + 3) 1 8) o_).1 = 8 by rw [zSu_o (by omega)]; rw [zSu_o (by omega)]; rw [zSu_o (by omega)]; rw [zSu_o (by omega)]; exact ho) (lf1_21) (fun q h => by cases h; exact ⟨rfl, rfl⟩) ⟨rfl, by decide⟩ ⟨rfl, rfl⟩ (show ((zSu (zSu (zSu (zSu Sh top 1 64) (top + 1) 1 8) (top + 2) 1 8) (top + 3) 1 8) (top + 3)).1 = 1 by rw [zSu_s]) di1_33 ?_
  show zZ zK0 X ((zSu (zSu (zSu (zSu Sh top 1 64) (top + 1) 1 8) (top + 2) 1 8) (top + 3) 1 8), (top + 4), 4, 88) (sR (zz (sR (zz (sR (zz (sR (zz μ top) 100 o_ (some top)) (top + 1)) 101 o_ (some (top + 1))) (top + 2)) 102 o_ (some (top + 2))) (top + 3)) 103 o_ (some (top + 3))) 36 [(0, .ref o_)] []
  refine z_aload_n fx (k := 0) (i := 0) rfl rfl di1_36 ?_
  refine z_bipush fx (v := 28) (by decide) di1_37 ?_
  refine z_newI (T := ((zSu (zSu (zSu (zSu Sh top 1 64) (top + 1) 1 8) (top + 2) 1 8) (top + 3) 1 8), (top + 4), 4, 88)) fx zK0_ok (N := 28) (show rI 100000000 (nI 28) = _ from rI_nI (by omega) (by omega)) zw_int (hA _ (by show top ≤ (top + 4); omega)) ⟨Nat.le_of_ble_eq_true rfl, Nat.le_of_ble_eq_true rfl⟩ di1_39 ?_
  show zZ zK0 X ((zSu (zSu (zSu (zSu (zSu Sh top 1 64) (top + 1) 1 8) (top + 2) 1 8) (top + 3) 1 8) (top + 4) 1 28), (top + 5), 5, 116) (zz (sR (zz (sR (zz (sR (zz (sR (zz μ top) 100 o_ (some top)) (top + 1)) 101 o_ (some (top + 1))) (top + 2)) 102 o_ (some (top + 2))) (top + 3)) 103 o_ (some (top + 3))) (top + 4)) 41 [(0, .ref o_)] [.ref (top + 4), .ref o_]
  refine z_putRF fx hnm 1 4 (show ((zSu (zSu (zSu (zSu (zSu Sh top 1 64) (top + 1) 1 8) (top + 2) 1 8) (top + 3) 1 8) (top + 4) 1 28) o_).1 = 8 by rw [zSu_o (by omega)]; rw [zSu_o (by omega)]; rw [zSu_o (by omega)]; rw [zSu_o (by omega)]; rw [zSu_o (by omega)]; exact ho) (lf1_24) (fun q h => by cases h; exact ⟨rfl, rfl⟩) ⟨rfl, by decide⟩ ⟨rfl, rfl⟩ (show ((zSu (zSu (zSu (zSu (zSu Sh top 1 64) (top + 1) 1 8) (top + 2) 1 8) (top + 3) 1 8) (top + 4) 1 28) (top + 4)).1 = 1 by rw [zSu_s]) di1_41 ?_
  show zZ zK0 X ((zSu (zSu (zSu (zSu (zSu Sh top 1 64) (top + 1) 1 8) (top + 2) 1 8) (top + 3) 1 8) (top + 4) 1 28), (top + 5), 5, 116) (sR (zz (sR (zz (sR (zz (sR (zz (sR (zz μ top) 100 o_ (some top)) (top + 1)) 101 o_ (some (top + 1))) (top + 2)) 102 o_ (some (top + 2))) (top + 3)) 103 o_ (some (top + 3))) (top + 4)) 104 o_ (some (top + 4))) 44 [(0, .ref o_)] []
  refine z_aload_n fx (k := 0) (i := 0) rfl rfl di1_44 ?_
  refine z_newO (T := ((zSu (zSu (zSu (zSu (zSu Sh top 1 64) (top + 1) 1 8) (top + 2) 1 8) (top + 3) 1 8) (top + 4) 1 28), (top + 5), 5, 116)) fx zK0_ok 9 (C := (RX9, TX9, 4)) rfl ⟨zTb1 37 rfl rfl, zTb1 38 rfl rfl, zTb1 3 rfl rfl⟩ (by decide) (hA _ (by show top ≤ (top + 5); omega)) ⟨Nat.le_of_ble_eq_true rfl, Nat.le_of_ble_eq_true rfl⟩ di1_45 ?_
  show zZ zK0 X ((zSu (zSu (zSu (zSu (zSu (zSu Sh top 1 64) (top + 1) 1 8) (top + 2) 1 8) (top + 3) 1 8) (top + 4) 1 28) (top + 5) 16 0), (top + 6), 6, 120) (zz (sR (zz (sR (zz (sR (zz (sR (zz (sR (zz μ top) 100 o_ (some top)) (top + 1)) 101 o_ (some (top + 1))) (top + 2)) 102 o_ (some (top + 2))) (top + 3)) 103 o_ (some (top + 3))) (top + 4)) 104 o_ (some (top + 4))) (top + 5)) 48 [(0, .ref o_)] [.ref (top + 5), .ref o_]
  refine z_dup fx rfl di1_48 ?_
  refine z_callIN fx _ rfl (i9 (zLo X) (zDo X) (zSu (zSu (zSu (zSu (zSu (zSu Sh top 1 64) (top + 1) 1 8) (top + 2) 1 8) (top + 3) 1 8) (top + 4) 1 28) (top + 5) 16 0) (top + 6) (zz (sR (zz (sR (zz (sR (zz (sR (zz (sR (zz μ top) 100 o_ (some top)) (top + 1)) 101 o_ (some (top + 1))) (top + 2)) 102 o_ (some (top + 2))) (top + 3)) 103 o_ (some (top + 3))) (top + 4)) 104 o_ (some (top + 4))) (top + 5)) (top + 5)) mi9 mii9 (by decide) rfl ⟨rfl, rfl, Nat.le_of_ble_eq_true rfl, Nat.le_of_ble_eq_true rfl, Nat.le_of_ble_eq_true rfl, Nat.le_of_ble_eq_true rfl⟩ rfl (Nat.le_of_ble_eq_true rfl) di1_49 ?_
  refine z_putRF fx hnm 1 5 (show ((zSu (zSu (zSu (zSu (zSu (zSu Sh top 1 64) (top + 1) 1 8) (top + 2) 1 8) (top + 3) 1 8) (top + 4) 1 28) (top + 5) 16 0) o_).1 = 8 by rw [zSu_o (by omega)]; rw [zSu_o (by omega)]; rw [zSu_o (by omega)]; rw [zSu_o (by omega)]; rw [zSu_o (by omega)]; rw [zSu_o (by omega)]; exact ho) (lf1_30) (fun q h => by cases h; exact ⟨rfl, rfl⟩) ⟨rfl, by decide⟩ ⟨rfl, rfl⟩ (show ((zSu (zSu (zSu (zSu (zSu (zSu Sh top 1 64) (top + 1) 1 8) (top + 2) 1 8) (top + 3) 1 8) (top + 4) 1 28) (top + 5) 16 0) (top + 5)).1 = 16 by rw [zSu_s]) di1_52 ?_
  show zZ zK0 X ((zSu (zSu (zSu (zSu (zSu (zSu Sh top 1 64) (top + 1) 1 8) (top + 2) 1 8) (top + 3) 1 8) (top + 4) 1 28) (top + 5) 16 0), (top + 6), 6, 120) (sR (zz (sR (zz (sR (zz (sR (zz (sR (zz (sR (zz μ top) 100 o_ (some top)) (top + 1)) 101 o_ (some (top + 1))) (top + 2)) 102 o_ (some (top + 2))) (top + 3)) 103 o_ (some (top + 3))) (top + 4)) 104 o_ (some (top + 4))) (top + 5)) 105 o_ (some (top + 5))) 55 [(0, .ref o_)] []
  refine z_aload_n fx (k := 0) (i := 0) rfl rfl di1_55 ?_
  refine z_newO (T := ((zSu (zSu (zSu (zSu (zSu (zSu Sh top 1 64) (top + 1) 1 8) (top + 2) 1 8) (top + 3) 1 8) (top + 4) 1 28) (top + 5) 16 0), (top + 6), 6, 120)) fx zK0_ok 9 (C := (RX9, TX9, 4)) rfl ⟨zTb1 37 rfl rfl, zTb1 38 rfl rfl, zTb1 3 rfl rfl⟩ (by decide) (hA _ (by show top ≤ (top + 6); omega)) ⟨Nat.le_of_ble_eq_true rfl, Nat.le_of_ble_eq_true rfl⟩ di1_56 ?_
  show zZ zK0 X ((zSu (zSu (zSu (zSu (zSu (zSu (zSu Sh top 1 64) (top + 1) 1 8) (top + 2) 1 8) (top + 3) 1 8) (top + 4) 1 28) (top + 5) 16 0) (top + 6) 16 0), (top + 7), 7, 124) (zz (sR (zz (sR (zz (sR (zz (sR (zz (sR (zz (sR (zz μ top) 100 o_ (some top)) (top + 1)) 101 o_ (some (top + 1))) (top + 2)) 102 o_ (some (top + 2))) (top + 3)) 103 o_ (some (top + 3))) (top + 4)) 104 o_ (some (top + 4))) (top + 5)) 105 o_ (some (top + 5))) (top + 6)) 59 [(0, .ref o_)] [.ref (top + 6), .ref o_]
  refine z_dup fx rfl di1_59 ?_
  refine z_callIN fx _ rfl (i9 (zLo X) (zDo X) (zSu (zSu (zSu (zSu (zSu (zSu (zSu Sh top 1 64) (top + 1) 1 8) (top + 2) 1 8) (top + 3) 1 8) (top + 4) 1 28) (top + 5) 16 0) (top + 6) 16 0) (top + 7) (zz (sR (zz (sR (zz (sR (zz (sR (zz (sR (zz (sR (zz μ top) 100 o_ (some top)) (top + 1)) 101 o_ (some (top + 1))) (top + 2)) 102 o_ (some (top + 2))) (top + 3)) 103 o_ (some (top + 3))) (top + 4)) 104 o_ (some (top + 4))) (top + 5)) 105 o_ (some (top + 5))) (top + 6)) (top + 6)) mi9 mii9 (by decide) rfl ⟨rfl, rfl, Nat.le_of_ble_eq_true rfl, Nat.le_of_ble_eq_true rfl, Nat.le_of_ble_eq_true rfl, Nat.le_of_ble_eq_true rfl⟩ rfl (Nat.le_of_ble_eq_true rfl) di1_60 ?_
  refine z_putRF fx hnm 1 6 (show ((zSu (zSu (zSu (zSu (zSu (zSu (zSu Sh top 1 64) (top + 1) 1 8) (top + 2) 1 8) (top + 3) 1 8) (top + 4) 1 28) (top + 5) 16 0) (top + 6) 16 0) o_).1 = 8 by rw [zSu_o (by omega)]; rw [zSu_o (by omega)]; rw [zSu_o (by omega)]; rw [zSu_o (by omega)]; rw [zSu_o (by omega)]; rw [zSu_o (by omega)]; rw [zSu_o (by omega)]; exact ho) (lf1_34) (fun q h => by cases h; exact ⟨rfl, rfl⟩) ⟨rfl, by decide⟩ ⟨rfl, rfl⟩ (show ((zSu (zSu (zSu (zSu (zSu (zSu (zSu Sh top 1 64) (top + 1) 1 8) (top + 2) 1 8) (top + 3) 1 8) (top + 4) 1 28) (top + 5) 16 0) (top + 6) 16 0) (top + 6)).1 = 16 by rw [zSu_s]) di1_63 ?_
  show zZ zK0 X ((zSu (zSu (zSu (zSu (zSu (zSu (zSu Sh top 1 64) (top + 1) 1 8) (top + 2) 1 8) (top + 3) 1 8) (top + 4) 1 28) (top + 5) 16 0) (top + 6) 16 0), (top + 7), 7, 124) (sR (zz (sR (zz (sR (zz (sR (zz (sR (zz (sR (zz (sR (zz μ top) 100 o_ (some top)) (top + 1)) 101 o_ (some (top + 1))) (top + 2)) 102 o_ (some (top + 2))) (top + 3)) 103 o_ (some (top + 3))) (top + 4)) 104 o_ (some (top + 4))) (top + 5)) 105 o_ (some (top + 5))) (top + 6)) 106 o_ (some (top + 6))) 66 [(0, .ref o_)] []
  exact z_return fx fin di1_66
theorem mi1 : zMw yX1_init cX1_init 1 none 0 := ⟨zTb1 35 rfl rfl, zTb1 2 rfl rfl, by decide, by decide, by decide +kernel⟩
theorem mii1 : Cond.instanceMethod yX1_init ∈ zTb := zTb1 34 rfl rfl
theorem di6_0 : zd cX6_init 0 (.aload_n 0) 1 1 := by decide +kernel
theorem di6_1 : zd cX6_init 1 (.invokespecial 3) 3 4 := by decide +kernel
theorem di6_4 : zd cX6_init 4 (.aload_n 0) 1 5 := by decide +kernel
theorem di6_5 : zd cX6_init 5 (.bipush 8) 2 7 := by decide +kernel
theorem di6_7 : zd cX6_init 7 (.newarray .int) 2 9 := by decide +kernel
theorem di6_9 : zd cX6_init 9 (.putfield 9) 3 12 := by decide +kernel
theorem di6_12 : zd cX6_init 12 (.aload_n 0) 1 13 := by decide +kernel
theorem di6_13 : zd cX6_init 13 (.bipush 8) 2 15 := by decide +kernel
theorem di6_15 : zd cX6_init 15 (.newarray .int) 2 17 := by decide +kernel
theorem di6_17 : zd cX6_init 17 (.putfield 15) 3 20 := by decide +kernel
theorem di6_20 : zd cX6_init 20 (.return_) 1 21 := by decide +kernel
set_option maxHeartbeats 4000000 in
set_option maxRecDepth 20000 in
theorem i6 (l : Launch) (D : zDt) (Sh : zSh) (top : Nat) (μ : zM) (o_ : Nat)  (ho : (Sh o_).1 = 13) (hlt : o_ < top) (hA : ∀ q, top ≤ q → zAf D q) : zMet l D zK0 yX6_init cX6_init 1 none (zrc 1 20 2 16) [.ref o_] Sh top μ none (zSu (zSu Sh top 1 8) (top + 1) 1 8) (top + 2) (sR (zz (sR (zz μ top) 600 o_ (some top)) (top + 1)) 601 o_ (some (top + 1))) 2 16 := by
  refine zMet_ofI (by decide) (Nat.le_of_ble_eq_true rfl) fun X hX1 hX2 fx hnm fin => ?_
  subst hX1; subst hX2
  replace fx : zFix X cX6_init RX6 (zrc 1 20 2 16) 1 := fx
  replace hnm : (X.2.2.2.2.2.2.2.2.1).name = "<init>" := hnm
  show zZ zK0 X (Sh, top, 0, 0) μ 0 [(0, .ref o_)] []
  refine z_aload_n fx (k := 0) (i := 0) rfl rfl di6_0 ?_
  refine z_obj fx (zw_obj (zTb1 119 rfl rfl)) (Nat.le_of_ble_eq_true rfl) ⟨Nat.le_of_ble_eq_true rfl, Nat.le_of_ble_eq_true rfl⟩ di6_1 ?_
  refine z_aload_n fx (k := 0) (i := 0) rfl rfl di6_4 ?_
  refine z_bipush fx (v := 8) (by decide) di6_5 ?_
  refine z_newI (T := (Sh, top, 0, 0)) fx zK0_ok (N := 8) (show rI 100000000 (nI 8) = _ from rI_nI (by omega) (by omega)) zw_int (hA _ (by show top ≤ top; omega)) ⟨Nat.le_of_ble_eq_true rfl, Nat.le_of_ble_eq_true rfl⟩ di6_7 ?_
  show zZ zK0 X ((zSu Sh top 1 8), (top + 1), 1, 8) (zz μ top) 9 [(0, .ref o_)] [.ref top, .ref o_]
  refine z_putRF fx hnm 6 0 (show ((zSu Sh top 1 8) o_).1 = 13 by rw [zSu_o (by omega)]; exact ho) (lf6_9) (fun q h => by cases h; exact ⟨rfl, rfl⟩) ⟨rfl, by decide⟩ ⟨rfl, rfl⟩ (show ((zSu Sh top 1 8) top).1 = 1 by rw [zSu_s]) di6_9 ?_
  show zZ zK0 X ((zSu Sh top 1 8), (top + 1), 1, 8) (sR (zz μ top) 600 o_ (some top)) 12 [(0, .ref o_)] []
  refine z_aload_n fx (k := 0) (i := 0) rfl rfl di6_12 ?_
  refine z_bipush fx (v := 8) (by decide) di6_13 ?_
  refine z_newI (T := ((zSu Sh top 1 8), (top + 1), 1, 8)) fx zK0_ok (N := 8) (show rI 100000000 (nI 8) = _ from rI_nI (by omega) (by omega)) zw_int (hA _ (by show top ≤ (top + 1); omega)) ⟨Nat.le_of_ble_eq_true rfl, Nat.le_of_ble_eq_true rfl⟩ di6_15 ?_
  show zZ zK0 X ((zSu (zSu Sh top 1 8) (top + 1) 1 8), (top + 2), 2, 16) (zz (sR (zz μ top) 600 o_ (some top)) (top + 1)) 17 [(0, .ref o_)] [.ref (top + 1), .ref o_]
  refine z_putRF fx hnm 6 1 (show ((zSu (zSu Sh top 1 8) (top + 1) 1 8) o_).1 = 13 by rw [zSu_o (by omega)]; rw [zSu_o (by omega)]; exact ho) (lf6_15) (fun q h => by cases h; exact ⟨rfl, rfl⟩) ⟨rfl, by decide⟩ ⟨rfl, rfl⟩ (show ((zSu (zSu Sh top 1 8) (top + 1) 1 8) (top + 1)).1 = 1 by rw [zSu_s]) di6_17 ?_
  show zZ zK0 X ((zSu (zSu Sh top 1 8) (top + 1) 1 8), (top + 2), 2, 16) (sR (zz (sR (zz μ top) 600 o_ (some top)) (top + 1)) 601 o_ (some (top + 1))) 20 [(0, .ref o_)] []
  exact z_return fx fin di6_20
theorem mi6 : zMw yX6_init cX6_init 1 none 0 := ⟨zTb1 118 rfl rfl, zTb1 4 rfl rfl, by decide, by decide, by decide +kernel⟩
theorem mii6 : Cond.instanceMethod yX6_init ∈ zTb := zTb1 117 rfl rfl
theorem di2_0 : zd cX2_init 0 (.aload_n 0) 1 1 := by decide +kernel
theorem di2_1 : zd cX2_init 1 (.invokespecial 3) 3 4 := by decide +kernel
theorem di2_4 : zd cX2_init 4 (.aload_n 0) 1 5 := by decide +kernel
theorem di2_5 : zd cX2_init 5 (.bipush 65) 2 7 := by decide +kernel
theorem di2_7 : zd cX2_init 7 (.newarray .int) 2 9 := by decide +kernel
theorem di2_9 : zd cX2_init 9 (.putfield 9) 3 12 := by decide +kernel
theorem di2_12 : zd cX2_init 12 (.aload_n 0) 1 13 := by decide +kernel
theorem di2_13 : zd cX2_init 13 (.bipush 65) 2 15 := by decide +kernel
theorem di2_15 : zd cX2_init 15 (.newarray .int) 2 17 := by decide +kernel
theorem di2_17 : zd cX2_init 17 (.putfield 15) 3 20 := by decide +kernel
theorem di2_20 : zd cX2_init 20 (.return_) 1 21 := by decide +kernel
set_option maxHeartbeats 4000000 in
set_option maxRecDepth 20000 in
theorem i2 (l : Launch) (D : zDt) (Sh : zSh) (top : Nat) (μ : zM) (o_ : Nat)  (ho : (Sh o_).1 = 9) (hlt : o_ < top) (hA : ∀ q, top ≤ q → zAf D q) : zMet l D zK0 yX2_init cX2_init 1 none (zrc 1 20 2 130) [.ref o_] Sh top μ none (zSu (zSu Sh top 1 65) (top + 1) 1 65) (top + 2) (sR (zz (sR (zz μ top) 200 o_ (some top)) (top + 1)) 201 o_ (some (top + 1))) 2 130 := by
  refine zMet_ofI (by decide) (Nat.le_of_ble_eq_true rfl) fun X hX1 hX2 fx hnm fin => ?_
  subst hX1; subst hX2
  replace fx : zFix X cX2_init RX2 (zrc 1 20 2 130) 1 := fx
  replace hnm : (X.2.2.2.2.2.2.2.2.1).name = "<init>" := hnm
  show zZ zK0 X (Sh, top, 0, 0) μ 0 [(0, .ref o_)] []
  refine z_aload_n fx (k := 0) (i := 0) rfl rfl di2_0 ?_
  refine z_obj fx (zw_obj (zTb1 132 rfl rfl)) (Nat.le_of_ble_eq_true rfl) ⟨Nat.le_of_ble_eq_true rfl, Nat.le_of_ble_eq_true rfl⟩ di2_1 ?_
  refine z_aload_n fx (k := 0) (i := 0) rfl rfl di2_4 ?_
  refine z_bipush fx (v := 65) (by decide) di2_5 ?_
  refine z_newI (T := (Sh, top, 0, 0)) fx zK0_ok (N := 65) (show rI 100000000 (nI 65) = _ from rI_nI (by omega) (by omega)) zw_int (hA _ (by show top ≤ top; omega)) ⟨Nat.le_of_ble_eq_true rfl, Nat.le_of_ble_eq_true rfl⟩ di2_7 ?_
  show zZ zK0 X ((zSu Sh top 1 65), (top + 1), 1, 65) (zz μ top) 9 [(0, .ref o_)] [.ref top, .ref o_]
  refine z_putRF fx hnm 2 0 (show ((zSu Sh top 1 65) o_).1 = 9 by rw [zSu_o (by omega)]; exact ho) (lf2_9) (fun q h => by cases h; exact ⟨rfl, rfl⟩) ⟨rfl, by decide⟩ ⟨rfl, rfl⟩ (show ((zSu Sh top 1 65) top).1 = 1 by rw [zSu_s]) di2_9 ?_
  show zZ zK0 X ((zSu Sh top 1 65), (top + 1), 1, 65) (sR (zz μ top) 200 o_ (some top)) 12 [(0, .ref o_)] []
  refine z_aload_n fx (k := 0) (i := 0) rfl rfl di2_12 ?_
  refine z_bipush fx (v := 65) (by decide) di2_13 ?_
  refine z_newI (T := ((zSu Sh top 1 65), (top + 1), 1, 65)) fx zK0_ok (N := 65) (show rI 100000000 (nI 65) = _ from rI_nI (by omega) (by omega)) zw_int (hA _ (by show top ≤ (top + 1); omega)) ⟨Nat.le_of_ble_eq_true rfl, Nat.le_of_ble_eq_true rfl⟩ di2_15 ?_
  show zZ zK0 X ((zSu (zSu Sh top 1 65) (top + 1) 1 65), (top + 2), 2, 130) (zz (sR (zz μ top) 200 o_ (some top)) (top + 1)) 17 [(0, .ref o_)] [.ref (top + 1), .ref o_]
  refine z_putRF fx hnm 2 1 (show ((zSu (zSu Sh top 1 65) (top + 1) 1 65) o_).1 = 9 by rw [zSu_o (by omega)]; rw [zSu_o (by omega)]; exact ho) (lf2_15) (fun q h => by cases h; exact ⟨rfl, rfl⟩) ⟨rfl, by decide⟩ ⟨rfl, rfl⟩ (show ((zSu (zSu Sh top 1 65) (top + 1) 1 65) (top + 1)).1 = 1 by rw [zSu_s]) di2_17 ?_
  show zZ zK0 X ((zSu (zSu Sh top 1 65) (top + 1) 1 65), (top + 2), 2, 130) (sR (zz (sR (zz μ top) 200 o_ (some top)) (top + 1)) 201 o_ (some (top + 1))) 20 [(0, .ref o_)] []
  exact z_return fx fin di2_20
theorem mi2 : zMw yX2_init cX2_init 1 none 0 := ⟨zTb1 131 rfl rfl, zTb1 5 rfl rfl, by decide, by decide, by decide +kernel⟩
theorem mii2 : Cond.instanceMethod yX2_init ∈ zTb := zTb1 130 rfl rfl
theorem di7_0 : zd cX7_init 0 (.aload_n 0) 1 1 := by decide +kernel
theorem di7_1 : zd cX7_init 1 (.invokespecial 3) 3 4 := by decide +kernel
theorem di7_4 : zd cX7_init 4 (.aload_n 0) 1 5 := by decide +kernel
theorem di7_5 : zd cX7_init 5 (.bipush 48) 2 7 := by decide +kernel
theorem di7_7 : zd cX7_init 7 (.newarray .int) 2 9 := by decide +kernel
theorem di7_9 : zd cX7_init 9 (.putfield 9) 3 12 := by decide +kernel
theorem di7_12 : zd cX7_init 12 (.aload_n 0) 1 13 := by decide +kernel
theorem di7_13 : zd cX7_init 13 (.bipush 15) 2 15 := by decide +kernel
theorem di7_15 : zd cX7_init 15 (.newarray .int) 2 17 := by decide +kernel
theorem di7_17 : zd cX7_init 17 (.putfield 15) 3 20 := by decide +kernel
theorem di7_20 : zd cX7_init 20 (.aload_n 0) 1 21 := by decide +kernel
theorem di7_21 : zd cX7_init 21 (.sipush 420) 3 24 := by decide +kernel
theorem di7_24 : zd cX7_init 24 (.newarray .int) 2 26 := by decide +kernel
theorem di7_26 : zd cX7_init 26 (.putfield 18) 3 29 := by decide +kernel
theorem di7_29 : zd cX7_init 29 (.return_) 1 30 := by decide +kernel
set_option maxHeartbeats 4000000 in
set_option maxRecDepth 20000 in
theorem i7 (l : Launch) (D : zDt) (Sh : zSh) (top : Nat) (μ : zM) (o_ : Nat)  (ho : (Sh o_).1 = 14) (hlt : o_ < top) (hA : ∀ q, top ≤ q → zAf D q) : zMet l D zK0 yX7_init cX7_init 1 none (zrc 1 20 3 483) [.ref o_] Sh top μ none (zSu (zSu (zSu Sh top 1 48) (top + 1) 1 15) (top + 2) 1 420) (top + 3) (sR (zz (sR (zz (sR (zz μ top) 700 o_ (some top)) (top + 1)) 701 o_ (some (top + 1))) (top + 2)) 702 o_ (some (top + 2))) 3 483 := by
  refine zMet_ofI (by decide) (Nat.le_of_ble_eq_true rfl) fun X hX1 hX2 fx hnm fin => ?_
  subst hX1; subst hX2
  replace fx : zFix X cX7_init RX7 (zrc 1 20 3 483) 1 := fx
  replace hnm : (X.2.2.2.2.2.2.2.2.1).name = "<init>" := hnm
  show zZ zK0 X (Sh, top, 0, 0) μ 0 [(0, .ref o_)] []
  refine z_aload_n fx (k := 0) (i := 0) rfl rfl di7_0 ?_
  refine z_obj fx (zw_obj (zTb1 164 rfl rfl)) (Nat.le_of_ble_eq_true rfl) ⟨Nat.le_of_ble_eq_true rfl, Nat.le_of_ble_eq_true rfl⟩ di7_1 ?_
  refine z_aload_n fx (k := 0) (i := 0) rfl rfl di7_4 ?_
  refine z_bipush fx (v := 48) (by decide) di7_5 ?_
  refine z_newI (T := (Sh, top, 0, 0)) fx zK0_ok (N := 48) (show rI 100000000 (nI 48) = _ from rI_nI (by omega) (by omega)) zw_int (hA _ (by show top ≤ top; omega)) ⟨Nat.le_of_ble_eq_true rfl, Nat.le_of_ble_eq_true rfl⟩ di7_7 ?_
  show zZ zK0 X ((zSu Sh top 1 48), (top + 1), 1, 48) (zz μ top) 9 [(0, .ref o_)] [.ref top, .ref o_]
  refine z_putRF fx hnm 7 0 (show ((zSu Sh top 1 48) o_).1 = 14 by rw [zSu_o (by omega)]; exact ho) (lf7_9) (fun q h => by cases h; exact ⟨rfl, rfl⟩) ⟨rfl, by decide⟩ ⟨rfl, rfl⟩ (show ((zSu Sh top 1 48) top).1 = 1 by rw [zSu_s]) di7_9 ?_
  show zZ zK0 X ((zSu Sh top 1 48), (top + 1), 1, 48) (sR (zz μ top) 700 o_ (some top)) 12 [(0, .ref o_)] []
  refine z_aload_n fx (k := 0) (i := 0) rfl rfl di7_12 ?_
  refine z_bipush fx (v := 15) (by decide) di7_13 ?_
  refine z_newI (T := ((zSu Sh top 1 48), (top + 1), 1, 48)) fx zK0_ok (N := 15) (show rI 100000000 (nI 15) = _ from rI_nI (by omega) (by omega)) zw_int (hA _ (by show top ≤ (top + 1); omega)) ⟨Nat.le_of_ble_eq_true rfl, Nat.le_of_ble_eq_true rfl⟩ di7_15 ?_
  show zZ zK0 X ((zSu (zSu Sh top 1 48) (top + 1) 1 15), (top + 2), 2, 63) (zz (sR (zz μ top) 700 o_ (some top)) (top + 1)) 17 [(0, .ref o_)] [.ref (top + 1), .ref o_]
  refine z_putRF fx hnm 7 1 (show ((zSu (zSu Sh top 1 48) (top + 1) 1 15) o_).1 = 14 by rw [zSu_o (by omega)]; rw [zSu_o (by omega)]; exact ho) (lf7_15) (fun q h => by cases h; exact ⟨rfl, rfl⟩) ⟨rfl, by decide⟩ ⟨rfl, rfl⟩ (show ((zSu (zSu Sh top 1 48) (top + 1) 1 15) (top + 1)).1 = 1 by rw [zSu_s]) di7_17 ?_
  show zZ zK0 X ((zSu (zSu Sh top 1 48) (top + 1) 1 15), (top + 2), 2, 63) (sR (zz (sR (zz μ top) 700 o_ (some top)) (top + 1)) 701 o_ (some (top + 1))) 20 [(0, .ref o_)] []
  refine z_aload_n fx (k := 0) (i := 0) rfl rfl di7_20 ?_
  refine z_sipush fx (v := 420) (by decide) di7_21 ?_
  refine z_newI (T := ((zSu (zSu Sh top 1 48) (top + 1) 1 15), (top + 2), 2, 63)) fx zK0_ok (N := 420) (show rI 100000000 (nI 420) = _ from rI_nI (by omega) (by omega)) zw_int (hA _ (by show top ≤ (top + 2); omega)) ⟨Nat.le_of_ble_eq_true rfl, Nat.le_of_ble_eq_true rfl⟩ di7_24 ?_
  show zZ zK0 X ((zSu (zSu (zSu Sh top 1 48) (top + 1) 1 15) (top + 2) 1 420), (top + 3), 3, 483) (zz (sR (zz (sR (zz μ top) 700 o_ (some top)) (top + 1)) 701 o_ (some (top + 1))) (top + 2)) 26 [(0, .ref o_)] [.ref (top + 2), .ref o_]
  refine z_putRF fx hnm 7 2 (show ((zSu (zSu (zSu Sh top 1 48) (top + 1) 1 15) (top + 2) 1 420) o_).1 = 14 by rw [zSu_o (by omega)]; rw [zSu_o (by omega)]; rw [zSu_o (by omega)]; exact ho) (lf7_18) (fun q h => by cases h; exact ⟨rfl, rfl⟩) ⟨rfl, by decide⟩ ⟨rfl, rfl⟩ (show ((zSu (zSu (zSu Sh top 1 48) (top + 1) 1 15) (top + 2) 1 420) (top + 2)).1 = 1 by rw [zSu_s]) di7_26 ?_
  show zZ zK0 X ((zSu (zSu (zSu Sh top 1 48) (top + 1) 1 15) (top + 2) 1 420), (top + 3), 3, 483) (sR (zz (sR (zz (sR (zz μ top) 700 o_ (some top)) (top + 1)) 701 o_ (some (top + 1))) (top + 2)) 702 o_ (some (top + 2))) 29 [(0, .ref o_)] []
  exact z_return fx fin di7_29
theorem mi7 : zMw yX7_init cX7_init 1 none 0 := ⟨zTb1 163 rfl rfl, zTb1 6 rfl rfl, by decide, by decide, by decide +kernel⟩
theorem mii7 : Cond.instanceMethod yX7_init ∈ zTb := zTb1 162 rfl rfl
