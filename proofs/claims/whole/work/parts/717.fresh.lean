/-! THE START: both memories, fresh -/
def Z0 : zM := (fun _ _ => 0, fun _ _ => 0, fun _ _ => false, fun _ _ => false, fun _ _ => none, fun _ _ => none)
abbrev mOp : Type := Nat × Nat × Nat × Int32 × Nat
/-- one write: 0 a new cell, 1 an int, 2 a reference, 3 an element, 4 false -/
def apO (c : Nat) (μ : zM) (p : mOp) : zM := if p.1 = 0 then zz μ (c + p.2.2.1) else if p.1 = 1 then sF μ p.2.1 (c + p.2.2.1) p.2.2.2.1 else if p.1 = 2 then sR μ p.2.1 (c + p.2.2.1) (some (c + p.2.2.2.2)) else if p.1 = 3 then sA μ (c + p.2.2.1) p.2.1 p.2.2.2.1 else sB μ p.2.1 (c + p.2.2.1) false
def mops : List mOp := [(1, 1200, 0, 0, 0), (1, 1201, 0, 0, 0), (1, 1202, 0, 0, 0), (1, 1203, 0, 0, 0), (1, 1204, 0, 0, 0), (1, 1205, 0, 0, 0), (0, 0, 1, 0, 0), (2, 1206, 0, 0, 1), (0, 0, 2, 0, 0), (2, 1207, 0, 0, 2), (0, 0, 3, 0, 0), (2, 1208, 0, 0, 3), (0, 0, 4, 0, 0), (2, 1209, 0, 0, 4), (0, 0, 5, 0, 0), (2, 1210, 0, 0, 5), (0, 0, 6, 0, 0), (2, 1211, 0, 0, 6), (0, 0, 7, 0, 0), (2, 1212, 0, 0, 7), (0, 0, 8, 0, 0), (2, 1213, 0, 0, 8), (0, 0, 9, 0, 0), (2, 1214, 0, 0, 9), (0, 0, 10, 0, 0), (2, 1215, 0, 0, 10), (0, 0, 11, 0, 0), (2, 1216, 0, 0, 11), (1, 1217, 0, 0, 0), (1, 1218, 0, 0, 0), (1, 1219, 0, 0, 0), (1, 1220, 0, 0, 0), (1, 1221, 0, 0, 0), (0, 0, 12, 0, 0), (2, 1222, 0, 0, 12), (0, 0, 13, 0, 0), (2, 1223, 0, 0, 13), (0, 0, 14, 0, 0), (2, 1224, 0, 0, 14), (0, 0, 15, 0, 0), (2, 1225, 0, 0, 15), (0, 0, 16, 0, 0), (2, 1226, 0, 0, 16), (0, 0, 17, 0, 0), (2, 1227, 0, 0, 17), (0, 0, 18, 0, 0), (2, 1228, 0, 0, 18), (0, 0, 19, 0, 0), (2, 1229, 0, 0, 19), (0, 0, 20, 0, 0), (2, 1230, 0, 0, 20), (0, 0, 21, 0, 0), (2, 1231, 0, 0, 21), (1, 1232, 0, 0, 0), (0, 0, 22, 0, 0), (2, 1233, 0, 0, 22), (1, 1234, 0, 0, 0), (1, 1235, 0, (-1), 0), (1, 1236, 0, 0, 0), (1, 1237, 0, 0, 0), (1, 1238, 0, 0, 0), (1, 1239, 0, 0, 0), (1, 1240, 0, (-1), 0), (0, 0, 23, 0, 0), (3, 0, 23, 14, 0), (3, 1, 23, 5, 0), (3, 2, 23, 20, 0), (3, 3, 23, 0, 0), (3, 4, 23, 1, 0), (3, 5, 23, 7, 0), (3, 6, 23, 5, 0), (3, 7, 23, 0, 0), (3, 8, 23, 4, 0), (3, 9, 23, 5, 0), (3, 10, 23, 12, 0), (3, 11, 23, 1, 0), (3, 12, 23, 25, 0), (3, 13, 23, 0, 0), (3, 14, 23, 2, 0), (3, 15, 23, 18, 0), (3, 16, 23, 9, 0), (3, 17, 23, 4, 0), (3, 18, 23, 7, 0), (3, 19, 23, 5, 0), (3, 20, 23, 0, 0), (3, 21, 23, 16, 0), (3, 22, 23, 18, 0), (3, 23, 23, 9, 0), (3, 24, 23, 15, 0), (3, 25, 23, 0, 0), (3, 26, 23, 15, 0), (3, 27, 23, 12, 0), (3, 28, 23, 4, 0), (3, 29, 23, 0, 0), (3, 30, 23, 12, 0), (3, 31, 23, 9, 0), (3, 32, 23, 14, 0), (3, 33, 23, 11, 0), (3, 34, 23, 0, 0), (3, 35, 23, 5, 0), (3, 36, 23, 4, 0), (3, 37, 23, 7, 0), (3, 38, 23, 5, 0), (3, 39, 23, 0, 0), (3, 40, 23, 20, 0), (3, 41, 23, 15, 0), (3, 42, 23, 0, 0), (3, 43, 23, 3, 0), (3, 44, 23, 15, 0), (3, 45, 23, 19, 0), (3, 46, 23, 20, 0), (3, 47, 23, 0, 0), (3, 48, 23, 20, 0), (3, 49, 23, 1, 0), (3, 50, 23, 11, 0), (3, 51, 23, 5, 0), (3, 52, 23, 19, 0), (3, 53, 23, 0, 0), (3, 54, 23, 8, 0), (3, 55, 23, 15, 0), (3, 56, 23, 19, 0), (3, 57, 23, 20, 0), (3, 58, 23, 0, 0), (3, 59, 23, 1, 0), (3, 60, 23, 20, 0), (3, 61, 23, 0, 0), (2, 1241, 0, 0, 23), (0, 0, 24, 0, 0), (2, 1242, 0, 0, 24), (0, 0, 25, 0, 0), (2, 1243, 0, 0, 25), (1, 1244, 0, 0, 0), (1, 1245, 0, 0, 0), (4, 1246, 0, 0, 0), (0, 0, 26, 0, 0), (2, 1247, 0, 0, 26), (0, 0, 27, 0, 0), (2, 1248, 0, 0, 27), (0, 0, 28, 0, 0), (2, 1249, 0, 0, 28), (0, 0, 29, 0, 0), (2, 1250, 0, 0, 29), (0, 0, 30, 0, 0), (2, 1251, 0, 0, 30), (1, 1252, 0, 0, 0), (1, 1253, 0, 0, 0), (0, 0, 31, 0, 0), (2, 1254, 0, 0, 31), (0, 0, 32, 0, 0), (2, 1255, 0, 0, 32), (0, 0, 33, 0, 0), (2, 1256, 0, 0, 33), (0, 0, 34, 0, 0), (2, 1257, 0, 0, 34), (0, 0, 35, 0, 0), (2, 1258, 0, 0, 35), (1, 1259, 0, 0, 0), (4, 1260, 0, 0, 0), (1, 1261, 0, 0, 0), (1, 1262, 0, 0, 0), (1, 1263, 0, 0, 0), (1, 1264, 0, 1, 0), (0, 0, 36, 0, 0), (2, 1265, 0, 0, 36), (1, 1266, 0, 0, 0)]
def xops : List mOp := [(0, 0, 0, 0, 0), (0, 0, 1, 0, 0), (2, 1100, 0, 0, 1), (0, 0, 2, 0, 0), (2, 1104, 0, 0, 2), (0, 0, 3, 0, 0), (0, 0, 4, 0, 0), (2, 100, 3, 0, 4), (0, 0, 5, 0, 0), (2, 101, 3, 0, 5), (0, 0, 6, 0, 0), (2, 102, 3, 0, 6), (0, 0, 7, 0, 0), (2, 103, 3, 0, 7), (0, 0, 8, 0, 0), (2, 104, 3, 0, 8), (0, 0, 9, 0, 0), (2, 105, 3, 0, 9), (0, 0, 10, 0, 0), (2, 106, 3, 0, 10), (2, 1105, 0, 0, 3), (0, 0, 11, 0, 0), (0, 0, 12, 0, 0), (2, 600, 11, 0, 12), (0, 0, 13, 0, 0), (2, 601, 11, 0, 13), (2, 1106, 0, 0, 11), (0, 0, 14, 0, 0), (0, 0, 15, 0, 0), (2, 200, 14, 0, 15), (0, 0, 16, 0, 0), (2, 201, 14, 0, 16), (2, 1107, 0, 0, 14), (0, 0, 17, 0, 0), (0, 0, 18, 0, 0), (2, 700, 17, 0, 18), (0, 0, 19, 0, 0), (2, 701, 17, 0, 19), (0, 0, 20, 0, 0), (2, 702, 17, 0, 20), (2, 1108, 0, 0, 17), (0, 0, 21, 0, 0), (2, 1109, 0, 0, 21), (0, 0, 22, 0, 0), (2, 1110, 0, 0, 22), (0, 0, 23, 0, 0), (0, 0, 24, 0, 0), (2, 1000, 23, 0, 24), (0, 0, 25, 0, 0), (2, 1001, 23, 0, 25), (0, 0, 26, 0, 0), (2, 1002, 23, 0, 26), (0, 0, 27, 0, 0), (2, 1003, 23, 0, 27), (0, 0, 28, 0, 0), (2, 1004, 23, 0, 28), (0, 0, 29, 0, 0), (2, 1005, 23, 0, 29), (0, 0, 30, 0, 0), (2, 1006, 23, 0, 30), (0, 0, 31, 0, 0), (2, 1007, 23, 0, 31), (0, 0, 32, 0, 0), (2, 1008, 23, 0, 32), (0, 0, 33, 0, 0), (2, 1009, 23, 0, 33), (0, 0, 34, 0, 0), (2, 1010, 23, 0, 34), (0, 0, 35, 0, 0), (2, 1011, 23, 0, 35), (2, 1111, 0, 0, 23), (0, 0, 36, 0, 0), (0, 0, 37, 0, 0), (2, 1000, 36, 0, 37), (0, 0, 38, 0, 0), (2, 1001, 36, 0, 38), (0, 0, 39, 0, 0), (2, 1002, 36, 0, 39), (0, 0, 40, 0, 0), (2, 1003, 36, 0, 40), (0, 0, 41, 0, 0), (2, 1004, 36, 0, 41), (0, 0, 42, 0, 0), (2, 1005, 36, 0, 42), (0, 0, 43, 0, 0), (2, 1006, 36, 0, 43), (0, 0, 44, 0, 0), (2, 1007, 36, 0, 44), (0, 0, 45, 0, 0), (2, 1008, 36, 0, 45), (0, 0, 46, 0, 0), (2, 1009, 36, 0, 46), (0, 0, 47, 0, 0), (2, 1010, 36, 0, 47), (0, 0, 48, 0, 0), (2, 1011, 36, 0, 48), (2, 1112, 0, 0, 36), (0, 0, 49, 0, 0), (0, 0, 50, 0, 0), (2, 500, 49, 0, 50), (2, 501, 49, 0, 1), (2, 509, 49, 0, 36), (1, 508, 49, (-1), 0), (2, 1101, 0, 0, 49)]
def mmO (c : Nat) (μ : zM) : zM := mops.foldl (apO c) μ
def xmO (c : Nat) (μ : zM) : zM := xops.foldl (apO c) μ
def nF (l : List mOp) (k d : Nat) (v : Int32) : Int32 := l.foldl (fun v p => if p.1 = 0 then (if d = p.2.2.1 then 0 else v) else if p.1 = 1 then (if k = p.2.1 ∧ d = p.2.2.1 then p.2.2.2.1 else v) else v) v
def nR (c : Nat) (l : List mOp) (k d : Nat) (v : Option Nat) : Option Nat := l.foldl (fun v p => if p.1 = 0 then (if d = p.2.2.1 then none else v) else if p.1 = 2 then (if k = p.2.1 ∧ d = p.2.2.1 then some (c + p.2.2.2.2) else v) else v) v
def nA (l : List mOp) (d j : Nat) (v : Int32) : Int32 := l.foldl (fun v p => if p.1 = 0 then (if d = p.2.2.1 then 0 else v) else if p.1 = 3 then (if d = p.2.2.1 ∧ j = p.2.1 then p.2.2.2.1 else v) else v) v
section zF0
variable {c k d j a n m t : Nat} {μ : zM} {Sh : zSh} {l : List mOp}
theorem lkF : ∀ (l : List mOp) (μ : zM), gF (l.foldl (apO c) μ) k (c + d) = nF l k d (gF μ k (c + d))
  | [], _ => rfl
  | p :: l, μ => by
    show gF (l.foldl (apO c) (apO c μ p)) k (c + d) = nF l k d (if p.1 = 0 then (if d = p.2.2.1 then 0 else gF μ k (c + d)) else if p.1 = 1 then (if k = p.2.1 ∧ d = p.2.2.1 then p.2.2.2.1 else gF μ k (c + d)) else gF μ k (c + d))
    rw [lkF l]
    refine congrArg (nF l k d) ?_
    unfold apO
    by_cases h0 : p.1 = 0
    · rw [if_pos h0, if_pos h0, gF_zz]
      by_cases h : d = p.2.2.1
      · rw [if_pos h, if_pos (by omega)]
      · rw [if_neg h, if_neg (by omega)]
    · rw [if_neg h0, if_neg h0]
      by_cases h1 : p.1 = 1
      · rw [if_pos h1, if_pos h1, gF_sF]
        by_cases h : k = p.2.1 ∧ d = p.2.2.1
        · rw [if_pos h, if_pos (by omega)]
        · rw [if_neg h, if_neg (by omega)]
      · rw [if_neg h1, if_neg h1]
        by_cases h2 : p.1 = 2
        · rw [if_pos h2]; rfl
        · rw [if_neg h2]
          by_cases h3 : p.1 = 3
          · rw [if_pos h3]; rfl
          · rw [if_neg h3]; rfl
theorem lkR : ∀ (l : List mOp) (μ : zM), gR (l.foldl (apO c) μ) k (c + d) = nR c l k d (gR μ k (c + d))
  | [], _ => rfl
  | p :: l, μ => by
    show gR (l.foldl (apO c) (apO c μ p)) k (c + d) = nR c l k d (if p.1 = 0 then (if d = p.2.2.1 then none else gR μ k (c + d)) else if p.1 = 2 then (if k = p.2.1 ∧ d = p.2.2.1 then some (c + p.2.2.2.2) else gR μ k (c + d)) else gR μ k (c + d))
    rw [lkR l]
    refine congrArg (nR c l k d) ?_
    unfold apO
    by_cases h0 : p.1 = 0
    · rw [if_pos h0, if_pos h0, gR_zz]
      by_cases h : d = p.2.2.1
      · rw [if_pos h, if_pos (by omega)]
      · rw [if_neg h, if_neg (by omega)]
    · rw [if_neg h0, if_neg h0]
      by_cases h1 : p.1 = 1
      · rw [if_pos h1, if_neg (by omega)]; rfl
      · rw [if_neg h1]
        by_cases h2 : p.1 = 2
        · rw [if_pos h2, if_pos h2, gR_sR]
          by_cases h : k = p.2.1 ∧ d = p.2.2.1
          · rw [if_pos h, if_pos (by omega)]
          · rw [if_neg h, if_neg (by omega)]
        · rw [if_neg h2, if_neg h2]
          by_cases h3 : p.1 = 3
          · rw [if_pos h3]; rfl
          · rw [if_neg h3]; rfl
theorem lkA : ∀ (l : List mOp) (μ : zM), gA (l.foldl (apO c) μ) (c + d) j = nA l d j (gA μ (c + d) j)
  | [], _ => rfl
  | p :: l, μ => by
    show gA (l.foldl (apO c) (apO c μ p)) (c + d) j = nA l d j (if p.1 = 0 then (if d = p.2.2.1 then 0 else gA μ (c + d) j) else if p.1 = 3 then (if d = p.2.2.1 ∧ j = p.2.1 then p.2.2.2.1 else gA μ (c + d) j) else gA μ (c + d) j)
    rw [lkA l]
    refine congrArg (nA l d j) ?_
    unfold apO
    by_cases h0 : p.1 = 0
    · rw [if_pos h0, if_pos h0, gA_zz]
      by_cases h : d = p.2.2.1
      · rw [if_pos h, if_pos (by omega)]
      · rw [if_neg h, if_neg (by omega)]
    · rw [if_neg h0, if_neg h0]
      by_cases h1 : p.1 = 1
      · rw [if_pos h1, if_neg (by omega)]; rfl
      · rw [if_neg h1]
        by_cases h2 : p.1 = 2
        · rw [if_pos h2, if_neg (by omega)]; rfl
        · rw [if_neg h2]
          by_cases h3 : p.1 = 3
          · rw [if_pos h3, if_pos h3, gA_sA]
            by_cases h : d = p.2.2.1 ∧ j = p.2.1
            · rw [if_pos h, if_pos (by omega)]
            · rw [if_neg h, if_neg (by omega)]
          · rw [if_neg h3, if_neg h3]; rfl
/-- what never was true -/
theorem lkB (h : ∀ k a, gB μ k a = false) : ∀ (l : List mOp) (k a : Nat), gB (l.foldl (apO c) μ) k a = false := by
  intro l
  induction l generalizing μ with
  | nil => exact h
  | cons p l ih =>
    refine ih (μ := apO c μ p) (fun k a => ?_)
    unfold apO
    by_cases h0 : p.1 = 0
    · rw [if_pos h0, gB_zz, h, ite_self]
    · rw [if_neg h0]
      by_cases h1 : p.1 = 1
      · rw [if_pos h1]; exact h k a
      · rw [if_neg h1]
        by_cases h2 : p.1 = 2
        · rw [if_pos h2]; exact h k a
        · rw [if_neg h2]
          by_cases h3 : p.1 = 3
          · rw [if_pos h3]; exact h k a
          · rw [if_neg h3, gB_sB, h, ite_self]
theorem lkZ (h : ∀ a j, gZ μ a j = false) : ∀ (l : List mOp) (a j : Nat), gZ (l.foldl (apO c) μ) a j = false := by
  intro l
  induction l generalizing μ with
  | nil => exact h
  | cons p l ih =>
    refine ih (μ := apO c μ p) (fun k a => ?_)
    unfold apO
    by_cases h0 : p.1 = 0
    · rw [if_pos h0, gZ_zz, h, ite_self]
    · rw [if_neg h0]
      by_cases h1 : p.1 = 1
      · rw [if_pos h1]; exact h k a
      · rw [if_neg h1]
        by_cases h2 : p.1 = 2
        · rw [if_pos h2]; exact h k a
        · rw [if_neg h2]
          by_cases h3 : p.1 = 3
          · rw [if_pos h3]; exact h k a
          · rw [if_neg h3]; exact h k a
theorem lkX (h : ∀ a j, gX μ a j = none) : ∀ (l : List mOp) (a j : Nat), gX (l.foldl (apO c) μ) a j = none := by
  intro l
  induction l generalizing μ with
  | nil => exact h
  | cons p l ih =>
    refine ih (μ := apO c μ p) (fun k a => ?_)
    unfold apO
    by_cases h0 : p.1 = 0
    · rw [if_pos h0, gX_zz, h, ite_self]
    · rw [if_neg h0]
      by_cases h1 : p.1 = 1
      · rw [if_pos h1]; exact h k a
      · rw [if_neg h1]
        by_cases h2 : p.1 = 2
        · rw [if_pos h2]; exact h k a
        · rw [if_neg h2]
          by_cases h3 : p.1 = 3
          · rw [if_pos h3]; exact h k a
          · rw [if_neg h3]; exact h k a
/-- cells before it stay -/
theorem apO_SA {p : mOp} (ha : a < c) : SA a μ (apO c μ p) := by
  unfold apO
  by_cases h0 : p.1 = 0
  · rw [if_pos h0]
    exact ⟨fun k => by rw [gF_zz, if_neg (by omega)], fun k => by rw [gB_zz, if_neg (by omega)], fun k => by rw [gR_zz, if_neg (by omega)], fun j => by rw [gA_zz, if_neg (by omega)], fun j => by rw [gZ_zz, if_neg (by omega)], fun j => by rw [gX_zz, if_neg (by omega)]⟩
  · rw [if_neg h0]
    by_cases h1 : p.1 = 1
    · rw [if_pos h1]
      exact ⟨fun k => by rw [gF_sF, if_neg (by omega)], fun k => rfl, fun k => rfl, fun j => rfl, fun j => rfl, fun j => rfl⟩
    · rw [if_neg h1]
      by_cases h2 : p.1 = 2
      · rw [if_pos h2]
        exact ⟨fun k => rfl, fun k => rfl, fun k => by rw [gR_sR, if_neg (by omega)], fun j => rfl, fun j => rfl, fun j => rfl⟩
      · rw [if_neg h2]
        by_cases h3 : p.1 = 3
        · rw [if_pos h3]
          exact ⟨fun k => rfl, fun k => rfl, fun k => rfl, fun j => by rw [gA_sA, if_neg (by omega)], fun j => rfl, fun j => rfl⟩
        · rw [if_neg h3]
          exact ⟨fun k => rfl, fun k => by rw [gB_sB, if_neg (by omega)], fun k => rfl, fun j => rfl, fun j => rfl, fun j => rfl⟩
theorem lk_SA (ha : a < c) : ∀ (l : List mOp) (μ : zM), SA a μ (l.foldl (apO c) μ)
  | [], _ => SA.rf
  | p :: l, μ => (apO_SA (p := p) ha).tr (lk_SA ha l (apO c μ p))
end zF0
set_option maxRecDepth 20000 in
theorem xm_eq (μ : zM) (x : Nat) : xm11 μ x = xmO x μ := rfl
