/-! THE CONSTRUCTOR OF STATE, in closed form -/
def stT (d : Nat) : Nat × Nat := if d = 0 then (15, 0) else if d = 1 then (3, 8) else if d = 2 then (4, 28) else if d = 3 then (5, 84) else if d = 4 then (2, 14) else if d = 5 then (1, 8) else if d = 6 then (1, 64) else if d = 7 then (1, 64) else if d = 8 then (1, 160) else if d = 9 then (2, 8) else if d < 13 then (16, 0) else if d < 37 then (if (d - 13) % 3 = 0 then (7, 0) else (16, 0)) else if d < 93 then (if (d - 37) % 2 = 0 then (11, 0) else (16, 0)) else (if (d - 93) % 2 = 0 then (10, 0) else (16, 0))
def shP (Sh : zSh) (s n : Nat) : zSh := fun a => if s ≤ a ∧ a < s + n then stT (a - s) else Sh a
def rfP (s w r d k : Nat) : Option Nat := if d = 0 then (if 800 ≤ k ∧ k < 800 + r then (if k = 812 then some w else some (s + (k - 799))) else none) else if d < 13 then none else if d < 37 then (if (d - 13) % 3 = 0 then (if k = 1 then some (s + d + 1) else if k = 2 then some (s + d + 2) else none) else none) else if d < 93 then (if (d - 37) % 2 = 0 ∧ k = 400 then some (s + d + 1) else none) else (if (d - 93) % 2 = 0 ∧ k = 300 then some (s + d + 1) else none)
def fiP (d k : Nat) : Int32 := if k = 0 ∧ 13 ≤ d ∧ d < 37 ∧ (d - 13) % 3 = 0 then nI ((d - 13) / 3) else 0
def xrP (s b p m d j : Nat) : Option Nat := if d = 1 ∧ j < b then some (s + 13 + 3 * j) else if d = 2 ∧ j < p then some (s + 37 + 2 * j) else if d = 3 ∧ j < m then some (s + 93 + 2 * j) else none
/-- n cells of a State at s: r fields, b bridges, p ports, m messages told -/
def muP (μ : zM) (s w n r b p m : Nat) : zM := (fun k a => if s ≤ a ∧ a < s + n then fiP (a - s) k else gF μ k a, fun a j => if s ≤ a ∧ a < s + n then 0 else gA μ a j, fun k a => if s ≤ a ∧ a < s + n then false else gB μ k a, fun a j => if s ≤ a ∧ a < s + n then false else gZ μ a j, fun k a => if s ≤ a ∧ a < s + n then rfP s w r (a - s) k else gR μ k a, fun a j => if s ≤ a ∧ a < s + n then xrP s b p m (a - s) j else gX μ a j)
section zSt
variable {Sh : zSh} {s w n r b p m a t k j : Nat} {μ ν : zM}
theorem zM_ext (h1 : ∀ k a, gF μ k a = gF ν k a) (h2 : ∀ a j, gA μ a j = gA ν a j) (h3 : ∀ k a, gB μ k a = gB ν k a) (h4 : ∀ a j, gZ μ a j = gZ ν a j) (h5 : ∀ k a, gR μ k a = gR ν k a) (h6 : ∀ a j, gX μ a j = gX ν a j) : μ = ν := by
  obtain ⟨a1, a2, a3, a4, a5, a6⟩ := μ
  obtain ⟨b1, b2, b3, b4, b5, b6⟩ := ν
  have e1 : a1 = b1 := funext fun k => funext fun a => h1 k a
  have e2 : a2 = b2 := funext fun k => funext fun a => h2 k a
  have e3 : a3 = b3 := funext fun k => funext fun a => h3 k a
  have e4 : a4 = b4 := funext fun k => funext fun a => h4 k a
  have e5 : a5 = b5 := funext fun k => funext fun a => h5 k a
  have e6 : a6 = b6 := funext fun k => funext fun a => h6 k a
  subst e1 e2 e3 e4 e5 e6
  rfl
theorem gF_zz {q : Nat} : gF (zz μ a) k q = if q = a then 0 else gF μ k q := rfl
theorem gA_zz {q : Nat} : gA (zz μ a) q j = if q = a then 0 else gA μ q j := rfl
theorem gB_zz {q : Nat} : gB (zz μ a) k q = if q = a then false else gB μ k q := rfl
theorem gZ_zz {q : Nat} : gZ (zz μ a) q j = if q = a then false else gZ μ q j := rfl
theorem gR_zz {q : Nat} : gR (zz μ a) k q = if q = a then none else gR μ k q := rfl
theorem gX_zz {q : Nat} : gX (zz μ a) q j = if q = a then none else gX μ q j := rfl
theorem gF_sX {v : Option Nat} {q : Nat} : gF (sX μ a j v) k q = gF μ k q := rfl
theorem gA_sX {v : Option Nat} {q i : Nat} : gA (sX μ a j v) q i = gA μ q i := rfl
theorem gB_sX {v : Option Nat} {q : Nat} : gB (sX μ a j v) k q = gB μ k q := rfl
theorem gZ_sX {v : Option Nat} {q i : Nat} : gZ (sX μ a j v) q i = gZ μ q i := rfl
theorem gR_sX {v : Option Nat} {q : Nat} : gR (sX μ a j v) k q = gR μ k q := rfl
theorem gX_sX {v : Option Nat} {q i : Nat} : gX (sX μ a j v) q i = if q = a ∧ i = j then v else gX μ q i := rfl
theorem gF_mP : gF (muP μ s w n r b p m) k a = if s ≤ a ∧ a < s + n then fiP (a - s) k else gF μ k a := rfl
theorem gA_mP : gA (muP μ s w n r b p m) a j = if s ≤ a ∧ a < s + n then 0 else gA μ a j := rfl
theorem gB_mP : gB (muP μ s w n r b p m) k a = if s ≤ a ∧ a < s + n then false else gB μ k a := rfl
theorem gZ_mP : gZ (muP μ s w n r b p m) a j = if s ≤ a ∧ a < s + n then false else gZ μ a j := rfl
theorem gR_mP : gR (muP μ s w n r b p m) k a = if s ≤ a ∧ a < s + n then rfP s w r (a - s) k else gR μ k a := rfl
theorem gX_mP : gX (muP μ s w n r b p m) a j = if s ≤ a ∧ a < s + n then xrP s b p m (a - s) j else gX μ a j := rfl
theorem shP_s (h : a = s + n) {u : Nat} (ht : stT n = (t, u)) : zSu (shP Sh s n) a t u = shP Sh s (n + 1) := by
  subst h
  funext q
  unfold zSu shP
  by_cases c : q = s + n
  · subst c
    rw [if_pos rfl, if_pos (by omega), Nat.add_sub_cancel_left, ht]
  · rw [if_neg c]
    by_cases c2 : s ≤ q ∧ q < s + n
    · rw [if_pos c2, if_pos (by omega)]
    · rw [if_neg c2, if_neg (by omega)]
theorem shP_in (h : a < n) : shP Sh s n (s + a) = stT a := by
  unfold shP
  rw [if_pos (by omega), Nat.add_sub_cancel_left]
theorem shP_0 (h : 0 < n) : shP Sh s n s = (15, 0) := by
  unfold shP
  rw [if_pos (by omega), Nat.sub_self]; rfl
theorem shP_out (h : a < s ∨ s + n ≤ a) : shP Sh s n a = Sh a := by
  unfold shP
  rw [if_neg (by omega)]
theorem muP_1 : zz μ s = muP μ s w 1 0 0 0 0 := by
  refine zM_ext (fun k a => ?_) (fun a j => ?_) (fun k a => ?_) (fun a j => ?_) (fun k a => ?_) (fun a j => ?_)
  · rw [gF_zz, gF_mP]
    by_cases c : a = s
    · subst c; rw [if_pos rfl, if_pos (by omega), Nat.sub_self]; unfold fiP; rw [if_neg (by omega)]
    · rw [if_neg c, if_neg (by omega)]
  · rw [gA_zz, gA_mP]
    by_cases c : a = s
    · rw [if_pos c, if_pos (by omega)]
    · rw [if_neg c, if_neg (by omega)]
  · rw [gB_zz, gB_mP]
    by_cases c : a = s
    · rw [if_pos c, if_pos (by omega)]
    · rw [if_neg c, if_neg (by omega)]
  · rw [gZ_zz, gZ_mP]
    by_cases c : a = s
    · rw [if_pos c, if_pos (by omega)]
    · rw [if_neg c, if_neg (by omega)]
  · rw [gR_zz, gR_mP]
    by_cases c : a = s
    · subst c; rw [if_pos rfl, if_pos (by omega), Nat.sub_self]; unfold rfP; rw [if_pos rfl, if_neg (by omega)]
    · rw [if_neg c, if_neg (by omega)]
  · rw [gX_zz, gX_mP]
    by_cases c : a = s
    · subst c; rw [if_pos rfl, if_pos (by omega), Nat.sub_self]; unfold xrP; rw [if_neg (by omega), if_neg (by omega), if_neg (by omega)]
    · rw [if_neg c, if_neg (by omega)]
theorem muP_f {i : Nat} (hi : i < 12) : sR (zz (muP μ s w (i + 1) i 0 0 0) (s + (i + 1))) (800 + i) s (some (s + (i + 1))) = muP μ s w (i + 2) (i + 1) 0 0 0 := by
  refine zM_ext (fun k a => ?_) (fun a j => ?_) (fun k a => ?_) (fun a j => ?_) (fun k a => ?_) (fun a j => ?_)
  · rw [gF_sR, gF_zz, gF_mP, gF_mP]
    by_cases c : a = s + (i + 1)
    · subst c; rw [if_pos rfl, if_pos (by omega), Nat.add_sub_cancel_left]; unfold fiP; rw [if_neg (by omega)]
    · rw [if_neg c]
      by_cases c2 : s ≤ a ∧ a < s + (i + 1)
      · rw [if_pos c2, if_pos (by omega)]
      · rw [if_neg c2, if_neg (by omega)]
  · rw [gA_sR, gA_zz, gA_mP, gA_mP]
    by_cases c : a = s + (i + 1)
    · rw [if_pos c, if_pos (by omega)]
    · rw [if_neg c]
      by_cases c2 : s ≤ a ∧ a < s + (i + 1)
      · rw [if_pos c2, if_pos (by omega)]
      · rw [if_neg c2, if_neg (by omega)]
  · rw [gB_sR, gB_zz, gB_mP, gB_mP]
    by_cases c : a = s + (i + 1)
    · rw [if_pos c, if_pos (by omega)]
    · rw [if_neg c]
      by_cases c2 : s ≤ a ∧ a < s + (i + 1)
      · rw [if_pos c2, if_pos (by omega)]
      · rw [if_neg c2, if_neg (by omega)]
  · rw [gZ_sR, gZ_zz, gZ_mP, gZ_mP]
    by_cases c : a = s + (i + 1)
    · rw [if_pos c, if_pos (by omega)]
    · rw [if_neg c]
      by_cases c2 : s ≤ a ∧ a < s + (i + 1)
      · rw [if_pos c2, if_pos (by omega)]
      · rw [if_neg c2, if_neg (by omega)]
  · by_cases c : a = s + (i + 1)
    · subst c
      rw [gR_sR, if_neg (by omega), gR_zz, if_pos rfl, gR_mP, if_pos (by omega), Nat.add_sub_cancel_left]
      unfold rfP
      rw [if_neg (by omega), if_pos (by omega)]
    · by_cases c2 : a = s
      · subst c2
        by_cases c3 : k = 800 + i
        · rw [gR_sR, if_pos ⟨c3, rfl⟩, gR_mP, if_pos (by omega), Nat.sub_self]
          unfold rfP
          rw [if_pos rfl, if_pos (by omega), if_neg (by omega), c3]
          exact congrArg some (by omega)
        · rw [gR_sR, if_neg (by omega), gR_zz, if_neg c, gR_mP, if_pos (by omega), gR_mP, if_pos (by omega), Nat.sub_self]
          unfold rfP
          rw [if_pos rfl, if_pos rfl]
          by_cases c4 : 800 ≤ k ∧ k < 800 + i
          · rw [if_pos c4, if_pos (show 800 ≤ k ∧ k < 800 + (i + 1) by omega)]
          · rw [if_neg c4, if_neg (show ¬ (800 ≤ k ∧ k < 800 + (i + 1)) by omega)]
      · rw [gR_sR, if_neg (by omega), gR_zz, if_neg c, gR_mP, gR_mP]
        by_cases c3 : s ≤ a ∧ a < s + (i + 1)
        · rw [if_pos c3, if_pos (by omega)]
          have c5 : a - s ≠ 0 := by omega
          have c6 : a - s < 13 := by omega
          unfold rfP
          rw [if_neg c5, if_pos c6, if_neg c5]
        · rw [if_neg c3, if_neg (by omega)]
  · rw [gX_sR, gX_zz, gX_mP, gX_mP]
    by_cases c : a = s + (i + 1)
    · subst c; rw [if_pos rfl, if_pos (by omega)]; unfold xrP; rw [if_neg (by omega), if_neg (by omega), if_neg (by omega)]
    · rw [if_neg c]
      by_cases c2 : s ≤ a ∧ a < s + (i + 1)
      · rw [if_pos c2, if_pos (by omega)]
      · rw [if_neg c2, if_neg (by omega)]
theorem muP_w : sR (muP μ s w 13 12 0 0 0) 812 s (some w) = muP μ s w 13 13 0 0 0 := by
  refine zM_ext (fun k a => rfl) (fun a j => rfl) (fun k a => rfl) (fun a j => rfl) (fun k a => ?_) (fun a j => rfl)
  by_cases c2 : a = s
  · subst c2
    by_cases c3 : k = 812
    · rw [gR_sR, if_pos ⟨c3, rfl⟩, gR_mP, if_pos (by omega), Nat.sub_self]
      unfold rfP
      rw [if_pos rfl, if_pos (by omega), if_pos c3]
    · rw [gR_sR, if_neg (by omega), gR_mP, if_pos (by omega), gR_mP, if_pos (by omega), Nat.sub_self]
      unfold rfP
      rw [if_pos rfl, if_pos rfl]
      by_cases c4 : 800 ≤ k ∧ k < 800 + 12
      · rw [if_pos c4, if_pos (show 800 ≤ k ∧ k < 800 + 13 by omega)]
      · rw [if_neg c4, if_neg (show ¬ (800 ≤ k ∧ k < 800 + 13) by omega)]
  · rw [gR_sR, if_neg (by omega), gR_mP, gR_mP]
    by_cases c3 : s ≤ a ∧ a < s + 13
    · rw [if_pos c3, if_pos c3]
      have c5 : a - s ≠ 0 := by omega
      have c6 : a - s < 13 := by omega
      unfold rfP
      rw [if_neg c5, if_pos c6, if_neg c5]
    · rw [if_neg c3, if_neg c3]

theorem muP_b (hj : j < 8) : sX (sF (sR (zz (sR (zz (zz (muP μ s w (13 + 3 * j) 13 j 0 0) (s + (13 + 3 * j))) (s + (13 + 3 * j) + 1)) 1 (s + (13 + 3 * j)) (some (s + (13 + 3 * j) + 1))) (s + (13 + 3 * j) + 2)) 2 (s + (13 + 3 * j)) (some (s + (13 + 3 * j) + 2))) 0 (s + (13 + 3 * j)) (nI j)) (s + 1) j (some (s + (13 + 3 * j))) = muP μ s w (13 + 3 * (j + 1)) 13 (j + 1) 0 0 := by
  refine zM_ext (fun k a => ?_) (fun a i => ?_) (fun k a => ?_) (fun a i => ?_) (fun k a => ?_) (fun a i => ?_)
  · by_cases ca : a < (s + (13 + 3 * j)) ∨ (s + (13 + 3 * j)) + 3 ≤ a
    · rw [gF_sX, gF_sF, if_neg (by omega), gF_sR, gF_zz, if_neg (by omega), gF_sR, gF_zz, if_neg (by omega), gF_zz, if_neg (by omega), gF_mP, gF_mP]
      by_cases c : s ≤ a ∧ a < (s + (13 + 3 * j))
      · rw [if_pos c, if_pos (by omega)]
      · rw [if_neg c, if_neg (by omega)]
    · have cs : a = (s + (13 + 3 * j)) ∨ a = (s + (13 + 3 * j)) + 1 ∨ a = (s + (13 + 3 * j)) + 2 := by omega
      rcases cs with rfl | rfl | rfl
      · by_cases kz : k = 0
        · subst kz
          rw [gF_sX, gF_sF, if_pos ⟨rfl, rfl⟩, gF_mP, if_pos (by omega)]
          unfold fiP
          rw [if_pos (by omega)]; congr 1; omega
        · rw [gF_sX, gF_sF, if_neg (by omega), gF_sR, gF_zz, if_neg (by omega), gF_sR, gF_zz, if_neg (by omega), gF_zz, if_pos rfl, gF_mP, if_pos (by omega)]
          unfold fiP
          rw [if_neg (by omega)]
      · rw [gF_sX, gF_sF, if_neg (by omega), gF_sR, gF_zz, if_neg (by omega), gF_sR, gF_zz, if_pos rfl, gF_mP, if_pos (by omega)]
        unfold fiP
        rw [if_neg (by omega)]
      · rw [gF_sX, gF_sF, if_neg (by omega), gF_sR, gF_zz, if_pos rfl, gF_mP, if_pos (by omega)]
        unfold fiP
        rw [if_neg (by omega)]
  · by_cases ca : a < (s + (13 + 3 * j)) ∨ (s + (13 + 3 * j)) + 3 ≤ a
    · rw [gA_sX, gA_sF, gA_sR, gA_zz, if_neg (by omega), gA_sR, gA_zz, if_neg (by omega), gA_zz, if_neg (by omega), gA_mP, gA_mP]
      by_cases c : s ≤ a ∧ a < (s + (13 + 3 * j))
      · rw [if_pos c, if_pos (by omega)]
      · rw [if_neg c, if_neg (by omega)]
    · have cs : a = (s + (13 + 3 * j)) ∨ a = (s + (13 + 3 * j)) + 1 ∨ a = (s + (13 + 3 * j)) + 2 := by omega
      rcases cs with rfl | rfl | rfl
      · rw [gA_sX, gA_sF, gA_sR, gA_zz, if_neg (by omega), gA_sR, gA_zz, if_neg (by omega), gA_zz, if_pos rfl, gA_mP, if_pos (by omega)]
      · rw [gA_sX, gA_sF, gA_sR, gA_zz, if_neg (by omega), gA_sR, gA_zz, if_pos rfl, gA_mP, if_pos (by omega)]
      · rw [gA_sX, gA_sF, gA_sR, gA_zz, if_pos rfl, gA_mP, if_pos (by omega)]
  · by_cases ca : a < (s + (13 + 3 * j)) ∨ (s + (13 + 3 * j)) + 3 ≤ a
    · rw [gB_sX, gB_sF, gB_sR, gB_zz, if_neg (by omega), gB_sR, gB_zz, if_neg (by omega), gB_zz, if_neg (by omega), gB_mP, gB_mP]
      by_cases c : s ≤ a ∧ a < (s + (13 + 3 * j))
      · rw [if_pos c, if_pos (by omega)]
      · rw [if_neg c, if_neg (by omega)]
    · have cs : a = (s + (13 + 3 * j)) ∨ a = (s + (13 + 3 * j)) + 1 ∨ a = (s + (13 + 3 * j)) + 2 := by omega
      rcases cs with rfl | rfl | rfl
      · rw [gB_sX, gB_sF, gB_sR, gB_zz, if_neg (by omega), gB_sR, gB_zz, if_neg (by omega), gB_zz, if_pos rfl, gB_mP, if_pos (by omega)]
      · rw [gB_sX, gB_sF, gB_sR, gB_zz, if_neg (by omega), gB_sR, gB_zz, if_pos rfl, gB_mP, if_pos (by omega)]
      · rw [gB_sX, gB_sF, gB_sR, gB_zz, if_pos rfl, gB_mP, if_pos (by omega)]
  · by_cases ca : a < (s + (13 + 3 * j)) ∨ (s + (13 + 3 * j)) + 3 ≤ a
    · rw [gZ_sX, gZ_sF, gZ_sR, gZ_zz, if_neg (by omega), gZ_sR, gZ_zz, if_neg (by omega), gZ_zz, if_neg (by omega), gZ_mP, gZ_mP]
      by_cases c : s ≤ a ∧ a < (s + (13 + 3 * j))
      · rw [if_pos c, if_pos (by omega)]
      · rw [if_neg c, if_neg (by omega)]
    · have cs : a = (s + (13 + 3 * j)) ∨ a = (s + (13 + 3 * j)) + 1 ∨ a = (s + (13 + 3 * j)) + 2 := by omega
      rcases cs with rfl | rfl | rfl
      · rw [gZ_sX, gZ_sF, gZ_sR, gZ_zz, if_neg (by omega), gZ_sR, gZ_zz, if_neg (by omega), gZ_zz, if_pos rfl, gZ_mP, if_pos (by omega)]
      · rw [gZ_sX, gZ_sF, gZ_sR, gZ_zz, if_neg (by omega), gZ_sR, gZ_zz, if_pos rfl, gZ_mP, if_pos (by omega)]
      · rw [gZ_sX, gZ_sF, gZ_sR, gZ_zz, if_pos rfl, gZ_mP, if_pos (by omega)]
  · by_cases ca : a < (s + (13 + 3 * j)) ∨ (s + (13 + 3 * j)) + 3 ≤ a
    · rw [gR_sX, gR_sF, gR_sR, if_neg (by omega), gR_zz, if_neg (by omega), gR_sR, if_neg (by omega), gR_zz, if_neg (by omega), gR_zz, if_neg (by omega), gR_mP, gR_mP]
      by_cases c : s ≤ a ∧ a < (s + (13 + 3 * j))
      · rw [if_pos c, if_pos (by omega)]
      · rw [if_neg c, if_neg (by omega)]
    · have cs : a = (s + (13 + 3 * j)) ∨ a = (s + (13 + 3 * j)) + 1 ∨ a = (s + (13 + 3 * j)) + 2 := by omega
      rcases cs with rfl | rfl | rfl
      · by_cases k2 : k = 2
        · subst k2
          rw [gR_sX, gR_sF, gR_sR, if_pos ⟨rfl, rfl⟩, gR_mP, if_pos (by omega)]
          unfold rfP
          rw [if_neg (by omega), if_neg (by omega), if_pos (by omega), if_pos (by omega), if_neg (by omega), if_pos rfl]; congr 1; omega
        · by_cases k1 : k = 1
          · subst k1
            rw [gR_sX, gR_sF, gR_sR, if_neg (by omega), gR_zz, if_neg (by omega), gR_sR, if_pos ⟨rfl, rfl⟩, gR_mP, if_pos (by omega)]
            unfold rfP
            rw [if_neg (by omega), if_neg (by omega), if_pos (by omega), if_pos (by omega), if_pos rfl]; congr 1; omega
          · rw [gR_sX, gR_sF, gR_sR, if_neg (by omega), gR_zz, if_neg (by omega), gR_sR, if_neg (by omega), gR_zz, if_neg (by omega), gR_zz, if_pos rfl, gR_mP, if_pos (by omega)]
            unfold rfP
            rw [if_neg (by omega), if_neg (by omega), if_pos (by omega), if_pos (by omega), if_neg k1, if_neg k2]
      · rw [gR_sX, gR_sF, gR_sR, if_neg (by omega), gR_zz, if_neg (by omega), gR_sR, if_neg (by omega), gR_zz, if_pos rfl, gR_mP, if_pos (by omega)]
        unfold rfP
        rw [if_neg (by omega), if_neg (by omega), if_pos (by omega), if_neg (by omega)]
      · rw [gR_sX, gR_sF, gR_sR, if_neg (by omega), gR_zz, if_pos rfl, gR_mP, if_pos (by omega)]
        unfold rfP
        rw [if_neg (by omega), if_neg (by omega), if_pos (by omega), if_neg (by omega)]
  · by_cases ca : a < (s + (13 + 3 * j)) ∨ (s + (13 + 3 * j)) + 3 ≤ a
    · by_cases cr : a = s + 1 ∧ i = j
      · obtain ⟨rfl, rfl⟩ := cr
        rw [gX_sX, if_pos ⟨rfl, rfl⟩, gX_mP, if_pos (by omega), Nat.add_sub_cancel_left]
        unfold xrP
        rw [if_pos (by omega)]; congr 1; omega
      · rw [gX_sX, if_neg cr, gX_sF, gX_sR, gX_zz, if_neg (by omega), gX_sR, gX_zz, if_neg (by omega), gX_zz, if_neg (by omega), gX_mP, gX_mP]
        by_cases c : s ≤ a ∧ a < (s + (13 + 3 * j))
        · rw [if_pos c, if_pos (by omega)]
          unfold xrP
          by_cases d : a - s = 1
          · have hi : i ≠ j := fun z => cr ⟨by omega, z⟩
            skip
            by_cases q : i < j
            · rw [if_pos (by omega), if_pos (by omega)]
            · repeat rw [if_neg (by omega)]
          · have e : (a - s = 1 ∧ i < j) = (a - s = 1 ∧ i < j + 1) := by
              apply propext; constructor <;> intro z <;> exact absurd z.1 d
            simp only [e]
        · rw [if_neg c, if_neg (by omega)]
    · have cs : a = (s + (13 + 3 * j)) ∨ a = (s + (13 + 3 * j)) + 1 ∨ a = (s + (13 + 3 * j)) + 2 := by omega
      rcases cs with rfl | rfl | rfl
      · rw [gX_sX, if_neg (by omega), gX_sF, gX_sR, gX_zz, if_neg (by omega), gX_sR, gX_zz, if_neg (by omega), gX_zz, if_pos rfl, gX_mP, if_pos (by omega)]
        unfold xrP
        rw [if_neg (by omega), if_neg (by omega), if_neg (by omega)]
      · rw [gX_sX, if_neg (by omega), gX_sF, gX_sR, gX_zz, if_neg (by omega), gX_sR, gX_zz, if_pos rfl, gX_mP, if_pos (by omega)]
        unfold xrP
        rw [if_neg (by omega), if_neg (by omega), if_neg (by omega)]
      · rw [gX_sX, if_neg (by omega), gX_sF, gX_sR, gX_zz, if_pos rfl, gX_mP, if_pos (by omega)]
        unfold xrP
        rw [if_neg (by omega), if_neg (by omega), if_neg (by omega)]
theorem muP_p (hj : j < 28) : sX (sR (zz (zz (muP μ s w (37 + 2 * j) 13 8 j 0) (s + (37 + 2 * j))) (s + (37 + 2 * j) + 1)) 400 (s + (37 + 2 * j)) (some (s + (37 + 2 * j) + 1))) (s + 2) j (some (s + (37 + 2 * j))) = muP μ s w (37 + 2 * (j + 1)) 13 8 (j + 1) 0 := by
  refine zM_ext (fun k a => ?_) (fun a i => ?_) (fun k a => ?_) (fun a i => ?_) (fun k a => ?_) (fun a i => ?_)
  · by_cases ca : a < (s + (37 + 2 * j)) ∨ (s + (37 + 2 * j)) + 2 ≤ a
    · rw [gF_sX, gF_sR, gF_zz, if_neg (by omega), gF_zz, if_neg (by omega), gF_mP, gF_mP]
      by_cases c : s ≤ a ∧ a < (s + (37 + 2 * j))
      · rw [if_pos c, if_pos (by omega)]
      · rw [if_neg c, if_neg (by omega)]
    · have cs : a = (s + (37 + 2 * j)) ∨ a = (s + (37 + 2 * j)) + 1 := by omega
      rcases cs with rfl | rfl
      · rw [gF_sX, gF_sR, gF_zz, if_neg (by omega), gF_zz, if_pos rfl, gF_mP, if_pos (by omega)]
        unfold fiP
        rw [if_neg (by omega)]
      · rw [gF_sX, gF_sR, gF_zz, if_pos rfl, gF_mP, if_pos (by omega)]
        unfold fiP
        rw [if_neg (by omega)]
  · by_cases ca : a < (s + (37 + 2 * j)) ∨ (s + (37 + 2 * j)) + 2 ≤ a
    · rw [gA_sX, gA_sR, gA_zz, if_neg (by omega), gA_zz, if_neg (by omega), gA_mP, gA_mP]
      by_cases c : s ≤ a ∧ a < (s + (37 + 2 * j))
      · rw [if_pos c, if_pos (by omega)]
      · rw [if_neg c, if_neg (by omega)]
    · have cs : a = (s + (37 + 2 * j)) ∨ a = (s + (37 + 2 * j)) + 1 := by omega
      rcases cs with rfl | rfl
      · rw [gA_sX, gA_sR, gA_zz, if_neg (by omega), gA_zz, if_pos rfl, gA_mP, if_pos (by omega)]
      · rw [gA_sX, gA_sR, gA_zz, if_pos rfl, gA_mP, if_pos (by omega)]
  · by_cases ca : a < (s + (37 + 2 * j)) ∨ (s + (37 + 2 * j)) + 2 ≤ a
    · rw [gB_sX, gB_sR, gB_zz, if_neg (by omega), gB_zz, if_neg (by omega), gB_mP, gB_mP]
      by_cases c : s ≤ a ∧ a < (s + (37 + 2 * j))
      · rw [if_pos c, if_pos (by omega)]
      · rw [if_neg c, if_neg (by omega)]
    · have cs : a = (s + (37 + 2 * j)) ∨ a = (s + (37 + 2 * j)) + 1 := by omega
      rcases cs with rfl | rfl
      · rw [gB_sX, gB_sR, gB_zz, if_neg (by omega), gB_zz, if_pos rfl, gB_mP, if_pos (by omega)]
      · rw [gB_sX, gB_sR, gB_zz, if_pos rfl, gB_mP, if_pos (by omega)]
  · by_cases ca : a < (s + (37 + 2 * j)) ∨ (s + (37 + 2 * j)) + 2 ≤ a
    · rw [gZ_sX, gZ_sR, gZ_zz, if_neg (by omega), gZ_zz, if_neg (by omega), gZ_mP, gZ_mP]
      by_cases c : s ≤ a ∧ a < (s + (37 + 2 * j))
      · rw [if_pos c, if_pos (by omega)]
      · rw [if_neg c, if_neg (by omega)]
    · have cs : a = (s + (37 + 2 * j)) ∨ a = (s + (37 + 2 * j)) + 1 := by omega
      rcases cs with rfl | rfl
      · rw [gZ_sX, gZ_sR, gZ_zz, if_neg (by omega), gZ_zz, if_pos rfl, gZ_mP, if_pos (by omega)]
      · rw [gZ_sX, gZ_sR, gZ_zz, if_pos rfl, gZ_mP, if_pos (by omega)]
  · by_cases ca : a < (s + (37 + 2 * j)) ∨ (s + (37 + 2 * j)) + 2 ≤ a
    · rw [gR_sX, gR_sR, if_neg (by omega), gR_zz, if_neg (by omega), gR_zz, if_neg (by omega), gR_mP, gR_mP]
      by_cases c : s ≤ a ∧ a < (s + (37 + 2 * j))
      · rw [if_pos c, if_pos (by omega)]
      · rw [if_neg c, if_neg (by omega)]
    · have cs : a = (s + (37 + 2 * j)) ∨ a = (s + (37 + 2 * j)) + 1 := by omega
      rcases cs with rfl | rfl
      · by_cases k2 : k = 400
        · subst k2
          rw [gR_sX, gR_sR, if_pos ⟨rfl, rfl⟩, gR_mP, if_pos (by omega)]
          unfold rfP
          rw [if_neg (by omega), if_neg (by omega), if_neg (by omega), if_pos (by omega), if_pos (by omega)]; congr 1; omega
        · rw [gR_sX, gR_sR, if_neg (by omega), gR_zz, if_neg (by omega), gR_zz, if_pos rfl, gR_mP, if_pos (by omega)]
          unfold rfP
          rw [if_neg (by omega), if_neg (by omega), if_neg (by omega), if_pos (by omega), if_neg (by omega)]
      · rw [gR_sX, gR_sR, if_neg (by omega), gR_zz, if_pos rfl, gR_mP, if_pos (by omega)]
        unfold rfP
        rw [if_neg (by omega), if_neg (by omega), if_neg (by omega), if_pos (by omega), if_neg (by omega)]
  · by_cases ca : a < (s + (37 + 2 * j)) ∨ (s + (37 + 2 * j)) + 2 ≤ a
    · by_cases cr : a = s + 2 ∧ i = j
      · obtain ⟨rfl, rfl⟩ := cr
        rw [gX_sX, if_pos ⟨rfl, rfl⟩, gX_mP, if_pos (by omega), Nat.add_sub_cancel_left]
        unfold xrP
        rw [if_neg (by omega), if_pos (by omega)]; congr 1; omega
      · rw [gX_sX, if_neg cr, gX_sR, gX_zz, if_neg (by omega), gX_zz, if_neg (by omega), gX_mP, gX_mP]
        by_cases c : s ≤ a ∧ a < (s + (37 + 2 * j))
        · rw [if_pos c, if_pos (by omega)]
          unfold xrP
          by_cases d : a - s = 2
          · have hi : i ≠ j := fun z => cr ⟨by omega, z⟩
            skip
            by_cases q : i < j
            · rw [if_neg (by omega), if_pos (by omega), if_neg (by omega), if_pos (by omega)]
            · repeat rw [if_neg (by omega)]
          · have e : (a - s = 2 ∧ i < j) = (a - s = 2 ∧ i < j + 1) := by
              apply propext; constructor <;> intro z <;> exact absurd z.1 d
            simp only [e]
        · rw [if_neg c, if_neg (by omega)]
    · have cs : a = (s + (37 + 2 * j)) ∨ a = (s + (37 + 2 * j)) + 1 := by omega
      rcases cs with rfl | rfl
      · rw [gX_sX, if_neg (by omega), gX_sR, gX_zz, if_neg (by omega), gX_zz, if_pos rfl, gX_mP, if_pos (by omega)]
        unfold xrP
        rw [if_neg (by omega), if_neg (by omega), if_neg (by omega)]
      · rw [gX_sX, if_neg (by omega), gX_sR, gX_zz, if_pos rfl, gX_mP, if_pos (by omega)]
        unfold xrP
        rw [if_neg (by omega), if_neg (by omega), if_neg (by omega)]
theorem muP_m (hj : j < 84) : sX (sR (zz (zz (muP μ s w (93 + 2 * j) 13 8 28 j) (s + (93 + 2 * j))) (s + (93 + 2 * j) + 1)) 300 (s + (93 + 2 * j)) (some (s + (93 + 2 * j) + 1))) (s + 3) j (some (s + (93 + 2 * j))) = muP μ s w (93 + 2 * (j + 1)) 13 8 28 (j + 1) := by
  refine zM_ext (fun k a => ?_) (fun a i => ?_) (fun k a => ?_) (fun a i => ?_) (fun k a => ?_) (fun a i => ?_)
  · by_cases ca : a < (s + (93 + 2 * j)) ∨ (s + (93 + 2 * j)) + 2 ≤ a
    · rw [gF_sX, gF_sR, gF_zz, if_neg (by omega), gF_zz, if_neg (by omega), gF_mP, gF_mP]
      by_cases c : s ≤ a ∧ a < (s + (93 + 2 * j))
      · rw [if_pos c, if_pos (by omega)]
      · rw [if_neg c, if_neg (by omega)]
    · have cs : a = (s + (93 + 2 * j)) ∨ a = (s + (93 + 2 * j)) + 1 := by omega
      rcases cs with rfl | rfl
      · rw [gF_sX, gF_sR, gF_zz, if_neg (by omega), gF_zz, if_pos rfl, gF_mP, if_pos (by omega)]
        unfold fiP
        rw [if_neg (by omega)]
      · rw [gF_sX, gF_sR, gF_zz, if_pos rfl, gF_mP, if_pos (by omega)]
        unfold fiP
        rw [if_neg (by omega)]
  · by_cases ca : a < (s + (93 + 2 * j)) ∨ (s + (93 + 2 * j)) + 2 ≤ a
    · rw [gA_sX, gA_sR, gA_zz, if_neg (by omega), gA_zz, if_neg (by omega), gA_mP, gA_mP]
      by_cases c : s ≤ a ∧ a < (s + (93 + 2 * j))
      · rw [if_pos c, if_pos (by omega)]
      · rw [if_neg c, if_neg (by omega)]
    · have cs : a = (s + (93 + 2 * j)) ∨ a = (s + (93 + 2 * j)) + 1 := by omega
      rcases cs with rfl | rfl
      · rw [gA_sX, gA_sR, gA_zz, if_neg (by omega), gA_zz, if_pos rfl, gA_mP, if_pos (by omega)]
      · rw [gA_sX, gA_sR, gA_zz, if_pos rfl, gA_mP, if_pos (by omega)]
  · by_cases ca : a < (s + (93 + 2 * j)) ∨ (s + (93 + 2 * j)) + 2 ≤ a
    · rw [gB_sX, gB_sR, gB_zz, if_neg (by omega), gB_zz, if_neg (by omega), gB_mP, gB_mP]
      by_cases c : s ≤ a ∧ a < (s + (93 + 2 * j))
      · rw [if_pos c, if_pos (by omega)]
      · rw [if_neg c, if_neg (by omega)]
    · have cs : a = (s + (93 + 2 * j)) ∨ a = (s + (93 + 2 * j)) + 1 := by omega
      rcases cs with rfl | rfl
      · rw [gB_sX, gB_sR, gB_zz, if_neg (by omega), gB_zz, if_pos rfl, gB_mP, if_pos (by omega)]
      · rw [gB_sX, gB_sR, gB_zz, if_pos rfl, gB_mP, if_pos (by omega)]
  · by_cases ca : a < (s + (93 + 2 * j)) ∨ (s + (93 + 2 * j)) + 2 ≤ a
    · rw [gZ_sX, gZ_sR, gZ_zz, if_neg (by omega), gZ_zz, if_neg (by omega), gZ_mP, gZ_mP]
      by_cases c : s ≤ a ∧ a < (s + (93 + 2 * j))
      · rw [if_pos c, if_pos (by omega)]
      · rw [if_neg c, if_neg (by omega)]
    · have cs : a = (s + (93 + 2 * j)) ∨ a = (s + (93 + 2 * j)) + 1 := by omega
      rcases cs with rfl | rfl
      · rw [gZ_sX, gZ_sR, gZ_zz, if_neg (by omega), gZ_zz, if_pos rfl, gZ_mP, if_pos (by omega)]
      · rw [gZ_sX, gZ_sR, gZ_zz, if_pos rfl, gZ_mP, if_pos (by omega)]
  · by_cases ca : a < (s + (93 + 2 * j)) ∨ (s + (93 + 2 * j)) + 2 ≤ a
    · rw [gR_sX, gR_sR, if_neg (by omega), gR_zz, if_neg (by omega), gR_zz, if_neg (by omega), gR_mP, gR_mP]
      by_cases c : s ≤ a ∧ a < (s + (93 + 2 * j))
      · rw [if_pos c, if_pos (by omega)]
      · rw [if_neg c, if_neg (by omega)]
    · have cs : a = (s + (93 + 2 * j)) ∨ a = (s + (93 + 2 * j)) + 1 := by omega
      rcases cs with rfl | rfl
      · by_cases k2 : k = 300
        · subst k2
          rw [gR_sX, gR_sR, if_pos ⟨rfl, rfl⟩, gR_mP, if_pos (by omega)]
          unfold rfP
          rw [if_neg (by omega), if_neg (by omega), if_neg (by omega), if_neg (by omega), if_pos (by omega)]; congr 1; omega
        · rw [gR_sX, gR_sR, if_neg (by omega), gR_zz, if_neg (by omega), gR_zz, if_pos rfl, gR_mP, if_pos (by omega)]
          unfold rfP
          rw [if_neg (by omega), if_neg (by omega), if_neg (by omega), if_neg (by omega), if_neg (by omega)]
      · rw [gR_sX, gR_sR, if_neg (by omega), gR_zz, if_pos rfl, gR_mP, if_pos (by omega)]
        unfold rfP
        rw [if_neg (by omega), if_neg (by omega), if_neg (by omega), if_neg (by omega), if_neg (by omega)]
  · by_cases ca : a < (s + (93 + 2 * j)) ∨ (s + (93 + 2 * j)) + 2 ≤ a
    · by_cases cr : a = s + 3 ∧ i = j
      · obtain ⟨rfl, rfl⟩ := cr
        rw [gX_sX, if_pos ⟨rfl, rfl⟩, gX_mP, if_pos (by omega), Nat.add_sub_cancel_left]
        unfold xrP
        rw [if_neg (by omega), if_neg (by omega), if_pos (by omega)]; congr 1; omega
      · rw [gX_sX, if_neg cr, gX_sR, gX_zz, if_neg (by omega), gX_zz, if_neg (by omega), gX_mP, gX_mP]
        by_cases c : s ≤ a ∧ a < (s + (93 + 2 * j))
        · rw [if_pos c, if_pos (by omega)]
          unfold xrP
          by_cases d : a - s = 3
          · have hi : i ≠ j := fun z => cr ⟨by omega, z⟩
            skip
            by_cases q : i < j
            · rw [if_neg (by omega), if_neg (by omega), if_pos (by omega), if_neg (by omega), if_neg (by omega), if_pos (by omega)]
            · repeat rw [if_neg (by omega)]
          · have e : (a - s = 3 ∧ i < j) = (a - s = 3 ∧ i < j + 1) := by
              apply propext; constructor <;> intro z <;> exact absurd z.1 d
            simp only [e]
        · rw [if_neg c, if_neg (by omega)]
    · have cs : a = (s + (93 + 2 * j)) ∨ a = (s + (93 + 2 * j)) + 1 := by omega
      rcases cs with rfl | rfl
      · rw [gX_sX, if_neg (by omega), gX_sR, gX_zz, if_neg (by omega), gX_zz, if_pos rfl, gX_mP, if_pos (by omega)]
        unfold xrP
        rw [if_neg (by omega), if_neg (by omega), if_neg (by omega)]
      · rw [gX_sX, if_neg (by omega), gX_sR, gX_zz, if_pos rfl, gX_mP, if_pos (by omega)]
        unfold xrP
        rw [if_neg (by omega), if_neg (by omega), if_neg (by omega)]
end zSt
