/-! THE START: shapes and references -/
section zG0
variable {Sh : zSh} {a x m n d k : Nat} {μ : zM}
theorem zOa_8 {n : Nat} (e : Sh a = (8, n)) (h : Sh (a + 1) = (1, 64) ∧ Sh (a + 2) = (1, 8) ∧ Sh (a + 3) = (1, 8) ∧ Sh (a + 4) = (1, 8) ∧ Sh (a + 5) = (1, 28) ∧ (Sh (a + 6)).1 = 16 ∧ (Sh (a + 7)).1 = 16) : zOa Sh a := by
  unfold zOa
  refine ⟨fun h1 => ?_, fun _ => h, fun h1 => ?_, fun h1 => ?_, fun h1 => ?_, fun h1 => ?_, fun h1 => ?_, fun h1 => ?_, fun h1 => ?_, fun h1 => ?_, fun h1 => ?_, fun h1 => ?_, fun h1 => ?_, fun h1 => ?_, fun h1 => ?_⟩
  all_goals (rw [e] at h1; exfalso; first | (have h2 : 8 = _ := h1; omega) | (have h2 := congrArg Prod.fst h1; have h3 : 8 = _ := h2; omega))
theorem zOa_9 {n : Nat} (e : Sh a = (9, n)) (h : Sh (a + 1) = (1, 65) ∧ Sh (a + 2) = (1, 65)) : zOa Sh a := by
  unfold zOa
  refine ⟨fun h1 => ?_, fun h1 => ?_, fun _ => h, fun h1 => ?_, fun h1 => ?_, fun h1 => ?_, fun h1 => ?_, fun h1 => ?_, fun h1 => ?_, fun h1 => ?_, fun h1 => ?_, fun h1 => ?_, fun h1 => ?_, fun h1 => ?_, fun h1 => ?_⟩
  all_goals (rw [e] at h1; exfalso; first | (have h2 : 9 = _ := h1; omega) | (have h2 := congrArg Prod.fst h1; have h3 : 9 = _ := h2; omega))
theorem zOa_12 {n : Nat} (e : Sh a = (12, n)) (h : Sh (a + 1) = (1, 6) ∧ Sh (a - 48) = (1, 1600)) : zOa Sh a := by
  unfold zOa
  refine ⟨fun h1 => ?_, fun h1 => ?_, fun h1 => ?_, fun h1 => ?_, fun h1 => ?_, fun _ => h, fun h1 => ?_, fun h1 => ?_, fun h1 => ?_, fun h1 => ?_, fun h1 => ?_, fun h1 => ?_, fun h1 => ?_, fun h1 => ?_, fun h1 => ?_⟩
  all_goals (rw [e] at h1; exfalso; first | (have h2 : 12 = _ := h1; omega) | (have h2 := congrArg Prod.fst h1; have h3 : 12 = _ := h2; omega))
theorem zOa_13 {n : Nat} (e : Sh a = (13, n)) (h : Sh (a + 1) = (1, 8) ∧ Sh (a + 2) = (1, 8)) : zOa Sh a := by
  unfold zOa
  refine ⟨fun h1 => ?_, fun h1 => ?_, fun h1 => ?_, fun h1 => ?_, fun h1 => ?_, fun h1 => ?_, fun _ => h, fun h1 => ?_, fun h1 => ?_, fun h1 => ?_, fun h1 => ?_, fun h1 => ?_, fun h1 => ?_, fun h1 => ?_, fun h1 => ?_⟩
  all_goals (rw [e] at h1; exfalso; first | (have h2 : 13 = _ := h1; omega) | (have h2 := congrArg Prod.fst h1; have h3 : 13 = _ := h2; omega))
theorem zOa_14 {n : Nat} (e : Sh a = (14, n)) (h : Sh (a + 1) = (1, 48) ∧ Sh (a + 2) = (1, 15) ∧ Sh (a + 3) = (1, 420)) : zOa Sh a := by
  unfold zOa
  refine ⟨fun h1 => ?_, fun h1 => ?_, fun h1 => ?_, fun h1 => ?_, fun h1 => ?_, fun h1 => ?_, fun h1 => ?_, fun _ => h, fun h1 => ?_, fun h1 => ?_, fun h1 => ?_, fun h1 => ?_, fun h1 => ?_, fun h1 => ?_, fun h1 => ?_⟩
  all_goals (rw [e] at h1; exfalso; first | (have h2 : 14 = _ := h1; omega) | (have h2 := congrArg Prod.fst h1; have h3 : 14 = _ := h2; omega))
theorem zOa_17 {n : Nat} (e : Sh a = (17, n)) (h : Sh (a + 1) = (1, 48) ∧ Sh (a + 2) = (1, 48) ∧ Sh (a + 3) = (1, 8) ∧ Sh (a + 4) = (2, 8) ∧ Sh (a + 5) = (1, 8) ∧ Sh (a + 6) = (1, 48) ∧ Sh (a + 7) = (1, 28) ∧ Sh (a + 8) = (1, 28) ∧ Sh (a + 9) = (2, 28) ∧ Sh (a + 10) = (1, 14) ∧ Sh (a + 11) = (1, 14) ∧ Sh (a + 12) = (1, 8)) : zOa Sh a := by
  unfold zOa
  refine ⟨fun h1 => ?_, fun h1 => ?_, fun h1 => ?_, fun h1 => ?_, fun h1 => ?_, fun h1 => ?_, fun h1 => ?_, fun h1 => ?_, fun h1 => ?_, fun _ => h, fun h1 => ?_, fun h1 => ?_, fun h1 => ?_, fun h1 => ?_, fun h1 => ?_⟩
  all_goals (rw [e] at h1; exfalso; first | (have h2 : 17 = _ := h1; omega) | (have h2 := congrArg Prod.fst h1; have h3 : 17 = _ := h2; omega))
theorem zOa_18 {n : Nat} (e : Sh a = (18, n)) (h : Sh (a + 1) = (1, 1600) ∧ (Sh (a + 49)).1 = 12 ∧ (Sh (a + 312)).1 = 15 ∧ (Sh (a + 51)).1 = 15 ∧ Sh (a + 2) = (6, 20) ∧ (Sh (a + 3)).1 = 8 ∧ (Sh (a + 11)).1 = 13 ∧ (Sh (a + 14)).1 = 9 ∧ (Sh (a + 17)).1 = 14 ∧ Sh (a + 21) = (1, 47) ∧ Sh (a + 22) = (1, 6)) : zOa Sh a := by
  unfold zOa
  refine ⟨fun h1 => ?_, fun h1 => ?_, fun h1 => ?_, fun h1 => ?_, fun h1 => ?_, fun h1 => ?_, fun h1 => ?_, fun h1 => ?_, fun h1 => ?_, fun h1 => ?_, fun _ => h, fun h1 => ?_, fun h1 => ?_, fun h1 => ?_, fun h1 => ?_⟩
  all_goals (rw [e] at h1; exfalso; first | (have h2 : 18 = _ := h1; omega) | (have h2 := congrArg Prod.fst h1; have h3 : 18 = _ := h2; omega))
theorem zOa_19 {n : Nat} (e : Sh a = (19, n)) (h : Sh (a + 1) = (1, 8) ∧ Sh (a + 2) = (1, 8) ∧ Sh (a + 3) = (1, 8) ∧ Sh (a + 4) = (1, 56) ∧ Sh (a + 5) = (1, 28) ∧ Sh (a + 6) = (1, 14) ∧ Sh (a + 7) = (1, 14) ∧ Sh (a + 8) = (1, 8) ∧ Sh (a + 9) = (1, 96) ∧ Sh (a + 10) = (1, 48) ∧ Sh (a + 11) = (1, 48) ∧ Sh (a + 12) = (1, 8) ∧ Sh (a + 13) = (1, 8) ∧ Sh (a + 14) = (1, 8) ∧ Sh (a + 15) = (1, 56) ∧ Sh (a + 16) = (1, 28) ∧ Sh (a + 17) = (1, 14) ∧ Sh (a + 18) = (1, 14) ∧ Sh (a + 19) = (1, 8) ∧ Sh (a + 20) = (1, 96) ∧ Sh (a + 21) = (1, 1600) ∧ Sh (a + 22) = (1, 6) ∧ Sh (a + 23) = (1, 62) ∧ Sh (a + 24) = (1, 5748) ∧ Sh (a + 25) = (1, 57480) ∧ Sh (a + 26) = (1, 8) ∧ Sh (a + 27) = (1, 6) ∧ Sh (a + 28) = (1, 64) ∧ Sh (a + 29) = (1, 8) ∧ Sh (a + 30) = (1, 8) ∧ Sh (a + 31) = (1, 16) ∧ Sh (a + 32) = (1, 16) ∧ Sh (a + 33) = (1, 15) ∧ Sh (a + 34) = (1, 720) ∧ Sh (a + 35) = (1, 66) ∧ Sh (a + 36) = (1, 47)) : zOa Sh a := by
  unfold zOa
  refine ⟨fun h1 => ?_, fun h1 => ?_, fun h1 => ?_, fun h1 => ?_, fun h1 => ?_, fun h1 => ?_, fun h1 => ?_, fun h1 => ?_, fun h1 => ?_, fun h1 => ?_, fun h1 => ?_, fun _ => h, fun h1 => ?_, fun h1 => ?_, fun h1 => ?_⟩
  all_goals (rw [e] at h1; exfalso; first | (have h2 : 19 = _ := h1; omega) | (have h2 := congrArg Prod.fst h1; have h3 : 19 = _ := h2; omega))
abbrev Sz : zSh := fun _ => (0, 0)
theorem xOK : zOK (shX Sz x 573) := by
  have T : ∀ k, k < 573 → shX Sz x 573 (x + k) = xT k := fun k hk => shX_in hk
  refine zOa_iff.mpr fun a => ?_
  by_cases c : x ≤ a ∧ a < x + 573
  · obtain ⟨d, rfl⟩ : ∃ d, a = x + d := ⟨a - x, by omega⟩
    by_cases c1 : d < 51
    · match d, c1 with
      | 0, _ => exact zOa_18 (T 0 (by omega)) ⟨(T 1 (by omega)), congrArg Prod.fst (T 49 (by omega)), congrArg Prod.fst (T 312 (by omega)), congrArg Prod.fst (T 51 (by omega)), (T 2 (by omega)), congrArg Prod.fst (T 3 (by omega)), congrArg Prod.fst (T 11 (by omega)), congrArg Prod.fst (T 14 (by omega)), congrArg Prod.fst (T 17 (by omega)), (T 21 (by omega)), (T 22 (by omega))⟩
      | 1, _ => exact zOa_no (T 1 (by omega)) (by omega)
      | 2, _ => exact zOa_no (T 2 (by omega)) (by omega)
      | 3, _ => exact zOa_8 (T 3 (by omega)) ⟨(T 4 (by omega)), (T 5 (by omega)), (T 6 (by omega)), (T 7 (by omega)), (T 8 (by omega)), congrArg Prod.fst (T 9 (by omega)), congrArg Prod.fst (T 10 (by omega))⟩
      | 4, _ => exact zOa_no (T 4 (by omega)) (by omega)
      | 5, _ => exact zOa_no (T 5 (by omega)) (by omega)
      | 6, _ => exact zOa_no (T 6 (by omega)) (by omega)
      | 7, _ => exact zOa_no (T 7 (by omega)) (by omega)
      | 8, _ => exact zOa_no (T 8 (by omega)) (by omega)
      | 9, _ => exact zOa_no (T 9 (by omega)) (by omega)
      | 10, _ => exact zOa_no (T 10 (by omega)) (by omega)
      | 11, _ => exact zOa_13 (T 11 (by omega)) ⟨(T 12 (by omega)), (T 13 (by omega))⟩
      | 12, _ => exact zOa_no (T 12 (by omega)) (by omega)
      | 13, _ => exact zOa_no (T 13 (by omega)) (by omega)
      | 14, _ => exact zOa_9 (T 14 (by omega)) ⟨(T 15 (by omega)), (T 16 (by omega))⟩
      | 15, _ => exact zOa_no (T 15 (by omega)) (by omega)
      | 16, _ => exact zOa_no (T 16 (by omega)) (by omega)
      | 17, _ => exact zOa_14 (T 17 (by omega)) ⟨(T 18 (by omega)), (T 19 (by omega)), (T 20 (by omega))⟩
      | 18, _ => exact zOa_no (T 18 (by omega)) (by omega)
      | 19, _ => exact zOa_no (T 19 (by omega)) (by omega)
      | 20, _ => exact zOa_no (T 20 (by omega)) (by omega)
      | 21, _ => exact zOa_no (T 21 (by omega)) (by omega)
      | 22, _ => exact zOa_no (T 22 (by omega)) (by omega)
      | 23, _ => exact zOa_17 (T 23 (by omega)) ⟨(T 24 (by omega)), (T 25 (by omega)), (T 26 (by omega)), (T 27 (by omega)), (T 28 (by omega)), (T 29 (by omega)), (T 30 (by omega)), (T 31 (by omega)), (T 32 (by omega)), (T 33 (by omega)), (T 34 (by omega)), (T 35 (by omega))⟩
      | 24, _ => exact zOa_no (T 24 (by omega)) (by omega)
      | 25, _ => exact zOa_no (T 25 (by omega)) (by omega)
      | 26, _ => exact zOa_no (T 26 (by omega)) (by omega)
      | 27, _ => exact zOa_no (T 27 (by omega)) (by omega)
      | 28, _ => exact zOa_no (T 28 (by omega)) (by omega)
      | 29, _ => exact zOa_no (T 29 (by omega)) (by omega)
      | 30, _ => exact zOa_no (T 30 (by omega)) (by omega)
      | 31, _ => exact zOa_no (T 31 (by omega)) (by omega)
      | 32, _ => exact zOa_no (T 32 (by omega)) (by omega)
      | 33, _ => exact zOa_no (T 33 (by omega)) (by omega)
      | 34, _ => exact zOa_no (T 34 (by omega)) (by omega)
      | 35, _ => exact zOa_no (T 35 (by omega)) (by omega)
      | 36, _ => exact zOa_17 (T 36 (by omega)) ⟨(T 37 (by omega)), (T 38 (by omega)), (T 39 (by omega)), (T 40 (by omega)), (T 41 (by omega)), (T 42 (by omega)), (T 43 (by omega)), (T 44 (by omega)), (T 45 (by omega)), (T 46 (by omega)), (T 47 (by omega)), (T 48 (by omega))⟩
      | 37, _ => exact zOa_no (T 37 (by omega)) (by omega)
      | 38, _ => exact zOa_no (T 38 (by omega)) (by omega)
      | 39, _ => exact zOa_no (T 39 (by omega)) (by omega)
      | 40, _ => exact zOa_no (T 40 (by omega)) (by omega)
      | 41, _ => exact zOa_no (T 41 (by omega)) (by omega)
      | 42, _ => exact zOa_no (T 42 (by omega)) (by omega)
      | 43, _ => exact zOa_no (T 43 (by omega)) (by omega)
      | 44, _ => exact zOa_no (T 44 (by omega)) (by omega)
      | 45, _ => exact zOa_no (T 45 (by omega)) (by omega)
      | 46, _ => exact zOa_no (T 46 (by omega)) (by omega)
      | 47, _ => exact zOa_no (T 47 (by omega)) (by omega)
      | 48, _ => exact zOa_no (T 48 (by omega)) (by omega)
      | 49, _ => exact zOa_12 (T 49 (by omega)) ⟨(T 50 (by omega)), (T 1 (by omega))⟩
      | 50, _ => exact zOa_no (T 50 (by omega)) (by omega)
      | d + 51, h => exact absurd h (by omega)
    · by_cases c2 : d < 312
      · have := zOa_st (Sh := shX Sz x 573) (s := x + 51) (d := d - 51) (fun q hq => by rw [Nat.add_assoc, T (51 + q) (by omega)]; unfold xT; rw [if_neg (by omega), if_pos (by omega)]; exact congrArg stT (by omega)) (by omega)
        rw [show x + 51 + (d - 51) = x + d by omega] at this
        exact this
      · have := zOa_st (Sh := shX Sz x 573) (s := x + 312) (d := d - 312) (fun q hq => by rw [Nat.add_assoc, T (312 + q) (by omega)]; unfold xT; rw [if_neg (by omega), if_neg (by omega)]; exact congrArg stT (by omega)) (by omega)
        rw [show x + 312 + (d - 312) = x + d by omega] at this
        exact this
  · exact zOa_no (t := 0) (n := 0) (shX_out (by omega)) (by omega)
theorem xT_rw : ∀ d, d < 573 → ((xT d).1 = 3 → (xT d).2 = 8) ∧ ((xT d).1 = 4 → (xT d).2 = 28) ∧ ((xT d).1 = 5 → (xT d).2 = 84) := by decide +kernel
theorem xRw : zRw (shX Sz x 573) := by
  intro a t n e ht
  by_cases c : x ≤ a ∧ a < x + 573
  · obtain ⟨d, rfl⟩ : ∃ d, a = x + d := ⟨a - x, by omega⟩
    rw [shX_in (by omega)] at e
    obtain ⟨h1, h2, h3⟩ := xT_rw d (by omega)
    rw [e] at h1 h2 h3
    rcases (show t = 0 ∨ t = 1 ∨ t = 2 by omega) with y | y | y <;> subst y
    · exact h1 rfl
    · exact h2 rfl
    · exact h3 rfl
  · rw [shX_out (by omega)] at e
    have := congrArg Prod.fst e
    dsimp only at this
    omega
def mL : List (Nat × Nat) := [(19, 0), (1, 8), (1, 8), (1, 8), (1, 56), (1, 28), (1, 14), (1, 14), (1, 8), (1, 96), (1, 48), (1, 48), (1, 8), (1, 8), (1, 8), (1, 56), (1, 28), (1, 14), (1, 14), (1, 8), (1, 96), (1, 1600), (1, 6), (1, 62), (1, 5748), (1, 57480), (1, 8), (1, 6), (1, 64), (1, 8), (1, 8), (1, 16), (1, 16), (1, 15), (1, 720), (1, 66), (1, 47)]
def shM (Sh : zSh) (m n : Nat) : zSh := fun a => if m ≤ a ∧ a < m + n then mL.getD (a - m) (0, 0) else Sh a
theorem shM_in (h : d < n) : shM Sh m n (m + d) = mL.getD d (0, 0) := by
  unfold shM
  rw [if_pos (by omega), Nat.add_sub_cancel_left]
theorem shM_out (h : a < m ∨ m + n ≤ a) : shM Sh m n a = Sh a := by
  unfold shM
  rw [if_neg (by omega)]
theorem shM_s (h : a = m + n) {t u : Nat} (ht : mL.getD n (0, 0) = (t, u)) : zSu (shM Sh m n) a t u = shM Sh m (n + 1) := by
  subst h
  funext q
  unfold zSu shM
  by_cases c : q = m + n
  · subst c
    rw [if_pos rfl, if_pos (by omega), Nat.add_sub_cancel_left, ht]
  · rw [if_neg c]
    by_cases c2 : m ≤ q ∧ q < m + n
    · rw [if_pos c2, if_pos (by omega)]
    · rw [if_neg c2, if_neg (by omega)]
theorem mOK : zOK (shM Sz m 37) := by
  have T : ∀ k, k < 37 → shM Sz m 37 (m + k) = mL.getD k (0, 0) := fun k hk => shM_in hk
  refine zOa_iff.mpr fun a => ?_
  by_cases c : m ≤ a ∧ a < m + 37
  · obtain ⟨d, rfl⟩ : ∃ d, a = m + d := ⟨a - m, by omega⟩
    have c1 : d < 37 := by omega
    match d, c1 with
    | 0, _ => exact zOa_19 (T 0 (by omega)) ⟨(T 1 (by omega)), (T 2 (by omega)), (T 3 (by omega)), (T 4 (by omega)), (T 5 (by omega)), (T 6 (by omega)), (T 7 (by omega)), (T 8 (by omega)), (T 9 (by omega)), (T 10 (by omega)), (T 11 (by omega)), (T 12 (by omega)), (T 13 (by omega)), (T 14 (by omega)), (T 15 (by omega)), (T 16 (by omega)), (T 17 (by omega)), (T 18 (by omega)), (T 19 (by omega)), (T 20 (by omega)), (T 21 (by omega)), (T 22 (by omega)), (T 23 (by omega)), (T 24 (by omega)), (T 25 (by omega)), (T 26 (by omega)), (T 27 (by omega)), (T 28 (by omega)), (T 29 (by omega)), (T 30 (by omega)), (T 31 (by omega)), (T 32 (by omega)), (T 33 (by omega)), (T 34 (by omega)), (T 35 (by omega)), (T 36 (by omega))⟩
    | 1, _ => exact zOa_no (T 1 (by omega)) (by omega)
    | 2, _ => exact zOa_no (T 2 (by omega)) (by omega)
    | 3, _ => exact zOa_no (T 3 (by omega)) (by omega)
    | 4, _ => exact zOa_no (T 4 (by omega)) (by omega)
    | 5, _ => exact zOa_no (T 5 (by omega)) (by omega)
    | 6, _ => exact zOa_no (T 6 (by omega)) (by omega)
    | 7, _ => exact zOa_no (T 7 (by omega)) (by omega)
    | 8, _ => exact zOa_no (T 8 (by omega)) (by omega)
    | 9, _ => exact zOa_no (T 9 (by omega)) (by omega)
    | 10, _ => exact zOa_no (T 10 (by omega)) (by omega)
    | 11, _ => exact zOa_no (T 11 (by omega)) (by omega)
    | 12, _ => exact zOa_no (T 12 (by omega)) (by omega)
    | 13, _ => exact zOa_no (T 13 (by omega)) (by omega)
    | 14, _ => exact zOa_no (T 14 (by omega)) (by omega)
    | 15, _ => exact zOa_no (T 15 (by omega)) (by omega)
    | 16, _ => exact zOa_no (T 16 (by omega)) (by omega)
    | 17, _ => exact zOa_no (T 17 (by omega)) (by omega)
    | 18, _ => exact zOa_no (T 18 (by omega)) (by omega)
    | 19, _ => exact zOa_no (T 19 (by omega)) (by omega)
    | 20, _ => exact zOa_no (T 20 (by omega)) (by omega)
    | 21, _ => exact zOa_no (T 21 (by omega)) (by omega)
    | 22, _ => exact zOa_no (T 22 (by omega)) (by omega)
    | 23, _ => exact zOa_no (T 23 (by omega)) (by omega)
    | 24, _ => exact zOa_no (T 24 (by omega)) (by omega)
    | 25, _ => exact zOa_no (T 25 (by omega)) (by omega)
    | 26, _ => exact zOa_no (T 26 (by omega)) (by omega)
    | 27, _ => exact zOa_no (T 27 (by omega)) (by omega)
    | 28, _ => exact zOa_no (T 28 (by omega)) (by omega)
    | 29, _ => exact zOa_no (T 29 (by omega)) (by omega)
    | 30, _ => exact zOa_no (T 30 (by omega)) (by omega)
    | 31, _ => exact zOa_no (T 31 (by omega)) (by omega)
    | 32, _ => exact zOa_no (T 32 (by omega)) (by omega)
    | 33, _ => exact zOa_no (T 33 (by omega)) (by omega)
    | 34, _ => exact zOa_no (T 34 (by omega)) (by omega)
    | 35, _ => exact zOa_no (T 35 (by omega)) (by omega)
    | 36, _ => exact zOa_no (T 36 (by omega)) (by omega)
    | d + 37, h => exact absurd h (by omega)
  · exact zOa_no (t := 0) (n := 0) (shM_out (by omega)) (by omega)
/-- references as the places say, at one cell -/
def FLa (sh : Nat × Nat) (μ : zM) (a : Nat) : Prop := (∀ ci k, sh.1 = ci + 7 → (zK1.1 ci k).1 = 2 → gR μ (100 * ci + k) a = some (a + (zK1.1 ci k).2)) ∧ (∀ ci k, sh.1 = ci + 7 → (zK1.1 ci k).1 = 3 → gR μ (100 * ci + k) a = some (a - (zK1.1 ci k).2)) ∧ ∀ t n j, sh = (t + 3, n) → t < 3 → j < n → gX μ a j = some (a + (zK1.2 t).2.1 + (zK1.2 t).2.2 * j)
theorem FL.of (h : ∀ a, FLa (Sh a) μ a) : FL Sh μ μ := ⟨fun _ _ => rfl, fun _ _ => rfl, fun _ _ => rfl, fun _ _ => rfl, fun a ci k h1 h2 => (h a).1 ci k h1 h2, fun a ci k h1 h2 => (h a).2.1 ci k h1 h2, fun _ _ _ _ _ => rfl, fun a t n j h1 h2 h3 => (h a).2.2 t n j h1 h2 h3, fun _ _ _ _ => rfl⟩
theorem FL.at1 (h : FL Sh μ μ) (a : Nat) : FLa (Sh a) μ a := ⟨fun ci k h1 h2 => h.2.2.2.2.1 a ci k h1 h2, fun ci k h1 h2 => h.2.2.2.2.2.1 a ci k h1 h2, fun t n j h1 h2 h3 => h.2.2.2.2.2.2.2.1 a t n j h1 h2 h3⟩
theorem FLa.mv {μ' : zM} {sh : Nat × Nat} (h : FLa sh μ a) (hs : SA a μ μ') : FLa sh μ' a := ⟨fun ci k h1 h2 => by rw [hs.2.2.1]; exact h.1 ci k h1 h2, fun ci k h1 h2 => by rw [hs.2.2.1]; exact h.2.1 ci k h1 h2, fun t n j h1 h2 h3 => by rw [hs.2.2.2.2.2]; exact h.2.2 t n j h1 h2 h3⟩
theorem FLa.no {t n : Nat} (h : t < 3 ∨ t = 6 ∨ t = 16) : FLa (t, n) μ a := by
  refine ⟨fun ci k h1 h2 => ?_, fun ci k h1 h2 => ?_, fun t' n' j h1 h2 _ => ?_⟩
  · have h1 : t = ci + 7 := h1
    have : ci = 9 := by omega
    subst this
    by_cases c : k < 67
    · exact absurd h2 ((by decide +kernel : ∀ k, k < 67 → ¬ (zK1.1 9 k).1 = 2) k c)
    · rw [(kk_hi (ci := 9) (k := k) (by omega)).1] at h2; exact absurd h2 (by decide)
  · have h1 : t = ci + 7 := h1
    have : ci = 9 := by omega
    subst this
    by_cases c : k < 67
    · exact absurd h2 ((by decide +kernel : ∀ k, k < 67 → ¬ (zK1.1 9 k).1 = 3) k c)
    · rw [(kk_hi (ci := 9) (k := k) (by omega)).1] at h2; exact absurd h2 (by decide)
  · have := congrArg Prod.fst h1
    dsimp only at this
    omega
theorem FLa.ob {ci n : Nat} (h2 : ∀ k, k < 67 → (zK1.1 ci k).1 = 2 → gR μ (100 * ci + k) a = some (a + (zK1.1 ci k).2)) (h3 : ∀ k, k < 67 → (zK1.1 ci k).1 = 3 → gR μ (100 * ci + k) a = some (a - (zK1.1 ci k).2)) : FLa (ci + 7, n) μ a := by
  refine ⟨fun ci' k e1 e2 => ?_, fun ci' k e1 e2 => ?_, fun t' n' j h1 h2 _ => ?_⟩
  · have e1 : ci + 7 = ci' + 7 := e1
    have : ci' = ci := by omega
    subst this
    by_cases c : k < 67
    · exact h2 k c e2
    · rw [(kk_hi (ci := ci') (k := k) (by omega)).1] at e2; exact absurd e2 (by decide)
  · have e1 : ci + 7 = ci' + 7 := e1
    have : ci' = ci := by omega
    subst this
    by_cases c : k < 67
    · exact h3 k c e2
    · rw [(kk_hi (ci := ci') (k := k) (by omega)).1] at e2; exact absurd e2 (by decide)
  · have := congrArg Prod.fst h1
    dsimp only at this
    omega
theorem gRo_mP {s w n r b p m : Nat} (h : a < s ∨ s + n ≤ a) : gR (muP μ s w n r b p m) k a = gR μ k a := by rw [gR_mP, if_neg (by omega)]
/-- where a reference leads, from the block's first cell -/
def nRo (l : List mOp) (k d : Nat) (v : Option Nat) : Option Nat := l.foldl (fun v p => if p.1 = 0 then (if d = p.2.2.1 then none else v) else if p.1 = 2 then (if k = p.2.1 ∧ d = p.2.2.1 then some p.2.2.2.2 else v) else v) v
theorem nR_o {c : Nat} : ∀ (l : List mOp) (v : Option Nat), nR c l k d (v.map (fun q => c + q)) = (nRo l k d v).map (fun q => c + q)
  | [], _ => rfl
  | p :: l, v => by
    show nR c l k d (if p.1 = 0 then (if d = p.2.2.1 then none else v.map (fun q => c + q)) else if p.1 = 2 then (if k = p.2.1 ∧ d = p.2.2.1 then some (c + p.2.2.2.2) else v.map (fun q => c + q)) else v.map (fun q => c + q)) = (nRo l k d (if p.1 = 0 then (if d = p.2.2.1 then none else v) else if p.1 = 2 then (if k = p.2.1 ∧ d = p.2.2.1 then some p.2.2.2.2 else v) else v)).map (fun q => c + q)
    rw [← nR_o l]
    refine congrArg (nR c l k d) ?_
    by_cases h0 : p.1 = 0
    · rw [if_pos h0, if_pos h0]
      by_cases h : d = p.2.2.1
      · rw [if_pos h, if_pos h]; rfl
      · rw [if_neg h, if_neg h]
    · rw [if_neg h0, if_neg h0]
      by_cases h2 : p.1 = 2
      · rw [if_pos h2, if_pos h2]
        by_cases h : k = p.2.1 ∧ d = p.2.2.1
        · rw [if_pos h, if_pos h]; rfl
        · rw [if_neg h, if_neg h]
      · rw [if_neg h2, if_neg h2]
/-- the first cells of a fresh object, its references -/
theorem xR (hd : d < 51) (hk : ¬ (d = 0 ∧ (k = 1102 ∨ k = 1103))) : gR (xm14 Z0 x) k (x + d) = (nRo xops k d none).map (fun q => x + q) := by
  have e : gR (xm14 Z0 x) k (x + d) = gR (xm11 Z0 x) k (x + d) := by
    show gR (sR (muP (xm12 Z0 x) (x + 312) (x + 23) 261 13 8 28 84) 1102 x (some (x + 312))) k (x + d) = _
    rw [gRo_sR (by omega), gRo_mP (by omega)]
    show gR (sR (muP (xm11 Z0 x) (x + 51) (x + 23) 261 13 8 28 84) 1103 x (some (x + 51))) k (x + d) = _
    rw [gRo_sR (by omega), gRo_mP (by omega)]
  rw [e, xm_eq, ← nR_o]
  exact lkR xops Z0
theorem x1102 : gR (xm14 Z0 x) 1102 x = some (x + 312) := by
  show gR (sR (muP (xm12 Z0 x) (x + 312) (x + 23) 261 13 8 28 84) 1102 x (some (x + 312))) 1102 x = _
  rw [gR_sR, if_pos ⟨rfl, rfl⟩]
theorem x1103 : gR (xm14 Z0 x) 1103 x = some (x + 51) := by
  show gR (sR (muP (xm12 Z0 x) (x + 312) (x + 23) 261 13 8 28 84) 1102 x (some (x + 312))) 1103 x = _
  rw [gRo_sR (by omega), gRo_mP (by omega)]
  show gR (sR (muP (xm11 Z0 x) (x + 51) (x + 23) 261 13 8 28 84) 1103 x (some (x + 51))) 1103 x = _
  rw [gR_sR, if_pos ⟨rfl, rfl⟩]
theorem mR (h : ∀ k, gR μ k m = none) : gR (mmO m μ) k m = (nRo mops k 0 none).map (fun q => m + q) := by
  rw [← nR_o]
  have e := lkR (c := m) (k := k) (d := 0) mops μ
  rw [show m + 0 = m from rfl, h] at e
  exact e

theorem xFL51 (hd : d < 51) : FLa (xT d) (xm14 Z0 x) (x + d) := by
  match d, hd with
  | 0, _ =>
    refine FLa.ob (ci := 11) (n := 0) (fun k hk h => ?_) (fun k hk h => ?_)
    · by_cases c2 : k = 2
      · subst c2; exact x1102
      · by_cases c3 : k = 3
        · subst c3; exact x1103
        · have H : ∀ k, k < 67 → (zK1.1 11 k).1 = 2 → k ≠ 2 → k ≠ 3 → nRo xops (100 * 11 + k) 0 none = some (0 + (zK1.1 11 k).2) := by decide +kernel
          rw [xR (by omega) (by omega), H k hk h c2 c3, Nat.add_assoc]; rfl
    · exact absurd h ((by decide +kernel : ∀ k, k < 67 → ¬ (zK1.1 11 k).1 = 3) k hk)
  | 1, _ => exact FLa.no (t := 1) (n := 1600) (by omega)
  | 2, _ => exact FLa.no (t := 6) (n := 20) (by omega)
  | 3, _ =>
    refine FLa.ob (ci := 1) (n := 0) (fun k hk h => ?_) (fun k hk h => ?_)
    · have H : ∀ k, k < 67 → (zK1.1 1 k).1 = 2 → nRo xops (100 * 1 + k) 3 none = some (3 + (zK1.1 1 k).2) := by decide +kernel
      rw [xR (by omega) (by omega), H k hk h, Nat.add_assoc]; rfl
    · exact absurd h ((by decide +kernel : ∀ k, k < 67 → ¬ (zK1.1 1 k).1 = 3) k hk)
  | 4, _ => exact FLa.no (t := 1) (n := 64) (by omega)
  | 5, _ => exact FLa.no (t := 1) (n := 8) (by omega)
  | 6, _ => exact FLa.no (t := 1) (n := 8) (by omega)
  | 7, _ => exact FLa.no (t := 1) (n := 8) (by omega)
  | 8, _ => exact FLa.no (t := 1) (n := 28) (by omega)
  | 9, _ => exact FLa.no (t := 16) (n := 0) (by omega)
  | 10, _ => exact FLa.no (t := 16) (n := 0) (by omega)
  | 11, _ =>
    refine FLa.ob (ci := 6) (n := 0) (fun k hk h => ?_) (fun k hk h => ?_)
    · have H : ∀ k, k < 67 → (zK1.1 6 k).1 = 2 → nRo xops (100 * 6 + k) 11 none = some (11 + (zK1.1 6 k).2) := by decide +kernel
      rw [xR (by omega) (by omega), H k hk h, Nat.add_assoc]; rfl
    · exact absurd h ((by decide +kernel : ∀ k, k < 67 → ¬ (zK1.1 6 k).1 = 3) k hk)
  | 12, _ => exact FLa.no (t := 1) (n := 8) (by omega)
  | 13, _ => exact FLa.no (t := 1) (n := 8) (by omega)
  | 14, _ =>
    refine FLa.ob (ci := 2) (n := 0) (fun k hk h => ?_) (fun k hk h => ?_)
    · have H : ∀ k, k < 67 → (zK1.1 2 k).1 = 2 → nRo xops (100 * 2 + k) 14 none = some (14 + (zK1.1 2 k).2) := by decide +kernel
      rw [xR (by omega) (by omega), H k hk h, Nat.add_assoc]; rfl
    · exact absurd h ((by decide +kernel : ∀ k, k < 67 → ¬ (zK1.1 2 k).1 = 3) k hk)
  | 15, _ => exact FLa.no (t := 1) (n := 65) (by omega)
  | 16, _ => exact FLa.no (t := 1) (n := 65) (by omega)
  | 17, _ =>
    refine FLa.ob (ci := 7) (n := 0) (fun k hk h => ?_) (fun k hk h => ?_)
    · have H : ∀ k, k < 67 → (zK1.1 7 k).1 = 2 → nRo xops (100 * 7 + k) 17 none = some (17 + (zK1.1 7 k).2) := by decide +kernel
      rw [xR (by omega) (by omega), H k hk h, Nat.add_assoc]; rfl
    · exact absurd h ((by decide +kernel : ∀ k, k < 67 → ¬ (zK1.1 7 k).1 = 3) k hk)
  | 18, _ => exact FLa.no (t := 1) (n := 48) (by omega)
  | 19, _ => exact FLa.no (t := 1) (n := 15) (by omega)
  | 20, _ => exact FLa.no (t := 1) (n := 420) (by omega)
  | 21, _ => exact FLa.no (t := 1) (n := 47) (by omega)
  | 22, _ => exact FLa.no (t := 1) (n := 6) (by omega)
  | 23, _ =>
    refine FLa.ob (ci := 10) (n := 0) (fun k hk h => ?_) (fun k hk h => ?_)
    · have H : ∀ k, k < 67 → (zK1.1 10 k).1 = 2 → nRo xops (100 * 10 + k) 23 none = some (23 + (zK1.1 10 k).2) := by decide +kernel
      rw [xR (by omega) (by omega), H k hk h, Nat.add_assoc]; rfl
    · exact absurd h ((by decide +kernel : ∀ k, k < 67 → ¬ (zK1.1 10 k).1 = 3) k hk)
  | 24, _ => exact FLa.no (t := 1) (n := 48) (by omega)
  | 25, _ => exact FLa.no (t := 1) (n := 48) (by omega)
  | 26, _ => exact FLa.no (t := 1) (n := 8) (by omega)
  | 27, _ => exact FLa.no (t := 2) (n := 8) (by omega)
  | 28, _ => exact FLa.no (t := 1) (n := 8) (by omega)
  | 29, _ => exact FLa.no (t := 1) (n := 48) (by omega)
  | 30, _ => exact FLa.no (t := 1) (n := 28) (by omega)
  | 31, _ => exact FLa.no (t := 1) (n := 28) (by omega)
  | 32, _ => exact FLa.no (t := 2) (n := 28) (by omega)
  | 33, _ => exact FLa.no (t := 1) (n := 14) (by omega)
  | 34, _ => exact FLa.no (t := 1) (n := 14) (by omega)
  | 35, _ => exact FLa.no (t := 1) (n := 8) (by omega)
  | 36, _ =>
    refine FLa.ob (ci := 10) (n := 0) (fun k hk h => ?_) (fun k hk h => ?_)
    · have H : ∀ k, k < 67 → (zK1.1 10 k).1 = 2 → nRo xops (100 * 10 + k) 36 none = some (36 + (zK1.1 10 k).2) := by decide +kernel
      rw [xR (by omega) (by omega), H k hk h, Nat.add_assoc]; rfl
    · exact absurd h ((by decide +kernel : ∀ k, k < 67 → ¬ (zK1.1 10 k).1 = 3) k hk)
  | 37, _ => exact FLa.no (t := 1) (n := 48) (by omega)
  | 38, _ => exact FLa.no (t := 1) (n := 48) (by omega)
  | 39, _ => exact FLa.no (t := 1) (n := 8) (by omega)
  | 40, _ => exact FLa.no (t := 2) (n := 8) (by omega)
  | 41, _ => exact FLa.no (t := 1) (n := 8) (by omega)
  | 42, _ => exact FLa.no (t := 1) (n := 48) (by omega)
  | 43, _ => exact FLa.no (t := 1) (n := 28) (by omega)
  | 44, _ => exact FLa.no (t := 1) (n := 28) (by omega)
  | 45, _ => exact FLa.no (t := 2) (n := 28) (by omega)
  | 46, _ => exact FLa.no (t := 1) (n := 14) (by omega)
  | 47, _ => exact FLa.no (t := 1) (n := 14) (by omega)
  | 48, _ => exact FLa.no (t := 1) (n := 8) (by omega)
  | 49, _ =>
    refine FLa.ob (ci := 5) (n := 0) (fun k hk h => ?_) (fun k hk h => ?_)
    · have H : ∀ k, k < 67 → (zK1.1 5 k).1 = 2 → nRo xops (100 * 5 + k) 49 none = some (49 + (zK1.1 5 k).2) := by decide +kernel
      rw [xR (by omega) (by omega), H k hk h, Nat.add_assoc]; rfl
    · have H : ∀ k, k < 67 → (zK1.1 5 k).1 = 3 → nRo xops (100 * 5 + k) 49 none = some 1 ∧ (zK1.1 5 k).2 = 48 := by decide +kernel
      obtain ⟨q1, q2⟩ := H k hk h
      rw [xR (by omega) (by omega), q1, q2]; rfl
  | 50, _ => exact FLa.no (t := 1) (n := 6) (by omega)
  | d + 51, h => exact absurd h (by omega)
theorem mFL (hd : d < 37) (hμ : ∀ k, gR μ k m = none) : FLa (mL.getD d (0, 0)) (mmO m μ) (m + d) := by
  match d, hd with
  | 0, _ =>
    refine FLa.ob (ci := 12) (n := 0) (fun k hk h => ?_) (fun k hk h => absurd h ((by decide +kernel : ∀ k, k < 67 → ¬ (zK1.1 12 k).1 = 3) k hk))
    have H : ∀ k, k < 67 → (zK1.1 12 k).1 = 2 → nRo mops (100 * 12 + k) 0 none = some ((zK1.1 12 k).2) := by decide +kernel
    show gR (mmO m μ) (100 * 12 + k) m = _
    rw [mR hμ, H k hk h]; rfl
  | 1, _ => exact FLa.no (t := 1) (n := 8) (by omega)
  | 2, _ => exact FLa.no (t := 1) (n := 8) (by omega)
  | 3, _ => exact FLa.no (t := 1) (n := 8) (by omega)
  | 4, _ => exact FLa.no (t := 1) (n := 56) (by omega)
  | 5, _ => exact FLa.no (t := 1) (n := 28) (by omega)
  | 6, _ => exact FLa.no (t := 1) (n := 14) (by omega)
  | 7, _ => exact FLa.no (t := 1) (n := 14) (by omega)
  | 8, _ => exact FLa.no (t := 1) (n := 8) (by omega)
  | 9, _ => exact FLa.no (t := 1) (n := 96) (by omega)
  | 10, _ => exact FLa.no (t := 1) (n := 48) (by omega)
  | 11, _ => exact FLa.no (t := 1) (n := 48) (by omega)
  | 12, _ => exact FLa.no (t := 1) (n := 8) (by omega)
  | 13, _ => exact FLa.no (t := 1) (n := 8) (by omega)
  | 14, _ => exact FLa.no (t := 1) (n := 8) (by omega)
  | 15, _ => exact FLa.no (t := 1) (n := 56) (by omega)
  | 16, _ => exact FLa.no (t := 1) (n := 28) (by omega)
  | 17, _ => exact FLa.no (t := 1) (n := 14) (by omega)
  | 18, _ => exact FLa.no (t := 1) (n := 14) (by omega)
  | 19, _ => exact FLa.no (t := 1) (n := 8) (by omega)
  | 20, _ => exact FLa.no (t := 1) (n := 96) (by omega)
  | 21, _ => exact FLa.no (t := 1) (n := 1600) (by omega)
  | 22, _ => exact FLa.no (t := 1) (n := 6) (by omega)
  | 23, _ => exact FLa.no (t := 1) (n := 62) (by omega)
  | 24, _ => exact FLa.no (t := 1) (n := 5748) (by omega)
  | 25, _ => exact FLa.no (t := 1) (n := 57480) (by omega)
  | 26, _ => exact FLa.no (t := 1) (n := 8) (by omega)
  | 27, _ => exact FLa.no (t := 1) (n := 6) (by omega)
  | 28, _ => exact FLa.no (t := 1) (n := 64) (by omega)
  | 29, _ => exact FLa.no (t := 1) (n := 8) (by omega)
  | 30, _ => exact FLa.no (t := 1) (n := 8) (by omega)
  | 31, _ => exact FLa.no (t := 1) (n := 16) (by omega)
  | 32, _ => exact FLa.no (t := 1) (n := 16) (by omega)
  | 33, _ => exact FLa.no (t := 1) (n := 15) (by omega)
  | 34, _ => exact FLa.no (t := 1) (n := 720) (by omega)
  | 35, _ => exact FLa.no (t := 1) (n := 66) (by omega)
  | 36, _ => exact FLa.no (t := 1) (n := 47) (by omega)
  | d + 37, h => exact absurd h (by omega)
end zG0
