/-! READING: a number, both -/
def dvl (g : Nat → Nat) (q : Nat) : Nat → Nat
  | 0 => 0
  | i + 1 => 10 * dvl g q i + (g (q + i) - 48)
/-- z digits stand at q, at most 3 -/
def DG (g : Nat → Nat) (n q z : Nat) : Prop := z ≤ 3 ∧ (∀ j, j < z → q + j < n ∧ dgt (g (q + j))) ∧ (z < 3 → ¬ (q + z < n ∧ dgt (g (q + z))))
section zN6
variable {x m n p q e k i j a z : Nat} {μ ν μ' ν' μ1 ν1 : zM} {g : Nat → Nat} {v v' l : Int32}
theorem DG.ex (g : Nat → Nat) (n q : Nat) : ∃ z, DG g n q z := by
  by_cases c0 : q < n ∧ dgt (g q)
  · by_cases c1 : q + 1 < n ∧ dgt (g (q + 1))
    · by_cases c2 : q + 2 < n ∧ dgt (g (q + 2))
      · refine ⟨3, Nat.le_refl _, fun j hj => ?_, fun h => absurd h (by omega)⟩
        rcases (show j = 0 ∨ j = 1 ∨ j = 2 by omega) with y | y | y <;> subst y
        · exact c0
        · exact c1
        · exact c2
      · refine ⟨2, by omega, fun j hj => ?_, fun _ => c2⟩
        rcases (show j = 0 ∨ j = 1 by omega) with y | y <;> subst y
        · exact c0
        · exact c1
    · refine ⟨1, by omega, fun j hj => ?_, fun _ => c1⟩
      have : j = 0 := by omega
      subst this; exact c0
  · exact ⟨0, by omega, fun j hj => absurd hj (by omega), fun _ => c0⟩
theorem dvl_b (h : ∀ j, j < z → dgt (g (q + j))) : ∀ i, i ≤ z → dvl g q i < 10 ^ i
  | 0, _ => by unfold dvl; decide
  | i + 1, hi => by
    have ih := dvl_b h i (by omega)
    have d := h i (by omega)
    unfold dgt at d
    show 10 * dvl g q i + (g (q + i) - 48) < 10 ^ (i + 1)
    rw [Nat.pow_succ]
    omega
theorem nI_dig {a b : Nat} (h : 48 ≤ b) : (10 * nI a + nI b) - 48 = nI (10 * a + (b - 48)) := by
  rw [show (10 : Int32) = nI 10 from rfl, pk_mul, nI_add, show (48 : Int32) = nI 48 from rfl, nI_sub (by omega)]
  exact congrArg nI (by omega)
theorem C_numL (hd : DG g n q z) : ∀ (d i F : Nat) (μ : zM), z - i = d → i ≤ z → d < F → TpC x n g μ → q ≤ n → gF μ 503 (x + 49) = nI q → gF μ 505 (x + 49) = nI (dvl g q i) → zloop (fun s => f5_number_L1 (x + 49) s.1 s.2) F (nI i, μ) = some (nI z, sF μ 505 (x + 49) (nI (dvl g q z))) := by
  have hd0 := hd
  obtain ⟨z3, d1, d2⟩ := hd
  intro d
  induction d with
  | zero =>
    intro i F μ h1 h2 h3 t qn e3 e5
    have : i = z := by omega
    subst this
    have t1 := t.1
    have qi : q + i ≤ n := by
      cases i with
      | zero => omega
      | succ i => have := (d1 i (by omega)).1; omega
    rw [sF_id e5]
    refine zloop_out h3 ?_
    show f5_number_L1 (x + 49) (nI i) μ = _
    unfold f5_number_L1
    rw [show clt (nI i) 3 = decide (i < 3) from clt_nI (b := 3) (by omega) (by omega)]
    by_cases c : i < 3
    · rw [decide_eq_true c, if_pos rfl, e3, nI_add, C_digit t (by omega), obs, obs, decide_eq_false (d2 c), if_neg (by decide)]
    · rw [decide_eq_false c, if_neg (by decide)]; rfl
  | succ d ih =>
    intro i F μ h1 h2 h3 t qn e3 e5
    cases F with
    | zero => omega
    | succ F =>
      have t1 := t.1
      obtain ⟨y1, y2⟩ := d1 i (by omega)
      obtain ⟨e1, e2⟩ := t.2.2 (q + i) (by omega)
      have r := ih (i + 1) F (sF μ 505 (x + 49) (nI (dvl g q (i + 1)))) (by omega) (by omega) (by omega) (t.w (by omega)) qn (by rw [sF_ne (by omega)]; exact e3) sF_eq
      rw [sF_2] at r
      refine zl_in2 (body := fun s => f5_number_L1 (x + 49) s.1 s.2) ?_ r
      show f5_number_L1 (x + 49) (nI i) μ = _
      have y48 : 48 ≤ g (q + i) := by unfold dgt at y2; omega
      unfold f5_number_L1
      rw [show clt (nI i) 3 = decide (i < 3) from clt_nI (b := 3) (by omega) (by omega), decide_eq_true (show i < 3 by omega), if_pos rfl, e3, nI_add, C_digit t (by omega), obs, obs, decide_eq_true ⟨y1, y2⟩, if_pos rfl, show x + 49 - 48 = x + 1 by omega, rA_nI (by omega) (by omega), e1, obs, e5, nI_dig y48, nI_1]
      rfl
end zN6
