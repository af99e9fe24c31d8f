/-! READING: a number, both in one -/
section zN8
variable {x m n p q e k i j a z lo hi : Nat} {μ ν μ' ν' μ1 ν1 : zM} {g : Nat → Nat} {v v' l : Int32}
theorem C_num (t : TpC x n g μ) (hp : gF μ 503 (x + 49) = nI p) (hl : LT g p (gF μ 504 (x + 49))) (s : SK g n p q) (hd : DG g n q z) (hh : hi < 1000) (ll : lo < 1000) : (¬ (¬ touch g n q ∧ 0 < z) ∧ f5_number (x + 49) (nI lo) (nI hi) μ = some (false, sF (sF (sF μ 503 (x + 49) (nI q)) 507 (x + 49) 1) 508 (x + 49) (nI q))) ∨ (¬ touch g n q ∧ 0 < z ∧ f5_number (x + 49) (nI lo) (nI hi) μ = (if q + z < n ∧ dgt (g (q + z)) then some (false, sF (sF (sF (sF μ 503 (x + 49) (nI q)) 505 (x + 49) (nI (dvl g q z))) 507 (x + 49) 1) 508 (x + 49) (nI (q + z))) else if lo ≤ dvl g q z ∧ dvl g q z ≤ hi then some (true, sF (sF (sF μ 505 (x + 49) (nI (dvl g q z))) 503 (x + 49) (nI (q + z))) 504 (x + 49) (nI (q + z))) else some (false, sF (sF (sF (sF μ 503 (x + 49) (nI q)) 505 (x + 49) (nI (dvl g q z))) 507 (x + 49) 2) 508 (x + 49) (nI q)))) := by
  have t1 := t.1
  have s2 := s.2.1
  have zl := hd.le s2
  have z3 := hd.1
  have h := (hl.sk s).tch (n := n) s2 t1
  have tq : TpC x n g (sF μ 503 (x + 49) (nI q)) := t.w (by omega)
  have dz : (q < n ∧ dgt (g q)) ↔ 0 < z := by
    constructor
    · intro y
      by_cases c : 0 < z
      · exact c
      · have : z = 0 := by omega
        subst this
        exact absurd y (hd.2.2 (by omega))
    · intro y; exact hd.2.1 0 y
  have dv := dvl_b (fun j hj => (hd.2.1 j hj).2) z (Nat.le_refl _)
  have dv3 : dvl g q z < 1000 := Nat.lt_of_lt_of_le dv (Nat.pow_le_pow_right (by omega) z3)
  unfold f5_number
  rw [C_sk s t hp, obs, sF_eq, C_digit tq (by omega), obs, obs, sF_ne (k' := 504) (by omega)]
  have bad : zb2 (f5_fails (x + 49) 1 (nI q) (sF μ 503 (x + 49) (nI q))) (fun t3 μ4 => some (t3, μ4)) = some (false, sF (sF (sF μ 503 (x + 49) (nI q)) 507 (x + 49) 1) 508 (x + 49) (nI q)) := rfl
  by_cases c : 0 < z
  · rw [decide_eq_true (dz.mpr c)]
    cases tc : ceq (nI q) (gF μ 504 (x + 49)) with
    | true =>
      exact Or.inl ⟨fun y => y.1 (h.mp tc), bad⟩
    | false =>
      have nt : ¬ touch g n q := fun y => by rw [h.mpr y] at tc; cases tc
      refine Or.inr ⟨nt, c, ?_⟩
      have L := C_numL (x := x) hd z 0 1000000 (sF (sF μ 503 (x + 49) (nI q)) 505 (x + 49) 0) (by omega) (by omega) (by omega) (tq.w (by omega)) s2 (by rw [sF_ne (by omega), sF_eq]) sF_eq
      rw [sF_2] at L
      have tz : TpC x n g (sF (sF μ 503 (x + 49) (nI q)) 505 (x + 49) (nI (dvl g q z))) := tq.w (by omega)
      have g3 : gF (sF (sF μ 503 (x + 49) (nI q)) 505 (x + 49) (nI (dvl g q z))) 503 (x + 49) = nI q := by rw [sF_ne (by omega), sF_eq]
      have g5 : gF (sF (sF μ 503 (x + 49) (nI q)) 505 (x + 49) (nI (dvl g q z))) 505 (x + 49) = nI (dvl g q z) := sF_eq
      rw [Bool.not_true, if_neg (by decide), obs, if_neg (by decide), show wF (sF μ 503 (x + 49) (nI q)) 505 (x + 49) 0 = some (sF (sF μ 503 (x + 49) (nI q)) 505 (x + 49) 0) from rfl, obs, show ((0 : Int32), sF (sF μ 503 (x + 49) (nI q)) 505 (x + 49) 0) = (nI 0, sF (sF μ 503 (x + 49) (nI q)) 505 (x + 49) 0) from rfl, L, ozb2, g3, nI_add, C_digit tz (by omega), obs, g5, clt_nI (by omega) (by omega), clt_nI (by omega) (by omega)]
      by_cases c4 : q + z < n ∧ dgt (g (q + z))
      · rw [decide_eq_true c4, if_pos rfl, if_pos c4]; rfl
      · rw [decide_eq_false c4, if_neg (by decide), if_neg c4]
        by_cases cr : lo ≤ dvl g q z ∧ dvl g q z ≤ hi
        · rw [if_pos cr, decide_eq_false (by omega), decide_eq_false (by omega), Bool.or_self, if_neg (by decide)]
          unfold f5_pass
          simp only [wF, obs]
          rw [g3, nI_add, sF_eq]
          have cm : sF (sF (sF μ 503 (x + 49) (nI q)) 505 (x + 49) (nI (dvl g q z))) 503 (x + 49) (nI (q + z)) = sF (sF μ 505 (x + 49) (nI (dvl g q z))) 503 (x + 49) (nI (q + z)) := by
            have : ∀ (M : zM), sF (sF M 503 (x + 49) (nI q)) 505 (x + 49) (nI (dvl g q z)) = sF (sF M 505 (x + 49) (nI (dvl g q z))) 503 (x + 49) (nI q) := fun M => by
              have e : zu (zu M.1 503 (x + 49) (nI q)) 505 (x + 49) (nI (dvl g q z)) = zu (zu M.1 505 (x + 49) (nI (dvl g q z))) 503 (x + 49) (nI q) := by
                funext k' a'
                unfold zu
                by_cases d1 : k' = 505 ∧ a' = x + 49
                · rw [if_pos d1, if_neg (by omega), if_pos d1]
                · rw [if_neg d1]
                  by_cases d2 : k' = 503 ∧ a' = x + 49
                  · rw [if_pos d2, if_pos d2]
                  · rw [if_neg d2, if_neg d2, if_neg d1]
              unfold sF
              show (zu (zu M.1 503 (x + 49) (nI q)) 505 (x + 49) (nI (dvl g q z)), _) = _
              rw [e]
            rw [this, sF_2]
          rw [cm]
        · rw [if_neg cr]
          have : (decide (dvl g q z < lo) || decide (hi < dvl g q z)) = true := by
            by_cases d1 : dvl g q z < lo
            · rw [decide_eq_true d1]; rfl
            · rw [decide_eq_true (show hi < dvl g q z by omega), Bool.or_true]
          rw [this, if_pos rfl]; rfl
  · rw [decide_eq_false (fun y => c (dz.mp y))]
    exact Or.inl ⟨fun y => c y.2, bad⟩
end zN8
