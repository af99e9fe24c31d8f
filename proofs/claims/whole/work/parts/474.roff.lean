/-! A BRIDGE GOES OFF: the reference's list -/
section zR29
variable {N : zN} {S S0 : zS} {b : Nat}
theorem SL.rn2 {l : Nat} (h : SL S) : SL (rq_dn2 N l S) := by
  unfold rq_dn2
  exact h.rqd.rqd
theorem offs_ls (h : SL S) : ∀ n, SL (pfold (rq_offs N b S0) n S) ∧ ∀ L : List Nat, (∀ q ∈ lS S, (q ∈ L ↔ ∀ l, l < n → ¬ (atb N b l S0 = true ∧ q / 3 / 2 = l))) → lS (pfold (rq_offs N b S0) n S) = (lS S).filter (fun q => decide (q ∈ L))
  | 0 => ⟨h, fun L hL => by
      refine (List.filter_eq_self.mpr (fun q hq => ?_)).symm
      exact decide_eq_true ((hL q hq).mpr (fun p hp => absurd hp (by omega)))⟩
  | n + 1 => by
    obtain ⟨i1, i2⟩ := offs_ls h n
    have z : pfold (rq_offs N b S0) (n + 1) S = rq_offs N b S0 n (pfold (rq_offs N b S0) n S) := rfl
    rw [z]
    generalize pfold (rq_offs N b S0) n S = Y at *
    unfold rq_offs
    cases c : atb N b n S0 with
    | false =>
      rw [if_neg (by decide)]
      refine ⟨i1, fun L hL => i2 L (fun q hq => ?_)⟩
      rw [hL q hq]
      constructor
      · intro x l hl
        exact x l (by omega)
      · intro x l hl y
        by_cases c3 : l < n
        · exact x l c3 y
        · rw [show l = n by omega, c] at y
          exact absurd y.1 Bool.false_ne_true
    | true =>
      rw [if_pos rfl]
      have e1 : lS (zu (zu Y 38 (bo N (2 * n)) 1) 38 (bo N (2 * n + 1)) 1) = lS Y := lS_38.trans lS_38
      refine ⟨SL.rn2 (i1.eq e1), fun L hL => ?_⟩
      rw [rn2_ls (i1.eq e1), e1]
      have w : ∃ L' : List Nat, ∀ q ∈ lS S, (q ∈ L' ↔ ∀ l, l < n → ¬ (atb N b l S0 = true ∧ q / 3 / 2 = l)) := ⟨(lS S).filter (fun q => decide (∀ l, l < n → ¬ (atb N b l S0 = true ∧ q / 3 / 2 = l))), fun q hq => by
        rw [List.mem_filter, decide_eq_true_iff]
        exact ⟨fun x => x.2, fun x => ⟨hq, x⟩⟩⟩
      obtain ⟨L', hL'⟩ := w
      rw [i2 L' hL', List.filter_filter]
      refine List.filter_congr (fun q hq => ?_)
      rw [Bool.eq_iff_iff, Bool.and_eq_true, Bool.not_eq_true', decide_eq_false_iff_not, decide_eq_true_iff, decide_eq_true_iff, hL' q hq, hL q hq]
      constructor
      · intro ⟨x1, x2⟩ l hl y
        by_cases c3 : l < n
        · exact x2 l c3 y
        · rw [show l = n by omega] at y; exact x1 y.2
      · intro x
        exact ⟨fun y => x n (by omega) ⟨c, y⟩, fun l hl => x l (by omega)⟩
end zR29
