/-! A NET BEGINS, in the class -/
def bgc (N : zN) (e : Nat) (S : zS) : zS := sp_clr e (nI (tE N e)) (sp_dm e S)
def bgt (b : Nat) (S : zS) : zS := zu (zu S 27 b 0) 47 b 1
/-- before the choices -/
def xbg (N : zN) (H : Nat → Int32) (S : zS) : zS := pfold bgt (nB N) (pfold (bgc N) (2 * nL N) (bg1 N H S))
section zF1
variable {N N0 : zN} {s w w0 : Nat} {μ0 μ μ' μ1 : zM} {S : zS} {H : Nat → Int32} {f i n e b : Nat}
theorem C_bg1 (nw : NW N) (hi : WI N w μ) (hw : w + 13 ≤ s ∨ s + 261 ≤ w) (hr : gR μ 812 s = some w) : ∃ μ', zloop (fun q => f8_beginAsTold_L1 s q.1 q.2) 1000000 (0, μ) = some (nI (nB N), μ') ∧ (∀ k a, gF μ' k a = if k = 5 ∧ ∃ b, b < nB N ∧ a = s + 13 + 3 * b then nI (tPr N ((a - (s + 13)) / 3)) else gF μ k a) ∧ (∀ k a, gB μ' k a = if k = 3 ∧ ∃ b, b < nB N ∧ a = s + 13 + 3 * b then true else if k = 4 ∧ ∃ b, b < nB N ∧ a = s + 13 + 3 * b then ceq (nI (tOl N ((a - (s + 13)) / 3))) 1 else gB μ k a) ∧ (∀ a j, gZ μ' a j = gZ μ a j) ∧ (∀ a j, gA μ' a j = gA μ a j) ∧ (∀ k a, gR μ' k a = gR μ k a) ∧ ∀ a j, gX μ' a j = gX μ a j := by
  have b8 := nw.b8
  obtain ⟨μ2, e2, h2⟩ := lp (Q := fun μ' n => (∀ k a, gF μ' k a = if k = 5 ∧ ∃ b, b < n ∧ a = s + 13 + 3 * b then nI (tPr N ((a - (s + 13)) / 3)) else gF μ k a) ∧ (∀ k a, gB μ' k a = if k = 3 ∧ ∃ b, b < n ∧ a = s + 13 + 3 * b then true else if k = 4 ∧ ∃ b, b < n ∧ a = s + 13 + 3 * b then ceq (nI (tOl N ((a - (s + 13)) / 3))) 1 else gB μ k a) ∧ (∀ a j, gZ μ' a j = gZ μ a j) ∧ (∀ a j, gA μ' a j = gA μ a j) ∧ (∀ k a, gR μ' k a = gR μ k a) ∧ ∀ a j, gX μ' a j = gX μ a j) (body := fun q => f8_beginAsTold_L1 s q.1 q.2) nI (fun i (_ : Nat) => i + 1) (nB N) (S := 0) (μ := μ) (x0 := 0) (by
    intro i μ1 hb q1
    rw [pf_n] at q1
    obtain ⟨z1, z2, z3, z4, z5, z6⟩ := q1
    show ∃ μ', f8_beginAsTold_L1 s (nI i) μ1 = some (.inl (nI (i + 1), μ')) ∧ ((∀ k a, gF μ' k a = if k = 5 ∧ ∃ b, b < i + 1 ∧ a = s + 13 + 3 * b then nI (tPr N ((a - (s + 13)) / 3)) else gF μ k a) ∧ (∀ k a, gB μ' k a = if k = 3 ∧ ∃ b, b < i + 1 ∧ a = s + 13 + 3 * b then true else if k = 4 ∧ ∃ b, b < i + 1 ∧ a = s + 13 + 3 * b then ceq (nI (tOl N ((a - (s + 13)) / 3))) 1 else gB μ k a) ∧ (∀ a j, gZ μ' a j = gZ μ a j) ∧ (∀ a j, gA μ' a j = gA μ a j) ∧ (∀ k a, gR μ' k a = gR μ k a) ∧ ∀ a j, gX μ' a j = gX μ a j)
    have ex : ∀ a, (∃ b, b < i + 1 ∧ a = s + 13 + 3 * b) ↔ a = s + 13 + 3 * i ∨ ∃ b, b < i ∧ a = s + 13 + 3 * b := fun a => by
      constructor
      · intro ⟨b, h1, h2⟩
        by_cases c : b = i
        · exact Or.inl (by rw [h2, c])
        · exact Or.inr ⟨b, by omega, h2⟩
      · intro h
        rcases h with h | ⟨b, h1, h2⟩
        · exact ⟨i, by omega, h⟩
        · exact ⟨b, by omega, h2⟩
    have g1 : gF μ1 1015 w = nI (nB N) := by rw [z1, if_neg (fun x => absurd x.1 (by omega))]; exact hi.1.1
    have g2 := hi.2.2.2.2.2.1 i hb
    have g3 : gZ μ (w + 4) i = ceq (nI (tOl N i)) 1 := by rw [← g2.2, bI_c]
    unfold f8_beginAsTold_L1
    rw [z5, hr, obs, g1, clt_nI (by omega) (by omega), decide_eq_true hb, if_pos rfl, rI_nI (by omega) (by omega), obs]
    simp only [wB, wF, obs]
    rw [show gR (sB μ1 3 (s + 13 + 3 * i) true) 812 s = some w from (z5 812 s).trans hr, obs, rA_nI (by omega) (by omega), obs]
    rw [show ∀ v, gR (sF (sB μ1 3 (s + 13 + 3 * i) true) 5 (s + 13 + 3 * i) v) 812 s = some w from fun v => (z5 812 s).trans hr, obs, rZ_nI (by omega) (by omega), obs, nI_1]
    refine ⟨_, rfl, fun k a => ?_, fun k a => ?_, fun a j => z3 a j, fun a j => z4 a j, fun k a => z5 k a, fun a j => z6 a j⟩
    · rw [gF_sB, gF_sF, gF_sB, z1]
      rw [show gA (sB μ1 3 (s + 13 + 3 * i) true) (w + 3) i = nI (tPr N i) from (z4 _ _).trans g2.1]
      by_cases c : k = 5 ∧ a = s + 13 + 3 * i
      · rw [if_pos c, if_pos ⟨c.1, (ex a).mpr (Or.inl c.2)⟩, c.2, show (s + 13 + 3 * i - (s + 13)) / 3 = i by omega]
      · rw [if_neg c]
        by_cases c2 : k = 5 ∧ ∃ b, b < i ∧ a = s + 13 + 3 * b
        · rw [if_pos c2, if_pos ⟨c2.1, (ex a).mpr (Or.inr c2.2)⟩]
        · rw [if_neg c2, if_neg (fun x => by
            rcases (ex a).mp x.2 with y | y
            · exact c ⟨x.1, y⟩
            · exact c2 ⟨x.1, y⟩)]
    · rw [gB_sB, gB_sF, gB_sB, z2]
      rw [show ∀ v, gZ (sF (sB μ1 3 (s + 13 + 3 * i) true) 5 (s + 13 + 3 * i) v) (w + 4) i = ceq (nI (tOl N i)) 1 from fun v => (z3 _ _).trans g3]
      by_cases c4 : k = 4 ∧ a = s + 13 + 3 * i
      · rw [if_pos c4, if_neg (fun x => absurd x.1 (by omega)), if_pos ⟨c4.1, (ex a).mpr (Or.inl c4.2)⟩, c4.2, show (s + 13 + 3 * i - (s + 13)) / 3 = i by omega]
      · rw [if_neg c4]
        by_cases c3 : k = 3 ∧ a = s + 13 + 3 * i
        · rw [if_pos c3, if_pos ⟨c3.1, (ex a).mpr (Or.inl c3.2)⟩]
        · rw [if_neg c3]
          by_cases d3 : k = 3 ∧ ∃ b, b < i ∧ a = s + 13 + 3 * b
          · rw [if_pos d3, if_pos ⟨d3.1, (ex a).mpr (Or.inr d3.2)⟩]
          · rw [if_neg d3, if_neg (show ¬ (k = 3 ∧ ∃ b, b < i + 1 ∧ a = s + 13 + 3 * b) from fun x => by
              rcases (ex a).mp x.2 with y | y
              · exact c3 ⟨x.1, y⟩
              · exact d3 ⟨x.1, y⟩)]
            by_cases d4 : k = 4 ∧ ∃ b, b < i ∧ a = s + 13 + 3 * b
            · rw [if_pos d4, if_pos ⟨d4.1, (ex a).mpr (Or.inr d4.2)⟩]
            · rw [if_neg d4, if_neg (show ¬ (k = 4 ∧ ∃ b, b < i + 1 ∧ a = s + 13 + 3 * b) from fun x => by
                rcases (ex a).mp x.2 with y | y
                · exact c4 ⟨x.1, y⟩
                · exact d4 ⟨x.1, y⟩)]) (by
    intro μ1 q1
    rw [pf_n] at q1
    obtain ⟨z1, z2, z3, z4, z5, z6⟩ := q1
    show f8_beginAsTold_L1 s (nI (nB N)) μ1 = _
    have g1 : gF μ1 1015 w = nI (nB N) := by rw [z1, if_neg (fun x => absurd x.1 (by omega))]; exact hi.1.1
    unfold f8_beginAsTold_L1
    rw [z5, hr, obs, g1, clt_nI (by omega) (by omega), decide_eq_false (by omega), if_neg (by decide)]) (by omega) ⟨fun k a => (if_neg (fun x => by obtain ⟨_, b, h1, _⟩ := x; omega)).symm, fun k a => by rw [if_neg (fun x => by obtain ⟨_, b, h1, _⟩ := x; omega), if_neg (fun x => by obtain ⟨_, b, h1, _⟩ := x; omega)], fun _ _ => rfl, fun _ _ => rfl, fun _ _ => rfl, fun _ _ => rfl⟩
  rw [pf_n] at h2
  exact ⟨μ2, e2, h2⟩
theorem C_bg2 (nw : NW N) (hL : gF μ 1016 w = nI (nL N)) (hr : gR μ 812 s = some w) : ∃ μ', zloop (fun q => f8_beginAsTold_L2 s q.1 q.2) 1000000 (0, μ) = some (nI (nL N), μ') ∧ (∀ a j, gZ μ' a j = if a = s + 4 ∧ j < nL N then true else gZ μ a j) ∧ (∀ k a, gF μ' k a = gF μ k a) ∧ (∀ k a, gB μ' k a = gB μ k a) ∧ (∀ a j, gA μ' a j = gA μ a j) ∧ (∀ k a, gR μ' k a = gR μ k a) ∧ ∀ a j, gX μ' a j = gX μ a j := by
  have l14 := nw.l14
  obtain ⟨μ2, e2, h2⟩ := lp (Q := fun μ' n => (∀ a j, gZ μ' a j = if a = s + 4 ∧ j < n then true else gZ μ a j) ∧ (∀ k a, gF μ' k a = gF μ k a) ∧ (∀ k a, gB μ' k a = gB μ k a) ∧ (∀ a j, gA μ' a j = gA μ a j) ∧ (∀ k a, gR μ' k a = gR μ k a) ∧ ∀ a j, gX μ' a j = gX μ a j) (body := fun q => f8_beginAsTold_L2 s q.1 q.2) nI (fun i (_ : Nat) => i + 1) (nL N) (S := 0) (μ := μ) (x0 := 0) (by
    intro i μ1 hb q1
    rw [pf_n] at q1
    obtain ⟨z1, z2, z3, z4, z5, z6⟩ := q1
    show ∃ μ', f8_beginAsTold_L2 s (nI i) μ1 = some (.inl (nI (i + 1), μ')) ∧ ((∀ a j, gZ μ' a j = if a = s + 4 ∧ j < i + 1 then true else gZ μ a j) ∧ (∀ k a, gF μ' k a = gF μ k a) ∧ (∀ k a, gB μ' k a = gB μ k a) ∧ (∀ a j, gA μ' a j = gA μ a j) ∧ (∀ k a, gR μ' k a = gR μ k a) ∧ ∀ a j, gX μ' a j = gX μ a j)
    unfold f8_beginAsTold_L2
    rw [z5, hr, obs, z2, hL, clt_nI (by omega) (by omega), decide_eq_true hb, if_pos rfl, wZ_nI (by omega) (by omega), obs, obs, nI_1]
    refine ⟨_, rfl, fun a j => ?_, z2, z3, z4, z5, z6⟩
    rw [gZ_sZ, z1]
    by_cases c : a = s + 4 ∧ j = i
    · rw [if_pos c, if_pos (by omega)]
    · rw [if_neg c]
      by_cases c2 : a = s + 4 ∧ j < i
      · rw [if_pos c2, if_pos (by omega)]
      · rw [if_neg c2, if_neg (by omega)]) (by
    intro μ1 q1
    rw [pf_n] at q1
    obtain ⟨z1, z2, z3, z4, z5, z6⟩ := q1
    show f8_beginAsTold_L2 s (nI (nL N)) μ1 = _
    unfold f8_beginAsTold_L2
    rw [z5, hr, obs, z2, hL, clt_nI (by omega) (by omega), decide_eq_false (by omega), if_neg (by decide)]) (by omega) ⟨fun a j => (if_neg (by omega)).symm, fun _ _ => rfl, fun _ _ => rfl, fun _ _ => rfl, fun _ _ => rfl, fun _ _ => rfl⟩
  rw [pf_n] at h2
  exact ⟨μ2, e2, h2⟩
end zF1
