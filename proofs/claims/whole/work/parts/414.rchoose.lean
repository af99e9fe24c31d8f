/-! SPEC: shutting and other numbers of a port, in either order; REFERENCE: choosing -/
theorem pf_comm {σ : Type} {g : Nat → σ → σ} {c : σ → σ} (h : ∀ i S, g i (c S) = c (g i S)) : ∀ (n : Nat) (S : σ), pfold g n (c S) = c (pfold g n S)
  | 0, S => rfl
  | n + 1, S => by rw [pf_s, pf_s, pf_comm h n S, h]
theorem zu_comm {S : zS} {f i f' i' : Nat} {v v' : Int32} (h : f ≠ f') : zu (zu S f i v) f' i' v' = zu (zu S f' i' v') f i v := by
  funext g j
  unfold zu
  by_cases c : g = f ∧ j = i
  · rw [if_neg (show ¬ (g = f' ∧ j = i') from fun x => h (c.1.symm.trans x.1)), if_pos c, if_pos c]
  · rw [if_neg c, if_neg c]
section zR4
variable {N : zN} {m B : Nat} {ν0 ν ν' : zM} {S S' : zS} {R R' : Nat → Int32} {e b l h k : Nat}
theorem row_c {f i : Nat} {x v : Int32} (h1 : f ≠ 44) (h2 : f ≠ 45) : sp_row N e v (zu S f i x) = zu (sp_row N e v S) f i x := by
  have t : tN (zu S f i x) = tN S := by unfold tN; rw [show zu S f i x 44 3 = S 44 3 from if_neg (by omega)]
  have a : ∀ j, zu S f i x 45 j = S 45 j := fun j => if_neg (by omega)
  have a0 : zu S f i x 44 0 = S 44 0 := if_neg (by omega)
  funext g j
  unfold sp_row
  rw [t]
  simp only [a, a0]
  by_cases c : tN S = 40
  · simp only [if_pos c]
    show (if g = 45 then _ else zu S f i x g j) = (if g = f ∧ j = i then x else if g = 45 then _ else S g j)
    by_cases c2 : g = 45
    · rw [if_pos c2, if_neg (show ¬ (g = f ∧ j = i) by omega), if_pos c2]
    · rw [if_neg c2, if_neg c2]; rfl
  · simp only [if_neg c]
    show (if g = 45 then _ else if g = 44 ∧ j = 3 then _ else zu S f i x g j) = (if g = f ∧ j = i then x else if g = 45 then _ else if g = 44 ∧ j = 3 then _ else S g j)
    by_cases c2 : g = 45
    · rw [if_pos c2, if_neg (show ¬ (g = f ∧ j = i) by omega), if_pos c2]
    · rw [if_neg c2, if_neg c2]
      by_cases c3 : g = 44 ∧ j = 3
      · rw [if_pos c3, if_neg (show ¬ (g = f ∧ j = i) by omega), if_pos c3]
      · rw [if_neg c3, if_neg c3]; rfl
theorem enter_c {f i : Nat} {x v : Int32} (h0 : f ≠ 1) (h1 : f ≠ 44) (h2 : f ≠ 45) (h3 : f ≠ 46) : sp_enter N e v (zu S f i x) = zu (sp_enter N e v S) f i x := by
  unfold sp_enter
  rw [show zu S f i x 46 0 = S 46 0 from if_neg (by omega), zu_comm h0, row_c h1 h2]
  split <;> rfl
theorem forget_c {f i : Nat} {x : Int32} (h0 : f ≠ 42) : sp_forget N e (zu S f i x) = zu (sp_forget N e S) f i x := by
  unfold sp_forget
  refine pf_comm (c := fun S => zu S f i x) (fun h S => ?_) 8 S
  show (if ceq (zu S f i x 42 (bo N e * 8 + h)) (nI (po N e)) = true then zu (zu S f i x) 42 (bo N e * 8 + h) (-1) else zu S f i x) = zu (if ceq (S 42 (bo N e * 8 + h)) (nI (po N e)) = true then zu S 42 (bo N e * 8 + h) (-1) else S) f i x
  rw [show zu S f i x 42 (bo N e * 8 + h) = S 42 (bo N e * 8 + h) from if_neg (by omega), zu_comm h0]
  split <;> rfl
theorem shut_c {f i : Nat} {x : Int32} (h0 : f ≠ 1) (h1 : f ≠ 44) (h2 : f ≠ 45) (h3 : f ≠ 46) (h4 : f ≠ 42) : sp_shut N e (zu S f i x) = zu (sp_shut N e S) f i x := by
  unfold sp_shut
  rw [show zu S f i x 1 e = S 1 e from if_neg (by omega), enter_c h0 h1 h2 h3, forget_c h4]
  split <;> rfl
theorem R_isRoot (q : MS N m B ν0 ν S) (hb : b < nB N) {p : Nat} (hp : p < nP N b) (hw : S 48 p = S 49 (eo N b p)) (hr : ceq (S 0 (eo N b p)) 1 = true) {mv : Int32} : ∃ ν', f12_isRoot m (nI (pl N (eo N b p))) (S 48 p) ν = some ν' ∧ MS N m B ν0 ν' (sp_setl N b mv p S) := by
  have nw := q.nw
  have ql := nw.eo_l hb hp
  have qp := nw.pl_48 ql
  obtain ⟨ν1, e1, q1⟩ := q.s4 ql (v := 0) (Or.inl rfl)
  unfold f12_isRoot sp_setl
  rw [if_pos hr, e1, obs, iDivR6 (by omega), nw.pl_d ql, nw.bo_eo hb hp, obs, q1.b2 hb, obs, hw]
  have hz : zu S 4 (eo N b p) 0 22 b = S 22 b := rfl
  rw [hz, c01 (q.1.2.2.2.1 b hb).2]
  by_cases c : ceq (S 22 b) 1 = true
  · rw [c]
    simp only [Bool.not_true, Bool.false_eq_true, ↓reduceIte]
    by_cases c2 : ((!(ceq (S 49 (eo N b p)) 1)) && (!(ceq (S 49 (eo N b p)) 2))) = true
    · simp only [if_pos c2, q1.g_dl]
      obtain ⟨ν2, e2, q2⟩ := q1.s2 ql (v := nI (nDl N))
      exact ⟨ν2, by rw [e2]; rfl, q2⟩
    · simp only [if_neg c2]
      exact ⟨_, rfl, q1⟩
  · rw [if_neg c, Bool.eq_false_iff.mpr c, if_pos (by rfl)]
    obtain ⟨ν2, e2, q2⟩ := R_open q1 ql
    exact ⟨ν2, by rw [e2]; rfl, q2⟩
theorem R_isBehind (q : MS N m B ν0 ν S) (hb : b < nB N) {p : Nat} (hp : p < nP N b) (h0 : ceq (S 0 (eo N b p)) 0 = false) (h1 : ceq (S 0 (eo N b p)) 1 = false) (h2 : ceq (S 0 (eo N b p)) 2 = false) {mv : Int32} : ∃ ν', f12_isBehind m (nI (pl N (eo N b p))) ν = some ν' ∧ MS N m B ν0 ν' (sp_setl N b mv p S) := by
  have nw := q.nw
  have ql := nw.eo_l hb hp
  obtain ⟨ν1, e1, q1⟩ := q.s4 ql (v := 0) (Or.inl rfl)
  obtain ⟨ν2, e2, q2⟩ := R_shut q1 ql
  obtain ⟨ν3, e3, q3⟩ := q2.s2 ql (v := 0)
  obtain ⟨ν4, e4, q4⟩ := q3.s3 ql (v := 0)
  obtain ⟨ν5, e5, q5⟩ := q4.s8 ql (v := 0) (Or.inl rfl)
  unfold f12_isBehind sp_setl
  rw [h0, h1, h2]
  simp only [Bool.false_eq_true, ↓reduceIte]
  rw [shut_c (f := 8) (by omega) (by omega) (by omega) (by omega) (by omega), shut_c (f := 3) (by omega) (by omega) (by omega) (by omega) (by omega), shut_c (f := 2) (by omega) (by omega) (by omega) (by omega) (by omega)]
  exact ⟨ν5, by rw [e1, obs, e2, obs, e3, obs, e4, obs, e5]; rfl, q5⟩
theorem R_isDes (q : MS N m B ν0 ν S) (hb : b < nB N) {p : Nat} (hp : p < nP N b) (hw : S 48 p = S 49 (eo N b p)) (h1 : ceq (S 0 (eo N b p)) 1 = false) (h2 : ceq (S 0 (eo N b p)) 2 = true) {mv : Int32} {io iw : Bool} (hio : S 49 (eo N b p) = 2 → io = !(ceq mv 0) ∧ iw = clt mv 0) : ∃ ν', f12_isDesignated m (nI (pl N (eo N b p))) (S 48 p) io iw ν = some ν' ∧ MS N m B ν0 ν' (sp_setl N b mv p S) := by
  have nw := q.nw
  have ql := nw.eo_l hb hp
  obtain ⟨ν1, e1, q1⟩ := q.s10 ql
  obtain ⟨ν2, e2, q2⟩ := q1.s7 ql (v := 0) (Or.inl rfl)
  unfold f12_isDesignated sp_setl
  rw [h1, h2, e1, obs, e2, obs, hw]
  simp only [Bool.false_eq_true, ↓reduceIte]
  by_cases c : ceq (S 49 (eo N b p)) 2 = true
  · rw [c]
    simp only [↓reduceIte]
    obtain ⟨o1, o2⟩ := hio (ceq_of c)
    rw [o1, o2]
    by_cases c2 : ceq mv 0 = true
    · rw [c2, clt_ceq c2]
      exact ⟨_, rfl, q2⟩
    · rw [Bool.eq_false_iff.mpr c2]
      simp only [Bool.not_false, ↓reduceIte, Bool.false_eq_true]
      obtain ⟨ν3, e3, q3⟩ := q2.s9 ql (v := 1) (Or.inr rfl)
      rw [e3, obs]
      by_cases c3 : clt mv 0 = true
      · simp only [if_pos c3]
        obtain ⟨ν4, e4, q4⟩ := q3.s4 ql (v := 0) (Or.inl rfl)
        exact ⟨ν4, by rw [e4]; rfl, q4⟩
      · simp only [if_neg c3]
        exact ⟨_, rfl, q3⟩
  · rw [Bool.eq_false_iff.mpr c]
    simp only [Bool.false_eq_true, ↓reduceIte]
    obtain ⟨ν3, e3, q3⟩ := q2.s4 ql (v := 0) (Or.inl rfl)
    obtain ⟨ν4, e4, q4⟩ := q3.s9 ql (v := 1) (Or.inr rfl)
    rw [e3, obs, e4, obs, q4.p5 ql, obs]
    show ∃ ν', (if ceq (S 5 (eo N b p)) 1 = true then _ else _) = _ ∧ _
    by_cases c2 : ceq (S 5 (eo N b p)) 1 = true
    · simp only [if_pos c2]
      obtain ⟨ν5, e5, q5⟩ := R_open q4 ql
      exact ⟨ν5, by rw [e5]; rfl, q5⟩
    · simp only [if_neg c2]
      obtain ⟨ν5, e5, q5⟩ := R_shut q4 ql
      obtain ⟨ν6, e6, q6⟩ := q5.s2 ql (v := nI (nDl N))
      rw [shut_c (f := 2) (by omega) (by omega) (by omega) (by omega) (by omega)]
      exact ⟨ν6, by rw [e5, obs, q5.g_dl, e6]; rfl, q6⟩
end zR4
