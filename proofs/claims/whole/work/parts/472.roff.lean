/-! A BRIDGE GOES OFF: the reference's loops -/
/-- a link that is up and ends at `b` -/
def atb (N : zN) (b l : Nat) (S : zS) : Bool := upl N S l && (decide (bo N (2 * l) = b) || decide (bo N (2 * l + 1) = b))
def rq_off1 (N : zN) (b l : Nat) (S : zS) : zS := if atb N b l S = true then rq_down N (2 * l + 1) (rq_down N (2 * l) (zu (zu S 38 (bo N (2 * l)) 1) 38 (bo N (2 * l + 1)) 1)) else S
section zR27
variable {N : zN} {m B : Nat} {ν0 ν ν' : zM} {S S' X : zS} {e e1 e2 b a l h k n t st f i : Nat}
theorem offC_47 (h0 : S 47 a = 0) : ∀ n, (pfold (sq_off1 N b) n S 47 a = 1 ↔ ∃ p, p < n ∧ a = bo N (fe (eo N b p)) ∧ up N S (eo N b p) = true) ∧ (pfold (sq_off1 N b) n S 47 a = 0 ∨ pfold (sq_off1 N b) n S 47 a = 1)
  | 0 => ⟨⟨fun h => by have h : S 47 a = 1 := h; rw [h0] at h; exact absurd h (by decide), fun ⟨p, hp, _⟩ => absurd hp (by omega)⟩, Or.inl h0⟩
  | n + 1 => by
    obtain ⟨i1, i2⟩ := offC_47 h0 n
    have z : pfold (sq_off1 N b) (n + 1) S = sq_off1 N b n (pfold (sq_off1 N b) n S) := rfl
    rw [z, off1_eq, offC_up, dn2_f (by omega) (by omega), if_neg (by omega)]
    generalize pfold (sq_off1 N b) n S = Y at *
    by_cases c : a = bo N (fe (eo N b n))
    · have w : zu Y 47 (bo N (fe (eo N b n))) (bI (ceq (Y 47 (bo N (fe (eo N b n)))) 1 || up N S (eo N b n))) 47 a = bI (ceq (Y 47 a) 1 || up N S (eo N b n)) := by rw [← c]; exact if_pos ⟨rfl, rfl⟩
      rw [w]
      cases hu : up N S (eo N b n) with
      | true =>
        rw [Bool.or_true]
        exact ⟨⟨fun _ => ⟨n, by omega, c, hu⟩, fun _ => rfl⟩, Or.inr rfl⟩
      | false =>
        rw [Bool.or_false]
        have w2 : bI (ceq (Y 47 a) 1) = Y 47 a := by rcases i2 with x | x <;> rw [x] <;> rfl
        rw [w2]
        refine ⟨⟨fun h => ?_, fun ⟨p, hp, x1, x2⟩ => i1.mpr ⟨p, ?_, x1, x2⟩⟩, i2⟩
        · obtain ⟨p, hp, x⟩ := i1.mp h
          exact ⟨p, by omega, x⟩
        · by_cases c3 : p < n
          · exact c3
          · rw [show p = n by omega, hu] at x2; cases x2
    · have w : zu Y 47 (bo N (fe (eo N b n))) (bI (ceq (Y 47 (bo N (fe (eo N b n)))) 1 || up N S (eo N b n))) 47 a = Y 47 a := if_neg (fun x => c x.2)
      rw [w]
      refine ⟨⟨fun h => ?_, fun ⟨p, hp, x1, x2⟩ => i1.mpr ⟨p, ?_, x1, x2⟩⟩, i2⟩
      · obtain ⟨p, hp, x⟩ := i1.mp h
        exact ⟨p, by omega, x⟩
      · by_cases c3 : p < n
        · exact c3
        · rw [show p = n by omega] at x1; exact absurd x1 c
theorem R_off1 (q : MS N m B ν0 ν S) : ∃ ν', zloop (fun s => f12_isOff_L1 m s.1 s.2) 1000000 (0, ν) = some (nI 8, ν') ∧ MS N m B ν0 ν' (pfold (fun i S => zu S 38 i 0) 8 S) :=
  lp (Q := MS N m B ν0) (body := fun s => f12_isOff_L1 m s.1 s.2) nI (fun i S => zu S 38 i 0) 8 (S := S) (μ := ν) (x0 := 0) (by
    intro i ν1 hi q1
    generalize pfold (fun i S => zu S 38 i 0) i S = S1 at *
    show ∃ ν', f12_isOff_L1 m (nI i) ν1 = some (.inl (nI (i + 1), ν')) ∧ _
    obtain ⟨e2, q2⟩ := q1.w_con (v := 0) hi
    unfold f12_isOff_L1
    rw [cltR8 (by omega), decide_eq_true hi, if_pos rfl, e2, obs, obs, nI_1]
    exact ⟨_, rfl, q2⟩) (by
    intro ν1 q1
    rfl) (by omega) q
theorem R_off2 (q : MS N m B ν0 ν S) (hb : b < nB N) (hl : l < nL N) : ∃ ν', f12_isOff_L2 m (nI b) (nI l) ν = some (.inl (nI (l + 1), ν')) ∧ MS N m B ν0 ν' (rq_off1 N b l S) := by
  have nw := q.nw
  have b8 := nw.b8; have l14 := nw.l14
  have x0 := nw.bo_b (show 2 * l < 2 * nL N by omega)
  have x1 := nw.bo_b (show 2 * l + 1 < 2 * nL N by omega)
  have hc : (((f12_isUpLink m (nI l) ν).bind fun t26 => some (!t26)).bind fun b22 => if b22 = true then (some true) else (((rA ν (m + 4) 56 (4 * nI l)).bind fun t25 => some (!(ceq t25 (nI b)))).bind fun b23 => if b23 = true then ((rA ν (m + 4) 56 ((4 * nI l) + 2)).bind fun t24 => some (!(ceq t24 (nI b)))) else (some false))) = some (!(atb N b l S)) := by
    rw [q.upl_ hl, obs, obs, q.ends0 hl, obs, obs, q.ends2 hl, obs, ceq_nI (by omega) (by omega), ceq_nI (by omega) (by omega)]
    unfold atb
    cases upl N S l <;> cases decide (bo N (2 * l) = b) <;> cases decide (bo N (2 * l + 1) = b) <;> rfl
  unfold f12_isOff_L2 rq_off1
  rw [q.g_l, clt_nI (by omega) (by omega), decide_eq_true hl, if_pos rfl, hc, obs]
  cases c : atb N b l S with
  | false =>
    rw [if_pos (show (!false) = true from rfl), obs, nI_1, if_neg (by decide)]
    exact ⟨ν, rfl, q⟩
  | true =>
    rw [if_neg (show ¬ (!true) = true by decide), if_pos rfl]
    obtain ⟨e1, q1⟩ := q.w_con (v := 1) (show bo N (2 * l) < 8 by omega)
    obtain ⟨e2, q2⟩ := q1.w_con (v := 1) (show bo N (2 * l + 1) < 8 by omega)
    obtain ⟨ν3, e3, q3⟩ := R_down q2 (show 2 * l < 2 * nL N by omega)
    obtain ⟨ν4, e4, q4⟩ := R_down q3 (show 2 * l + 1 < 2 * nL N by omega)
    rw [q.ends0 hl, obs, e1, obs, q1.ends2 hl, obs, e2, obs, q2.poe0 hl, obs, e3, obs, q3.poe1 hl, obs, e4, obs, obs, nI_1]
    exact ⟨ν4, rfl, q4⟩
theorem R_off2s (q : MS N m B ν0 ν S) (hb : b < nB N) : ∃ ν', zloop (fun s => f12_isOff_L2 m (nI b) s.1 s.2) 1000000 (0, ν) = some (nI (nL N), ν') ∧ MS N m B ν0 ν' (pfold (rq_off1 N b) (nL N) S) := by
  have l14 := q.nw.l14
  exact lp (Q := MS N m B ν0) (body := fun s => f12_isOff_L2 m (nI b) s.1 s.2) nI (rq_off1 N b) (nL N) (S := S) (μ := ν) (x0 := 0) (fun i ν1 hi q1 => R_off2 q1 hb hi) (by
    intro ν1 q1
    show f12_isOff_L2 m (nI b) (nI (nL N)) ν1 = _
    unfold f12_isOff_L2
    rw [q1.g_l, clt_nI (by omega) (by omega), decide_eq_false (by omega), if_neg (by decide)]) (by omega) q
theorem R_off3 (q : MS N m B ν0 ν S) (hb : b < nB N) : ∃ ν', zloop (fun s => f12_isOff_L3 m (nI b) s.1 s.2) 1000000 (0, ν) = some (nI (nH N), ν') ∧ MS N m B ν0 ν' (pfold (fun h S => zu S 42 (b * 8 + h) (-1)) (nH N) S) := by
  have h8 := q.nw.h8
  exact lp (Q := MS N m B ν0) (body := fun s => f12_isOff_L3 m (nI b) s.1 s.2) nI (fun h S => zu S 42 (b * 8 + h) (-1)) (nH N) (S := S) (μ := ν) (x0 := 0) (by
    intro i ν1 hi q1
    generalize pfold (fun h S => zu S 42 (b * 8 + h) (-1)) i S = S1 at *
    show ∃ ν', f12_isOff_L3 m (nI b) (nI i) ν1 = some (.inl (nI (i + 1), ν')) ∧ _
    obtain ⟨ν2, e2, q2⟩ := q1.pa hb hi (v := -1) (Or.inl rfl)
    unfold f12_isOff_L3
    rw [q1.g_h, clt_nI (by omega) (by omega), decide_eq_true hi, if_pos rfl, adAt, obs, e2, obs, obs, nI_1]
    exact ⟨_, rfl, q2⟩) (by
    intro ν1 q1
    show f12_isOff_L3 m (nI b) (nI (nH N)) ν1 = _
    unfold f12_isOff_L3
    rw [q1.g_h, clt_nI (by omega) (by omega), decide_eq_false (by omega), if_neg (by decide)]) (by omega) q
end zR27
