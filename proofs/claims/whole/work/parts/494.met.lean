/-! LOOPS THAT MAY BE LEFT; whether all is as it is due -/
theorem lpX {σ τ A ρ : Type} {body : σ → Option (σ ⊕ (A ⊕ ρ))} (st : Nat → τ → σ) (P : Nat → τ → Prop) (n : Nat) (RA : A → Prop) (RR : ρ → Prop)
    (step : ∀ i x, i < n → P i x → (∃ y, body (st i x) = some (.inl (st (i + 1) y)) ∧ P (i + 1) y) ∨ ∃ a, body (st i x) = some (.inr (.inl a)) ∧ RA a) (out : ∀ x, P n x → ∃ r, body (st n x) = some (.inr (.inr r)) ∧ RR r) :
    ∀ (q i fuel : Nat) (x : τ), n - i = q → i ≤ n → q < fuel → P i x → (∃ a, zloop body fuel (st i x) = some (.inl a) ∧ RA a) ∨ ∃ r, zloop body fuel (st i x) = some (.inr r) ∧ RR r := by
  intro q
  induction q with
  | zero =>
    intro i fuel x h1 h2 h3 h4
    have e : i = n := by omega
    subst e
    obtain ⟨r, h5, h6⟩ := out x h4
    cases fuel with
    | zero => omega
    | succ f => exact Or.inr ⟨r, by simp [zloop, h5], h6⟩
  | succ q ih =>
    intro i fuel x h1 h2 h3 h4
    cases fuel with
    | zero => omega
    | succ f =>
      rcases step i x (by omega) h4 with ⟨y, h5, h6⟩ | ⟨a, h5, h6⟩
      · have z : zloop body (f + 1) (st i x) = zloop body f (st (i + 1) y) := by simp [zloop, h5]
        rw [z]
        exact ih (i + 1) f y (by omega) (by omega) (by omega) h6
      · exact Or.inl ⟨a, by simp [zloop, h5], h6⟩
def MetB (N : zN) (S : zS) (b : Nat) : Prop := S 20 b = 1 → S 23 b = idS S (rtR N S b) ∧ S 24 b = nI (wW N S (8 * b + rtR N S b)) ∧ S 25 b = oI (rpD N S b)
def MetE (N : zN) (S : zS) (e : Nat) : Prop := S 0 e = rlD N S e ∧ S 1 e = (if (ceq (rlD N S e) 1 || ceq (rlD N S e) 2) = true then 2 else 0)
def MetA (N : zN) (S : zS) : Prop := (∀ b, b < nB N → MetB N S b) ∧ ∀ e, e < 2 * nL N → MetE N S e
section zD7
variable {N : zN} {s w o m B : Nat} {μ0 μ ν0 ν : zM} {S T : zS} {b e i : Nat}
theorem ceq_iff {x y : Int32} : ceq x y = true ↔ x = y := ⟨ceq_of, ceq_t⟩
theorem C_met (q : DF N s w o S μ0 μ (wW N S) T) (hd : DOK N S T) : ∃ r, f1_isMet o s μ = some r ∧ (r = true ↔ MetA N S) := by
  have nw := q.1.1.nw
  have b8 := nw.b8; have l14 := nw.l14
  obtain ⟨hr, hp, hl⟩ := hd
  have h1 := lpX (body := fun x => f1_isMet_L1 o s μ x) (fun i (_ : Unit) => nI i) (fun i _ => ∀ b, b < i → MetB N S b) (nB N) (fun a => a = false ∧ ¬ MetA N S) (fun _ => ∀ b, b < nB N → MetB N S b) (by
    intro i x hi hm
    have start : f1_isMet_L1 o s μ (nI i) = if ceq (S 20 i) 1 = true then (if (!(ceq (S 23 i) (T 2 i)) || (!(ceq (S 24 i) (T 3 i)) || !(ceq (S 25 i) (T 4 i)))) = true then some (.inr (.inl false)) else some (.inl (nI (i + 1)))) else some (.inl (nI (i + 1))) := by
      unfold f1_isMet_L1
      rw [q.1.1.c_wir, obs, q.1.1.w_b, clt_nI (by omega) (by omega), decide_eq_true hi, if_pos rfl, rI_nI (by omega) (by omega), obs, q.1.1.r_on (by omega)]
      rw [rA_nI (by omega) (by omega), rA_nI (by omega) (by omega), rA_nI (by omega) (by omega), obs, obs, obs, q.2 2 i (by omega) (by omega), q.2 3 i (by omega) (by omega), q.2 4 i (by omega) (by omega), q.1.1.c_root i (by omega), q.1.1.c_cost i (by omega), q.1.1.c_rport i (by omega), nI_1]
      simp only [obs]
      cases ceq (S 20 i) 1 <;> cases ceq (S 23 i) (T 2 i) <;> cases ceq (S 24 i) (T 3 i) <;> cases ceq (S 25 i) (T 4 i) <;> rfl
    by_cases c : ceq (S 20 i) 1 = true
    · rw [if_pos c] at start
      have h20 := ceq_of c
      obtain ⟨t2, t3⟩ := hr i hi h20
      have t4 := hp i hi h20
      by_cases c2 : (!(ceq (S 23 i) (T 2 i)) || (!(ceq (S 24 i) (T 3 i)) || !(ceq (S 25 i) (T 4 i)))) = true
      · rw [if_pos c2] at start
        refine Or.inr ⟨false, start, rfl, fun hM => ?_⟩
        obtain ⟨x1, x2, x3⟩ := hM.1 i hi h20
        rw [x1, x2, x3, t2, t3, t4, ceq_rf, ceq_rf, ceq_rf] at c2
        exact absurd c2 (by decide)
      · rw [if_neg c2] at start
        refine Or.inl ⟨(), start, fun b hb => ?_⟩
        by_cases cb : b = i
        · subst cb
          intro _
          rw [Bool.or_eq_true, Bool.or_eq_true, Bool.not_eq_true', Bool.not_eq_true', Bool.not_eq_true'] at c2
          have y1 : ceq (S 23 b) (T 2 b) = true := by
            cases h : ceq (S 23 b) (T 2 b) with
            | true => rfl
            | false => exact absurd (Or.inl h) c2
          have y2 : ceq (S 24 b) (T 3 b) = true := by
            cases h : ceq (S 24 b) (T 3 b) with
            | true => rfl
            | false => exact absurd (Or.inr (Or.inl h)) c2
          have y3 : ceq (S 25 b) (T 4 b) = true := by
            cases h : ceq (S 25 b) (T 4 b) with
            | true => rfl
            | false => exact absurd (Or.inr (Or.inr h)) c2
          exact ⟨(ceq_of y1).trans t2, (ceq_of y2).trans t3, (ceq_of y3).trans t4⟩
        · exact hm b (by omega)
    · rw [if_neg c] at start
      refine Or.inl ⟨(), start, fun b hb => ?_⟩
      by_cases cb : b = i
      · subst cb
        exact fun h20 => absurd (ceq_t h20) c
      · exact hm b (by omega)) (by
    intro x hm
    refine ⟨nI (nB N), ?_, hm⟩
    show f1_isMet_L1 o s μ (nI (nB N)) = _
    unfold f1_isMet_L1
    rw [q.1.1.c_wir, obs, q.1.1.w_b, clt_nI (by omega) (by omega), decide_eq_false (by omega), if_neg (by decide)]) (nB N) 0 1000000 () (by omega) (by omega) (by omega) (fun b hb => absurd hb (by omega))
  have h2 := lpX (body := fun x => f1_isMet_L2 o s μ x) (fun i (_ : Unit) => nI i) (fun i _ => ∀ e, e < i → MetE N S e) (2 * nL N) (fun a => a = false ∧ ¬ MetA N S) (fun _ => ∀ e, e < 2 * nL N → MetE N S e) (by
    intro i x hi hm
    have start : f1_isMet_L2 o s μ (nI i) = if (!(ceq (S 0 i) (T 5 i)) || !(ceq (S 1 i) (if (ceq (S 0 i) 1 || ceq (S 0 i) 2) = true then 2 else 0))) = true then some (.inr (.inl false)) else some (.inl (nI (i + 1))) := by
      unfold f1_isMet_L2 f4_isInUse
      rw [q.1.1.c_wir, obs, q.1.1.w_l, mulQ2, clt_nI (by omega) (by omega), decide_eq_true hi, if_pos rfl, rI_nI (by omega) (by omega), obs]
      rw [rA_nI (by omega) (by omega), obs, obs, q.2 5 i (by omega) (by omega), q.1.1.c_role i (by omega), q.1.1.c_state i (by omega), nI_1]
      simp only [obs]
      cases ceq (S 0 i) (T 5 i) <;> cases ceq (S 0 i) 1 <;> cases ceq (S 0 i) 2 <;> rfl
    have t5 := hl i hi
    by_cases c : (!(ceq (S 0 i) (T 5 i)) || !(ceq (S 1 i) (if (ceq (S 0 i) 1 || ceq (S 0 i) 2) = true then 2 else 0))) = true
    · rw [if_pos c] at start
      refine Or.inr ⟨false, start, rfl, fun hM => ?_⟩
      obtain ⟨x1, x2⟩ := hM.2 i hi
      rw [x1, x2, t5, ceq_rf, ceq_rf] at c
      exact absurd c (by decide)
    · rw [if_neg c] at start
      refine Or.inl ⟨(), start, fun e he => ?_⟩
      by_cases cb : e = i
      · subst cb
        rw [Bool.or_eq_true, Bool.not_eq_true', Bool.not_eq_true'] at c
        have y1 : ceq (S 0 e) (T 5 e) = true := by
          cases h : ceq (S 0 e) (T 5 e) with
          | true => rfl
          | false => exact absurd (Or.inl h) c
        have y2 : ceq (S 1 e) (if (ceq (S 0 e) 1 || ceq (S 0 e) 2) = true then 2 else 0) = true := by
          cases h : ceq (S 1 e) (if (ceq (S 0 e) 1 || ceq (S 0 e) 2) = true then 2 else 0) with
          | true => rfl
          | false => exact absurd (Or.inr h) c
        have z1 := (ceq_of y1).trans t5
        have z2 := ceq_of y2
        rw [z1] at z2
        exact ⟨z1, z2⟩
      · exact hm e (by omega)) (by
    intro x hm
    refine ⟨nI (2 * nL N), ?_, hm⟩
    show f1_isMet_L2 o s μ (nI (2 * nL N)) = _
    unfold f1_isMet_L2
    rw [q.1.1.c_wir, obs, q.1.1.w_l, mulQ2, clt_nI (by omega) (by omega), decide_eq_false (by omega), if_neg (by decide)]) (2 * nL N) 0 1000000 () (by omega) (by omega) (by omega) (fun b hb => absurd hb (by omega))
  rcases h1 with ⟨a, e1, rfl, n1⟩ | ⟨r, e1, m1⟩
  · refine ⟨false, ?_, fun h => (nomatch h), fun h => absurd h n1⟩
    unfold f1_isMet
    rw [show (0 : Int32) = nI 0 from rfl, e1]; rfl
  · rcases h2 with ⟨a, e2, rfl, n2⟩ | ⟨r2, e2, m2⟩
    · refine ⟨false, ?_, fun h => (nomatch h), fun h => absurd h n2⟩
      unfold f1_isMet
      rw [show (0 : Int32) = nI 0 from rfl, e1]
      show ((zloop (fun s_1 => f1_isMet_L2 o s μ s_1) 1000000 (nI 0)).bind fun r26 => Sum.elim (fun v => some v) (zq1 fun v_end_14 => some true) r26) = _
      rw [e2]; rfl
    · refine ⟨true, ?_, fun _ => ⟨m1, m2⟩, fun _ => rfl⟩
      unfold f1_isMet
      rw [show (0 : Int32) = nI 0 from rfl, e1]
      show ((zloop (fun s_1 => f1_isMet_L2 o s μ s_1) 1000000 (nI 0)).bind fun r26 => Sum.elim (fun v => some v) (zq1 fun v_end_14 => some true) r26) = _
      rw [e2]; rfl
end zD7
