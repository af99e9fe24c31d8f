/-! REFERENCE: roles that are due, whether all rests -/
section zD9
variable {N : zN} {m B n : Nat} {ν0 ν ν' : zM} {S S' : zS} {a b c d e f i j k l r p : Nat} {W : Nat → Nat}
theorem R_role (q : EQ N m B S ν0 ν (wW N S)) (he : e < 2 * nL N) : f12_roleOf m (nI (pl N e)) ν = some (rlD N S e) := by
  have nw := q.1.nw
  have b8 := nw.b8
  have bb := nw.bo_b he
  have fl := fe_lt he
  have fb := nw.bo_b fl
  have p48 := nw.pl_48 he
  have p48f := nw.pl_48 fl
  have p6 := nw.p6 bb
  have po6 := nw.po_6 he
  unfold f12_roleOf rlD
  rw [iDivR6 (by omega), nw.pl_d he, obs, q.1.up_ he, obs]
  by_cases cu : up N S e = true
  · rw [if_pos cu, if_pos cu]
    have on1 : S 20 (bo N e) = 1 := up_on cu
    have n1 := rtR_n2 nw he cu
    have n0 := rtR_nr nw bb on1
    have rl := (rtR_mn nw bb on1).1
    have ep : ceq (nI (pl N e)) (oM (bo N e) (rpD N S (bo N e))) = decide (rpD N S (bo N e) = some (po N e)) := by
      rw [show pl N e = 6 * bo N e + po N e from rfl, oM_eq (by omega) po6 (fun x h => by have := (rpD_lt h).1; omega)]
      exact oI_eq (fun p h => by have := (rpD_lt h).1; omega) (by omega)
    rw [R_rport q bb on1, obs, ep]
    by_cases cr : rpD N S (bo N e) = some (po N e)
    · rw [decide_eq_true cr, if_pos rfl, if_pos cr]
    · rw [decide_eq_false cr, if_neg (by decide), if_neg cr]
      rw [q.1.ob he, obs, R_rt q bb, obs, mulQ8, nI_add, rA_nI (by omega) (by omega), obs, show f12_idOf m (nI (bo N (fe e))) ν = some (idS S (bo N (fe e))) from q.1.id_ fb, obs, q.1.op he, obs, iRemR6 (by omega), nw.pl_m fl, obs, mulQ8, nI_add, rA_nI (by omega) (by omega), obs, show f12_idOf m (nI (bo N e)) ν = some (idS S (bo N e)) from q.1.id_ bb, obs, iRemR6 (by omega), nw.pl_m he, obs, isLess_, obs, vlt_s (clt_irr 0), q.2.2 _ (by omega), q.2.2 _ (by omega), fI_id n1, fI_id n0]
      by_cases cv : vlt 0 (nI (wW N S (8 * bo N (fe e) + rtR N S (bo N e)))) (idS S (bo N (fe e))) (nI (po N (fe e))) 0 (nI (wW N S (8 * bo N e + rtR N S (bo N e)))) (idS S (bo N e)) (nI (po N e)) = true
      · rw [if_pos cv, if_pos cv, ceq_nI (by omega) (by omega)]
        by_cases cb : bo N (fe e) = bo N e
        · rw [decide_eq_true cb, if_pos rfl, if_pos cb, obs]
        · rw [decide_eq_false cb, if_neg (by decide), if_neg cb, obs]
      · rw [if_neg cv, if_neg cv]
  · rw [if_neg cu, if_neg cu]
theorem R_asdue (q : EQ N m B S ν0 ν (wW N S)) (hb : b < nB N) (h20 : S 20 b = 1) (h32 : S 32 b = 1) : f12_isAsDue m (nI b) ν = some (ceq (S 23 b) (idS S (rtR N S b)) && (ceq (S 24 b) (nI (wW N S (8 * b + rtR N S b))) && ceq (S 25 b) (oI (rpD N S b)))) := by
  have nw := q.1.nw
  have b8 := nw.b8
  have rl := (rtR_mn nw hb h20).1
  have n0 := rtR_nr nw hb h20
  have p6 := nw.p6 hb
  have ex : ((if (ceq (oM b (rpD N S b)) (-1)) = true then (some (-1)) else ((iRem (oM b (rpD N S b)) 6).bind fun t7 => some t7)) : Option Int32) = some (oI (rpD N S b)) := by
    cases h : rpD N S b with
    | none => rfl
    | some p =>
      have := (rpD_lt h).1
      show (if ceq (nI (6 * b + p)) (-1) = true then (some (-1)) else ((iRem (nI (6 * b + p)) 6).bind fun t7 => some t7)) = some (nI p)
      rw [oI_none (by omega), if_neg (by decide), iRemR6 (by omega), obs, show (6 * b + p) % 6 = p by omega]
  unfold f12_isAsDue
  rw [R_rt q hb, obs, R_rport q hb h20, obs, q.1.b3 hb h32, obs, show f12_idOf m (nI (rtR N S b)) ν = some (idS S (rtR N S b)) from q.1.id_ rl, obs, obs, q.1.b4 hb h32, obs, mulQ8, nI_add, rA_nI (by omega) (by omega), obs, q.2.2 _ (by omega), fI_id n0, q.1.b5 hb h32, obs, ex, obs]
  cases ceq (S 23 b) (idS S (rtR N S b)) <;> cases ceq (S 24 b) (nI (wW N S (8 * b + rtR N S b))) <;> rfl
theorem R_rest (q : MS N m B ν ν S) (h32 : ∀ b, b < nB N → S 20 b = 1 → S 32 b = 1) : ∃ r ν', f12_isResting m ν = some (r, ν') ∧ (r = true ↔ MetA N S) ∧ EQ N m B S ν ν' (wW N S) := by
  have nw := q.nw
  have b8 := nw.b8; have l14 := nw.l14
  obtain ⟨ν1, e1, q1⟩ := R_far q
  have L2 : ∀ b, b < nB N → ((∃ a, zloop (fun s => f12_isResting_L2 m ν1 (nI b) s) 1000000 (nI (6 * b + 0)) = some (.inl a) ∧ (a = (false, ν1) ∧ ¬ MetA N S)) ∨ ∃ r, zloop (fun s => f12_isResting_L2 m ν1 (nI b) s) 1000000 (nI (6 * b + 0)) = some (.inr r) ∧ ∀ p, p < nP N b → MetE N S (eo N b p)) := fun b hb => by
    have p6 := nw.p6 hb
    exact lpX (body := fun s => f12_isResting_L2 m ν1 (nI b) s) (fun i (_ : Unit) => nI (6 * b + i)) (fun i _ => ∀ p, p < i → MetE N S (eo N b p)) (nP N b) (fun a => a = (false, ν1) ∧ ¬ MetA N S) (fun _ => ∀ p, p < nP N b → MetE N S (eo N b p)) (by
      intro i x hi hm
      have el := nw.eo_l hb hi
      have hinc : nI (pl N (eo N b i)) + 1 = nI (6 * b + (i + 1)) := by rw [nw.pl_eo hb hi, nI_1]; rfl
      have hlt : 6 * b + i < 6 * b + nP N b := by omega
      have start : f12_isResting_L2 m ν1 (nI b) (nI (6 * b + i)) = if (!(ceq (S 0 (eo N b i)) (rlD N S (eo N b i))) || !(ceq (S 1 (eo N b i)) (if (ceq (rlD N S (eo N b i)) 1 || ceq (rlD N S (eo N b i)) 2) = true then 2 else 0))) = true then some (.inr (.inl (false, ν1))) else some (.inl (nI (6 * b + (i + 1)))) := by
        unfold f12_isResting_L2
        rw [q1.1.g_p hb, obs, pl_add, obs, clt_nI (by omega) (by omega), decide_eq_true hlt, if_pos rfl, plE nw hb hi, R_role q1 el, obs, q1.1.p0 el, obs, obs, q1.1.p1 el, obs, hinc]
        simp only [obs]
        generalize rlD N S (eo N b i) = rr
        cases ceq (S 0 (eo N b i)) rr <;> cases ceq rr 1 <;> cases ceq rr 2 <;> rfl
      by_cases c : (!(ceq (S 0 (eo N b i)) (rlD N S (eo N b i))) || !(ceq (S 1 (eo N b i)) (if (ceq (rlD N S (eo N b i)) 1 || ceq (rlD N S (eo N b i)) 2) = true then 2 else 0))) = true
      · rw [if_pos c] at start
        refine Or.inr ⟨_, start, rfl, fun hM => ?_⟩
        obtain ⟨x1, x2⟩ := hM.2 _ el
        rw [x1, x2, ceq_rf, ceq_rf] at c
        exact absurd c (by decide)
      · rw [if_neg c] at start
        refine Or.inl ⟨(), start, fun p hp => ?_⟩
        by_cases cp : p = i
        · subst cp
          rw [Bool.or_eq_true, Bool.not_eq_true', Bool.not_eq_true'] at c
          have y1 : ceq (S 0 (eo N b p)) (rlD N S (eo N b p)) = true := by
            cases h : ceq (S 0 (eo N b p)) (rlD N S (eo N b p)) with
            | true => rfl
            | false => exact absurd (Or.inl h) c
          have y2 : ceq (S 1 (eo N b p)) (if (ceq (rlD N S (eo N b p)) 1 || ceq (rlD N S (eo N b p)) 2) = true then 2 else 0) = true := by
            cases h : ceq (S 1 (eo N b p)) (if (ceq (rlD N S (eo N b p)) 1 || ceq (rlD N S (eo N b p)) 2) = true then 2 else 0) with
            | true => rfl
            | false => exact absurd (Or.inr h) c
          exact ⟨ceq_of y1, ceq_of y2⟩
        · exact hm p (by omega)) (by
      intro x hm
      refine ⟨nI (6 * b + nP N b), ?_, hm⟩
      show f12_isResting_L2 m ν1 (nI b) (nI (6 * b + nP N b)) = _
      unfold f12_isResting_L2
      rw [q1.1.g_p hb, obs, pl_add, obs, clt_nI (by omega) (by omega), decide_eq_false (by omega), if_neg (by decide)]) (nP N b) 0 1000000 () (by omega) (by omega) (by omega) (fun b hb => absurd hb (by omega))
  have h1 := lpX (body := fun s => f12_isResting_L1 m ν1 s) (fun i (_ : Unit) => nI i) (fun i _ => ∀ b, b < i → MetB N S b ∧ ∀ p, p < nP N b → MetE N S (eo N b p)) (nB N) (fun a => a = (false, ν1) ∧ ¬ MetA N S) (fun _ => ∀ b, b < nB N → MetB N S b ∧ ∀ p, p < nP N b → MetE N S (eo N b p)) (by
    intro i x hi hm
    have cond : (((f12_isOn m (nI i) ν1).bind fun t20 => some t20).bind fun b18 => if b18 = true then ((f12_isAsDue m (nI i) ν1).bind fun t19 => some (!t19)) else (some false)) = some (ceq (S 20 i) 1 && !(ceq (S 23 i) (idS S (rtR N S i)) && (ceq (S 24 i) (nI (wW N S (8 * i + rtR N S i))) && ceq (S 25 i) (oI (rpD N S i))))) := by
      rw [q1.1.on_ hi, obs, obs]
      cases h : ceq (S 20 i) 1 with
      | false => rfl
      | true => rw [if_pos rfl, R_asdue q1 hi (ceq_of h) (h32 i hi (ceq_of h)), obs]; rfl
    have start : f12_isResting_L1 m ν1 (nI i) = if (ceq (S 20 i) 1 && !(ceq (S 23 i) (idS S (rtR N S i)) && (ceq (S 24 i) (nI (wW N S (8 * i + rtR N S i))) && ceq (S 25 i) (oI (rpD N S i))))) = true then some (.inr (.inl (false, ν1))) else ((zloop (fun s => f12_isResting_L2 m ν1 (nI i) s) 1000000 (nI (6 * i + 0))).bind fun r13 => Sum.elim (fun v => some (.inr (.inl v))) (zq1 fun v_p_7 => (some (nI i + 1)).bind fun v_b_17 => some (.inl v_b_17)) r13) := by
      unfold f12_isResting_L1
      rw [q1.1.g_b, clt_nI (by omega) (by omega), decide_eq_true hi, if_pos rfl, cond, obs, show f12_placeOf (nI i) 0 ν1 = some (nI (6 * i + 0)) from pl_add i 0, obs]
    by_cases c : (ceq (S 20 i) 1 && !(ceq (S 23 i) (idS S (rtR N S i)) && (ceq (S 24 i) (nI (wW N S (8 * i + rtR N S i))) && ceq (S 25 i) (oI (rpD N S i))))) = true
    · rw [if_pos c] at start
      refine Or.inr ⟨_, start, rfl, fun hM => ?_⟩
      rw [Bool.and_eq_true] at c
      obtain ⟨x1, x2, x3⟩ := hM.1 i hi (ceq_of c.1)
      have c2 := c.2
      rw [x1, x2, x3, ceq_rf, ceq_rf, ceq_rf] at c2
      exact absurd c2 (by decide)
    · rw [if_neg c] at start
      rcases L2 i hi with ⟨a, e2, h2⟩ | ⟨r, e2, h2⟩
      · rw [e2] at start
        exact Or.inr ⟨a, start, h2⟩
      · rw [e2] at start
        refine Or.inl ⟨(), start.trans ?_, fun b hb => ?_⟩
        · rw [← nI_1]; rfl
        · by_cases cb : b = i
          · subst cb
            refine ⟨fun h20 => ?_, h2⟩
            rw [Bool.and_eq_true, Bool.not_eq_true', ← Bool.not_eq_true] at c
            have y : (ceq (S 23 b) (idS S (rtR N S b)) && (ceq (S 24 b) (nI (wW N S (8 * b + rtR N S b))) && ceq (S 25 b) (oI (rpD N S b)))) = true := by
              cases h : (ceq (S 23 b) (idS S (rtR N S b)) && (ceq (S 24 b) (nI (wW N S (8 * b + rtR N S b))) && ceq (S 25 b) (oI (rpD N S b)))) with
              | true => rfl
              | false => exact absurd ⟨ceq_t h20, by rw [h]; decide⟩ c
            rw [Bool.and_eq_true, Bool.and_eq_true] at y
            exact ⟨ceq_of y.1, ceq_of y.2.1, ceq_of y.2.2⟩
          · exact hm b (by omega)) (by
    intro x hm
    refine ⟨nI (nB N), ?_, hm⟩
    show f12_isResting_L1 m ν1 (nI (nB N)) = _
    unfold f12_isResting_L1
    rw [q1.1.g_b, clt_nI (by omega) (by omega), decide_eq_false (by omega), if_neg (by decide)]) (nB N) 0 1000000 () (by omega) (by omega) (by omega) (fun b hb => absurd hb (by omega))
  unfold f12_isResting
  rw [e1, obs]
  rcases h1 with ⟨a, e2, rfl, n2⟩ | ⟨r, e2, m2⟩
  · refine ⟨false, ν1, ?_, ⟨fun h => (nomatch h), fun h => absurd h n2⟩, q1⟩
    rw [show (0 : Int32) = nI 0 from rfl, e2]; rfl
  · refine ⟨true, ν1, ?_, ⟨fun _ => ⟨fun b hb => (m2 b hb).1, fun e he => ?_⟩, fun _ => rfl⟩, q1⟩
    · rw [show (0 : Int32) = nI 0 from rfl, e2]; rfl
    · have := (m2 _ (nw.bo_b he)).2 _ (nw.po_p he)
      rw [nw.eo_e he] at this
      exact this
end zD9
