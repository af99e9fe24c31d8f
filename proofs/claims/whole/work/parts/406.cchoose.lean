/-! CLASS: roles, settling, choosing -/
def sp_role (N : zN) (b p : Nat) (S : zS) : Int32 := if up N S (eo N b p) = true then (if ceq (nI p) (S 25 b) = true then 1 else if (ceq (S 10 (eo N b p)) 1 && vlt (S 11 (eo N b p)) (S 12 (eo N b p)) (S 13 (eo N b p)) (S 14 (eo N b p)) (S 23 b) (S 24 b) (S 31 b) (nI p)) = true then (if ceq (S 13 (eo N b p)) (idS S b) = true then 4 else 3) else 2) else 0
def sp_roles (N : zN) (b : Nat) (S : zS) : zS := pfold (fun p S => zu (zu (zu S 49 (eo N b p) (S 0 (eo N b p))) 48 p (S 0 (eo N b p))) 0 (eo N b p) (sp_role N b p S)) (nP N b) S
def sp_setl (N : zN) (b : Nat) (mv : Int32) (p : Nat) (S : zS) : zS :=
  if ceq (S 0 (eo N b p)) 1 = true then (if ceq (S 22 b) 1 = true then (if ((!(ceq (S 49 (eo N b p)) 1)) && (!(ceq (S 49 (eo N b p)) 2))) = true then zu (zu S 4 (eo N b p) 0) 2 (eo N b p) (nI (nDl N)) else zu S 4 (eo N b p) 0) else sp_open N (eo N b p) (zu S 4 (eo N b p) 0))
  else if ceq (S 0 (eo N b p)) 2 = true then (if ceq (S 49 (eo N b p)) 2 = true then
      (if clt mv 0 = true then zu (if ceq mv 0 = true then zu (zu S 10 (eo N b p) 0) 7 (eo N b p) 0 else zu (zu (zu S 10 (eo N b p) 0) 7 (eo N b p) 0) 9 (eo N b p) 1) 4 (eo N b p) 0 else (if ceq mv 0 = true then zu (zu S 10 (eo N b p) 0) 7 (eo N b p) 0 else zu (zu (zu S 10 (eo N b p) 0) 7 (eo N b p) 0) 9 (eo N b p) 1))
    else (if ceq (S 5 (eo N b p)) 1 = true then sp_open N (eo N b p) (zu (zu (zu (zu S 10 (eo N b p) 0) 7 (eo N b p) 0) 4 (eo N b p) 0) 9 (eo N b p) 1) else sp_shut N (eo N b p) (zu (zu (zu (zu (zu S 10 (eo N b p) 0) 7 (eo N b p) 0) 4 (eo N b p) 0) 9 (eo N b p) 1) 2 (eo N b p) (nI (nDl N)))))
  else if ceq (S 0 (eo N b p)) 0 = true then S
  else sp_shut N (eo N b p) (zu (zu (zu (zu S 4 (eo N b p) 0) 2 (eo N b p) 0) 3 (eo N b p) 0) 8 (eo N b p) 0)
def sp_bef (b : Nat) (S : zS) : zS := zu (zu (zu (zu S 33 b (S 23 b)) 34 b (S 24 b)) 35 b (S 31 b)) 36 b (S 37 b)
/-- choosing up to the roles -/
def sp_ch1 (N : zN) (b : Nat) (S : zS) : zS := sp_roles N b (sp_lead N b (sp_rt N b S) (sp_bef b S))
def sp_mv (b : Nat) (S S' : zS) : Int32 := vcmp (S 23 b) (S 24 b) (S 31 b) 0 (S' 23 b) (S' 24 b) (S' 31 b) 0
def sp_end (b : Nat) (S : zS) : zS := zu (zu (zu S 28 b (S 23 b)) 29 b (S 24 b)) 30 b (S 31 b)
def sp_choose (N : zN) (b : Nat) (S : zS) : zS := sp_end b (pfold (sp_setl N b (sp_mv b S (sp_ch1 N b S))) (nP N b) (sp_ch1 N b S))
/-- what alone may be another -/
def only (X : Nat → Nat → Prop) (S S' : zS) : Prop := ∀ f i, ¬ X f i → S' f i = S f i
theorem only.rf {X : Nat → Nat → Prop} {S : zS} : only X S S := fun _ _ _ => rfl
theorem only.tr {X : Nat → Nat → Prop} {S S1 S2 : zS} (h : only X S S1) (h2 : only X S1 S2) : only X S S2 := fun f i q => (h2 f i q).trans (h f i q)
theorem only.zu {X : Nat → Nat → Prop} {S S1 : zS} {f i : Nat} {v : Int32} (h : only X S S1) (hx : X f i) : only X S (zu S1 f i v) := fun f' i' q => (if_neg (fun x => q (by rw [x.1, x.2]; exact hx))).trans (h f' i' q)
theorem only.mono {X Y : Nat → Nat → Prop} {S S1 : zS} (h : only X S S1) (hx : ∀ f i, X f i → Y f i) : only Y S S1 := fun f i q => h f i (fun x => q (hx f i x))
theorem only.pf {X : Nat → Nat → Prop} {g : Nat → zS → zS} {n : Nat} {S : zS} (h : ∀ i S, i < n → only X S (g i S)) : only X S (pfold g n S) := by
  induction n with
  | zero => exact only.rf
  | succ n ih => exact (ih (fun i S hi => h i S (Nat.lt_succ_of_lt hi))).tr (h n _ (Nat.lt_succ_self n))
theorem only.it {X : Nat → Nat → Prop} {S S1 S2 : zS} {c : Prop} [Decidable c] (h1 : c → only X S S1) (h2 : ¬ c → only X S S2) : only X S (if c then S1 else S2) := by
  by_cases q : c
  · rw [if_pos q]; exact h1 q
  · rw [if_neg q]; exact h2 q
theorem roles_o (N : zN) (b : Nat) (S : zS) : only (fun f i => ((f = 0 ∨ f = 49) ∧ ∃ p, p < nP N b ∧ i = eo N b p) ∨ f = 48) S (sp_roles N b S) := by
  unfold sp_roles
  exact only.pf (fun p S hp => ((only.rf.zu (Or.inl ⟨Or.inr rfl, p, hp, rfl⟩)).zu (Or.inr rfl)).zu (Or.inl ⟨Or.inl rfl, p, hp, rfl⟩))
theorem lead_o (N : zN) (b : Nat) (o : Option Nat) (S : zS) : only (fun f i => ((23 ≤ f ∧ f ≤ 26) ∨ f = 31 ∨ f = 32) ∧ i = b) S (sp_lead N b o S) := by
  cases o with
  | none => exact (((((only.rf.zu ⟨by omega, rfl⟩).zu ⟨by omega, rfl⟩).zu ⟨by omega, rfl⟩).zu ⟨by omega, rfl⟩).zu ⟨by omega, rfl⟩).zu ⟨by omega, rfl⟩
  | some p => exact (((((only.rf.zu ⟨by omega, rfl⟩).zu ⟨by omega, rfl⟩).zu ⟨by omega, rfl⟩).zu ⟨by omega, rfl⟩).zu ⟨by omega, rfl⟩).zu ⟨by omega, rfl⟩
theorem ch1_f (N : zN) (b : Nat) (S : zS) {f i : Nat} (h1 : f ≠ 0) (h2 : f ≠ 49) (h3 : ¬ (23 ≤ f ∧ f ≤ 26)) (h4 : f ≠ 31) (h5 : f ≠ 32) (h6 : f ≠ 48 := by omega) : sp_ch1 N b S f i = sp_bef b S f i := by
  unfold sp_ch1
  rw [roles_o N b _ f i (fun x => by omega), lead_o N b _ _ f i (fun x => by omega)]
section zC6
variable {N : zN} {s w : Nat} {μ0 μ μ' : zM} {S S' : zS} {e b l : Nat}
theorem C_ours (h : CS N s w μ0 μ S) (he : e < 2 * nL N) : ∃ μ', f8_oursAt s (nI e) μ = some (s + 10, μ') ∧ CS N s w μ0 μ' S ∧ gF μ' 900 (s + 10) = S 23 (bo N e) ∧ gF μ' 901 (s + 10) = S 24 (bo N e) ∧ gF μ' 902 (s + 10) = S 31 (bo N e) ∧ gF μ' 903 (s + 10) = nI (po N e) := by
  have nw := h.nw
  have e28 := nw.e28 he
  have hb8 := nw.bo_8 he
  have h4 : CS N s w μ0 (cpV (s + 10) (s + 13 + 3 * bo N e + 1) μ) S := (((h.sc_F (by omega) (by omega)).sc_F (by omega) (by omega)).sc_F (by omega) (by omega)).sc_F (by omega) (by omega)
  have h5 := h4.sc_F (k := 903) (a := s + 10) (v := nI (po N e)) (by omega) (by omega)
  unfold f8_oursAt
  simp (disch := omega) only [h.c_wir, h.v_bo he, obs, pk_mul, nI_add, nI_1, mulR2, mulR3, mulR4, mulR6, mulR7, mulR8, mulR10, mulR12, mulR16, mulQ2, mulQ3, mulQ4, mulQ6, mulQ7, mulQ8, mulQ10, mulQ12, mulQ16, mulQ18, mulQ48, addR2, addR3, addR4, addR5, addR6, addR7, addR8, addR9, addR10, addR16, addR20, addQ4, addQ100, addQ964, addQ978, addQ986, addQ1114, addQ1274, cltR2, cltR3, cltR4, cltR6, cltR8, cltR10, cltR13, cltR14, cltR18, cltR28, cltR40, cltR62, cltR64, cltR84, cltR96, ceqR0, ceqR1, ceqR2, ceqR3, ceqR5, ceqR6, ceqR8, ceqR14, ceqR39, ceqR40, ceqR64, ceqR13, clt_nI, ceq_nI, rI_nI, rA_nI, wA_nI, rZ_nI, wZ_nI, wF, wB, wR, zand, zor, zandn, zorn, ozb2, ozb3, ozb4, decide_true, decide_false, Nat.lt_irrefl, Bool.false_eq_true, ↓reduceIte, C_cpV, h4.c_wir, h4.v_po he]
  refine ⟨_, rfl, h5, ?_, ?_, ?_, ?_⟩
  · rw [← h.r_root hb8]; simp [cpV, gF_sF]
  · rw [← h.r_cost hb8]; simp [cpV, gF_sF]
  · rw [← h.r_cid hb8]; simp [cpV, gF_sF]
  · simp [gF_sF]
theorem C_roles (h : CS N s w μ0 μ S) (hb : b < nB N) : ∃ μ', f8_tellRoles s (s + 13 + 3 * b) μ = some μ' ∧ CS N s w μ0 μ' (sp_roles N b S) := by
  have nw := h.nw
  have hb8 := nw.b_8 hb
  have hp6 := nw.p6 hb
  unfold f8_tellRoles sp_roles
  obtain ⟨μ1, e1, h1⟩ := lp (Q := CS N s w μ0) (body := fun q => f8_tellRoles_L1 s (s + 13 + 3 * b) q.1 q.2) nI (fun p S => zu (zu (zu S 49 (eo N b p) (S 0 (eo N b p))) 48 p (S 0 (eo N b p))) 0 (eo N b p) (sp_role N b p S)) (nP N b) (S := S) (μ := μ) (by
    intro i μ1 hi h1
    generalize pfold (fun p S => zu (zu (zu S 49 (eo N b p) (S 0 (eo N b p))) 48 p (S 0 (eo N b p))) 0 (eo N b p) (sp_role N b p S)) i S = S1 at *
    have q28 := nw.eo_28 hb hi
    have ql := nw.eo_l hb hi
    show ∃ μ', f8_tellRoles_L1 s (s + 13 + 3 * b) (nI i) μ1 = _ ∧ CS N s w μ0 μ' (zu (zu (zu S1 49 (eo N b i) (S1 0 (eo N b i))) 48 i (S1 0 (eo N b i))) 0 (eo N b i) (sp_role N b i S1))
    have h2 : CS N s w μ0 (sF μ1 405 (s + 37 + 2 * eo N b i) (S1 0 (eo N b i))) (zu (zu S1 49 (eo N b i) (S1 0 (eo N b i))) 48 i (S1 0 (eo N b i))) := h1.w_was q28 (v := S1 0 (eo N b i))
    unfold f8_tellRoles_L1 sp_role
    simp (disch := omega) only [h1.c_wir, h1.c_num b hb8, h1.v_p hb, h1.w_eo hb hi, obs, pk_mul, nI_add, nI_1, mulR2, mulR3, mulR4, mulR6, mulR7, mulR8, mulR10, mulR12, mulR16, mulQ2, mulQ3, mulQ4, mulQ6, mulQ7, mulQ8, mulQ10, mulQ12, mulQ16, mulQ18, mulQ48, addR2, addR3, addR4, addR5, addR6, addR7, addR8, addR9, addR10, addR16, addR20, addQ4, addQ100, addQ964, addQ978, addQ986, addQ1114, addQ1274, cltR2, cltR3, cltR4, cltR6, cltR8, cltR10, cltR13, cltR14, cltR18, cltR28, cltR40, cltR62, cltR64, cltR84, cltR96, ceqR0, ceqR1, ceqR2, ceqR3, ceqR5, ceqR6, ceqR8, ceqR14, ceqR39, ceqR40, ceqR64, ceqR13, clt_nI, ceq_nI, rI_nI, rA_nI, wA_nI, rZ_nI, wZ_nI, wF, wB, wR, zand, zor, zandn, zorn, ozb2, ozb3, ozb4, decide_true, decide_false, Nat.lt_irrefl, Bool.false_eq_true, ↓reduceIte, h1.r_role, hi, C_up h2 ql, h2.r_rport hb8, h2.r_holds]
    show ∃ μ', (if up N S1 (eo N b i) = true then (if ceq (nI i) (S1 25 b) = true then _ else _) else _) = _ ∧ _
    by_cases c : up N S1 (eo N b i) = true
    · simp only [if_pos c]
      by_cases c2 : ceq (nI i) (S1 25 b) = true
      · simp only [if_pos c2]
        exact ⟨_, rfl, h2.w_role q28⟩
      · simp only [if_neg c2]
        show ∃ μ', (zb2 (if ceq (S1 10 (eo N b i)) 1 = true then _ else _) _) = _ ∧ _
        by_cases c3 : ceq (S1 10 (eo N b i)) 1 = true
        · simp only [if_pos c3]
          obtain ⟨μ2, e2, h3, o0, o1, o2, o3⟩ := C_ours h2 ql
          rw [nw.bo_eo hb hi] at o0 o1 o2
          rw [nw.po_eo hb hi] at o3
          simp (disch := omega) only [e2, zb2_some, C_agst, Option.bind_some, vcmp_lt, o0, o1, o2, o3, h3.r_hroot, h3.r_hcost, h3.r_hid, h3.r_hport, C_id h3 hb8, c3, Bool.true_and]
          show ∃ μ', (if vlt (S1 11 (eo N b i)) (S1 12 (eo N b i)) (S1 13 (eo N b i)) (S1 14 (eo N b i)) (S1 23 b) (S1 24 b) (S1 31 b) (nI i) = true then Option.bind (if ceq (S1 13 (eo N b i)) (idS S1 b) = true then _ else _) _ else _) = _ ∧ _
          by_cases c4 : vlt (S1 11 (eo N b i)) (S1 12 (eo N b i)) (S1 13 (eo N b i)) (S1 14 (eo N b i)) (S1 23 b) (S1 24 b) (S1 31 b) (nI i) = true
          · simp only [if_pos c4]
            by_cases c5 : ceq (S1 13 (eo N b i)) (idS S1 b) = true
            · simp only [if_pos c5, Option.bind_some]
              exact ⟨_, rfl, h3.w_role q28⟩
            · simp only [if_neg c5, Option.bind_some]
              exact ⟨_, rfl, h3.w_role q28⟩
          · simp only [if_neg c4]
            exact ⟨_, rfl, h3.w_role q28⟩
        · simp only [if_neg c3, zb2_some, Bool.false_eq_true, ↓reduceIte, Bool.eq_false_iff.mpr c3, Bool.false_and]
          exact ⟨_, rfl, h2.w_role q28⟩
    · simp only [if_neg c]
      exact ⟨_, rfl, h2.w_role q28⟩) (by
    intro μ1 h1
    show f8_tellRoles_L1 s (s + 13 + 3 * b) (nI (nP N b)) μ1 = _
    simp (disch := omega) only [f8_tellRoles_L1, h1.c_wir, h1.c_num b hb8, h1.v_p hb, obs, pk_mul, nI_add, nI_1, mulR2, mulR3, mulR4, mulR6, mulR7, mulR8, mulR10, mulR12, mulR16, mulQ2, mulQ3, mulQ4, mulQ6, mulQ7, mulQ8, mulQ10, mulQ12, mulQ16, mulQ18, mulQ48, addR2, addR3, addR4, addR5, addR6, addR7, addR8, addR9, addR10, addR16, addR20, addQ4, addQ100, addQ964, addQ978, addQ986, addQ1114, addQ1274, cltR2, cltR3, cltR4, cltR6, cltR8, cltR10, cltR13, cltR14, cltR18, cltR28, cltR40, cltR62, cltR64, cltR84, cltR96, ceqR0, ceqR1, ceqR2, ceqR3, ceqR5, ceqR6, ceqR8, ceqR14, ceqR39, ceqR40, ceqR64, ceqR13, clt_nI, ceq_nI, rI_nI, rA_nI, wA_nI, rZ_nI, wZ_nI, wF, wB, wR, zand, zor, zandn, zorn, ozb2, ozb3, ozb4, decide_true, decide_false, Nat.lt_irrefl, Bool.false_eq_true, ↓reduceIte]) (by omega) h
  exact ⟨μ1, zb_lp e1, h1⟩
theorem C_setl (h : CS N s w μ0 μ S) (hb : b < nB N) {p : Nat} (hp : p < nP N b) {mv : Int32} : ∃ t μ1 μ', f4_settle (s + 37 + 2 * eo N b p) (gB μ 4 (s + 13 + 3 * b)) mv (nI (nDl N)) μ = some (t, μ1) ∧ (if ceq t 1 = true then f8_open s (nI (eo N b p)) μ1 else if ceq t 2 = true then f8_shut s (nI (eo N b p)) μ1 else some μ1) = some μ' ∧ CS N s w μ0 μ' (sp_setl N b mv p S) := by
  have nw := h.nw
  have hb8 := nw.b_8 hb
  have q28 := nw.eo_28 hb hp
  have ql := nw.eo_l hb hp
  rw [h.r_old hb8]
  unfold f4_settle f4_settleRoot f4_settleDesignated sp_setl
  generalize eo N b p = q at *
  simp (disch := omega) only [h.r_role, wB, wF, Option.bind_some]
  by_cases c1 : ceq (S 0 q) 1 = true
  · simp only [if_pos c1]
    have h1 := h.w_agr q28 (v := false)
    by_cases c2 : ceq (S 22 b) 1 = true
    · simp only [if_pos c2]
      rw [h1.r_was q28]
      show ∃ t μ1 μ', (zb2 (Option.bind (if ((!(ceq (S 49 q) 1)) && (!(ceq (S 49 q) 2))) = true then _ else _) _) _) = _ ∧ _
      by_cases c3 : ((!(ceq (S 49 q) 1)) && (!(ceq (S 49 q) 2))) = true
      · simp only [if_pos c3]
        exact ⟨_, _, _, rfl, rfl, h1.w_wait q28⟩
      · simp only [if_neg c3]
        exact ⟨_, _, _, rfl, rfl, h1⟩
    · simp only [if_neg c2]
      obtain ⟨μ2, e2, h2⟩ := C_open h1 ql
      exact ⟨_, _, _, rfl, e2, h2⟩
  · simp only [if_neg c1]
    by_cases c2 : ceq (S 0 q) 2 = true
    · simp only [if_pos c2]
      have h1 := (h.w_holds q28 (v := false)).w_owes q28 (v := false)
      rw [h1.r_was q28]
      show ∃ t μ1 μ', (zb2 (if ceq (S 49 q) 2 = true then _ else _) _) = _ ∧ _
      by_cases c3 : ceq (S 49 q) 2 = true
      · simp only [if_pos c3]
        by_cases c4 : ceq mv 0 = true
        · simp only [if_pos c4, Option.bind_some]
          by_cases c5 : clt mv 0 = true
          · simp only [if_pos c5, Option.bind_some]
            exact ⟨_, _, _, rfl, rfl, h1.w_agr q28⟩
          · simp only [if_neg c5, Option.bind_some]
            exact ⟨_, _, _, rfl, rfl, h1⟩
        · simp only [if_neg c4, Option.bind_some]
          have h2 := h1.w_mark q28 (v := true)
          by_cases c5 : clt mv 0 = true
          · simp only [if_pos c5, Option.bind_some]
            exact ⟨_, _, _, rfl, rfl, h2.w_agr q28⟩
          · simp only [if_neg c5, Option.bind_some]
            exact ⟨_, _, _, rfl, rfl, h2⟩
      · simp only [if_neg c3]
        have h2 := (h1.w_agr q28 (v := false)).w_mark q28 (v := true)
        rw [h2.r_edge q28]
        show ∃ t μ1 μ', (zb2 (if ceq (S 5 q) 1 = true then _ else _) _) = _ ∧ _
        by_cases c4 : ceq (S 5 q) 1 = true
        · simp only [if_pos c4]
          obtain ⟨μ2, e2, h3⟩ := C_open h2 ql
          exact ⟨_, _, _, rfl, e2, h3⟩
        · simp only [if_neg c4]
          obtain ⟨μ2, e2, h3⟩ := C_shut (h2.w_wait q28 (v := nI (nDl N))) ql
          exact ⟨_, _, _, rfl, e2, h3⟩
    · simp only [if_neg c2]
      by_cases c3 : ceq (S 0 q) 0 = true
      · simp only [if_pos c3]
        exact ⟨_, _, _, rfl, rfl, h⟩
      · simp only [if_neg c3]
        obtain ⟨μ2, e2, h3⟩ := C_shut ((((h.w_agr q28 (v := false)).w_wait q28 (v := 0)).w_chg q28 (v := 0)).w_answ q28 (v := false)) ql
        exact ⟨_, _, _, rfl, e2, h3⟩
theorem C_choose (h : CS N s w μ0 μ S) (hb : b < nB N) : ∃ μ', f8_choose s (nI b) μ = some μ' ∧ CS N s w μ0 μ' (sp_choose N b S) := by
  have nw := h.nw
  have hb8 := nw.b_8 hb
  have hp6 := nw.p6 hb
  have h1 : CS N s w μ0 (cpV (s + 13 + 3 * b + 2) (s + 13 + 3 * b + 1) μ) (sp_bef b S) := by
    have k1 := h.w_froot hb8 (v := S 23 b)
    have k2 := k1.w_fcost hb8 (v := S 24 b)
    have k3 := k2.w_fid hb8 (v := S 31 b)
    have k4 := k3.w_fport hb8 (v := S 37 b)
    unfold cpV
    rw [h.r_root hb8, h.r_cost hb8, h.r_cid hb8, h.r_cport hb8]
    exact k4
  obtain ⟨μ2, e2, h2⟩ := C_pickRoot h1 hb
  obtain ⟨μ3, e3, h3⟩ := C_roles h2 hb
  have h3' : CS N s w μ0 μ3 (sp_ch1 N b S) := h3
  have hmv : f9_against (s + 13 + 3 * b + 2) (s + 13 + 3 * b + 1) μ3 = some (sp_mv b S (sp_ch1 N b S)) := by
    rw [C_agst, h3'.r_froot hb8, h3'.r_fcost hb8, h3'.r_fid hb8, h3'.r_fport hb8, h3'.r_root hb8, h3'.r_cost hb8, h3'.r_cid hb8, h3'.r_cport hb8]
    rw [ch1_f N b S (f := 33) (by omega) (by omega) (by omega) (by omega) (by omega), ch1_f N b S (f := 34) (by omega) (by omega) (by omega) (by omega) (by omega), ch1_f N b S (f := 35) (by omega) (by omega) (by omega) (by omega) (by omega), ch1_f N b S (f := 36) (by omega) (by omega) (by omega) (by omega) (by omega), ch1_f N b S (f := 37) (by omega) (by omega) (by omega) (by omega) (by omega)]
    have a1 : sp_bef b S 33 b = S 23 b := if_pos ⟨rfl, rfl⟩
    have a2 : sp_bef b S 34 b = S 24 b := if_pos ⟨rfl, rfl⟩
    have a3 : sp_bef b S 35 b = S 31 b := if_pos ⟨rfl, rfl⟩
    have a4 : sp_bef b S 36 b = S 37 b := if_pos ⟨rfl, rfl⟩
    rw [a1, a2, a3, a4]
    exact congrArg some (vcmp_p _ _ _ _ _ _ _)
  unfold f8_choose
  simp (disch := omega) only [obs, pk_mul, nI_add, nI_1, mulR2, mulR3, mulR4, mulR6, mulR7, mulR8, mulR10, mulR12, mulR16, mulQ2, mulQ3, mulQ4, mulQ6, mulQ7, mulQ8, mulQ10, mulQ12, mulQ16, mulQ18, mulQ48, addR2, addR3, addR4, addR5, addR6, addR7, addR8, addR9, addR10, addR16, addR20, addQ4, addQ100, addQ964, addQ978, addQ986, addQ1114, addQ1274, cltR2, cltR3, cltR4, cltR6, cltR8, cltR10, cltR13, cltR14, cltR18, cltR28, cltR40, cltR62, cltR64, cltR84, cltR96, ceqR0, ceqR1, ceqR2, ceqR3, ceqR5, ceqR6, ceqR8, ceqR14, ceqR39, ceqR40, ceqR64, ceqR13, clt_nI, ceq_nI, rI_nI, rA_nI, wA_nI, rZ_nI, wZ_nI, wF, wB, wR, zand, zor, zandn, zorn, ozb2, ozb3, ozb4, decide_true, decide_false, Nat.lt_irrefl, Bool.false_eq_true, ↓reduceIte, C_cpV, e2, e3, hmv]
  obtain ⟨μ4, e4, h4⟩ := lp (Q := CS N s w μ0) (body := fun q => f8_choose_L1 s (nI b) b (sp_mv b S (sp_ch1 N b S)) q.1 q.2) nI (sp_setl N b (sp_mv b S (sp_ch1 N b S))) (nP N b) (S := sp_ch1 N b S) (μ := μ3) (by
    intro i μ1 hi k1
    obtain ⟨t, μ5, μ6, e5, e6, k6⟩ := C_setl k1 hb hi (mv := sp_mv b S (sp_ch1 N b S))
    have q28 := nw.eo_28 hb hi
    refine ⟨μ6, ?_, k6⟩
    show f8_choose_L1 s (nI b) b (sp_mv b S (sp_ch1 N b S)) (nI i) μ1 = _
    unfold f8_choose_L1
    simp (disch := omega) only [k1.c_wir, k1.v_p hb, k1.w_eo hb hi, obs, pk_mul, nI_add, nI_1, mulR2, mulR3, mulR4, mulR6, mulR7, mulR8, mulR10, mulR12, mulR16, mulQ2, mulQ3, mulQ4, mulQ6, mulQ7, mulQ8, mulQ10, mulQ12, mulQ16, mulQ18, mulQ48, addR2, addR3, addR4, addR5, addR6, addR7, addR8, addR9, addR10, addR16, addR20, addQ4, addQ100, addQ964, addQ978, addQ986, addQ1114, addQ1274, cltR2, cltR3, cltR4, cltR6, cltR8, cltR10, cltR13, cltR14, cltR18, cltR28, cltR40, cltR62, cltR64, cltR84, cltR96, ceqR0, ceqR1, ceqR2, ceqR3, ceqR5, ceqR6, ceqR8, ceqR14, ceqR39, ceqR40, ceqR64, ceqR13, clt_nI, ceq_nI, rI_nI, rA_nI, wA_nI, rZ_nI, wZ_nI, wF, wB, wR, zand, zor, zandn, zorn, ozb2, ozb3, ozb4, decide_true, decide_false, Nat.lt_irrefl, Bool.false_eq_true, ↓reduceIte, hi, k1.w_dl, e5]
    by_cases c1 : ceq t 1 = true
    · rw [if_pos c1] at e6 ⊢
      rw [e6]; rfl
    · rw [if_neg c1] at e6 ⊢
      by_cases c2 : ceq t 2 = true
      · rw [if_pos c2] at e6 ⊢
        rw [e6]; rfl
      · rw [if_neg c2] at e6 ⊢
        rw [Option.some.inj e6]) (by
    intro μ1 k1
    show f8_choose_L1 s (nI b) b (sp_mv b S (sp_ch1 N b S)) (nI (nP N b)) μ1 = _
    unfold f8_choose_L1
    simp (disch := omega) only [k1.c_wir, k1.v_p hb, obs, pk_mul, nI_add, nI_1, mulR2, mulR3, mulR4, mulR6, mulR7, mulR8, mulR10, mulR12, mulR16, mulQ2, mulQ3, mulQ4, mulQ6, mulQ7, mulQ8, mulQ10, mulQ12, mulQ16, mulQ18, mulQ48, addR2, addR3, addR4, addR5, addR6, addR7, addR8, addR9, addR10, addR16, addR20, addQ4, addQ100, addQ964, addQ978, addQ986, addQ1114, addQ1274, cltR2, cltR3, cltR4, cltR6, cltR8, cltR10, cltR13, cltR14, cltR18, cltR28, cltR40, cltR62, cltR64, cltR84, cltR96, ceqR0, ceqR1, ceqR2, ceqR3, ceqR5, ceqR6, ceqR8, ceqR14, ceqR39, ceqR40, ceqR64, ceqR13, clt_nI, ceq_nI, rI_nI, rA_nI, wA_nI, rZ_nI, wZ_nI, wF, wB, wR, zand, zor, zandn, zorn, ozb2, ozb3, ozb4, decide_true, decide_false, Nat.lt_irrefl, Bool.false_eq_true, ↓reduceIte]) (by omega) h3'
  exact ⟨μ4, zb_lp e4, h4⟩
end zC6
