/-! CLASS: proposals, the root's word, replies, configs -/
theorem zloop_out {σ ρ : Type} {body : σ → Option (σ ⊕ ρ)} {x : σ} {r : ρ} {n : Nat} (hn : 0 < n) (h : body x = some (.inr r)) : zloop body n x = some r := by
  cases n with
  | zero => omega
  | succ n => unfold zloop; rw [h]; rfl
section zC10
variable {N : zN} {s w : Nat} {μ0 μ μ' : zM} {S S' : zS} {e b l q : Nat}
theorem take1_o {p : Nat} (nw : NW N) (hb : b < nB N) (hp : p < nP N b) : only (XO N b) S (sp_take1 N b p S) := by
  have he := nw.eo_l hb hp
  have hbb := nw.bo_eo hb hp
  have sh : only (XO N b) S (sp_shut N (eo N b p) S) := by have := shut_o (S := S) nw he; rw [hbb] at this; exact this
  unfold sp_take1
  exact only.it (fun _ => (sh.zu (Or.inl ⟨by omega, p, hp, rfl⟩)).zu (Or.inl ⟨by omega, p, hp, rfl⟩)) (fun _ => only.rf)
theorem mk2_o {n : Nat} (hn : n ≤ nP N b) : only (XO N b) S (pfold (sp_mk2 N b) n S) := by
  refine only.pf (fun p S hp => ?_)
  unfold sp_mk2
  exact only.it (fun _ => only.rf.zu (Or.inl ⟨by omega, p, by omega, rfl⟩)) (fun _ => only.rf)
theorem C_prop (h : CS N s w μ0 μ S) (he : e < 2 * nL N) : ∃ μ', f8_takeProposal s (nI e) μ = some μ' ∧ CS N s w μ0 μ' (sp_prop N e S) := by
  have nw := h.nw
  have e28 := nw.e28 he
  have hb := nw.bo_b he
  have hb8 := nw.bo_8 he
  have hp6 := nw.p6 hb
  have h1 : ∃ x μ1, zloop (fun s_1 => f8_takeProposal_L1 s (nI e) (nI (bo N e)) s_1.1 s_1.2) 1000000 (0, μ) = some (x, μ1) ∧ CS N s w μ0 μ1 (if ceq (S 0 e) 1 = true then pfold (sp_take1 N (bo N e)) (nP N (bo N e)) S else S) := by
    by_cases c : ceq (S 0 e) 1 = true
    · rw [if_pos c]
      obtain ⟨μ1, e1, h1⟩ := lp (Q := CS N s w μ0) (body := fun s_1 => f8_takeProposal_L1 s (nI e) (nI (bo N e)) s_1.1 s_1.2) nI (sp_take1 N (bo N e)) (nP N (bo N e)) (S := S) (μ := μ) (x0 := 0) (by
        intro i μ1 hi k1
        have on1 : only (XO N (bo N e)) S (pfold (sp_take1 N (bo N e)) i S) := only.pf (fun p S hp => take1_o nw hb (by omega))
        have r0 := on1 0 e (by unfold XO; omega)
        generalize pfold (sp_take1 N (bo N e)) i S = S1 at *
        have q28 := nw.eo_28 hb hi
        have ql := nw.eo_l hb hi
        show ∃ μ', f8_takeProposal_L1 s (nI e) (nI (bo N e)) (nI i) μ1 = some (.inl (nI (i + 1), μ')) ∧ _
        unfold f8_takeProposal_L1 sp_take1
        simp (disch := omega) only [k1.c_wir, k1.v_p hb, k1.w_eo hb hi, obs, pk_mul, nI_add, nI_1, mulR2, mulR3, mulR4, mulR6, mulR7, mulR8, mulR10, mulR12, mulR16, mulQ2, mulQ3, mulQ4, mulQ6, mulQ7, mulQ8, mulQ10, mulQ12, mulQ16, mulQ18, mulQ48, addR2, addR3, addR4, addR5, addR6, addR7, addR8, addR9, addR10, addR16, addR20, addQ4, addQ100, addQ964, addQ978, addQ986, addQ1114, addQ1274, cltR2, cltR3, cltR4, cltR6, cltR8, cltR10, cltR13, cltR14, cltR18, cltR28, cltR40, cltR62, cltR64, cltR84, cltR96, ceqR0, ceqR1, ceqR2, ceqR3, ceqR5, ceqR6, ceqR8, ceqR14, ceqR39, ceqR40, ceqR64, ceqR13, clt_nI, ceq_nI, rI_nI, rA_nI, wA_nI, rZ_nI, wZ_nI, wF, wB, wR, zand, zor, zandn, zorn, ozb2, ozb3, ozb4, decide_true, decide_false, Nat.lt_irrefl, Bool.false_eq_true, ↓reduceIte, k1.r_role, k1.r_edge, k1.r_agr, hi, r0, c, Bool.true_and]
        by_cases c2 : ((ceq (S1 0 (eo N (bo N e) i)) 2 && !(ceq (S1 5 (eo N (bo N e) i)) 1)) && !(ceq (S1 4 (eo N (bo N e) i)) 1)) = true
        · simp only [if_pos c2]
          obtain ⟨μ2, e2, k2⟩ := C_shut k1 ql
          refine ⟨_, ?_, (k2.w_wait q28 (v := nI (nDl N))).w_mark q28 (v := true)⟩
          rw [e2, obs, k2.c_wir, obs, k2.w_dl]
        · simp only [if_neg c2]
          exact ⟨_, rfl, k1⟩) (by
        intro μ1 k1
        show f8_takeProposal_L1 s (nI e) (nI (bo N e)) (nI (nP N (bo N e))) μ1 = _
        unfold f8_takeProposal_L1
        simp (disch := omega) only [k1.c_wir, k1.v_p hb, obs, pk_mul, nI_add, nI_1, mulR2, mulR3, mulR4, mulR6, mulR7, mulR8, mulR10, mulR12, mulR16, mulQ2, mulQ3, mulQ4, mulQ6, mulQ7, mulQ8, mulQ10, mulQ12, mulQ16, mulQ18, mulQ48, addR2, addR3, addR4, addR5, addR6, addR7, addR8, addR9, addR10, addR16, addR20, addQ4, addQ100, addQ964, addQ978, addQ986, addQ1114, addQ1274, cltR2, cltR3, cltR4, cltR6, cltR8, cltR10, cltR13, cltR14, cltR18, cltR28, cltR40, cltR62, cltR64, cltR84, cltR96, ceqR0, ceqR1, ceqR2, ceqR3, ceqR5, ceqR6, ceqR8, ceqR14, ceqR39, ceqR40, ceqR64, ceqR13, clt_nI, ceq_nI, rI_nI, rA_nI, wA_nI, rZ_nI, wZ_nI, wF, wB, wR, zand, zor, zandn, zorn, ozb2, ozb3, ozb4, decide_true, decide_false, Nat.lt_irrefl, Bool.false_eq_true, ↓reduceIte, Bool.false_and]) (by omega) h
      exact ⟨_, μ1, e1, h1⟩
    · rw [if_neg c]
      refine ⟨0, μ, zloop_out (by omega) ?_, h⟩
      show f8_takeProposal_L1 s (nI e) (nI (bo N e)) 0 μ = _
      unfold f8_takeProposal_L1
      simp (disch := omega) only [h.c_wir, h.v_p hb, obs, pk_mul, nI_add, nI_1, mulR2, mulR3, mulR4, mulR6, mulR7, mulR8, mulR10, mulR12, mulR16, mulQ2, mulQ3, mulQ4, mulQ6, mulQ7, mulQ8, mulQ10, mulQ12, mulQ16, mulQ18, mulQ48, addR2, addR3, addR4, addR5, addR6, addR7, addR8, addR9, addR10, addR16, addR20, addQ4, addQ100, addQ964, addQ978, addQ986, addQ1114, addQ1274, cltR2, cltR3, cltR4, cltR6, cltR8, cltR10, cltR13, cltR14, cltR18, cltR28, cltR40, cltR62, cltR64, cltR84, cltR96, ceqR0, ceqR1, ceqR2, ceqR3, ceqR5, ceqR6, ceqR8, ceqR14, ceqR39, ceqR40, ceqR64, ceqR13, clt_nI, ceq_nI, rI_nI, rA_nI, wA_nI, rZ_nI, wZ_nI, wF, wB, wR, zand, zor, zandn, zorn, ozb2, ozb3, ozb4, decide_true, decide_false, Nat.lt_irrefl, Bool.false_eq_true, ↓reduceIte, h.r_role, Bool.eq_false_iff.mpr c, Bool.and_false]
  obtain ⟨x, μ1, e1, h1⟩ := h1
  unfold f8_takeProposal sp_prop
  simp (disch := omega) only [h.c_wir, h.v_bo he, obs, pk_mul, nI_add, nI_1, mulR2, mulR3, mulR4, mulR6, mulR7, mulR8, mulR10, mulR12, mulR16, mulQ2, mulQ3, mulQ4, mulQ6, mulQ7, mulQ8, mulQ10, mulQ12, mulQ16, mulQ18, mulQ48, addR2, addR3, addR4, addR5, addR6, addR7, addR8, addR9, addR10, addR16, addR20, addQ4, addQ100, addQ964, addQ978, addQ986, addQ1114, addQ1274, cltR2, cltR3, cltR4, cltR6, cltR8, cltR10, cltR13, cltR14, cltR18, cltR28, cltR40, cltR62, cltR64, cltR84, cltR96, ceqR0, ceqR1, ceqR2, ceqR3, ceqR5, ceqR6, ceqR8, ceqR14, ceqR39, ceqR40, ceqR64, ceqR13, clt_nI, ceq_nI, rI_nI, rA_nI, wA_nI, rZ_nI, wZ_nI, wF, wB, wR, zand, zor, zandn, zorn, ozb2, ozb3, ozb4, decide_true, decide_false, Nat.lt_irrefl, Bool.false_eq_true, ↓reduceIte]
  rw [zb_lp e1]
  exact ⟨_, rfl, (h1.w_owes e28 (v := true)).w_mark e28 (v := true)⟩
theorem C_foll (h : CS N s w μ0 μ S) (he : e < 2 * nL N) (hq : q < 84) : ∃ μ', f8_followRoot s (nI e) (s + 93 + 2 * q) μ = some μ' ∧ CS N s w μ0 μ' (sp_foll N e q S) := by
  have nw := h.nw
  have e28 := nw.e28 he
  have hb := nw.bo_b he
  have hb8 := nw.bo_8 he
  have hp6 := nw.p6 hb
  have h1 : ∃ μ1, (if ceq (S 22 (bo N e)) 1 = true then (zb2 (zloop (fun s_1 => f8_followRoot_L1 s (nI (bo N e)) s_1.1 s_1.2) 1000000 (0, μ)) fun v_p_13 μ14 => some μ14) else some μ) = some μ1 ∧ CS N s w μ0 μ1 (if ceq (S 22 (bo N e)) 1 = true then pfold (sp_mk2 N (bo N e)) (nP N (bo N e)) S else S) := by
    by_cases c : ceq (S 22 (bo N e)) 1 = true
    · simp only [if_pos c]
      obtain ⟨μ1, e1, h1⟩ := lp (Q := CS N s w μ0) (body := fun s_1 => f8_followRoot_L1 s (nI (bo N e)) s_1.1 s_1.2) nI (sp_mk2 N (bo N e)) (nP N (bo N e)) (S := S) (μ := μ) (x0 := 0) (by
        intro i μ1 hi k1
        generalize pfold (sp_mk2 N (bo N e)) i S = S1 at *
        have q28 := nw.eo_28 hb hi
        show ∃ μ', f8_followRoot_L1 s (nI (bo N e)) (nI i) μ1 = some (.inl (nI (i + 1), μ')) ∧ _
        unfold f8_followRoot_L1 sp_mk2
        simp (disch := omega) only [k1.c_wir, k1.v_p hb, k1.w_eo hb hi, obs, pk_mul, nI_add, nI_1, mulR2, mulR3, mulR4, mulR6, mulR7, mulR8, mulR10, mulR12, mulR16, mulQ2, mulQ3, mulQ4, mulQ6, mulQ7, mulQ8, mulQ10, mulQ12, mulQ16, mulQ18, mulQ48, addR2, addR3, addR4, addR5, addR6, addR7, addR8, addR9, addR10, addR16, addR20, addQ4, addQ100, addQ964, addQ978, addQ986, addQ1114, addQ1274, cltR2, cltR3, cltR4, cltR6, cltR8, cltR10, cltR13, cltR14, cltR18, cltR28, cltR40, cltR62, cltR64, cltR84, cltR96, ceqR0, ceqR1, ceqR2, ceqR3, ceqR5, ceqR6, ceqR8, ceqR14, ceqR39, ceqR40, ceqR64, ceqR13, clt_nI, ceq_nI, rI_nI, rA_nI, wA_nI, rZ_nI, wZ_nI, wF, wB, wR, zand, zor, zandn, zorn, ozb2, ozb3, ozb4, decide_true, decide_false, Nat.lt_irrefl, Bool.false_eq_true, ↓reduceIte, k1.r_role, hi]
        by_cases c2 : ceq (S1 0 (eo N (bo N e) i)) 2 = true
        · simp only [if_pos c2]
          exact ⟨_, rfl, k1.w_mark q28⟩
        · simp only [if_neg c2]
          exact ⟨_, rfl, k1⟩) (by
        intro μ1 k1
        show f8_followRoot_L1 s (nI (bo N e)) (nI (nP N (bo N e))) μ1 = _
        unfold f8_followRoot_L1
        simp (disch := omega) only [k1.c_wir, k1.v_p hb, obs, pk_mul, nI_add, nI_1, mulR2, mulR3, mulR4, mulR6, mulR7, mulR8, mulR10, mulR12, mulR16, mulQ2, mulQ3, mulQ4, mulQ6, mulQ7, mulQ8, mulQ10, mulQ12, mulQ16, mulQ18, mulQ48, addR2, addR3, addR4, addR5, addR6, addR7, addR8, addR9, addR10, addR16, addR20, addQ4, addQ100, addQ964, addQ978, addQ986, addQ1114, addQ1274, cltR2, cltR3, cltR4, cltR6, cltR8, cltR10, cltR13, cltR14, cltR18, cltR28, cltR40, cltR62, cltR64, cltR84, cltR96, ceqR0, ceqR1, ceqR2, ceqR3, ceqR5, ceqR6, ceqR8, ceqR14, ceqR39, ceqR40, ceqR64, ceqR13, clt_nI, ceq_nI, rI_nI, rA_nI, wA_nI, rZ_nI, wZ_nI, wF, wB, wR, zand, zor, zandn, zorn, ozb2, ozb3, ozb4, decide_true, decide_false, Nat.lt_irrefl, Bool.false_eq_true, ↓reduceIte]) (by omega) h
      exact ⟨μ1, zb_lp e1, h1⟩
    · simp only [if_neg c]
      exact ⟨_, rfl, h⟩
  obtain ⟨μ1, e1, h1⟩ := h1
  have k59 : (if ceq (S 22 (bo N e)) 1 = true then pfold (sp_mk2 N (bo N e)) (nP N (bo N e)) S else S) 59 q = S 59 q := by
    split
    · exact mk2_o (Nat.le_refl _) 59 q (by unfold XO; omega)
    · rfl
  unfold f8_followRoot sp_foll
  simp (disch := omega) only [h.c_wir, h.v_bo he, obs, pk_mul, nI_add, nI_1, mulR2, mulR3, mulR4, mulR6, mulR7, mulR8, mulR10, mulR12, mulR16, mulQ2, mulQ3, mulQ4, mulQ6, mulQ7, mulQ8, mulQ10, mulQ12, mulQ16, mulQ18, mulQ48, addR2, addR3, addR4, addR5, addR6, addR7, addR8, addR9, addR10, addR16, addR20, addQ4, addQ100, addQ964, addQ978, addQ986, addQ1114, addQ1274, cltR2, cltR3, cltR4, cltR6, cltR8, cltR10, cltR13, cltR14, cltR18, cltR28, cltR40, cltR62, cltR64, cltR84, cltR96, ceqR0, ceqR1, ceqR2, ceqR3, ceqR5, ceqR6, ceqR8, ceqR14, ceqR39, ceqR40, ceqR64, ceqR13, clt_nI, ceq_nI, rI_nI, rA_nI, wA_nI, rZ_nI, wZ_nI, wF, wB, wR, zand, zor, zandn, zorn, ozb2, ozb3, ozb4, decide_true, decide_false, Nat.lt_irrefl, Bool.false_eq_true, ↓reduceIte, h.r_old]
  rw [e1, obs]
  generalize (if ceq (S 22 (bo N e)) 1 = true then pfold (sp_mk2 N (bo N e)) (nP N (bo N e)) S else S) = S1 at *
  rw [C_car h1 hq, obs, k59]
  by_cases c1 : hb_ (S 59 q) 8 = true
  · simp only [if_pos c1, obs]
    have h2 := h1.w_chg e28 (v := 0)
    rw [C_car h2 hq, obs, show zu S1 3 e 0 59 q = S1 59 q from rfl, k59]
    by_cases c2 : hb_ (S 59 q) 4 = true
    · simp only [if_pos c2]
      obtain ⟨μ3, e3, h3⟩ := C_spread h2 he
      exact ⟨μ3, by rw [e3]; rfl, h3⟩
    · simp only [if_neg c2]
      exact ⟨_, rfl, h2⟩
  · simp only [if_neg c1, obs]
    rw [C_car h1 hq, obs, k59]
    by_cases c2 : hb_ (S 59 q) 4 = true
    · simp only [if_pos c2]
      obtain ⟨μ3, e3, h3⟩ := C_spread h1 he
      exact ⟨μ3, by rw [e3]; rfl, h3⟩
    · simp only [if_neg c2]
      exact ⟨_, rfl, h1⟩
theorem C_reply (h : CS N s w μ0 μ S) (he : e < 2 * nL N) (hq : q < 84) : ∃ μ', f8_readReply s (nI e) (s + 93 + 2 * q) μ = some μ' ∧ CS N s w μ0 μ' (sp_reply N e q S) := by
  have nw := h.nw
  have e28 := nw.e28 he
  unfold f8_readReply sp_reply
  simp (disch := omega) only [obs, pk_mul, nI_add, nI_1, mulR2, mulR3, mulR4, mulR6, mulR7, mulR8, mulR10, mulR12, mulR16, mulQ2, mulQ3, mulQ4, mulQ6, mulQ7, mulQ8, mulQ10, mulQ12, mulQ16, mulQ18, mulQ48, addR2, addR3, addR4, addR5, addR6, addR7, addR8, addR9, addR10, addR16, addR20, addQ4, addQ100, addQ964, addQ978, addQ986, addQ1114, addQ1274, cltR2, cltR3, cltR4, cltR6, cltR8, cltR10, cltR13, cltR14, cltR18, cltR28, cltR40, cltR62, cltR64, cltR84, cltR96, ceqR0, ceqR1, ceqR2, ceqR3, ceqR5, ceqR6, ceqR8, ceqR14, ceqR39, ceqR40, ceqR64, ceqR13, clt_nI, ceq_nI, rI_nI, rA_nI, wA_nI, rZ_nI, wZ_nI, wF, wB, wR, zand, zor, zandn, zorn, ozb2, ozb3, ozb4, decide_true, decide_false, Nat.lt_irrefl, Bool.false_eq_true, ↓reduceIte, h.r_role, C_car h hq]
  by_cases c : ceq (S 0 e) 2 = true
  · simp only [if_pos c]
    have h1 : ∃ μ1, (zb2 (if hb_ (S 59 q) 2 = true then (zb2 (f8_oursAt s (nI e) μ) fun t13 μ14 => (f9_against (s + 93 + 2 * q + 1) t13 μ14).bind fun t15 => some (ceq t15 0, μ14)) else some (false, μ)) fun b8 μ9 => if b8 = true then (f8_open s (nI e) (sB μ9 409 (s + 37 + 2 * e) true)).bind fun μ11 => some μ11 else some μ9) = some μ1 ∧ CS N s w μ0 μ1 (if (hb_ (S 59 q) 2 && (((ceq (S 54 q) (S 23 (bo N e)) && ceq (S 55 q) (S 24 (bo N e))) && ceq (S 56 q) (S 31 (bo N e))) && ceq (S 57 q) (nI (po N e)))) = true then sp_open N e (zu S 4 e 1) else S) := by
      by_cases c2 : hb_ (S 59 q) 2 = true
      · simp only [if_pos c2]
        obtain ⟨μ2, e2, h2, o0, o1, o2, o3⟩ := C_ours h he
        rw [e2, ozb2, C_agst, obs, ozb2, vcmp_eq, h2.r_mroot hq, h2.r_mcost hq, h2.r_mid hq, h2.r_mport hq, o0, o1, o2, o3, c2, Bool.true_and]
        by_cases c3 : (((ceq (S 54 q) (S 23 (bo N e)) && ceq (S 55 q) (S 24 (bo N e))) && ceq (S 56 q) (S 31 (bo N e))) && ceq (S 57 q) (nI (po N e))) = true
        · simp only [if_pos c3]
          obtain ⟨μ3, e3, h3⟩ := C_open (h2.w_agr e28 (v := true)) he
          exact ⟨μ3, by rw [e3]; rfl, h3⟩
        · simp only [if_neg c3]
          exact ⟨_, rfl, h2⟩
      · simp only [if_neg c2, Bool.eq_false_iff.mpr c2, Bool.false_and, Bool.false_eq_true, ↓reduceIte]
        exact ⟨_, rfl, h⟩
    obtain ⟨μ1, e1, h1⟩ := h1
    have k59 : (if (hb_ (S 59 q) 2 && (((ceq (S 54 q) (S 23 (bo N e)) && ceq (S 55 q) (S 24 (bo N e))) && ceq (S 56 q) (S 31 (bo N e))) && ceq (S 57 q) (nI (po N e)))) = true then sp_open N e (zu S 4 e 1) else S) 59 q = S 59 q := by
      split
      · exact (open_o nw he 59 q (by unfold XO; omega)).trans rfl
      · rfl
    rw [e1, obs]
    generalize (if (hb_ (S 59 q) 2 && (((ceq (S 54 q) (S 23 (bo N e)) && ceq (S 55 q) (S 24 (bo N e))) && ceq (S 56 q) (S 31 (bo N e))) && ceq (S 57 q) (nI (po N e)))) = true then sp_open N e (zu S 4 e 1) else S) = S1 at *
    rw [C_car h1 hq, obs, k59]
    by_cases c2 : hb_ (S 59 q) 4 = true
    · simp only [if_pos c2]
      obtain ⟨μ3, e3, h3⟩ := C_spread h1 he
      have k59b : sp_spread N e S1 59 q = S 59 q := (spread_o nw he 59 q (by unfold XO; omega)).trans k59
      rw [e3, obs, C_car h3 hq, obs, k59b]
      by_cases c3 : hb_ (S 59 q) 16 = true
      · simp only [if_pos c3]
        exact ⟨_, rfl, (h3.w_answ e28 (v := true)).w_mark e28 (v := true)⟩
      · simp only [if_neg c3]
        exact ⟨_, rfl, h3⟩
    · simp only [if_neg c2]
      exact ⟨_, rfl, h1⟩
  · simp only [if_neg c]
    exact ⟨_, rfl, h⟩
theorem C_config (h : CS N s w μ0 μ S) (he : e < 2 * nL N) (hq : q < 84) : ∃ μ', f8_readConfig s (nI e) (s + 93 + 2 * q) μ = some μ' ∧ CS N s w μ0 μ' (sp_config N e q S) := by
  have nw := h.nw
  have e28 := nw.e28 he
  have hb := nw.bo_b he
  have hb8 := nw.bo_8 he
  unfold f8_readConfig sp_config
  simp (disch := omega) only [h.c_wir, h.v_bo he, h.w_ag, obs, pk_mul, nI_add, nI_1, mulR2, mulR3, mulR4, mulR6, mulR7, mulR8, mulR10, mulR12, mulR16, mulQ2, mulQ3, mulQ4, mulQ6, mulQ7, mulQ8, mulQ10, mulQ12, mulQ16, mulQ18, mulQ48, addR2, addR3, addR4, addR5, addR6, addR7, addR8, addR9, addR10, addR16, addR20, addQ4, addQ100, addQ964, addQ978, addQ986, addQ1114, addQ1274, cltR2, cltR3, cltR4, cltR6, cltR8, cltR10, cltR13, cltR14, cltR18, cltR28, cltR40, cltR62, cltR64, cltR84, cltR96, ceqR0, ceqR1, ceqR2, ceqR3, ceqR5, ceqR6, ceqR8, ceqR14, ceqR39, ceqR40, ceqR64, ceqR13, clt_nI, ceq_nI, rI_nI, rA_nI, wA_nI, rZ_nI, wZ_nI, wF, wB, wR, zand, zor, zandn, zorn, ozb2, ozb3, ozb4, decide_true, decide_false, Nat.lt_irrefl, Bool.false_eq_true, ↓reduceIte, h.r_mage hq, h.r_holds]
  by_cases c : clt (nI (nAg N)) (S 58 q + 1) = true
  · simp only [if_pos c]
    by_cases c2 : ceq (S 10 e) 1 = true
    · simp only [if_pos c2]
      obtain ⟨μ2, e2, h2⟩ := C_choose (h.w_holds e28 (v := false)) hb
      exact ⟨μ2, by rw [e2]; rfl, h2⟩
    · simp only [if_neg c2]
      exact ⟨_, rfl, h⟩
  · simp only [if_neg c]
    have h1 : ∃ μ1, (if ceq (S 10 e) 1 = true then some (false, μ) else (zb2 (f8_oursAt s (nI e) μ) fun t17 μ18 => (f9_against (s + 93 + 2 * q + 1) t17 μ18).bind fun t19 => some (!clt t19 0, μ18))) = some ((!(ceq (S 10 e) 1) && !(vlt (S 54 q) (S 55 q) (S 56 q) (S 57 q) (S 23 (bo N e)) (S 24 (bo N e)) (S 31 (bo N e)) (nI (po N e)))), μ1) ∧ CS N s w μ0 μ1 S := by
      by_cases c2 : ceq (S 10 e) 1 = true
      · rw [if_pos c2, c2]
        exact ⟨_, rfl, h⟩
      · rw [if_neg c2, Bool.eq_false_iff.mpr c2]
        obtain ⟨μ2, e2, h2, o0, o1, o2, o3⟩ := C_ours h he
        rw [e2, ozb2, C_agst, obs, vcmp_lt, h2.r_mroot hq, h2.r_mcost hq, h2.r_mid hq, h2.r_mport hq, o0, o1, o2, o3]
        exact ⟨_, rfl, h2⟩
    obtain ⟨μ1, e1, h1⟩ := h1
    rw [e1, ozb2]
    by_cases c2 : (!(ceq (S 10 e) 1) && !(vlt (S 54 q) (S 55 q) (S 56 q) (S 57 q) (S 23 (bo N e)) (S 24 (bo N e)) (S 31 (bo N e)) (nI (po N e)))) = true
    · simp only [if_pos c2]
      exact ⟨_, rfl, h1.w_mark e28⟩
    · simp only [if_neg c2]
      have k0 := h1.w_holds e28 (v := true)
      have k1 := k0.w_hroot e28 (v := S 54 q)
      have k2 := k1.w_hcost e28 (v := S 55 q)
      have k3 := k2.w_hid e28 (v := S 56 q)
      have k4 := k3.w_hport e28 (v := S 57 q)
      have k5 := k4.w_hage e28 (v := S 58 q)
      have k6 := k5.w_life e28 (v := 3)
      have ec : f9_copyFrom (s + 37 + 2 * e + 1) (s + 93 + 2 * q + 1) (sB μ1 401 (s + 37 + 2 * e) true) = some (sF (sF (sF (sF (sB μ1 401 (s + 37 + 2 * e) true) 900 (s + 37 + 2 * e + 1) (S 54 q)) 901 (s + 37 + 2 * e + 1) (S 55 q)) 902 (s + 37 + 2 * e + 1) (S 56 q)) 903 (s + 37 + 2 * e + 1) (S 57 q)) := by
        rw [C_cpV]
        unfold cpV
        rw [k0.r_mroot hq, k0.r_mcost hq, k0.r_mid hq, k0.r_mport hq]; rfl
      rw [ec, obs, k4.r_mage hq, show (zu (zu (zu (zu (zu S 10 e (bI true)) 11 e (S 54 q)) 12 e (S 55 q)) 13 e (S 56 q)) 14 e (S 57 q)) 58 q = S 58 q from rfl]
      obtain ⟨μ7, e7, h7⟩ := C_choose (S := sp_hold e q S) k6 hb
      rw [e7, obs]
      generalize sp_choose N (bo N e) (sp_hold e q S) = S7 at *
      unfold sp_cfg2
      rw [h7.r_role e28]
      by_cases c3 : ceq (S7 0 e) 2 = true
      · simp only [if_pos c3]
        exact ⟨_, rfl, h7⟩
      · simp only [if_neg c3]
        rw [C_car h7 hq, obs]
        have h8 : ∃ μ8, (if hb_ (S7 59 q) 1 = true then (f8_takeProposal s (nI e) μ7).bind fun μ16 => some μ16 else some μ7) = some μ8 ∧ CS N s w μ0 μ8 (if hb_ (S7 59 q) 1 = true then sp_prop N e S7 else S7) := by
          by_cases c4 : hb_ (S7 59 q) 1 = true
          · simp only [if_pos c4]
            obtain ⟨μ8, e8, h8⟩ := C_prop h7 he
            exact ⟨μ8, by rw [e8]; rfl, h8⟩
          · simp only [if_neg c4]
            exact ⟨_, rfl, h7⟩
        obtain ⟨μ8, e8, h8⟩ := h8
        rw [e8, obs, h8.r_role e28]
        generalize (if hb_ (S7 59 q) 1 = true then sp_prop N e S7 else S7) = S8 at *
        by_cases c4 : ceq (S8 0 e) 1 = true
        · simp only [if_pos c4]
          obtain ⟨μ9, e9, h9⟩ := C_foll h8 he hq
          exact ⟨μ9, by rw [e9]; rfl, h9⟩
        · simp only [if_neg c4]
          exact ⟨_, rfl, h8⟩
end zC10
