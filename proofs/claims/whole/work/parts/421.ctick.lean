/-! CLASS: a tick, whole -/
section zC8
variable {N : zN} {s w : Nat} {μ0 μ μ' : zM} {S S' : zS} {e b l : Nat}
theorem C_wait (h : CS N s w μ0 μ S) (hb : b < nB N) : ∃ μ', zloop (fun q => f8_tick_L1 s (nI b) q.1 q.2) 1000000 (0, μ) = some (nI (nP N b), μ') ∧ CS N s w μ0 μ' (pfold (sp_wt1 N b) (nP N b) S) := by
  have nw := h.nw
  have hb8 := nw.b_8 hb
  have hp6 := nw.p6 hb
  refine lp (Q := CS N s w μ0) nI (sp_wt1 N b) (nP N b) ?_ ?_ (by omega) h
  · intro i μ1 hi h1
    generalize pfold (sp_wt1 N b) i S = S1 at *
    have q28 := nw.eo_28 hb hi
    have ql := nw.eo_l hb hi
    show ∃ μ', f8_tick_L1 s (nI b) (nI i) μ1 = some (.inl (nI (i + 1), μ')) ∧ _
    unfold f8_tick_L1 sp_wt1
    simp (disch := omega) only [f4_isInUse, h1.c_wir, h1.v_p hb, h1.w_eo hb hi, obs, pk_mul, nI_add, nI_1, mulR2, mulR3, mulR4, mulR6, mulR7, mulR8, mulR10, mulR12, mulR16, mulQ2, mulQ3, mulQ4, mulQ6, mulQ7, mulQ8, mulQ10, mulQ12, mulQ16, mulQ18, mulQ48, addR2, addR3, addR4, addR5, addR6, addR7, addR8, addR9, addR10, addR16, addR20, addQ4, addQ100, addQ964, addQ978, addQ986, addQ1114, addQ1274, cltR2, cltR3, cltR4, cltR6, cltR8, cltR10, cltR13, cltR14, cltR18, cltR28, cltR40, cltR62, cltR64, cltR84, cltR96, ceqR0, ceqR1, ceqR2, ceqR3, ceqR5, ceqR6, ceqR8, ceqR14, ceqR39, ceqR40, ceqR64, ceqR13, clt_nI, ceq_nI, rI_nI, rA_nI, wA_nI, rZ_nI, wZ_nI, wF, wB, wR, zand, zor, zandn, zorn, ozb2, ozb3, ozb4, decide_true, decide_false, Nat.lt_irrefl, Bool.false_eq_true, ↓reduceIte, h1.r_role, h1.r_state, h1.r_wait, hi]
    by_cases c : ((!(ceq (S1 0 (eo N b i)) 1 || ceq (S1 0 (eo N b i)) 2) || ceq (S1 1 (eo N b i)) 2) || ceq (S1 2 (eo N b i)) 0) = true
    · simp only [if_pos c]
      exact ⟨_, rfl, h1⟩
    · simp only [if_neg c]
      have h2 := h1.w_wait q28 (v := S1 2 (eo N b i) - 1)
      have g4 : gF (sF μ1 407 (s + 37 + 2 * eo N b i) (S1 2 (eo N b i) - 1)) 407 (s + 37 + 2 * eo N b i) = S1 2 (eo N b i) - 1 := by simp [gF_sF]
      rw [g4, h2.r_state q28]
      by_cases c2 : ceq (S1 2 (eo N b i) - 1) 0 = true
      · simp only [if_pos c2]
        show ∃ μ', (if ceq (S1 1 (eo N b i)) 0 = true then _ else _) = _ ∧ _
        by_cases c3 : ceq (S1 1 (eo N b i)) 0 = true
        · simp only [if_pos c3]
          obtain ⟨μ3, e3, h3⟩ := C_enter h2 ql (v := 1)
          refine ⟨_, ?_, h3.w_wait q28 (v := nI (nDl N))⟩
          rw [e3, obs, h3.c_wir, obs, h3.w_dl]
        · simp only [if_neg c3]
          obtain ⟨μ3, e3, h3⟩ := C_open h2 ql
          exact ⟨μ3, by rw [e3]; rfl, h3⟩
      · simp only [if_neg c2]
        exact ⟨_, rfl, h2⟩
  · intro μ1 h1
    show f8_tick_L1 s (nI b) (nI (nP N b)) μ1 = _
    unfold f8_tick_L1
    simp (disch := omega) only [h1.c_wir, h1.v_p hb, obs, pk_mul, nI_add, nI_1, mulR2, mulR3, mulR4, mulR6, mulR7, mulR8, mulR10, mulR12, mulR16, mulQ2, mulQ3, mulQ4, mulQ6, mulQ7, mulQ8, mulQ10, mulQ12, mulQ16, mulQ18, mulQ48, addR2, addR3, addR4, addR5, addR6, addR7, addR8, addR9, addR10, addR16, addR20, addQ4, addQ100, addQ964, addQ978, addQ986, addQ1114, addQ1274, cltR2, cltR3, cltR4, cltR6, cltR8, cltR10, cltR13, cltR14, cltR18, cltR28, cltR40, cltR62, cltR64, cltR84, cltR96, ceqR0, ceqR1, ceqR2, ceqR3, ceqR5, ceqR6, ceqR8, ceqR14, ceqR39, ceqR40, ceqR64, ceqR13, clt_nI, ceq_nI, rI_nI, rA_nI, wA_nI, rZ_nI, wZ_nI, wF, wB, wR, zand, zor, zandn, zorn, ozb2, ozb3, ozb4, decide_true, decide_false, Nat.lt_irrefl, Bool.false_eq_true, ↓reduceIte]
theorem C_ages (h : CS N s w μ0 μ S) (hb : b < nB N) : ∃ μ', f8_ageAddresses s (nI b) μ = some μ' ∧ CS N s w μ0 μ' (sp_ages N b S) := by
  have nw := h.nw
  have hb8 := nw.b_8 hb
  unfold f8_ageAddresses sp_ages
  simp (disch := omega) only [obs, pk_mul, nI_add, nI_1, mulR2, mulR3, mulR4, mulR6, mulR7, mulR8, mulR10, mulR12, mulR16, mulQ2, mulQ3, mulQ4, mulQ6, mulQ7, mulQ8, mulQ10, mulQ12, mulQ16, mulQ18, mulQ48, addR2, addR3, addR4, addR5, addR6, addR7, addR8, addR9, addR10, addR16, addR20, addQ4, addQ100, addQ964, addQ978, addQ986, addQ1114, addQ1274, cltR2, cltR3, cltR4, cltR6, cltR8, cltR10, cltR13, cltR14, cltR18, cltR28, cltR40, cltR62, cltR64, cltR84, cltR96, ceqR0, ceqR1, ceqR2, ceqR3, ceqR5, ceqR6, ceqR8, ceqR14, ceqR39, ceqR40, ceqR64, ceqR13, clt_nI, ceq_nI, rI_nI, rA_nI, wA_nI, rZ_nI, wZ_nI, wF, wB, wR, zand, zor, zandn, zorn, ozb2, ozb3, ozb4, decide_true, decide_false, Nat.lt_irrefl, Bool.false_eq_true, ↓reduceIte, h.r_short]
  generalize (!ceq (S 27 b) 0) = sh
  obtain ⟨μ1, e1, h1⟩ := lp (Q := CS N s w μ0) (body := fun q => f8_ageAddresses_L1 s (nI b) sh q.1 q.2) (fun i => nI (b * 8 + i)) (sp_age1 N b sh) 8 (S := S) (μ := μ) (x0 := nI (b * 8)) (by
    intro i μ1 hi h1
    generalize pfold (sp_age1 N b sh) i S = S1 at *
    have hlt : b * 8 + i < b * 8 + 8 := by omega
    show ∃ μ', f8_ageAddresses_L1 s (nI b) sh (nI (b * 8 + i)) μ1 = some (.inl (nI (b * 8 + (i + 1)), μ')) ∧ _
    unfold f8_ageAddresses_L1 sp_age1
    simp (disch := omega) only [obs, pk_mul, nI_add, nI_1, mulR2, mulR3, mulR4, mulR6, mulR7, mulR8, mulR10, mulR12, mulR16, mulQ2, mulQ3, mulQ4, mulQ6, mulQ7, mulQ8, mulQ10, mulQ12, mulQ16, mulQ18, mulQ48, addR2, addR3, addR4, addR5, addR6, addR7, addR8, addR9, addR10, addR16, addR20, addQ4, addQ100, addQ964, addQ978, addQ986, addQ1114, addQ1274, cltR2, cltR3, cltR4, cltR6, cltR8, cltR10, cltR13, cltR14, cltR18, cltR28, cltR40, cltR62, cltR64, cltR84, cltR96, ceqR0, ceqR1, ceqR2, ceqR3, ceqR5, ceqR6, ceqR8, ceqR14, ceqR39, ceqR40, ceqR64, ceqR13, clt_nI, ceq_nI, rI_nI, rA_nI, wA_nI, rZ_nI, wZ_nI, wF, wB, wR, zand, zor, zandn, zorn, ozb2, ozb3, ozb4, decide_true, decide_false, Nat.lt_irrefl, Bool.false_eq_true, ↓reduceIte, hlt, h1.r_la, h1.r_lg]
    by_cases c : ceq (S1 42 (b * 8 + i)) (-1) = true
    · simp only [if_pos c]
      exact ⟨_, rfl, h1⟩
    · simp only [if_neg c]
      have h2 := h1.w_lg (e := b * 8 + i) (by omega) (v := S1 43 (b * 8 + i) + 1)
      have g2 : gA (sA μ1 (s + 7) (b * 8 + i) (S1 43 (b * 8 + i) + 1)) (s + 7) (b * 8 + i) = S1 43 (b * 8 + i) + 1 := by simp [gA_sA]
      simp (disch := omega) only [g2, h2.c_wir, h2.w_dl, obs, pk_mul, nI_add, nI_1, mulR2, mulR3, mulR4, mulR6, mulR7, mulR8, mulR10, mulR12, mulR16, mulQ2, mulQ3, mulQ4, mulQ6, mulQ7, mulQ8, mulQ10, mulQ12, mulQ16, mulQ18, mulQ48, addR2, addR3, addR4, addR5, addR6, addR7, addR8, addR9, addR10, addR16, addR20, addQ4, addQ100, addQ964, addQ978, addQ986, addQ1114, addQ1274, cltR2, cltR3, cltR4, cltR6, cltR8, cltR10, cltR13, cltR14, cltR18, cltR28, cltR40, cltR62, cltR64, cltR84, cltR96, ceqR0, ceqR1, ceqR2, ceqR3, ceqR5, ceqR6, ceqR8, ceqR14, ceqR39, ceqR40, ceqR64, ceqR13, clt_nI, ceq_nI, rI_nI, rA_nI, wA_nI, rZ_nI, wZ_nI, wF, wB, wR, zand, zor, zandn, zorn, ozb2, ozb3, ozb4, decide_true, decide_false, Nat.lt_irrefl, Bool.false_eq_true, ↓reduceIte]
      by_cases c2 : (!(clt (S1 43 (b * 8 + i) + 1) 30) || (sh && clt (nI (nDl N)) (S1 43 (b * 8 + i) + 1))) = true
      · simp only [if_pos c2]
        exact ⟨_, rfl, h2.w_la (by omega) hb hi rfl (Or.inl rfl)⟩
      · simp only [if_neg c2]
        exact ⟨_, rfl, h2⟩) (by
    intro μ1 h1
    show f8_ageAddresses_L1 s (nI b) sh (nI (b * 8 + 8)) μ1 = _
    unfold f8_ageAddresses_L1
    simp (disch := omega) only [obs, pk_mul, nI_add, nI_1, mulR2, mulR3, mulR4, mulR6, mulR7, mulR8, mulR10, mulR12, mulR16, mulQ2, mulQ3, mulQ4, mulQ6, mulQ7, mulQ8, mulQ10, mulQ12, mulQ16, mulQ18, mulQ48, addR2, addR3, addR4, addR5, addR6, addR7, addR8, addR9, addR10, addR16, addR20, addQ4, addQ100, addQ964, addQ978, addQ986, addQ1114, addQ1274, cltR2, cltR3, cltR4, cltR6, cltR8, cltR10, cltR13, cltR14, cltR18, cltR28, cltR40, cltR62, cltR64, cltR84, cltR96, ceqR0, ceqR1, ceqR2, ceqR3, ceqR5, ceqR6, ceqR8, ceqR14, ceqR39, ceqR40, ceqR64, ceqR13, clt_nI, ceq_nI, rI_nI, rA_nI, wA_nI, rZ_nI, wZ_nI, wF, wB, wR, zand, zor, zandn, zorn, ozb2, ozb3, ozb4, decide_true, decide_false, Nat.lt_irrefl, Bool.false_eq_true, ↓reduceIte]) (by omega) h
  exact ⟨μ1, zb_lp e1, h1⟩
theorem C_mark (h : CS N s w μ0 μ S) (hb : b < nB N) : ∃ μ', f8_markByTick s (nI b) μ = some μ' ∧ CS N s w μ0 μ' (sp_mark N b S) := by
  have nw := h.nw
  have hb8 := nw.b_8 hb
  have hp6 := nw.p6 hb
  unfold f8_markByTick sp_mark
  simp (disch := omega) only [obs, pk_mul, nI_add, nI_1, mulR2, mulR3, mulR4, mulR6, mulR7, mulR8, mulR10, mulR12, mulR16, mulQ2, mulQ3, mulQ4, mulQ6, mulQ7, mulQ8, mulQ10, mulQ12, mulQ16, mulQ18, mulQ48, addR2, addR3, addR4, addR5, addR6, addR7, addR8, addR9, addR10, addR16, addR20, addQ4, addQ100, addQ964, addQ978, addQ986, addQ1114, addQ1274, cltR2, cltR3, cltR4, cltR6, cltR8, cltR10, cltR13, cltR14, cltR18, cltR28, cltR40, cltR62, cltR64, cltR84, cltR96, ceqR0, ceqR1, ceqR2, ceqR3, ceqR5, ceqR6, ceqR8, ceqR14, ceqR39, ceqR40, ceqR64, ceqR13, clt_nI, ceq_nI, rI_nI, rA_nI, wA_nI, rZ_nI, wZ_nI, wF, wB, wR, zand, zor, zandn, zorn, ozb2, ozb3, ozb4, decide_true, decide_false, Nat.lt_irrefl, Bool.false_eq_true, ↓reduceIte, h.r_old, h.r_rport]
  generalize (!ceq (S 22 b) 1 || ceq (S 25 b) (-1)) = sk
  obtain ⟨μ1, e1, h1⟩ := lp (Q := CS N s w μ0) (body := fun q => f8_markByTick_L1 s (nI b) sk q.1 q.2) nI (sp_mk1 N b sk) (nP N b) (S := S) (μ := μ) (x0 := 0) (by
    intro i μ1 hi h1
    generalize pfold (sp_mk1 N b sk) i S = S1 at *
    have q28 := nw.eo_28 hb hi
    show ∃ μ', f8_markByTick_L1 s (nI b) sk (nI i) μ1 = some (.inl (nI (i + 1), μ')) ∧ _
    unfold f8_markByTick_L1 sp_mk1
    simp (disch := omega) only [h1.c_wir, h1.v_p hb, h1.w_eo hb hi, obs, pk_mul, nI_add, nI_1, mulR2, mulR3, mulR4, mulR6, mulR7, mulR8, mulR10, mulR12, mulR16, mulQ2, mulQ3, mulQ4, mulQ6, mulQ7, mulQ8, mulQ10, mulQ12, mulQ16, mulQ18, mulQ48, addR2, addR3, addR4, addR5, addR6, addR7, addR8, addR9, addR10, addR16, addR20, addQ4, addQ100, addQ964, addQ978, addQ986, addQ1114, addQ1274, cltR2, cltR3, cltR4, cltR6, cltR8, cltR10, cltR13, cltR14, cltR18, cltR28, cltR40, cltR62, cltR64, cltR84, cltR96, ceqR0, ceqR1, ceqR2, ceqR3, ceqR5, ceqR6, ceqR8, ceqR14, ceqR39, ceqR40, ceqR64, ceqR13, clt_nI, ceq_nI, rI_nI, rA_nI, wA_nI, rZ_nI, wZ_nI, wF, wB, wR, zand, zor, zandn, zorn, ozb2, ozb3, ozb4, decide_true, decide_false, Nat.lt_irrefl, Bool.false_eq_true, ↓reduceIte, h1.r_role, h1.r_chg, hi]
    by_cases c : ((ceq (S1 0 (eo N b i)) 2 && sk) || (ceq (S1 0 (eo N b i)) 1 && !(ceq (S1 3 (eo N b i)) 0))) = true
    · simp only [if_pos c]
      exact ⟨_, rfl, h1.w_mark q28⟩
    · simp only [if_neg c]
      exact ⟨_, rfl, h1⟩) (by
    intro μ1 h1
    show f8_markByTick_L1 s (nI b) sk (nI (nP N b)) μ1 = _
    unfold f8_markByTick_L1
    simp (disch := omega) only [h1.c_wir, h1.v_p hb, obs, pk_mul, nI_add, nI_1, mulR2, mulR3, mulR4, mulR6, mulR7, mulR8, mulR10, mulR12, mulR16, mulQ2, mulQ3, mulQ4, mulQ6, mulQ7, mulQ8, mulQ10, mulQ12, mulQ16, mulQ18, mulQ48, addR2, addR3, addR4, addR5, addR6, addR7, addR8, addR9, addR10, addR16, addR20, addQ4, addQ100, addQ964, addQ978, addQ986, addQ1114, addQ1274, cltR2, cltR3, cltR4, cltR6, cltR8, cltR10, cltR13, cltR14, cltR18, cltR28, cltR40, cltR62, cltR64, cltR84, cltR96, ceqR0, ceqR1, ceqR2, ceqR3, ceqR5, ceqR6, ceqR8, ceqR14, ceqR39, ceqR40, ceqR64, ceqR13, clt_nI, ceq_nI, rI_nI, rA_nI, wA_nI, rZ_nI, wZ_nI, wF, wB, wR, zand, zor, zandn, zorn, ozb2, ozb3, ozb4, decide_true, decide_false, Nat.lt_irrefl, Bool.false_eq_true, ↓reduceIte]) (by omega) h
  exact ⟨μ1, zb_lp e1, h1⟩
theorem C_tick (h : CS N s w μ0 μ S) (hb : b < nB N) : ∃ μ', f8_tick s (nI b) μ = some μ' ∧ CS N s w μ0 μ' (sp_tick N b S) := by
  obtain ⟨μ1, e1, h1⟩ := C_fade h hb
  unfold f8_tick sp_tick
  rw [e1, ozb2]
  have h2 : ∃ μ2, (if (sp_fade N b S).2 = true then ((f8_choose s (nI b) μ1).bind fun μ28 => some μ28) else some μ1) = some μ2 ∧ CS N s w μ0 μ2 (if (sp_fade N b S).2 = true then sp_choose N b (sp_fade N b S).1 else (sp_fade N b S).1) := by
    by_cases c : (sp_fade N b S).2 = true
    · simp only [if_pos c]
      obtain ⟨μ2, e2, h2⟩ := C_choose h1 hb
      exact ⟨μ2, by rw [e2]; rfl, h2⟩
    · simp only [if_neg c]
      exact ⟨_, rfl, h1⟩
  obtain ⟨μ2, e2, h2⟩ := h2
  obtain ⟨μ3, e3, h3⟩ := C_wait h2 hb
  obtain ⟨μ4, e4, h4⟩ := C_ages h3 hb
  obtain ⟨μ5, e5, h5⟩ := C_mark h4 hb
  refine ⟨μ5, ?_, h5⟩
  rw [e2, obs, zb_lp e3, e4, obs, e5]; rfl
end zC8
