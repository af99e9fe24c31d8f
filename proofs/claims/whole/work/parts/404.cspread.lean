/-! CLASS: shut, spread, open -/
def sp_shut (N : zN) (e : Nat) (S : zS) : zS := if ceq (S 1 e) 0 = true then S else sp_forget N e (sp_enter N e 0 S)
def sp_spr1 (N : zN) (e b p : Nat) (S : zS) : zS := if (((!(decide (eo N b p = e)) && (ceq (S 0 (eo N b p)) 1 || ceq (S 0 (eo N b p)) 2)) && !(ceq (S 5 (eo N b p)) 1)) && ceq (S 3 (eo N b p)) 0) = true then zu (zu S 3 (eo N b p) 2) 9 (eo N b p) 1 else S
def sp_spr2 (N : zN) (e b h : Nat) (S : zS) : zS := if ((ceq (S 42 (b * 8 + h)) (-1) || ceq (S 42 (b * 8 + h)) 6) || ceq (S 42 (b * 8 + h)) (nI (po N e))) = true then S else if ceq (S 5 (eo N b (S 42 (b * 8 + h)).toNatClampNeg)) 1 = true then S else zu (zu S 42 (b * 8 + h) (-1)) 44 1 (iMin 9999 (S 44 1 + 1))
def sp_spread (N : zN) (e : Nat) (S : zS) : zS := if ceq (pfold (sp_spr1 N e (bo N e)) (nP N (bo N e)) S 22 (bo N e)) 1 = true then zu (pfold (sp_spr1 N e (bo N e)) (nP N (bo N e)) S) 27 (bo N e) (nI (nAg N + nDl N)) else pfold (sp_spr2 N e (bo N e)) (nH N) (pfold (sp_spr1 N e (bo N e)) (nP N (bo N e)) S)
def sp_open (N : zN) (e : Nat) (S : zS) : zS := if ceq (S 1 e) 2 = true then S else if ceq (zu (sp_enter N e 2 S) 2 e 0 5 e) 1 = true then zu (sp_enter N e 2 S) 2 e 0 else sp_spread N e (zu (zu (zu (sp_enter N e 2 S) 2 e 0) 3 e 2) 9 e 1)
section zC4
variable {N : zN} {s w : Nat} {μ0 μ μ' : zM} {S S' : zS} {e b l : Nat}
theorem C_shut (h : CS N s w μ0 μ S) (he : e < 2 * nL N) : ∃ μ', f8_shut s (nI e) μ = some μ' ∧ CS N s w μ0 μ' (sp_shut N e S) := by
  have e28 := h.nw.e28 he
  unfold f8_shut sp_shut
  simp (disch := omega) only [obs, pk_mul, nI_add, nI_1, mulR2, mulR3, mulR4, mulR6, mulR7, mulR8, mulR10, mulR12, mulR16, mulQ2, mulQ3, mulQ4, mulQ6, mulQ7, mulQ8, mulQ10, mulQ12, mulQ16, mulQ18, mulQ48, addR2, addR3, addR4, addR5, addR6, addR7, addR8, addR9, addR10, addR16, addR20, addQ4, addQ100, addQ964, addQ978, addQ986, addQ1114, addQ1274, cltR2, cltR3, cltR4, cltR6, cltR8, cltR10, cltR13, cltR14, cltR18, cltR28, cltR40, cltR62, cltR64, cltR84, cltR96, ceqR0, ceqR1, ceqR2, ceqR3, ceqR5, ceqR6, ceqR8, ceqR14, ceqR39, ceqR40, ceqR64, ceqR13, clt_nI, ceq_nI, rI_nI, rA_nI, wA_nI, rZ_nI, wZ_nI, wF, wB, wR, zand, zor, zandn, zorn, ozb2, ozb3, ozb4, decide_true, decide_false, Nat.lt_irrefl, Bool.false_eq_true, ↓reduceIte, h.r_state]
  by_cases c : ceq (S 1 e) 0 = true
  · simp only [if_pos c]
    exact ⟨_, rfl, h⟩
  · simp only [if_neg c]
    obtain ⟨μ1, e1, h1⟩ := C_enter h he (v := 0)
    obtain ⟨μ2, e2, h2⟩ := C_forget h1 he
    exact ⟨μ2, by rw [e1, Option.bind_some, e2]; rfl, h2⟩
theorem C_spr1 (h : CS N s w μ0 μ S) (he : e < 2 * nL N) : ∃ μ', zloop (fun q => f8_spread_L1 s (nI e) (nI (bo N e)) q.1 q.2) 1000000 (0, μ) = some (nI (nP N (bo N e)), μ') ∧ CS N s w μ0 μ' (pfold (sp_spr1 N e (bo N e)) (nP N (bo N e)) S) := by
  have nw := h.nw
  have e28 := nw.e28 he
  have hb := nw.bo_b he
  have hb8 := nw.bo_8 he
  have hp6 := nw.p6 hb
  refine lp (Q := CS N s w μ0) nI (sp_spr1 N e (bo N e)) (nP N (bo N e)) ?_ ?_ (by omega) h
  · intro i μ1 hi h1
    have q28 := nw.eo_28 hb hi
    show ∃ μ', f8_spread_L1 s (nI e) (nI (bo N e)) (nI i) μ1 = _ ∧ _
    simp (disch := omega) only [f8_spread_L1, f4_isInUse, h1.c_wir, h1.v_p hb, h1.w_eo hb hi, obs, pk_mul, nI_add, nI_1, mulR2, mulR3, mulR4, mulR6, mulR7, mulR8, mulR10, mulR12, mulR16, mulQ2, mulQ3, mulQ4, mulQ6, mulQ7, mulQ8, mulQ10, mulQ12, mulQ16, mulQ18, mulQ48, addR2, addR3, addR4, addR5, addR6, addR7, addR8, addR9, addR10, addR16, addR20, addQ4, addQ100, addQ964, addQ978, addQ986, addQ1114, addQ1274, cltR2, cltR3, cltR4, cltR6, cltR8, cltR10, cltR13, cltR14, cltR18, cltR28, cltR40, cltR62, cltR64, cltR84, cltR96, ceqR0, ceqR1, ceqR2, ceqR3, ceqR5, ceqR6, ceqR8, ceqR14, ceqR39, ceqR40, ceqR64, ceqR13, clt_nI, ceq_nI, rI_nI, rA_nI, wA_nI, rZ_nI, wZ_nI, wF, wB, wR, zand, zor, zandn, zorn, ozb2, ozb3, ozb4, decide_true, decide_false, Nat.lt_irrefl, Bool.false_eq_true, ↓reduceIte, h1.r_role, h1.r_edge, h1.r_chg, hi]
    generalize pfold (sp_spr1 N e (bo N e)) i S = S1 at *
    unfold sp_spr1
    by_cases c : (((!(decide (eo N (bo N e) i = e)) && (ceq (S1 0 (eo N (bo N e) i)) 1 || ceq (S1 0 (eo N (bo N e) i)) 2)) && !(ceq (S1 5 (eo N (bo N e) i)) 1)) && ceq (S1 3 (eo N (bo N e) i)) 0) = true
    · simp only [if_pos c]
      exact ⟨_, rfl, (h1.w_chg q28).w_mark q28⟩
    · simp only [if_neg c]
      exact ⟨_, rfl, h1⟩
  · intro μ1 h1
    show f8_spread_L1 s (nI e) (nI (bo N e)) (nI (nP N (bo N e))) μ1 = _
    simp (disch := omega) only [f8_spread_L1, h1.c_wir, h1.v_p hb, obs, pk_mul, nI_add, nI_1, mulR2, mulR3, mulR4, mulR6, mulR7, mulR8, mulR10, mulR12, mulR16, mulQ2, mulQ3, mulQ4, mulQ6, mulQ7, mulQ8, mulQ10, mulQ12, mulQ16, mulQ18, mulQ48, addR2, addR3, addR4, addR5, addR6, addR7, addR8, addR9, addR10, addR16, addR20, addQ4, addQ100, addQ964, addQ978, addQ986, addQ1114, addQ1274, cltR2, cltR3, cltR4, cltR6, cltR8, cltR10, cltR13, cltR14, cltR18, cltR28, cltR40, cltR62, cltR64, cltR84, cltR96, ceqR0, ceqR1, ceqR2, ceqR3, ceqR5, ceqR6, ceqR8, ceqR14, ceqR39, ceqR40, ceqR64, ceqR13, clt_nI, ceq_nI, rI_nI, rA_nI, wA_nI, rZ_nI, wZ_nI, wF, wB, wR, zand, zor, zandn, zorn, ozb2, ozb3, ozb4, decide_true, decide_false, Nat.lt_irrefl, Bool.false_eq_true, ↓reduceIte]
theorem C_spr2 (h : CS N s w μ0 μ S) (he : e < 2 * nL N) : ∃ μ', zloop (fun q => f8_spread_L2 s (nI e) (nI (bo N e)) q.1 q.2) 1000000 (0, μ) = some (nI (nH N), μ') ∧ CS N s w μ0 μ' (pfold (sp_spr2 N e (bo N e)) (nH N) S) := by
  have nw := h.nw
  have e28 := nw.e28 he
  have hb := nw.bo_b he
  have hb8 := nw.bo_8 he
  have h8 := nw.h8
  refine lp (Q := CS N s w μ0) nI (sp_spr2 N e (bo N e)) (nH N) ?_ ?_ (by omega) h
  · intro i μ1 hi h1
    show ∃ μ', f8_spread_L2 s (nI e) (nI (bo N e)) (nI i) μ1 = _ ∧ _
    simp (disch := omega) only [f8_spread_L2, h1.c_wir, h1.w_h, h1.v_po he, obs, pk_mul, nI_add, nI_1, mulR2, mulR3, mulR4, mulR6, mulR7, mulR8, mulR10, mulR12, mulR16, mulQ2, mulQ3, mulQ4, mulQ6, mulQ7, mulQ8, mulQ10, mulQ12, mulQ16, mulQ18, mulQ48, addR2, addR3, addR4, addR5, addR6, addR7, addR8, addR9, addR10, addR16, addR20, addQ4, addQ100, addQ964, addQ978, addQ986, addQ1114, addQ1274, cltR2, cltR3, cltR4, cltR6, cltR8, cltR10, cltR13, cltR14, cltR18, cltR28, cltR40, cltR62, cltR64, cltR84, cltR96, ceqR0, ceqR1, ceqR2, ceqR3, ceqR5, ceqR6, ceqR8, ceqR14, ceqR39, ceqR40, ceqR64, ceqR13, clt_nI, ceq_nI, rI_nI, rA_nI, wA_nI, rZ_nI, wZ_nI, wF, wB, wR, zand, zor, zandn, zorn, ozb2, ozb3, ozb4, decide_true, decide_false, Nat.lt_irrefl, Bool.false_eq_true, ↓reduceIte, h1.r_la, hi]
    have ok := h1.c_so.1 (bo N e) i hb (by omega)
    generalize pfold (sp_spr2 N e (bo N e)) i S = S1 at *
    unfold sp_spr2
    by_cases c : ((ceq (S1 42 (bo N e * 8 + i)) (-1) || ceq (S1 42 (bo N e * 8 + i)) 6) || ceq (S1 42 (bo N e * 8 + i)) (nI (po N e))) = true
    · simp only [if_pos c]
      exact ⟨_, rfl, h1⟩
    · simp only [if_neg c]
      rcases ok with ok | ok | ⟨p, hp, ok⟩
      · exact absurd (by rw [ok]; rfl) c
      · exact absurd (by rw [ok]; rfl) c
      · have hp6 := nw.p6 hb
        have q28 := nw.eo_28 hb hp
        rw [ok, nI_clamp (by omega)]
        simp (disch := omega) only [h1.w_eo hb hp, obs, pk_mul, nI_add, nI_1, mulR2, mulR3, mulR4, mulR6, mulR7, mulR8, mulR10, mulR12, mulR16, mulQ2, mulQ3, mulQ4, mulQ6, mulQ7, mulQ8, mulQ10, mulQ12, mulQ16, mulQ18, mulQ48, addR2, addR3, addR4, addR5, addR6, addR7, addR8, addR9, addR10, addR16, addR20, addQ4, addQ100, addQ964, addQ978, addQ986, addQ1114, addQ1274, cltR2, cltR3, cltR4, cltR6, cltR8, cltR10, cltR13, cltR14, cltR18, cltR28, cltR40, cltR62, cltR64, cltR84, cltR96, ceqR0, ceqR1, ceqR2, ceqR3, ceqR5, ceqR6, ceqR8, ceqR14, ceqR39, ceqR40, ceqR64, ceqR13, clt_nI, ceq_nI, rI_nI, rA_nI, wA_nI, rZ_nI, wZ_nI, wF, wB, wR, zand, zor, zandn, zorn, ozb2, ozb3, ozb4, decide_true, decide_false, Nat.lt_irrefl, Bool.false_eq_true, ↓reduceIte, h1.r_edge]
        by_cases c2 : ceq (S1 5 (eo N (bo N e) p)) 1 = true
        · simp only [if_pos c2]
          exact ⟨_, rfl, h1⟩
        · simp only [if_neg c2]
          have h2 := h1.w_la (e := bo N e * 8 + i) (v := -1) (by omega) hb (by omega) rfl (Or.inl rfl)
          refine ⟨_, rfl, ?_⟩
          rw [h2.c_flu]
          exact h2.w_flu
  · intro μ1 h1
    show f8_spread_L2 s (nI e) (nI (bo N e)) (nI (nH N)) μ1 = _
    simp (disch := omega) only [f8_spread_L2, h1.c_wir, h1.w_h, obs, pk_mul, nI_add, nI_1, mulR2, mulR3, mulR4, mulR6, mulR7, mulR8, mulR10, mulR12, mulR16, mulQ2, mulQ3, mulQ4, mulQ6, mulQ7, mulQ8, mulQ10, mulQ12, mulQ16, mulQ18, mulQ48, addR2, addR3, addR4, addR5, addR6, addR7, addR8, addR9, addR10, addR16, addR20, addQ4, addQ100, addQ964, addQ978, addQ986, addQ1114, addQ1274, cltR2, cltR3, cltR4, cltR6, cltR8, cltR10, cltR13, cltR14, cltR18, cltR28, cltR40, cltR62, cltR64, cltR84, cltR96, ceqR0, ceqR1, ceqR2, ceqR3, ceqR5, ceqR6, ceqR8, ceqR14, ceqR39, ceqR40, ceqR64, ceqR13, clt_nI, ceq_nI, rI_nI, rA_nI, wA_nI, rZ_nI, wZ_nI, wF, wB, wR, zand, zor, zandn, zorn, ozb2, ozb3, ozb4, decide_true, decide_false, Nat.lt_irrefl, Bool.false_eq_true, ↓reduceIte]
theorem C_spread (h : CS N s w μ0 μ S) (he : e < 2 * nL N) : ∃ μ', f8_spread s (nI e) μ = some μ' ∧ CS N s w μ0 μ' (sp_spread N e S) := by
  have nw := h.nw
  have e28 := nw.e28 he
  have hb := nw.bo_b he
  have hb8 := nw.bo_8 he
  obtain ⟨μ1, e1, h1⟩ := C_spr1 h he
  unfold f8_spread sp_spread
  simp (disch := omega) only [h.c_wir, h.v_bo he, obs, pk_mul, nI_add, nI_1, mulR2, mulR3, mulR4, mulR6, mulR7, mulR8, mulR10, mulR12, mulR16, mulQ2, mulQ3, mulQ4, mulQ6, mulQ7, mulQ8, mulQ10, mulQ12, mulQ16, mulQ18, mulQ48, addR2, addR3, addR4, addR5, addR6, addR7, addR8, addR9, addR10, addR16, addR20, addQ4, addQ100, addQ964, addQ978, addQ986, addQ1114, addQ1274, cltR2, cltR3, cltR4, cltR6, cltR8, cltR10, cltR13, cltR14, cltR18, cltR28, cltR40, cltR62, cltR64, cltR84, cltR96, ceqR0, ceqR1, ceqR2, ceqR3, ceqR5, ceqR6, ceqR8, ceqR14, ceqR39, ceqR40, ceqR64, ceqR13, clt_nI, ceq_nI, rI_nI, rA_nI, wA_nI, rZ_nI, wZ_nI, wF, wB, wR, zand, zor, zandn, zorn, ozb2, ozb3, ozb4, decide_true, decide_false, Nat.lt_irrefl, Bool.false_eq_true, ↓reduceIte]
  rw [zb_lp e1]
  simp (disch := omega) only [h1.c_wir, h1.w_ag, h1.w_dl, obs, pk_mul, nI_add, nI_1, mulR2, mulR3, mulR4, mulR6, mulR7, mulR8, mulR10, mulR12, mulR16, mulQ2, mulQ3, mulQ4, mulQ6, mulQ7, mulQ8, mulQ10, mulQ12, mulQ16, mulQ18, mulQ48, addR2, addR3, addR4, addR5, addR6, addR7, addR8, addR9, addR10, addR16, addR20, addQ4, addQ100, addQ964, addQ978, addQ986, addQ1114, addQ1274, cltR2, cltR3, cltR4, cltR6, cltR8, cltR10, cltR13, cltR14, cltR18, cltR28, cltR40, cltR62, cltR64, cltR84, cltR96, ceqR0, ceqR1, ceqR2, ceqR3, ceqR5, ceqR6, ceqR8, ceqR14, ceqR39, ceqR40, ceqR64, ceqR13, clt_nI, ceq_nI, rI_nI, rA_nI, wA_nI, rZ_nI, wZ_nI, wF, wB, wR, zand, zor, zandn, zorn, ozb2, ozb3, ozb4, decide_true, decide_false, Nat.lt_irrefl, Bool.false_eq_true, ↓reduceIte, h1.r_old]
  generalize pfold (sp_spr1 N e (bo N e)) (nP N (bo N e)) S = S1 at *
  by_cases c : ceq (S1 22 (bo N e)) 1 = true
  · simp only [if_pos c]
    exact ⟨_, rfl, h1.w_short hb8⟩
  · simp only [if_neg c]
    obtain ⟨μ2, e2, h2⟩ := C_spr2 h1 he
    exact ⟨μ2, zb_lp e2, h2⟩
theorem C_open (h : CS N s w μ0 μ S) (he : e < 2 * nL N) : ∃ μ', f8_open s (nI e) μ = some μ' ∧ CS N s w μ0 μ' (sp_open N e S) := by
  have e28 := h.nw.e28 he
  unfold f8_open sp_open
  simp (disch := omega) only [obs, pk_mul, nI_add, nI_1, mulR2, mulR3, mulR4, mulR6, mulR7, mulR8, mulR10, mulR12, mulR16, mulQ2, mulQ3, mulQ4, mulQ6, mulQ7, mulQ8, mulQ10, mulQ12, mulQ16, mulQ18, mulQ48, addR2, addR3, addR4, addR5, addR6, addR7, addR8, addR9, addR10, addR16, addR20, addQ4, addQ100, addQ964, addQ978, addQ986, addQ1114, addQ1274, cltR2, cltR3, cltR4, cltR6, cltR8, cltR10, cltR13, cltR14, cltR18, cltR28, cltR40, cltR62, cltR64, cltR84, cltR96, ceqR0, ceqR1, ceqR2, ceqR3, ceqR5, ceqR6, ceqR8, ceqR14, ceqR39, ceqR40, ceqR64, ceqR13, clt_nI, ceq_nI, rI_nI, rA_nI, wA_nI, rZ_nI, wZ_nI, wF, wB, wR, zand, zor, zandn, zorn, ozb2, ozb3, ozb4, decide_true, decide_false, Nat.lt_irrefl, Bool.false_eq_true, ↓reduceIte, h.r_state]
  by_cases c : ceq (S 1 e) 2 = true
  · simp only [if_pos c]
    exact ⟨_, rfl, h⟩
  · simp only [if_neg c]
    obtain ⟨μ1, e1, h1⟩ := C_enter h he (v := 2)
    have h2 := h1.w_wait e28 (v := 0)
    simp (disch := omega) only [e1, obs, pk_mul, nI_add, nI_1, mulR2, mulR3, mulR4, mulR6, mulR7, mulR8, mulR10, mulR12, mulR16, mulQ2, mulQ3, mulQ4, mulQ6, mulQ7, mulQ8, mulQ10, mulQ12, mulQ16, mulQ18, mulQ48, addR2, addR3, addR4, addR5, addR6, addR7, addR8, addR9, addR10, addR16, addR20, addQ4, addQ100, addQ964, addQ978, addQ986, addQ1114, addQ1274, cltR2, cltR3, cltR4, cltR6, cltR8, cltR10, cltR13, cltR14, cltR18, cltR28, cltR40, cltR62, cltR64, cltR84, cltR96, ceqR0, ceqR1, ceqR2, ceqR3, ceqR5, ceqR6, ceqR8, ceqR14, ceqR39, ceqR40, ceqR64, ceqR13, clt_nI, ceq_nI, rI_nI, rA_nI, wA_nI, rZ_nI, wZ_nI, wF, wB, wR, zand, zor, zandn, zorn, ozb2, ozb3, ozb4, decide_true, decide_false, Nat.lt_irrefl, Bool.false_eq_true, ↓reduceIte, h2.r_edge]
    by_cases c2 : ceq (zu (sp_enter N e 2 S) 2 e 0 5 e) 1 = true
    · simp only [if_pos c2]
      exact ⟨_, rfl, h2⟩
    · simp only [if_neg c2]
      have h3 := (h2.w_chg e28 (v := 2)).w_mark e28 (v := true)
      obtain ⟨μ4, e4, h4⟩ := C_spread h3 he
      exact ⟨μ4, by rw [e4]; rfl, h4⟩
end zC4
