/-! CLASS: a step, whole -/
section zC13
variable {N : zN} {s w : Nat} {μ0 μ μ' : zM} {S S' : zS} {e b l q st : Nat}
theorem C_ticks (h : CS N s w μ0 μ S) : ∃ μ', zloop (fun q => f8_step_L5 s q.1 q.2) 1000000 (0, μ) = some (nI (nB N), μ') ∧ CS N s w μ0 μ' (sp_ticks N S) := by
  have nw := h.nw
  have b8 := nw.b8
  refine lp (Q := CS N s w μ0) nI _ (nB N) ?_ ?_ (by omega) h
  · intro i μ1 hi h1
    generalize pfold (fun b S => if ceq (S 20 b) 1 = true then sp_tick N b S else S) i S = S1 at *
    show ∃ μ', f8_step_L5 s (nI i) μ1 = some (.inl (nI (i + 1), μ')) ∧ CS N s w μ0 μ' (if ceq (S1 20 i) 1 = true then sp_tick N i S1 else S1)
    unfold f8_step_L5
    simp (disch := omega) only [h1.c_wir, h1.w_b, obs, pk_mul, nI_add, nI_1, mulR2, mulR3, mulR4, mulR6, mulR7, mulR8, mulR10, mulR12, mulR16, mulQ2, mulQ3, mulQ4, mulQ6, mulQ7, mulQ8, mulQ10, mulQ12, mulQ16, mulQ18, mulQ48, addR2, addR3, addR4, addR5, addR6, addR7, addR8, addR9, addR10, addR16, addR20, addQ4, addQ100, addQ964, addQ978, addQ986, addQ1114, addQ1274, cltR2, cltR3, cltR4, cltR6, cltR8, cltR10, cltR13, cltR14, cltR18, cltR28, cltR40, cltR62, cltR64, cltR84, cltR96, ceqR0, ceqR1, ceqR2, ceqR3, ceqR5, ceqR6, ceqR8, ceqR14, ceqR39, ceqR40, ceqR64, ceqR13, clt_nI, ceq_nI, rI_nI, rA_nI, wA_nI, rZ_nI, wZ_nI, wF, wB, wR, zand, zor, zandn, zorn, ozb2, ozb3, ozb4, decide_true, decide_false, Nat.lt_irrefl, Bool.false_eq_true, ↓reduceIte, hi, h1.r_on]
    by_cases c : ceq (S1 20 i) 1 = true
    · simp only [if_pos c]
      obtain ⟨μ2, e2, h2⟩ := C_tick h1 hi
      exact ⟨μ2, by rw [e2]; rfl, h2⟩
    · simp only [if_neg c]
      exact ⟨_, rfl, h1⟩
  · intro μ1 h1
    show f8_step_L5 s (nI (nB N)) μ1 = _
    unfold f8_step_L5
    simp (disch := omega) only [h1.c_wir, h1.w_b, obs, pk_mul, nI_add, nI_1, mulR2, mulR3, mulR4, mulR6, mulR7, mulR8, mulR10, mulR12, mulR16, mulQ2, mulQ3, mulQ4, mulQ6, mulQ7, mulQ8, mulQ10, mulQ12, mulQ16, mulQ18, mulQ48, addR2, addR3, addR4, addR5, addR6, addR7, addR8, addR9, addR10, addR16, addR20, addQ4, addQ100, addQ964, addQ978, addQ986, addQ1114, addQ1274, cltR2, cltR3, cltR4, cltR6, cltR8, cltR10, cltR13, cltR14, cltR18, cltR28, cltR40, cltR62, cltR64, cltR84, cltR96, ceqR0, ceqR1, ceqR2, ceqR3, ceqR5, ceqR6, ceqR8, ceqR14, ceqR39, ceqR40, ceqR64, ceqR13, clt_nI, ceq_nI, rI_nI, rA_nI, wA_nI, rZ_nI, wZ_nI, wF, wB, wR, zand, zor, zandn, zorn, ozb2, ozb3, ozb4, decide_true, decide_false, Nat.lt_irrefl, Bool.false_eq_true, ↓reduceIte]
theorem C_arr (h : CS N s w μ0 μ S) (hst : S 44 0 = nI st) (hs : st < 2 ^ 30) : ∃ μ', zloop (fun q => f8_step_L1 s q.1 q.2) 1000000 (0, μ) = some (nI (nB N), μ') ∧ CS N s w μ0 μ' (sp_arr N st S) := by
  have nw := h.nw
  have b8 := nw.b8
  refine lp (Q := CS N s w μ0) nI _ (nB N) ?_ ?_ (by omega) h
  · intro b μ1 hb h1
    have on1 : only XG S (pfold (fun b S => pfold (sp_arr1 N st b) (nP N b) S) b S) := only.pf (fun b' S hb' => only.pf (fun p S hp => arr1_g nw (by omega) hp))
    have st1 := (on1 44 0 (by unfold XG; omega)).trans hst
    generalize pfold (fun b S => pfold (sp_arr1 N st b) (nP N b) S) b S = S1 at *
    have hp6 := nw.p6 hb
    have hb8 := nw.b_8 hb
    obtain ⟨μ2, e2, h2⟩ := lp (Q := CS N s w μ0) (body := fun q => f8_step_L2 s (nI b) q.1 q.2) nI (sp_arr1 N st b) (nP N b) (S := S1) (μ := μ1) (x0 := 0) (by
      intro i μ2 hi h2
      have on2 : only XG S1 (pfold (sp_arr1 N st b) i S1) := only.pf (fun p S hp => arr1_g nw hb (by omega))
      have st2 := (on2 44 0 (by unfold XG; omega)).trans st1
      generalize pfold (sp_arr1 N st b) i S1 = S2 at *
      have q28 := nw.eo_28 hb hi
      have ql := nw.eo_l hb hi
      have ht : slot (eo N b i) st < 84 := slot_84 q28 st
      have g0 : gF μ2 813 s = nI st := h2.c_step.trans st2
      show ∃ μ', f8_step_L2 s (nI b) (nI i) μ2 = some (.inl (nI (i + 1), μ')) ∧ _
      unfold f8_step_L2 sp_arr1
      simp (disch := omega) only [h2.c_wir, h2.v_p hb, h2.w_eo hb hi, obs, pk_mul, nI_add, nI_1, mulR2, mulR3, mulR4, mulR6, mulR7, mulR8, mulR10, mulR12, mulR16, mulQ2, mulQ3, mulQ4, mulQ6, mulQ7, mulQ8, mulQ10, mulQ12, mulQ16, mulQ18, mulQ48, addR2, addR3, addR4, addR5, addR6, addR7, addR8, addR9, addR10, addR16, addR20, addQ4, addQ100, addQ964, addQ978, addQ986, addQ1114, addQ1274, cltR2, cltR3, cltR4, cltR6, cltR8, cltR10, cltR13, cltR14, cltR18, cltR28, cltR40, cltR62, cltR64, cltR84, cltR96, ceqR0, ceqR1, ceqR2, ceqR3, ceqR5, ceqR6, ceqR8, ceqR14, ceqR39, ceqR40, ceqR64, ceqR13, clt_nI, ceq_nI, rI_nI, rA_nI, wA_nI, rZ_nI, wZ_nI, wF, wB, wR, zand, zor, zandn, zorn, ozb2, ozb3, ozb4, decide_true, decide_false, Nat.lt_irrefl, Bool.false_eq_true, ↓reduceIte, hi, g0, C_slot, h2.r_there]
      by_cases c : ceq (S2 60 (slot (eo N b i) st)) 1 = true
      · simp only [if_pos c]
        obtain ⟨μ3, e3, h3⟩ := C_read (h2.w_there ht (v := false)) ql ht
        refine ⟨μ3, ?_, h3⟩
        cases hr : f8_isRead s (nI (eo N b i)) (s + 93 + 2 * slot (eo N b i) st) (sB μ2 301 (s + 93 + 2 * slot (eo N b i) st) false) with
        | none => rw [hr] at e3; cases e3
        | some y =>
          obtain ⟨y1, y2⟩ := y
          rw [hr, ozb2] at e3
          rw [ozb2]
          by_cases d1 : y1 = true
          · rw [if_pos d1] at e3 ⊢
            by_cases d2 : gB y2 303 (s + 93 + 2 * slot (eo N b i) st) = true
            · rw [if_pos d2] at e3 ⊢
              rw [e3, obs]
            · rw [if_neg d2] at e3 ⊢
              rw [e3, obs]
          · rw [if_neg d1] at e3 ⊢
            rw [Option.some.inj e3]
      · simp only [if_neg c]
        exact ⟨_, rfl, h2⟩) (by
      intro μ2 h2
      show f8_step_L2 s (nI b) (nI (nP N b)) μ2 = _
      unfold f8_step_L2
      simp (disch := omega) only [h2.c_wir, h2.v_p hb, obs, pk_mul, nI_add, nI_1, mulR2, mulR3, mulR4, mulR6, mulR7, mulR8, mulR10, mulR12, mulR16, mulQ2, mulQ3, mulQ4, mulQ6, mulQ7, mulQ8, mulQ10, mulQ12, mulQ16, mulQ18, mulQ48, addR2, addR3, addR4, addR5, addR6, addR7, addR8, addR9, addR10, addR16, addR20, addQ4, addQ100, addQ964, addQ978, addQ986, addQ1114, addQ1274, cltR2, cltR3, cltR4, cltR6, cltR8, cltR10, cltR13, cltR14, cltR18, cltR28, cltR40, cltR62, cltR64, cltR84, cltR96, ceqR0, ceqR1, ceqR2, ceqR3, ceqR5, ceqR6, ceqR8, ceqR14, ceqR39, ceqR40, ceqR64, ceqR13, clt_nI, ceq_nI, rI_nI, rA_nI, wA_nI, rZ_nI, wZ_nI, wF, wB, wR, zand, zor, zandn, zorn, ozb2, ozb3, ozb4, decide_true, decide_false, Nat.lt_irrefl, Bool.false_eq_true, ↓reduceIte]) (by omega) h1
    refine ⟨μ2, ?_, h2⟩
    show f8_step_L1 s (nI b) μ1 = some (.inl (nI (b + 1), μ2))
    unfold f8_step_L1
    simp (disch := omega) only [h1.c_wir, h1.w_b, obs, pk_mul, nI_add, nI_1, mulR2, mulR3, mulR4, mulR6, mulR7, mulR8, mulR10, mulR12, mulR16, mulQ2, mulQ3, mulQ4, mulQ6, mulQ7, mulQ8, mulQ10, mulQ12, mulQ16, mulQ18, mulQ48, addR2, addR3, addR4, addR5, addR6, addR7, addR8, addR9, addR10, addR16, addR20, addQ4, addQ100, addQ964, addQ978, addQ986, addQ1114, addQ1274, cltR2, cltR3, cltR4, cltR6, cltR8, cltR10, cltR13, cltR14, cltR18, cltR28, cltR40, cltR62, cltR64, cltR84, cltR96, ceqR0, ceqR1, ceqR2, ceqR3, ceqR5, ceqR6, ceqR8, ceqR14, ceqR39, ceqR40, ceqR64, ceqR13, clt_nI, ceq_nI, rI_nI, rA_nI, wA_nI, rZ_nI, wZ_nI, wF, wB, wR, zand, zor, zandn, zorn, ozb2, ozb3, ozb4, decide_true, decide_false, Nat.lt_irrefl, Bool.false_eq_true, ↓reduceIte, hb]
    rw [zb_lp e2]
  · intro μ1 h1
    show f8_step_L1 s (nI (nB N)) μ1 = _
    unfold f8_step_L1
    simp (disch := omega) only [h1.c_wir, h1.w_b, obs, pk_mul, nI_add, nI_1, mulR2, mulR3, mulR4, mulR6, mulR7, mulR8, mulR10, mulR12, mulR16, mulQ2, mulQ3, mulQ4, mulQ6, mulQ7, mulQ8, mulQ10, mulQ12, mulQ16, mulQ18, mulQ48, addR2, addR3, addR4, addR5, addR6, addR7, addR8, addR9, addR10, addR16, addR20, addQ4, addQ100, addQ964, addQ978, addQ986, addQ1114, addQ1274, cltR2, cltR3, cltR4, cltR6, cltR8, cltR10, cltR13, cltR14, cltR18, cltR28, cltR40, cltR62, cltR64, cltR84, cltR96, ceqR0, ceqR1, ceqR2, ceqR3, ceqR5, ceqR6, ceqR8, ceqR14, ceqR39, ceqR40, ceqR64, ceqR13, clt_nI, ceq_nI, rI_nI, rA_nI, wA_nI, rZ_nI, wZ_nI, wF, wB, wR, zand, zor, zandn, zorn, ozb2, ozb3, ozb4, decide_true, decide_false, Nat.lt_irrefl, Bool.false_eq_true, ↓reduceIte]
theorem C_says (h : CS N s w μ0 μ S) (hst : S 44 0 = nI st) (hs : st < 2 ^ 30) : ∃ μ', zloop (fun q => f8_step_L3 s q.1 q.2) 1000000 (0, μ) = some (nI (nB N), μ') ∧ CS N s w μ0 μ' (sp_says N st S) := by
  have nw := h.nw
  have b8 := nw.b8
  refine lp (Q := CS N s w μ0) nI _ (nB N) ?_ ?_ (by omega) h
  · intro b μ1 hb h1
    have on1 : only XG S (pfold (fun b S => pfold (fun p S => sp_speak N st (eo N b p) S) (nP N b) S) b S) := only.pf (fun b' S hb' => only.pf (fun p S hp => speak_g))
    have st1 := (on1 44 0 (by unfold XG; omega)).trans hst
    generalize pfold (fun b S => pfold (fun p S => sp_speak N st (eo N b p) S) (nP N b) S) b S = S1 at *
    have hp6 := nw.p6 hb
    have hb8 := nw.b_8 hb
    obtain ⟨μ2, e2, h2⟩ := lp (Q := CS N s w μ0) (body := fun q => f8_step_L4 s (nI b) q.1 q.2) nI (fun p S => sp_speak N st (eo N b p) S) (nP N b) (S := S1) (μ := μ1) (x0 := 0) (by
      intro i μ2 hi h2
      have on2 : only XG S1 (pfold (fun p S => sp_speak N st (eo N b p) S) i S1) := only.pf (fun p S hp => speak_g)
      have st2 := (on2 44 0 (by unfold XG; omega)).trans st1
      generalize pfold (fun p S => sp_speak N st (eo N b p) S) i S1 = S2 at *
      have ql := nw.eo_l hb hi
      show ∃ μ', f8_step_L4 s (nI b) (nI i) μ2 = some (.inl (nI (i + 1), μ')) ∧ CS N s w μ0 μ' (sp_speak N st (eo N b i) S2)
      obtain ⟨μ3, e3, h3⟩ := C_speak h2 ql st2 hs
      refine ⟨μ3, ?_, h3⟩
      unfold f8_step_L4
      simp (disch := omega) only [h2.c_wir, h2.v_p hb, h2.w_eo hb hi, obs, pk_mul, nI_add, nI_1, mulR2, mulR3, mulR4, mulR6, mulR7, mulR8, mulR10, mulR12, mulR16, mulQ2, mulQ3, mulQ4, mulQ6, mulQ7, mulQ8, mulQ10, mulQ12, mulQ16, mulQ18, mulQ48, addR2, addR3, addR4, addR5, addR6, addR7, addR8, addR9, addR10, addR16, addR20, addQ4, addQ100, addQ964, addQ978, addQ986, addQ1114, addQ1274, cltR2, cltR3, cltR4, cltR6, cltR8, cltR10, cltR13, cltR14, cltR18, cltR28, cltR40, cltR62, cltR64, cltR84, cltR96, ceqR0, ceqR1, ceqR2, ceqR3, ceqR5, ceqR6, ceqR8, ceqR14, ceqR39, ceqR40, ceqR64, ceqR13, clt_nI, ceq_nI, rI_nI, rA_nI, wA_nI, rZ_nI, wZ_nI, wF, wB, wR, zand, zor, zandn, zorn, ozb2, ozb3, ozb4, decide_true, decide_false, Nat.lt_irrefl, Bool.false_eq_true, ↓reduceIte, hi, e3]) (by
      intro μ2 h2
      show f8_step_L4 s (nI b) (nI (nP N b)) μ2 = _
      unfold f8_step_L4
      simp (disch := omega) only [h2.c_wir, h2.v_p hb, obs, pk_mul, nI_add, nI_1, mulR2, mulR3, mulR4, mulR6, mulR7, mulR8, mulR10, mulR12, mulR16, mulQ2, mulQ3, mulQ4, mulQ6, mulQ7, mulQ8, mulQ10, mulQ12, mulQ16, mulQ18, mulQ48, addR2, addR3, addR4, addR5, addR6, addR7, addR8, addR9, addR10, addR16, addR20, addQ4, addQ100, addQ964, addQ978, addQ986, addQ1114, addQ1274, cltR2, cltR3, cltR4, cltR6, cltR8, cltR10, cltR13, cltR14, cltR18, cltR28, cltR40, cltR62, cltR64, cltR84, cltR96, ceqR0, ceqR1, ceqR2, ceqR3, ceqR5, ceqR6, ceqR8, ceqR14, ceqR39, ceqR40, ceqR64, ceqR13, clt_nI, ceq_nI, rI_nI, rA_nI, wA_nI, rZ_nI, wZ_nI, wF, wB, wR, zand, zor, zandn, zorn, ozb2, ozb3, ozb4, decide_true, decide_false, Nat.lt_irrefl, Bool.false_eq_true, ↓reduceIte]) (by omega) h1
    refine ⟨μ2, ?_, h2⟩
    show f8_step_L3 s (nI b) μ1 = some (.inl (nI (b + 1), μ2))
    unfold f8_step_L3
    simp (disch := omega) only [h1.c_wir, h1.w_b, obs, pk_mul, nI_add, nI_1, mulR2, mulR3, mulR4, mulR6, mulR7, mulR8, mulR10, mulR12, mulR16, mulQ2, mulQ3, mulQ4, mulQ6, mulQ7, mulQ8, mulQ10, mulQ12, mulQ16, mulQ18, mulQ48, addR2, addR3, addR4, addR5, addR6, addR7, addR8, addR9, addR10, addR16, addR20, addQ4, addQ100, addQ964, addQ978, addQ986, addQ1114, addQ1274, cltR2, cltR3, cltR4, cltR6, cltR8, cltR10, cltR13, cltR14, cltR18, cltR28, cltR40, cltR62, cltR64, cltR84, cltR96, ceqR0, ceqR1, ceqR2, ceqR3, ceqR5, ceqR6, ceqR8, ceqR14, ceqR39, ceqR40, ceqR64, ceqR13, clt_nI, ceq_nI, rI_nI, rA_nI, wA_nI, rZ_nI, wZ_nI, wF, wB, wR, zand, zor, zandn, zorn, ozb2, ozb3, ozb4, decide_true, decide_false, Nat.lt_irrefl, Bool.false_eq_true, ↓reduceIte, hb]
    rw [zb_lp e2]
  · intro μ1 h1
    show f8_step_L3 s (nI (nB N)) μ1 = _
    unfold f8_step_L3
    simp (disch := omega) only [h1.c_wir, h1.w_b, obs, pk_mul, nI_add, nI_1, mulR2, mulR3, mulR4, mulR6, mulR7, mulR8, mulR10, mulR12, mulR16, mulQ2, mulQ3, mulQ4, mulQ6, mulQ7, mulQ8, mulQ10, mulQ12, mulQ16, mulQ18, mulQ48, addR2, addR3, addR4, addR5, addR6, addR7, addR8, addR9, addR10, addR16, addR20, addQ4, addQ100, addQ964, addQ978, addQ986, addQ1114, addQ1274, cltR2, cltR3, cltR4, cltR6, cltR8, cltR10, cltR13, cltR14, cltR18, cltR28, cltR40, cltR62, cltR64, cltR84, cltR96, ceqR0, ceqR1, ceqR2, ceqR3, ceqR5, ceqR6, ceqR8, ceqR14, ceqR39, ceqR40, ceqR64, ceqR13, clt_nI, ceq_nI, rI_nI, rA_nI, wA_nI, rZ_nI, wZ_nI, wF, wB, wR, zand, zor, zandn, zorn, ozb2, ozb3, ozb4, decide_true, decide_false, Nat.lt_irrefl, Bool.false_eq_true, ↓reduceIte]
theorem ticks_g (nw : NW N) : only XG S (sp_ticks N S) := by
  unfold sp_ticks
  exact only.pf (fun b S hb => only.it (fun _ => tick_g nw hb) (fun _ => only.rf))
theorem arr_g (nw : NW N) : only XG S (sp_arr N st S) := by
  unfold sp_arr
  exact only.pf (fun b S hb => only.pf (fun p S hp => arr1_g nw hb hp))
theorem drop_g : only XG S (sp_drop st S) := by
  unfold sp_drop
  exact only.tr (S1 := fun f i => if f = 61 ∧ i % 3 = st % 3 then 0 else S f i) (fun f i h => if_neg (by unfold XG at h; omega)) setL_g
theorem says_g : only XG S (sp_says N st S) := by
  unfold sp_says
  exact only.pf (fun b S hb => only.pf (fun p S hp => speak_g))
theorem C_step (h : CS N s w μ0 μ S) (hst : S 44 0 = nI st) (hs : st < 2 ^ 30) : ∃ μ', f8_step s μ = some μ' ∧ CS N s w μ0 μ' (sp_step N st S) := by
  have nw := h.nw
  have h0 : ∃ μ1, (if decide (st % 8 = 0) = true then (zb2 (zloop (fun q => f8_step_L5 s q.1 q.2) 1000000 (0, μ)) fun v_b_47 μ48 => some μ48) else some μ) = some μ1 ∧ CS N s w μ0 μ1 (if st % 8 = 0 then sp_ticks N S else S) := by
    by_cases c : st % 8 = 0
    · rw [if_pos (decide_eq_true c), if_pos c]
      obtain ⟨μ1, e1, h1⟩ := C_ticks h
      exact ⟨μ1, zb_lp e1, h1⟩
    · rw [if_neg (by rw [decide_eq_false c]; decide), if_neg c]
      exact ⟨_, rfl, h⟩
  obtain ⟨μ1, e1, h1⟩ := h0
  have g1 : only XG S (if st % 8 = 0 then sp_ticks N S else S) := only.it (fun _ => ticks_g nw) (fun _ => only.rf)
  have s1 := (g1 44 0 (by unfold XG; omega)).trans hst
  unfold sp_step
  generalize (if st % 8 = 0 then sp_ticks N S else S) = S1 at *
  obtain ⟨μ2, e2, h2⟩ := C_arr h1 s1 hs
  have s2 := ((arr_g (S := S1) (st := st) nw) 44 0 (by unfold XG; omega)).trans s1
  have h3 : CS N s w μ0 μ2 (sp_drop st (sp_arr N st S1)) := h2
  obtain ⟨μ4, e4, h4⟩ := C_says h3 s2 hs
  have s4 := ((says_g (N := N) (S := sp_drop st (sp_arr N st S1)) (st := st)) 44 0 (by unfold XG; omega)).trans s2
  have g0 : gF μ 813 s = nI st := h.c_step.trans hst
  have g4 : gF μ4 813 s = nI st := h4.c_step.trans s4
  unfold f8_step
  rw [g0, iRemR8 (by omega), obs, ceqR0 (by omega), e1, obs, zb_lp e2, zb_lp e4, g4, nI_1]
  exact ⟨_, rfl, h4.w_step⟩
theorem C_steps (h : CS N s w μ0 μ S) {n : Nat} (hn : n ≤ 400) (hst : S 44 0 = nI st) (hs : st + 400 < 2 ^ 30) : ∃ μ', f8_steps s (nI n) μ = some μ' ∧ CS N s w μ0 μ' (pfold (fun k S => sp_step N (st + k) S) n S) := by
  obtain ⟨μ1, e1, h1⟩ := lp (Q := CS N s w μ0) (body := fun q => f8_steps_L1 s (nI n) q.1 q.2) nI (fun k S => sp_step N (st + k) S) n (S := S) (μ := μ) (x0 := 0) (by
    intro i μ1 hi h1
    have st1 : pfold (fun k S => sp_step N (st + k) S) i S 44 0 = nI (st + i) := by
      cases i with
      | zero => exact hst
      | succ i =>
        show zu (sp_says N (st + i) (sp_drop (st + i) (sp_arr N (st + i) (if (st + i) % 8 = 0 then sp_ticks N (pfold (fun k S => sp_step N (st + k) S) i S) else (pfold (fun k S => sp_step N (st + k) S) i S))))) 44 0 (nI (st + i + 1)) 44 0 = _
        exact if_pos ⟨rfl, rfl⟩
    generalize pfold (fun k S => sp_step N (st + k) S) i S = S1 at *
    obtain ⟨μ2, e2, h2⟩ := C_step h1 st1 (by omega)
    refine ⟨μ2, ?_, h2⟩
    show f8_steps_L1 s (nI n) (nI i) μ1 = some (.inl (nI (i + 1), μ2))
    unfold f8_steps_L1
    simp (disch := omega) only [obs, pk_mul, nI_add, nI_1, mulR2, mulR3, mulR4, mulR6, mulR7, mulR8, mulR10, mulR12, mulR16, mulQ2, mulQ3, mulQ4, mulQ6, mulQ7, mulQ8, mulQ10, mulQ12, mulQ16, mulQ18, mulQ48, addR2, addR3, addR4, addR5, addR6, addR7, addR8, addR9, addR10, addR16, addR20, addQ4, addQ100, addQ964, addQ978, addQ986, addQ1114, addQ1274, cltR2, cltR3, cltR4, cltR6, cltR8, cltR10, cltR13, cltR14, cltR18, cltR28, cltR40, cltR62, cltR64, cltR84, cltR96, ceqR0, ceqR1, ceqR2, ceqR3, ceqR5, ceqR6, ceqR8, ceqR14, ceqR39, ceqR40, ceqR64, ceqR13, clt_nI, ceq_nI, rI_nI, rA_nI, wA_nI, rZ_nI, wZ_nI, wF, wB, wR, zand, zor, zandn, zorn, ozb2, ozb3, ozb4, decide_true, decide_false, Nat.lt_irrefl, Bool.false_eq_true, ↓reduceIte, hi, e2]) (by
    intro μ1 h1
    show f8_steps_L1 s (nI n) (nI n) μ1 = _
    unfold f8_steps_L1
    simp (disch := omega) only [obs, pk_mul, nI_add, nI_1, mulR2, mulR3, mulR4, mulR6, mulR7, mulR8, mulR10, mulR12, mulR16, mulQ2, mulQ3, mulQ4, mulQ6, mulQ7, mulQ8, mulQ10, mulQ12, mulQ16, mulQ18, mulQ48, addR2, addR3, addR4, addR5, addR6, addR7, addR8, addR9, addR10, addR16, addR20, addQ4, addQ100, addQ964, addQ978, addQ986, addQ1114, addQ1274, cltR2, cltR3, cltR4, cltR6, cltR8, cltR10, cltR13, cltR14, cltR18, cltR28, cltR40, cltR62, cltR64, cltR84, cltR96, ceqR0, ceqR1, ceqR2, ceqR3, ceqR5, ceqR6, ceqR8, ceqR14, ceqR39, ceqR40, ceqR64, ceqR13, clt_nI, ceq_nI, rI_nI, rA_nI, wA_nI, rZ_nI, wZ_nI, wF, wB, wR, zand, zor, zandn, zorn, ozb2, ozb3, ozb4, decide_true, decide_false, Nat.lt_irrefl, Bool.false_eq_true, ↓reduceIte]) (by omega) h
  unfold f8_steps
  exact ⟨μ1, zb_lp e1, h1⟩
end zC13
