/-! CLASS: a tick -/
def sp_fd1 (N : zN) (b p : Nat) (x : zS × Bool) : zS × Bool :=
  let q := eo N b p
  let S1 := if ceq (x.1 3 q) 0 = true then x.1 else zu x.1 3 q (x.1 3 q - 1)
  if ceq (x.1 10 q) 1 = true then (if ceq (x.1 16 q - 1) 0 = true then (zu (zu S1 16 q (x.1 16 q - 1)) 10 q 0, true) else (zu S1 16 q (x.1 16 q - 1), x.2)) else (S1, x.2)
def sp_fd0 (b : Nat) (S : zS) : zS := if ceq (S 27 b) 0 = true then S else zu S 27 b (S 27 b - 1)
def sp_fade (N : zN) (b : Nat) (S : zS) : zS × Bool := pfold (sp_fd1 N b) (nP N b) (sp_fd0 b S, false)
def sp_wt1 (N : zN) (b p : Nat) (S : zS) : zS := if ((!(ceq (S 0 (eo N b p)) 1 || ceq (S 0 (eo N b p)) 2) || ceq (S 1 (eo N b p)) 2) || ceq (S 2 (eo N b p)) 0) = true then S else if ceq (S 2 (eo N b p) - 1) 0 = true then (if ceq (S 1 (eo N b p)) 0 = true then zu (sp_enter N (eo N b p) 1 (zu S 2 (eo N b p) (S 2 (eo N b p) - 1))) 2 (eo N b p) (nI (nDl N)) else sp_open N (eo N b p) (zu S 2 (eo N b p) (S 2 (eo N b p) - 1))) else zu S 2 (eo N b p) (S 2 (eo N b p) - 1)
def sp_age1 (N : zN) (b : Nat) (sh : Bool) (h : Nat) (S : zS) : zS := if ceq (S 42 (b * 8 + h)) (-1) = true then S else if (!(clt (S 43 (b * 8 + h) + 1) 30) || (sh && clt (nI (nDl N)) (S 43 (b * 8 + h) + 1))) = true then zu (zu S 43 (b * 8 + h) (S 43 (b * 8 + h) + 1)) 42 (b * 8 + h) (-1) else zu S 43 (b * 8 + h) (S 43 (b * 8 + h) + 1)
def sp_ages (N : zN) (b : Nat) (S : zS) : zS := pfold (sp_age1 N b (!(ceq (S 27 b) 0))) 8 S
def sp_mk1 (N : zN) (b : Nat) (sk : Bool) (p : Nat) (S : zS) : zS := if ((ceq (S 0 (eo N b p)) 2 && sk) || (ceq (S 0 (eo N b p)) 1 && !(ceq (S 3 (eo N b p)) 0))) = true then zu S 9 (eo N b p) 1 else S
def sp_mark (N : zN) (b : Nat) (S : zS) : zS := pfold (sp_mk1 N b (!(ceq (S 22 b) 1) || ceq (S 25 b) (-1))) (nP N b) S
def sp_tick (N : zN) (b : Nat) (S : zS) : zS := sp_mark N b (sp_ages N b (pfold (sp_wt1 N b) (nP N b) (if (sp_fade N b S).2 = true then sp_choose N b (sp_fade N b S).1 else (sp_fade N b S).1)))
section zC7
variable {N : zN} {s w : Nat} {μ0 μ μ' : zM} {S S' : zS} {e b l : Nat}
theorem C_fade (h : CS N s w μ0 μ S) (hb : b < nB N) : ∃ μ', f8_fade s (nI b) μ = some ((sp_fade N b S).2, μ') ∧ CS N s w μ0 μ' (sp_fade N b S).1 := by
  have nw := h.nw
  have hb8 := nw.b_8 hb
  have hp6 := nw.p6 hb
  have h0 : ∃ μ1, (if ceq (gF μ 8 (s + 13 + 3 * b)) 0 = true then some μ else some (sF μ 8 (s + 13 + 3 * b) (gF μ 8 (s + 13 + 3 * b) - 1))) = some μ1 ∧ CS N s w μ0 μ1 (sp_fd0 b S) := by
    rw [h.r_short hb8]
    unfold sp_fd0
    by_cases c : ceq (S 27 b) 0 = true
    · simp only [if_pos c]; exact ⟨_, rfl, h⟩
    · simp only [if_neg c]; exact ⟨_, rfl, h.w_short hb8⟩
  obtain ⟨μ1, e1, h1⟩ := h0
  have key := zloop_up (body := fun q => f8_fade_L1 s (nI b) q.1 q.2.1 q.2.2) (fun i (x : Bool × zM) => (x.1, nI i, x.2)) (fun i x => CS N s w μ0 x.2 (pfold (sp_fd1 N b) i (sp_fd0 b S, false)).1 ∧ x.1 = (pfold (sp_fd1 N b) i (sp_fd0 b S, false)).2) (nP N b) (fun r => r.1 = (sp_fade N b S).2 ∧ CS N s w μ0 r.2.2 (sp_fade N b S).1) (by
    rintro i ⟨wt, μ2⟩ hi ⟨h2, h3⟩
    replace h2 : CS N s w μ0 μ2 (pfold (sp_fd1 N b) i (sp_fd0 b S, false)).1 := h2
    replace h3 : wt = (pfold (sp_fd1 N b) i (sp_fd0 b S, false)).2 := h3
    subst h3
    show ∃ y : Bool × zM, f8_fade_L1 s (nI b) (pfold (sp_fd1 N b) i (sp_fd0 b S, false)).2 (nI i) μ2 = some (.inl (y.1, nI (i + 1), y.2)) ∧ CS N s w μ0 y.2 (sp_fd1 N b i (pfold (sp_fd1 N b) i (sp_fd0 b S, false))).1 ∧ y.1 = (sp_fd1 N b i (pfold (sp_fd1 N b) i (sp_fd0 b S, false))).2
    generalize pfold (sp_fd1 N b) i (sp_fd0 b S, false) = x at *
    have q28 := nw.eo_28 hb hi
    unfold f8_fade_L1 sp_fd1
    simp (disch := omega) only [h2.c_wir, h2.v_p hb, h2.w_eo hb hi, obs, pk_mul, nI_add, nI_1, mulR2, mulR3, mulR4, mulR6, mulR7, mulR8, mulR10, mulR12, mulR16, mulQ2, mulQ3, mulQ4, mulQ6, mulQ7, mulQ8, mulQ10, mulQ12, mulQ16, mulQ18, mulQ48, addR2, addR3, addR4, addR5, addR6, addR7, addR8, addR9, addR10, addR16, addR20, addQ4, addQ100, addQ964, addQ978, addQ986, addQ1114, addQ1274, cltR2, cltR3, cltR4, cltR6, cltR8, cltR10, cltR13, cltR14, cltR18, cltR28, cltR40, cltR62, cltR64, cltR84, cltR96, ceqR0, ceqR1, ceqR2, ceqR3, ceqR5, ceqR6, ceqR8, ceqR14, ceqR39, ceqR40, ceqR64, ceqR13, clt_nI, ceq_nI, rI_nI, rA_nI, wA_nI, rZ_nI, wZ_nI, wF, wB, wR, zand, zor, zandn, zorn, ozb2, ozb3, ozb4, decide_true, decide_false, Nat.lt_irrefl, Bool.false_eq_true, ↓reduceIte, hi, h2.r_chg]
    by_cases c : ceq (x.1 3 (eo N b i)) 0 = true
    · simp only [if_pos c, obs, h2.r_holds q28]
      by_cases c2 : ceq (x.1 10 (eo N b i)) 1 = true
      · simp only [if_pos c2, h2.r_life q28]
        have h4 := h2.w_life q28 (v := x.1 16 (eo N b i) - 1)
        have g4 : gF (sF μ2 403 (s + 37 + 2 * eo N b i) (x.1 16 (eo N b i) - 1)) 403 (s + 37 + 2 * eo N b i) = x.1 16 (eo N b i) - 1 := by simp [gF_sF]
        rw [g4]
        by_cases c3 : ceq (x.1 16 (eo N b i) - 1) 0 = true
        · simp only [if_pos c3]
          exact ⟨(true, _), rfl, h4.w_holds q28, rfl⟩
        · simp only [if_neg c3]
          exact ⟨(x.2, _), rfl, h4, rfl⟩
      · simp only [if_neg c2]
        exact ⟨(x.2, _), rfl, h2, rfl⟩
    · have h2' := h2.w_chg q28 (v := x.1 3 (eo N b i) - 1)
      simp only [if_neg c, obs, h2'.r_holds q28]
      show ∃ y : Bool × zM, (if ceq (x.1 10 (eo N b i)) 1 = true then _ else _) = _ ∧ _
      by_cases c2 : ceq (x.1 10 (eo N b i)) 1 = true
      · simp only [if_pos c2, h2'.r_life q28]
        have h4 := h2'.w_life q28 (v := x.1 16 (eo N b i) - 1)
        show ∃ y : Bool × zM, (if ceq (gF (sF _ 403 (s + 37 + 2 * eo N b i) (x.1 16 (eo N b i) - 1)) 403 (s + 37 + 2 * eo N b i)) 0 = true then _ else _) = _ ∧ _
        have g4 : ∀ μ, gF (sF μ 403 (s + 37 + 2 * eo N b i) (x.1 16 (eo N b i) - 1)) 403 (s + 37 + 2 * eo N b i) = x.1 16 (eo N b i) - 1 := fun μ => by simp [gF_sF]
        rw [g4]
        by_cases c3 : ceq (x.1 16 (eo N b i) - 1) 0 = true
        · simp only [if_pos c3]
          exact ⟨(true, _), rfl, h4.w_holds q28, rfl⟩
        · simp only [if_neg c3]
          exact ⟨(x.2, _), rfl, h4, rfl⟩
      · simp only [if_neg c2]
        exact ⟨(x.2, _), rfl, h2', rfl⟩) (by
    rintro ⟨wt, μ2⟩ ⟨h2, h3⟩
    replace h2 : CS N s w μ0 μ2 (pfold (sp_fd1 N b) (nP N b) (sp_fd0 b S, false)).1 := h2
    refine ⟨(wt, nI (nP N b), μ2), ?_, h3, h2⟩
    show f8_fade_L1 s (nI b) wt (nI (nP N b)) μ2 = _
    unfold f8_fade_L1
    simp (disch := omega) only [h2.c_wir, h2.v_p hb, obs, pk_mul, nI_add, nI_1, mulR2, mulR3, mulR4, mulR6, mulR7, mulR8, mulR10, mulR12, mulR16, mulQ2, mulQ3, mulQ4, mulQ6, mulQ7, mulQ8, mulQ10, mulQ12, mulQ16, mulQ18, mulQ48, addR2, addR3, addR4, addR5, addR6, addR7, addR8, addR9, addR10, addR16, addR20, addQ4, addQ100, addQ964, addQ978, addQ986, addQ1114, addQ1274, cltR2, cltR3, cltR4, cltR6, cltR8, cltR10, cltR13, cltR14, cltR18, cltR28, cltR40, cltR62, cltR64, cltR84, cltR96, ceqR0, ceqR1, ceqR2, ceqR3, ceqR5, ceqR6, ceqR8, ceqR14, ceqR39, ceqR40, ceqR64, ceqR13, clt_nI, ceq_nI, rI_nI, rA_nI, wA_nI, rZ_nI, wZ_nI, wF, wB, wR, zand, zor, zandn, zorn, ozb2, ozb3, ozb4, decide_true, decide_false, Nat.lt_irrefl, Bool.false_eq_true, ↓reduceIte]) (nP N b) 0 1000000 (false, μ1) rfl (Nat.zero_le _) (by omega) ⟨h1, rfl⟩
  obtain ⟨⟨r1, r2, r3⟩, e2, e3, h3⟩ := key
  refine ⟨r3, ?_, h3⟩
  replace e3 : r1 = (sp_fade N b S).2 := e3
  subst e3
  unfold f8_fade
  simp (disch := omega) only [obs, pk_mul, nI_add, nI_1, mulR2, mulR3, mulR4, mulR6, mulR7, mulR8, mulR10, mulR12, mulR16, mulQ2, mulQ3, mulQ4, mulQ6, mulQ7, mulQ8, mulQ10, mulQ12, mulQ16, mulQ18, mulQ48, addR2, addR3, addR4, addR5, addR6, addR7, addR8, addR9, addR10, addR16, addR20, addQ4, addQ100, addQ964, addQ978, addQ986, addQ1114, addQ1274, cltR2, cltR3, cltR4, cltR6, cltR8, cltR10, cltR13, cltR14, cltR18, cltR28, cltR40, cltR62, cltR64, cltR84, cltR96, ceqR0, ceqR1, ceqR2, ceqR3, ceqR5, ceqR6, ceqR8, ceqR14, ceqR39, ceqR40, ceqR64, ceqR13, clt_nI, ceq_nI, rI_nI, rA_nI, wA_nI, rZ_nI, wZ_nI, wF, wB, wR, zand, zor, zandn, zorn, ozb2, ozb3, ozb4, decide_true, decide_false, Nat.lt_irrefl, Bool.false_eq_true, ↓reduceIte]
  rw [e1, obs]
  have e2' : zloop (fun s_1 => f8_fade_L1 s (nI b) s_1.1 s_1.2.1 s_1.2.2) 1000000 (false, 0, μ1) = some ((sp_fade N b S).2, r2, r3) := e2
  rw [e2', ozb3]
end zC7
