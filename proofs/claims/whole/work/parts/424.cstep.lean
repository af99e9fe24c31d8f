/-! CLASS: speaking, a step -/
def sp_bits (c : Bool) (S : zS) (e : Nat) (old : Bool) : Int32 :=
  let x := if old = true then (16 : Int32) else 0
  if c = true then
    (fun y => if ceq (S 8 e) 1 = true then y ||| 8 else y) ((fun y => if ceq (S 3 e) 0 = true then y else y ||| 4) (if (!old && !(ceq (S 1 e) 2)) = true then x ||| 1 else x))
  else (fun y => if ceq (S 3 e) 0 = true then y else y ||| 4) (if (!old && ceq (S 7 e) 1) = true then x ||| 2 else x)
/-- the slot of what arrives at e in step a -/
def slot (e a : Nat) : Nat := e * 3 + a % 3
def sp_mail (N : zN) (e st : Nat) (c : Bool) (bits : Int32) (S : zS) : zS :=
  let t := slot (fe e) (st + tks N (e / 2))
  setL (lS S ++ [t]) (zu (zu (zu (zu (zu (zu (zu (zu (zu (zu S 60 t 1) 50 t (nI (st + tks N (e / 2)))) 53 t (bI (!c))) 54 t (if c = true then S 23 (bo N e) else S 11 e)) 55 t (if c = true then S 24 (bo N e) else S 12 e)) 56 t (if c = true then S 31 (bo N e) else S 13 e)) 57 t (if c = true then nI (po N e) else S 14 e)) 58 t (if c = true then S 26 (bo N e) else 0)) 59 t bits) 61 t 1)
def sp_speak (N : zN) (st e : Nat) (S : zS) : zS := if ceq (S 9 e) 1 = true then
  (let c := ceq (S 0 e) 2
   let old := ceq (S 6 e) 1 || ceq (S 22 (bo N e)) 1
   let bits := sp_bits c S e old
   let S2 := zu (zu S 9 e 0) (if c = true then 8 else 7) e 0
   if (!c && ceq (bits &&& 6) 0) = true then S2 else sp_mail N e st c bits S2) else S
section zC11
variable {N : zN} {s w : Nat} {μ0 μ μ' : zM} {S S' : zS} {e b l q st : Nat}
theorem slot_84 (he : e < 28) (a : Nat) : slot e a < 84 := by unfold slot; omega
theorem C_slot (he : e < 28) (ha : st < 2 ^ 31) : f8_slotOf (nI e) (nI st) μ = some (nI (slot e st)) := by
  unfold f8_slotOf slot
  simp (disch := omega) only [iRemR3, obs, pk_mul, nI_add, nI_1, mulR2, mulR3, mulR4, mulR6, mulR7, mulR8, mulR10, mulR12, mulR16, mulQ2, mulQ3, mulQ4, mulQ6, mulQ7, mulQ8, mulQ10, mulQ12, mulQ16, mulQ18, mulQ48, addR2, addR3, addR4, addR5, addR6, addR7, addR8, addR9, addR10, addR16, addR20, addQ4, addQ100, addQ964, addQ978, addQ986, addQ1114, addQ1274, cltR2, cltR3, cltR4, cltR6, cltR8, cltR10, cltR13, cltR14, cltR18, cltR28, cltR40, cltR62, cltR64, cltR84, cltR96, ceqR0, ceqR1, ceqR2, ceqR3, ceqR5, ceqR6, ceqR8, ceqR14, ceqR39, ceqR40, ceqR64, ceqR13, clt_nI, ceq_nI, rI_nI, rA_nI, wA_nI, rZ_nI, wZ_nI, wF, wB, wR, zand, zor, zandn, zorn, ozb2, ozb3, ozb4, decide_true, decide_false, Nat.lt_irrefl, Bool.false_eq_true, ↓reduceIte]
theorem C_cbits (h : CS N s w μ0 μ S) (he : e < 28) (old : Bool) : ∃ μ', f8_configBits (s + 37 + 2 * e) old μ = some (sp_bits true S e old, μ') ∧ CS N s w μ0 μ' (zu S 8 e 0) := by
  refine ⟨_, ?_, h.w_answ he (v := false)⟩
  unfold f8_configBits sp_bits
  rw [h.r_state he, h.r_chg he, h.r_answ he]
  cases old <;> cases ceq (S 1 e) 2 <;> cases ceq (S 3 e) 0 <;> cases ceq (S 8 e) 1 <;> rfl
theorem C_rbits (h : CS N s w μ0 μ S) (he : e < 28) (old : Bool) : ∃ μ', f8_replyBits (s + 37 + 2 * e) old μ = some (sp_bits false S e old, μ') ∧ CS N s w μ0 μ' (zu S 7 e 0) := by
  refine ⟨_, ?_, h.w_owes he (v := false)⟩
  unfold f8_replyBits sp_bits
  rw [h.r_owes he, h.r_chg he]
  cases old <;> cases ceq (S 7 e) 1 <;> cases ceq (S 3 e) 0 <;> rfl
theorem C_speak (h : CS N s w μ0 μ S) (he : e < 2 * nL N) (hst : S 44 0 = nI st) (hs : st < 2 ^ 30) : ∃ μ', f8_speak s (nI e) μ = some μ' ∧ CS N s w μ0 μ' (sp_speak N st e S) := by
  have nw := h.nw
  have e28 := nw.e28 he
  have f28 := nw.e28 (fe_lt he)
  have hb := nw.bo_b he
  have hb8 := nw.bo_8 he
  have l14 := nw.l14
  have t3 := nw.t3 (l := e / 2) (by omega)
  unfold f8_speak sp_speak
  simp (disch := omega) only [obs, pk_mul, nI_add, nI_1, mulR2, mulR3, mulR4, mulR6, mulR7, mulR8, mulR10, mulR12, mulR16, mulQ2, mulQ3, mulQ4, mulQ6, mulQ7, mulQ8, mulQ10, mulQ12, mulQ16, mulQ18, mulQ48, addR2, addR3, addR4, addR5, addR6, addR7, addR8, addR9, addR10, addR16, addR20, addQ4, addQ100, addQ964, addQ978, addQ986, addQ1114, addQ1274, cltR2, cltR3, cltR4, cltR6, cltR8, cltR10, cltR13, cltR14, cltR18, cltR28, cltR40, cltR62, cltR64, cltR84, cltR96, ceqR0, ceqR1, ceqR2, ceqR3, ceqR5, ceqR6, ceqR8, ceqR14, ceqR39, ceqR40, ceqR64, ceqR13, clt_nI, ceq_nI, rI_nI, rA_nI, wA_nI, rZ_nI, wZ_nI, wF, wB, wR, zand, zor, zandn, zorn, ozb2, ozb3, ozb4, decide_true, decide_false, Nat.lt_irrefl, Bool.false_eq_true, ↓reduceIte, h.r_mark]
  by_cases c : ceq (S 9 e) 1 = true
  · simp only [if_pos c]
    have h1 := h.w_mark e28 (v := false)
    simp (disch := omega) only [h1.r_spk, h1.c_wir, h1.v_bo he, obs, pk_mul, nI_add, nI_1, mulR2, mulR3, mulR4, mulR6, mulR7, mulR8, mulR10, mulR12, mulR16, mulQ2, mulQ3, mulQ4, mulQ6, mulQ7, mulQ8, mulQ10, mulQ12, mulQ16, mulQ18, mulQ48, addR2, addR3, addR4, addR5, addR6, addR7, addR8, addR9, addR10, addR16, addR20, addQ4, addQ100, addQ964, addQ978, addQ986, addQ1114, addQ1274, cltR2, cltR3, cltR4, cltR6, cltR8, cltR10, cltR13, cltR14, cltR18, cltR28, cltR40, cltR62, cltR64, cltR84, cltR96, ceqR0, ceqR1, ceqR2, ceqR3, ceqR5, ceqR6, ceqR8, ceqR14, ceqR39, ceqR40, ceqR64, ceqR13, clt_nI, ceq_nI, rI_nI, rA_nI, wA_nI, rZ_nI, wZ_nI, wF, wB, wR, zand, zor, zandn, zorn, ozb2, ozb3, ozb4, decide_true, decide_false, Nat.lt_irrefl, Bool.false_eq_true, ↓reduceIte, h1.r_old, h1.r_role]
    rw [show zu S 9 e (bI false) 6 e = S 6 e from rfl, show zu S 9 e (bI false) 22 (bo N e) = S 22 (bo N e) from rfl, show zu S 9 e (bI false) 0 e = S 0 e from rfl]
    generalize (ceq (S 6 e) 1 || ceq (S 22 (bo N e)) 1) = old
    have ht : slot (fe e) (st + tks N (e / 2)) < 84 := slot_84 f28 _
    have sl : ∀ μ, f8_slotOf (nI (fe e)) (nI (st + tks N (e / 2))) μ = some (nI (slot (fe e) (st + tks N (e / 2)))) := fun μ => C_slot f28 (by omega)
    by_cases c2 : ceq (S 0 e) 2 = true
    · simp only [c2, ↓reduceIte]
      obtain ⟨μ2, e2, h2⟩ := C_cbits h1 e28 old
      rw [e2, ozb2, ozb2]
      rw [show sp_bits true (zu S 9 e (bI false)) e old = sp_bits true S e old from rfl]
      generalize sp_bits true S e old = bits
      simp only [Bool.not_true, Bool.false_and, Bool.false_eq_true, ↓reduceIte]
      have g0 : gF μ2 813 s = nI st := h2.c_step.trans hst
      rw [h2.c_wir, obs, hf_x e28, h2.w_tks (by omega), obs, g0, nI_add, fe_x e28, sl, obs, rI_nI ht (by omega), obs]
      have h3 := ((h2.w_there ht (v := true)).w_arr ht (v := nI (st + tks N (e / 2)))).w_reply ht (v := false)
      obtain ⟨μ4, e4, h4, o0, o1, o2, o3⟩ := C_ours h3 he
      rw [e4, ozb2, ozb2, C_cpV, obs]
      have h5 := (((h4.w_mroot ht (v := S 23 (bo N e))).w_mcost ht (v := S 24 (bo N e))).w_mid ht (v := S 31 (bo N e))).w_mport ht (v := nI (po N e))
      have ec : cpV (s + 93 + 2 * slot (fe e) (st + tks N (e / 2)) + 1) (s + 10) μ4 = sF (sF (sF (sF μ4 900 (s + 93 + 2 * slot (fe e) (st + tks N (e / 2)) + 1) (S 23 (bo N e))) 901 (s + 93 + 2 * slot (fe e) (st + tks N (e / 2)) + 1) (S 24 (bo N e))) 902 (s + 93 + 2 * slot (fe e) (st + tks N (e / 2)) + 1) (S 31 (bo N e))) 903 (s + 93 + 2 * slot (fe e) (st + tks N (e / 2)) + 1) (nI (po N e)) := by
        unfold cpV
        rw [o0, o1, o2, o3]; rfl
      rw [ec, h5.c_wir, obs, h5.v_bo he, rI_nI hb8 (by omega), obs, obs, h5.r_bage hb8]
      exact ⟨_, rfl, (h5.w_mage ht (v := S 26 (bo N e))).w_bits ht (v := bits)⟩
    · have c2' := Bool.eq_false_iff.mpr c2
      simp only [c2', Bool.false_eq_true, ↓reduceIte]
      obtain ⟨μ2, e2, h2⟩ := C_rbits h1 e28 old
      rw [e2, ozb2, ozb2]
      rw [show sp_bits false (zu S 9 e (bI false)) e old = sp_bits false S e old from rfl]
      generalize sp_bits false S e old = bits
      simp only [Bool.not_false, Bool.true_and]
      by_cases c3 : ceq (bits &&& 6) 0 = true
      · simp only [if_pos c3]
        exact ⟨_, rfl, h2⟩
      · simp only [if_neg c3]
        have g0 : gF μ2 813 s = nI st := h2.c_step.trans hst
        rw [h2.c_wir, obs, hf_x e28, h2.w_tks (by omega), obs, g0, nI_add, fe_x e28, sl, obs, rI_nI ht (by omega), obs]
        have h3 := ((h2.w_there ht (v := true)).w_arr ht (v := nI (st + tks N (e / 2)))).w_reply ht (v := true)
        rw [ozb2, C_cpV, obs, obs]
        have h5 := (((h3.w_mroot ht (v := S 11 e)).w_mcost ht (v := S 12 e)).w_mid ht (v := S 13 e)).w_mport ht (v := S 14 e)
        have ec : ∀ M, CS N s w μ0 M _ → cpV (s + 93 + 2 * slot (fe e) (st + tks N (e / 2)) + 1) (s + 37 + 2 * e + 1) M = sF (sF (sF (sF M 900 (s + 93 + 2 * slot (fe e) (st + tks N (e / 2)) + 1) (S 11 e)) 901 (s + 93 + 2 * slot (fe e) (st + tks N (e / 2)) + 1) (S 12 e)) 902 (s + 93 + 2 * slot (fe e) (st + tks N (e / 2)) + 1) (S 13 e)) 903 (s + 93 + 2 * slot (fe e) (st + tks N (e / 2)) + 1) (S 14 e) := fun M (hM : CS N s w μ0 M (zu (zu (zu (zu (zu S 9 e (bI false)) 7 e 0) 60 (slot (fe e) (st + tks N (e / 2))) (bI true)) 50 (slot (fe e) (st + tks N (e / 2))) (nI (st + tks N (e / 2)))) 53 (slot (fe e) (st + tks N (e / 2))) (bI true))) => by
          unfold cpV
          rw [hM.r_hroot e28, hM.r_hcost e28, hM.r_hid e28, hM.r_hport e28]; rfl
        rw [ec _ h3]
        exact ⟨_, rfl, (h5.w_mage ht (v := 0)).w_bits ht (v := bits)⟩
  · simp only [if_neg c]
    exact ⟨_, rfl, h⟩
end zC11
