/-! CLASS: acts -/
def sp_clr (e : Nat) (v : Int32) (S : zS) : zS := zu (zu (zu (zu (zu (zu (zu (zu (zu (zu (zu (zu (zu (zu S 10 e 0) 15 e 0) 16 e 0) 0 e 0) 49 e 0) 1 e 0) 2 e 0) 3 e 0) 4 e 0) 5 e v) 6 e 0) 7 e 0) 8 e 0) 9 e 0
def sp_dm (e : Nat) (S : zS) : zS := pfold (fun k S => zu S 60 (e * 3 + k) 0) 3 S
def sq_down (N : zN) (e : Nat) (S : zS) : zS := sp_forget N e (sp_dm e (sp_clr e 0 S))
def sp_ct1 (N : zN) (b : Nat) (S : zS) : zS := zu (if (ceq (S 47 b) 1 && ceq (S 20 b) 1) = true then sp_choose N b S else S) 47 b 0
def sp_ct (N : zN) (S : zS) : zS := pfold (sp_ct1 N) (nB N) S
/-- the reference drops what is on its way on a link -/
def dropL (l : Nat) (S : zS) : zS := setL ((lS S).filter (fun q => !(decide (q / 3 / 2 = l)))) (fun f i => if f = 61 ∧ i / 3 / 2 = l then 0 else S f i)
def sq_cut (N : zN) (l : Nat) (S : zS) : zS := sp_ct N (zu (zu (zu (dropL l (sq_down N (2 * l + 1) (sq_down N (2 * l) S))) 40 l 0) 47 (bo N (2 * l)) 1) 47 (bo N (2 * l + 1)) 1)
def sq_mend (N : zN) (l : Nat) (S : zS) : zS := sp_ct N (zu (zu (if up N (zu S 40 l 1) (2 * l) = true then sp_clr (2 * l + 1) (nI (tE N (2 * l + 1))) (sp_clr (2 * l) (nI (tE N (2 * l))) (zu S 40 l 1)) else zu S 40 l 1) 47 (bo N (2 * l)) 1) 47 (bo N (2 * l + 1)) 1)
def sq_off1 (N : zN) (b p : Nat) (S : zS) : zS := dropL (eo N b p / 2) (sq_down N (fe (eo N b p)) (sq_down N (eo N b p) (zu S 47 (bo N (fe (eo N b p))) (bI (ceq (S 47 (bo N (fe (eo N b p)))) 1 || up N S (eo N b p))))))
def sq_off (N : zN) (b : Nat) (S : zS) : zS := sp_ct N (pfold (fun h S => zu S 42 (b * 8 + h) (-1)) 8 (zu (pfold (sq_off1 N b) (nP N b) S) 20 b 0))
def sq_on1 (N : zN) (b p : Nat) (S : zS) : zS := if up N S (eo N b p) = true then zu (sp_clr (fe (eo N b p)) (nI (tE N (fe (eo N b p)))) (sp_clr (eo N b p) (nI (tE N (eo N b p))) S)) 47 (bo N (fe (eo N b p))) 1 else S
def sq_on (N : zN) (b : Nat) (S : zS) : zS := sp_ct N (zu (pfold (sq_on1 N b) (nP N b) (zu (zu (zu S 20 b 1) 27 b 0) 32 b 0)) 47 b 1)
def sq_prio (N : zN) (b : Nat) (v : Int32) (S : zS) : zS := sp_ct N (zu (zu S 21 b v) 47 b 1)
def sq_turn (N : zN) (b : Nat) (S : zS) : zS := if ceq (S 20 b) 1 = true then sq_on N b (zu (sq_off N b S) 22 b (bI (!(ceq (sq_off N b S 22 b) 1)))) else zu S 22 b (bI (!(ceq (S 22 b) 1)))
section zC14
variable {N : zN} {s w : Nat} {μ0 μ μ' : zM} {S S' : zS} {e b l q st : Nat} {v : Int32}
theorem CS.drp (h : CS N s w μ0 μ S) : CS N s w μ0 μ (dropL l S) := h
theorem C_clr (h : CS N s w μ0 μ S) (he : e < 28) (v : Bool) : ∃ μ', f4_clear (s + 37 + 2 * e) v μ = some μ' ∧ CS N s w μ0 μ' (sp_clr e (bI v) S) := by
  refine ⟨_, rfl, ?_⟩
  exact (((((((((((((h.w_holds he (v := false)).w_hage he (v := 0)).w_life he (v := 0)).w_role he (v := 0)).w_was he (v := 0)).w_state he (v := 0)).w_wait he (v := 0)).w_chg he (v := 0)).w_agr he (v := false)).w_edge he (v := v)).w_spk he (v := false)).w_owes he (v := false)).w_answ he (v := false)).w_mark he (v := false)
theorem C_dm (h : CS N s w μ0 μ S) (he : e < 28) : ∃ μ', f8_dropMail s (nI e) μ = some μ' ∧ CS N s w μ0 μ' (sp_dm e S) := by
  obtain ⟨μ1, e1, h1⟩ := lp (Q := CS N s w μ0) (body := fun q => f8_dropMail_L1 s (nI e) q.1 q.2) nI (fun k S => zu S 60 (e * 3 + k) 0) 3 (S := S) (μ := μ) (x0 := 0) (by
    intro i μ1 hi h1
    generalize pfold (fun k S => zu S 60 (e * 3 + k) 0) i S = S1 at *
    refine ⟨_, ?_, h1.w_there (e := e * 3 + i) (by omega) (v := false)⟩
    show f8_dropMail_L1 s (nI e) (nI i) μ1 = _
    unfold f8_dropMail_L1
    simp (disch := omega) only [obs, pk_mul, nI_add, nI_1, mulR2, mulR3, mulR4, mulR6, mulR7, mulR8, mulR10, mulR12, mulR16, mulQ2, mulQ3, mulQ4, mulQ6, mulQ7, mulQ8, mulQ10, mulQ12, mulQ16, mulQ18, mulQ48, addR2, addR3, addR4, addR5, addR6, addR7, addR8, addR9, addR10, addR16, addR20, addQ4, addQ100, addQ964, addQ978, addQ986, addQ1114, addQ1274, cltR2, cltR3, cltR4, cltR6, cltR8, cltR10, cltR13, cltR14, cltR18, cltR28, cltR40, cltR62, cltR64, cltR84, cltR96, ceqR0, ceqR1, ceqR2, ceqR3, ceqR5, ceqR6, ceqR8, ceqR14, ceqR39, ceqR40, ceqR64, ceqR13, clt_nI, ceq_nI, rI_nI, rA_nI, wA_nI, rZ_nI, wZ_nI, wF, wB, wR, zand, zor, zandn, zorn, ozb2, ozb3, ozb4, decide_true, decide_false, Nat.lt_irrefl, Bool.false_eq_true, ↓reduceIte, hi]) (by
    intro μ1 h1
    show f8_dropMail_L1 s (nI e) (nI 3) μ1 = _
    unfold f8_dropMail_L1
    simp (disch := omega) only [obs, pk_mul, nI_add, nI_1, mulR2, mulR3, mulR4, mulR6, mulR7, mulR8, mulR10, mulR12, mulR16, mulQ2, mulQ3, mulQ4, mulQ6, mulQ7, mulQ8, mulQ10, mulQ12, mulQ16, mulQ18, mulQ48, addR2, addR3, addR4, addR5, addR6, addR7, addR8, addR9, addR10, addR16, addR20, addQ4, addQ100, addQ964, addQ978, addQ986, addQ1114, addQ1274, cltR2, cltR3, cltR4, cltR6, cltR8, cltR10, cltR13, cltR14, cltR18, cltR28, cltR40, cltR62, cltR64, cltR84, cltR96, ceqR0, ceqR1, ceqR2, ceqR3, ceqR5, ceqR6, ceqR8, ceqR14, ceqR39, ceqR40, ceqR64, ceqR13, clt_nI, ceq_nI, rI_nI, rA_nI, wA_nI, rZ_nI, wZ_nI, wF, wB, wR, zand, zor, zandn, zorn, ozb2, ozb3, ozb4, decide_true, decide_false, Nat.lt_irrefl, Bool.false_eq_true, ↓reduceIte]) (by omega) h
  unfold f8_dropMail sp_dm
  exact ⟨μ1, zb_lp e1, h1⟩
theorem C_down (h : CS N s w μ0 μ S) (he : e < 2 * nL N) : ∃ μ', f8_goDown s (nI e) μ = some μ' ∧ CS N s w μ0 μ' (sq_down N e S) := by
  have e28 := h.nw.e28 he
  obtain ⟨μ1, e1, h1⟩ := C_clr h e28 false
  obtain ⟨μ2, e2, h2⟩ := C_dm h1 e28
  obtain ⟨μ3, e3, h3⟩ := C_forget h2 he
  refine ⟨μ3, ?_, h3⟩
  unfold f8_goDown
  rw [rI_nI e28 (by omega), obs, e1, obs, e2, obs, e3]; rfl
theorem te_b (nw : NW N) (he : e < 2 * nL N) : bI (ceq (nI (tE N e)) 1) = nI (tE N e) := by
  have := nw.te he
  have : tE N e = 0 ∨ tE N e = 1 := by omega
  rcases this with h | h <;> rw [h] <;> rfl
theorem C_come (h : CS N s w μ0 μ S) (he : e < 2 * nL N) : ∃ μ', f8_comeUp s (nI e) μ = some μ' ∧ CS N s w μ0 μ' (sp_clr e (nI (tE N e)) S) := by
  have e28 := h.nw.e28 he
  obtain ⟨μ1, e1, h1⟩ := C_clr h e28 (ceq (nI (tE N e)) 1)
  rw [te_b h.nw he] at h1
  refine ⟨μ1, ?_, h1⟩
  unfold f8_comeUp
  rw [rI_nI e28 (by omega), obs, h.c_wir, obs, h.w_te he, obs, e1]; rfl
theorem C_ct (h : CS N s w μ0 μ S) : ∃ μ', f8_chooseTouched s μ = some μ' ∧ CS N s w μ0 μ' (sp_ct N S) := by
  have nw := h.nw
  have b8 := nw.b8
  obtain ⟨μ1, e1, h1⟩ := lp (Q := CS N s w μ0) (body := fun q => f8_chooseTouched_L1 s q.1 q.2) nI (sp_ct1 N) (nB N) (S := S) (μ := μ) (x0 := 0) (by
    intro i μ1 hi h1
    generalize pfold (sp_ct1 N) i S = S1 at *
    show ∃ μ', f8_chooseTouched_L1 s (nI i) μ1 = some (.inl (nI (i + 1), μ')) ∧ _
    have h2 : ∃ μ2, (if (ceq (S1 47 i) 1 && ceq (S1 20 i) 1) = true then (f8_choose s (nI i) μ1).bind fun μ10 => some μ10 else some μ1) = some μ2 ∧ CS N s w μ0 μ2 (if (ceq (S1 47 i) 1 && ceq (S1 20 i) 1) = true then sp_choose N i S1 else S1) := by
      by_cases c : (ceq (S1 47 i) 1 && ceq (S1 20 i) 1) = true
      · simp only [if_pos c]
        obtain ⟨μ2, e2, h2⟩ := C_choose h1 hi
        exact ⟨μ2, by rw [e2]; rfl, h2⟩
      · simp only [if_neg c]
        exact ⟨_, rfl, h1⟩
    obtain ⟨μ2, e2, h2⟩ := h2
    refine ⟨_, ?_, h2.w_tch (e := i) (by omega) (v := false)⟩
    unfold f8_chooseTouched_L1
    simp (disch := omega) only [h1.c_wir, h1.w_b, obs, pk_mul, nI_add, nI_1, mulR2, mulR3, mulR4, mulR6, mulR7, mulR8, mulR10, mulR12, mulR16, mulQ2, mulQ3, mulQ4, mulQ6, mulQ7, mulQ8, mulQ10, mulQ12, mulQ16, mulQ18, mulQ48, addR2, addR3, addR4, addR5, addR6, addR7, addR8, addR9, addR10, addR16, addR20, addQ4, addQ100, addQ964, addQ978, addQ986, addQ1114, addQ1274, cltR2, cltR3, cltR4, cltR6, cltR8, cltR10, cltR13, cltR14, cltR18, cltR28, cltR40, cltR62, cltR64, cltR84, cltR96, ceqR0, ceqR1, ceqR2, ceqR3, ceqR5, ceqR6, ceqR8, ceqR14, ceqR39, ceqR40, ceqR64, ceqR13, clt_nI, ceq_nI, rI_nI, rA_nI, wA_nI, rZ_nI, wZ_nI, wF, wB, wR, zand, zor, zandn, zorn, ozb2, ozb3, ozb4, decide_true, decide_false, Nat.lt_irrefl, Bool.false_eq_true, ↓reduceIte, hi, h1.r_tch, h1.r_on, e2]) (by
    intro μ1 h1
    show f8_chooseTouched_L1 s (nI (nB N)) μ1 = _
    unfold f8_chooseTouched_L1
    simp (disch := omega) only [h1.c_wir, h1.w_b, obs, pk_mul, nI_add, nI_1, mulR2, mulR3, mulR4, mulR6, mulR7, mulR8, mulR10, mulR12, mulR16, mulQ2, mulQ3, mulQ4, mulQ6, mulQ7, mulQ8, mulQ10, mulQ12, mulQ16, mulQ18, mulQ48, addR2, addR3, addR4, addR5, addR6, addR7, addR8, addR9, addR10, addR16, addR20, addQ4, addQ100, addQ964, addQ978, addQ986, addQ1114, addQ1274, cltR2, cltR3, cltR4, cltR6, cltR8, cltR10, cltR13, cltR14, cltR18, cltR28, cltR40, cltR62, cltR64, cltR84, cltR96, ceqR0, ceqR1, ceqR2, ceqR3, ceqR5, ceqR6, ceqR8, ceqR14, ceqR39, ceqR40, ceqR64, ceqR13, clt_nI, ceq_nI, rI_nI, rA_nI, wA_nI, rZ_nI, wZ_nI, wF, wB, wR, zand, zor, zandn, zorn, ozb2, ozb3, ozb4, decide_true, decide_false, Nat.lt_irrefl, Bool.false_eq_true, ↓reduceIte]) (by omega) h
  unfold f8_chooseTouched sp_ct
  exact ⟨μ1, zb_lp e1, h1⟩
theorem C_touch (h : CS N s w μ0 μ S) (hl : l < nL N) : ∃ μ', f8_touchEnds s (nI l) μ = some μ' ∧ CS N s w μ0 μ' (zu (zu S 47 (bo N (2 * l)) 1) 47 (bo N (2 * l + 1)) 1) := by
  have nw := h.nw
  have h0 : 2 * l < 2 * nL N := by omega
  have h1 : 2 * l + 1 < 2 * nL N := by omega
  have b0 := nw.bo_8 h0
  have b1 := nw.bo_8 h1
  have k1 := h.w_tch b0 (v := true)
  unfold f8_touchEnds
  rw [mulQ2, nI_1]
  rw [h.c_wir, obs, h.w_bo h0, obs, wZ_nI b0 (by omega), obs, k1.c_wir, obs, k1.w_bo h1, obs, wZ_nI b1 (by omega), obs]
  exact ⟨_, rfl, k1.w_tch b1 (v := true)⟩
theorem C_cut (h : CS N s w μ0 μ S) (hl : l < nL N) : ∃ μ', f8_cutLink s (nI l) μ = some μ' ∧ CS N s w μ0 μ' (sq_cut N l S) := by
  have l14 := h.nw.l14
  obtain ⟨μ1, e1, h1⟩ := C_down h (show 2 * l < 2 * nL N by omega)
  obtain ⟨μ2, e2, h2⟩ := C_down h1 (show 2 * l + 1 < 2 * nL N by omega)
  have h2' : CS N s w μ0 μ2 (dropL l (sq_down N (2 * l + 1) (sq_down N (2 * l) S))) := h2.drp
  have h3 := h2'.w_whole (e := l) (by omega) (v := false)
  obtain ⟨μ4, e4, h4⟩ := C_touch h3 hl
  obtain ⟨μ5, e5, h5⟩ := C_ct h4
  refine ⟨μ5, ?_, h5⟩
  unfold f8_cutLink
  rw [mulQ2, nI_1, e1, obs, e2, obs, wZ_nI (by omega) (by omega), obs, e4, obs, e5]; rfl
theorem C_mend (h : CS N s w μ0 μ S) (hl : l < nL N) : ∃ μ', f8_mendLink s (nI l) μ = some μ' ∧ CS N s w μ0 μ' (sq_mend N l S) := by
  have l14 := h.nw.l14
  have h0 : 2 * l < 2 * nL N := by omega
  have h1 : 2 * l + 1 < 2 * nL N := by omega
  have k1 := h.w_whole (e := l) (by omega) (v := true)
  have k2 : ∃ μ2, (if up N (zu S 40 l 1) (2 * l) = true then ((f8_comeUp s (nI (2 * l)) (sZ μ (s + 4) l true)).bind fun μ6 => (f8_comeUp s (nI (2 * l + 1)) μ6).bind fun μ7 => some μ7) else some (sZ μ (s + 4) l true)) = some μ2 ∧ CS N s w μ0 μ2 (if up N (zu S 40 l 1) (2 * l) = true then sp_clr (2 * l + 1) (nI (tE N (2 * l + 1))) (sp_clr (2 * l) (nI (tE N (2 * l))) (zu S 40 l 1)) else zu S 40 l 1) := by
    by_cases c : up N (zu S 40 l 1) (2 * l) = true
    · simp only [if_pos c]
      obtain ⟨μ2, e2, k2⟩ := C_come k1 h0
      obtain ⟨μ3, e3, k3⟩ := C_come k2 h1
      exact ⟨μ3, by rw [e2, obs, e3]; rfl, k3⟩
    · simp only [if_neg c]
      exact ⟨_, rfl, k1⟩
  obtain ⟨μ2, e2, k2⟩ := k2
  obtain ⟨μ4, e4, h4⟩ := C_touch k2 hl
  obtain ⟨μ5, e5, h5⟩ := C_ct h4
  refine ⟨μ5, ?_, h5⟩
  unfold f8_mendLink
  have eu : f8_isUp s (nI (2 * l)) (sZ μ (s + 4) l true) = some (up N (zu S 40 l 1) (2 * l)) := C_up k1 h0
  rw [mulQ2, nI_1, wZ_nI (by omega) (by omega), obs, eu, obs, e2, obs, e4, obs, e5]; rfl
theorem C_off1 (h : CS N s w μ0 μ S) (hb : b < nB N) : ∃ μ', zloop (fun q => f8_turnOff_L1 s (nI b) q.1 q.2) 1000000 (0, μ) = some (nI (nP N b), μ') ∧ CS N s w μ0 μ' (pfold (sq_off1 N b) (nP N b) S) := by
  have nw := h.nw
  have hb8 := nw.b_8 hb
  have hp6 := nw.p6 hb
  refine lp (Q := CS N s w μ0) nI (sq_off1 N b) (nP N b) ?_ ?_ (by omega) h
  · intro i μ1 hi h1
    generalize pfold (sq_off1 N b) i S = S1 at *
    have q28 := nw.eo_28 hb hi
    have ql := nw.eo_l hb hi
    have f8 := nw.bo_8 (fe_lt ql)
    show ∃ μ', f8_turnOff_L1 s (nI b) (nI i) μ1 = some (.inl (nI (i + 1), μ')) ∧ _
    by_cases c : up N S1 (eo N b i) = true
    · have h2 := h1.w_tch f8 (v := true)
      obtain ⟨μ3, e3, h3⟩ := C_down h2 ql
      obtain ⟨μ4, e4, h4⟩ := C_down h3 (fe_lt ql)
      refine ⟨μ4, ?_, ?_⟩
      · unfold f8_turnOff_L1
        simp (disch := omega) only [h1.c_wir, h1.v_p hb, h1.w_eo hb hi, h1.w_far ql, obs, pk_mul, nI_add, nI_1, mulR2, mulR3, mulR4, mulR6, mulR7, mulR8, mulR10, mulR12, mulR16, mulQ2, mulQ3, mulQ4, mulQ6, mulQ7, mulQ8, mulQ10, mulQ12, mulQ16, mulQ18, mulQ48, addR2, addR3, addR4, addR5, addR6, addR7, addR8, addR9, addR10, addR16, addR20, addQ4, addQ100, addQ964, addQ978, addQ986, addQ1114, addQ1274, cltR2, cltR3, cltR4, cltR6, cltR8, cltR10, cltR13, cltR14, cltR18, cltR28, cltR40, cltR62, cltR64, cltR84, cltR96, ceqR0, ceqR1, ceqR2, ceqR3, ceqR5, ceqR6, ceqR8, ceqR14, ceqR39, ceqR40, ceqR64, ceqR13, clt_nI, ceq_nI, rI_nI, rA_nI, wA_nI, rZ_nI, wZ_nI, wF, wB, wR, zand, zor, zandn, zorn, ozb2, ozb3, ozb4, decide_true, decide_false, Nat.lt_irrefl, Bool.false_eq_true, ↓reduceIte, hi, C_up h1 ql, c, e3, fe_x q28, e4]
      · unfold sq_off1
        rw [c, Bool.or_true]
        exact h4.drp
    · have c' : up N S1 (eo N b i) = false := by cases e : up N S1 (eo N b i) with | false => rfl | true => exact absurd e c
      have z : zu S1 47 (bo N (fe (eo N b i))) (bI (ceq (S1 47 (bo N (fe (eo N b i)))) 1)) = S1 := by
        funext g j
        show (if g = 47 ∧ j = bo N (fe (eo N b i)) then bI (ceq (S1 47 (bo N (fe (eo N b i)))) 1) else S1 g j) = S1 g j
        by_cases d : g = 47 ∧ j = bo N (fe (eo N b i))
        · rw [if_pos d, d.1, d.2, ← h1.r_tch f8]; exact h1.c_tch _ f8
        · rw [if_neg d]
      obtain ⟨μ3, e3, h3⟩ := C_down h1 ql
      obtain ⟨μ4, e4, h4⟩ := C_down h3 (fe_lt ql)
      refine ⟨μ4, ?_, ?_⟩
      · unfold f8_turnOff_L1
        simp (disch := omega) only [h1.c_wir, h1.v_p hb, h1.w_eo hb hi, obs, pk_mul, nI_add, nI_1, mulR2, mulR3, mulR4, mulR6, mulR7, mulR8, mulR10, mulR12, mulR16, mulQ2, mulQ3, mulQ4, mulQ6, mulQ7, mulQ8, mulQ10, mulQ12, mulQ16, mulQ18, mulQ48, addR2, addR3, addR4, addR5, addR6, addR7, addR8, addR9, addR10, addR16, addR20, addQ4, addQ100, addQ964, addQ978, addQ986, addQ1114, addQ1274, cltR2, cltR3, cltR4, cltR6, cltR8, cltR10, cltR13, cltR14, cltR18, cltR28, cltR40, cltR62, cltR64, cltR84, cltR96, ceqR0, ceqR1, ceqR2, ceqR3, ceqR5, ceqR6, ceqR8, ceqR14, ceqR39, ceqR40, ceqR64, ceqR13, clt_nI, ceq_nI, rI_nI, rA_nI, wA_nI, rZ_nI, wZ_nI, wF, wB, wR, zand, zor, zandn, zorn, ozb2, ozb3, ozb4, decide_true, decide_false, Nat.lt_irrefl, Bool.false_eq_true, ↓reduceIte, hi, C_up h1 ql, c', e3, fe_x q28, e4]
      · unfold sq_off1
        rw [c', Bool.or_false, z]
        exact h4.drp
  · intro μ1 h1
    show f8_turnOff_L1 s (nI b) (nI (nP N b)) μ1 = _
    unfold f8_turnOff_L1
    simp (disch := omega) only [h1.c_wir, h1.v_p hb, obs, pk_mul, nI_add, nI_1, mulR2, mulR3, mulR4, mulR6, mulR7, mulR8, mulR10, mulR12, mulR16, mulQ2, mulQ3, mulQ4, mulQ6, mulQ7, mulQ8, mulQ10, mulQ12, mulQ16, mulQ18, mulQ48, addR2, addR3, addR4, addR5, addR6, addR7, addR8, addR9, addR10, addR16, addR20, addQ4, addQ100, addQ964, addQ978, addQ986, addQ1114, addQ1274, cltR2, cltR3, cltR4, cltR6, cltR8, cltR10, cltR13, cltR14, cltR18, cltR28, cltR40, cltR62, cltR64, cltR84, cltR96, ceqR0, ceqR1, ceqR2, ceqR3, ceqR5, ceqR6, ceqR8, ceqR14, ceqR39, ceqR40, ceqR64, ceqR13, clt_nI, ceq_nI, rI_nI, rA_nI, wA_nI, rZ_nI, wZ_nI, wF, wB, wR, zand, zor, zandn, zorn, ozb2, ozb3, ozb4, decide_true, decide_false, Nat.lt_irrefl, Bool.false_eq_true, ↓reduceIte]
theorem C_off (h : CS N s w μ0 μ S) (hb : b < nB N) : ∃ μ', f8_turnOff s (nI b) μ = some μ' ∧ CS N s w μ0 μ' (sq_off N b S) := by
  have nw := h.nw
  have hb8 := nw.b_8 hb
  obtain ⟨μ1, e1, h1⟩ := C_off1 h hb
  have h2 := h1.w_on hb8 (v := false)
  obtain ⟨μ3, e3, h3⟩ := lp (Q := CS N s w μ0) (body := fun q => f8_turnOff_L2 s (nI b) q.1 q.2) (fun i => nI (b * 8 + i)) (fun h S => zu S 42 (b * 8 + h) (-1)) 8 (S := zu (pfold (sq_off1 N b) (nP N b) S) 20 b (bI false)) (μ := sB μ1 3 (s + 13 + 3 * b) false) (x0 := nI (b * 8)) (by
    intro i μ3 hi h3
    generalize pfold (fun h S => zu S 42 (b * 8 + h) (-1)) i (zu (pfold (sq_off1 N b) (nP N b) S) 20 b (bI false)) = S3 at *
    refine ⟨_, ?_, h3.w_la (e := b * 8 + i) (v := -1) (by omega) hb hi rfl (Or.inl rfl)⟩
    show f8_turnOff_L2 s (nI b) (nI (b * 8 + i)) μ3 = some (.inl (nI (b * 8 + (i + 1)), _))
    have hlt : b * 8 + i < b * 8 + 8 := by omega
    unfold f8_turnOff_L2
    simp (disch := omega) only [obs, pk_mul, nI_add, nI_1, mulR2, mulR3, mulR4, mulR6, mulR7, mulR8, mulR10, mulR12, mulR16, mulQ2, mulQ3, mulQ4, mulQ6, mulQ7, mulQ8, mulQ10, mulQ12, mulQ16, mulQ18, mulQ48, addR2, addR3, addR4, addR5, addR6, addR7, addR8, addR9, addR10, addR16, addR20, addQ4, addQ100, addQ964, addQ978, addQ986, addQ1114, addQ1274, cltR2, cltR3, cltR4, cltR6, cltR8, cltR10, cltR13, cltR14, cltR18, cltR28, cltR40, cltR62, cltR64, cltR84, cltR96, ceqR0, ceqR1, ceqR2, ceqR3, ceqR5, ceqR6, ceqR8, ceqR14, ceqR39, ceqR40, ceqR64, ceqR13, clt_nI, ceq_nI, rI_nI, rA_nI, wA_nI, rZ_nI, wZ_nI, wF, wB, wR, zand, zor, zandn, zorn, ozb2, ozb3, ozb4, decide_true, decide_false, Nat.lt_irrefl, Bool.false_eq_true, ↓reduceIte, hlt]
    rfl) (by
    intro μ3 h3
    show f8_turnOff_L2 s (nI b) (nI (b * 8 + 8)) μ3 = _
    unfold f8_turnOff_L2
    simp (disch := omega) only [obs, pk_mul, nI_add, nI_1, mulR2, mulR3, mulR4, mulR6, mulR7, mulR8, mulR10, mulR12, mulR16, mulQ2, mulQ3, mulQ4, mulQ6, mulQ7, mulQ8, mulQ10, mulQ12, mulQ16, mulQ18, mulQ48, addR2, addR3, addR4, addR5, addR6, addR7, addR8, addR9, addR10, addR16, addR20, addQ4, addQ100, addQ964, addQ978, addQ986, addQ1114, addQ1274, cltR2, cltR3, cltR4, cltR6, cltR8, cltR10, cltR13, cltR14, cltR18, cltR28, cltR40, cltR62, cltR64, cltR84, cltR96, ceqR0, ceqR1, ceqR2, ceqR3, ceqR5, ceqR6, ceqR8, ceqR14, ceqR39, ceqR40, ceqR64, ceqR13, clt_nI, ceq_nI, rI_nI, rA_nI, wA_nI, rZ_nI, wZ_nI, wF, wB, wR, zand, zor, zandn, zorn, ozb2, ozb3, ozb4, decide_true, decide_false, Nat.lt_irrefl, Bool.false_eq_true, ↓reduceIte]) (by omega) h2
  obtain ⟨μ4, e4, h4⟩ := C_ct h3
  refine ⟨μ4, ?_, h4⟩
  unfold f8_turnOff
  rw [zb_lp e1, rI_nI hb8 (by omega), obs]
  simp only [wB, obs, mulR8]
  rw [zb_lp e3, e4, obs]
theorem C_on (h : CS N s w μ0 μ S) (hb : b < nB N) : ∃ μ', f8_turnOn s (nI b) μ = some μ' ∧ CS N s w μ0 μ' (sq_on N b S) := by
  have nw := h.nw
  have hb8 := nw.b_8 hb
  have hp6 := nw.p6 hb
  have h1 : CS N s w μ0 (sF (sB μ 3 (s + 13 + 3 * b) true) 8 (s + 13 + 3 * b) 0) (zu (zu (zu S 20 b 1) 27 b 0) 32 b 0) := (h.w_on hb8 (v := true)).w_short hb8 (v := 0)
  obtain ⟨μ2, e2, h2⟩ := lp (Q := CS N s w μ0) (body := fun q => f8_turnOn_L1 s (nI b) q.1 q.2) nI (sq_on1 N b) (nP N b) (S := zu (zu (zu S 20 b 1) 27 b 0) 32 b 0) (μ := sF (sB μ 3 (s + 13 + 3 * b) true) 8 (s + 13 + 3 * b) 0) (x0 := 0) (by
    intro i μ1 hi k1
    generalize pfold (sq_on1 N b) i (zu (zu (zu S 20 b 1) 27 b 0) 32 b 0) = S1 at *
    have q28 := nw.eo_28 hb hi
    have ql := nw.eo_l hb hi
    have f8 := nw.bo_8 (fe_lt ql)
    show ∃ μ', f8_turnOn_L1 s (nI b) (nI i) μ1 = some (.inl (nI (i + 1), μ')) ∧ _
    unfold f8_turnOn_L1 sq_on1
    simp (disch := omega) only [k1.c_wir, k1.v_p hb, k1.w_eo hb hi, obs, pk_mul, nI_add, nI_1, mulR2, mulR3, mulR4, mulR6, mulR7, mulR8, mulR10, mulR12, mulR16, mulQ2, mulQ3, mulQ4, mulQ6, mulQ7, mulQ8, mulQ10, mulQ12, mulQ16, mulQ18, mulQ48, addR2, addR3, addR4, addR5, addR6, addR7, addR8, addR9, addR10, addR16, addR20, addQ4, addQ100, addQ964, addQ978, addQ986, addQ1114, addQ1274, cltR2, cltR3, cltR4, cltR6, cltR8, cltR10, cltR13, cltR14, cltR18, cltR28, cltR40, cltR62, cltR64, cltR84, cltR96, ceqR0, ceqR1, ceqR2, ceqR3, ceqR5, ceqR6, ceqR8, ceqR14, ceqR39, ceqR40, ceqR64, ceqR13, clt_nI, ceq_nI, rI_nI, rA_nI, wA_nI, rZ_nI, wZ_nI, wF, wB, wR, zand, zor, zandn, zorn, ozb2, ozb3, ozb4, decide_true, decide_false, Nat.lt_irrefl, Bool.false_eq_true, ↓reduceIte, hi, C_up k1 ql]
    by_cases c : up N S1 (eo N b i) = true
    · simp only [if_pos c]
      obtain ⟨μ3, e3, k3⟩ := C_come k1 ql
      obtain ⟨μ4, e4, k4⟩ := C_come k3 (fe_lt ql)
      refine ⟨_, ?_, k4.w_tch f8 (v := true)⟩
      rw [e3, obs, fe_x q28, e4, obs, k4.c_wir, obs, k4.w_far ql, obs, wZ_nI f8 (by omega), obs]
    · simp only [if_neg c]
      exact ⟨_, rfl, k1⟩) (by
    intro μ1 k1
    show f8_turnOn_L1 s (nI b) (nI (nP N b)) μ1 = _
    unfold f8_turnOn_L1
    simp (disch := omega) only [k1.c_wir, k1.v_p hb, obs, pk_mul, nI_add, nI_1, mulR2, mulR3, mulR4, mulR6, mulR7, mulR8, mulR10, mulR12, mulR16, mulQ2, mulQ3, mulQ4, mulQ6, mulQ7, mulQ8, mulQ10, mulQ12, mulQ16, mulQ18, mulQ48, addR2, addR3, addR4, addR5, addR6, addR7, addR8, addR9, addR10, addR16, addR20, addQ4, addQ100, addQ964, addQ978, addQ986, addQ1114, addQ1274, cltR2, cltR3, cltR4, cltR6, cltR8, cltR10, cltR13, cltR14, cltR18, cltR28, cltR40, cltR62, cltR64, cltR84, cltR96, ceqR0, ceqR1, ceqR2, ceqR3, ceqR5, ceqR6, ceqR8, ceqR14, ceqR39, ceqR40, ceqR64, ceqR13, clt_nI, ceq_nI, rI_nI, rA_nI, wA_nI, rZ_nI, wZ_nI, wF, wB, wR, zand, zor, zandn, zorn, ozb2, ozb3, ozb4, decide_true, decide_false, Nat.lt_irrefl, Bool.false_eq_true, ↓reduceIte]) (by omega) h1
  obtain ⟨μ4, e4, h4⟩ := C_ct (h2.w_tch hb8 (v := true))
  refine ⟨μ4, ?_, h4⟩
  unfold f8_turnOn
  rw [rI_nI hb8 (by omega), obs]
  simp only [wB, wF, obs]
  rw [zb_lp e2, wZ_nI hb8 (by omega), obs, e4, obs]
theorem C_prio (h : CS N s w μ0 μ S) (hb : b < nB N) : ∃ μ', f8_changePrio s (nI b) v μ = some μ' ∧ CS N s w μ0 μ' (sq_prio N b v S) := by
  have hb8 := h.nw.b_8 hb
  obtain ⟨μ4, e4, h4⟩ := C_ct ((h.w_prio hb8 (v := v)).w_tch hb8 (v := true))
  refine ⟨μ4, ?_, h4⟩
  unfold f8_changePrio
  rw [rI_nI hb8 (by omega), obs]
  simp only [wF, obs]
  rw [wZ_nI hb8 (by omega), obs, e4, obs]
theorem C_turn (h : CS N s w μ0 μ S) (hb : b < nB N) : ∃ μ', f8_turnAge s (nI b) μ = some μ' ∧ CS N s w μ0 μ' (sq_turn N b S) := by
  have hb8 := h.nw.b_8 hb
  unfold f8_turnAge sq_turn
  rw [rI_nI hb8 (by omega), obs, obs, h.r_on hb8]
  by_cases c : ceq (S 20 b) 1 = true
  · simp only [if_pos c]
    obtain ⟨μ1, e1, h1⟩ := C_off h hb
    rw [e1, obs, obs, obs]
    simp only [obs, wB]
    rw [h1.r_old hb8]
    obtain ⟨μ2, e2, h2⟩ := C_on (h1.w_old hb8 (v := !(ceq (sq_off N b S 22 b) 1))) hb
    exact ⟨μ2, by rw [e2]; rfl, h2⟩
  · simp only [if_neg c]
    simp only [obs, wB]
    rw [h.r_old hb8]
    exact ⟨_, rfl, h.w_old hb8⟩
end zC14
