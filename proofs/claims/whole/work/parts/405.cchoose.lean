/-! CLASS: how a bridge chooses -/
def vcmp (a b c d a' b' c' d' : Int32) : Int32 := if ceq a a' = true then (if ceq b b' = true then (if ceq c c' = true then (if ceq d d' = true then 0 else if clt d d' = true then -1 else 1) else if clt c c' = true then -1 else 1) else if clt b b' = true then -1 else 1) else if clt a a' = true then -1 else 1
def vlt (a b c d a' b' c' d' : Int32) : Bool := if ceq a a' = true then (if ceq b b' = true then (if ceq c c' = true then clt d d' else clt c c') else clt b b') else clt a a'
theorem clt_irr (x : Int32) : clt x x = false := by unfold clt; simp [Int32.lt_irrefl]
theorem ceq_rf (x : Int32) : ceq x x = true := by unfold ceq; simp
theorem clt_ceq {x y : Int32} (h : ceq x y = true) : clt x y = false := by rw [ceq_of h]; exact clt_irr y
theorem vcmp_lt (a b c d a' b' c' d' : Int32) : clt (vcmp a b c d a' b' c' d') 0 = vlt a b c d a' b' c' d' := by
  unfold vcmp vlt
  cases h1 : ceq a a' <;> cases h2 : ceq b b' <;> cases h3 : ceq c c' <;> cases h4 : ceq d d' <;> cases h5 : clt a a' <;> cases h6 : clt b b' <;> cases h7 : clt c c' <;> cases h8 : clt d d' <;> first | rfl | (exfalso; first | (rw [clt_ceq h4] at h8; cases h8) | (rw [clt_ceq h3] at h7; cases h7))
theorem vcmp_eq (a b c d a' b' c' d' : Int32) : ceq (vcmp a b c d a' b' c' d') 0 = (((ceq a a' && ceq b b') && ceq c c') && ceq d d') := by
  unfold vcmp
  cases h1 : ceq a a' <;> cases h2 : ceq b b' <;> cases h3 : ceq c c' <;> cases h4 : ceq d d' <;> cases h5 : clt a a' <;> cases h6 : clt b b' <;> cases h7 : clt c c' <;> cases h8 : clt d d' <;> rfl
theorem vcmp_p (a b c d a' b' c' : Int32) : vcmp a b c d a' b' c' d = vcmp a b c 0 a' b' c' 0 := by
  unfold vcmp
  simp only [ceq_rf, ↓reduceIte]
theorem C_agst (o v : Nat) (μ : zM) : f9_against o v μ = some (vcmp (gF μ 900 o) (gF μ 901 o) (gF μ 902 o) (gF μ 903 o) (gF μ 900 v) (gF μ 901 v) (gF μ 902 v) (gF μ 903 v)) := by
  unfold f9_against vcmp
  cases h1 : ceq (gF μ 900 o) (gF μ 900 v) <;> cases h2 : ceq (gF μ 901 o) (gF μ 901 v) <;> cases h3 : ceq (gF μ 902 o) (gF μ 902 v) <;> cases h4 : ceq (gF μ 903 o) (gF μ 903 v) <;> cases h5 : clt (gF μ 900 o) (gF μ 900 v) <;> cases h6 : clt (gF μ 901 o) (gF μ 901 v) <;> cases h7 : clt (gF μ 902 o) (gF μ 902 v) <;> cases h8 : clt (gF μ 903 o) (gF μ 903 v) <;> rfl
def cpV (o v : Nat) (μ : zM) : zM := sF (sF (sF (sF μ 900 o (gF μ 900 v)) 901 o (gF μ 901 v)) 902 o (gF μ 902 v)) 903 o (gF μ 903 v)
theorem C_cpV (o v : Nat) (μ : zM) : f9_copyFrom o v μ = some (cpV o v μ) := rfl
def idS (S : zS) (b : Nat) : Int32 := 16 * S 21 b + nI b
def sp_better (N : zN) (S : zS) (q q0 : Nat) : Bool := vlt (S 11 q) (S 12 q + nI (cst N (q / 2))) (S 13 q) (S 14 q) (S 11 q0) (S 12 q0 + nI (cst N (q0 / 2))) (S 13 q0) (S 14 q0)
def sp_pk1 (N : zN) (b : Nat) (S : zS) (p : Nat) (o : Option Nat) : Option Nat := if (!(ceq (S 10 (eo N b p)) 1) || ceq (S 13 (eo N b p)) (idS S b)) = true then o else match o with
  | none => some p
  | some p0 => if sp_better N S (eo N b p) (eo N b p0) = true then some p else some p0
def sp_pick (N : zN) (b : Nat) (S : zS) (n : Nat) : Option Nat := pfold (sp_pk1 N b S) n none
def sp_rt (N : zN) (b : Nat) (S : zS) : Option Nat := match sp_pick N b S (nP N b) with
  | none => none
  | some p => if clt (S 11 (eo N b p)) (idS S b) = true then some p else none
def oI (o : Option Nat) : Int32 := match o with
  | none => -1
  | some p => nI p
def sp_lead (N : zN) (b : Nat) (o : Option Nat) (S : zS) : zS := match o with
  | none => zu (zu (zu (zu (zu (zu S 23 b (idS S b)) 24 b 0) 31 b (idS S b)) 26 b 0) 25 b (-1)) 32 b 1
  | some p => zu (zu (zu (zu (zu (zu S 23 b (S 11 (eo N b p))) 24 b (S 12 (eo N b p) + nI (cst N (eo N b p / 2)))) 31 b (idS S b)) 26 b (S 15 (eo N b p) + 1)) 25 b (nI p)) 32 b 1
theorem pick_lt {N : zN} {b : Nat} {S : zS} : ∀ {n p0 : Nat}, sp_pick N b S n = some p0 → p0 < n
  | 0, p0, h => by cases h
  | n + 1, p0, h => by
    have ih := @pick_lt N b S n
    rw [show sp_pick N b S (n + 1) = sp_pk1 N b S n (sp_pick N b S n) from rfl] at h
    unfold sp_pk1 at h
    split at h
    · exact Nat.lt_succ_of_lt (ih h)
    · split at h
      · cases h; exact Nat.lt_succ_self n
      · split at h
        · cases h; exact Nat.lt_succ_self n
        · rename_i e1 _
          cases h; exact Nat.lt_succ_of_lt (ih e1)
section zC5
variable {N : zN} {s w : Nat} {μ0 μ μ' : zM} {S S' : zS} {e b l : Nat}
theorem C_id (h : CS N s w μ0 μ S) (hb : b < 8) : f0_id (s + 13 + 3 * b) μ = some (idS S b) := by
  unfold f0_id idS
  rw [h.r_prio hb, h.c_num b hb]
theorem C_up (h : CS N s w μ0 μ S) (he : e < 2 * nL N) : f8_isUp s (nI e) μ = some (up N S e) := by
  have nw := h.nw
  have e28 := nw.e28 he
  have hb8 := nw.bo_8 he
  have hf8 := nw.bo_8 (fe_lt he)
  unfold f8_isUp up
  rw [hf_x e28]
  simp (disch := omega) only [h.c_wir, h.v_bo he, h.w_far he, obs, pk_mul, nI_add, nI_1, mulR2, mulR3, mulR4, mulR6, mulR7, mulR8, mulR10, mulR12, mulR16, mulQ2, mulQ3, mulQ4, mulQ6, mulQ7, mulQ8, mulQ10, mulQ12, mulQ16, mulQ18, mulQ48, addR2, addR3, addR4, addR5, addR6, addR7, addR8, addR9, addR10, addR16, addR20, addQ4, addQ100, addQ964, addQ978, addQ986, addQ1114, addQ1274, cltR2, cltR3, cltR4, cltR6, cltR8, cltR10, cltR13, cltR14, cltR18, cltR28, cltR40, cltR62, cltR64, cltR84, cltR96, ceqR0, ceqR1, ceqR2, ceqR3, ceqR5, ceqR6, ceqR8, ceqR14, ceqR39, ceqR40, ceqR64, ceqR13, clt_nI, ceq_nI, rI_nI, rA_nI, wA_nI, rZ_nI, wZ_nI, wF, wB, wR, zand, zor, zandn, zorn, ozb2, ozb3, ozb4, decide_true, decide_false, Nat.lt_irrefl, Bool.false_eq_true, ↓reduceIte, h.r_whole, h.r_on]
/-- what the pick has found: the vector least, its port, its age -/
def C_pkI (N : zN) (s w b : Nat) (μ0 : zM) (S : zS) (i : Nat) (x : Int32 × Int32 × zM) : Prop := CS N s w μ0 x.2.2 S ∧ x.1 = oI (sp_pick N b S i) ∧ (sp_pick N b S i = none → x.2.1 = 0) ∧ ∀ p, sp_pick N b S i = some p → x.2.1 = S 15 (eo N b p) ∧ gF x.2.2 900 (s + 12) = S 11 (eo N b p) ∧ gF x.2.2 901 (s + 12) = S 12 (eo N b p) + nI (cst N (eo N b p / 2)) ∧ gF x.2.2 902 (s + 12) = S 13 (eo N b p) ∧ gF x.2.2 903 (s + 12) = S 14 (eo N b p)
theorem oI_none {p : Nat} (hp : p < 2 ^ 31) : ceq (nI p) (-1) = false := by
  unfold ceq
  rw [decide_eq_false_iff_not]
  intro h
  have h1 := nI_toInt hp
  rw [h] at h1
  have h2 : (-1 : Int32).toInt = -1 := by decide
  omega
theorem C_pick (h : CS N s w μ0 μ S) (hb : b < nB N) : ∃ r, zloop (fun q => f8_pickRoot_L1 s (s + 13 + 3 * b) q.1 q.2.1 q.2.2.1 q.2.2.2) 1000000 ((-1), 0, 0, μ) = some r ∧ r.2.2.1 = nI (nP N b) ∧ C_pkI N s w b μ0 S (nP N b) (r.1, r.2.1, r.2.2.2) := by
  have nw := h.nw
  have hb8 := nw.b_8 hb
  have hp6 := nw.p6 hb
  have key := zloop_up (body := fun q => f8_pickRoot_L1 s (s + 13 + 3 * b) q.1 q.2.1 q.2.2.1 q.2.2.2) (fun i (x : Int32 × Int32 × zM) => (x.1, x.2.1, nI i, x.2.2)) (C_pkI N s w b μ0 S) (nP N b) (fun r => r.2.2.1 = nI (nP N b) ∧ C_pkI N s w b μ0 S (nP N b) (r.1, r.2.1, r.2.2.2)) (by
    rintro i ⟨v, a, μ1⟩ hi ⟨h1, h2, h2b, h3⟩
    have q28 := nw.eo_28 hb hi
    have ql := nw.eo_l hb hi
    have l14 := nw.l14
    replace h2 : v = oI (sp_pick N b S i) := h2
    replace h1 : CS N s w μ0 μ1 S := h1
    subst h2
    show ∃ y : Int32 × Int32 × zM, f8_pickRoot_L1 s (s + 13 + 3 * b) (oI (sp_pick N b S i)) a (nI i) μ1 = some (.inl (y.1, y.2.1, nI (i + 1), y.2.2)) ∧ C_pkI N s w b μ0 S (i + 1) y
    have hsucc : sp_pick N b S (i + 1) = sp_pk1 N b S i (sp_pick N b S i) := rfl
    have h4 : CS N s w μ0 (cpV (s + 11) (s + 37 + 2 * eo N b i + 1) μ1) S := (((h1.sc_F (by omega) (by omega)).sc_F (by omega) (by omega)).sc_F (by omega) (by omega)).sc_F (by omega) (by omega)
    unfold f8_pickRoot_L1
    simp (disch := omega) only [h1.c_wir, h1.c_num b hb8, h1.v_p hb, h1.w_eo hb hi, obs, pk_mul, nI_add, nI_1, mulR2, mulR3, mulR4, mulR6, mulR7, mulR8, mulR10, mulR12, mulR16, mulQ2, mulQ3, mulQ4, mulQ6, mulQ7, mulQ8, mulQ10, mulQ12, mulQ16, mulQ18, mulQ48, addR2, addR3, addR4, addR5, addR6, addR7, addR8, addR9, addR10, addR16, addR20, addQ4, addQ100, addQ964, addQ978, addQ986, addQ1114, addQ1274, cltR2, cltR3, cltR4, cltR6, cltR8, cltR10, cltR13, cltR14, cltR18, cltR28, cltR40, cltR62, cltR64, cltR84, cltR96, ceqR0, ceqR1, ceqR2, ceqR3, ceqR5, ceqR6, ceqR8, ceqR14, ceqR39, ceqR40, ceqR64, ceqR13, clt_nI, ceq_nI, rI_nI, rA_nI, wA_nI, rZ_nI, wZ_nI, wF, wB, wR, zand, zor, zandn, zorn, ozb2, ozb3, ozb4, decide_true, decide_false, Nat.lt_irrefl, Bool.false_eq_true, ↓reduceIte, h1.r_holds, hi, C_id h1 hb8, h1.r_hid, C_cpV, h4.c_wir, hf_x q28, h4.v_cst]
    have m11 : gF (cpV (s + 11) (s + 37 + 2 * eo N b i + 1) μ1) 901 (s + 11) = S 12 (eo N b i) := by
      rw [← h1.r_hcost q28]; simp [cpV, gF_sF]
    rw [m11]
    have h5 := h4.sc_F (k := 901) (a := s + 11) (v := S 12 (eo N b i) + nI (cst N (eo N b i / 2))) (by omega) (by omega)
    have g0 : gF (sF (cpV (s + 11) (s + 37 + 2 * eo N b i + 1) μ1) 901 (s + 11) (S 12 (eo N b i) + nI (cst N (eo N b i / 2)))) 900 (s + 11) = S 11 (eo N b i) := by
      rw [← h1.r_hroot q28]; simp [cpV, gF_sF]
    have g1 : gF (sF (cpV (s + 11) (s + 37 + 2 * eo N b i + 1) μ1) 901 (s + 11) (S 12 (eo N b i) + nI (cst N (eo N b i / 2)))) 901 (s + 11) = S 12 (eo N b i) + nI (cst N (eo N b i / 2)) := by
      simp [gF_sF]
    have g2 : gF (sF (cpV (s + 11) (s + 37 + 2 * eo N b i + 1) μ1) 901 (s + 11) (S 12 (eo N b i) + nI (cst N (eo N b i / 2)))) 902 (s + 11) = S 13 (eo N b i) := by
      rw [← h1.r_hid q28]; simp [cpV, gF_sF]
    have g3 : gF (sF (cpV (s + 11) (s + 37 + 2 * eo N b i + 1) μ1) 901 (s + 11) (S 12 (eo N b i) + nI (cst N (eo N b i / 2)))) 903 (s + 11) = S 14 (eo N b i) := by
      rw [← h1.r_hport q28]; simp [cpV, gF_sF]
    have g4 : ∀ k, gF (sF (cpV (s + 11) (s + 37 + 2 * eo N b i + 1) μ1) 901 (s + 11) (S 12 (eo N b i) + nI (cst N (eo N b i / 2)))) k (s + 12) = gF μ1 k (s + 12) := by
      intro k; simp [cpV, gF_sF]
    generalize sF (cpV (s + 11) (s + 37 + 2 * eo N b i + 1) μ1) 901 (s + 11) (S 12 (eo N b i) + nI (cst N (eo N b i / 2))) = M at *
    have h6 : CS N s w μ0 (cpV (s + 12) (s + 11) M) S := (((h5.sc_F (by omega) (by omega)).sc_F (by omega) (by omega)).sc_F (by omega) (by omega)).sc_F (by omega) (by omega)
    have g5 : ∀ k, 900 ≤ k → k ≤ 903 → gF (cpV (s + 12) (s + 11) M) k (s + 12) = gF M k (s + 11) := by
      intro k k1 k2
      have : k = 900 ∨ k = 901 ∨ k = 902 ∨ k = 903 := by omega
      rcases this with rfl | rfl | rfl | rfl <;> simp [cpV, gF_sF]
    by_cases c : (!ceq (S 10 (eo N b i)) 1 || ceq (S 13 (eo N b i)) (idS S b)) = true
    · simp only [if_pos c]
      have hs2 : sp_pick N b S (i + 1) = sp_pick N b S i := by rw [hsucc]; unfold sp_pk1; rw [if_pos c]
      refine ⟨(oI (sp_pick N b S i), a, μ1), rfl, h1, ?_, ?_, ?_⟩
      · rw [hs2]
      · rw [hs2]; exact h2b
      · rw [hs2]; exact h3
    · simp only [if_neg c]
      cases hp : sp_pick N b S i with
      | none =>
        have hs2 : sp_pick N b S (i + 1) = some i := by rw [hsucc]; unfold sp_pk1; rw [if_neg c, hp]
        simp only [show ceq (oI none) (-1) = true from rfl, ↓reduceIte, Option.bind_some]
        refine ⟨(nI i, gF M 402 (s + 37 + 2 * eo N b i), cpV (s + 12) (s + 11) M), rfl, h6, ?_, ?_, ?_⟩
        · rw [hs2]; rfl
        · intro x; rw [hs2] at x; cases x
        · intro p x
          rw [hs2] at x
          cases x
          refine ⟨h5.r_hage q28, ?_, ?_, ?_, ?_⟩
          · rw [g5 _ (by omega) (by omega)]; exact g0
          · rw [g5 _ (by omega) (by omega)]; exact g1
          · rw [g5 _ (by omega) (by omega)]; exact g2
          · rw [g5 _ (by omega) (by omega)]; exact g3
      | some p0 =>
        have hlt := pick_lt hp
        obtain ⟨j0, j1, j2, j3, j4⟩ := h3 p0 hp
        simp only [show oI (some p0) = nI p0 from rfl, oI_none (show p0 < 2 ^ 31 by omega), Bool.false_eq_true, ↓reduceIte, C_agst, Option.bind_some, vcmp_lt, g0, g1, g2, g3, g4]
        replace j1 : gF μ1 900 (s + 12) = S 11 (eo N b p0) := j1
        replace j2 : gF μ1 901 (s + 12) = S 12 (eo N b p0) + nI (cst N (eo N b p0 / 2)) := j2
        replace j3 : gF μ1 902 (s + 12) = S 13 (eo N b p0) := j3
        replace j4 : gF μ1 903 (s + 12) = S 14 (eo N b p0) := j4
        rw [j1, j2, j3, j4]
        show ∃ y : Int32 × Int32 × zM, (if sp_better N S (eo N b i) (eo N b p0) = true then _ else _) = _ ∧ _
        by_cases c2 : sp_better N S (eo N b i) (eo N b p0) = true
        · have hs2 : sp_pick N b S (i + 1) = some i := by rw [hsucc]; unfold sp_pk1; rw [if_neg c, hp]; exact if_pos c2
          rw [if_pos c2]
          refine ⟨(nI i, gF M 402 (s + 37 + 2 * eo N b i), cpV (s + 12) (s + 11) M), rfl, h6, ?_, ?_, ?_⟩
          · rw [hs2]; rfl
          · intro x; rw [hs2] at x; cases x
          · intro p x
            rw [hs2] at x
            cases x
            refine ⟨h5.r_hage q28, ?_, ?_, ?_, ?_⟩
            · rw [g5 _ (by omega) (by omega)]; exact g0
            · rw [g5 _ (by omega) (by omega)]; exact g1
            · rw [g5 _ (by omega) (by omega)]; exact g2
            · rw [g5 _ (by omega) (by omega)]; exact g3
        · have hs2 : sp_pick N b S (i + 1) = some p0 := by rw [hsucc]; unfold sp_pk1; rw [if_neg c, hp]; exact if_neg c2
          rw [if_neg c2]
          refine ⟨(nI p0, a, M), rfl, h5, ?_, ?_, ?_⟩
          · rw [hs2]; rfl
          · intro x; rw [hs2] at x; cases x
          · intro p x
            rw [hs2] at x
            cases x
            exact ⟨j0, (g4 900).trans j1, (g4 901).trans j2, (g4 902).trans j3, (g4 903).trans j4⟩) (by
    rintro ⟨v, a, μ1⟩ ⟨h1, h2, h2b, h3⟩
    refine ⟨(v, a, nI (nP N b), μ1), ?_, rfl, h1, h2, h2b, h3⟩
    show f8_pickRoot_L1 s (s + 13 + 3 * b) v a (nI (nP N b)) μ1 = _
    replace h1 : CS N s w μ0 μ1 S := h1
    unfold f8_pickRoot_L1
    simp (disch := omega) only [h1.c_wir, h1.c_num b hb8, h1.v_p hb, obs, pk_mul, nI_add, nI_1, mulR2, mulR3, mulR4, mulR6, mulR7, mulR8, mulR10, mulR12, mulR16, mulQ2, mulQ3, mulQ4, mulQ6, mulQ7, mulQ8, mulQ10, mulQ12, mulQ16, mulQ18, mulQ48, addR2, addR3, addR4, addR5, addR6, addR7, addR8, addR9, addR10, addR16, addR20, addQ4, addQ100, addQ964, addQ978, addQ986, addQ1114, addQ1274, cltR2, cltR3, cltR4, cltR6, cltR8, cltR10, cltR13, cltR14, cltR18, cltR28, cltR40, cltR62, cltR64, cltR84, cltR96, ceqR0, ceqR1, ceqR2, ceqR3, ceqR5, ceqR6, ceqR8, ceqR14, ceqR39, ceqR40, ceqR64, ceqR13, clt_nI, ceq_nI, rI_nI, rA_nI, wA_nI, rZ_nI, wZ_nI, wF, wB, wR, zand, zor, zandn, zorn, ozb2, ozb3, ozb4, decide_true, decide_false, Nat.lt_irrefl, Bool.false_eq_true, ↓reduceIte]) (nP N b) 0 1000000 (-1, 0, μ) rfl (Nat.zero_le _) (by omega) ⟨h, rfl, fun _ => rfl, fun p hp => by cases hp⟩
  exact key
theorem C_follow (h : CS N s w μ0 μ S) (hb : b < 8) {v0 : Nat} (hv : s + 10 ≤ v0 ∧ v0 ≤ s + 12) {p a : Int32} : ∃ μ', f0_follow (s + 13 + 3 * b) p v0 a μ = some μ' ∧ CS N s w μ0 μ' (zu (zu (zu (zu (zu S 23 b (gF μ 900 v0)) 24 b (gF μ 901 v0)) 31 b (idS S b)) 26 b (a + 1)) 25 b p) := by
  unfold f0_follow
  have h1 := h.w_root hb (v := gF μ 900 v0)
  have e1 : gF (sF μ 900 (s + 13 + 3 * b + 1) (gF μ 900 v0)) 901 v0 = gF μ 901 v0 := rfl
  have h2 := h1.w_cost hb (v := gF μ 901 v0)
  simp only [wF, Option.bind_some, e1]
  rw [C_id h2 hb, Option.bind_some]
  exact ⟨_, rfl, ((h2.w_cid hb).w_bage hb).w_rport hb⟩
theorem C_rule (h : CS N s w μ0 μ S) (hb : b < 8) : ∃ μ', f0_rule (s + 13 + 3 * b) μ = some μ' ∧ CS N s w μ0 μ' (sp_lead N b none S) := by
  unfold f0_rule
  have h1 := h.w_root hb (v := idS S b)
  have h2 := h1.w_cost hb (v := 0)
  rw [C_id h hb, Option.bind_some]
  simp only [wF, Option.bind_some]
  rw [C_id h2 hb, Option.bind_some]
  exact ⟨_, rfl, ((h2.w_cid hb).w_bage hb).w_rport hb⟩
theorem C_pickRoot (h : CS N s w μ0 μ S) (hb : b < nB N) : ∃ μ', f8_pickRoot s (s + 13 + 3 * b) μ = some μ' ∧ CS N s w μ0 μ' (sp_lead N b (sp_rt N b S) S) := by
  have nw := h.nw
  have hb8 := nw.b_8 hb
  have hp6 := nw.p6 hb
  obtain ⟨⟨v, a, p, μ1⟩, e1, e2, h1, h2, h2b, h3⟩ := C_pick h hb
  replace h1 : CS N s w μ0 μ1 S := h1
  replace h2 : v = oI (sp_pick N b S (nP N b)) := h2
  unfold f8_pickRoot
  rw [e1]
  simp only [zb4_some]
  cases hp : sp_pick N b S (nP N b) with
  | none =>
    have hr : sp_rt N b S = none := by unfold sp_rt; rw [hp]
    obtain ⟨μ2, e3, h4⟩ := C_rule h1 hb8
    rw [h2, hp, hr]
    simp only [show ceq (oI none) (-1) = true from rfl, ↓reduceIte, Option.bind_some, Bool.false_eq_true]
    exact ⟨μ2, by rw [e3]; rfl, h4⟩
  | some p0 =>
    have hlt := pick_lt hp
    obtain ⟨j0, j1, j2, j3, j4⟩ := h3 p0 hp
    replace j0 : a = S 15 (eo N b p0) := j0
    replace j1 : gF μ1 900 (s + 12) = S 11 (eo N b p0) := j1
    replace j2 : gF μ1 901 (s + 12) = S 12 (eo N b p0) + nI (cst N (eo N b p0 / 2)) := j2
    rw [h2, hp]
    simp only [show oI (some p0) = nI p0 from rfl, oI_none (show p0 < 2 ^ 31 by omega), Bool.false_eq_true, ↓reduceIte, Option.bind_some, C_id h1 hb8, j1]
    by_cases c : clt (S 11 (eo N b p0)) (idS S b) = true
    · have hr : sp_rt N b S = some p0 := by unfold sp_rt; rw [hp]; exact if_pos c
      rw [hr]
      simp only [if_pos c]
      obtain ⟨μ2, e3, h4⟩ := C_follow h1 hb8 (v0 := s + 12) (by omega) (p := nI p0) (a := a)
      rw [j0, j1, j2] at h4
      rw [j0] at e3 ⊢
      exact ⟨μ2, by rw [e3]; rfl, h4⟩
    · have hr : sp_rt N b S = none := by unfold sp_rt; rw [hp]; exact if_neg c
      rw [hr]
      simp only [if_neg c]
      obtain ⟨μ2, e3, h4⟩ := C_rule h1 hb8
      exact ⟨μ2, by rw [e3]; rfl, h4⟩
end zC5
