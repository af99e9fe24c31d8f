/-! REFERENCE: forget, shut, spread, open -/
section zR1
variable {N : zN} {m B : Nat} {ν0 ν ν' : zM} {S S' : zS} {R R' : Nat → Int32} {e b l h k : Nat}
theorem adAt (b h : Nat) : f12_addressAt (nI b) (nI h) ν = some (nI (986 + 2 * (8 * b + h))) := by
  unfold f12_addressAt
  simp only [obs, pk_mul, nI_add, nI_1, mulR2, mulR3, mulR4, mulR6, mulR7, mulR8, mulR10, mulR12, mulR16, mulQ2, mulQ3, mulQ4, mulQ6, mulQ7, mulQ8, mulQ10, mulQ12, mulQ16, mulQ18, mulQ48, addR2, addR3, addR4, addR5, addR6, addR7, addR8, addR9, addR10, addR16, addR20, addQ4, addQ100, addQ964, addQ978, addQ986, addQ1114, addQ1274, cltR2, cltR3, cltR4, cltR6, cltR8, cltR10, cltR13, cltR14, cltR18, cltR28, cltR40, cltR62, cltR64, cltR84, cltR96, ceqR0, ceqR1, ceqR2, ceqR3, ceqR5, ceqR6, ceqR8, ceqR14, ceqR39, ceqR40, ceqR64, ceqR13, clt_nI, ceq_nI, rI_nI, rA_nI, wA_nI, rZ_nI, wZ_nI, wF, wB, wR, zand, zor, zandn, zorn, ozb2, ozb3, ozb4, decide_true, decide_false, Nat.lt_irrefl, Bool.false_eq_true, ↓reduceIte]
theorem MS.a_ (q : MS N m B ν0 ν S) (hb : b < nB N) (hh : h < nH N) : f12_its m (nI (986 + 2 * (8 * b + h))) ν = some (S 42 (b * 8 + h)) := by
  have := q.nw.b_8 hb; have := q.nw.h8
  rw [q.its (by omega), (q.1.2.2.2.2.2.2.1 b h hb hh).1]
theorem MS.ag_ (q : MS N m B ν0 ν S) (hb : b < nB N) (hh : h < nH N) : f12_its m (nI (986 + 2 * (8 * b + h) + 1)) ν = some (S 43 (b * 8 + h)) := by
  have := q.nw.b_8 hb; have := q.nw.h8
  rw [q.its (by omega), (q.1.2.2.2.2.2.2.1 b h hb hh).2]
theorem MS.pa (q : MS N m B ν0 ν S) (hb : b < nB N) (hh : h < nH N) {v : Int32} (ho : okA N b v) : ∃ ν', f12_puts m (nI (986 + 2 * (8 * b + h))) v ν = some ν' ∧ MS N m B ν0 ν' (zu S 42 (b * 8 + h) v) := by
  have := q.nw.b_8 hb; have := q.nw.h8
  exact ⟨_, q.puts (by omega), q.w_a hb hh ho⟩
theorem MS.pg (q : MS N m B ν0 ν S) (hb : b < nB N) (hh : h < nH N) {v : Int32} : ∃ ν', f12_puts m (nI (986 + 2 * (8 * b + h) + 1)) v ν = some ν' ∧ MS N m B ν0 ν' (zu S 43 (b * 8 + h) v) := by
  have := q.nw.b_8 hb; have := q.nw.h8
  exact ⟨_, q.puts (by omega), q.w_g hb hh⟩
/-- rounds of a fold that do nothing -/
theorem pf_ext {σ : Type} {g : Nat → σ → σ} {n n' : Nat} {x : σ} (hn : n ≤ n') (h : ∀ i, n ≤ i → i < n' → g i (pfold g n x) = pfold g n x) : pfold g n' x = pfold g n x := by
  obtain ⟨d, rfl⟩ : ∃ d, n' = n + d := ⟨n' - n, by omega⟩
  clear hn
  induction d with
  | zero => rfl
  | succ d ih =>
    show g (n + d) (pfold g (n + d) x) = _
    rw [ih (fun i h1 h2 => h i h1 (by omega))]
    exact h (n + d) (by omega) (by omega)
theorem R_forget (q : MS N m B ν0 ν S) (he : e < 2 * nL N) : ∃ ν', f12_forgetsAt m (nI (pl N e)) ν = some ν' ∧ MS N m B ν0 ν' (sp_forget N e S) := by
  have nw := q.nw
  have hp := nw.pl_48 he
  have hb := nw.bo_b he
  have hb8 := nw.bo_8 he
  have h8 := nw.h8
  obtain ⟨ν1, e1, q1⟩ := lp (Q := MS N m B ν0) (body := fun s => f12_forgetsAt_L1 m (nI (pl N e)) (nI (bo N e)) s.1 s.2) nI (fun h S => if ceq (S 42 (bo N e * 8 + h)) (nI (po N e)) = true then zu S 42 (bo N e * 8 + h) (-1) else S) (nH N) (S := S) (μ := ν) (by
    intro i ν1 hi q1
    generalize pfold (fun h S => if ceq (S 42 (bo N e * 8 + h)) (nI (po N e)) = true then zu S 42 (bo N e * 8 + h) (-1) else S) i S = S1 at *
    show ∃ ν', f12_forgetsAt_L1 m (nI (pl N e)) (nI (bo N e)) (nI i) ν1 = _ ∧ MS N m B ν0 ν' (if ceq (S1 42 (bo N e * 8 + i)) (nI (po N e)) = true then zu S1 42 (bo N e * 8 + i) (-1) else S1)
    unfold f12_forgetsAt_L1
    simp (disch := omega) only [q1.g_h, obs, pk_mul, nI_add, nI_1, mulR2, mulR3, mulR4, mulR6, mulR7, mulR8, mulR10, mulR12, mulR16, mulQ2, mulQ3, mulQ4, mulQ6, mulQ7, mulQ8, mulQ10, mulQ12, mulQ16, mulQ18, mulQ48, addR2, addR3, addR4, addR5, addR6, addR7, addR8, addR9, addR10, addR16, addR20, addQ4, addQ100, addQ964, addQ978, addQ986, addQ1114, addQ1274, cltR2, cltR3, cltR4, cltR6, cltR8, cltR10, cltR13, cltR14, cltR18, cltR28, cltR40, cltR62, cltR64, cltR84, cltR96, ceqR0, ceqR1, ceqR2, ceqR3, ceqR5, ceqR6, ceqR8, ceqR14, ceqR39, ceqR40, ceqR64, ceqR13, clt_nI, ceq_nI, rI_nI, rA_nI, wA_nI, rZ_nI, wZ_nI, wF, wB, wR, zand, zor, zandn, zorn, ozb2, ozb3, ozb4, decide_true, decide_false, Nat.lt_irrefl, Bool.false_eq_true, ↓reduceIte, adAt, q1.a_ hb hi, iRemR6, nw.pl_m he, hi]
    by_cases c : ceq (S1 42 (bo N e * 8 + i)) (nI (po N e)) = true
    · simp only [if_pos c]
      obtain ⟨ν2, e2, q2⟩ := q1.pa hb hi (v := -1) (Or.inl rfl)
      exact ⟨ν2, by rw [e2]; rfl, q2⟩
    · simp only [if_neg c]
      exact ⟨_, rfl, q1⟩) (by
    intro ν1 q1
    show f12_forgetsAt_L1 m (nI (pl N e)) (nI (bo N e)) (nI (nH N)) ν1 = _
    unfold f12_forgetsAt_L1
    simp (disch := omega) only [q1.g_h, obs, pk_mul, nI_add, nI_1, mulR2, mulR3, mulR4, mulR6, mulR7, mulR8, mulR10, mulR12, mulR16, mulQ2, mulQ3, mulQ4, mulQ6, mulQ7, mulQ8, mulQ10, mulQ12, mulQ16, mulQ18, mulQ48, addR2, addR3, addR4, addR5, addR6, addR7, addR8, addR9, addR10, addR16, addR20, addQ4, addQ100, addQ964, addQ978, addQ986, addQ1114, addQ1274, cltR2, cltR3, cltR4, cltR6, cltR8, cltR10, cltR13, cltR14, cltR18, cltR28, cltR40, cltR62, cltR64, cltR84, cltR96, ceqR0, ceqR1, ceqR2, ceqR3, ceqR5, ceqR6, ceqR8, ceqR14, ceqR39, ceqR40, ceqR64, ceqR13, clt_nI, ceq_nI, rI_nI, rA_nI, wA_nI, rZ_nI, wZ_nI, wF, wB, wR, zand, zor, zandn, zorn, ozb2, ozb3, ozb4, decide_true, decide_false, Nat.lt_irrefl, Bool.false_eq_true, ↓reduceIte]) (by omega) q
  unfold f12_forgetsAt
  simp (disch := omega) only [iDivR6, nw.pl_d he, obs, pk_mul, nI_add, nI_1, mulR2, mulR3, mulR4, mulR6, mulR7, mulR8, mulR10, mulR12, mulR16, mulQ2, mulQ3, mulQ4, mulQ6, mulQ7, mulQ8, mulQ10, mulQ12, mulQ16, mulQ18, mulQ48, addR2, addR3, addR4, addR5, addR6, addR7, addR8, addR9, addR10, addR16, addR20, addQ4, addQ100, addQ964, addQ978, addQ986, addQ1114, addQ1274, cltR2, cltR3, cltR4, cltR6, cltR8, cltR10, cltR13, cltR14, cltR18, cltR28, cltR40, cltR62, cltR64, cltR84, cltR96, ceqR0, ceqR1, ceqR2, ceqR3, ceqR5, ceqR6, ceqR8, ceqR14, ceqR39, ceqR40, ceqR64, ceqR13, clt_nI, ceq_nI, rI_nI, rA_nI, wA_nI, rZ_nI, wZ_nI, wF, wB, wR, zand, zor, zandn, zorn, ozb2, ozb3, ozb4, decide_true, decide_false, Nat.lt_irrefl, Bool.false_eq_true, ↓reduceIte]
  refine ⟨ν1, zb_lp e1, ?_⟩
  unfold sp_forget
  rw [pf_ext h8 (fun i h1 h2 => ?_)]
  · exact q1
  · have hx := q1.1.2.2.2.2.2.2.2.1 (bo N e) i hb h1 h2
    rw [if_neg]
    intro x
    rw [hx] at x
    have := oI_none (p := po N e) (by have := nw.po_6 he; omega)
    have x2 := ceq_of x
    rw [← x2] at this
    exact absurd this (by decide)
theorem R_shut (q : MS N m B ν0 ν S) (he : e < 2 * nL N) : ∃ ν', f12_shuts m (nI (pl N e)) ν = some ν' ∧ MS N m B ν0 ν' (sp_shut N e S) := by
  unfold f12_shuts sp_shut
  rw [q.p1 he, Option.bind_some]
  by_cases c : ceq (S 1 e) 0 = true
  · simp only [if_pos c]
    exact ⟨_, rfl, q⟩
  · simp only [if_neg c]
    obtain ⟨ν1, e1, q1⟩ := R_enter q he (v := 0)
    obtain ⟨ν2, e2, q2⟩ := R_forget q1 he
    exact ⟨ν2, by rw [e1, Option.bind_some, e2]; rfl, q2⟩
theorem plE (nw : NW N) {p : Nat} (hb : b < nB N) (hp : p < nP N b) : nI (6 * b + p) = nI (pl N (eo N b p)) := by rw [nw.pl_eo hb hp]
theorem iMin_l (y : Int32) : f12_least 9999 y ν = some (iMin 9999 y) := by
  unfold f12_least iMin clt
  by_cases h : (9999 : Int32) < y
  · have h2 : ¬ y < 9999 := by
      rw [Int32.lt_iff_toInt_lt] at h ⊢; omega
    simp [h, h2]
  · by_cases h2 : y < 9999
    · simp [h, h2]
    · have : y = 9999 := by
        rw [Int32.lt_iff_toInt_lt] at h h2
        exact Int32.toInt_inj.mp (by omega)
      simp [this]
theorem R_spr1 (q : MS N m B ν0 ν S) (he : e < 2 * nL N) : ∃ ν', zloop (fun s => f12_spreads_L1 m (nI (pl N e)) (nI (bo N e)) s.1 s.2) 1000000 (nI (6 * bo N e + 0), ν) = some (nI (6 * bo N e + nP N (bo N e)), ν') ∧ MS N m B ν0 ν' (pfold (sp_spr1 N e (bo N e)) (nP N (bo N e)) S) := by
  have nw := q.nw
  have hp := nw.pl_48 he
  have hb := nw.bo_b he
  have hb8 := nw.bo_8 he
  have hp6 := nw.p6 hb
  refine lp (Q := MS N m B ν0) (fun i => nI (6 * bo N e + i)) (sp_spr1 N e (bo N e)) (nP N (bo N e)) ?_ ?_ (by omega) q
  · intro i ν1 hi q1
    generalize pfold (sp_spr1 N e (bo N e)) i S = S1 at *
    have ql := nw.eo_l hb hi
    have qp := nw.pl_48 ql
    show ∃ ν', f12_spreads_L1 m (nI (pl N e)) (nI (bo N e)) (nI (6 * bo N e + i)) ν1 = some (.inl (nI (6 * bo N e + (i + 1)), ν')) ∧ _
    have hlt : 6 * bo N e + i < 6 * bo N e + nP N (bo N e) := by omega
    unfold f12_spreads_L1
    simp (disch := omega) only [q1.g_p hb, obs, pk_mul, nI_add, nI_1, mulR2, mulR3, mulR4, mulR6, mulR7, mulR8, mulR10, mulR12, mulR16, mulQ2, mulQ3, mulQ4, mulQ6, mulQ7, mulQ8, mulQ10, mulQ12, mulQ16, mulQ18, mulQ48, addR2, addR3, addR4, addR5, addR6, addR7, addR8, addR9, addR10, addR16, addR20, addQ4, addQ100, addQ964, addQ978, addQ986, addQ1114, addQ1274, cltR2, cltR3, cltR4, cltR6, cltR8, cltR10, cltR13, cltR14, cltR18, cltR28, cltR40, cltR62, cltR64, cltR84, cltR96, ceqR0, ceqR1, ceqR2, ceqR3, ceqR5, ceqR6, ceqR8, ceqR14, ceqR39, ceqR40, ceqR64, ceqR13, clt_nI, ceq_nI, rI_nI, rA_nI, wA_nI, rZ_nI, wZ_nI, wF, wB, wR, zand, zor, zandn, zorn, ozb2, ozb3, ozb4, decide_true, decide_false, Nat.lt_irrefl, Bool.false_eq_true, ↓reduceIte, pl_add, hlt]
    rw [plE nw hb hi]
    have e1 : decide (6 * bo N e + i = pl N e) = decide (eo N (bo N e) i = e) := decide_eq_decide.mpr ⟨fun x => nw.pl_i ql he ((nw.pl_eo hb hi).trans x), fun x => by rw [← nw.pl_eo hb hi, x]⟩
    simp (disch := omega) only [q1.p0 ql, q1.p5 ql, q1.p3 ql, obs, pk_mul, nI_add, nI_1, mulR2, mulR3, mulR4, mulR6, mulR7, mulR8, mulR10, mulR12, mulR16, mulQ2, mulQ3, mulQ4, mulQ6, mulQ7, mulQ8, mulQ10, mulQ12, mulQ16, mulQ18, mulQ48, addR2, addR3, addR4, addR5, addR6, addR7, addR8, addR9, addR10, addR16, addR20, addQ4, addQ100, addQ964, addQ978, addQ986, addQ1114, addQ1274, cltR2, cltR3, cltR4, cltR6, cltR8, cltR10, cltR13, cltR14, cltR18, cltR28, cltR40, cltR62, cltR64, cltR84, cltR96, ceqR0, ceqR1, ceqR2, ceqR3, ceqR5, ceqR6, ceqR8, ceqR14, ceqR39, ceqR40, ceqR64, ceqR13, clt_nI, ceq_nI, rI_nI, rA_nI, wA_nI, rZ_nI, wZ_nI, wF, wB, wR, zand, zor, zandn, zorn, ozb2, ozb3, ozb4, decide_true, decide_false, Nat.lt_irrefl, Bool.false_eq_true, ↓reduceIte, e1]
    unfold sp_spr1
    have eb : ∀ d r1 r2 ed c0 : Bool, (((d || (!r1 && !r2)) || ed) || !c0) = !(((!d && (r1 || r2)) && !ed) && c0) := by decide
    rw [eb]
    by_cases c : (((!(decide (eo N (bo N e) i = e)) && (ceq (S1 0 (eo N (bo N e) i)) 1 || ceq (S1 0 (eo N (bo N e) i)) 2)) && !(ceq (S1 5 (eo N (bo N e) i)) 1)) && ceq (S1 3 (eo N (bo N e) i)) 0) = true
    · rw [if_pos c, c, if_neg (by decide)]
      obtain ⟨ν2, e2, q2⟩ := q1.s3 ql (v := 2)
      obtain ⟨ν3, e3, q3⟩ := q2.s9 ql (v := 1) (Or.inr rfl)
      refine ⟨ν3, ?_, q3⟩
      rw [e2, obs, e3, obs]; rfl
    · rw [if_neg c, Bool.eq_false_iff.mpr c, if_pos (by rfl)]
      exact ⟨_, rfl, q1⟩
  · intro ν1 q1
    show f12_spreads_L1 m (nI (pl N e)) (nI (bo N e)) (nI (6 * bo N e + nP N (bo N e))) ν1 = _
    unfold f12_spreads_L1
    simp (disch := omega) only [q1.g_p hb, obs, pk_mul, nI_add, nI_1, mulR2, mulR3, mulR4, mulR6, mulR7, mulR8, mulR10, mulR12, mulR16, mulQ2, mulQ3, mulQ4, mulQ6, mulQ7, mulQ8, mulQ10, mulQ12, mulQ16, mulQ18, mulQ48, addR2, addR3, addR4, addR5, addR6, addR7, addR8, addR9, addR10, addR16, addR20, addQ4, addQ100, addQ964, addQ978, addQ986, addQ1114, addQ1274, cltR2, cltR3, cltR4, cltR6, cltR8, cltR10, cltR13, cltR14, cltR18, cltR28, cltR40, cltR62, cltR64, cltR84, cltR96, ceqR0, ceqR1, ceqR2, ceqR3, ceqR5, ceqR6, ceqR8, ceqR14, ceqR39, ceqR40, ceqR64, ceqR13, clt_nI, ceq_nI, rI_nI, rA_nI, wA_nI, rZ_nI, wZ_nI, wF, wB, wR, zand, zor, zandn, zorn, ozb2, ozb3, ozb4, decide_true, decide_false, Nat.lt_irrefl, Bool.false_eq_true, ↓reduceIte, pl_add]
theorem R_spr2 (q : MS N m B ν0 ν S) (he : e < 2 * nL N) : ∃ ν', zloop (fun s => f12_spreads_L2 m (nI (pl N e)) (nI (bo N e)) s.1 s.2) 1000000 (0, ν) = some (nI (nH N), ν') ∧ MS N m B ν0 ν' (pfold (sp_spr2 N e (bo N e)) (nH N) S) := by
  have nw := q.nw
  have hp := nw.pl_48 he
  have hb := nw.bo_b he
  have hb8 := nw.bo_8 he
  have h8 := nw.h8
  refine lp (Q := MS N m B ν0) nI (sp_spr2 N e (bo N e)) (nH N) ?_ ?_ (by omega) q
  · intro i ν1 hi q1
    have ok := q1.2.1.1 (bo N e) i hb (by omega)
    generalize pfold (sp_spr2 N e (bo N e)) i S = S1 at *
    show ∃ ν', f12_spreads_L2 m (nI (pl N e)) (nI (bo N e)) (nI i) ν1 = some (.inl (nI (i + 1), ν')) ∧ _
    unfold f12_spreads_L2 sp_spr2
    simp (disch := omega) only [q1.g_h, obs, pk_mul, nI_add, nI_1, mulR2, mulR3, mulR4, mulR6, mulR7, mulR8, mulR10, mulR12, mulR16, mulQ2, mulQ3, mulQ4, mulQ6, mulQ7, mulQ8, mulQ10, mulQ12, mulQ16, mulQ18, mulQ48, addR2, addR3, addR4, addR5, addR6, addR7, addR8, addR9, addR10, addR16, addR20, addQ4, addQ100, addQ964, addQ978, addQ986, addQ1114, addQ1274, cltR2, cltR3, cltR4, cltR6, cltR8, cltR10, cltR13, cltR14, cltR18, cltR28, cltR40, cltR62, cltR64, cltR84, cltR96, ceqR0, ceqR1, ceqR2, ceqR3, ceqR5, ceqR6, ceqR8, ceqR14, ceqR39, ceqR40, ceqR64, ceqR13, clt_nI, ceq_nI, rI_nI, rA_nI, wA_nI, rZ_nI, wZ_nI, wF, wB, wR, zand, zor, zandn, zorn, ozb2, ozb3, ozb4, decide_true, decide_false, Nat.lt_irrefl, Bool.false_eq_true, ↓reduceIte, adAt, q1.a_ hb hi, iRemR6, nw.pl_m he, hi]
    by_cases c : ((ceq (S1 42 (bo N e * 8 + i)) (-1) || ceq (S1 42 (bo N e * 8 + i)) 6) || ceq (S1 42 (bo N e * 8 + i)) (nI (po N e))) = true
    · simp only [if_pos c, obs, ↓reduceIte]
      exact ⟨_, rfl, q1⟩
    · simp only [if_neg c]
      rcases ok with ok | ok | ⟨p, hp1, ok⟩
      · exact absurd (by rw [ok]; rfl) c
      · exact absurd (by rw [ok]; rfl) c
      · have hp6 := nw.p6 hb
        have ql := nw.eo_l hb hp1
        rw [ok, nI_clamp (by omega), pl_add, plE nw hb hp1]
        simp (disch := omega) only [q1.p5 ql, obs, pk_mul, nI_add, nI_1, mulR2, mulR3, mulR4, mulR6, mulR7, mulR8, mulR10, mulR12, mulR16, mulQ2, mulQ3, mulQ4, mulQ6, mulQ7, mulQ8, mulQ10, mulQ12, mulQ16, mulQ18, mulQ48, addR2, addR3, addR4, addR5, addR6, addR7, addR8, addR9, addR10, addR16, addR20, addQ4, addQ100, addQ964, addQ978, addQ986, addQ1114, addQ1274, cltR2, cltR3, cltR4, cltR6, cltR8, cltR10, cltR13, cltR14, cltR18, cltR28, cltR40, cltR62, cltR64, cltR84, cltR96, ceqR0, ceqR1, ceqR2, ceqR3, ceqR5, ceqR6, ceqR8, ceqR14, ceqR39, ceqR40, ceqR64, ceqR13, clt_nI, ceq_nI, rI_nI, rA_nI, wA_nI, rZ_nI, wZ_nI, wF, wB, wR, zand, zor, zandn, zorn, ozb2, ozb3, ozb4, decide_true, decide_false, Nat.lt_irrefl, Bool.false_eq_true, ↓reduceIte]
        by_cases c2 : ceq (S1 5 (eo N (bo N e) p)) 1 = true
        · simp only [if_pos c2]
          exact ⟨_, rfl, q1⟩
        · simp only [if_neg c2]
          obtain ⟨ν2, e2, q2⟩ := q1.pa hb hi (v := -1) (Or.inl rfl)
          have e3 : f12_its m 1 ν2 = some (S1 44 1) := (q2.its (k := 1) (by omega)).trans (congrArg some q2.1.2.2.2.2.2.2.2.2.1.2)
          have e4 : f12_puts m 1 (iMin 9999 (S1 44 1 + 1)) ν2 = some (sA ν2 (m + 24) (B + 1) (iMin 9999 (S1 44 1 + 1))) := q2.puts (k := 1) (by omega)
          simp only [e2, obs, e3, iMin_l, e4]
          exact ⟨_, rfl, q2.w_f⟩
  · intro ν1 q1
    show f12_spreads_L2 m (nI (pl N e)) (nI (bo N e)) (nI (nH N)) ν1 = _
    unfold f12_spreads_L2
    simp (disch := omega) only [q1.g_h, obs, pk_mul, nI_add, nI_1, mulR2, mulR3, mulR4, mulR6, mulR7, mulR8, mulR10, mulR12, mulR16, mulQ2, mulQ3, mulQ4, mulQ6, mulQ7, mulQ8, mulQ10, mulQ12, mulQ16, mulQ18, mulQ48, addR2, addR3, addR4, addR5, addR6, addR7, addR8, addR9, addR10, addR16, addR20, addQ4, addQ100, addQ964, addQ978, addQ986, addQ1114, addQ1274, cltR2, cltR3, cltR4, cltR6, cltR8, cltR10, cltR13, cltR14, cltR18, cltR28, cltR40, cltR62, cltR64, cltR84, cltR96, ceqR0, ceqR1, ceqR2, ceqR3, ceqR5, ceqR6, ceqR8, ceqR14, ceqR39, ceqR40, ceqR64, ceqR13, clt_nI, ceq_nI, rI_nI, rA_nI, wA_nI, rZ_nI, wZ_nI, wF, wB, wR, zand, zor, zandn, zorn, ozb2, ozb3, ozb4, decide_true, decide_false, Nat.lt_irrefl, Bool.false_eq_true, ↓reduceIte]
theorem R_spread (q : MS N m B ν0 ν S) (he : e < 2 * nL N) : ∃ ν', f12_spreads m (nI (pl N e)) ν = some ν' ∧ MS N m B ν0 ν' (sp_spread N e S) := by
  have nw := q.nw
  have hp := nw.pl_48 he
  have hb := nw.bo_b he
  have hb8 := nw.bo_8 he
  obtain ⟨ν1, e1, q1⟩ := R_spr1 q he
  unfold f12_spreads sp_spread
  have e0 : f12_placeOf (nI (bo N e)) 0 ν = some (nI (6 * bo N e + 0)) := pl_add (bo N e) 0
  simp (disch := omega) only [iDivR6, nw.pl_d he, obs, e0]
  rw [zb_lp e1]
  simp only [q1.b2 hb, obs]
  generalize pfold (sp_spr1 N e (bo N e)) (nP N (bo N e)) S = S1 at *
  by_cases c : ceq (S1 22 (bo N e)) 1 = true
  · simp only [if_pos c]
    have e2 : f12_bridgeAt (nI (bo N e)) 7 ν1 = some (nI (4 + 12 * bo N e + 7)) := bAt (bo N e) 7
    simp only [e2, obs, q1.g_ag, q1.g_dl, nI_add]
    rw [q1.puts (by omega), obs]
    exact ⟨_, rfl, q1.w_b (k := 7) hb (by omega) (by omega) (fun x => by omega)⟩
  · simp only [if_neg c]
    obtain ⟨ν2, e2, q2⟩ := R_spr2 q1 he
    exact ⟨ν2, zb_lp e2, q2⟩
theorem R_open (q : MS N m B ν0 ν S) (he : e < 2 * nL N) : ∃ ν', f12_opens m (nI (pl N e)) ν = some ν' ∧ MS N m B ν0 ν' (sp_open N e S) := by
  unfold f12_opens sp_open
  rw [q.p1 he, obs]
  by_cases c : ceq (S 1 e) 2 = true
  · simp only [if_pos c]
    exact ⟨_, rfl, q⟩
  · simp only [if_neg c]
    obtain ⟨ν1, e1, q1⟩ := R_enter q he (v := 2)
    obtain ⟨ν2, e2, q2⟩ := q1.s2 he (v := 0)
    rw [e1, obs, e2, obs, q2.p5 he, obs]
    by_cases c2 : ceq (zu (sp_enter N e 2 S) 2 e 0 5 e) 1 = true
    · simp only [if_pos c2]
      exact ⟨_, rfl, q2⟩
    · simp only [if_neg c2]
      obtain ⟨ν3, e3, q3⟩ := q2.s3 he (v := 2)
      obtain ⟨ν4, e4, q4⟩ := q3.s9 he (v := 1) (Or.inr rfl)
      obtain ⟨ν5, e5, q5⟩ := R_spread q4 he
      exact ⟨ν5, by rw [e3, obs, e4, obs, e5]; rfl, q5⟩
end zR1
