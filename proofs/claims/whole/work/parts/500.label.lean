/-! LABELS: what the open links join -/
def opn (S : zS) (l : Nat) : Bool := ceq (S 1 (2 * l)) 2 && ceq (S 1 (2 * l + 1)) 2
def lbm (x y : Nat) (L : Nat → Nat) : Nat → Nat := fun b => if L b = y then x else L b
def lbl (N : zN) (S : zS) (v : Int32) (l : Nat) (L : Nat → Nat) : Nat → Nat := if (ceq (nI l) v || !(opn S l)) = true then L else lbm (L (bo N (2 * l))) (L (bo N (2 * l + 1))) L
def lab (N : zN) (S : zS) (v : Int32) : Nat → Nat := pfold (lbl N S v) (nL N) (fun b => b)
/-- links that join what is joined -/
def mor (N : zN) (S : zS) (v : Int32) (l : Nat) (x : Nat × (Nat → Nat)) : Nat × (Nat → Nat) := (if (ceq (nI l) v || !(opn S l)) = true then x.1 else if x.2 (bo N (2 * l)) = x.2 (bo N (2 * l + 1)) then x.1 + 1 else x.1, lbl N S v l x.2)
def gl1 (A : Nat) (v : Int32) (μ : zM) : Option ((Int32 × zM) ⊕ ((Int32 × zM))) :=
  if (clt v 8) = true then ((wA μ A 8 v v).bind fun μ5 => (some (v + 1)).bind fun v_b_6 => some (.inl (v_b_6, μ5))) else (some (.inr (v, μ)))
def gl3 (A : Nat) (t16 t19 : Int32) (v : Int32) (μ : zM) : Option ((Int32 × zM) ⊕ ((Int32 × zM))) :=
  if (clt v 8) = true then (((rA μ A 8 v).bind fun t25 => if (ceq t25 t19) = true then (some t16) else ((rA μ A 8 v).bind fun t26 => some t26)).bind fun x24 => (wA μ A 8 v x24).bind fun μ27 => (some (v + 1)).bind fun v_b_28 => some (.inl (v_b_28, μ27))) else (some (.inr (v, μ)))
theorem gl1_C (o : Nat) : f6_labelJoined_L1 o = gl1 (o + 1) := rfl
theorem gl1_R (m : Nat) : f12_laysOpenParts_L1 m = gl1 (m + 29) := rfl
theorem gl3_C (o : Nat) : f6_labelJoined_L3 o = gl3 (o + 1) := rfl
theorem gl3_R (m : Nat) : f12_laysOpenParts_L3 m = gl3 (m + 29) := rfl
/-- a property that writes into the row `A` keep, and the row's numbers -/
def LQ (K : zM → Prop) (A : Nat) (μ : zM) (L : Nat → Nat) : Prop := K μ ∧ ∀ b, b < 8 → gA μ A b = nI (L b)
section zE2
variable {N : zN} {s w o m B n A : Nat} {μ0 μ μ' ν0 ν ν' : zM} {S S' : zS} {a b c d e f i j k l r p x y : Nat} {L : Nat → Nat} {v : Int32} {K : zM → Prop}
theorem LQ.l1 (hK : ∀ μ j v, K μ → K (sA μ A j v)) (h : K μ) : ∃ μ', zloop (fun q => gl1 A q.1 q.2) 1000000 (0, μ) = some (nI 8, μ') ∧ LQ K A μ' (fun b => b) := by
  obtain ⟨μ', e, h1⟩ := lp (Q := fun μ n => K μ ∧ ∀ b, b < n → gA μ A b = nI b) (body := fun q => gl1 A q.1 q.2) nI (fun i (_ : Nat) => i + 1) 8 (S := 0) (μ := μ) (x0 := 0) (by
    intro i μ1 hi q1
    rw [pf_n] at q1
    show ∃ μ', gl1 A (nI i) μ1 = some (.inl (nI (i + 1), μ')) ∧ K μ' ∧ ∀ b, b < i + 1 → gA μ' A b = nI b
    unfold gl1
    rw [cltR8 (by omega), decide_eq_true hi, if_pos rfl, wA_nI (by omega) (by omega), obs, obs, nI_1]
    refine ⟨_, rfl, hK _ _ _ q1.1, fun b hb => ?_⟩
    rw [gA_sA]
    by_cases c : b = i
    · rw [if_pos ⟨rfl, c⟩, c]
    · rw [if_neg (fun x => c x.2)]; exact q1.2 b (by omega)) (by
    intro μ1 q1
    rfl) (by omega) ⟨h, fun b hb => absurd hb (by omega)⟩
  rw [pf_n] at h1
  exact ⟨μ', e, h1⟩
theorem LQ.l3 (hK : ∀ μ j v, K μ → K (sA μ A j v)) (h : LQ K A μ L) (hL : ∀ b, b < 8 → L b < 8) (hy : y < 8) : ∃ μ', zloop (fun q => gl3 A (nI x) (nI y) q.1 q.2) 1000000 (0, μ) = some (nI 8, μ') ∧ LQ K A μ' (lbm x y L) := by
  obtain ⟨μ', e, h1⟩ := lp (Q := fun μ n => K μ ∧ ∀ b, b < 8 → gA μ A b = nI (if b < n then lbm x y L b else L b)) (body := fun q => gl3 A (nI x) (nI y) q.1 q.2) nI (fun i (_ : Nat) => i + 1) 8 (S := 0) (μ := μ) (x0 := 0) (by
    intro i μ1 hi q1
    rw [pf_n] at q1
    show ∃ μ', gl3 A (nI x) (nI y) (nI i) μ1 = some (.inl (nI (i + 1), μ')) ∧ K μ' ∧ ∀ b, b < 8 → gA μ' A b = nI (if b < i + 1 then lbm x y L b else L b)
    have e1 : gA μ1 A i = nI (L i) := by rw [q1.2 i hi, if_neg (by omega)]
    have l8 := hL i hi
    have e2 : ((if ceq (nI (L i)) (nI y) = true then (some (nI x)) else some (nI (L i))) : Option Int32) = some (nI (lbm x y L i)) := by
      rw [ceq_nI (by omega) (by omega)]
      unfold lbm
      by_cases c : L i = y
      · rw [decide_eq_true c, if_pos rfl, if_pos c]
      · rw [decide_eq_false c, if_neg (by decide), if_neg c]
    unfold gl3
    rw [cltR8 (by omega), decide_eq_true hi, if_pos rfl, rA_nI hi (by omega), obs, obs, e1, e2, obs, wA_nI (by omega) (by omega), obs, obs, nI_1]
    refine ⟨_, rfl, hK _ _ _ q1.1, fun b hb => ?_⟩
    rw [gA_sA]
    by_cases c : b = i
    · rw [if_pos ⟨rfl, c⟩, if_pos (by omega), c]
    · rw [if_neg (fun x => c x.2), q1.2 b hb]
      by_cases c2 : b < i
      · rw [if_pos c2, if_pos (by omega)]
      · rw [if_neg c2, if_neg (by omega)]) (by
    intro μ1 q1
    rfl) (by omega) ⟨h.1, fun b hb => by rw [if_neg (by omega)]; exact h.2 b hb⟩
  rw [pf_n] at h1
  refine ⟨μ', e, h1.1, fun b hb => ?_⟩
  rw [h1.2 b hb, if_pos hb]
theorem lbl_8 (nw : NW N) (hl : l < nL N) (hL : ∀ b, b < 8 → L b < 8) : ∀ b, b < 8 → lbl N S v l L b < 8 := fun b hb => by
  have x1 := nw.bo_8 (show 2 * l < 2 * nL N by omega)
  unfold lbl
  by_cases c : (ceq (nI l) v || !(opn S l)) = true
  · rw [if_pos c]; exact hL b hb
  · rw [if_neg c]
    unfold lbm
    split
    · exact hL _ x1
    · exact hL b hb
theorem lab_8 (nw : NW N) : ∀ n, n ≤ nL N → ∀ b, b < 8 → pfold (lbl N S v) n (fun b => b) b < 8
  | 0, _, b, hb => hb
  | n + 1, hn, b, hb => lbl_8 nw (by omega) (lab_8 nw n (by omega)) b hb
theorem C_opn (h : CS N s w μ0 μ S) (hl : l < nL N) : f8_isOpen s (nI l) μ = some (opn S l) := by
  have l14 := h.nw.l14
  unfold f8_isOpen opn
  rw [mulQ2, rI_nI (by omega) (by omega), obs, nI_1, rI_nI (by omega) (by omega), obs, obs, h.c_state _ (by omega), h.c_state _ (by omega)]
  cases ceq (S 1 (2 * l)) 2 <;> rfl
theorem C_lab (h : CS N s w μ μ S) (ho : Out o 3 s w) : ∃ μ', f6_labelJoined o s v μ = some μ' ∧ LQ (fun μ' => CS N s w μ' μ' S ∧ FrD o 3 μ μ') (o + 1) μ' (lab N S v) := by
  have nw := h.nw
  have l14 := nw.l14
  have hK : ∀ μ1 j v, (CS N s w μ1 μ1 S ∧ FrD o 3 μ μ1) → (CS N s w (sA μ1 (o + 1) j v) (sA μ1 (o + 1) j v) S ∧ FrD o 3 μ (sA μ1 (o + 1) j v)) := fun μ1 j v q => ⟨q.1.fd ho (FrD.rf.wA (by omega) (by omega)), q.2.wA (by omega) (by omega)⟩
  obtain ⟨μ1, e1, q1⟩ := LQ.l1 (A := o + 1) hK (μ := μ) ⟨h, FrD.rf⟩
  obtain ⟨μ2, e2, q2⟩ := lp (Q := LQ (fun μ' => CS N s w μ' μ' S ∧ FrD o 3 μ μ') (o + 1)) (body := fun q => f6_labelJoined_L2 o s v q.1 q.2) nI (lbl N S v) (nL N) (S := fun b => b) (μ := μ1) (x0 := 0) (by
    intro i μ1 hi q1
    have l8 := lab_8 (S := S) (v := v) nw i (by omega)
    generalize pfold (lbl N S v) i (fun b => b) = L at *
    show ∃ μ', f6_labelJoined_L2 o s v (nI i) μ1 = some (.inl (nI (i + 1), μ')) ∧ _
    have x1 := nw.bo_8 (show 2 * i < 2 * nL N by omega)
    have x2 := nw.bo_8 (show 2 * i + 1 < 2 * nL N by omega)
    have cc : ((if (ceq (nI i) v) = true then (some true) else ((some (opn S i)).bind fun t30 => some (!t30))) : Option Bool) = some (ceq (nI i) v || !(opn S i)) := by cases ceq (nI i) v <;> rfl
    unfold f6_labelJoined_L2 lbl
    rw [q1.1.1.c_wir, obs, q1.1.1.w_l, clt_nI (by omega) (by omega), decide_eq_true hi, if_pos rfl, C_opn q1.1.1 hi, cc, obs]
    by_cases c : (ceq (nI i) v || !(opn S i)) = true
    · rw [if_pos c, if_pos c, obs, nI_1]
      exact ⟨μ1, rfl, q1⟩
    · rw [if_neg c, if_neg c]
      obtain ⟨μ3, e3, q3⟩ := LQ.l3 (x := L (bo N (2 * i))) (y := L (bo N (2 * i + 1))) hK q1 l8 (l8 _ x2)
      rw [obs, mulQ2, q1.1.1.w_bo (by omega), obs, rA_nI x1 (by omega), obs, obs, nI_1, q1.1.1.w_bo (by omega), obs, rA_nI x2 (by omega), obs, q1.2 _ x1, q1.2 _ x2, gl3_C, e3, ozb2, nI_1, obs]
      exact ⟨μ3, rfl, q3⟩) (by
    intro μ1 q1
    show f6_labelJoined_L2 o s v (nI (nL N)) μ1 = _
    unfold f6_labelJoined_L2
    rw [q1.1.1.c_wir, obs, q1.1.1.w_l, clt_nI (by omega) (by omega), decide_eq_false (by omega), if_neg (by decide)]) (by omega) q1
  refine ⟨μ2, ?_, q2⟩
  unfold f6_labelJoined
  rw [gl1_C, e1, ozb2, e2, ozb2]
end zE2
