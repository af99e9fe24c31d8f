/-! CLASS: root ports and roles that are due -/
section zD5
variable {N : zN} {s w o n : Nat} {μ0 μ μ' : zM} {S T T' : zS} {a b c d e f i j k r p : Nat} {v : Int32} {W : Nat → Nat}
theorem zu_zu {x y : Int32} : zu (zu T d i x) d i y = zu T d i y := by
  funext f j
  show (if f = d ∧ j = i then y else if f = d ∧ j = i then x else T f j) = (if f = d ∧ j = i then y else T f j)
  by_cases c : f = d ∧ j = i
  · rw [if_pos c, if_pos c]
  · rw [if_neg c, if_neg c, if_neg c]
theorem C_tell (q : DF N s w o S μ0 μ W T) (ho : Out o 8 s w) (he : e < 2 * nL N) (ha : a = o + 6 ∨ a = o + 7) : ∃ μ', f1_tellVector o s (nI e) a μ = some μ' ∧ DF N s w o S μ0 μ' W T ∧ VV μ' a (T 2 (bo N e)) (T 3 (bo N e)) (idS S (bo N e)) (nI (po N e)) ∧ ∀ k a', a' ≠ a → gF μ' k a' = gF μ k a' := by
  have nw := q.1.1.nw
  have b8 := nw.b8
  have x1 := nw.bo_b he
  have q1 := q.wV (k := 900) (v := T 2 (bo N e)) ho ha
  have q2 := q1.wV (k := 901) (v := T 3 (bo N e)) ho ha
  have q3 := q2.wV (k := 902) (v := idS S (bo N e)) ho ha
  have q4 := q3.wV (k := 903) (v := nI (po N e)) ho ha
  refine ⟨_, ?_, q4, ⟨?_, ?_, ?_, ?_⟩, fun k a' h => ?_⟩
  · unfold f1_tellVector
    rw [q.1.1.c_wir, obs, q.1.1.w_bo he, obs, rA_nI (by omega) (by omega), obs, q.2 2 _ (by omega) (by omega)]
    simp only [wF, obs]
    rw [rA_nI (by omega) (by omega), obs, q1.2 3 _ (by omega) (by omega)]
    rw [rI_nI (by omega) (by omega), obs, C_id q2.1.1 (by omega), obs, q3.1.1.c_wir, obs, q3.1.1.w_po he, obs]
  · rw [gF_sF, if_neg (by omega), gF_sF, if_neg (by omega), gF_sF, if_neg (by omega), gF_sF, if_pos ⟨rfl, rfl⟩]
  · rw [gF_sF, if_neg (by omega), gF_sF, if_neg (by omega), gF_sF, if_pos ⟨rfl, rfl⟩]
  · rw [gF_sF, if_neg (by omega), gF_sF, if_pos ⟨rfl, rfl⟩]
  · rw [gF_sF, if_pos ⟨rfl, rfl⟩]
  · rw [gF_sF, if_neg (fun x => h x.2), gF_sF, if_neg (fun x => h x.2), gF_sF, if_neg (fun x => h x.2), gF_sF, if_neg (fun x => h x.2)]
theorem oI_m1 {x : Option Nat} (hx : ∀ p, x = some p → p < 2 ^ 31) : ceq (oI x) (-1) = x.isNone := by
  cases x with
  | none => rfl
  | some p => exact ceq_f (fun h => m1_ne (hx p rfl) h.symm)
/-- the offer of a port -/
def ofr (N : zN) (S : zS) (μ : zM) (a r e : Nat) : Prop := VV μ a (idS S r) (nI (wW N S (8 * bo N (fe e) + r)) + nI (cst N (e / 2))) (idS S (bo N (fe e))) (nI (po N (fe e)))
theorem ofr_lt {a' e0 : Nat} (h1 : ofr N S μ a r e) (h2 : ofr N S μ a' r e0) : vlt (gF μ 900 a) (gF μ 901 a) (gF μ 902 a) (gF μ 903 a) (gF μ 900 a') (gF μ 901 a') (gF μ 902 a') (gF μ 903 a') = kls N S r e e0 := by
  obtain ⟨a1, a2, a3, a4⟩ := h1
  obtain ⟨b1, b2, b3, b4⟩ := h2
  rw [a1, a2, a3, a4, b1, b2, b3, b4, vlt_r]; rfl
theorem rpF_skip (h : (!(up N S (eo N b p)) || decide (bo N (fe (eo N b p)) = b)) = true) (x : Option Nat) : rpF N S b p x = x := if_pos h
theorem rpF_none (h : ¬ (!(up N S (eo N b p)) || decide (bo N (fe (eo N b p)) = b)) = true) : rpF N S b p none = some p := if_neg h
theorem rpF_some {p0 : Nat} (h : ¬ (!(up N S (eo N b p)) || decide (bo N (fe (eo N b p)) = b)) = true) : rpF N S b p (some p0) = if kls N S (rtR N S b) (eo N b p) (eo N b p0) = true then some p else some p0 := if_neg h
theorem C_rport (q : DF N s w o S μ0 μ (wW N S) T) (ho : Out o 8 s w) (hb : b < nB N) (hr : rOK N S T (nB N)) : ∃ μ', zloop (fun q => f1_findRootPort_L1 o s (nI b) q.1 q.2) 1000000 (0, sA μ (o + 4) b (-1)) = some (nI (nP N b), μ') ∧ DF N s w o S μ0 μ' (wW N S) (zu T 4 b (oI (pfold (rpF N S b) (nP N b) none))) := by
  have nw := q.1.1.nw
  have b8 := nw.b8; have l14 := nw.l14; have p6 := nw.p6 hb
  obtain ⟨μ1, e1, h1⟩ := lp (Q := fun μ x => DF N s w o S μ0 μ (wW N S) (zu T 4 b (oI x)) ∧ (∀ p0, x = some p0 → p0 < nP N b) ∧ ∀ p0, x = some p0 → ofr N S μ (o + 7) (rtR N S b) (eo N b p0)) (body := fun q => f1_findRootPort_L1 o s (nI b) q.1 q.2) nI (rpF N S b) (nP N b) (S := none) (μ := sA μ (o + 4) b (-1)) (x0 := 0) (by
    intro i μ1 hi q1
    generalize pfold (rpF N S b) i none = x at *
    obtain ⟨q1, hx, hv⟩ := q1
    have el := nw.eo_l hb hi
    have e28 := nw.eo_28 hb hi
    have fl := fe_lt el
    have eb := nw.bo_eo hb hi
    have hc : (((f8_isUp s (nI (eo N b i)) μ1).bind fun t30 => some (!t30)).bind fun b27 => if b27 = true then (some true) else ((some w).bind fun w28 => (f10_farBridge w28 (nI (eo N b i)) μ1).bind fun t29 => some (ceq t29 (nI b)))) = some (!(up N S (eo N b i)) || decide (bo N (fe (eo N b i)) = b)) := by
      have := nw.bo_b fl
      rw [C_up q1.1.1 el, obs, obs, obs, q1.1.1.w_far el, obs, ceq_nI (by omega) (by omega)]
      cases up N S (eo N b i) <;> rfl
    have start : f1_findRootPort_L1 o s (nI b) (nI i) μ1 = if (!(up N S (eo N b i)) || decide (bo N (fe (eo N b i)) = b)) = true then ((some (nI i + 1)).bind fun v_p_14 => some (.inl (v_p_14, μ1))) else ((f1_tellVector o s (nI (eo N b i) ^^^ 1) (o + 6) μ1).bind fun μ15 => (gR μ15 812 s).bind fun w16 => (rA μ15 (w16 + 10) 14 (nI (eo N b i) >>> (1 &&& 31))).bind fun t17 => (wF μ15 901 (o + 6) ((gF μ15 901 (o + 6)) + t17)).bind fun μ18 => (((rA μ18 (o + 4) 8 (nI b)).bind fun t26 => some (ceq t26 (-1))).bind fun b24 => if b24 = true then (some true) else ((f9_against (o + 6) (o + 7) μ18).bind fun t25 => some (clt t25 0))).bind fun b19 => if b19 = true then ((wA μ18 (o + 4) 8 (nI b) (nI i)).bind fun μ20 => (f9_copyFrom (o + 7) (o + 6) μ20).bind fun μ21 => (some (nI i + 1)).bind fun v_p_22 => some (.inl (v_p_22, μ21))) else ((some (nI i + 1)).bind fun v_p_23 => some (.inl (v_p_23, μ18)))) := by
      unfold f1_findRootPort_L1
      rw [q1.1.1.c_wir, obs, q1.1.1.w_p hb, obs, clt_nI (by omega) (by omega), decide_eq_true hi, if_pos rfl, obs, q1.1.1.w_eo hb hi, obs, hc, obs]
    by_cases c : (!(up N S (eo N b i)) || decide (bo N (fe (eo N b i)) = b)) = true
    · refine ⟨μ1, ?_, ?_⟩
      · refine start.trans ?_
        rw [if_pos c, obs, nI_1]
      · rw [rpF_skip c]; exact ⟨q1, hx, hv⟩
    · have hu : up N S (eo N b i) = true := by
        cases hh : up N S (eo N b i) with
        | true => rfl
        | false => rw [hh] at c; exact absurd rfl c
      obtain ⟨μ2, e2, q2, v2, k2⟩ := C_tell q1 ho fl (Or.inl rfl)
      have on2 : S 20 (bo N (fe (eo N b i))) = 1 := up_on (by rw [up_fe]; exact hu)
      have ru : rtR N S (bo N (fe (eo N b i))) = rtR N S b := by rw [rtR_up nw el hu, eb]
      obtain ⟨t2, t3⟩ := hr _ (nw.bo_b fl) on2
      rw [ru] at t2 t3
      have q3 := q2.wV (k := 901) (a := o + 6) (v := gF μ2 901 (o + 6) + nI (cst N (eo N b i / 2))) ho (Or.inl rfl)
      have o6 : ofr N S (sF μ2 901 (o + 6) (gF μ2 901 (o + 6) + nI (cst N (eo N b i / 2)))) (o + 6) (rtR N S b) (eo N b i) := by
        obtain ⟨a1, a2, a3, a4⟩ := v2
        refine ⟨?_, ?_, ?_, ?_⟩
        · rw [gF_sF, if_neg (by omega), a1]; exact t2
        · rw [gF_sF, if_pos ⟨rfl, rfl⟩, a2]; exact congrArg (· + nI (cst N (eo N b i / 2))) t3
        · rw [gF_sF, if_neg (by omega), a3]
        · rw [gF_sF, if_neg (by omega), a4]
      have o7 : ∀ p0, x = some p0 → ofr N S (sF μ2 901 (o + 6) (gF μ2 901 (o + 6) + nI (cst N (eo N b i / 2)))) (o + 7) (rtR N S b) (eo N b p0) := fun p0 h => by
        obtain ⟨a1, a2, a3, a4⟩ := hv p0 h
        refine ⟨?_, ?_, ?_, ?_⟩
        · rw [gF_sF, if_neg (by omega), k2 _ _ (by omega), a1]
        · rw [gF_sF, if_neg (by omega), k2 _ _ (by omega), a2]
        · rw [gF_sF, if_neg (by omega), k2 _ _ (by omega), a3]
        · rw [gF_sF, if_neg (by omega), k2 _ _ (by omega), a4]
      have start2 : f1_findRootPort_L1 o s (nI b) (nI i) μ1 = ((if ceq (oI x) (-1) = true then (some true) else ((f9_against (o + 6) (o + 7) (sF μ2 901 (o + 6) (gF μ2 901 (o + 6) + nI (cst N (eo N b i / 2))))).bind fun t25 => some (clt t25 0))).bind fun b19 => if b19 = true then ((wA (sF μ2 901 (o + 6) (gF μ2 901 (o + 6) + nI (cst N (eo N b i / 2)))) (o + 4) 8 (nI b) (nI i)).bind fun μ20 => (f9_copyFrom (o + 7) (o + 6) μ20).bind fun μ21 => some (.inl (nI i + 1, μ21))) else some (.inl (nI i + 1, (sF μ2 901 (o + 6) (gF μ2 901 (o + 6) + nI (cst N (eo N b i / 2))))))) := by
        refine start.trans ?_
        rw [if_neg c, fe_x e28, e2, obs, q2.1.1.c_wir, obs, hf_x e28, q2.1.1.w_cst (by omega), obs]
        simp only [wF, obs]
        rw [rA_nI (by omega) (by omega), obs, q3.2 4 b (by omega) (by omega), show zu T 4 b (oI x) 4 b = oI x from if_pos ⟨rfl, rfl⟩, obs]
      generalize sF μ2 901 (o + 6) (gF μ2 901 (o + 6) + nI (cst N (eo N b i / 2))) = μ3 at *
      have take : ∃ μ', (wA μ3 (o + 4) 8 (nI b) (nI i)).bind (fun μ20 => (f9_copyFrom (o + 7) (o + 6) μ20).bind fun μ21 => some (.inl (nI i + 1, μ21))) = some (.inl (nI (i + 1), μ') : (Int32 × zM) ⊕ (Int32 × zM)) ∧ DF N s w o S μ0 μ' (wW N S) (zu T 4 b (oI (some i))) ∧ ofr N S μ' (o + 7) (rtR N S b) (eo N b i) := by
        have q4 := q3.wT (d := 4) (i := b) (v := nI i) ho (by omega) (by omega)
        rw [zu_zu] at q4
        have q5 := q4.wV (k := 900) (a := o + 7) (v := gF μ3 900 (o + 6)) ho (Or.inr rfl)
        have q6 := q5.wV (k := 901) (a := o + 7) (v := gF μ3 901 (o + 6)) ho (Or.inr rfl)
        have q7 := q6.wV (k := 902) (a := o + 7) (v := gF μ3 902 (o + 6)) ho (Or.inr rfl)
        have q8 := q7.wV (k := 903) (a := o + 7) (v := gF μ3 903 (o + 6)) ho (Or.inr rfl)
        obtain ⟨a1, a2, a3, a4⟩ := o6
        refine ⟨_, ?_, q8, ?_, ?_, ?_, ?_⟩
        · rw [wA_nI (by omega) (by omega), obs, C_cpV, obs, nI_1]
          rfl
        · rw [gF_sF, if_neg (by omega), gF_sF, if_neg (by omega), gF_sF, if_neg (by omega), gF_sF, if_pos ⟨rfl, rfl⟩, a1]
        · rw [gF_sF, if_neg (by omega), gF_sF, if_neg (by omega), gF_sF, if_pos ⟨rfl, rfl⟩, a2]
        · rw [gF_sF, if_neg (by omega), gF_sF, if_pos ⟨rfl, rfl⟩, a3]
        · rw [gF_sF, if_pos ⟨rfl, rfl⟩, a4]
      obtain ⟨μ4, e4, q4, o4⟩ := take
      cases x with
      | none =>
        refine ⟨μ4, ?_, ?_⟩
        · refine start2.trans ?_
          rw [show ceq (oI none) (-1) = true from rfl, if_pos rfl, obs, if_pos rfl, e4]
        · rw [rpF_none c]
          exact ⟨q4, fun p0 h => by cases h; exact hi, fun p0 h => by cases h; exact o4⟩
      | some p0 =>
        have hp0 := hx p0 rfl
        have ne : ceq (oI (some p0)) (-1) = false := ceq_f (fun h => m1_ne (by omega) h.symm)
        have ag : ((f9_against (o + 6) (o + 7) μ3).bind fun t25 => some (clt t25 0)) = some (kls N S (rtR N S b) (eo N b i) (eo N b p0)) := by
          rw [C_agst, obs, vcmp_lt, ofr_lt o6 (o7 p0 rfl)]
        rw [ne, if_neg (by decide), ag, obs] at start2
        by_cases c2 : kls N S (rtR N S b) (eo N b i) (eo N b p0) = true
        · refine ⟨μ4, ?_, ?_⟩
          · refine start2.trans ?_
            rw [if_pos c2, e4]
          · rw [rpF_some c, if_pos c2]
            exact ⟨q4, fun p1 h => by cases h; exact hi, fun p1 h => by cases h; exact o4⟩
        · refine ⟨μ3, ?_, ?_⟩
          · refine start2.trans ?_
            rw [if_neg c2, nI_1]
          · rw [rpF_some c, if_neg c2]
            exact ⟨q3, hx, o7⟩) (by
    intro μ1 q1
    obtain ⟨q1, hx, hv⟩ := q1
    show f1_findRootPort_L1 o s (nI b) (nI (nP N b)) μ1 = _
    unfold f1_findRootPort_L1
    rw [q1.1.1.c_wir, obs, q1.1.1.w_p hb, obs, clt_nI (by omega) (by omega), decide_eq_false (by omega), if_neg (by decide)]) (by omega) ⟨q.wT (d := 4) (i := b) (v := -1) ho (by omega) (by omega), fun p0 h => (nomatch h), fun p0 h => (nomatch h)⟩
  exact ⟨μ1, e1, h1.1⟩
end zD5
