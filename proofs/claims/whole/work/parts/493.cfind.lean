/-! CLASS: all that is due is found -/
section zD6
variable {N : zN} {s w o n : Nat} {μ0 μ μ' : zM} {S T T' : zS} {a b c d e f i j k r p : Nat} {v : Int32} {W : Nat → Nat}
theorem C_frp (q : DF N s w o S μ0 μ (wW N S) T) (ho : Out o 8 s w) (hb : b < nB N) (hr : rOK N S T (nB N)) : ∃ μ' v, f1_findRootPort o s (nI b) μ = some μ' ∧ DF N s w o S μ0 μ' (wW N S) (zu T 4 b v) ∧ (S 20 b = 1 → v = oI (rpD N S b)) := by
  have nw := q.1.1.nw
  have b8 := nw.b8
  have q1 := q.wT (d := 4) (i := b) (v := -1) ho (by omega) (by omega)
  have e2 : rA (sA μ (o + 4) b (-1)) (o + 2) 8 (nI b) = some (T 2 b) := by
    rw [rA_nI (by omega) (by omega), q1.2 2 b (by omega) (by omega)]; rfl
  have key : S 20 b = 1 → ceq (T 2 b) (idS S b) = decide (rtR N S b = b) := fun h20 => by
    rw [(hr b hb h20).1]
    have hlt := (rtR_mn nw hb h20).1
    by_cases c : rtR N S b = b
    · rw [decide_eq_true c, c]; exact ceq_rf _
    · rw [decide_eq_false c]
      exact ceq_f (fun x => c (id_inj (by omega) (by omega) x))
  by_cases c : ceq (T 2 b) (idS S b) = true
  · refine ⟨_, -1, ?_, q1, fun h20 => ?_⟩
    · unfold f1_findRootPort
      rw [wA_nI (by omega) (by omega), obs, e2, obs, rI_nI (by omega) (by omega), obs, C_id q1.1.1 (by omega), obs, if_pos c]
    · rw [key h20, decide_eq_true_iff] at c
      unfold rpD
      rw [if_pos c]; rfl
  · obtain ⟨μ2, e3, q3⟩ := C_rport q ho hb hr
    refine ⟨μ2, _, ?_, q3, fun h20 => ?_⟩
    · unfold f1_findRootPort
      rw [wA_nI (by omega) (by omega), obs, e2, obs, rI_nI (by omega) (by omega), obs, C_id q1.1.1 (by omega), obs, if_neg c, e3, ozb2]
    · rw [key h20, decide_eq_true_iff] at c
      unfold rpD
      rw [if_neg c]
theorem C_find2 (q : DF N s w o S μ0 μ (wW N S) T) (ho : Out o 8 s w) (hr : rOK N S T (nB N)) : ∃ μ' T', zloop (fun q => f1_find_L2 o s q.1 q.2) 1000000 (0, μ) = some (nI (nB N), μ') ∧ DF N s w o S μ0 μ' (wW N S) T' ∧ rOK N S T' (nB N) ∧ pOK N S T' (nB N) := by
  have nw := q.1.1.nw
  have b8 := nw.b8
  obtain ⟨μ1, e1, h1⟩ := lp (Q := fun μ n => ∃ T, DF N s w o S μ0 μ (wW N S) T ∧ rOK N S T (nB N) ∧ pOK N S T n) (body := fun q => f1_find_L2 o s q.1 q.2) nI (fun i (_ : Nat) => i + 1) (nB N) (S := 0) (μ := μ) (x0 := 0) (by
    intro i μ1 hi q1
    rw [pf_n] at q1
    obtain ⟨T1, q1, r1, p1⟩ := q1
    show ∃ μ', f1_find_L2 o s (nI i) μ1 = some (.inl (nI (i + 1), μ')) ∧ ∃ T, DF N s w o S μ0 μ' (wW N S) T ∧ rOK N S T (nB N) ∧ pOK N S T (i + 1)
    obtain ⟨μ2, v, e2, q2, hv⟩ := C_frp q1 ho hi r1
    unfold f1_find_L2
    rw [q1.1.1.c_wir, obs, q1.1.1.w_b, clt_nI (by omega) (by omega), decide_eq_true hi, if_pos rfl, e2, obs, obs, nI_1]
    refine ⟨_, rfl, _, q2, r1, fun b hb h20 => ?_⟩
    show (if 4 = 4 ∧ b = i then v else T1 4 b) = _
    by_cases c : b = i
    · subst c
      rw [if_pos ⟨rfl, rfl⟩]; exact hv h20
    · rw [if_neg (fun x => c x.2)]; exact p1 b (by omega) h20) (by
    intro μ1 q1
    rw [pf_n] at q1
    obtain ⟨T1, q1, r1⟩ := q1
    show f1_find_L2 o s (nI (nB N)) μ1 = _
    unfold f1_find_L2
    rw [q1.1.1.c_wir, obs, q1.1.1.w_b, clt_nI (by omega) (by omega), decide_eq_false (by omega), if_neg (by decide)]) (by omega) ⟨T, q, hr, fun b hb => absurd hb (by omega)⟩
  rw [pf_n] at h1
  obtain ⟨T1, h2, h3, h4⟩ := h1
  exact ⟨μ1, T1, e1, h2, h3, h4⟩
theorem oI_eq {x : Option Nat} (hx : ∀ p, x = some p → p < 2 ^ 31) (hk : k < 2 ^ 31) : ceq (nI k) (oI x) = decide (x = some k) := by
  cases x with
  | none => rw [decide_eq_false (fun h => nomatch h)]; exact ceq_f (fun h => m1_ne hk h.symm)
  | some p =>
    show ceq (nI k) (nI p) = _
    rw [ceq_nI hk (hx p rfl)]
    by_cases c : k = p
    · rw [decide_eq_true c, decide_eq_true (by rw [c])]
    · rw [decide_eq_false c, decide_eq_false (fun h => c (by cases h; rfl))]
theorem rpD_lt {p : Nat} (h : rpD N S b = some p) : p < nP N b ∧ up N S (eo N b p) = true := by
  unfold rpD at h
  by_cases c : rtR N S b = b
  · rw [if_pos c] at h; cases h
  · rw [if_neg c] at h
    exact rpF_lt _ _ h
theorem C_role (q : DF N s w o S μ0 μ (wW N S) T) (ho : Out o 8 s w) (he : e < 2 * nL N) (hr : rOK N S T (nB N)) (hp : pOK N S T (nB N)) : ∃ μ', f1_findRole o s (nI e) μ = some (rlD N S e, μ') ∧ DF N s w o S μ0 μ' (wW N S) T := by
  have nw := q.1.1.nw
  have b8 := nw.b8
  have bb := nw.bo_b he
  have fl := fe_lt he
  have fb := nw.bo_b fl
  have p6 := nw.p6 bb
  have e28 := nw.e28 he
  unfold f1_findRole rlD
  rw [q.1.1.c_wir, obs, q.1.1.w_bo he, obs, C_up q.1.1 he, obs]
  by_cases cu : up N S e = true
  · rw [if_pos cu, if_pos cu]
    have on1 : S 20 (bo N e) = 1 := up_on cu
    have on2 : S 20 (bo N (fe e)) = 1 := up_on (by rw [up_fe]; exact cu)
    have ru := rtR_up nw he cu
    have po6 := nw.po_6 he
    have ep : ceq (nI (po N e)) (T 4 (bo N e)) = decide (rpD N S (bo N e) = some (po N e)) := by
      rw [hp _ bb on1]
      exact oI_eq (fun p h => by have := (rpD_lt h).1; omega) (by omega)
    rw [obs, q.1.1.w_po he, obs, rA_nI (by omega) (by omega), obs, q.2 4 _ (by omega) (by omega), ep]
    by_cases cr : rpD N S (bo N e) = some (po N e)
    · rw [decide_eq_true cr, if_pos rfl, if_pos cr]
      exact ⟨μ, rfl, q⟩
    · rw [decide_eq_false cr, if_neg (by decide), if_neg cr]
      obtain ⟨μ1, e1, q1, v1, k1⟩ := C_tell q ho fl (Or.inl rfl)
      obtain ⟨μ2, e2, q2, v2, k2⟩ := C_tell q1 ho he (Or.inr rfl)
      obtain ⟨t1, t2⟩ := hr _ fb on2
      obtain ⟨t3, t4⟩ := hr _ bb on1
      rw [ru] at t1 t2
      have ag : f9_against (o + 6) (o + 7) μ2 = some (vcmp (idS S (rtR N S (bo N e))) (nI (wW N S (8 * bo N (fe e) + rtR N S (bo N e)))) (idS S (bo N (fe e))) (nI (po N (fe e))) (idS S (rtR N S (bo N e))) (nI (wW N S (8 * bo N e + rtR N S (bo N e)))) (idS S (bo N e)) (nI (po N e))) := by
        obtain ⟨a1, a2, a3, a4⟩ := v1
        obtain ⟨b1, b2, b3, b4⟩ := v2
        rw [C_agst, k2 900 _ (by omega), k2 901 _ (by omega), k2 902 _ (by omega), k2 903 _ (by omega), a1, a2, a3, a4, b1, b2, b3, b4, t1, t2, t3, t4]
      rw [fe_x e28, e1, obs, e2, obs, ag, obs, vcmp_lt, vlt_r]
      by_cases cv : vlt 0 (nI (wW N S (8 * bo N (fe e) + rtR N S (bo N e)))) (idS S (bo N (fe e))) (nI (po N (fe e))) 0 (nI (wW N S (8 * bo N e + rtR N S (bo N e)))) (idS S (bo N e)) (nI (po N e)) = true
      · rw [if_pos cv, if_pos cv, q2.1.1.c_wir, obs, q2.1.1.w_far he, obs, ceq_nI (by omega) (by omega)]
        by_cases cb : bo N (fe e) = bo N e
        · rw [decide_eq_true cb, if_pos rfl, if_pos cb, obs]
          exact ⟨μ2, rfl, q2⟩
        · rw [decide_eq_false cb, if_neg (by decide), if_neg cb, obs]
          exact ⟨μ2, rfl, q2⟩
      · rw [if_neg cv, if_neg cv]
        exact ⟨μ2, rfl, q2⟩
  · rw [if_neg cu, if_neg cu]
    exact ⟨μ, rfl, q⟩
theorem C_find (h : CS N s w μ μ S) (ho : Out o 8 s w) : ∃ μ' T, f1_find o s μ = some μ' ∧ DF N s w o S μ μ' (wW N S) T ∧ DOK N S T := by
  have nw := h.nw
  have b8 := nw.b8; have l14 := nw.l14
  obtain ⟨μ1, e1, q1⟩ := C_ways h ho
  obtain ⟨μ2, T2, e2, q2, r2⟩ := C_find1 q1 ho
  obtain ⟨μ3, T3, e3, q3, r3, p3⟩ := C_find2 q2 ho r2
  obtain ⟨μ4, e4, h4⟩ := lp (Q := fun μ' n => ∃ T, DF N s w o S μ μ' (wW N S) T ∧ rOK N S T (nB N) ∧ pOK N S T (nB N) ∧ ∀ e, e < n → T 5 e = rlD N S e) (body := fun q => f1_find_L3 o s q.1 q.2) nI (fun i (_ : Nat) => i + 1) (2 * nL N) (S := 0) (μ := μ3) (x0 := 0) (by
    intro i μ1 hi q1
    rw [pf_n] at q1
    obtain ⟨T1, q1, r1, p1, l1⟩ := q1
    show ∃ μ', f1_find_L3 o s (nI i) μ1 = some (.inl (nI (i + 1), μ')) ∧ ∃ T, DF N s w o S μ μ' (wW N S) T ∧ rOK N S T (nB N) ∧ pOK N S T (nB N) ∧ ∀ e, e < i + 1 → T 5 e = rlD N S e
    obtain ⟨μ2, e2, q2⟩ := C_role q1 ho hi r1 p1
    have q3 := q2.wT (d := 5) (i := i) (v := rlD N S i) ho (by omega) (by omega)
    unfold f1_find_L3
    rw [q1.1.1.c_wir, obs, q1.1.1.w_l, mulQ2, clt_nI (by omega) (by omega), decide_eq_true hi, if_pos rfl, e2, ozb2, wA_nI (by omega) (by omega), obs, obs, nI_1]
    refine ⟨_, rfl, _, q3, r1, p1, fun e he => ?_⟩
    show (if 5 = 5 ∧ e = i then _ else T1 5 e) = _
    by_cases c : e = i
    · rw [if_pos ⟨rfl, c⟩, c]
    · rw [if_neg (fun x => c x.2)]; exact l1 e (by omega)) (by
    intro μ1 q1
    rw [pf_n] at q1
    obtain ⟨T1, q1, r1⟩ := q1
    show f1_find_L3 o s (nI (2 * nL N)) μ1 = _
    unfold f1_find_L3
    rw [q1.1.1.c_wir, obs, q1.1.1.w_l, mulQ2, clt_nI (by omega) (by omega), decide_eq_false (by omega), if_neg (by decide)]) (by omega) ⟨T3, q3, r3, p3, fun b hb => absurd hb (by omega)⟩
  rw [pf_n] at h4
  obtain ⟨T4, q4, r4, p4, l4⟩ := h4
  refine ⟨μ4, T4, ?_, q4, r4, p4, l4⟩
  unfold f1_find
  rw [e1, obs, e2, ozb2, e3, ozb2, e4, ozb2]
end zD6
