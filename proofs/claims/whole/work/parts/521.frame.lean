/-! A FRAME, in the class -/
section zG1
variable {N : zN} {s w o : Nat} {μ0 μ μ' : zM} {S : zS} {T : zT} {x : zS × zT} {h e b p t k c i : Nat} {v : Int32}
theorem FQ.mv (q : FQ o μ T) (hs : ∀ a, o ≤ a → a < o + 3 → SA a μ μ') : FQ o μ' T := by
  obtain ⟨q1, q2, q3, q4, q5⟩ := q
  have s0 := hs o (by omega) (by omega)
  refine ⟨by rw [s0.1]; exact q1, by rw [s0.1]; exact q2, by rw [s0.1]; exact q3, by rw [s0.2.1]; exact q4, fun k hk => ?_⟩
  rw [(hs (o + 1) (by omega) (by omega)).2.2.2.1, (hs (o + 2) (by omega) (by omega)).2.2.2.1]
  exact q5 k hk
theorem CG.lrn (q : CG N s w o μ0 μ S T) (ho : Out o 3 s w) (hb : b < nB N) (hh : h < 8) (hv : okA N b v) : ∃ μ', f8_learn s (nI b) (nI h) v μ = some μ' ∧ CG N s w o μ0 μ' (lrn b h v S) T := by
  obtain ⟨e1, h1⟩ := C_lrn q.1 hb hh hv
  have h1' := h1
  refine ⟨_, e1, h1'.self, q.2.1.mv (fun a h2 h3 => h1.c_fr a (by have := ho.1; omega)), q.2.2.1.tr ⟨fun a h2 h3 => h1.c_fr a h2, rfl⟩, q.2.2.2⟩
theorem C_enq (q : CG N s w o μ0 μ S T) (ho : Out o 3 s w) (hl : T 0 0 ≤ T 2 0 ∧ T 2 0 ≤ 64) (hc : c / 7 < nB N ∧ (c % 7 = 6 ∨ c % 7 < nP N (c / 7))) (hb : v = qpt c) : ∃ μ', f2_queue o (nI (c / 7)) v μ = some μ' ∧ CG N s w o μ0 μ' S (enq T c) := by
  obtain ⟨q1, ⟨f1, f2, f3, f4, f5⟩, q3, q4⟩ := q
  have d1 : FrD o 3 μ (sF (sA (sA μ (o + 1) (T 0 0) (nI (c / 7))) (o + 2) (T 0 0) v) 202 o (nI (T 0 0) + 1)) := ((FrD.rf.wA (by omega) (by omega)).wA (by omega) (by omega)).wF (by omega) (by omega)
  refine ⟨sF (sA (sA μ (o + 1) (T 0 0) (nI (c / 7))) (o + 2) (T 0 0) v) 202 o (nI (T 0 0) + 1), ?_, q1.fd ho d1, ⟨?_, ?_, ?_, ?_, fun k hk => ?_⟩, q3.tr ⟨fun a h1 h2 => d1 a h2, rfl⟩, q4.enq hl.1 hc⟩
  · unfold f2_queue
    rw [f1, wA_nI (by omega) (by omega), obs, gF_sA, f1, wA_nI (by omega) (by omega), obs]
    simp only [wF, obs]
    rw [gF_sA, gF_sA, f1]
  · rw [gF_sF, if_pos ⟨rfl, rfl⟩, nI_1, enq_0]
  · rw [gF_sF, if_neg (by omega), enq_o (by omega)]; exact f2
  · rw [gF_sF, if_neg (by omega), enq_o (by omega)]; exact f3
  · rw [enq_o (by omega)]; exact f4
  · rw [enq_0] at hk
    rw [enq_4]
    by_cases ck : k = T 0 0
    · rw [if_pos ck]
      refine ⟨?_, ?_⟩
      · rw [gA_sF, gA_sA, if_neg (by omega), gA_sA, if_pos ⟨rfl, ck⟩]
      · rw [gA_sF, gA_sA, if_pos ⟨rfl, ck⟩]; exact hb
    · rw [if_neg ck]
      refine ⟨?_, ?_⟩
      · rw [gA_sF, gA_sA, if_neg (by omega), gA_sA, if_neg (fun x => ck x.2)]; exact (f5 k (by omega)).1
      · rw [gA_sF, gA_sA, if_neg (fun x => ck x.2), gA_sA, if_neg (by omega)]; exact (f5 k (by omega)).2
theorem CG.w205 (q : CG N s w o μ0 μ S T) (ho : Out o 3 s w) (hl : T 2 0 ≠ 64) : CG N s w o μ0 (sF μ 205 o (nI (T 2 0) + 1)) S (zu T 2 0 (T 2 0 + 1)) := by
  obtain ⟨q1, ⟨f1, f2, f3, f4, f5⟩, q3, q4⟩ := q
  have d1 : FrD o 3 μ (sF μ 205 o (nI (T 2 0) + 1)) := FrD.rf.wF (by omega) (by omega)
  refine ⟨q1.fd ho d1, ⟨?_, ?_, ?_, f4, f5⟩, q3.tr ⟨fun a h1 h2 => d1 a h2, rfl⟩, q4.ad hl⟩
  · rw [gF_sF, if_neg (by omega)]; exact f1
  · rw [gF_sF, if_neg (by omega)]; exact f2
  · rw [gF_sF, if_pos ⟨rfl, rfl⟩, nI_1]; rfl
theorem C_pass (q : CG N s w o μ0 μ S T) (ho : Out o 3 s w) (he : e < 2 * nL N) (hh : h < 8) (h3 : T 3 0 ≠ 1) : ∃ μ', f2_pass o s (nI e) (nI h) μ = some μ' ∧ CF N s w o μ0 μ' (fps N h e (S, T)) := by
  have nw := q.1.nw
  have e28 := nw.e28 he
  have fl := fe_lt he
  have f28 := nw.e28 fl
  have fb := nw.bo_b fl
  have po6 := nw.po_6 fl
  have fi := q.2.2.2
  have f2 := fi.2.1
  have f0 := fi.1
  have spec : fps N h e (S, T) = if (!(ceq (S 1 e) 2) || decide (T 3 0 = 1)) = true then (S, T) else if T 2 0 = 64 then (S, zu T 3 0 1) else if ceq (S 1 (fe e)) 0 = true then (S, zu T 2 0 (T 2 0 + 1)) else (lrn (bo N (fe e)) h (nI (po N (fe e))) S, if ceq (S 1 (fe e)) 2 = true then enq (zu T 2 0 (T 2 0 + 1)) (7 * bo N (fe e) + po N (fe e)) else zu T 2 0 (T 2 0 + 1)) := rfl
  rw [spec, decide_eq_false h3, Bool.or_false]
  unfold f2_pass
  rw [rI_nI e28 (by omega), obs, q.1.c_state e e28]
  cases c0 : ceq (S 1 e) 2 with
  | false =>
    rw [if_neg (by decide), if_pos (show (!false) = true from rfl)]
    exact ⟨μ, rfl, q⟩
  | true =>
    rw [if_pos rfl, if_neg (show ¬ (!true) = true by decide), q.2.1.2.2.1, ceqR64 (by omega)]
    by_cases c1 : T 2 0 = 64
    · rw [decide_eq_true c1, if_pos rfl, if_pos c1]
      simp only [wB, obs]
      have d1 : FrD o 3 μ (sB μ 206 o true) := FrD.rf.wB (by omega) (by omega)
      obtain ⟨q1, ⟨f1, f2, f3, f4, f5⟩, q3, q4⟩ := q
      exact ⟨_, rfl, q1.fd ho d1, ⟨f1, f2, f3, by rw [gB_sB, if_pos ⟨rfl, rfl⟩]; rfl, f5⟩, q3.tr ⟨fun a h1 h2 => d1 a h2, by rw [gB_sB, if_neg (by omega)]⟩, ⟨q4.1, q4.2.1, Nat.le_refl _, q4.2.2.2⟩⟩
    · rw [decide_eq_false c1, if_neg (by decide), if_neg c1]
      have qa := q.w205 ho c1
      simp only [wF, obs]
      generalize sF μ 205 o (nI (T 2 0) + 1) = μ1 at *
      rw [fe_x e28, rI_nI f28 (by omega), obs, qa.1.c_state _ f28]
      by_cases c2 : ceq (S 1 (fe e)) 0 = true
      · rw [if_pos c2, if_pos c2]; exact ⟨μ1, rfl, qa⟩
      · rw [if_neg c2, if_neg c2]
        obtain ⟨μ2, e2, q2⟩ := CG.lrn qa ho (h := h) (b := bo N (fe e)) (v := nI (po N (fe e))) fb hh (Or.inr (Or.inr ⟨_, nw.po_p fl, rfl⟩))
        have s1 : lrn (bo N (fe e)) h (nI (po N (fe e))) S 1 (fe e) = S 1 (fe e) := rfl
        rw [qa.1.c_wir, obs, qa.1.w_bo fl, obs, obs, qa.1.w_po fl, obs, e2, obs, obs, q2.1.c_state _ f28, s1]
        by_cases c3 : ceq (S 1 (fe e)) 2 = true
        · rw [if_pos c3, if_pos c3]
          obtain ⟨μ3, e3, q3⟩ := C_enq (c := 7 * bo N (fe e) + po N (fe e)) (v := nI (po N (fe e))) q2 ho ⟨show T 0 0 ≤ T 2 0 + 1 from f0, show T 2 0 + 1 ≤ 64 by omega⟩ (cd_ok nw fl) (by unfold qpt; rw [show (7 * bo N (fe e) + po N (fe e)) % 7 = po N (fe e) by omega, if_neg (by omega)])
          rw [show (7 * bo N (fe e) + po N (fe e)) / 7 = bo N (fe e) by omega] at e3
          rw [q2.1.c_wir, obs, q2.1.w_bo fl, obs, obs, q2.1.w_po fl, obs, e3, obs]
          exact ⟨μ3, rfl, q3⟩
        · rw [if_neg c3, if_neg c3]; exact ⟨μ2, rfl, q2⟩
end zG1
