/-! A SIGHT TOLD, both: the method -/
section zM1
variable {N : zN} {x m w s B st top n k i f c p j b l t e P h : Nat} {μ0 μ μ' μ1 ν0 ν ν' ν1 M : zM} {S S' S1 X : zS} {v : Int32}
theorem see_fin (h : JJ N S st w x m top μ ν) (hc : c ≤ 16) (hn : k ≤ 80) (ok : ∀ k, k < c → oks N μ x k) : ∃ ν', (((wF ν 1252 m (nI c)).bind fun μ21 => (wF μ21 1253 m (nI k)).bind fun μ22 => zb2 (zloop (fun s => f12_see_L2 m s.1 s.2) 1000000 (0, μ22)) fun v_k_25 μ26 => some ((gF μ26 1252 m), μ26)) : Option (Int32 × zM)) = some (nI c, ν') ∧ JJ N S st w x m top (sF (sF (copyA μ (x + 1) (x + 18) 0 0 (3 * c)) 703 (x + 17) (nI c)) 704 (x + 17) (nI k)) ν' := by
  have e0 : gF (sF (sF ν 1252 m (nI c)) 1253 m (nI k)) 1252 m = nI c := by rw [gF_sF, if_neg (by omega), gF_sF, if_pos ⟨rfl, rfl⟩]
  have e0' : gF (sF (sF ν 1252 m (nI c)) 1253 m (nI k)) 1253 m = nI k := by rw [gF_sF, if_pos ⟨rfl, rfl⟩]
  obtain ⟨ν', e1, p1, p2, p3, p4⟩ := R_see2 e0 hc
  refine ⟨ν', ?_, h.sgt (fun a h1 h2 => ⟨fun k => by rw [gF_sF, if_neg (by omega), gF_sF, if_neg (by omega)]; rfl, fun _ => rfl, fun _ => rfl, fun j => by rw [gA_sF, gA_sF, gA_cp, if_neg (by omega)], fun _ => rfl, fun _ => rfl⟩) (fun k h1 h2 => by rw [p1, gF_sF, if_neg (by omega), gF_sF, if_neg (by omega)]) (fun k => p2 k m) (fun a j h1 h2 => p3 a j h1 h2) ⟨c, k, hc, hn, ?_, ?_, ?_, ?_, fun i hi => ?_⟩⟩
  · simp only [wF, obs]
    rw [e1, ozb2, p1, e0]
  · rw [gF_sF, if_neg (by omega), gF_sF, if_pos ⟨rfl, rfl⟩]
  · rw [p1, e0]
  · rw [gF_sF, if_pos ⟨rfl, rfl⟩]
  · rw [p1, e0']
  · obtain ⟨b, p, r, hb, hp, hr, o1, o2, o3⟩ := ok i hi
    have t4 := h.2.2.1.1.2
    obtain ⟨q1, q2⟩ := p4 i hi
    refine ⟨b, p, r, hb, hp, hr, ?_, ?_, ?_, ?_, ?_⟩
    · rw [gA_sF, gA_sF, gA_cp, if_pos ⟨rfl, by omega⟩]; exact o1
    · rw [gA_sF, gA_sF, gA_cp, if_pos ⟨rfl, by omega⟩]; exact o2
    · rw [gA_sF, gA_sF, gA_cp, if_pos ⟨rfl, by omega⟩]; exact o3
    · rw [q1, gA_sF, gA_sF, gA_sF, gA_sF, ← (t4 (3 * i) (by omega)).1, ← (t4 (3 * i + 1) (by omega)).1, o1, o2, mulQ6, nI_add]
    · rw [q2, gA_sF, gA_sF, ← (t4 (3 * i + 2) (by omega)).1, o3]
theorem q_see (h : JR x m top μ ν) (a : Int32) : ∃ r μ' ν', f11_see x a μ = some (r, μ') ∧ f12_see m a ν = some (r, ν') ∧ JR x m top μ' ν' := by
  obtain ⟨N, S, st, w, h⟩ := h
  obtain ⟨n, t1, t2, t3⟩ := h.2.2.1.1.1
  have h1 := h.tp (n := 0) (by omega)
  have k1 : f11_takeTape x μ = some (nI n, sF μ 1113 x (nI 0)) := by unfold f11_takeTape; rw [t2]; rfl
  have k2 : f12_taken m ν = some (nI n, sF ν 1232 m (nI 0)) := by unfold f12_taken; rw [t3]; rfl
  unfold f11_see f12_see
  rw [k1, k2, ozb2, ozb2]
  generalize sF μ 1113 x (nI 0) = μ1 at h1 ⊢
  generalize sF ν 1232 m (nI 0) = ν1 at h1 ⊢
  obtain ⟨μr, νr, u1, u2, u3⟩ := rf_int (k := 5) h1 (by omega)
  have L0 : zloop (fun s => f12_see_L1 m (nI n) ν1 s.1 s.2) 1000000 (false, 0) = some (false, 0) := zloop_out (by omega) rfl
  have ref : ∃ r μ' ν', (some (-1, μr) : Option (Int32 × zM)) = some (r, μ') ∧ (some (-1, νr) : Option (Int32 × zM)) = some (r, ν') ∧ JR x m top μ' ν' := ⟨_, _, _, rfl, rfl, u3⟩
  rw [show (5 : Int32) = nI 5 from rfl, u1, u2, h1.1.wr, show f12_isIn a 0 80 ν1 = some (!(clt a 0) && !(clt 80 a)) from rfl]
  simp only [obs, ozb2]
  rw [h1.2.1.1]
  cases c1 : clt a 0 with
  | true =>
    cases gB ν1 1246 m <;> simp only [Bool.not_true, Bool.false_and, Bool.true_or, Bool.false_eq_true, ↓reduceIte, obs, L0, ozb2] <;> exact ref
  | false =>
    cases c2 : clt 80 a with
    | true =>
      cases gB ν1 1246 m <;> simp only [Bool.not_true, Bool.and_false, Bool.or_true, Bool.false_eq_true, ↓reduceIte, obs, L0, ozb2] <;> exact ref
    | false =>
      cases ct : gB ν1 1246 m with
      | false =>
        simp only [Bool.not_false, Bool.or_self, Bool.false_eq_true, ↓reduceIte, obs, L0, ozb2]
        exact ref
      | true =>
        have z0 : ceq (nI n) 0 = decide (n = 0) := ceq_nI (by omega) (b := 0) (by omega)
        have z1 : clt 48 (nI n) = decide (48 < n) := clt_nI (a := 48) (by omega) (by omega)
        have z2 : clt 0 (nI n) = decide (0 < n) := clt_nI (a := 0) (by omega) (by omega)
        have z3 : iRem (nI n) 3 = some (nI (n % 3)) := iRem_nI (d := 3) (by omega) (by omega) (by omega)
        have z4 : ceq (nI (n % 3)) 0 = decide (n % 3 = 0) := ceq_nI (by omega) (b := 0) (by omega)
        have z5 : iDiv (nI n) 3 = some (nI (n / 3)) := iDiv_nI (d := 3) (by omega) (by omega) (by omega)
        obtain ⟨k, hk, rfl⟩ := rI_of c1 (show clt a (nI 81) = true by
          rw [← clt_le (i := a) (n := 80) (by omega)]
          show (!clt 80 a) = true
          rw [c2]; rfl) (by omega)
        unfold f11_isSight
        rw [z0, z1, z2, z3]
        simp only [Bool.not_true, Bool.not_false, Bool.and_self, Bool.or_self, Bool.false_eq_true, ↓reduceIte, obs, z4]
        by_cases n0 : n = 0
        · rw [decide_eq_true n0, decide_eq_false (show ¬ 0 < n by omega)]
          simp only [Bool.true_or, Bool.not_false, Bool.false_eq_true, ↓reduceIte, obs, L0, ozb2]
          exact ref
        · rw [decide_eq_false n0, decide_eq_true (show 0 < n by omega), Bool.false_or]
          by_cases n48 : 48 < n
          · rw [decide_eq_true n48]
            cases decide (n % 3 = 0) <;> simp only [Bool.not_true, Bool.not_false, Bool.false_eq_true, ↓reduceIte, obs, L0, ozb2] <;> exact ref
          · rw [decide_eq_false n48]
            by_cases n3 : n % 3 = 0
            · rw [decide_eq_true n3]
              simp only [Bool.not_true, Bool.not_false, Bool.false_eq_true, ↓reduceIte, obs]
              obtain ⟨c, rfl⟩ : ∃ c, n = 3 * c := ⟨n / 3, by omega⟩
              rcases sgtL (c := c) h1 (by omega) c 0 1000000 (by omega) (by omega) (by omega) with ⟨e1, k', e2⟩ | ⟨e1, e2, e3⟩
              · rw [show (0 : Int32) = nI (3 * 0) from rfl, e1, e2]
                exact ref
              · obtain ⟨ν', g1, g2⟩ := see_fin (k := k) h1 (show c ≤ 16 by omega) (by omega) (fun k hk => e3 k (by omega) hk)
                rw [show zloop (fun s => f11_isSight_L1 x (nI (3 * c)) μ1 s) 1000000 0 = _ from e1, show zloop (fun s => f12_see_L1 m (nI (3 * c)) ν1 s.1 s.2) 1000000 (true, 0) = _ from e2, z5, show 3 * c / 3 = c by omega, fJ_c0 (by omega) (by omega) (by omega)]
                simp only [obs, ozb2]
                rw [if_pos trivial, g1]
                refine ⟨nI c, _, _, ?_, rfl, _, _, _, _, g2⟩
                show some (gF (sF (sF (copyA μ1 (x + 1) (x + 18) 0 0 (3 * c)) 703 (x + 17) (nI c)) 704 (x + 17) (nI k)) 703 (x + 17), _) = _
                rw [gF_sF, if_neg (by omega), gF_sF, if_pos ⟨rfl, rfl⟩]
            · rw [decide_eq_false n3]
              simp only [Bool.not_true, Bool.not_false, Bool.false_eq_true, ↓reduceIte, obs, L0, ozb2]
              exact ref
end zM1
