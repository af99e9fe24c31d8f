/-! HEAL, WORST -/
section zJ9
variable {N : zN} {x m w s B st top n k i f c p j b l t : Nat} {μ0 μ μ' μ1 ν0 ν ν' ν1 : zM} {S S' : zS}
theorem whole2 (h : JJ N S st w x m top μ ν) (a : Int32) : (∃ l, l < nL N ∧ a = nI l ∧ f11_isWhole x a μ = some (ceq (S 40 l) 1) ∧ f12_isWhole m a ν = some (ceq (S 40 l) 1)) ∨ ((!(clt a 0) && clt a (nI (nL N))) = false ∧ f11_isWhole x a μ = some false ∧ f12_isWhole m a ν = some false) := by
  have cs := h.1.cs
  have nw := h.1.nw
  have l14 := nw.l14
  have q := h.1.m0
  unfold f11_isWhole f12_isWhole f12_isLink
  rw [h.1.wr, q.2.2.2.1.2.1, isIn0 (by omega)]
  simp only [obs]
  rw [C_isL cs]
  simp only [obs]
  rcases rngC (nL N) (by omega) a with ⟨l, hl, rfl⟩ | ⟨_, e⟩
  · refine Or.inl ⟨l, hl, rfl, ?_, ?_⟩
    · rw [rngT (by omega) hl, if_pos rfl, show x + 55 = x + 51 + 4 by omega, rZ_nI (by omega) (by omega), obs, obs, cs.r_whole (by omega)]
    · rw [rngT (by omega) hl, if_pos rfl, addQ964, rA_nI (by omega) (by omega), obs, obs]
      have e := (q.1.2.2.2.2.1 l hl).1
      unfold rw_ at e
      rw [if_pos (by omega), Nat.zero_add] at e
      rw [e]
  · exact Or.inr ⟨e, by rw [e]; rfl, by rw [e]; rfl⟩
theorem q_heal (h : JR x m top μ ν) (a : Int32) : ∃ r μ' ν', f11_heal x a μ = some (r, μ') ∧ f12_heal m a ν = some (r, ν') ∧ JR x m top μ' ν' := by
  have h0 := h
  obtain ⟨N, S, st, w, h⟩ := h
  unfold f11_heal f12_heal
  rcases whole2 h a with ⟨l, hl, rfl, e1, e2⟩ | ⟨_, e1, e2⟩
  · rw [e1, obs, e2, obs]
    cases c4 : ceq (S 40 l) 1 with
    | false => exact ⟨-1, μ, ν, rfl, rfl, h0⟩
    | true =>
      obtain ⟨r, r', μ', ν', e3, e4, rr, fa, fz, ft⟩ := heal2 h hl
      rw [if_pos rfl, if_pos rfl, e3, e4]
      simp only [ozb2]
      have hr : JR x m top μ' ν' := ⟨_, _, _, _, h.look fa fz ft⟩
      rcases rr with ⟨rfl, rfl⟩ | ⟨n, hn, rfl, rfl⟩
      · exact ⟨-1, μ', ν', rfl, by rw [if_pos (by decide), obs], hr⟩
      · refine ⟨nI n, μ', ν', rfl, ?_, hr⟩
        rw [show (320 : Int32) = nI 320 from rfl, clt_nI (by omega) (by omega), decide_eq_false (by omega), if_neg (by decide), obs]
  · rw [e1, obs, e2, obs]
    exact ⟨-1, μ, ν, rfl, rfl, h0⟩
/-- the reference goes on, once a link that is never healed was found -/
theorem worst_tail {v : Int32} : ∀ k i fuel ν S, i + k = nL N → k < fuel → JJ N S st w x m top μ ν → ∃ ν', zloop (fun s => f12_worst_L1 m s.1 s.2.1 s.2.2.1 s.2.2.2) fuel (v, 321, nI i, ν) = some (v, 321, nI (nL N), ν') ∧ JR x m top μ ν' := by
  intro k
  induction k with
  | zero =>
    intro i fuel ν S hi hf h
    obtain ⟨f, rfl⟩ : ∃ f, fuel = f + 1 := ⟨fuel - 1, by omega⟩
    have l14 := h.1.nw.l14
    have ei : i = nL N := by omega
    subst ei
    refine ⟨ν, zl_inr ?_, _, _, _, _, h⟩
    show f12_worst_L1 m v 321 (nI (nL N)) ν = _
    unfold f12_worst_L1
    rw [h.1.m0.2.2.2.1.2.1, clt_nI (by omega) (by omega), decide_eq_false (by omega), if_neg (by decide)]
  | succ k ih =>
    intro i fuel ν S hi hf h
    obtain ⟨f, rfl⟩ : ∃ f, fuel = f + 1 := ⟨fuel - 1, by omega⟩
    have l14 := h.1.nw.l14
    have st0 : f12_worst_L1 m v 321 (nI i) ν = ((f12_isWhole m (nI i) ν).bind fun t10 => if t10 = true then (zb2 (f12_healsIn m (nI i) ν) fun t11 μ12 => if (clt 321 t11) = true then ((some (nI i + 1)).bind fun v_l_13 => some (.inl (nI i, t11, v_l_13, μ12))) else ((some (nI i + 1)).bind fun v_l_14 => some (.inl (v, 321, v_l_14, μ12)))) else ((some (nI i + 1)).bind fun v_l_15 => some (.inl (v, 321, v_l_15, ν)))) := by
      unfold f12_worst_L1
      rw [h.1.m0.2.2.2.1.2.1, clt_nI (by omega) (by omega), decide_eq_true (by omega), if_pos rfl]
    rcases whole2 h (nI i) with ⟨l, hl, el, e1, e2⟩ | ⟨e0, e1, e2⟩
    · have el := nI_inj (by omega) (by omega) el
      subst el
      rw [e2, obs] at st0
      cases c4 : ceq (S 40 i) 1 with
      | false =>
        rw [c4, if_neg (by decide), obs, nI_1] at st0
        obtain ⟨ν', e5, h5⟩ := ih (i + 1) f ν S (by omega) (by omega) h
        exact ⟨ν', zl_in2 st0 e5, h5⟩
      | true =>
        obtain ⟨r, r', μ', ν1, e3, e4, rr, fa, fz, ft⟩ := heal2 h hl
        rw [c4, if_pos rfl, e4, ozb2] at st0
        have e6 : clt 321 r' = false := by
          rcases rr with ⟨rfl, rfl⟩ | ⟨n, hn, rfl, rfl⟩
          · decide
          · rw [show (321 : Int32) = nI 321 from rfl, clt_nI (by omega) (by omega), decide_eq_false (by omega)]
        rw [e6, if_neg (by decide), obs, nI_1] at st0
        obtain ⟨ν', e5, h5⟩ := ih (i + 1) f ν1 _ (by omega) (by omega) (h.look FrA.rf h.2.2.2.1 ft)
        exact ⟨ν', zl_in2 st0 e5, h5⟩
    · rw [rngT (by omega) (by omega)] at e0
      cases e0
def wAns (what v u : Int32) : Int32 := if ceq what 0 = true then v else if clt 320 u = true then -1 else u
theorem worst2 {what : Int32} : ∀ k i fuel μ ν S v u, i + k = nL N → k < fuel → JJ N S st w x m top μ ν → (u = -1 ∨ ∃ n, n ≤ 320 ∧ u = nI n) → ∃ r v' u' ν', zloop (fun s => f12_worst_L1 m s.1 s.2.1 s.2.2.1 s.2.2.2) fuel (v, u, nI i, ν) = some (v', u', nI (nL N), ν') ∧ zloop (fun s => f11_worst_L1 x what s.1 s.2.1 s.2.2.1 s.2.2.2) fuel (v, u, nI i, μ) = some r ∧ ∃ μ', (Sum.elim (fun v => some v) (zq4 fun v_worstLink_5 v_worstSteps_6 v_link_7 μ8 => (if (ceq what 0) = true then (some v_worstLink_5) else (some v_worstSteps_6)).bind fun x17 => some (x17, μ8)) r : Option (Int32 × zM)) = some (wAns what v' u', μ') ∧ JR x m top μ' ν' := by
  intro k
  induction k with
  | zero =>
    intro i fuel μ ν S v u hi hf h hu
    obtain ⟨f, rfl⟩ : ∃ f, fuel = f + 1 := ⟨fuel - 1, by omega⟩
    have l14 := h.1.nw.l14
    have ei : i = nL N := by omega
    subst ei
    have s1 : f12_worst_L1 m v u (nI (nL N)) ν = some (.inr (v, u, nI (nL N), ν)) := by
      unfold f12_worst_L1
      rw [h.1.m0.2.2.2.1.2.1, clt_nI (by omega) (by omega), decide_eq_false (by omega), if_neg (by decide)]
    have s2 : f11_worst_L1 x what v u (nI (nL N)) μ = some (.inr (.inr (v, u, nI (nL N), μ))) := by
      unfold f11_worst_L1
      rw [h.1.wr, obs, h.1.cs.w_l, clt_nI (by omega) (by omega), decide_eq_false (by omega), if_neg (by decide)]
    refine ⟨_, v, u, ν, zl_inr s1, zl_inr s2, μ, ?_, _, _, _, _, h⟩
    show ((if (ceq what 0) = true then (some v) else (some u)).bind fun x17 => some (x17, μ)) = some (wAns what v u, μ)
    unfold wAns
    have hu2 : clt 320 u = false := by
      rcases hu with rfl | ⟨n, hn, rfl⟩
      · decide
      · rw [show (320 : Int32) = nI 320 from rfl, clt_nI (by omega) (by omega), decide_eq_false (by omega)]
    rw [hu2]
    cases ceq what 0 <;> rfl
  | succ k ih =>
    intro i fuel μ ν S v u hi hf h hu
    obtain ⟨f, rfl⟩ : ∃ f, fuel = f + 1 := ⟨fuel - 1, by omega⟩
    have l14 := h.1.nw.l14
    have st0 : f12_worst_L1 m v u (nI i) ν = ((f12_isWhole m (nI i) ν).bind fun t10 => if t10 = true then (zb2 (f12_healsIn m (nI i) ν) fun t11 μ12 => if (clt u t11) = true then ((some (nI i + 1)).bind fun v_l_13 => some (.inl (nI i, t11, v_l_13, μ12))) else ((some (nI i + 1)).bind fun v_l_14 => some (.inl (v, u, v_l_14, μ12)))) else ((some (nI i + 1)).bind fun v_l_15 => some (.inl (v, u, v_l_15, ν)))) := by
      unfold f12_worst_L1
      rw [h.1.m0.2.2.2.1.2.1, clt_nI (by omega) (by omega), decide_eq_true (by omega), if_pos rfl]
    have st1 : f11_worst_L1 x what v u (nI i) μ = if ceq (S 40 i) 1 = true then (zb2 (f11_countHealing x (nI i) μ) fun t11 μ12 => if (ceq t11 (-1)) = true then ((if (ceq what 0) = true then (some (nI i)) else (some (-1))).bind fun x15 => some (.inr (.inl (x15, μ12)))) else (if (clt u t11) = true then ((some (nI i + 1)).bind fun v_link_14 => some (.inl (nI i, t11, v_link_14, μ12))) else ((some (nI i + 1)).bind fun v_link_13 => some (.inl (v, u, v_link_13, μ12))))) else ((some (nI i + 1)).bind fun v_link_16 => some (.inl (v, u, v_link_16, μ))) := by
      unfold f11_worst_L1
      rw [h.1.wr, obs, h.1.cs.w_l, clt_nI (by omega) (by omega), decide_eq_true (by omega), if_pos rfl, show x + 55 = x + 51 + 4 by omega, rZ_nI (by omega) (by omega), obs, h.1.cs.r_whole (by omega)]
    rcases whole2 h (nI i) with ⟨l, hl, el, e1, e2⟩ | ⟨e0, e1, e2⟩
    · have el := nI_inj (by omega) (by omega) el
      subst el
      rw [e2, obs] at st0
      cases c4 : ceq (S 40 i) 1 with
      | false =>
        rw [c4, if_neg (by decide), obs, nI_1] at st0
        rw [c4, if_neg (by decide), obs, nI_1] at st1
        obtain ⟨r, v', u', ν', a1, a2, a3⟩ := ih (i + 1) f μ ν S v u (by omega) (by omega) h hu
        exact ⟨r, v', u', ν', zl_in2 st0 a1, zl_in2 st1 a2, a3⟩
      | true =>
        obtain ⟨r, r', μ1, ν1, e3, e4, rr, fa, fz, ft⟩ := heal2 h hl
        have hJ := h.look fa fz ft
        rw [c4, if_pos rfl, e4, ozb2] at st0
        rw [c4, if_pos rfl, e3, ozb2] at st1
        rcases rr with ⟨rfl, rfl⟩ | ⟨n, hn, rfl, rfl⟩
        · have e6 : clt u 321 = true := by
            rcases hu with rfl | ⟨n, hn, rfl⟩
            · decide
            · rw [show (321 : Int32) = nI 321 from rfl, clt_nI (by omega) (by omega), decide_eq_true (by omega)]
          rw [e6, if_pos rfl, obs, nI_1] at st0
          rw [if_pos (by decide)] at st1
          obtain ⟨ν', b1, b2⟩ := worst_tail (v := nI i) k (i + 1) f ν1 _ (by omega) (by omega) hJ
          have st2 : f11_worst_L1 x what v u (nI i) μ = some (.inr (.inl (if ceq what 0 = true then nI i else -1, μ1))) := by
            rw [st1]
            cases ceq what 0 <;> rfl
          refine ⟨_, nI i, 321, ν', zl_in2 st0 b1, zl_inr st2, μ1, ?_, b2⟩
          show some (if ceq what 0 = true then nI i else -1, μ1) = some (wAns what (nI i) 321, μ1)
          unfold wAns
          cases ceq what 0 <;> rfl
        · rw [oI_none (by omega), if_neg (by decide)] at st1
          cases e6 : clt u (nI n) with
          | true =>
            rw [e6, if_pos rfl, obs, nI_1] at st0
            rw [e6, if_pos rfl, obs, nI_1] at st1
            obtain ⟨r, v', u', ν', a1, a2, a3⟩ := ih (i + 1) f μ1 ν1 _ (nI i) (nI n) (by omega) (by omega) hJ (Or.inr ⟨n, hn, rfl⟩)
            exact ⟨r, v', u', ν', zl_in2 st0 a1, zl_in2 st1 a2, a3⟩
          | false =>
            rw [e6, if_neg (by decide), obs, nI_1] at st0
            rw [e6, if_neg (by decide), obs, nI_1] at st1
            obtain ⟨r, v', u', ν', a1, a2, a3⟩ := ih (i + 1) f μ1 ν1 _ v u (by omega) (by omega) hJ hu
            exact ⟨r, v', u', ν', zl_in2 st0 a1, zl_in2 st1 a2, a3⟩
    · rw [rngT (by omega) (by omega)] at e0
      cases e0
theorem q_worst (h : JR x m top μ ν) (c : Int32) : ∃ r μ' ν', f11_worst x c μ = some (r, μ') ∧ f12_worst m c ν = some (r, ν') ∧ JR x m top μ' ν' := by
  have h0 := h
  obtain ⟨N, S, st, w, h⟩ := h
  have l14 := h.1.nw.l14
  unfold f11_worst f12_worst
  rw [show f12_isIn c 0 1 ν = some (!(clt c 0) && clt c (nI 2)) from isIn0 (n := 2) (by omega), obs]
  rcases rngC 2 (by omega) c with ⟨c', hc, rfl⟩ | ⟨hc, e⟩
  · rw [rngT (by omega) hc, if_pos rfl]
    have e1 : (!(ceq (nI c') 0) && !(ceq (nI c') 1)) = false := by
      have : c' = 0 ∨ c' = 1 := by omega
      rcases this with rfl | rfl <;> decide
    rw [e1, if_neg (by decide)]
    obtain ⟨r, v', u', ν', a1, a2, μ', a3, a4⟩ := worst2 (what := nI c') (nL N) 0 1000000 μ ν S (-1) (-1) (by omega) (by omega) h (Or.inl rfl)
    rw [show zloop (fun s => f11_worst_L1 x (nI c') s.1 s.2.1 s.2.2.1 s.2.2.2) 1000000 (-1, -1, 0, μ) = some r from a2, obs, a3, show zloop (fun s => f12_worst_L1 m s.1 s.2.1 s.2.2.1 s.2.2.2) 1000000 (-1, -1, 0, ν) = some (v', u', nI (nL N), ν') from a1, ozb4]
    refine ⟨_, μ', ν', rfl, ?_, a4⟩
    unfold wAns
    cases ceq (nI c') 0 <;> cases clt 320 u' <;> rfl
  · rw [e]
    have e1 : (!(ceq c 0) && !(ceq c 1)) = true := by
      have z0 : ceq c 0 = false := hc 0 (by omega)
      have z1 : ceq c 1 = false := hc 1 (by omega)
      rw [z0, z1]; rfl
    rw [e1]
    exact ⟨-1, μ, ν, rfl, rfl, h0⟩
end zJ9
