/-! A FRAME, in the reference: all of it -/
section zG5
variable {N : zN} {m B : Nat} {ν0 ν ν1 ν' : zM} {S : zS} {T : zT} {x : zS × zT} {h e b p t k c i j n : Nat} {v : Int32}
theorem RG.w61 (q : RG N m ν0 ν S T) : RG N m ν0 (sF ν 1261 m (nI (T 1 0) + 1)) S (zu T 1 0 (T 1 0 + 1)) ∧ RG N m ν0 (sF ν 1261 m (nI (T 1 0) + 0)) S T := by
  obtain ⟨q1, ⟨f1, f2, f3, f4, f5⟩, q3, q4⟩ := q
  refine ⟨⟨q1.wm (by omega), ⟨?_, ?_, ?_, ?_, f5⟩, q3.tr (FrR.wf (by omega)), q4⟩, ⟨q1.wm (by omega), ⟨?_, ?_, ?_, ?_, f5⟩, q3.tr (FrR.wf (by omega)), q4⟩⟩
  · rw [gF_sF, if_neg (by omega)]; exact f1
  · rw [gF_sF, if_pos ⟨rfl, rfl⟩, nI_1]; rfl
  · rw [gF_sF, if_neg (by omega)]; exact f3
  · rw [gF_sF, if_neg (by omega)]; exact f4
  · rw [gF_sF, if_neg (by omega)]; exact f1
  · rw [gF_sF, if_pos ⟨rfl, rfl⟩, show nI (T 1 0) + 0 = nI (T 1 0 + 0) from nI_add _ 0, Nat.add_zero]
  · rw [gF_sF, if_neg (by omega)]; exact f3
  · rw [gF_sF, if_neg (by omega)]; exact f4
theorem R_fl (q : RF N m ν0 ν x) (hb : b < nB N) (hh : h < nH N) (hj : j < 7) : ∃ ν', zloop (fun s => f12_goesOut_L1 m (nI b) (nI j) (nI h) s.1 s.2) 1000000 (0, ν) = some (nI (nP N b), ν') ∧ RF N m ν0 ν' (pfold (ffl N h b j) (nP N b) x) := by
  have nw := q.1.nw
  have b8 := nw.b8; have p6 := nw.p6 hb
  exact lp (Q := RF N m ν0) (body := fun s => f12_goesOut_L1 m (nI b) (nI j) (nI h) s.1 s.2) nI (ffl N h b j) (nP N b) (S := x) (μ := ν) (x0 := 0) (by
    intro i ν1 hi q1
    generalize pfold (ffl N h b j) i x = y at *
    show ∃ ν', f12_goesOut_L1 m (nI b) (nI j) (nI h) (nI i) ν1 = some (.inl (nI (i + 1), ν')) ∧ RF N m ν0 ν' (ffl N h b j i y)
    unfold f12_goesOut_L1 ffl
    rw [q1.1.g_p hb, obs, clt_nI (by omega) (by omega), decide_eq_true hi, if_pos rfl, ceq_nI (by omega) (by omega)]
    by_cases c : i = j
    · rw [decide_eq_true c, if_pos rfl, if_pos c, obs, nI_1]; exact ⟨ν1, rfl, q1⟩
    · obtain ⟨ν2, e2, q2⟩ := R_pass (S := y.1) (T := y.2) (h := h) q1 (nw.eo_l hb hi) hh
      rw [decide_eq_false c, if_neg (by decide), if_neg c, pl_add, obs, plE nw hb hi, e2, obs, obs, nI_1]
      exact ⟨ν2, rfl, q2⟩) (by
    intro ν1 q1
    show f12_goesOut_L1 m (nI b) (nI j) (nI h) (nI (nP N b)) ν1 = _
    unfold f12_goesOut_L1
    rw [q1.1.g_p hb, obs, clt_nI (by omega) (by omega), decide_eq_false (by omega), if_neg (by decide)]) (by omega) q
theorem R_rch (q : RG N m ν0 ν S T) (ht : t < nH N) (hb : b < nB N) (d : Bool) (hd : d = true) : ∃ ν', (((if d = true then ((f12_its m (978 + nI t) ν).bind fun t7 => some (ceq t7 (nI b))) else (some false)).bind fun b6 => if b6 = true then (some 1) else (some 0)).bind fun x5 => (wF ν 1261 m ((gF ν 1261 m) + x5)).bind fun μ8 => some μ8) = some ν' ∧ RF N m ν0 ν' (frc t b (S, T)) := by
  have h8 := q.1.nw.h8
  have eh : f12_its m (978 + nI t) ν = some (S 41 t) := by
    rw [addQ978, q.1.its (by omega)]
    exact congrArg some (q.1.1.2.2.2.2.2.1 t ht)
  have spec : frc t b (S, T) = if ceq (S 41 t) (nI b) = true then (S, zu T 1 0 (T 1 0 + 1)) else (S, T) := rfl
  rw [spec, hd, if_pos rfl, eh, obs, obs, q.2.1.2.1]
  simp only [wF]
  by_cases c : ceq (S 41 t) (nI b) = true
  · rw [if_pos c, if_pos c, obs, obs]
    exact ⟨_, rfl, q.w61.1⟩
  · rw [if_neg c, if_neg c, obs, obs]
    exact ⟨_, rfl, q.w61.2⟩
theorem R_go (q : RF N m ν0 ν x) (hh : h < nH N) (ht : t < nH N) (hc : c / 7 < nB N ∧ (c % 7 = 6 ∨ c % 7 < nP N (c / 7))) (hs : x.2 3 0 ≠ 1) : ∃ ν', f12_goesOut m (nI (c / 7)) (nI (c % 7)) (nI h) (nI t) ν = some ν' ∧ RF N m ν0 ν' (fgo N h t c x) := by
  obtain ⟨S, T⟩ := x
  have q : RG N m ν0 ν S T := q
  have hs : T 3 0 ≠ 1 := hs
  have nw := q.1.nw
  have b8 := nw.b8; have h8 := nw.h8
  obtain ⟨c1, c2⟩ := hc
  have p6 := nw.p6 c1
  have f3 := q.2.2.2.2.2.1
  have spec : fgo N h t c (S, T) = if ceq (S 42 (c / 7 * 8 + t)) (-1) = true then (if (pfold (ffl N h (c / 7) (c % 7)) (nP N (c / 7)) (S, T)).2 3 0 = 1 then pfold (ffl N h (c / 7) (c % 7)) (nP N (c / 7)) (S, T) else frc t (c / 7) (pfold (ffl N h (c / 7) (c % 7)) (nP N (c / 7)) (S, T))) else if ceq (S 42 (c / 7 * 8 + t)) 6 = true then frc t (c / 7) (S, T) else if ceq (S 42 (c / 7 * 8 + t)) (nI (c % 7)) = true then (S, T) else fps N h (eo N (c / 7) (S 42 (c / 7 * 8 + t)).toNatClampNeg) (S, T) := rfl
  rw [spec]
  have none0 : ∀ ν2 S2 T2, RG N m ν0 ν2 S2 T2 → ∃ ν', (((if false = true then ((f12_its m (978 + nI t) ν2).bind fun t7 => some (ceq t7 (nI (c / 7)))) else (some false)).bind fun b6 => if b6 = true then (some 1) else (some 0)).bind fun x5 => (wF ν2 1261 m ((gF ν2 1261 m) + x5)).bind fun μ8 => some μ8) = some ν' ∧ RF N m ν0 ν' (S2, T2) := fun ν2 S2 T2 q2 => by
    rw [if_neg (by decide), obs, if_neg (by decide), obs, q2.2.1.2.1]
    simp only [wF]
    rw [obs]
    exact ⟨_, rfl, q2.w61.2⟩
  rcases q.1.2.1.1 (c / 7) t c1 (by omega) with hv | hv | ⟨p, hp, hv⟩
  · rw [hv, show ceq (-1 : Int32) (-1) = true from rfl, if_pos rfl]
    unfold f12_goesOut
    rw [adAt, obs, q.1.a_ c1 ht, obs, hv, show ceq (-1 : Int32) (-1) = true from rfl, if_pos rfl, show ceq (-1 : Int32) 6 = false from rfl]
    obtain ⟨ν1, e1, q1⟩ := R_fl (x := (S, T)) (j := c % 7) q c1 hh (by omega)
    rw [e1, ozb2, obs, obs]
    generalize pfold (ffl N h (c / 7) (c % 7)) (nP N (c / 7)) (S, T) = Y at *
    obtain ⟨S2, T2⟩ := Y
    have q1 : RG N m ν0 ν1 S2 T2 := q1
    have f3' := q1.2.2.2.2.2.1
    show ∃ ν', _ ∧ RF N m ν0 ν' (if T2 3 0 = 1 then (S2, T2) else frc t (c / 7) (S2, T2))
    rw [q1.2.1.2.2.2.1, ceqR0 (by omega)]
    by_cases cs : T2 3 0 = 1
    · rw [decide_eq_false (show ¬ T2 3 0 = 0 by omega), if_pos cs]
      exact none0 ν1 S2 T2 q1
    · rw [decide_eq_true (show T2 3 0 = 0 by omega), if_neg cs]
      exact R_rch q1 ht c1 true rfl
  · rw [hv, show ceq (6 : Int32) (-1) = false from rfl, if_neg (by decide), show ceq (6 : Int32) 6 = true from rfl, if_pos rfl]
    unfold f12_goesOut
    rw [adAt, obs, q.1.a_ c1 ht, obs, hv, show ceq (6 : Int32) (-1) = false from rfl, if_neg (by decide), show ceq (6 : Int32) 6 = true from rfl, if_neg (show ¬ ((!true) && (!(ceq (6 : Int32) (nI (c % 7))))) = true by simp), obs, obs, Bool.true_or]
    exact R_rch q ht c1 true rfl
  · rw [hv, oI_none (by omega), if_neg (by decide), ceqR6 (by omega), decide_eq_false (by omega), if_neg (by decide), nI_clamp (by omega)]
    by_cases ce : ceq (nI p) (nI (c % 7)) = true
    · rw [if_pos ce]
      unfold f12_goesOut
      rw [adAt, obs, q.1.a_ c1 ht, obs, hv, oI_none (by omega), if_neg (by decide), ceqR6 (by omega), decide_eq_false (by omega), ce, if_neg (by decide), obs, obs]
      exact none0 ν S T q
    · rw [if_neg ce]
      have cf : ceq (nI p) (nI (c % 7)) = false := by cases hx : ceq (nI p) (nI (c % 7)) with
        | false => rfl
        | true => exact absurd hx ce
      obtain ⟨ν1, e1, q1⟩ := R_pass q (nw.eo_l c1 hp) hh
      unfold f12_goesOut
      rw [adAt, obs, q.1.a_ c1 ht, obs, hv, oI_none (by omega), if_neg (by decide), ceqR6 (by omega), decide_eq_false (by omega), cf, if_pos (by decide), pl_add, obs, plE nw c1 hp, e1, obs, obs, obs]
      exact none0 ν1 _ _ q1
theorem R_frn (hh : h < nH N) (ht : t < nH N) : ∀ f k fuel ν x, k + f = 66 → f < fuel → RF N m ν0 ν x → ∃ r ν', zloop (fun s => f12_send_L1 m (nI h) (nI t) s.1 s.2) fuel (nI k, ν) = some (r, ν') ∧ RF N m ν0 ν' (frn N h t f k x) := by
  intro f
  induction f with
  | zero =>
    intro k fuel ν x hk hf q
    cases fuel with
    | zero => omega
    | succ g =>
      refine ⟨nI k, ν, zl_inr ?_, q⟩
      show f12_send_L1 m (nI h) (nI t) (nI k) ν = _
      have f0 := q.2.2.2.1; have f2 := q.2.2.2.2.1
      unfold f12_send_L1
      rw [q.2.1.1, clt_nI (by omega) (by omega), decide_eq_false (by omega), if_neg (by simp)]
  | succ f ih =>
    intro k fuel ν x hk hf q
    cases fuel with
    | zero => omega
    | succ g =>
      have f0 := q.2.2.2.1; have f2 := q.2.2.2.2.1; have f3 := q.2.2.2.2.2.1
      unfold frn
      by_cases c : k < x.2 0 0 ∧ x.2 3 0 ≠ 1
      · rw [if_pos c]
        have hcd := q.2.2.2.2.2.2 k c.1
        have nw := q.1.nw
        have b8 := nw.b8
        obtain ⟨ν1, e1, q1⟩ := R_go (c := x.2 4 k) q hh ht hcd c.2
        have start : f12_send_L1 m (nI h) (nI t) (nI k) ν = some (.inl (nI (k + 1), ν1)) := by
          unfold f12_send_L1
          rw [q.2.1.1, q.2.1.2.2.2.1, clt_nI (by omega) (by omega), decide_eq_true c.1, ceqR0 (by omega), decide_eq_true (show x.2 3 0 = 0 by omega), if_pos (by decide), rA_nI (by omega) (by omega), obs, q.2.1.2.2.2.2 k c.1]
          rw [show iDiv (nI (x.2 4 k)) 7 = some (nI (x.2 4 k / 7)) from iDiv_nI (d := 7) (by omega) (by omega) (by omega), obs, obs, show iRem (nI (x.2 4 k)) 7 = some (nI (x.2 4 k % 7)) from iRem_nI (d := 7) (by omega) (by omega) (by omega), obs, e1, obs, obs, nI_1]
        obtain ⟨r, ν2, e2, q2⟩ := ih (k + 1) g ν1 _ (by omega) (by omega) q1
        exact ⟨r, ν2, zl_in2 start e2, q2⟩
      · rw [if_neg c]
        refine ⟨nI k, ν, zl_inr ?_, q⟩
        show f12_send_L1 m (nI h) (nI t) (nI k) ν = _
        unfold f12_send_L1
        rw [q.2.1.1, q.2.1.2.2.2.1, clt_nI (by omega) (by omega), ceqR0 (by omega)]
        by_cases c2 : k < x.2 0 0
        · have c3 : ¬ x.2 3 0 = 0 := fun h0 => c ⟨c2, by omega⟩
          rw [decide_eq_false c3, if_neg (by simp)]
        · rw [decide_eq_false c2, if_neg (by simp)]
end zG5
