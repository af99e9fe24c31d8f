/-! REFERENCE: a tick -/
section zR6
variable {N : zN} {m B : Nat} {ν0 ν ν' : zM} {S S' : zS} {R R' : Nat → Int32} {e b l h k : Nat}
theorem fade_v (hv : SV S) : ∀ n, SV (pfold (sp_fd1 N b) n (sp_fd0 b S, false)).1
  | 0 => (show OK N S (sp_fd0 b S) from by
      unfold sp_fd0
      exact OK.it (fun _ => OK.rf) (fun c => OK.z27 (nn1 (hv b).2.2.1 (Bool.eq_false_iff.mpr c)))).2.1 hv
  | n + 1 => (fd1_k (N := N) (fade_v hv n)).2.1 (fade_v hv n)
theorem R_ages (q : MS N m B ν0 ν S) (hb : b < nB N) (hv : SV S) (rc : RC N b (sp_fade N b S).1) : ∃ ν', f12_ages m (nI b) ν = some ν' ∧ MS N m B ν0 ν' (if (sp_fade N b S).2 = true then sp_choose N b (sp_fade N b S).1 else (sp_fade N b S).1) := by
  have nw := q.nw
  have hb8 := nw.b_8 hb
  have hp6 := nw.p6 hb
  have h0 : ∃ ν1, ((f12_of m (nI b) 7 ν).bind fun t24 => if (clt 0 t24) = true then ((f12_bridgeAt (nI b) 7 ν).bind fun t25 => (f12_of m (nI b) 7 ν).bind fun t26 => (f12_puts m t25 (t26 - 1) ν).bind fun μ27 => some μ27) else (some ν)) = some ν1 ∧ MS N m B ν0 ν1 (sp_fd0 b S) := by
    rw [q.b7 hb, obs, pos_ne (hv b).2.2.1]
    unfold sp_fd0
    by_cases c : ceq (S 27 b) 0 = true
    · rw [if_pos c, c]
      exact ⟨ν, rfl, q⟩
    · rw [if_neg c, Bool.eq_false_iff.mpr c, if_pos (show (!false) = true from rfl)]
      have a7 : f12_bridgeAt (nI b) 7 ν = some (nI (4 + 12 * b + 7)) := bAt b 7
      rw [a7, obs, obs, q.puts (by omega), obs]
      exact ⟨_, rfl, q.w_b (k := 7) hb (by omega) (by omega) (fun x => by omega)⟩
  obtain ⟨ν1, e1, q1⟩ := h0
  have key := zloop_up (body := fun s => f12_ages_L1 m (nI b) s.1 s.2.1 s.2.2) (fun i (x : Bool × zM) => (x.1, nI (6 * b + i), x.2)) (fun i x => MS N m B ν0 x.2 (pfold (sp_fd1 N b) i (sp_fd0 b S, false)).1 ∧ x.1 = (pfold (sp_fd1 N b) i (sp_fd0 b S, false)).2) (nP N b) (fun r => r.1 = (sp_fade N b S).2 ∧ MS N m B ν0 r.2.2 (sp_fade N b S).1) (by
    rintro i ⟨wt, ν2⟩ hi ⟨q2, h3⟩
    replace q2 : MS N m B ν0 ν2 (pfold (sp_fd1 N b) i (sp_fd0 b S, false)).1 := q2
    replace h3 : wt = (pfold (sp_fd1 N b) i (sp_fd0 b S, false)).2 := h3
    subst h3
    have sv := fade_v (N := N) (b := b) hv i
    show ∃ y : Bool × zM, f12_ages_L1 m (nI b) (pfold (sp_fd1 N b) i (sp_fd0 b S, false)).2 (nI (6 * b + i)) ν2 = some (.inl (y.1, nI (6 * b + (i + 1)), y.2)) ∧ MS N m B ν0 y.2 (sp_fd1 N b i (pfold (sp_fd1 N b) i (sp_fd0 b S, false))).1 ∧ y.1 = (sp_fd1 N b i (pfold (sp_fd1 N b) i (sp_fd0 b S, false))).2
    generalize pfold (sp_fd1 N b) i (sp_fd0 b S, false) = x at *
    have ql := nw.eo_l hb hi
    have hinc : nI (pl N (eo N b i)) + 1 = nI (6 * b + (i + 1)) := by rw [nw.pl_eo hb hi, nI_1]; rfl
    obtain ⟨v2, v3, v27, v16⟩ := sv (eo N b i)
    unfold f12_ages_L1 sp_fd1
    rw [q2.g_p hb, obs, pl_add, obs, clt_nI (by omega) (by omega), decide_eq_true (show 6 * b + i < 6 * b + nP N b by omega), if_pos rfl, plE nw hb hi, hinc, q2.p3 ql, obs, pos_ne v3]
    have h4 : ∃ ν3, (if (!ceq (x.1 3 (eo N b i)) 0) = true then ((some (x.1 3 (eo N b i))).bind fun t21 => (f12_sets m (nI (pl N (eo N b i))) 3 (t21 - 1) ν2).bind fun μ22 => some μ22) else some ν2) = some ν3 ∧ MS N m B ν0 ν3 (if ceq (x.1 3 (eo N b i)) 0 = true then x.1 else zu x.1 3 (eo N b i) (x.1 3 (eo N b i) - 1)) := by
      by_cases c : ceq (x.1 3 (eo N b i)) 0 = true
      · rw [if_pos c, c]; exact ⟨_, rfl, q2⟩
      · rw [if_neg c, Bool.eq_false_iff.mpr c, if_pos (show (!false) = true from rfl)]
        obtain ⟨ν3, e3, q3⟩ := q2.s3 ql (v := x.1 3 (eo N b i) - 1)
        exact ⟨ν3, by rw [obs, e3]; rfl, q3⟩
    obtain ⟨ν3, e3, q3⟩ := h4
    rw [e3, obs, q3.p10 ql, obs]
    have k10 : (if ceq (x.1 3 (eo N b i)) 0 = true then x.1 else zu x.1 3 (eo N b i) (x.1 3 (eo N b i) - 1)) 10 (eo N b i) = x.1 10 (eo N b i) := by split <;> rfl
    have k16 : (if ceq (x.1 3 (eo N b i)) 0 = true then x.1 else zu x.1 3 (eo N b i) (x.1 3 (eo N b i) - 1)) 16 (eo N b i) = x.1 16 (eo N b i) := by split <;> rfl
    dsimp only
    generalize (if ceq (x.1 3 (eo N b i)) 0 = true then x.1 else zu x.1 3 (eo N b i) (x.1 3 (eo N b i) - 1)) = S1 at *
    rw [k10]
    have ib := q2.isb ql (k := 10) (by omega) (by omega)
    rw [c01 ib]
    by_cases c1 : ceq (x.1 10 (eo N b i)) 1 = true
    · have h10 : x.1 10 (eo N b i) = 1 := ceq_of c1
      obtain ⟨ν4, e4, q4⟩ := q3.s16 ql (v := x.1 16 (eo N b i) - 1)
      have hh : zu S1 16 (eo N b i) (x.1 16 (eo N b i) - 1) 10 (eo N b i) = 1 := k10.trans h10
      have e16 : zu S1 16 (eo N b i) (x.1 16 (eo N b i) - 1) 16 (eo N b i) = x.1 16 (eo N b i) - 1 := if_pos ⟨rfl, rfl⟩
      rw [c1, if_neg (by decide), if_pos rfl, q3.p16 ql (k10.trans h10), obs, k16, e4, obs, q4.p16 ql hh, obs, e16]
      have v16' := v16 h10
      have nneg : ¬ x.1 16 (eo N b i) - 1 < 0 := by
        have a6 : ¬ x.1 16 (eo N b i) < 0 := fun y => v16' (by
          rw [Int32.lt_iff_toInt_lt] at y ⊢
          have a1 : (1 : Int32).toInt = 1 := by decide
          have a0 : (0 : Int32).toInt = 0 := by decide
          omega)
        refine nn1 a6 (ceq_f (fun y => v16' ?_))
        rw [y]; decide
      rw [pos_ne nneg]
      by_cases c2 : ceq (x.1 16 (eo N b i) - 1) 0 = true
      · rw [c2, if_neg (by decide), if_pos rfl]
        obtain ⟨ν5, e5, q5⟩ := q4.s10 ql
        exact ⟨(true, ν5), by rw [e5]; rfl, q5, rfl⟩
      · rw [Bool.eq_false_iff.mpr c2, if_pos (show (!false) = true from rfl), if_neg (by decide)]
        exact ⟨(x.2, ν4), rfl, q4, rfl⟩
    · rw [Bool.eq_false_iff.mpr c1, if_pos (show (!false) = true from rfl), if_neg (by decide)]
      exact ⟨(x.2, ν3), rfl, q3, rfl⟩) (by
    rintro ⟨wt, ν2⟩ ⟨q2, h3⟩
    replace q2 : MS N m B ν0 ν2 (pfold (sp_fd1 N b) (nP N b) (sp_fd0 b S, false)).1 := q2
    refine ⟨(wt, nI (6 * b + nP N b), ν2), ?_, h3, q2⟩
    show f12_ages_L1 m (nI b) wt (nI (6 * b + nP N b)) ν2 = _
    unfold f12_ages_L1
    rw [q2.g_p hb, obs, pl_add, obs, clt_nI (by omega) (by omega), decide_eq_false (by omega), if_neg (by decide)]) (nP N b) 0 1000000 (false, ν1) rfl (Nat.zero_le _) (by omega) ⟨q1, rfl⟩
  obtain ⟨⟨r1, r2, r3⟩, e2, e3, q3⟩ := key
  replace e3 : r1 = (sp_fade N b S).2 := e3
  replace q3 : MS N m B ν0 r3 (sp_fade N b S).1 := q3
  subst e3
  have e0 : f12_placeOf (nI b) 0 ν1 = some (nI (6 * b + 0)) := pl_add b 0
  have e2' : zloop (fun s => f12_ages_L1 m (nI b) s.1 s.2.1 s.2.2) 1000000 (false, nI (6 * b + 0), ν1) = some ((sp_fade N b S).2, r2, r3) := e2
  unfold f12_ages
  rw [e1, obs, e0, obs, e2', ozb3]
  by_cases c : (sp_fade N b S).2 = true
  · rw [if_pos c, if_pos c]
    obtain ⟨ν4, e4, q4⟩ := R_choose q3 hb rc
    exact ⟨ν4, by rw [e4]; rfl, q4⟩
  · rw [if_neg c, if_neg c]
    exact ⟨_, rfl, q3⟩
theorem R_wait (q : MS N m B ν0 ν S) (hb : b < nB N) (hv : SV S) (hd : ∀ e, e < 2 * nL N → up N S e = false → clr S e) : ∃ ν', f12_waits m (nI b) ν = some ν' ∧ MS N m B ν0 ν' (pfold (sp_wt1 N b) (nP N b) S) := by
  have nw := q.nw
  have hb8 := nw.b_8 hb
  have hp6 := nw.p6 hb
  obtain ⟨ν1, e1, q1⟩ := lp (Q := MS N m B ν0) (body := fun s => f12_waits_L1 m (nI b) s.1 s.2) (fun i => nI (6 * b + i)) (sp_wt1 N b) (nP N b) (S := S) (μ := ν) (x0 := nI (6 * b + 0)) (by
    intro i ν1 hi q1
    have kk := wts_k nw hb hv hd i (by omega)
    have sv := kk.2.1 hv
    generalize pfold (sp_wt1 N b) i S = S1 at *
    have ql := nw.eo_l hb hi
    have hinc : nI (pl N (eo N b i)) + 1 = nI (6 * b + (i + 1)) := by rw [nw.pl_eo hb hi, nI_1]; rfl
    show ∃ ν', f12_waits_L1 m (nI b) (nI (6 * b + i)) ν1 = some (.inl (nI (6 * b + (i + 1)), ν')) ∧ _
    unfold f12_waits_L1 sp_wt1
    rw [q1.g_p hb, obs, pl_add, obs, clt_nI (by omega) (by omega), decide_eq_true (show 6 * b + i < 6 * b + nP N b by omega), if_pos rfl, plE nw hb hi]
    simp only [q1.p0 ql, q1.p1 ql, q1.p2 ql, obs, zor, hinc]
    have eb : ∀ a1 a2 a3 a4 : Bool, ((((!a1) && (!a2)) || a3) || a4) = ((!(a1 || a2) || a3) || a4) := by decide
    rw [eb]
    by_cases c : ((!(ceq (S1 0 (eo N b i)) 1 || ceq (S1 0 (eo N b i)) 2) || ceq (S1 1 (eo N b i)) 2) || ceq (S1 2 (eo N b i)) 0) = true
    · simp only [if_pos c]
      exact ⟨_, rfl, q1⟩
    · simp only [if_neg c]
      have c0 : ceq (S1 2 (eo N b i)) 0 = false := by
        cases h : ceq (S1 2 (eo N b i)) 0 with
        | false => rfl
        | true => rw [h, Bool.or_true] at c; exact absurd rfl c
      obtain ⟨ν2, e2, q2⟩ := q1.s2 ql (v := S1 2 (eo N b i) - 1)
      have e22 : zu S1 2 (eo N b i) (S1 2 (eo N b i) - 1) 2 (eo N b i) = S1 2 (eo N b i) - 1 := if_pos ⟨rfl, rfl⟩
      rw [e2, obs, q2.p2 ql, obs, e22, pos_ne (nn1 (sv _).1 c0), q2.p1 ql, obs]
      by_cases c2 : ceq (S1 2 (eo N b i) - 1) 0 = true
      · rw [c2, if_neg (by decide), if_pos rfl]
        show ∃ ν', (if ceq (S1 1 (eo N b i)) 0 = true then _ else _) = _ ∧ _
        by_cases c3 : ceq (S1 1 (eo N b i)) 0 = true
        · simp only [if_pos c3]
          obtain ⟨ν3, e3, q3⟩ := R_enter q2 ql (v := 1)
          obtain ⟨ν4, e4, q4⟩ := q3.s2 ql (v := nI (nDl N))
          exact ⟨ν4, by rw [e3, obs, q3.g_dl, e4]; rfl, q4⟩
        · simp only [if_neg c3]
          obtain ⟨ν3, e3, q3⟩ := R_open q2 ql
          exact ⟨ν3, by rw [e3]; rfl, q3⟩
      · rw [Bool.eq_false_iff.mpr c2, if_pos (show (!false) = true from rfl), if_neg (by decide)]
        exact ⟨_, rfl, q2⟩) (by
    intro ν1 q1
    show f12_waits_L1 m (nI b) (nI (6 * b + nP N b)) ν1 = _
    unfold f12_waits_L1
    rw [q1.g_p hb, obs, pl_add, obs, clt_nI (by omega) (by omega), decide_eq_false (by omega), if_neg (by decide)]) (by omega) q
  have e0 : f12_placeOf (nI b) 0 ν = some (nI (6 * b + 0)) := pl_add b 0
  unfold f12_waits
  rw [e0, obs]
  exact ⟨ν1, zb_lp e1, q1⟩
theorem R_forgets (q : MS N m B ν0 ν S) (hb : b < nB N) : ∃ ν', f12_forgets m (nI b) ν = some ν' ∧ MS N m B ν0 ν' (sp_ages N b S) := by
  have nw := q.nw
  have hb8 := nw.b_8 hb
  have h8 := nw.h8
  obtain ⟨ν1, e1, q1⟩ := lp (Q := MS N m B ν0) (body := fun s => f12_forgets_L1 m (nI b) s.1 s.2) nI (sp_age1 N b (!(ceq (S 27 b) 0))) (nH N) (S := S) (μ := ν) (x0 := 0) (by
    intro i ν1 hi q1
    have on1 : only (fun f _ => f = 42 ∨ f = 43) S (pfold (sp_age1 N b (!(ceq (S 27 b) 0))) i S) := only.pf (fun h S hh => by
      unfold sp_age1
      exact only.it (fun _ => only.rf) (fun _ => only.it (fun _ => (onz (Or.inr rfl)).zu (Or.inl rfl)) (fun _ => onz (Or.inr rfl))))
    have s27 := on1 27 b (by omega)
    generalize hsh : (!(ceq (S 27 b) 0)) = sh at *
    generalize pfold (sp_age1 N b sh) i S = S1 at *
    show ∃ ν', f12_forgets_L1 m (nI b) (nI i) ν1 = some (.inl (nI (i + 1), ν')) ∧ _
    unfold f12_forgets_L1 sp_age1
    rw [q1.g_h, clt_nI (by omega) (by omega), decide_eq_true hi, if_pos rfl, adAt, obs, q1.a_ hb hi, obs]
    by_cases c : ceq (S1 42 (b * 8 + i)) (-1) = true
    · simp only [if_pos c]
      exact ⟨_, by rw [obs, nI_1], q1⟩
    · simp only [if_neg c, nI_1]
      obtain ⟨ν2, e2, q2⟩ := q1.pg hb hi (v := S1 43 (b * 8 + i) + 1)
      have e43 : zu S1 43 (b * 8 + i) (S1 43 (b * 8 + i) + 1) 43 (b * 8 + i) = S1 43 (b * 8 + i) + 1 := if_pos ⟨rfl, rfl⟩
      have e27 : zu S1 43 (b * 8 + i) (S1 43 (b * 8 + i) + 1) 27 b = S 27 b := s27
      rw [q1.ag_ hb hi, obs, e2, obs]
      simp only [q2.ag_ hb hi, obs, e43, q2.b7 hb, e27, hsh, q2.g_dl, zand, zor]
      by_cases c2 : (!(clt (S1 43 (b * 8 + i) + 1) 30) || (sh && clt (nI (nDl N)) (S1 43 (b * 8 + i) + 1))) = true
      · simp only [if_pos c2]
        obtain ⟨ν3, e3, q3⟩ := q2.pa hb hi (v := -1) (Or.inl rfl)
        exact ⟨ν3, by rw [e3]; rfl, q3⟩
      · simp only [if_neg c2]
        exact ⟨_, rfl, q2⟩) (by
    intro ν1 q1
    show f12_forgets_L1 m (nI b) (nI (nH N)) ν1 = _
    unfold f12_forgets_L1
    rw [q1.g_h, clt_nI (by omega) (by omega), decide_eq_false (by omega), if_neg (by decide)]) (by omega) q
  unfold f12_forgets
  refine ⟨ν1, zb_lp e1, ?_⟩
  unfold sp_ages
  rw [pf_ext h8 (fun i h1 h2 => ?_)]
  · exact q1
  · have hx := q1.1.2.2.2.2.2.2.2.1 b i hb h1 h2
    generalize pfold (sp_age1 N b (!(ceq (S 27 b) 0))) (nH N) S = S1 at *
    unfold sp_age1
    rw [hx, if_pos (by rfl)]
end zR6
