/-! REFERENCE: a step, whole; SPEC: what holds from step to step -/
/-- addresses are at ports that are up -/
def AD (N : zN) (S : zS) : Prop := ∀ b h p, b < nB N → h < 8 → p < nP N b → S 42 (b * 8 + h) = nI p → up N S (eo N b p) = true
def INV (N : zN) (st : Nat) (S : zS) : Prop := INV0 N S ∧ MI N st S ∧ AD N S
section zR16
variable {N : zN} {m B : Nat} {ν0 ν ν' : zM} {S S' : zS} {R R' : Nat → Int32} {e b l h k n n' t P st i : Nat}
/-- the state while all speak -/
def SY (N : zN) (st n : Nat) (S S' : zS) : Prop := INV0 N S' ∧ MI3 N st n S' ∧ only XG S S'
theorem SY.step (nw : NW N) (hb : b < nB N) (hi : i < nP N b) (h : SY N st (6 * b + i) S S') : SY N st (6 * b + (i + 1)) S (sp_speak N st (eo N b i) S') := by
  obtain ⟨h1, h2, h3⟩ := h
  have ql := nw.eo_l hb hi
  have hpl := nw.pl_eo hb hi
  refine ⟨h1.speak nw ql, ?_, h3.tr speak_g⟩
  rw [← hpl] at h2
  have := h2.speak nw ql h1.2.1
  rw [hpl] at this
  exact this
theorem SY.in (nw : NW N) (hb : b < nB N) (h : SY N st (6 * b) S S') : ∀ i, i ≤ nP N b → SY N st (6 * b + i) S (pfold (fun p S => sp_speak N st (eo N b p) S) i S')
  | 0, _ => h
  | i + 1, hi => (SY.in nw hb h i (by omega)).step nw hb (by omega)
theorem SY.out (nw : NW N) (h : SY N st 0 S S) : ∀ b, b ≤ nB N → SY N st (6 * b) S (pfold (fun b S => pfold (fun p S => sp_speak N st (eo N b p) S) (nP N b) S) b S)
  | 0, _ => h
  | b + 1, hb => by
    have ih := SY.out nw h b (by omega)
    obtain ⟨h1, h2, h3⟩ := SY.in nw (show b < nB N by omega) ih (nP N b) (Nat.le_refl _)
    have p6 := nw.p6 (show b < nB N by omega)
    exact ⟨h1, h2.mono (by omega), h3⟩
theorem R_says (q : MS N m B ν0 ν S) (hst : S 44 0 = nI st) (hs : st < 2 ^ 30) (h0 : SY N st 0 S S) : ∃ ν', zloop (fun s => f12_steps_L1 m s.1 s.2) 1000000 (0, ν) = some (nI (nB N), ν') ∧ MS N m B ν0 ν' (sp_says N st S) := by
  have nw := q.nw
  have b8 := nw.b8
  refine lp (Q := MS N m B ν0) nI _ (nB N) ?_ ?_ (by omega) q
  · intro b ν1 hb q1
    have sy := SY.out nw h0 b (by omega)
    generalize pfold (fun b S => pfold (fun p S => sp_speak N st (eo N b p) S) (nP N b) S) b S = S1 at *
    have hp6 := nw.p6 hb
    have hb8 := nw.b_8 hb
    obtain ⟨ν2, e2, q2⟩ := lp (Q := MS N m B ν0) (body := fun s => f12_steps_L2 m (nI b) s.1 s.2) (fun i => nI (6 * b + i)) (fun p S => sp_speak N st (eo N b p) S) (nP N b) (S := S1) (μ := ν1) (x0 := nI (6 * b + 0)) (by
      intro i ν2 hi q2
      have sy2 := SY.in nw hb sy i (by omega)
      generalize pfold (fun p S => sp_speak N st (eo N b p) S) i S1 = S2 at *
      have ql := nw.eo_l hb hi
      have hpl := nw.pl_eo hb hi
      have hinc : nI (pl N (eo N b i)) + 1 = nI (6 * b + (i + 1)) := by rw [nw.pl_eo hb hi, nI_1]; rfl
      have s44 : S2 44 0 = nI st := (sy2.2.2 44 0 (by unfold XG; omega)).trans hst
      show ∃ ν', f12_steps_L2 m (nI b) (nI (6 * b + i)) ν2 = some (.inl (nI (6 * b + (i + 1)), ν')) ∧ MS N m B ν0 ν' (sp_speak N st (eo N b i) S2)
      unfold f12_steps_L2
      rw [q2.g_p hb, obs, pl_add, obs, clt_nI (by omega) (by omega), decide_eq_true (show 6 * b + i < 6 * b + nP N b by omega), if_pos rfl, plE nw hb hi]
      simp only [q2.p9 ql, q2.up_ ql, obs, hinc, zand]
      by_cases c : ceq (S2 9 (eo N b i)) 1 = true
      · have hu : up N S2 (eo N b i) = true := by
          cases hx : up N S2 (eo N b i) with
          | true => rfl
          | false => rw [sy2.1.2.1 _ ql hx 9 (by omega)] at c; exact absurd c (by decide)
        rw [c, hu, if_pos (show (true && true) = true from rfl)]
        obtain ⟨ν3, e3, q3⟩ := R_sends q2 ql s44 hs sy2.1 (by rw [hpl]; exact sy2.2.1) c
        exact ⟨ν3, by rw [e3]; rfl, q3⟩
      · rw [Bool.eq_false_iff.mpr c, Bool.false_and, if_neg (by decide)]
        refine ⟨_, rfl, ?_⟩
        unfold sp_speak
        rw [if_neg c]; exact q2) (by
      intro ν2 q2
      show f12_steps_L2 m (nI b) (nI (6 * b + nP N b)) ν2 = _
      unfold f12_steps_L2
      rw [q2.g_p hb, obs, pl_add, obs, clt_nI (by omega) (by omega), decide_eq_false (by omega), if_neg (by decide)]) (by omega) q1
    refine ⟨ν2, ?_, q2⟩
    show f12_steps_L1 m (nI b) ν1 = some (.inl (nI (b + 1), ν2))
    have e0 : f12_placeOf (nI b) 0 ν1 = some (nI (6 * b + 0)) := pl_add b 0
    unfold f12_steps_L1
    rw [q1.g_b, clt_nI (by omega) (by omega), decide_eq_true hb, if_pos rfl, e0, obs, zb_lp e2, obs, nI_1]
  · intro ν1 q1
    show f12_steps_L1 m (nI (nB N)) ν1 = _
    unfold f12_steps_L1
    rw [q1.g_b, clt_nI (by omega) (by omega), decide_eq_false (by omega), if_neg (by decide)]
theorem ticks_ok (nw : NW N) (hi : INV0 N S) : ∀ n, n ≤ nB N → OK N S (pfold (fun b S => if ceq (S 20 b) 1 = true then sp_tick N b S else S) n S)
  | 0, _ => OK.rf
  | n + 1, hn => by
    have ih := ticks_ok nw hi n (by omega)
    have ii := ticks_i nw hi n (by omega)
    rw [pf_s]
    generalize pfold (fun b S => if ceq (S 20 b) 1 = true then sp_tick N b S else S) n S = S1 at *
    exact ih.tr (OK.it (fun _ => tick_k nw (by omega) ii.1 ii.2.1) (fun _ => OK.rf))
theorem MI.ok (h : MI N st S) (k : OK N S S') : MI N st S' := fun q hq => by
  rw [k.2.2.2.2 60 q (by omega) (by omega), k.2.2.2.2 61 q (by omega) (by omega), k.2.2.2.2 50 q (by omega) (by omega), up_eq k.1]
  exact h q hq
theorem AD.of (nw : NW N) (h : AD N S) (h42 : ∀ i, S' 42 i = S 42 i ∨ S' 42 i = -1) (hx : only XG S S') : AD N S' := fun b h1 p hb hh hp hx' => by
  rw [up_eq hx]
  rcases h42 (b * 8 + h1) with x | x
  · exact h b h1 p hb hh hp (by rw [← x]; exact hx')
  · rw [x] at hx'
    exfalso
    have h3 : (-1 : Int32).toInt = -1 := by decide
    have := (congrArg Int32.toInt hx').symm
    rw [h3] at this
    have p6 := nw.p6 hb
    rw [nI_toInt (by omega)] at this; omega
theorem arr_42 (nw : NW N) (hi : INV0 N S) (hm : MI N st S) : ∀ n, n ≤ 6 * nB N → ∀ i, pfold (sp_arrP N st) n S 42 i = S 42 i ∨ pfold (sp_arrP N st) n S 42 i = -1
  | 0, _, i => Or.inl rfl
  | n + 1, hn, i => by
    have ai := AI.all nw hi hm n (by omega)
    have ih := arr_42 nw hi hm n (by omega) i
    rw [pf_s]
    generalize pfold (sp_arrP N st) n S = S1 at *
    obtain ⟨a1, a2, a3, a4⟩ := ai
    unfold sp_arrP
    by_cases c : n % 6 < nP N (n / 6)
    · rw [if_pos c]
      unfold sp_arr1
      have hb : n / 6 < nB N := by omega
      have ql := nw.eo_l hb c
      have hpl := nw.pl_eo hb c
      have sd := slot_d (eo N (n / 6) (n % 6)) st
      have t6 : slot (eo N (n / 6) (n % 6)) st < 6 * nL N := by unfold slot; omega
      have e60 : S1 60 (slot (eo N (n / 6) (n % 6)) st) = S 60 (slot (eo N (n / 6) (n % 6)) st) := a4 _ (by rw [sd.1, hpl]; omega)
      by_cases c2 : ceq (S1 60 (slot (eo N (n / 6) (n % 6)) st)) 1 = true
      · rw [if_pos c2]
        have hu := ((hm _ t6).2.2 (by rw [← e60]; exact ceq_of c2)).1
        rw [sd.1] at hu
        have hu' : up N (zu S1 60 (slot (eo N (n / 6) (n % 6)) st) 0) (eo N (n / 6) (n % 6)) = true := by
          rw [show up N (zu S1 60 (slot (eo N (n / 6) (n % 6)) st) 0) (eo N (n / 6) (n % 6)) = up N S1 (eo N (n / 6) (n % 6)) from rfl, up_eq a2]; exact hu
        have hi' := (a1.z60 (v := 0) (i := slot (eo N (n / 6) (n % 6)) st))
        have kk := read_k (q := slot (eo N (n / 6) (n % 6)) st) nw ql hu' hi'.2.1
        rcases kk.2.2.2.1 i with x | x
        · rw [x]; exact ih
        · exact Or.inr x
      · rw [if_neg c2]; exact ih
    · rw [if_neg c]; exact ih
theorem R_steps (q : MS N m B ν0 ν S) (hst : S 44 0 = nI st) (hs : st < 2 ^ 30) (hi : INV0 N S) (hm : MI N st S) : ∃ ν', f12_steps m ν = some ν' ∧ MS N m B ν0 ν' (sp_step N st S) := by
  have nw := q.nw
  have h0 : ∃ ν1, (if decide (st % 8 = 0) = true then ((f12_ticks m ν).bind fun μ26 => some μ26) else (some ν)) = some ν1 ∧ MS N m B ν0 ν1 (if st % 8 = 0 then sp_ticks N S else S) := by
    by_cases c : st % 8 = 0
    · rw [if_pos (decide_eq_true c), if_pos c]
      obtain ⟨ν1, e1, q1⟩ := R_ticks q hi
      exact ⟨ν1, by rw [e1]; rfl, q1⟩
    · rw [if_neg (by rw [decide_eq_false c]; decide), if_neg c]
      exact ⟨_, rfl, q⟩
  obtain ⟨ν1, e1, q1⟩ := h0
  have k1 : OK N S (if st % 8 = 0 then sp_ticks N S else S) := OK.it (fun _ => ticks_ok nw hi _ (Nat.le_refl _)) (fun _ => OK.rf)
  have i1 : INV0 N (if st % 8 = 0 then sp_ticks N S else S) := by
    split
    · exact ticks_i nw hi _ (Nat.le_refl _)
    · exact hi
  have m1 := hm.ok k1
  have s1 := (k1.1 44 0 (by unfold XG; omega)).trans hst
  unfold sp_step
  generalize (if st % 8 = 0 then sp_ticks N S else S) = S1 at *
  obtain ⟨ν2, e2, q2⟩ := R_arrive q1 i1 m1 s1 hs
  obtain ⟨i2, m2⟩ := arr_mi2 nw i1 m1
  have s2 : sp_drop st (sp_arr N st S1) 44 0 = nI st := (drop_f (by omega)).trans (((arr_g nw) 44 0 (by unfold XG; omega)).trans s1)
  have sy : SY N st 0 (sp_drop st (sp_arr N st S1)) (sp_drop st (sp_arr N st S1)) := ⟨i2, fun q hq => by
    obtain ⟨x1, x2, x3⟩ := m2 q hq
    refine ⟨x1, x2, fun x => ?_⟩
    obtain ⟨_, u, a, a1, a2, a3, a4⟩ := x3 x
    exact ⟨u, a, a1, a2, a4, Or.inl a3⟩, only.rf⟩
  obtain ⟨ν3, e3, q3⟩ := R_says q2 s2 hs sy
  have s3 : sp_says N st (sp_drop st (sp_arr N st S1)) 44 0 = nI st := (says_g 44 0 (by unfold XG; omega)).trans s2
  have g0 := q.stp
  have g3 := q3.stp
  rw [hst] at g0
  rw [s3] at g3
  have e4 : f12_puts m 0 (nI (st + 1)) ν3 = some (sA ν3 (m + 24) (B + 0) (nI (st + 1))) := q3.puts (k := 0) (by omega)
  unfold f12_steps
  rw [g0, obs, iRemR8 (by omega), obs, ceqR0 (by omega), e1, obs, e2, obs, zb_lp e3, g3, obs, nI_1, e4, obs]
  exact ⟨_, rfl, q3.w_s⟩
theorem step_inv (nw : NW N) (hi : INV N st S) : INV N (st + 1) (sp_step N st S) := by
  obtain ⟨h1, h2, h3⟩ := hi
  have k1 : OK N S (if st % 8 = 0 then sp_ticks N S else S) := OK.it (fun _ => ticks_ok nw h1 _ (Nat.le_refl _)) (fun _ => OK.rf)
  have i1 : INV0 N (if st % 8 = 0 then sp_ticks N S else S) := by
    split
    · exact ticks_i nw h1 _ (Nat.le_refl _)
    · exact h1
  have m1 := h2.ok k1
  have a1 : AD N (if st % 8 = 0 then sp_ticks N S else S) := h3.of nw k1.2.2.2.1 k1.1
  unfold sp_step
  generalize (if st % 8 = 0 then sp_ticks N S else S) = S1 at *
  obtain ⟨i2, m2⟩ := arr_mi2 nw i1 m1
  have a2 : AD N (sp_drop st (sp_arr N st S1)) := by
    refine a1.of nw (fun i => ?_) ((arr_g nw).tr drop_g)
    rw [drop_f (by omega), ← arrP_e nw]
    exact arr_42 nw i1 m1 _ (Nat.le_refl _) i
  have sy : SY N st 0 (sp_drop st (sp_arr N st S1)) (sp_drop st (sp_arr N st S1)) := ⟨i2, fun q hq => by
    obtain ⟨x1, x2, x3⟩ := m2 q hq
    refine ⟨x1, x2, fun x => ?_⟩
    obtain ⟨_, u, a, a1, a2, a3, a4⟩ := x3 x
    exact ⟨u, a, a1, a2, a4, Or.inl a3⟩, only.rf⟩
  obtain ⟨i3, m3, g3⟩ := SY.out nw sy (nB N) (Nat.le_refl _)
  have s42 : ∀ i, sp_says N st (sp_drop st (sp_arr N st S1)) 42 i = sp_drop st (sp_arr N st S1) 42 i := fun i => (only.pf (X := fun f _ => ¬ (f < 50 ∧ f ≠ 7 ∧ f ≠ 8 ∧ f ≠ 9)) (fun b S hb => only.pf (fun p S hp f i h => speak_f (by omega) (by omega) (by omega) (by omega)))) 42 i (by omega)
  have e3 : pfold (fun b S => pfold (fun p S => sp_speak N st (eo N b p) S) (nP N b) S) (nB N) (sp_drop st (sp_arr N st S1)) = sp_says N st (sp_drop st (sp_arr N st S1)) := rfl
  rw [e3] at i3 m3 g3
  have a3 : AD N (sp_says N st (sp_drop st (sp_arr N st S1))) := a2.of nw (fun i => Or.inl (s42 i)) g3
  generalize sp_says N st (sp_drop st (sp_arr N st S1)) = S3 at *
  have z : ∀ f i, f ≠ 44 → zu S3 44 0 (nI (st + 1)) f i = S3 f i := fun f i hf => if_neg (fun x => hf x.1)
  have hup : ∀ e, up N (zu S3 44 0 (nI (st + 1))) e = up N S3 e := fun e => rfl
  refine ⟨⟨fun i => i3.1 i, fun e he hu k hk => (z k e (by omega)).trans (i3.2.1 e he hu k hk), fun b hb ho => (i3.2.2 b hb ho).keep (fun f i hf _ => z f i (by omega)) (fun f hf => z f b (by omega)) hup⟩, fun q hq => ?_, a3⟩
  rw [z _ _ (by omega), z _ _ (by omega), z _ _ (by omega), hup]
  obtain ⟨x1, x2, x3⟩ := m3 q hq
  refine ⟨x1, x2, fun x => ?_⟩
  obtain ⟨u, a, a1, a2, a4, a5⟩ := x3 x
  exact ⟨u, a, a1, by omega, by omega, a4⟩
end zR16
