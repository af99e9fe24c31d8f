/-! A BRIDGE COMES BACK: the reference's loops -/
def g28 (b i : Nat) (S : zS) : zS := if i < 4 then S else zu S (23 + i) b 0
def g38 (b i : Nat) (S : zS) : zS := zu S 38 i (bI (decide (i = b)))
section zR33
variable {N : zN} {m B : Nat} {ν0 ν ν' : zM} {S S0 S' X R : zS} {e e1 e2 b a l h k n t st f i : Nat}
theorem MS.w_b0 (q : MS N m B ν0 ν S) (hb : b < nB N) (hk : 3 ≤ k) (hk2 : k ≤ 6) {v : Int32} (h32 : S 32 b ≠ 1) : MS N m B ν0 (sA ν (m + 24) (B + (4 + 12 * b + k)) v) S := by
  have b8 := q.nw.b8
  have l14 := q.nw.l14
  have h8 := q.nw.h8
  have g : ∀ k', k' ≠ 4 + 12 * b + k → rw_ m B (sA ν (m + 24) (B + (4 + 12 * b + k)) v) k' = rw_ m B ν k' := fun k' hk' => by rw [rw_w _ _ _ _ _ _ (by omega), if_neg hk']
  obtain ⟨⟨m1, m2, m3, m4, m5, m6, m7, m8, m9, m10, mw, m11⟩, hso, hmt, hfr⟩ := q
  have nw := hmt.1
  refine ⟨⟨?_, m2, ?_, m4, ?_, ?_, ?_, m8, ?_, ?_, ?_, ?_⟩, hso, hmt, hfr.wA (by omega)⟩
  · intro e' k' he' hk' hh
    have hp' := nw.pl_48 he'
    rw [g _ (by omega)]; exact m1 e' k' he' hk' hh
  · intro b' k' hb' hk' hc
    have h1 := nw.b_8 hb'
    by_cases x : k' = k ∧ b' = b
    · have y := hc (by omega) (by omega)
      rw [x.2] at y
      exact absurd y h32
    · rw [g _ (by omega)]; exact m3 b' k' hb' hk' hc
  · intro l' hl'; rw [g _ (by omega)]; exact m5 l' hl'
  · intro h' hh'; rw [g _ (by omega)]; exact m6 h' hh'
  · intro b' h' hb' hh'; have := nw.b_8 hb'; rw [g _ (by omega), g _ (by omega)]; exact m7 b' h' hb' hh'
  · rw [g _ (by omega), g _ (by omega)]; exact m9
  · obtain ⟨t, t1, t2, t3⟩ := m10
    refine ⟨t, t1, by rw [g _ (by omega)]; exact t2, fun hb => ?_⟩
    obtain ⟨t4, t5⟩ := t3 hb
    exact ⟨t4, fun k hk => by rw [g _ (by omega)]; exact t5 k hk⟩
  · exact ⟨fun k hk => by rw [g _ (by omega)]; exact mw.1 k hk, fun b hb => by rw [g _ (by omega)]; exact mw.2 b hb⟩
  · exact m11.keep (g _ (by omega)) (fun k hk => g _ (by omega)) (fun c q h1 h2 _ => rfl)
theorem MS.w_32 (q : MS N m B ν0 ν S) : MS N m B ν0 ν (zu S 32 b 0) := by
  have b8 := q.nw.b8
  have z : ∀ f i, f ≠ 32 → zu S 32 b 0 f i = S f i := fun f i hf => if_neg (fun x => hf x.1)
  obtain ⟨⟨m1, m2, m3, m4, m5, m6, m7, m8, m9, m10, mw, m11⟩, hso, hmt, hfr⟩ := q
  have nw := hmt.1
  refine ⟨⟨?_, ?_, ?_, m4, m5, m6, m7, m8, m9, m10, mw, ?_⟩, hso, hmt, hfr⟩
  · intro e' k' he' hk' hh
    rw [z 10 _ (by omega)] at hh
    rw [z _ _ (by omega)]; exact m1 e' k' he' hk' hh
  · intro e' k' he' h4 h5
    rw [z _ _ (by omega)]; exact m2 e' k' he' h4 h5
  · intro b' k' hb' hk' hc
    rw [z _ _ (by omega)]
    refine m3 b' k' hb' hk' (fun h1 h2 => ?_)
    have := hc h1 h2
    rw [zu_eq] at this
    by_cases c : b' = b
    · rw [if_pos c] at this; exact absurd this (by decide)
    · rw [if_neg c] at this; exact this
  · exact m11.keep rfl (fun k hk => rfl) (fun c q h1 h2 _ => z _ _ (by omega))
theorem g28_f : ∀ n, n ≤ 8 → pfold (g28 b) n S f i = if i = b ∧ 27 ≤ f ∧ f < 23 + n then 0 else S f i
  | 0, _ => (if_neg (by omega)).symm
  | n + 1, hn => by
    show g28 b n (pfold (g28 b) n S) f i = _
    have ih := g28_f n (by omega)
    unfold g28
    by_cases c : n < 4
    · rw [if_pos c]
      show pfold (g28 b) n S f i = _
      rw [ih, if_neg (by omega), if_neg (by omega)]
    · rw [if_neg c]
      show zu (pfold (g28 b) n S) (23 + n) b 0 f i = _
      unfold zu
      by_cases c2 : f = 23 + n ∧ i = b
      · rw [if_pos c2, if_pos (by omega)]
      · rw [if_neg c2, ih]
        by_cases c3 : i = b ∧ 27 ≤ f ∧ f < 23 + n
        · rw [if_pos c3, if_pos (by omega)]
        · rw [if_neg c3, if_neg (by omega)]
theorem g38_f : ∀ n, pfold (g38 b) n S f i = if f = 38 ∧ i < n then bI (decide (i = b)) else S f i
  | 0 => (if_neg (by omega)).symm
  | n + 1 => by
    show zu (pfold (g38 b) n S) 38 n (bI (decide (n = b))) f i = _
    unfold zu
    rw [g38_f n]
    by_cases c : f = 38 ∧ i = n
    · rw [if_pos c, if_pos (by omega), c.2]
    · rw [if_neg c]
      by_cases c2 : f = 38 ∧ i < n
      · rw [if_pos c2, if_pos (by omega)]
      · rw [if_neg c2, if_neg (by omega)]
theorem R_on1 (q : MS N m B ν0 ν S) (hb : b < nB N) (h32 : S 32 b = 0) : ∃ ν', zloop (fun s => f12_isBackOn_L1 m (nI b) s.1 s.2) 1000000 (3, ν) = some (nI 11, ν') ∧ MS N m B ν0 ν' (pfold (g28 b) 8 S) :=
  lp (Q := MS N m B ν0) (body := fun s => f12_isBackOn_L1 m (nI b) s.1 s.2) (fun i => nI (3 + i)) (g28 b) 8 (S := S) (μ := ν) (x0 := 3) (by
    intro i ν1 hi q1
    have b8 := q1.nw.b8
    show ∃ ν', f12_isBackOn_L1 m (nI b) (nI (3 + i)) ν1 = some (.inl (nI (3 + (i + 1)), ν')) ∧ _
    have z : pfold (g28 b) i S 32 b = 0 := by rw [g28_f i (by omega), if_neg (by omega)]; exact h32
    generalize pfold (g28 b) i S = S1 at *
    have e0 : clt 10 (nI (3 + i)) = false := by
      show clt (nI 10) (nI (3 + i)) = false
      rw [clt_nI (by omega) (by omega)]; exact decide_eq_false (by omega)
    unfold f12_isBackOn_L1 g28
    rw [e0, if_neg (by decide), bAt, obs, q1.puts (by omega), obs, obs, nI_1]
    refine ⟨_, rfl, ?_⟩
    by_cases c : i < 4
    · rw [if_pos c]
      exact q1.w_b0 hb (by omega) (by omega) (by rw [z]; decide)
    · rw [if_neg c, show 23 + i = 20 + (3 + i) by omega]
      exact q1.w_b hb (by omega) (by omega) (fun x => by omega)) (by
    intro ν1 q1
    rfl) (by omega) q (h0 := rfl)
theorem R_on2 (q : MS N m B ν0 ν S) (hb : b < nB N) : ∃ ν', zloop (fun s => f12_isBackOn_L2 m (nI b) s.1 s.2) 1000000 (0, ν) = some (nI 8, ν') ∧ MS N m B ν0 ν' (pfold (g38 b) 8 S) :=
  lp (Q := MS N m B ν0) (body := fun s => f12_isBackOn_L2 m (nI b) s.1 s.2) nI (g38 b) 8 (S := S) (μ := ν) (x0 := 0) (by
    intro i ν1 hi q1
    have b8 := q1.nw.b8
    generalize pfold (g38 b) i S = S1 at *
    show ∃ ν', f12_isBackOn_L2 m (nI b) (nI i) ν1 = some (.inl (nI (i + 1), ν')) ∧ _
    obtain ⟨e2, q2⟩ := q1.w_con (v := bI (decide (i = b))) hi
    have e3 : (if ceq (nI i) (nI b) = true then (some (1 : Int32)) else (some 0)) = some (bI (decide (i = b))) := by
      rw [ceq_nI (by omega) (by omega)]
      cases decide (i = b) <;> rfl
    unfold f12_isBackOn_L2
    rw [cltR8 (by omega), decide_eq_true hi, if_pos rfl, e3, obs, e2, obs, obs, nI_1]
    exact ⟨_, rfl, q2⟩) (by
    intro ν1 q1
    rfl) (by omega) q
theorem R_on3 (q : MS N m B ν0 ν S) (hb : b < nB N) (hl : l < nL N) : ∃ ν', f12_isBackOn_L3 m (nI b) (nI l) ν = some (.inl (nI (l + 1), ν')) ∧ MS N m B ν0 ν' (rq_on1 N b l S) := by
  have nw := q.nw
  have b8 := nw.b8; have l14 := nw.l14
  have x0 := nw.bo_b (show 2 * l < 2 * nL N by omega)
  have x1 := nw.bo_b (show 2 * l + 1 < 2 * nL N by omega)
  have hc : (((f12_isUpLink m (nI l) ν).bind fun t36 => some (!t36)).bind fun b32 => if b32 = true then (some true) else (((rA ν (m + 4) 56 (4 * nI l)).bind fun t35 => some (!(ceq t35 (nI b)))).bind fun b33 => if b33 = true then ((rA ν (m + 4) 56 ((4 * nI l) + 2)).bind fun t34 => some (!(ceq t34 (nI b)))) else (some false))) = some (!(atb N b l S)) := by
    rw [q.upl_ hl, obs, obs, q.ends0 hl, obs, obs, q.ends2 hl, obs, ceq_nI (by omega) (by omega), ceq_nI (by omega) (by omega)]
    unfold atb
    cases upl N S l <;> cases decide (bo N (2 * l) = b) <;> cases decide (bo N (2 * l + 1) = b) <;> rfl
  unfold f12_isBackOn_L3 rq_on1
  rw [q.g_l, clt_nI (by omega) (by omega), decide_eq_true hl, if_pos rfl, hc, obs]
  cases c : atb N b l S with
  | false =>
    rw [if_pos (show (!false) = true from rfl), obs, nI_1, if_neg (by decide)]
    exact ⟨ν, rfl, q⟩
  | true =>
    rw [if_neg (show ¬ (!true) = true by decide), if_pos rfl]
    obtain ⟨e1, q1⟩ := q.w_con (v := 1) (show bo N (2 * l) < 8 by omega)
    obtain ⟨e2, q2⟩ := q1.w_con (v := 1) (show bo N (2 * l + 1) < 8 by omega)
    obtain ⟨ν3, e3, q3⟩ := R_come q2 (show 2 * l < 2 * nL N by omega)
    obtain ⟨ν4, e4, q4⟩ := R_come q3 (show 2 * l + 1 < 2 * nL N by omega)
    rw [q.ends0 hl, obs, e1, obs, q1.ends2 hl, obs, e2, obs, q2.poe0 hl, obs, e3, obs, q3.poe1 hl, obs, e4, obs, obs, nI_1]
    exact ⟨ν4, rfl, q4⟩
theorem R_on3s (q : MS N m B ν0 ν S) (hb : b < nB N) : ∃ ν', zloop (fun s => f12_isBackOn_L3 m (nI b) s.1 s.2) 1000000 (0, ν) = some (nI (nL N), ν') ∧ MS N m B ν0 ν' (pfold (rq_on1 N b) (nL N) S) := by
  have l14 := q.nw.l14
  exact lp (Q := MS N m B ν0) (body := fun s => f12_isBackOn_L3 m (nI b) s.1 s.2) nI (rq_on1 N b) (nL N) (S := S) (μ := ν) (x0 := 0) (fun i ν1 hi q1 => R_on3 q1 hb hi) (by
    intro ν1 q1
    show f12_isBackOn_L3 m (nI b) (nI (nL N)) ν1 = _
    unfold f12_isBackOn_L3
    rw [q1.g_l, clt_nI (by omega) (by omega), decide_eq_false (by omega), if_neg (by decide)]) (by omega) q
end zR33
